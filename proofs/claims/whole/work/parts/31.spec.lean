/-! the words of the document over plain rows: D voters, B the bar, places -/
abbrev Dt : Type := Nat × (Nat → Int32) × (Nat → Int32) × (Nat → Int32) × (Nat → Int32) × (Nat → Int32) × (Nat → Int32)
abbrev Bt : Type := Int32 × Int32 × Int32
abbrev Pq : Type := Nat × (Nat → Int32) × (Nat → Int32)
def wy (ms dx dy : Int32) : Int32 := if ms = 0 then dx * dx + dy * dy else if ms = 1 then dx + dy else if ms = 2 then imax dx dy else dx
def wayF (D : Dt) (v : Nat) (fx fy tx ty : Int32) : Int32 := wy (D.2.2.2.2.1 v) (iabs (tx - fx) * D.2.2.2.2.2.1 v) (iabs (ty - fy) * D.2.2.2.2.2.2 v)
def wayT (D : Dt) (v : Nat) (tx ty : Int32) : Int32 := wayF D v (D.2.1 v) (D.2.2.1 v) tx ty
def forD (D : Dt) (x y ox oy : Int32) : Int32 := fd (fun v acc => if wayT D v x y < wayT D v ox oy then acc + D.2.2.2.1 v else acc) 0 D.1
def totD (D : Dt) : Int32 := fd (fun v acc => acc + D.2.2.2.1 v) 0 D.1
def wonD (B : Bt) (tot yes no : Int32) : Bool := if B.1 = 0 then decide (no < yes) else if B.1 = 1 then decide (B.2.1 * tot < yes * B.2.2) else decide (B.2.1 * tot ≤ yes * B.2.2) && decide (no < yes)
def btD (D : Dt) (B : Bt) (x y ox oy : Int32) : Bool := wonD B (totD D) (forD D x y ox oy) (forD D ox oy x y)
/-- the reference's rows, the class's rows, the draft's -/
def rD (M : Mem) : Dt := (ix (M.1 73 0), M.1 50, M.1 53, M.1 56, M.1 59, M.1 62, M.1 65)
def cD (M : Mem) : Dt := (ix (M.1 1 0), M.1 2, M.1 3, M.1 4, M.1 5, M.1 6, M.1 7)
def rB (M : Mem) : Bt := (M.1 75 0, M.1 76 0, M.1 77 0)
def cB (M : Mem) : Bt := (M.1 1 11, M.1 1 12, M.1 1 13)
def rP (M : Mem) : Pq := (ix (M.1 74 0), M.1 68, M.1 71)
def cP (M : Mem) : Pq := (ix (M.1 1 8), M.1 8, M.1 9)
/-- an int that is a place below n -/
def inN (x : Int32) (n : Nat) : Bool := decide (0 ≤ x.toInt) && decide (x.toInt < n)
theorem inN_of {x : Int32} {n : Nat} (h : inN x n = true) (hn : n < 2147483648) : ∃ j, j < n ∧ x = nI j := by
  simp only [inN, Bool.and_eq_true, decide_eq_true_eq] at h
  exact vp_in_of (vp_in_iff.mpr h) hn
theorem inN_nI {j n : Nat} (h : j < n) (hn : n < 2147483648) : inN (nI j) n = true := by
  simp only [inN, Bool.and_eq_true, decide_eq_true_eq]
  rw [nI_toInt (by omega)]
  omega
def isPt (x y : Int32) : Bool := inN x 100 && inN y 100
theorem ixl0 : ix (0 : Int32) = 0 := rfl
theorem ixl1 : ix (1 : Int32) = 1 := rfl
theorem lg_lt (x y : Int64) : lg_cmp x y < 0 ↔ x < y := by
  unfold lg_cmp
  by_cases h : x > y
  · have : ¬ x < y := by rw [fa_lt64]; have := (fa_lt64 y x).mp h; omega
    simp [h, this]
  · by_cases h2 : x = y
    · subst h2; simp
    · have : x < y := by
        rw [fa_lt64]; have h3 : ¬ y.toInt < x.toInt := fun q => h ((fa_lt64 y x).mpr q)
        have h4 : x.toInt ≠ y.toInt := fun q => h2 ((fa_eq64 x y).mpr q)
        omega
      simp [h, h2, this]
theorem lg_gt (x y : Int64) : 0 < lg_cmp x y ↔ y < x := by
  unfold lg_cmp
  by_cases h : x > y
  · simp [h]
  · by_cases h2 : x = y
    · subst h2; simp
    · simp [h, h2]
theorem lg_le (x y : Int64) : lg_cmp x y ≤ 0 ↔ x ≤ y := by
  unfold lg_cmp
  by_cases h : x > y
  · have : ¬ x ≤ y := by rw [fa_le64]; have := (fa_lt64 y x).mp h; omega
    simp [h, this]
  · have : x ≤ y := by rw [fa_le64]; have h3 : ¬ y.toInt < x.toInt := fun q => h ((fa_lt64 y x).mpr q); omega
    by_cases h2 : x = y
    · subst h2; simp [this]
    · simp [h, h2, this]
theorem lg_eq (x y : Int64) : lg_cmp x y = 0 ↔ x = y := by
  unfold lg_cmp
  by_cases h : x > y
  · have : ¬ x = y := by rw [fa_eq64]; have := (fa_lt64 y x).mp h; omega
    simp [h, this]
  · by_cases h2 : x = y
    · subst h2; simp
    · simp [h, h2]
theorem e_in (M : Mem) (a b c : Int64) : fX11_in M a b c = some (bI (decide (b ≤ a) && decide (a ≤ c))) := by
  unfold fX11_in fX11_in_17 fX11_in_18
  by_cases h1 : a < b
  · rw [if_pos ((lg_lt a b).mpr h1)]
    have : ¬ b ≤ a := by rw [fa_le64]; have := (fa_lt64 a b).mp h1; omega
    simp [this, bI]
  · rw [if_neg (fun q => h1 ((lg_lt a b).mp q))]
    have hb : b ≤ a := by rw [fa_le64]; have h3 : ¬ a.toInt < b.toInt := fun q => h1 ((fa_lt64 a b).mpr q); omega
    by_cases h2 : c < a
    · rw [if_pos ((lg_gt a c).mpr h2)]
      have : ¬ a ≤ c := by rw [fa_le64]; have := (fa_lt64 c a).mp h2; omega
      simp [this, bI]
    · rw [if_neg (fun q => h2 ((lg_gt a c).mp q))]
      have hc : a ≤ c := by rw [fa_le64]; have h3 : ¬ c.toInt < a.toInt := fun q => h2 ((fa_lt64 c a).mpr q); omega
      simp [hb, hc, bI]
theorem e_voters (M : Mem) : fX11_voters M = some (M.1 73 0) := rfl
theorem e_places (M : Mem) : fX11_places M = some (M.1 74 0) := rfl
theorem inN_lit (x : Int32) {c : Int64} {k : Nat} (hc : c.toInt = (k : Int)) : (decide ((0 : Int64) ≤ x.toInt64) && decide (x.toInt64 ≤ c)) = inN x (k + 1) := by
  unfold inN
  have h1 : ((0 : Int64) ≤ x.toInt64) ↔ 0 ≤ x.toInt := by rw [fa_le64, Int32.toInt_toInt64]; rfl
  have h2 : (x.toInt64 ≤ c) ↔ x.toInt < ((k + 1 : Nat) : Int) := by rw [fa_le64, Int32.toInt_toInt64, hc]; omega
  simp only [h1, h2]
theorem e_isPoint (M : Mem) (x y : Int32) : fX11_isPoint M x y = some (bI (isPt x y)) := by
  unfold fX11_isPoint fX11_isPoint_28 fX11_isPoint_29
  simp only [e_in, Option.bind_some]
  rw [inN_lit x (k := 99) (by decide), inN_lit y (k := 99) (by decide)]
  unfold isPt
  cases h1 : inN x 100 <;> cases h2 : inN y 100 <;> simp [h1, h2, bI]
theorem e_isN (M : Mem) (x : Int32) {n : Nat} (hn : n ≤ 1000) : fX11_in M x.toInt64 0 (nI n - 1).toInt64 = some (bI (inN x n)) := by
  rw [e_in]
  have h0 : (nI n - 1).toInt64.toInt = (n : Int) - 1 := by
    rw [Int32.toInt_toInt64]
    exact pk_sub_toInt (a := n) (b := 1) (by omega) (by decide)
  unfold inN
  have h1 : ((0 : Int64) ≤ x.toInt64) ↔ 0 ≤ x.toInt := by rw [fa_le64, Int32.toInt_toInt64]; rfl
  have h2 : (x.toInt64 ≤ (nI n - 1).toInt64) ↔ x.toInt < (n : Int) := by rw [fa_le64, Int32.toInt_toInt64, h0]; omega
  simp only [h1, h2]
theorem e_isVoter (M : Mem) (x : Int32) {n : Nat} (h : M.1 73 0 = nI n) (hn : n ≤ 15) : fX11_isVoter M x = some (bI (inN x n)) := by
  unfold fX11_isVoter
  rw [e_voters, Option.bind_some, h, e_isN M x (by omega), Option.bind_some, bI_and]
theorem e_isPlace (M : Mem) (x : Int32) {n : Nat} (h : M.1 74 0 = nI n) (hn : n ≤ 20) : fX11_isPlace M x = some (bI (inN x n)) := by
  unfold fX11_isPlace
  rw [e_places, Option.bind_some, h, e_isN M x (by omega), Option.bind_some, bI_and]
theorem e_wayFrom (M : Mem) {v : Nat} (hv : v < 15) (fx fy x y : Int32) : fX11_wayFrom M (nI v) fx fy x y = some (wayF (rD M) v fx fy x y) := by
  unfold fX11_wayFrom
  have hi := inb_nI hv (by decide)
  simp only [hi, if_true, nx_eq, ix_nI (show v < 2147483648 by omega)]
  unfold wayF wy rD
  simp only
  split
  · rfl
  · split
    · rfl
    · split <;> rfl
theorem e_wayOf (M : Mem) {v : Nat} (hv : v < 15) (x y : Int32) : fX11_wayOf M (nI v) x y = some (wayT (rD M) v x y) := by
  unfold fX11_wayOf
  have hi := inb_nI hv (by decide)
  simp only [hi, if_true, ix_nI (show v < 2147483648 by omega), e_wayFrom M hv, Option.bind_some]
  rfl
theorem e_forOf (M : Mem) {n : Nat} (h : M.1 73 0 = nI n) (hn : n ≤ 15) (x y ox oy : Int32) : fX11_forOf M x y ox oy = some (forD (rD M) x y ox oy) := by
  unfold fX11_forOf
  have hD : (rD M).1 = n := by show ix (M.1 73 0) = n; rw [h]; exact ix_nI (by omega)
  have := (for_up (σ := Int32) (fun f i acc => fX11_forOf_6 M (fX11_forOf_55 M) f x y ox oy acc i) (fun acc => some acc) n
    (fun v acc => if wayT (rD M) v x y < wayT (rD M) v ox oy then acc + (rD M).2.2.2.1 v else acc) (fun _ _ => True) ?_ (fun _ _ _ _ => trivial) ?_ 0 trivial FU (FU_gt (by omega))).1
  · show fX11_forOf_6 M (fX11_forOf_55 M) FU x y ox oy 0 (nI 0) = _
    rw [this]
    unfold forD
    rw [hD]
  · intro f i s hi _
    show fX11_forOf_6 M (fX11_forOf_55 M) (f + 1) x y ox oy s (nI i) = _
    rw [fX11_forOf_6]
    simp only [e_voters, Option.bind_some, h, e_wayOf M (show i < 15 by omega)]
    rw [if_neg (nI_ge hi (by omega))]
    unfold fX11_forOf_49
    simp only [inb_nI (show i < 15 by omega) (by decide), if_true, nx_eq, ix_nI (show i < 2147483648 by omega), nI_s]
    by_cases hc : wayT (rD M) i x y < wayT (rD M) i ox oy
    · have : ¬ wayT (rD M) i ox oy ≤ wayT (rD M) i x y := by rw [fa_le]; have := (fa_lt _ _).mp hc; omega
      rw [if_neg this, if_pos hc]
      rfl
    · have : wayT (rD M) i ox oy ≤ wayT (rD M) i x y := fa_of_nlt hc
      rw [if_pos this, if_neg hc]
  · intro f s _
    show fX11_forOf_6 M (fX11_forOf_55 M) (f + 1) x y ox oy s (nI n) = _
    rw [fX11_forOf_6]
    simp only [e_voters, Option.bind_some, h]
    rw [if_pos (nI_le (Nat.le_refl n) (by omega))]
    rfl
theorem e_total (M : Mem) {n : Nat} (h : M.1 73 0 = nI n) (hn : n ≤ 15) : fX11_total M = some (totD (rD M)) := by
  unfold fX11_total
  have hD : (rD M).1 = n := by show ix (M.1 73 0) = n; rw [h]; exact ix_nI (by omega)
  have := (for_up (σ := Int32) (fun f i acc => fX11_total_4 M (fX11_total_29 M) f acc i) (fun acc => some acc) n
    (fun v acc => acc + (rD M).2.2.2.1 v) (fun _ _ => True) ?_ (fun _ _ _ _ => trivial) ?_ 0 trivial FU (FU_gt (by omega))).1
  · show fX11_total_4 M (fX11_total_29 M) FU 0 (nI 0) = _
    rw [this]
    unfold totD
    rw [hD]
  · intro f i s hi _
    show fX11_total_4 M (fX11_total_29 M) (f + 1) s (nI i) = _
    rw [fX11_total_4]
    simp only [e_voters, Option.bind_some, h]
    rw [if_neg (nI_ge hi (by omega))]
    simp only [inb_nI (show i < 15 by omega) (by decide), if_true, nx_eq, ix_nI (show i < 2147483648 by omega), nI_s]
    rfl
  · intro f s _
    show fX11_total_4 M (fX11_total_29 M) (f + 1) s (nI n) = _
    rw [fX11_total_4]
    simp only [e_voters, Option.bind_some, h]
    rw [if_pos (nI_le (Nat.le_refl n) (by omega))]
    rfl
theorem e_isWon (M : Mem) {n : Nat} (h : M.1 73 0 = nI n) (hn : n ≤ 15) (yes no : Int32) : fX11_isWon M yes no = some (bI (wonD (rB M) (totD (rD M)) yes no)) := by
  unfold fX11_isWon fX11_isWon_19 fX11_isWon_84 fX11_isWon_83 fX11_isWon_84
  simp only [ixl0, e_total M h hn, Option.bind_some, nx_eq]
  unfold wonD rB
  simp only
  by_cases h0 : M.1 75 0 = 0
  · rw [if_pos h0, if_pos h0]
    by_cases hc : no < yes
    · have : ¬ yes ≤ no := by rw [fa_le]; have := (fa_lt _ _).mp hc; omega
      simp [hc, this, bI]
    · have : yes ≤ no := fa_of_nlt hc
      simp [hc, this, bI]
  · rw [if_neg h0, if_neg h0]
    by_cases h1 : M.1 75 0 = 1
    · rw [if_pos h1, if_pos h1]
      by_cases hc : M.1 76 0 * totD (rD M) < yes * M.1 77 0
      · have : ¬ yes * M.1 77 0 ≤ M.1 76 0 * totD (rD M) := by rw [fa_le]; have := (fa_lt _ _).mp hc; omega
        simp [hc, this, bI]
      · have : yes * M.1 77 0 ≤ M.1 76 0 * totD (rD M) := fa_of_nlt hc
        simp [hc, this, bI]
    · rw [if_neg h1, if_neg h1]
      by_cases hc : yes * M.1 77 0 < M.1 76 0 * totD (rD M)
      · have : ¬ M.1 76 0 * totD (rD M) ≤ yes * M.1 77 0 := by rw [fa_le]; have := (fa_lt _ _).mp hc; omega
        simp [hc, this, bI]
      · have h3 : M.1 76 0 * totD (rD M) ≤ yes * M.1 77 0 := fa_of_nlt hc
        rw [if_neg hc]
        by_cases hd : no < yes
        · have : ¬ yes ≤ no := by rw [fa_le]; have := (fa_lt _ _).mp hd; omega
          simp [hd, this, h3, bI]
        · have : yes ≤ no := fa_of_nlt hd
          simp [hd, this, bI]
theorem e_beatsAt (M : Mem) {n : Nat} (h : M.1 73 0 = nI n) (hn : n ≤ 15) (x y ox oy : Int32) : fX11_beatsAt M x y ox oy = some (bI (btD (rD M) (rB M) x y ox oy)) := by
  unfold fX11_beatsAt
  simp only [e_forOf M h hn, Option.bind_some, e_isWon M h hn, bI_and]
  rfl
theorem e_beatsOf (M : Mem) {n : Nat} (h : M.1 73 0 = nI n) (hn : n ≤ 15) {p q : Nat} (hp : p < 20) (hq : q < 20) : fX11_beatsOf M (nI p) (nI q) = some (bI (btD (rD M) (rB M) (M.1 68 p) (M.1 71 p) (M.1 68 q) (M.1 71 q))) := by
  unfold fX11_beatsOf
  simp only [inb_nI hp (by decide), inb_nI hq (by decide), if_true, ix_nI (show p < 2147483648 by omega), ix_nI (show q < 2147483648 by omega), e_beatsAt M h hn, Option.bind_some, bI_and]
theorem e_votesOf (M : Mem) {n : Nat} (h : M.1 73 0 = nI n) (hn : n ≤ 15) {p q : Nat} (hp : p < 20) (hq : q < 20) : fX11_votesOf M (nI p) (nI q) = some (forD (rD M) (M.1 68 p) (M.1 71 p) (M.1 68 q) (M.1 71 q)) := by
  unfold fX11_votesOf
  simp only [inb_nI hp (by decide), inb_nI hq (by decide), if_true, ix_nI (show p < 2147483648 by omega), ix_nI (show q < 2147483648 by omega), e_forOf M h hn, Option.bind_some]
