/-! the class's leaves -/
theorem le_of_inN {x : Int32} {n : Nat} (hn : n < 2147483648) : (if x < 0 then false else if nI n ≤ x then false else true) = inN x n := by
  unfold inN
  have h0 : (0 : Int32).toInt = 0 := rfl
  have h1 : (nI n).toInt = (n : Int) := nI_toInt hn
  by_cases a : x < 0
  · have := (fa_lt _ _).mp a
    rw [h0] at this
    rw [if_pos a]
    simp; omega
  · rw [if_neg a]
    have a' : ¬ x.toInt < 0 := fun q => a ((fa_lt _ _).mpr (by rw [h0]; exact q))
    by_cases b : nI n ≤ x
    · have := (fa_le _ _).mp b
      rw [if_pos b]
      simp; omega
    · have : ¬ (n : Int) ≤ x.toInt := fun q => b ((fa_le _ _).mpr (by rw [h1]; exact q))
      rw [if_neg b]
      simp; omega
theorem k_hasVoter (M : Mem) (x : Int32) {n : Nat} (h : M.1 1 0 = nI n) (hn : n ≤ 15) : fX8_hasVoter_t M x = some (bI (inN x n)) := by
  unfold fX8_hasVoter_t fX8_hasVoter_t_16 fX8_hasVoter_t_17
  rw [h, ← le_of_inN (x := x) (show n < 2147483648 by omega)]
  by_cases a : x < 0
  · simp [a, bI]
  · by_cases b : nI n ≤ x <;> simp [a, b, bI]
theorem k_hasPlace (M : Mem) (x : Int32) {n : Nat} (h : M.1 1 8 = nI n) (hn : n ≤ 20) : fX8_hasPlace_t M x = some (bI (inN x n)) := by
  unfold fX8_hasPlace_t fX8_hasPlace_t_16 fX8_hasPlace_t_17
  rw [h, ← le_of_inN (x := x) (show n < 2147483648 by omega)]
  by_cases a : x < 0
  · simp [a, bI]
  · by_cases b : nI n ≤ x <;> simp [a, b, bI]
theorem k_isPoint (M : Mem) (x y : Int32) : fX10_isPoint M x y = some (bI (isPt x y)) := by
  unfold fX10_isPoint fX10_isPoint_24 fX10_isPoint_25 isPt
  rw [← le_of_inN (x := x) (n := 100) (by decide), ← le_of_inN (x := y) (n := 100) (by decide)]
  have e : nI 100 = (100 : Int32) := rfl
  rw [e]
  by_cases a : x < 0
  · simp [a, bI]
  · by_cases b : (100 : Int32) ≤ x
    · simp [a, b, bI]
    · by_cases c : y < 0
      · simp [a, b, c, bI]
      · by_cases d : (100 : Int32) ≤ y <;> simp [a, b, c, d, bI]
theorem k_wayOver (M : Mem) {v : Nat} (hv : v < 15) (dx dy : Int32) : fX8_wayOver_t M (nI v) dx dy = some (wy (M.1 5 v) (dx * M.1 6 v) (dy * M.1 7 v)) := by
  unfold fX8_wayOver_t
  have hi := inb_nI hv (by decide)
  simp only [hi, if_true, nx_eq, ix_nI (show v < 2147483648 by omega)]
  unfold wy
  split
  · rfl
  · split
    · rfl
    · split <;> rfl
theorem k_wayTo (M : Mem) {v : Nat} (hv : v < 15) (x y : Int32) : fX8_wayTo_t M (nI v) x y = some (wayT (cD M) v x y) := by
  unfold fX8_wayTo_t
  have hi := inb_nI hv (by decide)
  simp only [hi, if_true, ix_nI (show v < 2147483648 by omega), k_wayOver M hv, Option.bind_some]
  rfl
theorem k_weightFor (M : Mem) {n : Nat} (h : M.1 1 0 = nI n) (hn : n ≤ 15) (a b : Int32) : fX8_weightFor_t M a b = some (forD (cD M) (a / 100) (irm a 100) (b / 100) (irm b 100)) := by
  unfold fX8_weightFor_t
  have hD : (cD M).1 = n := by show ix (M.1 1 0) = n; rw [h]; exact ix_nI (by omega)
  have := (for_up (σ := Int32) (fun f i acc => fX8_weightFor_t_5 M (fX8_weightFor_t_69 M) f a b acc i) (fun acc => some acc) n
    (fun v acc => if wayT (cD M) v (a / 100) (irm a 100) < wayT (cD M) v (b / 100) (irm b 100) then acc + (cD M).2.2.2.1 v else acc) (fun _ _ => True) ?_ (fun _ _ _ _ => trivial) ?_ 0 trivial FU (FU_gt (by omega))).1
  · show fX8_weightFor_t_5 M (fX8_weightFor_t_69 M) FU a b 0 (nI 0) = _
    rw [this]
    unfold forD
    rw [hD]
  · intro f i s hi _
    show fX8_weightFor_t_5 M (fX8_weightFor_t_69 M) (f + 1) a b s (nI i) = _
    rw [fX8_weightFor_t_5]
    simp only [Option.bind_some, h, k_wayTo M (show i < 15 by omega)]
    rw [if_neg (nI_ge hi (by omega))]
    unfold fX8_weightFor_t_63
    simp only [inb_nI (show i < 15 by omega) (by decide), if_true, nx_eq, ix_nI (show i < 2147483648 by omega), nI_s]
    by_cases hc : wayT (cD M) i (a / 100) (irm a 100) < wayT (cD M) i (b / 100) (irm b 100)
    · have : ¬ wayT (cD M) i (b / 100) (irm b 100) ≤ wayT (cD M) i (a / 100) (irm a 100) := by rw [fa_le]; have := (fa_lt _ _).mp hc; omega
      rw [if_neg this, if_pos hc]
      rfl
    · have : wayT (cD M) i (b / 100) (irm b 100) ≤ wayT (cD M) i (a / 100) (irm a 100) := fa_of_nlt hc
      rw [if_pos this, if_neg hc]
  · intro f s _
    show fX8_weightFor_t_5 M (fX8_weightFor_t_69 M) (f + 1) a b s (nI n) = _
    rw [fX8_weightFor_t_5]
    simp only [h]
    rw [if_pos (nI_le (Nat.le_refl n) (by omega))]
    rfl
/-- the bar is one of three -/
def okB (B : Bt) : Prop := B.1 = 0 ∨ B.1 = 1 ∨ B.1 = 2
theorem k_isEnough (M : Mem) (hB : okB (cB M)) (yes no : Int32) : fX8_isEnough_t M yes no = some (bI (wonD (cB M) (M.1 1 7) yes no)) := by
  unfold fX8_isEnough_t fX8_isEnough_t_55 fX8_isEnough_t_84 fX8_isEnough_t_83 fX8_isEnough_t_84 fX8_isEnough_t_95
  unfold wonD
  have hB : M.1 1 11 = 0 ∨ M.1 1 11 = 1 ∨ M.1 1 11 = 2 := hB
  have e1 : (cB M).1 = M.1 1 11 := rfl
  have e2 : (cB M).2.1 = M.1 1 12 := rfl
  have e3 : (cB M).2.2 = M.1 1 13 := rfl
  rw [e1, e2, e3]
  rcases hB with h | h | h
  · rw [h]
    simp only [show ¬ (0 : Int32) = 1 by decide, show ¬ (0 : Int32) = 2 by decide, if_false, if_true]
    by_cases hc : no < yes
    · have : ¬ yes ≤ no := by rw [fa_le]; have := (fa_lt _ _).mp hc; omega
      simp [hc, this, bI]
    · have : yes ≤ no := fa_of_nlt hc
      simp [hc, this, bI]
  · rw [h]
    simp only [show ¬ (1 : Int32) = 0 by decide, if_false, if_true]
    by_cases hc : M.1 1 12 * M.1 1 7 < yes * M.1 1 13
    · have : ¬ yes * M.1 1 13 ≤ M.1 1 12 * M.1 1 7 := by rw [fa_le]; have := (fa_lt _ _).mp hc; omega
      simp [hc, this, bI]
    · have : yes * M.1 1 13 ≤ M.1 1 12 * M.1 1 7 := fa_of_nlt hc
      simp [hc, this, bI]
  · rw [h]
    simp only [show ¬ (2 : Int32) = 0 by decide, show ¬ (2 : Int32) = 1 by decide, if_false, if_true]
    by_cases hc : yes * M.1 1 13 < M.1 1 12 * M.1 1 7
    · have : ¬ M.1 1 12 * M.1 1 7 ≤ yes * M.1 1 13 := by rw [fa_le]; have := (fa_lt _ _).mp hc; omega
      simp [hc, this, bI]
    · have h3 : M.1 1 12 * M.1 1 7 ≤ yes * M.1 1 13 := fa_of_nlt hc
      rw [if_neg hc]
      by_cases hd : no < yes
      · have : ¬ yes ≤ no := by rw [fa_le]; have := (fa_lt _ _).mp hd; omega
        simp [hd, this, h3, bI]
      · have : yes ≤ no := fa_of_nlt hd
        simp [hd, this, bI]
/-! the same data, the same answers -/
def eqD (D D1 : Dt) : Prop := D.1 = D1.1 ∧ ∀ v, v < D.1 → D.2.1 v = D1.2.1 v ∧ D.2.2.1 v = D1.2.2.1 v ∧ D.2.2.2.1 v = D1.2.2.2.1 v ∧ D.2.2.2.2.1 v = D1.2.2.2.2.1 v ∧ D.2.2.2.2.2.1 v = D1.2.2.2.2.2.1 v ∧ D.2.2.2.2.2.2 v = D1.2.2.2.2.2.2 v
theorem fd_congr {σ : Type} {s1 s2 : Nat → σ → σ} {s : σ} {n : Nat} (h : ∀ i, i < n → ∀ a, s1 i a = s2 i a) : fd s1 s n = fd s2 s n := by
  induction n with
  | zero => rfl
  | succ n ih =>
    show s1 n (fd s1 s n) = s2 n (fd s2 s n)
    rw [ih (fun i hi => h i (by omega)), h n (by omega)]
theorem eqD.way {D D1 : Dt} (h : eqD D D1) {v : Nat} (hv : v < D.1) (x y : Int32) : wayT D v x y = wayT D1 v x y := by
  obtain ⟨h1, h2, h3, h4, h5, h6⟩ := h.2 v hv
  unfold wayT wayF
  rw [h1, h2, h4, h5, h6]
theorem eqD.wayF {D D1 : Dt} (h : eqD D D1) {v : Nat} (hv : v < D.1) (a b x y : Int32) : wayF D v a b x y = wayF D1 v a b x y := by
  obtain ⟨h1, h2, h3, h4, h5, h6⟩ := h.2 v hv
  unfold Jvm.Pilot.CMiddleSheetLaw_law_r6983_4f6f61.wayF
  rw [h4, h5, h6]
theorem eqD.for {D D1 : Dt} (h : eqD D D1) (x y ox oy : Int32) : forD D x y ox oy = forD D1 x y ox oy := by
  unfold forD
  rw [← h.1]
  apply fd_congr
  intro i hi a
  rw [h.way hi, h.way hi, (h.2 i hi).2.2.1]
theorem eqD.tot {D D1 : Dt} (h : eqD D D1) : totD D = totD D1 := by
  unfold totD
  rw [← h.1]
  apply fd_congr
  intro i hi a
  rw [(h.2 i hi).2.2.1]
def eqB (B B1 : Bt) : Prop := B.1 = B1.1 ∧ (B.1 ≠ 0 → B.2 = B1.2)
theorem eqB.won {B B1 : Bt} (h : eqB B B1) (t y n : Int32) : wonD B t y n = wonD B1 t y n := by
  unfold wonD
  rw [← h.1]
  by_cases h0 : B.1 = 0
  · simp [h0]
  · rw [← h.2 h0]
theorem eq_bt {D D1 : Dt} {B B1 : Bt} (h : eqD D D1) (hB : eqB B B1) (x y ox oy : Int32) : btD D B x y ox oy = btD D1 B1 x y ox oy := by
  unfold btD
  rw [h.tot, h.for, h.for, hB.won]
