/-! bit sets as numbers -/
theorem btN_tb (f : Nat → Bool) (n i : Nat) : (btN f n).testBit i = (decide (i < n) && f i) := by
  by_cases h : i < n
  · rw [Nat.testBit_eq_decide_div_mod_eq, btN_bit f h]
    cases f i <;> simp [h]
  · have : btN f n < 2 ^ i := Nat.lt_of_lt_of_le (btN_lt f n) (Nat.pow_le_pow_right (by decide) (by omega))
    rw [Nat.testBit_lt_two_pow this]
    simp [h]
theorem btN_and (f g : Nat → Bool) (n : Nat) : btN f n &&& btN g n = btN (fun i => f i && g i) n := by
  apply Nat.eq_of_testBit_eq
  intro i
  rw [Nat.testBit_and, btN_tb, btN_tb, btN_tb]
  cases decide (i < n) <;> simp
theorem btN_or (f g : Nat → Bool) (n : Nat) : btN f n ||| btN g n = btN (fun i => f i || g i) n := by
  apply Nat.eq_of_testBit_eq
  intro i
  rw [Nat.testBit_or, btN_tb, btN_tb, btN_tb]
  cases decide (i < n) <;> simp
theorem btN_one {n q : Nat} (h : q < n) : btN (fun i => decide (i = q)) n = 2 ^ q := by
  apply Nat.eq_of_testBit_eq
  intro i
  rw [btN_tb, Nat.testBit_two_pow]
  by_cases e : i = q
  · subst e; simp [h]
  · have : ¬ q = i := fun r => e r.symm
    simp [e, this]
theorem btN_inj {f g : Nat → Bool} {n : Nat} (h : btN f n = btN g n) : ∀ i, i < n → f i = g i := by
  intro i hi
  have h1 := btN_tb f n i
  have h2 := btN_tb g n i
  rw [h, h2] at h1
  simpa [hi] using h1.symm
theorem btN_all : ∀ n, btN (fun _ => true) n = 2 ^ n - 1
  | 0 => rfl
  | n + 1 => by
    rw [btN, btN_all n, Nat.pow_succ]
    have := Nat.two_pow_pos n
    simp only [if_true]
    omega
theorem bt20 (f : Nat → Bool) {p : Nat} (hp : p ≤ 20) : btN f p < 1048576 := by
  have h1 := btN_lt f p
  have h2 : 2 ^ p ≤ 2 ^ 20 := Nat.pow_le_pow_right (by decide) hp
  omega
theorem bt_shl {q : Nat} (h : q < 31) : (1 : Int32) <<< (nI q &&& 31) = nI (2 ^ q) := by
  have hs : ∀ n, n < 31 → (1 : Int32) <<< (nI n &&& 31) = nI (2 ^ n) := by decide
  exact hs q h
theorem nI_set {f : Nat → Bool} {p q : Nat} (hp : p ≤ 20) (hq : q < p) : nI (btN f p) ||| ((1 : Int32) <<< (nI q &&& 31)) = nI (btN (fun i => f i || decide (i = q)) p) := by
  rw [bt_shl (by omega), fa_or, ← btN_one hq, btN_or]
theorem nI_any {f g : Nat → Bool} {p : Nat} (hp : p ≤ 20) : nI (btN f p) &&& nI (btN g p) = 0 ↔ anyN (fun i => f i && g i) p = false := by
  rw [fa_and, btN_and, anyN_ct, ← btN_zero]
  exact nI_eq (b := 0) (by have := bt20 (fun i => f i && g i) hp; omega) (by decide)
theorem nI_tb (n i : Nat) : (nI n).toBitVec.getLsbD i = (decide (i < 32) && n.testBit i) := by
  show (BitVec.ofNat 32 n).getLsbD i = _
  rw [BitVec.getLsbD_ofNat]
theorem nI_diff {f g : Nat → Bool} {p : Nat} (hp : p ≤ 20) : nI (btN f p) &&& (nI (btN g p) ^^^ (-1 : Int32)) = nI (btN (fun i => f i && !g i) p) := by
  apply Int32.toBitVec_inj.mp
  apply BitVec.eq_of_getLsbD_eq
  intro i hi
  have h1 : ((-1 : Int32)).toBitVec.getLsbD i = true := by
    have hs : ∀ i, i < 32 → ((-1 : Int32)).toBitVec.getLsbD i = true := by decide
    exact hs i hi
  rw [Int32.toBitVec_and, Int32.toBitVec_xor, BitVec.getLsbD_and, BitVec.getLsbD_xor, h1, nI_tb, nI_tb, nI_tb, btN_tb, btN_tb, btN_tb]
  cases decide (i < p) <;> simp [hi]
theorem nI_sub {f g : Nat → Bool} {p : Nat} (hp : p ≤ 20) : nI (btN f p) &&& (nI (btN g p) ^^^ (-1 : Int32)) = 0 ↔ anyN (fun i => f i && !g i) p = false := by
  rw [nI_diff hp, anyN_ct, ← btN_zero]
  exact nI_eq (b := 0) (by have := bt20 (fun i => f i && !g i) hp; omega) (by decide)
/-! how many votes lead from a place to another: b i q says that q beats i -/
def stI (b : Nat → Nat → Bool) (p to : Nat) : Nat → Nat → Int32
  | 0, i => if i = to then 0 else -1
  | k + 1, i => if stI b p to k i = -1 ∧ anyN (fun q => b i q && decide (stI b p to k q ≠ -1)) p = true then nI (k + 1) else stI b p to k i
theorem nI_n1 {j : Nat} (h : j < 1000) : ¬ nI j = -1 := by
  intro e
  have := (fa_eq _ _).mp e
  rw [nI_toInt (by omega)] at this
  have h2 : (-1 : Int32).toInt = -1 := rfl
  omega
theorem st_keep {b : Nat → Nat → Bool} {p to k i : Nat} (h : stI b p to k i ≠ -1) : stI b p to (k + 1) i = stI b p to k i := by
  rw [stI, if_neg (fun q => h q.1)]
theorem st_rng {b : Nat → Nat → Bool} {p to i : Nat} : ∀ {k}, stI b p to k i = -1 ∨ ∃ j, j ≤ k ∧ stI b p to k i = nI j
  | 0 => by
    rw [stI]
    by_cases e : i = to
    · rw [if_pos e]; exact Or.inr ⟨0, Nat.le_refl 0, rfl⟩
    · rw [if_neg e]; exact Or.inl rfl
  | k + 1 => by
    rw [stI]
    split
    · exact Or.inr ⟨k + 1, Nat.le_refl _, rfl⟩
    · rcases st_rng (b := b) (p := p) (to := to) (i := i) (k := k) with h | ⟨j, h1, h2⟩
      · exact Or.inl h
      · exact Or.inr ⟨j, by omega, h2⟩
theorem st_new {b : Nat → Nat → Bool} {p to i q : Nat} : ∀ {k}, k < 999 → stI b p to k i = -1 → q < p → b i q = true → stI b p to k q ≠ -1 → stI b p to k q = nI k
  | 0, _, _, _, _, h4 => by
    rw [stI] at h4 ⊢
    by_cases e : q = to
    · rw [if_pos e]; rfl
    · rw [if_neg e] at h4; exact absurd rfl h4
  | k + 1, hk, h1, h2, h3, h4 => by
    have hi : stI b p to k i = -1 := by
      by_cases c : stI b p to k i = -1
      · exact c
      · rw [st_keep c] at h1; exact absurd h1 c
    have hno : ¬ anyN (fun q => b i q && decide (stI b p to k q ≠ -1)) p = true := by
      intro c
      rw [stI, if_pos ⟨hi, c⟩] at h1
      exact nI_n1 (by omega) h1
    have hq : stI b p to k q = -1 := by
      by_cases c : stI b p to k q = -1
      · exact c
      · exact absurd (anyN_iff.mpr ⟨q, h2, by simp [h3, c]⟩) hno
    rw [stI] at h4 ⊢
    by_cases c : stI b p to k q = -1 ∧ anyN (fun r => b q r && decide (stI b p to k r ≠ -1)) p = true
    · rw [if_pos c]
    · rw [if_neg c] at h4; exact absurd hq h4
theorem nI_ne {a b : Nat} (h : a ≠ b) (ha : a < 1000) (hb : b < 1000) : ¬ nI a = nI b := fun e => h ((nI_eq (by omega) (by omega)).mp e)
theorem st_back {b : Nat → Nat → Bool} {p to i j : Nat} : ∀ {k}, k < 998 → stI b p to k i = nI (j + 1) → j < 998 → ∃ q, q < p ∧ b i q = true ∧ stI b p to k q = nI j
  | 0, _, h, hj => by
    rw [stI] at h
    by_cases e : i = to
    · rw [if_pos e] at h
      exact absurd h.symm (nI_ne (b := 0) (by omega) (by omega) (by omega))
    · rw [if_neg e] at h
      exact absurd h.symm (nI_n1 (by omega))
  | k + 1, hk, h, hj => by
    rw [stI] at h
    by_cases c : stI b p to k i = -1 ∧ anyN (fun q => b i q && decide (stI b p to k q ≠ -1)) p = true
    · rw [if_pos c] at h
      have e : j = k := by have := (nI_eq (by omega) (by omega)).mp h; omega
      subst e
      obtain ⟨q, hq, hb⟩ := anyN_iff.mp c.2
      simp only [Bool.and_eq_true, decide_eq_true_eq] at hb
      refine ⟨q, hq, hb.1, ?_⟩
      rw [st_keep hb.2]
      exact st_new (by omega) c.1 hq hb.1 hb.2
    · rw [if_neg c] at h
      obtain ⟨q, hq, hb, he⟩ := st_back (k := k) (by omega) h hj
      refine ⟨q, hq, hb, ?_⟩
      rw [st_keep (by rw [he]; exact nI_n1 (by omega)), he]
theorem anyN_congr {f g : Nat → Bool} {n : Nat} (h : ∀ i, i < n → f i = g i) : anyN f n = anyN g n := by
  rw [Bool.eq_iff_iff, anyN_iff, anyN_iff]
  constructor
  · rintro ⟨i, h1, h2⟩; exact ⟨i, h1, by rw [← h i h1]; exact h2⟩
  · rintro ⟨i, h1, h2⟩; exact ⟨i, h1, by rw [h i h1]; exact h2⟩
theorem anyN_s (f : Nat → Bool) (n : Nat) : anyN f (n + 1) = (anyN f n || f n) := by
  rw [Bool.eq_iff_iff, Bool.or_eq_true, anyN_iff, anyN_iff]
  constructor
  · rintro ⟨i, h1, h2⟩
    by_cases e : i = n
    · subst e; exact Or.inr h2
    · exact Or.inl ⟨i, by omega, h2⟩
  · rintro (⟨i, h1, h2⟩ | h)
    · exact ⟨i, by omega, h2⟩
    · exact ⟨n, by omega, h⟩
theorem st_stab {b : Nat → Nat → Bool} {p to k : Nat} (hk : k < 998) (h : ∀ i, i < p → stI b p to (k + 1) i = stI b p to k i) : ∀ i, i < p → stI b p to (k + 2) i = stI b p to (k + 1) i := by
  intro i hi
  rw [stI]
  apply if_neg
  rintro ⟨h1, h2⟩
  rw [h i hi] at h1
  have e : anyN (fun q => b i q && decide (stI b p to (k + 1) q ≠ -1)) p = anyN (fun q => b i q && decide (stI b p to k q ≠ -1)) p := anyN_congr (fun q hq => by rw [h q hq])
  rw [e] at h2
  have h3 := h i hi
  rw [stI, if_pos ⟨h1, h2⟩, h1] at h3
  exact nI_n1 (by omega) h3
theorem ct_lt {f g : Nat → Bool} {n i : Nat} (h : ∀ k, k < n → f k = true → g k = true) (hi : i < n) (h1 : f i = false) (h2 : g i = true) : fb_ct f n < fb_ct g n := by
  have hu := fb_ct_upd f true hi
  have hs : fb_ct (fun k => if k = i then true else f k) n ≤ fb_ct g n := fb_ct_sub (fun k hk hf => by
    by_cases e : k = i
    · rw [e]; exact h2
    · simp only [e, if_false] at hf; exact h k hk hf)
  simp only [h1, Bool.false_eq_true, if_false, if_true] at hu
  omega
theorem st_cnt {b : Nat → Nat → Bool} {p to : Nat} (ht : to < p) : ∀ {k}, k < 998 → (k + 1 ≤ fb_ct (fun i => decide (stI b p to k i ≠ -1)) p) ∨ (∀ i, i < p → stI b p to (k + 1) i = stI b p to k i)
  | 0, _ => by
    left
    apply fb_ct_pos.mpr
    refine ⟨to, ht, ?_⟩
    rw [stI, if_pos rfl]; rfl
  | k + 1, hk => by
    rcases st_cnt (b := b) ht (k := k) (by omega) with h | h
    · by_cases c : ∀ i, i < p → stI b p to (k + 1) i = stI b p to k i
      · exact Or.inr (st_stab (by omega) c)
      · left
        obtain ⟨i, hc⟩ := Classical.not_forall.mp c
        obtain ⟨hi, hc⟩ := Classical.not_imp.mp hc
        have h0 : stI b p to k i = -1 := by
          by_cases c0 : stI b p to k i = -1
          · exact c0
          · exact absurd (st_keep c0) hc
        have := ct_lt (f := fun i => decide (stI b p to k i ≠ -1)) (g := fun i => decide (stI b p to (k + 1) i ≠ -1)) (n := p) (i := i) (fun q _ hq => by
          simp only [decide_eq_true_eq] at hq ⊢
          rw [st_keep hq]; exact hq) hi (by simp [h0]) (by
          simp only [decide_eq_true_eq]
          intro e; rw [e, h0] at hc; exact hc rfl)
        omega
    · exact Or.inr (st_stab (by omega) h)
theorem st_end {b : Nat → Nat → Bool} {p to : Nat} (hp : p ≤ 20) (ht : to < p) {i : Nat} (hi : i < p) : stI b p to p i = stI b p to (p - 1) i := by
  have e : p = p - 1 + 1 := by omega
  rcases st_cnt (b := b) ht (k := p - 1) (by omega) with h | h
  · have hall : fb_ct (fun i => decide (stI b p to (p - 1) i ≠ -1)) p = p := by
      have := fb_ct_le (fun i => decide (stI b p to (p - 1) i ≠ -1)) p
      omega
    have := fb_ct_all.mp hall i hi
    simp only [decide_eq_true_eq] at this
    have h2 := st_keep this
    rw [← e] at h2
    exact h2
  · have h2 := h i hi
    rw [← e] at h2
    exact h2
/-! the class's steps -/
theorem k_ms38 {M : Mem} {p k to : Nat} {b : Nat → Nat → Bool} (hp : M.1 1 8 = nI p) (hp20 : p ≤ 20) (hk : k < 30) (hb : ∀ i, i < p → M.1 24 i = nI (btN (b i) p)) (h25 : ∀ j, j < p → M.1 25 j = stI b p to k j) (K : Int32 → Int32 → Mem → Option (Int32 × Mem)) :
    ∃ M1, fX0_measureSteps_38 K FU (nI (btN (fun q => decide (stI b p to k q ≠ -1)) p)) (nI (k + 1)) (nI (btN (fun q => decide (stI b p to k q ≠ -1)) p)) 0 M = K (nI (btN (fun q => decide (stI b p to (k + 1) q ≠ -1)) p)) (nI (k + 1)) M1 ∧ (∀ j, j < p → M1.1 25 j = stI b p to (k + 1) j) ∧ sm [(25, 25, none)] M M1 := by
  have hh := for_ex (σ := Int32 × Mem) (fun f i s => fX0_measureSteps_38 K f s.1 (nI (k + 1)) (nI (btN (fun q => decide (stI b p to k q ≠ -1)) p)) i s.2) (fun s => K s.1 (nI (k + 1)) s.2) p
    (fun i s => s.1 = nI (btN (fun q => decide (stI b p to (if q < i then k + 1 else k) q ≠ -1)) p) ∧ (∀ j, j < p → s.2.1 25 j = stI b p to (if j < i then k + 1 else k) j) ∧ sm [(25, 25, none)] M s.2) ?_ ?_ (nI (btN (fun q => decide (stI b p to k q ≠ -1)) p), M) ⟨by simp, fun j hj => by simp [h25 j hj], sm_rf⟩ FU (FU_gt (by omega))
  · obtain ⟨⟨r, M1⟩, h1, h2, h3, h4⟩ := hh
    refine ⟨M1, ?_, fun j hj => ?_, h4⟩
    · refine Eq.trans h1 ?_
      show K r _ M1 = _
      have h2 : r = _ := h2
      rw [h2]
      have : btN (fun q => decide (stI b p to (if q < p then k + 1 else k) q ≠ -1)) p = btN (fun q => decide (stI b p to (k + 1) q ≠ -1)) p := btN_congr (fun q hq => by rw [if_pos hq])
      rw [this]
    · have := h3 j hj
      rw [if_pos hj] at this
      exact this
  · rintro f i ⟨r, s⟩ hi ⟨g1, g2, g3⟩
    have g1 : r = _ := g1
    have g2 : ∀ j, j < p → s.1 25 j = _ := g2
    have g3 : sm [(25, 25, none)] M s := g3
    have hon := g3.on [(1, 9, none), (24, 24, none)] (by decide) (by decide)
    have hi20 := inb_nI (show i < 20 by omega) (by decide)
    have hsi : s.1 25 i = stI b p to k i := by have := g2 i hi; rw [if_neg (by omega)] at this; exact this
    have hstep : fX0_measureSteps_38 K (f + 1) r (nI (k + 1)) (nI (btN (fun q => decide (stI b p to k q ≠ -1)) p)) (nI i) s =
      if stI b p to k i = -1 ∧ anyN (fun q => b i q && decide (stI b p to k q ≠ -1)) p = true then fX0_measureSteps_38 K f (r ||| ((1 : Int32) <<< (nI i &&& 31))) (nI (k + 1)) (nI (btN (fun q => decide (stI b p to k q ≠ -1)) p)) (nI (i + 1)) (sI s 25 i (nI (k + 1))) else fX0_measureSteps_38 K f r (nI (k + 1)) (nI (btN (fun q => decide (stI b p to k q ≠ -1)) p)) (nI (i + 1)) s := by
      rw [fX0_measureSteps_38, hon.i 1 8 rfl, hp, if_neg (nI_ge hi (by omega))]
      unfold fX0_measureSteps_89
      simp only [hi20, if_true, ix_nI (show i < 2147483648 by omega), hsi, hon.i 24 i rfl, hb i hi, nx_eq, nI_s, nI_any hp20]
      by_cases c1 : stI b p to k i = -1
      · cases c2 : anyN (fun q => b i q && decide (stI b p to k q ≠ -1)) p with
        | false => simp [c1]
        | true => simp [c1]
      · simp [c1]
    by_cases c : stI b p to k i = -1 ∧ anyN (fun q => b i q && decide (stI b p to k q ≠ -1)) p = true
    · refine ⟨(r ||| ((1 : Int32) <<< (nI i &&& 31)), sI s 25 i (nI (k + 1))), ?_, ?_, fun j hj => ?_, g3.I (inS_n 25 i)⟩
      · refine Eq.trans hstep ?_
        rw [if_pos c]
      · show (r ||| _) = _
        rw [g1, nI_set hp20 hi]
        congr 1
        apply btN_congr
        intro q hq
        by_cases e : q = i
        · subst e
          rw [if_pos (show q < q + 1 by omega), stI, if_pos c]
          have := nI_n1 (show k + 1 < 1000 by omega)
          simp [this]
        · have : (q < i + 1) = (q < i) := by apply propext; omega
          simp only [this, e, decide_false, Bool.or_false]
      · show (sI s 25 i (nI (k + 1))).1 25 j = _
        by_cases e : j = i
        · subst e
          rw [sI_at, if_pos (by omega), stI, if_pos c]
        · rw [sI_nj _ _ e, g2 j hj]
          have : (j < i + 1) = (j < i) := by apply propext; omega
          simp only [this]
    · have hkk : stI b p to (k + 1) i = stI b p to k i := by rw [stI, if_neg c]
      refine ⟨(r, s), ?_, ?_, fun j hj => ?_, g3⟩
      · refine Eq.trans hstep ?_
        rw [if_neg c]
      · show r = _
        rw [g1]
        congr 1
        apply btN_congr
        intro q hq
        by_cases e : q = i
        · subst e
          rw [if_neg (show ¬ q < q by omega), if_pos (show q < q + 1 by omega), hkk]
        · have : (q < i + 1) = (q < i) := by apply propext; omega
          simp only [this]
      · show s.1 25 j = _
        rw [g2 j hj]
        by_cases e : j = i
        · subst e
          rw [if_neg (show ¬ j < j by omega), if_pos (show j < j + 1 by omega), hkk]
        · have : (j < i + 1) = (j < i) := by apply propext; omega
          simp only [this]
  · rintro f ⟨r, s⟩ ⟨g1, g2, g3⟩
    have g3 : sm [(25, 25, none)] M s := g3
    have hon := g3.on [(1, 9, none), (24, 24, none)] (by decide) (by decide)
    show fX0_measureSteps_38 K (f + 1) r (nI (k + 1)) _ (nI p) s = _
    rw [fX0_measureSteps_38, hon.i 1 8 rfl, hp, if_pos (nI_le (Nat.le_refl _) (by omega))]
theorem k_measure {M : Mem} {p to : Nat} {b : Nat → Nat → Bool} (hp : M.1 1 8 = nI p) (hp20 : p ≤ 20) (ht : to < p) (hb : ∀ i, i < p → M.1 24 i = nI (btN (b i) p)) :
    ∃ M1, fX0_measureSteps (nI to) M = some (nI (btN (fun q => decide (stI b p to (p - 1) q ≠ -1)) p), M1) ∧ (∀ j, j < p → M1.1 25 j = stI b p to (p - 1) j) ∧ sm [(25, 25, none)] M M1 := by
  unfold fX0_measureSteps
  obtain ⟨M2, f1, f2, f3⟩ := j_fill (k := 25) (len := 20) (by decide) (-1) M
  rw [f1]
  simp only [Option.bind_some, inb_nI (show to < 20 by omega) (by decide), if_true, nx_eq, ix_nI (show to < 2147483648 by omega)]
  generalize hM3 : sI M2 25 to 0 = M3
  have s3 : sm [(25, 25, none)] M M3 := by rw [← hM3]; exact f3.I (inS_n 25 to)
  have r3 : ∀ j, j < p → M3.1 25 j = stI b p to 0 j := by
    intro j hj
    rw [← hM3, stI]
    by_cases e : j = to
    · rw [e, sI_at, if_pos rfl]
    · rw [sI_nj _ _ e, if_neg e, f2 j (by omega)]
  have e0 : (1 : Int32) <<< (nI to &&& 31) = nI (btN (fun q => decide (stI b p to 0 q ≠ -1)) p) := by
    rw [bt_shl (by omega), ← btN_one ht]
    congr 1
    apply btN_congr
    intro q _
    rw [stI]
    by_cases e : q = to
    · simp [e]
    · simp [e]
  rw [e0]
  have hh := for_exF (σ := Int32 × Mem) (fun f i s => fX0_measureSteps_21 fX0_measureSteps_101 f s.1 i s.2) (fun s => some s) 1 p (by omega)
    (fun i s => s.1 = nI (btN (fun q => decide (stI b p to (i - 1) q ≠ -1)) p) ∧ (∀ j, j < p → s.2.1 25 j = stI b p to (i - 1) j) ∧ sm [(25, 25, none)] M s.2) ?_ ?_ (nI (btN (fun q => decide (stI b p to 0 q ≠ -1)) p), M3) ⟨rfl, r3, s3⟩ FU (by have := FU_gt (n := p) (by omega); omega)
  · obtain ⟨⟨r, M1⟩, h1, h2, h3, h4⟩ := hh
    have h2 : r = _ := h2
    rw [h2] at h1
    exact ⟨M1, h1, h3, h4⟩
  · rintro f i ⟨r, s⟩ h1 hi ⟨g1, g2, g3⟩
    have g1 : r = _ := g1
    have g2 : ∀ j, j < p → s.1 25 j = _ := g2
    have g3 : sm [(25, 25, none)] M s := g3
    have hon := g3.on [(1, 9, none), (24, 24, none)] (by decide) (by decide)
    obtain ⟨M4, q1, q2, q3⟩ := k_ms38 (M := s) (k := i - 1) (to := to) (b := b) ((hon.i 1 8 rfl).trans hp) hp20 (by omega) (fun j hj => (hon.i 24 j rfl).trans (hb j hj)) g2 (fX0_measureSteps_95 (fX0_measureSteps_21 fX0_measureSteps_101 f) fX0_measureSteps_101)
    rw [show i - 1 + 1 = i by omega] at q1 q2
    refine ⟨(nI (btN (fun q => decide (stI b p to i q ≠ -1)) p), M4), ?_, rfl, q2, g3.tr q3⟩
    show fX0_measureSteps_21 fX0_measureSteps_101 (f + 1) r (nI i) s = _
    rw [fX0_measureSteps_21, hon.i 1 8 rfl, hp, if_neg (nI_ge hi (by omega)), g1]
    refine Eq.trans q1 ?_
    unfold fX0_measureSteps_95
    simp only [nx_eq, nI_s]
  · rintro f ⟨r, s⟩ ⟨g1, g2, g3⟩
    have g3 : sm [(25, 25, none)] M s := g3
    have hon := g3.on [(1, 9, none), (24, 24, none)] (by decide) (by decide)
    show fX0_measureSteps_21 fX0_measureSteps_101 (f + 1) r (nI p) s = _
    rw [fX0_measureSteps_21, hon.i 1 8 rfl, hp, if_pos (nI_le (Nat.le_refl _) (by omega))]
    rfl
