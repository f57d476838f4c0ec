/-! ways as numbers, and what grows with them -/
def wN (ms : Int32) (a b : Nat) : Nat := if ms = 0 then a * a + b * b else if ms = 1 then a + b else if ms = 2 then max a b else a
def adf (a b : Nat) : Nat := if a < b then b - a else a - b
theorem wN_mono {ms : Int32} {a b c d : Nat} (h1 : a ≤ c) (h2 : b ≤ d) : wN ms a b ≤ wN ms c d := by
  unfold wN
  have := Nat.mul_le_mul h1 h1
  have := Nat.mul_le_mul h2 h2
  split
  · omega
  · split
    · omega
    · split
      · omega
      · omega
theorem wN_b {ms : Int32} {a b : Nat} (ha : a ≤ 891) (hb : b ≤ 891) : wN ms a b ≤ 1587762 := by
  have h1 := wN_mono (ms := ms) ha hb
  have h2 : wN ms 891 891 ≤ 1587762 := by
    unfold wN
    split
    · omega
    · split
      · omega
      · split <;> omega
  omega
theorem wy_nat {ms : Int32} {a b : Nat} (ha : a ≤ 891) (hb : b ≤ 891) : wy ms (nI a) (nI b) = nI (wN ms a b) := by
  unfold wy wN
  by_cases c0 : ms = 0
  · rw [if_pos c0, if_pos c0, pk_mul, pk_mul, nI_add]
  · rw [if_neg c0, if_neg c0]
    by_cases c1 : ms = 1
    · rw [if_pos c1, if_pos c1, nI_add]
    · rw [if_neg c1, if_neg c1]
      by_cases c2 : ms = 2
      · rw [if_pos c2, if_pos c2, fa_eq, imax_i, nI_toInt (by omega), nI_toInt (by omega), nI_toInt (by omega)]
        split <;> omega
      · rw [if_neg c2, if_neg c2]
def xN (D : Dt) (v : Nat) : Nat := ix (D.2.1 v)
def yN (D : Dt) (v : Nat) : Nat := ix (D.2.2.1 v)
def sxN (D : Dt) (v : Nat) : Nat := ix (D.2.2.2.2.2.1 v)
def syN (D : Dt) (v : Nat) : Nat := ix (D.2.2.2.2.2.2 v)
theorem nat_of {x : Int32} {c : Nat} (h1 : 0 ≤ x.toInt) (h2 : x.toInt ≤ c) (hc : c < 2147483647) : ix x ≤ c ∧ x = nI (ix x) ∧ (ix x : Int) = x.toInt := by
  obtain ⟨j, hj, rfl⟩ := inN_of (x := x) (n := c + 1) (inN_i.mpr ⟨h1, by omega⟩) (by omega)
  rw [ix_nI (by omega), nI_toInt (by omega)]
  exact ⟨by omega, rfl, rfl⟩
theorem DI.nat {M : Mem} {n p v : Nat} (h : DI M n p) (hv : v < n) : (xN (cD M) v < 100 ∧ M.1 2 v = nI (xN (cD M) v)) ∧ (yN (cD M) v < 100 ∧ M.1 3 v = nI (yN (cD M) v)) ∧ (sxN (cD M) v ≤ 9 ∧ M.1 6 v = nI (sxN (cD M) v)) ∧ (syN (cD M) v ≤ 9 ∧ M.1 7 v = nI (syN (cD M) v)) := by
  obtain ⟨o1, o2, -, -, o5, o6⟩ := h.2.2.1 v hv
  have i1 := inN_i.mp o1
  have i2 := inN_i.mp o2
  obtain ⟨a1, a2, -⟩ := nat_of (x := M.1 2 v) (c := 99) i1.1 (by omega) (by omega)
  obtain ⟨b1, b2, -⟩ := nat_of (x := M.1 3 v) (c := 99) i2.1 (by omega) (by omega)
  obtain ⟨c1, c2, -⟩ := nat_of (x := M.1 6 v) (c := 9) (by omega) (by omega) (by omega)
  obtain ⟨d1, d2, -⟩ := nat_of (x := M.1 7 v) (c := 9) (by omega) (by omega) (by omega)
  exact ⟨⟨show ix (M.1 2 v) < 100 by omega, a2⟩, ⟨show ix (M.1 3 v) < 100 by omega, b2⟩, ⟨c1, c2⟩, ⟨d1, d2⟩⟩
theorem iabs_nat {a b : Nat} (ha : a < 100) (hb : b < 100) : iabs (nI a - nI b) = nI (adf a b) := by
  have e : (nI a - nI b).toInt = (a : Int) - b := pk_sub_toInt (by omega) (by omega)
  rw [fa_eq, iabs_i (by rw [e]; omega), e, nI_toInt (by unfold adf; split <;> omega)]
  unfold adf
  split <;> split <;> omega
/-- a voter's way over dx, dy; to a point -/
def wO (D : Dt) (v dx dy : Nat) : Nat := wN (D.2.2.2.2.1 v) (dx * sxN D v) (dy * syN D v)
def wP (D : Dt) (v c y : Nat) : Nat := wO D v (adf c (xN D v)) (adf y (yN D v))
theorem adf_b {a b : Nat} (ha : a < 100) (hb : b < 100) : adf a b ≤ 99 := by
  unfold adf
  split <;> omega
theorem m891 {a s : Nat} (ha : a ≤ 99) (hs : s ≤ 9) : a * s ≤ 891 := by
  have := Nat.mul_le_mul ha hs
  omega
theorem wO_mono {D : Dt} {v a b c d : Nat} (h1 : a ≤ c) (h2 : b ≤ d) : wO D v a b ≤ wO D v c d := wN_mono (Nat.mul_le_mul_right _ h1) (Nat.mul_le_mul_right _ h2)
theorem wO_b {M : Mem} {n p v a b : Nat} (h : DI M n p) (hv : v < n) (ha : a ≤ 99) (hb : b ≤ 99) : wO (cD M) v a b ≤ 1587762 := by
  obtain ⟨-, -, ⟨h5, -⟩, ⟨h6, -⟩⟩ := h.nat hv
  exact wN_b (m891 ha h5) (m891 hb h6)
theorem way_nat {M : Mem} {n p v c y : Nat} (h : DI M n p) (hv : v < n) (hc : c < 100) (hy : y < 100) : wayT (cD M) v (nI c) (nI y) = nI (wP (cD M) v c y) := by
  obtain ⟨⟨h1, h2⟩, ⟨h3, h4⟩, ⟨h5, h6⟩, ⟨h7, h8⟩⟩ := h.nat hv
  unfold wayT wayF
  have e1 : (cD M).2.1 v = nI (xN (cD M) v) := h2
  have e2 : (cD M).2.2.1 v = nI (yN (cD M) v) := h4
  have e3 : (cD M).2.2.2.2.2.1 v = nI (sxN (cD M) v) := h6
  have e4 : (cD M).2.2.2.2.2.2 v = nI (syN (cD M) v) := h8
  rw [e1, e2, e3, e4, iabs_nat hc h1, iabs_nat hy h3, pk_mul, pk_mul]
  exact wy_nat (m891 (adf_b hc h1) h5) (m891 (adf_b hy h3) h7)
theorem k_wO {M : Mem} {n p v a b : Nat} (h : DI M n p) (hv : v < n) (ha : a ≤ 99) (hb : b ≤ 99) : fX8_wayOver_t M (nI v) (nI a) (nI b) = some (nI (wO (cD M) v a b)) := by
  have hn := h.n15
  obtain ⟨-, -, ⟨h5, h6⟩, ⟨h7, h8⟩⟩ := h.nat hv
  rw [k_wayOver M (show v < 15 by omega), h6, h8, pk_mul, pk_mul, wy_nat (m891 ha h5) (m891 hb h7)]
  rfl
/-! sums down a column -/
def preF (R : Nat → Int32) (c y : Nat) : Int32 := sm_ (fun i => R (c * 100 + i)) (y + 1)
theorem pre_put {R R1 : Nat → Int32} {c a : Nat} {d : Int32} (ha : a < 100) (h1 : R1 (c * 100 + a) = R (c * 100 + a) + d) (h2 : ∀ q, q ≠ c * 100 + a → R1 q = R q) {c1 y : Nat} (hy : y < 100) : preF R1 c1 y = preF R c1 y + (if c1 = c ∧ a ≤ y then d else 0) := by
  unfold preF
  by_cases e : c1 = c
  · subst e
    by_cases q : a ≤ y
    · rw [if_pos ⟨rfl, q⟩, smm_put (T := fun i => R (c1 * 100 + i)) (T1 := fun i => R1 (c1 * 100 + i)) (v := a) (fun u hu => h2 _ (by omega)) (by omega), h1]
      generalize sm_ (fun i => R (c1 * 100 + i)) (y + 1) = s
      generalize R (c1 * 100 + a) = x
      rw [← Int32.add_assoc, Int32.sub_add_cancel]
    · rw [if_neg (by omega), Int32.add_zero]
      exact smm_congr (fun u hu => h2 _ (by omega))
  · rw [if_neg (fun w => e w.1), Int32.add_zero]
    exact smm_congr (fun u hu => h2 _ (by omega))
