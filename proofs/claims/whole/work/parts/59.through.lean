theorem tr_rng {M : Mem} {n p v u : Nat} (h : DI M n p) (hv : v < n) (hu : u < n) : (-99 ≤ (trA (cD M) v u).toInt ∧ (trA (cD M) v u).toInt ≤ 99) ∧ (-99 ≤ (trB (cD M) v u).toInt ∧ (trB (cD M) v u).toInt ≤ 99) := by
  obtain ⟨h1, h2, -⟩ := h.2.2.1 v hv
  obtain ⟨h3, h4, -⟩ := h.2.2.1 u hu
  have i1 := inN_i.mp h1
  have i2 := inN_i.mp h2
  have i3 := inN_i.mp h3
  have i4 := inN_i.mp h4
  have ta : (M.1 3 u - M.1 3 v).toInt = (M.1 3 u).toInt - (M.1 3 v).toInt := fb_subI (by omega) (by omega)
  have tb : (M.1 2 v - M.1 2 u).toInt = (M.1 2 v).toInt - (M.1 2 u).toInt := fb_subI (by omega) (by omega)
  have ea : trA (cD M) v u = M.1 3 u - M.1 3 v := rfl
  have eb : trB (cD M) v u = M.1 2 v - M.1 2 u := rfl
  rw [ea, eb, ta, tb]
  omega
theorem norm_DI {M : Mem} {n p v u : Nat} (h : DI M n p) (hv : v < n) (hu : u < n) (h0 : ¬ (trA (cD M) v u = 0 ∧ trB (cD M) v u = 0)) : smL (lnA (cD M) v u) (lnB (cD M) v u) (lnC (cD M) v u) ∧ lnOk ((lnA (cD M) v u).toInt, (lnB (cD M) v u).toInt, (lnC (cD M) v u).toInt) :=
  norm_ok (h.2.2.1 v hv).1 (h.2.2.1 v hv).2.1 (h.2.2.1 u hu).1 (h.2.2.1 u hu).2.1 h0
theorem k_addThrough {M : Mem} {n p v u : Nat} (h : DI M n p) (hv : v < n) (hu : u < n) : fX2_addThrough (nI v) (nI u) M = if (trA (cD M) v u = 0 ∧ trB (cD M) v u = 0) then some M else if hvD (cD M) (lnA (cD M) v u) (lnB (cD M) v u) (lnC (cD M) v u) = true then fX2_insert (lnA (cD M) v u) (lnB (cD M) v u) (lnC (cD M) v u) M else some M := by
  have hn := h.n15
  obtain ⟨ra, rb⟩ := tr_rng h hv hu
  have hv15 := inb_nI (show v < 15 by omega) (by decide)
  have hu15 := inb_nI (show u < 15 by omega) (by decide)
  have ea : M.1 3 u - M.1 3 v = trA (cD M) v u := rfl
  have eb : M.1 2 v - M.1 2 u = trB (cD M) v u := rfl
  unfold fX2_addThrough fX2_addThrough_65
  simp only [hv15, hu15, if_true, ix_nI (show v < 2147483648 by omega), ix_nI (show u < 2147483648 by omega), nx_eq, ea, eb]
  rw [k_common M (by rw [Int32.toInt_toInt64]; omega) (by rw [Int32.toInt_toInt64]; omega), Option.bind_some, lN_i, Int32.toInt_toInt64, Int32.toInt_toInt64]
  have c70 : (if trA (cD M) v u < 0 then fX2_addThrough_70 (nI v) (trA (cD M) v u) (trB (cD M) v u) (-nI (Nat.gcd (trA (cD M) v u).toInt.natAbs (trB (cD M) v u).toInt.natAbs)) M else if trA (cD M) v u = 0 then if 0 ≤ trB (cD M) v u then fX2_addThrough_70 (nI v) (trA (cD M) v u) (trB (cD M) v u) (nI (Nat.gcd (trA (cD M) v u).toInt.natAbs (trB (cD M) v u).toInt.natAbs)) M else fX2_addThrough_70 (nI v) (trA (cD M) v u) (trB (cD M) v u) (-nI (Nat.gcd (trA (cD M) v u).toInt.natAbs (trB (cD M) v u).toInt.natAbs)) M else fX2_addThrough_70 (nI v) (trA (cD M) v u) (trB (cD M) v u) (nI (Nat.gcd (trA (cD M) v u).toInt.natAbs (trB (cD M) v u).toInt.natAbs)) M) = fX2_addThrough_70 (nI v) (trA (cD M) v u) (trB (cD M) v u) (gP (trA (cD M) v u) (trB (cD M) v u)) M := by
    unfold gP
    have i1 : (0 ≤ trB (cD M) v u) ↔ ¬ trB (cD M) v u < 0 := by rw [fa_le, fa_lt]; omega
    simp only [i1]
    by_cases c1 : trA (cD M) v u < 0
    · simp [c1]
    · by_cases c2 : trA (cD M) v u = 0
      · by_cases c3 : trB (cD M) v u < 0
        · simp [c2, c3]
        · simp [c2, c3]
      · simp [c1, c2]
  rw [c70]
  unfold fX2_addThrough_70 fX2_addThrough_139
  by_cases h0 : trA (cD M) v u = 0 ∧ trB (cD M) v u = 0
  · have : gP (trA (cD M) v u) (trB (cD M) v u) = 0 := by rw [h0.1, h0.2]; decide
    rw [if_pos this, if_pos h0]
  · obtain ⟨g0, g1, g2⟩ := gP_i ra rb h0
    have gn : ¬ gP (trA (cD M) v u) (trB (cD M) v u) = 0 := by
      intro q
      have := (fa_eq _ _).mp q
      have z : (0 : Int32).toInt = 0 := rfl
      rw [g2, z] at this
      split at this <;> omega
    rw [if_neg gn, if_neg h0]
    obtain ⟨s1, -⟩ := norm_DI h hv hu h0
    simp only [gn, not_false_eq_true, if_true, nx_eq, hv15, ix_nI (show v < 2147483648 by omega)]
    have eh := k_isHalving h s1
    have e1 : trA (cD M) v u / gP (trA (cD M) v u) (trB (cD M) v u) = lnA (cD M) v u := rfl
    have e2 : trB (cD M) v u / gP (trA (cD M) v u) (trB (cD M) v u) = lnB (cD M) v u := rfl
    have e3 : lnA (cD M) v u * M.1 2 v + lnB (cD M) v u * M.1 3 v = lnC (cD M) v u := rfl
    rw [e1, e2, e3, eh, Option.bind_some]
    cases hvD (cD M) (lnA (cD M) v u) (lnB (cD M) v u) (lnC (cD M) v u) with
    | false => rfl
    | true =>
      rw [if_neg (by decide), if_pos rfl]
      cases fX2_insert (lnA (cD M) v u) (lnB (cD M) v u) (lnC (cD M) v u) M <;> rfl
theorem e_through {M : Mem} {n p v u : Nat} (h : DI M n p) (hv : v < n) (hu : u < n) : fX11_through (nI v) (nI u) M = if (trA (cD M) v u = 0 ∧ trB (cD M) v u = 0) then some M else if hvD (cD M) (lnA (cD M) v u) (lnB (cD M) v u) (lnC (cD M) v u) = true then fX11_addsLine (lnA (cD M) v u) (lnB (cD M) v u) (lnC (cD M) v u) M else some M := by
  have hn := h.n15
  obtain ⟨ra, rb⟩ := tr_rng h hv hu
  have hv15 := inb_nI (show v < 15 by omega) (by decide)
  have hu15 := inb_nI (show u < 15 by omega) (by decide)
  have hD := h.2.2.2.2.1
  obtain ⟨d1, d2, -⟩ := hD.2 v (by rw [h.cn]; exact hv)
  have d1 : M.1 2 v = M.1 50 v := d1
  have d2 : M.1 3 v = M.1 53 v := d2
  obtain ⟨f1, f2, -⟩ := hD.2 u (by rw [h.cn]; exact hu)
  have f1 : M.1 2 u = M.1 50 u := f1
  have f2 : M.1 3 u = M.1 53 u := f2
  have ea : M.1 53 u - M.1 53 v = trA (cD M) v u := by rw [← d2, ← f2]; rfl
  have eb : M.1 50 v - M.1 50 u = trB (cD M) v u := by rw [← d1, ← f1]; rfl
  unfold fX11_through fX11_through_47 fX11_through_71
  simp only [hv15, hu15, if_true, ix_nI (show v < 2147483648 by omega), ix_nI (show u < 2147483648 by omega), nx_eq, ea, eb]
  rw [e_gcd M (by rw [Int32.toInt_toInt64]; omega) (by rw [Int32.toInt_toInt64]; omega), Option.bind_some, lN_i, Int32.toInt_toInt64, Int32.toInt_toInt64]
  have c76 : (if trA (cD M) v u < 0 then fX11_through_76 (nI v) (trA (cD M) v u) (trB (cD M) v u) (-nI (Nat.gcd (trA (cD M) v u).toInt.natAbs (trB (cD M) v u).toInt.natAbs)) M else if trA (cD M) v u = 0 then if 0 ≤ trB (cD M) v u then fX11_through_76 (nI v) (trA (cD M) v u) (trB (cD M) v u) (nI (Nat.gcd (trA (cD M) v u).toInt.natAbs (trB (cD M) v u).toInt.natAbs)) M else fX11_through_76 (nI v) (trA (cD M) v u) (trB (cD M) v u) (-nI (Nat.gcd (trA (cD M) v u).toInt.natAbs (trB (cD M) v u).toInt.natAbs)) M else fX11_through_76 (nI v) (trA (cD M) v u) (trB (cD M) v u) (nI (Nat.gcd (trA (cD M) v u).toInt.natAbs (trB (cD M) v u).toInt.natAbs)) M) = fX11_through_76 (nI v) (trA (cD M) v u) (trB (cD M) v u) (gP (trA (cD M) v u) (trB (cD M) v u)) M := by
    unfold gP
    have i1 : (0 ≤ trB (cD M) v u) ↔ ¬ trB (cD M) v u < 0 := by rw [fa_le, fa_lt]; omega
    simp only [i1]
    by_cases c1 : trA (cD M) v u < 0
    · simp [c1]
    · by_cases c2 : trA (cD M) v u = 0
      · by_cases c3 : trB (cD M) v u < 0
        · simp [c2, c3]
        · simp [c2, c3]
      · simp [c1, c2]
  rw [c76]
  by_cases h0 : trA (cD M) v u = 0 ∧ trB (cD M) v u = 0
  · rw [if_pos h0.1, if_pos h0.2, if_pos h0]
  · rw [if_neg h0]
    have hc : (if trA (cD M) v u = 0 then if trB (cD M) v u = 0 then some M else fX11_through_76 (nI v) (trA (cD M) v u) (trB (cD M) v u) (gP (trA (cD M) v u) (trB (cD M) v u)) M else fX11_through_76 (nI v) (trA (cD M) v u) (trB (cD M) v u) (gP (trA (cD M) v u) (trB (cD M) v u)) M) = fX11_through_76 (nI v) (trA (cD M) v u) (trB (cD M) v u) (gP (trA (cD M) v u) (trB (cD M) v u)) M := by
      by_cases c1 : trA (cD M) v u = 0
      · have c2 : ¬ trB (cD M) v u = 0 := fun q => h0 ⟨c1, q⟩
        rw [if_pos c1, if_neg c2]
      · rw [if_neg c1]
    rw [hc]
    unfold fX11_through_76 fX11_through_133
    obtain ⟨g0, g1, g2⟩ := gP_i ra rb h0
    have gn : ¬ gP (trA (cD M) v u) (trB (cD M) v u) = 0 := by
      intro q
      have := (fa_eq _ _).mp q
      have z : (0 : Int32).toInt = 0 := rfl
      rw [g2, z] at this
      split at this <;> omega
    simp only [gn, not_false_eq_true, if_true, nx_eq, hv15, ix_nI (show v < 2147483648 by omega)]
    have e1 : trA (cD M) v u / gP (trA (cD M) v u) (trB (cD M) v u) = lnA (cD M) v u := rfl
    have e2 : trB (cD M) v u / gP (trA (cD M) v u) (trB (cD M) v u) = lnB (cD M) v u := rfl
    have e3 : lnA (cD M) v u * M.1 50 v + lnB (cD M) v u * M.1 53 v = lnC (cD M) v u := by rw [← d1, ← d2]; rfl
    rw [e1, e2, e3, e_halves h, Option.bind_some]
    cases hvD (cD M) (lnA (cD M) v u) (lnB (cD M) v u) (lnC (cD M) v u) with
    | false => rfl
    | true =>
      rw [if_neg (by decide), if_pos rfl]
      cases fX11_addsLine (lnA (cD M) v u) (lnB (cD M) v u) (lnC (cD M) v u) M <;> rfl
