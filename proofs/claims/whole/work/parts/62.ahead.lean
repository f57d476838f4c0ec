theorem e_isAhead {M : Mem} {k : Nat} (hk : k < 105) {A B C : Int32} (hs : smL (M.1 79 k) (M.1 80 k) (M.1 81 k)) (ht : smL A B C) :
    ∃ r, fX11_isAhead M A B C (nI k) = some r ∧ (r = 0 ↔ ¬ lnLt (lnOf A B C) (lnOf (M.1 79 k) (M.1 80 k) (M.1 81 k))) := by
  have hk105 := inb_nI hk (by decide)
  unfold fX11_isAhead fX11_isAhead_9 fX11_isAhead_24 fX11_isAhead_36 fX11_isAhead_92
  simp only [hk105, if_true, ix_nI (show k < 2147483648 by omega), nx_eq]
  generalize M.1 79 k = a at *
  generalize M.1 80 k = b at *
  generalize M.1 81 k = c at *
  have z : (0 : Int32).toInt = 0 := rfl
  have a0 : a = 0 ↔ a.toInt = 0 := fa_eq _ _
  have A0 : A = 0 ↔ A.toInt = 0 := fa_eq _ _
  obtain ⟨m1, m3, m4⟩ := mul99 ht.2.1 hs.1
  obtain ⟨m2, m5, m6⟩ := mul99 hs.2.1 ht.1
  have hd : (B * a - b * A).toInt = B.toInt * a.toInt - b.toInt * A.toInt := by
    rw [fb_subI (by omega) (by omega), m1, m2]
  have d0 : (B * a - b * A = 0) ↔ B.toInt * a.toInt = b.toInt * A.toInt := by rw [fa_eq, hd, z]; omega
  have d1 : (0 ≤ B * a - b * A) ↔ b.toInt * A.toInt ≤ B.toInt * a.toInt := by rw [fa_le, hd, z]; omega
  have d2 : (c ≤ C) ↔ ¬ C.toInt < c.toInt := by rw [fa_le]; omega
  have t01 : ¬ (0 : Int32) = 1 := by decide
  have t10 : ¬ (1 : Int32) = 0 := by decide
  have b0 : ((0 : Int32) &&& 1) = 0 := by decide
  have b1 : ((1 : Int32) &&& 1) = 1 := by decide
  simp only [d0, d1, d2, b0, b1]
  show ∃ r, _ ∧ (r = 0 ↔ ¬ lnLt (A.toInt, B.toInt, C.toInt) (a.toInt, b.toInt, c.toInt))
  unfold lnLt
  simp only
  by_cases h1 : A = 0
  · have h1' := A0.mp h1
    by_cases h2 : a = 0
    · have h2' := a0.mp h2
      have e : B.toInt * a.toInt = b.toInt * A.toInt := by rw [h1', h2', Int.mul_zero, Int.mul_zero]
      by_cases h3 : C.toInt < c.toInt
      · refine ⟨1, ?_, ?_⟩
        · rw [if_pos h1, if_pos h2, if_pos e, if_neg (fun q => q h3)]
        · simp [h1', h2', h3]
      · refine ⟨0, ?_, ?_⟩
        · rw [if_pos h1, if_pos h2, if_pos e, if_pos h3]
        · simp [h1', h2', h3]
    · have h2' : ¬ a.toInt = 0 := fun q => h2 (a0.mpr q)
      refine ⟨0, ?_, ?_⟩
      · simp only [h1, h2, if_true, if_false, t10]
        try rfl
      · simp [h1', h2']
  · have h1' : ¬ A.toInt = 0 := fun q => h1 (A0.mpr q)
    by_cases h2 : a = 0
    · have h2' := a0.mp h2
      refine ⟨1, ?_, ?_⟩
      · simp only [h1, h2, if_true, if_false, t01]
        try rfl
      · simp [h1', h2']
    · have h2' : ¬ a.toInt = 0 := fun q => h2 (a0.mpr q)
      by_cases e : B.toInt * a.toInt = b.toInt * A.toInt
      · by_cases h3 : C.toInt < c.toInt
        · refine ⟨1, ?_, ?_⟩
          · simp only [h1, h2, if_true, if_false, e, h3, not_true_eq_false]
            try rfl
          · simp [h1', h2', h3, e]
        · refine ⟨0, ?_, ?_⟩
          · simp only [h1, h2, if_true, if_false, e, h3, not_false_eq_true]
            try rfl
          · simp [h1', h2', h3, e]
      · by_cases h4 : b.toInt * A.toInt ≤ B.toInt * a.toInt
        · have h5 : ¬ B.toInt * a.toInt < b.toInt * A.toInt := by omega
          refine ⟨0, ?_, ?_⟩
          · simp only [h1, h2, if_true, if_false, e, h4]
            try rfl
          · simp [h1', h2', e, h5]
        · have h5 : B.toInt * a.toInt < b.toInt * A.toInt := by omega
          refine ⟨1, ?_, ?_⟩
          · simp only [h1, h2, if_true, if_false, e, h4]
            try rfl
          · simp [h1', h2', e, h5]
