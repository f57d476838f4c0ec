/-! Lines.order and isAhead are the turning order -/
def lnOf (A B C : Int32) : Ln := (A.toInt, B.toInt, C.toInt)
theorem mul99 {a b : Int32} (ha : -99 ≤ a.toInt ∧ a.toInt ≤ 99) (hb : -99 ≤ b.toInt ∧ b.toInt ≤ 99) : (a * b).toInt = a.toInt * b.toInt ∧ -9801 ≤ (a * b).toInt ∧ (a * b).toInt ≤ 9801 := by
  have key : -9801 ≤ a.toInt * b.toInt ∧ a.toInt * b.toInt ≤ 9801 := by
    by_cases c : 0 ≤ b.toInt
    · exact pr_rng ha.1 ha.2 c (by omega)
    · have := pr_rng (a := a.toInt) (b := -b.toInt) ha.1 ha.2 (by omega) (by omega)
      rw [Int.mul_neg] at this
      omega
  have e : (a * b).toInt = a.toInt * b.toInt := fb_mulI (by omega) (by omega)
  rw [e]
  exact ⟨rfl, key⟩
theorem k_cmp (M : Mem) (x y : Int32) : ∃ r, fJ6_compare_7cf53 M x y = some r ∧ (r < 0 ↔ x.toInt < y.toInt) ∧ (r = 0 ↔ x.toInt = y.toInt) := by
  unfold fJ6_compare_7cf53
  by_cases c1 : x < y
  · have h1 := (fa_lt _ _).mp c1
    refine ⟨-1, ?_, ?_, ?_⟩
    · rw [if_neg (show ¬ y ≤ x by rw [fa_le]; omega)]; rfl
    · simp [h1]
    · have : ¬ x.toInt = y.toInt := by omega
      simp [this]
  · have h1 : ¬ x.toInt < y.toInt := fun q => c1 ((fa_lt _ _).mpr q)
    have hle : y ≤ x := fa_of_nlt c1
    by_cases c2 : x = y
    · subst c2
      refine ⟨0, ?_, ?_, ?_⟩
      · simp
        try rfl
      · simp
      · simp
    · have h2 : ¬ x.toInt = y.toInt := fun q => c2 ((fa_eq _ _).mpr q)
      refine ⟨1, ?_, ?_, ?_⟩
      · simp [c2, hle]
        try rfl
      · simp [h1]
      · simp [h2]
/-- the class's order of line k and a new one -/
theorem k_order {M : Mem} {k : Nat} (hk : k < 105) {A B C : Int32} (hs : smL (M.1 27 k) (M.1 28 k) (M.1 29 k)) (ht : smL A B C) (ho : lnOk (lnOf (M.1 27 k) (M.1 28 k) (M.1 29 k))) (hq : lnOk (lnOf A B C)) :
    ∃ r, fX2_order M (nI k) A B C = some r ∧ (r < 0 ↔ lnLt (lnOf (M.1 27 k) (M.1 28 k) (M.1 29 k)) (lnOf A B C)) ∧ (r = 0 ↔ lnOf (M.1 27 k) (M.1 28 k) (M.1 29 k) = lnOf A B C) := by
  have hk105 := inb_nI hk (by decide)
  unfold fX2_order fX2_order_32 fX2_order_45 fX2_order_59
  simp only [hk105, if_true, ix_nI (show k < 2147483648 by omega)]
  generalize M.1 27 k = a at *
  generalize M.1 28 k = b at *
  generalize M.1 29 k = c at *
  have z : (0 : Int32).toInt = 0 := rfl
  have inj : lnOf a b c = lnOf A B C ↔ a = A ∧ b = B ∧ c = C := by
    unfold lnOf
    simp only [Prod.mk.injEq, ← fa_eq]
  have a0 : a = 0 ↔ a.toInt = 0 := fa_eq _ _
  have A0 : A = 0 ↔ A.toInt = 0 := fa_eq _ _
  rw [inj]
  by_cases e1 : a = A ∧ b = B
  · obtain ⟨rfl, rfl⟩ := e1
    obtain ⟨r, r1, r2, r3⟩ := k_cmp M c C
    refine ⟨r, ?_, ?_, ?_⟩
    · rw [if_pos rfl, if_pos rfl, r1]; rfl
    · rw [r2]
      show _ ↔ lnLt (a.toInt, b.toInt, c.toInt) (a.toInt, b.toInt, C.toInt)
      unfold lnLt
      simp only
      by_cases h0 : a.toInt = 0
      · simp [h0]
      · simp [h0]
    · rw [r3, ← fa_eq]; simp
  · have hun : (if a = A then if b = B then (fJ6_compare_7cf53 M c C).bind (fun q => some q) else (if a = 0 then (if a = 0 then some 1 else some (-1)) else if A = 0 then (if a = 0 then some 1 else some (-1)) else (fJ6_compare_7cf53 M (b * A) (B * a)).bind (fun q => some q)) else (if a = 0 then (if a = 0 then some 1 else some (-1)) else if A = 0 then (if a = 0 then some 1 else some (-1)) else (fJ6_compare_7cf53 M (b * A) (B * a)).bind (fun q => some q))) = (if a = 0 then some (1 : Int32) else if A = 0 then some (-1) else (fJ6_compare_7cf53 M (b * A) (B * a)).bind (fun q => some q)) := by
      by_cases h1 : a = A
      · have h2 : ¬ b = B := fun q => e1 ⟨h1, q⟩
        rw [if_pos h1, if_neg h2]
        by_cases h3 : a = 0 <;> by_cases h4 : A = 0 <;> simp [h3, h4]
      · rw [if_neg h1]
        by_cases h3 : a = 0 <;> by_cases h4 : A = 0 <;> simp [h3, h4]
    have ne : ¬ (a = A ∧ b = B ∧ c = C) := fun q => e1 ⟨q.1, q.2.1⟩
    by_cases h3 : a = 0
    · refine ⟨1, ?_, ?_, ?_⟩
      · refine Eq.trans hun ?_
        rw [if_pos h3]
      · have l0 : a.toInt = 0 := a0.mp h3
        have nl : ¬ lnLt (lnOf a b c) (lnOf A B C) := by
          show ¬ lnLt (a.toInt, b.toInt, c.toInt) (A.toInt, B.toInt, C.toInt)
          unfold lnLt
          simp only
          rintro (⟨q, -⟩ | ⟨-, q, -⟩ | ⟨q, -⟩)
          · exact q l0
          · have b1 : b.toInt = 1 := ln_b1 ho l0
            have b2 : B.toInt = 1 := ln_b1 hq q
            exact e1 ⟨(fa_eq _ _).mpr (by omega), (fa_eq _ _).mpr (by omega)⟩
          · exact q l0
        simp [nl]
      · simp [ne]
    · by_cases h4 : A = 0
      · refine ⟨-1, ?_, ?_, ?_⟩
        · refine Eq.trans hun ?_
          rw [if_neg h3, if_pos h4]
        · have l : lnLt (lnOf a b c) (lnOf A B C) := Or.inl ⟨fun q => h3 (a0.mpr q), A0.mp h4⟩
          simp [l]
        · simp [ne]
      · obtain ⟨m1, -, -⟩ := mul99 hs.2.1 ht.1
        obtain ⟨m2, -, -⟩ := mul99 ht.2.1 hs.1
        obtain ⟨r, r1, r2, r3⟩ := k_cmp M (b * A) (B * a)
        rw [m1, m2] at r2 r3
        have nd : ¬ b.toInt * A.toInt = B.toInt * a.toInt := by
          intro q
          obtain ⟨q1, q2⟩ := ln_dir ho hq (fun w => h3 (a0.mpr w)) (fun w => h4 (A0.mpr w)) q
          exact e1 ⟨(fa_eq _ _).mpr q1, (fa_eq _ _).mpr q2⟩
        refine ⟨r, ?_, ?_, ?_⟩
        · refine Eq.trans hun ?_
          rw [if_neg h3, if_neg h4, r1]; rfl
        · rw [r2]
          show _ ↔ lnLt (a.toInt, b.toInt, c.toInt) (A.toInt, B.toInt, C.toInt)
          unfold lnLt
          have n1 : ¬ a.toInt = 0 := fun w => h3 (a0.mpr w)
          have n2 : ¬ A.toInt = 0 := fun w => h4 (A0.mpr w)
          simp [n1, n2, nd]
        · rw [r3]; simp [ne, nd]
