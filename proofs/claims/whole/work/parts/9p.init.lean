/-! two new objects -/
theorem init_ok : INV 0 false MI0 := by
  have z : ∀ k j, (k ≠ 21 ∧ k ≠ 26 ∧ k ≠ 34 ∧ k ≠ 30 ∧ k ≠ 35 ∧ k ≠ 36 ∧ k ≠ 40) → MI0.1 k j = 0 := by
    intro k j ⟨h1, h2, h3, h4, h5, h6, h7⟩
    unfold MI0
    simp [sI, sL, MZ, h1, h2, h3, h4, h5, h6, h7]
  have m1 : (-1 : Int32).toInt = -1 := by decide
  have n1 : ¬ (-1 : Int32) = 0 := by decide
  have a1 : MI0.1 21 7 = -1 := by unfold MI0; simp [sI, sL, MZ]
  have a2 : MI0.1 26 5 = -1 := by unfold MI0; simp [sI, sL, MZ]
  have a3 : MI0.1 30 7 = -1 := by unfold MI0; simp [sI, sL, MZ]
  have a4 : MI0.1 35 6 = -1 := by unfold MI0; simp [sI, sL, MZ]
  have a5 : MI0.1 36 8 = -1 := by unfold MI0; simp [sI, sL, MZ]
  have a6 : MI0.1 40 9 = -1 := by unfold MI0; simp [sI, sL, MZ]
  have a7 : MI0.1 21 8 = -1 := by unfold MI0; simp [sI, sL, MZ]
  have a8 : MI0.1 36 9 = -1 := by unfold MI0; simp [sI, sL, MZ]
  have a9 : MI0.1 40 10 = -1 := by unfold MI0; simp [sI, sL, MZ]
  have n0 : nI 0 = 0 := rfl
  refine ⟨0, 0, 0, 0, ⟨by omega, by omega⟩, ⟨⟨by rw [z _ _ (by decide), n0], by rw [z _ _ (by decide), n0]⟩, ⟨by rw [a1, m1]; decide, by rw [a2, m1]; decide, by rw [a3, m1]; decide, by rw [a4, m1]; decide, by rw [a5, m1]; decide, by rw [a6, m1]; decide⟩, ⟨by rw [a7, m1]; decide, by rw [a8, m1]; decide, by rw [a9, m1]; decide⟩, fun w => by cases w⟩, ?_, ?_, ?_, ?_, ?_, ⟨?_, ?_, ?_⟩, ?_, ?_, fun w => by cases w⟩
  · refine ⟨⟨by omega, by omega, fun _ => rfl⟩, ⟨by rw [z _ _ (by decide), n0], by rw [z _ _ (by decide), n0], by rw [z _ _ (by decide), n0], by rw [z _ _ (by decide), n0]⟩, fun v hv => absurd hv (Nat.not_lt_zero _), fun v hv => absurd hv (Nat.not_lt_zero _), ⟨?_, fun v hv => ?_⟩, fun v hv => absurd hv (Nat.not_lt_zero _), ⟨⟨?_, fun w => ?_⟩, Or.inl ?_, fun w => ?_⟩, ?_⟩
    · show ix (MI0.1 1 0) = ix (MI0.1 73 0)
      rw [z _ _ (by decide), z _ _ (by decide)]
    · have hv : v < ix (MI0.1 1 0) := hv
      rw [z _ _ (by decide)] at hv
      exact absurd hv (Nat.not_lt_zero _)
    · show MI0.1 1 11 = MI0.1 75 0
      rw [z _ _ (by decide), z _ _ (by decide)]
    · exact absurd (show MI0.1 1 11 = 0 from z _ _ (by decide)) w
    · show MI0.1 1 11 = 0
      exact z _ _ (by decide)
    · exact absurd (show MI0.1 1 11 = 0 from z _ _ (by decide)) w
    · unfold totD
      rw [show (cD MI0).1 = 0 by show ix (MI0.1 1 0) = 0; rw [z _ _ (by decide)]; rfl, z _ _ (by decide)]
      rfl
  · exact ⟨0, by omega, by rw [z _ _ (by decide), n0], by rw [z _ _ (by decide), n0], fun j hj => absurd hj (Nat.not_lt_zero _)⟩
  · exact ⟨0, by omega, by rw [z _ _ (by decide), n0], by rw [z _ _ (by decide), n0], fun j hj => absurd hj (Nat.not_lt_zero _)⟩
  · intro w
    rw [a1, z _ _ (by decide)] at w
    exact absurd w n1
  · intro w
    rw [a6, z _ _ (by decide)] at w
    exact absurd w n1
  · intro w
    rw [a2, z _ _ (by decide)] at w
    exact absurd w n1
  · intro w
    rw [a3, z _ _ (by decide)] at w
    exact absurd w n1
  · intro w
    exact absurd (z 47 29 (by decide)) w
  · intro w
    rw [a4, z _ _ (by decide)] at w
    exact absurd w n1
  · intro w
    rw [a5, z _ _ (by decide)] at w
    exact absurd w n1
