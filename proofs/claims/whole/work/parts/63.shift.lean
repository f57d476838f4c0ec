/-! Lines.insert: the rows behind go one on -/
def rw3 (M : Mem) (i : Nat) : Int32 × Int32 × Int32 := (M.1 27 i, M.1 28 i, M.1 29 i)
theorem k_shift {A B C : Int32} (K : Int32 → Int32 → Int32 → Int32 → Mem → Option Mem) (at' : Nat) : ∀ (d f : Nat) (M : Mem), d < f → at' + d < 105 → ∃ M1, fX2_insert_67 K f A B C (nI at') (nI (at' + d)) M = K A B C (nI at') M1 ∧ (∀ i, i ≤ at' → rw3 M1 i = rw3 M i) ∧ (∀ i, at' < i → i ≤ at' + d → rw3 M1 i = rw3 M (i - 1)) ∧ (∀ i, at' + d < i → rw3 M1 i = rw3 M i) ∧ sm [(27, 29, none)] M M1
  | 0, f, M, hf, hs => by
    obtain ⟨f, rfl⟩ : ∃ g, f = g + 1 := ⟨f - 1, by omega⟩
    refine ⟨M, ?_, fun _ _ => rfl, fun i h1 h2 => by omega, fun _ _ => rfl, sm_rf⟩
    rw [fX2_insert_67, if_pos (nI_le (by omega) (by omega))]
  | d + 1, f, M, hf, hs => by
    obtain ⟨f, rfl⟩ : ∃ g, f = g + 1 := ⟨f - 1, by omega⟩
    have e1 : nI (at' + (d + 1)) - 1 = nI (at' + d) := by
      have := pk_sub (a := at' + (d + 1)) (b := 1) (by omega)
      exact this
    have e2 : nI (at' + (d + 1)) + (-1) = nI (at' + d) := by
      rw [← e1, Int32.sub_eq_add_neg]
    have i1 := inb_nI (show at' + d < 105 by omega) (by decide)
    have i2 := inb_nI (show at' + (d + 1) < 105 by omega) (by decide)
    generalize hS : sI (sI (sI M 27 (at' + (d + 1)) (M.1 27 (at' + d))) 28 (at' + (d + 1)) (M.1 28 (at' + d))) 29 (at' + (d + 1)) (M.1 29 (at' + d)) = S
    have sS : sm [(27, 29, none)] M S := by rw [← hS]; exact ((sm_rf.I (by rfl)).I (by rfl)).I (by rfl)
    have r1 : rw3 S (at' + (d + 1)) = rw3 M (at' + d) := by rw [← hS]; unfold rw3; simp [sI]
    have r2 : ∀ i, i ≠ at' + (d + 1) → rw3 S i = rw3 M i := by intro i hi; rw [← hS]; unfold rw3; simp [sI, hi]
    obtain ⟨M1, h1, h2, h3, h4, h5⟩ := k_shift K at' d f S (by omega) (by omega)
    refine ⟨M1, ?_, fun i hi => ?_, fun i h6 h7 => ?_, fun i hi => ?_, sS.tr h5⟩
    · rw [fX2_insert_67, if_neg (nI_ge (by omega) (by omega)), e1]
      simp only [i1, i2, if_true, ix_nI (show at' + d < 2147483648 by omega), ix_nI (show at' + (d + 1) < 2147483648 by omega), nx_eq, e2]
      rw [sI_nk M (k := 27) (a := 28) _ (by decide), sI_nk _ (k := 28) (a := 29) _ (by decide), sI_nk M (k := 27) (a := 29) _ (by decide), hS]
      exact h1
    · rw [h2 i hi, r2 i (by omega)]
    · by_cases e : i = at' + (d + 1)
      · rw [h4 i (by omega), e, r1]
        congr 1
      · rw [h3 i h6 (by omega), r2 (i - 1) (by omega)]
    · rw [h4 i (by omega), r2 i (by omega)]
