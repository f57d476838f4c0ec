/-- one row as whole numbers -/
def lo (M : Mem) (i : Nat) : Ln := lnOf (M.1 27 i) (M.1 28 i) (M.1 29 i)
/-- the class's lines are in order, s of them -/
def LnS (M : Mem) (s : Nat) : Prop := M.1 26 4 = nI s ∧ s ≤ 105 ∧ (∀ i, i < s → smL (M.1 27 i) (M.1 28 i) (M.1 29 i) ∧ lnOk (lo M i)) ∧ srt lnLt (lo M) s
theorem k_find {M : Mem} {s : Nat} {A B C : Int32} (h : LnS M s) (ht : smL A B C) (hq : lnOk (lnOf A B C)) (K : Int32 → Int32 → Int32 → Int32 → Mem → Option Mem) : ∃ k, k ≤ s ∧ fX2_insert_3 K FU A B C 0 M = K A B C (nI k) M ∧ (∀ i, i < k → lnLt (lo M i) (lnOf A B C)) ∧ (k < s → ¬ lnLt (lo M k) (lnOf A B C)) := by
  obtain ⟨h1, h2, h3, h4⟩ := h
  have hh := for_or (σ := Unit) (fun f i _ => fX2_insert_3 K f A B C i M) (fun _ => K A B C (nI s) M) (fun ρ => ∃ k, k ≤ s ∧ ρ = K A B C (nI k) M ∧ (∀ i, i < k → lnLt (lo M i) (lnOf A B C)) ∧ (k < s → ¬ lnLt (lo M k) (lnOf A B C))) 0 s (by omega)
    (fun i _ => ∀ j, j < i → lnLt (lo M j) (lnOf A B C)) ?_ ?_ () (fun j hj => absurd hj (by omega)) FU (by have := FU_gt (n := s) (by omega); omega)
  · rcases hh with q | ⟨-, q1, q2⟩
    · exact q
    · exact ⟨s, Nat.le_refl s, q1, q2, fun w => absurd w (by omega)⟩
  · rintro f i - - hi g
    obtain ⟨r, r1, r2, -⟩ := k_order (M := M) (k := i) (by omega) (h3 i hi).1 ht (h3 i hi).2 hq
    have hun : fX2_insert_3 K (f + 1) A B C (nI i) M = if 0 ≤ r then K A B C (nI i) M else fX2_insert_3 K f A B C (nI (i + 1)) M := by
      rw [fX2_insert_3, h1, if_neg (nI_ge hi (by omega)), r1, Option.bind_some]
      simp only [nx_eq, nI_s]
    by_cases c : r < 0
    · right
      refine ⟨(), ?_, fun j hj => ?_⟩
      · refine hun.trans ?_
        rw [if_neg (show ¬ (0 : Int32) ≤ r by rw [fa_le]; have := (fa_lt _ _).mp c; omega)]
      · by_cases e : j = i
        · rw [e]; exact r2.mp c
        · exact g j (by omega)
    · left
      refine ⟨i, by omega, ?_, g, fun _ q => c (r2.mpr q)⟩
      refine hun.trans ?_
      rw [if_pos (fa_of_nlt c)]
  · intro f _ _
    show fX2_insert_3 K (f + 1) A B C (nI s) M = _
    rw [fX2_insert_3, h1, if_pos (nI_le (Nat.le_refl _) (by omega))]
