theorem k_insert {M : Mem} {s : Nat} {A B C : Int32} (h : LnS M s) (hs : s < 105) (ht : smL A B C) (hq : lnOk (lnOf A B C)) :
    ∃ M1, fX2_insert A B C M = some M1 ∧ (((∃ i, i < s ∧ lo M i = lnOf A B C) ∧ M1 = M) ∨ (∃ k, k ≤ s ∧ (∀ i, i < k → lnLt (lo M i) (lnOf A B C)) ∧ (k < s → lnLt (lnOf A B C) (lo M k)) ∧ M1.1 26 4 = nI (s + 1) ∧ (∀ i, i < s + 1 → rw3 M1 i = inF (rw3 M) k (A, B, C) i) ∧ sm [(26, 26, some 4), (27, 29, none)] M M1)) := by
  obtain ⟨k, k1, k2, k3, k4⟩ := k_find h ht hq fX2_insert_30
  obtain ⟨h1, h2, h3, h4⟩ := id h
  unfold fX2_insert
  rw [k2]
  have e105 : (105 : Int32) = nI 105 := rfl
  have put : (k < s → lnLt (lnOf A B C) (lo M k)) → ∃ M1, fX2_insert_61 A B C (nI k) M = some M1 ∧ M1.1 26 4 = nI (s + 1) ∧ (∀ i, i < s + 1 → rw3 M1 i = inF (rw3 M) k (A, B, C) i) ∧ sm [(26, 26, some 4), (27, 29, none)] M M1 := by
    intro _
    unfold fX2_insert_61
    rw [nx_eq, h1]
    obtain ⟨S, s1, s2, s3, s4, s5⟩ := k_shift (A := A) (B := B) (C := C) fX2_insert_128 k (s - k) FU M (by have := FU_gt (n := s) (by omega); omega) (by omega)
    rw [show k + (s - k) = s by omega] at s1 s3 s4
    rw [s1]
    have o := s5.on [(26, 26, none)] (by decide) (by decide)
    have ik := inb_nI (show k < 105 by omega) (by decide)
    refine ⟨sI (sI (sI (sI S 27 k A) 28 k B) 29 k C) 26 4 (nI (s + 1)), ?_, sI_at .., fun i hi => ?_, ((((s5.up (by decide)).I (by rfl)).I (by rfl)).I (by rfl)).I (by rfl)⟩
    · unfold fX2_insert_128
      simp only [ik, if_true, ix_nI (show k < 2147483648 by omega), nx_eq]
      rw [sI_nk _ _ (show (26 : Nat) ≠ 29 by decide), sI_nk _ _ (show (26 : Nat) ≠ 28 by decide), sI_nk _ _ (show (26 : Nat) ≠ 27 by decide), o.i 26 4 rfl, h1, nI_s]
    · by_cases e : i = k
      · subst e
        unfold inF rw3
        simp [sI]
      · have e0 : rw3 (sI (sI (sI (sI S 27 k A) 28 k B) 29 k C) 26 4 (nI (s + 1))) i = rw3 S i := by
          unfold rw3; simp [sI, e]
        rw [e0]
        unfold inF
        by_cases c : i < k
        · rw [if_pos c, s2 i (by omega)]
        · rw [if_neg c, if_neg e, s3 i (by omega) (by omega)]
  unfold fX2_insert_30 fX2_insert_60
  rw [h1, e105, if_neg (nI_ge hs (by omega))]
  by_cases c : k = s
  · obtain ⟨M1, p1, p2, p3, p4⟩ := put (fun w => absurd w (by omega))
    refine ⟨M1, ?_, Or.inr ⟨k, k1, k3, fun w => absurd w (by omega), p2, p3, p4⟩⟩
    rw [if_pos (nI_le (by omega) (by omega)), p1]
  · have hk : k < s := by omega
    obtain ⟨r, r1, r2, r3⟩ := k_order (M := M) (k := k) (by omega) (h3 k hk).1 ht (h3 k hk).2 hq
    rw [if_neg (nI_ge hk (by omega)), r1, Option.bind_some]
    by_cases e : r = 0
    · rw [if_pos e]
      exact ⟨M, rfl, Or.inl ⟨⟨k, hk, r3.mp e⟩, rfl⟩⟩
    · rw [if_neg e]
      have hl : lnLt (lnOf A B C) (lo M k) := by
        rcases ln_tri (h3 k hk).2 hq with q | q | q
        · exact absurd q (k4 hk)
        · exact absurd (r3.mpr q) e
        · exact q
      obtain ⟨M1, p1, p2, p3, p4⟩ := put (fun _ => hl)
      exact ⟨M1, p1, Or.inr ⟨k, k1, k3, fun _ => hl, p2, p3, p4⟩⟩
