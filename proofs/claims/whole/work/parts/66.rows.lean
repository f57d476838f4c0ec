/-! rows in order that hold a set: there is one such row -/
def SR {T : Type} (lt : T → T → Prop) (ok : T → Prop) (f : Nat → T) (s : Nat) (S : T → Prop) : Prop := srt lt f s ∧ (∀ i, i < s → ok (f i)) ∧ ∀ x, (∃ i, i < s ∧ f i = x) ↔ S x
theorem SR.one {T : Type} {lt : T → T → Prop} {ok : T → Prop} (irr : ∀ a, ¬ lt a a) (tr : ∀ a b c, ok a → ok b → ok c → lt a b → lt b c → lt a c) {f g : Nat → T} {s t : Nat} {S : T → Prop} (hf : SR lt ok f s S) (hg : SR lt ok g t S) : s = t ∧ ∀ i, i < s → f i = g i := by
  have key : ∀ i, i < s → i < t → f i = g i := by
    intro i
    induction i using Nat.strongRecOn with
    | ind i ih =>
      intro hs ht
      obtain ⟨j, j1, j2⟩ := (hg.2.2 (f i)).mpr ((hf.2.2 (f i)).mp ⟨i, hs, rfl⟩)
      obtain ⟨k, k1, k2⟩ := (hf.2.2 (g i)).mpr ((hg.2.2 (g i)).mp ⟨i, ht, rfl⟩)
      have hj : ¬ j < i := by
        intro q
        have e := ih j q (by omega) (by omega)
        have := hf.1 j i q hs
        rw [e, j2] at this
        exact irr _ this
      have hk : ¬ k < i := by
        intro q
        have e := ih k q (by omega) (by omega)
        have := hg.1 k i q ht
        rw [← e, k2] at this
        exact irr _ this
      by_cases e1 : j = i
      · rw [← j2, e1]
      · by_cases e2 : k = i
        · rw [← k2, e2]
        · have a1 := hg.1 i j (by omega) j1
          have a2 := hf.1 i k (by omega) k1
          rw [j2] at a1
          rw [k2] at a2
          exact absurd (tr _ _ _ (hf.2.1 i hs) (hg.2.1 i ht) (hf.2.1 i hs) a2 a1) (irr _)
  have e : s = t := by
    by_cases c : s < t
    · obtain ⟨k, k1, k2⟩ := (hf.2.2 (g s)).mpr ((hg.2.2 (g s)).mp ⟨s, c, rfl⟩)
      have := hg.1 k s k1 c
      rw [← key k k1 (by omega), k2] at this
      exact absurd this (irr _)
    · by_cases c2 : t < s
      · obtain ⟨k, k1, k2⟩ := (hg.2.2 (f t)).mpr ((hf.2.2 (f t)).mp ⟨t, c2, rfl⟩)
        have := hf.1 k t k1 c2
        rw [key k (by omega) k1, k2] at this
        exact absurd this (irr _)
      · omega
  exact ⟨e, fun i hi => key i hi (by omega)⟩
theorem SR.nil {T : Type} {lt : T → T → Prop} {ok : T → Prop} (f : Nat → T) {S : T → Prop} (hS : ∀ x, ¬ S x) : SR lt ok f 0 S :=
  ⟨fun i j _ h => absurd h (by omega), fun i h => absurd h (by omega), fun x => ⟨fun ⟨i, h, _⟩ => absurd h (by omega), fun h => absurd h (hS x)⟩⟩
theorem SR.cg {T : Type} {lt : T → T → Prop} {ok : T → Prop} {f g : Nat → T} {s : Nat} {S S1 : T → Prop} (h : SR lt ok f s S) (hg : ∀ i, i < s → g i = f i) (hS : ∀ x, S1 x ↔ S x) : SR lt ok g s S1 := by
  refine ⟨fun i j h1 h2 => ?_, fun i hi => ?_, fun x => ?_⟩
  · rw [hg i (by omega), hg j h2]; exact h.1 i j h1 h2
  · rw [hg i hi]; exact h.2.1 i hi
  · rw [hS, ← h.2.2 x]
    constructor
    · rintro ⟨i, h1, h2⟩; exact ⟨i, h1, (hg i h1).symm.trans h2⟩
    · rintro ⟨i, h1, h2⟩; exact ⟨i, h1, (hg i h1).trans h2⟩
/-- one more put in -/
theorem SR.put {T : Type} {lt : T → T → Prop} {ok : T → Prop} (tr : ∀ a b c, ok a → ok b → ok c → lt a b → lt b c → lt a c) (tri : ∀ a b, ok a → ok b → lt a b ∨ a = b ∨ lt b a) {f : Nat → T} {s k : Nat} {S : T → Prop} {x : T} (h : SR lt ok f s S) (hx : ok x) (hk : k ≤ s) (h1 : ∀ i, i < k → lt (f i) x) (h2 : k < s → lt x (f k)) : SR lt ok (inF f k x) (s + 1) (fun y => S y ∨ y = x) := by
  obtain ⟨a1, a2⟩ := in_srt tr tri h.2.1 hx h.1 h1 h2 hk
  refine ⟨a1, a2, fun y => ⟨?_, ?_⟩⟩
  · rintro ⟨i, hi, e⟩
    unfold inF at e
    by_cases c1 : i < k
    · rw [if_pos c1] at e; exact Or.inl ((h.2.2 y).mp ⟨i, by omega, e⟩)
    · rw [if_neg c1] at e
      by_cases c2 : i = k
      · rw [if_pos c2] at e; exact Or.inr e.symm
      · rw [if_neg c2] at e; exact Or.inl ((h.2.2 y).mp ⟨i - 1, by omega, e⟩)
  · rintro (q | q)
    · obtain ⟨i, hi, e⟩ := (h.2.2 y).mpr q
      by_cases c1 : i < k
      · exact ⟨i, by omega, by unfold inF; rw [if_pos c1]; exact e⟩
      · exact ⟨i + 1, by omega, by unfold inF; rw [if_neg (by omega), if_neg (by omega)]; exact e⟩
    · exact ⟨k, by omega, by unfold inF; rw [if_neg (by omega), if_pos rfl]; exact q.symm⟩
/-! the reference's lines -/
def rw3R (M : Mem) (i : Nat) : Int32 × Int32 × Int32 := (M.1 79 i, M.1 80 i, M.1 81 i)
def loR (M : Mem) (i : Nat) : Ln := lnOf (M.1 79 i) (M.1 80 i) (M.1 81 i)
theorem e_lshift {A B C : Int32} {M : Mem} {s : Nat} (hs : s < 105) (hrow : ∀ i, i < s → smL (M.1 79 i) (M.1 80 i) (M.1 81 i)) (ht : smL A B C) (K : Int32 → Int32 → Int32 → Int32 → Mem → Option Mem) : ∀ (k f : Nat) (S : Mem), k < f → k ≤ s → (∀ i, i ≤ k → rw3R S i = rw3R M i) → (∀ i, k < i → i ≤ s → rw3R S i = rw3R M (i - 1)) →
    ∃ r S1, r ≤ k ∧ fX11_addsLine_58 K f A B C (nI k) S = K A B C (nI r) S1 ∧ (∀ i, i ≤ r → rw3R S1 i = rw3R M i) ∧ (∀ i, r < i → i ≤ s → rw3R S1 i = rw3R M (i - 1)) ∧ (∀ i, r ≤ i → i < k → lnLt (lnOf A B C) (loR M i)) ∧ (0 < r → ¬ lnLt (lnOf A B C) (loR M (r - 1))) ∧ sm [(79, 81, none)] S S1
  | 0, f, S, hf, hk, h1, h2 => by
    obtain ⟨f, rfl⟩ : ∃ g, f = g + 1 := ⟨f - 1, by omega⟩
    refine ⟨0, S, Nat.le_refl _, ?_, h1, h2, fun i _ h => absurd h (by omega), fun h => absurd h (by omega), sm_rf⟩
    rw [fX11_addsLine_58, if_pos (by decide)]
  | k + 1, f, S, hf, hk, h1, h2 => by
    obtain ⟨f, rfl⟩ : ∃ g, f = g + 1 := ⟨f - 1, by omega⟩
    have e1 : nI (k + 1) - 1 = nI k := by
      have := pk_sub (a := k + 1) (b := 1) (by omega)
      exact this
    have e2 : nI (k + 1) + (-1) = nI k := by
      rw [← e1, Int32.sub_eq_add_neg]
    have i1 := inb_nI (show k < 105 by omega) (by decide)
    have i2 := inb_nI (show k + 1 < 105 by omega) (by decide)
    have n0 : ¬ nI (k + 1) ≤ 0 := nI_ge (a := 0) (b := k + 1) (by omega) (by omega)
    have rk := h1 k (by omega)
    unfold rw3R at rk
    obtain ⟨r1, r2⟩ := Prod.mk.inj rk
    obtain ⟨r2, r3⟩ := Prod.mk.inj r2
    have sk : smL (S.1 79 k) (S.1 80 k) (S.1 81 k) := by rw [r1, r2, r3]; exact hrow k (by omega)
    obtain ⟨r, q1, q2⟩ := e_isAhead (M := S) (k := k) (by omega) sk ht
    rw [r1, r2, r3] at q2
    have hun : fX11_addsLine_58 K (f + 1) A B C (nI (k + 1)) S = if r = 0 then K A B C (nI (k + 1)) S else fX11_addsLine_58 K f A B C (nI k) (sI (sI (sI S 79 (k + 1) (S.1 79 k)) 80 (k + 1) (S.1 80 k)) 81 (k + 1) (S.1 81 k)) := by
      rw [fX11_addsLine_58, if_neg n0, e1, q1, Option.bind_some]
      simp only [i1, i2, if_true, ix_nI (show k < 2147483648 by omega), ix_nI (show k + 1 < 2147483648 by omega), nx_eq, e2]
      rw [sI_nk S (k := 79) (a := 80) _ (by decide), sI_nk _ (k := 80) (a := 81) _ (by decide), sI_nk S (k := 79) (a := 81) _ (by decide)]
    by_cases c : r = 0
    · rw [if_pos c] at hun
      exact ⟨k + 1, S, Nat.le_refl _, hun, h1, h2, fun i a b => absurd b (by omega), fun _ => q2.mp c, sm_rf⟩
    · rw [if_neg c] at hun
      have hl : lnLt (lnOf A B C) (loR M k) := Classical.byContradiction fun w => c (q2.mpr w)
      generalize hS : sI (sI (sI S 79 (k + 1) (S.1 79 k)) 80 (k + 1) (S.1 80 k)) 81 (k + 1) (S.1 81 k) = S2 at hun
      have sS : sm [(79, 81, none)] S S2 := by rw [← hS]; exact ((sm_rf.I (by rfl)).I (by rfl)).I (by rfl)
      have t1 : rw3R S2 (k + 1) = rw3R S k := by rw [← hS]; unfold rw3R; simp [sI]
      have t2 : ∀ i, i ≠ k + 1 → rw3R S2 i = rw3R S i := by intro i hi; rw [← hS]; unfold rw3R; simp [sI, hi]
      obtain ⟨r', S1, g1, g2, g3, g4, g5, g6, g7⟩ := e_lshift hs hrow ht K k f S2 (by omega) (by omega) (fun i hi => by rw [t2 i (by omega)]; exact h1 i (by omega)) (fun i a b => by
        by_cases e : i = k + 1
        · rw [e, t1]; exact h1 k (by omega)
        · rw [t2 i e]; exact h2 i (by omega) b)
      refine ⟨r', S1, by omega, hun.trans g2, g3, g4, fun i a b => ?_, g6, sS.tr g7⟩
      by_cases e : i = k
      · rw [e]; exact hl
      · exact g5 i a (by omega)
/-- the reference's lines are in order, s of them -/
def LnSR (M : Mem) (s : Nat) : Prop := M.1 47 27 = nI s ∧ s ≤ 105 ∧ (∀ i, i < s → smL (M.1 79 i) (M.1 80 i) (M.1 81 i) ∧ lnOk (loR M i)) ∧ srt lnLt (loR M) s
theorem e_addsLine {M : Mem} {s : Nat} {A B C : Int32} (h : LnSR M s) (hs : s < 105) (ht : smL A B C) (hq : lnOk (lnOf A B C)) :
    ∃ M1, fX11_addsLine A B C M = some M1 ∧ (((∃ i, i < s ∧ loR M i = lnOf A B C) ∧ M1 = M) ∨ (∃ k, k ≤ s ∧ (∀ i, i < k → lnLt (loR M i) (lnOf A B C)) ∧ (k < s → lnLt (lnOf A B C) (loR M k)) ∧ M1.1 47 27 = nI (s + 1) ∧ (∀ i, i < s + 1 → rw3R M1 i = inF (rw3R M) k (A, B, C) i) ∧ sm [(47, 47, some 27), (79, 81, none)] M M1)) := by
  obtain ⟨h1, h2, h3, h4⟩ := h
  unfold fX11_addsLine
  have hh := for_or (σ := Unit) (fun f i _ => fX11_addsLine_3 fX11_addsLine_45 fX11_addsLine_52 f A B C i M) (fun _ => fX11_addsLine_52 A B C M) (fun ρ => (∃ i, i < s ∧ loR M i = lnOf A B C) ∧ ρ = some M) 0 s (by omega)
    (fun i _ => ∀ j, j < i → loR M j ≠ lnOf A B C) ?_ ?_ () (fun j hj => absurd hj (by omega)) FU (by have := FU_gt (n := s) (by omega); omega)
  · rcases hh with ⟨q1, q2⟩ | ⟨-, q1, q2⟩
    · exact ⟨M, q2, Or.inl ⟨q1, rfl⟩⟩
    · rw [show nI 0 = (0 : Int32) from rfl] at q1
      rw [q1]
      unfold fX11_addsLine_52
      rw [nx_eq, h1]
      obtain ⟨r, S, g1, g2, g3, g4, g5, g6, g7⟩ := e_lshift hs (fun i hi => (h3 i hi).1) ht fX11_addsLine_131 s FU M (FU_gt (by omega)) (Nat.le_refl _) (fun _ _ => rfl) (fun i a b => by omega)
      rw [g2]
      have o := g7.on [(47, 47, none)] (by decide) (by decide)
      have ik := inb_nI (show r < 105 by omega) (by decide)
      refine ⟨sI (sI (sI (sI S 79 r A) 80 r B) 81 r C) 47 27 (nI (s + 1)), ?_, Or.inr ⟨r, g1, fun i hi => ?_, fun hr => g5 r (Nat.le_refl _) hr, sI_at .., fun i hi => ?_, ((((g7.up (by decide)).I (by rfl)).I (by rfl)).I (by rfl)).I (by rfl)⟩⟩
      · unfold fX11_addsLine_131
        simp only [ik, if_true, ix_nI (show r < 2147483648 by omega), nx_eq]
        rw [sI_nk _ _ (show (47 : Nat) ≠ 81 by decide), sI_nk _ _ (show (47 : Nat) ≠ 80 by decide), sI_nk _ _ (show (47 : Nat) ≠ 79 by decide), o.i 47 27 rfl, h1, nI_s]
      · have hl : lnLt (loR M (r - 1)) (lnOf A B C) := by
          rcases ln_tri (h3 (r - 1) (by omega)).2 hq with w | w | w
          · exact w
          · exact absurd w (q2 (r - 1) (by omega))
          · exact absurd w (g6 (by omega))
        by_cases e : i = r - 1
        · rw [e]; exact hl
        · exact ln_tr (h3 i (by omega)).2 (h3 (r - 1) (by omega)).2 hq (h4 i (r - 1) (by omega) (by omega)) hl
      · by_cases e : i = r
        · subst e
          unfold inF rw3R
          simp [sI]
        · have e0 : rw3R (sI (sI (sI (sI S 79 r A) 80 r B) 81 r C) 47 27 (nI (s + 1))) i = rw3R S i := by
            unfold rw3R; simp [sI, e]
          rw [e0]
          unfold inF
          by_cases c : i < r
          · rw [if_pos c, g3 i (by omega)]
          · rw [if_neg c, if_neg e, g4 i (by omega) (by omega)]
  · rintro f i - - hi g
    have ik := inb_nI (show i < 105 by omega) (by decide)
    by_cases c : loR M i = lnOf A B C
    · left
      refine ⟨⟨i, hi, c⟩, ?_⟩
      unfold loR lnOf at c
      simp only [Prod.mk.injEq, ← fa_eq] at c
      show fX11_addsLine_3 _ _ (f + 1) A B C (nI i) M = _
      rw [fX11_addsLine_3, h1, if_neg (nI_ge hi (by omega))]
      simp only [ik, if_true, ix_nI (show i < 2147483648 by omega), c.1, c.2.1, c.2.2]
      rfl
    · right
      refine ⟨(), ?_, fun j hj => ?_⟩
      · show fX11_addsLine_3 _ _ (f + 1) A B C (nI i) M = _
        rw [fX11_addsLine_3, h1, if_neg (nI_ge hi (by omega))]
        unfold loR lnOf at c
        simp only [Prod.mk.injEq, ← fa_eq] at c
        unfold fX11_addsLine_46
        simp only [ik, if_true, ix_nI (show i < 2147483648 by omega), nx_eq, nI_s]
        by_cases c1 : M.1 79 i = A
        · by_cases c2 : M.1 80 i = B
          · by_cases c3 : M.1 81 i = C
            · exact absurd ⟨c1, c2, c3⟩ c
            · rw [if_pos c1, if_pos c2, if_neg c3]
          · rw [if_pos c1, if_neg c2]
        · rw [if_neg c1]
      · by_cases e : j = i
        · rw [e]; exact c
        · exact g j (by omega)
  · intro f _ _
    show fX11_addsLine_3 _ _ (f + 1) A B C (nI s) M = _
    rw [fX11_addsLine_3, h1, if_pos (nI_le (Nat.le_refl _) (by omega))]
