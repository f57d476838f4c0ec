/-! three lines that don't meet: the first such three -/
def apt (t : Nat → Int32 × Int32 × Int32) (k l m : Nat) : Bool := decide (c3N (t k) (t l) = 0) || !(decide ((t m).1.toInt64 * c3X (t k) (t l) + (t m).2.1.toInt64 * c3Y (t k) (t l) = (t m).2.2.toInt64 * c3N (t k) (t l)))
def P3 (t : Nat → Int32 × Int32 × Int32) (r k l m : Nat) : Prop := k < l ∧ l < m ∧ m < r ∧ apt t k l m = true
def F3 (t : Nat → Int32 × Int32 × Int32) (r k l m : Nat) : Prop := P3 t r k l m ∧ ∀ a b c, P3 t r a b c → (k < a ∨ (k = a ∧ (l < b ∨ (l = b ∧ m ≤ c))))
theorem F3_one {t u : Nat → Int32 × Int32 × Int32} {r k l m a b c : Nat} (h : F3 t r k l m) (g : F3 u r a b c) (e : ∀ i, i < r → t i = u i) : k = a ∧ l = b ∧ m = c := by
  have ap : ∀ {k l m : Nat}, k < r → l < r → m < r → apt t k l m = apt u k l m := by
    intro k l m h1 h2 h3
    unfold apt
    rw [e k h1, e l h2, e m h3]
  obtain ⟨⟨h1, h2, h3, h4⟩, h5⟩ := h
  obtain ⟨⟨g1, g2, g3, g4⟩, g5⟩ := g
  have q1 := h5 a b c ⟨g1, g2, g3, by rw [ap (by omega) (by omega) g3]; exact g4⟩
  have q2 := g5 k l m ⟨h1, h2, h3, by rw [← ap (by omega) (by omega) h3]; exact h4⟩
  omega
theorem P3_cg {t u : Nat → Int32 × Int32 × Int32} {r k l m : Nat} (e : ∀ i, i < r → t i = u i) (h : P3 t r k l m) : P3 u r k l m := by
  obtain ⟨h1, h2, h3, h4⟩ := h
  refine ⟨h1, h2, h3, ?_⟩
  unfold apt at h4 ⊢
  rw [← e k (by omega), ← e l (by omega), ← e m h3]
  exact h4
theorem k_apart {M : Mem} {r k l : Nat} (hr : r ≤ 105) (h26 : M.1 26 4 = nI r) (hk : k < l) (hl : l < r) : ∃ x, fX4_firstApart M (nI k) (nI l) = some x ∧ ((x = -1 ∧ ∀ m, l < m → m < r → apt (rw3 M) k l m = false) ∨ ∃ m, l < m ∧ m < r ∧ x = nI m ∧ apt (rw3 M) k l m = true ∧ ∀ c, l < c → c < m → apt (rw3 M) k l c = false) := by
  have ik := inb_nI (show k < 105 by omega) (by decide)
  have il := inb_nI (show l < 105 by omega) (by decide)
  unfold fX4_firstApart fX2_turnBetween fX2_crossingX fX2_crossingY
  simp only [ik, il, if_true, ix_nI (show k < 2147483648 by omega), ix_nI (show l < 2147483648 by omega), Option.bind_some, nx_eq, nI_s]
  show ∃ x, fX4_firstApart_37 M (fX4_firstApart_101 M) (fX4_firstApart_110 M) FU (c3N (rw3 M k) (rw3 M l)) (c3X (rw3 M k) (rw3 M l)) (c3Y (rw3 M k) (rw3 M l)) (nI (l + 1)) = some x ∧ _
  have hh := for_or (σ := Unit) (fun f i _ => fX4_firstApart_37 M (fX4_firstApart_101 M) (fX4_firstApart_110 M) f (c3N (rw3 M k) (rw3 M l)) (c3X (rw3 M k) (rw3 M l)) (c3Y (rw3 M k) (rw3 M l)) i) (fun _ => some (-1 : Int32)) (fun ρ => ∃ m, l < m ∧ m < r ∧ ρ = some (nI m) ∧ apt (rw3 M) k l m = true ∧ ∀ c, l < c → c < m → apt (rw3 M) k l c = false) (l + 1) r (by omega)
    (fun i _ => ∀ c, l < c → c < i → apt (rw3 M) k l c = false) ?_ ?_ () (fun c h1 h2 => absurd h2 (by omega)) FU (by have := FU_gt (n := r) (by omega); omega)
  · rcases hh with ⟨m, h1, h2, h3, h4⟩ | ⟨-, h1, h2⟩
    · exact ⟨nI m, h3, Or.inr ⟨m, h1, h2, rfl, h4⟩⟩
    · exact ⟨-1, h1, Or.inl ⟨rfl, h2⟩⟩
  · rintro f m - hm1 hm2 g
    have im := inb_nI (show m < 105 by omega) (by decide)
    have hun : fX4_firstApart_37 M (fX4_firstApart_101 M) (fX4_firstApart_110 M) (f + 1) (c3N (rw3 M k) (rw3 M l)) (c3X (rw3 M k) (rw3 M l)) (c3Y (rw3 M k) (rw3 M l)) (nI m) = if apt (rw3 M) k l m = true then some (nI m) else fX4_firstApart_37 M (fX4_firstApart_101 M) (fX4_firstApart_110 M) f (c3N (rw3 M k) (rw3 M l)) (c3X (rw3 M k) (rw3 M l)) (c3Y (rw3 M k) (rw3 M l)) (nI (m + 1)) := by
      rw [fX4_firstApart_37, h26, if_neg (nI_ge hm2 (by omega))]
      unfold fX4_firstApart_101 apt
      simp only [im, if_true, ix_nI (show m < 2147483648 by omega), nx_eq, nI_s, lg_eq]
      have e1 : (rw3 M m).1 = M.1 27 m := rfl
      have e2 : (rw3 M m).2.1 = M.1 28 m := rfl
      have e3 : (rw3 M m).2.2 = M.1 29 m := rfl
      rw [e1, e2, e3]
      by_cases c1 : c3N (rw3 M k) (rw3 M l) = 0
      · simp [c1]
      · by_cases c2 : (M.1 27 m).toInt64 * c3X (rw3 M k) (rw3 M l) + (M.1 28 m).toInt64 * c3Y (rw3 M k) (rw3 M l) = (M.1 29 m).toInt64 * c3N (rw3 M k) (rw3 M l)
        · simp [c1, c2]
        · simp [c1, c2]
    by_cases c : apt (rw3 M) k l m = true
    · left
      rw [if_pos c] at hun
      exact ⟨m, by omega, hm2, hun, c, g⟩
    · right
      rw [if_neg c] at hun
      refine ⟨(), hun, fun a h1 h2 => ?_⟩
      by_cases e : a = m
      · rw [e]; simpa using c
      · exact g a h1 (by omega)
  · rintro f - -
    show fX4_firstApart_37 M _ _ (f + 1) _ _ _ (nI r) = _
    rw [fX4_firstApart_37, h26, if_pos (nI_le (Nat.le_refl _) (by omega))]
    rfl
theorem nI_nn1 {m : Nat} (h : m < 2147483648) : ¬ nI m = -1 := by
  intro q
  have := (fa_eq _ _).mp q
  rw [nI_toInt h] at this
  have z : (-1 : Int32).toInt = -1 := rfl
  omega
def put3 (M : Mem) (k l m : Nat) : Mem := sI (sI (sI M 34 0 (nI k)) 34 1 (nI l)) 34 2 (nI m)
theorem k_findProof {M : Mem} {r : Nat} (hr : r ≤ 105) (h26 : M.1 26 4 = nI r) : ∃ M1, fX4_findProof M = some M1 ∧ (((∀ a b c, ¬ P3 (rw3 M) r a b c) ∧ M1 = M) ∨ ∃ k l m, F3 (rw3 M) r k l m ∧ M1 = put3 M k l m) := by
  unfold fX4_findProof
  have hh := for_or (σ := Unit) (fun f i _ => fX4_findProof_2 fX4_findProof_40 fX4_findProof_74 f i M) (fun _ => some M) (fun ρ => ∃ k l m, F3 (rw3 M) r k l m ∧ ρ = some (put3 M k l m)) 0 r (by omega)
    (fun i _ => ∀ a b c, a < i → ¬ P3 (rw3 M) r a b c) ?_ ?_ () (fun a b c h => absurd h (by omega)) FU (by have := FU_gt (n := r) (by omega); omega)
  · rcases hh with ⟨k, l, m, h1, h2⟩ | ⟨-, h1, h2⟩
    · exact ⟨_, h2, Or.inr ⟨k, l, m, h1, rfl⟩⟩
    · exact ⟨M, h1, Or.inl ⟨fun a b c q => h2 a b c (by have := q.1; have := q.2.1; have := q.2.2.1; omega) q, rfl⟩⟩
  · rintro f k - - hk g
    have hun : fX4_findProof_2 fX4_findProof_40 fX4_findProof_74 (f + 1) (nI k) M = fX4_findProof_17 fX4_findProof_40 (fX4_findProof_68 (fX4_findProof_2 fX4_findProof_40 fX4_findProof_74 f) fX4_findProof_40 fX4_findProof_74) FU (nI k) (nI (k + 1)) M := by
      rw [fX4_findProof_2, h26, if_neg (nI_ge hk (by omega)), nx_eq, nI_s]
    have hh := for_or (σ := Unit) (fun f2 i _ => fX4_findProof_17 fX4_findProof_40 (fX4_findProof_68 (fX4_findProof_2 fX4_findProof_40 fX4_findProof_74 f) fX4_findProof_40 fX4_findProof_74) f2 (nI k) i M) (fun _ => fX4_findProof_2 fX4_findProof_40 fX4_findProof_74 f (nI (k + 1)) M) (fun ρ => ∃ k l m, F3 (rw3 M) r k l m ∧ ρ = some (put3 M k l m)) (k + 1) r (by omega)
      (fun i _ => ∀ b c, b < i → ¬ P3 (rw3 M) r k b c) ?_ ?_ () (fun b c h q => by have := q.1; omega) FU (by have := FU_gt (n := r) (by omega); omega)
    · rcases hh with h1 | ⟨-, h1, h2⟩
      · left
        obtain ⟨a, b, c, w1, w2⟩ := h1
        exact ⟨a, b, c, w1, hun.trans w2⟩
      · right
        refine ⟨(), hun.trans h1, fun a b c ha q => ?_⟩
        by_cases e : a = k
        · subst e
          exact h2 b c (by have := q.2.1; have := q.2.2.1; omega) q
        · exact g a b c (by omega) q
    · rintro f2 l - hl1 hl2 g2
      obtain ⟨x, x1, x2⟩ := k_apart hr h26 (show k < l by omega) hl2
      rcases x2 with ⟨rfl, x3⟩ | ⟨m, m1, m2, rfl, m4, m5⟩
      · right
        refine ⟨(), ?_, fun b c hb q => ?_⟩
        · show fX4_findProof_17 _ _ (f2 + 1) (nI k) (nI l) M = _
          rw [fX4_findProof_17, h26, if_neg (nI_ge hl2 (by omega)), x1, Option.bind_some, if_pos rfl, nx_eq, nI_s]
        · by_cases e : b = l
          · subst e
            have := x3 c q.2.1 q.2.2.1
            rw [q.2.2.2] at this
            cases this
          · exact g2 b c (by omega) q
      · left
        refine ⟨k, l, m, ⟨⟨by omega, m1, m2, m4⟩, fun a b c q => ?_⟩, ?_⟩
        · by_cases c1 : k < a
          · exact Or.inl c1
          · by_cases c2 : a < k
            · exact absurd q (g a b c c2)
            · have e : a = k := by omega
              subst e
              right
              refine ⟨rfl, ?_⟩
              by_cases d1 : l < b
              · exact Or.inl d1
              · by_cases d2 : b < l
                · exact absurd q (g2 b c d2)
                · have e2 : b = l := by omega
                  subst e2
                  right
                  refine ⟨rfl, ?_⟩
                  by_cases w : c < m
                  · have := m5 c q.2.1 w
                    rw [q.2.2.2] at this
                    cases this
                  · omega
        · show fX4_findProof_17 _ _ (f2 + 1) (nI k) (nI l) M = _
          rw [fX4_findProof_17, h26, if_neg (nI_ge hl2 (by omega)), x1, Option.bind_some, if_neg (nI_nn1 (by omega))]
          rfl
    · rintro f2 - -
      show fX4_findProof_17 _ _ (f2 + 1) (nI k) (nI r) M = _
      rw [fX4_findProof_17, h26, if_pos (nI_le (Nat.le_refl _) (by omega))]
      unfold fX4_findProof_68
      rw [nx_eq, nI_s]
  · rintro f - -
    show fX4_findProof_2 _ _ (f + 1) (nI r) M = _
    rw [fX4_findProof_2, h26, if_pos (nI_le (Nat.le_refl _) (by omega))]
    rfl
