theorem e_meet {M : Mem} {r k l m : Nat} (hr : r ≤ 105) (hk : k < r) (hl : l < r) (hm : m < r) : fX11_meet M (nI k) (nI l) (nI m) = some (bI (!(apt (rw3R M) k l m))) := by
  have ik := inb_nI (show k < 105 by omega) (by decide)
  have il := inb_nI (show l < 105 by omega) (by decide)
  have im := inb_nI (show m < 105 by omega) (by decide)
  unfold fX11_meet fX11_meet_148 apt
  simp only [ik, il, im, if_true, ix_nI (show k < 2147483648 by omega), ix_nI (show l < 2147483648 by omega), ix_nI (show m < 2147483648 by omega), nx_eq, lg_eq]
  show (if c3N (rw3R M k) (rw3R M l) = 0 then some (0 : Int32) else if (M.1 79 m).toInt64 * c3X (rw3R M k) (rw3R M l) + (M.1 80 m).toInt64 * c3Y (rw3R M k) (rw3R M l) = (M.1 81 m).toInt64 * c3N (rw3R M k) (rw3R M l) then some ((1 : Int32) &&& 1) else some ((0 : Int32) &&& 1)) = some (bI (!(decide (c3N (rw3R M k) (rw3R M l) = 0) || !(decide ((M.1 79 m).toInt64 * c3X (rw3R M k) (rw3R M l) + (M.1 80 m).toInt64 * c3Y (rw3R M k) (rw3R M l) = (M.1 81 m).toInt64 * c3N (rw3R M k) (rw3R M l))))))
  by_cases c1 : c3N (rw3R M k) (rw3R M l) = 0
  · simp [c1, bI]
  · by_cases c2 : (M.1 79 m).toInt64 * c3X (rw3R M k) (rw3R M l) + (M.1 80 m).toInt64 * c3Y (rw3R M k) (rw3R M l) = (M.1 81 m).toInt64 * c3N (rw3R M k) (rw3R M l)
    · simp [c1, c2, bI]
    · simp [c1, c2, bI]
theorem e_proof29 {M : Mem} {r : Nat} (hr : r ≤ 105) (h27 : M.1 47 27 = nI r) (x : Int32) : ((∀ a b c, ¬ P3 (rw3R M) r a b c) ∧ fX11_proof_29 fX11_proof_74 fX11_proof_112 FU x 0 M = some (-1, M)) ∨ ∃ k l m, F3 (rw3R M) r k l m ∧ fX11_proof_29 fX11_proof_74 fX11_proof_112 FU x 0 M = fX11_proof_74 x (nI k) (nI l) (nI m) M := by
  have hh := for_or (σ := Unit) (fun f i _ => fX11_proof_29 fX11_proof_74 fX11_proof_112 f x i M) (fun _ => some ((-1 : Int32), M)) (fun ρ => ∃ k l m, F3 (rw3R M) r k l m ∧ ρ = fX11_proof_74 x (nI k) (nI l) (nI m) M) 0 r (by omega)
    (fun i _ => ∀ a b c, a < i → ¬ P3 (rw3R M) r a b c) ?_ ?_ () (fun a b c h => absurd h (by omega)) FU (by have := FU_gt (n := r) (by omega); omega)
  · rcases hh with h1 | ⟨-, h1, h2⟩
    · exact Or.inr h1
    · exact Or.inl ⟨fun a b c q => h2 a b c (by have := q.1; have := q.2.1; have := q.2.2.1; omega) q, h1⟩
  · rintro f k - - hk g
    have hun : fX11_proof_29 fX11_proof_74 fX11_proof_112 (f + 1) x (nI k) M = fX11_proof_41 fX11_proof_74 (fX11_proof_106 (fX11_proof_29 fX11_proof_74 fX11_proof_112 f) fX11_proof_74 fX11_proof_112) FU x (nI k) (nI (k + 1)) M := by
      rw [fX11_proof_29, h27, if_neg (nI_ge hk (by omega)), nx_eq, nI_s]
    have hh := for_or (σ := Unit) (fun f2 i _ => fX11_proof_41 fX11_proof_74 (fX11_proof_106 (fX11_proof_29 fX11_proof_74 fX11_proof_112 f) fX11_proof_74 fX11_proof_112) f2 x (nI k) i M) (fun _ => fX11_proof_29 fX11_proof_74 fX11_proof_112 f x (nI (k + 1)) M) (fun ρ => ∃ k l m, F3 (rw3R M) r k l m ∧ ρ = fX11_proof_74 x (nI k) (nI l) (nI m) M) (k + 1) r (by omega)
      (fun i _ => ∀ b c, b < i → ¬ P3 (rw3R M) r k b c) ?_ ?_ () (fun b c h q => by have := q.1; omega) FU (by have := FU_gt (n := r) (by omega); omega)
    · rcases hh with h1 | ⟨-, h1, h2⟩
      · left
        obtain ⟨a, b, c, w1, w2⟩ := h1
        exact ⟨a, b, c, w1, hun.trans w2⟩
      · right
        refine ⟨(), hun.trans h1, fun a b c ha q => ?_⟩
        by_cases e : a = k
        · subst e
          exact h2 b c (by have := q.2.1; have := q.2.2.1; omega) q
        · exact g a b c (by omega) q
    · rintro f2 l - hl1 hl2 g2
      have hun2 : fX11_proof_41 fX11_proof_74 (fX11_proof_106 (fX11_proof_29 fX11_proof_74 fX11_proof_112 f) fX11_proof_74 fX11_proof_112) (f2 + 1) x (nI k) (nI l) M = fX11_proof_54 fX11_proof_74 (fX11_proof_100 (fX11_proof_41 fX11_proof_74 (fX11_proof_106 (fX11_proof_29 fX11_proof_74 fX11_proof_112 f) fX11_proof_74 fX11_proof_112) f2) fX11_proof_74 (fX11_proof_106 (fX11_proof_29 fX11_proof_74 fX11_proof_112 f) fX11_proof_74 fX11_proof_112)) FU x (nI k) (nI l) (nI (l + 1)) M := by
        rw [fX11_proof_41, h27, if_neg (nI_ge hl2 (by omega)), nx_eq, nI_s]
      have hh := for_or (σ := Unit) (fun f3 i _ => fX11_proof_54 fX11_proof_74 (fX11_proof_100 (fX11_proof_41 fX11_proof_74 (fX11_proof_106 (fX11_proof_29 fX11_proof_74 fX11_proof_112 f) fX11_proof_74 fX11_proof_112) f2) fX11_proof_74 (fX11_proof_106 (fX11_proof_29 fX11_proof_74 fX11_proof_112 f) fX11_proof_74 fX11_proof_112)) f3 x (nI k) (nI l) i M) (fun _ => fX11_proof_41 fX11_proof_74 (fX11_proof_106 (fX11_proof_29 fX11_proof_74 fX11_proof_112 f) fX11_proof_74 fX11_proof_112) f2 x (nI k) (nI (l + 1)) M) (fun ρ => ∃ k l m, F3 (rw3R M) r k l m ∧ ρ = fX11_proof_74 x (nI k) (nI l) (nI m) M) (l + 1) r (by omega)
        (fun i _ => ∀ c, c < i → ¬ P3 (rw3R M) r k l c) ?_ ?_ () (fun c h q => by have := q.2.1; omega) FU (by have := FU_gt (n := r) (by omega); omega)
      · rcases hh with h1 | ⟨-, h1, h2⟩
        · left
          obtain ⟨a, b, c, w1, w2⟩ := h1
          exact ⟨a, b, c, w1, hun2.trans w2⟩
        · right
          refine ⟨(), hun2.trans h1, fun b c hb q => ?_⟩
          by_cases e : b = l
          · subst e
            exact h2 c q.2.2.1 q
          · exact g2 b c (by omega) q
      · rintro f3 m - hm1 hm2 g3
        have hun3 : fX11_proof_54 fX11_proof_74 (fX11_proof_100 (fX11_proof_41 fX11_proof_74 (fX11_proof_106 (fX11_proof_29 fX11_proof_74 fX11_proof_112 f) fX11_proof_74 fX11_proof_112) f2) fX11_proof_74 (fX11_proof_106 (fX11_proof_29 fX11_proof_74 fX11_proof_112 f) fX11_proof_74 fX11_proof_112)) (f3 + 1) x (nI k) (nI l) (nI m) M = if apt (rw3R M) k l m = true then fX11_proof_74 x (nI k) (nI l) (nI m) M else fX11_proof_54 fX11_proof_74 (fX11_proof_100 (fX11_proof_41 fX11_proof_74 (fX11_proof_106 (fX11_proof_29 fX11_proof_74 fX11_proof_112 f) fX11_proof_74 fX11_proof_112) f2) fX11_proof_74 (fX11_proof_106 (fX11_proof_29 fX11_proof_74 fX11_proof_112 f) fX11_proof_74 fX11_proof_112)) f3 x (nI k) (nI l) (nI (m + 1)) M := by
          rw [fX11_proof_54, h27, if_neg (nI_ge hm2 (by omega)), e_meet hr hk hl2 hm2, Option.bind_some, nx_eq, nI_s]
          cases apt (rw3R M) k l m <;> rfl
        by_cases c : apt (rw3R M) k l m = true
        · left
          rw [if_pos c] at hun3
          refine ⟨k, l, m, ⟨⟨by omega, by omega, hm2, c⟩, fun a b d q => ?_⟩, hun3⟩
          by_cases c1 : k < a
          · exact Or.inl c1
          · by_cases c2 : a < k
            · exact absurd q (g a b d c2)
            · have e : a = k := by omega
              subst e
              right
              refine ⟨rfl, ?_⟩
              by_cases d1 : l < b
              · exact Or.inl d1
              · by_cases d2 : b < l
                · exact absurd q (g2 b d d2)
                · have e2 : b = l := by omega
                  subst e2
                  right
                  refine ⟨rfl, ?_⟩
                  by_cases w : d < m
                  · exact absurd q (g3 d w)
                  · omega
        · right
          rw [if_neg c] at hun3
          refine ⟨(), hun3, fun d hd q => ?_⟩
          by_cases e : d = m
          · subst e; exact c q.2.2.2
          · exact g3 d (by omega) q
      · rintro f3 - -
        show fX11_proof_54 _ _ (f3 + 1) x (nI k) (nI l) (nI r) M = _
        rw [fX11_proof_54, h27, if_pos (nI_le (Nat.le_refl _) (by omega))]
        unfold fX11_proof_100
        rw [nx_eq, nI_s]
    · rintro f2 - -
      show fX11_proof_41 _ _ (f2 + 1) x (nI k) (nI r) M = _
      rw [fX11_proof_41, h27, if_pos (nI_le (Nat.le_refl _) (by omega))]
      unfold fX11_proof_106
      rw [nx_eq, nI_s]
  · rintro f - -
    show fX11_proof_29 _ _ (f + 1) x (nI r) M = _
    rw [fX11_proof_29, h27, if_pos (nI_le (Nat.le_refl _) (by omega))]
    rfl
/-! what the class and the reference keep of lines and places -/
def EfS (D : Dt) (P : Ln) : Prop := EV D D.1 P ∨ ∃ l m, lnS D D.1 0 l ∧ lnS D D.1 0 m ∧ l.1 * m.2.1 - m.1 * l.2.1 ≠ 0 ∧ onL l P ∧ onL m P
theorem Ef_S {D : Dt} {g : Nat → Ln} {r : Nat} (h : SR lnLt lnOk g r (lnS D D.1 0)) (P : Ln) : EfS D P ↔ Ef D g r P := by
  constructor
  · rintro (q | ⟨l, m, h1, h2, h3, h4, h5⟩)
    · exact Or.inl q
    · obtain ⟨i, i1, rfl⟩ := (h.2.2 l).mpr h1
      obtain ⟨j, j1, rfl⟩ := (h.2.2 m).mpr h2
      exact Or.inr ⟨i, j, i1, j1, h3, h4, h5⟩
  · rintro (q | ⟨i, j, h1, h2, h3, h4, h5⟩)
    · exact Or.inl q
    · exact Or.inr ⟨g i, g j, (h.2.2 _).mp ⟨i, h1, rfl⟩, (h.2.2 _).mp ⟨j, h2, rfl⟩, h3, h4, h5⟩
/-- proof lines as the class keeps them -/
def pfC (M : Mem) (r s : Nat) : Prop := (s ≠ 0 ∧ ∀ i, i < 3 → M.1 34 i = -1) ∨ (s = 0 ∧ (∀ a b c, ¬ P3 (rw3 M) r a b c) ∧ ∀ i, i < 3 → M.1 34 i = -1) ∨ (s = 0 ∧ ∃ k l m, F3 (rw3 M) r k l m ∧ M.1 34 0 = nI k ∧ M.1 34 1 = nI l ∧ M.1 34 2 = nI m)
def MC (M : Mem) : Prop := ∃ r s, r ≤ 105 ∧ s ≤ 2 ∧ LnK M r (lnS (cD M) (cD M).1 0) ∧ MdK M s (cS (cD M) (EfS (cD M))) ∧ pfC M r s
def MR (M : Mem) : Prop := ∃ s, s ≤ 2 ∧ MdKR M s (cS (cD M) (EfS (cD M)))
/-- Middles' cache, the Model's cache -/
def MK (M : Mem) : Prop := M.1 30 7 = M.1 1 14 → M.1 26 5 = M.1 1 14 ∧ MC M
def KR (M : Mem) : Prop := ¬ M.1 47 29 = 0 → LR M ∧ MR M
theorem MC_on {M M1 : Mem} (h : on [(1, 7, none), (26, 26, some 4), (27, 29, none), (30, 30, some 5), (31, 34, none)] M M1) (hl : MC M) : MC M1 := by
  obtain ⟨r, s, h0, h1, ⟨a1, a2, a3⟩, ⟨b1, b2, b3⟩, h4⟩ := hl
  have e : cD M1 = cD M := cD_on (h.sub (by decide))
  have e2 : rw3 M1 = rw3 M := by funext i; unfold rw3; rw [h.i 27 i rfl, h.i 28 i rfl, h.i 29 i rfl]
  refine ⟨r, s, h0, h1, ⟨(h.i 26 4 rfl).trans a1, fun i hi => ?_, ?_⟩, ⟨(h.i 30 5 rfl).trans b1, fun i hi => ?_, ?_⟩, ?_⟩
  · rw [h.i 27 i rfl, h.i 28 i rfl, h.i 29 i rfl]; exact a2 i hi
  · rw [e]
    refine a3.cg (fun i hi => ?_) (fun _ => Iff.rfl)
    unfold lo
    rw [h.i 27 i rfl, h.i 28 i rfl, h.i 29 i rfl]
  · rw [h.l 31 i rfl, h.l 32 i rfl, h.l 33 i rfl]; exact b2 i hi
  · rw [e]
    refine b3.cg (fun i hi => ?_) (fun _ => Iff.rfl)
    unfold ro
    rw [h.l 31 i rfl, h.l 32 i rfl, h.l 33 i rfl]
  · unfold pfC
    rw [e2, h.i 34 0 rfl, h.i 34 1 rfl, h.i 34 2 rfl]
    have : (∀ i, i < 3 → M1.1 34 i = -1) ↔ (∀ i, i < 3 → M.1 34 i = -1) := by
      constructor <;> intro q i hi
      · rw [← h.i 34 i rfl]; exact q i hi
      · rw [h.i 34 i rfl]; exact q i hi
    rw [this]
    exact h4
theorem MR_on {M M1 : Mem} (h : on [(1, 7, none), (47, 47, some 28), (82, 84, none)] M M1) (hl : MR M) : MR M1 := by
  obtain ⟨s, h1, b1, b2, b3⟩ := hl
  have e : cD M1 = cD M := cD_on (h.sub (by decide))
  refine ⟨s, h1, (h.i 47 28 rfl).trans b1, fun i hi => ?_, ?_⟩
  · rw [h.l 82 i rfl, h.l 83 i rfl, h.l 84 i rfl]; exact b2 i hi
  · rw [e]
    refine b3.cg (fun i hi => ?_) (fun _ => Iff.rfl)
    unfold roR
    rw [h.l 82 i rfl, h.l 83 i rfl, h.l 84 i rfl]
theorem MK_on {M M1 : Mem} (h : on [(1, 7, none), (26, 34, none)] M M1) (hl : MK M) : MK M1 := by
  intro q
  rw [h.i 30 7 rfl, h.i 1 14 rfl] at q
  rw [h.i 26 5 rfl, h.i 1 14 rfl]
  exact ⟨(hl q).1, MC_on (h.sub (by decide)) (hl q).2⟩
theorem KR_on {M M1 : Mem} (h : on [(1, 7, none), (47, 47, some 27), (47, 47, some 28), (47, 47, some 29), (79, 84, none)] M M1) (hl : KR M) : KR M1 := by
  intro q
  rw [h.i 47 29 rfl] at q
  exact ⟨LR_on (h.sub (by decide)) (hl q).1, MR_on (h.sub (by decide)) (hl q).2⟩
def rgKn : Rg := [(47, 47, some 27), (47, 47, some 28), (47, 47, some 29), (79, 84, none)]
theorem e_finds {M : Mem} {n p : Nat} (h : DI M n p) (hl : LR M) : ∃ M1, fX11_findsMiddles M = some M1 ∧ MR M1 ∧ sm [(47, 47, some 28), (82, 84, none)] M M1 := by
  unfold fX11_findsMiddles
  rw [nx_eq]
  have s0 : sm [(47, 47, some 28), (82, 84, none)] M (sI M 47 28 0) := sm_rf.I (by rfl)
  have h1 : DI (sI M 47 28 0) n p := DI_on (s0.on _ (by decide) (by decide)) h
  obtain ⟨M1, s, q1, q2, q3, q4⟩ := e_mvoters h1 (sI_at ..) fX11_findsMiddles_44
  rw [q1]
  unfold fX11_findsMiddles_44
  have s1 := s0.tr q4
  have e0 : cD (sI M 47 28 0) = cD M := cD_on (s0.on _ (by decide) (by decide))
  have e1 : cD M1 = cD M := cD_on (s1.on _ (by decide) (by decide))
  have hD1 : DI M1 n p := DI_on (s1.on _ (by decide) (by decide)) h
  have hl1 : LR M1 := LR_on (s1.on _ (by decide) (by decide)) hl
  obtain ⟨r, r1, r2, r3, r4⟩ := hl1
  have hcn : (cD M1).1 = n := hD1.cn
  obtain ⟨M2, t, t1, t2, t3, t4⟩ := e_mcross (s := s) hD1 r1 r2 (fun i hi => r3 i hi) (lv_of hD1 (fun i hi => by have := (r4.2.2 _).mp ⟨i, hi, rfl⟩; rw [hcn] at this; exact this)) (by rw [e1, ← e0]; exact q3) fX11_findsMiddles_181
  refine ⟨M2, t1, ⟨t, t2, ?_⟩, s1.tr t4⟩
  have e2 : cD M2 = cD M1 := cD_on (t4.on _ (by decide) (by decide))
  rw [e2]
  exact t3.cg (cS_cg (fun P => Ef_S r4 P))
theorem e_knows {M : Mem} {n p : Nat} (h : DI M n p) (hk : KR M) : ∃ M1, fX11_knows M = some M1 ∧ LR M1 ∧ MR M1 ∧ KR M1 ∧ sm rgKn M M1 := by
  unfold fX11_knows
  by_cases c : M.1 47 29 = 0
  · rw [if_pos c, nx_eq, nx_eq]
    have s0 : sm rgKn M (sI (sI M 47 29 1) 47 27 0) := (sm_rf.I (by rfl)).I (by rfl)
    obtain ⟨M1, q1, q2, q3⟩ := e_lines (M := sI (sI M 47 29 1) 47 27 0) (DI_on (s0.on _ (by decide) (by decide)) h) (sI_at ..) fX11_knows_53
    rw [q1]
    unfold fX11_knows_53
    have s1 := s0.tr (q3.up (by decide))
    obtain ⟨M2, t1, t2, t3⟩ := e_finds (DI_on (s1.on _ (by decide) (by decide)) h) q2
    rw [t1, Option.bind_some]
    have l2 : LR M2 := LR_on (t3.on _ (by decide) (by decide)) q2
    exact ⟨M2, rfl, l2, t2, fun _ => ⟨l2, t2⟩, s1.tr (t3.up (by decide))⟩
  · rw [if_neg c]
    exact ⟨M, rfl, (hk c).1, (hk c).2, hk, sm_rf⟩
theorem k_mrefresh {M : Mem} {n p : Nat} (h : DI M n p) (hl : LK M) (hm : MK M) : ∃ M1, fX4_refresh M = some M1 ∧ MC M1 ∧ LC M1 ∧ M1.1 30 7 = M.1 1 14 ∧ M1.1 26 5 = M.1 1 14 ∧ sm [(26, 26, some 4), (26, 26, some 5), (27, 29, none), (30, 30, some 5), (30, 30, some 7), (31, 34, none)] M M1 := by
  unfold fX4_refresh
  by_cases c : M.1 30 7 = M.1 1 14
  · rw [if_pos c]
    obtain ⟨g1, g2⟩ := hm c
    exact ⟨M, rfl, g2, hl g1, c, g1, sm_rf⟩
  · rw [if_neg c, nx_eq]
    have s0 : sm [(26, 26, some 4), (26, 26, some 5), (27, 29, none), (30, 30, some 5), (30, 30, some 7), (31, 34, none)] M (sI M 30 7 (M.1 1 14)) := sm_rf.I (by rfl)
    obtain ⟨M1, q1, q2, q3, q4, -⟩ := k_lrefresh (M := sI M 30 7 (M.1 1 14)) (DI_on (s0.on _ (by decide) (by decide)) h) (LK_on ((show sm [(30, 30, some 7)] M (sI M 30 7 (M.1 1 14)) from sm_rf.I (by rfl)).on _ (by decide) (by decide)) hl)
    rw [q1, Option.bind_some, nx_eq]
    have e14 : (sI M 30 7 (M.1 1 14)).1 1 14 = M.1 1 14 := by simp [sI]
    rw [e14] at q3
    have s1 := s0.tr (q4.up (by decide))
    have s2 := s1.I (k := 30) (j := 5) (v := 0) (by rfl)
    have hD2 : DI (sI M1 30 5 0) n p := DI_on (s2.on _ (by decide) (by decide)) h
    have lc2 : LC (sI M1 30 5 0) := LC_on ((show sm [(30, 30, some 5)] M1 (sI M1 30 5 0) from sm_rf.I (by rfl)).on _ (by decide) (by decide)) q2
    obtain ⟨M2, s, v1, v2, v3, v4⟩ := k_mvoters hD2 (sI_at ..) fX4_refresh_82
    rw [v1]
    unfold fX4_refresh_82
    have s3 := s2.tr (v4.up (by decide))
    have e2 : cD (sI M1 30 5 0) = cD M := cD_on (s2.on _ (by decide) (by decide))
    have e3 : cD M2 = cD M := cD_on (s3.on _ (by decide) (by decide))
    have hD3 : DI M2 n p := DI_on (s3.on _ (by decide) (by decide)) h
    have lc3 : LC M2 := LC_on (v4.on _ (by decide) (by decide)) lc2
    obtain ⟨r, r1, r2, r3, r4⟩ := id lc3
    have hcn : (cD M2).1 = n := hD3.cn
    obtain ⟨M3, t, t1, t2, t3, t4⟩ := k_mcross (s := s) hD3 r1 r2 (fun i hi => r3 i hi) (lv_of hD3 (fun i hi => by have := (r4.2.2 _).mp ⟨i, hi, rfl⟩; rw [hcn] at this; exact this)) (by rw [e3, ← e2]; exact v3) fX4_refresh_128
    rw [t1]
    unfold fX4_refresh_128 fX4_refresh_147
    have s4 := s3.tr (t4.up (by decide))
    obtain ⟨M4, f1, f2, f3⟩ := j_fill (k := 34) (len := 3) (by decide) (-1) M3
    rw [f1, Option.bind_some]
    have s5 := s4.tr (f3.up (by decide))
    have e5 : cD M4 = cD M2 := (cD_on (s5.on _ (by decide) (by decide))).trans e3.symm
    have lc5 : LC M4 := LC_on ((f3.on _ (by decide) (by decide))) (LC_on (t4.on _ (by decide) (by decide)) lc3)
    have o4 := t4.on [(26, 29, none)] (by decide) (by decide)
    have o5 := f3.on [(26, 33, none)] (by decide) (by decide)
    have h26 : M4.1 26 4 = nI r := by rw [o5.i 26 4 rfl, o4.i 26 4 rfl]; exact r2
    have lnk : LnK M4 r (lnS (cD M4) (cD M4).1 0) := by
      refine ⟨h26, fun i hi => ?_, ?_⟩
      · rw [o5.i 27 i rfl, o5.i 28 i rfl, o5.i 29 i rfl, o4.i 27 i rfl, o4.i 28 i rfl, o4.i 29 i rfl]; exact r3 i hi
      · rw [e5]
        refine r4.cg (fun i hi => ?_) (fun _ => Iff.rfl)
        unfold lo
        rw [o5.i 27 i rfl, o5.i 28 i rfl, o5.i 29 i rfl, o4.i 27 i rfl, o4.i 28 i rfl, o4.i 29 i rfl]
    have mdk : MdK M4 t (cS (cD M4) (EfS (cD M4))) := by
      refine ⟨(o5.i 30 5 rfl).trans t3.1, fun i hi => ?_, ?_⟩
      · rw [o5.l 31 i rfl, o5.l 32 i rfl, o5.l 33 i rfl]; exact t3.2.1 i hi
      · rw [e5]
        refine t3.2.2.cg (fun i hi => ?_) (cS_cg (fun P => Ef_S r4 P))
        unfold ro
        rw [o5.l 31 i rfl, o5.l 32 i rfl, o5.l 33 i rfl]
    have h305 : M4.1 30 5 = nI t := mdk.1
    have st7 : ∀ {X : Mem}, sm [(26, 26, some 4), (27, 29, none), (30, 30, some 5), (31, 34, none)] M1 X → X.1 30 7 = M.1 1 14 ∧ X.1 26 5 = M.1 1 14 := by
      intro X hX
      have o := hX.on [(26, 26, some 5), (30, 30, some 7)] (by decide) (by decide)
      rw [o.i 30 7 rfl, o.i 26 5 rfl, q3, (q4.on [(30, 30, some 7)] (by decide) (by decide)).i 30 7 rfl]
      simp [sI]
    have w4 : sm [(26, 26, some 4), (27, 29, none), (30, 30, some 5), (31, 34, none)] M1 M4 := (((sm_rf.I (by rfl)).tr (v4.up (by decide))).tr (t4.up (by decide))).tr (f3.up (by decide))
    rw [h305]
    by_cases ct : t = 0
    · subst ct
      rw [if_pos (show nI 0 = 0 from rfl)]
      obtain ⟨M5, p1, p2⟩ := k_findProof (M := M4) r1 h26
      rw [p1, Option.bind_some]
      rcases p2 with ⟨p2, rfl⟩ | ⟨k, l, m, p2, rfl⟩
      · exact ⟨M5, rfl, ⟨r, 0, r1, by omega, lnk, mdk, Or.inr (Or.inl ⟨rfl, p2, fun i hi => f2 i hi⟩)⟩, lc5, (st7 w4).1, (st7 w4).2, s5⟩
      · have s6 : sm [(34, 34, none)] M4 (put3 M4 k l m) := ((sm_rf.I (by rfl)).I (by rfl)).I (by rfl)
        have w5 := w4.tr (s6.up (by decide))
        have o6 := s6.on [(1, 7, none), (26, 33, none)] (by decide) (by decide)
        have e6 : cD (put3 M4 k l m) = cD M4 := cD_on (o6.sub (by decide))
        have er : rw3 (put3 M4 k l m) = rw3 M4 := by funext i; unfold rw3; rw [o6.i 27 i rfl, o6.i 28 i rfl, o6.i 29 i rfl]
        refine ⟨_, rfl, ⟨r, 0, r1, by omega, ⟨(o6.i 26 4 rfl).trans h26, fun i hi => ?_, ?_⟩, ⟨(o6.i 30 5 rfl).trans mdk.1, fun i hi => absurd hi (by omega), ?_⟩, Or.inr (Or.inr ⟨rfl, k, l, m, by rw [er]; exact p2, ?_, ?_, ?_⟩)⟩, LC_on (o6.sub (by decide)) lc5, (st7 w5).1, (st7 w5).2, s5.tr (s6.up (by decide))⟩
        · rw [o6.i 27 i rfl, o6.i 28 i rfl, o6.i 29 i rfl]; exact lnk.2.1 i hi
        · rw [e6]
          refine lnk.2.2.cg (fun i hi => ?_) (fun _ => Iff.rfl)
          unfold lo
          rw [o6.i 27 i rfl, o6.i 28 i rfl, o6.i 29 i rfl]
        · rw [e6]
          exact mdk.2.2.cg (fun i hi => absurd hi (by omega)) (fun _ => Iff.rfl)
        · unfold put3; simp [sI]
        · unfold put3; simp [sI]
        · unfold put3; simp [sI]
    · have nz : ¬ nI t = 0 := by
        intro q
        have := (fa_eq _ _).mp q
        rw [nI_toInt (by omega)] at this
        have z : (0 : Int32).toInt = 0 := rfl
        omega
      rw [if_neg nz]
      exact ⟨M4, rfl, ⟨r, t, r1, t2, lnk, mdk, Or.inl ⟨ct, fun i hi => f2 i hi⟩⟩, lc5, (st7 w4).1, (st7 w4).2, s5⟩
