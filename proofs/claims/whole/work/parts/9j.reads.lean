/-! one statement, all statements -/
theorem w_told {Y Y1 B : Mem} {c : Int32} {f : Mem → Option (Int32 × Mem)} (hp : fX11_passes 1 Y = some (1, B)) (h : (fX11_passes 1 Y).bind (fun q => f q.2) = some (c, Y1)) (hc : c = 0 ∨ c = 1) : (fX11_passes 1 Y).bind (fun q => if q.1 = 0 then some ((0 : Int32) &&& 1, q.2) else (f q.2).bind (fun r => if r.1 = 0 then some ((0 : Int32) &&& 1, r.2) else some ((1 : Int32) &&& 1, r.2))) = some (c, Y1) := by
  rw [hp, Option.bind_some] at h
  rw [hp, Option.bind_some]
  show (if (1 : Int32) = 0 then _ else _) = _
  rw [if_neg (by decide)]
  show (f B).bind _ = _
  rw [show f B = some (c, Y1) from h, Option.bind_some]
  exact told_end hc
theorem w_and {X X1 : Mem} {c : Int32} {f : Option (Int32 × Mem)} (h : f = some (c, X1)) (hc : c = 0 ∨ c = 1) : f.bind (fun q => some (q.1 &&& 1, q.2)) = some (c, X1) := by
  rw [h, Option.bind_some]
  rcases hc with rfl | rfl
  · show some ((0 : Int32) &&& 1, X1) = _; rw [b01]
  · show some ((1 : Int32) &&& 1, X1) = _; rw [b11]
theorem st_one {T : Nat → Int32} {L s : Nat} {X Y : Mem} (hL : L ≤ 600) (h : SM T L s X Y) (hs : s < L) : ∃ c X1 Y1, (c = 0 ∨ c = 1) ∧ fX6_readOne X = some (c, X1) ∧ fX11_told Y = some (c, Y1) ∧ RZ T L s c X1 Y1 := by
  obtain ⟨h1, h2, h3, h4⟩ := h.1
  obtain ⟨B, hB, -, -⟩ := e_pass1 hL h3 h2
  have q8 : wdB T L s 8 = wdB T L s 13 := wd_eq (by decide) (by decide) (by decide)
  have q9 : wdB T L s 9 = wdB T L s 14 := wd_eq (by decide) (by decide) (by decide)
  have q10 : wdB T L s 10 = wdB T L s 15 := wd_eq (by decide) (by decide) (by decide)
  have q11 : wdB T L s 11 = wdB T L s 16 := wd_eq (by decide) (by decide) (by decide)
  have q12 : wdB T L s 12 = wdB T L s 17 := wd_eq (by decide) (by decide) (by decide)
  unfold fX6_readOne fX11_told
  rw [k_isWord (w := 13) hL h3 (by decide) h1, e_isWord (w := 8) hL h3 (by decide) h2, q8, Option.bind_some, Option.bind_some]
  cases c13 : wdB T L s 13 with
  | true =>
    rw [if_neg (show ¬ bI true = 0 by decide), if_neg (show ¬ bI true = 0 by decide)]
    obtain ⟨c, X1, Y1, z0, z1, z2, z3⟩ := st_near hL h hs
    exact ⟨c, X1, Y1, z0, w_and (X := X) z1 z0, w_told hB z2 z0, z3⟩
  | false =>
  rw [if_pos (show bI false = 0 by decide), if_pos (show bI false = 0 by decide)]
  rw [k_isWord (w := 14) hL h3 (by decide) h1, e_isWord (w := 9) hL h3 (by decide) h2, q9, Option.bind_some, Option.bind_some]
  cases c14 : wdB T L s 14 with
  | true =>
    rw [if_neg (show ¬ bI true = 0 by decide), if_neg (show ¬ bI true = 0 by decide)]
    obtain ⟨c, X1, Y1, z0, z1, z2, z3⟩ := st_stretch hL h hs
    exact ⟨c, X1, Y1, z0, w_and (X := X) z1 z0, w_told hB z2 z0, z3⟩
  | false =>
  rw [if_pos (show bI false = 0 by decide), if_pos (show bI false = 0 by decide)]
  rw [k_isWord (w := 15) hL h3 (by decide) h1, e_isWord (w := 10) hL h3 (by decide) h2, q10, Option.bind_some, Option.bind_some]
  cases c15 : wdB T L s 15 with
  | true =>
    rw [if_neg (show ¬ bI true = 0 by decide), if_neg (show ¬ bI true = 0 by decide)]
    obtain ⟨c, X1, Y1, z0, z1, z2, z3⟩ := st_voter hL h hs
    exact ⟨c, X1, Y1, z0, w_and (X := X) z1 z0, z2, z3⟩
  | false =>
  rw [if_pos (show bI false = 0 by decide), if_pos (show bI false = 0 by decide)]
  rw [k_isWord (w := 16) hL h3 (by decide) h1, e_isWord (w := 11) hL h3 (by decide) h2, q11, Option.bind_some, Option.bind_some]
  cases c16 : wdB T L s 16 with
  | true =>
    rw [if_neg (show ¬ bI true = 0 by decide), if_neg (show ¬ bI true = 0 by decide)]
    obtain ⟨c, X1, Y1, z0, z1, z2, z3⟩ := st_place hL h hs
    exact ⟨c, X1, Y1, z0, w_and (X := X) z1 z0, z2, z3⟩
  | false =>
  rw [if_pos (show bI false = 0 by decide), if_pos (show bI false = 0 by decide)]
  rw [k_isWord (w := 17) hL h3 (by decide) h1, e_isWord (w := 12) hL h3 (by decide) h2, q12, Option.bind_some, Option.bind_some]
  cases c17 : wdB T L s 17 with
  | true =>
    rw [if_neg (show ¬ bI true = 0 by decide), if_neg (show ¬ bI true = 0 by decide)]
    obtain ⟨c, X1, Y1, z0, z1, z2, z3⟩ := st_win hL h hs
    refine ⟨c, X1, Y1, z0, ?_, z2, z3⟩
    rw [z1, Option.bind_some]
    exact told_end z0
  | false =>
  rw [if_pos (show bI false = 0 by decide), if_pos (show bI false = 0 by decide)]
  obtain ⟨Y1, b1, b2, -⟩ := e_pass0 h2 h4
  unfold fX11_told_171 fX11_told_172 fX11_told_189 fX11_told_190
  rw [b1, Option.bind_some]
  refine ⟨0, X, Y1, Or.inl rfl, ?_, ?_, Or.inr ⟨rfl, s, h3, h1.2.1, b2⟩⟩
  · unfold fX6_readOne_76 fX6_readOne_77
    rw [b01]
  · show (if (0 : Int32) = 0 then _ else _) = _
    rw [if_pos rfl, b01]
theorem kd_0 {T : Nat → Int32} {L s : Nat} : kd T L s = 0 ↔ L ≤ s := by
  unfold kd
  by_cases c : s < L
  · rw [if_pos c]
    constructor
    · intro w
      exfalso
      split at w
      · exact absurd w (by decide)
      · split at w
        · exact absurd w (by decide)
        · split at w
          · exact absurd w (by decide)
          · split at w <;> exact absurd w (by decide)
    · intro w; omega
  · rw [if_neg c]
    exact ⟨fun _ => by omega, fun _ => rfl⟩
theorem lp_reads {T : Nat → Int32} {L : Nat} (hL : L ≤ 600) : ∀ (d s i f g : Nat) (X Y : Mem), L - s ≤ d → d < f → d + 1 < g → i ≤ s → SM T L s X Y → ∃ c X1 Y1, fX6_findFault_38 fX6_findFault_59 fX6_findFault_70 f (nI i) X = some (c, X1) ∧ fX11_reads_71 fX11_reads_94 g 1 Y = some Y1 ∧ Y1.1 47 4 = c ∧ ((c = -1 ∧ DD X1 Y1 ∧ (∃ a, 0 < a ∧ DV X1 Y1 a)) ∨ ∃ k, k ≤ L ∧ c = nI k) := by
  intro d
  induction d with
  | zero =>
    intro s i f g X Y h1 h2 h3 h4 h
    obtain ⟨⟨t1, t2, t3, t4⟩, hd⟩ := id h
    obtain ⟨f, rfl⟩ : ∃ f', f = f' + 1 := ⟨f - 1, by omega⟩
    obtain ⟨g, rfl⟩ : ∃ g', g = g' + 1 := ⟨g - 1, by omega⟩
    have sL : s = L := by omega
    obtain ⟨⟨a, d1⟩, -⟩ := id hd
    have k0 : kd T L s = 0 := kd_0.mpr (by omega)
    rw [fX6_findFault_38, fX11_reads_71, if_neg (show ¬ (1 : Int32) = 0 by decide), t2.1.1, t2.2.1, if_pos (show nI L ≤ nI s by rw [sL]; exact nI_le (Nat.le_refl _) (by omega)), t1.2.2.2.1, k0, if_pos rfl]
    have e1 : (if (600 : Int32) ≤ nI i then fX6_findFault_70 X else fX6_findFault_70 X) = fX6_findFault_70 X := by split <;> rfl
    rw [e1]
    unfold fX6_findFault_70 fX6_findFault_91 fX6_findFault_95 fX11_reads_94 fX11_reads_115
    rw [t1.2.2.2.1, k0, if_pos rfl, if_neg (show ¬ (1 : Int32) = 0 by decide), ix_1, d1.2.2.1, d1.2.1, nx_eq, t1.2.1, t2.1.1]
    by_cases c : a = 0
    · rw [if_pos (show nI a ≤ 0 by rw [c]; decide), if_pos (show nI a = 0 by rw [c]; rfl)]
      exact ⟨_, _, _, rfl, rfl, by rw [sL]; exact sI_at .., Or.inr ⟨s, by omega, rfl⟩⟩
    · have a15 := d1.1
      have n1 : ¬ nI a ≤ 0 := nI_ge (a := 0) (b := a) (by omega) (by omega)
      have n2 : ¬ nI a = 0 := fun w => n1 (by rw [w]; decide)
      rw [if_neg n1, if_neg n2]
      exact ⟨_, _, _, rfl, rfl, t4, Or.inl ⟨rfl, hd, a, by omega, d1⟩⟩
  | succ d ih =>
    intro s i f g X Y h1 h2 h3 h4 h
    by_cases hs : s < L
    · obtain ⟨⟨t1, t2, t3, t4⟩, hd⟩ := id h
      obtain ⟨f, rfl⟩ : ∃ f', f = f' + 1 := ⟨f - 1, by omega⟩
      obtain ⟨g, rfl⟩ : ∃ g', g = g' + 1 := ⟨g - 1, by omega⟩
      obtain ⟨c, X1, Y1, z0, z1, z2, z3⟩ := st_one hL h hs
      have nk : ¬ kd T L s = 0 := fun w => by have := kd_0.mp w; omega
      rw [fX6_findFault_38, fX11_reads_71, if_neg (show ¬ (600 : Int32) ≤ nI i from nI_ge (a := i) (b := 600) (by omega) (by omega)), if_neg (show ¬ (1 : Int32) = 0 by decide), t2.1.1, t2.2.1, if_neg (nI_ge (by omega) (by omega)), t1.2.2.2.1, if_neg nk, z1, Option.bind_some, z2, Option.bind_some]
      rcases z3 with ⟨rfl, s1, l1, m1⟩ | ⟨rfl, k, k1, k2, k3⟩
      · show ∃ c X2 Y2, (if (1 : Int32) = 0 then _ else _) = some (c, X2) ∧ nx (1 : Int32) (fun v90 => fX11_reads_71 fX11_reads_94 g v90 Y1) = some Y2 ∧ _
        rw [if_neg (by decide), nx_eq, nx_eq, nI_s]
        have := m1.1.2.2.1
        exact ih s1 (i + 1) f g X1 Y1 (by omega) (by omega) (by omega) (by omega) m1
      · obtain ⟨g, rfl⟩ : ∃ g', g = g' + 1 := ⟨g - 1, by omega⟩
        show ∃ c X2 Y2, (if (0 : Int32) = 0 then _ else _) = some (c, X2) ∧ nx (0 : Int32) (fun v90 => fX11_reads_71 fX11_reads_94 (g + 1) v90 Y1) = some Y2 ∧ _
        rw [if_pos rfl, nx_eq, fX11_reads_71, if_pos rfl]
        unfold fX6_findFault_59 fX11_reads_94 fX11_reads_115
        rw [if_pos rfl, k2]
        exact ⟨_, _, _, rfl, rfl, k3, Or.inr ⟨k, k1, rfl⟩⟩
    · obtain ⟨f, rfl⟩ : ∃ f', f = f' + 1 := ⟨f - 1, by omega⟩
      obtain ⟨g, rfl⟩ : ∃ g', g = g' + 1 := ⟨g - 1, by omega⟩
      exact ih s i (f + 1) (g + 1) X Y (by omega) (by omega) (by omega) h4 h
theorem st_all {T : Nat → Int32} {L : Nat} {X Y : Mem} (hL : L ≤ 600) (x1 : X.1 10 1 = nI L) (xT : ∀ j, j < L → X.1 11 j = T j) (y1 : Y.1 47 1 = nI L) (yT : ∀ j, j < L → Y.1 48 j = T j) : ∃ c X1 Y1, fX6_findFault X = some (c, X1) ∧ fX11_reads Y = some Y1 ∧ Y1.1 47 4 = c ∧ ((c = -1 ∧ DD X1 Y1 ∧ (∃ a, 0 < a ∧ DV X1 Y1 a)) ∨ ∃ k, k ≤ L ∧ c = nI k) := by
  unfold fX6_findFault fX8_clear_d fX11_reads
  simp only [nx_eq, Option.bind_some, ix_1]
  generalize hA : sI (sI (sI (sI (sI (sI (sI (sI (sI (sI (sI X 12 0 0) 12 7 0) 12 8 0) 12 11 0) 12 12 1) 12 13 1) 10 7 0) 10 8 1) 10 9 1) 10 10 0) 10 5 0 = A
  generalize hB : sI (sI (sI (sI (sI (sI (sI (sI (sI (sI (sI Y 47 4 (-1)) 73 1 0) 74 1 0) 75 1 0) 76 1 1) 77 1 2) 47 19 0) 47 20 1) 47 21 1) 47 22 0) 47 2 0 = B
  have a1 : A.1 10 1 = nI L := by rw [← hA, ← x1]; simp [sI]
  have aT : ∀ j, j < L → A.1 11 j = T j := fun j hj => by rw [← xT j hj, ← hA]; simp [sI]
  have a5 : A.1 10 5 = nI 0 := by rw [← hA]; exact sI_at ..
  have b1 : B.1 47 1 = nI L := by rw [← hB, ← y1]; simp [sI]
  have bT : ∀ j, j < L → B.1 48 j = T j := fun j hj => by rw [← yT j hj, ← hB]; simp [sI]
  have b2 : B.1 47 2 = nI 0 := by rw [← hB]; exact sI_at ..
  have dd : DD A B := by
    rw [← hA, ← hB]
    refine ⟨⟨0, ?_⟩, ⟨0, ?_⟩, ?_, ?_, ?_⟩
    · refine ⟨by omega, ?_, ?_, fun v hv => absurd hv (Nat.not_lt_zero _)⟩
      · simp [sI]; rfl
      · simp [sI]; rfl
    · refine ⟨by omega, ?_, ?_, fun v hv => absurd hv (Nat.not_lt_zero _)⟩
      · simp [sI]; rfl
      · simp [sI]; rfl
    · unfold DNw
      refine ⟨⟨?_, ?_, ?_⟩, ?_, ?_, ?_⟩ <;> simp [sI, inN]
    · refine ⟨?_, Or.inl ?_⟩ <;> simp [sI]
    · refine ⟨?_, Or.inl ?_⟩ <;> simp [sI]
  have b4 : B.1 47 4 = -1 := by rw [← hB]; simp [sI]
  obtain ⟨X1, c1, c2, c3⟩ := k_next (T := T) (e := 0) hL (by omega) a1 aT a5
  obtain ⟨Y1, r1, r2, r3⟩ := e_skips (T := T) (e := 0) hL (by omega) b1 bT b2
  rw [c1, r1, Option.bind_some, Option.bind_some]
  have hs := sk_le (T := T) (L := L) (s := 0) (by omega)
  exact lp_reads hL L (skS T L 0) 0 FU FU X1 Y1 (by omega) (FU_gt (by omega)) (FU_gt (by omega)) (by omega) ⟨⟨c2, r2, hs.2, by rw [(r3.on [(47, 47, some 4)] (by decide) (by decide)).i 47 4 rfl]; exact b4⟩, DD_on (c3.on _ (by decide) (by decide)) (r3.on _ (by decide) (by decide)) dd⟩
def rgFlt : Rg := [(13, 20, none), (10, 10, some 3), (10, 10, some 4), (10, 10, some 5), (10, 10, some 6), (10, 10, some 7), (10, 10, some 8), (10, 10, some 9), (10, 10, some 10), (12, 12, none), (51, 51, none), (54, 54, none), (57, 57, none), (60, 60, none), (63, 63, none), (66, 66, none), (69, 69, none), (72, 72, none), (73, 77, some 1), (47, 47, some 2), (47, 47, some 3), (47, 47, some 4), (47, 47, some 5), (47, 47, some 19), (47, 47, some 20), (47, 47, some 21), (47, 47, some 22)]
/-- both readers, one after the other -/
theorem rd_all {M : Mem} (h : TX M) : ∃ c M1, fX6_findFault M = some (c, M1) ∧ ∀ Y : Mem, on [(47, 47, some 1), (48, 48, none)] M1 Y → ∃ Y1, fX11_reads Y = some Y1 ∧ Y1.1 47 4 = c ∧ ((c = -1 ∧ DD M1 Y1 ∧ (∃ a, 0 < a ∧ DV M1 Y1 a)) ∨ ∃ k, k ≤ 600 ∧ c = nI k) := by
  obtain ⟨L, h1, h2, h3, h4⟩ := h
  obtain ⟨c, M1, Y1, k1, -, -, -⟩ := st_all (T := fun j => M.1 11 j) (X := M) (Y := M) h1 h2 (fun _ _ => rfl) h3 h4
  refine ⟨c, M1, k1, fun Y hY => ?_⟩
  have s1 := ssX6_findFault k1
  obtain ⟨c', M1', Y1, z1, z2, z3, z4⟩ := st_all (T := fun j => M.1 11 j) (X := M) (Y := Y) h1 h2 (fun _ _ => rfl) (by rw [hY.i 47 1 rfl, (s1.on [(47, 47, some 1)] (by decide) (by decide)).i 47 1 rfl]; exact h3) (fun j hj => by rw [hY.i 48 j rfl, (s1.on [(48, 48, none)] (by decide) (by decide)).i 48 j rfl]; exact h4 j hj)
  rw [k1] at z1
  cases z1
  refine ⟨Y1, z2, z3, ?_⟩
  rcases z4 with w | ⟨k, w1, w2⟩
  · exact Or.inl w
  · exact Or.inr ⟨k, by omega, w2⟩
theorem s_fault {M : Mem} (h : TX M) : ∃ r M1 M2, fX10_fault M = some (r, M1) ∧ fX11_fault M1 = some (r, M2) ∧ sm rgFlt M M2 := by
  obtain ⟨c, M1, k1, k2⟩ := rd_all h
  obtain ⟨M2, z1, z2, -⟩ := k2 M1 on.rf
  refine ⟨c, M1, M2, ?_, ?_, ((ssX6_findFault k1).up (by decide)).tr ((zzX11_reads z1).up (by decide))⟩
  · unfold fX10_fault
    rw [k1, Option.bind_some]
  · unfold fX11_fault
    rw [z1, Option.bind_some, z2]
