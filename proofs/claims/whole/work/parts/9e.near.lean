/-! near -/
def lsI (T : Nat → Int32) (L s : Nat) : Nat → Int32
  | 0 => -1
  | k + 1 => if wdB T L s k = true then nI k else lsI T L s k
theorem ms_tab : ∀ w, w < 4 → ∀ v, v < 4 → stLen.getD w 0 = stLen.getD v 0 → sch w 0 = sch v 0 → w = v := by decide +kernel
theorem wd_one {T : Nat → Int32} {L s w v : Nat} (hw : w < 4) (hv : v < 4) (h1 : wdB T L s w = true) (h2 : wdB T L s v = true) : w = v := by
  unfold wdB at h1 h2
  simp only [Bool.and_eq_true, decide_eq_true_eq, Bool.not_eq_true'] at h1 h2
  have t1 := st_tab w (by omega)
  have t2 := st_tab v (by omega)
  have first : ∀ {u : Nat}, u < 26 → anyN (fun i => decide (T (s + i) ≠ sch u i)) (stLen.getD u 0) = false → T (s + 0) = sch u 0 := by
    intro u hu ha
    by_cases z : T (s + 0) = sch u 0
    · exact z
    · have : anyN (fun i => decide (T (s + i) ≠ sch u i)) (stLen.getD u 0) = true := anyN_iff.mpr ⟨0, by have := st_tab u hu; omega, decide_eq_true z⟩
      rw [this] at ha; cases ha
  exact ms_tab w hw v hv (by omega) ((first (by omega) h1.2.2).symm.trans (first (by omega) h2.2.2))
theorem near_mid {T : Nat → Int32} {L s m : Nat} {A B : Mem} (hL : L ≤ 600) (ht : TK T L s A B) (hd : DD A B) (hm : m < 4) (hs : s < L) : ∃ c X1 Y1, (c = 0 ∨ c = 1) ∧ fX6_readNear_74 (sI A 10 7 (nI m)) = some (c, X1) ∧ fX11_near_30 (nI m) B = some (c, Y1) ∧ RZ T L s c X1 Y1 := by
  generalize hA1 : sI A 10 7 (nI m) = A1
  have sA1 : sm [(10, 10, some 7)] A A1 := by rw [← hA1]; exact sm_rf.I (by rfl)
  unfold fX11_near_30
  rw [nx_eq, if_neg (nI_nn1 (by omega))]
  generalize hB1 : sI B 47 19 (nI m) = B1
  have sB1 : sm [(47, 47, some 19)] B B1 := by rw [← hB1]; exact sm_rf.I (by rfl)
  have t1 : TK T L s A1 B1 := TK_on (sA1.on _ (by decide) (by decide)) (sB1.on _ (by decide) (by decide)) ht
  obtain ⟨C, D, c1, c2, c3, c4, c5⟩ := adv hL t1
  have sX : sm [(10, 10, some 3), (10, 10, some 4), (10, 10, some 5), (10, 10, some 6), (10, 10, some 7)] A C := (sA1.up (by decide)).tr (c4.up (by decide))
  have sY : sm [(47, 47, some 2), (47, 47, some 3), (47, 47, some 19)] B D := (sB1.up (by decide)).tr (c5.up (by decide))
  obtain ⟨⟨a, q1⟩, ⟨b, q2⟩, q3, q4, q5⟩ := hd
  have x7 : C.1 10 7 = nI m := by rw [(c4.on [(10, 10, some 7)] (by decide) (by decide)).i 10 7 rfl, ← hA1]; exact sI_at ..
  have y19 : D.1 47 19 = nI m := by rw [(c5.on [(47, 47, some 19)] (by decide) (by decide)).i 47 19 rfl, ← hB1]; exact sI_at ..
  have dCD : DD C D := by
    refine ⟨⟨a, DV_on (sX.on _ (by decide) (by decide)) (sY.on _ (by decide) (by decide)) q1⟩, ⟨b, DP_on (sX.on _ (by decide) (by decide)) (sY.on _ (by decide) (by decide)) q2⟩, ?_, DBr_on (sX.on _ (by decide) (by decide)) (sY.on _ (by decide) (by decide)) q4, DHw_on (sX.on _ (by decide) (by decide)) (sY.on _ (by decide) (by decide)) q5⟩
    unfold DNw
    have ox := sX.on [(10, 10, some 8), (10, 10, some 9)] (by decide) (by decide)
    have oy := sY.on [(47, 47, some 20), (47, 47, some 21)] (by decide) (by decide)
    rw [x7, y19, ox.i 10 8 rfl, ox.i 10 9 rfl, oy.i 47 20 rfl, oy.i 47 21 rfl]
    exact ⟨⟨rfl, q3.1.2⟩, inN_nI hm (by decide), q3.2.2⟩
  obtain ⟨c, X3, Y3, z0, z1, z2, z3⟩ := semi hL c3 dCD
  refine ⟨c, X3, Y3, z0, ?_, ?_, RZ_lt z3 (by have := (nx_lt (T := T) hs).1; omega)⟩
  · unfold fX6_readNear_74
    rw [c1, Option.bind_some]
    exact bind_semi z1 z0
  · unfold fX11_near_46 fX11_near_69 fX11_near_70
    rw [c2, Option.bind_some]
    show (if (1 : Int32) = 0 then _ else _) = _
    rw [if_neg (by decide)]
    cases e1 : fX11_isSign D 59 with
    | none => rw [e1] at z2; cases z2
    | some q =>
      rw [e1, Option.bind_some] at z2
      rw [Option.bind_some]
      show (fX11_passes q D).bind _ = _
      rw [z2, Option.bind_some]
      rcases z0 with rfl | rfl
      · show (if (0 : Int32) = 0 then _ else _) = _
        rw [if_pos rfl, b01]
      · show (if (1 : Int32) = 0 then _ else _) = _
        rw [if_neg (by decide), b11]
theorem near_loop {T : Nat → Int32} {L s : Nat} {B : Mem} (hL : L ≤ 600) (hs : s ≤ L) (h : RS' T L s B) : fX11_near B = fX11_near_30 (lsI T L s 4) B := by
  unfold fX11_near
  have hh := for_ex (σ := Int32) (fun f k x => fX11_near_4 fX11_near_30 f x k B) (fun x => fX11_near_30 x B) 4 (fun k x => x = lsI T L s k) ?_ ?_ (-1) rfl FU (FU_gt (by omega))
  · obtain ⟨x, x1, x2⟩ := hh
    rw [x2] at x1
    exact x1
  · rintro f k x hk rfl
    refine ⟨_, ?_, rfl⟩
    show fX11_near_4 _ (f + 1) _ (nI k) B = _
    have em : msN k = k := by
      have : ∀ k, k < 4 → msN k = k := by decide
      exact this k hk
    rw [fX11_near_4, show (4 : Int32) = nI 4 from rfl, if_neg (nI_ge hk (by omega)), if_pos (inb_nI hk (by decide)), ix_nI (by omega), em, e_isWord hL hs (by omega) h, Option.bind_some]
    unfold fX11_near_24
    rw [nx_eq, nx_eq, nI_s]
    show _ = fX11_near_4 fX11_near_30 f (if wdB T L s k = true then nI k else lsI T L s k) (nI (k + 1)) B
    cases wdB T L s k <;> rfl
  · rintro f x rfl
    show fX11_near_4 _ (f + 1) _ (nI 4) B = _
    rw [fX11_near_4, show (4 : Int32) = nI 4 from rfl, if_pos (nI_le (Nat.le_refl _) (by omega))]
theorem st_near {T : Nat → Int32} {L s : Nat} {X Y : Mem} (hL : L ≤ 600) (h : SM T L s X Y) (hs : s < L) : ∃ c X1 Y1, (c = 0 ∨ c = 1) ∧ fX6_readNear X = some (c, X1) ∧ (fX11_passes 1 Y).bind (fun q => fX11_near q.2) = some (c, Y1) ∧ RZ T L s c X1 Y1 := by
  obtain ⟨ht, hd⟩ := h
  obtain ⟨A, B, a1, a2, a3, a4, a5⟩ := adv hL ht
  have dAB : DD A B := DD_on (a4.on _ (by decide) (by decide)) (a5.on _ (by decide) (by decide)) hd
  have sl := nx_lt (T := T) hs
  generalize hs1 : nxS T L s = s1 at *
  unfold fX6_readNear
  rw [a1, Option.bind_some, a2, Option.bind_some]
  show ∃ c X1 Y1, _ ∧ _ ∧ fX11_near B = some (c, Y1) ∧ _
  rw [near_loop hL a3.2.2.1 a3.2.1]
  have w0 : fX6_isWord A 18 = some (bI (wdB T L s1 0)) := by rw [k_isWord hL a3.2.2.1 (by decide) a3.1, wd_eq (w := 18) (v := 0) (by decide) (by decide) (by decide)]
  have w1 : fX6_isWord A 19 = some (bI (wdB T L s1 1)) := by rw [k_isWord hL a3.2.2.1 (by decide) a3.1, wd_eq (w := 19) (v := 1) (by decide) (by decide) (by decide)]
  have w2 : fX6_isWord A 20 = some (bI (wdB T L s1 2)) := by rw [k_isWord hL a3.2.2.1 (by decide) a3.1, wd_eq (w := 20) (v := 2) (by decide) (by decide) (by decide)]
  have w3 : fX6_isWord A 21 = some (bI (wdB T L s1 3)) := by rw [k_isWord hL a3.2.2.1 (by decide) a3.1, wd_eq (w := 21) (v := 3) (by decide) (by decide) (by decide)]
  rw [w0, w1, w2, w3, Option.bind_some, Option.bind_some, Option.bind_some, Option.bind_some]
  simp only [nx_eq]
  have hit : ∀ m, m < 4 → wdB T L s1 m = true → s1 < L ∧ lsI T L s1 4 = nI m := by
    intro m hm hw
    have sl' : s1 < L := by
      unfold wdB at hw
      simp only [Bool.and_eq_true, decide_eq_true_eq] at hw
      exact hw.1
    have others : ∀ k, k < 4 → k ≠ m → wdB T L s1 k = false := by
      intro k hk hne
      cases q : wdB T L s1 k with
      | false => rfl
      | true => exact absurd (wd_one hk hm q hw) hne
    refine ⟨sl', ?_⟩
    show (if wdB T L s1 3 = true then nI 3 else if wdB T L s1 2 = true then nI 2 else if wdB T L s1 1 = true then nI 1 else if wdB T L s1 0 = true then nI 0 else -1) = _
    have : m = 0 ∨ m = 1 ∨ m = 2 ∨ m = 3 := by omega
    rcases this with rfl | rfl | rfl | rfl
    · rw [others 3 (by omega) (by omega), others 2 (by omega) (by omega), others 1 (by omega) (by omega), hw]; rfl
    · rw [others 3 (by omega) (by omega), others 2 (by omega) (by omega), hw]; rfl
    · rw [others 3 (by omega) (by omega), hw]; rfl
    · rw [hw]; rfl
  have fin : ∀ m, m < 4 → wdB T L s1 m = true → ∃ c X1 Y1, (c = 0 ∨ c = 1) ∧ fX6_readNear_74 (sI A 10 7 (nI m)) = some (c, X1) ∧ fX11_near_30 (lsI T L s1 4) B = some (c, Y1) ∧ RZ T L s c X1 Y1 := by
    intro m hm hw
    obtain ⟨h1, h2⟩ := hit m hm hw
    obtain ⟨c, X1, Y1, z0, z1, z2, z3⟩ := near_mid hL a3 dAB hm h1
    exact ⟨c, X1, Y1, z0, z1, by rw [h2]; exact z2, RZ_lt z3 (by omega)⟩
  cases c0 : wdB T L s1 0 with
  | true => rw [if_neg (show ¬ bI true = 0 by decide)]; exact fin 0 (by omega) c0
  | false =>
    rw [if_pos (show bI false = 0 from rfl)]
    cases c1 : wdB T L s1 1 with
    | true => rw [if_neg (show ¬ bI true = 0 by decide)]; exact fin 1 (by omega) c1
    | false =>
      rw [if_pos (show bI false = 0 from rfl)]
      cases c2 : wdB T L s1 2 with
      | true => rw [if_neg (show ¬ bI true = 0 by decide)]; exact fin 2 (by omega) c2
      | false =>
        rw [if_pos (show bI false = 0 from rfl)]
        cases c3 : wdB T L s1 3 with
        | true => rw [if_neg (show ¬ bI true = 0 by decide)]; exact fin 3 (by omega) c3
        | false =>
          rw [if_pos (show bI false = 0 from rfl)]
          have e : lsI T L s1 4 = -1 := by
            show (if wdB T L s1 3 = true then nI 3 else if wdB T L s1 2 = true then nI 2 else if wdB T L s1 1 = true then nI 1 else if wdB T L s1 0 = true then nI 0 else -1) = _
            rw [c0, c1, c2, c3]; rfl
          rw [e]
          unfold fX11_near_30 fX11_near_46 fX11_near_69 fX11_near_70
          rw [nx_eq, if_pos rfl]
          have sB1 : sm [(47, 47, some 19)] B (sI B 47 19 (-1)) := sm_rf.I (by rfl)
          have t1 : TK T L s1 A (sI B 47 19 (-1)) := TK_on on.rf (sB1.on _ (by decide) (by decide)) a3
          obtain ⟨Y1, b1, b2, -⟩ := e_pass0 t1.2.1 t1.2.2.2
          refine ⟨0, A, Y1, Or.inl rfl, rfl, ?_, Or.inr ⟨rfl, s1, a3.2.2.1, a3.1.2.1, b2⟩⟩
          rw [b1, Option.bind_some]
          show (if (0 : Int32) = 0 then _ else _) = _
          rw [if_pos rfl, b01]
