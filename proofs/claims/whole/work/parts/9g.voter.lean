/-! voter -/
theorem k_addV {X : Mem} {a : Nat} (ha : a < 15) (h : X.1 12 0 = nI a) (x y w m sx sy : Int32) : ∃ X1, fX8_addVoter_d x y w m sx sy X = some X1 ∧ (∀ q, X1.1 13 q = if q = a then x else X.1 13 q) ∧ (∀ q, X1.1 14 q = if q = a then y else X.1 14 q) ∧ (∀ q, X1.1 15 q = if q = a then w else X.1 15 q) ∧ (∀ q, X1.1 16 q = if q = a then m else X.1 16 q) ∧ (∀ q, X1.1 17 q = if q = a then sx else X.1 17 q) ∧ (∀ q, X1.1 18 q = if q = a then sy else X.1 18 q) ∧ X1.1 12 0 = nI (a + 1) ∧ sm [(12, 12, some 0), (12, 12, some 7), (12, 12, some 14), (13, 18, none)] X X1 := by
  have ia := inb_nI ha (by decide)
  unfold fX8_addVoter_d
  have k12 : ∀ {Z : Mem} {k j : Nat} {v : Int32}, Z.1 12 0 = nI a → 12 ≠ k → (sI Z k j v).1 12 0 = nI a := fun hz hk => by rw [sI_nk _ _ hk]; exact hz
  rw [h, if_pos (show nI a < 15 from (nI_ltJ (b := 15) (by omega) (by omega)).mpr ha), if_pos ia, nx_eq, ix_nI (by omega)]
  have e1 : (sI X 13 a x).1 12 0 = nI a := k12 h (by decide)
  rw [e1, if_pos ia, nx_eq, ix_nI (by omega)]
  have e2 : (sI (sI X 13 a x) 14 a y).1 12 0 = nI a := k12 e1 (by decide)
  rw [e2, if_pos ia, nx_eq, ix_nI (by omega)]
  have e3 : (sI (sI (sI X 13 a x) 14 a y) 15 a w).1 12 0 = nI a := k12 e2 (by decide)
  rw [e3, if_pos ia, nx_eq, ix_nI (by omega)]
  have e4 : (sI (sI (sI (sI X 13 a x) 14 a y) 15 a w) 16 a m).1 12 0 = nI a := k12 e3 (by decide)
  rw [e4, if_pos ia, nx_eq, ix_nI (by omega)]
  have e5 : (sI (sI (sI (sI (sI X 13 a x) 14 a y) 15 a w) 16 a m) 17 a sx).1 12 0 = nI a := k12 e4 (by decide)
  rw [e5, if_pos ia, nx_eq, ix_nI (by omega), nx_eq, nx_eq, nx_eq]
  have e6 : (sI (sI (sI (sI (sI (sI X 13 a x) 14 a y) 15 a w) 16 a m) 17 a sx) 18 a sy).1 12 0 = nI a := k12 e5 (by decide)
  rw [e6, nI_s]
  refine ⟨_, rfl, fun q => ?_, fun q => ?_, fun q => ?_, fun q => ?_, fun q => ?_, fun q => ?_, ?_, ((((((((sm_rf.I (by rfl)).I (by rfl)).I (by rfl)).I (by rfl)).I (by rfl)).I (by rfl)).I (by rfl)).I (by rfl)).I (by rfl)⟩
  · simp [sI]
  · simp [sI]
  · simp [sI]
  · simp [sI]
  · simp [sI]
  · simp [sI]
  · simp [sI]
theorem vt_end {T : Nat → Int32} {L s a x y w : Nat} {X Y : Mem} (hL : L ≤ 600) (ht : TK T L s X Y) (d1 : DV X Y a) (ha : a < 15) (d2 : ∃ b, DP X Y b) (d3 : DNw X Y) (d4 : DBr X Y) (d5 : DHw X Y) (hx : x < 100) (hy : y < 100) (hw1 : 1 ≤ w) (hw2 : w ≤ 9) (y1 : Y.1 51 a = nI x) (y2 : Y.1 54 a = nI y) (y3 : Y.1 57 a = nI w) (y4 : Y.1 60 a = Y.1 47 19) (y5 : Y.1 63 a = Y.1 47 20) (y6 : Y.1 66 a = Y.1 47 21) : ∃ c X1 Y1, (c = 0 ∨ c = 1) ∧ fX6_readVoter_96 (nI x) (nI y) (nI w) X = some (c, X1) ∧ fX11_voterRead_141 Y = some (c, Y1) ∧ RZ T L s c X1 Y1 := by
  obtain ⟨b, d2⟩ := d2
  unfold fX6_readVoter_96 fX11_voterRead_141
  obtain ⟨X1, k0, k1, k2, k3, k4, k5, k6, k7, k8⟩ := k_addV ha d1.2.1 (nI x) (nI y) (nI w) (X.1 10 7) (X.1 10 8) (X.1 10 9)
  rw [k0, Option.bind_some, nx_eq, ix_1, d1.2.2.1, nI_s]
  generalize hY1 : sI Y 73 1 (nI (a + 1)) = Y1
  have sY : sm [(73, 73, some 1)] Y Y1 := by rw [← hY1]; exact sm_rf.I (by rfl)
  have t1 : TK T L s X1 Y1 := TK_on (k8.on _ (by decide) (by decide)) (sY.on _ (by decide) (by decide)) ht
  have dd : DD X1 Y1 := by
    refine ⟨⟨a + 1, by omega, k7, by rw [← hY1]; exact sI_at .., fun v hv => ?_⟩, ⟨b, DP_on (k8.on _ (by decide) (by decide)) (sY.on _ (by decide) (by decide)) d2⟩, DNw_on (k8.on _ (by decide) (by decide)) (sY.on _ (by decide) (by decide)) d3, DBr_on (k8.on _ (by decide) (by decide)) (sY.on _ (by decide) (by decide)) d4, DHw_on (k8.on _ (by decide) (by decide)) (sY.on _ (by decide) (by decide)) d5⟩
    have o := sY.on [(51, 51, none), (54, 54, none), (57, 57, none), (60, 60, none), (63, 63, none), (66, 66, none)] (by decide) (by decide)
    unfold okDr
    rw [k1 v, k2 v, k3 v, k4 v, k5 v, k6 v, o.i 51 v rfl, o.i 54 v rfl, o.i 57 v rfl, o.i 60 v rfl, o.i 63 v rfl, o.i 66 v rfl]
    by_cases e : v = a
    · subst e
      rw [if_pos rfl, if_pos rfl, if_pos rfl, if_pos rfl, if_pos rfl, if_pos rfl, y1, y2, y3, y4, y5, y6, d3.1.1, d3.1.2.1, d3.1.2.2, nI_toInt (show w < 2147483648 by omega)]
      exact ⟨⟨rfl, rfl, rfl, rfl, rfl, rfl⟩, inN_nI hx (by decide), inN_nI hy (by decide), by omega, d3.2⟩
    · rw [if_neg e, if_neg e, if_neg e, if_neg e, if_neg e, if_neg e]
      exact d1.2.2.2 v (by omega)
  obtain ⟨c, X5, Y5, z0, z1, z2, z3⟩ := semi hL t1 dd
  exact ⟨c, X5, Y5, z0, bind_semi z1 z0, bind_passes z2 z0, z3⟩
theorem st_voter {T : Nat → Int32} {L s : Nat} {X Y : Mem} (hL : L ≤ 600) (h : SM T L s X Y) (hs : s < L) : ∃ c X1 Y1, (c = 0 ∨ c = 1) ∧ fX6_readVoter X = some (c, X1) ∧ (if (15 : Int32) ≤ Y.1 73 (ix 1) then fX11_told_86 0 Y else fX11_told_86 1 Y) = some (c, Y1) ∧ RZ T L s c X1 Y1 := by
  obtain ⟨ht, hd⟩ := h
  obtain ⟨⟨a, d1⟩, ⟨b, d2⟩, d3, d4, d5⟩ := id hd
  have a15 := d1.1
  rw [ix_1, d1.2.2.1, show (15 : Int32) = nI 15 from rfl]
  by_cases ca : a < 15
  · rw [if_neg (nI_ge ca (by omega))]
    obtain ⟨A, B, a1, a2, a3, a4, a5⟩ := adv hL ht
    have s1 := (nx_lt (T := T) hs).1
    have ia := inb_nI ca (by decide)
    have hcl : fX6_readVoter X = (fX6_isNumber A (nI 0) (nI 99)).bind (fun q22 => (if q22 = 0 then some ((0 : Int32), A) else (fX6_next A).bind (fun q36 => (fX6_isNumber q36 (nI 0) (nI 99)).bind (fun q43 => (if q43 = 0 then some ((0 : Int32), q36) else (fX6_next q36).bind (fun q59 => (fX6_isWord q59 22).bind (fun q65 => (if q65 = 0 then fX6_readVoter_96 (A.1 10 6) (q36.1 10 6) (1 : Int32) q59 else (fX6_next q59).bind (fun q72 => (fX6_isNumber q72 (nI 1) (nI 9)).bind (fun q79 => (if q79 = 0 then some ((0 : Int32), q72) else (fX6_next q72).bind (fun q93 => fX6_readVoter_96 (A.1 10 6) (q36.1 10 6) (q72.1 10 6) q93)))))))))))) := by
      unfold fX6_readVoter
      rw [d1.2.1, if_pos (show nI a < 15 from (nI_ltJ (b := 15) (by omega) (by omega)).mpr ca), a1, Option.bind_some]
      rfl
    rw [hcl]
    unfold fX11_told_86 fX11_told_103 fX11_told_104
    rw [a2, Option.bind_some]
    show ∃ c X1 Y1, _ ∧ _ ∧ (if (1 : Int32) = 0 then _ else _) = some (c, Y1) ∧ _
    rw [if_neg (by decide)]
    suffices hp : ∃ c X1 Y1, (c = 0 ∨ c = 1) ∧ ((fX6_isNumber A (nI 0) (nI 99)).bind (fun q22 => (if q22 = 0 then some ((0 : Int32), A) else (fX6_next A).bind (fun q36 => (fX6_isNumber q36 (nI 0) (nI 99)).bind (fun q43 => (if q43 = 0 then some ((0 : Int32), q36) else (fX6_next q36).bind (fun q59 => (fX6_isWord q59 22).bind (fun q65 => (if q65 = 0 then fX6_readVoter_96 (A.1 10 6) (q36.1 10 6) (1 : Int32) q59 else (fX6_next q59).bind (fun q72 => (fX6_isNumber q72 (nI 1) (nI 9)).bind (fun q79 => (if q79 = 0 then some ((0 : Int32), q72) else (fX6_next q72).bind (fun q93 => fX6_readVoter_96 (A.1 10 6) (q36.1 10 6) (q72.1 10 6) q93)))))))))))) = some (c, X1)) ∧ fX11_voterRead B = some (c, Y1) ∧ RZ T L s c X1 Y1 by
      obtain ⟨c, X1, Y1, p0, p1, p2, p3⟩ := hp
      refine ⟨c, X1, Y1, p0, p1, ?_, p3⟩
      rw [p2, Option.bind_some]
      exact told_end p0
    have B73 : B.1 73 1 = nI a := ((a5.on [(73, 73, some 1)] (by decide) (by decide)).i 73 1 rfl).trans d1.2.2.1
    have hpr : fX11_voterRead B = (fX11_number (nI 0) (nI 99) B).bind (fun q11 => (if q11.1 = 0 then some ((0 : Int32), q11.2) else nx (sI q11.2 51 a (q11.2.1 47 5)) (fun M30 => (fX11_number (nI 0) (nI 99) M30).bind (fun q35 => (if q35.1 = 0 then some ((0 : Int32), q35.2) else nx (sI q35.2 54 a (q35.2.1 47 5)) (fun M54 => nx (sI M54 57 a (1 : Int32)) (fun M63 => nx (sI M63 60 a (M63.1 47 19)) (fun M75 => nx (sI M75 63 a (M75.1 47 20)) (fun M87 => nx (sI M87 66 a (M87.1 47 21)) (fun M99 => (fX11_isWord M99 4).bind (fun q103 => (if q103 = 0 then fX11_voterRead_141 M99 else (fX11_passes (1 : Int32) M99).bind (fun q111 => (if q111.1 = 0 then fX11_voterRead_127 (q111.2) else (fX11_number (nI 1) (nI 9) q111.2).bind (fun q121 => (if q121.1 = 0 then fX11_voterRead_127 (q121.2) else nx (sI q121.2 57 a (q121.2.1 47 5)) (fun M140 => fX11_voterRead_141 M140)))))))))))))))) ) := by
      unfold fX11_voterRead
      rw [nx_eq, ix_1, B73]
      simp only [ia, if_true, ix_nI (show a < 2147483648 by omega)]
      rfl
    rw [hpr]
    rcases num1 (lo := 0) (hi := 99) hL a3 (by omega) (by omega) with ⟨X1, Y1, n1, n2, n3, n4, n5, n6, n7, n8, n9, n10, n11⟩ | ⟨Y1, n1, n2, n3, n4⟩
    · rw [n1, Option.bind_some, if_neg (by decide), n2, n5, Option.bind_some, n6, Option.bind_some]
      show ∃ c X1 Y1, _ ∧ _ ∧ (if (1 : Int32) = 0 then _ else _) = some (c, Y1) ∧ _
      rw [if_neg (by decide), nx_eq]
      show ∃ c X1 Y3, _ ∧ _ ∧ (fX11_number (nI 0) (nI 99) (sI Y1 51 a (Y1.1 47 5))).bind _ = some (c, Y3) ∧ _
      rw [n7]
      generalize hxv : nvN T L (nxS T L s) = x at *
      generalize hY2 : sI Y1 51 a (nI x) = Y2
      have sY2 : sm [(51, 51, none)] Y1 Y2 := by rw [← hY2]; exact sm_rf.I (by rfl)
      have Y2a : Y2.1 51 a = nI x := by rw [← hY2]; exact sI_at ..
      have t2 : TK T L (nxS T L (nxS T L s)) X1 Y2 := TK_on on.rf (sY2.on _ (by decide) (by decide)) n8
      have sl2 := (nx_le (T := T) a3.2.2.1).1
      generalize hs2 : nxS T L (nxS T L s) = s2 at *
      rcases num1 (lo := 0) (hi := 99) hL t2 (by omega) (by omega) with ⟨X2, Y3, m1, m2, m3, m4, m5, m6, m7, m8, m9, m10, m11⟩ | ⟨Y3, m1, m2, m3, m4⟩
      · rw [m1, Option.bind_some, if_neg (by decide), m2, m5, Option.bind_some, m6, Option.bind_some]
        generalize hyv : nvN T L s2 = y at *
        show ∃ c X1 Y1, _ ∧ _ ∧ (if (1 : Int32) = 0 then _ else _) = some (c, Y1) ∧ _
        rw [if_neg (by decide), nx_eq, nx_eq, nx_eq, nx_eq, nx_eq]
        show ∃ c X1 Y9, _ ∧ _ ∧ ((fX11_isWord (sI (sI (sI (sI (sI Y3 54 a (Y3.1 47 5)) 57 a 1) 60 a ((sI (sI Y3 54 a (Y3.1 47 5)) 57 a 1).1 47 19)) 63 a ((sI (sI (sI Y3 54 a (Y3.1 47 5)) 57 a 1) 60 a ((sI (sI Y3 54 a (Y3.1 47 5)) 57 a 1).1 47 19)).1 47 20)) 66 a ((sI (sI (sI (sI Y3 54 a (Y3.1 47 5)) 57 a 1) 60 a ((sI (sI Y3 54 a (Y3.1 47 5)) 57 a 1).1 47 19)) 63 a ((sI (sI (sI Y3 54 a (Y3.1 47 5)) 57 a 1) 60 a ((sI (sI Y3 54 a (Y3.1 47 5)) 57 a 1).1 47 19)).1 47 20)).1 47 21)) 4).bind _) = some (c, Y9) ∧ _
        generalize hY4 : sI (sI (sI (sI (sI Y3 54 a (Y3.1 47 5)) 57 a 1) 60 a ((sI (sI Y3 54 a (Y3.1 47 5)) 57 a 1).1 47 19)) 63 a ((sI (sI (sI Y3 54 a (Y3.1 47 5)) 57 a 1) 60 a ((sI (sI Y3 54 a (Y3.1 47 5)) 57 a 1).1 47 19)).1 47 20)) 66 a ((sI (sI (sI (sI Y3 54 a (Y3.1 47 5)) 57 a 1) 60 a ((sI (sI Y3 54 a (Y3.1 47 5)) 57 a 1).1 47 19)) 63 a ((sI (sI (sI Y3 54 a (Y3.1 47 5)) 57 a 1) 60 a ((sI (sI Y3 54 a (Y3.1 47 5)) 57 a 1).1 47 19)).1 47 20)).1 47 21) = Y4
        have sY4 : sm [(54, 54, none), (57, 57, none), (60, 60, none), (63, 63, none), (66, 66, none)] Y3 Y4 := by rw [← hY4]; exact ((((sm_rf.I (by rfl)).I (by rfl)).I (by rfl)).I (by rfl)).I (by rfl)
        have v54 : ∀ q, Y4.1 54 q = if q = a then nI y else Y3.1 54 q := fun q => by rw [← hY4, m7]; simp [sI]
        have v57 : ∀ q, Y4.1 57 q = if q = a then 1 else Y3.1 57 q := fun q => by rw [← hY4]; simp [sI]
        have v60 : ∀ q, Y4.1 60 q = if q = a then Y3.1 47 19 else Y3.1 60 q := fun q => by rw [← hY4]; simp [sI]
        have v63 : ∀ q, Y4.1 63 q = if q = a then Y3.1 47 20 else Y3.1 63 q := fun q => by rw [← hY4]; simp [sI]
        have v66 : ∀ q, Y4.1 66 q = if q = a then Y3.1 47 21 else Y3.1 66 q := fun q => by rw [← hY4]; simp [sI]
        have t4 : TK T L (nxS T L s2) X2 Y4 := TK_on on.rf (sY4.on _ (by decide) (by decide)) m8
        have sX : sm rgNx X X2 := (a4.tr n10).tr m10
        have sY34 : sm [(47, 47, some 2), (47, 47, some 3), (47, 47, some 5), (51, 51, none)] Y Y3 := (((a5.up (by decide)).tr (n11.up (by decide))).tr (sY2.up (by decide))).tr (m11.up (by decide))
        -- what has been told so far: rows below a are as they were
        have oX := sX.on rxD (by decide) (by decide)
        have below : ∀ q, q ≠ a → Y4.1 51 q = Y.1 51 q ∧ Y4.1 54 q = Y.1 54 q ∧ Y4.1 57 q = Y.1 57 q ∧ Y4.1 60 q = Y.1 60 q ∧ Y4.1 63 q = Y.1 63 q ∧ Y4.1 66 q = Y.1 66 q := by
          intro q hq
          have o := sY34.on [(54, 54, none), (57, 57, none), (60, 60, none), (63, 63, none), (66, 66, none)] (by decide) (by decide)
          rw [v54 q, v57 q, v60 q, v63 q, v66 q, if_neg hq, if_neg hq, if_neg hq, if_neg hq, if_neg hq, o.i 54 q rfl, o.i 57 q rfl, o.i 60 q rfl, o.i 63 q rfl, o.i 66 q rfl]
          refine ⟨?_, rfl, rfl, rfl, rfl, rfl⟩
          rw [(sY4.on [(51, 51, none)] (by decide) (by decide)).i 51 q rfl, (m11.on [(51, 51, none)] (by decide) (by decide)).i 51 q rfl, ← hY2, sI_nj _ _ hq, (n11.on [(51, 51, none)] (by decide) (by decide)).i 51 q rfl, (a5.on [(51, 51, none)] (by decide) (by decide)).i 51 q rfl]
        have y51 : Y4.1 51 a = nI x := by rw [(sY4.on [(51, 51, none)] (by decide) (by decide)).i 51 a rfl, (m11.on [(51, 51, none)] (by decide) (by decide)).i 51 a rfl]; exact Y2a
        have oN := sY4.on [(47, 47, none)] (by decide) (by decide)
        have sY4' : sm [(47, 47, some 2), (47, 47, some 3), (47, 47, some 5), (51, 51, none), (54, 54, none), (57, 57, none), (60, 60, none), (63, 63, none), (66, 66, none)] Y Y4 := (sY34.up (by decide)).tr (sY4.up (by decide))
        have sl3 := (nx_le (T := T) t2.2.2.1).1
        have w22 : fX6_isWord X2 22 = some (bI (wdB T L (nxS T L s2) 4)) := by rw [k_isWord hL t4.2.2.1 (by decide) t4.1, wd_eq (w := 22) (v := 4) (by decide) (by decide) (by decide)]
        have w4 : fX11_isWord Y4 4 = some (bI (wdB T L (nxS T L s2) 4)) := e_isWord hL t4.2.2.1 (by decide) t4.2.1
        rw [w22, w4, Option.bind_some, Option.bind_some]
        -- the end, with any weight
        have fin : ∀ {s' w : Nat} {X' Y' : Mem}, TK T L s' X' Y' → s ≤ s' → sm rgNx X2 X' → sm [(47, 47, some 2), (47, 47, some 3), (47, 47, some 5), (57, 57, none)] Y4 Y' → (∀ q, q ≠ a → Y'.1 57 q = Y4.1 57 q) → Y'.1 57 a = nI w → 1 ≤ w → w ≤ 9 → ∃ c X1 Y1, (c = 0 ∨ c = 1) ∧ fX6_readVoter_96 (nI x) (nI y) (nI w) X' = some (c, X1) ∧ fX11_voterRead_141 Y' = some (c, Y1) ∧ RZ T L s c X1 Y1 := by
          intro s' w X' Y' t' hle hX' hY' h57 h57a hw1 hw2
          have pX := (sX.tr hX').on rxD (by decide) (by decide)
          have pY := hY'.on [(47, 47, some 19), (47, 47, some 20), (47, 47, some 21), (47, 47, some 22), (51, 51, none), (54, 54, none), (60, 60, none), (63, 63, none), (66, 66, none), (69, 69, none), (72, 72, none), (73, 77, some 1)] (by decide) (by decide)
          have pY4 := sY4'.on [(47, 47, some 19), (47, 47, some 20), (47, 47, some 21), (47, 47, some 22), (69, 69, none), (72, 72, none), (73, 77, some 1)] (by decide) (by decide)
          have pYY := pY4.tr (pY.sub (by decide))
          have dv : DV X' Y' a := by
            refine ⟨a15, (pX.i 12 0 rfl).trans d1.2.1, (pYY.i 73 1 rfl).trans d1.2.2.1, fun v hv => ?_⟩
            have bl := below v (by omega)
            unfold okDr
            rw [pX.i 13 v rfl, pX.i 14 v rfl, pX.i 15 v rfl, pX.i 16 v rfl, pX.i 17 v rfl, pX.i 18 v rfl, pY.i 51 v rfl, pY.i 54 v rfl, h57 v (by omega), pY.i 60 v rfl, pY.i 63 v rfl, pY.i 66 v rfl, bl.1, bl.2.1, bl.2.2.1, bl.2.2.2.1, bl.2.2.2.2.1, bl.2.2.2.2.2]
            exact d1.2.2.2 v hv
          obtain ⟨c, X5, Y5, z0, z1, z2, z3⟩ := vt_end (x := x) (y := y) (w := w) hL t' dv ca ⟨b, DP_on (pX.sub (by decide)) (pYY.sub (by decide)) d2⟩ (DNw_on (pX.sub (by decide)) (pYY.sub (by decide)) d3) (DBr_on (pX.sub (by decide)) (pYY.sub (by decide)) d4) (DHw_on (pX.sub (by decide)) (pYY.sub (by decide)) d5) (by omega) (by omega) hw1 hw2 (by rw [pY.i 51 a rfl]; exact y51) (by rw [pY.i 54 a rfl, v54 a, if_pos rfl]) h57a (by rw [pY.i 60 a rfl, v60 a, if_pos rfl, pY.i 47 19 rfl, oN.i 47 19 rfl]) (by rw [pY.i 63 a rfl, v63 a, if_pos rfl, pY.i 47 20 rfl, oN.i 47 20 rfl]) (by rw [pY.i 66 a rfl, v66 a, if_pos rfl, pY.i 47 21 rfl, oN.i 47 21 rfl])
          exact ⟨c, X5, Y5, z0, z1, z2, RZ_lt z3 hle⟩
        cases cw : wdB T L (nxS T L s2) 4 with
        | false =>
          rw [if_pos (show bI false = 0 from rfl), if_pos (show bI false = 0 from rfl)]
          exact fin (w := 1) t4 (by omega) sm_rf sm_rf (fun _ _ => rfl) (by rw [v57 a, if_pos rfl]; rfl) (by omega) (by omega)
        | true =>
          rw [if_neg (show ¬ bI true = 0 by decide), if_neg (show ¬ bI true = 0 by decide)]
          obtain ⟨C, D, c1, c2, c3, c4, c5⟩ := adv hL t4
          rw [c1, Option.bind_some, c2, Option.bind_some]
          show ∃ c X1 Y1, _ ∧ _ ∧ (if (1 : Int32) = 0 then _ else _) = some (c, Y1) ∧ _
          rw [if_neg (by decide)]
          unfold fX11_voterRead_127
          have sl4 := (nx_le (T := T) t4.2.2.1).1
          rcases num1 (lo := 1) (hi := 9) hL c3 (by omega) (by omega) with ⟨X5, Y5, g1, g2, g3, g4, g5, g6, g7, g8, g9, g10, g11⟩ | ⟨Y5, g1, g2, g3, g4⟩
          · rw [g1, Option.bind_some, if_neg (by decide), g2, g5, Option.bind_some]
            show ∃ c X1 Y1, _ ∧ _ ∧ (fX11_number (nI 1) (nI 9) D).bind _ = some (c, Y1) ∧ _
            rw [g6, Option.bind_some]
            show ∃ c X1 Y1, _ ∧ _ ∧ (if (1 : Int32) = 0 then _ else _) = some (c, Y1) ∧ _
            rw [if_neg (by decide), nx_eq]
            show ∃ c X1 Y9, _ ∧ _ ∧ fX11_voterRead_141 (sI Y5 57 a (Y5.1 47 5)) = some (c, Y9) ∧ _
            rw [g7]
            have sY5 : sm [(57, 57, none)] Y5 (sI Y5 57 a (nI (nvN T L (nxS T L (nxS T L s2))))) := sm_rf.I (by rfl)
            have sl5 := (nx_le (T := T) c3.2.2.1).1
            refine fin (TK_on on.rf (sY5.on _ (by decide) (by decide)) g8) (by omega) (c4.tr g10) (((c5.up (by decide)).tr (g11.up (by decide))).tr (sY5.up (by decide))) (fun q hq => ?_) (sI_at ..) g3 g4
            rw [sI_nj _ _ hq, (g11.on [(57, 57, none)] (by decide) (by decide)).i 57 q rfl, (c5.on [(57, 57, none)] (by decide) (by decide)).i 57 q rfl]
          · rw [g1, Option.bind_some, if_pos (by decide)]
            show ∃ c X1 Y1, _ ∧ _ ∧ (fX11_number (nI 1) (nI 9) D).bind _ = some (c, Y1) ∧ _
            rw [g2, Option.bind_some]
            exact ⟨0, C, Y5, Or.inl rfl, rfl, rfl, Or.inr ⟨rfl, _, c3.2.2.1, g3, g4⟩⟩
      · rw [m1, Option.bind_some, if_pos (by decide), m2, Option.bind_some]
        exact ⟨0, X1, Y3, Or.inl rfl, rfl, rfl, Or.inr ⟨rfl, _, t2.2.2.1, m3, m4⟩⟩
    · rw [n1, Option.bind_some, if_pos (by decide), n2, Option.bind_some]
      exact ⟨0, A, Y1, Or.inl rfl, rfl, rfl, Or.inr ⟨rfl, _, a3.2.2.1, n3, n4⟩⟩
  · rw [if_pos (nI_le (by omega) (by omega))]
    obtain ⟨Y1, b1, b2, -⟩ := e_pass0 ht.2.1 ht.2.2.2
    unfold fX11_told_86 fX11_told_103 fX11_told_104
    refine ⟨0, X, Y1, Or.inl rfl, ?_, ?_, Or.inr ⟨rfl, s, ht.2.2.1, ht.1.2.1, b2⟩⟩
    · unfold fX6_readVoter
      rw [d1.2.1, if_neg (show ¬ nI a < 15 from fun w => ca ((nI_ltJ (b := 15) (by omega) (by omega)).mp w))]
    · rw [b1, Option.bind_some]
      show (if (0 : Int32) = 0 then _ else _) = _
      rw [if_pos rfl, b01]
