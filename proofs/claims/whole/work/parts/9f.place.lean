/-! place -/
theorem ix_1 : ix (1 : Int32) = 1 := rfl
theorem k_addP {X : Mem} {b : Nat} (hb : b < 20) (h : X.1 12 8 = nI b) (x y : Int32) : ∃ X1, fX8_addPlace_d x y X = some X1 ∧ (∀ q, X1.1 19 q = if q = b then x else X.1 19 q) ∧ (∀ q, X1.1 20 q = if q = b then y else X.1 20 q) ∧ X1.1 12 8 = nI (b + 1) ∧ sm [(12, 12, some 8), (12, 12, some 15), (19, 20, none)] X X1 := by
  have ib := inb_nI hb (by decide)
  unfold fX8_addPlace_d
  rw [h, if_pos (show nI b < 20 from (nI_ltJ (b := 20) (by omega) (by omega)).mpr hb), if_pos ib, nx_eq]
  have e1 : (sI X 19 (ix (nI b)) x).1 12 8 = nI b := by rw [sI_nk _ _ (by decide)]; exact h
  rw [e1, if_pos ib, nx_eq]
  have e2 : (sI (sI X 19 (ix (nI b)) x) 20 (ix (nI b)) y).1 12 8 = nI b := by rw [sI_nk _ _ (by decide)]; exact e1
  rw [nx_eq, nx_eq, e2, nI_s, ix_nI (by omega)]
  refine ⟨_, rfl, fun q => ?_, fun q => ?_, ?_, (((sm_rf.I (by rfl)).I (by rfl)).I (by rfl)).I (by rfl)⟩
  · rw [sI_nk _ _ (by decide), sI_nk _ _ (by decide), sI_nk _ _ (by decide)]
    by_cases e : q = b
    · rw [e, sI_at, if_pos rfl]
    · rw [sI_nj _ _ e, if_neg e]
  · rw [sI_nk _ _ (by decide), sI_nk _ _ (by decide)]
    by_cases e : q = b
    · rw [e, sI_at, if_pos rfl]
    · rw [sI_nj _ _ e, sI_nk _ _ (by decide), if_neg e]
  · rw [sI_nj _ _ (by decide), sI_at]
theorem told_end {Y1 : Mem} {c : Int32} (hc : c = 0 ∨ c = 1) : (if c = 0 then some ((0 : Int32) &&& 1, Y1) else some ((1 : Int32) &&& 1, Y1)) = some (c, Y1) := by
  rcases hc with rfl | rfl
  · rw [if_pos rfl, b01]
  · rw [if_neg (by decide), b11]
theorem st_place {T : Nat → Int32} {L s : Nat} {X Y : Mem} (hL : L ≤ 600) (h : SM T L s X Y) (hs : s < L) : ∃ c X1 Y1, (c = 0 ∨ c = 1) ∧ fX6_readPlace X = some (c, X1) ∧ (if (20 : Int32) ≤ Y.1 74 (ix 1) then fX11_told_131 0 Y else fX11_told_131 1 Y) = some (c, Y1) ∧ RZ T L s c X1 Y1 := by
  obtain ⟨ht, hd⟩ := h
  obtain ⟨⟨a, d1⟩, ⟨b, d2⟩, d3, d4, d5⟩ := id hd
  have b20 := d2.1
  unfold fX6_readPlace
  rw [ix_1, d2.2.1, d2.2.2.1, show (20 : Int32) = nI 20 from rfl]
  by_cases cb : b < 20
  · rw [if_pos ((nI_ltJ (by omega) (by omega)).mpr cb), if_neg (nI_ge cb (by omega))]
    obtain ⟨A, B, a1, a2, a3, a4, a5⟩ := adv hL ht
    unfold fX11_told_131 fX11_told_148 fX11_told_149
    rw [a1, Option.bind_some, a2, Option.bind_some]
    show ∃ c X1 Y1, _ ∧ _ ∧ (if (1 : Int32) = 0 then _ else _) = some (c, Y1) ∧ _
    rw [if_neg (by decide)]
    have s1 := (nx_lt (T := T) hs).1
    -- the reference's part
    suffices hp : ∃ c X1 Y1, (c = 0 ∨ c = 1) ∧ ((fX6_isNumber A (0 : Int32) (99 : Int32)).bind (fun q22 => (if q22 = 0 then some ((0 : Int32), A) else nx (A.1 10 6) (fun v34 => (fX6_next A).bind (fun q36 => (fX6_isNumber q36 (0 : Int32) (99 : Int32)).bind (fun q43 => (if q43 = 0 then some ((0 : Int32), q36) else (fX8_addPlace_d v34 (q36.1 10 6) q36).bind (fun q60 => (fX6_next q60).bind (fun q64 => (fX6_passSemicolon q64).bind (fun q68 => some ((q68.1 &&& 1), q68.2)))))))))) = some (c, X1)) ∧ fX11_placeRead B = some (c, Y1) ∧ RZ T L s c X1 Y1 by
      obtain ⟨c, X1, Y1, p0, p1, p2, p3⟩ := hp
      refine ⟨c, X1, Y1, p0, p1, ?_, p3⟩
      rw [p2, Option.bind_some]
      exact told_end p0
    have B74 : B.1 74 1 = nI b := ((a5.on [(74, 74, some 1)] (by decide) (by decide)).i 74 1 rfl).trans d2.2.2.1
    have ib := inb_nI cb (by decide)
    have hpr : fX11_placeRead B = (fX11_number (0 : Int32) (99 : Int32) B).bind (fun q11 => (if q11.1 = 0 then some ((0 : Int32), q11.2) else nx (sI q11.2 69 b (q11.2.1 47 5)) (fun M30 => (fX11_number (0 : Int32) (99 : Int32) M30).bind (fun q35 => (if q35.1 = 0 then some ((0 : Int32), q35.2) else nx (sI q35.2 72 b (q35.2.1 47 5)) (fun M54 => nx (sI M54 74 1 ((M54.1 74 1) + (1 : Int32))) (fun M64 => (fX11_isSign M64 (59 : Int32)).bind (fun q69 => (fX11_passes q69 M64).bind (fun q72 => some ((q72.1 &&& 1), q72.2)))))))))) := by
      unfold fX11_placeRead
      rw [nx_eq, ix_1, B74]
      simp only [ib, if_true, ix_nI (show b < 2147483648 by omega)]
    rw [hpr]
    rw [show (0 : Int32) = nI 0 from rfl, show (99 : Int32) = nI 99 from rfl]
    rcases num1 (lo := 0) (hi := 99) hL a3 (by omega) (by omega) with ⟨X1, Y1, n1, n2, n3, n4, n5, n6, n7, n8, n9, n10, n11⟩ | ⟨Y1, n1, n2, n3, n4⟩
    · rw [n1, Option.bind_some, if_neg (by decide), nx_eq, n2, n5, Option.bind_some, n6, Option.bind_some]
      show ∃ c X1 Y1, _ ∧ _ ∧ (if (1 : Int32) = nI 0 then _ else _) = some (c, Y1) ∧ _
      rw [if_neg (by decide), nx_eq]
      show ∃ c X1 Y3, _ ∧ _ ∧ (fX11_number (nI 0) (nI 99) (sI Y1 69 b (Y1.1 47 5))).bind _ = some (c, Y3) ∧ _
      rw [n7]
      generalize hx : nvN T L (nxS T L s) = x at *
      generalize hY2 : sI Y1 69 b (nI x) = Y2
      have sY2 : sm [(69, 69, none)] Y1 Y2 := by rw [← hY2]; exact sm_rf.I (by rfl)
      have t2 : TK T L (nxS T L (nxS T L s)) X1 Y2 := TK_on on.rf (sY2.on _ (by decide) (by decide)) n8
      rcases num1 (lo := 0) (hi := 99) hL t2 (by omega) (by omega) with ⟨X2, Y3, m1, m2, m3, m4, m5, m6, m7, m8, m9, m10, m11⟩ | ⟨Y3, m1, m2, m3, m4⟩
      · rw [m1, Option.bind_some, if_neg (by decide), m2, m6, Option.bind_some]
        generalize hy : nvN T L (nxS T L (nxS T L s)) = y at *
        have x12 : X1.1 12 8 = nI b := by rw [(n10.on [(12, 12, none)] (by decide) (by decide)).i 12 8 rfl, (a4.on [(12, 12, none)] (by decide) (by decide)).i 12 8 rfl]; exact d2.2.1
        obtain ⟨X3, k1, k2, k3, k4, k5⟩ := k_addP cb x12 (nI x) (nI y)
        rw [k1, Option.bind_some]
        have t3 : TK T L (nxS T L (nxS T L s)) X3 Y2 := TK_on (k5.on _ (by decide) (by decide)) on.rf t2
        obtain ⟨X4, l1, l2, l3⟩ := k_next (T := T) (e := tkE T L (nxS T L (nxS T L s))) hL (tk_le t3.2.2.1).2 t3.1.1.1 t3.1.1.2 t3.1.2.2.1
        rw [l1, Option.bind_some]
        show ∃ c X1 Y1, _ ∧ _ ∧ (if (1 : Int32) = nI 0 then _ else _) = some (c, Y1) ∧ _
        rw [if_neg (by decide), nx_eq]
        show ∃ c X1 Y4, _ ∧ _ ∧ nx (sI (sI Y3 72 b (Y3.1 47 5)) 74 1 ((sI Y3 72 b (Y3.1 47 5)).1 74 1 + 1)) _ = some (c, Y4) ∧ _
        rw [nx_eq, m7]
        have y74 : (sI Y3 72 b (nI y)).1 74 1 = nI b := by
          rw [sI_nk _ _ (by decide), (m11.on [(74, 74, none)] (by decide) (by decide)).i 74 1 rfl, (sY2.on [(74, 74, none)] (by decide) (by decide)).i 74 1 rfl, (n11.on [(74, 74, none)] (by decide) (by decide)).i 74 1 rfl]; exact B74
        rw [y74, nI_s]
        generalize hY4 : sI (sI Y3 72 b (nI y)) 74 1 (nI (b + 1)) = Y4
        have sY4 : sm [(72, 72, none), (74, 74, some 1)] Y3 Y4 := by rw [← hY4]; exact (sm_rf.I (by rfl)).I (by rfl)
        have t4 : TK T L (nxS T L (nxS T L (nxS T L s))) X4 Y4 := TK_on on.rf (sY4.on _ (by decide) (by decide)) ⟨l2, m8.2⟩
        have sX : sm [(10, 10, some 3), (10, 10, some 4), (10, 10, some 5), (10, 10, some 6), (12, 12, some 8), (12, 12, some 15), (19, 20, none)] X X4 := (((a4.up (by decide)).tr (n10.up (by decide))).tr (k5.up (by decide))).tr (l3.up (by decide))
        have sY : sm [(47, 47, some 2), (47, 47, some 3), (47, 47, some 5), (69, 69, none), (72, 72, none), (74, 74, some 1)] Y Y4 := ((((a5.up (by decide)).tr (n11.up (by decide))).tr (sY2.up (by decide))).tr (m11.up (by decide))).tr (sY4.up (by decide))
        have dd4 : DD X4 Y4 := by
          refine ⟨⟨a, DV_on (sX.on _ (by decide) (by decide)) (sY.on _ (by decide) (by decide)) d1⟩, ⟨b + 1, by omega, ?_, ?_, fun q hq => ?_⟩, DNw_on (sX.on _ (by decide) (by decide)) (sY.on _ (by decide) (by decide)) d3, DBr_on (sX.on _ (by decide) (by decide)) (sY.on _ (by decide) (by decide)) d4, DHw_on (sX.on _ (by decide) (by decide)) (sY.on _ (by decide) (by decide)) d5⟩
          · rw [(l3.on [(12, 12, none)] (by decide) (by decide)).i 12 8 rfl]; exact k4
          · rw [← hY4]; exact sI_at ..
          · have o4 := l3.on [(19, 20, none)] (by decide) (by decide)
            have oX := (a4.up (L1 := rgNx) (by decide)).tr n10
            have oX1 := oX.on [(19, 20, none)] (by decide) (by decide)
            have v69 : Y4.1 69 q = if q = b then nI x else Y.1 69 q := by
              rw [(sY4.on [(69, 69, none)] (by decide) (by decide)).i 69 q rfl, (m11.on [(69, 69, none)] (by decide) (by decide)).i 69 q rfl, ← hY2]
              by_cases e : q = b
              · rw [e, sI_at, if_pos rfl]
              · rw [sI_nj _ _ e, if_neg e, (n11.on [(69, 69, none)] (by decide) (by decide)).i 69 q rfl, (a5.on [(69, 69, none)] (by decide) (by decide)).i 69 q rfl]
            have v72 : Y4.1 72 q = if q = b then nI y else Y.1 72 q := by
              rw [← hY4, sI_nk _ _ (by decide)]
              by_cases e : q = b
              · rw [e, sI_at, if_pos rfl]
              · rw [sI_nj _ _ e, if_neg e, (m11.on [(72, 72, none)] (by decide) (by decide)).i 72 q rfl, (sY2.on [(72, 72, none)] (by decide) (by decide)).i 72 q rfl, (n11.on [(72, 72, none)] (by decide) (by decide)).i 72 q rfl, (a5.on [(72, 72, none)] (by decide) (by decide)).i 72 q rfl]
            rw [o4.i 19 q rfl, o4.i 20 q rfl, k2 q, k3 q, v69, v72, oX1.i 19 q rfl, oX1.i 20 q rfl]
            by_cases e : q = b
            · rw [if_pos e, if_pos e, if_pos e, if_pos e]
              exact ⟨⟨rfl, rfl⟩, inN_nI (by omega) (by decide), inN_nI (by omega) (by decide)⟩
            · rw [if_neg e, if_neg e, if_neg e, if_neg e]
              exact d2.2.2.2 q (by omega)
        obtain ⟨c, X5, Y5, z0, z1, z2, z3⟩ := semi hL t4 dd4
        have s2 := (nx_le (T := T) (a3.2.2.1)).1
        have s3 := (nx_le (T := T) (t3.2.2.1)).1
        exact ⟨c, X5, Y5, z0, bind_semi z1 z0, bind_passes z2 z0, RZ_lt z3 (by omega)⟩
      · rw [m1, Option.bind_some, if_pos (by decide), m2, Option.bind_some]
        exact ⟨0, X1, Y3, Or.inl rfl, rfl, rfl, Or.inr ⟨rfl, _, t2.2.2.1, m3, m4⟩⟩
    · rw [n1, Option.bind_some, if_pos (by decide), n2, Option.bind_some]
      exact ⟨0, A, Y1, Or.inl rfl, rfl, rfl, Or.inr ⟨rfl, _, a3.2.2.1, n3, n4⟩⟩
  · rw [if_neg (fun w => cb ((nI_ltJ (by omega) (by omega)).mp w)), if_pos (nI_le (by omega) (by omega))]
    obtain ⟨Y1, b1, b2, -⟩ := e_pass0 ht.2.1 ht.2.2.2
    unfold fX11_told_131 fX11_told_148 fX11_told_149
    refine ⟨0, X, Y1, Or.inl rfl, rfl, ?_, Or.inr ⟨rfl, s, ht.2.2.1, ht.1.2.1, b2⟩⟩
    rw [b1, Option.bind_some]
    show (if (0 : Int32) = 0 then _ else _) = _
    rw [if_pos rfl, b01]
