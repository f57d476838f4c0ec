/-! win -/
theorem sgn {T : Nat → Int32} {L s : Nat} {X Y : Mem} (hL : L ≤ 600) (h : TK T L s X Y) : (∃ X1 Y1, X.1 10 3 = 4 ∧ fX6_next X = some X1 ∧ (fX11_isSign Y 47).bind (fun q => fX11_passes q Y) = some (1, Y1) ∧ TK T L (nxS T L s) X1 Y1 ∧ sm rgNx X X1 ∧ sm rgSk Y Y1) ∨ (∃ Y1, ¬ X.1 10 3 = 4 ∧ (fX11_isSign Y 47).bind (fun q => fX11_passes q Y) = some (0, Y1) ∧ X.1 10 4 = nI s ∧ Y1.1 47 4 = nI s) := by
  obtain ⟨h1, h2, h3, h4⟩ := id h
  rw [h1.2.2.2.1, e_sign hL h3 h2, Option.bind_some]
  by_cases c : kd T L s = 4
  · left
    obtain ⟨X1, Y1, a1, a2, a3, a4, a5⟩ := adv hL h
    refine ⟨X1, Y1, c, a1, ?_, a3, a4, a5⟩
    rw [decide_eq_true (kd_sign.2.mp c)]; exact a2
  · right
    obtain ⟨Y1, b1, b2, -⟩ := e_pass0 h2 h4
    refine ⟨Y1, c, ?_, h1.2.1, b2⟩
    rw [decide_eq_false (fun w => c (kd_sign.2.mpr w))]; exact b1
/-- over a/b and its end -/
theorem wn_end {T : Nat → Int32} {L s m : Nat} {X Y : Mem} (hL : L ≤ 600) (ht : TK T L s X Y) (d1 : ∃ a, DV X Y a) (d2 : ∃ b, DP X Y b) (d3 : DNw X Y) (d5 : DHw X Y) (hm : m = 1 ∨ m = 2) (hx : X.1 12 11 = nI m) (hy : Y.1 75 1 = nI m) : ∃ c X1 Y1, (c = 0 ∨ c = 1) ∧ fX6_readBar_78 X = some (c, X1) ∧ fX11_winRead_85 1 Y = some (c, Y1) ∧ RZ T L s c X1 Y1 := by
  obtain ⟨a, d1⟩ := d1
  obtain ⟨b, d2⟩ := d2
  obtain ⟨A, B, a1, a2, a3, a4, a5⟩ := adv hL ht
  have l1 := (nx_le (T := T) ht.2.2.1).1
  unfold fX6_readBar_78 fX6_readShare fX11_winRead_85 fX11_winRead_101 fX11_winRead_156 fX6_readBar_100 fX6_readBar_101 fX6_readShare_81
  rw [a1, Option.bind_some, a2, Option.bind_some]
  show ∃ c X1 Y1, _ ∧ _ ∧ (if (1 : Int32) = 0 then _ else _) = some (c, Y1) ∧ _
  rw [if_neg (by decide), show (fX6_isNumber A 1 99) = fX6_isNumber A (nI 1) (nI 99) from rfl]
  show ∃ c X1 Y1, _ ∧ _ ∧ (fX11_number (nI 1) (nI 99) B).bind _ = some (c, Y1) ∧ _
  rcases num1 (lo := 1) (hi := 99) hL a3 (by omega) (by omega) with ⟨X1, Y1, n1, n2, n3, n4, n5, n6, n7, n8, n9, n10, n11⟩ | ⟨Y1, n1, n2, n3, n4⟩
  · rw [n1, Option.bind_some, if_neg (by decide), nx_eq, n2, n6, Option.bind_some]
    show ∃ c X1 Y1, _ ∧ _ ∧ (if (1 : Int32) = 0 then _ else _) = some (c, Y1) ∧ _
    rw [if_neg (by decide), nx_eq, ix_1]
    show ∃ c X1 Y9, _ ∧ _ ∧ ((fX11_isSign (sI Y1 76 1 (Y1.1 47 5)) 47).bind (fun q117 => (fX11_passes q117 (sI Y1 76 1 (Y1.1 47 5))).bind _)) = some (c, Y9) ∧ _
    rw [n7]
    generalize hv : nvN T L (nxS T L s) = v at *
    generalize hA1 : sI A 12 12 (nI v) = A1
    have sA1 : sm [(12, 12, some 12)] A A1 := by rw [← hA1]; exact sm_rf.I (by rfl)
    have A12 : A1.1 12 12 = nI v := by rw [← hA1]; exact sI_at ..
    have tA1 : TK T L (nxS T L s) A1 B := TK_on (sA1.on _ (by decide) (by decide)) on.rf a3
    obtain ⟨C, c1, c2, c3⟩ := k_next (T := T) (e := tkE T L (nxS T L s)) hL (tk_le tA1.2.2.1).2 tA1.1.1.1 tA1.1.1.2 tA1.1.2.2.1
    rw [c1, Option.bind_some]
    generalize hB1 : sI Y1 76 1 (nI v) = B1
    have sB1 : sm [(76, 76, some 1)] Y1 B1 := by rw [← hB1]; exact sm_rf.I (by rfl)
    have B76 : B1.1 76 1 = nI v := by rw [← hB1]; exact sI_at ..
    have l2 := (nx_le (T := T) a3.2.2.1).1
    have c2 : CS T L (nxS T L (nxS T L s)) C := c2
    generalize hs2 : nxS T L (nxS T L s) = s2 at *
    have tC : TK T L s2 C B1 := TK_on on.rf (sB1.on _ (by decide) (by decide)) ⟨c2, n8.2⟩
    rcases sgn hL tC with ⟨X2, Y2, g1, g2, g3, g4, g5, g6⟩ | ⟨Y2, g1, g2, g3, g4⟩
    · have e3 : (fX11_isSign B1 47).bind (fun q117 => (fX11_passes q117 B1).bind (fun q120 => (if q120.1 = 0 then some ((0 : Int32), q120.2) else (fX11_number (imax (1 : Int32) (q120.2.1 76 1)) (imin (99 : Int32) ((2 : Int32) * (q120.2.1 76 1))) q120.2).bind (fun q150 => (if q150.1 = 0 then some ((0 : Int32), q150.2) else nx (sI q150.2 77 1 (q150.2.1 47 5)) (fun M167 => (fX11_isSign M167 (59 : Int32)).bind (fun q172 => (fX11_passes q172 M167).bind (fun q175 => some ((q175.1 &&& 1), q175.2))))))))) = (fX11_number (imax (1 : Int32) (Y2.1 76 1)) (imin (99 : Int32) ((2 : Int32) * (Y2.1 76 1))) Y2).bind (fun q150 => (if q150.1 = 0 then some ((0 : Int32), q150.2) else nx (sI q150.2 77 1 (q150.2.1 47 5)) (fun M167 => (fX11_isSign M167 (59 : Int32)).bind (fun q172 => (fX11_passes q172 M167).bind (fun q175 => some ((q175.1 &&& 1), q175.2)))))) := by
        cases e1 : fX11_isSign B1 47 with
        | none => rw [e1] at g3; cases g3
        | some q =>
          rw [e1, Option.bind_some] at g3
          rw [Option.bind_some, g3, Option.bind_some]
          show (if (1 : Int32) = 0 then _ else _) = _
          rw [if_neg (by decide)]
      show ∃ c X1 Y9, _ ∧ _ ∧ ((fX11_isSign B1 47).bind (fun q117 => (fX11_passes q117 B1).bind (fun q120 => (if q120.1 = 0 then some ((0 : Int32), q120.2) else (fX11_number (imax (1 : Int32) (q120.2.1 76 1)) (imin (99 : Int32) ((2 : Int32) * (q120.2.1 76 1))) q120.2).bind (fun q150 => (if q150.1 = 0 then some ((0 : Int32), q150.2) else nx (sI q150.2 77 1 (q150.2.1 47 5)) (fun M167 => (fX11_isSign M167 (59 : Int32)).bind (fun q172 => (fX11_passes q172 M167).bind (fun q175 => some ((q175.1 &&& 1), q175.2)))))))))) = some (c, Y9) ∧ _
      rw [e3, if_pos g1, g2, Option.bind_some]
      have Y276 : Y2.1 76 1 = nI v := by rw [(g6.on [(76, 76, none)] (by decide) (by decide)).i 76 1 rfl]; exact B76
      have X212 : X2.1 12 12 = nI v := by rw [(g5.on [(12, 12, none)] (by decide) (by decide)).i 12 12 rfl, (c3.on [(12, 12, none)] (by decide) (by decide)).i 12 12 rfl]; exact A12
      have elo : imax 1 (nI v) = nI v := by
        rw [fa_eq, imax_i, nI_toInt (by omega), show (1 : Int32).toInt = 1 from rfl]
        split <;> omega
      have ehi : imin 99 (2 * nI v) = nI (min 99 (2 * v)) := by
        rw [show (2 : Int32) = nI 2 from rfl, pk_mul, fa_eq, imin_i, nI_toInt (by omega), nI_toInt (by omega), show (99 : Int32).toInt = 99 from rfl]
        split <;> omega
      rw [Y276, elo, ehi, X212]
      have l3 := (nx_le (T := T) tC.2.2.1).1
      generalize hs3 : nxS T L s2 = s3 at *
      have cn := k_isNumber (lo := 1) (hi := 99) g4.1 (by omega) (by omega)
      have nb := nvF_le T s3 (tkE T L s3 - s3)
      have nb' : nvN T L s3 ≤ 1000 := nb
      show ∃ c X1 Y9, _ ∧ (((fX6_isNumber X2 (nI 1) (nI 99)).bind _).bind _) = some (c, X1) ∧ _ ∧ _
      rcases num1 (lo := v) (hi := min 99 (2 * v)) hL g4 (by omega) (by omega) with ⟨X3, Y3, m1, m2, m3, m4, m5, m6, m7, m8, m9, m10, m11⟩ | ⟨Y3, m1, m2, m3, m4⟩
      · have yes : fX6_isNumber X2 (nI 1) (nI 99) = some 1 := by
          rw [cn]
          have : nmB T L s3 1 99 = true := by
            have k := k_isNumber (lo := v) (hi := min 99 (2 * v)) g4.1 (by omega) (by omega)
            rw [m1] at k
            have : nmB T L s3 v (min 99 (2 * v)) = true := by
              cases q : nmB T L s3 v (min 99 (2 * v)) with
              | true => rfl
              | false => rw [q] at k; exact absurd k (by decide)
            unfold nmB at this ⊢
            simp only [Bool.and_eq_true, decide_eq_true_eq] at this ⊢
            have w1 : min 99 (2 * v) ≤ 99 := Nat.min_le_left ..
            exact ⟨this.1, Nat.le_trans n3 this.2.1, Nat.le_trans this.2.2 w1⟩
          rw [this]; rfl
        rw [yes, Option.bind_some, if_neg (by decide), m2, if_neg (show ¬ nI (nvN T L s3) < nI v by rw [nI_ltJ (by omega) (by omega)]; omega), if_pos (show nI (nvN T L s3) ≤ 2 * nI v by rw [show (2 : Int32) = nI 2 from rfl, pk_mul]; exact nI_le (by omega) (by omega)), nx_eq]
        generalize hz : nvN T L s3 = z at *
        generalize hX4 : sI X2 12 13 (nI z) = X4
        have sX4 : sm [(12, 12, some 13)] X2 X4 := by rw [← hX4]; exact sm_rf.I (by rfl)
        have tX4 : TK T L s3 X4 Y2 := TK_on (sX4.on _ (by decide) (by decide)) on.rf g4
        obtain ⟨D, f1, f2, f3⟩ := k_next (T := T) (e := tkE T L s3) hL (tk_le tX4.2.2.1).2 tX4.1.1.1 tX4.1.1.2 tX4.1.2.2.1
        rw [f1, Option.bind_some, Option.bind_some, m6, Option.bind_some]
        show ∃ c X1 Y9, _ ∧ (if (1 : Int32) = 0 then _ else _) = some (c, X1) ∧ (if (1 : Int32) = 0 then _ else _) = some (c, Y9) ∧ _
        rw [if_neg (by decide), if_neg (by decide), nx_eq]
        show ∃ c X1 Y9, _ ∧ (fX6_passSemicolon D).bind _ = some (c, X1) ∧ ((fX11_isSign (sI Y3 77 1 (Y3.1 47 5)) 59).bind (fun q => (fX11_passes q (sI Y3 77 1 (Y3.1 47 5))).bind _)) = some (c, Y9) ∧ _
        rw [m7]
        generalize hE : sI Y3 77 1 (nI z) = E
        have sE : sm [(77, 77, some 1)] Y3 E := by rw [← hE]; exact sm_rf.I (by rfl)
        have tE : TK T L (nxS T L s3) D E := TK_on on.rf (sE.on _ (by decide) (by decide)) ⟨f2, m8.2⟩
        have sX : sm [(10, 10, some 3), (10, 10, some 4), (10, 10, some 5), (10, 10, some 6), (12, 12, some 12), (12, 12, some 13)] X D := ((((((a4.up (by decide)).tr (sA1.up (by decide))).tr (c3.up (by decide))).tr (g5.up (by decide))).tr (sX4.up (by decide))).tr (f3.up (by decide)))
        have sY : sm [(47, 47, some 2), (47, 47, some 3), (47, 47, some 5), (76, 77, some 1)] Y E := ((((((a5.up (by decide)).tr (n11.up (by decide))).tr (sB1.up (by decide))).tr (g6.up (by decide))).tr (m11.up (by decide))).tr (sE.up (by decide)))
        have x12 : D.1 12 12 = nI v := by rw [(f3.on [(12, 12, none)] (by decide) (by decide)).i 12 12 rfl, (sX4.on [(12, 12, some 12)] (by decide) (by decide)).i 12 12 rfl]; exact X212
        have x13 : D.1 12 13 = nI z := by rw [(f3.on [(12, 12, none)] (by decide) (by decide)).i 12 13 rfl, ← hX4]; exact sI_at ..
        have y76 : E.1 76 1 = nI v := by rw [(sE.on [(76, 76, none)] (by decide) (by decide)).i 76 1 rfl, (m11.on [(76, 76, none)] (by decide) (by decide)).i 76 1 rfl]; exact Y276
        have y77 : E.1 77 1 = nI z := by rw [← hE]; exact sI_at ..
        have dd : DD D E := by
          refine ⟨⟨a, DV_on (sX.on _ (by decide) (by decide)) (sY.on _ (by decide) (by decide)) d1⟩, ⟨b, DP_on (sX.on _ (by decide) (by decide)) (sY.on _ (by decide) (by decide)) d2⟩, DNw_on (sX.on _ (by decide) (by decide)) (sY.on _ (by decide) (by decide)) d3, ?_, DHw_on (sX.on _ (by decide) (by decide)) (sY.on _ (by decide) (by decide)) d5⟩
          unfold DBr
          rw [(sX.on [(12, 12, some 11)] (by decide) (by decide)).i 12 11 rfl, (sY.on [(75, 75, none)] (by decide) (by decide)).i 75 1 rfl, hx, hy, x12, x13, y76, y77, nI_toInt (by omega)]
          refine ⟨rfl, Or.inr ⟨?_, rfl, rfl, by omega, by omega⟩⟩
          rcases hm with rfl | rfl
          · left; rfl
          · right; rfl
        obtain ⟨c, X5, Y5, z0, z1, z2, z3⟩ := semi hL tE dd
        have l4 := (nx_le (T := T) g4.2.2.1).1
        refine ⟨c, X5, Y5, z0, ?_, bind_passes z2 z0, RZ_lt z3 (by omega)⟩
        rw [z1, Option.bind_some]
        exact told_end z0
      · refine ⟨0, X2, Y3, Or.inl rfl, ?_, by rw [m2, Option.bind_some]; rfl, Or.inr ⟨rfl, s3, g4.2.2.1, m3, m4⟩⟩
        have k := k_isNumber (lo := v) (hi := min 99 (2 * v)) g4.1 (by omega) (by omega)
        rw [m1] at k
        have nf : nmB T L s3 v (min 99 (2 * v)) = false := by
          cases q : nmB T L s3 v (min 99 (2 * v)) with
          | false => rfl
          | true => rw [q] at k; exact absurd k (by decide)
        rw [cn, Option.bind_some]
        cases q : nmB T L s3 1 99 with
        | false =>
          rw [if_pos (show bI false = 0 from rfl), Option.bind_some]
          show (if (0 : Int32) = 0 then _ else _) = _
          rw [if_pos rfl, b01]
        | true =>
          rw [if_neg (show ¬ bI true = 0 by decide)]
          unfold nmB at q nf
          simp only [Bool.and_eq_true, decide_eq_true_eq] at q
          have v6 : X2.1 10 6 = nI (nvN T L s3) := g4.1.2.2.2.2 q.1
          rw [decide_eq_true q.1, Bool.true_and, Bool.and_eq_false_iff, decide_eq_false_iff_not, decide_eq_false_iff_not] at nf
          rw [v6]
          by_cases c4 : nvN T L s3 < v
          · rw [if_pos ((nI_ltJ (by omega) (by omega)).mpr c4), Option.bind_some]
            show (if (0 : Int32) = 0 then _ else _) = _
            rw [if_pos rfl, b01]
          · rw [if_neg (fun w => c4 ((nI_ltJ (by omega) (by omega)).mp w)), if_neg (show ¬ nI (nvN T L s3) ≤ 2 * nI v by rw [show (2 : Int32) = nI 2 from rfl, pk_mul]; exact nI_ge (by omega) (by omega)), Option.bind_some]
            show (if (0 : Int32) = 0 then _ else _) = _
            rw [if_pos rfl, b01]
    · rw [if_neg g1, Option.bind_some]
      refine ⟨0, C, Y2, Or.inl rfl, ?_, ?_, Or.inr ⟨rfl, s2, tC.2.2.1, g3, g4⟩⟩
      · show (if (0 : Int32) = 0 then _ else _) = _
        rw [if_pos rfl, b01]
      · cases e1 : fX11_isSign B1 47 with
        | none => rw [e1] at g2; cases g2
        | some q =>
          rw [e1, Option.bind_some] at g2
          rw [Option.bind_some]
          show (fX11_passes q B1).bind _ = _
          rw [g2, Option.bind_some]
          rfl
  · rw [n1, Option.bind_some, if_pos (by decide), n2, Option.bind_some, Option.bind_some]
    refine ⟨0, A, Y1, Or.inl rfl, ?_, rfl, Or.inr ⟨rfl, _, a3.2.2.1, n3, n4⟩⟩
    show (if (0 : Int32) = 0 then _ else _) = _
    rw [if_pos rfl, b01]
theorem st_win {T : Nat → Int32} {L s : Nat} {X Y : Mem} (hL : L ≤ 600) (h : SM T L s X Y) (hs : s < L) : ∃ c X1 Y1, (c = 0 ∨ c = 1) ∧ fX6_readBar X = some (c, X1) ∧ (if Y.1 47 22 = 0 then fX11_told_172 1 Y else fX11_told_171 Y) = some (c, Y1) ∧ RZ T L s c X1 Y1 := by
  obtain ⟨ht, hd⟩ := h
  obtain ⟨⟨a, d1⟩, ⟨b, d2⟩, d3, d4, d5⟩ := id hd
  unfold fX6_readBar
  rw [d5.1]
  by_cases c0 : X.1 10 10 = 0
  · rw [if_pos c0, if_pos c0, nx_eq]
    generalize hX1 : sI X 10 10 1 = X1
    have sX1 : sm [(10, 10, some 10)] X X1 := by rw [← hX1]; exact sm_rf.I (by rfl)
    have tX1 : TK T L s X1 Y := TK_on (sX1.on _ (by decide) (by decide)) on.rf ht
    obtain ⟨A, B, a1, a2, a3, a4, a5⟩ := adv hL tX1
    unfold fX11_told_172 fX11_told_189 fX11_told_190
    rw [a1, Option.bind_some, a2, Option.bind_some]
    show ∃ c X1 Y1, _ ∧ _ ∧ (if (1 : Int32) = 0 then _ else _) = some (c, Y1) ∧ _
    rw [if_neg (by decide)]
    suffices hp : ∃ c X1 Y1, (c = 0 ∨ c = 1) ∧ ((fX6_isWord A 23).bind (fun q21 => (if q21 = 0 then (fX6_isWord A 24).bind (fun q39 => (if q39 = 0 then (fX6_isWord A 25).bind (fun q59 => (if q59 = 0 then some ((0 : Int32), A) else nx (sI A 12 11 (2 : Int32)) (fun M70 => fX6_readBar_78 M70))) else nx (sI A 12 11 (1 : Int32)) (fun M50 => fX6_readBar_78 M50))) else (fX6_next A).bind (fun q28 => (fX6_passSemicolon q28).bind (fun q32 => some ((q32.1 &&& 1), q32.2)))))) = some (c, X1) ∧ fX11_winRead B = some (c, Y1) ∧ RZ T L s c X1 Y1 by
      obtain ⟨c, X1, Y1, p0, p1, p2, p3⟩ := hp
      refine ⟨c, X1, Y1, p0, p1, ?_, p3⟩
      rw [p2, Option.bind_some]
      exact told_end p0
    obtain ⟨Z, hZ⟩ : ∃ Z, Z = fX11_winRead B := ⟨_, rfl⟩
    rw [← hZ]
    unfold fX11_winRead at hZ
    rw [nx_eq] at hZ
    rw [hZ]
    clear hZ
    generalize hB1 : sI B 47 22 1 = B1
    have sB1 : sm [(47, 47, some 22)] B B1 := by rw [← hB1]; exact sm_rf.I (by rfl)
    have s1 := (nx_lt (T := T) hs).1
    have a3' : TK T L (nxS T L s) A B1 := TK_on on.rf (sB1.on _ (by decide) (by decide)) a3
    have sA : sm [(10, 10, some 3), (10, 10, some 4), (10, 10, some 5), (10, 10, some 6), (10, 10, some 10)] X A := (sX1.up (by decide)).tr (a4.up (by decide))
    have sB : sm [(47, 47, some 2), (47, 47, some 3), (47, 47, some 22)] Y B1 := (a5.up (by decide)).tr (sB1.up (by decide))
    have x10 : A.1 10 10 = 1 := by rw [(a4.on [(10, 10, some 10)] (by decide) (by decide)).i 10 10 rfl, ← hX1]; exact sI_at ..
    have y22 : B1.1 47 22 = 1 := by rw [← hB1]; exact sI_at ..
    have f1 : DV A B1 a := DV_on (sA.on _ (by decide) (by decide)) (sB.on _ (by decide) (by decide)) d1
    have f2 : DP A B1 b := DP_on (sA.on _ (by decide) (by decide)) (sB.on _ (by decide) (by decide)) d2
    have f3 : DNw A B1 := DNw_on (sA.on _ (by decide) (by decide)) (sB.on _ (by decide) (by decide)) d3
    have f4 : DBr A B1 := DBr_on (sA.on _ (by decide) (by decide)) (sB.on _ (by decide) (by decide)) d4
    have f5 : DHw A B1 := ⟨by rw [x10, y22], Or.inr x10⟩
    clear hX1 hB1 a3 a4 a5 sA sB sB1 sX1 tX1 a1 a2
    generalize hs' : nxS T L s = s' at *
    have g23 := k_isWord (w := 23) hL a3'.2.2.1 (by decide) a3'.1
    have g24 := k_isWord (w := 24) hL a3'.2.2.1 (by decide) a3'.1
    have g25 := k_isWord (w := 25) hL a3'.2.2.1 (by decide) a3'.1
    have r5 := e_isWord (w := 5) hL a3'.2.2.1 (by decide) a3'.2.1
    have r6 := e_isWord (w := 6) hL a3'.2.2.1 (by decide) a3'.2.1
    have q5 : wdB T L s' 5 = wdB T L s' 23 := wd_eq (by decide) (by decide) (by decide)
    have q6 : wdB T L s' 6 = wdB T L s' 24 := wd_eq (by decide) (by decide) (by decide)
    have q7 : wdB T L s' 7 = wdB T L s' 25 := wd_eq (by decide) (by decide) (by decide)
    rw [g23, r5, q5, Option.bind_some, Option.bind_some]
    cases c23 : wdB T L s' 23 with
    | true =>
      rw [if_neg (show ¬ bI true = 0 by decide), if_neg (show ¬ bI true = 0 by decide)]
      obtain ⟨C, D, k1, k2, k3, k4, k5⟩ := adv hL a3'
      have dCD : DD C D := DD_on (k4.on _ (by decide) (by decide)) (k5.on _ (by decide) (by decide)) ⟨⟨a, f1⟩, ⟨b, f2⟩, f3, f4, f5⟩
      obtain ⟨c, X5, Y5, z0, z1, z2, z3⟩ := semi hL k3 dCD
      have l2 := (nx_le (T := T) a3'.2.2.1).1
      rw [k1, Option.bind_some, k2, Option.bind_some]
      refine ⟨c, X5, Y5, z0, bind_semi z1 z0, ?_, RZ_lt z3 (by omega)⟩
      show (if (1 : Int32) = 0 then _ else _) = _
      rw [if_neg (by decide)]
      show (fX11_isSign D 59).bind (fun q => (fX11_passes q D).bind _) = _
      cases e1 : fX11_isSign D 59 with
      | none => rw [e1] at z2; cases z2
      | some q =>
        rw [e1, Option.bind_some] at z2
        rw [Option.bind_some, z2, Option.bind_some]
        exact told_end z0
    | false =>
      rw [if_pos (show bI false = 0 by decide), if_pos (show bI false = 0 by decide), g24, r6, q6, Option.bind_some, Option.bind_some]
      have w60 : ∀ k : Int32, fX11_winRead_60 1 k B1 = (if wdB T L s' 24 = true then fX11_winRead_85 1 (sI B1 75 1 k) else if wdB T L s' 25 = true then fX11_winRead_85 1 (sI B1 75 1 k) else fX11_winRead_85 0 (sI B1 75 1 k)) := by
        intro k
        have sK : sm [(75, 75, some 1)] B1 (sI B1 75 1 k) := sm_rf.I (by rfl)
        have tK : TK T L s' A (sI B1 75 1 k) := TK_on on.rf (sK.on _ (by decide) (by decide)) a3'
        unfold fX11_winRead_60 fX11_winRead_80
        rw [if_pos (by decide), nx_eq, ix_1]
        rw [e_isWord (w := 6) hL tK.2.2.1 (by decide) tK.2.1, e_isWord (w := 7) hL tK.2.2.1 (by decide) tK.2.1, q6, q7]
        simp only [Option.bind_some]
        cases wdB T L s' 24
        · cases wdB T L s' 25 <;> rfl
        · rfl
      have go : ∀ m : Nat, (m = 1 ∨ m = 2) → ∃ c X1 Y1, (c = 0 ∨ c = 1) ∧ fX6_readBar_78 (sI A 12 11 (nI m)) = some (c, X1) ∧ fX11_winRead_85 1 (sI B1 75 1 (nI m)) = some (c, Y1) ∧ RZ T L s c X1 Y1 := by
        intro m hm
        have sK : sm [(75, 75, some 1)] B1 (sI B1 75 1 (nI m)) := sm_rf.I (by rfl)
        have sJ : sm [(12, 12, some 11)] A (sI A 12 11 (nI m)) := sm_rf.I (by rfl)
        obtain ⟨c, X1, Y1, z0, z1, z2, z3⟩ := wn_end (X := sI A 12 11 (nI m)) (Y := sI B1 75 1 (nI m)) hL (TK_on (sJ.on _ (by decide) (by decide)) (sK.on _ (by decide) (by decide)) a3') ⟨a, DV_on (sJ.on _ (by decide) (by decide)) (sK.on _ (by decide) (by decide)) f1⟩ ⟨b, DP_on (sJ.on _ (by decide) (by decide)) (sK.on _ (by decide) (by decide)) f2⟩ (DNw_on (sJ.on _ (by decide) (by decide)) (sK.on _ (by decide) (by decide)) f3) (DHw_on (sJ.on _ (by decide) (by decide)) (sK.on _ (by decide) (by decide)) f5) hm (sI_at ..) (sI_at ..)
        exact ⟨c, X1, Y1, z0, z1, z2, RZ_lt z3 (by omega)⟩
      cases c24 : wdB T L s' 24 with
      | true =>
        rw [if_neg (show ¬ bI true = 0 by decide), if_neg (show ¬ bI true = 0 by decide), w60, c24, nx_eq]
        exact go 1 (Or.inl rfl)
      | false =>
        rw [if_pos (show bI false = 0 by decide), if_pos (show bI false = 0 by decide), w60, c24, g25, Option.bind_some]
        cases c25 : wdB T L s' 25 with
        | true =>
          rw [if_neg (show ¬ bI true = 0 by decide), nx_eq]
          exact go 2 (Or.inr rfl)
        | false =>
          rw [if_pos (show bI false = 0 by decide)]
          show ∃ c X1 Y1, _ ∧ _ ∧ fX11_winRead_85 0 (sI B1 75 1 2) = some (c, Y1) ∧ _
          have sK : sm [(75, 75, some 1)] B1 (sI B1 75 1 2) := sm_rf.I (by rfl)
          have tK : TK T L s' A (sI B1 75 1 2) := TK_on on.rf (sK.on _ (by decide) (by decide)) a3'
          obtain ⟨Y1, b1, b2, -⟩ := e_pass0 tK.2.1 tK.2.2.2
          unfold fX11_winRead_85 fX11_winRead_101
          rw [b1, Option.bind_some]
          exact ⟨0, A, Y1, Or.inl rfl, rfl, rfl, Or.inr ⟨rfl, s', tK.2.2.1, tK.1.2.1, b2⟩⟩
  · rw [if_neg c0, if_neg c0]
    obtain ⟨Y1, b1, b2, -⟩ := e_pass0 ht.2.1 ht.2.2.2
    unfold fX11_told_171 fX11_told_172 fX11_told_189 fX11_told_190
    rw [b1, Option.bind_some]
    refine ⟨0, X, Y1, Or.inl rfl, rfl, ?_, Or.inr ⟨rfl, s, ht.2.2.1, ht.1.2.1, b2⟩⟩
    show (if (0 : Int32) = 0 then _ else _) = _
    rw [if_pos rfl, b01]
