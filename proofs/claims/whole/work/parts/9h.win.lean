/-! win -/
theorem sgn {T : Nat → Int32} {L s : Nat} {X Y : Mem} (hL : L ≤ 600) (h : TK T L s X Y) : (∃ X1 Y1, X.1 10 3 = 4 ∧ fX6_next X = some X1 ∧ (fX11_isSign Y 47).bind (fun q => fX11_passes q Y) = some (1, Y1) ∧ TK T L (nxS T L s) X1 Y1 ∧ sm rgNx X X1 ∧ sm rgSk Y Y1) ∨ (∃ Y1, ¬ X.1 10 3 = 4 ∧ (fX11_isSign Y 47).bind (fun q => fX11_passes q Y) = some (0, Y1) ∧ X.1 10 4 = nI s ∧ Y1.1 47 4 = nI s) := by
  obtain ⟨h1, h2, h3, h4⟩ := id h
  rw [h1.2.2.2.1, e_sign hL h3 h2, Option.bind_some]
  by_cases c : kd T L s = 4
  · left
    obtain ⟨X1, Y1, a1, a2, a3, a4, a5⟩ := adv hL h
    refine ⟨X1, Y1, c, a1, ?_, a3, a4, a5⟩
    rw [decide_eq_true (kd_sign.2.mp c)]; exact a2
  · right
    obtain ⟨Y1, b1, b2, -⟩ := e_pass0 h2 h4
    refine ⟨Y1, c, ?_, h1.2.1, b2⟩
    rw [decide_eq_false (fun w => c (kd_sign.2.mpr w))]; exact b1
/-- over a/b and its end -/
theorem wn_end {T : Nat → Int32} {L s m : Nat} {X Y : Mem} (hL : L ≤ 600) (ht : TK T L s X Y) (d1 : ∃ a, DV X Y a) (d2 : ∃ b, DP X Y b) (d3 : DNw X Y) (d5 : DHw X Y) (hm : m = 1 ∨ m = 2) (hx : X.1 12 11 = nI m) (hy : Y.1 75 1 = nI m) : ∃ c X1 Y1, (c = 0 ∨ c = 1) ∧ fX6_readBar_78 X = some (c, X1) ∧ fX11_winRead_85 1 Y = some (c, Y1) ∧ RZ T L s c X1 Y1 := by
  obtain ⟨a, d1⟩ := d1
  obtain ⟨b, d2⟩ := d2
  obtain ⟨A, B, a1, a2, a3, a4, a5⟩ := adv hL ht
  have l1 := (nx_le (T := T) ht.2.2.1).1
  unfold fX6_readBar_78 fX6_readShare fX11_winRead_85 fX11_winRead_101 fX11_winRead_156 fX6_readBar_100 fX6_readBar_101 fX6_readShare_81
  rw [a1, Option.bind_some, a2, Option.bind_some]
  show ∃ c X1 Y1, _ ∧ _ ∧ (if (1 : Int32) = 0 then _ else _) = some (c, Y1) ∧ _
  rw [if_neg (by decide), show (fX6_isNumber A 1 99) = fX6_isNumber A (nI 1) (nI 99) from rfl]
  show ∃ c X1 Y1, _ ∧ _ ∧ (fX11_number (nI 1) (nI 99) B).bind _ = some (c, Y1) ∧ _
  rcases num1 (lo := 1) (hi := 99) hL a3 (by omega) (by omega) with ⟨X1, Y1, n1, n2, n3, n4, n5, n6, n7, n8, n9, n10, n11⟩ | ⟨Y1, n1, n2, n3, n4⟩
  · rw [n1, Option.bind_some, if_neg (by decide), nx_eq, n2, n6, Option.bind_some]
    show ∃ c X1 Y1, _ ∧ _ ∧ (if (1 : Int32) = 0 then _ else _) = some (c, Y1) ∧ _
    rw [if_neg (by decide), nx_eq, ix_1]
    show ∃ c X1 Y9, _ ∧ _ ∧ ((fX11_isSign (sI Y1 76 1 (Y1.1 47 5)) 47).bind (fun q117 => (fX11_passes q117 (sI Y1 76 1 (Y1.1 47 5))).bind _)) = some (c, Y9) ∧ _
    rw [n7]
    generalize hv : nvN T L (nxS T L s) = v at *
    generalize hA1 : sI A 12 12 (nI v) = A1
    have sA1 : sm [(12, 12, some 12)] A A1 := by rw [← hA1]; exact sm_rf.I (by rfl)
    have A12 : A1.1 12 12 = nI v := by rw [← hA1]; exact sI_at ..
    have tA1 : TK T L (nxS T L s) A1 B := TK_on (sA1.on _ (by decide) (by decide)) on.rf a3
    obtain ⟨C, c1, c2, c3⟩ := k_next (T := T) (e := tkE T L (nxS T L s)) hL (tk_le tA1.2.2.1).2 tA1.1.1.1 tA1.1.1.2 tA1.1.2.2.1
    rw [c1, Option.bind_some]
    generalize hB1 : sI Y1 76 1 (nI v) = B1
    have sB1 : sm [(76, 76, some 1)] Y1 B1 := by rw [← hB1]; exact sm_rf.I (by rfl)
    have B76 : B1.1 76 1 = nI v := by rw [← hB1]; exact sI_at ..
    have l2 := (nx_le (T := T) a3.2.2.1).1
    have c2 : CS T L (nxS T L (nxS T L s)) C := c2
    generalize hs2 : nxS T L (nxS T L s) = s2 at *
    have tC : TK T L s2 C B1 := TK_on on.rf (sB1.on _ (by decide) (by decide)) ⟨c2, n8.2⟩
    rcases sgn hL tC with ⟨X2, Y2, g1, g2, g3, g4, g5, g6⟩ | ⟨Y2, g1, g2, g3, g4⟩
    · have e3 : (fX11_isSign B1 47).bind (fun q117 => (fX11_passes q117 B1).bind (fun q120 => (if q120.1 = 0 then some ((0 : Int32), q120.2) else (fX11_number (imax (1 : Int32) (q120.2.1 76 1)) (imin (99 : Int32) ((2 : Int32) * (q120.2.1 76 1))) q120.2).bind (fun q150 => (if q150.1 = 0 then some ((0 : Int32), q150.2) else nx (sI q150.2 77 1 (q150.2.1 47 5)) (fun M167 => (fX11_isSign M167 (59 : Int32)).bind (fun q172 => (fX11_passes q172 M167).bind (fun q175 => some ((q175.1 &&& 1), q175.2))))))))) = (fX11_number (imax (1 : Int32) (Y2.1 76 1)) (imin (99 : Int32) ((2 : Int32) * (Y2.1 76 1))) Y2).bind (fun q150 => (if q150.1 = 0 then some ((0 : Int32), q150.2) else nx (sI q150.2 77 1 (q150.2.1 47 5)) (fun M167 => (fX11_isSign M167 (59 : Int32)).bind (fun q172 => (fX11_passes q172 M167).bind (fun q175 => some ((q175.1 &&& 1), q175.2)))))) := by
        cases e1 : fX11_isSign B1 47 with
        | none => rw [e1] at g3; cases g3
        | some q =>
          rw [e1, Option.bind_some] at g3
          rw [Option.bind_some, g3, Option.bind_some]
          show (if (1 : Int32) = 0 then _ else _) = _
          rw [if_neg (by decide)]
      show ∃ c X1 Y9, _ ∧ _ ∧ ((fX11_isSign B1 47).bind (fun q117 => (fX11_passes q117 B1).bind (fun q120 => (if q120.1 = 0 then some ((0 : Int32), q120.2) else (fX11_number (imax (1 : Int32) (q120.2.1 76 1)) (imin (99 : Int32) ((2 : Int32) * (q120.2.1 76 1))) q120.2).bind (fun q150 => (if q150.1 = 0 then some ((0 : Int32), q150.2) else nx (sI q150.2 77 1 (q150.2.1 47 5)) (fun M167 => (fX11_isSign M167 (59 : Int32)).bind (fun q172 => (fX11_passes q172 M167).bind (fun q175 => some ((q175.1 &&& 1), q175.2)))))))))) = some (c, Y9) ∧ _
      rw [e3, if_pos g1, g2, Option.bind_some]
      have Y276 : Y2.1 76 1 = nI v := by rw [(g6.on [(76, 76, none)] (by decide) (by decide)).i 76 1 rfl]; exact B76
      have X212 : X2.1 12 12 = nI v := by rw [(g5.on [(12, 12, none)] (by decide) (by decide)).i 12 12 rfl, (c3.on [(12, 12, none)] (by decide) (by decide)).i 12 12 rfl]; exact A12
      have elo : imax 1 (nI v) = nI v := by
        rw [fa_eq, imax_i, nI_toInt (by omega), show (1 : Int32).toInt = 1 from rfl]
        split <;> omega
      have ehi : imin 99 (2 * nI v) = nI (min 99 (2 * v)) := by
        rw [show (2 : Int32) = nI 2 from rfl, pk_mul, fa_eq, imin_i, nI_toInt (by omega), nI_toInt (by omega), show (99 : Int32).toInt = 99 from rfl]
        split <;> omega
      rw [Y276, elo, ehi, X212]
      have l3 := (nx_le (T := T) tC.2.2.1).1
      generalize hs3 : nxS T L s2 = s3 at *
      have cn := k_isNumber (lo := 1) (hi := 99) g4.1 (by omega) (by omega)
      have nb := nvF_le T s3 (tkE T L s3 - s3)
      have nb' : nvN T L s3 ≤ 1000 := nb
      show ∃ c X1 Y9, _ ∧ (((fX6_isNumber X2 (nI 1) (nI 99)).bind _).bind _) = some (c, X1) ∧ _ ∧ _
      rcases num1 (lo := v) (hi := min 99 (2 * v)) hL g4 (by omega) (by omega) with ⟨X3, Y3, m1, m2, m3, m4, m5, m6, m7, m8, m9, m10, m11⟩ | ⟨Y3, m1, m2, m3, m4⟩
      · have yes : fX6_isNumber X2 (nI 1) (nI 99) = some 1 := by
          rw [cn]
          have : nmB T L s3 1 99 = true := by
            have k := k_isNumber (lo := v) (hi := min 99 (2 * v)) g4.1 (by omega) (by omega)
            rw [m1] at k
            have : nmB T L s3 v (min 99 (2 * v)) = true := by
              cases q : nmB T L s3 v (min 99 (2 * v)) with
              | true => rfl
              | false => rw [q] at k; exact absurd k (by decide)
            unfold nmB at this ⊢
            simp only [Bool.and_eq_true, decide_eq_true_eq] at this ⊢
            have w1 : min 99 (2 * v) ≤ 99 := Nat.min_le_left ..
            exact ⟨this.1, Nat.le_trans n3 this.2.1, Nat.le_trans this.2.2 w1⟩
          rw [this]; rfl
        rw [yes, Option.bind_some, if_neg (by decide), m2, if_neg (show ¬ nI (nvN T L s3) < nI v by rw [nI_ltJ (by omega) (by omega)]; omega), if_pos (show nI (nvN T L s3) ≤ 2 * nI v by rw [show (2 : Int32) = nI 2 from rfl, pk_mul]; exact nI_le (by omega) (by omega)), nx_eq]
        generalize hz : nvN T L s3 = z at *
        generalize hX4 : sI X2 12 13 (nI z) = X4
        have sX4 : sm [(12, 12, some 13)] X2 X4 := by rw [← hX4]; exact sm_rf.I (by rfl)
        have tX4 : TK T L s3 X4 Y2 := TK_on (sX4.on _ (by decide) (by decide)) on.rf g4
        obtain ⟨D, f1, f2, f3⟩ := k_next (T := T) (e := tkE T L s3) hL (tk_le tX4.2.2.1).2 tX4.1.1.1 tX4.1.1.2 tX4.1.2.2.1
        rw [f1, Option.bind_some, Option.bind_some, m6, Option.bind_some]
        show ∃ c X1 Y9, _ ∧ (if (1 : Int32) = 0 then _ else _) = some (c, X1) ∧ (if (1 : Int32) = 0 then _ else _) = some (c, Y9) ∧ _
        rw [if_neg (by decide), if_neg (by decide), nx_eq]
        show ∃ c X1 Y9, _ ∧ (fX6_passSemicolon D).bind _ = some (c, X1) ∧ ((fX11_isSign (sI Y3 77 1 (Y3.1 47 5)) 59).bind (fun q => (fX11_passes q (sI Y3 77 1 (Y3.1 47 5))).bind _)) = some (c, Y9) ∧ _
        rw [m7]
        generalize hE : sI Y3 77 1 (nI z) = E
        have sE : sm [(77, 77, some 1)] Y3 E := by rw [← hE]; exact sm_rf.I (by rfl)
        have tE : TK T L (nxS T L s3) D E := TK_on on.rf (sE.on _ (by decide) (by decide)) ⟨f2, m8.2⟩
        have sX : sm [(10, 10, some 3), (10, 10, some 4), (10, 10, some 5), (10, 10, some 6), (12, 12, some 12), (12, 12, some 13)] X D := ((((((a4.up (by decide)).tr (sA1.up (by decide))).tr (c3.up (by decide))).tr (g5.up (by decide))).tr (sX4.up (by decide))).tr (f3.up (by decide)))
        have sY : sm [(47, 47, some 2), (47, 47, some 3), (47, 47, some 5), (76, 77, some 1)] Y E := ((((((a5.up (by decide)).tr (n11.up (by decide))).tr (sB1.up (by decide))).tr (g6.up (by decide))).tr (m11.up (by decide))).tr (sE.up (by decide)))
        have x12 : D.1 12 12 = nI v := by rw [(f3.on [(12, 12, none)] (by decide) (by decide)).i 12 12 rfl, (sX4.on [(12, 12, some 12)] (by decide) (by decide)).i 12 12 rfl]; exact X212
        have x13 : D.1 12 13 = nI z := by rw [(f3.on [(12, 12, none)] (by decide) (by decide)).i 12 13 rfl, ← hX4]; exact sI_at ..
        have y76 : E.1 76 1 = nI v := by rw [(sE.on [(76, 76, none)] (by decide) (by decide)).i 76 1 rfl, (m11.on [(76, 76, none)] (by decide) (by decide)).i 76 1 rfl]; exact Y276
        have y77 : E.1 77 1 = nI z := by rw [← hE]; exact sI_at ..
        have dd : DD D E := by
          refine ⟨⟨a, DV_on (sX.on _ (by decide) (by decide)) (sY.on _ (by decide) (by decide)) d1⟩, ⟨b, DP_on (sX.on _ (by decide) (by decide)) (sY.on _ (by decide) (by decide)) d2⟩, DNw_on (sX.on _ (by decide) (by decide)) (sY.on _ (by decide) (by decide)) d3, ?_, DHw_on (sX.on _ (by decide) (by decide)) (sY.on _ (by decide) (by decide)) d5⟩
          unfold DBr
          rw [(sX.on [(12, 12, some 11)] (by decide) (by decide)).i 12 11 rfl, (sY.on [(75, 75, none)] (by decide) (by decide)).i 75 1 rfl, hx, hy, x12, x13, y76, y77, nI_toInt (by omega)]
          refine ⟨rfl, Or.inr ⟨?_, rfl, rfl, by omega, by omega⟩⟩
          rcases hm with rfl | rfl
          · left; rfl
          · right; rfl
        obtain ⟨c, X5, Y5, z0, z1, z2, z3⟩ := semi hL tE dd
        have l4 := (nx_le (T := T) g4.2.2.1).1
        refine ⟨c, X5, Y5, z0, ?_, bind_passes z2 z0, RZ_lt z3 (by omega)⟩
        rw [z1, Option.bind_some]
        exact told_end z0
      · refine ⟨0, X2, Y3, Or.inl rfl, ?_, by rw [m2, Option.bind_some]; rfl, Or.inr ⟨rfl, s3, g4.2.2.1, m3, m4⟩⟩
        have k := k_isNumber (lo := v) (hi := min 99 (2 * v)) g4.1 (by omega) (by omega)
        rw [m1] at k
        have nf : nmB T L s3 v (min 99 (2 * v)) = false := by
          cases q : nmB T L s3 v (min 99 (2 * v)) with
          | false => rfl
          | true => rw [q] at k; exact absurd k (by decide)
        rw [cn, Option.bind_some]
        cases q : nmB T L s3 1 99 with
        | false =>
          rw [if_pos (show bI false = 0 from rfl), Option.bind_some]
          show (if (0 : Int32) = 0 then _ else _) = _
          rw [if_pos rfl, b01]
        | true =>
          rw [if_neg (show ¬ bI true = 0 by decide)]
          unfold nmB at q nf
          simp only [Bool.and_eq_true, decide_eq_true_eq] at q
          have v6 : X2.1 10 6 = nI (nvN T L s3) := g4.1.2.2.2.2 q.1
          rw [decide_eq_true q.1, Bool.true_and, Bool.and_eq_false_iff, decide_eq_false_iff_not, decide_eq_false_iff_not] at nf
          rw [v6]
          by_cases c4 : nvN T L s3 < v
          · rw [if_pos ((nI_ltJ (by omega) (by omega)).mpr c4), Option.bind_some]
            show (if (0 : Int32) = 0 then _ else _) = _
            rw [if_pos rfl, b01]
          · rw [if_neg (fun w => c4 ((nI_ltJ (by omega) (by omega)).mp w)), if_neg (show ¬ nI (nvN T L s3) ≤ 2 * nI v by rw [show (2 : Int32) = nI 2 from rfl, pk_mul]; exact nI_ge (by omega) (by omega)), Option.bind_some]
            show (if (0 : Int32) = 0 then _ else _) = _
            rw [if_pos rfl, b01]
    · rw [if_neg g1, Option.bind_some]
      refine ⟨0, C, Y2, Or.inl rfl, ?_, ?_, Or.inr ⟨rfl, s2, tC.2.2.1, g3, g4⟩⟩
      · show (if (0 : Int32) = 0 then _ else _) = _
        rw [if_pos rfl, b01]
      · cases e1 : fX11_isSign B1 47 with
        | none => rw [e1] at g2; cases g2
        | some q =>
          rw [e1, Option.bind_some] at g2
          rw [Option.bind_some]
          show (fX11_passes q B1).bind _ = _
          rw [g2, Option.bind_some]
          rfl
  · rw [n1, Option.bind_some, if_pos (by decide), n2, Option.bind_some, Option.bind_some]
    refine ⟨0, A, Y1, Or.inl rfl, ?_, rfl, Or.inr ⟨rfl, _, a3.2.2.1, n3, n4⟩⟩
    show (if (0 : Int32) = 0 then _ else _) = _
    rw [if_pos rfl, b01]
