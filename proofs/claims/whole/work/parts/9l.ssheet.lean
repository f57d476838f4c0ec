/-! sheet -/
theorem e_five {ρ : Type} (K : Mem → ρ) (Y : Mem) : nx (sI Y 73 (ix (0 : Int32)) (Y.1 73 (ix (1 : Int32)))) (fun M25 => nx (sI M25 74 (ix (0 : Int32)) (M25.1 74 (ix (1 : Int32)))) (fun M37 => nx (sI M37 75 (ix (0 : Int32)) (M37.1 75 (ix (1 : Int32)))) (fun M49 => nx (sI M49 76 (ix (0 : Int32)) (M49.1 76 (ix (1 : Int32)))) (fun M61 => nx (sI M61 77 (ix (0 : Int32)) (M61.1 77 (ix (1 : Int32)))) (fun M73 => K M73))))) = K (sI (sI (sI (sI (sI Y 73 0 (Y.1 73 1)) 74 0 (Y.1 74 1)) 75 0 (Y.1 75 1)) 76 0 (Y.1 76 1)) 77 0 (Y.1 77 1)) := by
  rw [ix_1, show ix (0 : Int32) = 0 from rfl, nx_eq, nx_eq, sI_nk Y (a := 74) _ (by decide), nx_eq, sI_nk _ (a := 75) _ (by decide), sI_nk Y (a := 75) _ (by decide), nx_eq, sI_nk _ (a := 76) _ (by decide), sI_nk _ (a := 76) _ (by decide), sI_nk Y (a := 76) _ (by decide), nx_eq, sI_nk _ (a := 77) _ (by decide), sI_nk _ (a := 77) _ (by decide), sI_nk _ (a := 77) _ (by decide), sI_nk Y (a := 77) _ (by decide)]
theorem e_230 (C : Mem) : fX11_sheet_230 C = some (C.1 73 0, sI (sI (sI C 47 1 0) 47 48 0) 47 29 0) := by
  unfold fX11_sheet_230 fX11_voters
  rw [nx_eq, nx_eq, nx_eq, Option.bind_some, show ix (0 : Int32) = 0 from rfl, sI_nk _ _ (by decide), sI_nk _ _ (by decide), sI_nk _ _ (by decide)]
theorem e_184 (B : Mem) : fX11_sheet_184 B = fX11_sheet_186 fX11_sheet_230 FU 0 B := by unfold fX11_sheet_184; rfl
theorem e_copy (Y : Mem) (h : Y.1 47 4 = -1) : ∃ r D, ((if (Y.1 47 4) = (-1 : Int32) then nx (sI Y 73 (ix (0 : Int32)) (Y.1 73 (ix (1 : Int32)))) (fun M25 => nx (sI M25 74 (ix (0 : Int32)) (M25.1 74 (ix (1 : Int32)))) (fun M37 => nx (sI M37 75 (ix (0 : Int32)) (M37.1 75 (ix (1 : Int32)))) (fun M49 => nx (sI M49 76 (ix (0 : Int32)) (M49.1 76 (ix (1 : Int32)))) (fun M61 => nx (sI M61 77 (ix (0 : Int32)) (M61.1 77 (ix (1 : Int32)))) (fun M73 => fX11_sheet_76 fX11_sheet_184 FU (0 : Int32) M73))))) else some ((-1 : Int32), Y)) = some (r, D)) ∧ r = Y.1 73 1 ∧ (D.1 73 0 = Y.1 73 1 ∧ D.1 74 0 = Y.1 74 1 ∧ D.1 75 0 = Y.1 75 1 ∧ D.1 76 0 = Y.1 76 1 ∧ D.1 77 0 = Y.1 77 1) ∧ (∀ v, v < 15 → D.1 50 v = Y.1 51 v ∧ D.1 53 v = Y.1 54 v ∧ D.1 56 v = Y.1 57 v ∧ D.1 59 v = Y.1 60 v ∧ D.1 62 v = Y.1 63 v ∧ D.1 65 v = Y.1 66 v) ∧ (∀ v, v < 20 → D.1 68 v = Y.1 69 v ∧ D.1 71 v = Y.1 72 v) ∧ D.1 47 1 = 0 ∧ D.1 47 48 = 0 ∧ D.1 47 29 = 0 := by
  rw [if_pos h, e_five (fun M73 => fX11_sheet_76 fX11_sheet_184 FU (0 : Int32) M73)]
  generalize hA : sI (sI (sI (sI (sI Y 73 0 (Y.1 73 1)) 74 0 (Y.1 74 1)) 75 0 (Y.1 75 1)) 76 0 (Y.1 76 1)) 77 0 (Y.1 77 1) = A
  have sA : sm [(73, 77, some 0)] Y A := by
    rw [← hA]; exact ((((sm_rf.I (by rfl)).I (by rfl)).I (by rfl)).I (by rfl)).I (by rfl)
  have a73 : A.1 73 0 = Y.1 73 1 := by rw [← hA]; simp [sI]
  have a74 : A.1 74 0 = Y.1 74 1 := by rw [← hA]; simp [sI]
  have a75 : A.1 75 0 = Y.1 75 1 := by rw [← hA]; simp [sI]
  have a76 : A.1 76 0 = Y.1 76 1 := by rw [← hA]; simp [sI]
  have a77 : A.1 77 0 = Y.1 77 1 := by rw [← hA]; simp [sI]
  clear hA
  have oA := sA.on [(50, 72, none)] (by decide) (by decide)
  obtain ⟨B, b1, b2, b3⟩ := cp_vs0 fX11_sheet_184 A
  have oB := b3.on [(66, 77, none)] (by decide) (by decide)
  obtain ⟨C, c1, c2, c3⟩ := cp_ps0 fX11_sheet_230 B
  have oC := c3.on [(50, 67, none), (73, 77, none)] (by decide) (by decide)
  show ∃ r D, fX11_sheet_76 fX11_sheet_184 FU 0 A = some (r, D) ∧ _
  rw [b1, e_184, c1, e_230]
  have k73 : ∀ k j, k ≠ 47 → (sI (sI (sI C 47 1 0) 47 48 0) 47 29 0).1 k j = C.1 k j := fun k j hk => by rw [sI_nk _ _ hk, sI_nk _ _ hk, sI_nk _ _ hk]
  refine ⟨_, _, rfl, ?_, ⟨?_, ?_, ?_, ?_, ?_⟩, fun v hv => ?_, fun v hv => ?_, ?_, ?_, ?_⟩
  · rw [oC.i 73 0 rfl, oB.i 73 0 rfl, a73]
  · rw [k73 _ _ (by decide), oC.i 73 0 rfl, oB.i 73 0 rfl, a73]
  · rw [k73 _ _ (by decide), oC.i 74 0 rfl, oB.i 74 0 rfl, a74]
  · rw [k73 _ _ (by decide), oC.i 75 0 rfl, oB.i 75 0 rfl, a75]
  · rw [k73 _ _ (by decide), oC.i 76 0 rfl, oB.i 76 0 rfl, a76]
  · rw [k73 _ _ (by decide), oC.i 77 0 rfl, oB.i 77 0 rfl, a77]
  · obtain ⟨w1, w2, w3, w4, w5, w6⟩ := b2 v hv
    rw [k73 _ _ (by decide), k73 _ _ (by decide), k73 _ _ (by decide), k73 _ _ (by decide), k73 _ _ (by decide), k73 _ _ (by decide), oC.i 50 v rfl, oC.i 53 v rfl, oC.i 56 v rfl, oC.i 59 v rfl, oC.i 62 v rfl, oC.i 65 v rfl, w1, w2, w3, w4, w5, w6, oA.i 51 v rfl, oA.i 54 v rfl, oA.i 57 v rfl, oA.i 60 v rfl, oA.i 63 v rfl, oA.i 66 v rfl]
    exact ⟨rfl, rfl, rfl, rfl, rfl, rfl⟩
  · obtain ⟨w1, w2⟩ := c2 v hv
    rw [k73 _ _ (by decide), k73 _ _ (by decide), w1, w2, oB.i 69 v rfl, oB.i 72 v rfl, oA.i 69 v rfl, oA.i 72 v rfl]
    exact ⟨rfl, rfl⟩
  · rw [sI_nj _ _ (by decide), sI_nj _ _ (by decide), sI_at]
  · rw [sI_nj _ _ (by decide), sI_at]
  · exact sI_at ..
def rgSh : Rg := [(2, 9, none), (13, 20, none), (1, 1, some 0), (1, 1, some 7), (1, 1, some 8), (1, 1, some 11), (1, 1, some 12), (1, 1, some 13), (1, 1, some 14), (1, 1, some 15), (10, 10, some 1), (10, 10, some 3), (10, 10, some 4), (10, 10, some 5), (10, 10, some 6), (10, 10, some 7), (10, 10, some 8), (10, 10, some 9), (10, 10, some 10), (12, 12, some 0), (12, 12, some 7), (12, 12, some 8), (12, 12, some 11), (12, 12, some 12), (12, 12, some 13), (12, 12, some 14), (12, 12, some 15), (45, 45, some 1), (50, 51, none), (53, 54, none), (56, 57, none), (59, 60, none), (62, 63, none), (65, 66, none), (68, 69, none), (71, 77, none), (47, 47, some 1), (47, 47, some 2), (47, 47, some 3), (47, 47, some 4), (47, 47, some 5), (47, 47, some 19), (47, 47, some 20), (47, 47, some 21), (47, 47, some 22), (47, 47, some 29), (47, 47, some 48)]
theorem s_sheet {M : Mem} {vs ps : Nat} (ht : TX M) (hv : M.1 1 14 = nI vs) (hp : M.1 1 15 = nI ps) : ∃ r M1 M2, fX10_sheet M = some (r, M1) ∧ fX11_sheet M1 = some (r, M2) ∧ (sm rgFlt M M2 ∨ (∃ a b, 0 < a ∧ DI M2 a b ∧ TX M2 ∧ MV M2 a ∧ M2.1 1 14 = nI (vs + a) ∧ M2.1 1 15 = nI (ps + b) ∧ M2.1 47 29 = 0 ∧ sm rgSh M M2)) := by
  obtain ⟨c, M1, k1, k2⟩ := rd_all ht
  have s1 := ssX6_findFault k1
  by_cases hc : c = -1
  · obtain ⟨Y0, -, -, z0⟩ := k2 M1 on.rf
    have nk : ∀ k, k ≤ 600 → ¬ c = nI k := by
      intro k hk w
      have := congrArg Int32.toInt w
      rw [hc, nI_toInt (by omega)] at this
      have e : (-1 : Int32).toInt = -1 := by decide
      rw [e] at this
      omega
    have zD : ∃ a b, 0 < a ∧ a ≤ 15 ∧ b ≤ 20 ∧ M1.1 12 0 = nI a ∧ M1.1 12 8 = nI b := by
      rcases z0 with ⟨-, ⟨-, ⟨b, w2⟩, -⟩, a, a0, w1⟩ | ⟨k, w1, w2⟩
      · exact ⟨a, b, a0, w1.1, w2.1, w1.2.1, w2.2.1⟩
      · exact absurd w2 (nk k w1)
    obtain ⟨a, b, a0, a15, b20, x0, x8⟩ := zD
    have o1 := s1.on [(1, 1, none), (47, 48, none)] (by decide) (by decide)
    obtain ⟨X, t0, t1, t2, t3, t4, t5, t6, t7, t8, t9, t10⟩ := k_take (M := M1) (vs := vs) (ps := ps) a15 b20 x0 x8 ((o1.i 1 14 rfl).trans hv) ((o1.i 1 15 rfl).trans hp)
    have sX := ssX8_takeFrom_t t0
    have hcl : fX10_sheet M = some (X.1 1 0, sI (sI X 10 1 0) 45 1 0) := by
      unfold fX10_sheet
      rw [k1, Option.bind_some]
      show (if c = -1 then _ else _) = _
      rw [if_pos hc]
      show (fX8_takeFrom_t M1).bind _ = _
      rw [t0, Option.bind_some, nx_eq, nx_eq, sI_nk _ _ (by decide), sI_nk _ _ (by decide)]
    generalize hM3 : sI (sI X 10 1 0) 45 1 0 = M3 at hcl
    have s3 : sm [(10, 10, some 1), (45, 45, some 1)] X M3 := by rw [← hM3]; exact (sm_rf.I (by rfl)).I (by rfl)
    have m101 : M3.1 10 1 = 0 := by rw [← hM3, sI_nk _ _ (by decide), sI_at]
    have m451 : M3.1 45 1 = 0 := by rw [← hM3]; exact sI_at ..
    clear hM3
    obtain ⟨Y1, z1, z2, z3⟩ := k2 M3 ((sX.on _ (by decide) (by decide)).tr (s3.on _ (by decide) (by decide)))
    obtain ⟨r, D, e1, e2, e3, e4, e5, e6, e7, e8⟩ := e_copy Y1 (z2.trans hc)
    have href : fX11_sheet M3 = some (r, D) := by
      unfold fX11_sheet
      rw [z1, Option.bind_some]
      exact e1
    have sD := ssX11_sheet href
    rcases z3 with ⟨-, ⟨-, ⟨b', w2⟩, w3, w4, w5⟩, a', -, w1⟩ | ⟨k, w1, w2⟩
    · have ha' : a' = a := by
        have q := w1.2.1.symm.trans x0
        have q1 := w1.1
        have := congrArg Int32.toInt q
        rw [nI_toInt (by omega), nI_toInt (by omega)] at this
        omega
      have hb' : b' = b := by
        have q := w2.2.1.symm.trans x8
        have q1 := w2.1
        have := congrArg Int32.toInt q
        rw [nI_toInt (by omega), nI_toInt (by omega)] at this
        omega
      subst ha' hb'
      have oD : on [(1, 9, none), (10, 10, some 1), (45, 45, some 1)] M3 D := sD.on _ (by decide) (by decide)
      have o3 : on [(1, 9, none)] X D := (s3.on [(1, 9, none)] (by decide) (by decide)).tr (oD.sub (by decide))
      have hr : r = X.1 1 0 := by rw [e2, w1.2.2.1, t1]
      refine ⟨X.1 1 0, M3, D, hcl, by rw [href, hr], Or.inr ⟨a', b', a0, ?_, ?_, ?_, ?_, ?_, e8, ((s1.up (by decide)).tr (sX.up (by decide))).tr ((s3.up (by decide)).tr (sD.up (by decide)))⟩⟩
      · have rows : ∀ v, v < a' → (D.1 2 v = M1.1 13 v ∧ D.1 3 v = M1.1 14 v ∧ D.1 4 v = M1.1 15 v ∧ D.1 5 v = M1.1 16 v ∧ D.1 6 v = M1.1 17 v ∧ D.1 7 v = M1.1 18 v) ∧ (D.1 50 v = M1.1 13 v ∧ D.1 53 v = M1.1 14 v ∧ D.1 56 v = M1.1 15 v ∧ D.1 59 v = M1.1 16 v ∧ D.1 62 v = M1.1 17 v ∧ D.1 65 v = M1.1 18 v) := by
          intro v hv
          obtain ⟨p1, p2, p3, p4, p5, p6⟩ := t6 v hv
          obtain ⟨q1, q2, q3, q4, q5, q6⟩ := e4 v (by omega)
          obtain ⟨⟨r1, r2, r3, r4, r5, r6⟩, -⟩ := w1.2.2.2 v hv
          refine ⟨⟨(o3.i 2 v rfl).trans p1, (o3.i 3 v rfl).trans p2, (o3.i 4 v rfl).trans p3, (o3.i 5 v rfl).trans p4, (o3.i 6 v rfl).trans p5, (o3.i 7 v rfl).trans p6⟩, q1.trans r1, q2.trans r2, q3.trans r3, q4.trans r4, q5.trans r5, q6.trans r6⟩
        have d10 : D.1 1 0 = nI a' := (o3.i 1 0 rfl).trans t1
        have i10 : ix (D.1 1 0) = a' := by rw [d10]; exact ix_nI (by omega)
        have i73 : ix (D.1 73 0) = a' := by rw [e3.1, w1.2.2.1]; exact ix_nI (by omega)
        have dB : cB D = (M1.1 12 11, M1.1 12 12, M1.1 12 13) := by
          unfold cB
          rw [o3.i 1 11 rfl, o3.i 1 12 rfl, o3.i 1 13 rfl, t8, t9, t10]
        have rBe : rB D = (Y1.1 75 1, Y1.1 76 1, Y1.1 77 1) := by
          unfold rB
          rw [e3.2.2.1, e3.2.2.2.1, e3.2.2.2.2]
        refine ⟨⟨a15, b20, fun w => by omega⟩, ⟨d10, (o3.i 1 8 rfl).trans t2, e3.1.trans w1.2.2.1, e3.2.1.trans w2.2.2.1⟩, fun v hv => ?_, fun q hq => ?_, ⟨i10.trans i73.symm, fun v hv => ?_⟩, fun q hq => ?_, ?_, ?_⟩
        · obtain ⟨⟨p1, p2, p3, p4, p5, p6⟩, -⟩ := rows v hv
          unfold okV
          rw [p1, p2, p3, p4, p5, p6]
          exact (w1.2.2.2 v hv).2
        · rw [o3.i 8 q rfl, o3.i 9 q rfl, (t7 q hq).1, (t7 q hq).2]
          exact (w2.2.2.2 q hq).2
        · have hv : v < a' := by rw [← i10]; exact hv
          obtain ⟨⟨p1, p2, p3, p4, p5, p6⟩, q1, q2, q3, q4, q5, q6⟩ := rows v hv
          exact ⟨p1.trans q1.symm, p2.trans q2.symm, p3.trans q3.symm, p4.trans q4.symm, p5.trans q5.symm, p6.trans q6.symm⟩
        · obtain ⟨p1, p2⟩ := t7 q hq
          obtain ⟨q1, q2⟩ := e5 q (by omega)
          obtain ⟨⟨r1, r2⟩, -⟩ := w2.2.2.2 q hq
          rw [o3.i 8 q rfl, o3.i 9 q rfl, p1, p2, q1, q2]
          exact ⟨r1, r2⟩
        · rw [dB, rBe]
          obtain ⟨u1, u2⟩ := w4
          rcases u2 with u2 | ⟨u2, u3, u4, u5, u6⟩
          · exact ⟨⟨u1.symm, fun w => absurd u2 w⟩, Or.inl u2, fun w => absurd u2 w⟩
          · exact ⟨⟨u1.symm, fun _ => by show (M1.1 12 12, M1.1 12 13) = (Y1.1 76 1, Y1.1 77 1); rw [u3, u4]⟩, Or.inr u2, fun _ => ⟨u5, u6⟩⟩
        · rw [o3.i 1 7 rfl, t3]
          unfold totD
          rw [show (cD D).1 = a' from i10]
          exact fd_congr (fun i hi x => by show x + M1.1 15 i = x + D.1 4 i; rw [(rows i hi).1.2.2.1])
      · exact ⟨0, by omega, (oD.i 10 1 rfl).trans m101, e6, fun j hj => absurd hj (Nat.not_lt_zero _)⟩
      · exact ⟨0, by omega, (oD.i 45 1 rfl).trans m451, e7, fun j hj => absurd hj (Nat.not_lt_zero _)⟩
      · exact (o3.i 1 14 rfl).trans t4
      · exact (o3.i 1 15 rfl).trans t5
    · exact absurd w2 (nk k w1)
  · obtain ⟨M2, z1, z2, -⟩ := k2 M1 on.rf
    refine ⟨-1, M1, M2, ?_, ?_, Or.inl ((s1.up (by decide)).tr ((zzX11_reads z1).up (by decide)))⟩
    · unfold fX10_sheet
      rw [k1, Option.bind_some]
      show (if c = -1 then _ else _) = _
      rw [if_neg hc]
    · unfold fX11_sheet
      rw [z1, Option.bind_some, z2, if_neg hc]
