theorem e_inB (M : Mem) (a : Int32) {s : Nat} (hs : s ≤ 20000) : fX11_in M a.toInt64 0 ((nI s - 1).toInt64) = some (bI (inN a s)) := by
  rw [e_in]
  congr 1
  have t1 : (nI s - 1).toInt = (s : Int) - 1 := by
    have z : (1 : Int32).toInt = 1 := rfl
    rw [fb_subI (by rw [nI_toInt (by omega), z]; omega) (by rw [nI_toInt (by omega), z]; omega), nI_toInt (by omega), z]
  have z64 : (0 : Int64).toInt = 0 := rfl
  congr 1
  unfold inN
  simp only [fa_le64, Int32.toInt_toInt64, t1, z64]
  by_cases c1 : 0 ≤ a.toInt <;> by_cases c2 : a.toInt < s
  · simp [c1, c2]; omega
  · simp [c1, c2]; omega
  · simp [c1, c2]
  · simp [c1, c2]
theorem c_piece {N : Mem} {n p a : Nat} (h : DI N n p) (hf : FK N) (ha : a < 10000) (k w : Int32) (hk : 0 ≤ k.toInt) (hw : inN w 3 = true) : ∃ r N1 N2, (fX1_lookFrom (nI (a / 100)) (nI (a % 100)) N).bind (fun q => (fX1_cutPieces q).bind (fun q2 => if k < q2.1 141 8 then (if w = 2 then (fX1_sizeOf q2 k).bind (fun v => some (v, q2)) else (fX1_firstOf q2 k).bind (fun v => if w = 0 then some (v / 100, q2) else some (irm v 100, q2))) else some (-1, q2))) = some (r, N1) ∧ (fX11_finds (nI (a / 100)) (nI (a % 100)) N1).bind (fun q => (fX11_in q k.toInt64 0 ((q.1 47 37 - 1).toInt64)).bind (fun v => if v = 0 then some (-1, q) else fX11_piece_63 fX11_piece_109 FU k w (-1) 0 0 q)) = some (r, N2) ∧ DI N1 n p ∧ FK N2 ∧ N2.1 141 10 = N.1 1 14 ∧ sm rgFd N N2 := by
  obtain ⟨A, a1, a2, a3, a4, a5⟩ := k_look h hf ha
  rw [a1, Option.bind_some]
  have dA : DI A n p := DI_on (a5.on _ (by decide) (by decide)) h
  obtain ⟨B, b1, b2, b3, b4, b5⟩ := k_cutF ha a3 a2
  rw [b1, Option.bind_some]
  have dB : DI B n p := DI_on (b5.on _ (by decide) (by decide)) dA
  have e1 : cD B = cD A := cD_on (b5.on _ (by decide) (by decide))
  have e2 : cB B = cB A := cB_on (b5.on _ (by decide) (by decide))
  obtain ⟨X, x1, x2, x3, x4, x5⟩ := e_findsP dB ha
  rw [e1, e2] at x2 x3 x4
  generalize hW : winB (cD A) (cB A) a = W at *
  have nl := np_le W
  have fin : ∀ r, (if k < B.1 141 8 then (if w = 2 then (fX1_sizeOf B k).bind (fun v => some (v, B)) else (fX1_firstOf B k).bind (fun v => if w = 0 then some (v / 100, B) else some (irm v 100, B))) else some (-1, B)) = some (r, B) → (fX11_in X k.toInt64 0 ((X.1 47 37 - 1).toInt64)).bind (fun v => if v = 0 then some (-1, X) else fX11_piece_63 fX11_piece_109 FU k w (-1) 0 0 X) = some (r, X) → ∃ r N1 N2, (if k < B.1 141 8 then (if w = 2 then (fX1_sizeOf B k).bind (fun v => some (v, B)) else (fX1_firstOf B k).bind (fun v => if w = 0 then some (v / 100, B) else some (irm v 100, B))) else some (-1, B)) = some (r, N1) ∧ (fX11_finds (nI (a / 100)) (nI (a % 100)) N1).bind (fun q => (fX11_in q k.toInt64 0 ((q.1 47 37 - 1).toInt64)).bind (fun v => if v = 0 then some (-1, q) else fX11_piece_63 fX11_piece_109 FU k w (-1) 0 0 q)) = some (r, N2) ∧ DI N1 n p ∧ FK N2 ∧ N2.1 141 10 = N.1 1 14 ∧ sm rgFd N N2 := by
    intro r r1 r2
    refine ⟨r, B, X, r1, by rw [x1, Option.bind_some]; exact r2, dB, FK_on (x5.on _ (by decide) (by decide)) b4, ?_, ((a5.up (by decide)).tr (b5.up (by decide))).tr (x5.up (by decide))⟩
    rw [(x5.on [(141, 141, none)] (by decide) (by decide)).i 141 10 rfl, (b5.on [(141, 141, some 10)] (by decide) (by decide)).i 141 10 rfl]; exact a4
  rw [b2.1, x3, e_inB X k (by omega), Option.bind_some] at fin
  rw [b2.1]
  by_cases c : k.toInt < npN W 10000
  · have hi : inN k (npN W 10000) = true := inN_i.mpr ⟨hk, c⟩
    obtain ⟨j, hj, rfl⟩ := inN_of hi (by omega)
    obtain ⟨r, r1, r2, r3⟩ := fb_ct_kth (p := stB W) (k := j) (n := 10000) hj
    have r3 : npN W r = j := r3
    subst r3
    obtain ⟨o1, o2⟩ := k_ofPiece b2 r1 r2
    have lt : nI (npN W r) < nI (npN W 10000) := (nI_ltJ (by omega) (by omega)).mpr hj
    rw [hi, if_neg (show ¬ bI true = 0 by decide), e_count x4 r1 r2, if_pos lt, o1, o2] at fin
    rw [if_pos lt, o1, o2]
    have cl : fb_ct (cpB W r) 10000 ≤ 10000 := fb_ct_le _ _
    unfold fX11_piece_109 fX11_piece_138 at fin
    obtain ⟨v, hv, rfl⟩ := inN_of hw (by decide)
    have : v = 0 ∨ v = 1 ∨ v = 2 := by omega
    rcases this with rfl | rfl | rfl
    · exact fin _ rfl rfl
    · exact fin _ rfl rfl
    · exact fin _ rfl rfl
  · have hi : inN k (npN W 10000) = false := by
      cases q : inN k (npN W 10000) with
      | false => rfl
      | true => have := inN_i.mp q; omega
    have nlt : ¬ k < nI (npN W 10000) := by rw [fa_lt, nI_toInt (by omega)]; exact c
    rw [hi, if_pos (show bI false = 0 from rfl), if_neg nlt] at fin
    rw [if_neg nlt]
    exact fin _ rfl rfl
theorem s_piece {M : Mem} {n p : Nat} (b : Bool) (h : DI M n p) (hf : b = true → FK M) (x y k w : Int32) : (b = true ∧ ∃ r M1 M2, fX10_piece_T x y k w M = some (r, M1) ∧ fX11_piece x y k w M1 = some (r, M2) ∧ FK M2 ∧ sm rgFd M M2 ∧ st1 M M2 141 10) ∨ (b = false ∧ ∃ r M2, fX10_piece_E M x y k w = some r ∧ fX11_piece x y k w M = some (r, M2) ∧ sm rgFd M M2) ∨ (b = false ∧ ∃ r M1 M2, fX10_piece_F x y k w M = some (r, M1) ∧ fX11_piece x y k w M1 = some (r, M2) ∧ FK M2 ∧ sm rgFd M M2 ∧ M2.1 141 10 = M.1 1 14) := by
  have hn := h.n15
  have z : (0 : Int32).toInt = 0 := rfl
  have two : (2 : Int32).toInt = 2 := rfl
  have no : (n = 0 ∨ isPt x y = false ∨ inN w 3 = false) → fX10_piece_T x y k w M = some (-1, M) ∧ fX10_piece_E M x y k w = some (-1) ∧ fX11_piece x y k w M = some (-1, M) := by
    intro hc
    unfold fX10_piece_T fX10_piece_E fX11_piece fX10_piece_T_33 fX10_piece_E_33 fX11_piece_28
    rw [h.2.1.1, e_voters, h.2.1.2.2.1, k_isPoint, e_isPoint, in_02]
    simp only [Option.bind_some]
    by_cases c0 : n = 0
    · simp [(n_0 hn).mpr c0]
    · have c0' : ¬ nI n = 0 := fun q => c0 ((n_0 hn).mp q)
      simp only [c0', if_false]
      cases c1 : isPt x y with
      | false => simp [bI]
      | true =>
        have c2 : inN w 3 = false := by
          rcases hc with q | q | q
          · exact absurd q c0
          · rw [c1] at q; cases q
          · exact q
        rw [c2]
        simp only [inN, Bool.and_eq_false_iff, decide_eq_false_iff_not] at c2
        by_cases c3 : w < 0
        · simp [c3, bI]
        · have c4 : 2 < w := by
            rw [fa_lt, two]
            rw [fa_lt, z] at c3
            omega
          simp [c3, c4, bI]
  by_cases hc : n = 0 ∨ isPt x y = false ∨ inN w 3 = false
  · obtain ⟨n1, n2, n3⟩ := no hc
    cases b with
    | true => exact Or.inl ⟨rfl, -1, M, M, n1, n3, hf rfl, sm_rf, Or.inl rfl⟩
    | false => exact Or.inr (Or.inl ⟨rfl, -1, M, n2, n3, sm_rf⟩)
  · have c0 : ¬ n = 0 := fun q => hc (Or.inl q)
    have c1 : isPt x y = true := by
      cases q : isPt x y with
      | true => rfl
      | false => exact absurd (Or.inr (Or.inl q)) hc
    have c2 : inN w 3 = true := by
      cases q : inN w 3 with
      | true => rfl
      | false => exact absurd (Or.inr (Or.inr q)) hc
    have c0' : ¬ nI n = 0 := fun q => c0 ((n_0 hn).mp q)
    have iw := inN_i.mp c2
    have w0 : ¬ w < 0 := by rw [fa_lt, z]; omega
    have w1 : ¬ 2 < w := by rw [fa_lt, two]; omega
    obtain ⟨a, ha, rfl, rfl⟩ := ptA c1
    have ref : ∀ {N1 N2 : Mem} {r : Int32}, DI N1 n p → (fX11_finds (nI (a / 100)) (nI (a % 100)) N1).bind (fun q => (fX11_in q k.toInt64 0 ((q.1 47 37 - 1).toInt64)).bind (fun v => if v = 0 then some (-1, q) else fX11_piece_63 fX11_piece_109 FU k w (-1) 0 0 q)) = some (r, N2) → fX11_piece (nI (a / 100)) (nI (a % 100)) k w N1 = some (r, N2) := by
      intro N1 N2 r d1 hr
      unfold fX11_piece
      rw [e_voters, d1.2.1.2.2.1, Option.bind_some, if_neg c0', e_isPoint, c1, Option.bind_some, if_neg (by decide), in_02, c2, Option.bind_some, if_neg (by decide)]
      exact hr
    by_cases ck : 0 ≤ k
    · have ck' : 0 ≤ k.toInt := by have := (fa_le _ _).mp ck; rw [z] at this; exact this
      cases b with
      | true =>
        left
        obtain ⟨r, N1, N2, r1, r2, r3, r4, r5, r6⟩ := c_piece h (hf rfl) ha k w ck' c2
        refine ⟨rfl, r, N1, N2, ?_, ref r3 r2, r4, r6, Or.inr r5⟩
        unfold fX10_piece_T fX10_fieldFrom_T fX10_piece_T_98
        rw [h.2.1.1, if_neg c0', k_isPoint, c1, Option.bind_some, if_neg (by decide), if_neg w0, if_neg w1, if_pos ck]
        refine Eq.trans ?_ r1
        cases fX1_lookFrom (nI (a / 100)) (nI (a % 100)) M <;> rfl
      | false =>
        right; right
        have dF : DI (mkF M) n p := DI_on ((sm_mkF M).on _ (by decide) (by decide)) h
        obtain ⟨r, N1, N2, r1, r2, r3, r4, r5, r6⟩ := c_piece dF (FK_mkF M) ha k w ck' c2
        refine ⟨rfl, r, N1, N2, ?_, ref r3 r2, r4, ((sm_mkF M).up (by decide)).tr r6, ?_⟩
        · unfold fX10_piece_F fX10_fieldFrom_F fX10_piece_F_98
          rw [h.2.1.1, if_neg c0', k_isPoint, c1, Option.bind_some, if_neg (by decide), if_neg w0, if_neg w1, if_pos ck]
          exact r1
        · rw [r5]; exact ((sm_mkF M).on [(1, 1, none)] (by decide) (by decide)).i 1 14 rfl
    · have ck' : ¬ 0 ≤ k.toInt := fun q => ck ((fa_le _ _).mpr (by rw [z]; exact q))
      obtain ⟨X, x1, x2, x3, x4, x5⟩ := e_findsP h ha
      have nl := np_le (winB (cD M) (cB M) a)
      have rr : fX11_piece (nI (a / 100)) (nI (a % 100)) k w M = some (-1, X) := by
        refine ref h ?_
        rw [x1, Option.bind_some, x3, e_inB X k (by omega), Option.bind_some]
        have hi : inN k (npN (winB (cD M) (cB M) a) 10000) = false := by
          cases q : inN k (npN (winB (cD M) (cB M) a) 10000) with
          | false => rfl
          | true => have := inN_i.mp q; omega
        rw [hi]
        rfl
      cases b with
      | true =>
        left
        refine ⟨rfl, -1, M, X, ?_, rr, FK_on (x5.on _ (by decide) (by decide)) (hf rfl), x5.up (by decide), Or.inl ((x5.on [(141, 141, none)] (by decide) (by decide)).i 141 10 rfl)⟩
        unfold fX10_piece_T fX10_piece_T_33
        rw [h.2.1.1, if_neg c0', k_isPoint, c1, Option.bind_some, if_neg (by decide), if_neg w0, if_neg w1, if_neg ck]
      | false =>
        right; left
        refine ⟨rfl, -1, X, ?_, rr, x5.up (by decide)⟩
        unfold fX10_piece_E fX10_piece_E_33
        rw [h.2.1.1, if_neg c0', k_isPoint, c1, Option.bind_some, if_neg (by decide), if_neg w0, if_neg w1, if_neg ck]
/-- between -/
theorem e_between20 {M : Mem} {n p i j : Nat} (h : DI M n p) (hi : i < p) (hj : j < p) : fX11_between_20 M (fX11_between_93 M) (fX11_between_101 M) FU (nI i) (nI j) 0 = some (ffI (fun q => btD (cD M) (cB M) (nI (q / 100)) (nI (q % 100)) (M.1 8 i) (M.1 9 i) && btD (cD M) (cB M) (M.1 8 j) (M.1 9 j) (nI (q / 100)) (nI (q % 100))) 10000) := by
  have e10 : (10000 : Int32) = nI 10000 := rfl
  have hp := h.p20
  have i20 := inb_nI (show i < 20 by omega) (by decide)
  have j20 := inb_nI (show j < 20 by omega) (by decide)
  obtain ⟨p1, p2⟩ := h.2.2.2.2.2.1 i hi
  obtain ⟨p3, p4⟩ := h.2.2.2.2.2.1 j hj
  refine for_ffI1 (fun f q => fX11_between_20 M (fX11_between_93 M) (fX11_between_101 M) f (nI i) (nI j) q) (fun q => btD (cD M) (cB M) (nI (q / 100)) (nI (q % 100)) (M.1 8 i) (M.1 9 i) && btD (cD M) (cB M) (M.1 8 j) (M.1 9 j) (nI (q / 100)) (nI (q % 100))) 10000 ?_ ?_ FU (FU_gt (by omega))
  · intro f q hq
    show fX11_between_20 M _ _ (f + 1) (nI i) (nI j) (nI q) = _
    rw [fX11_between_20, e10, if_neg (nI_ge hq (by omega)), nx_eq, nx_eq, if_pos i20, if_pos i20, if_pos j20, if_pos j20, ix_nI (show i < 2147483648 by omega), ix_nI (show j < 2147483648 by omega), p1, p2, p3, p4, div100 (by omega), irm100 (by omega), e_bt h, e_bt h, Option.bind_some, Option.bind_some]
    unfold fX11_between_95 fX11_between_93
    simp only [nx_eq, nI_s, bI_0]
    cases btD (cD M) (cB M) (nI (q / 100)) (nI (q % 100)) (M.1 8 i) (M.1 9 i) <;> cases btD (cD M) (cB M) (M.1 8 j) (M.1 9 j) (nI (q / 100)) (nI (q % 100)) <;> rfl
  · intro f
    show fX11_between_20 M _ _ (f + 1) (nI i) (nI j) (nI 10000) = _
    rw [fX11_between_20, e10, if_pos (nI_le (Nat.le_refl _) (by omega))]
    rfl
theorem c_between {N : Mem} {n p i j : Nat} (h : DI N n p) (hf : FK N) (hi : i < p) (hj : j < p) : ∃ r N1, (fX1_lookFrom (N.1 8 i) (N.1 9 i) N).bind (fun q => (fX1_firstBeatenBy (q.1 8 j) (q.1 9 j) q).bind (fun v => some (v.1, v.2))) = some (r, N1) ∧ fX11_between_20 N1 (fX11_between_93 N1) (fX11_between_101 N1) FU (nI i) (nI j) 0 = some r ∧ DI N1 n p ∧ FK N1 ∧ N1.1 141 10 = N.1 1 14 ∧ sm rgFd N N1 := by
  obtain ⟨q1, q2⟩ := h.2.2.2.1 i hi
  obtain ⟨q3, q4⟩ := h.2.2.2.1 j hj
  obtain ⟨a, ha, ea1, ea2⟩ := ptA (show isPt (N.1 8 i) (N.1 9 i) = true by unfold isPt; rw [q1, q2]; rfl)
  obtain ⟨c, hc, ec1, ec2⟩ := ptA (show isPt (N.1 8 j) (N.1 9 j) = true by unfold isPt; rw [q3, q4]; rfl)
  obtain ⟨A, a1, a2, a3, a4, a5⟩ := k_look h hf ha
  have dA : DI A n p := DI_on (a5.on _ (by decide) (by decide)) h
  have oA := a5.on [(8, 9, none)] (by decide) (by decide)
  obtain ⟨B, b1, b2, b3⟩ := k_firstBeaten dA ha hc a3 a2
  have dB : DI B n p := DI_on (b3.on _ (by decide) (by decide)) dA
  have oB := b3.on [(8, 9, none)] (by decide) (by decide)
  have e1 : cD B = cD A := cD_on (b3.on _ (by decide) (by decide))
  have e2 : cB B = cB A := cB_on (b3.on _ (by decide) (by decide))
  have hfn : (fun q => btD (cD B) (cB B) (nI (q / 100)) (nI (q % 100)) (B.1 8 i) (B.1 9 i) && btD (cD B) (cB B) (B.1 8 j) (B.1 9 j) (nI (q / 100)) (nI (q % 100))) = (fun q => winB (cD A) (cB A) a q && btD (cD A) (cB A) (nI (c / 100)) (nI (c % 100)) (nI (q / 100)) (nI (q % 100))) := by
    funext q
    rw [e1, e2, oB.i 8 i rfl, oB.i 9 i rfl, oB.i 8 j rfl, oB.i 9 j rfl, oA.i 8 i rfl, oA.i 9 i rfl, oA.i 8 j rfl, oA.i 9 j rfl, ea1, ea2, ec1, ec2]
    rfl
  have r2 := e_between20 dB hi hj
  rw [hfn] at r2
  refine ⟨_, B, ?_, r2, dB, b2, ?_, (a5.up (by decide)).tr (b3.up (by decide))⟩
  · rw [ea1, ea2, a1, Option.bind_some, oA.i 8 j rfl, oA.i 9 j rfl, ec1, ec2, b1, Option.bind_some]
  · rw [(b3.on [(141, 141, none)] (by decide) (by decide)).i 141 10 rfl]; exact a4
theorem s_between {M : Mem} {n p : Nat} (b : Bool) (h : DI M n p) (hf : b = true → FK M) (x y : Int32) : (b = true ∧ ∃ r M1, fX10_between_T x y M = some (r, M1) ∧ fX11_between M1 x y = some r ∧ FK M1 ∧ sm rgFd M M1 ∧ st1 M M1 141 10) ∨ (b = false ∧ ∃ r, fX10_between_E M x y = some r ∧ fX11_between M x y = some r) ∨ (b = false ∧ ∃ r M1, fX10_between_F x y M = some (r, M1) ∧ fX11_between M1 x y = some r ∧ FK M1 ∧ sm rgFd M M1 ∧ M1.1 141 10 = M.1 1 14) := by
  have hp := h.p20
  have no : (inN x p = false ∨ inN y p = false) → fX10_between_T x y M = some (-1, M) ∧ fX10_between_E M x y = some (-1) ∧ fX11_between M x y = some (-1) := by
    intro hc
    unfold fX10_between_T fX10_between_E fX11_between fX10_between_T_22 fX10_between_E_22 fX11_between_16
    rw [k_hasPlace M x h.2.1.2.1 hp, k_hasPlace M y h.2.1.2.1 hp, e_isPlace M x h.2.1.2.2.2 hp, e_isPlace M y h.2.1.2.2.2 hp]
    simp only [Option.bind_some]
    cases c1 : inN x p with
    | false => simp [bI]
    | true =>
      have c2 : inN y p = false := by
        rcases hc with q | q
        · rw [c1] at q; cases q
        · exact q
      rw [c2]
      simp [bI]
  by_cases hc : inN x p = false ∨ inN y p = false
  · obtain ⟨n1, n2, n3⟩ := no hc
    cases b with
    | true => exact Or.inl ⟨rfl, -1, M, n1, n3, hf rfl, sm_rf, Or.inl rfl⟩
    | false => exact Or.inr (Or.inl ⟨rfl, -1, n2, n3⟩)
  · have c1 : inN x p = true := by
      cases q : inN x p with
      | true => rfl
      | false => exact absurd (Or.inl q) hc
    have c2 : inN y p = true := by
      cases q : inN y p with
      | true => rfl
      | false => exact absurd (Or.inr q) hc
    obtain ⟨i, hi, rfl⟩ := inN_of c1 (by omega)
    obtain ⟨j, hj, rfl⟩ := inN_of c2 (by omega)
    have i20 := inb_nI (show i < 20 by omega) (by decide)
    have j20 := inb_nI (show j < 20 by omega) (by decide)
    have ref : ∀ {N1 : Mem} {r : Int32}, DI N1 n p → fX11_between_20 N1 (fX11_between_93 N1) (fX11_between_101 N1) FU (nI i) (nI j) 0 = some r → fX11_between N1 (nI i) (nI j) = some r := by
      intro N1 r d1 hr
      unfold fX11_between
      rw [e_isPlace N1 _ d1.2.1.2.2.2 hp, e_isPlace N1 _ d1.2.1.2.2.2 hp, c1, c2, Option.bind_some, if_neg (by decide), Option.bind_some, if_neg (by decide)]
      exact hr
    cases b with
    | true =>
      left
      obtain ⟨r, N1, r1, r2, r3, r4, r5, r6⟩ := c_between h (hf rfl) hi hj
      refine ⟨rfl, r, N1, ?_, ref r3 r2, r4, r6, Or.inr r5⟩
      unfold fX10_between_T fX10_fieldFrom_T
      rw [k_hasPlace M _ h.2.1.2.1 hp, k_hasPlace M _ h.2.1.2.1 hp, c1, c2, Option.bind_some, if_neg (by decide), Option.bind_some, if_neg (by decide), if_pos i20, if_pos i20]
      simp only [j20, if_true, ix_nI (show i < 2147483648 by omega), ix_nI (show j < 2147483648 by omega)]
      refine Eq.trans ?_ r1
      cases fX1_lookFrom (M.1 8 i) (M.1 9 i) M <;> rfl
    | false =>
      right; right
      have dF : DI (mkF M) n p := DI_on ((sm_mkF M).on _ (by decide) (by decide)) h
      have oF := (sm_mkF M).on [(8, 9, none), (1, 1, none)] (by decide) (by decide)
      obtain ⟨r, N1, r1, r2, r3, r4, r5, r6⟩ := c_between dF (FK_mkF M) hi hj
      refine ⟨rfl, r, N1, ?_, ref r3 r2, r4, ((sm_mkF M).up (by decide)).tr r6, ?_⟩
      · unfold fX10_between_F fX10_fieldFrom_F
        rw [k_hasPlace M _ h.2.1.2.1 hp, k_hasPlace M _ h.2.1.2.1 hp, c1, c2, Option.bind_some, if_neg (by decide), Option.bind_some, if_neg (by decide), if_pos i20, if_pos i20]
        simp only [j20, if_true, ix_nI (show i < 2147483648 by omega), ix_nI (show j < 2147483648 by omega)]
        rw [oF.i 8 i rfl, oF.i 9 i rfl] at r1
        exact r1
      · rw [r5]; exact oF.i 1 14 rfl
