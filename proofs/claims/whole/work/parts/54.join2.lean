/-! join, whole -/
/-- the place stands if the voters b join -/
def stJ (D : Dt) (P : Pq) (B : Bt) (p pl m b : Nat) : Bool := decide (fb_ct (bq (jnD D (JJ m b) (P.2.1 pl) (P.2.2 pl)) P B pl) p = 0)
def jsN (D : Dt) (P : Pq) (B : Bt) (p pl m s : Nat) : Option Nat := ff (fun b => decide (nI (bcN b) = nI s) && stJ D P B p pl m b) (2 ^ m)
def jrI (D : Dt) (P : Pq) (B : Bt) (p pl m : Nat) : Int32 := match ff (fun s => (jsN D P B p pl m s).isSome) (m + 1) with
  | some s => (match jsN D P B p pl m s with | some b => nI b | none => -1)
  | none => -1
theorem w9 {n : Nat} (hn : n ≤ 15) : imin 9 (nI n) = nI (min 9 n) := by
  apply (fa_eq _ _).mpr
  have e0 : (9 : Int32).toInt = 9 := rfl
  rw [imin_i, e0, nI_toInt (by omega), nI_toInt (by omega)]
  split <;> omega
theorem p9 {m : Nat} (hm : m ≤ 9) : 2 ^ m ≤ 512 := Nat.pow_le_pow_right (n := 2) (by decide) hm
theorem k_fewest {M : Mem} {n p pl : Nat} {D : Dt} {P : Pq} {B : Bt} (hK : KB M n p D P B) (hpl : pl < p) (hz : ∀ v q, v < n → q < p → ¬ wayF D v (P.2.1 pl) (P.2.2 pl) (P.2.1 q) (P.2.2 q) < wayF D v (P.2.1 pl) (P.2.2 pl) (P.2.1 pl) (P.2.2 pl)) : ∃ M1, fX9_fewestJoined (nI pl) M = some (jrI D P B p pl (min 9 n), M1) ∧ sm [(41, 44, none)] M M1 := by
  have hp := hK.1.1.2
  have hn := hK.1.1.1
  unfold fX9_fewestJoined
  rw [nx_eq, hK.1.2.1.1, w9 hn]
  generalize hm : min 9 n = m
  have hm9 : m ≤ 9 := by omega
  have hmn : m ≤ n := by omega
  have hpw := p9 hm9
  have hh := for_ex (σ := Mem) (fun f v s => fX9_fewestJoined_15 fX9_fewestJoined_32 f (nI pl) (nI m) v s) (fun s => fX9_fewestJoined_32 (nI pl) (nI m) s) m
    (fun i s => JF s D P p pl i ∧ sm [(41, 44, none)] M s) ?_ ?_ M ⟨fun v q hv => absurd hv (by omega), sm_rf⟩ FU (FU_gt (by omega))
  · obtain ⟨A, a1, a2, a3⟩ := hh
    refine ⟨A, ?_, a3⟩
    refine Eq.trans a1 ?_
    have kA : KB A n p D P B := KB_on (a3.on _ (by decide) (by decide)) hK
    unfold fX9_fewestJoined_32
    have inner : ∀ (K : Int32 → Int32 → Int32 → Mem → Option (Int32 × Mem)) (s : Nat), s < 100 → fX9_fewestJoined_42 fX9_fewestJoined_70 K FU (nI pl) (nI m) (nI s) 0 A = (match jsN D P B p pl m s with | some b => some (nI b, A) | none => K (nI pl) (nI m) (nI s) A) := by
      intro K s hs
      have h2 := for_any (fun f b => fX9_fewestJoined_42 fX9_fewestJoined_70 K f (nI pl) (nI m) (nI s) b A) (K (nI pl) (nI m) (nI s) A) (fun b => some (nI b, A)) (fun b => decide (nI (bcN b) = nI s) && stJ D P B p pl m b) (2 ^ m) ?_ ?_ FU (FU_gt (by omega))
      · exact h2
      · intro f b hb
        show fX9_fewestJoined_42 fX9_fewestJoined_70 K (f + 1) (nI pl) (nI m) (nI s) (nI b) A = _
        rw [fX9_fewestJoined_42, bt_shl (by omega), if_neg (nI_ge hb (by omega)), bc_eq A (by omega), Option.bind_some, k_stands kA hm9 hmn hpl (by omega) a2, Option.bind_some]
        unfold fX9_fewestJoined_73 fX9_fewestJoined_70
        simp only [nx_eq, nI_s]
        by_cases c1 : nI (bcN b) = nI s
        · rw [if_pos c1]
          show (if bI (stJ D P B p pl m b) = 0 then _ else _) = _
          cases stJ D P B p pl m b <;> simp [c1, bI]
        · simp [c1]
      · intro f
        show fX9_fewestJoined_42 fX9_fewestJoined_70 K (f + 1) (nI pl) (nI m) (nI s) (nI (2 ^ m)) A = _
        rw [fX9_fewestJoined_42, bt_shl (by omega), if_pos (nI_le (Nat.le_refl _) (by omega))]
    have h3 := for_any (fun f s => fX9_fewestJoined_34 fX9_fewestJoined_70 fX9_fewestJoined_85 f (nI pl) (nI m) s A) (some (-1, A)) (fun s => some ((match jsN D P B p pl m s with | some b => nI b | none => -1), A)) (fun s => (jsN D P B p pl m s).isSome) (m + 1) ?_ ?_ FU (FU_gt (by omega))
    · refine Eq.trans h3 ?_
      unfold jrI
      cases ff (fun s => (jsN D P B p pl m s).isSome) (m + 1) <;> rfl
    · intro f s hs
      show fX9_fewestJoined_34 fX9_fewestJoined_70 fX9_fewestJoined_85 (f + 1) (nI pl) (nI m) (nI s) A = _
      rw [fX9_fewestJoined_34, if_neg (nI_ngt (by omega) (by omega)), inner _ s (by omega)]
      unfold fX9_fewestJoined_79
      simp only [nx_eq, nI_s]
      cases jsN D P B p pl m s <;> simp
    · intro f
      show fX9_fewestJoined_34 fX9_fewestJoined_70 fX9_fewestJoined_85 (f + 1) (nI pl) (nI m) (nI (m + 1)) A = _
      rw [fX9_fewestJoined_34, if_pos (nI_gt (by omega) (by omega))]
      rfl
  · intro f v s hv ⟨g1, g2⟩
    have ks : KB s n p D P B := KB_on (g2.on _ (by decide) (by decide)) hK
    obtain ⟨A, a1, a2, a3, a4⟩ := k_fillJoining ks (show v < n by omega) (show v < 9 by omega) hpl (fun q hq => hz v q (by omega) hq)
    refine ⟨A, ?_, fun u q hu hq => ?_, g2.tr a4⟩
    · show fX9_fewestJoined_15 fX9_fewestJoined_32 (f + 1) (nI pl) (nI m) (nI v) s = _
      rw [fX9_fewestJoined_15, if_neg (nI_ge hv (by omega)), a1, Option.bind_some]
      simp only [nx_eq, nI_s]
    · by_cases e : u = v
      · subst e; exact a2 q hq
      · obtain ⟨k1, k2⟩ := a3 (u * 20 + q) (by omega)
        rw [k1, k2]; exact g1 u q (by omega) hq
  · intro f s _
    show fX9_fewestJoined_15 fX9_fewestJoined_32 (f + 1) (nI pl) (nI m) (nI m) s = _
    rw [fX9_fewestJoined_15, if_pos (nI_le (Nat.le_refl _) (by omega))]
/-! the reference: they join, and go back -/
theorem e_joins {M : Mem} {n p pl m b : Nat} (h : RI M n p) (hm : m = min 9 n) (hpl : pl < p) (hb : b < 2147483648) : ∃ M1, fX11_joins (nI b) (nI pl) M = some (bI (stJ (rD M) (rP M) (rB M) p pl m b), M1) ∧ sm [(98, 99, none)] M M1 := by
  have hn := h.1
  have hp := h.2.1
  unfold fX11_joins
  have hh := for_ex (σ := Mem) (fun f v s => fX11_joins_2 fX11_joins_93 f (nI b) (nI pl) v s) (fun s => fX11_joins_93 (nI pl) s) n
    (fun i s => (∀ j, s.1 50 j = if j < i ∧ JJ m b j = true then M.1 68 pl else M.1 50 j) ∧ (∀ j, s.1 53 j = if j < i ∧ JJ m b j = true then M.1 71 pl else M.1 53 j) ∧ (∀ j, j < i → s.1 98 j = M.1 50 j ∧ s.1 99 j = M.1 53 j) ∧ sm [(50, 50, none), (53, 53, none), (98, 99, none)] M s ∧ s.2 = M.2) ?_ ?_ M ⟨fun j => by simp, fun j => by simp, fun j hj => absurd hj (by omega), sm_rf, rfl⟩ FU (FU_gt (by omega))
  · obtain ⟨A, a1, a2, a3, a4, a5, a6⟩ := hh
    have oA := a5.on [(56, 56, none), (59, 59, none), (62, 62, none), (65, 65, none), (68, 68, none), (71, 71, none), (73, 77, some 0)] (by decide) (by decide)
    have rA : RI A n p := RI_on (oA.sub (by decide)) h
    have jlt : ∀ j, JJ m b j = true → j < n := by
      intro j hj
      simp only [JJ, Bool.and_eq_true, decide_eq_true_eq] at hj
      omega
    have eDA : rD A = jnD (rD M) (JJ m b) ((rP M).2.1 pl) ((rP M).2.2 pl) := by
      have r50 : A.1 50 = jn (JJ m b) (M.1 50) (M.1 68 pl) := by
        funext j; rw [a2]; unfold jn
        by_cases c : JJ m b j = true
        · rw [if_pos ⟨jlt j c, c⟩, if_pos c]
        · rw [if_neg (fun q => c q.2), if_neg c]
      have r53 : A.1 53 = jn (JJ m b) (M.1 53) (M.1 71 pl) := by
        funext j; rw [a3]; unfold jn
        by_cases c : JJ m b j = true
        · rw [if_pos ⟨jlt j c, c⟩, if_pos c]
        · rw [if_neg (fun q => c q.2), if_neg c]
      unfold rD jnD
      rw [r50, r53, oA.i 73 0 rfl, oA.row 56 (fun _ => rfl), oA.row 59 (fun _ => rfl), oA.row 62 (fun _ => rfl), oA.row 65 (fun _ => rfl)]
      rfl
    have uA := eR_isUnbeaten rA hpl
    rw [eDA, rP_on (oA.sub (by decide)), rB_on (oA.sub (by decide))] at uA
    have h2 := for_ex (σ := Mem) (fun f v s => fX11_joins_102 fX11_joins_149 f (bI (stJ (rD M) (rP M) (rB M) p pl m b)) v s) (fun s => fX11_joins_149 (bI (stJ (rD M) (rP M) (rB M) p pl m b)) s) n
      (fun i s => (∀ j, s.1 50 j = if j < i then M.1 50 j else A.1 50 j) ∧ (∀ j, s.1 53 j = if j < i then M.1 53 j else A.1 53 j) ∧ sm [(50, 50, none), (53, 53, none)] A s ∧ s.2 = A.2) ?_ ?_ A ⟨fun j => by simp, fun j => by simp, sm_rf, rfl⟩ FU (FU_gt (by omega))
    · obtain ⟨C, c1, c2, c3, c4, c5⟩ := h2
      refine ⟨C, ?_, ?_⟩
      · refine Eq.trans a1 ?_
        unfold fX11_joins_93
        rw [uA, Option.bind_some]
        refine Eq.trans c1 ?_
        unfold fX11_joins_149
        rw [bI_and]
      · have sC : sm [(50, 50, none), (53, 53, none), (98, 99, none)] M C := a5.tr (c4.up (by decide))
        have r50 : ∀ j, C.1 50 j = M.1 50 j := by
          intro j; rw [c2]
          by_cases c : j < n
          · rw [if_pos c]
          · rw [if_neg c, a2, if_neg (fun q => c q.1)]
        have r53 : ∀ j, C.1 53 j = M.1 53 j := by
          intro j; rw [c3]
          by_cases c : j < n
          · rw [if_pos c]
          · rw [if_neg c, a3, if_neg (fun q => c q.1)]
        have l50 : ∀ j, C.2 50 j = M.2 50 j ∧ C.2 53 j = M.2 53 j := fun j => by rw [c5, a6]; exact ⟨rfl, rfl⟩
        intro k j hk hin
        by_cases e1 : k = 50
        · subst e1; exact ⟨r50 j, (l50 j).1⟩
        · by_cases e2 : k = 53
          · subst e2; exact ⟨r53 j, (l50 j).2⟩
          · refine sC k j hk ?_
            simp [inS] at hin ⊢
            omega
    · intro f v s hv ⟨g1, g2, g3, g5⟩
      have o := g3.on [(73, 73, some 0), (98, 99, none)] (by decide) (by decide)
      have hv15 := inb_nI (show v < 15 by omega) (by decide)
      refine ⟨sI (sI s 50 v (M.1 50 v)) 53 v (M.1 53 v), ?_, fun j => ?_, fun j => ?_, (g3.I (by rfl)).I (by rfl), g5⟩
      · show fX11_joins_102 fX11_joins_149 (f + 1) (bI (stJ (rD M) (rP M) (rB M) p pl m b)) (nI v) s = _
        rw [fX11_joins_102, e_voters, Option.bind_some, o.i 73 0 rfl, rA.2.2.1, if_neg (nI_ge hv (by omega))]
        simp only [hv15, if_true, ix_nI (show v < 2147483648 by omega), nx_eq, nI_s]
        rw [sI_nk _ _ (show (99 : Nat) ≠ 50 by decide), o.i 98 v rfl, o.i 99 v rfl, (a4 v hv).1, (a4 v hv).2]
      · rw [sI_nk _ _ (by decide)]
        by_cases e : j = v
        · rw [e, sI_at, if_pos (by omega)]
        · rw [sI_nj _ _ e, g1]
          have : (j < v + 1) = (j < v) := by apply propext; omega
          simp only [this]
      · by_cases e : j = v
        · rw [e, sI_at, if_pos (by omega)]
        · rw [sI_nj _ _ e, sI_nk _ _ (by decide), g2]
          have : (j < v + 1) = (j < v) := by apply propext; omega
          simp only [this]
    · intro f s ⟨g1, g2, g3, g5⟩
      have o := g3.on [(73, 73, some 0)] (by decide) (by decide)
      show fX11_joins_102 fX11_joins_149 (f + 1) _ (nI n) s = _
      rw [fX11_joins_102, e_voters, Option.bind_some, o.i 73 0 rfl, rA.2.2.1, if_pos (nI_le (Nat.le_refl _) (by omega))]
  · intro f v s hv ⟨g1, g2, g3, g4, g5⟩
    have o := g4.on [(73, 73, some 0), (68, 68, none), (71, 71, none)] (by decide) (by decide)
    have hv15 := inb_nI (show v < 15 by omega) (by decide)
    have hl20 := inb_nI (show pl < 20 by omega) (by decide)
    have s50 : s.1 50 v = M.1 50 v := by rw [g1, if_neg (by omega)]
    have s53 : s.1 53 v = M.1 53 v := by rw [g2, if_neg (by omega)]
    generalize hT : sI (sI s 98 v (M.1 50 v)) 99 v (M.1 53 v) = T
    have sT : sm [(50, 50, none), (53, 53, none), (98, 99, none)] M T := by rw [← hT]; exact (g4.I (by rfl)).I (by rfl)
    have t2 : T.2 = M.2 := by rw [← hT]; exact g5
    have oT := sT.on [(68, 68, none), (71, 71, none)] (by decide) (by decide)
    have t50 : ∀ j, T.1 50 j = s.1 50 j := fun j => by rw [← hT, sI_nk _ _ (by decide), sI_nk _ _ (by decide)]
    have t53 : ∀ j, T.1 53 j = s.1 53 j := fun j => by rw [← hT, sI_nk _ _ (by decide), sI_nk _ _ (by decide)]
    have t9 : ∀ j, j < v + 1 → T.1 98 j = M.1 50 j ∧ T.1 99 j = M.1 53 j := by
      intro j hj
      rw [← hT]
      by_cases e : j = v
      · subst e
        refine ⟨?_, ?_⟩
        · rw [sI_nk _ _ (by decide), sI_at]
        · rw [sI_at]
      · obtain ⟨k1, k2⟩ := g3 j (by omega)
        refine ⟨?_, ?_⟩
        · rw [sI_nk _ _ (by decide), sI_nj _ _ e]; exact k1
        · rw [sI_nj _ _ e, sI_nk _ _ (by decide)]; exact k2
    have hun : fX11_joins_2 fX11_joins_93 (f + 1) (nI b) (nI pl) (nI v) s = fX11_joins_2 fX11_joins_93 f (nI b) (nI pl) (nI (v + 1)) (if JJ m b v = true then sI (sI T 50 v (M.1 68 pl)) 53 v (M.1 71 pl) else T) := by
      rw [fX11_joins_2, e_voters, Option.bind_some, o.i 73 0 rfl, h.2.2.1, if_neg (nI_ge hv (by omega))]
      unfold fX11_joins_87
      have e9 : (9 : Int32) = nI 9 := rfl
      simp only [hv15, hl20, if_true, ix_nI (show v < 2147483648 by omega), ix_nI (show pl < 2147483648 by omega), nx_eq, nI_s]
      rw [sI_nk s (k := 98) (a := 53) _ (by decide), s50, s53, hT]
      by_cases c9 : v < 9
      · have hvm : v < m := by omega
        rw [e9, if_neg (nI_ge c9 (by omega)), bit_n hb (by omega), oT.i 68 pl rfl, sI_nk T (k := 50) (a := 71) _ (by decide), oT.i 71 pl rfl]
        unfold JJ
        cases b.testBit v with
        | false =>
          have : nI (if false = true then 1 else 0) = 0 := by decide
          rw [if_pos this]; simp
        | true =>
          have : ¬ nI (if true = true then 1 else 0) = 0 := by decide
          rw [if_neg this]; simp [hvm]
      · have hvm : ¬ v < m := by omega
        rw [e9, if_pos (nI_le (by omega) (by omega))]
        simp [JJ, hvm]
    refine ⟨_, hun, ?_⟩
    cases c : JJ m b v with
    | true =>
      rw [if_pos rfl]
      refine ⟨fun j => ?_, fun j => ?_, fun j hj => ?_, (sT.I (by rfl)).I (by rfl), t2⟩
      · rw [sI_nk _ _ (by decide)]
        by_cases e : j = v
        · rw [e, sI_at, if_pos ⟨by omega, c⟩]
        · rw [sI_nj _ _ e, t50, g1]
          have : (j < v + 1) = (j < v) := by apply propext; omega
          simp only [this]
      · by_cases e : j = v
        · rw [e, sI_at, if_pos ⟨by omega, c⟩]
        · rw [sI_nj _ _ e, sI_nk _ _ (by decide), t53, g2]
          have : (j < v + 1) = (j < v) := by apply propext; omega
          simp only [this]
      · rw [sI_nk _ _ (by decide), sI_nk _ _ (by decide), sI_nk _ _ (by decide), sI_nk _ _ (by decide)]; exact t9 j hj
    | false =>
      rw [if_neg (by decide)]
      refine ⟨fun j => ?_, fun j => ?_, t9, sT, t2⟩
      · rw [t50, g1]
        by_cases e : j = v
        · subst e; simp [c]
        · have : (j < v + 1) = (j < v) := by apply propext; omega
          simp only [this]
      · rw [t53, g2]
        by_cases e : j = v
        · subst e; simp [c]
        · have : (j < v + 1) = (j < v) := by apply propext; omega
          simp only [this]
  · intro f s ⟨g1, g2, g3, g4, g5⟩
    have o := g4.on [(73, 73, some 0)] (by decide) (by decide)
    show fX11_joins_2 fX11_joins_93 (f + 1) (nI b) (nI pl) (nI n) s = _
    rw [fX11_joins_2, e_voters, Option.bind_some, o.i 73 0 rfl, h.2.2.1, if_pos (nI_le (Nat.le_refl _) (by omega))]
/-- both objects' rows tell the same of who joins -/
theorem eqD_jn {D D1 : Dt} (h : eqD D D1) (J : Nat → Bool) (x y : Int32) : eqD (jnD D J x y) (jnD D1 J x y) := by
  refine ⟨h.1, fun u hu => ?_⟩
  obtain ⟨h1, h2, h3⟩ := h.2 u hu
  refine ⟨?_, ?_, h3⟩
  · show jn J D.2.1 x u = jn J D1.2.1 x u
    unfold jn; split
    · rfl
    · exact h1
  · show jn J D.2.2.1 y u = jn J D1.2.2.1 y u
    unfold jn; split
    · rfl
    · exact h2
theorem stJ_eq {D D1 : Dt} {P P1 : Pq} {B B1 : Bt} {p pl : Nat} (hD : eqD D D1) (hB : eqB B B1) (hP : ∀ q, q < p → P1.2.1 q = P.2.1 q ∧ P1.2.2 q = P.2.2 q) (hpl : pl < p) (m b : Nat) : stJ D P B p pl m b = stJ D1 P1 B1 p pl m b := by
  unfold stJ
  rw [(hP pl hpl).1, (hP pl hpl).2, ct_eq (eqD_jn hD (JJ m b) (P.2.1 pl) (P.2.2 pl)) hB hP hpl]
theorem e_join22 {M : Mem} {n p pl : Nat} (h : DI M n p) (hpl : pl < p) : ∃ M1, fX11_join_22 fX11_join_57 fX11_join_72 FU (nI pl) (nI (min 9 n)) 0 M = some (jrI (cD M) (cP M) (cB M) p pl (min 9 n), M1) ∧ sm [(98, 99, none)] M M1 := by
  have hp := h.p20
  have hn := h.n15
  generalize hm : min 9 n = m
  have hm9 : m ≤ 9 := by omega
  have hpw := p9 hm9
  have js : ∀ {S : Mem}, sm [(98, 99, none)] M S → ∀ b, b < 512 → ∃ M1, fX11_joins (nI b) (nI pl) S = some (bI (stJ (cD M) (cP M) (cB M) p pl m b), M1) ∧ sm [(98, 99, none)] M M1 := by
    intro S hS b hb
    have dS : DI S n p := DI_on (hS.on _ (by decide) (by decide)) h
    obtain ⟨M1, j1, j2⟩ := e_joins dS.ri hm.symm hpl (show b < 2147483648 by omega)
    have oS := hS.on [(1, 9, none)] (by decide) (by decide)
    refine ⟨M1, ?_, hS.tr j2⟩
    rw [j1, ← stJ_eq (P := cP S) (P1 := rP S) dS.2.2.2.2.1 dS.2.2.2.2.2.2.1.1 dS.2.2.2.2.2.1 hpl, cD_on (oS.sub (by decide)), cP_on (oS.sub (by decide)), cB_on (oS.sub (by decide))]
  have inner : ∀ (K : Int32 → Int32 → Int32 → Mem → Option (Int32 × Mem)) (s : Nat) (S : Mem), s < 100 → sm [(98, 99, none)] M S → (∃ b M1, jsN (cD M) (cP M) (cB M) p pl m s = some b ∧ fX11_join_30 fX11_join_57 K FU (nI pl) (nI m) (nI s) 0 S = some (nI b, M1) ∧ sm [(98, 99, none)] M M1) ∨ (∃ M1, jsN (cD M) (cP M) (cB M) p pl m s = none ∧ fX11_join_30 fX11_join_57 K FU (nI pl) (nI m) (nI s) 0 S = K (nI pl) (nI m) (nI s) M1 ∧ sm [(98, 99, none)] M M1) := by
    intro K s S hs hS
    have h2 := for_or (σ := Mem) (fun f b S => fX11_join_30 fX11_join_57 K f (nI pl) (nI m) (nI s) b S) (fun S => K (nI pl) (nI m) (nI s) S) (fun ρ => ∃ b M1, jsN (cD M) (cP M) (cB M) p pl m s = some b ∧ ρ = some (nI b, M1) ∧ sm [(98, 99, none)] M M1) 0 (2 ^ m) (Nat.zero_le _)
      (fun i S => (∀ b, b < i → (decide (nI (bcN b) = nI s) && stJ (cD M) (cP M) (cB M) p pl m b) = false) ∧ sm [(98, 99, none)] M S) ?_ ?_ S ⟨fun b hb => absurd hb (by omega), hS⟩ FU (by have := FU_gt (n := 2 ^ m) (by omega); omega)
    · rcases h2 with ⟨b, M1, q1, q2, q3⟩ | ⟨M1, q1, q2, q3⟩
      · exact Or.inl ⟨b, M1, q1, q2, q3⟩
      · exact Or.inr ⟨M1, ff_none.mpr q2, q1, q3⟩
    · rintro f b T - hb ⟨g1, g2⟩
      have hun : fX11_join_30 fX11_join_57 K (f + 1) (nI pl) (nI m) (nI s) (nI b) T = if nI (bcN b) = nI s then (fX11_joins (nI b) (nI pl) T).bind (fun q51 => (if q51.1 = 0 then fX11_join_60 (fX11_join_30 fX11_join_57 K f) fX11_join_57 K (nI pl) (nI m) (nI s) (nI b) (q51.2) else fX11_join_57 (nI b) (q51.2))) else fX11_join_60 (fX11_join_30 fX11_join_57 K f) fX11_join_57 K (nI pl) (nI m) (nI s) (nI b) T := by
        rw [fX11_join_30, bt_shl (by omega), if_neg (nI_ge hb (by omega)), bc_eq T (by omega), Option.bind_some]
      have h60 : ∀ S, fX11_join_60 (fX11_join_30 fX11_join_57 K f) fX11_join_57 K (nI pl) (nI m) (nI s) (nI b) S = fX11_join_30 fX11_join_57 K f (nI pl) (nI m) (nI s) (nI (b + 1)) S := by
        intro S; unfold fX11_join_60; simp only [nx_eq, nI_s]
      have ext : ∀ c, (decide (nI (bcN b) = nI s) && stJ (cD M) (cP M) (cB M) p pl m b) = c → c = false → ∀ b', b' < b + 1 → (decide (nI (bcN b') = nI s) && stJ (cD M) (cP M) (cB M) p pl m b') = false := by
        intro c hc hcf b' hb'
        by_cases e : b' = b
        · subst e; rw [hc, hcf]
        · exact g1 b' (by omega)
      by_cases c1 : nI (bcN b) = nI s
      · obtain ⟨M1, j1, j2⟩ := js g2 b (by omega)
        rw [if_pos c1, j1, Option.bind_some] at hun
        cases c2 : stJ (cD M) (cP M) (cB M) p pl m b with
        | true =>
          left
          refine ⟨b, M1, ff_some.mpr ⟨hb, by simp [c1, c2], g1⟩, ?_, j2⟩
          refine Eq.trans hun ?_
          rw [c2]; rfl
        | false =>
          right
          refine ⟨M1, ?_, ext _ rfl (by simp [c2]), j2⟩
          refine Eq.trans hun ?_
          rw [c2, h60]; rfl
      · right
        rw [if_neg c1, h60] at hun
        exact ⟨T, hun, ext _ rfl (by simp [c1]), g2⟩
    · rintro f T ⟨g1, g2⟩
      show fX11_join_30 fX11_join_57 K (f + 1) (nI pl) (nI m) (nI s) (nI (2 ^ m)) T = _
      rw [fX11_join_30, bt_shl (by omega), if_pos (nI_le (Nat.le_refl _) (by omega))]
  have h3 := for_or (σ := Mem) (fun f s S => fX11_join_22 fX11_join_57 fX11_join_72 f (nI pl) (nI m) s S) (fun S => some (-1, S)) (fun ρ => ∃ M1, ρ = some (jrI (cD M) (cP M) (cB M) p pl m, M1) ∧ sm [(98, 99, none)] M M1) 0 (m + 1) (by omega)
    (fun i S => (∀ s, s < i → (jsN (cD M) (cP M) (cB M) p pl m s).isSome = false) ∧ sm [(98, 99, none)] M S) ?_ ?_ M ⟨fun s hs => absurd hs (by omega), sm_rf⟩ FU (by have := FU_gt (n := m + 1) (by omega); omega)
  · rcases h3 with q | ⟨M1, q1, q2, q3⟩
    · exact q
    · refine ⟨M1, ?_, q3⟩
      have : jrI (cD M) (cP M) (cB M) p pl m = -1 := by unfold jrI; rw [ff_none.mpr q2]
      rw [this]; exact q1
  · rintro f s T - hs ⟨g1, g2⟩
    have hun : fX11_join_22 fX11_join_57 fX11_join_72 (f + 1) (nI pl) (nI m) (nI s) T = fX11_join_30 fX11_join_57 (fX11_join_66 (fX11_join_22 fX11_join_57 fX11_join_72 f) fX11_join_57 fX11_join_72) FU (nI pl) (nI m) (nI s) 0 T := by
      rw [fX11_join_22, if_neg (nI_ngt (by omega) (by omega))]
    rcases inner (fX11_join_66 (fX11_join_22 fX11_join_57 fX11_join_72 f) fX11_join_57 fX11_join_72) s T (by omega) g2 with ⟨b, M1, q1, q2, q3⟩ | ⟨M1, q1, q2, q3⟩
    · left
      refine ⟨M1, ?_, q3⟩
      have e : jrI (cD M) (cP M) (cB M) p pl m = nI b := by
        unfold jrI
        rw [ff_some.mpr ⟨hs, by rw [q1]; rfl, g1⟩]
        simp only [q1]
      rw [e]
      exact hun.trans q2
    · right
      refine ⟨M1, ?_, fun s' hs' => ?_, q3⟩
      · refine hun.trans (q2.trans ?_)
        unfold fX11_join_66
        simp only [nx_eq, nI_s]
      · by_cases e : s' = s
        · subst e; rw [q1]; rfl
        · exact g1 s' (by omega)
  · rintro f T ⟨g1, g2⟩
    show fX11_join_22 fX11_join_57 fX11_join_72 (f + 1) (nI pl) (nI m) (nI (m + 1)) T = _
    rw [fX11_join_22, if_pos (nI_gt (by omega) (by omega))]
    rfl
theorem s_join {M : Mem} {n p : Nat} (h : DI M n p) (hk : DK M p) (a : Int32) : ∃ r M1 M2, fX10_join a M = some (r, M1) ∧ fX11_join a M1 = some (r, M2) ∧ sm [(21, 25, none), (41, 44, none)] M M1 ∧ DK M1 p ∧ now M M1 21 7 8 ∧ sm [(98, 99, none)] M1 M2 := by
  have hp := h.p20
  have hn := h.n15
  cases ha : inN a p with
  | false =>
    refine ⟨-1, M, M, ?_, ?_, sm_rf, hk, Or.inl ⟨rfl, rfl⟩, sm_rf⟩
    · unfold fX10_join; rw [k_hasPlace M a h.2.1.2.1 hp, ha]; rfl
    · unfold fX11_join; rw [e_isPlace M a h.2.1.2.2.2 hp, ha]; rfl
  | true =>
    obtain ⟨pl, hpl, rfl⟩ := inN_of ha (by omega)
    obtain ⟨A, a1, a2, a3, a4⟩ := k_ref h hk
    have kA : KB A n p (cD A) (cP A) (cB A) := ⟨a3.ci, rfl, rfl, rfl, a2.1⟩
    obtain ⟨M1, b1, b2⟩ := k_fewest kA hpl (fun v q hv hq => way_z a3 hv hq hpl)
    have o1 := b2.on [(1, 9, none), (21, 25, none), (50, 50, none), (53, 53, none), (56, 56, none), (59, 59, none), (62, 62, none), (65, 65, none), (68, 68, none), (71, 71, none), (73, 77, none)] (by decide) (by decide)
    have d1 : DI M1 n p := DI_on (o1.sub (by decide)) a3
    obtain ⟨M2, c1, c2⟩ := e_join22 d1 hpl
    rw [cD_on (M := A) (o1.sub (by decide)), cP_on (M := A) (o1.sub (by decide)), cB_on (M := A) (o1.sub (by decide))] at c1
    refine ⟨jrI (cD A) (cP A) (cB A) p pl (min 9 n), M1, M2, ?_, ?_, (a4.1.up (by decide)).tr (b2.up (by decide)), DK_on (M := A) (o1.sub (by decide)) (fun _ _ => a2), ?_, c2⟩
    · unfold fX10_join
      rw [k_hasPlace M _ h.2.1.2.1 hp, ha, Option.bind_some, if_neg (by decide), a1, Option.bind_some, b1]
      rfl
    · unfold fX11_join
      rw [e_isPlace M1 _ d1.2.1.2.2.2 hp, ha, Option.bind_some, if_neg (by decide), e_voters, Option.bind_some, d1.2.1.2.2.1, nx_eq, w9 hn]
      exact c1
    · unfold now
      rw [o1.i 21 7 rfl, o1.i 21 8 rfl]
      exact a4.2.2
