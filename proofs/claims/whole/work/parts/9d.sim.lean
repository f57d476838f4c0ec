/-! both readers side by side -/
def okDr (X : Mem) (v : Nat) : Prop := inN (X.1 13 v) 100 = true ∧ inN (X.1 14 v) 100 = true ∧ (1 ≤ (X.1 15 v).toInt ∧ (X.1 15 v).toInt ≤ 9) ∧ inN (X.1 16 v) 4 = true ∧ (1 ≤ (X.1 17 v).toInt ∧ (X.1 17 v).toInt ≤ 9) ∧ (1 ≤ (X.1 18 v).toInt ∧ (X.1 18 v).toInt ≤ 9)
def DV (X Y : Mem) (a : Nat) : Prop := a ≤ 15 ∧ X.1 12 0 = nI a ∧ Y.1 73 1 = nI a ∧ ∀ v, v < a → (Y.1 51 v = X.1 13 v ∧ Y.1 54 v = X.1 14 v ∧ Y.1 57 v = X.1 15 v ∧ Y.1 60 v = X.1 16 v ∧ Y.1 63 v = X.1 17 v ∧ Y.1 66 v = X.1 18 v) ∧ okDr X v
def DP (X Y : Mem) (b : Nat) : Prop := b ≤ 20 ∧ X.1 12 8 = nI b ∧ Y.1 74 1 = nI b ∧ ∀ q, q < b → (Y.1 69 q = X.1 19 q ∧ Y.1 72 q = X.1 20 q) ∧ inN (X.1 19 q) 100 = true ∧ inN (X.1 20 q) 100 = true
def DNw (X Y : Mem) : Prop := (Y.1 47 19 = X.1 10 7 ∧ Y.1 47 20 = X.1 10 8 ∧ Y.1 47 21 = X.1 10 9) ∧ inN (X.1 10 7) 4 = true ∧ (1 ≤ (X.1 10 8).toInt ∧ (X.1 10 8).toInt ≤ 9) ∧ (1 ≤ (X.1 10 9).toInt ∧ (X.1 10 9).toInt ≤ 9)
def DBr (X Y : Mem) : Prop := Y.1 75 1 = X.1 12 11 ∧ (X.1 12 11 = 0 ∨ ((X.1 12 11 = 1 ∨ X.1 12 11 = 2) ∧ Y.1 76 1 = X.1 12 12 ∧ Y.1 77 1 = X.1 12 13 ∧ 1 ≤ (X.1 12 12).toInt ∧ (X.1 12 12).toInt ≤ 99))
def DHw (X Y : Mem) : Prop := Y.1 47 22 = X.1 10 10 ∧ (X.1 10 10 = 0 ∨ X.1 10 10 = 1)
def DD (X Y : Mem) : Prop := (∃ a, DV X Y a) ∧ (∃ b, DP X Y b) ∧ DNw X Y ∧ DBr X Y ∧ DHw X Y
theorem DV_on {X Y X1 Y1 : Mem} {a : Nat} (hx : on [(12, 12, some 0), (13, 18, none)] X X1) (hy : on [(51, 51, none), (54, 54, none), (57, 57, none), (60, 60, none), (63, 63, none), (66, 66, none), (73, 73, some 1)] Y Y1) (h : DV X Y a) : DV X1 Y1 a := by
  obtain ⟨h1, h2, h3, h4⟩ := h
  refine ⟨h1, (hx.i 12 0 rfl).trans h2, (hy.i 73 1 rfl).trans h3, fun v hv => ?_⟩
  unfold okDr
  rw [hx.i 13 v rfl, hx.i 14 v rfl, hx.i 15 v rfl, hx.i 16 v rfl, hx.i 17 v rfl, hx.i 18 v rfl, hy.i 51 v rfl, hy.i 54 v rfl, hy.i 57 v rfl, hy.i 60 v rfl, hy.i 63 v rfl, hy.i 66 v rfl]
  exact h4 v hv
theorem DP_on {X Y X1 Y1 : Mem} {b : Nat} (hx : on [(12, 12, some 8), (19, 20, none)] X X1) (hy : on [(69, 69, none), (72, 72, none), (74, 74, some 1)] Y Y1) (h : DP X Y b) : DP X1 Y1 b := by
  obtain ⟨h1, h2, h3, h4⟩ := h
  refine ⟨h1, (hx.i 12 8 rfl).trans h2, (hy.i 74 1 rfl).trans h3, fun v hv => ?_⟩
  rw [hx.i 19 v rfl, hx.i 20 v rfl, hy.i 69 v rfl, hy.i 72 v rfl]
  exact h4 v hv
theorem DNw_on {X Y X1 Y1 : Mem} (hx : on [(10, 10, some 7), (10, 10, some 8), (10, 10, some 9)] X X1) (hy : on [(47, 47, some 19), (47, 47, some 20), (47, 47, some 21)] Y Y1) (h : DNw X Y) : DNw X1 Y1 := by
  unfold DNw
  rw [hx.i 10 7 rfl, hx.i 10 8 rfl, hx.i 10 9 rfl, hy.i 47 19 rfl, hy.i 47 20 rfl, hy.i 47 21 rfl]
  exact h
theorem DBr_on {X Y X1 Y1 : Mem} (hx : on [(12, 12, some 11), (12, 12, some 12), (12, 12, some 13)] X X1) (hy : on [(75, 77, some 1)] Y Y1) (h : DBr X Y) : DBr X1 Y1 := by
  unfold DBr
  rw [hx.i 12 11 rfl, hx.i 12 12 rfl, hx.i 12 13 rfl, hy.i 75 1 rfl, hy.i 76 1 rfl, hy.i 77 1 rfl]
  exact h
theorem DHw_on {X Y X1 Y1 : Mem} (hx : on [(10, 10, some 10)] X X1) (hy : on [(47, 47, some 22)] Y Y1) (h : DHw X Y) : DHw X1 Y1 := by
  unfold DHw
  rw [hx.i 10 10 rfl, hy.i 47 22 rfl]
  exact h
def rxD : Rg := [(10, 10, some 7), (10, 10, some 8), (10, 10, some 9), (10, 10, some 10), (12, 12, some 0), (12, 12, some 8), (12, 12, some 11), (12, 12, some 12), (12, 12, some 13), (13, 20, none)]
def ryD : Rg := [(47, 47, some 19), (47, 47, some 20), (47, 47, some 21), (47, 47, some 22), (51, 51, none), (54, 54, none), (57, 57, none), (60, 60, none), (63, 63, none), (66, 66, none), (69, 69, none), (72, 72, none), (73, 77, some 1)]
theorem DD_on {X Y X1 Y1 : Mem} (hx : on rxD X X1) (hy : on ryD Y Y1) (h : DD X Y) : DD X1 Y1 := by
  obtain ⟨⟨a, h1⟩, ⟨b, h2⟩, h3, h4, h5⟩ := h
  exact ⟨⟨a, DV_on (hx.sub (by decide)) (hy.sub (by decide)) h1⟩, ⟨b, DP_on (hx.sub (by decide)) (hy.sub (by decide)) h2⟩, DNw_on (hx.sub (by decide)) (hy.sub (by decide)) h3, DBr_on (hx.sub (by decide)) (hy.sub (by decide)) h4, DHw_on (hx.sub (by decide)) (hy.sub (by decide)) h5⟩
/-- both at the same token -/
def TK (T : Nat → Int32) (L s : Nat) (X Y : Mem) : Prop := CS T L s X ∧ RS' T L s Y ∧ s ≤ L ∧ Y.1 47 4 = -1
def SM (T : Nat → Int32) (L s : Nat) (X Y : Mem) : Prop := TK T L s X Y ∧ DD X Y
/-- a statement was read, or there was a fault -/
def RZ (T : Nat → Int32) (L s : Nat) (c : Int32) (X Y : Mem) : Prop := (c = 1 ∧ ∃ s1, s < s1 ∧ SM T L s1 X Y) ∨ (c = 0 ∧ ∃ f, f ≤ L ∧ X.1 10 4 = nI f ∧ Y.1 47 4 = nI f)
theorem RZ_lt {T : Nat → Int32} {L s s0 : Nat} {c : Int32} {X Y : Mem} (h : RZ T L s c X Y) (hs : s0 ≤ s) : RZ T L s0 c X Y := by
  rcases h with ⟨h1, s1, h2, h3⟩ | h
  · exact Or.inl ⟨h1, s1, by omega, h3⟩
  · exact Or.inr h
theorem TK_on {T : Nat → Int32} {L s : Nat} {X Y X1 Y1 : Mem} (hx : on [(10, 10, some 1), (10, 10, some 3), (10, 10, some 4), (10, 10, some 5), (10, 10, some 6), (11, 11, none)] X X1) (hy : on [(47, 47, some 1), (47, 47, some 2), (47, 47, some 3), (47, 47, some 4), (48, 48, none)] Y Y1) (h : TK T L s X Y) : TK T L s X1 Y1 := by
  obtain ⟨⟨⟨a1, a2⟩, a3, a4, a5, a6⟩, ⟨⟨b1, b2⟩, b3, b4⟩, h3, h4⟩ := h
  exact ⟨⟨⟨(hx.i 10 1 rfl).trans a1, fun j hj => (hx.i 11 j rfl).trans (a2 j hj)⟩, (hx.i 10 4 rfl).trans a3, (hx.i 10 5 rfl).trans a4, (hx.i 10 3 rfl).trans a5, fun w => (hx.i 10 6 rfl).trans (a6 w)⟩, ⟨⟨(hy.i 47 1 rfl).trans b1, fun j hj => (hy.i 48 j rfl).trans (b2 j hj)⟩, (hy.i 47 2 rfl).trans b3, (hy.i 47 3 rfl).trans b4⟩, h3, (hy.i 47 4 rfl).trans h4⟩
/-- both go on -/
theorem adv {T : Nat → Int32} {L s : Nat} {X Y : Mem} (hL : L ≤ 600) (h : TK T L s X Y) : ∃ X1 Y1, fX6_next X = some X1 ∧ fX11_passes 1 Y = some (1, Y1) ∧ TK T L (nxS T L s) X1 Y1 ∧ sm rgNx X X1 ∧ sm rgSk Y Y1 := by
  obtain ⟨h1, h2, h3, h4⟩ := h
  obtain ⟨X1, a1, a2, a3⟩ := k_next (T := T) (e := tkE T L s) hL (tk_le h3).2 h1.1.1 h1.1.2 h1.2.2.1
  obtain ⟨Y1, b1, b2, b3⟩ := e_pass1 hL h3 h2
  exact ⟨X1, Y1, a1, b1, ⟨a2, b2, (nx_le h3).2, by rw [(b3.on [(47, 47, some 4)] (by decide) (by decide)).i 47 4 rfl]; exact h4⟩, a3, b3⟩
/-- a number that fits is passed by both; the class looks at it first -/
theorem num1 {T : Nat → Int32} {L s lo hi : Nat} {X Y : Mem} (hL : L ≤ 600) (h : TK T L s X Y) (hlo : lo ≤ 99) (hhi : hi ≤ 99) : (∃ X1 Y1, fX6_isNumber X (nI lo) (nI hi) = some 1 ∧ X.1 10 6 = nI (nvN T L s) ∧ lo ≤ nvN T L s ∧ nvN T L s ≤ hi ∧ fX6_next X = some X1 ∧ fX11_number (nI lo) (nI hi) Y = some (1, Y1) ∧ Y1.1 47 5 = nI (nvN T L s) ∧ TK T L (nxS T L s) X1 Y1 ∧ s < L ∧ sm rgNx X X1 ∧ sm [(47, 47, some 2), (47, 47, some 3), (47, 47, some 5)] Y Y1) ∨ (∃ Y1, fX6_isNumber X (nI lo) (nI hi) = some 0 ∧ fX11_number (nI lo) (nI hi) Y = some (0, Y1) ∧ X.1 10 4 = nI s ∧ Y1.1 47 4 = nI s) := by
  obtain ⟨h1, h2, h3, h4⟩ := id h
  have e1 := k_isNumber (lo := lo) (hi := hi) h1 hlo hhi
  obtain ⟨n1, n2⟩ := e_number (lo := lo) (hi := hi) hL h3 h2 h4 hlo hhi
  cases c : nmB T L s lo hi with
  | true =>
    left
    rw [c] at e1
    obtain ⟨Y1, b1, b2, b3, b4⟩ := n1 c
    unfold nmB at c
    simp only [Bool.and_eq_true, decide_eq_true_eq] at c
    obtain ⟨X1, a1, a2, a3⟩ := k_next (T := T) (e := tkE T L s) hL (tk_le h3).2 h1.1.1 h1.1.2 h1.2.2.1
    exact ⟨X1, Y1, e1, h1.2.2.2.2 c.1, c.2.1, c.2.2, a1, b1, b3, ⟨a2, b2, (nx_le h3).2, by rw [(b4.on [(47, 47, some 4)] (by decide) (by decide)).i 47 4 rfl]; exact h4⟩, (kd_dig.mp c.1).1, a3, b4⟩
  | false =>
    right
    rw [c] at e1
    obtain ⟨Y1, b1, b2, -⟩ := n2 c
    exact ⟨Y1, e1, b1, h1.2.1, b2⟩
/-- a semicolon ends a statement -/
theorem semi {T : Nat → Int32} {L s : Nat} {X Y : Mem} (hL : L ≤ 600) (h : TK T L s X Y) (hd : DD X Y) : ∃ c X1 Y1, (c = 0 ∨ c = 1) ∧ fX6_passSemicolon X = some (c, X1) ∧ (fX11_isSign Y 59).bind (fun q => fX11_passes q Y) = some (c, Y1) ∧ RZ T L s c X1 Y1 := by
  obtain ⟨h1, h2, h3, h4⟩ := id h
  unfold fX6_passSemicolon
  rw [h1.2.2.2.1, e_sign hL h3 h2, Option.bind_some]
  by_cases c : kd T L s = 5
  · obtain ⟨X1, Y1, a1, a2, a3, a4, a5⟩ := adv hL h
    have c' := kd_sign.1.mp c
    refine ⟨1, X1, Y1, Or.inr rfl, ?_, ?_, Or.inl ⟨rfl, nxS T L s, (nx_lt c'.1).1, a3, DD_on (a4.on _ (by decide) (by decide)) (a5.on _ (by decide) (by decide)) hd⟩⟩
    · rw [if_pos c, a1, Option.bind_some]
    · rw [decide_eq_true c']; exact a2
  · have c' : ¬ (s < L ∧ T s = 59) := fun w => c (kd_sign.1.mpr w)
    obtain ⟨Y1, b1, b2, -⟩ := e_pass0 h2 h4
    refine ⟨0, X, Y1, Or.inl rfl, by rw [if_neg c], ?_, Or.inr ⟨rfl, s, h3, h1.2.1, b2⟩⟩
    rw [decide_eq_false c']; exact b1
theorem bind_passes {Y : Mem} {c : Int32} {Y1 : Mem} (h : (fX11_isSign Y 59).bind (fun q => fX11_passes q Y) = some (c, Y1)) (hc : c = 0 ∨ c = 1) : (fX11_isSign Y 59).bind (fun q => (fX11_passes q Y).bind (fun q2 => some (q2.1 &&& 1, q2.2))) = some (c, Y1) := by
  cases e1 : fX11_isSign Y 59 with
  | none => rw [e1] at h; cases h
  | some q =>
    rw [e1, Option.bind_some] at h
    rw [Option.bind_some, h, Option.bind_some]
    rcases hc with rfl | rfl
    · show some ((0 : Int32) &&& 1, Y1) = _; rw [b01]
    · show some ((1 : Int32) &&& 1, Y1) = _; rw [b11]
theorem bind_semi {X : Mem} {c : Int32} {X1 : Mem} (h : fX6_passSemicolon X = some (c, X1)) (hc : c = 0 ∨ c = 1) : (fX6_passSemicolon X).bind (fun q => some (q.1 &&& 1, q.2)) = some (c, X1) := by
  rw [h, Option.bind_some]
  rcases hc with rfl | rfl
  · show some ((0 : Int32) &&& 1, X1) = _; rw [b01]
  · show some ((1 : Int32) &&& 1, X1) = _; rw [b11]
/-- stretch -/
theorem st_stretch {T : Nat → Int32} {L s : Nat} {X Y : Mem} (hL : L ≤ 600) (h : SM T L s X Y) (hs : s < L) : ∃ c X1 Y1, (c = 0 ∨ c = 1) ∧ fX6_readStretch X = some (c, X1) ∧ (fX11_passes 1 Y).bind (fun q => fX11_stretch q.2) = some (c, Y1) ∧ RZ T L s c X1 Y1 := by
  obtain ⟨ht, hd⟩ := h
  obtain ⟨A, B, a1, a2, a3, a4, a5⟩ := adv hL ht
  have dAB : DD A B := DD_on (a4.on _ (by decide) (by decide)) (a5.on _ (by decide) (by decide)) hd
  unfold fX6_readStretch
  rw [a1, Option.bind_some, a2, Option.bind_some]
  show ∃ c X1 Y1, _ ∧ _ ∧ fX11_stretch B = some (c, Y1) ∧ _
  unfold fX11_stretch
  have s1 := (nx_lt (T := T) hs).1
  rw [show (1 : Int32) = nI 1 from rfl, show (9 : Int32) = nI 9 from rfl]
  rcases num1 (lo := 1) (hi := 9) hL a3 (by omega) (by omega) with ⟨X1, Y1, n1, n2, n3, n4, n5, n6, n7, n8, n9, n10, n11⟩ | ⟨Y1, n1, n2, n3, n4⟩
  · rw [n1, Option.bind_some, if_neg (by decide), nx_eq, n2, n6, Option.bind_some]
    show ∃ c X1 Y1, _ ∧ _ ∧ (if (1 : Int32) = 0 then _ else _) = some (c, Y1) ∧ _
    rw [if_neg (by decide), nx_eq]
    -- the class keeps the number first
    generalize hA1 : sI A 10 8 (nI (nvN T L (nxS T L s))) = A1
    have sA1 : sm [(10, 10, some 8)] A A1 := by rw [← hA1]; exact sm_rf.I (by rfl)
    have tA1 : TK T L (nxS T L s) A1 B := TK_on (sA1.on _ (by decide) (by decide)) on.rf a3
    obtain ⟨C, c1, c2, c3⟩ := k_next (T := T) (e := tkE T L (nxS T L s)) hL (tk_le tA1.2.2.1).2 tA1.1.1.1 tA1.1.1.2 tA1.1.2.2.1
    rw [c1, Option.bind_some]
    have tC : TK T L (nxS T L (nxS T L s)) C Y1 := ⟨c2, n8.2⟩
    rcases num1 (lo := 1) (hi := 9) hL tC (by omega) (by omega) with ⟨X2, Y2, m1, m2, m3, m4, m5, m6, m7, m8, m9, m10, m11⟩ | ⟨Y2, m1, m2, m3, m4⟩
    · rw [m1, Option.bind_some, if_neg (by decide), nx_eq, m2, m6, Option.bind_some]
      show ∃ c X1 Y1, _ ∧ _ ∧ (if (1 : Int32) = 0 then _ else _) = some (c, Y1) ∧ _
      rw [if_neg (by decide), nx_eq, nx_eq]
      generalize hC1 : sI C 10 9 (nI (nvN T L (nxS T L (nxS T L s)))) = C1
      have sC1 : sm [(10, 10, some 9)] C C1 := by rw [← hC1]; exact sm_rf.I (by rfl)
      have tC1 : TK T L (nxS T L (nxS T L s)) C1 Y1 := TK_on (sC1.on _ (by decide) (by decide)) on.rf tC
      obtain ⟨D, d1, d2, d3⟩ := k_next (T := T) (e := tkE T L (nxS T L (nxS T L s))) hL (tk_le tC1.2.2.1).2 tC1.1.1.1 tC1.1.1.2 tC1.1.2.2.1
      rw [d1, Option.bind_some]
      have r5 : (sI Y2 47 20 (Y1.1 47 5)).1 47 5 = nI (nvN T L (nxS T L (nxS T L s))) := by rw [sI_nj _ _ (by decide)]; exact m7
      rw [r5, n7]
      generalize hE : sI (sI Y2 47 20 (nI (nvN T L (nxS T L s)))) 47 21 (nI (nvN T L (nxS T L (nxS T L s)))) = E
      have sE : sm [(47, 47, some 20), (47, 47, some 21)] Y2 E := by rw [← hE]; exact (sm_rf.I (by rfl)).I (by rfl)
      have tE : TK T L (nxS T L (nxS T L (nxS T L s))) D E := TK_on on.rf (sE.on _ (by decide) (by decide)) ⟨d2, m8.2⟩
      -- what has been told so far
      have sX : sm [(10, 10, some 3), (10, 10, some 4), (10, 10, some 5), (10, 10, some 6), (10, 10, some 8), (10, 10, some 9)] A D := ((sA1.up (by decide)).tr (c3.up (by decide))).tr ((sC1.up (by decide)).tr (d3.up (by decide)))
      have sY : sm [(47, 47, some 2), (47, 47, some 3), (47, 47, some 5), (47, 47, some 20), (47, 47, some 21)] B E := ((n11.up (by decide)).tr (m11.up (by decide))).tr (sE.up (by decide))
      obtain ⟨⟨a, q1⟩, ⟨b, q2⟩, q3, q4, q5⟩ := dAB
      have x8 : D.1 10 8 = nI (nvN T L (nxS T L s)) := by
        rw [(d3.on [(10, 10, some 8)] (by decide) (by decide)).i 10 8 rfl, (sC1.on [(10, 10, some 8)] (by decide) (by decide)).i 10 8 rfl, (c3.on [(10, 10, some 8)] (by decide) (by decide)).i 10 8 rfl, ← hA1]; exact sI_at ..
      have x9 : D.1 10 9 = nI (nvN T L (nxS T L (nxS T L s))) := by
        rw [(d3.on [(10, 10, some 9)] (by decide) (by decide)).i 10 9 rfl, ← hC1]; exact sI_at ..
      have y20 : E.1 47 20 = nI (nvN T L (nxS T L s)) := by rw [← hE, sI_nj _ _ (by decide), sI_at]
      have y21 : E.1 47 21 = nI (nvN T L (nxS T L (nxS T L s))) := by rw [← hE]; exact sI_at ..
      have dDE : DD D E := by
        refine ⟨⟨a, DV_on (sX.on _ (by decide) (by decide)) (sY.on _ (by decide) (by decide)) q1⟩, ⟨b, DP_on (sX.on _ (by decide) (by decide)) (sY.on _ (by decide) (by decide)) q2⟩, ?_, DBr_on (sX.on _ (by decide) (by decide)) (sY.on _ (by decide) (by decide)) q4, DHw_on (sX.on _ (by decide) (by decide)) (sY.on _ (by decide) (by decide)) q5⟩
        unfold DNw
        rw [x8, x9, y20, y21, (sX.on [(10, 10, some 7)] (by decide) (by decide)).i 10 7 rfl, (sY.on [(47, 47, some 19)] (by decide) (by decide)).i 47 19 rfl, nI_toInt (by omega), nI_toInt (by omega)]
        exact ⟨⟨q3.1.1, rfl, rfl⟩, q3.2.1, by omega, by omega⟩
      obtain ⟨c, X3, Y3, z0, z1, z2, z3⟩ := semi hL tE dDE
      have s2 := (nx_le (T := T) (n8.2.2.1)).1
      have s3 := (nx_le (T := T) (a3.2.2.1)).1
      exact ⟨c, X3, Y3, z0, bind_semi z1 z0, bind_passes z2 z0, RZ_lt z3 (by omega)⟩
    · rw [m1, Option.bind_some, if_pos (by decide), m2, Option.bind_some]
      refine ⟨0, C, Y2, Or.inl rfl, rfl, rfl, Or.inr ⟨rfl, _, tC.2.2.1, m3, m4⟩⟩
  · rw [n1, Option.bind_some, if_pos (by decide), n2, Option.bind_some]
    exact ⟨0, A, Y1, Or.inl rfl, rfl, rfl, Or.inr ⟨rfl, _, a3.2.2.1, n3, n4⟩⟩
