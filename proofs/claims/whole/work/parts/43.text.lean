/-! the text: feed and end -/
def byt (x : Int32) (c : Int32) : Int32 := (ush x c).toInt8.toInt32.toInt8.toInt32
def bti (x : Int32) (i : Nat) : Int32 := byt x (nI (24 - 8 * i))
def pt (f : Nat → Int32) (L : Nat) (x : Int32) : Nat → Int32 := fun j => if L ≤ j ∧ j < L + 4 then bti x (j - L) else f j
theorem pt_eq {f g : Nat → Int32} {L : Nat} (x : Int32) (h : ∀ j, j < L → f j = g j) : ∀ j, j < L + 4 → pt f L x j = pt g L x j := by
  intro j hj
  unfold pt
  by_cases c : L ≤ j
  · rw [if_pos ⟨c, hj⟩, if_pos ⟨c, hj⟩]
  · rw [if_neg (fun q => c q.1), if_neg (fun q => c q.1)]; exact h j (by omega)
theorem pt_of {f g : Nat → Int32} {L : Nat} {x : Int32} (h0 : g L = bti x 0) (h1 : g (L + 1) = bti x 1) (h2 : g (L + 2) = bti x 2) (h3 : g (L + 3) = bti x 3) (h : ∀ j, j ≠ L → j ≠ L + 1 → j ≠ L + 2 → j ≠ L + 3 → g j = f j) : g = pt f L x := by
  funext j
  unfold pt
  by_cases c : L ≤ j ∧ j < L + 4
  · rw [if_pos c]
    have : j = L ∨ j = L + 1 ∨ j = L + 2 ∨ j = L + 3 := by omega
    rcases this with rfl | rfl | rfl | rfl
    · rw [h0]; congr 1; omega
    · rw [h1]; congr 1; omega
    · rw [h2]; congr 1; omega
    · rw [h3]; congr 1; omega
  · rw [if_neg c]
    exact h j (by omega) (by omega) (by omega) (by omega)
/-- one byte put at the end of the text in cells k (length in slot 1) and k + 1 -/
def ap (k : Nat) (M : Mem) (L : Nat) (v : Int32) : Mem := sI (sI M (k + 1) L v) k 1 (nI (L + 1))
theorem ap_len (k : Nat) (M : Mem) (L : Nat) (v : Int32) : (ap k M L v).1 k 1 = nI (L + 1) := sI_at ..
theorem ap_row (k : Nat) (M : Mem) (L : Nat) (v : Int32) (j : Nat) : (ap k M L v).1 (k + 1) j = if j = L then v else M.1 (k + 1) j := by
  unfold ap
  rw [sI_nk _ _ (by omega)]
  by_cases e : j = L
  · rw [e, sI_at, if_pos rfl]
  · rw [sI_nj _ _ e, if_neg e]
theorem k_app1 (K : Mem → Option Mem) (f : Nat) (x : Int32) (c : Int32) (hc : ¬ c < 0) {M : Mem} {L : Nat} (hL : L < 600) (h : M.1 10 1 = nI L) : fX6_append_3 K (f + 1) x c M = fX6_append_3 K f x (c + (-8)) (ap 10 M L (byt x c)) := by
  have e600 : (600 : Int32) = nI 600 := rfl
  rw [fX6_append_3, if_neg hc, h, e600, if_neg (nI_ge hL (by omega)), if_pos (inb_nI hL (by decide))]
  unfold fX6_append_40
  simp only [nx_eq, ix_nI (show L < 2147483648 by omega)]
  rw [sI_nk M (k := 11) (a := 10) _ (by decide), h, nI_s]
  rfl
theorem e_app1 (K : Mem → Option Mem) (f : Nat) (x : Int32) (c : Int32) (hc : ¬ c < 0) {M : Mem} {L : Nat} (hL : L < 600) (h : M.1 47 1 = nI L) : fX11_feeds_2 K (f + 1) x c M = fX11_feeds_2 K f x (c + (-1)) (ap 47 M L (byt x (8 * c))) := by
  rw [fX11_feeds_2, if_neg hc, h, if_pos (inb_nI hL (by decide))]
  simp only [nx_eq, ix_nI (show L < 2147483648 by omega)]
  rw [sI_nk M (k := 48) (a := 47) _ (by decide), h, nI_s]
  rfl
theorem ap4 {k : Nat} {M : Mem} {L : Nat} (x : Int32) (M1 : Mem) (h : M1 = ap k (ap k (ap k (ap k M L (bti x 0)) (L + 1) (bti x 1)) (L + 2) (bti x 2)) (L + 3) (bti x 3)) : M1.1 k 1 = nI (L + 4) ∧ M1.1 (k + 1) = pt (M.1 (k + 1)) L x := by
  refine ⟨by rw [h]; exact ap_len .., ?_⟩
  apply pt_of
  · rw [h, ap_row, if_neg (by omega), ap_row, if_neg (by omega), ap_row, if_neg (by omega), ap_row, if_pos rfl]
  · rw [h, ap_row, if_neg (by omega), ap_row, if_neg (by omega), ap_row, if_pos rfl]
  · rw [h, ap_row, if_neg (by omega), ap_row, if_pos rfl]
  · rw [h, ap_row, if_pos rfl]
  · intro j h0 h1 h2 h3
    rw [h, ap_row, if_neg h3, ap_row, if_neg h2, ap_row, if_neg h1, ap_row, if_neg h0]
theorem k_append {M : Mem} {L : Nat} (hL : L + 4 ≤ 600) (h : M.1 10 1 = nI L) (x : Int32) : ∃ M1, fX6_append x M = some M1 ∧ M1.1 10 1 = nI (L + 4) ∧ M1.1 11 = pt (M.1 11) L x ∧ sm [(10, 10, some 1), (11, 11, none)] M M1 := by
  unfold fX6_append
  have eF : FU = 20005 + 1 + 1 + 1 + 1 + 1 := rfl
  have key : fX6_append_3 fX6_append_46 FU x 24 M = some (ap 10 (ap 10 (ap 10 (ap 10 M L (bti x 0)) (L + 1) (bti x 1)) (L + 2) (bti x 2)) (L + 3) (bti x 3)) := by
    rw [eF, k_app1 _ _ _ _ (by decide) (by omega) h, show (24 : Int32) + (-8) = 16 by decide, k_app1 _ _ _ _ (by decide) (show L + 1 < 600 by omega) (ap_len ..), show (16 : Int32) + (-8) = 8 by decide, k_app1 _ _ _ _ (by decide) (show L + 1 + 1 < 600 by omega) (ap_len ..), show (8 : Int32) + (-8) = 0 by decide, k_app1 _ _ _ _ (by decide) (show L + 1 + 1 + 1 < 600 by omega) (ap_len ..), show (0 : Int32) + (-8) = -8 by decide, fX6_append_3, if_pos (by decide)]
    rfl
  obtain ⟨a1, a2⟩ := ap4 (k := 10) (M := M) (L := L) x _ rfl
  refine ⟨_, key, a1, a2, ?_⟩
  unfold ap
  exact (((((((sm_rf.I (by rfl)).I (by rfl)).I (by rfl)).I (by rfl)).I (by rfl)).I (by rfl)).I (by rfl)).I (by rfl)
theorem e_append {M : Mem} {L : Nat} (hL : L + 4 ≤ 600) (h : M.1 47 1 = nI L) (x : Int32) : ∃ M1, fX11_feeds x M = some M1 ∧ M1.1 47 1 = nI (L + 4) ∧ M1.1 48 = pt (M.1 48) L x ∧ sm [(47, 47, some 1), (48, 48, none)] M M1 := by
  unfold fX11_feeds
  have eF : FU = 20005 + 1 + 1 + 1 + 1 + 1 := rfl
  have key : fX11_feeds_2 fX11_feeds_38 FU x 3 M = some (ap 47 (ap 47 (ap 47 (ap 47 M L (bti x 0)) (L + 1) (bti x 1)) (L + 2) (bti x 2)) (L + 3) (bti x 3)) := by
    rw [eF, e_app1 _ _ _ _ (by decide) (by omega) h, show (3 : Int32) + (-1) = 2 by decide, e_app1 _ _ _ _ (by decide) (show L + 1 < 600 by omega) (ap_len ..), show (2 : Int32) + (-1) = 1 by decide, e_app1 _ _ _ _ (by decide) (show L + 1 + 1 < 600 by omega) (ap_len ..), show (1 : Int32) + (-1) = 0 by decide, e_app1 _ _ _ _ (by decide) (show L + 1 + 1 + 1 < 600 by omega) (ap_len ..), show (0 : Int32) + (-1) = -1 by decide, fX11_feeds_2, if_pos (by decide)]
    rfl
  obtain ⟨a1, a2⟩ := ap4 (k := 47) (M := M) (L := L) x _ rfl
  refine ⟨_, key, a1, a2, ?_⟩
  unfold ap
  exact (((((((sm_rf.I (by rfl)).I (by rfl)).I (by rfl)).I (by rfl)).I (by rfl)).I (by rfl)).I (by rfl)).I (by rfl)
def TX (M : Mem) : Prop := ∃ L, L ≤ 600 ∧ M.1 10 1 = nI L ∧ M.1 47 1 = nI L ∧ ∀ j, j < L → M.1 48 j = M.1 11 j
theorem TX_on {M M1 : Mem} (h : on [(10, 10, some 1), (11, 11, none), (47, 47, some 1), (48, 48, none)] M M1) (ht : TX M) : TX M1 := by
  obtain ⟨L, h1, h2, h3, h4⟩ := ht
  refine ⟨L, h1, (h.i 10 1 rfl).trans h2, (h.i 47 1 rfl).trans h3, fun j hj => ?_⟩
  rw [h.i 48 j rfl, h.i 11 j rfl]; exact h4 j hj
def rgT : Rg := [(10, 10, some 1), (11, 11, none), (47, 47, some 1), (48, 48, none)]
theorem s_feed {M : Mem} (h : TX M) (a b c d e : Int32) : ∃ r M1 M2, fX10_feed a b c d e M = some (r, M1) ∧ fX11_feed a b c d e M1 = some (r, M2) ∧ TX M2 ∧ sm rgT M M2 := by
  obtain ⟨L, h1, h2, h3, h4⟩ := h
  unfold fX10_feed fX11_feed
  have e580 : (580 : Int32) = nI 580 := rfl
  have e600 : (600 : Int32) = nI 600 := rfl
  have e20 : (20 : Int32) = nI 20 := rfl
  rw [h2, e580]
  by_cases hL : L ≤ 580
  · rw [if_pos (nI_le hL (by omega))]
    obtain ⟨A1, p1, q1, r1, t1⟩ := k_append (show L + 4 ≤ 600 by omega) h2 a
    obtain ⟨A2, p2, q2, r2, t2⟩ := k_append (show L + 4 + 4 ≤ 600 by omega) q1 b
    obtain ⟨A3, p3, q3, r3, t3⟩ := k_append (show L + 4 + 4 + 4 ≤ 600 by omega) q2 c
    obtain ⟨A4, p4, q4, r4, t4⟩ := k_append (show L + 4 + 4 + 4 + 4 ≤ 600 by omega) q3 d
    obtain ⟨A5, p5, q5, r5, t5⟩ := k_append (show L + 4 + 4 + 4 + 4 + 4 ≤ 600 by omega) q4 e
    have ts : sm [(10, 10, some 1), (11, 11, none)] M A5 := (((t1.tr t2).tr t3).tr t4).tr t5
    have o := ts.on [(47, 47, some 1), (48, 48, none)] (by decide) (by decide)
    have l5 : A5.1 47 1 = nI L := (o.i 47 1 rfl).trans h3
    obtain ⟨B1, u1, v1, w1, x1⟩ := e_append (show L + 4 ≤ 600 by omega) l5 a
    obtain ⟨B2, u2, v2, w2, x2⟩ := e_append (show L + 4 + 4 ≤ 600 by omega) v1 b
    obtain ⟨B3, u3, v3, w3, x3⟩ := e_append (show L + 4 + 4 + 4 ≤ 600 by omega) v2 c
    obtain ⟨B4, u4, v4, w4, x4⟩ := e_append (show L + 4 + 4 + 4 + 4 ≤ 600 by omega) v3 d
    obtain ⟨B5, u5, v5, w5, x5⟩ := e_append (show L + 4 + 4 + 4 + 4 + 4 ≤ 600 by omega) v4 e
    have xs : sm [(47, 47, some 1), (48, 48, none)] A5 B5 := (((x1.tr x2).tr x3).tr x4).tr x5
    have ob := xs.on [(10, 10, some 1), (11, 11, none)] (by decide) (by decide)
    refine ⟨nI (L + 4 + 4 + 4 + 4 + 4), A5, B5, ?_, ?_, ⟨L + 4 + 4 + 4 + 4 + 4, by omega, (ob.i 10 1 rfl).trans q5, v5, fun j hj => ?_⟩, (ts.up (by decide)).tr (xs.up (by decide))⟩
    · simp only [p1, p2, p3, p4, p5, Option.bind_some, q5]
    · rw [l5, e20, nI_add, e600, if_pos (nI_le (by omega) (by omega))]
      simp only [u1, u2, u3, u4, u5, Option.bind_some, v5]
    · have e1 : B5.1 11 j = A5.1 11 j := ob.i 11 j rfl
      rw [e1, w5, w4, w3, w2, w1, r5, r4, r3, r2, r1]
      have e0 : A5.1 48 = M.1 48 := o.row 48 (fun _ => rfl)
      rw [e0]
      exact pt_eq e (pt_eq d (pt_eq c (pt_eq b (pt_eq a h4)))) j hj
  · refine ⟨-1, M, M, ?_, ?_, ⟨L, h1, h2, h3, h4⟩, sm_rf⟩
    · rw [if_neg (nI_ge (by omega) (by omega))]
    · rw [h3, e20, nI_add, e600, if_neg (nI_ge (by omega) (by omega))]
theorem s_end {M : Mem} (h : TX M) (a : Int32) : ∃ r M1 M2, fX10_end a M = some (r, M1) ∧ fX11_end a M1 = some (r, M2) ∧ TX M2 ∧ sm rgT M M2 := by
  obtain ⟨L, h1, h2, h3, h4⟩ := h
  unfold fX10_end fX11_end fX10_end_15
  rw [h2]
  simp only [e_in, Option.bind_some, nx_eq]
  have a0 : ((0 : Int64) ≤ a.toInt64) ↔ 0 ≤ a.toInt := by rw [fa_le64, Int32.toInt_toInt64]; exact Iff.rfl
  have a1 : (a.toInt64 ≤ (nI L).toInt64) ↔ a ≤ nI L := by rw [fa_le64, Int32.toInt_toInt64, Int32.toInt_toInt64, fa_le]
  have z0 : (0 : Int32).toInt = 0 := rfl
  by_cases c0 : a < 0
  · refine ⟨0, M, M, by rw [if_pos c0], ?_, ⟨L, h1, h2, h3, h4⟩, sm_rf⟩
    have : ¬ (0 : Int64) ≤ a.toInt64 := by rw [a0]; have := (fa_lt _ _).mp c0; omega
    simp only [this, decide_false, Bool.false_and]
    rfl
  · have c0' : (0 : Int64) ≤ a.toInt64 := by
      rw [a0]
      have : ¬ a.toInt < (0 : Int32).toInt := fun q => c0 ((fa_lt _ _).mpr q)
      omega
    rw [if_neg c0]
    by_cases c1 : a ≤ nI L
    · refine ⟨1, sI M 10 1 a, sI (sI M 10 1 a) 47 1 a, by rw [if_pos c1], ?_, ?_, ((sm_rf.I (by rfl)).I (by rfl))⟩
      · rw [sI_nk M (k := 10) (a := 47) _ (by decide), h3]
        simp only [c0', a1, c1, decide_true, Bool.and_true]
        rfl
      · have hi := (fa_le _ _).mp c1
        rw [nI_toInt (by omega)] at hi
        obtain ⟨l, hl, rfl⟩ := inN_of (x := a) (n := L + 1) (by simp only [inN, Bool.and_eq_true, decide_eq_true_eq]; have := a0.mp c0'; omega) (by omega)
        refine ⟨l, by omega, ?_, sI_at .., fun j hj => ?_⟩
        · rw [sI_nk _ _ (by decide), sI_at]
        · rw [sI_nk _ _ (by decide), sI_nk _ _ (by decide), sI_nk _ _ (by decide), sI_nk _ _ (by decide)]
          exact h4 j (by omega)
    · refine ⟨0, M, M, by rw [if_neg c1], ?_, ⟨L, h1, h2, h3, h4⟩, sm_rf⟩
      rw [h3]
      simp only [a1, c1, decide_false, Bool.and_false]
      rfl
