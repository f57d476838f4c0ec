/-! the reference's reader -/
def RS' (T : Nat → Int32) (L s : Nat) (Y : Mem) : Prop := (Y.1 47 1 = nI L ∧ ∀ j, j < L → Y.1 48 j = T j) ∧ Y.1 47 2 = nI s ∧ Y.1 47 3 = nI (tkE T L s)
theorem e_letter (Y : Mem) (c : Int32) : fX11_isLetter Y c = some (bI (ltB c)) := by
  unfold fX11_isLetter fX11_isLetter_16 fX11_isLetter_17 ltB
  by_cases c1 : c < 97
  · have : ¬ (97 : Int32) ≤ c := by rw [fa_le]; have := (fa_lt _ _).mp c1; omega
    simp [c1, this, bI]
  · have h1 : (97 : Int32) ≤ c := fa_of_nlt c1
    by_cases c2 : 122 < c
    · have : ¬ c ≤ (122 : Int32) := by rw [fa_le]; have := (fa_lt _ _).mp c2; omega
      simp [c1, c2, h1, this, bI]
    · have h2 : c ≤ (122 : Int32) := fa_of_nlt c2
      simp [c1, c2, h1, h2, bI]
theorem e_digit (Y : Mem) (c : Int32) : fX11_isDigit Y c = some (bI (dgB c)) := by
  unfold fX11_isDigit fX11_isDigit_16 fX11_isDigit_17 dgB
  by_cases c1 : c < 48
  · have : ¬ (48 : Int32) ≤ c := by rw [fa_le]; have := (fa_lt _ _).mp c1; omega
    simp [c1, this, bI]
  · have h1 : (48 : Int32) ≤ c := fa_of_nlt c1
    by_cases c2 : 57 < c
    · have : ¬ c ≤ (57 : Int32) := by rw [fa_le]; have := (fa_lt _ _).mp c2; omega
      simp [c1, c2, h1, this, bI]
    · have h2 : c ≤ (57 : Int32) := fa_of_nlt c2
      simp [c1, c2, h1, h2, bI]
theorem e_skip {T : Nat → Int32} {L : Nat} (hL : L ≤ 600) (K : Mem → Option Mem) : ∀ (d s f : Nat) (X : Mem), L - s ≤ d → s ≤ L → d < f → X.1 47 1 = nI L → (∀ j, j < L → X.1 48 j = T j) → X.1 47 2 = nI s → ∃ X1, fX11_skips_0 K f X = K X1 ∧ X1.1 47 2 = nI (rn (fun i => wsB (T i)) L d s) ∧ sm [(47, 47, some 2)] X X1 := by
  intro d
  induction d with
  | zero =>
    intro s f X h1 h2 hf hx1 hT h4
    obtain ⟨f, rfl⟩ : ∃ g, f = g + 1 := ⟨f - 1, by omega⟩
    refine ⟨X, ?_, h4, sm_rf⟩
    rw [fX11_skips_0, hx1, h4, if_pos (nI_le (by omega) (by omega))]
  | succ d ih =>
    intro s f X h1 h2 hf hx1 hT h4
    obtain ⟨f, rfl⟩ : ∃ g, f = g + 1 := ⟨f - 1, by omega⟩
    by_cases e : s = L
    · subst e
      refine ⟨X, ?_, ?_, sm_rf⟩
      · rw [fX11_skips_0, hx1, h4, if_pos (nI_le (Nat.le_refl _) (by omega))]
      · unfold rn
        rw [if_neg (by omega)]; exact h4
    · have hs : s < L := by omega
      have ii := inb_nI (show s < 600 by omega) (by decide)
      have hun : fX11_skips_0 K (f + 1) X = if wsB (T s) = true then fX11_skips_0 K f (sI X 47 2 (nI (s + 1))) else K X := by
        rw [fX11_skips_0, hx1, h4, if_neg (nI_ge hs (by omega)), if_pos ii, if_pos ii, ix_nI (by omega), hT s hs]
        unfold fX11_skips_39 wsB
        rw [nx_eq, h4, nI_s]
        by_cases c1 : T s = 32
        · simp [c1]
        · by_cases c2 : T s = 10
          · simp [c2]
          · simp [c1, c2]
      unfold rn
      cases c : wsB (T s) with
      | true =>
        rw [c, if_pos rfl] at hun
        have sS : sm [(47, 47, some 2)] X (sI X 47 2 (nI (s + 1))) := sm_rf.I (by rfl)
        have o := sS.on [(47, 47, some 1), (48, 48, none)] (by decide) (by decide)
        obtain ⟨X1, k1, k2, k3⟩ := ih (s + 1) f (sI X 47 2 (nI (s + 1))) (by omega) (by omega) (by omega) ((o.i 47 1 rfl).trans hx1) (fun j hj => (o.i 48 j rfl).trans (hT j hj)) (sI_at ..)
        refine ⟨X1, hun.trans k1, ?_, sS.tr k3⟩
        rw [if_pos ⟨hs, rfl⟩]; exact k2
      | false =>
        rw [c, if_neg (by decide)] at hun
        refine ⟨X, hun, ?_, sm_rf⟩
        rw [if_neg (fun w => by cases w.2)]; exact h4
theorem e_lets {T : Nat → Int32} {L : Nat} (hL : L ≤ 600) (K : Mem → Option Mem) : ∀ (d s f : Nat) (X : Mem), L - s ≤ d → s ≤ L → d < f → X.1 47 1 = nI L → (∀ j, j < L → X.1 48 j = T j) → X.1 47 3 = nI s → ∃ X1, fX11_skips_87 K f X = K X1 ∧ X1.1 47 3 = nI (rn (fun i => ltB (T i)) L d s) ∧ sm [(47, 47, some 3)] X X1 := by
  intro d
  induction d with
  | zero =>
    intro s f X h1 h2 hf hx1 hT h4
    obtain ⟨f, rfl⟩ : ∃ g, f = g + 1 := ⟨f - 1, by omega⟩
    refine ⟨X, ?_, h4, sm_rf⟩
    rw [fX11_skips_87, hx1, h4, if_pos (nI_le (by omega) (by omega))]
  | succ d ih =>
    intro s f X h1 h2 hf hx1 hT h4
    obtain ⟨f, rfl⟩ : ∃ g, f = g + 1 := ⟨f - 1, by omega⟩
    by_cases e : s = L
    · subst e
      refine ⟨X, ?_, ?_, sm_rf⟩
      · rw [fX11_skips_87, hx1, h4, if_pos (nI_le (Nat.le_refl _) (by omega))]
      · unfold rn
        rw [if_neg (by omega)]; exact h4
    · have hs : s < L := by omega
      have ii := inb_nI (show s < 600 by omega) (by decide)
      have hun : fX11_skips_87 K (f + 1) X = if ltB (T s) = true then fX11_skips_87 K f (sI X 47 3 (nI (s + 1))) else K X := by
        rw [fX11_skips_87, hx1, h4, if_neg (nI_ge hs (by omega)), if_pos ii, ix_nI (by omega), hT s hs, e_letter, Option.bind_some, nx_eq, nI_s]
        cases ltB (T s) <;> rfl
      unfold rn
      cases c : ltB (T s) with
      | true =>
        rw [c, if_pos rfl] at hun
        have sS : sm [(47, 47, some 3)] X (sI X 47 3 (nI (s + 1))) := sm_rf.I (by rfl)
        have o := sS.on [(47, 47, some 1), (48, 48, none)] (by decide) (by decide)
        obtain ⟨X1, k1, k2, k3⟩ := ih (s + 1) f (sI X 47 3 (nI (s + 1))) (by omega) (by omega) (by omega) ((o.i 47 1 rfl).trans hx1) (fun j hj => (o.i 48 j rfl).trans (hT j hj)) (sI_at ..)
        refine ⟨X1, hun.trans k1, ?_, sS.tr k3⟩
        rw [if_pos ⟨hs, rfl⟩]; exact k2
      | false =>
        rw [c, if_neg (by decide)] at hun
        refine ⟨X, hun, ?_, sm_rf⟩
        rw [if_neg (fun w => by cases w.2)]; exact h4
theorem e_digs {T : Nat → Int32} {L : Nat} (hL : L ≤ 600) (K : Mem → Option Mem) : ∀ (d s f : Nat) (X : Mem), L - s ≤ d → s ≤ L → d < f → X.1 47 1 = nI L → (∀ j, j < L → X.1 48 j = T j) → X.1 47 3 = nI s → ∃ X1, fX11_skips_141 K f X = K X1 ∧ X1.1 47 3 = nI (rn (fun i => dgB (T i)) L d s) ∧ sm [(47, 47, some 3)] X X1 := by
  intro d
  induction d with
  | zero =>
    intro s f X h1 h2 hf hx1 hT h4
    obtain ⟨f, rfl⟩ : ∃ g, f = g + 1 := ⟨f - 1, by omega⟩
    refine ⟨X, ?_, h4, sm_rf⟩
    rw [fX11_skips_141, hx1, h4, if_pos (nI_le (by omega) (by omega))]
  | succ d ih =>
    intro s f X h1 h2 hf hx1 hT h4
    obtain ⟨f, rfl⟩ : ∃ g, f = g + 1 := ⟨f - 1, by omega⟩
    by_cases e : s = L
    · subst e
      refine ⟨X, ?_, ?_, sm_rf⟩
      · rw [fX11_skips_141, hx1, h4, if_pos (nI_le (Nat.le_refl _) (by omega))]
      · unfold rn
        rw [if_neg (by omega)]; exact h4
    · have hs : s < L := by omega
      have ii := inb_nI (show s < 600 by omega) (by decide)
      have hun : fX11_skips_141 K (f + 1) X = if dgB (T s) = true then fX11_skips_141 K f (sI X 47 3 (nI (s + 1))) else K X := by
        rw [fX11_skips_141, hx1, h4, if_neg (nI_ge hs (by omega)), if_pos ii, ix_nI (by omega), hT s hs, e_digit, Option.bind_some, nx_eq, nI_s]
        cases dgB (T s) <;> rfl
      unfold rn
      cases c : dgB (T s) with
      | true =>
        rw [c, if_pos rfl] at hun
        have sS : sm [(47, 47, some 3)] X (sI X 47 3 (nI (s + 1))) := sm_rf.I (by rfl)
        have o := sS.on [(47, 47, some 1), (48, 48, none)] (by decide) (by decide)
        obtain ⟨X1, k1, k2, k3⟩ := ih (s + 1) f (sI X 47 3 (nI (s + 1))) (by omega) (by omega) (by omega) ((o.i 47 1 rfl).trans hx1) (fun j hj => (o.i 48 j rfl).trans (hT j hj)) (sI_at ..)
        refine ⟨X1, hun.trans k1, ?_, sS.tr k3⟩
        rw [if_pos ⟨hs, rfl⟩]; exact k2
      | false =>
        rw [c, if_neg (by decide)] at hun
        refine ⟨X, hun, ?_, sm_rf⟩
        rw [if_neg (fun w => by cases w.2)]; exact h4
def rgSk : Rg := [(47, 47, some 2), (47, 47, some 3)]
theorem e_skips {T : Nat → Int32} {L e : Nat} {X : Mem} (hL : L ≤ 600) (he : e ≤ L) (hx1 : X.1 47 1 = nI L) (hT : ∀ j, j < L → X.1 48 j = T j) (h2 : X.1 47 2 = nI e) : ∃ X1, fX11_skips X = some X1 ∧ RS' T L (skS T L e) X1 ∧ sm rgSk X X1 := by
  unfold fX11_skips
  obtain ⟨A, a1, a2, a3⟩ := e_skip hL fX11_skips_52 (L - e) e FU X (Nat.le_refl _) he (FU_gt (by omega)) hx1 hT h2
  rw [a1]
  have oA := a3.on [(47, 47, some 1), (48, 48, none)] (by decide) (by decide)
  have a2 : A.1 47 2 = nI (skS T L e) := a2
  obtain ⟨sl1, sl2⟩ := sk_le (T := T) he
  generalize hs : skS T L e = s at *
  unfold fX11_skips_52 fX11_skips_190
  rw [nx_eq, a2]
  generalize hB : sI A 47 3 (nI s) = B
  have sAB : sm [(47, 47, some 3)] A B := by rw [← hB]; exact sm_rf.I (by rfl)
  have oB := sAB.on [(47, 47, some 1), (47, 47, some 2), (48, 48, none)] (by decide) (by decide)
  have B1 : B.1 47 1 = nI L := (oB.i 47 1 rfl).trans ((oA.i 47 1 rfl).trans hx1)
  have BT : ∀ j, j < L → B.1 48 j = T j := fun j hj => (oB.i 48 j rfl).trans ((oA.i 48 j rfl).trans (hT j hj))
  have B2 : B.1 47 2 = nI s := (oB.i 47 2 rfl).trans a2
  have B3 : B.1 47 3 = nI s := by rw [← hB]; exact sI_at ..
  have sB : sm rgSk X B := (a3.up (by decide)).tr (sAB.up (by decide))
  rw [B2, B1]
  by_cases c : s < L
  · have ii := inb_nI (show s < 600 by omega) (by decide)
    rw [if_neg (fun w => by have := (nI_eq (by omega) (by omega)).mp w; omega), if_pos ii, if_pos ii, ix_nI (by omega), BT s c, e_letter, Option.bind_some, e_digit, Option.bind_some]
    have fin : ∀ Y : Mem, sm [(47, 47, some 3)] B Y → Y.1 47 3 = nI (tkE T L s) → RS' T L s Y ∧ sm rgSk X Y := by
      intro Y hY h3
      have o := hY.on [(47, 47, some 1), (47, 47, some 2), (48, 48, none)] (by decide) (by decide)
      exact ⟨⟨⟨(o.i 47 1 rfl).trans B1, fun j hj => (o.i 48 j rfl).trans (BT j hj)⟩, (o.i 47 2 rfl).trans B2, h3⟩, sB.tr (hY.up (by decide))⟩
    cases c1 : ltB (T s) with
    | true =>
      rw [if_neg (show ¬ bI true = 0 by decide)]
      obtain ⟨D, d1, d2, d3⟩ := e_lets hL fX11_skips_190 (L - s) s FU B (Nat.le_refl _) (by omega) (FU_gt (by omega)) B1 BT B3
      obtain ⟨w1, w2⟩ := fin D d3 (by unfold tkE; rw [if_pos c, if_pos c1]; exact d2)
      exact ⟨D, d1, w1, w2⟩
    | false =>
      rw [if_pos (show bI false = 0 from rfl)]
      cases c2 : dgB (T s) with
      | true =>
        rw [if_neg (show ¬ bI true = 0 by decide)]
        obtain ⟨D, d1, d2, d3⟩ := e_digs hL fX11_skips_190 (L - s) s FU B (Nat.le_refl _) (by omega) (FU_gt (by omega)) B1 BT B3
        obtain ⟨w1, w2⟩ := fin D d3 (by unfold tkE; rw [if_pos c, if_neg (by rw [c1]; decide), if_pos c2]; exact d2)
        exact ⟨D, d1, w1, w2⟩
      | false =>
        rw [if_pos (show bI false = 0 from rfl), nx_eq, nI_s]
        obtain ⟨w1, w2⟩ := fin (sI B 47 3 (nI (s + 1))) (sm_rf.I (by rfl)) (by unfold tkE; rw [if_pos c, if_neg (by rw [c1]; decide), if_neg (by rw [c2]; decide)]; exact sI_at ..)
        exact ⟨_, rfl, w1, w2⟩
  · have e' : s = L := by omega
    rw [if_pos (by rw [e'])]
    refine ⟨B, rfl, ⟨⟨B1, BT⟩, B2, ?_⟩, sB⟩
    unfold tkE
    rw [if_neg c]; exact B3
/-- a token is passed -/
theorem e_pass1 {T : Nat → Int32} {L s : Nat} {Y : Mem} (hL : L ≤ 600) (hs : s ≤ L) (h : RS' T L s Y) : ∃ Y1, fX11_passes 1 Y = some (1, Y1) ∧ RS' T L (nxS T L s) Y1 ∧ sm rgSk Y Y1 := by
  obtain ⟨⟨h1, hT⟩, h2, h3⟩ := h
  unfold fX11_passes
  rw [if_neg (by decide), nx_eq, h3]
  have sA : sm rgSk Y (sI Y 47 2 (nI (tkE T L s))) := sm_rf.I (by rfl)
  have o := sA.on [(47, 47, some 1), (48, 48, none)] (by decide) (by decide)
  obtain ⟨X, x1, x2, x3⟩ := e_skips (T := T) (e := tkE T L s) hL (tk_le hs).2 ((o.i 47 1 rfl).trans h1) (fun j hj => (o.i 48 j rfl).trans (hT j hj)) (sI_at ..)
  rw [x1, Option.bind_some]
  exact ⟨X, rfl, x2, sA.tr x3⟩
theorem e_pass0 {T : Nat → Int32} {L s : Nat} {Y : Mem} (h : RS' T L s Y) (h4 : Y.1 47 4 = -1) : ∃ Y1, fX11_passes 0 Y = some (0, Y1) ∧ Y1.1 47 4 = nI s ∧ sm [(47, 47, some 4)] Y Y1 := by
  unfold fX11_passes fX11_passes_20
  rw [if_pos rfl, if_pos h4, nx_eq, h.2.1]
  exact ⟨_, rfl, sI_at .., sm_rf.I (by rfl)⟩
/-! words -/
def wdB (T : Nat → Int32) (L s w : Nat) : Bool := decide (s < L) && (decide (tkE T L s = s + stLen.getD w 0) && !(anyN (fun i => decide (T (s + i) ≠ sch w i)) (stLen.getD w 0)))
theorem st_tab : ∀ w, w < 26 → 2 ≤ stLen.getD w 0 ∧ stLen.getD w 0 ≤ 7 ∧ ltB (sch w 0) = true := by decide +kernel
theorem k_isWord {T : Nat → Int32} {L s w : Nat} {X : Mem} (hL : L ≤ 600) (hs : s ≤ L) (hw : w < 26) (h : CS T L s X) : fX6_isWord X w = some (bI (wdB T L s w)) := by
  obtain ⟨⟨h1, hT⟩, h4, h5, h3, -⟩ := h
  obtain ⟨t1, t2, t3⟩ := st_tab w hw
  obtain ⟨k1, k2⟩ := tk_le (T := T) hs
  unfold fX6_isWord fX6_isWord_24 fJ0_length_8abf5
  rw [h3, h4, h5, Option.bind_some, pk_sub k1]
  unfold wdB
  by_cases c0 : kd T L s = 2
  · have sl : s < L := by
      by_cases q : s < L
      · exact q
      · unfold kd at c0; rw [if_neg q] at c0; exact absurd c0 (by decide)
    rw [if_pos c0, decide_eq_true sl, Bool.true_and]
    by_cases c1 : tkE T L s = s + stLen.getD w 0
    · rw [if_pos (show nI (tkE T L s - s) = nI (stLen.getD w 0) by congr 1; omega), decide_eq_true c1, Bool.true_and]
      have hh := for_anyB (fun f i => fX6_isWord_28 X w (fX6_isWord_55 X w) (fX6_isWord_63 X w) f i) (some (1 : Int32)) (some (0 : Int32)) (fun i => decide (T (s + i) ≠ sch w i)) (stLen.getD w 0) ?_ ?_ FU (FU_gt (by omega))
      · refine Eq.trans hh ?_
        cases anyN (fun i => decide (T (s + i) ≠ sch w i)) (stLen.getD w 0) <;> rfl
      · intro f i hi
        show fX6_isWord_28 X w _ _ (f + 1) (nI i) = _
        rw [fX6_isWord_28]
        unfold fJ0_length_8abf5 fJ0_charAt_5068e
        rw [Option.bind_some, if_neg (nI_ge hi (by omega)), h4, nI_add, if_pos (inb_nI (show s + i < 600 by omega) (by decide)), if_pos (inb_nI hi (by omega)), Option.bind_some, nx_eq, nI_s, ix_nI (by omega), ix_nI (by omega), hT (s + i) (by omega)]
        by_cases q : T (s + i) = sch w i
        · simp [q]
        · simp [q]; rfl
      · intro f
        show fX6_isWord_28 X w _ _ (f + 1) (nI (stLen.getD w 0)) = _
        rw [fX6_isWord_28]
        unfold fJ0_length_8abf5
        rw [Option.bind_some, if_pos (nI_le (Nat.le_refl _) (by omega))]
        rfl
    · rw [if_neg (fun q => c1 (by have := (nI_eq (by omega) (by omega)).mp q; omega)), decide_eq_false c1]
      rfl
  · rw [if_neg c0]
    have : (decide (s < L) && (decide (tkE T L s = s + stLen.getD w 0) && !(anyN (fun i => decide (T (s + i) ≠ sch w i)) (stLen.getD w 0)))) = false := by
      cases q : (decide (s < L) && (decide (tkE T L s = s + stLen.getD w 0) && !(anyN (fun i => decide (T (s + i) ≠ sch w i)) (stLen.getD w 0)))) with
      | false => rfl
      | true =>
        exfalso
        simp only [Bool.and_eq_true, decide_eq_true_eq, Bool.not_eq_true'] at q
        obtain ⟨q1, q2, q3⟩ := q
        have z0 : T (s + 0) = sch w 0 := by
          by_cases z : T (s + 0) = sch w 0
          · exact z
          · have : anyN (fun i => decide (T (s + i) ≠ sch w i)) (stLen.getD w 0) = true := anyN_iff.mpr ⟨0, by omega, decide_eq_true z⟩
            rw [this] at q3; cases q3
        apply c0
        unfold kd
        rw [if_pos q1, if_pos (by rw [Nat.add_zero] at z0; rw [z0]; exact t3)]
    rw [this]
    rfl
theorem e_isWord {T : Nat → Int32} {L s w : Nat} {Y : Mem} (hL : L ≤ 600) (hs : s ≤ L) (hw : w < 26) (h : RS' T L s Y) : fX11_isWord Y w = some (bI (wdB T L s w)) := by
  obtain ⟨⟨h1, hT⟩, h4, h5⟩ := h
  obtain ⟨t1, t2, t3⟩ := st_tab w hw
  obtain ⟨k1, k2⟩ := tk_le (T := T) hs
  unfold fX11_isWord fX11_isWord_27 fJ0_length_8abf5
  rw [h1, h4, h5, Option.bind_some, pk_sub k1]
  unfold wdB
  by_cases sl : s < L
  · rw [if_neg (fun q => by have := (nI_eq (by omega) (by omega)).mp q; omega), decide_eq_true sl, Bool.true_and]
    by_cases c1 : tkE T L s = s + stLen.getD w 0
    · rw [if_pos (show nI (tkE T L s - s) = nI (stLen.getD w 0) by congr 1; omega), decide_eq_true c1, Bool.true_and]
      have hh := for_anyB (fun f i => fX11_isWord_31 Y w (fX11_isWord_58 Y w) (fX11_isWord_66 Y w) f i) (some (1 : Int32)) (some (0 : Int32)) (fun i => decide (T (s + i) ≠ sch w i)) (stLen.getD w 0) ?_ ?_ FU (FU_gt (by omega))
      · refine Eq.trans hh ?_
        cases anyN (fun i => decide (T (s + i) ≠ sch w i)) (stLen.getD w 0) <;> rfl
      · intro f i hi
        show fX11_isWord_31 Y w _ _ (f + 1) (nI i) = _
        rw [fX11_isWord_31]
        unfold fJ0_length_8abf5 fJ0_charAt_5068e
        rw [Option.bind_some, if_neg (nI_ge hi (by omega)), h4, nI_add, if_pos (inb_nI (show s + i < 600 by omega) (by decide)), if_pos (inb_nI hi (by omega)), Option.bind_some, nx_eq, nI_s, ix_nI (by omega), ix_nI (by omega), hT (s + i) (by omega)]
        by_cases q : T (s + i) = sch w i
        · simp [q]
        · simp [q]; rfl
      · intro f
        show fX11_isWord_31 Y w _ _ (f + 1) (nI (stLen.getD w 0)) = _
        rw [fX11_isWord_31]
        unfold fJ0_length_8abf5
        rw [Option.bind_some, if_pos (nI_le (Nat.le_refl _) (by omega))]
        rfl
    · rw [if_neg (fun q => c1 (by have := (nI_eq (by omega) (by omega)).mp q; omega)), decide_eq_false c1]
      rfl
  · rw [if_pos (show nI s = nI L by congr 1; omega), decide_eq_false sl]
    rfl
theorem st_same : ∀ w, w < 26 → ∀ v, v < 26 → stTx w = stTx v → stLen.getD w 0 = stLen.getD v 0 ∧ ∀ j, j < 7 → sch w j = sch v j := by decide +kernel
theorem wd_eq {T : Nat → Int32} {L s w v : Nat} (hw : w < 26) (hv : v < 26) (h : stTx w = stTx v) : wdB T L s w = wdB T L s v := by
  obtain ⟨h1, h2⟩ := st_same w hw v hv h
  obtain ⟨-, t2, -⟩ := st_tab v hv
  unfold wdB
  rw [h1, anyN_congr (g := fun i => decide (T (s + i) ≠ sch v i)) (fun i hi => by rw [h2 i (by omega)])]
/-! numbers and signs -/
def nmB (T : Nat → Int32) (L s lo hi : Nat) : Bool := decide (kd T L s = 3) && (decide (lo ≤ nvN T L s) && decide (nvN T L s ≤ hi))
theorem k_isNumber {T : Nat → Int32} {L s lo hi : Nat} {X : Mem} (h : CS T L s X) (hlo : lo ≤ 99) (hhi : hi ≤ 99) : fX6_isNumber X (nI lo) (nI hi) = some (bI (nmB T L s lo hi)) := by
  obtain ⟨-, -, -, h3, h6⟩ := h
  unfold fX6_isNumber fX6_isNumber_28 fX6_isNumber_29 nmB
  rw [h3]
  have nb := nvF_le T s (tkE T L s - s)
  by_cases c : kd T L s = 3
  · have nb' : nvN T L s ≤ 1000 := nb
    rw [if_pos c, h6 c, decide_eq_true c, Bool.true_and]
    by_cases c1 : nvN T L s < lo
    · rw [if_pos ((nI_ltJ (by omega) (by omega)).mpr c1), decide_eq_false (show ¬ lo ≤ nvN T L s by omega)]; rfl
    · rw [if_neg (fun q => c1 ((nI_ltJ (by omega) (by omega)).mp q)), decide_eq_true (show lo ≤ nvN T L s by omega)]
      by_cases c2 : hi < nvN T L s
      · rw [if_pos ((nI_ltJ (by omega) (by omega)).mpr c2), decide_eq_false (show ¬ nvN T L s ≤ hi by omega)]; rfl
      · rw [if_neg (fun q => c2 ((nI_ltJ (by omega) (by omega)).mp q)), decide_eq_true (show nvN T L s ≤ hi by omega)]; rfl
  · rw [if_neg c, decide_eq_false c]; rfl
theorem e_sign {T : Nat → Int32} {L s : Nat} {Y : Mem} (hL : L ≤ 600) (hs : s ≤ L) (h : RS' T L s Y) (c : Int32) : fX11_isSign Y c = some (bI (decide (s < L ∧ T s = c))) := by
  obtain ⟨⟨h1, hT⟩, h2, -⟩ := h
  unfold fX11_isSign fX11_isSign_28 fX11_isSign_29
  rw [h1, h2]
  by_cases sl : s < L
  · rw [if_neg (nI_ge sl (by omega)), if_pos (inb_nI (show s < 600 by omega) (by decide)), ix_nI (by omega), hT s sl]
    by_cases q : T s = c
    · rw [if_pos q, decide_eq_true ⟨sl, q⟩]; rfl
    · rw [if_neg q, decide_eq_false (fun w => q w.2)]; rfl
  · rw [if_pos (nI_le (by omega) (by omega)), decide_eq_false (fun w => sl w.1)]; rfl
theorem kd_sign {T : Nat → Int32} {L s : Nat} : (kd T L s = 5 ↔ (s < L ∧ T s = 59)) ∧ (kd T L s = 4 ↔ (s < L ∧ T s = 47)) := by
  unfold kd
  by_cases sl : s < L
  · rw [if_pos sl]
    by_cases c1 : ltB (T s) = true
    · rw [if_pos c1]
      refine ⟨⟨fun w => absurd w (by decide), fun w => ?_⟩, ⟨fun w => absurd w (by decide), fun w => ?_⟩⟩ <;> (rw [w.2] at c1; exact absurd c1 (by decide))
    · rw [if_neg c1]
      by_cases c2 : dgB (T s) = true
      · rw [if_pos c2]
        refine ⟨⟨fun w => absurd w (by decide), fun w => ?_⟩, ⟨fun w => absurd w (by decide), fun w => ?_⟩⟩ <;> (rw [w.2] at c2; exact absurd c2 (by decide))
      · rw [if_neg c2]
        by_cases c3 : T s = 47
        · rw [if_pos c3]
          exact ⟨⟨fun w => absurd w (by decide), fun w => by rw [c3] at w; exact absurd w.2 (by decide)⟩, ⟨fun _ => ⟨sl, c3⟩, fun _ => rfl⟩⟩
        · rw [if_neg c3]
          by_cases c4 : T s = 59
          · rw [if_pos c4]
            exact ⟨⟨fun _ => ⟨sl, c4⟩, fun _ => rfl⟩, ⟨fun w => absurd w (by decide), fun w => absurd w.2 c3⟩⟩
          · rw [if_neg c4]
            exact ⟨⟨fun w => absurd w (by decide), fun w => absurd w.2 c4⟩, ⟨fun w => absurd w (by decide), fun w => absurd w.2 c3⟩⟩
  · rw [if_neg sl]
    exact ⟨⟨fun w => absurd w (by decide), fun w => absurd w.1 sl⟩, ⟨fun w => absurd w (by decide), fun w => absurd w.1 sl⟩⟩
