/-! the text, token by token -/
def ltB (c : Int32) : Bool := decide (97 ≤ c) && decide (c ≤ 122)
def dgB (c : Int32) : Bool := decide (48 ≤ c) && decide (c ≤ 57)
def wsB (c : Int32) : Bool := decide (c = 32) || decide (c = 10)
/-- where a run of such bytes ends -/
def rn (b : Nat → Bool) (L : Nat) : Nat → Nat → Nat
  | 0, s => s
  | d + 1, s => if s < L ∧ b s = true then rn b L d (s + 1) else s
theorem rn_le {b : Nat → Bool} {L : Nat} : ∀ {d s : Nat}, s ≤ rn b L d s
  | 0, _ => Nat.le_refl _
  | d + 1, s => by
    unfold rn
    split
    · have := rn_le (b := b) (L := L) (d := d) (s := s + 1)
      omega
    · exact Nat.le_refl _
theorem rn_L {b : Nat → Bool} {L : Nat} : ∀ {d s : Nat}, s ≤ L → rn b L d s ≤ L
  | 0, _, h => h
  | d + 1, s, h => by
    unfold rn
    split
    · exact rn_L (by omega)
    · exact h
theorem rn_end {b : Nat → Bool} {L : Nat} : ∀ {d s : Nat}, L - s ≤ d → s ≤ L → rn b L d s < L → b (rn b L d s) = false
  | 0, s, h1, h2, h3 => by
    have : rn b L 0 s = s := rfl
    rw [this] at h3
    omega
  | d + 1, s, h1, h2, h3 => by
    unfold rn at h3 ⊢
    by_cases c : s < L ∧ b s = true
    · rw [if_pos c] at h3 ⊢
      exact rn_end (by omega) (by omega) h3
    · rw [if_neg c] at h3 ⊢
      cases q : b s with
      | false => rfl
      | true => exact absurd ⟨h3, q⟩ c
def skS (T : Nat → Int32) (L s : Nat) : Nat := rn (fun i => wsB (T i)) L (L - s) s
def tkE (T : Nat → Int32) (L s : Nat) : Nat := if s < L then (if ltB (T s) = true then rn (fun i => ltB (T i)) L (L - s) s else if dgB (T s) = true then rn (fun i => dgB (T i)) L (L - s) s else s + 1) else s
def kd (T : Nat → Int32) (L s : Nat) : Int32 := if s < L then (if ltB (T s) = true then 2 else if dgB (T s) = true then 3 else if T s = 47 then 4 else if T s = 59 then 5 else 1) else 0
def nxS (T : Nat → Int32) (L s : Nat) : Nat := skS T L (tkE T L s)
theorem sk_le {T : Nat → Int32} {L s : Nat} (h : s ≤ L) : s ≤ skS T L s ∧ skS T L s ≤ L := ⟨rn_le, rn_L h⟩
theorem tk_lt {T : Nat → Int32} {L s : Nat} (h : s < L) : s < tkE T L s ∧ tkE T L s ≤ L := by
  have step : ∀ b : Nat → Bool, b s = true → s < rn b L (L - s) s := by
    intro b hb
    obtain ⟨d, hd⟩ : ∃ d, L - s = d + 1 := ⟨L - s - 1, by omega⟩
    rw [hd]
    unfold rn
    rw [if_pos ⟨h, hb⟩]
    have := rn_le (b := b) (L := L) (d := d) (s := s + 1)
    omega
  unfold tkE
  rw [if_pos h]
  by_cases c1 : ltB (T s) = true
  · rw [if_pos c1]
    exact ⟨step _ c1, rn_L (by omega)⟩
  · rw [if_neg c1]
    by_cases c2 : dgB (T s) = true
    · rw [if_pos c2]
      exact ⟨step _ c2, rn_L (by omega)⟩
    · rw [if_neg c2]; omega
theorem tk_le {T : Nat → Int32} {L s : Nat} (h : s ≤ L) : s ≤ tkE T L s ∧ tkE T L s ≤ L := by
  by_cases c : s < L
  · have := tk_lt (T := T) c; omega
  · unfold tkE; rw [if_neg c]; omega
theorem nx_lt {T : Nat → Int32} {L s : Nat} (h : s < L) : s < nxS T L s ∧ nxS T L s ≤ L := by
  have h1 := tk_lt (T := T) h
  have h2 := sk_le (T := T) h1.2
  unfold nxS
  omega
theorem nx_le {T : Nat → Int32} {L s : Nat} (h : s ≤ L) : s ≤ nxS T L s ∧ nxS T L s ≤ L := by
  have h1 := tk_le (T := T) h
  have h2 := sk_le (T := T) h1.2
  unfold nxS
  omega
/-- the number that begins at s: its digits, and one thousand at most -/
def nvF (T : Nat → Int32) (s : Nat) : Nat → Nat
  | 0 => 0
  | d + 1 => min 1000 (nvF T s d * 10 + ix (T (s + d) - 48))
def nvN (T : Nat → Int32) (L s : Nat) : Nat := nvF T s (tkE T L s - s)
theorem nvF_le (T : Nat → Int32) (s : Nat) : ∀ d, nvF T s d ≤ 1000
  | 0 => by show 0 ≤ 1000; omega
  | d + 1 => by unfold nvF; omega
theorem dg_nat {c : Int32} (h : dgB c = true) : ix (c - 48) ≤ 9 ∧ c = nI (ix (c - 48) + 48) := by
  unfold dgB at h
  simp only [Bool.and_eq_true, decide_eq_true_eq] at h
  have h1 := (fa_le _ _).mp h.1
  have h2 := (fa_le _ _).mp h.2
  have e48 : (48 : Int32).toInt = 48 := rfl
  have e57 : (57 : Int32).toInt = 57 := rfl
  have t : (c - 48).toInt = c.toInt - 48 := by rw [fb_subI (by rw [e48]; omega) (by rw [e48]; omega), e48]
  obtain ⟨a1, a2, a3⟩ := nat_of (x := c - 48) (c := 9) (by rw [t]; omega) (by rw [t]; omega) (by omega)
  refine ⟨a1, ?_⟩
  rw [fa_eq, nI_toInt (by omega)]
  omega
/-! the class's reader -/
def CS (T : Nat → Int32) (L s : Nat) (X : Mem) : Prop := (X.1 10 1 = nI L ∧ ∀ j, j < L → X.1 11 j = T j) ∧ X.1 10 4 = nI s ∧ X.1 10 5 = nI (tkE T L s) ∧ X.1 10 3 = kd T L s ∧ (kd T L s = 3 → X.1 10 6 = nI (nvN T L s))
def rgNx : Rg := [(10, 10, some 3), (10, 10, some 4), (10, 10, some 5), (10, 10, some 6)]
theorem k_letter {X : Mem} {T : Nat → Int32} {L s : Nat} (hL : L ≤ 600) (hT : ∀ j, j < L → X.1 11 j = T j) (hs : s < L) : fX6_isLetter X (nI s) = some (bI (ltB (T s))) := by
  have ii := inb_nI (show s < 600 by omega) (by decide)
  unfold fX6_isLetter fX6_isLetter_26 fX6_isLetter_27 ltB
  rw [if_pos ii, if_pos ii, ix_nI (by omega), hT s hs]
  by_cases c1 : T s < 97
  · have : ¬ (97 : Int32) ≤ T s := by rw [fa_le]; have := (fa_lt _ _).mp c1; omega
    simp [c1, this, bI]
  · have h1 : (97 : Int32) ≤ T s := fa_of_nlt c1
    by_cases c2 : 122 < T s
    · have : ¬ T s ≤ (122 : Int32) := by rw [fa_le]; have := (fa_lt _ _).mp c2; omega
      simp [c1, c2, h1, this, bI]
    · have h2 : T s ≤ (122 : Int32) := fa_of_nlt c2
      simp [c1, c2, h1, h2, bI]
theorem k_digit {X : Mem} {T : Nat → Int32} {L s : Nat} (hL : L ≤ 600) (hT : ∀ j, j < L → X.1 11 j = T j) (hs : s < L) : fX6_isDigit X (nI s) = some (bI (dgB (T s))) := by
  have ii := inb_nI (show s < 600 by omega) (by decide)
  unfold fX6_isDigit fX6_isDigit_26 fX6_isDigit_27 dgB
  rw [if_pos ii, if_pos ii, ix_nI (by omega), hT s hs]
  by_cases c1 : T s < 48
  · have : ¬ (48 : Int32) ≤ T s := by rw [fa_le]; have := (fa_lt _ _).mp c1; omega
    simp [c1, this, bI]
  · have h1 : (48 : Int32) ≤ T s := fa_of_nlt c1
    by_cases c2 : 57 < T s
    · have : ¬ T s ≤ (57 : Int32) := by rw [fa_le]; have := (fa_lt _ _).mp c2; omega
      simp [c1, c2, h1, this, bI]
    · have h2 : T s ≤ (57 : Int32) := fa_of_nlt c2
      simp [c1, c2, h1, h2, bI]
/-- over blanks -/
theorem k_skip {T : Nat → Int32} {L : Nat} (hL : L ≤ 600) (K : Mem → Option Mem) : ∀ (d s f : Nat) (X : Mem), L - s ≤ d → s ≤ L → d < f → X.1 10 1 = nI L → (∀ j, j < L → X.1 11 j = T j) → X.1 10 4 = nI s → ∃ X1, fX6_next_8 K f X = K X1 ∧ X1.1 10 4 = nI (rn (fun i => wsB (T i)) L d s) ∧ sm [(10, 10, some 4)] X X1 := by
  intro d
  induction d with
  | zero =>
    intro s f X h1 h2 hf hx1 hT h4
    obtain ⟨f, rfl⟩ : ∃ g, f = g + 1 := ⟨f - 1, by omega⟩
    refine ⟨X, ?_, h4, sm_rf⟩
    rw [fX6_next_8, hx1, h4, if_pos (nI_le (by omega) (by omega))]
  | succ d ih =>
    intro s f X h1 h2 hf hx1 hT h4
    obtain ⟨f, rfl⟩ : ∃ g, f = g + 1 := ⟨f - 1, by omega⟩
    by_cases e : s = L
    · subst e
      refine ⟨X, ?_, ?_, sm_rf⟩
      · rw [fX6_next_8, hx1, h4, if_pos (nI_le (Nat.le_refl _) (by omega))]
      · unfold rn
        rw [if_neg (by omega)]; exact h4
    · have hs : s < L := by omega
      have ii := inb_nI (show s < 600 by omega) (by decide)
      have hun : fX6_next_8 K (f + 1) X = if wsB (T s) = true then fX6_next_8 K f (sI X 10 4 (nI (s + 1))) else K X := by
        rw [fX6_next_8, hx1, h4, if_neg (nI_ge hs (by omega)), if_pos ii, if_pos ii, ix_nI (by omega), hT s hs]
        unfold fX6_next_47 wsB
        rw [nx_eq, h4, nI_s]
        by_cases c1 : T s = 32
        · simp [c1]
        · by_cases c2 : T s = 10
          · simp [c2]
          · simp [c1, c2]
      unfold rn
      cases c : wsB (T s) with
      | true =>
        rw [c, if_pos rfl] at hun
        have sS : sm [(10, 10, some 4)] X (sI X 10 4 (nI (s + 1))) := sm_rf.I (by rfl)
        have o := sS.on [(10, 10, some 1), (11, 11, none)] (by decide) (by decide)
        obtain ⟨X1, k1, k2, k3⟩ := ih (s + 1) f (sI X 10 4 (nI (s + 1))) (by omega) (by omega) (by omega) ((o.i 10 1 rfl).trans hx1) (fun j hj => (o.i 11 j rfl).trans (hT j hj)) (sI_at ..)
        refine ⟨X1, hun.trans k1, ?_, sS.tr k3⟩
        rw [if_pos ⟨hs, rfl⟩]; exact k2
      | false =>
        rw [c, if_neg (by decide)] at hun
        refine ⟨X, hun, ?_, sm_rf⟩
        rw [if_neg (fun w => by cases w.2)]; exact h4
/-- over letters -/
theorem k_lets {T : Nat → Int32} {L : Nat} (hL : L ≤ 600) (K : Mem → Option Mem) : ∀ (d s f : Nat) (X : Mem), L - s ≤ d → s ≤ L → d < f → X.1 10 1 = nI L → (∀ j, j < L → X.1 11 j = T j) → X.1 10 5 = nI s → ∃ X1, fX6_next_103 K f X = K X1 ∧ X1.1 10 5 = nI (rn (fun i => ltB (T i)) L d s) ∧ sm [(10, 10, some 5)] X X1 := by
  intro d
  induction d with
  | zero =>
    intro s f X h1 h2 hf hx1 hT h4
    obtain ⟨f, rfl⟩ : ∃ g, f = g + 1 := ⟨f - 1, by omega⟩
    refine ⟨X, ?_, h4, sm_rf⟩
    rw [fX6_next_103, hx1, h4, if_pos (nI_le (by omega) (by omega))]
  | succ d ih =>
    intro s f X h1 h2 hf hx1 hT h4
    obtain ⟨f, rfl⟩ : ∃ g, f = g + 1 := ⟨f - 1, by omega⟩
    by_cases e : s = L
    · subst e
      refine ⟨X, ?_, ?_, sm_rf⟩
      · rw [fX6_next_103, hx1, h4, if_pos (nI_le (Nat.le_refl _) (by omega))]
      · unfold rn
        rw [if_neg (by omega)]; exact h4
    · have hs : s < L := by omega
      have hun : fX6_next_103 K (f + 1) X = if ltB (T s) = true then fX6_next_103 K f (sI X 10 5 (nI (s + 1))) else K X := by
        rw [fX6_next_103, hx1, h4, if_neg (nI_ge hs (by omega)), k_letter hL hT hs, Option.bind_some, nx_eq, nI_s]
        cases ltB (T s) <;> rfl
      unfold rn
      cases c : ltB (T s) with
      | true =>
        rw [c, if_pos rfl] at hun
        have sS : sm [(10, 10, some 5)] X (sI X 10 5 (nI (s + 1))) := sm_rf.I (by rfl)
        have o := sS.on [(10, 10, some 1), (11, 11, none)] (by decide) (by decide)
        obtain ⟨X1, k1, k2, k3⟩ := ih (s + 1) f (sI X 10 5 (nI (s + 1))) (by omega) (by omega) (by omega) ((o.i 10 1 rfl).trans hx1) (fun j hj => (o.i 11 j rfl).trans (hT j hj)) (sI_at ..)
        refine ⟨X1, hun.trans k1, ?_, sS.tr k3⟩
        rw [if_pos ⟨hs, rfl⟩]; exact k2
      | false =>
        rw [c, if_neg (by decide)] at hun
        refine ⟨X, hun, ?_, sm_rf⟩
        rw [if_neg (fun w => by cases w.2)]; exact h4
/-- over digits, with their number -/
theorem k_digs {T : Nat → Int32} {L a : Nat} (hL : L ≤ 600) (K : Mem → Option Mem) : ∀ (d s f : Nat) (X : Mem), L - s ≤ d → a ≤ s → s ≤ L → d < f → X.1 10 1 = nI L → (∀ j, j < L → X.1 11 j = T j) → X.1 10 5 = nI s → X.1 10 6 = nI (nvF T a (s - a)) → ∃ X1, fX6_next_159 K f X = K X1 ∧ X1.1 10 5 = nI (rn (fun i => dgB (T i)) L d s) ∧ X1.1 10 6 = nI (nvF T a (rn (fun i => dgB (T i)) L d s - a)) ∧ sm [(10, 10, some 5), (10, 10, some 6)] X X1 := by
  intro d
  induction d with
  | zero =>
    intro s f X h1 ha h2 hf hx1 hT h4 h6
    obtain ⟨f, rfl⟩ : ∃ g, f = g + 1 := ⟨f - 1, by omega⟩
    refine ⟨X, ?_, h4, h6, sm_rf⟩
    rw [fX6_next_159, hx1, h4, if_pos (nI_le (by omega) (by omega))]
  | succ d ih =>
    intro s f X h1 ha h2 hf hx1 hT h4 h6
    obtain ⟨f, rfl⟩ : ∃ g, f = g + 1 := ⟨f - 1, by omega⟩
    by_cases e : s = L
    · subst e
      have er : rn (fun i => dgB (T i)) s (d + 1) s = s := by
        unfold rn
        rw [if_neg (by omega)]
      refine ⟨X, ?_, by rw [er]; exact h4, by rw [er]; exact h6, sm_rf⟩
      rw [fX6_next_159, hx1, h4, if_pos (nI_le (Nat.le_refl _) (by omega))]
    · have hs : s < L := by omega
      have ii := inb_nI (show s < 600 by omega) (by decide)
      cases c : dgB (T s) with
      | false =>
        have er : rn (fun i => dgB (T i)) L (d + 1) s = s := by
          unfold rn
          rw [if_neg (fun w => by rw [c] at w; cases w.2)]
        refine ⟨X, ?_, by rw [er]; exact h4, by rw [er]; exact h6, sm_rf⟩
        rw [fX6_next_159, hx1, h4, if_neg (nI_ge hs (by omega)), k_digit hL hT hs, Option.bind_some, c, if_pos (show bI false = 0 from rfl)]
      | true =>
        have er : rn (fun i => dgB (T i)) L (d + 1) s = rn (fun i => dgB (T i)) L d (s + 1) := by
          show (if s < L ∧ dgB (T s) = true then _ else _) = _
          rw [if_pos ⟨hs, c⟩]
        obtain ⟨g1, g2⟩ := dg_nat c
        have nb := nvF_le T a (s - a)
        have val : imin 1000 (nI (nvF T a (s - a)) * 10 + T s - 48) = nI (nvF T a (s + 1 - a)) := by
          have e1 : nI (nvF T a (s - a)) * 10 + T s - 48 = nI (nvF T a (s - a) * 10 + ix (T s - 48)) := by
            generalize ix (T s - 48) = x at g1 g2
            rw [g2, show (10 : Int32) = nI 10 from rfl, pk_mul, nI_add, show (48 : Int32) = nI 48 from rfl, pk_sub (by omega)]
            congr 1
          have e2 : nvF T a (s + 1 - a) = min 1000 (nvF T a (s - a) * 10 + ix (T s - 48)) := by
            rw [show s + 1 - a = (s - a) + 1 by omega]
            show min 1000 (nvF T a (s - a) * 10 + ix (T (a + (s - a)) - 48)) = _
            rw [show a + (s - a) = s by omega]
          rw [e1, e2, fa_eq, imin_i, nI_toInt (by omega), nI_toInt (by omega)]
          have k1 : (1000 : Int32).toInt = 1000 := rfl
          rw [k1]
          split <;> omega
        generalize hY : sI (sI X 10 6 (nI (nvF T a (s + 1 - a)))) 10 5 (nI (s + 1)) = Y
        have sY : sm [(10, 10, some 5), (10, 10, some 6)] X Y := by rw [← hY]; exact (sm_rf.I (by rfl)).I (by rfl)
        have oY := sY.on [(10, 10, some 1), (11, 11, none)] (by decide) (by decide)
        have hun : fX6_next_159 K (f + 1) X = fX6_next_159 K f Y := by
          rw [fX6_next_159, hx1, h4, if_neg (nI_ge hs (by omega)), k_digit hL hT hs, Option.bind_some, c, if_neg (show ¬ bI true = 0 by decide), if_pos ii, nx_eq, nx_eq, ix_nI (by omega), hT s hs, h6, val]
          have : (sI X 10 6 (nI (nvF T a (s + 1 - a)))).1 10 5 = nI s := by rw [sI_nj _ _ (by decide)]; exact h4
          rw [this, nI_s, hY]
        obtain ⟨X1, k1, k2, k3, k4⟩ := ih (s + 1) f Y (by omega) (by omega) (by omega) (by omega) ((oY.i 10 1 rfl).trans hx1) (fun j hj => (oY.i 11 j rfl).trans (hT j hj)) (by rw [← hY]; exact sI_at ..) (by rw [← hY, sI_nj _ _ (by decide), sI_at])
        exact ⟨X1, hun.trans k1, by rw [er]; exact k2, by rw [er]; exact k3, sY.tr k4⟩
/-- on to the next token -/
theorem k_next {T : Nat → Int32} {L e : Nat} {X : Mem} (hL : L ≤ 600) (he : e ≤ L) (hx1 : X.1 10 1 = nI L) (hT : ∀ j, j < L → X.1 11 j = T j) (h5 : X.1 10 5 = nI e) : ∃ X1, fX6_next X = some X1 ∧ CS T L (skS T L e) X1 ∧ sm rgNx X X1 := by
  unfold fX6_next
  rw [nx_eq, h5]
  have s0 : sm rgNx X (sI X 10 4 (nI e)) := sm_rf.I (by rfl)
  have o0 := s0.on [(10, 10, some 1), (11, 11, none)] (by decide) (by decide)
  obtain ⟨A, a1, a2, a3⟩ := k_skip hL fX6_next_60 (L - e) e FU (sI X 10 4 (nI e)) (Nat.le_refl _) he (FU_gt (by omega)) ((o0.i 10 1 rfl).trans hx1) (fun j hj => (o0.i 11 j rfl).trans (hT j hj)) (sI_at ..)
  rw [a1]
  have sA : sm rgNx X A := s0.tr (a3.up (by decide))
  have oA := sA.on [(10, 10, some 1), (11, 11, none)] (by decide) (by decide)
  have A1 : A.1 10 1 = nI L := (oA.i 10 1 rfl).trans hx1
  have AT : ∀ j, j < L → A.1 11 j = T j := fun j hj => (oA.i 11 j rfl).trans (hT j hj)
  have a2 : A.1 10 4 = nI (skS T L e) := a2
  obtain ⟨sl1, sl2⟩ := sk_le (T := T) he
  generalize hs : skS T L e = s at *
  unfold fX6_next_60 fX6_next_246
  rw [nx_eq, a2]
  generalize hB : sI A 10 5 (nI s) = B
  have sB : sm rgNx X B := by rw [← hB]; exact sA.I (by rfl)
  have oB := sB.on [(10, 10, some 1), (11, 11, none)] (by decide) (by decide)
  have B1 : B.1 10 1 = nI L := (oB.i 10 1 rfl).trans hx1
  have BT : ∀ j, j < L → B.1 11 j = T j := fun j hj => (oB.i 11 j rfl).trans (hT j hj)
  have B4 : B.1 10 4 = nI s := by rw [← hB, sI_nj _ _ (by decide)]; exact a2
  have B5 : B.1 10 5 = nI s := by rw [← hB]; exact sI_at ..
  rw [B4, B1]
  by_cases c : s < L
  · rw [if_pos ((nI_ltJ (by omega) (by omega)).mpr c), k_letter hL BT c, Option.bind_some, k_digit hL BT c, Option.bind_some]
    have nx0 : ∀ Y : Mem, sm [(10, 10, some 3), (10, 10, some 5), (10, 10, some 6)] B Y → sm rgNx X Y ∧ (Y.1 10 1 = nI L ∧ ∀ j, j < L → Y.1 11 j = T j) ∧ Y.1 10 4 = nI s := by
      intro Y hY
      have o := hY.on [(10, 10, some 1), (10, 10, some 4), (11, 11, none)] (by decide) (by decide)
      exact ⟨sB.tr (hY.up (by decide)), ⟨(o.i 10 1 rfl).trans B1, fun j hj => (o.i 11 j rfl).trans (BT j hj)⟩, (o.i 10 4 rfl).trans B4⟩
    cases c1 : ltB (T s) with
    | true =>
      rw [if_neg (show ¬ bI true = 0 by decide), nx_eq]
      have kds : kd T L s = 2 := by unfold kd; rw [if_pos c, if_pos c1]
      have tks : tkE T L s = rn (fun i => ltB (T i)) L (L - s) s := by unfold tkE; rw [if_pos c, if_pos c1]
      have sC : sm [(10, 10, some 3), (10, 10, some 5), (10, 10, some 6)] B (sI B 10 3 2) := sm_rf.I (by rfl)
      obtain ⟨-, ⟨C1, CT'⟩, C4⟩ := nx0 _ sC
      obtain ⟨D, d1, d2, d3⟩ := k_lets hL fX6_next_246 (L - s) s FU (sI B 10 3 2) (Nat.le_refl _) (by omega) (FU_gt (by omega)) C1 CT' (by rw [sI_nj _ _ (by decide)]; exact B5)
      have sD : sm [(10, 10, some 3), (10, 10, some 5), (10, 10, some 6)] B D := sC.tr (d3.up (by decide))
      obtain ⟨w1, w2, w3⟩ := nx0 D sD
      refine ⟨D, d1, ⟨w2, w3, by rw [tks]; exact d2, ?_, fun w => by rw [kds] at w; exact absurd w (by decide)⟩, w1⟩
      rw [kds, (d3.on [(10, 10, some 3)] (by decide) (by decide)).i 10 3 rfl, sI_at]
    | false =>
      rw [if_pos (show bI false = 0 from rfl)]
      cases c2 : dgB (T s) with
      | true =>
        rw [if_neg (show ¬ bI true = 0 by decide), nx_eq]
        have kds : kd T L s = 3 := by unfold kd; rw [if_pos c, if_neg (by rw [c1]; decide), if_pos c2]
        have tks : tkE T L s = rn (fun i => dgB (T i)) L (L - s) s := by unfold tkE; rw [if_pos c, if_neg (by rw [c1]; decide), if_pos c2]
        rw [nx_eq]
        have sC : sm [(10, 10, some 3), (10, 10, some 5), (10, 10, some 6)] B (sI (sI B 10 3 3) 10 6 0) := (sm_rf.I (by rfl)).I (by rfl)
        obtain ⟨-, ⟨C1, CT'⟩, C4⟩ := nx0 _ sC
        obtain ⟨D, d1, d2, d3, d4⟩ := k_digs (a := s) hL fX6_next_246 (L - s) s FU (sI (sI B 10 3 3) 10 6 0) (Nat.le_refl _) (Nat.le_refl _) (by omega) (FU_gt (by omega)) C1 CT' (by rw [sI_nj _ _ (by decide), sI_nj _ _ (by decide)]; exact B5) (by rw [Nat.sub_self, sI_at]; rfl)
        have sD : sm [(10, 10, some 3), (10, 10, some 5), (10, 10, some 6)] B D := sC.tr (d4.up (by decide))
        obtain ⟨w1, w2, w3⟩ := nx0 D sD
        refine ⟨D, d1, ⟨w2, w3, by rw [tks]; exact d2, ?_, fun _ => by unfold nvN; rw [tks]; exact d3⟩, w1⟩
        rw [kds, (d4.on [(10, 10, some 3)] (by decide) (by decide)).i 10 3 rfl, sI_nj _ _ (by decide), sI_at]
      | false =>
        rw [if_pos (show bI false = 0 from rfl)]
        have ii := inb_nI (show s < 600 by omega) (by decide)
        have tks : tkE T L s = s + 1 := by unfold tkE; rw [if_pos c, if_neg (by rw [c1]; decide), if_neg (by rw [c2]; decide)]
        have kds : kd T L s = if T s = 47 then 4 else if T s = 59 then 5 else 1 := by unfold kd; rw [if_pos c, if_neg (by rw [c1]; decide), if_neg (by rw [c2]; decide)]
        have sg : fX6_signAt B (nI s) = some (kd T L s) := by
          unfold fX6_signAt fX6_signAt_29
          rw [if_pos ii, if_pos ii, ix_nI (by omega), BT s c, kds]
          by_cases q1 : T s = 47
          · rw [if_pos q1, if_pos q1]
          · rw [if_neg q1, if_neg q1]
            by_cases q2 : T s = 59
            · rw [if_pos q2, if_pos q2]
            · rw [if_neg q2, if_neg q2]
        rw [sg, Option.bind_some, nx_eq, nx_eq]
        have b5 : (sI B 10 3 (kd T L s)).1 10 5 = nI s := by rw [sI_nj _ _ (by decide)]; exact B5
        rw [b5, nI_s]
        have sD : sm [(10, 10, some 3), (10, 10, some 5), (10, 10, some 6)] B (sI (sI B 10 3 (kd T L s)) 10 5 (nI (s + 1))) := (sm_rf.I (by rfl)).I (by rfl)
        obtain ⟨w1, w2, w3⟩ := nx0 _ sD
        refine ⟨_, rfl, ⟨w2, w3, by rw [tks]; exact sI_at .., by rw [sI_nj _ _ (by decide), sI_at], fun w => ?_⟩, w1⟩
        rw [kds] at w
        by_cases q1 : T s = 47
        · rw [if_pos q1] at w; exact absurd w (by decide)
        · rw [if_neg q1] at w
          by_cases q2 : T s = 59
          · rw [if_pos q2] at w; exact absurd w (by decide)
          · rw [if_neg q2] at w; exact absurd w (by decide)
  · rw [if_neg (fun w => c ((nI_ltJ (by omega) (by omega)).mp w)), nx_eq]
    have kds : kd T L s = 0 := by unfold kd; rw [if_neg c]
    have tks : tkE T L s = s := by unfold tkE; rw [if_neg c]
    have sD : sm [(10, 10, some 3)] B (sI B 10 3 0) := sm_rf.I (by rfl)
    have o := sD.on [(10, 10, some 1), (10, 10, some 4), (10, 10, some 5), (11, 11, none)] (by decide) (by decide)
    refine ⟨_, rfl, ⟨⟨(o.i 10 1 rfl).trans B1, fun j hj => (o.i 11 j rfl).trans (BT j hj)⟩, (o.i 10 4 rfl).trans B4, by rw [tks]; exact (o.i 10 5 rfl).trans B5, by rw [kds]; exact sI_at .., fun w => by rw [kds] at w; exact absurd w (by decide)⟩, sB.tr (sD.up (by decide))⟩
