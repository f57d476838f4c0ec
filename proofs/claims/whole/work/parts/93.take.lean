/-! the class takes a piece -/
def BF (W R : Nat → Bool) (a s K : Nat) (X : Mem) (b : Nat) : Prop := ∃ cur : Nat → Bool, (∀ q, q < 10000 → X.1 144 q = bI (cur q)) ∧ (∀ q, q < 10000 → cur q = true → R q = true) ∧ (∀ q, q < 10000 → R q = true → cur q = false → rc R a q ∧ ∃ i, s ≤ i ∧ i < b ∧ X.1 145 i = nI q) ∧ (∀ i, i < b → ∃ q, q < 10000 ∧ X.1 145 i = nI q ∧ W q = true ∧ cur q = false) ∧ (∀ i, s ≤ i → i < b → ∃ q, q < 10000 ∧ X.1 145 i = nI q ∧ R q = true ∧ rc R a q) ∧ b + fb_ct cur 10000 = K
theorem BF.le {W R : Nat → Bool} {a s K b : Nat} {X : Mem} (h : BF W R a s K X b) : b ≤ K := by
  obtain ⟨cur, -, -, -, -, -, h⟩ := h
  omega
theorem k_takePoint {W R : Nat → Bool} {a s K b pt : Nat} {X : Mem} (h : BF W R a s K X b) (hK : K ≤ 10000) (hs : s ≤ b) (hRW : ∀ q, q < 10000 → R q = true → W q = true) (hp : pt < 10000) (hr : R pt = true → rc R a pt) : ∃ X1 b1, fX1_takePoint (nI pt) (nI b) X = some (nI b1, X1) ∧ BF W R a s K X1 b1 ∧ b ≤ b1 ∧ X1.1 144 pt = 0 ∧ (∀ q, X.1 144 q = 0 → X1.1 144 q = 0) ∧ (∀ i, i < b → X1.1 145 i = X.1 145 i) ∧ (X.1 144 pt ≠ 0 → b1 = b + 1 ∧ X1.1 145 b = nI pt) ∧ sm [(144, 145, none)] X X1 := by
  obtain ⟨cur, h1, h2, h3, h4, h5, h6⟩ := id h
  have ip := inb_nI hp (by decide)
  unfold fX1_takePoint fX1_takePoint_16
  rw [if_pos ip, ix_nI (by omega)]
  cases c : cur pt with
  | false =>
    have z : X.1 144 pt = 0 := by rw [h1 pt hp, c]; rfl
    rw [if_pos z]
    exact ⟨X, b, rfl, h, Nat.le_refl _, z, fun _ w => w, fun _ _ => rfl, fun w => absurd z w, sm_rf⟩
  | true =>
    have nz : ¬ X.1 144 pt = 0 := by rw [h1 pt hp, c]; decide
    have pos : 0 < fb_ct cur 10000 := fb_ct_pos.mpr ⟨pt, hp, c⟩
    have bl : b < 10000 := by omega
    rw [if_neg nz, if_pos (show nI b < 10000 from (nI_ltJ (b := 10000) (by omega) (by omega)).mpr bl), if_pos ip, nx_eq, if_pos (inb_nI bl (by decide)), nx_eq, ix_nI (by omega), nI_s]
    have e0 : ((0 : Int32) &&& 1) = 0 := by decide
    rw [e0]
    have r144 : ∀ q, (sI (sI X 144 pt 0) 145 b (nI pt)).1 144 q = if q = pt then 0 else X.1 144 q := by
      intro q
      rw [sI_nk _ _ (show (144 : Nat) ≠ 145 by decide)]
      by_cases e : q = pt
      · rw [e, sI_at, if_pos rfl]
      · rw [sI_nj _ _ e, if_neg e]
    have r145 : ∀ i, (sI (sI X 144 pt 0) 145 b (nI pt)).1 145 i = if i = b then nI pt else X.1 145 i := by
      intro i
      by_cases e : i = b
      · rw [e, sI_at, if_pos rfl]
      · rw [sI_nj _ _ e, if_neg e, sI_nk _ _ (show (145 : Nat) ≠ 144 by decide)]
    have rp := h2 pt hp c
    refine ⟨_, b + 1, rfl, ⟨fun q => if q = pt then false else cur q, fun q hq => ?_, fun q hq w => ?_, fun q hq w1 w2 => ?_, fun i hi => ?_, fun i hi1 hi2 => ?_, ?_⟩, by omega, ?_, fun q w => ?_, fun i hi => ?_, fun _ => ⟨rfl, ?_⟩, (sm_rf.I (by rfl)).I (by rfl)⟩
    · rw [r144]
      by_cases e : q = pt
      · simp [e, bI]
      · simp [e]; exact h1 q hq
    · by_cases e : q = pt
      · rw [e]; exact rp
      · simp [e] at w; exact h2 q hq w
    · by_cases e : q = pt
      · rw [e]
        exact ⟨hr rp, b, hs, by omega, by rw [r145, if_pos rfl]⟩
      · simp [e] at w2
        obtain ⟨k1, i, k2, k3, k4⟩ := h3 q hq w1 w2
        exact ⟨k1, i, k2, by omega, by rw [r145, if_neg (by omega)]; exact k4⟩
    · by_cases e : i = b
      · exact ⟨pt, hp, by rw [r145, if_pos e], hRW pt hp rp, by simp⟩
      · obtain ⟨q, k1, k2, k3, k4⟩ := h4 i (by omega)
        refine ⟨q, k1, by rw [r145, if_neg e]; exact k2, k3, ?_⟩
        by_cases e2 : q = pt
        · simp [e2]
        · simp [e2]; exact k4
    · by_cases e : i = b
      · exact ⟨pt, hp, by rw [r145, if_pos e], rp, hr rp⟩
      · obtain ⟨q, k1, k2, k3⟩ := h5 i hi1 (by omega)
        exact ⟨q, k1, by rw [r145, if_neg e]; exact k2, k3⟩
    · have u := fb_ct_upd cur false hp
      rw [c, if_pos rfl, if_neg (by decide)] at u
      omega
    · rw [r144, if_pos rfl]
    · rw [r144]
      by_cases e : q = pt
      · rw [if_pos e]
      · rw [if_neg e]; exact w
    · rw [r145, if_neg (by omega)]
    · rw [r145, if_pos rfl]
/-- done: all beside what stands before t in the queue are taken -/
def DN (X : Mem) (s t : Nat) : Prop := ∀ i pt, s ≤ i → i < t → X.1 145 i = nI pt → pt < 10000 → ∀ q, q < 10000 → adj pt q → X.1 144 q = 0
theorem BF.end_ {W R : Nat → Bool} {a s K b : Nat} {X : Mem} (h : BF W R a s K X b) (hd : DN X s b) (ha : a < 10000) (hRa : R a = true) (h0 : X.1 144 a = 0) : (∀ q, q < 10000 → X.1 144 q = bI (R q && !(rcB R a q))) ∧ b + fb_ct (fun q => R q && !(rcB R a q)) 10000 = K := by
  obtain ⟨cur, h1, h2, h3, h4, h5, h6⟩ := h
  have key : ∀ q, q < 10000 → cur q = (R q && !(rcB R a q)) := by
    intro q hq
    cases c : R q with
    | false =>
      cases w : cur q with
      | false => rfl
      | true => rw [h2 q hq w] at c; cases c
    | true =>
      cases w : cur q with
      | false =>
        rw [rcB_t.mpr (h3 q hq c w).1]
        rfl
      | true =>
        cases z : rcB R a q with
        | false => rfl
        | true =>
          exfalso
          have := rcB_t.mp z (fun x => x < 10000 ∧ R x = true ∧ cur x = false) ⟨ha, hRa, by have := h1 a ha; rw [h0] at this; exact (bI_0 _).mp this.symm⟩ (fun p q hp hq hR had => by
            obtain ⟨-, i, i1, i2, i3⟩ := h3 p hp.1 hp.2.1 hp.2.2
            have := hd i p i1 i2 i3 hp.1 q hq had
            rw [h1 q hq] at this
            exact ⟨hq, hR, (bI_0 _).mp this⟩)
          rw [w] at this
          cases this.2.2
  refine ⟨fun q hq => by rw [h1 q hq, key q hq], ?_⟩
  rw [fb_ct_cong (q := cur) (fun q hq => (key q hq).symm)]
  exact h6
theorem k_takeLoop {W R : Nat → Bool} {a s K : Nat} (hK : K ≤ 10000) (hRW : ∀ q, q < 10000 → R q = true → W q = true) (Kt : Int32 → Mem → Option (Int32 × Mem)) : ∀ (d t b f : Nat) (X : Mem), 10000 - t = d → d < f → s ≤ t → t ≤ b → BF W R a s K X b → DN X s t → ∃ X1 b1, fX1_takePiece_10 Kt f (nI b) (nI t) X = Kt (nI b1) X1 ∧ BF W R a s K X1 b1 ∧ DN X1 s b1 ∧ b ≤ b1 ∧ (∀ q, X.1 144 q = 0 → X1.1 144 q = 0) ∧ (∀ i, i < b → X1.1 145 i = X.1 145 i) ∧ sm [(144, 145, none)] X X1 := by
  intro d
  induction d with
  | zero =>
    intro t b f X hd hf hst htb hB hDN
    obtain ⟨f, rfl⟩ : ∃ g, f = g + 1 := ⟨f - 1, by omega⟩
    have bl := hB.le
    have e : t = b := by omega
    subst e
    refine ⟨X, t, ?_, hB, hDN, Nat.le_refl _, fun _ w => w, fun _ _ => rfl, sm_rf⟩
    rw [fX1_takePiece_10, if_pos (nI_le (Nat.le_refl _) (by omega))]
  | succ d ih =>
    intro t b f X hd hf hst htb hB hDN
    obtain ⟨f, rfl⟩ : ∃ g, f = g + 1 := ⟨f - 1, by omega⟩
    have bl := hB.le
    by_cases e : t = b
    · subst e
      refine ⟨X, t, ?_, hB, hDN, Nat.le_refl _, fun _ w => w, fun _ _ => rfl, sm_rf⟩
      rw [fX1_takePiece_10, if_pos (nI_le (Nat.le_refl _) (by omega))]
    · have tb' : t < b := by omega
      have e10 : (10000 : Int32) = nI 10000 := rfl
      have it := inb_nI (show t < 10000 by omega) (by decide)
      obtain ⟨cur, -, -, -, -, h5, -⟩ := id hB
      obtain ⟨pt, p1, p2, p3, p4⟩ := h5 t hst tb'
      -- one neighbour after the other
      have one : ∀ (Y : Mem) (c : Nat) (g : Bool) (nb : Nat) (x : Int32), BF W R a s K Y c → b ≤ c → (g = true → nb < 10000 ∧ adj pt nb ∧ x = nI nb) → ∀ (L : Int32 → Mem → Option (Int32 × Mem)), ∃ Y1 c1, (if g = true then (fX1_takePoint x (nI c) Y).bind (fun q => L q.1 q.2) else L (nI c) Y) = L (nI c1) Y1 ∧ BF W R a s K Y1 c1 ∧ c ≤ c1 ∧ (g = true → Y1.1 144 nb = 0) ∧ (∀ q, Y.1 144 q = 0 → Y1.1 144 q = 0) ∧ (∀ i, i < c → Y1.1 145 i = Y.1 145 i) ∧ sm [(144, 145, none)] Y Y1 := by
        intro Y c g nb x hY hbc hg L
        cases g with
        | false => exact ⟨Y, c, rfl, hY, Nat.le_refl _, (fun w => by cases w), fun _ w => w, fun _ _ => rfl, sm_rf⟩
        | true =>
          obtain ⟨n1, n2, rfl⟩ := hg rfl
          obtain ⟨Y1, c1, y1, y2, y3, y4, y5, y6, -, y7⟩ := k_takePoint hY hK (by omega) hRW n1 (fun w => rc_st p4 n1 w n2)
          refine ⟨Y1, c1, ?_, y2, y3, fun _ => y4, y5, y6, y7⟩
          rw [if_pos rfl, y1, Option.bind_some]
      -- the four of them
      have m100 : irm (nI pt) 100 = nI (pt % 100) := irm100 (by omega)
      obtain ⟨Y1, c1, a1, a2, a3, a4, a5, a6, a7⟩ := one X b (decide (0 < pt % 100)) (pt - 1) (nI pt - 1) hB (Nat.le_refl _) (fun w => by
        have w := of_decide_eq_true w
        exact ⟨by omega, Or.inr (Or.inl ⟨by omega, by omega⟩), pk_sub (a := pt) (b := 1) (by omega)⟩) (fun y Y => fX1_takePiece_51 (fX1_takePiece_10 Kt f) Kt y (nI t) (nI pt) Y)
      obtain ⟨Y2, c2, b1, b2, b3, b4, b5, b6, b7⟩ := one Y1 c1 (decide (pt % 100 < 99)) (pt + 1) (nI pt + 1) a2 a3 (fun w => by
        have w := of_decide_eq_true w
        exact ⟨by omega, Or.inl ⟨rfl, by omega⟩, nI_s pt⟩) (fun y Y => fX1_takePiece_71 (fX1_takePiece_10 Kt f) Kt y (nI t) (nI pt) Y)
      obtain ⟨Y3, c3, d1, d2, d3, d4, d5, d6, d7⟩ := one Y2 c2 (decide (100 ≤ pt)) (pt - 100) (nI pt - 100) b2 (by omega) (fun w => by
        have w := of_decide_eq_true w
        exact ⟨by omega, Or.inr (Or.inr (Or.inr (by omega))), pk_sub (a := pt) (b := 100) (by omega)⟩) (fun y Y => fX1_takePiece_89 (fX1_takePiece_10 Kt f) Kt y (nI t) (nI pt) Y)
      obtain ⟨Y4, c4, g1, g2, g3, g4, g5, g6, g7⟩ := one Y3 c3 (decide (pt < 9900)) (pt + 100) (nI pt + 100) d2 (by omega) (fun w => by
        have w := of_decide_eq_true w
        exact ⟨by omega, Or.inr (Or.inr (Or.inl rfl)), by rw [show (100 : Int32) = nI 100 from rfl, nI_add]⟩) (fun y Y => fX1_takePiece_108 (fX1_takePiece_10 Kt f) Kt y (nI t) Y)
      have hun : fX1_takePiece_10 Kt (f + 1) (nI b) (nI t) X = fX1_takePiece_10 Kt f (nI c4) (nI (t + 1)) Y4 := by
        rw [fX1_takePiece_10, if_neg (nI_ge tb' (by omega)), e10, if_neg (nI_ge (show t < 10000 by omega) (by omega)), if_pos it, nx_eq, ix_nI (by omega), p2, m100]
        refine Eq.trans ?_ (a1.trans ?_)
        · by_cases w : 0 < pt % 100
          · rw [if_neg (show ¬ nI (pt % 100) ≤ 0 from nI_ge (a := 0) (by omega) (by omega)), decide_eq_true w, if_pos rfl]
            rfl
          · rw [if_pos (show nI (pt % 100) ≤ 0 from nI_le (b := 0) (by omega) (by omega)), decide_eq_false w]
            rfl
        · refine Eq.trans ?_ (b1.trans ?_)
          · unfold fX1_takePiece_51
            rw [m100, show (99 : Int32) = nI 99 from rfl]
            by_cases w : pt % 100 < 99
            · rw [if_neg (nI_ge w (by omega)), decide_eq_true w, if_pos rfl]
              rfl
            · rw [if_pos (nI_le (by omega) (by omega)), decide_eq_false w]
              rfl
          · refine Eq.trans ?_ (d1.trans ?_)
            · unfold fX1_takePiece_71
              by_cases w : 100 ≤ pt
              · rw [if_neg (show ¬ nI pt < 100 by rw [show (100 : Int32) = nI 100 from rfl, nI_ltJ (by omega) (by omega)]; omega), decide_eq_true w, if_pos rfl]
                rfl
              · rw [if_pos (show nI pt < 100 by rw [show (100 : Int32) = nI 100 from rfl, nI_ltJ (by omega) (by omega)]; omega), decide_eq_false w]
                rfl
            · refine Eq.trans ?_ (g1.trans ?_)
              · unfold fX1_takePiece_89
                rw [show (9900 : Int32) = nI 9900 from rfl]
                by_cases w : pt < 9900
                · rw [if_neg (nI_ge w (by omega)), decide_eq_true w, if_pos rfl]
                  rfl
                · rw [if_pos (nI_le (by omega) (by omega)), decide_eq_false w]
                  rfl
              · unfold fX1_takePiece_108
                rw [nx_eq, nI_s]
      have q145 : ∀ i, i < b → Y4.1 145 i = X.1 145 i := fun i hi => by rw [g6 i (by omega), d6 i (by omega), b6 i (by omega), a6 i hi]
      have mono : ∀ q, X.1 144 q = 0 → Y4.1 144 q = 0 := fun q w => g5 q (d5 q (b5 q (a5 q w)))
      have dn : DN Y4 s (t + 1) := by
        intro i x hi1 hi2 hi3 hx q hq had
        by_cases e2 : i = t
        · rw [e2, q145 t tb', p2] at hi3
          have ex : x = pt := ((nI_eq (by omega) (by omega)).mp hi3).symm
          subst ex
          rcases had with ⟨w1, w2⟩ | ⟨w1, w2⟩ | w1 | w1
          · subst w1; exact g5 _ (d5 _ (b4 (decide_eq_true (by omega))))
          · have eq : q = x - 1 := by omega
            subst eq; exact g5 _ (d5 _ (b5 _ (a4 (decide_eq_true (by omega)))))
          · subst w1; exact g4 (decide_eq_true (by omega))
          · have eq : q = x - 100 := by omega
            subst eq; exact g5 _ (d4 (decide_eq_true (by omega)))
        · rw [q145 i (by omega)] at hi3
          exact mono q (hDN i x hi1 (by omega) hi3 hx q hq had)
      obtain ⟨X1, b1', r1, r2, r3, r4, r5, r6, r7⟩ := ih (t + 1) c4 f Y4 (by omega) (by omega) (by omega) (by omega) g2 dn
      exact ⟨X1, b1', hun.trans r1, r2, r3, by omega, fun q w => r5 q (mono q w), fun i hi => by rw [r6 i (by omega), q145 i hi], (((a7.tr b7).tr d7).tr g7).tr r7⟩
theorem k_takePiece {W R : Nat → Bool} {a s K : Nat} {X : Mem} (hK : K ≤ 10000) (hRW : ∀ q, q < 10000 → R q = true → W q = true) (ha : a < 10000) (hRa : R a = true) (hX : ∀ q, q < 10000 → X.1 144 q = bI (R q)) (hQ : ∀ i, i < s → ∃ q, q < 10000 ∧ X.1 145 i = nI q ∧ W q = true ∧ R q = false) (hs : s + fb_ct R 10000 = K) :
    ∃ X1 b1, fX1_takePiece (nI a) (nI s) X = some (nI b1, X1) ∧ (∀ q, q < 10000 → X1.1 144 q = bI (R q && !(rcB R a q))) ∧ b1 + fb_ct (fun q => R q && !(rcB R a q)) 10000 = K ∧ s < b1 ∧ X1.1 145 s = nI a ∧ (∀ i, i < s → X1.1 145 i = X.1 145 i) ∧ (∀ i, i < b1 → ∃ q, q < 10000 ∧ X1.1 145 i = nI q ∧ W q = true ∧ (R q && !(rcB R a q)) = false) ∧ (∀ q, q < 10000 → R q = true → rcB R a q = true → ∃ i, i < b1 ∧ X1.1 145 i = nI q) ∧ sm [(144, 145, none)] X X1 := by
  have B0 : BF W R a s K X s := ⟨R, hX, fun _ _ w => w, (fun q hq w1 w2 => by rw [w1] at w2; cases w2), hQ, fun i h1 h2 => absurd h2 (by omega), hs⟩
  unfold fX1_takePiece
  have nz : X.1 144 a ≠ 0 := by rw [hX a ha, hRa]; decide
  obtain ⟨Y, c, y1, y2, y3, y4, y5, y6, y8, y7⟩ := k_takePoint B0 hK (Nat.le_refl _) hRW ha (fun _ => rc_rf _ _)
  obtain ⟨e1, e2⟩ := y8 nz
  subst e1
  rw [y1, Option.bind_some, nx_eq]
  obtain ⟨X1, b1, r1, r2, r3, r4, r5, r6, r7⟩ := k_takeLoop hK hRW fX1_takePiece_114 (10000 - s) s (s + 1) FU Y rfl (by have := FU_gt (n := 10000) (by omega); omega) (Nat.le_refl _) (by omega) y2 (fun i pt h1 h2 => absurd h2 (by omega))
  obtain ⟨k1, k2⟩ := r2.end_ r3 ha hRa (r5 a y4)
  refine ⟨X1, b1, r1, k1, k2, by omega, by rw [r6 s (by omega)]; exact e2, fun i hi => by rw [r6 i (by omega), y6 i hi], fun i hi => ?_, fun q hq h1 h2 => ?_, y7.tr r7⟩
  · obtain ⟨cur, c1, -, -, c4, -⟩ := r2
    obtain ⟨q, q1, q2, q3, q4⟩ := c4 i hi
    refine ⟨q, q1, q2, q3, ?_⟩
    have := c1 q q1
    rw [k1 q q1, q4] at this
    cases w : (R q && !(rcB R a q)) with
    | false => rfl
    | true => rw [w] at this; exact absurd this (by decide)
  · obtain ⟨cur, c1, -, c3, -⟩ := r2
    have : cur q = false := by
      have := c1 q hq
      rw [k1 q hq, h1, h2] at this
      cases w : cur q with
      | false => rfl
      | true => rw [w] at this; exact absurd this (by decide)
    obtain ⟨-, i, -, i2, i3⟩ := c3 q hq h1 this
    exact ⟨i, i2, i3⟩
