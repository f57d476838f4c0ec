/-! the reference floods a piece -/
def BR (R : Nat → Bool) (F : Nat → Int32) (a k K : Nat) (X : Mem) (b : Nat) : Prop := ∃ cur : Nat → Bool, (∀ q, q < 10000 → (cur q = true ↔ X.1 85 q = -2)) ∧ (∀ q, q < 10000 → cur q = true → R q = true) ∧ (∀ q, q < 10000 → R q = true → cur q = false → X.1 85 q = nI k ∧ rc R a q ∧ ∃ i, i < b ∧ X.1 86 i = nI q) ∧ (∀ q, q < 10000 → R q = false → X.1 85 q = F q) ∧ (∀ i, i < b → ∃ q, q < 10000 ∧ X.1 86 i = nI q ∧ R q = true ∧ rc R a q) ∧ b + fb_ct cur 10000 = K
theorem nI_nn2 {m : Nat} (h : m < 2147483648) : ¬ nI m = -2 := by
  intro q
  have := (fa_eq _ _).mp q
  rw [nI_toInt h] at this
  have z : (-2 : Int32).toInt = -2 := rfl
  omega
theorem BR.le {R : Nat → Bool} {F : Nat → Int32} {a k K b : Nat} {X : Mem} (h : BR R F a k K X b) : b ≤ K := by
  obtain ⟨cur, -, -, -, -, -, h⟩ := h
  omega
theorem e_tk {R : Nat → Bool} {F : Nat → Int32} {a k K b nb : Nat} {X : Mem} (h : BR R F a k K X b) (hK : K ≤ 10000) (hk : k < 5000) (hp : nb < 10000) (hr : R nb = true → rc R a nb) (k52 : Int32 → Int32 → Int32 → Int32 → Int32 → Int32 → Mem → Option Mem) (k185 : Int32 → Int32 → Int32 → Mem → Option Mem) (x4 x5 x6 x7 : Int32) : ∃ X1 b1, fX11_floods_115 k52 k185 (nI k) (nI b) x4 x5 x6 x7 (nI (nb / 100)) (nI (nb % 100)) X = fX11_floods_179 k52 k185 (nI k) (nI b1) x4 x5 x6 x7 X1 ∧ BR R F a k K X1 b1 ∧ b ≤ b1 ∧ X1.1 85 nb ≠ -2 ∧ (∀ q, X.1 85 q ≠ -2 → X1.1 85 q ≠ -2) ∧ (∀ i, i < b → X1.1 86 i = X.1 86 i) ∧ sm [(85, 86, none)] X X1 := by
  obtain ⟨cur, h1, h2, h3, h4, h5, h6⟩ := id h
  have ip := inb_nI hp (by decide)
  have ei : 100 * nI (nb / 100) + nI (nb % 100) = nI nb := by
    rw [show (100 : Int32) = nI 100 from rfl, pk_mul, nI_add]
    congr 1
    omega
  have hpt : isPt (nI (nb / 100)) (nI (nb % 100)) = true := by
    unfold isPt
    rw [inN_nI (show nb / 100 < 100 by omega) (by decide), inN_nI (show nb % 100 < 100 by omega) (by decide)]
    rfl
  unfold fX11_floods_115
  rw [e_isPoint, hpt, Option.bind_some, if_neg (by decide), ei, if_pos ip, ix_nI (by omega)]
  by_cases c : X.1 85 nb = -2
  · have cc : cur nb = true := (h1 nb hp).mpr c
    have pos : 0 < fb_ct cur 10000 := fb_ct_pos.mpr ⟨nb, hp, cc⟩
    have bl : b < 10000 := by omega
    have rp := h2 nb hp cc
    rw [if_pos c, if_pos ip, nx_eq, if_pos (inb_nI bl (by decide)), nx_eq, nx_eq, ix_nI (by omega), nI_s]
    have r85 : ∀ q, (sI (sI X 85 nb (nI k)) 86 b (nI nb)).1 85 q = if q = nb then nI k else X.1 85 q := by
      intro q
      rw [sI_nk _ _ (show (85 : Nat) ≠ 86 by decide)]
      by_cases e : q = nb
      · rw [e, sI_at, if_pos rfl]
      · rw [sI_nj _ _ e, if_neg e]
    have r86 : ∀ i, (sI (sI X 85 nb (nI k)) 86 b (nI nb)).1 86 i = if i = b then nI nb else X.1 86 i := by
      intro i
      by_cases e : i = b
      · rw [e, sI_at, if_pos rfl]
      · rw [sI_nj _ _ e, if_neg e, sI_nk _ _ (show (86 : Nat) ≠ 85 by decide)]
    have kn : ¬ nI k = -2 := nI_nn2 (by omega)
    refine ⟨_, b + 1, rfl, ⟨fun q => if q = nb then false else cur q, fun q hq => ?_, fun q hq w => ?_, fun q hq w1 w2 => ?_, fun q hq w => ?_, fun i hi => ?_, ?_⟩, by omega, ?_, fun q w => ?_, fun i hi => ?_, (sm_rf.I (by rfl)).I (by rfl)⟩
    · rw [r85]
      by_cases e : q = nb
      · simp [e, kn]
      · simp [e]; exact h1 q hq
    · by_cases e : q = nb
      · rw [e]; exact rp
      · simp [e] at w; exact h2 q hq w
    · by_cases e : q = nb
      · rw [e]
        exact ⟨by rw [r85, if_pos rfl], hr rp, b, by omega, by rw [r86, if_pos rfl]⟩
      · simp [e] at w2
        obtain ⟨k1, k2, i, k3, k4⟩ := h3 q hq w1 w2
        exact ⟨by rw [r85, if_neg e]; exact k1, k2, i, by omega, by rw [r86, if_neg (by omega)]; exact k4⟩
    · rw [r85, if_neg (fun e => by rw [e, rp] at w; cases w)]
      exact h4 q hq w
    · by_cases e : i = b
      · exact ⟨nb, hp, by rw [r86, if_pos e], rp, hr rp⟩
      · obtain ⟨q, k1, k2, k3⟩ := h5 i (by omega)
        exact ⟨q, k1, by rw [r86, if_neg e]; exact k2, k3⟩
    · have u := fb_ct_upd cur false hp
      rw [cc, if_pos rfl, if_neg (by decide)] at u
      omega
    · rw [r85, if_pos rfl]; exact kn
    · rw [r85]
      by_cases e : q = nb
      · rw [if_pos e]; exact kn
      · rw [if_neg e]; exact w
    · rw [r86, if_neg (by omega)]
  · rw [if_neg c]
    exact ⟨X, b, rfl, h, Nat.le_refl _, c, fun _ w => w, fun _ _ => rfl, sm_rf⟩
theorem e_out (k52 : Int32 → Int32 → Int32 → Int32 → Int32 → Int32 → Mem → Option Mem) (k185 : Int32 → Int32 → Int32 → Mem → Option Mem) (x2 x3 x4 x5 x6 x7 x8 s0 : Int32) (X : Mem) (h : isPt x8 s0 = false) : fX11_floods_115 k52 k185 x2 x3 x4 x5 x6 x7 x8 s0 X = fX11_floods_179 k52 k185 x2 x3 x4 x5 x6 x7 X := by
  unfold fX11_floods_115
  rw [e_isPoint, h, Option.bind_some, if_pos (by decide)]
/-- the points beside one, in the reference's order -/
def nbG (pt s : Nat) : Bool := if s = 0 then decide (100 ≤ pt) else if s = 1 then decide (pt < 9900) else if s = 2 then decide (0 < pt % 100) else decide (pt % 100 < 99)
def nbQ (pt s : Nat) : Nat := if s = 0 then pt - 100 else if s = 1 then pt + 100 else if s = 2 then pt - 1 else pt + 1
theorem pt_off {x y : Int32} (h : (x.toInt < 0 ∨ 100 ≤ x.toInt) ∨ (y.toInt < 0 ∨ 100 ≤ y.toInt)) : isPt x y = false := by
  unfold isPt
  cases c1 : inN x 100 with
  | false => rfl
  | true =>
    cases c2 : inN y 100 with
    | false => rfl
    | true =>
      have := inN_i.mp c1
      have := inN_i.mp c2
      omega
theorem e_nb {R : Nat → Bool} {F : Nat → Int32} {a k K b pt s : Nat} {X : Mem} (h : BR R F a k K X b) (hK : K ≤ 10000) (hk : k < 5000) (hp : pt < 10000) (hr : rc R a pt) (hs : s < 4) (k185 : Int32 → Int32 → Int32 → Mem → Option Mem) (f : Nat) (x4 : Int32) : ∃ X1 b1, fX11_floods_52 k185 (f + 1) (nI k) (nI b) x4 (nI (pt / 100)) (nI (pt % 100)) (nI s) X = fX11_floods_52 k185 f (nI k) (nI b1) x4 (nI (pt / 100)) (nI (pt % 100)) (nI (s + 1)) X1 ∧ BR R F a k K X1 b1 ∧ b ≤ b1 ∧ (nbG pt s = true → X1.1 85 (nbQ pt s) ≠ -2) ∧ (∀ q, X.1 85 q ≠ -2 → X1.1 85 q ≠ -2) ∧ (∀ i, i < b → X1.1 86 i = X.1 86 i) ∧ sm [(85, 86, none)] X X1 := by
  have e1 : (1 : Int32).toInt = 1 := rfl
  have sx : (nI (pt / 100) - 1).toInt = ((pt / 100 : Nat) : Int) - 1 := pk_sub_toInt (a := pt / 100) (b := 1) (by omega) (by omega)
  have sy : (nI (pt % 100) - 1).toInt = ((pt % 100 : Nat) : Int) - 1 := pk_sub_toInt (a := pt % 100) (b := 1) (by omega) (by omega)
  have base : ∃ u w : Int32, fX11_floods_52 k185 (f + 1) (nI k) (nI b) x4 (nI (pt / 100)) (nI (pt % 100)) (nI s) X = fX11_floods_115 (fX11_floods_52 k185 f) k185 (nI k) (nI b) x4 (nI (pt / 100)) (nI (pt % 100)) (nI s) u w X ∧ ((nbG pt s = true ∧ nbQ pt s < 10000 ∧ adj pt (nbQ pt s) ∧ u = nI (nbQ pt s / 100) ∧ w = nI (nbQ pt s % 100)) ∨ (nbG pt s = false ∧ isPt u w = false)) := by
    have : s = 0 ∨ s = 1 ∨ s = 2 ∨ s = 3 := by omega
    rw [fX11_floods_52, show (4 : Int32) = nI 4 from rfl, if_neg (nI_ge hs (by omega))]
    unfold fX11_floods_85
    rcases this with rfl | rfl | rfl | rfl
    · rw [if_pos (by decide), if_neg (by decide), if_neg (by decide)]
      refine ⟨_, _, rfl, ?_⟩
      unfold nbG nbQ
      simp only [if_true]
      by_cases c : 100 ≤ pt
      · left
        refine ⟨decide_eq_true c, by omega, Or.inr (Or.inr (Or.inr (by omega))), ?_, ?_⟩
        · rw [show (pt - 100) / 100 = pt / 100 - 1 by omega]; exact pk_sub (a := pt / 100) (b := 1) (by omega)
        · congr 1; omega
      · right
        exact ⟨decide_eq_false c, pt_off (Or.inl (Or.inl (by rw [sx]; omega)))⟩
    · rw [if_neg (by decide), if_pos (by decide), if_neg (by decide), if_neg (by decide)]
      refine ⟨_, _, rfl, ?_⟩
      unfold nbG nbQ
      simp only [Nat.one_ne_zero, if_false, if_true]
      by_cases c : pt < 9900
      · left
        refine ⟨decide_eq_true c, by omega, Or.inr (Or.inr (Or.inl rfl)), ?_, ?_⟩
        · rw [nI_s]; congr 1; omega
        · congr 1; omega
      · right
        refine ⟨decide_eq_false c, pt_off (Or.inl (Or.inr ?_))⟩
        rw [nI_s, nI_toInt (by omega)]
        omega
    · rw [if_neg (by decide), if_neg (by decide), if_pos (by decide)]
      refine ⟨_, _, rfl, ?_⟩
      have d0 : nbG pt 2 = decide (0 < pt % 100) := rfl
      have d1 : nbQ pt 2 = pt - 1 := rfl
      rw [d0, d1]
      by_cases c : 0 < pt % 100
      · left
        refine ⟨decide_eq_true c, by omega, Or.inr (Or.inl ⟨by omega, by omega⟩), ?_, ?_⟩
        · congr 1; omega
        · rw [show (pt - 1) % 100 = pt % 100 - 1 by omega]; exact pk_sub (a := pt % 100) (b := 1) (by omega)
      · right
        exact ⟨decide_eq_false c, pt_off (Or.inr (Or.inl (by rw [sy]; omega)))⟩
    · rw [if_neg (by decide), if_neg (by decide), if_neg (by decide), if_pos (by decide)]
      refine ⟨_, _, rfl, ?_⟩
      have d0 : nbG pt 3 = decide (pt % 100 < 99) := rfl
      have d1 : nbQ pt 3 = pt + 1 := rfl
      rw [d0, d1]
      by_cases c : pt % 100 < 99
      · left
        refine ⟨decide_eq_true c, by omega, Or.inl ⟨rfl, by omega⟩, ?_, ?_⟩
        · congr 1; omega
        · rw [nI_s]; congr 1; omega
      · right
        refine ⟨decide_eq_false c, pt_off (Or.inr (Or.inr ?_))⟩
        rw [nI_s, nI_toInt (by omega)]
        omega
  obtain ⟨u, w, b1, b2⟩ := base
  rcases b2 with ⟨g1, g2, g3, rfl, rfl⟩ | ⟨g1, g2⟩
  · obtain ⟨X1, c1, y1, y2, y3, y4, y5, y6, y7⟩ := e_tk h hK hk g2 (fun z => rc_st hr g2 z g3) (fX11_floods_52 k185 f) k185 x4 (nI (pt / 100)) (nI (pt % 100)) (nI s)
    refine ⟨X1, c1, ?_, y2, y3, fun _ => y4, y5, y6, y7⟩
    rw [b1, y1]
    unfold fX11_floods_179
    rw [nx_eq, nI_s]
  · refine ⟨X, b, ?_, h, Nat.le_refl _, (fun z => by rw [g1] at z; cases z), fun _ z => z, fun _ _ => rfl, sm_rf⟩
    rw [b1, e_out _ _ _ _ _ _ _ _ _ _ _ g2]
    unfold fX11_floods_179
    rw [nx_eq, nI_s]
def DNR (X : Mem) (t : Nat) : Prop := ∀ i pt, i < t → X.1 86 i = nI pt → pt < 10000 → ∀ q, q < 10000 → adj pt q → X.1 85 q ≠ -2
theorem e_floodLoop {R : Nat → Bool} {F : Nat → Int32} {a k K : Nat} (hK : K ≤ 10000) (hk : k < 5000) (Kt : Mem → Option Mem) : ∀ (d t b f : Nat) (X : Mem), 10000 - t = d → d < f → t ≤ b → BR R F a k K X b → DNR X t → ∃ X1 b1, fX11_floods_19 Kt f (nI k) (nI b) (nI t) X = Kt X1 ∧ BR R F a k K X1 b1 ∧ DNR X1 b1 ∧ (∀ q, X.1 85 q ≠ -2 → X1.1 85 q ≠ -2) ∧ sm [(85, 86, none)] X X1 := by
  intro d
  induction d with
  | zero =>
    intro t b f X hd hf htb hB hDN
    obtain ⟨f, rfl⟩ : ∃ g, f = g + 1 := ⟨f - 1, by omega⟩
    have bl := hB.le
    have e : t = b := by omega
    subst e
    refine ⟨X, t, ?_, hB, hDN, fun _ w => w, sm_rf⟩
    rw [fX11_floods_19, if_pos (nI_le (Nat.le_refl _) (by omega))]
  | succ d ih =>
    intro t b f X hd hf htb hB hDN
    obtain ⟨f, rfl⟩ : ∃ g, f = g + 1 := ⟨f - 1, by omega⟩
    have bl := hB.le
    by_cases e : t = b
    · subst e
      refine ⟨X, t, ?_, hB, hDN, fun _ w => w, sm_rf⟩
      rw [fX11_floods_19, if_pos (nI_le (Nat.le_refl _) (by omega))]
    · have tb' : t < b := by omega
      have it := inb_nI (show t < 10000 by omega) (by decide)
      obtain ⟨cur, -, -, -, -, h5, -⟩ := id hB
      obtain ⟨pt, p1, p2, p3, p4⟩ := h5 t tb'
      have hun : fX11_floods_19 Kt (f + 1) (nI k) (nI b) (nI t) X = fX11_floods_52 (fX11_floods_185 (fX11_floods_19 Kt f) Kt) FU (nI k) (nI b) (nI t) (nI (pt / 100)) (nI (pt % 100)) (nI 0) X := by
        rw [fX11_floods_19, if_neg (nI_ge tb' (by omega)), if_pos it, nx_eq, if_pos it, nx_eq, ix_nI (by omega), p2, irm100 (by omega), div100 (by omega)]
        rfl
      have hh := for_ex (σ := Nat × Mem) (fun f2 s x => fX11_floods_52 (fX11_floods_185 (fX11_floods_19 Kt f) Kt) f2 (nI k) (nI x.1) (nI t) (nI (pt / 100)) (nI (pt % 100)) s x.2) (fun x => fX11_floods_19 Kt f (nI k) (nI x.1) (nI (t + 1)) x.2) 4
        (fun s x => BR R F a k K x.2 x.1 ∧ b ≤ x.1 ∧ (∀ r, r < s → nbG pt r = true → x.2.1 85 (nbQ pt r) ≠ -2) ∧ (∀ q, X.1 85 q ≠ -2 → x.2.1 85 q ≠ -2) ∧ (∀ i, i < b → x.2.1 86 i = X.1 86 i) ∧ sm [(85, 86, none)] X x.2) ?_ ?_ (b, X) ⟨hB, Nat.le_refl _, fun r h => absurd h (by omega), fun _ w => w, fun _ _ => rfl, sm_rf⟩ FU (FU_gt (by omega))
      · obtain ⟨⟨c, Y⟩, y1, y2, y3, y4, y5, y6, y7⟩ := hh
        have y2 : BR R F a k K Y c := y2
        have y3 : b ≤ c := y3
        have y4 : ∀ r, r < 4 → nbG pt r = true → Y.1 85 (nbQ pt r) ≠ -2 := y4
        have y5 : ∀ q, X.1 85 q ≠ -2 → Y.1 85 q ≠ -2 := y5
        have y6 : ∀ i, i < b → Y.1 86 i = X.1 86 i := y6
        have dn : DNR Y (t + 1) := by
          intro i x hi hx hxl q hq had
          by_cases e2 : i = t
          · rw [e2, y6 t tb', p2] at hx
            have ex : x = pt := ((nI_eq (by omega) (by omega)).mp hx).symm
            subst ex
            rcases had with ⟨w1, w2⟩ | ⟨w1, w2⟩ | w1 | w1
            · subst w1; exact y4 3 (by omega) (show decide (x % 100 < 99) = true from decide_eq_true (by omega))
            · have eq : q = x - 1 := by omega
              subst eq; exact y4 2 (by omega) (show decide (0 < x % 100) = true from decide_eq_true (by omega))
            · subst w1; exact y4 1 (by omega) (show decide (x < 9900) = true from decide_eq_true (by omega))
            · have eq : q = x - 100 := by omega
              subst eq; exact y4 0 (by omega) (show decide (100 ≤ x) = true from decide_eq_true (by omega))
          · rw [y6 i (by omega)] at hx
            exact y5 q (hDN i x (by omega) hx hxl q hq had)
        obtain ⟨X1, b1, r1, r2, r3, r4, r5⟩ := ih (t + 1) c f Y (by omega) (by omega) (by omega) y2 dn
        exact ⟨X1, b1, hun.trans (Eq.trans y1 r1), r2, r3, fun q w => r4 q (y5 q w), (show sm [(85, 86, none)] X Y from y7).tr r5⟩
      · rintro f2 s ⟨c, Y⟩ hs ⟨g1, g2, g3, g4, g5, g6⟩
        have g1 : BR R F a k K Y c := g1
        have g2 : b ≤ c := g2
        have g3 : ∀ r, r < s → nbG pt r = true → Y.1 85 (nbQ pt r) ≠ -2 := g3
        have g4 : ∀ q, X.1 85 q ≠ -2 → Y.1 85 q ≠ -2 := g4
        have g5 : ∀ i, i < b → Y.1 86 i = X.1 86 i := g5
        obtain ⟨Y1, c1, z1, z2, z3, z4, z5, z6, z7⟩ := e_nb g1 hK hk p1 p4 hs (fX11_floods_185 (fX11_floods_19 Kt f) Kt) f2 (nI t)
        refine ⟨(c1, Y1), z1, z2, by show b ≤ c1; omega, fun r hr hg => ?_, fun q w => z5 q (g4 q w), fun i hi => ?_, (show sm [(85, 86, none)] X Y from g6).tr z7⟩
        · by_cases e2 : r = s
          · subst e2; exact z4 hg
          · exact z5 _ (g3 r (by omega) hg)
        · show Y1.1 86 i = _
          rw [z6 i (by omega), g5 i hi]
      · rintro f2 ⟨c, Y⟩ -
        show fX11_floods_52 _ (f2 + 1) _ _ _ _ _ (nI 4) Y = _
        rw [fX11_floods_52, show (4 : Int32) = nI 4 from rfl, if_pos (nI_le (Nat.le_refl _) (by omega))]
        unfold fX11_floods_185
        rw [nx_eq, nI_s]
theorem e_floods {R : Nat → Bool} {a k : Nat} {X : Mem} (hk : k < 5000) (ha : a < 10000) (hRa : R a = true) (hX : ∀ q, q < 10000 → (R q = true ↔ X.1 85 q = -2)) : ∃ X1, fX11_floods (nI a) (nI k) X = some X1 ∧ (∀ q, q < 10000 → X1.1 85 q = if (R q && rcB R a q) = true then nI k else X.1 85 q) ∧ sm [(85, 86, none)] X X1 := by
  unfold fX11_floods
  rw [nx_eq, if_pos (inb_nI ha (by decide)), nx_eq, ix_nI (by omega), show ix (0 : Int32) = 0 from rfl]
  generalize hY : sI (sI X 86 0 (nI a)) 85 a (nI k) = Y
  have sY : sm [(85, 86, none)] X Y := by rw [← hY]; exact (sm_rf.I (by rfl)).I (by rfl)
  have y85 : ∀ q, Y.1 85 q = if q = a then nI k else X.1 85 q := by
    intro q
    rw [← hY]
    by_cases e : q = a
    · rw [e, sI_at, if_pos rfl]
    · rw [sI_nj _ _ e, sI_nk _ _ (show (85 : Nat) ≠ 86 by decide), if_neg e]
  have y86 : Y.1 86 0 = nI a := by rw [← hY, sI_nk _ _ (show (86 : Nat) ≠ 85 by decide), sI_at]
  have kn : ¬ nI k = -2 := nI_nn2 (by omega)
  have B0 : BR R (X.1 85) a k (fb_ct R 10000) Y 1 := by
    refine ⟨fun q => if q = a then false else R q, fun q hq => ?_, fun q hq w => ?_, fun q hq w1 w2 => ?_, fun q hq w => ?_, fun i hi => ?_, ?_⟩
    · rw [y85]
      by_cases e : q = a
      · simp [e, kn]
      · simp [e]; exact hX q hq
    · by_cases e : q = a
      · rw [e]; exact hRa
      · simp [e] at w; exact w
    · by_cases e : q = a
      · rw [e]; exact ⟨by rw [y85, if_pos rfl], rc_rf _ _, 0, by omega, y86⟩
      · simp [e] at w2; rw [w1] at w2; cases w2
    · rw [y85, if_neg (fun e => by rw [e, hRa] at w; cases w)]
    · have : i = 0 := by omega
      rw [this]
      exact ⟨a, ha, y86, hRa, rc_rf _ _⟩
    · have u := fb_ct_upd R false ha
      rw [hRa, if_pos rfl, if_neg (by decide)] at u
      omega
  have cR := fb_ct_le R 10000
  obtain ⟨X1, b1, r1, r2, r3, r4, r5⟩ := e_floodLoop cR hk fX11_floods_191 10000 0 1 FU Y rfl (FU_gt (by omega)) (by omega) B0 (fun i pt h => absurd h (by omega))
  refine ⟨X1, r1, fun q hq => ?_, sY.tr r5⟩
  obtain ⟨cur, h1, h2, h3, h4, h5, h6⟩ := r2
  cases c : R q with
  | false =>
    rw [h4 q hq c]
    simp
  | true =>
    cases z : rcB R a q with
    | true =>
      have := rcB_t.mp z (fun x => x < 10000 ∧ R x = true ∧ cur x = false) ⟨ha, hRa, by
        cases w : cur a with
        | false => rfl
        | true => exact absurd ((h1 a ha).mp w) (r4 a (by rw [y85, if_pos rfl]; exact kn))⟩ (fun p q hp hq hR had => by
          obtain ⟨-, -, i, i2, i3⟩ := h3 p hp.1 hp.2.1 hp.2.2
          have := r3 i p i2 i3 hp.1 q hq had
          refine ⟨hq, hR, ?_⟩
          cases w : cur q with
          | false => rfl
          | true => exact absurd ((h1 q hq).mp w) this)
      rw [(h3 q hq c this.2.2).1]
      simp
    | false =>
      have cq : cur q = true := by
        cases w : cur q with
        | true => rfl
        | false =>
          have := rcB_t.mpr (h3 q hq c w).2.1
          rw [z] at this; cases this
      rw [(h1 q hq).mp cq, (hX q hq).mp c]
      simp
