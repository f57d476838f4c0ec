/-! Round, and the reference's far -/
def top3 (t : Int32 × Int32 × Int32) (a : Nat) : Int64 := (t.1.toInt64 * (nI (a / 100)).toInt64 + t.2.1.toInt64 * (nI (a % 100)).toInt64 - t.2.2.toInt64) * (t.1.toInt64 * (nI (a / 100)).toInt64 + t.2.1.toInt64 * (nI (a % 100)).toInt64 - t.2.2.toInt64)
def bot3 (t : Int32 × Int32 × Int32) : Int64 := t.1.toInt64 * t.1.toInt64 + t.2.1.toInt64 * t.2.1.toInt64
theorem sqb {z : Int} (h1 : -40000 ≤ z) (h2 : z ≤ 40000) : 0 ≤ z * z ∧ z * z ≤ 1600000000 := by
  refine ⟨sq_nn z, ?_⟩
  by_cases c : 0 ≤ z
  · have e1 : z * z ≤ 40000 * z := Int.mul_le_mul_of_nonneg_right h2 c
    omega
  · have e1 : (-z) * (-z) ≤ 40000 * (-z) := Int.mul_le_mul_of_nonneg_right (by omega) (by omega)
    rw [Int.neg_mul_neg] at e1
    omega
theorem top_i {t : Int32 × Int32 × Int32} (ht : sm3 t) {a : Nat} (ha : a < 10000) : (top3 t a).toInt = tpL (un3 t) a ∧ 0 ≤ tpL (un3 t) a ∧ tpL (un3 t) a ≤ 1600000000 := by
  obtain ⟨a1, b1, c1⟩ := ht
  have hx : a / 100 < 100 := by omega
  have hy : a % 100 < 100 := by omega
  have tx : (nI (a / 100)).toInt = ((a / 100 : Nat) : Int) := nI_toInt (by omega)
  have ty : (nI (a % 100)).toInt = ((a % 100 : Nat) : Int) := nI_toInt (by omega)
  have q1 := pr_rng a1.1 a1.2 (show 0 ≤ ((a / 100 : Nat) : Int) by omega) (by omega)
  have q2 := pr_rng b1.1 b1.2 (show 0 ≤ ((a % 100 : Nat) : Int) by omega) (by omega)
  have m1 := mulW (a := t.1) (b := nI (a / 100)) (by rw [tx]; omega) (by rw [tx]; omega)
  have m2 := mulW (a := t.2.1) (b := nI (a % 100)) (by rw [ty]; omega) (by rw [ty]; omega)
  rw [tx] at m1
  rw [ty] at m2
  have s1 : (t.1.toInt64 * (nI (a / 100)).toInt64 + t.2.1.toInt64 * (nI (a % 100)).toInt64).toInt = t.1.toInt * ((a / 100 : Nat) : Int) + t.2.1.toInt * ((a % 100 : Nat) : Int) := by
    rw [fb_addL (by rw [m1, m2]; omega) (by rw [m1, m2]; omega), m1, m2]
  have c3 : t.2.2.toInt64.toInt = t.2.2.toInt := Int32.toInt_toInt64 _
  have s2 : (t.1.toInt64 * (nI (a / 100)).toInt64 + t.2.1.toInt64 * (nI (a % 100)).toInt64 - t.2.2.toInt64).toInt = t.1.toInt * ((a / 100 : Nat) : Int) + t.2.1.toInt * ((a % 100 : Nat) : Int) - t.2.2.toInt := by
    rw [fb_subL (by rw [s1, c3]; omega) (by rw [s1, c3]; omega), s1, c3]
  have b := sqb (z := t.1.toInt * ((a / 100 : Nat) : Int) + t.2.1.toInt * ((a % 100 : Nat) : Int) - t.2.2.toInt) (by omega) (by omega)
  have e : tpL (un3 t) a = (t.1.toInt * ((a / 100 : Nat) : Int) + t.2.1.toInt * ((a % 100 : Nat) : Int) - t.2.2.toInt) * (t.1.toInt * ((a / 100 : Nat) : Int) + t.2.1.toInt * ((a % 100 : Nat) : Int) - t.2.2.toInt) := rfl
  refine ⟨?_, by rw [e]; exact b.1, by rw [e]; exact b.2⟩
  unfold top3
  rw [fb_mulL (by rw [s2]; omega) (by rw [s2]; omega), s2]
  rfl
theorem bot_i {t : Int32 × Int32 × Int32} (ht : sm3 t) (ho : lnOk (un3 t)) : (bot3 t).toInt = btL (un3 t) ∧ 0 < btL (un3 t) ∧ btL (un3 t) ≤ 19602 := by
  obtain ⟨a1, b1, c1⟩ := ht
  have q1 := pr99 a1.1 a1.2 a1.1 a1.2
  have q2 := pr99 b1.1 b1.2 b1.1 b1.2
  have m1 := mulW (a := t.1) (b := t.1) (by omega) (by omega)
  have m2 := mulW (a := t.2.1) (b := t.2.1) (by omega) (by omega)
  have e : btL (un3 t) = t.1.toInt * t.1.toInt + t.2.1.toInt * t.2.1.toInt := rfl
  have n1 := sq_nn t.1.toInt
  have n2 := sq_nn t.2.1.toInt
  have p : 0 < btL (un3 t) := by
    rw [e]
    have h1 : (0 < t.1.toInt) ∨ (t.1.toInt = 0 ∧ 0 < t.2.1.toInt) := ho.1
    rcases h1 with h | ⟨-, h⟩
    · have := sq_pos (show t.1.toInt ≠ 0 by omega); omega
    · have := sq_pos (show t.2.1.toInt ≠ 0 by omega); omega
  refine ⟨?_, p, by rw [e]; omega⟩
  unfold bot3
  rw [fb_addL (by rw [m1, m2]; omega) (by rw [m1, m2]; omega), m1, m2]
  rfl
/-- a fraction small enough -/
def pqS (p q : Int) : Prop := (0 ≤ p ∧ p ≤ 1600000000) ∧ (0 < q ∧ q ≤ 19602)
theorem pq_mul {t q : Int} (h1 : 0 ≤ t) (h2 : t ≤ 1600000000) (h3 : 0 < q) (h4 : q ≤ 19602) : 0 ≤ t * q ∧ t * q ≤ 40000000000000 := by
  refine ⟨Int.mul_nonneg h1 (by omega), ?_⟩
  have e1 : t * q ≤ 1600000000 * q := Int.mul_le_mul_of_nonneg_right h2 (by omega)
  omega
theorem mulS {x y : Int64} (h1 : 0 ≤ x.toInt) (h2 : x.toInt ≤ 1600000000) (h3 : 0 < y.toInt) (h4 : y.toInt ≤ 19602) : (x * y).toInt = x.toInt * y.toInt := by
  have := pq_mul h1 h2 h3 h4
  exact fb_mulL (by omega) (by omega)
theorem k_below {M : Mem} {k a : Nat} (hk : k < 105) (ha : a < 10000) (ht : sm3 (rw3 M k)) (ho : lnOk (lo M k)) {p q : Int} (hp : (M.2 35 3).toInt = p) (hq : (M.2 35 4).toInt = q) (hs : pqS p q) :
    fX7_squareTop M (nI k) (nI (a / 100)) (nI (a % 100)) = some (top3 (rw3 M k) a) ∧ fX7_squareBottom M (nI k) = some (bot3 (rw3 M k)) ∧ fX7_isBelow M (nI k) (nI (a / 100)) (nI (a % 100)) = some (bI (decide (tpL (lo M k) a * q < p * btL (lo M k)))) := by
  have ik := inb_nI hk (by decide)
  have e1 : fX7_squareTop M (nI k) (nI (a / 100)) (nI (a % 100)) = some (top3 (rw3 M k) a) := by
    unfold fX7_squareTop
    simp only [ik, if_true, ix_nI (show k < 2147483648 by omega), nx_eq]
    rfl
  have e2 : fX7_squareBottom M (nI k) = some (bot3 (rw3 M k)) := by
    unfold fX7_squareBottom
    simp only [ik, if_true, ix_nI (show k < 2147483648 by omega)]
    rfl
  refine ⟨e1, e2, ?_⟩
  unfold fX7_isBelow fX7_isBelow_31
  rw [e1, e2, Option.bind_some, Option.bind_some]
  obtain ⟨t1, t2, t3⟩ := top_i ht ha
  obtain ⟨b1, b2, b3⟩ := bot_i ht ho
  obtain ⟨⟨p1, p2⟩, q1, q2⟩ := hs
  have m1 : (top3 (rw3 M k) a * M.2 35 4).toInt = tpL (lo M k) a * q := by
    rw [mulS (by omega) (by omega) (by omega) (by omega), t1, hq]; rfl
  have m2 : (M.2 35 3 * bot3 (rw3 M k)).toInt = p * btL (lo M k) := by
    rw [mulS (by omega) (by omega) (by omega) (by omega), b1, hp]; rfl
  have ge : (0 ≤ lg_cmp (top3 (rw3 M k) a * M.2 35 4) (M.2 35 3 * bot3 (rw3 M k))) ↔ ¬ tpL (lo M k) a * q < p * btL (lo M k) := by
    have := lg_lt (top3 (rw3 M k) a * M.2 35 4) (M.2 35 3 * bot3 (rw3 M k))
    rw [fa_lt64, m1, m2] at this
    rw [← this, fa_le, fa_lt]
    have z : (0 : Int32).toInt = 0 := rfl
    omega
  simp only [ge]
  by_cases c : tpL (lo M k) a * q < p * btL (lo M k)
  · simp [c, bI]
  · simp [c, bI]
def rgR4 : Rg := [(35, 35, some 1), (35, 35, some 2), (35, 35, some 3), (35, 35, some 4)]
/-- what the class's round stands at -/
def RS (M : Mem) (b : Nat) (p q : Int) : Prop := M.1 35 1 = nI (b / 100) ∧ M.1 35 2 = nI (b % 100) ∧ (M.2 35 3).toInt = p ∧ (M.2 35 4).toInt = q ∧ pqS p q
theorem k_settle {M : Mem} {r a : Nat} (hr : r ≤ 105) (h26 : M.1 26 4 = nI r) (ha : a < 10000) (hl : ∀ i, i < r → sm3 (rw3 M i) ∧ lnOk (lo M i)) : ∃ M1 p q, fX7_settleAt (nI (a / 100)) (nI (a % 100)) M = some M1 ∧ RS M1 a p q ∧ isMk (lo M) r a p q ∧ sm rgR4 M M1 := by
  unfold fX7_settleAt
  simp only [nx_eq]
  generalize hS : sL (sL (sI (sI M 35 1 (nI (a / 100))) 35 2 (nI (a % 100))) 35 3 0) 35 4 1 = S
  have sS : sm rgR4 M S := by rw [← hS]; exact (((sm_rf.I (by rfl)).I (by rfl)).Lg (by rfl)).Lg (by rfl)
  have r0 : RS S a 0 1 := by
    rw [← hS]
    refine ⟨by simp [sI, sL], by simp [sI, sL], ?_, ?_, ⟨by omega, by omega⟩⟩
    · have : (sL (sL (sI (sI M 35 1 (nI (a / 100))) 35 2 (nI (a % 100))) 35 3 0) 35 4 1).2 35 3 = 0 := by simp [sL]
      rw [this]; rfl
    · have : (sL (sL (sI (sI M 35 1 (nI (a / 100))) 35 2 (nI (a % 100))) 35 3 0) 35 4 1).2 35 4 = 1 := by simp [sL]
      rw [this]; rfl
  have hh := for_ex (σ := Mem) (fun f i s => fX7_settleAt_22 fX7_settleAt_69 f (nI (a / 100)) (nI (a % 100)) i s) (fun s => some s) r
    (fun i X => sm rgR4 M X ∧ ∃ p q, RS X a p q ∧ isMk (lo M) i a p q) ?_ ?_ S ⟨sS, 0, 1, r0, mk_0 _ _⟩ FU (FU_gt (by omega))
  · obtain ⟨M1, q1, q2, p, q, q3, q4⟩ := hh
    exact ⟨M1, p, q, q1, q3, q4, q2⟩
  · rintro f k X hk ⟨g1, p, q, g2, g3⟩
    have o := g1.on [(26, 29, none)] (by decide) (by decide)
    have el : lo X = lo M := lo_on (o.sub (by decide))
    have er : rw3 X k = rw3 M k := by unfold rw3; rw [o.i 27 k rfl, o.i 28 k rfl, o.i 29 k rfl]
    obtain ⟨w1, w2, w3, w4, w5⟩ := g2
    obtain ⟨u1, u2, u3⟩ := k_below (M := X) (k := k) (a := a) (by omega) ha (by rw [er]; exact (hl k hk).1) (by rw [el]; exact (hl k hk).2) w3 w4 w5
    rw [el] at u3
    have hun : fX7_settleAt_22 fX7_settleAt_69 (f + 1) (nI (a / 100)) (nI (a % 100)) (nI k) X = if tpL (lo M k) a * q < p * btL (lo M k) then fX7_settleAt_22 fX7_settleAt_69 f (nI (a / 100)) (nI (a % 100)) (nI (k + 1)) X else fX7_settleAt_22 fX7_settleAt_69 f (nI (a / 100)) (nI (a % 100)) (nI (k + 1)) (sL (sL X 35 3 (top3 (rw3 X k) a)) 35 4 (bot3 (rw3 X k))) := by
      rw [fX7_settleAt_22, o.i 26 4 rfl, h26, if_neg (nI_ge hk (by omega)), u3, Option.bind_some]
      have e3 : fX7_squareBottom (sL X 35 3 (top3 (rw3 X k) a)) (nI k) = some (bot3 (rw3 X k)) := u2
      unfold fX7_settleAt_63
      simp only [u1, Option.bind_some, nx_eq, nI_s, e3, bI_0]
      by_cases c : tpL (lo M k) a * q < p * btL (lo M k)
      · simp [c]
      · simp [c]
    by_cases c : tpL (lo M k) a * q < p * btL (lo M k)
    · rw [if_pos c] at hun
      exact ⟨X, hun, g1, p, q, ⟨w1, w2, w3, w4, w5⟩, mk_keep g3 (Int.le_of_lt c)⟩
    · rw [if_neg c] at hun
      obtain ⟨t1, t2, t3⟩ := top_i (hl k hk).1 ha
      obtain ⟨b1, b2, b3⟩ := bot_i (hl k hk).1 (hl k hk).2
      refine ⟨_, hun, (g1.Lg (by rfl)).Lg (by rfl), tpL (lo M k) a, btL (lo M k), ⟨w1, w2, ?_, ?_, ⟨t2, t3⟩, b2, b3⟩, mk_new g3 (fun i hi => (bot_i (hl i (by omega)).1 (hl i (by omega)).2).2.1) (by omega)⟩
      · have : (sL (sL X 35 3 (top3 (rw3 X k) a)) 35 4 (bot3 (rw3 X k))).2 35 3 = top3 (rw3 X k) a := by simp [sL]
        rw [this, er]; exact t1
      · have : (sL (sL X 35 3 (top3 (rw3 X k) a)) 35 4 (bot3 (rw3 X k))).2 35 4 = bot3 (rw3 X k) := by simp [sL]
        rw [this, er]; exact b1
  · rintro f X ⟨g1, -⟩
    have o := g1.on [(26, 29, none)] (by decide) (by decide)
    show fX7_settleAt_22 _ (f + 1) _ _ (nI r) X = _
    rw [fX7_settleAt_22, o.i 26 4 rfl, h26, if_pos (nI_le (Nat.le_refl _) (by omega))]
    rfl
theorem k_nearer {M : Mem} {r a y : Nat} {p q : Int} (hr : r ≤ 105) (h26 : M.1 26 4 = nI r) (ha : a < 10000) (hl : ∀ i, i < r → sm3 (rw3 M i) ∧ lnOk (lo M i)) (hp : (M.2 35 3).toInt = p) (hq : (M.2 35 4).toInt = q) (hs : pqS p q) (hy : M.1 35 5 = nI y) (hyr : y < r ∨ y = 0) :
    ∃ c M1, fX7_isNearer (nI (a / 100)) (nI (a % 100)) M = some (c, M1) ∧ (c = 0 ↔ ¬ (0 < r ∧ ∀ i, i < r → tpL (lo M i) a * q < p * btL (lo M i))) ∧ (∃ y1, M1.1 35 5 = nI y1 ∧ (y1 < r ∨ y1 = 0)) ∧ sm [(35, 35, some 5)] M M1 := by
  unfold fX7_isNearer fX7_isNearer_27
  rw [h26, hy]
  by_cases c0 : r ≤ y
  · rw [if_pos (nI_le c0 (by omega))]
    exact ⟨0, M, rfl, by simp; intro q; omega, ⟨y, hy, hyr⟩, sm_rf⟩
  · rw [if_neg (nI_ge (by omega) (by omega))]
    obtain ⟨-, -, u3⟩ := k_below (M := M) (k := y) (a := a) (by omega) ha (hl y (by omega)).1 (hl y (by omega)).2 hp hq hs
    rw [u3, Option.bind_some]
    by_cases c1 : tpL (lo M y) a * q < p * btL (lo M y)
    · rw [decide_eq_true c1, if_neg (by decide)]
      have hh := for_or (σ := Unit) (fun f i _ => fX7_isNearer_31 fX7_isNearer_52 fX7_isNearer_65 f (nI (a / 100)) (nI (a % 100)) i M) (fun _ => some ((1 : Int32), M)) (fun ρ => ∃ k, k < r ∧ ¬ tpL (lo M k) a * q < p * btL (lo M k) ∧ ρ = some ((0 : Int32), sI M 35 5 (nI k))) 0 r (by omega)
        (fun i _ => ∀ j, j < i → tpL (lo M j) a * q < p * btL (lo M j)) ?_ ?_ () (fun j h => absurd h (by omega)) FU (by have := FU_gt (n := r) (by omega); omega)
      · rcases hh with ⟨k, k1, k2, k3⟩ | ⟨-, k1, k2⟩
        · refine ⟨0, _, k3, ?_, ⟨k, sI_at .., Or.inl k1⟩, sm_rf.I (by rfl)⟩
          simp
          intro _
          exact ⟨k, k1, by omega⟩
        · refine ⟨1, M, k1, ?_, ⟨y, hy, hyr⟩, sm_rf⟩
          have h1 : 0 < r ∧ ∀ i, i < r → tpL (lo M i) a * q < p * btL (lo M i) := ⟨by omega, k2⟩
          exact ⟨fun w => absurd w (by decide), fun w => absurd h1 w⟩
      · rintro f k - - hk g
        obtain ⟨-, -, u4⟩ := k_below (M := M) (k := k) (a := a) (by omega) ha (hl k hk).1 (hl k hk).2 hp hq hs
        have hun : fX7_isNearer_31 fX7_isNearer_52 fX7_isNearer_65 (f + 1) (nI (a / 100)) (nI (a % 100)) (nI k) M = if tpL (lo M k) a * q < p * btL (lo M k) then fX7_isNearer_31 fX7_isNearer_52 fX7_isNearer_65 f (nI (a / 100)) (nI (a % 100)) (nI (k + 1)) M else some ((0 : Int32), sI M 35 5 (nI k)) := by
          rw [fX7_isNearer_31, h26, if_neg (nI_ge hk (by omega)), u4, Option.bind_some]
          unfold fX7_isNearer_52
          simp only [nx_eq, nI_s, bI_0]
          by_cases c : tpL (lo M k) a * q < p * btL (lo M k)
          · simp [c]
          · simp [c]
        by_cases c : tpL (lo M k) a * q < p * btL (lo M k)
        · right
          rw [if_pos c] at hun
          refine ⟨(), hun, fun j hj => ?_⟩
          by_cases e : j = k
          · rw [e]; exact c
          · exact g j (by omega)
        · left
          rw [if_neg c] at hun
          exact ⟨k, hk, c, hun⟩
      · rintro f - -
        show fX7_isNearer_31 _ _ (f + 1) _ _ (nI r) M = _
        rw [fX7_isNearer_31, h26, if_pos (nI_le (Nat.le_refl _) (by omega))]
        rfl
    · rw [decide_eq_false c1, if_pos (by decide)]
      refine ⟨0, M, rfl, ?_, ⟨y, hy, hyr⟩, sm_rf⟩
      simp
      intro _
      exact ⟨y, by omega, by omega⟩
