theorem SK_on {M M1 : Mem} {n p : Nat} (h : on [(1, 9, none), (40, 40, none)] M M1) (hs : SK M n p) : SK M1 n p := by
  intro e1 e2
  rw [h.i 40 9 rfl, h.i 1 14 rfl] at e1
  rw [h.i 40 10 rfl, h.i 1 15 rfl] at e2
  have := hs e1 e2
  unfold g40 at this ⊢
  rw [h.i 40 6 rfl, h.i 40 7 rfl, h.i 40 8 rfl, cD_on (h.sub (by decide)), cP_on (h.sub (by decide)), cB_on (h.sub (by decide))]
  exact this
theorem DK_on {M M1 : Mem} {p : Nat} (h : on [(1, 9, none), (21, 21, none), (22, 22, none), (24, 24, none)] M M1) (hk : DK M p) : DK M1 p := by
  intro e1 e2
  rw [h.i 21 7 rfl, h.i 1 14 rfl] at e1
  rw [h.i 21 8 rfl, h.i 1 15 rfl] at e2
  exact DC_on (h.sub (by decide)) (hk e1 e2)
/-- the states of two caches are as they were, or of now -/
def now (M M1 : Mem) (k a b : Nat) : Prop := (M1.1 k a = M.1 k a ∧ M1.1 k b = M.1 k b) ∨ (M1.1 k a = M.1 1 14 ∧ M1.1 k b = M.1 1 15)
theorem s_make {M : Mem} {n p : Nat} (h : DI M n p) (hk : DK M p) (hs : SK M n p) (a : Int32) : ∃ r M1, fX10_make a M = some (r, M1) ∧ fX11_make a M1 = some (r, M1) ∧ sm [(21, 25, none), (40, 42, none)] M M1 ∧ DK M1 p ∧ SK M1 n p ∧ now M M1 21 7 8 ∧ now M M1 40 9 10 := by
  have hp := h.p20
  have z0 : (0 : Int32).toInt = 0 := rfl
  have z2 : (2 : Int32).toInt = 2 := rfl
  cases ha : inN a 3 with
  | false =>
    refine ⟨-1, M, ?_, ?_, sm_rf, hk, hs, Or.inl ⟨rfl, rfl⟩, Or.inl ⟨rfl, rfl⟩⟩
    · unfold fX10_make fX10_make_9
      by_cases c0 : a < 0
      · rw [if_pos c0]
      · rw [if_neg c0, if_neg]
        intro c1
        have h1 := (fa_le _ _).mp c1
        have h2 : ¬ a.toInt < (0 : Int32).toInt := fun q => c0 ((fa_lt _ _).mpr q)
        have : inN a 3 = true := inN_i.mpr (by omega)
        rw [this] at ha; cases ha
    · unfold fX11_make
      rw [e_in, inN_lit a (k := 2) (by decide), ha]; rfl
  | true =>
    obtain ⟨A, a1, a2, a3, a4⟩ := k_ref h hk
    have oA := a4.1.on [(1, 9, none), (40, 40, none)] (by decide) (by decide)
    have sA : SK A n p := SK_on oA hs
    have kA : KB A n p (cD A) (cP A) (cB A) := ⟨a3.ci, rfl, rfl, rfl, a2.1⟩
    obtain ⟨M1, b1, b2, b3, b4, b5⟩ := k_findMove kA sA
    have o1 := b5.on [(1, 9, none), (21, 25, none), (50, 50, none), (53, 53, none), (56, 56, none), (59, 59, none), (62, 62, none), (65, 65, none), (68, 68, none), (71, 71, none), (73, 77, none)] (by decide) (by decide)
    have d1 : DI M1 n p := DI_on (o1.sub (by decide)) a3
    have eD1 : cD M1 = cD A := cD_on (o1.sub (by decide))
    have eP1 : cP M1 = cP A := cP_on (o1.sub (by decide))
    have eB1 : cB M1 = cB A := cB_on (o1.sub (by decide))
    obtain ⟨t, t1, t2⟩ := e_make24 d1 a
    rw [eD1, eP1, eB1, ← b2] at t2
    obtain ⟨j, hj, rfl⟩ := inN_of ha (by omega)
    have hj3 : j = 0 ∨ j = 1 ∨ j = 2 := by omega
    refine ⟨if j = 0 then M1.1 40 6 else if j = 1 then M1.1 40 7 else M1.1 40 8, M1, ?_, ?_, (a4.1.up (by decide)).tr (b5.up (by decide)), DK_on (o1.sub (by decide)) (fun _ _ => a2), fun _ _ => ?_, ?_, ?_⟩
    · unfold fX10_make
      rw [if_neg (by rw [fa_lt, nI_toInt (by omega)]; omega), if_pos (by rw [fa_le, nI_toInt (by omega)]; omega), a1, Option.bind_some, b1, Option.bind_some]
      rcases hj3 with rfl | rfl | rfl <;> rfl
    · unfold fX11_make
      rw [e_in, inN_lit _ (k := 2) (by decide), ha, Option.bind_some, if_neg (by decide), t1]
      unfold fX11_make_221 fX11_make_249
      obtain ⟨r1, r2, r3⟩ := t2
      have r1 : t.1 = M1.1 40 6 := r1
      have r2 : t.2.1 = M1.1 40 7 := r2
      rcases r3 with ⟨q1, q2, q3⟩ | ⟨q1, q2, q3⟩
      · have q1 : M1.1 40 6 = -1 := q1
        have q2 : M1.1 40 7 = -1 := q2
        have q3 : M1.1 40 8 = -1 := q3
        rw [r1, q1, if_pos rfl, q2, q3]
        simp
      · have q1 : M1.1 40 6 ≠ -1 := q1
        have q3 : t.2.2 = M1.1 40 8 := q3
        rw [r1, r2, q3, if_neg q1]
        rcases hj3 with rfl | rfl | rfl <;> rfl
    · rw [b2, eD1, eP1, eB1]
    · unfold now
      rw [o1.i 21 7 rfl, o1.i 21 8 rfl]
      exact a4.2.2
    · right
      rw [b3, b4, oA.i 1 14 rfl, oA.i 1 15 rfl]
      exact ⟨rfl, rfl⟩
/-! join: some voters at one place -/
def jn (J : Nat → Bool) (f : Nat → Int32) (x : Int32) : Nat → Int32 := fun j => if J j = true then x else f j
def jnD (D : Dt) (J : Nat → Bool) (x y : Int32) : Dt := (D.1, jn J D.2.1 x, jn J D.2.2.1 y, D.2.2.2)
theorem jn_way (D : Dt) (J : Nat → Bool) (x y : Int32) (v : Nat) (a b : Int32) : wayT (jnD D J x y) v a b = if J v = true then wayF D v x y a b else wayT D v a b := by
  unfold wayT wayF jnD jn
  by_cases c : J v = true
  · simp only [c, if_true]
  · simp only [c, if_false]
    simp
/-- what voter v adds, joined less unjoined -/
def dl (D : Dt) (v : Nat) (X Y x y ox oy : Int32) : Int32 := (if wayF D v X Y x y < wayF D v X Y ox oy then D.2.2.2.1 v else 0) - ctD D v x y ox oy
theorem smm_add (T U : Nat → Int32) : ∀ m, sm_ (fun v => T v + U v) m = sm_ T m + sm_ U m
  | 0 => rfl
  | m + 1 => by rw [smm_s, smm_s, smm_s, smm_add T U m]; ac_rfl
theorem for_join (D : Dt) (J : Nat → Bool) (X Y x y ox oy : Int32) : forD (jnD D J X Y) x y ox oy = forD D x y ox oy + sm_ (fun v => if J v = true then dl D v X Y x y ox oy else 0) D.1 := by
  rw [for_sum, for_sum, ← smm_add]
  show sm_ _ D.1 = _
  apply smm_congr
  intro v _
  unfold dl ctD
  rw [jn_way, jn_way]
  by_cases c : J v = true
  · simp only [c, if_true]
    generalize (if wayT D v x y < wayT D v ox oy then D.2.2.2.1 v else 0) = u
    show (if wayF D v X Y x y < wayF D v X Y ox oy then D.2.2.2.1 v else 0) = _
    generalize (if wayF D v X Y x y < wayF D v X Y ox oy then D.2.2.2.1 v else 0) = w
    rw [Int32.add_comm, Int32.sub_add_cancel]
  · simp only [c]
    simp
    rfl
