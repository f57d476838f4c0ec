/-! join, the class's side -/
def nw (D : Dt) (v : Nat) (X Y x y ox oy : Int32) : Int32 := if wayF D v X Y x y < wayF D v X Y ox oy then D.2.2.2.1 v else 0
theorem way_self (D : Dt) (v : Nat) (X Y : Int32) : wayF D v X Y X Y = 0 := by
  unfold wayF
  rw [Int32.sub_self, Int32.sub_self, show iabs 0 = 0 from rfl, Int32.zero_mul, Int32.zero_mul]
  unfold wy
  split
  · rfl
  · split
    · rfl
    · split
      · rfl
      · rfl
/-- who is at a place is rather for no other one -/
theorem way_z {M : Mem} {n p v q pl : Nat} (h : DI M n p) (hv : v < n) (hq : q < p) (hpl : pl < p) : ¬ wayF (cD M) v ((cP M).2.1 pl) ((cP M).2.2 pl) ((cP M).2.1 q) ((cP M).2.2 q) < wayF (cD M) v ((cP M).2.1 pl) ((cP M).2.2 pl) ((cP M).2.1 pl) ((cP M).2.2 pl) := by
  have z : (0 : Int32).toInt = 0 := rfl
  have := (way_rng (D := cD M) (v := v) (fx := (cP M).2.1 pl) (fy := (cP M).2.2 pl) (tx := (cP M).2.1 q) (ty := (cP M).2.2 q) (h.okS hv) (h.2.2.2.1 pl hpl).1 (h.2.2.2.1 pl hpl).2 (h.2.2.2.1 q hq).1 (h.2.2.2.1 q hq).2).1
  rw [way_self, fa_lt, z]
  omega
theorem k_v20 {v q : Nat} (hv : v < 9) (hq : q < 20) : nI v * (20 : Int32) + nI q = nI (v * 20 + q) := by
  have e : (20 : Int32) = nI 20 := rfl
  rw [e, pk_mul, nI_add]
theorem k_fillJoining {M : Mem} {n p v pl : Nat} {D : Dt} {P : Pq} {B : Bt} (hK : KB M n p D P B) (hv : v < n) (hv9 : v < 9) (hpl : pl < p) (hz : ∀ q, q < p → ¬ wayF D v (P.2.1 pl) (P.2.2 pl) (P.2.1 q) (P.2.2 q) < wayF D v (P.2.1 pl) (P.2.2 pl) (P.2.1 pl) (P.2.2 pl)) :
    ∃ M1, fX9_fillJoining (nI v) (nI pl) M = some M1 ∧ (∀ q, q < p → M1.1 43 (v * 20 + q) = ctD D v (P.2.1 q) (P.2.2 q) (P.2.1 pl) (P.2.2 pl) - nw D v (P.2.1 pl) (P.2.2 pl) (P.2.1 q) (P.2.2 q) (P.2.1 pl) (P.2.2 pl) ∧ M1.1 44 (v * 20 + q) = nw D v (P.2.1 pl) (P.2.2 pl) (P.2.1 pl) (P.2.2 pl) (P.2.1 q) (P.2.2 q) - ctD D v (P.2.1 pl) (P.2.2 pl) (P.2.1 q) (P.2.2 q)) ∧ (∀ i, i < v * 20 → M1.1 43 i = M.1 43 i ∧ M1.1 44 i = M.1 44 i) ∧ sm [(41, 44, none)] M M1 := by
  have hp := hK.1.1.2
  have hn := hK.1.1.1
  have hv15 := inb_nI (show v < 15 by omega) (by decide)
  have hl20 := inb_nI (show pl < 20 by omega) (by decide)
  obtain ⟨A, a1, a2, a3⟩ := k_fw41 (M := M) hK.1.2.1.2 hp (show v < 15 by omega) (M.1 2 v) (M.1 3 v)
  have oA := a3.on [(1, 9, none), (22, 22, none), (43, 44, none)] (by decide) (by decide)
  have kA : KB A n p D P B := KB_on (oA.sub (by decide)) hK
  obtain ⟨C, c1, c2, c3⟩ := k_fw42 (M := A) kA.1.2.1.2 hp (show v < 15 by omega) (A.1 8 pl) (A.1 9 pl)
  have oC := c3.on [(1, 9, none), (22, 22, none), (41, 41, none), (43, 44, none)] (by decide) (by decide)
  have kC : KB C n p D P B := KB_on (oC.sub (by decide)) kA
  have w41 : ∀ j, j < p → C.1 41 j = wayT D v (P.2.1 j) (P.2.2 j) := by
    intro j hj
    rw [oC.i 41 j rfl, a2 j hj, hK.2.1, ← hK.2.2.1, ← hK.2.1]
    rfl
  have w42 : ∀ j, j < p → C.1 42 j = wayF D v (P.2.1 pl) (P.2.2 pl) (P.2.1 j) (P.2.2 j) := by
    intro j hj
    rw [c2 j hj, kA.2.1, ← kA.2.2.1]
    rfl
  have w4 : C.1 4 v = D.2.2.2.1 v := by rw [← kC.2.1]; rfl
  have le_iff : ∀ x y : Int32, (x ≤ y) ↔ ¬ y < x := fun x y => by rw [fa_le, fa_lt]; omega
  have hh := for_ex (σ := Mem) (fun f q s => fX9_fillJoining_56 fX9_fillJoining_188 f (nI v) (nI pl) q s) (fun s => some s) p
    (fun i s => (∀ q, q < i → s.1 43 (v * 20 + q) = ctD D v (P.2.1 q) (P.2.2 q) (P.2.1 pl) (P.2.2 pl) - nw D v (P.2.1 pl) (P.2.2 pl) (P.2.1 q) (P.2.2 q) (P.2.1 pl) (P.2.2 pl) ∧ s.1 44 (v * 20 + q) = nw D v (P.2.1 pl) (P.2.2 pl) (P.2.1 pl) (P.2.2 pl) (P.2.1 q) (P.2.2 q) - ctD D v (P.2.1 pl) (P.2.2 pl) (P.2.1 q) (P.2.2 q)) ∧ (∀ i, i < v * 20 → s.1 43 i = C.1 43 i ∧ s.1 44 i = C.1 44 i) ∧ sm [(43, 44, none)] C s) ?_ ?_ C ⟨fun q hq => absurd hq (by omega), fun _ _ => ⟨rfl, rfl⟩, sm_rf⟩ FU (FU_gt (by omega))
  · obtain ⟨M1, h1, h2, h3, h4⟩ := hh
    refine ⟨M1, ?_, h2, fun i hi => ?_, ((a3.up (by decide)).tr (c3.up (by decide))).tr (h4.up (by decide))⟩
    · unfold fX9_fillJoining
      simp only [hv15, hl20, if_true, ix_nI (show v < 2147483648 by omega), ix_nI (show pl < 2147483648 by omega), a1, c1, Option.bind_some]
      exact h1
    · rw [(h3 i hi).1, (h3 i hi).2, oC.i 43 i rfl, oC.i 44 i rfl, oA.i 43 i rfl, oA.i 44 i rfl]; exact ⟨rfl, rfl⟩
  · intro f q s hq ⟨g1, g2, g3⟩
    have o := g3.on [(1, 9, none), (41, 42, none)] (by decide) (by decide)
    have hq20 := inb_nI (show q < 20 by omega) (by decide)
    have hvq := inb_nI (show v * 20 + q < 180 by omega) (by decide)
    refine ⟨sI (sI s 43 (v * 20 + q) (ctD D v (P.2.1 q) (P.2.2 q) (P.2.1 pl) (P.2.2 pl) - nw D v (P.2.1 pl) (P.2.2 pl) (P.2.1 q) (P.2.2 q) (P.2.1 pl) (P.2.2 pl))) 44 (v * 20 + q) (nw D v (P.2.1 pl) (P.2.2 pl) (P.2.1 pl) (P.2.2 pl) (P.2.1 q) (P.2.2 q) - ctD D v (P.2.1 pl) (P.2.2 pl) (P.2.1 q) (P.2.2 q)), ?_, fun j hj => ?_, fun i hi => ?_, (g3.I (by rfl)).I (by rfl)⟩
    · show fX9_fillJoining_56 fX9_fillJoining_188 (f + 1) (nI v) (nI pl) (nI q) s = _
      rw [fX9_fillJoining_56, o.i 1 8 rfl, kC.1.2.1.2, if_neg (nI_ge hq (by omega))]
      unfold fX9_fillJoining_95 fX9_fillJoining_125 fX9_fillJoining_165
      simp only [hq20, hl20, hv15, hvq, if_true, ix_nI (show v < 2147483648 by omega), ix_nI (show pl < 2147483648 by omega), ix_nI (show q < 2147483648 by omega), k_v20 hv9 (show q < 20 by omega), ix_nI (show v * 20 + q < 2147483648 by omega), nx_eq, nI_s, o.i 41 pl rfl, o.i 41 q rfl, o.i 42 pl rfl, o.i 42 q rfl, o.i 4 v rfl, w41 pl hpl, w41 q hq, w42 pl hpl, w42 q hq, w4, le_iff]
      unfold ctD nw
      have e3 := hz q hq
      by_cases e1 : wayT D v (P.2.1 q) (P.2.2 q) < wayT D v (P.2.1 pl) (P.2.2 pl) <;> by_cases e2 : wayT D v (P.2.1 pl) (P.2.2 pl) < wayT D v (P.2.1 q) (P.2.2 q) <;> by_cases e4 : wayF D v (P.2.1 pl) (P.2.2 pl) (P.2.1 pl) (P.2.2 pl) < wayF D v (P.2.1 pl) (P.2.2 pl) (P.2.1 q) (P.2.2 q) <;> simp [e1, e2, e3, e4]
    · by_cases e : j = q
      · subst e
        refine ⟨?_, ?_⟩
        · rw [sI_nk _ _ (by decide), sI_at]
        · rw [sI_at]
      · obtain ⟨k1, k2⟩ := g1 j (by omega)
        refine ⟨?_, ?_⟩
        · rw [sI_nk _ _ (by decide), sI_nj _ _ (by omega)]; exact k1
        · rw [sI_nj _ _ (by omega), sI_nk _ _ (by decide)]; exact k2
    · obtain ⟨k1, k2⟩ := g2 i hi
      refine ⟨?_, ?_⟩
      · rw [sI_nk _ _ (by decide), sI_nj _ _ (by omega)]; exact k1
      · rw [sI_nj _ _ (by omega), sI_nk _ _ (by decide)]; exact k2
  · intro f s ⟨g1, g2, g3⟩
    have o := g3.on [(1, 9, none)] (by decide) (by decide)
    show fX9_fillJoining_56 fX9_fillJoining_188 (f + 1) (nI v) (nI pl) (nI p) s = _
    rw [fX9_fillJoining_56, o.i 1 8 rfl, kC.1.2.1.2, if_pos (nI_le (Nat.le_refl _) (by omega))]
    rfl
/-- what was filled in for the first m voters -/
def JF (M : Mem) (D : Dt) (P : Pq) (p pl m : Nat) : Prop := ∀ v q, v < m → q < p → M.1 43 (v * 20 + q) = ctD D v (P.2.1 q) (P.2.2 q) (P.2.1 pl) (P.2.2 pl) - nw D v (P.2.1 pl) (P.2.2 pl) (P.2.1 q) (P.2.2 q) (P.2.1 pl) (P.2.2 pl) ∧ M.1 44 (v * 20 + q) = nw D v (P.2.1 pl) (P.2.2 pl) (P.2.1 pl) (P.2.2 pl) (P.2.1 q) (P.2.2 q) - ctD D v (P.2.1 pl) (P.2.2 pl) (P.2.1 q) (P.2.2 q)
def JJ (m b : Nat) : Nat → Bool := fun v => decide (v < m) && b.testBit v
theorem bit_n {b v : Nat} (hb : b < 2147483648) (hv : v < 31) : ((nI b >>> (nI v &&& 31)) &&& (1 : Int32)) = nI (if b.testBit v then 1 else 0) := by
  have h1 : (1 : Int32) = nI 1 := rfl
  rw [nI_shr hb v (by omega), h1, fa_and]
  congr 1
  have e : b / 2 ^ v &&& 1 = b / 2 ^ v % 2 := Nat.and_two_pow_sub_one_eq_mod _ 1
  rw [e, Nat.testBit_eq_decide_div_mod_eq]
  have := Nat.mod_two_eq_zero_or_one (b / 2 ^ v)
  rcases this with h | h <;> simp [h]
theorem smm_ext {T : Nat → Int32} {m : Nat} (h : ∀ v, m ≤ v → T v = 0) : ∀ d, sm_ T (m + d) = sm_ T m
  | 0 => rfl
  | d + 1 => by rw [← Nat.add_assoc, smm_s, smm_ext h d, h _ (by omega), Int32.add_zero]
theorem i_neg (a x y : Int32) : a - (x - y) = a + (y - x) := by
  rw [Int32.sub_eq_add_neg, Int32.neg_sub]
theorem k_stands {M : Mem} {n p pl m b : Nat} {D : Dt} {P : Pq} {B : Bt} (hK : KB M n p D P B) (hm : m ≤ 9) (hmn : m ≤ n) (hpl : pl < p) (hb : b < 2147483648) (hJ : JF M D P p pl m) : fX9_standsJoined M (nI pl) (nI b) (nI m) = some (bI (decide (fb_ct (bq (jnD D (JJ m b) (P.2.1 pl) (P.2.2 pl)) P B pl) p = 0))) := by
  have hp := hK.1.1.2
  have hDn := hK.n
  have hsum : ∀ (T : Nat → Int32), sm_ (fun v => if JJ m b v = true then T v else 0) D.1 = sm_ (fun v => if b.testBit v = true then T v else 0) m := by
    intro T
    have e : D.1 = m + (n - m) := by omega
    rw [e, smm_ext (m := m) (fun v hv => by
      have : ¬ v < m := by omega
      simp [JJ, this])]
    apply smm_congr
    intro v hv
    simp [JJ, hv]
  unfold fX9_standsJoined
  have inner : ∀ (K : Int32 → Int32 → Int32 → Int32 → Int32 → Int32 → Option Int32) (q : Nat) (hq : q < p) (x y : Int32), fX9_standsJoined_42 M K FU (nI pl) (nI b) (nI m) (nI q) x y 0 = K (nI pl) (nI b) (nI m) (nI q) (x + sm_ (fun v => if b.testBit v = true then dl D v (P.2.1 pl) (P.2.2 pl) (P.2.1 q) (P.2.2 q) (P.2.1 pl) (P.2.2 pl) else 0) m) (y + sm_ (fun v => if b.testBit v = true then dl D v (P.2.1 pl) (P.2.2 pl) (P.2.1 pl) (P.2.2 pl) (P.2.1 q) (P.2.2 q) else 0) m) := by
    intro K q hq x y
    have hh := for_ex (σ := Int32 × Int32) (fun f v s => fX9_standsJoined_42 M K f (nI pl) (nI b) (nI m) (nI q) s.1 s.2 v) (fun s => K (nI pl) (nI b) (nI m) (nI q) s.1 s.2) m
      (fun i s => s = (x + sm_ (fun v => if b.testBit v = true then dl D v (P.2.1 pl) (P.2.2 pl) (P.2.1 q) (P.2.2 q) (P.2.1 pl) (P.2.2 pl) else 0) i, y + sm_ (fun v => if b.testBit v = true then dl D v (P.2.1 pl) (P.2.2 pl) (P.2.1 pl) (P.2.2 pl) (P.2.1 q) (P.2.2 q) else 0) i)) ?_ ?_ (x, y) (by
        show (x, y) = (x + 0, y + 0)
        rw [Int32.add_zero, Int32.add_zero]) FU (FU_gt (by omega))
    · obtain ⟨s, h1, h2⟩ := hh
      rw [h2] at h1
      exact h1
    · rintro f v s hv rfl
      refine ⟨_, ?_, rfl⟩
      show fX9_standsJoined_42 M K (f + 1) (nI pl) (nI b) (nI m) (nI q) (x + sm_ _ v) (y + sm_ _ v) (nI v) = _
      rw [fX9_standsJoined_42, if_neg (nI_ge hv (by omega)), bit_n hb (show v < 31 by omega)]
      unfold fX9_standsJoined_94
      simp only [inb_nI (show v * 20 + q < 180 by omega) (by decide), k_v20 (show v < 9 by omega) (show q < 20 by omega), if_true, ix_nI (show v * 20 + q < 2147483648 by omega), nx_eq, nI_s, (hJ v q hv hq).1, (hJ v q hv hq).2, smm_s]
      cases b.testBit v with
      | false =>
        have : ¬ nI (if false = true then 1 else 0) = 1 := by decide
        rw [if_neg this]
        simp
      | true =>
        have : nI (if true = true then 1 else 0) = 1 := by decide
        rw [if_pos this, i_neg]
        simp only [if_true, ← Int32.add_assoc]
        rfl
    · rintro f s rfl
      show fX9_standsJoined_42 M K (f + 1) (nI pl) (nI b) (nI m) (nI q) _ _ (nI m) = _
      rw [fX9_standsJoined_42, if_pos (nI_le (Nat.le_refl _) (by omega))]
  have hh := for_anyB (fun f q => fX9_standsJoined_3 M (fX9_standsJoined_120 M) (fX9_standsJoined_128 M) f (nI pl) (nI b) (nI m) q) (some 1) (some 0) (bq (jnD D (JJ m b) (P.2.1 pl) (P.2.2 pl)) P B pl) p ?_ ?_ FU (FU_gt (by omega))
  · refine Eq.trans hh ?_
    cases hc : anyN (bq (jnD D (JJ m b) (P.2.1 pl) (P.2.2 pl)) P B pl) p with
    | false => rw [anyN_ct.mp hc]; rfl
    | true =>
      have : ¬ fb_ct (bq (jnD D (JJ m b) (P.2.1 pl) (P.2.2 pl)) P B pl) p = 0 := fun q => by rw [anyN_ct.mpr q] at hc; cases hc
      simp only [this, decide_false]; rfl
  · intro f q hq
    show fX9_standsJoined_3 M (fX9_standsJoined_120 M) (fX9_standsJoined_128 M) (f + 1) (nI pl) (nI b) (nI m) (nI q) = _
    rw [fX9_standsJoined_3, hK.1.2.1.2, if_neg (nI_ge hq (by omega)), k_forOf (by omega) (by omega), k_forOf (by omega) (by omega)]
    simp only [Option.bind_some]
    rw [inner _ q hq, hK.2.2.2.2 q pl hq hpl, hK.2.2.2.2 pl q hpl hq]
    have f1 : nF D P q pl + sm_ (fun v => if b.testBit v = true then dl D v (P.2.1 pl) (P.2.2 pl) (P.2.1 q) (P.2.2 q) (P.2.1 pl) (P.2.2 pl) else 0) m = nF (jnD D (JJ m b) (P.2.1 pl) (P.2.2 pl)) P q pl := by
      unfold nF; rw [for_join, hsum]
    have f2 : nF D P pl q + sm_ (fun v => if b.testBit v = true then dl D v (P.2.1 pl) (P.2.2 pl) (P.2.1 pl) (P.2.2 pl) (P.2.1 q) (P.2.2 q) else 0) m = nF (jnD D (JJ m b) (P.2.1 pl) (P.2.2 pl)) P pl q := by
      unfold nF; rw [for_join, hsum]
    rw [f1, f2]
    unfold fX9_standsJoined_100 fX9_standsJoined_122 fX9_standsJoined_120
    simp only [nx_eq, nI_s]
    by_cases e : q = pl
    · subst e
      have : bq (jnD D (JJ m b) (P.2.1 q) (P.2.2 q)) P B q q = false := by simp [bq]
      rw [if_pos rfl, this]; simp
    · have hne : ¬ nI q = nI pl := nI_ne e (by omega) (by omega)
      rw [if_neg hne, k_isEnough M hK.1.2.2.1, hK.2.2.2.1, hK.1.2.2.2, hK.2.1]
      have eq : wonD B (totD D) (nF (jnD D (JJ m b) (P.2.1 pl) (P.2.2 pl)) P q pl) (nF (jnD D (JJ m b) (P.2.1 pl) (P.2.2 pl)) P pl q) = bq (jnD D (JJ m b) (P.2.1 pl) (P.2.2 pl)) P B pl q := by
        have et : totD (jnD D (JJ m b) (P.2.1 pl) (P.2.2 pl)) = totD D := rfl
        simp only [bq, nB, btD, nF, ne_eq, e, not_false_eq_true, decide_true, Bool.true_and, et]
      rw [eq]
      cases bq (jnD D (JJ m b) (P.2.1 pl) (P.2.2 pl)) P B pl q <;> simp [bI]
  · intro f
    show fX9_standsJoined_3 M (fX9_standsJoined_120 M) (fX9_standsJoined_128 M) (f + 1) (nI pl) (nI b) (nI m) (nI p) = _
    rw [fX9_standsJoined_3, hK.1.2.1.2, if_pos (nI_le (Nat.le_refl _) (by omega))]
    rfl
