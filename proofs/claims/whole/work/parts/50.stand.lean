/-! make: one voter elsewhere -/
def ctD (D : Dt) (v : Nat) (x y ox oy : Int32) : Int32 := if wayT D v x y < wayT D v ox oy then D.2.2.2.1 v else 0
def sm_ (T : Nat → Int32) (m : Nat) : Int32 := fd (fun v acc => acc + T v) 0 m
theorem smm_s (T : Nat → Int32) (m : Nat) : sm_ T (m + 1) = sm_ T m + T m := rfl
theorem for_sum (D : Dt) (x y ox oy : Int32) : forD D x y ox oy = sm_ (fun v => ctD D v x y ox oy) D.1 := by
  unfold forD sm_
  apply fd_congr
  intro i _ a
  show _ = a + ctD D i x y ox oy
  unfold ctD
  by_cases c : wayT D i x y < wayT D i ox oy
  · rw [if_pos c, if_pos c]
  · rw [if_neg c, if_neg c, Int32.add_zero]
theorem smm_congr {T T1 : Nat → Int32} {m : Nat} (h : ∀ u, u < m → T u = T1 u) : sm_ T m = sm_ T1 m := by
  unfold sm_
  apply fd_congr
  intro i hi a
  rw [h i hi]
theorem smm_put {T T1 : Nat → Int32} {v : Nat} (h : ∀ u, u ≠ v → T1 u = T u) : ∀ {m}, v < m → sm_ T1 m = sm_ T m - T v + T1 v
  | 0, hm => by omega
  | m + 1, hm => by
    rw [smm_s, smm_s]
    by_cases e : v = m
    · subst e
      rw [Int32.add_sub_cancel, smm_congr (T := T1) (T1 := T) (fun u hu => h u (by omega))]
    · rw [smm_put h (show v < m by omega), h m (fun q => e q.symm), Int32.sub_eq_add_neg, Int32.sub_eq_add_neg]
      ac_rfl
def upD (D : Dt) (v : Nat) (x y : Int32) : Dt := (D.1, up D.2.1 v x, up D.2.2.1 v y, D.2.2.2)
theorem upD_ne (D : Dt) {v u : Nat} (x y : Int32) (h : u ≠ v) (a b : Int32) : wayT (upD D v x y) u a b = wayT D u a b := by
  unfold wayT wayF upD up
  simp only [h, if_false]
theorem upD_eq (D : Dt) (v : Nat) (x y a b : Int32) : wayT (upD D v x y) v a b = wayF D v x y a b := by
  unfold wayT wayF upD up
  simp only [if_true]
theorem for_put (D : Dt) {v : Nat} (hv : v < D.1) (X Y x y ox oy : Int32) : forD (upD D v X Y) x y ox oy = forD D x y ox oy - ctD D v x y ox oy + (if wayF D v X Y x y < wayF D v X Y ox oy then D.2.2.2.1 v else 0) := by
  rw [for_sum, for_sum]
  show sm_ _ D.1 = _
  rw [smm_put (T := fun v => ctD D v x y ox oy) (v := v) (fun u hu => by
    unfold ctD
    rw [upD_ne D X Y hu, upD_ne D X Y hu]
    rfl) hv]
  congr 1
  unfold ctD
  rw [upD_eq, upD_eq]
  rfl
theorem tot_put (D : Dt) (v : Nat) (X Y : Int32) : totD (upD D v X Y) = totD D := rfl
theorem k_fw41 {M : Mem} {p v : Nat} (hp : M.1 1 8 = nI p) (hp20 : p ≤ 20) (hv : v < 15) (x y : Int32) : ∃ M1, fX9_fillWays_41 (nI v) x y M = some M1 ∧ (∀ j, j < p → M1.1 41 j = wayF (cD M) v x y (M.1 8 j) (M.1 9 j)) ∧ sm [(41, 41, none)] M M1 := by
  unfold fX9_fillWays_41
  have hh := for_ex (σ := Mem) (fun f i s => fX9_fillWays_41_3 fX9_fillWays_41_35 f (nI v) x y i s) (fun s => some s) p
    (fun i s => (∀ j, j < i → s.1 41 j = wayF (cD M) v x y (M.1 8 j) (M.1 9 j)) ∧ sm [(41, 41, none)] M s) ?_ ?_ M ⟨fun j h => absurd h (by omega), sm_rf⟩ FU (FU_gt (by omega))
  · exact hh
  · intro f i s hi ⟨h1, h2⟩
    have hon := h2.on [(1, 9, none)] (by decide) (by decide)
    refine ⟨sI s 41 i (wayF (cD M) v x y (M.1 8 i) (M.1 9 i)), ?_, fun j hj => ?_, h2.I (inS_n 41 i)⟩
    · show fX9_fillWays_41_3 fX9_fillWays_41_35 (f + 1) (nI v) x y (nI i) s = _
      rw [fX9_fillWays_41_3, hon.i 1 8 rfl, hp, if_neg (nI_ge hi (by omega)), k_wayFrom s hv (by omega), Option.bind_some, if_pos (inb_nI (show i < 20 by omega) (by decide)), cD_on (hon.sub (by decide)), hon.i 8 i rfl, hon.i 9 i rfl, ix_nI (by omega)]
      simp only [nx_eq, nI_s]
    · by_cases e : j = i
      · rw [e]; exact sI_at ..
      · rw [sI_nj _ _ e]; exact h1 j (by omega)
  · intro f s ⟨h1, h2⟩
    have hon := h2.on [(1, 9, none)] (by decide) (by decide)
    show fX9_fillWays_41_3 fX9_fillWays_41_35 (f + 1) (nI v) x y (nI p) s = _
    rw [fX9_fillWays_41_3, hon.i 1 8 rfl, hp, if_pos (nI_le (Nat.le_refl _) (by omega))]
    rfl
theorem k_fw42 {M : Mem} {p v : Nat} (hp : M.1 1 8 = nI p) (hp20 : p ≤ 20) (hv : v < 15) (x y : Int32) : ∃ M1, fX9_fillWays_42 (nI v) x y M = some M1 ∧ (∀ j, j < p → M1.1 42 j = wayF (cD M) v x y (M.1 8 j) (M.1 9 j)) ∧ sm [(42, 42, none)] M M1 := by
  unfold fX9_fillWays_42
  have hh := for_ex (σ := Mem) (fun f i s => fX9_fillWays_42_3 fX9_fillWays_42_35 f (nI v) x y i s) (fun s => some s) p
    (fun i s => (∀ j, j < i → s.1 42 j = wayF (cD M) v x y (M.1 8 j) (M.1 9 j)) ∧ sm [(42, 42, none)] M s) ?_ ?_ M ⟨fun j h => absurd h (by omega), sm_rf⟩ FU (FU_gt (by omega))
  · exact hh
  · intro f i s hi ⟨h1, h2⟩
    have hon := h2.on [(1, 9, none)] (by decide) (by decide)
    refine ⟨sI s 42 i (wayF (cD M) v x y (M.1 8 i) (M.1 9 i)), ?_, fun j hj => ?_, h2.I (inS_n 42 i)⟩
    · show fX9_fillWays_42_3 fX9_fillWays_42_35 (f + 1) (nI v) x y (nI i) s = _
      rw [fX9_fillWays_42_3, hon.i 1 8 rfl, hp, if_neg (nI_ge hi (by omega)), k_wayFrom s hv (by omega), Option.bind_some, if_pos (inb_nI (show i < 20 by omega) (by decide)), cD_on (hon.sub (by decide)), hon.i 8 i rfl, hon.i 9 i rfl, ix_nI (by omega)]
      simp only [nx_eq, nI_s]
    · by_cases e : j = i
      · rw [e]; exact sI_at ..
      · rw [sI_nj _ _ e]; exact h1 j (by omega)
  · intro f s ⟨h1, h2⟩
    have hon := h2.on [(1, 9, none)] (by decide) (by decide)
    show fX9_fillWays_42_3 fX9_fillWays_42_35 (f + 1) (nI v) x y (nI p) s = _
    rw [fX9_fillWays_42_3, hon.i 1 8 rfl, hp, if_pos (nI_le (Nat.le_refl _) (by omega))]
    rfl
/-- peace, if these are the voters -/
def pcN (D : Dt) (P : Pq) (B : Bt) (p : Nat) : Bool := anyN (fun i => decide (fb_ct (bq D P B i) p = 0)) p
theorem ub_pc {D : Dt} {P : Pq} {B : Bt} {p : Nat} (hp : p ≤ 20) : ubI D P B p p = -1 ↔ pcN D P B p = false := by
  rw [ubI_ff D P B p p hp]
  unfold pcN anyN
  cases hc : ff (fun i => decide (fb_ct (bq D P B i) p = 0)) p with
  | none => simp
  | some i =>
    have := (ff_some.mp hc).1
    have h1 : ¬ nI i = -1 := nI_n1 (by omega)
    simp [h1]
/-- what Standing has filled in for voter v at X, Y -/
def FW (M : Mem) (D : Dt) (P : Pq) (p v : Nat) (X Y : Int32) : Prop := (∀ j, j < p → M.1 41 j = wayT D v (P.2.1 j) (P.2.2 j)) ∧ (∀ j, j < p → M.1 42 j = wayF D v X Y (P.2.1 j) (P.2.2 j))
theorem k_forBehind {M : Mem} {p v a b : Nat} {D : Dt} {P : Pq} {X Y : Int32} (hp20 : p ≤ 20) (hv : v < D.1) (ha : a < p) (hb : b < p) (hF : ∀ a b, a < p → b < p → M.1 22 (a * 20 + b) = nF D P a b) (hW : FW M D P p v X Y) : fX9_forBehind M (nI a) (nI b) (D.2.2.2.1 v) = some (nF (upD D v X Y) P a b) := by
  unfold fX9_forBehind fX9_forBehind_32 fX9_forBehind_53
  rw [k_forOf (by omega) (by omega), Option.bind_some, hF a b ha hb]
  simp only [inb_nI (show a < 20 by omega) (by decide), inb_nI (show b < 20 by omega) (by decide), if_true, ix_nI (show a < 2147483648 by omega), ix_nI (show b < 2147483648 by omega), hW.1 a ha, hW.1 b hb, hW.2 a ha, hW.2 b hb, nx_eq]
  unfold nF
  rw [for_put D hv]
  unfold ctD
  have le_iff : ∀ x y : Int32, (x ≤ y) ↔ ¬ y < x := fun x y => by rw [fa_le, fa_lt]; omega
  simp only [le_iff]
  by_cases c1 : wayT D v (P.2.1 a) (P.2.2 a) < wayT D v (P.2.1 b) (P.2.2 b)
  · by_cases c2 : wayF D v X Y (P.2.1 a) (P.2.2 a) < wayF D v X Y (P.2.1 b) (P.2.2 b)
    · simp [c1, c2]
    · simp [c1, c2]
  · by_cases c2 : wayF D v X Y (P.2.1 a) (P.2.2 a) < wayF D v X Y (P.2.1 b) (P.2.2 b)
    · simp [c1, c2]
    · simp [c1, c2]
theorem k_peaceBehind {M : Mem} {p v : Nat} {D : Dt} {P : Pq} {B : Bt} {X Y : Int32} (hp : M.1 1 8 = nI p) (hp20 : p ≤ 20) (hv : v < D.1) (hB : okB (cB M)) (eB : cB M = B) (eT : M.1 1 7 = totD D) (hF : ∀ a b, a < p → b < p → M.1 22 (a * 20 + b) = nF D P a b) (hW : FW M D P p v X Y) : fX9_isPeaceBehind M (D.2.2.2.1 v) = some (bI (pcN (upD D v X Y) P B p)) := by
  unfold fX9_isPeaceBehind
  have hh := for_anyB (fun f i => fX9_isPeaceBehind_2 M (fX9_isPeaceBehind_82 M) (fX9_isPeaceBehind_90 M) f (D.2.2.2.1 v) i) (some 0) (some 1) (fun i => decide (fb_ct (bq (upD D v X Y) P B i) p = 0)) p ?_ ?_ FU (FU_gt (by omega))
  · refine Eq.trans hh ?_
    unfold pcN
    cases anyN (fun i => decide (fb_ct (bq (upD D v X Y) P B i) p = 0)) p <;> rfl
  · intro f i hi
    show fX9_isPeaceBehind_2 M (fX9_isPeaceBehind_82 M) (fX9_isPeaceBehind_90 M) (f + 1) (D.2.2.2.1 v) (nI i) = _
    rw [fX9_isPeaceBehind_2, hp, if_neg (nI_ge hi (by omega))]
    generalize hK : fX9_isPeaceBehind_78 M (fX9_isPeaceBehind_2 M (fX9_isPeaceBehind_82 M) (fX9_isPeaceBehind_90 M) f) (fX9_isPeaceBehind_82 M) (fX9_isPeaceBehind_90 M) = K
    have h2 := for_or (σ := Int32) (fun f2 q s => fX9_isPeaceBehind_18 M K f2 (D.2.2.2.1 v) (nI i) s q) (fun s => K (D.2.2.2.1 v) (nI i) s) (fun ρ => ρ = K (D.2.2.2.1 v) (nI i) 0 ∧ ∃ q, q < p ∧ bq (upD D v X Y) P B i q = true) 0 p (by omega)
      (fun q s => (s = 1 ∧ ∀ j, j < q → bq (upD D v X Y) P B i j = false) ∨ (s = 0 ∧ ∃ j, j < q ∧ j < p ∧ bq (upD D v X Y) P B i j = true)) ?_ ?_ 1 (Or.inl ⟨rfl, fun j hj => absurd hj (by omega)⟩) FU (by have := FU_gt (n := p) (by omega); omega)
    · have fin0 : (∃ q, q < p ∧ bq (upD D v X Y) P B i q = true) → K (D.2.2.2.1 v) (nI i) 0 = if decide (fb_ct (bq (upD D v X Y) P B i) p = 0) = true then some 1 else fX9_isPeaceBehind_2 M (fX9_isPeaceBehind_82 M) (fX9_isPeaceBehind_90 M) f (D.2.2.2.1 v) (nI (i + 1)) := by
        rintro ⟨q, hq, hb⟩
        have : ¬ fb_ct (bq (upD D v X Y) P B i) p = 0 := fun e => by rw [fb_ct_zero.mp e q hq] at hb; cases hb
        rw [← hK]
        unfold fX9_isPeaceBehind_78
        simp [this, nx_eq, nI_s]
      rcases h2 with ⟨h3, h4⟩ | ⟨s, h3, h4⟩
      · exact h3.trans (fin0 h4)
      · rcases h4 with ⟨rfl, h5⟩ | ⟨rfl, j, -, h5, h6⟩
        · refine h3.trans ?_
          have : fb_ct (bq (upD D v X Y) P B i) p = 0 := fb_ct_zero.mpr h5
          rw [← hK]
          unfold fX9_isPeaceBehind_78
          simp [this]
          rfl
        · exact h3.trans (fin0 ⟨j, h5, h6⟩)
    · rintro f2 q s - hq hs
      rcases hs with ⟨rfl, h5⟩ | ⟨rfl, j, h4, h5, h6⟩
      · right
        refine ⟨if bq (upD D v X Y) P B i q = true then 0 else 1, ?_, ?_⟩
        · show fX9_isPeaceBehind_18 M K (f2 + 1) (D.2.2.2.1 v) (nI i) 1 (nI q) = _
          rw [fX9_isPeaceBehind_18, hp, if_neg (nI_ge hq (by omega)), if_neg (by decide)]
          unfold fX9_isPeaceBehind_66 fX9_isPeaceBehind_71
          by_cases e : q = i
          · subst e
            rw [if_pos rfl]
            have : bq (upD D v X Y) P B q q = false := by simp [bq]
            simp [this, nx_eq, nI_s]
          · have hne : ¬ nI q = nI i := nI_ne e (by omega) (by omega)
            rw [if_neg hne, k_forBehind hp20 hv hq hi hF hW, k_forBehind hp20 hv hi hq hF hW]
            simp only [Option.bind_some]
            rw [k_isEnough M hB, eB, eT]
            have eq : wonD B (totD D) (nF (upD D v X Y) P q i) (nF (upD D v X Y) P i q) = bq (upD D v X Y) P B i q := by
              simp only [bq, nB, btD, nF, ne_eq, e, not_false_eq_true, decide_true, Bool.true_and, tot_put]
            rw [eq]
            cases bq (upD D v X Y) P B i q <;> simp [bI, nx_eq, nI_s]
        · cases hc : bq (upD D v X Y) P B i q with
          | true => exact Or.inr ⟨by simp, q, by omega, hq, hc⟩
          | false =>
            refine Or.inl ⟨by simp, fun j hj => ?_⟩
            by_cases e : j = q
            · rw [e]; exact hc
            · exact h5 j (by omega)
      · left
        refine ⟨?_, j, h5, h6⟩
        show fX9_isPeaceBehind_18 M K (f2 + 1) (D.2.2.2.1 v) (nI i) 0 (nI q) = _
        rw [fX9_isPeaceBehind_18, hp, if_neg (nI_ge hq (by omega)), if_pos rfl]
    · intro f2 s _
      show fX9_isPeaceBehind_18 M K (f2 + 1) (D.2.2.2.1 v) (nI i) s (nI p) = _
      rw [fX9_isPeaceBehind_18, hp, if_pos (nI_le (Nat.le_refl _) (by omega))]
  · intro f
    show fX9_isPeaceBehind_2 M (fX9_isPeaceBehind_82 M) (fX9_isPeaceBehind_90 M) (f + 1) (D.2.2.2.1 v) (nI p) = _
    rw [fX9_isPeaceBehind_2, hp, if_pos (nI_le (Nat.le_refl _) (by omega))]
    rfl
