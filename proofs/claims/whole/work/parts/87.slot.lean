/-! what one gains over another -/
theorem for_b {D : Dt} (hv : ∀ v, v < D.1 → 1 ≤ (D.2.2.2.1 v).toInt ∧ (D.2.2.2.1 v).toInt ≤ 9) (x y ox oy : Int32) : ∀ n, n ≤ 15 → n ≤ D.1 → 0 ≤ (fd (fun v acc => if wayT D v x y < wayT D v ox oy then acc + D.2.2.2.1 v else acc) 0 n : Int32).toInt ∧ (fd (fun v acc => if wayT D v x y < wayT D v ox oy then acc + D.2.2.2.1 v else acc) 0 n : Int32).toInt ≤ 9 * n
  | 0, _, _ => by
    have : (fd (fun v acc => if wayT D v x y < wayT D v ox oy then acc + D.2.2.2.1 v else acc) 0 0 : Int32).toInt = 0 := rfl
    rw [this]; omega
  | n + 1, h1, h2 => by
    obtain ⟨k1, k2⟩ := for_b hv x y ox oy n (by omega) (by omega)
    have := hv n (by omega)
    show 0 ≤ (if wayT D n x y < wayT D n ox oy then _ + D.2.2.2.1 n else _ : Int32).toInt ∧ (if wayT D n x y < wayT D n ox oy then _ + D.2.2.2.1 n else _ : Int32).toInt ≤ _
    by_cases c : wayT D n x y < wayT D n ox oy
    · rw [if_pos c, fb_addI (by omega) (by omega)]; omega
    · rw [if_neg c]; omega
def gD (D : Dt) (P : Pq) (m i j : Nat) : Int32 := if i < m ∧ j < m then nF D P i j - nF D P j i else 0
theorem nF_b {M : Mem} {n p : Nat} (h : DI M n p) (i j : Nat) : 0 ≤ (nF (cD M) (cP M) i j).toInt ∧ (nF (cD M) (cP M) i j).toInt ≤ 135 := by
  have hn := h.n15
  unfold nF forD
  rw [h.cn]
  have := for_b (D := cD M) (fun v hv => (h.2.2.1 v (by rw [← h.cn]; exact hv)).2.2.1) ((cP M).2.1 i) ((cP M).2.2 i) ((cP M).2.1 j) ((cP M).2.2 j) n hn (by rw [h.cn]; exact Nat.le_refl _)
  omega
theorem gD_sm {M : Mem} {n p : Nat} (h : DI M n p) (m : Nat) : smg (gD (cD M) (cP M) m) := by
  intro i j
  unfold gD
  by_cases c : i < m ∧ j < m
  · rw [if_pos c]
    have h1 := nF_b h i j
    have h2 := nF_b h j i
    rw [fb_subI (by omega) (by omega)]
    omega
  · rw [if_neg c]
    decide
theorem k_gains {M : Mem} {n p m : Nat} (h : DI M n p) (hd : DC M p) (em : m = min 8 p) (h36 : M.1 36 5 = nI m) (K : Mem → Option Mem) : ∃ M1, fX3_refresh_62 K FU 0 M = K M1 ∧ (∀ i j, i < m → j < m → M1.1 37 (i * 8 + j) = gD (cD M) (cP M) m i j) ∧ sm [(37, 37, none)] M M1 := by
  have hp := h.p20
  have hh := for_ex (σ := Mem) (fun f i s => fX3_refresh_62 K f i s) (fun s => K s) m
    (fun a S => sm [(37, 37, none)] M S ∧ ∀ i j, i < a → j < m → S.1 37 (i * 8 + j) = gD (cD M) (cP M) m i j) ?_ ?_ M ⟨sm_rf, fun i j h => absurd h (by omega)⟩ FU (FU_gt (by omega))
  · obtain ⟨M1, k1, k2, k3⟩ := hh
    exact ⟨M1, k1, k3, k2⟩
  · rintro f a S ha ⟨g1, g2⟩
    have o := g1.on [(36, 36, none)] (by decide) (by decide)
    have hun : fX3_refresh_62 K (f + 1) (nI a) S = fX3_refresh_72 (fX3_refresh_116 (fX3_refresh_62 K f) K) FU (nI a) (nI 0) S := by
      rw [fX3_refresh_62, o.i 36 5 rfl, h36, if_neg (nI_ge ha (by omega))]; rfl
    have hh := for_ex (σ := Mem) (fun f2 j s => fX3_refresh_72 (fX3_refresh_116 (fX3_refresh_62 K f) K) f2 (nI a) j s) (fun s => fX3_refresh_62 K f (nI (a + 1)) s) m
      (fun b S => sm [(37, 37, none)] M S ∧ (∀ i j, i < a → j < m → S.1 37 (i * 8 + j) = gD (cD M) (cP M) m i j) ∧ ∀ j, j < b → S.1 37 (a * 8 + j) = gD (cD M) (cP M) m a j) ?_ ?_ S ⟨g1, g2, fun j h => absurd h (by omega)⟩ FU (FU_gt (by omega))
    · obtain ⟨S1, k1, k2, k3, k4⟩ := hh
      refine ⟨S1, hun.trans k1, k2, fun i j hi hj => ?_⟩
      by_cases e : i = a
      · rw [e]; exact k4 j hj
      · exact k3 i j (by omega) hj
    · rintro f2 b S hb ⟨g1, g2, g3⟩
      have o := g1.on [(22, 22, none), (36, 36, none)] (by decide) (by decide)
      have e8 : nI a * 8 + nI b = nI (a * 8 + b) := by
        have e8 : (8 : Int32) = nI 8 := rfl
        rw [e8, pk_mul, nI_add]
      refine ⟨sI S 37 (a * 8 + b) (gD (cD M) (cP M) m a b), ?_, g1.I (by rfl), fun i j hi hj => ?_, fun j hj => ?_⟩
      · show fX3_refresh_72 _ (f2 + 1) (nI a) (nI b) S = _
        rw [fX3_refresh_72, o.i 36 5 rfl, h36, if_neg (nI_ge hb (by omega)), k_forOf (by omega) (by omega), k_forOf (by omega) (by omega), Option.bind_some, Option.bind_some, e8, if_pos (inb_nI (show a * 8 + b < 64 by omega) (by decide)), ix_nI (by omega), nx_eq, nx_eq, nI_s, o.i 22 _ rfl, o.i 22 _ rfl, hd.1 a b (by omega) (by omega), hd.1 b a (by omega) (by omega)]
        unfold gD
        rw [if_pos ⟨ha, hb⟩]
      · rw [sI_nj _ _ (show i * 8 + j ≠ a * 8 + b by omega)]
        exact g2 i j hi hj
      · by_cases e : j = b
        · rw [e]; exact sI_at ..
        · rw [sI_nj _ _ (show a * 8 + j ≠ a * 8 + b by omega)]
          exact g3 j (by omega)
    · rintro f2 S ⟨g1, -⟩
      have o := g1.on [(36, 36, none)] (by decide) (by decide)
      show fX3_refresh_72 _ (f2 + 1) (nI a) (nI m) S = _
      rw [fX3_refresh_72, o.i 36 5 rfl, h36, if_pos (nI_le (Nat.le_refl _) (by omega))]
      unfold fX3_refresh_116
      rw [nx_eq, nI_s]
  · rintro f S ⟨g1, -⟩
    have o := g1.on [(36, 36, none)] (by decide) (by decide)
    show fX3_refresh_62 K (f + 1) (nI m) S = _
    rw [fX3_refresh_62, o.i 36 5 rfl, h36, if_pos (nI_le (Nat.le_refl _) (by omega))]
/-! where both rest -/
def rsB (g : Nat → Nat → Int32) (m j : Nat) : Bool := !(anyN (fun i => decide (0 < g i j)) m)
def rsO (g : Nat → Nat → Int32) (m k : Nat) (v : Int32) : Int32 := match ff (rsB g m) k with | some j => nI j | none => v
theorem rsO_s (g : Nat → Nat → Int32) (m k : Nat) (v : Int32) : rsO g m (k + 1) v = rsO g m k (if rsB g m k = true then nI k else v) := by
  unfold rsO
  rw [show ff (rsB g m) (k + 1) = (match ff (rsB g m) k with | some i => some i | none => if rsB g m k then some k else none) from rfl]
  cases ff (rsB g m) k with
  | some i => rfl
  | none =>
    cases rsB g m k <;> rfl
theorem any_st {g : Nat → Nat → Int32} {j i : Nat} : bI (!(anyN (fun i => decide (0 < g i j)) (i + 1))) = if bI (!(anyN (fun i => decide (0 < g i j)) i)) = 0 then 0 else if 0 < g i j then 0 else 1 := by
  rw [anyN_s]
  cases anyN (fun i => decide (0 < g i j)) i with
  | true => rfl
  | false =>
    by_cases c : 0 < g i j
    · simp [c, bI]
    · simp [c, bI]
theorem k_rest12 {m : Nat} {g : Nat → Nat → Int32} (hm : m ≤ 8) (K : Mem → Option Mem) : ∀ (k f : Nat) (S : Mem), k < f → k ≤ m → S.1 36 5 = nI m → (∀ i j, i < m → j < m → S.1 37 (i * 8 + j) = g i j) → ∃ S1, fX3_findRest_12 K f (nI k - 1) S = K S1 ∧ S1.1 36 7 = rsO g m k (S.1 36 7) ∧ sm [(36, 36, some 7)] S S1
  | 0, f, S, hf, hk, h36, hg => by
    obtain ⟨f, rfl⟩ : ∃ f1, f = f1 + 1 := ⟨f - 1, by omega⟩
    refine ⟨S, ?_, rfl, sm_rf⟩
    rw [fX3_findRest_12, if_pos (by decide)]
  | k + 1, f, S, hf, hk, h36, hg => by
    obtain ⟨f, rfl⟩ : ∃ f1, f = f1 + 1 := ⟨f - 1, by omega⟩
    have e1 : nI (k + 1) - 1 = nI k := pk_sub (a := k + 1) (b := 1) (by omega)
    have n0 : ¬ nI k < 0 := by
      have z : (0 : Int32).toInt = 0 := rfl
      rw [fa_lt, nI_toInt (by omega), z]; omega
    have hh := for_ex (σ := Int32) (fun f2 i x => fX3_findRest_20 (fX3_findRest_53 (fX3_findRest_12 K f) K) f2 (nI k) x i S) (fun x => fX3_findRest_53 (fX3_findRest_12 K f) K (nI k) x S) m
      (fun i x => x = bI (!(anyN (fun i => decide (0 < g i k)) i))) ?_ ?_ 1 rfl FU (FU_gt (by omega))
    · obtain ⟨x, x1, x2⟩ := hh
      rw [x2] at x1
      have x1 : fX3_findRest_20 (fX3_findRest_53 (fX3_findRest_12 K f) K) FU (nI k) 1 0 S = fX3_findRest_53 (fX3_findRest_12 K f) K (nI k) (bI (rsB g m k)) S := x1
      have hun : fX3_findRest_12 K (f + 1) (nI (k + 1) - 1) S = fX3_findRest_12 K f (nI k - 1) (if rsB g m k = true then sI S 36 7 (nI k) else S) := by
        rw [fX3_findRest_12, e1, if_neg n0, x1]
        unfold fX3_findRest_53 fX3_findRest_62
        simp only [nx_eq]
        have e2 : nI k + (-1) = nI k - 1 := by rw [Int32.sub_eq_add_neg]
        rw [e2]
        cases rsB g m k with
        | false => rfl
        | true => rfl
      cases hb : rsB g m k with
      | false =>
        rw [hb, if_neg (by decide)] at hun
        obtain ⟨S1, s1, s2, s3⟩ := k_rest12 hm K k f S (by omega) (by omega) h36 hg
        refine ⟨S1, hun.trans s1, ?_, s3⟩
        rw [rsO_s, hb, if_neg (by decide)]; exact s2
      | true =>
        rw [hb, if_pos rfl] at hun
        have sS : sm [(36, 36, some 7)] S (sI S 36 7 (nI k)) := sm_rf.I (by rfl)
        have o := sS.on [(36, 36, some 5), (37, 37, none)] (by decide) (by decide)
        obtain ⟨S1, s1, s2, s3⟩ := k_rest12 hm K k f (sI S 36 7 (nI k)) (by omega) (by omega) ((o.i 36 5 rfl).trans h36) (fun i j hi hj => (o.i 37 _ rfl).trans (hg i j hi hj))
        refine ⟨S1, hun.trans s1, ?_, sS.tr s3⟩
        rw [rsO_s, hb, if_pos rfl, s2, sI_at]
    · rintro f2 i x hi rfl
      refine ⟨_, ?_, rfl⟩
      show fX3_findRest_20 _ (f2 + 1) (nI k) _ (nI i) S = _
      rw [fX3_findRest_20, h36, if_neg (nI_ge hi (by omega)), k_gainOf (by omega) (by omega), Option.bind_some, hg i k hi (by omega), any_st]
      unfold fX3_findRest_45 fX3_findRest_46
      simp only [nx_eq, nI_s]
      by_cases c1 : bI (!(anyN (fun i => decide (0 < g i k)) i)) = 0
      · rw [if_pos c1, if_pos c1]
      · rw [if_neg c1, if_neg c1]
        by_cases c2 : 0 < g i k
        · rw [if_pos c2, if_pos c2]
        · rw [if_neg c2, if_neg c2]
    · rintro f2 x rfl
      show fX3_findRest_20 _ (f2 + 1) (nI k) _ (nI m) S = _
      rw [fX3_findRest_20, h36, if_pos (nI_le (Nat.le_refl _) (by omega))]
theorem e_gain {M : Mem} {n p m i j : Nat} (h : DI M n p) (em : m = min 8 p) (hi : i < m) (hj : j < m) : fX11_gain M (nI i) (nI j) = some (gD (cD M) (cP M) m i j) := by
  unfold fX11_gain
  rw [e_nF h (by omega) (by omega), e_nF h (by omega) (by omega), Option.bind_some, Option.bind_some]
  unfold gD
  rw [if_pos ⟨hi, hj⟩]
theorem e_rest {M : Mem} {n p m : Nat} (h : DI M n p) (em : m = min 8 p) : fX11_rest M = some (rsO (gD (cD M) (cP M) m) m m (-1)) := by
  have hp := h.p20
  have hc := e_chosen h.2.1.2.2.2 hp
  rw [← em] at hc
  unfold fX11_rest
  generalize hg : gD (cD M) (cP M) m = g
  have eg : ∀ i j, i < m → j < m → fX11_gain M (nI i) (nI j) = some (g i j) := fun i j hi hj => by rw [← hg]; exact e_gain h em hi hj
  have hh := for_any (fun f i => fX11_rest_2 M (fX11_rest_51 M) (fX11_rest_59 M) f i) (some (-1 : Int32)) (fun j => some (nI j)) (rsB g m) m ?_ ?_ FU (FU_gt (by omega))
  · refine Eq.trans hh ?_
    unfold rsO
    cases ff (rsB g m) m <;> rfl
  · intro f k hk
    show fX11_rest_2 M _ _ (f + 1) (nI k) = _
    rw [fX11_rest_2, hc, Option.bind_some, if_neg (nI_ge hk (by omega))]
    have hh := for_ex (σ := Int32) (fun f2 i x => fX11_rest_14 M (fX11_rest_47 M (fX11_rest_2 M (fX11_rest_51 M) (fX11_rest_59 M) f) (fX11_rest_51 M) (fX11_rest_59 M)) f2 (nI k) x i) (fun x => fX11_rest_47 M (fX11_rest_2 M (fX11_rest_51 M) (fX11_rest_59 M) f) (fX11_rest_51 M) (fX11_rest_59 M) (nI k) x) m
      (fun i x => x = bI (!(anyN (fun i => decide (0 < g i k)) i))) ?_ ?_ 1 rfl FU (FU_gt (by omega))
    · obtain ⟨x, x1, x2⟩ := hh
      rw [x2] at x1
      refine Eq.trans x1 ?_
      show fX11_rest_47 M _ _ _ (nI k) (bI (rsB g m k)) = _
      unfold fX11_rest_47
      simp only [nx_eq, nI_s]
      cases rsB g m k <;> rfl
    · rintro f2 i x hi rfl
      refine ⟨_, ?_, rfl⟩
      show fX11_rest_14 M _ (f2 + 1) (nI k) _ (nI i) = _
      rw [fX11_rest_14, hc, Option.bind_some, if_neg (nI_ge hi (by omega)), eg i k hi hk, Option.bind_some, any_st]
      unfold fX11_rest_39 fX11_rest_40
      simp only [nx_eq, nI_s]
      by_cases c1 : bI (!(anyN (fun i => decide (0 < g i k)) i)) = 0
      · rw [if_pos c1, if_pos c1]
      · rw [if_neg c1, if_neg c1]
        by_cases c2 : 0 < g i k
        · rw [if_pos c2, if_pos c2]
        · rw [if_neg c2, if_neg c2]
    · rintro f2 x rfl
      show fX11_rest_14 M _ (f2 + 1) (nI k) _ (nI m) = _
      rw [fX11_rest_14, hc, Option.bind_some, if_pos (nI_le (Nat.le_refl _) (by omega))]
  · intro f
    show fX11_rest_2 M _ _ (f + 1) (nI m) = _
    rw [fX11_rest_2, hc, Option.bind_some, if_pos (nI_le (Nat.le_refl _) (by omega))]
    rfl
/-! what Lots keeps -/
def LoC (M : Mem) (p : Nat) : Prop := M.1 36 5 = nI (min 8 p) ∧ M.1 36 7 = rsO (gD (cD M) (cP M) (min 8 p)) (min 8 p) (min 8 p) (-1) ∧ (((∀ h, ¬ isL (gD (cD M) (cP M) (min 8 p)) (min 8 p) h) ∧ M.1 36 6 = 0) ∨ ∃ h, FL (gD (cD M) (cP M) (min 8 p)) (min 8 p) h ∧ M.1 36 6 = 1 ∧ (∀ j, j < 8 → M.2 39 j = lN (av (gD (cD M) (cP M) (min 8 p)) h j / gA (av (gD (cD M) (cP M) (min 8 p)) h) (min 8 p))) ∧ M.2 36 4 = lN (fb_sm (fun j => av (gD (cD M) (cP M) (min 8 p)) h j / gA (av (gD (cD M) (cP M) (min 8 p)) h) (min 8 p)) (min 8 p)))
def OK (M : Mem) (p : Nat) : Prop := M.1 36 8 = M.1 1 14 → M.1 36 9 = M.1 1 15 → LoC M p
theorem LoC_on {M M1 : Mem} {p : Nat} (h : on [(1, 9, none), (36, 36, some 4), (36, 36, some 5), (36, 36, some 6), (36, 36, some 7), (39, 39, none)] M M1) (hl : LoC M p) : LoC M1 p := by
  have e : cD M1 = cD M := cD_on (h.sub (by decide))
  have e2 : cP M1 = cP M := cP_on (h.sub (by decide))
  unfold LoC
  rw [e, e2, h.i 36 5 rfl, h.i 36 7 rfl, h.i 36 6 rfl, h.l 36 4 rfl]
  obtain ⟨h1, h2, h3⟩ := hl
  refine ⟨h1, h2, ?_⟩
  rcases h3 with h3 | ⟨x, x1, x2, x3, x4⟩
  · exact Or.inl h3
  · exact Or.inr ⟨x, x1, x2, fun j hj => (h.l 39 j rfl).trans (x3 j hj), x4⟩
theorem OK_on {M M1 : Mem} {p : Nat} (h : on [(1, 9, none), (36, 36, none), (39, 39, none)] M M1) (hl : OK M p) : OK M1 p := by
  intro a b
  rw [h.i 36 8 rfl, h.i 1 14 rfl] at a
  rw [h.i 36 9 rfl, h.i 1 15 rfl] at b
  exact LoC_on (h.sub (by decide)) (hl a b)
theorem k_orefresh {M : Mem} {n p : Nat} (h : DI M n p) (hd : DC M p) (ho : OK M p) : ∃ M1, fX3_refresh M = some M1 ∧ LoC M1 p ∧ OK M1 p ∧ now M M1 36 8 9 ∧ sm [(36, 39, none)] M M1 := by
  have hp := h.p20
  have big : ∃ M1, fX3_refresh_31 M = some M1 ∧ LoC M1 p ∧ (M1.1 36 8 = M.1 1 14 ∧ M1.1 36 9 = M.1 1 15) ∧ sm [(36, 39, none)] M M1 := by
    unfold fX3_refresh_31
    simp only [nx_eq]
    have e15 : (sI M 36 8 (M.1 1 14)).1 1 15 = M.1 1 15 := by simp [sI]
    have e8 : (sI (sI M 36 8 (M.1 1 14)) 36 9 (M.1 1 15)).1 1 8 = M.1 1 8 := by simp [sI]
    rw [e15, e8, h.2.1.2.1]
    have emn : imin 8 (nI p) = nI (min 8 p) := by
      rw [fa_eq, imin_i, nI_toInt (by omega), nI_toInt (by omega)]
      have e8 : (8 : Int32).toInt = 8 := rfl
      rw [e8]
      split <;> omega
    rw [emn]
    generalize hM0 : sI (sI (sI M 36 8 (M.1 1 14)) 36 9 (M.1 1 15)) 36 5 (nI (min 8 p)) = M0
    generalize hmm : min 8 p = m
    have em : m = min 8 p := hmm.symm
    have hm : m ≤ 8 := by omega
    have s0 : sm [(36, 36, none)] M M0 := by rw [← hM0]; exact ((sm_rf.I (by rfl)).I (by rfl)).I (by rfl)
    have a5 : M0.1 36 5 = nI m := by rw [← hM0, hmm]; exact sI_at ..
    have a8 : M0.1 36 8 = M.1 1 14 := by rw [← hM0]; simp [sI]
    have a9 : M0.1 36 9 = M.1 1 15 := by rw [← hM0]; simp [sI]
    have h0 : DI M0 n p := DI_on (s0.on _ (by decide) (by decide)) h
    have d0 : DC M0 p := DC_on (s0.on _ (by decide) (by decide)) hd
    have c0 : cD M0 = cD M := cD_on (s0.on _ (by decide) (by decide))
    have c0P : cP M0 = cP M := cP_on (s0.on _ (by decide) (by decide))
    obtain ⟨M1, k1, k2, k3⟩ := k_gains h0 d0 em a5 fX3_refresh_122
    rw [k1, c0, c0P] at *
    have sg := gD_sm h m
    generalize hg : gD (cD M) (cP M) m = g at *
    unfold fX3_refresh_122
    have o1 := k3.on [(36, 36, none)] (by decide) (by decide)
    have b5 : M1.1 36 5 = nI m := (o1.i 36 5 rfl).trans a5
    -- the rest
    have r1 : ∃ M2, fX3_findRest M1 = some M2 ∧ M2.1 36 7 = rsO g m m (-1) ∧ sm [(36, 36, some 7)] M1 M2 := by
      unfold fX3_findRest
      rw [nx_eq, nx_eq]
      have sS : sm [(36, 36, some 7)] M1 (sI M1 36 7 (-1)) := sm_rf.I (by rfl)
      have oS := sS.on [(36, 36, some 5), (37, 37, none)] (by decide) (by decide)
      rw [oS.i 36 5 rfl, b5]
      obtain ⟨S1, s1, s2, s3⟩ := k_rest12 (g := g) hm fX3_findRest_68 m FU (sI M1 36 7 (-1)) (FU_gt (by omega)) (Nat.le_refl _) ((oS.i 36 5 rfl).trans b5) (fun i j hi hj => (oS.i 37 _ rfl).trans (k2 i j hi hj))
      rw [s1]
      refine ⟨S1, rfl, ?_, sS.tr s3⟩
      rw [s2, sI_at]
    obtain ⟨M2, r1, r2, r3⟩ := r1
    rw [r1, Option.bind_some]
    have o2 := r3.on [(36, 36, some 5), (37, 37, none), (36, 36, some 8), (36, 36, some 9)] (by decide) (by decide)
    obtain ⟨M3, f1, f2, f3⟩ := k_fillPf (M := M2) hm ((o2.i 36 5 rfl).trans b5) (fun i j hi hj => (o2.i 37 _ rfl).trans (k2 i j hi hj)) sg
    rw [f1, Option.bind_some]
    have o3 := f3.on [(36, 37, none)] (by decide) (by decide)
    obtain ⟨M4, l1, l2, l3⟩ := k_findLots (M := M3) hm ((o3.i 36 5 rfl).trans ((o2.i 36 5 rfl).trans b5)) (fun i j hi hj => (o3.i 37 _ rfl).trans ((o2.i 37 _ rfl).trans (k2 i j hi hj))) sg f2
    rw [l1, Option.bind_some]
    have o4 := l3.on [(36, 36, some 5), (36, 36, some 7), (36, 36, some 8), (36, 36, some 9)] (by decide) (by decide)
    have sAll : sm [(36, 39, none)] M M4 := ((((s0.up (by decide)).tr (k3.up (by decide))).tr (r3.up (by decide))).tr (f3.up (by decide))).tr (l3.up (by decide))
    have cD4 : cD M4 = cD M := cD_on (sAll.on _ (by decide) (by decide))
    have cP4 : cP M4 = cP M := cP_on (sAll.on _ (by decide) (by decide))
    refine ⟨M4, rfl, ?_, ⟨?_, ?_⟩, sAll⟩
    · unfold LoC
      rw [hmm, cD4, cP4, hg]
      refine ⟨?_, ?_, l2⟩
      · rw [o4.i 36 5 rfl, o3.i 36 5 rfl, o2.i 36 5 rfl]; exact b5
      · rw [o4.i 36 7 rfl, o3.i 36 7 rfl]; exact r2
    · rw [o4.i 36 8 rfl, o3.i 36 8 rfl, o2.i 36 8 rfl, o1.i 36 8 rfl]; exact a8
    · rw [o4.i 36 9 rfl, o3.i 36 9 rfl, o2.i 36 9 rfl, o1.i 36 9 rfl]; exact a9
  have fin : (∃ M1, fX3_refresh_31 M = some M1 ∧ LoC M1 p ∧ (M1.1 36 8 = M.1 1 14 ∧ M1.1 36 9 = M.1 1 15) ∧ sm [(36, 39, none)] M M1) → ∃ M1, fX3_refresh_31 M = some M1 ∧ LoC M1 p ∧ OK M1 p ∧ now M M1 36 8 9 ∧ sm [(36, 39, none)] M M1 := by
    rintro ⟨M1, q1, q2, q3, q4⟩
    exact ⟨M1, q1, q2, fun _ _ => q2, Or.inr q3, q4⟩
  unfold fX3_refresh
  by_cases c1 : M.1 36 8 = M.1 1 14
  · rw [if_pos c1]
    by_cases c2 : M.1 36 9 = M.1 1 15
    · rw [if_pos c2]
      exact ⟨M, rfl, ho c1 c2, ho, Or.inl ⟨rfl, rfl⟩, sm_rf⟩
    · rw [if_neg c2]; exact fin big
  · rw [if_neg c1]; exact fin big
def rgOl : Rg := [(21, 25, none), (36, 39, none), (89, 97, none)]
theorem s_rest {M : Mem} {n p : Nat} (h : DI M n p) (hk : DK M p) (ho : OK M p) : ∃ r M1, fX10_rest M = some (r, M1) ∧ fX11_rest M1 = some r ∧ sm [(21, 25, none), (36, 39, none)] M M1 ∧ DK M1 p ∧ OK M1 p ∧ now M M1 21 7 8 ∧ now M M1 36 8 9 := by
  obtain ⟨M1, q1, q2, q3, q4⟩ := k_ref h hk
  obtain ⟨q5, q6, q7⟩ := q4
  have ho1 : OK M1 p := OK_on (q5.on _ (by decide) (by decide)) ho
  obtain ⟨M2, t1, t2, t3, t4, t5⟩ := k_orefresh q3 q2 ho1
  have h2 : DI M2 n p := DI_on (t5.on _ (by decide) (by decide)) q3
  have o := q5.on [(1, 1, none), (36, 36, none)] (by decide) (by decide)
  refine ⟨rsO (gD (cD M2) (cP M2) (min 8 p)) (min 8 p) (min 8 p) (-1), M2, ?_, ?_, (q5.up (by decide)).tr (t5.up (by decide)), DK_on (t5.on _ (by decide) (by decide)) q6, t3, ?_, ?_⟩
  · unfold fX10_rest
    rw [q1, Option.bind_some, t1, Option.bind_some, t2.2.1]
  · exact e_rest h2 rfl
  · unfold now
    have o2 := t5.on [(21, 21, none)] (by decide) (by decide)
    rw [o2.i 21 7 rfl, o2.i 21 8 rfl]
    exact q7
  · unfold now at t4 ⊢
    rw [o.i 36 8 rfl, o.i 36 9 rfl, o.i 1 14 rfl, o.i 1 15 rfl] at t4
    exact t4
theorem e_fills {M : Mem} {n p m : Nat} (h : DI M n p) (em : m = min 8 p) (K : Mem → Option (Int32 × Mem)) : ∃ X, fX11_findsLots_2 K FU 0 M = K X ∧ (∀ i j, i < m → j < m → X.2 (89 + i) j = gL (gD (cD M) (cP M) m) i j) ∧ sm [(89, 96, none)] M X := by
  have hp := h.p20
  have hm : m ≤ 8 := by omega
  have hc : ∀ {X : Mem}, sm [(89, 96, none)] M X → fX11_chosen X = some (nI m) := by
    intro X hX
    rw [e_chosen ((hX.on [(74, 74, none)] (by decide) (by decide)).i 74 0 rfl |>.trans h.2.1.2.2.2) hp, em]
  have hh := for_ex (σ := Mem) (fun f i s => fX11_findsLots_2 K f i s) (fun s => K s) m
    (fun a S => sm [(89, 96, none)] M S ∧ ∀ i j, i < a → j < m → S.2 (89 + i) j = gL (gD (cD M) (cP M) m) i j) ?_ ?_ M ⟨sm_rf, fun i j h => absurd h (by omega)⟩ FU (FU_gt (by omega))
  · obtain ⟨M1, k1, k2, k3⟩ := hh
    exact ⟨M1, k1, k3, k2⟩
  · rintro f a S ha ⟨g1, g2⟩
    have hun : fX11_findsLots_2 K (f + 1) (nI a) S = fX11_findsLots_12 (fX11_findsLots_41 (fX11_findsLots_2 K f) K) FU (nI a) (nI 0) S := by
      rw [fX11_findsLots_2, hc g1, Option.bind_some, if_neg (nI_ge ha (by omega))]; rfl
    have hh := for_ex (σ := Mem) (fun f2 j s => fX11_findsLots_12 (fX11_findsLots_41 (fX11_findsLots_2 K f) K) f2 (nI a) j s) (fun s => fX11_findsLots_2 K f (nI (a + 1)) s) m
      (fun b S => sm [(89, 96, none)] M S ∧ (∀ i j, i < a → j < m → S.2 (89 + i) j = gL (gD (cD M) (cP M) m) i j) ∧ ∀ j, j < b → S.2 (89 + a) j = gL (gD (cD M) (cP M) m) a j) ?_ ?_ S ⟨g1, g2, fun j h => absurd h (by omega)⟩ FU (FU_gt (by omega))
    · obtain ⟨S1, k1, k2, k3, k4⟩ := hh
      refine ⟨S1, hun.trans k1, k2, fun i j hi hj => ?_⟩
      by_cases e : i = a
      · rw [e]; exact k4 j hj
      · exact k3 i j (by omega) hj
    · rintro f2 b S hb ⟨g1, g2, g3⟩
      have hS : DI S n p := DI_on (g1.on _ (by decide) (by decide)) h
      have e1 : cD S = cD M := cD_on (g1.on _ (by decide) (by decide))
      have e2 : cP S = cP M := cP_on (g1.on _ (by decide) (by decide))
      refine ⟨sL S (89 + a) b (gL (gD (cD M) (cP M) m) a b), ?_, g1.Lg (in89 (by omega) b), fun i j hi hj => ?_, fun j hj => ?_⟩
      · show fX11_findsLots_12 _ (f2 + 1) (nI a) (nI b) S = _
        rw [fX11_findsLots_12, hc g1, Option.bind_some, if_neg (nI_ge hb (by omega)), if_pos (inb_nI (show a < 8 by omega) (by decide)), e_gain hS em ha hb, Option.bind_some, if_pos (inb_nI (show b < 8 by omega) (by decide)), nx_eq, nx_eq, nI_s, ix_nI (show a < 2147483648 by omega), ix_nI (show b < 2147483648 by omega), e1, e2]
        rfl
      · rw [sL_ne _ _ (fun q => absurd q.1 (by omega))]
        exact g2 i j hi hj
      · by_cases e : j = b
        · rw [e]; exact sL_at ..
        · rw [sL_ne _ _ (fun q => e q.2)]
          exact g3 j (by omega)
    · rintro f2 S ⟨g1, -⟩
      show fX11_findsLots_12 _ (f2 + 1) (nI a) (nI m) S = _
      rw [fX11_findsLots_12, hc g1, Option.bind_some, if_pos (nI_le (Nat.le_refl _) (by omega))]
      unfold fX11_findsLots_41
      rw [nx_eq, nI_s]
  · rintro f S ⟨g1, -⟩
    show fX11_findsLots_2 K (f + 1) (nI m) S = _
    rw [fX11_findsLots_2, hc g1, Option.bind_some, if_pos (nI_le (Nat.le_refl _) (by omega))]
theorem sm_ext {f : Nat → Nat} {m : Nat} (h : ∀ j, m ≤ j → j < 8 → f j = 0) : ∀ {d : Nat}, m + d ≤ 8 → fb_sm f (m + d) = fb_sm f m
  | 0, _ => rfl
  | d + 1, hd => by
    have ih := sm_ext h (d := d) (by omega)
    have e : m + (d + 1) = (m + d) + 1 := by omega
    rw [e, fb_sm_succ, h (m + d) (by omega) (by omega), ih, Nat.add_zero]
theorem s_lot {M : Mem} {n p : Nat} (h : DI M n p) (hk : DK M p) (ho : OK M p) (a : Int32) : ∃ r M1 M2, fX10_lot a M = some (r, M1) ∧ fX11_lot a M1 = some (r, M2) ∧ sm rgOl M M2 ∧ DK M2 p ∧ OK M2 p ∧ now M M2 21 7 8 ∧ now M M2 36 8 9 := by
  have hp := h.p20
  obtain ⟨M1, q1, q2, q3, q4⟩ := k_ref h hk
  obtain ⟨q5, q6, q7⟩ := q4
  have ho1 : OK M1 p := OK_on (q5.on _ (by decide) (by decide)) ho
  obtain ⟨M2, t1, t2, t3, t4, t5⟩ := k_orefresh q3 q2 ho1
  have h2 : DI M2 n p := DI_on (t5.on _ (by decide) (by decide)) q3
  have o := q5.on [(1, 1, none), (36, 36, none)] (by decide) (by decide)
  have s12 : sm [(21, 25, none), (36, 39, none)] M M2 := (q5.up (by decide)).tr (t5.up (by decide))
  have dk2 : DK M2 p := DK_on (t5.on _ (by decide) (by decide)) q6
  have n21 : now M M2 21 7 8 := by
    unfold now
    have o2 := t5.on [(21, 21, none)] (by decide) (by decide)
    rw [o2.i 21 7 rfl, o2.i 21 8 rfl]
    exact q7
  have n36 : now M M2 36 8 9 := by
    unfold now at t4 ⊢
    rw [o.i 36 8 rfl, o.i 36 9 rfl, o.i 1 14 rfl, o.i 1 15 rfl] at t4
    exact t4
  have fin : ∀ r X, fX10_lot a M = some (r, M2) → fX11_lot a M2 = some (r, X) → sm [(89, 97, none)] M2 X → ∃ r M1 M2, fX10_lot a M = some (r, M1) ∧ fX11_lot a M1 = some (r, M2) ∧ sm rgOl M M2 ∧ DK M2 p ∧ OK M2 p ∧ now M M2 21 7 8 ∧ now M M2 36 8 9 := by
    intro r X r1 r2 r3
    have oX := r3.on [(21, 21, none), (36, 36, none)] (by decide) (by decide)
    refine ⟨r, M2, X, r1, r2, (s12.up (by decide)).tr (r3.up (by decide)), DK_on (r3.on _ (by decide) (by decide)) dk2, OK_on (r3.on _ (by decide) (by decide)) t3, ?_, ?_⟩
    · unfold now at n21 ⊢
      rw [oX.i 21 7 rfl, oX.i 21 8 rfl]; exact n21
    · unfold now at n36 ⊢
      rw [oX.i 36 8 rfl, oX.i 36 9 rfl]; exact n36
  obtain ⟨c5, -, c7⟩ := t2
  generalize hmm : min 8 p = m at *
  have em : m = min 8 p := hmm.symm
  have hm : m ≤ 8 := by omega
  have sg := gD_sm h2 m
  have hc : fX11_chosen M2 = some (nI m) := by rw [e_chosen h2.2.1.2.2.2 hp, em]
  have z64 : (-1 : Int64).toInt = -1 := rfl
  have t1m : (nI m - 1).toInt = (m : Int) - 1 := by
    have z : (1 : Int32).toInt = 1 := rfl
    rw [fb_subI (by rw [nI_toInt (by omega), z]; omega) (by rw [nI_toInt (by omega), z]; omega), nI_toInt (by omega), z]
  have hin : fX11_in M2 a.toInt64 (-1) ((nI m - 1).toInt64) = some (bI (decide (-1 ≤ a.toInt ∧ a.toInt < m))) := by
    rw [e_in]
    congr 1
    congr 1
    simp only [fa_le64, Int32.toInt_toInt64, t1m, z64]
    by_cases c1 : -1 ≤ a.toInt <;> by_cases c2 : a.toInt < m
    · simp [c1, c2]; omega
    · simp [c1, c2]; omega
    · simp [c1]
    · simp [c1]
  have u1 : fX10_lot a M = if (M2.1 36 6) = 0 then some (-1, M2) else if -1 ≤ a.toInt ∧ a.toInt < m then (if a = -1 then some ((M2.2 36 4).toInt32, M2) else some ((M2.2 39 (ix a)).toInt32, M2)) else some (-1, M2) := by
    unfold fX10_lot fX10_lot_40 fX10_lot_68
    rw [q1, Option.bind_some, t1, Option.bind_some, c5]
    by_cases c1 : M2.1 36 6 = 0
    · rw [if_pos c1, if_pos c1]
    · rw [if_neg c1, if_neg c1]
      have m1 : (-1 : Int32).toInt = -1 := rfl
      by_cases c2 : a < -1
      · have := (fa_lt _ _).mp c2
        rw [if_pos c2, if_neg (by omega)]
      · have n2 : ¬ a.toInt < -1 := fun w => c2 ((fa_lt _ _).mpr w)
        rw [if_neg c2]
        by_cases c3 : a < nI m
        · have := (fa_lt _ _).mp c3
          rw [nI_toInt (by omega)] at this
          rw [if_pos c3, if_pos (show -1 ≤ a.toInt ∧ a.toInt < m from ⟨by omega, by omega⟩)]
          by_cases c4 : a = -1
          · rw [if_pos c4, if_pos c4]
          · have n4 : ¬ a.toInt = -1 := fun w => c4 ((fa_eq _ _).mpr w)
            rw [if_neg c4, if_neg c4]
            obtain ⟨j, hj, rfl⟩ := inN_of (n := 8) (x := a) (by simp only [inN, Bool.and_eq_true, decide_eq_true_eq]; omega) (by decide)
            rw [if_pos (inb_nI hj (by decide))]
        · have : ¬ a.toInt < m := fun w => c3 ((fa_lt _ _).mpr (by rw [nI_toInt (by omega)]; exact w))
          rw [if_neg c3, if_neg (by omega)]
  by_cases inr : -1 ≤ a.toInt ∧ a.toInt < m
  · obtain ⟨X1, x1, x2, x3⟩ := e_fills h2 em fX11_findsLots_47
    have oX := x3.on [(74, 74, none)] (by decide) (by decide)
    obtain ⟨c, X, y1, y2, y3⟩ := e_search (M := X1) (g := gD (cD M2) (cP M2) m) hp ((oX.i 74 0 rfl).trans h2.2.1.2.2.2) em x2 sg
    have s2X : sm [(89, 97, none)] M2 X := (x3.up (by decide)).tr (y3.up (by decide))
    have u2 : fX11_lot a M2 = if c = 0 then some (-1, X) else fX11_lot_32 fX11_lot_55 FU a 0 0 X := by
      unfold fX11_lot fX11_lot_25
      rw [hc, Option.bind_some, hin, Option.bind_some, decide_eq_true inr, if_neg (by decide)]
      unfold fX11_findsLots
      rw [x1, y1, Option.bind_some]
    rcases c7 with ⟨n1, n2⟩ | ⟨hL, f1, f2, f3, f4⟩
    · rcases y2 with ⟨w1, w2⟩ | ⟨k, w1, -⟩
      · rw [if_pos n2] at u1
        rw [if_pos w2] at u2
        exact fin _ X u1 u2 s2X
      · exact absurd w1.1 (n1 k)
    · rcases y2 with ⟨w1, -⟩ | ⟨k, w1, w2, w3⟩
      · exact absurd f1.1 (w1 hL)
      · have e := FL_one f1 w1
        subst e
        have l1 := f1.1.2.1
        have ho1 := f1.1.2.2.1
        have h256 : hL < 256 := by have := pw8 hm; omega
        generalize hg : gD (cD M2) (cP M2) m = g at *
        have out : ∀ j, m ≤ j → j < 8 → av g hL j = 0 := fun j h1 h2 => av_0 ((m_tab4 m hm hL l1).1 j h2 h1)
        have ge : gA (av g hL) 8 = gA (av g hL) m := by
          have := gA_end out (d := 8 - m) (by omega)
          rw [show m + (8 - m) = 8 by omega] at this
          exact this
        rw [ge] at w3
        have qb : ∀ j, j < 8 → av g hL j / gA (av g hL) m ≤ 1300000000 := fun j hj => Nat.le_trans (Nat.div_le_self _ _) (av_b sg h256 ho1 hj)
        have sume : fb_sm (fun j => av g hL j / gA (av g hL) m) 8 = fb_sm (fun j => av g hL j / gA (av g hL) m) m := by
          have := sm_ext (f := fun j => av g hL j / gA (av g hL) m) (m := m) (fun j h1 h2 => by rw [out j h1 h2, Nat.zero_div]) (d := 8 - m) (by omega)
          rw [show m + (8 - m) = 8 by omega] at this
          exact this
        have e8 : (8 : Int32) = nI 8 := rfl
        have hh := for_ex (σ := Int64) (fun f i y => fX11_lot_32 fX11_lot_55 f a y i X) (fun y => fX11_lot_55 a y X) 8
          (fun i y => y = lN (fb_sm (fun j => av g hL j / gA (av g hL) m) i)) ?_ ?_ 0 rfl FU (FU_gt (by omega))
        · obtain ⟨y, v1, v2⟩ := hh
          have v1 : fX11_lot_32 fX11_lot_55 FU a 0 0 X = fX11_lot_55 a y X := v1
          rw [if_neg (show ¬ c = 0 by rw [w2]; decide), v1, v2, sume, ← f4] at u2
          rw [if_neg (show ¬ M2.1 36 6 = 0 by rw [f2]; decide), if_pos inr] at u1
          unfold fX11_lot_55 fX11_lot_70 at u2
          by_cases c4 : a = -1
          · rw [if_pos c4] at u1 u2
            exact fin _ X u1 u2 s2X
          · have m1 : (-1 : Int32).toInt = -1 := rfl
            have n4 : ¬ a.toInt = -1 := fun w => c4 ((fa_eq _ _).mpr w)
            rw [if_neg c4] at u1 u2
            obtain ⟨j, hj, rfl⟩ := inN_of (n := 8) (x := a) (by simp only [inN, Bool.and_eq_true, decide_eq_true_eq]; omega) (by decide)
            rw [if_pos (inb_nI hj (by decide)), ix_nI (by omega), w3 j hj] at u2
            rw [ix_nI (by omega), f3 j hj] at u1
            exact fin _ X u1 u2 s2X
        · rintro f i y hi rfl
          refine ⟨_, ?_, rfl⟩
          show fX11_lot_32 _ (f + 1) a _ (nI i) X = _
          have sb := fb_sm_bound (f := fun j => av g hL j / gA (av g hL) m) (c := 1300000000) (n := i) (fun k hk => qb k (by omega))
          have := qb i hi
          rw [fX11_lot_32, e8, if_neg (nI_ge hi (by omega)), if_pos (inb_nI hi (by decide)), nx_eq, nx_eq, nI_s, ix_nI (by omega), w3 i hi, lN_add2 (by omega)]
          rfl
        · rintro f y rfl
          show fX11_lot_32 _ (f + 1) a _ (nI 8) X = _
          rw [fX11_lot_32, e8, if_pos (nI_le (Nat.le_refl _) (by omega))]
  · have u2 : fX11_lot a M2 = some (-1, M2) := by
      unfold fX11_lot fX11_lot_25
      rw [hc, Option.bind_some, hin, Option.bind_some, decide_eq_false inr]
      rfl
    rw [if_neg inr] at u1
    have u1 : fX10_lot a M = some (-1, M2) := by
      rw [u1]
      split <;> rfl
    exact fin _ M2 u1 u2 sm_rf
