/-! marks of a voter in row 142 -/
theorem k_col_142 {M : Mem} {n p v c ρ : Nat} (h : DI M n p) (hv : v < n) (hc : c < 100) (h0 : 0 < ρ) (hρ : ρ ≤ 100) : ∃ M1, fX1_markColumn_142 (nI v) (nI c) (nI (ρ - 1)) M = some M1 ∧ (∀ c1 y, c1 < 100 → y < 100 → preF (M1.1 142) c1 y = preF (M.1 142) c1 y + (if c1 = c ∧ adf y (yN (cD M) v) < ρ then M.1 4 v else 0)) ∧ sm [(142, 142, none)] M M1 := by
  have hn := h.n15
  obtain ⟨-, ⟨h3, h4⟩, -⟩ := h.nat hv
  generalize hY : yN (cD M) v = Y at *
  have hv15 := inb_nI (show v < 15 by omega) (by decide)
  have z : (0 : Int32).toInt = 0 := rfl
  have e100 : (100 : Int32) = nI 100 := rfl
  have ef : imax 0 (nI Y - nI (ρ - 1)) = nI (Y - (ρ - 1)) := by
    have e : (nI Y - nI (ρ - 1)).toInt = (Y : Int) - ((ρ - 1 : Nat) : Int) := pk_sub_toInt (by omega) (by omega)
    rw [fa_eq, imax_i, e, z, nI_toInt (by omega)]
    split <;> omega
  have eb : nI Y + nI (ρ - 1) + 1 = nI (Y + ρ) := by
    rw [nI_add, nI_s]; congr 1; omega
  have ei : ∀ q : Nat, nI c * 100 + nI q = nI (c * 100 + q) := fun q => by rw [e100, pk_mul, nI_add]
  unfold fX1_markColumn_142 fX1_markColumn_142_94
  rw [if_neg (show ¬ nI c < 0 by rw [fa_lt, nI_toInt (by omega), z]; omega), e100, if_pos (show nI c < nI 100 by rw [nI_ltJ (by omega) (by omega)]; omega)]
  simp only [hv15, if_true, ix_nI (show v < 2147483648 by omega), nx_eq, h4]
  rw [ef, eb, ← e100, ei, ei]
  have i1 := inb_nI (show c * 100 + (Y - (ρ - 1)) < 10000 by omega) (by decide)
  simp only [i1, if_true, ix_nI (show c * 100 + (Y - (ρ - 1)) < 2147483648 by omega)]
  generalize hM1 : sI M 142 (c * 100 + (Y - (ρ - 1))) (M.1 142 (c * 100 + (Y - (ρ - 1))) + M.1 4 v) = M1
  have s1 : sm [(142, 142, none)] M M1 := by rw [← hM1]; exact sm_rf.I (by rfl)
  have p1 : ∀ c1 y, y < 100 → preF (M1.1 142) c1 y = preF (M.1 142) c1 y + (if c1 = c ∧ Y - (ρ - 1) ≤ y then M.1 4 v else 0) := by
    intro c1 y hy
    refine pre_put (a := Y - (ρ - 1)) (by omega) ?_ (fun q hq => ?_) hy
    · rw [← hM1]; exact sI_at ..
    · rw [← hM1]; exact sI_nj _ _ hq
  rw [e100]
  by_cases cb : 100 ≤ Y + ρ
  · rw [if_pos (nI_le cb (by omega))]
    refine ⟨M1, rfl, fun c1 y _ hy => ?_, s1⟩
    rw [p1 c1 y hy]
    congr 1
    by_cases q : c1 = c ∧ adf y Y < ρ
    · rw [if_pos q, if_pos ⟨q.1, by have := q.2; unfold adf at this; split at this <;> omega⟩]
    · rw [if_neg q, if_neg (fun w => q ⟨w.1, by unfold adf; split <;> omega⟩)]
  · have i2 := inb_nI (show c * 100 + (Y + ρ) < 10000 by omega) (by decide)
    rw [if_neg (nI_ge (by omega) (by omega)), if_pos i2, if_pos i2]
    have w4 : M1.1 4 v = M.1 4 v := (s1.on [(4, 4, none)] (by decide) (by decide)).i 4 v rfl
    rw [ix_nI (by omega), w4]
    refine ⟨_, rfl, fun c1 y _ hy => ?_, s1.I (by rfl)⟩
    rw [pre_put (R := M1.1 142) (c := c) (a := Y + ρ) (d := -(M.1 4 v)) (by omega) (by rw [sI_at, Int32.sub_eq_add_neg]) (fun q hq => sI_nj _ _ hq) hy, p1 c1 y hy, Int32.add_assoc]
    congr 1
    by_cases q : c1 = c ∧ adf y Y < ρ
    · have q2 := q.2
      unfold adf at q2
      rw [if_pos q, if_pos ⟨q.1, by split at q2 <;> omega⟩, if_neg (fun w => by have := w.2; split at q2 <;> omega), Int32.add_zero]
    · rw [if_neg q]
      by_cases q1 : c1 = c ∧ Y - (ρ - 1) ≤ y
      · have : Y + ρ ≤ y := by
          by_cases w : Y + ρ ≤ y
          · exact w
          · exact absurd ⟨q1.1, by unfold adf; split <;> omega⟩ q
        rw [if_pos q1, if_pos ⟨q1.1, this⟩, ← Int32.sub_eq_add_neg, Int32.sub_self]
      · rw [if_neg q1, if_neg (fun w => q1 ⟨w.1, by omega⟩), Int32.add_zero]
/-- off the sheet -/
theorem k_off_142 {M : Mem} {x : Int32} (hx : x.toInt < 0 ∨ 100 ≤ x.toInt) (v r : Int32) : fX1_markColumn_142 v x r M = some M := by
  have z : (0 : Int32).toInt = 0 := rfl
  have h100 : (100 : Int32).toInt = 100 := rfl
  unfold fX1_markColumn_142 fX1_markColumn_142_10
  by_cases c : x < 0
  · rw [if_pos c]
  · have : ¬ x.toInt < (0 : Int32).toInt := fun w => c ((fa_lt _ _).mpr w)
    rw [if_neg c, if_neg (show ¬ x < 100 by rw [fa_lt, h100]; omega)]
theorem k_reach_142 {M : Mem} {n p v dx : Nat} {lim : Int32} (h : DI M n p) (hv : v < n) (hdx : dx ≤ 99) (K : Int32 → Int32 → Int32 → Int32 → Mem → Option Mem) : ∀ (ρ f : Nat), ρ < f → ρ ≤ 100 → (∀ r, ρ ≤ r → r < 100 → lim.toInt < (wO (cD M) v dx r : Int)) → ∃ r1, r1 ≤ ρ ∧ fX1_markWithin_142_14 K f (nI v) lim (nI ρ - 1) (nI dx) M = K (nI v) lim (nI r1 - 1) (nI dx) M ∧ ∀ r, r < 100 → (r < r1 ↔ (wO (cD M) v dx r : Int) ≤ lim.toInt)
  | 0, f, hf, h1, h2 => by
    obtain ⟨f, rfl⟩ : ∃ g, f = g + 1 := ⟨f - 1, by omega⟩
    refine ⟨0, Nat.le_refl _, ?_, fun r hr => ?_⟩
    · rw [fX1_markWithin_142_14, if_pos (by decide)]
    · have := h2 r (by omega) hr
      omega
  | ρ + 1, f, hf, h1, h2 => by
    obtain ⟨f, rfl⟩ : ∃ g, f = g + 1 := ⟨f - 1, by omega⟩
    have e1 : nI (ρ + 1) - 1 = nI ρ := pk_sub (a := ρ + 1) (b := 1) (by omega)
    have e2 : nI ρ + (-1) = nI ρ - 1 := by rw [Int32.sub_eq_add_neg]
    have z : (0 : Int32).toInt = 0 := rfl
    have wb := wO_b h hv hdx (show ρ ≤ 99 by omega)
    have hun : fX1_markWithin_142_14 K (f + 1) (nI v) lim (nI (ρ + 1) - 1) (nI dx) M = if nI (wO (cD M) v dx ρ) ≤ lim then K (nI v) lim (nI (ρ + 1) - 1) (nI dx) M else fX1_markWithin_142_14 K f (nI v) lim (nI ρ - 1) (nI dx) M := by
      rw [fX1_markWithin_142_14, e1, if_neg (show ¬ nI ρ < 0 by rw [fa_lt, nI_toInt (by omega), z]; omega), k_wO h hv hdx (by omega), Option.bind_some, nx_eq, e2]
    by_cases c : nI (wO (cD M) v dx ρ) ≤ lim
    · have c' := (fa_le _ _).mp c
      rw [nI_toInt (by omega)] at c'
      rw [if_pos c] at hun
      refine ⟨ρ + 1, Nat.le_refl _, hun, fun r hr => ⟨fun w => ?_, fun w => ?_⟩⟩
      · have := wO_mono (D := cD M) (v := v) (a := dx) (b := r) (c := dx) (d := ρ) (Nat.le_refl _) (by omega)
        omega
      · by_cases q : r < ρ + 1
        · exact q
        · have := h2 r (by omega) hr
          omega
    · have c' : ¬ (wO (cD M) v dx ρ : Int) ≤ lim.toInt := fun w => c ((fa_le _ _).mpr (by rw [nI_toInt (by omega)]; exact w))
      rw [if_neg c] at hun
      obtain ⟨r1, q1, q2, q3⟩ := k_reach_142 (lim := lim) h hv hdx K ρ f (by omega) (by omega) (fun r a b => by
        by_cases e : r = ρ
        · rw [e]; omega
        · exact h2 r (by omega) b)
      exact ⟨r1, by omega, hun.trans q2, q3⟩
/-- what lies within the limit gets the weight -/
theorem k_within_142 {M : Mem} {n p v : Nat} {lim : Int32} (h : DI M n p) (hv : v < n) : ∃ M1, fX1_markWithin_142 (nI v) lim M = some M1 ∧ (∀ c y, c < 100 → y < 100 → preF (M1.1 142) c y = preF (M.1 142) c y + (if (wP (cD M) v c y : Int) ≤ lim.toInt then M.1 4 v else 0)) ∧ sm [(142, 142, none)] M M1 := by
  have hn := h.n15
  have e100 : (100 : Int32) = nI 100 := rfl
  obtain ⟨⟨hx1, hx2⟩, ⟨hy1, hy2⟩, -⟩ := h.nat hv
  have hv15 := inb_nI (show v < 15 by omega) (by decide)
  unfold fX1_markWithin_142
  have hh := for_or (σ := Nat × Mem) (fun f d s => fX1_markWithin_142_7 fX1_markWithin_142_46 fX1_markWithin_142_98 f (nI v) lim (nI s.1 - 1) d s.2) (fun s => some s.2) (fun ρ => ∃ X, ρ = some X ∧ (∀ c y, c < 100 → y < 100 → preF (X.1 142) c y = preF (M.1 142) c y + (if (wP (cD M) v c y : Int) ≤ lim.toInt then M.1 4 v else 0)) ∧ sm [(142, 142, none)] M X) 0 100 (by omega)
    (fun d s => sm [(142, 142, none)] M s.2 ∧ s.1 ≤ 100 ∧ (∀ r, s.1 ≤ r → r < 100 → lim.toInt < (wO (cD M) v d r : Int)) ∧ ∀ c y, c < 100 → y < 100 → preF (s.2.1 142) c y = preF (M.1 142) c y + (if adf c (xN (cD M) v) < d ∧ (wP (cD M) v c y : Int) ≤ lim.toInt then M.1 4 v else 0)) ?_ ?_ (100, M) ⟨sm_rf, Nat.le_refl 100, fun r a b => absurd b (by have : (100 : Nat) ≤ r := a; omega), fun c y hc hy => by rw [if_neg (fun w => by have := w.1; omega), Int32.add_zero]⟩ FU (by have := FU_gt (n := 100) (by omega); omega)
  · rw [show (99 : Int32) = nI 100 - 1 from rfl]
    rcases hh with ⟨X, k1, k2, k3⟩ | ⟨⟨ρ, X⟩, k1, k2, -, -, k3⟩
    · exact ⟨X, k1, k2, k3⟩
    · refine ⟨X, k1, fun c y hc hy => ?_, k2⟩
      have := k3 c y hc hy
      have ab := adf_b hc hx1
      have e : (adf c (xN (cD M) v) < 100 ∧ (wP (cD M) v c y : Int) ≤ lim.toInt) ↔ (wP (cD M) v c y : Int) ≤ lim.toInt := ⟨fun w => w.2, fun w => ⟨by omega, w⟩⟩
      rw [show preF (X.1 142) c y = _ from this]
      simp only [e]
  · rintro f d ⟨ρ, X⟩ - hd ⟨g1, g2, g3, g4⟩
    have g1 : sm [(142, 142, none)] M X := g1
    have g2 : ρ ≤ 100 := g2
    have g3 : ∀ r, ρ ≤ r → r < 100 → lim.toInt < (wO (cD M) v d r : Int) := g3
    have g4 : ∀ c y, c < 100 → y < 100 → preF (X.1 142) c y = preF (M.1 142) c y + (if adf c (xN (cD M) v) < d ∧ (wP (cD M) v c y : Int) ≤ lim.toInt then M.1 4 v else 0) := g4
    have hX : DI X n p := DI_on (g1.on _ (by decide) (by decide)) h
    have eX : cD X = cD M := cD_on (g1.on _ (by decide) (by decide))
    obtain ⟨r1, q1, q2, q3⟩ := k_reach_142 (lim := lim) hX hv (show d ≤ 99 by omega) (fX1_markWithin_142_41 (fX1_markWithin_142_7 fX1_markWithin_142_46 fX1_markWithin_142_98 f) fX1_markWithin_142_46 fX1_markWithin_142_98) ρ FU (FU_gt (by omega)) g2 (by rw [eX]; exact g3)
    rw [eX] at q3
    have hun : fX1_markWithin_142_7 fX1_markWithin_142_46 fX1_markWithin_142_98 (f + 1) (nI v) lim (nI ρ - 1) (nI d) X = fX1_markWithin_142_41 (fX1_markWithin_142_7 fX1_markWithin_142_46 fX1_markWithin_142_98 f) fX1_markWithin_142_46 fX1_markWithin_142_98 (nI v) lim (nI r1 - 1) (nI d) X := by
      rw [fX1_markWithin_142_7, e100, if_neg (nI_ge hd (by omega)), q2]
    -- within the limit in the columns at this distance
    have inP : ∀ c y, c < 100 → y < 100 → adf c (xN (cD M) v) = d → ((wP (cD M) v c y : Int) ≤ lim.toInt ↔ adf y (yN (cD M) v) < r1) := by
      intro c y hc hy e
      have := q3 (adf y (yN (cD M) v)) (by have := adf_b hy hy1; omega)
      rw [this]
      unfold wP
      rw [e]
    show (fun ρ => ∃ X, ρ = some X ∧ (∀ c y, c < 100 → y < 100 → preF (X.1 142) c y = preF (M.1 142) c y + (if (wP (cD M) v c y : Int) ≤ lim.toInt then M.1 4 v else 0)) ∧ sm [(142, 142, none)] M X) (fX1_markWithin_142_7 fX1_markWithin_142_46 fX1_markWithin_142_98 (f + 1) (nI v) lim (nI ρ - 1) (nI d) X) ∨ ∃ s1 : Nat × Mem, fX1_markWithin_142_7 fX1_markWithin_142_46 fX1_markWithin_142_98 (f + 1) (nI v) lim (nI ρ - 1) (nI d) X = fX1_markWithin_142_7 fX1_markWithin_142_46 fX1_markWithin_142_98 f (nI v) lim (nI s1.1 - 1) (nI (d + 1)) s1.2 ∧ _
    rw [hun]
    unfold fX1_markWithin_142_41
    by_cases r0 : r1 = 0
    · left
      subst r0
      rw [if_neg (by decide)]
      refine ⟨X, rfl, fun c y hc hy => ?_, g1⟩
      rw [g4 c y hc hy]
      congr 1
      by_cases q : (wP (cD M) v c y : Int) ≤ lim.toInt
      · have lt : adf c (xN (cD M) v) < d := by
          by_cases w : adf c (xN (cD M) v) < d
          · exact w
          · have m := wO_mono (D := cD M) (v := v) (a := d) (b := adf y (yN (cD M) v)) (c := adf c (xN (cD M) v)) (d := adf y (yN (cD M) v)) (by omega) (Nat.le_refl _)
            have := (q3 (adf y (yN (cD M) v)) (by have := adf_b hy hy1; omega)).mpr (by have : (wP (cD M) v c y : Int) = (wO (cD M) v (adf c (xN (cD M) v)) (adf y (yN (cD M) v)) : Int) := rfl; omega)
            omega
        rw [if_pos ⟨lt, q⟩, if_pos q]
      · rw [if_neg (fun w => q w.2), if_neg q]
    · right
      have er : nI r1 - 1 = nI (r1 - 1) := pk_sub (a := r1) (b := 1) (by omega)
      have ge0 : (0 : Int32) ≤ nI (r1 - 1) := nI_le (a := 0) (by omega) (by omega)
      have x2X : X.1 2 v = nI (xN (cD M) v) := ((g1.on [(2, 2, none)] (by decide) (by decide)).i 2 v rfl).trans hx2
      rw [er, if_pos ge0, if_pos hv15, ix_nI (by omega), x2X, nI_add]
      -- the column ahead
      have ahead : ∃ Y, fX1_markColumn_142 (nI v) (nI (xN (cD M) v + d)) (nI (r1 - 1)) X = some Y ∧ (∀ c y, c < 100 → y < 100 → preF (Y.1 142) c y = preF (X.1 142) c y + (if c = xN (cD M) v + d ∧ adf y (yN (cD M) v) < r1 then M.1 4 v else 0)) ∧ sm [(142, 142, none)] X Y := by
        by_cases w : xN (cD M) v + d < 100
        · obtain ⟨Y, y1, y2, y3⟩ := k_col_142 (c := xN (cD M) v + d) (ρ := r1) hX hv w (by omega) (by omega)
          rw [eX, (g1.on [(4, 4, none)] (by decide) (by decide)).i 4 v rfl] at y2
          exact ⟨Y, y1, y2, y3⟩
        · refine ⟨X, k_off_142 (Or.inr (by rw [nI_toInt (by omega)]; omega)) _ _, fun c y hc hy => ?_, sm_rf⟩
          rw [if_neg (fun q => by have := q.1; omega), Int32.add_zero]
      obtain ⟨Y, y1, y2, y3⟩ := ahead
      rw [y1, Option.bind_some]
      have sY := g1.tr y3
      have hY : DI Y n p := DI_on (sY.on _ (by decide) (by decide)) h
      have eY : cD Y = cD M := cD_on (sY.on _ (by decide) (by decide))
      unfold fX1_markWithin_142_92
      simp only [nx_eq, nI_s]
      have reach' : ∀ r, r1 ≤ r → r < 100 → lim.toInt < (wO (cD M) v (d + 1) r : Int) := by
        intro r a b
        have n1 : ¬ (wO (cD M) v d r : Int) ≤ lim.toInt := fun w => by have := (q3 r b).mpr w; omega
        have := wO_mono (D := cD M) (v := v) (a := d) (b := r) (c := d + 1) (d := r) (by omega) (Nat.le_refl _)
        omega
      by_cases d0 : d = 0
      · subst d0
        rw [if_pos (by decide)]
        refine ⟨(r1, Y), by rw [er], sY, by show r1 ≤ 100; omega, reach', fun c y hc hy => ?_⟩
        show preF (Y.1 142) c y = _
        rw [y2 c y hc hy, g4 c y hc hy, if_neg (fun w => by have := w.1; omega), Int32.add_zero]
        congr 1
        by_cases q : c = xN (cD M) v + 0 ∧ adf y (yN (cD M) v) < r1
        · have e0 : adf c (xN (cD M) v) = 0 := by rw [q.1]; unfold adf; split <;> omega
          rw [if_pos q, if_pos ⟨by omega, (inP c y hc hy e0).mpr q.2⟩]
        · rw [if_neg q]
          rw [if_neg (fun w => q ⟨by have := w.1; unfold adf at this; split at this <;> omega, (inP c y hc hy (by have := w.1; omega)).mp w.2⟩)]
      · rw [if_neg (show ¬ nI d ≤ 0 from nI_ge (a := 0) (by omega) (by omega)), if_pos hv15]
        have x2Y : Y.1 2 v = nI (xN (cD M) v) := ((sY.on [(2, 2, none)] (by decide) (by decide)).i 2 v rfl).trans hx2
        rw [x2Y]
        have behind : ∃ Z, fX1_markColumn_142 (nI v) (nI (xN (cD M) v) - nI d) (nI (r1 - 1)) Y = some Z ∧ (∀ c y, c < 100 → y < 100 → preF (Z.1 142) c y = preF (Y.1 142) c y + (if c + d = xN (cD M) v ∧ adf y (yN (cD M) v) < r1 then M.1 4 v else 0)) ∧ sm [(142, 142, none)] Y Z := by
          by_cases w : d ≤ xN (cD M) v
          · have e : nI (xN (cD M) v) - nI d = nI (xN (cD M) v - d) := pk_sub w
            rw [e]
            obtain ⟨Z, z1, z2, z3⟩ := k_col_142 (c := xN (cD M) v - d) (ρ := r1) hY hv (by omega) (by omega) (by omega)
            rw [eY, (sY.on [(4, 4, none)] (by decide) (by decide)).i 4 v rfl] at z2
            refine ⟨Z, z1, fun c y hc hy => ?_, z3⟩
            rw [z2 c y hc hy]
            have e2 : (c = xN (cD M) v - d) ↔ (c + d = xN (cD M) v) := by omega
            simp only [e2]
          · refine ⟨Y, k_off_142 (Or.inl (by rw [pk_sub_toInt (by omega) (by omega)]; omega)) _ _, fun c y hc hy => ?_, sm_rf⟩
            rw [if_neg (fun q => by have := q.1; omega), Int32.add_zero]
        obtain ⟨Z, z1, z2, z3⟩ := behind
        rw [z1, Option.bind_some]
        refine ⟨(r1, Z), by rw [er], sY.tr z3, by show r1 ≤ 100; omega, reach', fun c y hc hy => ?_⟩
        show preF (Z.1 142) c y = _
        rw [z2 c y hc hy, y2 c y hc hy, g4 c y hc hy]
        have hA : ∀ {P : Prop} [Decidable P], ¬ P → (if P then M.1 4 v else 0) = 0 := fun w => if_neg w
        have hB : ∀ {P : Prop} [Decidable P], P → (if P then M.1 4 v else 0) = M.1 4 v := fun w => if_pos w
        by_cases q : (wP (cD M) v c y : Int) ≤ lim.toInt
        · by_cases l1 : adf c (xN (cD M) v) < d
          · have n1 : ¬ c = xN (cD M) v + d := by unfold adf at l1; split at l1 <;> omega
            have n2 : ¬ c + d = xN (cD M) v := by unfold adf at l1; split at l1 <;> omega
            rw [hB (show adf c (xN (cD M) v) < d ∧ (wP (cD M) v c y : Int) ≤ lim.toInt from ⟨l1, q⟩), hA (show ¬ (c = xN (cD M) v + d ∧ adf y (yN (cD M) v) < r1) from fun w => n1 w.1), hA (show ¬ (c + d = xN (cD M) v ∧ adf y (yN (cD M) v) < r1) from fun w => n2 w.1), hB (show adf c (xN (cD M) v) < d + 1 ∧ (wP (cD M) v c y : Int) ≤ lim.toInt from ⟨by omega, q⟩), Int32.add_zero, Int32.add_zero]
          · rw [hA (show ¬ (adf c (xN (cD M) v) < d ∧ (wP (cD M) v c y : Int) ≤ lim.toInt) from fun w => l1 w.1)]
            by_cases l2 : adf c (xN (cD M) v) = d
            · have ip := (inP c y hc hy l2).mp q
              rw [hB (show adf c (xN (cD M) v) < d + 1 ∧ (wP (cD M) v c y : Int) ≤ lim.toInt from ⟨by omega, q⟩)]
              by_cases n1 : c = xN (cD M) v + d
              · have n2 : ¬ c + d = xN (cD M) v := by omega
                rw [hB (show c = xN (cD M) v + d ∧ adf y (yN (cD M) v) < r1 from ⟨n1, ip⟩), hA (show ¬ (c + d = xN (cD M) v ∧ adf y (yN (cD M) v) < r1) from fun w => n2 w.1), Int32.add_zero, Int32.add_zero]
              · have n2 : c + d = xN (cD M) v := by unfold adf at l2; split at l2 <;> omega
                rw [hA (show ¬ (c = xN (cD M) v + d ∧ adf y (yN (cD M) v) < r1) from fun w => n1 w.1), hB (show c + d = xN (cD M) v ∧ adf y (yN (cD M) v) < r1 from ⟨n2, ip⟩), Int32.add_zero, Int32.add_zero]
            · have n1 : ¬ c = xN (cD M) v + d := by intro w; apply l2; rw [w]; unfold adf; split <;> omega
              have n2 : ¬ c + d = xN (cD M) v := by intro w; apply l2; unfold adf; split <;> omega
              rw [hA (show ¬ (c = xN (cD M) v + d ∧ adf y (yN (cD M) v) < r1) from fun w => n1 w.1), hA (show ¬ (c + d = xN (cD M) v ∧ adf y (yN (cD M) v) < r1) from fun w => n2 w.1), hA (show ¬ (adf c (xN (cD M) v) < d + 1 ∧ (wP (cD M) v c y : Int) ≤ lim.toInt) from fun w => by have := w.1; omega), Int32.add_zero, Int32.add_zero]
        · have nd : ∀ {P : Prop}, (P → adf c (xN (cD M) v) = d) → ¬ (P ∧ adf y (yN (cD M) v) < r1) := fun hP w => q ((inP c y hc hy (hP w.1)).mpr w.2)
          rw [hA (show ¬ (adf c (xN (cD M) v) < d ∧ (wP (cD M) v c y : Int) ≤ lim.toInt) from fun w => q w.2), hA (show ¬ (c = xN (cD M) v + d ∧ adf y (yN (cD M) v) < r1) from nd (fun w => by rw [w]; unfold adf; split <;> omega)), hA (show ¬ (c + d = xN (cD M) v ∧ adf y (yN (cD M) v) < r1) from nd (fun w => by unfold adf; split <;> omega)), hA (show ¬ (adf c (xN (cD M) v) < d + 1 ∧ (wP (cD M) v c y : Int) ≤ lim.toInt) from fun w => q w.2), Int32.add_zero, Int32.add_zero]
  · rintro f ⟨ρ, X⟩ -
    show fX1_markWithin_142_7 _ _ (f + 1) (nI v) lim (nI ρ - 1) (nI 100) X = _
    rw [fX1_markWithin_142_7, e100, if_pos (nI_le (Nat.le_refl _) (by omega))]
    rfl
