theorem k_sumcol_142 (M : Mem) : ∃ M1, fX1_sumColumns_142 M = some M1 ∧ (∀ q, q < 10000 → M1.1 142 q = preF (M.1 142) (q / 100) (q % 100)) ∧ sm [(142, 142, none)] M M1 := by
  have e10 : (10000 : Int32) = nI 10000 := rfl
  unfold fX1_sumColumns_142
  have hh := for_ex (σ := Mem) (fun f i s => fX1_sumColumns_142_2 fX1_sumColumns_142_33 f i s) (fun s => some s) 10000
    (fun i S => sm [(142, 142, none)] M S ∧ (∀ q, q < i → S.1 142 q = preF (M.1 142) (q / 100) (q % 100)) ∧ ∀ q, i ≤ q → S.1 142 q = M.1 142 q) ?_ ?_ M ⟨sm_rf, fun q h => absurd h (by omega), fun _ _ => rfl⟩ FU (FU_gt (by omega))
  · obtain ⟨M1, k1, k2, k3, -⟩ := hh
    exact ⟨M1, k1, k3, k2⟩
  · rintro f i S hi ⟨g1, g2, g3⟩
    have i1 := inb_nI hi (by decide)
    have ic : i / 100 * 100 + i % 100 = i := by omega
    by_cases c : i % 100 = 0
    · refine ⟨S, ?_, g1, fun q hq => ?_, fun q hq => g3 q (by omega)⟩
      · show fX1_sumColumns_142_2 _ (f + 1) (nI i) S = _
        rw [fX1_sumColumns_142_2, e10, if_neg (nI_ge hi (by omega)), irm100 (by omega), c, if_pos (show nI 0 = 0 from rfl)]
        unfold fX1_sumColumns_142_27
        rw [nx_eq, nI_s]
      · by_cases e : q = i
        · subst e
          rw [g3 q (Nat.le_refl _), c]
          unfold preF
          rw [smm_s]
          show _ = (0 : Int32) + M.1 142 (q / 100 * 100 + 0)
          rw [Int32.zero_add, show q / 100 * 100 + 0 = q by omega]
        · exact g2 q (by omega)
    · have i2 := inb_nI (show i - 1 < 10000 by omega) (by decide)
      have e1 : nI i - 1 = nI (i - 1) := pk_sub (a := i) (b := 1) (by omega)
      have n0 : ¬ nI (i % 100) = 0 := fun w => c ((nI_eq (b := 0) (by omega) (by omega)).mp w)
      refine ⟨sI S 142 i (S.1 142 i + S.1 142 (i - 1)), ?_, g1.I (by rfl), fun q hq => ?_, fun q hq => ?_⟩
      · show fX1_sumColumns_142_2 _ (f + 1) (nI i) S = _
        rw [fX1_sumColumns_142_2, e10, if_neg (nI_ge hi (by omega)), irm100 (by omega), if_neg n0, e1, if_pos i1, if_pos i2, if_pos i1, ix_nI (by omega), ix_nI (by omega), nx_eq]
        unfold fX1_sumColumns_142_27
        rw [nx_eq, nI_s]
      · by_cases e : q = i
        · subst e
          rw [sI_at, g3 q (Nat.le_refl _), g2 (q - 1) (by omega)]
          have a1 : (q - 1) / 100 = q / 100 := by omega
          have a2 : (q - 1) % 100 + 1 = q % 100 := by omega
          have e : preF (M.1 142) (q / 100) (q % 100) = preF (M.1 142) ((q - 1) / 100) ((q - 1) % 100) + M.1 142 q := by
            unfold preF
            rw [a1, a2, smm_s]
            show _ + M.1 142 (q / 100 * 100 + q % 100) = _
            rw [show q / 100 * 100 + q % 100 = q by omega]
          rw [e, Int32.add_comm]
        · rw [sI_nj _ _ e]; exact g2 q (by omega)
      · rw [sI_nj _ _ (by omega)]; exact g3 q (by omega)
  · rintro f S -
    show fX1_sumColumns_142_2 _ (f + 1) (nI 10000) S = _
    rw [fX1_sumColumns_142_2, e10, if_pos (nI_le (Nat.le_refl _) (by omega))]
    rfl
theorem k_sumcol_143 (M : Mem) : ∃ M1, fX1_sumColumns_143 M = some M1 ∧ (∀ q, q < 10000 → M1.1 143 q = preF (M.1 143) (q / 100) (q % 100)) ∧ sm [(143, 143, none)] M M1 := by
  have e10 : (10000 : Int32) = nI 10000 := rfl
  unfold fX1_sumColumns_143
  have hh := for_ex (σ := Mem) (fun f i s => fX1_sumColumns_143_2 fX1_sumColumns_143_33 f i s) (fun s => some s) 10000
    (fun i S => sm [(143, 143, none)] M S ∧ (∀ q, q < i → S.1 143 q = preF (M.1 143) (q / 100) (q % 100)) ∧ ∀ q, i ≤ q → S.1 143 q = M.1 143 q) ?_ ?_ M ⟨sm_rf, fun q h => absurd h (by omega), fun _ _ => rfl⟩ FU (FU_gt (by omega))
  · obtain ⟨M1, k1, k2, k3, -⟩ := hh
    exact ⟨M1, k1, k3, k2⟩
  · rintro f i S hi ⟨g1, g2, g3⟩
    have i1 := inb_nI hi (by decide)
    have ic : i / 100 * 100 + i % 100 = i := by omega
    by_cases c : i % 100 = 0
    · refine ⟨S, ?_, g1, fun q hq => ?_, fun q hq => g3 q (by omega)⟩
      · show fX1_sumColumns_143_2 _ (f + 1) (nI i) S = _
        rw [fX1_sumColumns_143_2, e10, if_neg (nI_ge hi (by omega)), irm100 (by omega), c, if_pos (show nI 0 = 0 from rfl)]
        unfold fX1_sumColumns_143_27
        rw [nx_eq, nI_s]
      · by_cases e : q = i
        · subst e
          rw [g3 q (Nat.le_refl _), c]
          unfold preF
          rw [smm_s]
          show _ = (0 : Int32) + M.1 143 (q / 100 * 100 + 0)
          rw [Int32.zero_add, show q / 100 * 100 + 0 = q by omega]
        · exact g2 q (by omega)
    · have i2 := inb_nI (show i - 1 < 10000 by omega) (by decide)
      have e1 : nI i - 1 = nI (i - 1) := pk_sub (a := i) (b := 1) (by omega)
      have n0 : ¬ nI (i % 100) = 0 := fun w => c ((nI_eq (b := 0) (by omega) (by omega)).mp w)
      refine ⟨sI S 143 i (S.1 143 i + S.1 143 (i - 1)), ?_, g1.I (by rfl), fun q hq => ?_, fun q hq => ?_⟩
      · show fX1_sumColumns_143_2 _ (f + 1) (nI i) S = _
        rw [fX1_sumColumns_143_2, e10, if_neg (nI_ge hi (by omega)), irm100 (by omega), if_neg n0, e1, if_pos i1, if_pos i2, if_pos i1, ix_nI (by omega), ix_nI (by omega), nx_eq]
        unfold fX1_sumColumns_143_27
        rw [nx_eq, nI_s]
      · by_cases e : q = i
        · subst e
          rw [sI_at, g3 q (Nat.le_refl _), g2 (q - 1) (by omega)]
          have a1 : (q - 1) / 100 = q / 100 := by omega
          have a2 : (q - 1) % 100 + 1 = q % 100 := by omega
          have e : preF (M.1 143) (q / 100) (q % 100) = preF (M.1 143) ((q - 1) / 100) ((q - 1) % 100) + M.1 143 q := by
            unfold preF
            rw [a1, a2, smm_s]
            show _ + M.1 143 (q / 100 * 100 + q % 100) = _
            rw [show q / 100 * 100 + q % 100 = q by omega]
          rw [e, Int32.add_comm]
        · rw [sI_nj _ _ e]; exact g2 q (by omega)
      · rw [sI_nj _ _ (by omega)]; exact g3 q (by omega)
  · rintro f S -
    show fX1_sumColumns_143_2 _ (f + 1) (nI 10000) S = _
    rw [fX1_sumColumns_143_2, e10, if_pos (nI_le (Nat.le_refl _) (by omega))]
    rfl
theorem pre_0 {R : Nat → Int32} (h : ∀ q, q < 10000 → R q = 0) {c y : Nat} (hc : c < 100) (hy : y < 100) : preF R c y = 0 := by
  unfold preF
  have : ∀ m, m ≤ 100 → sm_ (fun i => R (c * 100 + i)) m = 0 := by
    intro m
    induction m with
    | zero => intro _; rfl
    | succ m ih =>
      intro hm
      rw [smm_s, ih (by omega), h _ (by omega)]
      rfl
  exact this (y + 1) (by omega)
def shD (D : Dt) (ax ay c y n : Nat) : Int32 := fd (fun u acc => if wP D u c y < wP D u ax ay then acc + D.2.2.2.1 u else acc) 0 n
def nlD (D : Dt) (ax ay c y n : Nat) : Int32 := fd (fun u acc => if wP D u c y ≤ wP D u ax ay then acc + D.2.2.2.1 u else acc) 0 n
theorem shD_s (D : Dt) (ax ay c y n : Nat) : shD D ax ay c y (n + 1) = shD D ax ay c y n + (if wP D n c y < wP D n ax ay then D.2.2.2.1 n else 0) := by
  show (if wP D n c y < wP D n ax ay then shD D ax ay c y n + D.2.2.2.1 n else shD D ax ay c y n) = _
  split
  · rfl
  · rw [Int32.add_zero]
theorem nlD_s (D : Dt) (ax ay c y n : Nat) : nlD D ax ay c y (n + 1) = nlD D ax ay c y n + (if wP D n c y ≤ wP D n ax ay then D.2.2.2.1 n else 0) := by
  show (if wP D n c y ≤ wP D n ax ay then nlD D ax ay c y n + D.2.2.2.1 n else nlD D ax ay c y n) = _
  split
  · rfl
  · rw [Int32.add_zero]
theorem wP_b {M : Mem} {n p v c y : Nat} (h : DI M n p) (hv : v < n) (hc : c < 100) (hy : y < 100) : wP (cD M) v c y ≤ 1587762 := by
  obtain ⟨⟨h1, -⟩, ⟨h3, -⟩, -⟩ := h.nat hv
  exact wO_b h hv (adf_b hc h1) (adf_b hy h3)
theorem for_sh {M : Mem} {n p ax ay c y : Nat} (h : DI M n p) (hx : ax < 100) (hy : ay < 100) (hc : c < 100) (hy2 : y < 100) : ∀ m, m ≤ n → fd (fun v acc => if wayT (cD M) v (nI c) (nI y) < wayT (cD M) v (nI ax) (nI ay) then acc + (cD M).2.2.2.1 v else acc) 0 m = shD (cD M) ax ay c y m
  | 0, _ => rfl
  | m + 1, hm => by
    have ih := for_sh h hx hy hc hy2 m (by omega)
    have b1 := wP_b h (show m < n by omega) hc hy2
    have b2 := wP_b h (show m < n by omega) hx hy
    show (if wayT (cD M) m (nI c) (nI y) < wayT (cD M) m (nI ax) (nI ay) then fd _ _ m + _ else fd _ _ m) = _
    rw [ih, way_nat h (by omega) hc hy2, way_nat h (by omega) hx hy]
    have e := nI_ltJ (a := wP (cD M) m c y) (b := wP (cD M) m ax ay) (by omega) (by omega)
    show _ = (if wP (cD M) m c y < wP (cD M) m ax ay then _ else _)
    simp only [e]
    rfl
theorem for_shD {M : Mem} {n p ax ay c y : Nat} (h : DI M n p) (hx : ax < 100) (hy : ay < 100) (hc : c < 100) (hy2 : y < 100) : forD (cD M) (nI c) (nI y) (nI ax) (nI ay) = shD (cD M) ax ay c y n := by
  unfold forD
  rw [h.cn]
  exact for_sh h hx hy hc hy2 n (Nat.le_refl _)
theorem tot_nl (D : Dt) (ax ay c y : Nat) : ∀ n, (fd (fun v acc => acc + D.2.2.2.1 v) 0 n : Int32) = shD D c y ax ay n + nlD D ax ay c y n
  | 0 => rfl
  | n + 1 => by
    show (fd (fun v acc => acc + D.2.2.2.1 v) 0 n : Int32) + D.2.2.2.1 n = _
    rw [tot_nl D ax ay c y n, shD_s, nlD_s]
    generalize shD D c y ax ay n = a
    generalize nlD D ax ay c y n = b
    generalize D.2.2.2.1 n = w
    by_cases q : wP D n c y ≤ wP D n ax ay
    · rw [if_pos q, if_neg (by omega), Int32.add_zero, Int32.add_assoc]
    · rw [if_neg q, if_pos (by omega), Int32.add_zero, Int32.add_assoc, Int32.add_assoc, Int32.add_comm b w]
/-- both rows, for a point -/
theorem k_weigh {M : Mem} {n p ax ay : Nat} (h : DI M n p) (hx : ax < 100) (hy : ay < 100) : ∃ M1, fX1_weigh (nI ax) (nI ay) M = some M1 ∧ (∀ q, q < 10000 → M1.1 142 q = forD (cD M) (nI (q / 100)) (nI (q % 100)) (nI ax) (nI ay) ∧ M.1 1 7 - M1.1 143 q = forD (cD M) (nI ax) (nI ay) (nI (q / 100)) (nI (q % 100))) ∧ sm [(142, 143, none)] M M1 := by
  have hn := h.n15
  unfold fX1_weigh
  obtain ⟨A, a1, a2, a3⟩ := j_fill (k := 142) (len := 10000) (by decide) 0 M
  rw [a1, Option.bind_some]
  obtain ⟨B, b1, b2, b3⟩ := j_fill (k := 143) (len := 10000) (by decide) 0 A
  rw [b1, Option.bind_some]
  have sB : sm [(142, 143, none)] M B := (a3.up (by decide)).tr (b3.up (by decide))
  have z142 : ∀ q, q < 10000 → B.1 142 q = 0 := fun q hq => ((b3.on [(142, 142, none)] (by decide) (by decide)).i 142 q rfl).trans (a2 q hq)
  have hh := for_ex (σ := Mem) (fun f i s => fX1_weigh_18 fX1_weigh_71 f (nI ax) (nI ay) i s) (fun s => fX1_weigh_71 s) n
    (fun v S => sm [(142, 143, none)] M S ∧ ∀ c y, c < 100 → y < 100 → preF (S.1 142) c y = shD (cD M) ax ay c y v ∧ preF (S.1 143) c y = nlD (cD M) ax ay c y v) ?_ ?_ B ⟨sB, fun c y hc hy => ⟨pre_0 z142 hc hy, pre_0 b2 hc hy⟩⟩ FU (FU_gt (by omega))
  · obtain ⟨S, k1, k2, k3⟩ := hh
    rw [show fX1_weigh_18 fX1_weigh_71 FU (nI ax) (nI ay) 0 B = fX1_weigh_71 S from k1]
    unfold fX1_weigh_71
    obtain ⟨T, t1, t2, t3⟩ := k_sumcol_142 S
    rw [t1, Option.bind_some]
    obtain ⟨U, u1, u2, u3⟩ := k_sumcol_143 T
    rw [u1, Option.bind_some]
    refine ⟨U, rfl, fun q hq => ⟨?_, ?_⟩, (k2.tr (t3.up (by decide))).tr (u3.up (by decide))⟩
    · rw [(u3.on [(142, 142, none)] (by decide) (by decide)).i 142 q rfl, t2 q hq, (k3 _ _ (show q / 100 < 100 by omega) (show q % 100 < 100 by omega)).1, for_shD h hx hy (by omega) (by omega)]
    · have e : T.1 143 = S.1 143 := (t3.on [(143, 143, none)] (by decide) (by decide)).row 143 (fun _ => rfl)
      rw [u2 q hq, e, (k3 _ _ (show q / 100 < 100 by omega) (show q % 100 < 100 by omega)).2, for_shD h (by omega) (by omega) hx hy, h.2.2.2.2.2.2.2]
      unfold totD
      rw [h.cn, tot_nl (cD M) ax ay (q / 100) (q % 100) n, Int32.add_sub_cancel]
  · rintro f v S hv ⟨g1, g2⟩
    have o := g1.on [(1, 7, none)] (by decide) (by decide)
    have hS : DI S n p := DI_on (g1.on _ (by decide) (by decide)) h
    have eS : cD S = cD M := cD_on o
    have wb := wP_b h hv hx hy
    obtain ⟨A, a1, a2, a3⟩ := k_within_142 (lim := nI (wP (cD M) v ax ay) - 1) hS hv
    have sA : sm [(142, 143, none)] M A := g1.tr (a3.up (by decide))
    have hA : DI A n p := DI_on (sA.on _ (by decide) (by decide)) h
    have eA : cD A = cD M := cD_on (sA.on _ (by decide) (by decide))
    obtain ⟨B, b1, b2, b3⟩ := k_within_143 (lim := nI (wP (cD M) v ax ay)) hA hv
    rw [eS] at a2
    rw [eA] at b2
    have oA := sA.on [(4, 4, none)] (by decide) (by decide)
    have lim1 : (nI (wP (cD M) v ax ay) - 1).toInt = (wP (cD M) v ax ay : Int) - 1 := by
      have z : (1 : Int32).toInt = 1 := rfl
      rw [fb_subI (by rw [nI_toInt (by omega), z]; omega) (by rw [nI_toInt (by omega), z]; omega), nI_toInt (by omega), z]
    have lim2 : (nI (wP (cD M) v ax ay)).toInt = (wP (cD M) v ax ay : Int) := nI_toInt (by omega)
    refine ⟨B, ?_, sA.tr (b3.up (by decide)), fun c y hc hy2 => ⟨?_, ?_⟩⟩
    · show fX1_weigh_18 _ (f + 1) (nI ax) (nI ay) (nI v) S = _
      rw [fX1_weigh_18, o.i 1 0 rfl, h.2.1.1, if_neg (nI_ge hv (by omega)), k_wayTo S (show v < 15 by omega), Option.bind_some, eS, way_nat h hv hx hy, a1, Option.bind_some, b1, Option.bind_some, nx_eq, nI_s]
    · have e : B.1 142 = A.1 142 := (b3.on [(142, 142, none)] (by decide) (by decide)).row 142 (fun _ => rfl)
      rw [e, a2 c y hc hy2, (g2 c y hc hy2).1, shD_s, lim1, o.i 4 v rfl]
      by_cases q : wP (cD M) v c y < wP (cD M) v ax ay
      · rw [if_pos q, if_pos (show (wP (cD M) v c y : Int) ≤ (wP (cD M) v ax ay : Int) - 1 by omega)]; rfl
      · rw [if_neg q, if_neg (show ¬ (wP (cD M) v c y : Int) ≤ (wP (cD M) v ax ay : Int) - 1 by omega)]
    · have e : A.1 143 = S.1 143 := (a3.on [(143, 143, none)] (by decide) (by decide)).row 143 (fun _ => rfl)
      rw [b2 c y hc hy2, e, (g2 c y hc hy2).2, nlD_s, lim2, oA.i 4 v rfl]
      by_cases q : wP (cD M) v c y ≤ wP (cD M) v ax ay
      · rw [if_pos q, if_pos (show (wP (cD M) v c y : Int) ≤ (wP (cD M) v ax ay : Int) by omega)]; rfl
      · rw [if_neg q, if_neg (show ¬ (wP (cD M) v c y : Int) ≤ (wP (cD M) v ax ay : Int) by omega)]
  · rintro f S ⟨g1, -⟩
    have o := g1.on [(1, 7, none)] (by decide) (by decide)
    show fX1_weigh_18 _ (f + 1) _ _ (nI n) S = _
    rw [fX1_weigh_18, o.i 1 0 rfl, h.2.1.1, if_pos (nI_le (Nat.le_refl _) (by omega))]
