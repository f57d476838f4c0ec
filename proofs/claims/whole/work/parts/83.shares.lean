/-! what each gets in a lot -/
def sgA (h i : Nat) : Int32 := fd (fun j s => if tb h j = true then -s else s) 1 i
theorem sgA_s (h i : Nat) : sgA h (i + 1) = if tb h i = true then - sgA h i else sgA h i := rfl
theorem sgA_1 (h : Nat) : ∀ i, sgA h i = 1 ∨ sgA h i = -1
  | 0 => Or.inl rfl
  | i + 1 => by
    rw [sgA_s]
    split
    · rcases sgA_1 h i with e | e
      · right; rw [e]
      · left; rw [e]; rfl
    · exact sgA_1 h i
def svL (g : Nat → Nat → Int32) (h i : Nat) : Int64 := if tb h i = true then (sgA h i).toInt64 * pfN (gL g) (h - 2 ^ i) else 0
def av (g : Nat → Nat → Int32) (h i : Nat) : Nat := (svL g h i).toInt.natAbs
def upS (g : Nat → Nat → Int32) (h : Nat) : Prop := ∀ i, i < 8 → tb h i = true → 0 < (svL g h i).toInt
def dnS (g : Nat → Nat → Int32) (h : Nat) : Prop := ∀ i, i < 8 → tb h i = true → (svL g h i).toInt < 0
theorem sv_b {g : Nat → Nat → Int32} (sg : smg g) {h i : Nat} (hh : h < 256) (ho : bcN h % 2 = 1) (hi : i < 8) : -1300000000 ≤ (svL g h i).toInt ∧ (svL g h i).toInt ≤ 1300000000 := by
  unfold svL
  cases c : tb h i with
  | false =>
    rw [if_neg (by decide)]
    have : (0 : Int64).toInt = 0 := rfl
    omega
  | true =>
    rw [if_pos rfl]
    obtain ⟨b1, b2, b3⟩ := bc_less hh hi c
    have b8 := (m_tab3 h hh).1
    have := pfN_b (smg_L sg) b3 (by omega) (by omega)
    rw [sg_mul (sgA_1 h i) (by omega) (by omega)]
    split <;> omega
theorem av_b {g : Nat → Nat → Int32} (sg : smg g) {h i : Nat} (hh : h < 256) (ho : bcN h % 2 = 1) (hi : i < 8) : av g h i ≤ 1300000000 := by
  have := sv_b sg hh ho hi
  unfold av
  omega
theorem av_0 {g : Nat → Nat → Int32} {h i : Nat} (ht : tb h i = false) : av g h i = 0 := by
  unfold av svL
  rw [ht, if_neg (by decide)]
  rfl
theorem j_fillL {k len : Nat} (hl : len ≤ 20000) (x : Int64) (M : Mem) : ∃ M1, fJ7_fill_d0a16 k len x M = some M1 ∧ (∀ j, j < len → M1.2 k j = x) ∧ sm [(k, k, none)] M M1 := by
  unfold fJ7_fill_d0a16
  rw [nx_eq]
  have hh := for_ex (σ := Mem) (fun f i s => fJ7_fill_d0a16_6 k len (fJ7_fill_d0a16_22 k len) f x i (nI len) s) (fun s => some s) len
    (fun i s => (∀ j, j < i → s.2 k j = x) ∧ sm [(k, k, none)] M s) ?_ ?_ M ⟨fun j h => absurd h (by omega), sm_rf⟩ FU (FU_gt hl)
  · obtain ⟨M1, h1, h2⟩ := hh
    exact ⟨M1, h1, h2⟩
  · intro f i s hi ⟨h1, h2⟩
    refine ⟨sL s k i x, ?_, fun j hj => ?_, h2.Lg (inS_n k i)⟩
    · show fJ7_fill_d0a16_6 k len _ (f + 1) x (nI i) (nI len) s = _
      rw [fJ7_fill_d0a16_6, if_neg (nI_ge hi (by omega)), if_pos (inb_nI hi (by omega))]
      simp only [nx_eq, ix_nI (show i < 2147483648 by omega), nI_s]
    · by_cases e : j = i
      · rw [e]; exact sL_at s k i x
      · rw [sL_ne s x (fun q => e q.2)]; exact h1 j (by omega)
  · intro f s _
    show fJ7_fill_d0a16_6 k len _ (f + 1) x (nI len) (nI len) s = _
    rw [fJ7_fill_d0a16_6, if_pos (nI_le (Nat.le_refl _) (by omega))]
    rfl
theorem labs_sv {g : Nat → Nat → Int32} (sg : smg g) {h i : Nat} (hh : h < 256) (ho : bcN h % 2 = 1) (hi : i < 8) : labs (svL g h i) = lN (av g h i) := by
  have := sv_b sg hh ho hi
  exact labs_i (by omega)
/-- the class: true if all are above or all below nought -/
theorem k_share {M : Mem} {m h : Nat} {g : Nat → Nat → Int32} (hm : m ≤ 8) (h36 : M.1 36 5 = nI m) (sg : smg g) (ht : ∀ k, k < 2 ^ m → bcN k % 2 = 0 → M.2 38 k = pfN (gL g) k) (hh : h < 2 ^ m) (ho : bcN h % 2 = 1) : ∃ c M1, fX3_shareAmong (nI h) M = some (c, M1) ∧ (c = 0 ↔ ¬ (upS g h ∨ dnS g h)) ∧ (upS g h ∨ dnS g h → ∀ j, j < 8 → M1.2 39 j = lN (av g h j)) ∧ sm [(39, 39, none)] M M1 := by
  have h256 : h < 256 := by have := pw8 hm; omega
  have z64 : (0 : Int64).toInt = 0 := rfl
  unfold fX3_shareAmong
  obtain ⟨M0, f1, f2, f3⟩ := j_fillL (k := 39) (len := 8) (by decide) 0 M
  rw [f1, Option.bind_some]
  have cs : fb_ct (tb h) m = bcN h := by
    rw [(m_tab3 h h256).2.2]
    have e := fb_ct_split (tb h) m (8 - m)
    rw [show m + (8 - m) = 8 by omega] at e
    have : fb_ct (fun k => tb h (m + k)) (8 - m) = 0 := fb_ct_zero.mpr (fun k hk => (m_tab4 m hm h hh).1 (m + k) (by omega) (by omega))
    omega
  have hh2 := for_or (σ := Int32 × Int32 × Int32 × Mem) (fun f i s => fX3_shareAmong_18 fX3_shareAmong_83 fX3_shareAmong_122 f (nI h) s.1 s.2.1 s.2.2.1 i s.2.2.2) (fun s => fX3_shareAmong_122 s.2.2.1 s.2.2.2) (fun ρ => ∃ X, ρ = some ((0 : Int32), X) ∧ ¬ (upS g h ∨ dnS g h) ∧ sm [(39, 39, none)] M X) 0 m (by omega)
    (fun i s => sm [(39, 39, none)] M s.2.2.2 ∧ (∀ j, j < 8 → s.2.2.2.2 39 j = if j < i then lN (av g h j) else 0) ∧ s.2.1 = sgA h i ∧ s.2.2.1 = nI (fb_ct (tb h) i) ∧ ((fb_ct (tb h) i = 0) ∨ (s.1 = 0 ∧ ∀ j, j < i → tb h j = true → 0 < (svL g h j).toInt) ∨ (s.1 = 1 ∧ ∀ j, j < i → tb h j = true → (svL g h j).toInt < 0))) ?_ ?_ (0, 1, 0, M0) ⟨f3, fun j hj => by rw [if_neg (by omega)]; exact f2 j hj, rfl, rfl, Or.inl rfl⟩ FU (by have := FU_gt (n := m) (by omega); omega)
  · rcases hh2 with ⟨X, k1, k2, k3⟩ | ⟨⟨b, s, c, X⟩, k1, k2, k3, k4, k5, k6⟩
    · exact ⟨0, X, k1, by simp [k2], fun w => absurd w k2, k3⟩
    · have k2 : sm [(39, 39, none)] M X := k2
      have k5 : c = nI (fb_ct (tb h) m) := k5
      have k3 : ∀ j, j < 8 → X.2 39 j = if j < m then lN (av g h j) else 0 := k3
      have ud : upS g h ∨ dnS g h := by
        rcases k6 with k6 | ⟨-, k6⟩ | ⟨-, k6⟩
        · omega
        · left; intro i hi w; exact k6 i (tb_lt hm hh hi w) w
        · right; intro i hi w; exact k6 i (tb_lt hm hh hi w) w
      have u : fX3_shareAmong_122 c X = some ((1 : Int32), X) := by
        unfold fX3_shareAmong_122 fX3_shareAmong_132
        rw [k5, cs, if_neg (show ¬ nI (bcN h) ≤ 0 from nI_ge (a := 0) (by omega) (by have := (m_tab3 h h256).1; omega))]
        rfl
      refine ⟨1, X, Eq.trans k1 u, ⟨fun w => absurd w (by decide), fun w => absurd ud w⟩, fun _ j hj => ?_, k2⟩
      rw [k3 j hj]
      by_cases q : j < m
      · rw [if_pos q]
      · rw [if_neg q, av_0 ((m_tab4 m hm h hh).1 j hj (by omega))]
        rfl
  · rintro f i ⟨b, s, c, X⟩ - hi ⟨g1, g2, g3, g4, g5⟩
    have g1 : sm [(39, 39, none)] M X := g1
    have g2 : ∀ j, j < 8 → X.2 39 j = if j < i then lN (av g h j) else 0 := g2
    have g3 : s = sgA h i := g3
    have g4 : c = nI (fb_ct (tb h) i) := g4
    have g5 : (fb_ct (tb h) i = 0) ∨ (b = 0 ∧ ∀ j, j < i → tb h j = true → 0 < (svL g h j).toInt) ∨ (b = 1 ∧ ∀ j, j < i → tb h j = true → (svL g h j).toInt < 0) := g5
    have o := g1.on [(36, 36, none), (38, 38, none)] (by decide) (by decide)
    obtain ⟨t1, t2⟩ := m_tab2 h h256 i (by omega)
    have i8 := inb_nI (show i < 8 by omega) (by decide)
    have ctl := fb_ct_le (tb h) i
    show (fun ρ => ∃ X, ρ = some ((0 : Int32), X) ∧ ¬ (upS g h ∨ dnS g h) ∧ sm [(39, 39, none)] M X) (fX3_shareAmong_18 fX3_shareAmong_83 fX3_shareAmong_122 (f + 1) (nI h) b s c (nI i) X) ∨ ∃ s1 : Int32 × Int32 × Int32 × Mem, fX3_shareAmong_18 fX3_shareAmong_83 fX3_shareAmong_122 (f + 1) (nI h) b s c (nI i) X = _ ∧ _
    rw [fX3_shareAmong_18, o.i 36 5 rfl, h36, if_neg (nI_ge hi (by omega)), t1]
    unfold fX3_shareAmong_85 fX3_shareAmong_97 fX3_shareAmong_116 fX3_shareAmong_83
    simp only [nx_eq, nI_s, i8, if_true, ix_nI (show i < 2147483648 by omega), lg_eq, lg_ge0]
    cases ct : tb h i with
    | false =>
      right
      refine ⟨(b, s, c, X), ?_, g1, fun j hj => ?_, ?_, ?_, ?_⟩
      · rw [if_pos (show ((if false = true then (1 : Int32) else 0) = 0) by decide)]
      · show X.2 39 j = _
        rw [g2 j hj]
        by_cases e : j = i
        · rw [e, if_neg (by omega), if_pos (by omega), av_0 ct]; rfl
        · by_cases q : j < i
          · rw [if_pos q, if_pos (by omega)]
          · rw [if_neg q, if_neg (by omega)]
      · show s = _
        rw [sgA_s, ct, if_neg (by decide)]; exact g3
      · show c = _
        rw [fb_ct_succ, ct]; exact g4
      · rw [fb_ct_succ, ct]
        rcases g5 with w | ⟨w1, w2⟩ | ⟨w1, w2⟩
        · exact Or.inl w
        · refine Or.inr (Or.inl ⟨w1, fun j hj hq => ?_⟩)
          by_cases e : j = i
          · rw [e, ct] at hq; cases hq
          · exact w2 j (by omega) hq
        · refine Or.inr (Or.inr ⟨w1, fun j hj hq => ?_⟩)
          by_cases e : j = i
          · rw [e, ct] at hq; cases hq
          · exact w2 j (by omega) hq
    | true =>
      obtain ⟨u1, u2, u3, -⟩ := t2 ct
      have hsub : h - 2 ^ i < 256 := Nat.lt_of_le_of_lt (Nat.sub_le _ _) h256
      have hv : s.toInt64 * X.2 38 (h - 2 ^ i) = svL g h i := by
        unfold svL
        rw [ct, if_pos rfl, g3, o.l 38 _ rfl, ht (h - 2 ^ i) (Nat.lt_of_le_of_lt (Nat.sub_le _ _) hh) (by omega)]
      rw [if_neg (show ¬ ((if true = true then (1 : Int32) else 0) = 0) by decide), u3, if_pos (inb_nI hsub (by decide)), ix_nI (by omega), hv, labs_sv sg h256 ho (by omega)]
      have sb := sv_b sg h256 ho (show i < 8 by omega)
      have bad : ¬ (upS g h ∨ dnS g h) → ∀ (Y : Mem), sm [(39, 39, none)] M Y → (∃ X, some ((0 : Int32), Y) = some ((0 : Int32), X) ∧ ¬ (upS g h ∨ dnS g h) ∧ sm [(39, 39, none)] M X) := fun w Y hY => ⟨Y, rfl, w, hY⟩
      by_cases c0 : svL g h i = 0
      · left
        rw [if_pos c0]
        have e0 : (svL g h i).toInt = 0 := by rw [c0]; rfl
        refine bad (fun w => ?_) X g1
        rcases w with w | w
        · have := w i (by omega) ct; omega
        · have := w i (by omega) ct; omega
      · rw [if_neg c0]
        have n0 : (svL g h i).toInt ≠ 0 := fun w => c0 ((fa_eq64 _ _).mpr w)
        have lt0 : svL g h i < 0 ↔ (svL g h i).toInt < 0 := by rw [fa_lt64, z64]
        -- the step that is made
        have step : ∀ b1 : Int32, (b1 = 0 ∧ 0 < (svL g h i).toInt ∨ b1 = 1 ∧ (svL g h i).toInt < 0) → (fb_ct (tb h) i = 0 ∨ b1 = b) → ∃ s1 : Int32 × Int32 × Int32 × Mem, fX3_shareAmong_18 fX3_shareAmong_83 fX3_shareAmong_122 f (nI h) b1 (-s) (c + 1) (nI (i + 1)) (sL X 39 i (lN (av g h i))) = fX3_shareAmong_18 fX3_shareAmong_83 fX3_shareAmong_122 f (nI h) s1.1 s1.2.1 s1.2.2.1 (nI (i + 1)) s1.2.2.2 ∧ (sm [(39, 39, none)] M s1.2.2.2 ∧ (∀ j, j < 8 → s1.2.2.2.2 39 j = if j < i + 1 then lN (av g h j) else 0) ∧ s1.2.1 = sgA h (i + 1) ∧ s1.2.2.1 = nI (fb_ct (tb h) (i + 1)) ∧ ((fb_ct (tb h) (i + 1) = 0) ∨ (s1.1 = 0 ∧ ∀ j, j < i + 1 → tb h j = true → 0 < (svL g h j).toInt) ∨ (s1.1 = 1 ∧ ∀ j, j < i + 1 → tb h j = true → (svL g h j).toInt < 0))) := by
          intro b1 hb1 hb2
          refine ⟨(b1, -s, c + 1, sL X 39 i (lN (av g h i))), rfl, g1.Lg (by rfl), fun j hj => ?_, ?_, ?_, Or.inr ?_⟩
          · show (sL X 39 i (lN (av g h i))).2 39 j = _
            by_cases e : j = i
            · rw [e, sL_at, if_pos (by omega)]
            · rw [sL_ne _ _ (fun q => e q.2), g2 j hj]
              by_cases q : j < i
              · rw [if_pos q, if_pos (by omega)]
              · rw [if_neg q, if_neg (by omega)]
          · show -s = _
            rw [sgA_s, ct, if_pos rfl, g3]
          · show c + 1 = _
            rw [fb_ct_succ, ct, g4]
            exact nI_s _
          · have old : fb_ct (tb h) i = 0 → ∀ j, j < i → tb h j = true → False := by
              intro w j hj hq
              have := fb_ct_zero.mp w j hj
              rw [this] at hq; cases hq
            rcases hb1 with ⟨e1, e2⟩ | ⟨e1, e2⟩
            · left
              refine ⟨e1, fun j hj hq => ?_⟩
              by_cases e : j = i
              · rw [e]; exact e2
              · rcases hb2 with w | w
                · exact (old w j (by omega) hq).elim
                · rcases g5 with w2 | ⟨w2, w3⟩ | ⟨w2, w3⟩
                  · exact (old w2 j (by omega) hq).elim
                  · exact w3 j (by omega) hq
                  · rw [← w, e1] at w2; exact absurd w2 (by decide)
            · right
              refine ⟨e1, fun j hj hq => ?_⟩
              by_cases e : j = i
              · rw [e]; exact e2
              · rcases hb2 with w | w
                · exact (old w j (by omega) hq).elim
                · rcases g5 with w2 | ⟨w2, w3⟩ | ⟨w2, w3⟩
                  · exact (old w2 j (by omega) hq).elim
                  · rw [← w, e1] at w2; exact absurd w2 (by decide)
                  · exact w3 j (by omega) hq
        -- the first of them, or one of the same side, or not
        have clash : fb_ct (tb h) i ≠ 0 → (b = 0 ∧ (svL g h i).toInt < 0) ∨ (b = 1 ∧ 0 < (svL g h i).toInt) → ¬ (upS g h ∨ dnS g h) := by
          intro w1 w2 w3
          obtain ⟨j, hj, hq⟩ := fb_ct_pos.mp (show 0 < fb_ct (tb h) i by omega)
          rcases g5 with w | ⟨w4, w5⟩ | ⟨w4, w5⟩
          · exact w1 w
          · have p1 := w5 j hj hq
            rcases w3 with w3 | w3
            · have := w3 i (by omega) ct
              rcases w2 with ⟨-, w2⟩ | ⟨w2, -⟩
              · omega
              · rw [w4] at w2; exact absurd w2 (by decide)
            · have := w3 j (by omega) hq
              omega
          · have p1 := w5 j hj hq
            rcases w3 with w3 | w3
            · have := w3 j (by omega) hq
              omega
            · have := w3 i (by omega) ct
              rcases w2 with ⟨w2, -⟩ | ⟨-, w2⟩
              · rw [w4] at w2; exact absurd w2 (by decide)
              · omega
        by_cases cc : fb_ct (tb h) i = 0
        · right
          rw [if_pos (show c ≤ 0 by rw [g4, cc]; decide)]
          by_cases cl : svL g h i < 0
          · rw [if_neg (fun w => w cl)]
            exact step 1 (Or.inr ⟨rfl, lt0.mp cl⟩) (Or.inl cc)
          · rw [if_pos cl]
            exact step 0 (Or.inl ⟨rfl, by have : ¬ (svL g h i).toInt < 0 := fun w => cl (lt0.mpr w); omega⟩) (Or.inl cc)
        · rw [if_neg (show ¬ c ≤ 0 by rw [g4]; exact nI_ge (a := 0) (by omega) (by omega))]
          unfold fX3_shareAmong_80 fX3_shareAmong_85 fX3_shareAmong_97 fX3_shareAmong_116
          simp only [nx_eq, nI_s, i8, if_true, ix_nI (show i < 2147483648 by omega), lg_ge0]
          rw [labs_sv sg h256 ho (by omega)]
          by_cases cl : svL g h i < 0
          · have cl' := lt0.mp cl
            rw [if_neg (fun w => w cl)]
            by_cases cb : b = 1
            · right
              rw [if_pos cb, if_neg (fun w => w cl)]
              exact step 1 (Or.inr ⟨rfl, cl'⟩) (Or.inr cb.symm)
            · left
              rw [if_neg cb]
              have b0 : b = 0 := by
                rcases g5 with w | ⟨w, -⟩ | ⟨w, -⟩
                · exact absurd w cc
                · exact w
                · exact absurd w cb
              exact bad (clash cc (Or.inl ⟨b0, cl'⟩)) X g1
          · have cl' : 0 < (svL g h i).toInt := by have : ¬ (svL g h i).toInt < 0 := fun w => cl (lt0.mpr w); omega
            rw [if_pos cl]
            by_cases cb : b = 0
            · right
              rw [if_pos cb, if_pos cl]
              exact step 0 (Or.inl ⟨rfl, cl'⟩) (Or.inr cb.symm)
            · left
              rw [if_neg cb]
              have b0 : b = 1 := by
                rcases g5 with w | ⟨w, -⟩ | ⟨w, -⟩
                · exact absurd w cc
                · exact absurd w cb
                · exact w
              exact bad (clash cc (Or.inr ⟨b0, cl'⟩)) X g1
  · rintro f ⟨b, s, c, X⟩ ⟨g1, -⟩
    have g1 : sm [(39, 39, none)] M X := g1
    have o := g1.on [(36, 36, none)] (by decide) (by decide)
    show fX3_shareAmong_18 _ _ (f + 1) (nI h) b s c (nI m) X = _
    rw [fX3_shareAmong_18, o.i 36 5 rfl, h36, if_pos (nI_le (Nat.le_refl _) (by omega))]
