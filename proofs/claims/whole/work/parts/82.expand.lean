theorem sg_int {s g : Int32} (hs : s = 1 ∨ s = -1) (h1 : -135 ≤ g.toInt) (h2 : g.toInt ≤ 135) : (s * g).toInt64 = s.toInt64 * g.toInt64 := by
  rcases hs with rfl | rfl
  · have e : (1 : Int32).toInt64 = (1 : Int64) := rfl
    rw [e, Int64.one_mul, Int32.one_mul]
  · have e : ((-1 : Int32).toInt64).toInt = -1 := rfl
    have e2 : (-1 : Int32).toInt = -1 := rfl
    rw [fa_eq64, Int32.toInt_toInt64, fb_mulI (by rw [e2]; omega) (by rw [e2]; omega), fb_mulL (by rw [e, Int32.toInt_toInt64]; omega) (by rw [e, Int32.toInt_toInt64]; omega), e, e2, Int32.toInt_toInt64]
/-- what one gains, as long numbers -/
def gL (g : Nat → Nat → Int32) (i j : Nat) : Int64 := (g i j).toInt64
def smg (g : Nat → Nat → Int32) : Prop := ∀ i j, -135 ≤ (g i j).toInt ∧ (g i j).toInt ≤ 135
theorem smg_L {g : Nat → Nat → Int32} (h : smg g) : smG (gL g) := by
  intro i j _ _
  unfold gL
  rw [Int32.toInt_toInt64]
  exact h i j
theorem k_gainOf {M : Mem} {i j : Nat} (hi : i < 8) (hj : j < 8) : fX3_gainOf M (nI i) (nI j) = some (M.1 37 (i * 8 + j)) := by
  unfold fX3_gainOf
  have e : nI i * 8 + nI j = nI (i * 8 + j) := by
    have e8 : (8 : Int32) = nI 8 := rfl
    rw [e8, pk_mul, ← nI_add]
  rw [e, if_pos (inb_nI (show i * 8 + j < 64 by omega) (by decide)), ix_nI (by omega)]
theorem tb_lt {m h j : Nat} (hm : m ≤ 8) (hh : h < 2 ^ m) (hj : j < 8) (ht : tb h j = true) : j < m := by
  by_cases c : j < m
  · exact c
  · have := (m_tab4 m hm h hh).1 j hj (by omega)
    rw [this] at ht
    cases ht
theorem pw8 {m : Nat} (hm : m ≤ 8) : 2 ^ m ≤ 256 := by
  have : 2 ^ m ≤ 2 ^ 8 := Nat.pow_le_pow_right (by decide) hm
  omega
theorem k_expand {M : Mem} {m h : Nat} {g : Nat → Nat → Int32} (hm : m ≤ 8) (h36 : M.1 36 5 = nI m) (hg : ∀ i j, i < m → j < m → M.1 37 (i * 8 + j) = g i j) (sg : smg g) (hh : h < 2 ^ m) (h0 : h ≠ 0) (h2 : bcN h % 2 = 0) (ht : ∀ k, k < h → bcN k % 2 = 0 → M.2 38 k = pfN (gL g) k) : fX3_expand M (nI h) = some (pfN (gL g) h) := by
  have h256 : h < 256 := by have := pw8 hm; omega
  obtain ⟨a1, a2, a3, a4, a5, -⟩ := m_tab h h256 h0
  have lm := tb_lt hm hh a2 a3
  obtain ⟨b1, b2, b3⟩ := bc_less h256 a2 a3
  have hl : h - 2 ^ lzN h < h := Nat.sub_lt (by omega) (Nat.two_pow_pos _)
  unfold fX3_expand
  rw [nt_eq, Option.bind_some, nx_eq, nx_eq, a1, a5, nI_s]
  have hh2 := for_exF (σ := Int64 × Int32) (fun f j s => fX3_expand_22 M (fX3_expand_80 M) f (nI (lzN h)) (nI (h - 2 ^ lzN h)) s.1 s.2 j) (fun s => some s.1) (lzN h + 1) m (by omega)
    (fun j s => s = exP (gL g) (pfN (gL g)) (lzN h) (h - 2 ^ lzN h) j) ?_ ?_ (0, 1) (exP_start (by omega)).symm FU (by have := FU_gt (n := m) (by omega); omega)
  · obtain ⟨s, k1, k2⟩ := hh2
    refine Eq.trans k1 ?_
    have e := exP_end (G := gL g) (P := pfN (gL g)) (i := lzN h) (h := h - 2 ^ lzN h) (m := m) (fun j hj hmj => (m_tab4 m hm _ (by omega)).1 j hj hmj) (d := 8 - m) (by omega)
    rw [show m + (8 - m) = 8 by omega] at e
    rw [k2, pfN_s _ h256 h2 h0, e]
  · rintro f j s hj1 hj2 rfl
    refine ⟨_, ?_, rfl⟩
    obtain ⟨t1, t2⟩ := m_tab2 (h - 2 ^ lzN h) b3 j (by omega)
    show fX3_expand_22 M (fX3_expand_80 M) (f + 1) (nI (lzN h)) (nI (h - 2 ^ lzN h)) (exP (gL g) (pfN (gL g)) (lzN h) (h - 2 ^ lzN h) j).1 (exP (gL g) (pfN (gL g)) (lzN h) (h - 2 ^ lzN h) j).2 (nI j) = _
    rw [fX3_expand_22, h36, if_neg (nI_ge hj2 (by omega)), t1, exP_s]
    unfold fX3_expand_74
    simp only [nx_eq, nI_s]
    cases c : tb (h - 2 ^ lzN h) j with
    | false =>
      rw [if_neg (show ¬ (lzN h < j ∧ false = true) by simp), if_neg (show ¬ ((if false = true then (1 : Int32) else 0) = 1) by decide)]
    | true =>
      obtain ⟨u1, u2, u3, -⟩ := t2 c
      have lt2 : h - 2 ^ lzN h - 2 ^ j < h := Nat.lt_of_le_of_lt (Nat.sub_le _ _) hl
      rw [if_pos (show lzN h < j ∧ true = true from ⟨by omega, rfl⟩), if_pos (show ((if true = true then (1 : Int32) else 0) = 1) by decide), k_gainOf a2 (by omega), Option.bind_some, u3, if_pos (inb_nI (show h - 2 ^ lzN h - 2 ^ j < 256 by omega) (by decide)), ix_nI (by omega), ht _ lt2 (by have := (two_out h256 h0 (show j < 8 by omega) c).1; omega), hg _ _ lm hj2, sg_int (exP_sg _ _ _ _ _) (sg _ _).1 (sg _ _).2]
      rfl
  · rintro f s rfl
    show fX3_expand_22 M _ (f + 1) _ _ _ _ (nI m) = _
    rw [fX3_expand_22, h36, if_pos (nI_le (Nat.le_refl _) (by omega))]
    rfl
theorem irm2 {a : Nat} (h : a < 2 ^ 31) : irm (nI a) 2 = nI (a % 2) := pk_rem h (d := 2) (by decide) (by decide)
theorem k_fillPf {M : Mem} {m : Nat} {g : Nat → Nat → Int32} (hm : m ≤ 8) (h36 : M.1 36 5 = nI m) (hg : ∀ i j, i < m → j < m → M.1 37 (i * 8 + j) = g i j) (sg : smg g) : ∃ M1, fX3_fillPfaffians M = some M1 ∧ (∀ h, h < 2 ^ m → bcN h % 2 = 0 → M1.2 38 h = pfN (gL g) h) ∧ sm [(38, 38, none)] M M1 := by
  have p8 := pw8 hm
  have p1 : 1 ≤ 2 ^ m := Nat.one_le_two_pow
  unfold fX3_fillPfaffians
  rw [nx_eq, show ix (0 : Int32) = 0 from rfl]
  have hh := for_exF (σ := Mem) (fun f h s => fX3_fillPfaffians_9 fX3_fillPfaffians_49 f h s) (fun s => some s) 1 (2 ^ m) p1
    (fun h S => sm [(38, 38, none)] M S ∧ ∀ k, k < h → bcN k % 2 = 0 → S.2 38 k = pfN (gL g) k) ?_ ?_ (sL M 38 0 1) ⟨sm_rf.Lg (by rfl), fun k hk _ => ?_⟩ FU (by have := FU_gt (n := 2 ^ m) (by omega); omega)
  · obtain ⟨M1, k1, k2, k3⟩ := hh
    exact ⟨M1, k1, k3, k2⟩
  · rintro f h S h1 h2 ⟨g1, g2⟩
    have o := g1.on [(36, 37, none)] (by decide) (by decide)
    have b9 := (m_tab3 h (by omega)).1
    have hun : ∃ v, (bcN h % 2 = 0 → v = pfN (gL g) h) ∧ fX3_fillPfaffians_9 fX3_fillPfaffians_49 (f + 1) (nI h) S = fX3_fillPfaffians_9 fX3_fillPfaffians_49 f (nI (h + 1)) (sL S 38 h v) := by
      rw [fX3_fillPfaffians_9, o.i 36 5 rfl, h36, shl_m m hm, if_neg (nI_ge h2 (by omega)), bc_eq S (by omega), Option.bind_some, irm2 (by omega)]
      unfold fX3_fillPfaffians_42
      simp only [nx_eq, nI_s, inb_nI (show h < 256 by omega) (by decide), if_true, ix_nI (show h < 2147483648 by omega)]
      by_cases c : bcN h % 2 = 0
      · rw [c, if_pos (show nI 0 = 0 from rfl), k_expand (M := S) hm ((o.i 36 5 rfl).trans h36) (fun i j hi hj => (o.i 37 _ rfl).trans (hg i j hi hj)) sg h2 (by omega) c (fun k hk => g2 k hk), Option.bind_some]
        exact ⟨_, fun _ => rfl, rfl⟩
      · have c1 : bcN h % 2 = 1 := by omega
        rw [c1, if_neg (by decide)]
        exact ⟨0, fun w => absurd w (by decide), rfl⟩
    obtain ⟨v, v1, v2⟩ := hun
    refine ⟨_, v2, g1.Lg (by rfl), fun k hk hb => ?_⟩
    by_cases e : k = h
    · rw [e, sL_at]; rw [e] at hb; exact v1 hb
    · rw [sL_ne _ _ (fun q => e q.2)]; exact g2 k (by omega) hb
  · rintro f S ⟨g1, -⟩
    have o := g1.on [(36, 37, none)] (by decide) (by decide)
    show fX3_fillPfaffians_9 _ (f + 1) (nI (2 ^ m)) S = _
    rw [fX3_fillPfaffians_9, o.i 36 5 rfl, h36, shl_m m hm, if_pos (nI_le (Nat.le_refl _) (by omega))]
    rfl
  · have : k = 0 := by omega
    rw [this, sL_at]
    rfl
/-! the reference's way -/
theorem e_coupledR {M : Mem} {m : Nat} {g : Nat → Nat → Int32} (hm : m ≤ 8) (hg : ∀ i j, i < m → j < m → M.2 (89 + i) j = gL g i j) : ∀ (f : Nat) {h : Nat}, h < 2 ^ m → bcN h % 2 = 0 → bcN h ≤ 2 * f → ∀ k, f < k → fX11_coupledR M k (nI h) = some (pfF (gL g) f h)
  | f, h, hh, h2, hf, k, hk => by
    obtain ⟨k, rfl⟩ : ∃ k1, k = k1 + 1 := ⟨k - 1, by omega⟩
    have h256 : h < 256 := by have := pw8 hm; omega
    show fX11_coupledB M (fX11_coupledR M k) (nI h) = _
    unfold fX11_coupledB
    by_cases h0 : h = 0
    · subst h0
      rw [if_pos (show nI 0 = 0 from rfl)]
      cases f <;> rfl
    · have n0 : ¬ nI h = 0 := fun w => h0 ((nI_eq (b := 0) (by omega) (by omega)).mp w)
      obtain ⟨a1, a2, a3, a4, -, a6⟩ := m_tab h h256 h0
      have lm := tb_lt hm hh a2 a3
      obtain ⟨b1, b2, b3⟩ := bc_less h256 a2 a3
      have hl : h - 2 ^ lzN h < h := Nat.sub_lt (by omega) (Nat.two_pow_pos _)
      obtain ⟨f, rfl⟩ : ∃ f1, f = f1 + 1 := ⟨f - 1, by omega⟩
      have ih := fun {x : Nat} (q : x < 2 ^ m) (q2 : bcN x % 2 = 0) (q3 : bcN x ≤ 2 * f) => e_coupledR (M := M) hm hg f q q2 q3 k (by omega)
      rw [if_neg n0, nt_eq, Option.bind_some, nx_eq, nx_eq, a1, a6, nI_s]
      have e8 : (8 : Int32) = nI 8 := rfl
      have hh2 := for_exF (σ := Int64 × Int32) (fun f2 j s => fX11_coupledB_30 M (fX11_coupledR M k) (fX11_coupledB_105 M (fX11_coupledR M k)) f2 (nI (lzN h)) (nI (h - 2 ^ lzN h)) s.1 s.2 j) (fun s => some s.1) (lzN h + 1) 8 (by omega)
        (fun j s => s = exP (gL g) (pfF (gL g) f) (lzN h) (h - 2 ^ lzN h) j) ?_ ?_ (0, 1) (exP_start (by omega)).symm FU (by have := FU_gt (n := 8) (by omega); omega)
      · obtain ⟨s, k1, k2⟩ := hh2
        refine Eq.trans k1 ?_
        rw [k2]
        show _ = some (if h = 0 then (1 : Int64) else (exP (gL g) (pfF (gL g) f) (lzN h) (h - 2 ^ lzN h) 8).1)
        rw [if_neg h0]
      · rintro f2 j s hj1 hj2 rfl
        refine ⟨_, ?_, rfl⟩
        obtain ⟨t1, t2⟩ := m_tab2 (h - 2 ^ lzN h) b3 j hj2
        show fX11_coupledB_30 M (fX11_coupledR M k) (fX11_coupledB_105 M (fX11_coupledR M k)) (f2 + 1) (nI (lzN h)) (nI (h - 2 ^ lzN h)) (exP (gL g) (pfF (gL g) f) (lzN h) (h - 2 ^ lzN h) j).1 (exP (gL g) (pfF (gL g) f) (lzN h) (h - 2 ^ lzN h) j).2 (nI j) = _
        rw [fX11_coupledB_30, e8, if_neg (nI_ge hj2 (by omega)), t1, exP_s]
        unfold fX11_coupledB_94 fX11_coupledB_99
        simp only [nx_eq, nI_s]
        cases c : tb (h - 2 ^ lzN h) j with
        | false =>
          rw [if_neg (show ¬ (lzN h < j ∧ false = true) by simp), if_pos (show ((if false = true then (1 : Int32) else 0) = 0) by decide)]
        | true =>
          have jm : j < m := tb_lt hm (by omega) hj2 c
          obtain ⟨u1, u2, -, u4⟩ := t2 c
          have lt2 : h - 2 ^ lzN h - 2 ^ j < h := Nat.lt_of_le_of_lt (Nat.sub_le _ _) hl
          have w := (two_out h256 h0 hj2 c).1
          rw [if_pos (show lzN h < j ∧ true = true from ⟨by omega, rfl⟩), if_neg (show ¬ ((if true = true then (1 : Int32) else 0) = 0) by decide), if_pos (inb_nI a2 (by decide)), if_pos (inb_nI hj2 (by decide)), if_pos (inb_nI a2 (by decide)), if_pos (inb_nI hj2 (by decide)), ix_nI (show lzN h < 2147483648 by omega), ix_nI (show j < 2147483648 by omega), hg _ _ lm jm, u4, ih (by omega) (by omega) (by omega), Option.bind_some]
          simp only [lg_eq]
          by_cases c0 : gL g (lzN h) j = 0
          · rw [if_pos c0, c0, Int64.mul_zero, Int64.zero_mul, Int64.add_zero]
          · rw [if_neg c0]
      · rintro f2 s rfl
        show fX11_coupledB_30 M _ _ (f2 + 1) _ _ _ _ (nI 8) = _
        rw [fX11_coupledB_30, e8, if_pos (nI_le (Nat.le_refl _) (by omega))]
        rfl
theorem e_coupled {M : Mem} {m h : Nat} {g : Nat → Nat → Int32} (hm : m ≤ 8) (hg : ∀ i j, i < m → j < m → M.2 (89 + i) j = gL g i j) (hh : h < 2 ^ m) (h2 : bcN h % 2 = 0) : fX11_coupled M (nI h) = some (pfN (gL g) h) := by
  have h256 : h < 256 := by have := pw8 hm; omega
  have := (m_tab3 h h256).1
  exact e_coupledR hm hg 4 hh h2 (by omega) 10 (by omega)
