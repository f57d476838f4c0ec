/-! the greatest common part -/
theorem half_mod {b r : Nat} (hr : 0 < r) (hrb : r < b) : 2 * (b % r) < b := by
  by_cases h : 2 * r ≤ b
  · have := Nat.mod_lt b hr
    omega
  · have e : b % r = b - r := by
      rw [Nat.mod_eq_sub_mod (by omega), Nat.mod_eq_of_lt (by omega)]
    omega
theorem gcd_step (a b : Nat) : Nat.gcd b (a % b) = Nat.gcd a b := by
  rw [Nat.gcd_comm a b, Nat.gcd_rec b a, Nat.gcd_comm]
theorem k_cp (M : Mem) (K : Int64 → Option Int64) : ∀ (k f i a b : Nat), b < 2 ^ k → i + 2 * k ≤ 99 → 2 * k + 1 ≤ f → a < 2 ^ 62 → b < 2 ^ 62 → fX10_commonPart_15 M K f (lN a) (lN b) (nI i) = K (lN (Nat.gcd a b))
  | 0, f, i, a, b, hb, hi, hf, _, _ => by
    have : b = 0 := by simpa using hb
    subst this
    obtain ⟨f, rfl⟩ : ∃ g, f = g + 1 := ⟨f - 1, by omega⟩
    have e100 : (100 : Int32) = nI 100 := rfl
    have e0 : lg_cmp (lN 0) 0 = 0 := (lg_eq _ _).mpr rfl
    rw [fX10_commonPart_15, e100, if_neg (nI_ge (by omega) (by omega)), if_pos e0, Nat.gcd_zero_right]
  | k + 1, f, i, a, b, hb, hi, hf, ha2, hb2 => by
    obtain ⟨f, rfl⟩ : ∃ g, f = g + 1 + 1 := ⟨f - 2, by omega⟩
    have e100 : (100 : Int32) = nI 100 := rfl
    by_cases hb0 : b = 0
    · subst hb0
      have e0 : lg_cmp (lN 0) 0 = 0 := (lg_eq _ _).mpr rfl
      rw [fX10_commonPart_15, e100, if_neg (nI_ge (by omega) (by omega)), if_pos e0, Nat.gcd_zero_right]
    · have hl : ¬ lN b = 0 := fun q => hb0 ((pk_lEQ (b := 0) (by omega) (by decide)).mp q)
      have hg : ¬ lg_cmp (lN b) 0 = 0 := fun q => hl ((lg_eq _ _).mp q)
      rw [fX10_commonPart_15, e100, if_neg (nI_ge (by omega) (by omega)), if_neg hg, if_pos hl]
      simp only [nx_eq, nI_s]
      have hr : lrm (lN a) (lN b) = lN (a % b) := pk_lRem (by omega) (by omega) (by omega)
      rw [hr, ← gcd_step a b]
      generalize hrr : a % b = r
      have hrb : r < b := by rw [← hrr]; exact Nat.mod_lt a (by omega)
      by_cases hr0 : r = 0
      · subst hr0
        have e0 : lg_cmp (lN 0) 0 = 0 := (lg_eq _ _).mpr rfl
        rw [fX10_commonPart_15, e100, if_neg (nI_ge (by omega) (by omega)), if_pos e0, Nat.gcd_zero_right]
      · have hl2 : ¬ lN r = 0 := fun q => hr0 ((pk_lEQ (b := 0) (by omega) (by decide)).mp q)
        have hg2 : ¬ lg_cmp (lN r) 0 = 0 := fun q => hl2 ((lg_eq _ _).mp q)
        rw [fX10_commonPart_15, e100, if_neg (nI_ge (by omega) (by omega)), if_neg hg2, if_pos hl2]
        simp only [nx_eq, nI_s]
        have hr2 : lrm (lN b) (lN r) = lN (b % r) := pk_lRem (by omega) (by omega) (by omega)
        rw [hr2, ← gcd_step b r]
        have hh := half_mod (show 0 < r by omega) hrb
        have hbk : b % r < 2 ^ k := by rw [Nat.pow_succ] at hb; omega
        exact k_cp M K k f (i + 1 + 1) r (b % r) hbk (by omega) (by omega) (by omega) (by omega)
theorem labs_i {x : Int64} (h : x.toInt ≠ -9223372036854775808) : labs x = lN x.toInt.natAbs := by
  have hr := fb_rngL x
  have hn : x.toInt.natAbs < 2 ^ 63 := by omega
  unfold labs
  apply Int64.toInt_inj.mp
  rw [pk_lT hn]
  by_cases c : (0 : Int64) < x
  · have : 0 < x.toInt := (fa_lt64 _ _).mp c
    rw [if_pos c]; omega
  · have : ¬ 0 < x.toInt := fun q => c ((fa_lt64 _ _).mpr q)
    rw [if_neg c, Int64.toInt_neg, fb_bmodL (by omega) (by omega)]; omega
theorem k_common (M : Mem) {x y : Int64} (hx : x.toInt.natAbs < 2 ^ 49) (hy : y.toInt.natAbs < 2 ^ 49) : fX10_commonPart M x y = some (lN (Nat.gcd x.toInt.natAbs y.toInt.natAbs)) := by
  unfold fX10_commonPart
  simp only [nx_eq]
  rw [labs_i (by omega), labs_i (by omega)]
  have hF := FU_gt (n := 200) (by omega)
  exact k_cp M (fX10_commonPart_50 M) 49 FU 0 _ _ hy (by omega) (by omega) (by omega) (by omega)
theorem e_gcd28 (M : Mem) (K : Int64 → Option Int64) : ∀ (k f a b : Nat), b < 2 ^ k → 2 * k + 1 ≤ f → a < 2 ^ 62 → b < 2 ^ 62 → fX11_gcd_28 M K f (lN a) (lN b) = K (lN (Nat.gcd a b))
  | 0, f, a, b, hb, hf, _, _ => by
    have : b = 0 := by simpa using hb
    subst this
    obtain ⟨f, rfl⟩ : ∃ g, f = g + 1 := ⟨f - 1, by omega⟩
    have e0 : lg_cmp (lN 0) 0 ≤ 0 := (lg_le _ _).mpr (by decide)
    rw [fX11_gcd_28, if_pos e0, Nat.gcd_zero_right]
  | k + 1, f, a, b, hb, hf, ha2, hb2 => by
    obtain ⟨f, rfl⟩ : ∃ g, f = g + 1 + 1 := ⟨f - 2, by omega⟩
    by_cases hb0 : b = 0
    · subst hb0
      have e0 : lg_cmp (lN 0) 0 ≤ 0 := (lg_le _ _).mpr (by decide)
      rw [fX11_gcd_28, if_pos e0, Nat.gcd_zero_right]
    · have hl : ¬ lN b = 0 := fun q => hb0 ((pk_lEQ (b := 0) (by omega) (by decide)).mp q)
      have hg : ¬ lg_cmp (lN b) 0 ≤ 0 := fun q => by
        have := (pk_lLE (b := 0) (by omega) (by decide)).mp ((lg_le _ _).mp q)
        omega
      rw [fX11_gcd_28, if_neg hg, if_pos hl]
      simp only [nx_eq]
      have hr : lrm (lN a) (lN b) = lN (a % b) := pk_lRem (by omega) (by omega) (by omega)
      rw [hr, ← gcd_step a b]
      generalize hrr : a % b = r
      have hrb : r < b := by rw [← hrr]; exact Nat.mod_lt a (by omega)
      by_cases hr0 : r = 0
      · subst hr0
        have e0 : lg_cmp (lN 0) 0 ≤ 0 := (lg_le _ _).mpr (by decide)
        rw [fX11_gcd_28, if_pos e0, Nat.gcd_zero_right]
      · have hl2 : ¬ lN r = 0 := fun q => hr0 ((pk_lEQ (b := 0) (by omega) (by decide)).mp q)
        have hg2 : ¬ lg_cmp (lN r) 0 ≤ 0 := fun q => by
          have := (pk_lLE (b := 0) (by omega) (by decide)).mp ((lg_le _ _).mp q)
          omega
        rw [fX11_gcd_28, if_neg hg2, if_pos hl2]
        simp only [nx_eq]
        have hr2 : lrm (lN b) (lN r) = lN (b % r) := pk_lRem (by omega) (by omega) (by omega)
        rw [hr2, ← gcd_step b r]
        have hh := half_mod (show 0 < r by omega) hrb
        have hbk : b % r < 2 ^ k := by rw [Nat.pow_succ] at hb; omega
        exact e_gcd28 M K k f r (b % r) hbk (by omega) (by omega) (by omega)
theorem lab2 {x : Int64} (h : x.toInt ≠ -9223372036854775808) : (if 0 ≤ lg_cmp x 0 then x else -x) = lN x.toInt.natAbs := by
  have hr := fb_rngL x
  have hn : x.toInt.natAbs < 2 ^ 63 := by omega
  apply Int64.toInt_inj.mp
  rw [pk_lT hn]
  have hg : (0 ≤ lg_cmp x 0) ↔ ¬ x < 0 := by
    rw [← lg_lt, fa_le, fa_lt]; omega
  have z : (0 : Int64).toInt = 0 := rfl
  by_cases c : x < 0
  · have h1 := (fa_lt64 _ _).mp c
    rw [if_neg (fun q => hg.mp q c), Int64.toInt_neg, fb_bmodL (by omega) (by omega)]; omega
  · have h1 : ¬ x.toInt < (0 : Int64).toInt := fun q => c ((fa_lt64 _ _).mpr q)
    rw [if_pos (hg.mpr c)]; omega
theorem e_gcd (M : Mem) {x y : Int64} (hx : x.toInt.natAbs < 2 ^ 49) (hy : y.toInt.natAbs < 2 ^ 49) : fX11_gcd M x y = some (lN (Nat.gcd x.toInt.natAbs y.toInt.natAbs)) := by
  have hF := FU_gt (n := 200) (by omega)
  have key := e_gcd28 M (fX11_gcd_53 M) 49 FU x.toInt.natAbs y.toInt.natAbs hy (by omega) (by omega) (by omega)
  have e1 := lab2 (x := x) (by omega)
  have e2 := lab2 (x := y) (by omega)
  have h : fX11_gcd M x y = fX11_gcd_28 M (fX11_gcd_53 M) FU (if 0 ≤ lg_cmp x 0 then x else -x) (if 0 ≤ lg_cmp y 0 then y else -y) := by
    unfold fX11_gcd fX11_gcd_12 fX11_gcd_26
    by_cases c1 : 0 ≤ lg_cmp x 0 <;> by_cases c2 : 0 ≤ lg_cmp y 0 <;> simp [c1, c2]
  rw [h, e1, e2]
  exact key
