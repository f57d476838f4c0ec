/-! who gains, and lots in lowest terms -/
def gsum (g : Nat → Nat → Int32) (a : Nat → Nat) (m i : Nat) : Int := fb_si (fun j => (g i j).toInt * (a j : Int)) m
def anyG (g : Nat → Nat → Int32) (a : Nat → Nat) (m : Nat) : Bool := anyN (fun i => decide (0 < gsum g a m i)) m
def gA (a : Nat → Nat) (n : Nat) : Nat := fd (fun i s => Nat.gcd s (a i)) 0 n
theorem gA_s (a : Nat → Nat) (n : Nat) : gA a (n + 1) = Nat.gcd (gA a n) (a n) := rfl
theorem gA_dvd (a : Nat → Nat) : ∀ (n : Nat) {i : Nat}, i < n → gA a n ∣ a i
  | n + 1, i, hi => by
    rw [gA_s]
    by_cases e : i = n
    · rw [e]; exact Nat.gcd_dvd_right _ _
    · exact Nat.dvd_trans (Nat.gcd_dvd_left _ _) (gA_dvd a n (by omega))
theorem gA_pos {a : Nat → Nat} {n i : Nat} (hi : i < n) (ha : 0 < a i) : 0 < gA a n := by
  rcases Nat.eq_zero_or_pos (gA a n) with e | e
  · have := gA_dvd a n hi
    rw [e] at this
    have := Nat.eq_zero_of_zero_dvd this
    omega
  · exact e
theorem gA_b {a : Nat → Nat} {c : Nat} : ∀ {n : Nat}, (∀ i, i < n → a i ≤ c) → gA a n ≤ c
  | 0, _ => Nat.zero_le _
  | n + 1, h => by
    rw [gA_s]
    by_cases e : gA a n = 0
    · rw [e, Nat.gcd_zero_left]; exact h n (by omega)
    · have := Nat.le_of_dvd (by omega) (Nat.gcd_dvd_left (gA a n) (a n))
      have := gA_b (n := n) (fun i hi => h i (by omega))
      omega
theorem gA_end {a : Nat → Nat} {m : Nat} (h : ∀ j, m ≤ j → j < 8 → a j = 0) : ∀ {d : Nat}, m + d ≤ 8 → gA a (m + d) = gA a m
  | 0, _ => rfl
  | d + 1, hd => by
    have ih := gA_end h (d := d) (by omega)
    have e : m + (d + 1) = (m + d) + 1 := by omega
    rw [e, gA_s, h (m + d) (by omega) (by omega), Nat.gcd_zero_right, ih]
theorem si_scale {g : Nat → Nat → Int32} {a b : Nat → Nat} {c : Nat} {i : Nat} : ∀ {m : Nat}, (∀ j, j < m → a j = b j * c) → gsum g a m i = gsum g b m i * c
  | 0, _ => by
    show (0 : Int) = 0 * c
    omega
  | m + 1, h => by
    have ih := si_scale (g := g) (i := i) (m := m) (fun j hj => h j (by omega))
    unfold gsum at ih ⊢
    rw [fb_si_succ, fb_si_succ, ih, h m (by omega), Int.add_mul]
    have : ((b m * c : Nat) : Int) = (b m : Int) * (c : Int) := by simp
    rw [this, Int.mul_assoc]
theorem anyG_scale {g : Nat → Nat → Int32} {a b : Nat → Nat} {c m : Nat} (hc : 0 < c) (h : ∀ j, j < m → a j = b j * c) : anyG g a m = anyG g b m := by
  unfold anyG
  refine anyN_congr (fun i _ => ?_)
  rw [si_scale h]
  congr 1
  apply propext
  constructor
  · intro w
    by_cases q : 0 < gsum g b m i
    · exact q
    · have := Int.mul_nonneg (show 0 ≤ - gsum g b m i by omega) (show (0 : Int) ≤ c by omega)
      rw [Int.neg_mul] at this
      omega
  · intro w
    exact Int.mul_pos w (by omega)
theorem gs_b {g : Nat → Nat → Int32} (sg : smg g) {a : Nat → Nat} {i : Nat} : ∀ {m : Nat}, m ≤ 8 → (∀ j, j < m → a j ≤ 1300000000) → -(175500000000 * (m : Int)) ≤ gsum g a m i ∧ gsum g a m i ≤ 175500000000 * (m : Int)
  | 0, _, _ => by
    have : gsum g a 0 i = 0 := rfl
    rw [this]; omega
  | m + 1, hm, h => by
    obtain ⟨h1, h2⟩ := gs_b sg (i := i) (m := m) (by omega) (fun j hj => h j (by omega))
    have e : gsum g a (m + 1) i = gsum g a m i + (g i m).toInt * (a m : Int) := rfl
    have := h m (by omega)
    obtain ⟨k1, k2⟩ := pr135 (a := (g i m).toInt) (b := (a m : Int)) (c := 1300000000) (by omega) (sg i m).1 (sg i m).2 (by omega) (by omega)
    have e2 : ((m + 1 : Nat) : Int) = (m : Int) + 1 := rfl
    rw [e, e2]
    omega
/-- one more added, as long numbers -/
theorem gs_add {g : Nat → Nat → Int32} (sg : smg g) {a : Nat → Nat} {i m : Nat} {y : Int64} (hm : m < 8) (h : ∀ j, j < 8 → a j ≤ 1300000000) (hy : y.toInt = gsum g a m i) : (y + (g i m).toInt64 * lN (a m)).toInt = gsum g a (m + 1) i := by
  have b := gs_b sg (i := i) (m := m) (by omega) (fun j hj => h j (by omega))
  have hm8 := h m hm
  obtain ⟨k1, k2⟩ := pr135 (a := (g i m).toInt) (b := (a m : Int)) (c := 1300000000) (by omega) (sg i m).1 (sg i m).2 (by omega) (by omega)
  have t : (lN (a m)).toInt = (a m : Int) := pk_lT (by omega)
  have e1 : ((g i m).toInt64 * lN (a m)).toInt = (g i m).toInt * (a m : Int) := by
    rw [fb_mulL (by rw [t, Int32.toInt_toInt64]; omega) (by rw [t, Int32.toInt_toInt64]; omega), t, Int32.toInt_toInt64]
  rw [fb_addL (by rw [e1, hy]; omega) (by rw [e1, hy]; omega), e1, hy]
  rfl
theorem k_nobody {M : Mem} {m : Nat} {g : Nat → Nat → Int32} {a : Nat → Nat} (hm : m ≤ 8) (h36 : M.1 36 5 = nI m) (hg : ∀ i j, i < m → j < m → M.1 37 (i * 8 + j) = g i j) (sg : smg g) (ha : ∀ j, j < 8 → a j ≤ 1300000000) (h39 : ∀ j, j < 8 → M.2 39 j = lN (a j)) : fX3_nobodyGains M = some (bI (!(anyG g a m))) := by
  unfold fX3_nobodyGains anyG
  have hh := for_anyB (fun f i => fX3_nobodyGains_2 M (fX3_nobodyGains_55 M) (fX3_nobodyGains_63 M) f i) (some (1 : Int32)) (some (0 : Int32)) (fun i => decide (0 < gsum g a m i)) m ?_ ?_ FU (FU_gt (by omega))
  · refine Eq.trans hh ?_
    cases anyN (fun i => decide (0 < gsum g a m i)) m <;> rfl
  · intro f i hi
    show fX3_nobodyGains_2 M _ _ (f + 1) (nI i) = _
    rw [fX3_nobodyGains_2, h36, if_neg (nI_ge hi (by omega))]
    have hh := for_ex (σ := Int64) (fun f2 j y => fX3_nobodyGains_15 M (fX3_nobodyGains_49 M (fX3_nobodyGains_2 M (fX3_nobodyGains_55 M) (fX3_nobodyGains_63 M) f) (fX3_nobodyGains_55 M) (fX3_nobodyGains_63 M)) f2 (nI i) y j) (fun y => fX3_nobodyGains_49 M (fX3_nobodyGains_2 M (fX3_nobodyGains_55 M) (fX3_nobodyGains_63 M) f) (fX3_nobodyGains_55 M) (fX3_nobodyGains_63 M) (nI i) y) m
      (fun j y => y.toInt = gsum g a j i) ?_ ?_ 0 rfl FU (FU_gt (by omega))
    · obtain ⟨y, y1, y2⟩ := hh
      refine Eq.trans y1 ?_
      unfold fX3_nobodyGains_49
      simp only [lg_le0, nx_eq, nI_s, fa_lt64, y2]
      have z64 : (0 : Int64).toInt = 0 := rfl
      rw [z64]
      by_cases c : 0 < gsum g a m i
      · simp [c]; rfl
      · simp [c]
    · intro f2 j y hj hy
      refine ⟨_, ?_, gs_add sg (show j < 8 by omega) ha hy⟩
      show fX3_nobodyGains_15 M _ (f2 + 1) (nI i) y (nI j) = _
      rw [fX3_nobodyGains_15, h36, if_neg (nI_ge hj (by omega)), k_gainOf (by omega) (by omega), Option.bind_some, if_pos (inb_nI (show j < 8 by omega) (by decide)), nx_eq, nx_eq, nI_s, ix_nI (by omega), h39 j (by omega), hg i j hi hj]
    · intro f2 y _
      show fX3_nobodyGains_15 M _ (f2 + 1) (nI i) y (nI m) = _
      rw [fX3_nobodyGains_15, h36, if_pos (nI_le (Nat.le_refl _) (by omega))]
  · intro f
    show fX3_nobodyGains_2 M _ _ (f + 1) (nI m) = _
    rw [fX3_nobodyGains_2, h36, if_pos (nI_le (Nat.le_refl _) (by omega))]
    rfl
theorem lN_add2 {a b : Nat} (h : a + b < 2 ^ 62) : lN a + lN b = lN (a + b) := by
  have ta : (lN a).toInt = (a : Int) := pk_lT (by omega)
  have tb' : (lN b).toInt = (b : Int) := pk_lT (by omega)
  rw [fa_eq64, fb_addL (by rw [ta, tb']; omega) (by rw [ta, tb']; omega), ta, tb', pk_lT (by omega)]
  omega
theorem k_reduce {M : Mem} {m : Nat} {a : Nat → Nat} (hm : m ≤ 8) (h36 : M.1 36 5 = nI m) (ha : ∀ j, j < 8 → a j ≤ 1300000000) (h39 : ∀ j, j < 8 → M.2 39 j = lN (a j)) (h0 : ∀ j, m ≤ j → j < 8 → a j = 0) (hp : 0 < gA a m) : ∃ M1, fX3_reduce M = some M1 ∧ (∀ j, j < 8 → M1.2 39 j = lN (a j / gA a m)) ∧ M1.2 36 4 = lN (fb_sm (fun j => a j / gA a m) m) ∧ sm [(36, 36, some 4), (39, 39, none)] M M1 := by
  unfold fX3_reduce
  have hh := for_ex (σ := Int64) (fun f i y => fX3_reduce_4 fX3_reduce_29 f y i M) (fun y => fX3_reduce_29 y M) m (fun i y => y = lN (gA a i)) ?_ ?_ 0 rfl FU (FU_gt (by omega))
  · obtain ⟨y, y1, y2⟩ := hh
    rw [y2] at y1
    have y1 : fX3_reduce_4 fX3_reduce_29 FU 0 0 M = fX3_reduce_29 (lN (gA a m)) M := y1
    rw [y1]
    unfold fX3_reduce_29
    rw [nx_eq]
    have gb : gA a m ≤ 1300000000 := gA_b (fun i hi => ha i (by omega))
    generalize hc : gA a m = c at *
    have qb : ∀ j, j < 8 → a j / c ≤ 1300000000 := fun j hj => Nat.le_trans (Nat.div_le_self _ _) (ha j hj)
    have smb : ∀ i, i ≤ 8 → fb_sm (fun j => a j / c) i ≤ 1300000000 * i := by
      intro i hi
      have := fb_sm_bound (f := fun j => a j / c) (c := 1300000000) (n := i) (fun k hk => qb k (by omega))
      omega
    have cn : ¬ lN c = 0 := fun w => by
      have := (pk_lEQ (b := 0) (show c < 2 ^ 63 by omega) (by decide)).mp w
      omega
    have le1 : (lg_cmp (lN c) 1 ≤ 0) ↔ c ≤ 1 := by
      rw [lg_le]
      exact pk_lLE (b := 1) (by omega) (by decide)
    have hh := for_ex (σ := Mem) (fun f i s => fX3_reduce_36 fX3_reduce_81 f (lN c) i s) (fun s => some s) m
      (fun i S => sm [(36, 36, some 4), (39, 39, none)] M S ∧ (∀ j, j < 8 → S.2 39 j = if j < i then lN (a j / c) else lN (a j)) ∧ S.2 36 4 = lN (fb_sm (fun j => a j / c) i)) ?_ ?_ (sL M 36 4 0) ⟨sm_rf.Lg (by rfl), fun j hj => ?_, sL_at ..⟩ FU (FU_gt (by omega))
    · obtain ⟨M1, k1, k2, k3, k4⟩ := hh
      refine ⟨M1, k1, fun j hj => ?_, k4, k2⟩
      rw [k3 j hj]
      by_cases q : j < m
      · rw [if_pos q]
      · rw [if_neg q, h0 j (by omega) hj, Nat.zero_div]
    · rintro f i S hi ⟨g1, g2, g3⟩
      have o := g1.on [(36, 36, some 5)] (by decide) (by decide)
      have i8 := inb_nI (show i < 8 by omega) (by decide)
      have si : S.2 39 i = lN (a i) := by rw [g2 i (by omega), if_neg (by omega)]
      have sb := smb i (by omega)
      have qi := qb i (by omega)
      have sum : lN (fb_sm (fun j => a j / c) i) + lN (a i / c) = lN (fb_sm (fun j => a j / c) (i + 1)) := by
        rw [fb_sm_succ]
        exact lN_add2 (by omega)
      refine ⟨sL (sL S 39 i (lN (a i / c))) 36 4 (lN (fb_sm (fun j => a j / c) (i + 1))), ?_, (g1.Lg (by rfl)).Lg (by rfl), fun j hj => ?_, sL_at ..⟩
      · show fX3_reduce_36 _ (f + 1) (lN c) (nI i) S = _
        rw [fX3_reduce_36, o.i 36 5 rfl, h36, if_neg (nI_ge hi (by omega))]
        unfold fX3_reduce_60
        simp only [i8, if_true, nx_eq, nI_s, ix_nI (show i < 2147483648 by omega), cn, not_false_eq_true, le1]
        by_cases c1 : c ≤ 1
        · have e1 : c = 1 := by omega
          rw [if_pos c1, si, g3]
          have same : sL S 39 i (lN (a i / c)) = S := by
            rw [e1, Nat.div_one, ← si]
            unfold sL
            apply Prod.ext
            · rfl
            · funext k j
              show (if k = 39 ∧ j = i then S.2 39 i else S.2 k j) = S.2 k j
              by_cases w : k = 39 ∧ j = i
              · rw [if_pos w, w.1, w.2]
              · rw [if_neg w]
          rw [same, ← sum, e1, Nat.div_one]
        · rw [if_neg c1, si, pk_lDiv (by have := ha i (by omega); omega) (by omega) (by omega)]
          have e36 : (sL S 39 i (lN (a i / c))).2 36 4 = S.2 36 4 := by simp [sL]
          rw [sL_at, e36, g3, sum]
      · rw [sL_ne _ _ (fun q => absurd q.1 (by decide))]
        by_cases e : j = i
        · rw [e, sL_at, if_pos (by omega)]
        · rw [sL_ne _ _ (fun q => e q.2), g2 j hj]
          by_cases q : j < i
          · rw [if_pos q, if_pos (by omega)]
          · rw [if_neg q, if_neg (by omega)]
    · rintro f S ⟨g1, -⟩
      have o := g1.on [(36, 36, some 5)] (by decide) (by decide)
      show fX3_reduce_36 _ (f + 1) (lN c) (nI m) S = _
      rw [fX3_reduce_36, o.i 36 5 rfl, h36, if_pos (nI_le (Nat.le_refl _) (by omega))]
      rfl
    · rw [sL_ne _ _ (fun q => absurd q.1 (by decide)), if_neg (by omega)]
      exact h39 j hj
  · rintro f i y hi rfl
    refine ⟨_, ?_, rfl⟩
    show fX3_reduce_4 _ (f + 1) (lN (gA a i)) (nI i) M = _
    have gb : gA a i ≤ 1300000000 := gA_b (fun j hj => ha j (by omega))
    have ab := ha i (by omega)
    have t1 : (lN (gA a i)).toInt.natAbs = gA a i := by rw [pk_lT (by omega)]; rfl
    have t2 : (lN (a i)).toInt.natAbs = a i := by rw [pk_lT (by omega)]; rfl
    rw [fX3_reduce_4, h36, if_neg (nI_ge hi (by omega)), if_pos (inb_nI (show i < 8 by omega) (by decide)), ix_nI (by omega), h39 i (by omega), k_common M (by omega) (by omega), Option.bind_some, nx_eq, nI_s, t1, t2]
    rfl
  · rintro f y rfl
    show fX3_reduce_4 _ (f + 1) _ (nI m) M = _
    rw [fX3_reduce_4, h36, if_pos (nI_le (Nat.le_refl _) (by omega))]
