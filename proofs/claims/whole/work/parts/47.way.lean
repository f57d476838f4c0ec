/-! how great a way is; windows about a voter -/
theorem iabs_i {x : Int32} (h : x.toInt ≠ -2147483648) : (iabs x).toInt = if 0 ≤ x.toInt then x.toInt else - x.toInt := by
  unfold iabs
  have e0 : (0 : Int32).toInt = 0 := rfl
  by_cases c : (0 : Int32) ≤ x
  · have := (fa_le _ _).mp c
    rw [if_pos c, if_pos (by omega)]
  · have c2 : ¬ 0 ≤ x.toInt := fun q => c ((fa_le _ _).mpr (by rw [e0]; exact q))
    have hr := fb_rng x
    rw [if_neg c, if_neg c2, fb_subI (by rw [e0]; omega) (by rw [e0]; omega), e0]
    omega
theorem imax_i (x y : Int32) : (imax x y).toInt = if x.toInt < y.toInt then y.toInt else x.toInt := by
  unfold imax
  by_cases c : x < y
  · rw [if_pos c, if_pos ((fa_lt _ _).mp c)]
  · rw [if_neg c, if_neg (fun q => c ((fa_lt _ _).mpr q))]
theorem imin_i (x y : Int32) : (imin x y).toInt = if y.toInt < x.toInt then y.toInt else x.toInt := by
  unfold imin
  by_cases c : y < x
  · rw [if_pos c, if_pos ((fa_lt _ _).mp c)]
  · rw [if_neg c, if_neg (fun q => c ((fa_lt _ _).mpr q))]
theorem inN_i {x : Int32} {n : Nat} : inN x n = true ↔ 0 ≤ x.toInt ∧ x.toInt < n := by
  simp only [inN, Bool.and_eq_true, decide_eq_true_eq]
theorem ad_rng {a b : Int32} (ha : inN a 100 = true) (hb : inN b 100 = true) : 0 ≤ (iabs (a - b)).toInt ∧ (iabs (a - b)).toInt ≤ 99 := by
  have h1 := inN_i.mp ha
  have h2 := inN_i.mp hb
  have hs : (a - b).toInt = a.toInt - b.toInt := fb_subI (by omega) (by omega)
  rw [iabs_i (by rw [hs]; omega), hs]
  split <;> omega
theorem mul_rng {a s : Int32} (h1 : 0 ≤ a.toInt) (h2 : a.toInt ≤ 99) (h3 : 1 ≤ s.toInt) (h4 : s.toInt ≤ 9) : 0 ≤ (a * s).toInt ∧ (a * s).toInt ≤ 891 := by
  have e1 := Int.mul_nonneg h1 (show (0 : Int) ≤ s.toInt by omega)
  have e2 : a.toInt * s.toInt ≤ 99 * 9 := Int.mul_le_mul h2 h4 (by omega) (by omega)
  rw [fb_mulI (by omega) (by omega)]
  omega
theorem wy_rng (ms : Int32) {a b : Int32} (h1 : 0 ≤ a.toInt) (h2 : a.toInt ≤ 891) (h3 : 0 ≤ b.toInt) (h4 : b.toInt ≤ 891) : 0 ≤ (wy ms a b).toInt ∧ (wy ms a b).toInt ≤ 1587762 := by
  have e1 := Int.mul_nonneg h1 h1
  have e2 : a.toInt * a.toInt ≤ 891 * 891 := Int.mul_le_mul h2 h2 h1 (by omega)
  have e3 := Int.mul_nonneg h3 h3
  have e4 : b.toInt * b.toInt ≤ 891 * 891 := Int.mul_le_mul h4 h4 h3 (by omega)
  unfold wy
  split
  · have ma : (a * a).toInt = a.toInt * a.toInt := fb_mulI (by omega) (by omega)
    have mb : (b * b).toInt = b.toInt * b.toInt := fb_mulI (by omega) (by omega)
    rw [fb_addI (by rw [ma, mb]; omega) (by rw [ma, mb]; omega), ma, mb]
    omega
  · split
    · rw [fb_addI (by omega) (by omega)]
      omega
    · split
      · rw [imax_i]; split <;> omega
      · omega
def okS (D : Dt) (v : Nat) : Prop := (1 ≤ (D.2.2.2.2.2.1 v).toInt ∧ (D.2.2.2.2.2.1 v).toInt ≤ 9) ∧ (1 ≤ (D.2.2.2.2.2.2 v).toInt ∧ (D.2.2.2.2.2.2 v).toInt ≤ 9)
theorem way_rng {D : Dt} {v : Nat} (h : okS D v) {fx fy tx ty : Int32} (h1 : inN fx 100 = true) (h2 : inN fy 100 = true) (h3 : inN tx 100 = true) (h4 : inN ty 100 = true) : 0 ≤ (wayF D v fx fy tx ty).toInt ∧ (wayF D v fx fy tx ty).toInt ≤ 1587762 := by
  unfold wayF
  obtain ⟨a1, a2⟩ := ad_rng h3 h1
  obtain ⟨b1, b2⟩ := ad_rng h4 h2
  obtain ⟨c1, c2⟩ := mul_rng a1 a2 h.1.1 h.1.2
  obtain ⟨d1, d2⟩ := mul_rng b1 b2 h.2.1 h.2.2
  exact wy_rng _ c1 c2 d1 d2
theorem DI.okS {M : Mem} {n p v : Nat} (h : DI M n p) (hv : v < n) : okS (cD M) v := by
  obtain ⟨-, -, -, -, h5, h6⟩ := h.2.2.1 v hv
  exact ⟨h5, h6⟩
theorem w_lo {X E : Nat} (hX : X < 1000) (hE : E < 1000) : imax 0 (nI X - nI E) = nI (X - E) := by
  apply (fa_eq _ _).mpr
  have e0 : (0 : Int32).toInt = 0 := rfl
  have hs : (nI X - nI E).toInt = (X : Int) - E := pk_sub_toInt (by omega) (by omega)
  rw [imax_i, e0, hs, nI_toInt (by omega)]
  split <;> omega
theorem w_hi {X E : Nat} (hX : X < 1000) (hE : E < 1000) : imin 99 (nI X + nI E) = nI (min (X + E) 99) := by
  apply (fa_eq _ _).mpr
  have e0 : (99 : Int32).toInt = 99 := rfl
  rw [imin_i, e0, nI_add, nI_toInt (by omega), nI_toInt (by omega)]
  split <;> omega
/-! who a voter at a point of the window is for: 1 the first, 2 the other, 4 none -/
def sg (D : Dt) (v : Nat) (px py qx qy : Int32) (a b : Nat) : Nat := if wayF D v (nI a) (nI b) px py < wayF D v (nI a) (nI b) qx qy then 1 else if wayF D v (nI a) (nI b) qx qy < wayF D v (nI a) (nI b) px py then 2 else 4
theorem sg_c (D : Dt) (v : Nat) (px py qx qy : Int32) (a b : Nat) : sg D v px py qx qy a b = 1 ∨ sg D v px py qx qy a b = 2 ∨ sg D v px py qx qy a b = 4 := by
  unfold sg
  split
  · exact Or.inl rfl
  · split
    · exact Or.inr (Or.inl rfl)
    · exact Or.inr (Or.inr rfl)
def c124 (c : Nat) : Prop := c = 1 ∨ c = 2 ∨ c = 4
/-- s tells of the points S that were seen -/
def ST (f : Nat → Nat → Nat) (s : Int32) (S : Nat → Nat → Prop) : Prop := (s = 0 ∧ ∀ a b, ¬ S a b) ∨ (∃ c, c124 c ∧ s = nI c ∧ (∃ a b, S a b) ∧ ∀ a b, S a b → f a b = c)
theorem ST_add {f : Nat → Nat → Nat} {s : Int32} {S T : Nat → Nat → Prop} {a b : Nat} (hf : c124 (f a b)) (h : ST f s S) (hT : ∀ x y, T x y ↔ S x y ∨ (x = a ∧ y = b)) :
    (((s ||| nI (f a b)) &&& ((s ||| nI (f a b)) - 1)) = 0 ∧ ST f (s ||| nI (f a b)) T) ∨ (¬ ((s ||| nI (f a b)) &&& ((s ||| nI (f a b)) - 1)) = 0 ∧ (¬ (s ||| nI (f a b)) = 1 ∧ ¬ (s ||| nI (f a b)) = 2 ∧ ¬ (s ||| nI (f a b)) = 4) ∧ ∃ x y, S x y ∧ f x y ≠ f a b) := by
  rcases h with ⟨rfl, h⟩ | ⟨c, hc, rfl, ⟨x, y, hxy⟩, h⟩
  · left
    have key : ∀ d, c124 d → ((0 : Int32) ||| nI d) = nI d ∧ ((0 ||| nI d) &&& ((0 ||| nI d) - 1)) = 0 := by
      intro d hd
      rcases hd with rfl | rfl | rfl <;> decide
    obtain ⟨k1, k2⟩ := key _ hf
    refine ⟨k2, Or.inr ⟨f a b, hf, k1, ⟨a, b, (hT a b).mpr (Or.inr ⟨rfl, rfl⟩)⟩, fun x y hxy => ?_⟩⟩
    rcases (hT x y).mp hxy with q | ⟨rfl, rfl⟩
    · exact absurd q (h x y)
    · rfl
  · by_cases e : c = f a b
    · left
      have key : ∀ d, c124 d → (nI d ||| nI d) = nI d ∧ ((nI d ||| nI d) &&& ((nI d ||| nI d) - 1)) = 0 := by
        intro d hd
        rcases hd with rfl | rfl | rfl <;> decide
      obtain ⟨k1, k2⟩ := key _ hf
      rw [e]
      refine ⟨k2, Or.inr ⟨f a b, hf, k1, ⟨a, b, (hT a b).mpr (Or.inr ⟨rfl, rfl⟩)⟩, fun x' y' hxy' => ?_⟩⟩
      rcases (hT x' y').mp hxy' with q | ⟨rfl, rfl⟩
      · rw [h x' y' q, e]
      · rfl
    · right
      have key : ∀ c d, c124 c → c124 d → c ≠ d → ¬ ((nI c ||| nI d) &&& ((nI c ||| nI d) - 1)) = 0 ∧ ¬ (nI c ||| nI d) = 1 ∧ ¬ (nI c ||| nI d) = 2 ∧ ¬ (nI c ||| nI d) = 4 := by
        intro c d h1 h2 h3
        rcases h1 with rfl | rfl | rfl <;> rcases h2 with rfl | rfl | rfl <;> first | exact absurd rfl h3 | decide
      obtain ⟨k1, k2⟩ := key c _ hc hf e
      exact ⟨k1, k2, x, y, hxy, by rw [h x y hxy]; exact e⟩
/-- points of a window -/
def wn (a0 a1 b0 b1 a b : Nat) : Prop := a0 ≤ a ∧ a ≤ a1 ∧ b0 ≤ b ∧ b ≤ b1
def al (f : Nat → Nat → Nat) (a0 a1 b0 b1 c : Nat) : Prop := ∀ a b, wn a0 a1 b0 b1 a b → f a b = c
/-- what came out tells all three -/
def TL (f : Nat → Nat → Nat) (a0 a1 b0 b1 : Nat) (r : Int32) : Prop := (r = 1 ↔ al f a0 a1 b0 b1 1) ∧ (r = 2 ↔ al f a0 a1 b0 b1 2) ∧ (r = 4 ↔ al f a0 a1 b0 b1 4)
theorem TL_mixed {f : Nat → Nat → Nat} {a0 a1 b0 b1 : Nat} {r : Int32} (h : ¬ r = 1 ∧ ¬ r = 2 ∧ ¬ r = 4) {x y x' y' : Nat} (h1 : wn a0 a1 b0 b1 x y) (h2 : wn a0 a1 b0 b1 x' y') (hne : f x y ≠ f x' y') : TL f a0 a1 b0 b1 r := by
  have no : ∀ c, ¬ al f a0 a1 b0 b1 c := fun c q => hne (by rw [q x y h1, q x' y' h2])
  exact ⟨⟨fun q => absurd q h.1, fun q => absurd q (no 1)⟩, ⟨fun q => absurd q h.2.1, fun q => absurd q (no 2)⟩, ⟨fun q => absurd q h.2.2, fun q => absurd q (no 4)⟩⟩
theorem TL_all {f : Nat → Nat → Nat} {a0 a1 b0 b1 : Nat} {r : Int32} (h : ST f r (wn a0 a1 b0 b1)) (hne : wn a0 a1 b0 b1 a0 b0) : TL f a0 a1 b0 b1 r := by
  rcases h with ⟨-, h⟩ | ⟨c, hc, rfl, -, h⟩
  · exact absurd hne (h a0 b0)
  · have e : ∀ d, al f a0 a1 b0 b1 d ↔ c = d := fun d => ⟨fun q => by rw [← h _ _ hne, q _ _ hne], fun q a b w => by rw [h a b w, q]⟩
    refine ⟨?_, ?_, ?_⟩
    · rw [e]; exact nI_eq (b := 1) (by rcases hc with rfl | rfl | rfl <;> omega) (by omega)
    · rw [e]; exact nI_eq (b := 2) (by rcases hc with rfl | rfl | rfl <;> omega) (by omega)
    · rw [e]; exact nI_eq (b := 4) (by rcases hc with rfl | rfl | rfl <;> omega) (by omega)
