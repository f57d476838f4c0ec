/-! the sum over all couples -/
def exP (G : Nat → Nat → Int64) (P : Nat → Int64) (i h : Nat) (n : Nat) : Int64 × Int32 := fd (fun j s => if i < j ∧ tb h j = true then (s.1 + s.2.toInt64 * G i j * P (h - 2 ^ j), -s.2) else s) (0, 1) n
def pfF (G : Nat → Nat → Int64) : Nat → Nat → Int64
  | 0, _ => 1
  | f + 1, h => if h = 0 then 1 else (exP G (pfF G f) (lzN h) (h - 2 ^ lzN h) 8).1
theorem exP_s (G : Nat → Nat → Int64) (P : Nat → Int64) (i h n : Nat) : exP G P i h (n + 1) = if i < n ∧ tb h n = true then ((exP G P i h n).1 + (exP G P i h n).2.toInt64 * G i n * P (h - 2 ^ n), -(exP G P i h n).2) else exP G P i h n := rfl
theorem exP_cg {G : Nat → Nat → Int64} {P Q : Nat → Int64} {i h : Nat} : ∀ {n : Nat}, (∀ j, j < n → i < j → tb h j = true → P (h - 2 ^ j) = Q (h - 2 ^ j)) → exP G P i h n = exP G Q i h n
  | 0, _ => rfl
  | n + 1, hq => by
    have ih := exP_cg (G := G) (n := n) (fun j hj => hq j (by omega))
    rw [exP_s, exP_s, ih]
    by_cases c : i < n ∧ tb h n = true
    · rw [if_pos c, if_pos c, hq n (by omega) c.1 c.2]
    · rw [if_neg c, if_neg c]
theorem exP_start {G : Nat → Nat → Int64} {P : Nat → Int64} {i h : Nat} : ∀ {n : Nat}, n ≤ i + 1 → exP G P i h n = (0, 1)
  | 0, _ => rfl
  | n + 1, hn => by
    rw [exP_s, if_neg (by omega), exP_start (by omega)]
theorem exP_end {G : Nat → Nat → Int64} {P : Nat → Int64} {i h m : Nat} (hm : ∀ j, j < 8 → m ≤ j → tb h j = false) : ∀ {d : Nat}, m + d ≤ 8 → exP G P i h (m + d) = exP G P i h m
  | 0, _ => rfl
  | d + 1, hd => by
    have ih := exP_end (G := G) (P := P) (i := i) hm (d := d) (by omega)
    have e : m + (d + 1) = (m + d) + 1 := by omega
    rw [e, exP_s, hm (m + d) (by omega) (by omega), if_neg (by simp), ih]
theorem exP_sg (G : Nat → Nat → Int64) (P : Nat → Int64) (i h : Nat) : ∀ n, (exP G P i h n).2 = 1 ∨ (exP G P i h n).2 = -1
  | 0 => Or.inl rfl
  | n + 1 => by
    rw [exP_s]
    split
    · rcases exP_sg G P i h n with e | e
      · right; show -(exP G P i h n).2 = -1; rw [e]
      · left; show -(exP G P i h n).2 = 1; rw [e]; rfl
    · exact exP_sg G P i h n
theorem bc_less {h j : Nat} (hh : h < 256) (hj : j < 8) (ht : tb h j = true) : bcN (h - 2 ^ j) + 1 = bcN h ∧ 2 ^ j ≤ h ∧ h - 2 ^ j < 256 := by
  have := (m_tab2 h hh j hj).2 ht
  exact ⟨this.2.1, this.1, Nat.lt_of_le_of_lt (Nat.sub_le _ _) hh⟩
/-- two taken out -/
theorem two_out {h j : Nat} (hh : h < 256) (h0 : h ≠ 0) (hj : j < 8) (ht : tb (h - 2 ^ lzN h) j = true) : bcN (h - 2 ^ lzN h - 2 ^ j) + 2 = bcN h ∧ h - 2 ^ lzN h - 2 ^ j < 256 ∧ h - 2 ^ lzN h < 256 := by
  obtain ⟨-, a2, a3, a4, -⟩ := m_tab h hh h0
  obtain ⟨b1, b2, b3⟩ := bc_less hh a2 a3
  obtain ⟨c1, c2, c3⟩ := bc_less b3 hj ht
  exact ⟨by omega, c3, b3⟩
/-- more steps give no more -/
theorem pf_more (G : Nat → Nat → Int64) : ∀ (f : Nat) {h : Nat}, h < 256 → bcN h % 2 = 0 → bcN h ≤ 2 * f → pfF G (f + 1) h = pfF G f h
  | 0, h, hh, h2, h3 => by
    have : h = 0 := (m_tab3 h hh).2.1 (by omega)
    subst this
    rfl
  | f + 1, h, hh, h2, h3 => by
    show (if h = 0 then 1 else (exP G (pfF G (f + 1)) (lzN h) (h - 2 ^ lzN h) 8).1) = (if h = 0 then 1 else (exP G (pfF G f) (lzN h) (h - 2 ^ lzN h) 8).1)
    by_cases c : h = 0
    · rw [if_pos c, if_pos c]
    · rw [if_neg c, if_neg c]
      refine congrArg Prod.fst (exP_cg (fun j hj _ ht => ?_))
      obtain ⟨k1, k2, -⟩ := two_out hh c hj ht
      exact pf_more G f k2 (by omega) (by omega)
def pfN (G : Nat → Nat → Int64) (h : Nat) : Int64 := pfF G 4 h
theorem pfN_0 (G : Nat → Nat → Int64) : pfN G 0 = 1 := rfl
theorem pfN_s (G : Nat → Nat → Int64) {h : Nat} (hh : h < 256) (h2 : bcN h % 2 = 0) (h0 : h ≠ 0) : pfN G h = (exP G (pfN G) (lzN h) (h - 2 ^ lzN h) 8).1 := by
  have e : pfN G h = (exP G (pfF G 3) (lzN h) (h - 2 ^ lzN h) 8).1 := by
    show (if h = 0 then 1 else (exP G (pfF G 3) (lzN h) (h - 2 ^ lzN h) 8).1) = _
    rw [if_neg h0]
  rw [e]
  refine congrArg Prod.fst (exP_cg (fun j hj _ ht => ?_))
  obtain ⟨k1, k2, -⟩ := two_out hh h0 hj ht
  have := (m_tab3 h hh).1
  exact (pf_more G 3 k2 (by omega) (by omega)).symm
/-- how large -/
def smG (G : Nat → Nat → Int64) : Prop := ∀ i j, i < 8 → j < 8 → -135 ≤ (G i j).toInt ∧ (G i j).toInt ≤ 135
theorem sg_mul {s : Int32} {x : Int64} (hs : s = 1 ∨ s = -1) (h1 : -1000000000000000 ≤ x.toInt) (h2 : x.toInt ≤ 1000000000000000) : (s.toInt64 * x).toInt = if s = 1 then x.toInt else - x.toInt := by
  rcases hs with rfl | rfl
  · rw [if_pos rfl]
    have e : (1 : Int32).toInt64 = (1 : Int64) := rfl
    rw [e, Int64.one_mul]
  · rw [if_neg (by decide)]
    have e : ((-1 : Int32).toInt64).toInt = -1 := rfl
    rw [fb_mulL (by rw [e]; omega) (by rw [e]; omega), e]; omega
theorem pr135 {a b c : Int} (hc : 0 ≤ c) (h1 : -135 ≤ a) (h2 : a ≤ 135) (h3 : -c ≤ b) (h4 : b ≤ c) : -(135 * c) ≤ a * b ∧ a * b ≤ 135 * c := by
  have k1 : 0 ≤ (135 - a) * (c + b) := Int.mul_nonneg (by omega) (by omega)
  have k2 : 0 ≤ (135 + a) * (c - b) := Int.mul_nonneg (by omega) (by omega)
  have k3 : 0 ≤ (135 - a) * (c - b) := Int.mul_nonneg (by omega) (by omega)
  have k4 : 0 ≤ (135 + a) * (c + b) := Int.mul_nonneg (by omega) (by omega)
  have e1 : (135 - a) * (c + b) = 135 * c + 135 * b - a * c - a * b := by grind
  have e2 : (135 + a) * (c - b) = 135 * c - 135 * b + a * c - a * b := by grind
  have e3 : (135 - a) * (c - b) = 135 * c - 135 * b - a * c + a * b := by grind
  have e4 : (135 + a) * (c + b) = 135 * c + 135 * b + a * c + a * b := by grind
  omega
theorem exP_b {G : Nat → Nat → Int64} (hG : smG G) {P : Nat → Int64} {i h : Nat} {c : Int} (hi : i < 8) (hc : 0 ≤ c) (hc2 : c ≤ 2000000000) (hP : ∀ j, j < 8 → i < j → tb h j = true → -c ≤ (P (h - 2 ^ j)).toInt ∧ (P (h - 2 ^ j)).toInt ≤ c) : ∀ {n : Nat}, n ≤ 8 → -(135 * c * n) ≤ (exP G P i h n).1.toInt ∧ (exP G P i h n).1.toInt ≤ 135 * c * n
  | 0, _ => by
    have : (exP G P i h 0).1.toInt = 0 := rfl
    rw [this]; omega
  | n + 1, hn => by
    obtain ⟨h1, h2⟩ := exP_b hG hi hc hc2 hP (n := n) (by omega)
    have e8 : 135 * c * ((n + 1 : Nat) : Int) = 135 * c * (n : Int) + 135 * c := by
      have : ((n + 1 : Nat) : Int) = (n : Int) + 1 := rfl
      rw [this, Int.mul_add, Int.mul_one]
    have nn : 135 * c * (n : Int) ≤ 135 * c * 8 := Int.mul_le_mul_of_nonneg_left (by omega) (by omega)
    have n0 : 0 ≤ 135 * c * (n : Int) := Int.mul_nonneg (by omega) (by omega)
    rw [exP_s, e8]
    by_cases q : i < n ∧ tb h n = true
    · rw [if_pos q]
      obtain ⟨p1, p2⟩ := hP n (by omega) q.1 q.2
      obtain ⟨g1, g2⟩ := hG i n hi (by omega)
      obtain ⟨m1, m2⟩ := pr135 hc g1 g2 p1 p2
      have s1 := sg_mul (exP_sg G P i h n) (x := G i n) (by omega) (by omega)
      have s2 : -135 ≤ ((exP G P i h n).2.toInt64 * G i n).toInt ∧ ((exP G P i h n).2.toInt64 * G i n).toInt ≤ 135 := by
        rw [s1]; split <;> omega
      obtain ⟨m3, m4⟩ := pr135 hc s2.1 s2.2 p1 p2
      have t1 : ((exP G P i h n).2.toInt64 * G i n * P (h - 2 ^ n)).toInt = ((exP G P i h n).2.toInt64 * G i n).toInt * (P (h - 2 ^ n)).toInt := fb_mulL (by omega) (by omega)
      have t2 : ((exP G P i h n).1 + (exP G P i h n).2.toInt64 * G i n * P (h - 2 ^ n)).toInt = (exP G P i h n).1.toInt + ((exP G P i h n).2.toInt64 * G i n).toInt * (P (h - 2 ^ n)).toInt := by
        rw [fb_addL (by rw [t1]; omega) (by rw [t1]; omega), t1]
      rw [t2]
      omega
    · rw [if_neg q]; omega
def pfB : Nat → Int
  | 0 => 1
  | f + 1 => 1080 * pfB f
theorem pf_b {G : Nat → Nat → Int64} (hG : smG G) : ∀ (f : Nat) {h : Nat}, f ≤ 3 → h < 256 → -(pfB f) ≤ (pfF G f h).toInt ∧ (pfF G f h).toInt ≤ pfB f
  | 0, h, _, _ => by
    have : (pfF G 0 h).toInt = 1 := rfl
    have : pfB 0 = 1 := rfl
    omega
  | f + 1, h, hf, hh => by
    have b0 : 1 ≤ pfB f ∧ pfB f ≤ 2000000 := by
      have : f = 0 ∨ f = 1 ∨ f = 2 := by omega
      rcases this with rfl | rfl | rfl <;> decide
    have e : pfB (f + 1) = 1080 * pfB f := rfl
    rw [e]
    show _ ≤ (if h = 0 then (1 : Int64) else (exP G (pfF G f) (lzN h) (h - 2 ^ lzN h) 8).1).toInt ∧ (if h = 0 then (1 : Int64) else (exP G (pfF G f) (lzN h) (h - 2 ^ lzN h) 8).1).toInt ≤ _
    by_cases c : h = 0
    · rw [if_pos c]
      have : (1 : Int64).toInt = 1 := rfl
      omega
    · rw [if_neg c]
      obtain ⟨-, a2, a3, a4, -⟩ := m_tab h hh c
      have := exP_b hG (P := pfF G f) (i := lzN h) (h := h - 2 ^ lzN h) (c := pfB f) a2 (by omega) (by omega) (fun j hj _ ht => pf_b hG f (by omega) (two_out hh c hj ht).2.1) (n := 8) (by omega)
      omega
theorem pfN_b {G : Nat → Nat → Int64} (hG : smG G) {h : Nat} (hh : h < 256) (h2 : bcN h % 2 = 0) (h6 : bcN h ≤ 6) : -1300000000 ≤ (pfN G h).toInt ∧ (pfN G h).toInt ≤ 1300000000 := by
  have e : pfN G h = pfF G 3 h := pf_more G 3 hh h2 (by omega)
  rw [e]
  have := pf_b hG 3 (by omega) hh
  have b3 : pfB 3 = 1259712000 := by decide
  omega
