/-! the farthest line from a point, the point whose farthest is nearest -/
def tpL (l : Ln) (a : Nat) : Int := (l.1 * ((a / 100 : Nat) : Int) + l.2.1 * ((a % 100 : Nat) : Int) - l.2.2) * (l.1 * ((a / 100 : Nat) : Int) + l.2.1 * ((a % 100 : Nat) : Int) - l.2.2)
def btL (l : Ln) : Int := l.1 * l.1 + l.2.1 * l.2.1
def isMx (L : Ln → Prop) (a : Nat) (P Q : Int) : Prop := 0 < Q ∧ 0 ≤ P ∧ (∀ l, L l → tpL l a * Q ≤ P * btL l) ∧ (P = 0 ∨ ∃ l, L l ∧ tpL l a * Q = P * btL l)
def blw1 (L : Ln → Prop) (a : Nat) (p q : Int) : Prop := 0 < p ∧ ∀ l, L l → tpL l a * q < p * btL l
def bstI (L : Ln → Prop) (m b : Nat) (p q : Int) : Prop := b < m ∧ isMx L b p q ∧ (∀ a, a < m → ¬ blw1 L a p q) ∧ (∀ a, a < b → ∀ P Q, isMx L a P Q → blw1 L b P Q)
def bpos (L : Ln → Prop) : Prop := ∀ l, L l → 0 < btL l
theorem tp_nn (l : Ln) (a : Nat) : 0 ≤ tpL l a := sq_nn _
theorem cx_lt {t q Q P p b : Int} (hQ : 0 < Q) (hq : 0 < q) (hb : 0 < b) (h1 : t * Q ≤ P * b) (h2 : P * q < p * Q) : t * q < p * b := by
  have k1 : t * Q * q ≤ P * b * q := Int.mul_le_mul_of_nonneg_right h1 (by omega)
  have k2 : P * q * b < p * Q * b := Int.mul_lt_mul_of_pos_right h2 hb
  have k3 : (t * q) * Q < (p * b) * Q := by
    have e1 : t * Q * q = (t * q) * Q := by grind
    have e2 : P * b * q = P * q * b := by grind
    have e3 : p * Q * b = (p * b) * Q := by grind
    omega
  exact Int.lt_of_mul_lt_mul_right k3 (by omega)
theorem cx_le {t q Q P p b : Int} (hQ : 0 < Q) (hq : 0 < q) (hb : 0 < b) (h1 : t * q < p * b) (h2 : p * Q ≤ P * q) : t * Q < P * b := by
  have k1 : t * q * Q < p * b * Q := Int.mul_lt_mul_of_pos_right h1 hQ
  have k2 : p * Q * b ≤ P * q * b := Int.mul_le_mul_of_nonneg_right h2 (by omega)
  have k3 : (t * Q) * q < (P * b) * q := by
    have e1 : t * q * Q = (t * Q) * q := by grind
    have e2 : p * b * Q = p * Q * b := by grind
    have e3 : P * q * b = (P * b) * q := by grind
    omega
  exact Int.lt_of_mul_lt_mul_right k3 (by omega)
theorem cx_eq {t q Q P p b : Int} (hb : 0 < b) (hQ : 0 < Q) (h1 : t * Q = P * b) (h2 : t * q < p * b) : P * q < p * Q := by
  have k1 : t * q * Q < p * b * Q := Int.mul_lt_mul_of_pos_right h2 hQ
  have k3 : (P * q) * b < (p * Q) * b := by
    have e1 : t * q * Q = (t * Q) * q := by grind
    have e2 : p * b * Q = (p * Q) * b := by grind
    have e3 : P * b * q = (P * q) * b := by grind
    rw [h1] at e1
    omega
  exact Int.lt_of_mul_lt_mul_right k3 (by omega)
theorem mx_bl {L : Ln → Prop} (hp : bpos L) {a : Nat} {P Q p q : Int} (h : isMx L a P Q) (hq : 0 < q) : P * q < p * Q ↔ blw1 L a p q := by
  obtain ⟨h1, h2, h3, h4⟩ := h
  constructor
  · intro h
    refine ⟨?_, fun l hl => cx_lt h1 hq (hp l hl) (h3 l hl) h⟩
    have := Int.mul_nonneg h2 (show 0 ≤ q by omega)
    by_cases c : 0 < p
    · exact c
    · have := Int.mul_nonneg (show 0 ≤ -p by omega) (show 0 ≤ Q by omega)
      rw [Int.neg_mul] at this
      omega
  · rintro ⟨k1, k2⟩
    rcases h4 with rfl | ⟨l, l1, l2⟩
    · rw [Int.zero_mul]; exact Int.mul_pos k1 h1
    · exact cx_eq (hp l l1) h1 l2 (k2 l l1)
theorem mx_no {L : Ln → Prop} {a : Nat} {P Q : Int} (h : isMx L a P Q) : ¬ blw1 L a P Q := by
  rintro ⟨k1, k2⟩
  obtain ⟨-, -, -, h4⟩ := h
  rcases h4 with rfl | ⟨l, l1, l2⟩
  · omega
  · have := k2 l l1
    omega
theorem mx_eq {L : Ln → Prop} (hp : bpos L) {a : Nat} {P Q P1 Q1 : Int} (h : isMx L a P Q) (g : isMx L a P1 Q1) : P * Q1 = P1 * Q := by
  have n1 : ¬ P * Q1 < P1 * Q := fun w => mx_no g ((mx_bl hp h g.1).mp w)
  have n2 : ¬ P1 * Q < P * Q1 := fun w => mx_no h ((mx_bl hp g h.1).mp w)
  omega
theorem bst_yes {L : Ln → Prop} (hp : bpos L) {m b : Nat} {p q p1 q1 : Int} (h : bstI L m b p q) (hb : blw1 L m p q) (hm : isMx L m p1 q1) : bstI L (m + 1) m p1 q1 := by
  obtain ⟨h1, h2, h3, h4⟩ := h
  have lt := (mx_bl hp hm h2.1).mpr hb
  refine ⟨by omega, hm, fun a ha w => ?_, fun a ha P Q hPQ => ?_⟩
  · by_cases e : a = m
    · rw [e] at w; exact mx_no hm w
    · refine h3 a (by omega) ⟨hb.1, fun l hl => ?_⟩
      exact cx_le h2.1 hm.1 (hp l hl) (w.2 l hl) (Int.le_of_lt lt)
  · have n1 : ¬ P * q < p * Q := fun w => h3 a (by omega) ((mx_bl hp hPQ h2.1).mp w)
    refine ⟨?_, fun l hl => cx_le hPQ.1 h2.1 (hp l hl) (hb.2 l hl) (by omega)⟩
    have := Int.mul_pos hb.1 hPQ.1
    by_cases c : 0 < P
    · exact c
    · have := Int.mul_nonneg (show 0 ≤ -P by omega) (show 0 ≤ q by have := h2.1; omega)
      rw [Int.neg_mul] at this
      omega
theorem bst_no {L : Ln → Prop} {m b : Nat} {p q : Int} (h : bstI L m b p q) (hb : ¬ blw1 L m p q) : bstI L (m + 1) b p q := by
  obtain ⟨h1, h2, h3, h4⟩ := h
  refine ⟨by omega, h2, fun a ha => ?_, h4⟩
  by_cases e : a = m
  · rw [e]; exact hb
  · exact h3 a (by omega)
theorem bst_one {L : Ln → Prop} (hp : bpos L) {m b b1 : Nat} {p q p1 q1 : Int} (h : bstI L m b p q) (g : bstI L m b1 p1 q1) : b = b1 ∧ p * q1 = p1 * q := by
  have e : b = b1 := by
    obtain ⟨h1, h2, h3, h4⟩ := h
    obtain ⟨g1, g2, g3, g4⟩ := g
    by_cases c : b < b1
    · exact absurd (g4 b c p q h2) (h3 b1 g1)
    · by_cases c2 : b1 < b
      · exact absurd (h4 b1 c2 p1 q1 g2) (g3 b h1)
      · omega
  subst e
  exact ⟨rfl, mx_eq hp h.2.1 g.2.1⟩
/-- the farthest of the first k lines -/
def isMk (g : Nat → Ln) (k a : Nat) (P Q : Int) : Prop := 0 < Q ∧ 0 ≤ P ∧ (∀ i, i < k → tpL (g i) a * Q ≤ P * btL (g i)) ∧ (P = 0 ∨ ∃ i, i < k ∧ tpL (g i) a * Q = P * btL (g i))
theorem mk_0 (g : Nat → Ln) (a : Nat) : isMk g 0 a 0 1 := ⟨by omega, by omega, fun i h => absurd h (by omega), Or.inl rfl⟩
theorem mk_keep {g : Nat → Ln} {k a : Nat} {P Q : Int} (h : isMk g k a P Q) (hk : tpL (g k) a * Q ≤ P * btL (g k)) : isMk g (k + 1) a P Q := by
  obtain ⟨h1, h2, h3, h4⟩ := h
  refine ⟨h1, h2, fun i hi => ?_, ?_⟩
  · by_cases e : i = k
    · rw [e]; exact hk
    · exact h3 i (by omega)
  · rcases h4 with h4 | ⟨i, i1, i2⟩
    · exact Or.inl h4
    · exact Or.inr ⟨i, by omega, i2⟩
theorem mk_new {g : Nat → Ln} {k a : Nat} {P Q : Int} (h : isMk g k a P Q) (hb : ∀ i, i ≤ k → 0 < btL (g i)) (hk : P * btL (g k) ≤ tpL (g k) a * Q) : isMk g (k + 1) a (tpL (g k) a) (btL (g k)) := by
  obtain ⟨h1, h2, h3, h4⟩ := h
  refine ⟨hb k (Nat.le_refl _), tp_nn _ _, fun i hi => ?_, Or.inr ⟨k, by omega, rfl⟩⟩
  by_cases e : i = k
  · rw [e]; exact Int.le_refl _
  · exact mul_le_tr2 (hb i (by omega)) h1 (hb k (Nat.le_refl _)) (h3 i (by omega)) hk
theorem mk_mx {g : Nat → Ln} {r a : Nat} {P Q : Int} {L : Ln → Prop} (h : isMk g r a P Q) (hL : ∀ x, (∃ i, i < r ∧ g i = x) ↔ L x) : isMx L a P Q := by
  obtain ⟨h1, h2, h3, h4⟩ := h
  refine ⟨h1, h2, fun l hl => ?_, ?_⟩
  · obtain ⟨i, i1, rfl⟩ := (hL l).mpr hl
    exact h3 i i1
  · rcases h4 with h4 | ⟨i, i1, i2⟩
    · exact Or.inl h4
    · exact Or.inr ⟨g i, (hL _).mp ⟨i, i1, rfl⟩, i2⟩
/-- fractions in lowest terms -/
theorem low_eq {p q p1 q1 : Nat} (hq : 0 < q) (hq1 : 0 < q1) (h : p * q1 = p1 * q) : p / Nat.gcd p q = p1 / Nat.gcd p1 q1 ∧ q / Nat.gcd p q = q1 / Nat.gcd p1 q1 := by
  have g0 : 0 < Nat.gcd p q := Nat.gcd_pos_of_pos_right _ hq
  have g1 : 0 < Nat.gcd p1 q1 := Nat.gcd_pos_of_pos_right _ hq1
  have c0 := gcd_dd g0
  have c1 := gcd_dd g1
  have a0 := Nat.div_mul_cancel (Nat.gcd_dvd_left p q)
  have b0 := Nat.div_mul_cancel (Nat.gcd_dvd_right p q)
  have a1 := Nat.div_mul_cancel (Nat.gcd_dvd_left p1 q1)
  have b1 := Nat.div_mul_cancel (Nat.gcd_dvd_right p1 q1)
  generalize p / Nat.gcd p q = a at *
  generalize q / Nat.gcd p q = b at *
  generalize p1 / Nat.gcd p1 q1 = c at *
  generalize q1 / Nat.gcd p1 q1 = d at *
  generalize Nat.gcd p q = G at *
  generalize Nat.gcd p1 q1 = H at *
  have bp : 0 < b := by
    rcases Nat.eq_zero_or_pos b with e | e
    · rw [e, Nat.zero_mul] at b0; omega
    · exact e
  have dp : 0 < d := by
    rcases Nat.eq_zero_or_pos d with e | e
    · rw [e, Nat.zero_mul] at b1; omega
    · exact e
  have k : a * d = c * b := by
    rw [← a0, ← b0, ← a1, ← b1] at h
    have e1 : a * G * (d * H) = (a * d) * (G * H) := by grind
    have e2 : c * H * (b * G) = (c * b) * (G * H) := by grind
    rw [e1, e2] at h
    exact Nat.eq_of_mul_eq_mul_right (Nat.mul_pos g0 g1) h
  have d1 : b ∣ d := Nat.Coprime.dvd_of_dvd_mul_left (k := b) (m := a) (n := d) (by rw [Nat.coprime_comm]; exact c0) ⟨c, by rw [k, Nat.mul_comm]⟩
  have d2 : d ∣ b := Nat.Coprime.dvd_of_dvd_mul_left (k := d) (m := c) (n := b) (by rw [Nat.coprime_comm]; exact c1) ⟨a, by rw [← k, Nat.mul_comm]⟩
  have e : b = d := Nat.dvd_antisymm d1 d2
  subst e
  exact ⟨Nat.eq_of_mul_eq_mul_right bp k, rfl⟩
