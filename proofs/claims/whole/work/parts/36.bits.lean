/-! Integer.bitCount of small numbers -/
theorem land_split (u m : Nat) : u &&& m = (u % 256 &&& m % 256) + 256 * (u / 256 &&& m / 256) := by
  have h1 : (u &&& m) % 256 = u % 256 &&& m % 256 := Nat.and_mod_two_pow (n := 8)
  have h2 : (u &&& m) / 256 = u / 256 &&& m / 256 := Nat.and_div_two_pow (n := 8)
  rw [← h1, ← h2]
  omega
def bt1 (z : Nat) : Nat := z / 2 &&& 85
def bt2 (z : Nat) : Nat := (z &&& 51) + (z / 4 &&& 51)
def bu (z : Nat) : Nat := bt2 (z - bt1 z)
theorem bt1_hi : ∀ y, y < 512 → y / 2 &&& 85 = bt1 (y % 256) := by decide +kernel
theorem bt2_hi : ∀ y, y < 1024 → y / 4 &&& 51 = (y % 256) / 4 &&& 51 := by decide +kernel
theorem b_tab : ∀ z, z < 256 → bt1 z ≤ z ∧ z - bt1 z < 256 ∧ bu z < 256 ∧ bu z % 16 ≤ 4 ∧ bu z / 16 ≤ 4 ∧ bu z % 16 + bu z / 16 = fb_ct (fun i => z / 2 ^ i % 2 == 1) 8 := by decide +kernel
def bcN (x : Nat) : Nat :=
  let x1 := x - (x / 2 &&& 1431655765)
  let x2 := (x1 &&& 858993459) + (x1 / 4 &&& 858993459)
  let x3 := (x2 + x2 / 16) &&& 252645135
  let x4 := x3 + x3 / 256
  let x5 := x4 + x4 / 65536
  x5 &&& 63
theorem land3 (u m0 : Nat) (hu : u < 16777216) (hm : m0 < 256) : u &&& (m0 + 256 * (m0 + 256 * (m0 + 256 * m0))) = (u % 256 &&& m0) + 256 * (u / 256 % 256 &&& m0) + 65536 * (u / 65536 &&& m0) := by
  rw [land_split u, show (m0 + 256 * (m0 + 256 * (m0 + 256 * m0))) % 256 = m0 by omega, show (m0 + 256 * (m0 + 256 * (m0 + 256 * m0))) / 256 = m0 + 256 * (m0 + 256 * m0) by omega]
  rw [land_split (u / 256), show (m0 + 256 * (m0 + 256 * m0)) % 256 = m0 by omega, show (m0 + 256 * (m0 + 256 * m0)) / 256 = m0 + 256 * m0 by omega]
  rw [land_split (u / 256 / 256), show (m0 + 256 * m0) % 256 = m0 by omega, show (m0 + 256 * m0) / 256 = m0 by omega]
  rw [show u / 256 / 256 / 256 = 0 by omega, show u / 256 / 256 % 256 = u / 65536 by omega, Nat.zero_and]
  omega
theorem hm15 (z : Nat) : z &&& 15 = z % 16 := Nat.and_two_pow_sub_one_eq_mod z 4
theorem hm63 (z : Nat) : z &&& 63 = z % 64 := Nat.and_two_pow_sub_one_eq_mod z 6
theorem nib5 (p q r : Nat) (hp : p ≤ 8) (hq : q ≤ 8) (hr : r ≤ 8) : (p + 256 * q + 65536 * r + (p + 256 * q + 65536 * r) / 256 + (p + 256 * q + 65536 * r + (p + 256 * q + 65536 * r) / 256) / 65536) % 64 = p + q + r := by
  have e1 : (p + 256 * q + 65536 * r) / 256 = q + 256 * r := by omega
  rw [e1]
  have e2 : (p + 256 * q + 65536 * r + (q + 256 * r)) / 65536 = r := by omega
  rw [e2]
  omega
theorem nib4 (r s t : Nat) (a4 : r % 16 ≤ 4) (a5 : r / 16 ≤ 4) (c4 : s % 16 ≤ 4) (c5 : s / 16 ≤ 4) (e4 : t % 16 ≤ 4) (e5 : t / 16 ≤ 4) : (r + 256 * s + 65536 * t + (r + 256 * s + 65536 * t) / 16) % 256 % 16 + 256 * ((r + 256 * s + 65536 * t + (r + 256 * s + 65536 * t) / 16) / 256 % 256 % 16) + 65536 * ((r + 256 * s + 65536 * t + (r + 256 * s + 65536 * t) / 16) / 65536 % 16) = (r % 16 + r / 16) + 256 * (s % 16 + s / 16) + 65536 * (t % 16 + t / 16) := by
  have er := Nat.div_add_mod r 16
  have es := Nat.div_add_mod s 16
  have et := Nat.div_add_mod t 16
  generalize r % 16 = r0 at *
  generalize r / 16 = r1 at *
  generalize s % 16 = s0 at *
  generalize s / 16 = s1 at *
  generalize t % 16 = t0 at *
  generalize t / 16 = t1 at *
  subst er; subst es; subst et
  have e : (16 * r1 + r0 + 256 * (16 * s1 + s0) + 65536 * (16 * t1 + t0)) / 16 = r1 + 16 * s0 + 256 * s1 + 4096 * t0 + 65536 * t1 := by omega
  rw [e]
  generalize hX : 16 * r1 + r0 + 256 * (16 * s1 + s0) + 65536 * (16 * t1 + t0) + (r1 + 16 * s0 + 256 * s1 + 4096 * t0 + 65536 * t1) = X
  have x1 : X % 256 = 16 * (r1 + s0) + (r0 + r1) := by omega
  have x2 : X / 256 % 256 = 16 * (s1 + t0) + (s0 + s1) := by omega
  have x3 : X / 65536 = 16 * t1 + (t0 + t1) := by omega
  have q : ∀ A B : Nat, B ≤ 8 → (16 * A + B) % 16 = B := by intro A B h; omega
  rw [x1, x2, x3, q _ _ (Nat.add_le_add a4 a5), q _ _ (Nat.add_le_add c4 c5), q _ _ (Nat.add_le_add e4 e5)]
theorem bc_parts (a c e : Nat) (ha : a < 256) (hc : c < 256) (he : e < 256) : bcN (a + 256 * c + 65536 * e) = fb_ct (fun i => a / 2 ^ i % 2 == 1) 8 + fb_ct (fun i => c / 2 ^ i % 2 == 1) 8 + fb_ct (fun i => e / 2 ^ i % 2 == 1) 8 := by
  obtain ⟨a1, a2, a3, a4, a5, a6⟩ := b_tab a ha
  obtain ⟨c1, c2, c3, c4, c5, c6⟩ := b_tab c hc
  obtain ⟨e1, e2, e3, e4, e5, e6⟩ := b_tab e he
  rw [← a6, ← c6, ← e6]
  generalize hx : a + 256 * c + 65536 * e = x
  have h1 : x / 2 &&& 1431655765 = bt1 a + 256 * bt1 c + 65536 * bt1 e := by
    have := land3 (x / 2) 85 (by omega) (by omega)
    rw [show (85 + 256 * (85 + 256 * (85 + 256 * 85)) : Nat) = 1431655765 by decide] at this
    rw [this]
    have q1 := bt1_hi (x % 512) (by omega)
    have q2 := bt1_hi (x / 256 % 512) (by omega)
    rw [show x / 2 % 256 = x % 512 / 2 by omega, q1, show x % 512 % 256 = a by omega, show x / 2 / 256 % 256 = x / 256 % 512 / 2 by omega, q2, show x / 256 % 512 % 256 = c by omega, show x / 2 / 65536 = e / 2 by omega]
    rfl
  have h2 : x - (x / 2 &&& 1431655765) = (a - bt1 a) + 256 * (c - bt1 c) + 65536 * (e - bt1 e) := by
    rw [h1]; omega
  unfold bcN
  simp only
  rw [h2]
  unfold bu at a3 a4 a5 c3 c4 c5 e3 e4 e5 ⊢
  generalize a - bt1 a = u at *
  generalize c - bt1 c = v at *
  generalize e - bt1 e = w at *
  have h3 : (u + 256 * v + 65536 * w &&& 858993459) + ((u + 256 * v + 65536 * w) / 4 &&& 858993459) = bt2 u + 256 * bt2 v + 65536 * bt2 w := by
    have g1 := land3 (u + 256 * v + 65536 * w) 51 (by omega) (by omega)
    have g2 := land3 ((u + 256 * v + 65536 * w) / 4) 51 (by omega) (by omega)
    rw [show (51 + 256 * (51 + 256 * (51 + 256 * 51)) : Nat) = 858993459 by decide] at g1 g2
    rw [g1, g2]
    have q1 := bt2_hi ((u + 256 * v + 65536 * w) % 1024) (by omega)
    have q2 := bt2_hi ((u + 256 * v + 65536 * w) / 256 % 1024) (by omega)
    rw [show (u + 256 * v + 65536 * w) / 4 % 256 = (u + 256 * v + 65536 * w) % 1024 / 4 by omega, q1, show (u + 256 * v + 65536 * w) % 1024 % 256 = u by omega, show (u + 256 * v + 65536 * w) / 4 / 256 % 256 = (u + 256 * v + 65536 * w) / 256 % 1024 / 4 by omega, q2, show (u + 256 * v + 65536 * w) / 256 % 1024 % 256 = v by omega, show (u + 256 * v + 65536 * w) / 4 / 65536 = w / 4 by omega, show (u + 256 * v + 65536 * w) % 256 = u by omega, show (u + 256 * v + 65536 * w) / 256 % 256 = v by omega, show (u + 256 * v + 65536 * w) / 65536 = w by omega]
    unfold bt2
    omega
  rw [h3]
  generalize bt2 u = r at *
  generalize bt2 v = s at *
  generalize bt2 w = t at *
  have h4 : (r + 256 * s + 65536 * t + (r + 256 * s + 65536 * t) / 16 &&& 252645135) = (r % 16 + r / 16) + 256 * (s % 16 + s / 16) + 65536 * (t % 16 + t / 16) := by
    have g1 := land3 (r + 256 * s + 65536 * t + (r + 256 * s + 65536 * t) / 16) 15 (by omega) (by omega)
    rw [show (15 + 256 * (15 + 256 * (15 + 256 * 15)) : Nat) = 252645135 by decide] at g1
    rw [g1]
    rw [hm15, hm15, hm15]
    exact nib4 r s t a4 a5 c4 c5 e4 e5
  rw [h4, hm63]
  exact nib5 _ _ _ (by omega) (by omega) (by omega)
theorem ush_n {a : Nat} (ha : a < 4294967296) (k : Nat) (hk : k < 32) : ush (nI a) (nI k) = nI (a / 2 ^ k) := by
  unfold ush
  have hs : ∀ k, k < 32 → (((nI k).toUInt32 &&& Int32.toUInt32 31).toBitVec % 32).toNat = k := by decide
  exact pk_ushrN ha (nI k) k (hs k hk)
theorem bc_eq (M : Mem) {x : Nat} (hx : x < 16777216) : fJ6_bitCount_0f7a4 M (nI x) = some (nI (bcN x)) := by
  unfold fJ6_bitCount_0f7a4
  simp only [nx_eq]
  have l1 : (1431655765 : Int32) = nI 1431655765 := rfl
  have l2 : (858993459 : Int32) = nI 858993459 := rfl
  have l3 : (252645135 : Int32) = nI 252645135 := rfl
  have l63 : (63 : Int32) = nI 63 := rfl
  have k1 : (1 : Int32) = nI 1 := rfl
  have k2 : (2 : Int32) = nI 2 := rfl
  have k4 : (4 : Int32) = nI 4 := rfl
  have k8 : (8 : Int32) = nI 8 := rfl
  have k16 : (16 : Int32) = nI 16 := rfl
  rw [l1, l2, l3, l63, k1, k2, k4, k8, k16]
  have hle : (x / 2 &&& 1431655765) ≤ x := Nat.le_trans Nat.and_le_left (Nat.div_le_self _ _)
  rw [ush_n (by omega) 1 (by decide), fa_and, pk_sub hle]
  generalize hx1 : x - (x / 2 ^ 1 &&& 1431655765) = x1
  have b1 : x1 ≤ x := by rw [← hx1]; omega
  rw [ush_n (by omega) 2 (by decide), fa_and, fa_and, nI_add]
  generalize hx2 : (x1 &&& 858993459) + (x1 / 2 ^ 2 &&& 858993459) = x2
  have b2 : x2 ≤ 2 * x1 := by
    rw [← hx2]
    have q1 : (x1 &&& 858993459) ≤ x1 := Nat.and_le_left
    have q2 : (x1 / 2 ^ 2 &&& 858993459) ≤ x1 := Nat.le_trans Nat.and_le_left (Nat.div_le_self _ _)
    omega
  rw [ush_n (by omega) 4 (by decide), nI_add, fa_and]
  generalize hx3 : (x2 + x2 / 2 ^ 4 &&& 252645135) = x3
  have b3 : x3 ≤ 2 * x2 := by
    rw [← hx3]
    exact Nat.le_trans Nat.and_le_left (by have := Nat.div_le_self x2 (2 ^ 4); omega)
  rw [ush_n (by omega) 8 (by decide), nI_add]
  generalize hx4 : x3 + x3 / 2 ^ 8 = x4
  have b4 : x4 ≤ 2 * x3 := by rw [← hx4]; have := Nat.div_le_self x3 (2 ^ 8); omega
  rw [ush_n (by omega) 16 (by decide), nI_add, fa_and]
  congr 2
  unfold bcN
  simp only
  rw [← hx4, ← hx3, ← hx2, ← hx1]
theorem btN_app (f : Nat → Bool) (k : Nat) : ∀ m, btN f (k + m) = btN f k + 2 ^ k * btN (fun i => f (k + i)) m
  | 0 => by simp [btN]
  | m + 1 => by
    rw [← Nat.add_assoc, btN, btN_app f k m, btN, Nat.mul_add]
    by_cases h : f (k + m) = true
    · simp only [h, if_true, Nat.pow_add]; omega
    · simp [h]
theorem fb_bits (f : Nat → Bool) (k : Nat) : fb_ct (fun i => btN f k / 2 ^ i % 2 == 1) k = fb_ct f k := by
  apply fb_ct_cong
  intro i hi
  rw [btN_bit f hi]
  cases f i <;> rfl
theorem bc_btN (M : Mem) (f : Nat → Bool) {n : Nat} (hn : n ≤ 24) : fJ6_bitCount_0f7a4 M (nI (btN f n)) = some (nI (fb_ct f n)) := by
  have e0 : btN f n = btN (fun i => decide (i < n) && f i) 24 := by
    have h1 := btN_app (fun i => decide (i < n) && f i) n (24 - n)
    rw [show n + (24 - n) = 24 by omega] at h1
    rw [h1]
    have z : btN (fun i => decide (n + i < n) && f (n + i)) (24 - n) = 0 := by
      rw [btN_zero, fb_ct_zero]
      intro k _
      simp
      intro h
      omega
    rw [z, Nat.mul_zero, Nat.add_zero]
    apply btN_congr
    intro i hi
    simp [hi]
  have e1 : fb_ct f n = fb_ct (fun i => decide (i < n) && f i) 24 := by
    have h1 := fb_ct_split (fun i => decide (i < n) && f i) n (24 - n)
    rw [show n + (24 - n) = 24 by omega] at h1
    rw [h1]
    have z : fb_ct (fun i => decide (n + i < n) && f (n + i)) (24 - n) = 0 := by
      rw [fb_ct_zero]
      intro k _
      simp
      intro h
      omega
    rw [z, Nat.add_zero]
    apply fb_ct_cong
    intro i hi
    simp [hi]
  rw [e0, e1]
  generalize (fun i => decide (i < n) && f i) = g
  rw [bc_eq M (btN_lt g 24)]
  have s1 := btN_app g 8 16
  have s2 := btN_app (fun i => g (8 + i)) 8 8
  have c1 := fb_ct_split g 8 16
  have c2 := fb_ct_split (fun i => g (8 + i)) 8 8
  rw [show 8 + 16 = 24 from rfl] at s1 c1
  rw [show 8 + 8 = 16 from rfl] at s2 c2
  rw [s1, s2, c1, c2]
  have p := bc_parts (btN g 8) (btN (fun i => g (8 + i)) 8) (btN (fun i => g (8 + (8 + i))) 8) (btN_lt _ 8) (btN_lt _ 8) (btN_lt _ 8)
  rw [fb_bits, fb_bits, fb_bits] at p
  have ea : btN g 8 + 2 ^ 8 * (btN (fun i => g (8 + i)) 8 + 2 ^ 8 * btN (fun i => g (8 + (8 + i))) 8) = btN g 8 + 256 * btN (fun i => g (8 + i)) 8 + 65536 * btN (fun i => g (8 + (8 + i))) 8 := by omega
  rw [ea, p, Nat.add_assoc]
