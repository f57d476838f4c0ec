/-! what hangs together on the sheet -/
def adj (p q : Nat) : Prop := (q = p + 1 ∧ p % 100 ≠ 99) ∨ (p = q + 1 ∧ q % 100 ≠ 99) ∨ q = p + 100 ∨ p = q + 100
def rc (R : Nat → Bool) (a b : Nat) : Prop := ∀ S : Nat → Prop, S a → (∀ p q, S p → q < 10000 → R q = true → adj p q → S q) → S b
theorem rc_rf (R : Nat → Bool) (a : Nat) : rc R a a := fun _ h _ => h
theorem rc_st {R : Nat → Bool} {a p q : Nat} (h : rc R a p) (hq : q < 10000) (hR : R q = true) (ha : adj p q) : rc R a q := fun S h1 h2 => h2 p q (h S h1 h2) hq hR ha
theorem rc_cg {R R1 : Nat → Bool} {a b : Nat} (e : ∀ q, q < 10000 → R q = R1 q) (h : rc R a b) : rc R1 a b := fun S h1 h2 => h S h1 (fun p q hp hq hR ha => h2 p q hp hq ((e q hq).symm.trans hR) ha)
noncomputable def rcB (R : Nat → Bool) (a q : Nat) : Bool := @decide (rc R a q) (Classical.propDecidable _)
theorem rcB_t {R : Nat → Bool} {a q : Nat} : rcB R a q = true ↔ rc R a q := by
  unfold rcB
  exact @decide_eq_true_iff _ (Classical.propDecidable _)
/-- what is left when the points before p have been looked at -/
noncomputable def Rs (W : Nat → Bool) : Nat → Nat → Bool
  | 0 => W
  | p + 1 => if Rs W p p = true then (fun q => Rs W p q && !(rcB (Rs W p) p q)) else Rs W p
noncomputable def stB (W : Nat → Bool) (p : Nat) : Bool := Rs W p p
noncomputable def npN (W : Nat → Bool) (p : Nat) : Nat := fb_ct (stB W) p
theorem Rs_s1 {W : Nat → Bool} {p : Nat} (h : Rs W p p = true) (q : Nat) : Rs W (p + 1) q = (Rs W p q && !(rcB (Rs W p) p q)) := by
  show (if Rs W p p = true then (fun q => Rs W p q && !(rcB (Rs W p) p q)) else Rs W p) q = _
  rw [if_pos h]
theorem Rs_s0 {W : Nat → Bool} {p : Nat} (h : Rs W p p = false) : Rs W (p + 1) = Rs W p := by
  show (if Rs W p p = true then (fun q => Rs W p q && !(rcB (Rs W p) p q)) else Rs W p) = _
  rw [if_neg (by rw [h]; decide)]
theorem Rs_anti {W : Nat → Bool} {p q : Nat} (h : Rs W (p + 1) q = true) : Rs W p q = true := by
  cases c : Rs W p p with
  | true =>
    rw [Rs_s1 c] at h
    simp only [Bool.and_eq_true] at h
    exact h.1
  | false => rw [Rs_s0 c] at h; exact h
theorem Rs_W {W : Nat → Bool} {q : Nat} : ∀ {p : Nat}, Rs W p q = true → W q = true
  | 0, h => h
  | p + 1, h => Rs_W (p := p) (Rs_anti h)
theorem Rs_self {W : Nat → Bool} (p : Nat) : Rs W (p + 1) p = false := by
  cases c : Rs W p p with
  | true =>
    rw [Rs_s1 c, (rcB_t).mpr (rc_rf _ _)]
    simp
  | false => rw [Rs_s0 c]; exact c
theorem Rs_ge {W : Nat → Bool} {q : Nat} : ∀ {p : Nat}, Rs W p q = true → p ≤ q
  | 0, _ => Nat.zero_le _
  | p + 1, h => by
    have h1 := Rs_ge (p := p) (Rs_anti h)
    by_cases e : p = q
    · rw [← e, Rs_self] at h; cases h
    · omega
theorem Rs_keep {W : Nat → Bool} {p : Nat} : ∀ {d : Nat}, (∀ i, p ≤ i → i < p + d → stB W i = false) → Rs W (p + d) = Rs W p
  | 0, _ => rfl
  | d + 1, h => by
    have ih := Rs_keep (W := W) (p := p) (d := d) (fun i a b => h i a (by omega))
    have e : p + (d + 1) = (p + d) + 1 := by omega
    have c : Rs W (p + d) (p + d) = false := h (p + d) (by omega) (by omega)
    rw [e, Rs_s0 c, ih]
/-- no more pieces than every second point -/
theorem np_half (W : Nat → Bool) : ∀ t, 2 * t ≤ 10000 → npN W (2 * t) ≤ t
  | 0, _ => Nat.le_refl _
  | t + 1, h => by
    have ih := np_half W t (by omega)
    have e : 2 * (t + 1) = (2 * t + 1) + 1 := by omega
    unfold npN at ih ⊢
    rw [e, fb_ct_succ, fb_ct_succ]
    cases c : stB W (2 * t) with
    | false =>
      have : (if stB W (2 * t + 1) = true then 1 else 0) ≤ 1 := by split <;> omega
      simp
      omega
    | true =>
      have c2 : stB W (2 * t + 1) = false := by
        unfold stB
        cases q : Rs W (2 * t + 1) (2 * t + 1) with
        | false => rfl
        | true =>
          have q2 := q
          rw [Rs_s1 c] at q2
          simp only [Bool.and_eq_true, Bool.not_eq_true'] at q2
          have : rc (Rs W (2 * t)) (2 * t) (2 * t + 1) := rc_st (rc_rf _ _) (by omega) q2.1 (Or.inl ⟨rfl, by omega⟩)
          rw [rcB_t.mpr this] at q2
          cases q2.2
      rw [c2]
      simp
      omega
theorem np_lt {W : Nat → Bool} {p : Nat} (hp : p < 10000) (hs : stB W p = true) : npN W p < 5000 := by
  have h := np_half W (p / 2) (by omega)
  by_cases e : p % 2 = 0
  · rw [show p = 2 * (p / 2) by omega]
    omega
  · have h2 := np_half W (p / 2 + 1) (by omega)
    have e2 : 2 * (p / 2 + 1) = p + 1 := by omega
    rw [e2] at h2
    unfold npN at h2 ⊢
    rw [fb_ct_succ, hs] at h2
    simp at h2
    omega
theorem np_le (W : Nat → Bool) : npN W 10000 ≤ 5000 := by
  have := np_half W 5000 (by omega)
  exact this
/-- how many are taken before p -/
noncomputable def szN (W : Nat → Bool) (p : Nat) : Nat := fb_ct W 10000 - fb_ct (Rs W p) 10000
theorem sz_le {W : Nat → Bool} (p : Nat) : fb_ct (Rs W p) 10000 ≤ fb_ct W 10000 := fb_ct_sub (fun q _ h => Rs_W h)
theorem sz_add {W : Nat → Bool} (p : Nat) : szN W p + fb_ct (Rs W p) 10000 = fb_ct W 10000 := by
  have := sz_le (W := W) p
  unfold szN
  omega
/-- the piece that begins at p -/
noncomputable def cpB (W : Nat → Bool) (p q : Nat) : Bool := Rs W p q && rcB (Rs W p) p q
theorem cp_ct {W : Nat → Bool} {p : Nat} (h : stB W p = true) : fb_ct (cpB W p) 10000 + fb_ct (Rs W (p + 1)) 10000 = fb_ct (Rs W p) 10000 := by
  have e1 : fb_ct (Rs W (p + 1)) 10000 = fb_ct (fun q => Rs W p q && !(rcB (Rs W p) p q)) 10000 := fb_ct_cong (fun q _ => Rs_s1 h q)
  have e2 : fb_ct (Rs W p) 10000 = fb_ct (fun q => cpB W p q || (Rs W p q && !(rcB (Rs W p) p q))) 10000 := fb_ct_cong (fun q _ => by
    unfold cpB
    cases Rs W p q <;> cases rcB (Rs W p) p q <;> rfl)
  rw [e1, e2]
  exact (fb_ct_or (fun q _ => by
    unfold cpB
    cases Rs W p q <;> cases rcB (Rs W p) p q <;> simp)).symm
theorem cp_self {W : Nat → Bool} {p : Nat} (h : stB W p = true) : cpB W p p = true := by
  unfold cpB
  rw [show Rs W p p = true from h, rcB_t.mpr (rc_rf _ _)]
  rfl
theorem np_mono {W : Nat → Bool} {a b : Nat} (h : a ≤ b) : npN W a ≤ npN W b := fb_ct_mono _ h
theorem np_s {W : Nat → Bool} {p : Nat} (h : stB W p = true) : npN W (p + 1) = npN W p + 1 := by
  unfold npN
  rw [fb_ct_succ, h]
  rfl
theorem np_one {W : Nat → Bool} {a b : Nat} (ha : stB W a = true) (hb : stB W b = true) (e : npN W a = npN W b) : a = b := fb_ct_kth_one ha hb e
/-- the next piece begins where this one has left off -/
theorem sz_next {W : Nat → Bool} {p : Nat} (hp : p < 10000) (h : stB W p = true) : (npN W (p + 1) = npN W 10000 ∧ szN W 10000 = szN W (p + 1)) ∨ ∃ q, q < 10000 ∧ stB W q = true ∧ npN W q = npN W (p + 1) ∧ szN W q = szN W (p + 1) := by
  have m := np_mono (W := W) (show p + 1 ≤ 10000 by omega)
  by_cases c : npN W (p + 1) = npN W 10000
  · left
    refine ⟨c, ?_⟩
    have e : Rs W 10000 = Rs W (p + 1) := by
      have := Rs_keep (W := W) (p := p + 1) (d := 10000 - (p + 1)) (fun i a b => by
        cases q : stB W i with
        | false => rfl
        | true =>
          have h1 := np_s q
          have h2 := np_mono (W := W) (show i + 1 ≤ 10000 by omega)
          have h3 := np_mono (W := W) (show p + 1 ≤ i by omega)
          omega)
      rw [show p + 1 + (10000 - (p + 1)) = 10000 by omega] at this
      exact this
    unfold szN
    rw [e]
  · right
    obtain ⟨q, q1, q2, q3⟩ := fb_ct_kth (p := stB W) (k := npN W (p + 1)) (n := 10000) (show npN W (p + 1) < fb_ct (stB W) 10000 from by unfold npN at m c ⊢; omega)
    refine ⟨q, q1, q2, q3, ?_⟩
    have le : p + 1 ≤ q := by
      by_cases w : p + 1 ≤ q
      · exact w
      · have h1 := np_s q2
        have h2 := np_mono (W := W) (show q + 1 ≤ p + 1 by omega)
        have h3 : npN W q = npN W (p + 1) := q3
        omega
    have e : Rs W q = Rs W (p + 1) := by
      have := Rs_keep (W := W) (p := p + 1) (d := q - (p + 1)) (fun i a b => by
        cases z : stB W i with
        | false => rfl
        | true =>
          have h1 := np_s z
          have h2 := np_mono (W := W) (show i + 1 ≤ q by omega)
          have h3 := np_mono (W := W) (show p + 1 ≤ i by omega)
          have h4 : npN W q = npN W (p + 1) := q3
          omega)
      rw [show p + 1 + (q - (p + 1)) = q by omega] at this
      exact this
    unfold szN
    rw [e]
