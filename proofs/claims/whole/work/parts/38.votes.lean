/-! what is asked of Duels -/
theorem for_any {ρ : Type} (L : Nat → Int32 → ρ) (k : ρ) (o : Nat → ρ) (p : Nat → Bool) (n : Nat)
    (hs : ∀ f i, i < n → L (f + 1) (nI i) = if p i = true then o i else L f (nI (i + 1))) (he : ∀ f, L (f + 1) (nI n) = k) (f : Nat) (hf : n < f) :
    L f (nI 0) = (match ff p n with | some i => o i | none => k) := by
  have hh := for_find (σ := Unit) (fun f i _ => L f i) (fun _ => k) (fun i _ => o i) (fun i _ => p i) n (fun _ _ => ()) (fun _ _ => True) (fun f i _ hi _ => hs f i hi) (fun _ _ _ _ _ => trivial) (fun f _ _ => he f) () trivial f hf
  rcases hh with ⟨i, h1, h2, h3, -, h5⟩ | ⟨h1, -, h3⟩
  · have : ff p n = some i := ff_some.mpr ⟨h1, h2, h3⟩
    rw [this]; exact h5
  · have : ff p n = none := ff_none.mpr h1
    rw [this]; exact h3
def anyN (p : Nat → Bool) (n : Nat) : Bool := (ff p n).isSome
theorem anyN_iff {p : Nat → Bool} {n : Nat} : anyN p n = true ↔ ∃ i, i < n ∧ p i = true := by
  unfold anyN
  cases h : ff p n with
  | none =>
    simp only [Option.isSome_none, Bool.false_eq_true, false_iff]
    rintro ⟨i, h1, h2⟩
    rw [ff_none.mp h i h1] at h2; exact absurd h2 (by decide)
  | some i =>
    simp only [Option.isSome_some, true_iff]
    have := ff_some.mp h
    exact ⟨i, this.1, this.2.1⟩
theorem anyN_ct {p : Nat → Bool} {n : Nat} : anyN p n = false ↔ fb_ct p n = 0 := by
  rw [fb_ct_zero]
  cases h : anyN p n with
  | true =>
    obtain ⟨i, h1, h2⟩ := anyN_iff.mp h
    simp only [Bool.true_eq_false, false_iff]
    intro q
    rw [q i h1] at h2; exact absurd h2 (by decide)
  | false =>
    simp only [true_iff]
    intro k hk
    cases hc : p k with
    | false => rfl
    | true => rw [anyN_iff.mpr ⟨k, hk, hc⟩] at h; cases h
theorem for_anyB {ρ : Type} (L : Nat → Int32 → ρ) (k o : ρ) (p : Nat → Bool) (n : Nat)
    (hs : ∀ f i, i < n → L (f + 1) (nI i) = if p i = true then o else L f (nI (i + 1))) (he : ∀ f, L (f + 1) (nI n) = k) (f : Nat) (hf : n < f) :
    L f (nI 0) = if anyN p n = true then o else k := by
  rw [for_any L k (fun _ => o) p n hs he f hf]
  unfold anyN
  cases ff p n <;> rfl
def DR (M M1 : Mem) (p : Nat) : Prop := sm [(21, 25, none)] M M1 ∧ DK M1 p ∧ ((M1.1 21 7 = M.1 21 7 ∧ M1.1 21 8 = M.1 21 8) ∨ (M1.1 21 7 = M.1 1 14 ∧ M1.1 21 8 = M.1 1 15))
theorem DR_rf {M : Mem} {p : Nat} (h : DK M p) : DR M M p := ⟨sm_rf, h, Or.inl ⟨rfl, rfl⟩⟩
theorem k_ref {M : Mem} {n p : Nat} (h : DI M n p) (hk : DK M p) : ∃ M1, fX0_refresh M = some M1 ∧ DC M1 p ∧ DI M1 n p ∧ DR M M1 p := by
  obtain ⟨M1, h1, h2, h3, h4, h5⟩ := k_refresh h hk
  exact ⟨M1, h1, h2, DI_on (h5.on _ (by decide) (by decide)) h, h5.up (by decide), fun _ _ => h2, Or.inr ⟨h3, h4⟩⟩
/-- small facts of the reference in the class's rows -/
theorem e_nF {M : Mem} {n p : Nat} (h : DI M n p) {a b : Nat} (ha : a < p) (hb : b < p) : fX11_votesOf M (nI a) (nI b) = some (nF (cD M) (cP M) a b) := by
  obtain ⟨⟨hn, hp, -⟩, ⟨h1, h2, h3, h4⟩, hv, hq, hD, hP, -⟩ := h
  rw [e_votesOf M h3 hn (by omega) (by omega), ← hD.for, (hP a ha).1, (hP a ha).2, (hP b hb).1, (hP b hb).2]
  rfl
theorem e_nB {M : Mem} {n p : Nat} (h : DI M n p) {a b : Nat} (ha : a < p) (hb : b < p) : fX11_beatsOf M (nI a) (nI b) = some (bI (nB (cD M) (cP M) (cB M) a b)) := by
  obtain ⟨⟨hn, hp, -⟩, ⟨h1, h2, h3, h4⟩, hv, hq, hD, hP, ⟨hB, -⟩, -⟩ := h
  rw [e_beatsOf M h3 hn (by omega) (by omega), ← eq_bt hD hB, (hP a ha).1, (hP a ha).2, (hP b hb).1, (hP b hb).2]
  rfl
theorem fd_const {σ : Type} {s1 : Nat → σ → σ} {s : σ} {n : Nat} (h : ∀ i, i < n → s1 i s = s) : fd s1 s n = s := by
  induction n with
  | zero => rfl
  | succ n ih =>
    show s1 n (fd s1 s n) = s
    rw [ih (fun i hi => h i (by omega)), h n (by omega)]
theorem for_self (D : Dt) (x y : Int32) : forD D x y x y = 0 := by
  unfold forD
  apply fd_const
  intro i _
  have : ¬ wayT D i x y < wayT D i x y := by rw [fa_lt]; omega
  rw [if_neg this]
theorem tot_bound {D : Dt} {n : Nat} (hn : n ≤ 15) (hw : ∀ v, v < n → 1 ≤ (D.2.2.2.1 v).toInt ∧ (D.2.2.2.1 v).toInt ≤ 9) : ((n : Int) ≤ (fd (fun v acc => acc + D.2.2.2.1 v) 0 n : Int32).toInt) ∧ (fd (fun v acc => acc + D.2.2.2.1 v) 0 n : Int32).toInt ≤ 9 * n := by
  induction n with
  | zero => exact ⟨Int.le_refl 0, Int.le_refl 0⟩
  | succ n ih =>
    obtain ⟨h1, h2⟩ := ih (by omega) (fun v hv => hw v (by omega))
    obtain ⟨h3, h4⟩ := hw n (by omega)
    show ((n + 1 : Nat) : Int) ≤ ((fd (fun v acc => acc + D.2.2.2.1 v) 0 n : Int32) + D.2.2.2.1 n).toInt ∧ ((fd (fun v acc => acc + D.2.2.2.1 v) 0 n : Int32) + D.2.2.2.1 n).toInt ≤ _
    rw [Int32.toInt_add, fb_bmod (by omega) (by omega)]
    omega
theorem DI.tot {M : Mem} {n p : Nat} (h : DI M n p) : (n : Int) ≤ (totD (cD M)).toInt ∧ (totD (cD M)).toInt ≤ 9 * n := by
  unfold totD
  rw [h.cn]
  exact tot_bound h.n15 (fun v hv => (h.2.2.1 v hv).2.2.1)
theorem DI.self {M : Mem} {n p : Nat} (h : DI M n p) (x y : Int32) : btD (cD M) (cB M) x y x y = false := by
  have ht := h.tot
  have hn := h.n15
  obtain ⟨-, -, -, -, -, -, ⟨-, hB, hb⟩, -⟩ := h
  unfold btD
  rw [for_self]
  unfold wonD
  have h0 : ¬ (0 : Int32) < 0 := by decide
  rcases hB with hB | hB | hB
  · rw [if_pos hB]; decide
  · rw [if_neg (by rw [hB]; decide), if_pos hB]
    obtain ⟨b1, b2⟩ := hb (by rw [hB]; decide)
    have hm : ((cB M).2.1 * totD (cD M)).toInt = (cB M).2.1.toInt * (totD (cD M)).toInt := by
      rw [Int32.toInt_mul, fb_bmod]
      · have := Int.mul_nonneg (a := (cB M).2.1.toInt) (b := (totD (cD M)).toInt) (by omega) (by omega)
        omega
      · have := Int.mul_le_mul (a := (cB M).2.1.toInt) (b := (totD (cD M)).toInt) (c := 99) (d := 135) (by omega) (by omega) (by omega) (by omega)
        omega
    have hpos := Int.mul_nonneg (a := (cB M).2.1.toInt) (b := (totD (cD M)).toInt) (by omega) (by omega)
    have hz : (0 : Int32) * (cB M).2.2 = 0 := Int32.zero_mul
    rw [hz, decide_eq_false_iff_not, fa_lt, hm]
    have : (0 : Int32).toInt = 0 := rfl
    omega
  · rw [if_neg (by rw [hB]; decide), if_neg (by rw [hB]; decide)]
    simp [h0]
theorem bq_nB {M : Mem} {n p : Nat} (h : DI M n p) (i q : Nat) : bq (cD M) (cP M) (cB M) i q = nB (cD M) (cP M) (cB M) q i := by
  unfold bq
  by_cases e : q = i
  · subst e
    have : nB (cD M) (cP M) (cB M) q q = false := h.self _ _
    rw [this]; simp
  · simp [e]
theorem s_votes {M : Mem} {n p : Nat} (h : DI M n p) (hk : DK M p) (a b : Int32) : ∃ r M1, fX10_votes a b M = some (r, M1) ∧ fX11_votes M1 a b = some r ∧ DR M M1 p := by
  have hp := h.p20
  unfold fX10_votes fX11_votes fX10_votes_22 fX11_votes_25 fX11_votes_26
  rw [k_hasPlace M a h.2.1.2.1 hp, k_hasPlace M b h.2.1.2.1 hp]
  simp only [Option.bind_some]
  cases ha : inN a p with
  | false =>
    refine ⟨-1, M, rfl, ?_, DR_rf hk⟩
    rw [e_isPlace M a h.2.1.2.2.2 hp, ha]; rfl
  | true =>
    cases hb : inN b p with
    | false =>
      refine ⟨-1, M, rfl, ?_, DR_rf hk⟩
      rw [e_isPlace M a h.2.1.2.2.2 hp, e_isPlace M b h.2.1.2.2.2 hp, ha, hb]; rfl
    | true =>
      obtain ⟨M1, h1, h2, h3, h4⟩ := k_ref h hk
      obtain ⟨i, hi, rfl⟩ := inN_of ha (by omega)
      obtain ⟨j, hj, rfl⟩ := inN_of hb (by omega)
      refine ⟨nF (cD M1) (cP M1) i j, M1, ?_, ?_, h4⟩
      · rw [if_neg (by decide), if_neg (by decide), h1]
        simp only [Option.bind_some]
        rw [k_forOf (by omega) (by omega), Option.bind_some, h2.1 i j hi hj]
      · rw [e_isPlace M1 _ h3.2.1.2.2.2 hp, e_isPlace M1 _ h3.2.1.2.2.2 hp, ha, hb]
        simp only [Option.bind_some]
        rw [if_neg (by decide), if_neg (by decide), e_nF h3 hi hj]
        rfl
theorem nI_shr {a : Nat} (ha : a < 2147483648) (k : Nat) (hk : k < 32) : (nI a) >>> (nI k &&& 31) = nI (a / 2 ^ k) := by
  have hs : ∀ k, k < 32 → ((nI k &&& 31 : Int32).toBitVec.smod 32).toNat = k := by decide
  exact pk_shrN ha _ k (hs k hk)
theorem k_isBeaten {M : Mem} {p i q : Nat} (hp : p ≤ 20) (hi : i < p) (hq : q < p) (f : Nat → Bool) (h : M.1 24 i = nI (btN f p)) : fX0_isBeaten M (nI i) (nI q) = some (bI (f q)) := by
  unfold fX0_isBeaten fX0_isBeaten_19
  have hlt := btN_lt f p
  have hpw : 2 ^ p ≤ 2 ^ 20 := Nat.pow_le_pow_right (by decide) hp
  rw [if_pos (inb_nI (show i < 20 by omega) (by decide)), ix_nI (by omega), h, nI_shr (by omega) q (by omega)]
  have h1 : (1 : Int32) = nI 1 := rfl
  have hb := btN_bit f hq
  have hm : (nI (btN f p / 2 ^ q) &&& (1 : Int32)) = nI (btN f p / 2 ^ q % 2) := by
    rw [h1, fa_and]
    congr 1
    exact Nat.and_two_pow_sub_one_eq_mod _ 1
  rw [hm, hb]
  cases f q
  · rfl
  · rfl
theorem s_beats {M : Mem} {n p : Nat} (h : DI M n p) (hk : DK M p) (a b : Int32) : ∃ r M1, fX10_beats a b M = some (r, M1) ∧ fX11_beats M1 a b = some r ∧ DR M M1 p := by
  have hp := h.p20
  unfold fX10_beats fX11_beats fX10_beats_22 fX11_beats_29 fX11_beats_30
  rw [k_hasPlace M a h.2.1.2.1 hp, k_hasPlace M b h.2.1.2.1 hp]
  simp only [Option.bind_some]
  cases ha : inN a p with
  | false =>
    refine ⟨0, M, rfl, ?_, DR_rf hk⟩
    rw [e_isPlace M a h.2.1.2.2.2 hp, ha]; rfl
  | true =>
    cases hb : inN b p with
    | false =>
      refine ⟨0, M, rfl, ?_, DR_rf hk⟩
      rw [e_isPlace M a h.2.1.2.2.2 hp, e_isPlace M b h.2.1.2.2.2 hp, ha, hb]; rfl
    | true =>
      obtain ⟨M1, h1, h2, h3, h4⟩ := k_ref h hk
      obtain ⟨i, hi, rfl⟩ := inN_of ha (by omega)
      obtain ⟨j, hj, rfl⟩ := inN_of hb (by omega)
      refine ⟨bI (nB (cD M1) (cP M1) (cB M1) i j), M1, ?_, ?_, h4⟩
      · rw [if_neg (by decide), if_neg (by decide), h1]
        simp only [Option.bind_some]
        rw [k_isBeaten hp hj hi _ (h2.2.1 j hj), Option.bind_some, bI_and, bq_nB h3]
      · rw [e_isPlace M1 _ h3.2.1.2.2.2 hp, e_isPlace M1 _ h3.2.1.2.2.2 hp, ha, hb]
        simp only [Option.bind_some]
        rw [if_neg (by decide), if_neg (by decide), e_nB h3 hi hj]
        cases nB (cD M1) (cP M1) (cB M1) i j <;> rfl
theorem e_isUnbeaten {M : Mem} {n p : Nat} (h : DI M n p) {i : Nat} (hi : i < p) : fX11_isUnbeaten M (nI i) = some (bI (decide (fb_ct (bq (cD M) (cP M) (cB M) i) p = 0))) := by
  have hp := h.p20
  unfold fX11_isUnbeaten
  have hh := for_anyB (fun f q => fX11_isUnbeaten_2 M (fX11_isUnbeaten_24 M) (fX11_isUnbeaten_32 M) f (nI i) q) (some 1) (some 0) (bq (cD M) (cP M) (cB M) i) p ?_ ?_ FU (FU_gt (by omega))
  · have : (0 : Int32) = nI 0 := rfl
    rw [this]
    refine Eq.trans hh ?_
    cases hc : anyN (bq (cD M) (cP M) (cB M) i) p with
    | false => rw [anyN_ct.mp hc]; rfl
    | true =>
      have : ¬ fb_ct (bq (cD M) (cP M) (cB M) i) p = 0 := fun q => by rw [anyN_ct.mpr q] at hc; cases hc
      simp only [this, decide_false]; rfl
  · intro f q hq
    show fX11_isUnbeaten_2 M (fX11_isUnbeaten_24 M) (fX11_isUnbeaten_32 M) (f + 1) (nI i) (nI q) = _
    rw [fX11_isUnbeaten_2, e_places, Option.bind_some, h.2.1.2.2.2, if_neg (nI_ge hq (by omega))]
    unfold fX11_isUnbeaten_26 fX11_isUnbeaten_24
    simp only [nx_eq, nI_s]
    by_cases e : q = i
    · subst e
      rw [if_pos rfl, if_neg (by simp [bq])]
    · have : ¬ nI q = nI i := fun r => e ((nI_eq (by omega) (by omega)).mp r)
      rw [if_neg this, e_nB h hq hi, Option.bind_some, bq_nB h]
      cases nB (cD M) (cP M) (cB M) q i <;> rfl
  · intro f
    show fX11_isUnbeaten_2 M (fX11_isUnbeaten_24 M) (fX11_isUnbeaten_32 M) (f + 1) (nI i) (nI p) = _
    rw [fX11_isUnbeaten_2, e_places, Option.bind_some, h.2.1.2.2.2, if_pos (nI_le (Nat.le_refl _) (by omega))]
    rfl
theorem ubI_ff (D : Dt) (P : Pq) (B : Bt) (p : Nat) : ∀ n, n ≤ 20 → ubI D P B p n = (match ff (fun i => decide (fb_ct (bq D P B i) p = 0)) n with | some i => nI i | none => -1)
  | 0, _ => rfl
  | n + 1, hn => by
    rw [ubI, ff, ubI_ff D P B p n (by omega)]
    cases hc : ff (fun i => decide (fb_ct (bq D P B i) p = 0)) n with
    | some i =>
      have := (ff_some.mp hc).1
      have hne : ¬ nI i = -1 := by
        have hs : ∀ i, i < 20 → ¬ nI i = -1 := by decide
        exact hs i (by omega)
      simp only [hne, false_and, if_false]
    | none =>
      simp only [true_and]
      by_cases e : fb_ct (bq D P B n) p = 0
      · simp [e]
      · simp [e]
theorem s_peace {M : Mem} {n p : Nat} (h : DI M n p) (hk : DK M p) : ∃ r M1, fX10_peace M = some (r, M1) ∧ fX11_peace M1 = some r ∧ DR M M1 p := by
  have hp := h.p20
  obtain ⟨M1, h1, h2, h3, h4⟩ := k_ref h hk
  unfold fX10_peace fX11_peace
  rw [h1]
  refine ⟨_, M1, rfl, ?_, h4⟩
  rw [h2.2.2.2, ubI_ff _ _ _ _ p hp]
  have hh := for_any (fun f q => fX11_peace_2 M1 (fX11_peace_18 M1) (fX11_peace_26 M1) f q) (some (-1)) (fun i => some (nI i)) (fun i => decide (fb_ct (bq (cD M1) (cP M1) (cB M1) i) p = 0)) p ?_ ?_ FU (FU_gt (by omega))
  · have : (0 : Int32) = nI 0 := rfl
    rw [this]
    refine Eq.trans hh ?_
    cases ff (fun i => decide (fb_ct (bq (cD M1) (cP M1) (cB M1) i) p = 0)) p <;> rfl
  · intro f q hq
    show fX11_peace_2 M1 (fX11_peace_18 M1) (fX11_peace_26 M1) (f + 1) (nI q) = _
    rw [fX11_peace_2, e_places, Option.bind_some, h3.2.1.2.2.2, if_neg (nI_ge hq (by omega)), e_isUnbeaten h3 hq, Option.bind_some]
    unfold fX11_peace_18
    simp only [nx_eq, nI_s]
    by_cases e : fb_ct (bq (cD M1) (cP M1) (cB M1) q) p = 0
    · simp only [e, decide_true]; rfl
    · simp only [e, decide_false]; rfl
  · intro f
    show fX11_peace_2 M1 (fX11_peace_18 M1) (fX11_peace_26 M1) (f + 1) (nI p) = _
    rw [fX11_peace_2, e_places, Option.bind_some, h3.2.1.2.2.2, if_pos (nI_le (Nat.le_refl _) (by omega))]
    rfl
