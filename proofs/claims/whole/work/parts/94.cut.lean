/-! the class cuts the win set into pieces -/
theorem Rs_antiD {W : Nat → Bool} {p q : Nat} : ∀ {d : Nat}, Rs W (p + d) q = true → Rs W p q = true
  | 0, h => h
  | d + 1, h => Rs_antiD (d := d) (Rs_anti (by rw [show p + d + 1 = p + (d + 1) by omega]; exact h))
theorem sz_mono {W : Nat → Bool} {a b : Nat} (h : a ≤ b) : szN W a ≤ szN W b := by
  have : fb_ct (Rs W b) 10000 ≤ fb_ct (Rs W a) 10000 := fb_ct_sub (fun q _ w => Rs_antiD (d := b - a) (by rw [show a + (b - a) = b by omega]; exact w))
  unfold szN
  omega
theorem sz_lt {W : Nat → Bool} {p : Nat} (hp : p < 10000) (h : stB W p = true) : szN W p < szN W (p + 1) := by
  have h1 := cp_ct h
  have h2 : 0 < fb_ct (cpB W p) 10000 := fb_ct_pos.mpr ⟨p, hp, cp_self h⟩
  have h3 := sz_add (W := W) p
  have h4 := sz_add (W := W) (p + 1)
  omega
theorem Rs_end {W : Nat → Bool} : fb_ct (Rs W 10000) 10000 = 0 := by
  refine fb_ct_zero.mpr (fun q hq => ?_)
  cases c : Rs W 10000 q with
  | false => rfl
  | true => have := Rs_ge c; omega
theorem sz_end {W : Nat → Bool} : szN W 10000 = fb_ct W 10000 := by
  unfold szN
  rw [Rs_end]
  omega
def CutS (W : Nat → Bool) (X : Mem) : Prop := X.1 141 8 = nI (npN W 10000) ∧ (∀ p, p < 10000 → stB W p = true → X.1 146 (npN W p) = nI (szN W p) ∧ X.1 145 (szN W p) = nI p) ∧ X.1 146 (npN W 10000) = nI (fb_ct W 10000) ∧ (∀ i, i < fb_ct W 10000 → ∃ q, q < 10000 ∧ X.1 145 i = nI q ∧ W q = true) ∧ (∀ q, q < 10000 → W q = true → ∃ i, i < fb_ct W 10000 ∧ X.1 145 i = nI q) ∧ (∀ q, q < 10000 → X.1 144 q = 0 ∨ X.1 144 q = bI (W q))
theorem k_cut {W : Nat → Bool} {X : Mem} (h8 : X.1 141 8 = -1) (hX : ∀ q, q < 10000 → X.1 144 q = bI (W q)) : ∃ X1, fX1_cutPieces X = some X1 ∧ CutS W X1 ∧ sm [(141, 141, some 8), (144, 146, none)] X X1 := by
  have e10 : (10000 : Int32) = nI 10000 := rfl
  have e5 : (5000 : Int32) = nI 5000 := rfl
  have cW := fb_ct_le W 10000
  unfold fX1_cutPieces
  rw [if_pos h8, nx_eq]
  generalize hS : sI X 141 8 0 = S
  have s0 : sm [(141, 141, some 8), (144, 146, none)] X S := by rw [← hS]; exact sm_rf.I (by rfl)
  have a8 : S.1 141 8 = nI 0 := by rw [← hS]; exact sI_at ..
  have a144 : ∀ q, q < 10000 → S.1 144 q = bI (W q) := fun q hq => by rw [← hS, sI_nk _ _ (by decide)]; exact hX q hq
  have z0 : szN W 0 = 0 := Nat.sub_self _
  have hh := for_ex (σ := Int32 × Mem) (fun f i s => fX1_cutPieces_18 fX1_cutPieces_77 f s.1 i s.2) (fun s => fX1_cutPieces_77 s.1 s.2) 10000
    (fun p s => sm [(141, 141, some 8), (144, 146, none)] X s.2 ∧ s.1 = nI (szN W p) ∧ s.2.1 141 8 = nI (npN W p) ∧ (∀ q, q < 10000 → s.2.1 144 q = bI (Rs W p q)) ∧ (∀ r, r < p → stB W r = true → s.2.1 146 (npN W r) = nI (szN W r) ∧ s.2.1 145 (szN W r) = nI r) ∧ (∀ i, i < szN W p → ∃ q, q < 10000 ∧ s.2.1 145 i = nI q ∧ W q = true ∧ Rs W p q = false) ∧ (∀ q, q < 10000 → W q = true → Rs W p q = false → ∃ i, i < szN W p ∧ s.2.1 145 i = nI q)) ?_ ?_ (0, S)
    ⟨s0, (by rw [z0]; rfl), a8, a144, fun r h => absurd h (by omega), fun i h => absurd h (by omega), (fun q _ h1 h2 => by rw [show Rs W 0 q = W q from rfl, h1] at h2; cases h2)⟩ FU (FU_gt (by omega))
  · obtain ⟨⟨x, Y⟩, k1, k2, k3, k4, k5, k6, k7, k8⟩ := hh
    have k1 : fX1_cutPieces_18 fX1_cutPieces_77 FU 0 0 S = fX1_cutPieces_77 x Y := k1
    have k2 : sm [(141, 141, some 8), (144, 146, none)] X Y := k2
    have k3 : x = nI (szN W 10000) := k3
    have k4 : Y.1 141 8 = nI (npN W 10000) := k4
    have k5 : ∀ q, q < 10000 → Y.1 144 q = bI (Rs W 10000 q) := k5
    have k6 : ∀ r, r < 10000 → stB W r = true → Y.1 146 (npN W r) = nI (szN W r) ∧ Y.1 145 (szN W r) = nI r := k6
    rw [k1]
    unfold fX1_cutPieces_77
    have nl := np_le W
    rw [k4, if_pos (inb_nI (show npN W 10000 < 5001 by omega) (by decide)), nx_eq, ix_nI (by omega), k3, sz_end]
    have s1 : sm [(146, 146, none)] Y (sI Y 146 (npN W 10000) (nI (fb_ct W 10000))) := sm_rf.I (by rfl)
    have o := s1.on [(141, 145, none)] (by decide) (by decide)
    refine ⟨_, rfl, ⟨?_, fun p hp hs => ⟨?_, ?_⟩, sI_at .., fun i hi => ?_, fun q hq hw => ?_, fun q hq => Or.inl ?_⟩, k2.tr (s1.up (by decide))⟩
    · rw [o.i 141 8 rfl]; exact k4
    · have := np_s hs
      have := np_mono (W := W) (show p + 1 ≤ 10000 by omega)
      rw [sI_nj _ _ (by omega)]
      exact (k6 p hp hs).1
    · rw [o.i 145 _ rfl]; exact (k6 p hp hs).2
    · obtain ⟨q, q1, q2, q3, -⟩ := k7 i (by rw [sz_end]; exact hi)
      exact ⟨q, q1, by rw [o.i 145 _ rfl]; exact q2, q3⟩
    · obtain ⟨i, i1, i2⟩ := k8 q hq hw (by
        cases c : Rs W 10000 q with
        | false => rfl
        | true => have := Rs_ge c; omega)
      rw [sz_end] at i1
      exact ⟨i, i1, by rw [o.i 145 _ rfl]; exact i2⟩
    · rw [o.i 144 _ rfl, k5 q hq]
      cases c : Rs W 10000 q with
      | false => rfl
      | true => have := Rs_ge c; omega
  · rintro f p ⟨x, Y⟩ hp ⟨g1, g2, g3, g4, g5, g6, g7⟩
    have g1 : sm [(141, 141, some 8), (144, 146, none)] X Y := g1
    have g2 : x = nI (szN W p) := g2
    have g3 : Y.1 141 8 = nI (npN W p) := g3
    have g4 : ∀ q, q < 10000 → Y.1 144 q = bI (Rs W p q) := g4
    have g5 : ∀ r, r < p → stB W r = true → Y.1 146 (npN W r) = nI (szN W r) ∧ Y.1 145 (szN W r) = nI r := g5
    have g6 : ∀ i, i < szN W p → ∃ q, q < 10000 ∧ Y.1 145 i = nI q ∧ W q = true ∧ Rs W p q = false := g6
    have g7 : ∀ q, q < 10000 → W q = true → Rs W p q = false → ∃ i, i < szN W p ∧ Y.1 145 i = nI q := g7
    have ip := inb_nI hp (by decide)
    show ∃ s1 : Int32 × Mem, fX1_cutPieces_18 fX1_cutPieces_77 (f + 1) x (nI p) Y = fX1_cutPieces_18 fX1_cutPieces_77 f s1.1 (nI (p + 1)) s1.2 ∧ _
    rw [fX1_cutPieces_18, e10, if_neg (nI_ge hp (by omega)), if_pos ip, ix_nI (by omega), g4 p hp]
    cases c : Rs W p p with
    | false =>
      have es : stB W p = false := c
      have eR := Rs_s0 c
      have eN : npN W (p + 1) = npN W p := by unfold npN; rw [fb_ct_succ, es]; rfl
      have eZ : szN W (p + 1) = szN W p := by unfold szN; rw [eR]
      rw [if_pos (show bI false = 0 from rfl)]
      unfold fX1_cutPieces_71
      rw [nx_eq, nI_s]
      refine ⟨(x, Y), rfl, g1, by rw [eZ]; exact g2, by rw [eN]; exact g3, by rw [eR]; exact g4, fun r hr hs => ?_, by rw [eZ, eR]; exact g6, by rw [eZ, eR]; exact g7⟩
      by_cases e : r = p
      · rw [e, es] at hs; cases hs
      · exact g5 r (by omega) hs
    | true =>
      have es : stB W p = true := c
      have nl := np_lt hp es
      have zl := sz_le (W := W) p
      have za := sz_add (W := W) p
      rw [if_neg (show ¬ bI true = 0 by decide), g3, e5, if_neg (nI_ge nl (by omega)), if_pos (inb_nI (show npN W p < 5001 by omega) (by decide)), nx_eq, ix_nI (by omega), g2]
      generalize hV : sI Y 146 (npN W p) (nI (szN W p)) = V
      have sV : sm [(146, 146, none)] Y V := by rw [← hV]; exact sm_rf.I (by rfl)
      have oV := sV.on [(141, 145, none)] (by decide) (by decide)
      obtain ⟨Z, b, z1, z2, z3, z4, z5, z6, z7, z8, z9⟩ := k_takePiece (W := W) (R := Rs W p) (a := p) (s := szN W p) (K := fb_ct W 10000) (X := V) cW (fun q _ w => Rs_W w) hp c (fun q hq => by rw [oV.i 144 q rfl]; exact g4 q hq) (fun i hi => by rw [oV.i 145 i rfl]; exact g6 i hi) za
      rw [z1, Option.bind_some, nx_eq, nx_eq]
      have oZ := z9.on [(141, 141, none), (146, 146, none)] (by decide) (by decide)
      have eR : ∀ q, Rs W (p + 1) q = (Rs W p q && !(rcB (Rs W p) p q)) := Rs_s1 c
      have eC : fb_ct (Rs W (p + 1)) 10000 = fb_ct (fun q => Rs W p q && !(rcB (Rs W p) p q)) 10000 := fb_ct_cong (fun q _ => eR q)
      have eb : b = szN W (p + 1) := by
        have := sz_add (W := W) (p + 1)
        omega
      have v8 : Z.1 141 8 = nI (npN W p) := by rw [oZ.i 141 8 rfl, oV.i 141 8 rfl]; exact g3
      unfold fX1_cutPieces_71
      rw [nx_eq, nI_s]
      have sU : sm [(141, 141, none)] Z (sI Z 141 8 (Z.1 141 8 + 1)) := sm_rf.I (by rfl)
      have oU := sU.on [(144, 146, none)] (by decide) (by decide)
      refine ⟨(nI b, sI Z 141 8 (Z.1 141 8 + 1)), rfl, ((g1.tr (sV.up (by decide))).tr (z9.up (by decide))).I (by rfl), by rw [eb], ?_, fun q hq => ?_, fun r hr hs => ?_, fun i hi => ?_, fun q hq hw hR => ?_⟩
      · show (sI Z 141 8 (Z.1 141 8 + 1)).1 141 8 = _
        rw [sI_at, v8, nI_s, np_s es]
      · show (sI Z 141 8 (Z.1 141 8 + 1)).1 144 q = _
        rw [oU.i 144 q rfl, z2 q hq, eR q]
      · show (sI Z 141 8 (Z.1 141 8 + 1)).1 146 _ = _ ∧ (sI Z 141 8 (Z.1 141 8 + 1)).1 145 _ = _
        rw [oU.i 146 _ rfl, oU.i 145 _ rfl, oZ.i 146 _ rfl]
        by_cases e : r = p
        · rw [e]
          refine ⟨?_, z5⟩
          rw [← hV]; exact sI_at ..
        · have h1 := np_s hs
          have h2 := np_mono (W := W) (show r + 1 ≤ p by omega)
          have h3 := sz_lt (W := W) (show r < 10000 by omega) hs
          have h4 := sz_mono (W := W) (show r + 1 ≤ p by omega)
          refine ⟨?_, ?_⟩
          · rw [← hV, sI_nj _ _ (by omega)]
            exact (g5 r (by omega) hs).1
          · rw [z6 _ (by omega), oV.i 145 _ rfl]
            exact (g5 r (by omega) hs).2
      · obtain ⟨q, q1, q2, q3, q4⟩ := z7 i (by rw [eb]; exact hi)
        refine ⟨q, q1, ?_, q3, by rw [eR]; exact q4⟩
        show (sI Z 141 8 (Z.1 141 8 + 1)).1 145 i = _
        rw [oU.i 145 i rfl]; exact q2
      · rw [eR] at hR
        cases cR : Rs W p q with
        | false =>
          obtain ⟨i, i1, i2⟩ := g7 q hq hw cR
          refine ⟨i, by rw [← eb]; omega, ?_⟩
          show (sI Z 141 8 (Z.1 141 8 + 1)).1 145 i = _
          rw [oU.i 145 i rfl, z6 i i1, oV.i 145 i rfl]; exact i2
        | true =>
          rw [cR] at hR
          simp at hR
          obtain ⟨i, i1, i2⟩ := z8 q hq cR hR
          refine ⟨i, by rw [← eb]; exact i1, ?_⟩
          show (sI Z 141 8 (Z.1 141 8 + 1)).1 145 i = _
          rw [oU.i 145 i rfl]; exact i2
  · rintro f ⟨x, Y⟩ -
    show fX1_cutPieces_18 _ (f + 1) x (nI 10000) Y = _
    rw [fX1_cutPieces_18, e10, if_pos (nI_le (Nat.le_refl _) (by omega))]
theorem k_refill {W : Nat → Bool} {X : Mem} (h6 : X.1 141 6 = nI (fb_ct W 10000)) (hc : CutS W X) : ∃ X1, fX1_refillWinning X = some X1 ∧ (∀ q, q < 10000 → X1.1 144 q = bI (W q)) ∧ sm [(144, 144, none)] X X1 := by
  obtain ⟨-, -, -, c4, c5, c6⟩ := hc
  have cW := fb_ct_le W 10000
  have e10 : (10000 : Int32) = nI 10000 := rfl
  unfold fX1_refillWinning
  have hh := for_ex (σ := Mem) (fun f i s => fX1_refillWinning_2 fX1_refillWinning_35 f i s) (fun s => some s) (fb_ct W 10000)
    (fun i S => sm [(144, 144, none)] X S ∧ (∀ q, q < 10000 → W q = false → S.1 144 q = 0) ∧ (∀ q, q < 10000 → W q = true → S.1 144 q = 1 ∨ S.1 144 q = X.1 144 q) ∧ (∀ j q, j < i → q < 10000 → X.1 145 j = nI q → S.1 144 q = 1)) ?_ ?_ X ⟨sm_rf, fun q hq w => ?_, fun q _ _ => Or.inr rfl, fun j q h => absurd h (by omega)⟩ FU (FU_gt (by omega))
  · obtain ⟨X1, k1, k2, k3, k4, k5⟩ := hh
    refine ⟨X1, k1, fun q hq => ?_, k2⟩
    cases w : W q with
    | false => rw [k3 q hq w]; rfl
    | true =>
      obtain ⟨i, i1, i2⟩ := c5 q hq w
      rw [k5 i q i1 hq i2]; rfl
  · rintro f i S hi ⟨g1, g2, g3, g4⟩
    have o := g1.on [(141, 141, none), (145, 145, none)] (by decide) (by decide)
    obtain ⟨pt, p1, p2, p3⟩ := c4 i hi
    have e1 : ((1 : Int32) &&& 1) = 1 := by decide
    refine ⟨sI S 144 pt 1, ?_, g1.I (by rfl), fun q hq w => ?_, fun q hq w => ?_, fun j q hj hq hx => ?_⟩
    · show fX1_refillWinning_2 _ (f + 1) (nI i) S = _
      rw [fX1_refillWinning_2, o.i 141 6 rfl, h6, if_neg (nI_ge hi (by omega)), e10, if_neg (nI_ge (show i < 10000 by omega) (by omega)), if_pos (inb_nI (show i < 10000 by omega) (by decide)), ix_nI (show i < 2147483648 by omega), o.i 145 i rfl, p2, if_pos (inb_nI p1 (by decide)), ix_nI (by omega), e1, nx_eq, nx_eq, nI_s]
    · rw [sI_nj _ _ (show q ≠ pt from fun e => by rw [e, p3] at w; cases w)]
      exact g2 q hq w
    · by_cases e : q = pt
      · left; rw [e]; exact sI_at ..
      · rw [sI_nj _ _ e]; exact g3 q hq w
    · by_cases e : q = pt
      · rw [e]; exact sI_at ..
      · rw [sI_nj _ _ e]
        by_cases e2 : j = i
        · rw [e2, p2] at hx
          exact absurd ((nI_eq (by omega) (by omega)).mp hx).symm e
        · exact g4 j q (by omega) hq hx
  · rintro f S ⟨g1, -⟩
    have o := g1.on [(141, 141, none)] (by decide) (by decide)
    show fX1_refillWinning_2 _ (f + 1) (nI (fb_ct W 10000)) S = _
    rw [fX1_refillWinning_2, o.i 141 6 rfl, h6, if_pos (nI_le (Nat.le_refl _) (by omega))]
    rfl
  · rcases c6 q hq with e | e
    · exact e
    · rw [e, w]; rfl
