/-! the reference finds the win set and its pieces -/
theorem e_bt {M : Mem} {n p : Nat} (h : DI M n p) (x y ox oy : Int32) : fX11_beatsAt M x y ox oy = some (bI (btD (cD M) (cB M) x y ox oy)) := by
  obtain ⟨⟨hn, -⟩, ⟨-, -, h3, -⟩, -, -, hD, -, ⟨hB, -⟩, -⟩ := h
  rw [e_beatsAt M h3 hn, ← eq_bt hD hB]
theorem e_ft {M : Mem} {n p : Nat} (h : DI M n p) (x y ox oy : Int32) : fX11_forOf M x y ox oy = some (forD (cD M) x y ox oy) := by
  obtain ⟨⟨hn, -⟩, ⟨-, -, h3, -⟩, -, -, hD, -⟩ := h
  rw [e_forOf M h3 hn, ← hD.for]
def PC (W : Nat → Bool) (X : Mem) : Prop := ∀ q, q < 10000 → (W q = false → X.1 85 q = -1) ∧ (W q = true → ∃ r, r < 10000 ∧ stB W r = true ∧ cpB W r q = true ∧ X.1 85 q = nI (npN W r))
def rgFi : Rg := [(47, 47, some 37), (47, 47, some 38), (85, 86, none)]
theorem e_findsP {M : Mem} {n p a : Nat} (h : DI M n p) (ha : a < 10000) : ∃ X, fX11_finds (nI (a / 100)) (nI (a % 100)) M = some X ∧ X.1 47 38 = nI (fb_ct (winB (cD M) (cB M) a) 10000) ∧ X.1 47 37 = nI (npN (winB (cD M) (cB M) a) 10000) ∧ PC (winB (cD M) (cB M) a) X ∧ sm rgFi M X := by
  have e10 : (10000 : Int32) = nI 10000 := rfl
  generalize hW : winB (cD M) (cB M) a = W
  have cW := fb_ct_le W 10000
  unfold fX11_finds
  rw [nx_eq, nx_eq]
  generalize hA : sI (sI M 47 38 0) 47 37 0 = A
  have sA : sm rgFi M A := by rw [← hA]; exact (sm_rf.I (by rfl)).I (by rfl)
  have A38 : A.1 47 38 = nI 0 := by rw [← hA]; simp [sI]; rfl
  have A37 : A.1 47 37 = nI 0 := by rw [← hA]; exact sI_at ..
  -- who wins
  have hh := for_ex (σ := Mem) (fun f i s => fX11_finds_12 fX11_finds_77 f (nI (a / 100)) (nI (a % 100)) i s) (fun s => fX11_finds_77 s) 10000
    (fun i S => sm rgFi M S ∧ S.1 47 37 = nI 0 ∧ S.1 47 38 = nI (fb_ct W i) ∧ ∀ q, q < i → S.1 85 q = if W q = true then -2 else -1) ?_ ?_ A ⟨sA, A37, A38, fun q h => absurd h (by omega)⟩ FU (FU_gt (by omega))
  · obtain ⟨B, b1, b2, b3, b4, b5⟩ := hh
    rw [show fX11_finds_12 fX11_finds_77 FU (nI (a / 100)) (nI (a % 100)) 0 A = fX11_finds_77 B from b1]
    unfold fX11_finds_77
    have hh := for_ex (σ := Mem) (fun f i s => fX11_finds_79 fX11_finds_125 f i s) (fun s => some s) 10000
      (fun t S => sm rgFi M S ∧ S.1 47 37 = nI (npN W t) ∧ S.1 47 38 = nI (fb_ct W 10000) ∧ ∀ q, q < 10000 → (W q = false → S.1 85 q = -1) ∧ (Rs W t q = true → S.1 85 q = -2) ∧ (W q = true → Rs W t q = false → ∃ r, r < t ∧ stB W r = true ∧ cpB W r q = true ∧ S.1 85 q = nI (npN W r))) ?_ ?_ B ⟨b2, b3, b4, fun q hq => ⟨fun w => ?_, fun w => ?_, fun w1 w2 => ?_⟩⟩ FU (FU_gt (by omega))
    · obtain ⟨X, x1, x2, x3, x4, x5⟩ := hh
      refine ⟨X, x1, x4, x3, fun q hq => ⟨(x5 q hq).1, fun w => ?_⟩, x2⟩
      exact (x5 q hq).2.2 w (by
        cases c : Rs W 10000 q with
        | false => rfl
        | true => have := Rs_ge c; omega)
    · rintro f t S ht ⟨g1, g2, g3, g4⟩
      have it := inb_nI ht (by decide)
      show ∃ s1, fX11_finds_79 fX11_finds_125 (f + 1) (nI t) S = _ ∧ _
      rw [fX11_finds_79, e10, if_neg (nI_ge ht (by omega)), if_pos it, ix_nI (by omega)]
      have iff2 : ∀ q, q < 10000 → (Rs W t q = true ↔ S.1 85 q = -2) := by
        intro q hq
        obtain ⟨w1, w2, w3⟩ := g4 q hq
        refine ⟨w2, fun w => ?_⟩
        cases c : Rs W t q with
        | true => rfl
        | false =>
          cases d : W q with
          | false => rw [w1 d] at w; exact absurd w (by decide)
          | true =>
            obtain ⟨r, r1, r2, -, r4⟩ := w3 d c
            have nm := np_mono (W := W) (show r ≤ 10000 by omega)
            have nl := np_le W
            rw [r4] at w
            exact absurd w (nI_nn2 (by omega))
      cases c : Rs W t t with
      | true =>
        have es : stB W t = true := c
        have nl := np_lt ht es
        rw [if_pos ((iff2 t ht).mp c), g2]
        obtain ⟨Y, y1, y2, y3⟩ := e_floods (R := Rs W t) (a := t) (k := npN W t) (X := S) nl ht c iff2
        rw [y1, Option.bind_some, nx_eq]
        have oY := y3.on [(47, 47, none)] (by decide) (by decide)
        unfold fX11_finds_119
        rw [nx_eq, nI_s]
        have sU : sm [(47, 47, some 37)] Y (sI Y 47 37 (Y.1 47 37 + 1)) := sm_rf.I (by rfl)
        have oU := sU.on [(47, 47, some 38), (85, 85, none)] (by decide) (by decide)
        refine ⟨_, rfl, (g1.tr (y3.up (by decide))).tr (sU.up (by decide)), ?_, ?_, fun q hq => ?_⟩
        · rw [sI_at, oY.i 47 37 rfl, g2, nI_s, np_s es]
        · rw [oU.i 47 38 rfl, oY.i 47 38 rfl]; exact g3
        · obtain ⟨w1, w2, w3⟩ := g4 q hq
          rw [oU.i 85 q rfl, y2 q hq, Rs_s1 c]
          refine ⟨fun d => ?_, fun d => ?_, fun d1 d2 => ?_⟩
          · have : Rs W t q = false := by
              cases z : Rs W t q with
              | false => rfl
              | true => rw [Rs_W z] at d; cases d
            rw [this]
            simp
            exact w1 d
          · simp only [Bool.and_eq_true, Bool.not_eq_true'] at d
            rw [d.1, d.2]
            simp
            exact w2 d.1
          · cases z : Rs W t q with
            | false =>
              obtain ⟨r, r1, r2, r3, r4⟩ := w3 d1 z
              refine ⟨r, by omega, r2, r3, ?_⟩
              simp
              exact r4
            | true =>
              rw [z] at d2
              simp at d2
              refine ⟨t, by omega, es, ?_, ?_⟩
              · unfold cpB; rw [z, d2]; rfl
              · rw [d2]; simp
      | false =>
        have es : stB W t = false := c
        have n2 : ¬ S.1 85 t = -2 := fun w => by have := (iff2 t ht).mpr w; rw [c] at this; cases this
        rw [if_neg n2]
        unfold fX11_finds_119
        rw [nx_eq, nI_s]
        have eN : npN W (t + 1) = npN W t := by unfold npN; rw [fb_ct_succ, es]; rfl
        refine ⟨S, rfl, g1, by rw [eN]; exact g2, g3, fun q hq => ?_⟩
        rw [Rs_s0 c]
        obtain ⟨w1, w2, w3⟩ := g4 q hq
        refine ⟨w1, w2, fun d1 d2 => ?_⟩
        obtain ⟨r, r1, r2⟩ := w3 d1 d2
        exact ⟨r, by omega, r2⟩
    · rintro f S -
      show fX11_finds_79 _ (f + 1) (nI 10000) S = _
      rw [fX11_finds_79, e10, if_pos (nI_le (Nat.le_refl _) (by omega))]
      rfl
    · rw [b5 q hq, w]; rfl
    · rw [b5 q hq, show W q = true from w]; rfl
    · rw [show Rs W 0 q = W q from rfl, w1] at w2; cases w2
  · rintro f i S hi ⟨g1, g2, g3, g4⟩
    have ii := inb_nI hi (by decide)
    have hS : DI S n p := DI_on (g1.on _ (by decide) (by decide)) h
    have e1 : cD S = cD M := cD_on (g1.on _ (by decide) (by decide))
    have e2 : cB S = cB M := cB_on (g1.on _ (by decide) (by decide))
    have hbt : fX11_beatsAt S (nI (i / 100)) (nI (i % 100)) (nI (a / 100)) (nI (a % 100)) = some (bI (W i)) := by
      rw [e_bt hS, e1, e2, ← hW]; rfl
    show ∃ s1, fX11_finds_12 fX11_finds_77 (f + 1) _ _ (nI i) S = _ ∧ _
    rw [fX11_finds_12, e10, if_neg (nI_ge hi (by omega)), div100 (by omega), irm100 (by omega), hbt, Option.bind_some]
    unfold fX11_finds_51 fX11_finds_67
    simp only [ii, if_true, ix_nI (show i < 2147483648 by omega), nx_eq, nI_s]
    have fin : ∀ (v d : Int32) (c : Nat), v = (if W i = true then -2 else -1) → nI (fb_ct W i) + d = nI (fb_ct W (i + 1)) → (sm rgFi M (sI (sI S 85 i v) 47 38 ((sI S 85 i v).1 47 38 + d)) ∧ (sI (sI S 85 i v) 47 38 ((sI S 85 i v).1 47 38 + d)).1 47 37 = nI 0 ∧ (sI (sI S 85 i v) 47 38 ((sI S 85 i v).1 47 38 + d)).1 47 38 = nI (fb_ct W (i + 1)) ∧ ∀ q, q < i + 1 → (sI (sI S 85 i v) 47 38 ((sI S 85 i v).1 47 38 + d)).1 85 q = if W q = true then -2 else -1) := by
      intro v d _ hv hd
      have e38 : (sI S 85 i v).1 47 38 = nI (fb_ct W i) := by rw [sI_nk _ _ (by decide)]; exact g3
      refine ⟨(g1.I (by rfl)).I (by rfl), ?_, ?_, fun q hq => ?_⟩
      · rw [sI_nj _ _ (by decide), sI_nk _ _ (by decide)]; exact g2
      · rw [sI_at, e38, hd]
      · rw [sI_nk _ _ (by decide)]
        by_cases e : q = i
        · rw [e, sI_at]; exact hv
        · rw [sI_nj _ _ e]; exact g4 q (by omega)
    cases c : W i with
    | false =>
      rw [if_pos (show bI false = 0 from rfl), if_pos (show bI false = 0 from rfl)]
      exact ⟨_, rfl, fin (-1) 0 0 (by rw [c]; rfl) (by rw [fb_ct_succ, c]; exact Int32.add_zero _)⟩
    | true =>
      rw [if_neg (show ¬ bI true = 0 by decide), if_neg (show ¬ bI true = 0 by decide)]
      exact ⟨_, rfl, fin (-2) 1 0 (by rw [c]; rfl) (by rw [fb_ct_succ, c]; exact nI_s _)⟩
  · rintro f S -
    show fX11_finds_12 _ (f + 1) _ _ (nI 10000) S = _
    rw [fX11_finds_12, e10, if_pos (nI_le (Nat.le_refl _) (by omega))]
/-- one piece, counted -/
theorem cp_one {W : Nat → Bool} {r s q : Nat} (h1 : stB W r = true) (h2 : stB W s = true) (c1 : cpB W r q = true) (c2 : cpB W s q = true) : r = s := by
  have key : ∀ {r s : Nat}, stB W r = true → r < s → cpB W r q = true → cpB W s q = true → False := by
    intro r s h1 hlt c1 c2
    unfold cpB at c1 c2
    simp only [Bool.and_eq_true] at c1 c2
    have := Rs_antiD (W := W) (p := r + 1) (q := q) (d := s - (r + 1)) (by rw [show r + 1 + (s - (r + 1)) = s by omega]; exact c2.1)
    rw [Rs_s1 h1, c1.2] at this
    simp at this
  by_cases a : r < s
  · exact (key h1 a c1 c2).elim
  · by_cases b : s < r
    · exact (key h2 b c2 c1).elim
    · omega
theorem PC.iff {W : Nat → Bool} {X : Mem} (h : PC W X) {r q : Nat} (hr : r < 10000) (hs : stB W r = true) (hq : q < 10000) : X.1 85 q = nI (npN W r) ↔ cpB W r q = true := by
  have nr := np_lt hr hs
  obtain ⟨w1, w2⟩ := h q hq
  constructor
  · intro e
    cases d : W q with
    | false => rw [w1 d] at e; exact absurd e.symm (nI_nn1 (by omega))
    | true =>
      obtain ⟨s, s1, s2, s3, s4⟩ := w2 d
      have ns := np_lt s1 s2
      rw [s4] at e
      have : s = r := np_one s2 hs ((nI_eq (by omega) (by omega)).mp e)
      rw [← this]; exact s3
  · intro c
    have d : W q = true := by
      unfold cpB at c
      simp only [Bool.and_eq_true] at c
      exact Rs_W c.1
    obtain ⟨s, s1, s2, s3, s4⟩ := w2 d
    rw [s4, cp_one s2 hs s3 c]
theorem e_count {W : Nat → Bool} {X : Mem} (h : PC W X) {r : Nat} (hr : r < 10000) (hs : stB W r = true) (x4 : Int32) (K : Int32 → Int32 → Int32 → Mem → Option (Int32 × Mem)) : fX11_piece_63 K FU (nI (npN W r)) x4 (-1) 0 0 X = K x4 (nI r) (nI (fb_ct (cpB W r) 10000)) X := by
  have e10 : (10000 : Int32) = nI 10000 := rfl
  have hh := for_ex (σ := Int32 × Int32) (fun f i s => fX11_piece_63 K f (nI (npN W r)) x4 s.1 s.2 i X) (fun s => K x4 s.1 s.2 X) 10000
    (fun i s => s.1 = (if r < i then nI r else -1) ∧ s.2 = nI (fb_ct (cpB W r) i)) ?_ ?_ (-1, 0) ⟨by rw [if_neg (by omega)], rfl⟩ FU (FU_gt (by omega))
  · obtain ⟨⟨x, y⟩, k1, k2, k3⟩ := hh
    have k2 : x = (if r < 10000 then nI r else -1) := k2
    have k3 : y = nI (fb_ct (cpB W r) 10000) := k3
    rw [if_pos hr] at k2
    refine Eq.trans k1 ?_
    show K x4 x y X = _
    rw [k2, k3]
  · rintro f i ⟨x, y⟩ hi ⟨g1, g2⟩
    have g1 : x = (if r < i then nI r else -1) := g1
    have g2 : y = nI (fb_ct (cpB W r) i) := g2
    have ii := inb_nI hi (by decide)
    show ∃ s1 : Int32 × Int32, fX11_piece_63 K (f + 1) (nI (npN W r)) x4 x y (nI i) X = fX11_piece_63 K f (nI (npN W r)) x4 s1.1 s1.2 (nI (i + 1)) X ∧ _
    rw [fX11_piece_63, e10, if_neg (nI_ge hi (by omega)), if_pos ii, ix_nI (by omega)]
    unfold fX11_piece_98 fX11_piece_103
    simp only [nx_eq, nI_s]
    have pi := h.iff hr hs hi
    cases c : cpB W r i with
    | true =>
      rw [if_pos (pi.mpr c)]
      have ge : r ≤ i := by
        unfold cpB at c
        simp only [Bool.and_eq_true] at c
        exact Rs_ge c.1
      have e2 : y + 1 = nI (fb_ct (cpB W r) (i + 1)) := by rw [g2, fb_ct_succ, c]; exact nI_s _
      by_cases e : r < i
      · rw [if_pos e] at g1
        rw [if_neg (show ¬ x = -1 by rw [g1]; exact nI_nn1 (by omega))]
        exact ⟨(x, y + 1), rfl, by rw [if_pos (by omega)]; exact g1, e2⟩
      · rw [if_neg e] at g1
        rw [if_pos g1]
        have : i = r := by omega
        exact ⟨(nI i, y + 1), rfl, by rw [if_pos (by omega), this], e2⟩
    | false =>
      rw [if_neg (fun w => by have := pi.mp w; rw [c] at this; cases this)]
      refine ⟨(x, y), rfl, ?_, ?_⟩
      · show x = _
        rw [g1]
        by_cases e : r < i
        · rw [if_pos e, if_pos (by omega)]
        · rw [if_neg e, if_neg (fun w => by
            have : r = i := by omega
            rw [← this, cp_self hs] at c
            cases c)]
      · show y = _
        rw [g2, fb_ct_succ, c]
        rfl
  · rintro f ⟨x, y⟩ -
    show fX11_piece_63 K (f + 1) _ x4 x y (nI 10000) X = _
    rw [fX11_piece_63, e10, if_pos (nI_le (Nat.le_refl _) (by omega))]
/-- the class's answers of a piece -/
theorem k_ofPiece {W : Nat → Bool} {X : Mem} (h : CutS W X) {r : Nat} (hr : r < 10000) (hs : stB W r = true) : fX1_firstOf X (nI (npN W r)) = some (nI r) ∧ fX1_sizeOf X (nI (npN W r)) = some (nI (fb_ct (cpB W r) 10000)) := by
  obtain ⟨c1, c2, c3, c4, c5, c6⟩ := h
  have nr := np_lt hr hs
  have cW := fb_ct_le W 10000
  have zl := sz_lt hr hs
  have z1 := sz_add (W := W) r
  have z2 := sz_add (W := W) (r + 1)
  have cc := cp_ct hs
  obtain ⟨s1, s2⟩ := c2 r hr hs
  constructor
  · unfold fX1_firstOf
    rw [if_pos (inb_nI (show npN W r < 5001 by omega) (by decide)), ix_nI (by omega), s1, if_pos (inb_nI (show szN W r < 10000 by omega) (by decide)), ix_nI (by omega), s2]
  · unfold fX1_sizeOf
    have e : X.1 146 (npN W r + 1) = nI (szN W (r + 1)) := by
      rw [← np_s hs]
      rcases sz_next hr hs with ⟨w1, w2⟩ | ⟨q, q1, q2, q3, q4⟩
      · rw [w1, c3, ← w2, sz_end]
      · rw [← q3, (c2 q q1 q2).1, q4]
    rw [nI_s, if_pos (inb_nI (show npN W r + 1 < 5001 by omega) (by decide)), if_pos (inb_nI (show npN W r < 5001 by omega) (by decide)), ix_nI (by omega), ix_nI (by omega), e, s1, pk_sub (by omega)]
    congr 2
    omega
