theorem DR_25 {M M1 M2 : Mem} {p : Nat} (h : DR M M1 p) (hd : DC M1 p) (hs : sm [(25, 25, none)] M1 M2) : DR M M2 p := by
  obtain ⟨h1, h2, h3⟩ := h
  have o := hs.on [(1, 9, none), (21, 21, none), (22, 22, none), (24, 24, none)] (by decide) (by decide)
  refine ⟨h1.tr (hs.up (by decide)), fun _ _ => DC_on (o.sub (by decide)) hd, ?_⟩
  rw [o.i 21 7 rfl, o.i 21 8 rfl]
  exact h3
theorem k_bb {M : Mem} {p : Nat} (h : DC M p) : ∀ i, i < p → M.1 24 i = nI (btN (bb M i) p) := h.2.1
theorem s_led {M : Mem} {n p : Nat} (h : DI M n p) (hk : DK M p) (a b c : Int32) : ∃ r M1 M2, fX10_led a b c M = some (r, M1) ∧ fX11_led a b c M1 = some (r, M2) ∧ DR M M1 p ∧ sm [(87, 87, none)] M1 M2 := by
  have hp := h.p20
  have fin : ∀ {r M1 M2}, fX10_led a b c M = some (r, M1) → fX11_led a b c M1 = some (r, M2) → DR M M1 p → ∃ r M1 M2, fX10_led a b c M = some (r, M1) ∧ fX11_led a b c M1 = some (r, M2) ∧ DR M M1 p ∧ sm [(87, 87, none)] M1 M2 :=
    fun h1 h2 h3 => ⟨_, _, _, h1, h2, h3, ssX11_led h2⟩
  cases ha : inN a p with
  | false =>
    refine fin (r := -1) (M1 := M) (M2 := M) ?_ ?_ (DR_rf hk)
    · unfold fX10_led; rw [k_hasPlace M a h.2.1.2.1 hp, ha]; rfl
    · unfold fX11_led; rw [e_isPlace M a h.2.1.2.2.2 hp, ha]; rfl
  | true =>
    cases hb : inN b p with
    | false =>
      refine fin (r := -1) (M1 := M) (M2 := M) ?_ ?_ (DR_rf hk)
      · unfold fX10_led; rw [k_hasPlace M a h.2.1.2.1 hp, k_hasPlace M b h.2.1.2.1 hp, ha, hb]; rfl
      · unfold fX11_led; rw [e_isPlace M a h.2.1.2.2.2 hp, e_isPlace M b h.2.1.2.2.2 hp, ha, hb]; rfl
    | true =>
      obtain ⟨i, hi, rfl⟩ := inN_of ha (by omega)
      obtain ⟨j, hj, rfl⟩ := inN_of hb (by omega)
      have hi20 := inb_nI (show i < 20 by omega) (by decide)
      have t1 : ¬ bI true = 0 := by decide
      by_cases hc : (-1 : Int32) ≤ c
      · obtain ⟨M1, h1, h2, h3, h4⟩ := k_ref h hk
        obtain ⟨M2, m1, m2, m3⟩ := k_measure h3.2.1.2.1 hp hj (k_bb h2)
        have d2 : DI M2 n p := DI_on (m3.on _ (by decide) (by decide)) h3
        have eb2 : bb M2 = bb M1 := bb_on (m3.on _ (by decide) (by decide))
        obtain ⟨M3, l1, l2, l3⟩ := e_leads d2 hj
        have d3 : DI M3 n p := DI_87 d2 l3
        have eb3 : bb M3 = bb M2 := bb_on (l3.on _ (by decide) (by decide))
        have hr2 : DR M M2 p := DR_25 h4 h2 m3
        have kl : fX10_led (nI i) (nI j) c M = (if M2.1 25 i = (-1 : Int32) then some (M2.1 25 i, M2) else (if c = (-1 : Int32) then some (M2.1 25 i, M2) else (if c ≤ M2.1 25 i then (fX0_walk M2 (nI i) c).bind (fun q => some (q, M2)) else some (-1, M2)))) := by
          unfold fX10_led fX10_led_67 fX10_led_89
          rw [k_hasPlace M _ h.2.1.2.1 hp, k_hasPlace M _ h.2.1.2.1 hp, ha, hb]
          simp only [Option.bind_some, t1, if_false, hc, if_true, h1, m1, hi20, nx_eq, ix_nI (show i < 2147483648 by omega)]
        have el : fX11_led (nI i) (nI j) c M2 = (if M3.1 87 i = (-1 : Int32) then some (-1, M3) else (if c = (-1 : Int32) then some (M3.1 87 i, M3) else (if bI (decide ((0 : Int64) ≤ c.toInt64) && decide (c.toInt64 ≤ (M3.1 87 i).toInt64)) = 0 then some (-1, M3) else fX11_led_71 fX11_led_126 FU c (nI i) 0 M3))) := by
          unfold fX11_led
          rw [e_isPlace M2 _ d2.2.1.2.2.2 hp, e_isPlace M2 _ d2.2.1.2.2.2 hp, ha, hb]
          simp only [Option.bind_some, t1, if_false, l1, hi20, if_true, ix_nI (show i < 2147483648 by omega), e_in]
        rw [m2 i hi] at kl
        rw [l2 i hi, eb2] at el
        have e1 : bb M1 = bb M2 := eb2.symm
        by_cases c1 : stI (bb M1) p j (p - 1) i = -1
        · rw [if_pos c1, c1] at kl
          rw [if_pos c1] at el
          exact fin kl el hr2
        · rw [if_neg c1] at kl el
          by_cases c2 : c = -1
          · rw [if_pos c2] at kl el
            exact fin kl el hr2
          · rw [if_neg c2] at kl el
            rcases st_rng (b := bb M1) (p := p) (to := j) (i := i) (k := p - 1) with q | ⟨d, hd, q⟩
            · exact absurd q c1
            · rw [q] at kl el
              have hc0 : 0 ≤ c.toInt := by
                have := (fa_le _ _).mp hc
                have hne : c.toInt ≠ -1 := fun r => c2 ((fa_eq _ _).mpr r)
                have e : (-1 : Int32).toInt = -1 := rfl
                omega
              have a0 : (0 : Int64) ≤ c.toInt64 := by rw [fa_le64, Int32.toInt_toInt64]; exact hc0
              have a1 : (c.toInt64 ≤ (nI d).toInt64) ↔ c ≤ nI d := by rw [fa_le64, Int32.toInt_toInt64, Int32.toInt_toInt64, fa_le]
              simp only [a0, decide_true, Bool.true_and, a1] at el
              by_cases c3 : c ≤ nI d
              · rw [if_pos c3] at kl
                simp only [c3, decide_true, t1, if_false] at el
                have hlt : c.toInt < ((d + 1 : Nat) : Int) := by
                  have := (fa_le _ _).mp c3
                  rw [nI_toInt (by omega)] at this
                  omega
                obtain ⟨e, he, rfl⟩ := inN_of (x := c) (n := d + 1) (by simp only [inN, Bool.and_eq_true, decide_eq_true_eq]; omega) (by omega)
                obtain ⟨w, w1, w2⟩ := walk_both (M := M2) (M2 := M3) (n := n) (p := p) (to := j) d2.2.1.2.1 (fun x hx => by rw [eb3, eb2, m3.on [(24, 24, none)] (by decide) (by decide) |>.i 24 x rfl]; exact k_bb h2 x hx) d3 (fun x hx => by rw [m2 x hx, eb3, eb2]) (fun x hx => by rw [l2 x hx, eb3]) (a := i) (d := d) (c := e) hi (by rw [eb3, eb2]; exact q) (by omega) (by omega)
                rw [w1] at kl
                rw [w2] at el
                exact fin kl el hr2
              · rw [if_neg c3] at kl
                simp only [c3, decide_false] at el
                exact fin kl el hr2
      · obtain ⟨M3, l1, l2, l3⟩ := e_leads h hj
        refine fin (r := -1) (M1 := M) (M2 := M3) ?_ ?_ (DR_rf hk)
        · unfold fX10_led
          rw [k_hasPlace M _ h.2.1.2.1 hp, k_hasPlace M _ h.2.1.2.1 hp, ha, hb]
          simp only [Option.bind_some, t1, if_false, hc]
          rfl
        · unfold fX11_led
          rw [e_isPlace M _ h.2.1.2.2.2 hp, e_isPlace M _ h.2.1.2.2.2 hp, ha, hb]
          have hn1 : ¬ c = -1 := fun r => hc (by rw [r]; decide)
          have a0 : ¬ (0 : Int64) ≤ c.toInt64 := by
            rw [fa_le64, Int32.toInt_toInt64]
            intro r
            apply hc
            rw [fa_le]
            have e : (-1 : Int32).toInt = -1 := rfl
            have e2 : (0 : Int64).toInt = 0 := rfl
            omega
          simp only [Option.bind_some, t1, if_false, l1, hi20, if_true, ix_nI (show i < 2147483648 by omega), e_in, hn1, a0, decide_false, Bool.false_and]
          have : bI false = 0 := rfl
          simp only [this, if_true, ite_self]
/-! best -/
def ra (b : Nat → Nat → Bool) (p to : Nat) : Bool := !(anyN (fun q => decide (stI b p to (p - 1) q = -1)) p)
theorem k_reaching {M : Mem} {n p : Nat} (h : DI M n p) (hd : DC M p) : ∃ M1, fX0_reachingAll M = some (nI (btN (ra (bb M) p) p), M1) ∧ sm [(25, 25, none)] M M1 := by
  have hp := h.p20
  unfold fX0_reachingAll
  have ev : ((1 : Int32) <<< ((M.1 1 8) &&& 31)) - 1 = nI (btN (fun _ => true) p) := by
    rw [h.2.1.2.1, bt_shl (by omega), btN_all]
    exact pk_sub (a := 2 ^ p) (b := 1) (Nat.two_pow_pos p)
  rw [ev, nx_eq]
  have hh := for_ex (σ := Int32 × Mem) (fun f i s => fX0_reachingAll_16 fX0_reachingAll_48 f (nI (btN (fun _ => true) p)) s.1 i s.2) (fun s => some s) p
    (fun i s => s.1 = nI (btN (ra (bb M) p) i) ∧ sm [(25, 25, none)] M s.2) ?_ ?_ (0, M) ⟨rfl, sm_rf⟩ FU (FU_gt (by omega))
  · obtain ⟨⟨r, M1⟩, h1, h2, h3⟩ := hh
    have h2 : r = _ := h2
    rw [h2] at h1
    exact ⟨M1, h1, h3⟩
  · rintro f i ⟨r, s⟩ hi ⟨g1, g2⟩
    have g1 : r = _ := g1
    have g2 : sm [(25, 25, none)] M s := g2
    have hon := g2.on [(1, 9, none), (24, 24, none)] (by decide) (by decide)
    obtain ⟨M4, m1, m2, m3⟩ := k_measure (M := s) (to := i) (b := bb M) ((hon.i 1 8 rfl).trans h.2.1.2.1) hp hi (fun j hj => (hon.i 24 j rfl).trans (k_bb hd j hj))
    have hcond : nI (btN (fun q => decide (stI (bb M) p i (p - 1) q ≠ -1)) p) = nI (btN (fun _ => true) p) ↔ ra (bb M) p i = true := by
      have b1 := bt20 (fun q => decide (stI (bb M) p i (p - 1) q ≠ -1)) hp
      have b2 := bt20 (fun _ => true) hp
      rw [nI_eq (by omega) (by omega)]
      unfold ra
      rw [Bool.not_eq_true']
      constructor
      · intro e
        have h1 := btN_inj e
        rw [anyN_ct, fb_ct_zero]
        intro k hk
        have := h1 k hk
        simp only [decide_eq_true_eq] at this
        simp [this]
      · intro e
        rw [anyN_ct, fb_ct_zero] at e
        apply btN_congr
        intro k hk
        have := e k hk
        simp only [decide_eq_false_iff_not] at this
        simp [this]
    refine ⟨(nI (btN (ra (bb M) p) (i + 1)), M4), ?_, rfl, g2.tr m3⟩
    show fX0_reachingAll_16 fX0_reachingAll_48 (f + 1) (nI (btN (fun _ => true) p)) r (nI i) s = _
    rw [fX0_reachingAll_16, hon.i 1 8 rfl, h.2.1.2.1, if_neg (nI_ge hi (by omega)), m1, Option.bind_some]
    unfold fX0_reachingAll_42
    simp only [hcond, nx_eq, nI_s]
    rw [g1]
    cases c : ra (bb M) p i with
    | false => rw [btN, c]; simp
    | true =>
      rw [if_pos rfl, nI_or (btN_lt _ _) (by omega), btN, c]
      simp
  · rintro f ⟨r, s⟩ ⟨g1, g2⟩
    have g2 : sm [(25, 25, none)] M s := g2
    have hon := g2.on [(1, 9, none), (24, 24, none)] (by decide) (by decide)
    show fX0_reachingAll_16 fX0_reachingAll_48 (f + 1) (nI (btN (fun _ => true) p)) r (nI p) s = _
    rw [fX0_reachingAll_16, hon.i 1 8 rfl, h.2.1.2.1, if_pos (nI_le (Nat.le_refl _) (by omega))]
    rfl
theorem e_isReached {M : Mem} {n p to : Nat} (h : DI M n p) (ht : to < p) : ∃ M1, fX11_isReached (nI to) M = some (bI (ra (bb M) p to), M1) ∧ sm [(87, 87, none)] M M1 := by
  have hp := h.p20
  obtain ⟨M2, l1, l2, l3⟩ := e_leads h ht
  have d2 := DI_87 h l3
  refine ⟨M2, ?_, l3⟩
  unfold fX11_isReached
  rw [l1, Option.bind_some]
  have hh := for_anyB (fun f q => fX11_isReached_7 fX11_isReached_25 fX11_isReached_33 f q M2) (some (1, M2)) (some (0, M2)) (fun q => decide (stI (bb M) p to (p - 1) q = -1)) p ?_ ?_ FU (FU_gt (by omega))
  · refine Eq.trans hh ?_
    unfold ra
    cases anyN (fun q => decide (stI (bb M) p to (p - 1) q = -1)) p <;> rfl
  · intro f q hq
    show fX11_isReached_7 fX11_isReached_25 fX11_isReached_33 (f + 1) (nI q) M2 = _
    rw [fX11_isReached_7, e_places, Option.bind_some, d2.2.1.2.2.2, if_neg (nI_ge hq (by omega)), if_pos (inb_nI (show q < 20 by omega) (by decide)), ix_nI (by omega), l2 q hq]
    simp only [nx_eq, nI_s, decide_eq_true_eq]
    rfl
  · intro f
    show fX11_isReached_7 fX11_isReached_25 fX11_isReached_33 (f + 1) (nI p) M2 = _
    rw [fX11_isReached_7, e_places, Option.bind_some, d2.2.1.2.2.2, if_pos (nI_le (Nat.le_refl _) (by omega))]
    rfl
/-- q covers i -/
def cv (b : Nat → Nat → Bool) (p i q : Nat) : Bool := b i q && !(anyN (fun r => b q r && !b i r) p)
def op (b : Nat → Nat → Bool) (p i : Nat) : Bool := !(anyN (cv b p i) p)
theorem k_isCovered {M : Mem} {p i : Nat} {b : Nat → Nat → Bool} (hp : M.1 1 8 = nI p) (hp20 : p ≤ 20) (hi : i < p) (hb : ∀ i, i < p → M.1 24 i = nI (btN (b i) p)) : fX0_isCovered M (nI i) = some (bI (anyN (cv b p i) p)) := by
  unfold fX0_isCovered
  have hh := for_anyB (fun f q => fX0_isCovered_2 M (fX0_isCovered_40 M) (fX0_isCovered_48 M) f (nI i) q) (some 0) (some 1) (cv b p i) p ?_ ?_ FU (FU_gt (by omega))
  · refine Eq.trans hh ?_
    cases anyN (cv b p i) p <;> rfl
  · intro f q hq
    show fX0_isCovered_2 M (fX0_isCovered_40 M) (fX0_isCovered_48 M) (f + 1) (nI i) (nI q) = _
    rw [fX0_isCovered_2, hp, if_neg (nI_ge hq (by omega)), k_isBeaten hp20 hi hq _ (hb i hi), Option.bind_some]
    unfold fX0_isCovered_42 fX0_isCovered_40
    simp only [inb_nI (show q < 20 by omega) (by decide), inb_nI (show i < 20 by omega) (by decide), if_true, ix_nI (show q < 2147483648 by omega), ix_nI (show i < 2147483648 by omega), hb q hq, hb i hi, nI_sub hp20, nx_eq, nI_s]
    unfold cv
    cases b i q with
    | false => simp [bI]
    | true =>
      cases anyN (fun r => b q r && !b i r) p <;> simp [bI]
  · intro f
    show fX0_isCovered_2 M (fX0_isCovered_40 M) (fX0_isCovered_48 M) (f + 1) (nI i) (nI p) = _
    rw [fX0_isCovered_2, hp, if_pos (nI_le (Nat.le_refl _) (by omega))]
    rfl
theorem k_uncovered {M : Mem} {p : Nat} {b : Nat → Nat → Bool} (hp : M.1 1 8 = nI p) (hp20 : p ≤ 20) (hb : ∀ i, i < p → M.1 24 i = nI (btN (b i) p)) : fX0_uncovered M = some (nI (btN (op b p) p)) := by
  unfold fX0_uncovered
  have hh := for_ex (σ := Int32) (fun f i s => fX0_uncovered_4 M (fX0_uncovered_35 M) f s i) (fun s => some s) p
    (fun i s => s = nI (btN (op b p) i)) ?_ ?_ 0 rfl FU (FU_gt (by omega))
  · obtain ⟨s, h1, h2⟩ := hh
    rw [h2] at h1
    exact h1
  · intro f i s hi hs
    refine ⟨nI (btN (op b p) (i + 1)), ?_, rfl⟩
    show fX0_uncovered_4 M (fX0_uncovered_35 M) (f + 1) s (nI i) = _
    rw [fX0_uncovered_4, hp, if_neg (nI_ge hi (by omega)), k_isCovered hp hp20 hi hb, Option.bind_some, hs]
    unfold fX0_uncovered_29
    simp only [nx_eq, nI_s]
    have eo : op b p i = !(anyN (cv b p i) p) := rfl
    rw [btN, eo]
    cases anyN (cv b p i) p with
    | false =>
      have : bI false = 0 := rfl
      rw [this, if_pos rfl, nI_or (btN_lt _ _) (by omega)]
      simp
    | true =>
      rw [if_neg (by decide)]
      simp
  · intro f s hs
    show fX0_uncovered_4 M (fX0_uncovered_35 M) (f + 1) s (nI p) = _
    rw [fX0_uncovered_4, hp, if_pos (nI_le (Nat.le_refl _) (by omega))]
    rfl
theorem e_covers {M : Mem} {n p q i : Nat} (h : DI M n p) (hq : q < p) (hi : i < p) : fX11_covers M (nI q) (nI i) = some (bI (cv (bb M) p i q)) := by
  have hp := h.p20
  unfold fX11_covers
  rw [e_bb h hq hi, Option.bind_some]
  unfold cv
  cases hc : bb M i q with
  | false => rfl
  | true =>
    rw [if_neg (by decide)]
    have hh := for_anyB (fun f r => fX11_covers_13 M (fX11_covers_39 M) (fX11_covers_47 M) f (nI q) (nI i) r) (some 1) (some 0) (fun r => bb M q r && !bb M i r) p ?_ ?_ FU (FU_gt (by omega))
    · refine Eq.trans hh ?_
      cases anyN (fun r => bb M q r && !bb M i r) p <;> rfl
    · intro f r hr
      show fX11_covers_13 M (fX11_covers_39 M) (fX11_covers_47 M) (f + 1) (nI q) (nI i) (nI r) = _
      rw [fX11_covers_13, e_places, Option.bind_some, h.2.1.2.2.2, if_neg (nI_ge hr (by omega)), e_bb h hr hq, e_bb h hr hi]
      unfold fX11_covers_41 fX11_covers_39
      simp only [Option.bind_some, nx_eq, nI_s]
      cases bb M q r <;> cases bb M i r <;> rfl
    · intro f
      show fX11_covers_13 M (fX11_covers_39 M) (fX11_covers_47 M) (f + 1) (nI q) (nI i) (nI p) = _
      rw [fX11_covers_13, e_places, Option.bind_some, h.2.1.2.2.2, if_pos (nI_le (Nat.le_refl _) (by omega))]
      rfl
theorem e_isOpen {M : Mem} {n p i : Nat} (h : DI M n p) (hi : i < p) : fX11_isOpen M (nI i) = some (bI (op (bb M) p i)) := by
  have hp := h.p20
  unfold fX11_isOpen
  have hh := for_anyB (fun f q => fX11_isOpen_2 M (fX11_isOpen_24 M) (fX11_isOpen_32 M) f (nI i) q) (some 1) (some 0) (cv (bb M) p i) p ?_ ?_ FU (FU_gt (by omega))
  · refine Eq.trans hh ?_
    unfold op
    cases anyN (cv (bb M) p i) p <;> rfl
  · intro f q hq
    show fX11_isOpen_2 M (fX11_isOpen_24 M) (fX11_isOpen_32 M) (f + 1) (nI i) (nI q) = _
    rw [fX11_isOpen_2, e_places, Option.bind_some, h.2.1.2.2.2, if_neg (nI_ge hq (by omega))]
    unfold fX11_isOpen_26 fX11_isOpen_24
    simp only [nx_eq, nI_s]
    by_cases e : q = i
    · subst e
      rw [if_pos rfl, if_neg]
      have : bb M q q = false := by unfold bb bq; simp
      simp [cv, this]
    · have : ¬ nI q = nI i := nI_ne e (by omega) (by omega)
      rw [if_neg this, e_covers h hq hi, Option.bind_some]
      cases cv (bb M) p i q <;> rfl
  · intro f
    show fX11_isOpen_2 M (fX11_isOpen_24 M) (fX11_isOpen_32 M) (f + 1) (nI i) (nI p) = _
    rw [fX11_isOpen_2, e_places, Option.bind_some, h.2.1.2.2.2, if_pos (nI_le (Nat.le_refl _) (by omega))]
    rfl
theorem e_best23 {M : Mem} {n p : Nat} (h : DI M n p) (x : Int32) : ∃ M1, fX11_best_23 fX11_best_70 FU x 0 0 M = some (nI (btN (if x = 0 then ra (bb M) p else op (bb M) p) p), M1) := by
  have hp := h.p20
  have hh := for_ex (σ := Int32 × Mem) (fun f i s => fX11_best_23 fX11_best_70 f x s.1 i s.2) (fun s => some s) p
    (fun i s => s.1 = nI (btN (if x = 0 then ra (bb M) p else op (bb M) p) i) ∧ sm [(87, 87, none)] M s.2) ?_ ?_ (0, M) ⟨rfl, sm_rf⟩ FU (FU_gt (by omega))
  · obtain ⟨⟨r, M1⟩, h1, h2, h3⟩ := hh
    have h2 : r = _ := h2
    rw [h2] at h1
    exact ⟨M1, h1⟩
  · rintro f i ⟨r, s⟩ hi ⟨g1, g2⟩
    have g1 : r = _ := g1
    have g2 : sm [(87, 87, none)] M s := g2
    have hs := DI_87 h g2
    have eb : bb s = bb M := bb_on (g2.on _ (by decide) (by decide))
    have hun : fX11_best_23 fX11_best_70 (f + 1) x r (nI i) s = (if x = 0 then (fX11_isReached (nI i) s).bind (fun q38 => (if q38.1 = 0 then fX11_best_61 (fX11_best_23 fX11_best_70 f) fX11_best_70 x (nI i) r (q38.2) else fX11_best_55 (fX11_best_23 fX11_best_70 f) fX11_best_70 x (nI i) r (q38.2))) else (fX11_isOpen s (nI i)).bind (fun q49 => (if q49 = 0 then fX11_best_61 (fX11_best_23 fX11_best_70 f) fX11_best_70 x (nI i) r s else fX11_best_55 (fX11_best_23 fX11_best_70 f) fX11_best_70 x (nI i) r s))) := by
      rw [fX11_best_23, e_places, Option.bind_some, hs.2.1.2.2.2, if_neg (nI_ge hi (by omega))]
    have hbit : ∀ (c : Bool) (g : Nat → Bool) (S : Mem), g i = c → r = nI (btN g i) → (if bI c = 0 then fX11_best_61 (fX11_best_23 fX11_best_70 f) fX11_best_70 x (nI i) r S else fX11_best_55 (fX11_best_23 fX11_best_70 f) fX11_best_70 x (nI i) r S) = fX11_best_23 fX11_best_70 f x (nI (btN g (i + 1))) (nI (i + 1)) S := by
      intro c g S hg hr
      unfold fX11_best_61 fX11_best_55 fX11_best_62
      simp only [nx_eq, nI_s]
      rw [hr, btN, hg]
      cases c with
      | false =>
        have e0 : bI false = 0 := rfl
        have e1 : nI (btN g i) ||| (0 : Int32) = nI (btN g i) := Int32.or_zero
        rw [e0, if_pos rfl, e1]
        simp
      | true =>
        rw [if_neg (by decide), nI_or (btN_lt _ _) (by omega)]
        simp
    by_cases cx : x = 0
    · rw [if_pos cx] at hun g1
      obtain ⟨M4, l1, l2⟩ := e_isReached hs hi
      rw [l1, Option.bind_some, hbit _ (ra (bb M) p) M4 (by rw [eb]) g1] at hun
      exact ⟨(_, M4), hun, by rw [if_pos cx]; rfl, g2.tr l2⟩
    · rw [if_neg cx] at hun g1
      rw [e_isOpen hs hi, Option.bind_some, hbit _ (op (bb M) p) s (by rw [eb]) g1] at hun
      exact ⟨(_, s), hun, by rw [if_neg cx]; rfl, g2⟩
  · rintro f ⟨r, s⟩ ⟨g1, g2⟩
    have g2 : sm [(87, 87, none)] M s := g2
    have hs := DI_87 h g2
    show fX11_best_23 fX11_best_70 (f + 1) x r (nI p) s = _
    rw [fX11_best_23, e_places, Option.bind_some, hs.2.1.2.2.2, if_pos (nI_le (Nat.le_refl _) (by omega))]
    rfl
theorem s_best {M : Mem} {n p : Nat} (h : DI M n p) (hk : DK M p) (a : Int32) : ∃ r M1 M2, fX10_best a M = some (r, M1) ∧ fX11_best a M1 = some (r, M2) ∧ DR M M1 p ∧ sm [(87, 87, none)] M1 M2 := by
  have hp := h.p20
  have fin : ∀ {r M1 M2}, fX10_best a M = some (r, M1) → fX11_best a M1 = some (r, M2) → DR M M1 p → ∃ r M1 M2, fX10_best a M = some (r, M1) ∧ fX11_best a M1 = some (r, M2) ∧ DR M M1 p ∧ sm [(87, 87, none)] M1 M2 :=
    fun h1 h2 h3 => ⟨_, _, _, h1, h2, h3, ssX11_best h2⟩
  have er : ∀ {S : Mem}, DI S n p → fX11_best a S = if nI n = 0 then some (-1, S) else if bI (inN a 2) = 0 then some (-1, S) else fX11_best_23 fX11_best_70 FU a 0 0 S := by
    intro S hS
    unfold fX11_best fX11_best_17
    rw [e_voters, Option.bind_some, hS.2.1.2.2.1, e_in, inN_lit a (k := 1) (by decide), Option.bind_some]
  have ek : fX10_best a M = if nI n = 0 then some (-1, M) else if bI (inN a 2) = 0 then some (-1, M) else (fX0_refresh M).bind (fun q25 => (if a = 0 then (fX0_reachingAll q25).bind (fun q36 => some (q36.1, q36.2)) else (fX0_uncovered q25).bind (fun q46 => some (q46, q25)))) := by
    unfold fX10_best fX10_best_19 fX10_best_49
    rw [h.2.1.1]
    by_cases c0 : nI n = 0
    · rw [if_pos c0, if_pos c0]
    · rw [if_neg c0, if_neg c0]
      by_cases ca : inN a 2 = true
      · obtain ⟨j, hj, rfl⟩ := inN_of ca (by decide)
        have h01 : j = 0 ∨ j = 1 := by omega
        rw [ca]
        rcases h01 with rfl | rfl
        · rw [if_neg (show ¬ nI 0 < 0 by decide), if_pos (show nI 0 ≤ 1 by decide), if_neg (show ¬ bI true = 0 by decide)]
        · rw [if_neg (show ¬ nI 1 < 0 by decide), if_pos (show nI 1 ≤ 1 by decide), if_neg (show ¬ bI true = 0 by decide)]
      · have e : inN a 2 = false := by simpa using ca
        rw [e, if_pos (show bI false = 0 from rfl)]
        by_cases c1 : a < 0
        · rw [if_pos c1]
        · rw [if_neg c1, if_neg]
          intro r
          apply ca
          have := (fa_le _ _).mp r
          have h0 : ¬ a.toInt < (0 : Int32).toInt := fun q => c1 ((fa_lt _ _).mpr q)
          have z0 : (0 : Int32).toInt = 0 := rfl
          have z1 : (1 : Int32).toInt = 1 := rfl
          simp only [inN, Bool.and_eq_true, decide_eq_true_eq]
          omega
  by_cases c0 : nI n = 0
  · rw [if_pos c0] at ek
    have := er h
    rw [if_pos c0] at this
    exact fin ek this (DR_rf hk)
  · rw [if_neg c0] at ek
    by_cases ca : bI (inN a 2) = 0
    · rw [if_pos ca] at ek
      have := er h
      rw [if_neg c0, if_pos ca] at this
      exact fin ek this (DR_rf hk)
    · rw [if_neg ca] at ek
      obtain ⟨M1, h1, h2, h3, h4⟩ := k_ref h hk
      rw [h1, Option.bind_some] at ek
      by_cases cx : a = 0
      · rw [if_pos cx] at ek
        obtain ⟨M2, l1, l2⟩ := k_reaching h3 h2
        rw [l1, Option.bind_some] at ek
        have d2 : DI M2 n p := DI_on (l2.on _ (by decide) (by decide)) h3
        have eb2 : bb M2 = bb M1 := bb_on (l2.on _ (by decide) (by decide))
        have e2 := er d2
        obtain ⟨M3, w⟩ := e_best23 d2 a
        rw [if_neg c0, if_neg ca, w, if_pos cx, eb2] at e2
        exact fin ek e2 (DR_25 h4 h2 l2)
      · rw [if_neg cx, k_uncovered h3.2.1.2.1 hp (k_bb h2), Option.bind_some] at ek
        have e2 := er h3
        obtain ⟨M3, w⟩ := e_best23 h3 a
        rw [if_neg c0, if_neg ca, w, if_neg cx] at e2
        exact fin ek e2 h4
