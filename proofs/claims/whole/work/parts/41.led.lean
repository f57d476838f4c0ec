/-! led and best -/
def bb (M : Mem) : Nat → Nat → Bool := bq (cD M) (cP M) (cB M)
theorem bb_on {M M1 : Mem} (h : on [(1, 9, none)] M M1) : bb M1 = bb M := by
  unfold bb
  rw [cD_on (h.sub (by decide)), cP_on (h.sub (by decide)), cB_on (h.sub (by decide))]
theorem e_bb {M : Mem} {n p : Nat} (h : DI M n p) {a b : Nat} (ha : a < p) (hb : b < p) : fX11_beatsOf M (nI a) (nI b) = some (bI (bb M b a)) := by
  unfold bb
  rw [e_nB h ha hb, bq_nB h]
theorem DI_87 {M M1 : Mem} {n p : Nat} (h : DI M n p) (hs : sm [(87, 87, none)] M M1) : DI M1 n p := DI_on (hs.on _ (by decide) (by decide)) h
theorem e_leads66 {M : Mem} {n p k x : Nat} (h : DI M n p) (hx : x < p) (hk : k < 30) (h1 : M.1 87 x = -1) (K : Int32 → Int32 → Mem → Option Mem) :
    ∃ M1, fX11_leads_66 K FU (nI k) (nI x) 0 M = K (nI k) (nI x) M1 ∧ (∀ j, j ≠ x → M1.1 87 j = M.1 87 j) ∧ M1.1 87 x = (if anyN (fun q => bb M x q && decide (M.1 87 q = nI k)) p = true then nI (k + 1) else -1) ∧ sm [(87, 87, none)] M M1 := by
  have hp20 := h.p20
  have hh := for_ex (σ := Mem) (fun f i s => fX11_leads_66 K f (nI k) (nI x) i s) (fun s => K (nI k) (nI x) s) p
    (fun i s => (∀ j, j ≠ x → s.1 87 j = M.1 87 j) ∧ s.1 87 x = (if anyN (fun q => bb M x q && decide (M.1 87 q = nI k)) i = true then nI (k + 1) else -1) ∧ sm [(87, 87, none)] M s) ?_ ?_ M ⟨fun _ _ => rfl, h1, sm_rf⟩ FU (FU_gt (by omega))
  · obtain ⟨M1, g1, g2⟩ := hh
    exact ⟨M1, g1, g2⟩
  · intro f i s hi ⟨g1, g2, g3⟩
    have hs := DI_87 h g3
    have eb : bb s = bb M := bb_on (g3.on _ (by decide) (by decide))
    have hi20 := inb_nI (show i < 20 by omega) (by decide)
    have hx20 := inb_nI (show x < 20 by omega) (by decide)
    have key : (s.1 87 i = nI k) ↔ (M.1 87 i = nI k) := by
      by_cases e : i = x
      · subst e
        rw [h1, g2]
        have a1 : ¬ (-1 : Int32) = nI k := fun q => nI_n1 (by omega) q.symm
        have a2 : ¬ nI (k + 1) = nI k := nI_ne (by omega) (by omega) (by omega)
        split <;> simp [a1, a2]
      · rw [g1 i e]
    have hstep : fX11_leads_66 K (f + 1) (nI k) (nI x) (nI i) s = fX11_leads_66 K f (nI k) (nI x) (nI (i + 1)) (if (bb M x i && decide (M.1 87 i = nI k)) = true then sI s 87 x (nI (k + 1)) else s) := by
      rw [fX11_leads_66, e_places, Option.bind_some, hs.2.1.2.2.2, if_neg (nI_ge hi (by omega))]
      unfold fX11_leads_105
      simp only [hi20, hx20, if_true, ix_nI (show i < 2147483648 by omega), ix_nI (show x < 2147483648 by omega), nx_eq, nI_s, key, e_bb hs hi hx, eb, Option.bind_some]
      by_cases c : M.1 87 i = nI k
      · cases bb M x i with
        | false => simp [c, bI]
        | true => simp [c, bI]
      · simp [c]
    refine ⟨_, hstep, ?_⟩
    cases c : (bb M x i && decide (M.1 87 i = nI k)) with
    | false =>
      simp only [Bool.false_eq_true, if_false]
      refine ⟨g1, ?_, g3⟩
      rw [g2, anyN_s, c, Bool.or_false]
    | true =>
      simp only [if_true]
      refine ⟨fun j hj => ?_, ?_, g3.I (inS_n 87 x)⟩
      · rw [sI_nj _ _ hj]; exact g1 j hj
      · rw [sI_at, anyN_s, c, Bool.or_true, if_pos rfl]
  · intro f s ⟨g1, g2, g3⟩
    have hs := DI_87 h g3
    show fX11_leads_66 K (f + 1) (nI k) (nI x) (nI p) s = _
    rw [fX11_leads_66, e_places, Option.bind_some, hs.2.1.2.2.2, if_pos (nI_le (Nat.le_refl _) (by omega))]
theorem e_leads42 {M : Mem} {n p k to : Nat} (h : DI M n p) (hk : k < 30) (h1 : ∀ j, j < p → M.1 87 j = stI (bb M) p to k j) (K : Int32 → Mem → Option Mem) :
    ∃ M1, fX11_leads_42 K FU (nI k) 0 M = K (nI k) M1 ∧ (∀ j, j < p → M1.1 87 j = stI (bb M) p to (k + 1) j) ∧ sm [(87, 87, none)] M M1 := by
  have hp20 := h.p20
  have hh := for_ex (σ := Mem) (fun f i s => fX11_leads_42 K f (nI k) i s) (fun s => K (nI k) s) p
    (fun i s => (∀ j, j < p → s.1 87 j = stI (bb M) p to (if j < i then k + 1 else k) j) ∧ sm [(87, 87, none)] M s) ?_ ?_ M ⟨fun j hj => by simp [h1 j hj], sm_rf⟩ FU (FU_gt (by omega))
  · obtain ⟨M1, g1, g2, g3⟩ := hh
    refine ⟨M1, g1, fun j hj => ?_, g3⟩
    have := g2 j hj
    rw [if_pos hj] at this
    exact this
  · intro f i s hi ⟨g1, g2⟩
    have hs := DI_87 h g2
    have eb : bb s = bb M := bb_on (g2.on _ (by decide) (by decide))
    have hi20 := inb_nI (show i < 20 by omega) (by decide)
    have hsi : s.1 87 i = stI (bb M) p to k i := by have := g1 i hi; rw [if_neg (by omega)] at this; exact this
    by_cases c1 : stI (bb M) p to k i = -1
    · obtain ⟨M3, q1, q2, q3, q4⟩ := e_leads66 hs hi hk (hsi.trans c1) (fX11_leads_111 (fX11_leads_42 K f) K)
      have ea : anyN (fun q => bb s i q && decide (s.1 87 q = nI k)) p = anyN (fun q => bb M i q && decide (stI (bb M) p to k q ≠ -1)) p := by
        apply anyN_congr
        intro q hq
        rw [eb, g1 q hq]
        cases hb : bb M i q with
        | false => rfl
        | true =>
          simp only [Bool.true_and]
          by_cases cq : stI (bb M) p to k q = -1
          · have : ¬ stI (bb M) p to (if q < i then k + 1 else k) q = nI k := by
              by_cases e : q < i
              · rw [if_pos e, stI]
                split
                · exact nI_ne (by omega) (by omega) (by omega)
                · rw [cq]; exact fun r => nI_n1 (by omega) r.symm
              · rw [if_neg e, cq]; exact fun r => nI_n1 (by omega) r.symm
            simp [this, cq]
          · have e2 := st_new (show k < 999 by omega) c1 hq hb cq
            have : stI (bb M) p to (if q < i then k + 1 else k) q = nI k := by
              by_cases e : q < i
              · rw [if_pos e, st_keep cq, e2]
              · rw [if_neg e, e2]
            simp [this, cq]
      refine ⟨M3, ?_, fun j hj => ?_, g2.tr q4⟩
      · show fX11_leads_42 K (f + 1) (nI k) (nI i) s = _
        rw [fX11_leads_42, e_places, Option.bind_some, hs.2.1.2.2.2, if_neg (nI_ge hi (by omega)), if_pos hi20, ix_nI (by omega), if_pos (hsi.trans c1), q1]
        unfold fX11_leads_111
        simp only [nx_eq, nI_s]
      · by_cases e : j = i
        · subst e
          rw [q3, ea, if_pos (show j < j + 1 by omega), stI]
          by_cases c2 : anyN (fun q => bb M j q && decide (stI (bb M) p to k q ≠ -1)) p = true
          · rw [if_pos c2, if_pos ⟨c1, c2⟩]
          · rw [if_neg c2, if_neg (fun r => c2 r.2), c1]
        · rw [q2 j e, g1 j hj]
          have : (j < i + 1) = (j < i) := by apply propext; omega
          simp only [this]
    · refine ⟨s, ?_, fun j hj => ?_, g2⟩
      · show fX11_leads_42 K (f + 1) (nI k) (nI i) s = _
        rw [fX11_leads_42, e_places, Option.bind_some, hs.2.1.2.2.2, if_neg (nI_ge hi (by omega)), if_pos hi20, ix_nI (by omega), if_neg (by rw [hsi]; exact c1)]
        unfold fX11_leads_111
        simp only [nx_eq, nI_s]
      · rw [g1 j hj]
        by_cases e : j = i
        · subst e
          rw [if_neg (show ¬ j < j by omega), if_pos (show j < j + 1 by omega), st_keep c1]
        · have : (j < i + 1) = (j < i) := by apply propext; omega
          simp only [this]
  · intro f s ⟨g1, g2⟩
    have hs := DI_87 h g2
    show fX11_leads_42 K (f + 1) (nI k) (nI p) s = _
    rw [fX11_leads_42, e_places, Option.bind_some, hs.2.1.2.2.2, if_pos (nI_le (Nat.le_refl _) (by omega))]
theorem e_leads {M : Mem} {n p to : Nat} (h : DI M n p) (ht : to < p) :
    ∃ M1, fX11_leads (nI to) M = some M1 ∧ (∀ j, j < p → M1.1 87 j = stI (bb M) p to (p - 1) j) ∧ sm [(87, 87, none)] M M1 := by
  have hp20 := h.p20
  unfold fX11_leads
  have hh := for_ex (σ := Mem) (fun f i s => fX11_leads_2 fX11_leads_30 f (nI to) i s) (fun s => fX11_leads_30 s) 20
    (fun i s => (∀ j, j < i → s.1 87 j = if j = to then 0 else -1) ∧ sm [(87, 87, none)] M s) ?_ ?_ M ⟨fun j hj => absurd hj (by omega), sm_rf⟩ FU (FU_gt (by omega))
  · obtain ⟨M2, g1, g2, g3⟩ := hh
    have h2 := DI_87 h g3
    have eb : bb M2 = bb M := bb_on (g3.on _ (by decide) (by decide))
    have hh2 := for_ex (σ := Mem) (fun f i s => fX11_leads_32 fX11_leads_123 f i s) (fun s => some s) p
      (fun i s => (∀ j, j < p → s.1 87 j = stI (bb M) p to i j) ∧ sm [(87, 87, none)] M s) ?_ ?_ M2 ⟨fun j hj => by rw [stI]; exact g2 j (by omega), g3⟩ FU (FU_gt (by omega))
    · obtain ⟨M3, r1, r2, r3⟩ := hh2
      refine ⟨M3, ?_, fun j hj => ?_, r3⟩
      · refine Eq.trans g1 ?_
        exact r1
      · rw [r2 j hj, st_end hp20 ht hj]
    · intro f i s hi ⟨q1, q2⟩
      have hs := DI_87 h q2
      have ebs : bb s = bb M := bb_on (q2.on _ (by decide) (by decide))
      obtain ⟨M4, w1, w2, w3⟩ := e_leads42 (k := i) (to := to) hs (by omega) (fun j hj => by rw [ebs]; exact q1 j hj) (fX11_leads_117 (fX11_leads_32 fX11_leads_123 f) fX11_leads_123)
      refine ⟨M4, ?_, fun j hj => by rw [w2 j hj, ebs], q2.tr w3⟩
      show fX11_leads_32 fX11_leads_123 (f + 1) (nI i) s = _
      rw [fX11_leads_32, e_places, Option.bind_some, hs.2.1.2.2.2, if_neg (nI_ge hi (by omega))]
      refine Eq.trans w1 ?_
      unfold fX11_leads_117
      simp only [nx_eq, nI_s]
    · intro f s ⟨q1, q2⟩
      have hs := DI_87 h q2
      show fX11_leads_32 fX11_leads_123 (f + 1) (nI p) s = _
      rw [fX11_leads_32, e_places, Option.bind_some, hs.2.1.2.2.2, if_pos (nI_le (Nat.le_refl _) (by omega))]
      rfl
  · intro f i s hi ⟨g1, g2⟩
    have hi20 := inb_nI hi (by decide)
    refine ⟨sI s 87 i (if i = to then 0 else -1), ?_, fun j hj => ?_, g2.I (inS_n 87 i)⟩
    · show fX11_leads_2 fX11_leads_30 (f + 1) (nI to) (nI i) s = _
      have e20 : (20 : Int32) = nI 20 := rfl
      rw [fX11_leads_2, e20, if_neg (nI_ge hi (by omega))]
      unfold fX11_leads_23
      simp only [hi20, if_true, ix_nI (show i < 2147483648 by omega), nx_eq, nI_s]
      by_cases e : i = to
      · subst e; simp
      · have : ¬ nI i = nI to := nI_ne e (by omega) (by omega)
        simp [e, this]
    · by_cases e : j = i
      · subst e; rw [sI_at]
      · rw [sI_nj _ _ e]; exact g1 j (by omega)
  · intro f s _
    show fX11_leads_2 fX11_leads_30 (f + 1) (nI to) (nI 20) s = _
    have e20 : (20 : Int32) = nI 20 := rfl
    rw [fX11_leads_2, e20, if_pos (nI_le (Nat.le_refl _) (by omega))]
/-! the walk -/
theorem k_nextFrom {M : Mem} {p at' j : Nat} {b : Nat → Nat → Bool} {S : Nat → Int32} (hp : M.1 1 8 = nI p) (hp20 : p ≤ 20) (ha : at' < p) (hb : ∀ i, i < p → M.1 24 i = nI (btN (b i) p)) (h25 : ∀ i, i < p → M.1 25 i = S i) (hj : S at' = nI (j + 1)) (he : ∃ q, q < p ∧ b at' q = true ∧ S q = nI j) :
    ∃ q, ff (fun q => b at' q && decide (S q = nI j)) p = some q ∧ fX0_nextFrom M (nI at') = some (nI q) := by
  unfold fX0_nextFrom
  have hm : nI (j + 1) - 1 = nI j := by
    have := pk_sub (a := j + 1) (b := 1) (by omega)
    exact this
  have hh := for_any (fun f q => fX0_nextFrom_2 M (fX0_nextFrom_39 M) (fX0_nextFrom_47 M) f (nI at') q) (some (nI at')) (fun i => some (nI i)) (fun q => b at' q && decide (S q = nI j)) p ?_ ?_ FU (FU_gt (by omega))
  · cases hc : ff (fun q => b at' q && decide (S q = nI j)) p with
    | none =>
      obtain ⟨q, h1, h2, h3⟩ := he
      have := ff_none.mp hc q h1
      simp [h2, h3] at this
    | some q =>
      refine ⟨q, rfl, ?_⟩
      rw [hc] at hh
      exact hh
  · intro f q hq
    show fX0_nextFrom_2 M (fX0_nextFrom_39 M) (fX0_nextFrom_47 M) (f + 1) (nI at') (nI q) = _
    rw [fX0_nextFrom_2, hp, if_neg (nI_ge hq (by omega)), k_isBeaten hp20 ha hq _ (hb at' ha), Option.bind_some]
    unfold fX0_nextFrom_41 fX0_nextFrom_39
    simp only [inb_nI (show q < 20 by omega) (by decide), inb_nI (show at' < 20 by omega) (by decide), if_true, ix_nI (show q < 2147483648 by omega), ix_nI (show at' < 2147483648 by omega), h25 q hq, h25 at' ha, hj, hm, nx_eq, nI_s]
    cases b at' q with
    | false => simp [bI]
    | true => simp [bI]
  · intro f
    show fX0_nextFrom_2 M (fX0_nextFrom_39 M) (fX0_nextFrom_47 M) (f + 1) (nI at') (nI p) = _
    rw [fX0_nextFrom_2, hp, if_pos (nI_le (Nat.le_refl _) (by omega))]
    rfl
theorem e_led80 {M : Mem} {n p at' j : Nat} {S : Nat → Int32} (h : DI M n p) (ha : at' < p) (h87 : ∀ i, i < p → M.1 87 i = S i) (hj : S at' = nI (j + 1)) (x3 x5 : Int32) {q : Nat} (hq : ff (fun q => bb M at' q && decide (S q = nI j)) p = some q) (K : Int32 → Int32 → Int32 → Mem → Option (Int32 × Mem)) :
    fX11_led_80 K FU x3 (nI at') x5 0 M = K x3 x5 (nI q) M := by
  have hp20 := h.p20
  obtain ⟨hq1, hq2, hq3⟩ := ff_some.mp hq
  have hm : nI (j + 1) - 1 = nI j := pk_sub (a := j + 1) (b := 1) (by omega)
  have hs : ∀ f i, i < p → fX11_led_80 K (f + 1) x3 (nI at') x5 (nI i) M = if (bb M at' i && decide (S i = nI j)) = true then K x3 x5 (nI i) M else fX11_led_80 K f x3 (nI at') x5 (nI (i + 1)) M := by
    intro f i hi
    rw [fX11_led_80]
    unfold fX11_led_110
    simp only [inb_nI (show i < 20 by omega) (by decide), inb_nI (show at' < 20 by omega) (by decide), if_true, ix_nI (show i < 2147483648 by omega), ix_nI (show at' < 2147483648 by omega), h87 i hi, h87 at' ha, hj, hm, nx_eq, nI_s, e_bb h hi ha, Option.bind_some]
    by_cases c : S i = nI j
    · cases bb M at' i with
      | false => simp [c, bI]
      | true => simp [c, bI]
    · simp [c]
  have hw : ∀ d, d ≤ q → fX11_led_80 K FU x3 (nI at') x5 (nI 0) M = fX11_led_80 K (FU - d) x3 (nI at') x5 (nI d) M := by
    intro d
    induction d with
    | zero => intro _; rfl
    | succ d ih =>
      intro hd
      rw [ih (by omega)]
      have hF := FU_gt (n := d) (by omega)
      rw [show FU - d = (FU - (d + 1)) + 1 by omega, hs _ d (by omega), hq3 d (by omega)]
      simp
  refine (hw q (Nat.le_refl _)).trans ?_
  have hF := FU_gt (n := q) (by omega)
  rw [show FU - q = (FU - q - 1) + 1 by omega, hs _ q hq1, if_pos hq2]
/-- the place after so many votes -/
theorem walk_both {M M2 : Mem} {n p to : Nat} (hp : M.1 1 8 = nI p) (hb : ∀ i, i < p → M.1 24 i = nI (btN (bb M2 i) p)) (h2 : DI M2 n p) (h25 : ∀ i, i < p → M.1 25 i = stI (bb M2) p to (p - 1) i) (h87 : ∀ i, i < p → M2.1 87 i = stI (bb M2) p to (p - 1) i) {a d c : Nat} (ha : a < p) (hd : stI (bb M2) p to (p - 1) a = nI d) (hd20 : d ≤ 20) (hc : c ≤ d) :
    ∃ q, fX0_walk M (nI a) (nI c) = some (nI q) ∧ fX11_led_71 fX11_led_126 FU (nI c) (nI a) 0 M2 = some (nI q, M2) := by
  have hp20 := h2.p20
  have key : ∀ f i q, c < f + i + 1 → i ≤ c → q < p → stI (bb M2) p to (p - 1) q = nI (d - i) → ∃ r, fX0_walk_5 M (fX0_walk_23 M) (f + 1) (nI c) (nI q) (nI i) = some (nI r) ∧ fX11_led_71 fX11_led_126 (f + 1) (nI c) (nI q) (nI i) M2 = some (nI r, M2) := by
    intro f
    induction f with
    | zero =>
      intro i q h1 hi hq hst
      have : i = c := by omega
      subst this
      refine ⟨q, ?_, ?_⟩
      · rw [fX0_walk_5, if_pos (nI_le (Nat.le_refl _) (by omega))]; rfl
      · rw [fX11_led_71, if_pos (nI_le (Nat.le_refl _) (by omega))]; rfl
    | succ f ih =>
      intro i q h1 hi hq hst
      by_cases e : i = c
      · subst e
        refine ⟨q, ?_, ?_⟩
        · rw [fX0_walk_5, if_pos (nI_le (Nat.le_refl _) (by omega))]; rfl
        · rw [fX11_led_71, if_pos (nI_le (Nat.le_refl _) (by omega))]; rfl
      · have hj : stI (bb M2) p to (p - 1) q = nI (d - i - 1 + 1) := by rw [hst]; congr 1; omega
        have hbk := st_back (show p - 1 < 998 by omega) hj (by omega)
        obtain ⟨r, w1, w2⟩ := k_nextFrom hp hp20 hq hb h25 hj hbk
        obtain ⟨hr1, hr2, -⟩ := ff_some.mp w1
        simp only [Bool.and_eq_true, decide_eq_true_eq] at hr2
        obtain ⟨r2, v1, v2⟩ := ih (i + 1) r (by omega) (by omega) hr1 (by rw [hr2.2]; congr 1)
        refine ⟨r2, ?_, ?_⟩
        · rw [fX0_walk_5, if_neg (nI_ge (by omega) (by omega)), w2, Option.bind_some, nx_eq, nI_s]; exact v1
        · rw [fX11_led_71, if_neg (nI_ge (by omega) (by omega)), e_led80 h2 hq h87 hj _ _ w1]
          unfold fX11_led_116
          rw [nx_eq, nI_s]; exact v2
  unfold fX0_walk
  have hF := FU_gt (n := c) (by omega)
  obtain ⟨r, r1, r2⟩ := key (FU - 1) 0 a (by omega) (by omega) ha hd
  rw [show FU - 1 + 1 = FU by omega] at r1 r2
  exact ⟨r, r1, r2⟩
