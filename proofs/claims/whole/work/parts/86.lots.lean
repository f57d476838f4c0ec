/-! the first lot there is -/
def isL (g : Nat → Nat → Int32) (m h : Nat) : Prop := 0 < h ∧ h < 2 ^ m ∧ bcN h % 2 = 1 ∧ lotS g m h
def FL (g : Nat → Nat → Int32) (m h : Nat) : Prop := isL g m h ∧ ∀ k, isL g m k → bcN h < bcN k ∨ (bcN h = bcN k ∧ h ≤ k)
theorem FL_one {g : Nat → Nat → Int32} {m h k : Nat} (a : FL g m h) (b : FL g m k) : h = k := by
  have h1 := a.2 k b.1
  have h2 := b.2 h a.1
  omega
theorem nI_od (s : Nat) : nI s + nI s + 1 = nI (2 * s + 1) := by
  have e : nI s + nI s = nI (2 * s) := by rw [nI_add]; congr 1; omega
  rw [e, nI_s]
theorem nI_od2 (s : Nat) : nI (2 * s + 1) + 2 = nI (2 * (s + 1) + 1) := by
  have e2 : (2 : Int32) = nI 2 := rfl
  rw [e2, nI_add]
  congr 1
theorem nI_ltJ {a b : Nat} (ha : a < 2147483648) (hb : b < 2147483648) : nI a < nI b ↔ a < b := by
  rw [fa_lt, nI_toInt ha, nI_toInt hb]
  omega
theorem k_findLots {M : Mem} {m : Nat} {g : Nat → Nat → Int32} (hm : m ≤ 8) (h36 : M.1 36 5 = nI m) (hg : ∀ i j, i < m → j < m → M.1 37 (i * 8 + j) = g i j) (sg : smg g) (ht : ∀ k, k < 2 ^ m → bcN k % 2 = 0 → M.2 38 k = pfN (gL g) k) : ∃ M1, fX3_findLots M = some M1 ∧ (((∀ h, ¬ isL g m h) ∧ M1.1 36 6 = 0) ∨ ∃ h, FL g m h ∧ M1.1 36 6 = 1 ∧ (∀ j, j < 8 → M1.2 39 j = lN (av g h j / gA (av g h) m)) ∧ M1.2 36 4 = lN (fb_sm (fun j => av g h j / gA (av g h) m) m)) ∧ sm [(36, 36, some 4), (36, 36, some 6), (39, 39, none)] M M1 := by
  have p8 := pw8 hm
  have p1 : 1 ≤ 2 ^ m := Nat.one_le_two_pow
  unfold fX3_findLots
  rw [nx_eq]
  generalize hM0 : sI M 36 6 0 = M0
  have s0 : sm [(36, 36, some 6)] M M0 := by rw [← hM0]; exact sm_rf.I (by rfl)
  have o0 := s0.on [(36, 36, some 5), (37, 38, none)] (by decide) (by decide)
  have h360 : M0.1 36 5 = nI m := (o0.i 36 5 rfl).trans h36
  have f0 : M0.1 36 6 = 0 := by rw [← hM0]; exact sI_at ..
  have hg0 : ∀ i j, i < m → j < m → M0.1 37 (i * 8 + j) = g i j := fun i j hi hj => (o0.i 37 _ rfl).trans (hg i j hi hj)
  have ht0 : ∀ k, k < 2 ^ m → bcN k % 2 = 0 → M0.2 38 k = pfN (gL g) k := fun k hk h2 => (o0.l 38 _ rfl).trans (ht k hk h2)
  have hh := for_or (σ := Mem) (fun f i s => fX3_findLots_7 fX3_findLots_50 fX3_findLots_72 f (i + i + 1) s) (fun s => some s) (fun ρ => ∃ h X, FL g m h ∧ ρ = fX3_findLots_50 X ∧ (∀ j, j < 8 → X.2 39 j = lN (av g h j)) ∧ sm [(39, 39, none)] M0 X) 0 ((m + 1) / 2) (by omega)
    (fun s S => sm [(39, 39, none)] M0 S ∧ ∀ k, isL g m k → 2 * s + 1 ≤ bcN k) ?_ ?_ M0 ⟨sm_rf, fun k hk => by have := hk.2.2.1; omega⟩ FU (by have := FU_gt (n := 8) (by omega); omega)
  · have hh' : (∃ h X, FL g m h ∧ fX3_findLots_7 fX3_findLots_50 fX3_findLots_72 FU 1 M0 = fX3_findLots_50 X ∧ (∀ j, j < 8 → X.2 39 j = lN (av g h j)) ∧ sm [(39, 39, none)] M0 X) ∨ ∃ s, fX3_findLots_7 fX3_findLots_50 fX3_findLots_72 FU 1 M0 = some s ∧ sm [(39, 39, none)] M0 s ∧ ∀ k, isL g m k → 2 * ((m + 1) / 2) + 1 ≤ bcN k := hh
    rcases hh' with ⟨h, X, k1, k2, k3, k4⟩ | ⟨X, k1, k2, k3⟩
    · rw [k2]
      unfold fX3_findLots_50
      rw [nx_eq]
      obtain ⟨⟨q1, q2, q3, q4⟩, q5⟩ := id k1
      have h256 : h < 256 := by omega
      have sX : sm [(36, 36, some 6)] X (sI X 36 6 1) := sm_rf.I (by rfl)
      have oX := sX.on [(36, 36, some 5), (39, 39, none)] (by decide) (by decide)
      have ab : ∀ j, j < 8 → av g h j ≤ 1300000000 := fun j hj => av_b sg h256 q3 hj
      have out : ∀ j, m ≤ j → j < 8 → av g h j = 0 := fun j h1 h2 => av_0 ((m_tab4 m hm h q2).1 j h2 h1)
      have gp : 0 < gA (av g h) m := by
        obtain ⟨i, hi, ht'⟩ := fb_ct_pos.mp (show 0 < fb_ct (tb h) 8 by rw [← (m_tab3 h h256).2.2]; omega)
        refine gA_pos (tb_lt hm q2 hi ht') ?_
        unfold av
        rcases q4.1 with u | u
        · have := u i hi ht'; omega
        · have := u i hi ht'; omega
      obtain ⟨M1, r1, r2, r3, r4⟩ := k_reduce (M := sI X 36 6 1) (a := av g h) hm (by rw [oX.i 36 5 rfl, (k4.on [(36, 36, none)] (by decide) (by decide)).i 36 5 rfl]; exact h360) ab (fun j hj => (oX.l 39 j rfl).trans (k3 j hj)) out gp
      rw [r1, Option.bind_some]
      refine ⟨M1, rfl, Or.inr ⟨h, k1, ?_, r2, r3⟩, ((s0.up (by decide)).tr (k4.up (by decide))).tr ((sX.up (by decide)).tr (r4.up (by decide)))⟩
      rw [(r4.on [(36, 36, some 6)] (by decide) (by decide)).i 36 6 rfl]
      exact sI_at ..
    · refine ⟨X, k1, Or.inl ⟨fun h hl => ?_, ?_⟩, (s0.up (by decide)).tr (k2.up (by decide))⟩
      · have := k3 h hl
        have := (m_tab4 m hm h hl.2.1).2
        omega
      · rw [(k2.on [(36, 36, none)] (by decide) (by decide)).i 36 6 rfl]; exact f0
  · rintro f s S - hs ⟨g1, g2⟩
    have o := g1.on [(36, 38, none)] (by decide) (by decide)
    show (fun ρ => ∃ h X, FL g m h ∧ ρ = fX3_findLots_50 X ∧ (∀ j, j < 8 → X.2 39 j = lN (av g h j)) ∧ sm [(39, 39, none)] M0 X) (fX3_findLots_7 fX3_findLots_50 fX3_findLots_72 (f + 1) (nI s + nI s + 1) S) ∨ ∃ s1, fX3_findLots_7 fX3_findLots_50 fX3_findLots_72 (f + 1) (nI s + nI s + 1) S = fX3_findLots_7 fX3_findLots_50 fX3_findLots_72 f (nI (s + 1) + nI (s + 1) + 1) s1 ∧ (sm [(39, 39, none)] M0 s1 ∧ ∀ k, isL g m k → 2 * (s + 1) + 1 ≤ bcN k)
    rw [nI_od, nI_od, fX3_findLots_7, o.i 36 5 rfl, h360, if_neg (show ¬ nI m < nI (2 * s + 1) by rw [nI_ltJ (by omega) (by omega)]; omega)]
    have hh := for_or (σ := Mem) (fun f2 i x => fX3_findLots_17 fX3_findLots_50 (fX3_findLots_66 (fX3_findLots_7 fX3_findLots_50 fX3_findLots_72 f) fX3_findLots_50 fX3_findLots_72) f2 (nI (2 * s + 1)) i x) (fun x => fX3_findLots_7 fX3_findLots_50 fX3_findLots_72 f (nI (2 * (s + 1) + 1)) x) (fun ρ => ∃ h X, FL g m h ∧ ρ = fX3_findLots_50 X ∧ (∀ j, j < 8 → X.2 39 j = lN (av g h j)) ∧ sm [(39, 39, none)] M0 X) 1 (2 ^ m) p1
      (fun h X => sm [(39, 39, none)] M0 X ∧ ∀ k, isL g m k → k < h → bcN k ≠ 2 * s + 1) ?_ ?_ S ⟨g1, fun k hk h1 => by have := hk.1; omega⟩ FU (by have := FU_gt (n := 2 ^ m) (by omega); omega)
    · rcases hh with w | ⟨X, x1, x2, x3⟩
      · exact Or.inl w
      · refine Or.inr ⟨X, x1, x2, fun k hk => ?_⟩
        have := g2 k hk
        have := x3 k hk hk.2.1
        have := hk.2.2.1
        omega
    · rintro f2 h X h1 h2 ⟨x1, x2⟩
      have oX := x1.on [(36, 38, none)] (by decide) (by decide)
      have b8 := (m_tab3 h (by omega)).1
      have next : ∀ Y, sm [(39, 39, none)] M0 Y → (¬ isL g m h ∨ bcN h ≠ 2 * s + 1) → sm [(39, 39, none)] M0 Y ∧ ∀ k, isL g m k → k < h + 1 → bcN k ≠ 2 * s + 1 := by
        intro Y hY w
        refine ⟨hY, fun k hk hlt => ?_⟩
        by_cases e : k = h
        · rw [e] at hk ⊢
          rcases w with w | w
          · exact absurd hk w
          · exact w
        · exact x2 k hk (by omega)
      show (fun ρ => ∃ h X, FL g m h ∧ ρ = fX3_findLots_50 X ∧ (∀ j, j < 8 → X.2 39 j = lN (av g h j)) ∧ sm [(39, 39, none)] M0 X) (fX3_findLots_17 fX3_findLots_50 (fX3_findLots_66 (fX3_findLots_7 fX3_findLots_50 fX3_findLots_72 f) fX3_findLots_50 fX3_findLots_72) (f2 + 1) (nI (2 * s + 1)) (nI h) X) ∨ ∃ s1, fX3_findLots_17 fX3_findLots_50 (fX3_findLots_66 (fX3_findLots_7 fX3_findLots_50 fX3_findLots_72 f) fX3_findLots_50 fX3_findLots_72) (f2 + 1) (nI (2 * s + 1)) (nI h) X = fX3_findLots_17 fX3_findLots_50 (fX3_findLots_66 (fX3_findLots_7 fX3_findLots_50 fX3_findLots_72 f) fX3_findLots_50 fX3_findLots_72) f2 (nI (2 * s + 1)) (nI (h + 1)) s1 ∧ _
      rw [fX3_findLots_17, oX.i 36 5 rfl, h360, shl_m m hm, if_neg (nI_ge h2 (by omega)), bc_eq X (by omega), Option.bind_some]
      unfold fX3_findLots_60
      simp only [nx_eq, nI_s]
      by_cases c : bcN h = 2 * s + 1
      · have ho : bcN h % 2 = 1 := by omega
        rw [if_pos (by rw [c])]
        obtain ⟨r, Y, y1, y2, y3, y4⟩ := k_share (M := X) hm ((oX.i 36 5 rfl).trans h360) sg (fun k hk q => (oX.l 38 _ rfl).trans (ht0 k hk q)) h2 ho
        rw [y1, Option.bind_some]
        have sY := x1.tr y4
        by_cases ud : upS g h ∨ dnS g h
        · have rn : ¬ r = 0 := fun w => (y2.mp w) ud
          have oY := sY.on [(36, 37, none)] (by decide) (by decide)
          show (fun ρ => ∃ h X, FL g m h ∧ ρ = fX3_findLots_50 X ∧ (∀ j, j < 8 → X.2 39 j = lN (av g h j)) ∧ sm [(39, 39, none)] M0 X) (if r = 0 then _ else (fX3_nobodyGains Y).bind _) ∨ ∃ s1, (if r = 0 then _ else (fX3_nobodyGains Y).bind _) = _ ∧ _
          rw [if_neg rn, k_nobody (M := Y) (a := av g h) hm ((oY.i 36 5 rfl).trans h360) (fun i j hi hj => (oY.i 37 _ rfl).trans (hg0 i j hi hj)) sg (fun j hj => av_b sg (by omega) ho hj) (y3 ud), Option.bind_some]
          cases ha : anyG g (av g h) m with
          | false =>
            left
            refine ⟨h, Y, ⟨⟨by omega, h2, ho, ud, ha⟩, fun k hk => ?_⟩, rfl, y3 ud, sY⟩
            have := g2 k hk
            by_cases e : bcN k = 2 * s + 1
            · right
              refine ⟨by omega, ?_⟩
              by_cases q : k < h
              · exact absurd e (x2 k hk q)
              · omega
            · left; omega
          | true =>
            right
            exact ⟨Y, rfl, next Y sY (Or.inl (fun w => by have := w.2.2.2.2; rw [ha] at this; cases this))⟩
        · right
          have rz : r = 0 := y2.mpr ud
          refine ⟨Y, ?_, next Y sY (Or.inl (fun w => ud w.2.2.2.1))⟩
          show (if r = 0 then _ else _) = _
          rw [if_pos rz]
      · right
        have nn : ¬ nI (bcN h) = nI (2 * s + 1) := fun w => c ((nI_eq (by omega) (by omega)).mp w)
        rw [if_neg nn]
        exact ⟨X, rfl, next X x1 (Or.inr c)⟩
    · rintro f2 X ⟨x1, -⟩
      have oX := x1.on [(36, 38, none)] (by decide) (by decide)
      show fX3_findLots_17 _ _ (f2 + 1) _ (nI (2 ^ m)) X = _
      rw [fX3_findLots_17, oX.i 36 5 rfl, h360, shl_m m hm, if_pos (nI_le (Nat.le_refl _) (by omega))]
      unfold fX3_findLots_66
      rw [nx_eq, nI_od2]
  · rintro f S ⟨g1, -⟩
    have o := g1.on [(36, 38, none)] (by decide) (by decide)
    show fX3_findLots_7 _ _ (f + 1) (nI ((m + 1) / 2) + nI ((m + 1) / 2) + 1) S = _
    rw [nI_od, fX3_findLots_7, o.i 36 5 rfl, h360, if_pos (show nI m < nI (2 * ((m + 1) / 2) + 1) by rw [nI_ltJ (by omega) (by omega)]; omega)]
    rfl
/-- the reference's search -/
theorem e_search {M : Mem} {p m : Nat} {g : Nat → Nat → Int32} (hp : p ≤ 20) (h74 : M.1 74 0 = nI p) (em : m = min 8 p) (hg : ∀ i j, i < m → j < m → M.2 (89 + i) j = gL g i j) (sg : smg g) : ∃ c X, fX11_findsLots_47 M = some (c, X) ∧ (((∀ h, ¬ isL g m h) ∧ c = 0) ∨ ∃ h, FL g m h ∧ c = 1 ∧ ∀ j, j < 8 → X.2 97 j = lN (av g h j / gA (av g h) 8)) ∧ sm [(97, 97, none)] M X := by
  have hm : m ≤ 8 := by omega
  have p8 := pw8 hm
  have p1 : 1 ≤ 2 ^ m := Nat.one_le_two_pow
  have hc : ∀ {X : Mem}, sm [(97, 97, none)] M X → fX11_chosen X = some (nI m) := by
    intro X hX
    rw [e_chosen ((hX.on [(74, 74, none)] (by decide) (by decide)).i 74 0 rfl |>.trans h74) hp, em]
  unfold fX11_findsLots_47
  have hh := for_or (σ := Mem) (fun f i s => fX11_findsLots_49 fX11_findsLots_85 fX11_findsLots_99 f (i + i + 1) s) (fun s => some ((0 : Int32), s)) (fun ρ => ∃ h X, FL g m h ∧ ρ = some ((1 : Int32), X) ∧ (∀ j, j < 8 → X.2 97 j = lN (av g h j / gA (av g h) 8)) ∧ sm [(97, 97, none)] M X) 0 ((m + 1) / 2) (by omega)
    (fun s S => sm [(97, 97, none)] M S ∧ ∀ k, isL g m k → 2 * s + 1 ≤ bcN k) ?_ ?_ M ⟨sm_rf, fun k hk => by have := hk.2.2.1; omega⟩ FU (by have := FU_gt (n := 8) (by omega); omega)
  · have hh' : (∃ h X, FL g m h ∧ fX11_findsLots_49 fX11_findsLots_85 fX11_findsLots_99 FU 1 M = some ((1 : Int32), X) ∧ (∀ j, j < 8 → X.2 97 j = lN (av g h j / gA (av g h) 8)) ∧ sm [(97, 97, none)] M X) ∨ ∃ s, fX11_findsLots_49 fX11_findsLots_85 fX11_findsLots_99 FU 1 M = some ((0 : Int32), s) ∧ sm [(97, 97, none)] M s ∧ ∀ k, isL g m k → 2 * ((m + 1) / 2) + 1 ≤ bcN k := hh
    rcases hh' with ⟨h, X, k1, k2, k3, k4⟩ | ⟨X, k1, k2, k3⟩
    · exact ⟨1, X, k2, Or.inr ⟨h, k1, rfl, k3⟩, k4⟩
    · refine ⟨0, X, k1, Or.inl ⟨fun h hl => ?_, rfl⟩, k2⟩
      have := k3 h hl
      have := (m_tab4 m hm h hl.2.1).2
      omega
  · rintro f s S - hs ⟨g1, g2⟩
    show (fun ρ => ∃ h X, FL g m h ∧ ρ = some ((1 : Int32), X) ∧ (∀ j, j < 8 → X.2 97 j = lN (av g h j / gA (av g h) 8)) ∧ sm [(97, 97, none)] M X) (fX11_findsLots_49 fX11_findsLots_85 fX11_findsLots_99 (f + 1) (nI s + nI s + 1) S) ∨ ∃ s1, fX11_findsLots_49 fX11_findsLots_85 fX11_findsLots_99 (f + 1) (nI s + nI s + 1) S = fX11_findsLots_49 fX11_findsLots_85 fX11_findsLots_99 f (nI (s + 1) + nI (s + 1) + 1) s1 ∧ (sm [(97, 97, none)] M s1 ∧ ∀ k, isL g m k → 2 * (s + 1) + 1 ≤ bcN k)
    rw [nI_od, nI_od, fX11_findsLots_49, hc g1, Option.bind_some, if_neg (show ¬ nI m < nI (2 * s + 1) by rw [nI_ltJ (by omega) (by omega)]; omega)]
    have hh := for_or (σ := Mem) (fun f2 i x => fX11_findsLots_59 fX11_findsLots_85 (fX11_findsLots_93 (fX11_findsLots_49 fX11_findsLots_85 fX11_findsLots_99 f) fX11_findsLots_85 fX11_findsLots_99) f2 (nI (2 * s + 1)) i x) (fun x => fX11_findsLots_49 fX11_findsLots_85 fX11_findsLots_99 f (nI (2 * (s + 1) + 1)) x) (fun ρ => ∃ h X, FL g m h ∧ ρ = some ((1 : Int32), X) ∧ (∀ j, j < 8 → X.2 97 j = lN (av g h j / gA (av g h) 8)) ∧ sm [(97, 97, none)] M X) 1 (2 ^ m) p1
      (fun h X => sm [(97, 97, none)] M X ∧ ∀ k, isL g m k → k < h → bcN k ≠ 2 * s + 1) ?_ ?_ S ⟨g1, fun k hk h1 => by have := hk.1; omega⟩ FU (by have := FU_gt (n := 2 ^ m) (by omega); omega)
    · rcases hh with w | ⟨X, x1, x2, x3⟩
      · exact Or.inl w
      · refine Or.inr ⟨X, x1, x2, fun k hk => ?_⟩
        have := g2 k hk
        have := x3 k hk hk.2.1
        have := hk.2.2.1
        omega
    · rintro f2 h X h1 h2 ⟨x1, x2⟩
      have b8 := (m_tab3 h (by omega)).1
      have next : ∀ Y, sm [(97, 97, none)] M Y → (¬ isL g m h ∨ bcN h ≠ 2 * s + 1) → sm [(97, 97, none)] M Y ∧ ∀ k, isL g m k → k < h + 1 → bcN k ≠ 2 * s + 1 := by
        intro Y hY w
        refine ⟨hY, fun k hk hlt => ?_⟩
        by_cases e : k = h
        · rw [e] at hk ⊢
          rcases w with w | w
          · exact absurd hk w
          · exact w
        · exact x2 k hk (by omega)
      show (fun ρ => ∃ h X, FL g m h ∧ ρ = some ((1 : Int32), X) ∧ (∀ j, j < 8 → X.2 97 j = lN (av g h j / gA (av g h) 8)) ∧ sm [(97, 97, none)] M X) (fX11_findsLots_59 fX11_findsLots_85 (fX11_findsLots_93 (fX11_findsLots_49 fX11_findsLots_85 fX11_findsLots_99 f) fX11_findsLots_85 fX11_findsLots_99) (f2 + 1) (nI (2 * s + 1)) (nI h) X) ∨ ∃ s1, fX11_findsLots_59 fX11_findsLots_85 (fX11_findsLots_93 (fX11_findsLots_49 fX11_findsLots_85 fX11_findsLots_99 f) fX11_findsLots_85 fX11_findsLots_99) (f2 + 1) (nI (2 * s + 1)) (nI h) X = fX11_findsLots_59 fX11_findsLots_85 (fX11_findsLots_93 (fX11_findsLots_49 fX11_findsLots_85 fX11_findsLots_99 f) fX11_findsLots_85 fX11_findsLots_99) f2 (nI (2 * s + 1)) (nI (h + 1)) s1 ∧ _
      rw [fX11_findsLots_59, hc x1, Option.bind_some, shl_m m hm, if_neg (nI_ge h2 (by omega)), bc_eq X (by omega), Option.bind_some]
      unfold fX11_findsLots_87
      simp only [nx_eq, nI_s]
      by_cases c : bcN h = 2 * s + 1
      · have ho : bcN h % 2 = 1 := by omega
        rw [if_pos (by rw [c])]
        have hgX : ∀ i j, i < m → j < m → X.2 (89 + i) j = gL g i j := by
          intro i j hi hj
          rw [(x1.on [(89, 96, none)] (by decide) (by decide)).l (89 + i) j (in89 (by omega) j)]
          exact hg i j hi hj
        obtain ⟨r, Y, y1, y2, y3, y4⟩ := e_isLot (M := X) hp ((x1.on [(74, 74, none)] (by decide) (by decide)).i 74 0 rfl |>.trans h74) em hgX sg h2 ho
        rw [y1, Option.bind_some]
        have sY := x1.tr y4
        by_cases lt : lotS g m h
        · left
          have rn : ¬ r = 0 := fun w => (y2.mp w) lt
          refine ⟨h, Y, ⟨⟨by omega, h2, ho, lt⟩, fun k hk => ?_⟩, ?_, y3 lt, sY⟩
          · have := g2 k hk
            by_cases e : bcN k = 2 * s + 1
            · right
              refine ⟨by omega, ?_⟩
              by_cases q : k < h
              · exact absurd e (x2 k hk q)
              · omega
            · left; omega
          · show (if r = 0 then _ else fX11_findsLots_85 Y) = _
            rw [if_neg rn]
            rfl
        · right
          have rz : r = 0 := y2.mpr lt
          refine ⟨Y, ?_, next Y sY (Or.inl (fun w => lt w.2.2.2))⟩
          show (if r = 0 then _ else _) = _
          rw [if_pos rz]
      · right
        have nn : ¬ nI (bcN h) = nI (2 * s + 1) := fun w => c ((nI_eq (by omega) (by omega)).mp w)
        rw [if_neg nn]
        exact ⟨X, rfl, next X x1 (Or.inr c)⟩
    · rintro f2 X ⟨x1, -⟩
      show fX11_findsLots_59 _ _ (f2 + 1) _ (nI (2 ^ m)) X = _
      rw [fX11_findsLots_59, hc x1, Option.bind_some, shl_m m hm, if_pos (nI_le (Nat.le_refl _) (by omega))]
      unfold fX11_findsLots_93
      rw [nx_eq, nI_od2]
  · rintro f S ⟨g1, -⟩
    show fX11_findsLots_49 _ _ (f + 1) (nI ((m + 1) / 2) + nI ((m + 1) / 2) + 1) S = _
    rw [nI_od, fX11_findsLots_49, hc g1, Option.bind_some, if_pos (show nI m < nI (2 * ((m + 1) / 2) + 1) by rw [nI_ltJ (by omega) (by omega)]; omega)]
    rfl
