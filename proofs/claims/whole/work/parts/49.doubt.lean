/-! doubt -/
theorem TL_su {f : Nat → Nat → Nat} {a0 a1 b0 b1 : Nat} {r : Int32} (h : TL f a0 a1 b0 b1 r) (hne : wn a0 a1 b0 b1 a0 b0) : (r = 1 ↔ su f a0 a1 b0 b1 = 1) ∧ (r = 2 ↔ su f a0 a1 b0 b1 = -1) ∧ (r = 4 ↔ su f a0 a1 b0 b1 = 2) := by
  obtain ⟨h1, h2, h4⟩ := h
  have ex : ∀ c d, al f a0 a1 b0 b1 c → al f a0 a1 b0 b1 d → c = d := fun c d p q => by rw [← p _ _ hne, q _ _ hne]
  rw [h1, h2, h4]
  unfold su
  by_cases c1 : al f a0 a1 b0 b1 1
  · have n2 : ¬ al f a0 a1 b0 b1 2 := fun q => absurd (ex _ _ c1 q) (by decide)
    have n4 : ¬ al f a0 a1 b0 b1 4 := fun q => absurd (ex _ _ c1 q) (by decide)
    rw [if_pos ((dc_iff _).mpr c1)]
    refine ⟨⟨fun _ => rfl, fun _ => c1⟩, ⟨fun q => absurd q n2, fun q => absurd q (by decide)⟩, ⟨fun q => absurd q n4, fun q => absurd q (by decide)⟩⟩
  · rw [if_neg (fun q => c1 ((dc_iff _).mp q))]
    by_cases c2 : al f a0 a1 b0 b1 2
    · have n4 : ¬ al f a0 a1 b0 b1 4 := fun q => absurd (ex _ _ c2 q) (by decide)
      rw [if_pos ((dc_iff _).mpr c2)]
      refine ⟨⟨fun q => absurd q c1, fun q => absurd q (by decide)⟩, ⟨fun _ => rfl, fun _ => c2⟩, ⟨fun q => absurd q n4, fun q => absurd q (by decide)⟩⟩
    · rw [if_neg (fun q => c2 ((dc_iff _).mp q))]
      by_cases c4 : al f a0 a1 b0 b1 4
      · rw [if_pos ((dc_iff _).mpr c4)]
        refine ⟨⟨fun q => absurd q c1, fun q => absurd q (by decide)⟩, ⟨fun q => absurd q c2, fun q => absurd q (by decide)⟩, ⟨fun _ => rfl, fun _ => c4⟩⟩
      · rw [if_neg (fun q => c4 ((dc_iff _).mp q))]
        refine ⟨⟨fun q => absurd q c1, fun q => absurd q (by decide)⟩, ⟨fun q => absurd q c2, fun q => absurd q (by decide)⟩, ⟨fun q => absurd q c4, fun q => absurd q (by decide)⟩⟩
theorem su_c (f : Nat → Nat → Nat) (a0 a1 b0 b1 : Nat) : su f a0 a1 b0 b1 = 1 ∨ su f a0 a1 b0 b1 = -1 ∨ su f a0 a1 b0 b1 = 2 ∨ su f a0 a1 b0 b1 = 0 := by
  unfold su
  split
  · exact Or.inl rfl
  · split
    · exact Or.inr (Or.inl rfl)
    · split
      · exact Or.inr (Or.inr (Or.inl rfl))
      · exact Or.inr (Or.inr (Or.inr rfl))
noncomputable def sv (M : Mem) (P q E v : Nat) : Int32 := su (sg (cD M) v (M.1 8 P) (M.1 9 P) (M.1 8 q) (M.1 9 q)) (ix (M.1 2 v) - E) (min (ix (M.1 2 v) + E) 99) (ix (M.1 3 v) - E) (min (ix (M.1 3 v) + E) 99)
noncomputable def sw (M : Mem) (P q E : Nat) (c : Int32) (m : Nat) : Int32 := fd (fun v acc => acc + if sv M P q E v = c then M.1 4 v else 0) 0 m
theorem sv_on {M M1 : Mem} (h : on [(1, 9, none)] M M1) (P q E v : Nat) : sv M1 P q E v = sv M P q E v := by
  unfold sv
  rw [cD_on (h.sub (by decide)), h.i 8 P rfl, h.i 9 P rfl, h.i 8 q rfl, h.i 9 q rfl, h.i 2 v rfl, h.i 3 v rfl]
theorem sw_s (M : Mem) (P q E : Nat) (c : Int32) (m : Nat) : sw M P q E c (m + 1) = sw M P q E c m + if sv M P q E m = c then M.1 4 m else 0 := rfl
theorem i4 (a b c d w : Int32) : a + b + c + d + w = (a + w) + b + c + d ∧ a + b + c + d + w = a + (b + w) + c + d ∧ a + b + c + d + w = a + b + (c + w) + d ∧ a + b + c + d + w = a + b + c + (d + w) := by
  refine ⟨by ac_rfl, by ac_rfl, by ac_rfl, by ac_rfl⟩
theorem sw_tot (M : Mem) (P q E : Nat) : ∀ m, fd (fun v (acc : Int32) => acc + M.1 4 v) 0 m = sw M P q E 1 m + sw M P q E (-1) m + sw M P q E 2 m + sw M P q E 0 m
  | 0 => rfl
  | m + 1 => by
    show fd _ 0 m + M.1 4 m = _
    rw [sw_tot M P q E m, sw_s, sw_s, sw_s, sw_s]
    obtain ⟨k1, k2, k3, k4⟩ := i4 (sw M P q E 1 m) (sw M P q E (-1) m) (sw M P q E 2 m) (sw M P q E 0 m) (M.1 4 m)
    rcases su_c (sg (cD M) m (M.1 8 P) (M.1 9 P) (M.1 8 q) (M.1 9 q)) (ix (M.1 2 m) - E) (min (ix (M.1 2 m) + E) 99) (ix (M.1 3 m) - E) (min (ix (M.1 3 m) + E) 99) with h | h | h | h
    · have h : sv M P q E m = 1 := h
      rw [h, if_pos rfl, if_neg (by decide), if_neg (by decide), if_neg (by decide), Int32.add_zero, Int32.add_zero, Int32.add_zero]; exact k1
    · have h : sv M P q E m = -1 := h
      rw [h, if_neg (by decide), if_pos rfl, if_neg (by decide), if_neg (by decide), Int32.add_zero, Int32.add_zero, Int32.add_zero]; exact k2
    · have h : sv M P q E m = 2 := h
      rw [h, if_neg (by decide), if_neg (by decide), if_pos rfl, if_neg (by decide), Int32.add_zero, Int32.add_zero, Int32.add_zero]; exact k3
    · have h : sv M P q E m = 0 := h
      rw [h, if_neg (by decide), if_neg (by decide), if_neg (by decide), if_pos rfl, Int32.add_zero, Int32.add_zero, Int32.add_zero]; exact k4
theorem DI.at {M : Mem} {n p v : Nat} (h : DI M n p) (hv : v < n) : ∃ X Y, X < 100 ∧ Y < 100 ∧ M.1 2 v = nI X ∧ M.1 3 v = nI Y ∧ ix (M.1 2 v) = X ∧ ix (M.1 3 v) = Y := by
  obtain ⟨h1, h2, -⟩ := h.2.2.1 v hv
  obtain ⟨X, hX, e1⟩ := inN_of h1 (by decide)
  obtain ⟨Y, hY, e2⟩ := inN_of h2 (by decide)
  exact ⟨X, Y, hX, hY, e1, e2, by rw [e1]; exact ix_nI (by omega), by rw [e2]; exact ix_nI (by omega)⟩
theorem k_st {M : Mem} {n p P q E v : Nat} (h : DI M n p) (hP : P < p) (hq : q < p) (hE : E ≤ 5) (hv : v < n) : ∃ r, fX9_stancesOf M (nI v) (nI P) (nI q) (nI E) = some r ∧ (r = 1 ↔ sv M P q E v = 1) ∧ (r = 2 ↔ sv M P q E v = -1) ∧ (r = 4 ↔ sv M P q E v = 2) := by
  have hn := h.n15
  have hp := h.p20
  obtain ⟨X, Y, hX, hY, e1, e2, e3, e4⟩ := h.at hv
  obtain ⟨r, h1, h2⟩ := k_stances (M := M) (v := v) (p := P) (q := q) (E := E) (by omega) (by omega) (by omega) e1 e2 hX hY hE
  refine ⟨r, h1, ?_⟩
  unfold sv
  rw [e3, e4]
  exact TL_su h2 (by unfold wn; omega)
theorem e_st {M : Mem} {n p P q E v : Nat} (h : DI M n p) (hP : P < p) (hq : q < p) (hE : E ≤ 5) (hv : v < n) : fX11_sure M (nI v) (nI P) (nI q) (nI E) = some (sv M P q E v) := by
  have hn := h.n15
  have hp := h.p20
  obtain ⟨X, Y, hX, hY, e1, e2, e3, e4⟩ := h.at hv
  have hok := h.okS hv
  obtain ⟨-, -, hv', hq', hD, hPl, -, -⟩ := id h
  have hvD : v < (cD M).1 := by rw [h.cn]; exact hv
  obtain ⟨d1, d2, d3, d4, d5, d6⟩ := hD.2 v hvD
  have d1 : M.1 2 v = M.1 50 v := d1
  have d2 : M.1 3 v = M.1 53 v := d2
  have hS : okS (rD M) v := by unfold okS at hok ⊢; rw [← d5, ← d6]; exact hok
  rw [e_sure (M := M) (v := v) (p := P) (q := q) (E := E) (X := X) (Y := Y) (by omega) (by omega) (by omega) (by rw [← d1]; exact e1) (by rw [← d2]; exact e2) hX hY hE hS (by rw [(hPl P hP).1]; exact (hq' P hP).1) (by rw [(hPl P hP).2]; exact (hq' P hP).2) (by rw [(hPl q hq).1]; exact (hq' q hq).1) (by rw [(hPl q hq).2]; exact (hq' q hq).2)]
  unfold sv
  rw [e3, e4, (hPl P hP).1, (hPl P hP).2, (hPl q hq).1, (hPl q hq).2]
  congr 2
  funext a b
  unfold sg
  rw [hD.wayF hvD, hD.wayF hvD]
theorem k_ver38 {M : Mem} {n p P q E : Nat} (h : DI M n p) (hP : P < p) (hq : q < p) (hE : E ≤ 5) (x3 : Int32) (K : Int32 → Int32 → Int32 → Int32 → Int32 → Int32 → Int32 → Option Int32) :
    fX9_verdict_38 M K FU (nI P) (nI E) x3 (nI q) 0 0 0 0 = K (nI P) (nI E) x3 (nI q) (sw M P q E 1 n) (sw M P q E (-1) n) (sw M P q E 2 n) := by
  have hn := h.n15
  have hh := for_ex (σ := Int32 × Int32 × Int32) (fun f v s => fX9_verdict_38 M K f (nI P) (nI E) x3 (nI q) s.1 s.2.1 s.2.2 v) (fun s => K (nI P) (nI E) x3 (nI q) s.1 s.2.1 s.2.2) n
    (fun v s => s = (sw M P q E 1 v, sw M P q E (-1) v, sw M P q E 2 v)) ?_ ?_ (0, 0, 0) rfl FU (FU_gt (by omega))
  · obtain ⟨s, h1, h2⟩ := hh
    rw [h2] at h1
    exact h1
  · rintro f v s hv rfl
    refine ⟨_, ?_, rfl⟩
    show fX9_verdict_38 M K (f + 1) (nI P) (nI E) x3 (nI q) (sw M P q E 1 v) (sw M P q E (-1) v) (sw M P q E 2 v) (nI v) = _
    obtain ⟨r, r1, r2, r3, r4⟩ := k_st h hP hq hE hv
    have hv15 := inb_nI (show v < 15 by omega) (by decide)
    rw [fX9_verdict_38, h.2.1.1, if_neg (nI_ge hv (by omega)), r1, Option.bind_some]
    unfold fX9_verdict_84 fX9_verdict_109 fX9_verdict_134
    simp only [hv15, if_true, ix_nI (show v < 2147483648 by omega), nx_eq, nI_s, sw_s]
    simp only [← r2, ← r3, ← r4]
    by_cases c1 : r = 1 <;> by_cases c2 : r = 2 <;> by_cases c4 : r = 4 <;> simp [c1, c2, c4]
  · rintro f s rfl
    show fX9_verdict_38 M K (f + 1) (nI P) (nI E) x3 (nI q) _ _ _ (nI n) = _
    rw [fX9_verdict_38, h.2.1.1, if_pos (nI_le (Nat.le_refl _) (by omega))]
def rgQ : Rg := [(47, 47, some 44), (47, 47, some 45), (47, 47, some 46)]
theorem e_asks {M : Mem} {n p P q E : Nat} (h : DI M n p) (hP : P < p) (hq : q < p) (hE : E ≤ 5) : ∃ M1, fX11_asks (nI P) (nI q) (nI E) M = some M1 ∧ M1.1 47 44 = sw M P q E 0 n ∧ M1.1 47 45 = sw M P q E 1 n ∧ M1.1 47 46 = sw M P q E (-1) n ∧ sm rgQ M M1 := by
  have hn := h.n15
  unfold fX11_asks
  simp only [nx_eq]
  have hh := for_ex (σ := Mem) (fun f v s => fX11_asks_18 fX11_asks_127 f (nI P) (nI q) (nI E) v s) (fun s => some s) n
    (fun v s => s.1 47 44 = sw M P q E 0 v ∧ s.1 47 45 = sw M P q E 1 v ∧ s.1 47 46 = sw M P q E (-1) v ∧ sm rgQ M s) ?_ ?_ (sI (sI (sI M 47 44 0) 47 45 0) 47 46 0) ⟨?_, ?_, ?_, ((sm_rf.I (by rfl)).I (by rfl)).I (by rfl)⟩ FU (FU_gt (by omega))
  · obtain ⟨M1, h1, h2⟩ := hh
    exact ⟨M1, h1, h2⟩
  · intro f v s hv ⟨g1, g2, g3, g4⟩
    have o := g4.on [(1, 9, none), (50, 50, none), (53, 53, none), (56, 56, none), (59, 59, none), (62, 62, none), (65, 65, none), (68, 68, none), (71, 71, none), (73, 77, some 0), (75, 77, none)] (by decide) (by decide)
    have ds : DI s n p := DI_on o h
    have es : sv s P q E v = sv M P q E v := sv_on (o.sub (by decide)) ..
    have hv15 := inb_nI (show v < 15 by omega) (by decide)
    have w56 : s.1 56 v = M.1 4 v := by
      rw [o.i 56 v rfl]
      exact (h.2.2.2.2.1.2 v (by rw [h.cn]; exact hv)).2.2.1.symm
    refine ⟨sI (sI (sI s 47 44 (sw M P q E 0 (v + 1))) 47 45 (sw M P q E 1 (v + 1))) 47 46 (sw M P q E (-1) (v + 1)), ?_, ?_, ?_, ?_, ((g4.I (by rfl)).I (by rfl)).I (by rfl)⟩
    · show fX11_asks_18 fX11_asks_127 (f + 1) (nI P) (nI q) (nI E) (nI v) s = _
      rw [fX11_asks_18, e_voters, Option.bind_some, ds.2.1.2.2.1, if_neg (nI_ge hv (by omega)), e_st ds hP hq hE hv, Option.bind_some, es]
      unfold fX11_asks_61 fX11_asks_89 fX11_asks_117
      have a1 : ∀ (S : Mem) z, (sI S 47 44 z).1 47 45 = S.1 47 45 := fun S z => sI_nj _ _ (by decide)
      have a2 : ∀ (S : Mem) z, (sI S 47 44 z).1 47 46 = S.1 47 46 := fun S z => sI_nj _ _ (by decide)
      have a3 : ∀ (S : Mem) z, (sI S 47 45 z).1 47 46 = S.1 47 46 := fun S z => sI_nj _ _ (by decide)
      have a4 : ∀ (S : Mem) z j, (sI S 47 j z).1 56 v = S.1 56 v := fun S z j => sI_nk _ _ (by decide)
      simp only [hv15, if_true, ix_nI (show v < 2147483648 by omega), nx_eq, nI_s, a1, a2, a3, a4, w56, g1, g2, g3, sw_s]
      by_cases c0 : sv M P q E v = 0
      · have n1 : ¬ (0 : Int32) = 1 := by decide
        have n2 : ¬ (0 : Int32) = -1 := by decide
        simp only [c0, n1, n2, if_true, if_false]
      · by_cases c1 : sv M P q E v = 1
        · have n0 : ¬ (1 : Int32) = 0 := by decide
          have n2 : ¬ (1 : Int32) = -1 := by decide
          simp only [c1, n0, n2, if_true, if_false]
        · by_cases c2 : sv M P q E v = -1
          · have n0 : ¬ (-1 : Int32) = 0 := by decide
            have n2 : ¬ (-1 : Int32) = 1 := by decide
            simp only [c2, n0, n2, if_true, if_false]
          · simp only [c0, c1, c2, if_false]
    · rw [sI_nj _ _ (by decide), sI_nj _ _ (by decide), sI_at]
    · rw [sI_nj _ _ (by decide), sI_at]
    · rw [sI_at]
  · intro f s ⟨g1, g2, g3, g4⟩
    have o := g4.on [(73, 73, some 0)] (by decide) (by decide)
    show fX11_asks_18 fX11_asks_127 (f + 1) (nI P) (nI q) (nI E) (nI n) s = _
    rw [fX11_asks_18, e_voters, Option.bind_some, o.i 73 0 rfl, h.2.1.2.2.1, if_pos (nI_le (Nat.le_refl _) (by omega))]
    rfl
  · rw [sI_nj _ _ (by decide), sI_nj _ _ (by decide), sI_at]; rfl
  · rw [sI_nj _ _ (by decide), sI_at]; rfl
  · rw [sI_at]; rfl
noncomputable def v0 (M : Mem) (n P E q : Nat) : Bool := decide (q ≠ P) && wonD (cB M) (totD (cD M)) (sw M P q E (-1) n) (sw M P q E 1 n + sw M P q E 0 n)
noncomputable def v1 (M : Mem) (n P E q : Nat) : Bool := decide (q ≠ P) && wonD (cB M) (totD (cD M)) (sw M P q E (-1) n + sw M P q E 0 n) (sw M P q E 1 n)
theorem i_sub (a b c d : Int32) : a + b + c + d - c - b = a + d ∧ a + b + c + d - c - a = b + d := by
  constructor
  · rw [show a + b + c + d = a + d + b + c by ac_rfl, Int32.add_sub_cancel, Int32.add_sub_cancel]
  · rw [show a + b + c + d = b + d + a + c by ac_rfl, Int32.add_sub_cancel, Int32.add_sub_cancel]
theorem k_verdict {M : Mem} {n p P E : Nat} (h : DI M n p) (hP : P < p) (hE : E ≤ 5) : fX9_verdict M (nI P) (nI E) = some (if anyN (v0 M n P E) p = true then 0 else if anyN (v1 M n P E) p = true then 1 else 2) := by
  have hp := h.p20
  unfold fX9_verdict
  have hh := for_or (σ := Int32) (fun f q s => fX9_verdict_5 M (fX9_verdict_172 M) (fX9_verdict_199 M) f (nI P) (nI E) s q) (fun s => some s) (fun ρ => ρ = some 0 ∧ anyN (v0 M n P E) p = true) 0 p (by omega)
    (fun i s => (∀ j, j < i → v0 M n P E j = false) ∧ s = if anyN (v1 M n P E) i = true then 1 else 2) ?_ ?_ 2 ⟨fun j hj => absurd hj (by omega), rfl⟩ FU (by have := FU_gt (n := p) (by omega); omega)
  · rcases hh with ⟨h1, h2⟩ | ⟨s, h1, h2, h3⟩
    · rw [if_pos h2]; exact h1
    · have : anyN (v0 M n P E) p = false := by rw [anyN_ct, fb_ct_zero]; exact h2
      rw [this, if_neg (by decide), ← h3]; exact h1
  · rintro f q s - hq ⟨g1, g2⟩
    have hun : fX9_verdict_5 M (fX9_verdict_172 M) (fX9_verdict_199 M) (f + 1) (nI P) (nI E) s (nI q) = if v0 M n P E q = true then some 0 else fX9_verdict_5 M (fX9_verdict_172 M) (fX9_verdict_199 M) f (nI P) (nI E) (if v1 M n P E q = true then 1 else s) (nI (q + 1)) := by
      rw [fX9_verdict_5, h.2.1.2.1, if_neg (nI_ge hq (by omega))]
      by_cases e : q = P
      · subst e
        have e0 : v0 M n q E q = false := by simp [v0]
        have e1 : v1 M n q E q = false := by simp [v1]
        rw [if_pos rfl, e0, e1]
        unfold fX9_verdict_193
        simp [nx_eq, nI_s]
      · have hne : ¬ nI q = nI P := nI_ne e (by omega) (by omega)
        rw [if_neg hne, k_ver38 h hP hq hE]
        unfold fX9_verdict_143 fX9_verdict_193 fX9_verdict_172
        have hB := h.2.2.2.2.2.2.1.2.1
        have hT : M.1 1 7 = sw M P q E 1 n + sw M P q E (-1) n + sw M P q E 2 n + sw M P q E 0 n := by
          rw [h.2.2.2.2.2.2.2, ← sw_tot]
          unfold totD
          rw [h.cn]
          rfl
        obtain ⟨k1, k2⟩ := i_sub (sw M P q E 1 n) (sw M P q E (-1) n) (sw M P q E 2 n) (sw M P q E 0 n)
        simp only [nx_eq, k_isEnough M hB, Option.bind_some, nI_s]
        rw [hT, k1, k2, ← hT, h.2.2.2.2.2.2.2]
        have e0 : v0 M n P E q = wonD (cB M) (totD (cD M)) (sw M P q E (-1) n) (sw M P q E 1 n + sw M P q E 0 n) := by simp [v0, e]
        have e1 : v1 M n P E q = wonD (cB M) (totD (cD M)) (sw M P q E (-1) n + sw M P q E 0 n) (sw M P q E 1 n) := by simp [v1, e]
        rw [← e0, ← e1]
        cases v0 M n P E q <;> cases v1 M n P E q <;> simp [bI]
    cases c0 : v0 M n P E q with
    | true =>
      left
      refine ⟨?_, anyN_iff.mpr ⟨q, hq, c0⟩⟩
      refine Eq.trans hun ?_
      rw [c0, if_pos rfl]
    | false =>
      right
      refine ⟨if v1 M n P E q = true then 1 else s, ?_, fun j hj => ?_, ?_⟩
      · refine Eq.trans hun ?_
        rw [c0, if_neg (by decide)]
      · by_cases e : j = q
        · rw [e]; exact c0
        · exact g1 j (by omega)
      · rw [anyN_s, g2]
        cases v1 M n P E q <;> simp
  · rintro f s ⟨g1, g2⟩
    show fX9_verdict_5 M (fX9_verdict_172 M) (fX9_verdict_199 M) (f + 1) (nI P) (nI E) s (nI p) = _
    rw [fX9_verdict_5, h.2.1.2.1, if_pos (nI_le (Nat.le_refl _) (by omega))]
    rfl
theorem e_doubt27 {M : Mem} {n p P E : Nat} (h : DI M n p) (hP : P < p) (hE : E ≤ 5) : ∃ M1, fX11_doubt_27 fX11_doubt_73 fX11_doubt_111 FU (nI P) (nI E) 0 0 M = some (if anyN (v0 M n P E) p = true then 0 else if anyN (v1 M n P E) p = true then 1 else 2, M1) := by
  have hp := h.p20
  have hn := h.n15
  have hh := for_or (σ := Int32 × Mem) (fun f q s => fX11_doubt_27 fX11_doubt_73 fX11_doubt_111 f (nI P) (nI E) s.1 q s.2) (fun s => fX11_doubt_111 s.1 s.2) (fun ρ => (∃ M1, ρ = some (0, M1)) ∧ anyN (v0 M n P E) p = true) 0 p (by omega)
    (fun i s => (∀ j, j < i → v0 M n P E j = false) ∧ s.1 = bI (anyN (v1 M n P E) i) ∧ sm rgQ M s.2) ?_ ?_ (0, M) ⟨fun j hj => absurd hj (by omega), rfl, sm_rf⟩ FU (by have := FU_gt (n := p) (by omega); omega)
  · rcases hh with ⟨⟨M1, h1⟩, h2⟩ | ⟨⟨x, s⟩, h1, h2, h3, h4⟩
    · refine ⟨M1, ?_⟩
      rw [if_pos h2]; exact h1
    · have e0 : anyN (v0 M n P E) p = false := by rw [anyN_ct, fb_ct_zero]; exact h2
      refine ⟨s, ?_⟩
      rw [e0, if_neg (by decide)]
      refine Eq.trans h1 ?_
      have h3 : x = _ := h3
      show fX11_doubt_111 x s = _
      rw [h3]
      unfold fX11_doubt_111 fX11_doubt_120
      cases anyN (v1 M n P E) p <;> rfl
  · rintro f q ⟨x, s⟩ - hq ⟨g1, g2, g3⟩
    have g2 : x = _ := g2
    have g3 : sm rgQ M s := g3
    have rgs : on [(1, 9, none), (50, 50, none), (53, 53, none), (56, 56, none), (59, 59, none), (62, 62, none), (65, 65, none), (68, 68, none), (71, 71, none), (73, 77, some 0), (75, 77, none)] M s := g3.on _ (by decide) (by decide)
    have ds : DI s n p := DI_on rgs h
    have sws : ∀ c, sw s P q E c n = sw M P q E c n := by
      intro c
      unfold sw
      apply fd_congr
      intro v _ a
      rw [sv_on (rgs.sub (by decide)), rgs.i 4 v rfl]
    by_cases e : q = P
    · right
      subst e
      have e0 : v0 M n q E q = false := by simp [v0]
      have e1 : v1 M n q E q = false := by simp [v1]
      refine ⟨(x, s), ?_, fun j hj => ?_, ?_, g3⟩
      · show fX11_doubt_27 fX11_doubt_73 fX11_doubt_111 (f + 1) (nI q) (nI E) x (nI q) s = _
        rw [fX11_doubt_27, e_places, Option.bind_some, ds.2.1.2.2.2, if_neg (nI_ge hq (by omega)), if_pos rfl]
        unfold fX11_doubt_105
        simp only [nx_eq, nI_s]
      · by_cases e : j = q
        · rw [e]; exact e0
        · exact g1 j (by omega)
      · show x = _
        rw [anyN_s, e1, Bool.or_false]; exact g2
    · have hne : ¬ nI q = nI P := nI_ne e (by omega) (by omega)
      obtain ⟨M4, a1, a2, a3, a4, a5⟩ := e_asks ds hP hq hE
      rw [sws] at a2 a3 a4
      have s4 : sm rgQ M M4 := g3.tr a5
      have o4 : on [(1, 9, none), (50, 50, none), (53, 53, none), (56, 56, none), (59, 59, none), (62, 62, none), (65, 65, none), (68, 68, none), (71, 71, none), (73, 77, some 0), (75, 77, none)] M M4 := s4.on _ (by decide) (by decide)
      have d4 : DI M4 n p := DI_on o4 h
      have ew : ∀ y z, fX11_isWon M4 y z = some (bI (wonD (cB M) (totD (cD M)) y z)) := by
        intro y z
        rw [e_isWon M4 d4.2.1.2.2.1 hn, ← d4.2.2.2.2.2.2.1.1.won, ← d4.2.2.2.2.1.tot, cB_on (o4.sub (by decide)), cD_on (o4.sub (by decide))]
      have e0 : v0 M n P E q = wonD (cB M) (totD (cD M)) (sw M P q E (-1) n) (sw M P q E 1 n + sw M P q E 0 n) := by simp [v0, e]
      have e1 : v1 M n P E q = wonD (cB M) (totD (cD M)) (sw M P q E (-1) n + sw M P q E 0 n) (sw M P q E 1 n) := by simp [v1, e]
      have hun : fX11_doubt_27 fX11_doubt_73 fX11_doubt_111 (f + 1) (nI P) (nI E) x (nI q) s = if v0 M n P E q = true then some (0, M4) else fX11_doubt_27 fX11_doubt_73 fX11_doubt_111 f (nI P) (nI E) (bI (anyN (v1 M n P E) (q + 1))) (nI (q + 1)) M4 := by
        rw [fX11_doubt_27, e_places, Option.bind_some, ds.2.1.2.2.2, if_neg (nI_ge hq (by omega)), if_neg hne, a1, Option.bind_some, a2, a3, a4, ew, ew, ← e0, ← e1, g2, anyN_s]
        unfold fX11_doubt_73 fX11_doubt_104 fX11_doubt_99 fX11_doubt_105 fX11_doubt_104 fX11_doubt_105
        simp only [Option.bind_some, nx_eq, nI_s]
        cases v0 M n P E q <;> cases v1 M n P E q <;> cases anyN (v1 M n P E) q <;> simp [bI]
      cases c0 : v0 M n P E q with
      | true =>
        left
        refine ⟨⟨M4, ?_⟩, anyN_iff.mpr ⟨q, hq, c0⟩⟩
        refine Eq.trans hun ?_
        rw [c0, if_pos rfl]
      | false =>
        right
        refine ⟨(bI (anyN (v1 M n P E) (q + 1)), M4), ?_, fun j hj => ?_, rfl, s4⟩
        · refine Eq.trans hun ?_
          rw [c0, if_neg (by decide)]
        · by_cases e : j = q
          · rw [e]; exact c0
          · exact g1 j (by omega)
  · rintro f ⟨x, s⟩ ⟨g1, g2, g3⟩
    have g3 : sm rgQ M s := g3
    have o := g3.on [(74, 74, some 0)] (by decide) (by decide)
    show fX11_doubt_27 fX11_doubt_73 fX11_doubt_111 (f + 1) (nI P) (nI E) x (nI p) s = _
    rw [fX11_doubt_27, e_places, Option.bind_some, o.i 74 0 rfl, h.2.1.2.2.2, if_pos (nI_le (Nat.le_refl _) (by omega))]
theorem s_doubt {M : Mem} {n p : Nat} (h : DI M n p) (a b : Int32) : ∃ r M2, fX10_doubt M a b = some r ∧ fX11_doubt a b M = some (r, M2) ∧ sm rgQ M M2 := by
  have hp := h.p20
  have fin : ∀ {r M2}, fX10_doubt M a b = some r → fX11_doubt a b M = some (r, M2) → ∃ r M2, fX10_doubt M a b = some r ∧ fX11_doubt a b M = some (r, M2) ∧ sm rgQ M M2 := fun h1 h2 => ⟨_, _, h1, h2, ssX11_doubt h2⟩
  have z0 : (0 : Int32).toInt = 0 := rfl
  have z5 : (5 : Int32).toInt = 5 := rfl
  cases ha : inN a p with
  | false =>
    refine fin (r := -1) (M2 := M) ?_ ?_
    · unfold fX10_doubt; rw [k_hasPlace M a h.2.1.2.1 hp, ha]; rfl
    · unfold fX11_doubt; rw [e_isPlace M a h.2.1.2.2.2 hp, ha]; rfl
  | true =>
    obtain ⟨P, hP, rfl⟩ := inN_of ha (by omega)
    cases hb : inN b 6 with
    | false =>
      refine fin (r := -1) (M2 := M) ?_ ?_
      · unfold fX10_doubt fX10_doubt_20
        rw [k_hasPlace M _ h.2.1.2.1 hp, ha, Option.bind_some, if_neg (by decide)]
        by_cases c0 : b < 0
        · rw [if_pos c0]
        · rw [if_neg c0, if_neg]
          intro c1
          have h1 := (fa_le _ _).mp c1
          have h2 : ¬ b.toInt < (0 : Int32).toInt := fun q => c0 ((fa_lt _ _).mpr q)
          have : inN b 6 = true := inN_i.mpr (by omega)
          rw [this] at hb; cases hb
      · unfold fX11_doubt
        rw [e_isPlace M _ h.2.1.2.2.2 hp, ha, e_in, inN_lit b (k := 5) (by decide), hb]; rfl
    | true =>
      obtain ⟨E, hE, rfl⟩ := inN_of hb (by omega)
      obtain ⟨M1, e1⟩ := e_doubt27 h hP (show E ≤ 5 by omega)
      refine fin (r := if anyN (v0 M n P E) p = true then 0 else if anyN (v1 M n P E) p = true then 1 else 2) (M2 := M1) ?_ ?_
      · unfold fX10_doubt
        rw [k_hasPlace M _ h.2.1.2.1 hp, ha, Option.bind_some, if_neg (by decide), if_neg (by rw [fa_lt, nI_toInt (by omega)]; omega), if_pos (by rw [fa_le, nI_toInt (by omega)]; omega), k_verdict h hP (by omega)]
        rfl
      · unfold fX11_doubt
        rw [e_isPlace M _ h.2.1.2.2.2 hp, ha, e_in, inN_lit _ (k := 5) (by decide), hb, Option.bind_some, if_neg (by decide), Option.bind_some, if_neg (by decide)]
        exact e1
