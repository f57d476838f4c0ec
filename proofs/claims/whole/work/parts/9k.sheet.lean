/-! the sheet is taken over -/
theorem k_addVt {X : Mem} {a : Nat} (ha : a < 15) (h : X.1 1 0 = nI a) (x y w m sx sy : Int32) : ∃ X1, fX8_addVoter_t x y w m sx sy X = some X1 ∧ (∀ q, X1.1 2 q = if q = a then x else X.1 2 q) ∧ (∀ q, X1.1 3 q = if q = a then y else X.1 3 q) ∧ (∀ q, X1.1 4 q = if q = a then w else X.1 4 q) ∧ (∀ q, X1.1 5 q = if q = a then m else X.1 5 q) ∧ (∀ q, X1.1 6 q = if q = a then sx else X.1 6 q) ∧ (∀ q, X1.1 7 q = if q = a then sy else X.1 7 q) ∧ X1.1 1 0 = nI (a + 1) ∧ X1.1 1 7 = X.1 1 7 + w ∧ X1.1 1 14 = X.1 1 14 + 1 := by
  have ia := inb_nI ha (by decide)
  unfold fX8_addVoter_t
  have k12 : ∀ {Z : Mem} {k j : Nat} {v : Int32}, Z.1 1 0 = nI a → 1 ≠ k → (sI Z k j v).1 1 0 = nI a := fun hz hk => by rw [sI_nk _ _ hk]; exact hz
  rw [h, if_pos (show nI a < 15 from (nI_ltJ (b := 15) (by omega) (by omega)).mpr ha), if_pos ia, nx_eq, ix_nI (by omega)]
  have e1 : (sI X 2 a x).1 1 0 = nI a := k12 h (by decide)
  rw [e1, if_pos ia, nx_eq, ix_nI (by omega)]
  have e2 : (sI (sI X 2 a x) 3 a y).1 1 0 = nI a := k12 e1 (by decide)
  rw [e2, if_pos ia, nx_eq, ix_nI (by omega)]
  have e3 : (sI (sI (sI X 2 a x) 3 a y) 4 a w).1 1 0 = nI a := k12 e2 (by decide)
  rw [e3, if_pos ia, nx_eq, ix_nI (by omega)]
  have e4 : (sI (sI (sI (sI X 2 a x) 3 a y) 4 a w) 5 a m).1 1 0 = nI a := k12 e3 (by decide)
  rw [e4, if_pos ia, nx_eq, ix_nI (by omega)]
  have e5 : (sI (sI (sI (sI (sI X 2 a x) 3 a y) 4 a w) 5 a m) 6 a sx).1 1 0 = nI a := k12 e4 (by decide)
  rw [e5, if_pos ia, nx_eq, ix_nI (by omega), nx_eq, nx_eq, nx_eq]
  have e6 : (sI (sI (sI (sI (sI (sI X 2 a x) 3 a y) 4 a w) 5 a m) 6 a sx) 7 a sy).1 1 0 = nI a := k12 e5 (by decide)
  rw [e6, nI_s]
  refine ⟨_, rfl, fun q => ?_, fun q => ?_, fun q => ?_, fun q => ?_, fun q => ?_, fun q => ?_, ?_, ?_, ?_⟩ <;> simp [sI]
theorem k_addPt {X : Mem} {b : Nat} (hb : b < 20) (h : X.1 1 8 = nI b) (x y : Int32) : ∃ X1, fX8_addPlace_t x y X = some X1 ∧ (∀ q, X1.1 8 q = if q = b then x else X.1 8 q) ∧ (∀ q, X1.1 9 q = if q = b then y else X.1 9 q) ∧ X1.1 1 8 = nI (b + 1) ∧ X1.1 1 15 = X.1 1 15 + 1 := by
  have ib := inb_nI hb (by decide)
  unfold fX8_addPlace_t
  rw [h, if_pos (show nI b < 20 from (nI_ltJ (b := 20) (by omega) (by omega)).mpr hb), if_pos ib, nx_eq]
  have e1 : (sI X 8 (ix (nI b)) x).1 1 8 = nI b := by rw [sI_nk _ _ (by decide)]; exact h
  rw [e1, if_pos ib, nx_eq]
  have e2 : (sI (sI X 8 (ix (nI b)) x) 9 (ix (nI b)) y).1 1 8 = nI b := by rw [sI_nk _ _ (by decide)]; exact e1
  rw [nx_eq, nx_eq, e2, nI_s, ix_nI (by omega)]
  refine ⟨_, rfl, fun q => ?_, fun q => ?_, ?_, ?_⟩ <;> simp [sI]
def rgTv : Rg := [(2, 7, none), (1, 1, some 0), (1, 1, some 7), (1, 1, some 14)]
def rgTp : Rg := [(8, 9, none), (1, 1, some 8), (1, 1, some 15)]
def TV (M : Mem) (vs i : Nat) (X : Mem) : Prop := X.1 1 0 = nI i ∧ X.1 1 7 = fd (fun v acc => acc + M.1 15 v) 0 i ∧ X.1 1 14 = nI (vs + i) ∧ (∀ v, v < i → X.1 2 v = M.1 13 v ∧ X.1 3 v = M.1 14 v ∧ X.1 4 v = M.1 15 v ∧ X.1 5 v = M.1 16 v ∧ X.1 6 v = M.1 17 v ∧ X.1 7 v = M.1 18 v) ∧ sm rgTv M X
def TP (M : Mem) (ps i : Nat) (X : Mem) : Prop := X.1 1 8 = nI i ∧ X.1 1 15 = nI (ps + i) ∧ (∀ q, q < i → X.1 8 q = M.1 19 q ∧ X.1 9 q = M.1 20 q) ∧ sm rgTp M X
theorem tk_vs (K : Mem → Option Mem) {M : Mem} {a vs : Nat} (ha : a ≤ 15) (h12 : M.1 12 0 = nI a) : ∀ (d i f : Nat) (X : Mem), a - i = d → i ≤ a → d < f → TV M vs i X → ∃ X1, fX8_takeFrom_t_6 K f (nI i) X = K X1 ∧ TV M vs a X1 := by
  intro d
  induction d with
  | zero =>
    intro i f X h1 h2 h3 h
    obtain ⟨f, rfl⟩ : ∃ f', f = f' + 1 := ⟨f - 1, by omega⟩
    have : i = a := by omega
    subst this
    refine ⟨X, ?_, h⟩
    rw [fX8_takeFrom_t_6, (h.2.2.2.2.on [(12, 12, none)] (by decide) (by decide)).i 12 0 rfl, h12, if_pos (nI_le (Nat.le_refl _) (by omega))]
  | succ d ih =>
    intro i f X h1 h2 h3 h
    obtain ⟨f, rfl⟩ : ∃ f', f = f' + 1 := ⟨f - 1, by omega⟩
    obtain ⟨t1, t2, t3, t4, t5⟩ := h
    have o := t5.on [(12, 20, none)] (by decide) (by decide)
    have ii := inb_nI (show i < 15 by omega) (by decide)
    rw [fX8_takeFrom_t_6, o.i 12 0 rfl, h12, if_neg (nI_ge (by omega) (by omega)), if_neg (show ¬ (15 : Int32) ≤ nI i from nI_ge (a := i) (b := 15) (by omega) (by omega))]
    simp only [ii, if_true, ix_nI (show i < 2147483648 by omega)]
    obtain ⟨X1, k0, k1, k2, k3, k4, k5, k6, k7, k8, k9⟩ := k_addVt (X := X) (show i < 15 by omega) t1 (X.1 13 i) (X.1 14 i) (X.1 15 i) (X.1 16 i) (X.1 17 i) (X.1 18 i)
    rw [k0, Option.bind_some, nx_eq, nI_s]
    refine ih (i + 1) f X1 (by omega) (by omega) (by omega) ⟨k7, ?_, ?_, fun v hv => ?_, t5.tr ((ssX8_addVoter_t k0).up (by decide))⟩
    · rw [k8, t2, o.i 15 i rfl]; rfl
    · rw [k9, t3, nI_s]; rfl
    · rw [k1, k2, k3, k4, k5, k6]
      by_cases c : v = i
      · simp only [if_pos c]
        rw [c, o.i 13 i rfl, o.i 14 i rfl, o.i 15 i rfl, o.i 16 i rfl, o.i 17 i rfl, o.i 18 i rfl]
        exact ⟨rfl, rfl, rfl, rfl, rfl, rfl⟩
      · simp only [if_neg c]
        exact t4 v (by omega)
theorem tk_ps (K : Mem → Option Mem) {M : Mem} {b ps : Nat} (hb : b ≤ 20) (h12 : M.1 12 8 = nI b) : ∀ (d i f : Nat) (X : Mem), b - i = d → i ≤ b → d < f → TP M ps i X → ∃ X1, fX8_takeFrom_t_68 K f (nI i) X = K X1 ∧ TP M ps b X1 := by
  intro d
  induction d with
  | zero =>
    intro i f X h1 h2 h3 h
    obtain ⟨f, rfl⟩ : ∃ f', f = f' + 1 := ⟨f - 1, by omega⟩
    have : i = b := by omega
    subst this
    refine ⟨X, ?_, h⟩
    rw [fX8_takeFrom_t_68, (h.2.2.2.on [(12, 12, none)] (by decide) (by decide)).i 12 8 rfl, h12, if_pos (nI_le (Nat.le_refl _) (by omega))]
  | succ d ih =>
    intro i f X h1 h2 h3 h
    obtain ⟨f, rfl⟩ : ∃ f', f = f' + 1 := ⟨f - 1, by omega⟩
    obtain ⟨t1, t3, t4, t5⟩ := h
    have o := t5.on [(12, 20, none)] (by decide) (by decide)
    have ii := inb_nI (show i < 20 by omega) (by decide)
    rw [fX8_takeFrom_t_68, o.i 12 8 rfl, h12, if_neg (nI_ge (by omega) (by omega)), if_neg (show ¬ (20 : Int32) ≤ nI i from nI_ge (a := i) (b := 20) (by omega) (by omega))]
    simp only [ii, if_true, ix_nI (show i < 2147483648 by omega)]
    obtain ⟨X1, k0, k1, k2, k7, k9⟩ := k_addPt (X := X) (show i < 20 by omega) t1 (X.1 19 i) (X.1 20 i)
    rw [k0, Option.bind_some, nx_eq, nI_s]
    refine ih (i + 1) f X1 (by omega) (by omega) (by omega) ⟨k7, ?_, fun v hv => ?_, t5.tr ((ssX8_addPlace_t k0).up (by decide))⟩
    · rw [k9, t3, nI_s]; rfl
    · rw [k1, k2]
      by_cases c : v = i
      · simp only [if_pos c]
        rw [c, o.i 19 i rfl, o.i 20 i rfl]
        exact ⟨rfl, rfl⟩
      · simp only [if_neg c]
        exact t4 v (by omega)
theorem tk_vs0 (K : Mem → Option Mem) {M : Mem} {a vs : Nat} (ha : a ≤ 15) (h12 : M.1 12 0 = nI a) (h : TV M vs 0 M) : ∃ X1, fX8_takeFrom_t_6 K FU 0 M = K X1 ∧ TV M vs a X1 := by
  rw [show (0 : Int32) = nI 0 from rfl]
  exact tk_vs K ha h12 a 0 FU M (by omega) (by omega) (FU_gt (by omega)) h
theorem tk_ps0 (K : Mem → Option Mem) {M : Mem} {b ps : Nat} (hb : b ≤ 20) (h12 : M.1 12 8 = nI b) (h : TP M ps 0 M) : ∃ X1, fX8_takeFrom_t_68 K FU 0 M = K X1 ∧ TP M ps b X1 := by
  rw [show (0 : Int32) = nI 0 from rfl]
  exact tk_ps K hb h12 b 0 FU M (by omega) (by omega) (FU_gt (by omega)) h
theorem k_take {M : Mem} {a b vs ps : Nat} (ha : a ≤ 15) (hb : b ≤ 20) (h1 : M.1 12 0 = nI a) (h2 : M.1 12 8 = nI b) (h3 : M.1 1 14 = nI vs) (h4 : M.1 1 15 = nI ps) : ∃ X, fX8_takeFrom_t M = some X ∧ X.1 1 0 = nI a ∧ X.1 1 8 = nI b ∧ X.1 1 7 = fd (fun v acc => acc + M.1 15 v) 0 a ∧ X.1 1 14 = nI (vs + a) ∧ X.1 1 15 = nI (ps + b) ∧ (∀ v, v < a → X.1 2 v = M.1 13 v ∧ X.1 3 v = M.1 14 v ∧ X.1 4 v = M.1 15 v ∧ X.1 5 v = M.1 16 v ∧ X.1 6 v = M.1 17 v ∧ X.1 7 v = M.1 18 v) ∧ (∀ q, q < b → X.1 8 q = M.1 19 q ∧ X.1 9 q = M.1 20 q) ∧ X.1 1 11 = M.1 12 11 ∧ X.1 1 12 = M.1 12 12 ∧ X.1 1 13 = M.1 12 13 := by
  have hZ : fX8_takeFrom_t M = fX8_takeFrom_t_6 fX8_takeFrom_t_66 FU 0 (sI (sI (sI (sI (sI (sI M 1 0 0) 1 7 0) 1 8 0) 1 11 0) 1 12 1) 1 13 1) := by
    unfold fX8_takeFrom_t fX8_clear_t
    simp only [nx_eq, Option.bind_some]
  have h66 : ∀ B, fX8_takeFrom_t_66 B = fX8_takeFrom_t_68 fX8_takeFrom_t_104 FU 0 B := fun B => by unfold fX8_takeFrom_t_66; rfl
  have h104 : ∀ C : Mem, fX8_takeFrom_t_104 C = some (sI (sI (sI C 1 11 (C.1 12 11)) 1 12 (C.1 12 12)) 1 13 (C.1 12 13)) := fun C => by
    unfold fX8_takeFrom_t_104
    simp only [nx_eq]
    simp [sI]
  rw [hZ]
  clear hZ
  generalize hA : sI (sI (sI (sI (sI (sI M 1 0 0) 1 7 0) 1 8 0) 1 11 0) 1 12 1) 1 13 1 = A
  have sA : sm [(1, 1, some 0), (1, 1, some 7), (1, 1, some 8), (1, 1, some 11), (1, 1, some 12), (1, 1, some 13)] M A := by
    rw [← hA]; exact (((((sm_rf.I (by rfl)).I (by rfl)).I (by rfl)).I (by rfl)).I (by rfl)).I (by rfl)
  have oA := sA.on [(1, 1, some 14), (1, 1, some 15), (12, 20, none)] (by decide) (by decide)
  have a0 : A.1 1 0 = nI 0 := by rw [← hA]; simp [sI]; rfl
  have a7 : A.1 1 7 = 0 := by rw [← hA]; simp [sI]
  have a8 : A.1 1 8 = nI 0 := by rw [← hA]; simp [sI]; rfl
  obtain ⟨B, b1, b2, b3, b4, b5, b6⟩ := tk_vs0 (M := A) (a := a) (vs := vs) fX8_takeFrom_t_66 ha ((oA.i 12 0 rfl).trans h1) ⟨a0, a7, (oA.i 1 14 rfl).trans h3, fun v hv => absurd hv (Nat.not_lt_zero _), sm_rf⟩
  have oB := b6.on [(1, 1, some 8), (1, 1, some 15), (1, 1, some 11), (1, 1, some 12), (1, 1, some 13), (12, 20, none)] (by decide) (by decide)
  obtain ⟨C, c1, c2, c3, c4, c5⟩ := tk_ps0 (M := B) (b := b) (ps := ps) fX8_takeFrom_t_104 hb (((oB.i 12 8 rfl).trans (oA.i 12 8 rfl)).trans h2) ⟨(oB.i 1 8 rfl).trans a8, ((oB.i 1 15 rfl).trans (oA.i 1 15 rfl)).trans h4, fun v hv => absurd hv (Nat.not_lt_zero _), sm_rf⟩
  have oC := c5.on [(1, 1, some 0), (1, 1, some 7), (1, 1, some 14), (2, 7, none), (12, 20, none)] (by decide) (by decide)
  rw [b1, h66, c1, h104]
  refine ⟨_, rfl, ?_, ?_, ?_, ?_, ?_, fun v hv => ?_, fun q hq => ?_, ?_, ?_, ?_⟩
  · simp [sI]; rw [oC.i 1 0 rfl]; exact b2
  · simp [sI]; exact c2
  · simp [sI]; rw [oC.i 1 7 rfl, b3]; exact fd_congr (fun i _ x => by rw [oA.i 15 i rfl])
  · simp [sI]; rw [oC.i 1 14 rfl]; exact b4
  · simp [sI]; exact c3
  · obtain ⟨w1, w2, w3, w4, w5, w6⟩ := b5 v hv
    refine ⟨?_, ?_, ?_, ?_, ?_, ?_⟩ <;> simp [sI]
    · rw [oC.i 2 v rfl, w1, oA.i 13 v rfl]
    · rw [oC.i 3 v rfl, w2, oA.i 14 v rfl]
    · rw [oC.i 4 v rfl, w3, oA.i 15 v rfl]
    · rw [oC.i 5 v rfl, w4, oA.i 16 v rfl]
    · rw [oC.i 6 v rfl, w5, oA.i 17 v rfl]
    · rw [oC.i 7 v rfl, w6, oA.i 18 v rfl]
  · obtain ⟨w1, w2⟩ := c4 q hq
    refine ⟨?_, ?_⟩ <;> simp [sI]
    · rw [w1, oB.i 19 q rfl, oA.i 19 q rfl]
    · rw [w2, oB.i 20 q rfl, oA.i 20 q rfl]
  · simp [sI]; rw [oC.i 12 11 rfl, oB.i 12 11 rfl, oA.i 12 11 rfl]
  · simp [sI]; rw [oC.i 12 12 rfl, oB.i 12 12 rfl, oA.i 12 12 rfl]
  · simp [sI]; rw [oC.i 12 13 rfl, oB.i 12 13 rfl, oA.i 12 13 rfl]
/-! the reference's copies -/
def rgCv : Rg := [(50, 50, none), (53, 53, none), (56, 56, none), (59, 59, none), (62, 62, none), (65, 65, none)]
def rgCp : Rg := [(68, 68, none), (71, 71, none)]
def CV (M : Mem) (i : Nat) (X : Mem) : Prop := (∀ v, v < i → X.1 50 v = M.1 51 v ∧ X.1 53 v = M.1 54 v ∧ X.1 56 v = M.1 57 v ∧ X.1 59 v = M.1 60 v ∧ X.1 62 v = M.1 63 v ∧ X.1 65 v = M.1 66 v) ∧ sm rgCv M X
def CPl (M : Mem) (i : Nat) (X : Mem) : Prop := (∀ v, v < i → X.1 68 v = M.1 69 v ∧ X.1 71 v = M.1 72 v) ∧ sm rgCp M X
theorem cp_vs (K : Mem → Option (Int32 × Mem)) {M : Mem} : ∀ (d i f : Nat) (X : Mem), 15 - i = d → i ≤ 15 → d < f → CV M i X → ∃ X1, fX11_sheet_76 K f (nI i) X = K X1 ∧ CV M 15 X1 := by
  intro d
  induction d with
  | zero =>
    intro i f X h1 h2 h3 h
    obtain ⟨f, rfl⟩ : ∃ f', f = f' + 1 := ⟨f - 1, by omega⟩
    have : i = 15 := by omega
    subst this
    refine ⟨X, ?_, h⟩
    rw [fX11_sheet_76, if_pos (show (15 : Int32) ≤ nI 15 from nI_le (a := 15) (b := 15) (Nat.le_refl _) (by omega))]
  | succ d ih =>
    intro i f X h1 h2 h3 h
    obtain ⟨f, rfl⟩ : ∃ f', f = f' + 1 := ⟨f - 1, by omega⟩
    obtain ⟨t4, t5⟩ := h
    have o := t5.on [(51, 51, none), (54, 54, none), (57, 57, none), (60, 60, none), (63, 63, none), (66, 66, none)] (by decide) (by decide)
    have ii := inb_nI (show i < 15 by omega) (by decide)
    rw [fX11_sheet_76, if_neg (show ¬ (15 : Int32) ≤ nI i from nI_ge (a := i) (b := 15) (by omega) (by omega))]
    simp only [ii, if_true, ix_nI (show i < 2147483648 by omega), nx_eq, nI_s]
    refine ih (i + 1) f _ (by omega) (by omega) (by omega) ⟨fun v hv => ?_, (((((t5.I (inS_up (L0 := [(50, 50, none)]) (by decide) (inS_n 50 _))).I (inS_up (L0 := [(53, 53, none)]) (by decide) (inS_n 53 _))).I (inS_up (L0 := [(56, 56, none)]) (by decide) (inS_n 56 _))).I (inS_up (L0 := [(59, 59, none)]) (by decide) (inS_n 59 _))).I (inS_up (L0 := [(62, 62, none)]) (by decide) (inS_n 62 _))).I (inS_up (L0 := [(65, 65, none)]) (by decide) (inS_n 65 _))⟩
    by_cases c : v = i
    · rw [← o.i 51 v rfl, ← o.i 54 v rfl, ← o.i 57 v rfl, ← o.i 60 v rfl, ← o.i 63 v rfl, ← o.i 66 v rfl]
      simp [sI, c]
    · have := t4 v (by omega)
      simp [sI, c, this]
theorem cp_ps (K : Mem → Option (Int32 × Mem)) {M : Mem} : ∀ (d i f : Nat) (X : Mem), 20 - i = d → i ≤ 20 → d < f → CPl M i X → ∃ X1, fX11_sheet_186 K f (nI i) X = K X1 ∧ CPl M 20 X1 := by
  intro d
  induction d with
  | zero =>
    intro i f X h1 h2 h3 h
    obtain ⟨f, rfl⟩ : ∃ f', f = f' + 1 := ⟨f - 1, by omega⟩
    have : i = 20 := by omega
    subst this
    refine ⟨X, ?_, h⟩
    rw [fX11_sheet_186, if_pos (show (20 : Int32) ≤ nI 20 from nI_le (a := 20) (b := 20) (Nat.le_refl _) (by omega))]
  | succ d ih =>
    intro i f X h1 h2 h3 h
    obtain ⟨f, rfl⟩ : ∃ f', f = f' + 1 := ⟨f - 1, by omega⟩
    obtain ⟨t4, t5⟩ := h
    have o := t5.on [(69, 69, none), (72, 72, none)] (by decide) (by decide)
    have ii := inb_nI (show i < 20 by omega) (by decide)
    rw [fX11_sheet_186, if_neg (show ¬ (20 : Int32) ≤ nI i from nI_ge (a := i) (b := 20) (by omega) (by omega))]
    simp only [ii, if_true, ix_nI (show i < 2147483648 by omega), nx_eq, nI_s]
    refine ih (i + 1) f _ (by omega) (by omega) (by omega) ⟨fun v hv => ?_, (t5.I (inS_up (L0 := [(68, 68, none)]) (by decide) (inS_n 68 _))).I (inS_up (L0 := [(71, 71, none)]) (by decide) (inS_n 71 _))⟩
    by_cases c : v = i
    · rw [← o.i 69 v rfl, ← o.i 72 v rfl]
      simp [sI, c]
    · have := t4 v (by omega)
      simp [sI, c, this]
theorem cp_vs0 (K : Mem → Option (Int32 × Mem)) (M : Mem) : ∃ X1, fX11_sheet_76 K FU 0 M = K X1 ∧ CV M 15 X1 := by
  rw [show (0 : Int32) = nI 0 from rfl]
  exact cp_vs K 15 0 FU M (by omega) (by omega) (FU_gt (by omega)) ⟨fun v hv => absurd hv (Nat.not_lt_zero _), sm_rf⟩
theorem cp_ps0 (K : Mem → Option (Int32 × Mem)) (M : Mem) : ∃ X1, fX11_sheet_186 K FU 0 M = K X1 ∧ CPl M 20 X1 := by
  rw [show (0 : Int32) = nI 0 from rfl]
  exact cp_ps K 20 0 FU M (by omega) (by omega) (FU_gt (by omega)) ⟨fun v hv => absurd hv (Nat.not_lt_zero _), sm_rf⟩
