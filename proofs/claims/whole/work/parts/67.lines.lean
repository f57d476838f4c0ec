/-! all lines that halve, by the pairs looked at so far -/
def pL (D : Dt) (v u : Nat) : Prop := ¬ (trA D v u = 0 ∧ trB D v u = 0) ∧ hvD D (lnA D v u) (lnB D v u) (lnC D v u) = true
def lnV (D : Dt) (v u : Nat) : Ln := lnOf (lnA D v u) (lnB D v u) (lnC D v u)
def upTo (v u a b : Nat) : Prop := b < a ∧ (a < v ∨ (a = v ∧ b < u))
def lnS (D : Dt) (v u : Nat) (l : Ln) : Prop := ∃ a b, upTo v u a b ∧ pL D a b ∧ l = lnV D a b
def tr2 : Nat → Nat
  | 0 => 0
  | v + 1 => tr2 v + v
theorem tr2_lt {v : Nat} (hv : v < 15) : tr2 v + v ≤ 105 := by
  have : ∀ v, v < 15 → tr2 v + v ≤ 105 := by decide
  exact this v hv
theorem lnS_0 (D : Dt) (l : Ln) : ¬ lnS D 0 0 l := by
  rintro ⟨a, b, ⟨h1, h2⟩, -⟩
  omega
theorem lnS_in {D : Dt} {v u : Nat} (h : u < v) (l : Ln) : lnS D v (u + 1) l ↔ lnS D v u l ∨ (pL D v u ∧ l = lnV D v u) := by
  constructor
  · rintro ⟨a, b, ⟨h1, h2⟩, h3, h4⟩
    by_cases c : a = v ∧ b = u
    · obtain ⟨rfl, rfl⟩ := c
      exact Or.inr ⟨h3, h4⟩
    · exact Or.inl ⟨a, b, ⟨h1, by omega⟩, h3, h4⟩
  · rintro (⟨a, b, ⟨h1, h2⟩, h3, h4⟩ | ⟨h3, h4⟩)
    · exact ⟨a, b, ⟨h1, by omega⟩, h3, h4⟩
    · exact ⟨v, u, ⟨h, by omega⟩, h3, h4⟩
theorem lnS_out {D : Dt} {v : Nat} (l : Ln) : lnS D (v + 1) 0 l ↔ lnS D v v l := by
  constructor
  · rintro ⟨a, b, ⟨h1, h2⟩, h3⟩
    exact ⟨a, b, ⟨h1, by omega⟩, h3⟩
  · rintro ⟨a, b, ⟨h1, h2⟩, h3⟩
    exact ⟨a, b, ⟨h1, by omega⟩, h3⟩
def LnK (M : Mem) (s : Nat) (S : Ln → Prop) : Prop := M.1 26 4 = nI s ∧ (∀ i, i < s → smL (M.1 27 i) (M.1 28 i) (M.1 29 i)) ∧ SR lnLt lnOk (lo M) s S
def LnKR (M : Mem) (s : Nat) (S : Ln → Prop) : Prop := M.1 47 27 = nI s ∧ (∀ i, i < s → smL (M.1 79 i) (M.1 80 i) (M.1 81 i)) ∧ SR lnLt lnOk (loR M) s S
theorem LnK.S {M : Mem} {s : Nat} {S : Ln → Prop} (h : LnK M s S) (hs : s ≤ 105) : LnS M s := ⟨h.1, hs, fun i hi => ⟨h.2.1 i hi, h.2.2.2.1 i hi⟩, h.2.2.1⟩
theorem LnKR.S {M : Mem} {s : Nat} {S : Ln → Prop} (h : LnKR M s S) (hs : s ≤ 105) : LnSR M s := ⟨h.1, hs, fun i hi => ⟨h.2.1 i hi, h.2.2.2.1 i hi⟩, h.2.2.1⟩
theorem LnK.cg {M : Mem} {s : Nat} {S S1 : Ln → Prop} (h : LnK M s S) (hS : ∀ x, S1 x ↔ S x) : LnK M s S1 := ⟨h.1, h.2.1, h.2.2.cg (fun _ _ => rfl) hS⟩
theorem LnKR.cg {M : Mem} {s : Nat} {S S1 : Ln → Prop} (h : LnKR M s S) (hS : ∀ x, S1 x ↔ S x) : LnKR M s S1 := ⟨h.1, h.2.1, h.2.2.cg (fun _ _ => rfl) hS⟩
def un3 (t : Int32 × Int32 × Int32) : Ln := lnOf t.1 t.2.1 t.2.2
theorem in_map {T U : Type} (g : T → U) (f : Nat → T) (k : Nat) (x : T) (i : Nat) : g (inF f k x i) = inF (fun j => g (f j)) k (g x) i := by
  unfold inF
  split
  · rfl
  · split <;> rfl
def sm3 (t : Int32 × Int32 × Int32) : Prop := smL t.1 t.2.1 t.2.2
theorem in_all {T : Type} {P : T → Prop} {f : Nat → T} {s k : Nat} {x : T} (h : ∀ i, i < s → P (f i)) (hx : P x) (hk : k ≤ s) : ∀ i, i < s + 1 → P (inF f k x i) := by
  intro i hi
  unfold inF
  split
  · exact h i (by omega)
  · split
    · exact hx
    · exact h (i - 1) (by omega)
theorem k_put1 {M : Mem} {s : Nat} {S : Ln → Prop} {A B C : Int32} (h : LnK M s S) (hs : s < 105) (ht : smL A B C) (hq : lnOk (lnOf A B C)) : ∃ M1 s1, fX2_insert A B C M = some M1 ∧ s1 ≤ s + 1 ∧ LnK M1 s1 (fun l => S l ∨ l = lnOf A B C) ∧ sm [(26, 26, some 4), (27, 29, none)] M M1 := by
  obtain ⟨M1, h1, h2⟩ := k_insert (h.S (by omega)) hs ht hq
  rcases h2 with ⟨⟨i, i1, i2⟩, rfl⟩ | ⟨k, k1, k2, k3, k4, k5, k6⟩
  · refine ⟨M1, s, h1, by omega, h.cg (fun x => ⟨?_, Or.inl⟩), sm_rf⟩
    rintro (q | q)
    · exact q
    · rw [q, ← i2]; exact (h.2.2.2.2 _).mp ⟨i, i1, rfl⟩
  · refine ⟨M1, s + 1, h1, by omega, ⟨k4, fun i hi => ?_, ?_⟩, k6⟩
    · have := in_all (P := sm3) (f := rw3 M) (s := s) (k := k) (x := (A, B, C)) (fun i hi => h.2.1 i hi) ht k1 i hi
      rw [← k5 i hi] at this
      exact this
    · have := SR.put (fun a b c => ln_tr) (fun a b => ln_tri) h.2.2 hq k1 k2 k3
      refine this.cg (fun i hi => ?_) (fun _ => Iff.rfl)
      have e : lo M1 i = un3 (rw3 M1 i) := rfl
      rw [e, k5 i hi, in_map un3]
      rfl
theorem e_put1 {M : Mem} {s : Nat} {S : Ln → Prop} {A B C : Int32} (h : LnKR M s S) (hs : s < 105) (ht : smL A B C) (hq : lnOk (lnOf A B C)) : ∃ M1 s1, fX11_addsLine A B C M = some M1 ∧ s1 ≤ s + 1 ∧ LnKR M1 s1 (fun l => S l ∨ l = lnOf A B C) ∧ sm [(47, 47, some 27), (79, 81, none)] M M1 := by
  obtain ⟨M1, h1, h2⟩ := e_addsLine (h.S (by omega)) hs ht hq
  rcases h2 with ⟨⟨i, i1, i2⟩, rfl⟩ | ⟨k, k1, k2, k3, k4, k5, k6⟩
  · refine ⟨M1, s, h1, by omega, h.cg (fun x => ⟨?_, Or.inl⟩), sm_rf⟩
    rintro (q | q)
    · exact q
    · rw [q, ← i2]; exact (h.2.2.2.2 _).mp ⟨i, i1, rfl⟩
  · refine ⟨M1, s + 1, h1, by omega, ⟨k4, fun i hi => ?_, ?_⟩, k6⟩
    · have := in_all (P := sm3) (f := rw3R M) (s := s) (k := k) (x := (A, B, C)) (fun i hi => h.2.1 i hi) ht k1 i hi
      rw [← k5 i hi] at this
      exact this
    · have := SR.put (fun a b c => ln_tr) (fun a b => ln_tri) h.2.2 hq k1 k2 k3
      refine this.cg (fun i hi => ?_) (fun _ => Iff.rfl)
      have e : loR M1 i = un3 (rw3R M1 i) := rfl
      rw [e, k5 i hi, in_map un3]
      rfl
def rgL : Rg := [(26, 26, some 4), (27, 29, none)]
def rgLR : Rg := [(47, 47, some 27), (79, 81, none)]
def rgDI : Rg := [(1, 9, none), (50, 50, none), (53, 53, none), (56, 56, none), (59, 59, none), (62, 62, none), (65, 65, none), (68, 68, none), (71, 71, none), (73, 77, some 0), (75, 77, none)]
theorem k_addT {M : Mem} {n p v u s : Nat} (h : DI M n p) (hv : v < n) (hu : u < v) (hl : LnK M s (lnS (cD M) v u)) (hs : s < 105) : ∃ M1 s1, fX2_addThrough (nI v) (nI u) M = some M1 ∧ s1 ≤ s + 1 ∧ LnK M1 s1 (lnS (cD M) v (u + 1)) ∧ sm rgL M M1 := by
  rw [k_addThrough h hv (by omega)]
  by_cases c1 : trA (cD M) v u = 0 ∧ trB (cD M) v u = 0
  · rw [if_pos c1]
    refine ⟨M, s, rfl, by omega, hl.cg (fun l => ?_), sm_rf⟩
    rw [lnS_in hu]
    exact ⟨fun q => q.elim id (fun q => absurd c1 q.1.1), Or.inl⟩
  · rw [if_neg c1]
    by_cases c2 : hvD (cD M) (lnA (cD M) v u) (lnB (cD M) v u) (lnC (cD M) v u) = true
    · rw [if_pos c2]
      obtain ⟨q1, q2⟩ := norm_DI h hv (by omega) c1
      obtain ⟨M1, s1, h1, h2, h3, h4⟩ := k_put1 hl hs q1 q2
      refine ⟨M1, s1, h1, h2, h3.cg (fun l => ?_), h4⟩
      rw [lnS_in hu]
      exact ⟨fun q => q.elim Or.inl (fun q => Or.inr q.2), fun q => q.elim Or.inl (fun q => Or.inr ⟨⟨c1, c2⟩, q⟩)⟩
    · rw [if_neg c2]
      refine ⟨M, s, rfl, by omega, hl.cg (fun l => ?_), sm_rf⟩
      rw [lnS_in hu]
      exact ⟨fun q => q.elim id (fun q => absurd q.1.2 c2), Or.inl⟩
theorem e_addT {M : Mem} {n p v u s : Nat} (h : DI M n p) (hv : v < n) (hu : u < v) (hl : LnKR M s (lnS (cD M) v u)) (hs : s < 105) : ∃ M1 s1, fX11_through (nI v) (nI u) M = some M1 ∧ s1 ≤ s + 1 ∧ LnKR M1 s1 (lnS (cD M) v (u + 1)) ∧ sm rgLR M M1 := by
  rw [e_through h hv (by omega)]
  by_cases c1 : trA (cD M) v u = 0 ∧ trB (cD M) v u = 0
  · rw [if_pos c1]
    refine ⟨M, s, rfl, by omega, hl.cg (fun l => ?_), sm_rf⟩
    rw [lnS_in hu]
    exact ⟨fun q => q.elim id (fun q => absurd c1 q.1.1), Or.inl⟩
  · rw [if_neg c1]
    by_cases c2 : hvD (cD M) (lnA (cD M) v u) (lnB (cD M) v u) (lnC (cD M) v u) = true
    · rw [if_pos c2]
      obtain ⟨q1, q2⟩ := norm_DI h hv (by omega) c1
      obtain ⟨M1, s1, h1, h2, h3, h4⟩ := e_put1 hl hs q1 q2
      refine ⟨M1, s1, h1, h2, h3.cg (fun l => ?_), h4⟩
      rw [lnS_in hu]
      exact ⟨fun q => q.elim Or.inl (fun q => Or.inr q.2), fun q => q.elim Or.inl (fun q => Or.inr ⟨⟨c1, c2⟩, q⟩)⟩
    · rw [if_neg c2]
      refine ⟨M, s, rfl, by omega, hl.cg (fun l => ?_), sm_rf⟩
      rw [lnS_in hu]
      exact ⟨fun q => q.elim id (fun q => absurd q.1.2 c2), Or.inl⟩
/-- the lines of now, in the class's rows -/
def LC (M : Mem) : Prop := ∃ s, s ≤ 105 ∧ LnK M s (lnS (cD M) (cD M).1 0)
def LR (M : Mem) : Prop := ∃ s, s ≤ 105 ∧ LnKR M s (lnS (cD M) (cD M).1 0)
theorem k_lines {M : Mem} {n p : Nat} (h : DI M n p) (h0 : M.1 26 4 = 0) : ∃ M1, fX2_refresh_33 fX2_refresh_69 FU 0 M = some M1 ∧ LC M1 ∧ sm rgL M M1 := by
  have hn := h.n15
  have h10 : M.1 1 0 = nI n := h.2.1.1
  have hh := for_ex (σ := Mem) (fun f i s => fX2_refresh_33 fX2_refresh_69 f i s) (fun s => some s) n
    (fun i S => sm rgL M S ∧ ∃ s, s ≤ tr2 i ∧ LnK S s (lnS (cD M) i 0)) ?_ ?_ M ⟨sm_rf, 0, Nat.le_refl _, h0, fun i hi => absurd hi (by omega), SR.nil _ (lnS_0 _)⟩ FU (FU_gt (by omega))
  · obtain ⟨M1, q1, q2, s, q3, q4⟩ := hh
    refine ⟨M1, q1, ⟨s, ?_, ?_⟩, q2⟩
    · by_cases e : n = 0
      · subst e
        have : tr2 0 = 0 := rfl
        omega
      · obtain ⟨m, rfl⟩ : ∃ m, n = m + 1 := ⟨n - 1, by omega⟩
        have := tr2_lt (v := m) (by omega)
        have : tr2 (m + 1) = tr2 m + m := rfl
        omega
    · have e : cD M1 = cD M := cD_on (q2.on _ (by decide) (by decide))
      rw [e, h.cn]; exact q4
  · rintro f i S hi ⟨g1, s, g2, g3⟩
    have tl := tr2_lt (v := i) (by omega)
    have o := g1.on [(1, 1, none)] (by decide) (by decide)
    have hun : fX2_refresh_33 fX2_refresh_69 (f + 1) (nI i) S = fX2_refresh_46 (fX2_refresh_63 (fX2_refresh_33 fX2_refresh_69 f) fX2_refresh_69) FU (nI i) (nI 0) S := by
      rw [fX2_refresh_33, o.i 1 0 rfl, h10, if_neg (nI_ge hi (by omega))]; rfl
    have hh := for_ex (σ := Mem) (fun g j s => fX2_refresh_46 (fX2_refresh_63 (fX2_refresh_33 fX2_refresh_69 f) fX2_refresh_69) g (nI i) j s) (fun s => fX2_refresh_33 fX2_refresh_69 f (nI (i + 1)) s) i
      (fun j S => sm rgL M S ∧ ∃ s, s ≤ tr2 i + j ∧ LnK S s (lnS (cD M) i j)) ?_ ?_ S ⟨g1, s, g2, g3⟩ FU (FU_gt (by omega))
    · obtain ⟨S1, q1, q2, s1, q3, q4⟩ := hh
      exact ⟨S1, hun.trans q1, q2, s1, q3, q4.cg (fun l => lnS_out l)⟩
    · rintro f2 j S hj ⟨g1, s, g2, g3⟩
      have hD : DI S n p := DI_on (g1.on _ (by decide) (by decide)) h
      have e : cD S = cD M := cD_on (g1.on _ (by decide) (by decide))
      obtain ⟨S1, s1, a1, a2, a3, a4⟩ := k_addT hD hi hj (by rw [e]; exact g3) (by omega)
      rw [e] at a3
      refine ⟨S1, ?_, g1.tr a4, s1, by omega, a3⟩
      show fX2_refresh_46 _ (f2 + 1) (nI i) (nI j) S = _
      rw [fX2_refresh_46, if_neg (nI_ge hj (by omega)), a1, Option.bind_some, nx_eq, nI_s]
    · rintro f2 S -
      show fX2_refresh_46 _ (f2 + 1) (nI i) (nI i) S = _
      rw [fX2_refresh_46, if_pos (nI_le (Nat.le_refl _) (by omega))]
      unfold fX2_refresh_63
      rw [nx_eq, nI_s]
  · rintro f S ⟨g1, -⟩
    have o := g1.on [(1, 1, none)] (by decide) (by decide)
    show fX2_refresh_33 fX2_refresh_69 (f + 1) (nI n) S = _
    rw [fX2_refresh_33, o.i 1 0 rfl, h10, if_pos (nI_le (Nat.le_refl _) (by omega))]
    rfl
theorem e_lines {M : Mem} {n p : Nat} (h : DI M n p) (h0 : M.1 47 27 = 0) (K : Mem → Option Mem) : ∃ M1, fX11_knows_20 K FU 0 M = K M1 ∧ LR M1 ∧ sm rgLR M M1 := by
  have hn := h.n15
  have h10 : M.1 73 0 = nI n := h.2.1.2.2.1
  have hh := for_ex (σ := Mem) (fun f i s => fX11_knows_20 K f i s) (fun s => K s) n
    (fun i S => sm rgLR M S ∧ ∃ s, s ≤ tr2 i ∧ LnKR S s (lnS (cD M) i 0)) ?_ ?_ M ⟨sm_rf, 0, Nat.le_refl _, h0, fun i hi => absurd hi (by omega), SR.nil _ (lnS_0 _)⟩ FU (FU_gt (by omega))
  · obtain ⟨M1, q1, q2, s, q3, q4⟩ := hh
    refine ⟨M1, q1, ⟨s, ?_, ?_⟩, q2⟩
    · by_cases e : n = 0
      · subst e
        have : tr2 0 = 0 := rfl
        omega
      · obtain ⟨m, rfl⟩ : ∃ m, n = m + 1 := ⟨n - 1, by omega⟩
        have := tr2_lt (v := m) (by omega)
        have : tr2 (m + 1) = tr2 m + m := rfl
        omega
    · have e : cD M1 = cD M := cD_on (q2.on _ (by decide) (by decide))
      rw [e, h.cn]; exact q4
  · rintro f i S hi ⟨g1, s, g2, g3⟩
    have tl := tr2_lt (v := i) (by omega)
    have o := g1.on [(73, 73, none)] (by decide) (by decide)
    have hun : fX11_knows_20 K (f + 1) (nI i) S = fX11_knows_30 (fX11_knows_47 (fX11_knows_20 K f) K) FU (nI i) (nI 0) S := by
      rw [fX11_knows_20, e_voters, Option.bind_some, o.i 73 0 rfl, h10, if_neg (nI_ge hi (by omega))]; rfl
    have hh := for_ex (σ := Mem) (fun g j s => fX11_knows_30 (fX11_knows_47 (fX11_knows_20 K f) K) g (nI i) j s) (fun s => fX11_knows_20 K f (nI (i + 1)) s) i
      (fun j S => sm rgLR M S ∧ ∃ s, s ≤ tr2 i + j ∧ LnKR S s (lnS (cD M) i j)) ?_ ?_ S ⟨g1, s, g2, g3⟩ FU (FU_gt (by omega))
    · obtain ⟨S1, q1, q2, s1, q3, q4⟩ := hh
      exact ⟨S1, hun.trans q1, q2, s1, q3, q4.cg (fun l => lnS_out l)⟩
    · rintro f2 j S hj ⟨g1, s, g2, g3⟩
      have hD : DI S n p := DI_on (g1.on _ (by decide) (by decide)) h
      have e : cD S = cD M := cD_on (g1.on _ (by decide) (by decide))
      obtain ⟨S1, s1, a1, a2, a3, a4⟩ := e_addT hD hi hj (by rw [e]; exact g3) (by omega)
      rw [e] at a3
      refine ⟨S1, ?_, g1.tr a4, s1, by omega, a3⟩
      show fX11_knows_30 _ (f2 + 1) (nI i) (nI j) S = _
      rw [fX11_knows_30, if_neg (nI_ge hj (by omega)), a1, Option.bind_some, nx_eq, nI_s]
    · rintro f2 S -
      show fX11_knows_30 _ (f2 + 1) (nI i) (nI i) S = _
      rw [fX11_knows_30, if_pos (nI_le (Nat.le_refl _) (by omega))]
      unfold fX11_knows_47
      rw [nx_eq, nI_s]
  · rintro f S ⟨g1, -⟩
    have o := g1.on [(73, 73, none)] (by decide) (by decide)
    show fX11_knows_20 K (f + 1) (nI n) S = _
    rw [fX11_knows_20, e_voters, Option.bind_some, o.i 73 0 rfl, h10, if_pos (nI_le (Nat.le_refl _) (by omega))]
/-- both rows are one -/
theorem lines_eq {M : Mem} (hc : LC M) (hr : LR M) : ∃ s, s ≤ 105 ∧ LnK M s (lnS (cD M) (cD M).1 0) ∧ M.1 47 27 = nI s ∧ ∀ i, i < s → M.1 79 i = M.1 27 i ∧ M.1 80 i = M.1 28 i ∧ M.1 81 i = M.1 29 i := by
  obtain ⟨s, s1, s2⟩ := hc
  obtain ⟨t, t1, t2⟩ := hr
  obtain ⟨e, q⟩ := SR.one ln_irr (fun a b c => ln_tr) s2.2.2 t2.2.2
  subst e
  refine ⟨s, s1, s2, t2.1, fun i hi => ?_⟩
  have := q i hi
  unfold lo loR lnOf at this
  simp only [Prod.mk.injEq, ← fa_eq] at this
  exact ⟨this.1.symm, this.2.1.symm, this.2.2.symm⟩
/-- Lines' cache -/
def LK (M : Mem) : Prop := M.1 26 5 = M.1 1 14 → LC M
theorem LC_on {M M1 : Mem} (h : on [(1, 7, none), (26, 26, some 4), (27, 29, none)] M M1) (hl : LC M) : LC M1 := by
  obtain ⟨s, h1, h2, h3, h4⟩ := hl
  have e : cD M1 = cD M := cD_on (h.sub (by decide))
  refine ⟨s, h1, (h.i 26 4 rfl).trans h2, fun i hi => ?_, ?_⟩
  · rw [h.i 27 i rfl, h.i 28 i rfl, h.i 29 i rfl]; exact h3 i hi
  · rw [e]
    refine h4.cg (fun i hi => ?_) (fun _ => Iff.rfl)
    unfold lo
    rw [h.i 27 i rfl, h.i 28 i rfl, h.i 29 i rfl]
theorem LR_on {M M1 : Mem} (h : on [(1, 7, none), (47, 47, some 27), (79, 81, none)] M M1) (hl : LR M) : LR M1 := by
  obtain ⟨s, h1, h2, h3, h4⟩ := hl
  have e : cD M1 = cD M := cD_on (h.sub (by decide))
  refine ⟨s, h1, (h.i 47 27 rfl).trans h2, fun i hi => ?_, ?_⟩
  · rw [h.i 79 i rfl, h.i 80 i rfl, h.i 81 i rfl]; exact h3 i hi
  · rw [e]
    refine h4.cg (fun i hi => ?_) (fun _ => Iff.rfl)
    unfold loR
    rw [h.i 79 i rfl, h.i 80 i rfl, h.i 81 i rfl]
theorem LK_on {M M1 : Mem} (h : on [(1, 7, none), (26, 29, none)] M M1) (hl : LK M) : LK M1 := by
  intro q
  rw [h.i 26 5 rfl, h.i 1 14 rfl] at q
  exact LC_on (h.sub (by decide)) (hl q)
theorem k_lrefresh {M : Mem} {n p : Nat} (h : DI M n p) (hl : LK M) : ∃ M1, fX2_refresh M = some M1 ∧ LC M1 ∧ M1.1 26 5 = M.1 1 14 ∧ sm [(26, 26, some 4), (26, 26, some 5), (27, 29, none)] M M1 ∧ (M.1 26 5 = M.1 1 14 → M1 = M) := by
  unfold fX2_refresh
  by_cases c : M.1 26 5 = M.1 1 14
  · rw [if_pos c]
    exact ⟨M, rfl, hl c, c, sm_rf, fun _ => rfl⟩
  · rw [if_neg c, nx_eq, nx_eq]
    have sm1 : sm [(26, 26, some 4), (26, 26, some 5), (27, 29, none)] M (sI (sI M 26 5 (M.1 1 14)) 26 4 0) := (sm_rf.I (by rfl)).I (by rfl)
    obtain ⟨M1, q1, q2, q3⟩ := k_lines (M := sI (sI M 26 5 (M.1 1 14)) 26 4 0) (DI_on (sm1.on _ (by decide) (by decide)) h) (sI_at ..)
    refine ⟨M1, q1, q2, ?_, sm1.tr (q3.up (by decide)), fun q => absurd q c⟩
    rw [(q3.on [(26, 26, some 5)] (by decide) (by decide)).i 26 5 rfl]
    simp [sI]
