/-! which cells a method writes: from cell to cell, all slots or one -/
abbrev Rg : Type := List (Nat × Nat × Option Nat)
def inS (L : Rg) (k j : Nat) : Bool := L.any (fun p => decide (p.1 ≤ k) && (decide (k ≤ p.2.1) && (match p.2.2 with | none => true | some i => i == j)))
/-- outside L the memories are the same -/
def sm (L : Rg) (M M1 : Mem) : Prop := ∀ k j, k < 147 → inS L k j = false → M1.1 k j = M.1 k j ∧ M1.2 k j = M.2 k j
theorem sm_rf {L : Rg} {M : Mem} : sm L M M := fun _ _ _ _ => ⟨rfl, rfl⟩
theorem inS_of {L : Rg} {k j : Nat} (p : Nat × Nat × Option Nat) (hp : p ∈ L) (h1 : p.1 ≤ k) (h2 : k ≤ p.2.1) (h3 : p.2.2 = none ∨ p.2.2 = some j) : inS L k j = true := by
  unfold inS
  refine List.any_eq_true.mpr ⟨p, hp, ?_⟩
  rcases h3 with h3 | h3 <;> simp [h1, h2, h3]
theorem inS_n (k j : Nat) : inS [(k, k, none)] k j = true := inS_of (k, k, none) (by simp) (Nat.le_refl _) (Nat.le_refl _) (Or.inl rfl)
theorem inS_s (k j : Nat) : inS [(k, k, some j)] k j = true := inS_of (k, k, some j) (by simp) (Nat.le_refl _) (Nat.le_refl _) (Or.inr rfl)
theorem sm_I {L : Rg} {M M2 M1 : Mem} {k j : Nat} {v : Int32} (e : M2 = sI M k j v) (hk : inS L k j = true) (h : sm L M2 M1) : sm L M M1 := fun a i hb ha => by
  have hn : ¬ (a = k ∧ i = j) := fun q => by rw [q.1, q.2, hk] at ha; cases ha
  have h1 := h a i hb ha
  rw [e] at h1
  refine ⟨h1.1.trans ?_, h1.2⟩
  simp only [sI]
  rw [if_neg hn]
theorem sm_L {L : Rg} {M M2 M1 : Mem} {k j : Nat} {v : Int64} (e : M2 = sL M k j v) (hk : inS L k j = true) (h : sm L M2 M1) : sm L M M1 := fun a i hb ha => by
  have hn : ¬ (a = k ∧ i = j) := fun q => by rw [q.1, q.2, hk] at ha; cases ha
  have h1 := h a i hb ha
  rw [e] at h1
  refine ⟨h1.1, h1.2.trans ?_⟩
  simp only [sL]
  rw [if_neg hn]
def subS (L0 L : Rg) : Bool := L0.all (fun p => L.any (fun q => decide (q.1 ≤ p.1) && (decide (p.2.1 ≤ q.2.1) && (decide (q.2.2 = none) || decide (q.2.2 = p.2.2)))))
theorem subS_in {L0 L : Rg} (h : subS L0 L = true) {k j : Nat} (hk : inS L k j = false) : inS L0 k j = false := by
  cases hc : inS L0 k j with
  | false => rfl
  | true =>
    obtain ⟨p, hp, h1⟩ := List.any_eq_true.mp hc
    obtain ⟨q, hq, h2⟩ := List.any_eq_true.mp (List.all_eq_true.mp h p hp)
    simp only [Bool.and_eq_true, Bool.or_eq_true, decide_eq_true_eq] at h1 h2
    have h3 : p.2.2 = none ∨ p.2.2 = some j := by
      cases hp2 : p.2.2 with
      | none => exact Or.inl rfl
      | some i =>
        have := h1.2.2
        rw [hp2] at this
        simp at this
        exact Or.inr (by rw [this])
    rw [inS_of q hq (by omega) (by omega) (by
      rcases h2.2.2 with h4 | h4
      · exact Or.inl h4
      · rw [h4]; exact h3)] at hk
    cases hk
theorem inS_up {L0 L : Rg} (h : subS L0 L = true) {k j : Nat} (hk : inS L0 k j = true) : inS L k j = true := by
  cases hc : inS L k j with
  | true => rfl
  | false => rw [subS_in h hc] at hk; cases hk
theorem sm_tr {L0 L : Rg} {M M2 M1 : Mem} (h : sm L0 M M2) (hs : subS L0 L = true) (h1 : sm L M2 M1) : sm L M M1 := fun k j hb hk =>
  ⟨(h1 k j hb hk).1.trans (h k j hb (subS_in hs hk)).1, (h1 k j hb hk).2.trans (h k j hb (subS_in hs hk)).2⟩
theorem sX8_clear_t_0 {M1 : Mem} : ∀ {M : Mem}, fX8_clear_t M = some M1 → sm [(1, 1, some 0), (1, 1, some 7), (1, 1, some 8), (1, 1, some 11), (1, 1, some 12), (1, 1, some 13)] M M1 := by
  intro M hf
  unfold fX8_clear_t at hf
  obtain ⟨M2, e2⟩ : ∃ y : Mem, y = (sI M 1 0 (0 : Int32)) := ⟨_, rfl⟩
  have hf := nx_at e2 hf
  refine sm_I e2 (inS_up (L0 := [(1, 1, some 0)]) (by decide) (inS_s 1 0)) ?_
  obtain ⟨M7, e7⟩ : ∃ y : Mem, y = (sI M2 1 7 (0 : Int32)) := ⟨_, rfl⟩
  have hf := nx_at e7 hf
  refine sm_I e7 (inS_up (L0 := [(1, 1, some 7)]) (by decide) (inS_s 1 7)) ?_
  obtain ⟨M12, e12⟩ : ∃ y : Mem, y = (sI M7 1 8 (0 : Int32)) := ⟨_, rfl⟩
  have hf := nx_at e12 hf
  refine sm_I e12 (inS_up (L0 := [(1, 1, some 8)]) (by decide) (inS_s 1 8)) ?_
  obtain ⟨M17, e17⟩ : ∃ y : Mem, y = (sI M12 1 11 (0 : Int32)) := ⟨_, rfl⟩
  have hf := nx_at e17 hf
  refine sm_I e17 (inS_up (L0 := [(1, 1, some 11)]) (by decide) (inS_s 1 11)) ?_
  obtain ⟨M22, e22⟩ : ∃ y : Mem, y = (sI M17 1 12 (1 : Int32)) := ⟨_, rfl⟩
  have hf := nx_at e22 hf
  refine sm_I e22 (inS_up (L0 := [(1, 1, some 12)]) (by decide) (inS_s 1 12)) ?_
  obtain ⟨M27, e27⟩ : ∃ y : Mem, y = (sI M22 1 13 (1 : Int32)) := ⟨_, rfl⟩
  have hf := nx_at e27 hf
  refine sm_I e27 (inS_up (L0 := [(1, 1, some 13)]) (by decide) (inS_s 1 13)) ?_
  cases hf
  exact sm_rf
theorem ssX8_clear_t {M : Mem} {M1 : Mem} (h : fX8_clear_t M = some M1) : sm [(1, 1, some 0), (1, 1, some 7), (1, 1, some 8), (1, 1, some 11), (1, 1, some 12), (1, 1, some 13)] M M1 := sX8_clear_t_0 h
theorem sX8_addVoter_t_0 {M1 : Mem} : ∀ {x1 : Int32} {x2 : Int32} {x3 : Int32} {x4 : Int32} {x5 : Int32} {x6 : Int32} {M : Mem}, fX8_addVoter_t x1 x2 x3 x4 x5 x6 M = some M1 → sm [(2, 7, none), (1, 1, some 0), (1, 1, some 7), (1, 1, some 14)] M M1 := by
  intro x1 x2 x3 x4 x5 x6 M hf
  unfold fX8_addVoter_t at hf
  by_cases q6 : (M.1 1 0) < (15 : Int32)
  · have hf := (br_if hf).1 q6
    obtain ⟨g19, hf⟩ := br_g hf
    obtain ⟨M19, e19⟩ : ∃ y : Mem, y = (sI M 2 (ix (M.1 1 0)) x1) := ⟨_, rfl⟩
    have hf := nx_at e19 hf
    refine sm_I e19 (inS_up (L0 := [(2, 2, none)]) (by decide) (inS_n 2 _)) ?_
    obtain ⟨g29, hf⟩ := br_g hf
    obtain ⟨M29, e29⟩ : ∃ y : Mem, y = (sI M19 3 (ix (M19.1 1 0)) x2) := ⟨_, rfl⟩
    have hf := nx_at e29 hf
    refine sm_I e29 (inS_up (L0 := [(3, 3, none)]) (by decide) (inS_n 3 _)) ?_
    obtain ⟨g39, hf⟩ := br_g hf
    obtain ⟨M39, e39⟩ : ∃ y : Mem, y = (sI M29 4 (ix (M29.1 1 0)) x3) := ⟨_, rfl⟩
    have hf := nx_at e39 hf
    refine sm_I e39 (inS_up (L0 := [(4, 4, none)]) (by decide) (inS_n 4 _)) ?_
    obtain ⟨g50, hf⟩ := br_g hf
    obtain ⟨M50, e50⟩ : ∃ y : Mem, y = (sI M39 5 (ix (M39.1 1 0)) x4) := ⟨_, rfl⟩
    have hf := nx_at e50 hf
    refine sm_I e50 (inS_up (L0 := [(5, 5, none)]) (by decide) (inS_n 5 _)) ?_
    obtain ⟨g61, hf⟩ := br_g hf
    obtain ⟨M61, e61⟩ : ∃ y : Mem, y = (sI M50 6 (ix (M50.1 1 0)) x5) := ⟨_, rfl⟩
    have hf := nx_at e61 hf
    refine sm_I e61 (inS_up (L0 := [(6, 6, none)]) (by decide) (inS_n 6 _)) ?_
    obtain ⟨g72, hf⟩ := br_g hf
    obtain ⟨M72, e72⟩ : ∃ y : Mem, y = (sI M61 7 (ix (M61.1 1 0)) x6) := ⟨_, rfl⟩
    have hf := nx_at e72 hf
    refine sm_I e72 (inS_up (L0 := [(7, 7, none)]) (by decide) (inS_n 7 _)) ?_
    obtain ⟨M80, e80⟩ : ∃ y : Mem, y = (sI M72 1 0 ((M72.1 1 0) + (1 : Int32))) := ⟨_, rfl⟩
    have hf := nx_at e80 hf
    refine sm_I e80 (inS_up (L0 := [(1, 1, some 0)]) (by decide) (inS_s 1 0)) ?_
    obtain ⟨M90, e90⟩ : ∃ y : Mem, y = (sI M80 1 7 ((M80.1 1 7) + x3)) := ⟨_, rfl⟩
    have hf := nx_at e90 hf
    refine sm_I e90 (inS_up (L0 := [(1, 1, some 7)]) (by decide) (inS_s 1 7)) ?_
    obtain ⟨M100, e100⟩ : ∃ y : Mem, y = (sI M90 1 14 ((M90.1 1 14) + (1 : Int32))) := ⟨_, rfl⟩
    have hf := nx_at e100 hf
    refine sm_I e100 (inS_up (L0 := [(1, 1, some 14)]) (by decide) (inS_s 1 14)) ?_
    cases hf
    exact sm_rf
  · have hf := (br_if hf).2 q6
    cases hf
    exact sm_rf
theorem ssX8_addVoter_t {x1 : Int32} {x2 : Int32} {x3 : Int32} {x4 : Int32} {x5 : Int32} {x6 : Int32} {M : Mem} {M1 : Mem} (h : fX8_addVoter_t x1 x2 x3 x4 x5 x6 M = some M1) : sm [(2, 7, none), (1, 1, some 0), (1, 1, some 7), (1, 1, some 14)] M M1 := sX8_addVoter_t_0 h
theorem sX8_addPlace_t_0 {M1 : Mem} : ∀ {x1 : Int32} {x2 : Int32} {M : Mem}, fX8_addPlace_t x1 x2 M = some M1 → sm [(8, 9, none), (1, 1, some 8), (1, 1, some 15)] M M1 := by
  intro x1 x2 M hf
  unfold fX8_addPlace_t at hf
  by_cases q6 : (M.1 1 8) < (20 : Int32)
  · have hf := (br_if hf).1 q6
    obtain ⟨g19, hf⟩ := br_g hf
    obtain ⟨M19, e19⟩ : ∃ y : Mem, y = (sI M 8 (ix (M.1 1 8)) x1) := ⟨_, rfl⟩
    have hf := nx_at e19 hf
    refine sm_I e19 (inS_up (L0 := [(8, 8, none)]) (by decide) (inS_n 8 _)) ?_
    obtain ⟨g29, hf⟩ := br_g hf
    obtain ⟨M29, e29⟩ : ∃ y : Mem, y = (sI M19 9 (ix (M19.1 1 8)) x2) := ⟨_, rfl⟩
    have hf := nx_at e29 hf
    refine sm_I e29 (inS_up (L0 := [(9, 9, none)]) (by decide) (inS_n 9 _)) ?_
    obtain ⟨M37, e37⟩ : ∃ y : Mem, y = (sI M29 1 8 ((M29.1 1 8) + (1 : Int32))) := ⟨_, rfl⟩
    have hf := nx_at e37 hf
    refine sm_I e37 (inS_up (L0 := [(1, 1, some 8)]) (by decide) (inS_s 1 8)) ?_
    obtain ⟨M47, e47⟩ : ∃ y : Mem, y = (sI M37 1 15 ((M37.1 1 15) + (1 : Int32))) := ⟨_, rfl⟩
    have hf := nx_at e47 hf
    refine sm_I e47 (inS_up (L0 := [(1, 1, some 15)]) (by decide) (inS_s 1 15)) ?_
    cases hf
    exact sm_rf
  · have hf := (br_if hf).2 q6
    cases hf
    exact sm_rf
theorem ssX8_addPlace_t {x1 : Int32} {x2 : Int32} {M : Mem} {M1 : Mem} (h : fX8_addPlace_t x1 x2 M = some M1) : sm [(8, 9, none), (1, 1, some 8), (1, 1, some 15)] M M1 := sX8_addPlace_t_0 h
theorem sX8_put_t_0 {M1 : Mem} : ∀ {x1 : Int32} {x2 : Int32} {x3 : Int32} {M : Mem}, fX8_put_t x1 x2 x3 M = some M1 → sm [(2, 3, none), (1, 1, some 14)] M M1 := by
  intro x1 x2 x3 M hf
  unfold fX8_put_t at hf
  obtain ⟨q2, c2, hf⟩ := br_b hf
  by_cases q5 : q2 = 0
  · have hf := (br_if hf).1 q5
    cases hf
    exact sm_rf
  · have hf := (br_if hf).2 q5
    obtain ⟨g15, hf⟩ := br_g hf
    obtain ⟨M15, e15⟩ : ∃ y : Mem, y = (sI M 2 (ix x1) x2) := ⟨_, rfl⟩
    have hf := nx_at e15 hf
    refine sm_I e15 (inS_up (L0 := [(2, 2, none)]) (by decide) (inS_n 2 _)) ?_
    obtain ⟨g22, hf⟩ := br_g hf
    obtain ⟨M22, e22⟩ : ∃ y : Mem, y = (sI M15 3 (ix x1) x3) := ⟨_, rfl⟩
    have hf := nx_at e22 hf
    refine sm_I e22 (inS_up (L0 := [(3, 3, none)]) (by decide) (inS_n 3 _)) ?_
    obtain ⟨M30, e30⟩ : ∃ y : Mem, y = (sI M22 1 14 ((M22.1 1 14) + (1 : Int32))) := ⟨_, rfl⟩
    have hf := nx_at e30 hf
    refine sm_I e30 (inS_up (L0 := [(1, 1, some 14)]) (by decide) (inS_s 1 14)) ?_
    cases hf
    exact sm_rf
theorem ssX8_put_t {x1 : Int32} {x2 : Int32} {x3 : Int32} {M : Mem} {M1 : Mem} (h : fX8_put_t x1 x2 x3 M = some M1) : sm [(2, 3, none), (1, 1, some 14)] M M1 := sX8_put_t_0 h
theorem sX8_takeFrom_t_6 {M1 : Mem} {k66 : Mem → Option Mem} (hk66 : ∀ {M : Mem}, k66 M = some M1 → sm [(2, 9, none), (1, 1, some 0), (1, 1, some 7), (1, 1, some 8), (1, 1, some 11), (1, 1, some 12), (1, 1, some 13), (1, 1, some 14), (1, 1, some 15)] M M1) : ∀ (n : Nat) {x2 : Int32} {M : Mem}, fX8_takeFrom_t_6 k66 n x2 M = some M1 → sm [(2, 9, none), (1, 1, some 0), (1, 1, some 7), (1, 1, some 8), (1, 1, some 11), (1, 1, some 12), (1, 1, some 13), (1, 1, some 14), (1, 1, some 15)] M M1 := by
  intro n
  induction n with
  | zero =>
    intro x2 M hf
    exact absurd (show none = some _ from hf) (fun h => by cases h)
  | succ n ih =>
    intro x2 M hf
    rw [fX8_takeFrom_t_6] at hf
    by_cases q11 : (M.1 12 0) ≤ x2
    · have hf := (br_if hf).1 q11
      exact hk66 hf
    · have hf := (br_if hf).2 q11
      by_cases q17 : (15 : Int32) ≤ x2
      · have hf := (br_if hf).1 q17
        exact hk66 hf
      · have hf := (br_if hf).2 q17
        obtain ⟨g26, hf⟩ := br_g hf
        obtain ⟨g32, hf⟩ := br_g hf
        obtain ⟨g38, hf⟩ := br_g hf
        obtain ⟨g44, hf⟩ := br_g hf
        obtain ⟨g50, hf⟩ := br_g hf
        obtain ⟨g56, hf⟩ := br_g hf
        obtain ⟨q57, c57, hf⟩ := br_b hf
        refine sm_tr (ssX8_addVoter_t c57) (by decide) ?_
        obtain ⟨v60, e60⟩ : ∃ y : Int32, y = (x2 + (1 : Int32)) := ⟨_, rfl⟩
        have hf := nx_at e60 hf
        exact ih hf
theorem sX8_takeFrom_t_68 {M1 : Mem} {k104 : Mem → Option Mem} (hk104 : ∀ {M : Mem}, k104 M = some M1 → sm [(2, 9, none), (1, 1, some 0), (1, 1, some 7), (1, 1, some 8), (1, 1, some 11), (1, 1, some 12), (1, 1, some 13), (1, 1, some 14), (1, 1, some 15)] M M1) : ∀ (n : Nat) {x2 : Int32} {M : Mem}, fX8_takeFrom_t_68 k104 n x2 M = some M1 → sm [(2, 9, none), (1, 1, some 0), (1, 1, some 7), (1, 1, some 8), (1, 1, some 11), (1, 1, some 12), (1, 1, some 13), (1, 1, some 14), (1, 1, some 15)] M M1 := by
  intro n
  induction n with
  | zero =>
    intro x2 M hf
    exact absurd (show none = some _ from hf) (fun h => by cases h)
  | succ n ih =>
    intro x2 M hf
    rw [fX8_takeFrom_t_68] at hf
    by_cases q73 : (M.1 12 8) ≤ x2
    · have hf := (br_if hf).1 q73
      exact hk104 hf
    · have hf := (br_if hf).2 q73
      by_cases q79 : (20 : Int32) ≤ x2
      · have hf := (br_if hf).1 q79
        exact hk104 hf
      · have hf := (br_if hf).2 q79
        obtain ⟨g88, hf⟩ := br_g hf
        obtain ⟨g94, hf⟩ := br_g hf
        obtain ⟨q95, c95, hf⟩ := br_b hf
        refine sm_tr (ssX8_addPlace_t c95) (by decide) ?_
        obtain ⟨v98, e98⟩ : ∃ y : Int32, y = (x2 + (1 : Int32)) := ⟨_, rfl⟩
        have hf := nx_at e98 hf
        exact ih hf
theorem sX8_takeFrom_t_104 {M1 : Mem} : ∀ {M : Mem}, fX8_takeFrom_t_104 M = some M1 → sm [(2, 9, none), (1, 1, some 0), (1, 1, some 7), (1, 1, some 8), (1, 1, some 11), (1, 1, some 12), (1, 1, some 13), (1, 1, some 14), (1, 1, some 15)] M M1 := by
  intro M hf
  unfold fX8_takeFrom_t_104 at hf
  obtain ⟨M109, e109⟩ : ∃ y : Mem, y = (sI M 1 11 (M.1 12 11)) := ⟨_, rfl⟩
  have hf := nx_at e109 hf
  refine sm_I e109 (inS_up (L0 := [(1, 1, some 11)]) (by decide) (inS_s 1 11)) ?_
  obtain ⟨M117, e117⟩ : ∃ y : Mem, y = (sI M109 1 12 (M109.1 12 12)) := ⟨_, rfl⟩
  have hf := nx_at e117 hf
  refine sm_I e117 (inS_up (L0 := [(1, 1, some 12)]) (by decide) (inS_s 1 12)) ?_
  obtain ⟨M125, e125⟩ : ∃ y : Mem, y = (sI M117 1 13 (M117.1 12 13)) := ⟨_, rfl⟩
  have hf := nx_at e125 hf
  refine sm_I e125 (inS_up (L0 := [(1, 1, some 13)]) (by decide) (inS_s 1 13)) ?_
  cases hf
  exact sm_rf
theorem sX8_takeFrom_t_66 {M1 : Mem} : ∀ {M : Mem}, fX8_takeFrom_t_66 M = some M1 → sm [(2, 9, none), (1, 1, some 0), (1, 1, some 7), (1, 1, some 8), (1, 1, some 11), (1, 1, some 12), (1, 1, some 13), (1, 1, some 14), (1, 1, some 15)] M M1 := by
  intro M hf
  unfold fX8_takeFrom_t_66 at hf
  exact sX8_takeFrom_t_68 (fun hf => sX8_takeFrom_t_104 hf) FU hf
theorem sX8_takeFrom_t_0 {M1 : Mem} : ∀ {M : Mem}, fX8_takeFrom_t M = some M1 → sm [(2, 9, none), (1, 1, some 0), (1, 1, some 7), (1, 1, some 8), (1, 1, some 11), (1, 1, some 12), (1, 1, some 13), (1, 1, some 14), (1, 1, some 15)] M M1 := by
  intro M hf
  unfold fX8_takeFrom_t at hf
  obtain ⟨q1, c1, hf⟩ := br_b hf
  refine sm_tr (ssX8_clear_t c1) (by decide) ?_
  exact sX8_takeFrom_t_6 (fun hf => sX8_takeFrom_t_66 hf) FU hf
theorem ssX8_takeFrom_t {M : Mem} {M1 : Mem} (h : fX8_takeFrom_t M = some M1) : sm [(2, 9, none), (1, 1, some 0), (1, 1, some 7), (1, 1, some 8), (1, 1, some 11), (1, 1, some 12), (1, 1, some 13), (1, 1, some 14), (1, 1, some 15)] M M1 := sX8_takeFrom_t_0 h
theorem sX5_set_0 {M1 : Mem} : ∀ {x1 : Int32} {x2 : Int32} {M : Mem}, fX5_set x1 x2 M = some M1 → sm [(46, 46, none)] M M1 := by
  intro x1 x2 M hf
  unfold fX5_set at hf
  obtain ⟨g14, hf⟩ := br_g hf
  obtain ⟨M14, e14⟩ : ∃ y : Mem, y = (sI M 46 (ix (((M.1 45 1) * (9 : Int32)) + x1)) x2) := ⟨_, rfl⟩
  have hf := nx_at e14 hf
  refine sm_I e14 (inS_up (L0 := [(46, 46, none)]) (by decide) (inS_n 46 _)) ?_
  cases hf
  exact sm_rf
theorem ssX5_set {x1 : Int32} {x2 : Int32} {M : Mem} {M1 : Mem} (h : fX5_set x1 x2 M = some M1) : sm [(46, 46, none)] M M1 := sX5_set_0 h
theorem sX5_close_0 {M1 : Mem} : ∀ {x1 : Int32} {x2 : Int32} {x3 : Int32} {x4 : Int32} {M : Mem}, fX5_close x1 x2 x3 x4 M = some M1 → sm [(46, 46, none), (45, 45, some 1)] M M1 := by
  intro x1 x2 x3 x4 M hf
  unfold fX5_close at hf
  by_cases q6 : (M.1 45 1) < (40 : Int32)
  · have hf := (br_if hf).1 q6
    obtain ⟨q13, c13, hf⟩ := br_b hf
    refine sm_tr (ssX5_set c13) (by decide) ?_
    obtain ⟨q19, c19, hf⟩ := br_b hf
    refine sm_tr (ssX5_set c19) (by decide) ?_
    obtain ⟨q26, c26, hf⟩ := br_b hf
    refine sm_tr (ssX5_set c26) (by decide) ?_
    obtain ⟨q34, c34, hf⟩ := br_b hf
    refine sm_tr (ssX5_set c34) (by decide) ?_
    obtain ⟨M44, e44⟩ : ∃ y : Mem, y = (sI q34 45 1 ((q34.1 45 1) + (1 : Int32))) := ⟨_, rfl⟩
    have hf := nx_at e44 hf
    refine sm_I e44 (inS_up (L0 := [(45, 45, some 1)]) (by decide) (inS_s 45 1)) ?_
    cases hf
    exact sm_rf
  · have hf := (br_if hf).2 q6
    cases hf
    exact sm_rf
theorem ssX5_close {x1 : Int32} {x2 : Int32} {x3 : Int32} {x4 : Int32} {M : Mem} {M1 : Mem} (h : fX5_close x1 x2 x3 x4 M = some M1) : sm [(46, 46, none), (45, 45, some 1)] M M1 := sX5_close_0 h
theorem sX5_open_0 {M1 : Mem} : ∀ {x1 : Int32} {x2 : Int32} {x3 : Int32} {x4 : Int32} {x5 : Int32} {M : Mem}, fX5_open x1 x2 x3 x4 x5 M = some M1 → sm [(46, 46, none)] M M1 := by
  intro x1 x2 x3 x4 x5 M hf
  unfold fX5_open at hf
  by_cases q6 : (M.1 45 1) < (40 : Int32)
  · have hf := (br_if hf).1 q6
    obtain ⟨q13, c13, hf⟩ := br_b hf
    refine sm_tr (ssX5_set c13) (by decide) ?_
    obtain ⟨q19, c19, hf⟩ := br_b hf
    refine sm_tr (ssX5_set c19) (by decide) ?_
    obtain ⟨q25, c25, hf⟩ := br_b hf
    refine sm_tr (ssX5_set c25) (by decide) ?_
    obtain ⟨q32, c32, hf⟩ := br_b hf
    refine sm_tr (ssX5_set c32) (by decide) ?_
    obtain ⟨q40, c40, hf⟩ := br_b hf
    refine sm_tr (ssX5_set c40) (by decide) ?_
    cases hf
    exact sm_rf
  · have hf := (br_if hf).2 q6
    cases hf
    exact sm_rf
theorem ssX5_open {x1 : Int32} {x2 : Int32} {x3 : Int32} {x4 : Int32} {x5 : Int32} {M : Mem} {M1 : Mem} (h : fX5_open x1 x2 x3 x4 x5 M = some M1) : sm [(46, 46, none)] M M1 := sX5_open_0 h
theorem sX0_addVotesOf_2 {M1 : Mem} {k51 : Int32 → Mem → Option Mem} (hk51 : ∀ {x1 : Int32} {M : Mem}, k51 x1 M = some M1 → sm [(22, 23, none)] M M1) : ∀ (n : Nat) {x1 : Int32} {x2 : Int32} {M : Mem}, fX0_addVotesOf_2 k51 n x1 x2 M = some M1 → sm [(22, 23, none)] M M1 := by
  intro n
  induction n with
  | zero =>
    intro x1 x2 M hf
    exact absurd (show none = some _ from hf) (fun h => by cases h)
  | succ n ih =>
    intro x1 x2 M hf
    rw [fX0_addVotesOf_2] at hf
    by_cases q10 : (M.1 1 8) ≤ x2
    · have hf := (br_if hf).1 q10
      exact hk51 hf
    · have hf := (br_if hf).2 q10
      obtain ⟨g31, hf⟩ := br_g hf
      obtain ⟨g40, hf⟩ := br_g hf
      obtain ⟨q41, c41, hf⟩ := br_b hf
      obtain ⟨g44, hf⟩ := br_g hf
      obtain ⟨M44, e44⟩ : ∃ y : Mem, y = (sI M 23 (ix x2) q41) := ⟨_, rfl⟩
      have hf := nx_at e44 hf
      refine sm_I e44 (inS_up (L0 := [(23, 23, none)]) (by decide) (inS_n 23 _)) ?_
      obtain ⟨v45, e45⟩ : ∃ y : Int32, y = (x2 + (1 : Int32)) := ⟨_, rfl⟩
      have hf := nx_at e45 hf
      exact ih hf
theorem sX0_addVotesOf_115 {M1 : Mem} {k66 : Int32 → Int32 → Int32 → Mem → Option Mem} {k121 : Int32 → Int32 → Mem → Option Mem} (hk66 : ∀ {x1 : Int32} {x2 : Int32} {x3 : Int32} {M : Mem}, k66 x1 x2 x3 M = some M1 → sm [(22, 23, none)] M M1) (hk121 : ∀ {x1 : Int32} {x2 : Int32} {M : Mem}, k121 x1 x2 M = some M1 → sm [(22, 23, none)] M M1) : ∀ {x1 : Int32} {x2 : Int32} {x3 : Int32} {M : Mem}, fX0_addVotesOf_115 k66 k121 x1 x2 x3 M = some M1 → sm [(22, 23, none)] M M1 := by
  intro x1 x2 x3 M hf
  unfold fX0_addVotesOf_115 at hf
  obtain ⟨v115, e115⟩ : ∃ y : Int32, y = (x3 + (1 : Int32)) := ⟨_, rfl⟩
  have hf := nx_at e115 hf
  exact hk66 hf
theorem sX0_addVotesOf_66 {M1 : Mem} {k121 : Int32 → Int32 → Mem → Option Mem} (hk121 : ∀ {x1 : Int32} {x2 : Int32} {M : Mem}, k121 x1 x2 M = some M1 → sm [(22, 23, none)] M M1) : ∀ (n : Nat) {x1 : Int32} {x2 : Int32} {x3 : Int32} {M : Mem}, fX0_addVotesOf_66 k121 n x1 x2 x3 M = some M1 → sm [(22, 23, none)] M M1 := by
  intro n
  induction n with
  | zero =>
    intro x1 x2 x3 M hf
    exact absurd (show none = some _ from hf) (fun h => by cases h)
  | succ n ih =>
    intro x1 x2 x3 M hf
    rw [fX0_addVotesOf_66] at hf
    by_cases q74 : (M.1 1 8) ≤ x3
    · have hf := (br_if hf).1 q74
      exact hk121 hf
    · have hf := (br_if hf).2 q74
      obtain ⟨g82, hf⟩ := br_g hf
      obtain ⟨g88, hf⟩ := br_g hf
      by_cases q89 : (M.1 23 (ix x3)) ≤ (M.1 23 (ix x2))
      · have hf := (br_if hf).1 q89
        exact sX0_addVotesOf_115 (fun hf => ih hf) (fun hf => hk121 hf) hf
      · have hf := (br_if hf).2 q89
        obtain ⟨g103, hf⟩ := br_g hf
        obtain ⟨g112, hf⟩ := br_g hf
        obtain ⟨g114, hf⟩ := br_g hf
        obtain ⟨M114, e114⟩ : ∃ y : Mem, y = (sI M 22 (ix ((x2 * (20 : Int32)) + x3)) ((M.1 22 (ix ((x2 * (20 : Int32)) + x3))) + (M.1 4 (ix x1)))) := ⟨_, rfl⟩
        have hf := nx_at e114 hf
        refine sm_I e114 (inS_up (L0 := [(22, 22, none)]) (by decide) (inS_n 22 _)) ?_
        exact sX0_addVotesOf_115 (fun hf => ih hf) (fun hf => hk121 hf) hf
theorem sX0_addVotesOf_121 {M1 : Mem} {k53 : Int32 → Int32 → Mem → Option Mem} {k127 : Mem → Option Mem} (hk53 : ∀ {x1 : Int32} {x2 : Int32} {M : Mem}, k53 x1 x2 M = some M1 → sm [(22, 23, none)] M M1) (hk127 : ∀ {M : Mem}, k127 M = some M1 → sm [(22, 23, none)] M M1) : ∀ {x1 : Int32} {x2 : Int32} {M : Mem}, fX0_addVotesOf_121 k53 k127 x1 x2 M = some M1 → sm [(22, 23, none)] M M1 := by
  intro x1 x2 M hf
  unfold fX0_addVotesOf_121 at hf
  obtain ⟨v121, e121⟩ : ∃ y : Int32, y = (x2 + (1 : Int32)) := ⟨_, rfl⟩
  have hf := nx_at e121 hf
  exact hk53 hf
theorem sX0_addVotesOf_53 {M1 : Mem} {k127 : Mem → Option Mem} (hk127 : ∀ {M : Mem}, k127 M = some M1 → sm [(22, 23, none)] M M1) : ∀ (n : Nat) {x1 : Int32} {x2 : Int32} {M : Mem}, fX0_addVotesOf_53 k127 n x1 x2 M = some M1 → sm [(22, 23, none)] M M1 := by
  intro n
  induction n with
  | zero =>
    intro x1 x2 M hf
    exact absurd (show none = some _ from hf) (fun h => by cases h)
  | succ n ih =>
    intro x1 x2 M hf
    rw [fX0_addVotesOf_53] at hf
    by_cases q61 : (M.1 1 8) ≤ x2
    · have hf := (br_if hf).1 q61
      exact hk127 hf
    · have hf := (br_if hf).2 q61
      exact sX0_addVotesOf_66 (fun hf => sX0_addVotesOf_121 (fun hf => ih hf) (fun hf => hk127 hf) hf) FU hf
theorem sX0_addVotesOf_127 {M1 : Mem} : ∀ {M : Mem}, fX0_addVotesOf_127 M = some M1 → sm [(22, 23, none)] M M1 := by
  intro M hf
  unfold fX0_addVotesOf_127 at hf
  cases hf
  exact sm_rf
theorem sX0_addVotesOf_51 {M1 : Mem} : ∀ {x1 : Int32} {M : Mem}, fX0_addVotesOf_51 x1 M = some M1 → sm [(22, 23, none)] M M1 := by
  intro x1 M hf
  unfold fX0_addVotesOf_51 at hf
  exact sX0_addVotesOf_53 (fun hf => sX0_addVotesOf_127 hf) FU hf
theorem sX0_addVotesOf_0 {M1 : Mem} : ∀ {x1 : Int32} {M : Mem}, fX0_addVotesOf x1 M = some M1 → sm [(22, 23, none)] M M1 := by
  intro x1 M hf
  unfold fX0_addVotesOf at hf
  exact sX0_addVotesOf_2 (fun hf => sX0_addVotesOf_51 hf) FU hf
theorem ssX0_addVotesOf {x1 : Int32} {M : Mem} {M1 : Mem} (h : fX0_addVotesOf x1 M = some M1) : sm [(22, 23, none)] M M1 := sX0_addVotesOf_0 h
theorem sX0_findBeaters_59 {M1 : Mem} {k9 : Int32 → Int32 → Mem → Option Mem} {k65 : Mem → Option Mem} (hk9 : ∀ {x1 : Int32} {x2 : Int32} {M : Mem}, k9 x1 x2 M = some M1 → sm [(24, 24, none)] M M1) (hk65 : ∀ {M : Mem}, k65 M = some M1 → sm [(24, 24, none)] M M1) : ∀ {x1 : Int32} {x2 : Int32} {M : Mem}, fX0_findBeaters_59 k9 k65 x1 x2 M = some M1 → sm [(24, 24, none)] M M1 := by
  intro x1 x2 M hf
  unfold fX0_findBeaters_59 at hf
  obtain ⟨v59, e59⟩ : ∃ y : Int32, y = (x2 + (1 : Int32)) := ⟨_, rfl⟩
  have hf := nx_at e59 hf
  exact hk9 hf
theorem sX0_findBeaters_9 {M1 : Mem} {k65 : Mem → Option Mem} (hk65 : ∀ {M : Mem}, k65 M = some M1 → sm [(24, 24, none)] M M1) : ∀ (n : Nat) {x1 : Int32} {x2 : Int32} {M : Mem}, fX0_findBeaters_9 k65 n x1 x2 M = some M1 → sm [(24, 24, none)] M M1 := by
  intro n
  induction n with
  | zero =>
    intro x1 x2 M hf
    exact absurd (show none = some _ from hf) (fun h => by cases h)
  | succ n ih =>
    intro x1 x2 M hf
    rw [fX0_findBeaters_9] at hf
    by_cases q17 : (M.1 1 8) ≤ x2
    · have hf := (br_if hf).1 q17
      exact hk65 hf
    · have hf := (br_if hf).2 q17
      by_cases q22 : x2 = x1
      · have hf := (br_if hf).1 q22
        exact sX0_findBeaters_59 (fun hf => ih hf) (fun hf => hk65 hf) hf
      · have hf := (br_if hf).2 q22
        obtain ⟨q32, c32, hf⟩ := br_b hf
        obtain ⟨q38, c38, hf⟩ := br_b hf
        obtain ⟨q41, c41, hf⟩ := br_b hf
        by_cases q44 : q41 = 0
        · have hf := (br_if hf).1 q44
          exact sX0_findBeaters_59 (fun hf => ih hf) (fun hf => hk65 hf) hf
        · have hf := (br_if hf).2 q44
          obtain ⟨g53, hf⟩ := br_g hf
          obtain ⟨g58, hf⟩ := br_g hf
          obtain ⟨M58, e58⟩ : ∃ y : Mem, y = (sI M 24 (ix x1) ((M.1 24 (ix x1)) ||| ((1 : Int32) <<< (x2 &&& 31)))) := ⟨_, rfl⟩
          have hf := nx_at e58 hf
          refine sm_I e58 (inS_up (L0 := [(24, 24, none)]) (by decide) (inS_n 24 _)) ?_
          exact sX0_findBeaters_59 (fun hf => ih hf) (fun hf => hk65 hf) hf
theorem sX0_findBeaters_65 {M1 : Mem} : ∀ {M : Mem}, fX0_findBeaters_65 M = some M1 → sm [(24, 24, none)] M M1 := by
  intro M hf
  unfold fX0_findBeaters_65 at hf
  cases hf
  exact sm_rf
theorem sX0_findBeaters_0 {M1 : Mem} : ∀ {x1 : Int32} {M : Mem}, fX0_findBeaters x1 M = some M1 → sm [(24, 24, none)] M M1 := by
  intro x1 M hf
  unfold fX0_findBeaters at hf
  obtain ⟨g6, hf⟩ := br_g hf
  obtain ⟨M6, e6⟩ : ∃ y : Mem, y = (sI M 24 (ix x1) (0 : Int32)) := ⟨_, rfl⟩
  have hf := nx_at e6 hf
  refine sm_I e6 (inS_up (L0 := [(24, 24, none)]) (by decide) (inS_n 24 _)) ?_
  exact sX0_findBeaters_9 (fun hf => sX0_findBeaters_65 hf) FU hf
theorem ssX0_findBeaters {x1 : Int32} {M : Mem} {M1 : Mem} (h : fX0_findBeaters x1 M = some M1) : sm [(24, 24, none)] M M1 := sX0_findBeaters_0 h
theorem sJ7_fill_53178_5 {M1 : Mem} {k len : Nat} {k20 : Mem → Option Mem} (hk20 : ∀ {M : Mem}, k20 M = some M1 → sm [(k, k, none)] M M1) : ∀ (n : Nat) {x1 : Int32} {x2 : Int32} {x3 : Int32} {M : Mem}, fJ7_fill_53178_5 k len k20 n x1 x2 x3 M = some M1 → sm [(k, k, none)] M M1 := by
  intro n
  induction n with
  | zero =>
    intro x1 x2 x3 M hf
    exact absurd (show none = some _ from hf) (fun h => by cases h)
  | succ n ih =>
    intro x1 x2 x3 M hf
    rw [fJ7_fill_53178_5] at hf
    by_cases q7 : x3 ≤ x2
    · have hf := (br_if hf).1 q7
      exact hk20 hf
    · have hf := (br_if hf).2 q7
      obtain ⟨g13, hf⟩ := br_g hf
      obtain ⟨M13, e13⟩ : ∃ y : Mem, y = (sI M k (ix x2) x1) := ⟨_, rfl⟩
      have hf := nx_at e13 hf
      refine sm_I e13 (inS_n k _) ?_
      obtain ⟨v14, e14⟩ : ∃ y : Int32, y = (x2 + (1 : Int32)) := ⟨_, rfl⟩
      have hf := nx_at e14 hf
      exact ih hf
theorem sJ7_fill_53178_20 {M1 : Mem} {k len : Nat} : ∀ {M : Mem}, fJ7_fill_53178_20 k len M = some M1 → sm [(k, k, none)] M M1 := by
  intro M hf
  unfold fJ7_fill_53178_20 at hf
  cases hf
  exact sm_rf
theorem sJ7_fill_53178_0 {M1 : Mem} {k len : Nat} : ∀ {x1 : Int32} {M : Mem}, fJ7_fill_53178 k len x1 M = some M1 → sm [(k, k, none)] M M1 := by
  intro x1 M hf
  unfold fJ7_fill_53178 at hf
  obtain ⟨v4, e4⟩ : ∃ y : Int32, y = (nI len) := ⟨_, rfl⟩
  have hf := nx_at e4 hf
  exact sJ7_fill_53178_5 (fun hf => sJ7_fill_53178_20 hf) FU hf
theorem ssJ7_fill_53178 {k len : Nat} {x1 : Int32} {M : Mem} {M1 : Mem} (h : fJ7_fill_53178 k len x1 M = some M1) : sm [(k, k, none)] M M1 := sJ7_fill_53178_0 h
theorem sX0_measureSteps_89 {r : Int32} {M1 : Mem} {k38 : Int32 → Int32 → Int32 → Int32 → Mem → Option (Int32 × Mem)} {k95 : Int32 → Int32 → Mem → Option (Int32 × Mem)} (hk38 : ∀ {x2 : Int32} {x3 : Int32} {x4 : Int32} {x5 : Int32} {M : Mem}, k38 x2 x3 x4 x5 M = some (r, M1) → sm [(25, 25, none)] M M1) (hk95 : ∀ {x2 : Int32} {x3 : Int32} {M : Mem}, k95 x2 x3 M = some (r, M1) → sm [(25, 25, none)] M M1) : ∀ {x2 : Int32} {x3 : Int32} {x4 : Int32} {x5 : Int32} {M : Mem}, fX0_measureSteps_89 k38 k95 x2 x3 x4 x5 M = some (r, M1) → sm [(25, 25, none)] M M1 := by
  intro x2 x3 x4 x5 M hf
  unfold fX0_measureSteps_89 at hf
  obtain ⟨v89, e89⟩ : ∃ y : Int32, y = (x5 + (1 : Int32)) := ⟨_, rfl⟩
  have hf := nx_at e89 hf
  exact hk38 hf
theorem sX0_measureSteps_38 {r : Int32} {M1 : Mem} {k95 : Int32 → Int32 → Mem → Option (Int32 × Mem)} (hk95 : ∀ {x2 : Int32} {x3 : Int32} {M : Mem}, k95 x2 x3 M = some (r, M1) → sm [(25, 25, none)] M M1) : ∀ (n : Nat) {x2 : Int32} {x3 : Int32} {x4 : Int32} {x5 : Int32} {M : Mem}, fX0_measureSteps_38 k95 n x2 x3 x4 x5 M = some (r, M1) → sm [(25, 25, none)] M M1 := by
  intro n
  induction n with
  | zero =>
    intro x2 x3 x4 x5 M hf
    exact absurd (show none = some _ from hf) (fun h => by cases h)
  | succ n ih =>
    intro x2 x3 x4 x5 M hf
    rw [fX0_measureSteps_38] at hf
    by_cases q47 : (M.1 1 8) ≤ x5
    · have hf := (br_if hf).1 q47
      exact hk95 hf
    · have hf := (br_if hf).2 q47
      obtain ⟨g56, hf⟩ := br_g hf
      by_cases q58 : (M.1 25 (ix x5)) = (-1 : Int32)
      · have hf := (br_if hf).1 q58
        obtain ⟨g67, hf⟩ := br_g hf
        by_cases q71 : ((M.1 24 (ix x5)) &&& x4) = 0
        · have hf := (br_if hf).1 q71
          exact sX0_measureSteps_89 (fun hf => ih hf) (fun hf => hk95 hf) hf
        · have hf := (br_if hf).2 q71
          obtain ⟨g81, hf⟩ := br_g hf
          obtain ⟨M81, e81⟩ : ∃ y : Mem, y = (sI M 25 (ix x5) x3) := ⟨_, rfl⟩
          have hf := nx_at e81 hf
          refine sm_I e81 (inS_up (L0 := [(25, 25, none)]) (by decide) (inS_n 25 _)) ?_
          obtain ⟨v88, e88⟩ : ∃ y : Int32, y = (x2 ||| ((1 : Int32) <<< (x5 &&& 31))) := ⟨_, rfl⟩
          have hf := nx_at e88 hf
          exact sX0_measureSteps_89 (fun hf => ih hf) (fun hf => hk95 hf) hf
      · have hf := (br_if hf).2 q58
        exact sX0_measureSteps_89 (fun hf => ih hf) (fun hf => hk95 hf) hf
theorem sX0_measureSteps_95 {r : Int32} {M1 : Mem} {k21 : Int32 → Int32 → Mem → Option (Int32 × Mem)} {k101 : Int32 → Mem → Option (Int32 × Mem)} (hk21 : ∀ {x2 : Int32} {x3 : Int32} {M : Mem}, k21 x2 x3 M = some (r, M1) → sm [(25, 25, none)] M M1) (hk101 : ∀ {x2 : Int32} {M : Mem}, k101 x2 M = some (r, M1) → sm [(25, 25, none)] M M1) : ∀ {x2 : Int32} {x3 : Int32} {M : Mem}, fX0_measureSteps_95 k21 k101 x2 x3 M = some (r, M1) → sm [(25, 25, none)] M M1 := by
  intro x2 x3 M hf
  unfold fX0_measureSteps_95 at hf
  obtain ⟨v95, e95⟩ : ∃ y : Int32, y = (x3 + (1 : Int32)) := ⟨_, rfl⟩
  have hf := nx_at e95 hf
  exact hk21 hf
theorem sX0_measureSteps_21 {r : Int32} {M1 : Mem} {k101 : Int32 → Mem → Option (Int32 × Mem)} (hk101 : ∀ {x2 : Int32} {M : Mem}, k101 x2 M = some (r, M1) → sm [(25, 25, none)] M M1) : ∀ (n : Nat) {x2 : Int32} {x3 : Int32} {M : Mem}, fX0_measureSteps_21 k101 n x2 x3 M = some (r, M1) → sm [(25, 25, none)] M M1 := by
  intro n
  induction n with
  | zero =>
    intro x2 x3 M hf
    exact absurd (show none = some _ from hf) (fun h => by cases h)
  | succ n ih =>
    intro x2 x3 M hf
    rw [fX0_measureSteps_21] at hf
    by_cases q29 : (M.1 1 8) ≤ x3
    · have hf := (br_if hf).1 q29
      exact hk101 hf
    · have hf := (br_if hf).2 q29
      exact sX0_measureSteps_38 (fun hf => sX0_measureSteps_95 (fun hf => ih hf) (fun hf => hk101 hf) hf) FU hf
theorem sX0_measureSteps_101 {r : Int32} {M1 : Mem} : ∀ {x2 : Int32} {M : Mem}, fX0_measureSteps_101 x2 M = some (r, M1) → sm [(25, 25, none)] M M1 := by
  intro x2 M hf
  unfold fX0_measureSteps_101 at hf
  cases hf
  exact sm_rf
theorem sX0_measureSteps_0 {r : Int32} {M1 : Mem} : ∀ {x1 : Int32} {M : Mem}, fX0_measureSteps x1 M = some (r, M1) → sm [(25, 25, none)] M M1 := by
  intro x1 M hf
  unfold fX0_measureSteps at hf
  obtain ⟨q5, c5, hf⟩ := br_b hf
  refine sm_tr (ssJ7_fill_53178 c5) (by decide) ?_
  obtain ⟨g14, hf⟩ := br_g hf
  obtain ⟨M14, e14⟩ : ∃ y : Mem, y = (sI q5 25 (ix x1) (0 : Int32)) := ⟨_, rfl⟩
  have hf := nx_at e14 hf
  refine sm_I e14 (inS_up (L0 := [(25, 25, none)]) (by decide) (inS_n 25 _)) ?_
  obtain ⟨v18, e18⟩ : ∃ y : Int32, y = ((1 : Int32) <<< (x1 &&& 31)) := ⟨_, rfl⟩
  have hf := nx_at e18 hf
  exact sX0_measureSteps_21 (fun hf => sX0_measureSteps_101 hf) FU hf
theorem ssX0_measureSteps {x1 : Int32} {M : Mem} {r : Int32} {M1 : Mem} (h : fX0_measureSteps x1 M = some (r, M1)) : sm [(25, 25, none)] M M1 := sX0_measureSteps_0 h
theorem sX0_reachingAll_42 {r : Int32} {M1 : Mem} {k16 : Int32 → Int32 → Int32 → Mem → Option (Int32 × Mem)} {k48 : Int32 → Mem → Option (Int32 × Mem)} (hk16 : ∀ {x1 : Int32} {x2 : Int32} {x3 : Int32} {M : Mem}, k16 x1 x2 x3 M = some (r, M1) → sm [(25, 25, none)] M M1) (hk48 : ∀ {x2 : Int32} {M : Mem}, k48 x2 M = some (r, M1) → sm [(25, 25, none)] M M1) : ∀ {x1 : Int32} {x2 : Int32} {x3 : Int32} {M : Mem}, fX0_reachingAll_42 k16 k48 x1 x2 x3 M = some (r, M1) → sm [(25, 25, none)] M M1 := by
  intro x1 x2 x3 M hf
  unfold fX0_reachingAll_42 at hf
  obtain ⟨v42, e42⟩ : ∃ y : Int32, y = (x3 + (1 : Int32)) := ⟨_, rfl⟩
  have hf := nx_at e42 hf
  exact hk16 hf
theorem sX0_reachingAll_16 {r : Int32} {M1 : Mem} {k48 : Int32 → Mem → Option (Int32 × Mem)} (hk48 : ∀ {x2 : Int32} {M : Mem}, k48 x2 M = some (r, M1) → sm [(25, 25, none)] M M1) : ∀ (n : Nat) {x1 : Int32} {x2 : Int32} {x3 : Int32} {M : Mem}, fX0_reachingAll_16 k48 n x1 x2 x3 M = some (r, M1) → sm [(25, 25, none)] M M1 := by
  intro n
  induction n with
  | zero =>
    intro x1 x2 x3 M hf
    exact absurd (show none = some _ from hf) (fun h => by cases h)
  | succ n ih =>
    intro x1 x2 x3 M hf
    rw [fX0_reachingAll_16] at hf
    by_cases q24 : (M.1 1 8) ≤ x3
    · have hf := (br_if hf).1 q24
      exact hk48 hf
    · have hf := (br_if hf).2 q24
      obtain ⟨q29, c29, hf⟩ := br_b hf
      refine sm_tr (ssX0_measureSteps c29) (by decide) ?_
      by_cases q33 : q29.1 = x1
      · have hf := (br_if hf).1 q33
        obtain ⟨v41, e41⟩ : ∃ y : Int32, y = (x2 ||| ((1 : Int32) <<< (x3 &&& 31))) := ⟨_, rfl⟩
        have hf := nx_at e41 hf
        exact sX0_reachingAll_42 (fun hf => ih hf) (fun hf => hk48 hf) hf
      · have hf := (br_if hf).2 q33
        exact sX0_reachingAll_42 (fun hf => ih hf) (fun hf => hk48 hf) hf
theorem sX0_reachingAll_48 {r : Int32} {M1 : Mem} : ∀ {x2 : Int32} {M : Mem}, fX0_reachingAll_48 x2 M = some (r, M1) → sm [(25, 25, none)] M M1 := by
  intro x2 M hf
  unfold fX0_reachingAll_48 at hf
  cases hf
  exact sm_rf
theorem sX0_reachingAll_0 {r : Int32} {M1 : Mem} : ∀ {M : Mem}, fX0_reachingAll M = some (r, M1) → sm [(25, 25, none)] M M1 := by
  intro M hf
  unfold fX0_reachingAll at hf
  obtain ⟨v11, e11⟩ : ∃ y : Int32, y = (((1 : Int32) <<< ((M.1 1 8) &&& 31)) - (1 : Int32)) := ⟨_, rfl⟩
  have hf := nx_at e11 hf
  exact sX0_reachingAll_16 (fun hf => sX0_reachingAll_48 hf) FU hf
theorem ssX0_reachingAll {M : Mem} {r : Int32} {M1 : Mem} (h : fX0_reachingAll M = some (r, M1)) : sm [(25, 25, none)] M M1 := sX0_reachingAll_0 h
theorem sX0_refresh_61 {M1 : Mem} {k83 : Mem → Option Mem} (hk83 : ∀ {M : Mem}, k83 M = some M1 → sm [(22, 24, none), (21, 21, some 5), (21, 21, some 6), (21, 21, some 7), (21, 21, some 8)] M M1) : ∀ (n : Nat) {x1 : Int32} {M : Mem}, fX0_refresh_61 k83 n x1 M = some M1 → sm [(22, 24, none), (21, 21, some 5), (21, 21, some 6), (21, 21, some 7), (21, 21, some 8)] M M1 := by
  intro n
  induction n with
  | zero =>
    intro x1 M hf
    exact absurd (show none = some _ from hf) (fun h => by cases h)
  | succ n ih =>
    intro x1 M hf
    rw [fX0_refresh_61] at hf
    by_cases q69 : (M.1 1 0) ≤ x1
    · have hf := (br_if hf).1 q69
      exact hk83 hf
    · have hf := (br_if hf).2 q69
      obtain ⟨q74, c74, hf⟩ := br_b hf
      refine sm_tr (ssX0_addVotesOf c74) (by decide) ?_
      obtain ⟨v77, e77⟩ : ∃ y : Int32, y = (x1 + (1 : Int32)) := ⟨_, rfl⟩
      have hf := nx_at e77 hf
      exact ih hf
theorem sX0_refresh_151 {M1 : Mem} {k95 : Int32 → Mem → Option Mem} {k157 : Mem → Option Mem} (hk95 : ∀ {x1 : Int32} {M : Mem}, k95 x1 M = some M1 → sm [(22, 24, none), (21, 21, some 5), (21, 21, some 6), (21, 21, some 7), (21, 21, some 8)] M M1) (hk157 : ∀ {M : Mem}, k157 M = some M1 → sm [(22, 24, none), (21, 21, some 5), (21, 21, some 6), (21, 21, some 7), (21, 21, some 8)] M M1) : ∀ {x1 : Int32} {M : Mem}, fX0_refresh_151 k95 k157 x1 M = some M1 → sm [(22, 24, none), (21, 21, some 5), (21, 21, some 6), (21, 21, some 7), (21, 21, some 8)] M M1 := by
  intro x1 M hf
  unfold fX0_refresh_151 at hf
  obtain ⟨v151, e151⟩ : ∃ y : Int32, y = (x1 + (1 : Int32)) := ⟨_, rfl⟩
  have hf := nx_at e151 hf
  exact hk95 hf
theorem sX0_refresh_95 {M1 : Mem} {k157 : Mem → Option Mem} (hk157 : ∀ {M : Mem}, k157 M = some M1 → sm [(22, 24, none), (21, 21, some 5), (21, 21, some 6), (21, 21, some 7), (21, 21, some 8)] M M1) : ∀ (n : Nat) {x1 : Int32} {M : Mem}, fX0_refresh_95 k157 n x1 M = some M1 → sm [(22, 24, none), (21, 21, some 5), (21, 21, some 6), (21, 21, some 7), (21, 21, some 8)] M M1 := by
  intro n
  induction n with
  | zero =>
    intro x1 M hf
    exact absurd (show none = some _ from hf) (fun h => by cases h)
  | succ n ih =>
    intro x1 M hf
    rw [fX0_refresh_95] at hf
    by_cases q103 : (M.1 1 8) ≤ x1
    · have hf := (br_if hf).1 q103
      exact hk157 hf
    · have hf := (br_if hf).2 q103
      obtain ⟨q108, c108, hf⟩ := br_b hf
      refine sm_tr (ssX0_findBeaters c108) (by decide) ?_
      obtain ⟨g121, hf⟩ := br_g hf
      obtain ⟨q122, c122, hf⟩ := br_b hf
      obtain ⟨M126, e126⟩ : ∃ y : Mem, y = (sI q108 21 5 ((q108.1 21 5) + q122)) := ⟨_, rfl⟩
      have hf := nx_at e126 hf
      refine sm_I e126 (inS_up (L0 := [(21, 21, some 5)]) (by decide) (inS_s 21 5)) ?_
      by_cases q134 : (M126.1 21 6) = (-1 : Int32)
      · have hf := (br_if hf).1 q134
        obtain ⟨g142, hf⟩ := br_g hf
        by_cases q143 : (M126.1 24 (ix x1)) = 0
        · have hf := (br_if hf).1 q143
          obtain ⟨M148, e148⟩ : ∃ y : Mem, y = (sI M126 21 6 x1) := ⟨_, rfl⟩
          have hf := nx_at e148 hf
          refine sm_I e148 (inS_up (L0 := [(21, 21, some 6)]) (by decide) (inS_s 21 6)) ?_
          exact sX0_refresh_151 (fun hf => ih hf) (fun hf => hk157 hf) hf
        · have hf := (br_if hf).2 q143
          exact sX0_refresh_151 (fun hf => ih hf) (fun hf => hk157 hf) hf
      · have hf := (br_if hf).2 q134
        exact sX0_refresh_151 (fun hf => ih hf) (fun hf => hk157 hf) hf
theorem sX0_refresh_157 {M1 : Mem} : ∀ {M : Mem}, fX0_refresh_157 M = some M1 → sm [(22, 24, none), (21, 21, some 5), (21, 21, some 6), (21, 21, some 7), (21, 21, some 8)] M M1 := by
  intro M hf
  unfold fX0_refresh_157 at hf
  cases hf
  exact sm_rf
theorem sX0_refresh_83 {M1 : Mem} : ∀ {M : Mem}, fX0_refresh_83 M = some M1 → sm [(22, 24, none), (21, 21, some 5), (21, 21, some 6), (21, 21, some 7), (21, 21, some 8)] M M1 := by
  intro M hf
  unfold fX0_refresh_83 at hf
  obtain ⟨M85, e85⟩ : ∃ y : Mem, y = (sI M 21 5 (0 : Int32)) := ⟨_, rfl⟩
  have hf := nx_at e85 hf
  refine sm_I e85 (inS_up (L0 := [(21, 21, some 5)]) (by decide) (inS_s 21 5)) ?_
  obtain ⟨M90, e90⟩ : ∃ y : Mem, y = (sI M85 21 6 (-1 : Int32)) := ⟨_, rfl⟩
  have hf := nx_at e90 hf
  refine sm_I e90 (inS_up (L0 := [(21, 21, some 6)]) (by decide) (inS_s 21 6)) ?_
  exact sX0_refresh_95 (fun hf => sX0_refresh_157 hf) FU hf
theorem sX0_refresh_29 {M1 : Mem} : ∀ {M : Mem}, fX0_refresh_29 M = some M1 → sm [(22, 24, none), (21, 21, some 5), (21, 21, some 6), (21, 21, some 7), (21, 21, some 8)] M M1 := by
  intro M hf
  unfold fX0_refresh_29 at hf
  obtain ⟨M37, e37⟩ : ∃ y : Mem, y = (sI M 21 7 (M.1 1 14)) := ⟨_, rfl⟩
  have hf := nx_at e37 hf
  refine sm_I e37 (inS_up (L0 := [(21, 21, some 7)]) (by decide) (inS_s 21 7)) ?_
  obtain ⟨M48, e48⟩ : ∃ y : Mem, y = (sI M37 21 8 (M37.1 1 15)) := ⟨_, rfl⟩
  have hf := nx_at e48 hf
  refine sm_I e48 (inS_up (L0 := [(21, 21, some 8)]) (by decide) (inS_s 21 8)) ?_
  obtain ⟨q56, c56, hf⟩ := br_b hf
  refine sm_tr (ssJ7_fill_53178 c56) (by decide) ?_
  exact sX0_refresh_61 (fun hf => sX0_refresh_83 hf) FU hf
theorem sX0_refresh_0 {M1 : Mem} : ∀ {M : Mem}, fX0_refresh M = some M1 → sm [(22, 24, none), (21, 21, some 5), (21, 21, some 6), (21, 21, some 7), (21, 21, some 8)] M M1 := by
  intro M hf
  unfold fX0_refresh at hf
  by_cases q11 : (M.1 21 7) = (M.1 1 14)
  · have hf := (br_if hf).1 q11
    by_cases q25 : (M.1 21 8) = (M.1 1 15)
    · have hf := (br_if hf).1 q25
      cases hf
      exact sm_rf
    · have hf := (br_if hf).2 q25
      exact sX0_refresh_29 hf
  · have hf := (br_if hf).2 q11
    exact sX0_refresh_29 hf
theorem ssX0_refresh {M : Mem} {M1 : Mem} (h : fX0_refresh M = some M1) : sm [(22, 24, none), (21, 21, some 5), (21, 21, some 6), (21, 21, some 7), (21, 21, some 8)] M M1 := sX0_refresh_0 h
theorem sX2_insert_3 {M1 : Mem} {k30 : Int32 → Int32 → Int32 → Int32 → Mem → Option Mem} (hk30 : ∀ {x1 : Int32} {x2 : Int32} {x3 : Int32} {x4 : Int32} {M : Mem}, k30 x1 x2 x3 x4 M = some M1 → sm [(27, 29, none), (26, 26, some 4)] M M1) : ∀ (n : Nat) {x1 : Int32} {x2 : Int32} {x3 : Int32} {x4 : Int32} {M : Mem}, fX2_insert_3 k30 n x1 x2 x3 x4 M = some M1 → sm [(27, 29, none), (26, 26, some 4)] M M1 := by
  intro n
  induction n with
  | zero =>
    intro x1 x2 x3 x4 M hf
    exact absurd (show none = some _ from hf) (fun h => by cases h)
  | succ n ih =>
    intro x1 x2 x3 x4 M hf
    rw [fX2_insert_3] at hf
    by_cases q9 : (M.1 26 4) ≤ x4
    · have hf := (br_if hf).1 q9
      exact hk30 hf
    · have hf := (br_if hf).2 q9
      obtain ⟨q18, c18, hf⟩ := br_b hf
      by_cases q21 : 0 ≤ q18
      · have hf := (br_if hf).1 q21
        exact hk30 hf
      · have hf := (br_if hf).2 q21
        obtain ⟨v24, e24⟩ : ∃ y : Int32, y = (x4 + (1 : Int32)) := ⟨_, rfl⟩
        have hf := nx_at e24 hf
        exact ih hf
theorem sX2_insert_60 {M1 : Mem} : ∀ {M : Mem}, fX2_insert_60 M = some M1 → sm [(27, 29, none), (26, 26, some 4)] M M1 := by
  intro M hf
  unfold fX2_insert_60 at hf
  cases hf
  exact sm_rf
theorem sX2_insert_67 {M1 : Mem} {k128 : Int32 → Int32 → Int32 → Int32 → Mem → Option Mem} (hk128 : ∀ {x1 : Int32} {x2 : Int32} {x3 : Int32} {x4 : Int32} {M : Mem}, k128 x1 x2 x3 x4 M = some M1 → sm [(27, 29, none), (26, 26, some 4)] M M1) : ∀ (n : Nat) {x1 : Int32} {x2 : Int32} {x3 : Int32} {x4 : Int32} {x5 : Int32} {M : Mem}, fX2_insert_67 k128 n x1 x2 x3 x4 x5 M = some M1 → sm [(27, 29, none), (26, 26, some 4)] M M1 := by
  intro n
  induction n with
  | zero =>
    intro x1 x2 x3 x4 x5 M hf
    exact absurd (show none = some _ from hf) (fun h => by cases h)
  | succ n ih =>
    intro x1 x2 x3 x4 x5 M hf
    rw [fX2_insert_67] at hf
    by_cases q71 : x5 ≤ x4
    · have hf := (br_if hf).1 q71
      exact hk128 hf
    · have hf := (br_if hf).2 q71
      obtain ⟨g88, hf⟩ := br_g hf
      obtain ⟨g89, hf⟩ := br_g hf
      obtain ⟨M89, e89⟩ : ∃ y : Mem, y = (sI M 27 (ix x5) (M.1 27 (ix (x5 - (1 : Int32))))) := ⟨_, rfl⟩
      have hf := nx_at e89 hf
      refine sm_I e89 (inS_up (L0 := [(27, 27, none)]) (by decide) (inS_n 27 _)) ?_
      obtain ⟨g104, hf⟩ := br_g hf
      obtain ⟨g105, hf⟩ := br_g hf
      obtain ⟨M105, e105⟩ : ∃ y : Mem, y = (sI M89 28 (ix x5) (M89.1 28 (ix (x5 - (1 : Int32))))) := ⟨_, rfl⟩
      have hf := nx_at e105 hf
      refine sm_I e105 (inS_up (L0 := [(28, 28, none)]) (by decide) (inS_n 28 _)) ?_
      obtain ⟨g120, hf⟩ := br_g hf
      obtain ⟨g121, hf⟩ := br_g hf
      obtain ⟨M121, e121⟩ : ∃ y : Mem, y = (sI M105 29 (ix x5) (M105.1 29 (ix (x5 - (1 : Int32))))) := ⟨_, rfl⟩
      have hf := nx_at e121 hf
      refine sm_I e121 (inS_up (L0 := [(29, 29, none)]) (by decide) (inS_n 29 _)) ?_
      obtain ⟨v122, e122⟩ : ∃ y : Int32, y = (x5 + (-1 : Int32)) := ⟨_, rfl⟩
      have hf := nx_at e122 hf
      exact ih hf
theorem sX2_insert_128 {M1 : Mem} : ∀ {x1 : Int32} {x2 : Int32} {x3 : Int32} {x4 : Int32} {M : Mem}, fX2_insert_128 x1 x2 x3 x4 M = some M1 → sm [(27, 29, none), (26, 26, some 4)] M M1 := by
  intro x1 x2 x3 x4 M hf
  unfold fX2_insert_128 at hf
  obtain ⟨g135, hf⟩ := br_g hf
  obtain ⟨M135, e135⟩ : ∃ y : Mem, y = (sI M 27 (ix x4) x1) := ⟨_, rfl⟩
  have hf := nx_at e135 hf
  refine sm_I e135 (inS_up (L0 := [(27, 27, none)]) (by decide) (inS_n 27 _)) ?_
  obtain ⟨g143, hf⟩ := br_g hf
  obtain ⟨M143, e143⟩ : ∃ y : Mem, y = (sI M135 28 (ix x4) x2) := ⟨_, rfl⟩
  have hf := nx_at e143 hf
  refine sm_I e143 (inS_up (L0 := [(28, 28, none)]) (by decide) (inS_n 28 _)) ?_
  obtain ⟨g151, hf⟩ := br_g hf
  obtain ⟨M151, e151⟩ : ∃ y : Mem, y = (sI M143 29 (ix x4) x3) := ⟨_, rfl⟩
  have hf := nx_at e151 hf
  refine sm_I e151 (inS_up (L0 := [(29, 29, none)]) (by decide) (inS_n 29 _)) ?_
  obtain ⟨M159, e159⟩ : ∃ y : Mem, y = (sI M151 26 4 ((M151.1 26 4) + (1 : Int32))) := ⟨_, rfl⟩
  have hf := nx_at e159 hf
  refine sm_I e159 (inS_up (L0 := [(26, 26, some 4)]) (by decide) (inS_s 26 4)) ?_
  cases hf
  exact sm_rf
theorem sX2_insert_61 {M1 : Mem} : ∀ {x1 : Int32} {x2 : Int32} {x3 : Int32} {x4 : Int32} {M : Mem}, fX2_insert_61 x1 x2 x3 x4 M = some M1 → sm [(27, 29, none), (26, 26, some 4)] M M1 := by
  intro x1 x2 x3 x4 M hf
  unfold fX2_insert_61 at hf
  obtain ⟨v65, e65⟩ : ∃ y : Int32, y = (M.1 26 4) := ⟨_, rfl⟩
  have hf := nx_at e65 hf
  exact sX2_insert_67 (fun hf => sX2_insert_128 hf) FU hf
theorem sX2_insert_30 {M1 : Mem} : ∀ {x1 : Int32} {x2 : Int32} {x3 : Int32} {x4 : Int32} {M : Mem}, fX2_insert_30 x1 x2 x3 x4 M = some M1 → sm [(27, 29, none), (26, 26, some 4)] M M1 := by
  intro x1 x2 x3 x4 M hf
  unfold fX2_insert_30 at hf
  by_cases q36 : (105 : Int32) ≤ (M.1 26 4)
  · have hf := (br_if hf).1 q36
    exact sX2_insert_60 hf
  · have hf := (br_if hf).2 q36
    by_cases q45 : (M.1 26 4) ≤ x4
    · have hf := (br_if hf).1 q45
      exact sX2_insert_61 hf
    · have hf := (br_if hf).2 q45
      obtain ⟨q54, c54, hf⟩ := br_b hf
      by_cases q57 : q54 = 0
      · have hf := (br_if hf).1 q57
        exact sX2_insert_60 hf
      · have hf := (br_if hf).2 q57
        exact sX2_insert_61 hf
theorem sX2_insert_0 {M1 : Mem} : ∀ {x1 : Int32} {x2 : Int32} {x3 : Int32} {M : Mem}, fX2_insert x1 x2 x3 M = some M1 → sm [(27, 29, none), (26, 26, some 4)] M M1 := by
  intro x1 x2 x3 M hf
  unfold fX2_insert at hf
  exact sX2_insert_3 (fun hf => sX2_insert_30 hf) FU hf
theorem ssX2_insert {x1 : Int32} {x2 : Int32} {x3 : Int32} {M : Mem} {M1 : Mem} (h : fX2_insert x1 x2 x3 M = some M1) : sm [(27, 29, none), (26, 26, some 4)] M M1 := sX2_insert_0 h
theorem sX2_addThrough_139 {M1 : Mem} : ∀ {M : Mem}, fX2_addThrough_139 M = some M1 → sm [(27, 29, none), (26, 26, some 4)] M M1 := by
  intro M hf
  unfold fX2_addThrough_139 at hf
  cases hf
  exact sm_rf
theorem sX2_addThrough_70 {M1 : Mem} : ∀ {x1 : Int32} {x3 : Int32} {x4 : Int32} {x5 : Int32} {M : Mem}, fX2_addThrough_70 x1 x3 x4 x5 M = some M1 → sm [(27, 29, none), (26, 26, some 4)] M M1 := by
  intro x1 x3 x4 x5 M hf
  unfold fX2_addThrough_70 at hf
  by_cases q72 : x5 = 0
  · have hf := (br_if hf).1 q72
    cases hf
    exact sm_rf
  · have hf := (br_if hf).2 q72
    obtain ⟨g79, hf⟩ := br_g hf
    obtain ⟨v80, e80⟩ : ∃ y : Int32, y = (x3 / x5) := ⟨_, rfl⟩
    have hf := nx_at e80 hf
    obtain ⟨g86, hf⟩ := br_g hf
    obtain ⟨v87, e87⟩ : ∃ y : Int32, y = (x4 / x5) := ⟨_, rfl⟩
    have hf := nx_at e87 hf
    obtain ⟨g99, hf⟩ := br_g hf
    obtain ⟨g111, hf⟩ := br_g hf
    obtain ⟨v114, e114⟩ : ∃ y : Int32, y = ((v80 * (M.1 2 (ix x1))) + (v87 * (M.1 3 (ix x1)))) := ⟨_, rfl⟩
    have hf := nx_at e114 hf
    obtain ⟨q123, c123, hf⟩ := br_b hf
    by_cases q126 : q123 = 0
    · have hf := (br_if hf).1 q126
      exact sX2_addThrough_139 hf
    · have hf := (br_if hf).2 q126
      obtain ⟨q136, c136, hf⟩ := br_b hf
      refine sm_tr (ssX2_insert c136) (by decide) ?_
      exact sX2_addThrough_139 hf
theorem sX2_addThrough_65 {M1 : Mem} : ∀ {x1 : Int32} {x3 : Int32} {x4 : Int32} {x5 : Int32} {M : Mem}, fX2_addThrough_65 x1 x3 x4 x5 M = some M1 → sm [(27, 29, none), (26, 26, some 4)] M M1 := by
  intro x1 x3 x4 x5 M hf
  unfold fX2_addThrough_65 at hf
  obtain ⟨v68, e68⟩ : ∃ y : Int32, y = (-x5) := ⟨_, rfl⟩
  have hf := nx_at e68 hf
  exact sX2_addThrough_70 hf
theorem sX2_addThrough_0 {M1 : Mem} : ∀ {x1 : Int32} {x2 : Int32} {M : Mem}, fX2_addThrough x1 x2 M = some M1 → sm [(27, 29, none), (26, 26, some 4)] M M1 := by
  intro x1 x2 M hf
  unfold fX2_addThrough at hf
  obtain ⟨g8, hf⟩ := br_g hf
  obtain ⟨g17, hf⟩ := br_g hf
  obtain ⟨v19, e19⟩ : ∃ y : Int32, y = ((M.1 3 (ix x2)) - (M.1 3 (ix x1))) := ⟨_, rfl⟩
  have hf := nx_at e19 hf
  obtain ⟨g28, hf⟩ := br_g hf
  obtain ⟨g37, hf⟩ := br_g hf
  obtain ⟨v39, e39⟩ : ∃ y : Int32, y = ((M.1 2 (ix x1)) - (M.1 2 (ix x2))) := ⟨_, rfl⟩
  have hf := nx_at e39 hf
  obtain ⟨q46, c46, hf⟩ := br_b hf
  obtain ⟨v50, e50⟩ : ∃ y : Int32, y = q46.toInt32 := ⟨_, rfl⟩
  have hf := nx_at e50 hf
  by_cases q53 : v19 < 0
  · have hf := (br_if hf).1 q53
    exact sX2_addThrough_65 hf
  · have hf := (br_if hf).2 q53
    by_cases q57 : v19 = 0
    · have hf := (br_if hf).1 q57
      by_cases q62 : 0 ≤ v39
      · have hf := (br_if hf).1 q62
        exact sX2_addThrough_70 hf
      · have hf := (br_if hf).2 q62
        exact sX2_addThrough_65 hf
    · have hf := (br_if hf).2 q57
      exact sX2_addThrough_70 hf
theorem ssX2_addThrough {x1 : Int32} {x2 : Int32} {M : Mem} {M1 : Mem} (h : fX2_addThrough x1 x2 M = some M1) : sm [(27, 29, none), (26, 26, some 4)] M M1 := sX2_addThrough_0 h
theorem sX2_refresh_46 {M1 : Mem} {k63 : Int32 → Mem → Option Mem} (hk63 : ∀ {x1 : Int32} {M : Mem}, k63 x1 M = some M1 → sm [(27, 29, none), (26, 26, some 4), (26, 26, some 5)] M M1) : ∀ (n : Nat) {x1 : Int32} {x2 : Int32} {M : Mem}, fX2_refresh_46 k63 n x1 x2 M = some M1 → sm [(27, 29, none), (26, 26, some 4), (26, 26, some 5)] M M1 := by
  intro n
  induction n with
  | zero =>
    intro x1 x2 M hf
    exact absurd (show none = some _ from hf) (fun h => by cases h)
  | succ n ih =>
    intro x1 x2 M hf
    rw [fX2_refresh_46] at hf
    by_cases q48 : x1 ≤ x2
    · have hf := (br_if hf).1 q48
      exact hk63 hf
    · have hf := (br_if hf).2 q48
      obtain ⟨q54, c54, hf⟩ := br_b hf
      refine sm_tr (ssX2_addThrough c54) (by decide) ?_
      obtain ⟨v57, e57⟩ : ∃ y : Int32, y = (x2 + (1 : Int32)) := ⟨_, rfl⟩
      have hf := nx_at e57 hf
      exact ih hf
theorem sX2_refresh_63 {M1 : Mem} {k33 : Int32 → Mem → Option Mem} {k69 : Mem → Option Mem} (hk33 : ∀ {x1 : Int32} {M : Mem}, k33 x1 M = some M1 → sm [(27, 29, none), (26, 26, some 4), (26, 26, some 5)] M M1) (hk69 : ∀ {M : Mem}, k69 M = some M1 → sm [(27, 29, none), (26, 26, some 4), (26, 26, some 5)] M M1) : ∀ {x1 : Int32} {M : Mem}, fX2_refresh_63 k33 k69 x1 M = some M1 → sm [(27, 29, none), (26, 26, some 4), (26, 26, some 5)] M M1 := by
  intro x1 M hf
  unfold fX2_refresh_63 at hf
  obtain ⟨v63, e63⟩ : ∃ y : Int32, y = (x1 + (1 : Int32)) := ⟨_, rfl⟩
  have hf := nx_at e63 hf
  exact hk33 hf
theorem sX2_refresh_33 {M1 : Mem} {k69 : Mem → Option Mem} (hk69 : ∀ {M : Mem}, k69 M = some M1 → sm [(27, 29, none), (26, 26, some 4), (26, 26, some 5)] M M1) : ∀ (n : Nat) {x1 : Int32} {M : Mem}, fX2_refresh_33 k69 n x1 M = some M1 → sm [(27, 29, none), (26, 26, some 4), (26, 26, some 5)] M M1 := by
  intro n
  induction n with
  | zero =>
    intro x1 M hf
    exact absurd (show none = some _ from hf) (fun h => by cases h)
  | succ n ih =>
    intro x1 M hf
    rw [fX2_refresh_33] at hf
    by_cases q41 : (M.1 1 0) ≤ x1
    · have hf := (br_if hf).1 q41
      exact hk69 hf
    · have hf := (br_if hf).2 q41
      exact sX2_refresh_46 (fun hf => sX2_refresh_63 (fun hf => ih hf) (fun hf => hk69 hf) hf) FU hf
theorem sX2_refresh_69 {M1 : Mem} : ∀ {M : Mem}, fX2_refresh_69 M = some M1 → sm [(27, 29, none), (26, 26, some 4), (26, 26, some 5)] M M1 := by
  intro M hf
  unfold fX2_refresh_69 at hf
  cases hf
  exact sm_rf
theorem sX2_refresh_0 {M1 : Mem} : ∀ {M : Mem}, fX2_refresh M = some M1 → sm [(27, 29, none), (26, 26, some 4), (26, 26, some 5)] M M1 := by
  intro M hf
  unfold fX2_refresh at hf
  by_cases q11 : (M.1 26 5) = (M.1 1 14)
  · have hf := (br_if hf).1 q11
    cases hf
    exact sm_rf
  · have hf := (br_if hf).2 q11
    obtain ⟨M23, e23⟩ : ∃ y : Mem, y = (sI M 26 5 (M.1 1 14)) := ⟨_, rfl⟩
    have hf := nx_at e23 hf
    refine sm_I e23 (inS_up (L0 := [(26, 26, some 5)]) (by decide) (inS_s 26 5)) ?_
    obtain ⟨M28, e28⟩ : ∃ y : Mem, y = (sI M23 26 4 (0 : Int32)) := ⟨_, rfl⟩
    have hf := nx_at e28 hf
    refine sm_I e28 (inS_up (L0 := [(26, 26, some 4)]) (by decide) (inS_s 26 4)) ?_
    exact sX2_refresh_33 (fun hf => sX2_refresh_69 hf) FU hf
theorem ssX2_refresh {M : Mem} {M1 : Mem} (h : fX2_refresh M = some M1) : sm [(27, 29, none), (26, 26, some 4), (26, 26, some 5)] M M1 := sX2_refresh_0 h
theorem sX4_insert_3 {M1 : Mem} {k31 : Int64 → Int64 → Int64 → Int32 → Mem → Option Mem} (hk31 : ∀ {y1 : Int64} {y3 : Int64} {y5 : Int64} {x7 : Int32} {M : Mem}, k31 y1 y3 y5 x7 M = some M1 → sm [(31, 33, none), (30, 30, some 5)] M M1) : ∀ (n : Nat) {y1 : Int64} {y3 : Int64} {y5 : Int64} {x7 : Int32} {M : Mem}, fX4_insert_3 k31 n y1 y3 y5 x7 M = some M1 → sm [(31, 33, none), (30, 30, some 5)] M M1 := by
  intro n
  induction n with
  | zero =>
    intro y1 y3 y5 x7 M hf
    exact absurd (show none = some _ from hf) (fun h => by cases h)
  | succ n ih =>
    intro y1 y3 y5 x7 M hf
    rw [fX4_insert_3] at hf
    by_cases q9 : (M.1 30 5) ≤ x7
    · have hf := (br_if hf).1 q9
      exact hk31 hf
    · have hf := (br_if hf).2 q9
      obtain ⟨q19, c19, hf⟩ := br_b hf
      by_cases q22 : 0 ≤ q19
      · have hf := (br_if hf).1 q22
        exact hk31 hf
      · have hf := (br_if hf).2 q22
        obtain ⟨v25, e25⟩ : ∃ y : Int32, y = (x7 + (1 : Int32)) := ⟨_, rfl⟩
        have hf := nx_at e25 hf
        exact ih hf
theorem sX4_insert_62 {M1 : Mem} : ∀ {M : Mem}, fX4_insert_62 M = some M1 → sm [(31, 33, none), (30, 30, some 5)] M M1 := by
  intro M hf
  unfold fX4_insert_62 at hf
  cases hf
  exact sm_rf
theorem sX4_insert_69 {M1 : Mem} {k130 : Int64 → Int64 → Int64 → Int32 → Mem → Option Mem} (hk130 : ∀ {y1 : Int64} {y3 : Int64} {y5 : Int64} {x7 : Int32} {M : Mem}, k130 y1 y3 y5 x7 M = some M1 → sm [(31, 33, none), (30, 30, some 5)] M M1) : ∀ (n : Nat) {y1 : Int64} {y3 : Int64} {y5 : Int64} {x7 : Int32} {x8 : Int32} {M : Mem}, fX4_insert_69 k130 n y1 y3 y5 x7 x8 M = some M1 → sm [(31, 33, none), (30, 30, some 5)] M M1 := by
  intro n
  induction n with
  | zero =>
    intro y1 y3 y5 x7 x8 M hf
    exact absurd (show none = some _ from hf) (fun h => by cases h)
  | succ n ih =>
    intro y1 y3 y5 x7 x8 M hf
    rw [fX4_insert_69] at hf
    by_cases q73 : x8 ≤ x7
    · have hf := (br_if hf).1 q73
      exact hk130 hf
    · have hf := (br_if hf).2 q73
      obtain ⟨g90, hf⟩ := br_g hf
      obtain ⟨g91, hf⟩ := br_g hf
      obtain ⟨M91, e91⟩ : ∃ y : Mem, y = (sL M 31 (ix x8) (M.2 31 (ix (x8 - (1 : Int32))))) := ⟨_, rfl⟩
      have hf := nx_at e91 hf
      refine sm_L e91 (inS_up (L0 := [(31, 31, none)]) (by decide) (inS_n 31 _)) ?_
      obtain ⟨g106, hf⟩ := br_g hf
      obtain ⟨g107, hf⟩ := br_g hf
      obtain ⟨M107, e107⟩ : ∃ y : Mem, y = (sL M91 32 (ix x8) (M91.2 32 (ix (x8 - (1 : Int32))))) := ⟨_, rfl⟩
      have hf := nx_at e107 hf
      refine sm_L e107 (inS_up (L0 := [(32, 32, none)]) (by decide) (inS_n 32 _)) ?_
      obtain ⟨g122, hf⟩ := br_g hf
      obtain ⟨g123, hf⟩ := br_g hf
      obtain ⟨M123, e123⟩ : ∃ y : Mem, y = (sL M107 33 (ix x8) (M107.2 33 (ix (x8 - (1 : Int32))))) := ⟨_, rfl⟩
      have hf := nx_at e123 hf
      refine sm_L e123 (inS_up (L0 := [(33, 33, none)]) (by decide) (inS_n 33 _)) ?_
      obtain ⟨v124, e124⟩ : ∃ y : Int32, y = (x8 + (-1 : Int32)) := ⟨_, rfl⟩
      have hf := nx_at e124 hf
      exact ih hf
theorem sX4_insert_130 {M1 : Mem} : ∀ {y1 : Int64} {y3 : Int64} {y5 : Int64} {x7 : Int32} {M : Mem}, fX4_insert_130 y1 y3 y5 x7 M = some M1 → sm [(31, 33, none), (30, 30, some 5)] M M1 := by
  intro y1 y3 y5 x7 M hf
  unfold fX4_insert_130 at hf
  obtain ⟨g137, hf⟩ := br_g hf
  obtain ⟨M137, e137⟩ : ∃ y : Mem, y = (sL M 31 (ix x7) y1) := ⟨_, rfl⟩
  have hf := nx_at e137 hf
  refine sm_L e137 (inS_up (L0 := [(31, 31, none)]) (by decide) (inS_n 31 _)) ?_
  obtain ⟨g145, hf⟩ := br_g hf
  obtain ⟨M145, e145⟩ : ∃ y : Mem, y = (sL M137 32 (ix x7) y3) := ⟨_, rfl⟩
  have hf := nx_at e145 hf
  refine sm_L e145 (inS_up (L0 := [(32, 32, none)]) (by decide) (inS_n 32 _)) ?_
  obtain ⟨g154, hf⟩ := br_g hf
  obtain ⟨M154, e154⟩ : ∃ y : Mem, y = (sL M145 33 (ix x7) y5) := ⟨_, rfl⟩
  have hf := nx_at e154 hf
  refine sm_L e154 (inS_up (L0 := [(33, 33, none)]) (by decide) (inS_n 33 _)) ?_
  obtain ⟨M162, e162⟩ : ∃ y : Mem, y = (sI M154 30 5 ((M154.1 30 5) + (1 : Int32))) := ⟨_, rfl⟩
  have hf := nx_at e162 hf
  refine sm_I e162 (inS_up (L0 := [(30, 30, some 5)]) (by decide) (inS_s 30 5)) ?_
  cases hf
  exact sm_rf
theorem sX4_insert_63 {M1 : Mem} : ∀ {y1 : Int64} {y3 : Int64} {y5 : Int64} {x7 : Int32} {M : Mem}, fX4_insert_63 y1 y3 y5 x7 M = some M1 → sm [(31, 33, none), (30, 30, some 5)] M M1 := by
  intro y1 y3 y5 x7 M hf
  unfold fX4_insert_63 at hf
  obtain ⟨v67, e67⟩ : ∃ y : Int32, y = (M.1 30 5) := ⟨_, rfl⟩
  have hf := nx_at e67 hf
  exact sX4_insert_69 (fun hf => sX4_insert_130 hf) FU hf
theorem sX4_insert_31 {M1 : Mem} : ∀ {y1 : Int64} {y3 : Int64} {y5 : Int64} {x7 : Int32} {M : Mem}, fX4_insert_31 y1 y3 y5 x7 M = some M1 → sm [(31, 33, none), (30, 30, some 5)] M M1 := by
  intro y1 y3 y5 x7 M hf
  unfold fX4_insert_31 at hf
  by_cases q37 : (15 : Int32) ≤ (M.1 30 5)
  · have hf := (br_if hf).1 q37
    exact sX4_insert_62 hf
  · have hf := (br_if hf).2 q37
    by_cases q46 : (M.1 30 5) ≤ x7
    · have hf := (br_if hf).1 q46
      exact sX4_insert_63 hf
    · have hf := (br_if hf).2 q46
      obtain ⟨q56, c56, hf⟩ := br_b hf
      by_cases q59 : q56 = 0
      · have hf := (br_if hf).1 q59
        exact sX4_insert_62 hf
      · have hf := (br_if hf).2 q59
        exact sX4_insert_63 hf
theorem sX4_insert_0 {M1 : Mem} : ∀ {y1 : Int64} {y3 : Int64} {y5 : Int64} {M : Mem}, fX4_insert y1 y3 y5 M = some M1 → sm [(31, 33, none), (30, 30, some 5)] M M1 := by
  intro y1 y3 y5 M hf
  unfold fX4_insert at hf
  exact sX4_insert_3 (fun hf => sX4_insert_31 hf) FU hf
theorem ssX4_insert {y1 : Int64} {y3 : Int64} {y5 : Int64} {M : Mem} {M1 : Mem} (h : fX4_insert y1 y3 y5 M = some M1) : sm [(31, 33, none), (30, 30, some 5)] M M1 := sX4_insert_0 h
theorem sX4_ask_74 {M1 : Mem} : ∀ {M : Mem}, fX4_ask_74 M = some M1 → sm [(31, 33, none), (30, 30, some 5)] M M1 := by
  intro M hf
  unfold fX4_ask_74 at hf
  cases hf
  exact sm_rf
theorem sX4_ask_24 {M1 : Mem} : ∀ {y1 : Int64} {y3 : Int64} {y5 : Int64} {y7 : Int64} {M : Mem}, fX4_ask_24 y1 y3 y5 y7 M = some M1 → sm [(31, 33, none), (30, 30, some 5)] M M1 := by
  intro y1 y3 y5 y7 M hf
  unfold fX4_ask_24 at hf
  by_cases q28 : (lg_cmp y7 (0 : Int64)) = 0
  · have hf := (br_if hf).1 q28
    cases hf
    exact sm_rf
  · have hf := (br_if hf).2 q28
    obtain ⟨g35, hf⟩ := br_g hf
    obtain ⟨v36, e36⟩ : ∃ y : Int64, y = (y1 / y7) := ⟨_, rfl⟩
    have hf := nx_at e36 hf
    obtain ⟨g41, hf⟩ := br_g hf
    obtain ⟨v42, e42⟩ : ∃ y : Int64, y = (y3 / y7) := ⟨_, rfl⟩
    have hf := nx_at e42 hf
    obtain ⟨g48, hf⟩ := br_g hf
    obtain ⟨v49, e49⟩ : ∃ y : Int64, y = (y5 / y7) := ⟨_, rfl⟩
    have hf := nx_at e49 hf
    obtain ⟨q58, c58, hf⟩ := br_b hf
    by_cases q61 : q58 = 0
    · have hf := (br_if hf).1 q61
      exact sX4_ask_74 hf
    · have hf := (br_if hf).2 q61
      obtain ⟨q71, c71, hf⟩ := br_b hf
      refine sm_tr (ssX4_insert c71) (by decide) ?_
      exact sX4_ask_74 hf
theorem sX4_ask_0 {M1 : Mem} : ∀ {y1 : Int64} {y3 : Int64} {y5 : Int64} {M : Mem}, fX4_ask y1 y3 y5 M = some M1 → sm [(31, 33, none), (30, 30, some 5)] M M1 := by
  intro y1 y3 y5 M hf
  unfold fX4_ask at hf
  obtain ⟨q2, c2, hf⟩ := br_b hf
  obtain ⟨q7, c7, hf⟩ := br_b hf
  by_cases q16 : 0 ≤ (lg_cmp y5 (0 : Int64))
  · have hf := (br_if hf).1 q16
    exact sX4_ask_24 hf
  · have hf := (br_if hf).2 q16
    obtain ⟨v22, e22⟩ : ∃ y : Int64, y = (-q7) := ⟨_, rfl⟩
    have hf := nx_at e22 hf
    exact sX4_ask_24 hf
theorem ssX4_ask {y1 : Int64} {y3 : Int64} {y5 : Int64} {M : Mem} {M1 : Mem} (h : fX4_ask y1 y3 y5 M = some M1) : sm [(31, 33, none), (30, 30, some 5)] M M1 := sX4_ask_0 h
theorem sX4_askCrossing_39 {M1 : Mem} : ∀ {M : Mem}, fX4_askCrossing_39 M = some M1 → sm [(31, 33, none), (30, 30, some 5)] M M1 := by
  intro M hf
  unfold fX4_askCrossing_39 at hf
  cases hf
  exact sm_rf
theorem sX4_askCrossing_0 {M1 : Mem} : ∀ {x1 : Int32} {x2 : Int32} {M : Mem}, fX4_askCrossing x1 x2 M = some M1 → sm [(31, 33, none), (30, 30, some 5)] M M1 := by
  intro x1 x2 M hf
  unfold fX4_askCrossing at hf
  obtain ⟨q6, c6, hf⟩ := br_b hf
  by_cases q13 : (lg_cmp q6 (0 : Int64)) = 0
  · have hf := (br_if hf).1 q13
    exact sX4_askCrossing_39 hf
  · have hf := (br_if hf).2 q13
    obtain ⟨q23, c23, hf⟩ := br_b hf
    obtain ⟨q32, c32, hf⟩ := br_b hf
    obtain ⟨q36, c36, hf⟩ := br_b hf
    refine sm_tr (ssX4_ask c36) (by decide) ?_
    exact sX4_askCrossing_39 hf
theorem ssX4_askCrossing {x1 : Int32} {x2 : Int32} {M : Mem} {M1 : Mem} (h : fX4_askCrossing x1 x2 M = some M1) : sm [(31, 33, none), (30, 30, some 5)] M M1 := sX4_askCrossing_0 h
theorem sX4_findProof_17 {M1 : Mem} {k40 : Int32 → Int32 → Int32 → Mem → Option Mem} {k68 : Int32 → Mem → Option Mem} (hk40 : ∀ {x1 : Int32} {x2 : Int32} {x3 : Int32} {M : Mem}, k40 x1 x2 x3 M = some M1 → sm [(34, 34, none)] M M1) (hk68 : ∀ {x1 : Int32} {M : Mem}, k68 x1 M = some M1 → sm [(34, 34, none)] M M1) : ∀ (n : Nat) {x1 : Int32} {x2 : Int32} {M : Mem}, fX4_findProof_17 k40 k68 n x1 x2 M = some M1 → sm [(34, 34, none)] M M1 := by
  intro n
  induction n with
  | zero =>
    intro x1 x2 M hf
    exact absurd (show none = some _ from hf) (fun h => by cases h)
  | succ n ih =>
    intro x1 x2 M hf
    rw [fX4_findProof_17] at hf
    by_cases q25 : (M.1 26 4) ≤ x2
    · have hf := (br_if hf).1 q25
      exact hk68 hf
    · have hf := (br_if hf).2 q25
      obtain ⟨q31, c31, hf⟩ := br_b hf
      by_cases q37 : q31 = (-1 : Int32)
      · have hf := (br_if hf).1 q37
        obtain ⟨v62, e62⟩ : ∃ y : Int32, y = (x2 + (1 : Int32)) := ⟨_, rfl⟩
        have hf := nx_at e62 hf
        exact ih hf
      · have hf := (br_if hf).2 q37
        exact hk40 hf
theorem sX4_findProof_68 {M1 : Mem} {k2 : Int32 → Mem → Option Mem} {k40 : Int32 → Int32 → Int32 → Mem → Option Mem} {k74 : Mem → Option Mem} (hk2 : ∀ {x1 : Int32} {M : Mem}, k2 x1 M = some M1 → sm [(34, 34, none)] M M1) (hk40 : ∀ {x1 : Int32} {x2 : Int32} {x3 : Int32} {M : Mem}, k40 x1 x2 x3 M = some M1 → sm [(34, 34, none)] M M1) (hk74 : ∀ {M : Mem}, k74 M = some M1 → sm [(34, 34, none)] M M1) : ∀ {x1 : Int32} {M : Mem}, fX4_findProof_68 k2 k40 k74 x1 M = some M1 → sm [(34, 34, none)] M M1 := by
  intro x1 M hf
  unfold fX4_findProof_68 at hf
  obtain ⟨v68, e68⟩ : ∃ y : Int32, y = (x1 + (1 : Int32)) := ⟨_, rfl⟩
  have hf := nx_at e68 hf
  exact hk2 hf
theorem sX4_findProof_2 {M1 : Mem} {k40 : Int32 → Int32 → Int32 → Mem → Option Mem} {k74 : Mem → Option Mem} (hk40 : ∀ {x1 : Int32} {x2 : Int32} {x3 : Int32} {M : Mem}, k40 x1 x2 x3 M = some M1 → sm [(34, 34, none)] M M1) (hk74 : ∀ {M : Mem}, k74 M = some M1 → sm [(34, 34, none)] M M1) : ∀ (n : Nat) {x1 : Int32} {M : Mem}, fX4_findProof_2 k40 k74 n x1 M = some M1 → sm [(34, 34, none)] M M1 := by
  intro n
  induction n with
  | zero =>
    intro x1 M hf
    exact absurd (show none = some _ from hf) (fun h => by cases h)
  | succ n ih =>
    intro x1 M hf
    rw [fX4_findProof_2] at hf
    by_cases q10 : (M.1 26 4) ≤ x1
    · have hf := (br_if hf).1 q10
      exact hk74 hf
    · have hf := (br_if hf).2 q10
      obtain ⟨v16, e16⟩ : ∃ y : Int32, y = (x1 + (1 : Int32)) := ⟨_, rfl⟩
      have hf := nx_at e16 hf
      exact sX4_findProof_17 (fun hf => hk40 hf) (fun hf => sX4_findProof_68 (fun hf => ih hf) (fun hf => hk40 hf) (fun hf => hk74 hf) hf) FU hf
theorem sX4_findProof_40 {M1 : Mem} : ∀ {x1 : Int32} {x2 : Int32} {x3 : Int32} {M : Mem}, fX4_findProof_40 x1 x2 x3 M = some M1 → sm [(34, 34, none)] M M1 := by
  intro x1 x2 x3 M hf
  unfold fX4_findProof_40 at hf
  obtain ⟨M46, e46⟩ : ∃ y : Mem, y = (sI M 34 (ix (0 : Int32)) x1) := ⟨_, rfl⟩
  have hf := nx_at e46 hf
  refine sm_I e46 (inS_up (L0 := [(34, 34, none)]) (by decide) (inS_n 34 _)) ?_
  obtain ⟨M53, e53⟩ : ∃ y : Mem, y = (sI M46 34 (ix (1 : Int32)) x2) := ⟨_, rfl⟩
  have hf := nx_at e53 hf
  refine sm_I e53 (inS_up (L0 := [(34, 34, none)]) (by decide) (inS_n 34 _)) ?_
  obtain ⟨M60, e60⟩ : ∃ y : Mem, y = (sI M53 34 (ix (2 : Int32)) x3) := ⟨_, rfl⟩
  have hf := nx_at e60 hf
  refine sm_I e60 (inS_up (L0 := [(34, 34, none)]) (by decide) (inS_n 34 _)) ?_
  cases hf
  exact sm_rf
theorem sX4_findProof_74 {M1 : Mem} : ∀ {M : Mem}, fX4_findProof_74 M = some M1 → sm [(34, 34, none)] M M1 := by
  intro M hf
  unfold fX4_findProof_74 at hf
  cases hf
  exact sm_rf
theorem sX4_findProof_0 {M1 : Mem} : ∀ {M : Mem}, fX4_findProof M = some M1 → sm [(34, 34, none)] M M1 := by
  intro M hf
  unfold fX4_findProof at hf
  exact sX4_findProof_2 (fun hf => sX4_findProof_40 hf) (fun hf => sX4_findProof_74 hf) FU hf
theorem ssX4_findProof {M : Mem} {M1 : Mem} (h : fX4_findProof M = some M1) : sm [(34, 34, none)] M M1 := sX4_findProof_0 h
theorem sX4_refresh_40 {M1 : Mem} {k82 : Mem → Option Mem} (hk82 : ∀ {M : Mem}, k82 M = some M1 → sm [(27, 29, none), (31, 34, none), (26, 26, some 4), (26, 26, some 5), (30, 30, some 5), (30, 30, some 7)] M M1) : ∀ (n : Nat) {x1 : Int32} {M : Mem}, fX4_refresh_40 k82 n x1 M = some M1 → sm [(27, 29, none), (31, 34, none), (26, 26, some 4), (26, 26, some 5), (30, 30, some 5), (30, 30, some 7)] M M1 := by
  intro n
  induction n with
  | zero =>
    intro x1 M hf
    exact absurd (show none = some _ from hf) (fun h => by cases h)
  | succ n ih =>
    intro x1 M hf
    rw [fX4_refresh_40] at hf
    by_cases q48 : (M.1 1 0) ≤ x1
    · have hf := (br_if hf).1 q48
      exact hk82 hf
    · have hf := (br_if hf).2 q48
      obtain ⟨g60, hf⟩ := br_g hf
      obtain ⟨g70, hf⟩ := br_g hf
      obtain ⟨q73, c73, hf⟩ := br_b hf
      refine sm_tr (ssX4_ask c73) (by decide) ?_
      obtain ⟨v76, e76⟩ : ∃ y : Int32, y = (x1 + (1 : Int32)) := ⟨_, rfl⟩
      have hf := nx_at e76 hf
      exact ih hf
theorem sX4_refresh_99 {M1 : Mem} {k122 : Int32 → Mem → Option Mem} (hk122 : ∀ {x1 : Int32} {M : Mem}, k122 x1 M = some M1 → sm [(27, 29, none), (31, 34, none), (26, 26, some 4), (26, 26, some 5), (30, 30, some 5), (30, 30, some 7)] M M1) : ∀ (n : Nat) {x1 : Int32} {x2 : Int32} {M : Mem}, fX4_refresh_99 k122 n x1 x2 M = some M1 → sm [(27, 29, none), (31, 34, none), (26, 26, some 4), (26, 26, some 5), (30, 30, some 5), (30, 30, some 7)] M M1 := by
  intro n
  induction n with
  | zero =>
    intro x1 x2 M hf
    exact absurd (show none = some _ from hf) (fun h => by cases h)
  | succ n ih =>
    intro x1 x2 M hf
    rw [fX4_refresh_99] at hf
    by_cases q107 : (M.1 26 4) ≤ x2
    · have hf := (br_if hf).1 q107
      exact hk122 hf
    · have hf := (br_if hf).2 q107
      obtain ⟨q113, c113, hf⟩ := br_b hf
      refine sm_tr (ssX4_askCrossing c113) (by decide) ?_
      obtain ⟨v116, e116⟩ : ∃ y : Int32, y = (x2 + (1 : Int32)) := ⟨_, rfl⟩
      have hf := nx_at e116 hf
      exact ih hf
theorem sX4_refresh_122 {M1 : Mem} {k84 : Int32 → Mem → Option Mem} {k128 : Mem → Option Mem} (hk84 : ∀ {x1 : Int32} {M : Mem}, k84 x1 M = some M1 → sm [(27, 29, none), (31, 34, none), (26, 26, some 4), (26, 26, some 5), (30, 30, some 5), (30, 30, some 7)] M M1) (hk128 : ∀ {M : Mem}, k128 M = some M1 → sm [(27, 29, none), (31, 34, none), (26, 26, some 4), (26, 26, some 5), (30, 30, some 5), (30, 30, some 7)] M M1) : ∀ {x1 : Int32} {M : Mem}, fX4_refresh_122 k84 k128 x1 M = some M1 → sm [(27, 29, none), (31, 34, none), (26, 26, some 4), (26, 26, some 5), (30, 30, some 5), (30, 30, some 7)] M M1 := by
  intro x1 M hf
  unfold fX4_refresh_122 at hf
  obtain ⟨v122, e122⟩ : ∃ y : Int32, y = (x1 + (1 : Int32)) := ⟨_, rfl⟩
  have hf := nx_at e122 hf
  exact hk84 hf
theorem sX4_refresh_84 {M1 : Mem} {k128 : Mem → Option Mem} (hk128 : ∀ {M : Mem}, k128 M = some M1 → sm [(27, 29, none), (31, 34, none), (26, 26, some 4), (26, 26, some 5), (30, 30, some 5), (30, 30, some 7)] M M1) : ∀ (n : Nat) {x1 : Int32} {M : Mem}, fX4_refresh_84 k128 n x1 M = some M1 → sm [(27, 29, none), (31, 34, none), (26, 26, some 4), (26, 26, some 5), (30, 30, some 5), (30, 30, some 7)] M M1 := by
  intro n
  induction n with
  | zero =>
    intro x1 M hf
    exact absurd (show none = some _ from hf) (fun h => by cases h)
  | succ n ih =>
    intro x1 M hf
    rw [fX4_refresh_84] at hf
    by_cases q92 : (M.1 26 4) ≤ x1
    · have hf := (br_if hf).1 q92
      exact hk128 hf
    · have hf := (br_if hf).2 q92
      obtain ⟨v98, e98⟩ : ∃ y : Int32, y = (x1 + (1 : Int32)) := ⟨_, rfl⟩
      have hf := nx_at e98 hf
      exact sX4_refresh_99 (fun hf => sX4_refresh_122 (fun hf => ih hf) (fun hf => hk128 hf) hf) FU hf
theorem sX4_refresh_147 {M1 : Mem} : ∀ {M : Mem}, fX4_refresh_147 M = some M1 → sm [(27, 29, none), (31, 34, none), (26, 26, some 4), (26, 26, some 5), (30, 30, some 5), (30, 30, some 7)] M M1 := by
  intro M hf
  unfold fX4_refresh_147 at hf
  cases hf
  exact sm_rf
theorem sX4_refresh_128 {M1 : Mem} : ∀ {M : Mem}, fX4_refresh_128 M = some M1 → sm [(27, 29, none), (31, 34, none), (26, 26, some 4), (26, 26, some 5), (30, 30, some 5), (30, 30, some 7)] M M1 := by
  intro M hf
  unfold fX4_refresh_128 at hf
  obtain ⟨q133, c133, hf⟩ := br_b hf
  refine sm_tr (ssJ7_fill_53178 c133) (by decide) ?_
  by_cases q140 : (q133.1 30 5) = 0
  · have hf := (br_if hf).1 q140
    obtain ⟨q144, c144, hf⟩ := br_b hf
    refine sm_tr (ssX4_findProof c144) (by decide) ?_
    exact sX4_refresh_147 hf
  · have hf := (br_if hf).2 q140
    exact sX4_refresh_147 hf
theorem sX4_refresh_82 {M1 : Mem} : ∀ {M : Mem}, fX4_refresh_82 M = some M1 → sm [(27, 29, none), (31, 34, none), (26, 26, some 4), (26, 26, some 5), (30, 30, some 5), (30, 30, some 7)] M M1 := by
  intro M hf
  unfold fX4_refresh_82 at hf
  exact sX4_refresh_84 (fun hf => sX4_refresh_128 hf) FU hf
theorem sX4_refresh_0 {M1 : Mem} : ∀ {M : Mem}, fX4_refresh M = some M1 → sm [(27, 29, none), (31, 34, none), (26, 26, some 4), (26, 26, some 5), (30, 30, some 5), (30, 30, some 7)] M M1 := by
  intro M hf
  unfold fX4_refresh at hf
  by_cases q11 : (M.1 30 7) = (M.1 1 14)
  · have hf := (br_if hf).1 q11
    cases hf
    exact sm_rf
  · have hf := (br_if hf).2 q11
    obtain ⟨M23, e23⟩ : ∃ y : Mem, y = (sI M 30 7 (M.1 1 14)) := ⟨_, rfl⟩
    have hf := nx_at e23 hf
    refine sm_I e23 (inS_up (L0 := [(30, 30, some 7)]) (by decide) (inS_s 30 7)) ?_
    obtain ⟨q30, c30, hf⟩ := br_b hf
    refine sm_tr (ssX2_refresh c30) (by decide) ?_
    obtain ⟨M35, e35⟩ : ∃ y : Mem, y = (sI q30 30 5 (0 : Int32)) := ⟨_, rfl⟩
    have hf := nx_at e35 hf
    refine sm_I e35 (inS_up (L0 := [(30, 30, some 5)]) (by decide) (inS_s 30 5)) ?_
    exact sX4_refresh_40 (fun hf => sX4_refresh_82 hf) FU hf
theorem ssX4_refresh {M : Mem} {M1 : Mem} (h : fX4_refresh M = some M1) : sm [(27, 29, none), (31, 34, none), (26, 26, some 4), (26, 26, some 5), (30, 30, some 5), (30, 30, some 7)] M M1 := sX4_refresh_0 h
theorem sX7_isNearer_27 {r : Int32} {M1 : Mem} : ∀ {M : Mem}, fX7_isNearer_27 M = some (r, M1) → sm [(35, 35, some 5)] M M1 := by
  intro M hf
  unfold fX7_isNearer_27 at hf
  cases hf
  exact sm_rf
theorem sX7_isNearer_31 {r : Int32} {M1 : Mem} {k52 : Int32 → Mem → Option (Int32 × Mem)} {k65 : Mem → Option (Int32 × Mem)} (hk52 : ∀ {x3 : Int32} {M : Mem}, k52 x3 M = some (r, M1) → sm [(35, 35, some 5)] M M1) (hk65 : ∀ {M : Mem}, k65 M = some (r, M1) → sm [(35, 35, some 5)] M M1) : ∀ (n : Nat) {x1 : Int32} {x2 : Int32} {x3 : Int32} {M : Mem}, fX7_isNearer_31 k52 k65 n x1 x2 x3 M = some (r, M1) → sm [(35, 35, some 5)] M M1 := by
  intro n
  induction n with
  | zero =>
    intro x1 x2 x3 M hf
    exact absurd (show none = some _ from hf) (fun h => by cases h)
  | succ n ih =>
    intro x1 x2 x3 M hf
    rw [fX7_isNearer_31] at hf
    by_cases q39 : (M.1 26 4) ≤ x3
    · have hf := (br_if hf).1 q39
      exact hk65 hf
    · have hf := (br_if hf).2 q39
      obtain ⟨q46, c46, hf⟩ := br_b hf
      by_cases q49 : q46 = 0
      · have hf := (br_if hf).1 q49
        exact hk52 hf
      · have hf := (br_if hf).2 q49
        obtain ⟨v59, e59⟩ : ∃ y : Int32, y = (x3 + (1 : Int32)) := ⟨_, rfl⟩
        have hf := nx_at e59 hf
        exact ih hf
theorem sX7_isNearer_52 {r : Int32} {M1 : Mem} : ∀ {x3 : Int32} {M : Mem}, fX7_isNearer_52 x3 M = some (r, M1) → sm [(35, 35, some 5)] M M1 := by
  intro x3 M hf
  unfold fX7_isNearer_52 at hf
  obtain ⟨M54, e54⟩ : ∃ y : Mem, y = (sI M 35 5 x3) := ⟨_, rfl⟩
  have hf := nx_at e54 hf
  refine sm_I e54 (inS_up (L0 := [(35, 35, some 5)]) (by decide) (inS_s 35 5)) ?_
  cases hf
  exact sm_rf
theorem sX7_isNearer_65 {r : Int32} {M1 : Mem} : ∀ {M : Mem}, fX7_isNearer_65 M = some (r, M1) → sm [(35, 35, some 5)] M M1 := by
  intro M hf
  unfold fX7_isNearer_65 at hf
  cases hf
  exact sm_rf
theorem sX7_isNearer_0 {r : Int32} {M1 : Mem} : ∀ {x1 : Int32} {x2 : Int32} {M : Mem}, fX7_isNearer x1 x2 M = some (r, M1) → sm [(35, 35, some 5)] M M1 := by
  intro x1 x2 M hf
  unfold fX7_isNearer at hf
  by_cases q11 : (M.1 26 4) ≤ (M.1 35 5)
  · have hf := (br_if hf).1 q11
    exact sX7_isNearer_27 hf
  · have hf := (br_if hf).2 q11
    obtain ⟨q21, c21, hf⟩ := br_b hf
    by_cases q24 : q21 = 0
    · have hf := (br_if hf).1 q24
      exact sX7_isNearer_27 hf
    · have hf := (br_if hf).2 q24
      exact sX7_isNearer_31 (fun hf => sX7_isNearer_52 hf) (fun hf => sX7_isNearer_65 hf) FU hf
theorem ssX7_isNearer {x1 : Int32} {x2 : Int32} {M : Mem} {r : Int32} {M1 : Mem} (h : fX7_isNearer x1 x2 M = some (r, M1)) : sm [(35, 35, some 5)] M M1 := sX7_isNearer_0 h
theorem sX7_settleAt_63 {M1 : Mem} {k22 : Int32 → Int32 → Int32 → Mem → Option Mem} {k69 : Mem → Option Mem} (hk22 : ∀ {x1 : Int32} {x2 : Int32} {x3 : Int32} {M : Mem}, k22 x1 x2 x3 M = some M1 → sm [(35, 35, some 1), (35, 35, some 2), (35, 35, some 3), (35, 35, some 4)] M M1) (hk69 : ∀ {M : Mem}, k69 M = some M1 → sm [(35, 35, some 1), (35, 35, some 2), (35, 35, some 3), (35, 35, some 4)] M M1) : ∀ {x1 : Int32} {x2 : Int32} {x3 : Int32} {M : Mem}, fX7_settleAt_63 k22 k69 x1 x2 x3 M = some M1 → sm [(35, 35, some 1), (35, 35, some 2), (35, 35, some 3), (35, 35, some 4)] M M1 := by
  intro x1 x2 x3 M hf
  unfold fX7_settleAt_63 at hf
  obtain ⟨v63, e63⟩ : ∃ y : Int32, y = (x3 + (1 : Int32)) := ⟨_, rfl⟩
  have hf := nx_at e63 hf
  exact hk22 hf
theorem sX7_settleAt_22 {M1 : Mem} {k69 : Mem → Option Mem} (hk69 : ∀ {M : Mem}, k69 M = some M1 → sm [(35, 35, some 1), (35, 35, some 2), (35, 35, some 3), (35, 35, some 4)] M M1) : ∀ (n : Nat) {x1 : Int32} {x2 : Int32} {x3 : Int32} {M : Mem}, fX7_settleAt_22 k69 n x1 x2 x3 M = some M1 → sm [(35, 35, some 1), (35, 35, some 2), (35, 35, some 3), (35, 35, some 4)] M M1 := by
  intro n
  induction n with
  | zero =>
    intro x1 x2 x3 M hf
    exact absurd (show none = some _ from hf) (fun h => by cases h)
  | succ n ih =>
    intro x1 x2 x3 M hf
    rw [fX7_settleAt_22] at hf
    by_cases q30 : (M.1 26 4) ≤ x3
    · have hf := (br_if hf).1 q30
      exact hk69 hf
    · have hf := (br_if hf).2 q30
      obtain ⟨q37, c37, hf⟩ := br_b hf
      by_cases q40 : q37 = 0
      · have hf := (br_if hf).1 q40
        obtain ⟨q48, c48, hf⟩ := br_b hf
        obtain ⟨M51, e51⟩ : ∃ y : Mem, y = (sL M 35 3 q48) := ⟨_, rfl⟩
        have hf := nx_at e51 hf
        refine sm_L e51 (inS_up (L0 := [(35, 35, some 3)]) (by decide) (inS_s 35 3)) ?_
        obtain ⟨q57, c57, hf⟩ := br_b hf
        obtain ⟨M60, e60⟩ : ∃ y : Mem, y = (sL M51 35 4 q57) := ⟨_, rfl⟩
        have hf := nx_at e60 hf
        refine sm_L e60 (inS_up (L0 := [(35, 35, some 4)]) (by decide) (inS_s 35 4)) ?_
        exact sX7_settleAt_63 (fun hf => ih hf) (fun hf => hk69 hf) hf
      · have hf := (br_if hf).2 q40
        exact sX7_settleAt_63 (fun hf => ih hf) (fun hf => hk69 hf) hf
theorem sX7_settleAt_69 {M1 : Mem} : ∀ {M : Mem}, fX7_settleAt_69 M = some M1 → sm [(35, 35, some 1), (35, 35, some 2), (35, 35, some 3), (35, 35, some 4)] M M1 := by
  intro M hf
  unfold fX7_settleAt_69 at hf
  cases hf
  exact sm_rf
theorem sX7_settleAt_0 {M1 : Mem} : ∀ {x1 : Int32} {x2 : Int32} {M : Mem}, fX7_settleAt x1 x2 M = some M1 → sm [(35, 35, some 1), (35, 35, some 2), (35, 35, some 3), (35, 35, some 4)] M M1 := by
  intro x1 x2 M hf
  unfold fX7_settleAt at hf
  obtain ⟨M2, e2⟩ : ∃ y : Mem, y = (sI M 35 1 x1) := ⟨_, rfl⟩
  have hf := nx_at e2 hf
  refine sm_I e2 (inS_up (L0 := [(35, 35, some 1)]) (by decide) (inS_s 35 1)) ?_
  obtain ⟨M7, e7⟩ : ∃ y : Mem, y = (sI M2 35 2 x2) := ⟨_, rfl⟩
  have hf := nx_at e7 hf
  refine sm_I e7 (inS_up (L0 := [(35, 35, some 2)]) (by decide) (inS_s 35 2)) ?_
  obtain ⟨M12, e12⟩ : ∃ y : Mem, y = (sL M7 35 3 (0 : Int64)) := ⟨_, rfl⟩
  have hf := nx_at e12 hf
  refine sm_L e12 (inS_up (L0 := [(35, 35, some 3)]) (by decide) (inS_s 35 3)) ?_
  obtain ⟨M17, e17⟩ : ∃ y : Mem, y = (sL M12 35 4 (1 : Int64)) := ⟨_, rfl⟩
  have hf := nx_at e17 hf
  refine sm_L e17 (inS_up (L0 := [(35, 35, some 4)]) (by decide) (inS_s 35 4)) ?_
  exact sX7_settleAt_22 (fun hf => sX7_settleAt_69 hf) FU hf
theorem ssX7_settleAt {x1 : Int32} {x2 : Int32} {M : Mem} {M1 : Mem} (h : fX7_settleAt x1 x2 M = some M1) : sm [(35, 35, some 1), (35, 35, some 2), (35, 35, some 3), (35, 35, some 4)] M M1 := sX7_settleAt_0 h
theorem sX7_refresh_81 {M1 : Mem} {k60 : Int32 → Int32 → Mem → Option Mem} {k87 : Int32 → Mem → Option Mem} (hk60 : ∀ {x1 : Int32} {x2 : Int32} {M : Mem}, k60 x1 x2 M = some M1 → sm [(27, 29, none), (26, 26, some 4), (26, 26, some 5), (35, 35, some 1), (35, 35, some 2), (35, 35, some 3), (35, 35, some 4), (35, 35, some 5), (35, 35, some 6)] M M1) (hk87 : ∀ {x1 : Int32} {M : Mem}, k87 x1 M = some M1 → sm [(27, 29, none), (26, 26, some 4), (26, 26, some 5), (35, 35, some 1), (35, 35, some 2), (35, 35, some 3), (35, 35, some 4), (35, 35, some 5), (35, 35, some 6)] M M1) : ∀ {x1 : Int32} {x2 : Int32} {M : Mem}, fX7_refresh_81 k60 k87 x1 x2 M = some M1 → sm [(27, 29, none), (26, 26, some 4), (26, 26, some 5), (35, 35, some 1), (35, 35, some 2), (35, 35, some 3), (35, 35, some 4), (35, 35, some 5), (35, 35, some 6)] M M1 := by
  intro x1 x2 M hf
  unfold fX7_refresh_81 at hf
  obtain ⟨v81, e81⟩ : ∃ y : Int32, y = (x2 + (1 : Int32)) := ⟨_, rfl⟩
  have hf := nx_at e81 hf
  exact hk60 hf
theorem sX7_refresh_60 {M1 : Mem} {k87 : Int32 → Mem → Option Mem} (hk87 : ∀ {x1 : Int32} {M : Mem}, k87 x1 M = some M1 → sm [(27, 29, none), (26, 26, some 4), (26, 26, some 5), (35, 35, some 1), (35, 35, some 2), (35, 35, some 3), (35, 35, some 4), (35, 35, some 5), (35, 35, some 6)] M M1) : ∀ (n : Nat) {x1 : Int32} {x2 : Int32} {M : Mem}, fX7_refresh_60 k87 n x1 x2 M = some M1 → sm [(27, 29, none), (26, 26, some 4), (26, 26, some 5), (35, 35, some 1), (35, 35, some 2), (35, 35, some 3), (35, 35, some 4), (35, 35, some 5), (35, 35, some 6)] M M1 := by
  intro n
  induction n with
  | zero =>
    intro x1 x2 M hf
    exact absurd (show none = some _ from hf) (fun h => by cases h)
  | succ n ih =>
    intro x1 x2 M hf
    rw [fX7_refresh_60] at hf
    by_cases q63 : (100 : Int32) ≤ x2
    · have hf := (br_if hf).1 q63
      exact hk87 hf
    · have hf := (br_if hf).2 q63
      obtain ⟨q69, c69, hf⟩ := br_b hf
      refine sm_tr (ssX7_isNearer c69) (by decide) ?_
      by_cases q72 : q69.1 = 0
      · have hf := (br_if hf).1 q72
        exact sX7_refresh_81 (fun hf => ih hf) (fun hf => hk87 hf) hf
      · have hf := (br_if hf).2 q72
        obtain ⟨q78, c78, hf⟩ := br_b hf
        refine sm_tr (ssX7_settleAt c78) (by decide) ?_
        exact sX7_refresh_81 (fun hf => ih hf) (fun hf => hk87 hf) hf
theorem sX7_refresh_87 {M1 : Mem} {k52 : Int32 → Mem → Option Mem} {k93 : Mem → Option Mem} (hk52 : ∀ {x1 : Int32} {M : Mem}, k52 x1 M = some M1 → sm [(27, 29, none), (26, 26, some 4), (26, 26, some 5), (35, 35, some 1), (35, 35, some 2), (35, 35, some 3), (35, 35, some 4), (35, 35, some 5), (35, 35, some 6)] M M1) (hk93 : ∀ {M : Mem}, k93 M = some M1 → sm [(27, 29, none), (26, 26, some 4), (26, 26, some 5), (35, 35, some 1), (35, 35, some 2), (35, 35, some 3), (35, 35, some 4), (35, 35, some 5), (35, 35, some 6)] M M1) : ∀ {x1 : Int32} {M : Mem}, fX7_refresh_87 k52 k93 x1 M = some M1 → sm [(27, 29, none), (26, 26, some 4), (26, 26, some 5), (35, 35, some 1), (35, 35, some 2), (35, 35, some 3), (35, 35, some 4), (35, 35, some 5), (35, 35, some 6)] M M1 := by
  intro x1 M hf
  unfold fX7_refresh_87 at hf
  obtain ⟨v87, e87⟩ : ∃ y : Int32, y = (x1 + (1 : Int32)) := ⟨_, rfl⟩
  have hf := nx_at e87 hf
  exact hk52 hf
theorem sX7_refresh_52 {M1 : Mem} {k93 : Mem → Option Mem} (hk93 : ∀ {M : Mem}, k93 M = some M1 → sm [(27, 29, none), (26, 26, some 4), (26, 26, some 5), (35, 35, some 1), (35, 35, some 2), (35, 35, some 3), (35, 35, some 4), (35, 35, some 5), (35, 35, some 6)] M M1) : ∀ (n : Nat) {x1 : Int32} {M : Mem}, fX7_refresh_52 k93 n x1 M = some M1 → sm [(27, 29, none), (26, 26, some 4), (26, 26, some 5), (35, 35, some 1), (35, 35, some 2), (35, 35, some 3), (35, 35, some 4), (35, 35, some 5), (35, 35, some 6)] M M1 := by
  intro n
  induction n with
  | zero =>
    intro x1 M hf
    exact absurd (show none = some _ from hf) (fun h => by cases h)
  | succ n ih =>
    intro x1 M hf
    rw [fX7_refresh_52] at hf
    by_cases q55 : (100 : Int32) ≤ x1
    · have hf := (br_if hf).1 q55
      exact hk93 hf
    · have hf := (br_if hf).2 q55
      exact sX7_refresh_60 (fun hf => sX7_refresh_87 (fun hf => ih hf) (fun hf => hk93 hf) hf) FU hf
theorem sX7_refresh_131 {M1 : Mem} : ∀ {M : Mem}, fX7_refresh_131 M = some M1 → sm [(27, 29, none), (26, 26, some 4), (26, 26, some 5), (35, 35, some 1), (35, 35, some 2), (35, 35, some 3), (35, 35, some 4), (35, 35, some 5), (35, 35, some 6)] M M1 := by
  intro M hf
  unfold fX7_refresh_131 at hf
  cases hf
  exact sm_rf
theorem sX7_refresh_93 {M1 : Mem} : ∀ {M : Mem}, fX7_refresh_93 M = some M1 → sm [(27, 29, none), (26, 26, some 4), (26, 26, some 5), (35, 35, some 1), (35, 35, some 2), (35, 35, some 3), (35, 35, some 4), (35, 35, some 5), (35, 35, some 6)] M M1 := by
  intro M hf
  unfold fX7_refresh_93 at hf
  obtain ⟨q101, c101, hf⟩ := br_b hf
  by_cases q108 : (lg_cmp q101 (1 : Int64)) ≤ 0
  · have hf := (br_if hf).1 q108
    exact sX7_refresh_131 hf
  · have hf := (br_if hf).2 q108
    obtain ⟨g117, hf⟩ := br_g hf
    obtain ⟨M118, e118⟩ : ∃ y : Mem, y = (sL M 35 3 ((M.2 35 3) / q101)) := ⟨_, rfl⟩
    have hf := nx_at e118 hf
    refine sm_L e118 (inS_up (L0 := [(35, 35, some 3)]) (by decide) (inS_s 35 3)) ?_
    obtain ⟨g127, hf⟩ := br_g hf
    obtain ⟨M128, e128⟩ : ∃ y : Mem, y = (sL M118 35 4 ((M118.2 35 4) / q101)) := ⟨_, rfl⟩
    have hf := nx_at e128 hf
    refine sm_L e128 (inS_up (L0 := [(35, 35, some 4)]) (by decide) (inS_s 35 4)) ?_
    exact sX7_refresh_131 hf
theorem sX7_refresh_0 {M1 : Mem} : ∀ {M : Mem}, fX7_refresh M = some M1 → sm [(27, 29, none), (26, 26, some 4), (26, 26, some 5), (35, 35, some 1), (35, 35, some 2), (35, 35, some 3), (35, 35, some 4), (35, 35, some 5), (35, 35, some 6)] M M1 := by
  intro M hf
  unfold fX7_refresh at hf
  by_cases q14 : (M.1 35 6) = (M.1 1 14)
  · have hf := (br_if hf).1 q14
    cases hf
    exact sm_rf
  · have hf := (br_if hf).2 q14
    obtain ⟨M29, e29⟩ : ∃ y : Mem, y = (sI M 35 6 (M.1 1 14)) := ⟨_, rfl⟩
    have hf := nx_at e29 hf
    refine sm_I e29 (inS_up (L0 := [(35, 35, some 6)]) (by decide) (inS_s 35 6)) ?_
    obtain ⟨q36, c36, hf⟩ := br_b hf
    refine sm_tr (ssX2_refresh c36) (by decide) ?_
    obtain ⟨M41, e41⟩ : ∃ y : Mem, y = (sI q36 35 5 (0 : Int32)) := ⟨_, rfl⟩
    have hf := nx_at e41 hf
    refine sm_I e41 (inS_up (L0 := [(35, 35, some 5)]) (by decide) (inS_s 35 5)) ?_
    obtain ⟨q47, c47, hf⟩ := br_b hf
    refine sm_tr (ssX7_settleAt c47) (by decide) ?_
    exact sX7_refresh_52 (fun hf => sX7_refresh_93 hf) FU hf
theorem ssX7_refresh {M : Mem} {M1 : Mem} (h : fX7_refresh M = some M1) : sm [(27, 29, none), (26, 26, some 4), (26, 26, some 5), (35, 35, some 1), (35, 35, some 2), (35, 35, some 3), (35, 35, some 4), (35, 35, some 5), (35, 35, some 6)] M M1 := sX7_refresh_0 h
theorem sX3_fillPfaffians_42 {M1 : Mem} {k9 : Int32 → Mem → Option Mem} {k49 : Mem → Option Mem} (hk9 : ∀ {x1 : Int32} {M : Mem}, k9 x1 M = some M1 → sm [(38, 38, none)] M M1) (hk49 : ∀ {M : Mem}, k49 M = some M1 → sm [(38, 38, none)] M M1) : ∀ {x1 : Int32} {s1 : Int32} {t2 : Int64} {M : Mem}, fX3_fillPfaffians_42 k9 k49 x1 s1 t2 M = some M1 → sm [(38, 38, none)] M M1 := by
  intro x1 s1 t2 M hf
  unfold fX3_fillPfaffians_42 at hf
  obtain ⟨g42, hf⟩ := br_g hf
  obtain ⟨M42, e42⟩ : ∃ y : Mem, y = (sL M 38 (ix s1) t2) := ⟨_, rfl⟩
  have hf := nx_at e42 hf
  refine sm_L e42 (inS_up (L0 := [(38, 38, none)]) (by decide) (inS_n 38 _)) ?_
  obtain ⟨v43, e43⟩ : ∃ y : Int32, y = (x1 + (1 : Int32)) := ⟨_, rfl⟩
  have hf := nx_at e43 hf
  exact hk9 hf
theorem sX3_fillPfaffians_9 {M1 : Mem} {k49 : Mem → Option Mem} (hk49 : ∀ {M : Mem}, k49 M = some M1 → sm [(38, 38, none)] M M1) : ∀ (n : Nat) {x1 : Int32} {M : Mem}, fX3_fillPfaffians_9 k49 n x1 M = some M1 → sm [(38, 38, none)] M M1 := by
  intro n
  induction n with
  | zero =>
    intro x1 M hf
    exact absurd (show none = some _ from hf) (fun h => by cases h)
  | succ n ih =>
    intro x1 M hf
    rw [fX3_fillPfaffians_9] at hf
    by_cases q16 : ((1 : Int32) <<< ((M.1 36 5) &&& 31)) ≤ x1
    · have hf := (br_if hf).1 q16
      exact hk49 hf
    · have hf := (br_if hf).2 q16
      obtain ⟨q25, c25, hf⟩ := br_b hf
      by_cases q30 : (irm q25 (2 : Int32)) = 0
      · have hf := (br_if hf).1 q30
        obtain ⟨q35, c35, hf⟩ := br_b hf
        exact sX3_fillPfaffians_42 (fun hf => ih hf) (fun hf => hk49 hf) hf
      · have hf := (br_if hf).2 q30
        exact sX3_fillPfaffians_42 (fun hf => ih hf) (fun hf => hk49 hf) hf
theorem sX3_fillPfaffians_49 {M1 : Mem} : ∀ {M : Mem}, fX3_fillPfaffians_49 M = some M1 → sm [(38, 38, none)] M M1 := by
  intro M hf
  unfold fX3_fillPfaffians_49 at hf
  cases hf
  exact sm_rf
theorem sX3_fillPfaffians_0 {M1 : Mem} : ∀ {M : Mem}, fX3_fillPfaffians M = some M1 → sm [(38, 38, none)] M M1 := by
  intro M hf
  unfold fX3_fillPfaffians at hf
  obtain ⟨M6, e6⟩ : ∃ y : Mem, y = (sL M 38 (ix (0 : Int32)) (1 : Int64)) := ⟨_, rfl⟩
  have hf := nx_at e6 hf
  refine sm_L e6 (inS_up (L0 := [(38, 38, none)]) (by decide) (inS_n 38 _)) ?_
  exact sX3_fillPfaffians_9 (fun hf => sX3_fillPfaffians_49 hf) FU hf
theorem ssX3_fillPfaffians {M : Mem} {M1 : Mem} (h : fX3_fillPfaffians M = some M1) : sm [(38, 38, none)] M M1 := sX3_fillPfaffians_0 h
theorem sJ7_fill_d0a16_6 {M1 : Mem} {k len : Nat} {k22 : Mem → Option Mem} (hk22 : ∀ {M : Mem}, k22 M = some M1 → sm [(k, k, none)] M M1) : ∀ (n : Nat) {y1 : Int64} {x3 : Int32} {x4 : Int32} {M : Mem}, fJ7_fill_d0a16_6 k len k22 n y1 x3 x4 M = some M1 → sm [(k, k, none)] M M1 := by
  intro n
  induction n with
  | zero =>
    intro y1 x3 x4 M hf
    exact absurd (show none = some _ from hf) (fun h => by cases h)
  | succ n ih =>
    intro y1 x3 x4 M hf
    rw [fJ7_fill_d0a16_6] at hf
    by_cases q9 : x4 ≤ x3
    · have hf := (br_if hf).1 q9
      exact hk22 hf
    · have hf := (br_if hf).2 q9
      obtain ⟨g15, hf⟩ := br_g hf
      obtain ⟨M15, e15⟩ : ∃ y : Mem, y = (sL M k (ix x3) y1) := ⟨_, rfl⟩
      have hf := nx_at e15 hf
      refine sm_L e15 (inS_n k _) ?_
      obtain ⟨v16, e16⟩ : ∃ y : Int32, y = (x3 + (1 : Int32)) := ⟨_, rfl⟩
      have hf := nx_at e16 hf
      exact ih hf
theorem sJ7_fill_d0a16_22 {M1 : Mem} {k len : Nat} : ∀ {M : Mem}, fJ7_fill_d0a16_22 k len M = some M1 → sm [(k, k, none)] M M1 := by
  intro M hf
  unfold fJ7_fill_d0a16_22 at hf
  cases hf
  exact sm_rf
theorem sJ7_fill_d0a16_0 {M1 : Mem} {k len : Nat} : ∀ {y1 : Int64} {M : Mem}, fJ7_fill_d0a16 k len y1 M = some M1 → sm [(k, k, none)] M M1 := by
  intro y1 M hf
  unfold fJ7_fill_d0a16 at hf
  obtain ⟨v4, e4⟩ : ∃ y : Int32, y = (nI len) := ⟨_, rfl⟩
  have hf := nx_at e4 hf
  exact sJ7_fill_d0a16_6 (fun hf => sJ7_fill_d0a16_22 hf) FU hf
theorem ssJ7_fill_d0a16 {k len : Nat} {y1 : Int64} {M : Mem} {M1 : Mem} (h : fJ7_fill_d0a16 k len y1 M = some M1) : sm [(k, k, none)] M M1 := sJ7_fill_d0a16_0 h
theorem sX3_shareAmong_116 {r : Int32} {M1 : Mem} {k18 : Int32 → Int32 → Int32 → Int32 → Int32 → Mem → Option (Int32 × Mem)} {k83 : Mem → Option (Int32 × Mem)} {k122 : Int32 → Mem → Option (Int32 × Mem)} (hk18 : ∀ {x1 : Int32} {x2 : Int32} {x3 : Int32} {x4 : Int32} {x5 : Int32} {M : Mem}, k18 x1 x2 x3 x4 x5 M = some (r, M1) → sm [(39, 39, none)] M M1) (hk83 : ∀ {M : Mem}, k83 M = some (r, M1) → sm [(39, 39, none)] M M1) (hk122 : ∀ {x4 : Int32} {M : Mem}, k122 x4 M = some (r, M1) → sm [(39, 39, none)] M M1) : ∀ {x1 : Int32} {x2 : Int32} {x3 : Int32} {x4 : Int32} {x5 : Int32} {M : Mem}, fX3_shareAmong_116 k18 k83 k122 x1 x2 x3 x4 x5 M = some (r, M1) → sm [(39, 39, none)] M M1 := by
  intro x1 x2 x3 x4 x5 M hf
  unfold fX3_shareAmong_116 at hf
  obtain ⟨v116, e116⟩ : ∃ y : Int32, y = (x5 + (1 : Int32)) := ⟨_, rfl⟩
  have hf := nx_at e116 hf
  exact hk18 hf
theorem sX3_shareAmong_97 {r : Int32} {M1 : Mem} {k18 : Int32 → Int32 → Int32 → Int32 → Int32 → Mem → Option (Int32 × Mem)} {k83 : Mem → Option (Int32 × Mem)} {k122 : Int32 → Mem → Option (Int32 × Mem)} (hk18 : ∀ {x1 : Int32} {x2 : Int32} {x3 : Int32} {x4 : Int32} {x5 : Int32} {M : Mem}, k18 x1 x2 x3 x4 x5 M = some (r, M1) → sm [(39, 39, none)] M M1) (hk83 : ∀ {M : Mem}, k83 M = some (r, M1) → sm [(39, 39, none)] M M1) (hk122 : ∀ {x4 : Int32} {M : Mem}, k122 x4 M = some (r, M1) → sm [(39, 39, none)] M M1) : ∀ {x1 : Int32} {x3 : Int32} {x4 : Int32} {x5 : Int32} {y6 : Int64} {s0 : Int32} {M : Mem}, fX3_shareAmong_97 k18 k83 k122 x1 x3 x4 x5 y6 s0 M = some (r, M1) → sm [(39, 39, none)] M M1 := by
  intro x1 x3 x4 x5 y6 s0 M hf
  unfold fX3_shareAmong_97 at hf
  obtain ⟨g109, hf⟩ := br_g hf
  obtain ⟨M109, e109⟩ : ∃ y : Mem, y = (sL M 39 (ix x5) (labs y6)) := ⟨_, rfl⟩
  have hf := nx_at e109 hf
  refine sm_L e109 (inS_up (L0 := [(39, 39, none)]) (by decide) (inS_n 39 _)) ?_
  obtain ⟨v112, e112⟩ : ∃ y : Int32, y = (-x3) := ⟨_, rfl⟩
  have hf := nx_at e112 hf
  obtain ⟨v113, e113⟩ : ∃ y : Int32, y = (x4 + (1 : Int32)) := ⟨_, rfl⟩
  have hf := nx_at e113 hf
  exact sX3_shareAmong_116 (fun hf => hk18 hf) (fun hf => hk83 hf) (fun hf => hk122 hf) hf
theorem sX3_shareAmong_85 {r : Int32} {M1 : Mem} {k18 : Int32 → Int32 → Int32 → Int32 → Int32 → Mem → Option (Int32 × Mem)} {k83 : Mem → Option (Int32 × Mem)} {k122 : Int32 → Mem → Option (Int32 × Mem)} (hk18 : ∀ {x1 : Int32} {x2 : Int32} {x3 : Int32} {x4 : Int32} {x5 : Int32} {M : Mem}, k18 x1 x2 x3 x4 x5 M = some (r, M1) → sm [(39, 39, none)] M M1) (hk83 : ∀ {M : Mem}, k83 M = some (r, M1) → sm [(39, 39, none)] M M1) (hk122 : ∀ {x4 : Int32} {M : Mem}, k122 x4 M = some (r, M1) → sm [(39, 39, none)] M M1) : ∀ {x1 : Int32} {x3 : Int32} {x4 : Int32} {x5 : Int32} {y6 : Int64} {M : Mem}, fX3_shareAmong_85 k18 k83 k122 x1 x3 x4 x5 y6 M = some (r, M1) → sm [(39, 39, none)] M M1 := by
  intro x1 x3 x4 x5 y6 M hf
  unfold fX3_shareAmong_85 at hf
  by_cases q89 : 0 ≤ (lg_cmp y6 (0 : Int64))
  · have hf := (br_if hf).1 q89
    exact sX3_shareAmong_97 (fun hf => hk18 hf) (fun hf => hk83 hf) (fun hf => hk122 hf) hf
  · have hf := (br_if hf).2 q89
    exact sX3_shareAmong_97 (fun hf => hk18 hf) (fun hf => hk83 hf) (fun hf => hk122 hf) hf
theorem sX3_shareAmong_80 {r : Int32} {M1 : Mem} {k18 : Int32 → Int32 → Int32 → Int32 → Int32 → Mem → Option (Int32 × Mem)} {k83 : Mem → Option (Int32 × Mem)} {k122 : Int32 → Mem → Option (Int32 × Mem)} (hk18 : ∀ {x1 : Int32} {x2 : Int32} {x3 : Int32} {x4 : Int32} {x5 : Int32} {M : Mem}, k18 x1 x2 x3 x4 x5 M = some (r, M1) → sm [(39, 39, none)] M M1) (hk83 : ∀ {M : Mem}, k83 M = some (r, M1) → sm [(39, 39, none)] M M1) (hk122 : ∀ {x4 : Int32} {M : Mem}, k122 x4 M = some (r, M1) → sm [(39, 39, none)] M M1) : ∀ {x1 : Int32} {x3 : Int32} {x4 : Int32} {x5 : Int32} {y6 : Int64} {s0 : Int32} {s1 : Int32} {M : Mem}, fX3_shareAmong_80 k18 k83 k122 x1 x3 x4 x5 y6 s0 s1 M = some (r, M1) → sm [(39, 39, none)] M M1 := by
  intro x1 x3 x4 x5 y6 s0 s1 M hf
  unfold fX3_shareAmong_80 at hf
  by_cases q80 : s0 = s1
  · have hf := (br_if hf).1 q80
    exact sX3_shareAmong_85 (fun hf => hk18 hf) (fun hf => hk83 hf) (fun hf => hk122 hf) hf
  · have hf := (br_if hf).2 q80
    exact hk83 hf
theorem sX3_shareAmong_18 {r : Int32} {M1 : Mem} {k83 : Mem → Option (Int32 × Mem)} {k122 : Int32 → Mem → Option (Int32 × Mem)} (hk83 : ∀ {M : Mem}, k83 M = some (r, M1) → sm [(39, 39, none)] M M1) (hk122 : ∀ {x4 : Int32} {M : Mem}, k122 x4 M = some (r, M1) → sm [(39, 39, none)] M M1) : ∀ (n : Nat) {x1 : Int32} {x2 : Int32} {x3 : Int32} {x4 : Int32} {x5 : Int32} {M : Mem}, fX3_shareAmong_18 k83 k122 n x1 x2 x3 x4 x5 M = some (r, M1) → sm [(39, 39, none)] M M1 := by
  intro n
  induction n with
  | zero =>
    intro x1 x2 x3 x4 x5 M hf
    exact absurd (show none = some _ from hf) (fun h => by cases h)
  | succ n ih =>
    intro x1 x2 x3 x4 x5 M hf
    rw [fX3_shareAmong_18] at hf
    by_cases q24 : (M.1 36 5) ≤ x5
    · have hf := (br_if hf).1 q24
      exact hk122 hf
    · have hf := (br_if hf).2 q24
      by_cases q33 : ((x1 >>> (x5 &&& 31)) &&& (1 : Int32)) = 0
      · have hf := (br_if hf).1 q33
        exact sX3_shareAmong_116 (fun hf => ih hf) (fun hf => hk83 hf) (fun hf => hk122 hf) hf
      · have hf := (br_if hf).2 q33
        obtain ⟨g51, hf⟩ := br_g hf
        obtain ⟨v53, e53⟩ : ∃ y : Int64, y = (x3.toInt64 * (M.2 38 (ix (x1 ^^^ ((1 : Int32) <<< (x5 &&& 31)))))) := ⟨_, rfl⟩
        have hf := nx_at e53 hf
        by_cases q59 : (lg_cmp v53 (0 : Int64)) = 0
        · have hf := (br_if hf).1 q59
          exact hk83 hf
        · have hf := (br_if hf).2 q59
          by_cases q64 : x4 ≤ 0
          · have hf := (br_if hf).1 q64
            exact sX3_shareAmong_85 (fun hf => ih hf) (fun hf => hk83 hf) (fun hf => hk122 hf) hf
          · have hf := (br_if hf).2 q64
            by_cases q72 : 0 ≤ (lg_cmp v53 (0 : Int64))
            · have hf := (br_if hf).1 q72
              exact sX3_shareAmong_80 (fun hf => ih hf) (fun hf => hk83 hf) (fun hf => hk122 hf) hf
            · have hf := (br_if hf).2 q72
              exact sX3_shareAmong_80 (fun hf => ih hf) (fun hf => hk83 hf) (fun hf => hk122 hf) hf
theorem sX3_shareAmong_83 {r : Int32} {M1 : Mem} : ∀ {M : Mem}, fX3_shareAmong_83 M = some (r, M1) → sm [(39, 39, none)] M M1 := by
  intro M hf
  unfold fX3_shareAmong_83 at hf
  cases hf
  exact sm_rf
theorem sX3_shareAmong_132 {r : Int32} {M1 : Mem} : ∀ {s0 : Int32} {M : Mem}, fX3_shareAmong_132 s0 M = some (r, M1) → sm [(39, 39, none)] M M1 := by
  intro s0 M hf
  unfold fX3_shareAmong_132 at hf
  cases hf
  exact sm_rf
theorem sX3_shareAmong_122 {r : Int32} {M1 : Mem} : ∀ {x4 : Int32} {M : Mem}, fX3_shareAmong_122 x4 M = some (r, M1) → sm [(39, 39, none)] M M1 := by
  intro x4 M hf
  unfold fX3_shareAmong_122 at hf
  by_cases q124 : x4 ≤ 0
  · have hf := (br_if hf).1 q124
    exact sX3_shareAmong_132 hf
  · have hf := (br_if hf).2 q124
    exact sX3_shareAmong_132 hf
theorem sX3_shareAmong_0 {r : Int32} {M1 : Mem} : ∀ {x1 : Int32} {M : Mem}, fX3_shareAmong x1 M = some (r, M1) → sm [(39, 39, none)] M M1 := by
  intro x1 M hf
  unfold fX3_shareAmong at hf
  obtain ⟨q5, c5, hf⟩ := br_b hf
  refine sm_tr (ssJ7_fill_d0a16 c5) (by decide) ?_
  exact sX3_shareAmong_18 (fun hf => sX3_shareAmong_83 hf) (fun hf => sX3_shareAmong_122 hf) FU hf
theorem ssX3_shareAmong {x1 : Int32} {M : Mem} {r : Int32} {M1 : Mem} (h : fX3_shareAmong x1 M = some (r, M1)) : sm [(39, 39, none)] M M1 := sX3_shareAmong_0 h
theorem sX3_reduce_4 {M1 : Mem} {k29 : Int64 → Mem → Option Mem} (hk29 : ∀ {y1 : Int64} {M : Mem}, k29 y1 M = some M1 → sm [(39, 39, none), (36, 36, some 4)] M M1) : ∀ (n : Nat) {y1 : Int64} {x3 : Int32} {M : Mem}, fX3_reduce_4 k29 n y1 x3 M = some M1 → sm [(39, 39, none), (36, 36, some 4)] M M1 := by
  intro n
  induction n with
  | zero =>
    intro y1 x3 M hf
    exact absurd (show none = some _ from hf) (fun h => by cases h)
  | succ n ih =>
    intro y1 x3 M hf
    rw [fX3_reduce_4] at hf
    by_cases q9 : (M.1 36 5) ≤ x3
    · have hf := (br_if hf).1 q9
      exact hk29 hf
    · have hf := (br_if hf).2 q9
      obtain ⟨g18, hf⟩ := br_g hf
      obtain ⟨q19, c19, hf⟩ := br_b hf
      obtain ⟨v23, e23⟩ : ∃ y : Int32, y = (x3 + (1 : Int32)) := ⟨_, rfl⟩
      have hf := nx_at e23 hf
      exact ih hf
theorem sX3_reduce_60 {M1 : Mem} {k36 : Int64 → Int32 → Mem → Option Mem} {k81 : Mem → Option Mem} (hk36 : ∀ {y1 : Int64} {x3 : Int32} {M : Mem}, k36 y1 x3 M = some M1 → sm [(39, 39, none), (36, 36, some 4)] M M1) (hk81 : ∀ {M : Mem}, k81 M = some M1 → sm [(39, 39, none), (36, 36, some 4)] M M1) : ∀ {y1 : Int64} {x3 : Int32} {M : Mem}, fX3_reduce_60 k36 k81 y1 x3 M = some M1 → sm [(39, 39, none), (36, 36, some 4)] M M1 := by
  intro y1 x3 M hf
  unfold fX3_reduce_60 at hf
  obtain ⟨g70, hf⟩ := br_g hf
  obtain ⟨M72, e72⟩ : ∃ y : Mem, y = (sL M 36 4 ((M.2 36 4) + (M.2 39 (ix x3)))) := ⟨_, rfl⟩
  have hf := nx_at e72 hf
  refine sm_L e72 (inS_up (L0 := [(36, 36, some 4)]) (by decide) (inS_s 36 4)) ?_
  obtain ⟨v75, e75⟩ : ∃ y : Int32, y = (x3 + (1 : Int32)) := ⟨_, rfl⟩
  have hf := nx_at e75 hf
  exact hk36 hf
theorem sX3_reduce_36 {M1 : Mem} {k81 : Mem → Option Mem} (hk81 : ∀ {M : Mem}, k81 M = some M1 → sm [(39, 39, none), (36, 36, some 4)] M M1) : ∀ (n : Nat) {y1 : Int64} {x3 : Int32} {M : Mem}, fX3_reduce_36 k81 n y1 x3 M = some M1 → sm [(39, 39, none), (36, 36, some 4)] M M1 := by
  intro n
  induction n with
  | zero =>
    intro y1 x3 M hf
    exact absurd (show none = some _ from hf) (fun h => by cases h)
  | succ n ih =>
    intro y1 x3 M hf
    rw [fX3_reduce_36] at hf
    by_cases q41 : (M.1 36 5) ≤ x3
    · have hf := (br_if hf).1 q41
      exact hk81 hf
    · have hf := (br_if hf).2 q41
      by_cases q47 : (lg_cmp y1 (1 : Int64)) ≤ 0
      · have hf := (br_if hf).1 q47
        exact sX3_reduce_60 (fun hf => ih hf) (fun hf => hk81 hf) hf
      · have hf := (br_if hf).2 q47
        obtain ⟨g56, hf⟩ := br_g hf
        obtain ⟨g58, hf⟩ := br_g hf
        obtain ⟨g59, hf⟩ := br_g hf
        obtain ⟨M59, e59⟩ : ∃ y : Mem, y = (sL M 39 (ix x3) ((M.2 39 (ix x3)) / y1)) := ⟨_, rfl⟩
        have hf := nx_at e59 hf
        refine sm_L e59 (inS_up (L0 := [(39, 39, none)]) (by decide) (inS_n 39 _)) ?_
        exact sX3_reduce_60 (fun hf => ih hf) (fun hf => hk81 hf) hf
theorem sX3_reduce_81 {M1 : Mem} : ∀ {M : Mem}, fX3_reduce_81 M = some M1 → sm [(39, 39, none), (36, 36, some 4)] M M1 := by
  intro M hf
  unfold fX3_reduce_81 at hf
  cases hf
  exact sm_rf
theorem sX3_reduce_29 {M1 : Mem} : ∀ {y1 : Int64} {M : Mem}, fX3_reduce_29 y1 M = some M1 → sm [(39, 39, none), (36, 36, some 4)] M M1 := by
  intro y1 M hf
  unfold fX3_reduce_29 at hf
  obtain ⟨M31, e31⟩ : ∃ y : Mem, y = (sL M 36 4 (0 : Int64)) := ⟨_, rfl⟩
  have hf := nx_at e31 hf
  refine sm_L e31 (inS_up (L0 := [(36, 36, some 4)]) (by decide) (inS_s 36 4)) ?_
  exact sX3_reduce_36 (fun hf => sX3_reduce_81 hf) FU hf
theorem sX3_reduce_0 {M1 : Mem} : ∀ {M : Mem}, fX3_reduce M = some M1 → sm [(39, 39, none), (36, 36, some 4)] M M1 := by
  intro M hf
  unfold fX3_reduce at hf
  exact sX3_reduce_4 (fun hf => sX3_reduce_29 hf) FU hf
theorem ssX3_reduce {M : Mem} {M1 : Mem} (h : fX3_reduce M = some M1) : sm [(39, 39, none), (36, 36, some 4)] M M1 := sX3_reduce_0 h
theorem sX3_findLots_60 {M1 : Mem} {k17 : Int32 → Int32 → Mem → Option Mem} {k50 : Mem → Option Mem} {k66 : Int32 → Mem → Option Mem} (hk17 : ∀ {x1 : Int32} {x2 : Int32} {M : Mem}, k17 x1 x2 M = some M1 → sm [(39, 39, none), (36, 36, some 4), (36, 36, some 6)] M M1) (hk50 : ∀ {M : Mem}, k50 M = some M1 → sm [(39, 39, none), (36, 36, some 4), (36, 36, some 6)] M M1) (hk66 : ∀ {x1 : Int32} {M : Mem}, k66 x1 M = some M1 → sm [(39, 39, none), (36, 36, some 4), (36, 36, some 6)] M M1) : ∀ {x1 : Int32} {x2 : Int32} {M : Mem}, fX3_findLots_60 k17 k50 k66 x1 x2 M = some M1 → sm [(39, 39, none), (36, 36, some 4), (36, 36, some 6)] M M1 := by
  intro x1 x2 M hf
  unfold fX3_findLots_60 at hf
  obtain ⟨v60, e60⟩ : ∃ y : Int32, y = (x2 + (1 : Int32)) := ⟨_, rfl⟩
  have hf := nx_at e60 hf
  exact hk17 hf
theorem sX3_findLots_17 {M1 : Mem} {k50 : Mem → Option Mem} {k66 : Int32 → Mem → Option Mem} (hk50 : ∀ {M : Mem}, k50 M = some M1 → sm [(39, 39, none), (36, 36, some 4), (36, 36, some 6)] M M1) (hk66 : ∀ {x1 : Int32} {M : Mem}, k66 x1 M = some M1 → sm [(39, 39, none), (36, 36, some 4), (36, 36, some 6)] M M1) : ∀ (n : Nat) {x1 : Int32} {x2 : Int32} {M : Mem}, fX3_findLots_17 k50 k66 n x1 x2 M = some M1 → sm [(39, 39, none), (36, 36, some 4), (36, 36, some 6)] M M1 := by
  intro n
  induction n with
  | zero =>
    intro x1 x2 M hf
    exact absurd (show none = some _ from hf) (fun h => by cases h)
  | succ n ih =>
    intro x1 x2 M hf
    rw [fX3_findLots_17] at hf
    by_cases q24 : ((1 : Int32) <<< ((M.1 36 5) &&& 31)) ≤ x2
    · have hf := (br_if hf).1 q24
      exact hk66 hf
    · have hf := (br_if hf).2 q24
      obtain ⟨q28, c28, hf⟩ := br_b hf
      by_cases q32 : q28 = x1
      · have hf := (br_if hf).1 q32
        obtain ⟨q37, c37, hf⟩ := br_b hf
        refine sm_tr (ssX3_shareAmong c37) (by decide) ?_
        by_cases q40 : q37.1 = 0
        · have hf := (br_if hf).1 q40
          exact sX3_findLots_60 (fun hf => ih hf) (fun hf => hk50 hf) (fun hf => hk66 hf) hf
        · have hf := (br_if hf).2 q40
          obtain ⟨q44, c44, hf⟩ := br_b hf
          by_cases q47 : q44 = 0
          · have hf := (br_if hf).1 q47
            exact sX3_findLots_60 (fun hf => ih hf) (fun hf => hk50 hf) (fun hf => hk66 hf) hf
          · have hf := (br_if hf).2 q47
            exact hk50 hf
      · have hf := (br_if hf).2 q32
        exact sX3_findLots_60 (fun hf => ih hf) (fun hf => hk50 hf) (fun hf => hk66 hf) hf
theorem sX3_findLots_66 {M1 : Mem} {k7 : Int32 → Mem → Option Mem} {k50 : Mem → Option Mem} {k72 : Mem → Option Mem} (hk7 : ∀ {x1 : Int32} {M : Mem}, k7 x1 M = some M1 → sm [(39, 39, none), (36, 36, some 4), (36, 36, some 6)] M M1) (hk50 : ∀ {M : Mem}, k50 M = some M1 → sm [(39, 39, none), (36, 36, some 4), (36, 36, some 6)] M M1) (hk72 : ∀ {M : Mem}, k72 M = some M1 → sm [(39, 39, none), (36, 36, some 4), (36, 36, some 6)] M M1) : ∀ {x1 : Int32} {M : Mem}, fX3_findLots_66 k7 k50 k72 x1 M = some M1 → sm [(39, 39, none), (36, 36, some 4), (36, 36, some 6)] M M1 := by
  intro x1 M hf
  unfold fX3_findLots_66 at hf
  obtain ⟨v66, e66⟩ : ∃ y : Int32, y = (x1 + (2 : Int32)) := ⟨_, rfl⟩
  have hf := nx_at e66 hf
  exact hk7 hf
theorem sX3_findLots_7 {M1 : Mem} {k50 : Mem → Option Mem} {k72 : Mem → Option Mem} (hk50 : ∀ {M : Mem}, k50 M = some M1 → sm [(39, 39, none), (36, 36, some 4), (36, 36, some 6)] M M1) (hk72 : ∀ {M : Mem}, k72 M = some M1 → sm [(39, 39, none), (36, 36, some 4), (36, 36, some 6)] M M1) : ∀ (n : Nat) {x1 : Int32} {M : Mem}, fX3_findLots_7 k50 k72 n x1 M = some M1 → sm [(39, 39, none), (36, 36, some 4), (36, 36, some 6)] M M1 := by
  intro n
  induction n with
  | zero =>
    intro x1 M hf
    exact absurd (show none = some _ from hf) (fun h => by cases h)
  | succ n ih =>
    intro x1 M hf
    rw [fX3_findLots_7] at hf
    by_cases q12 : (M.1 36 5) < x1
    · have hf := (br_if hf).1 q12
      exact hk72 hf
    · have hf := (br_if hf).2 q12
      exact sX3_findLots_17 (fun hf => hk50 hf) (fun hf => sX3_findLots_66 (fun hf => ih hf) (fun hf => hk50 hf) (fun hf => hk72 hf) hf) FU hf
theorem sX3_findLots_50 {M1 : Mem} : ∀ {M : Mem}, fX3_findLots_50 M = some M1 → sm [(39, 39, none), (36, 36, some 4), (36, 36, some 6)] M M1 := by
  intro M hf
  unfold fX3_findLots_50 at hf
  obtain ⟨M52, e52⟩ : ∃ y : Mem, y = (sI M 36 6 (1 : Int32)) := ⟨_, rfl⟩
  have hf := nx_at e52 hf
  refine sm_I e52 (inS_up (L0 := [(36, 36, some 6)]) (by decide) (inS_s 36 6)) ?_
  obtain ⟨q56, c56, hf⟩ := br_b hf
  refine sm_tr (ssX3_reduce c56) (by decide) ?_
  cases hf
  exact sm_rf
theorem sX3_findLots_72 {M1 : Mem} : ∀ {M : Mem}, fX3_findLots_72 M = some M1 → sm [(39, 39, none), (36, 36, some 4), (36, 36, some 6)] M M1 := by
  intro M hf
  unfold fX3_findLots_72 at hf
  cases hf
  exact sm_rf
theorem sX3_findLots_0 {M1 : Mem} : ∀ {M : Mem}, fX3_findLots M = some M1 → sm [(39, 39, none), (36, 36, some 4), (36, 36, some 6)] M M1 := by
  intro M hf
  unfold fX3_findLots at hf
  obtain ⟨M2, e2⟩ : ∃ y : Mem, y = (sI M 36 6 (0 : Int32)) := ⟨_, rfl⟩
  have hf := nx_at e2 hf
  refine sm_I e2 (inS_up (L0 := [(36, 36, some 6)]) (by decide) (inS_s 36 6)) ?_
  exact sX3_findLots_7 (fun hf => sX3_findLots_50 hf) (fun hf => sX3_findLots_72 hf) FU hf
theorem ssX3_findLots {M : Mem} {M1 : Mem} (h : fX3_findLots M = some M1) : sm [(39, 39, none), (36, 36, some 4), (36, 36, some 6)] M M1 := sX3_findLots_0 h
theorem sX3_findRest_46 {M1 : Mem} {k20 : Int32 → Int32 → Int32 → Mem → Option Mem} {k53 : Int32 → Int32 → Mem → Option Mem} (hk20 : ∀ {x1 : Int32} {x2 : Int32} {x3 : Int32} {M : Mem}, k20 x1 x2 x3 M = some M1 → sm [(36, 36, some 7)] M M1) (hk53 : ∀ {x1 : Int32} {x2 : Int32} {M : Mem}, k53 x1 x2 M = some M1 → sm [(36, 36, some 7)] M M1) : ∀ {x1 : Int32} {x3 : Int32} {s0 : Int32} {M : Mem}, fX3_findRest_46 k20 k53 x1 x3 s0 M = some M1 → sm [(36, 36, some 7)] M M1 := by
  intro x1 x3 s0 M hf
  unfold fX3_findRest_46 at hf
  obtain ⟨v47, e47⟩ : ∃ y : Int32, y = (x3 + (1 : Int32)) := ⟨_, rfl⟩
  have hf := nx_at e47 hf
  exact hk20 hf
theorem sX3_findRest_45 {M1 : Mem} {k20 : Int32 → Int32 → Int32 → Mem → Option Mem} {k53 : Int32 → Int32 → Mem → Option Mem} (hk20 : ∀ {x1 : Int32} {x2 : Int32} {x3 : Int32} {M : Mem}, k20 x1 x2 x3 M = some M1 → sm [(36, 36, some 7)] M M1) (hk53 : ∀ {x1 : Int32} {x2 : Int32} {M : Mem}, k53 x1 x2 M = some M1 → sm [(36, 36, some 7)] M M1) : ∀ {x1 : Int32} {x3 : Int32} {M : Mem}, fX3_findRest_45 k20 k53 x1 x3 M = some M1 → sm [(36, 36, some 7)] M M1 := by
  intro x1 x3 M hf
  unfold fX3_findRest_45 at hf
  exact sX3_findRest_46 (fun hf => hk20 hf) (fun hf => hk53 hf) hf
theorem sX3_findRest_20 {M1 : Mem} {k53 : Int32 → Int32 → Mem → Option Mem} (hk53 : ∀ {x1 : Int32} {x2 : Int32} {M : Mem}, k53 x1 x2 M = some M1 → sm [(36, 36, some 7)] M M1) : ∀ (n : Nat) {x1 : Int32} {x2 : Int32} {x3 : Int32} {M : Mem}, fX3_findRest_20 k53 n x1 x2 x3 M = some M1 → sm [(36, 36, some 7)] M M1 := by
  intro n
  induction n with
  | zero =>
    intro x1 x2 x3 M hf
    exact absurd (show none = some _ from hf) (fun h => by cases h)
  | succ n ih =>
    intro x1 x2 x3 M hf
    rw [fX3_findRest_20] at hf
    by_cases q25 : (M.1 36 5) ≤ x3
    · have hf := (br_if hf).1 q25
      exact hk53 hf
    · have hf := (br_if hf).2 q25
      by_cases q29 : x2 = 0
      · have hf := (br_if hf).1 q29
        exact sX3_findRest_45 (fun hf => ih hf) (fun hf => hk53 hf) hf
      · have hf := (br_if hf).2 q29
        obtain ⟨q35, c35, hf⟩ := br_b hf
        by_cases q38 : 0 < q35
        · have hf := (br_if hf).1 q38
          exact sX3_findRest_45 (fun hf => ih hf) (fun hf => hk53 hf) hf
        · have hf := (br_if hf).2 q38
          exact sX3_findRest_46 (fun hf => ih hf) (fun hf => hk53 hf) hf
theorem sX3_findRest_62 {M1 : Mem} {k12 : Int32 → Mem → Option Mem} {k68 : Mem → Option Mem} (hk12 : ∀ {x1 : Int32} {M : Mem}, k12 x1 M = some M1 → sm [(36, 36, some 7)] M M1) (hk68 : ∀ {M : Mem}, k68 M = some M1 → sm [(36, 36, some 7)] M M1) : ∀ {x1 : Int32} {M : Mem}, fX3_findRest_62 k12 k68 x1 M = some M1 → sm [(36, 36, some 7)] M M1 := by
  intro x1 M hf
  unfold fX3_findRest_62 at hf
  obtain ⟨v62, e62⟩ : ∃ y : Int32, y = (x1 + (-1 : Int32)) := ⟨_, rfl⟩
  have hf := nx_at e62 hf
  exact hk12 hf
theorem sX3_findRest_53 {M1 : Mem} {k12 : Int32 → Mem → Option Mem} {k68 : Mem → Option Mem} (hk12 : ∀ {x1 : Int32} {M : Mem}, k12 x1 M = some M1 → sm [(36, 36, some 7)] M M1) (hk68 : ∀ {M : Mem}, k68 M = some M1 → sm [(36, 36, some 7)] M M1) : ∀ {x1 : Int32} {x2 : Int32} {M : Mem}, fX3_findRest_53 k12 k68 x1 x2 M = some M1 → sm [(36, 36, some 7)] M M1 := by
  intro x1 x2 M hf
  unfold fX3_findRest_53 at hf
  by_cases q54 : x2 = 0
  · have hf := (br_if hf).1 q54
    exact sX3_findRest_62 (fun hf => hk12 hf) (fun hf => hk68 hf) hf
  · have hf := (br_if hf).2 q54
    obtain ⟨M59, e59⟩ : ∃ y : Mem, y = (sI M 36 7 x1) := ⟨_, rfl⟩
    have hf := nx_at e59 hf
    refine sm_I e59 (inS_up (L0 := [(36, 36, some 7)]) (by decide) (inS_s 36 7)) ?_
    exact sX3_findRest_62 (fun hf => hk12 hf) (fun hf => hk68 hf) hf
theorem sX3_findRest_12 {M1 : Mem} {k68 : Mem → Option Mem} (hk68 : ∀ {M : Mem}, k68 M = some M1 → sm [(36, 36, some 7)] M M1) : ∀ (n : Nat) {x1 : Int32} {M : Mem}, fX3_findRest_12 k68 n x1 M = some M1 → sm [(36, 36, some 7)] M M1 := by
  intro n
  induction n with
  | zero =>
    intro x1 M hf
    exact absurd (show none = some _ from hf) (fun h => by cases h)
  | succ n ih =>
    intro x1 M hf
    rw [fX3_findRest_12] at hf
    by_cases q13 : x1 < 0
    · have hf := (br_if hf).1 q13
      exact hk68 hf
    · have hf := (br_if hf).2 q13
      exact sX3_findRest_20 (fun hf => sX3_findRest_53 (fun hf => ih hf) (fun hf => hk68 hf) hf) FU hf
theorem sX3_findRest_68 {M1 : Mem} : ∀ {M : Mem}, fX3_findRest_68 M = some M1 → sm [(36, 36, some 7)] M M1 := by
  intro M hf
  unfold fX3_findRest_68 at hf
  cases hf
  exact sm_rf
theorem sX3_findRest_0 {M1 : Mem} : ∀ {M : Mem}, fX3_findRest M = some M1 → sm [(36, 36, some 7)] M M1 := by
  intro M hf
  unfold fX3_findRest at hf
  obtain ⟨M2, e2⟩ : ∃ y : Mem, y = (sI M 36 7 (-1 : Int32)) := ⟨_, rfl⟩
  have hf := nx_at e2 hf
  refine sm_I e2 (inS_up (L0 := [(36, 36, some 7)]) (by decide) (inS_s 36 7)) ?_
  obtain ⟨v11, e11⟩ : ∃ y : Int32, y = ((M2.1 36 5) - (1 : Int32)) := ⟨_, rfl⟩
  have hf := nx_at e11 hf
  exact sX3_findRest_12 (fun hf => sX3_findRest_68 hf) FU hf
theorem ssX3_findRest {M : Mem} {M1 : Mem} (h : fX3_findRest M = some M1) : sm [(36, 36, some 7)] M M1 := sX3_findRest_0 h
theorem sX3_refresh_72 {M1 : Mem} {k116 : Int32 → Mem → Option Mem} (hk116 : ∀ {x2 : Int32} {M : Mem}, k116 x2 M = some M1 → sm [(37, 39, none), (36, 36, some 4), (36, 36, some 5), (36, 36, some 6), (36, 36, some 7), (36, 36, some 8), (36, 36, some 9)] M M1) : ∀ (n : Nat) {x2 : Int32} {x3 : Int32} {M : Mem}, fX3_refresh_72 k116 n x2 x3 M = some M1 → sm [(37, 39, none), (36, 36, some 4), (36, 36, some 5), (36, 36, some 6), (36, 36, some 7), (36, 36, some 8), (36, 36, some 9)] M M1 := by
  intro n
  induction n with
  | zero =>
    intro x2 x3 M hf
    exact absurd (show none = some _ from hf) (fun h => by cases h)
  | succ n ih =>
    intro x2 x3 M hf
    rw [fX3_refresh_72] at hf
    by_cases q77 : (M.1 36 5) ≤ x3
    · have hf := (br_if hf).1 q77
      exact hk116 hf
    · have hf := (br_if hf).2 q77
      obtain ⟨q96, c96, hf⟩ := br_b hf
      obtain ⟨q105, c105, hf⟩ := br_b hf
      obtain ⟨g109, hf⟩ := br_g hf
      obtain ⟨M109, e109⟩ : ∃ y : Mem, y = (sI M 37 (ix ((x2 * (8 : Int32)) + x3)) (q96 - q105)) := ⟨_, rfl⟩
      have hf := nx_at e109 hf
      refine sm_I e109 (inS_up (L0 := [(37, 37, none)]) (by decide) (inS_n 37 _)) ?_
      obtain ⟨v110, e110⟩ : ∃ y : Int32, y = (x3 + (1 : Int32)) := ⟨_, rfl⟩
      have hf := nx_at e110 hf
      exact ih hf
theorem sX3_refresh_116 {M1 : Mem} {k62 : Int32 → Mem → Option Mem} {k122 : Mem → Option Mem} (hk62 : ∀ {x2 : Int32} {M : Mem}, k62 x2 M = some M1 → sm [(37, 39, none), (36, 36, some 4), (36, 36, some 5), (36, 36, some 6), (36, 36, some 7), (36, 36, some 8), (36, 36, some 9)] M M1) (hk122 : ∀ {M : Mem}, k122 M = some M1 → sm [(37, 39, none), (36, 36, some 4), (36, 36, some 5), (36, 36, some 6), (36, 36, some 7), (36, 36, some 8), (36, 36, some 9)] M M1) : ∀ {x2 : Int32} {M : Mem}, fX3_refresh_116 k62 k122 x2 M = some M1 → sm [(37, 39, none), (36, 36, some 4), (36, 36, some 5), (36, 36, some 6), (36, 36, some 7), (36, 36, some 8), (36, 36, some 9)] M M1 := by
  intro x2 M hf
  unfold fX3_refresh_116 at hf
  obtain ⟨v116, e116⟩ : ∃ y : Int32, y = (x2 + (1 : Int32)) := ⟨_, rfl⟩
  have hf := nx_at e116 hf
  exact hk62 hf
theorem sX3_refresh_62 {M1 : Mem} {k122 : Mem → Option Mem} (hk122 : ∀ {M : Mem}, k122 M = some M1 → sm [(37, 39, none), (36, 36, some 4), (36, 36, some 5), (36, 36, some 6), (36, 36, some 7), (36, 36, some 8), (36, 36, some 9)] M M1) : ∀ (n : Nat) {x2 : Int32} {M : Mem}, fX3_refresh_62 k122 n x2 M = some M1 → sm [(37, 39, none), (36, 36, some 4), (36, 36, some 5), (36, 36, some 6), (36, 36, some 7), (36, 36, some 8), (36, 36, some 9)] M M1 := by
  intro n
  induction n with
  | zero =>
    intro x2 M hf
    exact absurd (show none = some _ from hf) (fun h => by cases h)
  | succ n ih =>
    intro x2 M hf
    rw [fX3_refresh_62] at hf
    by_cases q67 : (M.1 36 5) ≤ x2
    · have hf := (br_if hf).1 q67
      exact hk122 hf
    · have hf := (br_if hf).2 q67
      exact sX3_refresh_72 (fun hf => sX3_refresh_116 (fun hf => ih hf) (fun hf => hk122 hf) hf) FU hf
theorem sX3_refresh_122 {M1 : Mem} : ∀ {M : Mem}, fX3_refresh_122 M = some M1 → sm [(37, 39, none), (36, 36, some 4), (36, 36, some 5), (36, 36, some 6), (36, 36, some 7), (36, 36, some 8), (36, 36, some 9)] M M1 := by
  intro M hf
  unfold fX3_refresh_122 at hf
  obtain ⟨q123, c123, hf⟩ := br_b hf
  refine sm_tr (ssX3_findRest c123) (by decide) ?_
  obtain ⟨q127, c127, hf⟩ := br_b hf
  refine sm_tr (ssX3_fillPfaffians c127) (by decide) ?_
  obtain ⟨q131, c131, hf⟩ := br_b hf
  refine sm_tr (ssX3_findLots c131) (by decide) ?_
  cases hf
  exact sm_rf
theorem sX3_refresh_31 {M1 : Mem} : ∀ {M : Mem}, fX3_refresh_31 M = some M1 → sm [(37, 39, none), (36, 36, some 4), (36, 36, some 5), (36, 36, some 6), (36, 36, some 7), (36, 36, some 8), (36, 36, some 9)] M M1 := by
  intro M hf
  unfold fX3_refresh_31 at hf
  obtain ⟨M36, e36⟩ : ∃ y : Mem, y = (sI M 36 8 (M.1 1 14)) := ⟨_, rfl⟩
  have hf := nx_at e36 hf
  refine sm_I e36 (inS_up (L0 := [(36, 36, some 8)]) (by decide) (inS_s 36 8)) ?_
  obtain ⟨M44, e44⟩ : ∃ y : Mem, y = (sI M36 36 9 (M36.1 1 15)) := ⟨_, rfl⟩
  have hf := nx_at e44 hf
  refine sm_I e44 (inS_up (L0 := [(36, 36, some 9)]) (by decide) (inS_s 36 9)) ?_
  obtain ⟨M57, e57⟩ : ∃ y : Mem, y = (sI M44 36 5 (imin (8 : Int32) (M44.1 1 8))) := ⟨_, rfl⟩
  have hf := nx_at e57 hf
  refine sm_I e57 (inS_up (L0 := [(36, 36, some 5)]) (by decide) (inS_s 36 5)) ?_
  exact sX3_refresh_62 (fun hf => sX3_refresh_122 hf) FU hf
theorem sX3_refresh_0 {M1 : Mem} : ∀ {M : Mem}, fX3_refresh M = some M1 → sm [(37, 39, none), (36, 36, some 4), (36, 36, some 5), (36, 36, some 6), (36, 36, some 7), (36, 36, some 8), (36, 36, some 9)] M M1 := by
  intro M hf
  unfold fX3_refresh at hf
  by_cases q16 : (M.1 36 8) = (M.1 1 14)
  · have hf := (br_if hf).1 q16
    by_cases q27 : (M.1 36 9) = (M.1 1 15)
    · have hf := (br_if hf).1 q27
      cases hf
      exact sm_rf
    · have hf := (br_if hf).2 q27
      exact sX3_refresh_31 hf
  · have hf := (br_if hf).2 q16
    exact sX3_refresh_31 hf
theorem ssX3_refresh {M : Mem} {M1 : Mem} (h : fX3_refresh M = some M1) : sm [(37, 39, none), (36, 36, some 4), (36, 36, some 5), (36, 36, some 6), (36, 36, some 7), (36, 36, some 8), (36, 36, some 9)] M M1 := sX3_refresh_0 h
theorem sX9_fillWays_41_3 {M1 : Mem} {k35 : Mem → Option Mem} (hk35 : ∀ {M : Mem}, k35 M = some M1 → sm [(41, 41, none)] M M1) : ∀ (n : Nat) {x1 : Int32} {x2 : Int32} {x3 : Int32} {x5 : Int32} {M : Mem}, fX9_fillWays_41_3 k35 n x1 x2 x3 x5 M = some M1 → sm [(41, 41, none)] M M1 := by
  intro n
  induction n with
  | zero =>
    intro x1 x2 x3 x5 M hf
    exact absurd (show none = some _ from hf) (fun h => by cases h)
  | succ n ih =>
    intro x1 x2 x3 x5 M hf
    rw [fX9_fillWays_41_3] at hf
    by_cases q12 : (M.1 1 8) ≤ x5
    · have hf := (br_if hf).1 q12
      exact hk35 hf
    · have hf := (br_if hf).2 q12
      obtain ⟨q25, c25, hf⟩ := br_b hf
      obtain ⟨g28, hf⟩ := br_g hf
      obtain ⟨M28, e28⟩ : ∃ y : Mem, y = (sI M 41 (ix x5) q25) := ⟨_, rfl⟩
      have hf := nx_at e28 hf
      refine sm_I e28 (inS_up (L0 := [(41, 41, none)]) (by decide) (inS_n 41 _)) ?_
      obtain ⟨v29, e29⟩ : ∃ y : Int32, y = (x5 + (1 : Int32)) := ⟨_, rfl⟩
      have hf := nx_at e29 hf
      exact ih hf
theorem sX9_fillWays_41_35 {M1 : Mem} : ∀ {M : Mem}, fX9_fillWays_41_35 M = some M1 → sm [(41, 41, none)] M M1 := by
  intro M hf
  unfold fX9_fillWays_41_35 at hf
  cases hf
  exact sm_rf
theorem sX9_fillWays_41_0 {M1 : Mem} : ∀ {x1 : Int32} {x2 : Int32} {x3 : Int32} {M : Mem}, fX9_fillWays_41 x1 x2 x3 M = some M1 → sm [(41, 41, none)] M M1 := by
  intro x1 x2 x3 M hf
  unfold fX9_fillWays_41 at hf
  exact sX9_fillWays_41_3 (fun hf => sX9_fillWays_41_35 hf) FU hf
theorem ssX9_fillWays_41 {x1 : Int32} {x2 : Int32} {x3 : Int32} {M : Mem} {M1 : Mem} (h : fX9_fillWays_41 x1 x2 x3 M = some M1) : sm [(41, 41, none)] M M1 := sX9_fillWays_41_0 h
theorem sX9_fillWays_42_3 {M1 : Mem} {k35 : Mem → Option Mem} (hk35 : ∀ {M : Mem}, k35 M = some M1 → sm [(42, 42, none)] M M1) : ∀ (n : Nat) {x1 : Int32} {x2 : Int32} {x3 : Int32} {x5 : Int32} {M : Mem}, fX9_fillWays_42_3 k35 n x1 x2 x3 x5 M = some M1 → sm [(42, 42, none)] M M1 := by
  intro n
  induction n with
  | zero =>
    intro x1 x2 x3 x5 M hf
    exact absurd (show none = some _ from hf) (fun h => by cases h)
  | succ n ih =>
    intro x1 x2 x3 x5 M hf
    rw [fX9_fillWays_42_3] at hf
    by_cases q12 : (M.1 1 8) ≤ x5
    · have hf := (br_if hf).1 q12
      exact hk35 hf
    · have hf := (br_if hf).2 q12
      obtain ⟨q25, c25, hf⟩ := br_b hf
      obtain ⟨g28, hf⟩ := br_g hf
      obtain ⟨M28, e28⟩ : ∃ y : Mem, y = (sI M 42 (ix x5) q25) := ⟨_, rfl⟩
      have hf := nx_at e28 hf
      refine sm_I e28 (inS_up (L0 := [(42, 42, none)]) (by decide) (inS_n 42 _)) ?_
      obtain ⟨v29, e29⟩ : ∃ y : Int32, y = (x5 + (1 : Int32)) := ⟨_, rfl⟩
      have hf := nx_at e29 hf
      exact ih hf
theorem sX9_fillWays_42_35 {M1 : Mem} : ∀ {M : Mem}, fX9_fillWays_42_35 M = some M1 → sm [(42, 42, none)] M M1 := by
  intro M hf
  unfold fX9_fillWays_42_35 at hf
  cases hf
  exact sm_rf
theorem sX9_fillWays_42_0 {M1 : Mem} : ∀ {x1 : Int32} {x2 : Int32} {x3 : Int32} {M : Mem}, fX9_fillWays_42 x1 x2 x3 M = some M1 → sm [(42, 42, none)] M M1 := by
  intro x1 x2 x3 M hf
  unfold fX9_fillWays_42 at hf
  exact sX9_fillWays_42_3 (fun hf => sX9_fillWays_42_35 hf) FU hf
theorem ssX9_fillWays_42 {x1 : Int32} {x2 : Int32} {x3 : Int32} {M : Mem} {M1 : Mem} (h : fX9_fillWays_42 x1 x2 x3 M = some M1) : sm [(42, 42, none)] M M1 := sX9_fillWays_42_0 h
theorem sX9_fillJoining_165 {M1 : Mem} {k56 : Int32 → Int32 → Int32 → Mem → Option Mem} {k188 : Mem → Option Mem} (hk56 : ∀ {x1 : Int32} {x2 : Int32} {x3 : Int32} {M : Mem}, k56 x1 x2 x3 M = some M1 → sm [(41, 44, none)] M M1) (hk188 : ∀ {M : Mem}, k188 M = some M1 → sm [(41, 44, none)] M M1) : ∀ {x1 : Int32} {x2 : Int32} {x3 : Int32} {x4 : Int32} {x5 : Int32} {s1 : Int32} {s2 : Int32} {M : Mem}, fX9_fillJoining_165 k56 k188 x1 x2 x3 x4 x5 s1 s2 M = some M1 → sm [(41, 44, none)] M M1 := by
  intro x1 x2 x3 x4 x5 s1 s2 M hf
  unfold fX9_fillJoining_165 at hf
  obtain ⟨g165, hf⟩ := br_g hf
  obtain ⟨M165, e165⟩ : ∃ y : Mem, y = (sI M 43 (ix s1) s2) := ⟨_, rfl⟩
  have hf := nx_at e165 hf
  refine sm_I e165 (inS_up (L0 := [(43, 43, none)]) (by decide) (inS_n 43 _)) ?_
  obtain ⟨g181, hf⟩ := br_g hf
  obtain ⟨M181, e181⟩ : ∃ y : Mem, y = (sI M165 44 (ix ((x1 * (20 : Int32)) + x3)) (x5 - x4)) := ⟨_, rfl⟩
  have hf := nx_at e181 hf
  refine sm_I e181 (inS_up (L0 := [(44, 44, none)]) (by decide) (inS_n 44 _)) ?_
  obtain ⟨v182, e182⟩ : ∃ y : Int32, y = (x3 + (1 : Int32)) := ⟨_, rfl⟩
  have hf := nx_at e182 hf
  exact hk56 hf
theorem sX9_fillJoining_125 {M1 : Mem} {k56 : Int32 → Int32 → Int32 → Mem → Option Mem} {k188 : Mem → Option Mem} (hk56 : ∀ {x1 : Int32} {x2 : Int32} {x3 : Int32} {M : Mem}, k56 x1 x2 x3 M = some M1 → sm [(41, 44, none)] M M1) (hk188 : ∀ {M : Mem}, k188 M = some M1 → sm [(41, 44, none)] M M1) : ∀ {x1 : Int32} {x2 : Int32} {x3 : Int32} {x4 : Int32} {s0 : Int32} {M : Mem}, fX9_fillJoining_125 k56 k188 x1 x2 x3 x4 s0 M = some M1 → sm [(41, 44, none)] M M1 := by
  intro x1 x2 x3 x4 s0 M hf
  unfold fX9_fillJoining_125 at hf
  obtain ⟨g142, hf⟩ := br_g hf
  obtain ⟨g148, hf⟩ := br_g hf
  by_cases q149 : (M.1 41 (ix x2)) ≤ (M.1 41 (ix x3))
  · have hf := (br_if hf).1 q149
    exact sX9_fillJoining_165 (fun hf => hk56 hf) (fun hf => hk188 hf) hf
  · have hf := (br_if hf).2 q149
    obtain ⟨g160, hf⟩ := br_g hf
    exact sX9_fillJoining_165 (fun hf => hk56 hf) (fun hf => hk188 hf) hf
theorem sX9_fillJoining_95 {M1 : Mem} {k56 : Int32 → Int32 → Int32 → Mem → Option Mem} {k188 : Mem → Option Mem} (hk56 : ∀ {x1 : Int32} {x2 : Int32} {x3 : Int32} {M : Mem}, k56 x1 x2 x3 M = some M1 → sm [(41, 44, none)] M M1) (hk188 : ∀ {M : Mem}, k188 M = some M1 → sm [(41, 44, none)] M M1) : ∀ {x1 : Int32} {x2 : Int32} {x3 : Int32} {s0 : Int32} {M : Mem}, fX9_fillJoining_95 k56 k188 x1 x2 x3 s0 M = some M1 → sm [(41, 44, none)] M M1 := by
  intro x1 x2 x3 s0 M hf
  unfold fX9_fillJoining_95 at hf
  obtain ⟨g102, hf⟩ := br_g hf
  obtain ⟨g108, hf⟩ := br_g hf
  by_cases q109 : (M.1 42 (ix x3)) ≤ (M.1 42 (ix x2))
  · have hf := (br_if hf).1 q109
    exact sX9_fillJoining_125 (fun hf => hk56 hf) (fun hf => hk188 hf) hf
  · have hf := (br_if hf).2 q109
    obtain ⟨g120, hf⟩ := br_g hf
    exact sX9_fillJoining_125 (fun hf => hk56 hf) (fun hf => hk188 hf) hf
theorem sX9_fillJoining_56 {M1 : Mem} {k188 : Mem → Option Mem} (hk188 : ∀ {M : Mem}, k188 M = some M1 → sm [(41, 44, none)] M M1) : ∀ (n : Nat) {x1 : Int32} {x2 : Int32} {x3 : Int32} {M : Mem}, fX9_fillJoining_56 k188 n x1 x2 x3 M = some M1 → sm [(41, 44, none)] M M1 := by
  intro n
  induction n with
  | zero =>
    intro x1 x2 x3 M hf
    exact absurd (show none = some _ from hf) (fun h => by cases h)
  | succ n ih =>
    intro x1 x2 x3 M hf
    rw [fX9_fillJoining_56] at hf
    by_cases q64 : (M.1 1 8) ≤ x3
    · have hf := (br_if hf).1 q64
      exact hk188 hf
    · have hf := (br_if hf).2 q64
      obtain ⟨g72, hf⟩ := br_g hf
      obtain ⟨g78, hf⟩ := br_g hf
      by_cases q79 : (M.1 41 (ix x3)) ≤ (M.1 41 (ix x2))
      · have hf := (br_if hf).1 q79
        exact sX9_fillJoining_95 (fun hf => ih hf) (fun hf => hk188 hf) hf
      · have hf := (br_if hf).2 q79
        obtain ⟨g90, hf⟩ := br_g hf
        exact sX9_fillJoining_95 (fun hf => ih hf) (fun hf => hk188 hf) hf
theorem sX9_fillJoining_188 {M1 : Mem} : ∀ {M : Mem}, fX9_fillJoining_188 M = some M1 → sm [(41, 44, none)] M M1 := by
  intro M hf
  unfold fX9_fillJoining_188 at hf
  cases hf
  exact sm_rf
theorem sX9_fillJoining_0 {M1 : Mem} : ∀ {x1 : Int32} {x2 : Int32} {M : Mem}, fX9_fillJoining x1 x2 M = some M1 → sm [(41, 44, none)] M M1 := by
  intro x1 x2 M hf
  unfold fX9_fillJoining at hf
  obtain ⟨g10, hf⟩ := br_g hf
  obtain ⟨g19, hf⟩ := br_g hf
  obtain ⟨q24, c24, hf⟩ := br_b hf
  refine sm_tr (ssX9_fillWays_41 c24) (by decide) ?_
  obtain ⟨g37, hf⟩ := br_g hf
  obtain ⟨g46, hf⟩ := br_g hf
  obtain ⟨q51, c51, hf⟩ := br_b hf
  refine sm_tr (ssX9_fillWays_42 c51) (by decide) ?_
  exact sX9_fillJoining_56 (fun hf => sX9_fillJoining_188 hf) FU hf
theorem ssX9_fillJoining {x1 : Int32} {x2 : Int32} {M : Mem} {M1 : Mem} (h : fX9_fillJoining x1 x2 M = some M1) : sm [(41, 44, none)] M M1 := sX9_fillJoining_0 h
theorem sX9_fewestJoined_15 {r : Int32} {M1 : Mem} {k32 : Int32 → Int32 → Mem → Option (Int32 × Mem)} (hk32 : ∀ {x1 : Int32} {x2 : Int32} {M : Mem}, k32 x1 x2 M = some (r, M1) → sm [(41, 44, none)] M M1) : ∀ (n : Nat) {x1 : Int32} {x2 : Int32} {x3 : Int32} {M : Mem}, fX9_fewestJoined_15 k32 n x1 x2 x3 M = some (r, M1) → sm [(41, 44, none)] M M1 := by
  intro n
  induction n with
  | zero =>
    intro x1 x2 x3 M hf
    exact absurd (show none = some _ from hf) (fun h => by cases h)
  | succ n ih =>
    intro x1 x2 x3 M hf
    rw [fX9_fewestJoined_15] at hf
    by_cases q17 : x2 ≤ x3
    · have hf := (br_if hf).1 q17
      exact hk32 hf
    · have hf := (br_if hf).2 q17
      obtain ⟨q23, c23, hf⟩ := br_b hf
      refine sm_tr (ssX9_fillJoining c23) (by decide) ?_
      obtain ⟨v26, e26⟩ : ∃ y : Int32, y = (x3 + (1 : Int32)) := ⟨_, rfl⟩
      have hf := nx_at e26 hf
      exact ih hf
theorem sX9_fewestJoined_73 {r : Int32} {M1 : Mem} {k42 : Int32 → Int32 → Int32 → Int32 → Mem → Option (Int32 × Mem)} {k70 : Int32 → Mem → Option (Int32 × Mem)} {k79 : Int32 → Int32 → Int32 → Mem → Option (Int32 × Mem)} (hk42 : ∀ {x1 : Int32} {x2 : Int32} {x3 : Int32} {x4 : Int32} {M : Mem}, k42 x1 x2 x3 x4 M = some (r, M1) → sm [(41, 44, none)] M M1) (hk70 : ∀ {x4 : Int32} {M : Mem}, k70 x4 M = some (r, M1) → sm [(41, 44, none)] M M1) (hk79 : ∀ {x1 : Int32} {x2 : Int32} {x3 : Int32} {M : Mem}, k79 x1 x2 x3 M = some (r, M1) → sm [(41, 44, none)] M M1) : ∀ {x1 : Int32} {x2 : Int32} {x3 : Int32} {x4 : Int32} {M : Mem}, fX9_fewestJoined_73 k42 k70 k79 x1 x2 x3 x4 M = some (r, M1) → sm [(41, 44, none)] M M1 := by
  intro x1 x2 x3 x4 M hf
  unfold fX9_fewestJoined_73 at hf
  obtain ⟨v73, e73⟩ : ∃ y : Int32, y = (x4 + (1 : Int32)) := ⟨_, rfl⟩
  have hf := nx_at e73 hf
  exact hk42 hf
theorem sX9_fewestJoined_42 {r : Int32} {M1 : Mem} {k70 : Int32 → Mem → Option (Int32 × Mem)} {k79 : Int32 → Int32 → Int32 → Mem → Option (Int32 × Mem)} (hk70 : ∀ {x4 : Int32} {M : Mem}, k70 x4 M = some (r, M1) → sm [(41, 44, none)] M M1) (hk79 : ∀ {x1 : Int32} {x2 : Int32} {x3 : Int32} {M : Mem}, k79 x1 x2 x3 M = some (r, M1) → sm [(41, 44, none)] M M1) : ∀ (n : Nat) {x1 : Int32} {x2 : Int32} {x3 : Int32} {x4 : Int32} {M : Mem}, fX9_fewestJoined_42 k70 k79 n x1 x2 x3 x4 M = some (r, M1) → sm [(41, 44, none)] M M1 := by
  intro n
  induction n with
  | zero =>
    intro x1 x2 x3 x4 M hf
    exact absurd (show none = some _ from hf) (fun h => by cases h)
  | succ n ih =>
    intro x1 x2 x3 x4 M hf
    rw [fX9_fewestJoined_42] at hf
    by_cases q47 : ((1 : Int32) <<< (x2 &&& 31)) ≤ x4
    · have hf := (br_if hf).1 q47
      exact hk79 hf
    · have hf := (br_if hf).2 q47
      obtain ⟨q52, c52, hf⟩ := br_b hf
      by_cases q56 : q52 = x3
      · have hf := (br_if hf).1 q56
        obtain ⟨q64, c64, hf⟩ := br_b hf
        by_cases q67 : q64 = 0
        · have hf := (br_if hf).1 q67
          exact sX9_fewestJoined_73 (fun hf => ih hf) (fun hf => hk70 hf) (fun hf => hk79 hf) hf
        · have hf := (br_if hf).2 q67
          exact hk70 hf
      · have hf := (br_if hf).2 q56
        exact sX9_fewestJoined_73 (fun hf => ih hf) (fun hf => hk70 hf) (fun hf => hk79 hf) hf
theorem sX9_fewestJoined_79 {r : Int32} {M1 : Mem} {k34 : Int32 → Int32 → Int32 → Mem → Option (Int32 × Mem)} {k70 : Int32 → Mem → Option (Int32 × Mem)} {k85 : Mem → Option (Int32 × Mem)} (hk34 : ∀ {x1 : Int32} {x2 : Int32} {x3 : Int32} {M : Mem}, k34 x1 x2 x3 M = some (r, M1) → sm [(41, 44, none)] M M1) (hk70 : ∀ {x4 : Int32} {M : Mem}, k70 x4 M = some (r, M1) → sm [(41, 44, none)] M M1) (hk85 : ∀ {M : Mem}, k85 M = some (r, M1) → sm [(41, 44, none)] M M1) : ∀ {x1 : Int32} {x2 : Int32} {x3 : Int32} {M : Mem}, fX9_fewestJoined_79 k34 k70 k85 x1 x2 x3 M = some (r, M1) → sm [(41, 44, none)] M M1 := by
  intro x1 x2 x3 M hf
  unfold fX9_fewestJoined_79 at hf
  obtain ⟨v79, e79⟩ : ∃ y : Int32, y = (x3 + (1 : Int32)) := ⟨_, rfl⟩
  have hf := nx_at e79 hf
  exact hk34 hf
theorem sX9_fewestJoined_34 {r : Int32} {M1 : Mem} {k70 : Int32 → Mem → Option (Int32 × Mem)} {k85 : Mem → Option (Int32 × Mem)} (hk70 : ∀ {x4 : Int32} {M : Mem}, k70 x4 M = some (r, M1) → sm [(41, 44, none)] M M1) (hk85 : ∀ {M : Mem}, k85 M = some (r, M1) → sm [(41, 44, none)] M M1) : ∀ (n : Nat) {x1 : Int32} {x2 : Int32} {x3 : Int32} {M : Mem}, fX9_fewestJoined_34 k70 k85 n x1 x2 x3 M = some (r, M1) → sm [(41, 44, none)] M M1 := by
  intro n
  induction n with
  | zero =>
    intro x1 x2 x3 M hf
    exact absurd (show none = some _ from hf) (fun h => by cases h)
  | succ n ih =>
    intro x1 x2 x3 M hf
    rw [fX9_fewestJoined_34] at hf
    by_cases q36 : x2 < x3
    · have hf := (br_if hf).1 q36
      exact hk85 hf
    · have hf := (br_if hf).2 q36
      exact sX9_fewestJoined_42 (fun hf => hk70 hf) (fun hf => sX9_fewestJoined_79 (fun hf => ih hf) (fun hf => hk70 hf) (fun hf => hk85 hf) hf) FU hf
theorem sX9_fewestJoined_70 {r : Int32} {M1 : Mem} : ∀ {x4 : Int32} {M : Mem}, fX9_fewestJoined_70 x4 M = some (r, M1) → sm [(41, 44, none)] M M1 := by
  intro x4 M hf
  unfold fX9_fewestJoined_70 at hf
  cases hf
  exact sm_rf
theorem sX9_fewestJoined_85 {r : Int32} {M1 : Mem} : ∀ {M : Mem}, fX9_fewestJoined_85 M = some (r, M1) → sm [(41, 44, none)] M M1 := by
  intro M hf
  unfold fX9_fewestJoined_85 at hf
  cases hf
  exact sm_rf
theorem sX9_fewestJoined_32 {r : Int32} {M1 : Mem} : ∀ {x1 : Int32} {x2 : Int32} {M : Mem}, fX9_fewestJoined_32 x1 x2 M = some (r, M1) → sm [(41, 44, none)] M M1 := by
  intro x1 x2 M hf
  unfold fX9_fewestJoined_32 at hf
  exact sX9_fewestJoined_34 (fun hf => sX9_fewestJoined_70 hf) (fun hf => sX9_fewestJoined_85 hf) FU hf
theorem sX9_fewestJoined_0 {r : Int32} {M1 : Mem} : ∀ {x1 : Int32} {M : Mem}, fX9_fewestJoined x1 M = some (r, M1) → sm [(41, 44, none)] M M1 := by
  intro x1 M hf
  unfold fX9_fewestJoined at hf
  obtain ⟨v12, e12⟩ : ∃ y : Int32, y = (imin (9 : Int32) (M.1 1 0)) := ⟨_, rfl⟩
  have hf := nx_at e12 hf
  exact sX9_fewestJoined_15 (fun hf => sX9_fewestJoined_32 hf) FU hf
theorem ssX9_fewestJoined {x1 : Int32} {M : Mem} {r : Int32} {M1 : Mem} (h : fX9_fewestJoined x1 M = some (r, M1)) : sm [(41, 44, none)] M M1 := sX9_fewestJoined_0 h
theorem sX9_tryMove_139 {M1 : Mem} : ∀ {M : Mem}, fX9_tryMove_139 M = some M1 → sm [(42, 42, none), (40, 40, some 6), (40, 40, some 7), (40, 40, some 8)] M M1 := by
  intro M hf
  unfold fX9_tryMove_139 at hf
  cases hf
  exact sm_rf
theorem sX9_tryMove_80 {M1 : Mem} : ∀ {x1 : Int32} {x2 : Int32} {x5 : Int32} {M : Mem}, fX9_tryMove_80 x1 x2 x5 M = some M1 → sm [(42, 42, none), (40, 40, some 6), (40, 40, some 7), (40, 40, some 8)] M M1 := by
  intro x1 x2 x5 M hf
  unfold fX9_tryMove_80 at hf
  obtain ⟨g90, hf⟩ := br_g hf
  obtain ⟨g99, hf⟩ := br_g hf
  obtain ⟨q104, c104, hf⟩ := br_b hf
  refine sm_tr (ssX9_fillWays_42 c104) (by decide) ?_
  obtain ⟨g116, hf⟩ := br_g hf
  obtain ⟨q117, c117, hf⟩ := br_b hf
  by_cases q120 : q117 = 0
  · have hf := (br_if hf).1 q120
    exact sX9_tryMove_139 hf
  · have hf := (br_if hf).2 q120
    obtain ⟨M125, e125⟩ : ∃ y : Mem, y = (sI q104 40 6 x1) := ⟨_, rfl⟩
    have hf := nx_at e125 hf
    refine sm_I e125 (inS_up (L0 := [(40, 40, some 6)]) (by decide) (inS_s 40 6)) ?_
    obtain ⟨M130, e130⟩ : ∃ y : Mem, y = (sI M125 40 7 x2) := ⟨_, rfl⟩
    have hf := nx_at e130 hf
    refine sm_I e130 (inS_up (L0 := [(40, 40, some 7)]) (by decide) (inS_s 40 7)) ?_
    obtain ⟨M136, e136⟩ : ∃ y : Mem, y = (sI M130 40 8 x5) := ⟨_, rfl⟩
    have hf := nx_at e136 hf
    refine sm_I e136 (inS_up (L0 := [(40, 40, some 8)]) (by decide) (inS_s 40 8)) ?_
    exact sX9_tryMove_139 hf
theorem sX9_tryMove_0 {M1 : Mem} : ∀ {x1 : Int32} {x2 : Int32} {M : Mem}, fX9_tryMove x1 x2 M = some M1 → sm [(42, 42, none), (40, 40, some 6), (40, 40, some 7), (40, 40, some 8)] M M1 := by
  intro x1 x2 M hf
  unfold fX9_tryMove at hf
  obtain ⟨g8, hf⟩ := br_g hf
  obtain ⟨g17, hf⟩ := br_g hf
  obtain ⟨v19, e19⟩ : ∃ y : Int32, y = ((M.1 8 (ix x2)) - (M.1 2 (ix x1))) := ⟨_, rfl⟩
  have hf := nx_at e19 hf
  obtain ⟨g28, hf⟩ := br_g hf
  obtain ⟨g37, hf⟩ := br_g hf
  obtain ⟨v39, e39⟩ : ∃ y : Int32, y = ((M.1 9 (ix x2)) - (M.1 3 (ix x1))) := ⟨_, rfl⟩
  have hf := nx_at e39 hf
  obtain ⟨g58, hf⟩ := br_g hf
  obtain ⟨v60, e60⟩ : ∃ y : Int32, y = (((v19 * v19) + (v39 * v39)) * (M.1 4 (ix x1))) := ⟨_, rfl⟩
  have hf := nx_at e60 hf
  by_cases q67 : (M.1 40 8) = (-1 : Int32)
  · have hf := (br_if hf).1 q67
    exact sX9_tryMove_80 hf
  · have hf := (br_if hf).2 q67
    by_cases q76 : v60 < (M.1 40 8)
    · have hf := (br_if hf).1 q76
      exact sX9_tryMove_80 hf
    · have hf := (br_if hf).2 q76
      cases hf
      exact sm_rf
theorem ssX9_tryMove {x1 : Int32} {x2 : Int32} {M : Mem} {M1 : Mem} (h : fX9_tryMove x1 x2 M = some M1) : sm [(42, 42, none), (40, 40, some 6), (40, 40, some 7), (40, 40, some 8)] M M1 := sX9_tryMove_0 h
theorem sX9_findMove_108 {M1 : Mem} {k131 : Int32 → Mem → Option Mem} (hk131 : ∀ {x1 : Int32} {M : Mem}, k131 x1 M = some M1 → sm [(41, 42, none), (40, 40, some 6), (40, 40, some 7), (40, 40, some 8), (40, 40, some 9), (40, 40, some 10)] M M1) : ∀ (n : Nat) {x1 : Int32} {x2 : Int32} {M : Mem}, fX9_findMove_108 k131 n x1 x2 M = some M1 → sm [(41, 42, none), (40, 40, some 6), (40, 40, some 7), (40, 40, some 8), (40, 40, some 9), (40, 40, some 10)] M M1 := by
  intro n
  induction n with
  | zero =>
    intro x1 x2 M hf
    exact absurd (show none = some _ from hf) (fun h => by cases h)
  | succ n ih =>
    intro x1 x2 M hf
    rw [fX9_findMove_108] at hf
    by_cases q116 : (M.1 1 8) ≤ x2
    · have hf := (br_if hf).1 q116
      exact hk131 hf
    · have hf := (br_if hf).2 q116
      obtain ⟨q122, c122, hf⟩ := br_b hf
      refine sm_tr (ssX9_tryMove c122) (by decide) ?_
      obtain ⟨v125, e125⟩ : ∃ y : Int32, y = (x2 + (1 : Int32)) := ⟨_, rfl⟩
      have hf := nx_at e125 hf
      exact ih hf
theorem sX9_findMove_131 {M1 : Mem} {k68 : Int32 → Mem → Option Mem} {k137 : Mem → Option Mem} (hk68 : ∀ {x1 : Int32} {M : Mem}, k68 x1 M = some M1 → sm [(41, 42, none), (40, 40, some 6), (40, 40, some 7), (40, 40, some 8), (40, 40, some 9), (40, 40, some 10)] M M1) (hk137 : ∀ {M : Mem}, k137 M = some M1 → sm [(41, 42, none), (40, 40, some 6), (40, 40, some 7), (40, 40, some 8), (40, 40, some 9), (40, 40, some 10)] M M1) : ∀ {x1 : Int32} {M : Mem}, fX9_findMove_131 k68 k137 x1 M = some M1 → sm [(41, 42, none), (40, 40, some 6), (40, 40, some 7), (40, 40, some 8), (40, 40, some 9), (40, 40, some 10)] M M1 := by
  intro x1 M hf
  unfold fX9_findMove_131 at hf
  obtain ⟨v131, e131⟩ : ∃ y : Int32, y = (x1 + (1 : Int32)) := ⟨_, rfl⟩
  have hf := nx_at e131 hf
  exact hk68 hf
theorem sX9_findMove_68 {M1 : Mem} {k137 : Mem → Option Mem} (hk137 : ∀ {M : Mem}, k137 M = some M1 → sm [(41, 42, none), (40, 40, some 6), (40, 40, some 7), (40, 40, some 8), (40, 40, some 9), (40, 40, some 10)] M M1) : ∀ (n : Nat) {x1 : Int32} {M : Mem}, fX9_findMove_68 k137 n x1 M = some M1 → sm [(41, 42, none), (40, 40, some 6), (40, 40, some 7), (40, 40, some 8), (40, 40, some 9), (40, 40, some 10)] M M1 := by
  intro n
  induction n with
  | zero =>
    intro x1 M hf
    exact absurd (show none = some _ from hf) (fun h => by cases h)
  | succ n ih =>
    intro x1 M hf
    rw [fX9_findMove_68] at hf
    by_cases q76 : (M.1 1 0) ≤ x1
    · have hf := (br_if hf).1 q76
      exact hk137 hf
    · have hf := (br_if hf).2 q76
      obtain ⟨g89, hf⟩ := br_g hf
      obtain ⟨g98, hf⟩ := br_g hf
      obtain ⟨q103, c103, hf⟩ := br_b hf
      refine sm_tr (ssX9_fillWays_41 c103) (by decide) ?_
      exact sX9_findMove_108 (fun hf => sX9_findMove_131 (fun hf => ih hf) (fun hf => hk137 hf) hf) FU hf
theorem sX9_findMove_137 {M1 : Mem} : ∀ {M : Mem}, fX9_findMove_137 M = some M1 → sm [(41, 42, none), (40, 40, some 6), (40, 40, some 7), (40, 40, some 8), (40, 40, some 9), (40, 40, some 10)] M M1 := by
  intro M hf
  unfold fX9_findMove_137 at hf
  cases hf
  exact sm_rf
theorem sX9_findMove_29 {M1 : Mem} : ∀ {M : Mem}, fX9_findMove_29 M = some M1 → sm [(41, 42, none), (40, 40, some 6), (40, 40, some 7), (40, 40, some 8), (40, 40, some 9), (40, 40, some 10)] M M1 := by
  intro M hf
  unfold fX9_findMove_29 at hf
  obtain ⟨M37, e37⟩ : ∃ y : Mem, y = (sI M 40 9 (M.1 1 14)) := ⟨_, rfl⟩
  have hf := nx_at e37 hf
  refine sm_I e37 (inS_up (L0 := [(40, 40, some 9)]) (by decide) (inS_s 40 9)) ?_
  obtain ⟨M48, e48⟩ : ∃ y : Mem, y = (sI M37 40 10 (M37.1 1 15)) := ⟨_, rfl⟩
  have hf := nx_at e48 hf
  refine sm_I e48 (inS_up (L0 := [(40, 40, some 10)]) (by decide) (inS_s 40 10)) ?_
  obtain ⟨M53, e53⟩ : ∃ y : Mem, y = (sI M48 40 6 (-1 : Int32)) := ⟨_, rfl⟩
  have hf := nx_at e53 hf
  refine sm_I e53 (inS_up (L0 := [(40, 40, some 6)]) (by decide) (inS_s 40 6)) ?_
  obtain ⟨M58, e58⟩ : ∃ y : Mem, y = (sI M53 40 7 (-1 : Int32)) := ⟨_, rfl⟩
  have hf := nx_at e58 hf
  refine sm_I e58 (inS_up (L0 := [(40, 40, some 7)]) (by decide) (inS_s 40 7)) ?_
  obtain ⟨M63, e63⟩ : ∃ y : Mem, y = (sI M58 40 8 (-1 : Int32)) := ⟨_, rfl⟩
  have hf := nx_at e63 hf
  refine sm_I e63 (inS_up (L0 := [(40, 40, some 8)]) (by decide) (inS_s 40 8)) ?_
  exact sX9_findMove_68 (fun hf => sX9_findMove_137 hf) FU hf
theorem sX9_findMove_0 {M1 : Mem} : ∀ {M : Mem}, fX9_findMove M = some M1 → sm [(41, 42, none), (40, 40, some 6), (40, 40, some 7), (40, 40, some 8), (40, 40, some 9), (40, 40, some 10)] M M1 := by
  intro M hf
  unfold fX9_findMove at hf
  by_cases q11 : (M.1 40 9) = (M.1 1 14)
  · have hf := (br_if hf).1 q11
    by_cases q25 : (M.1 40 10) = (M.1 1 15)
    · have hf := (br_if hf).1 q25
      cases hf
      exact sm_rf
    · have hf := (br_if hf).2 q25
      exact sX9_findMove_29 hf
  · have hf := (br_if hf).2 q11
    exact sX9_findMove_29 hf
theorem ssX9_findMove {M : Mem} {M1 : Mem} (h : fX9_findMove M = some M1) : sm [(41, 42, none), (40, 40, some 6), (40, 40, some 7), (40, 40, some 8), (40, 40, some 9), (40, 40, some 10)] M M1 := sX9_findMove_0 h
theorem sX6_append_40 {M1 : Mem} {k3 : Int32 → Int32 → Mem → Option Mem} {k46 : Mem → Option Mem} (hk3 : ∀ {x1 : Int32} {x2 : Int32} {M : Mem}, k3 x1 x2 M = some M1 → sm [(11, 11, none), (10, 10, some 1)] M M1) (hk46 : ∀ {M : Mem}, k46 M = some M1 → sm [(11, 11, none), (10, 10, some 1)] M M1) : ∀ {x1 : Int32} {x2 : Int32} {M : Mem}, fX6_append_40 k3 k46 x1 x2 M = some M1 → sm [(11, 11, none), (10, 10, some 1)] M M1 := by
  intro x1 x2 M hf
  unfold fX6_append_40 at hf
  obtain ⟨v40, e40⟩ : ∃ y : Int32, y = (x2 + (-8 : Int32)) := ⟨_, rfl⟩
  have hf := nx_at e40 hf
  exact hk3 hf
theorem sX6_append_3 {M1 : Mem} {k46 : Mem → Option Mem} (hk46 : ∀ {M : Mem}, k46 M = some M1 → sm [(11, 11, none), (10, 10, some 1)] M M1) : ∀ (n : Nat) {x1 : Int32} {x2 : Int32} {M : Mem}, fX6_append_3 k46 n x1 x2 M = some M1 → sm [(11, 11, none), (10, 10, some 1)] M M1 := by
  intro n
  induction n with
  | zero =>
    intro x1 x2 M hf
    exact absurd (show none = some _ from hf) (fun h => by cases h)
  | succ n ih =>
    intro x1 x2 M hf
    rw [fX6_append_3] at hf
    by_cases q4 : x2 < 0
    · have hf := (br_if hf).1 q4
      exact hk46 hf
    · have hf := (br_if hf).2 q4
      by_cases q14 : (600 : Int32) ≤ (M.1 10 1)
      · have hf := (br_if hf).1 q14
        exact sX6_append_40 (fun hf => ih hf) (fun hf => hk46 hf) hf
      · have hf := (br_if hf).2 q14
        obtain ⟨g29, hf⟩ := br_g hf
        obtain ⟨M29, e29⟩ : ∃ y : Mem, y = (sI M 11 (ix (M.1 10 1)) (ush x1 x2).toInt8.toInt32.toInt8.toInt32) := ⟨_, rfl⟩
        have hf := nx_at e29 hf
        refine sm_I e29 (inS_up (L0 := [(11, 11, none)]) (by decide) (inS_n 11 _)) ?_
        obtain ⟨M37, e37⟩ : ∃ y : Mem, y = (sI M29 10 1 ((M29.1 10 1) + (1 : Int32))) := ⟨_, rfl⟩
        have hf := nx_at e37 hf
        refine sm_I e37 (inS_up (L0 := [(10, 10, some 1)]) (by decide) (inS_s 10 1)) ?_
        exact sX6_append_40 (fun hf => ih hf) (fun hf => hk46 hf) hf
theorem sX6_append_46 {M1 : Mem} : ∀ {M : Mem}, fX6_append_46 M = some M1 → sm [(11, 11, none), (10, 10, some 1)] M M1 := by
  intro M hf
  unfold fX6_append_46 at hf
  cases hf
  exact sm_rf
theorem sX6_append_0 {M1 : Mem} : ∀ {x1 : Int32} {M : Mem}, fX6_append x1 M = some M1 → sm [(11, 11, none), (10, 10, some 1)] M M1 := by
  intro x1 M hf
  unfold fX6_append at hf
  exact sX6_append_3 (fun hf => sX6_append_46 hf) FU hf
theorem ssX6_append {x1 : Int32} {M : Mem} {M1 : Mem} (h : fX6_append x1 M = some M1) : sm [(11, 11, none), (10, 10, some 1)] M M1 := sX6_append_0 h
theorem sX8_clear_d_0 {M1 : Mem} : ∀ {M : Mem}, fX8_clear_d M = some M1 → sm [(12, 12, some 0), (12, 12, some 7), (12, 12, some 8), (12, 12, some 11), (12, 12, some 12), (12, 12, some 13)] M M1 := by
  intro M hf
  unfold fX8_clear_d at hf
  obtain ⟨M2, e2⟩ : ∃ y : Mem, y = (sI M 12 0 (0 : Int32)) := ⟨_, rfl⟩
  have hf := nx_at e2 hf
  refine sm_I e2 (inS_up (L0 := [(12, 12, some 0)]) (by decide) (inS_s 12 0)) ?_
  obtain ⟨M7, e7⟩ : ∃ y : Mem, y = (sI M2 12 7 (0 : Int32)) := ⟨_, rfl⟩
  have hf := nx_at e7 hf
  refine sm_I e7 (inS_up (L0 := [(12, 12, some 7)]) (by decide) (inS_s 12 7)) ?_
  obtain ⟨M12, e12⟩ : ∃ y : Mem, y = (sI M7 12 8 (0 : Int32)) := ⟨_, rfl⟩
  have hf := nx_at e12 hf
  refine sm_I e12 (inS_up (L0 := [(12, 12, some 8)]) (by decide) (inS_s 12 8)) ?_
  obtain ⟨M17, e17⟩ : ∃ y : Mem, y = (sI M12 12 11 (0 : Int32)) := ⟨_, rfl⟩
  have hf := nx_at e17 hf
  refine sm_I e17 (inS_up (L0 := [(12, 12, some 11)]) (by decide) (inS_s 12 11)) ?_
  obtain ⟨M22, e22⟩ : ∃ y : Mem, y = (sI M17 12 12 (1 : Int32)) := ⟨_, rfl⟩
  have hf := nx_at e22 hf
  refine sm_I e22 (inS_up (L0 := [(12, 12, some 12)]) (by decide) (inS_s 12 12)) ?_
  obtain ⟨M27, e27⟩ : ∃ y : Mem, y = (sI M22 12 13 (1 : Int32)) := ⟨_, rfl⟩
  have hf := nx_at e27 hf
  refine sm_I e27 (inS_up (L0 := [(12, 12, some 13)]) (by decide) (inS_s 12 13)) ?_
  cases hf
  exact sm_rf
theorem ssX8_clear_d {M : Mem} {M1 : Mem} (h : fX8_clear_d M = some M1) : sm [(12, 12, some 0), (12, 12, some 7), (12, 12, some 8), (12, 12, some 11), (12, 12, some 12), (12, 12, some 13)] M M1 := sX8_clear_d_0 h
theorem sX6_next_47 {M1 : Mem} {k8 : Mem → Option Mem} {k60 : Mem → Option Mem} (hk8 : ∀ {M : Mem}, k8 M = some M1 → sm [(10, 10, some 3), (10, 10, some 4), (10, 10, some 5), (10, 10, some 6)] M M1) (hk60 : ∀ {M : Mem}, k60 M = some M1 → sm [(10, 10, some 3), (10, 10, some 4), (10, 10, some 5), (10, 10, some 6)] M M1) : ∀ {M : Mem}, fX6_next_47 k8 k60 M = some M1 → sm [(10, 10, some 3), (10, 10, some 4), (10, 10, some 5), (10, 10, some 6)] M M1 := by
  intro M hf
  unfold fX6_next_47 at hf
  obtain ⟨M54, e54⟩ : ∃ y : Mem, y = (sI M 10 4 ((M.1 10 4) + (1 : Int32))) := ⟨_, rfl⟩
  have hf := nx_at e54 hf
  refine sm_I e54 (inS_up (L0 := [(10, 10, some 4)]) (by decide) (inS_s 10 4)) ?_
  exact hk8 hf
theorem sX6_next_8 {M1 : Mem} {k60 : Mem → Option Mem} (hk60 : ∀ {M : Mem}, k60 M = some M1 → sm [(10, 10, some 3), (10, 10, some 4), (10, 10, some 5), (10, 10, some 6)] M M1) : ∀ (n : Nat) {M : Mem}, fX6_next_8 k60 n M = some M1 → sm [(10, 10, some 3), (10, 10, some 4), (10, 10, some 5), (10, 10, some 6)] M M1 := by
  intro n
  induction n with
  | zero =>
    intro M hf
    exact absurd (show none = some _ from hf) (fun h => by cases h)
  | succ n ih =>
    intro M hf
    rw [fX6_next_8] at hf
    by_cases q16 : (M.1 10 1) ≤ (M.1 10 4)
    · have hf := (br_if hf).1 q16
      exact hk60 hf
    · have hf := (br_if hf).2 q16
      obtain ⟨g27, hf⟩ := br_g hf
      by_cases q30 : (M.1 11 (ix (M.1 10 4))) = (32 : Int32)
      · have hf := (br_if hf).1 q30
        exact sX6_next_47 (fun hf => ih hf) (fun hf => hk60 hf) hf
      · have hf := (br_if hf).2 q30
        obtain ⟨g41, hf⟩ := br_g hf
        by_cases q44 : (M.1 11 (ix (M.1 10 4))) = (10 : Int32)
        · have hf := (br_if hf).1 q44
          exact sX6_next_47 (fun hf => ih hf) (fun hf => hk60 hf) hf
        · have hf := (br_if hf).2 q44
          exact hk60 hf
theorem sX6_next_103 {M1 : Mem} {k246 : Mem → Option Mem} (hk246 : ∀ {M : Mem}, k246 M = some M1 → sm [(10, 10, some 3), (10, 10, some 4), (10, 10, some 5), (10, 10, some 6)] M M1) : ∀ (n : Nat) {M : Mem}, fX6_next_103 k246 n M = some M1 → sm [(10, 10, some 3), (10, 10, some 4), (10, 10, some 5), (10, 10, some 6)] M M1 := by
  intro n
  induction n with
  | zero =>
    intro M hf
    exact absurd (show none = some _ from hf) (fun h => by cases h)
  | succ n ih =>
    intro M hf
    rw [fX6_next_103] at hf
    by_cases q111 : (M.1 10 1) ≤ (M.1 10 5)
    · have hf := (br_if hf).1 q111
      exact hk246 hf
    · have hf := (br_if hf).2 q111
      obtain ⟨q119, c119, hf⟩ := br_b hf
      by_cases q122 : q119 = 0
      · have hf := (br_if hf).1 q122
        exact hk246 hf
      · have hf := (br_if hf).2 q122
        obtain ⟨M132, e132⟩ : ∃ y : Mem, y = (sI M 10 5 ((M.1 10 5) + (1 : Int32))) := ⟨_, rfl⟩
        have hf := nx_at e132 hf
        refine sm_I e132 (inS_up (L0 := [(10, 10, some 5)]) (by decide) (inS_s 10 5)) ?_
        exact ih hf
theorem sX6_next_159 {M1 : Mem} {k246 : Mem → Option Mem} (hk246 : ∀ {M : Mem}, k246 M = some M1 → sm [(10, 10, some 3), (10, 10, some 4), (10, 10, some 5), (10, 10, some 6)] M M1) : ∀ (n : Nat) {M : Mem}, fX6_next_159 k246 n M = some M1 → sm [(10, 10, some 3), (10, 10, some 4), (10, 10, some 5), (10, 10, some 6)] M M1 := by
  intro n
  induction n with
  | zero =>
    intro M hf
    exact absurd (show none = some _ from hf) (fun h => by cases h)
  | succ n ih =>
    intro M hf
    rw [fX6_next_159] at hf
    by_cases q167 : (M.1 10 1) ≤ (M.1 10 5)
    · have hf := (br_if hf).1 q167
      exact hk246 hf
    · have hf := (br_if hf).2 q167
      obtain ⟨q175, c175, hf⟩ := br_b hf
      by_cases q178 : q175 = 0
      · have hf := (br_if hf).1 q178
        exact hk246 hf
      · have hf := (br_if hf).2 q178
        obtain ⟨g200, hf⟩ := br_g hf
        obtain ⟨M208, e208⟩ : ∃ y : Mem, y = (sI M 10 6 (imin (1000 : Int32) ((((M.1 10 6) * (10 : Int32)) + (M.1 11 (ix (M.1 10 5)))) - (48 : Int32)))) := ⟨_, rfl⟩
        have hf := nx_at e208 hf
        refine sm_I e208 (inS_up (L0 := [(10, 10, some 6)]) (by decide) (inS_s 10 6)) ?_
        obtain ⟨M218, e218⟩ : ∃ y : Mem, y = (sI M208 10 5 ((M208.1 10 5) + (1 : Int32))) := ⟨_, rfl⟩
        have hf := nx_at e218 hf
        refine sm_I e218 (inS_up (L0 := [(10, 10, some 5)]) (by decide) (inS_s 10 5)) ?_
        exact ih hf
theorem sX6_next_246 {M1 : Mem} : ∀ {M : Mem}, fX6_next_246 M = some M1 → sm [(10, 10, some 3), (10, 10, some 4), (10, 10, some 5), (10, 10, some 6)] M M1 := by
  intro M hf
  unfold fX6_next_246 at hf
  cases hf
  exact sm_rf
theorem sX6_next_60 {M1 : Mem} : ∀ {M : Mem}, fX6_next_60 M = some M1 → sm [(10, 10, some 3), (10, 10, some 4), (10, 10, some 5), (10, 10, some 6)] M M1 := by
  intro M hf
  unfold fX6_next_60 at hf
  obtain ⟨M65, e65⟩ : ∃ y : Mem, y = (sI M 10 5 (M.1 10 4)) := ⟨_, rfl⟩
  have hf := nx_at e65 hf
  refine sm_I e65 (inS_up (L0 := [(10, 10, some 5)]) (by decide) (inS_s 10 5)) ?_
  by_cases q76 : (M65.1 10 4) < (M65.1 10 1)
  · have hf := (br_if hf).1 q76
    obtain ⟨q92, c92, hf⟩ := br_b hf
    by_cases q95 : q92 = 0
    · have hf := (br_if hf).1 q95
      obtain ⟨q143, c143, hf⟩ := br_b hf
      by_cases q146 : q143 = 0
      · have hf := (br_if hf).1 q146
        obtain ⟨q230, c230, hf⟩ := br_b hf
        obtain ⟨M233, e233⟩ : ∃ y : Mem, y = (sI M65 10 3 q230) := ⟨_, rfl⟩
        have hf := nx_at e233 hf
        refine sm_I e233 (inS_up (L0 := [(10, 10, some 3)]) (by decide) (inS_s 10 3)) ?_
        obtain ⟨M243, e243⟩ : ∃ y : Mem, y = (sI M233 10 5 ((M233.1 10 5) + (1 : Int32))) := ⟨_, rfl⟩
        have hf := nx_at e243 hf
        refine sm_I e243 (inS_up (L0 := [(10, 10, some 5)]) (by decide) (inS_s 10 5)) ?_
        exact sX6_next_246 hf
      · have hf := (br_if hf).2 q146
        obtain ⟨M151, e151⟩ : ∃ y : Mem, y = (sI M65 10 3 (3 : Int32)) := ⟨_, rfl⟩
        have hf := nx_at e151 hf
        refine sm_I e151 (inS_up (L0 := [(10, 10, some 3)]) (by decide) (inS_s 10 3)) ?_
        obtain ⟨M156, e156⟩ : ∃ y : Mem, y = (sI M151 10 6 (0 : Int32)) := ⟨_, rfl⟩
        have hf := nx_at e156 hf
        refine sm_I e156 (inS_up (L0 := [(10, 10, some 6)]) (by decide) (inS_s 10 6)) ?_
        exact sX6_next_159 (fun hf => sX6_next_246 hf) FU hf
    · have hf := (br_if hf).2 q95
      obtain ⟨M100, e100⟩ : ∃ y : Mem, y = (sI M65 10 3 (2 : Int32)) := ⟨_, rfl⟩
      have hf := nx_at e100 hf
      refine sm_I e100 (inS_up (L0 := [(10, 10, some 3)]) (by decide) (inS_s 10 3)) ?_
      exact sX6_next_103 (fun hf => sX6_next_246 hf) FU hf
  · have hf := (br_if hf).2 q76
    obtain ⟨M81, e81⟩ : ∃ y : Mem, y = (sI M65 10 3 (0 : Int32)) := ⟨_, rfl⟩
    have hf := nx_at e81 hf
    refine sm_I e81 (inS_up (L0 := [(10, 10, some 3)]) (by decide) (inS_s 10 3)) ?_
    exact sX6_next_246 hf
theorem sX6_next_0 {M1 : Mem} : ∀ {M : Mem}, fX6_next M = some M1 → sm [(10, 10, some 3), (10, 10, some 4), (10, 10, some 5), (10, 10, some 6)] M M1 := by
  intro M hf
  unfold fX6_next at hf
  obtain ⟨M5, e5⟩ : ∃ y : Mem, y = (sI M 10 4 (M.1 10 5)) := ⟨_, rfl⟩
  have hf := nx_at e5 hf
  refine sm_I e5 (inS_up (L0 := [(10, 10, some 4)]) (by decide) (inS_s 10 4)) ?_
  exact sX6_next_8 (fun hf => sX6_next_60 hf) FU hf
theorem ssX6_next {M : Mem} {M1 : Mem} (h : fX6_next M = some M1) : sm [(10, 10, some 3), (10, 10, some 4), (10, 10, some 5), (10, 10, some 6)] M M1 := sX6_next_0 h
theorem sX6_passSemicolon_0 {r : Int32} {M1 : Mem} : ∀ {M : Mem}, fX6_passSemicolon M = some (r, M1) → sm [(10, 10, some 3), (10, 10, some 4), (10, 10, some 5), (10, 10, some 6)] M M1 := by
  intro M hf
  unfold fX6_passSemicolon at hf
  by_cases q5 : (M.1 10 3) = (5 : Int32)
  · have hf := (br_if hf).1 q5
    obtain ⟨q11, c11, hf⟩ := br_b hf
    refine sm_tr (ssX6_next c11) (by decide) ?_
    cases hf
    exact sm_rf
  · have hf := (br_if hf).2 q5
    cases hf
    exact sm_rf
theorem ssX6_passSemicolon {M : Mem} {r : Int32} {M1 : Mem} (h : fX6_passSemicolon M = some (r, M1)) : sm [(10, 10, some 3), (10, 10, some 4), (10, 10, some 5), (10, 10, some 6)] M M1 := sX6_passSemicolon_0 h
theorem sX6_readShare_81 {r : Int32} {M1 : Mem} : ∀ {M : Mem}, fX6_readShare_81 M = some (r, M1) → sm [(10, 10, some 3), (10, 10, some 4), (10, 10, some 5), (10, 10, some 6), (12, 12, some 12), (12, 12, some 13)] M M1 := by
  intro M hf
  unfold fX6_readShare_81 at hf
  cases hf
  exact sm_rf
theorem sX6_readShare_0 {r : Int32} {M1 : Mem} : ∀ {M : Mem}, fX6_readShare M = some (r, M1) → sm [(10, 10, some 3), (10, 10, some 4), (10, 10, some 5), (10, 10, some 6), (12, 12, some 12), (12, 12, some 13)] M M1 := by
  intro M hf
  unfold fX6_readShare at hf
  obtain ⟨q4, c4, hf⟩ := br_b hf
  by_cases q7 : q4 = 0
  · have hf := (br_if hf).1 q7
    cases hf
    exact sm_rf
  · have hf := (br_if hf).2 q7
    obtain ⟨M20, e20⟩ : ∃ y : Mem, y = (sI M 12 12 (M.1 10 6)) := ⟨_, rfl⟩
    have hf := nx_at e20 hf
    refine sm_I e20 (inS_up (L0 := [(12, 12, some 12)]) (by decide) (inS_s 12 12)) ?_
    obtain ⟨q24, c24, hf⟩ := br_b hf
    refine sm_tr (ssX6_next c24) (by decide) ?_
    by_cases q32 : (q24.1 10 3) = (4 : Int32)
    · have hf := (br_if hf).1 q32
      obtain ⟨q38, c38, hf⟩ := br_b hf
      refine sm_tr (ssX6_next c38) (by decide) ?_
      obtain ⟨q45, c45, hf⟩ := br_b hf
      by_cases q48 : q45 = 0
      · have hf := (br_if hf).1 q48
        exact sX6_readShare_81 hf
      · have hf := (br_if hf).2 q48
        by_cases q62 : (q38.1 10 6) < (q38.1 12 12)
        · have hf := (br_if hf).1 q62
          exact sX6_readShare_81 hf
        · have hf := (br_if hf).2 q62
          by_cases q78 : (q38.1 10 6) ≤ ((2 : Int32) * (q38.1 12 12))
          · have hf := (br_if hf).1 q78
            obtain ⟨M91, e91⟩ : ∃ y : Mem, y = (sI q38 12 13 (q38.1 10 6)) := ⟨_, rfl⟩
            have hf := nx_at e91 hf
            refine sm_I e91 (inS_up (L0 := [(12, 12, some 13)]) (by decide) (inS_s 12 13)) ?_
            obtain ⟨q95, c95, hf⟩ := br_b hf
            refine sm_tr (ssX6_next c95) (by decide) ?_
            cases hf
            exact sm_rf
          · have hf := (br_if hf).2 q78
            exact sX6_readShare_81 hf
    · have hf := (br_if hf).2 q32
      cases hf
      exact sm_rf
theorem ssX6_readShare {M : Mem} {r : Int32} {M1 : Mem} (h : fX6_readShare M = some (r, M1)) : sm [(10, 10, some 3), (10, 10, some 4), (10, 10, some 5), (10, 10, some 6), (12, 12, some 12), (12, 12, some 13)] M M1 := sX6_readShare_0 h
theorem sX6_readBar_101 {r : Int32} {M1 : Mem} : ∀ {s0 : Int32} {M : Mem}, fX6_readBar_101 s0 M = some (r, M1) → sm [(10, 10, some 3), (10, 10, some 4), (10, 10, some 5), (10, 10, some 6), (10, 10, some 10), (12, 12, some 11), (12, 12, some 12), (12, 12, some 13)] M M1 := by
  intro s0 M hf
  unfold fX6_readBar_101 at hf
  cases hf
  exact sm_rf
theorem sX6_readBar_100 {r : Int32} {M1 : Mem} : ∀ {M : Mem}, fX6_readBar_100 M = some (r, M1) → sm [(10, 10, some 3), (10, 10, some 4), (10, 10, some 5), (10, 10, some 6), (10, 10, some 10), (12, 12, some 11), (12, 12, some 12), (12, 12, some 13)] M M1 := by
  intro M hf
  unfold fX6_readBar_100 at hf
  exact sX6_readBar_101 hf
theorem sX6_readBar_78 {r : Int32} {M1 : Mem} : ∀ {M : Mem}, fX6_readBar_78 M = some (r, M1) → sm [(10, 10, some 3), (10, 10, some 4), (10, 10, some 5), (10, 10, some 6), (10, 10, some 10), (12, 12, some 11), (12, 12, some 12), (12, 12, some 13)] M M1 := by
  intro M hf
  unfold fX6_readBar_78 at hf
  obtain ⟨q79, c79, hf⟩ := br_b hf
  refine sm_tr (ssX6_next c79) (by decide) ?_
  obtain ⟨q83, c83, hf⟩ := br_b hf
  refine sm_tr (ssX6_readShare c83) (by decide) ?_
  by_cases q86 : q83.1 = 0
  · have hf := (br_if hf).1 q86
    exact sX6_readBar_100 hf
  · have hf := (br_if hf).2 q86
    obtain ⟨q90, c90, hf⟩ := br_b hf
    refine sm_tr (ssX6_passSemicolon c90) (by decide) ?_
    by_cases q93 : q90.1 = 0
    · have hf := (br_if hf).1 q93
      exact sX6_readBar_100 hf
    · have hf := (br_if hf).2 q93
      exact sX6_readBar_101 hf
theorem sX6_readBar_0 {r : Int32} {M1 : Mem} : ∀ {M : Mem}, fX6_readBar M = some (r, M1) → sm [(10, 10, some 3), (10, 10, some 4), (10, 10, some 5), (10, 10, some 6), (10, 10, some 10), (12, 12, some 11), (12, 12, some 12), (12, 12, some 13)] M M1 := by
  intro M hf
  unfold fX6_readBar at hf
  by_cases q4 : (M.1 10 10) = 0
  · have hf := (br_if hf).1 q4
    obtain ⟨M11, e11⟩ : ∃ y : Mem, y = (sI M 10 10 (1 : Int32)) := ⟨_, rfl⟩
    have hf := nx_at e11 hf
    refine sm_I e11 (inS_up (L0 := [(10, 10, some 10)]) (by decide) (inS_s 10 10)) ?_
    obtain ⟨q15, c15, hf⟩ := br_b hf
    refine sm_tr (ssX6_next c15) (by decide) ?_
    obtain ⟨q21, c21, hf⟩ := br_b hf
    by_cases q24 : q21 = 0
    · have hf := (br_if hf).1 q24
      obtain ⟨q39, c39, hf⟩ := br_b hf
      by_cases q42 : q39 = 0
      · have hf := (br_if hf).1 q42
        obtain ⟨q59, c59, hf⟩ := br_b hf
        by_cases q62 : q59 = 0
        · have hf := (br_if hf).1 q62
          cases hf
          exact sm_rf
        · have hf := (br_if hf).2 q62
          obtain ⟨M70, e70⟩ : ∃ y : Mem, y = (sI q15 12 11 (2 : Int32)) := ⟨_, rfl⟩
          have hf := nx_at e70 hf
          refine sm_I e70 (inS_up (L0 := [(12, 12, some 11)]) (by decide) (inS_s 12 11)) ?_
          exact sX6_readBar_78 hf
      · have hf := (br_if hf).2 q42
        obtain ⟨M50, e50⟩ : ∃ y : Mem, y = (sI q15 12 11 (1 : Int32)) := ⟨_, rfl⟩
        have hf := nx_at e50 hf
        refine sm_I e50 (inS_up (L0 := [(12, 12, some 11)]) (by decide) (inS_s 12 11)) ?_
        exact sX6_readBar_78 hf
    · have hf := (br_if hf).2 q24
      obtain ⟨q28, c28, hf⟩ := br_b hf
      refine sm_tr (ssX6_next c28) (by decide) ?_
      obtain ⟨q32, c32, hf⟩ := br_b hf
      refine sm_tr (ssX6_passSemicolon c32) (by decide) ?_
      cases hf
      exact sm_rf
  · have hf := (br_if hf).2 q4
    cases hf
    exact sm_rf
theorem ssX6_readBar {M : Mem} {r : Int32} {M1 : Mem} (h : fX6_readBar M = some (r, M1)) : sm [(10, 10, some 3), (10, 10, some 4), (10, 10, some 5), (10, 10, some 6), (10, 10, some 10), (12, 12, some 11), (12, 12, some 12), (12, 12, some 13)] M M1 := sX6_readBar_0 h
theorem sX8_addPlace_d_0 {M1 : Mem} : ∀ {x1 : Int32} {x2 : Int32} {M : Mem}, fX8_addPlace_d x1 x2 M = some M1 → sm [(19, 20, none), (12, 12, some 8), (12, 12, some 15)] M M1 := by
  intro x1 x2 M hf
  unfold fX8_addPlace_d at hf
  by_cases q6 : (M.1 12 8) < (20 : Int32)
  · have hf := (br_if hf).1 q6
    obtain ⟨g19, hf⟩ := br_g hf
    obtain ⟨M19, e19⟩ : ∃ y : Mem, y = (sI M 19 (ix (M.1 12 8)) x1) := ⟨_, rfl⟩
    have hf := nx_at e19 hf
    refine sm_I e19 (inS_up (L0 := [(19, 19, none)]) (by decide) (inS_n 19 _)) ?_
    obtain ⟨g29, hf⟩ := br_g hf
    obtain ⟨M29, e29⟩ : ∃ y : Mem, y = (sI M19 20 (ix (M19.1 12 8)) x2) := ⟨_, rfl⟩
    have hf := nx_at e29 hf
    refine sm_I e29 (inS_up (L0 := [(20, 20, none)]) (by decide) (inS_n 20 _)) ?_
    obtain ⟨M37, e37⟩ : ∃ y : Mem, y = (sI M29 12 8 ((M29.1 12 8) + (1 : Int32))) := ⟨_, rfl⟩
    have hf := nx_at e37 hf
    refine sm_I e37 (inS_up (L0 := [(12, 12, some 8)]) (by decide) (inS_s 12 8)) ?_
    obtain ⟨M47, e47⟩ : ∃ y : Mem, y = (sI M37 12 15 ((M37.1 12 15) + (1 : Int32))) := ⟨_, rfl⟩
    have hf := nx_at e47 hf
    refine sm_I e47 (inS_up (L0 := [(12, 12, some 15)]) (by decide) (inS_s 12 15)) ?_
    cases hf
    exact sm_rf
  · have hf := (br_if hf).2 q6
    cases hf
    exact sm_rf
theorem ssX8_addPlace_d {x1 : Int32} {x2 : Int32} {M : Mem} {M1 : Mem} (h : fX8_addPlace_d x1 x2 M = some M1) : sm [(19, 20, none), (12, 12, some 8), (12, 12, some 15)] M M1 := sX8_addPlace_d_0 h
theorem sX6_readPlace_0 {r : Int32} {M1 : Mem} : ∀ {M : Mem}, fX6_readPlace M = some (r, M1) → sm [(19, 20, none), (10, 10, some 3), (10, 10, some 4), (10, 10, some 5), (10, 10, some 6), (12, 12, some 8), (12, 12, some 15)] M M1 := by
  intro M hf
  unfold fX6_readPlace at hf
  by_cases q9 : (M.1 12 8) < (20 : Int32)
  · have hf := (br_if hf).1 q9
    obtain ⟨q15, c15, hf⟩ := br_b hf
    refine sm_tr (ssX6_next c15) (by decide) ?_
    obtain ⟨q22, c22, hf⟩ := br_b hf
    by_cases q25 : q22 = 0
    · have hf := (br_if hf).1 q25
      cases hf
      exact sm_rf
    · have hf := (br_if hf).2 q25
      obtain ⟨v34, e34⟩ : ∃ y : Int32, y = (q15.1 10 6) := ⟨_, rfl⟩
      have hf := nx_at e34 hf
      obtain ⟨q36, c36, hf⟩ := br_b hf
      refine sm_tr (ssX6_next c36) (by decide) ?_
      obtain ⟨q43, c43, hf⟩ := br_b hf
      by_cases q46 : q43 = 0
      · have hf := (br_if hf).1 q46
        cases hf
        exact sm_rf
      · have hf := (br_if hf).2 q46
        obtain ⟨q60, c60, hf⟩ := br_b hf
        refine sm_tr (ssX8_addPlace_d c60) (by decide) ?_
        obtain ⟨q64, c64, hf⟩ := br_b hf
        refine sm_tr (ssX6_next c64) (by decide) ?_
        obtain ⟨q68, c68, hf⟩ := br_b hf
        refine sm_tr (ssX6_passSemicolon c68) (by decide) ?_
        cases hf
        exact sm_rf
  · have hf := (br_if hf).2 q9
    cases hf
    exact sm_rf
theorem ssX6_readPlace {M : Mem} {r : Int32} {M1 : Mem} (h : fX6_readPlace M = some (r, M1)) : sm [(19, 20, none), (10, 10, some 3), (10, 10, some 4), (10, 10, some 5), (10, 10, some 6), (12, 12, some 8), (12, 12, some 15)] M M1 := sX6_readPlace_0 h
theorem sX8_addVoter_d_0 {M1 : Mem} : ∀ {x1 : Int32} {x2 : Int32} {x3 : Int32} {x4 : Int32} {x5 : Int32} {x6 : Int32} {M : Mem}, fX8_addVoter_d x1 x2 x3 x4 x5 x6 M = some M1 → sm [(13, 18, none), (12, 12, some 0), (12, 12, some 7), (12, 12, some 14)] M M1 := by
  intro x1 x2 x3 x4 x5 x6 M hf
  unfold fX8_addVoter_d at hf
  by_cases q6 : (M.1 12 0) < (15 : Int32)
  · have hf := (br_if hf).1 q6
    obtain ⟨g19, hf⟩ := br_g hf
    obtain ⟨M19, e19⟩ : ∃ y : Mem, y = (sI M 13 (ix (M.1 12 0)) x1) := ⟨_, rfl⟩
    have hf := nx_at e19 hf
    refine sm_I e19 (inS_up (L0 := [(13, 13, none)]) (by decide) (inS_n 13 _)) ?_
    obtain ⟨g29, hf⟩ := br_g hf
    obtain ⟨M29, e29⟩ : ∃ y : Mem, y = (sI M19 14 (ix (M19.1 12 0)) x2) := ⟨_, rfl⟩
    have hf := nx_at e29 hf
    refine sm_I e29 (inS_up (L0 := [(14, 14, none)]) (by decide) (inS_n 14 _)) ?_
    obtain ⟨g39, hf⟩ := br_g hf
    obtain ⟨M39, e39⟩ : ∃ y : Mem, y = (sI M29 15 (ix (M29.1 12 0)) x3) := ⟨_, rfl⟩
    have hf := nx_at e39 hf
    refine sm_I e39 (inS_up (L0 := [(15, 15, none)]) (by decide) (inS_n 15 _)) ?_
    obtain ⟨g50, hf⟩ := br_g hf
    obtain ⟨M50, e50⟩ : ∃ y : Mem, y = (sI M39 16 (ix (M39.1 12 0)) x4) := ⟨_, rfl⟩
    have hf := nx_at e50 hf
    refine sm_I e50 (inS_up (L0 := [(16, 16, none)]) (by decide) (inS_n 16 _)) ?_
    obtain ⟨g61, hf⟩ := br_g hf
    obtain ⟨M61, e61⟩ : ∃ y : Mem, y = (sI M50 17 (ix (M50.1 12 0)) x5) := ⟨_, rfl⟩
    have hf := nx_at e61 hf
    refine sm_I e61 (inS_up (L0 := [(17, 17, none)]) (by decide) (inS_n 17 _)) ?_
    obtain ⟨g72, hf⟩ := br_g hf
    obtain ⟨M72, e72⟩ : ∃ y : Mem, y = (sI M61 18 (ix (M61.1 12 0)) x6) := ⟨_, rfl⟩
    have hf := nx_at e72 hf
    refine sm_I e72 (inS_up (L0 := [(18, 18, none)]) (by decide) (inS_n 18 _)) ?_
    obtain ⟨M80, e80⟩ : ∃ y : Mem, y = (sI M72 12 0 ((M72.1 12 0) + (1 : Int32))) := ⟨_, rfl⟩
    have hf := nx_at e80 hf
    refine sm_I e80 (inS_up (L0 := [(12, 12, some 0)]) (by decide) (inS_s 12 0)) ?_
    obtain ⟨M90, e90⟩ : ∃ y : Mem, y = (sI M80 12 7 ((M80.1 12 7) + x3)) := ⟨_, rfl⟩
    have hf := nx_at e90 hf
    refine sm_I e90 (inS_up (L0 := [(12, 12, some 7)]) (by decide) (inS_s 12 7)) ?_
    obtain ⟨M100, e100⟩ : ∃ y : Mem, y = (sI M90 12 14 ((M90.1 12 14) + (1 : Int32))) := ⟨_, rfl⟩
    have hf := nx_at e100 hf
    refine sm_I e100 (inS_up (L0 := [(12, 12, some 14)]) (by decide) (inS_s 12 14)) ?_
    cases hf
    exact sm_rf
  · have hf := (br_if hf).2 q6
    cases hf
    exact sm_rf
theorem ssX8_addVoter_d {x1 : Int32} {x2 : Int32} {x3 : Int32} {x4 : Int32} {x5 : Int32} {x6 : Int32} {M : Mem} {M1 : Mem} (h : fX8_addVoter_d x1 x2 x3 x4 x5 x6 M = some M1) : sm [(13, 18, none), (12, 12, some 0), (12, 12, some 7), (12, 12, some 14)] M M1 := sX8_addVoter_d_0 h
theorem sX6_readVoter_96 {r : Int32} {M1 : Mem} : ∀ {x1 : Int32} {x2 : Int32} {x3 : Int32} {M : Mem}, fX6_readVoter_96 x1 x2 x3 M = some (r, M1) → sm [(13, 18, none), (10, 10, some 3), (10, 10, some 4), (10, 10, some 5), (10, 10, some 6), (12, 12, some 0), (12, 12, some 7), (12, 12, some 14)] M M1 := by
  intro x1 x2 x3 M hf
  unfold fX6_readVoter_96 at hf
  obtain ⟨q115, c115, hf⟩ := br_b hf
  refine sm_tr (ssX8_addVoter_d c115) (by decide) ?_
  obtain ⟨q119, c119, hf⟩ := br_b hf
  refine sm_tr (ssX6_passSemicolon c119) (by decide) ?_
  cases hf
  exact sm_rf
theorem sX6_readVoter_0 {r : Int32} {M1 : Mem} : ∀ {M : Mem}, fX6_readVoter M = some (r, M1) → sm [(13, 18, none), (10, 10, some 3), (10, 10, some 4), (10, 10, some 5), (10, 10, some 6), (12, 12, some 0), (12, 12, some 7), (12, 12, some 14)] M M1 := by
  intro M hf
  unfold fX6_readVoter at hf
  by_cases q9 : (M.1 12 0) < (15 : Int32)
  · have hf := (br_if hf).1 q9
    obtain ⟨q15, c15, hf⟩ := br_b hf
    refine sm_tr (ssX6_next c15) (by decide) ?_
    obtain ⟨q22, c22, hf⟩ := br_b hf
    by_cases q25 : q22 = 0
    · have hf := (br_if hf).1 q25
      cases hf
      exact sm_rf
    · have hf := (br_if hf).2 q25
      obtain ⟨v34, e34⟩ : ∃ y : Int32, y = (q15.1 10 6) := ⟨_, rfl⟩
      have hf := nx_at e34 hf
      obtain ⟨q36, c36, hf⟩ := br_b hf
      refine sm_tr (ssX6_next c36) (by decide) ?_
      obtain ⟨q43, c43, hf⟩ := br_b hf
      by_cases q46 : q43 = 0
      · have hf := (br_if hf).1 q46
        cases hf
        exact sm_rf
      · have hf := (br_if hf).2 q46
        obtain ⟨v55, e55⟩ : ∃ y : Int32, y = (q36.1 10 6) := ⟨_, rfl⟩
        have hf := nx_at e55 hf
        obtain ⟨q59, c59, hf⟩ := br_b hf
        refine sm_tr (ssX6_next c59) (by decide) ?_
        obtain ⟨q65, c65, hf⟩ := br_b hf
        by_cases q68 : q65 = 0
        · have hf := (br_if hf).1 q68
          exact sX6_readVoter_96 hf
        · have hf := (br_if hf).2 q68
          obtain ⟨q72, c72, hf⟩ := br_b hf
          refine sm_tr (ssX6_next c72) (by decide) ?_
          obtain ⟨q79, c79, hf⟩ := br_b hf
          by_cases q82 : q79 = 0
          · have hf := (br_if hf).1 q82
            cases hf
            exact sm_rf
          · have hf := (br_if hf).2 q82
            obtain ⟨v91, e91⟩ : ∃ y : Int32, y = (q72.1 10 6) := ⟨_, rfl⟩
            have hf := nx_at e91 hf
            obtain ⟨q93, c93, hf⟩ := br_b hf
            refine sm_tr (ssX6_next c93) (by decide) ?_
            exact sX6_readVoter_96 hf
  · have hf := (br_if hf).2 q9
    cases hf
    exact sm_rf
theorem ssX6_readVoter {M : Mem} {r : Int32} {M1 : Mem} (h : fX6_readVoter M = some (r, M1)) : sm [(13, 18, none), (10, 10, some 3), (10, 10, some 4), (10, 10, some 5), (10, 10, some 6), (12, 12, some 0), (12, 12, some 7), (12, 12, some 14)] M M1 := sX6_readVoter_0 h
theorem sX6_readStretch_0 {r : Int32} {M1 : Mem} : ∀ {M : Mem}, fX6_readStretch M = some (r, M1) → sm [(10, 10, some 3), (10, 10, some 4), (10, 10, some 5), (10, 10, some 6), (10, 10, some 8), (10, 10, some 9)] M M1 := by
  intro M hf
  unfold fX6_readStretch at hf
  obtain ⟨q1, c1, hf⟩ := br_b hf
  refine sm_tr (ssX6_next c1) (by decide) ?_
  obtain ⟨q8, c8, hf⟩ := br_b hf
  by_cases q11 : q8 = 0
  · have hf := (br_if hf).1 q11
    cases hf
    exact sm_rf
  · have hf := (br_if hf).2 q11
    obtain ⟨M21, e21⟩ : ∃ y : Mem, y = (sI q1 10 8 (q1.1 10 6)) := ⟨_, rfl⟩
    have hf := nx_at e21 hf
    refine sm_I e21 (inS_up (L0 := [(10, 10, some 8)]) (by decide) (inS_s 10 8)) ?_
    obtain ⟨q25, c25, hf⟩ := br_b hf
    refine sm_tr (ssX6_next c25) (by decide) ?_
    obtain ⟨q32, c32, hf⟩ := br_b hf
    by_cases q35 : q32 = 0
    · have hf := (br_if hf).1 q35
      cases hf
      exact sm_rf
    · have hf := (br_if hf).2 q35
      obtain ⟨M45, e45⟩ : ∃ y : Mem, y = (sI q25 10 9 (q25.1 10 6)) := ⟨_, rfl⟩
      have hf := nx_at e45 hf
      refine sm_I e45 (inS_up (L0 := [(10, 10, some 9)]) (by decide) (inS_s 10 9)) ?_
      obtain ⟨q49, c49, hf⟩ := br_b hf
      refine sm_tr (ssX6_next c49) (by decide) ?_
      obtain ⟨q53, c53, hf⟩ := br_b hf
      refine sm_tr (ssX6_passSemicolon c53) (by decide) ?_
      cases hf
      exact sm_rf
theorem ssX6_readStretch {M : Mem} {r : Int32} {M1 : Mem} (h : fX6_readStretch M = some (r, M1)) : sm [(10, 10, some 3), (10, 10, some 4), (10, 10, some 5), (10, 10, some 6), (10, 10, some 8), (10, 10, some 9)] M M1 := sX6_readStretch_0 h
theorem sX6_readNear_74 {r : Int32} {M1 : Mem} : ∀ {M : Mem}, fX6_readNear_74 M = some (r, M1) → sm [(10, 10, some 3), (10, 10, some 4), (10, 10, some 5), (10, 10, some 6), (10, 10, some 7)] M M1 := by
  intro M hf
  unfold fX6_readNear_74 at hf
  obtain ⟨q75, c75, hf⟩ := br_b hf
  refine sm_tr (ssX6_next c75) (by decide) ?_
  obtain ⟨q79, c79, hf⟩ := br_b hf
  refine sm_tr (ssX6_passSemicolon c79) (by decide) ?_
  cases hf
  exact sm_rf
theorem sX6_readNear_0 {r : Int32} {M1 : Mem} : ∀ {M : Mem}, fX6_readNear M = some (r, M1) → sm [(10, 10, some 3), (10, 10, some 4), (10, 10, some 5), (10, 10, some 6), (10, 10, some 7)] M M1 := by
  intro M hf
  unfold fX6_readNear at hf
  obtain ⟨q1, c1, hf⟩ := br_b hf
  refine sm_tr (ssX6_next c1) (by decide) ?_
  obtain ⟨q7, c7, hf⟩ := br_b hf
  by_cases q10 : q7 = 0
  · have hf := (br_if hf).1 q10
    obtain ⟨q24, c24, hf⟩ := br_b hf
    by_cases q27 : q24 = 0
    · have hf := (br_if hf).1 q27
      obtain ⟨q41, c41, hf⟩ := br_b hf
      by_cases q44 : q41 = 0
      · have hf := (br_if hf).1 q44
        obtain ⟨q58, c58, hf⟩ := br_b hf
        by_cases q61 : q58 = 0
        · have hf := (br_if hf).1 q61
          cases hf
          exact sm_rf
        · have hf := (br_if hf).2 q61
          obtain ⟨M66, e66⟩ : ∃ y : Mem, y = (sI q1 10 7 (3 : Int32)) := ⟨_, rfl⟩
          have hf := nx_at e66 hf
          refine sm_I e66 (inS_up (L0 := [(10, 10, some 7)]) (by decide) (inS_s 10 7)) ?_
          exact sX6_readNear_74 hf
      · have hf := (br_if hf).2 q44
        obtain ⟨M49, e49⟩ : ∃ y : Mem, y = (sI q1 10 7 (2 : Int32)) := ⟨_, rfl⟩
        have hf := nx_at e49 hf
        refine sm_I e49 (inS_up (L0 := [(10, 10, some 7)]) (by decide) (inS_s 10 7)) ?_
        exact sX6_readNear_74 hf
    · have hf := (br_if hf).2 q27
      obtain ⟨M32, e32⟩ : ∃ y : Mem, y = (sI q1 10 7 (1 : Int32)) := ⟨_, rfl⟩
      have hf := nx_at e32 hf
      refine sm_I e32 (inS_up (L0 := [(10, 10, some 7)]) (by decide) (inS_s 10 7)) ?_
      exact sX6_readNear_74 hf
  · have hf := (br_if hf).2 q10
    obtain ⟨M15, e15⟩ : ∃ y : Mem, y = (sI q1 10 7 (0 : Int32)) := ⟨_, rfl⟩
    have hf := nx_at e15 hf
    refine sm_I e15 (inS_up (L0 := [(10, 10, some 7)]) (by decide) (inS_s 10 7)) ?_
    exact sX6_readNear_74 hf
theorem ssX6_readNear {M : Mem} {r : Int32} {M1 : Mem} (h : fX6_readNear M = some (r, M1)) : sm [(10, 10, some 3), (10, 10, some 4), (10, 10, some 5), (10, 10, some 6), (10, 10, some 7)] M M1 := sX6_readNear_0 h
theorem sX6_readOne_77 {r : Int32} {M1 : Mem} : ∀ {s0 : Int32} {M : Mem}, fX6_readOne_77 s0 M = some (r, M1) → sm [(13, 20, none), (10, 10, some 3), (10, 10, some 4), (10, 10, some 5), (10, 10, some 6), (10, 10, some 7), (10, 10, some 8), (10, 10, some 9), (10, 10, some 10), (12, 12, some 0), (12, 12, some 7), (12, 12, some 8), (12, 12, some 11), (12, 12, some 12), (12, 12, some 13), (12, 12, some 14), (12, 12, some 15)] M M1 := by
  intro s0 M hf
  unfold fX6_readOne_77 at hf
  cases hf
  exact sm_rf
theorem sX6_readOne_76 {r : Int32} {M1 : Mem} : ∀ {M : Mem}, fX6_readOne_76 M = some (r, M1) → sm [(13, 20, none), (10, 10, some 3), (10, 10, some 4), (10, 10, some 5), (10, 10, some 6), (10, 10, some 7), (10, 10, some 8), (10, 10, some 9), (10, 10, some 10), (12, 12, some 0), (12, 12, some 7), (12, 12, some 8), (12, 12, some 11), (12, 12, some 12), (12, 12, some 13), (12, 12, some 14), (12, 12, some 15)] M M1 := by
  intro M hf
  unfold fX6_readOne_76 at hf
  exact sX6_readOne_77 hf
theorem sX6_readOne_0 {r : Int32} {M1 : Mem} : ∀ {M : Mem}, fX6_readOne M = some (r, M1) → sm [(13, 20, none), (10, 10, some 3), (10, 10, some 4), (10, 10, some 5), (10, 10, some 6), (10, 10, some 7), (10, 10, some 8), (10, 10, some 9), (10, 10, some 10), (12, 12, some 0), (12, 12, some 7), (12, 12, some 8), (12, 12, some 11), (12, 12, some 12), (12, 12, some 13), (12, 12, some 14), (12, 12, some 15)] M M1 := by
  intro M hf
  unfold fX6_readOne at hf
  obtain ⟨q3, c3, hf⟩ := br_b hf
  by_cases q6 : q3 = 0
  · have hf := (br_if hf).1 q6
    obtain ⟨q17, c17, hf⟩ := br_b hf
    by_cases q20 : q17 = 0
    · have hf := (br_if hf).1 q20
      obtain ⟨q31, c31, hf⟩ := br_b hf
      by_cases q34 : q31 = 0
      · have hf := (br_if hf).1 q34
        obtain ⟨q45, c45, hf⟩ := br_b hf
        by_cases q48 : q45 = 0
        · have hf := (br_if hf).1 q48
          obtain ⟨q59, c59, hf⟩ := br_b hf
          by_cases q62 : q59 = 0
          · have hf := (br_if hf).1 q62
            exact sX6_readOne_76 hf
          · have hf := (br_if hf).2 q62
            obtain ⟨q66, c66, hf⟩ := br_b hf
            refine sm_tr (ssX6_readBar c66) (by decide) ?_
            by_cases q69 : q66.1 = 0
            · have hf := (br_if hf).1 q69
              exact sX6_readOne_76 hf
            · have hf := (br_if hf).2 q69
              exact sX6_readOne_77 hf
        · have hf := (br_if hf).2 q48
          obtain ⟨q52, c52, hf⟩ := br_b hf
          refine sm_tr (ssX6_readPlace c52) (by decide) ?_
          cases hf
          exact sm_rf
      · have hf := (br_if hf).2 q34
        obtain ⟨q38, c38, hf⟩ := br_b hf
        refine sm_tr (ssX6_readVoter c38) (by decide) ?_
        cases hf
        exact sm_rf
    · have hf := (br_if hf).2 q20
      obtain ⟨q24, c24, hf⟩ := br_b hf
      refine sm_tr (ssX6_readStretch c24) (by decide) ?_
      cases hf
      exact sm_rf
  · have hf := (br_if hf).2 q6
    obtain ⟨q10, c10, hf⟩ := br_b hf
    refine sm_tr (ssX6_readNear c10) (by decide) ?_
    cases hf
    exact sm_rf
theorem ssX6_readOne {M : Mem} {r : Int32} {M1 : Mem} (h : fX6_readOne M = some (r, M1)) : sm [(13, 20, none), (10, 10, some 3), (10, 10, some 4), (10, 10, some 5), (10, 10, some 6), (10, 10, some 7), (10, 10, some 8), (10, 10, some 9), (10, 10, some 10), (12, 12, some 0), (12, 12, some 7), (12, 12, some 8), (12, 12, some 11), (12, 12, some 12), (12, 12, some 13), (12, 12, some 14), (12, 12, some 15)] M M1 := sX6_readOne_0 h
theorem sX6_findFault_38 {r : Int32} {M1 : Mem} {k59 : Mem → Option (Int32 × Mem)} {k70 : Mem → Option (Int32 × Mem)} (hk59 : ∀ {M : Mem}, k59 M = some (r, M1) → sm [(13, 20, none), (10, 10, some 3), (10, 10, some 4), (10, 10, some 5), (10, 10, some 6), (10, 10, some 7), (10, 10, some 8), (10, 10, some 9), (10, 10, some 10), (12, 12, some 0), (12, 12, some 7), (12, 12, some 8), (12, 12, some 11), (12, 12, some 12), (12, 12, some 13), (12, 12, some 14), (12, 12, some 15)] M M1) (hk70 : ∀ {M : Mem}, k70 M = some (r, M1) → sm [(13, 20, none), (10, 10, some 3), (10, 10, some 4), (10, 10, some 5), (10, 10, some 6), (10, 10, some 7), (10, 10, some 8), (10, 10, some 9), (10, 10, some 10), (12, 12, some 0), (12, 12, some 7), (12, 12, some 8), (12, 12, some 11), (12, 12, some 12), (12, 12, some 13), (12, 12, some 14), (12, 12, some 15)] M M1) : ∀ (n : Nat) {x1 : Int32} {M : Mem}, fX6_findFault_38 k59 k70 n x1 M = some (r, M1) → sm [(13, 20, none), (10, 10, some 3), (10, 10, some 4), (10, 10, some 5), (10, 10, some 6), (10, 10, some 7), (10, 10, some 8), (10, 10, some 9), (10, 10, some 10), (12, 12, some 0), (12, 12, some 7), (12, 12, some 8), (12, 12, some 11), (12, 12, some 12), (12, 12, some 13), (12, 12, some 14), (12, 12, some 15)] M M1 := by
  intro n
  induction n with
  | zero =>
    intro x1 M hf
    exact absurd (show none = some _ from hf) (fun h => by cases h)
  | succ n ih =>
    intro x1 M hf
    rw [fX6_findFault_38] at hf
    by_cases q42 : (600 : Int32) ≤ x1
    · have hf := (br_if hf).1 q42
      exact hk70 hf
    · have hf := (br_if hf).2 q42
      by_cases q49 : (M.1 10 3) = 0
      · have hf := (br_if hf).1 q49
        exact hk70 hf
      · have hf := (br_if hf).2 q49
        obtain ⟨q53, c53, hf⟩ := br_b hf
        refine sm_tr (ssX6_readOne c53) (by decide) ?_
        by_cases q56 : q53.1 = 0
        · have hf := (br_if hf).1 q56
          exact hk59 hf
        · have hf := (br_if hf).2 q56
          obtain ⟨v64, e64⟩ : ∃ y : Int32, y = (x1 + (1 : Int32)) := ⟨_, rfl⟩
          have hf := nx_at e64 hf
          exact ih hf
theorem sX6_findFault_59 {r : Int32} {M1 : Mem} : ∀ {M : Mem}, fX6_findFault_59 M = some (r, M1) → sm [(13, 20, none), (10, 10, some 3), (10, 10, some 4), (10, 10, some 5), (10, 10, some 6), (10, 10, some 7), (10, 10, some 8), (10, 10, some 9), (10, 10, some 10), (12, 12, some 0), (12, 12, some 7), (12, 12, some 8), (12, 12, some 11), (12, 12, some 12), (12, 12, some 13), (12, 12, some 14), (12, 12, some 15)] M M1 := by
  intro M hf
  unfold fX6_findFault_59 at hf
  cases hf
  exact sm_rf
theorem sX6_findFault_95 {r : Int32} {M1 : Mem} : ∀ {s0 : Int32} {M : Mem}, fX6_findFault_95 s0 M = some (r, M1) → sm [(13, 20, none), (10, 10, some 3), (10, 10, some 4), (10, 10, some 5), (10, 10, some 6), (10, 10, some 7), (10, 10, some 8), (10, 10, some 9), (10, 10, some 10), (12, 12, some 0), (12, 12, some 7), (12, 12, some 8), (12, 12, some 11), (12, 12, some 12), (12, 12, some 13), (12, 12, some 14), (12, 12, some 15)] M M1 := by
  intro s0 M hf
  unfold fX6_findFault_95 at hf
  cases hf
  exact sm_rf
theorem sX6_findFault_91 {r : Int32} {M1 : Mem} : ∀ {M : Mem}, fX6_findFault_91 M = some (r, M1) → sm [(13, 20, none), (10, 10, some 3), (10, 10, some 4), (10, 10, some 5), (10, 10, some 6), (10, 10, some 7), (10, 10, some 8), (10, 10, some 9), (10, 10, some 10), (12, 12, some 0), (12, 12, some 7), (12, 12, some 8), (12, 12, some 11), (12, 12, some 12), (12, 12, some 13), (12, 12, some 14), (12, 12, some 15)] M M1 := by
  intro M hf
  unfold fX6_findFault_91 at hf
  exact sX6_findFault_95 hf
theorem sX6_findFault_70 {r : Int32} {M1 : Mem} : ∀ {M : Mem}, fX6_findFault_70 M = some (r, M1) → sm [(13, 20, none), (10, 10, some 3), (10, 10, some 4), (10, 10, some 5), (10, 10, some 6), (10, 10, some 7), (10, 10, some 8), (10, 10, some 9), (10, 10, some 10), (12, 12, some 0), (12, 12, some 7), (12, 12, some 8), (12, 12, some 11), (12, 12, some 12), (12, 12, some 13), (12, 12, some 14), (12, 12, some 15)] M M1 := by
  intro M hf
  unfold fX6_findFault_70 at hf
  by_cases q74 : (M.1 10 3) = 0
  · have hf := (br_if hf).1 q74
    by_cases q84 : (M.1 12 0) ≤ 0
    · have hf := (br_if hf).1 q84
      exact sX6_findFault_91 hf
    · have hf := (br_if hf).2 q84
      exact sX6_findFault_95 hf
  · have hf := (br_if hf).2 q74
    exact sX6_findFault_91 hf
theorem sX6_findFault_0 {r : Int32} {M1 : Mem} : ∀ {M : Mem}, fX6_findFault M = some (r, M1) → sm [(13, 20, none), (10, 10, some 3), (10, 10, some 4), (10, 10, some 5), (10, 10, some 6), (10, 10, some 7), (10, 10, some 8), (10, 10, some 9), (10, 10, some 10), (12, 12, some 0), (12, 12, some 7), (12, 12, some 8), (12, 12, some 11), (12, 12, some 12), (12, 12, some 13), (12, 12, some 14), (12, 12, some 15)] M M1 := by
  intro M hf
  unfold fX6_findFault at hf
  obtain ⟨q4, c4, hf⟩ := br_b hf
  refine sm_tr (ssX8_clear_d c4) (by decide) ?_
  obtain ⟨M9, e9⟩ : ∃ y : Mem, y = (sI q4 10 7 (0 : Int32)) := ⟨_, rfl⟩
  have hf := nx_at e9 hf
  refine sm_I e9 (inS_up (L0 := [(10, 10, some 7)]) (by decide) (inS_s 10 7)) ?_
  obtain ⟨M14, e14⟩ : ∃ y : Mem, y = (sI M9 10 8 (1 : Int32)) := ⟨_, rfl⟩
  have hf := nx_at e14 hf
  refine sm_I e14 (inS_up (L0 := [(10, 10, some 8)]) (by decide) (inS_s 10 8)) ?_
  obtain ⟨M19, e19⟩ : ∃ y : Mem, y = (sI M14 10 9 (1 : Int32)) := ⟨_, rfl⟩
  have hf := nx_at e19 hf
  refine sm_I e19 (inS_up (L0 := [(10, 10, some 9)]) (by decide) (inS_s 10 9)) ?_
  obtain ⟨M24, e24⟩ : ∃ y : Mem, y = (sI M19 10 10 (0 : Int32)) := ⟨_, rfl⟩
  have hf := nx_at e24 hf
  refine sm_I e24 (inS_up (L0 := [(10, 10, some 10)]) (by decide) (inS_s 10 10)) ?_
  obtain ⟨M29, e29⟩ : ∃ y : Mem, y = (sI M24 10 5 (0 : Int32)) := ⟨_, rfl⟩
  have hf := nx_at e29 hf
  refine sm_I e29 (inS_up (L0 := [(10, 10, some 5)]) (by decide) (inS_s 10 5)) ?_
  obtain ⟨q33, c33, hf⟩ := br_b hf
  refine sm_tr (ssX6_next c33) (by decide) ?_
  exact sX6_findFault_38 (fun hf => sX6_findFault_59 hf) (fun hf => sX6_findFault_70 hf) FU hf
theorem ssX6_findFault {M : Mem} {r : Int32} {M1 : Mem} (h : fX6_findFault M = some (r, M1)) : sm [(13, 20, none), (10, 10, some 3), (10, 10, some 4), (10, 10, some 5), (10, 10, some 6), (10, 10, some 7), (10, 10, some 8), (10, 10, some 9), (10, 10, some 10), (12, 12, some 0), (12, 12, some 7), (12, 12, some 8), (12, 12, some 11), (12, 12, some 12), (12, 12, some 13), (12, 12, some 14), (12, 12, some 15)] M M1 := sX6_findFault_0 h
theorem sX11_addsLine_46 {M1 : Mem} {k3 : Int32 → Int32 → Int32 → Int32 → Mem → Option Mem} {k45 : Mem → Option Mem} {k52 : Int32 → Int32 → Int32 → Mem → Option Mem} (hk3 : ∀ {x1 : Int32} {x2 : Int32} {x3 : Int32} {x4 : Int32} {M : Mem}, k3 x1 x2 x3 x4 M = some M1 → sm [(79, 81, none), (47, 47, some 27)] M M1) (hk45 : ∀ {M : Mem}, k45 M = some M1 → sm [(79, 81, none), (47, 47, some 27)] M M1) (hk52 : ∀ {x1 : Int32} {x2 : Int32} {x3 : Int32} {M : Mem}, k52 x1 x2 x3 M = some M1 → sm [(79, 81, none), (47, 47, some 27)] M M1) : ∀ {x1 : Int32} {x2 : Int32} {x3 : Int32} {x4 : Int32} {M : Mem}, fX11_addsLine_46 k3 k45 k52 x1 x2 x3 x4 M = some M1 → sm [(79, 81, none), (47, 47, some 27)] M M1 := by
  intro x1 x2 x3 x4 M hf
  unfold fX11_addsLine_46 at hf
  obtain ⟨v46, e46⟩ : ∃ y : Int32, y = (x4 + (1 : Int32)) := ⟨_, rfl⟩
  have hf := nx_at e46 hf
  exact hk3 hf
theorem sX11_addsLine_3 {M1 : Mem} {k45 : Mem → Option Mem} {k52 : Int32 → Int32 → Int32 → Mem → Option Mem} (hk45 : ∀ {M : Mem}, k45 M = some M1 → sm [(79, 81, none), (47, 47, some 27)] M M1) (hk52 : ∀ {x1 : Int32} {x2 : Int32} {x3 : Int32} {M : Mem}, k52 x1 x2 x3 M = some M1 → sm [(79, 81, none), (47, 47, some 27)] M M1) : ∀ (n : Nat) {x1 : Int32} {x2 : Int32} {x3 : Int32} {x4 : Int32} {M : Mem}, fX11_addsLine_3 k45 k52 n x1 x2 x3 x4 M = some M1 → sm [(79, 81, none), (47, 47, some 27)] M M1 := by
  intro n
  induction n with
  | zero =>
    intro x1 x2 x3 x4 M hf
    exact absurd (show none = some _ from hf) (fun h => by cases h)
  | succ n ih =>
    intro x1 x2 x3 x4 M hf
    rw [fX11_addsLine_3] at hf
    by_cases q9 : (M.1 47 27) ≤ x4
    · have hf := (br_if hf).1 q9
      exact hk52 hf
    · have hf := (br_if hf).2 q9
      obtain ⟨g18, hf⟩ := br_g hf
      by_cases q20 : (M.1 79 (ix x4)) = x1
      · have hf := (br_if hf).1 q20
        obtain ⟨g29, hf⟩ := br_g hf
        by_cases q31 : (M.1 80 (ix x4)) = x2
        · have hf := (br_if hf).1 q31
          obtain ⟨g40, hf⟩ := br_g hf
          by_cases q42 : (M.1 81 (ix x4)) = x3
          · have hf := (br_if hf).1 q42
            exact hk45 hf
          · have hf := (br_if hf).2 q42
            exact sX11_addsLine_46 (fun hf => ih hf) (fun hf => hk45 hf) (fun hf => hk52 hf) hf
        · have hf := (br_if hf).2 q31
          exact sX11_addsLine_46 (fun hf => ih hf) (fun hf => hk45 hf) (fun hf => hk52 hf) hf
      · have hf := (br_if hf).2 q20
        exact sX11_addsLine_46 (fun hf => ih hf) (fun hf => hk45 hf) (fun hf => hk52 hf) hf
theorem sX11_addsLine_45 {M1 : Mem} : ∀ {M : Mem}, fX11_addsLine_45 M = some M1 → sm [(79, 81, none), (47, 47, some 27)] M M1 := by
  intro M hf
  unfold fX11_addsLine_45 at hf
  cases hf
  exact sm_rf
theorem sX11_addsLine_58 {M1 : Mem} {k131 : Int32 → Int32 → Int32 → Int32 → Mem → Option Mem} (hk131 : ∀ {x1 : Int32} {x2 : Int32} {x3 : Int32} {x4 : Int32} {M : Mem}, k131 x1 x2 x3 x4 M = some M1 → sm [(79, 81, none), (47, 47, some 27)] M M1) : ∀ (n : Nat) {x1 : Int32} {x2 : Int32} {x3 : Int32} {x4 : Int32} {M : Mem}, fX11_addsLine_58 k131 n x1 x2 x3 x4 M = some M1 → sm [(79, 81, none), (47, 47, some 27)] M M1 := by
  intro n
  induction n with
  | zero =>
    intro x1 x2 x3 x4 M hf
    exact absurd (show none = some _ from hf) (fun h => by cases h)
  | succ n ih =>
    intro x1 x2 x3 x4 M hf
    rw [fX11_addsLine_58] at hf
    by_cases q60 : x4 ≤ 0
    · have hf := (br_if hf).1 q60
      exact hk131 hf
    · have hf := (br_if hf).2 q60
      obtain ⟨q71, c71, hf⟩ := br_b hf
      by_cases q74 : q71 = 0
      · have hf := (br_if hf).1 q74
        exact hk131 hf
      · have hf := (br_if hf).2 q74
        obtain ⟨g91, hf⟩ := br_g hf
        obtain ⟨g92, hf⟩ := br_g hf
        obtain ⟨M92, e92⟩ : ∃ y : Mem, y = (sI M 79 (ix x4) (M.1 79 (ix (x4 - (1 : Int32))))) := ⟨_, rfl⟩
        have hf := nx_at e92 hf
        refine sm_I e92 (inS_up (L0 := [(79, 79, none)]) (by decide) (inS_n 79 _)) ?_
        obtain ⟨g107, hf⟩ := br_g hf
        obtain ⟨g108, hf⟩ := br_g hf
        obtain ⟨M108, e108⟩ : ∃ y : Mem, y = (sI M92 80 (ix x4) (M92.1 80 (ix (x4 - (1 : Int32))))) := ⟨_, rfl⟩
        have hf := nx_at e108 hf
        refine sm_I e108 (inS_up (L0 := [(80, 80, none)]) (by decide) (inS_n 80 _)) ?_
        obtain ⟨g123, hf⟩ := br_g hf
        obtain ⟨g124, hf⟩ := br_g hf
        obtain ⟨M124, e124⟩ : ∃ y : Mem, y = (sI M108 81 (ix x4) (M108.1 81 (ix (x4 - (1 : Int32))))) := ⟨_, rfl⟩
        have hf := nx_at e124 hf
        refine sm_I e124 (inS_up (L0 := [(81, 81, none)]) (by decide) (inS_n 81 _)) ?_
        obtain ⟨v125, e125⟩ : ∃ y : Int32, y = (x4 + (-1 : Int32)) := ⟨_, rfl⟩
        have hf := nx_at e125 hf
        exact ih hf
theorem sX11_addsLine_131 {M1 : Mem} : ∀ {x1 : Int32} {x2 : Int32} {x3 : Int32} {x4 : Int32} {M : Mem}, fX11_addsLine_131 x1 x2 x3 x4 M = some M1 → sm [(79, 81, none), (47, 47, some 27)] M M1 := by
  intro x1 x2 x3 x4 M hf
  unfold fX11_addsLine_131 at hf
  obtain ⟨g138, hf⟩ := br_g hf
  obtain ⟨M138, e138⟩ : ∃ y : Mem, y = (sI M 79 (ix x4) x1) := ⟨_, rfl⟩
  have hf := nx_at e138 hf
  refine sm_I e138 (inS_up (L0 := [(79, 79, none)]) (by decide) (inS_n 79 _)) ?_
  obtain ⟨g146, hf⟩ := br_g hf
  obtain ⟨M146, e146⟩ : ∃ y : Mem, y = (sI M138 80 (ix x4) x2) := ⟨_, rfl⟩
  have hf := nx_at e146 hf
  refine sm_I e146 (inS_up (L0 := [(80, 80, none)]) (by decide) (inS_n 80 _)) ?_
  obtain ⟨g154, hf⟩ := br_g hf
  obtain ⟨M154, e154⟩ : ∃ y : Mem, y = (sI M146 81 (ix x4) x3) := ⟨_, rfl⟩
  have hf := nx_at e154 hf
  refine sm_I e154 (inS_up (L0 := [(81, 81, none)]) (by decide) (inS_n 81 _)) ?_
  obtain ⟨M162, e162⟩ : ∃ y : Mem, y = (sI M154 47 27 ((M154.1 47 27) + (1 : Int32))) := ⟨_, rfl⟩
  have hf := nx_at e162 hf
  refine sm_I e162 (inS_up (L0 := [(47, 47, some 27)]) (by decide) (inS_s 47 27)) ?_
  cases hf
  exact sm_rf
theorem sX11_addsLine_52 {M1 : Mem} : ∀ {x1 : Int32} {x2 : Int32} {x3 : Int32} {M : Mem}, fX11_addsLine_52 x1 x2 x3 M = some M1 → sm [(79, 81, none), (47, 47, some 27)] M M1 := by
  intro x1 x2 x3 M hf
  unfold fX11_addsLine_52 at hf
  obtain ⟨v56, e56⟩ : ∃ y : Int32, y = (M.1 47 27) := ⟨_, rfl⟩
  have hf := nx_at e56 hf
  exact sX11_addsLine_58 (fun hf => sX11_addsLine_131 hf) FU hf
theorem sX11_addsLine_0 {M1 : Mem} : ∀ {x1 : Int32} {x2 : Int32} {x3 : Int32} {M : Mem}, fX11_addsLine x1 x2 x3 M = some M1 → sm [(79, 81, none), (47, 47, some 27)] M M1 := by
  intro x1 x2 x3 M hf
  unfold fX11_addsLine at hf
  exact sX11_addsLine_3 (fun hf => sX11_addsLine_45 hf) (fun hf => sX11_addsLine_52 hf) FU hf
theorem ssX11_addsLine {x1 : Int32} {x2 : Int32} {x3 : Int32} {M : Mem} {M1 : Mem} (h : fX11_addsLine x1 x2 x3 M = some M1) : sm [(79, 81, none), (47, 47, some 27)] M M1 := sX11_addsLine_0 h
theorem sX11_addsMiddle_100 {M1 : Mem} {k51 : Int64 → Int64 → Int64 → Int32 → Mem → Option Mem} {k99 : Mem → Option Mem} {k106 : Int64 → Int64 → Int64 → Mem → Option Mem} (hk51 : ∀ {y9 : Int64} {y11 : Int64} {y13 : Int64} {x15 : Int32} {M : Mem}, k51 y9 y11 y13 x15 M = some M1 → sm [(82, 84, none), (47, 47, some 28)] M M1) (hk99 : ∀ {M : Mem}, k99 M = some M1 → sm [(82, 84, none), (47, 47, some 28)] M M1) (hk106 : ∀ {y9 : Int64} {y11 : Int64} {y13 : Int64} {M : Mem}, k106 y9 y11 y13 M = some M1 → sm [(82, 84, none), (47, 47, some 28)] M M1) : ∀ {y9 : Int64} {y11 : Int64} {y13 : Int64} {x15 : Int32} {M : Mem}, fX11_addsMiddle_100 k51 k99 k106 y9 y11 y13 x15 M = some M1 → sm [(82, 84, none), (47, 47, some 28)] M M1 := by
  intro y9 y11 y13 x15 M hf
  unfold fX11_addsMiddle_100 at hf
  obtain ⟨v100, e100⟩ : ∃ y : Int32, y = (x15 + (1 : Int32)) := ⟨_, rfl⟩
  have hf := nx_at e100 hf
  exact hk51 hf
theorem sX11_addsMiddle_51 {M1 : Mem} {k99 : Mem → Option Mem} {k106 : Int64 → Int64 → Int64 → Mem → Option Mem} (hk99 : ∀ {M : Mem}, k99 M = some M1 → sm [(82, 84, none), (47, 47, some 28)] M M1) (hk106 : ∀ {y9 : Int64} {y11 : Int64} {y13 : Int64} {M : Mem}, k106 y9 y11 y13 M = some M1 → sm [(82, 84, none), (47, 47, some 28)] M M1) : ∀ (n : Nat) {y9 : Int64} {y11 : Int64} {y13 : Int64} {x15 : Int32} {M : Mem}, fX11_addsMiddle_51 k99 k106 n y9 y11 y13 x15 M = some M1 → sm [(82, 84, none), (47, 47, some 28)] M M1 := by
  intro n
  induction n with
  | zero =>
    intro y9 y11 y13 x15 M hf
    exact absurd (show none = some _ from hf) (fun h => by cases h)
  | succ n ih =>
    intro y9 y11 y13 x15 M hf
    rw [fX11_addsMiddle_51] at hf
    by_cases q57 : (M.1 47 28) ≤ x15
    · have hf := (br_if hf).1 q57
      exact hk106 hf
    · have hf := (br_if hf).2 q57
      obtain ⟨g66, hf⟩ := br_g hf
      by_cases q70 : (lg_cmp (M.2 82 (ix x15)) y9) = 0
      · have hf := (br_if hf).1 q70
        obtain ⟨g79, hf⟩ := br_g hf
        by_cases q83 : (lg_cmp (M.2 83 (ix x15)) y11) = 0
        · have hf := (br_if hf).1 q83
          obtain ⟨g92, hf⟩ := br_g hf
          by_cases q96 : (lg_cmp (M.2 84 (ix x15)) y13) = 0
          · have hf := (br_if hf).1 q96
            exact hk99 hf
          · have hf := (br_if hf).2 q96
            exact sX11_addsMiddle_100 (fun hf => ih hf) (fun hf => hk99 hf) (fun hf => hk106 hf) hf
        · have hf := (br_if hf).2 q83
          exact sX11_addsMiddle_100 (fun hf => ih hf) (fun hf => hk99 hf) (fun hf => hk106 hf) hf
      · have hf := (br_if hf).2 q70
        exact sX11_addsMiddle_100 (fun hf => ih hf) (fun hf => hk99 hf) (fun hf => hk106 hf) hf
theorem sX11_addsMiddle_99 {M1 : Mem} : ∀ {M : Mem}, fX11_addsMiddle_99 M = some M1 → sm [(82, 84, none), (47, 47, some 28)] M M1 := by
  intro M hf
  unfold fX11_addsMiddle_99 at hf
  cases hf
  exact sm_rf
theorem sX11_addsMiddle_126 {M1 : Mem} {k202 : Int64 → Int64 → Int64 → Int32 → Mem → Option Mem} (hk202 : ∀ {y9 : Int64} {y11 : Int64} {y13 : Int64} {x15 : Int32} {M : Mem}, k202 y9 y11 y13 x15 M = some M1 → sm [(82, 84, none), (47, 47, some 28)] M M1) : ∀ (n : Nat) {y9 : Int64} {y11 : Int64} {y13 : Int64} {x15 : Int32} {M : Mem}, fX11_addsMiddle_126 k202 n y9 y11 y13 x15 M = some M1 → sm [(82, 84, none), (47, 47, some 28)] M M1 := by
  intro n
  induction n with
  | zero =>
    intro y9 y11 y13 x15 M hf
    exact absurd (show none = some _ from hf) (fun h => by cases h)
  | succ n ih =>
    intro y9 y11 y13 x15 M hf
    rw [fX11_addsMiddle_126] at hf
    by_cases q128 : x15 ≤ 0
    · have hf := (br_if hf).1 q128
      exact hk202 hf
    · have hf := (br_if hf).2 q128
      obtain ⟨q142, c142, hf⟩ := br_b hf
      by_cases q145 : q142 = 0
      · have hf := (br_if hf).1 q145
        exact hk202 hf
      · have hf := (br_if hf).2 q145
        obtain ⟨g162, hf⟩ := br_g hf
        obtain ⟨g163, hf⟩ := br_g hf
        obtain ⟨M163, e163⟩ : ∃ y : Mem, y = (sL M 82 (ix x15) (M.2 82 (ix (x15 - (1 : Int32))))) := ⟨_, rfl⟩
        have hf := nx_at e163 hf
        refine sm_L e163 (inS_up (L0 := [(82, 82, none)]) (by decide) (inS_n 82 _)) ?_
        obtain ⟨g178, hf⟩ := br_g hf
        obtain ⟨g179, hf⟩ := br_g hf
        obtain ⟨M179, e179⟩ : ∃ y : Mem, y = (sL M163 83 (ix x15) (M163.2 83 (ix (x15 - (1 : Int32))))) := ⟨_, rfl⟩
        have hf := nx_at e179 hf
        refine sm_L e179 (inS_up (L0 := [(83, 83, none)]) (by decide) (inS_n 83 _)) ?_
        obtain ⟨g194, hf⟩ := br_g hf
        obtain ⟨g195, hf⟩ := br_g hf
        obtain ⟨M195, e195⟩ : ∃ y : Mem, y = (sL M179 84 (ix x15) (M179.2 84 (ix (x15 - (1 : Int32))))) := ⟨_, rfl⟩
        have hf := nx_at e195 hf
        refine sm_L e195 (inS_up (L0 := [(84, 84, none)]) (by decide) (inS_n 84 _)) ?_
        obtain ⟨v196, e196⟩ : ∃ y : Int32, y = (x15 + (-1 : Int32)) := ⟨_, rfl⟩
        have hf := nx_at e196 hf
        exact ih hf
theorem sX11_addsMiddle_202 {M1 : Mem} : ∀ {y9 : Int64} {y11 : Int64} {y13 : Int64} {x15 : Int32} {M : Mem}, fX11_addsMiddle_202 y9 y11 y13 x15 M = some M1 → sm [(82, 84, none), (47, 47, some 28)] M M1 := by
  intro y9 y11 y13 x15 M hf
  unfold fX11_addsMiddle_202 at hf
  obtain ⟨g210, hf⟩ := br_g hf
  obtain ⟨M210, e210⟩ : ∃ y : Mem, y = (sL M 82 (ix x15) y9) := ⟨_, rfl⟩
  have hf := nx_at e210 hf
  refine sm_L e210 (inS_up (L0 := [(82, 82, none)]) (by decide) (inS_n 82 _)) ?_
  obtain ⟨g219, hf⟩ := br_g hf
  obtain ⟨M219, e219⟩ : ∃ y : Mem, y = (sL M210 83 (ix x15) y11) := ⟨_, rfl⟩
  have hf := nx_at e219 hf
  refine sm_L e219 (inS_up (L0 := [(83, 83, none)]) (by decide) (inS_n 83 _)) ?_
  obtain ⟨g228, hf⟩ := br_g hf
  obtain ⟨M228, e228⟩ : ∃ y : Mem, y = (sL M219 84 (ix x15) y13) := ⟨_, rfl⟩
  have hf := nx_at e228 hf
  refine sm_L e228 (inS_up (L0 := [(84, 84, none)]) (by decide) (inS_n 84 _)) ?_
  obtain ⟨M236, e236⟩ : ∃ y : Mem, y = (sI M228 47 28 ((M228.1 47 28) + (1 : Int32))) := ⟨_, rfl⟩
  have hf := nx_at e236 hf
  refine sm_I e236 (inS_up (L0 := [(47, 47, some 28)]) (by decide) (inS_s 47 28)) ?_
  cases hf
  exact sm_rf
theorem sX11_addsMiddle_106 {M1 : Mem} : ∀ {y9 : Int64} {y11 : Int64} {y13 : Int64} {M : Mem}, fX11_addsMiddle_106 y9 y11 y13 M = some M1 → sm [(82, 84, none), (47, 47, some 28)] M M1 := by
  intro y9 y11 y13 M hf
  unfold fX11_addsMiddle_106 at hf
  obtain ⟨q113, c113, hf⟩ := br_b hf
  by_cases q116 : q113 = 0
  · have hf := (br_if hf).1 q116
    cases hf
    exact sm_rf
  · have hf := (br_if hf).2 q116
    obtain ⟨v124, e124⟩ : ∃ y : Int32, y = (M.1 47 28) := ⟨_, rfl⟩
    have hf := nx_at e124 hf
    exact sX11_addsMiddle_126 (fun hf => sX11_addsMiddle_202 hf) FU hf
theorem sX11_addsMiddle_27 {M1 : Mem} : ∀ {y1 : Int64} {y3 : Int64} {y5 : Int64} {t0 : Int64} {M : Mem}, fX11_addsMiddle_27 y1 y3 y5 t0 M = some M1 → sm [(82, 84, none), (47, 47, some 28)] M M1 := by
  intro y1 y3 y5 t0 M hf
  unfold fX11_addsMiddle_27 at hf
  obtain ⟨g32, hf⟩ := br_g hf
  obtain ⟨v33, e33⟩ : ∃ y : Int64, y = (y1 / t0) := ⟨_, rfl⟩
  have hf := nx_at e33 hf
  obtain ⟨g38, hf⟩ := br_g hf
  obtain ⟨v39, e39⟩ : ∃ y : Int64, y = (y3 / t0) := ⟨_, rfl⟩
  have hf := nx_at e39 hf
  obtain ⟨g45, hf⟩ := br_g hf
  obtain ⟨v46, e46⟩ : ∃ y : Int64, y = (y5 / t0) := ⟨_, rfl⟩
  have hf := nx_at e46 hf
  exact sX11_addsMiddle_51 (fun hf => sX11_addsMiddle_99 hf) (fun hf => sX11_addsMiddle_106 hf) FU hf
theorem sX11_addsMiddle_0 {M1 : Mem} : ∀ {y1 : Int64} {y3 : Int64} {y5 : Int64} {M : Mem}, fX11_addsMiddle y1 y3 y5 M = some M1 → sm [(82, 84, none), (47, 47, some 28)] M M1 := by
  intro y1 y3 y5 M hf
  unfold fX11_addsMiddle at hf
  obtain ⟨q2, c2, hf⟩ := br_b hf
  obtain ⟨q7, c7, hf⟩ := br_b hf
  by_cases q16 : 0 ≤ (lg_cmp y5 (0 : Int64))
  · have hf := (br_if hf).1 q16
    exact sX11_addsMiddle_27 hf
  · have hf := (br_if hf).2 q16
    exact sX11_addsMiddle_27 hf
theorem ssX11_addsMiddle {y1 : Int64} {y3 : Int64} {y5 : Int64} {M : Mem} {M1 : Mem} (h : fX11_addsMiddle y1 y3 y5 M = some M1) : sm [(82, 84, none), (47, 47, some 28)] M M1 := sX11_addsMiddle_0 h
theorem sX11_asks_117 {M1 : Mem} {k18 : Int32 → Int32 → Int32 → Int32 → Mem → Option Mem} {k127 : Mem → Option Mem} (hk18 : ∀ {x1 : Int32} {x2 : Int32} {x3 : Int32} {x4 : Int32} {M : Mem}, k18 x1 x2 x3 x4 M = some M1 → sm [(47, 47, some 44), (47, 47, some 45), (47, 47, some 46)] M M1) (hk127 : ∀ {M : Mem}, k127 M = some M1 → sm [(47, 47, some 44), (47, 47, some 45), (47, 47, some 46)] M M1) : ∀ {x1 : Int32} {x2 : Int32} {x3 : Int32} {x4 : Int32} {s1 : Int32} {s2 : Int32} {M : Mem}, fX11_asks_117 k18 k127 x1 x2 x3 x4 s1 s2 M = some M1 → sm [(47, 47, some 44), (47, 47, some 45), (47, 47, some 46)] M M1 := by
  intro x1 x2 x3 x4 s1 s2 M hf
  unfold fX11_asks_117 at hf
  obtain ⟨M118, e118⟩ : ∃ y : Mem, y = (sI M 47 46 (s1 + s2)) := ⟨_, rfl⟩
  have hf := nx_at e118 hf
  refine sm_I e118 (inS_up (L0 := [(47, 47, some 46)]) (by decide) (inS_s 47 46)) ?_
  obtain ⟨v121, e121⟩ : ∃ y : Int32, y = (x4 + (1 : Int32)) := ⟨_, rfl⟩
  have hf := nx_at e121 hf
  exact hk18 hf
theorem sX11_asks_89 {M1 : Mem} {k18 : Int32 → Int32 → Int32 → Int32 → Mem → Option Mem} {k127 : Mem → Option Mem} (hk18 : ∀ {x1 : Int32} {x2 : Int32} {x3 : Int32} {x4 : Int32} {M : Mem}, k18 x1 x2 x3 x4 M = some M1 → sm [(47, 47, some 44), (47, 47, some 45), (47, 47, some 46)] M M1) (hk127 : ∀ {M : Mem}, k127 M = some M1 → sm [(47, 47, some 44), (47, 47, some 45), (47, 47, some 46)] M M1) : ∀ {x1 : Int32} {x2 : Int32} {x3 : Int32} {x4 : Int32} {x5 : Int32} {s1 : Int32} {s2 : Int32} {M : Mem}, fX11_asks_89 k18 k127 x1 x2 x3 x4 x5 s1 s2 M = some M1 → sm [(47, 47, some 44), (47, 47, some 45), (47, 47, some 46)] M M1 := by
  intro x1 x2 x3 x4 x5 s1 s2 M hf
  unfold fX11_asks_89 at hf
  obtain ⟨M90, e90⟩ : ∃ y : Mem, y = (sI M 47 45 (s1 + s2)) := ⟨_, rfl⟩
  have hf := nx_at e90 hf
  refine sm_I e90 (inS_up (L0 := [(47, 47, some 45)]) (by decide) (inS_s 47 45)) ?_
  by_cases q101 : x5 = (-1 : Int32)
  · have hf := (br_if hf).1 q101
    obtain ⟨g112, hf⟩ := br_g hf
    exact sX11_asks_117 (fun hf => hk18 hf) (fun hf => hk127 hf) hf
  · have hf := (br_if hf).2 q101
    exact sX11_asks_117 (fun hf => hk18 hf) (fun hf => hk127 hf) hf
theorem sX11_asks_61 {M1 : Mem} {k18 : Int32 → Int32 → Int32 → Int32 → Mem → Option Mem} {k127 : Mem → Option Mem} (hk18 : ∀ {x1 : Int32} {x2 : Int32} {x3 : Int32} {x4 : Int32} {M : Mem}, k18 x1 x2 x3 x4 M = some M1 → sm [(47, 47, some 44), (47, 47, some 45), (47, 47, some 46)] M M1) (hk127 : ∀ {M : Mem}, k127 M = some M1 → sm [(47, 47, some 44), (47, 47, some 45), (47, 47, some 46)] M M1) : ∀ {x1 : Int32} {x2 : Int32} {x3 : Int32} {x4 : Int32} {x5 : Int32} {s1 : Int32} {s2 : Int32} {M : Mem}, fX11_asks_61 k18 k127 x1 x2 x3 x4 x5 s1 s2 M = some M1 → sm [(47, 47, some 44), (47, 47, some 45), (47, 47, some 46)] M M1 := by
  intro x1 x2 x3 x4 x5 s1 s2 M hf
  unfold fX11_asks_61 at hf
  obtain ⟨M62, e62⟩ : ∃ y : Mem, y = (sI M 47 44 (s1 + s2)) := ⟨_, rfl⟩
  have hf := nx_at e62 hf
  refine sm_I e62 (inS_up (L0 := [(47, 47, some 44)]) (by decide) (inS_s 47 44)) ?_
  by_cases q73 : x5 = (1 : Int32)
  · have hf := (br_if hf).1 q73
    obtain ⟨g84, hf⟩ := br_g hf
    exact sX11_asks_89 (fun hf => hk18 hf) (fun hf => hk127 hf) hf
  · have hf := (br_if hf).2 q73
    exact sX11_asks_89 (fun hf => hk18 hf) (fun hf => hk127 hf) hf
theorem sX11_asks_18 {M1 : Mem} {k127 : Mem → Option Mem} (hk127 : ∀ {M : Mem}, k127 M = some M1 → sm [(47, 47, some 44), (47, 47, some 45), (47, 47, some 46)] M M1) : ∀ (n : Nat) {x1 : Int32} {x2 : Int32} {x3 : Int32} {x4 : Int32} {M : Mem}, fX11_asks_18 k127 n x1 x2 x3 x4 M = some M1 → sm [(47, 47, some 44), (47, 47, some 45), (47, 47, some 46)] M M1 := by
  intro n
  induction n with
  | zero =>
    intro x1 x2 x3 x4 M hf
    exact absurd (show none = some _ from hf) (fun h => by cases h)
  | succ n ih =>
    intro x1 x2 x3 x4 M hf
    rw [fX11_asks_18] at hf
    obtain ⟨q21, c21, hf⟩ := br_b hf
    by_cases q24 : q21 ≤ x4
    · have hf := (br_if hf).1 q24
      exact hk127 hf
    · have hf := (br_if hf).2 q24
      obtain ⟨q33, c33, hf⟩ := br_b hf
      by_cases q45 : q33 = 0
      · have hf := (br_if hf).1 q45
        obtain ⟨g56, hf⟩ := br_g hf
        exact sX11_asks_61 (fun hf => ih hf) (fun hf => hk127 hf) hf
      · have hf := (br_if hf).2 q45
        exact sX11_asks_61 (fun hf => ih hf) (fun hf => hk127 hf) hf
theorem sX11_asks_127 {M1 : Mem} : ∀ {M : Mem}, fX11_asks_127 M = some M1 → sm [(47, 47, some 44), (47, 47, some 45), (47, 47, some 46)] M M1 := by
  intro M hf
  unfold fX11_asks_127 at hf
  cases hf
  exact sm_rf
theorem sX11_asks_0 {M1 : Mem} : ∀ {x1 : Int32} {x2 : Int32} {x3 : Int32} {M : Mem}, fX11_asks x1 x2 x3 M = some M1 → sm [(47, 47, some 44), (47, 47, some 45), (47, 47, some 46)] M M1 := by
  intro x1 x2 x3 M hf
  unfold fX11_asks at hf
  obtain ⟨M2, e2⟩ : ∃ y : Mem, y = (sI M 47 44 (0 : Int32)) := ⟨_, rfl⟩
  have hf := nx_at e2 hf
  refine sm_I e2 (inS_up (L0 := [(47, 47, some 44)]) (by decide) (inS_s 47 44)) ?_
  obtain ⟨M7, e7⟩ : ∃ y : Mem, y = (sI M2 47 45 (0 : Int32)) := ⟨_, rfl⟩
  have hf := nx_at e7 hf
  refine sm_I e7 (inS_up (L0 := [(47, 47, some 45)]) (by decide) (inS_s 47 45)) ?_
  obtain ⟨M12, e12⟩ : ∃ y : Mem, y = (sI M7 47 46 (0 : Int32)) := ⟨_, rfl⟩
  have hf := nx_at e12 hf
  refine sm_I e12 (inS_up (L0 := [(47, 47, some 46)]) (by decide) (inS_s 47 46)) ?_
  exact sX11_asks_18 (fun hf => sX11_asks_127 hf) FU hf
theorem ssX11_asks {x1 : Int32} {x2 : Int32} {x3 : Int32} {M : Mem} {M1 : Mem} (h : fX11_asks x1 x2 x3 M = some M1) : sm [(47, 47, some 44), (47, 47, some 45), (47, 47, some 46)] M M1 := sX11_asks_0 h
theorem sX11_leads_23 {M1 : Mem} {k2 : Int32 → Int32 → Mem → Option Mem} {k30 : Mem → Option Mem} (hk2 : ∀ {x1 : Int32} {x2 : Int32} {M : Mem}, k2 x1 x2 M = some M1 → sm [(87, 87, none)] M M1) (hk30 : ∀ {M : Mem}, k30 M = some M1 → sm [(87, 87, none)] M M1) : ∀ {x1 : Int32} {x2 : Int32} {s1 : Int32} {s2 : Int32} {M : Mem}, fX11_leads_23 k2 k30 x1 x2 s1 s2 M = some M1 → sm [(87, 87, none)] M M1 := by
  intro x1 x2 s1 s2 M hf
  unfold fX11_leads_23 at hf
  obtain ⟨g23, hf⟩ := br_g hf
  obtain ⟨M23, e23⟩ : ∃ y : Mem, y = (sI M 87 (ix s1) s2) := ⟨_, rfl⟩
  have hf := nx_at e23 hf
  refine sm_I e23 (inS_up (L0 := [(87, 87, none)]) (by decide) (inS_n 87 _)) ?_
  obtain ⟨v24, e24⟩ : ∃ y : Int32, y = (x2 + (1 : Int32)) := ⟨_, rfl⟩
  have hf := nx_at e24 hf
  exact hk2 hf
theorem sX11_leads_2 {M1 : Mem} {k30 : Mem → Option Mem} (hk30 : ∀ {M : Mem}, k30 M = some M1 → sm [(87, 87, none)] M M1) : ∀ (n : Nat) {x1 : Int32} {x2 : Int32} {M : Mem}, fX11_leads_2 k30 n x1 x2 M = some M1 → sm [(87, 87, none)] M M1 := by
  intro n
  induction n with
  | zero =>
    intro x1 x2 M hf
    exact absurd (show none = some _ from hf) (fun h => by cases h)
  | succ n ih =>
    intro x1 x2 M hf
    rw [fX11_leads_2] at hf
    by_cases q5 : (20 : Int32) ≤ x2
    · have hf := (br_if hf).1 q5
      exact hk30 hf
    · have hf := (br_if hf).2 q5
      by_cases q15 : x2 = x1
      · have hf := (br_if hf).1 q15
        exact sX11_leads_23 (fun hf => ih hf) (fun hf => hk30 hf) hf
      · have hf := (br_if hf).2 q15
        exact sX11_leads_23 (fun hf => ih hf) (fun hf => hk30 hf) hf
theorem sX11_leads_105 {M1 : Mem} {k66 : Int32 → Int32 → Int32 → Mem → Option Mem} {k111 : Int32 → Int32 → Mem → Option Mem} (hk66 : ∀ {x2 : Int32} {x3 : Int32} {x4 : Int32} {M : Mem}, k66 x2 x3 x4 M = some M1 → sm [(87, 87, none)] M M1) (hk111 : ∀ {x2 : Int32} {x3 : Int32} {M : Mem}, k111 x2 x3 M = some M1 → sm [(87, 87, none)] M M1) : ∀ {x2 : Int32} {x3 : Int32} {x4 : Int32} {M : Mem}, fX11_leads_105 k66 k111 x2 x3 x4 M = some M1 → sm [(87, 87, none)] M M1 := by
  intro x2 x3 x4 M hf
  unfold fX11_leads_105 at hf
  obtain ⟨v105, e105⟩ : ∃ y : Int32, y = (x4 + (1 : Int32)) := ⟨_, rfl⟩
  have hf := nx_at e105 hf
  exact hk66 hf
theorem sX11_leads_66 {M1 : Mem} {k111 : Int32 → Int32 → Mem → Option Mem} (hk111 : ∀ {x2 : Int32} {x3 : Int32} {M : Mem}, k111 x2 x3 M = some M1 → sm [(87, 87, none)] M M1) : ∀ (n : Nat) {x2 : Int32} {x3 : Int32} {x4 : Int32} {M : Mem}, fX11_leads_66 k111 n x2 x3 x4 M = some M1 → sm [(87, 87, none)] M M1 := by
  intro n
  induction n with
  | zero =>
    intro x2 x3 x4 M hf
    exact absurd (show none = some _ from hf) (fun h => by cases h)
  | succ n ih =>
    intro x2 x3 x4 M hf
    rw [fX11_leads_66] at hf
    obtain ⟨q69, c69, hf⟩ := br_b hf
    by_cases q72 : q69 ≤ x4
    · have hf := (br_if hf).1 q72
      exact hk111 hf
    · have hf := (br_if hf).2 q72
      obtain ⟨g81, hf⟩ := br_g hf
      by_cases q83 : (M.1 87 (ix x4)) = x2
      · have hf := (br_if hf).1 q83
        obtain ⟨q90, c90, hf⟩ := br_b hf
        by_cases q93 : q90 = 0
        · have hf := (br_if hf).1 q93
          exact sX11_leads_105 (fun hf => ih hf) (fun hf => hk111 hf) hf
        · have hf := (br_if hf).2 q93
          obtain ⟨g104, hf⟩ := br_g hf
          obtain ⟨M104, e104⟩ : ∃ y : Mem, y = (sI M 87 (ix x3) (x2 + (1 : Int32))) := ⟨_, rfl⟩
          have hf := nx_at e104 hf
          refine sm_I e104 (inS_up (L0 := [(87, 87, none)]) (by decide) (inS_n 87 _)) ?_
          exact sX11_leads_105 (fun hf => ih hf) (fun hf => hk111 hf) hf
      · have hf := (br_if hf).2 q83
        exact sX11_leads_105 (fun hf => ih hf) (fun hf => hk111 hf) hf
theorem sX11_leads_111 {M1 : Mem} {k42 : Int32 → Int32 → Mem → Option Mem} {k117 : Int32 → Mem → Option Mem} (hk42 : ∀ {x2 : Int32} {x3 : Int32} {M : Mem}, k42 x2 x3 M = some M1 → sm [(87, 87, none)] M M1) (hk117 : ∀ {x2 : Int32} {M : Mem}, k117 x2 M = some M1 → sm [(87, 87, none)] M M1) : ∀ {x2 : Int32} {x3 : Int32} {M : Mem}, fX11_leads_111 k42 k117 x2 x3 M = some M1 → sm [(87, 87, none)] M M1 := by
  intro x2 x3 M hf
  unfold fX11_leads_111 at hf
  obtain ⟨v111, e111⟩ : ∃ y : Int32, y = (x3 + (1 : Int32)) := ⟨_, rfl⟩
  have hf := nx_at e111 hf
  exact hk42 hf
theorem sX11_leads_42 {M1 : Mem} {k117 : Int32 → Mem → Option Mem} (hk117 : ∀ {x2 : Int32} {M : Mem}, k117 x2 M = some M1 → sm [(87, 87, none)] M M1) : ∀ (n : Nat) {x2 : Int32} {x3 : Int32} {M : Mem}, fX11_leads_42 k117 n x2 x3 M = some M1 → sm [(87, 87, none)] M M1 := by
  intro n
  induction n with
  | zero =>
    intro x2 x3 M hf
    exact absurd (show none = some _ from hf) (fun h => by cases h)
  | succ n ih =>
    intro x2 x3 M hf
    rw [fX11_leads_42] at hf
    obtain ⟨q44, c44, hf⟩ := br_b hf
    by_cases q47 : q44 ≤ x3
    · have hf := (br_if hf).1 q47
      exact hk117 hf
    · have hf := (br_if hf).2 q47
      obtain ⟨g55, hf⟩ := br_g hf
      by_cases q57 : (M.1 87 (ix x3)) = (-1 : Int32)
      · have hf := (br_if hf).1 q57
        exact sX11_leads_66 (fun hf => sX11_leads_111 (fun hf => ih hf) (fun hf => hk117 hf) hf) FU hf
      · have hf := (br_if hf).2 q57
        exact sX11_leads_111 (fun hf => ih hf) (fun hf => hk117 hf) hf
theorem sX11_leads_117 {M1 : Mem} {k32 : Int32 → Mem → Option Mem} {k123 : Mem → Option Mem} (hk32 : ∀ {x2 : Int32} {M : Mem}, k32 x2 M = some M1 → sm [(87, 87, none)] M M1) (hk123 : ∀ {M : Mem}, k123 M = some M1 → sm [(87, 87, none)] M M1) : ∀ {x2 : Int32} {M : Mem}, fX11_leads_117 k32 k123 x2 M = some M1 → sm [(87, 87, none)] M M1 := by
  intro x2 M hf
  unfold fX11_leads_117 at hf
  obtain ⟨v117, e117⟩ : ∃ y : Int32, y = (x2 + (1 : Int32)) := ⟨_, rfl⟩
  have hf := nx_at e117 hf
  exact hk32 hf
theorem sX11_leads_32 {M1 : Mem} {k123 : Mem → Option Mem} (hk123 : ∀ {M : Mem}, k123 M = some M1 → sm [(87, 87, none)] M M1) : ∀ (n : Nat) {x2 : Int32} {M : Mem}, fX11_leads_32 k123 n x2 M = some M1 → sm [(87, 87, none)] M M1 := by
  intro n
  induction n with
  | zero =>
    intro x2 M hf
    exact absurd (show none = some _ from hf) (fun h => by cases h)
  | succ n ih =>
    intro x2 M hf
    rw [fX11_leads_32] at hf
    obtain ⟨q34, c34, hf⟩ := br_b hf
    by_cases q37 : q34 ≤ x2
    · have hf := (br_if hf).1 q37
      exact hk123 hf
    · have hf := (br_if hf).2 q37
      exact sX11_leads_42 (fun hf => sX11_leads_117 (fun hf => ih hf) (fun hf => hk123 hf) hf) FU hf
theorem sX11_leads_123 {M1 : Mem} : ∀ {M : Mem}, fX11_leads_123 M = some M1 → sm [(87, 87, none)] M M1 := by
  intro M hf
  unfold fX11_leads_123 at hf
  cases hf
  exact sm_rf
theorem sX11_leads_30 {M1 : Mem} : ∀ {M : Mem}, fX11_leads_30 M = some M1 → sm [(87, 87, none)] M M1 := by
  intro M hf
  unfold fX11_leads_30 at hf
  exact sX11_leads_32 (fun hf => sX11_leads_123 hf) FU hf
theorem sX11_leads_0 {M1 : Mem} : ∀ {x1 : Int32} {M : Mem}, fX11_leads x1 M = some M1 → sm [(87, 87, none)] M M1 := by
  intro x1 M hf
  unfold fX11_leads at hf
  exact sX11_leads_2 (fun hf => sX11_leads_30 hf) FU hf
theorem ssX11_leads {x1 : Int32} {M : Mem} {M1 : Mem} (h : fX11_leads x1 M = some M1) : sm [(87, 87, none)] M M1 := sX11_leads_0 h
theorem sX11_isReached_7 {r : Int32} {M1 : Mem} {k25 : Mem → Option (Int32 × Mem)} {k33 : Mem → Option (Int32 × Mem)} (hk25 : ∀ {M : Mem}, k25 M = some (r, M1) → sm [(87, 87, none)] M M1) (hk33 : ∀ {M : Mem}, k33 M = some (r, M1) → sm [(87, 87, none)] M M1) : ∀ (n : Nat) {x2 : Int32} {M : Mem}, fX11_isReached_7 k25 k33 n x2 M = some (r, M1) → sm [(87, 87, none)] M M1 := by
  intro n
  induction n with
  | zero =>
    intro x2 M hf
    exact absurd (show none = some _ from hf) (fun h => by cases h)
  | succ n ih =>
    intro x2 M hf
    rw [fX11_isReached_7] at hf
    obtain ⟨q9, c9, hf⟩ := br_b hf
    by_cases q12 : q9 ≤ x2
    · have hf := (br_if hf).1 q12
      exact hk33 hf
    · have hf := (br_if hf).2 q12
      obtain ⟨g20, hf⟩ := br_g hf
      by_cases q22 : (M.1 87 (ix x2)) = (-1 : Int32)
      · have hf := (br_if hf).1 q22
        exact hk25 hf
      · have hf := (br_if hf).2 q22
        obtain ⟨v27, e27⟩ : ∃ y : Int32, y = (x2 + (1 : Int32)) := ⟨_, rfl⟩
        have hf := nx_at e27 hf
        exact ih hf
theorem sX11_isReached_25 {r : Int32} {M1 : Mem} : ∀ {M : Mem}, fX11_isReached_25 M = some (r, M1) → sm [(87, 87, none)] M M1 := by
  intro M hf
  unfold fX11_isReached_25 at hf
  cases hf
  exact sm_rf
theorem sX11_isReached_33 {r : Int32} {M1 : Mem} : ∀ {M : Mem}, fX11_isReached_33 M = some (r, M1) → sm [(87, 87, none)] M M1 := by
  intro M hf
  unfold fX11_isReached_33 at hf
  cases hf
  exact sm_rf
theorem sX11_isReached_0 {r : Int32} {M1 : Mem} : ∀ {x1 : Int32} {M : Mem}, fX11_isReached x1 M = some (r, M1) → sm [(87, 87, none)] M M1 := by
  intro x1 M hf
  unfold fX11_isReached at hf
  obtain ⟨q2, c2, hf⟩ := br_b hf
  refine sm_tr (ssX11_leads c2) (by decide) ?_
  exact sX11_isReached_7 (fun hf => sX11_isReached_25 hf) (fun hf => sX11_isReached_33 hf) FU hf
theorem ssX11_isReached {x1 : Int32} {M : Mem} {r : Int32} {M1 : Mem} (h : fX11_isReached x1 M = some (r, M1)) : sm [(87, 87, none)] M M1 := sX11_isReached_0 h
theorem sX11_best_17 {r : Int32} {M1 : Mem} : ∀ {M : Mem}, fX11_best_17 M = some (r, M1) → sm [(87, 87, none)] M M1 := by
  intro M hf
  unfold fX11_best_17 at hf
  cases hf
  exact sm_rf
theorem sX11_best_62 {r : Int32} {M1 : Mem} {k23 : Int32 → Int32 → Int32 → Mem → Option (Int32 × Mem)} {k70 : Int32 → Mem → Option (Int32 × Mem)} (hk23 : ∀ {x1 : Int32} {x2 : Int32} {x3 : Int32} {M : Mem}, k23 x1 x2 x3 M = some (r, M1) → sm [(87, 87, none)] M M1) (hk70 : ∀ {x2 : Int32} {M : Mem}, k70 x2 M = some (r, M1) → sm [(87, 87, none)] M M1) : ∀ {x1 : Int32} {x3 : Int32} {s0 : Int32} {s1 : Int32} {M : Mem}, fX11_best_62 k23 k70 x1 x3 s0 s1 M = some (r, M1) → sm [(87, 87, none)] M M1 := by
  intro x1 x3 s0 s1 M hf
  unfold fX11_best_62 at hf
  obtain ⟨v63, e63⟩ : ∃ y : Int32, y = (s0 ||| s1) := ⟨_, rfl⟩
  have hf := nx_at e63 hf
  obtain ⟨v64, e64⟩ : ∃ y : Int32, y = (x3 + (1 : Int32)) := ⟨_, rfl⟩
  have hf := nx_at e64 hf
  exact hk23 hf
theorem sX11_best_55 {r : Int32} {M1 : Mem} {k23 : Int32 → Int32 → Int32 → Mem → Option (Int32 × Mem)} {k70 : Int32 → Mem → Option (Int32 × Mem)} (hk23 : ∀ {x1 : Int32} {x2 : Int32} {x3 : Int32} {M : Mem}, k23 x1 x2 x3 M = some (r, M1) → sm [(87, 87, none)] M M1) (hk70 : ∀ {x2 : Int32} {M : Mem}, k70 x2 M = some (r, M1) → sm [(87, 87, none)] M M1) : ∀ {x1 : Int32} {x3 : Int32} {s0 : Int32} {M : Mem}, fX11_best_55 k23 k70 x1 x3 s0 M = some (r, M1) → sm [(87, 87, none)] M M1 := by
  intro x1 x3 s0 M hf
  unfold fX11_best_55 at hf
  exact sX11_best_62 (fun hf => hk23 hf) (fun hf => hk70 hf) hf
theorem sX11_best_61 {r : Int32} {M1 : Mem} {k23 : Int32 → Int32 → Int32 → Mem → Option (Int32 × Mem)} {k70 : Int32 → Mem → Option (Int32 × Mem)} (hk23 : ∀ {x1 : Int32} {x2 : Int32} {x3 : Int32} {M : Mem}, k23 x1 x2 x3 M = some (r, M1) → sm [(87, 87, none)] M M1) (hk70 : ∀ {x2 : Int32} {M : Mem}, k70 x2 M = some (r, M1) → sm [(87, 87, none)] M M1) : ∀ {x1 : Int32} {x3 : Int32} {s0 : Int32} {M : Mem}, fX11_best_61 k23 k70 x1 x3 s0 M = some (r, M1) → sm [(87, 87, none)] M M1 := by
  intro x1 x3 s0 M hf
  unfold fX11_best_61 at hf
  exact sX11_best_62 (fun hf => hk23 hf) (fun hf => hk70 hf) hf
theorem sX11_best_23 {r : Int32} {M1 : Mem} {k70 : Int32 → Mem → Option (Int32 × Mem)} (hk70 : ∀ {x2 : Int32} {M : Mem}, k70 x2 M = some (r, M1) → sm [(87, 87, none)] M M1) : ∀ (n : Nat) {x1 : Int32} {x2 : Int32} {x3 : Int32} {M : Mem}, fX11_best_23 k70 n x1 x2 x3 M = some (r, M1) → sm [(87, 87, none)] M M1 := by
  intro n
  induction n with
  | zero =>
    intro x1 x2 x3 M hf
    exact absurd (show none = some _ from hf) (fun h => by cases h)
  | succ n ih =>
    intro x1 x2 x3 M hf
    rw [fX11_best_23] at hf
    obtain ⟨q25, c25, hf⟩ := br_b hf
    by_cases q28 : q25 ≤ x3
    · have hf := (br_if hf).1 q28
      exact hk70 hf
    · have hf := (br_if hf).2 q28
      by_cases q33 : x1 = 0
      · have hf := (br_if hf).1 q33
        obtain ⟨q38, c38, hf⟩ := br_b hf
        refine sm_tr (ssX11_isReached c38) (by decide) ?_
        by_cases q41 : q38.1 = 0
        · have hf := (br_if hf).1 q41
          exact sX11_best_61 (fun hf => ih hf) (fun hf => hk70 hf) hf
        · have hf := (br_if hf).2 q41
          exact sX11_best_55 (fun hf => ih hf) (fun hf => hk70 hf) hf
      · have hf := (br_if hf).2 q33
        obtain ⟨q49, c49, hf⟩ := br_b hf
        by_cases q52 : q49 = 0
        · have hf := (br_if hf).1 q52
          exact sX11_best_61 (fun hf => ih hf) (fun hf => hk70 hf) hf
        · have hf := (br_if hf).2 q52
          exact sX11_best_55 (fun hf => ih hf) (fun hf => hk70 hf) hf
theorem sX11_best_70 {r : Int32} {M1 : Mem} : ∀ {x2 : Int32} {M : Mem}, fX11_best_70 x2 M = some (r, M1) → sm [(87, 87, none)] M M1 := by
  intro x2 M hf
  unfold fX11_best_70 at hf
  cases hf
  exact sm_rf
theorem sX11_best_0 {r : Int32} {M1 : Mem} : ∀ {x1 : Int32} {M : Mem}, fX11_best x1 M = some (r, M1) → sm [(87, 87, none)] M M1 := by
  intro x1 M hf
  unfold fX11_best at hf
  obtain ⟨q1, c1, hf⟩ := br_b hf
  by_cases q4 : q1 = 0
  · have hf := (br_if hf).1 q4
    exact sX11_best_17 hf
  · have hf := (br_if hf).2 q4
    obtain ⟨q11, c11, hf⟩ := br_b hf
    by_cases q14 : q11 = 0
    · have hf := (br_if hf).1 q14
      exact sX11_best_17 hf
    · have hf := (br_if hf).2 q14
      exact sX11_best_23 (fun hf => sX11_best_70 hf) FU hf
theorem ssX11_best {x1 : Int32} {M : Mem} {r : Int32} {M1 : Mem} (h : fX11_best x1 M = some (r, M1)) : sm [(87, 87, none)] M M1 := sX11_best_0 h
theorem sX11_doubt_20 {r : Int32} {M1 : Mem} : ∀ {M : Mem}, fX11_doubt_20 M = some (r, M1) → sm [(47, 47, some 44), (47, 47, some 45), (47, 47, some 46)] M M1 := by
  intro M hf
  unfold fX11_doubt_20 at hf
  cases hf
  exact sm_rf
theorem sX11_doubt_105 {r : Int32} {M1 : Mem} {k27 : Int32 → Int32 → Int32 → Int32 → Mem → Option (Int32 × Mem)} {k73 : Mem → Option (Int32 × Mem)} {k111 : Int32 → Mem → Option (Int32 × Mem)} (hk27 : ∀ {x1 : Int32} {x2 : Int32} {x3 : Int32} {x4 : Int32} {M : Mem}, k27 x1 x2 x3 x4 M = some (r, M1) → sm [(47, 47, some 44), (47, 47, some 45), (47, 47, some 46)] M M1) (hk73 : ∀ {M : Mem}, k73 M = some (r, M1) → sm [(47, 47, some 44), (47, 47, some 45), (47, 47, some 46)] M M1) (hk111 : ∀ {x3 : Int32} {M : Mem}, k111 x3 M = some (r, M1) → sm [(47, 47, some 44), (47, 47, some 45), (47, 47, some 46)] M M1) : ∀ {x1 : Int32} {x2 : Int32} {x3 : Int32} {x4 : Int32} {M : Mem}, fX11_doubt_105 k27 k73 k111 x1 x2 x3 x4 M = some (r, M1) → sm [(47, 47, some 44), (47, 47, some 45), (47, 47, some 46)] M M1 := by
  intro x1 x2 x3 x4 M hf
  unfold fX11_doubt_105 at hf
  obtain ⟨v105, e105⟩ : ∃ y : Int32, y = (x4 + (1 : Int32)) := ⟨_, rfl⟩
  have hf := nx_at e105 hf
  exact hk27 hf
theorem sX11_doubt_104 {r : Int32} {M1 : Mem} {k27 : Int32 → Int32 → Int32 → Int32 → Mem → Option (Int32 × Mem)} {k73 : Mem → Option (Int32 × Mem)} {k111 : Int32 → Mem → Option (Int32 × Mem)} (hk27 : ∀ {x1 : Int32} {x2 : Int32} {x3 : Int32} {x4 : Int32} {M : Mem}, k27 x1 x2 x3 x4 M = some (r, M1) → sm [(47, 47, some 44), (47, 47, some 45), (47, 47, some 46)] M M1) (hk73 : ∀ {M : Mem}, k73 M = some (r, M1) → sm [(47, 47, some 44), (47, 47, some 45), (47, 47, some 46)] M M1) (hk111 : ∀ {x3 : Int32} {M : Mem}, k111 x3 M = some (r, M1) → sm [(47, 47, some 44), (47, 47, some 45), (47, 47, some 46)] M M1) : ∀ {x1 : Int32} {x2 : Int32} {x4 : Int32} {s0 : Int32} {M : Mem}, fX11_doubt_104 k27 k73 k111 x1 x2 x4 s0 M = some (r, M1) → sm [(47, 47, some 44), (47, 47, some 45), (47, 47, some 46)] M M1 := by
  intro x1 x2 x4 s0 M hf
  unfold fX11_doubt_104 at hf
  exact sX11_doubt_105 (fun hf => hk27 hf) (fun hf => hk73 hf) (fun hf => hk111 hf) hf
theorem sX11_doubt_99 {r : Int32} {M1 : Mem} {k27 : Int32 → Int32 → Int32 → Int32 → Mem → Option (Int32 × Mem)} {k73 : Mem → Option (Int32 × Mem)} {k111 : Int32 → Mem → Option (Int32 × Mem)} (hk27 : ∀ {x1 : Int32} {x2 : Int32} {x3 : Int32} {x4 : Int32} {M : Mem}, k27 x1 x2 x3 x4 M = some (r, M1) → sm [(47, 47, some 44), (47, 47, some 45), (47, 47, some 46)] M M1) (hk73 : ∀ {M : Mem}, k73 M = some (r, M1) → sm [(47, 47, some 44), (47, 47, some 45), (47, 47, some 46)] M M1) (hk111 : ∀ {x3 : Int32} {M : Mem}, k111 x3 M = some (r, M1) → sm [(47, 47, some 44), (47, 47, some 45), (47, 47, some 46)] M M1) : ∀ {x1 : Int32} {x2 : Int32} {x4 : Int32} {M : Mem}, fX11_doubt_99 k27 k73 k111 x1 x2 x4 M = some (r, M1) → sm [(47, 47, some 44), (47, 47, some 45), (47, 47, some 46)] M M1 := by
  intro x1 x2 x4 M hf
  unfold fX11_doubt_99 at hf
  exact sX11_doubt_104 (fun hf => hk27 hf) (fun hf => hk73 hf) (fun hf => hk111 hf) hf
theorem sX11_doubt_27 {r : Int32} {M1 : Mem} {k73 : Mem → Option (Int32 × Mem)} {k111 : Int32 → Mem → Option (Int32 × Mem)} (hk73 : ∀ {M : Mem}, k73 M = some (r, M1) → sm [(47, 47, some 44), (47, 47, some 45), (47, 47, some 46)] M M1) (hk111 : ∀ {x3 : Int32} {M : Mem}, k111 x3 M = some (r, M1) → sm [(47, 47, some 44), (47, 47, some 45), (47, 47, some 46)] M M1) : ∀ (n : Nat) {x1 : Int32} {x2 : Int32} {x3 : Int32} {x4 : Int32} {M : Mem}, fX11_doubt_27 k73 k111 n x1 x2 x3 x4 M = some (r, M1) → sm [(47, 47, some 44), (47, 47, some 45), (47, 47, some 46)] M M1 := by
  intro n
  induction n with
  | zero =>
    intro x1 x2 x3 x4 M hf
    exact absurd (show none = some _ from hf) (fun h => by cases h)
  | succ n ih =>
    intro x1 x2 x3 x4 M hf
    rw [fX11_doubt_27] at hf
    obtain ⟨q30, c30, hf⟩ := br_b hf
    by_cases q33 : q30 ≤ x4
    · have hf := (br_if hf).1 q33
      exact hk111 hf
    · have hf := (br_if hf).2 q33
      by_cases q39 : x4 = x1
      · have hf := (br_if hf).1 q39
        exact sX11_doubt_105 (fun hf => ih hf) (fun hf => hk73 hf) (fun hf => hk111 hf) hf
      · have hf := (br_if hf).2 q39
        obtain ⟨q50, c50, hf⟩ := br_b hf
        refine sm_tr (ssX11_asks c50) (by decide) ?_
        obtain ⟨q67, c67, hf⟩ := br_b hf
        by_cases q70 : q67 = 0
        · have hf := (br_if hf).1 q70
          by_cases q76 : x3 = 0
          · have hf := (br_if hf).1 q76
            obtain ⟨q93, c93, hf⟩ := br_b hf
            by_cases q96 : q93 = 0
            · have hf := (br_if hf).1 q96
              exact sX11_doubt_104 (fun hf => ih hf) (fun hf => hk73 hf) (fun hf => hk111 hf) hf
            · have hf := (br_if hf).2 q96
              exact sX11_doubt_99 (fun hf => ih hf) (fun hf => hk73 hf) (fun hf => hk111 hf) hf
          · have hf := (br_if hf).2 q76
            exact sX11_doubt_99 (fun hf => ih hf) (fun hf => hk73 hf) (fun hf => hk111 hf) hf
        · have hf := (br_if hf).2 q70
          exact hk73 hf
theorem sX11_doubt_73 {r : Int32} {M1 : Mem} : ∀ {M : Mem}, fX11_doubt_73 M = some (r, M1) → sm [(47, 47, some 44), (47, 47, some 45), (47, 47, some 46)] M M1 := by
  intro M hf
  unfold fX11_doubt_73 at hf
  cases hf
  exact sm_rf
theorem sX11_doubt_120 {r : Int32} {M1 : Mem} : ∀ {s0 : Int32} {M : Mem}, fX11_doubt_120 s0 M = some (r, M1) → sm [(47, 47, some 44), (47, 47, some 45), (47, 47, some 46)] M M1 := by
  intro s0 M hf
  unfold fX11_doubt_120 at hf
  cases hf
  exact sm_rf
theorem sX11_doubt_111 {r : Int32} {M1 : Mem} : ∀ {x3 : Int32} {M : Mem}, fX11_doubt_111 x3 M = some (r, M1) → sm [(47, 47, some 44), (47, 47, some 45), (47, 47, some 46)] M M1 := by
  intro x3 M hf
  unfold fX11_doubt_111 at hf
  by_cases q112 : x3 = 0
  · have hf := (br_if hf).1 q112
    exact sX11_doubt_120 hf
  · have hf := (br_if hf).2 q112
    exact sX11_doubt_120 hf
theorem sX11_doubt_0 {r : Int32} {M1 : Mem} : ∀ {x1 : Int32} {x2 : Int32} {M : Mem}, fX11_doubt x1 x2 M = some (r, M1) → sm [(47, 47, some 44), (47, 47, some 45), (47, 47, some 46)] M M1 := by
  intro x1 x2 M hf
  unfold fX11_doubt at hf
  obtain ⟨q2, c2, hf⟩ := br_b hf
  by_cases q5 : q2 = 0
  · have hf := (br_if hf).1 q5
    exact sX11_doubt_20 hf
  · have hf := (br_if hf).2 q5
    obtain ⟨q14, c14, hf⟩ := br_b hf
    by_cases q17 : q14 = 0
    · have hf := (br_if hf).1 q17
      exact sX11_doubt_20 hf
    · have hf := (br_if hf).2 q17
      exact sX11_doubt_27 (fun hf => sX11_doubt_73 hf) (fun hf => sX11_doubt_111 hf) FU hf
theorem ssX11_doubt {x1 : Int32} {x2 : Int32} {M : Mem} {r : Int32} {M1 : Mem} (h : fX11_doubt x1 x2 M = some (r, M1)) : sm [(47, 47, some 44), (47, 47, some 45), (47, 47, some 46)] M M1 := sX11_doubt_0 h
theorem sX11_end_0 {r : Int32} {M1 : Mem} : ∀ {x1 : Int32} {M : Mem}, fX11_end x1 M = some (r, M1) → sm [(47, 47, some 1)] M M1 := by
  intro x1 M hf
  unfold fX11_end at hf
  obtain ⟨q8, c8, hf⟩ := br_b hf
  by_cases q11 : q8 = 0
  · have hf := (br_if hf).1 q11
    cases hf
    exact sm_rf
  · have hf := (br_if hf).2 q11
    obtain ⟨M18, e18⟩ : ∃ y : Mem, y = (sI M 47 1 x1) := ⟨_, rfl⟩
    have hf := nx_at e18 hf
    refine sm_I e18 (inS_up (L0 := [(47, 47, some 1)]) (by decide) (inS_s 47 1)) ?_
    cases hf
    exact sm_rf
theorem ssX11_end {x1 : Int32} {M : Mem} {r : Int32} {M1 : Mem} (h : fX11_end x1 M = some (r, M1)) : sm [(47, 47, some 1)] M M1 := sX11_end_0 h
theorem sX11_far_123 {M1 : Mem} {k12 : Int32 → Int32 → Int32 → Mem → Option Mem} {k129 : Mem → Option Mem} (hk12 : ∀ {x1 : Int32} {x2 : Int32} {x3 : Int32} {M : Mem}, k12 x1 x2 x3 M = some M1 → sm [(47, 47, some 33), (47, 47, some 34)] M M1) (hk129 : ∀ {M : Mem}, k129 M = some M1 → sm [(47, 47, some 33), (47, 47, some 34)] M M1) : ∀ {x1 : Int32} {x2 : Int32} {x3 : Int32} {M : Mem}, fX11_far_123 k12 k129 x1 x2 x3 M = some M1 → sm [(47, 47, some 33), (47, 47, some 34)] M M1 := by
  intro x1 x2 x3 M hf
  unfold fX11_far_123 at hf
  obtain ⟨v123, e123⟩ : ∃ y : Int32, y = (x3 + (1 : Int32)) := ⟨_, rfl⟩
  have hf := nx_at e123 hf
  exact hk12 hf
theorem sX11_far_12 {M1 : Mem} {k129 : Mem → Option Mem} (hk129 : ∀ {M : Mem}, k129 M = some M1 → sm [(47, 47, some 33), (47, 47, some 34)] M M1) : ∀ (n : Nat) {x1 : Int32} {x2 : Int32} {x3 : Int32} {M : Mem}, fX11_far_12 k129 n x1 x2 x3 M = some M1 → sm [(47, 47, some 33), (47, 47, some 34)] M M1 := by
  intro n
  induction n with
  | zero =>
    intro x1 x2 x3 M hf
    exact absurd (show none = some _ from hf) (fun h => by cases h)
  | succ n ih =>
    intro x1 x2 x3 M hf
    rw [fX11_far_12] at hf
    by_cases q17 : (M.1 47 27) ≤ x3
    · have hf := (br_if hf).1 q17
      exact hk129 hf
    · have hf := (br_if hf).2 q17
      obtain ⟨g25, hf⟩ := br_g hf
      obtain ⟨g35, hf⟩ := br_g hf
      obtain ⟨g46, hf⟩ := br_g hf
      obtain ⟨v49, e49⟩ : ∃ y : Int64, y = ((((M.1 79 (ix x3)).toInt64 * x1.toInt64) + ((M.1 80 (ix x3)).toInt64 * x2.toInt64)) - (M.1 81 (ix x3)).toInt64) := ⟨_, rfl⟩
      have hf := nx_at e49 hf
      obtain ⟨g56, hf⟩ := br_g hf
      obtain ⟨g63, hf⟩ := br_g hf
      obtain ⟨g71, hf⟩ := br_g hf
      obtain ⟨g78, hf⟩ := br_g hf
      obtain ⟨v82, e82⟩ : ∃ y : Int64, y = (((M.1 79 (ix x3)).toInt64 * (M.1 79 (ix x3)).toInt64) + ((M.1 80 (ix x3)).toInt64 * (M.1 80 (ix x3)).toInt64)) := ⟨_, rfl⟩
      have hf := nx_at e82 hf
      by_cases q102 : 0 < (lg_cmp ((v49 * v49) * (M.2 47 34)) ((M.2 47 33) * v82))
      · have hf := (br_if hf).1 q102
        obtain ⟨M114, e114⟩ : ∃ y : Mem, y = (sL M 47 33 (v49 * v49)) := ⟨_, rfl⟩
        have hf := nx_at e114 hf
        refine sm_L e114 (inS_up (L0 := [(47, 47, some 33)]) (by decide) (inS_s 47 33)) ?_
        obtain ⟨M120, e120⟩ : ∃ y : Mem, y = (sL M114 47 34 v82) := ⟨_, rfl⟩
        have hf := nx_at e120 hf
        refine sm_L e120 (inS_up (L0 := [(47, 47, some 34)]) (by decide) (inS_s 47 34)) ?_
        exact sX11_far_123 (fun hf => ih hf) (fun hf => hk129 hf) hf
      · have hf := (br_if hf).2 q102
        exact sX11_far_123 (fun hf => ih hf) (fun hf => hk129 hf) hf
theorem sX11_far_129 {M1 : Mem} : ∀ {M : Mem}, fX11_far_129 M = some M1 → sm [(47, 47, some 33), (47, 47, some 34)] M M1 := by
  intro M hf
  unfold fX11_far_129 at hf
  cases hf
  exact sm_rf
theorem sX11_far_0 {M1 : Mem} : ∀ {x1 : Int32} {x2 : Int32} {M : Mem}, fX11_far x1 x2 M = some M1 → sm [(47, 47, some 33), (47, 47, some 34)] M M1 := by
  intro x1 x2 M hf
  unfold fX11_far at hf
  obtain ⟨M2, e2⟩ : ∃ y : Mem, y = (sL M 47 33 (0 : Int64)) := ⟨_, rfl⟩
  have hf := nx_at e2 hf
  refine sm_L e2 (inS_up (L0 := [(47, 47, some 33)]) (by decide) (inS_s 47 33)) ?_
  obtain ⟨M7, e7⟩ : ∃ y : Mem, y = (sL M2 47 34 (1 : Int64)) := ⟨_, rfl⟩
  have hf := nx_at e7 hf
  refine sm_L e7 (inS_up (L0 := [(47, 47, some 34)]) (by decide) (inS_s 47 34)) ?_
  exact sX11_far_12 (fun hf => sX11_far_129 hf) FU hf
theorem ssX11_far {x1 : Int32} {x2 : Int32} {M : Mem} {M1 : Mem} (h : fX11_far x1 x2 M = some M1) : sm [(47, 47, some 33), (47, 47, some 34)] M M1 := sX11_far_0 h
theorem sX11_skips_39 {M1 : Mem} {k0 : Mem → Option Mem} {k52 : Mem → Option Mem} (hk0 : ∀ {M : Mem}, k0 M = some M1 → sm [(47, 47, some 2), (47, 47, some 3)] M M1) (hk52 : ∀ {M : Mem}, k52 M = some M1 → sm [(47, 47, some 2), (47, 47, some 3)] M M1) : ∀ {M : Mem}, fX11_skips_39 k0 k52 M = some M1 → sm [(47, 47, some 2), (47, 47, some 3)] M M1 := by
  intro M hf
  unfold fX11_skips_39 at hf
  obtain ⟨M46, e46⟩ : ∃ y : Mem, y = (sI M 47 2 ((M.1 47 2) + (1 : Int32))) := ⟨_, rfl⟩
  have hf := nx_at e46 hf
  refine sm_I e46 (inS_up (L0 := [(47, 47, some 2)]) (by decide) (inS_s 47 2)) ?_
  exact hk0 hf
theorem sX11_skips_0 {M1 : Mem} {k52 : Mem → Option Mem} (hk52 : ∀ {M : Mem}, k52 M = some M1 → sm [(47, 47, some 2), (47, 47, some 3)] M M1) : ∀ (n : Nat) {M : Mem}, fX11_skips_0 k52 n M = some M1 → sm [(47, 47, some 2), (47, 47, some 3)] M M1 := by
  intro n
  induction n with
  | zero =>
    intro M hf
    exact absurd (show none = some _ from hf) (fun h => by cases h)
  | succ n ih =>
    intro M hf
    rw [fX11_skips_0] at hf
    by_cases q8 : (M.1 47 1) ≤ (M.1 47 2)
    · have hf := (br_if hf).1 q8
      exact hk52 hf
    · have hf := (br_if hf).2 q8
      obtain ⟨g19, hf⟩ := br_g hf
      by_cases q22 : (M.1 48 (ix (M.1 47 2))) = (32 : Int32)
      · have hf := (br_if hf).1 q22
        exact sX11_skips_39 (fun hf => ih hf) (fun hf => hk52 hf) hf
      · have hf := (br_if hf).2 q22
        obtain ⟨g33, hf⟩ := br_g hf
        by_cases q36 : (M.1 48 (ix (M.1 47 2))) = (10 : Int32)
        · have hf := (br_if hf).1 q36
          exact sX11_skips_39 (fun hf => ih hf) (fun hf => hk52 hf) hf
        · have hf := (br_if hf).2 q36
          exact hk52 hf
theorem sX11_skips_87 {M1 : Mem} {k190 : Mem → Option Mem} (hk190 : ∀ {M : Mem}, k190 M = some M1 → sm [(47, 47, some 2), (47, 47, some 3)] M M1) : ∀ (n : Nat) {M : Mem}, fX11_skips_87 k190 n M = some M1 → sm [(47, 47, some 2), (47, 47, some 3)] M M1 := by
  intro n
  induction n with
  | zero =>
    intro M hf
    exact absurd (show none = some _ from hf) (fun h => by cases h)
  | succ n ih =>
    intro M hf
    rw [fX11_skips_87] at hf
    by_cases q95 : (M.1 47 1) ≤ (M.1 47 3)
    · have hf := (br_if hf).1 q95
      exact hk190 hf
    · have hf := (br_if hf).2 q95
      obtain ⟨g106, hf⟩ := br_g hf
      obtain ⟨q107, c107, hf⟩ := br_b hf
      by_cases q110 : q107 = 0
      · have hf := (br_if hf).1 q110
        exact hk190 hf
      · have hf := (br_if hf).2 q110
        obtain ⟨M120, e120⟩ : ∃ y : Mem, y = (sI M 47 3 ((M.1 47 3) + (1 : Int32))) := ⟨_, rfl⟩
        have hf := nx_at e120 hf
        refine sm_I e120 (inS_up (L0 := [(47, 47, some 3)]) (by decide) (inS_s 47 3)) ?_
        exact ih hf
theorem sX11_skips_141 {M1 : Mem} {k190 : Mem → Option Mem} (hk190 : ∀ {M : Mem}, k190 M = some M1 → sm [(47, 47, some 2), (47, 47, some 3)] M M1) : ∀ (n : Nat) {M : Mem}, fX11_skips_141 k190 n M = some M1 → sm [(47, 47, some 2), (47, 47, some 3)] M M1 := by
  intro n
  induction n with
  | zero =>
    intro M hf
    exact absurd (show none = some _ from hf) (fun h => by cases h)
  | succ n ih =>
    intro M hf
    rw [fX11_skips_141] at hf
    by_cases q149 : (M.1 47 1) ≤ (M.1 47 3)
    · have hf := (br_if hf).1 q149
      exact hk190 hf
    · have hf := (br_if hf).2 q149
      obtain ⟨g160, hf⟩ := br_g hf
      obtain ⟨q161, c161, hf⟩ := br_b hf
      by_cases q164 : q161 = 0
      · have hf := (br_if hf).1 q164
        exact hk190 hf
      · have hf := (br_if hf).2 q164
        obtain ⟨M174, e174⟩ : ∃ y : Mem, y = (sI M 47 3 ((M.1 47 3) + (1 : Int32))) := ⟨_, rfl⟩
        have hf := nx_at e174 hf
        refine sm_I e174 (inS_up (L0 := [(47, 47, some 3)]) (by decide) (inS_s 47 3)) ?_
        exact ih hf
theorem sX11_skips_190 {M1 : Mem} : ∀ {M : Mem}, fX11_skips_190 M = some M1 → sm [(47, 47, some 2), (47, 47, some 3)] M M1 := by
  intro M hf
  unfold fX11_skips_190 at hf
  cases hf
  exact sm_rf
theorem sX11_skips_52 {M1 : Mem} : ∀ {M : Mem}, fX11_skips_52 M = some M1 → sm [(47, 47, some 2), (47, 47, some 3)] M M1 := by
  intro M hf
  unfold fX11_skips_52 at hf
  obtain ⟨M57, e57⟩ : ∃ y : Mem, y = (sI M 47 3 (M.1 47 2)) := ⟨_, rfl⟩
  have hf := nx_at e57 hf
  refine sm_I e57 (inS_up (L0 := [(47, 47, some 3)]) (by decide) (inS_s 47 3)) ?_
  by_cases q68 : (M57.1 47 2) = (M57.1 47 1)
  · have hf := (br_if hf).1 q68
    cases hf
    exact sm_rf
  · have hf := (br_if hf).2 q68
    obtain ⟨g80, hf⟩ := br_g hf
    obtain ⟨q81, c81, hf⟩ := br_b hf
    by_cases q84 : q81 = 0
    · have hf := (br_if hf).1 q84
      obtain ⟨g134, hf⟩ := br_g hf
      obtain ⟨q135, c135, hf⟩ := br_b hf
      by_cases q138 : q135 = 0
      · have hf := (br_if hf).1 q138
        obtain ⟨M187, e187⟩ : ∃ y : Mem, y = (sI M57 47 3 ((M57.1 47 2) + (1 : Int32))) := ⟨_, rfl⟩
        have hf := nx_at e187 hf
        refine sm_I e187 (inS_up (L0 := [(47, 47, some 3)]) (by decide) (inS_s 47 3)) ?_
        exact sX11_skips_190 hf
      · have hf := (br_if hf).2 q138
        exact sX11_skips_141 (fun hf => sX11_skips_190 hf) FU hf
    · have hf := (br_if hf).2 q84
      exact sX11_skips_87 (fun hf => sX11_skips_190 hf) FU hf
theorem ssX11_skips {M : Mem} {M1 : Mem} (h : fX11_skips M = some M1) : sm [(47, 47, some 2), (47, 47, some 3)] M M1 := sX11_skips_0 (fun hf => sX11_skips_52 hf) FU (show fX11_skips_0 fX11_skips_52 FU M = some _ from h)
theorem sX11_passes_20 {r : Int32} {M1 : Mem} : ∀ {M : Mem}, fX11_passes_20 M = some (r, M1) → sm [(47, 47, some 2), (47, 47, some 3), (47, 47, some 4)] M M1 := by
  intro M hf
  unfold fX11_passes_20 at hf
  cases hf
  exact sm_rf
theorem sX11_passes_0 {r : Int32} {M1 : Mem} : ∀ {x1 : Int32} {M : Mem}, fX11_passes x1 M = some (r, M1) → sm [(47, 47, some 2), (47, 47, some 3), (47, 47, some 4)] M M1 := by
  intro x1 M hf
  unfold fX11_passes at hf
  by_cases q1 : x1 = 0
  · have hf := (br_if hf).1 q1
    by_cases q9 : (M.1 47 4) = (-1 : Int32)
    · have hf := (br_if hf).1 q9
      obtain ⟨M17, e17⟩ : ∃ y : Mem, y = (sI M 47 4 (M.1 47 2)) := ⟨_, rfl⟩
      have hf := nx_at e17 hf
      refine sm_I e17 (inS_up (L0 := [(47, 47, some 4)]) (by decide) (inS_s 47 4)) ?_
      exact sX11_passes_20 hf
    · have hf := (br_if hf).2 q9
      exact sX11_passes_20 hf
  · have hf := (br_if hf).2 q1
    obtain ⟨M27, e27⟩ : ∃ y : Mem, y = (sI M 47 2 (M.1 47 3)) := ⟨_, rfl⟩
    have hf := nx_at e27 hf
    refine sm_I e27 (inS_up (L0 := [(47, 47, some 2)]) (by decide) (inS_s 47 2)) ?_
    obtain ⟨q31, c31, hf⟩ := br_b hf
    refine sm_tr (ssX11_skips c31) (by decide) ?_
    cases hf
    exact sm_rf
theorem ssX11_passes {x1 : Int32} {M : Mem} {r : Int32} {M1 : Mem} (h : fX11_passes x1 M = some (r, M1)) : sm [(47, 47, some 2), (47, 47, some 3), (47, 47, some 4)] M M1 := sX11_passes_0 h
theorem sX11_number_84 {r : Int32} {M1 : Mem} {k41 : Int32 → Int32 → Int32 → Int32 → Int32 → Mem → Option (Int32 × Mem)} {k92 : Int32 → Int32 → Int32 → Int32 → Mem → Option (Int32 × Mem)} (hk41 : ∀ {x1 : Int32} {x2 : Int32} {x3 : Int32} {x4 : Int32} {x5 : Int32} {M : Mem}, k41 x1 x2 x3 x4 x5 M = some (r, M1) → sm [(47, 47, some 2), (47, 47, some 3), (47, 47, some 4), (47, 47, some 5)] M M1) (hk92 : ∀ {x1 : Int32} {x2 : Int32} {x3 : Int32} {x4 : Int32} {M : Mem}, k92 x1 x2 x3 x4 M = some (r, M1) → sm [(47, 47, some 2), (47, 47, some 3), (47, 47, some 4), (47, 47, some 5)] M M1) : ∀ {x1 : Int32} {x2 : Int32} {x3 : Int32} {x5 : Int32} {s0 : Int32} {M : Mem}, fX11_number_84 k41 k92 x1 x2 x3 x5 s0 M = some (r, M1) → sm [(47, 47, some 2), (47, 47, some 3), (47, 47, some 4), (47, 47, some 5)] M M1 := by
  intro x1 x2 x3 x5 s0 M hf
  unfold fX11_number_84 at hf
  obtain ⟨v86, e86⟩ : ∃ y : Int32, y = (x5 + (1 : Int32)) := ⟨_, rfl⟩
  have hf := nx_at e86 hf
  exact hk41 hf
theorem sX11_number_41 {r : Int32} {M1 : Mem} {k92 : Int32 → Int32 → Int32 → Int32 → Mem → Option (Int32 × Mem)} (hk92 : ∀ {x1 : Int32} {x2 : Int32} {x3 : Int32} {x4 : Int32} {M : Mem}, k92 x1 x2 x3 x4 M = some (r, M1) → sm [(47, 47, some 2), (47, 47, some 3), (47, 47, some 4), (47, 47, some 5)] M M1) : ∀ (n : Nat) {x1 : Int32} {x2 : Int32} {x3 : Int32} {x4 : Int32} {x5 : Int32} {M : Mem}, fX11_number_41 k92 n x1 x2 x3 x4 x5 M = some (r, M1) → sm [(47, 47, some 2), (47, 47, some 3), (47, 47, some 4), (47, 47, some 5)] M M1 := by
  intro n
  induction n with
  | zero =>
    intro x1 x2 x3 x4 x5 M hf
    exact absurd (show none = some _ from hf) (fun h => by cases h)
  | succ n ih =>
    intro x1 x2 x3 x4 x5 M hf
    rw [fX11_number_41] at hf
    by_cases q42 : x3 = 0
    · have hf := (br_if hf).1 q42
      exact hk92 hf
    · have hf := (br_if hf).2 q42
      by_cases q51 : (M.1 47 3) ≤ x5
      · have hf := (br_if hf).1 q51
        exact hk92 hf
      · have hf := (br_if hf).2 q51
        by_cases q59 : x4 ≤ (999 : Int32)
        · have hf := (br_if hf).1 q59
          obtain ⟨g79, hf⟩ := br_g hf
          exact sX11_number_84 (fun hf => ih hf) (fun hf => hk92 hf) hf
        · have hf := (br_if hf).2 q59
          exact sX11_number_84 (fun hf => ih hf) (fun hf => hk92 hf) hf
theorem sX11_number_121 {r : Int32} {M1 : Mem} : ∀ {s1 : Int32} {M : Mem}, fX11_number_121 s1 M = some (r, M1) → sm [(47, 47, some 2), (47, 47, some 3), (47, 47, some 4), (47, 47, some 5)] M M1 := by
  intro s1 M hf
  unfold fX11_number_121 at hf
  obtain ⟨q121, c121, hf⟩ := br_b hf
  refine sm_tr (ssX11_passes c121) (by decide) ?_
  cases hf
  exact sm_rf
theorem sX11_number_120 {r : Int32} {M1 : Mem} : ∀ {M : Mem}, fX11_number_120 M = some (r, M1) → sm [(47, 47, some 2), (47, 47, some 3), (47, 47, some 4), (47, 47, some 5)] M M1 := by
  intro M hf
  unfold fX11_number_120 at hf
  exact sX11_number_121 hf
theorem sX11_number_92 {r : Int32} {M1 : Mem} : ∀ {x1 : Int32} {x2 : Int32} {x3 : Int32} {x4 : Int32} {M : Mem}, fX11_number_92 x1 x2 x3 x4 M = some (r, M1) → sm [(47, 47, some 2), (47, 47, some 3), (47, 47, some 4), (47, 47, some 5)] M M1 := by
  intro x1 x2 x3 x4 M hf
  unfold fX11_number_92 at hf
  obtain ⟨M95, e95⟩ : ∃ y : Mem, y = (sI M 47 5 x4) := ⟨_, rfl⟩
  have hf := nx_at e95 hf
  refine sm_I e95 (inS_up (L0 := [(47, 47, some 5)]) (by decide) (inS_s 47 5)) ?_
  by_cases q100 : x3 = 0
  · have hf := (br_if hf).1 q100
    exact sX11_number_120 hf
  · have hf := (br_if hf).2 q100
    obtain ⟨q110, c110, hf⟩ := br_b hf
    by_cases q113 : q110 = 0
    · have hf := (br_if hf).1 q113
      exact sX11_number_120 hf
    · have hf := (br_if hf).2 q113
      exact sX11_number_121 hf
theorem sX11_number_31 {r : Int32} {M1 : Mem} : ∀ {x1 : Int32} {x2 : Int32} {s0 : Int32} {M : Mem}, fX11_number_31 x1 x2 s0 M = some (r, M1) → sm [(47, 47, some 2), (47, 47, some 3), (47, 47, some 4), (47, 47, some 5)] M M1 := by
  intro x1 x2 s0 M hf
  unfold fX11_number_31 at hf
  obtain ⟨v39, e39⟩ : ∃ y : Int32, y = (M.1 47 2) := ⟨_, rfl⟩
  have hf := nx_at e39 hf
  exact sX11_number_41 (fun hf => sX11_number_92 hf) FU hf
theorem sX11_number_30 {r : Int32} {M1 : Mem} : ∀ {x1 : Int32} {x2 : Int32} {M : Mem}, fX11_number_30 x1 x2 M = some (r, M1) → sm [(47, 47, some 2), (47, 47, some 3), (47, 47, some 4), (47, 47, some 5)] M M1 := by
  intro x1 x2 M hf
  unfold fX11_number_30 at hf
  exact sX11_number_31 hf
theorem sX11_number_0 {r : Int32} {M1 : Mem} : ∀ {x1 : Int32} {x2 : Int32} {M : Mem}, fX11_number x1 x2 M = some (r, M1) → sm [(47, 47, some 2), (47, 47, some 3), (47, 47, some 4), (47, 47, some 5)] M M1 := by
  intro x1 x2 M hf
  unfold fX11_number at hf
  by_cases q8 : (M.1 47 1) ≤ (M.1 47 2)
  · have hf := (br_if hf).1 q8
    exact sX11_number_30 hf
  · have hf := (br_if hf).2 q8
    obtain ⟨g19, hf⟩ := br_g hf
    obtain ⟨q20, c20, hf⟩ := br_b hf
    by_cases q23 : q20 = 0
    · have hf := (br_if hf).1 q23
      exact sX11_number_30 hf
    · have hf := (br_if hf).2 q23
      exact sX11_number_31 hf
theorem ssX11_number {x1 : Int32} {x2 : Int32} {M : Mem} {r : Int32} {M1 : Mem} (h : fX11_number x1 x2 M = some (r, M1)) : sm [(47, 47, some 2), (47, 47, some 3), (47, 47, some 4), (47, 47, some 5)] M M1 := sX11_number_0 h
theorem sX11_stretch_0 {r : Int32} {M1 : Mem} : ∀ {M : Mem}, fX11_stretch M = some (r, M1) → sm [(47, 47, some 2), (47, 47, some 3), (47, 47, some 4), (47, 47, some 5), (47, 47, some 20), (47, 47, some 21)] M M1 := by
  intro M hf
  unfold fX11_stretch at hf
  obtain ⟨q4, c4, hf⟩ := br_b hf
  refine sm_tr (ssX11_number c4) (by decide) ?_
  by_cases q7 : q4.1 = 0
  · have hf := (br_if hf).1 q7
    cases hf
    exact sm_rf
  · have hf := (br_if hf).2 q7
    obtain ⟨v16, e16⟩ : ∃ y : Int32, y = (q4.2.1 47 5) := ⟨_, rfl⟩
    have hf := nx_at e16 hf
    obtain ⟨q21, c21, hf⟩ := br_b hf
    refine sm_tr (ssX11_number c21) (by decide) ?_
    by_cases q24 : q21.1 = 0
    · have hf := (br_if hf).1 q24
      cases hf
      exact sm_rf
    · have hf := (br_if hf).2 q24
      obtain ⟨M31, e31⟩ : ∃ y : Mem, y = (sI q21.2 47 20 v16) := ⟨_, rfl⟩
      have hf := nx_at e31 hf
      refine sm_I e31 (inS_up (L0 := [(47, 47, some 20)]) (by decide) (inS_s 47 20)) ?_
      obtain ⟨M39, e39⟩ : ∃ y : Mem, y = (sI M31 47 21 (M31.1 47 5)) := ⟨_, rfl⟩
      have hf := nx_at e39 hf
      refine sm_I e39 (inS_up (L0 := [(47, 47, some 21)]) (by decide) (inS_s 47 21)) ?_
      obtain ⟨q46, c46, hf⟩ := br_b hf
      obtain ⟨q49, c49, hf⟩ := br_b hf
      refine sm_tr (ssX11_passes c49) (by decide) ?_
      cases hf
      exact sm_rf
theorem ssX11_stretch {M : Mem} {r : Int32} {M1 : Mem} (h : fX11_stretch M = some (r, M1)) : sm [(47, 47, some 2), (47, 47, some 3), (47, 47, some 4), (47, 47, some 5), (47, 47, some 20), (47, 47, some 21)] M M1 := sX11_stretch_0 h
theorem sX11_near_24 {r : Int32} {M1 : Mem} {k4 : Int32 → Int32 → Mem → Option (Int32 × Mem)} {k30 : Int32 → Mem → Option (Int32 × Mem)} (hk4 : ∀ {x1 : Int32} {x2 : Int32} {M : Mem}, k4 x1 x2 M = some (r, M1) → sm [(47, 47, some 2), (47, 47, some 3), (47, 47, some 4), (47, 47, some 19)] M M1) (hk30 : ∀ {x1 : Int32} {M : Mem}, k30 x1 M = some (r, M1) → sm [(47, 47, some 2), (47, 47, some 3), (47, 47, some 4), (47, 47, some 19)] M M1) : ∀ {x1 : Int32} {x2 : Int32} {M : Mem}, fX11_near_24 k4 k30 x1 x2 M = some (r, M1) → sm [(47, 47, some 2), (47, 47, some 3), (47, 47, some 4), (47, 47, some 19)] M M1 := by
  intro x1 x2 M hf
  unfold fX11_near_24 at hf
  obtain ⟨v24, e24⟩ : ∃ y : Int32, y = (x2 + (1 : Int32)) := ⟨_, rfl⟩
  have hf := nx_at e24 hf
  exact hk4 hf
theorem sX11_near_4 {r : Int32} {M1 : Mem} {k30 : Int32 → Mem → Option (Int32 × Mem)} (hk30 : ∀ {x1 : Int32} {M : Mem}, k30 x1 M = some (r, M1) → sm [(47, 47, some 2), (47, 47, some 3), (47, 47, some 4), (47, 47, some 19)] M M1) : ∀ (n : Nat) {x1 : Int32} {x2 : Int32} {M : Mem}, fX11_near_4 k30 n x1 x2 M = some (r, M1) → sm [(47, 47, some 2), (47, 47, some 3), (47, 47, some 4), (47, 47, some 19)] M M1 := by
  intro n
  induction n with
  | zero =>
    intro x1 x2 M hf
    exact absurd (show none = some _ from hf) (fun h => by cases h)
  | succ n ih =>
    intro x1 x2 M hf
    rw [fX11_near_4] at hf
    by_cases q6 : (4 : Int32) ≤ x2
    · have hf := (br_if hf).1 q6
      exact hk30 hf
    · have hf := (br_if hf).2 q6
      obtain ⟨g15, hf⟩ := br_g hf
      obtain ⟨q16, c16, hf⟩ := br_b hf
      by_cases q19 : q16 = 0
      · have hf := (br_if hf).1 q19
        exact sX11_near_24 (fun hf => ih hf) (fun hf => hk30 hf) hf
      · have hf := (br_if hf).2 q19
        exact sX11_near_24 (fun hf => ih hf) (fun hf => hk30 hf) hf
theorem sX11_near_70 {r : Int32} {M1 : Mem} : ∀ {s0 : Int32} {M : Mem}, fX11_near_70 s0 M = some (r, M1) → sm [(47, 47, some 2), (47, 47, some 3), (47, 47, some 4), (47, 47, some 19)] M M1 := by
  intro s0 M hf
  unfold fX11_near_70 at hf
  cases hf
  exact sm_rf
theorem sX11_near_69 {r : Int32} {M1 : Mem} : ∀ {M : Mem}, fX11_near_69 M = some (r, M1) → sm [(47, 47, some 2), (47, 47, some 3), (47, 47, some 4), (47, 47, some 19)] M M1 := by
  intro M hf
  unfold fX11_near_69 at hf
  exact sX11_near_70 hf
theorem sX11_near_46 {r : Int32} {M1 : Mem} : ∀ {s1 : Int32} {M : Mem}, fX11_near_46 s1 M = some (r, M1) → sm [(47, 47, some 2), (47, 47, some 3), (47, 47, some 4), (47, 47, some 19)] M M1 := by
  intro s1 M hf
  unfold fX11_near_46 at hf
  obtain ⟨q46, c46, hf⟩ := br_b hf
  refine sm_tr (ssX11_passes c46) (by decide) ?_
  by_cases q49 : q46.1 = 0
  · have hf := (br_if hf).1 q49
    exact sX11_near_69 hf
  · have hf := (br_if hf).2 q49
    obtain ⟨q56, c56, hf⟩ := br_b hf
    obtain ⟨q59, c59, hf⟩ := br_b hf
    refine sm_tr (ssX11_passes c59) (by decide) ?_
    by_cases q62 : q59.1 = 0
    · have hf := (br_if hf).1 q62
      exact sX11_near_69 hf
    · have hf := (br_if hf).2 q62
      exact sX11_near_70 hf
theorem sX11_near_30 {r : Int32} {M1 : Mem} : ∀ {x1 : Int32} {M : Mem}, fX11_near_30 x1 M = some (r, M1) → sm [(47, 47, some 2), (47, 47, some 3), (47, 47, some 4), (47, 47, some 19)] M M1 := by
  intro x1 M hf
  unfold fX11_near_30 at hf
  obtain ⟨M32, e32⟩ : ∃ y : Mem, y = (sI M 47 19 x1) := ⟨_, rfl⟩
  have hf := nx_at e32 hf
  refine sm_I e32 (inS_up (L0 := [(47, 47, some 19)]) (by decide) (inS_s 47 19)) ?_
  by_cases q38 : x1 = (-1 : Int32)
  · have hf := (br_if hf).1 q38
    exact sX11_near_46 hf
  · have hf := (br_if hf).2 q38
    exact sX11_near_46 hf
theorem sX11_near_0 {r : Int32} {M1 : Mem} : ∀ {M : Mem}, fX11_near M = some (r, M1) → sm [(47, 47, some 2), (47, 47, some 3), (47, 47, some 4), (47, 47, some 19)] M M1 := by
  intro M hf
  unfold fX11_near at hf
  exact sX11_near_4 (fun hf => sX11_near_30 hf) FU hf
theorem ssX11_near {M : Mem} {r : Int32} {M1 : Mem} (h : fX11_near M = some (r, M1)) : sm [(47, 47, some 2), (47, 47, some 3), (47, 47, some 4), (47, 47, some 19)] M M1 := sX11_near_0 h
theorem sX11_voterRead_127 {r : Int32} {M1 : Mem} : ∀ {M : Mem}, fX11_voterRead_127 M = some (r, M1) → sm [(51, 51, none), (54, 54, none), (57, 57, none), (60, 60, none), (63, 63, none), (66, 66, none), (73, 73, none), (47, 47, some 2), (47, 47, some 3), (47, 47, some 4), (47, 47, some 5)] M M1 := by
  intro M hf
  unfold fX11_voterRead_127 at hf
  cases hf
  exact sm_rf
theorem sX11_voterRead_141 {r : Int32} {M1 : Mem} : ∀ {M : Mem}, fX11_voterRead_141 M = some (r, M1) → sm [(51, 51, none), (54, 54, none), (57, 57, none), (60, 60, none), (63, 63, none), (66, 66, none), (73, 73, none), (47, 47, some 2), (47, 47, some 3), (47, 47, some 4), (47, 47, some 5)] M M1 := by
  intro M hf
  unfold fX11_voterRead_141 at hf
  obtain ⟨M150, e150⟩ : ∃ y : Mem, y = (sI M 73 (ix (1 : Int32)) ((M.1 73 (ix (1 : Int32))) + (1 : Int32))) := ⟨_, rfl⟩
  have hf := nx_at e150 hf
  refine sm_I e150 (inS_up (L0 := [(73, 73, none)]) (by decide) (inS_n 73 _)) ?_
  obtain ⟨q155, c155, hf⟩ := br_b hf
  obtain ⟨q158, c158, hf⟩ := br_b hf
  refine sm_tr (ssX11_passes c158) (by decide) ?_
  cases hf
  exact sm_rf
theorem sX11_voterRead_0 {r : Int32} {M1 : Mem} : ∀ {M : Mem}, fX11_voterRead M = some (r, M1) → sm [(51, 51, none), (54, 54, none), (57, 57, none), (60, 60, none), (63, 63, none), (66, 66, none), (73, 73, none), (47, 47, some 2), (47, 47, some 3), (47, 47, some 4), (47, 47, some 5)] M M1 := by
  intro M hf
  unfold fX11_voterRead at hf
  obtain ⟨v6, e6⟩ : ∃ y : Int32, y = (M.1 73 (ix (1 : Int32))) := ⟨_, rfl⟩
  have hf := nx_at e6 hf
  obtain ⟨q11, c11, hf⟩ := br_b hf
  refine sm_tr (ssX11_number c11) (by decide) ?_
  by_cases q14 : q11.1 = 0
  · have hf := (br_if hf).1 q14
    cases hf
    exact sm_rf
  · have hf := (br_if hf).2 q14
    obtain ⟨g30, hf⟩ := br_g hf
    obtain ⟨M30, e30⟩ : ∃ y : Mem, y = (sI q11.2 51 (ix v6) (q11.2.1 47 5)) := ⟨_, rfl⟩
    have hf := nx_at e30 hf
    refine sm_I e30 (inS_up (L0 := [(51, 51, none)]) (by decide) (inS_n 51 _)) ?_
    obtain ⟨q35, c35, hf⟩ := br_b hf
    refine sm_tr (ssX11_number c35) (by decide) ?_
    by_cases q38 : q35.1 = 0
    · have hf := (br_if hf).1 q38
      cases hf
      exact sm_rf
    · have hf := (br_if hf).2 q38
      obtain ⟨g54, hf⟩ := br_g hf
      obtain ⟨M54, e54⟩ : ∃ y : Mem, y = (sI q35.2 54 (ix v6) (q35.2.1 47 5)) := ⟨_, rfl⟩
      have hf := nx_at e54 hf
      refine sm_I e54 (inS_up (L0 := [(54, 54, none)]) (by decide) (inS_n 54 _)) ?_
      obtain ⟨g63, hf⟩ := br_g hf
      obtain ⟨M63, e63⟩ : ∃ y : Mem, y = (sI M54 57 (ix v6) (1 : Int32)) := ⟨_, rfl⟩
      have hf := nx_at e63 hf
      refine sm_I e63 (inS_up (L0 := [(57, 57, none)]) (by decide) (inS_n 57 _)) ?_
      obtain ⟨g75, hf⟩ := br_g hf
      obtain ⟨M75, e75⟩ : ∃ y : Mem, y = (sI M63 60 (ix v6) (M63.1 47 19)) := ⟨_, rfl⟩
      have hf := nx_at e75 hf
      refine sm_I e75 (inS_up (L0 := [(60, 60, none)]) (by decide) (inS_n 60 _)) ?_
      obtain ⟨g87, hf⟩ := br_g hf
      obtain ⟨M87, e87⟩ : ∃ y : Mem, y = (sI M75 63 (ix v6) (M75.1 47 20)) := ⟨_, rfl⟩
      have hf := nx_at e87 hf
      refine sm_I e87 (inS_up (L0 := [(63, 63, none)]) (by decide) (inS_n 63 _)) ?_
      obtain ⟨g99, hf⟩ := br_g hf
      obtain ⟨M99, e99⟩ : ∃ y : Mem, y = (sI M87 66 (ix v6) (M87.1 47 21)) := ⟨_, rfl⟩
      have hf := nx_at e99 hf
      refine sm_I e99 (inS_up (L0 := [(66, 66, none)]) (by decide) (inS_n 66 _)) ?_
      obtain ⟨q103, c103, hf⟩ := br_b hf
      by_cases q106 : q103 = 0
      · have hf := (br_if hf).1 q106
        exact sX11_voterRead_141 hf
      · have hf := (br_if hf).2 q106
        obtain ⟨q111, c111, hf⟩ := br_b hf
        refine sm_tr (ssX11_passes c111) (by decide) ?_
        by_cases q114 : q111.1 = 0
        · have hf := (br_if hf).1 q114
          exact sX11_voterRead_127 hf
        · have hf := (br_if hf).2 q114
          obtain ⟨q121, c121, hf⟩ := br_b hf
          refine sm_tr (ssX11_number c121) (by decide) ?_
          by_cases q124 : q121.1 = 0
          · have hf := (br_if hf).1 q124
            exact sX11_voterRead_127 hf
          · have hf := (br_if hf).2 q124
            obtain ⟨g140, hf⟩ := br_g hf
            obtain ⟨M140, e140⟩ : ∃ y : Mem, y = (sI q121.2 57 (ix v6) (q121.2.1 47 5)) := ⟨_, rfl⟩
            have hf := nx_at e140 hf
            refine sm_I e140 (inS_up (L0 := [(57, 57, none)]) (by decide) (inS_n 57 _)) ?_
            exact sX11_voterRead_141 hf
theorem ssX11_voterRead {M : Mem} {r : Int32} {M1 : Mem} (h : fX11_voterRead M = some (r, M1)) : sm [(51, 51, none), (54, 54, none), (57, 57, none), (60, 60, none), (63, 63, none), (66, 66, none), (73, 73, none), (47, 47, some 2), (47, 47, some 3), (47, 47, some 4), (47, 47, some 5)] M M1 := sX11_voterRead_0 h
theorem sX11_placeRead_0 {r : Int32} {M1 : Mem} : ∀ {M : Mem}, fX11_placeRead M = some (r, M1) → sm [(69, 69, none), (72, 72, none), (74, 74, none), (47, 47, some 2), (47, 47, some 3), (47, 47, some 4), (47, 47, some 5)] M M1 := by
  intro M hf
  unfold fX11_placeRead at hf
  obtain ⟨v6, e6⟩ : ∃ y : Int32, y = (M.1 74 (ix (1 : Int32))) := ⟨_, rfl⟩
  have hf := nx_at e6 hf
  obtain ⟨q11, c11, hf⟩ := br_b hf
  refine sm_tr (ssX11_number c11) (by decide) ?_
  by_cases q14 : q11.1 = 0
  · have hf := (br_if hf).1 q14
    cases hf
    exact sm_rf
  · have hf := (br_if hf).2 q14
    obtain ⟨g30, hf⟩ := br_g hf
    obtain ⟨M30, e30⟩ : ∃ y : Mem, y = (sI q11.2 69 (ix v6) (q11.2.1 47 5)) := ⟨_, rfl⟩
    have hf := nx_at e30 hf
    refine sm_I e30 (inS_up (L0 := [(69, 69, none)]) (by decide) (inS_n 69 _)) ?_
    obtain ⟨q35, c35, hf⟩ := br_b hf
    refine sm_tr (ssX11_number c35) (by decide) ?_
    by_cases q38 : q35.1 = 0
    · have hf := (br_if hf).1 q38
      cases hf
      exact sm_rf
    · have hf := (br_if hf).2 q38
      obtain ⟨g54, hf⟩ := br_g hf
      obtain ⟨M54, e54⟩ : ∃ y : Mem, y = (sI q35.2 72 (ix v6) (q35.2.1 47 5)) := ⟨_, rfl⟩
      have hf := nx_at e54 hf
      refine sm_I e54 (inS_up (L0 := [(72, 72, none)]) (by decide) (inS_n 72 _)) ?_
      obtain ⟨M64, e64⟩ : ∃ y : Mem, y = (sI M54 74 (ix (1 : Int32)) ((M54.1 74 (ix (1 : Int32))) + (1 : Int32))) := ⟨_, rfl⟩
      have hf := nx_at e64 hf
      refine sm_I e64 (inS_up (L0 := [(74, 74, none)]) (by decide) (inS_n 74 _)) ?_
      obtain ⟨q69, c69, hf⟩ := br_b hf
      obtain ⟨q72, c72, hf⟩ := br_b hf
      refine sm_tr (ssX11_passes c72) (by decide) ?_
      cases hf
      exact sm_rf
theorem ssX11_placeRead {M : Mem} {r : Int32} {M1 : Mem} (h : fX11_placeRead M = some (r, M1)) : sm [(69, 69, none), (72, 72, none), (74, 74, none), (47, 47, some 2), (47, 47, some 3), (47, 47, some 4), (47, 47, some 5)] M M1 := sX11_placeRead_0 h
theorem sX11_winRead_40 {r : Int32} {M1 : Mem} : ∀ {s0 : Int32} {M : Mem}, fX11_winRead_40 s0 M = some (r, M1) → sm [(75, 77, none), (47, 47, some 2), (47, 47, some 3), (47, 47, some 4), (47, 47, some 5), (47, 47, some 22)] M M1 := by
  intro s0 M hf
  unfold fX11_winRead_40 at hf
  cases hf
  exact sm_rf
theorem sX11_winRead_39 {r : Int32} {M1 : Mem} : ∀ {M : Mem}, fX11_winRead_39 M = some (r, M1) → sm [(75, 77, none), (47, 47, some 2), (47, 47, some 3), (47, 47, some 4), (47, 47, some 5), (47, 47, some 22)] M M1 := by
  intro M hf
  unfold fX11_winRead_39 at hf
  exact sX11_winRead_40 hf
theorem sX11_winRead_101 {r : Int32} {M1 : Mem} : ∀ {M : Mem}, fX11_winRead_101 M = some (r, M1) → sm [(75, 77, none), (47, 47, some 2), (47, 47, some 3), (47, 47, some 4), (47, 47, some 5), (47, 47, some 22)] M M1 := by
  intro M hf
  unfold fX11_winRead_101 at hf
  cases hf
  exact sm_rf
theorem sX11_winRead_156 {r : Int32} {M1 : Mem} : ∀ {M : Mem}, fX11_winRead_156 M = some (r, M1) → sm [(75, 77, none), (47, 47, some 2), (47, 47, some 3), (47, 47, some 4), (47, 47, some 5), (47, 47, some 22)] M M1 := by
  intro M hf
  unfold fX11_winRead_156 at hf
  cases hf
  exact sm_rf
theorem sX11_winRead_85 {r : Int32} {M1 : Mem} : ∀ {s1 : Int32} {M : Mem}, fX11_winRead_85 s1 M = some (r, M1) → sm [(75, 77, none), (47, 47, some 2), (47, 47, some 3), (47, 47, some 4), (47, 47, some 5), (47, 47, some 22)] M M1 := by
  intro s1 M hf
  unfold fX11_winRead_85 at hf
  obtain ⟨q85, c85, hf⟩ := br_b hf
  refine sm_tr (ssX11_passes c85) (by decide) ?_
  by_cases q88 : q85.1 = 0
  · have hf := (br_if hf).1 q88
    exact sX11_winRead_101 hf
  · have hf := (br_if hf).2 q88
    obtain ⟨q95, c95, hf⟩ := br_b hf
    refine sm_tr (ssX11_number c95) (by decide) ?_
    by_cases q98 : q95.1 = 0
    · have hf := (br_if hf).1 q98
      exact sX11_winRead_101 hf
    · have hf := (br_if hf).2 q98
      obtain ⟨M112, e112⟩ : ∃ y : Mem, y = (sI q95.2 76 (ix (1 : Int32)) (q95.2.1 47 5)) := ⟨_, rfl⟩
      have hf := nx_at e112 hf
      refine sm_I e112 (inS_up (L0 := [(76, 76, none)]) (by decide) (inS_n 76 _)) ?_
      obtain ⟨q117, c117, hf⟩ := br_b hf
      obtain ⟨q120, c120, hf⟩ := br_b hf
      refine sm_tr (ssX11_passes c120) (by decide) ?_
      by_cases q123 : q120.1 = 0
      · have hf := (br_if hf).1 q123
        exact sX11_winRead_156 hf
      · have hf := (br_if hf).2 q123
        obtain ⟨q150, c150, hf⟩ := br_b hf
        refine sm_tr (ssX11_number c150) (by decide) ?_
        by_cases q153 : q150.1 = 0
        · have hf := (br_if hf).1 q153
          exact sX11_winRead_156 hf
        · have hf := (br_if hf).2 q153
          obtain ⟨M167, e167⟩ : ∃ y : Mem, y = (sI q150.2 77 (ix (1 : Int32)) (q150.2.1 47 5)) := ⟨_, rfl⟩
          have hf := nx_at e167 hf
          refine sm_I e167 (inS_up (L0 := [(77, 77, none)]) (by decide) (inS_n 77 _)) ?_
          obtain ⟨q172, c172, hf⟩ := br_b hf
          obtain ⟨q175, c175, hf⟩ := br_b hf
          refine sm_tr (ssX11_passes c175) (by decide) ?_
          cases hf
          exact sm_rf
theorem sX11_winRead_80 {r : Int32} {M1 : Mem} : ∀ {M : Mem}, fX11_winRead_80 M = some (r, M1) → sm [(75, 77, none), (47, 47, some 2), (47, 47, some 3), (47, 47, some 4), (47, 47, some 5), (47, 47, some 22)] M M1 := by
  intro M hf
  unfold fX11_winRead_80 at hf
  exact sX11_winRead_85 hf
theorem sX11_winRead_60 {r : Int32} {M1 : Mem} : ∀ {s1 : Int32} {s2 : Int32} {M : Mem}, fX11_winRead_60 s1 s2 M = some (r, M1) → sm [(75, 77, none), (47, 47, some 2), (47, 47, some 3), (47, 47, some 4), (47, 47, some 5), (47, 47, some 22)] M M1 := by
  intro s1 s2 M hf
  unfold fX11_winRead_60 at hf
  obtain ⟨g60, hf⟩ := br_g hf
  obtain ⟨M60, e60⟩ : ∃ y : Mem, y = (sI M 75 (ix s1) s2) := ⟨_, rfl⟩
  have hf := nx_at e60 hf
  refine sm_I e60 (inS_up (L0 := [(75, 75, none)]) (by decide) (inS_n 75 _)) ?_
  obtain ⟨q65, c65, hf⟩ := br_b hf
  by_cases q68 : q65 = 0
  · have hf := (br_if hf).1 q68
    obtain ⟨q74, c74, hf⟩ := br_b hf
    by_cases q77 : q74 = 0
    · have hf := (br_if hf).1 q77
      exact sX11_winRead_85 hf
    · have hf := (br_if hf).2 q77
      exact sX11_winRead_80 hf
  · have hf := (br_if hf).2 q68
    exact sX11_winRead_80 hf
theorem sX11_winRead_0 {r : Int32} {M1 : Mem} : ∀ {M : Mem}, fX11_winRead M = some (r, M1) → sm [(75, 77, none), (47, 47, some 2), (47, 47, some 3), (47, 47, some 4), (47, 47, some 5), (47, 47, some 22)] M M1 := by
  intro M hf
  unfold fX11_winRead at hf
  obtain ⟨M2, e2⟩ : ∃ y : Mem, y = (sI M 47 22 (1 : Int32)) := ⟨_, rfl⟩
  have hf := nx_at e2 hf
  refine sm_I e2 (inS_up (L0 := [(47, 47, some 22)]) (by decide) (inS_s 47 22)) ?_
  obtain ⟨q8, c8, hf⟩ := br_b hf
  by_cases q11 : q8 = 0
  · have hf := (br_if hf).1 q11
    obtain ⟨q49, c49, hf⟩ := br_b hf
    by_cases q52 : q49 = 0
    · have hf := (br_if hf).1 q52
      exact sX11_winRead_60 hf
    · have hf := (br_if hf).2 q52
      exact sX11_winRead_60 hf
  · have hf := (br_if hf).2 q11
    obtain ⟨q16, c16, hf⟩ := br_b hf
    refine sm_tr (ssX11_passes c16) (by decide) ?_
    by_cases q19 : q16.1 = 0
    · have hf := (br_if hf).1 q19
      exact sX11_winRead_39 hf
    · have hf := (br_if hf).2 q19
      obtain ⟨q26, c26, hf⟩ := br_b hf
      obtain ⟨q29, c29, hf⟩ := br_b hf
      refine sm_tr (ssX11_passes c29) (by decide) ?_
      by_cases q32 : q29.1 = 0
      · have hf := (br_if hf).1 q32
        exact sX11_winRead_39 hf
      · have hf := (br_if hf).2 q32
        exact sX11_winRead_40 hf
theorem ssX11_winRead {M : Mem} {r : Int32} {M1 : Mem} (h : fX11_winRead M = some (r, M1)) : sm [(75, 77, none), (47, 47, some 2), (47, 47, some 3), (47, 47, some 4), (47, 47, some 5), (47, 47, some 22)] M M1 := sX11_winRead_0 h
theorem sX11_told_29 {r : Int32} {M1 : Mem} : ∀ {s0 : Int32} {M : Mem}, fX11_told_29 s0 M = some (r, M1) → sm [(51, 51, none), (54, 54, none), (57, 57, none), (60, 60, none), (63, 63, none), (66, 66, none), (69, 69, none), (72, 77, none), (47, 47, some 2), (47, 47, some 3), (47, 47, some 4), (47, 47, some 5), (47, 47, some 19), (47, 47, some 20), (47, 47, some 21), (47, 47, some 22)] M M1 := by
  intro s0 M hf
  unfold fX11_told_29 at hf
  cases hf
  exact sm_rf
theorem sX11_told_28 {r : Int32} {M1 : Mem} : ∀ {M : Mem}, fX11_told_28 M = some (r, M1) → sm [(51, 51, none), (54, 54, none), (57, 57, none), (60, 60, none), (63, 63, none), (66, 66, none), (69, 69, none), (72, 77, none), (47, 47, some 2), (47, 47, some 3), (47, 47, some 4), (47, 47, some 5), (47, 47, some 19), (47, 47, some 20), (47, 47, some 21), (47, 47, some 22)] M M1 := by
  intro M hf
  unfold fX11_told_28 at hf
  exact sX11_told_29 hf
theorem sX11_told_59 {r : Int32} {M1 : Mem} : ∀ {s0 : Int32} {M : Mem}, fX11_told_59 s0 M = some (r, M1) → sm [(51, 51, none), (54, 54, none), (57, 57, none), (60, 60, none), (63, 63, none), (66, 66, none), (69, 69, none), (72, 77, none), (47, 47, some 2), (47, 47, some 3), (47, 47, some 4), (47, 47, some 5), (47, 47, some 19), (47, 47, some 20), (47, 47, some 21), (47, 47, some 22)] M M1 := by
  intro s0 M hf
  unfold fX11_told_59 at hf
  cases hf
  exact sm_rf
theorem sX11_told_58 {r : Int32} {M1 : Mem} : ∀ {M : Mem}, fX11_told_58 M = some (r, M1) → sm [(51, 51, none), (54, 54, none), (57, 57, none), (60, 60, none), (63, 63, none), (66, 66, none), (69, 69, none), (72, 77, none), (47, 47, some 2), (47, 47, some 3), (47, 47, some 4), (47, 47, some 5), (47, 47, some 19), (47, 47, some 20), (47, 47, some 21), (47, 47, some 22)] M M1 := by
  intro M hf
  unfold fX11_told_58 at hf
  exact sX11_told_59 hf
theorem sX11_told_104 {r : Int32} {M1 : Mem} : ∀ {s0 : Int32} {M : Mem}, fX11_told_104 s0 M = some (r, M1) → sm [(51, 51, none), (54, 54, none), (57, 57, none), (60, 60, none), (63, 63, none), (66, 66, none), (69, 69, none), (72, 77, none), (47, 47, some 2), (47, 47, some 3), (47, 47, some 4), (47, 47, some 5), (47, 47, some 19), (47, 47, some 20), (47, 47, some 21), (47, 47, some 22)] M M1 := by
  intro s0 M hf
  unfold fX11_told_104 at hf
  cases hf
  exact sm_rf
theorem sX11_told_103 {r : Int32} {M1 : Mem} : ∀ {M : Mem}, fX11_told_103 M = some (r, M1) → sm [(51, 51, none), (54, 54, none), (57, 57, none), (60, 60, none), (63, 63, none), (66, 66, none), (69, 69, none), (72, 77, none), (47, 47, some 2), (47, 47, some 3), (47, 47, some 4), (47, 47, some 5), (47, 47, some 19), (47, 47, some 20), (47, 47, some 21), (47, 47, some 22)] M M1 := by
  intro M hf
  unfold fX11_told_103 at hf
  exact sX11_told_104 hf
theorem sX11_told_86 {r : Int32} {M1 : Mem} : ∀ {s1 : Int32} {M : Mem}, fX11_told_86 s1 M = some (r, M1) → sm [(51, 51, none), (54, 54, none), (57, 57, none), (60, 60, none), (63, 63, none), (66, 66, none), (69, 69, none), (72, 77, none), (47, 47, some 2), (47, 47, some 3), (47, 47, some 4), (47, 47, some 5), (47, 47, some 19), (47, 47, some 20), (47, 47, some 21), (47, 47, some 22)] M M1 := by
  intro s1 M hf
  unfold fX11_told_86 at hf
  obtain ⟨q86, c86, hf⟩ := br_b hf
  refine sm_tr (ssX11_passes c86) (by decide) ?_
  by_cases q89 : q86.1 = 0
  · have hf := (br_if hf).1 q89
    exact sX11_told_103 hf
  · have hf := (br_if hf).2 q89
    obtain ⟨q93, c93, hf⟩ := br_b hf
    refine sm_tr (ssX11_voterRead c93) (by decide) ?_
    by_cases q96 : q93.1 = 0
    · have hf := (br_if hf).1 q96
      exact sX11_told_103 hf
    · have hf := (br_if hf).2 q96
      exact sX11_told_104 hf
theorem sX11_told_149 {r : Int32} {M1 : Mem} : ∀ {s0 : Int32} {M : Mem}, fX11_told_149 s0 M = some (r, M1) → sm [(51, 51, none), (54, 54, none), (57, 57, none), (60, 60, none), (63, 63, none), (66, 66, none), (69, 69, none), (72, 77, none), (47, 47, some 2), (47, 47, some 3), (47, 47, some 4), (47, 47, some 5), (47, 47, some 19), (47, 47, some 20), (47, 47, some 21), (47, 47, some 22)] M M1 := by
  intro s0 M hf
  unfold fX11_told_149 at hf
  cases hf
  exact sm_rf
theorem sX11_told_148 {r : Int32} {M1 : Mem} : ∀ {M : Mem}, fX11_told_148 M = some (r, M1) → sm [(51, 51, none), (54, 54, none), (57, 57, none), (60, 60, none), (63, 63, none), (66, 66, none), (69, 69, none), (72, 77, none), (47, 47, some 2), (47, 47, some 3), (47, 47, some 4), (47, 47, some 5), (47, 47, some 19), (47, 47, some 20), (47, 47, some 21), (47, 47, some 22)] M M1 := by
  intro M hf
  unfold fX11_told_148 at hf
  exact sX11_told_149 hf
theorem sX11_told_131 {r : Int32} {M1 : Mem} : ∀ {s1 : Int32} {M : Mem}, fX11_told_131 s1 M = some (r, M1) → sm [(51, 51, none), (54, 54, none), (57, 57, none), (60, 60, none), (63, 63, none), (66, 66, none), (69, 69, none), (72, 77, none), (47, 47, some 2), (47, 47, some 3), (47, 47, some 4), (47, 47, some 5), (47, 47, some 19), (47, 47, some 20), (47, 47, some 21), (47, 47, some 22)] M M1 := by
  intro s1 M hf
  unfold fX11_told_131 at hf
  obtain ⟨q131, c131, hf⟩ := br_b hf
  refine sm_tr (ssX11_passes c131) (by decide) ?_
  by_cases q134 : q131.1 = 0
  · have hf := (br_if hf).1 q134
    exact sX11_told_148 hf
  · have hf := (br_if hf).2 q134
    obtain ⟨q138, c138, hf⟩ := br_b hf
    refine sm_tr (ssX11_placeRead c138) (by decide) ?_
    by_cases q141 : q138.1 = 0
    · have hf := (br_if hf).1 q141
      exact sX11_told_148 hf
    · have hf := (br_if hf).2 q141
      exact sX11_told_149 hf
theorem sX11_told_190 {r : Int32} {M1 : Mem} : ∀ {s0 : Int32} {M : Mem}, fX11_told_190 s0 M = some (r, M1) → sm [(51, 51, none), (54, 54, none), (57, 57, none), (60, 60, none), (63, 63, none), (66, 66, none), (69, 69, none), (72, 77, none), (47, 47, some 2), (47, 47, some 3), (47, 47, some 4), (47, 47, some 5), (47, 47, some 19), (47, 47, some 20), (47, 47, some 21), (47, 47, some 22)] M M1 := by
  intro s0 M hf
  unfold fX11_told_190 at hf
  cases hf
  exact sm_rf
theorem sX11_told_189 {r : Int32} {M1 : Mem} : ∀ {M : Mem}, fX11_told_189 M = some (r, M1) → sm [(51, 51, none), (54, 54, none), (57, 57, none), (60, 60, none), (63, 63, none), (66, 66, none), (69, 69, none), (72, 77, none), (47, 47, some 2), (47, 47, some 3), (47, 47, some 4), (47, 47, some 5), (47, 47, some 19), (47, 47, some 20), (47, 47, some 21), (47, 47, some 22)] M M1 := by
  intro M hf
  unfold fX11_told_189 at hf
  exact sX11_told_190 hf
theorem sX11_told_172 {r : Int32} {M1 : Mem} : ∀ {s1 : Int32} {M : Mem}, fX11_told_172 s1 M = some (r, M1) → sm [(51, 51, none), (54, 54, none), (57, 57, none), (60, 60, none), (63, 63, none), (66, 66, none), (69, 69, none), (72, 77, none), (47, 47, some 2), (47, 47, some 3), (47, 47, some 4), (47, 47, some 5), (47, 47, some 19), (47, 47, some 20), (47, 47, some 21), (47, 47, some 22)] M M1 := by
  intro s1 M hf
  unfold fX11_told_172 at hf
  obtain ⟨q172, c172, hf⟩ := br_b hf
  refine sm_tr (ssX11_passes c172) (by decide) ?_
  by_cases q175 : q172.1 = 0
  · have hf := (br_if hf).1 q175
    exact sX11_told_189 hf
  · have hf := (br_if hf).2 q175
    obtain ⟨q179, c179, hf⟩ := br_b hf
    refine sm_tr (ssX11_winRead c179) (by decide) ?_
    by_cases q182 : q179.1 = 0
    · have hf := (br_if hf).1 q182
      exact sX11_told_189 hf
    · have hf := (br_if hf).2 q182
      exact sX11_told_190 hf
theorem sX11_told_171 {r : Int32} {M1 : Mem} : ∀ {M : Mem}, fX11_told_171 M = some (r, M1) → sm [(51, 51, none), (54, 54, none), (57, 57, none), (60, 60, none), (63, 63, none), (66, 66, none), (69, 69, none), (72, 77, none), (47, 47, some 2), (47, 47, some 3), (47, 47, some 4), (47, 47, some 5), (47, 47, some 19), (47, 47, some 20), (47, 47, some 21), (47, 47, some 22)] M M1 := by
  intro M hf
  unfold fX11_told_171 at hf
  exact sX11_told_172 hf
theorem sX11_told_0 {r : Int32} {M1 : Mem} : ∀ {M : Mem}, fX11_told M = some (r, M1) → sm [(51, 51, none), (54, 54, none), (57, 57, none), (60, 60, none), (63, 63, none), (66, 66, none), (69, 69, none), (72, 77, none), (47, 47, some 2), (47, 47, some 3), (47, 47, some 4), (47, 47, some 5), (47, 47, some 19), (47, 47, some 20), (47, 47, some 21), (47, 47, some 22)] M M1 := by
  intro M hf
  unfold fX11_told at hf
  obtain ⟨q3, c3, hf⟩ := br_b hf
  by_cases q6 : q3 = 0
  · have hf := (br_if hf).1 q6
    obtain ⟨q33, c33, hf⟩ := br_b hf
    by_cases q36 : q33 = 0
    · have hf := (br_if hf).1 q36
      obtain ⟨q63, c63, hf⟩ := br_b hf
      by_cases q66 : q63 = 0
      · have hf := (br_if hf).1 q66
        obtain ⟨q108, c108, hf⟩ := br_b hf
        by_cases q111 : q108 = 0
        · have hf := (br_if hf).1 q111
          obtain ⟨q154, c154, hf⟩ := br_b hf
          by_cases q157 : q154 = 0
          · have hf := (br_if hf).1 q157
            exact sX11_told_171 hf
          · have hf := (br_if hf).2 q157
            by_cases q164 : (M.1 47 22) = 0
            · have hf := (br_if hf).1 q164
              exact sX11_told_172 hf
            · have hf := (br_if hf).2 q164
              exact sX11_told_171 hf
        · have hf := (br_if hf).2 q111
          by_cases q123 : (20 : Int32) ≤ (M.1 74 (ix (1 : Int32)))
          · have hf := (br_if hf).1 q123
            exact sX11_told_131 hf
          · have hf := (br_if hf).2 q123
            exact sX11_told_131 hf
      · have hf := (br_if hf).2 q66
        by_cases q78 : (15 : Int32) ≤ (M.1 73 (ix (1 : Int32)))
        · have hf := (br_if hf).1 q78
          exact sX11_told_86 hf
        · have hf := (br_if hf).2 q78
          exact sX11_told_86 hf
    · have hf := (br_if hf).2 q36
      obtain ⟨q41, c41, hf⟩ := br_b hf
      refine sm_tr (ssX11_passes c41) (by decide) ?_
      by_cases q44 : q41.1 = 0
      · have hf := (br_if hf).1 q44
        exact sX11_told_58 hf
      · have hf := (br_if hf).2 q44
        obtain ⟨q48, c48, hf⟩ := br_b hf
        refine sm_tr (ssX11_stretch c48) (by decide) ?_
        by_cases q51 : q48.1 = 0
        · have hf := (br_if hf).1 q51
          exact sX11_told_58 hf
        · have hf := (br_if hf).2 q51
          exact sX11_told_59 hf
  · have hf := (br_if hf).2 q6
    obtain ⟨q11, c11, hf⟩ := br_b hf
    refine sm_tr (ssX11_passes c11) (by decide) ?_
    by_cases q14 : q11.1 = 0
    · have hf := (br_if hf).1 q14
      exact sX11_told_28 hf
    · have hf := (br_if hf).2 q14
      obtain ⟨q18, c18, hf⟩ := br_b hf
      refine sm_tr (ssX11_near c18) (by decide) ?_
      by_cases q21 : q18.1 = 0
      · have hf := (br_if hf).1 q21
        exact sX11_told_28 hf
      · have hf := (br_if hf).2 q21
        exact sX11_told_29 hf
theorem ssX11_told {M : Mem} {r : Int32} {M1 : Mem} (h : fX11_told M = some (r, M1)) : sm [(51, 51, none), (54, 54, none), (57, 57, none), (60, 60, none), (63, 63, none), (66, 66, none), (69, 69, none), (72, 77, none), (47, 47, some 2), (47, 47, some 3), (47, 47, some 4), (47, 47, some 5), (47, 47, some 19), (47, 47, some 20), (47, 47, some 21), (47, 47, some 22)] M M1 := sX11_told_0 h
theorem sX11_reads_71 {M1 : Mem} {k94 : Int32 → Mem → Option Mem} (hk94 : ∀ {x1 : Int32} {M : Mem}, k94 x1 M = some M1 → sm [(51, 51, none), (54, 54, none), (57, 57, none), (60, 60, none), (63, 63, none), (66, 66, none), (69, 69, none), (72, 77, none), (47, 47, some 2), (47, 47, some 3), (47, 47, some 4), (47, 47, some 5), (47, 47, some 19), (47, 47, some 20), (47, 47, some 21), (47, 47, some 22)] M M1) : ∀ (n : Nat) {x1 : Int32} {M : Mem}, fX11_reads_71 k94 n x1 M = some M1 → sm [(51, 51, none), (54, 54, none), (57, 57, none), (60, 60, none), (63, 63, none), (66, 66, none), (69, 69, none), (72, 77, none), (47, 47, some 2), (47, 47, some 3), (47, 47, some 4), (47, 47, some 5), (47, 47, some 19), (47, 47, some 20), (47, 47, some 21), (47, 47, some 22)] M M1 := by
  intro n
  induction n with
  | zero =>
    intro x1 M hf
    exact absurd (show none = some _ from hf) (fun h => by cases h)
  | succ n ih =>
    intro x1 M hf
    rw [fX11_reads_71] at hf
    by_cases q72 : x1 = 0
    · have hf := (br_if hf).1 q72
      exact hk94 hf
    · have hf := (br_if hf).2 q72
      by_cases q83 : (M.1 47 1) ≤ (M.1 47 2)
      · have hf := (br_if hf).1 q83
        exact hk94 hf
      · have hf := (br_if hf).2 q83
        obtain ⟨q87, c87, hf⟩ := br_b hf
        refine sm_tr (ssX11_told c87) (by decide) ?_
        obtain ⟨v90, e90⟩ : ∃ y : Int32, y = q87.1 := ⟨_, rfl⟩
        have hf := nx_at e90 hf
        exact ih hf
theorem sX11_reads_115 {M1 : Mem} : ∀ {M : Mem}, fX11_reads_115 M = some M1 → sm [(51, 51, none), (54, 54, none), (57, 57, none), (60, 60, none), (63, 63, none), (66, 66, none), (69, 69, none), (72, 77, none), (47, 47, some 2), (47, 47, some 3), (47, 47, some 4), (47, 47, some 5), (47, 47, some 19), (47, 47, some 20), (47, 47, some 21), (47, 47, some 22)] M M1 := by
  intro M hf
  unfold fX11_reads_115 at hf
  cases hf
  exact sm_rf
theorem sX11_reads_94 {M1 : Mem} : ∀ {x1 : Int32} {M : Mem}, fX11_reads_94 x1 M = some M1 → sm [(51, 51, none), (54, 54, none), (57, 57, none), (60, 60, none), (63, 63, none), (66, 66, none), (69, 69, none), (72, 77, none), (47, 47, some 2), (47, 47, some 3), (47, 47, some 4), (47, 47, some 5), (47, 47, some 19), (47, 47, some 20), (47, 47, some 21), (47, 47, some 22)] M M1 := by
  intro x1 M hf
  unfold fX11_reads_94 at hf
  by_cases q95 : x1 = 0
  · have hf := (br_if hf).1 q95
    exact sX11_reads_115 hf
  · have hf := (br_if hf).2 q95
    by_cases q104 : (M.1 73 (ix (1 : Int32))) = 0
    · have hf := (br_if hf).1 q104
      obtain ⟨M112, e112⟩ : ∃ y : Mem, y = (sI M 47 4 (M.1 47 1)) := ⟨_, rfl⟩
      have hf := nx_at e112 hf
      refine sm_I e112 (inS_up (L0 := [(47, 47, some 4)]) (by decide) (inS_s 47 4)) ?_
      exact sX11_reads_115 hf
    · have hf := (br_if hf).2 q104
      exact sX11_reads_115 hf
theorem sX11_reads_0 {M1 : Mem} : ∀ {M : Mem}, fX11_reads M = some M1 → sm [(51, 51, none), (54, 54, none), (57, 57, none), (60, 60, none), (63, 63, none), (66, 66, none), (69, 69, none), (72, 77, none), (47, 47, some 2), (47, 47, some 3), (47, 47, some 4), (47, 47, some 5), (47, 47, some 19), (47, 47, some 20), (47, 47, some 21), (47, 47, some 22)] M M1 := by
  intro M hf
  unfold fX11_reads at hf
  obtain ⟨M2, e2⟩ : ∃ y : Mem, y = (sI M 47 4 (-1 : Int32)) := ⟨_, rfl⟩
  have hf := nx_at e2 hf
  refine sm_I e2 (inS_up (L0 := [(47, 47, some 4)]) (by decide) (inS_s 47 4)) ?_
  obtain ⟨M11, e11⟩ : ∃ y : Mem, y = (sI M2 73 (ix (1 : Int32)) (0 : Int32)) := ⟨_, rfl⟩
  have hf := nx_at e11 hf
  refine sm_I e11 (inS_up (L0 := [(73, 73, none)]) (by decide) (inS_n 73 _)) ?_
  obtain ⟨M18, e18⟩ : ∃ y : Mem, y = (sI M11 74 (ix (1 : Int32)) (0 : Int32)) := ⟨_, rfl⟩
  have hf := nx_at e18 hf
  refine sm_I e18 (inS_up (L0 := [(74, 74, none)]) (by decide) (inS_n 74 _)) ?_
  obtain ⟨M25, e25⟩ : ∃ y : Mem, y = (sI M18 75 (ix (1 : Int32)) (0 : Int32)) := ⟨_, rfl⟩
  have hf := nx_at e25 hf
  refine sm_I e25 (inS_up (L0 := [(75, 75, none)]) (by decide) (inS_n 75 _)) ?_
  obtain ⟨M32, e32⟩ : ∃ y : Mem, y = (sI M25 76 (ix (1 : Int32)) (1 : Int32)) := ⟨_, rfl⟩
  have hf := nx_at e32 hf
  refine sm_I e32 (inS_up (L0 := [(76, 76, none)]) (by decide) (inS_n 76 _)) ?_
  obtain ⟨M39, e39⟩ : ∃ y : Mem, y = (sI M32 77 (ix (1 : Int32)) (2 : Int32)) := ⟨_, rfl⟩
  have hf := nx_at e39 hf
  refine sm_I e39 (inS_up (L0 := [(77, 77, none)]) (by decide) (inS_n 77 _)) ?_
  obtain ⟨M42, e42⟩ : ∃ y : Mem, y = (sI M39 47 19 (0 : Int32)) := ⟨_, rfl⟩
  have hf := nx_at e42 hf
  refine sm_I e42 (inS_up (L0 := [(47, 47, some 19)]) (by decide) (inS_s 47 19)) ?_
  obtain ⟨M47, e47⟩ : ∃ y : Mem, y = (sI M42 47 20 (1 : Int32)) := ⟨_, rfl⟩
  have hf := nx_at e47 hf
  refine sm_I e47 (inS_up (L0 := [(47, 47, some 20)]) (by decide) (inS_s 47 20)) ?_
  obtain ⟨M52, e52⟩ : ∃ y : Mem, y = (sI M47 47 21 (1 : Int32)) := ⟨_, rfl⟩
  have hf := nx_at e52 hf
  refine sm_I e52 (inS_up (L0 := [(47, 47, some 21)]) (by decide) (inS_s 47 21)) ?_
  obtain ⟨M57, e57⟩ : ∃ y : Mem, y = (sI M52 47 22 (0 : Int32)) := ⟨_, rfl⟩
  have hf := nx_at e57 hf
  refine sm_I e57 (inS_up (L0 := [(47, 47, some 22)]) (by decide) (inS_s 47 22)) ?_
  obtain ⟨M62, e62⟩ : ∃ y : Mem, y = (sI M57 47 2 (0 : Int32)) := ⟨_, rfl⟩
  have hf := nx_at e62 hf
  refine sm_I e62 (inS_up (L0 := [(47, 47, some 2)]) (by decide) (inS_s 47 2)) ?_
  obtain ⟨q66, c66, hf⟩ := br_b hf
  refine sm_tr (ssX11_skips c66) (by decide) ?_
  exact sX11_reads_71 (fun hf => sX11_reads_94 hf) FU hf
theorem ssX11_reads {M : Mem} {M1 : Mem} (h : fX11_reads M = some M1) : sm [(51, 51, none), (54, 54, none), (57, 57, none), (60, 60, none), (63, 63, none), (66, 66, none), (69, 69, none), (72, 77, none), (47, 47, some 2), (47, 47, some 3), (47, 47, some 4), (47, 47, some 5), (47, 47, some 19), (47, 47, some 20), (47, 47, some 21), (47, 47, some 22)] M M1 := sX11_reads_0 h
theorem sX11_fault_0 {r : Int32} {M1 : Mem} : ∀ {M : Mem}, fX11_fault M = some (r, M1) → sm [(51, 51, none), (54, 54, none), (57, 57, none), (60, 60, none), (63, 63, none), (66, 66, none), (69, 69, none), (72, 77, none), (47, 47, some 2), (47, 47, some 3), (47, 47, some 4), (47, 47, some 5), (47, 47, some 19), (47, 47, some 20), (47, 47, some 21), (47, 47, some 22)] M M1 := by
  intro M hf
  unfold fX11_fault at hf
  obtain ⟨q1, c1, hf⟩ := br_b hf
  refine sm_tr (ssX11_reads c1) (by decide) ?_
  cases hf
  exact sm_rf
theorem ssX11_fault {M : Mem} {r : Int32} {M1 : Mem} (h : fX11_fault M = some (r, M1)) : sm [(51, 51, none), (54, 54, none), (57, 57, none), (60, 60, none), (63, 63, none), (66, 66, none), (69, 69, none), (72, 77, none), (47, 47, some 2), (47, 47, some 3), (47, 47, some 4), (47, 47, some 5), (47, 47, some 19), (47, 47, some 20), (47, 47, some 21), (47, 47, some 22)] M M1 := sX11_fault_0 h
theorem sX11_feeds_2 {M1 : Mem} {k38 : Mem → Option Mem} (hk38 : ∀ {M : Mem}, k38 M = some M1 → sm [(48, 48, none), (47, 47, some 1)] M M1) : ∀ (n : Nat) {x1 : Int32} {x2 : Int32} {M : Mem}, fX11_feeds_2 k38 n x1 x2 M = some M1 → sm [(48, 48, none), (47, 47, some 1)] M M1 := by
  intro n
  induction n with
  | zero =>
    intro x1 x2 M hf
    exact absurd (show none = some _ from hf) (fun h => by cases h)
  | succ n ih =>
    intro x1 x2 M hf
    rw [fX11_feeds_2] at hf
    by_cases q3 : x2 < 0
    · have hf := (br_if hf).1 q3
      exact hk38 hf
    · have hf := (br_if hf).2 q3
      obtain ⟨g21, hf⟩ := br_g hf
      obtain ⟨M21, e21⟩ : ∃ y : Mem, y = (sI M 48 (ix (M.1 47 1)) (ush x1 ((8 : Int32) * x2)).toInt8.toInt32.toInt8.toInt32) := ⟨_, rfl⟩
      have hf := nx_at e21 hf
      refine sm_I e21 (inS_up (L0 := [(48, 48, none)]) (by decide) (inS_n 48 _)) ?_
      obtain ⟨M29, e29⟩ : ∃ y : Mem, y = (sI M21 47 1 ((M21.1 47 1) + (1 : Int32))) := ⟨_, rfl⟩
      have hf := nx_at e29 hf
      refine sm_I e29 (inS_up (L0 := [(47, 47, some 1)]) (by decide) (inS_s 47 1)) ?_
      obtain ⟨v32, e32⟩ : ∃ y : Int32, y = (x2 + (-1 : Int32)) := ⟨_, rfl⟩
      have hf := nx_at e32 hf
      exact ih hf
theorem sX11_feeds_38 {M1 : Mem} : ∀ {M : Mem}, fX11_feeds_38 M = some M1 → sm [(48, 48, none), (47, 47, some 1)] M M1 := by
  intro M hf
  unfold fX11_feeds_38 at hf
  cases hf
  exact sm_rf
theorem sX11_feeds_0 {M1 : Mem} : ∀ {x1 : Int32} {M : Mem}, fX11_feeds x1 M = some M1 → sm [(48, 48, none), (47, 47, some 1)] M M1 := by
  intro x1 M hf
  unfold fX11_feeds at hf
  exact sX11_feeds_2 (fun hf => sX11_feeds_38 hf) FU hf
theorem ssX11_feeds {x1 : Int32} {M : Mem} {M1 : Mem} (h : fX11_feeds x1 M = some M1) : sm [(48, 48, none), (47, 47, some 1)] M M1 := sX11_feeds_0 h
theorem sX11_feed_0 {r : Int32} {M1 : Mem} : ∀ {x1 : Int32} {x2 : Int32} {x3 : Int32} {x4 : Int32} {x5 : Int32} {M : Mem}, fX11_feed x1 x2 x3 x4 x5 M = some (r, M1) → sm [(48, 48, none), (47, 47, some 1)] M M1 := by
  intro x1 x2 x3 x4 x5 M hf
  unfold fX11_feed at hf
  by_cases q10 : ((M.1 47 1) + (20 : Int32)) ≤ (600 : Int32)
  · have hf := (br_if hf).1 q10
    obtain ⟨q17, c17, hf⟩ := br_b hf
    refine sm_tr (ssX11_feeds c17) (by decide) ?_
    obtain ⟨q22, c22, hf⟩ := br_b hf
    refine sm_tr (ssX11_feeds c22) (by decide) ?_
    obtain ⟨q27, c27, hf⟩ := br_b hf
    refine sm_tr (ssX11_feeds c27) (by decide) ?_
    obtain ⟨q33, c33, hf⟩ := br_b hf
    refine sm_tr (ssX11_feeds c33) (by decide) ?_
    obtain ⟨q39, c39, hf⟩ := br_b hf
    refine sm_tr (ssX11_feeds c39) (by decide) ?_
    cases hf
    exact sm_rf
  · have hf := (br_if hf).2 q10
    cases hf
    exact sm_rf
theorem ssX11_feed {x1 : Int32} {x2 : Int32} {x3 : Int32} {x4 : Int32} {x5 : Int32} {M : Mem} {r : Int32} {M1 : Mem} (h : fX11_feed x1 x2 x3 x4 x5 M = some (r, M1)) : sm [(48, 48, none), (47, 47, some 1)] M M1 := sX11_feed_0 h
theorem sX11_floods_179 {M1 : Mem} {k52 : Int32 → Int32 → Int32 → Int32 → Int32 → Int32 → Mem → Option Mem} {k185 : Int32 → Int32 → Int32 → Mem → Option Mem} (hk52 : ∀ {x2 : Int32} {x3 : Int32} {x4 : Int32} {x5 : Int32} {x6 : Int32} {x7 : Int32} {M : Mem}, k52 x2 x3 x4 x5 x6 x7 M = some M1 → sm [(85, 86, none)] M M1) (hk185 : ∀ {x2 : Int32} {x3 : Int32} {x4 : Int32} {M : Mem}, k185 x2 x3 x4 M = some M1 → sm [(85, 86, none)] M M1) : ∀ {x2 : Int32} {x3 : Int32} {x4 : Int32} {x5 : Int32} {x6 : Int32} {x7 : Int32} {M : Mem}, fX11_floods_179 k52 k185 x2 x3 x4 x5 x6 x7 M = some M1 → sm [(85, 86, none)] M M1 := by
  intro x2 x3 x4 x5 x6 x7 M hf
  unfold fX11_floods_179 at hf
  obtain ⟨v179, e179⟩ : ∃ y : Int32, y = (x7 + (1 : Int32)) := ⟨_, rfl⟩
  have hf := nx_at e179 hf
  exact hk52 hf
theorem sX11_floods_115 {M1 : Mem} {k52 : Int32 → Int32 → Int32 → Int32 → Int32 → Int32 → Mem → Option Mem} {k185 : Int32 → Int32 → Int32 → Mem → Option Mem} (hk52 : ∀ {x2 : Int32} {x3 : Int32} {x4 : Int32} {x5 : Int32} {x6 : Int32} {x7 : Int32} {M : Mem}, k52 x2 x3 x4 x5 x6 x7 M = some M1 → sm [(85, 86, none)] M M1) (hk185 : ∀ {x2 : Int32} {x3 : Int32} {x4 : Int32} {M : Mem}, k185 x2 x3 x4 M = some M1 → sm [(85, 86, none)] M M1) : ∀ {x2 : Int32} {x3 : Int32} {x4 : Int32} {x5 : Int32} {x6 : Int32} {x7 : Int32} {x8 : Int32} {s0 : Int32} {M : Mem}, fX11_floods_115 k52 k185 x2 x3 x4 x5 x6 x7 x8 s0 M = some M1 → sm [(85, 86, none)] M M1 := by
  intro x2 x3 x4 x5 x6 x7 x8 s0 M hf
  unfold fX11_floods_115 at hf
  obtain ⟨q121, c121, hf⟩ := br_b hf
  by_cases q124 : q121 = 0
  · have hf := (br_if hf).1 q124
    exact sX11_floods_179 (fun hf => hk52 hf) (fun hf => hk185 hf) hf
  · have hf := (br_if hf).2 q124
    obtain ⟨g139, hf⟩ := br_g hf
    by_cases q142 : (M.1 85 (ix (((100 : Int32) * x8) + s0))) = (-2 : Int32)
    · have hf := (br_if hf).1 q142
      obtain ⟨g161, hf⟩ := br_g hf
      obtain ⟨M161, e161⟩ : ∃ y : Mem, y = (sI M 85 (ix (((100 : Int32) * x8) + s0)) x2) := ⟨_, rfl⟩
      have hf := nx_at e161 hf
      refine sm_I e161 (inS_up (L0 := [(85, 85, none)]) (by decide) (inS_n 85 _)) ?_
      obtain ⟨g175, hf⟩ := br_g hf
      obtain ⟨M175, e175⟩ : ∃ y : Mem, y = (sI M161 86 (ix x3) (((100 : Int32) * x8) + s0)) := ⟨_, rfl⟩
      have hf := nx_at e175 hf
      refine sm_I e175 (inS_up (L0 := [(86, 86, none)]) (by decide) (inS_n 86 _)) ?_
      obtain ⟨v176, e176⟩ : ∃ y : Int32, y = (x3 + (1 : Int32)) := ⟨_, rfl⟩
      have hf := nx_at e176 hf
      exact sX11_floods_179 (fun hf => hk52 hf) (fun hf => hk185 hf) hf
    · have hf := (br_if hf).2 q142
      exact sX11_floods_179 (fun hf => hk52 hf) (fun hf => hk185 hf) hf
theorem sX11_floods_85 {M1 : Mem} {k52 : Int32 → Int32 → Int32 → Int32 → Int32 → Int32 → Mem → Option Mem} {k185 : Int32 → Int32 → Int32 → Mem → Option Mem} (hk52 : ∀ {x2 : Int32} {x3 : Int32} {x4 : Int32} {x5 : Int32} {x6 : Int32} {x7 : Int32} {M : Mem}, k52 x2 x3 x4 x5 x6 x7 M = some M1 → sm [(85, 86, none)] M M1) (hk185 : ∀ {x2 : Int32} {x3 : Int32} {x4 : Int32} {M : Mem}, k185 x2 x3 x4 M = some M1 → sm [(85, 86, none)] M M1) : ∀ {x2 : Int32} {x3 : Int32} {x4 : Int32} {x5 : Int32} {x6 : Int32} {x7 : Int32} {s0 : Int32} {M : Mem}, fX11_floods_85 k52 k185 x2 x3 x4 x5 x6 x7 s0 M = some M1 → sm [(85, 86, none)] M M1 := by
  intro x2 x3 x4 x5 x6 x7 s0 M hf
  unfold fX11_floods_85 at hf
  by_cases q90 : x7 = (2 : Int32)
  · have hf := (br_if hf).1 q90
    exact sX11_floods_115 (fun hf => hk52 hf) (fun hf => hk185 hf) hf
  · have hf := (br_if hf).2 q90
    by_cases q103 : x7 = (3 : Int32)
    · have hf := (br_if hf).1 q103
      exact sX11_floods_115 (fun hf => hk52 hf) (fun hf => hk185 hf) hf
    · have hf := (br_if hf).2 q103
      exact sX11_floods_115 (fun hf => hk52 hf) (fun hf => hk185 hf) hf
theorem sX11_floods_52 {M1 : Mem} {k185 : Int32 → Int32 → Int32 → Mem → Option Mem} (hk185 : ∀ {x2 : Int32} {x3 : Int32} {x4 : Int32} {M : Mem}, k185 x2 x3 x4 M = some M1 → sm [(85, 86, none)] M M1) : ∀ (n : Nat) {x2 : Int32} {x3 : Int32} {x4 : Int32} {x5 : Int32} {x6 : Int32} {x7 : Int32} {M : Mem}, fX11_floods_52 k185 n x2 x3 x4 x5 x6 x7 M = some M1 → sm [(85, 86, none)] M M1 := by
  intro n
  induction n with
  | zero =>
    intro x2 x3 x4 x5 x6 x7 M hf
    exact absurd (show none = some _ from hf) (fun h => by cases h)
  | succ n ih =>
    intro x2 x3 x4 x5 x6 x7 M hf
    rw [fX11_floods_52] at hf
    by_cases q55 : (4 : Int32) ≤ x7
    · have hf := (br_if hf).1 q55
      exact hk185 hf
    · have hf := (br_if hf).2 q55
      by_cases q60 : x7 = 0
      · have hf := (br_if hf).1 q60
        exact sX11_floods_85 (fun hf => ih hf) (fun hf => hk185 hf) hf
      · have hf := (br_if hf).2 q60
        by_cases q73 : x7 = (1 : Int32)
        · have hf := (br_if hf).1 q73
          exact sX11_floods_85 (fun hf => ih hf) (fun hf => hk185 hf) hf
        · have hf := (br_if hf).2 q73
          exact sX11_floods_85 (fun hf => ih hf) (fun hf => hk185 hf) hf
theorem sX11_floods_185 {M1 : Mem} {k19 : Int32 → Int32 → Int32 → Mem → Option Mem} {k191 : Mem → Option Mem} (hk19 : ∀ {x2 : Int32} {x3 : Int32} {x4 : Int32} {M : Mem}, k19 x2 x3 x4 M = some M1 → sm [(85, 86, none)] M M1) (hk191 : ∀ {M : Mem}, k191 M = some M1 → sm [(85, 86, none)] M M1) : ∀ {x2 : Int32} {x3 : Int32} {x4 : Int32} {M : Mem}, fX11_floods_185 k19 k191 x2 x3 x4 M = some M1 → sm [(85, 86, none)] M M1 := by
  intro x2 x3 x4 M hf
  unfold fX11_floods_185 at hf
  obtain ⟨v185, e185⟩ : ∃ y : Int32, y = (x4 + (1 : Int32)) := ⟨_, rfl⟩
  have hf := nx_at e185 hf
  exact hk19 hf
theorem sX11_floods_19 {M1 : Mem} {k191 : Mem → Option Mem} (hk191 : ∀ {M : Mem}, k191 M = some M1 → sm [(85, 86, none)] M M1) : ∀ (n : Nat) {x2 : Int32} {x3 : Int32} {x4 : Int32} {M : Mem}, fX11_floods_19 k191 n x2 x3 x4 M = some M1 → sm [(85, 86, none)] M M1 := by
  intro n
  induction n with
  | zero =>
    intro x2 x3 x4 M hf
    exact absurd (show none = some _ from hf) (fun h => by cases h)
  | succ n ih =>
    intro x2 x3 x4 M hf
    rw [fX11_floods_19] at hf
    by_cases q22 : x3 ≤ x4
    · have hf := (br_if hf).1 q22
      exact hk191 hf
    · have hf := (br_if hf).2 q22
      obtain ⟨g31, hf⟩ := br_g hf
      obtain ⟨v35, e35⟩ : ∃ y : Int32, y = ((M.1 86 (ix x4)) / (100 : Int32)) := ⟨_, rfl⟩
      have hf := nx_at e35 hf
      obtain ⟨g43, hf⟩ := br_g hf
      obtain ⟨v47, e47⟩ : ∃ y : Int32, y = (irm (M.1 86 (ix x4)) (100 : Int32)) := ⟨_, rfl⟩
      have hf := nx_at e47 hf
      exact sX11_floods_52 (fun hf => sX11_floods_185 (fun hf => ih hf) (fun hf => hk191 hf) hf) FU hf
theorem sX11_floods_191 {M1 : Mem} : ∀ {M : Mem}, fX11_floods_191 M = some M1 → sm [(85, 86, none)] M M1 := by
  intro M hf
  unfold fX11_floods_191 at hf
  cases hf
  exact sm_rf
theorem sX11_floods_0 {M1 : Mem} : ∀ {x1 : Int32} {x2 : Int32} {M : Mem}, fX11_floods x1 x2 M = some M1 → sm [(85, 86, none)] M M1 := by
  intro x1 x2 M hf
  unfold fX11_floods at hf
  obtain ⟨M8, e8⟩ : ∃ y : Mem, y = (sI M 86 (ix (0 : Int32)) x1) := ⟨_, rfl⟩
  have hf := nx_at e8 hf
  refine sm_I e8 (inS_up (L0 := [(86, 86, none)]) (by decide) (inS_n 86 _)) ?_
  obtain ⟨g15, hf⟩ := br_g hf
  obtain ⟨M15, e15⟩ : ∃ y : Mem, y = (sI M8 85 (ix x1) x2) := ⟨_, rfl⟩
  have hf := nx_at e15 hf
  refine sm_I e15 (inS_up (L0 := [(85, 85, none)]) (by decide) (inS_n 85 _)) ?_
  exact sX11_floods_19 (fun hf => sX11_floods_191 hf) FU hf
theorem ssX11_floods {x1 : Int32} {x2 : Int32} {M : Mem} {M1 : Mem} (h : fX11_floods x1 x2 M = some M1) : sm [(85, 86, none)] M M1 := sX11_floods_0 h
theorem sX11_finds_67 {M1 : Mem} {k12 : Int32 → Int32 → Int32 → Mem → Option Mem} {k77 : Mem → Option Mem} (hk12 : ∀ {x1 : Int32} {x2 : Int32} {x3 : Int32} {M : Mem}, k12 x1 x2 x3 M = some M1 → sm [(85, 86, none), (47, 47, some 37), (47, 47, some 38)] M M1) (hk77 : ∀ {M : Mem}, k77 M = some M1 → sm [(85, 86, none), (47, 47, some 37), (47, 47, some 38)] M M1) : ∀ {x1 : Int32} {x2 : Int32} {x3 : Int32} {s1 : Int32} {s2 : Int32} {M : Mem}, fX11_finds_67 k12 k77 x1 x2 x3 s1 s2 M = some M1 → sm [(85, 86, none), (47, 47, some 37), (47, 47, some 38)] M M1 := by
  intro x1 x2 x3 s1 s2 M hf
  unfold fX11_finds_67 at hf
  obtain ⟨M68, e68⟩ : ∃ y : Mem, y = (sI M 47 38 (s1 + s2)) := ⟨_, rfl⟩
  have hf := nx_at e68 hf
  refine sm_I e68 (inS_up (L0 := [(47, 47, some 38)]) (by decide) (inS_s 47 38)) ?_
  obtain ⟨v71, e71⟩ : ∃ y : Int32, y = (x3 + (1 : Int32)) := ⟨_, rfl⟩
  have hf := nx_at e71 hf
  exact hk12 hf
theorem sX11_finds_51 {M1 : Mem} {k12 : Int32 → Int32 → Int32 → Mem → Option Mem} {k77 : Mem → Option Mem} (hk12 : ∀ {x1 : Int32} {x2 : Int32} {x3 : Int32} {M : Mem}, k12 x1 x2 x3 M = some M1 → sm [(85, 86, none), (47, 47, some 37), (47, 47, some 38)] M M1) (hk77 : ∀ {M : Mem}, k77 M = some M1 → sm [(85, 86, none), (47, 47, some 37), (47, 47, some 38)] M M1) : ∀ {x1 : Int32} {x2 : Int32} {x3 : Int32} {x4 : Int32} {s1 : Int32} {s2 : Int32} {M : Mem}, fX11_finds_51 k12 k77 x1 x2 x3 x4 s1 s2 M = some M1 → sm [(85, 86, none), (47, 47, some 37), (47, 47, some 38)] M M1 := by
  intro x1 x2 x3 x4 s1 s2 M hf
  unfold fX11_finds_51 at hf
  obtain ⟨g51, hf⟩ := br_g hf
  obtain ⟨M51, e51⟩ : ∃ y : Mem, y = (sI M 85 (ix s1) s2) := ⟨_, rfl⟩
  have hf := nx_at e51 hf
  refine sm_I e51 (inS_up (L0 := [(85, 85, none)]) (by decide) (inS_n 85 _)) ?_
  by_cases q59 : x4 = 0
  · have hf := (br_if hf).1 q59
    exact sX11_finds_67 (fun hf => hk12 hf) (fun hf => hk77 hf) hf
  · have hf := (br_if hf).2 q59
    exact sX11_finds_67 (fun hf => hk12 hf) (fun hf => hk77 hf) hf
theorem sX11_finds_12 {M1 : Mem} {k77 : Mem → Option Mem} (hk77 : ∀ {M : Mem}, k77 M = some M1 → sm [(85, 86, none), (47, 47, some 37), (47, 47, some 38)] M M1) : ∀ (n : Nat) {x1 : Int32} {x2 : Int32} {x3 : Int32} {M : Mem}, fX11_finds_12 k77 n x1 x2 x3 M = some M1 → sm [(85, 86, none), (47, 47, some 37), (47, 47, some 38)] M M1 := by
  intro n
  induction n with
  | zero =>
    intro x1 x2 x3 M hf
    exact absurd (show none = some _ from hf) (fun h => by cases h)
  | succ n ih =>
    intro x1 x2 x3 M hf
    rw [fX11_finds_12] at hf
    by_cases q16 : (10000 : Int32) ≤ x3
    · have hf := (br_if hf).1 q16
      exact hk77 hf
    · have hf := (br_if hf).2 q16
      obtain ⟨q30, c30, hf⟩ := br_b hf
      by_cases q42 : q30 = 0
      · have hf := (br_if hf).1 q42
        exact sX11_finds_51 (fun hf => ih hf) (fun hf => hk77 hf) hf
      · have hf := (br_if hf).2 q42
        exact sX11_finds_51 (fun hf => ih hf) (fun hf => hk77 hf) hf
theorem sX11_finds_119 {M1 : Mem} {k79 : Int32 → Mem → Option Mem} {k125 : Mem → Option Mem} (hk79 : ∀ {x3 : Int32} {M : Mem}, k79 x3 M = some M1 → sm [(85, 86, none), (47, 47, some 37), (47, 47, some 38)] M M1) (hk125 : ∀ {M : Mem}, k125 M = some M1 → sm [(85, 86, none), (47, 47, some 37), (47, 47, some 38)] M M1) : ∀ {x3 : Int32} {M : Mem}, fX11_finds_119 k79 k125 x3 M = some M1 → sm [(85, 86, none), (47, 47, some 37), (47, 47, some 38)] M M1 := by
  intro x3 M hf
  unfold fX11_finds_119 at hf
  obtain ⟨v119, e119⟩ : ∃ y : Int32, y = (x3 + (1 : Int32)) := ⟨_, rfl⟩
  have hf := nx_at e119 hf
  exact hk79 hf
theorem sX11_finds_79 {M1 : Mem} {k125 : Mem → Option Mem} (hk125 : ∀ {M : Mem}, k125 M = some M1 → sm [(85, 86, none), (47, 47, some 37), (47, 47, some 38)] M M1) : ∀ (n : Nat) {x3 : Int32} {M : Mem}, fX11_finds_79 k125 n x3 M = some M1 → sm [(85, 86, none), (47, 47, some 37), (47, 47, some 38)] M M1 := by
  intro n
  induction n with
  | zero =>
    intro x3 M hf
    exact absurd (show none = some _ from hf) (fun h => by cases h)
  | succ n ih =>
    intro x3 M hf
    rw [fX11_finds_79] at hf
    by_cases q83 : (10000 : Int32) ≤ x3
    · have hf := (br_if hf).1 q83
      exact hk125 hf
    · have hf := (br_if hf).2 q83
      obtain ⟨g91, hf⟩ := br_g hf
      by_cases q94 : (M.1 85 (ix x3)) = (-2 : Int32)
      · have hf := (br_if hf).1 q94
        obtain ⟨q106, c106, hf⟩ := br_b hf
        refine sm_tr (ssX11_floods c106) (by decide) ?_
        obtain ⟨M116, e116⟩ : ∃ y : Mem, y = (sI q106 47 37 ((q106.1 47 37) + (1 : Int32))) := ⟨_, rfl⟩
        have hf := nx_at e116 hf
        refine sm_I e116 (inS_up (L0 := [(47, 47, some 37)]) (by decide) (inS_s 47 37)) ?_
        exact sX11_finds_119 (fun hf => ih hf) (fun hf => hk125 hf) hf
      · have hf := (br_if hf).2 q94
        exact sX11_finds_119 (fun hf => ih hf) (fun hf => hk125 hf) hf
theorem sX11_finds_125 {M1 : Mem} : ∀ {M : Mem}, fX11_finds_125 M = some M1 → sm [(85, 86, none), (47, 47, some 37), (47, 47, some 38)] M M1 := by
  intro M hf
  unfold fX11_finds_125 at hf
  cases hf
  exact sm_rf
theorem sX11_finds_77 {M1 : Mem} : ∀ {M : Mem}, fX11_finds_77 M = some M1 → sm [(85, 86, none), (47, 47, some 37), (47, 47, some 38)] M M1 := by
  intro M hf
  unfold fX11_finds_77 at hf
  exact sX11_finds_79 (fun hf => sX11_finds_125 hf) FU hf
theorem sX11_finds_0 {M1 : Mem} : ∀ {x1 : Int32} {x2 : Int32} {M : Mem}, fX11_finds x1 x2 M = some M1 → sm [(85, 86, none), (47, 47, some 37), (47, 47, some 38)] M M1 := by
  intro x1 x2 M hf
  unfold fX11_finds at hf
  obtain ⟨M2, e2⟩ : ∃ y : Mem, y = (sI M 47 38 (0 : Int32)) := ⟨_, rfl⟩
  have hf := nx_at e2 hf
  refine sm_I e2 (inS_up (L0 := [(47, 47, some 38)]) (by decide) (inS_s 47 38)) ?_
  obtain ⟨M7, e7⟩ : ∃ y : Mem, y = (sI M2 47 37 (0 : Int32)) := ⟨_, rfl⟩
  have hf := nx_at e7 hf
  refine sm_I e7 (inS_up (L0 := [(47, 47, some 37)]) (by decide) (inS_s 47 37)) ?_
  exact sX11_finds_12 (fun hf => sX11_finds_77 hf) FU hf
theorem ssX11_finds {x1 : Int32} {x2 : Int32} {M : Mem} {M1 : Mem} (h : fX11_finds x1 x2 M = some M1) : sm [(85, 86, none), (47, 47, some 37), (47, 47, some 38)] M M1 := sX11_finds_0 h
theorem sX11_isLot_121 {r : Int32} {M1 : Mem} {k13 : Int32 → Int32 → Int64 → Int32 → Int32 → Int32 → Mem → Option (Int32 × Mem)} {k127 : Int32 → Int64 → Int32 → Int32 → Mem → Option (Int32 × Mem)} (hk13 : ∀ {x1 : Int32} {x2 : Int32} {y3 : Int64} {x5 : Int32} {x6 : Int32} {x7 : Int32} {M : Mem}, k13 x1 x2 y3 x5 x6 x7 M = some (r, M1) → sm [(97, 97, none)] M M1) (hk127 : ∀ {x1 : Int32} {y3 : Int64} {x5 : Int32} {x6 : Int32} {M : Mem}, k127 x1 y3 x5 x6 M = some (r, M1) → sm [(97, 97, none)] M M1) : ∀ {x1 : Int32} {x2 : Int32} {y3 : Int64} {x5 : Int32} {x6 : Int32} {x7 : Int32} {M : Mem}, fX11_isLot_121 k13 k127 x1 x2 y3 x5 x6 x7 M = some (r, M1) → sm [(97, 97, none)] M M1 := by
  intro x1 x2 y3 x5 x6 x7 M hf
  unfold fX11_isLot_121 at hf
  obtain ⟨v121, e121⟩ : ∃ y : Int32, y = (x7 + (1 : Int32)) := ⟨_, rfl⟩
  have hf := nx_at e121 hf
  exact hk13 hf
theorem sX11_isLot_106 {r : Int32} {M1 : Mem} {k13 : Int32 → Int32 → Int64 → Int32 → Int32 → Int32 → Mem → Option (Int32 × Mem)} {k127 : Int32 → Int64 → Int32 → Int32 → Mem → Option (Int32 × Mem)} (hk13 : ∀ {x1 : Int32} {x2 : Int32} {y3 : Int64} {x5 : Int32} {x6 : Int32} {x7 : Int32} {M : Mem}, k13 x1 x2 y3 x5 x6 x7 M = some (r, M1) → sm [(97, 97, none)] M M1) (hk127 : ∀ {x1 : Int32} {y3 : Int64} {x5 : Int32} {x6 : Int32} {M : Mem}, k127 x1 y3 x5 x6 M = some (r, M1) → sm [(97, 97, none)] M M1) : ∀ {x1 : Int32} {x2 : Int32} {y3 : Int64} {x6 : Int32} {x7 : Int32} {s0 : Int32} {s1 : Int32} {M : Mem}, fX11_isLot_106 k13 k127 x1 x2 y3 x6 x7 s0 s1 M = some (r, M1) → sm [(97, 97, none)] M M1 := by
  intro x1 x2 y3 x6 x7 s0 s1 M hf
  unfold fX11_isLot_106 at hf
  obtain ⟨v107, e107⟩ : ∃ y : Int32, y = (s0 + s1) := ⟨_, rfl⟩
  have hf := nx_at e107 hf
  obtain ⟨g116, hf⟩ := br_g hf
  obtain ⟨q117, c117, hf⟩ := br_b hf
  exact sX11_isLot_121 (fun hf => hk13 hf) (fun hf => hk127 hf) hf
theorem sX11_isLot_84 {r : Int32} {M1 : Mem} {k13 : Int32 → Int32 → Int64 → Int32 → Int32 → Int32 → Mem → Option (Int32 × Mem)} {k127 : Int32 → Int64 → Int32 → Int32 → Mem → Option (Int32 × Mem)} (hk13 : ∀ {x1 : Int32} {x2 : Int32} {y3 : Int64} {x5 : Int32} {x6 : Int32} {x7 : Int32} {M : Mem}, k13 x1 x2 y3 x5 x6 x7 M = some (r, M1) → sm [(97, 97, none)] M M1) (hk127 : ∀ {x1 : Int32} {y3 : Int64} {x5 : Int32} {x6 : Int32} {M : Mem}, k127 x1 y3 x5 x6 M = some (r, M1) → sm [(97, 97, none)] M M1) : ∀ {x1 : Int32} {x2 : Int32} {y3 : Int64} {x5 : Int32} {x7 : Int32} {s0 : Int32} {s1 : Int32} {M : Mem}, fX11_isLot_84 k13 k127 x1 x2 y3 x5 x7 s0 s1 M = some (r, M1) → sm [(97, 97, none)] M M1 := by
  intro x1 x2 y3 x5 x7 s0 s1 M hf
  unfold fX11_isLot_84 at hf
  obtain ⟨v85, e85⟩ : ∃ y : Int32, y = (s0 + s1) := ⟨_, rfl⟩
  have hf := nx_at e85 hf
  obtain ⟨g95, hf⟩ := br_g hf
  by_cases q98 : 0 ≤ (lg_cmp (M.2 97 (ix x7)) (0 : Int64))
  · have hf := (br_if hf).1 q98
    exact sX11_isLot_106 (fun hf => hk13 hf) (fun hf => hk127 hf) hf
  · have hf := (br_if hf).2 q98
    exact sX11_isLot_106 (fun hf => hk13 hf) (fun hf => hk127 hf) hf
theorem sX11_isLot_13 {r : Int32} {M1 : Mem} {k127 : Int32 → Int64 → Int32 → Int32 → Mem → Option (Int32 × Mem)} (hk127 : ∀ {x1 : Int32} {y3 : Int64} {x5 : Int32} {x6 : Int32} {M : Mem}, k127 x1 y3 x5 x6 M = some (r, M1) → sm [(97, 97, none)] M M1) : ∀ (n : Nat) {x1 : Int32} {x2 : Int32} {y3 : Int64} {x5 : Int32} {x6 : Int32} {x7 : Int32} {M : Mem}, fX11_isLot_13 k127 n x1 x2 y3 x5 x6 x7 M = some (r, M1) → sm [(97, 97, none)] M M1 := by
  intro n
  induction n with
  | zero =>
    intro x1 x2 y3 x5 x6 x7 M hf
    exact absurd (show none = some _ from hf) (fun h => by cases h)
  | succ n ih =>
    intro x1 x2 y3 x5 x6 x7 M hf
    rw [fX11_isLot_13] at hf
    by_cases q17 : (8 : Int32) ≤ x7
    · have hf := (br_if hf).1 q17
      exact hk127 hf
    · have hf := (br_if hf).2 q17
      obtain ⟨g27, hf⟩ := br_g hf
      obtain ⟨M27, e27⟩ : ∃ y : Mem, y = (sL M 97 (ix x7) (0 : Int64)) := ⟨_, rfl⟩
      have hf := nx_at e27 hf
      refine sm_L e27 (inS_up (L0 := [(97, 97, none)]) (by decide) (inS_n 97 _)) ?_
      by_cases q34 : ((x1 >>> (x7 &&& 31)) &&& (1 : Int32)) = 0
      · have hf := (br_if hf).1 q34
        exact sX11_isLot_121 (fun hf => ih hf) (fun hf => hk127 hf) hf
      · have hf := (br_if hf).2 q34
        obtain ⟨q57, c57, hf⟩ := br_b hf
        obtain ⟨g61, hf⟩ := br_g hf
        obtain ⟨M61, e61⟩ : ∃ y : Mem, y = (sL M27 97 (ix x7) (x2.toInt64 * q57)) := ⟨_, rfl⟩
        have hf := nx_at e61 hf
        refine sm_L e61 (inS_up (L0 := [(97, 97, none)]) (by decide) (inS_n 97 _)) ?_
        obtain ⟨v64, e64⟩ : ∃ y : Int32, y = (-x2) := ⟨_, rfl⟩
        have hf := nx_at e64 hf
        obtain ⟨g73, hf⟩ := br_g hf
        by_cases q76 : (lg_cmp (M61.2 97 (ix x7)) (0 : Int64)) ≤ 0
        · have hf := (br_if hf).1 q76
          exact sX11_isLot_84 (fun hf => ih hf) (fun hf => hk127 hf) hf
        · have hf := (br_if hf).2 q76
          exact sX11_isLot_84 (fun hf => ih hf) (fun hf => hk127 hf) hf
theorem sX11_isLot_188 {r : Int32} {M1 : Mem} {k152 : Int64 → Int32 → Int32 → Mem → Option (Int32 × Mem)} {k197 : Mem → Option (Int32 × Mem)} (hk152 : ∀ {y3 : Int64} {x5 : Int32} {x8 : Int32} {M : Mem}, k152 y3 x5 x8 M = some (r, M1) → sm [(97, 97, none)] M M1) (hk197 : ∀ {M : Mem}, k197 M = some (r, M1) → sm [(97, 97, none)] M M1) : ∀ {y3 : Int64} {x5 : Int32} {x8 : Int32} {s1 : Int32} {t2 : Int64} {M : Mem}, fX11_isLot_188 k152 k197 y3 x5 x8 s1 t2 M = some (r, M1) → sm [(97, 97, none)] M M1 := by
  intro y3 x5 x8 s1 t2 M hf
  unfold fX11_isLot_188 at hf
  obtain ⟨g189, hf⟩ := br_g hf
  obtain ⟨g190, hf⟩ := br_g hf
  obtain ⟨M190, e190⟩ : ∃ y : Mem, y = (sL M 97 (ix s1) (t2 / y3)) := ⟨_, rfl⟩
  have hf := nx_at e190 hf
  refine sm_L e190 (inS_up (L0 := [(97, 97, none)]) (by decide) (inS_n 97 _)) ?_
  obtain ⟨v191, e191⟩ : ∃ y : Int32, y = (x8 + (1 : Int32)) := ⟨_, rfl⟩
  have hf := nx_at e191 hf
  exact hk152 hf
theorem sX11_isLot_152 {r : Int32} {M1 : Mem} {k197 : Mem → Option (Int32 × Mem)} (hk197 : ∀ {M : Mem}, k197 M = some (r, M1) → sm [(97, 97, none)] M M1) : ∀ (n : Nat) {y3 : Int64} {x5 : Int32} {x8 : Int32} {M : Mem}, fX11_isLot_152 k197 n y3 x5 x8 M = some (r, M1) → sm [(97, 97, none)] M M1 := by
  intro n
  induction n with
  | zero =>
    intro y3 x5 x8 M hf
    exact absurd (show none = some _ from hf) (fun h => by cases h)
  | succ n ih =>
    intro y3 x5 x8 M hf
    rw [fX11_isLot_152] at hf
    by_cases q156 : (8 : Int32) ≤ x8
    · have hf := (br_if hf).1 q156
      exact hk197 hf
    · have hf := (br_if hf).2 q156
      by_cases q167 : x5 ≤ 0
      · have hf := (br_if hf).1 q167
        obtain ⟨g187, hf⟩ := br_g hf
        exact sX11_isLot_188 (fun hf => ih hf) (fun hf => hk197 hf) hf
      · have hf := (br_if hf).2 q167
        obtain ⟨g176, hf⟩ := br_g hf
        exact sX11_isLot_188 (fun hf => ih hf) (fun hf => hk197 hf) hf
theorem sX11_isLot_215 {r : Int32} {M1 : Mem} {k253 : Int32 → Int64 → Mem → Option (Int32 × Mem)} (hk253 : ∀ {x8 : Int32} {y9 : Int64} {M : Mem}, k253 x8 y9 M = some (r, M1) → sm [(97, 97, none)] M M1) : ∀ (n : Nat) {x8 : Int32} {y9 : Int64} {x11 : Int32} {M : Mem}, fX11_isLot_215 k253 n x8 y9 x11 M = some (r, M1) → sm [(97, 97, none)] M M1 := by
  intro n
  induction n with
  | zero =>
    intro x8 y9 x11 M hf
    exact absurd (show none = some _ from hf) (fun h => by cases h)
  | succ n ih =>
    intro x8 y9 x11 M hf
    rw [fX11_isLot_215] at hf
    obtain ⟨q218, c218, hf⟩ := br_b hf
    by_cases q221 : q218 ≤ x11
    · have hf := (br_if hf).1 q221
      exact hk253 hf
    · have hf := (br_if hf).2 q221
      obtain ⟨g232, hf⟩ := br_g hf
      obtain ⟨g235, hf⟩ := br_g hf
      obtain ⟨g242, hf⟩ := br_g hf
      obtain ⟨v245, e245⟩ : ∃ y : Int64, y = (y9 + ((M.2 (89 + ix x8) (ix x11)) * (M.2 97 (ix x11)))) := ⟨_, rfl⟩
      have hf := nx_at e245 hf
      obtain ⟨v247, e247⟩ : ∃ y : Int32, y = (x11 + (1 : Int32)) := ⟨_, rfl⟩
      have hf := nx_at e247 hf
      exact ih hf
theorem sX11_isLot_253 {r : Int32} {M1 : Mem} {k200 : Int32 → Mem → Option (Int32 × Mem)} {k260 : Mem → Option (Int32 × Mem)} {k268 : Mem → Option (Int32 × Mem)} (hk200 : ∀ {x8 : Int32} {M : Mem}, k200 x8 M = some (r, M1) → sm [(97, 97, none)] M M1) (hk260 : ∀ {M : Mem}, k260 M = some (r, M1) → sm [(97, 97, none)] M M1) (hk268 : ∀ {M : Mem}, k268 M = some (r, M1) → sm [(97, 97, none)] M M1) : ∀ {x8 : Int32} {y9 : Int64} {M : Mem}, fX11_isLot_253 k200 k260 k268 x8 y9 M = some (r, M1) → sm [(97, 97, none)] M M1 := by
  intro x8 y9 M hf
  unfold fX11_isLot_253 at hf
  by_cases q257 : (lg_cmp y9 (0 : Int64)) ≤ 0
  · have hf := (br_if hf).1 q257
    obtain ⟨v262, e262⟩ : ∃ y : Int32, y = (x8 + (1 : Int32)) := ⟨_, rfl⟩
    have hf := nx_at e262 hf
    exact hk200 hf
  · have hf := (br_if hf).2 q257
    exact hk260 hf
theorem sX11_isLot_200 {r : Int32} {M1 : Mem} {k260 : Mem → Option (Int32 × Mem)} {k268 : Mem → Option (Int32 × Mem)} (hk260 : ∀ {M : Mem}, k260 M = some (r, M1) → sm [(97, 97, none)] M M1) (hk268 : ∀ {M : Mem}, k268 M = some (r, M1) → sm [(97, 97, none)] M M1) : ∀ (n : Nat) {x8 : Int32} {M : Mem}, fX11_isLot_200 k260 k268 n x8 M = some (r, M1) → sm [(97, 97, none)] M M1 := by
  intro n
  induction n with
  | zero =>
    intro x8 M hf
    exact absurd (show none = some _ from hf) (fun h => by cases h)
  | succ n ih =>
    intro x8 M hf
    rw [fX11_isLot_200] at hf
    obtain ⟨q203, c203, hf⟩ := br_b hf
    by_cases q206 : q203 ≤ x8
    · have hf := (br_if hf).1 q206
      exact hk268 hf
    · have hf := (br_if hf).2 q206
      exact sX11_isLot_215 (fun hf => sX11_isLot_253 (fun hf => ih hf) (fun hf => hk260 hf) (fun hf => hk268 hf) hf) FU hf
theorem sX11_isLot_260 {r : Int32} {M1 : Mem} : ∀ {M : Mem}, fX11_isLot_260 M = some (r, M1) → sm [(97, 97, none)] M M1 := by
  intro M hf
  unfold fX11_isLot_260 at hf
  cases hf
  exact sm_rf
theorem sX11_isLot_268 {r : Int32} {M1 : Mem} : ∀ {M : Mem}, fX11_isLot_268 M = some (r, M1) → sm [(97, 97, none)] M M1 := by
  intro M hf
  unfold fX11_isLot_268 at hf
  cases hf
  exact sm_rf
theorem sX11_isLot_197 {r : Int32} {M1 : Mem} : ∀ {M : Mem}, fX11_isLot_197 M = some (r, M1) → sm [(97, 97, none)] M M1 := by
  intro M hf
  unfold fX11_isLot_197 at hf
  exact sX11_isLot_200 (fun hf => sX11_isLot_260 hf) (fun hf => sX11_isLot_268 hf) FU hf
theorem sX11_isLot_149 {r : Int32} {M1 : Mem} : ∀ {y3 : Int64} {x5 : Int32} {M : Mem}, fX11_isLot_149 y3 x5 M = some (r, M1) → sm [(97, 97, none)] M M1 := by
  intro y3 x5 M hf
  unfold fX11_isLot_149 at hf
  exact sX11_isLot_152 (fun hf => sX11_isLot_197 hf) FU hf
theorem sX11_isLot_127 {r : Int32} {M1 : Mem} : ∀ {x1 : Int32} {y3 : Int64} {x5 : Int32} {x6 : Int32} {M : Mem}, fX11_isLot_127 x1 y3 x5 x6 M = some (r, M1) → sm [(97, 97, none)] M M1 := by
  intro x1 y3 x5 x6 M hf
  unfold fX11_isLot_127 at hf
  obtain ⟨q128, c128, hf⟩ := br_b hf
  by_cases q137 : x6 = q128
  · have hf := (br_if hf).1 q137
    exact sX11_isLot_149 hf
  · have hf := (br_if hf).2 q137
    by_cases q144 : x5 = q128
    · have hf := (br_if hf).1 q144
      exact sX11_isLot_149 hf
    · have hf := (br_if hf).2 q144
      cases hf
      exact sm_rf
theorem sX11_isLot_0 {r : Int32} {M1 : Mem} : ∀ {x1 : Int32} {M : Mem}, fX11_isLot x1 M = some (r, M1) → sm [(97, 97, none)] M M1 := by
  intro x1 M hf
  unfold fX11_isLot at hf
  exact sX11_isLot_13 (fun hf => sX11_isLot_127 hf) FU hf
theorem ssX11_isLot {x1 : Int32} {M : Mem} {r : Int32} {M1 : Mem} (h : fX11_isLot x1 M = some (r, M1)) : sm [(97, 97, none)] M M1 := sX11_isLot_0 h
theorem sX11_findsLots_12 {r : Int32} {M1 : Mem} {k41 : Int32 → Mem → Option (Int32 × Mem)} (hk41 : ∀ {x1 : Int32} {M : Mem}, k41 x1 M = some (r, M1) → sm [(89, 97, none)] M M1) : ∀ (n : Nat) {x1 : Int32} {x2 : Int32} {M : Mem}, fX11_findsLots_12 k41 n x1 x2 M = some (r, M1) → sm [(89, 97, none)] M M1 := by
  intro n
  induction n with
  | zero =>
    intro x1 x2 M hf
    exact absurd (show none = some _ from hf) (fun h => by cases h)
  | succ n ih =>
    intro x1 x2 M hf
    rw [fX11_findsLots_12] at hf
    obtain ⟨q14, c14, hf⟩ := br_b hf
    by_cases q17 : q14 ≤ x2
    · have hf := (br_if hf).1 q17
      exact hk41 hf
    · have hf := (br_if hf).2 q17
      obtain ⟨g25, hf⟩ := br_g hf
      obtain ⟨q30, c30, hf⟩ := br_b hf
      obtain ⟨g34, hf⟩ := br_g hf
      obtain ⟨M34, e34⟩ : ∃ y : Mem, y = (sL M (89 + ix x1) (ix x2) q30.toInt64) := ⟨_, rfl⟩
      have hf := nx_at e34 hf
      refine sm_L e34 (inS_up (L0 := [(89, 96, none)]) (by decide) (inS_of (89, 96, none) (by decide) (by have := ix_lt g25; simp) (by have := ix_lt g25; simp; omega) (Or.inl rfl))) ?_
      obtain ⟨v35, e35⟩ : ∃ y : Int32, y = (x2 + (1 : Int32)) := ⟨_, rfl⟩
      have hf := nx_at e35 hf
      exact ih hf
theorem sX11_findsLots_41 {r : Int32} {M1 : Mem} {k2 : Int32 → Mem → Option (Int32 × Mem)} {k47 : Mem → Option (Int32 × Mem)} (hk2 : ∀ {x1 : Int32} {M : Mem}, k2 x1 M = some (r, M1) → sm [(89, 97, none)] M M1) (hk47 : ∀ {M : Mem}, k47 M = some (r, M1) → sm [(89, 97, none)] M M1) : ∀ {x1 : Int32} {M : Mem}, fX11_findsLots_41 k2 k47 x1 M = some (r, M1) → sm [(89, 97, none)] M M1 := by
  intro x1 M hf
  unfold fX11_findsLots_41 at hf
  obtain ⟨v41, e41⟩ : ∃ y : Int32, y = (x1 + (1 : Int32)) := ⟨_, rfl⟩
  have hf := nx_at e41 hf
  exact hk2 hf
theorem sX11_findsLots_2 {r : Int32} {M1 : Mem} {k47 : Mem → Option (Int32 × Mem)} (hk47 : ∀ {M : Mem}, k47 M = some (r, M1) → sm [(89, 97, none)] M M1) : ∀ (n : Nat) {x1 : Int32} {M : Mem}, fX11_findsLots_2 k47 n x1 M = some (r, M1) → sm [(89, 97, none)] M M1 := by
  intro n
  induction n with
  | zero =>
    intro x1 M hf
    exact absurd (show none = some _ from hf) (fun h => by cases h)
  | succ n ih =>
    intro x1 M hf
    rw [fX11_findsLots_2] at hf
    obtain ⟨q4, c4, hf⟩ := br_b hf
    by_cases q7 : q4 ≤ x1
    · have hf := (br_if hf).1 q7
      exact hk47 hf
    · have hf := (br_if hf).2 q7
      exact sX11_findsLots_12 (fun hf => sX11_findsLots_41 (fun hf => ih hf) (fun hf => hk47 hf) hf) FU hf
theorem sX11_findsLots_87 {r : Int32} {M1 : Mem} {k59 : Int32 → Int32 → Mem → Option (Int32 × Mem)} {k85 : Mem → Option (Int32 × Mem)} {k93 : Int32 → Mem → Option (Int32 × Mem)} (hk59 : ∀ {x1 : Int32} {x2 : Int32} {M : Mem}, k59 x1 x2 M = some (r, M1) → sm [(89, 97, none)] M M1) (hk85 : ∀ {M : Mem}, k85 M = some (r, M1) → sm [(89, 97, none)] M M1) (hk93 : ∀ {x1 : Int32} {M : Mem}, k93 x1 M = some (r, M1) → sm [(89, 97, none)] M M1) : ∀ {x1 : Int32} {x2 : Int32} {M : Mem}, fX11_findsLots_87 k59 k85 k93 x1 x2 M = some (r, M1) → sm [(89, 97, none)] M M1 := by
  intro x1 x2 M hf
  unfold fX11_findsLots_87 at hf
  obtain ⟨v87, e87⟩ : ∃ y : Int32, y = (x2 + (1 : Int32)) := ⟨_, rfl⟩
  have hf := nx_at e87 hf
  exact hk59 hf
theorem sX11_findsLots_59 {r : Int32} {M1 : Mem} {k85 : Mem → Option (Int32 × Mem)} {k93 : Int32 → Mem → Option (Int32 × Mem)} (hk85 : ∀ {M : Mem}, k85 M = some (r, M1) → sm [(89, 97, none)] M M1) (hk93 : ∀ {x1 : Int32} {M : Mem}, k93 x1 M = some (r, M1) → sm [(89, 97, none)] M M1) : ∀ (n : Nat) {x1 : Int32} {x2 : Int32} {M : Mem}, fX11_findsLots_59 k85 k93 n x1 x2 M = some (r, M1) → sm [(89, 97, none)] M M1 := by
  intro n
  induction n with
  | zero =>
    intro x1 x2 M hf
    exact absurd (show none = some _ from hf) (fun h => by cases h)
  | succ n ih =>
    intro x1 x2 M hf
    rw [fX11_findsLots_59] at hf
    obtain ⟨q62, c62, hf⟩ := br_b hf
    by_cases q66 : ((1 : Int32) <<< (q62 &&& 31)) ≤ x2
    · have hf := (br_if hf).1 q66
      exact hk93 hf
    · have hf := (br_if hf).2 q66
      obtain ⟨q70, c70, hf⟩ := br_b hf
      by_cases q74 : q70 = x1
      · have hf := (br_if hf).1 q74
        obtain ⟨q79, c79, hf⟩ := br_b hf
        refine sm_tr (ssX11_isLot c79) (by decide) ?_
        by_cases q82 : q79.1 = 0
        · have hf := (br_if hf).1 q82
          exact sX11_findsLots_87 (fun hf => ih hf) (fun hf => hk85 hf) (fun hf => hk93 hf) hf
        · have hf := (br_if hf).2 q82
          exact hk85 hf
      · have hf := (br_if hf).2 q74
        exact sX11_findsLots_87 (fun hf => ih hf) (fun hf => hk85 hf) (fun hf => hk93 hf) hf
theorem sX11_findsLots_93 {r : Int32} {M1 : Mem} {k49 : Int32 → Mem → Option (Int32 × Mem)} {k85 : Mem → Option (Int32 × Mem)} {k99 : Mem → Option (Int32 × Mem)} (hk49 : ∀ {x1 : Int32} {M : Mem}, k49 x1 M = some (r, M1) → sm [(89, 97, none)] M M1) (hk85 : ∀ {M : Mem}, k85 M = some (r, M1) → sm [(89, 97, none)] M M1) (hk99 : ∀ {M : Mem}, k99 M = some (r, M1) → sm [(89, 97, none)] M M1) : ∀ {x1 : Int32} {M : Mem}, fX11_findsLots_93 k49 k85 k99 x1 M = some (r, M1) → sm [(89, 97, none)] M M1 := by
  intro x1 M hf
  unfold fX11_findsLots_93 at hf
  obtain ⟨v93, e93⟩ : ∃ y : Int32, y = (x1 + (2 : Int32)) := ⟨_, rfl⟩
  have hf := nx_at e93 hf
  exact hk49 hf
theorem sX11_findsLots_49 {r : Int32} {M1 : Mem} {k85 : Mem → Option (Int32 × Mem)} {k99 : Mem → Option (Int32 × Mem)} (hk85 : ∀ {M : Mem}, k85 M = some (r, M1) → sm [(89, 97, none)] M M1) (hk99 : ∀ {M : Mem}, k99 M = some (r, M1) → sm [(89, 97, none)] M M1) : ∀ (n : Nat) {x1 : Int32} {M : Mem}, fX11_findsLots_49 k85 k99 n x1 M = some (r, M1) → sm [(89, 97, none)] M M1 := by
  intro n
  induction n with
  | zero =>
    intro x1 M hf
    exact absurd (show none = some _ from hf) (fun h => by cases h)
  | succ n ih =>
    intro x1 M hf
    rw [fX11_findsLots_49] at hf
    obtain ⟨q51, c51, hf⟩ := br_b hf
    by_cases q54 : q51 < x1
    · have hf := (br_if hf).1 q54
      exact hk99 hf
    · have hf := (br_if hf).2 q54
      exact sX11_findsLots_59 (fun hf => hk85 hf) (fun hf => sX11_findsLots_93 (fun hf => ih hf) (fun hf => hk85 hf) (fun hf => hk99 hf) hf) FU hf
theorem sX11_findsLots_85 {r : Int32} {M1 : Mem} : ∀ {M : Mem}, fX11_findsLots_85 M = some (r, M1) → sm [(89, 97, none)] M M1 := by
  intro M hf
  unfold fX11_findsLots_85 at hf
  cases hf
  exact sm_rf
theorem sX11_findsLots_99 {r : Int32} {M1 : Mem} : ∀ {M : Mem}, fX11_findsLots_99 M = some (r, M1) → sm [(89, 97, none)] M M1 := by
  intro M hf
  unfold fX11_findsLots_99 at hf
  cases hf
  exact sm_rf
theorem sX11_findsLots_47 {r : Int32} {M1 : Mem} : ∀ {M : Mem}, fX11_findsLots_47 M = some (r, M1) → sm [(89, 97, none)] M M1 := by
  intro M hf
  unfold fX11_findsLots_47 at hf
  exact sX11_findsLots_49 (fun hf => sX11_findsLots_85 hf) (fun hf => sX11_findsLots_99 hf) FU hf
theorem sX11_findsLots_0 {r : Int32} {M1 : Mem} : ∀ {M : Mem}, fX11_findsLots M = some (r, M1) → sm [(89, 97, none)] M M1 := by
  intro M hf
  unfold fX11_findsLots at hf
  exact sX11_findsLots_2 (fun hf => sX11_findsLots_47 hf) FU hf
theorem ssX11_findsLots {M : Mem} {r : Int32} {M1 : Mem} (h : fX11_findsLots M = some (r, M1)) : sm [(89, 97, none)] M M1 := sX11_findsLots_0 h
theorem sX11_findsMiddles_7 {M1 : Mem} {k44 : Mem → Option Mem} (hk44 : ∀ {M : Mem}, k44 M = some M1 → sm [(82, 84, none), (47, 47, some 28)] M M1) : ∀ (n : Nat) {x1 : Int32} {M : Mem}, fX11_findsMiddles_7 k44 n x1 M = some M1 → sm [(82, 84, none), (47, 47, some 28)] M M1 := by
  intro n
  induction n with
  | zero =>
    intro x1 M hf
    exact absurd (show none = some _ from hf) (fun h => by cases h)
  | succ n ih =>
    intro x1 M hf
    rw [fX11_findsMiddles_7] at hf
    obtain ⟨q9, c9, hf⟩ := br_b hf
    by_cases q12 : q9 ≤ x1
    · have hf := (br_if hf).1 q12
      exact hk44 hf
    · have hf := (br_if hf).2 q12
      obtain ⟨g23, hf⟩ := br_g hf
      obtain ⟨g32, hf⟩ := br_g hf
      obtain ⟨q35, c35, hf⟩ := br_b hf
      refine sm_tr (ssX11_addsMiddle c35) (by decide) ?_
      obtain ⟨v38, e38⟩ : ∃ y : Int32, y = (x1 + (1 : Int32)) := ⟨_, rfl⟩
      have hf := nx_at e38 hf
      exact ih hf
theorem sX11_findsMiddles_169 {M1 : Mem} {k56 : Int32 → Int32 → Mem → Option Mem} {k175 : Int32 → Mem → Option Mem} (hk56 : ∀ {x1 : Int32} {x2 : Int32} {M : Mem}, k56 x1 x2 M = some M1 → sm [(82, 84, none), (47, 47, some 28)] M M1) (hk175 : ∀ {x1 : Int32} {M : Mem}, k175 x1 M = some M1 → sm [(82, 84, none), (47, 47, some 28)] M M1) : ∀ {x1 : Int32} {x2 : Int32} {M : Mem}, fX11_findsMiddles_169 k56 k175 x1 x2 M = some M1 → sm [(82, 84, none), (47, 47, some 28)] M M1 := by
  intro x1 x2 M hf
  unfold fX11_findsMiddles_169 at hf
  obtain ⟨v169, e169⟩ : ∃ y : Int32, y = (x2 + (1 : Int32)) := ⟨_, rfl⟩
  have hf := nx_at e169 hf
  exact hk56 hf
theorem sX11_findsMiddles_56 {M1 : Mem} {k175 : Int32 → Mem → Option Mem} (hk175 : ∀ {x1 : Int32} {M : Mem}, k175 x1 M = some M1 → sm [(82, 84, none), (47, 47, some 28)] M M1) : ∀ (n : Nat) {x1 : Int32} {x2 : Int32} {M : Mem}, fX11_findsMiddles_56 k175 n x1 x2 M = some M1 → sm [(82, 84, none), (47, 47, some 28)] M M1 := by
  intro n
  induction n with
  | zero =>
    intro x1 x2 M hf
    exact absurd (show none = some _ from hf) (fun h => by cases h)
  | succ n ih =>
    intro x1 x2 M hf
    rw [fX11_findsMiddles_56] at hf
    by_cases q58 : x1 ≤ x2
    · have hf := (br_if hf).1 q58
      exact hk175 hf
    · have hf := (br_if hf).2 q58
      obtain ⟨g66, hf⟩ := br_g hf
      obtain ⟨g73, hf⟩ := br_g hf
      obtain ⟨g81, hf⟩ := br_g hf
      obtain ⟨g88, hf⟩ := br_g hf
      obtain ⟨v92, e92⟩ : ∃ y : Int64, y = (((M.1 79 (ix x1)).toInt64 * (M.1 80 (ix x2)).toInt64) - ((M.1 79 (ix x2)).toInt64 * (M.1 80 (ix x1)).toInt64)) := ⟨_, rfl⟩
      have hf := nx_at e92 hf
      by_cases q96 : (lg_cmp v92 (0 : Int64)) = 0
      · have hf := (br_if hf).1 q96
        exact sX11_findsMiddles_169 (fun hf => ih hf) (fun hf => hk175 hf) hf
      · have hf := (br_if hf).2 q96
        obtain ⟨g108, hf⟩ := br_g hf
        obtain ⟨g115, hf⟩ := br_g hf
        obtain ⟨g123, hf⟩ := br_g hf
        obtain ⟨g130, hf⟩ := br_g hf
        obtain ⟨g139, hf⟩ := br_g hf
        obtain ⟨g146, hf⟩ := br_g hf
        obtain ⟨g154, hf⟩ := br_g hf
        obtain ⟨g161, hf⟩ := br_g hf
        obtain ⟨q166, c166, hf⟩ := br_b hf
        refine sm_tr (ssX11_addsMiddle c166) (by decide) ?_
        exact sX11_findsMiddles_169 (fun hf => ih hf) (fun hf => hk175 hf) hf
theorem sX11_findsMiddles_175 {M1 : Mem} {k46 : Int32 → Mem → Option Mem} {k181 : Mem → Option Mem} (hk46 : ∀ {x1 : Int32} {M : Mem}, k46 x1 M = some M1 → sm [(82, 84, none), (47, 47, some 28)] M M1) (hk181 : ∀ {M : Mem}, k181 M = some M1 → sm [(82, 84, none), (47, 47, some 28)] M M1) : ∀ {x1 : Int32} {M : Mem}, fX11_findsMiddles_175 k46 k181 x1 M = some M1 → sm [(82, 84, none), (47, 47, some 28)] M M1 := by
  intro x1 M hf
  unfold fX11_findsMiddles_175 at hf
  obtain ⟨v175, e175⟩ : ∃ y : Int32, y = (x1 + (1 : Int32)) := ⟨_, rfl⟩
  have hf := nx_at e175 hf
  exact hk46 hf
theorem sX11_findsMiddles_46 {M1 : Mem} {k181 : Mem → Option Mem} (hk181 : ∀ {M : Mem}, k181 M = some M1 → sm [(82, 84, none), (47, 47, some 28)] M M1) : ∀ (n : Nat) {x1 : Int32} {M : Mem}, fX11_findsMiddles_46 k181 n x1 M = some M1 → sm [(82, 84, none), (47, 47, some 28)] M M1 := by
  intro n
  induction n with
  | zero =>
    intro x1 M hf
    exact absurd (show none = some _ from hf) (fun h => by cases h)
  | succ n ih =>
    intro x1 M hf
    rw [fX11_findsMiddles_46] at hf
    by_cases q51 : (M.1 47 27) ≤ x1
    · have hf := (br_if hf).1 q51
      exact hk181 hf
    · have hf := (br_if hf).2 q51
      exact sX11_findsMiddles_56 (fun hf => sX11_findsMiddles_175 (fun hf => ih hf) (fun hf => hk181 hf) hf) FU hf
theorem sX11_findsMiddles_181 {M1 : Mem} : ∀ {M : Mem}, fX11_findsMiddles_181 M = some M1 → sm [(82, 84, none), (47, 47, some 28)] M M1 := by
  intro M hf
  unfold fX11_findsMiddles_181 at hf
  cases hf
  exact sm_rf
theorem sX11_findsMiddles_44 {M1 : Mem} : ∀ {M : Mem}, fX11_findsMiddles_44 M = some M1 → sm [(82, 84, none), (47, 47, some 28)] M M1 := by
  intro M hf
  unfold fX11_findsMiddles_44 at hf
  exact sX11_findsMiddles_46 (fun hf => sX11_findsMiddles_181 hf) FU hf
theorem sX11_findsMiddles_0 {M1 : Mem} : ∀ {M : Mem}, fX11_findsMiddles M = some M1 → sm [(82, 84, none), (47, 47, some 28)] M M1 := by
  intro M hf
  unfold fX11_findsMiddles at hf
  obtain ⟨M2, e2⟩ : ∃ y : Mem, y = (sI M 47 28 (0 : Int32)) := ⟨_, rfl⟩
  have hf := nx_at e2 hf
  refine sm_I e2 (inS_up (L0 := [(47, 47, some 28)]) (by decide) (inS_s 47 28)) ?_
  exact sX11_findsMiddles_7 (fun hf => sX11_findsMiddles_44 hf) FU hf
theorem ssX11_findsMiddles {M : Mem} {M1 : Mem} (h : fX11_findsMiddles M = some M1) : sm [(82, 84, none), (47, 47, some 28)] M M1 := sX11_findsMiddles_0 h
theorem sX11_joins_87 {r : Int32} {M1 : Mem} {k2 : Int32 → Int32 → Int32 → Mem → Option (Int32 × Mem)} {k93 : Int32 → Mem → Option (Int32 × Mem)} (hk2 : ∀ {x1 : Int32} {x2 : Int32} {x3 : Int32} {M : Mem}, k2 x1 x2 x3 M = some (r, M1) → sm [(50, 50, none), (53, 53, none), (98, 99, none)] M M1) (hk93 : ∀ {x2 : Int32} {M : Mem}, k93 x2 M = some (r, M1) → sm [(50, 50, none), (53, 53, none), (98, 99, none)] M M1) : ∀ {x1 : Int32} {x2 : Int32} {x3 : Int32} {M : Mem}, fX11_joins_87 k2 k93 x1 x2 x3 M = some (r, M1) → sm [(50, 50, none), (53, 53, none), (98, 99, none)] M M1 := by
  intro x1 x2 x3 M hf
  unfold fX11_joins_87 at hf
  obtain ⟨v87, e87⟩ : ∃ y : Int32, y = (x3 + (1 : Int32)) := ⟨_, rfl⟩
  have hf := nx_at e87 hf
  exact hk2 hf
theorem sX11_joins_2 {r : Int32} {M1 : Mem} {k93 : Int32 → Mem → Option (Int32 × Mem)} (hk93 : ∀ {x2 : Int32} {M : Mem}, k93 x2 M = some (r, M1) → sm [(50, 50, none), (53, 53, none), (98, 99, none)] M M1) : ∀ (n : Nat) {x1 : Int32} {x2 : Int32} {x3 : Int32} {M : Mem}, fX11_joins_2 k93 n x1 x2 x3 M = some (r, M1) → sm [(50, 50, none), (53, 53, none), (98, 99, none)] M M1 := by
  intro n
  induction n with
  | zero =>
    intro x1 x2 x3 M hf
    exact absurd (show none = some _ from hf) (fun h => by cases h)
  | succ n ih =>
    intro x1 x2 x3 M hf
    rw [fX11_joins_2] at hf
    obtain ⟨q4, c4, hf⟩ := br_b hf
    by_cases q7 : q4 ≤ x3
    · have hf := (br_if hf).1 q7
      exact hk93 hf
    · have hf := (br_if hf).2 q7
      obtain ⟨g22, hf⟩ := br_g hf
      obtain ⟨g23, hf⟩ := br_g hf
      obtain ⟨M23, e23⟩ : ∃ y : Mem, y = (sI M 98 (ix x3) (M.1 50 (ix x3))) := ⟨_, rfl⟩
      have hf := nx_at e23 hf
      refine sm_I e23 (inS_up (L0 := [(98, 98, none)]) (by decide) (inS_n 98 _)) ?_
      obtain ⟨g36, hf⟩ := br_g hf
      obtain ⟨g37, hf⟩ := br_g hf
      obtain ⟨M37, e37⟩ : ∃ y : Mem, y = (sI M23 99 (ix x3) (M23.1 53 (ix x3))) := ⟨_, rfl⟩
      have hf := nx_at e37 hf
      refine sm_I e37 (inS_up (L0 := [(99, 99, none)]) (by decide) (inS_n 99 _)) ?_
      by_cases q41 : (9 : Int32) ≤ x3
      · have hf := (br_if hf).1 q41
        exact sX11_joins_87 (fun hf => ih hf) (fun hf => hk93 hf) hf
      · have hf := (br_if hf).2 q41
        by_cases q49 : ((x1 >>> (x3 &&& 31)) &&& (1 : Int32)) = 0
        · have hf := (br_if hf).1 q49
          exact sX11_joins_87 (fun hf => ih hf) (fun hf => hk93 hf) hf
        · have hf := (br_if hf).2 q49
          obtain ⟨g69, hf⟩ := br_g hf
          obtain ⟨g70, hf⟩ := br_g hf
          obtain ⟨M70, e70⟩ : ∃ y : Mem, y = (sI M37 50 (ix x3) (M37.1 68 (ix x2))) := ⟨_, rfl⟩
          have hf := nx_at e70 hf
          refine sm_I e70 (inS_up (L0 := [(50, 50, none)]) (by decide) (inS_n 50 _)) ?_
          obtain ⟨g85, hf⟩ := br_g hf
          obtain ⟨g86, hf⟩ := br_g hf
          obtain ⟨M86, e86⟩ : ∃ y : Mem, y = (sI M70 53 (ix x3) (M70.1 71 (ix x2))) := ⟨_, rfl⟩
          have hf := nx_at e86 hf
          refine sm_I e86 (inS_up (L0 := [(53, 53, none)]) (by decide) (inS_n 53 _)) ?_
          exact sX11_joins_87 (fun hf => ih hf) (fun hf => hk93 hf) hf
theorem sX11_joins_102 {r : Int32} {M1 : Mem} {k149 : Int32 → Mem → Option (Int32 × Mem)} (hk149 : ∀ {x3 : Int32} {M : Mem}, k149 x3 M = some (r, M1) → sm [(50, 50, none), (53, 53, none), (98, 99, none)] M M1) : ∀ (n : Nat) {x3 : Int32} {x4 : Int32} {M : Mem}, fX11_joins_102 k149 n x3 x4 M = some (r, M1) → sm [(50, 50, none), (53, 53, none), (98, 99, none)] M M1 := by
  intro n
  induction n with
  | zero =>
    intro x3 x4 M hf
    exact absurd (show none = some _ from hf) (fun h => by cases h)
  | succ n ih =>
    intro x3 x4 M hf
    rw [fX11_joins_102] at hf
    obtain ⟨q105, c105, hf⟩ := br_b hf
    by_cases q108 : q105 ≤ x4
    · have hf := (br_if hf).1 q108
      exact hk149 hf
    · have hf := (br_if hf).2 q108
      obtain ⟨g125, hf⟩ := br_g hf
      obtain ⟨g126, hf⟩ := br_g hf
      obtain ⟨M126, e126⟩ : ∃ y : Mem, y = (sI M 50 (ix x4) (M.1 98 (ix x4))) := ⟨_, rfl⟩
      have hf := nx_at e126 hf
      refine sm_I e126 (inS_up (L0 := [(50, 50, none)]) (by decide) (inS_n 50 _)) ?_
      obtain ⟨g141, hf⟩ := br_g hf
      obtain ⟨g142, hf⟩ := br_g hf
      obtain ⟨M142, e142⟩ : ∃ y : Mem, y = (sI M126 53 (ix x4) (M126.1 99 (ix x4))) := ⟨_, rfl⟩
      have hf := nx_at e142 hf
      refine sm_I e142 (inS_up (L0 := [(53, 53, none)]) (by decide) (inS_n 53 _)) ?_
      obtain ⟨v143, e143⟩ : ∃ y : Int32, y = (x4 + (1 : Int32)) := ⟨_, rfl⟩
      have hf := nx_at e143 hf
      exact ih hf
theorem sX11_joins_149 {r : Int32} {M1 : Mem} : ∀ {x3 : Int32} {M : Mem}, fX11_joins_149 x3 M = some (r, M1) → sm [(50, 50, none), (53, 53, none), (98, 99, none)] M M1 := by
  intro x3 M hf
  unfold fX11_joins_149 at hf
  cases hf
  exact sm_rf
theorem sX11_joins_93 {r : Int32} {M1 : Mem} : ∀ {x2 : Int32} {M : Mem}, fX11_joins_93 x2 M = some (r, M1) → sm [(50, 50, none), (53, 53, none), (98, 99, none)] M M1 := by
  intro x2 M hf
  unfold fX11_joins_93 at hf
  obtain ⟨q95, c95, hf⟩ := br_b hf
  exact sX11_joins_102 (fun hf => sX11_joins_149 hf) FU hf
theorem sX11_joins_0 {r : Int32} {M1 : Mem} : ∀ {x1 : Int32} {x2 : Int32} {M : Mem}, fX11_joins x1 x2 M = some (r, M1) → sm [(50, 50, none), (53, 53, none), (98, 99, none)] M M1 := by
  intro x1 x2 M hf
  unfold fX11_joins at hf
  exact sX11_joins_2 (fun hf => sX11_joins_93 hf) FU hf
theorem ssX11_joins {x1 : Int32} {x2 : Int32} {M : Mem} {r : Int32} {M1 : Mem} (h : fX11_joins x1 x2 M = some (r, M1)) : sm [(50, 50, none), (53, 53, none), (98, 99, none)] M M1 := sX11_joins_0 h
theorem sX11_join_60 {r : Int32} {M1 : Mem} {k30 : Int32 → Int32 → Int32 → Int32 → Mem → Option (Int32 × Mem)} {k57 : Int32 → Mem → Option (Int32 × Mem)} {k66 : Int32 → Int32 → Int32 → Mem → Option (Int32 × Mem)} (hk30 : ∀ {x1 : Int32} {x2 : Int32} {x3 : Int32} {x4 : Int32} {M : Mem}, k30 x1 x2 x3 x4 M = some (r, M1) → sm [(50, 50, none), (53, 53, none), (98, 99, none)] M M1) (hk57 : ∀ {x4 : Int32} {M : Mem}, k57 x4 M = some (r, M1) → sm [(50, 50, none), (53, 53, none), (98, 99, none)] M M1) (hk66 : ∀ {x1 : Int32} {x2 : Int32} {x3 : Int32} {M : Mem}, k66 x1 x2 x3 M = some (r, M1) → sm [(50, 50, none), (53, 53, none), (98, 99, none)] M M1) : ∀ {x1 : Int32} {x2 : Int32} {x3 : Int32} {x4 : Int32} {M : Mem}, fX11_join_60 k30 k57 k66 x1 x2 x3 x4 M = some (r, M1) → sm [(50, 50, none), (53, 53, none), (98, 99, none)] M M1 := by
  intro x1 x2 x3 x4 M hf
  unfold fX11_join_60 at hf
  obtain ⟨v60, e60⟩ : ∃ y : Int32, y = (x4 + (1 : Int32)) := ⟨_, rfl⟩
  have hf := nx_at e60 hf
  exact hk30 hf
theorem sX11_join_30 {r : Int32} {M1 : Mem} {k57 : Int32 → Mem → Option (Int32 × Mem)} {k66 : Int32 → Int32 → Int32 → Mem → Option (Int32 × Mem)} (hk57 : ∀ {x4 : Int32} {M : Mem}, k57 x4 M = some (r, M1) → sm [(50, 50, none), (53, 53, none), (98, 99, none)] M M1) (hk66 : ∀ {x1 : Int32} {x2 : Int32} {x3 : Int32} {M : Mem}, k66 x1 x2 x3 M = some (r, M1) → sm [(50, 50, none), (53, 53, none), (98, 99, none)] M M1) : ∀ (n : Nat) {x1 : Int32} {x2 : Int32} {x3 : Int32} {x4 : Int32} {M : Mem}, fX11_join_30 k57 k66 n x1 x2 x3 x4 M = some (r, M1) → sm [(50, 50, none), (53, 53, none), (98, 99, none)] M M1 := by
  intro n
  induction n with
  | zero =>
    intro x1 x2 x3 x4 M hf
    exact absurd (show none = some _ from hf) (fun h => by cases h)
  | succ n ih =>
    intro x1 x2 x3 x4 M hf
    rw [fX11_join_30] at hf
    by_cases q35 : ((1 : Int32) <<< (x2 &&& 31)) ≤ x4
    · have hf := (br_if hf).1 q35
      exact hk66 hf
    · have hf := (br_if hf).2 q35
      obtain ⟨q40, c40, hf⟩ := br_b hf
      by_cases q44 : q40 = x3
      · have hf := (br_if hf).1 q44
        obtain ⟨q51, c51, hf⟩ := br_b hf
        refine sm_tr (ssX11_joins c51) (by decide) ?_
        by_cases q54 : q51.1 = 0
        · have hf := (br_if hf).1 q54
          exact sX11_join_60 (fun hf => ih hf) (fun hf => hk57 hf) (fun hf => hk66 hf) hf
        · have hf := (br_if hf).2 q54
          exact hk57 hf
      · have hf := (br_if hf).2 q44
        exact sX11_join_60 (fun hf => ih hf) (fun hf => hk57 hf) (fun hf => hk66 hf) hf
theorem sX11_join_66 {r : Int32} {M1 : Mem} {k22 : Int32 → Int32 → Int32 → Mem → Option (Int32 × Mem)} {k57 : Int32 → Mem → Option (Int32 × Mem)} {k72 : Mem → Option (Int32 × Mem)} (hk22 : ∀ {x1 : Int32} {x2 : Int32} {x3 : Int32} {M : Mem}, k22 x1 x2 x3 M = some (r, M1) → sm [(50, 50, none), (53, 53, none), (98, 99, none)] M M1) (hk57 : ∀ {x4 : Int32} {M : Mem}, k57 x4 M = some (r, M1) → sm [(50, 50, none), (53, 53, none), (98, 99, none)] M M1) (hk72 : ∀ {M : Mem}, k72 M = some (r, M1) → sm [(50, 50, none), (53, 53, none), (98, 99, none)] M M1) : ∀ {x1 : Int32} {x2 : Int32} {x3 : Int32} {M : Mem}, fX11_join_66 k22 k57 k72 x1 x2 x3 M = some (r, M1) → sm [(50, 50, none), (53, 53, none), (98, 99, none)] M M1 := by
  intro x1 x2 x3 M hf
  unfold fX11_join_66 at hf
  obtain ⟨v66, e66⟩ : ∃ y : Int32, y = (x3 + (1 : Int32)) := ⟨_, rfl⟩
  have hf := nx_at e66 hf
  exact hk22 hf
theorem sX11_join_22 {r : Int32} {M1 : Mem} {k57 : Int32 → Mem → Option (Int32 × Mem)} {k72 : Mem → Option (Int32 × Mem)} (hk57 : ∀ {x4 : Int32} {M : Mem}, k57 x4 M = some (r, M1) → sm [(50, 50, none), (53, 53, none), (98, 99, none)] M M1) (hk72 : ∀ {M : Mem}, k72 M = some (r, M1) → sm [(50, 50, none), (53, 53, none), (98, 99, none)] M M1) : ∀ (n : Nat) {x1 : Int32} {x2 : Int32} {x3 : Int32} {M : Mem}, fX11_join_22 k57 k72 n x1 x2 x3 M = some (r, M1) → sm [(50, 50, none), (53, 53, none), (98, 99, none)] M M1 := by
  intro n
  induction n with
  | zero =>
    intro x1 x2 x3 M hf
    exact absurd (show none = some _ from hf) (fun h => by cases h)
  | succ n ih =>
    intro x1 x2 x3 M hf
    rw [fX11_join_22] at hf
    by_cases q24 : x2 < x3
    · have hf := (br_if hf).1 q24
      exact hk72 hf
    · have hf := (br_if hf).2 q24
      exact sX11_join_30 (fun hf => hk57 hf) (fun hf => sX11_join_66 (fun hf => ih hf) (fun hf => hk57 hf) (fun hf => hk72 hf) hf) FU hf
theorem sX11_join_57 {r : Int32} {M1 : Mem} : ∀ {x4 : Int32} {M : Mem}, fX11_join_57 x4 M = some (r, M1) → sm [(50, 50, none), (53, 53, none), (98, 99, none)] M M1 := by
  intro x4 M hf
  unfold fX11_join_57 at hf
  cases hf
  exact sm_rf
theorem sX11_join_72 {r : Int32} {M1 : Mem} : ∀ {M : Mem}, fX11_join_72 M = some (r, M1) → sm [(50, 50, none), (53, 53, none), (98, 99, none)] M M1 := by
  intro M hf
  unfold fX11_join_72 at hf
  cases hf
  exact sm_rf
theorem sX11_join_0 {r : Int32} {M1 : Mem} : ∀ {x1 : Int32} {M : Mem}, fX11_join x1 M = some (r, M1) → sm [(50, 50, none), (53, 53, none), (98, 99, none)] M M1 := by
  intro x1 M hf
  unfold fX11_join at hf
  obtain ⟨q2, c2, hf⟩ := br_b hf
  by_cases q5 : q2 = 0
  · have hf := (br_if hf).1 q5
    cases hf
    exact sm_rf
  · have hf := (br_if hf).2 q5
    obtain ⟨q13, c13, hf⟩ := br_b hf
    obtain ⟨v19, e19⟩ : ∃ y : Int32, y = (imin (9 : Int32) q13) := ⟨_, rfl⟩
    have hf := nx_at e19 hf
    exact sX11_join_22 (fun hf => sX11_join_57 hf) (fun hf => sX11_join_72 hf) FU hf
theorem ssX11_join {x1 : Int32} {M : Mem} {r : Int32} {M1 : Mem} (h : fX11_join x1 M = some (r, M1)) : sm [(50, 50, none), (53, 53, none), (98, 99, none)] M M1 := sX11_join_0 h
theorem sX11_through_133 {M1 : Mem} : ∀ {M : Mem}, fX11_through_133 M = some M1 → sm [(79, 81, none), (47, 47, some 27)] M M1 := by
  intro M hf
  unfold fX11_through_133 at hf
  cases hf
  exact sm_rf
theorem sX11_through_76 {M1 : Mem} : ∀ {x1 : Int32} {x3 : Int32} {x4 : Int32} {x5 : Int32} {M : Mem}, fX11_through_76 x1 x3 x4 x5 M = some M1 → sm [(79, 81, none), (47, 47, some 27)] M M1 := by
  intro x1 x3 x4 x5 M hf
  unfold fX11_through_76 at hf
  obtain ⟨g79, hf⟩ := br_g hf
  obtain ⟨v80, e80⟩ : ∃ y : Int32, y = (x3 / x5) := ⟨_, rfl⟩
  have hf := nx_at e80 hf
  obtain ⟨g85, hf⟩ := br_g hf
  obtain ⟨v86, e86⟩ : ∃ y : Int32, y = (x4 / x5) := ⟨_, rfl⟩
  have hf := nx_at e86 hf
  obtain ⟨g96, hf⟩ := br_g hf
  obtain ⟨g107, hf⟩ := br_g hf
  obtain ⟨v110, e110⟩ : ∃ y : Int32, y = ((v80 * (M.1 50 (ix x1))) + (v86 * (M.1 53 (ix x1)))) := ⟨_, rfl⟩
  have hf := nx_at e110 hf
  obtain ⟨q118, c118, hf⟩ := br_b hf
  by_cases q121 : q118 = 0
  · have hf := (br_if hf).1 q121
    exact sX11_through_133 hf
  · have hf := (br_if hf).2 q121
    obtain ⟨q130, c130, hf⟩ := br_b hf
    refine sm_tr (ssX11_addsLine c130) (by decide) ?_
    exact sX11_through_133 hf
theorem sX11_through_71 {M1 : Mem} : ∀ {x1 : Int32} {x3 : Int32} {x4 : Int32} {x5 : Int32} {M : Mem}, fX11_through_71 x1 x3 x4 x5 M = some M1 → sm [(79, 81, none), (47, 47, some 27)] M M1 := by
  intro x1 x3 x4 x5 M hf
  unfold fX11_through_71 at hf
  obtain ⟨v74, e74⟩ : ∃ y : Int32, y = (-x5) := ⟨_, rfl⟩
  have hf := nx_at e74 hf
  exact sX11_through_76 hf
theorem sX11_through_47 {M1 : Mem} : ∀ {x1 : Int32} {x3 : Int32} {x4 : Int32} {M : Mem}, fX11_through_47 x1 x3 x4 M = some M1 → sm [(79, 81, none), (47, 47, some 27)] M M1 := by
  intro x1 x3 x4 M hf
  unfold fX11_through_47 at hf
  obtain ⟨q52, c52, hf⟩ := br_b hf
  obtain ⟨v56, e56⟩ : ∃ y : Int32, y = q52.toInt32 := ⟨_, rfl⟩
  have hf := nx_at e56 hf
  by_cases q59 : x3 < 0
  · have hf := (br_if hf).1 q59
    exact sX11_through_71 hf
  · have hf := (br_if hf).2 q59
    by_cases q63 : x3 = 0
    · have hf := (br_if hf).1 q63
      by_cases q68 : 0 ≤ x4
      · have hf := (br_if hf).1 q68
        exact sX11_through_76 hf
      · have hf := (br_if hf).2 q68
        exact sX11_through_71 hf
    · have hf := (br_if hf).2 q63
      exact sX11_through_76 hf
theorem sX11_through_0 {M1 : Mem} : ∀ {x1 : Int32} {x2 : Int32} {M : Mem}, fX11_through x1 x2 M = some M1 → sm [(79, 81, none), (47, 47, some 27)] M M1 := by
  intro x1 x2 M hf
  unfold fX11_through at hf
  obtain ⟨g7, hf⟩ := br_g hf
  obtain ⟨g15, hf⟩ := br_g hf
  obtain ⟨v17, e17⟩ : ∃ y : Int32, y = ((M.1 53 (ix x2)) - (M.1 53 (ix x1))) := ⟨_, rfl⟩
  have hf := nx_at e17 hf
  obtain ⟨g25, hf⟩ := br_g hf
  obtain ⟨g33, hf⟩ := br_g hf
  obtain ⟨v35, e35⟩ : ∃ y : Int32, y = ((M.1 50 (ix x1)) - (M.1 50 (ix x2))) := ⟨_, rfl⟩
  have hf := nx_at e35 hf
  by_cases q38 : v17 = 0
  · have hf := (br_if hf).1 q38
    by_cases q43 : v35 = 0
    · have hf := (br_if hf).1 q43
      cases hf
      exact sm_rf
    · have hf := (br_if hf).2 q43
      exact sX11_through_47 hf
  · have hf := (br_if hf).2 q38
    exact sX11_through_47 hf
theorem ssX11_through {x1 : Int32} {x2 : Int32} {M : Mem} {M1 : Mem} (h : fX11_through x1 x2 M = some M1) : sm [(79, 81, none), (47, 47, some 27)] M M1 := sX11_through_0 h
theorem sX11_knows_30 {M1 : Mem} {k47 : Int32 → Mem → Option Mem} (hk47 : ∀ {x1 : Int32} {M : Mem}, k47 x1 M = some M1 → sm [(79, 84, none), (47, 47, some 27), (47, 47, some 28), (47, 47, some 29)] M M1) : ∀ (n : Nat) {x1 : Int32} {x2 : Int32} {M : Mem}, fX11_knows_30 k47 n x1 x2 M = some M1 → sm [(79, 84, none), (47, 47, some 27), (47, 47, some 28), (47, 47, some 29)] M M1 := by
  intro n
  induction n with
  | zero =>
    intro x1 x2 M hf
    exact absurd (show none = some _ from hf) (fun h => by cases h)
  | succ n ih =>
    intro x1 x2 M hf
    rw [fX11_knows_30] at hf
    by_cases q32 : x1 ≤ x2
    · have hf := (br_if hf).1 q32
      exact hk47 hf
    · have hf := (br_if hf).2 q32
      obtain ⟨q38, c38, hf⟩ := br_b hf
      refine sm_tr (ssX11_through c38) (by decide) ?_
      obtain ⟨v41, e41⟩ : ∃ y : Int32, y = (x2 + (1 : Int32)) := ⟨_, rfl⟩
      have hf := nx_at e41 hf
      exact ih hf
theorem sX11_knows_47 {M1 : Mem} {k20 : Int32 → Mem → Option Mem} {k53 : Mem → Option Mem} (hk20 : ∀ {x1 : Int32} {M : Mem}, k20 x1 M = some M1 → sm [(79, 84, none), (47, 47, some 27), (47, 47, some 28), (47, 47, some 29)] M M1) (hk53 : ∀ {M : Mem}, k53 M = some M1 → sm [(79, 84, none), (47, 47, some 27), (47, 47, some 28), (47, 47, some 29)] M M1) : ∀ {x1 : Int32} {M : Mem}, fX11_knows_47 k20 k53 x1 M = some M1 → sm [(79, 84, none), (47, 47, some 27), (47, 47, some 28), (47, 47, some 29)] M M1 := by
  intro x1 M hf
  unfold fX11_knows_47 at hf
  obtain ⟨v47, e47⟩ : ∃ y : Int32, y = (x1 + (1 : Int32)) := ⟨_, rfl⟩
  have hf := nx_at e47 hf
  exact hk20 hf
theorem sX11_knows_20 {M1 : Mem} {k53 : Mem → Option Mem} (hk53 : ∀ {M : Mem}, k53 M = some M1 → sm [(79, 84, none), (47, 47, some 27), (47, 47, some 28), (47, 47, some 29)] M M1) : ∀ (n : Nat) {x1 : Int32} {M : Mem}, fX11_knows_20 k53 n x1 M = some M1 → sm [(79, 84, none), (47, 47, some 27), (47, 47, some 28), (47, 47, some 29)] M M1 := by
  intro n
  induction n with
  | zero =>
    intro x1 M hf
    exact absurd (show none = some _ from hf) (fun h => by cases h)
  | succ n ih =>
    intro x1 M hf
    rw [fX11_knows_20] at hf
    obtain ⟨q22, c22, hf⟩ := br_b hf
    by_cases q25 : q22 ≤ x1
    · have hf := (br_if hf).1 q25
      exact hk53 hf
    · have hf := (br_if hf).2 q25
      exact sX11_knows_30 (fun hf => sX11_knows_47 (fun hf => ih hf) (fun hf => hk53 hf) hf) FU hf
theorem sX11_knows_53 {M1 : Mem} : ∀ {M : Mem}, fX11_knows_53 M = some M1 → sm [(79, 84, none), (47, 47, some 27), (47, 47, some 28), (47, 47, some 29)] M M1 := by
  intro M hf
  unfold fX11_knows_53 at hf
  obtain ⟨q54, c54, hf⟩ := br_b hf
  refine sm_tr (ssX11_findsMiddles c54) (by decide) ?_
  cases hf
  exact sm_rf
theorem sX11_knows_0 {M1 : Mem} : ∀ {M : Mem}, fX11_knows M = some M1 → sm [(79, 84, none), (47, 47, some 27), (47, 47, some 28), (47, 47, some 29)] M M1 := by
  intro M hf
  unfold fX11_knows at hf
  by_cases q4 : (M.1 47 29) = 0
  · have hf := (br_if hf).1 q4
    obtain ⟨M10, e10⟩ : ∃ y : Mem, y = (sI M 47 29 (1 : Int32)) := ⟨_, rfl⟩
    have hf := nx_at e10 hf
    refine sm_I e10 (inS_up (L0 := [(47, 47, some 29)]) (by decide) (inS_s 47 29)) ?_
    obtain ⟨M15, e15⟩ : ∃ y : Mem, y = (sI M10 47 27 (0 : Int32)) := ⟨_, rfl⟩
    have hf := nx_at e15 hf
    refine sm_I e15 (inS_up (L0 := [(47, 47, some 27)]) (by decide) (inS_s 47 27)) ?_
    exact sX11_knows_20 (fun hf => sX11_knows_53 hf) FU hf
  · have hf := (br_if hf).2 q4
    cases hf
    exact sm_rf
theorem ssX11_knows {M : Mem} {M1 : Mem} (h : fX11_knows M = some M1) : sm [(79, 84, none), (47, 47, some 27), (47, 47, some 28), (47, 47, some 29)] M M1 := sX11_knows_0 h
theorem sX11_led_16 {r : Int32} {M1 : Mem} : ∀ {M : Mem}, fX11_led_16 M = some (r, M1) → sm [(87, 87, none)] M M1 := by
  intro M hf
  unfold fX11_led_16 at hf
  cases hf
  exact sm_rf
theorem sX11_led_110 {r : Int32} {M1 : Mem} {k80 : Int32 → Int32 → Int32 → Int32 → Mem → Option (Int32 × Mem)} {k116 : Int32 → Int32 → Int32 → Mem → Option (Int32 × Mem)} (hk80 : ∀ {x3 : Int32} {x4 : Int32} {x5 : Int32} {x6 : Int32} {M : Mem}, k80 x3 x4 x5 x6 M = some (r, M1) → sm [(87, 87, none)] M M1) (hk116 : ∀ {x3 : Int32} {x5 : Int32} {x6 : Int32} {M : Mem}, k116 x3 x5 x6 M = some (r, M1) → sm [(87, 87, none)] M M1) : ∀ {x3 : Int32} {x4 : Int32} {x5 : Int32} {x6 : Int32} {M : Mem}, fX11_led_110 k80 k116 x3 x4 x5 x6 M = some (r, M1) → sm [(87, 87, none)] M M1 := by
  intro x3 x4 x5 x6 M hf
  unfold fX11_led_110 at hf
  obtain ⟨v110, e110⟩ : ∃ y : Int32, y = (x6 + (1 : Int32)) := ⟨_, rfl⟩
  have hf := nx_at e110 hf
  exact hk80 hf
theorem sX11_led_80 {r : Int32} {M1 : Mem} {k116 : Int32 → Int32 → Int32 → Mem → Option (Int32 × Mem)} (hk116 : ∀ {x3 : Int32} {x5 : Int32} {x6 : Int32} {M : Mem}, k116 x3 x5 x6 M = some (r, M1) → sm [(87, 87, none)] M M1) : ∀ (n : Nat) {x3 : Int32} {x4 : Int32} {x5 : Int32} {x6 : Int32} {M : Mem}, fX11_led_80 k116 n x3 x4 x5 x6 M = some (r, M1) → sm [(87, 87, none)] M M1 := by
  intro n
  induction n with
  | zero =>
    intro x3 x4 x5 x6 M hf
    exact absurd (show none = some _ from hf) (fun h => by cases h)
  | succ n ih =>
    intro x3 x4 x5 x6 M hf
    rw [fX11_led_80] at hf
    obtain ⟨g86, hf⟩ := br_g hf
    obtain ⟨g93, hf⟩ := br_g hf
    by_cases q96 : (M.1 87 (ix x6)) = ((M.1 87 (ix x4)) - (1 : Int32))
    · have hf := (br_if hf).1 q96
      obtain ⟨q104, c104, hf⟩ := br_b hf
      by_cases q107 : q104 = 0
      · have hf := (br_if hf).1 q107
        exact sX11_led_110 (fun hf => ih hf) (fun hf => hk116 hf) hf
      · have hf := (br_if hf).2 q107
        exact hk116 hf
    · have hf := (br_if hf).2 q96
      exact sX11_led_110 (fun hf => ih hf) (fun hf => hk116 hf) hf
theorem sX11_led_116 {r : Int32} {M1 : Mem} {k71 : Int32 → Int32 → Int32 → Mem → Option (Int32 × Mem)} {k126 : Int32 → Mem → Option (Int32 × Mem)} (hk71 : ∀ {x3 : Int32} {x4 : Int32} {x5 : Int32} {M : Mem}, k71 x3 x4 x5 M = some (r, M1) → sm [(87, 87, none)] M M1) (hk126 : ∀ {x4 : Int32} {M : Mem}, k126 x4 M = some (r, M1) → sm [(87, 87, none)] M M1) : ∀ {x3 : Int32} {x5 : Int32} {x6 : Int32} {M : Mem}, fX11_led_116 k71 k126 x3 x5 x6 M = some (r, M1) → sm [(87, 87, none)] M M1 := by
  intro x3 x5 x6 M hf
  unfold fX11_led_116 at hf
  obtain ⟨v120, e120⟩ : ∃ y : Int32, y = (x5 + (1 : Int32)) := ⟨_, rfl⟩
  have hf := nx_at e120 hf
  exact hk71 hf
theorem sX11_led_71 {r : Int32} {M1 : Mem} {k126 : Int32 → Mem → Option (Int32 × Mem)} (hk126 : ∀ {x4 : Int32} {M : Mem}, k126 x4 M = some (r, M1) → sm [(87, 87, none)] M M1) : ∀ (n : Nat) {x3 : Int32} {x4 : Int32} {x5 : Int32} {M : Mem}, fX11_led_71 k126 n x3 x4 x5 M = some (r, M1) → sm [(87, 87, none)] M M1 := by
  intro n
  induction n with
  | zero =>
    intro x3 x4 x5 M hf
    exact absurd (show none = some _ from hf) (fun h => by cases h)
  | succ n ih =>
    intro x3 x4 x5 M hf
    rw [fX11_led_71] at hf
    by_cases q74 : x3 ≤ x5
    · have hf := (br_if hf).1 q74
      exact hk126 hf
    · have hf := (br_if hf).2 q74
      exact sX11_led_80 (fun hf => sX11_led_116 (fun hf => ih hf) (fun hf => hk126 hf) hf) FU hf
theorem sX11_led_126 {r : Int32} {M1 : Mem} : ∀ {x4 : Int32} {M : Mem}, fX11_led_126 x4 M = some (r, M1) → sm [(87, 87, none)] M M1 := by
  intro x4 M hf
  unfold fX11_led_126 at hf
  cases hf
  exact sm_rf
theorem sX11_led_0 {r : Int32} {M1 : Mem} : ∀ {x1 : Int32} {x2 : Int32} {x3 : Int32} {M : Mem}, fX11_led x1 x2 x3 M = some (r, M1) → sm [(87, 87, none)] M M1 := by
  intro x1 x2 x3 M hf
  unfold fX11_led at hf
  obtain ⟨q2, c2, hf⟩ := br_b hf
  by_cases q5 : q2 = 0
  · have hf := (br_if hf).1 q5
    exact sX11_led_16 hf
  · have hf := (br_if hf).2 q5
    obtain ⟨q10, c10, hf⟩ := br_b hf
    by_cases q13 : q10 = 0
    · have hf := (br_if hf).1 q13
      exact sX11_led_16 hf
    · have hf := (br_if hf).2 q13
      obtain ⟨q20, c20, hf⟩ := br_b hf
      refine sm_tr (ssX11_leads c20) (by decide) ?_
      obtain ⟨g28, hf⟩ := br_g hf
      by_cases q30 : (q20.1 87 (ix x1)) = (-1 : Int32)
      · have hf := (br_if hf).1 q30
        cases hf
        exact sm_rf
      · have hf := (br_if hf).2 q30
        by_cases q37 : x3 = (-1 : Int32)
        · have hf := (br_if hf).1 q37
          obtain ⟨g45, hf⟩ := br_g hf
          cases hf
          exact sm_rf
        · have hf := (br_if hf).2 q37
          obtain ⟨g55, hf⟩ := br_g hf
          obtain ⟨q57, c57, hf⟩ := br_b hf
          by_cases q60 : q57 = 0
          · have hf := (br_if hf).1 q60
            cases hf
            exact sm_rf
          · have hf := (br_if hf).2 q60
            exact sX11_led_71 (fun hf => sX11_led_126 hf) FU hf
theorem ssX11_led {x1 : Int32} {x2 : Int32} {x3 : Int32} {M : Mem} {r : Int32} {M1 : Mem} (h : fX11_led x1 x2 x3 M = some (r, M1)) : sm [(87, 87, none)] M M1 := sX11_led_0 h
theorem sX11_line_0 {r : Int32} {M1 : Mem} : ∀ {x1 : Int32} {x2 : Int32} {M : Mem}, fX11_line x1 x2 M = some (r, M1) → sm [(79, 84, none), (47, 47, some 27), (47, 47, some 28), (47, 47, some 29)] M M1 := by
  intro x1 x2 M hf
  unfold fX11_line at hf
  obtain ⟨q1, c1, hf⟩ := br_b hf
  refine sm_tr (ssX11_knows c1) (by decide) ?_
  by_cases q6 : x1 = (-1 : Int32)
  · have hf := (br_if hf).1 q6
    cases hf
    exact sm_rf
  · have hf := (br_if hf).2 q6
    obtain ⟨q24, c24, hf⟩ := br_b hf
    by_cases q27 : q24 = 0
    · have hf := (br_if hf).1 q27
      cases hf
      exact sm_rf
    · have hf := (br_if hf).2 q27
      by_cases q35_0 : x2 = (0 : Int32)
      · have hf := (br_if hf).1 q35_0
        obtain ⟨g65, hf⟩ := br_g hf
        cases hf
        exact sm_rf
      · have hf := (br_if hf).2 q35_0
        by_cases q35_1 : x2 = (1 : Int32)
        · have hf := (br_if hf).1 q35_1
          obtain ⟨g72, hf⟩ := br_g hf
          cases hf
          exact sm_rf
        · have hf := (br_if hf).2 q35_1
          by_cases q35_2 : x2 = (2 : Int32)
          · have hf := (br_if hf).1 q35_2
            obtain ⟨g79, hf⟩ := br_g hf
            cases hf
            exact sm_rf
          · have hf := (br_if hf).2 q35_2
            cases hf
            exact sm_rf
theorem ssX11_line {x1 : Int32} {x2 : Int32} {M : Mem} {r : Int32} {M1 : Mem} (h : fX11_line x1 x2 M = some (r, M1)) : sm [(79, 84, none), (47, 47, some 27), (47, 47, some 28), (47, 47, some 29)] M M1 := sX11_line_0 h
theorem sX11_lot_25 {r : Int32} {M1 : Mem} : ∀ {M : Mem}, fX11_lot_25 M = some (r, M1) → sm [(89, 97, none)] M M1 := by
  intro M hf
  unfold fX11_lot_25 at hf
  cases hf
  exact sm_rf
theorem sX11_lot_32 {r : Int32} {M1 : Mem} {k55 : Int32 → Int64 → Mem → Option (Int32 × Mem)} (hk55 : ∀ {x1 : Int32} {y2 : Int64} {M : Mem}, k55 x1 y2 M = some (r, M1) → sm [(89, 97, none)] M M1) : ∀ (n : Nat) {x1 : Int32} {y2 : Int64} {x4 : Int32} {M : Mem}, fX11_lot_32 k55 n x1 y2 x4 M = some (r, M1) → sm [(89, 97, none)] M M1 := by
  intro n
  induction n with
  | zero =>
    intro x1 y2 x4 M hf
    exact absurd (show none = some _ from hf) (fun h => by cases h)
  | succ n ih =>
    intro x1 y2 x4 M hf
    rw [fX11_lot_32] at hf
    by_cases q36 : (8 : Int32) ≤ x4
    · have hf := (br_if hf).1 q36
      exact hk55 hf
    · have hf := (br_if hf).2 q36
      obtain ⟨g46, hf⟩ := br_g hf
      obtain ⟨v48, e48⟩ : ∃ y : Int64, y = (y2 + (M.2 97 (ix x4))) := ⟨_, rfl⟩
      have hf := nx_at e48 hf
      obtain ⟨v49, e49⟩ : ∃ y : Int32, y = (x4 + (1 : Int32)) := ⟨_, rfl⟩
      have hf := nx_at e49 hf
      exact ih hf
theorem sX11_lot_70 {r : Int32} {M1 : Mem} : ∀ {t0 : Int64} {M : Mem}, fX11_lot_70 t0 M = some (r, M1) → sm [(89, 97, none)] M M1 := by
  intro t0 M hf
  unfold fX11_lot_70 at hf
  cases hf
  exact sm_rf
theorem sX11_lot_55 {r : Int32} {M1 : Mem} : ∀ {x1 : Int32} {y2 : Int64} {M : Mem}, fX11_lot_55 x1 y2 M = some (r, M1) → sm [(89, 97, none)] M M1 := by
  intro x1 y2 M hf
  unfold fX11_lot_55 at hf
  by_cases q57 : x1 = (-1 : Int32)
  · have hf := (br_if hf).1 q57
    exact sX11_lot_70 hf
  · have hf := (br_if hf).2 q57
    obtain ⟨g69, hf⟩ := br_g hf
    exact sX11_lot_70 hf
theorem sX11_lot_0 {r : Int32} {M1 : Mem} : ∀ {x1 : Int32} {M : Mem}, fX11_lot x1 M = some (r, M1) → sm [(89, 97, none)] M M1 := by
  intro x1 M hf
  unfold fX11_lot at hf
  obtain ⟨q6, c6, hf⟩ := br_b hf
  obtain ⟨q12, c12, hf⟩ := br_b hf
  by_cases q15 : q12 = 0
  · have hf := (br_if hf).1 q15
    exact sX11_lot_25 hf
  · have hf := (br_if hf).2 q15
    obtain ⟨q19, c19, hf⟩ := br_b hf
    refine sm_tr (ssX11_findsLots c19) (by decide) ?_
    by_cases q22 : q19.1 = 0
    · have hf := (br_if hf).1 q22
      exact sX11_lot_25 hf
    · have hf := (br_if hf).2 q22
      exact sX11_lot_32 (fun hf => sX11_lot_55 hf) FU hf
theorem ssX11_lot {x1 : Int32} {M : Mem} {r : Int32} {M1 : Mem} (h : fX11_lot x1 M = some (r, M1)) : sm [(89, 97, none)] M M1 := sX11_lot_0 h
theorem sX11_make_209 {r : Int32} {M1 : Mem} {k58 : Int32 → Int32 → Int32 → Int32 → Int32 → Int32 → Int32 → Int32 → Mem → Option (Int32 × Mem)} {k215 : Int32 → Int32 → Int32 → Int32 → Int32 → Mem → Option (Int32 × Mem)} (hk58 : ∀ {x1 : Int32} {x2 : Int32} {x3 : Int32} {x4 : Int32} {x5 : Int32} {x6 : Int32} {x7 : Int32} {x8 : Int32} {M : Mem}, k58 x1 x2 x3 x4 x5 x6 x7 x8 M = some (r, M1) → sm [(50, 50, none), (53, 53, none)] M M1) (hk215 : ∀ {x1 : Int32} {x2 : Int32} {x3 : Int32} {x4 : Int32} {x5 : Int32} {M : Mem}, k215 x1 x2 x3 x4 x5 M = some (r, M1) → sm [(50, 50, none), (53, 53, none)] M M1) : ∀ {x1 : Int32} {x2 : Int32} {x3 : Int32} {x4 : Int32} {x5 : Int32} {x6 : Int32} {x7 : Int32} {x8 : Int32} {M : Mem}, fX11_make_209 k58 k215 x1 x2 x3 x4 x5 x6 x7 x8 M = some (r, M1) → sm [(50, 50, none), (53, 53, none)] M M1 := by
  intro x1 x2 x3 x4 x5 x6 x7 x8 M hf
  unfold fX11_make_209 at hf
  obtain ⟨v209, e209⟩ : ∃ y : Int32, y = (x8 + (1 : Int32)) := ⟨_, rfl⟩
  have hf := nx_at e209 hf
  exact hk58 hf
theorem sX11_make_187 {r : Int32} {M1 : Mem} {k58 : Int32 → Int32 → Int32 → Int32 → Int32 → Int32 → Int32 → Int32 → Mem → Option (Int32 × Mem)} {k215 : Int32 → Int32 → Int32 → Int32 → Int32 → Mem → Option (Int32 × Mem)} (hk58 : ∀ {x1 : Int32} {x2 : Int32} {x3 : Int32} {x4 : Int32} {x5 : Int32} {x6 : Int32} {x7 : Int32} {x8 : Int32} {M : Mem}, k58 x1 x2 x3 x4 x5 x6 x7 x8 M = some (r, M1) → sm [(50, 50, none), (53, 53, none)] M M1) (hk215 : ∀ {x1 : Int32} {x2 : Int32} {x3 : Int32} {x4 : Int32} {x5 : Int32} {M : Mem}, k215 x1 x2 x3 x4 x5 M = some (r, M1) → sm [(50, 50, none), (53, 53, none)] M M1) : ∀ {x1 : Int32} {x2 : Int32} {x3 : Int32} {x4 : Int32} {x5 : Int32} {x6 : Int32} {x7 : Int32} {x8 : Int32} {M : Mem}, fX11_make_187 k58 k215 x1 x2 x3 x4 x5 x6 x7 x8 M = some (r, M1) → sm [(50, 50, none), (53, 53, none)] M M1 := by
  intro x1 x2 x3 x4 x5 x6 x7 x8 M hf
  unfold fX11_make_187 at hf
  obtain ⟨g197, hf⟩ := br_g hf
  obtain ⟨M197, e197⟩ : ∃ y : Mem, y = (sI M 50 (ix x5) x6) := ⟨_, rfl⟩
  have hf := nx_at e197 hf
  refine sm_I e197 (inS_up (L0 := [(50, 50, none)]) (by decide) (inS_n 50 _)) ?_
  obtain ⟨g208, hf⟩ := br_g hf
  obtain ⟨M208, e208⟩ : ∃ y : Mem, y = (sI M197 53 (ix x5) x7) := ⟨_, rfl⟩
  have hf := nx_at e208 hf
  refine sm_I e208 (inS_up (L0 := [(53, 53, none)]) (by decide) (inS_n 53 _)) ?_
  exact sX11_make_209 (fun hf => hk58 hf) (fun hf => hk215 hf) hf
theorem sX11_make_133 {r : Int32} {M1 : Mem} {k58 : Int32 → Int32 → Int32 → Int32 → Int32 → Int32 → Int32 → Int32 → Mem → Option (Int32 × Mem)} {k215 : Int32 → Int32 → Int32 → Int32 → Int32 → Mem → Option (Int32 × Mem)} (hk58 : ∀ {x1 : Int32} {x2 : Int32} {x3 : Int32} {x4 : Int32} {x5 : Int32} {x6 : Int32} {x7 : Int32} {x8 : Int32} {M : Mem}, k58 x1 x2 x3 x4 x5 x6 x7 x8 M = some (r, M1) → sm [(50, 50, none), (53, 53, none)] M M1) (hk215 : ∀ {x1 : Int32} {x2 : Int32} {x3 : Int32} {x4 : Int32} {x5 : Int32} {M : Mem}, k215 x1 x2 x3 x4 x5 M = some (r, M1) → sm [(50, 50, none), (53, 53, none)] M M1) : ∀ {x1 : Int32} {x2 : Int32} {x3 : Int32} {x4 : Int32} {x5 : Int32} {x6 : Int32} {x7 : Int32} {x8 : Int32} {x11 : Int32} {M : Mem}, fX11_make_133 k58 k215 x1 x2 x3 x4 x5 x6 x7 x8 x11 M = some (r, M1) → sm [(50, 50, none), (53, 53, none)] M M1 := by
  intro x1 x2 x3 x4 x5 x6 x7 x8 x11 M hf
  unfold fX11_make_133 at hf
  obtain ⟨g149, hf⟩ := br_g hf
  obtain ⟨g150, hf⟩ := br_g hf
  obtain ⟨M150, e150⟩ : ∃ y : Mem, y = (sI M 50 (ix x5) (M.1 68 (ix x8))) := ⟨_, rfl⟩
  have hf := nx_at e150 hf
  refine sm_I e150 (inS_up (L0 := [(50, 50, none)]) (by decide) (inS_n 50 _)) ?_
  obtain ⟨g167, hf⟩ := br_g hf
  obtain ⟨g168, hf⟩ := br_g hf
  obtain ⟨M168, e168⟩ : ∃ y : Mem, y = (sI M150 53 (ix x5) (M150.1 71 (ix x8))) := ⟨_, rfl⟩
  have hf := nx_at e168 hf
  refine sm_I e168 (inS_up (L0 := [(53, 53, none)]) (by decide) (inS_n 53 _)) ?_
  obtain ⟨q170, c170, hf⟩ := br_b hf
  by_cases q174 : q170 = (-1 : Int32)
  · have hf := (br_if hf).1 q174
    exact sX11_make_187 (fun hf => hk58 hf) (fun hf => hk215 hf) hf
  · have hf := (br_if hf).2 q174
    exact sX11_make_187 (fun hf => hk58 hf) (fun hf => hk215 hf) hf
theorem sX11_make_58 {r : Int32} {M1 : Mem} {k215 : Int32 → Int32 → Int32 → Int32 → Int32 → Mem → Option (Int32 × Mem)} (hk215 : ∀ {x1 : Int32} {x2 : Int32} {x3 : Int32} {x4 : Int32} {x5 : Int32} {M : Mem}, k215 x1 x2 x3 x4 x5 M = some (r, M1) → sm [(50, 50, none), (53, 53, none)] M M1) : ∀ (n : Nat) {x1 : Int32} {x2 : Int32} {x3 : Int32} {x4 : Int32} {x5 : Int32} {x6 : Int32} {x7 : Int32} {x8 : Int32} {M : Mem}, fX11_make_58 k215 n x1 x2 x3 x4 x5 x6 x7 x8 M = some (r, M1) → sm [(50, 50, none), (53, 53, none)] M M1 := by
  intro n
  induction n with
  | zero =>
    intro x1 x2 x3 x4 x5 x6 x7 x8 M hf
    exact absurd (show none = some _ from hf) (fun h => by cases h)
  | succ n ih =>
    intro x1 x2 x3 x4 x5 x6 x7 x8 M hf
    rw [fX11_make_58] at hf
    obtain ⟨q61, c61, hf⟩ := br_b hf
    by_cases q64 : q61 ≤ x8
    · have hf := (br_if hf).1 q64
      exact hk215 hf
    · have hf := (br_if hf).2 q64
      obtain ⟨g75, hf⟩ := br_g hf
      obtain ⟨v79, e79⟩ : ∃ y : Int32, y = ((M.1 68 (ix x8)) - x6) := ⟨_, rfl⟩
      have hf := nx_at e79 hf
      obtain ⟨g89, hf⟩ := br_g hf
      obtain ⟨v93, e93⟩ : ∃ y : Int32, y = ((M.1 71 (ix x8)) - x7) := ⟨_, rfl⟩
      have hf := nx_at e93 hf
      obtain ⟨g114, hf⟩ := br_g hf
      obtain ⟨v116, e116⟩ : ∃ y : Int32, y = (((v79 * v79) + (v93 * v93)) * (M.1 56 (ix x5))) := ⟨_, rfl⟩
      have hf := nx_at e116 hf
      by_cases q120 : x2 = (-1 : Int32)
      · have hf := (br_if hf).1 q120
        exact sX11_make_133 (fun hf => ih hf) (fun hf => hk215 hf) hf
      · have hf := (br_if hf).2 q120
        by_cases q127 : v116 < x4
        · have hf := (br_if hf).1 q127
          exact sX11_make_133 (fun hf => ih hf) (fun hf => hk215 hf) hf
        · have hf := (br_if hf).2 q127
          exact sX11_make_209 (fun hf => ih hf) (fun hf => hk215 hf) hf
theorem sX11_make_215 {r : Int32} {M1 : Mem} {k24 : Int32 → Int32 → Int32 → Int32 → Int32 → Mem → Option (Int32 × Mem)} {k221 : Int32 → Int32 → Int32 → Int32 → Mem → Option (Int32 × Mem)} (hk24 : ∀ {x1 : Int32} {x2 : Int32} {x3 : Int32} {x4 : Int32} {x5 : Int32} {M : Mem}, k24 x1 x2 x3 x4 x5 M = some (r, M1) → sm [(50, 50, none), (53, 53, none)] M M1) (hk221 : ∀ {x1 : Int32} {x2 : Int32} {x3 : Int32} {x4 : Int32} {M : Mem}, k221 x1 x2 x3 x4 M = some (r, M1) → sm [(50, 50, none), (53, 53, none)] M M1) : ∀ {x1 : Int32} {x2 : Int32} {x3 : Int32} {x4 : Int32} {x5 : Int32} {M : Mem}, fX11_make_215 k24 k221 x1 x2 x3 x4 x5 M = some (r, M1) → sm [(50, 50, none), (53, 53, none)] M M1 := by
  intro x1 x2 x3 x4 x5 M hf
  unfold fX11_make_215 at hf
  obtain ⟨v215, e215⟩ : ∃ y : Int32, y = (x5 + (1 : Int32)) := ⟨_, rfl⟩
  have hf := nx_at e215 hf
  exact hk24 hf
theorem sX11_make_24 {r : Int32} {M1 : Mem} {k221 : Int32 → Int32 → Int32 → Int32 → Mem → Option (Int32 × Mem)} (hk221 : ∀ {x1 : Int32} {x2 : Int32} {x3 : Int32} {x4 : Int32} {M : Mem}, k221 x1 x2 x3 x4 M = some (r, M1) → sm [(50, 50, none), (53, 53, none)] M M1) : ∀ (n : Nat) {x1 : Int32} {x2 : Int32} {x3 : Int32} {x4 : Int32} {x5 : Int32} {M : Mem}, fX11_make_24 k221 n x1 x2 x3 x4 x5 M = some (r, M1) → sm [(50, 50, none), (53, 53, none)] M M1 := by
  intro n
  induction n with
  | zero =>
    intro x1 x2 x3 x4 x5 M hf
    exact absurd (show none = some _ from hf) (fun h => by cases h)
  | succ n ih =>
    intro x1 x2 x3 x4 x5 M hf
    rw [fX11_make_24] at hf
    obtain ⟨q27, c27, hf⟩ := br_b hf
    by_cases q30 : q27 ≤ x5
    · have hf := (br_if hf).1 q30
      exact hk221 hf
    · have hf := (br_if hf).2 q30
      obtain ⟨g41, hf⟩ := br_g hf
      obtain ⟨v42, e42⟩ : ∃ y : Int32, y = (M.1 50 (ix x5)) := ⟨_, rfl⟩
      have hf := nx_at e42 hf
      obtain ⟨g52, hf⟩ := br_g hf
      obtain ⟨v53, e53⟩ : ∃ y : Int32, y = (M.1 53 (ix x5)) := ⟨_, rfl⟩
      have hf := nx_at e53 hf
      exact sX11_make_58 (fun hf => sX11_make_215 (fun hf => ih hf) (fun hf => hk221 hf) hf) FU hf
theorem sX11_make_249 {r : Int32} {M1 : Mem} : ∀ {s0 : Int32} {M : Mem}, fX11_make_249 s0 M = some (r, M1) → sm [(50, 50, none), (53, 53, none)] M M1 := by
  intro s0 M hf
  unfold fX11_make_249 at hf
  cases hf
  exact sm_rf
theorem sX11_make_221 {r : Int32} {M1 : Mem} : ∀ {x1 : Int32} {x2 : Int32} {x3 : Int32} {x4 : Int32} {M : Mem}, fX11_make_221 x1 x2 x3 x4 M = some (r, M1) → sm [(50, 50, none), (53, 53, none)] M M1 := by
  intro x1 x2 x3 x4 M hf
  unfold fX11_make_221 at hf
  by_cases q223 : x2 = (-1 : Int32)
  · have hf := (br_if hf).1 q223
    exact sX11_make_249 hf
  · have hf := (br_if hf).2 q223
    by_cases q231 : x1 = 0
    · have hf := (br_if hf).1 q231
      exact sX11_make_249 hf
    · have hf := (br_if hf).2 q231
      by_cases q240 : x1 = (1 : Int32)
      · have hf := (br_if hf).1 q240
        exact sX11_make_249 hf
      · have hf := (br_if hf).2 q240
        exact sX11_make_249 hf
theorem sX11_make_0 {r : Int32} {M1 : Mem} : ∀ {x1 : Int32} {M : Mem}, fX11_make x1 M = some (r, M1) → sm [(50, 50, none), (53, 53, none)] M M1 := by
  intro x1 M hf
  unfold fX11_make at hf
  obtain ⟨q6, c6, hf⟩ := br_b hf
  by_cases q9 : q6 = 0
  · have hf := (br_if hf).1 q9
    cases hf
    exact sm_rf
  · have hf := (br_if hf).2 q9
    exact sX11_make_24 (fun hf => sX11_make_221 hf) FU hf
theorem ssX11_make {x1 : Int32} {M : Mem} {r : Int32} {M1 : Mem} (h : fX11_make x1 M = some (r, M1)) : sm [(50, 50, none), (53, 53, none)] M M1 := sX11_make_0 h
theorem sX11_middle_0 {r : Int32} {M1 : Mem} : ∀ {x1 : Int32} {x2 : Int32} {M : Mem}, fX11_middle x1 x2 M = some (r, M1) → sm [(79, 84, none), (47, 47, some 27), (47, 47, some 28), (47, 47, some 29)] M M1 := by
  intro x1 x2 M hf
  unfold fX11_middle at hf
  obtain ⟨q1, c1, hf⟩ := br_b hf
  refine sm_tr (ssX11_knows c1) (by decide) ?_
  by_cases q6 : x1 = (-1 : Int32)
  · have hf := (br_if hf).1 q6
    cases hf
    exact sm_rf
  · have hf := (br_if hf).2 q6
    obtain ⟨q24, c24, hf⟩ := br_b hf
    by_cases q27 : q24 = 0
    · have hf := (br_if hf).1 q27
      cases hf
      exact sm_rf
    · have hf := (br_if hf).2 q27
      by_cases q35_0 : x2 = (0 : Int32)
      · have hf := (br_if hf).1 q35_0
        obtain ⟨g65, hf⟩ := br_g hf
        cases hf
        exact sm_rf
      · have hf := (br_if hf).2 q35_0
        by_cases q35_1 : x2 = (1 : Int32)
        · have hf := (br_if hf).1 q35_1
          obtain ⟨g73, hf⟩ := br_g hf
          cases hf
          exact sm_rf
        · have hf := (br_if hf).2 q35_1
          by_cases q35_2 : x2 = (2 : Int32)
          · have hf := (br_if hf).1 q35_2
            obtain ⟨g81, hf⟩ := br_g hf
            cases hf
            exact sm_rf
          · have hf := (br_if hf).2 q35_2
            cases hf
            exact sm_rf
theorem ssX11_middle {x1 : Int32} {x2 : Int32} {M : Mem} {r : Int32} {M1 : Mem} (h : fX11_middle x1 x2 M = some (r, M1)) : sm [(79, 84, none), (47, 47, some 27), (47, 47, some 28), (47, 47, some 29)] M M1 := sX11_middle_0 h
theorem sX11_move_49 {r : Int32} {M1 : Mem} : ∀ {M : Mem}, fX11_move_49 M = some (r, M1) → sm [(50, 50, none), (53, 53, none), (101, 140, none), (47, 47, some 29), (47, 47, some 48)] M M1 := by
  intro M hf
  unfold fX11_move_49 at hf
  cases hf
  exact sm_rf
theorem sX11_move_40 {r : Int32} {M1 : Mem} : ∀ {x1 : Int32} {x2 : Int32} {x3 : Int32} {M : Mem}, fX11_move_40 x1 x2 x3 M = some (r, M1) → sm [(50, 50, none), (53, 53, none), (101, 140, none), (47, 47, some 29), (47, 47, some 48)] M M1 := by
  intro x1 x2 x3 M hf
  unfold fX11_move_40 at hf
  by_cases q46 : (M.1 47 48) = (40 : Int32)
  · have hf := (br_if hf).1 q46
    exact sX11_move_49 hf
  · have hf := (br_if hf).2 q46
    obtain ⟨g59, hf⟩ := br_g hf
    obtain ⟨M66, e66⟩ : ∃ y : Mem, y = (sI M (101 + ix (M.1 47 48)) (ix (0 : Int32)) x1) := ⟨_, rfl⟩
    have hf := nx_at e66 hf
    refine sm_I e66 (inS_up (L0 := [(101, 140, none)]) (by decide) (inS_of (101, 140, none) (by decide) (by have := ix_lt g59; simp) (by have := ix_lt g59; simp; omega) (Or.inl rfl))) ?_
    obtain ⟨g77, hf⟩ := br_g hf
    obtain ⟨M78, e78⟩ : ∃ y : Mem, y = (sI M66 (101 + ix (M.1 47 48)) (ix (1 : Int32)) (M66.1 50 (ix x1))) := ⟨_, rfl⟩
    have hf := nx_at e78 hf
    refine sm_I e78 (inS_up (L0 := [(101, 140, none)]) (by decide) (inS_of (101, 140, none) (by decide) (by have := ix_lt g59; simp) (by have := ix_lt g59; simp; omega) (Or.inl rfl))) ?_
    obtain ⟨g89, hf⟩ := br_g hf
    obtain ⟨M90, e90⟩ : ∃ y : Mem, y = (sI M78 (101 + ix (M.1 47 48)) (ix (2 : Int32)) (M78.1 53 (ix x1))) := ⟨_, rfl⟩
    have hf := nx_at e90 hf
    refine sm_I e90 (inS_up (L0 := [(101, 140, none)]) (by decide) (inS_of (101, 140, none) (by decide) (by have := ix_lt g59; simp) (by have := ix_lt g59; simp; omega) (Or.inl rfl))) ?_
    obtain ⟨M95, e95⟩ : ∃ y : Mem, y = (sI M90 (101 + ix (M.1 47 48)) (ix (3 : Int32)) x2) := ⟨_, rfl⟩
    have hf := nx_at e95 hf
    refine sm_I e95 (inS_up (L0 := [(101, 140, none)]) (by decide) (inS_of (101, 140, none) (by decide) (by have := ix_lt g59; simp) (by have := ix_lt g59; simp; omega) (Or.inl rfl))) ?_
    obtain ⟨M100, e100⟩ : ∃ y : Mem, y = (sI M95 (101 + ix (M.1 47 48)) (ix (4 : Int32)) x3) := ⟨_, rfl⟩
    have hf := nx_at e100 hf
    refine sm_I e100 (inS_up (L0 := [(101, 140, none)]) (by decide) (inS_of (101, 140, none) (by decide) (by have := ix_lt g59; simp) (by have := ix_lt g59; simp; omega) (Or.inl rfl))) ?_
    obtain ⟨q105, c105, hf⟩ := br_b hf
    obtain ⟨M108, e108⟩ : ∃ y : Mem, y = (sI M100 (101 + ix (M.1 47 48)) (ix (5 : Int32)) q105) := ⟨_, rfl⟩
    have hf := nx_at e108 hf
    refine sm_I e108 (inS_up (L0 := [(101, 140, none)]) (by decide) (inS_of (101, 140, none) (by decide) (by have := ix_lt g59; simp) (by have := ix_lt g59; simp; omega) (Or.inl rfl))) ?_
    obtain ⟨q114, c114, hf⟩ := br_b hf
    obtain ⟨M117, e117⟩ : ∃ y : Mem, y = (sI M108 (101 + ix (M.1 47 48)) (ix (7 : Int32)) q114) := ⟨_, rfl⟩
    have hf := nx_at e117 hf
    refine sm_I e117 (inS_up (L0 := [(101, 140, none)]) (by decide) (inS_of (101, 140, none) (by decide) (by have := ix_lt g59; simp) (by have := ix_lt g59; simp; omega) (Or.inl rfl))) ?_
    obtain ⟨g126, hf⟩ := br_g hf
    obtain ⟨M126, e126⟩ : ∃ y : Mem, y = (sI M117 50 (ix x1) x2) := ⟨_, rfl⟩
    have hf := nx_at e126 hf
    refine sm_I e126 (inS_up (L0 := [(50, 50, none)]) (by decide) (inS_n 50 _)) ?_
    obtain ⟨g135, hf⟩ := br_g hf
    obtain ⟨M135, e135⟩ : ∃ y : Mem, y = (sI M126 53 (ix x1) x3) := ⟨_, rfl⟩
    have hf := nx_at e135 hf
    refine sm_I e135 (inS_up (L0 := [(53, 53, none)]) (by decide) (inS_n 53 _)) ?_
    obtain ⟨q141, c141, hf⟩ := br_b hf
    obtain ⟨M144, e144⟩ : ∃ y : Mem, y = (sI M135 (101 + ix (M.1 47 48)) (ix (6 : Int32)) q141) := ⟨_, rfl⟩
    have hf := nx_at e144 hf
    refine sm_I e144 (inS_up (L0 := [(101, 140, none)]) (by decide) (inS_of (101, 140, none) (by decide) (by have := ix_lt g59; simp) (by have := ix_lt g59; simp; omega) (Or.inl rfl))) ?_
    obtain ⟨q150, c150, hf⟩ := br_b hf
    obtain ⟨M153, e153⟩ : ∃ y : Mem, y = (sI M144 (101 + ix (M.1 47 48)) (ix (8 : Int32)) q150) := ⟨_, rfl⟩
    have hf := nx_at e153 hf
    refine sm_I e153 (inS_up (L0 := [(101, 140, none)]) (by decide) (inS_of (101, 140, none) (by decide) (by have := ix_lt g59; simp) (by have := ix_lt g59; simp; omega) (Or.inl rfl))) ?_
    obtain ⟨M161, e161⟩ : ∃ y : Mem, y = (sI M153 47 48 ((M153.1 47 48) + (1 : Int32))) := ⟨_, rfl⟩
    have hf := nx_at e161 hf
    refine sm_I e161 (inS_up (L0 := [(47, 47, some 48)]) (by decide) (inS_s 47 48)) ?_
    obtain ⟨M166, e166⟩ : ∃ y : Mem, y = (sI M161 47 29 (0 : Int32)) := ⟨_, rfl⟩
    have hf := nx_at e166 hf
    refine sm_I e166 (inS_up (L0 := [(47, 47, some 29)]) (by decide) (inS_s 47 29)) ?_
    cases hf
    exact sm_rf
theorem sX11_move_0 {r : Int32} {M1 : Mem} : ∀ {x1 : Int32} {x2 : Int32} {x3 : Int32} {M : Mem}, fX11_move x1 x2 x3 M = some (r, M1) → sm [(50, 50, none), (53, 53, none), (101, 140, none), (47, 47, some 29), (47, 47, some 48)] M M1 := by
  intro x1 x2 x3 M hf
  unfold fX11_move at hf
  obtain ⟨q2, c2, hf⟩ := br_b hf
  by_cases q5 : q2 = 0
  · have hf := (br_if hf).1 q5
    exact sX11_move_49 hf
  · have hf := (br_if hf).2 q5
    obtain ⟨q10, c10, hf⟩ := br_b hf
    by_cases q13 : q10 = 0
    · have hf := (br_if hf).1 q13
      exact sX11_move_49 hf
    · have hf := (br_if hf).2 q13
      obtain ⟨g23, hf⟩ := br_g hf
      by_cases q25 : (M.1 50 (ix x1)) = x2
      · have hf := (br_if hf).1 q25
        obtain ⟨g35, hf⟩ := br_g hf
        by_cases q37 : (M.1 53 (ix x1)) = x3
        · have hf := (br_if hf).1 q37
          exact sX11_move_49 hf
        · have hf := (br_if hf).2 q37
          exact sX11_move_40 hf
      · have hf := (br_if hf).2 q25
        exact sX11_move_40 hf
theorem ssX11_move {x1 : Int32} {x2 : Int32} {x3 : Int32} {M : Mem} {r : Int32} {M1 : Mem} (h : fX11_move x1 x2 x3 M = some (r, M1)) : sm [(50, 50, none), (53, 53, none), (101, 140, none), (47, 47, some 29), (47, 47, some 48)] M M1 := sX11_move_0 h
theorem sX11_piece_28 {r : Int32} {M1 : Mem} : ∀ {M : Mem}, fX11_piece_28 M = some (r, M1) → sm [(85, 86, none), (47, 47, some 37), (47, 47, some 38)] M M1 := by
  intro M hf
  unfold fX11_piece_28 at hf
  cases hf
  exact sm_rf
theorem sX11_piece_103 {r : Int32} {M1 : Mem} {k63 : Int32 → Int32 → Int32 → Int32 → Int32 → Mem → Option (Int32 × Mem)} {k109 : Int32 → Int32 → Int32 → Mem → Option (Int32 × Mem)} (hk63 : ∀ {x3 : Int32} {x4 : Int32} {x5 : Int32} {x6 : Int32} {x7 : Int32} {M : Mem}, k63 x3 x4 x5 x6 x7 M = some (r, M1) → sm [(85, 86, none), (47, 47, some 37), (47, 47, some 38)] M M1) (hk109 : ∀ {x4 : Int32} {x5 : Int32} {x6 : Int32} {M : Mem}, k109 x4 x5 x6 M = some (r, M1) → sm [(85, 86, none), (47, 47, some 37), (47, 47, some 38)] M M1) : ∀ {x3 : Int32} {x4 : Int32} {x5 : Int32} {x6 : Int32} {x7 : Int32} {M : Mem}, fX11_piece_103 k63 k109 x3 x4 x5 x6 x7 M = some (r, M1) → sm [(85, 86, none), (47, 47, some 37), (47, 47, some 38)] M M1 := by
  intro x3 x4 x5 x6 x7 M hf
  unfold fX11_piece_103 at hf
  obtain ⟨v103, e103⟩ : ∃ y : Int32, y = (x7 + (1 : Int32)) := ⟨_, rfl⟩
  have hf := nx_at e103 hf
  exact hk63 hf
theorem sX11_piece_98 {r : Int32} {M1 : Mem} {k63 : Int32 → Int32 → Int32 → Int32 → Int32 → Mem → Option (Int32 × Mem)} {k109 : Int32 → Int32 → Int32 → Mem → Option (Int32 × Mem)} (hk63 : ∀ {x3 : Int32} {x4 : Int32} {x5 : Int32} {x6 : Int32} {x7 : Int32} {M : Mem}, k63 x3 x4 x5 x6 x7 M = some (r, M1) → sm [(85, 86, none), (47, 47, some 37), (47, 47, some 38)] M M1) (hk109 : ∀ {x4 : Int32} {x5 : Int32} {x6 : Int32} {M : Mem}, k109 x4 x5 x6 M = some (r, M1) → sm [(85, 86, none), (47, 47, some 37), (47, 47, some 38)] M M1) : ∀ {x3 : Int32} {x4 : Int32} {x6 : Int32} {x7 : Int32} {s0 : Int32} {M : Mem}, fX11_piece_98 k63 k109 x3 x4 x6 x7 s0 M = some (r, M1) → sm [(85, 86, none), (47, 47, some 37), (47, 47, some 38)] M M1 := by
  intro x3 x4 x6 x7 s0 M hf
  unfold fX11_piece_98 at hf
  obtain ⟨v100, e100⟩ : ∃ y : Int32, y = (x6 + (1 : Int32)) := ⟨_, rfl⟩
  have hf := nx_at e100 hf
  exact sX11_piece_103 (fun hf => hk63 hf) (fun hf => hk109 hf) hf
theorem sX11_piece_63 {r : Int32} {M1 : Mem} {k109 : Int32 → Int32 → Int32 → Mem → Option (Int32 × Mem)} (hk109 : ∀ {x4 : Int32} {x5 : Int32} {x6 : Int32} {M : Mem}, k109 x4 x5 x6 M = some (r, M1) → sm [(85, 86, none), (47, 47, some 37), (47, 47, some 38)] M M1) : ∀ (n : Nat) {x3 : Int32} {x4 : Int32} {x5 : Int32} {x6 : Int32} {x7 : Int32} {M : Mem}, fX11_piece_63 k109 n x3 x4 x5 x6 x7 M = some (r, M1) → sm [(85, 86, none), (47, 47, some 37), (47, 47, some 38)] M M1 := by
  intro n
  induction n with
  | zero =>
    intro x3 x4 x5 x6 x7 M hf
    exact absurd (show none = some _ from hf) (fun h => by cases h)
  | succ n ih =>
    intro x3 x4 x5 x6 x7 M hf
    rw [fX11_piece_63] at hf
    by_cases q68 : (10000 : Int32) ≤ x7
    · have hf := (br_if hf).1 q68
      exact hk109 hf
    · have hf := (br_if hf).2 q68
      obtain ⟨g77, hf⟩ := br_g hf
      by_cases q79 : (M.1 85 (ix x7)) = x3
      · have hf := (br_if hf).1 q79
        by_cases q88 : x5 = (-1 : Int32)
        · have hf := (br_if hf).1 q88
          exact sX11_piece_98 (fun hf => ih hf) (fun hf => hk109 hf) hf
        · have hf := (br_if hf).2 q88
          exact sX11_piece_98 (fun hf => ih hf) (fun hf => hk109 hf) hf
      · have hf := (br_if hf).2 q79
        exact sX11_piece_103 (fun hf => ih hf) (fun hf => hk109 hf) hf
theorem sX11_piece_138 {r : Int32} {M1 : Mem} : ∀ {s0 : Int32} {M : Mem}, fX11_piece_138 s0 M = some (r, M1) → sm [(85, 86, none), (47, 47, some 37), (47, 47, some 38)] M M1 := by
  intro s0 M hf
  unfold fX11_piece_138 at hf
  cases hf
  exact sm_rf
theorem sX11_piece_109 {r : Int32} {M1 : Mem} : ∀ {x4 : Int32} {x5 : Int32} {x6 : Int32} {M : Mem}, fX11_piece_109 x4 x5 x6 M = some (r, M1) → sm [(85, 86, none), (47, 47, some 37), (47, 47, some 38)] M M1 := by
  intro x4 x5 x6 M hf
  unfold fX11_piece_109 at hf
  by_cases q111 : x4 = 0
  · have hf := (br_if hf).1 q111
    exact sX11_piece_138 hf
  · have hf := (br_if hf).2 q111
    by_cases q125 : x4 = (1 : Int32)
    · have hf := (br_if hf).1 q125
      exact sX11_piece_138 hf
    · have hf := (br_if hf).2 q125
      exact sX11_piece_138 hf
theorem sX11_piece_0 {r : Int32} {M1 : Mem} : ∀ {x1 : Int32} {x2 : Int32} {x3 : Int32} {x4 : Int32} {M : Mem}, fX11_piece x1 x2 x3 x4 M = some (r, M1) → sm [(85, 86, none), (47, 47, some 37), (47, 47, some 38)] M M1 := by
  intro x1 x2 x3 x4 M hf
  unfold fX11_piece at hf
  obtain ⟨q1, c1, hf⟩ := br_b hf
  by_cases q4 : q1 = 0
  · have hf := (br_if hf).1 q4
    exact sX11_piece_28 hf
  · have hf := (br_if hf).2 q4
    obtain ⟨q9, c9, hf⟩ := br_b hf
    by_cases q12 : q9 = 0
    · have hf := (br_if hf).1 q12
      exact sX11_piece_28 hf
    · have hf := (br_if hf).2 q12
      obtain ⟨q22, c22, hf⟩ := br_b hf
      by_cases q25 : q22 = 0
      · have hf := (br_if hf).1 q25
        exact sX11_piece_28 hf
      · have hf := (br_if hf).2 q25
        obtain ⟨q33, c33, hf⟩ := br_b hf
        refine sm_tr (ssX11_finds c33) (by decide) ?_
        obtain ⟨q46, c46, hf⟩ := br_b hf
        by_cases q49 : q46 = 0
        · have hf := (br_if hf).1 q49
          cases hf
          exact sm_rf
        · have hf := (br_if hf).2 q49
          exact sX11_piece_63 (fun hf => sX11_piece_109 hf) FU hf
theorem ssX11_piece {x1 : Int32} {x2 : Int32} {x3 : Int32} {x4 : Int32} {M : Mem} {r : Int32} {M1 : Mem} (h : fX11_piece x1 x2 x3 x4 M = some (r, M1)) : sm [(85, 86, none), (47, 47, some 37), (47, 47, some 38)] M M1 := sX11_piece_0 h
theorem sX11_proof_54 {r : Int32} {M1 : Mem} {k74 : Int32 → Int32 → Int32 → Int32 → Mem → Option (Int32 × Mem)} {k100 : Int32 → Int32 → Int32 → Mem → Option (Int32 × Mem)} (hk74 : ∀ {x1 : Int32} {x2 : Int32} {x3 : Int32} {x4 : Int32} {M : Mem}, k74 x1 x2 x3 x4 M = some (r, M1) → sm [(79, 84, none), (47, 47, some 27), (47, 47, some 28), (47, 47, some 29)] M M1) (hk100 : ∀ {x1 : Int32} {x2 : Int32} {x3 : Int32} {M : Mem}, k100 x1 x2 x3 M = some (r, M1) → sm [(79, 84, none), (47, 47, some 27), (47, 47, some 28), (47, 47, some 29)] M M1) : ∀ (n : Nat) {x1 : Int32} {x2 : Int32} {x3 : Int32} {x4 : Int32} {M : Mem}, fX11_proof_54 k74 k100 n x1 x2 x3 x4 M = some (r, M1) → sm [(79, 84, none), (47, 47, some 27), (47, 47, some 28), (47, 47, some 29)] M M1 := by
  intro n
  induction n with
  | zero =>
    intro x1 x2 x3 x4 M hf
    exact absurd (show none = some _ from hf) (fun h => by cases h)
  | succ n ih =>
    intro x1 x2 x3 x4 M hf
    rw [fX11_proof_54] at hf
    by_cases q60 : (M.1 47 27) ≤ x4
    · have hf := (br_if hf).1 q60
      exact hk100 hf
    · have hf := (br_if hf).2 q60
      obtain ⟨q68, c68, hf⟩ := br_b hf
      by_cases q71 : q68 = 0
      · have hf := (br_if hf).1 q71
        exact hk74 hf
      · have hf := (br_if hf).2 q71
        obtain ⟨v94, e94⟩ : ∃ y : Int32, y = (x4 + (1 : Int32)) := ⟨_, rfl⟩
        have hf := nx_at e94 hf
        exact ih hf
theorem sX11_proof_100 {r : Int32} {M1 : Mem} {k41 : Int32 → Int32 → Int32 → Mem → Option (Int32 × Mem)} {k74 : Int32 → Int32 → Int32 → Int32 → Mem → Option (Int32 × Mem)} {k106 : Int32 → Int32 → Mem → Option (Int32 × Mem)} (hk41 : ∀ {x1 : Int32} {x2 : Int32} {x3 : Int32} {M : Mem}, k41 x1 x2 x3 M = some (r, M1) → sm [(79, 84, none), (47, 47, some 27), (47, 47, some 28), (47, 47, some 29)] M M1) (hk74 : ∀ {x1 : Int32} {x2 : Int32} {x3 : Int32} {x4 : Int32} {M : Mem}, k74 x1 x2 x3 x4 M = some (r, M1) → sm [(79, 84, none), (47, 47, some 27), (47, 47, some 28), (47, 47, some 29)] M M1) (hk106 : ∀ {x1 : Int32} {x2 : Int32} {M : Mem}, k106 x1 x2 M = some (r, M1) → sm [(79, 84, none), (47, 47, some 27), (47, 47, some 28), (47, 47, some 29)] M M1) : ∀ {x1 : Int32} {x2 : Int32} {x3 : Int32} {M : Mem}, fX11_proof_100 k41 k74 k106 x1 x2 x3 M = some (r, M1) → sm [(79, 84, none), (47, 47, some 27), (47, 47, some 28), (47, 47, some 29)] M M1 := by
  intro x1 x2 x3 M hf
  unfold fX11_proof_100 at hf
  obtain ⟨v100, e100⟩ : ∃ y : Int32, y = (x3 + (1 : Int32)) := ⟨_, rfl⟩
  have hf := nx_at e100 hf
  exact hk41 hf
theorem sX11_proof_41 {r : Int32} {M1 : Mem} {k74 : Int32 → Int32 → Int32 → Int32 → Mem → Option (Int32 × Mem)} {k106 : Int32 → Int32 → Mem → Option (Int32 × Mem)} (hk74 : ∀ {x1 : Int32} {x2 : Int32} {x3 : Int32} {x4 : Int32} {M : Mem}, k74 x1 x2 x3 x4 M = some (r, M1) → sm [(79, 84, none), (47, 47, some 27), (47, 47, some 28), (47, 47, some 29)] M M1) (hk106 : ∀ {x1 : Int32} {x2 : Int32} {M : Mem}, k106 x1 x2 M = some (r, M1) → sm [(79, 84, none), (47, 47, some 27), (47, 47, some 28), (47, 47, some 29)] M M1) : ∀ (n : Nat) {x1 : Int32} {x2 : Int32} {x3 : Int32} {M : Mem}, fX11_proof_41 k74 k106 n x1 x2 x3 M = some (r, M1) → sm [(79, 84, none), (47, 47, some 27), (47, 47, some 28), (47, 47, some 29)] M M1 := by
  intro n
  induction n with
  | zero =>
    intro x1 x2 x3 M hf
    exact absurd (show none = some _ from hf) (fun h => by cases h)
  | succ n ih =>
    intro x1 x2 x3 M hf
    rw [fX11_proof_41] at hf
    by_cases q46 : (M.1 47 27) ≤ x3
    · have hf := (br_if hf).1 q46
      exact hk106 hf
    · have hf := (br_if hf).2 q46
      obtain ⟨v52, e52⟩ : ∃ y : Int32, y = (x3 + (1 : Int32)) := ⟨_, rfl⟩
      have hf := nx_at e52 hf
      exact sX11_proof_54 (fun hf => hk74 hf) (fun hf => sX11_proof_100 (fun hf => ih hf) (fun hf => hk74 hf) (fun hf => hk106 hf) hf) FU hf
theorem sX11_proof_106 {r : Int32} {M1 : Mem} {k29 : Int32 → Int32 → Mem → Option (Int32 × Mem)} {k74 : Int32 → Int32 → Int32 → Int32 → Mem → Option (Int32 × Mem)} {k112 : Mem → Option (Int32 × Mem)} (hk29 : ∀ {x1 : Int32} {x2 : Int32} {M : Mem}, k29 x1 x2 M = some (r, M1) → sm [(79, 84, none), (47, 47, some 27), (47, 47, some 28), (47, 47, some 29)] M M1) (hk74 : ∀ {x1 : Int32} {x2 : Int32} {x3 : Int32} {x4 : Int32} {M : Mem}, k74 x1 x2 x3 x4 M = some (r, M1) → sm [(79, 84, none), (47, 47, some 27), (47, 47, some 28), (47, 47, some 29)] M M1) (hk112 : ∀ {M : Mem}, k112 M = some (r, M1) → sm [(79, 84, none), (47, 47, some 27), (47, 47, some 28), (47, 47, some 29)] M M1) : ∀ {x1 : Int32} {x2 : Int32} {M : Mem}, fX11_proof_106 k29 k74 k112 x1 x2 M = some (r, M1) → sm [(79, 84, none), (47, 47, some 27), (47, 47, some 28), (47, 47, some 29)] M M1 := by
  intro x1 x2 M hf
  unfold fX11_proof_106 at hf
  obtain ⟨v106, e106⟩ : ∃ y : Int32, y = (x2 + (1 : Int32)) := ⟨_, rfl⟩
  have hf := nx_at e106 hf
  exact hk29 hf
theorem sX11_proof_29 {r : Int32} {M1 : Mem} {k74 : Int32 → Int32 → Int32 → Int32 → Mem → Option (Int32 × Mem)} {k112 : Mem → Option (Int32 × Mem)} (hk74 : ∀ {x1 : Int32} {x2 : Int32} {x3 : Int32} {x4 : Int32} {M : Mem}, k74 x1 x2 x3 x4 M = some (r, M1) → sm [(79, 84, none), (47, 47, some 27), (47, 47, some 28), (47, 47, some 29)] M M1) (hk112 : ∀ {M : Mem}, k112 M = some (r, M1) → sm [(79, 84, none), (47, 47, some 27), (47, 47, some 28), (47, 47, some 29)] M M1) : ∀ (n : Nat) {x1 : Int32} {x2 : Int32} {M : Mem}, fX11_proof_29 k74 k112 n x1 x2 M = some (r, M1) → sm [(79, 84, none), (47, 47, some 27), (47, 47, some 28), (47, 47, some 29)] M M1 := by
  intro n
  induction n with
  | zero =>
    intro x1 x2 M hf
    exact absurd (show none = some _ from hf) (fun h => by cases h)
  | succ n ih =>
    intro x1 x2 M hf
    rw [fX11_proof_29] at hf
    by_cases q34 : (M.1 47 27) ≤ x2
    · have hf := (br_if hf).1 q34
      exact hk112 hf
    · have hf := (br_if hf).2 q34
      obtain ⟨v40, e40⟩ : ∃ y : Int32, y = (x2 + (1 : Int32)) := ⟨_, rfl⟩
      have hf := nx_at e40 hf
      exact sX11_proof_41 (fun hf => hk74 hf) (fun hf => sX11_proof_106 (fun hf => ih hf) (fun hf => hk74 hf) (fun hf => hk112 hf) hf) FU hf
theorem sX11_proof_93 {r : Int32} {M1 : Mem} : ∀ {s0 : Int32} {M : Mem}, fX11_proof_93 s0 M = some (r, M1) → sm [(79, 84, none), (47, 47, some 27), (47, 47, some 28), (47, 47, some 29)] M M1 := by
  intro s0 M hf
  unfold fX11_proof_93 at hf
  cases hf
  exact sm_rf
theorem sX11_proof_74 {r : Int32} {M1 : Mem} : ∀ {x1 : Int32} {x2 : Int32} {x3 : Int32} {x4 : Int32} {M : Mem}, fX11_proof_74 x1 x2 x3 x4 M = some (r, M1) → sm [(79, 84, none), (47, 47, some 27), (47, 47, some 28), (47, 47, some 29)] M M1 := by
  intro x1 x2 x3 x4 M hf
  unfold fX11_proof_74 at hf
  by_cases q75 : x1 = 0
  · have hf := (br_if hf).1 q75
    exact sX11_proof_93 hf
  · have hf := (br_if hf).2 q75
    by_cases q84 : x1 = (1 : Int32)
    · have hf := (br_if hf).1 q84
      exact sX11_proof_93 hf
    · have hf := (br_if hf).2 q84
      exact sX11_proof_93 hf
theorem sX11_proof_112 {r : Int32} {M1 : Mem} : ∀ {M : Mem}, fX11_proof_112 M = some (r, M1) → sm [(79, 84, none), (47, 47, some 27), (47, 47, some 28), (47, 47, some 29)] M M1 := by
  intro M hf
  unfold fX11_proof_112 at hf
  cases hf
  exact sm_rf
theorem sX11_proof_0 {r : Int32} {M1 : Mem} : ∀ {x1 : Int32} {M : Mem}, fX11_proof x1 M = some (r, M1) → sm [(79, 84, none), (47, 47, some 27), (47, 47, some 28), (47, 47, some 29)] M M1 := by
  intro x1 M hf
  unfold fX11_proof at hf
  obtain ⟨q6, c6, hf⟩ := br_b hf
  by_cases q9 : q6 = 0
  · have hf := (br_if hf).1 q9
    cases hf
    exact sm_rf
  · have hf := (br_if hf).2 q9
    obtain ⟨q15, c15, hf⟩ := br_b hf
    refine sm_tr (ssX11_knows c15) (by decide) ?_
    by_cases q22 : (q15.1 47 28) ≤ 0
    · have hf := (br_if hf).1 q22
      exact sX11_proof_29 (fun hf => sX11_proof_74 hf) (fun hf => sX11_proof_112 hf) FU hf
    · have hf := (br_if hf).2 q22
      cases hf
      exact sm_rf
theorem ssX11_proof {x1 : Int32} {M : Mem} {r : Int32} {M1 : Mem} (h : fX11_proof x1 M = some (r, M1)) : sm [(79, 84, none), (47, 47, some 27), (47, 47, some 28), (47, 47, some 29)] M M1 := sX11_proof_0 h
theorem sX11_propose_24 {r : Int32} {M1 : Mem} : ∀ {M : Mem}, fX11_propose_24 M = some (r, M1) → sm [(68, 68, none), (71, 71, none), (74, 74, none)] M M1 := by
  intro M hf
  unfold fX11_propose_24 at hf
  cases hf
  exact sm_rf
theorem sX11_propose_0 {r : Int32} {M1 : Mem} : ∀ {x1 : Int32} {x2 : Int32} {M : Mem}, fX11_propose x1 x2 M = some (r, M1) → sm [(68, 68, none), (71, 71, none), (74, 74, none)] M M1 := by
  intro x1 x2 M hf
  unfold fX11_propose at hf
  obtain ⟨q1, c1, hf⟩ := br_b hf
  by_cases q4 : q1 = 0
  · have hf := (br_if hf).1 q4
    exact sX11_propose_24 hf
  · have hf := (br_if hf).2 q4
    obtain ⟨q9, c9, hf⟩ := br_b hf
    by_cases q12 : q9 = 0
    · have hf := (br_if hf).1 q12
      exact sX11_propose_24 hf
    · have hf := (br_if hf).2 q12
      obtain ⟨q16, c16, hf⟩ := br_b hf
      by_cases q21 : q16 = (20 : Int32)
      · have hf := (br_if hf).1 q21
        exact sX11_propose_24 hf
      · have hf := (br_if hf).2 q21
        obtain ⟨q33, c33, hf⟩ := br_b hf
        obtain ⟨g37, hf⟩ := br_g hf
        obtain ⟨M37, e37⟩ : ∃ y : Mem, y = (sI M 68 (ix q33) x1) := ⟨_, rfl⟩
        have hf := nx_at e37 hf
        refine sm_I e37 (inS_up (L0 := [(68, 68, none)]) (by decide) (inS_n 68 _)) ?_
        obtain ⟨q45, c45, hf⟩ := br_b hf
        obtain ⟨g49, hf⟩ := br_g hf
        obtain ⟨M49, e49⟩ : ∃ y : Mem, y = (sI M37 71 (ix q45) x2) := ⟨_, rfl⟩
        have hf := nx_at e49 hf
        refine sm_I e49 (inS_up (L0 := [(71, 71, none)]) (by decide) (inS_n 71 _)) ?_
        obtain ⟨M59, e59⟩ : ∃ y : Mem, y = (sI M49 74 (ix (0 : Int32)) ((M49.1 74 (ix (0 : Int32))) + (1 : Int32))) := ⟨_, rfl⟩
        have hf := nx_at e59 hf
        refine sm_I e59 (inS_up (L0 := [(74, 74, none)]) (by decide) (inS_n 74 _)) ?_
        obtain ⟨q61, c61, hf⟩ := br_b hf
        cases hf
        exact sm_rf
theorem ssX11_propose {x1 : Int32} {x2 : Int32} {M : Mem} {r : Int32} {M1 : Mem} (h : fX11_propose x1 x2 M = some (r, M1)) : sm [(68, 68, none), (71, 71, none), (74, 74, none)] M M1 := sX11_propose_0 h
theorem sX11_round_19 {r : Int32} {M1 : Mem} : ∀ {M : Mem}, fX11_round_19 M = some (r, M1) → sm [(79, 84, none), (47, 47, some 27), (47, 47, some 28), (47, 47, some 29), (47, 47, some 33), (47, 47, some 34)] M M1 := by
  intro M hf
  unfold fX11_round_19 at hf
  cases hf
  exact sm_rf
theorem sX11_round_103 {r : Int32} {M1 : Mem} {k47 : Int32 → Int32 → Int64 → Int64 → Int32 → Mem → Option (Int32 × Mem)} {k109 : Int32 → Int32 → Int64 → Int64 → Mem → Option (Int32 × Mem)} (hk47 : ∀ {x1 : Int32} {x2 : Int32} {y3 : Int64} {y5 : Int64} {x7 : Int32} {M : Mem}, k47 x1 x2 y3 y5 x7 M = some (r, M1) → sm [(79, 84, none), (47, 47, some 27), (47, 47, some 28), (47, 47, some 29), (47, 47, some 33), (47, 47, some 34)] M M1) (hk109 : ∀ {x1 : Int32} {x2 : Int32} {y3 : Int64} {y5 : Int64} {M : Mem}, k109 x1 x2 y3 y5 M = some (r, M1) → sm [(79, 84, none), (47, 47, some 27), (47, 47, some 28), (47, 47, some 29), (47, 47, some 33), (47, 47, some 34)] M M1) : ∀ {x1 : Int32} {x2 : Int32} {y3 : Int64} {y5 : Int64} {x7 : Int32} {M : Mem}, fX11_round_103 k47 k109 x1 x2 y3 y5 x7 M = some (r, M1) → sm [(79, 84, none), (47, 47, some 27), (47, 47, some 28), (47, 47, some 29), (47, 47, some 33), (47, 47, some 34)] M M1 := by
  intro x1 x2 y3 y5 x7 M hf
  unfold fX11_round_103 at hf
  obtain ⟨v103, e103⟩ : ∃ y : Int32, y = (x7 + (1 : Int32)) := ⟨_, rfl⟩
  have hf := nx_at e103 hf
  exact hk47 hf
theorem sX11_round_47 {r : Int32} {M1 : Mem} {k109 : Int32 → Int32 → Int64 → Int64 → Mem → Option (Int32 × Mem)} (hk109 : ∀ {x1 : Int32} {x2 : Int32} {y3 : Int64} {y5 : Int64} {M : Mem}, k109 x1 x2 y3 y5 M = some (r, M1) → sm [(79, 84, none), (47, 47, some 27), (47, 47, some 28), (47, 47, some 29), (47, 47, some 33), (47, 47, some 34)] M M1) : ∀ (n : Nat) {x1 : Int32} {x2 : Int32} {y3 : Int64} {y5 : Int64} {x7 : Int32} {M : Mem}, fX11_round_47 k109 n x1 x2 y3 y5 x7 M = some (r, M1) → sm [(79, 84, none), (47, 47, some 27), (47, 47, some 28), (47, 47, some 29), (47, 47, some 33), (47, 47, some 34)] M M1 := by
  intro n
  induction n with
  | zero =>
    intro x1 x2 y3 y5 x7 M hf
    exact absurd (show none = some _ from hf) (fun h => by cases h)
  | succ n ih =>
    intro x1 x2 y3 y5 x7 M hf
    rw [fX11_round_47] at hf
    by_cases q52 : (10000 : Int32) ≤ x7
    · have hf := (br_if hf).1 q52
      exact hk109 hf
    · have hf := (br_if hf).2 q52
      obtain ⟨q66, c66, hf⟩ := br_b hf
      refine sm_tr (ssX11_far c66) (by decide) ?_
      by_cases q83 : (lg_cmp ((q66.2 47 33) * y5) (y3 * (q66.2 47 34))) < 0
      · have hf := (br_if hf).1 q83
        obtain ⟨v96, e96⟩ : ∃ y : Int64, y = (q66.2 47 33) := ⟨_, rfl⟩
        have hf := nx_at e96 hf
        obtain ⟨v101, e101⟩ : ∃ y : Int64, y = (q66.2 47 34) := ⟨_, rfl⟩
        have hf := nx_at e101 hf
        exact sX11_round_103 (fun hf => ih hf) (fun hf => hk109 hf) hf
      · have hf := (br_if hf).2 q83
        exact sX11_round_103 (fun hf => ih hf) (fun hf => hk109 hf) hf
theorem sX11_round_155 {r : Int32} {M1 : Mem} : ∀ {s0 : Int32} {M : Mem}, fX11_round_155 s0 M = some (r, M1) → sm [(79, 84, none), (47, 47, some 27), (47, 47, some 28), (47, 47, some 29), (47, 47, some 33), (47, 47, some 34)] M M1 := by
  intro s0 M hf
  unfold fX11_round_155 at hf
  cases hf
  exact sm_rf
theorem sX11_round_151 {r : Int32} {M1 : Mem} : ∀ {y7 : Int64} {t0 : Int64} {M : Mem}, fX11_round_151 y7 t0 M = some (r, M1) → sm [(79, 84, none), (47, 47, some 27), (47, 47, some 28), (47, 47, some 29), (47, 47, some 33), (47, 47, some 34)] M M1 := by
  intro y7 t0 M hf
  unfold fX11_round_151 at hf
  obtain ⟨g153, hf⟩ := br_g hf
  exact sX11_round_155 hf
theorem sX11_round_109 {r : Int32} {M1 : Mem} : ∀ {x1 : Int32} {x2 : Int32} {y3 : Int64} {y5 : Int64} {M : Mem}, fX11_round_109 x1 x2 y3 y5 M = some (r, M1) → sm [(79, 84, none), (47, 47, some 27), (47, 47, some 28), (47, 47, some 29), (47, 47, some 33), (47, 47, some 34)] M M1 := by
  intro x1 x2 y3 y5 M hf
  unfold fX11_round_109 at hf
  obtain ⟨q112, c112, hf⟩ := br_b hf
  by_cases q118 : x1 = 0
  · have hf := (br_if hf).1 q118
    exact sX11_round_155 hf
  · have hf := (br_if hf).2 q118
    by_cases q130 : x1 = (1 : Int32)
    · have hf := (br_if hf).1 q130
      exact sX11_round_155 hf
    · have hf := (br_if hf).2 q130
      by_cases q142 : x1 = (2 : Int32)
      · have hf := (br_if hf).1 q142
        exact sX11_round_151 hf
      · have hf := (br_if hf).2 q142
        exact sX11_round_151 hf
theorem sX11_round_0 {r : Int32} {M1 : Mem} : ∀ {x1 : Int32} {M : Mem}, fX11_round x1 M = some (r, M1) → sm [(79, 84, none), (47, 47, some 27), (47, 47, some 28), (47, 47, some 29), (47, 47, some 33), (47, 47, some 34)] M M1 := by
  intro x1 M hf
  unfold fX11_round at hf
  obtain ⟨q1, c1, hf⟩ := br_b hf
  by_cases q4 : q1 = 0
  · have hf := (br_if hf).1 q4
    exact sX11_round_19 hf
  · have hf := (br_if hf).2 q4
    obtain ⟨q13, c13, hf⟩ := br_b hf
    by_cases q16 : q13 = 0
    · have hf := (br_if hf).1 q16
      exact sX11_round_19 hf
    · have hf := (br_if hf).2 q16
      obtain ⟨q22, c22, hf⟩ := br_b hf
      refine sm_tr (ssX11_knows c22) (by decide) ?_
      obtain ⟨q30, c30, hf⟩ := br_b hf
      refine sm_tr (ssX11_far c30) (by decide) ?_
      obtain ⟨v37, e37⟩ : ∃ y : Int64, y = (q30.2 47 33) := ⟨_, rfl⟩
      have hf := nx_at e37 hf
      obtain ⟨v42, e42⟩ : ∃ y : Int64, y = (q30.2 47 34) := ⟨_, rfl⟩
      have hf := nx_at e42 hf
      exact sX11_round_47 (fun hf => sX11_round_109 hf) FU hf
theorem ssX11_round {x1 : Int32} {M : Mem} {r : Int32} {M1 : Mem} (h : fX11_round x1 M = some (r, M1)) : sm [(79, 84, none), (47, 47, some 27), (47, 47, some 28), (47, 47, some 29), (47, 47, some 33), (47, 47, some 34)] M M1 := sX11_round_0 h
theorem sX11_sheet_76 {r : Int32} {M1 : Mem} {k184 : Mem → Option (Int32 × Mem)} (hk184 : ∀ {M : Mem}, k184 M = some (r, M1) → sm [(50, 51, none), (53, 54, none), (56, 57, none), (59, 60, none), (62, 63, none), (65, 66, none), (68, 69, none), (71, 77, none), (47, 47, some 1), (47, 47, some 2), (47, 47, some 3), (47, 47, some 4), (47, 47, some 5), (47, 47, some 19), (47, 47, some 20), (47, 47, some 21), (47, 47, some 22), (47, 47, some 29), (47, 47, some 48)] M M1) : ∀ (n : Nat) {x1 : Int32} {M : Mem}, fX11_sheet_76 k184 n x1 M = some (r, M1) → sm [(50, 51, none), (53, 54, none), (56, 57, none), (59, 60, none), (62, 63, none), (65, 66, none), (68, 69, none), (71, 77, none), (47, 47, some 1), (47, 47, some 2), (47, 47, some 3), (47, 47, some 4), (47, 47, some 5), (47, 47, some 19), (47, 47, some 20), (47, 47, some 21), (47, 47, some 22), (47, 47, some 29), (47, 47, some 48)] M M1 := by
  intro n
  induction n with
  | zero =>
    intro x1 M hf
    exact absurd (show none = some _ from hf) (fun h => by cases h)
  | succ n ih =>
    intro x1 M hf
    rw [fX11_sheet_76] at hf
    by_cases q79 : (15 : Int32) ≤ x1
    · have hf := (br_if hf).1 q79
      exact hk184 hf
    · have hf := (br_if hf).2 q79
      obtain ⟨g96, hf⟩ := br_g hf
      obtain ⟨g97, hf⟩ := br_g hf
      obtain ⟨M97, e97⟩ : ∃ y : Mem, y = (sI M 50 (ix x1) (M.1 51 (ix x1))) := ⟨_, rfl⟩
      have hf := nx_at e97 hf
      refine sm_I e97 (inS_up (L0 := [(50, 50, none)]) (by decide) (inS_n 50 _)) ?_
      obtain ⟨g112, hf⟩ := br_g hf
      obtain ⟨g113, hf⟩ := br_g hf
      obtain ⟨M113, e113⟩ : ∃ y : Mem, y = (sI M97 53 (ix x1) (M97.1 54 (ix x1))) := ⟨_, rfl⟩
      have hf := nx_at e113 hf
      refine sm_I e113 (inS_up (L0 := [(53, 53, none)]) (by decide) (inS_n 53 _)) ?_
      obtain ⟨g128, hf⟩ := br_g hf
      obtain ⟨g129, hf⟩ := br_g hf
      obtain ⟨M129, e129⟩ : ∃ y : Mem, y = (sI M113 56 (ix x1) (M113.1 57 (ix x1))) := ⟨_, rfl⟩
      have hf := nx_at e129 hf
      refine sm_I e129 (inS_up (L0 := [(56, 56, none)]) (by decide) (inS_n 56 _)) ?_
      obtain ⟨g144, hf⟩ := br_g hf
      obtain ⟨g145, hf⟩ := br_g hf
      obtain ⟨M145, e145⟩ : ∃ y : Mem, y = (sI M129 59 (ix x1) (M129.1 60 (ix x1))) := ⟨_, rfl⟩
      have hf := nx_at e145 hf
      refine sm_I e145 (inS_up (L0 := [(59, 59, none)]) (by decide) (inS_n 59 _)) ?_
      obtain ⟨g160, hf⟩ := br_g hf
      obtain ⟨g161, hf⟩ := br_g hf
      obtain ⟨M161, e161⟩ : ∃ y : Mem, y = (sI M145 62 (ix x1) (M145.1 63 (ix x1))) := ⟨_, rfl⟩
      have hf := nx_at e161 hf
      refine sm_I e161 (inS_up (L0 := [(62, 62, none)]) (by decide) (inS_n 62 _)) ?_
      obtain ⟨g176, hf⟩ := br_g hf
      obtain ⟨g177, hf⟩ := br_g hf
      obtain ⟨M177, e177⟩ : ∃ y : Mem, y = (sI M161 65 (ix x1) (M161.1 66 (ix x1))) := ⟨_, rfl⟩
      have hf := nx_at e177 hf
      refine sm_I e177 (inS_up (L0 := [(65, 65, none)]) (by decide) (inS_n 65 _)) ?_
      obtain ⟨v178, e178⟩ : ∃ y : Int32, y = (x1 + (1 : Int32)) := ⟨_, rfl⟩
      have hf := nx_at e178 hf
      exact ih hf
theorem sX11_sheet_186 {r : Int32} {M1 : Mem} {k230 : Mem → Option (Int32 × Mem)} (hk230 : ∀ {M : Mem}, k230 M = some (r, M1) → sm [(50, 51, none), (53, 54, none), (56, 57, none), (59, 60, none), (62, 63, none), (65, 66, none), (68, 69, none), (71, 77, none), (47, 47, some 1), (47, 47, some 2), (47, 47, some 3), (47, 47, some 4), (47, 47, some 5), (47, 47, some 19), (47, 47, some 20), (47, 47, some 21), (47, 47, some 22), (47, 47, some 29), (47, 47, some 48)] M M1) : ∀ (n : Nat) {x1 : Int32} {M : Mem}, fX11_sheet_186 k230 n x1 M = some (r, M1) → sm [(50, 51, none), (53, 54, none), (56, 57, none), (59, 60, none), (62, 63, none), (65, 66, none), (68, 69, none), (71, 77, none), (47, 47, some 1), (47, 47, some 2), (47, 47, some 3), (47, 47, some 4), (47, 47, some 5), (47, 47, some 19), (47, 47, some 20), (47, 47, some 21), (47, 47, some 22), (47, 47, some 29), (47, 47, some 48)] M M1 := by
  intro n
  induction n with
  | zero =>
    intro x1 M hf
    exact absurd (show none = some _ from hf) (fun h => by cases h)
  | succ n ih =>
    intro x1 M hf
    rw [fX11_sheet_186] at hf
    by_cases q189 : (20 : Int32) ≤ x1
    · have hf := (br_if hf).1 q189
      exact hk230 hf
    · have hf := (br_if hf).2 q189
      obtain ⟨g206, hf⟩ := br_g hf
      obtain ⟨g207, hf⟩ := br_g hf
      obtain ⟨M207, e207⟩ : ∃ y : Mem, y = (sI M 68 (ix x1) (M.1 69 (ix x1))) := ⟨_, rfl⟩
      have hf := nx_at e207 hf
      refine sm_I e207 (inS_up (L0 := [(68, 68, none)]) (by decide) (inS_n 68 _)) ?_
      obtain ⟨g222, hf⟩ := br_g hf
      obtain ⟨g223, hf⟩ := br_g hf
      obtain ⟨M223, e223⟩ : ∃ y : Mem, y = (sI M207 71 (ix x1) (M207.1 72 (ix x1))) := ⟨_, rfl⟩
      have hf := nx_at e223 hf
      refine sm_I e223 (inS_up (L0 := [(71, 71, none)]) (by decide) (inS_n 71 _)) ?_
      obtain ⟨v224, e224⟩ : ∃ y : Int32, y = (x1 + (1 : Int32)) := ⟨_, rfl⟩
      have hf := nx_at e224 hf
      exact ih hf
theorem sX11_sheet_230 {r : Int32} {M1 : Mem} : ∀ {M : Mem}, fX11_sheet_230 M = some (r, M1) → sm [(50, 51, none), (53, 54, none), (56, 57, none), (59, 60, none), (62, 63, none), (65, 66, none), (68, 69, none), (71, 77, none), (47, 47, some 1), (47, 47, some 2), (47, 47, some 3), (47, 47, some 4), (47, 47, some 5), (47, 47, some 19), (47, 47, some 20), (47, 47, some 21), (47, 47, some 22), (47, 47, some 29), (47, 47, some 48)] M M1 := by
  intro M hf
  unfold fX11_sheet_230 at hf
  obtain ⟨M232, e232⟩ : ∃ y : Mem, y = (sI M 47 1 (0 : Int32)) := ⟨_, rfl⟩
  have hf := nx_at e232 hf
  refine sm_I e232 (inS_up (L0 := [(47, 47, some 1)]) (by decide) (inS_s 47 1)) ?_
  obtain ⟨M237, e237⟩ : ∃ y : Mem, y = (sI M232 47 48 (0 : Int32)) := ⟨_, rfl⟩
  have hf := nx_at e237 hf
  refine sm_I e237 (inS_up (L0 := [(47, 47, some 48)]) (by decide) (inS_s 47 48)) ?_
  obtain ⟨M242, e242⟩ : ∃ y : Mem, y = (sI M237 47 29 (0 : Int32)) := ⟨_, rfl⟩
  have hf := nx_at e242 hf
  refine sm_I e242 (inS_up (L0 := [(47, 47, some 29)]) (by decide) (inS_s 47 29)) ?_
  obtain ⟨q246, c246, hf⟩ := br_b hf
  cases hf
  exact sm_rf
theorem sX11_sheet_184 {r : Int32} {M1 : Mem} : ∀ {M : Mem}, fX11_sheet_184 M = some (r, M1) → sm [(50, 51, none), (53, 54, none), (56, 57, none), (59, 60, none), (62, 63, none), (65, 66, none), (68, 69, none), (71, 77, none), (47, 47, some 1), (47, 47, some 2), (47, 47, some 3), (47, 47, some 4), (47, 47, some 5), (47, 47, some 19), (47, 47, some 20), (47, 47, some 21), (47, 47, some 22), (47, 47, some 29), (47, 47, some 48)] M M1 := by
  intro M hf
  unfold fX11_sheet_184 at hf
  exact sX11_sheet_186 (fun hf => sX11_sheet_230 hf) FU hf
theorem sX11_sheet_0 {r : Int32} {M1 : Mem} : ∀ {M : Mem}, fX11_sheet M = some (r, M1) → sm [(50, 51, none), (53, 54, none), (56, 57, none), (59, 60, none), (62, 63, none), (65, 66, none), (68, 69, none), (71, 77, none), (47, 47, some 1), (47, 47, some 2), (47, 47, some 3), (47, 47, some 4), (47, 47, some 5), (47, 47, some 19), (47, 47, some 20), (47, 47, some 21), (47, 47, some 22), (47, 47, some 29), (47, 47, some 48)] M M1 := by
  intro M hf
  unfold fX11_sheet at hf
  obtain ⟨q1, c1, hf⟩ := br_b hf
  refine sm_tr (ssX11_reads c1) (by decide) ?_
  by_cases q9 : (q1.1 47 4) = (-1 : Int32)
  · have hf := (br_if hf).1 q9
    obtain ⟨M25, e25⟩ : ∃ y : Mem, y = (sI q1 73 (ix (0 : Int32)) (q1.1 73 (ix (1 : Int32)))) := ⟨_, rfl⟩
    have hf := nx_at e25 hf
    refine sm_I e25 (inS_up (L0 := [(73, 73, none)]) (by decide) (inS_n 73 _)) ?_
    obtain ⟨M37, e37⟩ : ∃ y : Mem, y = (sI M25 74 (ix (0 : Int32)) (M25.1 74 (ix (1 : Int32)))) := ⟨_, rfl⟩
    have hf := nx_at e37 hf
    refine sm_I e37 (inS_up (L0 := [(74, 74, none)]) (by decide) (inS_n 74 _)) ?_
    obtain ⟨M49, e49⟩ : ∃ y : Mem, y = (sI M37 75 (ix (0 : Int32)) (M37.1 75 (ix (1 : Int32)))) := ⟨_, rfl⟩
    have hf := nx_at e49 hf
    refine sm_I e49 (inS_up (L0 := [(75, 75, none)]) (by decide) (inS_n 75 _)) ?_
    obtain ⟨M61, e61⟩ : ∃ y : Mem, y = (sI M49 76 (ix (0 : Int32)) (M49.1 76 (ix (1 : Int32)))) := ⟨_, rfl⟩
    have hf := nx_at e61 hf
    refine sm_I e61 (inS_up (L0 := [(76, 76, none)]) (by decide) (inS_n 76 _)) ?_
    obtain ⟨M73, e73⟩ : ∃ y : Mem, y = (sI M61 77 (ix (0 : Int32)) (M61.1 77 (ix (1 : Int32)))) := ⟨_, rfl⟩
    have hf := nx_at e73 hf
    refine sm_I e73 (inS_up (L0 := [(77, 77, none)]) (by decide) (inS_n 77 _)) ?_
    exact sX11_sheet_76 (fun hf => sX11_sheet_184 hf) FU hf
  · have hf := (br_if hf).2 q9
    cases hf
    exact sm_rf
theorem ssX11_sheet {M : Mem} {r : Int32} {M1 : Mem} (h : fX11_sheet M = some (r, M1)) : sm [(50, 51, none), (53, 54, none), (56, 57, none), (59, 60, none), (62, 63, none), (65, 66, none), (68, 69, none), (71, 77, none), (47, 47, some 1), (47, 47, some 2), (47, 47, some 3), (47, 47, some 4), (47, 47, some 5), (47, 47, some 19), (47, 47, some 20), (47, 47, some 21), (47, 47, some 22), (47, 47, some 29), (47, 47, some 48)] M M1 := sX11_sheet_0 h
theorem sX11_undo_0 {r : Int32} {M1 : Mem} : ∀ {M : Mem}, fX11_undo M = some (r, M1) → sm [(50, 50, none), (53, 53, none), (47, 47, some 29), (47, 47, some 48)] M M1 := by
  intro M hf
  unfold fX11_undo at hf
  by_cases q4 : (M.1 47 48) = 0
  · have hf := (br_if hf).1 q4
    cases hf
    exact sm_rf
  · have hf := (br_if hf).2 q4
    obtain ⟨M16, e16⟩ : ∃ y : Mem, y = (sI M 47 48 ((M.1 47 48) - (1 : Int32))) := ⟨_, rfl⟩
    have hf := nx_at e16 hf
    refine sm_I e16 (inS_up (L0 := [(47, 47, some 48)]) (by decide) (inS_s 47 48)) ?_
    obtain ⟨g27, hf⟩ := br_g hf
    obtain ⟨v30, e30⟩ : ∃ y : Int32, y = (M16.1 (101 + ix (M16.1 47 48)) (ix (0 : Int32))) := ⟨_, rfl⟩
    have hf := nx_at e30 hf
    obtain ⟨g46, hf⟩ := br_g hf
    obtain ⟨g49, hf⟩ := br_g hf
    obtain ⟨M49, e49⟩ : ∃ y : Mem, y = (sI M16 50 (ix v30) (M16.1 (101 + ix (M16.1 47 48)) (ix (1 : Int32)))) := ⟨_, rfl⟩
    have hf := nx_at e49 hf
    refine sm_I e49 (inS_up (L0 := [(50, 50, none)]) (by decide) (inS_n 50 _)) ?_
    obtain ⟨g65, hf⟩ := br_g hf
    obtain ⟨g68, hf⟩ := br_g hf
    obtain ⟨M68, e68⟩ : ∃ y : Mem, y = (sI M49 53 (ix v30) (M49.1 (101 + ix (M49.1 47 48)) (ix (2 : Int32)))) := ⟨_, rfl⟩
    have hf := nx_at e68 hf
    refine sm_I e68 (inS_up (L0 := [(53, 53, none)]) (by decide) (inS_n 53 _)) ?_
    obtain ⟨M71, e71⟩ : ∃ y : Mem, y = (sI M68 47 29 (0 : Int32)) := ⟨_, rfl⟩
    have hf := nx_at e71 hf
    refine sm_I e71 (inS_up (L0 := [(47, 47, some 29)]) (by decide) (inS_s 47 29)) ?_
    cases hf
    exact sm_rf
theorem ssX11_undo {M : Mem} {r : Int32} {M1 : Mem} (h : fX11_undo M = some (r, M1)) : sm [(50, 50, none), (53, 53, none), (47, 47, some 29), (47, 47, some 48)] M M1 := sX11_undo_0 h
theorem sX11_winSet_25 {r : Int32} {M1 : Mem} : ∀ {M : Mem}, fX11_winSet_25 M = some (r, M1) → sm [(85, 86, none), (47, 47, some 37), (47, 47, some 38)] M M1 := by
  intro M hf
  unfold fX11_winSet_25 at hf
  cases hf
  exact sm_rf
theorem sX11_winSet_48 {r : Int32} {M1 : Mem} : ∀ {s0 : Int32} {M : Mem}, fX11_winSet_48 s0 M = some (r, M1) → sm [(85, 86, none), (47, 47, some 37), (47, 47, some 38)] M M1 := by
  intro s0 M hf
  unfold fX11_winSet_48 at hf
  cases hf
  exact sm_rf
theorem sX11_winSet_0 {r : Int32} {M1 : Mem} : ∀ {x1 : Int32} {x2 : Int32} {x3 : Int32} {M : Mem}, fX11_winSet x1 x2 x3 M = some (r, M1) → sm [(85, 86, none), (47, 47, some 37), (47, 47, some 38)] M M1 := by
  intro x1 x2 x3 M hf
  unfold fX11_winSet at hf
  obtain ⟨q1, c1, hf⟩ := br_b hf
  by_cases q4 : q1 = 0
  · have hf := (br_if hf).1 q4
    exact sX11_winSet_25 hf
  · have hf := (br_if hf).2 q4
    obtain ⟨q9, c9, hf⟩ := br_b hf
    by_cases q12 : q9 = 0
    · have hf := (br_if hf).1 q12
      exact sX11_winSet_25 hf
    · have hf := (br_if hf).2 q12
      obtain ⟨q19, c19, hf⟩ := br_b hf
      by_cases q22 : q19 = 0
      · have hf := (br_if hf).1 q22
        exact sX11_winSet_25 hf
      · have hf := (br_if hf).2 q22
        obtain ⟨q30, c30, hf⟩ := br_b hf
        refine sm_tr (ssX11_finds c30) (by decide) ?_
        by_cases q34 : x3 = 0
        · have hf := (br_if hf).1 q34
          exact sX11_winSet_48 hf
        · have hf := (br_if hf).2 q34
          exact sX11_winSet_48 hf
theorem ssX11_winSet {x1 : Int32} {x2 : Int32} {x3 : Int32} {M : Mem} {r : Int32} {M1 : Mem} (h : fX11_winSet x1 x2 x3 M = some (r, M1)) : sm [(85, 86, none), (47, 47, some 37), (47, 47, some 38)] M M1 := sX11_winSet_0 h
theorem sX10_beats_22 {r : Int32} {M1 : Mem} : ∀ {M : Mem}, fX10_beats_22 M = some (r, M1) → sm [(22, 24, none), (21, 21, some 5), (21, 21, some 6), (21, 21, some 7), (21, 21, some 8)] M M1 := by
  intro M hf
  unfold fX10_beats_22 at hf
  cases hf
  exact sm_rf
theorem sX10_beats_0 {r : Int32} {M1 : Mem} : ∀ {x1 : Int32} {x2 : Int32} {M : Mem}, fX10_beats x1 x2 M = some (r, M1) → sm [(22, 24, none), (21, 21, some 5), (21, 21, some 6), (21, 21, some 7), (21, 21, some 8)] M M1 := by
  intro x1 x2 M hf
  unfold fX10_beats at hf
  obtain ⟨q5, c5, hf⟩ := br_b hf
  by_cases q8 : q5 = 0
  · have hf := (br_if hf).1 q8
    exact sX10_beats_22 hf
  · have hf := (br_if hf).2 q8
    obtain ⟨q16, c16, hf⟩ := br_b hf
    by_cases q19 : q16 = 0
    · have hf := (br_if hf).1 q19
      exact sX10_beats_22 hf
    · have hf := (br_if hf).2 q19
      obtain ⟨q28, c28, hf⟩ := br_b hf
      refine sm_tr (ssX0_refresh c28) (by decide) ?_
      obtain ⟨q37, c37, hf⟩ := br_b hf
      cases hf
      exact sm_rf
theorem ssX10_beats {x1 : Int32} {x2 : Int32} {M : Mem} {r : Int32} {M1 : Mem} (h : fX10_beats x1 x2 M = some (r, M1)) : sm [(22, 24, none), (21, 21, some 5), (21, 21, some 6), (21, 21, some 7), (21, 21, some 8)] M M1 := sX10_beats_0 h
theorem sX10_best_19 {r : Int32} {M1 : Mem} : ∀ {M : Mem}, fX10_best_19 M = some (r, M1) → sm [(22, 25, none), (21, 21, some 5), (21, 21, some 6), (21, 21, some 7), (21, 21, some 8)] M M1 := by
  intro M hf
  unfold fX10_best_19 at hf
  cases hf
  exact sm_rf
theorem sX10_best_49 {r : Int32} {M1 : Mem} : ∀ {s0 : Int32} {M : Mem}, fX10_best_49 s0 M = some (r, M1) → sm [(22, 25, none), (21, 21, some 5), (21, 21, some 6), (21, 21, some 7), (21, 21, some 8)] M M1 := by
  intro s0 M hf
  unfold fX10_best_49 at hf
  cases hf
  exact sm_rf
theorem sX10_best_0 {r : Int32} {M1 : Mem} : ∀ {x1 : Int32} {M : Mem}, fX10_best x1 M = some (r, M1) → sm [(22, 25, none), (21, 21, some 5), (21, 21, some 6), (21, 21, some 7), (21, 21, some 8)] M M1 := by
  intro x1 M hf
  unfold fX10_best at hf
  by_cases q7 : (M.1 1 0) = 0
  · have hf := (br_if hf).1 q7
    exact sX10_best_19 hf
  · have hf := (br_if hf).2 q7
    by_cases q11 : x1 < 0
    · have hf := (br_if hf).1 q11
      exact sX10_best_19 hf
    · have hf := (br_if hf).2 q11
      by_cases q16 : x1 ≤ (1 : Int32)
      · have hf := (br_if hf).1 q16
        obtain ⟨q25, c25, hf⟩ := br_b hf
        refine sm_tr (ssX0_refresh c25) (by decide) ?_
        by_cases q29 : x1 = 0
        · have hf := (br_if hf).1 q29
          obtain ⟨q36, c36, hf⟩ := br_b hf
          refine sm_tr (ssX0_reachingAll c36) (by decide) ?_
          exact sX10_best_49 hf
        · have hf := (br_if hf).2 q29
          obtain ⟨q46, c46, hf⟩ := br_b hf
          exact sX10_best_49 hf
      · have hf := (br_if hf).2 q16
        exact sX10_best_19 hf
theorem ssX10_best {x1 : Int32} {M : Mem} {r : Int32} {M1 : Mem} (h : fX10_best x1 M = some (r, M1)) : sm [(22, 25, none), (21, 21, some 5), (21, 21, some 6), (21, 21, some 7), (21, 21, some 8)] M M1 := sX10_best_0 h
theorem sX10_count_0 {r : Int32} {M1 : Mem} : ∀ {x1 : Int32} {M : Mem}, fX10_count x1 M = some (r, M1) → sm [(22, 24, none), (21, 21, some 5), (21, 21, some 6), (21, 21, some 7), (21, 21, some 8)] M M1 := by
  intro x1 M hf
  unfold fX10_count at hf
  by_cases q1_0 : x1 = (0 : Int32)
  · have hf := (br_if hf).1 q1_0
    cases hf
    exact sm_rf
  · have hf := (br_if hf).2 q1_0
    by_cases q1_1 : x1 = (1 : Int32)
    · have hf := (br_if hf).1 q1_1
      cases hf
      exact sm_rf
    · have hf := (br_if hf).2 q1_1
      by_cases q1_2 : x1 = (2 : Int32)
      · have hf := (br_if hf).1 q1_2
        cases hf
        exact sm_rf
      · have hf := (br_if hf).2 q1_2
        by_cases q1_3 : x1 = (3 : Int32)
        · have hf := (br_if hf).1 q1_3
          cases hf
          exact sm_rf
        · have hf := (br_if hf).2 q1_3
          by_cases q1_4 : x1 = (4 : Int32)
          · have hf := (br_if hf).1 q1_4
            cases hf
            exact sm_rf
          · have hf := (br_if hf).2 q1_4
            by_cases q1_5 : x1 = (5 : Int32)
            · have hf := (br_if hf).1 q1_5
              obtain ⟨q84, c84, hf⟩ := br_b hf
              refine sm_tr (ssX0_refresh c84) (by decide) ?_
              cases hf
              exact sm_rf
            · have hf := (br_if hf).2 q1_5
              cases hf
              exact sm_rf
theorem ssX10_count {x1 : Int32} {M : Mem} {r : Int32} {M1 : Mem} (h : fX10_count x1 M = some (r, M1)) : sm [(22, 24, none), (21, 21, some 5), (21, 21, some 6), (21, 21, some 7), (21, 21, some 8)] M M1 := sX10_count_0 h
theorem sX10_end_15 {r : Int32} {M1 : Mem} : ∀ {M : Mem}, fX10_end_15 M = some (r, M1) → sm [(10, 10, some 1)] M M1 := by
  intro M hf
  unfold fX10_end_15 at hf
  cases hf
  exact sm_rf
theorem sX10_end_0 {r : Int32} {M1 : Mem} : ∀ {x1 : Int32} {M : Mem}, fX10_end x1 M = some (r, M1) → sm [(10, 10, some 1)] M M1 := by
  intro x1 M hf
  unfold fX10_end at hf
  by_cases q1 : x1 < 0
  · have hf := (br_if hf).1 q1
    exact sX10_end_15 hf
  · have hf := (br_if hf).2 q1
    by_cases q12 : x1 ≤ (M.1 10 1)
    · have hf := (br_if hf).1 q12
      obtain ⟨M22, e22⟩ : ∃ y : Mem, y = (sI M 10 1 x1) := ⟨_, rfl⟩
      have hf := nx_at e22 hf
      refine sm_I e22 (inS_up (L0 := [(10, 10, some 1)]) (by decide) (inS_s 10 1)) ?_
      cases hf
      exact sm_rf
    · have hf := (br_if hf).2 q12
      exact sX10_end_15 hf
theorem ssX10_end {x1 : Int32} {M : Mem} {r : Int32} {M1 : Mem} (h : fX10_end x1 M = some (r, M1)) : sm [(10, 10, some 1)] M M1 := sX10_end_0 h
theorem sX10_fault_0 {r : Int32} {M1 : Mem} : ∀ {M : Mem}, fX10_fault M = some (r, M1) → sm [(13, 20, none), (10, 10, some 3), (10, 10, some 4), (10, 10, some 5), (10, 10, some 6), (10, 10, some 7), (10, 10, some 8), (10, 10, some 9), (10, 10, some 10), (12, 12, some 0), (12, 12, some 7), (12, 12, some 8), (12, 12, some 11), (12, 12, some 12), (12, 12, some 13), (12, 12, some 14), (12, 12, some 15)] M M1 := by
  intro M hf
  unfold fX10_fault at hf
  obtain ⟨q4, c4, hf⟩ := br_b hf
  refine sm_tr (ssX6_findFault c4) (by decide) ?_
  cases hf
  exact sm_rf
theorem ssX10_fault {M : Mem} {r : Int32} {M1 : Mem} (h : fX10_fault M = some (r, M1)) : sm [(13, 20, none), (10, 10, some 3), (10, 10, some 4), (10, 10, some 5), (10, 10, some 6), (10, 10, some 7), (10, 10, some 8), (10, 10, some 9), (10, 10, some 10), (12, 12, some 0), (12, 12, some 7), (12, 12, some 8), (12, 12, some 11), (12, 12, some 12), (12, 12, some 13), (12, 12, some 14), (12, 12, some 15)] M M1 := sX10_fault_0 h
theorem sX10_feed_0 {r : Int32} {M1 : Mem} : ∀ {x1 : Int32} {x2 : Int32} {x3 : Int32} {x4 : Int32} {x5 : Int32} {M : Mem}, fX10_feed x1 x2 x3 x4 x5 M = some (r, M1) → sm [(11, 11, none), (10, 10, some 1)] M M1 := by
  intro x1 x2 x3 x4 x5 M hf
  unfold fX10_feed at hf
  by_cases q10 : (M.1 10 1) ≤ (580 : Int32)
  · have hf := (br_if hf).1 q10
    obtain ⟨q20, c20, hf⟩ := br_b hf
    refine sm_tr (ssX6_append c20) (by decide) ?_
    obtain ⟨q28, c28, hf⟩ := br_b hf
    refine sm_tr (ssX6_append c28) (by decide) ?_
    obtain ⟨q36, c36, hf⟩ := br_b hf
    refine sm_tr (ssX6_append c36) (by decide) ?_
    obtain ⟨q45, c45, hf⟩ := br_b hf
    refine sm_tr (ssX6_append c45) (by decide) ?_
    obtain ⟨q54, c54, hf⟩ := br_b hf
    refine sm_tr (ssX6_append c54) (by decide) ?_
    cases hf
    exact sm_rf
  · have hf := (br_if hf).2 q10
    cases hf
    exact sm_rf
theorem ssX10_feed {x1 : Int32} {x2 : Int32} {x3 : Int32} {x4 : Int32} {x5 : Int32} {M : Mem} {r : Int32} {M1 : Mem} (h : fX10_feed x1 x2 x3 x4 x5 M = some (r, M1)) : sm [(11, 11, none), (10, 10, some 1)] M M1 := sX10_feed_0 h
theorem sX10_join_0 {r : Int32} {M1 : Mem} : ∀ {x1 : Int32} {M : Mem}, fX10_join x1 M = some (r, M1) → sm [(22, 24, none), (41, 44, none), (21, 21, some 5), (21, 21, some 6), (21, 21, some 7), (21, 21, some 8)] M M1 := by
  intro x1 M hf
  unfold fX10_join at hf
  obtain ⟨q5, c5, hf⟩ := br_b hf
  by_cases q8 : q5 = 0
  · have hf := (br_if hf).1 q8
    cases hf
    exact sm_rf
  · have hf := (br_if hf).2 q8
    obtain ⟨q17, c17, hf⟩ := br_b hf
    refine sm_tr (ssX0_refresh c17) (by decide) ?_
    obtain ⟨q25, c25, hf⟩ := br_b hf
    refine sm_tr (ssX9_fewestJoined c25) (by decide) ?_
    cases hf
    exact sm_rf
theorem ssX10_join {x1 : Int32} {M : Mem} {r : Int32} {M1 : Mem} (h : fX10_join x1 M = some (r, M1)) : sm [(22, 24, none), (41, 44, none), (21, 21, some 5), (21, 21, some 6), (21, 21, some 7), (21, 21, some 8)] M M1 := sX10_join_0 h
theorem sX10_led_27 {r : Int32} {M1 : Mem} : ∀ {M : Mem}, fX10_led_27 M = some (r, M1) → sm [(22, 25, none), (21, 21, some 5), (21, 21, some 6), (21, 21, some 7), (21, 21, some 8)] M M1 := by
  intro M hf
  unfold fX10_led_27 at hf
  cases hf
  exact sm_rf
theorem sX10_led_67 {r : Int32} {M1 : Mem} : ∀ {x4 : Int32} {M : Mem}, fX10_led_67 x4 M = some (r, M1) → sm [(22, 25, none), (21, 21, some 5), (21, 21, some 6), (21, 21, some 7), (21, 21, some 8)] M M1 := by
  intro x4 M hf
  unfold fX10_led_67 at hf
  cases hf
  exact sm_rf
theorem sX10_led_89 {r : Int32} {M1 : Mem} : ∀ {s0 : Int32} {M : Mem}, fX10_led_89 s0 M = some (r, M1) → sm [(22, 25, none), (21, 21, some 5), (21, 21, some 6), (21, 21, some 7), (21, 21, some 8)] M M1 := by
  intro s0 M hf
  unfold fX10_led_89 at hf
  cases hf
  exact sm_rf
theorem sX10_led_0 {r : Int32} {M1 : Mem} : ∀ {x1 : Int32} {x2 : Int32} {x3 : Int32} {M : Mem}, fX10_led x1 x2 x3 M = some (r, M1) → sm [(22, 25, none), (21, 21, some 5), (21, 21, some 6), (21, 21, some 7), (21, 21, some 8)] M M1 := by
  intro x1 x2 x3 M hf
  unfold fX10_led at hf
  obtain ⟨q5, c5, hf⟩ := br_b hf
  by_cases q8 : q5 = 0
  · have hf := (br_if hf).1 q8
    exact sX10_led_27 hf
  · have hf := (br_if hf).2 q8
    obtain ⟨q16, c16, hf⟩ := br_b hf
    by_cases q19 : q16 = 0
    · have hf := (br_if hf).1 q19
      exact sX10_led_27 hf
    · have hf := (br_if hf).2 q19
      by_cases q24 : (-1 : Int32) ≤ x3
      · have hf := (br_if hf).1 q24
        obtain ⟨q33, c33, hf⟩ := br_b hf
        refine sm_tr (ssX0_refresh c33) (by decide) ?_
        obtain ⟨q41, c41, hf⟩ := br_b hf
        refine sm_tr (ssX0_measureSteps c41) (by decide) ?_
        obtain ⟨g53, hf⟩ := br_g hf
        obtain ⟨v54, e54⟩ : ∃ y : Int32, y = (q41.2.1 25 (ix x1)) := ⟨_, rfl⟩
        have hf := nx_at e54 hf
        by_cases q59 : v54 = (-1 : Int32)
        · have hf := (br_if hf).1 q59
          exact sX10_led_67 hf
        · have hf := (br_if hf).2 q59
          by_cases q64 : x3 = (-1 : Int32)
          · have hf := (br_if hf).1 q64
            exact sX10_led_67 hf
          · have hf := (br_if hf).2 q64
            by_cases q73 : x3 ≤ v54
            · have hf := (br_if hf).1 q73
              obtain ⟨q86, c86, hf⟩ := br_b hf
              exact sX10_led_89 hf
            · have hf := (br_if hf).2 q73
              exact sX10_led_89 hf
      · have hf := (br_if hf).2 q24
        exact sX10_led_27 hf
theorem ssX10_led {x1 : Int32} {x2 : Int32} {x3 : Int32} {M : Mem} {r : Int32} {M1 : Mem} (h : fX10_led x1 x2 x3 M = some (r, M1)) : sm [(22, 25, none), (21, 21, some 5), (21, 21, some 6), (21, 21, some 7), (21, 21, some 8)] M M1 := sX10_led_0 h
theorem sX10_line_35 {r : Int32} {M1 : Mem} : ∀ {M : Mem}, fX10_line_35 M = some (r, M1) → sm [(27, 29, none), (26, 26, some 4), (26, 26, some 5)] M M1 := by
  intro M hf
  unfold fX10_line_35 at hf
  cases hf
  exact sm_rf
theorem sX10_line_0 {r : Int32} {M1 : Mem} : ∀ {x1 : Int32} {x2 : Int32} {M : Mem}, fX10_line x1 x2 M = some (r, M1) → sm [(27, 29, none), (26, 26, some 4), (26, 26, some 5)] M M1 := by
  intro x1 x2 M hf
  unfold fX10_line at hf
  obtain ⟨q4, c4, hf⟩ := br_b hf
  refine sm_tr (ssX2_refresh c4) (by decide) ?_
  by_cases q9 : x1 = (-1 : Int32)
  · have hf := (br_if hf).1 q9
    cases hf
    exact sm_rf
  · have hf := (br_if hf).2 q9
    by_cases q21 : x1 < 0
    · have hf := (br_if hf).1 q21
      exact sX10_line_35 hf
    · have hf := (br_if hf).2 q21
      by_cases q32 : x1 < (q4.1 26 4)
      · have hf := (br_if hf).1 q32
        by_cases q39_0 : x2 = (0 : Int32)
        · have hf := (br_if hf).1 q39_0
          obtain ⟨g72, hf⟩ := br_g hf
          cases hf
          exact sm_rf
        · have hf := (br_if hf).2 q39_0
          by_cases q39_1 : x2 = (1 : Int32)
          · have hf := (br_if hf).1 q39_1
            obtain ⟨g82, hf⟩ := br_g hf
            cases hf
            exact sm_rf
          · have hf := (br_if hf).2 q39_1
            by_cases q39_2 : x2 = (2 : Int32)
            · have hf := (br_if hf).1 q39_2
              obtain ⟨g92, hf⟩ := br_g hf
              cases hf
              exact sm_rf
            · have hf := (br_if hf).2 q39_2
              cases hf
              exact sm_rf
      · have hf := (br_if hf).2 q32
        exact sX10_line_35 hf
theorem ssX10_line {x1 : Int32} {x2 : Int32} {M : Mem} {r : Int32} {M1 : Mem} (h : fX10_line x1 x2 M = some (r, M1)) : sm [(27, 29, none), (26, 26, some 4), (26, 26, some 5)] M M1 := sX10_line_0 h
theorem sX10_lot_40 {r : Int32} {M1 : Mem} : ∀ {M : Mem}, fX10_lot_40 M = some (r, M1) → sm [(22, 24, none), (37, 39, none), (21, 21, some 5), (21, 21, some 6), (21, 21, some 7), (21, 21, some 8), (36, 36, some 4), (36, 36, some 5), (36, 36, some 6), (36, 36, some 7), (36, 36, some 8), (36, 36, some 9)] M M1 := by
  intro M hf
  unfold fX10_lot_40 at hf
  cases hf
  exact sm_rf
theorem sX10_lot_68 {r : Int32} {M1 : Mem} : ∀ {s0 : Int32} {M : Mem}, fX10_lot_68 s0 M = some (r, M1) → sm [(22, 24, none), (37, 39, none), (21, 21, some 5), (21, 21, some 6), (21, 21, some 7), (21, 21, some 8), (36, 36, some 4), (36, 36, some 5), (36, 36, some 6), (36, 36, some 7), (36, 36, some 8), (36, 36, some 9)] M M1 := by
  intro s0 M hf
  unfold fX10_lot_68 at hf
  cases hf
  exact sm_rf
theorem sX10_lot_0 {r : Int32} {M1 : Mem} : ∀ {x1 : Int32} {M : Mem}, fX10_lot x1 M = some (r, M1) → sm [(22, 24, none), (37, 39, none), (21, 21, some 5), (21, 21, some 6), (21, 21, some 7), (21, 21, some 8), (36, 36, some 4), (36, 36, some 5), (36, 36, some 6), (36, 36, some 7), (36, 36, some 8), (36, 36, some 9)] M M1 := by
  intro x1 M hf
  unfold fX10_lot at hf
  obtain ⟨q4, c4, hf⟩ := br_b hf
  refine sm_tr (ssX0_refresh c4) (by decide) ?_
  obtain ⟨q11, c11, hf⟩ := br_b hf
  refine sm_tr (ssX3_refresh c11) (by decide) ?_
  by_cases q21 : (q11.1 36 6) = 0
  · have hf := (br_if hf).1 q21
    exact sX10_lot_40 hf
  · have hf := (br_if hf).2 q21
    by_cases q26 : x1 < (-1 : Int32)
    · have hf := (br_if hf).1 q26
      exact sX10_lot_40 hf
    · have hf := (br_if hf).2 q26
      by_cases q37 : x1 < (q11.1 36 5)
      · have hf := (br_if hf).1 q37
        by_cases q44 : x1 = (-1 : Int32)
        · have hf := (br_if hf).1 q44
          exact sX10_lot_68 hf
        · have hf := (br_if hf).2 q44
          obtain ⟨g66, hf⟩ := br_g hf
          exact sX10_lot_68 hf
      · have hf := (br_if hf).2 q37
        exact sX10_lot_40 hf
theorem ssX10_lot {x1 : Int32} {M : Mem} {r : Int32} {M1 : Mem} (h : fX10_lot x1 M = some (r, M1)) : sm [(22, 24, none), (37, 39, none), (21, 21, some 5), (21, 21, some 6), (21, 21, some 7), (21, 21, some 8), (36, 36, some 4), (36, 36, some 5), (36, 36, some 6), (36, 36, some 7), (36, 36, some 8), (36, 36, some 9)] M M1 := sX10_lot_0 h
theorem sX10_make_9 {r : Int32} {M1 : Mem} : ∀ {M : Mem}, fX10_make_9 M = some (r, M1) → sm [(22, 24, none), (41, 42, none), (21, 21, some 5), (21, 21, some 6), (21, 21, some 7), (21, 21, some 8), (40, 40, some 6), (40, 40, some 7), (40, 40, some 8), (40, 40, some 9), (40, 40, some 10)] M M1 := by
  intro M hf
  unfold fX10_make_9 at hf
  cases hf
  exact sm_rf
theorem sX10_make_0 {r : Int32} {M1 : Mem} : ∀ {x1 : Int32} {M : Mem}, fX10_make x1 M = some (r, M1) → sm [(22, 24, none), (41, 42, none), (21, 21, some 5), (21, 21, some 6), (21, 21, some 7), (21, 21, some 8), (40, 40, some 6), (40, 40, some 7), (40, 40, some 8), (40, 40, some 9), (40, 40, some 10)] M M1 := by
  intro x1 M hf
  unfold fX10_make at hf
  by_cases q1 : x1 < 0
  · have hf := (br_if hf).1 q1
    exact sX10_make_9 hf
  · have hf := (br_if hf).2 q1
    by_cases q6 : x1 ≤ (2 : Int32)
    · have hf := (br_if hf).1 q6
      obtain ⟨q15, c15, hf⟩ := br_b hf
      refine sm_tr (ssX0_refresh c15) (by decide) ?_
      obtain ⟨q22, c22, hf⟩ := br_b hf
      refine sm_tr (ssX9_findMove c22) (by decide) ?_
      by_cases q26_0 : x1 = (0 : Int32)
      · have hf := (br_if hf).1 q26_0
        cases hf
        exact sm_rf
      · have hf := (br_if hf).2 q26_0
        by_cases q26_1 : x1 = (1 : Int32)
        · have hf := (br_if hf).1 q26_1
          cases hf
          exact sm_rf
        · have hf := (br_if hf).2 q26_1
          cases hf
          exact sm_rf
    · have hf := (br_if hf).2 q6
      exact sX10_make_9 hf
theorem ssX10_make {x1 : Int32} {M : Mem} {r : Int32} {M1 : Mem} (h : fX10_make x1 M = some (r, M1)) : sm [(22, 24, none), (41, 42, none), (21, 21, some 5), (21, 21, some 6), (21, 21, some 7), (21, 21, some 8), (40, 40, some 6), (40, 40, some 7), (40, 40, some 8), (40, 40, some 9), (40, 40, some 10)] M M1 := sX10_make_0 h
theorem sX10_middle_35 {r : Int32} {M1 : Mem} : ∀ {M : Mem}, fX10_middle_35 M = some (r, M1) → sm [(27, 29, none), (31, 34, none), (26, 26, some 4), (26, 26, some 5), (30, 30, some 5), (30, 30, some 7)] M M1 := by
  intro M hf
  unfold fX10_middle_35 at hf
  cases hf
  exact sm_rf
theorem sX10_middle_0 {r : Int32} {M1 : Mem} : ∀ {x1 : Int32} {x2 : Int32} {M : Mem}, fX10_middle x1 x2 M = some (r, M1) → sm [(27, 29, none), (31, 34, none), (26, 26, some 4), (26, 26, some 5), (30, 30, some 5), (30, 30, some 7)] M M1 := by
  intro x1 x2 M hf
  unfold fX10_middle at hf
  obtain ⟨q4, c4, hf⟩ := br_b hf
  refine sm_tr (ssX4_refresh c4) (by decide) ?_
  by_cases q9 : x1 = (-1 : Int32)
  · have hf := (br_if hf).1 q9
    cases hf
    exact sm_rf
  · have hf := (br_if hf).2 q9
    by_cases q21 : x1 < 0
    · have hf := (br_if hf).1 q21
      exact sX10_middle_35 hf
    · have hf := (br_if hf).2 q21
      by_cases q32 : x1 < (q4.1 30 5)
      · have hf := (br_if hf).1 q32
        by_cases q39_0 : x2 = (0 : Int32)
        · have hf := (br_if hf).1 q39_0
          obtain ⟨g72, hf⟩ := br_g hf
          cases hf
          exact sm_rf
        · have hf := (br_if hf).2 q39_0
          by_cases q39_1 : x2 = (1 : Int32)
          · have hf := (br_if hf).1 q39_1
            obtain ⟨g83, hf⟩ := br_g hf
            cases hf
            exact sm_rf
          · have hf := (br_if hf).2 q39_1
            by_cases q39_2 : x2 = (2 : Int32)
            · have hf := (br_if hf).1 q39_2
              obtain ⟨g94, hf⟩ := br_g hf
              cases hf
              exact sm_rf
            · have hf := (br_if hf).2 q39_2
              cases hf
              exact sm_rf
      · have hf := (br_if hf).2 q32
        exact sX10_middle_35 hf
theorem ssX10_middle {x1 : Int32} {x2 : Int32} {M : Mem} {r : Int32} {M1 : Mem} (h : fX10_middle x1 x2 M = some (r, M1)) : sm [(27, 29, none), (31, 34, none), (26, 26, some 4), (26, 26, some 5), (30, 30, some 5), (30, 30, some 7)] M M1 := sX10_middle_0 h
theorem sX10_move_44 {r : Int32} {M1 : Mem} : ∀ {M : Mem}, fX10_move_44 M = some (r, M1) → sm [(2, 3, none), (22, 24, none), (46, 46, none), (1, 1, some 14), (21, 21, some 5), (21, 21, some 6), (21, 21, some 7), (21, 21, some 8), (45, 45, some 1)] M M1 := by
  intro M hf
  unfold fX10_move_44 at hf
  cases hf
  exact sm_rf
theorem sX10_move_0 {r : Int32} {M1 : Mem} : ∀ {x1 : Int32} {x2 : Int32} {x3 : Int32} {M : Mem}, fX10_move x1 x2 x3 M = some (r, M1) → sm [(2, 3, none), (22, 24, none), (46, 46, none), (1, 1, some 14), (21, 21, some 5), (21, 21, some 6), (21, 21, some 7), (21, 21, some 8), (45, 45, some 1)] M M1 := by
  intro x1 x2 x3 M hf
  unfold fX10_move at hf
  obtain ⟨q5, c5, hf⟩ := br_b hf
  by_cases q8 : q5 = 0
  · have hf := (br_if hf).1 q8
    exact sX10_move_44 hf
  · have hf := (br_if hf).2 q8
    obtain ⟨q13, c13, hf⟩ := br_b hf
    by_cases q16 : q13 = 0
    · have hf := (br_if hf).1 q16
      exact sX10_move_44 hf
    · have hf := (br_if hf).2 q16
      obtain ⟨q26, c26, hf⟩ := br_b hf
      by_cases q29 : q26 = 0
      · have hf := (br_if hf).1 q29
        by_cases q41 : (M.1 45 1) < (40 : Int32)
        · have hf := (br_if hf).1 q41
          obtain ⟨q50, c50, hf⟩ := br_b hf
          refine sm_tr (ssX0_refresh c50) (by decide) ?_
          obtain ⟨g66, hf⟩ := br_g hf
          obtain ⟨g75, hf⟩ := br_g hf
          obtain ⟨q90, c90, hf⟩ := br_b hf
          refine sm_tr (ssX5_open c90) (by decide) ?_
          obtain ⟨q100, c100, hf⟩ := br_b hf
          refine sm_tr (ssX8_put_t c100) (by decide) ?_
          obtain ⟨q107, c107, hf⟩ := br_b hf
          refine sm_tr (ssX0_refresh c107) (by decide) ?_
          obtain ⟨q130, c130, hf⟩ := br_b hf
          refine sm_tr (ssX5_close c130) (by decide) ?_
          cases hf
          exact sm_rf
        · have hf := (br_if hf).2 q41
          exact sX10_move_44 hf
      · have hf := (br_if hf).2 q29
        exact sX10_move_44 hf
theorem ssX10_move {x1 : Int32} {x2 : Int32} {x3 : Int32} {M : Mem} {r : Int32} {M1 : Mem} (h : fX10_move x1 x2 x3 M = some (r, M1)) : sm [(2, 3, none), (22, 24, none), (46, 46, none), (1, 1, some 14), (21, 21, some 5), (21, 21, some 6), (21, 21, some 7), (21, 21, some 8), (45, 45, some 1)] M M1 := sX10_move_0 h
theorem sX10_need_27 {r : Int32} {M1 : Mem} : ∀ {M : Mem}, fX10_need_27 M = some (r, M1) → sm [(22, 24, none), (21, 21, some 5), (21, 21, some 6), (21, 21, some 7), (21, 21, some 8)] M M1 := by
  intro M hf
  unfold fX10_need_27 at hf
  cases hf
  exact sm_rf
theorem sX10_need_59 {r : Int32} {M1 : Mem} : ∀ {s0 : Int32} {M : Mem}, fX10_need_59 s0 M = some (r, M1) → sm [(22, 24, none), (21, 21, some 5), (21, 21, some 6), (21, 21, some 7), (21, 21, some 8)] M M1 := by
  intro s0 M hf
  unfold fX10_need_59 at hf
  cases hf
  exact sm_rf
theorem sX10_need_29 {r : Int32} {M1 : Mem} : ∀ {x1 : Int32} {M : Mem}, fX10_need_29 x1 M = some (r, M1) → sm [(22, 24, none), (21, 21, some 5), (21, 21, some 6), (21, 21, some 7), (21, 21, some 8)] M M1 := by
  intro x1 M hf
  unfold fX10_need_29 at hf
  obtain ⟨q33, c33, hf⟩ := br_b hf
  refine sm_tr (ssX0_refresh c33) (by decide) ?_
  by_cases q38 : x1 = (-1 : Int32)
  · have hf := (br_if hf).1 q38
    obtain ⟨q45, c45, hf⟩ := br_b hf
    exact sX10_need_59 hf
  · have hf := (br_if hf).2 q38
    obtain ⟨q56, c56, hf⟩ := br_b hf
    exact sX10_need_59 hf
theorem sX10_need_0 {r : Int32} {M1 : Mem} : ∀ {x1 : Int32} {M : Mem}, fX10_need x1 M = some (r, M1) → sm [(22, 24, none), (21, 21, some 5), (21, 21, some 6), (21, 21, some 7), (21, 21, some 8)] M M1 := by
  intro x1 M hf
  unfold fX10_need at hf
  by_cases q8 : (M.1 1 8) < (2 : Int32)
  · have hf := (br_if hf).1 q8
    exact sX10_need_27 hf
  · have hf := (br_if hf).2 q8
    by_cases q13 : x1 = (-1 : Int32)
    · have hf := (br_if hf).1 q13
      exact sX10_need_29 hf
    · have hf := (br_if hf).2 q13
      obtain ⟨q21, c21, hf⟩ := br_b hf
      by_cases q24 : q21 = 0
      · have hf := (br_if hf).1 q24
        exact sX10_need_27 hf
      · have hf := (br_if hf).2 q24
        exact sX10_need_29 hf
theorem ssX10_need {x1 : Int32} {M : Mem} {r : Int32} {M1 : Mem} (h : fX10_need x1 M = some (r, M1)) : sm [(22, 24, none), (21, 21, some 5), (21, 21, some 6), (21, 21, some 7), (21, 21, some 8)] M M1 := sX10_need_0 h
theorem sX10_peace_0 {r : Int32} {M1 : Mem} : ∀ {M : Mem}, fX10_peace M = some (r, M1) → sm [(22, 24, none), (21, 21, some 5), (21, 21, some 6), (21, 21, some 7), (21, 21, some 8)] M M1 := by
  intro M hf
  unfold fX10_peace at hf
  obtain ⟨q4, c4, hf⟩ := br_b hf
  refine sm_tr (ssX0_refresh c4) (by decide) ?_
  cases hf
  exact sm_rf
theorem ssX10_peace {M : Mem} {r : Int32} {M1 : Mem} (h : fX10_peace M = some (r, M1)) : sm [(22, 24, none), (21, 21, some 5), (21, 21, some 6), (21, 21, some 7), (21, 21, some 8)] M M1 := sX10_peace_0 h
theorem sX10_proof_9 {r : Int32} {M1 : Mem} : ∀ {M : Mem}, fX10_proof_9 M = some (r, M1) → sm [(27, 29, none), (31, 34, none), (26, 26, some 4), (26, 26, some 5), (30, 30, some 5), (30, 30, some 7)] M M1 := by
  intro M hf
  unfold fX10_proof_9 at hf
  cases hf
  exact sm_rf
theorem sX10_proof_0 {r : Int32} {M1 : Mem} : ∀ {x1 : Int32} {M : Mem}, fX10_proof x1 M = some (r, M1) → sm [(27, 29, none), (31, 34, none), (26, 26, some 4), (26, 26, some 5), (30, 30, some 5), (30, 30, some 7)] M M1 := by
  intro x1 M hf
  unfold fX10_proof at hf
  by_cases q1 : x1 < 0
  · have hf := (br_if hf).1 q1
    exact sX10_proof_9 hf
  · have hf := (br_if hf).2 q1
    by_cases q6 : x1 ≤ (2 : Int32)
    · have hf := (br_if hf).1 q6
      obtain ⟨q15, c15, hf⟩ := br_b hf
      refine sm_tr (ssX4_refresh c15) (by decide) ?_
      obtain ⟨g26, hf⟩ := br_g hf
      cases hf
      exact sm_rf
    · have hf := (br_if hf).2 q6
      exact sX10_proof_9 hf
theorem ssX10_proof {x1 : Int32} {M : Mem} {r : Int32} {M1 : Mem} (h : fX10_proof x1 M = some (r, M1)) : sm [(27, 29, none), (31, 34, none), (26, 26, some 4), (26, 26, some 5), (30, 30, some 5), (30, 30, some 7)] M M1 := sX10_proof_0 h
theorem sX10_propose_30 {r : Int32} {M1 : Mem} : ∀ {M : Mem}, fX10_propose_30 M = some (r, M1) → sm [(8, 9, none), (1, 1, some 8), (1, 1, some 15)] M M1 := by
  intro M hf
  unfold fX10_propose_30 at hf
  cases hf
  exact sm_rf
theorem sX10_propose_0 {r : Int32} {M1 : Mem} : ∀ {x1 : Int32} {x2 : Int32} {M : Mem}, fX10_propose x1 x2 M = some (r, M1) → sm [(8, 9, none), (1, 1, some 8), (1, 1, some 15)] M M1 := by
  intro x1 x2 M hf
  unfold fX10_propose at hf
  by_cases q7 : (M.1 1 0) = 0
  · have hf := (br_if hf).1 q7
    exact sX10_propose_30 hf
  · have hf := (br_if hf).2 q7
    obtain ⟨q12, c12, hf⟩ := br_b hf
    by_cases q15 : q12 = 0
    · have hf := (br_if hf).1 q15
      exact sX10_propose_30 hf
    · have hf := (br_if hf).2 q15
      by_cases q27 : (M.1 1 8) < (20 : Int32)
      · have hf := (br_if hf).1 q27
        obtain ⟨q38, c38, hf⟩ := br_b hf
        refine sm_tr (ssX8_addPlace_t c38) (by decide) ?_
        cases hf
        exact sm_rf
      · have hf := (br_if hf).2 q27
        exact sX10_propose_30 hf
theorem ssX10_propose {x1 : Int32} {x2 : Int32} {M : Mem} {r : Int32} {M1 : Mem} (h : fX10_propose x1 x2 M = some (r, M1)) : sm [(8, 9, none), (1, 1, some 8), (1, 1, some 15)] M M1 := sX10_propose_0 h
theorem sX10_rest_0 {r : Int32} {M1 : Mem} : ∀ {M : Mem}, fX10_rest M = some (r, M1) → sm [(22, 24, none), (37, 39, none), (21, 21, some 5), (21, 21, some 6), (21, 21, some 7), (21, 21, some 8), (36, 36, some 4), (36, 36, some 5), (36, 36, some 6), (36, 36, some 7), (36, 36, some 8), (36, 36, some 9)] M M1 := by
  intro M hf
  unfold fX10_rest at hf
  obtain ⟨q4, c4, hf⟩ := br_b hf
  refine sm_tr (ssX0_refresh c4) (by decide) ?_
  obtain ⟨q11, c11, hf⟩ := br_b hf
  refine sm_tr (ssX3_refresh c11) (by decide) ?_
  cases hf
  exact sm_rf
theorem ssX10_rest {M : Mem} {r : Int32} {M1 : Mem} (h : fX10_rest M = some (r, M1)) : sm [(22, 24, none), (37, 39, none), (21, 21, some 5), (21, 21, some 6), (21, 21, some 7), (21, 21, some 8), (36, 36, some 4), (36, 36, some 5), (36, 36, some 6), (36, 36, some 7), (36, 36, some 8), (36, 36, some 9)] M M1 := sX10_rest_0 h
theorem sX10_round_19 {r : Int32} {M1 : Mem} : ∀ {M : Mem}, fX10_round_19 M = some (r, M1) → sm [(27, 29, none), (26, 26, some 4), (26, 26, some 5), (35, 35, some 1), (35, 35, some 2), (35, 35, some 3), (35, 35, some 4), (35, 35, some 5), (35, 35, some 6)] M M1 := by
  intro M hf
  unfold fX10_round_19 at hf
  cases hf
  exact sm_rf
theorem sX10_round_0 {r : Int32} {M1 : Mem} : ∀ {x1 : Int32} {M : Mem}, fX10_round x1 M = some (r, M1) → sm [(27, 29, none), (26, 26, some 4), (26, 26, some 5), (35, 35, some 1), (35, 35, some 2), (35, 35, some 3), (35, 35, some 4), (35, 35, some 5), (35, 35, some 6)] M M1 := by
  intro x1 M hf
  unfold fX10_round at hf
  by_cases q7 : (M.1 1 0) = 0
  · have hf := (br_if hf).1 q7
    exact sX10_round_19 hf
  · have hf := (br_if hf).2 q7
    by_cases q11 : x1 < 0
    · have hf := (br_if hf).1 q11
      exact sX10_round_19 hf
    · have hf := (br_if hf).2 q11
      by_cases q16 : x1 ≤ (3 : Int32)
      · have hf := (br_if hf).1 q16
        obtain ⟨q25, c25, hf⟩ := br_b hf
        refine sm_tr (ssX7_refresh c25) (by decide) ?_
        by_cases q29_0 : x1 = (0 : Int32)
        · have hf := (br_if hf).1 q29_0
          cases hf
          exact sm_rf
        · have hf := (br_if hf).2 q29_0
          by_cases q29_1 : x1 = (1 : Int32)
          · have hf := (br_if hf).1 q29_1
            cases hf
            exact sm_rf
          · have hf := (br_if hf).2 q29_1
            by_cases q29_2 : x1 = (2 : Int32)
            · have hf := (br_if hf).1 q29_2
              cases hf
              exact sm_rf
            · have hf := (br_if hf).2 q29_2
              cases hf
              exact sm_rf
      · have hf := (br_if hf).2 q16
        exact sX10_round_19 hf
theorem ssX10_round {x1 : Int32} {M : Mem} {r : Int32} {M1 : Mem} (h : fX10_round x1 M = some (r, M1)) : sm [(27, 29, none), (26, 26, some 4), (26, 26, some 5), (35, 35, some 1), (35, 35, some 2), (35, 35, some 3), (35, 35, some 4), (35, 35, some 5), (35, 35, some 6)] M M1 := sX10_round_0 h
theorem sX10_sheet_0 {r : Int32} {M1 : Mem} : ∀ {M : Mem}, fX10_sheet M = some (r, M1) → sm [(2, 9, none), (13, 20, none), (1, 1, some 0), (1, 1, some 7), (1, 1, some 8), (1, 1, some 11), (1, 1, some 12), (1, 1, some 13), (1, 1, some 14), (1, 1, some 15), (10, 10, some 1), (10, 10, some 3), (10, 10, some 4), (10, 10, some 5), (10, 10, some 6), (10, 10, some 7), (10, 10, some 8), (10, 10, some 9), (10, 10, some 10), (12, 12, some 0), (12, 12, some 7), (12, 12, some 8), (12, 12, some 11), (12, 12, some 12), (12, 12, some 13), (12, 12, some 14), (12, 12, some 15), (45, 45, some 1)] M M1 := by
  intro M hf
  unfold fX10_sheet at hf
  obtain ⟨q4, c4, hf⟩ := br_b hf
  refine sm_tr (ssX6_findFault c4) (by decide) ?_
  by_cases q8 : q4.1 = (-1 : Int32)
  · have hf := (br_if hf).1 q8
    obtain ⟨q24, c24, hf⟩ := br_b hf
    refine sm_tr (ssX8_takeFrom_t c24) (by decide) ?_
    obtain ⟨M32, e32⟩ : ∃ y : Mem, y = (sI q24 10 1 (0 : Int32)) := ⟨_, rfl⟩
    have hf := nx_at e32 hf
    refine sm_I e32 (inS_up (L0 := [(10, 10, some 1)]) (by decide) (inS_s 10 1)) ?_
    obtain ⟨M40, e40⟩ : ∃ y : Mem, y = (sI M32 45 1 (0 : Int32)) := ⟨_, rfl⟩
    have hf := nx_at e40 hf
    refine sm_I e40 (inS_up (L0 := [(45, 45, some 1)]) (by decide) (inS_s 45 1)) ?_
    cases hf
    exact sm_rf
  · have hf := (br_if hf).2 q8
    cases hf
    exact sm_rf
theorem ssX10_sheet {M : Mem} {r : Int32} {M1 : Mem} (h : fX10_sheet M = some (r, M1)) : sm [(2, 9, none), (13, 20, none), (1, 1, some 0), (1, 1, some 7), (1, 1, some 8), (1, 1, some 11), (1, 1, some 12), (1, 1, some 13), (1, 1, some 14), (1, 1, some 15), (10, 10, some 1), (10, 10, some 3), (10, 10, some 4), (10, 10, some 5), (10, 10, some 6), (10, 10, some 7), (10, 10, some 8), (10, 10, some 9), (10, 10, some 10), (12, 12, some 0), (12, 12, some 7), (12, 12, some 8), (12, 12, some 11), (12, 12, some 12), (12, 12, some 13), (12, 12, some 14), (12, 12, some 15), (45, 45, some 1)] M M1 := sX10_sheet_0 h
theorem sX10_undo_0 {r : Int32} {M1 : Mem} : ∀ {M : Mem}, fX10_undo M = some (r, M1) → sm [(2, 3, none), (1, 1, some 14), (45, 45, some 1)] M M1 := by
  intro M hf
  unfold fX10_undo at hf
  by_cases q7 : (M.1 45 1) = 0
  · have hf := (br_if hf).1 q7
    cases hf
    exact sm_rf
  · have hf := (br_if hf).2 q7
    obtain ⟨v21, e21⟩ : ∃ y : Int32, y = ((M.1 45 1) - (1 : Int32)) := ⟨_, rfl⟩
    have hf := nx_at e21 hf
    obtain ⟨q28, c28, hf⟩ := br_b hf
    obtain ⟨q43, c43, hf⟩ := br_b hf
    obtain ⟨q52, c52, hf⟩ := br_b hf
    obtain ⟨q55, c55, hf⟩ := br_b hf
    refine sm_tr (ssX8_put_t c55) (by decide) ?_
    obtain ⟨M63, e63⟩ : ∃ y : Mem, y = (sI q55 45 1 v21) := ⟨_, rfl⟩
    have hf := nx_at e63 hf
    refine sm_I e63 (inS_up (L0 := [(45, 45, some 1)]) (by decide) (inS_s 45 1)) ?_
    cases hf
    exact sm_rf
theorem ssX10_undo {M : Mem} {r : Int32} {M1 : Mem} (h : fX10_undo M = some (r, M1)) : sm [(2, 3, none), (1, 1, some 14), (45, 45, some 1)] M M1 := sX10_undo_0 h
theorem sX10_votes_22 {r : Int32} {M1 : Mem} : ∀ {M : Mem}, fX10_votes_22 M = some (r, M1) → sm [(22, 24, none), (21, 21, some 5), (21, 21, some 6), (21, 21, some 7), (21, 21, some 8)] M M1 := by
  intro M hf
  unfold fX10_votes_22 at hf
  cases hf
  exact sm_rf
theorem sX10_votes_0 {r : Int32} {M1 : Mem} : ∀ {x1 : Int32} {x2 : Int32} {M : Mem}, fX10_votes x1 x2 M = some (r, M1) → sm [(22, 24, none), (21, 21, some 5), (21, 21, some 6), (21, 21, some 7), (21, 21, some 8)] M M1 := by
  intro x1 x2 M hf
  unfold fX10_votes at hf
  obtain ⟨q5, c5, hf⟩ := br_b hf
  by_cases q8 : q5 = 0
  · have hf := (br_if hf).1 q8
    exact sX10_votes_22 hf
  · have hf := (br_if hf).2 q8
    obtain ⟨q16, c16, hf⟩ := br_b hf
    by_cases q19 : q16 = 0
    · have hf := (br_if hf).1 q19
      exact sX10_votes_22 hf
    · have hf := (br_if hf).2 q19
      obtain ⟨q28, c28, hf⟩ := br_b hf
      refine sm_tr (ssX0_refresh c28) (by decide) ?_
      obtain ⟨q37, c37, hf⟩ := br_b hf
      cases hf
      exact sm_rf
theorem ssX10_votes {x1 : Int32} {x2 : Int32} {M : Mem} {r : Int32} {M1 : Mem} (h : fX10_votes x1 x2 M = some (r, M1)) : sm [(22, 24, none), (21, 21, some 5), (21, 21, some 6), (21, 21, some 7), (21, 21, some 8)] M M1 := sX10_votes_0 h
theorem sX1_markColumn_142_10 {M1 : Mem} : ∀ {M : Mem}, fX1_markColumn_142_10 M = some M1 → sm [(142, 142, none)] M M1 := by
  intro M hf
  unfold fX1_markColumn_142_10 at hf
  cases hf
  exact sm_rf
theorem sX1_markColumn_142_94 {M1 : Mem} : ∀ {M : Mem}, fX1_markColumn_142_94 M = some M1 → sm [(142, 142, none)] M M1 := by
  intro M hf
  unfold fX1_markColumn_142_94 at hf
  cases hf
  exact sm_rf
theorem sX1_markColumn_142_0 {M1 : Mem} : ∀ {x1 : Int32} {x2 : Int32} {x3 : Int32} {M : Mem}, fX1_markColumn_142 x1 x2 x3 M = some M1 → sm [(142, 142, none)] M M1 := by
  intro x1 x2 x3 M hf
  unfold fX1_markColumn_142 at hf
  by_cases q1 : x2 < 0
  · have hf := (br_if hf).1 q1
    exact sX1_markColumn_142_10 hf
  · have hf := (br_if hf).2 q1
    by_cases q7 : x2 < (100 : Int32)
    · have hf := (br_if hf).1 q7
      obtain ⟨g20, hf⟩ := br_g hf
      obtain ⟨v26, e26⟩ : ∃ y : Int32, y = (imax (0 : Int32) ((M.1 3 (ix x1)) - x3)) := ⟨_, rfl⟩
      have hf := nx_at e26 hf
      obtain ⟨g36, hf⟩ := br_g hf
      obtain ⟨v41, e41⟩ : ∃ y : Int32, y = (((M.1 3 (ix x1)) + x3) + (1 : Int32)) := ⟨_, rfl⟩
      have hf := nx_at e41 hf
      obtain ⟨g53, hf⟩ := br_g hf
      obtain ⟨g62, hf⟩ := br_g hf
      obtain ⟨g64, hf⟩ := br_g hf
      obtain ⟨M64, e64⟩ : ∃ y : Mem, y = (sI M 142 (ix ((x2 * (100 : Int32)) + v26)) ((M.1 142 (ix ((x2 * (100 : Int32)) + v26))) + (M.1 4 (ix x1)))) := ⟨_, rfl⟩
      have hf := nx_at e64 hf
      refine sm_I e64 (inS_up (L0 := [(142, 142, none)]) (by decide) (inS_n 142 _)) ?_
      by_cases q69 : (100 : Int32) ≤ v41
      · have hf := (br_if hf).1 q69
        exact sX1_markColumn_142_94 hf
      · have hf := (br_if hf).2 q69
        obtain ⟨g82, hf⟩ := br_g hf
        obtain ⟨g91, hf⟩ := br_g hf
        obtain ⟨g93, hf⟩ := br_g hf
        obtain ⟨M93, e93⟩ : ∃ y : Mem, y = (sI M64 142 (ix ((x2 * (100 : Int32)) + v41)) ((M64.1 142 (ix ((x2 * (100 : Int32)) + v41))) - (M64.1 4 (ix x1)))) := ⟨_, rfl⟩
        have hf := nx_at e93 hf
        refine sm_I e93 (inS_up (L0 := [(142, 142, none)]) (by decide) (inS_n 142 _)) ?_
        exact sX1_markColumn_142_94 hf
    · have hf := (br_if hf).2 q7
      exact sX1_markColumn_142_10 hf
theorem ssX1_markColumn_142 {x1 : Int32} {x2 : Int32} {x3 : Int32} {M : Mem} {M1 : Mem} (h : fX1_markColumn_142 x1 x2 x3 M = some M1) : sm [(142, 142, none)] M M1 := sX1_markColumn_142_0 h
theorem sX1_markWithin_142_14 {M1 : Mem} {k41 : Int32 → Int32 → Int32 → Int32 → Mem → Option Mem} (hk41 : ∀ {x1 : Int32} {x2 : Int32} {x4 : Int32} {x5 : Int32} {M : Mem}, k41 x1 x2 x4 x5 M = some M1 → sm [(142, 142, none)] M M1) : ∀ (n : Nat) {x1 : Int32} {x2 : Int32} {x4 : Int32} {x5 : Int32} {M : Mem}, fX1_markWithin_142_14 k41 n x1 x2 x4 x5 M = some M1 → sm [(142, 142, none)] M M1 := by
  intro n
  induction n with
  | zero =>
    intro x1 x2 x4 x5 M hf
    exact absurd (show none = some _ from hf) (fun h => by cases h)
  | succ n ih =>
    intro x1 x2 x4 x5 M hf
    rw [fX1_markWithin_142_14] at hf
    by_cases q16 : x4 < 0
    · have hf := (br_if hf).1 q16
      exact hk41 hf
    · have hf := (br_if hf).2 q16
      obtain ⟨q28, c28, hf⟩ := br_b hf
      by_cases q32 : q28 ≤ x2
      · have hf := (br_if hf).1 q32
        exact hk41 hf
      · have hf := (br_if hf).2 q32
        obtain ⟨v35, e35⟩ : ∃ y : Int32, y = (x4 + (-1 : Int32)) := ⟨_, rfl⟩
        have hf := nx_at e35 hf
        exact ih hf
theorem sX1_markWithin_142_92 {M1 : Mem} {k7 : Int32 → Int32 → Int32 → Int32 → Mem → Option Mem} {k46 : Mem → Option Mem} {k98 : Mem → Option Mem} (hk7 : ∀ {x1 : Int32} {x2 : Int32} {x4 : Int32} {x5 : Int32} {M : Mem}, k7 x1 x2 x4 x5 M = some M1 → sm [(142, 142, none)] M M1) (hk46 : ∀ {M : Mem}, k46 M = some M1 → sm [(142, 142, none)] M M1) (hk98 : ∀ {M : Mem}, k98 M = some M1 → sm [(142, 142, none)] M M1) : ∀ {x1 : Int32} {x2 : Int32} {x4 : Int32} {x5 : Int32} {M : Mem}, fX1_markWithin_142_92 k7 k46 k98 x1 x2 x4 x5 M = some M1 → sm [(142, 142, none)] M M1 := by
  intro x1 x2 x4 x5 M hf
  unfold fX1_markWithin_142_92 at hf
  obtain ⟨v92, e92⟩ : ∃ y : Int32, y = (x5 + (1 : Int32)) := ⟨_, rfl⟩
  have hf := nx_at e92 hf
  exact hk7 hf
theorem sX1_markWithin_142_41 {M1 : Mem} {k7 : Int32 → Int32 → Int32 → Int32 → Mem → Option Mem} {k46 : Mem → Option Mem} {k98 : Mem → Option Mem} (hk7 : ∀ {x1 : Int32} {x2 : Int32} {x4 : Int32} {x5 : Int32} {M : Mem}, k7 x1 x2 x4 x5 M = some M1 → sm [(142, 142, none)] M M1) (hk46 : ∀ {M : Mem}, k46 M = some M1 → sm [(142, 142, none)] M M1) (hk98 : ∀ {M : Mem}, k98 M = some M1 → sm [(142, 142, none)] M M1) : ∀ {x1 : Int32} {x2 : Int32} {x4 : Int32} {x5 : Int32} {M : Mem}, fX1_markWithin_142_41 k7 k46 k98 x1 x2 x4 x5 M = some M1 → sm [(142, 142, none)] M M1 := by
  intro x1 x2 x4 x5 M hf
  unfold fX1_markWithin_142_41 at hf
  by_cases q43 : 0 ≤ x4
  · have hf := (br_if hf).1 q43
    obtain ⟨g57, hf⟩ := br_g hf
    obtain ⟨q64, c64, hf⟩ := br_b hf
    refine sm_tr (ssX1_markColumn_142 c64) (by decide) ?_
    by_cases q69 : x5 ≤ 0
    · have hf := (br_if hf).1 q69
      exact sX1_markWithin_142_92 (fun hf => hk7 hf) (fun hf => hk46 hf) (fun hf => hk98 hf) hf
    · have hf := (br_if hf).2 q69
      obtain ⟨g82, hf⟩ := br_g hf
      obtain ⟨q89, c89, hf⟩ := br_b hf
      refine sm_tr (ssX1_markColumn_142 c89) (by decide) ?_
      exact sX1_markWithin_142_92 (fun hf => hk7 hf) (fun hf => hk46 hf) (fun hf => hk98 hf) hf
  · have hf := (br_if hf).2 q43
    exact hk46 hf
theorem sX1_markWithin_142_7 {M1 : Mem} {k46 : Mem → Option Mem} {k98 : Mem → Option Mem} (hk46 : ∀ {M : Mem}, k46 M = some M1 → sm [(142, 142, none)] M M1) (hk98 : ∀ {M : Mem}, k98 M = some M1 → sm [(142, 142, none)] M M1) : ∀ (n : Nat) {x1 : Int32} {x2 : Int32} {x4 : Int32} {x5 : Int32} {M : Mem}, fX1_markWithin_142_7 k46 k98 n x1 x2 x4 x5 M = some M1 → sm [(142, 142, none)] M M1 := by
  intro n
  induction n with
  | zero =>
    intro x1 x2 x4 x5 M hf
    exact absurd (show none = some _ from hf) (fun h => by cases h)
  | succ n ih =>
    intro x1 x2 x4 x5 M hf
    rw [fX1_markWithin_142_7] at hf
    by_cases q11 : (100 : Int32) ≤ x5
    · have hf := (br_if hf).1 q11
      exact hk98 hf
    · have hf := (br_if hf).2 q11
      exact sX1_markWithin_142_14 (fun hf => sX1_markWithin_142_41 (fun hf => ih hf) (fun hf => hk46 hf) (fun hf => hk98 hf) hf) FU hf
theorem sX1_markWithin_142_46 {M1 : Mem} : ∀ {M : Mem}, fX1_markWithin_142_46 M = some M1 → sm [(142, 142, none)] M M1 := by
  intro M hf
  unfold fX1_markWithin_142_46 at hf
  cases hf
  exact sm_rf
theorem sX1_markWithin_142_98 {M1 : Mem} : ∀ {M : Mem}, fX1_markWithin_142_98 M = some M1 → sm [(142, 142, none)] M M1 := by
  intro M hf
  unfold fX1_markWithin_142_98 at hf
  cases hf
  exact sm_rf
theorem sX1_markWithin_142_0 {M1 : Mem} : ∀ {x1 : Int32} {x2 : Int32} {M : Mem}, fX1_markWithin_142 x1 x2 M = some M1 → sm [(142, 142, none)] M M1 := by
  intro x1 x2 M hf
  unfold fX1_markWithin_142 at hf
  exact sX1_markWithin_142_7 (fun hf => sX1_markWithin_142_46 hf) (fun hf => sX1_markWithin_142_98 hf) FU hf
theorem ssX1_markWithin_142 {x1 : Int32} {x2 : Int32} {M : Mem} {M1 : Mem} (h : fX1_markWithin_142 x1 x2 M = some M1) : sm [(142, 142, none)] M M1 := sX1_markWithin_142_0 h
theorem sX1_markColumn_143_10 {M1 : Mem} : ∀ {M : Mem}, fX1_markColumn_143_10 M = some M1 → sm [(143, 143, none)] M M1 := by
  intro M hf
  unfold fX1_markColumn_143_10 at hf
  cases hf
  exact sm_rf
theorem sX1_markColumn_143_94 {M1 : Mem} : ∀ {M : Mem}, fX1_markColumn_143_94 M = some M1 → sm [(143, 143, none)] M M1 := by
  intro M hf
  unfold fX1_markColumn_143_94 at hf
  cases hf
  exact sm_rf
theorem sX1_markColumn_143_0 {M1 : Mem} : ∀ {x1 : Int32} {x2 : Int32} {x3 : Int32} {M : Mem}, fX1_markColumn_143 x1 x2 x3 M = some M1 → sm [(143, 143, none)] M M1 := by
  intro x1 x2 x3 M hf
  unfold fX1_markColumn_143 at hf
  by_cases q1 : x2 < 0
  · have hf := (br_if hf).1 q1
    exact sX1_markColumn_143_10 hf
  · have hf := (br_if hf).2 q1
    by_cases q7 : x2 < (100 : Int32)
    · have hf := (br_if hf).1 q7
      obtain ⟨g20, hf⟩ := br_g hf
      obtain ⟨v26, e26⟩ : ∃ y : Int32, y = (imax (0 : Int32) ((M.1 3 (ix x1)) - x3)) := ⟨_, rfl⟩
      have hf := nx_at e26 hf
      obtain ⟨g36, hf⟩ := br_g hf
      obtain ⟨v41, e41⟩ : ∃ y : Int32, y = (((M.1 3 (ix x1)) + x3) + (1 : Int32)) := ⟨_, rfl⟩
      have hf := nx_at e41 hf
      obtain ⟨g53, hf⟩ := br_g hf
      obtain ⟨g62, hf⟩ := br_g hf
      obtain ⟨g64, hf⟩ := br_g hf
      obtain ⟨M64, e64⟩ : ∃ y : Mem, y = (sI M 143 (ix ((x2 * (100 : Int32)) + v26)) ((M.1 143 (ix ((x2 * (100 : Int32)) + v26))) + (M.1 4 (ix x1)))) := ⟨_, rfl⟩
      have hf := nx_at e64 hf
      refine sm_I e64 (inS_up (L0 := [(143, 143, none)]) (by decide) (inS_n 143 _)) ?_
      by_cases q69 : (100 : Int32) ≤ v41
      · have hf := (br_if hf).1 q69
        exact sX1_markColumn_143_94 hf
      · have hf := (br_if hf).2 q69
        obtain ⟨g82, hf⟩ := br_g hf
        obtain ⟨g91, hf⟩ := br_g hf
        obtain ⟨g93, hf⟩ := br_g hf
        obtain ⟨M93, e93⟩ : ∃ y : Mem, y = (sI M64 143 (ix ((x2 * (100 : Int32)) + v41)) ((M64.1 143 (ix ((x2 * (100 : Int32)) + v41))) - (M64.1 4 (ix x1)))) := ⟨_, rfl⟩
        have hf := nx_at e93 hf
        refine sm_I e93 (inS_up (L0 := [(143, 143, none)]) (by decide) (inS_n 143 _)) ?_
        exact sX1_markColumn_143_94 hf
    · have hf := (br_if hf).2 q7
      exact sX1_markColumn_143_10 hf
theorem ssX1_markColumn_143 {x1 : Int32} {x2 : Int32} {x3 : Int32} {M : Mem} {M1 : Mem} (h : fX1_markColumn_143 x1 x2 x3 M = some M1) : sm [(143, 143, none)] M M1 := sX1_markColumn_143_0 h
theorem sX1_markWithin_143_14 {M1 : Mem} {k41 : Int32 → Int32 → Int32 → Int32 → Mem → Option Mem} (hk41 : ∀ {x1 : Int32} {x2 : Int32} {x4 : Int32} {x5 : Int32} {M : Mem}, k41 x1 x2 x4 x5 M = some M1 → sm [(143, 143, none)] M M1) : ∀ (n : Nat) {x1 : Int32} {x2 : Int32} {x4 : Int32} {x5 : Int32} {M : Mem}, fX1_markWithin_143_14 k41 n x1 x2 x4 x5 M = some M1 → sm [(143, 143, none)] M M1 := by
  intro n
  induction n with
  | zero =>
    intro x1 x2 x4 x5 M hf
    exact absurd (show none = some _ from hf) (fun h => by cases h)
  | succ n ih =>
    intro x1 x2 x4 x5 M hf
    rw [fX1_markWithin_143_14] at hf
    by_cases q16 : x4 < 0
    · have hf := (br_if hf).1 q16
      exact hk41 hf
    · have hf := (br_if hf).2 q16
      obtain ⟨q28, c28, hf⟩ := br_b hf
      by_cases q32 : q28 ≤ x2
      · have hf := (br_if hf).1 q32
        exact hk41 hf
      · have hf := (br_if hf).2 q32
        obtain ⟨v35, e35⟩ : ∃ y : Int32, y = (x4 + (-1 : Int32)) := ⟨_, rfl⟩
        have hf := nx_at e35 hf
        exact ih hf
theorem sX1_markWithin_143_92 {M1 : Mem} {k7 : Int32 → Int32 → Int32 → Int32 → Mem → Option Mem} {k46 : Mem → Option Mem} {k98 : Mem → Option Mem} (hk7 : ∀ {x1 : Int32} {x2 : Int32} {x4 : Int32} {x5 : Int32} {M : Mem}, k7 x1 x2 x4 x5 M = some M1 → sm [(143, 143, none)] M M1) (hk46 : ∀ {M : Mem}, k46 M = some M1 → sm [(143, 143, none)] M M1) (hk98 : ∀ {M : Mem}, k98 M = some M1 → sm [(143, 143, none)] M M1) : ∀ {x1 : Int32} {x2 : Int32} {x4 : Int32} {x5 : Int32} {M : Mem}, fX1_markWithin_143_92 k7 k46 k98 x1 x2 x4 x5 M = some M1 → sm [(143, 143, none)] M M1 := by
  intro x1 x2 x4 x5 M hf
  unfold fX1_markWithin_143_92 at hf
  obtain ⟨v92, e92⟩ : ∃ y : Int32, y = (x5 + (1 : Int32)) := ⟨_, rfl⟩
  have hf := nx_at e92 hf
  exact hk7 hf
theorem sX1_markWithin_143_41 {M1 : Mem} {k7 : Int32 → Int32 → Int32 → Int32 → Mem → Option Mem} {k46 : Mem → Option Mem} {k98 : Mem → Option Mem} (hk7 : ∀ {x1 : Int32} {x2 : Int32} {x4 : Int32} {x5 : Int32} {M : Mem}, k7 x1 x2 x4 x5 M = some M1 → sm [(143, 143, none)] M M1) (hk46 : ∀ {M : Mem}, k46 M = some M1 → sm [(143, 143, none)] M M1) (hk98 : ∀ {M : Mem}, k98 M = some M1 → sm [(143, 143, none)] M M1) : ∀ {x1 : Int32} {x2 : Int32} {x4 : Int32} {x5 : Int32} {M : Mem}, fX1_markWithin_143_41 k7 k46 k98 x1 x2 x4 x5 M = some M1 → sm [(143, 143, none)] M M1 := by
  intro x1 x2 x4 x5 M hf
  unfold fX1_markWithin_143_41 at hf
  by_cases q43 : 0 ≤ x4
  · have hf := (br_if hf).1 q43
    obtain ⟨g57, hf⟩ := br_g hf
    obtain ⟨q64, c64, hf⟩ := br_b hf
    refine sm_tr (ssX1_markColumn_143 c64) (by decide) ?_
    by_cases q69 : x5 ≤ 0
    · have hf := (br_if hf).1 q69
      exact sX1_markWithin_143_92 (fun hf => hk7 hf) (fun hf => hk46 hf) (fun hf => hk98 hf) hf
    · have hf := (br_if hf).2 q69
      obtain ⟨g82, hf⟩ := br_g hf
      obtain ⟨q89, c89, hf⟩ := br_b hf
      refine sm_tr (ssX1_markColumn_143 c89) (by decide) ?_
      exact sX1_markWithin_143_92 (fun hf => hk7 hf) (fun hf => hk46 hf) (fun hf => hk98 hf) hf
  · have hf := (br_if hf).2 q43
    exact hk46 hf
theorem sX1_markWithin_143_7 {M1 : Mem} {k46 : Mem → Option Mem} {k98 : Mem → Option Mem} (hk46 : ∀ {M : Mem}, k46 M = some M1 → sm [(143, 143, none)] M M1) (hk98 : ∀ {M : Mem}, k98 M = some M1 → sm [(143, 143, none)] M M1) : ∀ (n : Nat) {x1 : Int32} {x2 : Int32} {x4 : Int32} {x5 : Int32} {M : Mem}, fX1_markWithin_143_7 k46 k98 n x1 x2 x4 x5 M = some M1 → sm [(143, 143, none)] M M1 := by
  intro n
  induction n with
  | zero =>
    intro x1 x2 x4 x5 M hf
    exact absurd (show none = some _ from hf) (fun h => by cases h)
  | succ n ih =>
    intro x1 x2 x4 x5 M hf
    rw [fX1_markWithin_143_7] at hf
    by_cases q11 : (100 : Int32) ≤ x5
    · have hf := (br_if hf).1 q11
      exact hk98 hf
    · have hf := (br_if hf).2 q11
      exact sX1_markWithin_143_14 (fun hf => sX1_markWithin_143_41 (fun hf => ih hf) (fun hf => hk46 hf) (fun hf => hk98 hf) hf) FU hf
theorem sX1_markWithin_143_46 {M1 : Mem} : ∀ {M : Mem}, fX1_markWithin_143_46 M = some M1 → sm [(143, 143, none)] M M1 := by
  intro M hf
  unfold fX1_markWithin_143_46 at hf
  cases hf
  exact sm_rf
theorem sX1_markWithin_143_98 {M1 : Mem} : ∀ {M : Mem}, fX1_markWithin_143_98 M = some M1 → sm [(143, 143, none)] M M1 := by
  intro M hf
  unfold fX1_markWithin_143_98 at hf
  cases hf
  exact sm_rf
theorem sX1_markWithin_143_0 {M1 : Mem} : ∀ {x1 : Int32} {x2 : Int32} {M : Mem}, fX1_markWithin_143 x1 x2 M = some M1 → sm [(143, 143, none)] M M1 := by
  intro x1 x2 M hf
  unfold fX1_markWithin_143 at hf
  exact sX1_markWithin_143_7 (fun hf => sX1_markWithin_143_46 hf) (fun hf => sX1_markWithin_143_98 hf) FU hf
theorem ssX1_markWithin_143 {x1 : Int32} {x2 : Int32} {M : Mem} {M1 : Mem} (h : fX1_markWithin_143 x1 x2 M = some M1) : sm [(143, 143, none)] M M1 := sX1_markWithin_143_0 h
theorem sX1_sumColumns_142_27 {M1 : Mem} {k2 : Int32 → Mem → Option Mem} {k33 : Mem → Option Mem} (hk2 : ∀ {x1 : Int32} {M : Mem}, k2 x1 M = some M1 → sm [(142, 142, none)] M M1) (hk33 : ∀ {M : Mem}, k33 M = some M1 → sm [(142, 142, none)] M M1) : ∀ {x1 : Int32} {M : Mem}, fX1_sumColumns_142_27 k2 k33 x1 M = some M1 → sm [(142, 142, none)] M M1 := by
  intro x1 M hf
  unfold fX1_sumColumns_142_27 at hf
  obtain ⟨v27, e27⟩ : ∃ y : Int32, y = (x1 + (1 : Int32)) := ⟨_, rfl⟩
  have hf := nx_at e27 hf
  exact hk2 hf
theorem sX1_sumColumns_142_2 {M1 : Mem} {k33 : Mem → Option Mem} (hk33 : ∀ {M : Mem}, k33 M = some M1 → sm [(142, 142, none)] M M1) : ∀ (n : Nat) {x1 : Int32} {M : Mem}, fX1_sumColumns_142_2 k33 n x1 M = some M1 → sm [(142, 142, none)] M M1 := by
  intro n
  induction n with
  | zero =>
    intro x1 M hf
    exact absurd (show none = some _ from hf) (fun h => by cases h)
  | succ n ih =>
    intro x1 M hf
    rw [fX1_sumColumns_142_2] at hf
    by_cases q6 : (10000 : Int32) ≤ x1
    · have hf := (br_if hf).1 q6
      exact hk33 hf
    · have hf := (br_if hf).2 q6
      by_cases q13 : (irm x1 (100 : Int32)) = 0
      · have hf := (br_if hf).1 q13
        exact sX1_sumColumns_142_27 (fun hf => ih hf) (fun hf => hk33 hf) hf
      · have hf := (br_if hf).2 q13
        obtain ⟨g19, hf⟩ := br_g hf
        obtain ⟨g24, hf⟩ := br_g hf
        obtain ⟨g26, hf⟩ := br_g hf
        obtain ⟨M26, e26⟩ : ∃ y : Mem, y = (sI M 142 (ix x1) ((M.1 142 (ix x1)) + (M.1 142 (ix (x1 - (1 : Int32)))))) := ⟨_, rfl⟩
        have hf := nx_at e26 hf
        refine sm_I e26 (inS_up (L0 := [(142, 142, none)]) (by decide) (inS_n 142 _)) ?_
        exact sX1_sumColumns_142_27 (fun hf => ih hf) (fun hf => hk33 hf) hf
theorem sX1_sumColumns_142_33 {M1 : Mem} : ∀ {M : Mem}, fX1_sumColumns_142_33 M = some M1 → sm [(142, 142, none)] M M1 := by
  intro M hf
  unfold fX1_sumColumns_142_33 at hf
  cases hf
  exact sm_rf
theorem sX1_sumColumns_142_0 {M1 : Mem} : ∀ {M : Mem}, fX1_sumColumns_142 M = some M1 → sm [(142, 142, none)] M M1 := by
  intro M hf
  unfold fX1_sumColumns_142 at hf
  exact sX1_sumColumns_142_2 (fun hf => sX1_sumColumns_142_33 hf) FU hf
theorem ssX1_sumColumns_142 {M : Mem} {M1 : Mem} (h : fX1_sumColumns_142 M = some M1) : sm [(142, 142, none)] M M1 := sX1_sumColumns_142_0 h
theorem sX1_sumColumns_143_27 {M1 : Mem} {k2 : Int32 → Mem → Option Mem} {k33 : Mem → Option Mem} (hk2 : ∀ {x1 : Int32} {M : Mem}, k2 x1 M = some M1 → sm [(143, 143, none)] M M1) (hk33 : ∀ {M : Mem}, k33 M = some M1 → sm [(143, 143, none)] M M1) : ∀ {x1 : Int32} {M : Mem}, fX1_sumColumns_143_27 k2 k33 x1 M = some M1 → sm [(143, 143, none)] M M1 := by
  intro x1 M hf
  unfold fX1_sumColumns_143_27 at hf
  obtain ⟨v27, e27⟩ : ∃ y : Int32, y = (x1 + (1 : Int32)) := ⟨_, rfl⟩
  have hf := nx_at e27 hf
  exact hk2 hf
theorem sX1_sumColumns_143_2 {M1 : Mem} {k33 : Mem → Option Mem} (hk33 : ∀ {M : Mem}, k33 M = some M1 → sm [(143, 143, none)] M M1) : ∀ (n : Nat) {x1 : Int32} {M : Mem}, fX1_sumColumns_143_2 k33 n x1 M = some M1 → sm [(143, 143, none)] M M1 := by
  intro n
  induction n with
  | zero =>
    intro x1 M hf
    exact absurd (show none = some _ from hf) (fun h => by cases h)
  | succ n ih =>
    intro x1 M hf
    rw [fX1_sumColumns_143_2] at hf
    by_cases q6 : (10000 : Int32) ≤ x1
    · have hf := (br_if hf).1 q6
      exact hk33 hf
    · have hf := (br_if hf).2 q6
      by_cases q13 : (irm x1 (100 : Int32)) = 0
      · have hf := (br_if hf).1 q13
        exact sX1_sumColumns_143_27 (fun hf => ih hf) (fun hf => hk33 hf) hf
      · have hf := (br_if hf).2 q13
        obtain ⟨g19, hf⟩ := br_g hf
        obtain ⟨g24, hf⟩ := br_g hf
        obtain ⟨g26, hf⟩ := br_g hf
        obtain ⟨M26, e26⟩ : ∃ y : Mem, y = (sI M 143 (ix x1) ((M.1 143 (ix x1)) + (M.1 143 (ix (x1 - (1 : Int32)))))) := ⟨_, rfl⟩
        have hf := nx_at e26 hf
        refine sm_I e26 (inS_up (L0 := [(143, 143, none)]) (by decide) (inS_n 143 _)) ?_
        exact sX1_sumColumns_143_27 (fun hf => ih hf) (fun hf => hk33 hf) hf
theorem sX1_sumColumns_143_33 {M1 : Mem} : ∀ {M : Mem}, fX1_sumColumns_143_33 M = some M1 → sm [(143, 143, none)] M M1 := by
  intro M hf
  unfold fX1_sumColumns_143_33 at hf
  cases hf
  exact sm_rf
theorem sX1_sumColumns_143_0 {M1 : Mem} : ∀ {M : Mem}, fX1_sumColumns_143 M = some M1 → sm [(143, 143, none)] M M1 := by
  intro M hf
  unfold fX1_sumColumns_143 at hf
  exact sX1_sumColumns_143_2 (fun hf => sX1_sumColumns_143_33 hf) FU hf
theorem ssX1_sumColumns_143 {M : Mem} {M1 : Mem} (h : fX1_sumColumns_143 M = some M1) : sm [(143, 143, none)] M M1 := sX1_sumColumns_143_0 h
theorem sX1_weigh_18 {M1 : Mem} {k71 : Mem → Option Mem} (hk71 : ∀ {M : Mem}, k71 M = some M1 → sm [(142, 143, none)] M M1) : ∀ (n : Nat) {x1 : Int32} {x2 : Int32} {x3 : Int32} {M : Mem}, fX1_weigh_18 k71 n x1 x2 x3 M = some M1 → sm [(142, 143, none)] M M1 := by
  intro n
  induction n with
  | zero =>
    intro x1 x2 x3 M hf
    exact absurd (show none = some _ from hf) (fun h => by cases h)
  | succ n ih =>
    intro x1 x2 x3 M hf
    rw [fX1_weigh_18] at hf
    by_cases q26 : (M.1 1 0) ≤ x3
    · have hf := (br_if hf).1 q26
      exact hk71 hf
    · have hf := (br_if hf).2 q26
      obtain ⟨q36, c36, hf⟩ := br_b hf
      obtain ⟨q51, c51, hf⟩ := br_b hf
      refine sm_tr (ssX1_markWithin_142 c51) (by decide) ?_
      obtain ⟨q62, c62, hf⟩ := br_b hf
      refine sm_tr (ssX1_markWithin_143 c62) (by decide) ?_
      obtain ⟨v65, e65⟩ : ∃ y : Int32, y = (x3 + (1 : Int32)) := ⟨_, rfl⟩
      have hf := nx_at e65 hf
      exact ih hf
theorem sX1_weigh_71 {M1 : Mem} : ∀ {M : Mem}, fX1_weigh_71 M = some M1 → sm [(142, 143, none)] M M1 := by
  intro M hf
  unfold fX1_weigh_71 at hf
  obtain ⟨q75, c75, hf⟩ := br_b hf
  refine sm_tr (ssX1_sumColumns_142 c75) (by decide) ?_
  obtain ⟨q82, c82, hf⟩ := br_b hf
  refine sm_tr (ssX1_sumColumns_143 c82) (by decide) ?_
  cases hf
  exact sm_rf
theorem sX1_weigh_0 {M1 : Mem} : ∀ {x1 : Int32} {x2 : Int32} {M : Mem}, fX1_weigh x1 x2 M = some M1 → sm [(142, 143, none)] M M1 := by
  intro x1 x2 M hf
  unfold fX1_weigh at hf
  obtain ⟨q5, c5, hf⟩ := br_b hf
  refine sm_tr (ssJ7_fill_53178 c5) (by decide) ?_
  obtain ⟨q13, c13, hf⟩ := br_b hf
  refine sm_tr (ssJ7_fill_53178 c13) (by decide) ?_
  exact sX1_weigh_18 (fun hf => sX1_weigh_71 hf) FU hf
theorem ssX1_weigh {x1 : Int32} {x2 : Int32} {M : Mem} {M1 : Mem} (h : fX1_weigh x1 x2 M = some M1) : sm [(142, 143, none)] M M1 := sX1_weigh_0 h
theorem sX1_lookFrom_152 {M1 : Mem} {k70 : Int32 → Mem → Option Mem} {k158 : Mem → Option Mem} (hk70 : ∀ {x4 : Int32} {M : Mem}, k70 x4 M = some M1 → sm [(142, 144, none), (141, 141, some 6), (141, 141, some 7), (141, 141, some 8), (141, 141, some 9), (141, 141, some 10)] M M1) (hk158 : ∀ {M : Mem}, k158 M = some M1 → sm [(142, 144, none), (141, 141, some 6), (141, 141, some 7), (141, 141, some 8), (141, 141, some 9), (141, 141, some 10)] M M1) : ∀ {x4 : Int32} {M : Mem}, fX1_lookFrom_152 k70 k158 x4 M = some M1 → sm [(142, 144, none), (141, 141, some 6), (141, 141, some 7), (141, 141, some 8), (141, 141, some 9), (141, 141, some 10)] M M1 := by
  intro x4 M hf
  unfold fX1_lookFrom_152 at hf
  obtain ⟨v152, e152⟩ : ∃ y : Int32, y = (x4 + (1 : Int32)) := ⟨_, rfl⟩
  have hf := nx_at e152 hf
  exact hk70 hf
theorem sX1_lookFrom_70 {M1 : Mem} {k158 : Mem → Option Mem} (hk158 : ∀ {M : Mem}, k158 M = some M1 → sm [(142, 144, none), (141, 141, some 6), (141, 141, some 7), (141, 141, some 8), (141, 141, some 9), (141, 141, some 10)] M M1) : ∀ (n : Nat) {x4 : Int32} {M : Mem}, fX1_lookFrom_70 k158 n x4 M = some M1 → sm [(142, 144, none), (141, 141, some 6), (141, 141, some 7), (141, 141, some 8), (141, 141, some 9), (141, 141, some 10)] M M1 := by
  intro n
  induction n with
  | zero =>
    intro x4 M hf
    exact absurd (show none = some _ from hf) (fun h => by cases h)
  | succ n ih =>
    intro x4 M hf
    rw [fX1_lookFrom_70] at hf
    by_cases q75 : (10000 : Int32) ≤ x4
    · have hf := (br_if hf).1 q75
      exact hk158 hf
    · have hf := (br_if hf).2 q75
      obtain ⟨g94, hf⟩ := br_g hf
      obtain ⟨g108, hf⟩ := br_g hf
      obtain ⟨q110, c110, hf⟩ := br_b hf
      obtain ⟨g113, hf⟩ := br_g hf
      obtain ⟨M113, e113⟩ : ∃ y : Mem, y = (sI M 144 (ix x4) (q110 &&& 1)) := ⟨_, rfl⟩
      have hf := nx_at e113 hf
      refine sm_I e113 (inS_up (L0 := [(144, 144, none)]) (by decide) (inS_n 144 _)) ?_
      obtain ⟨g125, hf⟩ := br_g hf
      obtain ⟨M129, e129⟩ : ∃ y : Mem, y = (sI M113 141 7 (imax (M113.1 141 7) (M113.1 142 (ix x4)))) := ⟨_, rfl⟩
      have hf := nx_at e129 hf
      refine sm_I e129 (inS_up (L0 := [(141, 141, some 7)]) (by decide) (inS_s 141 7)) ?_
      obtain ⟨g138, hf⟩ := br_g hf
      by_cases q139 : (M129.1 144 (ix x4)) = 0
      · have hf := (br_if hf).1 q139
        exact sX1_lookFrom_152 (fun hf => ih hf) (fun hf => hk158 hf) hf
      · have hf := (br_if hf).2 q139
        obtain ⟨M149, e149⟩ : ∃ y : Mem, y = (sI M129 141 6 ((M129.1 141 6) + (1 : Int32))) := ⟨_, rfl⟩
        have hf := nx_at e149 hf
        refine sm_I e149 (inS_up (L0 := [(141, 141, some 6)]) (by decide) (inS_s 141 6)) ?_
        exact sX1_lookFrom_152 (fun hf => ih hf) (fun hf => hk158 hf) hf
theorem sX1_lookFrom_158 {M1 : Mem} : ∀ {M : Mem}, fX1_lookFrom_158 M = some M1 → sm [(142, 144, none), (141, 141, some 6), (141, 141, some 7), (141, 141, some 8), (141, 141, some 9), (141, 141, some 10)] M M1 := by
  intro M hf
  unfold fX1_lookFrom_158 at hf
  cases hf
  exact sm_rf
theorem sX1_lookFrom_30 {M1 : Mem} : ∀ {x1 : Int32} {x2 : Int32} {x3 : Int32} {M : Mem}, fX1_lookFrom_30 x1 x2 x3 M = some M1 → sm [(142, 144, none), (141, 141, some 6), (141, 141, some 7), (141, 141, some 8), (141, 141, some 9), (141, 141, some 10)] M M1 := by
  intro x1 x2 x3 M hf
  unfold fX1_lookFrom_30 at hf
  obtain ⟨M32, e32⟩ : ∃ y : Mem, y = (sI M 141 9 x3) := ⟨_, rfl⟩
  have hf := nx_at e32 hf
  refine sm_I e32 (inS_up (L0 := [(141, 141, some 9)]) (by decide) (inS_s 141 9)) ?_
  obtain ⟨M43, e43⟩ : ∃ y : Mem, y = (sI M32 141 10 (M32.1 1 14)) := ⟨_, rfl⟩
  have hf := nx_at e43 hf
  refine sm_I e43 (inS_up (L0 := [(141, 141, some 10)]) (by decide) (inS_s 141 10)) ?_
  obtain ⟨M48, e48⟩ : ∃ y : Mem, y = (sI M43 141 8 (-1 : Int32)) := ⟨_, rfl⟩
  have hf := nx_at e48 hf
  refine sm_I e48 (inS_up (L0 := [(141, 141, some 8)]) (by decide) (inS_s 141 8)) ?_
  obtain ⟨q54, c54, hf⟩ := br_b hf
  refine sm_tr (ssX1_weigh c54) (by decide) ?_
  obtain ⟨M59, e59⟩ : ∃ y : Mem, y = (sI q54 141 6 (0 : Int32)) := ⟨_, rfl⟩
  have hf := nx_at e59 hf
  refine sm_I e59 (inS_up (L0 := [(141, 141, some 6)]) (by decide) (inS_s 141 6)) ?_
  obtain ⟨M64, e64⟩ : ∃ y : Mem, y = (sI M59 141 7 (0 : Int32)) := ⟨_, rfl⟩
  have hf := nx_at e64 hf
  refine sm_I e64 (inS_up (L0 := [(141, 141, some 7)]) (by decide) (inS_s 141 7)) ?_
  exact sX1_lookFrom_70 (fun hf => sX1_lookFrom_158 hf) FU hf
theorem sX1_lookFrom_0 {M1 : Mem} : ∀ {x1 : Int32} {x2 : Int32} {M : Mem}, fX1_lookFrom x1 x2 M = some M1 → sm [(142, 144, none), (141, 141, some 6), (141, 141, some 7), (141, 141, some 8), (141, 141, some 9), (141, 141, some 10)] M M1 := by
  intro x1 x2 M hf
  unfold fX1_lookFrom at hf
  obtain ⟨v6, e6⟩ : ∃ y : Int32, y = ((x1 * (100 : Int32)) + x2) := ⟨_, rfl⟩
  have hf := nx_at e6 hf
  by_cases q12 : (M.1 141 9) = v6
  · have hf := (br_if hf).1 q12
    by_cases q26 : (M.1 141 10) = (M.1 1 14)
    · have hf := (br_if hf).1 q26
      cases hf
      exact sm_rf
    · have hf := (br_if hf).2 q26
      exact sX1_lookFrom_30 hf
  · have hf := (br_if hf).2 q12
    exact sX1_lookFrom_30 hf
theorem ssX1_lookFrom {x1 : Int32} {x2 : Int32} {M : Mem} {M1 : Mem} (h : fX1_lookFrom x1 x2 M = some M1) : sm [(142, 144, none), (141, 141, some 6), (141, 141, some 7), (141, 141, some 8), (141, 141, some 9), (141, 141, some 10)] M M1 := sX1_lookFrom_0 h
theorem sX1_takePoint_16 {r : Int32} {M1 : Mem} : ∀ {x2 : Int32} {M : Mem}, fX1_takePoint_16 x2 M = some (r, M1) → sm [(144, 145, none)] M M1 := by
  intro x2 M hf
  unfold fX1_takePoint_16 at hf
  cases hf
  exact sm_rf
theorem sX1_takePoint_0 {r : Int32} {M1 : Mem} : ∀ {x1 : Int32} {x2 : Int32} {M : Mem}, fX1_takePoint x1 x2 M = some (r, M1) → sm [(144, 145, none)] M M1 := by
  intro x1 x2 M hf
  unfold fX1_takePoint at hf
  obtain ⟨g5, hf⟩ := br_g hf
  by_cases q6 : (M.1 144 (ix x1)) = 0
  · have hf := (br_if hf).1 q6
    exact sX1_takePoint_16 hf
  · have hf := (br_if hf).2 q6
    by_cases q13 : x2 < (10000 : Int32)
    · have hf := (br_if hf).1 q13
      obtain ⟨g24, hf⟩ := br_g hf
      obtain ⟨M24, e24⟩ : ∃ y : Mem, y = (sI M 144 (ix x1) ((0 : Int32) &&& 1)) := ⟨_, rfl⟩
      have hf := nx_at e24 hf
      refine sm_I e24 (inS_up (L0 := [(144, 144, none)]) (by decide) (inS_n 144 _)) ?_
      obtain ⟨g31, hf⟩ := br_g hf
      obtain ⟨M31, e31⟩ : ∃ y : Mem, y = (sI M24 145 (ix x2) x1) := ⟨_, rfl⟩
      have hf := nx_at e31 hf
      refine sm_I e31 (inS_up (L0 := [(145, 145, none)]) (by decide) (inS_n 145 _)) ?_
      cases hf
      exact sm_rf
    · have hf := (br_if hf).2 q13
      exact sX1_takePoint_16 hf
theorem ssX1_takePoint {x1 : Int32} {x2 : Int32} {M : Mem} {r : Int32} {M1 : Mem} (h : fX1_takePoint x1 x2 M = some (r, M1)) : sm [(144, 145, none)] M M1 := sX1_takePoint_0 h
theorem sX1_takePiece_108 {r : Int32} {M1 : Mem} {k10 : Int32 → Int32 → Mem → Option (Int32 × Mem)} {k114 : Int32 → Mem → Option (Int32 × Mem)} (hk10 : ∀ {x3 : Int32} {x4 : Int32} {M : Mem}, k10 x3 x4 M = some (r, M1) → sm [(144, 145, none)] M M1) (hk114 : ∀ {x3 : Int32} {M : Mem}, k114 x3 M = some (r, M1) → sm [(144, 145, none)] M M1) : ∀ {x3 : Int32} {x4 : Int32} {M : Mem}, fX1_takePiece_108 k10 k114 x3 x4 M = some (r, M1) → sm [(144, 145, none)] M M1 := by
  intro x3 x4 M hf
  unfold fX1_takePiece_108 at hf
  obtain ⟨v108, e108⟩ : ∃ y : Int32, y = (x4 + (1 : Int32)) := ⟨_, rfl⟩
  have hf := nx_at e108 hf
  exact hk10 hf
theorem sX1_takePiece_89 {r : Int32} {M1 : Mem} {k10 : Int32 → Int32 → Mem → Option (Int32 × Mem)} {k114 : Int32 → Mem → Option (Int32 × Mem)} (hk10 : ∀ {x3 : Int32} {x4 : Int32} {M : Mem}, k10 x3 x4 M = some (r, M1) → sm [(144, 145, none)] M M1) (hk114 : ∀ {x3 : Int32} {M : Mem}, k114 x3 M = some (r, M1) → sm [(144, 145, none)] M M1) : ∀ {x3 : Int32} {x4 : Int32} {x5 : Int32} {M : Mem}, fX1_takePiece_89 k10 k114 x3 x4 x5 M = some (r, M1) → sm [(144, 145, none)] M M1 := by
  intro x3 x4 x5 M hf
  unfold fX1_takePiece_89 at hf
  by_cases q94 : (9900 : Int32) ≤ x5
  · have hf := (br_if hf).1 q94
    exact sX1_takePiece_108 (fun hf => hk10 hf) (fun hf => hk114 hf) hf
  · have hf := (br_if hf).2 q94
    obtain ⟨q104, c104, hf⟩ := br_b hf
    refine sm_tr (ssX1_takePoint c104) (by decide) ?_
    obtain ⟨v107, e107⟩ : ∃ y : Int32, y = q104.1 := ⟨_, rfl⟩
    have hf := nx_at e107 hf
    exact sX1_takePiece_108 (fun hf => hk10 hf) (fun hf => hk114 hf) hf
theorem sX1_takePiece_71 {r : Int32} {M1 : Mem} {k10 : Int32 → Int32 → Mem → Option (Int32 × Mem)} {k114 : Int32 → Mem → Option (Int32 × Mem)} (hk10 : ∀ {x3 : Int32} {x4 : Int32} {M : Mem}, k10 x3 x4 M = some (r, M1) → sm [(144, 145, none)] M M1) (hk114 : ∀ {x3 : Int32} {M : Mem}, k114 x3 M = some (r, M1) → sm [(144, 145, none)] M M1) : ∀ {x3 : Int32} {x4 : Int32} {x5 : Int32} {M : Mem}, fX1_takePiece_71 k10 k114 x3 x4 x5 M = some (r, M1) → sm [(144, 145, none)] M M1 := by
  intro x3 x4 x5 M hf
  unfold fX1_takePiece_71 at hf
  by_cases q75 : x5 < (100 : Int32)
  · have hf := (br_if hf).1 q75
    exact sX1_takePiece_89 (fun hf => hk10 hf) (fun hf => hk114 hf) hf
  · have hf := (br_if hf).2 q75
    obtain ⟨q85, c85, hf⟩ := br_b hf
    refine sm_tr (ssX1_takePoint c85) (by decide) ?_
    obtain ⟨v88, e88⟩ : ∃ y : Int32, y = q85.1 := ⟨_, rfl⟩
    have hf := nx_at e88 hf
    exact sX1_takePiece_89 (fun hf => hk10 hf) (fun hf => hk114 hf) hf
theorem sX1_takePiece_51 {r : Int32} {M1 : Mem} {k10 : Int32 → Int32 → Mem → Option (Int32 × Mem)} {k114 : Int32 → Mem → Option (Int32 × Mem)} (hk10 : ∀ {x3 : Int32} {x4 : Int32} {M : Mem}, k10 x3 x4 M = some (r, M1) → sm [(144, 145, none)] M M1) (hk114 : ∀ {x3 : Int32} {M : Mem}, k114 x3 M = some (r, M1) → sm [(144, 145, none)] M M1) : ∀ {x3 : Int32} {x4 : Int32} {x5 : Int32} {M : Mem}, fX1_takePiece_51 k10 k114 x3 x4 x5 M = some (r, M1) → sm [(144, 145, none)] M M1 := by
  intro x3 x4 x5 M hf
  unfold fX1_takePiece_51 at hf
  by_cases q58 : (99 : Int32) ≤ (irm x5 (100 : Int32))
  · have hf := (br_if hf).1 q58
    exact sX1_takePiece_71 (fun hf => hk10 hf) (fun hf => hk114 hf) hf
  · have hf := (br_if hf).2 q58
    obtain ⟨q67, c67, hf⟩ := br_b hf
    refine sm_tr (ssX1_takePoint c67) (by decide) ?_
    obtain ⟨v70, e70⟩ : ∃ y : Int32, y = q67.1 := ⟨_, rfl⟩
    have hf := nx_at e70 hf
    exact sX1_takePiece_71 (fun hf => hk10 hf) (fun hf => hk114 hf) hf
theorem sX1_takePiece_10 {r : Int32} {M1 : Mem} {k114 : Int32 → Mem → Option (Int32 × Mem)} (hk114 : ∀ {x3 : Int32} {M : Mem}, k114 x3 M = some (r, M1) → sm [(144, 145, none)] M M1) : ∀ (n : Nat) {x3 : Int32} {x4 : Int32} {M : Mem}, fX1_takePiece_10 k114 n x3 x4 M = some (r, M1) → sm [(144, 145, none)] M M1 := by
  intro n
  induction n with
  | zero =>
    intro x3 x4 M hf
    exact absurd (show none = some _ from hf) (fun h => by cases h)
  | succ n ih =>
    intro x3 x4 M hf
    rw [fX1_takePiece_10] at hf
    by_cases q13 : x3 ≤ x4
    · have hf := (br_if hf).1 q13
      exact hk114 hf
    · have hf := (br_if hf).2 q13
      by_cases q21 : (10000 : Int32) ≤ x4
      · have hf := (br_if hf).1 q21
        exact hk114 hf
      · have hf := (br_if hf).2 q21
        obtain ⟨g30, hf⟩ := br_g hf
        obtain ⟨v31, e31⟩ : ∃ y : Int32, y = (M.1 145 (ix x4)) := ⟨_, rfl⟩
        have hf := nx_at e31 hf
        by_cases q38 : (irm v31 (100 : Int32)) ≤ 0
        · have hf := (br_if hf).1 q38
          exact sX1_takePiece_51 (fun hf => ih hf) (fun hf => hk114 hf) hf
        · have hf := (br_if hf).2 q38
          obtain ⟨q47, c47, hf⟩ := br_b hf
          refine sm_tr (ssX1_takePoint c47) (by decide) ?_
          obtain ⟨v50, e50⟩ : ∃ y : Int32, y = q47.1 := ⟨_, rfl⟩
          have hf := nx_at e50 hf
          exact sX1_takePiece_51 (fun hf => ih hf) (fun hf => hk114 hf) hf
theorem sX1_takePiece_114 {r : Int32} {M1 : Mem} : ∀ {x3 : Int32} {M : Mem}, fX1_takePiece_114 x3 M = some (r, M1) → sm [(144, 145, none)] M M1 := by
  intro x3 M hf
  unfold fX1_takePiece_114 at hf
  cases hf
  exact sm_rf
theorem sX1_takePiece_0 {r : Int32} {M1 : Mem} : ∀ {x1 : Int32} {x2 : Int32} {M : Mem}, fX1_takePiece x1 x2 M = some (r, M1) → sm [(144, 145, none)] M M1 := by
  intro x1 x2 M hf
  unfold fX1_takePiece at hf
  obtain ⟨q3, c3, hf⟩ := br_b hf
  refine sm_tr (ssX1_takePoint c3) (by decide) ?_
  obtain ⟨v6, e6⟩ : ∃ y : Int32, y = q3.1 := ⟨_, rfl⟩
  have hf := nx_at e6 hf
  exact sX1_takePiece_10 (fun hf => sX1_takePiece_114 hf) FU hf
theorem ssX1_takePiece {x1 : Int32} {x2 : Int32} {M : Mem} {r : Int32} {M1 : Mem} (h : fX1_takePiece x1 x2 M = some (r, M1)) : sm [(144, 145, none)] M M1 := sX1_takePiece_0 h
theorem sX1_cutPieces_71 {M1 : Mem} {k18 : Int32 → Int32 → Mem → Option Mem} {k77 : Int32 → Mem → Option Mem} (hk18 : ∀ {x1 : Int32} {x2 : Int32} {M : Mem}, k18 x1 x2 M = some M1 → sm [(144, 146, none), (141, 141, some 8)] M M1) (hk77 : ∀ {x1 : Int32} {M : Mem}, k77 x1 M = some M1 → sm [(144, 146, none), (141, 141, some 8)] M M1) : ∀ {x1 : Int32} {x2 : Int32} {M : Mem}, fX1_cutPieces_71 k18 k77 x1 x2 M = some M1 → sm [(144, 146, none), (141, 141, some 8)] M M1 := by
  intro x1 x2 M hf
  unfold fX1_cutPieces_71 at hf
  obtain ⟨v71, e71⟩ : ∃ y : Int32, y = (x2 + (1 : Int32)) := ⟨_, rfl⟩
  have hf := nx_at e71 hf
  exact hk18 hf
theorem sX1_cutPieces_18 {M1 : Mem} {k77 : Int32 → Mem → Option Mem} (hk77 : ∀ {x1 : Int32} {M : Mem}, k77 x1 M = some M1 → sm [(144, 146, none), (141, 141, some 8)] M M1) : ∀ (n : Nat) {x1 : Int32} {x2 : Int32} {M : Mem}, fX1_cutPieces_18 k77 n x1 x2 M = some M1 → sm [(144, 146, none), (141, 141, some 8)] M M1 := by
  intro n
  induction n with
  | zero =>
    intro x1 x2 M hf
    exact absurd (show none = some _ from hf) (fun h => by cases h)
  | succ n ih =>
    intro x1 x2 M hf
    rw [fX1_cutPieces_18] at hf
    by_cases q22 : (10000 : Int32) ≤ x2
    · have hf := (br_if hf).1 q22
      exact hk77 hf
    · have hf := (br_if hf).2 q22
      obtain ⟨g30, hf⟩ := br_g hf
      by_cases q31 : (M.1 144 (ix x2)) = 0
      · have hf := (br_if hf).1 q31
        exact sX1_cutPieces_71 (fun hf => ih hf) (fun hf => hk77 hf) hf
      · have hf := (br_if hf).2 q31
        by_cases q41 : (5000 : Int32) ≤ (M.1 141 8)
        · have hf := (br_if hf).1 q41
          exact sX1_cutPieces_71 (fun hf => ih hf) (fun hf => hk77 hf) hf
        · have hf := (br_if hf).2 q41
          obtain ⟨g53, hf⟩ := br_g hf
          obtain ⟨M53, e53⟩ : ∃ y : Mem, y = (sI M 146 (ix (M.1 141 8)) x1) := ⟨_, rfl⟩
          have hf := nx_at e53 hf
          refine sm_I e53 (inS_up (L0 := [(146, 146, none)]) (by decide) (inS_n 146 _)) ?_
          obtain ⟨q57, c57, hf⟩ := br_b hf
          refine sm_tr (ssX1_takePiece c57) (by decide) ?_
          obtain ⟨v60, e60⟩ : ∃ y : Int32, y = q57.1 := ⟨_, rfl⟩
          have hf := nx_at e60 hf
          obtain ⟨M68, e68⟩ : ∃ y : Mem, y = (sI q57.2 141 8 ((q57.2.1 141 8) + (1 : Int32))) := ⟨_, rfl⟩
          have hf := nx_at e68 hf
          refine sm_I e68 (inS_up (L0 := [(141, 141, some 8)]) (by decide) (inS_s 141 8)) ?_
          exact sX1_cutPieces_71 (fun hf => ih hf) (fun hf => hk77 hf) hf
theorem sX1_cutPieces_77 {M1 : Mem} : ∀ {x1 : Int32} {M : Mem}, fX1_cutPieces_77 x1 M = some M1 → sm [(144, 146, none), (141, 141, some 8)] M M1 := by
  intro x1 M hf
  unfold fX1_cutPieces_77 at hf
  obtain ⟨g86, hf⟩ := br_g hf
  obtain ⟨M86, e86⟩ : ∃ y : Mem, y = (sI M 146 (ix (M.1 141 8)) x1) := ⟨_, rfl⟩
  have hf := nx_at e86 hf
  refine sm_I e86 (inS_up (L0 := [(146, 146, none)]) (by decide) (inS_n 146 _)) ?_
  cases hf
  exact sm_rf
theorem sX1_cutPieces_0 {M1 : Mem} : ∀ {M : Mem}, fX1_cutPieces M = some M1 → sm [(144, 146, none), (141, 141, some 8)] M M1 := by
  intro M hf
  unfold fX1_cutPieces at hf
  by_cases q5 : (M.1 141 8) = (-1 : Int32)
  · have hf := (br_if hf).1 q5
    obtain ⟨M11, e11⟩ : ∃ y : Mem, y = (sI M 141 8 (0 : Int32)) := ⟨_, rfl⟩
    have hf := nx_at e11 hf
    refine sm_I e11 (inS_up (L0 := [(141, 141, some 8)]) (by decide) (inS_s 141 8)) ?_
    exact sX1_cutPieces_18 (fun hf => sX1_cutPieces_77 hf) FU hf
  · have hf := (br_if hf).2 q5
    cases hf
    exact sm_rf
theorem ssX1_cutPieces {M : Mem} {M1 : Mem} (h : fX1_cutPieces M = some M1) : sm [(144, 146, none), (141, 141, some 8)] M M1 := sX1_cutPieces_0 h
theorem sX1_refillWinning_2 {M1 : Mem} {k35 : Mem → Option Mem} (hk35 : ∀ {M : Mem}, k35 M = some M1 → sm [(144, 144, none)] M M1) : ∀ (n : Nat) {x1 : Int32} {M : Mem}, fX1_refillWinning_2 k35 n x1 M = some M1 → sm [(144, 144, none)] M M1 := by
  intro n
  induction n with
  | zero =>
    intro x1 M hf
    exact absurd (show none = some _ from hf) (fun h => by cases h)
  | succ n ih =>
    intro x1 M hf
    rw [fX1_refillWinning_2] at hf
    by_cases q7 : (M.1 141 6) ≤ x1
    · have hf := (br_if hf).1 q7
      exact hk35 hf
    · have hf := (br_if hf).2 q7
      by_cases q14 : (10000 : Int32) ≤ x1
      · have hf := (br_if hf).1 q14
        exact hk35 hf
      · have hf := (br_if hf).2 q14
        obtain ⟨g26, hf⟩ := br_g hf
        obtain ⟨g28, hf⟩ := br_g hf
        obtain ⟨M28, e28⟩ : ∃ y : Mem, y = (sI M 144 (ix (M.1 145 (ix x1))) ((1 : Int32) &&& 1)) := ⟨_, rfl⟩
        have hf := nx_at e28 hf
        refine sm_I e28 (inS_up (L0 := [(144, 144, none)]) (by decide) (inS_n 144 _)) ?_
        obtain ⟨v29, e29⟩ : ∃ y : Int32, y = (x1 + (1 : Int32)) := ⟨_, rfl⟩
        have hf := nx_at e29 hf
        exact ih hf
theorem sX1_refillWinning_35 {M1 : Mem} : ∀ {M : Mem}, fX1_refillWinning_35 M = some M1 → sm [(144, 144, none)] M M1 := by
  intro M hf
  unfold fX1_refillWinning_35 at hf
  cases hf
  exact sm_rf
theorem sX1_refillWinning_0 {M1 : Mem} : ∀ {M : Mem}, fX1_refillWinning M = some M1 → sm [(144, 144, none)] M M1 := by
  intro M hf
  unfold fX1_refillWinning at hf
  exact sX1_refillWinning_2 (fun hf => sX1_refillWinning_35 hf) FU hf
theorem ssX1_refillWinning {M : Mem} {M1 : Mem} (h : fX1_refillWinning M = some M1) : sm [(144, 144, none)] M M1 := sX1_refillWinning_0 h
theorem sX1_firstBeatenBy_68 {r : Int32} {M1 : Mem} {k20 : Int32 → Mem → Option (Int32 × Mem)} {k66 : Int32 → Mem → Option (Int32 × Mem)} {k74 : Mem → Option (Int32 × Mem)} (hk20 : ∀ {x3 : Int32} {M : Mem}, k20 x3 M = some (r, M1) → sm [(142, 144, none)] M M1) (hk66 : ∀ {x3 : Int32} {M : Mem}, k66 x3 M = some (r, M1) → sm [(142, 144, none)] M M1) (hk74 : ∀ {M : Mem}, k74 M = some (r, M1) → sm [(142, 144, none)] M M1) : ∀ {x3 : Int32} {M : Mem}, fX1_firstBeatenBy_68 k20 k66 k74 x3 M = some (r, M1) → sm [(142, 144, none)] M M1 := by
  intro x3 M hf
  unfold fX1_firstBeatenBy_68 at hf
  obtain ⟨v68, e68⟩ : ∃ y : Int32, y = (x3 + (1 : Int32)) := ⟨_, rfl⟩
  have hf := nx_at e68 hf
  exact hk20 hf
theorem sX1_firstBeatenBy_20 {r : Int32} {M1 : Mem} {k66 : Int32 → Mem → Option (Int32 × Mem)} {k74 : Mem → Option (Int32 × Mem)} (hk66 : ∀ {x3 : Int32} {M : Mem}, k66 x3 M = some (r, M1) → sm [(142, 144, none)] M M1) (hk74 : ∀ {M : Mem}, k74 M = some (r, M1) → sm [(142, 144, none)] M M1) : ∀ (n : Nat) {x3 : Int32} {M : Mem}, fX1_firstBeatenBy_20 k66 k74 n x3 M = some (r, M1) → sm [(142, 144, none)] M M1 := by
  intro n
  induction n with
  | zero =>
    intro x3 M hf
    exact absurd (show none = some _ from hf) (fun h => by cases h)
  | succ n ih =>
    intro x3 M hf
    rw [fX1_firstBeatenBy_20] at hf
    by_cases q24 : (10000 : Int32) ≤ x3
    · have hf := (br_if hf).1 q24
      exact hk74 hf
    · have hf := (br_if hf).2 q24
      obtain ⟨g32, hf⟩ := br_g hf
      by_cases q33 : (M.1 144 (ix x3)) = 0
      · have hf := (br_if hf).1 q33
        exact sX1_firstBeatenBy_68 (fun hf => ih hf) (fun hf => hk66 hf) (fun hf => hk74 hf) hf
      · have hf := (br_if hf).2 q33
        obtain ⟨g52, hf⟩ := br_g hf
        obtain ⟨g59, hf⟩ := br_g hf
        obtain ⟨q60, c60, hf⟩ := br_b hf
        by_cases q63 : q60 = 0
        · have hf := (br_if hf).1 q63
          exact sX1_firstBeatenBy_68 (fun hf => ih hf) (fun hf => hk66 hf) (fun hf => hk74 hf) hf
        · have hf := (br_if hf).2 q63
          exact hk66 hf
theorem sX1_firstBeatenBy_66 {r : Int32} {M1 : Mem} : ∀ {x3 : Int32} {M : Mem}, fX1_firstBeatenBy_66 x3 M = some (r, M1) → sm [(142, 144, none)] M M1 := by
  intro x3 M hf
  unfold fX1_firstBeatenBy_66 at hf
  cases hf
  exact sm_rf
theorem sX1_firstBeatenBy_74 {r : Int32} {M1 : Mem} : ∀ {M : Mem}, fX1_firstBeatenBy_74 M = some (r, M1) → sm [(142, 144, none)] M M1 := by
  intro M hf
  unfold fX1_firstBeatenBy_74 at hf
  cases hf
  exact sm_rf
theorem sX1_firstBeatenBy_12 {r : Int32} {M1 : Mem} : ∀ {x1 : Int32} {x2 : Int32} {M : Mem}, fX1_firstBeatenBy_12 x1 x2 M = some (r, M1) → sm [(142, 144, none)] M M1 := by
  intro x1 x2 M hf
  unfold fX1_firstBeatenBy_12 at hf
  obtain ⟨q15, c15, hf⟩ := br_b hf
  refine sm_tr (ssX1_weigh c15) (by decide) ?_
  exact sX1_firstBeatenBy_20 (fun hf => sX1_firstBeatenBy_66 hf) (fun hf => sX1_firstBeatenBy_74 hf) FU hf
theorem sX1_firstBeatenBy_0 {r : Int32} {M1 : Mem} : ∀ {x1 : Int32} {x2 : Int32} {M : Mem}, fX1_firstBeatenBy x1 x2 M = some (r, M1) → sm [(142, 144, none)] M M1 := by
  intro x1 x2 M hf
  unfold fX1_firstBeatenBy at hf
  by_cases q5 : (M.1 141 8) = (-1 : Int32)
  · have hf := (br_if hf).1 q5
    exact sX1_firstBeatenBy_12 hf
  · have hf := (br_if hf).2 q5
    obtain ⟨q9, c9, hf⟩ := br_b hf
    refine sm_tr (ssX1_refillWinning c9) (by decide) ?_
    exact sX1_firstBeatenBy_12 hf
theorem ssX1_firstBeatenBy {x1 : Int32} {x2 : Int32} {M : Mem} {r : Int32} {M1 : Mem} (h : fX1_firstBeatenBy x1 x2 M = some (r, M1)) : sm [(142, 144, none)] M M1 := sX1_firstBeatenBy_0 h
theorem sX10_fieldFrom_T_0 {M1 : Mem} : ∀ {x1 : Int32} {x2 : Int32} {M : Mem}, fX10_fieldFrom_T x1 x2 M = some M1 → sm [(142, 144, none), (141, 141, some 6), (141, 141, some 7), (141, 141, some 8), (141, 141, some 9), (141, 141, some 10)] M M1 := by
  intro x1 x2 M hf
  unfold fX10_fieldFrom_T at hf
  obtain ⟨q34, c34, hf⟩ := br_b hf
  refine sm_tr (ssX1_lookFrom c34) (by decide) ?_
  cases hf
  exact sm_rf
theorem ssX10_fieldFrom_T {x1 : Int32} {x2 : Int32} {M : Mem} {M1 : Mem} (h : fX10_fieldFrom_T x1 x2 M = some M1) : sm [(142, 144, none), (141, 141, some 6), (141, 141, some 7), (141, 141, some 8), (141, 141, some 9), (141, 141, some 10)] M M1 := sX10_fieldFrom_T_0 h
theorem mkF_sm (M : Mem) : sm [(141, 146, none)] M (mkF M) := by
  intro k j hb hk
  have h1 : ¬ (141 ≤ k ∧ k ≤ 146) := by
    intro h
    rw [inS_of (141, 146, none) (by decide) h.1 h.2 (Or.inl rfl)] at hk
    cases hk
  have h2 : ¬ 141 ≤ k := by omega
  have h3 : k ≠ 141 := by omega
  constructor <;> simp [mkF, mk0, sI, h2, h3]
theorem ssX10_fieldFrom_F {x1 x2 : Int32} {M M1 : Mem} (h : fX10_fieldFrom_F x1 x2 M = some M1) : sm [(141, 146, none)] M M1 := sm_tr (mkF_sm M) (by decide) (sm_tr (ssX1_lookFrom h) (by decide) sm_rf)
theorem sX10_winSet_T_27 {r : Int32} {M1 : Mem} : ∀ {M : Mem}, fX10_winSet_T_27 M = some (r, M1) → sm [(142, 146, none), (141, 141, some 6), (141, 141, some 7), (141, 141, some 8), (141, 141, some 9), (141, 141, some 10)] M M1 := by
  intro M hf
  unfold fX10_winSet_T_27 at hf
  cases hf
  exact sm_rf
theorem sX10_winSet_T_0 {r : Int32} {M1 : Mem} : ∀ {x1 : Int32} {x2 : Int32} {x3 : Int32} {M : Mem}, fX10_winSet_T x1 x2 x3 M = some (r, M1) → sm [(142, 146, none), (141, 141, some 6), (141, 141, some 7), (141, 141, some 8), (141, 141, some 9), (141, 141, some 10)] M M1 := by
  intro x1 x2 x3 M hf
  unfold fX10_winSet_T at hf
  by_cases q7 : (M.1 1 0) = 0
  · have hf := (br_if hf).1 q7
    exact sX10_winSet_T_27 hf
  · have hf := (br_if hf).2 q7
    obtain ⟨q12, c12, hf⟩ := br_b hf
    by_cases q15 : q12 = 0
    · have hf := (br_if hf).1 q15
      exact sX10_winSet_T_27 hf
    · have hf := (br_if hf).2 q15
      by_cases q19 : x3 < 0
      · have hf := (br_if hf).1 q19
        exact sX10_winSet_T_27 hf
      · have hf := (br_if hf).2 q19
        by_cases q24 : x3 ≤ (1 : Int32)
        · have hf := (br_if hf).1 q24
          obtain ⟨q32, c32, hf⟩ := br_b hf
          refine sm_tr (ssX10_fieldFrom_T c32) (by decide) ?_
          by_cases q38 : x3 = 0
          · have hf := (br_if hf).1 q38
            cases hf
            exact sm_rf
          · have hf := (br_if hf).2 q38
            obtain ⟨q49, c49, hf⟩ := br_b hf
            refine sm_tr (ssX1_cutPieces c49) (by decide) ?_
            cases hf
            exact sm_rf
        · have hf := (br_if hf).2 q24
          exact sX10_winSet_T_27 hf
theorem ssX10_winSet_T {x1 : Int32} {x2 : Int32} {x3 : Int32} {M : Mem} {r : Int32} {M1 : Mem} (h : fX10_winSet_T x1 x2 x3 M = some (r, M1)) : sm [(142, 146, none), (141, 141, some 6), (141, 141, some 7), (141, 141, some 8), (141, 141, some 9), (141, 141, some 10)] M M1 := sX10_winSet_T_0 h
theorem sX10_winSet_F_27 {r : Int32} {M1 : Mem} : ∀ {M : Mem}, fX10_winSet_F_27 M = some (r, M1) → sm [(141, 146, none), (141, 141, some 8)] M M1 := by
  intro M hf
  unfold fX10_winSet_F_27 at hf
  cases hf
theorem sX10_winSet_F_0 {r : Int32} {M1 : Mem} : ∀ {x1 : Int32} {x2 : Int32} {x3 : Int32} {M : Mem}, fX10_winSet_F x1 x2 x3 M = some (r, M1) → sm [(141, 146, none), (141, 141, some 8)] M M1 := by
  intro x1 x2 x3 M hf
  unfold fX10_winSet_F at hf
  by_cases q7 : (M.1 1 0) = 0
  · have hf := (br_if hf).1 q7
    exact sX10_winSet_F_27 hf
  · have hf := (br_if hf).2 q7
    obtain ⟨q12, c12, hf⟩ := br_b hf
    by_cases q15 : q12 = 0
    · have hf := (br_if hf).1 q15
      exact sX10_winSet_F_27 hf
    · have hf := (br_if hf).2 q15
      by_cases q19 : x3 < 0
      · have hf := (br_if hf).1 q19
        exact sX10_winSet_F_27 hf
      · have hf := (br_if hf).2 q19
        by_cases q24 : x3 ≤ (1 : Int32)
        · have hf := (br_if hf).1 q24
          obtain ⟨q32, c32, hf⟩ := br_b hf
          refine sm_tr (ssX10_fieldFrom_F c32) (by decide) ?_
          by_cases q38 : x3 = 0
          · have hf := (br_if hf).1 q38
            cases hf
            exact sm_rf
          · have hf := (br_if hf).2 q38
            obtain ⟨q49, c49, hf⟩ := br_b hf
            refine sm_tr (ssX1_cutPieces c49) (by decide) ?_
            cases hf
            exact sm_rf
        · have hf := (br_if hf).2 q24
          exact sX10_winSet_F_27 hf
theorem ssX10_winSet_F {x1 : Int32} {x2 : Int32} {x3 : Int32} {M : Mem} {r : Int32} {M1 : Mem} (h : fX10_winSet_F x1 x2 x3 M = some (r, M1)) : sm [(141, 146, none), (141, 141, some 8)] M M1 := sX10_winSet_F_0 h
theorem sX10_piece_T_33 {r : Int32} {M1 : Mem} : ∀ {M : Mem}, fX10_piece_T_33 M = some (r, M1) → sm [(142, 146, none), (141, 141, some 6), (141, 141, some 7), (141, 141, some 8), (141, 141, some 9), (141, 141, some 10)] M M1 := by
  intro M hf
  unfold fX10_piece_T_33 at hf
  cases hf
  exact sm_rf
theorem sX10_piece_T_98 {r : Int32} {M1 : Mem} : ∀ {s0 : Int32} {M : Mem}, fX10_piece_T_98 s0 M = some (r, M1) → sm [(142, 146, none), (141, 141, some 6), (141, 141, some 7), (141, 141, some 8), (141, 141, some 9), (141, 141, some 10)] M M1 := by
  intro s0 M hf
  unfold fX10_piece_T_98 at hf
  cases hf
  exact sm_rf
theorem sX10_piece_T_0 {r : Int32} {M1 : Mem} : ∀ {x1 : Int32} {x2 : Int32} {x3 : Int32} {x4 : Int32} {M : Mem}, fX10_piece_T x1 x2 x3 x4 M = some (r, M1) → sm [(142, 146, none), (141, 141, some 6), (141, 141, some 7), (141, 141, some 8), (141, 141, some 9), (141, 141, some 10)] M M1 := by
  intro x1 x2 x3 x4 M hf
  unfold fX10_piece_T at hf
  by_cases q7 : (M.1 1 0) = 0
  · have hf := (br_if hf).1 q7
    exact sX10_piece_T_33 hf
  · have hf := (br_if hf).2 q7
    obtain ⟨q12, c12, hf⟩ := br_b hf
    by_cases q15 : q12 = 0
    · have hf := (br_if hf).1 q15
      exact sX10_piece_T_33 hf
    · have hf := (br_if hf).2 q15
      by_cases q20 : x4 < 0
      · have hf := (br_if hf).1 q20
        exact sX10_piece_T_33 hf
      · have hf := (br_if hf).2 q20
        by_cases q26 : (2 : Int32) < x4
        · have hf := (br_if hf).1 q26
          exact sX10_piece_T_33 hf
        · have hf := (br_if hf).2 q26
          by_cases q30 : 0 ≤ x3
          · have hf := (br_if hf).1 q30
            obtain ⟨q38, c38, hf⟩ := br_b hf
            refine sm_tr (ssX10_fieldFrom_T c38) (by decide) ?_
            obtain ⟨q45, c45, hf⟩ := br_b hf
            refine sm_tr (ssX1_cutPieces c45) (by decide) ?_
            by_cases q54 : x3 < (q45.1 141 8)
            · have hf := (br_if hf).1 q54
              by_cases q62 : x4 = (2 : Int32)
              · have hf := (br_if hf).1 q62
                obtain ⟨q68, c68, hf⟩ := br_b hf
                cases hf
                exact sm_rf
              · have hf := (br_if hf).2 q62
                obtain ⟨q75, c75, hf⟩ := br_b hf
                by_cases q82 : x4 = 0
                · have hf := (br_if hf).1 q82
                  exact sX10_piece_T_98 hf
                · have hf := (br_if hf).2 q82
                  exact sX10_piece_T_98 hf
            · have hf := (br_if hf).2 q54
              cases hf
              exact sm_rf
          · have hf := (br_if hf).2 q30
            exact sX10_piece_T_33 hf
theorem ssX10_piece_T {x1 : Int32} {x2 : Int32} {x3 : Int32} {x4 : Int32} {M : Mem} {r : Int32} {M1 : Mem} (h : fX10_piece_T x1 x2 x3 x4 M = some (r, M1)) : sm [(142, 146, none), (141, 141, some 6), (141, 141, some 7), (141, 141, some 8), (141, 141, some 9), (141, 141, some 10)] M M1 := sX10_piece_T_0 h
theorem sX10_piece_F_33 {r : Int32} {M1 : Mem} : ∀ {M : Mem}, fX10_piece_F_33 M = some (r, M1) → sm [(141, 146, none), (141, 141, some 8)] M M1 := by
  intro M hf
  unfold fX10_piece_F_33 at hf
  cases hf
theorem sX10_piece_F_98 {r : Int32} {M1 : Mem} : ∀ {s0 : Int32} {M : Mem}, fX10_piece_F_98 s0 M = some (r, M1) → sm [(141, 146, none), (141, 141, some 8)] M M1 := by
  intro s0 M hf
  unfold fX10_piece_F_98 at hf
  cases hf
  exact sm_rf
theorem sX10_piece_F_0 {r : Int32} {M1 : Mem} : ∀ {x1 : Int32} {x2 : Int32} {x3 : Int32} {x4 : Int32} {M : Mem}, fX10_piece_F x1 x2 x3 x4 M = some (r, M1) → sm [(141, 146, none), (141, 141, some 8)] M M1 := by
  intro x1 x2 x3 x4 M hf
  unfold fX10_piece_F at hf
  by_cases q7 : (M.1 1 0) = 0
  · have hf := (br_if hf).1 q7
    exact sX10_piece_F_33 hf
  · have hf := (br_if hf).2 q7
    obtain ⟨q12, c12, hf⟩ := br_b hf
    by_cases q15 : q12 = 0
    · have hf := (br_if hf).1 q15
      exact sX10_piece_F_33 hf
    · have hf := (br_if hf).2 q15
      by_cases q20 : x4 < 0
      · have hf := (br_if hf).1 q20
        exact sX10_piece_F_33 hf
      · have hf := (br_if hf).2 q20
        by_cases q26 : (2 : Int32) < x4
        · have hf := (br_if hf).1 q26
          exact sX10_piece_F_33 hf
        · have hf := (br_if hf).2 q26
          by_cases q30 : 0 ≤ x3
          · have hf := (br_if hf).1 q30
            obtain ⟨q38, c38, hf⟩ := br_b hf
            refine sm_tr (ssX10_fieldFrom_F c38) (by decide) ?_
            obtain ⟨q45, c45, hf⟩ := br_b hf
            refine sm_tr (ssX1_cutPieces c45) (by decide) ?_
            by_cases q54 : x3 < (q45.1 141 8)
            · have hf := (br_if hf).1 q54
              by_cases q62 : x4 = (2 : Int32)
              · have hf := (br_if hf).1 q62
                obtain ⟨q68, c68, hf⟩ := br_b hf
                cases hf
                exact sm_rf
              · have hf := (br_if hf).2 q62
                obtain ⟨q75, c75, hf⟩ := br_b hf
                by_cases q82 : x4 = 0
                · have hf := (br_if hf).1 q82
                  exact sX10_piece_F_98 hf
                · have hf := (br_if hf).2 q82
                  exact sX10_piece_F_98 hf
            · have hf := (br_if hf).2 q54
              cases hf
              exact sm_rf
          · have hf := (br_if hf).2 q30
            exact sX10_piece_F_33 hf
theorem ssX10_piece_F {x1 : Int32} {x2 : Int32} {x3 : Int32} {x4 : Int32} {M : Mem} {r : Int32} {M1 : Mem} (h : fX10_piece_F x1 x2 x3 x4 M = some (r, M1)) : sm [(141, 146, none), (141, 141, some 8)] M M1 := sX10_piece_F_0 h
theorem sX10_most_T_18 {r : Int32} {M1 : Mem} : ∀ {M : Mem}, fX10_most_T_18 M = some (r, M1) → sm [(142, 144, none), (141, 141, some 6), (141, 141, some 7), (141, 141, some 8), (141, 141, some 9), (141, 141, some 10)] M M1 := by
  intro M hf
  unfold fX10_most_T_18 at hf
  cases hf
  exact sm_rf
theorem sX10_most_T_0 {r : Int32} {M1 : Mem} : ∀ {x1 : Int32} {x2 : Int32} {M : Mem}, fX10_most_T x1 x2 M = some (r, M1) → sm [(142, 144, none), (141, 141, some 6), (141, 141, some 7), (141, 141, some 8), (141, 141, some 9), (141, 141, some 10)] M M1 := by
  intro x1 x2 M hf
  unfold fX10_most_T at hf
  by_cases q7 : (M.1 1 0) = 0
  · have hf := (br_if hf).1 q7
    exact sX10_most_T_18 hf
  · have hf := (br_if hf).2 q7
    obtain ⟨q12, c12, hf⟩ := br_b hf
    by_cases q15 : q12 = 0
    · have hf := (br_if hf).1 q15
      exact sX10_most_T_18 hf
    · have hf := (br_if hf).2 q15
      obtain ⟨q23, c23, hf⟩ := br_b hf
      refine sm_tr (ssX10_fieldFrom_T c23) (by decide) ?_
      cases hf
      exact sm_rf
theorem ssX10_most_T {x1 : Int32} {x2 : Int32} {M : Mem} {r : Int32} {M1 : Mem} (h : fX10_most_T x1 x2 M = some (r, M1)) : sm [(142, 144, none), (141, 141, some 6), (141, 141, some 7), (141, 141, some 8), (141, 141, some 9), (141, 141, some 10)] M M1 := sX10_most_T_0 h
theorem sX10_most_F_18 {r : Int32} {M1 : Mem} : ∀ {M : Mem}, fX10_most_F_18 M = some (r, M1) → sm [(141, 146, none)] M M1 := by
  intro M hf
  unfold fX10_most_F_18 at hf
  cases hf
theorem sX10_most_F_0 {r : Int32} {M1 : Mem} : ∀ {x1 : Int32} {x2 : Int32} {M : Mem}, fX10_most_F x1 x2 M = some (r, M1) → sm [(141, 146, none)] M M1 := by
  intro x1 x2 M hf
  unfold fX10_most_F at hf
  by_cases q7 : (M.1 1 0) = 0
  · have hf := (br_if hf).1 q7
    exact sX10_most_F_18 hf
  · have hf := (br_if hf).2 q7
    obtain ⟨q12, c12, hf⟩ := br_b hf
    by_cases q15 : q12 = 0
    · have hf := (br_if hf).1 q15
      exact sX10_most_F_18 hf
    · have hf := (br_if hf).2 q15
      obtain ⟨q23, c23, hf⟩ := br_b hf
      refine sm_tr (ssX10_fieldFrom_F c23) (by decide) ?_
      cases hf
      exact sm_rf
theorem ssX10_most_F {x1 : Int32} {x2 : Int32} {M : Mem} {r : Int32} {M1 : Mem} (h : fX10_most_F x1 x2 M = some (r, M1)) : sm [(141, 146, none)] M M1 := sX10_most_F_0 h
theorem sX10_between_T_22 {r : Int32} {M1 : Mem} : ∀ {M : Mem}, fX10_between_T_22 M = some (r, M1) → sm [(142, 144, none), (141, 141, some 6), (141, 141, some 7), (141, 141, some 8), (141, 141, some 9), (141, 141, some 10)] M M1 := by
  intro M hf
  unfold fX10_between_T_22 at hf
  cases hf
  exact sm_rf
theorem sX10_between_T_0 {r : Int32} {M1 : Mem} : ∀ {x1 : Int32} {x2 : Int32} {M : Mem}, fX10_between_T x1 x2 M = some (r, M1) → sm [(142, 144, none), (141, 141, some 6), (141, 141, some 7), (141, 141, some 8), (141, 141, some 9), (141, 141, some 10)] M M1 := by
  intro x1 x2 M hf
  unfold fX10_between_T at hf
  obtain ⟨q5, c5, hf⟩ := br_b hf
  by_cases q8 : q5 = 0
  · have hf := (br_if hf).1 q8
    exact sX10_between_T_22 hf
  · have hf := (br_if hf).2 q8
    obtain ⟨q16, c16, hf⟩ := br_b hf
    by_cases q19 : q16 = 0
    · have hf := (br_if hf).1 q19
      exact sX10_between_T_22 hf
    · have hf := (br_if hf).2 q19
      obtain ⟨g33, hf⟩ := br_g hf
      obtain ⟨g42, hf⟩ := br_g hf
      obtain ⟨q43, c43, hf⟩ := br_b hf
      refine sm_tr (ssX10_fieldFrom_T c43) (by decide) ?_
      obtain ⟨g56, hf⟩ := br_g hf
      obtain ⟨g65, hf⟩ := br_g hf
      obtain ⟨q66, c66, hf⟩ := br_b hf
      refine sm_tr (ssX1_firstBeatenBy c66) (by decide) ?_
      cases hf
      exact sm_rf
theorem ssX10_between_T {x1 : Int32} {x2 : Int32} {M : Mem} {r : Int32} {M1 : Mem} (h : fX10_between_T x1 x2 M = some (r, M1)) : sm [(142, 144, none), (141, 141, some 6), (141, 141, some 7), (141, 141, some 8), (141, 141, some 9), (141, 141, some 10)] M M1 := sX10_between_T_0 h
theorem sX10_between_F_22 {r : Int32} {M1 : Mem} : ∀ {M : Mem}, fX10_between_F_22 M = some (r, M1) → sm [(141, 146, none)] M M1 := by
  intro M hf
  unfold fX10_between_F_22 at hf
  cases hf
theorem sX10_between_F_0 {r : Int32} {M1 : Mem} : ∀ {x1 : Int32} {x2 : Int32} {M : Mem}, fX10_between_F x1 x2 M = some (r, M1) → sm [(141, 146, none)] M M1 := by
  intro x1 x2 M hf
  unfold fX10_between_F at hf
  obtain ⟨q5, c5, hf⟩ := br_b hf
  by_cases q8 : q5 = 0
  · have hf := (br_if hf).1 q8
    exact sX10_between_F_22 hf
  · have hf := (br_if hf).2 q8
    obtain ⟨q16, c16, hf⟩ := br_b hf
    by_cases q19 : q16 = 0
    · have hf := (br_if hf).1 q19
      exact sX10_between_F_22 hf
    · have hf := (br_if hf).2 q19
      obtain ⟨g33, hf⟩ := br_g hf
      obtain ⟨g42, hf⟩ := br_g hf
      obtain ⟨q43, c43, hf⟩ := br_b hf
      refine sm_tr (ssX10_fieldFrom_F c43) (by decide) ?_
      obtain ⟨g56, hf⟩ := br_g hf
      obtain ⟨g65, hf⟩ := br_g hf
      obtain ⟨q66, c66, hf⟩ := br_b hf
      refine sm_tr (ssX1_firstBeatenBy c66) (by decide) ?_
      cases hf
      exact sm_rf
theorem ssX10_between_F {x1 : Int32} {x2 : Int32} {M : Mem} {r : Int32} {M1 : Mem} (h : fX10_between_F x1 x2 M = some (r, M1)) : sm [(141, 146, none)] M M1 := sX10_between_F_0 h
