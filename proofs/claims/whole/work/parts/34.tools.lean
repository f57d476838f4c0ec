/-! memories that are alike outside what was written; loops over the memory -/
def dj (L R : Rg) : Bool := L.all (fun p => R.all (fun q => decide (p.2.1 < q.1) || (decide (q.2.1 < p.1) || (match p.2.2, q.2.2 with | some i, some j => i != j | _, _ => false))))
theorem dj_in {L R : Rg} (h : dj L R = true) {k j : Nat} (hk : inS R k j = true) : inS L k j = false := by
  cases hc : inS L k j with
  | false => rfl
  | true =>
    obtain ⟨q, hq, h2⟩ := List.any_eq_true.mp hk
    obtain ⟨p, hp, h1⟩ := List.any_eq_true.mp hc
    have h3 := List.all_eq_true.mp (List.all_eq_true.mp h p hp) q hq
    simp only [Bool.and_eq_true, Bool.or_eq_true, decide_eq_true_eq] at h1 h2 h3
    rcases h3 with h3 | h3 | h3
    · omega
    · omega
    · obtain ⟨-, -, h1⟩ := h1
      obtain ⟨-, -, h2⟩ := h2
      cases hp2 : p.2.2 with
      | none => rw [hp2] at h3; cases h3
      | some a =>
        cases hq2 : q.2.2 with
        | none => rw [hp2, hq2] at h3; cases h3
        | some b =>
          rw [hp2] at h1; rw [hq2] at h2; rw [hp2, hq2] at h3
          simp at h1 h2 h3
          omega
/-- the memories agree on R -/
def on (R : Rg) (M M1 : Mem) : Prop := ∀ k j, inS R k j = true → M1.1 k j = M.1 k j ∧ M1.2 k j = M.2 k j
def ltR (R : Rg) : Bool := R.all (fun p => decide (p.2.1 < 147))
theorem sm.on {L : Rg} {M M1 : Mem} (h : sm L M M1) (R : Rg) (hd : dj L R = true) (hl : ltR R = true) : on R M M1 := by
  intro k j hk
  refine h k j ?_ (dj_in hd hk)
  obtain ⟨q, hq, h2⟩ := List.any_eq_true.mp hk
  have := List.all_eq_true.mp hl q hq
  simp only [Bool.and_eq_true, decide_eq_true_eq] at h2 this
  omega
theorem on.i {R : Rg} {M M1 : Mem} (h : on R M M1) (k j : Nat) (hk : inS R k j = true) : M1.1 k j = M.1 k j := (h k j hk).1
theorem on.l {R : Rg} {M M1 : Mem} (h : on R M M1) (k j : Nat) (hk : inS R k j = true) : M1.2 k j = M.2 k j := (h k j hk).2
theorem on.row {R : Rg} {M M1 : Mem} (h : on R M M1) (k : Nat) (hk : ∀ j, inS R k j = true) : M1.1 k = M.1 k := funext fun j => (h k j (hk j)).1
theorem on.rowL {R : Rg} {M M1 : Mem} (h : on R M M1) (k : Nat) (hk : ∀ j, inS R k j = true) : M1.2 k = M.2 k := funext fun j => (h k j (hk j)).2
theorem on.tr {R : Rg} {M M2 M1 : Mem} (h : on R M M2) (h1 : on R M2 M1) : on R M M1 := fun k j hk => ⟨(h1 k j hk).1.trans (h k j hk).1, (h1 k j hk).2.trans (h k j hk).2⟩
theorem on.sub {R R1 : Rg} {M M1 : Mem} (h : on R M M1) (hs : subS R1 R = true) : on R1 M M1 := fun k j hk => h k j (inS_up hs hk)
theorem on.rf {R : Rg} {M : Mem} : on R M M := fun _ _ _ => ⟨rfl, rfl⟩
theorem sm.tr {L : Rg} {M M2 M1 : Mem} (h : sm L M M2) (h1 : sm L M2 M1) : sm L M M1 := fun k j hb hk => ⟨(h1 k j hb hk).1.trans (h k j hb hk).1, (h1 k j hb hk).2.trans (h k j hb hk).2⟩
theorem sm.up {L L1 : Rg} {M M1 : Mem} (h : sm L M M1) (hs : subS L L1 = true) : sm L1 M M1 := fun k j hb hk => h k j hb (subS_in hs hk)
theorem sm.I {L : Rg} {M M1 : Mem} {k j : Nat} {v : Int32} (h : sm L M M1) (hk : inS L k j = true) : sm L M (sI M1 k j v) := h.tr (sm_I rfl hk sm_rf)
theorem sm.Lg {L : Rg} {M M1 : Mem} {k j : Nat} {v : Int64} (h : sm L M M1) (hk : inS L k j = true) : sm L M (sL M1 k j v) := h.tr (sm_L rfl hk sm_rf)
theorem sI_at (M : Mem) (k j : Nat) (v : Int32) : (sI M k j v).1 k j = v := by simp [sI]
theorem sI_ne (M : Mem) {k j a i : Nat} (v : Int32) (h : ¬ (a = k ∧ i = j)) : (sI M k j v).1 a i = M.1 a i := by
  show (if a = k ∧ i = j then v else M.1 a i) = _
  rw [if_neg h]
theorem sI_nk (M : Mem) {k j a i : Nat} (v : Int32) (h : a ≠ k) : (sI M k j v).1 a i = M.1 a i := sI_ne M v (fun q => h q.1)
theorem sI_nj (M : Mem) {k j a i : Nat} (v : Int32) (h : i ≠ j) : (sI M k j v).1 a i = M.1 a i := sI_ne M v (fun q => h q.2)
theorem sL_at (M : Mem) (k j : Nat) (v : Int64) : (sL M k j v).2 k j = v := by simp [sL]
theorem sL_ne (M : Mem) {k j a i : Nat} (v : Int64) (h : ¬ (a = k ∧ i = j)) : (sL M k j v).2 a i = M.2 a i := by
  show (if a = k ∧ i = j then v else M.2 a i) = _
  rw [if_neg h]
theorem sI_l (M : Mem) (k j : Nat) (v : Int32) : (sI M k j v).2 = M.2 := rfl
theorem sL_i (M : Mem) (k j : Nat) (v : Int64) : (sL M k j v).1 = M.1 := rfl
/-- a loop, by what holds at its head -/
theorem for_ex {σ ρ : Type} (L : Nat → Int32 → σ → ρ) (k : σ → ρ) (n : Nat) (I : Nat → σ → Prop)
    (hs : ∀ f i s, i < n → I i s → ∃ s1, L (f + 1) (nI i) s = L f (nI (i + 1)) s1 ∧ I (i + 1) s1) (he : ∀ f s, I n s → L (f + 1) (nI n) s = k s) (s0 : σ) (h0 : I 0 s0) (f : Nat) (hf : n < f) :
    ∃ s, L f (nI 0) s0 = k s ∧ I n s := by
  have hi : ∀ i, i ≤ n → ∃ s, I i s ∧ L f (nI 0) s0 = L (f - i) (nI i) s := by
    intro i
    induction i with
    | zero => intro _; exact ⟨s0, h0, rfl⟩
    | succ i ih =>
      intro hin
      obtain ⟨s, h1, h2⟩ := ih (by omega)
      have e : f - i = (f - (i + 1)) + 1 := by omega
      rw [e] at h2
      obtain ⟨s1, h3, h4⟩ := hs (f - (i + 1)) i s (by omega) h1
      exact ⟨s1, h4, h2.trans h3⟩
  obtain ⟨s, h1, h2⟩ := hi n (Nat.le_refl n)
  refine ⟨s, h2.trans ?_, h1⟩
  have e : f - n = (f - n - 1) + 1 := by omega
  rw [e, he _ _ h1]
/-- the same from any place on -/
theorem for_exF {σ ρ : Type} (L : Nat → Int32 → σ → ρ) (k : σ → ρ) (a n : Nat) (ha : a ≤ n) (I : Nat → σ → Prop)
    (hs : ∀ f i s, a ≤ i → i < n → I i s → ∃ s1, L (f + 1) (nI i) s = L f (nI (i + 1)) s1 ∧ I (i + 1) s1) (he : ∀ f s, I n s → L (f + 1) (nI n) s = k s) (s0 : σ) (h0 : I a s0) (f : Nat) (hf : n - a < f) :
    ∃ s, L f (nI a) s0 = k s ∧ I n s := by
  have hi : ∀ d, a + d ≤ n → ∃ s, I (a + d) s ∧ L f (nI a) s0 = L (f - d) (nI (a + d)) s := by
    intro d
    induction d with
    | zero => intro _; exact ⟨s0, h0, rfl⟩
    | succ d ih =>
      intro hin
      obtain ⟨s, h1, h2⟩ := ih (by omega)
      have e : f - d = (f - (d + 1)) + 1 := by omega
      rw [e] at h2
      obtain ⟨s1, h3, h4⟩ := hs (f - (d + 1)) (a + d) s (by omega) (by omega) h1
      exact ⟨s1, h4, h2.trans h3⟩
  obtain ⟨s, h1, h2⟩ := hi (n - a) (by omega)
  rw [show a + (n - a) = n by omega] at h1 h2
  refine ⟨s, h2.trans ?_, h1⟩
  have e : f - (n - a) = (f - (n - a) - 1) + 1 := by omega
  rw [e, he _ _ h1]
/-- a loop that may end early, by what holds at its head -/
theorem for_or {σ ρ : Type} (L : Nat → Int32 → σ → ρ) (k : σ → ρ) (P : ρ → Prop) (a n : Nat) (ha : a ≤ n) (I : Nat → σ → Prop)
    (hs : ∀ f i s, a ≤ i → i < n → I i s → P (L (f + 1) (nI i) s) ∨ ∃ s1, L (f + 1) (nI i) s = L f (nI (i + 1)) s1 ∧ I (i + 1) s1) (he : ∀ f s, I n s → L (f + 1) (nI n) s = k s) (s0 : σ) (h0 : I a s0) (f : Nat) (hf : n - a < f) :
    P (L f (nI a) s0) ∨ ∃ s, L f (nI a) s0 = k s ∧ I n s := by
  have hi : ∀ d, a + d ≤ n → P (L f (nI a) s0) ∨ ∃ s, I (a + d) s ∧ L f (nI a) s0 = L (f - d) (nI (a + d)) s := by
    intro d
    induction d with
    | zero => intro _; exact Or.inr ⟨s0, h0, rfl⟩
    | succ d ih =>
      intro hin
      rcases ih (by omega) with h | ⟨s, h1, h2⟩
      · exact Or.inl h
      have e : f - d = (f - (d + 1)) + 1 := by omega
      rw [e] at h2
      rcases hs (f - (d + 1)) (a + d) s (by omega) (by omega) h1 with h | ⟨s1, h3, h4⟩
      · rw [← h2] at h; exact Or.inl h
      · exact Or.inr ⟨s1, h4, h2.trans h3⟩
  rcases hi (n - a) (by omega) with h | ⟨s, h1, h2⟩
  · exact Or.inl h
  rw [show a + (n - a) = n by omega] at h1 h2
  refine Or.inr ⟨s, h2.trans ?_, h1⟩
  have e : f - (n - a) = (f - (n - a) - 1) + 1 := by omega
  rw [e, he _ _ h1]
theorem j_fill {k len : Nat} (hl : len ≤ 20000) (x : Int32) (M : Mem) : ∃ M1, fJ7_fill_53178 k len x M = some M1 ∧ (∀ j, j < len → M1.1 k j = x) ∧ sm [(k, k, none)] M M1 := by
  unfold fJ7_fill_53178
  rw [nx_eq]
  have hh := for_ex (σ := Mem) (fun f i s => fJ7_fill_53178_5 k len (fJ7_fill_53178_20 k len) f x i (nI len) s) (fun s => some s) len
    (fun i s => (∀ j, j < i → s.1 k j = x) ∧ sm [(k, k, none)] M s) ?_ ?_ M ⟨fun j h => absurd h (by omega), sm_rf⟩ FU (FU_gt hl)
  · obtain ⟨M1, h1, h2⟩ := hh
    exact ⟨M1, h1, h2⟩
  · intro f i s hi ⟨h1, h2⟩
    refine ⟨sI s k i x, ?_, fun j hj => ?_, h2.I (inS_n k i)⟩
    · show fJ7_fill_53178_5 k len _ (f + 1) x (nI i) (nI len) s = _
      rw [fJ7_fill_53178_5, if_neg (nI_ge hi (by omega)), if_pos (inb_nI hi (by omega))]
      simp only [nx_eq, ix_nI (show i < 2147483648 by omega), nI_s]
    · by_cases e : j = i
      · rw [e]; exact sI_at s k i x
      · rw [sI_nj s x e]; exact h1 j (by omega)
  · intro f s _
    show fJ7_fill_53178_5 k len _ (f + 1) x (nI len) (nI len) s = _
    rw [fJ7_fill_53178_5, if_pos (nI_le (Nat.le_refl _) (by omega))]
    rfl
theorem cD_on {M M1 : Mem} (h : on [(1, 7, none)] M M1) : cD M1 = cD M := by
  unfold cD
  rw [h.i 1 0 rfl, h.row 2 (fun _ => rfl), h.row 3 (fun _ => rfl), h.row 4 (fun _ => rfl), h.row 5 (fun _ => rfl), h.row 6 (fun _ => rfl), h.row 7 (fun _ => rfl)]
theorem cB_on {M M1 : Mem} (h : on [(1, 1, none)] M M1) : cB M1 = cB M := by
  unfold cB
  rw [h.i 1 11 rfl, h.i 1 12 rfl, h.i 1 13 rfl]
theorem cP_on {M M1 : Mem} (h : on [(1, 1, none), (8, 9, none)] M M1) : cP M1 = cP M := by
  unfold cP
  rw [h.i 1 8 rfl, h.row 8 (fun _ => rfl), h.row 9 (fun _ => rfl)]
