/-! plain rows: loops, numbers -/
/-- what a state comes to in n rounds -/
def fd {σ : Type} (step : Nat → σ → σ) (s : σ) : Nat → σ
  | 0 => s
  | n + 1 => step n (fd step s n)
theorem for_up {σ ρ : Type} (L : Nat → Int32 → σ → ρ) (k : σ → ρ) (n : Nat) (step : Nat → σ → σ) (I : Nat → σ → Prop)
    (hs : ∀ f i s, i < n → I i s → L (f + 1) (nI i) s = L f (nI (i + 1)) (step i s)) (hI : ∀ i s, i < n → I i s → I (i + 1) (step i s)) (he : ∀ f s, I n s → L (f + 1) (nI n) s = k s) (s0 : σ) (h0 : I 0 s0) (f : Nat) (hf : n < f) :
    L f (nI 0) s0 = k (fd step s0 n) ∧ I n (fd step s0 n) := by
  have hi : ∀ i, i ≤ n → I i (fd step s0 i) ∧ L f (nI 0) s0 = L (f - i) (nI i) (fd step s0 i) := by
    intro i
    induction i with
    | zero => intro _; exact ⟨h0, rfl⟩
    | succ i ih =>
      intro hin
      obtain ⟨h1, h2⟩ := ih (by omega)
      refine ⟨hI i _ (by omega) h1, h2.trans ?_⟩
      have e : f - i = (f - (i + 1)) + 1 := by omega
      rw [e, hs _ i _ (by omega) h1]
      rfl
  obtain ⟨h1, h2⟩ := hi n (Nat.le_refl n)
  refine ⟨h2.trans ?_, h1⟩
  have e : f - n = (f - n - 1) + 1 := by omega
  rw [e, he _ _ h1]
/-- the first of the first n places that has p -/
def ff (p : Nat → Bool) : Nat → Option Nat
  | 0 => none
  | n + 1 => match ff p n with
    | some i => some i
    | none => if p n then some n else none
theorem ff_none {p : Nat → Bool} {n : Nat} : ff p n = none ↔ ∀ i, i < n → p i = false := by
  induction n with
  | zero => simp [ff]
  | succ n ih =>
    unfold ff
    cases h : ff p n with
    | some i =>
      simp only [reduceCtorEq, false_iff]
      intro hq
      rw [ih.mpr (fun i hi => hq i (by omega))] at h
      cases h
    | none =>
      have h2 := ih.mp h
      simp only
      by_cases hp : p n = true
      · simp only [hp, if_true, reduceCtorEq, false_iff]
        intro hq
        rw [hq n (by omega)] at hp
        cases hp
      · simp only [hp]
        simp only [Bool.not_eq_true] at hp
        constructor
        · intro _ i hi
          by_cases e : i = n
          · rw [e]; exact hp
          · exact h2 i (by omega)
        · intro _; rfl
theorem ff_some {p : Nat → Bool} {n i : Nat} : ff p n = some i ↔ i < n ∧ p i = true ∧ ∀ j, j < i → p j = false := by
  induction n with
  | zero => simp [ff]
  | succ n ih =>
    unfold ff
    cases h : ff p n with
    | some j =>
      simp only [Option.some.injEq]
      have hj : j < n ∧ p j = true ∧ ∀ a, a < j → p a = false := by
        rw [h] at ih
        by_cases e : j = i
        · subst e; exact ih.mp rfl
        · clear ih
          induction n generalizing j with
          | zero => simp [ff] at h
          | succ n ih2 =>
            unfold ff at h
            cases h3 : ff p n with
            | some b =>
              rw [h3] at h
              simp only [Option.some.injEq] at h
              subst h
              obtain ⟨q1, q2⟩ := ih2 b h3 e
              exact ⟨by omega, q2⟩
            | none =>
              rw [h3] at h
              simp only at h
              by_cases hp : p n = true
              · simp only [hp, if_true, Option.some.injEq] at h
                subst h
                exact ⟨by omega, hp, ff_none.mp h3⟩
              · simp [hp] at h
      constructor
      · intro e; subst e; exact ⟨by omega, hj.2⟩
      · rintro ⟨h1, h2, h3⟩
        rcases Nat.lt_trichotomy i j with q | q | q
        · rw [hj.2.2 i q] at h2; cases h2
        · exact q.symm
        · rw [h3 j q] at hj; exact absurd hj.2.1 (by simp)
    | none =>
      have h2 := ff_none.mp h
      simp only
      by_cases hp : p n = true
      · simp only [hp, if_true, Option.some.injEq]
        constructor
        · intro e; subst e; exact ⟨by omega, hp, h2⟩
        · rintro ⟨h1, h3, h4⟩
          by_cases e : n = i
          · exact e
          · rw [h2 i (by omega)] at h3; cases h3
      · simp only [hp]
        simp only [Bool.false_eq_true, if_false, reduceCtorEq, false_iff]
        rintro ⟨h1, h3, -⟩
        by_cases e : i = n
        · rw [e] at h3; exact hp h3
        · rw [h2 i (by omega)] at h3; cases h3
/-- a loop that may end early -/
theorem for_find {σ ρ : Type} (L : Nat → Int32 → σ → ρ) (k : σ → ρ) (o : Nat → σ → ρ) (p : Nat → σ → Bool) (n : Nat) (step : Nat → σ → σ) (I : Nat → σ → Prop)
    (hs : ∀ f i s, i < n → I i s → L (f + 1) (nI i) s = if p i s = true then o i s else L f (nI (i + 1)) (step i s)) (hI : ∀ i s, i < n → I i s → p i s = false → I (i + 1) (step i s)) (he : ∀ f s, I n s → L (f + 1) (nI n) s = k s) (s0 : σ) (h0 : I 0 s0) (f : Nat) (hf : n < f) :
    (∃ i, i < n ∧ p i (fd step s0 i) = true ∧ (∀ j, j < i → p j (fd step s0 j) = false) ∧ I i (fd step s0 i) ∧ L f (nI 0) s0 = o i (fd step s0 i)) ∨ ((∀ i, i < n → p i (fd step s0 i) = false) ∧ I n (fd step s0 n) ∧ L f (nI 0) s0 = k (fd step s0 n)) := by
  have hi : ∀ i, i ≤ n → (∃ i, i < n ∧ p i (fd step s0 i) = true ∧ (∀ j, j < i → p j (fd step s0 j) = false) ∧ I i (fd step s0 i) ∧ L f (nI 0) s0 = o i (fd step s0 i)) ∨ ((∀ j, j < i → p j (fd step s0 j) = false) ∧ I i (fd step s0 i) ∧ L f (nI 0) s0 = L (f - i) (nI i) (fd step s0 i)) := by
    intro i
    induction i with
    | zero => intro _; exact Or.inr ⟨fun j h => absurd h (by omega), h0, rfl⟩
    | succ i ih =>
      intro hin
      rcases ih (by omega) with h | ⟨h1, h2, h3⟩
      · exact Or.inl h
      · have e : f - i = (f - (i + 1)) + 1 := by omega
        rw [e, hs _ i _ (by omega) h2] at h3
        by_cases hp : p i (fd step s0 i) = true
        · rw [if_pos hp] at h3
          exact Or.inl ⟨i, by omega, hp, h1, h2, h3⟩
        · rw [if_neg hp] at h3
          have hp' : p i (fd step s0 i) = false := by simpa using hp
          refine Or.inr ⟨fun j hj => ?_, hI i _ (by omega) h2 hp', h3⟩
          by_cases ej : j = i
          · rw [ej]; exact hp'
          · exact h1 j (by omega)
  rcases hi n (Nat.le_refl n) with h | ⟨h1, h2, h3⟩
  · exact Or.inl h
  · refine Or.inr ⟨h1, h2, h3.trans ?_⟩
    have e : f - n = (f - n - 1) + 1 := by omega
    rw [e, he _ _ h2]
theorem FU_gt {n : Nat} (h : n ≤ 20000) : n < FU := by unfold FU; omega
theorem nx_eq {α β : Type} (a : α) (f : α → β) : nx a f = f a := rfl
theorem ix_nI {j : Nat} (h : j < 2147483648) : ix (nI j) = j := nI_clamp h
theorem inb_nI {j n : Nat} (h : j < n) (hn : n < 2147483648) : inb (nI j) n = true := by
  unfold inb
  exact decide_eq_true (vp_in_nI h hn)
theorem nI_s (j : Nat) : nI j + 1 = nI (j + 1) := nI_1 j
/-- booleans as ints -/
def bI (b : Bool) : Int32 := if b then 1 else 0
theorem bI_0 (b : Bool) : bI b = 0 ↔ b = false := by cases b <;> decide
theorem bI_and (b : Bool) : bI b &&& 1 = bI b := by cases b <;> decide
