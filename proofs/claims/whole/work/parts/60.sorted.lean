/-! a row in order, and one thing put in -/
def srt {T : Type} (lt : T → T → Prop) (f : Nat → T) (s : Nat) : Prop := ∀ i j, i < j → j < s → lt (f i) (f j)
def inF {T : Type} (f : Nat → T) (k : Nat) (x : T) : Nat → T := fun j => if j < k then f j else if j = k then x else f (j - 1)
/-- the place from the front is the place from behind -/
theorem in_pos {T : Type} {lt : T → T → Prop} {ok : T → Prop} (irr : ∀ a, ¬ lt a a) (tr : ∀ a b c, ok a → ok b → ok c → lt a b → lt b c → lt a c) (tri : ∀ a b, ok a → ok b → lt a b ∨ a = b ∨ lt b a)
    {f : Nat → T} {s k r : Nat} {x : T} (hf : ∀ i, i < s → ok (f i)) (hx : ok x) (hs : srt lt f s) (hk : k ≤ s) (hk1 : ∀ i, i < k → lt (f i) x) (hk2 : k < s → ¬ lt (f k) x) (hne : ∀ i, i < s → f i ≠ x) (hr : r ≤ s) (hr1 : ∀ i, r ≤ i → i < s → lt x (f i)) (hr2 : 0 < r → ¬ lt x (f (r - 1))) : k = r := by
  by_cases c : k < r
  · have h1 : ¬ lt (f k) x := hk2 (by omega)
    have h2 : ¬ lt x (f (r - 1)) := hr2 (by omega)
    have h3 : lt x (f k) := by
      rcases tri (f k) x (hf k (by omega)) hx with h | h | h
      · exact absurd h h1
      · exact absurd h (hne k (by omega))
      · exact h
    by_cases e : k = r - 1
    · rw [← e] at h2; exact absurd h3 h2
    · exact absurd (tr _ _ _ hx (hf k (by omega)) (hf (r - 1) (by omega)) h3 (hs k (r - 1) (by omega) (by omega))) h2
  · by_cases c2 : r < k
    · have h1 := hk1 r c2
      have h2 := hr1 r (Nat.le_refl r) (by omega)
      exact absurd (tr _ _ _ hx (hf r (by omega)) hx h2 h1) (irr x)
    · omega
theorem in_srt {T : Type} {lt : T → T → Prop} {ok : T → Prop} (tr : ∀ a b c, ok a → ok b → ok c → lt a b → lt b c → lt a c) (tri : ∀ a b, ok a → ok b → lt a b ∨ a = b ∨ lt b a)
    {f : Nat → T} {s k : Nat} {x : T} (hf : ∀ i, i < s → ok (f i)) (hx : ok x) (hs : srt lt f s) (hk1 : ∀ i, i < k → lt (f i) x) (hk2 : k < s → lt x (f k)) (hk : k ≤ s) : srt lt (inF f k x) (s + 1) ∧ ∀ i, i < s + 1 → ok (inF f k x i) := by
  have ahead : ∀ j, k ≤ j → j < s → lt x (f j) := by
    intro j h1 h2
    by_cases e : j = k
    · rw [e]; exact hk2 (by omega)
    · exact tr _ _ _ hx (hf k (by omega)) (hf j h2) (hk2 (by omega)) (hs k j (by omega) h2)
  refine ⟨fun i j hij hj => ?_, fun i hi => ?_⟩
  · unfold inF
    by_cases c1 : j < k
    · rw [if_pos (show i < k by omega), if_pos c1]; exact hs i j hij (by omega)
    · rw [if_neg c1]
      by_cases c2 : j = k
      · rw [if_pos c2, if_pos (show i < k by omega)]; exact hk1 i (by omega)
      · rw [if_neg c2]
        by_cases c3 : i < k
        · rw [if_pos c3]; exact hs i (j - 1) (by omega) (by omega)
        · rw [if_neg c3]
          by_cases c4 : i = k
          · rw [if_pos c4]; exact ahead (j - 1) (by omega) (by omega)
          · rw [if_neg c4]; exact hs (i - 1) (j - 1) (by omega) (by omega)
  · unfold inF
    split
    · exact hf i (by omega)
    · split
      · exact hx
      · exact hf (i - 1) (by omega)
theorem in_congr {T : Type} {f g : Nat → T} {s k : Nat} {x : T} (h : ∀ i, i < s → f i = g i) (hk : k ≤ s) : ∀ i, i < s + 1 → inF f k x i = inF g k x i := by
  intro i hi
  unfold inF
  split
  · exact h i (by omega)
  · split
    · rfl
    · exact h (i - 1) (by omega)
