/-! rows of places in both objects -/
def smP (X Y N : Int64) : Prop := (-4000000 ≤ X.toInt ∧ X.toInt ≤ 4000000) ∧ (-4000000 ≤ Y.toInt ∧ Y.toInt ≤ 4000000) ∧ (0 < N.toInt ∧ N.toInt ≤ 20000)
def plOf (X Y N : Int64) : Ln := (X.toInt, Y.toInt, N.toInt)
def ro (M : Mem) (i : Nat) : Ln := plOf (M.2 31 i) (M.2 32 i) (M.2 33 i)
def roR (M : Mem) (i : Nat) : Ln := plOf (M.2 82 i) (M.2 83 i) (M.2 84 i)
def rw3L (M : Mem) (i : Nat) : Int64 × Int64 × Int64 := (M.2 31 i, M.2 32 i, M.2 33 i)
def rw3LR (M : Mem) (i : Nat) : Int64 × Int64 × Int64 := (M.2 82 i, M.2 83 i, M.2 84 i)
theorem sL_nk (M : Mem) {k j a i : Nat} (v : Int64) (h : a ≠ k) : (sL M k j v).2 a i = M.2 a i := sL_ne M v (fun q => h q.1)
theorem plOf_inj {X Y N X1 Y1 N1 : Int64} : plOf X Y N = plOf X1 Y1 N1 ↔ X = X1 ∧ Y = Y1 ∧ N = N1 := by
  unfold plOf
  simp only [Prod.mk.injEq, ← fa_eq64]
theorem pr_rngP {a b : Int} (h1 : -4000000 ≤ a) (h2 : a ≤ 4000000) (h3 : 0 ≤ b) (h4 : b ≤ 20000) : -80000000000 ≤ a * b ∧ a * b ≤ 80000000000 := by
  have e1 : a * b ≤ 4000000 * b := Int.mul_le_mul_of_nonneg_right h2 h3
  have e2 : -4000000 * b ≤ a * b := Int.mul_le_mul_of_nonneg_right h1 h3
  omega
theorem mulP {x n : Int64} (hx : -4000000 ≤ x.toInt ∧ x.toInt ≤ 4000000) (hn : 0 < n.toInt ∧ n.toInt ≤ 20000) : (x * n).toInt = x.toInt * n.toInt ∧ -80000000000 ≤ x.toInt * n.toInt ∧ x.toInt * n.toInt ≤ 80000000000 := by
  have := pr_rngP hx.1 hx.2 (by omega) hn.2
  exact ⟨fb_mulL (by omega) (by omega), this⟩
theorem k_cmpL (M : Mem) (x y : Int64) : ∃ r, fJ13_compare_74951 M x y = some r ∧ (r < 0 ↔ x.toInt < y.toInt) ∧ (r = 0 ↔ x.toInt = y.toInt) := by
  unfold fJ13_compare_74951 fJ13_compare_74951_21
  have z : (0 : Int32).toInt = 0 := rfl
  have ge : (0 ≤ lg_cmp x y) ↔ ¬ x < y := by
    rw [← lg_lt, fa_le, fa_lt]; omega
  simp only [lg_eq, ge]
  by_cases c1 : x < y
  · have h1 := (fa_lt64 _ _).mp c1
    refine ⟨-1, ?_, ?_, ?_⟩
    · rw [if_neg (fun q => q c1)]
    · simp [h1]
    · have : ¬ x.toInt = y.toInt := by omega
      simp [this]
  · have h1 : ¬ x.toInt < y.toInt := fun q => c1 ((fa_lt64 _ _).mpr q)
    rw [if_pos c1]
    by_cases c2 : x = y
    · subst c2
      refine ⟨0, ?_, ?_, ?_⟩
      · rw [if_pos rfl]
      · simp
      · simp
    · have h2 : ¬ x.toInt = y.toInt := fun q => c2 ((fa_eq64 _ _).mpr q)
      refine ⟨1, ?_, ?_, ?_⟩
      · rw [if_neg c2]
      · simp [h1]
      · simp [h2]
theorem k_morder {M : Mem} {k : Nat} (hk : k < 15) {X Y N : Int64} (hs : smP (M.2 31 k) (M.2 32 k) (M.2 33 k)) (ht : smP X Y N) (ho : plOk (ro M k)) (hq : plOk (plOf X Y N)) :
    ∃ r, fX4_order M (nI k) X Y N = some r ∧ (r < 0 ↔ plLt (ro M k) (plOf X Y N)) ∧ (r = 0 ↔ ro M k = plOf X Y N) := by
  have hk15 := inb_nI hk (by decide)
  have eq_iff : ro M k = plOf X Y N ↔ (ro M k).1 * (plOf X Y N).2.2 = (plOf X Y N).1 * (ro M k).2.2 ∧ (ro M k).2.1 * (plOf X Y N).2.2 = (plOf X Y N).2.1 * (ro M k).2.2 :=
    ⟨fun e => by rw [e]; exact ⟨rfl, rfl⟩, fun e => pl_eq ho hq e.1 e.2⟩
  rw [eq_iff]
  unfold fX4_order fX4_order_53
  simp only [hk15, if_true, ix_nI (show k < 2147483648 by omega)]
  obtain ⟨m1, -⟩ := mulP hs.1 ht.2.2
  obtain ⟨m2, -⟩ := mulP ht.1 hs.2.2
  obtain ⟨m3, -⟩ := mulP hs.2.1 ht.2.2
  obtain ⟨m4', -⟩ := mulP ht.2.1 hs.2.2
  obtain ⟨r, r1, r2, r3⟩ := k_cmpL M (M.2 31 k * N) (X * M.2 33 k)
  obtain ⟨t, t1, t2, t3⟩ := k_cmpL M (M.2 32 k * N) (Y * M.2 33 k)
  rw [m1, m2] at r2 r3
  rw [m3, m4'] at t2 t3
  rw [r1, Option.bind_some]
  have g1 : (ro M k).1 * (plOf X Y N).2.2 = (M.2 31 k).toInt * N.toInt := rfl
  have g2 : (plOf X Y N).1 * (ro M k).2.2 = X.toInt * (M.2 33 k).toInt := rfl
  have g3 : (ro M k).2.1 * (plOf X Y N).2.2 = (M.2 32 k).toInt * N.toInt := rfl
  have g4 : (plOf X Y N).2.1 * (ro M k).2.2 = Y.toInt * (M.2 33 k).toInt := rfl
  unfold plLt
  rw [g1, g2, g3, g4]
  by_cases c : r = 0
  · rw [if_pos c, t1]
    have e := r3.mp c
    refine ⟨t, rfl, ?_, ?_⟩
    · rw [t2]; omega
    · rw [t3]; omega
  · rw [if_neg c]
    have e : ¬ (M.2 31 k).toInt * N.toInt = X.toInt * (M.2 33 k).toInt := fun q => c (r3.mpr q)
    refine ⟨r, rfl, ?_, ?_⟩
    · rw [r2]; omega
    · simp [c, e]
theorem e_isBehind {M : Mem} {k : Nat} (hk : k < 256) {X Y N : Int64} (hs : smP (M.2 82 k) (M.2 83 k) (M.2 84 k)) (ht : smP X Y N) :
    ∃ r, fX11_isBehind M (nI k) X Y N = some r ∧ (r = 0 ↔ ¬ plLt (plOf X Y N) (roR M k)) := by
  have hk256 := inb_nI (show k < 5600 by omega) (by decide)
  unfold fX11_isBehind fX11_isBehind_69
  simp only [hk256, if_true, ix_nI (show k < 2147483648 by omega), nx_eq]
  obtain ⟨m1, a1⟩ := mulP hs.1 ht.2.2
  obtain ⟨m2, a2⟩ := mulP ht.1 hs.2.2
  obtain ⟨m3, a3⟩ := mulP hs.2.1 ht.2.2
  obtain ⟨m4', a4⟩ := mulP ht.2.1 hs.2.2
  have md : (M.2 82 k * N - X * M.2 84 k).toInt = (M.2 82 k).toInt * N.toInt - X.toInt * (M.2 84 k).toInt := by
    rw [fb_subL (by rw [m1, m2]; omega) (by rw [m1, m2]; omega), m1, m2]
  have z : (0 : Int64).toInt = 0 := rfl
  have g1 : (roR M k).1 * (plOf X Y N).2.2 = (M.2 82 k).toInt * N.toInt := rfl
  have g2 : (plOf X Y N).1 * (roR M k).2.2 = X.toInt * (M.2 84 k).toInt := rfl
  have g3 : (roR M k).2.1 * (plOf X Y N).2.2 = (M.2 83 k).toInt * N.toInt := rfl
  have g4 : (plOf X Y N).2.1 * (roR M k).2.2 = Y.toInt * (M.2 84 k).toInt := rfl
  unfold plLt
  rw [g1, g2, g3, g4]
  simp only [lg_eq, lg_le, fa_eq64, fa_le64, md, m3, m4', z]
  generalize (M.2 82 k).toInt * N.toInt = a
  generalize X.toInt * (M.2 84 k).toInt = b
  generalize (M.2 83 k).toInt * N.toInt = c
  generalize Y.toInt * (M.2 84 k).toInt = d
  by_cases c1 : a - b = 0
  · rw [if_pos c1]
    by_cases c2 : c ≤ d
    · refine ⟨0, by rw [if_pos c2]; rfl, ?_⟩
      simp
      omega
    · refine ⟨1, by rw [if_neg c2]; rfl, ?_⟩
      simp
      omega
  · rw [if_neg c1]
    by_cases c2 : a - b ≤ 0
    · refine ⟨0, by rw [if_pos c2]; rfl, ?_⟩
      simp
      omega
    · refine ⟨1, by rw [if_neg c2]; rfl, ?_⟩
      simp
      omega
theorem k_mshift {A B C : Int64} (K : Int64 → Int64 → Int64 → Int32 → Mem → Option Mem) (at' : Nat) : ∀ (d f : Nat) (M : Mem), d < f → at' + d < 15 → ∃ M1, fX4_insert_69 K f A B C (nI at') (nI (at' + d)) M = K A B C (nI at') M1 ∧ (∀ i, i ≤ at' → rw3L M1 i = rw3L M i) ∧ (∀ i, at' < i → i ≤ at' + d → rw3L M1 i = rw3L M (i - 1)) ∧ (∀ i, at' + d < i → rw3L M1 i = rw3L M i) ∧ sm [(31, 33, none)] M M1
  | 0, f, M, hf, hs => by
    obtain ⟨f, rfl⟩ : ∃ g, f = g + 1 := ⟨f - 1, by omega⟩
    refine ⟨M, ?_, fun _ _ => rfl, fun i h1 h2 => by omega, fun _ _ => rfl, sm_rf⟩
    rw [fX4_insert_69, if_pos (nI_le (by omega) (by omega))]
  | d + 1, f, M, hf, hs => by
    obtain ⟨f, rfl⟩ : ∃ g, f = g + 1 := ⟨f - 1, by omega⟩
    have e1 : nI (at' + (d + 1)) - 1 = nI (at' + d) := by
      have := pk_sub (a := at' + (d + 1)) (b := 1) (by omega)
      exact this
    have e2 : nI (at' + (d + 1)) + (-1) = nI (at' + d) := by
      rw [← e1, Int32.sub_eq_add_neg]
    have i1 := inb_nI (show at' + d < 15 by omega) (by decide)
    have i2 := inb_nI (show at' + (d + 1) < 15 by omega) (by decide)
    generalize hS : sL (sL (sL M 31 (at' + (d + 1)) (M.2 31 (at' + d))) 32 (at' + (d + 1)) (M.2 32 (at' + d))) 33 (at' + (d + 1)) (M.2 33 (at' + d)) = S
    have sS : sm [(31, 33, none)] M S := by rw [← hS]; exact ((sm_rf.Lg (by rfl)).Lg (by rfl)).Lg (by rfl)
    have r1 : rw3L S (at' + (d + 1)) = rw3L M (at' + d) := by rw [← hS]; unfold rw3L; simp [sL]
    have r2 : ∀ i, i ≠ at' + (d + 1) → rw3L S i = rw3L M i := by intro i hi; rw [← hS]; unfold rw3L; simp [sL, hi]
    obtain ⟨M1, h1, h2, h3, h4, h5⟩ := k_mshift K at' d f S (by omega) (by omega)
    refine ⟨M1, ?_, fun i hi => ?_, fun i h6 h7 => ?_, fun i hi => ?_, sS.tr h5⟩
    · rw [fX4_insert_69, if_neg (nI_ge (by omega) (by omega)), e1]
      simp only [i1, i2, if_true, ix_nI (show at' + d < 2147483648 by omega), ix_nI (show at' + (d + 1) < 2147483648 by omega), nx_eq, e2]
      rw [sL_nk M (k := 31) (a := 32) _ (by decide), sL_nk _ (k := 32) (a := 33) _ (by decide), sL_nk M (k := 31) (a := 33) _ (by decide), hS]
      exact h1
    · rw [h2 i hi, r2 i (by omega)]
    · by_cases e : i = at' + (d + 1)
      · rw [h4 i (by omega), e, r1]
        congr 1
      · rw [h3 i h6 (by omega), r2 (i - 1) (by omega)]
    · rw [h4 i (by omega), r2 i (by omega)]
/-- the class's places are in order, s of them -/
def MdS (M : Mem) (s : Nat) : Prop := M.1 30 5 = nI s ∧ (∀ i, i < s → smP (M.2 31 i) (M.2 32 i) (M.2 33 i) ∧ plOk (ro M i)) ∧ srt plLt (ro M) s
def MdSR (M : Mem) (s : Nat) : Prop := M.1 47 28 = nI s ∧ (∀ i, i < s → smP (M.2 82 i) (M.2 83 i) (M.2 84 i) ∧ plOk (roR M i)) ∧ srt plLt (roR M) s
theorem k_mfind {M : Mem} {s : Nat} {A B C : Int64} (h : MdS M s) (hs : s < 15) (ht : smP A B C) (hq : plOk (plOf A B C)) (K : Int64 → Int64 → Int64 → Int32 → Mem → Option Mem) : ∃ k, k ≤ s ∧ fX4_insert_3 K FU A B C 0 M = K A B C (nI k) M ∧ (∀ i, i < k → plLt (ro M i) (plOf A B C)) ∧ (k < s → ¬ plLt (ro M k) (plOf A B C)) := by
  obtain ⟨h1, h3, h4⟩ := h
  have hh := for_or (σ := Unit) (fun f i _ => fX4_insert_3 K f A B C i M) (fun _ => K A B C (nI s) M) (fun ρ => ∃ k, k ≤ s ∧ ρ = K A B C (nI k) M ∧ (∀ i, i < k → plLt (ro M i) (plOf A B C)) ∧ (k < s → ¬ plLt (ro M k) (plOf A B C))) 0 s (by omega)
    (fun i _ => ∀ j, j < i → plLt (ro M j) (plOf A B C)) ?_ ?_ () (fun j hj => absurd hj (by omega)) FU (by have := FU_gt (n := s) (by omega); omega)
  · rcases hh with q | ⟨-, q1, q2⟩
    · exact q
    · exact ⟨s, Nat.le_refl s, q1, q2, fun w => absurd w (by omega)⟩
  · rintro f i - - hi g
    obtain ⟨r, r1, r2, -⟩ := k_morder (M := M) (k := i) (by omega) (h3 i hi).1 ht (h3 i hi).2 hq
    have hun : fX4_insert_3 K (f + 1) A B C (nI i) M = if 0 ≤ r then K A B C (nI i) M else fX4_insert_3 K f A B C (nI (i + 1)) M := by
      rw [fX4_insert_3, h1, if_neg (nI_ge hi (by omega)), r1, Option.bind_some]
      simp only [nx_eq, nI_s]
    by_cases c : r < 0
    · right
      refine ⟨(), ?_, fun j hj => ?_⟩
      · refine hun.trans ?_
        rw [if_neg (show ¬ (0 : Int32) ≤ r by rw [fa_le]; have := (fa_lt _ _).mp c; omega)]
      · by_cases e : j = i
        · rw [e]; exact r2.mp c
        · exact g j (by omega)
    · left
      refine ⟨i, by omega, ?_, g, fun _ q => c (r2.mpr q)⟩
      refine hun.trans ?_
      rw [if_pos (fa_of_nlt c)]
  · intro f _ _
    show fX4_insert_3 K (f + 1) A B C (nI s) M = _
    rw [fX4_insert_3, h1, if_pos (nI_le (Nat.le_refl _) (by omega))]
theorem k_minsert {M : Mem} {s : Nat} {A B C : Int64} (h : MdS M s) (hs : s < 15) (ht : smP A B C) (hq : plOk (plOf A B C)) :
    ∃ M1, fX4_insert A B C M = some M1 ∧ (((∃ i, i < s ∧ ro M i = plOf A B C) ∧ M1 = M) ∨ (∃ k, k ≤ s ∧ (∀ i, i < k → plLt (ro M i) (plOf A B C)) ∧ (k < s → plLt (plOf A B C) (ro M k)) ∧ M1.1 30 5 = nI (s + 1) ∧ (∀ i, i < s + 1 → rw3L M1 i = inF (rw3L M) k (A, B, C) i) ∧ sm [(30, 30, some 5), (31, 33, none)] M M1)) := by
  obtain ⟨k, k1, k2, k3, k4⟩ := k_mfind h hs ht hq fX4_insert_31
  obtain ⟨h1, h3, h4⟩ := id h
  unfold fX4_insert
  rw [k2]
  have e15 : (15 : Int32) = nI 15 := rfl
  have put : ∃ M1, fX4_insert_63 A B C (nI k) M = some M1 ∧ M1.1 30 5 = nI (s + 1) ∧ (∀ i, i < s + 1 → rw3L M1 i = inF (rw3L M) k (A, B, C) i) ∧ sm [(30, 30, some 5), (31, 33, none)] M M1 := by
    unfold fX4_insert_63
    rw [nx_eq, h1]
    obtain ⟨S, s1, s2, s3, s4, s5⟩ := k_mshift (A := A) (B := B) (C := C) fX4_insert_130 k (s - k) FU M (by have := FU_gt (n := s) (by omega); omega) (by omega)
    rw [show k + (s - k) = s by omega] at s1 s3 s4
    rw [s1]
    have o := s5.on [(30, 30, none)] (by decide) (by decide)
    have ik := inb_nI (show k < 15 by omega) (by decide)
    refine ⟨sI (sL (sL (sL S 31 k A) 32 k B) 33 k C) 30 5 (nI (s + 1)), ?_, sI_at .., fun i hi => ?_, ((((s5.up (by decide)).Lg (by rfl)).Lg (by rfl)).Lg (by rfl)).I (by rfl)⟩
    · unfold fX4_insert_130
      simp only [ik, if_true, ix_nI (show k < 2147483648 by omega), nx_eq]
      rw [sL_i, sL_i, sL_i, o.i 30 5 rfl, h1, nI_s]
    · by_cases e : i = k
      · subst e
        unfold inF rw3L
        simp [sI, sL]
      · have e0 : rw3L (sI (sL (sL (sL S 31 k A) 32 k B) 33 k C) 30 5 (nI (s + 1))) i = rw3L S i := by
          unfold rw3L; simp [sI, sL, e]
        rw [e0]
        unfold inF
        by_cases c : i < k
        · rw [if_pos c, s2 i (by omega)]
        · rw [if_neg c, if_neg e, s3 i (by omega) (by omega)]
  unfold fX4_insert_31 fX4_insert_62
  rw [h1, e15, if_neg (nI_ge hs (by omega))]
  by_cases c : k = s
  · obtain ⟨M1, p1, p2, p3, p4⟩ := put
    refine ⟨M1, ?_, Or.inr ⟨k, k1, k3, fun w => absurd w (by omega), p2, p3, p4⟩⟩
    rw [if_pos (nI_le (by omega) (by omega)), p1]
  · have hk : k < s := by omega
    obtain ⟨r, r1, r2, r3⟩ := k_morder (M := M) (k := k) (by omega) (h3 k hk).1 ht (h3 k hk).2 hq
    rw [if_neg (nI_ge hk (by omega)), r1, Option.bind_some]
    by_cases e : r = 0
    · rw [if_pos e]
      exact ⟨M, rfl, Or.inl ⟨⟨k, hk, r3.mp e⟩, rfl⟩⟩
    · rw [if_neg e]
      have hl : plLt (plOf A B C) (ro M k) := by
        rcases pl_tri (h3 k hk).2 hq with q | q | q
        · exact absurd q (k4 hk)
        · exact absurd (r3.mpr q) e
        · exact q
      obtain ⟨M1, p1, p2, p3, p4⟩ := put
      exact ⟨M1, p1, Or.inr ⟨k, k1, k3, fun _ => hl, p2, p3, p4⟩⟩
theorem e_mshift {A B C : Int64} {M : Mem} {s : Nat} (hs : s < 256) (hrow : ∀ i, i < s → smP (M.2 82 i) (M.2 83 i) (M.2 84 i)) (ht : smP A B C) (K : Int64 → Int64 → Int64 → Int32 → Mem → Option Mem) : ∀ (k f : Nat) (S : Mem), k < f → k ≤ s → (∀ i, i ≤ k → rw3LR S i = rw3LR M i) → (∀ i, k < i → i ≤ s → rw3LR S i = rw3LR M (i - 1)) →
    ∃ r S1, r ≤ k ∧ fX11_addsMiddle_126 K f A B C (nI k) S = K A B C (nI r) S1 ∧ (∀ i, i ≤ r → rw3LR S1 i = rw3LR M i) ∧ (∀ i, r < i → i ≤ s → rw3LR S1 i = rw3LR M (i - 1)) ∧ (∀ i, r ≤ i → i < k → plLt (plOf A B C) (roR M i)) ∧ (0 < r → ¬ plLt (plOf A B C) (roR M (r - 1))) ∧ sm [(82, 84, none)] S S1
  | 0, f, S, hf, hk, h1, h2 => by
    obtain ⟨f, rfl⟩ : ∃ g, f = g + 1 := ⟨f - 1, by omega⟩
    refine ⟨0, S, Nat.le_refl _, ?_, h1, h2, fun i _ h => absurd h (by omega), fun h => absurd h (by omega), sm_rf⟩
    rw [fX11_addsMiddle_126, if_pos (by decide)]
  | k + 1, f, S, hf, hk, h1, h2 => by
    obtain ⟨f, rfl⟩ : ∃ g, f = g + 1 := ⟨f - 1, by omega⟩
    have e1 : nI (k + 1) - 1 = nI k := by
      have := pk_sub (a := k + 1) (b := 1) (by omega)
      exact this
    have e2 : nI (k + 1) + (-1) = nI k := by
      rw [← e1, Int32.sub_eq_add_neg]
    have i1 := inb_nI (show k < 5600 by omega) (by decide)
    have i2 := inb_nI (show k + 1 < 5600 by omega) (by decide)
    have n0 : ¬ nI (k + 1) ≤ 0 := nI_ge (a := 0) (b := k + 1) (by omega) (by omega)
    have rk := h1 k (by omega)
    unfold rw3LR at rk
    obtain ⟨r1, r2⟩ := Prod.mk.inj rk
    obtain ⟨r2, r3⟩ := Prod.mk.inj r2
    have sk : smP (S.2 82 k) (S.2 83 k) (S.2 84 k) := by rw [r1, r2, r3]; exact hrow k (by omega)
    obtain ⟨r, q1, q2⟩ := e_isBehind (M := S) (k := k) (by omega) sk ht
    have er : roR S k = roR M k := by unfold roR; rw [r1, r2, r3]
    rw [er] at q2
    have hun : fX11_addsMiddle_126 K (f + 1) A B C (nI (k + 1)) S = if r = 0 then K A B C (nI (k + 1)) S else fX11_addsMiddle_126 K f A B C (nI k) (sL (sL (sL S 82 (k + 1) (S.2 82 k)) 83 (k + 1) (S.2 83 k)) 84 (k + 1) (S.2 84 k)) := by
      rw [fX11_addsMiddle_126, if_neg n0, e1, q1, Option.bind_some]
      simp only [i1, i2, if_true, ix_nI (show k < 2147483648 by omega), ix_nI (show k + 1 < 2147483648 by omega), nx_eq, e2]
      rw [sL_nk S (k := 82) (a := 83) _ (by decide), sL_nk _ (k := 83) (a := 84) _ (by decide), sL_nk S (k := 82) (a := 84) _ (by decide)]
    by_cases c : r = 0
    · rw [if_pos c] at hun
      exact ⟨k + 1, S, Nat.le_refl _, hun, h1, h2, fun i a b => absurd b (by omega), fun _ => q2.mp c, sm_rf⟩
    · rw [if_neg c] at hun
      have hl : plLt (plOf A B C) (roR M k) := Classical.byContradiction fun w => c (q2.mpr w)
      generalize hS : sL (sL (sL S 82 (k + 1) (S.2 82 k)) 83 (k + 1) (S.2 83 k)) 84 (k + 1) (S.2 84 k) = S2 at hun
      have sS : sm [(82, 84, none)] S S2 := by rw [← hS]; exact ((sm_rf.Lg (by rfl)).Lg (by rfl)).Lg (by rfl)
      have t1 : rw3LR S2 (k + 1) = rw3LR S k := by rw [← hS]; unfold rw3LR; simp [sL]
      have t2 : ∀ i, i ≠ k + 1 → rw3LR S2 i = rw3LR S i := by intro i hi; rw [← hS]; unfold rw3LR; simp [sL, hi]
      obtain ⟨r', S1, g1, g2, g3, g4, g5, g6, g7⟩ := e_mshift hs hrow ht K k f S2 (by omega) (by omega) (fun i hi => by rw [t2 i (by omega)]; exact h1 i (by omega)) (fun i a b => by
        by_cases e : i = k + 1
        · rw [e, t1]; exact h1 k (by omega)
        · rw [t2 i e]; exact h2 i (by omega) b)
      refine ⟨r', S1, by omega, hun.trans g2, g3, g4, fun i a b => ?_, g6, sS.tr g7⟩
      by_cases e : i = k
      · rw [e]; exact hl
      · exact g5 i a (by omega)
/-- the reference: a place that is there, is no such place, or is put in -/
theorem e_minsert {M : Mem} {n p s : Nat} {A B C : Int64} (hD : DI M n p) (h : MdSR M s) (hs : s < 256) (ht : smP A B C) (hq : plOk (plOf A B C)) :
    ∃ M1, fX11_addsMiddle_51 fX11_addsMiddle_99 fX11_addsMiddle_106 FU A B C 0 M = some M1 ∧ ((((∃ i, i < s ∧ roR M i = plOf A B C) ∨ mdB (cD M) A B C = false) ∧ M1 = M) ∨ (mdB (cD M) A B C = true ∧ ∃ k, k ≤ s ∧ (∀ i, i < k → plLt (roR M i) (plOf A B C)) ∧ (k < s → plLt (plOf A B C) (roR M k)) ∧ M1.1 47 28 = nI (s + 1) ∧ (∀ i, i < s + 1 → rw3LR M1 i = inF (rw3LR M) k (A, B, C) i) ∧ sm [(47, 47, some 28), (82, 84, none)] M M1)) := by
  obtain ⟨h1, h3, h4⟩ := h
  have hh := for_or (σ := Unit) (fun f i _ => fX11_addsMiddle_51 fX11_addsMiddle_99 fX11_addsMiddle_106 f A B C i M) (fun _ => fX11_addsMiddle_106 A B C M) (fun ρ => (∃ i, i < s ∧ roR M i = plOf A B C) ∧ ρ = some M) 0 s (by omega)
    (fun i _ => ∀ j, j < i → roR M j ≠ plOf A B C) ?_ ?_ () (fun j hj => absurd hj (by omega)) FU (by have := FU_gt (n := s) (by omega); omega)
  · rcases hh with ⟨q1, q2⟩ | ⟨-, q1, q2⟩
    · exact ⟨M, q2, Or.inl ⟨Or.inl q1, rfl⟩⟩
    · rw [show nI 0 = (0 : Int32) from rfl] at q1
      rw [q1]
      unfold fX11_addsMiddle_106
      rw [e_isMiddle hD, Option.bind_some, nx_eq, h1]
      cases hm : mdB (cD M) A B C with
      | false => exact ⟨M, rfl, Or.inl ⟨Or.inr rfl, rfl⟩⟩
      | true =>
        rw [if_neg (show ¬ bI true = 0 by decide)]
        obtain ⟨r, S, g1, g2, g3, g4, g5, g6, g7⟩ := e_mshift hs (fun i hi => (h3 i hi).1) ht fX11_addsMiddle_202 s FU M (FU_gt (by omega)) (Nat.le_refl _) (fun _ _ => rfl) (fun i a b => by omega)
        rw [g2]
        have o := g7.on [(47, 47, none)] (by decide) (by decide)
        have ik := inb_nI (show r < 5600 by omega) (by decide)
        refine ⟨sI (sL (sL (sL S 82 r A) 83 r B) 84 r C) 47 28 (nI (s + 1)), ?_, Or.inr ⟨rfl, r, g1, fun i hi => ?_, fun hr => g5 r (Nat.le_refl _) hr, sI_at .., fun i hi => ?_, ((((g7.up (by decide)).Lg (by rfl)).Lg (by rfl)).Lg (by rfl)).I (by rfl)⟩⟩
        · unfold fX11_addsMiddle_202
          simp only [ik, if_true, ix_nI (show r < 2147483648 by omega), nx_eq]
          rw [sL_i, sL_i, sL_i, o.i 47 28 rfl, h1, nI_s]
        · have hl : plLt (roR M (r - 1)) (plOf A B C) := by
            rcases pl_tri (h3 (r - 1) (by omega)).2 hq with w | w | w
            · exact w
            · exact absurd w (q2 (r - 1) (by omega))
            · exact absurd w (g6 (by omega))
          by_cases e : i = r - 1
          · rw [e]; exact hl
          · exact pl_tr (h3 i (by omega)).2 (h3 (r - 1) (by omega)).2 hq (h4 i (r - 1) (by omega) (by omega)) hl
        · by_cases e : i = r
          · subst e
            unfold inF rw3LR
            simp [sI, sL]
          · have e0 : rw3LR (sI (sL (sL (sL S 82 r A) 83 r B) 84 r C) 47 28 (nI (s + 1))) i = rw3LR S i := by
              unfold rw3LR; simp [sI, sL, e]
            rw [e0]
            unfold inF
            by_cases c : i < r
            · rw [if_pos c, g3 i (by omega)]
            · rw [if_neg c, if_neg e, g4 i (by omega) (by omega)]
  · rintro f i - - hi g
    have ik := inb_nI (show i < 5600 by omega) (by decide)
    by_cases c : roR M i = plOf A B C
    · left
      refine ⟨⟨i, hi, c⟩, ?_⟩
      unfold roR at c
      rw [plOf_inj] at c
      show fX11_addsMiddle_51 _ _ (f + 1) A B C (nI i) M = _
      rw [fX11_addsMiddle_51, h1, if_neg (nI_ge hi (by omega))]
      simp only [ik, if_true, ix_nI (show i < 2147483648 by omega), lg_eq, c.1, c.2.1, c.2.2]
      rfl
    · right
      refine ⟨(), ?_, fun j hj => ?_⟩
      · show fX11_addsMiddle_51 _ _ (f + 1) A B C (nI i) M = _
        rw [fX11_addsMiddle_51, h1, if_neg (nI_ge hi (by omega))]
        unfold roR at c
        rw [plOf_inj] at c
        unfold fX11_addsMiddle_100
        simp only [ik, if_true, ix_nI (show i < 2147483648 by omega), nx_eq, nI_s, lg_eq]
        by_cases c1 : M.2 82 i = A
        · by_cases c2 : M.2 83 i = B
          · by_cases c3 : M.2 84 i = C
            · exact absurd ⟨c1, c2, c3⟩ c
            · rw [if_pos c1, if_pos c2, if_neg c3]
          · rw [if_pos c1, if_neg c2]
        · rw [if_neg c1]
      · by_cases e : j = i
        · rw [e]; exact c
        · exact g j (by omega)
  · intro f _ _
    show fX11_addsMiddle_51 _ _ (f + 1) A B C (nI s) M = _
    rw [fX11_addsMiddle_51, h1, if_pos (nI_le (Nat.le_refl _) (by omega))]
