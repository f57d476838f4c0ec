/-! Duels.refresh -/
def nF (D : Dt) (P : Pq) (p q : Nat) : Int32 := forD D (P.2.1 p) (P.2.2 p) (P.2.1 q) (P.2.2 q)
def nB (D : Dt) (P : Pq) (B : Bt) (p q : Nat) : Bool := btD D B (P.2.1 p) (P.2.2 p) (P.2.1 q) (P.2.2 q)
/-- bits -/
def btN (f : Nat → Bool) : Nat → Nat
  | 0 => 0
  | n + 1 => btN f n + (if f n then 2 ^ n else 0)
theorem btN_lt (f : Nat → Bool) (n : Nat) : btN f n < 2 ^ n := by
  induction n with
  | zero => simp [btN]
  | succ n ih =>
    rw [btN, Nat.pow_succ]
    split <;> omega
theorem btN_congr {f g : Nat → Bool} {n : Nat} (h : ∀ i, i < n → f i = g i) : btN f n = btN g n := by
  induction n with
  | zero => rfl
  | succ n ih => rw [btN, btN, ih (fun i hi => h i (by omega)), h n (by omega)]
theorem btN_bit (f : Nat → Bool) {n q : Nat} (hq : q < n) : btN f n / 2 ^ q % 2 = if f q then 1 else 0 := by
  induction n with
  | zero => omega
  | succ n ih =>
    rw [btN]
    have hlt := btN_lt f n
    by_cases e : q = n
    · subst e
      by_cases hf : f q = true
      · simp only [hf, if_true]
        rw [Nat.add_div_right _ (Nat.two_pow_pos q), Nat.div_eq_of_lt hlt]
      · simp only [hf]
        simp [Nat.div_eq_of_lt hlt]
    · have hqn : q < n := by omega
      by_cases hf : f n = true
      · simp only [hf, if_true]
        have e2 : 2 ^ n = 2 ^ q * (2 * 2 ^ (n - q - 1)) := by
          rw [← Nat.mul_assoc, ← Nat.pow_succ, ← Nat.pow_add]
          congr 1
          omega
        rw [e2, Nat.add_mul_div_left _ _ (Nat.two_pow_pos q)]
        have := ih hqn
        omega
      · simp only [hf]
        simpa using ih hqn
theorem btN_zero (f : Nat → Bool) (n : Nat) : btN f n = 0 ↔ fb_ct f n = 0 := by
  induction n with
  | zero => simp [btN, fb_ct]
  | succ n ih =>
    rw [btN, fb_ct_succ]
    have := Nat.two_pow_pos n
    by_cases hf : f n = true
    · simp only [hf, if_true]; omega
    · simp only [hf]; simpa using ih
theorem nI_or {a n : Nat} (h : a < 2 ^ n) (hn : n < 31) : nI a ||| ((1 : Int32) <<< (nI n &&& 31)) = nI (a + 2 ^ n) := by
  have e1 : (1 : Int32) <<< (nI n &&& 31) = nI (2 ^ n) := by
    have hs : ∀ n, n < 31 → (1 : Int32) <<< (nI n &&& 31) = nI (2 ^ n) := by decide
    exact hs n hn
  have e2 := fa_or_sum (a := a) (k := n) 1 h
  rw [Nat.mul_one] at e2
  rw [e1, Int32.or_comm, e2, Nat.add_comm]
theorem k_row {i j : Nat} (hi : i < 20) (hj : j < 20) : nI i * (20 : Int32) + nI j = nI (i * 20 + j) := by
  have e : (20 : Int32) = nI 20 := rfl
  rw [e, pk_mul, nI_add]
theorem k_ways {M : Mem} {p v : Nat} (hp : M.1 1 8 = nI p) (hp20 : p ≤ 20) (hv : v < 15) (k : Int32 → Mem → Option Mem) :
    ∃ M1, fX0_addVotesOf_2 k FU (nI v) 0 M = k (nI v) M1 ∧ (∀ j, j < p → M1.1 23 j = wayT (cD M) v (M.1 8 j) (M.1 9 j)) ∧ sm [(23, 23, none)] M M1 := by
  have hh := for_ex (σ := Mem) (fun f i s => fX0_addVotesOf_2 k f (nI v) i s) (fun s => k (nI v) s) p
    (fun i s => (∀ j, j < i → s.1 23 j = wayT (cD M) v (M.1 8 j) (M.1 9 j)) ∧ sm [(23, 23, none)] M s) ?_ ?_ M ⟨fun j h => absurd h (by omega), sm_rf⟩ FU (FU_gt (by omega))
  · obtain ⟨M1, h1, h2⟩ := hh
    exact ⟨M1, h1, h2⟩
  · intro f i s hi ⟨h1, h2⟩
    have hon := h2.on [(1, 9, none)] (by decide) (by decide)
    refine ⟨sI s 23 i (wayT (cD M) v (M.1 8 i) (M.1 9 i)), ?_, fun j hj => ?_, h2.I (inS_n 23 i)⟩
    · show fX0_addVotesOf_2 k (f + 1) (nI v) (nI i) s = _
      rw [fX0_addVotesOf_2]
      have hi20 := inb_nI (show i < 20 by omega) (by decide)
      simp only [hon.i 1 8 rfl, hp, hi20, if_true, ix_nI (show i < 2147483648 by omega), hon.i 8 i rfl, hon.i 9 i rfl, k_wayTo s hv, Option.bind_some, nx_eq, nI_s, cD_on (hon.sub (R1 := [(1, 7, none)]) (by decide))]
      rw [if_neg (nI_ge hi (by omega))]
    · by_cases e : j = i
      · rw [e]; exact sI_at ..
      · rw [sI_nj _ _ e]; exact h1 j (by omega)
  · intro f s ⟨h1, h2⟩
    have hon := h2.on [(1, 9, none)] (by decide) (by decide)
    show fX0_addVotesOf_2 k (f + 1) (nI v) (nI p) s = _
    rw [fX0_addVotesOf_2, hon.i 1 8 rfl, hp, if_pos (nI_le (Nat.le_refl _) (by omega))]
/-- one voter's votes, row by row -/
def vt (M : Mem) (v : Nat) (c : Nat → Nat → Prop) [∀ a b, Decidable (c a b)] (a b : Nat) : Int32 := if c a b ∧ M.1 23 a < M.1 23 b then M.1 22 (a * 20 + b) + M.1 4 v else M.1 22 (a * 20 + b)
theorem k_addIn {M : Mem} {p v i : Nat} (hp : M.1 1 8 = nI p) (hp20 : p ≤ 20) (hv : v < 15) (hi : i < p) (k : Int32 → Int32 → Mem → Option Mem) :
    ∃ M1, fX0_addVotesOf_66 k FU (nI v) (nI i) 0 M = k (nI v) (nI i) M1 ∧ (∀ a b, a < p → b < p → M1.1 22 (a * 20 + b) = if a = i ∧ M.1 23 a < M.1 23 b then M.1 22 (a * 20 + b) + M.1 4 v else M.1 22 (a * 20 + b)) ∧ sm [(22, 22, none)] M M1 := by
  have hh := for_ex (σ := Mem) (fun f j s => fX0_addVotesOf_66 k f (nI v) (nI i) j s) (fun s => k (nI v) (nI i) s) p
    (fun j s => (∀ a b, a < p → b < p → s.1 22 (a * 20 + b) = if (a = i ∧ b < j) ∧ M.1 23 a < M.1 23 b then M.1 22 (a * 20 + b) + M.1 4 v else M.1 22 (a * 20 + b)) ∧ sm [(22, 22, none)] M s) ?_ ?_ M ⟨fun a b _ _ => by simp, sm_rf⟩ FU (FU_gt (by omega))
  · obtain ⟨M1, h1, h2, h3⟩ := hh
    refine ⟨M1, h1, fun a b ha hb => ?_, h3⟩
    rw [h2 a b ha hb]
    simp only [hb, and_true]
  · intro f j s hj ⟨h1, h2⟩
    have hon := h2.on [(1, 9, none), (23, 23, none)] (by decide) (by decide)
    have hi20 := inb_nI (show i < 20 by omega) (by decide)
    have hj20 := inb_nI (show j < 20 by omega) (by decide)
    have hij : i * 20 + j < 400 := by omega
    have hij2 := inb_nI hij (by decide)
    have hv15 := inb_nI hv (by decide)
    by_cases hc : M.1 23 i < M.1 23 j
    · refine ⟨sI s 22 (i * 20 + j) (M.1 22 (i * 20 + j) + M.1 4 v), ?_, fun a b ha hb => ?_, h2.I (inS_n 22 _)⟩
      · show fX0_addVotesOf_66 k (f + 1) (nI v) (nI i) (nI j) s = _
        rw [fX0_addVotesOf_66]
        unfold fX0_addVotesOf_115
        have hn : ¬ M.1 23 j ≤ M.1 23 i := by rw [fa_le]; have := (fa_lt _ _).mp hc; omega
        have hold : s.1 22 (i * 20 + j) = M.1 22 (i * 20 + j) := by
          rw [h1 i j hi hj]; simp
        simp only [hon.i 1 8 rfl, hp, hi20, hj20, if_true, ix_nI (show i < 2147483648 by omega), ix_nI (show j < 2147483648 by omega), hon.i 23 i rfl, hon.i 23 j rfl, k_row (show i < 20 by omega) (show j < 20 by omega), hij2, ix_nI (show i * 20 + j < 2147483648 by omega), hv15, ix_nI (show v < 2147483648 by omega), nx_eq, nI_s, hon.i 4 v rfl, hn, if_false, hold]
        rw [if_neg (nI_ge hj (by omega))]
      · by_cases e : a * 20 + b = i * 20 + j
        · have ea : a = i := by omega
          have eb : b = j := by omega
          subst ea; subst eb
          rw [sI_at, if_pos ⟨⟨rfl, by omega⟩, hc⟩]
        · rw [sI_nj _ _ e, h1 a b ha hb]
          by_cases h3 : a = i ∧ b < j
          · have : a = i ∧ b < j + 1 := ⟨h3.1, by omega⟩
            simp only [h3, this, true_and]
          · have : ¬ (a = i ∧ b < j + 1) := fun q => by
              have : b = j := by omega
              rw [q.1, this] at e
              exact e rfl
            simp only [h3, this, false_and]
    · refine ⟨s, ?_, fun a b ha hb => ?_, h2⟩
      · show fX0_addVotesOf_66 k (f + 1) (nI v) (nI i) (nI j) s = _
        rw [fX0_addVotesOf_66]
        unfold fX0_addVotesOf_115
        have hn : M.1 23 j ≤ M.1 23 i := fa_of_nlt hc
        simp only [hon.i 1 8 rfl, hp, hi20, hj20, if_true, ix_nI (show i < 2147483648 by omega), ix_nI (show j < 2147483648 by omega), hon.i 23 i rfl, hon.i 23 j rfl, nx_eq, nI_s, hn]
        rw [if_neg (nI_ge hj (by omega))]
      · rw [h1 a b ha hb]
        by_cases e : a = i ∧ b = j
        · rw [e.1, e.2]
          simp [hc]
        · by_cases h3 : a = i ∧ b < j
          · have : a = i ∧ b < j + 1 := ⟨h3.1, by omega⟩
            simp only [h3, this, true_and]
          · have : ¬ (a = i ∧ b < j + 1) := by omega
            simp only [h3, this, false_and]
  · intro f s ⟨h1, h2⟩
    have hon := h2.on [(1, 9, none)] (by decide) (by decide)
    show fX0_addVotesOf_66 k (f + 1) (nI v) (nI i) (nI p) s = _
    rw [fX0_addVotesOf_66, hon.i 1 8 rfl, hp, if_pos (nI_le (Nat.le_refl _) (by omega))]
theorem k_addVotes {M : Mem} {p v : Nat} (hp : M.1 1 8 = nI p) (hp20 : p ≤ 20) (hv : v < 15) :
    ∃ M1, fX0_addVotesOf (nI v) M = some M1 ∧ (∀ a b, a < p → b < p → M1.1 22 (a * 20 + b) = if wayT (cD M) v (M.1 8 a) (M.1 9 a) < wayT (cD M) v (M.1 8 b) (M.1 9 b) then M.1 22 (a * 20 + b) + M.1 4 v else M.1 22 (a * 20 + b)) ∧ sm [(22, 23, none)] M M1 := by
  unfold fX0_addVotesOf
  obtain ⟨M2, g1, g2, g3⟩ := k_ways hp hp20 hv fX0_addVotesOf_51
  rw [g1]
  unfold fX0_addVotesOf_51
  have on2 := g3.on [(1, 9, none), (22, 22, none)] (by decide) (by decide)
  have hp2 : M2.1 1 8 = nI p := (on2.i 1 8 rfl).trans hp
  have hh := for_ex (σ := Mem) (fun f i s => fX0_addVotesOf_53 fX0_addVotesOf_127 f (nI v) i s) (fun s => some s) p
    (fun i s => (∀ a b, a < p → b < p → s.1 22 (a * 20 + b) = if a < i ∧ M2.1 23 a < M2.1 23 b then M2.1 22 (a * 20 + b) + M2.1 4 v else M2.1 22 (a * 20 + b)) ∧ sm [(22, 22, none)] M2 s) ?_ ?_ M2 ⟨fun a b _ _ => by simp, sm_rf⟩ FU (FU_gt (by omega))
  · obtain ⟨M1, h1, h2, h3⟩ := hh
    refine ⟨M1, h1, fun a b ha hb => ?_, (g3.up (by decide)).tr (h3.up (by decide))⟩
    rw [h2 a b ha hb, g2 a ha, g2 b hb, on2.i 22 _ rfl, on2.i 4 v rfl]
    simp only [ha, true_and]
  · intro f i s hi ⟨h1, h2⟩
    have hon := h2.on [(1, 9, none), (23, 23, none)] (by decide) (by decide)
    obtain ⟨M3, q1, q2, q3⟩ := k_addIn (M := s) (v := v) ((hon.i 1 8 rfl).trans hp2) hp20 hv hi (fX0_addVotesOf_121 (fX0_addVotesOf_53 fX0_addVotesOf_127 f) fX0_addVotesOf_127)
    refine ⟨M3, ?_, fun a b ha hb => ?_, h2.tr q3⟩
    · show fX0_addVotesOf_53 fX0_addVotesOf_127 (f + 1) (nI v) (nI i) s = _
      rw [fX0_addVotesOf_53, hon.i 1 8 rfl, hp2, if_neg (nI_ge hi (by omega)), q1]
      unfold fX0_addVotesOf_121
      simp only [nx_eq, nI_s]
    · rw [q2 a b ha hb, hon.i 23 a rfl, hon.i 23 b rfl, hon.i 4 v rfl, h1 a b ha hb]
      by_cases e : a = i
      · subst e
        have : ¬ a < a := by omega
        have h4 : a < a + 1 := by omega
        simp only [this, false_and, if_false, h4, true_and]
      · by_cases h3 : a < i
        · have : a < i + 1 := by omega
          simp only [e, false_and, if_false, h3, this, true_and]
        · have : ¬ a < i + 1 := by omega
          simp only [e, false_and, if_false, h3, this]
  · intro f s ⟨h1, h2⟩
    have hon := h2.on [(1, 9, none)] (by decide) (by decide)
    show fX0_addVotesOf_53 fX0_addVotesOf_127 (f + 1) (nI v) (nI p) s = _
    rw [fX0_addVotesOf_53, hon.i 1 8 rfl, hp2, if_pos (nI_le (Nat.le_refl _) (by omega))]
    rfl
/-- all voters' votes -/
theorem k_allVotes {M : Mem} {n p : Nat} (hn : M.1 1 0 = nI n) (hn15 : n ≤ 15) (hp : M.1 1 8 = nI p) (hp20 : p ≤ 20) (h0 : ∀ a b, a < p → b < p → M.1 22 (a * 20 + b) = 0) (k : Mem → Option Mem) :
    ∃ M1, fX0_refresh_61 k FU 0 M = k M1 ∧ (∀ a b, a < p → b < p → M1.1 22 (a * 20 + b) = nF (cD M) (cP M) a b) ∧ sm [(22, 23, none)] M M1 := by
  have hD : (cD M).1 = n := by show ix (M.1 1 0) = n; rw [hn]; exact ix_nI (by omega)
  have hh := for_ex (σ := Mem) (fun f i s => fX0_refresh_61 k f i s) (fun s => k s) n
    (fun i s => (∀ a b, a < p → b < p → s.1 22 (a * 20 + b) = fd (fun v acc => if wayT (cD M) v (M.1 8 a) (M.1 9 a) < wayT (cD M) v (M.1 8 b) (M.1 9 b) then acc + (cD M).2.2.2.1 v else acc) 0 i) ∧ sm [(22, 23, none)] M s) ?_ ?_ M ⟨fun a b ha hb => h0 a b ha hb, sm_rf⟩ FU (FU_gt (by omega))
  · obtain ⟨M1, h1, h2, h3⟩ := hh
    refine ⟨M1, h1, fun a b ha hb => ?_, h3⟩
    rw [h2 a b ha hb]
    unfold nF forD
    rw [hD]
    rfl
  · intro f i s hi ⟨h1, h2⟩
    have hon := h2.on [(1, 9, none)] (by decide) (by decide)
    obtain ⟨M3, q1, q2, q3⟩ := k_addVotes (M := s) (v := i) ((hon.i 1 8 rfl).trans hp) hp20 (show i < 15 by omega)
    refine ⟨M3, ?_, fun a b ha hb => ?_, h2.tr q3⟩
    · show fX0_refresh_61 k (f + 1) (nI i) s = _
      rw [fX0_refresh_61, hon.i 1 0 rfl, hn, if_neg (nI_ge hi (by omega)), q1]
      simp only [Option.bind_some, nx_eq, nI_s]
    · rw [q2 a b ha hb, cD_on (hon.sub (R1 := [(1, 7, none)]) (by decide)), hon.i 8 a rfl, hon.i 9 a rfl, hon.i 8 b rfl, hon.i 9 b rfl, hon.i 4 i rfl, h1 a b ha hb]
      rfl
  · intro f s ⟨h1, h2⟩
    have hon := h2.on [(1, 9, none)] (by decide) (by decide)
    show fX0_refresh_61 k (f + 1) (nI n) s = _
    rw [fX0_refresh_61, hon.i 1 0 rfl, hn, if_pos (nI_le (Nat.le_refl _) (by omega))]

/-- who beats p, as bits -/
def bq (D : Dt) (P : Pq) (B : Bt) (p : Nat) : Nat → Bool := fun q => decide (q ≠ p) && nB D P B q p
theorem k_forOf {M : Mem} {a b : Nat} (ha : a < 20) (hb : b < 20) : fX0_forOf M (nI a) (nI b) = some (M.1 22 (a * 20 + b)) := by
  unfold fX0_forOf
  rw [k_row ha hb, if_pos (inb_nI (show a * 20 + b < 400 by omega) (by decide)), ix_nI (by omega)]
theorem k_findBeaters {M : Mem} {p i : Nat} {D : Dt} {P : Pq} {B : Bt} (hp : M.1 1 8 = nI p) (hp20 : p ≤ 20) (hi : i < p) (hB : okB (cB M)) (eB : cB M = B) (eT : M.1 1 7 = totD D) (hF : ∀ a b, a < p → b < p → M.1 22 (a * 20 + b) = nF D P a b) :
    ∃ M1, fX0_findBeaters (nI i) M = some M1 ∧ M1.1 24 i = nI (btN (bq D P B i) p) ∧ (∀ j, j ≠ i → M1.1 24 j = M.1 24 j) ∧ sm [(24, 24, none)] M M1 := by
  unfold fX0_findBeaters
  rw [if_pos (inb_nI (show i < 20 by omega) (by decide)), nx_eq, ix_nI (show i < 2147483648 by omega)]
  have hh := for_ex (σ := Mem) (fun f j s => fX0_findBeaters_9 fX0_findBeaters_65 f (nI i) j s) (fun s => some s) p
    (fun j s => s.1 24 i = nI (btN (bq D P B i) j) ∧ (∀ a, a ≠ i → s.1 24 a = M.1 24 a) ∧ sm [(24, 24, none)] M s) ?_ ?_ (sI M 24 i 0) ⟨sI_at .., fun a ha => sI_nj _ _ ha, sm_rf.I (inS_n 24 i)⟩ FU (FU_gt (by omega))
  · obtain ⟨M1, h1, h2, h3, h4⟩ := hh
    exact ⟨M1, h1, h2, h3, h4⟩
  · intro f j s hj ⟨h1, h2, h3⟩
    have hon := h3.on [(1, 9, none), (22, 22, none)] (by decide) (by decide)
    have hBs : cB s = B := (cB_on (hon.sub (R1 := [(1, 1, none)]) (by decide))).trans eB
    have hstep : fX0_findBeaters_9 fX0_findBeaters_65 (f + 1) (nI i) (nI j) s = fX0_findBeaters_9 fX0_findBeaters_65 f (nI i) (nI (j + 1)) (if bq D P B i j = true then sI s 24 i (s.1 24 i ||| ((1 : Int32) <<< (nI j &&& 31))) else s) := by
      rw [fX0_findBeaters_9]
      unfold fX0_findBeaters_59
      rw [hon.i 1 8 rfl, hp, if_neg (nI_ge hj (by omega))]
      by_cases e : j = i
      · subst e
        rw [if_pos rfl]
        have : ¬ bq D P B j j = true := by simp [bq]
        rw [if_neg this]
        simp only [nx_eq, nI_s]
      · have : ¬ nI j = nI i := fun q => e ((nI_eq (by omega) (by omega)).mp q)
        rw [if_neg this, k_forOf (show j < 20 by omega) (show i < 20 by omega), k_forOf (show i < 20 by omega) (show j < 20 by omega)]
        simp only [Option.bind_some]
        rw [k_isEnough s (by rw [hBs, ← eB]; exact hB), hBs, hon.i 1 7 rfl, eT, hon.i 22 _ rfl, hon.i 22 _ rfl, hF j i hj hi, hF i j hi hj]
        simp only [Option.bind_some]
        have eq : wonD B (totD D) (nF D P j i) (nF D P i j) = bq D P B i j := by
          simp only [bq, nB, btD, nF, ne_eq, e, not_false_eq_true, decide_true, Bool.true_and]
        rw [eq]
        cases hc : bq D P B i j with
        | false =>
          simp only [bI, Bool.false_eq_true, if_false, if_true, nx_eq, nI_s]
        | true =>
          have hi20 := inb_nI (show i < 20 by omega) (by decide)
          simp only [bI, if_true, show ¬ (1 : Int32) = 0 by decide, if_false, hi20, ix_nI (show i < 2147483648 by omega), nx_eq, nI_s]
    refine ⟨_, hstep, ?_⟩
    cases hc : bq D P B i j with
    | false =>
      simp only [Bool.false_eq_true, if_false]
      refine ⟨?_, h2, h3⟩
      rw [h1, btN, hc]
      simp
    | true =>
      simp only [if_true]
      refine ⟨?_, fun a ha => ?_, h3.I (inS_n 24 i)⟩
      · rw [sI_at, h1, nI_or (btN_lt _ _) (by omega), btN, hc]
        simp
      · rw [sI_nj _ _ ha]; exact h2 a ha
  · intro f s ⟨h1, h2, h3⟩
    have hon := h3.on [(1, 9, none)] (by decide) (by decide)
    show fX0_findBeaters_9 fX0_findBeaters_65 (f + 1) (nI i) (nI p) s = _
    rw [fX0_findBeaters_9, hon.i 1 8 rfl, hp, if_pos (nI_le (Nat.le_refl _) (by omega))]
    rfl
