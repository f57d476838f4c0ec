/-! need, count -/
def gaI (D : Dt) (P : Pq) (p i : Nat) : Int32 := fd (fun q acc => if q = i then acc else imax acc (nF D P q i)) 0 p
def lnN (g : Nat → Int32) : Nat → Nat
  | 0 => 0
  | i + 1 => if g i < g (lnN g i) then i else lnN g i
theorem lnN_lt (g : Nat → Int32) : ∀ i, lnN g (i + 1) < i + 1
  | 0 => by rw [lnN]; split <;> (try rw [lnN]) <;> omega
  | i + 1 => by
    have := lnN_lt g i
    rw [lnN]
    split <;> omega
theorem lnN_1 (g : Nat → Int32) : lnN g 1 = 0 := by have h : lnN g 1 < 1 := lnN_lt g 0; omega
theorem k_greatest {M : Mem} {p i : Nat} (hp : M.1 1 8 = nI p) (hp20 : p ≤ 20) (hi : i < p) (D : Dt) (P : Pq) (hF : ∀ a b, a < p → b < p → M.1 22 (a * 20 + b) = nF D P a b) : fX0_greatestAgainst M (nI i) = some (gaI D P p i) := by
  unfold fX0_greatestAgainst
  have hh := (for_up (σ := Int32) (fun f q acc => fX0_greatestAgainst_4 M (fX0_greatestAgainst_37 M) f (nI i) acc q) (fun acc => some acc) p
    (fun q acc => if q = i then acc else imax acc (nF D P q i)) (fun _ _ => True) ?_ (fun _ _ _ _ => trivial) ?_ 0 trivial FU (FU_gt (by omega))).1
  · exact hh
  · intro f q s hq _
    show fX0_greatestAgainst_4 M (fX0_greatestAgainst_37 M) (f + 1) (nI i) s (nI q) = _
    rw [fX0_greatestAgainst_4, hp, if_neg (nI_ge hq (by omega))]
    unfold fX0_greatestAgainst_31
    simp only [nx_eq, nI_s]
    by_cases e : q = i
    · subst e; rw [if_pos rfl, if_pos rfl]
    · have : ¬ nI q = nI i := fun r => e ((nI_eq (by omega) (by omega)).mp r)
      rw [if_neg this, if_neg e, k_forOf (by omega) (by omega), Option.bind_some, hF q i hq hi]
  · intro f s _
    show fX0_greatestAgainst_4 M (fX0_greatestAgainst_37 M) (f + 1) (nI i) s (nI p) = _
    rw [fX0_greatestAgainst_4, hp, if_pos (nI_le (Nat.le_refl _) (by omega))]
    rfl
theorem e_needOf {M : Mem} {n p i : Nat} (h : DI M n p) (hi : i < p) : fX11_needOf M (nI i) = some (gaI (cD M) (cP M) p i) := by
  have hp20 := h.p20
  unfold fX11_needOf
  have hh := (for_up (σ := Int32) (fun f q acc => fX11_needOf_4 M (fX11_needOf_34 M) f (nI i) acc q) (fun acc => some acc) p
    (fun q acc => if q = i then acc else imax acc (nF (cD M) (cP M) q i)) (fun _ _ => True) ?_ (fun _ _ _ _ => trivial) ?_ 0 trivial FU (FU_gt (by omega))).1
  · exact hh
  · intro f q s hq _
    show fX11_needOf_4 M (fX11_needOf_34 M) (f + 1) (nI i) s (nI q) = _
    rw [fX11_needOf_4, e_places, Option.bind_some, h.2.1.2.2.2, if_neg (nI_ge hq (by omega))]
    unfold fX11_needOf_28
    simp only [nx_eq, nI_s]
    by_cases e : q = i
    · subst e; rw [if_pos rfl, if_pos rfl]
    · have : ¬ nI q = nI i := fun r => e ((nI_eq (by omega) (by omega)).mp r)
      rw [if_neg this, if_neg e, e_nF h hq hi, Option.bind_some]
  · intro f s _
    show fX11_needOf_4 M (fX11_needOf_34 M) (f + 1) (nI i) s (nI p) = _
    rw [fX11_needOf_4, e_places, Option.bind_some, h.2.1.2.2.2, if_pos (nI_le (Nat.le_refl _) (by omega))]
    rfl
theorem k_leastNeedy {M : Mem} {p : Nat} (hp : M.1 1 8 = nI p) (hp20 : p ≤ 20) (hp1 : 1 ≤ p) (D : Dt) (P : Pq) (hF : ∀ a b, a < p → b < p → M.1 22 (a * 20 + b) = nF D P a b) : fX0_leastNeedy M = some (nI (lnN (gaI D P p) p)) := by
  unfold fX0_leastNeedy
  have hh := for_exF (σ := Int32) (fun f i s => fX0_leastNeedy_4 M (fX0_leastNeedy_36 M) f s i) (fun s => some s) 1 p hp1 (fun i s => s = nI (lnN (gaI D P p) i)) ?_ ?_ 0 (by rw [lnN_1]; rfl) FU (by have := FU_gt (n := p) (by omega); omega)
  · obtain ⟨s, h1, h2⟩ := hh
    rw [h2] at h1
    exact h1
  · intro f i s h1 hi hs
    refine ⟨nI (lnN (gaI D P p) (i + 1)), ?_, rfl⟩
    show fX0_leastNeedy_4 M (fX0_leastNeedy_36 M) (f + 1) s (nI i) = _
    have hl : lnN (gaI D P p) i < i := by
      have := lnN_lt (gaI D P p) (i - 1)
      rw [show i - 1 + 1 = i by omega] at this
      exact this
    rw [fX0_leastNeedy_4, hp, if_neg (nI_ge hi (by omega)), hs, k_greatest hp hp20 hi D P hF, k_greatest hp hp20 (show lnN (gaI D P p) i < p by omega) D P hF]
    unfold fX0_leastNeedy_30
    simp only [Option.bind_some, nx_eq, nI_s]
    rw [lnN]
    by_cases c : gaI D P p i < gaI D P p (lnN (gaI D P p) i)
    · rw [if_pos c, if_neg (by rw [fa_le]; have := (fa_lt _ _).mp c; omega)]
    · rw [if_neg c, if_pos (fa_of_nlt c)]
  · intro f s hs
    show fX0_leastNeedy_4 M (fX0_leastNeedy_36 M) (f + 1) s (nI p) = _
    rw [fX0_leastNeedy_4, hp, if_pos (nI_le (Nat.le_refl _) (by omega))]
    rfl
theorem e_needLeast {M : Mem} {n p : Nat} (h : DI M n p) (hp1 : 1 ≤ p) : fX11_need_38 M (fX11_need_67 M) FU 0 1 = some (nI (lnN (gaI (cD M) (cP M) p) p)) := by
  have hp20 := h.p20
  have hh := for_exF (σ := Int32) (fun f i s => fX11_need_38 M (fX11_need_67 M) f s i) (fun s => some s) 1 p hp1 (fun i s => s = nI (lnN (gaI (cD M) (cP M) p) i)) ?_ ?_ 0 (by rw [lnN_1]; rfl) FU (by have := FU_gt (n := p) (by omega); omega)
  · obtain ⟨s, h1, h2⟩ := hh
    rw [h2] at h1
    exact h1
  · intro f i s h1 hi hs
    refine ⟨nI (lnN (gaI (cD M) (cP M) p) (i + 1)), ?_, rfl⟩
    show fX11_need_38 M (fX11_need_67 M) (f + 1) s (nI i) = _
    have hl : lnN (gaI (cD M) (cP M) p) i < i := by
      have := lnN_lt (gaI (cD M) (cP M) p) (i - 1)
      rw [show i - 1 + 1 = i by omega] at this
      exact this
    rw [fX11_need_38, e_places, Option.bind_some, h.2.1.2.2.2, if_neg (nI_ge hi (by omega)), hs, e_needOf h hi, e_needOf h (show lnN (gaI (cD M) (cP M) p) i < p by omega)]
    unfold fX11_need_61
    simp only [Option.bind_some, nx_eq, nI_s]
    rw [lnN]
    by_cases c : gaI (cD M) (cP M) p i < gaI (cD M) (cP M) p (lnN (gaI (cD M) (cP M) p) i)
    · rw [if_pos c, if_neg (by rw [fa_le]; have := (fa_lt _ _).mp c; omega)]
    · rw [if_neg c, if_pos (fa_of_nlt c)]
  · intro f s hs
    show fX11_need_38 M (fX11_need_67 M) (f + 1) s (nI p) = _
    rw [fX11_need_38, e_places, Option.bind_some, h.2.1.2.2.2, if_pos (nI_le (Nat.le_refl _) (by omega))]
    rfl
theorem s_need {M : Mem} {n p : Nat} (h : DI M n p) (hk : DK M p) (a : Int32) : ∃ r M1, fX10_need a M = some (r, M1) ∧ fX11_need M1 a = some r ∧ DR M M1 p := by
  have hp := h.p20
  unfold fX10_need fX11_need fX10_need_27 fX11_need_21
  rw [h.2.1.2.1, k_hasPlace M a h.2.1.2.1 hp]
  simp only [Option.bind_some, e_places]
  by_cases c2 : nI p < 2
  · refine ⟨-1, M, by rw [if_pos c2], ?_, DR_rf hk⟩
    rw [h.2.1.2.2.2, if_pos c2]
  · have hp2 : 2 ≤ p := by
      have e2 : (2 : Int32) = nI 2 := rfl
      rw [e2, fa_lt, nI_toInt (by omega), nI_toInt (by omega)] at c2
      omega
    obtain ⟨M1, h1, h2, h3, h4⟩ := k_ref h hk
    rw [if_neg c2]
    by_cases ca : a = -1
    · refine ⟨nI (lnN (gaI (cD M1) (cP M1) p) p), M1, ?_, ?_, h4⟩
      · rw [if_pos ca]
        unfold fX10_need_29 fX10_need_59
        rw [h1]
        simp only [Option.bind_some]
        rw [if_pos ca, k_leastNeedy h3.2.1.2.1 hp (by omega) _ _ h2.1]
        rfl
      · rw [h3.2.1.2.2.2, if_neg c2, if_pos ca]
        unfold fX11_need_23
        rw [if_pos ca]
        exact e_needLeast h3 (by omega)
    · rw [if_neg ca]
      cases ha : inN a p with
      | false =>
        refine ⟨-1, M, rfl, ?_, DR_rf hk⟩
        rw [h.2.1.2.2.2, if_neg c2, if_neg ca, e_isPlace M a h.2.1.2.2.2 hp, ha]; rfl
      | true =>
        obtain ⟨i, hi, rfl⟩ := inN_of ha (by omega)
        refine ⟨gaI (cD M1) (cP M1) p i, M1, ?_, ?_, h4⟩
        · rw [if_neg (by decide)]
          unfold fX10_need_29 fX10_need_59
          rw [h1]
          simp only [Option.bind_some]
          rw [if_neg ca, k_greatest h3.2.1.2.1 hp hi _ _ h2.1]
          rfl
        · rw [h3.2.1.2.2.2, if_neg c2, if_neg ca, e_isPlace M1 _ h3.2.1.2.2.2 hp, ha]
          simp only [Option.bind_some]
          rw [if_neg (by decide)]
          unfold fX11_need_23
          rw [if_neg ca, e_needOf h3 hi]
          rfl
/-! pairs counted by rows and by columns -/
def sN (f : Nat → Nat) : Nat → Nat
  | 0 => 0
  | n + 1 => sN f n + f n
theorem sN_add (f g : Nat → Nat) : ∀ n, sN (fun i => f i + g i) n = sN f n + sN g n
  | 0 => rfl
  | n + 1 => by rw [sN, sN, sN, sN_add f g n]; omega
theorem sN_0 : ∀ n, sN (fun _ => 0) n = 0
  | 0 => rfl
  | n + 1 => by rw [sN, sN_0 n]
theorem sN_swap (f : Nat → Nat → Nat) (m : Nat) : ∀ n, sN (fun i => sN (fun j => f i j) m) n = sN (fun j => sN (fun i => f i j) n) m
  | 0 => by
    show 0 = sN (fun _ => 0) m
    rw [sN_0]
  | n + 1 => by
    rw [sN, sN_swap f m n, ← sN_add]
    rfl
theorem sN_congr {f g : Nat → Nat} {n : Nat} (h : ∀ i, i < n → f i = g i) : sN f n = sN g n := by
  induction n with
  | zero => rfl
  | succ n ih => rw [sN, sN, ih (fun i hi => h i (by omega)), h n (by omega)]
theorem ct_sN (f : Nat → Bool) : ∀ n, fb_ct f n = sN (fun i => if f i then 1 else 0) n
  | 0 => rfl
  | n + 1 => by rw [fb_ct_succ, sN, ct_sN f n]
theorem ps_sN (D : Dt) (P : Pq) (B : Bt) (p : Nat) : ∀ n, psN D P B p n = sN (fun i => fb_ct (bq D P B i) p) n
  | 0 => rfl
  | n + 1 => by rw [psN, sN, ps_sN D P B p n]
theorem e_pairs {M : Mem} {n p : Nat} (h : DI M n p) : fX11_pairs M = some (nI (psN (cD M) (cP M) (cB M) p p)) := by
  have hp20 := h.p20
  unfold fX11_pairs
  have hh := (for_up (σ := Int32) (fun f i acc => fX11_pairs_4 M (fX11_pairs_51 M) f acc i) (fun acc => some acc) p
    (fun i acc => acc + nI (fb_ct (nB (cD M) (cP M) (cB M) i) p)) (fun _ _ => True) ?_ (fun _ _ _ _ => trivial) ?_ 0 trivial FU (FU_gt (by omega))).1
  · refine Eq.trans hh ?_
    have e1 : ∀ m, fd (fun i (acc : Int32) => acc + nI (fb_ct (nB (cD M) (cP M) (cB M) i) p)) 0 m = nI (sN (fun i => fb_ct (nB (cD M) (cP M) (cB M) i) p) m) := by
      intro m
      induction m with
      | zero => rfl
      | succ m ih =>
        show fd _ 0 m + _ = _
        rw [ih, nI_add]
        rfl
    rw [e1, ps_sN]
    congr 2
    have a1 : sN (fun i => fb_ct (nB (cD M) (cP M) (cB M) i) p) p = sN (fun i => sN (fun j => if nB (cD M) (cP M) (cB M) i j then 1 else 0) p) p := sN_congr (fun i _ => ct_sN _ _)
    have a2 : sN (fun i => fb_ct (bq (cD M) (cP M) (cB M) i) p) p = sN (fun i => sN (fun j => if nB (cD M) (cP M) (cB M) j i then 1 else 0) p) p := sN_congr (fun i _ => by
      rw [ct_sN]
      exact sN_congr (fun j _ => by rw [bq_nB h]))
    rw [a1, a2, sN_swap]
  · intro f i s hi _
    show fX11_pairs_4 M (fX11_pairs_51 M) (f + 1) s (nI i) = _
    rw [fX11_pairs_4, e_places, Option.bind_some, h.2.1.2.2.2, if_neg (nI_ge hi (by omega))]
    have h2 := (for_up (σ := Int32) (fun f2 j acc => fX11_pairs_14 M (fX11_pairs_45 M (fX11_pairs_4 M (fX11_pairs_51 M) f) (fX11_pairs_51 M)) f2 acc (nI i) j) (fun acc => fX11_pairs_45 M (fX11_pairs_4 M (fX11_pairs_51 M) f) (fX11_pairs_51 M) acc (nI i)) p
      (fun j acc => acc + bI (nB (cD M) (cP M) (cB M) i j)) (fun _ _ => True) ?_ (fun _ _ _ _ => trivial) ?_ s trivial FU (FU_gt (by omega))).1
    · refine Eq.trans h2 ?_
      unfold fX11_pairs_45
      simp only [nx_eq, nI_s]
      have e2 : ∀ m, fd (fun j (acc : Int32) => acc + bI (nB (cD M) (cP M) (cB M) i j)) s m = s + nI (fb_ct (nB (cD M) (cP M) (cB M) i) m) := by
        intro m
        induction m with
        | zero => show s = s + 0; rw [Int32.add_zero]
        | succ m ih =>
          show fd _ s m + _ = _
          rw [ih, fb_ct_succ, Int32.add_assoc]
          congr 1
          have : bI (nB (cD M) (cP M) (cB M) i m) = nI (if nB (cD M) (cP M) (cB M) i m then 1 else 0) := by cases nB (cD M) (cP M) (cB M) i m <;> rfl
          rw [this, nI_add]
      rw [e2]
    · intro f2 j s2 hj _
      show fX11_pairs_14 M _ (f2 + 1) s2 (nI i) (nI j) = _
      rw [fX11_pairs_14, e_places, Option.bind_some, h.2.1.2.2.2, if_neg (nI_ge hj (by omega)), e_nB h hi hj, Option.bind_some]
      unfold fX11_pairs_37
      simp only [nx_eq, nI_s]
      cases nB (cD M) (cP M) (cB M) i j <;> rfl
    · intro f2 s2 _
      show fX11_pairs_14 M _ (f2 + 1) s2 (nI i) (nI p) = _
      rw [fX11_pairs_14, e_places, Option.bind_some, h.2.1.2.2.2, if_pos (nI_le (Nat.le_refl _) (by omega))]
  · intro f s _
    show fX11_pairs_4 M (fX11_pairs_51 M) (f + 1) s (nI p) = _
    rw [fX11_pairs_4, e_places, Option.bind_some, h.2.1.2.2.2, if_pos (nI_le (Nat.le_refl _) (by omega))]
    rfl
theorem s_count {M : Mem} {n p : Nat} (h : DI M n p) (hk : DK M p) (h48 : M.1 47 48 = M.1 45 1) (hL : M.1 47 1 = M.1 10 1) (a : Int32) : ∃ r M1, fX10_count a M = some (r, M1) ∧ fX11_count M1 a = some r ∧ DR M M1 p := by
  have hp := h.p20
  unfold fX10_count fX11_count
  by_cases c0 : a = 0
  · refine ⟨_, M, if_pos c0, ?_, DR_rf hk⟩
    rw [if_pos c0, e_voters, h.2.1.1, h.2.1.2.2.1]; rfl
  by_cases c1 : a = 1
  · refine ⟨_, M, by rw [if_neg c0, if_pos c1], ?_, DR_rf hk⟩
    rw [if_neg c0, if_pos c1, e_places, h.2.1.2.1, h.2.1.2.2.2]; rfl
  by_cases c2 : a = 2
  · refine ⟨_, M, by rw [if_neg c0, if_neg c1, if_pos c2], ?_, DR_rf hk⟩
    rw [if_neg c0, if_neg c1, if_pos c2, e_total M h.2.1.2.2.1 h.n15, ← h.2.2.2.2.1.tot, h.2.2.2.2.2.2.2]; rfl
  by_cases c3 : a = 3
  · refine ⟨_, M, by rw [if_neg c0, if_neg c1, if_neg c2, if_pos c3], ?_, DR_rf hk⟩
    rw [if_neg c0, if_neg c1, if_neg c2, if_pos c3, h48]
  by_cases c4 : a = 4
  · refine ⟨_, M, by rw [if_neg c0, if_neg c1, if_neg c2, if_neg c3, if_pos c4], ?_, DR_rf hk⟩
    rw [if_neg c0, if_neg c1, if_neg c2, if_neg c3, if_pos c4, hL]
  by_cases c5 : a = 5
  · obtain ⟨M1, h1, h2, h3, h4⟩ := k_ref h hk
    refine ⟨_, M1, by rw [if_neg c0, if_neg c1, if_neg c2, if_neg c3, if_neg c4, if_pos c5, h1]; rfl, ?_, h4⟩
    rw [if_neg c0, if_neg c1, if_neg c2, if_neg c3, if_neg c4, if_pos c5, e_pairs h3, h2.2.2.1]; rfl
  refine ⟨_, M, by rw [if_neg c0, if_neg c1, if_neg c2, if_neg c3, if_neg c4, if_neg c5], ?_, DR_rf hk⟩
  rw [if_neg c0, if_neg c1, if_neg c2, if_neg c3, if_neg c4, if_neg c5]
