theorem b11 : ((1 : Int32) &&& 1) = 1 := by decide
theorem b01 : ((0 : Int32) &&& 1) = 0 := by decide
theorem rn_all {b : Nat → Bool} {L : Nat} : ∀ {d s i : Nat}, s ≤ i → i < rn b L d s → b i = true
  | 0, s, i, h1, h2 => by
    have : rn b L 0 s = s := rfl
    omega
  | d + 1, s, i, h1, h2 => by
    unfold rn at h2
    by_cases c : s < L ∧ b s = true
    · rw [if_pos c] at h2
      by_cases e : i = s
      · rw [e]; exact c.2
      · exact rn_all (by omega) h2
    · rw [if_neg c] at h2
      omega
theorem kd_dig {T : Nat → Int32} {L s : Nat} : kd T L s = 3 ↔ (s < L ∧ dgB (T s) = true) := by
  unfold kd
  by_cases sl : s < L
  · rw [if_pos sl]
    by_cases c1 : ltB (T s) = true
    · rw [if_pos c1]
      refine ⟨fun w => absurd w (by decide), fun w => ?_⟩
      exfalso
      unfold ltB at c1
      have c2 := w.2
      unfold dgB at c2
      simp only [Bool.and_eq_true, decide_eq_true_eq] at c1 c2
      have a1 := (fa_le _ _).mp c1.1
      have a2 := (fa_le _ _).mp c2.2
      have e1 : (97 : Int32).toInt = 97 := rfl
      have e2 : (57 : Int32).toInt = 57 := rfl
      omega
    · rw [if_neg c1]
      by_cases c2 : dgB (T s) = true
      · rw [if_pos c2]
        exact ⟨fun _ => ⟨sl, c2⟩, fun _ => rfl⟩
      · rw [if_neg c2]
        refine ⟨fun w => ?_, fun w => absurd w.2 c2⟩
        by_cases q1 : T s = 47
        · rw [if_pos q1] at w; exact absurd w (by decide)
        · rw [if_neg q1] at w
          by_cases q2 : T s = 59
          · rw [if_pos q2] at w; exact absurd w (by decide)
          · rw [if_neg q2] at w; exact absurd w (by decide)
  · rw [if_neg sl]
    exact ⟨fun w => absurd w (by decide), fun w => absurd w.1 sl⟩
def rvF (T : Nat → Int32) (s : Nat) : Nat → Nat
  | 0 => 0
  | d + 1 => if 999 < rvF T s d then 9999 else 10 * rvF T s d + ix (T (s + d) - 48)
theorem rv_nv {T : Nat → Int32} {s : Nat} : ∀ {d : Nat}, (∀ i, i < d → ix (T (s + i) - 48) ≤ 9) → (nvF T s d ≤ 999 ∧ rvF T s d = nvF T s d) ∨ (nvF T s d = 1000 ∧ 1000 ≤ rvF T s d ∧ rvF T s d ≤ 9999)
  | 0, _ => Or.inl ⟨by show 0 ≤ 999; omega, rfl⟩
  | d + 1, h => by
    have x := h d (by omega)
    have e1 : nvF T s (d + 1) = min 1000 (nvF T s d * 10 + ix (T (s + d) - 48)) := rfl
    have e2 : rvF T s (d + 1) = if 999 < rvF T s d then 9999 else 10 * rvF T s d + ix (T (s + d) - 48) := rfl
    rcases rv_nv (d := d) (fun i hi => h i (by omega)) with ⟨h1, h2⟩ | ⟨h1, h2, h3⟩
    · rw [e1, e2, if_neg (by omega), h2]
      by_cases q : nvF T s d * 10 + ix (T (s + d) - 48) ≤ 999
      · left; omega
      · right; omega
    · rw [e1, e2, if_pos (by omega)]
      right; omega
theorem dig_run {T : Nat → Int32} {L s i : Nat} (hk : kd T L s = 3) (hi : s + i < tkE T L s) : dgB (T (s + i)) = true := by
  obtain ⟨sl, dg⟩ := kd_dig.mp hk
  have nl : ¬ ltB (T s) = true := by
    intro w
    have : kd T L s = 2 := by unfold kd; rw [if_pos sl, if_pos w]
    rw [this] at hk
    exact absurd hk (by decide)
  have tks : tkE T L s = rn (fun i => dgB (T i)) L (L - s) s := by unfold tkE; rw [if_pos sl, if_neg nl, if_pos dg]
  rw [tks] at hi
  exact rn_all (b := fun i => dgB (T i)) (show s ≤ s + i by omega) hi
theorem e_number {T : Nat → Int32} {L s lo hi : Nat} {Y : Mem} (hL : L ≤ 600) (hs : s ≤ L) (h : RS' T L s Y) (h4 : Y.1 47 4 = -1) (hlo : lo ≤ 99) (hhi : hi ≤ 99) : (nmB T L s lo hi = true → ∃ Y1, fX11_number (nI lo) (nI hi) Y = some (1, Y1) ∧ RS' T L (nxS T L s) Y1 ∧ Y1.1 47 5 = nI (nvN T L s) ∧ sm [(47, 47, some 2), (47, 47, some 3), (47, 47, some 5)] Y Y1) ∧ (nmB T L s lo hi = false → ∃ Y1, fX11_number (nI lo) (nI hi) Y = some (0, Y1) ∧ Y1.1 47 4 = nI s ∧ sm [(47, 47, some 4), (47, 47, some 5)] Y Y1) := by
  obtain ⟨⟨h1, hT⟩, h2, h3⟩ := id h
  obtain ⟨k1, k2⟩ := tk_le (T := T) hs
  -- the end: passed or not
  have keep : ∀ v : Int32, sm [(47, 47, some 5)] Y (sI Y 47 5 v) ∧ RS' T L s (sI Y 47 5 v) ∧ (sI Y 47 5 v).1 47 4 = -1 := by
    intro v
    have sV : sm [(47, 47, some 5)] Y (sI Y 47 5 v) := sm_rf.I (by rfl)
    have o := sV.on [(47, 47, some 1), (47, 47, some 2), (47, 47, some 3), (47, 47, some 4), (48, 48, none)] (by decide) (by decide)
    exact ⟨sV, ⟨⟨(o.i 47 1 rfl).trans h1, fun j hj => (o.i 48 j rfl).trans (hT j hj)⟩, (o.i 47 2 rfl).trans h2, (o.i 47 3 rfl).trans h3⟩, (o.i 47 4 rfl).trans h4⟩
  have yes : ∀ v : Int32, ∃ Y1, fX11_number_121 1 (sI Y 47 5 v) = some (1, Y1) ∧ RS' T L (nxS T L s) Y1 ∧ Y1.1 47 5 = v ∧ sm [(47, 47, some 2), (47, 47, some 3), (47, 47, some 5)] Y Y1 := by
    intro v
    obtain ⟨a1, a2, a3⟩ := keep v
    obtain ⟨Y1, b1, b2, b3⟩ := e_pass1 hL hs a2
    refine ⟨Y1, ?_, b2, ?_, (a1.up (by decide)).tr (b3.up (by decide))⟩
    · unfold fX11_number_121
      rw [b1, Option.bind_some]
      show some ((1 : Int32) &&& 1, Y1) = _
      rw [b11]
    · rw [(b3.on [(47, 47, some 5)] (by decide) (by decide)).i 47 5 rfl, sI_at]
  have no : ∀ v : Int32, ∃ Y1, fX11_number_120 (sI Y 47 5 v) = some (0, Y1) ∧ Y1.1 47 4 = nI s ∧ sm [(47, 47, some 4), (47, 47, some 5)] Y Y1 := by
    intro v
    obtain ⟨a1, a2, a3⟩ := keep v
    obtain ⟨Y1, b1, b2, b3⟩ := e_pass0 a2 a3
    refine ⟨Y1, ?_, b2, (a1.up (by decide)).tr (b3.up (by decide))⟩
    unfold fX11_number_120 fX11_number_121
    rw [b1, Option.bind_some]
    show some ((0 : Int32) &&& 1, Y1) = _
    rw [b01]
  by_cases hk : kd T L s = 3
  · obtain ⟨sl, dg⟩ := kd_dig.mp hk
    have ii := inb_nI (show s < 600 by omega) (by decide)
    have hun : fX11_number (nI lo) (nI hi) Y = fX11_number_41 fX11_number_92 FU (nI lo) (nI hi) 1 0 (nI s) Y := by
      unfold fX11_number fX11_number_31
      rw [h1, h2, if_neg (nI_ge sl (by omega)), if_pos ii, ix_nI (by omega), hT s sl, e_digit, dg, Option.bind_some, if_neg (by decide), nx_eq]
    have xb : ∀ i, s + i < tkE T L s → ix (T (s + i) - 48) ≤ 9 ∧ T (s + i) = nI (ix (T (s + i) - 48) + 48) := fun i hi => dg_nat (dig_run hk hi)
    have loop : fX11_number_41 fX11_number_92 FU (nI lo) (nI hi) 1 0 (nI s) Y = fX11_number_92 (nI lo) (nI hi) 1 (nI (rvF T s (tkE T L s - s))) Y := by
      have hh := for_exF (σ := Int32) (fun f i v => fX11_number_41 fX11_number_92 f (nI lo) (nI hi) 1 v i Y) (fun v => fX11_number_92 (nI lo) (nI hi) 1 v Y) s (tkE T L s) k1 (fun i v => v = nI (rvF T s (i - s))) ?_ ?_ 0 (by rw [Nat.sub_self]; rfl) FU (by have := FU_gt (n := 600) (by omega); omega)
      · obtain ⟨v, v1, v2⟩ := hh
        rw [v2] at v1
        exact v1
      · rintro f i v hi1 hi2 rfl
        refine ⟨_, ?_, rfl⟩
        have rb := rv_nv (T := T) (s := s) (d := i - s) (fun j hj => (xb j (by omega)).1)
        obtain ⟨x1, x2⟩ := xb (i - s) (by omega)
        rw [show s + (i - s) = i by omega] at x1 x2
        show fX11_number_41 _ (f + 1) (nI lo) (nI hi) 1 _ (nI i) Y = _
        rw [fX11_number_41, if_neg (by decide), h3, if_neg (nI_ge hi2 (by omega))]
        unfold fX11_number_84
        have er : rvF T s (i + 1 - s) = if 999 < rvF T s (i - s) then 9999 else 10 * rvF T s (i - s) + ix (T i - 48) := by
          rw [show i + 1 - s = (i - s) + 1 by omega]
          show (if 999 < rvF T s (i - s) then 9999 else 10 * rvF T s (i - s) + ix (T (s + (i - s)) - 48)) = _
          rw [show s + (i - s) = i by omega]
        by_cases q : 999 < rvF T s (i - s)
        · rw [if_neg (show ¬ nI (rvF T s (i - s)) ≤ 999 from nI_ge (a := 999) q (by omega)), nx_eq, nI_s, er, if_pos q]
          rfl
        · rw [if_pos (show nI (rvF T s (i - s)) ≤ 999 from nI_le (b := 999) (by omega) (by omega)), if_pos (inb_nI (show i < 600 by omega) (by decide)), nx_eq, nI_s, er, if_neg q, ix_nI (by omega), hT i (by omega)]
          congr 1
          generalize ix (T i - 48) = x at x1 x2
          rw [x2, show (10 : Int32) = nI 10 from rfl, pk_mul, nI_add, show (48 : Int32) = nI 48 from rfl, pk_sub (by omega)]
          congr 1
      · rintro f v rfl
        show fX11_number_41 _ (f + 1) (nI lo) (nI hi) 1 _ (nI (tkE T L s)) Y = _
        rw [fX11_number_41, if_neg (by decide), h3, if_pos (nI_le (Nat.le_refl _) (by omega))]
    have rb := rv_nv (T := T) (s := s) (d := tkE T L s - s) (fun j hj => (xb j (by omega)).1)
    have enN : nvF T s (tkE T L s - s) = nvN T L s := rfl
    rw [enN] at rb
    generalize hv : rvF T s (tkE T L s - s) = v at *
    have hin : fX11_in (sI Y 47 5 (nI v)) (nI v).toInt64 (nI lo).toInt64 (nI hi).toInt64 = some (bI (decide (lo ≤ v) && decide (v ≤ hi))) := by
      rw [e_in]
      simp only [fa_le64, Int32.toInt_toInt64]
      rw [nI_toInt (by omega), nI_toInt (by omega), nI_toInt (by omega)]
      have a1 : decide ((lo : Int) ≤ (v : Int)) = decide (lo ≤ v) := by rw [decide_eq_decide]; omega
      have a2 : decide ((v : Int) ≤ (hi : Int)) = decide (v ≤ hi) := by rw [decide_eq_decide]; omega
      rw [a1, a2]
    have e92 : fX11_number (nI lo) (nI hi) Y = if (decide (lo ≤ v) && decide (v ≤ hi)) = true then fX11_number_121 1 (sI Y 47 5 (nI v)) else fX11_number_120 (sI Y 47 5 (nI v)) := by
      rw [hun, loop]
      unfold fX11_number_92
      rw [nx_eq, if_neg (by decide), hin, Option.bind_some]
      cases (decide (lo ≤ v) && decide (v ≤ hi)) <;> rfl
    have same : nmB T L s lo hi = (decide (lo ≤ v) && decide (v ≤ hi)) := by
      unfold nmB
      rw [decide_eq_true hk, Bool.true_and]
      rcases rb with ⟨r1, r2⟩ | ⟨r1, r2, r3⟩
      · rw [r2]
      · rw [decide_eq_false (show ¬ nvN T L s ≤ hi by omega), decide_eq_false (show ¬ v ≤ hi by omega), Bool.and_false, Bool.and_false]
    refine ⟨fun w => ?_, fun w => ?_⟩
    · rw [same] at w
      rw [e92, if_pos w]
      obtain ⟨Y1, y1, y2, y3, y4⟩ := yes (nI v)
      refine ⟨Y1, y1, y2, ?_, y4⟩
      rw [y3]
      simp only [Bool.and_eq_true, decide_eq_true_eq] at w
      congr 1
      rcases rb with ⟨r1, r2⟩ | ⟨r1, r2, r3⟩ <;> omega
    · rw [same] at w
      rw [e92, if_neg (by rw [w]; decide)]
      exact no (nI v)
  · have hun : fX11_number (nI lo) (nI hi) Y = fX11_number_120 (sI Y 47 5 0) := by
      have e30 : fX11_number_30 (nI lo) (nI hi) Y = fX11_number_120 (sI Y 47 5 0) := by
        unfold fX11_number_30 fX11_number_31
        rw [nx_eq]
        obtain ⟨fu, hfu⟩ : ∃ fu, FU = fu + 1 := ⟨FU - 1, by have := FU_gt (n := 1) (by omega); omega⟩
        rw [hfu, fX11_number_41, if_pos rfl]
        unfold fX11_number_92
        rw [nx_eq, if_pos rfl]
      unfold fX11_number
      rw [h1, h2]
      by_cases sl : s < L
      · have ii := inb_nI (show s < 600 by omega) (by decide)
        have nd : dgB (T s) = false := by
          cases q : dgB (T s) with
          | false => rfl
          | true => exact absurd (kd_dig.mpr ⟨sl, q⟩) hk
        rw [if_neg (nI_ge sl (by omega)), if_pos ii, ix_nI (by omega), hT s sl, e_digit, nd, Option.bind_some, if_pos (by decide)]
        exact e30
      · rw [if_pos (nI_le (by omega) (by omega))]
        exact e30
    have nf : nmB T L s lo hi = false := by
      unfold nmB
      rw [decide_eq_false hk]
      rfl
    refine ⟨(fun w => by rw [nf] at w; cases w), fun _ => ?_⟩
    rw [hun]
    exact no 0
