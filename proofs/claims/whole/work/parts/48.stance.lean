/-! doubt: what a voter may be for -/
theorem k_wayFrom (M : Mem) {v q : Nat} (hv : v < 15) (hq : q < 20) (x y : Int32) : fX9_wayFrom M (nI v) x y (nI q) = some (wayF (cD M) v x y (M.1 8 q) (M.1 9 q)) := by
  unfold fX9_wayFrom
  simp only [inb_nI hq (by decide), if_true, ix_nI (show q < 2147483648 by omega)]
  rw [k_wayOver M hv]
  rfl
def Sn (a0 b0 b1 a i x y : Nat) : Prop := (a0 ≤ x ∧ x < a ∧ b0 ≤ y ∧ y ≤ b1) ∨ (x = a ∧ b0 ≤ y ∧ y < i)
theorem nI_gt {a b : Nat} (h : a < b) (hb : b < 2147483648) : nI a < nI b := by
  rw [fa_lt, nI_toInt (by omega), nI_toInt (by omega)]; omega
theorem nI_ngt {a b : Nat} (h : b ≤ a) (hb : a < 2147483648) : ¬ nI a < nI b := by
  rw [fa_lt, nI_toInt (by omega), nI_toInt (by omega)]; omega
theorem k_stances {M : Mem} {v p q X Y E : Nat} (hv : v < 15) (hp : p < 20) (hq : q < 20) (hX : M.1 2 v = nI X) (hY : M.1 3 v = nI Y) (hX1 : X < 100) (hY1 : Y < 100) (hE : E ≤ 5) :
    ∃ r, fX9_stancesOf M (nI v) (nI p) (nI q) (nI E) = some r ∧ TL (sg (cD M) v (M.1 8 p) (M.1 9 p) (M.1 8 q) (M.1 9 q)) (X - E) (min (X + E) 99) (Y - E) (min (Y + E) 99) r := by
  have hv15 := inb_nI hv (by decide)
  generalize hf : sg (cD M) v (M.1 8 p) (M.1 9 p) (M.1 8 q) (M.1 9 q) = f
  have hc : ∀ a b, c124 (f a b) := fun a b => by rw [← hf]; exact sg_c ..
  unfold fX9_stancesOf
  simp only [hv15, if_true, ix_nI (show v < 2147483648 by omega), nx_eq, hX, hY, w_lo (show X < 1000 by omega) (show E < 1000 by omega), w_hi (show X < 1000 by omega) (show E < 1000 by omega), w_hi (show Y < 1000 by omega) (show E < 1000 by omega)]
  generalize ha0 : X - E = a0 at *
  generalize ha1 : min (X + E) 99 = a1 at *
  generalize hb0 : Y - E = b0 at *
  generalize hb1 : min (Y + E) 99 = b1 at *
  have a01 : a0 ≤ a1 := by omega
  have b01 : b0 ≤ b1 := by omega
  have a199 : a1 ≤ 99 := by omega
  have b199 : b1 ≤ 99 := by omega
  have inner : ∀ (K : Int32 → Int32 → Int32 → Int32 → Int32 → Int32 → Int32 → Int32 → Option Int32) (a : Nat) (s : Int32), a0 ≤ a → a ≤ a1 → ST f s (Sn a0 b0 b1 a b0) →
      (∃ r, fX9_stancesOf_84 M (fX9_stancesOf_153 M) K FU (nI v) (nI p) (nI q) (nI E) (nI a1) (nI b1) s (nI a) (nI b0) = some r ∧ TL f a0 a1 b0 b1 r) ∨ ∃ s1, fX9_stancesOf_84 M (fX9_stancesOf_153 M) K FU (nI v) (nI p) (nI q) (nI E) (nI a1) (nI b1) s (nI a) (nI b0) = K (nI v) (nI p) (nI q) (nI E) (nI a1) (nI b1) s1 (nI a) ∧ ST f s1 (Sn a0 b0 b1 a (b1 + 1)) := by
    intro K a s h0 h1 hs
    refine for_or (σ := Int32) (fun f' i s => fX9_stancesOf_84 M (fX9_stancesOf_153 M) K f' (nI v) (nI p) (nI q) (nI E) (nI a1) (nI b1) s (nI a) i) (fun s => K (nI v) (nI p) (nI q) (nI E) (nI a1) (nI b1) s (nI a)) (fun ρ => ∃ r, ρ = some r ∧ TL f a0 a1 b0 b1 r) b0 (b1 + 1) (by omega) (fun i s => ST f s (Sn a0 b0 b1 a i)) ?_ ?_ s hs FU (by have := FU_gt (n := b1 + 1) (by omega); omega)
    · intro f' i s hi0 hi hst
      have hT : ∀ x y, Sn a0 b0 b1 a (i + 1) x y ↔ Sn a0 b0 b1 a i x y ∨ (x = a ∧ y = i) := by
        intro x y; unfold Sn; omega
      have hstep : fX9_stancesOf_84 M (fX9_stancesOf_153 M) K (f' + 1) (nI v) (nI p) (nI q) (nI E) (nI a1) (nI b1) s (nI a) (nI i) = if ((s ||| nI (f a i)) &&& ((s ||| nI (f a i)) - 1)) = 0 then fX9_stancesOf_84 M (fX9_stancesOf_153 M) K f' (nI v) (nI p) (nI q) (nI E) (nI a1) (nI b1) (s ||| nI (f a i)) (nI a) (nI (i + 1)) else some (s ||| nI (f a i)) := by
        rw [fX9_stancesOf_84, if_neg (nI_ngt (by omega) (by omega)), k_wayFrom M hv hp, k_wayFrom M hv hq]
        unfold fX9_stancesOf_140 fX9_stancesOf_153
        simp only [Option.bind_some, nx_eq, nI_s]
        rw [← hf]
        unfold sg
        generalize wayF (cD M) v (nI a) (nI i) (M.1 8 p) (M.1 9 p) = wp
        generalize wayF (cD M) v (nI a) (nI i) (M.1 8 q) (M.1 9 q) = wq
        by_cases c1 : wp < wq
        · have n1 : ¬ wq ≤ wp := by rw [fa_le]; have := (fa_lt _ _).mp c1; omega
          rw [if_neg n1, if_pos c1]; rfl
        · rw [if_pos (fa_of_nlt c1), if_neg c1]
          by_cases c2 : wq < wp
          · have n1 : ¬ wp ≤ wq := by rw [fa_le]; have := (fa_lt _ _).mp c2; omega
            rw [if_neg n1, if_pos c2]; rfl
          · rw [if_pos (fa_of_nlt c2), if_neg c2]; rfl
      rcases ST_add (hc a i) hst hT with ⟨k1, k2⟩ | ⟨k1, k2, x, y, k3, k4⟩
      · right
        refine ⟨s ||| nI (f a i), ?_, k2⟩
        refine Eq.trans hstep ?_
        rw [if_pos k1]
      · left
        refine ⟨s ||| nI (f a i), ?_, ?_⟩
        · refine Eq.trans hstep ?_
          rw [if_neg k1]
        · refine TL_mixed k2 (x := x) (y := y) (x' := a) (y' := i) ?_ ?_ k4
          · unfold wn; unfold Sn at k3; omega
          · unfold wn; omega
    · intro f' s hst
      show fX9_stancesOf_84 M (fX9_stancesOf_153 M) K (f' + 1) (nI v) (nI p) (nI q) (nI E) (nI a1) (nI b1) s (nI a) (nI (b1 + 1)) = _
      rw [fX9_stancesOf_84, if_pos (nI_gt (by omega) (by omega))]
  have hh := for_or (σ := Int32) (fun f' i s => fX9_stancesOf_59 M (fX9_stancesOf_153 M) (fX9_stancesOf_168 M) f' (nI v) (nI p) (nI q) (nI E) (nI a1) (nI b1) s i) (fun s => some s) (fun ρ => ∃ r, ρ = some r ∧ TL f a0 a1 b0 b1 r) a0 (a1 + 1) (by omega) (fun i s => ST f s (Sn a0 b0 b1 i b0)) ?_ ?_ 0 (Or.inl ⟨rfl, fun x y h => by unfold Sn at h; omega⟩) FU (by have := FU_gt (n := a1 + 1) (by omega); omega)
  · rcases hh with ⟨r, h1, h2⟩ | ⟨s, h1, h2⟩
    · exact ⟨r, h1, h2⟩
    · refine ⟨s, h1, TL_all ?_ (by unfold wn; omega)⟩
      have e : Sn a0 b0 b1 (a1 + 1) b0 = wn a0 a1 b0 b1 := by
        funext x y; apply propext; unfold Sn wn; omega
      rw [← e]; exact h2
  · intro f' i s hi0 hi hst
    have hun : fX9_stancesOf_59 M (fX9_stancesOf_153 M) (fX9_stancesOf_168 M) (f' + 1) (nI v) (nI p) (nI q) (nI E) (nI a1) (nI b1) s (nI i) = fX9_stancesOf_84 M (fX9_stancesOf_153 M) (fX9_stancesOf_162 M (fX9_stancesOf_59 M (fX9_stancesOf_153 M) (fX9_stancesOf_168 M) f') (fX9_stancesOf_153 M) (fX9_stancesOf_168 M)) FU (nI v) (nI p) (nI q) (nI E) (nI a1) (nI b1) s (nI i) (nI b0) := by
      rw [fX9_stancesOf_59, if_neg (nI_ngt (by omega) (by omega)), if_pos hv15, nx_eq, ix_nI (by omega), hY, w_lo (by omega) (by omega), hb0]
    rcases inner (fX9_stancesOf_162 M (fX9_stancesOf_59 M (fX9_stancesOf_153 M) (fX9_stancesOf_168 M) f') (fX9_stancesOf_153 M) (fX9_stancesOf_168 M)) i s hi0 (by omega) hst with ⟨r, h1, h2⟩ | ⟨s1, h1, h2⟩
    · left
      exact ⟨r, Eq.trans hun h1, h2⟩
    · right
      refine ⟨s1, ?_, ?_⟩
      · refine Eq.trans hun (h1.trans ?_)
        unfold fX9_stancesOf_162
        simp only [nx_eq, nI_s]
      · have e : Sn a0 b0 b1 i (b1 + 1) = Sn a0 b0 b1 (i + 1) b0 := by
          funext x y; apply propext; unfold Sn; omega
        rw [← e]; exact h2
  · intro f' s hst
    show fX9_stancesOf_59 M (fX9_stancesOf_153 M) (fX9_stancesOf_168 M) (f' + 1) (nI v) (nI p) (nI q) (nI E) (nI a1) (nI b1) s (nI (a1 + 1)) = _
    rw [fX9_stancesOf_59, if_pos (nI_gt (by omega) (by omega))]
    rfl
/-! the reference -/
def Fg (f : Nat → Nat → Nat) (c : Nat) (x : Int32) (S : Nat → Nat → Prop) : Prop := (x = 1 ∧ ∀ a b, S a b → f a b = c) ∨ (x = 0 ∧ ∃ a b, S a b ∧ f a b ≠ c)
theorem Fg_add {f : Nat → Nat → Nat} {c : Nat} {x x1 : Int32} {S T : Nat → Nat → Prop} {a b : Nat} (h : Fg f c x S) (hx : x1 = if x = 0 then 0 else if f a b = c then 1 else 0) (hT : ∀ u w, T u w ↔ S u w ∨ (u = a ∧ w = b)) : Fg f c x1 T := by
  rcases h with ⟨rfl, h⟩ | ⟨rfl, u, w, h1, h2⟩
  · rw [if_neg (by decide)] at hx
    by_cases e : f a b = c
    · rw [if_pos e] at hx
      refine Or.inl ⟨hx, fun u w huw => ?_⟩
      rcases (hT u w).mp huw with q | ⟨rfl, rfl⟩
      · exact h u w q
      · exact e
    · rw [if_neg e] at hx
      exact Or.inr ⟨hx, a, b, (hT a b).mpr (Or.inr ⟨rfl, rfl⟩), e⟩
  · rw [if_pos rfl] at hx
    exact Or.inr ⟨hx, u, w, (hT u w).mpr (Or.inl h1), h2⟩
theorem Fg_al {f : Nat → Nat → Nat} {c : Nat} {x : Int32} {a0 a1 b0 b1 : Nat} (h : Fg f c x (wn a0 a1 b0 b1)) : x = 0 ↔ ¬ al f a0 a1 b0 b1 c := by
  rcases h with ⟨rfl, h⟩ | ⟨rfl, u, w, h1, h2⟩
  · exact ⟨fun q => absurd q (by decide), fun q => absurd (fun a b hw => h a b hw) q⟩
  · exact ⟨fun _ q => h2 (q u w h1), fun _ => rfl⟩
noncomputable def dc (P : Prop) : Bool := @decide P (Classical.propDecidable P)
theorem dc_iff (P : Prop) : dc P = true ↔ P := by unfold dc; exact @decide_eq_true_iff P (Classical.propDecidable P)
noncomputable def su (f : Nat → Nat → Nat) (a0 a1 b0 b1 : Nat) : Int32 := if dc (al f a0 a1 b0 b1 1) = true then 1 else if dc (al f a0 a1 b0 b1 2) = true then -1 else if dc (al f a0 a1 b0 b1 4) = true then 2 else 0
theorem e_sure {M : Mem} {v p q X Y E : Nat} (hv : v < 15) (hp : p < 20) (hq : q < 20) (hX : M.1 50 v = nI X) (hY : M.1 53 v = nI Y) (hX1 : X < 100) (hY1 : Y < 100) (hE : E ≤ 5) (hS : okS (rD M) v) (p1 : inN (M.1 68 p) 100 = true) (p2 : inN (M.1 71 p) 100 = true) (q1 : inN (M.1 68 q) 100 = true) (q2 : inN (M.1 71 q) 100 = true) :
    fX11_sure M (nI v) (nI p) (nI q) (nI E) = some (su (sg (rD M) v (M.1 68 p) (M.1 71 p) (M.1 68 q) (M.1 71 q)) (X - E) (min (X + E) 99) (Y - E) (min (Y + E) 99)) := by
  have hv15 := inb_nI hv (by decide)
  have hp20 := inb_nI hp (by decide)
  have hq20 := inb_nI hq (by decide)
  generalize hf : sg (rD M) v (M.1 68 p) (M.1 71 p) (M.1 68 q) (M.1 71 q) = f
  unfold fX11_sure
  simp only [hv15, if_true, ix_nI (show v < 2147483648 by omega), nx_eq, hX, w_lo (show X < 1000 by omega) (show E < 1000 by omega)]
  generalize ha0 : X - E = a0 at *
  generalize ha1 : min (X + E) 99 = a1 at *
  generalize hb0 : Y - E = b0 at *
  generalize hb1 : min (Y + E) 99 = b1 at *
  have a01 : a0 ≤ a1 := by omega
  have b01 : b0 ≤ b1 := by omega
  have a199 : a1 ≤ 99 := by omega
  have b199 : b1 ≤ 99 := by omega
  have inner : ∀ (K : Int32 → Int32 → Int32 → Int32 → Int32 → Int32 → Int32 → Int32 → Option Int32) (a : Nat) (s : Int32 × Int32 × Int32), a0 ≤ a → a ≤ a1 → (Fg f 1 s.1 (Sn a0 b0 b1 a b0) ∧ Fg f 2 s.2.1 (Sn a0 b0 b1 a b0) ∧ Fg f 4 s.2.2 (Sn a0 b0 b1 a b0)) →
      ∃ s1 : Int32 × Int32 × Int32, fX11_sure_64 M K FU (nI v) (nI p) (nI q) (nI E) s.1 s.2.1 s.2.2 (nI a) (nI b0) = K (nI v) (nI p) (nI q) (nI E) s1.1 s1.2.1 s1.2.2 (nI a) ∧ (Fg f 1 s1.1 (Sn a0 b0 b1 a (b1 + 1)) ∧ Fg f 2 s1.2.1 (Sn a0 b0 b1 a (b1 + 1)) ∧ Fg f 4 s1.2.2 (Sn a0 b0 b1 a (b1 + 1))) := by
    intro K a s h0 h1 hs
    refine for_exF (σ := Int32 × Int32 × Int32) (fun f' i s => fX11_sure_64 M K f' (nI v) (nI p) (nI q) (nI E) s.1 s.2.1 s.2.2 (nI a) i) (fun s => K (nI v) (nI p) (nI q) (nI E) s.1 s.2.1 s.2.2 (nI a)) b0 (b1 + 1) (by omega) (fun i s => Fg f 1 s.1 (Sn a0 b0 b1 a i) ∧ Fg f 2 s.2.1 (Sn a0 b0 b1 a i) ∧ Fg f 4 s.2.2 (Sn a0 b0 b1 a i)) ?_ ?_ s hs FU (by have := FU_gt (n := b1 + 1) (by omega); omega)
    · rintro f' i ⟨x5, x6, x7⟩ hi0 hi ⟨g1, g2, g3⟩
      have hT : ∀ x y, Sn a0 b0 b1 a (i + 1) x y ↔ Sn a0 b0 b1 a i x y ∨ (x = a ∧ y = i) := by
        intro x y; unfold Sn; omega
      obtain ⟨y1, y2⟩ := way_rng hS (inN_nI (show a < 100 by omega) (by omega)) (inN_nI (show i < 100 by omega) (by omega)) p1 p2
      obtain ⟨z1, z2⟩ := way_rng hS (inN_nI (show a < 100 by omega) (by omega)) (inN_nI (show i < 100 by omega) (by omega)) q1 q2
      have ef : f a i = if wayF (rD M) v (nI a) (nI i) (M.1 68 p) (M.1 71 p) < wayF (rD M) v (nI a) (nI i) (M.1 68 q) (M.1 71 q) then 1 else if wayF (rD M) v (nI a) (nI i) (M.1 68 q) (M.1 71 q) < wayF (rD M) v (nI a) (nI i) (M.1 68 p) (M.1 71 p) then 2 else 4 := by rw [← hf]; rfl
      have hun : ∀ wp wq : Int32, wayF (rD M) v (nI a) (nI i) (M.1 68 p) (M.1 71 p) = wp → wayF (rD M) v (nI a) (nI i) (M.1 68 q) (M.1 71 q) = wq → fX11_sure_64 M K (f' + 1) (nI v) (nI p) (nI q) (nI E) x5 x6 x7 (nI a) (nI i) = fX11_sure_64 M K f' (nI v) (nI p) (nI q) (nI E) (if x5 = 0 then 0 else if 0 ≤ wp - wq then 0 else 1) (if x6 = 0 then 0 else if wp - wq ≤ 0 then 0 else 1) (if x7 = 0 then 0 else if wp - wq = 0 then 1 else 0) (nI a) (nI (i + 1)) := by
        intro wp wq ep eq
        rw [fX11_sure_64, if_pos hv15, ix_nI (by omega), hY, w_hi (by omega) (by omega), hb1, if_neg (nI_ngt (by omega) (by omega))]
        simp only [hp20, hq20, if_true, ix_nI (show p < 2147483648 by omega), ix_nI (show q < 2147483648 by omega), e_wayFrom M hv, Option.bind_some, nx_eq, ep, eq]
        unfold fX11_sure_152 fX11_sure_153 fX11_sure_169 fX11_sure_170 fX11_sure_186 fX11_sure_187
        simp only [nx_eq, nI_s]
        by_cases c5 : x5 = 0 <;> by_cases c6 : x6 = 0 <;> by_cases c7 : x7 = 0 <;> by_cases d1 : (0 : Int32) ≤ wp - wq <;> by_cases d2 : wp - wq ≤ 0 <;> by_cases d3 : wp - wq = 0 <;> simp [c5, c6, c7, d1, d2, d3]
      generalize hwp : wayF (rD M) v (nI a) (nI i) (M.1 68 p) (M.1 71 p) = wp at *
      generalize hwq : wayF (rD M) v (nI a) (nI i) (M.1 68 q) (M.1 71 q) = wq at *
      have hd : (wp - wq).toInt = wp.toInt - wq.toInt := fb_subI (by omega) (by omega)
      have z0 : (0 : Int32).toInt = 0 := rfl
      have e1 : (f a i = 1) ↔ wp.toInt < wq.toInt := by
        rw [ef]
        by_cases c1 : wp < wq
        · rw [if_pos c1]; simp [(fa_lt _ _).mp c1]
        · have this : ¬ wp.toInt < wq.toInt := fun r => c1 ((fa_lt _ _).mpr r)
          rw [if_neg c1]; split <;> simp <;> omega
      have e2 : (f a i = 2) ↔ wq.toInt < wp.toInt := by
        rw [ef]
        by_cases c1 : wp < wq
        · have := (fa_lt _ _).mp c1
          rw [if_pos c1]; simp; omega
        · rw [if_neg c1]
          by_cases c2 : wq < wp
          · rw [if_pos c2]; simp [(fa_lt _ _).mp c2]
          · have this : ¬ wq.toInt < wp.toInt := fun r => c2 ((fa_lt _ _).mpr r)
            rw [if_neg c2]; simp; omega
      have e4 : (f a i = 4) ↔ wq.toInt = wp.toInt := by
        rcases (show c124 (f a i) by rw [← hf]; exact sg_c ..) with h | h | h
        · have := e1.mp h; rw [h]; simp; omega
        · have := e2.mp h; rw [h]; simp; omega
        · have h1 : ¬ f a i = 1 := by rw [h]; decide
          have h2 : ¬ f a i = 2 := by rw [h]; decide
          rw [e1] at h1; rw [e2] at h2
          rw [h]; simp; omega
      refine ⟨(_, _, _), hun wp wq rfl rfl, Fg_add g1 ?_ hT, Fg_add g2 ?_ hT, Fg_add g3 ?_ hT⟩
      · show (if x5 = 0 then (0 : Int32) else if 0 ≤ wp - wq then 0 else 1) = _
        simp only [e1, fa_le, hd, z0]
        by_cases c : wp.toInt < wq.toInt
        · rw [if_pos c, if_neg (by omega : ¬ 0 ≤ wp.toInt - wq.toInt)]
        · rw [if_neg c, if_pos (by omega : 0 ≤ wp.toInt - wq.toInt)]
      · show (if x6 = 0 then (0 : Int32) else if wp - wq ≤ 0 then 0 else 1) = _
        simp only [e2, fa_le, hd, z0]
        by_cases c : wq.toInt < wp.toInt
        · rw [if_pos c, if_neg (by omega : ¬ wp.toInt - wq.toInt ≤ 0)]
        · rw [if_neg c, if_pos (by omega : wp.toInt - wq.toInt ≤ 0)]
      · show (if x7 = 0 then (0 : Int32) else if wp - wq = 0 then 1 else 0) = _
        simp only [e4, fa_eq (wp - wq) 0, hd, z0]
        by_cases c : wq.toInt = wp.toInt
        · rw [if_pos c, if_pos (by omega : wp.toInt - wq.toInt = 0)]
        · rw [if_neg c, if_neg (by omega : ¬ wp.toInt - wq.toInt = 0)]
    · rintro f' ⟨x5, x6, x7⟩ -
      show fX11_sure_64 M K (f' + 1) (nI v) (nI p) (nI q) (nI E) x5 x6 x7 (nI a) (nI (b1 + 1)) = _
      rw [fX11_sure_64, if_pos hv15, ix_nI (by omega), hY, w_hi (by omega) (by omega), hb1, if_pos (nI_gt (by omega) (by omega))]
  have hh := for_exF (σ := Int32 × Int32 × Int32) (fun f' i s => fX11_sure_26 M (fX11_sure_201 M) f' (nI v) (nI p) (nI q) (nI E) s.1 s.2.1 s.2.2 i) (fun s => fX11_sure_201 M s.1 s.2.1 s.2.2) a0 (a1 + 1) (by omega) (fun i s => Fg f 1 s.1 (Sn a0 b0 b1 i b0) ∧ Fg f 2 s.2.1 (Sn a0 b0 b1 i b0) ∧ Fg f 4 s.2.2 (Sn a0 b0 b1 i b0)) ?_ ?_ (1, 1, 1) ⟨Or.inl ⟨rfl, fun x y h => by unfold Sn at h; omega⟩, Or.inl ⟨rfl, fun x y h => by unfold Sn at h; omega⟩, Or.inl ⟨rfl, fun x y h => by unfold Sn at h; omega⟩⟩ FU (by have := FU_gt (n := a1 + 1) (by omega); omega)
  · obtain ⟨⟨x5, x6, x7⟩, h1, g1, g2, g3⟩ := hh
    refine Eq.trans h1 ?_
    have e : Sn a0 b0 b1 (a1 + 1) b0 = wn a0 a1 b0 b1 := by
      funext x y; apply propext; unfold Sn wn; omega
    rw [e] at g1 g2 g3
    have k1 := Fg_al g1
    have k2 := Fg_al g2
    have k3 := Fg_al g3
    show fX11_sure_201 M x5 x6 x7 = _
    unfold fX11_sure_201 fX11_sure_229 su
    simp only at k1 k2 k3
    rw [← dc_iff (al f a0 a1 b0 b1 1)] at k1
    rw [← dc_iff (al f a0 a1 b0 b1 2)] at k2
    rw [← dc_iff (al f a0 a1 b0 b1 4)] at k3
    by_cases c1 : dc (al f a0 a1 b0 b1 1) = true
    · rw [if_neg (fun q => k1.mp q c1), if_pos c1]
    · rw [if_pos (k1.mpr c1), if_neg c1]
      by_cases c2 : dc (al f a0 a1 b0 b1 2) = true
      · rw [if_neg (fun q => k2.mp q c2), if_pos c2]
      · rw [if_pos (k2.mpr c2), if_neg c2]
        by_cases c3 : dc (al f a0 a1 b0 b1 4) = true
        · rw [if_neg (fun q => k3.mp q c3), if_pos c3]
        · rw [if_pos (k3.mpr c3), if_neg c3]
  · rintro f' i ⟨x5, x6, x7⟩ hi0 hi hst
    obtain ⟨s1, h1, h2⟩ := inner (fX11_sure_195 M (fX11_sure_26 M (fX11_sure_201 M) f') (fX11_sure_201 M)) i (x5, x6, x7) hi0 (by omega) hst
    refine ⟨s1, ?_, ?_⟩
    · show fX11_sure_26 M (fX11_sure_201 M) (f' + 1) (nI v) (nI p) (nI q) (nI E) x5 x6 x7 (nI i) = _
      rw [fX11_sure_26, if_pos hv15, ix_nI (by omega), hX, w_hi (by omega) (by omega), ha1, if_neg (nI_ngt (by omega) (by omega)), if_pos hv15, nx_eq, hY, w_lo (by omega) (by omega), hb0]
      refine h1.trans ?_
      unfold fX11_sure_195
      simp only [nx_eq, nI_s]
    · have e : Sn a0 b0 b1 i (b1 + 1) = Sn a0 b0 b1 (i + 1) b0 := by
        funext x y; apply propext; unfold Sn; omega
      rw [← e]; exact h2
  · rintro f' ⟨x5, x6, x7⟩ -
    show fX11_sure_26 M (fX11_sure_201 M) (f' + 1) (nI v) (nI p) (nI q) (nI E) x5 x6 x7 (nI (a1 + 1)) = _
    rw [fX11_sure_26, if_pos hv15, ix_nI (by omega), hX, w_hi (by omega) (by omega), ha1, if_pos (nI_gt (by omega) (by omega))]
