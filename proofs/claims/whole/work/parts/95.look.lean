/-! the first of n that has p, as an answer -/
def ffI (p : Nat → Bool) (n : Nat) : Int32 := match ff p n with | some q => nI q | none => -1
theorem for_ffI {ρ : Type} (L : Nat → Int32 → Option (Int32 × ρ)) (B : ρ) (p : Nat → Bool) (n : Nat) (hs : ∀ f i, i < n → L (f + 1) (nI i) = if p i = true then some (nI i, B) else L f (nI (i + 1))) (he : ∀ f, L (f + 1) (nI n) = some (-1, B)) (f : Nat) (hf : n < f) : L f (nI 0) = some (ffI p n, B) := by
  have hh := for_any L (some ((-1 : Int32), B)) (fun q => some (nI q, B)) p n hs he f hf
  rw [hh]
  unfold ffI
  cases ff p n <;> rfl
theorem for_ffI1 (L : Nat → Int32 → Option Int32) (p : Nat → Bool) (n : Nat) (hs : ∀ f i, i < n → L (f + 1) (nI i) = if p i = true then some (nI i) else L f (nI (i + 1))) (he : ∀ f, L (f + 1) (nI n) = some (-1)) (f : Nat) (hf : n < f) : L f (nI 0) = some (ffI p n) := by
  have hh := for_any L (some (-1 : Int32)) (fun q => some (nI q)) p n hs he f hf
  rw [hh]
  unfold ffI
  cases ff p n <;> rfl
/-! the Field as it stands for a point -/
def winB (D : Dt) (B : Bt) (a q : Nat) : Bool := btD D B (nI (q / 100)) (nI (q % 100)) (nI (a / 100)) (nI (a % 100))
def gtD (D : Dt) (a n : Nat) : Int32 := fd (fun q m => imax m (forD D (nI (q / 100)) (nI (q % 100)) (nI (a / 100)) (nI (a % 100)))) 0 n
def FdC (M : Mem) (a : Nat) : Prop := M.1 141 6 = nI (fb_ct (winB (cD M) (cB M) a) 10000) ∧ M.1 141 7 = gtD (cD M) a 10000 ∧ ((M.1 141 8 = -1 ∧ ∀ q, q < 10000 → M.1 144 q = bI (winB (cD M) (cB M) a q)) ∨ CutS (winB (cD M) (cB M) a) M)
def FK (M : Mem) : Prop := ∀ a, a < 10000 → M.1 141 9 = nI a → M.1 141 10 = M.1 1 14 → FdC M a
theorem CutS_on {W : Nat → Bool} {M M1 : Mem} (h : on [(141, 141, some 8), (144, 146, none)] M M1) (hc : CutS W M) : CutS W M1 := by
  obtain ⟨c1, c2, c3, c4, c5, c6⟩ := hc
  refine ⟨(h.i 141 8 rfl).trans c1, fun p hp hs => ?_, (h.i 146 _ rfl).trans c3, fun i hi => ?_, fun q hq hw => ?_, fun q hq => ?_⟩
  · rw [h.i 146 _ rfl, h.i 145 _ rfl]; exact c2 p hp hs
  · obtain ⟨q, q1, q2, q3⟩ := c4 i hi
    exact ⟨q, q1, (h.i 145 _ rfl).trans q2, q3⟩
  · obtain ⟨i, i1, i2⟩ := c5 q hq hw
    exact ⟨i, i1, (h.i 145 _ rfl).trans i2⟩
  · rw [h.i 144 _ rfl]; exact c6 q hq
theorem FdC_on {M M1 : Mem} {a : Nat} (h : on [(1, 7, none), (141, 141, some 6), (141, 141, some 7), (141, 141, some 8), (144, 146, none)] M M1) (hf : FdC M a) : FdC M1 a := by
  have e1 : cD M1 = cD M := cD_on (h.sub (by decide))
  have e2 : cB M1 = cB M := cB_on (h.sub (by decide))
  obtain ⟨f1, f2, f3⟩ := hf
  unfold FdC
  rw [e1, e2, h.i 141 6 rfl, h.i 141 7 rfl, h.i 141 8 rfl]
  refine ⟨f1, f2, ?_⟩
  rcases f3 with ⟨w1, w2⟩ | w
  · exact Or.inl ⟨w1, fun q hq => (h.i 144 q rfl).trans (w2 q hq)⟩
  · exact Or.inr (CutS_on (h.sub (by decide)) w)
theorem FK_on {M M1 : Mem} (h : on [(1, 7, none), (141, 141, none), (144, 146, none)] M M1) (hf : FK M) : FK M1 := by
  intro a ha h1 h2
  rw [h.i 141 9 rfl] at h1
  rw [h.i 141 10 rfl, h.i 1 14 rfl] at h2
  exact FdC_on (h.sub (by decide)) (hf a ha h1 h2)
theorem k_look30 {M : Mem} {n p a : Nat} (h : DI M n p) (ha : a < 10000) : ∃ M1, fX1_lookFrom_30 (nI (a / 100)) (nI (a % 100)) (nI a) M = some M1 ∧ FdC M1 a ∧ M1.1 141 9 = nI a ∧ M1.1 141 10 = M.1 1 14 ∧ sm [(141, 144, none)] M M1 := by
  have e10 : (10000 : Int32) = nI 10000 := rfl
  unfold fX1_lookFrom_30
  simp only [nx_eq]
  have e14 : (sI M 141 9 (nI a)).1 1 14 = M.1 1 14 := by simp [sI]
  rw [e14]
  generalize hA : sI (sI (sI M 141 9 (nI a)) 141 10 (M.1 1 14)) 141 8 (-1) = A
  have sA : sm [(141, 144, none)] M A := by rw [← hA]; exact ((sm_rf.I (by rfl)).I (by rfl)).I (by rfl)
  have A8 : A.1 141 8 = -1 := by rw [← hA]; exact sI_at ..
  have A9 : A.1 141 9 = nI a := by rw [← hA]; simp [sI]
  have A10 : A.1 141 10 = M.1 1 14 := by rw [← hA]; simp [sI]
  have dA : DI A n p := DI_on (sA.on _ (by decide) (by decide)) h
  have cA : cD A = cD M := cD_on (sA.on _ (by decide) (by decide))
  have bA : cB A = cB M := cB_on (sA.on _ (by decide) (by decide))
  obtain ⟨B, w1, w2, w3⟩ := k_weigh dA (show a / 100 < 100 by omega) (show a % 100 < 100 by omega)
  rw [w1, Option.bind_some]
  generalize hC : sI (sI B 141 6 0) 141 7 0 = C
  have sC : sm [(141, 141, some 6), (141, 141, some 7)] B C := by rw [← hC]; exact (sm_rf.I (by rfl)).I (by rfl)
  have C6 : C.1 141 6 = nI 0 := by rw [← hC]; simp [sI]; rfl
  have C7 : C.1 141 7 = 0 := by rw [← hC]; exact sI_at ..
  have sMC : sm [(141, 144, none)] M C := (sA.tr (w3.up (by decide))).tr (sC.up (by decide))
  have oC := sC.on [(142, 143, none), (141, 141, some 8), (141, 141, some 9), (141, 141, some 10)] (by decide) (by decide)
  have oB := w3.on [(141, 141, none)] (by decide) (by decide)
  have hh := for_ex (σ := Mem) (fun f i s => fX1_lookFrom_70 fX1_lookFrom_158 f i s) (fun s => some s) 10000
    (fun i S => sm [(141, 141, some 6), (141, 141, some 7), (144, 144, none)] C S ∧ S.1 141 6 = nI (fb_ct (winB (cD M) (cB M) a) i) ∧ S.1 141 7 = gtD (cD M) a i ∧ ∀ q, q < i → S.1 144 q = bI (winB (cD M) (cB M) a q)) ?_ ?_ C ⟨sm_rf, C6, C7, fun q h => absurd h (by omega)⟩ FU (FU_gt (by omega))
  · obtain ⟨S, k1, k2, k3, k4, k5⟩ := hh
    have oS := k2.on [(141, 141, some 8), (141, 141, some 9), (141, 141, some 10)] (by decide) (by decide)
    have sS : sm [(141, 144, none)] M S := sMC.tr (k2.up (by decide))
    have cS' : cD S = cD M := cD_on (sS.on _ (by decide) (by decide))
    have bS : cB S = cB M := cB_on (sS.on _ (by decide) (by decide))
    refine ⟨S, k1, ?_, ?_, ?_, sS⟩
    · unfold FdC
      rw [cS', bS]
      refine ⟨k3, k4, Or.inl ⟨?_, k5⟩⟩
      rw [oS.i 141 8 rfl, oC.i 141 8 rfl, oB.i 141 8 rfl]; exact A8
    · rw [oS.i 141 9 rfl, oC.i 141 9 rfl, oB.i 141 9 rfl]; exact A9
    · rw [oS.i 141 10 rfl, oC.i 141 10 rfl, oB.i 141 10 rfl]; exact A10
  · rintro f i S hi ⟨g1, g2, g3, g4⟩
    have ii := inb_nI hi (by decide)
    have o := g1.on [(1, 1, none), (142, 143, none)] (by decide) (by decide)
    have oM := (sMC.tr (g1.up (by decide))).on [(1, 1, none)] (by decide) (by decide)
    have bS : cB S = cB M := cB_on oM
    have e17 : A.1 1 7 = M.1 1 7 := (sA.on [(1, 1, none)] (by decide) (by decide)).i 1 7 rfl
    obtain ⟨v1, v2⟩ := w2 i hi
    rw [cA] at v1 v2
    have s142 : S.1 142 i = forD (cD M) (nI (i / 100)) (nI (i % 100)) (nI (a / 100)) (nI (a % 100)) := by rw [o.i 142 i rfl, oC.i 142 i rfl]; exact v1
    have s143 : S.1 1 7 - S.1 143 i = forD (cD M) (nI (a / 100)) (nI (a % 100)) (nI (i / 100)) (nI (i % 100)) := by rw [o.i 143 i rfl, oC.i 143 i rfl, oM.i 1 7 rfl, ← e17]; exact v2
    have en : fX8_isEnough_t S (S.1 142 i) (S.1 1 7 - S.1 143 i) = some (bI (winB (cD M) (cB M) a i)) := by
      have hB : okB (cB S) := by rw [bS]; exact h.2.2.2.2.2.2.1.2.1
      rw [k_isEnough S hB, s142, s143, bS, oM.i 1 7 rfl, h.2.2.2.2.2.2.2]
      rfl
    generalize hw : winB (cD M) (cB M) a i = w at *
    refine ⟨if w = true then sI (sI (sI S 144 i (bI w)) 141 7 (gtD (cD M) a (i + 1))) 141 6 (nI (fb_ct (winB (cD M) (cB M) a) i + 1)) else sI (sI S 144 i (bI w)) 141 7 (gtD (cD M) a (i + 1)), ?_, ?_, ?_, ?_, fun q hq => ?_⟩
    · show fX1_lookFrom_70 _ (f + 1) (nI i) S = _
      rw [fX1_lookFrom_70, e10, if_neg (nI_ge hi (by omega))]
      unfold fX1_lookFrom_152
      simp only [ii, if_true, ix_nI (show i < 2147483648 by omega), en, Option.bind_some, nx_eq, nI_s, bI_and]
      have r7 : (sI S 144 i (bI w)).1 141 7 = gtD (cD M) a i := by rw [sI_nk _ _ (by decide)]; exact g3
      have r142 : (sI S 144 i (bI w)).1 142 i = forD (cD M) (nI (i / 100)) (nI (i % 100)) (nI (a / 100)) (nI (a % 100)) := by rw [sI_nk _ _ (by decide)]; exact s142
      rw [r7, r142]
      have eg : imax (gtD (cD M) a i) (forD (cD M) (nI (i / 100)) (nI (i % 100)) (nI (a / 100)) (nI (a % 100))) = gtD (cD M) a (i + 1) := rfl
      rw [eg]
      have r144 : (sI (sI S 144 i (bI w)) 141 7 (gtD (cD M) a (i + 1))).1 144 i = bI w := by rw [sI_nk _ _ (by decide), sI_at]
      have r6 : (sI (sI S 144 i (bI w)) 141 7 (gtD (cD M) a (i + 1))).1 141 6 = nI (fb_ct (winB (cD M) (cB M) a) i) := by rw [sI_nj _ _ (by decide), sI_nk _ _ (by decide)]; exact g2
      rw [r144, r6, nI_s]
      cases w <;> rfl
    · split
      · exact ((g1.I (by rfl)).I (by rfl)).I (by rfl)
      · exact (g1.I (by rfl)).I (by rfl)
    · rw [fb_ct_succ, hw]
      cases w with
      | true => rw [if_pos rfl, sI_at]; rfl
      | false => rw [if_neg (by decide), sI_nj _ _ (by decide), sI_nk _ _ (by decide)]; exact g2
    · cases w with
      | true => rw [if_pos rfl, sI_nj _ _ (by decide), sI_at]
      | false => rw [if_neg (by decide), sI_at]
    · have key : ∀ Y : Mem, (∀ x, Y.1 144 x = (sI S 144 i (bI w)).1 144 x) → Y.1 144 q = bI (winB (cD M) (cB M) a q) := by
        intro Y hY
        rw [hY q]
        by_cases e : q = i
        · rw [e, sI_at, hw]
        · rw [sI_nj _ _ e]; exact g4 q (by omega)
      cases w with
      | true => rw [if_pos rfl]; exact key _ (fun x => by rw [sI_nk _ _ (by decide), sI_nk _ _ (by decide)])
      | false => rw [if_neg (by decide)]; exact key _ (fun x => by rw [sI_nk _ _ (by decide)])
  · rintro f S -
    show fX1_lookFrom_70 _ (f + 1) (nI 10000) S = _
    rw [fX1_lookFrom_70, e10, if_pos (nI_le (Nat.le_refl _) (by omega))]
    rfl
/-- the Field looks from a point -/
theorem k_look {M : Mem} {n p a : Nat} (h : DI M n p) (hf : FK M) (ha : a < 10000) : ∃ M1, fX1_lookFrom (nI (a / 100)) (nI (a % 100)) M = some M1 ∧ FdC M1 a ∧ M1.1 141 9 = nI a ∧ M1.1 141 10 = M.1 1 14 ∧ sm [(141, 144, none)] M M1 := by
  have ea : nI (a / 100) * 100 + nI (a % 100) = nI a := by
    rw [show (100 : Int32) = nI 100 from rfl, pk_mul, nI_add]
    congr 1
    omega
  unfold fX1_lookFrom
  rw [nx_eq, ea]
  by_cases c1 : M.1 141 9 = nI a
  · rw [if_pos c1]
    by_cases c2 : M.1 141 10 = M.1 1 14
    · rw [if_pos c2]
      exact ⟨M, rfl, hf a ha c1 c2, c1, c2, sm_rf⟩
    · rw [if_neg c2]; exact k_look30 h ha
  · rw [if_neg c1]; exact k_look30 h ha
theorem FK_of {M : Mem} {a : Nat} (ha : a < 10000) (h9 : M.1 141 9 = nI a) (hf : FdC M a) : FK M := by
  intro b hb h1 _
  rw [h9] at h1
  have : a = b := (nI_eq (by omega) (by omega)).mp h1
  rw [← this]; exact hf
/-- and is cut -/
theorem k_cutF {M : Mem} {a : Nat} (ha : a < 10000) (h9 : M.1 141 9 = nI a) (hf : FdC M a) : ∃ M1, fX1_cutPieces M = some M1 ∧ CutS (winB (cD M) (cB M) a) M1 ∧ FdC M1 a ∧ FK M1 ∧ sm [(141, 141, some 8), (144, 146, none)] M M1 := by
  obtain ⟨f1, f2, f3⟩ := id hf
  rcases f3 with ⟨w1, w2⟩ | w
  · obtain ⟨M1, k1, k2, k3⟩ := k_cut w1 w2
    have o := k3.on [(1, 7, none), (141, 141, some 6), (141, 141, some 7), (141, 141, some 9)] (by decide) (by decide)
    have e1 : cD M1 = cD M := cD_on (o.sub (by decide))
    have e2 : cB M1 = cB M := cB_on (o.sub (by decide))
    have fd1 : FdC M1 a := by
      unfold FdC
      rw [e1, e2, o.i 141 6 rfl, o.i 141 7 rfl]
      exact ⟨f1, f2, Or.inr k2⟩
    exact ⟨M1, k1, k2, fd1, FK_of ha ((o.i 141 9 rfl).trans h9) fd1, k3⟩
  · have nz : ¬ M.1 141 8 = -1 := by
      rw [w.1]
      exact nI_nn1 (by have := np_le (winB (cD M) (cB M) a); omega)
    refine ⟨M, ?_, w, hf, FK_of ha h9 hf, sm_rf⟩
    unfold fX1_cutPieces
    rw [if_neg nz]
/-- the first point of the win set that another point beats -/
theorem k_firstBeaten {M : Mem} {n p a c : Nat} (h : DI M n p) (ha : a < 10000) (hc : c < 10000) (h9 : M.1 141 9 = nI a) (hf : FdC M a) : ∃ M1, fX1_firstBeatenBy (nI (c / 100)) (nI (c % 100)) M = some (ffI (fun q => winB (cD M) (cB M) a q && btD (cD M) (cB M) (nI (c / 100)) (nI (c % 100)) (nI (q / 100)) (nI (q % 100))) 10000, M1) ∧ FK M1 ∧ sm [(142, 144, none)] M M1 := by
  have e10 : (10000 : Int32) = nI 10000 := rfl
  obtain ⟨f1, f2, f3⟩ := id hf
  -- the win set stands in row 144
  have fill : ∃ A, (if M.1 141 8 = -1 then fX1_firstBeatenBy_12 (nI (c / 100)) (nI (c % 100)) M else (fX1_refillWinning M).bind (fun q => fX1_firstBeatenBy_12 (nI (c / 100)) (nI (c % 100)) q)) = fX1_firstBeatenBy_12 (nI (c / 100)) (nI (c % 100)) A ∧ (∀ q, q < 10000 → A.1 144 q = bI (winB (cD M) (cB M) a q)) ∧ sm [(144, 144, none)] M A := by
    rcases f3 with ⟨w1, w2⟩ | w
    · exact ⟨M, by rw [if_pos w1], w2, sm_rf⟩
    · have nz : ¬ M.1 141 8 = -1 := by
        rw [w.1]
        exact nI_nn1 (by have := np_le (winB (cD M) (cB M) a); omega)
      obtain ⟨A, a1, a2, a3⟩ := k_refill f1 w
      exact ⟨A, by rw [if_neg nz, a1, Option.bind_some], a2, a3⟩
  obtain ⟨A, a1, a2, a3⟩ := fill
  have dA : DI A n p := DI_on (a3.on _ (by decide) (by decide)) h
  have cA : cD A = cD M := cD_on (a3.on _ (by decide) (by decide))
  obtain ⟨B, w1, w2, w3⟩ := k_weigh dA (show c / 100 < 100 by omega) (show c % 100 < 100 by omega)
  rw [cA] at w2
  have sB : sm [(142, 144, none)] M B := (a3.up (by decide)).tr (w3.up (by decide))
  have bB : cB B = cB M := cB_on (sB.on _ (by decide) (by decide))
  have oB := sB.on [(1, 1, none)] (by decide) (by decide)
  have o144 := w3.on [(144, 144, none)] (by decide) (by decide)
  have e17 : A.1 1 7 = M.1 1 7 := (a3.on [(1, 1, none)] (by decide) (by decide)).i 1 7 rfl
  refine ⟨B, ?_, ?_, sB⟩
  · unfold fX1_firstBeatenBy
    rw [a1]
    unfold fX1_firstBeatenBy_12
    rw [w1, Option.bind_some]
    refine for_ffI (fun f i => fX1_firstBeatenBy_20 fX1_firstBeatenBy_66 fX1_firstBeatenBy_74 f i B) B (fun q => winB (cD M) (cB M) a q && btD (cD M) (cB M) (nI (c / 100)) (nI (c % 100)) (nI (q / 100)) (nI (q % 100))) 10000 ?_ ?_ FU (FU_gt (by omega))
    · intro f i hi
      have ii := inb_nI hi (by decide)
      obtain ⟨v1, v2⟩ := w2 i hi
      show fX1_firstBeatenBy_20 _ _ (f + 1) (nI i) B = _
      rw [fX1_firstBeatenBy_20, e10, if_neg (nI_ge hi (by omega)), if_pos ii, ix_nI (by omega), o144.i 144 i rfl, a2 i hi, if_pos ii, if_pos ii]
      have en : fX8_isEnough_t B (B.1 1 7 - B.1 143 i) (B.1 142 i) = some (bI (btD (cD M) (cB M) (nI (c / 100)) (nI (c % 100)) (nI (i / 100)) (nI (i % 100)))) := by
        have hB : okB (cB B) := by rw [bB]; exact h.2.2.2.2.2.2.1.2.1
        rw [k_isEnough B hB, v1, oB.i 1 7 rfl, ← e17, v2, e17, bB, h.2.2.2.2.2.2.2]
        rfl
      unfold fX1_firstBeatenBy_68 fX1_firstBeatenBy_66
      rw [en, Option.bind_some]
      simp only [nx_eq, nI_s, bI_0]
      cases winB (cD M) (cB M) a i <;> cases btD (cD M) (cB M) (nI (c / 100)) (nI (c % 100)) (nI (i / 100)) (nI (i % 100)) <;> rfl
    · intro f
      show fX1_firstBeatenBy_20 _ _ (f + 1) (nI 10000) B = _
      rw [fX1_firstBeatenBy_20, e10, if_pos (nI_le (Nat.le_refl _) (by omega))]
      rfl
  · have o := sB.on [(1, 7, none), (141, 141, none), (145, 146, none)] (by decide) (by decide)
    have e1 : cD B = cD M := cD_on (o.sub (by decide))
    refine FK_of ha ((o.i 141 9 rfl).trans h9) ?_
    unfold FdC
    rw [e1, bB, o.i 141 6 rfl, o.i 141 7 rfl, o.i 141 8 rfl]
    refine ⟨f1, f2, ?_⟩
    have b144 : ∀ q, q < 10000 → B.1 144 q = bI (winB (cD M) (cB M) a q) := fun q hq => (o144.i 144 q rfl).trans (a2 q hq)
    rcases f3 with ⟨x1, -⟩ | ⟨c1, c2, c3, c4, c5, c6⟩
    · exact Or.inl ⟨x1, b144⟩
    · right
      refine ⟨(o.i 141 8 rfl).trans c1, fun p hp hs => ?_, (o.i 146 _ rfl).trans c3, fun i hi => ?_, fun q hq hw => ?_, fun q hq => Or.inr (b144 q hq)⟩
      · rw [o.i 146 _ rfl, o.i 145 _ rfl]; exact c2 p hp hs
      · obtain ⟨q, q1, q2, q3⟩ := c4 i hi
        exact ⟨q, q1, (o.i 145 _ rfl).trans q2, q3⟩
      · obtain ⟨i, i1, i2⟩ := c5 q hq hw
        exact ⟨i, i1, (o.i 145 _ rfl).trans i2⟩
