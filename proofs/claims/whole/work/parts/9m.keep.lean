/-! keep-lemmas (laid by gen/mk_keep.py) -/
theorem LC_cg {M M1 : Mem} (e : cD M1 = cD M) (h : on [(26, 26, some 4), (27, 29, none)] M M1) (hl : LC M) : LC M1 := by
  obtain ⟨s, h1, h2, h3, h4⟩ := hl
  refine ⟨s, h1, (h.i 26 4 rfl).trans h2, fun i hi => ?_, ?_⟩
  · rw [h.i 27 i rfl, h.i 28 i rfl, h.i 29 i rfl]; exact h3 i hi
  · rw [e]
    refine h4.cg (fun i hi => ?_) (fun _ => Iff.rfl)
    unfold lo
    rw [h.i 27 i rfl, h.i 28 i rfl, h.i 29 i rfl]
theorem LR_cg {M M1 : Mem} (e : cD M1 = cD M) (h : on [(47, 47, some 27), (79, 81, none)] M M1) (hl : LR M) : LR M1 := by
  obtain ⟨s, h1, h2, h3, h4⟩ := hl
  refine ⟨s, h1, (h.i 47 27 rfl).trans h2, fun i hi => ?_, ?_⟩
  · rw [h.i 79 i rfl, h.i 80 i rfl, h.i 81 i rfl]; exact h3 i hi
  · rw [e]
    refine h4.cg (fun i hi => ?_) (fun _ => Iff.rfl)
    unfold loR
    rw [h.i 79 i rfl, h.i 80 i rfl, h.i 81 i rfl]
theorem MC_cg {M M1 : Mem} (e : cD M1 = cD M) (h : on [(26, 26, some 4), (27, 29, none), (30, 30, some 5), (31, 34, none)] M M1) (hl : MC M) : MC M1 := by
  obtain ⟨r, s, h0, h1, ⟨a1, a2, a3⟩, ⟨b1, b2, b3⟩, h4⟩ := hl
  have e2 : rw3 M1 = rw3 M := by funext i; unfold rw3; rw [h.i 27 i rfl, h.i 28 i rfl, h.i 29 i rfl]
  refine ⟨r, s, h0, h1, ⟨(h.i 26 4 rfl).trans a1, fun i hi => ?_, ?_⟩, ⟨(h.i 30 5 rfl).trans b1, fun i hi => ?_, ?_⟩, ?_⟩
  · rw [h.i 27 i rfl, h.i 28 i rfl, h.i 29 i rfl]; exact a2 i hi
  · rw [e]
    refine a3.cg (fun i hi => ?_) (fun _ => Iff.rfl)
    unfold lo
    rw [h.i 27 i rfl, h.i 28 i rfl, h.i 29 i rfl]
  · rw [h.l 31 i rfl, h.l 32 i rfl, h.l 33 i rfl]; exact b2 i hi
  · rw [e]
    refine b3.cg (fun i hi => ?_) (fun _ => Iff.rfl)
    unfold ro
    rw [h.l 31 i rfl, h.l 32 i rfl, h.l 33 i rfl]
  · unfold pfC
    rw [e2, h.i 34 0 rfl, h.i 34 1 rfl, h.i 34 2 rfl]
    have : (∀ i, i < 3 → M1.1 34 i = -1) ↔ (∀ i, i < 3 → M.1 34 i = -1) := by
      constructor <;> intro q i hi
      · rw [← h.i 34 i rfl]; exact q i hi
      · rw [h.i 34 i rfl]; exact q i hi
    rw [this]
    exact h4
theorem MR_cg {M M1 : Mem} (e : cD M1 = cD M) (h : on [(47, 47, some 28), (82, 84, none)] M M1) (hl : MR M) : MR M1 := by
  obtain ⟨s, h1, b1, b2, b3⟩ := hl
  refine ⟨s, h1, (h.i 47 28 rfl).trans b1, fun i hi => ?_, ?_⟩
  · rw [h.l 82 i rfl, h.l 83 i rfl, h.l 84 i rfl]; exact b2 i hi
  · rw [e]
    refine b3.cg (fun i hi => ?_) (fun _ => Iff.rfl)
    unfold roR
    rw [h.l 82 i rfl, h.l 83 i rfl, h.l 84 i rfl]
theorem RC_cg {M M1 : Mem} (e : cD M1 = cD M) (h : on [(35, 35, some 1), (35, 35, some 2), (35, 35, some 3), (35, 35, some 4)] M M1) (hl : RC M) : RC M1 := by
  obtain ⟨b, p, q, h1, h2, h3, h4, h5, h6⟩ := hl
  exact ⟨b, p, q, by rw [e]; exact h1, h2, by rw [h.i 35 1 rfl]; exact h3, by rw [h.i 35 2 rfl]; exact h4, by rw [h.l 35 3 rfl]; exact h5, by rw [h.l 35 4 rfl]; exact h6⟩
theorem FdC_cg {M M1 : Mem} {a : Nat} (e1 : cD M1 = cD M) (e2 : cB M1 = cB M) (h : on [(141, 141, some 6), (141, 141, some 7), (141, 141, some 8), (144, 146, none)] M M1) (hf : FdC M a) : FdC M1 a := by
  obtain ⟨f1, f2, f3⟩ := hf
  unfold FdC
  rw [e1, e2, h.i 141 6 rfl, h.i 141 7 rfl, h.i 141 8 rfl]
  refine ⟨f1, f2, ?_⟩
  rcases f3 with ⟨w1, w2⟩ | w
  · exact Or.inl ⟨w1, fun q hq => (h.i 144 q rfl).trans (w2 q hq)⟩
  · exact Or.inr (CutS_on (h.sub (by decide)) w)
theorem DI_onF {M M1 : Mem} {n p : Nat} (h : on [(1, 9, none), (50, 50, none), (53, 53, none), (56, 56, none), (59, 59, none), (62, 62, none), (65, 65, none), (68, 68, none), (71, 71, none), (73, 77, some 0)] M M1) (hd : DI M n p) : DI M1 n p := by
  obtain ⟨h0, ⟨a1, a2, a3, a4⟩, h2, h3, h4, h5, h6, h7⟩ := hd
  have eD : cD M1 = cD M := cD_on (h.sub (by decide))
  have eB : cB M1 = cB M := cB_on (h.sub (by decide))
  have rDe : rD M1 = rD M := by
    unfold rD
    rw [h.i 73 0 rfl, h.row 50 (fun _ => rfl), h.row 53 (fun _ => rfl), h.row 56 (fun _ => rfl), h.row 59 (fun _ => rfl), h.row 62 (fun _ => rfl), h.row 65 (fun _ => rfl)]
  have rBe : rB M1 = rB M := by
    unfold rB
    rw [h.i 75 0 rfl, h.i 76 0 rfl, h.i 77 0 rfl]
  refine ⟨h0, ⟨(h.i 1 0 rfl).trans a1, (h.i 1 8 rfl).trans a2, (h.i 73 0 rfl).trans a3, (h.i 74 0 rfl).trans a4⟩, fun v hv => ?_, fun q hq => ?_, ?_, fun q hq => ?_, ?_, ?_⟩
  · have := h2 v hv
    unfold okV at this ⊢
    rw [h.i 2 v rfl, h.i 3 v rfl, h.i 4 v rfl, h.i 5 v rfl, h.i 6 v rfl, h.i 7 v rfl]
    exact this
  · rw [h.i 8 q rfl, h.i 9 q rfl]; exact h3 q hq
  · rw [eD, rDe]; exact h4
  · rw [h.i 8 q rfl, h.i 9 q rfl, h.i 68 q rfl, h.i 71 q rfl]; exact h5 q hq
  · rw [eB, rBe]; exact h6
  · rw [h.i 1 7 rfl, eD]; exact h7
