/-! finer frames of the reading functions (laid by gen/mk_fine.py from part 27) -/
theorem zX11_voterRead_127 {r : Int32} {M1 : Mem} : ∀ {M : Mem}, fX11_voterRead_127 M = some (r, M1) → sm [(51, 51, none), (54, 54, none), (57, 57, none), (60, 60, none), (63, 63, none), (66, 66, none), (73, 73, some 1), (47, 47, some 2), (47, 47, some 3), (47, 47, some 4), (47, 47, some 5)] M M1 := by
  intro M hf
  unfold fX11_voterRead_127 at hf
  cases hf
  exact sm_rf
theorem zX11_voterRead_141 {r : Int32} {M1 : Mem} : ∀ {M : Mem}, fX11_voterRead_141 M = some (r, M1) → sm [(51, 51, none), (54, 54, none), (57, 57, none), (60, 60, none), (63, 63, none), (66, 66, none), (73, 73, some 1), (47, 47, some 2), (47, 47, some 3), (47, 47, some 4), (47, 47, some 5)] M M1 := by
  intro M hf
  unfold fX11_voterRead_141 at hf
  obtain ⟨M150, e150⟩ : ∃ y : Mem, y = (sI M 73 (ix (1 : Int32)) ((M.1 73 (ix (1 : Int32))) + (1 : Int32))) := ⟨_, rfl⟩
  have hf := nx_at e150 hf
  refine sm_I e150 (inS_up (L0 := [(73, 73, some 1)]) (by decide) (inS_s 73 1)) ?_
  obtain ⟨q155, c155, hf⟩ := br_b hf
  obtain ⟨q158, c158, hf⟩ := br_b hf
  refine sm_tr (ssX11_passes c158) (by decide) ?_
  cases hf
  exact sm_rf
theorem zX11_voterRead_0 {r : Int32} {M1 : Mem} : ∀ {M : Mem}, fX11_voterRead M = some (r, M1) → sm [(51, 51, none), (54, 54, none), (57, 57, none), (60, 60, none), (63, 63, none), (66, 66, none), (73, 73, some 1), (47, 47, some 2), (47, 47, some 3), (47, 47, some 4), (47, 47, some 5)] M M1 := by
  intro M hf
  unfold fX11_voterRead at hf
  obtain ⟨v6, e6⟩ : ∃ y : Int32, y = (M.1 73 (ix (1 : Int32))) := ⟨_, rfl⟩
  have hf := nx_at e6 hf
  obtain ⟨q11, c11, hf⟩ := br_b hf
  refine sm_tr (ssX11_number c11) (by decide) ?_
  by_cases q14 : q11.1 = 0
  · have hf := (br_if hf).1 q14
    cases hf
    exact sm_rf
  · have hf := (br_if hf).2 q14
    obtain ⟨g30, hf⟩ := br_g hf
    obtain ⟨M30, e30⟩ : ∃ y : Mem, y = (sI q11.2 51 (ix v6) (q11.2.1 47 5)) := ⟨_, rfl⟩
    have hf := nx_at e30 hf
    refine sm_I e30 (inS_up (L0 := [(51, 51, none)]) (by decide) (inS_n 51 _)) ?_
    obtain ⟨q35, c35, hf⟩ := br_b hf
    refine sm_tr (ssX11_number c35) (by decide) ?_
    by_cases q38 : q35.1 = 0
    · have hf := (br_if hf).1 q38
      cases hf
      exact sm_rf
    · have hf := (br_if hf).2 q38
      obtain ⟨g54, hf⟩ := br_g hf
      obtain ⟨M54, e54⟩ : ∃ y : Mem, y = (sI q35.2 54 (ix v6) (q35.2.1 47 5)) := ⟨_, rfl⟩
      have hf := nx_at e54 hf
      refine sm_I e54 (inS_up (L0 := [(54, 54, none)]) (by decide) (inS_n 54 _)) ?_
      obtain ⟨g63, hf⟩ := br_g hf
      obtain ⟨M63, e63⟩ : ∃ y : Mem, y = (sI M54 57 (ix v6) (1 : Int32)) := ⟨_, rfl⟩
      have hf := nx_at e63 hf
      refine sm_I e63 (inS_up (L0 := [(57, 57, none)]) (by decide) (inS_n 57 _)) ?_
      obtain ⟨g75, hf⟩ := br_g hf
      obtain ⟨M75, e75⟩ : ∃ y : Mem, y = (sI M63 60 (ix v6) (M63.1 47 19)) := ⟨_, rfl⟩
      have hf := nx_at e75 hf
      refine sm_I e75 (inS_up (L0 := [(60, 60, none)]) (by decide) (inS_n 60 _)) ?_
      obtain ⟨g87, hf⟩ := br_g hf
      obtain ⟨M87, e87⟩ : ∃ y : Mem, y = (sI M75 63 (ix v6) (M75.1 47 20)) := ⟨_, rfl⟩
      have hf := nx_at e87 hf
      refine sm_I e87 (inS_up (L0 := [(63, 63, none)]) (by decide) (inS_n 63 _)) ?_
      obtain ⟨g99, hf⟩ := br_g hf
      obtain ⟨M99, e99⟩ : ∃ y : Mem, y = (sI M87 66 (ix v6) (M87.1 47 21)) := ⟨_, rfl⟩
      have hf := nx_at e99 hf
      refine sm_I e99 (inS_up (L0 := [(66, 66, none)]) (by decide) (inS_n 66 _)) ?_
      obtain ⟨q103, c103, hf⟩ := br_b hf
      by_cases q106 : q103 = 0
      · have hf := (br_if hf).1 q106
        exact zX11_voterRead_141 hf
      · have hf := (br_if hf).2 q106
        obtain ⟨q111, c111, hf⟩ := br_b hf
        refine sm_tr (ssX11_passes c111) (by decide) ?_
        by_cases q114 : q111.1 = 0
        · have hf := (br_if hf).1 q114
          exact zX11_voterRead_127 hf
        · have hf := (br_if hf).2 q114
          obtain ⟨q121, c121, hf⟩ := br_b hf
          refine sm_tr (ssX11_number c121) (by decide) ?_
          by_cases q124 : q121.1 = 0
          · have hf := (br_if hf).1 q124
            exact zX11_voterRead_127 hf
          · have hf := (br_if hf).2 q124
            obtain ⟨g140, hf⟩ := br_g hf
            obtain ⟨M140, e140⟩ : ∃ y : Mem, y = (sI q121.2 57 (ix v6) (q121.2.1 47 5)) := ⟨_, rfl⟩
            have hf := nx_at e140 hf
            refine sm_I e140 (inS_up (L0 := [(57, 57, none)]) (by decide) (inS_n 57 _)) ?_
            exact zX11_voterRead_141 hf
theorem zzX11_voterRead {M : Mem} {r : Int32} {M1 : Mem} (h : fX11_voterRead M = some (r, M1)) : sm [(51, 51, none), (54, 54, none), (57, 57, none), (60, 60, none), (63, 63, none), (66, 66, none), (73, 73, some 1), (47, 47, some 2), (47, 47, some 3), (47, 47, some 4), (47, 47, some 5)] M M1 := zX11_voterRead_0 h
theorem zX11_placeRead_0 {r : Int32} {M1 : Mem} : ∀ {M : Mem}, fX11_placeRead M = some (r, M1) → sm [(69, 69, none), (72, 72, none), (74, 74, some 1), (47, 47, some 2), (47, 47, some 3), (47, 47, some 4), (47, 47, some 5)] M M1 := by
  intro M hf
  unfold fX11_placeRead at hf
  obtain ⟨v6, e6⟩ : ∃ y : Int32, y = (M.1 74 (ix (1 : Int32))) := ⟨_, rfl⟩
  have hf := nx_at e6 hf
  obtain ⟨q11, c11, hf⟩ := br_b hf
  refine sm_tr (ssX11_number c11) (by decide) ?_
  by_cases q14 : q11.1 = 0
  · have hf := (br_if hf).1 q14
    cases hf
    exact sm_rf
  · have hf := (br_if hf).2 q14
    obtain ⟨g30, hf⟩ := br_g hf
    obtain ⟨M30, e30⟩ : ∃ y : Mem, y = (sI q11.2 69 (ix v6) (q11.2.1 47 5)) := ⟨_, rfl⟩
    have hf := nx_at e30 hf
    refine sm_I e30 (inS_up (L0 := [(69, 69, none)]) (by decide) (inS_n 69 _)) ?_
    obtain ⟨q35, c35, hf⟩ := br_b hf
    refine sm_tr (ssX11_number c35) (by decide) ?_
    by_cases q38 : q35.1 = 0
    · have hf := (br_if hf).1 q38
      cases hf
      exact sm_rf
    · have hf := (br_if hf).2 q38
      obtain ⟨g54, hf⟩ := br_g hf
      obtain ⟨M54, e54⟩ : ∃ y : Mem, y = (sI q35.2 72 (ix v6) (q35.2.1 47 5)) := ⟨_, rfl⟩
      have hf := nx_at e54 hf
      refine sm_I e54 (inS_up (L0 := [(72, 72, none)]) (by decide) (inS_n 72 _)) ?_
      obtain ⟨M64, e64⟩ : ∃ y : Mem, y = (sI M54 74 (ix (1 : Int32)) ((M54.1 74 (ix (1 : Int32))) + (1 : Int32))) := ⟨_, rfl⟩
      have hf := nx_at e64 hf
      refine sm_I e64 (inS_up (L0 := [(74, 74, some 1)]) (by decide) (inS_s 74 1)) ?_
      obtain ⟨q69, c69, hf⟩ := br_b hf
      obtain ⟨q72, c72, hf⟩ := br_b hf
      refine sm_tr (ssX11_passes c72) (by decide) ?_
      cases hf
      exact sm_rf
theorem zzX11_placeRead {M : Mem} {r : Int32} {M1 : Mem} (h : fX11_placeRead M = some (r, M1)) : sm [(69, 69, none), (72, 72, none), (74, 74, some 1), (47, 47, some 2), (47, 47, some 3), (47, 47, some 4), (47, 47, some 5)] M M1 := zX11_placeRead_0 h
theorem zX11_winRead_40 {r : Int32} {M1 : Mem} : ∀ {s0 : Int32} {M : Mem}, fX11_winRead_40 s0 M = some (r, M1) → sm [(75, 77, some 1), (47, 47, some 2), (47, 47, some 3), (47, 47, some 4), (47, 47, some 5), (47, 47, some 22)] M M1 := by
  intro s0 M hf
  unfold fX11_winRead_40 at hf
  cases hf
  exact sm_rf
theorem zX11_winRead_39 {r : Int32} {M1 : Mem} : ∀ {M : Mem}, fX11_winRead_39 M = some (r, M1) → sm [(75, 77, some 1), (47, 47, some 2), (47, 47, some 3), (47, 47, some 4), (47, 47, some 5), (47, 47, some 22)] M M1 := by
  intro M hf
  unfold fX11_winRead_39 at hf
  exact zX11_winRead_40 hf
theorem zX11_winRead_101 {r : Int32} {M1 : Mem} : ∀ {M : Mem}, fX11_winRead_101 M = some (r, M1) → sm [(75, 77, some 1), (47, 47, some 2), (47, 47, some 3), (47, 47, some 4), (47, 47, some 5), (47, 47, some 22)] M M1 := by
  intro M hf
  unfold fX11_winRead_101 at hf
  cases hf
  exact sm_rf
theorem zX11_winRead_156 {r : Int32} {M1 : Mem} : ∀ {M : Mem}, fX11_winRead_156 M = some (r, M1) → sm [(75, 77, some 1), (47, 47, some 2), (47, 47, some 3), (47, 47, some 4), (47, 47, some 5), (47, 47, some 22)] M M1 := by
  intro M hf
  unfold fX11_winRead_156 at hf
  cases hf
  exact sm_rf
theorem zX11_winRead_85 {r : Int32} {M1 : Mem} : ∀ {s1 : Int32} {M : Mem}, fX11_winRead_85 s1 M = some (r, M1) → sm [(75, 77, some 1), (47, 47, some 2), (47, 47, some 3), (47, 47, some 4), (47, 47, some 5), (47, 47, some 22)] M M1 := by
  intro s1 M hf
  unfold fX11_winRead_85 at hf
  obtain ⟨q85, c85, hf⟩ := br_b hf
  refine sm_tr (ssX11_passes c85) (by decide) ?_
  by_cases q88 : q85.1 = 0
  · have hf := (br_if hf).1 q88
    exact zX11_winRead_101 hf
  · have hf := (br_if hf).2 q88
    obtain ⟨q95, c95, hf⟩ := br_b hf
    refine sm_tr (ssX11_number c95) (by decide) ?_
    by_cases q98 : q95.1 = 0
    · have hf := (br_if hf).1 q98
      exact zX11_winRead_101 hf
    · have hf := (br_if hf).2 q98
      obtain ⟨M112, e112⟩ : ∃ y : Mem, y = (sI q95.2 76 (ix (1 : Int32)) (q95.2.1 47 5)) := ⟨_, rfl⟩
      have hf := nx_at e112 hf
      refine sm_I e112 (inS_up (L0 := [(76, 76, some 1)]) (by decide) (inS_s 76 1)) ?_
      obtain ⟨q117, c117, hf⟩ := br_b hf
      obtain ⟨q120, c120, hf⟩ := br_b hf
      refine sm_tr (ssX11_passes c120) (by decide) ?_
      by_cases q123 : q120.1 = 0
      · have hf := (br_if hf).1 q123
        exact zX11_winRead_156 hf
      · have hf := (br_if hf).2 q123
        obtain ⟨q150, c150, hf⟩ := br_b hf
        refine sm_tr (ssX11_number c150) (by decide) ?_
        by_cases q153 : q150.1 = 0
        · have hf := (br_if hf).1 q153
          exact zX11_winRead_156 hf
        · have hf := (br_if hf).2 q153
          obtain ⟨M167, e167⟩ : ∃ y : Mem, y = (sI q150.2 77 (ix (1 : Int32)) (q150.2.1 47 5)) := ⟨_, rfl⟩
          have hf := nx_at e167 hf
          refine sm_I e167 (inS_up (L0 := [(77, 77, some 1)]) (by decide) (inS_s 77 1)) ?_
          obtain ⟨q172, c172, hf⟩ := br_b hf
          obtain ⟨q175, c175, hf⟩ := br_b hf
          refine sm_tr (ssX11_passes c175) (by decide) ?_
          cases hf
          exact sm_rf
theorem zX11_winRead_80 {r : Int32} {M1 : Mem} : ∀ {M : Mem}, fX11_winRead_80 M = some (r, M1) → sm [(75, 77, some 1), (47, 47, some 2), (47, 47, some 3), (47, 47, some 4), (47, 47, some 5), (47, 47, some 22)] M M1 := by
  intro M hf
  unfold fX11_winRead_80 at hf
  exact zX11_winRead_85 hf
theorem zX11_winRead_60 {r : Int32} {M1 : Mem} : ∀ {s2 : Int32} {M : Mem}, fX11_winRead_60 1 s2 M = some (r, M1) → sm [(75, 77, some 1), (47, 47, some 2), (47, 47, some 3), (47, 47, some 4), (47, 47, some 5), (47, 47, some 22)] M M1 := by
  intro s2 M hf
  unfold fX11_winRead_60 at hf
  obtain ⟨g60, hf⟩ := br_g hf
  obtain ⟨M60, e60⟩ : ∃ y : Mem, y = (sI M 75 (ix (1 : Int32)) s2) := ⟨_, rfl⟩
  have hf := nx_at e60 hf
  refine sm_I e60 (inS_up (L0 := [(75, 75, some 1)]) (by decide) (inS_s 75 1)) ?_
  obtain ⟨q65, c65, hf⟩ := br_b hf
  by_cases q68 : q65 = 0
  · have hf := (br_if hf).1 q68
    obtain ⟨q74, c74, hf⟩ := br_b hf
    by_cases q77 : q74 = 0
    · have hf := (br_if hf).1 q77
      exact zX11_winRead_85 hf
    · have hf := (br_if hf).2 q77
      exact zX11_winRead_80 hf
  · have hf := (br_if hf).2 q68
    exact zX11_winRead_80 hf
theorem zX11_winRead_0 {r : Int32} {M1 : Mem} : ∀ {M : Mem}, fX11_winRead M = some (r, M1) → sm [(75, 77, some 1), (47, 47, some 2), (47, 47, some 3), (47, 47, some 4), (47, 47, some 5), (47, 47, some 22)] M M1 := by
  intro M hf
  unfold fX11_winRead at hf
  obtain ⟨M2, e2⟩ : ∃ y : Mem, y = (sI M 47 22 (1 : Int32)) := ⟨_, rfl⟩
  have hf := nx_at e2 hf
  refine sm_I e2 (inS_up (L0 := [(47, 47, some 22)]) (by decide) (inS_s 47 22)) ?_
  obtain ⟨q8, c8, hf⟩ := br_b hf
  by_cases q11 : q8 = 0
  · have hf := (br_if hf).1 q11
    obtain ⟨q49, c49, hf⟩ := br_b hf
    by_cases q52 : q49 = 0
    · have hf := (br_if hf).1 q52
      exact zX11_winRead_60 hf
    · have hf := (br_if hf).2 q52
      exact zX11_winRead_60 hf
  · have hf := (br_if hf).2 q11
    obtain ⟨q16, c16, hf⟩ := br_b hf
    refine sm_tr (ssX11_passes c16) (by decide) ?_
    by_cases q19 : q16.1 = 0
    · have hf := (br_if hf).1 q19
      exact zX11_winRead_39 hf
    · have hf := (br_if hf).2 q19
      obtain ⟨q26, c26, hf⟩ := br_b hf
      obtain ⟨q29, c29, hf⟩ := br_b hf
      refine sm_tr (ssX11_passes c29) (by decide) ?_
      by_cases q32 : q29.1 = 0
      · have hf := (br_if hf).1 q32
        exact zX11_winRead_39 hf
      · have hf := (br_if hf).2 q32
        exact zX11_winRead_40 hf
theorem zzX11_winRead {M : Mem} {r : Int32} {M1 : Mem} (h : fX11_winRead M = some (r, M1)) : sm [(75, 77, some 1), (47, 47, some 2), (47, 47, some 3), (47, 47, some 4), (47, 47, some 5), (47, 47, some 22)] M M1 := zX11_winRead_0 h
theorem zX11_told_29 {r : Int32} {M1 : Mem} : ∀ {s0 : Int32} {M : Mem}, fX11_told_29 s0 M = some (r, M1) → sm [(51, 51, none), (54, 54, none), (57, 57, none), (60, 60, none), (63, 63, none), (66, 66, none), (69, 69, none), (72, 72, none), (73, 77, some 1), (47, 47, some 2), (47, 47, some 3), (47, 47, some 4), (47, 47, some 5), (47, 47, some 19), (47, 47, some 20), (47, 47, some 21), (47, 47, some 22)] M M1 := by
  intro s0 M hf
  unfold fX11_told_29 at hf
  cases hf
  exact sm_rf
theorem zX11_told_28 {r : Int32} {M1 : Mem} : ∀ {M : Mem}, fX11_told_28 M = some (r, M1) → sm [(51, 51, none), (54, 54, none), (57, 57, none), (60, 60, none), (63, 63, none), (66, 66, none), (69, 69, none), (72, 72, none), (73, 77, some 1), (47, 47, some 2), (47, 47, some 3), (47, 47, some 4), (47, 47, some 5), (47, 47, some 19), (47, 47, some 20), (47, 47, some 21), (47, 47, some 22)] M M1 := by
  intro M hf
  unfold fX11_told_28 at hf
  exact zX11_told_29 hf
theorem zX11_told_59 {r : Int32} {M1 : Mem} : ∀ {s0 : Int32} {M : Mem}, fX11_told_59 s0 M = some (r, M1) → sm [(51, 51, none), (54, 54, none), (57, 57, none), (60, 60, none), (63, 63, none), (66, 66, none), (69, 69, none), (72, 72, none), (73, 77, some 1), (47, 47, some 2), (47, 47, some 3), (47, 47, some 4), (47, 47, some 5), (47, 47, some 19), (47, 47, some 20), (47, 47, some 21), (47, 47, some 22)] M M1 := by
  intro s0 M hf
  unfold fX11_told_59 at hf
  cases hf
  exact sm_rf
theorem zX11_told_58 {r : Int32} {M1 : Mem} : ∀ {M : Mem}, fX11_told_58 M = some (r, M1) → sm [(51, 51, none), (54, 54, none), (57, 57, none), (60, 60, none), (63, 63, none), (66, 66, none), (69, 69, none), (72, 72, none), (73, 77, some 1), (47, 47, some 2), (47, 47, some 3), (47, 47, some 4), (47, 47, some 5), (47, 47, some 19), (47, 47, some 20), (47, 47, some 21), (47, 47, some 22)] M M1 := by
  intro M hf
  unfold fX11_told_58 at hf
  exact zX11_told_59 hf
theorem zX11_told_104 {r : Int32} {M1 : Mem} : ∀ {s0 : Int32} {M : Mem}, fX11_told_104 s0 M = some (r, M1) → sm [(51, 51, none), (54, 54, none), (57, 57, none), (60, 60, none), (63, 63, none), (66, 66, none), (69, 69, none), (72, 72, none), (73, 77, some 1), (47, 47, some 2), (47, 47, some 3), (47, 47, some 4), (47, 47, some 5), (47, 47, some 19), (47, 47, some 20), (47, 47, some 21), (47, 47, some 22)] M M1 := by
  intro s0 M hf
  unfold fX11_told_104 at hf
  cases hf
  exact sm_rf
theorem zX11_told_103 {r : Int32} {M1 : Mem} : ∀ {M : Mem}, fX11_told_103 M = some (r, M1) → sm [(51, 51, none), (54, 54, none), (57, 57, none), (60, 60, none), (63, 63, none), (66, 66, none), (69, 69, none), (72, 72, none), (73, 77, some 1), (47, 47, some 2), (47, 47, some 3), (47, 47, some 4), (47, 47, some 5), (47, 47, some 19), (47, 47, some 20), (47, 47, some 21), (47, 47, some 22)] M M1 := by
  intro M hf
  unfold fX11_told_103 at hf
  exact zX11_told_104 hf
theorem zX11_told_86 {r : Int32} {M1 : Mem} : ∀ {s1 : Int32} {M : Mem}, fX11_told_86 s1 M = some (r, M1) → sm [(51, 51, none), (54, 54, none), (57, 57, none), (60, 60, none), (63, 63, none), (66, 66, none), (69, 69, none), (72, 72, none), (73, 77, some 1), (47, 47, some 2), (47, 47, some 3), (47, 47, some 4), (47, 47, some 5), (47, 47, some 19), (47, 47, some 20), (47, 47, some 21), (47, 47, some 22)] M M1 := by
  intro s1 M hf
  unfold fX11_told_86 at hf
  obtain ⟨q86, c86, hf⟩ := br_b hf
  refine sm_tr (ssX11_passes c86) (by decide) ?_
  by_cases q89 : q86.1 = 0
  · have hf := (br_if hf).1 q89
    exact zX11_told_103 hf
  · have hf := (br_if hf).2 q89
    obtain ⟨q93, c93, hf⟩ := br_b hf
    refine sm_tr (zzX11_voterRead c93) (by decide) ?_
    by_cases q96 : q93.1 = 0
    · have hf := (br_if hf).1 q96
      exact zX11_told_103 hf
    · have hf := (br_if hf).2 q96
      exact zX11_told_104 hf
theorem zX11_told_149 {r : Int32} {M1 : Mem} : ∀ {s0 : Int32} {M : Mem}, fX11_told_149 s0 M = some (r, M1) → sm [(51, 51, none), (54, 54, none), (57, 57, none), (60, 60, none), (63, 63, none), (66, 66, none), (69, 69, none), (72, 72, none), (73, 77, some 1), (47, 47, some 2), (47, 47, some 3), (47, 47, some 4), (47, 47, some 5), (47, 47, some 19), (47, 47, some 20), (47, 47, some 21), (47, 47, some 22)] M M1 := by
  intro s0 M hf
  unfold fX11_told_149 at hf
  cases hf
  exact sm_rf
theorem zX11_told_148 {r : Int32} {M1 : Mem} : ∀ {M : Mem}, fX11_told_148 M = some (r, M1) → sm [(51, 51, none), (54, 54, none), (57, 57, none), (60, 60, none), (63, 63, none), (66, 66, none), (69, 69, none), (72, 72, none), (73, 77, some 1), (47, 47, some 2), (47, 47, some 3), (47, 47, some 4), (47, 47, some 5), (47, 47, some 19), (47, 47, some 20), (47, 47, some 21), (47, 47, some 22)] M M1 := by
  intro M hf
  unfold fX11_told_148 at hf
  exact zX11_told_149 hf
theorem zX11_told_131 {r : Int32} {M1 : Mem} : ∀ {s1 : Int32} {M : Mem}, fX11_told_131 s1 M = some (r, M1) → sm [(51, 51, none), (54, 54, none), (57, 57, none), (60, 60, none), (63, 63, none), (66, 66, none), (69, 69, none), (72, 72, none), (73, 77, some 1), (47, 47, some 2), (47, 47, some 3), (47, 47, some 4), (47, 47, some 5), (47, 47, some 19), (47, 47, some 20), (47, 47, some 21), (47, 47, some 22)] M M1 := by
  intro s1 M hf
  unfold fX11_told_131 at hf
  obtain ⟨q131, c131, hf⟩ := br_b hf
  refine sm_tr (ssX11_passes c131) (by decide) ?_
  by_cases q134 : q131.1 = 0
  · have hf := (br_if hf).1 q134
    exact zX11_told_148 hf
  · have hf := (br_if hf).2 q134
    obtain ⟨q138, c138, hf⟩ := br_b hf
    refine sm_tr (zzX11_placeRead c138) (by decide) ?_
    by_cases q141 : q138.1 = 0
    · have hf := (br_if hf).1 q141
      exact zX11_told_148 hf
    · have hf := (br_if hf).2 q141
      exact zX11_told_149 hf
theorem zX11_told_190 {r : Int32} {M1 : Mem} : ∀ {s0 : Int32} {M : Mem}, fX11_told_190 s0 M = some (r, M1) → sm [(51, 51, none), (54, 54, none), (57, 57, none), (60, 60, none), (63, 63, none), (66, 66, none), (69, 69, none), (72, 72, none), (73, 77, some 1), (47, 47, some 2), (47, 47, some 3), (47, 47, some 4), (47, 47, some 5), (47, 47, some 19), (47, 47, some 20), (47, 47, some 21), (47, 47, some 22)] M M1 := by
  intro s0 M hf
  unfold fX11_told_190 at hf
  cases hf
  exact sm_rf
theorem zX11_told_189 {r : Int32} {M1 : Mem} : ∀ {M : Mem}, fX11_told_189 M = some (r, M1) → sm [(51, 51, none), (54, 54, none), (57, 57, none), (60, 60, none), (63, 63, none), (66, 66, none), (69, 69, none), (72, 72, none), (73, 77, some 1), (47, 47, some 2), (47, 47, some 3), (47, 47, some 4), (47, 47, some 5), (47, 47, some 19), (47, 47, some 20), (47, 47, some 21), (47, 47, some 22)] M M1 := by
  intro M hf
  unfold fX11_told_189 at hf
  exact zX11_told_190 hf
theorem zX11_told_172 {r : Int32} {M1 : Mem} : ∀ {s1 : Int32} {M : Mem}, fX11_told_172 s1 M = some (r, M1) → sm [(51, 51, none), (54, 54, none), (57, 57, none), (60, 60, none), (63, 63, none), (66, 66, none), (69, 69, none), (72, 72, none), (73, 77, some 1), (47, 47, some 2), (47, 47, some 3), (47, 47, some 4), (47, 47, some 5), (47, 47, some 19), (47, 47, some 20), (47, 47, some 21), (47, 47, some 22)] M M1 := by
  intro s1 M hf
  unfold fX11_told_172 at hf
  obtain ⟨q172, c172, hf⟩ := br_b hf
  refine sm_tr (ssX11_passes c172) (by decide) ?_
  by_cases q175 : q172.1 = 0
  · have hf := (br_if hf).1 q175
    exact zX11_told_189 hf
  · have hf := (br_if hf).2 q175
    obtain ⟨q179, c179, hf⟩ := br_b hf
    refine sm_tr (zzX11_winRead c179) (by decide) ?_
    by_cases q182 : q179.1 = 0
    · have hf := (br_if hf).1 q182
      exact zX11_told_189 hf
    · have hf := (br_if hf).2 q182
      exact zX11_told_190 hf
theorem zX11_told_171 {r : Int32} {M1 : Mem} : ∀ {M : Mem}, fX11_told_171 M = some (r, M1) → sm [(51, 51, none), (54, 54, none), (57, 57, none), (60, 60, none), (63, 63, none), (66, 66, none), (69, 69, none), (72, 72, none), (73, 77, some 1), (47, 47, some 2), (47, 47, some 3), (47, 47, some 4), (47, 47, some 5), (47, 47, some 19), (47, 47, some 20), (47, 47, some 21), (47, 47, some 22)] M M1 := by
  intro M hf
  unfold fX11_told_171 at hf
  exact zX11_told_172 hf
theorem zX11_told_0 {r : Int32} {M1 : Mem} : ∀ {M : Mem}, fX11_told M = some (r, M1) → sm [(51, 51, none), (54, 54, none), (57, 57, none), (60, 60, none), (63, 63, none), (66, 66, none), (69, 69, none), (72, 72, none), (73, 77, some 1), (47, 47, some 2), (47, 47, some 3), (47, 47, some 4), (47, 47, some 5), (47, 47, some 19), (47, 47, some 20), (47, 47, some 21), (47, 47, some 22)] M M1 := by
  intro M hf
  unfold fX11_told at hf
  obtain ⟨q3, c3, hf⟩ := br_b hf
  by_cases q6 : q3 = 0
  · have hf := (br_if hf).1 q6
    obtain ⟨q33, c33, hf⟩ := br_b hf
    by_cases q36 : q33 = 0
    · have hf := (br_if hf).1 q36
      obtain ⟨q63, c63, hf⟩ := br_b hf
      by_cases q66 : q63 = 0
      · have hf := (br_if hf).1 q66
        obtain ⟨q108, c108, hf⟩ := br_b hf
        by_cases q111 : q108 = 0
        · have hf := (br_if hf).1 q111
          obtain ⟨q154, c154, hf⟩ := br_b hf
          by_cases q157 : q154 = 0
          · have hf := (br_if hf).1 q157
            exact zX11_told_171 hf
          · have hf := (br_if hf).2 q157
            by_cases q164 : (M.1 47 22) = 0
            · have hf := (br_if hf).1 q164
              exact zX11_told_172 hf
            · have hf := (br_if hf).2 q164
              exact zX11_told_171 hf
        · have hf := (br_if hf).2 q111
          by_cases q123 : (20 : Int32) ≤ (M.1 74 (ix (1 : Int32)))
          · have hf := (br_if hf).1 q123
            exact zX11_told_131 hf
          · have hf := (br_if hf).2 q123
            exact zX11_told_131 hf
      · have hf := (br_if hf).2 q66
        by_cases q78 : (15 : Int32) ≤ (M.1 73 (ix (1 : Int32)))
        · have hf := (br_if hf).1 q78
          exact zX11_told_86 hf
        · have hf := (br_if hf).2 q78
          exact zX11_told_86 hf
    · have hf := (br_if hf).2 q36
      obtain ⟨q41, c41, hf⟩ := br_b hf
      refine sm_tr (ssX11_passes c41) (by decide) ?_
      by_cases q44 : q41.1 = 0
      · have hf := (br_if hf).1 q44
        exact zX11_told_58 hf
      · have hf := (br_if hf).2 q44
        obtain ⟨q48, c48, hf⟩ := br_b hf
        refine sm_tr (ssX11_stretch c48) (by decide) ?_
        by_cases q51 : q48.1 = 0
        · have hf := (br_if hf).1 q51
          exact zX11_told_58 hf
        · have hf := (br_if hf).2 q51
          exact zX11_told_59 hf
  · have hf := (br_if hf).2 q6
    obtain ⟨q11, c11, hf⟩ := br_b hf
    refine sm_tr (ssX11_passes c11) (by decide) ?_
    by_cases q14 : q11.1 = 0
    · have hf := (br_if hf).1 q14
      exact zX11_told_28 hf
    · have hf := (br_if hf).2 q14
      obtain ⟨q18, c18, hf⟩ := br_b hf
      refine sm_tr (ssX11_near c18) (by decide) ?_
      by_cases q21 : q18.1 = 0
      · have hf := (br_if hf).1 q21
        exact zX11_told_28 hf
      · have hf := (br_if hf).2 q21
        exact zX11_told_29 hf
theorem zzX11_told {M : Mem} {r : Int32} {M1 : Mem} (h : fX11_told M = some (r, M1)) : sm [(51, 51, none), (54, 54, none), (57, 57, none), (60, 60, none), (63, 63, none), (66, 66, none), (69, 69, none), (72, 72, none), (73, 77, some 1), (47, 47, some 2), (47, 47, some 3), (47, 47, some 4), (47, 47, some 5), (47, 47, some 19), (47, 47, some 20), (47, 47, some 21), (47, 47, some 22)] M M1 := zX11_told_0 h
theorem zX11_reads_71 {M1 : Mem} {k94 : Int32 → Mem → Option Mem} (hk94 : ∀ {x1 : Int32} {M : Mem}, k94 x1 M = some M1 → sm [(51, 51, none), (54, 54, none), (57, 57, none), (60, 60, none), (63, 63, none), (66, 66, none), (69, 69, none), (72, 72, none), (73, 77, some 1), (47, 47, some 2), (47, 47, some 3), (47, 47, some 4), (47, 47, some 5), (47, 47, some 19), (47, 47, some 20), (47, 47, some 21), (47, 47, some 22)] M M1) : ∀ (n : Nat) {x1 : Int32} {M : Mem}, fX11_reads_71 k94 n x1 M = some M1 → sm [(51, 51, none), (54, 54, none), (57, 57, none), (60, 60, none), (63, 63, none), (66, 66, none), (69, 69, none), (72, 72, none), (73, 77, some 1), (47, 47, some 2), (47, 47, some 3), (47, 47, some 4), (47, 47, some 5), (47, 47, some 19), (47, 47, some 20), (47, 47, some 21), (47, 47, some 22)] M M1 := by
  intro n
  induction n with
  | zero =>
    intro x1 M hf
    exact absurd (show none = some _ from hf) (fun h => by cases h)
  | succ n ih =>
    intro x1 M hf
    rw [fX11_reads_71] at hf
    by_cases q72 : x1 = 0
    · have hf := (br_if hf).1 q72
      exact hk94 hf
    · have hf := (br_if hf).2 q72
      by_cases q83 : (M.1 47 1) ≤ (M.1 47 2)
      · have hf := (br_if hf).1 q83
        exact hk94 hf
      · have hf := (br_if hf).2 q83
        obtain ⟨q87, c87, hf⟩ := br_b hf
        refine sm_tr (zzX11_told c87) (by decide) ?_
        obtain ⟨v90, e90⟩ : ∃ y : Int32, y = q87.1 := ⟨_, rfl⟩
        have hf := nx_at e90 hf
        exact ih hf
theorem zX11_reads_115 {M1 : Mem} : ∀ {M : Mem}, fX11_reads_115 M = some M1 → sm [(51, 51, none), (54, 54, none), (57, 57, none), (60, 60, none), (63, 63, none), (66, 66, none), (69, 69, none), (72, 72, none), (73, 77, some 1), (47, 47, some 2), (47, 47, some 3), (47, 47, some 4), (47, 47, some 5), (47, 47, some 19), (47, 47, some 20), (47, 47, some 21), (47, 47, some 22)] M M1 := by
  intro M hf
  unfold fX11_reads_115 at hf
  cases hf
  exact sm_rf
theorem zX11_reads_94 {M1 : Mem} : ∀ {x1 : Int32} {M : Mem}, fX11_reads_94 x1 M = some M1 → sm [(51, 51, none), (54, 54, none), (57, 57, none), (60, 60, none), (63, 63, none), (66, 66, none), (69, 69, none), (72, 72, none), (73, 77, some 1), (47, 47, some 2), (47, 47, some 3), (47, 47, some 4), (47, 47, some 5), (47, 47, some 19), (47, 47, some 20), (47, 47, some 21), (47, 47, some 22)] M M1 := by
  intro x1 M hf
  unfold fX11_reads_94 at hf
  by_cases q95 : x1 = 0
  · have hf := (br_if hf).1 q95
    exact zX11_reads_115 hf
  · have hf := (br_if hf).2 q95
    by_cases q104 : (M.1 73 (ix (1 : Int32))) = 0
    · have hf := (br_if hf).1 q104
      obtain ⟨M112, e112⟩ : ∃ y : Mem, y = (sI M 47 4 (M.1 47 1)) := ⟨_, rfl⟩
      have hf := nx_at e112 hf
      refine sm_I e112 (inS_up (L0 := [(47, 47, some 4)]) (by decide) (inS_s 47 4)) ?_
      exact zX11_reads_115 hf
    · have hf := (br_if hf).2 q104
      exact zX11_reads_115 hf
theorem zX11_reads_0 {M1 : Mem} : ∀ {M : Mem}, fX11_reads M = some M1 → sm [(51, 51, none), (54, 54, none), (57, 57, none), (60, 60, none), (63, 63, none), (66, 66, none), (69, 69, none), (72, 72, none), (73, 77, some 1), (47, 47, some 2), (47, 47, some 3), (47, 47, some 4), (47, 47, some 5), (47, 47, some 19), (47, 47, some 20), (47, 47, some 21), (47, 47, some 22)] M M1 := by
  intro M hf
  unfold fX11_reads at hf
  obtain ⟨M2, e2⟩ : ∃ y : Mem, y = (sI M 47 4 (-1 : Int32)) := ⟨_, rfl⟩
  have hf := nx_at e2 hf
  refine sm_I e2 (inS_up (L0 := [(47, 47, some 4)]) (by decide) (inS_s 47 4)) ?_
  obtain ⟨M11, e11⟩ : ∃ y : Mem, y = (sI M2 73 (ix (1 : Int32)) (0 : Int32)) := ⟨_, rfl⟩
  have hf := nx_at e11 hf
  refine sm_I e11 (inS_up (L0 := [(73, 73, some 1)]) (by decide) (inS_s 73 1)) ?_
  obtain ⟨M18, e18⟩ : ∃ y : Mem, y = (sI M11 74 (ix (1 : Int32)) (0 : Int32)) := ⟨_, rfl⟩
  have hf := nx_at e18 hf
  refine sm_I e18 (inS_up (L0 := [(74, 74, some 1)]) (by decide) (inS_s 74 1)) ?_
  obtain ⟨M25, e25⟩ : ∃ y : Mem, y = (sI M18 75 (ix (1 : Int32)) (0 : Int32)) := ⟨_, rfl⟩
  have hf := nx_at e25 hf
  refine sm_I e25 (inS_up (L0 := [(75, 75, some 1)]) (by decide) (inS_s 75 1)) ?_
  obtain ⟨M32, e32⟩ : ∃ y : Mem, y = (sI M25 76 (ix (1 : Int32)) (1 : Int32)) := ⟨_, rfl⟩
  have hf := nx_at e32 hf
  refine sm_I e32 (inS_up (L0 := [(76, 76, some 1)]) (by decide) (inS_s 76 1)) ?_
  obtain ⟨M39, e39⟩ : ∃ y : Mem, y = (sI M32 77 (ix (1 : Int32)) (2 : Int32)) := ⟨_, rfl⟩
  have hf := nx_at e39 hf
  refine sm_I e39 (inS_up (L0 := [(77, 77, some 1)]) (by decide) (inS_s 77 1)) ?_
  obtain ⟨M42, e42⟩ : ∃ y : Mem, y = (sI M39 47 19 (0 : Int32)) := ⟨_, rfl⟩
  have hf := nx_at e42 hf
  refine sm_I e42 (inS_up (L0 := [(47, 47, some 19)]) (by decide) (inS_s 47 19)) ?_
  obtain ⟨M47, e47⟩ : ∃ y : Mem, y = (sI M42 47 20 (1 : Int32)) := ⟨_, rfl⟩
  have hf := nx_at e47 hf
  refine sm_I e47 (inS_up (L0 := [(47, 47, some 20)]) (by decide) (inS_s 47 20)) ?_
  obtain ⟨M52, e52⟩ : ∃ y : Mem, y = (sI M47 47 21 (1 : Int32)) := ⟨_, rfl⟩
  have hf := nx_at e52 hf
  refine sm_I e52 (inS_up (L0 := [(47, 47, some 21)]) (by decide) (inS_s 47 21)) ?_
  obtain ⟨M57, e57⟩ : ∃ y : Mem, y = (sI M52 47 22 (0 : Int32)) := ⟨_, rfl⟩
  have hf := nx_at e57 hf
  refine sm_I e57 (inS_up (L0 := [(47, 47, some 22)]) (by decide) (inS_s 47 22)) ?_
  obtain ⟨M62, e62⟩ : ∃ y : Mem, y = (sI M57 47 2 (0 : Int32)) := ⟨_, rfl⟩
  have hf := nx_at e62 hf
  refine sm_I e62 (inS_up (L0 := [(47, 47, some 2)]) (by decide) (inS_s 47 2)) ?_
  obtain ⟨q66, c66, hf⟩ := br_b hf
  refine sm_tr (ssX11_skips c66) (by decide) ?_
  exact zX11_reads_71 (fun hf => zX11_reads_94 hf) FU hf
theorem zzX11_reads {M : Mem} {M1 : Mem} (h : fX11_reads M = some M1) : sm [(51, 51, none), (54, 54, none), (57, 57, none), (60, 60, none), (63, 63, none), (66, 66, none), (69, 69, none), (72, 72, none), (73, 77, some 1), (47, 47, some 2), (47, 47, some 3), (47, 47, some 4), (47, 47, some 5), (47, 47, some 19), (47, 47, some 20), (47, 47, some 21), (47, 47, some 22)] M M1 := zX11_reads_0 h
theorem zX11_fault_0 {r : Int32} {M1 : Mem} : ∀ {M : Mem}, fX11_fault M = some (r, M1) → sm [(51, 51, none), (54, 54, none), (57, 57, none), (60, 60, none), (63, 63, none), (66, 66, none), (69, 69, none), (72, 72, none), (73, 77, some 1), (47, 47, some 2), (47, 47, some 3), (47, 47, some 4), (47, 47, some 5), (47, 47, some 19), (47, 47, some 20), (47, 47, some 21), (47, 47, some 22)] M M1 := by
  intro M hf
  unfold fX11_fault at hf
  obtain ⟨q1, c1, hf⟩ := br_b hf
  refine sm_tr (zzX11_reads c1) (by decide) ?_
  cases hf
  exact sm_rf
theorem zzX11_fault {M : Mem} {r : Int32} {M1 : Mem} (h : fX11_fault M = some (r, M1)) : sm [(51, 51, none), (54, 54, none), (57, 57, none), (60, 60, none), (63, 63, none), (66, 66, none), (69, 69, none), (72, 72, none), (73, 77, some 1), (47, 47, some 2), (47, 47, some 3), (47, 47, some 4), (47, 47, some 5), (47, 47, some 19), (47, 47, some 20), (47, 47, some 21), (47, 47, some 22)] M M1 := zX11_fault_0 h
