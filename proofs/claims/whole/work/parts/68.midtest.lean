/-! places that nobody beats: the test, in both objects -/
def mX (D : Dt) (X N : Int64) (u : Nat) : Int64 := N * (D.2.1 u).toInt64 - X
def mY (D : Dt) (Y N : Int64) (u : Nat) : Int64 := N * (D.2.2.1 u).toInt64 - Y
def mTn (D : Dt) (X Y N : Int64) (v u : Nat) : Int64 := mX D X N v * mY D Y N u - mY D Y N v * mX D X N u
def mAl (D : Dt) (X Y N : Int64) (v u : Nat) : Int64 := mX D X N v * mX D X N u + mY D Y N v * mY D Y N u
def mLf (D : Dt) (X Y N : Int64) (v m : Nat) : Int32 := sm_ (fun u => if 0 < mTn D X Y N v u then D.2.2.2.1 u else 0) m
def mRg (D : Dt) (X Y N : Int64) (v m : Nat) : Int32 := sm_ (fun u => if mTn D X Y N v u < 0 then D.2.2.2.1 u else 0) m
def mAh (D : Dt) (X Y N : Int64) (v m : Nat) : Int32 := sm_ (fun u => if mTn D X Y N v u = 0 ∧ 0 < mAl D X Y N v u then D.2.2.2.1 u else 0) m
def mBh (D : Dt) (X Y N : Int64) (v m : Nat) : Int32 := sm_ (fun u => if mTn D X Y N v u = 0 ∧ mAl D X Y N v u < 0 then D.2.2.2.1 u else 0) m
def m4 (D : Dt) (X Y N : Int64) (v m : Nat) : Int32 × Int32 × Int32 × Int32 := (mLf D X Y N v m, mRg D X Y N v m, mAh D X Y N v m, mBh D X Y N v m)
def mSp (D : Dt) (X Y N : Int64) (v : Nat) : Bool := !(decide (mX D X N v = 0) && decide (mY D Y N v = 0)) && decide (totD D < 2 * (imax (mLf D X Y N v D.1) (mRg D X Y N v D.1) + imax (mAh D X Y N v D.1) (mBh D X Y N v D.1)))
def mdB (D : Dt) (X Y N : Int64) : Bool := !(anyN (mSp D X Y N) D.1)
theorem m4_s (D : Dt) (X Y N : Int64) (v m : Nat) : m4 D X Y N v (m + 1) = (if 0 < mTn D X Y N v m then (mLf D X Y N v m + D.2.2.2.1 m, mRg D X Y N v m, mAh D X Y N v m, mBh D X Y N v m) else if mTn D X Y N v m < 0 then (mLf D X Y N v m, mRg D X Y N v m + D.2.2.2.1 m, mAh D X Y N v m, mBh D X Y N v m) else if 0 < mAl D X Y N v m then (mLf D X Y N v m, mRg D X Y N v m, mAh D X Y N v m + D.2.2.2.1 m, mBh D X Y N v m) else if mAl D X Y N v m < 0 then (mLf D X Y N v m, mRg D X Y N v m, mAh D X Y N v m, mBh D X Y N v m + D.2.2.2.1 m) else m4 D X Y N v m) := by
  unfold m4 mLf mRg mAh mBh
  simp only [smm_s]
  have z : (0 : Int64).toInt = 0 := rfl
  have e0 : mTn D X Y N v m = 0 ↔ ¬ 0 < mTn D X Y N v m ∧ ¬ mTn D X Y N v m < 0 := by rw [fa_eq64, fa_lt64, fa_lt64]; omega
  have e1 : 0 < mTn D X Y N v m → ¬ mTn D X Y N v m < 0 := by rw [fa_lt64, fa_lt64]; omega
  have e2 : 0 < mAl D X Y N v m → ¬ mAl D X Y N v m < 0 := by rw [fa_lt64, fa_lt64]; omega
  simp only [e0]
  by_cases c1 : 0 < mTn D X Y N v m
  · simp [c1, e1 c1]
  · by_cases c2 : mTn D X Y N v m < 0
    · simp [c1, c2]
    · by_cases c3 : 0 < mAl D X Y N v m
      · simp [c1, c2, c3, e2 c3]
      · by_cases c4 : mAl D X Y N v m < 0
        · simp [c1, c2, c3, c4]
        · simp [c1, c2, c3, c4]
theorem lg_le0 (x : Int64) : (lg_cmp x 0 ≤ 0) ↔ ¬ 0 < x := by rw [lg_le, fa_le64, fa_lt64]; omega
theorem lg_ge0 (x : Int64) : (0 ≤ lg_cmp x 0) ↔ ¬ x < 0 := by
  have h := lg_lt x 0
  rw [← h, fa_le, fa_lt]
  have z : (0 : Int32).toInt = 0 := rfl
  omega
theorem k_half {M : Mem} {n p : Nat} (h : DI M n p) (x : Int32) : fX8_isMoreThanHalf_t M x = some (bI (decide (totD (cD M) < 2 * x))) := by
  unfold fX8_isMoreThanHalf_t
  simp only [h.2.2.2.2.2.2.2]
  have le_iff : (2 * x ≤ totD (cD M)) ↔ ¬ totD (cD M) < 2 * x := by rw [fa_le, fa_lt]; omega
  by_cases c : totD (cD M) < 2 * x
  · simp [le_iff, c]; rfl
  · simp [le_iff, c]; rfl
/-! the class's own test: a voter and all to his left, up to half a turn -/
def mAs (D : Dt) (X Y N : Int64) (v m : Nat) : Int32 := sm_ (fun u => if 0 < mTn D X Y N v u ∨ (mTn D X Y N v u = 0 ∧ 0 < mAl D X Y N v u) then D.2.2.2.1 u else 0) m
def mCr (D : Dt) (X Y N : Int64) (v : Nat) : Bool := decide (totD D < 2 * mAs D X Y N v D.1)
def mcB (D : Dt) (X Y N : Int64) : Bool := !(anyN (mCr D X Y N) D.1)
theorem mAs_s (D : Dt) (X Y N : Int64) (v m : Nat) : mAs D X Y N v (m + 1) = mAs D X Y N v m + (if 0 < mTn D X Y N v m ∨ (mTn D X Y N v m = 0 ∧ 0 < mAl D X Y N v m) then D.2.2.2.1 m else 0) := by
  unfold mAs
  rw [smm_s]
theorem lg_gt0 (x : Int64) : (0 < lg_cmp x 0) ↔ 0 < x := by
  have h := lg_le0 x
  have z : (0 : Int32).toInt = 0 := rfl
  rw [fa_le, z] at h
  rw [fa_lt, z]
  constructor
  · intro q
    exact Classical.byContradiction fun w => by have := h.mpr w; omega
  · intro q
    exact Classical.byContradiction fun w => h.mp (by omega) q
theorem k_crowd {M : Mem} {n p : Nat} (h : DI M n p) (X Y N : Int64) {v : Nat} (hv : v < n) : fX4_isCrowdedFrom M (nI v) X Y N = some (bI (mCr (cD M) X Y N v)) := by
  have hn := h.n15
  have hv15 := inb_nI (show v < 15 by omega) (by decide)
  unfold fX4_isCrowdedFrom
  simp only [hv15, if_true, ix_nI (show v < 2147483648 by omega), nx_eq]
  have ex : N * (M.1 2 v).toInt64 - X = mX (cD M) X N v := rfl
  have ey : N * (M.1 3 v).toInt64 - Y = mY (cD M) Y N v := rfl
  simp only [ex, ey]
  have hh := for_ex (σ := Int32) (fun f i s => fX4_isCrowdedFrom_41 M (fX4_isCrowdedFrom_158 M) f X Y N (mX (cD M) X N v) (mY (cD M) Y N v) s i) (fun s => fX4_isCrowdedFrom_158 M s) n
    (fun i s => s = mAs (cD M) X Y N v i) ?_ ?_ 0 rfl FU (FU_gt (by omega))
  · obtain ⟨s, h1, h2⟩ := hh
    rw [h2] at h1
    refine Eq.trans h1 ?_
    show fX4_isCrowdedFrom_158 M (mAs (cD M) X Y N v n) = _
    unfold fX4_isCrowdedFrom_158 mCr
    rw [k_half h, Option.bind_some, bI_and, h.cn]
  · rintro f u s hu rfl
    refine ⟨_, ?_, rfl⟩
    have hu15 := inb_nI (show u < 15 by omega) (by decide)
    show fX4_isCrowdedFrom_41 M (fX4_isCrowdedFrom_158 M) (f + 1) X Y N _ _ (mAs (cD M) X Y N v u) (nI u) = _
    rw [fX4_isCrowdedFrom_41, h.2.1.1, if_neg (nI_ge hu (by omega)), mAs_s]
    unfold fX4_isCrowdedFrom_137 fX4_isCrowdedFrom_152
    simp only [hu15, if_true, ix_nI (show u < 2147483648 by omega), nx_eq, nI_s]
    have ex : N * (M.1 2 u).toInt64 - X = mX (cD M) X N u := rfl
    have ey : N * (M.1 3 u).toInt64 - Y = mY (cD M) Y N u := rfl
    simp only [ex, ey]
    have et : mX (cD M) X N v * mY (cD M) Y N u - mY (cD M) Y N v * mX (cD M) X N u = mTn (cD M) X Y N v u := rfl
    have ea : mX (cD M) X N v * mX (cD M) X N u + mY (cD M) Y N v * mY (cD M) Y N u = mAl (cD M) X Y N v u := rfl
    simp only [et, ea, lg_le0, lg_gt0, lg_eq]
    have ew : M.1 4 u = (cD M).2.2.2.1 u := rfl
    simp only [ew]
    by_cases c1 : 0 < mTn (cD M) X Y N v u
    · rw [if_pos c1, if_pos (Or.inl c1)]
    · rw [if_neg c1]
      by_cases c2 : mTn (cD M) X Y N v u = 0
      · rw [if_pos c2]
        by_cases c3 : 0 < mAl (cD M) X Y N v u
        · rw [if_neg (fun q => q c3), if_pos (Or.inr ⟨c2, c3⟩)]
        · rw [if_pos c3, if_neg (fun q => q.elim c1 (fun w => c3 w.2)), Int32.add_zero]
      · rw [if_neg c2, if_neg (fun q => q.elim c1 (fun w => c2 w.1)), Int32.add_zero]
  · rintro f s rfl
    show fX4_isCrowdedFrom_41 M (fX4_isCrowdedFrom_158 M) (f + 1) X Y N _ _ _ (nI n) = _
    rw [fX4_isCrowdedFrom_41, h.2.1.1, if_pos (nI_le (Nat.le_refl _) (by omega))]
theorem k_isMid {M : Mem} {n p : Nat} (h : DI M n p) (X Y N : Int64) : fX4_isMiddle M X Y N = some (bI (mcB (cD M) X Y N)) := by
  have hn := h.n15
  unfold fX4_isMiddle mcB
  have hh := for_anyB (fun f i => fX4_isMiddle_3 M (fX4_isMiddle_28 M) (fX4_isMiddle_36 M) f X Y N i) (some (1 : Int32)) (some (0 : Int32)) (mCr (cD M) X Y N) n ?_ ?_ FU (FU_gt (by omega))
  · refine Eq.trans hh ?_
    rw [h.cn]
    cases anyN (mCr (cD M) X Y N) n <;> rfl
  · intro f v hv
    show fX4_isMiddle_3 M _ _ (f + 1) X Y N (nI v) = _
    rw [fX4_isMiddle_3, h.2.1.1, if_neg (nI_ge hv (by omega)), k_crowd h X Y N hv, Option.bind_some]
    simp only [nx_eq, nI_s, bI_0]
    cases mCr (cD M) X Y N v <;> rfl
  · intro f
    show fX4_isMiddle_3 M _ _ (f + 1) X Y N (nI n) = _
    rw [fX4_isMiddle_3, h.2.1.1, if_pos (nI_le (Nat.le_refl _) (by omega))]
    rfl
theorem e_split69 {M : Mem} {n p : Nat} (h : DI M n p) (K9 : Int64 → Int64 → Int64 → Int32 → Int32 → Option Int32) (k257 k265 : Option Int32) (X Y N : Int64) (W q : Int32) (v : Nat) : fX11_isMiddle_69 M K9 k257 k265 X Y N W q (mX (cD M) X N v) (mY (cD M) Y N v) = fX11_isMiddle_235 M K9 k257 k265 X Y N W q (mLf (cD M) X Y N v n) (mRg (cD M) X Y N v n) (mAh (cD M) X Y N v n) (mBh (cD M) X Y N v n) := by
  have hn := h.n15
  have hD := h.2.2.2.2.1
  unfold fX11_isMiddle_69
  have hh := for_ex (σ := Int32 × Int32 × Int32 × Int32) (fun f i s => fX11_isMiddle_84 M (fX11_isMiddle_235 M K9 k257 k265) f X Y N W q (mX (cD M) X N v) (mY (cD M) Y N v) s.1 s.2.1 s.2.2.1 s.2.2.2 i) (fun s => fX11_isMiddle_235 M K9 k257 k265 X Y N W q s.1 s.2.1 s.2.2.1 s.2.2.2) n
    (fun i s => s = m4 (cD M) X Y N v i) ?_ ?_ (0, 0, 0, 0) rfl FU (FU_gt (by omega))
  · obtain ⟨s, h1, h2⟩ := hh
    rw [h2] at h1
    exact h1
  · rintro f u s hu rfl
    refine ⟨_, ?_, rfl⟩
    have hv15 := inb_nI (show u < 15 by omega) (by decide)
    obtain ⟨d1, d2, d3, -⟩ := hD.2 u (by rw [h.cn]; exact hu)
    have d1 : M.1 2 u = M.1 50 u := d1
    have d2 : M.1 3 u = M.1 53 u := d2
    have d3 : M.1 4 u = M.1 56 u := d3
    show fX11_isMiddle_84 M _ (f + 1) X Y N W q _ _ (mLf (cD M) X Y N v u) (mRg (cD M) X Y N v u) (mAh (cD M) X Y N v u) (mBh (cD M) X Y N v u) (nI u) = _
    rw [fX11_isMiddle_84, e_voters, Option.bind_some, h.2.1.2.2.1, if_neg (nI_ge hu (by omega)), m4_s]
    unfold fX11_isMiddle_229
    simp only [hv15, if_true, ix_nI (show u < 2147483648 by omega), nx_eq, nI_s, ← d1, ← d2, ← d3]
    have ex : N * (M.1 2 u).toInt64 - X = mX (cD M) X N u := rfl
    have ey : N * (M.1 3 u).toInt64 - Y = mY (cD M) Y N u := rfl
    simp only [ex, ey]
    have et : mX (cD M) X N v * mY (cD M) Y N u - mY (cD M) Y N v * mX (cD M) X N u = mTn (cD M) X Y N v u := rfl
    have ea : mX (cD M) X N v * mX (cD M) X N u + mY (cD M) Y N v * mY (cD M) Y N u = mAl (cD M) X Y N v u := rfl
    simp only [et, ea, lg_le0, lg_ge0]
    have ew : M.1 4 u = (cD M).2.2.2.1 u := rfl
    simp only [ew]
    by_cases c1 : 0 < mTn (cD M) X Y N v u
    · simp [c1]
    · by_cases c2 : mTn (cD M) X Y N v u < 0
      · simp [c1, c2]
      · by_cases c3 : 0 < mAl (cD M) X Y N v u
        · simp [c1, c2, c3]
        · by_cases c4 : mAl (cD M) X Y N v u < 0
          · simp [c1, c2, c3, c4]
          · simp [c1, c2, c3, c4, m4]
  · rintro f s rfl
    show fX11_isMiddle_84 M _ (f + 1) X Y N W q _ _ _ _ _ _ (nI n) = _
    rw [fX11_isMiddle_84, e_voters, Option.bind_some, h.2.1.2.2.1, if_pos (nI_le (Nat.le_refl _) (by omega))]
theorem e_isMiddle {M : Mem} {n p : Nat} (h : DI M n p) (X Y N : Int64) : fX11_isMiddle M X Y N = some (bI (mdB (cD M) X Y N)) := by
  have hn := h.n15
  have hD := h.2.2.2.2.1
  unfold fX11_isMiddle mdB
  rw [e_total M h.2.1.2.2.1 hn, ← hD.tot, Option.bind_some]
  have hh := for_anyB (fun f i => fX11_isMiddle_9 M (fX11_isMiddle_257 M) (fX11_isMiddle_265 M) f X Y N (totD (cD M)) i) (some (1 : Int32)) (some (0 : Int32)) (mSp (cD M) X Y N) n ?_ ?_ FU (FU_gt (by omega))
  · refine Eq.trans hh ?_
    rw [h.cn]
    cases anyN (mSp (cD M) X Y N) n <;> rfl
  · intro f v hv
    have hv15 := inb_nI (show v < 15 by omega) (by decide)
    obtain ⟨d1, d2, -⟩ := hD.2 v (by rw [h.cn]; exact hv)
    have d1 : M.1 2 v = M.1 50 v := d1
    have d2 : M.1 3 v = M.1 53 v := d2
    show fX11_isMiddle_9 M _ _ (f + 1) X Y N _ (nI v) = _
    rw [fX11_isMiddle_9, e_voters, Option.bind_some, h.2.1.2.2.1, if_neg (nI_ge hv (by omega))]
    simp only [hv15, if_true, ix_nI (show v < 2147483648 by omega), nx_eq, lg_eq, ← d1, ← d2]
    have ex : N * (M.1 2 v).toInt64 - X = mX (cD M) X N v := rfl
    have ey : N * (M.1 3 v).toInt64 - Y = mY (cD M) Y N v := rfl
    simp only [ex, ey]
    rw [e_split69 h]
    unfold fX11_isMiddle_235 fX11_isMiddle_259 mSp
    rw [h.cn]
    simp only [nx_eq, nI_s]
    have le_iff : ∀ x y : Int32, (x ≤ y) ↔ ¬ y < x := by intro x y; rw [fa_le, fa_lt]; omega
    simp only [le_iff]
    by_cases c1 : mX (cD M) X N v = 0
    · by_cases c2 : mY (cD M) Y N v = 0
      · simp [c1, c2]
      · by_cases c3 : totD (cD M) < 2 * (imax (mLf (cD M) X Y N v n) (mRg (cD M) X Y N v n) + imax (mAh (cD M) X Y N v n) (mBh (cD M) X Y N v n))
        · simp [c1, c2, c3]
          rfl
        · simp [c1, c2, c3]
    · by_cases c3 : totD (cD M) < 2 * (imax (mLf (cD M) X Y N v n) (mRg (cD M) X Y N v n) + imax (mAh (cD M) X Y N v n) (mBh (cD M) X Y N v n))
      · simp [c1, c3]
        rfl
      · simp [c1, c3]
  · intro f
    show fX11_isMiddle_9 M _ _ (f + 1) X Y N _ (nI n) = _
    rw [fX11_isMiddle_9, e_voters, Option.bind_some, h.2.1.2.2.1, if_pos (nI_le (Nat.le_refl _) (by omega))]
    rfl
