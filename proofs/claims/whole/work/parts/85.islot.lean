/-! the reference's lot -/
theorem in89 {i : Nat} (hi : i < 8) (j : Nat) : inS [(89, 96, none)] (89 + i) j = true := by
  refine List.any_eq_true.mpr ⟨(89, 96, none), List.mem_singleton.mpr rfl, ?_⟩
  simp
  omega
def lotS (g : Nat → Nat → Int32) (m h : Nat) : Prop := (upS g h ∨ dnS g h) ∧ anyG g (av g h) m = false
def nAb (g : Nat → Nat → Int32) (h k : Nat) : Nat := fb_ct (fun j => tb h j && decide (0 < (svL g h j).toInt)) k
def nBe (g : Nat → Nat → Int32) (h k : Nat) : Nat := fb_ct (fun j => tb h j && decide ((svL g h j).toInt < 0)) k
theorem nAb_up {g : Nat → Nat → Int32} {h : Nat} (hh : h < 256) : nAb g h 8 = bcN h ↔ upS g h := by
  rw [(m_tab3 h hh).2.2]
  constructor
  · intro e i hi ht
    by_cases c : 0 < (svL g h i).toInt
    · exact c
    · have := ct_lt (f := fun j => tb h j && decide (0 < (svL g h j).toInt)) (g := tb h) (n := 8) (i := i) (fun k _ q => by simp at q; exact q.1) hi (by simp [c]) ht
      unfold nAb at e
      omega
  · intro u
    exact fb_ct_cong (fun k hk => by
      cases q : tb h k with
      | false => rfl
      | true => simp [u k hk q])
theorem nBe_dn {g : Nat → Nat → Int32} {h : Nat} (hh : h < 256) : nBe g h 8 = bcN h ↔ dnS g h := by
  rw [(m_tab3 h hh).2.2]
  constructor
  · intro e i hi ht
    by_cases c : (svL g h i).toInt < 0
    · exact c
    · have := ct_lt (f := fun j => tb h j && decide ((svL g h j).toInt < 0)) (g := tb h) (n := 8) (i := i) (fun k _ q => by simp at q; exact q.1) hi (by simp [c]) ht
      unfold nBe at e
      omega
  · intro u
    exact fb_ct_cong (fun k hk => by
      cases q : tb h k with
      | false => rfl
      | true => simp [u k hk q])
theorem up_nBe {g : Nat → Nat → Int32} {h : Nat} (u : upS g h) : nBe g h 8 = 0 := by
  refine fb_ct_zero.mpr (fun k hk => ?_)
  cases q : tb h k with
  | false => rfl
  | true =>
    have := u k hk q
    simp
    omega
theorem sv_out {g : Nat → Nat → Int32} {h i : Nat} (ht : tb h i = false) : svL g h i = 0 := by
  unfold svL
  rw [ht, if_neg (by decide)]
theorem sv_up {g : Nat → Nat → Int32} (sg : smg g) {h i : Nat} (hh : h < 256) (ho : bcN h % 2 = 1) (hi : i < 8) (u : upS g h) : svL g h i = lN (av g h i) := by
  have b := sv_b sg hh ho hi
  refine lN_of ?_ (by unfold av; omega)
  unfold av
  cases q : tb h i with
  | false => rw [sv_out q]; rfl
  | true => have := u i hi q; omega
theorem sv_dn {g : Nat → Nat → Int32} (sg : smg g) {h i : Nat} (hh : h < 256) (ho : bcN h % 2 = 1) (hi : i < 8) (u : dnS g h) : - svL g h i = lN (av g h i) := by
  have b := sv_b sg hh ho hi
  refine lN_of ?_ (by unfold av; omega)
  rw [Int64.toInt_neg, fb_bmodL (by omega) (by omega)]
  unfold av
  cases q : tb h i with
  | false => rw [sv_out q]; rfl
  | true => have := u i hi q; omega
theorem e_chosen {M : Mem} {p : Nat} (h : M.1 74 0 = nI p) (hp : p ≤ 20) : fX11_chosen M = some (nI (min 8 p)) := by
  unfold fX11_chosen
  rw [e_places, Option.bind_some, h]
  congr 1
  rw [fa_eq, imin_i, nI_toInt (by omega), nI_toInt (by omega)]
  have e8 : (8 : Int32).toInt = 8 := rfl
  rw [e8]
  split <;> omega
/-- first all shares with their signs -/
theorem e_lot13 {M : Mem} {m h : Nat} {g : Nat → Nat → Int32} (hm : m ≤ 8) (hg : ∀ i j, i < m → j < m → M.2 (89 + i) j = gL g i j) (sg : smg g) (hh : h < 2 ^ m) (ho : bcN h % 2 = 1) (K : Int32 → Int64 → Int32 → Int32 → Mem → Option (Int32 × Mem)) :
    ∃ X, fX11_isLot_13 K FU (nI h) 1 0 0 0 0 M = K (nI h) (lN (gA (av g h) 8)) (nI (nBe g h 8)) (nI (nAb g h 8)) X ∧ (∀ j, j < 8 → X.2 97 j = svL g h j) ∧ sm [(97, 97, none)] M X := by
  have h256 : h < 256 := by have := pw8 hm; omega
  have z64 : (0 : Int64).toInt = 0 := rfl
  have e8 : (8 : Int32) = nI 8 := rfl
  have hh2 := for_ex (σ := Int32 × Int64 × Int32 × Int32 × Mem) (fun f i s => fX11_isLot_13 K f (nI h) s.1 s.2.1 s.2.2.1 s.2.2.2.1 i s.2.2.2.2) (fun s => K (nI h) s.2.1 s.2.2.1 s.2.2.2.1 s.2.2.2.2) 8
    (fun i s => sm [(97, 97, none)] M s.2.2.2.2 ∧ (∀ j, j < i → s.2.2.2.2.2 97 j = svL g h j) ∧ s.1 = sgA h i ∧ s.2.1 = lN (gA (av g h) i) ∧ s.2.2.1 = nI (nBe g h i) ∧ s.2.2.2.1 = nI (nAb g h i)) ?_ ?_ (1, 0, 0, 0, M) ⟨sm_rf, fun j h => absurd h (by omega), rfl, rfl, rfl, rfl⟩ FU (FU_gt (by omega))
  · obtain ⟨⟨s, y, b, a, X⟩, k1, k2, k3, k4, k5, k6, k7⟩ := hh2
    refine ⟨X, ?_, k3, k2⟩
    refine Eq.trans k1 ?_
    show K (nI h) y b a X = _
    rw [show y = lN (gA (av g h) 8) from k5, show b = nI (nBe g h 8) from k6, show a = nI (nAb g h 8) from k7]
  · rintro f i ⟨s, y, b, a, X⟩ hi ⟨g1, g2, g3, g4, g5, g6⟩
    have g1 : sm [(97, 97, none)] M X := g1
    have g2 : ∀ j, j < i → X.2 97 j = svL g h j := g2
    have g3 : s = sgA h i := g3
    have g4 : y = lN (gA (av g h) i) := g4
    have g5 : b = nI (nBe g h i) := g5
    have g6 : a = nI (nAb g h i) := g6
    have i8 := inb_nI hi (by decide)
    obtain ⟨t1, t2⟩ := m_tab2 h h256 i hi
    show ∃ s1 : Int32 × Int64 × Int32 × Int32 × Mem, fX11_isLot_13 K (f + 1) (nI h) s y b a (nI i) X = fX11_isLot_13 K f (nI h) s1.1 s1.2.1 s1.2.2.1 s1.2.2.2.1 (nI (i + 1)) s1.2.2.2.2 ∧ _
    rw [fX11_isLot_13, e8, if_neg (nI_ge hi (by omega)), if_pos i8, nx_eq, ix_nI (by omega), t1]
    unfold fX11_isLot_84 fX11_isLot_106 fX11_isLot_121
    cases ct : tb h i with
    | false =>
      rw [if_pos (show ((if false = true then (1 : Int32) else 0) = 0) by decide)]
      simp only [nx_eq, nI_s]
      refine ⟨(s, y, b, a, sL X 97 i 0), rfl, g1.Lg (by rfl), fun j hj => ?_, ?_, ?_, ?_, ?_⟩
      · show (sL X 97 i 0).2 97 j = _
        by_cases e : j = i
        · rw [e, sL_at, sv_out ct]
        · rw [sL_ne _ _ (fun q => e q.2)]; exact g2 j (by omega)
      · show s = _
        rw [sgA_s, ct, if_neg (by decide)]; exact g3
      · show y = _
        rw [gA_s, av_0 ct, Nat.gcd_zero_right]; exact g4
      · show b = _
        unfold nBe at g5 ⊢
        rw [fb_ct_succ, ct]; exact g5
      · show a = _
        unfold nAb at g6 ⊢
        rw [fb_ct_succ, ct]; exact g6
    | true =>
      obtain ⟨u1, u2, -, u4⟩ := t2 ct
      have sX : sm [(97, 97, none)] M (sL X 97 i 0) := g1.Lg (by rfl)
      have hgX : ∀ i' j, i' < m → j < m → (sL X 97 i 0).2 (89 + i') j = gL g i' j := by
        intro i' j h1 h2
        rw [sL_ne _ _ (fun q => absurd q.1 (by omega)), (g1.on [(89, 96, none)] (by decide) (by decide)).l (89 + i') j (in89 (by omega) j)]
        exact hg i' j h1 h2
      have hv : s.toInt64 * pfN (gL g) (h - 2 ^ i) = svL g h i := by
        unfold svL
        rw [ct, if_pos rfl, g3]
      rw [if_neg (show ¬ ((if true = true then (1 : Int32) else 0) = 0) by decide), u4, e_coupled hm hgX (Nat.lt_of_le_of_lt (Nat.sub_le _ _) hh) (by omega), Option.bind_some, if_pos i8, nx_eq, nx_eq, if_pos i8, hv]
      have rd : (sL (sL X 97 i 0) 97 i (svL g h i)).2 97 i = svL g h i := sL_at ..
      have sb := sv_b sg h256 ho hi
      have gb : gA (av g h) i ≤ 1300000000 := gA_b (fun j hj => av_b sg h256 ho (by omega))
      have ty : y.toInt.natAbs = gA (av g h) i := by rw [g4, pk_lT (by omega)]; rfl
      have gcd1 : ∀ Y : Mem, fX11_gcd Y y (svL g h i) = some (lN (gA (av g h) (i + 1))) := by
        intro Y
        rw [e_gcd Y (by omega) (by omega), ty]
        rfl
      simp only [nx_eq, nI_s, i8, if_true, ix_nI (show i < 2147483648 by omega), rd, gcd1, Option.bind_some, lg_le0, lg_ge0, fa_lt64, z64]
      have fin : ∀ a1 b1 : Int32, a1 = nI (nAb g h (i + 1)) → b1 = nI (nBe g h (i + 1)) → ∃ s1 : Int32 × Int64 × Int32 × Int32 × Mem, fX11_isLot_13 K f (nI h) (-s) (lN (gA (av g h) (i + 1))) b1 a1 (nI (i + 1)) (sL (sL X 97 i 0) 97 i (svL g h i)) = fX11_isLot_13 K f (nI h) s1.1 s1.2.1 s1.2.2.1 s1.2.2.2.1 (nI (i + 1)) s1.2.2.2.2 ∧ (sm [(97, 97, none)] M s1.2.2.2.2 ∧ (∀ j, j < i + 1 → s1.2.2.2.2.2 97 j = svL g h j) ∧ s1.1 = sgA h (i + 1) ∧ s1.2.1 = lN (gA (av g h) (i + 1)) ∧ s1.2.2.1 = nI (nBe g h (i + 1)) ∧ s1.2.2.2.1 = nI (nAb g h (i + 1))) := by
        intro a1 b1 ha1 hb1
        refine ⟨(-s, lN (gA (av g h) (i + 1)), b1, a1, sL (sL X 97 i 0) 97 i (svL g h i)), rfl, sX.Lg (by rfl), fun j hj => ?_, ?_, rfl, hb1, ha1⟩
        · show (sL (sL X 97 i 0) 97 i (svL g h i)).2 97 j = _
          by_cases e : j = i
          · rw [e, sL_at]
          · rw [sL_ne _ _ (fun q => e q.2), sL_ne _ _ (fun q => e q.2)]; exact g2 j (by omega)
        · show -s = _
          rw [sgA_s, ct, if_pos rfl, g3]
      have ea : nAb g h (i + 1) = nAb g h i + (if 0 < (svL g h i).toInt then 1 else 0) := by
        unfold nAb
        rw [fb_ct_succ, ct]
        by_cases q : 0 < (svL g h i).toInt <;> simp [q]
      have eb : nBe g h (i + 1) = nBe g h i + (if (svL g h i).toInt < 0 then 1 else 0) := by
        unfold nBe
        rw [fb_ct_succ, ct]
        by_cases q : (svL g h i).toInt < 0 <;> simp [q]
      by_cases p1 : 0 < (svL g h i).toInt
      · have p2 : ¬ (svL g h i).toInt < 0 := by omega
        rw [if_neg (fun w => w p1), if_pos p2]
        rw [if_pos p1] at ea
        rw [if_neg p2] at eb
        refine fin _ _ (by rw [ea, g6]; exact nI_s _) (by rw [eb, g5]; exact Int32.add_zero _)
      · rw [if_pos p1]
        rw [if_neg p1] at ea
        by_cases p2 : (svL g h i).toInt < 0
        · rw [if_neg (fun w => w p2)]
          rw [if_pos p2] at eb
          exact fin _ _ (by rw [ea, g6]; exact Int32.add_zero _) (by rw [eb, g5]; exact nI_s _)
        · rw [if_pos p2]
          rw [if_neg p2] at eb
          exact fin _ _ (by rw [ea, g6]; exact Int32.add_zero _) (by rw [eb, g5]; exact Int32.add_zero _)
  · rintro f ⟨s, y, b, a, X⟩ -
    show fX11_isLot_13 K (f + 1) (nI h) s y b a (nI 8) X = _
    rw [fX11_isLot_13, e8, if_pos (nI_le (Nat.le_refl _) (by omega))]
theorem e_lot200 {M : Mem} {p m : Nat} {g : Nat → Nat → Int32} {a : Nat → Nat} (hp : p ≤ 20) (h74 : M.1 74 0 = nI p) (em : m = min 8 p) (hg : ∀ i j, i < m → j < m → M.2 (89 + i) j = gL g i j) (sg : smg g) (ha : ∀ j, j < 8 → a j ≤ 1300000000) (h97 : ∀ j, j < 8 → M.2 97 j = lN (a j)) : fX11_isLot_197 M = some (bI (!(anyG g a m)), M) := by
  have hm : m ≤ 8 := by omega
  have hc := e_chosen h74 hp
  rw [← em] at hc
  unfold fX11_isLot_197 anyG
  have hh := for_anyB (fun f i => fX11_isLot_200 fX11_isLot_260 fX11_isLot_268 f i M) (some ((1 : Int32), M)) (some ((0 : Int32), M)) (fun i => decide (0 < gsum g a m i)) m ?_ ?_ FU (FU_gt (by omega))
  · refine Eq.trans hh ?_
    cases anyN (fun i => decide (0 < gsum g a m i)) m <;> rfl
  · intro f i hi
    show fX11_isLot_200 _ _ (f + 1) (nI i) M = _
    rw [fX11_isLot_200, hc, Option.bind_some, if_neg (nI_ge hi (by omega))]
    have hh := for_ex (σ := Int64) (fun f2 j y => fX11_isLot_215 (fX11_isLot_253 (fX11_isLot_200 fX11_isLot_260 fX11_isLot_268 f) fX11_isLot_260 fX11_isLot_268) f2 (nI i) y j M) (fun y => fX11_isLot_253 (fX11_isLot_200 fX11_isLot_260 fX11_isLot_268 f) fX11_isLot_260 fX11_isLot_268 (nI i) y M) m
      (fun j y => y.toInt = gsum g a j i) ?_ ?_ 0 rfl FU (FU_gt (by omega))
    · obtain ⟨y, y1, y2⟩ := hh
      refine Eq.trans y1 ?_
      unfold fX11_isLot_253
      simp only [lg_le0, nx_eq, nI_s, fa_lt64, y2]
      have z64 : (0 : Int64).toInt = 0 := rfl
      rw [z64]
      by_cases c : 0 < gsum g a m i
      · simp [c]; rfl
      · simp [c]
    · intro f2 j y hj hy
      refine ⟨_, ?_, gs_add sg (show j < 8 by omega) ha hy⟩
      show fX11_isLot_215 _ (f2 + 1) (nI i) y (nI j) M = _
      have i8 := inb_nI (show i < 8 by omega) (by decide)
      have j8 := inb_nI (show j < 8 by omega) (by decide)
      rw [fX11_isLot_215, hc, Option.bind_some, if_neg (nI_ge hj (by omega)), if_pos i8, if_pos j8, if_pos j8, nx_eq, nx_eq, nI_s, ix_nI (show i < 2147483648 by omega), ix_nI (show j < 2147483648 by omega), h97 j (by omega), hg i j hi hj]
      rfl
    · intro f2 y _
      show fX11_isLot_215 _ (f2 + 1) (nI i) y (nI m) M = _
      rw [fX11_isLot_215, hc, Option.bind_some, if_pos (nI_le (Nat.le_refl _) (by omega))]
  · intro f
    show fX11_isLot_200 _ _ (f + 1) (nI m) M = _
    rw [fX11_isLot_200, hc, Option.bind_some, if_pos (nI_le (Nat.le_refl _) (by omega))]
    rfl
theorem e_isLot {M : Mem} {p m h : Nat} {g : Nat → Nat → Int32} (hp : p ≤ 20) (h74 : M.1 74 0 = nI p) (em : m = min 8 p) (hg : ∀ i j, i < m → j < m → M.2 (89 + i) j = gL g i j) (sg : smg g) (hh : h < 2 ^ m) (ho : bcN h % 2 = 1) : ∃ c X, fX11_isLot (nI h) M = some (c, X) ∧ (c = 0 ↔ ¬ lotS g m h) ∧ (lotS g m h → ∀ j, j < 8 → X.2 97 j = lN (av g h j / gA (av g h) 8)) ∧ sm [(97, 97, none)] M X := by
  have hm : m ≤ 8 := by omega
  have h256 : h < 256 := by have := pw8 hm; omega
  unfold fX11_isLot
  obtain ⟨X, k1, k2, k3⟩ := e_lot13 hm hg sg hh ho fX11_isLot_127
  rw [k1]
  unfold fX11_isLot_127
  have b8 := (m_tab3 h h256).1
  have nb1 : nAb g h 8 ≤ 8 := fb_ct_le _ 8
  have nb2 : nBe g h 8 ≤ 8 := fb_ct_le _ 8
  rw [bc_eq X (by omega), Option.bind_some]
  have i1 : (nI (nAb g h 8) = nI (bcN h)) ↔ upS g h := by rw [nI_eq (by omega) (by omega)]; exact nAb_up h256
  have i2 : (nI (nBe g h 8) = nI (bcN h)) ↔ dnS g h := by rw [nI_eq (by omega) (by omega)]; exact nBe_dn h256
  by_cases ud : upS g h ∨ dnS g h
  · have ab : ∀ j, j < 8 → av g h j ≤ 1300000000 := fun j hj => av_b sg h256 ho hj
    -- one share is there
    have one : ∃ i, i < 8 ∧ 0 < av g h i := by
      obtain ⟨i, hi, ht⟩ := fb_ct_pos.mp (show 0 < fb_ct (tb h) 8 by rw [← (m_tab3 h h256).2.2]; omega)
      refine ⟨i, hi, ?_⟩
      unfold av
      rcases ud with u | u
      · have := u i hi ht; omega
      · have := u i hi ht; omega
    obtain ⟨i0, i01, i02⟩ := one
    have gp : 0 < gA (av g h) 8 := gA_pos i01 i02
    have gb : gA (av g h) 8 ≤ 1300000000 := gA_b ab
    generalize hc : gA (av g h) 8 = c at *
    have cn : ¬ lN c = 0 := fun w => by
      have := (pk_lEQ (b := 0) (show c < 2 ^ 63 by omega) (by decide)).mp w
      omega
    have e8 : (8 : Int32) = nI 8 := rfl
    have red : ∃ Y, fX11_isLot_149 (lN c) (nI (nBe g h 8)) X = fX11_isLot_197 Y ∧ (∀ j, j < 8 → Y.2 97 j = lN (av g h j / c)) ∧ sm [(97, 97, none)] X Y := by
      unfold fX11_isLot_149
      have hh2 := for_ex (σ := Mem) (fun f i s => fX11_isLot_152 fX11_isLot_197 f (lN c) (nI (nBe g h 8)) i s) (fun s => fX11_isLot_197 s) 8
        (fun i Y => sm [(97, 97, none)] X Y ∧ ∀ j, j < 8 → Y.2 97 j = if j < i then lN (av g h j / c) else svL g h j) ?_ ?_ X ⟨sm_rf, fun j hj => by rw [if_neg (by omega)]; exact k2 j hj⟩ FU (FU_gt (by omega))
      · obtain ⟨Y, y1, y2, y3⟩ := hh2
        refine ⟨Y, y1, fun j hj => ?_, y2⟩
        rw [y3 j hj, if_pos hj]
      · rintro f i Y hi ⟨g1, g2⟩
        have i8 := inb_nI hi (by decide)
        have yi : Y.2 97 i = svL g h i := by rw [g2 i hi, if_neg (by omega)]
        have abi := ab i hi
        refine ⟨sL Y 97 i (lN (av g h i / c)), ?_, g1.Lg (by rfl), fun j hj => ?_⟩
        · show fX11_isLot_152 _ (f + 1) (lN c) (nI (nBe g h 8)) (nI i) Y = _
          rw [fX11_isLot_152, e8, if_neg (nI_ge hi (by omega))]
          unfold fX11_isLot_188
          simp only [i8, if_true, nx_eq, nI_s, cn, not_false_eq_true, ix_nI (show i < 2147483648 by omega), yi]
          rcases ud with u | u
          · rw [if_pos (show nI (nBe g h 8) ≤ 0 by rw [up_nBe u]; decide), sv_up sg h256 ho hi u, pk_lDiv (by omega) gp (by omega)]
          · have e := (nBe_dn (g := g) h256).mpr u
            rw [if_neg (show ¬ nI (nBe g h 8) ≤ 0 by rw [e]; exact nI_ge (a := 0) (by omega) (by omega)), sv_dn sg h256 ho hi u, pk_lDiv (by omega) gp (by omega)]
        · by_cases e : j = i
          · rw [e, sL_at, if_pos (by omega)]
          · rw [sL_ne _ _ (fun q => e q.2), g2 j hj]
            by_cases q : j < i
            · rw [if_pos q, if_pos (by omega)]
            · rw [if_neg q, if_neg (by omega)]
      · rintro f Y -
        show fX11_isLot_152 _ (f + 1) (lN c) (nI (nBe g h 8)) (nI 8) Y = _
        rw [fX11_isLot_152, e8, if_pos (nI_le (Nat.le_refl _) (by omega))]
    obtain ⟨Y, y1, y2, y3⟩ := red
    have s2 : sm [(97, 97, none)] M Y := k3.tr y3
    have hgY : ∀ i j, i < m → j < m → Y.2 (89 + i) j = gL g i j := by
      intro i j h1 h2
      rw [(s2.on [(89, 96, none)] (by decide) (by decide)).l (89 + i) j (in89 (by omega) j)]
      exact hg i j h1 h2
    have fin := e_lot200 (M := Y) (a := fun j => av g h j / c) hp ((s2.on [(74, 74, none)] (by decide) (by decide)).i 74 0 rfl |>.trans h74) em hgY sg (fun j hj => Nat.le_trans (Nat.div_le_self _ _) (ab j hj)) y2
    have sc : anyG g (av g h) m = anyG g (fun j => av g h j / c) m := anyG_scale gp (fun j hj => (Nat.div_mul_cancel (by rw [← hc]; exact gA_dvd (av g h) 8 (show j < 8 by omega))).symm)
    refine ⟨bI (!(anyG g (fun j => av g h j / c) m)), Y, ?_, ?_, fun _ => y2, s2⟩
    · refine Eq.trans ?_ (y1.trans fin)
      by_cases u2 : upS g h
      · rw [if_pos (i1.mpr u2)]
      · rw [if_neg (fun w => u2 (i1.mp w)), if_pos (i2.mpr (ud.resolve_left u2))]
    · rw [← sc]
      unfold lotS
      cases anyG g (av g h) m with
      | false => simp [ud, bI]
      | true => simp [bI]
  · have n1 : ¬ upS g h := fun w => ud (Or.inl w)
    have n2 : ¬ dnS g h := fun w => ud (Or.inr w)
    refine ⟨0, X, ?_, ?_, fun w => absurd w.1 ud, k3⟩
    · rw [if_neg (fun w => n1 (i1.mp w)), if_neg (fun w => n2 (i2.mp w))]
    · simp [lotS, ud]
