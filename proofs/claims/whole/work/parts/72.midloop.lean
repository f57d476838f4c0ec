/-! all places that nobody beats, found one by one -/
def mdZ (D : Dt) (P : Ln) : Prop := ∃ X Y N : Int64, smP X Y N ∧ P = plOf X Y N ∧ mdB D X Y N = true
def cS (D : Dt) (E : Ln → Prop) (P : Ln) : Prop := plOk P ∧ mdZ D P ∧ E P
def MdK (M : Mem) (s : Nat) (S : Ln → Prop) : Prop := M.1 30 5 = nI s ∧ (∀ i, i < s → smP (M.2 31 i) (M.2 32 i) (M.2 33 i)) ∧ SR plLt plOk (ro M) s S
def MdKR (M : Mem) (s : Nat) (S : Ln → Prop) : Prop := M.1 47 28 = nI s ∧ (∀ i, i < s → smP (M.2 82 i) (M.2 83 i) (M.2 84 i)) ∧ SR plLt plOk (roR M) s S
theorem MdK.S {M : Mem} {s : Nat} {S : Ln → Prop} (h : MdK M s S) : MdS M s := ⟨h.1, fun i hi => ⟨h.2.1 i hi, h.2.2.2.1 i hi⟩, h.2.2.1⟩
theorem MdKR.S {M : Mem} {s : Nat} {S : Ln → Prop} (h : MdKR M s S) : MdSR M s := ⟨h.1, fun i hi => ⟨h.2.1 i hi, h.2.2.2.1 i hi⟩, h.2.2.1⟩
theorem MdK.cg {M : Mem} {s : Nat} {S S1 : Ln → Prop} (h : MdK M s S) (hS : ∀ x, S1 x ↔ S x) : MdK M s S1 := ⟨h.1, h.2.1, h.2.2.cg (fun _ _ => rfl) hS⟩
theorem MdKR.cg {M : Mem} {s : Nat} {S S1 : Ln → Prop} (h : MdKR M s S) (hS : ∀ x, S1 x ↔ S x) : MdKR M s S1 := ⟨h.1, h.2.1, h.2.2.cg (fun _ _ => rfl) hS⟩
theorem mdZ_of {D : Dt} {X Y N : Int64} (h : mdZ D (plOf X Y N)) : mdB D X Y N = true := by
  obtain ⟨X1, Y1, N1, -, h2, h3⟩ := h
  obtain ⟨rfl, rfl, rfl⟩ := plOf_inj.mp h2
  exact h3
theorem cS_add {D : Dt} {E E1 : Ln → Prop} {X Y N : Int64} (h : bigP X Y N) (hE : ∀ P, plOk P → (E1 P ↔ E P ∨ (P.1 * N.toInt = X.toInt * P.2.2 ∧ P.2.1 * N.toInt = Y.toInt * P.2.2))) (P : Ln) : cS D E1 P ↔ cS D E P ∨ (P = plOf (np1 X Y N) (np2 X Y N) (np3 X Y N) ∧ mdB D (np1 X Y N) (np2 X Y N) (np3 X Y N) = true) := by
  constructor
  · rintro ⟨h1, h2, h3⟩
    rcases (hE P h1).mp h3 with q | q
    · exact Or.inl ⟨h1, h2, q⟩
    · have e := (np_iff h P).mpr ⟨h1, q⟩
      rw [e] at h2
      exact Or.inr ⟨e, mdZ_of h2⟩
  · rintro (⟨h1, h2, h3⟩ | ⟨e, h2⟩)
    · exact ⟨h1, h2, (hE P h1).mpr (Or.inl h3)⟩
    · obtain ⟨q1, q2⟩ := (np_iff h P).mp e
      exact ⟨q1, ⟨_, _, _, (np_ok h).1, e, h2⟩, (hE P q1).mpr (Or.inr q2)⟩
def rgMd : Rg := [(30, 30, some 5), (31, 33, none)]
def rgMdR : Rg := [(47, 47, some 28), (82, 84, none)]
def sm3P (t : Int64 × Int64 × Int64) : Prop := smP t.1 t.2.1 t.2.2
def un3P (t : Int64 × Int64 × Int64) : Ln := plOf t.1 t.2.1 t.2.2
theorem gcd_dN {X Y N : Int64} (h : bigP X Y N) (M : Mem) : (fX10_commonPart M X Y).bind (fun q => fX10_commonPart M q N) = some (lN (gN X Y N)) ∧ (fX11_gcd M X Y).bind (fun q => fX11_gcd M q N) = some (lN (gN X Y N)) := by
  obtain ⟨h1, h2, h3, h4⟩ := h
  have b : Nat.gcd X.toInt.natAbs Y.toInt.natAbs ≤ 4000000 := by
    by_cases c : X.toInt.natAbs = 0
    · rw [c, Nat.gcd_zero_left]; omega
    · have := Nat.le_of_dvd (by omega) (Nat.gcd_dvd_left X.toInt.natAbs Y.toInt.natAbs)
      omega
  have t : (lN (Nat.gcd X.toInt.natAbs Y.toInt.natAbs)).toInt = (Nat.gcd X.toInt.natAbs Y.toInt.natAbs : Int) := pk_lT (by omega)
  have ta : (lN (Nat.gcd X.toInt.natAbs Y.toInt.natAbs)).toInt.natAbs = Nat.gcd X.toInt.natAbs Y.toInt.natAbs := by rw [t]; rfl
  constructor
  · rw [k_common M (by omega) (by omega), Option.bind_some, k_common M (by omega) (by omega), ta]
    rfl
  · rw [e_gcd M (by omega) (by omega), Option.bind_some, e_gcd M (by omega) (by omega), ta]
    rfl
theorem k_ask {M : Mem} {n p s : Nat} {S : Ln → Prop} {X Y N : Int64} (hD : DI M n p) (h : MdK M s S) (hs : s < 15) (hb : bigP X Y N) : ∃ M1 s1, fX4_ask X Y N M = some M1 ∧ s1 ≤ s + 1 ∧ MdK M1 s1 (fun P => S P ∨ (P = plOf (np1 X Y N) (np2 X Y N) (np3 X Y N) ∧ mdB (cD M) (np1 X Y N) (np2 X Y N) (np3 X Y N) = true)) ∧ sm rgMd M M1 := by
  have hg := (gcd_dN hb M).1
  have hun : fX4_ask X Y N M = fX4_ask_24 X Y N (gS X Y N) M := by
    unfold fX4_ask gS
    rw [← Option.bind_assoc, hg, Option.bind_some, nx_eq]
    split <;> rfl
  obtain ⟨g0, g1, g2⟩ := gS_i hb
  have z64 : (0 : Int64).toInt = 0 := rfl
  have gn : ¬ gS X Y N = 0 := by
    rw [fa_eq64, g2, z64]
    split <;> omega
  obtain ⟨n1, n2, -⟩ := np_ok hb
  have hun2 : fX4_ask X Y N M = if mdB (cD M) (np1 X Y N) (np2 X Y N) (np3 X Y N) = true then fX4_insert (np1 X Y N) (np2 X Y N) (np3 X Y N) M else some M := by
    rw [hun]
    unfold fX4_ask_24 fX4_ask_74
    simp only [lg_eq, gn, if_false, not_false_eq_true, if_true, nx_eq]
    have e := k_isMiddle hD n1
    unfold np1 np2 np3 at e ⊢
    rw [e, Option.bind_some]
    cases mdB (cD M) (X / gS X Y N) (Y / gS X Y N) (N / gS X Y N) with
    | false => rfl
    | true =>
      rw [if_neg (by decide), if_pos rfl]
      cases fX4_insert (X / gS X Y N) (Y / gS X Y N) (N / gS X Y N) M <;> rfl
  rw [hun2]
  cases hm : mdB (cD M) (np1 X Y N) (np2 X Y N) (np3 X Y N) with
  | false =>
    refine ⟨M, s, rfl, by omega, h.cg (fun P => ⟨?_, Or.inl⟩), sm_rf⟩
    rintro (q | ⟨-, q⟩)
    · exact q
    · cases q
  | true =>
    rw [if_pos rfl]
    obtain ⟨M1, q1, q2⟩ := k_minsert h.S hs n1 n2
    rcases q2 with ⟨⟨i, i1, i2⟩, rfl⟩ | ⟨k, k1, k2, k3, k4, k5, k6⟩
    · refine ⟨M1, s, q1, by omega, h.cg (fun P => ⟨?_, Or.inl⟩), sm_rf⟩
      rintro (q | ⟨q, -⟩)
      · exact q
      · rw [q, ← i2]; exact (h.2.2.2.2 _).mp ⟨i, i1, rfl⟩
    · refine ⟨M1, s + 1, q1, by omega, ⟨k4, fun i hi => ?_, ?_⟩, k6⟩
      · have := in_all (P := sm3P) (f := rw3L M) (s := s) (k := k) (x := (np1 X Y N, np2 X Y N, np3 X Y N)) (fun i hi => h.2.1 i hi) n1 k1 i hi
        rw [← k5 i hi] at this
        exact this
      · have := SR.put (fun a b c => pl_tr) (fun a b => pl_tri) h.2.2 n2 k1 k2 k3
        refine this.cg (fun i hi => ?_) (fun P => ?_)
        · have e : ro M1 i = un3P (rw3L M1 i) := rfl
          rw [e, k5 i hi, in_map un3P]
          rfl
        · exact ⟨fun q => q.elim Or.inl (fun q => Or.inr q.1), fun q => q.elim Or.inl (fun q => Or.inr ⟨q, rfl⟩)⟩
theorem e_ask {M : Mem} {n p s : Nat} {S : Ln → Prop} {X Y N : Int64} (hD : DI M n p) (h : MdKR M s S) (hs : s < 256) (hb : bigP X Y N) : ∃ M1 s1, fX11_addsMiddle X Y N M = some M1 ∧ s1 ≤ s + 1 ∧ (mdB (cD M) (np1 X Y N) (np2 X Y N) (np3 X Y N) = false → M1 = M) ∧ MdKR M1 s1 (fun P => S P ∨ (P = plOf (np1 X Y N) (np2 X Y N) (np3 X Y N) ∧ mdB (cD M) (np1 X Y N) (np2 X Y N) (np3 X Y N) = true)) ∧ sm rgMdR M M1 := by
  have hg := (gcd_dN hb M).2
  have hun : fX11_addsMiddle X Y N M = fX11_addsMiddle_27 X Y N (gS X Y N) M := by
    unfold fX11_addsMiddle gS
    rw [← Option.bind_assoc, hg, Option.bind_some]
    split <;> rfl
  obtain ⟨g0, g1, g2⟩ := gS_i hb
  have z64 : (0 : Int64).toInt = 0 := rfl
  have gn : ¬ gS X Y N = 0 := by
    rw [fa_eq64, g2, z64]
    split <;> omega
  obtain ⟨n1, n2, -⟩ := np_ok hb
  have hun2 : fX11_addsMiddle X Y N M = fX11_addsMiddle_51 fX11_addsMiddle_99 fX11_addsMiddle_106 FU (np1 X Y N) (np2 X Y N) (np3 X Y N) 0 M := by
    rw [hun]
    unfold fX11_addsMiddle_27
    simp only [gn, not_false_eq_true, if_true, nx_eq]
    rfl
  rw [hun2]
  obtain ⟨M1, q1, q2⟩ := e_minsert hD h.S hs n1 n2
  rcases q2 with ⟨q2, rfl⟩ | ⟨q2, k, k1, k2, k3, k4, k5, k6⟩
  · refine ⟨M1, s, q1, by omega, fun _ => rfl, h.cg (fun P => ⟨?_, Or.inl⟩), sm_rf⟩
    rintro (q | ⟨q, w⟩)
    · exact q
    · rcases q2 with ⟨i, i1, i2⟩ | q2
      · rw [q, ← i2]; exact (h.2.2.2.2 _).mp ⟨i, i1, rfl⟩
      · rw [q2] at w; cases w
  · refine ⟨M1, s + 1, q1, by omega, fun w => ?_, ⟨k4, fun i hi => ?_, ?_⟩, k6⟩
    · rw [q2] at w; cases w
    · have := in_all (P := sm3P) (f := rw3LR M) (s := s) (k := k) (x := (np1 X Y N, np2 X Y N, np3 X Y N)) (fun i hi => h.2.1 i hi) n1 k1 i hi
      rw [← k5 i hi] at this
      exact this
    · have := SR.put (fun a b c => pl_tr) (fun a b => pl_tri) h.2.2 n2 k1 k2 k3
      refine this.cg (fun i hi => ?_) (fun P => ?_)
      · have e : roR M1 i = un3P (rw3LR M1 i) := rfl
        rw [e, k5 i hi, in_map un3P]
        rfl
      · exact ⟨fun q => q.elim Or.inl (fun q => Or.inr q.1), fun q => q.elim Or.inl (fun q => Or.inr ⟨q, q2⟩)⟩
/-! voters first -/
def EV (D : Dt) (m : Nat) (P : Ln) : Prop := ∃ v, v < m ∧ atV (xsD D) (ysD D) v P
theorem EV_0 (D : Dt) (P : Ln) : ¬ cS D (EV D 0) P := fun ⟨_, _, v, h, _⟩ => absurd h (by omega)
theorem EV_s {D : Dt} {v : Nat} (P : Ln) : EV D (v + 1) P ↔ EV D v P ∨ (P.1 * (1 : Int64).toInt = ((D.2.1 v).toInt64).toInt * P.2.2 ∧ P.2.1 * (1 : Int64).toInt = ((D.2.2.1 v).toInt64).toInt * P.2.2) := by
  have one : (1 : Int64).toInt = 1 := rfl
  rw [one, Int32.toInt_toInt64, Int32.toInt_toInt64, Int.mul_one, Int.mul_one, Int.mul_comm _ P.2.2, Int.mul_comm _ P.2.2]
  constructor
  · rintro ⟨u, h1, h2⟩
    by_cases c : u = v
    · rw [c] at h2; exact Or.inr h2
    · exact Or.inl ⟨u, by omega, h2⟩
  · rintro (⟨u, h1, h2⟩ | h)
    · exact ⟨u, by omega, h2⟩
    · exact ⟨v, by omega, h⟩
theorem big_v {x y : Int32} (hx : inN x 100 = true) (hy : inN y 100 = true) : bigP x.toInt64 y.toInt64 1 := by
  have i1 := inN_i.mp hx
  have i2 := inN_i.mp hy
  have one : (1 : Int64).toInt = 1 := rfl
  unfold bigP
  rw [one, Int32.toInt_toInt64, Int32.toInt_toInt64]
  omega
theorem k_mvoters {M : Mem} {n p : Nat} (h : DI M n p) (h0 : M.1 30 5 = 0) (K : Mem → Option Mem) : ∃ M1 s, fX4_refresh_40 K FU 0 M = K M1 ∧ s ≤ 15 ∧ MdK M1 s (cS (cD M) (EV (cD M) n)) ∧ sm rgMd M M1 := by
  have hn := h.n15
  have h10 : M.1 1 0 = nI n := h.2.1.1
  have hh := for_ex (σ := Mem) (fun f i s => fX4_refresh_40 K f i s) (fun s => K s) n
    (fun i S => sm rgMd M S ∧ ∃ s, s ≤ i ∧ MdK S s (cS (cD M) (EV (cD M) i))) ?_ ?_ M ⟨sm_rf, 0, Nat.le_refl _, h0, fun i hi => absurd hi (by omega), SR.nil _ (EV_0 _)⟩ FU (FU_gt (by omega))
  · obtain ⟨M1, q1, q2, s, q3, q4⟩ := hh
    exact ⟨M1, s, q1, by omega, q4, q2⟩
  · rintro f v S hv ⟨g1, s, g2, g3⟩
    have hv15 := inb_nI (show v < 15 by omega) (by decide)
    have o := g1.on [(1, 7, none)] (by decide) (by decide)
    have hDS : DI S n p := DI_on (g1.on _ (by decide) (by decide)) h
    have e : cD S = cD M := cD_on o
    obtain ⟨o1, o2, -⟩ := hDS.2.2.1 v hv
    obtain ⟨S1, s1, a1, a2, a3, a4⟩ := k_ask hDS g3 (by omega) (big_v o1 o2)
    rw [e] at a3
    refine ⟨S1, ?_, g1.tr a4, s1, by omega, a3.cg (fun P => ?_)⟩
    · show fX4_refresh_40 K (f + 1) (nI v) S = _
      rw [fX4_refresh_40, o.i 1 0 rfl, h10, if_neg (nI_ge hv (by omega))]
      simp only [hv15, if_true, ix_nI (show v < 2147483648 by omega)]
      rw [a1, Option.bind_some, nx_eq, nI_s]
    · refine cS_add (big_v o1 o2) (fun P hP => ?_) P
      have e2 : S.1 2 v = (cD M).2.1 v := by rw [← e]; rfl
      have e3 : S.1 3 v = (cD M).2.2.1 v := by rw [← e]; rfl
      rw [e2, e3]
      exact EV_s P
  · rintro f S ⟨g1, -⟩
    have o := g1.on [(1, 7, none)] (by decide) (by decide)
    show fX4_refresh_40 K (f + 1) (nI n) S = _
    rw [fX4_refresh_40, o.i 1 0 rfl, h10, if_pos (nI_le (Nat.le_refl _) (by omega))]
theorem e_mvoters {M : Mem} {n p : Nat} (h : DI M n p) (h0 : M.1 47 28 = 0) (K : Mem → Option Mem) : ∃ M1 s, fX11_findsMiddles_7 K FU 0 M = K M1 ∧ s ≤ 15 ∧ MdKR M1 s (cS (cD M) (EV (cD M) n)) ∧ sm rgMdR M M1 := by
  have hn := h.n15
  have h10 : M.1 73 0 = nI n := h.2.1.2.2.1
  have hh := for_ex (σ := Mem) (fun f i s => fX11_findsMiddles_7 K f i s) (fun s => K s) n
    (fun i S => sm rgMdR M S ∧ ∃ s, s ≤ i ∧ MdKR S s (cS (cD M) (EV (cD M) i))) ?_ ?_ M ⟨sm_rf, 0, Nat.le_refl _, h0, fun i hi => absurd hi (by omega), SR.nil _ (EV_0 _)⟩ FU (FU_gt (by omega))
  · obtain ⟨M1, q1, q2, s, q3, q4⟩ := hh
    exact ⟨M1, s, q1, by omega, q4, q2⟩
  · rintro f v S hv ⟨g1, s, g2, g3⟩
    have hv15 := inb_nI (show v < 15 by omega) (by decide)
    have o := g1.on [(1, 7, none), (73, 73, none)] (by decide) (by decide)
    have hDS : DI S n p := DI_on (g1.on _ (by decide) (by decide)) h
    have e : cD S = cD M := cD_on (o.sub (by decide))
    obtain ⟨o1, o2, -⟩ := hDS.2.2.1 v hv
    obtain ⟨d1, d2, -⟩ := hDS.2.2.2.2.1.2 v (by rw [hDS.cn]; exact hv)
    have d1 : S.1 2 v = S.1 50 v := d1
    have d2 : S.1 3 v = S.1 53 v := d2
    obtain ⟨S1, s1, a1, a2, -, a3, a4⟩ := e_ask hDS g3 (by omega) (big_v o1 o2)
    rw [e] at a3
    refine ⟨S1, ?_, g1.tr a4, s1, by omega, a3.cg (fun P => ?_)⟩
    · show fX11_findsMiddles_7 K (f + 1) (nI v) S = _
      rw [fX11_findsMiddles_7, e_voters, Option.bind_some, o.i 73 0 rfl, h10, if_neg (nI_ge hv (by omega))]
      simp only [hv15, if_true, ix_nI (show v < 2147483648 by omega)]
      rw [← d1, ← d2, a1, Option.bind_some, nx_eq, nI_s]
    · refine cS_add (big_v o1 o2) (fun P hP => ?_) P
      have e2 : S.1 2 v = (cD M).2.1 v := by rw [← e]; rfl
      have e3 : S.1 3 v = (cD M).2.2.1 v := by rw [← e]; rfl
      rw [e2, e3]
      exact EV_s P
  · rintro f S ⟨g1, -⟩
    have o := g1.on [(73, 73, none)] (by decide) (by decide)
    show fX11_findsMiddles_7 K (f + 1) (nI n) S = _
    rw [fX11_findsMiddles_7, e_voters, Option.bind_some, o.i 73 0 rfl, h10, if_pos (nI_le (Nat.le_refl _) (by omega))]
