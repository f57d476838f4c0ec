/-! fields, calls, contracts over the memory -/
/-- a class of ours: its table, all of its words are there -/
def KC (ci : Nat) (C : String) (T : u_T) (N : Nat) (ty0 : Nat → FieldType) : Prop := vwCl[ci]? = some (C, T, N) ∧ nf ci = N ∧ (∀ w ∈ u_ws C T N, w ∈ WS) ∧ (∀ k, k < N → parseFieldDescriptor (T k).2.2.1 = some (ty0 k)) ∧ ∀ a, a < N → ∀ b, b < N → a ≠ b → (T a).2.1 ≠ (T b).2.1
def rm (d mc ms : Nat) : Room := { frames := d, cells := mc, slots := ms, locals := 64 * d }
/-- a method's end: what it answers, the memory behind it -/
def qq (E : Ge) (rv : Option Value) (sh : Nat → Sh) (n : Nat) (M : Mem) : Array Value → State → Outcome → State → Prop := fun _ st o t => (o = .returned rv ∧ va_P E.1 vwCl (wd E sh n M) t.heap ∧ t.heap.size = eB E + n) ∧ va_F (fr E) st t
/-- a contract: from the memory M to the memory M1, with the answer rv -/
def CT (l : Launch) (E : Ge) (y : MethodName) (cc : ByteArray) (mL : Nat) (rt : Option FieldType) (d mc ms : Nat) (av : List Value) (rv : Option Value) (sh : Nat → Sh) (n : Nat) (M : Mem) (sh1 : Nat → Sh) (n1 : Nat) (M1 : Mem) : Prop :=
  Met l y (.code y cc mL rt :: WS) (rm d mc ms) (va_Pc av (WD E sh n M)) (qq E rv sh1 n1 M1) mc ms (fr E)
/-- what stays the same within a method -/
def CX (E : Ge) (p : Program) (s : State) (m : MethodId) (args : Array Value) (c : Code) (meth : Method) (cc : ByteArray) (nL : Nat) (rt : Option FieldType) (own : String) : Prop :=
  p.tables.exec = Jvm.exec ∧ c.code = cc ∧ meth.sig.returnType = rt ∧ c.maxLocals = nL ∧ s.vm.findClass own = some m.cls ∧ (∀ w ∈ WS, w.before args s = true) ∧ va_K E.1 vwCl (tk E) s ∧ NV E s ∧ OW E s s.heap ∧ meth.locks = false ∧ eB E ≤ s.heap.size
theorem met_of {l : Launch} {E : Ge} {y : MethodName} {cc : ByteArray} {mL : Nat} {rt : Option FieldType} {d mc ms : Nat} {av : List Value} {rv : Option Value} {sh : Nat → Sh} {n : Nat} {M : Mem} {sh1 : Nat → Sh} {n1 : Nat} {M1 : Mem} (hy : plainName y.cls = true) (hlen : (lg_sl av).length ≤ mL)
    (k : ∀ (p : Program) (e : Env) (s : State) (m : MethodId) (args : Array Value) (below : List Frame) (meth : Method) (c : Code), CX E p s m args c meth cc mL rt y.cls → (y.name = "<init>" → meth.name = "<init>") → Rl E sh n s.heap M s.heap [] → ∀ ls : Array Slot, lv_has ls mL (lv_args 0 av) → W p l e (rm d mc ms) s m args below meth c s.heap [] 0 0 (MQ below (qq E rv sh1 n1 M1) args s mc ms (fr E)) (F0 m 0 ls [])) :
    CT l E y cc mL rt d mc ms av rv sh n M sh1 n1 M1 := by
  refine Met.ofW (cc := cc) (maxL := mL) (ret := rt) hy rfl ?_
  intro p e s m args below meth c s₁ B hml hv
  obtain ⟨rfl, hP, hK, hN, hO, hz⟩ := hv
  have hts := atoms_spec (ws := .code y cc mL rt :: WS) B.pre
  rw [lg_entry_eq]
  exact k p e s m av.toArray below meth c ⟨B.exec, B.bytes, B.returns, hml, findClass_of_methodNamed B.named, fun w hw => hts w (List.mem_cons_of_mem _ hw), hK, hN, hO, B.notSynchronized, by omega⟩ (fun h => (name_of_methodNamed B.named B.method).1.trans h) ⟨hP, va_S.rf, hz⟩ _ (lv_entry av hlen)
section RW
variable {p : Program} {l : Launch} {e : Env} {R : Room} {s : State} {m : MethodId} {args : Array Value} {below : List Frame} {meth : Method} {c : Code} {H : Heap} {locs : List Loc} {cells slots : Nat} {Q : State → Prop}
variable {cc : ByteArray} {pc : Nat} {ls : Array Slot} {rest : List Value} {E : Ge} {sh : Nat → Sh} {n : Nat} {H0 : Heap} {M : Mem} {k ci j index N : Nat} {rs : List (Option Nat)} {own C : String} {T : u_T} {ty0 : Nat → FieldType}
theorem fs_at {E : Ge} {M : Mem} {k ci j : Nat} {rs : List (Option Nat)} (h : j < nf ci) : ((List.range (nf ci)).map (fv E M k ci rs))[j]? = some (fv E M k ci rs j) := by simp [h]
/-- any field is read -/
theorem x_get (hx : p.tables.exec = Jvm.exec) (hb : c.code = cc) (hown : s.vm.findClass own = some m.cls) (hts : ∀ w ∈ WS, w.before args s = true) (hK : va_K E.1 vwCl (tk E) s) (hR : Rl E sh n H0 M H locs) (hC : KC ci C T N ty0) (hk : At sh n k (0, ci, rs)) (hj : j < N) (hl : Cond.fieldLink own index (T j).1 (T j).2.1 (T j).2.2.1 ∈ WS) {v : Value} (hv : fv E M k ci rs j = v) (hdg : decode cc pc = .ok (.getfield index, 3))
    (kk : W p l e R s m args below meth c H locs cells slots Q (F0 m (pc + 3) ls (v :: rest))) : W p l e R s m args below meth c H locs cells slots Q (F0 m pc ls (.ref (eB E + k) :: rest)) := by
  obtain ⟨h1, h2, h3, -, -⟩ := hC
  subst h2
  subst hv
  exact va_get hx hb hts h3 hown hK hR.1 k (wd_at hk) h1 j hj (hts _ hl) (fun _ h9 => h9) (fs_at hj) hdg kk
/-- how a field's list of values changes -/
theorem fs_set {E : Ge} {M M' : Mem} {k ci j N : Nat} {rs rs' : List (Option Nat)} {v : Value} (hj : fv E M' k ci rs' j = v) (ho : ∀ a, a ≠ j → fv E M' k ci rs' a = fv E M k ci rs a) : ((List.range N).map (fv E M k ci rs)).set j v = (List.range N).map (fv E M' k ci rs') := by
  apply List.ext_getElem?
  intro a
  rw [List.getElem?_set]
  by_cases h : j = a
  · subst h
    by_cases hn : j < N
    · simp [hn, hj]
    · simp [hn]
  · rw [if_neg h]
    by_cases hn : a < N
    · simp [hn, ho a (fun q => h q.symm)]
    · simp [hn]
theorem x_putG (hx : p.tables.exec = Jvm.exec) (hb : c.code = cc) (hown : s.vm.findClass own = some m.cls) (hts : ∀ w ∈ WS, w.before args s = true) (hK : va_K E.1 vwCl (tk E) s) (hR : Rl E sh n H0 M H locs) (hC : KC ci C T N ty0) (hk : At sh n k (0, ci, rs)) (hj : j < N) (hl : Cond.fieldLink own index (T j).1 (T j).2.1 (T j).2.2.1 ∈ WS)
    (hfin : (T j).2.2.2 = false ∨ ((T j).2.2.2 = true ∧ meth.name = "<init>" ∧ (T j).1 = own)) {v : Value} (hn : narrow (ty0 j) v = v) (hfit : fits (ty0 j) v = true) {sh1 : Nat → Sh} {M1 : Mem} {rs1 : List (Option Nat)} (hs1 : sh1 k = (0, ci, rs1)) (hso : ∀ a, a ≠ k → sh1 a = sh a) (hM : ∀ a, a ≠ k → M1.1 a = M.1 a ∧ M1.2 a = M.2 a) (hvj : fv E M1 k ci rs1 j = v) (hvo : ∀ a, a ≠ j → fv E M1 k ci rs1 a = fv E M k ci rs a) (hdg : decode cc pc = .ok (.putfield index, 3))
    (kk : ∀ (H1 : Heap) (locs1 : List Loc), Rl E sh1 n H0 M1 H1 locs1 → W p l e R s m args below meth c H1 locs1 cells slots Q (F0 m (pc + 3) ls rest)) : W p l e R s m args below meth c H locs cells slots Q (F0 m pc ls (v :: .ref (eB E + k) :: rest)) := by
  obtain ⟨h1, h2, h3, h4, h5⟩ := hC
  subst h2
  have hap := va_apart (own := own) hts h3 ty0 h4 h5 hK h1
  obtain ⟨hP, hS0, hz⟩ := hR
  obtain ⟨r, g1, cell, q1, q2, q3, q4⟩ := hP k _ (wd_at hk)
  have hr : r = (C, T, nf ci) := Option.some.inj (g1.symm.trans h1)
  subst hr
  obtain ⟨hSl, hfc, kC, hkC, hkind⟩ := hK.1 ci _ h1
  obtain ⟨cf, kf, fi, f, hi, hsl⟩ := hSl j hj
  have hlay := hts _ (h3 _ (u_in_lay hj))
  unfold u_lay at hlay
  have hst := (u_facts hfc hkC (u_lays hts h3 hj) hi).1
  have fin : ∀ (H1 : Heap) (sl : Nat), H1[eB E + k]? = some (cell.setSlot f.slot v) → H1.size = H.size → (∀ q, q ≠ eB E + k → H1[q]? = H[q]?) → Rl E sh1 n H0 M1 H1 (locs ++ [⟨eB E + k, sl⟩]) := by
    intro H1 sl e1 e2 e3
    rw [hsl] at e1
    refine ⟨fun i x hx => ?_, hS0.put e2 e3 (Nat.le_add_right _ _), by rw [e2]; exact hz⟩
    obtain ⟨hi, rfl⟩ := wd_of hx
    by_cases ek : i = k
    · subst ek
      rw [hs1]
      refine ⟨_, h1, t_OB.to (V := updV (vp_V ((List.range (nf ci)).map (fv E M i ci rs))) j v) ⟨_, e1, q2, q3, t_set q4 hap hj v⟩ (fun a ha => ?_)⟩
      rw [vp_updV_set (by simpa using hj) v a]
      show vp_V (((List.range (nf ci)).map (fv E M i ci rs)).set j v) a = vp_V ((List.range (nf ci)).map (fv E M1 i ci rs1)) a
      rw [fs_set hvj hvo]
    · have hold := hP i _ (wd_at (E := E) (M := M) ⟨rfl, hi⟩)
      rw [hso i ek, ce_same (hM i ek).1 (hM i ek).2]
      exact hold.kept (e3 _ (by simp; omega))
  rcases hfin with hf | ⟨hf, hinit, hdecl⟩
  · rw [if_neg (by rw [hf]; decide)] at hlay
    have h6 := u_store hfc hkC hkind hlay hi (h4 j hj) hn hfit
    exact W.putK hx hb (f := f) ⟨hown, hts _ hl, ⟨_, _, _, hi⟩, hst⟩ (by rw [q2]; exact h6) q1 q3 (by rw [hsl]; exact k2_hasslot (q4 j hj)) rfl rfl hdg fun H' e1 e2 e3 => kk H' _ (fin H' _ e1 e2 e3)
  · rw [if_pos hf] at hlay
    have hcf : m.cls = cf := by
      obtain ⟨_, _, c', _, _, _, -, -, hf', -, -, -, hown2, -⟩ := Cond.laysFinal_spec hlay
      have e1 : c' = cf := by have := hi.symm.trans hf'; simp at this; exact this.1.symm
      rw [hdecl] at hown2
      rw [← e1]; exact Option.some.inj (hown.symm.trans hown2)
    have h6 := u_fits hfc hkC hkind (Or.inr hlay) hi (h4 j hj) hn hfit
    exact W.putFinK hx hb hown (hts _ hl) hi hst hcf hinit (by rw [q2]; exact h6) q1 q3 (by rw [hsl]; exact k2_hasslot (q4 j hj)) rfl rfl hdg fun H' e1 e2 e3 => kk H' _ (fin H' _ e1 e2 e3)
theorem fvI_o {v : Int32} (a : Nat) (h : a ≠ j) : fv E (sI M k j v) k ci rs a = fv E M k ci rs a := by
  unfold fv
  have : (sI M k j v).1 k a = M.1 k a := by simp [sI, h]
  rw [this]
  rfl
theorem fvL_o {v : Int64} (a : Nat) (h : a ≠ j) : fv E (sL M k j v) k ci rs a = fv E M k ci rs a := by
  unfold fv
  have : (sL M k j v).2 k a = M.2 k a := by simp [sL, h]
  rw [this]
  rfl
theorem x_puti {x : Int32} (hx : p.tables.exec = Jvm.exec) (hb : c.code = cc) (hown : s.vm.findClass own = some m.cls) (hts : ∀ w ∈ WS, w.before args s = true) (hK : va_K E.1 vwCl (tk E) s) (hR : Rl E sh n H0 M H locs) (hC : KC ci C T N ty0) (hk : At sh n k (0, ci, rs)) (hj : j < N) (hl : Cond.fieldLink own index (T j).1 (T j).2.1 (T j).2.2.1 ∈ WS) (hfin : (T j).2.2.2 = false) (hty : fk ci j = 0) (hn : narrow (ty0 j) (.int x) = .int x) (hfit : fits (ty0 j) (.int x) = true) (hdg : decode cc pc = .ok (.putfield index, 3))
    (kk : ∀ (H1 : Heap) (locs1 : List Loc), Rl E sh n H0 (sI M k j x) H1 locs1 → W p l e R s m args below meth c H1 locs1 cells slots Q (F0 m (pc + 3) ls rest)) : W p l e R s m args below meth c H locs cells slots Q (F0 m pc ls (.int x :: .ref (eB E + k) :: rest)) := by
  refine x_putG hx hb hown hts hK hR hC hk hj hl (Or.inl hfin) hn hfit (M1 := sI M k j x) hk.1 (fun _ _ => rfl) sI_same ?_ fvI_o hdg kk
  unfold fv
  rw [hty]
  simp [sI]
theorem x_putl {x : Int64} (hx : p.tables.exec = Jvm.exec) (hb : c.code = cc) (hown : s.vm.findClass own = some m.cls) (hts : ∀ w ∈ WS, w.before args s = true) (hK : va_K E.1 vwCl (tk E) s) (hR : Rl E sh n H0 M H locs) (hC : KC ci C T N ty0) (hk : At sh n k (0, ci, rs)) (hj : j < N) (hl : Cond.fieldLink own index (T j).1 (T j).2.1 (T j).2.2.1 ∈ WS) (hfin : (T j).2.2.2 = false) (hty : fk ci j = 1) (hn : narrow (ty0 j) (.long x) = .long x) (hfit : fits (ty0 j) (.long x) = true) (hdg : decode cc pc = .ok (.putfield index, 3))
    (kk : ∀ (H1 : Heap) (locs1 : List Loc), Rl E sh n H0 (sL M k j x) H1 locs1 → W p l e R s m args below meth c H1 locs1 cells slots Q (F0 m (pc + 3) ls rest)) : W p l e R s m args below meth c H locs cells slots Q (F0 m pc ls (.long x :: .ref (eB E + k) :: rest)) := by
  refine x_putG hx hb hown hts hK hR hC hk hj hl (Or.inl hfin) hn hfit (M1 := sL M k j x) hk.1 (fun _ _ => rfl) sL_same ?_ fvL_o hdg kk
  unfold fv
  rw [hty]
  simp [sL]
theorem x_tsw {dflt lo hi : Int} {offs : Array Int} {len : Nat} {x v : Int32} {off : Int} {tgt : Nat} (hx : p.tables.exec = Jvm.exec) (hb : c.code = cc) (hdg : decode cc pc = .ok (.tableswitch dflt lo hi offs, len)) (hv : x = v) (h1 : ¬ v.toInt < lo) (h2 : ¬ hi < v.toInt) (ho : offs[(v.toInt - lo).toNat]? = some off) (ht : (pc : Int) + off = (tgt : Int))
    (kk : W p l e R s m args below meth c H locs cells slots Q (F0 m tgt ls rest)) : W p l e R s m args below meth c H locs cells slots Q (F0 m pc ls (.int x :: rest)) := by
  subst hv
  exact lv_tableIn hx hb hdg h1 h2 ho ht kk
/-- the ends of a method -/
theorem x_iret {v : Int32} (hx : p.tables.exec = Jvm.exec) (hb : c.code = cc) (hr : meth.sig.returnType = some .int) (hlk : meth.locks = false) (hR : Rl E sh n s.heap M H locs) (hdg : decode cc pc = .ok (.ireturn, 1)) :
    W p l e R s m args below meth c H locs cells slots (MQ below (qq E (some (.int v)) sh n M) args s cells slots (fr E)) (F0 m pc ls [.int v]) :=
  W.iret hx hb hr (fun t ht hW => ⟨⟨rfl, by rw [ht]; exact hR.1, by rw [ht]; exact hR.2.2⟩, hR.2.1.F ht⟩) hR.2.1.2.2 hdg hlk
theorem x_zret {v v1 : Int32} (hx : p.tables.exec = Jvm.exec) (hb : c.code = cc) (hr : meth.sig.returnType = some .boolean) (hlk : meth.locks = false) (hR : Rl E sh n s.heap M H locs) (hv : v &&& 1 = v1) (hdg : decode cc pc = .ok (.ireturn, 1)) :
    W p l e R s m args below meth c H locs cells slots (MQ below (qq E (some (.int v1)) sh n M) args s cells slots (fr E)) (F0 m pc ls [.int v]) := by
  intro T hT X
  obtain ⟨fs, hret, hrun, hended, hW, hframe⟩ := X.leave (v := some (.int v1)) (fun h => by rw [hr] at h; cases h) (hlocks := hlk)
  have hmeth' : T.vm.method? m = some meth := X.method'
  have hn : narrow .boolean (.int v) = .int v1 := by rw [← hv]; rfl
  refine ⟨T.setFrames fs, ?_, .returned (some (.int v1)), hrun, hended, ⟨⟨rfl, ?_, ?_⟩, ?_⟩, locs, ⟨⟨_, rfl⟩, hW, hframe⟩, hR.2.1.2.2⟩
  · jvm_step X.here [X.here.top, hx, hb, hdg, hmeth', hr, hn]
    (try refine ⟨rfl, ?_⟩); (try refine ⟨rfl, ?_⟩)
    first | (intro acts; rw [hret _ acts rfl rfl rfl]) | rw [hret _ _ rfl rfl rfl]
    exact Steps.refl _
  · show va_P E.1 vwCl (wd E sh n M) T.heap
    rw [hT]; exact hR.1
  · show T.heap.size = _
    rw [hT]; exact hR.2.2
  · exact hR.2.1.F hT
theorem x_lret {v : Int64} (hx : p.tables.exec = Jvm.exec) (hb : c.code = cc) (hr : meth.sig.returnType = some .long) (hlk : meth.locks = false) (hR : Rl E sh n s.heap M H locs) (hdg : decode cc pc = .ok (.lreturn, 1)) :
    W p l e R s m args below meth c H locs cells slots (MQ below (qq E (some (.long v)) sh n M) args s cells slots (fr E)) (F0 m pc ls [.long v]) :=
  W.lret hx hb hr (fun t ht hW => ⟨⟨rfl, by rw [ht]; exact hR.1, by rw [ht]; exact hR.2.2⟩, hR.2.1.F ht⟩) hR.2.1.2.2 hdg hlk
theorem x_vret (hx : p.tables.exec = Jvm.exec) (hb : c.code = cc) (hr : meth.sig.returnType = none) (hlk : meth.locks = false) (hR : Rl E sh n s.heap M H locs) (hdg : decode cc pc = .ok (.return_, 1)) :
    W p l e R s m args below meth c H locs cells slots (MQ below (qq E none sh n M) args s cells slots (fr E)) (F0 m pc ls []) :=
  W.vret hx hb hr (fun t ht hW => ⟨⟨rfl, by rw [ht]; exact hR.1, by rw [ht]; exact hR.2.2⟩, hR.2.1.F ht⟩) hR.2.1.2.2 hdg hlk
theorem x_aret {a : Nat} {o : String} (hx : p.tables.exec = Jvm.exec) (hb : c.code = cc) (hr : meth.sig.returnType = some (.object o)) (hlk : meth.locks = false) (hR : Rl E sh n s.heap M H locs) (hdg : decode cc pc = .ok (.areturn, 1)) :
    W p l e R s m args below meth c H locs cells slots (MQ below (qq E (some (.ref a)) sh n M) args s cells slots (fr E)) (F0 m pc ls [.ref a]) :=
  W.aret hx hb hr (Or.inl ⟨o, rfl⟩) (Or.inr ⟨a, rfl⟩) (fun t ht hW => ⟨⟨rfl, by rw [ht]; exact hR.1, by rw [ht]; exact hR.2.2⟩, hR.2.1.F ht⟩) hR.2.1.2.2 hdg hlk
end RW
section RC
variable {p : Program} {l : Launch} {e : Env} {R : Room} {s : State} {m : MethodId} {args : Array Value} {below : List Frame} {meth : Method} {c : Code} {H : Heap} {locs : List Loc} {cells slots : Nat} {Q : State → Prop}
variable {cc : ByteArray} {pc nL : Nat} {ls : Array Slot} {rt : Option FieldType} {E : Ge} {sh : Nat → Sh} {n : Nat} {M : Mem} {own : String}
variable {y : MethodName} {cy : ByteArray} {mL d mc ms na idx : Nat} {ry : Option FieldType} {As rest st0 st1 : List Value} {rv : Option Value} {sh1 : Nat → Sh} {n1 : Nat} {M1 : Mem}
theorem wd_blind (E : Ge) (sh : Nat → Sh) (n : Nat) (M : Mem) (av : List Value) : FrameBlind (va_Pc av (WD E sh n M)) := by
  intro a U g mk q
  obtain ⟨q0, q1, q2, q3, q4, q5⟩ := q
  exact ⟨q0, q1, va_K.moved (u := U) (U := U.calling g mk a) (Vm.Alike.refl U.vm) q2, NV.same (u := U) (U := U.calling g mk a) rfl q3, OW.moved (u := U) (U := U.calling g mk a) (Vm.Alike.refl U.vm) q4, q5⟩
theorem wd_now (hK : va_K E.1 vwCl (tk E) s) (hN : NV E s) (hO : OW E s s.heap) (hR : Rl E sh n s.heap M H locs) (U : State) (hU : U.heap = H) (hW : s.WarmedH U.vm) : WD E sh n M U := by
  refine ⟨by rw [hU]; exact hR.1, va_K.moved hW.alike hK, hN.warm hW, ?_, by rw [hU]; exact hR.2.2⟩
  rw [hU]
  exact OW.moved hW.alike (hO.kept hR.2.1.2.1)
/-- behind a call -/
theorem x_go (hr : va_Run p l e R s m args below meth c H locs cells slots mc ms (F0 m pc ls st0) rest (qq E rv sh1 n1 M1 As.toArray) (fr E)) (hR : Rl E sh n s.heap M H locs) (hbs : eB E ≤ s.heap.size) (h1 : rv.toList ++ rest = st1)
    (kk : ∀ (H1 : Heap) (locs1 : List Loc), Rl E sh1 n1 s.heap M1 H1 locs1 → W p l e R s m args below meth c H1 locs1 (cells + mc) (slots + ms) Q (F0 m (pc + 3) ls st1)) : W p l e R s m args below meth c H locs cells slots Q (F0 m pc ls st0) := by
  intro T hT X
  obtain ⟨v, st₀, t, T', L, h0, X', hL, e1, e2, ⟨⟨hv, hP, hz⟩, hz2, hk⟩, st⟩ := hr T hT X
  cases hv
  rw [h0] at hz2 hk
  obtain ⟨hP0, hS, hz0⟩ := hR
  obtain ⟨t2, a1, b1⟩ := kk T'.heap (locs ++ L) ⟨by rw [e1]; exact hP, ⟨Nat.le_trans hS.1 (by rw [e1]; exact hz2), fun q g1 g2 => by rw [e1, hk q (Nat.lt_of_lt_of_le g1 hS.1) g2]; exact hS.2.1 q g1 g2, fun q hq => by
      rcases List.mem_append.mp hq with h | h
      · exact hS.2.2 q h
      · exact hL q h⟩, by rw [e1]; exact hz⟩ T' rfl X'
  rw [← h1] at a1
  exact ⟨t2, st t2 a1, b1⟩
def yok (y : MethodName) (na : Nat) : Prop := y.cls ≠ "java/lang/invoke/MethodHandle" ∧ y.cls ≠ "java/lang/invoke/VarHandle" ∧ (parseMethodDescriptor y.desc).map (fun d => d.parameters.length) = some na
theorem good_code (h : Cond.code y cy mL ry ∈ WS) : GoodIn WS (.code y cy mL ry :: WS) := by
  intro w hw
  rcases List.mem_cons.mp hw with e1 | e1
  · rw [e1]; exact ws_good _ h
  · exact ws_good _ e1
theorem rm_ok {d D mc ms mc1 ms1 mL : Nat} (hd : d + 1 ≤ D) (hm : mL ≤ 45) : (rm d mc ms).frames + 1 ≤ (rm D mc1 ms1).frames ∧ 8 + (mL + 11) + (rm d mc ms).locals ≤ (rm D mc1 ms1).locals := by
  refine ⟨hd, ?_⟩
  show 8 + (mL + 11) + 64 * d ≤ 64 * D
  omega
/-- a call of a method of an object of ours -/
theorem x_callV {k ci N : Nat} {rs : List (Option Nat)} {T : u_T} {ty0 : Nat → FieldType} {C : String} (X : CX E p s m args c meth cc nL rt own) (hR : Rl E sh n s.heap M H locs) (hM : CT l E y cy mL ry d mc ms (.ref (eB E + k) :: As) rv sh n M sh1 n1 M1)
    (w1 : Cond.methodLink own idx y ∈ WS) (w2 : Cond.instanceMethod y ∈ WS) (w3 : Cond.selects C y y ∈ WS) (w4 : Cond.initialized C ∈ WS) (w5 : Cond.code y cy mL ry ∈ WS) (hy : yok y na) (hyc : y.cls = C) (hC : KC ci C T N ty0) (hk : At sh n k (0, ci, rs))
    (hroom : (rm d mc ms).frames + 1 ≤ R.frames ∧ 8 + (mL + 11) + (rm d mc ms).locals ≤ R.locals) (hn : As.length = na) (hsz : ls.size = nL) (h0 : st0 = As.reverse ++ .ref (eB E + k) :: rest) (h1 : rv.toList ++ rest = st1) (hst : (rest.map fun v => v.category).sum ≤ 8) (hdg : decode cc pc = .ok (.invokevirtual idx, 3)) (hf : cells + mc ≤ R.cells ∧ slots + ms ≤ R.slots)
    (kk : ∀ (H1 : Heap) (locs1 : List Loc), Rl E sh1 n1 s.heap M1 H1 locs1 → W p l e R s m args below meth c H1 locs1 (cells + mc) (slots + ms) Q (F0 m (pc + 3) ls st1)) : W p l e R s m args below meth c H locs cells slots Q (F0 m pc ls st0) := by
  obtain ⟨hx, hb, hr, hml, hown, hts, hK, hN, hO, hlk, hbs⟩ := X
  subst h0
  have hG : GoodIn WS (wsV own idx C y (.code y cy mL ry :: WS)) := by
    intro w hw
    rcases List.mem_append.mp hw with h | h
    · simp only [List.mem_cons, List.not_mem_nil, or_false] at h
      rcases h with rfl | rfl | rfl | rfl
      · exact ws_good _ w1
      · exact ws_good _ w2
      · exact ws_good _ w3
      · exact ws_good _ w4
    · exact good_code w5 w h
  refine x_go (As := .ref (eB E + k) :: As) (va_runV (As := As) (rest := rest) ⟨hx, hb, hml, hown, hts⟩ hM (cwV na hts hG rfl rfl rfl ⟨hyc, hy⟩ hroom) ⟨wd_blind E sh n M _, va_recv hK hR.1 hC.1 (wd_at hk), fun U hU hW => ⟨rfl, wd_now hK hN hO hR U hU hW⟩⟩ rfl hn hsz rfl (lv_room hst) hdg hf) hR hbs h1 kk
/-- a call of a static method -/
theorem x_callS (X : CX E p s m args c meth cc nL rt own) (hR : Rl E sh n s.heap M H locs) (hM : CT l E y cy mL ry d mc ms As rv sh n M sh1 n1 M1)
    (w1 : Cond.methodLink own idx y ∈ WS) (w2 : Cond.static y ∈ WS) (w4 : Cond.initialized y.cls ∈ WS) (w5 : Cond.code y cy mL ry ∈ WS) (hy : yok y na)
    (hroom : (rm d mc ms).frames + 1 ≤ R.frames ∧ 8 + (mL + 11) + (rm d mc ms).locals ≤ R.locals) (hn : As.length = na) (hsz : ls.size = nL) (h0 : st0 = As.reverse ++ rest) (h1 : rv.toList ++ rest = st1) (hst : (rest.map fun v => v.category).sum ≤ 8) (hdg : decode cc pc = .ok (.invokestatic idx, 3)) (hf : cells + mc ≤ R.cells ∧ slots + ms ≤ R.slots)
    (kk : ∀ (H1 : Heap) (locs1 : List Loc), Rl E sh1 n1 s.heap M1 H1 locs1 → W p l e R s m args below meth c H1 locs1 (cells + mc) (slots + ms) Q (F0 m (pc + 3) ls st1)) : W p l e R s m args below meth c H locs cells slots Q (F0 m pc ls st0) := by
  obtain ⟨hx, hb, hr, hml, hown, hts, hK, hN, hO, hlk, hbs⟩ := X
  subst h0
  have hG : GoodIn WS (va_wsS own idx y (.code y cy mL ry :: WS)) := by
    intro w hw
    rcases List.mem_append.mp hw with h | h
    · simp only [List.mem_cons, List.not_mem_nil, or_false] at h
      rcases h with rfl | rfl | rfl
      · exact ws_good _ w1
      · exact ws_good _ w2
      · exact ws_good _ w4
    · exact good_code w5 w h
  refine x_go (As := As) (va_runS (As := As) (rest := rest) ⟨hx, hb, hml, hown, hts⟩ hM (va_cwS na hts hG rfl rfl rfl hy hroom) ⟨wd_blind E sh n M _, fun U hU hW => ⟨rfl, wd_now hK hN hO hR U hU hW⟩⟩ rfl hn hsz rfl (lv_room hst) hdg hf) hR hbs h1 kk
/-- a call of a private static method of the nest -/
theorem x_callSN (X : CX E p s m args c meth cc nL rt own) (hR : Rl E sh n s.heap M H locs) (hM : CT l E y cy mL ry d mc ms As rv sh n M sh1 n1 M1)
    (w1 : (own, idx, y) ∈ nests) (w2 : Cond.static y ∈ WS) (w4 : Cond.initialized y.cls ∈ WS) (w5 : Cond.code y cy mL ry ∈ WS) (hy : yok y na)
    (hroom : (rm d mc ms).frames + 1 ≤ R.frames ∧ 8 + (mL + 11) + (rm d mc ms).locals ≤ R.locals) (hn : As.length = na) (hsz : ls.size = nL) (h0 : st0 = As.reverse ++ rest) (h1 : rv.toList ++ rest = st1) (hst : (rest.map fun v => v.category).sum ≤ 8) (hdg : decode cc pc = .ok (.invokestatic idx, 3)) (hf : cells + mc ≤ R.cells ∧ slots + ms ≤ R.slots)
    (kk : ∀ (H1 : Heap) (locs1 : List Loc), Rl E sh1 n1 s.heap M1 H1 locs1 → W p l e R s m args below meth c H1 locs1 (cells + mc) (slots + ms) Q (F0 m (pc + 3) ls st1)) : W p l e R s m args below meth c H locs cells slots Q (F0 m pc ls st0) := by
  obtain ⟨hx, hb, hr, hml, hown, hts, hK, hN, hO, hlk, hbs⟩ := X
  subst h0
  refine x_go (As := As) (va_runSN (As := As) (rest := rest) ⟨hx, hb, hml, hown, hts⟩ hM ⟨va_cnB na hts (good_code w5) rfl rfl rfl (hN.2.1 _ w1) (hts _ w4) hy hroom, hts _ w2, trivial⟩ ⟨wd_blind E sh n M _, fun U hU hW => ⟨rfl, wd_now hK hN hO hR U hU hW⟩⟩ rfl hn hsz rfl (lv_room hst) hdg hf) hR hbs h1 kk
end RC
theorem kX0 : KC 0 RX0 TX0 9 tyX0 := ⟨rfl, rfl, lc_X0, tyX0_ok, nmX0⟩
theorem kX1 : KC 1 RX1 TX1 11 tyX1 := ⟨rfl, rfl, lc_X1, tyX1_ok, nmX1⟩
theorem kX2 : KC 2 RX2 TX2 6 tyX2 := ⟨rfl, rfl, lc_X2, tyX2_ok, nmX2⟩
theorem kX3 : KC 3 RX3 TX3 10 tyX3 := ⟨rfl, rfl, lc_X3, tyX3_ok, nmX3⟩
theorem kX4 : KC 4 RX4 TX4 8 tyX4 := ⟨rfl, rfl, lc_X4, tyX4_ok, nmX4⟩
theorem kX5 : KC 5 RX5 TX5 2 tyX5 := ⟨rfl, rfl, lc_X5, tyX5_ok, nmX5⟩
theorem kX6 : KC 6 RX6 TX6 11 tyX6 := ⟨rfl, rfl, lc_X6, tyX6_ok, nmX6⟩
theorem kX7 : KC 7 RX7 TX7 7 tyX7 := ⟨rfl, rfl, lc_X7, tyX7_ok, nmX7⟩
theorem kX8 : KC 8 RX8 TX8 16 tyX8 := ⟨rfl, rfl, lc_X8, tyX8_ok, nmX8⟩
theorem kX9 : KC 9 RX9 TX9 11 tyX9 := ⟨rfl, rfl, lc_X9, tyX9_ok, nmX9⟩
theorem kX10 : KC 10 RX10 TX10 10 tyX10 := ⟨rfl, rfl, lc_X10, tyX10_ok, nmX10⟩
theorem kX11 : KC 11 RX11 TX11 49 tyX11 := ⟨rfl, rfl, lc_X11, tyX11_ok, nmX11⟩
