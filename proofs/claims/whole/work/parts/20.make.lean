/-! objects and arrays are made -/
def shp (sh : Nat → Sh) (k : Nat) (q : Sh) : Nat → Sh := fun a => if a = k then q else sh a
/-- the rows from n on hold nothing -/
def zf (M : Mem) (n : Nat) : Prop := ∀ k j, n ≤ k → M.1 k j = 0 ∧ M.2 k j = 0
theorem zf.up {M : Mem} {n n1 : Nat} (h : zf M n) (h1 : n ≤ n1) : zf M n1 := fun k j hk => h k j (Nat.le_trans h1 hk)
theorem zf_sI {M : Mem} {n k j : Nat} {v : Int32} (h : zf M n) (hk : k < n) : zf (sI M k j v) n := fun a i ha => by
  have e : (sI M k j v).1 a i = M.1 a i := by
    have : a ≠ k := by omega
    simp [sI, this]
  exact ⟨e.trans (h a i ha).1, (h a i ha).2⟩
theorem zf_sL {M : Mem} {n k j : Nat} {v : Int64} (h : zf M n) (hk : k < n) : zf (sL M k j v) n := fun a i ha => by
  have e : (sL M k j v).2 a i = M.2 a i := by
    have : a ≠ k := by omega
    simp [sL, this]
  exact ⟨(h a i ha).1, e.trans (h a i ha).2⟩
theorem Rl.grow {E : Ge} {sh : Nat → Sh} {n : Nat} {H0 H H1 : Heap} {M : Mem} {locs : List Loc} {q : Sh} (h : Rl E sh n H0 M H locs) (z : H1.size = H.size + 1) (o1 : ∀ a, a < H.size → H1[a]? = H[a]?) (hc : va_at E.1 vwCl (eB E + n, ce E M n q) H1) : Rl E (shp sh n q) (n + 1) H0 M H1 locs := by
  obtain ⟨hP, hS, hz⟩ := h
  refine ⟨fun i x hx => ?_, ⟨Nat.le_trans hS.1 (by omega), fun a h1 h2 => (o1 a (Nat.lt_of_lt_of_le h1 hS.1)).trans (hS.2.1 a h1 h2), hS.2.2⟩, by rw [z, hz]; rfl⟩
  obtain ⟨hi, rfl⟩ := wd_of hx
  by_cases e : i = n
  · subst e
    have : shp sh i q i = q := by simp [shp]
    rw [this]; exact hc
  · have : shp sh n q i = sh i := by simp [shp, e]
    rw [this]
    have hin : i < n := by omega
    exact (hP i _ (wd_at (E := E) (M := M) ⟨rfl, hin⟩)).kept (o1 _ (by simp; omega))
section MK
variable {p : Program} {l : Launch} {e : Env} {R : Room} {s : State} {m : MethodId} {args : Array Value} {below : List Frame} {meth : Method} {c : Code} {H : Heap} {locs : List Loc} {cells slots : Nat} {Q : State → Prop}
variable {cc : ByteArray} {pc : Nat} {ls : Array Slot} {rest : List Value} {E : Ge} {sh : Nat → Sh} {n : Nat} {H0 : Heap} {M : Mem} {k ci j index N : Nat} {rs : List (Option Nat)} {own C : String} {T : u_T} {ty0 : Nat → FieldType}
theorem x_new (hx : p.tables.exec = Jvm.exec) (hb : c.code = cc) (hown : s.vm.findClass own = some m.cls) (hts : ∀ w ∈ WS, w.before args s = true) (hK : va_K E.1 vwCl (tk E) s) (hR : Rl E sh n H0 M H locs) (hz : zf M n) (hC : KC ci C T N ty0) (w1 : Cond.classLink own index C ∈ WS) (w2 : Cond.instantiable C N ∈ WS) (w3 : Cond.initialized C ∈ WS)
    (hd : ∀ j, j < N → defaultValue (ty0 j) = (match fk ci j with | 0 => .int 0 | 1 => .long 0 | _ => .null)) (hcells : cells + 1 ≤ R.cells) (hslots : slots + N ≤ R.slots) (hdg : decode cc pc = .ok (.new index, 3))
    (kk : ∀ H1 : Heap, Rl E (shp sh n (0, ci, List.replicate N none)) (n + 1) H0 M H1 locs → W p l e R s m args below meth c H1 locs (cells + 1) (slots + N) Q (F0 m (pc + 3) ls (.ref (eB E + n) :: rest))) : W p l e R s m args below meth c H locs cells slots Q (F0 m pc ls rest) := by
  obtain ⟨h1, h2, h3, h4, h5⟩ := hC
  have hKn := hK.1 ci _ h1
  refine W.newcK hx hb hown (hts _ w1) (hts _ w2) (hts _ w3) rfl hdg hcells hslots hKn.2.1 hR.2.2 fun H1 kC hkC e1 z1 o1 => ?_
  refine kk H1 (hR.grow (by rw [z1, hR.2.2]) (fun a ha => o1 a (by rw [← hR.2.2]; exact ha)) ?_)
  refine ⟨_, h1, (u_born ty0 hts h3 hKn hkC e1 h4).to (fun j hj => ?_)⟩
  subst h2
  show defaultValue (ty0 j) = vp_V ((List.range (nf ci)).map (fv E M n ci (List.replicate (nf ci) none))) j
  have hg : (List.replicate (nf ci) (none : Option Nat)).getD j none = none := by simp [List.getD_eq_getElem?_getD, List.getElem?_replicate, hj]
  have hv : vp_V ((List.range (nf ci)).map (fv E M n ci (List.replicate (nf ci) none))) j = fv E M n ci (List.replicate (nf ci) none) j := by simp [vp_V, hj]
  rw [hv, hd j hj]
  unfold fv
  rw [hg, (hz n j (Nat.le_refl _)).1, (hz n j (Nat.le_refl _)).2]
  rfl
theorem mk_cls {ty : FieldType} {i : Nat} {cA : ClassId} (hK : va_K E.1 vwCl (tk E) s) (hi : (tk E)[i]? = some (E.2.1 i, ty)) (hn : va_RA s (E.2.1 i) ty → s.vm.findClass ("[" ++ ty.toString) = some (E.2.1 i)) (h : s.vm.findClass ("[" ++ ty.toString) = some cA) : cA = E.2.1 i :=
  Option.some.inj (h.symm.trans (hn (hK.2 i _ hi).2))
theorem x_newaI {w : Int32} {len : Nat} (hx : p.tables.exec = Jvm.exec) (hb : c.code = cc) (hts : ∀ w ∈ WS, w.before args s = true) (hK : va_K E.1 vwCl (tk E) s) (hR : Rl E sh n H0 M H locs) (hz : zf M n) (hw : ¬ w < 0) (hlen : w.toNatClampNeg = len) (hbytes : len * componentBytes .int ≤ 536870912) (hcells : cells + 1 ≤ R.cells) (hslots : slots + len ≤ R.slots) (hdg : decode cc pc = .ok (.newarray .int, 2))
    (kk : ∀ H1 : Heap, Rl E (shp sh n (1, len, [])) (n + 1) H0 M H1 locs → W p l e R s m args below meth c H1 locs (cells + 1) (slots + len) Q (F0 m (pc + 2) ls (.ref (eB E + n) :: rest))) : W p l e R s m args below meth c H locs cells slots Q (F0 m pc ls (.int w :: rest)) := by
  refine va_newaK (atype := .int) hx hb (hts _ ac_int) rfl hdg rfl hw hlen hbytes hcells hslots hR.2.2 fun H1 cA e1 z1 o1 hAr hNm => ?_
  have ec : cA = E.2.1 0 := mk_cls (i := 0) (ty := .int) hK rfl (fun h => h) hNm
  subst ec
  refine kk H1 (hR.grow (by rw [z1, hR.2.2]) (fun a ha => o1 a (by rw [← hR.2.2]; exact ha)) ?_)
  show H1[eB E + n]? = some (arrV (E.2.1 0) len (fun j => Value.int (M.1 n j)))
  rw [e1]
  congr 2
  funext a
  rw [(hz n a (Nat.le_refl _)).1]
  rfl
theorem x_newaJ {w : Int32} {len : Nat} (hx : p.tables.exec = Jvm.exec) (hb : c.code = cc) (hts : ∀ w ∈ WS, w.before args s = true) (hK : va_K E.1 vwCl (tk E) s) (hR : Rl E sh n H0 M H locs) (hz : zf M n) (hw : ¬ w < 0) (hlen : w.toNatClampNeg = len) (hbytes : len * componentBytes .long ≤ 536870912) (hcells : cells + 1 ≤ R.cells) (hslots : slots + len ≤ R.slots) (hdg : decode cc pc = .ok (.newarray .long, 2))
    (kk : ∀ H1 : Heap, Rl E (shp sh n (2, len, [])) (n + 1) H0 M H1 locs → W p l e R s m args below meth c H1 locs (cells + 1) (slots + len) Q (F0 m (pc + 2) ls (.ref (eB E + n) :: rest))) : W p l e R s m args below meth c H locs cells slots Q (F0 m pc ls (.int w :: rest)) := by
  refine va_newaK (atype := .long) hx hb (hts _ ac_long) rfl hdg rfl hw hlen hbytes hcells hslots hR.2.2 fun H1 cA e1 z1 o1 hAr hNm => ?_
  have ec : cA = E.2.1 1 := mk_cls (i := 1) (ty := .long) hK rfl (fun h => h) hNm
  subst ec
  refine kk H1 (hR.grow (by rw [z1, hR.2.2]) (fun a ha => o1 a (by rw [← hR.2.2]; exact ha)) ?_)
  show H1[eB E + n]? = some (arrV (E.2.1 1) len (fun j => Value.long (M.2 n j)))
  rw [e1]
  congr 2
  funext a
  rw [(hz n a (Nat.le_refl _)).2]
  rfl
theorem x_newaB {w : Int32} {len : Nat} (hx : p.tables.exec = Jvm.exec) (hb : c.code = cc) (hts : ∀ w ∈ WS, w.before args s = true) (hK : va_K E.1 vwCl (tk E) s) (hR : Rl E sh n H0 M H locs) (hz : zf M n) (hw : ¬ w < 0) (hlen : w.toNatClampNeg = len) (hbytes : len * componentBytes .byte ≤ 536870912) (hcells : cells + 1 ≤ R.cells) (hslots : slots + len ≤ R.slots) (hdg : decode cc pc = .ok (.newarray .byte, 2))
    (kk : ∀ H1 : Heap, Rl E (shp sh n (3, len, [])) (n + 1) H0 M H1 locs → W p l e R s m args below meth c H1 locs (cells + 1) (slots + len) Q (F0 m (pc + 2) ls (.ref (eB E + n) :: rest))) : W p l e R s m args below meth c H locs cells slots Q (F0 m pc ls (.int w :: rest)) := by
  refine va_newaK (atype := .byte) hx hb (hts _ ac_byte) rfl hdg rfl hw hlen hbytes hcells hslots hR.2.2 fun H1 cA e1 z1 o1 hAr hNm => ?_
  have ec : cA = E.2.1 2 := mk_cls (i := 2) (ty := .byte) hK rfl (fun h => h) hNm
  subst ec
  refine kk H1 (hR.grow (by rw [z1, hR.2.2]) (fun a ha => o1 a (by rw [← hR.2.2]; exact ha)) ?_)
  show H1[eB E + n]? = some (arrV (E.2.1 2) len (fun j => Value.int (M.1 n j)))
  rw [e1]
  congr 2
  funext a
  rw [(hz n a (Nat.le_refl _)).1]
  rfl
theorem x_newaZ {w : Int32} {len : Nat} (hx : p.tables.exec = Jvm.exec) (hb : c.code = cc) (hts : ∀ w ∈ WS, w.before args s = true) (hK : va_K E.1 vwCl (tk E) s) (hR : Rl E sh n H0 M H locs) (hz : zf M n) (hw : ¬ w < 0) (hlen : w.toNatClampNeg = len) (hbytes : len * componentBytes .boolean ≤ 536870912) (hcells : cells + 1 ≤ R.cells) (hslots : slots + len ≤ R.slots) (hdg : decode cc pc = .ok (.newarray .boolean, 2))
    (kk : ∀ H1 : Heap, Rl E (shp sh n (4, len, [])) (n + 1) H0 M H1 locs → W p l e R s m args below meth c H1 locs (cells + 1) (slots + len) Q (F0 m (pc + 2) ls (.ref (eB E + n) :: rest))) : W p l e R s m args below meth c H locs cells slots Q (F0 m pc ls (.int w :: rest)) := by
  refine va_newaK (atype := .boolean) hx hb (hts _ ac_boolean) rfl hdg rfl hw hlen hbytes hcells hslots hR.2.2 fun H1 cA e1 z1 o1 hAr hNm => ?_
  have ec : cA = E.2.1 3 := mk_cls (i := 3) (ty := .boolean) hK rfl (fun h => h) hNm
  subst ec
  refine kk H1 (hR.grow (by rw [z1, hR.2.2]) (fun a ha => o1 a (by rw [← hR.2.2]; exact ha)) ?_)
  show H1[eB E + n]? = some (arrV (E.2.1 3) len (fun j => Value.int (M.1 n j)))
  rw [e1]
  congr 2
  funext a
  rw [(hz n a (Nat.le_refl _)).1]
  rfl
theorem x_putr {r : Nat} {rs1 : List (Option Nat)} (hx : p.tables.exec = Jvm.exec) (hb : c.code = cc) (hown : s.vm.findClass own = some m.cls) (hts : ∀ w ∈ WS, w.before args s = true) (hK : va_K E.1 vwCl (tk E) s) (hR : Rl E sh n H0 M H locs) (hC : KC ci C T N ty0) (hk : At sh n k (0, ci, rs)) (hj : j < N) (hl : Cond.fieldLink own index (T j).1 (T j).2.1 (T j).2.2.1 ∈ WS)
    (hfin : (T j).2.2.2 = false ∨ ((T j).2.2.2 = true ∧ meth.name = "<init>" ∧ (T j).1 = own)) (hty : fk ci j = 2) (hn : narrow (ty0 j) (.ref (eB E + r)) = .ref (eB E + r)) (hfit : fits (ty0 j) (.ref (eB E + r)) = true) (hjl : j < rs.length) (hrs : rs.set j (some r) = rs1) (hdg : decode cc pc = .ok (.putfield index, 3))
    (kk : ∀ (H1 : Heap) (locs1 : List Loc), Rl E (shp sh k (0, ci, rs1)) n H0 M H1 locs1 → W p l e R s m args below meth c H1 locs1 cells slots Q (F0 m (pc + 3) ls rest)) : W p l e R s m args below meth c H locs cells slots Q (F0 m pc ls (.ref (eB E + r) :: .ref (eB E + k) :: rest)) := by
  subst hrs
  refine x_putG hx hb hown hts hK hR hC hk hj hl hfin hn hfit (sh1 := shp sh k (0, ci, rs.set j (some r))) (M1 := M) (rs1 := rs.set j (some r)) (by simp [shp]) (fun a ha => by simp [shp, ha]) (fun _ _ => ⟨rfl, rfl⟩) ?_ ?_ hdg kk
  · unfold fv
    rw [hty]
    simp [List.getD_eq_getElem?_getD, hjl, va_rf]
  · intro a ha
    unfold fv
    have : (rs.set j (some r)).getD a none = rs.getD a none := by
      simp [List.getD_eq_getElem?_getD, List.getElem?_set, Ne.symm ha]
    rw [this]
/-- the field that holds the Field holds it again -/
theorem x_putf (hx : p.tables.exec = Jvm.exec) (hb : c.code = cc) (hown : s.vm.findClass own = some m.cls) (hts : ∀ w ∈ WS, w.before args s = true) (hK : va_K E.1 vwCl (tk E) s) (hR : Rl E sh n H0 M H locs) {r : Nat} (hC : KC ci C T N ty0) (hk : At sh n k (0, ci, rs)) (hj : j < N) (hl : Cond.fieldLink own index (T j).1 (T j).2.1 (T j).2.2.1 ∈ WS) (hfin : (T j).2.2.2 = false)
    (hn : narrow (ty0 j) (.ref (eB E + r)) = .ref (eB E + r)) (hfit : fits (ty0 j) (.ref (eB E + r)) = true) (hv : fv E M k ci rs j = .ref (eB E + r)) (hdg : decode cc pc = .ok (.putfield index, 3))
    (kk : ∀ (H1 : Heap) (locs1 : List Loc), Rl E sh n H0 M H1 locs1 → W p l e R s m args below meth c H1 locs1 cells slots Q (F0 m (pc + 3) ls rest)) : W p l e R s m args below meth c H locs cells slots Q (F0 m pc ls (.ref (eB E + r) :: .ref (eB E + k) :: rest)) :=
  x_putG hx hb hown hts hK hR hC hk hj hl (Or.inl hfin) hn hfit hk.1 (fun _ _ => rfl) (fun _ _ => ⟨rfl, rfl⟩) hv (fun _ _ => rfl) hdg kk
/-- an array of texts, and what it is given -/
theorem x_anew {w : Int32} {len : Nat} (hx : p.tables.exec = Jvm.exec) (hb : c.code = cc) (hown : s.vm.findClass own = some m.cls) (hts : ∀ w ∈ WS, w.before args s = true) (hK : va_K E.1 vwCl (tk E) s) (hN : NV E s) (hR : Rl E sh n H0 M H locs) (w1 : Cond.classLink own index "java/lang/String" ∈ WS) (hw : ¬ w < 0) (hlen : w.toNatClampNeg = len) (hbytes : len * 4 ≤ 536870912) (hcells : cells + 1 ≤ R.cells) (hslots : slots + len ≤ R.slots) (hdg : decode cc pc = .ok (.anewarray index, 3))
    (kk : ∀ H1 : Heap, Rl E (shp sh n (7, len, List.replicate len none)) (n + 1) H0 M H1 locs → W p l e R s m args below meth c H1 locs (cells + 1) (slots + len) Q (F0 m (pc + 3) ls (.ref (eB E + n) :: rest))) : W p l e R s m args below meth c H locs cells slots Q (F0 m pc ls (.int w :: rest)) := by
  subst hlen
  have hao := ao_vm (u := s) (U := s) (A := #[]) (A' := args) rfl (hN.2.2 (.object "java/lang/String") (by decide))
  refine W.anew hx hb hown (hts _ w1) hao rfl hdg rfl hw hbytes hcells hslots fun cA kA comp f1 f2 f3 f4 => ?_
  have ec : cA = E.2.1 6 := mk_cls (i := 6) (ty := .object "java/lang/String") hK rfl (fun h => by obtain ⟨_, _, _, _, _, h⟩ := h; exact h) f1
  subst ec
  refine W.eq (g2 := F0 m (pc + 3) ls (.ref (eB E + n) :: rest)) (by rw [hR.2.2]) ?_
  refine kk _ (hR.grow (by simp) (fun a ha => by rw [Array.getElem?_push, if_neg (Nat.ne_of_lt ha)]) ?_)
  show (H.push _)[eB E + n]? = some (vp_cell _ _)
  rw [← hR.2.2, Array.getElem?_push_size, vp_cell_q, arrV_new]
  congr 2
  funext a
  have hg : (List.replicate w.toNatClampNeg (none : Option Nat)).getD a none = none := by
    by_cases h : a < w.toNatClampNeg <;> simp [List.getD_eq_getElem?_getD, List.getElem?_replicate, h]
  show Value.null = va_rf (((List.replicate w.toNatClampNeg (none : Option Nat)).getD a none).map _)
  rw [hg]
  rfl
theorem x_aast {w len : Nat} {i : Int32} {rs1 : List (Option Nat)} (hx : p.tables.exec = Jvm.exec) (hb : c.code = cc) (hK : va_K E.1 vwCl (tk E) s) (hO : OW E s s.heap) (hR : Rl E sh n s.heap M H locs) (hk : At sh n k (7, len, rs)) (hlen : rs.length = len) (hin : inb i len = true) (hw : w < 26) (hrs : rs.set (ix i) (some w) = rs1) (hdg : decode cc pc = .ok (.aastore, 1))
    (kk : ∀ (H1 : Heap) (locs1 : List Loc), Rl E (shp sh k (7, len, rs1)) n s.heap M H1 locs1 → W p l e R s m args below meth c H1 locs1 cells slots Q (F0 m (pc + 1) ls rest)) : W p l e R s m args below meth c H locs cells slots Q (F0 m pc ls (.ref (E.2.2.1 w) :: .int i :: .ref (eB E + k) :: rest)) := by
  subst hrs
  have hi := inb_in hin
  have hlt : i.toNatClampNeg < len := Nat.not_le.mp fun q => hi (Or.inr q)
  have hc : H[eB E + k]? = some (arrV (E.2.1 6) len (fun j => va_rf ((rs.getD j none).map (fun z => E.2.2.1 z)))) := hR.1 k _ (wd_at hk)
  obtain ⟨kA, comp, k1, k2, k3, -⟩ := (hK.2 6 _ rfl).2
  obtain ⟨kE, hkE, -⟩ := Vm.findClass_spec k3
  obtain ⟨cell, g1, g2, g3, -⟩ := (hO.1 w hw).1.kept hR.2.1.2.1
  have ec : cell.cls = comp := Option.some.inj (g3.symm.trans k3)
  refine W.aast hx hb hc (fun q h => by cases h) (fun h => by cases h) k1 k2 rfl hkE ⟨fun q => hi (Or.inl q), by rw [arrV_size]; exact hlt⟩ g1 (fun q h => by rw [h] at g2; cases g2) (by rw [ec]; exact hkE) (by rw [ec]; exact va_asg _ _) rfl rfl hdg fun H1 e1 z oq => ?_
  refine kk H1 _ ?_
  obtain ⟨hP, hS, hz⟩ := hR
  refine ⟨fun a x hx => ?_, hS.put z oq (Nat.le_add_right _ _), by rw [z]; exact hz⟩
  obtain ⟨ha, rfl⟩ := wd_of hx
  by_cases ea : a = k
  · subst ea
    have : shp sh a (7, len, rs.set (ix i) (some w)) a = (7, len, rs.set (ix i) (some w)) := by simp [shp]
    rw [this]
    show H1[eB E + a]? = some (arrV (E.2.1 6) len (fun j => va_rf (((rs.set (ix i) (some w)).getD j none).map (fun z => E.2.2.1 z))))
    rw [e1, arrV_store]
    congr 2
    funext j
    by_cases hj : j = ix i
    · subst hj
      simp [updV, List.getD_eq_getElem?_getD, hlen, hlt, va_rf]
    · simp [updV, hj, List.getD_eq_getElem?_getD, List.getElem?_set, Ne.symm hj]
  · have : shp sh k (7, len, rs.set (ix i) (some w)) a = sh a := by simp [shp, ea]
    rw [this]
    exact (hP a _ (wd_at (E := E) (M := M) ⟨rfl, ha⟩)).kept (oq _ (by simp; omega))
end MK
/-- arrays of arrays -/
def shg (sh : Nat → Sh) (n N K tO tI : Nat) : Nat → Sh := fun a => if a = n then (tO, N, (List.range N).map (fun i => some (n + 1 + i))) else if n < a ∧ a ≤ n + N then (tI, K, []) else sh a
section MG
variable {p : Program} {l : Launch} {e : Env} {R : Room} {s : State} {m : MethodId} {args : Array Value} {below : List Frame} {meth : Method} {c : Code} {H : Heap} {locs : List Loc} {cells slots : Nat} {Q : State → Prop}
variable {cc : ByteArray} {pc : Nat} {ls : Array Slot} {rest : List Value} {E : Ge} {sh : Nat → Sh} {n : Nat} {H0 : Heap} {M : Mem} {index : Nat} {own : String}
theorem outer_arrI (cA : ClassId) (N h0 : Nat) : ∀ i, Jvm.Free.Multi.outerC cA N h0 i = arrV cA N (fun j => if j < i then .ref (h0 + 1 + j) else .null)
  | 0 => by
    rw [Jvm.Free.Multi.outerC, arrV_new]
    congr 1
  | i + 1 => by
    rw [Jvm.Free.Multi.outerC, outer_arrI cA N h0 i, arrV_store]
    congr 1
    funext a
    by_cases h : a = i
    · subst h; simp [updV]
    · by_cases h2 : a < i
      · have : a < i + 1 := by omega
        simp [updV, h, h2, this]
      · have : ¬ a < i + 1 := by omega
        simp [updV, h, h2, this]
theorem outer_arr (cA : ClassId) (N h0 : Nat) : Jvm.Free.Multi.outerC cA N h0 N = arrV cA N (fun j => if j < N then .ref (h0 + 1 + j) else .null) := outer_arrI cA N h0 N
theorem x_mnaI {w v : Int32} {N K : Nat} (hx : p.tables.exec = Jvm.exec) (hb : c.code = cc) (hown : s.vm.findClass own = some m.cls) (hts : ∀ w ∈ WS, w.before args s = true) (hK : va_K E.1 vwCl (tk E) s) (hN : NV E s) (hR : Rl E sh n H0 M H locs) (hz : zf M n) (w1 : Cond.classLink own index ("[" ++ (FieldType.array .int).toString) ∈ WS) (hw : ¬ w < 0) (hv : ¬ v < 0) (hlw : w.toNatClampNeg = N) (hlv : v.toNatClampNeg = K)
    (hb1 : N * 4 ≤ 536870912) (hb2 : K * componentBytes .int ≤ 536870912) (hb3 : K ≤ 536870912) (hcells : cells + (1 + N) ≤ R.cells) (hslots : slots + (N + N * K) ≤ R.slots) (hdg : decode cc pc = .ok (.multianewarray index 2, 4))
    (kk : ∀ H1 : Heap, Rl E (shg sh n N K 5 1) (n + 1 + N) H0 M H1 locs → W p l e R s m args below meth c H1 locs (cells + 1 + N) (slots + N + N * K) Q (F0 m (pc + 4) ls (.ref (eB E + n) :: rest))) : W p l e R s m args below meth c H locs cells slots Q (F0 m pc ls (.int v :: .int w :: rest)) := by
  subst hlw
  subst hlv
  have hao := ao_vm (u := s) (U := s) (A := #[]) (A' := args) rfl (hN.2.2 (.array .int) (by decide))
  intro T hT Xs
  obtain ⟨vm₁, cA, comp, -, fA, fC, -, -, X', step⟩ := Xs.multianewarray2F hx hown (hts _ w1) hao (hts _ ac_int) (g := F0 m pc ls (.int v :: .int w :: rest)) rfl (by rw [hb]; exact hdg) rfl hw hv hb1 hb2 hb3 rfl rfl hcells hslots
  have ec : cA = E.2.1 4 := mk_cls (i := 4) (ty := .array .int) hK rfl (fun h => h) fA
  have ed : comp = E.2.1 0 := mk_cls (i := 0) (ty := .int) hK rfl (fun h => h) fC
  subst ec
  subst ed
  have hTh : (T.setVm vm₁).heap = H := hT
  generalize hS1 : T.setVm vm₁ = S1 at X' step hTh
  obtain ⟨f1, f2, -, -⟩ := Jvm.Free.Multi.fill_facts S1 (E.2.1 4) (E.2.1 0) w.toNatClampNeg v.toNatClampNeg (defaultValue .int) w.toNatClampNeg
  have hsz : S1.heap.size = eB E + n := by rw [hTh]; exact hR.2.2
  have hnew : Rl E (shg sh n w.toNatClampNeg v.toNatClampNeg 5 1) (n + 1 + w.toNatClampNeg) H0 M (Jvm.Free.Multi.fill S1 (E.2.1 4) (E.2.1 0) w.toNatClampNeg v.toNatClampNeg (defaultValue .int) w.toNatClampNeg).heap locs := by
    obtain ⟨hP, hS, hz0⟩ := hR
    have hold : ∀ a, a < H.size → (Jvm.Free.Multi.fill S1 (E.2.1 4) (E.2.1 0) w.toNatClampNeg v.toNatClampNeg (defaultValue .int) w.toNatClampNeg).heap[a]? = H[a]? := fun a ha => by
      rw [Jvm.Free.Multi.fill_old S1 _ _ _ _ _ (by rw [hTh]; exact ha), hTh]
    refine ⟨fun i x hx => ?_, ⟨Nat.le_trans hS.1 (by rw [f1, hTh]; omega), fun a h1 h2 => (hold a (Nat.lt_of_lt_of_le h1 hS.1)).trans (hS.2.1 a h1 h2), hS.2.2⟩, by rw [f1, hsz]; omega⟩
    obtain ⟨hi, rfl⟩ := wd_of hx
    by_cases e1 : i = n
    · subst e1
      have : shg sh i w.toNatClampNeg v.toNatClampNeg 5 1 i = (5, w.toNatClampNeg, (List.range w.toNatClampNeg).map (fun a => some (i + 1 + a))) := by simp [shg]
      rw [this]
      show (Jvm.Free.Multi.fill S1 _ _ _ _ _ _).heap[eB E + i]? = some (arrV (E.2.1 4) w.toNatClampNeg (fun j => va_rf ((((List.range w.toNatClampNeg).map (fun a => some (i + 1 + a))).getD j none).map (fun z => eB E + z))))
      rw [← hsz, f2, outer_arr]
      congr 2
      funext a
      by_cases ha : a < w.toNatClampNeg
      · have eg : ((List.range w.toNatClampNeg).map (fun a => some (i + 1 + a))).getD a none = some (i + 1 + a) := by simp [ha, List.getD_eq_getElem?_getD]
        rw [if_pos ha, eg]
        exact congrArg Value.ref (show (S1.heap.size + 1 + a : Nat) = eB E + (i + 1 + a) by rw [hsz]; omega)
      · simp [ha, List.getD_eq_getElem?_getD, va_rf]
    · by_cases e2 : n < i
      · have : shg sh n w.toNatClampNeg v.toNatClampNeg 5 1 i = (1, v.toNatClampNeg, []) := by
          have : i ≤ n + w.toNatClampNeg := by omega
          simp [shg, e1, e2, this]
        rw [this]
        show (Jvm.Free.Multi.fill S1 _ _ _ _ _ _).heap[eB E + i]? = some (arrV (E.2.1 0) v.toNatClampNeg (fun j => Value.int (M.1 i j)))
        have ei : eB E + i = S1.heap.size + 1 + (i - n - 1) := by rw [hsz]; omega
        rw [ei, Jvm.Free.Multi.fill_inner S1 _ _ _ _ _ _ _ (by omega)]
        show some ({ cls := E.2.1 0, slots := Array.replicate v.toNatClampNeg (defaultValue .int), vm := .none } : Cell) = _
        rw [arrV_new]
        congr 2
        funext a
        rw [(hz i a (by omega)).1]
        rfl
      · have : shg sh n w.toNatClampNeg v.toNatClampNeg 5 1 i = sh i := by simp [shg, e1, e2]
        rw [this]
        exact (hP i _ (wd_at (E := E) (M := M) ⟨rfl, by omega⟩)).kept (hold _ (by show eB E + i < H.size; omega))
  obtain ⟨t, a1, b1⟩ := kk _ hnew _ rfl X'
  refine ⟨t, step t ?_, b1⟩
  have e : T.heap.size = eB E + n := by rw [hT]; exact hR.2.2
  rw [e]
  exact a1
theorem x_mnaJ {w v : Int32} {N K : Nat} (hx : p.tables.exec = Jvm.exec) (hb : c.code = cc) (hown : s.vm.findClass own = some m.cls) (hts : ∀ w ∈ WS, w.before args s = true) (hK : va_K E.1 vwCl (tk E) s) (hN : NV E s) (hR : Rl E sh n H0 M H locs) (hz : zf M n) (w1 : Cond.classLink own index ("[" ++ (FieldType.array .long).toString) ∈ WS) (hw : ¬ w < 0) (hv : ¬ v < 0) (hlw : w.toNatClampNeg = N) (hlv : v.toNatClampNeg = K)
    (hb1 : N * 4 ≤ 536870912) (hb2 : K * componentBytes .long ≤ 536870912) (hb3 : K ≤ 536870912) (hcells : cells + (1 + N) ≤ R.cells) (hslots : slots + (N + N * K) ≤ R.slots) (hdg : decode cc pc = .ok (.multianewarray index 2, 4))
    (kk : ∀ H1 : Heap, Rl E (shg sh n N K 6 2) (n + 1 + N) H0 M H1 locs → W p l e R s m args below meth c H1 locs (cells + 1 + N) (slots + N + N * K) Q (F0 m (pc + 4) ls (.ref (eB E + n) :: rest))) : W p l e R s m args below meth c H locs cells slots Q (F0 m pc ls (.int v :: .int w :: rest)) := by
  subst hlw
  subst hlv
  have hao := ao_vm (u := s) (U := s) (A := #[]) (A' := args) rfl (hN.2.2 (.array .long) (by decide))
  intro T hT Xs
  obtain ⟨vm₁, cA, comp, -, fA, fC, -, -, X', step⟩ := Xs.multianewarray2F hx hown (hts _ w1) hao (hts _ ac_long) (g := F0 m pc ls (.int v :: .int w :: rest)) rfl (by rw [hb]; exact hdg) rfl hw hv hb1 hb2 hb3 rfl rfl hcells hslots
  have ec : cA = E.2.1 5 := mk_cls (i := 5) (ty := .array .long) hK rfl (fun h => h) fA
  have ed : comp = E.2.1 1 := mk_cls (i := 1) (ty := .long) hK rfl (fun h => h) fC
  subst ec
  subst ed
  have hTh : (T.setVm vm₁).heap = H := hT
  generalize hS1 : T.setVm vm₁ = S1 at X' step hTh
  obtain ⟨f1, f2, -, -⟩ := Jvm.Free.Multi.fill_facts S1 (E.2.1 5) (E.2.1 1) w.toNatClampNeg v.toNatClampNeg (defaultValue .long) w.toNatClampNeg
  have hsz : S1.heap.size = eB E + n := by rw [hTh]; exact hR.2.2
  have hnew : Rl E (shg sh n w.toNatClampNeg v.toNatClampNeg 6 2) (n + 1 + w.toNatClampNeg) H0 M (Jvm.Free.Multi.fill S1 (E.2.1 5) (E.2.1 1) w.toNatClampNeg v.toNatClampNeg (defaultValue .long) w.toNatClampNeg).heap locs := by
    obtain ⟨hP, hS, hz0⟩ := hR
    have hold : ∀ a, a < H.size → (Jvm.Free.Multi.fill S1 (E.2.1 5) (E.2.1 1) w.toNatClampNeg v.toNatClampNeg (defaultValue .long) w.toNatClampNeg).heap[a]? = H[a]? := fun a ha => by
      rw [Jvm.Free.Multi.fill_old S1 _ _ _ _ _ (by rw [hTh]; exact ha), hTh]
    refine ⟨fun i x hx => ?_, ⟨Nat.le_trans hS.1 (by rw [f1, hTh]; omega), fun a h1 h2 => (hold a (Nat.lt_of_lt_of_le h1 hS.1)).trans (hS.2.1 a h1 h2), hS.2.2⟩, by rw [f1, hsz]; omega⟩
    obtain ⟨hi, rfl⟩ := wd_of hx
    by_cases e1 : i = n
    · subst e1
      have : shg sh i w.toNatClampNeg v.toNatClampNeg 6 2 i = (6, w.toNatClampNeg, (List.range w.toNatClampNeg).map (fun a => some (i + 1 + a))) := by simp [shg]
      rw [this]
      show (Jvm.Free.Multi.fill S1 _ _ _ _ _ _).heap[eB E + i]? = some (arrV (E.2.1 5) w.toNatClampNeg (fun j => va_rf ((((List.range w.toNatClampNeg).map (fun a => some (i + 1 + a))).getD j none).map (fun z => eB E + z))))
      rw [← hsz, f2, outer_arr]
      congr 2
      funext a
      by_cases ha : a < w.toNatClampNeg
      · have eg : ((List.range w.toNatClampNeg).map (fun a => some (i + 1 + a))).getD a none = some (i + 1 + a) := by simp [ha, List.getD_eq_getElem?_getD]
        rw [if_pos ha, eg]
        exact congrArg Value.ref (show (S1.heap.size + 1 + a : Nat) = eB E + (i + 1 + a) by rw [hsz]; omega)
      · simp [ha, List.getD_eq_getElem?_getD, va_rf]
    · by_cases e2 : n < i
      · have : shg sh n w.toNatClampNeg v.toNatClampNeg 6 2 i = (2, v.toNatClampNeg, []) := by
          have : i ≤ n + w.toNatClampNeg := by omega
          simp [shg, e1, e2, this]
        rw [this]
        show (Jvm.Free.Multi.fill S1 _ _ _ _ _ _).heap[eB E + i]? = some (arrV (E.2.1 1) v.toNatClampNeg (fun j => Value.long (M.2 i j)))
        have ei : eB E + i = S1.heap.size + 1 + (i - n - 1) := by rw [hsz]; omega
        rw [ei, Jvm.Free.Multi.fill_inner S1 _ _ _ _ _ _ _ (by omega)]
        show some ({ cls := E.2.1 1, slots := Array.replicate v.toNatClampNeg (defaultValue .long), vm := .none } : Cell) = _
        rw [arrV_new]
        congr 2
        funext a
        rw [(hz i a (by omega)).2]
        rfl
      · have : shg sh n w.toNatClampNeg v.toNatClampNeg 6 2 i = sh i := by simp [shg, e1, e2]
        rw [this]
        exact (hP i _ (wd_at (E := E) (M := M) ⟨rfl, by omega⟩)).kept (hold _ (by show eB E + i < H.size; omega))
  obtain ⟨t, a1, b1⟩ := kk _ hnew _ rfl X'
  refine ⟨t, step t ?_, b1⟩
  have e : T.heap.size = eB E + n := by rw [hT]; exact hR.2.2
  rw [e]
  exact a1
end MG
section CI
variable {p : Program} {l : Launch} {e : Env} {R : Room} {s : State} {m : MethodId} {args : Array Value} {below : List Frame} {meth : Method} {c : Code} {H : Heap} {locs : List Loc} {cells slots : Nat} {Q : State → Prop}
variable {cc : ByteArray} {pc nL : Nat} {ls : Array Slot} {rt : Option FieldType} {E : Ge} {sh : Nat → Sh} {n : Nat} {M : Mem} {own : String}
variable {y : MethodName} {cy : ByteArray} {mL d mc ms na idx k : Nat} {As rest st0 : List Value} {sh1 : Nat → Sh} {n1 : Nat} {M1 : Mem}
theorem x_callI (X : CX E p s m args c meth cc nL rt own) (hR : Rl E sh n s.heap M H locs) (hM : CT l E y cy mL none d mc ms (.ref (eB E + k) :: As) none sh n M sh1 n1 M1)
    (w1 : Cond.methodLink own idx y ∈ WS) (w2 : Cond.instanceMethod y ∈ WS) (w4 : Cond.initialized y.cls ∈ WS) (w5 : Cond.code y cy mL none ∈ WS) (hy : yok y na) (hy1 : y.name = "<init>")
    (hroom : (rm d mc ms).frames + 1 ≤ R.frames ∧ 8 + (mL + 11) + (rm d mc ms).locals ≤ R.locals) (hn : As.length = na) (hsz : ls.size = nL) (h0 : st0 = As.reverse ++ .ref (eB E + k) :: rest) (hst : (rest.map fun v => v.category).sum ≤ 8) (hdg : decode cc pc = .ok (.invokespecial idx, 3)) (hf : cells + mc ≤ R.cells ∧ slots + ms ≤ R.slots)
    (kk : ∀ (H1 : Heap) (locs1 : List Loc), Rl E sh1 n1 s.heap M1 H1 locs1 → W p l e R s m args below meth c H1 locs1 (cells + mc) (slots + ms) Q (F0 m (pc + 3) ls rest)) : W p l e R s m args below meth c H locs cells slots Q (F0 m pc ls st0) := by
  obtain ⟨hx, hb, hr, hml, hown, hts, hK, hN, hO, hlk, hbs⟩ := X
  subst h0
  exact x_go (As := .ref (eB E + k) :: As) (va_runI (As := As) (rest := rest) ⟨hx, hb, hml, hown, hts⟩ hM (cwI na hts (good_code w5) rfl rfl rfl (hts _ w4) (hts _ w1) (hts _ w2) hy1 hy hroom) ⟨wd_blind E sh n M _, fun U hU hW => ⟨rfl, wd_now hK hN hO hR U hU hW⟩⟩ rfl hn hsz rfl (lv_room hst) hdg hf) hR hbs rfl kk
theorem x_callIN (X : CX E p s m args c meth cc nL rt own) (hR : Rl E sh n s.heap M H locs) (hM : CT l E y cy mL none d mc ms (.ref (eB E + k) :: As) none sh n M sh1 n1 M1)
    (w1 : (own, idx, y) ∈ nests) (w2 : Cond.instanceMethod y ∈ WS) (w4 : Cond.initialized y.cls ∈ WS) (w5 : Cond.code y cy mL none ∈ WS) (hy : yok y na) (hy1 : y.name = "<init>")
    (hroom : (rm d mc ms).frames + 1 ≤ R.frames ∧ 8 + (mL + 11) + (rm d mc ms).locals ≤ R.locals) (hn : As.length = na) (hsz : ls.size = nL) (h0 : st0 = As.reverse ++ .ref (eB E + k) :: rest) (hst : (rest.map fun v => v.category).sum ≤ 8) (hdg : decode cc pc = .ok (.invokespecial idx, 3)) (hf : cells + mc ≤ R.cells ∧ slots + ms ≤ R.slots)
    (kk : ∀ (H1 : Heap) (locs1 : List Loc), Rl E sh1 n1 s.heap M1 H1 locs1 → W p l e R s m args below meth c H1 locs1 (cells + mc) (slots + ms) Q (F0 m (pc + 3) ls rest)) : W p l e R s m args below meth c H locs cells slots Q (F0 m pc ls st0) := by
  obtain ⟨hx, hb, hr, hml, hown, hts, hK, hN, hO, hlk, hbs⟩ := X
  subst h0
  exact x_go (As := .ref (eB E + k) :: As) (va_runIN (As := As) (rest := rest) ⟨hx, hb, hml, hown, hts⟩ hM ⟨va_cnB na hts (good_code w5) rfl rfl rfl (hN.2.1 _ w1) (hts _ w4) hy hroom, hy1, hts _ w2⟩ ⟨wd_blind E sh n M _, fun U hU hW => ⟨rfl, wd_now hK hN hO hR U hU hW⟩⟩ rfl hn hsz rfl (lv_room hst) hdg hf) hR hbs rfl kk
end CI
