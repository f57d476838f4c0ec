/-! THE CLAIM OUT OF ONE WALK OF THE LAW'S BODY. Your part is whole_start (and what it stands on); all else here is the same for every law, but numbers. -/
def R_law : String := "MiddleSheetLaw"
def lw_P (b : Addr) (xs : List Int32) (args : Array Value) (s : State) : Prop := args = #[.ref b] ∧ s.IntsAt b xs ∧ xs.length ≤ 3072 ∧ (Jvm.Cond.and given_1 narrow_1).before args s = true
def lw_Q (_ : Array Value) (s : State) (o : Outcome) (t : State) : Prop := o = .returned (some (.int 1)) ∧ Framed s o t [] 600000 7302250
def lw_Z (below : List Frame) (a : Array Value) (s : State) : State → Prop := fun t => ∃ o, t.status = .running ∧ Ended t below o ∧ lw_Q a s o t
/-- the law's own end, with 1 on the stack, nothing written that was there before, its room as the claim has it -/
theorem lw_ret {p : Program} {l : Launch} {e : Env} {s : State} {m : MethodId} {below : List Frame} {meth : Method} {c : Code} {b : Nat} (hx : p.tables.exec = Jvm.exec) (hb : c.code = code) (hr : meth.sig.returnType = ret) (hlocks : meth.locks = false) {pc : Nat} {H : Heap} {ls : Array Slot} (hdg : decode code pc = .ok (.ireturn, 1)) : W p l e room_1 s m #[Value.ref b] below meth c H [] 600000 7302250 (lw_Z below #[Value.ref b] s) (F0 m pc ls [.int 1]) := by
  intro T hT X
  obtain ⟨fs, hret, hrun, hended, hW, hframe⟩ := X.leave (v := some (.int 1)) (hlocks := hlocks) (fun h => by rw [hr] at h; cases h)
  have hmeth' : T.vm.method? m = some meth := X.method'
  refine ⟨T.setFrames fs, ?_, .returned (some (.int 1)), hrun, hended, rfl, ⟨_, rfl⟩, hW, hframe⟩
  jvm_step X.here [X.here.top, hx, hb, hdg, hmeth', hr, ret, narrow_b1]
  (try refine ⟨rfl, ?_⟩); (try refine ⟨rfl, ?_⟩)
  first | (intro acts; rw [hret _ acts rfl rfl rfl]) | rw [hret _ _ rfl rfl rfl]
  exact Steps.refl _
/-- what holds at the law's entry: the machine, the code, the tables' words (any of lw_tbl by 'hts w (by decide +kernel)'), the script of L ints xs at the cell b, what the Statement gives of the start (any of its parts by flat_of_before) -/
def lw_At (p : Program) (s : State) (m : MethodId) (meth : Method) (c : Code) (b L : Nat) (xs : Nat → Int32) : Prop :=
  p.tables.exec = Jvm.exec ∧ c.code = code ∧ meth.sig.returnType = ret ∧ c.maxLocals = 4 ∧ s.vm.findClass R_law = some m.cls ∧ (∀ w ∈ lw_tbl, w.before #[Value.ref b] s = true) ∧ va_X b L xs s s.heap ∧ b < s.heap.size ∧ meth.locks = false ∧ (Jvm.Cond.and given_1 narrow_1).before #[Value.ref b] s = true
theorem ao_spec {t : FieldType} {A : Array Value} {s : State} (h : (Cond.arrayOver (.array t)).before A s = true) : ∃ (c : ClassId) (k : Class) (comp : ClassId), s.vm.findClass ("[" ++ (FieldType.array t).toString) = some c ∧ s.vm.classes[c]? = some k ∧ k.kind = .array comp (.array t) := by
  simp only [Cond.before, Cond.holds, Cond.value] at h
  cases h1 : s.vm.findClass (FieldType.array t).toString with
  | none => simp [h1] at h
  | some comp =>
    rw [h1, Option.bind_some] at h
    have h := eq_of_beq h
    obtain ⟨c, -, h⟩ := Option.bind_eq_some_iff.mp h
    obtain ⟨k, h3, h⟩ := Option.map_eq_some_iff.mp h
    cases h4 : k.kind with
    | array cm ty =>
      rw [h4] at h
      simp at h
      exact ⟨c, k, cm, h.2, h3, by rw [h4, h.1]⟩
    | _ => rw [h4] at h; simp at h
theorem st_of {args : Array Value} {s : State} {tm : Term} {len : Nat} {f : Nat → Int32} {A : Nat → Prop} (hN : len < 2 ^ 31) (hex : (Cond.exactly tm "java/lang/String").before args s = true) (hco : (Cond.eq (.field tm "java/lang/String" "coder" "B") (.int 0)).before args s = true)
    (har : (Cond.arrayOf (.field tm "java/lang/String" "value" "[B") .byte).before args s = true) (hle : (Cond.eq (.length (.field tm "java/lang/String" "value" "[B")) (.int (Int32.ofNat len))).before args s = true)
    (hel : ∀ j : Nat, j < len → (Cond.eq (.elem (.field tm "java/lang/String" "value" "[B") (.int (Int32.ofNat j))) (.int (f j))).before args s = true) (hA : ∀ a : Nat, a < s.heap.size → ¬ A a) :
    ∃ q : Nat × Nat, tm.eval args s none [] s = some (.ref q.1) ∧ va_O "java/lang/String" q.1 A s s.heap ∧ va_OF "java/lang/String" "coder" "B" (.int 0) q.1 A s s.heap ∧ va_OF "java/lang/String" "value" "[B" (.ref q.2) q.1 A s s.heap ∧ va_T .byte q.2 len (fun j => .int (f j)) A s s.heap := by
  obtain ⟨a, c, cA, kA, q1, q2, q3, q4, q5, q6, -⟩ := Cond.exactly_spec (args := args) (first := s) (o := none) (s := s) (idx := []) (t := tm) (cls := "java/lang/String") hex
  obtain ⟨t, ht, hT⟩ := va_Tof (f := fun j => .int (f j)) (A := A) hN har (va_eqt hle) (fun j hj => va_eqt (hel j hj)) hA
  exact ⟨(a, t), q1, ⟨cA, q3, q5, by rw [q6]; exact q2, hA a (Array.getElem?_eq_some_iff.mp q3).1⟩, vk_OFof q1 (va_eqt hco) hA, vk_OFof q1 ht hA, hT⟩
theorem arr_of {s : State} {ty : FieldType} {cA comp : ClassId} {kA : Class} (h2 : s.vm.classes[cA]? = some kA) (h3 : kA.kind = .array comp ty) : ArrOfT s cA ty := fun n z => ⟨fun k h => (by cases h), kA, h2, comp, h3⟩
def flL : List Cond := flatC (Jvm.Cond.and given_1 narrow_1)
set_option maxRecDepth 20000 in
theorem sg_0 {args : Array Value} {s : State} {A : Nat → Prop} (hs : ∀ c ∈ flL, c.before args s = true) (hA : ∀ a : Nat, a < s.heap.size → ¬ A a) : ∃ q : Nat × Nat, (Term.string "MiddleSheetModel" 57).eval args s none [] s = some (.ref q.1) ∧ va_O "java/lang/String" q.1 A s s.heap ∧ va_OF "java/lang/String" "coder" "B" (.int 0) q.1 A s s.heap ∧ va_OF "java/lang/String" "value" "[B" (.ref q.2) q.1 A s s.heap ∧ va_T .byte q.2 (stLen.getD 0 0) (fun j => .int ((stByt.getD 0 []).getD j 0)) A s s.heap := by
  refine st_of (tm := .string "MiddleSheetModel" 57) (len := 4) (f := fun j => (stByt.getD 0 []).getD j 0) (by decide) (hs (.exactly (.string "MiddleSheetModel" 57) "java/lang/String") (List.mem_of_getElem? (i := 118) (by decide +kernel))) (hs (.eq (.field (.string "MiddleSheetModel" 57) "java/lang/String" "coder" "B") (.int 0)) (List.mem_of_getElem? (i := 119) (by decide +kernel))) (hs (.arrayOf (.field (.string "MiddleSheetModel" 57) "java/lang/String" "value" "[B") .byte) (List.mem_of_getElem? (i := 120) (by decide +kernel))) (hs (.eq (.length (.field (.string "MiddleSheetModel" 57) "java/lang/String" "value" "[B")) (.int 4)) (List.mem_of_getElem? (i := 121) (by decide +kernel))) (fun j hj => ?_) hA
  match j, hj with
  | 0, _ => exact (hs (.eq (.elem (.field (.string "MiddleSheetModel" 57) "java/lang/String" "value" "[B") (.int 0)) (.int 99)) (List.mem_of_getElem? (i := 122) (by decide +kernel)))
  | 1, _ => exact (hs (.eq (.elem (.field (.string "MiddleSheetModel" 57) "java/lang/String" "value" "[B") (.int 1)) (.int 114)) (List.mem_of_getElem? (i := 123) (by decide +kernel)))
  | 2, _ => exact (hs (.eq (.elem (.field (.string "MiddleSheetModel" 57) "java/lang/String" "value" "[B") (.int 2)) (.int 111)) (List.mem_of_getElem? (i := 124) (by decide +kernel)))
  | 3, _ => exact (hs (.eq (.elem (.field (.string "MiddleSheetModel" 57) "java/lang/String" "value" "[B") (.int 3)) (.int 119)) (List.mem_of_getElem? (i := 125) (by decide +kernel)))
  | n + 4, h => exact absurd h (by omega)
set_option maxRecDepth 20000 in
theorem sg_1 {args : Array Value} {s : State} {A : Nat → Prop} (hs : ∀ c ∈ flL, c.before args s = true) (hA : ∀ a : Nat, a < s.heap.size → ¬ A a) : ∃ q : Nat × Nat, (Term.string "MiddleSheetModel" 59).eval args s none [] s = some (.ref q.1) ∧ va_O "java/lang/String" q.1 A s s.heap ∧ va_OF "java/lang/String" "coder" "B" (.int 0) q.1 A s s.heap ∧ va_OF "java/lang/String" "value" "[B" (.ref q.2) q.1 A s s.heap ∧ va_T .byte q.2 (stLen.getD 1 0) (fun j => .int ((stByt.getD 1 []).getD j 0)) A s s.heap := by
  refine st_of (tm := .string "MiddleSheetModel" 59) (len := 6) (f := fun j => (stByt.getD 1 []).getD j 0) (by decide) (hs (.exactly (.string "MiddleSheetModel" 59) "java/lang/String") (List.mem_of_getElem? (i := 127) (by decide +kernel))) (hs (.eq (.field (.string "MiddleSheetModel" 59) "java/lang/String" "coder" "B") (.int 0)) (List.mem_of_getElem? (i := 128) (by decide +kernel))) (hs (.arrayOf (.field (.string "MiddleSheetModel" 59) "java/lang/String" "value" "[B") .byte) (List.mem_of_getElem? (i := 129) (by decide +kernel))) (hs (.eq (.length (.field (.string "MiddleSheetModel" 59) "java/lang/String" "value" "[B")) (.int 6)) (List.mem_of_getElem? (i := 130) (by decide +kernel))) (fun j hj => ?_) hA
  match j, hj with
  | 0, _ => exact (hs (.eq (.elem (.field (.string "MiddleSheetModel" 59) "java/lang/String" "value" "[B") (.int 0)) (.int 115)) (List.mem_of_getElem? (i := 131) (by decide +kernel)))
  | 1, _ => exact (hs (.eq (.elem (.field (.string "MiddleSheetModel" 59) "java/lang/String" "value" "[B") (.int 1)) (.int 116)) (List.mem_of_getElem? (i := 132) (by decide +kernel)))
  | 2, _ => exact (hs (.eq (.elem (.field (.string "MiddleSheetModel" 59) "java/lang/String" "value" "[B") (.int 2)) (.int 114)) (List.mem_of_getElem? (i := 133) (by decide +kernel)))
  | 3, _ => exact (hs (.eq (.elem (.field (.string "MiddleSheetModel" 59) "java/lang/String" "value" "[B") (.int 3)) (.int 101)) (List.mem_of_getElem? (i := 134) (by decide +kernel)))
  | 4, _ => exact (hs (.eq (.elem (.field (.string "MiddleSheetModel" 59) "java/lang/String" "value" "[B") (.int 4)) (.int 101)) (List.mem_of_getElem? (i := 135) (by decide +kernel)))
  | 5, _ => exact (hs (.eq (.elem (.field (.string "MiddleSheetModel" 59) "java/lang/String" "value" "[B") (.int 5)) (.int 116)) (List.mem_of_getElem? (i := 136) (by decide +kernel)))
  | n + 6, h => exact absurd h (by omega)
set_option maxRecDepth 20000 in
theorem sg_2 {args : Array Value} {s : State} {A : Nat → Prop} (hs : ∀ c ∈ flL, c.before args s = true) (hA : ∀ a : Nat, a < s.heap.size → ¬ A a) : ∃ q : Nat × Nat, (Term.string "MiddleSheetModel" 61).eval args s none [] s = some (.ref q.1) ∧ va_O "java/lang/String" q.1 A s s.heap ∧ va_OF "java/lang/String" "coder" "B" (.int 0) q.1 A s s.heap ∧ va_OF "java/lang/String" "value" "[B" (.ref q.2) q.1 A s s.heap ∧ va_T .byte q.2 (stLen.getD 2 0) (fun j => .int ((stByt.getD 2 []).getD j 0)) A s s.heap := by
  refine st_of (tm := .string "MiddleSheetModel" 61) (len := 4) (f := fun j => (stByt.getD 2 []).getD j 0) (by decide) (hs (.exactly (.string "MiddleSheetModel" 61) "java/lang/String") (List.mem_of_getElem? (i := 138) (by decide +kernel))) (hs (.eq (.field (.string "MiddleSheetModel" 61) "java/lang/String" "coder" "B") (.int 0)) (List.mem_of_getElem? (i := 139) (by decide +kernel))) (hs (.arrayOf (.field (.string "MiddleSheetModel" 61) "java/lang/String" "value" "[B") .byte) (List.mem_of_getElem? (i := 140) (by decide +kernel))) (hs (.eq (.length (.field (.string "MiddleSheetModel" 61) "java/lang/String" "value" "[B")) (.int 4)) (List.mem_of_getElem? (i := 141) (by decide +kernel))) (fun j hj => ?_) hA
  match j, hj with
  | 0, _ => exact (hs (.eq (.elem (.field (.string "MiddleSheetModel" 61) "java/lang/String" "value" "[B") (.int 0)) (.int 115)) (List.mem_of_getElem? (i := 142) (by decide +kernel)))
  | 1, _ => exact (hs (.eq (.elem (.field (.string "MiddleSheetModel" 61) "java/lang/String" "value" "[B") (.int 1)) (.int 105)) (List.mem_of_getElem? (i := 143) (by decide +kernel)))
  | 2, _ => exact (hs (.eq (.elem (.field (.string "MiddleSheetModel" 61) "java/lang/String" "value" "[B") (.int 2)) (.int 100)) (List.mem_of_getElem? (i := 144) (by decide +kernel)))
  | 3, _ => exact (hs (.eq (.elem (.field (.string "MiddleSheetModel" 61) "java/lang/String" "value" "[B") (.int 3)) (.int 101)) (List.mem_of_getElem? (i := 145) (by decide +kernel)))
  | n + 4, h => exact absurd h (by omega)
set_option maxRecDepth 20000 in
theorem sg_3 {args : Array Value} {s : State} {A : Nat → Prop} (hs : ∀ c ∈ flL, c.before args s = true) (hA : ∀ a : Nat, a < s.heap.size → ¬ A a) : ∃ q : Nat × Nat, (Term.string "MiddleSheetModel" 63).eval args s none [] s = some (.ref q.1) ∧ va_O "java/lang/String" q.1 A s s.heap ∧ va_OF "java/lang/String" "coder" "B" (.int 0) q.1 A s s.heap ∧ va_OF "java/lang/String" "value" "[B" (.ref q.2) q.1 A s s.heap ∧ va_T .byte q.2 (stLen.getD 3 0) (fun j => .int ((stByt.getD 3 []).getD j 0)) A s s.heap := by
  refine st_of (tm := .string "MiddleSheetModel" 63) (len := 4) (f := fun j => (stByt.getD 3 []).getD j 0) (by decide) (hs (.exactly (.string "MiddleSheetModel" 63) "java/lang/String") (List.mem_of_getElem? (i := 147) (by decide +kernel))) (hs (.eq (.field (.string "MiddleSheetModel" 63) "java/lang/String" "coder" "B") (.int 0)) (List.mem_of_getElem? (i := 148) (by decide +kernel))) (hs (.arrayOf (.field (.string "MiddleSheetModel" 63) "java/lang/String" "value" "[B") .byte) (List.mem_of_getElem? (i := 149) (by decide +kernel))) (hs (.eq (.length (.field (.string "MiddleSheetModel" 63) "java/lang/String" "value" "[B")) (.int 4)) (List.mem_of_getElem? (i := 150) (by decide +kernel))) (fun j hj => ?_) hA
  match j, hj with
  | 0, _ => exact (hs (.eq (.elem (.field (.string "MiddleSheetModel" 63) "java/lang/String" "value" "[B") (.int 0)) (.int 108)) (List.mem_of_getElem? (i := 151) (by decide +kernel)))
  | 1, _ => exact (hs (.eq (.elem (.field (.string "MiddleSheetModel" 63) "java/lang/String" "value" "[B") (.int 1)) (.int 105)) (List.mem_of_getElem? (i := 152) (by decide +kernel)))
  | 2, _ => exact (hs (.eq (.elem (.field (.string "MiddleSheetModel" 63) "java/lang/String" "value" "[B") (.int 2)) (.int 110)) (List.mem_of_getElem? (i := 153) (by decide +kernel)))
  | 3, _ => exact (hs (.eq (.elem (.field (.string "MiddleSheetModel" 63) "java/lang/String" "value" "[B") (.int 3)) (.int 101)) (List.mem_of_getElem? (i := 154) (by decide +kernel)))
  | n + 4, h => exact absurd h (by omega)
set_option maxRecDepth 20000 in
theorem sg_4 {args : Array Value} {s : State} {A : Nat → Prop} (hs : ∀ c ∈ flL, c.before args s = true) (hA : ∀ a : Nat, a < s.heap.size → ¬ A a) : ∃ q : Nat × Nat, (Term.string "MiddleSheetModel" 180).eval args s none [] s = some (.ref q.1) ∧ va_O "java/lang/String" q.1 A s s.heap ∧ va_OF "java/lang/String" "coder" "B" (.int 0) q.1 A s s.heap ∧ va_OF "java/lang/String" "value" "[B" (.ref q.2) q.1 A s s.heap ∧ va_T .byte q.2 (stLen.getD 4 0) (fun j => .int ((stByt.getD 4 []).getD j 0)) A s s.heap := by
  refine st_of (tm := .string "MiddleSheetModel" 180) (len := 2) (f := fun j => (stByt.getD 4 []).getD j 0) (by decide) (hs (.exactly (.string "MiddleSheetModel" 180) "java/lang/String") (List.mem_of_getElem? (i := 187) (by decide +kernel))) (hs (.eq (.field (.string "MiddleSheetModel" 180) "java/lang/String" "coder" "B") (.int 0)) (List.mem_of_getElem? (i := 188) (by decide +kernel))) (hs (.arrayOf (.field (.string "MiddleSheetModel" 180) "java/lang/String" "value" "[B") .byte) (List.mem_of_getElem? (i := 189) (by decide +kernel))) (hs (.eq (.length (.field (.string "MiddleSheetModel" 180) "java/lang/String" "value" "[B")) (.int 2)) (List.mem_of_getElem? (i := 190) (by decide +kernel))) (fun j hj => ?_) hA
  match j, hj with
  | 0, _ => exact (hs (.eq (.elem (.field (.string "MiddleSheetModel" 180) "java/lang/String" "value" "[B") (.int 0)) (.int 98)) (List.mem_of_getElem? (i := 191) (by decide +kernel)))
  | 1, _ => exact (hs (.eq (.elem (.field (.string "MiddleSheetModel" 180) "java/lang/String" "value" "[B") (.int 1)) (.int 121)) (List.mem_of_getElem? (i := 192) (by decide +kernel)))
  | n + 2, h => exact absurd h (by omega)
set_option maxRecDepth 20000 in
theorem sg_5 {args : Array Value} {s : State} {A : Nat → Prop} (hs : ∀ c ∈ flL, c.before args s = true) (hA : ∀ a : Nat, a < s.heap.size → ¬ A a) : ∃ q : Nat × Nat, (Term.string "MiddleSheetModel" 186).eval args s none [] s = some (.ref q.1) ∧ va_O "java/lang/String" q.1 A s s.heap ∧ va_OF "java/lang/String" "coder" "B" (.int 0) q.1 A s s.heap ∧ va_OF "java/lang/String" "value" "[B" (.ref q.2) q.1 A s s.heap ∧ va_T .byte q.2 (stLen.getD 5 0) (fun j => .int ((stByt.getD 5 []).getD j 0)) A s s.heap := by
  refine st_of (tm := .string "MiddleSheetModel" 186) (len := 4) (f := fun j => (stByt.getD 5 []).getD j 0) (by decide) (hs (.exactly (.string "MiddleSheetModel" 186) "java/lang/String") (List.mem_of_getElem? (i := 212) (by decide +kernel))) (hs (.eq (.field (.string "MiddleSheetModel" 186) "java/lang/String" "coder" "B") (.int 0)) (List.mem_of_getElem? (i := 213) (by decide +kernel))) (hs (.arrayOf (.field (.string "MiddleSheetModel" 186) "java/lang/String" "value" "[B") .byte) (List.mem_of_getElem? (i := 214) (by decide +kernel))) (hs (.eq (.length (.field (.string "MiddleSheetModel" 186) "java/lang/String" "value" "[B")) (.int 4)) (List.mem_of_getElem? (i := 215) (by decide +kernel))) (fun j hj => ?_) hA
  match j, hj with
  | 0, _ => exact (hs (.eq (.elem (.field (.string "MiddleSheetModel" 186) "java/lang/String" "value" "[B") (.int 0)) (.int 109)) (List.mem_of_getElem? (i := 216) (by decide +kernel)))
  | 1, _ => exact (hs (.eq (.elem (.field (.string "MiddleSheetModel" 186) "java/lang/String" "value" "[B") (.int 1)) (.int 111)) (List.mem_of_getElem? (i := 217) (by decide +kernel)))
  | 2, _ => exact (hs (.eq (.elem (.field (.string "MiddleSheetModel" 186) "java/lang/String" "value" "[B") (.int 2)) (.int 114)) (List.mem_of_getElem? (i := 218) (by decide +kernel)))
  | 3, _ => exact (hs (.eq (.elem (.field (.string "MiddleSheetModel" 186) "java/lang/String" "value" "[B") (.int 3)) (.int 101)) (List.mem_of_getElem? (i := 219) (by decide +kernel)))
  | n + 4, h => exact absurd h (by omega)
set_option maxRecDepth 20000 in
theorem sg_6 {args : Array Value} {s : State} {A : Nat → Prop} (hs : ∀ c ∈ flL, c.before args s = true) (hA : ∀ a : Nat, a < s.heap.size → ¬ A a) : ∃ q : Nat × Nat, (Term.string "MiddleSheetModel" 188).eval args s none [] s = some (.ref q.1) ∧ va_O "java/lang/String" q.1 A s s.heap ∧ va_OF "java/lang/String" "coder" "B" (.int 0) q.1 A s s.heap ∧ va_OF "java/lang/String" "value" "[B" (.ref q.2) q.1 A s s.heap ∧ va_T .byte q.2 (stLen.getD 6 0) (fun j => .int ((stByt.getD 6 []).getD j 0)) A s s.heap := by
  refine st_of (tm := .string "MiddleSheetModel" 188) (len := 4) (f := fun j => (stByt.getD 6 []).getD j 0) (by decide) (hs (.exactly (.string "MiddleSheetModel" 188) "java/lang/String") (List.mem_of_getElem? (i := 221) (by decide +kernel))) (hs (.eq (.field (.string "MiddleSheetModel" 188) "java/lang/String" "coder" "B") (.int 0)) (List.mem_of_getElem? (i := 222) (by decide +kernel))) (hs (.arrayOf (.field (.string "MiddleSheetModel" 188) "java/lang/String" "value" "[B") .byte) (List.mem_of_getElem? (i := 223) (by decide +kernel))) (hs (.eq (.length (.field (.string "MiddleSheetModel" 188) "java/lang/String" "value" "[B")) (.int 4)) (List.mem_of_getElem? (i := 224) (by decide +kernel))) (fun j hj => ?_) hA
  match j, hj with
  | 0, _ => exact (hs (.eq (.elem (.field (.string "MiddleSheetModel" 188) "java/lang/String" "value" "[B") (.int 0)) (.int 111)) (List.mem_of_getElem? (i := 225) (by decide +kernel)))
  | 1, _ => exact (hs (.eq (.elem (.field (.string "MiddleSheetModel" 188) "java/lang/String" "value" "[B") (.int 1)) (.int 118)) (List.mem_of_getElem? (i := 226) (by decide +kernel)))
  | 2, _ => exact (hs (.eq (.elem (.field (.string "MiddleSheetModel" 188) "java/lang/String" "value" "[B") (.int 2)) (.int 101)) (List.mem_of_getElem? (i := 227) (by decide +kernel)))
  | 3, _ => exact (hs (.eq (.elem (.field (.string "MiddleSheetModel" 188) "java/lang/String" "value" "[B") (.int 3)) (.int 114)) (List.mem_of_getElem? (i := 228) (by decide +kernel)))
  | n + 4, h => exact absurd h (by omega)
set_option maxRecDepth 20000 in
theorem sg_7 {args : Array Value} {s : State} {A : Nat → Prop} (hs : ∀ c ∈ flL, c.before args s = true) (hA : ∀ a : Nat, a < s.heap.size → ¬ A a) : ∃ q : Nat × Nat, (Term.string "MiddleSheetModel" 190).eval args s none [] s = some (.ref q.1) ∧ va_O "java/lang/String" q.1 A s s.heap ∧ va_OF "java/lang/String" "coder" "B" (.int 0) q.1 A s s.heap ∧ va_OF "java/lang/String" "value" "[B" (.ref q.2) q.1 A s s.heap ∧ va_T .byte q.2 (stLen.getD 7 0) (fun j => .int ((stByt.getD 7 []).getD j 0)) A s s.heap := by
  refine st_of (tm := .string "MiddleSheetModel" 190) (len := 5) (f := fun j => (stByt.getD 7 []).getD j 0) (by decide) (hs (.exactly (.string "MiddleSheetModel" 190) "java/lang/String") (List.mem_of_getElem? (i := 230) (by decide +kernel))) (hs (.eq (.field (.string "MiddleSheetModel" 190) "java/lang/String" "coder" "B") (.int 0)) (List.mem_of_getElem? (i := 231) (by decide +kernel))) (hs (.arrayOf (.field (.string "MiddleSheetModel" 190) "java/lang/String" "value" "[B") .byte) (List.mem_of_getElem? (i := 232) (by decide +kernel))) (hs (.eq (.length (.field (.string "MiddleSheetModel" 190) "java/lang/String" "value" "[B")) (.int 5)) (List.mem_of_getElem? (i := 233) (by decide +kernel))) (fun j hj => ?_) hA
  match j, hj with
  | 0, _ => exact (hs (.eq (.elem (.field (.string "MiddleSheetModel" 190) "java/lang/String" "value" "[B") (.int 0)) (.int 108)) (List.mem_of_getElem? (i := 234) (by decide +kernel)))
  | 1, _ => exact (hs (.eq (.elem (.field (.string "MiddleSheetModel" 190) "java/lang/String" "value" "[B") (.int 1)) (.int 101)) (List.mem_of_getElem? (i := 235) (by decide +kernel)))
  | 2, _ => exact (hs (.eq (.elem (.field (.string "MiddleSheetModel" 190) "java/lang/String" "value" "[B") (.int 2)) (.int 97)) (List.mem_of_getElem? (i := 236) (by decide +kernel)))
  | 3, _ => exact (hs (.eq (.elem (.field (.string "MiddleSheetModel" 190) "java/lang/String" "value" "[B") (.int 3)) (.int 115)) (List.mem_of_getElem? (i := 237) (by decide +kernel)))
  | 4, _ => exact (hs (.eq (.elem (.field (.string "MiddleSheetModel" 190) "java/lang/String" "value" "[B") (.int 4)) (.int 116)) (List.mem_of_getElem? (i := 238) (by decide +kernel)))
  | n + 5, h => exact absurd h (by omega)
set_option maxRecDepth 20000 in
theorem sg_8 {args : Array Value} {s : State} {A : Nat → Prop} (hs : ∀ c ∈ flL, c.before args s = true) (hA : ∀ a : Nat, a < s.heap.size → ¬ A a) : ∃ q : Nat × Nat, (Term.string "MiddleSheetModel" 201).eval args s none [] s = some (.ref q.1) ∧ va_O "java/lang/String" q.1 A s s.heap ∧ va_OF "java/lang/String" "coder" "B" (.int 0) q.1 A s s.heap ∧ va_OF "java/lang/String" "value" "[B" (.ref q.2) q.1 A s s.heap ∧ va_T .byte q.2 (stLen.getD 8 0) (fun j => .int ((stByt.getD 8 []).getD j 0)) A s s.heap := by
  refine st_of (tm := .string "MiddleSheetModel" 201) (len := 4) (f := fun j => (stByt.getD 8 []).getD j 0) (by decide) (hs (.exactly (.string "MiddleSheetModel" 201) "java/lang/String") (List.mem_of_getElem? (i := 156) (by decide +kernel))) (hs (.eq (.field (.string "MiddleSheetModel" 201) "java/lang/String" "coder" "B") (.int 0)) (List.mem_of_getElem? (i := 157) (by decide +kernel))) (hs (.arrayOf (.field (.string "MiddleSheetModel" 201) "java/lang/String" "value" "[B") .byte) (List.mem_of_getElem? (i := 158) (by decide +kernel))) (hs (.eq (.length (.field (.string "MiddleSheetModel" 201) "java/lang/String" "value" "[B")) (.int 4)) (List.mem_of_getElem? (i := 159) (by decide +kernel))) (fun j hj => ?_) hA
  match j, hj with
  | 0, _ => exact (hs (.eq (.elem (.field (.string "MiddleSheetModel" 201) "java/lang/String" "value" "[B") (.int 0)) (.int 110)) (List.mem_of_getElem? (i := 160) (by decide +kernel)))
  | 1, _ => exact (hs (.eq (.elem (.field (.string "MiddleSheetModel" 201) "java/lang/String" "value" "[B") (.int 1)) (.int 101)) (List.mem_of_getElem? (i := 161) (by decide +kernel)))
  | 2, _ => exact (hs (.eq (.elem (.field (.string "MiddleSheetModel" 201) "java/lang/String" "value" "[B") (.int 2)) (.int 97)) (List.mem_of_getElem? (i := 162) (by decide +kernel)))
  | 3, _ => exact (hs (.eq (.elem (.field (.string "MiddleSheetModel" 201) "java/lang/String" "value" "[B") (.int 3)) (.int 114)) (List.mem_of_getElem? (i := 163) (by decide +kernel)))
  | n + 4, h => exact absurd h (by omega)
set_option maxRecDepth 20000 in
theorem sg_9 {args : Array Value} {s : State} {A : Nat → Prop} (hs : ∀ c ∈ flL, c.before args s = true) (hA : ∀ a : Nat, a < s.heap.size → ¬ A a) : ∃ q : Nat × Nat, (Term.string "MiddleSheetModel" 206).eval args s none [] s = some (.ref q.1) ∧ va_O "java/lang/String" q.1 A s s.heap ∧ va_OF "java/lang/String" "coder" "B" (.int 0) q.1 A s s.heap ∧ va_OF "java/lang/String" "value" "[B" (.ref q.2) q.1 A s s.heap ∧ va_T .byte q.2 (stLen.getD 9 0) (fun j => .int ((stByt.getD 9 []).getD j 0)) A s s.heap := by
  refine st_of (tm := .string "MiddleSheetModel" 206) (len := 7) (f := fun j => (stByt.getD 9 []).getD j 0) (by decide) (hs (.exactly (.string "MiddleSheetModel" 206) "java/lang/String") (List.mem_of_getElem? (i := 165) (by decide +kernel))) (hs (.eq (.field (.string "MiddleSheetModel" 206) "java/lang/String" "coder" "B") (.int 0)) (List.mem_of_getElem? (i := 166) (by decide +kernel))) (hs (.arrayOf (.field (.string "MiddleSheetModel" 206) "java/lang/String" "value" "[B") .byte) (List.mem_of_getElem? (i := 167) (by decide +kernel))) (hs (.eq (.length (.field (.string "MiddleSheetModel" 206) "java/lang/String" "value" "[B")) (.int 7)) (List.mem_of_getElem? (i := 168) (by decide +kernel))) (fun j hj => ?_) hA
  match j, hj with
  | 0, _ => exact (hs (.eq (.elem (.field (.string "MiddleSheetModel" 206) "java/lang/String" "value" "[B") (.int 0)) (.int 115)) (List.mem_of_getElem? (i := 169) (by decide +kernel)))
  | 1, _ => exact (hs (.eq (.elem (.field (.string "MiddleSheetModel" 206) "java/lang/String" "value" "[B") (.int 1)) (.int 116)) (List.mem_of_getElem? (i := 170) (by decide +kernel)))
  | 2, _ => exact (hs (.eq (.elem (.field (.string "MiddleSheetModel" 206) "java/lang/String" "value" "[B") (.int 2)) (.int 114)) (List.mem_of_getElem? (i := 171) (by decide +kernel)))
  | 3, _ => exact (hs (.eq (.elem (.field (.string "MiddleSheetModel" 206) "java/lang/String" "value" "[B") (.int 3)) (.int 101)) (List.mem_of_getElem? (i := 172) (by decide +kernel)))
  | 4, _ => exact (hs (.eq (.elem (.field (.string "MiddleSheetModel" 206) "java/lang/String" "value" "[B") (.int 4)) (.int 116)) (List.mem_of_getElem? (i := 173) (by decide +kernel)))
  | 5, _ => exact (hs (.eq (.elem (.field (.string "MiddleSheetModel" 206) "java/lang/String" "value" "[B") (.int 5)) (.int 99)) (List.mem_of_getElem? (i := 174) (by decide +kernel)))
  | 6, _ => exact (hs (.eq (.elem (.field (.string "MiddleSheetModel" 206) "java/lang/String" "value" "[B") (.int 6)) (.int 104)) (List.mem_of_getElem? (i := 175) (by decide +kernel)))
  | n + 7, h => exact absurd h (by omega)
set_option maxRecDepth 20000 in
theorem sg_10 {args : Array Value} {s : State} {A : Nat → Prop} (hs : ∀ c ∈ flL, c.before args s = true) (hA : ∀ a : Nat, a < s.heap.size → ¬ A a) : ∃ q : Nat × Nat, (Term.string "MiddleSheetModel" 210).eval args s none [] s = some (.ref q.1) ∧ va_O "java/lang/String" q.1 A s s.heap ∧ va_OF "java/lang/String" "coder" "B" (.int 0) q.1 A s s.heap ∧ va_OF "java/lang/String" "value" "[B" (.ref q.2) q.1 A s s.heap ∧ va_T .byte q.2 (stLen.getD 10 0) (fun j => .int ((stByt.getD 10 []).getD j 0)) A s s.heap := by
  refine st_of (tm := .string "MiddleSheetModel" 210) (len := 5) (f := fun j => (stByt.getD 10 []).getD j 0) (by decide) (hs (.exactly (.string "MiddleSheetModel" 210) "java/lang/String") (List.mem_of_getElem? (i := 177) (by decide +kernel))) (hs (.eq (.field (.string "MiddleSheetModel" 210) "java/lang/String" "coder" "B") (.int 0)) (List.mem_of_getElem? (i := 178) (by decide +kernel))) (hs (.arrayOf (.field (.string "MiddleSheetModel" 210) "java/lang/String" "value" "[B") .byte) (List.mem_of_getElem? (i := 179) (by decide +kernel))) (hs (.eq (.length (.field (.string "MiddleSheetModel" 210) "java/lang/String" "value" "[B")) (.int 5)) (List.mem_of_getElem? (i := 180) (by decide +kernel))) (fun j hj => ?_) hA
  match j, hj with
  | 0, _ => exact (hs (.eq (.elem (.field (.string "MiddleSheetModel" 210) "java/lang/String" "value" "[B") (.int 0)) (.int 118)) (List.mem_of_getElem? (i := 181) (by decide +kernel)))
  | 1, _ => exact (hs (.eq (.elem (.field (.string "MiddleSheetModel" 210) "java/lang/String" "value" "[B") (.int 1)) (.int 111)) (List.mem_of_getElem? (i := 182) (by decide +kernel)))
  | 2, _ => exact (hs (.eq (.elem (.field (.string "MiddleSheetModel" 210) "java/lang/String" "value" "[B") (.int 2)) (.int 116)) (List.mem_of_getElem? (i := 183) (by decide +kernel)))
  | 3, _ => exact (hs (.eq (.elem (.field (.string "MiddleSheetModel" 210) "java/lang/String" "value" "[B") (.int 3)) (.int 101)) (List.mem_of_getElem? (i := 184) (by decide +kernel)))
  | 4, _ => exact (hs (.eq (.elem (.field (.string "MiddleSheetModel" 210) "java/lang/String" "value" "[B") (.int 4)) (.int 114)) (List.mem_of_getElem? (i := 185) (by decide +kernel)))
  | n + 5, h => exact absurd h (by omega)
set_option maxRecDepth 20000 in
theorem sg_11 {args : Array Value} {s : State} {A : Nat → Prop} (hs : ∀ c ∈ flL, c.before args s = true) (hA : ∀ a : Nat, a < s.heap.size → ¬ A a) : ∃ q : Nat × Nat, (Term.string "MiddleSheetModel" 215).eval args s none [] s = some (.ref q.1) ∧ va_O "java/lang/String" q.1 A s s.heap ∧ va_OF "java/lang/String" "coder" "B" (.int 0) q.1 A s s.heap ∧ va_OF "java/lang/String" "value" "[B" (.ref q.2) q.1 A s s.heap ∧ va_T .byte q.2 (stLen.getD 11 0) (fun j => .int ((stByt.getD 11 []).getD j 0)) A s s.heap := by
  refine st_of (tm := .string "MiddleSheetModel" 215) (len := 5) (f := fun j => (stByt.getD 11 []).getD j 0) (by decide) (hs (.exactly (.string "MiddleSheetModel" 215) "java/lang/String") (List.mem_of_getElem? (i := 194) (by decide +kernel))) (hs (.eq (.field (.string "MiddleSheetModel" 215) "java/lang/String" "coder" "B") (.int 0)) (List.mem_of_getElem? (i := 195) (by decide +kernel))) (hs (.arrayOf (.field (.string "MiddleSheetModel" 215) "java/lang/String" "value" "[B") .byte) (List.mem_of_getElem? (i := 196) (by decide +kernel))) (hs (.eq (.length (.field (.string "MiddleSheetModel" 215) "java/lang/String" "value" "[B")) (.int 5)) (List.mem_of_getElem? (i := 197) (by decide +kernel))) (fun j hj => ?_) hA
  match j, hj with
  | 0, _ => exact (hs (.eq (.elem (.field (.string "MiddleSheetModel" 215) "java/lang/String" "value" "[B") (.int 0)) (.int 112)) (List.mem_of_getElem? (i := 198) (by decide +kernel)))
  | 1, _ => exact (hs (.eq (.elem (.field (.string "MiddleSheetModel" 215) "java/lang/String" "value" "[B") (.int 1)) (.int 108)) (List.mem_of_getElem? (i := 199) (by decide +kernel)))
  | 2, _ => exact (hs (.eq (.elem (.field (.string "MiddleSheetModel" 215) "java/lang/String" "value" "[B") (.int 2)) (.int 97)) (List.mem_of_getElem? (i := 200) (by decide +kernel)))
  | 3, _ => exact (hs (.eq (.elem (.field (.string "MiddleSheetModel" 215) "java/lang/String" "value" "[B") (.int 3)) (.int 99)) (List.mem_of_getElem? (i := 201) (by decide +kernel)))
  | 4, _ => exact (hs (.eq (.elem (.field (.string "MiddleSheetModel" 215) "java/lang/String" "value" "[B") (.int 4)) (.int 101)) (List.mem_of_getElem? (i := 202) (by decide +kernel)))
  | n + 5, h => exact absurd h (by omega)
set_option maxRecDepth 20000 in
theorem sg_12 {args : Array Value} {s : State} {A : Nat → Prop} (hs : ∀ c ∈ flL, c.before args s = true) (hA : ∀ a : Nat, a < s.heap.size → ¬ A a) : ∃ q : Nat × Nat, (Term.string "MiddleSheetModel" 220).eval args s none [] s = some (.ref q.1) ∧ va_O "java/lang/String" q.1 A s s.heap ∧ va_OF "java/lang/String" "coder" "B" (.int 0) q.1 A s s.heap ∧ va_OF "java/lang/String" "value" "[B" (.ref q.2) q.1 A s s.heap ∧ va_T .byte q.2 (stLen.getD 12 0) (fun j => .int ((stByt.getD 12 []).getD j 0)) A s s.heap := by
  refine st_of (tm := .string "MiddleSheetModel" 220) (len := 3) (f := fun j => (stByt.getD 12 []).getD j 0) (by decide) (hs (.exactly (.string "MiddleSheetModel" 220) "java/lang/String") (List.mem_of_getElem? (i := 204) (by decide +kernel))) (hs (.eq (.field (.string "MiddleSheetModel" 220) "java/lang/String" "coder" "B") (.int 0)) (List.mem_of_getElem? (i := 205) (by decide +kernel))) (hs (.arrayOf (.field (.string "MiddleSheetModel" 220) "java/lang/String" "value" "[B") .byte) (List.mem_of_getElem? (i := 206) (by decide +kernel))) (hs (.eq (.length (.field (.string "MiddleSheetModel" 220) "java/lang/String" "value" "[B")) (.int 3)) (List.mem_of_getElem? (i := 207) (by decide +kernel))) (fun j hj => ?_) hA
  match j, hj with
  | 0, _ => exact (hs (.eq (.elem (.field (.string "MiddleSheetModel" 220) "java/lang/String" "value" "[B") (.int 0)) (.int 119)) (List.mem_of_getElem? (i := 208) (by decide +kernel)))
  | 1, _ => exact (hs (.eq (.elem (.field (.string "MiddleSheetModel" 220) "java/lang/String" "value" "[B") (.int 1)) (.int 105)) (List.mem_of_getElem? (i := 209) (by decide +kernel)))
  | 2, _ => exact (hs (.eq (.elem (.field (.string "MiddleSheetModel" 220) "java/lang/String" "value" "[B") (.int 2)) (.int 110)) (List.mem_of_getElem? (i := 210) (by decide +kernel)))
  | n + 3, h => exact absurd h (by omega)
set_option maxRecDepth 20000 in
theorem sg_13 {args : Array Value} {s : State} {A : Nat → Prop} (hs : ∀ c ∈ flL, c.before args s = true) (hA : ∀ a : Nat, a < s.heap.size → ¬ A a) : ∃ q : Nat × Nat, (Term.string "MiddleSheet$Reader" 61).eval args s none [] s = some (.ref q.1) ∧ va_O "java/lang/String" q.1 A s s.heap ∧ va_OF "java/lang/String" "coder" "B" (.int 0) q.1 A s s.heap ∧ va_OF "java/lang/String" "value" "[B" (.ref q.2) q.1 A s s.heap ∧ va_T .byte q.2 (stLen.getD 13 0) (fun j => .int ((stByt.getD 13 []).getD j 0)) A s s.heap := by
  refine st_of (tm := .string "MiddleSheet$Reader" 61) (len := 4) (f := fun j => (stByt.getD 13 []).getD j 0) (by decide) (hs (.exactly (.string "MiddleSheet$Reader" 61) "java/lang/String") (List.mem_of_getElem? (i := 9) (by decide +kernel))) (hs (.eq (.field (.string "MiddleSheet$Reader" 61) "java/lang/String" "coder" "B") (.int 0)) (List.mem_of_getElem? (i := 10) (by decide +kernel))) (hs (.arrayOf (.field (.string "MiddleSheet$Reader" 61) "java/lang/String" "value" "[B") .byte) (List.mem_of_getElem? (i := 11) (by decide +kernel))) (hs (.eq (.length (.field (.string "MiddleSheet$Reader" 61) "java/lang/String" "value" "[B")) (.int 4)) (List.mem_of_getElem? (i := 12) (by decide +kernel))) (fun j hj => ?_) hA
  match j, hj with
  | 0, _ => exact (hs (.eq (.elem (.field (.string "MiddleSheet$Reader" 61) "java/lang/String" "value" "[B") (.int 0)) (.int 110)) (List.mem_of_getElem? (i := 13) (by decide +kernel)))
  | 1, _ => exact (hs (.eq (.elem (.field (.string "MiddleSheet$Reader" 61) "java/lang/String" "value" "[B") (.int 1)) (.int 101)) (List.mem_of_getElem? (i := 14) (by decide +kernel)))
  | 2, _ => exact (hs (.eq (.elem (.field (.string "MiddleSheet$Reader" 61) "java/lang/String" "value" "[B") (.int 2)) (.int 97)) (List.mem_of_getElem? (i := 15) (by decide +kernel)))
  | 3, _ => exact (hs (.eq (.elem (.field (.string "MiddleSheet$Reader" 61) "java/lang/String" "value" "[B") (.int 3)) (.int 114)) (List.mem_of_getElem? (i := 16) (by decide +kernel)))
  | n + 4, h => exact absurd h (by omega)
set_option maxRecDepth 20000 in
theorem sg_14 {args : Array Value} {s : State} {A : Nat → Prop} (hs : ∀ c ∈ flL, c.before args s = true) (hA : ∀ a : Nat, a < s.heap.size → ¬ A a) : ∃ q : Nat × Nat, (Term.string "MiddleSheet$Reader" 70).eval args s none [] s = some (.ref q.1) ∧ va_O "java/lang/String" q.1 A s s.heap ∧ va_OF "java/lang/String" "coder" "B" (.int 0) q.1 A s s.heap ∧ va_OF "java/lang/String" "value" "[B" (.ref q.2) q.1 A s s.heap ∧ va_T .byte q.2 (stLen.getD 14 0) (fun j => .int ((stByt.getD 14 []).getD j 0)) A s s.heap := by
  refine st_of (tm := .string "MiddleSheet$Reader" 70) (len := 7) (f := fun j => (stByt.getD 14 []).getD j 0) (by decide) (hs (.exactly (.string "MiddleSheet$Reader" 70) "java/lang/String") (List.mem_of_getElem? (i := 51) (by decide +kernel))) (hs (.eq (.field (.string "MiddleSheet$Reader" 70) "java/lang/String" "coder" "B") (.int 0)) (List.mem_of_getElem? (i := 52) (by decide +kernel))) (hs (.arrayOf (.field (.string "MiddleSheet$Reader" 70) "java/lang/String" "value" "[B") .byte) (List.mem_of_getElem? (i := 53) (by decide +kernel))) (hs (.eq (.length (.field (.string "MiddleSheet$Reader" 70) "java/lang/String" "value" "[B")) (.int 7)) (List.mem_of_getElem? (i := 54) (by decide +kernel))) (fun j hj => ?_) hA
  match j, hj with
  | 0, _ => exact (hs (.eq (.elem (.field (.string "MiddleSheet$Reader" 70) "java/lang/String" "value" "[B") (.int 0)) (.int 115)) (List.mem_of_getElem? (i := 55) (by decide +kernel)))
  | 1, _ => exact (hs (.eq (.elem (.field (.string "MiddleSheet$Reader" 70) "java/lang/String" "value" "[B") (.int 1)) (.int 116)) (List.mem_of_getElem? (i := 56) (by decide +kernel)))
  | 2, _ => exact (hs (.eq (.elem (.field (.string "MiddleSheet$Reader" 70) "java/lang/String" "value" "[B") (.int 2)) (.int 114)) (List.mem_of_getElem? (i := 57) (by decide +kernel)))
  | 3, _ => exact (hs (.eq (.elem (.field (.string "MiddleSheet$Reader" 70) "java/lang/String" "value" "[B") (.int 3)) (.int 101)) (List.mem_of_getElem? (i := 58) (by decide +kernel)))
  | 4, _ => exact (hs (.eq (.elem (.field (.string "MiddleSheet$Reader" 70) "java/lang/String" "value" "[B") (.int 4)) (.int 116)) (List.mem_of_getElem? (i := 59) (by decide +kernel)))
  | 5, _ => exact (hs (.eq (.elem (.field (.string "MiddleSheet$Reader" 70) "java/lang/String" "value" "[B") (.int 5)) (.int 99)) (List.mem_of_getElem? (i := 60) (by decide +kernel)))
  | 6, _ => exact (hs (.eq (.elem (.field (.string "MiddleSheet$Reader" 70) "java/lang/String" "value" "[B") (.int 6)) (.int 104)) (List.mem_of_getElem? (i := 61) (by decide +kernel)))
  | n + 7, h => exact absurd h (by omega)
set_option maxRecDepth 20000 in
theorem sg_15 {args : Array Value} {s : State} {A : Nat → Prop} (hs : ∀ c ∈ flL, c.before args s = true) (hA : ∀ a : Nat, a < s.heap.size → ¬ A a) : ∃ q : Nat × Nat, (Term.string "MiddleSheet$Reader" 75).eval args s none [] s = some (.ref q.1) ∧ va_O "java/lang/String" q.1 A s s.heap ∧ va_OF "java/lang/String" "coder" "B" (.int 0) q.1 A s s.heap ∧ va_OF "java/lang/String" "value" "[B" (.ref q.2) q.1 A s s.heap ∧ va_T .byte q.2 (stLen.getD 15 0) (fun j => .int ((stByt.getD 15 []).getD j 0)) A s s.heap := by
  refine st_of (tm := .string "MiddleSheet$Reader" 75) (len := 5) (f := fun j => (stByt.getD 15 []).getD j 0) (by decide) (hs (.exactly (.string "MiddleSheet$Reader" 75) "java/lang/String") (List.mem_of_getElem? (i := 62) (by decide +kernel))) (hs (.eq (.field (.string "MiddleSheet$Reader" 75) "java/lang/String" "coder" "B") (.int 0)) (List.mem_of_getElem? (i := 63) (by decide +kernel))) (hs (.arrayOf (.field (.string "MiddleSheet$Reader" 75) "java/lang/String" "value" "[B") .byte) (List.mem_of_getElem? (i := 64) (by decide +kernel))) (hs (.eq (.length (.field (.string "MiddleSheet$Reader" 75) "java/lang/String" "value" "[B")) (.int 5)) (List.mem_of_getElem? (i := 65) (by decide +kernel))) (fun j hj => ?_) hA
  match j, hj with
  | 0, _ => exact (hs (.eq (.elem (.field (.string "MiddleSheet$Reader" 75) "java/lang/String" "value" "[B") (.int 0)) (.int 118)) (List.mem_of_getElem? (i := 66) (by decide +kernel)))
  | 1, _ => exact (hs (.eq (.elem (.field (.string "MiddleSheet$Reader" 75) "java/lang/String" "value" "[B") (.int 1)) (.int 111)) (List.mem_of_getElem? (i := 67) (by decide +kernel)))
  | 2, _ => exact (hs (.eq (.elem (.field (.string "MiddleSheet$Reader" 75) "java/lang/String" "value" "[B") (.int 2)) (.int 116)) (List.mem_of_getElem? (i := 68) (by decide +kernel)))
  | 3, _ => exact (hs (.eq (.elem (.field (.string "MiddleSheet$Reader" 75) "java/lang/String" "value" "[B") (.int 3)) (.int 101)) (List.mem_of_getElem? (i := 69) (by decide +kernel)))
  | 4, _ => exact (hs (.eq (.elem (.field (.string "MiddleSheet$Reader" 75) "java/lang/String" "value" "[B") (.int 4)) (.int 114)) (List.mem_of_getElem? (i := 70) (by decide +kernel)))
  | n + 5, h => exact absurd h (by omega)
set_option maxRecDepth 20000 in
theorem sg_16 {args : Array Value} {s : State} {A : Nat → Prop} (hs : ∀ c ∈ flL, c.before args s = true) (hA : ∀ a : Nat, a < s.heap.size → ¬ A a) : ∃ q : Nat × Nat, (Term.string "MiddleSheet$Reader" 80).eval args s none [] s = some (.ref q.1) ∧ va_O "java/lang/String" q.1 A s s.heap ∧ va_OF "java/lang/String" "coder" "B" (.int 0) q.1 A s s.heap ∧ va_OF "java/lang/String" "value" "[B" (.ref q.2) q.1 A s s.heap ∧ va_T .byte q.2 (stLen.getD 16 0) (fun j => .int ((stByt.getD 16 []).getD j 0)) A s s.heap := by
  refine st_of (tm := .string "MiddleSheet$Reader" 80) (len := 5) (f := fun j => (stByt.getD 16 []).getD j 0) (by decide) (hs (.exactly (.string "MiddleSheet$Reader" 80) "java/lang/String") (List.mem_of_getElem? (i := 77) (by decide +kernel))) (hs (.eq (.field (.string "MiddleSheet$Reader" 80) "java/lang/String" "coder" "B") (.int 0)) (List.mem_of_getElem? (i := 78) (by decide +kernel))) (hs (.arrayOf (.field (.string "MiddleSheet$Reader" 80) "java/lang/String" "value" "[B") .byte) (List.mem_of_getElem? (i := 79) (by decide +kernel))) (hs (.eq (.length (.field (.string "MiddleSheet$Reader" 80) "java/lang/String" "value" "[B")) (.int 5)) (List.mem_of_getElem? (i := 80) (by decide +kernel))) (fun j hj => ?_) hA
  match j, hj with
  | 0, _ => exact (hs (.eq (.elem (.field (.string "MiddleSheet$Reader" 80) "java/lang/String" "value" "[B") (.int 0)) (.int 112)) (List.mem_of_getElem? (i := 81) (by decide +kernel)))
  | 1, _ => exact (hs (.eq (.elem (.field (.string "MiddleSheet$Reader" 80) "java/lang/String" "value" "[B") (.int 1)) (.int 108)) (List.mem_of_getElem? (i := 82) (by decide +kernel)))
  | 2, _ => exact (hs (.eq (.elem (.field (.string "MiddleSheet$Reader" 80) "java/lang/String" "value" "[B") (.int 2)) (.int 97)) (List.mem_of_getElem? (i := 83) (by decide +kernel)))
  | 3, _ => exact (hs (.eq (.elem (.field (.string "MiddleSheet$Reader" 80) "java/lang/String" "value" "[B") (.int 3)) (.int 99)) (List.mem_of_getElem? (i := 84) (by decide +kernel)))
  | 4, _ => exact (hs (.eq (.elem (.field (.string "MiddleSheet$Reader" 80) "java/lang/String" "value" "[B") (.int 4)) (.int 101)) (List.mem_of_getElem? (i := 85) (by decide +kernel)))
  | n + 5, h => exact absurd h (by omega)
set_option maxRecDepth 20000 in
theorem sg_17 {args : Array Value} {s : State} {A : Nat → Prop} (hs : ∀ c ∈ flL, c.before args s = true) (hA : ∀ a : Nat, a < s.heap.size → ¬ A a) : ∃ q : Nat × Nat, (Term.string "MiddleSheet$Reader" 85).eval args s none [] s = some (.ref q.1) ∧ va_O "java/lang/String" q.1 A s s.heap ∧ va_OF "java/lang/String" "coder" "B" (.int 0) q.1 A s s.heap ∧ va_OF "java/lang/String" "value" "[B" (.ref q.2) q.1 A s s.heap ∧ va_T .byte q.2 (stLen.getD 17 0) (fun j => .int ((stByt.getD 17 []).getD j 0)) A s s.heap := by
  refine st_of (tm := .string "MiddleSheet$Reader" 85) (len := 3) (f := fun j => (stByt.getD 17 []).getD j 0) (by decide) (hs (.exactly (.string "MiddleSheet$Reader" 85) "java/lang/String") (List.mem_of_getElem? (i := 86) (by decide +kernel))) (hs (.eq (.field (.string "MiddleSheet$Reader" 85) "java/lang/String" "coder" "B") (.int 0)) (List.mem_of_getElem? (i := 87) (by decide +kernel))) (hs (.arrayOf (.field (.string "MiddleSheet$Reader" 85) "java/lang/String" "value" "[B") .byte) (List.mem_of_getElem? (i := 88) (by decide +kernel))) (hs (.eq (.length (.field (.string "MiddleSheet$Reader" 85) "java/lang/String" "value" "[B")) (.int 3)) (List.mem_of_getElem? (i := 89) (by decide +kernel))) (fun j hj => ?_) hA
  match j, hj with
  | 0, _ => exact (hs (.eq (.elem (.field (.string "MiddleSheet$Reader" 85) "java/lang/String" "value" "[B") (.int 0)) (.int 119)) (List.mem_of_getElem? (i := 90) (by decide +kernel)))
  | 1, _ => exact (hs (.eq (.elem (.field (.string "MiddleSheet$Reader" 85) "java/lang/String" "value" "[B") (.int 1)) (.int 105)) (List.mem_of_getElem? (i := 91) (by decide +kernel)))
  | 2, _ => exact (hs (.eq (.elem (.field (.string "MiddleSheet$Reader" 85) "java/lang/String" "value" "[B") (.int 2)) (.int 110)) (List.mem_of_getElem? (i := 92) (by decide +kernel)))
  | n + 3, h => exact absurd h (by omega)
set_option maxRecDepth 20000 in
theorem sg_18 {args : Array Value} {s : State} {A : Nat → Prop} (hs : ∀ c ∈ flL, c.before args s = true) (hA : ∀ a : Nat, a < s.heap.size → ¬ A a) : ∃ q : Nat × Nat, (Term.string "MiddleSheet$Reader" 90).eval args s none [] s = some (.ref q.1) ∧ va_O "java/lang/String" q.1 A s s.heap ∧ va_OF "java/lang/String" "coder" "B" (.int 0) q.1 A s s.heap ∧ va_OF "java/lang/String" "value" "[B" (.ref q.2) q.1 A s s.heap ∧ va_T .byte q.2 (stLen.getD 18 0) (fun j => .int ((stByt.getD 18 []).getD j 0)) A s s.heap := by
  refine st_of (tm := .string "MiddleSheet$Reader" 90) (len := 4) (f := fun j => (stByt.getD 18 []).getD j 0) (by decide) (hs (.exactly (.string "MiddleSheet$Reader" 90) "java/lang/String") (List.mem_of_getElem? (i := 17) (by decide +kernel))) (hs (.eq (.field (.string "MiddleSheet$Reader" 90) "java/lang/String" "coder" "B") (.int 0)) (List.mem_of_getElem? (i := 18) (by decide +kernel))) (hs (.arrayOf (.field (.string "MiddleSheet$Reader" 90) "java/lang/String" "value" "[B") .byte) (List.mem_of_getElem? (i := 19) (by decide +kernel))) (hs (.eq (.length (.field (.string "MiddleSheet$Reader" 90) "java/lang/String" "value" "[B")) (.int 4)) (List.mem_of_getElem? (i := 20) (by decide +kernel))) (fun j hj => ?_) hA
  match j, hj with
  | 0, _ => exact (hs (.eq (.elem (.field (.string "MiddleSheet$Reader" 90) "java/lang/String" "value" "[B") (.int 0)) (.int 99)) (List.mem_of_getElem? (i := 21) (by decide +kernel)))
  | 1, _ => exact (hs (.eq (.elem (.field (.string "MiddleSheet$Reader" 90) "java/lang/String" "value" "[B") (.int 1)) (.int 114)) (List.mem_of_getElem? (i := 22) (by decide +kernel)))
  | 2, _ => exact (hs (.eq (.elem (.field (.string "MiddleSheet$Reader" 90) "java/lang/String" "value" "[B") (.int 2)) (.int 111)) (List.mem_of_getElem? (i := 23) (by decide +kernel)))
  | 3, _ => exact (hs (.eq (.elem (.field (.string "MiddleSheet$Reader" 90) "java/lang/String" "value" "[B") (.int 3)) (.int 119)) (List.mem_of_getElem? (i := 24) (by decide +kernel)))
  | n + 4, h => exact absurd h (by omega)
set_option maxRecDepth 20000 in
theorem sg_19 {args : Array Value} {s : State} {A : Nat → Prop} (hs : ∀ c ∈ flL, c.before args s = true) (hA : ∀ a : Nat, a < s.heap.size → ¬ A a) : ∃ q : Nat × Nat, (Term.string "MiddleSheet$Reader" 92).eval args s none [] s = some (.ref q.1) ∧ va_O "java/lang/String" q.1 A s s.heap ∧ va_OF "java/lang/String" "coder" "B" (.int 0) q.1 A s s.heap ∧ va_OF "java/lang/String" "value" "[B" (.ref q.2) q.1 A s s.heap ∧ va_T .byte q.2 (stLen.getD 19 0) (fun j => .int ((stByt.getD 19 []).getD j 0)) A s s.heap := by
  refine st_of (tm := .string "MiddleSheet$Reader" 92) (len := 6) (f := fun j => (stByt.getD 19 []).getD j 0) (by decide) (hs (.exactly (.string "MiddleSheet$Reader" 92) "java/lang/String") (List.mem_of_getElem? (i := 25) (by decide +kernel))) (hs (.eq (.field (.string "MiddleSheet$Reader" 92) "java/lang/String" "coder" "B") (.int 0)) (List.mem_of_getElem? (i := 26) (by decide +kernel))) (hs (.arrayOf (.field (.string "MiddleSheet$Reader" 92) "java/lang/String" "value" "[B") .byte) (List.mem_of_getElem? (i := 27) (by decide +kernel))) (hs (.eq (.length (.field (.string "MiddleSheet$Reader" 92) "java/lang/String" "value" "[B")) (.int 6)) (List.mem_of_getElem? (i := 28) (by decide +kernel))) (fun j hj => ?_) hA
  match j, hj with
  | 0, _ => exact (hs (.eq (.elem (.field (.string "MiddleSheet$Reader" 92) "java/lang/String" "value" "[B") (.int 0)) (.int 115)) (List.mem_of_getElem? (i := 29) (by decide +kernel)))
  | 1, _ => exact (hs (.eq (.elem (.field (.string "MiddleSheet$Reader" 92) "java/lang/String" "value" "[B") (.int 1)) (.int 116)) (List.mem_of_getElem? (i := 30) (by decide +kernel)))
  | 2, _ => exact (hs (.eq (.elem (.field (.string "MiddleSheet$Reader" 92) "java/lang/String" "value" "[B") (.int 2)) (.int 114)) (List.mem_of_getElem? (i := 31) (by decide +kernel)))
  | 3, _ => exact (hs (.eq (.elem (.field (.string "MiddleSheet$Reader" 92) "java/lang/String" "value" "[B") (.int 3)) (.int 101)) (List.mem_of_getElem? (i := 32) (by decide +kernel)))
  | 4, _ => exact (hs (.eq (.elem (.field (.string "MiddleSheet$Reader" 92) "java/lang/String" "value" "[B") (.int 4)) (.int 101)) (List.mem_of_getElem? (i := 33) (by decide +kernel)))
  | 5, _ => exact (hs (.eq (.elem (.field (.string "MiddleSheet$Reader" 92) "java/lang/String" "value" "[B") (.int 5)) (.int 116)) (List.mem_of_getElem? (i := 34) (by decide +kernel)))
  | n + 6, h => exact absurd h (by omega)
set_option maxRecDepth 20000 in
theorem sg_20 {args : Array Value} {s : State} {A : Nat → Prop} (hs : ∀ c ∈ flL, c.before args s = true) (hA : ∀ a : Nat, a < s.heap.size → ¬ A a) : ∃ q : Nat × Nat, (Term.string "MiddleSheet$Reader" 94).eval args s none [] s = some (.ref q.1) ∧ va_O "java/lang/String" q.1 A s s.heap ∧ va_OF "java/lang/String" "coder" "B" (.int 0) q.1 A s s.heap ∧ va_OF "java/lang/String" "value" "[B" (.ref q.2) q.1 A s s.heap ∧ va_T .byte q.2 (stLen.getD 20 0) (fun j => .int ((stByt.getD 20 []).getD j 0)) A s s.heap := by
  refine st_of (tm := .string "MiddleSheet$Reader" 94) (len := 4) (f := fun j => (stByt.getD 20 []).getD j 0) (by decide) (hs (.exactly (.string "MiddleSheet$Reader" 94) "java/lang/String") (List.mem_of_getElem? (i := 35) (by decide +kernel))) (hs (.eq (.field (.string "MiddleSheet$Reader" 94) "java/lang/String" "coder" "B") (.int 0)) (List.mem_of_getElem? (i := 36) (by decide +kernel))) (hs (.arrayOf (.field (.string "MiddleSheet$Reader" 94) "java/lang/String" "value" "[B") .byte) (List.mem_of_getElem? (i := 37) (by decide +kernel))) (hs (.eq (.length (.field (.string "MiddleSheet$Reader" 94) "java/lang/String" "value" "[B")) (.int 4)) (List.mem_of_getElem? (i := 38) (by decide +kernel))) (fun j hj => ?_) hA
  match j, hj with
  | 0, _ => exact (hs (.eq (.elem (.field (.string "MiddleSheet$Reader" 94) "java/lang/String" "value" "[B") (.int 0)) (.int 115)) (List.mem_of_getElem? (i := 39) (by decide +kernel)))
  | 1, _ => exact (hs (.eq (.elem (.field (.string "MiddleSheet$Reader" 94) "java/lang/String" "value" "[B") (.int 1)) (.int 105)) (List.mem_of_getElem? (i := 40) (by decide +kernel)))
  | 2, _ => exact (hs (.eq (.elem (.field (.string "MiddleSheet$Reader" 94) "java/lang/String" "value" "[B") (.int 2)) (.int 100)) (List.mem_of_getElem? (i := 41) (by decide +kernel)))
  | 3, _ => exact (hs (.eq (.elem (.field (.string "MiddleSheet$Reader" 94) "java/lang/String" "value" "[B") (.int 3)) (.int 101)) (List.mem_of_getElem? (i := 42) (by decide +kernel)))
  | n + 4, h => exact absurd h (by omega)
set_option maxRecDepth 20000 in
theorem sg_21 {args : Array Value} {s : State} {A : Nat → Prop} (hs : ∀ c ∈ flL, c.before args s = true) (hA : ∀ a : Nat, a < s.heap.size → ¬ A a) : ∃ q : Nat × Nat, (Term.string "MiddleSheet$Reader" 96).eval args s none [] s = some (.ref q.1) ∧ va_O "java/lang/String" q.1 A s s.heap ∧ va_OF "java/lang/String" "coder" "B" (.int 0) q.1 A s s.heap ∧ va_OF "java/lang/String" "value" "[B" (.ref q.2) q.1 A s s.heap ∧ va_T .byte q.2 (stLen.getD 21 0) (fun j => .int ((stByt.getD 21 []).getD j 0)) A s s.heap := by
  refine st_of (tm := .string "MiddleSheet$Reader" 96) (len := 4) (f := fun j => (stByt.getD 21 []).getD j 0) (by decide) (hs (.exactly (.string "MiddleSheet$Reader" 96) "java/lang/String") (List.mem_of_getElem? (i := 43) (by decide +kernel))) (hs (.eq (.field (.string "MiddleSheet$Reader" 96) "java/lang/String" "coder" "B") (.int 0)) (List.mem_of_getElem? (i := 44) (by decide +kernel))) (hs (.arrayOf (.field (.string "MiddleSheet$Reader" 96) "java/lang/String" "value" "[B") .byte) (List.mem_of_getElem? (i := 45) (by decide +kernel))) (hs (.eq (.length (.field (.string "MiddleSheet$Reader" 96) "java/lang/String" "value" "[B")) (.int 4)) (List.mem_of_getElem? (i := 46) (by decide +kernel))) (fun j hj => ?_) hA
  match j, hj with
  | 0, _ => exact (hs (.eq (.elem (.field (.string "MiddleSheet$Reader" 96) "java/lang/String" "value" "[B") (.int 0)) (.int 108)) (List.mem_of_getElem? (i := 47) (by decide +kernel)))
  | 1, _ => exact (hs (.eq (.elem (.field (.string "MiddleSheet$Reader" 96) "java/lang/String" "value" "[B") (.int 1)) (.int 105)) (List.mem_of_getElem? (i := 48) (by decide +kernel)))
  | 2, _ => exact (hs (.eq (.elem (.field (.string "MiddleSheet$Reader" 96) "java/lang/String" "value" "[B") (.int 2)) (.int 110)) (List.mem_of_getElem? (i := 49) (by decide +kernel)))
  | 3, _ => exact (hs (.eq (.elem (.field (.string "MiddleSheet$Reader" 96) "java/lang/String" "value" "[B") (.int 3)) (.int 101)) (List.mem_of_getElem? (i := 50) (by decide +kernel)))
  | n + 4, h => exact absurd h (by omega)
set_option maxRecDepth 20000 in
theorem sg_22 {args : Array Value} {s : State} {A : Nat → Prop} (hs : ∀ c ∈ flL, c.before args s = true) (hA : ∀ a : Nat, a < s.heap.size → ¬ A a) : ∃ q : Nat × Nat, (Term.string "MiddleSheet$Reader" 108).eval args s none [] s = some (.ref q.1) ∧ va_O "java/lang/String" q.1 A s s.heap ∧ va_OF "java/lang/String" "coder" "B" (.int 0) q.1 A s s.heap ∧ va_OF "java/lang/String" "value" "[B" (.ref q.2) q.1 A s s.heap ∧ va_T .byte q.2 (stLen.getD 22 0) (fun j => .int ((stByt.getD 22 []).getD j 0)) A s s.heap := by
  refine st_of (tm := .string "MiddleSheet$Reader" 108) (len := 2) (f := fun j => (stByt.getD 22 []).getD j 0) (by decide) (hs (.exactly (.string "MiddleSheet$Reader" 108) "java/lang/String") (List.mem_of_getElem? (i := 71) (by decide +kernel))) (hs (.eq (.field (.string "MiddleSheet$Reader" 108) "java/lang/String" "coder" "B") (.int 0)) (List.mem_of_getElem? (i := 72) (by decide +kernel))) (hs (.arrayOf (.field (.string "MiddleSheet$Reader" 108) "java/lang/String" "value" "[B") .byte) (List.mem_of_getElem? (i := 73) (by decide +kernel))) (hs (.eq (.length (.field (.string "MiddleSheet$Reader" 108) "java/lang/String" "value" "[B")) (.int 2)) (List.mem_of_getElem? (i := 74) (by decide +kernel))) (fun j hj => ?_) hA
  match j, hj with
  | 0, _ => exact (hs (.eq (.elem (.field (.string "MiddleSheet$Reader" 108) "java/lang/String" "value" "[B") (.int 0)) (.int 98)) (List.mem_of_getElem? (i := 75) (by decide +kernel)))
  | 1, _ => exact (hs (.eq (.elem (.field (.string "MiddleSheet$Reader" 108) "java/lang/String" "value" "[B") (.int 1)) (.int 121)) (List.mem_of_getElem? (i := 76) (by decide +kernel)))
  | n + 2, h => exact absurd h (by omega)
set_option maxRecDepth 20000 in
theorem sg_23 {args : Array Value} {s : State} {A : Nat → Prop} (hs : ∀ c ∈ flL, c.before args s = true) (hA : ∀ a : Nat, a < s.heap.size → ¬ A a) : ∃ q : Nat × Nat, (Term.string "MiddleSheet$Reader" 121).eval args s none [] s = some (.ref q.1) ∧ va_O "java/lang/String" q.1 A s s.heap ∧ va_OF "java/lang/String" "coder" "B" (.int 0) q.1 A s s.heap ∧ va_OF "java/lang/String" "value" "[B" (.ref q.2) q.1 A s s.heap ∧ va_T .byte q.2 (stLen.getD 23 0) (fun j => .int ((stByt.getD 23 []).getD j 0)) A s s.heap := by
  refine st_of (tm := .string "MiddleSheet$Reader" 121) (len := 4) (f := fun j => (stByt.getD 23 []).getD j 0) (by decide) (hs (.exactly (.string "MiddleSheet$Reader" 121) "java/lang/String") (List.mem_of_getElem? (i := 93) (by decide +kernel))) (hs (.eq (.field (.string "MiddleSheet$Reader" 121) "java/lang/String" "coder" "B") (.int 0)) (List.mem_of_getElem? (i := 94) (by decide +kernel))) (hs (.arrayOf (.field (.string "MiddleSheet$Reader" 121) "java/lang/String" "value" "[B") .byte) (List.mem_of_getElem? (i := 95) (by decide +kernel))) (hs (.eq (.length (.field (.string "MiddleSheet$Reader" 121) "java/lang/String" "value" "[B")) (.int 4)) (List.mem_of_getElem? (i := 96) (by decide +kernel))) (fun j hj => ?_) hA
  match j, hj with
  | 0, _ => exact (hs (.eq (.elem (.field (.string "MiddleSheet$Reader" 121) "java/lang/String" "value" "[B") (.int 0)) (.int 109)) (List.mem_of_getElem? (i := 97) (by decide +kernel)))
  | 1, _ => exact (hs (.eq (.elem (.field (.string "MiddleSheet$Reader" 121) "java/lang/String" "value" "[B") (.int 1)) (.int 111)) (List.mem_of_getElem? (i := 98) (by decide +kernel)))
  | 2, _ => exact (hs (.eq (.elem (.field (.string "MiddleSheet$Reader" 121) "java/lang/String" "value" "[B") (.int 2)) (.int 114)) (List.mem_of_getElem? (i := 99) (by decide +kernel)))
  | 3, _ => exact (hs (.eq (.elem (.field (.string "MiddleSheet$Reader" 121) "java/lang/String" "value" "[B") (.int 3)) (.int 101)) (List.mem_of_getElem? (i := 100) (by decide +kernel)))
  | n + 4, h => exact absurd h (by omega)
set_option maxRecDepth 20000 in
theorem sg_24 {args : Array Value} {s : State} {A : Nat → Prop} (hs : ∀ c ∈ flL, c.before args s = true) (hA : ∀ a : Nat, a < s.heap.size → ¬ A a) : ∃ q : Nat × Nat, (Term.string "MiddleSheet$Reader" 123).eval args s none [] s = some (.ref q.1) ∧ va_O "java/lang/String" q.1 A s s.heap ∧ va_OF "java/lang/String" "coder" "B" (.int 0) q.1 A s s.heap ∧ va_OF "java/lang/String" "value" "[B" (.ref q.2) q.1 A s s.heap ∧ va_T .byte q.2 (stLen.getD 24 0) (fun j => .int ((stByt.getD 24 []).getD j 0)) A s s.heap := by
  refine st_of (tm := .string "MiddleSheet$Reader" 123) (len := 4) (f := fun j => (stByt.getD 24 []).getD j 0) (by decide) (hs (.exactly (.string "MiddleSheet$Reader" 123) "java/lang/String") (List.mem_of_getElem? (i := 101) (by decide +kernel))) (hs (.eq (.field (.string "MiddleSheet$Reader" 123) "java/lang/String" "coder" "B") (.int 0)) (List.mem_of_getElem? (i := 102) (by decide +kernel))) (hs (.arrayOf (.field (.string "MiddleSheet$Reader" 123) "java/lang/String" "value" "[B") .byte) (List.mem_of_getElem? (i := 103) (by decide +kernel))) (hs (.eq (.length (.field (.string "MiddleSheet$Reader" 123) "java/lang/String" "value" "[B")) (.int 4)) (List.mem_of_getElem? (i := 104) (by decide +kernel))) (fun j hj => ?_) hA
  match j, hj with
  | 0, _ => exact (hs (.eq (.elem (.field (.string "MiddleSheet$Reader" 123) "java/lang/String" "value" "[B") (.int 0)) (.int 111)) (List.mem_of_getElem? (i := 105) (by decide +kernel)))
  | 1, _ => exact (hs (.eq (.elem (.field (.string "MiddleSheet$Reader" 123) "java/lang/String" "value" "[B") (.int 1)) (.int 118)) (List.mem_of_getElem? (i := 106) (by decide +kernel)))
  | 2, _ => exact (hs (.eq (.elem (.field (.string "MiddleSheet$Reader" 123) "java/lang/String" "value" "[B") (.int 2)) (.int 101)) (List.mem_of_getElem? (i := 107) (by decide +kernel)))
  | 3, _ => exact (hs (.eq (.elem (.field (.string "MiddleSheet$Reader" 123) "java/lang/String" "value" "[B") (.int 3)) (.int 114)) (List.mem_of_getElem? (i := 108) (by decide +kernel)))
  | n + 4, h => exact absurd h (by omega)
set_option maxRecDepth 20000 in
theorem sg_25 {args : Array Value} {s : State} {A : Nat → Prop} (hs : ∀ c ∈ flL, c.before args s = true) (hA : ∀ a : Nat, a < s.heap.size → ¬ A a) : ∃ q : Nat × Nat, (Term.string "MiddleSheet$Reader" 128).eval args s none [] s = some (.ref q.1) ∧ va_O "java/lang/String" q.1 A s s.heap ∧ va_OF "java/lang/String" "coder" "B" (.int 0) q.1 A s s.heap ∧ va_OF "java/lang/String" "value" "[B" (.ref q.2) q.1 A s s.heap ∧ va_T .byte q.2 (stLen.getD 25 0) (fun j => .int ((stByt.getD 25 []).getD j 0)) A s s.heap := by
  refine st_of (tm := .string "MiddleSheet$Reader" 128) (len := 5) (f := fun j => (stByt.getD 25 []).getD j 0) (by decide) (hs (.exactly (.string "MiddleSheet$Reader" 128) "java/lang/String") (List.mem_of_getElem? (i := 109) (by decide +kernel))) (hs (.eq (.field (.string "MiddleSheet$Reader" 128) "java/lang/String" "coder" "B") (.int 0)) (List.mem_of_getElem? (i := 110) (by decide +kernel))) (hs (.arrayOf (.field (.string "MiddleSheet$Reader" 128) "java/lang/String" "value" "[B") .byte) (List.mem_of_getElem? (i := 111) (by decide +kernel))) (hs (.eq (.length (.field (.string "MiddleSheet$Reader" 128) "java/lang/String" "value" "[B")) (.int 5)) (List.mem_of_getElem? (i := 112) (by decide +kernel))) (fun j hj => ?_) hA
  match j, hj with
  | 0, _ => exact (hs (.eq (.elem (.field (.string "MiddleSheet$Reader" 128) "java/lang/String" "value" "[B") (.int 0)) (.int 108)) (List.mem_of_getElem? (i := 113) (by decide +kernel)))
  | 1, _ => exact (hs (.eq (.elem (.field (.string "MiddleSheet$Reader" 128) "java/lang/String" "value" "[B") (.int 1)) (.int 101)) (List.mem_of_getElem? (i := 114) (by decide +kernel)))
  | 2, _ => exact (hs (.eq (.elem (.field (.string "MiddleSheet$Reader" 128) "java/lang/String" "value" "[B") (.int 2)) (.int 97)) (List.mem_of_getElem? (i := 115) (by decide +kernel)))
  | 3, _ => exact (hs (.eq (.elem (.field (.string "MiddleSheet$Reader" 128) "java/lang/String" "value" "[B") (.int 3)) (.int 115)) (List.mem_of_getElem? (i := 116) (by decide +kernel)))
  | 4, _ => exact (hs (.eq (.elem (.field (.string "MiddleSheet$Reader" 128) "java/lang/String" "value" "[B") (.int 4)) (.int 116)) (List.mem_of_getElem? (i := 117) (by decide +kernel)))
  | n + 5, h => exact absurd h (by omega)
theorem sg_all {args : Array Value} {s : State} {A : Nat → Prop} (hs : ∀ c ∈ flL, c.before args s = true) (hA : ∀ a : Nat, a < s.heap.size → ¬ A a) : ∀ i : Nat, ∃ q : Nat × Nat, i < 26 → (Term.string (stOwn i) (stIdx i)).eval args s none [] s = some (.ref q.1) ∧ va_O "java/lang/String" q.1 A s s.heap ∧ va_OF "java/lang/String" "coder" "B" (.int 0) q.1 A s s.heap ∧ va_OF "java/lang/String" "value" "[B" (.ref q.2) q.1 A s s.heap ∧ va_T .byte q.2 (stLen.getD i 0) (fun j => .int ((stByt.getD i []).getD j 0)) A s s.heap := fun i => match i with
  | 0 => (sg_0 hs hA).elim (fun q h => ⟨q, fun _ => h⟩)
  | 1 => (sg_1 hs hA).elim (fun q h => ⟨q, fun _ => h⟩)
  | 2 => (sg_2 hs hA).elim (fun q h => ⟨q, fun _ => h⟩)
  | 3 => (sg_3 hs hA).elim (fun q h => ⟨q, fun _ => h⟩)
  | 4 => (sg_4 hs hA).elim (fun q h => ⟨q, fun _ => h⟩)
  | 5 => (sg_5 hs hA).elim (fun q h => ⟨q, fun _ => h⟩)
  | 6 => (sg_6 hs hA).elim (fun q h => ⟨q, fun _ => h⟩)
  | 7 => (sg_7 hs hA).elim (fun q h => ⟨q, fun _ => h⟩)
  | 8 => (sg_8 hs hA).elim (fun q h => ⟨q, fun _ => h⟩)
  | 9 => (sg_9 hs hA).elim (fun q h => ⟨q, fun _ => h⟩)
  | 10 => (sg_10 hs hA).elim (fun q h => ⟨q, fun _ => h⟩)
  | 11 => (sg_11 hs hA).elim (fun q h => ⟨q, fun _ => h⟩)
  | 12 => (sg_12 hs hA).elim (fun q h => ⟨q, fun _ => h⟩)
  | 13 => (sg_13 hs hA).elim (fun q h => ⟨q, fun _ => h⟩)
  | 14 => (sg_14 hs hA).elim (fun q h => ⟨q, fun _ => h⟩)
  | 15 => (sg_15 hs hA).elim (fun q h => ⟨q, fun _ => h⟩)
  | 16 => (sg_16 hs hA).elim (fun q h => ⟨q, fun _ => h⟩)
  | 17 => (sg_17 hs hA).elim (fun q h => ⟨q, fun _ => h⟩)
  | 18 => (sg_18 hs hA).elim (fun q h => ⟨q, fun _ => h⟩)
  | 19 => (sg_19 hs hA).elim (fun q h => ⟨q, fun _ => h⟩)
  | 20 => (sg_20 hs hA).elim (fun q h => ⟨q, fun _ => h⟩)
  | 21 => (sg_21 hs hA).elim (fun q h => ⟨q, fun _ => h⟩)
  | 22 => (sg_22 hs hA).elim (fun q h => ⟨q, fun _ => h⟩)
  | 23 => (sg_23 hs hA).elim (fun q h => ⟨q, fun _ => h⟩)
  | 24 => (sg_24 hs hA).elim (fun q h => ⟨q, fun _ => h⟩)
  | 25 => (sg_25 hs hA).elim (fun q h => ⟨q, fun _ => h⟩)
  | n + 26 => ⟨(0, 0), fun h => absurd h (by omega)⟩
theorem sr_all {args : Array Value} {s : State} (hts : ∀ w ∈ lw_tbl, w.before args s = true) : ∀ i : Nat, i < 26 → (Cond.stringRef (stOwn i) (stIdx i) (stTx i)).before args s = true := fun i hi => match i, hi with
  | 0, _ => (hts (.stringRef "MiddleSheetModel" 57 "crow") (mT5 (List.mem_of_getElem? (i := 226) (by decide +kernel))))
  | 1, _ => (hts (.stringRef "MiddleSheetModel" 59 "street") (mT5 (List.mem_of_getElem? (i := 227) (by decide +kernel))))
  | 2, _ => (hts (.stringRef "MiddleSheetModel" 61 "side") (mT5 (List.mem_of_getElem? (i := 228) (by decide +kernel))))
  | 3, _ => (hts (.stringRef "MiddleSheetModel" 63 "line") (mT5 (List.mem_of_getElem? (i := 229) (by decide +kernel))))
  | 4, _ => (hts (.stringRef "MiddleSheetModel" 180 "by") (mT6 (List.mem_of_getElem? (i := 210) (by decide +kernel))))
  | 5, _ => (hts (.stringRef "MiddleSheetModel" 186 "more") (mT6 (List.mem_of_getElem? (i := 221) (by decide +kernel))))
  | 6, _ => (hts (.stringRef "MiddleSheetModel" 188 "over") (mT6 (List.mem_of_getElem? (i := 222) (by decide +kernel))))
  | 7, _ => (hts (.stringRef "MiddleSheetModel" 190 "least") (mT6 (List.mem_of_getElem? (i := 223) (by decide +kernel))))
  | 8, _ => (hts (.stringRef "MiddleSheetModel" 201 "near") (mT6 (List.mem_of_getElem? (i := 177) (by decide +kernel))))
  | 9, _ => (hts (.stringRef "MiddleSheetModel" 206 "stretch") (mT6 (List.mem_of_getElem? (i := 196) (by decide +kernel))))
  | 10, _ => (hts (.stringRef "MiddleSheetModel" 210 "voter") (mT6 (List.mem_of_getElem? (i := 205) (by decide +kernel))))
  | 11, _ => (hts (.stringRef "MiddleSheetModel" 215 "place") (mT6 (List.mem_of_getElem? (i := 211) (by decide +kernel))))
  | 12, _ => (hts (.stringRef "MiddleSheetModel" 220 "win") (mT6 (List.mem_of_getElem? (i := 216) (by decide +kernel))))
  | 13, _ => (hts (.stringRef "MiddleSheet$Reader" 61 "near") (mT3 (List.mem_of_getElem? (i := 26) (by decide +kernel))))
  | 14, _ => (hts (.stringRef "MiddleSheet$Reader" 70 "stretch") (mT3 (List.mem_of_getElem? (i := 91) (by decide +kernel))))
  | 15, _ => (hts (.stringRef "MiddleSheet$Reader" 75 "voter") (mT3 (List.mem_of_getElem? (i := 100) (by decide +kernel))))
  | 16, _ => (hts (.stringRef "MiddleSheet$Reader" 80 "place") (mT3 (List.mem_of_getElem? (i := 110) (by decide +kernel))))
  | 17, _ => (hts (.stringRef "MiddleSheet$Reader" 85 "win") (mT3 (List.mem_of_getElem? (i := 119) (by decide +kernel))))
  | 18, _ => (hts (.stringRef "MiddleSheet$Reader" 90 "crow") (mT3 (List.mem_of_getElem? (i := 83) (by decide +kernel))))
  | 19, _ => (hts (.stringRef "MiddleSheet$Reader" 92 "street") (mT3 (List.mem_of_getElem? (i := 84) (by decide +kernel))))
  | 20, _ => (hts (.stringRef "MiddleSheet$Reader" 94 "side") (mT3 (List.mem_of_getElem? (i := 85) (by decide +kernel))))
  | 21, _ => (hts (.stringRef "MiddleSheet$Reader" 96 "line") (mT3 (List.mem_of_getElem? (i := 86) (by decide +kernel))))
  | 22, _ => (hts (.stringRef "MiddleSheet$Reader" 108 "by") (mT3 (List.mem_of_getElem? (i := 105) (by decide +kernel))))
  | 23, _ => (hts (.stringRef "MiddleSheet$Reader" 121 "more") (mT3 (List.mem_of_getElem? (i := 124) (by decide +kernel))))
  | 24, _ => (hts (.stringRef "MiddleSheet$Reader" 123 "over") (mT3 (List.mem_of_getElem? (i := 125) (by decide +kernel))))
  | 25, _ => (hts (.stringRef "MiddleSheet$Reader" 128 "least") (mT3 (List.mem_of_getElem? (i := 126) (by decide +kernel))))
  | n + 26, h => absurd h (by omega)
theorem sn_all {args : Array Value} {s : State} (hts : ∀ w ∈ lw_tbl, w.before args s = true) : ∀ q ∈ nests, va_Nw (.methodLinkNest q.1 q.2.1 q.2.2 "MiddleSheet") s := List.forall_mem_cons.mpr ⟨va_Nw.of rfl (hts (.methodLinkNest RX10 11 yX8_init "MiddleSheet") (mT1 (List.mem_of_getElem? (i := 31) (by decide +kernel)))), List.forall_mem_cons.mpr ⟨va_Nw.of rfl (hts (.methodLinkNest RX10 18 yX6_init "MiddleSheet") (mT1 (List.mem_of_getElem? (i := 140) (by decide +kernel)))), List.forall_mem_cons.mpr ⟨va_Nw.of rfl (hts (.methodLinkNest RX10 75 yX5_init "MiddleSheet") (mT2 (List.mem_of_getElem? (i := 176) (by decide +kernel)))), List.forall_mem_cons.mpr ⟨va_Nw.of rfl (hts (.methodLinkNest RX2 48 yX10_commonPart "MiddleSheet") (mT4 (List.mem_of_getElem? (i := 9) (by decide +kernel)))), List.forall_mem_cons.mpr ⟨va_Nw.of rfl (hts (.methodLinkNest RX3 109 yX10_commonPart "MiddleSheet") (mT5 (List.mem_of_getElem? (i := 85) (by decide +kernel)))), List.forall_mem_cons.mpr ⟨va_Nw.of rfl (hts (.methodLinkNest RX4 83 yX10_commonPart "MiddleSheet") (mT4 (List.mem_of_getElem? (i := 48) (by decide +kernel)))), List.forall_mem_cons.mpr ⟨va_Nw.of rfl (hts (.methodLinkNest RX6 17 yX8_init "MiddleSheet") (mT1 (List.mem_of_getElem? (i := 145) (by decide +kernel)))), List.forall_mem_cons.mpr ⟨va_Nw.of rfl (hts (.methodLinkNest RX7 49 yX10_commonPart "MiddleSheet") (mT4 (List.mem_of_getElem? (i := 127) (by decide +kernel)))), fun _ h => absurd h List.not_mem_nil⟩⟩⟩⟩⟩⟩⟩⟩
theorem sa_all {args : Array Value} {s : State} (hts : ∀ w ∈ lw_tbl, w.before args s = true) : ∀ ty ∈ aoL, va_Nw (.arrayOver ty) s := List.forall_mem_cons.mpr ⟨ao_vm (A := args) rfl (hts (.arrayOver (.array .int)) (mT5 (List.mem_of_getElem? (i := 223) (by decide +kernel)))), List.forall_mem_cons.mpr ⟨ao_vm (A := args) rfl (hts (.arrayOver (.array .long)) (mT5 (List.mem_of_getElem? (i := 231) (by decide +kernel)))), List.forall_mem_cons.mpr ⟨ao_vm (A := args) rfl (hts (.arrayOver (.object "java/lang/String")) (mT5 (List.mem_of_getElem? (i := 225) (by decide +kernel)))), fun _ h => absurd h List.not_mem_nil⟩⟩⟩
set_option maxHeartbeats 4000000 in
theorem law_E {p : Program} {s : State} {m : MethodId} {meth : Method} {c : Code} {b L : Nat} {xs : Nat → Int32} (C0 : lw_At p s m meth c b L xs) : ∃ E : Ge, eB E = s.heap.size ∧ CX E p s m #[Value.ref b] c meth code 4 ret RL := by
  obtain ⟨hx, hb, hr, hml, hown, hts, hX, hbl, hlocks, hgv⟩ := C0
  have hw : ∀ w ∈ WS, w.before #[Value.ref b] s = true := fun w h => hts w (List.mem_filter.mp h).1
  have hs : ∀ c ∈ flL, c.before #[Value.ref b] s = true := flat_of_before _ hgv
  obtain ⟨c0, iS0, hKn0⟩ := u_known (C := RX0) (T := TX0) (N := 9) (n := 9) hw lc_X0 (hw _ is_X0)
  obtain ⟨c1, iS1, hKn1⟩ := u_known (C := RX1) (T := TX1) (N := 11) (n := 11) hw lc_X1 (hw _ is_X1)
  obtain ⟨c2, iS2, hKn2⟩ := u_known (C := RX2) (T := TX2) (N := 6) (n := 6) hw lc_X2 (hw _ is_X2)
  obtain ⟨c3, iS3, hKn3⟩ := u_known (C := RX3) (T := TX3) (N := 10) (n := 10) hw lc_X3 (hw _ is_X3)
  obtain ⟨c4, iS4, hKn4⟩ := u_known (C := RX4) (T := TX4) (N := 8) (n := 8) hw lc_X4 (hw _ is_X4)
  obtain ⟨c5, iS5, hKn5⟩ := u_known (C := RX5) (T := TX5) (N := 2) (n := 2) hw lc_X5 (hw _ is_X5)
  obtain ⟨c6, iS6, hKn6⟩ := u_known (C := RX6) (T := TX6) (N := 11) (n := 11) hw lc_X6 (hw _ is_X6)
  obtain ⟨c7, iS7, hKn7⟩ := u_known (C := RX7) (T := TX7) (N := 7) (n := 7) hw lc_X7 (hw _ is_X7)
  obtain ⟨c8, iS8, hKn8⟩ := u_known (C := RX8) (T := TX8) (N := 16) (n := 16) hw lc_X8 (hw _ is_X8)
  obtain ⟨c9, iS9, hKn9⟩ := u_known (C := RX9) (T := TX9) (N := 11) (n := 11) hw lc_X9 (hw _ is_X9)
  obtain ⟨c10, iS10, hKn10⟩ := u_known (C := RX10) (T := TX10) (N := 10) (n := 10) hw lc_X10 (hw _ is_X10)
  obtain ⟨c11, iS11, hKn11⟩ := u_known (C := RX11) (T := TX11) (N := 49) (n := 49) hw lc_X11 (hw _ is_X11)
  obtain ⟨dC, dI, hKc⟩ : ∃ (dC : Nat → ClassId) (dI : Nat → Nat → Nat), ∀ (k : Nat) (q : vw_C), vwCl[k]? = some q → u_Kn s q.1 q.2.1 q.2.2 (dC k) (dI k) := by
    refine ⟨fun k => if k = 0 then c0 else if k = 1 then c1 else if k = 2 then c2 else if k = 3 then c3 else if k = 4 then c4 else if k = 5 then c5 else if k = 6 then c6 else if k = 7 then c7 else if k = 8 then c8 else if k = 9 then c9 else if k = 10 then c10 else c11, fun k => if k = 0 then iS0 else if k = 1 then iS1 else if k = 2 then iS2 else if k = 3 then iS3 else if k = 4 then iS4 else if k = 5 then iS5 else if k = 6 then iS6 else if k = 7 then iS7 else if k = 8 then iS8 else if k = 9 then iS9 else if k = 10 then iS10 else iS11, ?_⟩
    intro k q hq
    match k, hq with
    | 0, hq => cases hq; exact hKn0
    | 1, hq => cases hq; exact hKn1
    | 2, hq => cases hq; exact hKn2
    | 3, hq => cases hq; exact hKn3
    | 4, hq => cases hq; exact hKn4
    | 5, hq => cases hq; exact hKn5
    | 6, hq => cases hq; exact hKn6
    | 7, hq => cases hq; exact hKn7
    | 8, hq => cases hq; exact hKn8
    | 9, hq => cases hq; exact hKn9
    | 10, hq => cases hq; exact hKn10
    | 11, hq => cases hq; exact hKn11
    | k + 12, hq => exact absurd hq (by simp [vwCl])
  obtain ⟨d0, kd0, cd0, g0, j0, q0⟩ := Cond.arrayClass_spec (hw _ ac_int)
  obtain ⟨d1, kd1, cd1, g1, j1, q1⟩ := Cond.arrayClass_spec (hw _ ac_long)
  obtain ⟨d2, kd2, cd2, g2, j2, q2⟩ := Cond.arrayClass_spec (hw _ ac_byte)
  obtain ⟨d3, kd3, cd3, g3, j3, q3⟩ := Cond.arrayClass_spec (hw _ ac_boolean)
  obtain ⟨d4, kd4, cd4, g4, j4, q4⟩ := ao_spec (t := .int) (hts (.arrayOver (.array .int)) (mT5 (List.mem_of_getElem? (i := 223) (by decide +kernel))))
  obtain ⟨d5, kd5, cd5, g5, j5, q5⟩ := ao_spec (t := .long) (hts (.arrayOver (.array .long)) (mT5 (List.mem_of_getElem? (i := 231) (by decide +kernel))))
  obtain ⟨cd6, d6, kd6, g6, -, j6, q6, r6⟩ := Cond.arrayOver_spec (n := "java/lang/String") (hts (.arrayOver (.object "java/lang/String")) (mT5 (List.mem_of_getElem? (i := 225) (by decide +kernel))))
  have hA : ∀ a : Nat, a < s.heap.size → ¬ (fun q : Nat => s.heap.size ≤ q) a := fun a h => Nat.not_le.mpr h
  obtain ⟨ad, had⟩ := Classical.axiomOfChoice (sg_all (A := fun q : Nat => s.heap.size ≤ q) hs hA)
  refine ⟨((dC, dI), fun k => if k = 0 then d0 else if k = 1 then d1 else if k = 2 then d2 else if k = 3 then d3 else if k = 4 then d4 else if k = 5 then d5 else d6, fun i => (ad i).1, fun i => (ad i).2, s.heap.size), rfl, hx, hb, hr, hml, hown, hw, ⟨hKc, ?_⟩, ⟨fun i hi => vk_R.of (A := #[Value.ref b]) (sr_all hts i hi) (had i hi).1, sn_all hts, sa_all hts⟩, ⟨fun i hi => ⟨(had i hi).2.1, (had i hi).2.2.1, (had i hi).2.2.2.1, (had i hi).2.2.2.2⟩, ?_, ?_⟩, hlocks, Nat.le_refl _⟩
  · intro k q hq
    match k, hq with
    | 0, hq => cases hq; exact ⟨arr_of j0 q0, g0⟩
    | 1, hq => cases hq; exact ⟨arr_of j1 q1, g1⟩
    | 2, hq => cases hq; exact ⟨arr_of j2 q2, g2⟩
    | 3, hq => cases hq; exact ⟨arr_of j3 q3, g3⟩
    | 4, hq => cases hq; exact ⟨arr_of j4 q4, g4⟩
    | 5, hq => cases hq; exact ⟨arr_of j5 q5, g5⟩
    | 6, hq => cases hq; exact ⟨arr_of j6 q6, ⟨kd6, cd6, j6, q6, g6, r6⟩⟩
    | k + 7, hq => exact absurd hq (by simp [tk])
  · exact va_Zof (hts (.laysStatic "java/lang/String" "COMPACT_STRINGS" "Z") (mT3 (List.mem_of_getElem? (i := 40) (by decide +kernel)))) (hw _ in_J0) (va_eqi (hs (.eq (.static "java/lang/String" "COMPACT_STRINGS" "Z") (.int 1)) (List.mem_of_getElem? (i := 4) (by decide +kernel)))) hA
  · exact va_Zqof (hts (.laysStatic "jdk/internal/util/Preconditions" "SIOOBE_FORMATTER" "Ljava/util/function/BiFunction;") (mT3 (List.mem_of_getElem? (i := 56) (by decide +kernel)))) (hw _ in_J3) (hs (.isRef (.static "jdk/internal/util/Preconditions" "SIOOBE_FORMATTER" "Ljava/util/function/BiFunction;")) (List.mem_of_getElem? (i := 5) (by decide +kernel))) hA
