/-! The memory of both objects as numbers: M.1 cell slot (ints), M.2 cell slot (longs); which cell is what is a table (sh_). Refs never change but one. -/
abbrev Mem : Type := (Nat → Nat → Int32) × (Nat → Nat → Int64)
def sI (M : Mem) (k j : Nat) (v : Int32) : Mem := (fun a i => if a = k ∧ i = j then v else M.1 a i, M.2)
def sL (M : Mem) (k j : Nat) (v : Int64) : Mem := (M.1, fun a i => if a = k ∧ i = j then v else M.2 a i)
abbrev ix (i : Int32) : Nat := i.toNatClampNeg
def inb (i : Int32) (n : Nat) : Bool := decide (¬ (i < 0 ∨ n ≤ i.toNatClampNeg))
theorem inb_in {i : Int32} {n : Nat} (h : inb i n = true) : vp_in i n := by
  unfold inb at h
  show ¬ (i < 0 ∨ n ≤ i.toNatClampNeg)
  exact of_decide_eq_true h
theorem br_if {c : Prop} [Decidable c] {α : Type} {A B : Option α} {r : α} (h : (if c then A else B) = some r) : (c → A = some r) ∧ (¬ c → B = some r) :=
  ⟨fun q => by rwa [if_pos q] at h, fun q => by rwa [if_neg q] at h⟩
theorem br_g {c : Prop} [Decidable c] {α : Type} {A : Option α} {r : α} (h : (if c then A else none) = some r) : c ∧ A = some r := by
  by_cases q : c
  · rw [if_pos q] at h; exact ⟨q, h⟩
  · rw [if_neg q] at h; cases h
theorem br_b {α β : Type} {x : Option α} {F : α → Option β} {r : β} (h : x.bind F = some r) : ∃ a, x = some a ∧ F a = some r := by
  cases x with
  | none => cases h
  | some a => exact ⟨a, rfl, h⟩
/-- a number gets a name -/
def nx {α β : Type} (a : α) (f : α → β) : β := f a
theorem nx_at {α β : Type} {a v : α} {F : α → β} {r : β} (h : v = a) (hf : nx a F = r) : F v = r := by subst h; exact hf
/-- more rounds than any loop has -/
def FU : Nat := 20010
def ush (x y : Int32) : Int32 := (x.toUInt32 >>> (y.toUInt32 &&& Int32.toUInt32 31)).toInt32
def irm (x y : Int32) : Int32 := x - x / y * y
def lrm (x y : Int64) : Int64 := x - x / y * y
def imax (x y : Int32) : Int32 := if x < y then y else x
def imin (x y : Int32) : Int32 := if y < x then y else x
def iabs (x : Int32) : Int32 := if 0 ≤ x then x else 0 - x
def labs (x : Int64) : Int64 := if 0 < x then x else -x
/-- where things lie: the classes' numbers and slots, the array classes, the constants' texts and their bytes, the first own cell -/
abbrev Ge : Type := va_G × (Nat → ClassId) × (Nat → Nat) × (Nat → Nat) × Nat
abbrev eB (E : Ge) : Nat := E.2.2.2.2
abbrev fr (E : Ge) : Nat → Prop := fun q => E.2.2.2.2 ≤ q
abbrev Sh : Type := Nat × Nat × List (Option Nat)
def tk (E : Ge) : List (ClassId × FieldType) := [(E.2.1 0, .int), (E.2.1 1, .long), (E.2.1 2, .byte), (E.2.1 3, .boolean), (E.2.1 4, .array .int), (E.2.1 5, .array .long), (E.2.1 6, .object "java/lang/String")]
def sh_ (b : Bool) (k : Nat) : Sh := match k with
  | 0 => (0, 10, [some 1, some 10, some 21, some 26, some 30, some 35, (if b then some 141 else none), some 36, some 40, some 45])
  | 1 => (0, 8, [none, some 2, some 3, some 4, some 5, some 6, some 7, none, none, some 8, some 9, none, none, none, none, none])
  | 2 => (1, 15, [])
  | 3 => (1, 15, [])
  | 4 => (1, 15, [])
  | 5 => (1, 15, [])
  | 6 => (1, 15, [])
  | 7 => (1, 15, [])
  | 8 => (1, 20, [])
  | 9 => (1, 20, [])
  | 10 => (0, 6, [some 11, none, some 12, none, none, none, none, none, none, none, none])
  | 11 => (3, 600, [])
  | 12 => (0, 8, [none, some 13, some 14, some 15, some 16, some 17, some 18, none, none, some 19, some 20, none, none, none, none, none])
  | 13 => (1, 15, [])
  | 14 => (1, 15, [])
  | 15 => (1, 15, [])
  | 16 => (1, 15, [])
  | 17 => (1, 15, [])
  | 18 => (1, 15, [])
  | 19 => (1, 20, [])
  | 20 => (1, 20, [])
  | 21 => (0, 0, [some 1, some 22, some 23, some 24, some 25, none, none, none, none])
  | 22 => (1, 400, [])
  | 23 => (1, 20, [])
  | 24 => (1, 20, [])
  | 25 => (1, 20, [])
  | 26 => (0, 2, [some 1, some 27, some 28, some 29, none, none])
  | 27 => (1, 105, [])
  | 28 => (1, 105, [])
  | 29 => (1, 105, [])
  | 30 => (0, 4, [some 1, some 26, some 31, some 32, some 33, none, some 34, none])
  | 31 => (2, 15, [])
  | 32 => (2, 15, [])
  | 33 => (2, 15, [])
  | 34 => (1, 3, [])
  | 35 => (0, 7, [some 26, none, none, none, none, none, none])
  | 36 => (0, 3, [some 21, some 37, some 38, some 39, none, none, none, none, none, none])
  | 37 => (1, 64, [])
  | 38 => (2, 256, [])
  | 39 => (2, 8, [])
  | 40 => (0, 9, [some 21, some 1, some 41, some 42, some 43, some 44, none, none, none, none, none])
  | 41 => (1, 20, [])
  | 42 => (1, 20, [])
  | 43 => (1, 180, [])
  | 44 => (1, 180, [])
  | 45 => (0, 5, [some 46, none])
  | 46 => (1, 360, [])
  | 47 => (0, 11, [some 48, none, none, none, none, none, some 49, some 52, some 55, some 58, some 61, some 64, some 67, some 70, some 73, some 74, some 75, some 76, some 77, none, none, none, none, some 78, some 79, some 80, some 81, none, none, none, some 82, some 83, some 84, none, none, some 85, some 86, none, none, some 87, some 88, some 97, some 98, some 99, none, none, none, some 100, none])
  | 48 => (3, 600, [])
  | 49 => (5, 2, [some 50, some 51])
  | 50 => (1, 15, [])
  | 51 => (1, 15, [])
  | 52 => (5, 2, [some 53, some 54])
  | 53 => (1, 15, [])
  | 54 => (1, 15, [])
  | 55 => (5, 2, [some 56, some 57])
  | 56 => (1, 15, [])
  | 57 => (1, 15, [])
  | 58 => (5, 2, [some 59, some 60])
  | 59 => (1, 15, [])
  | 60 => (1, 15, [])
  | 61 => (5, 2, [some 62, some 63])
  | 62 => (1, 15, [])
  | 63 => (1, 15, [])
  | 64 => (5, 2, [some 65, some 66])
  | 65 => (1, 15, [])
  | 66 => (1, 15, [])
  | 67 => (5, 2, [some 68, some 69])
  | 68 => (1, 20, [])
  | 69 => (1, 20, [])
  | 70 => (5, 2, [some 71, some 72])
  | 71 => (1, 20, [])
  | 72 => (1, 20, [])
  | 73 => (1, 2, [])
  | 74 => (1, 2, [])
  | 75 => (1, 2, [])
  | 76 => (1, 2, [])
  | 77 => (1, 2, [])
  | 78 => (7, 4, [some 0, some 1, some 2, some 3])
  | 79 => (1, 105, [])
  | 80 => (1, 105, [])
  | 81 => (1, 105, [])
  | 82 => (2, 5600, [])
  | 83 => (2, 5600, [])
  | 84 => (2, 5600, [])
  | 85 => (1, 10000, [])
  | 86 => (1, 10000, [])
  | 87 => (1, 20, [])
  | 88 => (6, 8, [some 89, some 90, some 91, some 92, some 93, some 94, some 95, some 96])
  | 89 => (2, 8, [])
  | 90 => (2, 8, [])
  | 91 => (2, 8, [])
  | 92 => (2, 8, [])
  | 93 => (2, 8, [])
  | 94 => (2, 8, [])
  | 95 => (2, 8, [])
  | 96 => (2, 8, [])
  | 97 => (2, 8, [])
  | 98 => (1, 15, [])
  | 99 => (1, 15, [])
  | 100 => (5, 40, [some 101, some 102, some 103, some 104, some 105, some 106, some 107, some 108, some 109, some 110, some 111, some 112, some 113, some 114, some 115, some 116, some 117, some 118, some 119, some 120, some 121, some 122, some 123, some 124, some 125, some 126, some 127, some 128, some 129, some 130, some 131, some 132, some 133, some 134, some 135, some 136, some 137, some 138, some 139, some 140])
  | 101 => (1, 9, [])
  | 102 => (1, 9, [])
  | 103 => (1, 9, [])
  | 104 => (1, 9, [])
  | 105 => (1, 9, [])
  | 106 => (1, 9, [])
  | 107 => (1, 9, [])
  | 108 => (1, 9, [])
  | 109 => (1, 9, [])
  | 110 => (1, 9, [])
  | 111 => (1, 9, [])
  | 112 => (1, 9, [])
  | 113 => (1, 9, [])
  | 114 => (1, 9, [])
  | 115 => (1, 9, [])
  | 116 => (1, 9, [])
  | 117 => (1, 9, [])
  | 118 => (1, 9, [])
  | 119 => (1, 9, [])
  | 120 => (1, 9, [])
  | 121 => (1, 9, [])
  | 122 => (1, 9, [])
  | 123 => (1, 9, [])
  | 124 => (1, 9, [])
  | 125 => (1, 9, [])
  | 126 => (1, 9, [])
  | 127 => (1, 9, [])
  | 128 => (1, 9, [])
  | 129 => (1, 9, [])
  | 130 => (1, 9, [])
  | 131 => (1, 9, [])
  | 132 => (1, 9, [])
  | 133 => (1, 9, [])
  | 134 => (1, 9, [])
  | 135 => (1, 9, [])
  | 136 => (1, 9, [])
  | 137 => (1, 9, [])
  | 138 => (1, 9, [])
  | 139 => (1, 9, [])
  | 140 => (1, 9, [])
  | 141 => (0, 1, [some 1, some 142, some 143, some 144, some 145, some 146, none, none, none, none, none])
  | 142 => (1, 10000, [])
  | 143 => (1, 10000, [])
  | 144 => (4, 10000, [])
  | 145 => (1, 10000, [])
  | 146 => (1, 5001, [])
  | _ => (9, 0, [])
def nn (b : Bool) : Nat := if b then 147 else 141
theorem nn_lt {k : Nat} (b : Bool) (h : k < 141) : k < nn b := by cases b <;> simp [nn] <;> omega
def nfL : List Nat := [9, 11, 6, 10, 8, 2, 11, 7, 16, 11, 10, 49]
def fkL : List (List Nat) := [[2, 2, 2, 2, 2, 0, 0, 0, 0], [2, 2, 2, 2, 2, 2, 0, 0, 0, 0, 0], [2, 2, 2, 2, 0, 0], [2, 2, 2, 2, 1, 0, 0, 0, 0, 0], [2, 2, 2, 2, 2, 0, 2, 0], [2, 0], [2, 0, 2, 0, 0, 0, 0, 0, 0, 0, 0], [2, 0, 0, 1, 1, 0, 0], [0, 2, 2, 2, 2, 2, 2, 0, 0, 2, 2, 0, 0, 0, 0, 0], [2, 2, 2, 2, 2, 2, 0, 0, 0, 0, 0], [2, 2, 2, 2, 2, 2, 2, 2, 2, 2], [2, 0, 0, 0, 0, 0, 2, 2, 2, 2, 2, 2, 2, 2, 2, 2, 2, 2, 2, 0, 0, 0, 0, 2, 2, 2, 2, 0, 0, 0, 2, 2, 2, 1, 1, 2, 2, 0, 0, 2, 2, 2, 2, 2, 0, 0, 0, 2, 0]]
def stOwn (i : Nat) : String := ([RX11, RX11, RX11, RX11, RX11, RX11, RX11, RX11, RX11, RX11, RX11, RX11, RX11, RX6, RX6, RX6, RX6, RX6, RX6, RX6, RX6, RX6, RX6, RX6, RX6, RX6] : List String).getD i ""
def stIdx (i : Nat) : Nat := ([57, 59, 61, 63, 180, 186, 188, 190, 201, 206, 210, 215, 220, 61, 70, 75, 80, 85, 90, 92, 94, 96, 108, 121, 123, 128] : List Nat).getD i 0
def stTx (i : Nat) : String := (["crow", "street", "side", "line", "by", "more", "over", "least", "near", "stretch", "voter", "place", "win", "near", "stretch", "voter", "place", "win", "crow", "street", "side", "line", "by", "more", "over", "least"] : List String).getD i ""
def stLen : List Nat := [4, 6, 4, 4, 2, 4, 4, 5, 4, 7, 5, 5, 3, 4, 7, 5, 5, 3, 4, 6, 4, 4, 2, 4, 4, 5]
def stByt : List (List Int32) := [[99, 114, 111, 119], [115, 116, 114, 101, 101, 116], [115, 105, 100, 101], [108, 105, 110, 101], [98, 121], [109, 111, 114, 101], [111, 118, 101, 114], [108, 101, 97, 115, 116], [110, 101, 97, 114], [115, 116, 114, 101, 116, 99, 104], [118, 111, 116, 101, 114], [112, 108, 97, 99, 101], [119, 105, 110], [110, 101, 97, 114], [115, 116, 114, 101, 116, 99, 104], [118, 111, 116, 101, 114], [112, 108, 97, 99, 101], [119, 105, 110], [99, 114, 111, 119], [115, 116, 114, 101, 101, 116], [115, 105, 100, 101], [108, 105, 110, 101], [98, 121], [109, 111, 114, 101], [111, 118, 101, 114], [108, 101, 97, 115, 116]]
def nests : List (String × Nat × MethodName) := [(RX10, 11, yX8_init), (RX10, 18, yX6_init), (RX10, 75, yX5_init), (RX2, 48, yX10_commonPart), (RX3, 109, yX10_commonPart), (RX4, 83, yX10_commonPart), (RX6, 17, yX8_init), (RX7, 49, yX10_commonPart)]
def nf (ci : Nat) : Nat := nfL.getD ci 0
def fk (ci j : Nat) : Nat := (fkL.getD ci []).getD j 2
def fv (E : Ge) (M : Mem) (k ci : Nat) (rs : List (Option Nat)) (j : Nat) : Value := match fk ci j with
  | 0 => .int (M.1 k j)
  | 1 => .long (M.2 k j)
  | _ => va_rf ((rs.getD j none).map (fun q => eB E + q))
def ce (E : Ge) (M : Mem) (k : Nat) (q : Sh) : va_E := match q.1 with
  | 0 => .inr (q.2.1, (List.range (nf q.2.1)).map (fv E M k q.2.1 q.2.2))
  | 1 => .inl (E.2.1 0, q.2.1, .inl (M.1 k))
  | 2 => .inl (E.2.1 1, q.2.1, .inr (.inl (M.2 k)))
  | 3 => .inl (E.2.1 2, q.2.1, .inl (M.1 k))
  | 4 => .inl (E.2.1 3, q.2.1, .inl (M.1 k))
  | 5 => .inl (E.2.1 4, q.2.1, .inr (.inr (.inr (.inr (fun j => (q.2.2.getD j none).map (fun z => eB E + z))))))
  | 6 => .inl (E.2.1 5, q.2.1, .inr (.inr (.inr (.inr (fun j => (q.2.2.getD j none).map (fun z => eB E + z))))))
  | _ => .inl (E.2.1 6, q.2.1, .inr (.inr (.inr (.inr (fun j => (q.2.2.getD j none).map (fun z => E.2.2.1 z))))))
def wd (E : Ge) (sh : Nat → Sh) (n : Nat) (M : Mem) : va_W := (List.range n).map (fun k => (eB E + k, ce E M k (sh k)))
def At (sh : Nat → Sh) (n k : Nat) (q : Sh) : Prop := sh k = q ∧ k < n
theorem wd_at {E : Ge} {sh : Nat → Sh} {n k : Nat} {q : Sh} {M : Mem} (h : At sh n k q) : (wd E sh n M)[k]? = some (eB E + k, ce E M k q) := by
  obtain ⟨h1, h2⟩ := h
  subst h1
  simp [wd, h2]
theorem wd_of {E : Ge} {sh : Nat → Sh} {n k : Nat} {M : Mem} {x : Nat × va_E} (h : (wd E sh n M)[k]? = some x) : k < n ∧ x = (eB E + k, ce E M k (sh k)) := by
  have hk : k < n := by
    have := (List.getElem?_eq_some_iff.mp h).1
    simpa [wd] using this
  rw [wd_at ⟨rfl, hk⟩] at h
  exact ⟨hk, (Option.some.inj h).symm⟩
/-- the old cells that are read: the constants' texts, String's static -/
def strF (E : Ge) (i : Nat) (U : State) (H : Heap) : Prop := va_O "java/lang/String" (E.2.2.1 i) (fr E) U H ∧ va_OF "java/lang/String" "coder" "B" (.int 0) (E.2.2.1 i) (fr E) U H ∧ va_OF "java/lang/String" "value" "[B" (.ref (E.2.2.2.1 i)) (E.2.2.1 i) (fr E) U H ∧ va_T .byte (E.2.2.2.1 i) (stLen.getD i 0) (fun j => .int ((stByt.getD i []).getD j 0)) (fr E) U H
def OW (E : Ge) (U : State) (H : Heap) : Prop := (∀ i, i < 26 → strF E i U H) ∧ va_Z "java/lang/String" "COMPACT_STRINGS" "Z" (.int 1) (fr E) U H ∧ va_Zq "jdk/internal/util/Preconditions" "SIOOBE_FORMATTER" "Ljava/util/function/BiFunction;" (fr E) U H
theorem OW.moved {E : Ge} {u U : State} {H : Heap} (hvm : u.vm.Alike U.vm) (h : OW E u H) : OW E U H :=
  ⟨fun i hi => ⟨va_O.moved hvm (h.1 i hi).1, va_OF.moved hvm (h.1 i hi).2.1, va_OF.moved hvm (h.1 i hi).2.2.1, va_T.moved hvm (h.1 i hi).2.2.2⟩, va_Z.moved hvm h.2.1, va_Zq.moved hvm h.2.2⟩
theorem OW.kept {E : Ge} {U : State} {H H1 : Heap} (h : OW E U H) (hq : ∀ a : Nat, a < H.size → ¬ fr E a → H1[a]? = H[a]?) : OW E U H1 :=
  ⟨fun i hi => ⟨(h.1 i hi).1.kept hq, (h.1 i hi).2.1.kept hq, (h.1 i hi).2.2.1.kept hq, (h.1 i hi).2.2.2.kept hq⟩, h.2.1.kept hq, h.2.2.kept hq⟩
def aoL : List FieldType := [.array .int, .array .long, .object "java/lang/String"]
theorem ao_vm {ty : FieldType} {u U : State} {A A' : Array Value} (hv : U.vm = u.vm) (h : (Cond.arrayOver ty).before A u = true) : (Cond.arrayOver ty).before A' U = true := by
  simp only [Cond.before, Cond.holds, Cond.value] at h ⊢
  rw [hv]
  exact h
theorem ao_warm {s U : State} {ty : FieldType} (hW : s.WarmedH U.vm) (h : va_Nw (.arrayOver ty) s) : va_Nw (.arrayOver ty) U :=
  ao_vm (u := s.setVm U.vm) (A := #[]) rfl ((Cond.arrayOver_setVmC (args := #[]) hW.alike ty).trans h)
/-- what the tables say that isn't among the good words: constants that are resolved, links inside the nest -/
def NV (E : Ge) (U : State) : Prop := (∀ i, i < 26 → vk_R (stOwn i) (stIdx i) (stTx i) (E.2.2.1 i) U) ∧ (∀ q ∈ nests, va_Nw (.methodLinkNest q.1 q.2.1 q.2.2 "MiddleSheet") U) ∧ ∀ ty ∈ aoL, va_Nw (.arrayOver ty) U
theorem NV.warm {E : Ge} {s U : State} (hW : s.WarmedH U.vm) (h : NV E s) : NV E U := ⟨fun i hi => vk_R.warm hW (h.1 i hi), fun q hq => va_Nw.warmM hW (h.2.1 q hq), fun ty ht => ao_warm hW (h.2.2 ty ht)⟩
theorem NV.same {E : Ge} {u U : State} (hv : U.vm = u.vm) (h : NV E u) : NV E U := ⟨fun i hi => vk_R.same hv (h.1 i hi), fun q hq => va_Nw.same rfl hv.symm (h.2.1 q hq), fun ty ht => ao_vm (A := #[]) hv (h.2.2 ty ht)⟩
/-- the world at a method's start -/
def WD (E : Ge) (sh : Nat → Sh) (n : Nat) (M : Mem) (U : State) : Prop := va_P E.1 vwCl (wd E sh n M) U.heap ∧ va_K E.1 vwCl (tk E) U ∧ NV E U ∧ OW E U U.heap ∧ U.heap.size = eB E + n
/-- the world within a method -/
def Rl (E : Ge) (sh : Nat → Sh) (n : Nat) (H0 : Heap) (M : Mem) (H : Heap) (locs : List Loc) : Prop := va_P E.1 vwCl (wd E sh n M) H ∧ va_S (fr E) H0 H locs ∧ H.size = eB E + n
theorem ce_same {E : Ge} {M M' : Mem} {k : Nat} (h1 : M'.1 k = M.1 k) (h2 : M'.2 k = M.2 k) (q : Sh) : ce E M' k q = ce E M k q := by
  have hf : ∀ ci rs, fv E M' k ci rs = fv E M k ci rs := by
    intro ci rs
    funext j
    unfold fv
    rw [h1, h2]
  unfold ce
  simp only [h1, h2, hf]
theorem Rl.set {E : Ge} {sh : Nat → Sh} {n : Nat} {H0 H H1 : Heap} {M M' : Mem} {locs : List Loc} {k sl : Nat} (h : Rl E sh n H0 M H locs) (hk : k < n) (z : H1.size = H.size) (oq : ∀ q, q ≠ eB E + k → H1[q]? = H[q]?)
    (hM : ∀ a, a ≠ k → M'.1 a = M.1 a ∧ M'.2 a = M.2 a) (hc : va_at E.1 vwCl (eB E + k, ce E M' k (sh k)) H1) : Rl E sh n H0 M' H1 (locs ++ [⟨eB E + k, sl⟩]) := by
  obtain ⟨hP, hS, hz⟩ := h
  refine ⟨fun i x hx => ?_, hS.put z oq (Nat.le_add_right _ _), by rw [z]; exact hz⟩
  obtain ⟨hi, rfl⟩ := wd_of hx
  by_cases e : i = k
  · subst e; exact hc
  · have hold := hP i _ (wd_at (E := E) (M := M) ⟨rfl, hi⟩)
    rw [ce_same (hM i e).1 (hM i e).2]
    exact hold.kept (oq _ (by simp; omega))
theorem sI_same {M : Mem} {k j : Nat} {v : Int32} (a : Nat) (h : a ≠ k) : (sI M k j v).1 a = M.1 a ∧ (sI M k j v).2 a = M.2 a := by
  refine ⟨?_, rfl⟩
  funext i
  simp [sI, h]
theorem sL_same {M : Mem} {k j : Nat} {v : Int64} (a : Nat) (h : a ≠ k) : (sL M k j v).1 a = M.1 a ∧ (sL M k j v).2 a = M.2 a := by
  refine ⟨rfl, ?_⟩
  funext i
  simp [sL, h]
section RW
variable {p : Program} {l : Launch} {e : Env} {R : Room} {s : State} {m : MethodId} {args : Array Value} {below : List Frame} {meth : Method} {c : Code} {H : Heap} {locs : List Loc} {cells slots : Nat} {Q : State → Prop}
variable {cc : ByteArray} {pc : Nat} {ls : Array Slot} {rest : List Value} {E : Ge} {sh : Nat → Sh} {n : Nat} {H0 : Heap} {M : Mem} {k len : Nat} {i x : Int32} {rs : List (Option Nat)}
theorem x_iald (hx : p.tables.exec = Jvm.exec) (hb : c.code = cc) (hK : va_K E.1 vwCl (tk E) s) (hR : Rl E sh n H0 M H locs) (hk : At sh n k (1, len, rs)) (hin : inb i len = true) (hdg : decode cc pc = .ok (.iaload, 1))
    (kk : W p l e R s m args below meth c H locs cells slots Q (F0 m (pc + 1) ls (.int (M.1 k (ix i)) :: rest))) : W p l e R s m args below meth c H locs cells slots Q (F0 m pc ls (.int i :: .ref (eB E + k) :: rest)) :=
  va_iald hx hb hK hR.1 k 0 (wd_at hk) rfl (inb_in hin) hdg kk
theorem x_bald (hx : p.tables.exec = Jvm.exec) (hb : c.code = cc) (hK : va_K E.1 vwCl (tk E) s) (hR : Rl E sh n H0 M H locs) (hk : At sh n k (3, len, rs)) (hin : inb i len = true) (hdg : decode cc pc = .ok (.baload, 1))
    (kk : W p l e R s m args below meth c H locs cells slots Q (F0 m (pc + 1) ls (.int (M.1 k (ix i)) :: rest))) : W p l e R s m args below meth c H locs cells slots Q (F0 m pc ls (.int i :: .ref (eB E + k) :: rest)) :=
  va_bald hx hb hK hR.1 k 2 (wd_at hk) rfl (inb_in hin) hdg kk
theorem x_zald (hx : p.tables.exec = Jvm.exec) (hb : c.code = cc) (hK : va_K E.1 vwCl (tk E) s) (hR : Rl E sh n H0 M H locs) (hk : At sh n k (4, len, rs)) (hin : inb i len = true) (hdg : decode cc pc = .ok (.baload, 1))
    (kk : W p l e R s m args below meth c H locs cells slots Q (F0 m (pc + 1) ls (.int (M.1 k (ix i)) :: rest))) : W p l e R s m args below meth c H locs cells slots Q (F0 m pc ls (.int i :: .ref (eB E + k) :: rest)) :=
  va_zald hx hb hK hR.1 k 3 (wd_at hk) rfl (inb_in hin) hdg kk
theorem x_lald (hx : p.tables.exec = Jvm.exec) (hb : c.code = cc) (hK : va_K E.1 vwCl (tk E) s) (hR : Rl E sh n H0 M H locs) (hk : At sh n k (2, len, rs)) (hin : inb i len = true) (hdg : decode cc pc = .ok (.laload, 1))
    (kk : W p l e R s m args below meth c H locs cells slots Q (F0 m (pc + 1) ls (.long (M.2 k (ix i)) :: rest))) : W p l e R s m args below meth c H locs cells slots Q (F0 m pc ls (.int i :: .ref (eB E + k) :: rest)) :=
  va_lald hx hb hK hR.1 k 1 (wd_at hk) rfl (inb_in hin) hdg kk
/-- a row of a grid: the ref stands in the table -/
theorem x_aald5 (hx : p.tables.exec = Jvm.exec) (hb : c.code = cc) (hK : va_K E.1 vwCl (tk E) s) (hR : Rl E sh n H0 M H locs) (hk : At sh n k (5, len, rs)) (hin : inb i len = true) {r : Nat} (hr : rs.getD (ix i) none = some r) (hdg : decode cc pc = .ok (.aaload, 1))
    (kk : W p l e R s m args below meth c H locs cells slots Q (F0 m (pc + 1) ls (.ref (eB E + r) :: rest))) : W p l e R s m args below meth c H locs cells slots Q (F0 m pc ls (.int i :: .ref (eB E + k) :: rest)) := by
  have hc : H[eB E + k]? = some (arrV (E.2.1 4) len (fun j => va_rf ((rs.getD j none).map (fun z => eB E + z)))) := hR.1 k _ (wd_at hk)
  have hi := inb_in hin
  have hlt : i.toNatClampNeg < len := Nat.not_le.mp fun q => hi (Or.inr q)
  refine W.aald (ty := .array .int) (v := .ref (eB E + r)) hx hb hc ((hK.2 4 _ rfl).1 len _) rfl (fun q => by cases q) (by rw [arrV_size]; exact hi) ?_ rfl rfl hdg kk
  rw [arrV_read _ _ hlt]
  show some (va_rf ((rs.getD (ix i) none).map _)) = _
  rw [hr]
  rfl
theorem x_aald6 (hx : p.tables.exec = Jvm.exec) (hb : c.code = cc) (hK : va_K E.1 vwCl (tk E) s) (hR : Rl E sh n H0 M H locs) (hk : At sh n k (6, len, rs)) (hin : inb i len = true) {r : Nat} (hr : rs.getD (ix i) none = some r) (hdg : decode cc pc = .ok (.aaload, 1))
    (kk : W p l e R s m args below meth c H locs cells slots Q (F0 m (pc + 1) ls (.ref (eB E + r) :: rest))) : W p l e R s m args below meth c H locs cells slots Q (F0 m pc ls (.int i :: .ref (eB E + k) :: rest)) := by
  have hc : H[eB E + k]? = some (arrV (E.2.1 5) len (fun j => va_rf ((rs.getD j none).map (fun z => eB E + z)))) := hR.1 k _ (wd_at hk)
  have hi := inb_in hin
  have hlt : i.toNatClampNeg < len := Nat.not_le.mp fun q => hi (Or.inr q)
  refine W.aald (ty := .array .long) (v := .ref (eB E + r)) hx hb hc ((hK.2 5 _ rfl).1 len _) rfl (fun q => by cases q) (by rw [arrV_size]; exact hi) ?_ rfl rfl hdg kk
  rw [arrV_read _ _ hlt]
  show some (va_rf ((rs.getD (ix i) none).map _)) = _
  rw [hr]
  rfl
theorem x_aald7 (hx : p.tables.exec = Jvm.exec) (hb : c.code = cc) (hK : va_K E.1 vwCl (tk E) s) (hR : Rl E sh n H0 M H locs) (hk : At sh n k (7, len, rs)) (hin : inb i len = true) {r : Nat} (hr : rs.getD (ix i) none = some r) (hdg : decode cc pc = .ok (.aaload, 1))
    (kk : W p l e R s m args below meth c H locs cells slots Q (F0 m (pc + 1) ls (.ref (E.2.2.1 r) :: rest))) : W p l e R s m args below meth c H locs cells slots Q (F0 m pc ls (.int i :: .ref (eB E + k) :: rest)) := by
  have hc : H[eB E + k]? = some (arrV (E.2.1 6) len (fun j => va_rf ((rs.getD j none).map (fun z => E.2.2.1 z)))) := hR.1 k _ (wd_at hk)
  have hi := inb_in hin
  have hlt : i.toNatClampNeg < len := Nat.not_le.mp fun q => hi (Or.inr q)
  refine W.aald (ty := .object "java/lang/String") (v := .ref (E.2.2.1 r)) hx hb hc ((hK.2 6 _ rfl).1 len _) rfl (fun q => by cases q) (by rw [arrV_size]; exact hi) ?_ rfl rfl hdg kk
  rw [arrV_read _ _ hlt]
  show some (va_rf ((rs.getD (ix i) none).map _)) = _
  rw [hr]
  rfl
theorem upd_row (M : Mem) (k j : Nat) (v : Int32) : (fun a => Value.int ((sI M k j v).1 k a)) = updV (fun a => Value.int (M.1 k a)) j (.int v) := by
  funext a
  by_cases h : a = j <;> simp [sI, updV, h]
theorem upd_rowL (M : Mem) (k j : Nat) (v : Int64) : (fun a => Value.long ((sL M k j v).2 k a)) = updV (fun a => Value.long (M.2 k a)) j (.long v) := by
  funext a
  by_cases h : a = j <;> simp [sL, updV, h]
theorem x_iast (hx : p.tables.exec = Jvm.exec) (hb : c.code = cc) (hK : va_K E.1 vwCl (tk E) s) (hR : Rl E sh n H0 M H locs) (hk : At sh n k (1, len, rs)) (hin : inb i len = true) (hdg : decode cc pc = .ok (.iastore, 1))
    (kk : ∀ (H1 : Heap) (locs1 : List Loc), Rl E sh n H0 (sI M k (ix i) x) H1 locs1 → W p l e R s m args below meth c H1 locs1 cells slots Q (F0 m (pc + 1) ls rest)) : W p l e R s m args below meth c H locs cells slots Q (F0 m pc ls (.int x :: .int i :: .ref (eB E + k) :: rest)) := by
  have hc : H[eB E + k]? = some (arrV (E.2.1 0) len (fun j => .int (M.1 k j))) := hR.1 k _ (wd_at hk)
  refine W.iast hx hb hc ((hK.2 0 _ rfl).1 len _) (fun q => by cases q) (by rw [arrV_size]; exact inb_in hin) rfl rfl hdg fun H1 e1 z oq => ?_
  refine kk H1 _ (hR.set hk.2 z oq sI_same ?_)
  rw [hk.1]
  show H1[eB E + k]? = some (arrV (E.2.1 0) len (fun j => .int ((sI M k (ix i) x).1 k j)))
  rw [e1, upd_row, arrV_store]
theorem x_last {x : Int64} (hx : p.tables.exec = Jvm.exec) (hb : c.code = cc) (hK : va_K E.1 vwCl (tk E) s) (hR : Rl E sh n H0 M H locs) (hk : At sh n k (2, len, rs)) (hin : inb i len = true) (hdg : decode cc pc = .ok (.lastore, 1))
    (kk : ∀ (H1 : Heap) (locs1 : List Loc), Rl E sh n H0 (sL M k (ix i) x) H1 locs1 → W p l e R s m args below meth c H1 locs1 cells slots Q (F0 m (pc + 1) ls rest)) : W p l e R s m args below meth c H locs cells slots Q (F0 m pc ls (.long x :: .int i :: .ref (eB E + k) :: rest)) := by
  have hc : H[eB E + k]? = some (arrV (E.2.1 1) len (fun j => .long (M.2 k j))) := hR.1 k _ (wd_at hk)
  refine W.last hx hb hc ((hK.2 1 _ rfl).1 len _) (fun q => by cases q) (by rw [arrV_size]; exact inb_in hin) rfl rfl hdg fun H1 e1 z oq => ?_
  refine kk H1 _ (hR.set hk.2 z oq sL_same ?_)
  rw [hk.1]
  show H1[eB E + k]? = some (arrV (E.2.1 1) len (fun j => .long ((sL M k (ix i) x).2 k j)))
  rw [e1, upd_rowL, arrV_store]
theorem x_bast (hx : p.tables.exec = Jvm.exec) (hb : c.code = cc) (hK : va_K E.1 vwCl (tk E) s) (hR : Rl E sh n H0 M H locs) (hk : At sh n k (3, len, rs)) (hin : inb i len = true) (hdg : decode cc pc = .ok (.bastore, 1))
    (kk : ∀ (H1 : Heap) (locs1 : List Loc), Rl E sh n H0 (sI M k (ix i) x.toInt8.toInt32) H1 locs1 → W p l e R s m args below meth c H1 locs1 cells slots Q (F0 m (pc + 1) ls rest)) : W p l e R s m args below meth c H locs cells slots Q (F0 m pc ls (.int x :: .int i :: .ref (eB E + k) :: rest)) := by
  have hc : H[eB E + k]? = some (arrV (E.2.1 2) len (fun j => .int (M.1 k j))) := hR.1 k _ (wd_at hk)
  refine W.bast hx hb hc ((hK.2 2 _ rfl).1 len _) (fun q => by cases q) (by rw [arrV_size]; exact inb_in hin) rfl rfl hdg fun H1 e1 z oq => ?_
  refine kk H1 _ (hR.set hk.2 z oq sI_same ?_)
  rw [hk.1]
  show H1[eB E + k]? = some (arrV (E.2.1 2) len (fun j => .int ((sI M k (ix i) x.toInt8.toInt32).1 k j)))
  rw [e1, upd_row, arrV_store]
  rfl
theorem x_zast (hx : p.tables.exec = Jvm.exec) (hb : c.code = cc) (hK : va_K E.1 vwCl (tk E) s) (hR : Rl E sh n H0 M H locs) (hk : At sh n k (4, len, rs)) (hin : inb i len = true) (hdg : decode cc pc = .ok (.bastore, 1))
    (kk : ∀ (H1 : Heap) (locs1 : List Loc), Rl E sh n H0 (sI M k (ix i) (x &&& 1)) H1 locs1 → W p l e R s m args below meth c H1 locs1 cells slots Q (F0 m (pc + 1) ls rest)) : W p l e R s m args below meth c H locs cells slots Q (F0 m pc ls (.int x :: .int i :: .ref (eB E + k) :: rest)) := by
  have hc : H[eB E + k]? = some (arrV (E.2.1 3) len (fun j => .int (M.1 k j))) := hR.1 k _ (wd_at hk)
  refine W.zast hx hb hc ((hK.2 3 _ rfl).1 len _) (fun q => by cases q) (by rw [arrV_size]; exact inb_in hin) rfl rfl hdg fun H1 e1 z oq => ?_
  refine kk H1 _ (hR.set hk.2 z oq sI_same ?_)
  rw [hk.1]
  show H1[eB E + k]? = some (arrV (E.2.1 3) len (fun j => .int ((sI M k (ix i) (x &&& 1)).1 k j)))
  rw [e1, upd_row, arrV_store]
  rfl
theorem x_alen {tg : Nat} (hx : p.tables.exec = Jvm.exec) (hb : c.code = cc) (hK : va_K E.1 vwCl (tk E) s) (hR : Rl E sh n H0 M H locs) (hk : At sh n k (tg, len, rs)) (ht : tg = 1 ∨ tg = 2) (hdg : decode cc pc = .ok (.arraylength, 1))
    (kk : W p l e R s m args below meth c H locs cells slots Q (F0 m (pc + 1) ls (.int (nI len) :: rest))) : W p l e R s m args below meth c H locs cells slots Q (F0 m pc ls (.ref (eB E + k) :: rest)) := by
  rcases ht with rfl | rfl
  · exact va_alen hx hb hK hR.1 k 0 (wd_at hk) rfl rfl hdg kk
  · exact va_alen hx hb hK hR.1 k 1 (wd_at hk) rfl rfl hdg kk
end RW
theorem z_0 (b : Bool) : At (sh_ b) (nn b) 0 (0, 10, [some 1, some 10, some 21, some 26, some 30, some 35, (if b then some 141 else none), some 36, some 40, some 45]) := ⟨rfl, nn_lt b (by decide)⟩
theorem z_1 (b : Bool) : At (sh_ b) (nn b) 1 (0, 8, [none, some 2, some 3, some 4, some 5, some 6, some 7, none, none, some 8, some 9, none, none, none, none, none]) := ⟨rfl, nn_lt b (by decide)⟩
theorem z_2 (b : Bool) : At (sh_ b) (nn b) 2 (1, 15, []) := ⟨rfl, nn_lt b (by decide)⟩
theorem z_3 (b : Bool) : At (sh_ b) (nn b) 3 (1, 15, []) := ⟨rfl, nn_lt b (by decide)⟩
theorem z_4 (b : Bool) : At (sh_ b) (nn b) 4 (1, 15, []) := ⟨rfl, nn_lt b (by decide)⟩
theorem z_5 (b : Bool) : At (sh_ b) (nn b) 5 (1, 15, []) := ⟨rfl, nn_lt b (by decide)⟩
theorem z_6 (b : Bool) : At (sh_ b) (nn b) 6 (1, 15, []) := ⟨rfl, nn_lt b (by decide)⟩
theorem z_7 (b : Bool) : At (sh_ b) (nn b) 7 (1, 15, []) := ⟨rfl, nn_lt b (by decide)⟩
theorem z_8 (b : Bool) : At (sh_ b) (nn b) 8 (1, 20, []) := ⟨rfl, nn_lt b (by decide)⟩
theorem z_9 (b : Bool) : At (sh_ b) (nn b) 9 (1, 20, []) := ⟨rfl, nn_lt b (by decide)⟩
theorem z_10 (b : Bool) : At (sh_ b) (nn b) 10 (0, 6, [some 11, none, some 12, none, none, none, none, none, none, none, none]) := ⟨rfl, nn_lt b (by decide)⟩
theorem z_11 (b : Bool) : At (sh_ b) (nn b) 11 (3, 600, []) := ⟨rfl, nn_lt b (by decide)⟩
theorem z_12 (b : Bool) : At (sh_ b) (nn b) 12 (0, 8, [none, some 13, some 14, some 15, some 16, some 17, some 18, none, none, some 19, some 20, none, none, none, none, none]) := ⟨rfl, nn_lt b (by decide)⟩
theorem z_13 (b : Bool) : At (sh_ b) (nn b) 13 (1, 15, []) := ⟨rfl, nn_lt b (by decide)⟩
theorem z_14 (b : Bool) : At (sh_ b) (nn b) 14 (1, 15, []) := ⟨rfl, nn_lt b (by decide)⟩
theorem z_15 (b : Bool) : At (sh_ b) (nn b) 15 (1, 15, []) := ⟨rfl, nn_lt b (by decide)⟩
theorem z_16 (b : Bool) : At (sh_ b) (nn b) 16 (1, 15, []) := ⟨rfl, nn_lt b (by decide)⟩
theorem z_17 (b : Bool) : At (sh_ b) (nn b) 17 (1, 15, []) := ⟨rfl, nn_lt b (by decide)⟩
theorem z_18 (b : Bool) : At (sh_ b) (nn b) 18 (1, 15, []) := ⟨rfl, nn_lt b (by decide)⟩
theorem z_19 (b : Bool) : At (sh_ b) (nn b) 19 (1, 20, []) := ⟨rfl, nn_lt b (by decide)⟩
theorem z_20 (b : Bool) : At (sh_ b) (nn b) 20 (1, 20, []) := ⟨rfl, nn_lt b (by decide)⟩
theorem z_21 (b : Bool) : At (sh_ b) (nn b) 21 (0, 0, [some 1, some 22, some 23, some 24, some 25, none, none, none, none]) := ⟨rfl, nn_lt b (by decide)⟩
theorem z_22 (b : Bool) : At (sh_ b) (nn b) 22 (1, 400, []) := ⟨rfl, nn_lt b (by decide)⟩
theorem z_23 (b : Bool) : At (sh_ b) (nn b) 23 (1, 20, []) := ⟨rfl, nn_lt b (by decide)⟩
theorem z_24 (b : Bool) : At (sh_ b) (nn b) 24 (1, 20, []) := ⟨rfl, nn_lt b (by decide)⟩
theorem z_25 (b : Bool) : At (sh_ b) (nn b) 25 (1, 20, []) := ⟨rfl, nn_lt b (by decide)⟩
theorem z_26 (b : Bool) : At (sh_ b) (nn b) 26 (0, 2, [some 1, some 27, some 28, some 29, none, none]) := ⟨rfl, nn_lt b (by decide)⟩
theorem z_27 (b : Bool) : At (sh_ b) (nn b) 27 (1, 105, []) := ⟨rfl, nn_lt b (by decide)⟩
theorem z_28 (b : Bool) : At (sh_ b) (nn b) 28 (1, 105, []) := ⟨rfl, nn_lt b (by decide)⟩
theorem z_29 (b : Bool) : At (sh_ b) (nn b) 29 (1, 105, []) := ⟨rfl, nn_lt b (by decide)⟩
theorem z_30 (b : Bool) : At (sh_ b) (nn b) 30 (0, 4, [some 1, some 26, some 31, some 32, some 33, none, some 34, none]) := ⟨rfl, nn_lt b (by decide)⟩
theorem z_31 (b : Bool) : At (sh_ b) (nn b) 31 (2, 15, []) := ⟨rfl, nn_lt b (by decide)⟩
theorem z_32 (b : Bool) : At (sh_ b) (nn b) 32 (2, 15, []) := ⟨rfl, nn_lt b (by decide)⟩
theorem z_33 (b : Bool) : At (sh_ b) (nn b) 33 (2, 15, []) := ⟨rfl, nn_lt b (by decide)⟩
theorem z_34 (b : Bool) : At (sh_ b) (nn b) 34 (1, 3, []) := ⟨rfl, nn_lt b (by decide)⟩
theorem z_35 (b : Bool) : At (sh_ b) (nn b) 35 (0, 7, [some 26, none, none, none, none, none, none]) := ⟨rfl, nn_lt b (by decide)⟩
theorem z_36 (b : Bool) : At (sh_ b) (nn b) 36 (0, 3, [some 21, some 37, some 38, some 39, none, none, none, none, none, none]) := ⟨rfl, nn_lt b (by decide)⟩
theorem z_37 (b : Bool) : At (sh_ b) (nn b) 37 (1, 64, []) := ⟨rfl, nn_lt b (by decide)⟩
theorem z_38 (b : Bool) : At (sh_ b) (nn b) 38 (2, 256, []) := ⟨rfl, nn_lt b (by decide)⟩
theorem z_39 (b : Bool) : At (sh_ b) (nn b) 39 (2, 8, []) := ⟨rfl, nn_lt b (by decide)⟩
theorem z_40 (b : Bool) : At (sh_ b) (nn b) 40 (0, 9, [some 21, some 1, some 41, some 42, some 43, some 44, none, none, none, none, none]) := ⟨rfl, nn_lt b (by decide)⟩
theorem z_41 (b : Bool) : At (sh_ b) (nn b) 41 (1, 20, []) := ⟨rfl, nn_lt b (by decide)⟩
theorem z_42 (b : Bool) : At (sh_ b) (nn b) 42 (1, 20, []) := ⟨rfl, nn_lt b (by decide)⟩
theorem z_43 (b : Bool) : At (sh_ b) (nn b) 43 (1, 180, []) := ⟨rfl, nn_lt b (by decide)⟩
theorem z_44 (b : Bool) : At (sh_ b) (nn b) 44 (1, 180, []) := ⟨rfl, nn_lt b (by decide)⟩
theorem z_45 (b : Bool) : At (sh_ b) (nn b) 45 (0, 5, [some 46, none]) := ⟨rfl, nn_lt b (by decide)⟩
theorem z_46 (b : Bool) : At (sh_ b) (nn b) 46 (1, 360, []) := ⟨rfl, nn_lt b (by decide)⟩
theorem z_47 (b : Bool) : At (sh_ b) (nn b) 47 (0, 11, [some 48, none, none, none, none, none, some 49, some 52, some 55, some 58, some 61, some 64, some 67, some 70, some 73, some 74, some 75, some 76, some 77, none, none, none, none, some 78, some 79, some 80, some 81, none, none, none, some 82, some 83, some 84, none, none, some 85, some 86, none, none, some 87, some 88, some 97, some 98, some 99, none, none, none, some 100, none]) := ⟨rfl, nn_lt b (by decide)⟩
theorem z_48 (b : Bool) : At (sh_ b) (nn b) 48 (3, 600, []) := ⟨rfl, nn_lt b (by decide)⟩
theorem z_49 (b : Bool) : At (sh_ b) (nn b) 49 (5, 2, [some 50, some 51]) := ⟨rfl, nn_lt b (by decide)⟩
theorem z_50 (b : Bool) : At (sh_ b) (nn b) 50 (1, 15, []) := ⟨rfl, nn_lt b (by decide)⟩
theorem z_51 (b : Bool) : At (sh_ b) (nn b) 51 (1, 15, []) := ⟨rfl, nn_lt b (by decide)⟩
theorem z_52 (b : Bool) : At (sh_ b) (nn b) 52 (5, 2, [some 53, some 54]) := ⟨rfl, nn_lt b (by decide)⟩
theorem z_53 (b : Bool) : At (sh_ b) (nn b) 53 (1, 15, []) := ⟨rfl, nn_lt b (by decide)⟩
theorem z_54 (b : Bool) : At (sh_ b) (nn b) 54 (1, 15, []) := ⟨rfl, nn_lt b (by decide)⟩
theorem z_55 (b : Bool) : At (sh_ b) (nn b) 55 (5, 2, [some 56, some 57]) := ⟨rfl, nn_lt b (by decide)⟩
theorem z_56 (b : Bool) : At (sh_ b) (nn b) 56 (1, 15, []) := ⟨rfl, nn_lt b (by decide)⟩
theorem z_57 (b : Bool) : At (sh_ b) (nn b) 57 (1, 15, []) := ⟨rfl, nn_lt b (by decide)⟩
theorem z_58 (b : Bool) : At (sh_ b) (nn b) 58 (5, 2, [some 59, some 60]) := ⟨rfl, nn_lt b (by decide)⟩
theorem z_59 (b : Bool) : At (sh_ b) (nn b) 59 (1, 15, []) := ⟨rfl, nn_lt b (by decide)⟩
theorem z_60 (b : Bool) : At (sh_ b) (nn b) 60 (1, 15, []) := ⟨rfl, nn_lt b (by decide)⟩
theorem z_61 (b : Bool) : At (sh_ b) (nn b) 61 (5, 2, [some 62, some 63]) := ⟨rfl, nn_lt b (by decide)⟩
theorem z_62 (b : Bool) : At (sh_ b) (nn b) 62 (1, 15, []) := ⟨rfl, nn_lt b (by decide)⟩
theorem z_63 (b : Bool) : At (sh_ b) (nn b) 63 (1, 15, []) := ⟨rfl, nn_lt b (by decide)⟩
theorem z_64 (b : Bool) : At (sh_ b) (nn b) 64 (5, 2, [some 65, some 66]) := ⟨rfl, nn_lt b (by decide)⟩
theorem z_65 (b : Bool) : At (sh_ b) (nn b) 65 (1, 15, []) := ⟨rfl, nn_lt b (by decide)⟩
theorem z_66 (b : Bool) : At (sh_ b) (nn b) 66 (1, 15, []) := ⟨rfl, nn_lt b (by decide)⟩
theorem z_67 (b : Bool) : At (sh_ b) (nn b) 67 (5, 2, [some 68, some 69]) := ⟨rfl, nn_lt b (by decide)⟩
theorem z_68 (b : Bool) : At (sh_ b) (nn b) 68 (1, 20, []) := ⟨rfl, nn_lt b (by decide)⟩
theorem z_69 (b : Bool) : At (sh_ b) (nn b) 69 (1, 20, []) := ⟨rfl, nn_lt b (by decide)⟩
theorem z_70 (b : Bool) : At (sh_ b) (nn b) 70 (5, 2, [some 71, some 72]) := ⟨rfl, nn_lt b (by decide)⟩
theorem z_71 (b : Bool) : At (sh_ b) (nn b) 71 (1, 20, []) := ⟨rfl, nn_lt b (by decide)⟩
theorem z_72 (b : Bool) : At (sh_ b) (nn b) 72 (1, 20, []) := ⟨rfl, nn_lt b (by decide)⟩
theorem z_73 (b : Bool) : At (sh_ b) (nn b) 73 (1, 2, []) := ⟨rfl, nn_lt b (by decide)⟩
theorem z_74 (b : Bool) : At (sh_ b) (nn b) 74 (1, 2, []) := ⟨rfl, nn_lt b (by decide)⟩
theorem z_75 (b : Bool) : At (sh_ b) (nn b) 75 (1, 2, []) := ⟨rfl, nn_lt b (by decide)⟩
theorem z_76 (b : Bool) : At (sh_ b) (nn b) 76 (1, 2, []) := ⟨rfl, nn_lt b (by decide)⟩
theorem z_77 (b : Bool) : At (sh_ b) (nn b) 77 (1, 2, []) := ⟨rfl, nn_lt b (by decide)⟩
theorem z_78 (b : Bool) : At (sh_ b) (nn b) 78 (7, 4, [some 0, some 1, some 2, some 3]) := ⟨rfl, nn_lt b (by decide)⟩
theorem z_79 (b : Bool) : At (sh_ b) (nn b) 79 (1, 105, []) := ⟨rfl, nn_lt b (by decide)⟩
theorem z_80 (b : Bool) : At (sh_ b) (nn b) 80 (1, 105, []) := ⟨rfl, nn_lt b (by decide)⟩
theorem z_81 (b : Bool) : At (sh_ b) (nn b) 81 (1, 105, []) := ⟨rfl, nn_lt b (by decide)⟩
theorem z_82 (b : Bool) : At (sh_ b) (nn b) 82 (2, 5600, []) := ⟨rfl, nn_lt b (by decide)⟩
theorem z_83 (b : Bool) : At (sh_ b) (nn b) 83 (2, 5600, []) := ⟨rfl, nn_lt b (by decide)⟩
theorem z_84 (b : Bool) : At (sh_ b) (nn b) 84 (2, 5600, []) := ⟨rfl, nn_lt b (by decide)⟩
theorem z_85 (b : Bool) : At (sh_ b) (nn b) 85 (1, 10000, []) := ⟨rfl, nn_lt b (by decide)⟩
theorem z_86 (b : Bool) : At (sh_ b) (nn b) 86 (1, 10000, []) := ⟨rfl, nn_lt b (by decide)⟩
theorem z_87 (b : Bool) : At (sh_ b) (nn b) 87 (1, 20, []) := ⟨rfl, nn_lt b (by decide)⟩
theorem z_88 (b : Bool) : At (sh_ b) (nn b) 88 (6, 8, [some 89, some 90, some 91, some 92, some 93, some 94, some 95, some 96]) := ⟨rfl, nn_lt b (by decide)⟩
theorem z_89 (b : Bool) : At (sh_ b) (nn b) 89 (2, 8, []) := ⟨rfl, nn_lt b (by decide)⟩
theorem z_90 (b : Bool) : At (sh_ b) (nn b) 90 (2, 8, []) := ⟨rfl, nn_lt b (by decide)⟩
theorem z_91 (b : Bool) : At (sh_ b) (nn b) 91 (2, 8, []) := ⟨rfl, nn_lt b (by decide)⟩
theorem z_92 (b : Bool) : At (sh_ b) (nn b) 92 (2, 8, []) := ⟨rfl, nn_lt b (by decide)⟩
theorem z_93 (b : Bool) : At (sh_ b) (nn b) 93 (2, 8, []) := ⟨rfl, nn_lt b (by decide)⟩
theorem z_94 (b : Bool) : At (sh_ b) (nn b) 94 (2, 8, []) := ⟨rfl, nn_lt b (by decide)⟩
theorem z_95 (b : Bool) : At (sh_ b) (nn b) 95 (2, 8, []) := ⟨rfl, nn_lt b (by decide)⟩
theorem z_96 (b : Bool) : At (sh_ b) (nn b) 96 (2, 8, []) := ⟨rfl, nn_lt b (by decide)⟩
theorem z_97 (b : Bool) : At (sh_ b) (nn b) 97 (2, 8, []) := ⟨rfl, nn_lt b (by decide)⟩
theorem z_98 (b : Bool) : At (sh_ b) (nn b) 98 (1, 15, []) := ⟨rfl, nn_lt b (by decide)⟩
theorem z_99 (b : Bool) : At (sh_ b) (nn b) 99 (1, 15, []) := ⟨rfl, nn_lt b (by decide)⟩
theorem z_100 (b : Bool) : At (sh_ b) (nn b) 100 (5, 40, [some 101, some 102, some 103, some 104, some 105, some 106, some 107, some 108, some 109, some 110, some 111, some 112, some 113, some 114, some 115, some 116, some 117, some 118, some 119, some 120, some 121, some 122, some 123, some 124, some 125, some 126, some 127, some 128, some 129, some 130, some 131, some 132, some 133, some 134, some 135, some 136, some 137, some 138, some 139, some 140]) := ⟨rfl, nn_lt b (by decide)⟩
theorem z_101 (b : Bool) : At (sh_ b) (nn b) 101 (1, 9, []) := ⟨rfl, nn_lt b (by decide)⟩
theorem z_102 (b : Bool) : At (sh_ b) (nn b) 102 (1, 9, []) := ⟨rfl, nn_lt b (by decide)⟩
theorem z_103 (b : Bool) : At (sh_ b) (nn b) 103 (1, 9, []) := ⟨rfl, nn_lt b (by decide)⟩
theorem z_104 (b : Bool) : At (sh_ b) (nn b) 104 (1, 9, []) := ⟨rfl, nn_lt b (by decide)⟩
theorem z_105 (b : Bool) : At (sh_ b) (nn b) 105 (1, 9, []) := ⟨rfl, nn_lt b (by decide)⟩
theorem z_106 (b : Bool) : At (sh_ b) (nn b) 106 (1, 9, []) := ⟨rfl, nn_lt b (by decide)⟩
theorem z_107 (b : Bool) : At (sh_ b) (nn b) 107 (1, 9, []) := ⟨rfl, nn_lt b (by decide)⟩
theorem z_108 (b : Bool) : At (sh_ b) (nn b) 108 (1, 9, []) := ⟨rfl, nn_lt b (by decide)⟩
theorem z_109 (b : Bool) : At (sh_ b) (nn b) 109 (1, 9, []) := ⟨rfl, nn_lt b (by decide)⟩
theorem z_110 (b : Bool) : At (sh_ b) (nn b) 110 (1, 9, []) := ⟨rfl, nn_lt b (by decide)⟩
theorem z_111 (b : Bool) : At (sh_ b) (nn b) 111 (1, 9, []) := ⟨rfl, nn_lt b (by decide)⟩
theorem z_112 (b : Bool) : At (sh_ b) (nn b) 112 (1, 9, []) := ⟨rfl, nn_lt b (by decide)⟩
theorem z_113 (b : Bool) : At (sh_ b) (nn b) 113 (1, 9, []) := ⟨rfl, nn_lt b (by decide)⟩
theorem z_114 (b : Bool) : At (sh_ b) (nn b) 114 (1, 9, []) := ⟨rfl, nn_lt b (by decide)⟩
theorem z_115 (b : Bool) : At (sh_ b) (nn b) 115 (1, 9, []) := ⟨rfl, nn_lt b (by decide)⟩
theorem z_116 (b : Bool) : At (sh_ b) (nn b) 116 (1, 9, []) := ⟨rfl, nn_lt b (by decide)⟩
theorem z_117 (b : Bool) : At (sh_ b) (nn b) 117 (1, 9, []) := ⟨rfl, nn_lt b (by decide)⟩
theorem z_118 (b : Bool) : At (sh_ b) (nn b) 118 (1, 9, []) := ⟨rfl, nn_lt b (by decide)⟩
theorem z_119 (b : Bool) : At (sh_ b) (nn b) 119 (1, 9, []) := ⟨rfl, nn_lt b (by decide)⟩
theorem z_120 (b : Bool) : At (sh_ b) (nn b) 120 (1, 9, []) := ⟨rfl, nn_lt b (by decide)⟩
theorem z_121 (b : Bool) : At (sh_ b) (nn b) 121 (1, 9, []) := ⟨rfl, nn_lt b (by decide)⟩
theorem z_122 (b : Bool) : At (sh_ b) (nn b) 122 (1, 9, []) := ⟨rfl, nn_lt b (by decide)⟩
theorem z_123 (b : Bool) : At (sh_ b) (nn b) 123 (1, 9, []) := ⟨rfl, nn_lt b (by decide)⟩
theorem z_124 (b : Bool) : At (sh_ b) (nn b) 124 (1, 9, []) := ⟨rfl, nn_lt b (by decide)⟩
theorem z_125 (b : Bool) : At (sh_ b) (nn b) 125 (1, 9, []) := ⟨rfl, nn_lt b (by decide)⟩
theorem z_126 (b : Bool) : At (sh_ b) (nn b) 126 (1, 9, []) := ⟨rfl, nn_lt b (by decide)⟩
theorem z_127 (b : Bool) : At (sh_ b) (nn b) 127 (1, 9, []) := ⟨rfl, nn_lt b (by decide)⟩
theorem z_128 (b : Bool) : At (sh_ b) (nn b) 128 (1, 9, []) := ⟨rfl, nn_lt b (by decide)⟩
theorem z_129 (b : Bool) : At (sh_ b) (nn b) 129 (1, 9, []) := ⟨rfl, nn_lt b (by decide)⟩
theorem z_130 (b : Bool) : At (sh_ b) (nn b) 130 (1, 9, []) := ⟨rfl, nn_lt b (by decide)⟩
theorem z_131 (b : Bool) : At (sh_ b) (nn b) 131 (1, 9, []) := ⟨rfl, nn_lt b (by decide)⟩
theorem z_132 (b : Bool) : At (sh_ b) (nn b) 132 (1, 9, []) := ⟨rfl, nn_lt b (by decide)⟩
theorem z_133 (b : Bool) : At (sh_ b) (nn b) 133 (1, 9, []) := ⟨rfl, nn_lt b (by decide)⟩
theorem z_134 (b : Bool) : At (sh_ b) (nn b) 134 (1, 9, []) := ⟨rfl, nn_lt b (by decide)⟩
theorem z_135 (b : Bool) : At (sh_ b) (nn b) 135 (1, 9, []) := ⟨rfl, nn_lt b (by decide)⟩
theorem z_136 (b : Bool) : At (sh_ b) (nn b) 136 (1, 9, []) := ⟨rfl, nn_lt b (by decide)⟩
theorem z_137 (b : Bool) : At (sh_ b) (nn b) 137 (1, 9, []) := ⟨rfl, nn_lt b (by decide)⟩
theorem z_138 (b : Bool) : At (sh_ b) (nn b) 138 (1, 9, []) := ⟨rfl, nn_lt b (by decide)⟩
theorem z_139 (b : Bool) : At (sh_ b) (nn b) 139 (1, 9, []) := ⟨rfl, nn_lt b (by decide)⟩
theorem z_140 (b : Bool) : At (sh_ b) (nn b) 140 (1, 9, []) := ⟨rfl, nn_lt b (by decide)⟩
theorem z_141 : At (sh_ true) (nn true) 141 (0, 1, [some 1, some 142, some 143, some 144, some 145, some 146, none, none, none, none, none]) := ⟨rfl, by decide⟩
theorem z_142 : At (sh_ true) (nn true) 142 (1, 10000, []) := ⟨rfl, by decide⟩
theorem z_143 : At (sh_ true) (nn true) 143 (1, 10000, []) := ⟨rfl, by decide⟩
theorem z_144 : At (sh_ true) (nn true) 144 (4, 10000, []) := ⟨rfl, by decide⟩
theorem z_145 : At (sh_ true) (nn true) 145 (1, 10000, []) := ⟨rfl, by decide⟩
theorem z_146 : At (sh_ true) (nn true) 146 (1, 5001, []) := ⟨rfl, by decide⟩
