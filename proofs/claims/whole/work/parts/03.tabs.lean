/-! WHAT THE TABLES SAY, row by row: instructions, fields, calls -/
def Dec (cc : ByteArray) (pc : Nat) (ins : Instr) (n nx : Nat) : Prop := decode cc pc = .ok (ins, n) ∧ pc + n = nx
def Jmp (cc : ByteArray) (pc : Nat) (ins : Instr) (off : Int) (nx tgt : Nat) : Prop := decode cc pc = .ok (ins, 3) ∧ pc + 3 = nx ∧ (pc : Int) + off = (tgt : Int)
/-- a field's words: the class's own, and the link -/
def FLk (own : String) (idx ci k : Nat) (ref : String) (T : u_T) (C : String) (N : Nat) : Prop := vwCl[ci]? = some (C, T, N) ∧ k < N ∧ (∀ w ∈ u_ws C T N, w ∈ TB) ∧ Cond.fieldLink own idx ref (T k).2.1 (T k).2.2.1 ∈ TB ∧ (T k).1 = ref
/-- what a class's table says of its fields' types and names, for putfield -/
def FTy (T : u_T) (N : Nat) (ty : Nat → FieldType) : Prop := (∀ k, k < N → parseFieldDescriptor (T k).2.2.1 = some (ty k)) ∧ ∀ a, a < N → ∀ b, b < N → a ≠ b → (T a).2.1 ≠ (T b).2.1
abbrev MI : Type := MethodName × ByteArray × Nat × Option FieldType × Room
theorem in_TB {w : Cond} (n : Nat) (h : lw_tbl[n]? = some w) (hg : goodWord w = true) : w ∈ TB := List.mem_filter.mpr ⟨List.mem_of_getElem? h, hg⟩
/-- what the tables say of a call -/
def CWb (M : MI) (n : Nat) : Prop := Cond.initialized M.1.cls ∈ TB ∧ Cond.code M.1 M.2.1 M.2.2.1 M.2.2.2.1 ∈ TB ∧ (M.1.cls ≠ "java/lang/invoke/MethodHandle" ∧ M.1.cls ≠ "java/lang/invoke/VarHandle") ∧ (parseMethodDescriptor M.1.desc).map (fun d => d.parameters.length) = some n
def CWV (own : String) (idx : Nat) (M : MI) (n : Nat) : Prop := CWb M n ∧ Cond.methodLink own idx M.1 ∈ TB ∧ Cond.instanceMethod M.1 ∈ TB ∧ Cond.selects M.1.cls M.1 M.1 ∈ TB
def CWS (own : String) (idx : Nat) (M : MI) (n : Nat) : Prop := CWb M n ∧ Cond.methodLink own idx M.1 ∈ TB ∧ Cond.static M.1 ∈ TB
/-- the words of calls of a nest mate's private methods: they are handed on with the world -/
def nestW : List Cond := [.methodLinkNest RX1 103 yX9_cellOf "ShelfDrives", .methodLinkNest RX3 45 yX9_cellOf "ShelfDrives", .methodLinkNest RX4 194 yX9_cellOf "ShelfDrives", .methodLinkNest RX5 87 yX9_cellOf "ShelfDrives", .methodLinkNest RX7 73 yX9_cellOf "ShelfDrives"]
theorem nest_in : ∀ w ∈ nestW, w ∈ lw_tbl := List.forall_mem_cons.mpr ⟨List.mem_of_getElem? (i := 1099) (by decide +kernel), List.forall_mem_cons.mpr ⟨List.mem_of_getElem? (i := 1169) (by decide +kernel), List.forall_mem_cons.mpr ⟨List.mem_of_getElem? (i := 752) (by decide +kernel), List.forall_mem_cons.mpr ⟨List.mem_of_getElem? (i := 596) (by decide +kernel), List.forall_mem_cons.mpr ⟨List.mem_of_getElem? (i := 761) (by decide +kernel), fun _ h => absurd h List.not_mem_nil⟩⟩⟩⟩⟩
theorem nest_form : ∀ w ∈ nestW, ∃ (a : String) (i : Nat) (x : MethodName) (h : String), w = .methodLinkNest a i x h := List.forall_mem_cons.mpr ⟨⟨_, _, _, _, rfl⟩, List.forall_mem_cons.mpr ⟨⟨_, _, _, _, rfl⟩, List.forall_mem_cons.mpr ⟨⟨_, _, _, _, rfl⟩, List.forall_mem_cons.mpr ⟨⟨_, _, _, _, rfl⟩, List.forall_mem_cons.mpr ⟨⟨_, _, _, _, rfl⟩, fun _ h => absurd h List.not_mem_nil⟩⟩⟩⟩⟩
def NWs (U : State) : Prop := ∀ w ∈ nestW, va_Nw w U
theorem NWs.warm {s U : State} (hW : s.WarmedH U.vm) (h : NWs s) : NWs U := fun w hw => by
  obtain ⟨a, i, x, y, e⟩ := nest_form w hw
  subst e
  exact va_Nw.warmM hW (h _ hw)
theorem NWs.same {s U : State} (e : s.vm = U.vm) (h : NWs s) : NWs U := fun w hw => by
  obtain ⟨a, i, x, y, e2⟩ := nest_form w hw
  subst e2
  exact va_Nw.same rfl e (h _ hw)
def CWN (own : String) (idx : Nat) (M : MI) (n : Nat) (host : String) : Prop := CWb M n ∧ Cond.methodLinkNest own idx M.1 host ∈ nestW ∧ Cond.static M.1 ∈ TB
/-- a library call's words -/
def CWM (own : String) (idx : Nat) (y : MethodName) (cc : ByteArray) (nL : Nat) : Prop := Cond.methodLink own idx y ∈ TB ∧ Cond.static y ∈ TB ∧ Cond.initialized y.cls ∈ TB ∧ Cond.code y cc nL (some .int) ∈ TB
def CWA (own : String) (idx : Nat) : Prop := Cond.methodLink own idx arraycopyName ∈ TB ∧ Cond.native arraycopyName ∈ TB ∧ Cond.static arraycopyName ∈ TB ∧ Cond.initialized "java/lang/System" ∈ TB
