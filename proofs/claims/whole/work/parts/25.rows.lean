/-! THE ABSTRACT WALK: AW says that the machine, at a pc with these locals and this stack, in this world, comes to its end -/
abbrev CT : Type := Program × Launch × Env × Room × State × MethodId × Array Value × List Frame × Method × Code × va_G × ClassId × (Nat → Prop) × (State → Prop)
def rl (s : State) (D : va_G) (cA : ClassId) (A : Nat → Prop) (ad : Nat → Nat) (SH : List Shp) (σ : Sg) (H : Heap) (locs : List Loc) : Prop := va_P D vwCl (wld ad cA σ 0 SH) H ∧ va_D A (wld ad cA σ 0 SH) ∧ va_S A s.heap H locs
def AW (X : CT) (ce sl : Nat) (ad : Nat → Nat) (SH : List Shp) (σ : Sg) (pc : Nat) (ls : List (Option Value)) (st : List Value) : Prop := match X with
  | (p, l, e, R, s, m, args, below, meth, c, D, cA, A, Q) => ∀ (H : Heap) (locs : List Loc) (lsA : Array Slot), rl s D cA A ad SH σ H locs → lr ad lsA ls → W p l e R s m args below meth c H locs ce sl Q (F0 m pc lsA (st.map (cv ad)))
/-- what a walk stands on: the machine, the code cc with nL locals of the class own, its room, the words, the tables -/
def Cx (X : CT) (cc : ByteArray) (nL : Nat) (own : String) (ret : Option FieldType) (rm : Room) : Prop := match X with
  | (p, _, _, R, s, m, args, _, meth, c, D, cA, A, _) => p.tables.exec = Jvm.exec ∧ c.code = cc ∧ c.maxLocals = nL ∧ s.vm.findClass own = some m.cls ∧ (∀ w ∈ TB, w.before args s = true) ∧ va_K D vwCl [(cA, .int)] s ∧ (∀ q, s.heap.size ≤ q → A q) ∧ meth.locks = false ∧ meth.sig.returnType = ret ∧ R = rm ∧ NWs s
section AWR
variable {X : CT} {cc : ByteArray} {nL : Nat} {own : String} {ret : Option FieldType} {rm : Room} {ce sl : Nat} {ad : Nat → Nat} {SH : List Shp} {σ : Sg} {pc nx tgt : Nat} {ls : List (Option Value)} {st : List Value}
theorem a_less {ls' : List (Option Value)} (h : lle ls ls') (K : AW X ce sl ad SH σ pc ls' st) : AW X ce sl ad SH σ pc ls st := by
  obtain ⟨p, l, e, R, s, m, args, below, meth, c, D, cA, A, Q⟩ := X
  intro H locs lsA hr hl
  exact K H locs lsA hr (hl.less h)
theorem a_iconst (C : Cx X cc nL own ret rm) {n : Int} (d : Dec cc pc (.iconst n) 1 nx) (v : Int32) (hv : Int32.ofInt n = v) (K : AW X ce sl ad SH σ nx ls (.int v :: st)) : AW X ce sl ad SH σ pc ls st := by
  obtain ⟨p, l, e, R, s, m, args, below, meth, c, D, cA, A, Q⟩ := X
  obtain ⟨hx, hb, -⟩ := C
  obtain ⟨d, rfl⟩ := d
  intro H locs lsA hr hl
  exact lv_iconst hx hb d hv (K H locs lsA hr hl)
theorem a_bipush (C : Cx X cc nL own ret rm) {n : Int} (d : Dec cc pc (.bipush n) 2 nx) (v : Int32) (hv : (Int8.ofInt n).toInt32 = v) (K : AW X ce sl ad SH σ nx ls (.int v :: st)) : AW X ce sl ad SH σ pc ls st := by
  obtain ⟨p, l, e, R, s, m, args, below, meth, c, D, cA, A, Q⟩ := X
  obtain ⟨hx, hb, -⟩ := C
  obtain ⟨d, rfl⟩ := d
  intro H locs lsA hr hl
  exact lv_bipush hx hb d hv (K H locs lsA hr hl)
theorem a_sipush (C : Cx X cc nL own ret rm) {n : Int} (d : Dec cc pc (.sipush n) 3 nx) (v : Int32) (hv : (Int16.ofInt n).toInt32 = v) (K : AW X ce sl ad SH σ nx ls (.int v :: st)) : AW X ce sl ad SH σ pc ls st := by
  obtain ⟨p, l, e, R, s, m, args, below, meth, c, D, cA, A, Q⟩ := X
  obtain ⟨hx, hb, -⟩ := C
  obtain ⟨d, rfl⟩ := d
  intro H locs lsA hr hl
  exact lv_sipush hx hb d hv (K H locs lsA hr hl)
theorem a_ldc (C : Cx X cc nL own ret rm) {idx : Nat} (d : Dec cc pc (.ldc idx) 2 nx) (v : Int32) (hw : Cond.constant own idx v ∈ TB) (K : AW X ce sl ad SH σ nx ls (.int v :: st)) : AW X ce sl ad SH σ pc ls st := by
  obtain ⟨p, l, e, R, s, m, args, below, meth, c, D, cA, A, Q⟩ := X
  obtain ⟨hx, hb, hml, hown, hts, -⟩ := C
  obtain ⟨d, rfl⟩ := d
  intro H locs lsA hr hl
  exact lv_ldc hx hb hown (hts _ hw) d (K H locs lsA hr hl)
theorem a_ldcw (C : Cx X cc nL own ret rm) {idx : Nat} (d : Dec cc pc (.ldc_w idx) 3 nx) (v : Int32) (hw : Cond.constant own idx v ∈ TB) (K : AW X ce sl ad SH σ nx ls (.int v :: st)) : AW X ce sl ad SH σ pc ls st := by
  obtain ⟨p, l, e, R, s, m, args, below, meth, c, D, cA, A, Q⟩ := X
  obtain ⟨hx, hb, hml, hown, hts, -⟩ := C
  obtain ⟨d, rfl⟩ := d
  intro H locs lsA hr hl
  exact lv_ldcw hx hb hown (hts _ hw) d (K H locs lsA hr hl)
theorem a_iload_n (C : Cx X cc nL own ret rm) {k : Fin 4} {x : Int32} (d : Dec cc pc (.iload_n k) 1 nx) (hl : ls[(k : Nat)]? = some (some (.int x))) (K : AW X ce sl ad SH σ nx ls (.int x :: st)) : AW X ce sl ad SH σ pc ls st := by
  obtain ⟨p, l, e, R, s, m, args, below, meth, c, D, cA, A, Q⟩ := X
  obtain ⟨hx, hb, -⟩ := C
  obtain ⟨d, rfl⟩ := d
  intro H locs lsA hr h2
  exact lv_iload_n hx hb d rfl (h2.2.2 _ _ hl).2 (K H locs lsA hr h2)
theorem a_iload (C : Cx X cc nL own ret rm) {k : Nat} {x : Int32} (d : Dec cc pc (.iload k) 2 nx) (hl : ls[k]? = some (some (.int x))) (K : AW X ce sl ad SH σ nx ls (.int x :: st)) : AW X ce sl ad SH σ pc ls st := by
  obtain ⟨p, l, e, R, s, m, args, below, meth, c, D, cA, A, Q⟩ := X
  obtain ⟨hx, hb, -⟩ := C
  obtain ⟨d, rfl⟩ := d
  intro H locs lsA hr h2
  exact lv_iload hx hb d (h2.2.2 _ _ hl).2 (K H locs lsA hr h2)
theorem a_aload_n (C : Cx X cc nL own ret rm) {k : Fin 4} {x : Nat} (d : Dec cc pc (.aload_n k) 1 nx) (hl : ls[(k : Nat)]? = some (some (.ref x))) (K : AW X ce sl ad SH σ nx ls (.ref x :: st)) : AW X ce sl ad SH σ pc ls st := by
  obtain ⟨p, l, e, R, s, m, args, below, meth, c, D, cA, A, Q⟩ := X
  obtain ⟨hx, hb, -⟩ := C
  obtain ⟨d, rfl⟩ := d
  intro H locs lsA hr h2
  exact lv_aload_n hx hb d rfl (h2.2.2 _ _ hl).2 (K H locs lsA hr h2)
theorem a_aload (C : Cx X cc nL own ret rm) {k : Nat} {x : Nat} (d : Dec cc pc (.aload k) 2 nx) (hl : ls[k]? = some (some (.ref x))) (K : AW X ce sl ad SH σ nx ls (.ref x :: st)) : AW X ce sl ad SH σ pc ls st := by
  obtain ⟨p, l, e, R, s, m, args, below, meth, c, D, cA, A, Q⟩ := X
  obtain ⟨hx, hb, -⟩ := C
  obtain ⟨d, rfl⟩ := d
  intro H locs lsA hr h2
  exact lv_aload hx hb d (h2.2.2 _ _ hl).2 (K H locs lsA hr h2)
theorem a_istore_n (C : Cx X cc nL own ret rm) {k : Fin 4} {x : Int32} (d : Dec cc pc (.istore_n k) 1 nx) (hk : (k : Nat) < ls.length) (K : AW X ce sl ad SH σ nx (ls.set k (some (.int x))) st) : AW X ce sl ad SH σ pc ls (.int x :: st) := by
  obtain ⟨p, l, e, R, s, m, args, below, meth, c, D, cA, A, Q⟩ := X
  obtain ⟨hx, hb, -⟩ := C
  obtain ⟨d, rfl⟩ := d
  intro H locs lsA hr h2
  exact lv_istore_n hx hb d rfl h2.has hk rfl (fun lsB hB => K H locs lsB hr (h2.stored hk rfl hB))
theorem a_istore (C : Cx X cc nL own ret rm) {k : Nat} {x : Int32} (d : Dec cc pc (.istore k) 2 nx) (hk : k < ls.length) (K : AW X ce sl ad SH σ nx (ls.set k (some (.int x))) st) : AW X ce sl ad SH σ pc ls (.int x :: st) := by
  obtain ⟨p, l, e, R, s, m, args, below, meth, c, D, cA, A, Q⟩ := X
  obtain ⟨hx, hb, -⟩ := C
  obtain ⟨d, rfl⟩ := d
  intro H locs lsA hr h2
  exact lv_istore hx hb d h2.has hk rfl (fun lsB hB => K H locs lsB hr (h2.stored hk rfl hB))
theorem a_astore_n (C : Cx X cc nL own ret rm) {k : Fin 4} {x : Nat} (d : Dec cc pc (.astore_n k) 1 nx) (hk : (k : Nat) < ls.length) (K : AW X ce sl ad SH σ nx (ls.set k (some (.ref x))) st) : AW X ce sl ad SH σ pc ls (.ref x :: st) := by
  obtain ⟨p, l, e, R, s, m, args, below, meth, c, D, cA, A, Q⟩ := X
  obtain ⟨hx, hb, -⟩ := C
  obtain ⟨d, rfl⟩ := d
  intro H locs lsA hr h2
  exact lv_astore_n hx hb d rfl h2.has hk rfl (fun lsB hB => K H locs lsB hr (h2.stored (v := .ref x) hk rfl hB))
theorem a_iinc (C : Cx X cc nL own ret rm) {k : Nat} {n : Int} {x : Int32} (d : Dec cc pc (.iinc k n) 3 nx) (hl : ls[k]? = some (some (.int x))) (y : Int32) (hy : Int32.ofInt n = y) (K : AW X ce sl ad SH σ nx (ls.set k (some (.int (x + y)))) st) : AW X ce sl ad SH σ pc ls st := by
  obtain ⟨p, l, e, R, s, m, args, below, meth, c, D, cA, A, Q⟩ := X
  obtain ⟨hx, hb, -⟩ := C
  obtain ⟨d, rfl⟩ := d
  subst hy
  intro H locs lsA hr h2
  have hk : k < ls.length := (List.getElem?_eq_some_iff.mp hl).1
  have hm := prs_mem (ad := ad) (i := 0) hl
  rw [Nat.zero_add] at hm
  obtain ⟨i, hi⟩ := List.getElem?_of_mem hm
  exact lv_iinc hx hb d h2.has hi rfl hk rfl (fun lsB hB => K H locs lsB hr (h2.stored (v := .int (x + Int32.ofInt n)) hk rfl hB))
theorem a_iadd (C : Cx X cc nL own ret rm) {x y : Int32} (d : Dec cc pc .iadd 1 nx) (K : AW X ce sl ad SH σ nx ls (.int (x + y) :: st)) : AW X ce sl ad SH σ pc ls (.int y :: .int x :: st) := by
  obtain ⟨p, l, e, R, s, m, args, below, meth, c, D, cA, A, Q⟩ := X
  obtain ⟨hx, hb, -⟩ := C
  obtain ⟨d, rfl⟩ := d
  intro H locs lsA hr hl
  exact lv_iadd hx hb d (K H locs lsA hr hl)
theorem a_isub (C : Cx X cc nL own ret rm) {x y : Int32} (d : Dec cc pc .isub 1 nx) (K : AW X ce sl ad SH σ nx ls (.int (x - y) :: st)) : AW X ce sl ad SH σ pc ls (.int y :: .int x :: st) := by
  obtain ⟨p, l, e, R, s, m, args, below, meth, c, D, cA, A, Q⟩ := X
  obtain ⟨hx, hb, -⟩ := C
  obtain ⟨d, rfl⟩ := d
  intro H locs lsA hr hl
  exact lv_isub hx hb d (K H locs lsA hr hl)
theorem a_imul (C : Cx X cc nL own ret rm) {x y : Int32} (d : Dec cc pc .imul 1 nx) (K : AW X ce sl ad SH σ nx ls (.int (x * y) :: st)) : AW X ce sl ad SH σ pc ls (.int y :: .int x :: st) := by
  obtain ⟨p, l, e, R, s, m, args, below, meth, c, D, cA, A, Q⟩ := X
  obtain ⟨hx, hb, -⟩ := C
  obtain ⟨d, rfl⟩ := d
  intro H locs lsA hr hl
  exact lv_imul hx hb d (K H locs lsA hr hl)
theorem a_iand (C : Cx X cc nL own ret rm) {x y : Int32} (d : Dec cc pc .iand 1 nx) (K : AW X ce sl ad SH σ nx ls (.int (x &&& y) :: st)) : AW X ce sl ad SH σ pc ls (.int y :: .int x :: st) := by
  obtain ⟨p, l, e, R, s, m, args, below, meth, c, D, cA, A, Q⟩ := X
  obtain ⟨hx, hb, -⟩ := C
  obtain ⟨d, rfl⟩ := d
  intro H locs lsA hr hl
  exact lv_iand hx hb d (K H locs lsA hr hl)
theorem a_ior (C : Cx X cc nL own ret rm) {x y : Int32} (d : Dec cc pc .ior 1 nx) (K : AW X ce sl ad SH σ nx ls (.int (x ||| y) :: st)) : AW X ce sl ad SH σ pc ls (.int y :: .int x :: st) := by
  obtain ⟨p, l, e, R, s, m, args, below, meth, c, D, cA, A, Q⟩ := X
  obtain ⟨hx, hb, -⟩ := C
  obtain ⟨d, rfl⟩ := d
  intro H locs lsA hr hl
  exact lv_ior hx hb d (K H locs lsA hr hl)
theorem a_ixor (C : Cx X cc nL own ret rm) {x y : Int32} (d : Dec cc pc .ixor 1 nx) (K : AW X ce sl ad SH σ nx ls (.int (x ^^^ y) :: st)) : AW X ce sl ad SH σ pc ls (.int y :: .int x :: st) := by
  obtain ⟨p, l, e, R, s, m, args, below, meth, c, D, cA, A, Q⟩ := X
  obtain ⟨hx, hb, -⟩ := C
  obtain ⟨d, rfl⟩ := d
  intro H locs lsA hr hl
  exact lv_ixor hx hb d (K H locs lsA hr hl)
theorem a_idiv (C : Cx X cc nL own ret rm) {x y : Int32} (d : Dec cc pc .idiv 1 nx) (hy : ¬ y = 0) (K : AW X ce sl ad SH σ nx ls (.int (x / y) :: st)) : AW X ce sl ad SH σ pc ls (.int y :: .int x :: st) := by
  obtain ⟨p, l, e, R, s, m, args, below, meth, c, D, cA, A, Q⟩ := X
  obtain ⟨hx, hb, -⟩ := C
  obtain ⟨d, rfl⟩ := d
  intro H locs lsA hr hl
  exact lv_idiv hx hb d hy (K H locs lsA hr hl)
theorem a_irem (C : Cx X cc nL own ret rm) {x y : Int32} (d : Dec cc pc .irem 1 nx) (hy : ¬ y = 0) (K : AW X ce sl ad SH σ nx ls (.int (x - x / y * y) :: st)) : AW X ce sl ad SH σ pc ls (.int y :: .int x :: st) := by
  obtain ⟨p, l, e, R, s, m, args, below, meth, c, D, cA, A, Q⟩ := X
  obtain ⟨hx, hb, -⟩ := C
  obtain ⟨d, rfl⟩ := d
  intro H locs lsA hr hl
  exact lv_irem hx hb d hy (K H locs lsA hr hl)
theorem a_ineg (C : Cx X cc nL own ret rm) {x : Int32} (d : Dec cc pc .ineg 1 nx) (K : AW X ce sl ad SH σ nx ls (.int (-x) :: st)) : AW X ce sl ad SH σ pc ls (.int x :: st) := by
  obtain ⟨p, l, e, R, s, m, args, below, meth, c, D, cA, A, Q⟩ := X
  obtain ⟨hx, hb, -⟩ := C
  obtain ⟨d, rfl⟩ := d
  intro H locs lsA hr hl
  exact lv_ineg hx hb d (K H locs lsA hr hl)
theorem a_ishl (C : Cx X cc nL own ret rm) {x y : Int32} (d : Dec cc pc .ishl 1 nx) (K : AW X ce sl ad SH σ nx ls (.int (x <<< (y &&& 31)) :: st)) : AW X ce sl ad SH σ pc ls (.int y :: .int x :: st) := by
  obtain ⟨p, l, e, R, s, m, args, below, meth, c, D, cA, A, Q⟩ := X
  obtain ⟨hx, hb, -⟩ := C
  obtain ⟨d, rfl⟩ := d
  intro H locs lsA hr hl
  exact lv_ishl hx hb d (K H locs lsA hr hl)
theorem a_ishr (C : Cx X cc nL own ret rm) {x y : Int32} (d : Dec cc pc .ishr 1 nx) (K : AW X ce sl ad SH σ nx ls (.int (x >>> (y &&& 31)) :: st)) : AW X ce sl ad SH σ pc ls (.int y :: .int x :: st) := by
  obtain ⟨p, l, e, R, s, m, args, below, meth, c, D, cA, A, Q⟩ := X
  obtain ⟨hx, hb, -⟩ := C
  obtain ⟨d, rfl⟩ := d
  intro H locs lsA hr hl
  exact lv_ishr hx hb d (K H locs lsA hr hl)
/-- x >>> y -/
def ush (x y : Int32) : Int32 := (x.toUInt32 >>> (y.toUInt32 &&& Int32.toUInt32 31)).toInt32
theorem a_iushr (C : Cx X cc nL own ret rm) {x y : Int32} (d : Dec cc pc .iushr 1 nx) (K : AW X ce sl ad SH σ nx ls (.int (ush x y) :: st)) : AW X ce sl ad SH σ pc ls (.int y :: .int x :: st) := by
  obtain ⟨p, l, e, R, s, m, args, below, meth, c, D, cA, A, Q⟩ := X
  obtain ⟨hx, hb, -⟩ := C
  obtain ⟨d, rfl⟩ := d
  intro H locs lsA hr hl
  exact lv_iushr hx hb d rfl (K H locs lsA hr hl)
theorem a_dup (C : Cx X cc nL own ret rm) {v : Value} (d : Dec cc pc .dup 1 nx) (hv : v.category = 1) (K : AW X ce sl ad SH σ nx ls (v :: v :: st)) : AW X ce sl ad SH σ pc ls (v :: st) := by
  obtain ⟨p, l, e, R, s, m, args, below, meth, c, D, cA, A, Q⟩ := X
  obtain ⟨hx, hb, -⟩ := C
  obtain ⟨d, rfl⟩ := d
  intro H locs lsA hr hl
  exact lv_dup hx hb d (by rw [cv_cat]; exact hv) (K H locs lsA hr hl)
theorem a_dup2 (C : Cx X cc nL own ret rm) {v w : Value} (d : Dec cc pc .dup2 1 nx) (hv : v.category = 1) (hw : w.category = 1) (K : AW X ce sl ad SH σ nx ls (v :: w :: v :: w :: st)) : AW X ce sl ad SH σ pc ls (v :: w :: st) := by
  obtain ⟨p, l, e, R, s, m, args, below, meth, c, D, cA, A, Q⟩ := X
  obtain ⟨hx, hb, -⟩ := C
  obtain ⟨d, rfl⟩ := d
  intro H locs lsA hr hl
  exact lv_dup2_11 hx hb d (by rw [cv_cat]; exact hv) (by rw [cv_cat]; exact hw) (K H locs lsA hr hl)
theorem a_pop (C : Cx X cc nL own ret rm) {v : Value} (d : Dec cc pc .pop 1 nx) (hv : v.category = 1) (K : AW X ce sl ad SH σ nx ls st) : AW X ce sl ad SH σ pc ls (v :: st) := by
  obtain ⟨p, l, e, R, s, m, args, below, meth, c, D, cA, A, Q⟩ := X
  obtain ⟨hx, hb, -⟩ := C
  obtain ⟨d, rfl⟩ := d
  intro H locs lsA hr hl
  exact lv_pop hx hb d (by rw [cv_cat]; exact hv) (K H locs lsA hr hl)
theorem a_goto (C : Cx X cc nL own ret rm) {off : Int} (d : Jmp cc pc (.goto off) off nx tgt) (K : AW X ce sl ad SH σ tgt ls st) : AW X ce sl ad SH σ pc ls st := by
  obtain ⟨p, l, e, R, s, m, args, below, meth, c, D, cA, A, Q⟩ := X
  obtain ⟨hx, hb, -⟩ := C
  obtain ⟨d, rfl, ht⟩ := d
  intro H locs lsA hr hl
  exact lv_goto hx hb d ht (K H locs lsA hr hl)
theorem a_if_eq (C : Cx X cc nL own ret rm) {x : Int32} {off : Int} (d : Jmp cc pc (.ifCond .eq off) off nx tgt) (kt : x = 0 → AW X ce sl ad SH σ tgt ls st) (kf : ¬ x = 0 → AW X ce sl ad SH σ nx ls st) : AW X ce sl ad SH σ pc ls (.int x :: st) := by
  obtain ⟨p, l, e, R, s, m, args, below, meth, c, D, cA, A, Q⟩ := X
  obtain ⟨hx, hb, -⟩ := C
  obtain ⟨d, rfl, ht⟩ := d
  intro H locs lsA hr hl
  exact lv_if_eq hx hb d ht (fun h => kt h H locs lsA hr hl) (fun h => kf h H locs lsA hr hl)
theorem a_if_ne (C : Cx X cc nL own ret rm) {x : Int32} {off : Int} (d : Jmp cc pc (.ifCond .ne off) off nx tgt) (kt : ¬ x = 0 → AW X ce sl ad SH σ tgt ls st) (kf : x = 0 → AW X ce sl ad SH σ nx ls st) : AW X ce sl ad SH σ pc ls (.int x :: st) := by
  obtain ⟨p, l, e, R, s, m, args, below, meth, c, D, cA, A, Q⟩ := X
  obtain ⟨hx, hb, -⟩ := C
  obtain ⟨d, rfl, ht⟩ := d
  intro H locs lsA hr hl
  exact lv_if_ne hx hb d ht (fun h => kt h H locs lsA hr hl) (fun h => kf h H locs lsA hr hl)
theorem a_if_lt (C : Cx X cc nL own ret rm) {x : Int32} {off : Int} (d : Jmp cc pc (.ifCond .lt off) off nx tgt) (kt : x < 0 → AW X ce sl ad SH σ tgt ls st) (kf : ¬ x < 0 → AW X ce sl ad SH σ nx ls st) : AW X ce sl ad SH σ pc ls (.int x :: st) := by
  obtain ⟨p, l, e, R, s, m, args, below, meth, c, D, cA, A, Q⟩ := X
  obtain ⟨hx, hb, -⟩ := C
  obtain ⟨d, rfl, ht⟩ := d
  intro H locs lsA hr hl
  exact lv_if_lt hx hb d ht (fun h => kt h H locs lsA hr hl) (fun h => kf h H locs lsA hr hl)
theorem a_if_ge (C : Cx X cc nL own ret rm) {x : Int32} {off : Int} (d : Jmp cc pc (.ifCond .ge off) off nx tgt) (kt : 0 ≤ x → AW X ce sl ad SH σ tgt ls st) (kf : ¬ 0 ≤ x → AW X ce sl ad SH σ nx ls st) : AW X ce sl ad SH σ pc ls (.int x :: st) := by
  obtain ⟨p, l, e, R, s, m, args, below, meth, c, D, cA, A, Q⟩ := X
  obtain ⟨hx, hb, -⟩ := C
  obtain ⟨d, rfl, ht⟩ := d
  intro H locs lsA hr hl
  exact lv_if_ge hx hb d ht (fun h => kt h H locs lsA hr hl) (fun h => kf h H locs lsA hr hl)
theorem a_if_gt (C : Cx X cc nL own ret rm) {x : Int32} {off : Int} (d : Jmp cc pc (.ifCond .gt off) off nx tgt) (kt : 0 < x → AW X ce sl ad SH σ tgt ls st) (kf : ¬ 0 < x → AW X ce sl ad SH σ nx ls st) : AW X ce sl ad SH σ pc ls (.int x :: st) := by
  obtain ⟨p, l, e, R, s, m, args, below, meth, c, D, cA, A, Q⟩ := X
  obtain ⟨hx, hb, -⟩ := C
  obtain ⟨d, rfl, ht⟩ := d
  intro H locs lsA hr hl
  exact lv_if_gt hx hb d ht (fun h => kt h H locs lsA hr hl) (fun h => kf h H locs lsA hr hl)
theorem a_if_le (C : Cx X cc nL own ret rm) {x : Int32} {off : Int} (d : Jmp cc pc (.ifCond .le off) off nx tgt) (kt : x ≤ 0 → AW X ce sl ad SH σ tgt ls st) (kf : ¬ x ≤ 0 → AW X ce sl ad SH σ nx ls st) : AW X ce sl ad SH σ pc ls (.int x :: st) := by
  obtain ⟨p, l, e, R, s, m, args, below, meth, c, D, cA, A, Q⟩ := X
  obtain ⟨hx, hb, -⟩ := C
  obtain ⟨d, rfl, ht⟩ := d
  intro H locs lsA hr hl
  exact lv_if_le hx hb d ht (fun h => kt h H locs lsA hr hl) (fun h => kf h H locs lsA hr hl)
theorem a_icmp_eq (C : Cx X cc nL own ret rm) {x y : Int32} {off : Int} (d : Jmp cc pc (.if_icmp .eq off) off nx tgt) (kt : x = y → AW X ce sl ad SH σ tgt ls st) (kf : ¬ x = y → AW X ce sl ad SH σ nx ls st) : AW X ce sl ad SH σ pc ls (.int y :: .int x :: st) := by
  obtain ⟨p, l, e, R, s, m, args, below, meth, c, D, cA, A, Q⟩ := X
  obtain ⟨hx, hb, -⟩ := C
  obtain ⟨d, rfl, ht⟩ := d
  intro H locs lsA hr hl
  exact lv_icmp_eq hx hb d ht (fun h => kt h H locs lsA hr hl) (fun h => kf h H locs lsA hr hl)
theorem a_icmp_ne (C : Cx X cc nL own ret rm) {x y : Int32} {off : Int} (d : Jmp cc pc (.if_icmp .ne off) off nx tgt) (kt : ¬ x = y → AW X ce sl ad SH σ tgt ls st) (kf : x = y → AW X ce sl ad SH σ nx ls st) : AW X ce sl ad SH σ pc ls (.int y :: .int x :: st) := by
  obtain ⟨p, l, e, R, s, m, args, below, meth, c, D, cA, A, Q⟩ := X
  obtain ⟨hx, hb, -⟩ := C
  obtain ⟨d, rfl, ht⟩ := d
  intro H locs lsA hr hl
  exact lv_icmp_ne hx hb d ht (fun h => kt h H locs lsA hr hl) (fun h => kf h H locs lsA hr hl)
theorem a_icmp_lt (C : Cx X cc nL own ret rm) {x y : Int32} {off : Int} (d : Jmp cc pc (.if_icmp .lt off) off nx tgt) (kt : x < y → AW X ce sl ad SH σ tgt ls st) (kf : ¬ x < y → AW X ce sl ad SH σ nx ls st) : AW X ce sl ad SH σ pc ls (.int y :: .int x :: st) := by
  obtain ⟨p, l, e, R, s, m, args, below, meth, c, D, cA, A, Q⟩ := X
  obtain ⟨hx, hb, -⟩ := C
  obtain ⟨d, rfl, ht⟩ := d
  intro H locs lsA hr hl
  exact lv_icmp_lt hx hb d ht (fun h => kt h H locs lsA hr hl) (fun h => kf h H locs lsA hr hl)
theorem a_icmp_ge (C : Cx X cc nL own ret rm) {x y : Int32} {off : Int} (d : Jmp cc pc (.if_icmp .ge off) off nx tgt) (kt : y ≤ x → AW X ce sl ad SH σ tgt ls st) (kf : ¬ y ≤ x → AW X ce sl ad SH σ nx ls st) : AW X ce sl ad SH σ pc ls (.int y :: .int x :: st) := by
  obtain ⟨p, l, e, R, s, m, args, below, meth, c, D, cA, A, Q⟩ := X
  obtain ⟨hx, hb, -⟩ := C
  obtain ⟨d, rfl, ht⟩ := d
  intro H locs lsA hr hl
  exact lv_icmp_ge hx hb d ht (fun h => kt h H locs lsA hr hl) (fun h => kf h H locs lsA hr hl)
theorem a_icmp_gt (C : Cx X cc nL own ret rm) {x y : Int32} {off : Int} (d : Jmp cc pc (.if_icmp .gt off) off nx tgt) (kt : y < x → AW X ce sl ad SH σ tgt ls st) (kf : ¬ y < x → AW X ce sl ad SH σ nx ls st) : AW X ce sl ad SH σ pc ls (.int y :: .int x :: st) := by
  obtain ⟨p, l, e, R, s, m, args, below, meth, c, D, cA, A, Q⟩ := X
  obtain ⟨hx, hb, -⟩ := C
  obtain ⟨d, rfl, ht⟩ := d
  intro H locs lsA hr hl
  exact lv_icmp_gt hx hb d ht (fun h => kt h H locs lsA hr hl) (fun h => kf h H locs lsA hr hl)
theorem a_icmp_le (C : Cx X cc nL own ret rm) {x y : Int32} {off : Int} (d : Jmp cc pc (.if_icmp .le off) off nx tgt) (kt : x ≤ y → AW X ce sl ad SH σ tgt ls st) (kf : ¬ x ≤ y → AW X ce sl ad SH σ nx ls st) : AW X ce sl ad SH σ pc ls (.int y :: .int x :: st) := by
  obtain ⟨p, l, e, R, s, m, args, below, meth, c, D, cA, A, Q⟩ := X
  obtain ⟨hx, hb, -⟩ := C
  obtain ⟨d, rfl, ht⟩ := d
  intro H locs lsA hr hl
  exact lv_icmp_le hx hb d ht (fun h => kt h H locs lsA hr hl) (fun h => kf h H locs lsA hr hl)
theorem a_iald (C : Cx X cc nL own ret rm) (d : Dec cc pc .iaload 1 nx) {k n : Nat} (hk : SH[k]? = some (.inl n)) {i : Int32} (hin : ¬ (i < 0 ∨ n ≤ i.toNatClampNeg)) (K : AW X ce sl ad SH σ nx ls (.int (σ k i.toNatClampNeg) :: st)) : AW X ce sl ad SH σ pc ls (.int i :: .ref k :: st) := by
  obtain ⟨p, l, e, R, s, m, args, below, meth, c, D, cA, A, Q⟩ := X
  obtain ⟨hx, hb, hml, hown, hts, hK, -⟩ := C
  obtain ⟨d, rfl⟩ := d
  intro H locs lsA hr hl
  exact va_iald hx hb hK hr.1 k 0 (wld_get0 hk) rfl hin d (K H locs lsA hr hl)
theorem a_iast (C : Cx X cc nL own ret rm) (d : Dec cc pc .iastore 1 nx) {k n : Nat} (hk : SH[k]? = some (.inl n)) {i x : Int32} (hin : ¬ (i < 0 ∨ n ≤ i.toNatClampNeg)) (K : AW X ce sl ad SH (up σ k i.toNatClampNeg x) nx ls st) : AW X ce sl ad SH σ pc ls (.int x :: .int i :: .ref k :: st) := by
  obtain ⟨p, l, e, R, s, m, args, below, meth, c, D, cA, A, Q⟩ := X
  obtain ⟨hx, hb, hml, hown, hts, hK, -⟩ := C
  obtain ⟨d, rfl⟩ := d
  intro H locs lsA hr hl
  refine va_iast hx hb hK hr.1 hr.2.1 hr.2.2 k 0 (wld_get0 hk) rfl hin d (fun H1 locs1 hP hD hS => ?_)
  rw [wld_up hk] at hP hD
  exact K H1 locs1 lsA ⟨hP, hD, hS⟩ hl
theorem a_alen (C : Cx X cc nL own ret rm) (d : Dec cc pc .arraylength 1 nx) {k n : Nat} (hk : SH[k]? = some (.inl n)) (v : Int32) (hv : Int32.ofNat n = v) (K : AW X ce sl ad SH σ nx ls (.int v :: st)) : AW X ce sl ad SH σ pc ls (.ref k :: st) := by
  obtain ⟨p, l, e, R, s, m, args, below, meth, c, D, cA, A, Q⟩ := X
  obtain ⟨hx, hb, hml, hown, hts, hK, -⟩ := C
  obtain ⟨d, rfl⟩ := d
  intro H locs lsA hr hl
  exact va_alen hx hb hK hr.1 k 0 (wld_get0 hk) rfl hv d (K H locs lsA hr hl)
theorem a_getI (C : Cx X cc nL own ret rm) {idx : Nat} (d : Dec cc pc (.getfield idx) 3 nx) {a ci k N : Nat} {ref Cn : String} {T : u_T} (F : FLk own idx ci k ref T Cn N) {fl : List (Option (Option Nat))} (ha : SH[a]? = some (.inr (ci, fl))) (hk : fl[k]? = some none) (K : AW X ce sl ad SH σ nx ls (.int (σ a k) :: st)) : AW X ce sl ad SH σ pc ls (.ref a :: st) := by
  obtain ⟨p, l, e, R, s, m, args, below, meth, c, D, cA, A, Q⟩ := X
  obtain ⟨hx, hb, hml, hown, hts, hK, -⟩ := C
  obtain ⟨d, rfl⟩ := d
  obtain ⟨f1, f2, f3, f4, f5⟩ := F
  intro H locs lsA hr hl
  have hv := flds_get (ad := ad) (f := σ a) (j := 0) hk
  rw [Nat.zero_add] at hv
  exact va_get hx hb hts f3 hown hK hr.1 a (wld_get0 ha) f1 k f2 (hts _ f4) (fun x h => by rw [← f5]; exact h) hv d (K H locs lsA hr hl)
theorem a_getR (C : Cx X cc nL own ret rm) {idx : Nat} (d : Dec cc pc (.getfield idx) 3 nx) {a ci k N r : Nat} {ref Cn : String} {T : u_T} (F : FLk own idx ci k ref T Cn N) {fl : List (Option (Option Nat))} (ha : SH[a]? = some (.inr (ci, fl))) (hk : fl[k]? = some (some (some r))) (K : AW X ce sl ad SH σ nx ls (.ref r :: st)) : AW X ce sl ad SH σ pc ls (.ref a :: st) := by
  obtain ⟨p, l, e, R, s, m, args, below, meth, c, D, cA, A, Q⟩ := X
  obtain ⟨hx, hb, hml, hown, hts, hK, -⟩ := C
  obtain ⟨d, rfl⟩ := d
  obtain ⟨f1, f2, f3, f4, f5⟩ := F
  intro H locs lsA hr hl
  have hv := flds_get (ad := ad) (f := σ a) (j := 0) hk
  exact va_get hx hb hts f3 hown hK hr.1 a (wld_get0 ha) f1 k f2 (hts _ f4) (fun x h => by rw [← f5]; exact h) hv d (K H locs lsA hr hl)
theorem a_putI (C : Cx X cc nL own ret rm) {idx : Nat} (d : Dec cc pc (.putfield idx) 3 nx) {a ci k N : Nat} {ref Cn : String} {T : u_T} {ty : Nat → FieldType} (F : FLk own idx ci k ref T Cn N) (G : FTy T N ty) (hfin : (T k).2.2.2 = false) (hti : parseFieldDescriptor (T k).2.2.1 = some .int) {fl : List (Option (Option Nat))} (ha : SH[a]? = some (.inr (ci, fl))) (hk : fl[k]? = some none) {v : Int32} (K : AW X ce sl ad SH (up σ a k v) nx ls st) : AW X ce sl ad SH σ pc ls (.int v :: .ref a :: st) := by
  obtain ⟨p, l, e, R, s, m, args, below, meth, c, D, cA, A, Q⟩ := X
  obtain ⟨hx, hb, hml, hown, hts, hK, -⟩ := C
  obtain ⟨d, rfl⟩ := d
  obtain ⟨f1, f2, f3, f4, f5⟩ := F
  intro H locs lsA hr hl
  have hlen : k < (flds ad (σ a) 0 fl).length := by
    rw [flds_len]
    exact (List.getElem?_eq_some_iff.mp hk).1
  refine va_put (v := .int v) hx hb hts f3 ty G.1 G.2 hown hK hr.1 hr.2.1 hr.2.2 a (wld_get0 ha) f1 k f2 (hts _ f4) (fun x h => by rw [← f5]; exact h) hfin hti rfl rfl hlen d (fun H1 locs1 hP hD hS => ?_)
  have e1 := wld_upf (ad := ad) (cA := cA) (σ := σ) (v := v) ha hk
  rw [e1] at hP hD
  exact K H1 locs1 lsA ⟨hP, hD, hS⟩ hl
end AWR
