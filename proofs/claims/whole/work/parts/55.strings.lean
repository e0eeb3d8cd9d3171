/-! THE READER'S STRING CONSTANT: cell 5000 is the string, 5001 its bytes; outside the world, never changed -/
def strB : List Int32 := [100, 97, 121, 115, 32, 100, 101, 112, 111, 116, 32, 116, 114, 117, 99, 107, 32, 102, 105, 120, 101, 100, 32, 109, 105, 108, 101, 32, 104, 111, 108, 100, 32, 108, 111, 115, 116, 32, 115, 104, 111, 112, 32, 97, 116, 32, 115, 104, 101, 108, 102, 32, 115, 116, 111, 99, 107, 32, 115, 101, 108, 108, 115, 32, 114, 117, 115, 104, 32]
def chS (j : Nat) : Int32 := strB.getD j 0
def strT : String := "days depot truck fixed mile hold lost shop at shelf stock sells rush "
def StrE (A : Nat → Prop) (ad : Nat → Nat) (fv : Value) (U : State) : Prop := va_O "java/lang/String" (ad 5000) A U U.heap ∧ va_OF "java/lang/String" "coder" "B" (.int 0) (ad 5000) A U U.heap ∧ va_OF "java/lang/String" "value" "[B" (.ref (ad 5001)) (ad 5000) A U U.heap ∧ va_T .byte (ad 5001) 69 (fun j => .int (chS j)) A U U.heap ∧ va_Z "java/lang/String" "COMPACT_STRINGS" "Z" (.int 1) A U U.heap ∧ va_Z "jdk/internal/util/Preconditions" "SIOOBE_FORMATTER" "Ljava/util/function/BiFunction;" (cv ad fv) A U U.heap ∧ vk_R "ShelfDrives$Reader" 44 strT (ad 5000) U ∧ (fv = .null ∨ fv = .ref 5002)
theorem StrE.use {A B : Nat → Prop} {ad : Nat → Nat} {fv : Value} {s U : State} {H : Heap} (h : StrE A ad fv s) (hH : U.heap = H) (hW : s.WarmedH U.vm) (hk : ∀ a : Nat, a < s.heap.size → ¬ A a → H[a]? = s.heap[a]?) (hAB : ∀ q, B q → A q) : StrE B ad fv U := by
  obtain ⟨h1, h2, h3, h4, h5, h6, h7, h8⟩ := h
  unfold StrE
  rw [hH]
  exact ⟨((h1.kept hk).narrow hAB).moved hW.alike, ((h2.kept hk).narrow hAB).moved hW.alike, ((h3.kept hk).narrow hAB).moved hW.alike, ((h4.kept hk).narrow hAB).moved hW.alike, ((h5.kept hk).narrow hAB).moved hW.alike, ((h6.kept hk).narrow hAB).moved hW.alike, h7.warm hW, h8⟩
theorem StrE.agr {A : Nat → Prop} {ad u : Nat → Nat} {fv : Value} {s : State} {lo hi : Nat} (h : StrE A ad fv s) (ha : agr lo hi ad u) (hh : hi ≤ 5000) : StrE A u fv s := by
  unfold StrE at h ⊢
  have e1 : cv u fv = cv ad fv := by
    rcases h.2.2.2.2.2.2.2 with e | e
    · rw [e]; rfl
    · rw [e]; exact congrArg Value.ref (ha 5002 (Or.inr (by omega)))
  rw [ha 5000 (Or.inr hh), ha 5001 (Or.inr (by omega)), e1]
  exact h
theorem StrE.blind {A : Nat → Prop} {ad : Nat → Nat} {fv : Value} {U : State} {g : JFrame} {mk : MethodId} {a : Array Value} (h : StrE A ad fv U) : StrE A ad fv (U.calling g mk a) := by
  obtain ⟨h1, h2, h3, h4, h5, h6, h7, h8⟩ := h
  exact ⟨va_O.moved (u := U) (U := U.calling g mk a) (Vm.Alike.refl U.vm) h1, va_OF.moved (u := U) (U := U.calling g mk a) (Vm.Alike.refl U.vm) h2, va_OF.moved (u := U) (U := U.calling g mk a) (Vm.Alike.refl U.vm) h3, va_T.moved (u := U) (U := U.calling g mk a) (Vm.Alike.refl U.vm) h4, va_Z.moved (u := U) (U := U.calling g mk a) (Vm.Alike.refl U.vm) h5, va_Z.moved (u := U) (U := U.calling g mk a) (Vm.Alike.refl U.vm) h6, vk_R.same (u := U) (U := U.calling g mk a) rfl h7, h8⟩
def StrX (X : CT) (ad : Nat → Nat) (fv : Value) : Prop := match X with
  | (_, _, _, _, s, _, _, _, _, _, _, _, A, _) => StrE A ad fv s
theorem StrX.agr {X : CT} {ad u : Nat → Nat} {fv : Value} {lo hi : Nat} (h : StrX X ad fv) (ha : agr lo hi ad u) (hh : hi ≤ 5000) : StrX X u fv := by
  obtain ⟨p, l, e, R, s, m, args, below, meth, c, D, cA, A, Q⟩ := X
  exact StrE.agr h ha hh
/-- contracts that need the string: an answer, the world unchanged; the third argument of Preconditions.checkIndex is the formatter -/
def CiS (M : MI) (av : List Value) (r : Int32) : Prop := ∀ (l : Launch) (D : va_G) (cA : ClassId) (ad : Nat → Nat) (sz : Nat) (SH : List Shp) (σ : Sg) (fv : Value),
  Met l M.1 (wsOf M) M.2.2.2.2 (va_Pc (av.map (cv ad)) (fun U => preW D cA ad SH σ sz U ∧ StrE (va_A (wld ad cA σ 0 SH) sz) ad fv U)) (va_Qi (fun r2 (_ : Unit) => r2 = r) (bWd D cA ad SH σ (va_A (wld ad cA σ 0 SH) sz)) (va_A (wld ad cA σ 0 SH) sz)) 0 0 (va_A (wld ad cA σ 0 SH) sz)
theorem CiS.start {M : MI} {av : List Value} {r : Int32} (hy : plainName M.1.cls = true) (hc : av.all (fun v => v.category == 1) = true) (hn : av.length ≤ M.2.2.1)
    (h : ∀ (X : CT) (ad : Nat → Nat) (SH : List Shp) (σ : Sg) (fv : Value), Cx X M.2.1 M.2.2.1 M.1.cls M.2.2.2.1 M.2.2.2.2 → StrX X ad fv → Ri X M.2.1 M.2.2.2.1 ad SH (r, σ) → AW X 0 0 ad SH σ 0 (padL av M.2.2.1) []) : CiS M av r := by
  intro l D cA ad sz SH σ fv
  obtain ⟨y, cc, nL, ret, rm⟩ := M
  refine Met.ofW (cc := cc) (maxL := nL) (ret := ret) hy rfl ?_
  intro p e s m args below meth c s₁ B hml hv
  obtain ⟨rfl, ⟨rfl, hP, hK, hD0, hN⟩, hE⟩ := hv
  have hts := atoms_spec (ws := wsOf (y, cc, nL, ret, rm)) B.pre
  have hlocks := B.notSynchronized
  have hret := B.returns
  have hA : ∀ q, s.heap.size ≤ q → va_A (wld ad cA σ 0 SH) s.heap.size q := fun q h => Or.inr h
  rw [lg_entry_eq]
  refine h (p, l, e, rm, s, m, ((av.map (cv ad)).toArray), below, meth, c, D, cA, va_A (wld ad cA σ 0 SH) s.heap.size, MQ below (va_Qi (fun r2 (_ : Unit) => r2 = r) (bWd D cA ad SH σ (va_A (wld ad cA σ 0 SH) s.heap.size)) (va_A (wld ad cA σ 0 SH) s.heap.size)) ((av.map (cv ad)).toArray) s 0 0 (va_A (wld ad cA σ 0 SH) s.heap.size)) ad SH σ fv ⟨B.exec, B.bytes, hml, findClass_of_methodNamed B.named, fun w hw => hts w (List.mem_cons_of_mem _ hw), hK, hA, hlocks, hret, rfl, hN⟩ hE ?_ s.heap [] _ ⟨hP, hD0.self, va_S.rf⟩ (lr_entry (fun v hv => by simpa using List.all_eq_true.mp hc v hv) hn)
  intro pc nx ls hdg hnb H locs lsA hr hl
  obtain ⟨ty, e1, e2⟩ := hnb
  have e1 : ret = some ty := e1
  exact W.zret (v := r) (ty := ty) B.exec B.bytes (hret.trans e1) e2 (fun t ht hW => ⟨⟨r, (), rfl, rfl, by rw [ht]; exact hr.1, va_K.moved hW.alike hK, hr.2.1⟩, hr.2.2.F ht⟩) hr.2.2.2.2 hdg.1 hlocks
def CvS (M : MI) (av : List Value) : Prop := ∀ (l : Launch) (D : va_G) (cA : ClassId) (ad : Nat → Nat) (sz : Nat) (SH : List Shp) (σ : Sg) (fv : Value),
  Met l M.1 (wsOf M) M.2.2.2.2 (va_Pc (av.map (cv ad)) (fun U => preW D cA ad SH σ sz U ∧ StrE (va_A (wld ad cA σ 0 SH) sz) ad fv U)) (va_Qv (fun (_ : Unit) => True) (bWd D cA ad SH σ (va_A (wld ad cA σ 0 SH) sz)) (va_A (wld ad cA σ 0 SH) sz)) 0 0 (va_A (wld ad cA σ 0 SH) sz)
theorem CvS.start {M : MI} {av : List Value} (hy : plainName M.1.cls = true) (hc : av.all (fun v => v.category == 1) = true) (hn : av.length ≤ M.2.2.1) (hret : M.2.2.2.1 = none)
    (h : ∀ (X : CT) (ad : Nat → Nat) (SH : List Shp) (σ : Sg) (fv : Value), Cx X M.2.1 M.2.2.1 M.1.cls M.2.2.2.1 M.2.2.2.2 → StrX X ad fv → Rv X M.2.1 ad SH σ → AW X 0 0 ad SH σ 0 (padL av M.2.2.1) []) : CvS M av := by
  intro l D cA ad sz SH σ fv
  obtain ⟨y, cc, nL, ret, rm⟩ := M
  have hr0 : ret = none := hret
  subst hr0
  refine Met.ofW (cc := cc) (maxL := nL) (ret := none) hy rfl ?_
  intro p e s m args below meth c s₁ B hml hv
  obtain ⟨rfl, ⟨rfl, hP, hK, hD0, hN⟩, hE⟩ := hv
  have hts := atoms_spec (ws := wsOf (y, cc, nL, none, rm)) B.pre
  have hlocks := B.notSynchronized
  have hret := B.returns
  have hA : ∀ q, s.heap.size ≤ q → va_A (wld ad cA σ 0 SH) s.heap.size q := fun q h => Or.inr h
  rw [lg_entry_eq]
  refine h (p, l, e, rm, s, m, ((av.map (cv ad)).toArray), below, meth, c, D, cA, va_A (wld ad cA σ 0 SH) s.heap.size, MQ below (va_Qv (fun (_ : Unit) => True) (bWd D cA ad SH σ (va_A (wld ad cA σ 0 SH) s.heap.size)) (va_A (wld ad cA σ 0 SH) s.heap.size)) ((av.map (cv ad)).toArray) s 0 0 (va_A (wld ad cA σ 0 SH) s.heap.size)) ad SH σ fv ⟨B.exec, B.bytes, hml, findClass_of_methodNamed B.named, fun w hw => hts w (List.mem_cons_of_mem _ hw), hK, hA, hlocks, hret, rfl, hN⟩ hE ?_ s.heap [] _ ⟨hP, hD0.self, va_S.rf⟩ (lr_entry (fun v hv => by simpa using List.all_eq_true.mp hc v hv) hn)
  intro pc nx ls hdg H locs lsA hr hl
  exact W.vret B.exec B.bytes hret (fun t ht hW => ⟨⟨(), rfl, trivial, by rw [ht]; exact hr.1, va_K.moved hW.alike hK, hr.2.1⟩, hr.2.2.F ht⟩) hr.2.2.2.2 hdg.1 hlocks
section AWS
variable {X : CT} {cc : ByteArray} {nL : Nat} {own : String} {ret : Option FieldType} {rm : Room} {ce sl : Nat} {ad : Nat → Nat} {SH : List Shp} {σ τ : Sg} {pc nx tgt : Nat} {ls : List (Option Value)} {st : List Value} {fv : Value}
theorem a_ldcS (C : Cx X cc nL "ShelfDrives$Reader" ret rm) (E : StrX X ad fv) (d : Dec cc pc (.ldc 44) 2 nx) (K : AW X ce sl ad SH σ nx ls (.ref 5000 :: st)) : AW X ce sl ad SH σ pc ls st := by
  obtain ⟨p, l, e, R, s, m, args, below, meth, c, D, cA, A, Q⟩ := X
  obtain ⟨hx, hb, hml, hown, -⟩ := C
  obtain ⟨d, rfl⟩ := d
  obtain ⟨h1, h2, h3, h4, h5, h6, h7, h8⟩ := E
  intro H locs lsA hr hl
  exact va_ldcS hx hb hown h7 d (K H locs lsA hr hl)
theorem a_compact (C : Cx X cc nL own ret rm) (E : StrX X ad fv) {idx : Nat} (d : Dec cc pc (.getstatic idx) 3 nx) (hw : Cond.fieldLink own idx "java/lang/String" "COMPACT_STRINGS" "Z" ∈ TB) (K : AW X ce sl ad SH σ nx ls (.int 1 :: st)) : AW X ce sl ad SH σ pc ls st := by
  obtain ⟨p, l, e, R, s, m, args, below, meth, c, D, cA, A, Q⟩ := X
  obtain ⟨hx, hb, hml, hown, hts, -⟩ := C
  obtain ⟨d, rfl⟩ := d
  obtain ⟨h1, h2, h3, h4, h5, h6, h7, h8⟩ := E
  intro H locs lsA hr hl
  exact va_gets hx hb h5 hr.2.2 hown (hts _ hw) (fun _ h => h) d (K H locs lsA hr hl)
theorem a_coder (C : Cx X cc nL own ret rm) (E : StrX X ad fv) {idx : Nat} (d : Dec cc pc (.getfield idx) 3 nx) (hw : Cond.fieldLink own idx "java/lang/String" "coder" "B" ∈ TB) (K : AW X ce sl ad SH σ nx ls (.int 0 :: st)) : AW X ce sl ad SH σ pc ls (.ref 5000 :: st) := by
  obtain ⟨p, l, e, R, s, m, args, below, meth, c, D, cA, A, Q⟩ := X
  obtain ⟨hx, hb, hml, hown, hts, -⟩ := C
  obtain ⟨d, rfl⟩ := d
  obtain ⟨h1, h2, h3, h4, h5, h6, h7, h8⟩ := E
  intro H locs lsA hr hl
  exact vk_getf hx hb h2 hr.2.2 hown (hts _ hw) (fun _ h => h) d (K H locs lsA hr hl)
theorem a_bytes (C : Cx X cc nL own ret rm) (E : StrX X ad fv) {idx : Nat} (d : Dec cc pc (.getfield idx) 3 nx) (hw : Cond.fieldLink own idx "java/lang/String" "value" "[B" ∈ TB) (K : AW X ce sl ad SH σ nx ls (.ref 5001 :: st)) : AW X ce sl ad SH σ pc ls (.ref 5000 :: st) := by
  obtain ⟨p, l, e, R, s, m, args, below, meth, c, D, cA, A, Q⟩ := X
  obtain ⟨hx, hb, hml, hown, hts, -⟩ := C
  obtain ⟨d, rfl⟩ := d
  obtain ⟨h1, h2, h3, h4, h5, h6, h7, h8⟩ := E
  intro H locs lsA hr hl
  exact vk_getf hx hb h3 hr.2.2 hown (hts _ hw) (fun _ h => h) d (K H locs lsA hr hl)
theorem a_blen (C : Cx X cc nL own ret rm) (E : StrX X ad fv) (d : Dec cc pc .arraylength 1 nx) (K : AW X ce sl ad SH σ nx ls (.int 69 :: st)) : AW X ce sl ad SH σ pc ls (.ref 5001 :: st) := by
  obtain ⟨p, l, e, R, s, m, args, below, meth, c, D, cA, A, Q⟩ := X
  obtain ⟨hx, hb, hml, hown, hts, -⟩ := C
  obtain ⟨d, rfl⟩ := d
  obtain ⟨h1, h2, h3, h4, h5, h6, h7, h8⟩ := E
  intro H locs lsA hr hl
  exact va_tlen hx hb h4 hr.2.2 rfl d (K H locs lsA hr hl)
theorem a_bald (C : Cx X cc nL own ret rm) (E : StrX X ad fv) (d : Dec cc pc .baload 1 nx) {i : Int32} (hin : ib i 69) (K : AW X ce sl ad SH σ nx ls (.int (chS i.toNatClampNeg) :: st)) : AW X ce sl ad SH σ pc ls (.int i :: .ref 5001 :: st) := by
  obtain ⟨p, l, e, R, s, m, args, below, meth, c, D, cA, A, Q⟩ := X
  obtain ⟨hx, hb, hml, hown, hts, -⟩ := C
  obtain ⟨d, rfl⟩ := d
  obtain ⟨h1, h2, h3, h4, h5, h6, h7, h8⟩ := E
  intro H locs lsA hr hl
  exact va_tb hx hb h4 hr.2.2 hin rfl d (K H locs lsA hr hl)
theorem a_i2c (C : Cx X cc nL own ret rm) {x : Int32} (d : Dec cc pc .i2c 1 nx) (v : Int32) (hv : (x.toUInt32 % 65536).toInt32 = v) (K : AW X ce sl ad SH σ nx ls (.int v :: st)) : AW X ce sl ad SH σ pc ls (.int x :: st) := by
  obtain ⟨p, l, e, R, s, m, args, below, meth, c, D, cA, A, Q⟩ := X
  obtain ⟨hx, hb, -⟩ := C
  obtain ⟨d, rfl⟩ := d
  intro H locs lsA hr hl
  exact lv_i2c hx hb d hv (K H locs lsA hr hl)
theorem strE_at {s U : State} {D : va_G} {cA : ClassId} {A : Nat → Prop} {H : Heap} {locs : List Loc} (hr : rl s D cA A ad SH σ H locs) (hA : ∀ q, s.heap.size ≤ q → A q) (E : StrE A ad fv s) (hU : U.heap = H) (hW : s.WarmedH U.vm) : StrE (va_A (wld ad cA σ 0 SH) H.size) ad fv U := E.use hU hW hr.2.2.2.1 (rl_free hr hA)
theorem a_sVi (C : Cx X cc nL own ret rm) (E : StrX X ad fv) {idx n : Nat} (d : Dec cc pc (.invokevirtual idx) 3 nx) {M : MI} (w : CWV own idx M n) (hs : M.1.cls = "java/lang/String") (hR : fitR M rm) (hcs : ce ≤ rm.cells ∧ sl ≤ rm.slots) (hls : ls.length = nL) {As : List Value} (hn : As.length = n) {r : Int32} (hM : CiS M (.ref 5000 :: As) r) (hst : cats st) (K : AW X ce sl ad SH σ nx ls (.int r :: st)) : AW X ce sl ad SH σ pc ls (As.reverse ++ .ref 5000 :: st) := by
  obtain ⟨p, l, e, R, s, m, args, below, meth, c, D, cA, A, Q⟩ := X
  obtain ⟨hx, hb, hml, hown, hts, hK, hA, hlocks, hret, rfl, hN⟩ := C
  obtain ⟨d, rfl⟩ := d
  obtain ⟨w0, w1, w2, w3⟩ := w
  have E : StrE A ad fv s := E
  intro H locs lsA hr hl
  have hfree := rl_free hr hA
  have hrec : ∃ cell : Cell, H[ad 5000]? = some cell ∧ cell.vm.isStatics = false ∧ s.vm.findClass M.1.cls = some cell.cls := by
    obtain ⟨cell, g1, g2, g3, -⟩ := E.1.kept hr.2.2.2.1
    exact ⟨cell, g1, g2, by rw [hs]; exact g3⟩
  refine va_calli (va_runV (As := As.map (cv ad)) (rest := st.map (cv ad)) (b := ad 5000) (C := M.1.cls) ⟨hx, hb, hml, hown, hts⟩ (hM l D cA ad H.size SH σ fv) ⟨callB_TB hts w0 (hts _ w1) hR, hts _ w2, hts _ w3⟩ ⟨fun a U g mk q => ⟨(preW_blind a U g mk ⟨q.1, q.2.1⟩).1, (preW_blind a U g mk ⟨q.1, q.2.1⟩).2, q.2.2.blind⟩, hrec, fun U hU hW => ⟨rfl, ⟨by rw [hU], by rw [hU]; exact hr.1, va_K.moved hW.alike hK, hr.2.1.weaken (fun _ _ _ _ => trivial), hN.warm hW⟩, strE_at hr hA E hU hW⟩⟩ rfl (by rw [List.length_map]; exact hn) (hl.1.trans hls) (by rw [List.map_append, List.map_reverse]; rfl) (lv_room (cats_cv hst)) d ⟨hcs.1, hcs.2⟩) hr.2.2 (fun q _ h => hfree q h) hfree (fun r u t H1 locs1 ht hvm hw hB hz1 hk1 hS => ?_)
  subst hw
  obtain ⟨hP1, hK1, hD1⟩ := hB
  rw [ht] at hP1
  exact K H1 locs1 lsA ⟨hP1, hD1.weaken (fun k q _ h => hfree _ h), hS⟩ hl
theorem a_sSi (C : Cx X cc nL own ret rm) (E : StrX X ad fv) {idx n : Nat} (d : Dec cc pc (.invokestatic idx) 3 nx) {M : MI} (w : CWS own idx M n) (hR : fitR M rm) (hcs : ce ≤ rm.cells ∧ sl ≤ rm.slots) (hls : ls.length = nL) {As : List Value} (hn : As.length = n) {r : Int32} (hM : CiS M As r) (hst : cats st) (K : AW X ce sl ad SH σ nx ls (.int r :: st)) : AW X ce sl ad SH σ pc ls (As.reverse ++ st) := by
  obtain ⟨p, l, e, R, s, m, args, below, meth, c, D, cA, A, Q⟩ := X
  obtain ⟨hx, hb, hml, hown, hts, hK, hA, hlocks, hret, rfl, hN⟩ := C
  obtain ⟨d, rfl⟩ := d
  obtain ⟨w0, w1, w2⟩ := w
  have E : StrE A ad fv s := E
  intro H locs lsA hr hl
  have hfree := rl_free hr hA
  refine va_calli (va_runS (As := As.map (cv ad)) (rest := st.map (cv ad)) ⟨hx, hb, hml, hown, hts⟩ (hM l D cA ad H.size SH σ fv) ⟨callB_TB hts w0 (hts _ w1) hR, hts _ w2⟩ ⟨fun a U g mk q => ⟨(preW_blind a U g mk ⟨q.1, q.2.1⟩).1, (preW_blind a U g mk ⟨q.1, q.2.1⟩).2, q.2.2.blind⟩, fun U hU hW => ⟨rfl, ⟨by rw [hU], by rw [hU]; exact hr.1, va_K.moved hW.alike hK, hr.2.1.weaken (fun _ _ _ _ => trivial), hN.warm hW⟩, strE_at hr hA E hU hW⟩⟩ rfl (by rw [List.length_map]; exact hn) (hl.1.trans hls) (by rw [List.map_append, List.map_reverse]) (lv_room (cats_cv hst)) d ⟨hcs.1, hcs.2⟩) hr.2.2 (fun q _ h => hfree q h) hfree (fun r u t H1 locs1 ht hvm hw hB hz1 hk1 hS => ?_)
  subst hw
  obtain ⟨hP1, hK1, hD1⟩ := hB
  rw [ht] at hP1
  exact K H1 locs1 lsA ⟨hP1, hD1.weaken (fun k q _ h => hfree _ h), hS⟩ hl
theorem a_sSv (C : Cx X cc nL own ret rm) (E : StrX X ad fv) {idx n : Nat} (d : Dec cc pc (.invokestatic idx) 3 nx) {M : MI} (w : CWS own idx M n) (hR : fitR M rm) (hcs : ce ≤ rm.cells ∧ sl ≤ rm.slots) (hls : ls.length = nL) {As : List Value} (hn : As.length = n) (hM : CvS M As) (hst : cats st) (K : AW X ce sl ad SH σ nx ls st) : AW X ce sl ad SH σ pc ls (As.reverse ++ st) := by
  obtain ⟨p, l, e, R, s, m, args, below, meth, c, D, cA, A, Q⟩ := X
  obtain ⟨hx, hb, hml, hown, hts, hK, hA, hlocks, hret, rfl, hN⟩ := C
  obtain ⟨d, rfl⟩ := d
  obtain ⟨w0, w1, w2⟩ := w
  have E : StrE A ad fv s := E
  intro H locs lsA hr hl
  have hfree := rl_free hr hA
  refine va_callv (va_runS (As := As.map (cv ad)) (rest := st.map (cv ad)) ⟨hx, hb, hml, hown, hts⟩ (hM l D cA ad H.size SH σ fv) ⟨callB_TB hts w0 (hts _ w1) hR, hts _ w2⟩ ⟨fun a U g mk q => ⟨(preW_blind a U g mk ⟨q.1, q.2.1⟩).1, (preW_blind a U g mk ⟨q.1, q.2.1⟩).2, q.2.2.blind⟩, fun U hU hW => ⟨rfl, ⟨by rw [hU], by rw [hU]; exact hr.1, va_K.moved hW.alike hK, hr.2.1.weaken (fun _ _ _ _ => trivial), hN.warm hW⟩, strE_at hr hA E hU hW⟩⟩ rfl (by rw [List.length_map]; exact hn) (hl.1.trans hls) (by rw [List.map_append, List.map_reverse]) (lv_room (cats_cv hst)) d ⟨hcs.1, hcs.2⟩) hr.2.2 (fun q _ h => hfree q h) hfree (fun u t H1 locs1 ht hvm hw hB hz1 hk1 hS => ?_)
  obtain ⟨hP1, hK1, hD1⟩ := hB
  rw [ht] at hP1
  exact K H1 locs1 lsA ⟨hP1, hD1.weaken (fun k q _ h => hfree _ h), hS⟩ hl
theorem a_fmt (C : Cx X cc nL own ret rm) (E : StrX X ad fv) {idx : Nat} (d : Dec cc pc (.getstatic idx) 3 nx) (hw : Cond.fieldLink own idx "jdk/internal/util/Preconditions" "SIOOBE_FORMATTER" "Ljava/util/function/BiFunction;" ∈ TB) (K : AW X ce sl ad SH σ nx ls (fv :: st)) : AW X ce sl ad SH σ pc ls st := by
  obtain ⟨p, l, e, R, s, m, args, below, meth, c, D, cA, A, Q⟩ := X
  obtain ⟨hx, hb, hml, hown, hts, -⟩ := C
  obtain ⟨d, rfl⟩ := d
  obtain ⟨h1, h2, h3, h4, h5, h6, h7, h8⟩ := E
  intro H locs lsA hr hl
  exact va_gets hx hb h6 hr.2.2 hown (hts _ hw) (fun _ h => h) d (K H locs lsA hr hl)
theorem StrX.fcat (E : StrX X ad fv) : fv.category = 1 := by
  obtain ⟨p, l, e, R, s, m, args, below, meth, c, D, cA, A, Q⟩ := X
  rcases E.2.2.2.2.2.2.2 with e | e <;> rw [e] <;> rfl
end AWS
