/-! CONTRACTS: a method, from a world, answers 'res.1' and leaves the world 'res.2' -/
def wsOf (M : MI) : List Cond := .code M.1 M.2.1 M.2.2.1 M.2.2.2.1 :: TB
def preW (D : va_G) (cA : ClassId) (ad : Nat → Nat) (SH : List Shp) (σ : Sg) (sz : Nat) : State → Prop := fun U => U.heap.size = sz ∧ va_P D vwCl (wld ad cA σ 0 SH) U.heap ∧ va_K D vwCl [(cA, .int)] U ∧ va_D (fun _ => True) (wld ad cA σ 0 SH) ∧ NWs U
def bWd (D : va_G) (cA : ClassId) (ad : Nat → Nat) (SH : List Shp) (σ : Sg) (A : Nat → Prop) : Unit → State → Prop := fun _ t => va_P D vwCl (wld ad cA σ 0 SH) t.heap ∧ va_K D vwCl [(cA, .int)] t ∧ va_D A (wld ad cA σ 0 SH)
def Ci (M : MI) (av : List Value) (SH : List Shp) (σ : Sg) (res : Int32 × Sg) : Prop := ∀ (l : Launch) (D : va_G) (cA : ClassId) (ad : Nat → Nat) (sz : Nat),
  Met l M.1 (wsOf M) M.2.2.2.2 (va_Pc (av.map (cv ad)) (preW D cA ad SH σ sz)) (va_Qi (fun r (_ : Unit) => r = res.1) (bWd D cA ad SH res.2 (va_A (wld ad cA σ 0 SH) sz)) (va_A (wld ad cA σ 0 SH) sz)) 0 0 (va_A (wld ad cA σ 0 SH) sz)
def Cv (M : MI) (av : List Value) (SH : List Shp) (σ τ : Sg) : Prop := ∀ (l : Launch) (D : va_G) (cA : ClassId) (ad : Nat → Nat) (sz : Nat),
  Met l M.1 (wsOf M) M.2.2.2.2 (va_Pc (av.map (cv ad)) (preW D cA ad SH σ sz)) (va_Qv (fun (_ : Unit) => True) (bWd D cA ad SH τ (va_A (wld ad cA σ 0 SH) sz)) (va_A (wld ad cA σ 0 SH) sz)) 0 0 (va_A (wld ad cA σ 0 SH) sz)
theorem gd_TB {ws : List Cond} (h : ∀ w ∈ ws, w ∈ TB) : GoodIn TB ws := fun w hw => ⟨h w hw, good_of_word (List.mem_filter.mp (h w hw)).2⟩
theorem preW_blind {D : va_G} {cA : ClassId} {ad : Nat → Nat} {SH : List Shp} {σ : Sg} {sz : Nat} {av : List Value} : FrameBlind (va_Pc av (preW D cA ad SH σ sz)) := fun a U g mk q => by
  obtain ⟨q0, q1, qP, qK, qD, qN⟩ := q
  exact ⟨q0, q1, qP, va_K.moved (u := U) (U := U.calling g mk a) (Vm.Alike.refl U.vm) qK, qD, NWs.same (s := U) (U := U.calling g mk a) rfl qN⟩
theorem rl_free {s : State} {D : va_G} {cA : ClassId} {A : Nat → Prop} {ad : Nat → Nat} {SH : List Shp} {σ : Sg} {H : Heap} {locs : List Loc} (hr : rl s D cA A ad SH σ H locs) (hA : ∀ q, s.heap.size ≤ q → A q) : ∀ q, va_A (wld ad cA σ 0 SH) H.size q → A q := by
  intro q h
  rcases h with ⟨k, e, h⟩ | h
  · exact hr.2.1.2 k _ h
  · exact hA q (Nat.le_trans hr.2.2.1 h)
/-- the callee's room in the caller's -/
def fitR (M : MI) (rm : Room) : Prop := M.2.2.2.2.frames + 1 ≤ rm.frames ∧ 8 + (M.2.2.1 + 11) + M.2.2.2.2.locals ≤ rm.locals ∧ M.2.2.2.2.cells = 0 ∧ M.2.2.2.2.slots = 0
def cats (st : List Value) : Prop := (st.map fun v => v.category).sum ≤ 8
theorem cats_cv {ad : Nat → Nat} {st : List Value} (h : cats st) : ((st.map (cv ad)).map fun v => v.category).sum ≤ 8 := by
  rw [List.map_map, show ((fun v => Value.category v) ∘ cv ad) = fun v => v.category from funext fun v => cv_cat ad v]
  exact h
theorem callB_TB {R : Room} {s : State} {args : Array Value} {own : String} {idx n : Nat} {M : MI} (hts : ∀ w ∈ TB, w.before args s = true) (w : CWb M n) (hl : (Cond.methodLink own idx M.1).before args s = true) (hR : fitR M R) : CallB R s args own idx M.1 M.2.1 M.2.2.1 M.2.2.2.1 (wsOf M) M.2.2.2.2 0 0 n := by
  obtain ⟨w1, w2, w3, w4⟩ := w
  have hall : ∀ x ∈ wsOf M, x ∈ TB := fun x hx => (List.mem_cons.mp hx).elim (fun e => e ▸ w2) id
  exact ⟨hR.2.2.1, hR.2.2.2, hR.1, hR.2.1, pay_in hts (gd_TB hall), List.mem_cons_self, hts _ w2, hts _ w1, w3, fun sig h => by
    rw [h] at w4
    exact (Option.some.inj w4).symm, hl⟩
section AWC
variable {X : CT} {cc : ByteArray} {nL : Nat} {own : String} {ret : Option FieldType} {rm : Room} {ce sl : Nat} {ad : Nat → Nat} {SH : List Shp} {σ τ : Sg} {pc nx tgt : Nat} {ls : List (Option Value)} {st : List Value}
theorem a_callVi (C : Cx X cc nL own ret rm) {idx n : Nat} (d : Dec cc pc (.invokevirtual idx) 3 nx) {M : MI} (w : CWV own idx M n) (hR : fitR M rm) (hcs : ce ≤ rm.cells ∧ sl ≤ rm.slots) (hls : ls.length = nL) {As : List Value} (hn : As.length = n) {a ci N : Nat} {T : u_T} {fl : List (Option (Option Nat))} (ha : SH[a]? = some (.inr (ci, fl))) (hci : vwCl[ci]? = some (M.1.cls, T, N)) {res : Int32 × Sg} (hM : Ci M (.ref a :: As) SH σ res) (hst : cats st) (K : AW X ce sl ad SH res.2 nx ls (.int res.1 :: st)) : AW X ce sl ad SH σ pc ls (As.reverse ++ .ref a :: st) := by
  obtain ⟨p, l, e, R, s, m, args, below, meth, c, D, cA, A, Q⟩ := X
  obtain ⟨hx, hb, hml, hown, hts, hK, hA, hlocks, hret, rfl, hN⟩ := C
  obtain ⟨d, rfl⟩ := d
  obtain ⟨w0, w1, w2, w3⟩ := w
  intro H locs lsA hr hl
  have hfree := rl_free hr hA
  refine va_calli (va_runV (As := As.map (cv ad)) (rest := st.map (cv ad)) (b := ad a) (C := M.1.cls) ⟨hx, hb, hml, hown, hts⟩ (hM l D cA ad H.size) ⟨callB_TB hts w0 (hts _ w1) hR, hts _ w2, hts _ w3⟩ ⟨preW_blind, va_recv hK hr.1 hci (wld_get0 ha), fun U hU hW => ⟨rfl, by rw [hU], by rw [hU]; exact hr.1, va_K.moved hW.alike hK, hr.2.1.weaken (fun _ _ _ _ => trivial), hN.warm hW⟩⟩ rfl (by rw [List.length_map]; exact hn) (hl.1.trans hls) (by rw [List.map_append, List.map_reverse]; rfl) (lv_room (cats_cv hst)) d ⟨hcs.1, hcs.2⟩) hr.2.2 (fun q _ h => hfree q h) hfree (fun r u t H1 locs1 ht hvm hw hB hz1 hk1 hS => ?_)
  subst hw
  obtain ⟨hP1, hK1, hD1⟩ := hB
  rw [ht] at hP1
  exact K H1 locs1 lsA ⟨hP1, hD1.weaken (fun k q _ h => hfree _ h), hS⟩ hl
theorem a_callVv (C : Cx X cc nL own ret rm) {idx n : Nat} (d : Dec cc pc (.invokevirtual idx) 3 nx) {M : MI} (w : CWV own idx M n) (hR : fitR M rm) (hcs : ce ≤ rm.cells ∧ sl ≤ rm.slots) (hls : ls.length = nL) {As : List Value} (hn : As.length = n) {a ci N : Nat} {T : u_T} {fl : List (Option (Option Nat))} (ha : SH[a]? = some (.inr (ci, fl))) (hci : vwCl[ci]? = some (M.1.cls, T, N)) (hM : Cv M (.ref a :: As) SH σ τ) (hst : cats st) (K : AW X ce sl ad SH τ nx ls st) : AW X ce sl ad SH σ pc ls (As.reverse ++ .ref a :: st) := by
  obtain ⟨p, l, e, R, s, m, args, below, meth, c, D, cA, A, Q⟩ := X
  obtain ⟨hx, hb, hml, hown, hts, hK, hA, hlocks, hret, rfl, hN⟩ := C
  obtain ⟨d, rfl⟩ := d
  obtain ⟨w0, w1, w2, w3⟩ := w
  intro H locs lsA hr hl
  have hfree := rl_free hr hA
  refine va_callv (va_runV (As := As.map (cv ad)) (rest := st.map (cv ad)) (b := ad a) (C := M.1.cls) ⟨hx, hb, hml, hown, hts⟩ (hM l D cA ad H.size) ⟨callB_TB hts w0 (hts _ w1) hR, hts _ w2, hts _ w3⟩ ⟨preW_blind, va_recv hK hr.1 hci (wld_get0 ha), fun U hU hW => ⟨rfl, by rw [hU], by rw [hU]; exact hr.1, va_K.moved hW.alike hK, hr.2.1.weaken (fun _ _ _ _ => trivial), hN.warm hW⟩⟩ rfl (by rw [List.length_map]; exact hn) (hl.1.trans hls) (by rw [List.map_append, List.map_reverse]; rfl) (lv_room (cats_cv hst)) d ⟨hcs.1, hcs.2⟩) hr.2.2 (fun q _ h => hfree q h) hfree (fun u t H1 locs1 ht hvm hw hB hz1 hk1 hS => ?_)
  obtain ⟨hP1, hK1, hD1⟩ := hB
  rw [ht] at hP1
  exact K H1 locs1 lsA ⟨hP1, hD1.weaken (fun k q _ h => hfree _ h), hS⟩ hl
theorem a_callSi (C : Cx X cc nL own ret rm) {idx n : Nat} (d : Dec cc pc (.invokestatic idx) 3 nx) {M : MI} (w : CWS own idx M n) (hR : fitR M rm) (hcs : ce ≤ rm.cells ∧ sl ≤ rm.slots) (hls : ls.length = nL) {As : List Value} (hn : As.length = n) {res : Int32 × Sg} (hM : Ci M As SH σ res) (hst : cats st) (K : AW X ce sl ad SH res.2 nx ls (.int res.1 :: st)) : AW X ce sl ad SH σ pc ls (As.reverse ++ st) := by
  obtain ⟨p, l, e, R, s, m, args, below, meth, c, D, cA, A, Q⟩ := X
  obtain ⟨hx, hb, hml, hown, hts, hK, hA, hlocks, hret, rfl, hN⟩ := C
  obtain ⟨d, rfl⟩ := d
  obtain ⟨w0, w1, w2⟩ := w
  intro H locs lsA hr hl
  have hfree := rl_free hr hA
  refine va_calli (va_runS (As := As.map (cv ad)) (rest := st.map (cv ad)) ⟨hx, hb, hml, hown, hts⟩ (hM l D cA ad H.size) ⟨callB_TB hts w0 (hts _ w1) hR, hts _ w2⟩ ⟨preW_blind, fun U hU hW => ⟨rfl, by rw [hU], by rw [hU]; exact hr.1, va_K.moved hW.alike hK, hr.2.1.weaken (fun _ _ _ _ => trivial), hN.warm hW⟩⟩ rfl (by rw [List.length_map]; exact hn) (hl.1.trans hls) (by rw [List.map_append, List.map_reverse]) (lv_room (cats_cv hst)) d ⟨hcs.1, hcs.2⟩) hr.2.2 (fun q _ h => hfree q h) hfree (fun r u t H1 locs1 ht hvm hw hB hz1 hk1 hS => ?_)
  subst hw
  obtain ⟨hP1, hK1, hD1⟩ := hB
  rw [ht] at hP1
  exact K H1 locs1 lsA ⟨hP1, hD1.weaken (fun k q _ h => hfree _ h), hS⟩ hl
theorem a_callSv (C : Cx X cc nL own ret rm) {idx n : Nat} (d : Dec cc pc (.invokestatic idx) 3 nx) {M : MI} (w : CWS own idx M n) (hR : fitR M rm) (hcs : ce ≤ rm.cells ∧ sl ≤ rm.slots) (hls : ls.length = nL) {As : List Value} (hn : As.length = n) (hM : Cv M As SH σ τ) (hst : cats st) (K : AW X ce sl ad SH τ nx ls st) : AW X ce sl ad SH σ pc ls (As.reverse ++ st) := by
  obtain ⟨p, l, e, R, s, m, args, below, meth, c, D, cA, A, Q⟩ := X
  obtain ⟨hx, hb, hml, hown, hts, hK, hA, hlocks, hret, rfl, hN⟩ := C
  obtain ⟨d, rfl⟩ := d
  obtain ⟨w0, w1, w2⟩ := w
  intro H locs lsA hr hl
  have hfree := rl_free hr hA
  refine va_callv (va_runS (As := As.map (cv ad)) (rest := st.map (cv ad)) ⟨hx, hb, hml, hown, hts⟩ (hM l D cA ad H.size) ⟨callB_TB hts w0 (hts _ w1) hR, hts _ w2⟩ ⟨preW_blind, fun U hU hW => ⟨rfl, by rw [hU], by rw [hU]; exact hr.1, va_K.moved hW.alike hK, hr.2.1.weaken (fun _ _ _ _ => trivial), hN.warm hW⟩⟩ rfl (by rw [List.length_map]; exact hn) (hl.1.trans hls) (by rw [List.map_append, List.map_reverse]) (lv_room (cats_cv hst)) d ⟨hcs.1, hcs.2⟩) hr.2.2 (fun q _ h => hfree q h) hfree (fun u t H1 locs1 ht hvm hw hB hz1 hk1 hS => ?_)
  obtain ⟨hP1, hK1, hD1⟩ := hB
  rw [ht] at hP1
  exact K H1 locs1 lsA ⟨hP1, hD1.weaken (fun k q _ h => hfree _ h), hS⟩ hl
theorem a_callNi (C : Cx X cc nL own ret rm) {idx n : Nat} {host : String} (d : Dec cc pc (.invokestatic idx) 3 nx) {M : MI} (w : CWN own idx M n host) (hR : fitR M rm) (hcs : ce ≤ rm.cells ∧ sl ≤ rm.slots) (hls : ls.length = nL) {As : List Value} (hn : As.length = n) {res : Int32 × Sg} (hM : Ci M As SH σ res) (hst : cats st) (K : AW X ce sl ad SH res.2 nx ls (.int res.1 :: st)) : AW X ce sl ad SH σ pc ls (As.reverse ++ st) := by
  obtain ⟨p, l, e, R, s, m, args, below, meth, c, D, cA, A, Q⟩ := X
  obtain ⟨hx, hb, hml, hown, hts, hK, hA, hlocks, hret, rfl, hN⟩ := C
  obtain ⟨d, rfl⟩ := d
  obtain ⟨⟨u1, u2, u3, u4⟩, w1, w2⟩ := w
  intro H locs lsA hr hl
  have hfree := rl_free hr hA
  have hall : ∀ x ∈ wsOf M, x ∈ TB := fun x hx => (List.mem_cons.mp hx).elim (fun e => e ▸ u2) id
  refine va_calli (va_runSN (As := As.map (cv ad)) (rest := st.map (cv ad)) (host := host) ⟨hx, hb, hml, hown, hts⟩ (hM l D cA ad H.size) ⟨⟨⟨hR.2.2.1, hR.2.2.2, hR.1, hR.2.1, pay_in hts (gd_TB hall), List.mem_cons_self⟩, hts _ u2, hts _ u1, u3, fun sig h => by
    rw [h] at u4
    exact (Option.some.inj u4).symm, va_Nw.use rfl (hN _ w1)⟩, hts _ w2, trivial⟩ ⟨preW_blind, fun U hU hW => ⟨rfl, by rw [hU], by rw [hU]; exact hr.1, va_K.moved hW.alike hK, hr.2.1.weaken (fun _ _ _ _ => trivial), hN.warm hW⟩⟩ rfl (by rw [List.length_map]; exact hn) (hl.1.trans hls) (by rw [List.map_append, List.map_reverse]) (lv_room (cats_cv hst)) d ⟨hcs.1, hcs.2⟩) hr.2.2 (fun q _ h => hfree q h) hfree (fun r u t H1 locs1 ht hvm hw hB hz1 hk1 hS => ?_)
  subst hw
  obtain ⟨hP1, hK1, hD1⟩ := hB
  rw [ht] at hP1
  exact K H1 locs1 lsA ⟨hP1, hD1.weaken (fun k q _ h => hfree _ h), hS⟩ hl
end AWC
/-- a boolean's answer -/
def nb (ret : Option FieldType) (v : Int32) : Prop := ∃ ty, ret = some ty ∧ narrow ty (.int v) = .int v
theorem nb_int {v : Int32} : nb (some .int) v := ⟨_, rfl, rfl⟩
theorem nb_1 : nb (some .boolean) 1 := ⟨_, rfl, rfl⟩
theorem nb_0 : nb (some .boolean) 0 := ⟨_, rfl, rfl⟩
theorem nb_b {v : Int32} (h : v = 0 ∨ v = 1) : nb (some .boolean) v := by
  rcases h with rfl | rfl
  · exact nb_0
  · exact nb_1
/-- the end of a walk: the answer and the world -/
def Ri (X : CT) (cc : ByteArray) (ret : Option FieldType) (ad : Nat → Nat) (SH : List Shp) (res : Int32 × Sg) : Prop := ∀ (pc nx : Nat) (ls : List (Option Value)), Dec cc pc .ireturn 1 nx → nb ret res.1 → AW X 0 0 ad SH res.2 pc ls [.int res.1]
def Rv (X : CT) (cc : ByteArray) (ad : Nat → Nat) (SH : List Shp) (τ : Sg) : Prop := ∀ (pc nx : Nat) (ls : List (Option Value)), Dec cc pc .return_ 1 nx → AW X 0 0 ad SH τ pc ls []
def padL (av : List Value) (nL : Nat) : List (Option Value) := av.map some ++ List.replicate (nL - av.length) none
theorem lg_sl_cat1 : ∀ (av : List Value), (∀ v ∈ av, v.category = 1) → lg_sl av = av.map Slot.val
  | [], _ => rfl
  | v :: av, h => by
    have h1 := lg_sl_cat1 av (fun w hw => h w (List.mem_cons_of_mem _ hw))
    have h2 := h v List.mem_cons_self
    show (if v.category = 2 then [Slot.val v, Slot.second] else [Slot.val v]) ++ lg_sl av = _
    rw [if_neg (by omega), h1]
    rfl
theorem lr_entry {ad : Nat → Nat} {av : List Value} {nL : Nat} (hc : ∀ v ∈ av, v.category = 1) (hn : av.length ≤ nL) : lr ad ((lg_sl (av.map (cv ad)) ++ List.replicate (nL - (lg_sl (av.map (cv ad))).length) Slot.unset).toArray) (padL av nL) := by
  have hc2 : ∀ v ∈ av.map (cv ad), v.category = 1 := fun v hv => by
    obtain ⟨w, h1, rfl⟩ := List.mem_map.mp hv
    rw [cv_cat]
    exact hc w h1
  have e1 := lg_sl_cat1 _ hc2
  have hl : (lg_sl (av.map (cv ad))).length ≤ nL := by rw [e1]; simpa using hn
  have h1 := lv_entry (av.map (cv ad)) hl
  refine ⟨?_, h1.2.1, fun i v hv => ?_⟩
  · rw [h1.1]
    simp [padL]
    omega
  · have hi : i < av.length := by
      rcases Nat.lt_or_ge i av.length with q | q
      · exact q
      · unfold padL at hv
        rw [List.getElem?_append_right (by simpa using q)] at hv
        rw [List.getElem?_replicate] at hv
        split at hv <;> simp at hv
    unfold padL at hv
    rw [List.getElem?_append_left (by simpa using hi), List.getElem?_map] at hv
    cases hg : av[i]? with
    | none => rw [hg] at hv; simp at hv
    | some w =>
      rw [hg] at hv
      simp at hv
      subst hv
      refine ⟨hc w (List.mem_of_getElem? hg), ?_⟩
      rw [List.getElem?_toArray, e1, List.getElem?_append_left (by simpa using hi)]
      simp [hg]
theorem Ci.start {M : MI} {av : List Value} {SH : List Shp} {σ : Sg} {res : Int32 × Sg} (hy : plainName M.1.cls = true) (hc : av.all (fun v => v.category == 1) = true) (hn : av.length ≤ M.2.2.1)
    (h : ∀ (X : CT) (ad : Nat → Nat), Cx X M.2.1 M.2.2.1 M.1.cls M.2.2.2.1 M.2.2.2.2 → Ri X M.2.1 M.2.2.2.1 ad SH res → AW X 0 0 ad SH σ 0 (padL av M.2.2.1) []) : Ci M av SH σ res := by
  intro l D cA ad sz
  obtain ⟨y, cc, nL, ret, rm⟩ := M
  refine Met.ofW (cc := cc) (maxL := nL) (ret := ret) hy rfl ?_
  intro p e s m args below meth c s₁ B hml hv
  obtain ⟨rfl, rfl, hP, hK, hD0, hN⟩ := hv
  have hts := atoms_spec (ws := wsOf (y, cc, nL, ret, rm)) B.pre
  have hlocks := B.notSynchronized
  have hret := B.returns
  have hA : ∀ q, s.heap.size ≤ q → va_A (wld ad cA σ 0 SH) s.heap.size q := fun q h => Or.inr h
  rw [lg_entry_eq]
  refine h (p, l, e, rm, s, m, ((av.map (cv ad)).toArray), below, meth, c, D, cA, va_A (wld ad cA σ 0 SH) s.heap.size, MQ below (va_Qi (fun r (_ : Unit) => r = res.1) (bWd D cA ad SH res.2 (va_A (wld ad cA σ 0 SH) s.heap.size)) (va_A (wld ad cA σ 0 SH) s.heap.size)) ((av.map (cv ad)).toArray) s 0 0 (va_A (wld ad cA σ 0 SH) s.heap.size)) ad ⟨B.exec, B.bytes, hml, findClass_of_methodNamed B.named, fun w hw => hts w (List.mem_cons_of_mem _ hw), hK, hA, hlocks, hret, rfl, hN⟩ ?_ s.heap [] _ ⟨hP, hD0.self, va_S.rf⟩ (lr_entry (fun v hv => by simpa using List.all_eq_true.mp hc v hv) hn)
  intro pc nx ls hdg hnb H locs lsA hr hl
  obtain ⟨ty, e1, e2⟩ := hnb
  have e1 : ret = some ty := e1
  exact W.zret (v := res.1) (ty := ty) B.exec B.bytes (hret.trans e1) e2 (fun t ht hW => ⟨⟨res.1, (), rfl, rfl, by rw [ht]; exact hr.1, va_K.moved hW.alike hK, hr.2.1⟩, hr.2.2.F ht⟩) hr.2.2.2.2 hdg.1 hlocks
theorem Cv.start {M : MI} {av : List Value} {SH : List Shp} {σ τ : Sg} (hy : plainName M.1.cls = true) (hc : av.all (fun v => v.category == 1) = true) (hn : av.length ≤ M.2.2.1) (hret : M.2.2.2.1 = none)
    (h : ∀ (X : CT) (ad : Nat → Nat), Cx X M.2.1 M.2.2.1 M.1.cls M.2.2.2.1 M.2.2.2.2 → Rv X M.2.1 ad SH τ → AW X 0 0 ad SH σ 0 (padL av M.2.2.1) []) : Cv M av SH σ τ := by
  intro l D cA ad sz
  obtain ⟨y, cc, nL, ret, rm⟩ := M
  have hr0 : ret = none := hret
  subst hr0
  refine Met.ofW (cc := cc) (maxL := nL) (ret := none) hy rfl ?_
  intro p e s m args below meth c s₁ B hml hv
  obtain ⟨rfl, rfl, hP, hK, hD0, hN⟩ := hv
  have hts := atoms_spec (ws := wsOf (y, cc, nL, none, rm)) B.pre
  have hlocks := B.notSynchronized
  have hret := B.returns
  have hA : ∀ q, s.heap.size ≤ q → va_A (wld ad cA σ 0 SH) s.heap.size q := fun q h => Or.inr h
  rw [lg_entry_eq]
  refine h (p, l, e, rm, s, m, ((av.map (cv ad)).toArray), below, meth, c, D, cA, va_A (wld ad cA σ 0 SH) s.heap.size, MQ below (va_Qv (fun (_ : Unit) => True) (bWd D cA ad SH τ (va_A (wld ad cA σ 0 SH) s.heap.size)) (va_A (wld ad cA σ 0 SH) s.heap.size)) ((av.map (cv ad)).toArray) s 0 0 (va_A (wld ad cA σ 0 SH) s.heap.size)) ad ⟨B.exec, B.bytes, hml, findClass_of_methodNamed B.named, fun w hw => hts w (List.mem_cons_of_mem _ hw), hK, hA, hlocks, hret, rfl, hN⟩ ?_ s.heap [] _ ⟨hP, hD0.self, va_S.rf⟩ (lr_entry (fun v hv => by simpa using List.all_eq_true.mp hc v hv) hn)
  intro pc nx ls hdg H locs lsA hr hl
  exact W.vret B.exec B.bytes hret (fun t ht hW => ⟨⟨(), rfl, trivial, by rw [ht]; exact hr.1, va_K.moved hW.alike hK, hr.2.1⟩, hr.2.2.F ht⟩) hr.2.2.2.2 hdg.1 hlocks
