/-! CONTRACTS OF CONSTRUCTORS: the world grows from SH to SH', the old cells keep their addresses -/
def Ck (M : MI) (av : List Value) (SH : List Shp) (σ : Sg) (SH' : List Shp) (τ : Sg) : Prop := ∀ (l : Launch) (D : va_G) (cA : ClassId) (ad : Nat → Nat) (sz : Nat),
  Met l M.1 (wsOf M) M.2.2.2.2 (va_Pc (av.map (cv ad)) (preW D cA ad SH σ sz)) (va_Qv (fun (u : Nat → Nat) => agr SH.length SH'.length ad u) (fun u t => bWd D cA u SH' τ (va_A (wld ad cA σ 0 SH) sz) () t) (va_A (wld ad cA σ 0 SH) sz)) M.2.2.2.2.cells M.2.2.2.2.slots (va_A (wld ad cA σ 0 SH) sz)
def Rk (X : CT) (cc : ByteArray) (ce sl : Nat) (ad : Nat → Nat) (lo : Nat) (SH' : List Shp) (τ : Sg) : Prop := ∀ (pc nx : Nat) (ls : List (Option Value)) (u : Nat → Nat), agr lo SH'.length ad u → Dec cc pc .return_ 1 nx → AW X ce sl u SH' τ pc ls []
theorem Ck.start {M : MI} {av : List Value} {SH SH' : List Shp} {σ τ : Sg} (hy : plainName M.1.cls = true) (hnm : M.1.name = "<init>") (hc : av.all (fun v => v.category == 1) = true) (hn : av.length ≤ M.2.2.1) (hret : M.2.2.2.1 = none)
    (h : ∀ (X : CT) (ad : Nat → Nat), Cx X M.2.1 M.2.2.1 M.1.cls M.2.2.2.1 M.2.2.2.2 → nmI X → Rk X M.2.1 M.2.2.2.2.cells M.2.2.2.2.slots ad SH.length SH' τ → AW X 0 0 ad SH σ 0 (padL av M.2.2.1) []) : Ck M av SH σ SH' τ := by
  intro l D cA ad sz
  obtain ⟨y, cc, nL, ret, rm⟩ := M
  have hr0 : ret = none := hret
  subst hr0
  refine Met.ofW (cc := cc) (maxL := nL) (ret := none) hy rfl ?_
  intro p e s m args below meth c s₁ B hml hv
  obtain ⟨rfl, rfl, hP, hK, hD0, hN⟩ := hv
  have hts := atoms_spec (ws := wsOf (y, cc, nL, none, rm)) B.pre
  have hlocks := B.notSynchronized
  have hret := B.returns
  have hin : meth.name = "<init>" := (name_of_methodNamed B.named B.method).1.trans hnm
  have hA : ∀ q, s.heap.size ≤ q → va_A (wld ad cA σ 0 SH) s.heap.size q := fun q h => Or.inr h
  rw [lg_entry_eq]
  refine h (p, l, e, rm, s, m, ((av.map (cv ad)).toArray), below, meth, c, D, cA, va_A (wld ad cA σ 0 SH) s.heap.size, MQ below (va_Qv (fun (u : Nat → Nat) => agr SH.length SH'.length ad u) (fun u t => bWd D cA u SH' τ (va_A (wld ad cA σ 0 SH) s.heap.size) () t) (va_A (wld ad cA σ 0 SH) s.heap.size)) ((av.map (cv ad)).toArray) s rm.cells rm.slots (va_A (wld ad cA σ 0 SH) s.heap.size)) ad ⟨B.exec, B.bytes, hml, findClass_of_methodNamed B.named, fun w hw => hts w (List.mem_cons_of_mem _ hw), hK, hA, hlocks, hret, rfl, hN⟩ hin ?_ s.heap [] _ ⟨hP, hD0.self, va_S.rf⟩ (lr_entry (fun v hv => by simpa using List.all_eq_true.mp hc v hv) hn)
  intro pc nx ls u hu hdg H locs lsA hr hl
  exact W.vret B.exec B.bytes hret (fun t ht hW => ⟨⟨u, rfl, hu, by rw [ht]; exact hr.1, va_K.moved hW.alike hK, hr.2.1⟩, hr.2.2.F ht⟩) hr.2.2.2.2 hdg.1 hlocks
/-- a constructor's call -/
def CWI (own : String) (idx : Nat) (M : MI) (n : Nat) : Prop := CWb M n ∧ Cond.methodLink own idx M.1 ∈ TB ∧ Cond.instanceMethod M.1 ∈ TB ∧ M.1.name = "<init>" ∧ M.2.2.2.1 = none
def fitK (M : MI) (rm : Room) (ce sl : Nat) : Prop := M.2.2.2.2.frames + 1 ≤ rm.frames ∧ 8 + (M.2.2.1 + 11) + M.2.2.2.2.locals ≤ rm.locals ∧ ce + M.2.2.2.2.cells ≤ rm.cells ∧ sl + M.2.2.2.2.slots ≤ rm.slots
section AWK
variable {X : CT} {cc : ByteArray} {nL : Nat} {own : String} {ret : Option FieldType} {rm : Room} {ce sl : Nat} {ad : Nat → Nat} {SH SH' : List Shp} {σ τ : Sg} {pc nx tgt : Nat} {ls : List (Option Value)} {st : List Value}
theorem a_callK (C : Cx X cc nL own ret rm) {idx n : Nat} (d : Dec cc pc (.invokespecial idx) 3 nx) {M : MI} (w : CWI own idx M n) (hR : fitK M rm ce sl) (hls : ls.length = nL) {As : List Value} (hn : As.length = n) {a : Nat} (hM : Ck M (.ref a :: As) SH σ SH' τ) (hst : cats st) (lo hi ce' sl' : Nat) (hlo : SH.length = lo) (hhi : SH'.length = hi) (hce : ce + M.2.2.2.2.cells = ce') (hsl : sl + M.2.2.2.2.slots = sl') (hl0 : ls.all (oB lo hi) = true) (hs0 : st.all (vB lo hi) = true) (K : ∀ u, agr lo hi ad u → AW X ce' sl' u SH' τ nx ls st) : AW X ce sl ad SH σ pc ls (As.reverse ++ .ref a :: st) := by
  subst hlo; subst hhi; subst hce; subst hsl
  obtain ⟨p, l, e, R, s, m, args, below, meth, c, D, cA, A, Q⟩ := X
  obtain ⟨hx, hb, hml, hown, hts, hK, hA, hlocks, hret, rfl, hN⟩ := C
  obtain ⟨d, rfl⟩ := d
  obtain ⟨⟨u1, u2, u3, u4⟩, w1, w2, w3, w4⟩ := w
  obtain ⟨y, bc, nM, rM, rmM⟩ := M
  have hr0 : rM = none := w4
  subst hr0
  intro H locs lsA hr hl
  have hfree := rl_free hr hA
  have hall : ∀ x ∈ wsOf (y, bc, nM, none, rmM), x ∈ TB := fun x hx => (List.mem_cons.mp hx).elim (fun e => e ▸ u2) id
  refine va_callv (va_runI (As := As.map (cv ad)) (rest := st.map (cv ad)) (b := ad a) (maxL := nM) (bytes := bc) ⟨hx, hb, hml, hown, hts⟩ (hM l D cA ad H.size) ⟨⟨rfl, rfl, hR.1, hR.2.1, pay_in hts (gd_TB hall), List.mem_cons_self, hts _ u2, hts _ u1, u3, fun sig h => by
    rw [h] at u4
    exact (Option.some.inj u4).symm, hts _ w1⟩, w3, hts _ w2⟩ ⟨preW_blind, fun U hU hW => ⟨rfl, by rw [hU], by rw [hU]; exact hr.1, va_K.moved hW.alike hK, hr.2.1.weaken (fun _ _ _ _ => trivial), hN.warm hW⟩⟩ rfl (by rw [List.length_map]; exact hn) (hl.1.trans hls) (by rw [List.map_append, List.map_reverse]; rfl) (lv_room (cats_cv hst)) d ⟨hR.2.2.1, hR.2.2.2⟩) hr.2.2 (fun q _ h => hfree q h) hfree (fun u t H1 locs1 ht hvm hw hB hz1 hk1 hS => ?_)
  obtain ⟨hP1, hK1, hD1⟩ := hB
  rw [ht] at hP1
  have hk := K u hw H1 locs1 lsA ⟨hP1, hD1.weaken (fun k q _ h => hfree _ h), hS⟩ (lr_agr hw hl hl0)
  rw [st_agr hw hs0] at hk
  exact hk
theorem a_cK0 (C : Cx X cc nL own ret rm) {idx : Nat} (d : Dec cc pc (.invokespecial idx) 3 nx) {M : MI} (w : CWI own idx M 0) (hR : fitK M rm ce sl) (hls : ls.length = nL) {a : Nat} (hM : Ck M [.ref a] SH σ SH' τ) (hst : cats st) (lo hi ce' sl' : Nat) (hlo : SH.length = lo) (hhi : SH'.length = hi) (hce : ce + M.2.2.2.2.cells = ce') (hsl : sl + M.2.2.2.2.slots = sl') (hl0 : ls.all (oB lo hi) = true) (hs0 : st.all (vB lo hi) = true) (K : ∀ u, agr lo hi ad u → AW X ce' sl' u SH' τ nx ls st) : AW X ce sl ad SH σ pc ls (.ref a :: st) := a_callK (As := []) C d w hR hls rfl hM hst lo hi ce' sl' hlo hhi hce hsl hl0 hs0 K
theorem a_cK1 (C : Cx X cc nL own ret rm) {idx : Nat} (d : Dec cc pc (.invokespecial idx) 3 nx) {M : MI} (w : CWI own idx M 1) (hR : fitK M rm ce sl) (hls : ls.length = nL) {a : Nat} {v1 : Value} (hM : Ck M [.ref a, v1] SH σ SH' τ) (hst : cats st) (lo hi ce' sl' : Nat) (hlo : SH.length = lo) (hhi : SH'.length = hi) (hce : ce + M.2.2.2.2.cells = ce') (hsl : sl + M.2.2.2.2.slots = sl') (hl0 : ls.all (oB lo hi) = true) (hs0 : st.all (vB lo hi) = true) (K : ∀ u, agr lo hi ad u → AW X ce' sl' u SH' τ nx ls st) : AW X ce sl ad SH σ pc ls (v1 :: .ref a :: st) := a_callK (As := [v1]) C d w hR hls rfl hM hst lo hi ce' sl' hlo hhi hce hsl hl0 hs0 K
theorem a_cK2 (C : Cx X cc nL own ret rm) {idx : Nat} (d : Dec cc pc (.invokespecial idx) 3 nx) {M : MI} (w : CWI own idx M 2) (hR : fitK M rm ce sl) (hls : ls.length = nL) {a : Nat} {v1 v2 : Value} (hM : Ck M [.ref a, v1, v2] SH σ SH' τ) (hst : cats st) (lo hi ce' sl' : Nat) (hlo : SH.length = lo) (hhi : SH'.length = hi) (hce : ce + M.2.2.2.2.cells = ce') (hsl : sl + M.2.2.2.2.slots = sl') (hl0 : ls.all (oB lo hi) = true) (hs0 : st.all (vB lo hi) = true) (K : ∀ u, agr lo hi ad u → AW X ce' sl' u SH' τ nx ls st) : AW X ce sl ad SH σ pc ls (v2 :: v1 :: .ref a :: st) := a_callK (As := [v1, v2]) C d w hR hls rfl hM hst lo hi ce' sl' hlo hhi hce hsl hl0 hs0 K
end AWK
