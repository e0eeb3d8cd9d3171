/-! constructors that read the string -/
def CkS (M : MI) (av : List Value) (SH : List Shp) (σ : Sg) (SH' : List Shp) (τ : Sg) : Prop := ∀ (l : Launch) (D : va_G) (cA : ClassId) (ad : Nat → Nat) (sz : Nat) (fv : Value),
  Met l M.1 (wsOf M) M.2.2.2.2 (va_Pc (av.map (cv ad)) (fun U => preW D cA ad SH σ sz U ∧ StrE (va_A (wld ad cA σ 0 SH) sz) ad fv U)) (va_Qv (fun (u : Nat → Nat) => agr SH.length SH'.length ad u) (fun u t => bWd D cA u SH' τ (va_A (wld ad cA σ 0 SH) sz) () t) (va_A (wld ad cA σ 0 SH) sz)) M.2.2.2.2.cells M.2.2.2.2.slots (va_A (wld ad cA σ 0 SH) sz)
theorem CkS.start {M : MI} {av : List Value} {SH SH' : List Shp} {σ τ : Sg} (hy : plainName M.1.cls = true) (hnm : M.1.name = "<init>") (hc : av.all (fun v => v.category == 1) = true) (hn : av.length ≤ M.2.2.1) (hret : M.2.2.2.1 = none)
    (h : ∀ (X : CT) (ad : Nat → Nat) (fv : Value), Cx X M.2.1 M.2.2.1 M.1.cls M.2.2.2.1 M.2.2.2.2 → nmI X → StrX X ad fv → Rk X M.2.1 M.2.2.2.2.cells M.2.2.2.2.slots ad SH.length SH' τ → AW X 0 0 ad SH σ 0 (padL av M.2.2.1) []) : CkS M av SH σ SH' τ := by
  intro l D cA ad sz fv
  obtain ⟨y, cc, nL, ret, rm⟩ := M
  have hr0 : ret = none := hret
  subst hr0
  refine Met.ofW (cc := cc) (maxL := nL) (ret := none) hy rfl ?_
  intro p e s m args below meth c s₁ B hml hv
  obtain ⟨rfl, ⟨rfl, hP, hK, hD0, hN⟩, hE⟩ := hv
  have hts := atoms_spec (ws := wsOf (y, cc, nL, none, rm)) B.pre
  have hlocks := B.notSynchronized
  have hret := B.returns
  have hin : meth.name = "<init>" := (name_of_methodNamed B.named B.method).1.trans hnm
  have hA : ∀ q, s.heap.size ≤ q → va_A (wld ad cA σ 0 SH) s.heap.size q := fun q h => Or.inr h
  rw [lg_entry_eq]
  refine h (p, l, e, rm, s, m, ((av.map (cv ad)).toArray), below, meth, c, D, cA, va_A (wld ad cA σ 0 SH) s.heap.size, MQ below (va_Qv (fun (u : Nat → Nat) => agr SH.length SH'.length ad u) (fun u t => bWd D cA u SH' τ (va_A (wld ad cA σ 0 SH) s.heap.size) () t) (va_A (wld ad cA σ 0 SH) s.heap.size)) ((av.map (cv ad)).toArray) s rm.cells rm.slots (va_A (wld ad cA σ 0 SH) s.heap.size)) ad fv ⟨B.exec, B.bytes, hml, findClass_of_methodNamed B.named, fun w hw => hts w (List.mem_cons_of_mem _ hw), hK, hA, hlocks, hret, rfl, hN⟩ hin hE ?_ s.heap [] _ ⟨hP, hD0.self, va_S.rf⟩ (lr_entry (fun v hv => by simpa using List.all_eq_true.mp hc v hv) hn)
  intro pc nx ls u hu hdg H locs lsA hr hl
  exact W.vret B.exec B.bytes hret (fun t ht hW => ⟨⟨u, rfl, hu, by rw [ht]; exact hr.1, va_K.moved hW.alike hK, hr.2.1⟩, hr.2.2.F ht⟩) hr.2.2.2.2 hdg.1 hlocks
theorem a_cKS {X : CT} {cc : ByteArray} {nL : Nat} {own : String} {ret : Option FieldType} {rm : Room} {ce sl : Nat} {ad : Nat → Nat} {SH SH' : List Shp} {σ τ : Sg} {pc nx : Nat} {ls : List (Option Value)} {st : List Value} {fv : Value} (C : Cx X cc nL own ret rm) (E : StrX X ad fv) {idx : Nat} (d : Dec cc pc (.invokespecial idx) 3 nx) {M : MI} (w : CWI own idx M 0) (hR : fitK M rm ce sl) (hls : ls.length = nL) {a : Nat} (hM : CkS M [.ref a] SH σ SH' τ) (hst : cats st) (lo hi ce' sl' : Nat) (hlo : SH.length = lo) (hhi : SH'.length = hi) (hce : ce + M.2.2.2.2.cells = ce') (hsl : sl + M.2.2.2.2.slots = sl') (hl0 : ls.all (oB lo hi) = true) (hs0 : st.all (vB lo hi) = true) (K : ∀ u, agr lo hi ad u → AW X ce' sl' u SH' τ nx ls st) : AW X ce sl ad SH σ pc ls (.ref a :: st) := by
  subst hlo; subst hhi; subst hce; subst hsl
  obtain ⟨p, l, e, R, s, m, args, below, meth, c, D, cA, A, Q⟩ := X
  obtain ⟨hx, hb, hml, hown, hts, hK, hA, hlocks, hret, rfl, hN⟩ := C
  obtain ⟨d, rfl⟩ := d
  obtain ⟨⟨u1, u2, u3, u4⟩, w1, w2, w3, w4⟩ := w
  obtain ⟨y, bc, nM, rM, rmM⟩ := M
  have hr0 : rM = none := w4
  subst hr0
  have E : StrE A ad fv s := E
  intro H locs lsA hr hl
  have hfree := rl_free hr hA
  have hall : ∀ x ∈ wsOf (y, bc, nM, none, rmM), x ∈ TB := fun x hx => (List.mem_cons.mp hx).elim (fun e => e ▸ u2) id
  refine va_callv (va_runI (As := []) (rest := st.map (cv ad)) (b := ad a) (maxL := nM) (bytes := bc) ⟨hx, hb, hml, hown, hts⟩ (hM l D cA ad H.size fv) ⟨⟨rfl, rfl, hR.1, hR.2.1, pay_in hts (gd_TB hall), List.mem_cons_self, hts _ u2, hts _ u1, u3, fun sig h => by
    rw [h] at u4
    exact (Option.some.inj u4).symm, hts _ w1⟩, w3, hts _ w2⟩ ⟨fun a U g mk q => ⟨(preW_blind a U g mk ⟨q.1, q.2.1⟩).1, (preW_blind a U g mk ⟨q.1, q.2.1⟩).2, q.2.2.blind⟩, fun U hU hW => ⟨rfl, ⟨by rw [hU], by rw [hU]; exact hr.1, va_K.moved hW.alike hK, hr.2.1.weaken (fun _ _ _ _ => trivial), hN.warm hW⟩, strE_at hr hA E hU hW⟩⟩ rfl rfl (hl.1.trans hls) rfl (lv_room (cats_cv hst)) d ⟨hR.2.2.1, hR.2.2.2⟩) hr.2.2 (fun q _ h => hfree q h) hfree (fun u t H1 locs1 ht hvm hw hB hz1 hk1 hS => ?_)
  obtain ⟨hP1, hK1, hD1⟩ := hB
  rw [ht] at hP1
  have hk := K u hw H1 locs1 lsA ⟨hP1, hD1.weaken (fun k q _ h => hfree _ h), hS⟩ (lr_agr hw hl hl0)
  rw [st_agr hw hs0] at hk
  exact hk
