/-! ROWS THAT MAKE CELLS: new, newarray, constructors -/
/-- two maps of the cells' numbers that differ in lo .. hi - 1 alone -/
def agr (lo hi : Nat) (ad u : Nat → Nat) : Prop := ∀ k, k < lo ∨ hi ≤ k → u k = ad k
theorem agr.rf {lo hi : Nat} {ad : Nat → Nat} : agr lo hi ad ad := fun _ _ => rfl
theorem agr.tr {lo m hi : Nat} {a b c : Nat → Nat} (h1 : agr lo m a b) (h2 : agr m hi b c) (hm : lo ≤ m) (hh : m ≤ hi) : agr lo hi a c := fun k hk => (h2 k (by omega)).trans (h1 k (by omega))
def vB (lo hi : Nat) (v : Value) : Bool := match v with
  | .ref a => decide (a < lo ∨ hi ≤ a)
  | _ => true
def oB (lo hi : Nat) (o : Option Value) : Bool := match o with
  | some v => vB lo hi v
  | none => true
theorem cv_agr {lo hi : Nat} {ad u : Nat → Nat} (h : agr lo hi ad u) {v : Value} (hv : vB lo hi v = true) : cv u v = cv ad v := by
  cases v with
  | ref a => exact congrArg Value.ref (h a (of_decide_eq_true hv))
  | _ => rfl
theorem st_agr {lo hi : Nat} {ad u : Nat → Nat} (h : agr lo hi ad u) : ∀ {st : List Value}, st.all (vB lo hi) = true → st.map (cv u) = st.map (cv ad)
  | [], _ => rfl
  | v :: st, hs => by
    rw [List.all_cons, Bool.and_eq_true] at hs
    rw [List.map_cons, List.map_cons, cv_agr h hs.1, st_agr h hs.2]
theorem lr_agr {lo hi : Nat} {ad u : Nat → Nat} (h : agr lo hi ad u) {lsA : Array Slot} {ls : List (Option Value)} (hl : lr ad lsA ls) (hs : ls.all (oB lo hi) = true) : lr u lsA ls := ⟨hl.1, hl.2.1, fun i v hv => ⟨(hl.2.2 i v hv).1, by
  rw [cv_agr h (List.all_eq_true.mp hs _ (List.mem_of_getElem? hv))]
  exact (hl.2.2 i v hv).2⟩⟩
def fB (lo : Nat) (o : Option (Option Nat)) : Bool := match o with
  | some (some r) => decide (r < lo)
  | _ => true
def sB (lo : Nat) (sh : Shp) : Bool := match sh with
  | .inl _ => true
  | .inr (_, fl) => fl.all (fB lo)
theorem flds_agr {lo hi : Nat} {ad u : Nat → Nat} (h : agr lo hi ad u) {f : Nat → Int32} : ∀ {l : List (Option (Option Nat))} {j : Nat}, l.all (fB lo) = true → flds u f j l = flds ad f j l
  | [], _, _ => rfl
  | o :: l, j, hs => by
    rw [List.all_cons, Bool.and_eq_true] at hs
    show fld u f j o :: flds u f (j + 1) l = fld ad f j o :: flds ad f (j + 1) l
    rw [flds_agr h hs.2]
    congr 1
    match o, hs.1 with
    | none, _ => rfl
    | some none, _ => rfl
    | some (some r), hr => exact congrArg Value.ref (h r (Or.inl (of_decide_eq_true hr)))
theorem wld_agr {lo hi : Nat} {ad u : Nat → Nat} (h : agr lo hi ad u) {cA : ClassId} {σ : Sg} : ∀ {SH : List Shp} {j : Nat}, j + SH.length ≤ lo → SH.all (sB lo) = true → wld u cA σ j SH = wld ad cA σ j SH
  | [], _, _, _ => rfl
  | sh :: l, j, hj, hs => by
    rw [List.all_cons, Bool.and_eq_true] at hs
    rw [List.length_cons] at hj
    show (u j, cellE u cA (σ j) sh) :: wld u cA σ (j + 1) l = (ad j, cellE ad cA (σ j) sh) :: wld ad cA σ (j + 1) l
    rw [wld_agr h (by omega) hs.2, h j (Or.inl (by omega))]
    congr 2
    match sh, hs.1 with
    | .inl n, _ => rfl
    | .inr (ci, fl), hf => exact congrArg (fun x => (Sum.inr (ci, x) : va_E)) (flds_agr h hf)
theorem wld_app {ad : Nat → Nat} {cA : ClassId} {σ : Sg} : ∀ (SH : List Shp) (j : Nat) (sh : Shp), wld ad cA σ j (SH ++ [sh]) = wld ad cA σ j SH ++ [(ad (j + SH.length), cellE ad cA (σ (j + SH.length)) sh)]
  | [], j, sh => rfl
  | a :: l, j, sh => by
    show (ad j, cellE ad cA (σ j) a) :: wld ad cA σ (j + 1) (l ++ [sh]) = (ad j, cellE ad cA (σ j) a) :: (wld ad cA σ (j + 1) l ++ _)
    rw [wld_app l (j + 1) sh, List.length_cons, show j + 1 + l.length = j + (l.length + 1) by omega]
def ad1 (ad : Nat → Nat) (n q : Nat) : Nat → Nat := fun k => if k = n then q else ad k
theorem ad1_agr {ad : Nat → Nat} {n q : Nat} : agr n (n + 1) ad (ad1 ad n q) := fun k hk => by
  unfold ad1
  rw [if_neg (by omega)]
theorem ad1_at {ad : Nat → Nat} {n q : Nat} : ad1 ad n q n = q := by
  unfold ad1
  rw [if_pos rfl]
def zro : Nat → Int32 := fun _ => 0
section AWA
variable {X : CT} {cc : ByteArray} {nL : Nat} {own : String} {ret : Option FieldType} {rm : Room} {ce sl : Nat} {ad : Nat → Nat} {SH : List Shp} {σ τ : Sg} {pc nx tgt : Nat} {ls : List (Option Value)} {st : List Value}
theorem a_newa (C : Cx X cc nL own ret rm) (d : Dec cc pc (.newarray .int) 2 nx) (hw : Cond.arrayClass .int ∈ TB) {n : Int32} (N L : Nat) (hL : SH.length = L) (hn : ¬ n < 0) (hN : n.toNatClampNeg = N) (hby : N * 4 ≤ 536870912) (hce : ce + 1 ≤ rm.cells) (hsl : sl + N ≤ rm.slots) (hz : σ L = zro) (hs : SH.all (sB L) = true) (hl0 : ls.all (oB L (L + 1)) = true) (hst : st.all (vB L (L + 1)) = true) (K : ∀ u, agr L (L + 1) ad u → AW X (ce + 1) (sl + N) u (SH ++ [.inl N]) σ nx ls (.ref L :: st)) : AW X ce sl ad SH σ pc ls (.int n :: st) := by
  obtain ⟨p, l, e, R, s, m, args, below, meth, c, D, cA, A, Q⟩ := X
  obtain ⟨hx, hb, hml, hown, hts, hK, hA, hlocks, hret, rfl, hNw⟩ := C
  obtain ⟨d, rfl⟩ := d
  subst hL
  intro H locs lsA hr hl
  refine va_newa (atype := .int) (ty := .int) (a0 := (N, .inl (fun _ => 0))) hx hb (hts _ hw) rfl hK hr.1 hr.2.1 hr.2.2 hA (fun cA => rfl) hn hN hby hce hsl d (fun q cB H1 hK1 hP hD hS => ?_)
  have e1 : s.vm.findClass ("[" ++ FieldType.int.toString) = some cA := (hK.2 0 _ rfl).2
  have e2 : s.vm.findClass ("[" ++ FieldType.int.toString) = some cB := (hK1.2 1 _ rfl).2
  have e3 : cB = cA := Option.some.inj (e2.symm.trans e1)
  subst e3
  have hg := ad1_agr (ad := ad) (n := SH.length) (q := q)
  have ew : wld (ad1 ad SH.length q) cB σ 0 (SH ++ [.inl N]) = wld ad cB σ 0 SH ++ [(q, .inl (cB, N, .inl (fun _ => 0)))] := by
    rw [wld_app, wld_agr hg (by omega) hs, Nat.zero_add, ad1_at]
    show _ ++ [(q, Sum.inl (cB, N, Sum.inl (σ SH.length)))] = _
    rw [hz]
    rfl
  rw [← ew] at hP hD
  have hk := K (ad1 ad SH.length q) hg H1 locs lsA ⟨hP, hD, hS⟩ (lr_agr hg hl hl0)
  have est : (Value.ref SH.length :: st).map (cv (ad1 ad SH.length q)) = .ref q :: st.map (cv ad) := by
    rw [List.map_cons, st_agr hg hst]
    show Value.ref (ad1 ad SH.length q SH.length) :: _ = _
    rw [ad1_at]
  rw [est] at hk
  exact hk
/-- a class's words, for new -/
def CWK (own : String) (idx ci N : Nat) (Cn : String) (T : u_T) (ty : Nat → FieldType) : Prop := vwCl[ci]? = some (Cn, T, N) ∧ (∀ w ∈ u_ws Cn T N, w ∈ TB) ∧ (∀ k, k < N → parseFieldDescriptor (T k).2.2.1 = some (ty k)) ∧ Cond.classLink own idx Cn ∈ TB ∧ Cond.instantiable Cn N ∈ TB ∧ Cond.initialized Cn ∈ TB
theorem a_new (C : Cx X cc nL own ret rm) {idx : Nat} (d : Dec cc pc (.new idx) 3 nx) {ci N : Nat} {Cn : String} {T : u_T} {ty : Nat → FieldType} (w : CWK own idx ci N Cn T ty) (L : Nat) (fl : List (Option (Option Nat))) (hfs : ∀ j, j < N → defaultValue (ty j) = vp_V (flds ad zro 0 fl) j) (hfb : fl.all (fB L) = true) (hL : SH.length = L) (hce : ce + 1 ≤ rm.cells) (hsl : sl + N ≤ rm.slots) (hz : σ L = zro) (hs : SH.all (sB L) = true) (hl0 : ls.all (oB L (L + 1)) = true) (hst : st.all (vB L (L + 1)) = true) (K : ∀ u, agr L (L + 1) ad u → AW X (ce + 1) (sl + N) u (SH ++ [.inr (ci, fl)]) σ nx ls (.ref L :: st)) : AW X ce sl ad SH σ pc ls st := by
  obtain ⟨p, l, e, R, s, m, args, below, meth, c, D, cA, A, Q⟩ := X
  obtain ⟨hx, hb, hml, hown, hts, hK, hA, hlocks, hret, rfl, hNw⟩ := C
  obtain ⟨d, rfl⟩ := d
  obtain ⟨w1, w2, w3, w4, w5, w6⟩ := w
  subst hL
  intro H locs lsA hr hl
  refine va_new (fs := flds ad zro 0 fl) hx hb hts w2 ty w3 hown (hts _ w4) (hts _ w5) (hts _ w6) hK hr.1 hr.2.1 hr.2.2 hA w1 hfs hce hsl d (fun q H1 hP hD hS => ?_)
  have hg := ad1_agr (ad := ad) (n := SH.length) (q := q)
  have ew : wld (ad1 ad SH.length q) cA σ 0 (SH ++ [.inr (ci, fl)]) = wld ad cA σ 0 SH ++ [(q, .inr (ci, flds ad zro 0 fl))] := by
    rw [wld_app, wld_agr hg (by omega) hs, Nat.zero_add, ad1_at]
    show _ ++ [(q, (Sum.inr (ci, flds (ad1 ad SH.length q) (σ SH.length) 0 fl) : va_E))] = _
    rw [hz, flds_agr hg hfb]
  rw [← ew] at hP hD
  have hk := K (ad1 ad SH.length q) hg H1 locs lsA ⟨hP, hD, hS⟩ (lr_agr hg hl hl0)
  have est : (Value.ref SH.length :: st).map (cv (ad1 ad SH.length q)) = .ref q :: st.map (cv ad) := by
    rw [List.map_cons, st_agr hg hst]
    show Value.ref (ad1 ad SH.length q SH.length) :: _ = _
    rw [ad1_at]
  rw [est] at hk
  exact hk
def nmI (X : CT) : Prop := match X with
  | (_, _, _, _, _, _, _, _, meth, _) => meth.name = "<init>"
theorem wld_setr {ad : Nat → Nat} {cA : ClassId} {σ : Sg} {ci r i : Nat} {fl : List (Option (Option Nat))} : ∀ {SH : List Shp} {j k : Nat}, SH[k]? = some (.inr (ci, fl)) → (wld ad cA σ j SH).set k (ad (j + k), .inr (ci, (flds ad (σ (j + k)) 0 fl).set i (.ref (ad r)))) = wld ad cA σ j (SH.set k (.inr (ci, fl.set i (some (some r)))))
  | [], j, k, h => by simp at h
  | a :: l, j, 0, h => by
    rw [List.getElem?_cons_zero] at h
    cases h
    show (ad (j + 0), (Sum.inr (ci, (flds ad (σ (j + 0)) 0 fl).set i (.ref (ad r))) : va_E)) :: wld ad cA σ (j + 1) l = (ad j, (Sum.inr (ci, flds ad (σ j) 0 (fl.set i (some (some r)))) : va_E)) :: wld ad cA σ (j + 1) l
    rw [flds_setr, Nat.add_zero]
  | a :: l, j, k + 1, h => by
    rw [List.getElem?_cons_succ] at h
    have h1 := wld_setr (ad := ad) (cA := cA) (σ := σ) (r := r) (i := i) (j := j + 1) h
    rw [show j + 1 + k = j + (k + 1) by omega] at h1
    show (ad j, cellE ad cA (σ j) a) :: (wld ad cA σ (j + 1) l).set k _ = (ad j, cellE ad cA (σ j) a) :: wld ad cA σ (j + 1) (l.set k _)
    rw [h1]
theorem a_putR (C : Cx X cc nL own ret rm) (hI : nmI X) {idx : Nat} (d : Dec cc pc (.putfield idx) 3 nx) {a ci k N r : Nat} {ref Cn : String} {T : u_T} {ty : Nat → FieldType} (F : FLk own idx ci k ref T Cn N) (G : FTy T N ty) (hfin : (T k).2.2.2 = true) (hdecl : (T k).1 = own) {tyk : FieldType} (hti : parseFieldDescriptor (T k).2.2.1 = some tyk) (hnar : ∀ q, narrow tyk (.ref q) = .ref q) (hfit : ∀ q, fits tyk (.ref q) = true) {fl : List (Option (Option Nat))} (ha : SH[a]? = some (.inr (ci, fl))) (hk : k < fl.length) (K : AW X ce sl ad (SH.set a (.inr (ci, fl.set k (some (some r))))) σ nx ls st) : AW X ce sl ad SH σ pc ls (.ref r :: .ref a :: st) := by
  obtain ⟨p, l, e, R, s, m, args, below, meth, c, D, cA, A, Q⟩ := X
  obtain ⟨hx, hb, hml, hown, hts, hK, -⟩ := C
  obtain ⟨d, rfl⟩ := d
  obtain ⟨f1, f2, f3, f4, f5⟩ := F
  intro H locs lsA hr hl
  refine va_putF (v := .ref (ad r)) hx hb hts f3 ty G.1 G.2 hown hK hr.1 hr.2.1 hr.2.2 a (wld_get0 ha) f1 k f2 (hts _ f4) (fun x h => by rw [← f5]; exact h) hfin hI hdecl hti (hnar _) (hfit _) (by rw [flds_len]; exact hk) d (fun H1 locs1 hP hD hS => ?_)
  have e1 := wld_setr (ad := ad) (cA := cA) (σ := σ) (r := r) (i := k) (j := 0) ha
  rw [Nat.zero_add] at e1
  rw [e1] at hP hD
  exact K H1 locs1 lsA ⟨hP, hD, hS⟩ hl
/-- Object() -/
def CWO (own : String) (idx : Nat) : Prop := Cond.methodLink own idx objectInit ∈ TB ∧ Cond.instanceMethod objectInit ∈ TB ∧ Cond.code objectInit ⟨#[0xb1]⟩ 1 none ∈ TB
theorem a_obj (C : Cx X cc nL own ret rm) {idx : Nat} (d : Dec cc pc (.invokespecial idx) 3 nx) (w : CWO own idx) (hls : ls.length = nL) (hst : cats st) (hfr : 1 ≤ rm.frames) (hlo : 20 ≤ rm.locals) (hcs : ce ≤ rm.cells ∧ sl ≤ rm.slots) {a : Nat} (K : AW X ce sl ad SH σ nx ls st) : AW X ce sl ad SH σ pc ls (.ref a :: st) := by
  obtain ⟨p, l, e, R, s, m, args, below, meth, c, D, cA, A, Q⟩ := X
  obtain ⟨hx, hb, hml, hown, hts, hK, hA, hlocks, hret, rfl, hNw⟩ := C
  obtain ⟨d, rfl⟩ := d
  obtain ⟨w1, w2, w3⟩ := w
  intro H locs lsA hr hl
  have h8 := cats_cv (ad := ad) hst
  exact W.objInit hx hb hown (hts _ w1) (hts _ w2) (hts _ w3) (g := F0 m pc lsA (.ref (ad a) :: st.map (cv ad))) rfl (by rw [hml]; exact hl.1.trans hls) rfl d hfr (by show 2 * 0 + _ + 12 ≤ _; omega) (K H locs lsA hr hl)
end AWA
