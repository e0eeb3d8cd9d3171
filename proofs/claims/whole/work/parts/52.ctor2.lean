/-! a new cell is laid with zeros; worlds while they are made -/
theorem wld_hi {ad : Nat → Nat} {cA : ClassId} {σ τ : Sg} : ∀ (SH : List Shp) (j : Nat), (∀ i, j ≤ i → i < j + SH.length → σ i = τ i) → wld ad cA σ j SH = wld ad cA τ j SH
  | [], _, _ => rfl
  | o :: l, j, h => by
    rw [List.length_cons] at h
    show (ad j, cellE ad cA (σ j) o) :: wld ad cA σ (j + 1) l = (ad j, cellE ad cA (τ j) o) :: wld ad cA τ (j + 1) l
    rw [wld_hi l (j + 1) (fun i hi h2 => h i (by omega) (by omega)), h j (Nat.le_refl j) (by omega)]
theorem aw_off {X : CT} {ce sl : Nat} {ad : Nat → Nat} {SH : List Shp} {σ τ : Sg} {pc : Nat} {ls : List (Option Value)} {st : List Value} (h : ∀ i, i < SH.length → σ i = τ i) (K : AW X ce sl ad SH τ pc ls st) : AW X ce sl ad SH σ pc ls st := by
  obtain ⟨p, l, e, R, s, m, args, below, meth, c, D, cA, A, Q⟩ := X
  intro H locs lsA hr hl
  have e1 := wld_hi (ad := ad) (cA := cA) (σ := σ) (τ := τ) SH 0 (fun i _ hi => h i (by omega))
  refine K H locs lsA ?_ hl
  unfold rl at hr ⊢
  rw [← e1]
  exact hr
def SHa : List Shp := SHc ++ SHm
/-- the first n cells as they are in the end, but for some -/
def Sk (n : Nat) (ov : List (Nat × Shp)) : List Shp := ov.foldl (fun l q => l.set q.1 q.2) (SHa.take n)
section AWZ
variable {X : CT} {cc : ByteArray} {nL : Nat} {own : String} {ret : Option FieldType} {rm : Room} {ce sl : Nat} {ad : Nat → Nat} {SH : List Shp} {σ τ : Sg} {pc nx tgt : Nat} {ls : List (Option Value)} {st : List Value}
theorem a_nwa {ρ : Type} {r : ρ} (C : Cx X cc nL own ret rm) (d : Dec cc pc (.newarray .int) 2 nx) (hw : Cond.arrayClass .int ∈ TB) {n : Int32} {N L : Nat} (hn : n.toNatClampNeg = N ∧ ¬ n < 0) (SH1 : List Shp) (h1 : SH.length = L ∧ SH.all (sB L) = true ∧ SH ++ [.inl N] = SH1) (hl0 : ls.all (oB L (L + 1)) = true) (hst : st.all (vB L (L + 1)) = true) (ce' sl' : Nat) (hce : ce + 1 = ce') (hsl : sl + N = sl') (hR : N * 4 ≤ 536870912 ∧ ce' ≤ rm.cells ∧ sl' ≤ rm.slots) {f : Sg → Option ρ} (h : lt (setc σ L zro) f = some r) (K : ∀ σ1, f σ1 = some r → ∀ u, agr L (L + 1) ad u → AW X ce' sl' u SH1 σ1 nx ls (.ref L :: st)) : AW X ce sl ad SH σ pc ls (.int n :: st) := by
  obtain ⟨e1, e2, rfl⟩ := h1
  subst hce; subst hsl
  refine aw_off (τ := setc σ L zro) (fun i hi => by unfold setc; rw [if_neg (by omega)]) ?_
  refine a_newa C d hw N L e1 hn.2 hn.1 hR.1 hR.2.1 hR.2.2 (by unfold setc; rw [if_pos rfl]) e2 hl0 hst (fun u hu => K _ h u hu)
theorem a_nw {ρ : Type} {r : ρ} (C : Cx X cc nL own ret rm) {idx : Nat} (d : Dec cc pc (.new idx) 3 nx) {ci N : Nat} {Cn : String} {T : u_T} {ty : Nat → FieldType} (w : CWK own idx ci N Cn T ty) {L : Nat} (fl : List (Option (Option Nat))) (hfs : ∀ j, j < N → defaultValue (ty j) = vp_V (flds ad zro 0 fl) j) (SH1 : List Shp) (h1 : SH.length = L ∧ SH.all (sB L) = true ∧ SH ++ [.inr (ci, fl)] = SH1 ∧ fl.all (fB L) = true) (hl0 : ls.all (oB L (L + 1)) = true) (hst : st.all (vB L (L + 1)) = true) (ce' sl' : Nat) (hce : ce + 1 = ce') (hsl : sl + N = sl') (hR : ce' ≤ rm.cells ∧ sl' ≤ rm.slots) {f : Sg → Option ρ} (h : lt (setc σ L zro) f = some r) (K : ∀ σ1, f σ1 = some r → ∀ u, agr L (L + 1) ad u → AW X ce' sl' u SH1 σ1 nx ls (.ref L :: st)) : AW X ce sl ad SH σ pc ls st := by
  obtain ⟨e1, e2, rfl, e3⟩ := h1
  subst hce; subst hsl
  refine aw_off (τ := setc σ L zro) (fun i hi => by unfold setc; rw [if_neg (by omega)]) ?_
  refine a_new C d w L fl hfs e3 e1 hR.1 hR.2 (by unfold setc; rw [if_pos rfl]) e2 hl0 hst (fun u hu => K _ h u hu)
theorem a_ptR (C : Cx X cc nL own ret rm) (hI : nmI X) {idx : Nat} (d : Dec cc pc (.putfield idx) 3 nx) {a ci k N r : Nat} {ref Cn : String} {T : u_T} {ty : Nat → FieldType} (F : FLk own idx ci k ref T Cn N) (G : FTy T N ty) (hfin : (T k).2.2.2 = true ∧ (T k).1 = own) {tyk : FieldType} (hti : parseFieldDescriptor (T k).2.2.1 = some tyk) (hnar : ∀ q, narrow tyk (.ref q) = .ref q) (hfit : ∀ q, fits tyk (.ref q) = true) (fl : List (Option (Option Nat))) (SH1 : List Shp) (h1 : SH[a]? = some (.inr (ci, fl)) ∧ k < fl.length ∧ SH.set a (.inr (ci, fl.set k (some (some r)))) = SH1) (K : AW X ce sl ad SH1 σ nx ls st) : AW X ce sl ad SH σ pc ls (.ref r :: .ref a :: st) := by
  obtain ⟨e1, e2, rfl⟩ := h1
  exact a_putR C hI d F G hfin.1 hfin.2 hti hnar hfit e1 e2 K
theorem rt_k {ce sl lo : Nat} {ad0 : Nat → Nat} {SH' : List Shp} (R : Rk X cc ce sl ad0 lo SH' τ) (d : Dec cc pc .return_ 1 nx) {σ : Sg} (h : some σ = some τ) (ha : agr lo SH'.length ad0 ad) : AW X ce sl ad SH' σ pc ls [] := by
  cases h
  exact R _ _ _ _ ha d
end AWZ
