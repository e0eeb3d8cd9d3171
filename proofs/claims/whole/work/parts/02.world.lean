/-! THE WORLD AS PURE DATA: cells by number; 'Sg': what the ints of each cell are; 'Shp': what kind of cell it is -/
abbrev Sg : Type := Nat → Nat → Int32
/-- an int array of a length; or an object: its class's number, and of each field: an int (none), null (some none), a cell (some (some r)) -/
abbrev Shp : Type := Nat ⊕ (Nat × List (Option (Option Nat)))
def up (σ : Sg) (k i : Nat) (v : Int32) : Sg := fun k' => if k' = k then upd (σ k) i v else σ k'
def setc (σ : Sg) (k : Nat) (f : Nat → Int32) : Sg := fun k' => if k' = k then f else σ k'
def fld (ad : Nat → Nat) (f : Nat → Int32) (j : Nat) (o : Option (Option Nat)) : Value := match o with
  | none => .int (f j)
  | some none => .null
  | some (some r) => .ref (ad r)
def flds (ad : Nat → Nat) (f : Nat → Int32) : Nat → List (Option (Option Nat)) → List Value
  | _, [] => []
  | j, o :: l => fld ad f j o :: flds ad f (j + 1) l
def cellE (ad : Nat → Nat) (cA : ClassId) (f : Nat → Int32) (sh : Shp) : va_E := match sh with
  | .inl n => .inl (cA, n, .inl f)
  | .inr (ci, fl) => .inr (ci, flds ad f 0 fl)
def wld (ad : Nat → Nat) (cA : ClassId) (σ : Sg) : Nat → List Shp → va_W
  | _, [] => []
  | k, sh :: l => (ad k, cellE ad cA (σ k) sh) :: wld ad cA σ (k + 1) l
theorem flds_get {ad : Nat → Nat} {f : Nat → Int32} : ∀ {l : List (Option (Option Nat))} {j i : Nat} {o : Option (Option Nat)}, l[i]? = some o → (flds ad f j l)[i]? = some (fld ad f (j + i) o)
  | [], j, i, o, h => by simp at h
  | a :: l, j, 0, o, h => by
    rw [List.getElem?_cons_zero] at h
    cases h
    rfl
  | a :: l, j, i + 1, o, h => by
    rw [List.getElem?_cons_succ] at h
    show (flds ad f (j + 1) l)[i]? = _
    rw [flds_get h, show j + 1 + i = j + (i + 1) by omega]
theorem flds_len {ad : Nat → Nat} {f : Nat → Int32} : ∀ (l : List (Option (Option Nat))) (j : Nat), (flds ad f j l).length = l.length
  | [], _ => rfl
  | _ :: l, j => by
    show (flds ad f (j + 1) l).length + 1 = l.length + 1
    rw [flds_len l]
theorem flds_low {ad : Nat → Nat} {f g : Nat → Int32} : ∀ (l : List (Option (Option Nat))) (j : Nat), (∀ i, j ≤ i → f i = g i) → flds ad f j l = flds ad g j l
  | [], _, _ => rfl
  | o :: l, j, h => by
    show fld ad f j o :: flds ad f (j + 1) l = fld ad g j o :: flds ad g (j + 1) l
    rw [flds_low l (j + 1) (fun i hi => h i (by omega)), show fld ad f j o = fld ad g j o by cases o with | none => simp [fld, h j (Nat.le_refl j)] | some x => cases x <;> rfl]
theorem flds_seti {ad : Nat → Nat} {f : Nat → Int32} {v : Int32} : ∀ {l : List (Option (Option Nat))} {j i : Nat}, l[i]? = some none → (flds ad f j l).set i (.int v) = flds ad (upd f (j + i) v) j l
  | [], j, i, h => by simp at h
  | a :: l, j, 0, h => by
    rw [List.getElem?_cons_zero] at h
    cases h
    show Value.int v :: flds ad f (j + 1) l = fld ad (upd f (j + 0) v) j none :: flds ad (upd f (j + 0) v) (j + 1) l
    rw [flds_low (f := upd f (j + 0) v) (g := f) l (j + 1) (fun i hi => by unfold upd; rw [if_neg (by omega)])]
    simp [fld, upd]
  | a :: l, j, i + 1, h => by
    rw [List.getElem?_cons_succ] at h
    show fld ad f j a :: (flds ad f (j + 1) l).set i (.int v) = fld ad (upd f (j + (i + 1)) v) j a :: flds ad (upd f (j + (i + 1)) v) (j + 1) l
    rw [flds_seti h, show j + 1 + i = j + (i + 1) by omega, show fld ad (upd f (j + (i + 1)) v) j a = fld ad f j a by
      cases a with
      | none => simp [fld, upd]
      | some x => cases x <;> rfl]
theorem flds_setr {ad : Nat → Nat} {f : Nat → Int32} {r : Nat} : ∀ (l : List (Option (Option Nat))) (j i : Nat), (flds ad f j l).set i (.ref (ad r)) = flds ad f j (l.set i (some (some r)))
  | [], j, i => rfl
  | a :: l, j, 0 => rfl
  | a :: l, j, i + 1 => by
    show fld ad f j a :: (flds ad f (j + 1) l).set i (.ref (ad r)) = fld ad f j a :: flds ad f (j + 1) (l.set i (some (some r)))
    rw [flds_setr l]
theorem wld_get {ad : Nat → Nat} {cA : ClassId} {σ : Sg} : ∀ {SH : List Shp} {j k : Nat} {sh : Shp}, SH[k]? = some sh → (wld ad cA σ j SH)[k]? = some (ad (j + k), cellE ad cA (σ (j + k)) sh)
  | [], j, k, sh, h => by simp at h
  | a :: l, j, 0, sh, h => by
    rw [List.getElem?_cons_zero] at h
    cases h
    rfl
  | a :: l, j, k + 1, sh, h => by
    rw [List.getElem?_cons_succ] at h
    show (wld ad cA σ (j + 1) l)[k]? = _
    rw [wld_get h, show j + 1 + k = j + (k + 1) by omega]
theorem wld_get0 {ad : Nat → Nat} {cA : ClassId} {σ : Sg} {SH : List Shp} {k : Nat} {sh : Shp} (h : SH[k]? = some sh) : (wld ad cA σ 0 SH)[k]? = some (ad k, cellE ad cA (σ k) sh) := by
  have := wld_get (ad := ad) (cA := cA) (σ := σ) (j := 0) h
  rwa [Nat.zero_add] at this
theorem wld_low {ad : Nat → Nat} {cA : ClassId} {σ τ : Sg} : ∀ (SH : List Shp) (j : Nat), (∀ i, j ≤ i → σ i = τ i) → wld ad cA σ j SH = wld ad cA τ j SH
  | [], _, _ => rfl
  | o :: l, j, h => by
    show (ad j, cellE ad cA (σ j) o) :: wld ad cA σ (j + 1) l = (ad j, cellE ad cA (τ j) o) :: wld ad cA τ (j + 1) l
    rw [wld_low l (j + 1) (fun i hi => h i (by omega)), h j (Nat.le_refl j)]
theorem wld_set {ad : Nat → Nat} {cA : ClassId} {σ : Sg} {f : Nat → Int32} : ∀ {SH : List Shp} {j k : Nat} {sh : Shp}, SH[k]? = some sh → (wld ad cA σ j SH).set k (ad (j + k), cellE ad cA f sh) = wld ad cA (setc σ (j + k) f) j SH
  | [], j, k, sh, h => by simp at h
  | a :: l, j, 0, sh, h => by
    rw [List.getElem?_cons_zero] at h
    cases h
    show (ad (j + 0), cellE ad cA f a) :: wld ad cA σ (j + 1) l = (ad j, cellE ad cA (setc σ (j + 0) f j) a) :: wld ad cA (setc σ (j + 0) f) (j + 1) l
    rw [wld_low (σ := setc σ (j + 0) f) (τ := σ) l (j + 1) (fun i hi => by unfold setc; rw [if_neg (by omega)])]
    simp [setc]
  | a :: l, j, k + 1, sh, h => by
    rw [List.getElem?_cons_succ] at h
    show (ad j, cellE ad cA (σ j) a) :: (wld ad cA σ (j + 1) l).set k (ad (j + (k + 1)), cellE ad cA f sh) = (ad j, cellE ad cA (setc σ (j + (k + 1)) f j) a) :: wld ad cA (setc σ (j + (k + 1)) f) (j + 1) l
    have := wld_set (ad := ad) (cA := cA) (σ := σ) (f := f) (j := j + 1) h
    rw [show j + 1 + k = j + (k + 1) by omega] at this
    rw [this]
    simp [setc]
theorem wld_set0 {ad : Nat → Nat} {cA : ClassId} {σ : Sg} {SH : List Shp} {k : Nat} {sh : Shp} (h : SH[k]? = some sh) (f : Nat → Int32) : (wld ad cA σ 0 SH).set k (ad k, cellE ad cA f sh) = wld ad cA (setc σ k f) 0 SH := by
  have := wld_set (ad := ad) (cA := cA) (σ := σ) (f := f) (j := 0) h
  rwa [Nat.zero_add] at this
theorem wld_up {ad : Nat → Nat} {cA : ClassId} {σ : Sg} {SH : List Shp} {k n i : Nat} {v : Int32} (h : SH[k]? = some (.inl n)) : (wld ad cA σ 0 SH).set k (ad k, .inl (cA, n, .inl (upd (σ k) i v))) = wld ad cA (up σ k i v) 0 SH :=
  wld_set0 (ad := ad) (cA := cA) (σ := σ) h (upd (σ k) i v)
theorem wld_upf {ad : Nat → Nat} {cA : ClassId} {σ : Sg} {SH : List Shp} {k ci i : Nat} {fl : List (Option (Option Nat))} {v : Int32} (h : SH[k]? = some (.inr (ci, fl))) (hi : fl[i]? = some none) : (wld ad cA σ 0 SH).set k (ad k, .inr (ci, (flds ad (σ k) 0 fl).set i (.int v))) = wld ad cA (up σ k i v) 0 SH := by
  rw [flds_seti hi, Nat.zero_add]
  exact wld_set0 (ad := ad) (cA := cA) (σ := σ) h (upd (σ k) i v)
theorem wld_len {ad : Nat → Nat} {cA : ClassId} {σ : Sg} : ∀ (SH : List Shp) (j : Nat), (wld ad cA σ j SH).length = SH.length
  | [], _ => rfl
  | _ :: l, j => by
    show (wld ad cA σ (j + 1) l).length + 1 = l.length + 1
    rw [wld_len l]
/-- which cells are the world's: by their numbers -/
theorem wld_at {ad : Nat → Nat} {cA : ClassId} {σ : Sg} {SH : List Shp} {k : Nat} {q : Nat × va_E} (h : (wld ad cA σ 0 SH)[k]? = some q) : k < SH.length ∧ q.1 = ad k := by
  have hl : k < SH.length := by
    have := (List.getElem?_eq_some_iff.mp h).1
    rwa [wld_len] at this
  have h2 := wld_get0 (ad := ad) (cA := cA) (σ := σ) (List.getElem?_eq_getElem hl)
  rw [h] at h2
  cases h2
  exact ⟨hl, rfl⟩
theorem va_A_wld {ad : Nat → Nat} {cA : ClassId} {σ τ : Sg} {SH : List Shp} {sz q : Nat} (h : va_A (wld ad cA σ 0 SH) sz q) : va_A (wld ad cA τ 0 SH) sz q := by
  rcases h with ⟨k, e, h⟩ | h
  · obtain ⟨h1, h2⟩ := wld_at h
    have h3 := wld_get0 (ad := ad) (cA := cA) (σ := τ) (List.getElem?_eq_getElem h1)
    have h4 : q = ad k := h2
    rw [h4]
    exact Or.inl ⟨k, _, h3⟩
  · exact Or.inr h
/-- values: a cell's number stands for its address -/
def cv (ad : Nat → Nat) (v : Value) : Value := match v with
  | .ref a => .ref (ad a)
  | v => v
theorem cv_cat (ad : Nat → Nat) (v : Value) : (cv ad v).category = v.category := by cases v <;> rfl
/-- the locals: what is known of them -/
def lr (ad : Nat → Nat) (lsA : Array Slot) (ls : List (Option Value)) : Prop := lsA.size = ls.length ∧ lv_wf lsA ∧ ∀ (i : Nat) (v : Value), ls[i]? = some (some v) → v.category = 1 ∧ lsA[i]? = some (.val (cv ad v))
def prs (ad : Nat → Nat) : Nat → List (Option Value) → List (Nat × Value)
  | _, [] => []
  | i, none :: l => prs ad (i + 1) l
  | i, some v :: l => (i, cv ad v) :: prs ad (i + 1) l
theorem prs_mem {ad : Nat → Nat} : ∀ {l : List (Option Value)} {i j : Nat} {v : Value}, l[j]? = some (some v) → (i + j, cv ad v) ∈ prs ad i l
  | [], i, j, v, h => by simp at h
  | a :: l, i, 0, v, h => by
    rw [List.getElem?_cons_zero] at h
    cases h
    exact List.mem_cons_self
  | a :: l, i, j + 1, v, h => by
    rw [List.getElem?_cons_succ] at h
    have h1 := prs_mem (ad := ad) (i := i + 1) h
    rw [show i + 1 + j = i + (j + 1) by omega] at h1
    cases a with
    | none => exact h1
    | some w => exact List.mem_cons_of_mem _ h1
theorem prs_of {ad : Nat → Nat} : ∀ {l : List (Option Value)} {i : Nat} {q : Nat × Value}, q ∈ prs ad i l → ∃ (j : Nat) (v : Value), l[j]? = some (some v) ∧ q = (i + j, cv ad v)
  | [], i, q, h => by cases h
  | none :: l, i, q, h => by
    obtain ⟨j, v, h1, h2⟩ := prs_of (l := l) (i := i + 1) h
    exact ⟨j + 1, v, h1, by rw [h2, show i + 1 + j = i + (j + 1) by omega]⟩
  | some w :: l, i, q, h => by
    rcases List.mem_cons.mp h with rfl | h
    · exact ⟨0, w, rfl, rfl⟩
    · obtain ⟨j, v, h1, h2⟩ := prs_of (l := l) (i := i + 1) h
      exact ⟨j + 1, v, h1, by rw [h2, show i + 1 + j = i + (j + 1) by omega]⟩
theorem lr.has {ad : Nat → Nat} {lsA : Array Slot} {ls : List (Option Value)} (h : lr ad lsA ls) : lv_has lsA ls.length (prs ad 0 ls) := by
  refine ⟨h.1, h.2.1, fun q hq => ?_⟩
  obtain ⟨j, v, h1, h2⟩ := prs_of hq
  rw [h2, Nat.zero_add]
  exact (h.2.2 j v h1).2
theorem lr.stored {ad : Nat → Nat} {lsA lsB : Array Slot} {ls : List (Option Value)} {i : Nat} {v : Value} (h : lr ad lsA ls) (hi : i < ls.length) (hc : v.category = 1) (hB : lv_has lsB ls.length ((i, cv ad v) :: (prs ad 0 ls).filter (fun q => !(q.1 == i) && !(q.1 + 1 == i && q.2.category == 2)))) : lr ad lsB (ls.set i (some v)) := by
  refine ⟨by rw [hB.1, List.length_set], hB.2.1, fun j w hw => ?_⟩
  by_cases hj : j = i
  · subst hj
    rw [List.getElem?_set_self hi] at hw
    cases hw
    exact ⟨hc, hB.2.2 _ List.mem_cons_self⟩
  · rw [List.getElem?_set_ne (Ne.symm hj)] at hw
    refine ⟨(h.2.2 j w hw).1, hB.2.2 (j, cv ad w) (List.mem_cons_of_mem _ (List.mem_filter.mpr ⟨?_, ?_⟩))⟩
    · have := prs_mem (ad := ad) (i := 0) hw
      rwa [Nat.zero_add] at this
    · have hcw := (h.2.2 j w hw).1
      simp [hj, cv_cat, hcw]
/-- less is known -/
def lle (a b : List (Option Value)) : Prop := a.length = b.length ∧ ∀ (i : Nat) (v : Value), b[i]? = some (some v) → a[i]? = some (some v)
theorem lr.less {ad : Nat → Nat} {lsA : Array Slot} {a b : List (Option Value)} (h : lr ad lsA a) (hl : lle a b) : lr ad lsA b := ⟨h.1.trans hl.1, h.2.1, fun i v hv => h.2.2 i v (hl.2 i v hv)⟩
theorem lle_nil : lle [] [] := ⟨rfl, fun i v h => by simp at h⟩
theorem lle_same {x : Option Value} {a b : List (Option Value)} (h : lle a b) : lle (x :: a) (x :: b) := ⟨by simp [h.1], fun i v hv => by cases i with | zero => exact hv | succ i => exact h.2 i v hv⟩
theorem lle_drop {x : Option Value} {a b : List (Option Value)} (h : lle a b) : lle (x :: a) (none :: b) := ⟨by simp [h.1], fun i v hv => by
  cases i with
  | zero => rw [List.getElem?_cons_zero] at hv; cases hv
  | succ i => exact h.2 i v hv⟩
