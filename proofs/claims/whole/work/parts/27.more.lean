/-! MORE ROWS: values that get a name, guards, calls by the number of arguments, the library's own -/
def lt {α β : Type} (a : α) (f : α → β) : β := f a
theorem it {α : Type} {c : Prop} [Decidable c] {a b r : α} (hc : c) (h : (if c then a else b) = r) : a = r := by rwa [if_pos hc] at h
theorem ie {α : Type} {c : Prop} [Decidable c] {a b r : α} (hc : ¬ c) (h : (if c then a else b) = r) : b = r := by rwa [if_neg hc] at h
theorem gd {α : Type} {c : Prop} [Decidable c] {a : Option α} {r : α} (h : (if c then a else none) = some r) : c ∧ a = some r := by
  by_cases hc : c
  · rw [if_pos hc] at h
    exact ⟨hc, h⟩
  · rw [if_neg hc] at h
    cases h
def b2 {ρ : Type} (o : Option (Int32 × Sg)) (f : Int32 → Sg → Option ρ) : Option ρ := match o with
  | some q => f q.1 q.2
  | none => none
theorem b2_e {ρ : Type} {o : Option (Int32 × Sg)} {f : Int32 → Sg → Option ρ} {r : ρ} (h : b2 o f = some r) : ∃ (a : Int32) (τ : Sg), o = some (a, τ) ∧ f a τ = some r := by
  cases o with
  | none => cases h
  | some q => exact ⟨q.1, q.2, rfl, h⟩
def b1 {α ρ : Type} (o : Option α) (f : α → Option ρ) : Option ρ := match o with
  | some q => f q
  | none => none
theorem b1_e {α ρ : Type} {o : Option α} {f : α → Option ρ} {r : ρ} (h : b1 o f = some r) : ∃ a : α, o = some a ∧ f a = some r := by
  cases o with
  | none => cases h
  | some q => exact ⟨q, rfl, h⟩
theorem jn {κ ρ : Type} {k0 : κ} {f : κ → Option ρ} {r : ρ} {G : Prop} (P : κ → Prop) (h : lt k0 f = some r) (h0 : P k0) (K : ∀ k, P k → f k = some r → G) : G := K k0 h0 h
section AWM
variable {X : CT} {cc : ByteArray} {nL : Nat} {own : String} {ret : Option FieldType} {rm : Room} {ce sl : Nat} {ad : Nat → Nat} {SH : List Shp} {σ τ : Sg} {pc nx tgt : Nat} {ls : List (Option Value)} {st : List Value}
theorem a_lt {ρ : Type} {r : ρ} {e : Int32} {f : Int32 → Option ρ} (h : lt e f = some r) (K : ∀ x, f x = some r → AW X ce sl ad SH σ pc ls (.int x :: st)) : AW X ce sl ad SH σ pc ls (.int e :: st) := K e h
theorem a_iincL {ρ : Type} {r : ρ} (C : Cx X cc nL own ret rm) {k : Nat} {n : Int} {x : Int32} (d : Dec cc pc (.iinc k n) 3 nx) (hl : ls[k]? = some (some (.int x))) {y : Int32} (hy : Int32.ofInt n = y) {f : Int32 → Option ρ} (h : lt (x + y) f = some r) (K : ∀ z, f z = some r → AW X ce sl ad SH σ nx (ls.set k (some (.int z))) st) : AW X ce sl ad SH σ pc ls st := a_iinc C d hl y hy (K _ h)
theorem a_iastL {ρ : Type} {r : ρ} (C : Cx X cc nL own ret rm) (d : Dec cc pc .iastore 1 nx) {k n : Nat} (hk : SH[k]? = some (.inl n)) {i x : Int32} (hin : ¬ (i < 0 ∨ n ≤ i.toNatClampNeg)) {f : Sg → Option ρ} (h : lt (up σ k i.toNatClampNeg x) f = some r) (K : ∀ τ, f τ = some r → AW X ce sl ad SH τ nx ls st) : AW X ce sl ad SH σ pc ls (.int x :: .int i :: .ref k :: st) := a_iast C d hk hin (K _ h)
theorem a_putIL {ρ : Type} {r : ρ} (C : Cx X cc nL own ret rm) {idx : Nat} (d : Dec cc pc (.putfield idx) 3 nx) {a ci k N : Nat} {ref Cn : String} {T : u_T} {ty : Nat → FieldType} (F : FLk own idx ci k ref T Cn N) (G : FTy T N ty) (hfin : (T k).2.2.2 = false) (hti : parseFieldDescriptor (T k).2.2.1 = some .int) {fl : List (Option (Option Nat))} (ha : SH[a]? = some (.inr (ci, fl))) (hk : fl[k]? = some none) {v : Int32} {f : Sg → Option ρ} (h : lt (up σ a k v) f = some r) (K : ∀ τ, f τ = some r → AW X ce sl ad SH τ nx ls st) : AW X ce sl ad SH σ pc ls (.int v :: .ref a :: st) := a_putI C d F G hfin hti ha hk (K _ h)
def fitM (rm : Room) : Prop := 1 ≤ rm.frames ∧ 21 ≤ rm.locals
theorem a_max (C : Cx X cc nL own ret rm) {idx : Nat} (d : Dec cc pc (.invokestatic idx) 3 nx) (w : CWM own idx Lib.Math.max.name Lib.Math.max.code 2) (hR : fitM rm) (hls : ls.length = nL) (hst : cats st) {x y : Int32} (K : AW X 0 0 ad SH σ nx ls (.int (if x < y then y else x) :: st)) : AW X 0 0 ad SH σ pc ls (.int y :: .int x :: st) := by
  obtain ⟨p, l, e, R, s, m, args, below, meth, c, D, cA, A, Q⟩ := X
  obtain ⟨hx, hb, hml, hown, hts, hK, hA, hlocks, hret, rfl, hN⟩ := C
  obtain ⟨d, rfl⟩ := d
  obtain ⟨w1, w2, w3, w4⟩ := w
  intro H locs lsA hr hl
  exact va_mmax hx hb (by rw [hml, hl.1]; exact hls.symm) hown (hts _ w1) (hts _ w2) (hts _ w3) (hts _ w4) hR.1 (by have := cats_cv (ad := ad) hst; have := hR.2; omega) (Nat.zero_le _) (Nat.zero_le _) d (K H locs lsA hr hl)
theorem a_min (C : Cx X cc nL own ret rm) {idx : Nat} (d : Dec cc pc (.invokestatic idx) 3 nx) (w : CWM own idx Lib.Math.min.name Lib.Math.min.code 2) (hR : fitM rm) (hls : ls.length = nL) (hst : cats st) {x y : Int32} (K : AW X 0 0 ad SH σ nx ls (.int (if y < x then y else x) :: st)) : AW X 0 0 ad SH σ pc ls (.int y :: .int x :: st) := by
  obtain ⟨p, l, e, R, s, m, args, below, meth, c, D, cA, A, Q⟩ := X
  obtain ⟨hx, hb, hml, hown, hts, hK, hA, hlocks, hret, rfl, hN⟩ := C
  obtain ⟨d, rfl⟩ := d
  obtain ⟨w1, w2, w3, w4⟩ := w
  intro H locs lsA hr hl
  exact va_mmin hx hb (by rw [hml, hl.1]; exact hls.symm) hown (hts _ w1) (hts _ w2) (hts _ w3) (hts _ w4) hR.1 (by have := cats_cv (ad := ad) hst; have := hR.2; omega) (Nat.zero_le _) (Nat.zero_le _) d (K H locs lsA hr hl)
theorem a_abs (C : Cx X cc nL own ret rm) {idx : Nat} (d : Dec cc pc (.invokestatic idx) 3 nx) (w : CWM own idx Lib.Math.abs.name Lib.Math.abs.code 1) (hR : fitM rm) (hls : ls.length = nL) (hst : cats st) {x : Int32} (K : AW X 0 0 ad SH σ nx ls (.int (if 0 ≤ x then x else 0 - x) :: st)) : AW X 0 0 ad SH σ pc ls (.int x :: st) := by
  obtain ⟨p, l, e, R, s, m, args, below, meth, c, D, cA, A, Q⟩ := X
  obtain ⟨hx, hb, hml, hown, hts, hK, hA, hlocks, hret, rfl, hN⟩ := C
  obtain ⟨d, rfl⟩ := d
  obtain ⟨w1, w2, w3, w4⟩ := w
  intro H locs lsA hr hl
  exact va_mabs hx hb (by rw [hml, hl.1]; exact hls.symm) hown (hts _ w1) (hts _ w2) (hts _ w3) (hts _ w4) hR.1 (by have := cats_cv (ad := ad) hst; have := hR.2; omega) (Nat.zero_le _) (Nat.zero_le _) d (K H locs lsA hr hl)
/-- System.arraycopy from one cell to another -/
def cpy (σ : Sg) (a b sp dp n : Nat) : Sg := setc σ b (va_cpy (σ a) (σ b) sp dp n)
/-- tableswitch: the case j above lo -/
theorem a_tsw (C : Cx X cc nL own ret rm) {dflt lo hi : Int} {offs : Array Int} {len : Nat} (d : decode cc pc = .ok (.tableswitch dflt lo hi offs, len)) {x : Int32} (v : Int32) (hv : x = v) {off : Int} (h1 : ¬ v.toInt < lo) (h2 : ¬ hi < v.toInt) (ho : offs[(v.toInt - lo).toNat]? = some off) (ht : (pc : Int) + off = (tgt : Int)) (K : AW X ce sl ad SH σ tgt ls st) : AW X ce sl ad SH σ pc ls (.int x :: st) := by
  subst hv
  obtain ⟨p, l, e, R, s, m, args, below, meth, c, D, cA, A, Q⟩ := X
  obtain ⟨hx, hb, -⟩ := C
  intro H locs lsA hr hl
  exact lv_tableIn hx hb d h1 h2 ho ht (K H locs lsA hr hl)
theorem tsw_out {x : Int32} {lo : Int} {n : Nat} (h : ∀ j, j < n → ¬ x.toInt = lo + j) : x.toInt < lo ∨ lo + n - 1 < x.toInt := by
  rcases Int.lt_or_le x.toInt lo with q | q
  · exact Or.inl q
  · refine Or.inr ?_
    rcases Int.lt_or_le (lo + n - 1) x.toInt with z | z
    · exact z
    · exact absurd (show x.toInt = lo + ((x.toInt - lo).toNat : Int) by omega) (h _ (by omega))
theorem a_tsw_out (C : Cx X cc nL own ret rm) {dflt lo hi : Int} {offs : Array Int} {len : Nat} (d : decode cc pc = .ok (.tableswitch dflt lo hi offs, len)) {x : Int32} (n : Nat) (hn : lo + n - 1 = hi) (h : ∀ j, j < n → ¬ x.toInt = lo + j) (ht : (pc : Int) + dflt = (tgt : Int)) (K : AW X ce sl ad SH σ tgt ls st) : AW X ce sl ad SH σ pc ls (.int x :: st) := by
  obtain ⟨p, l, e, R, s, m, args, below, meth, c, D, cA, A, Q⟩ := X
  obtain ⟨hx, hb, -⟩ := C
  intro H locs lsA hr hl
  have h1 := tsw_out h
  rw [hn] at h1
  exact lv_tableOut hx hb d h1 ht (K H locs lsA hr hl)
theorem a_lsw (C : Cx X cc nL own ret rm) {dflt : Int} {ps : Array (Int × Int)} {len : Nat} (d : decode cc pc = .ok (.lookupswitch dflt ps, len)) {x : Int32} (hp : (ps.toList.zip (ps.toList.drop 1)).all (fun (a, next) => a.1 < next.1) = true) {off : Int} (ho : Op.lookupswitch.offset ps.toList dflt x.toInt = off) (ht : (pc : Int) + off = (tgt : Int)) (K : AW X ce sl ad SH σ tgt ls st) : AW X ce sl ad SH σ pc ls (.int x :: st) := by
  obtain ⟨p, l, e, R, s, m, args, below, meth, c, D, cA, A, Q⟩ := X
  obtain ⟨hx, hb, -⟩ := C
  intro H locs lsA hr hl
  exact lv_lookup hx hb d hp ho ht (K H locs lsA hr hl)
theorem a_cVi0 (C : Cx X cc nL own ret rm) {idx : Nat} (d : Dec cc pc (.invokevirtual idx) 3 nx) {M : MI} (w : CWV own idx M 0) (hR : fitR M rm) (hls : ls.length = nL) {a ci N : Nat} {T : u_T} {fl : List (Option (Option Nat))} (ha : SH[a]? = some (.inr (ci, fl))) (hci : vwCl[ci]? = some (M.1.cls, T, N)) {res : Int32 × Sg} (hM : Ci M (.ref a :: []) SH σ res) (hst : cats st) (K : AW X 0 0 ad SH res.2 nx ls (.int res.1 :: st)) : AW X 0 0 ad SH σ pc ls (.ref a :: st) := a_callVi (As := []) C d w hR ⟨Nat.zero_le _, Nat.zero_le _⟩ hls rfl ha hci hM hst K
theorem a_cVv0 (C : Cx X cc nL own ret rm) {idx : Nat} (d : Dec cc pc (.invokevirtual idx) 3 nx) {M : MI} (w : CWV own idx M 0) (hR : fitR M rm) (hls : ls.length = nL) {a ci N : Nat} {T : u_T} {fl : List (Option (Option Nat))} (ha : SH[a]? = some (.inr (ci, fl))) (hci : vwCl[ci]? = some (M.1.cls, T, N)) (hM : Cv M (.ref a :: []) SH σ τ) (hst : cats st) (K : AW X 0 0 ad SH τ nx ls st) : AW X 0 0 ad SH σ pc ls (.ref a :: st) := a_callVv (As := []) C d w hR ⟨Nat.zero_le _, Nat.zero_le _⟩ hls rfl ha hci hM hst K
theorem a_cVi1 (C : Cx X cc nL own ret rm) {idx : Nat} (d : Dec cc pc (.invokevirtual idx) 3 nx) {M : MI} (w : CWV own idx M 1) (hR : fitR M rm) (hls : ls.length = nL) {v1 : Value} {a ci N : Nat} {T : u_T} {fl : List (Option (Option Nat))} (ha : SH[a]? = some (.inr (ci, fl))) (hci : vwCl[ci]? = some (M.1.cls, T, N)) {res : Int32 × Sg} (hM : Ci M (.ref a :: [v1]) SH σ res) (hst : cats st) (K : AW X 0 0 ad SH res.2 nx ls (.int res.1 :: st)) : AW X 0 0 ad SH σ pc ls (v1 :: .ref a :: st) := a_callVi (As := [v1]) C d w hR ⟨Nat.zero_le _, Nat.zero_le _⟩ hls rfl ha hci hM hst K
theorem a_cVv1 (C : Cx X cc nL own ret rm) {idx : Nat} (d : Dec cc pc (.invokevirtual idx) 3 nx) {M : MI} (w : CWV own idx M 1) (hR : fitR M rm) (hls : ls.length = nL) {v1 : Value} {a ci N : Nat} {T : u_T} {fl : List (Option (Option Nat))} (ha : SH[a]? = some (.inr (ci, fl))) (hci : vwCl[ci]? = some (M.1.cls, T, N)) (hM : Cv M (.ref a :: [v1]) SH σ τ) (hst : cats st) (K : AW X 0 0 ad SH τ nx ls st) : AW X 0 0 ad SH σ pc ls (v1 :: .ref a :: st) := a_callVv (As := [v1]) C d w hR ⟨Nat.zero_le _, Nat.zero_le _⟩ hls rfl ha hci hM hst K
theorem a_cSi1 (C : Cx X cc nL own ret rm) {idx : Nat} (d : Dec cc pc (.invokestatic idx) 3 nx) {M : MI} (w : CWS own idx M 1) (hR : fitR M rm) (hls : ls.length = nL) {v1 : Value} {res : Int32 × Sg} (hM : Ci M [v1] SH σ res) (hst : cats st) (K : AW X 0 0 ad SH res.2 nx ls (.int res.1 :: st)) : AW X 0 0 ad SH σ pc ls (v1 :: st) := a_callSi (As := [v1]) C d w hR ⟨Nat.zero_le _, Nat.zero_le _⟩ hls rfl hM hst K
theorem a_cSv1 (C : Cx X cc nL own ret rm) {idx : Nat} (d : Dec cc pc (.invokestatic idx) 3 nx) {M : MI} (w : CWS own idx M 1) (hR : fitR M rm) (hls : ls.length = nL) {v1 : Value} (hM : Cv M [v1] SH σ τ) (hst : cats st) (K : AW X 0 0 ad SH τ nx ls st) : AW X 0 0 ad SH σ pc ls (v1 :: st) := a_callSv (As := [v1]) C d w hR ⟨Nat.zero_le _, Nat.zero_le _⟩ hls rfl hM hst K
theorem a_cNi1 (C : Cx X cc nL own ret rm) {idx : Nat} {host : String} (d : Dec cc pc (.invokestatic idx) 3 nx) {M : MI} (w : CWN own idx M 1 host) (hR : fitR M rm) (hls : ls.length = nL) {v1 : Value} {res : Int32 × Sg} (hM : Ci M [v1] SH σ res) (hst : cats st) (K : AW X 0 0 ad SH res.2 nx ls (.int res.1 :: st)) : AW X 0 0 ad SH σ pc ls (v1 :: st) := a_callNi (As := [v1]) C d w hR ⟨Nat.zero_le _, Nat.zero_le _⟩ hls rfl hM hst K
theorem a_cVi2 (C : Cx X cc nL own ret rm) {idx : Nat} (d : Dec cc pc (.invokevirtual idx) 3 nx) {M : MI} (w : CWV own idx M 2) (hR : fitR M rm) (hls : ls.length = nL) {v1 v2 : Value} {a ci N : Nat} {T : u_T} {fl : List (Option (Option Nat))} (ha : SH[a]? = some (.inr (ci, fl))) (hci : vwCl[ci]? = some (M.1.cls, T, N)) {res : Int32 × Sg} (hM : Ci M (.ref a :: [v1, v2]) SH σ res) (hst : cats st) (K : AW X 0 0 ad SH res.2 nx ls (.int res.1 :: st)) : AW X 0 0 ad SH σ pc ls (v2 :: v1 :: .ref a :: st) := a_callVi (As := [v1, v2]) C d w hR ⟨Nat.zero_le _, Nat.zero_le _⟩ hls rfl ha hci hM hst K
theorem a_cVv2 (C : Cx X cc nL own ret rm) {idx : Nat} (d : Dec cc pc (.invokevirtual idx) 3 nx) {M : MI} (w : CWV own idx M 2) (hR : fitR M rm) (hls : ls.length = nL) {v1 v2 : Value} {a ci N : Nat} {T : u_T} {fl : List (Option (Option Nat))} (ha : SH[a]? = some (.inr (ci, fl))) (hci : vwCl[ci]? = some (M.1.cls, T, N)) (hM : Cv M (.ref a :: [v1, v2]) SH σ τ) (hst : cats st) (K : AW X 0 0 ad SH τ nx ls st) : AW X 0 0 ad SH σ pc ls (v2 :: v1 :: .ref a :: st) := a_callVv (As := [v1, v2]) C d w hR ⟨Nat.zero_le _, Nat.zero_le _⟩ hls rfl ha hci hM hst K
theorem a_cSi2 (C : Cx X cc nL own ret rm) {idx : Nat} (d : Dec cc pc (.invokestatic idx) 3 nx) {M : MI} (w : CWS own idx M 2) (hR : fitR M rm) (hls : ls.length = nL) {v1 v2 : Value} {res : Int32 × Sg} (hM : Ci M [v1, v2] SH σ res) (hst : cats st) (K : AW X 0 0 ad SH res.2 nx ls (.int res.1 :: st)) : AW X 0 0 ad SH σ pc ls (v2 :: v1 :: st) := a_callSi (As := [v1, v2]) C d w hR ⟨Nat.zero_le _, Nat.zero_le _⟩ hls rfl hM hst K
theorem a_cSv2 (C : Cx X cc nL own ret rm) {idx : Nat} (d : Dec cc pc (.invokestatic idx) 3 nx) {M : MI} (w : CWS own idx M 2) (hR : fitR M rm) (hls : ls.length = nL) {v1 v2 : Value} (hM : Cv M [v1, v2] SH σ τ) (hst : cats st) (K : AW X 0 0 ad SH τ nx ls st) : AW X 0 0 ad SH σ pc ls (v2 :: v1 :: st) := a_callSv (As := [v1, v2]) C d w hR ⟨Nat.zero_le _, Nat.zero_le _⟩ hls rfl hM hst K
theorem a_cNi2 (C : Cx X cc nL own ret rm) {idx : Nat} {host : String} (d : Dec cc pc (.invokestatic idx) 3 nx) {M : MI} (w : CWN own idx M 2 host) (hR : fitR M rm) (hls : ls.length = nL) {v1 v2 : Value} {res : Int32 × Sg} (hM : Ci M [v1, v2] SH σ res) (hst : cats st) (K : AW X 0 0 ad SH res.2 nx ls (.int res.1 :: st)) : AW X 0 0 ad SH σ pc ls (v2 :: v1 :: st) := a_callNi (As := [v1, v2]) C d w hR ⟨Nat.zero_le _, Nat.zero_le _⟩ hls rfl hM hst K
theorem a_cVi3 (C : Cx X cc nL own ret rm) {idx : Nat} (d : Dec cc pc (.invokevirtual idx) 3 nx) {M : MI} (w : CWV own idx M 3) (hR : fitR M rm) (hls : ls.length = nL) {v1 v2 v3 : Value} {a ci N : Nat} {T : u_T} {fl : List (Option (Option Nat))} (ha : SH[a]? = some (.inr (ci, fl))) (hci : vwCl[ci]? = some (M.1.cls, T, N)) {res : Int32 × Sg} (hM : Ci M (.ref a :: [v1, v2, v3]) SH σ res) (hst : cats st) (K : AW X 0 0 ad SH res.2 nx ls (.int res.1 :: st)) : AW X 0 0 ad SH σ pc ls (v3 :: v2 :: v1 :: .ref a :: st) := a_callVi (As := [v1, v2, v3]) C d w hR ⟨Nat.zero_le _, Nat.zero_le _⟩ hls rfl ha hci hM hst K
theorem a_cVv3 (C : Cx X cc nL own ret rm) {idx : Nat} (d : Dec cc pc (.invokevirtual idx) 3 nx) {M : MI} (w : CWV own idx M 3) (hR : fitR M rm) (hls : ls.length = nL) {v1 v2 v3 : Value} {a ci N : Nat} {T : u_T} {fl : List (Option (Option Nat))} (ha : SH[a]? = some (.inr (ci, fl))) (hci : vwCl[ci]? = some (M.1.cls, T, N)) (hM : Cv M (.ref a :: [v1, v2, v3]) SH σ τ) (hst : cats st) (K : AW X 0 0 ad SH τ nx ls st) : AW X 0 0 ad SH σ pc ls (v3 :: v2 :: v1 :: .ref a :: st) := a_callVv (As := [v1, v2, v3]) C d w hR ⟨Nat.zero_le _, Nat.zero_le _⟩ hls rfl ha hci hM hst K
theorem a_cSi3 (C : Cx X cc nL own ret rm) {idx : Nat} (d : Dec cc pc (.invokestatic idx) 3 nx) {M : MI} (w : CWS own idx M 3) (hR : fitR M rm) (hls : ls.length = nL) {v1 v2 v3 : Value} {res : Int32 × Sg} (hM : Ci M [v1, v2, v3] SH σ res) (hst : cats st) (K : AW X 0 0 ad SH res.2 nx ls (.int res.1 :: st)) : AW X 0 0 ad SH σ pc ls (v3 :: v2 :: v1 :: st) := a_callSi (As := [v1, v2, v3]) C d w hR ⟨Nat.zero_le _, Nat.zero_le _⟩ hls rfl hM hst K
theorem a_cSv3 (C : Cx X cc nL own ret rm) {idx : Nat} (d : Dec cc pc (.invokestatic idx) 3 nx) {M : MI} (w : CWS own idx M 3) (hR : fitR M rm) (hls : ls.length = nL) {v1 v2 v3 : Value} (hM : Cv M [v1, v2, v3] SH σ τ) (hst : cats st) (K : AW X 0 0 ad SH τ nx ls st) : AW X 0 0 ad SH σ pc ls (v3 :: v2 :: v1 :: st) := a_callSv (As := [v1, v2, v3]) C d w hR ⟨Nat.zero_le _, Nat.zero_le _⟩ hls rfl hM hst K
theorem a_cNi3 (C : Cx X cc nL own ret rm) {idx : Nat} {host : String} (d : Dec cc pc (.invokestatic idx) 3 nx) {M : MI} (w : CWN own idx M 3 host) (hR : fitR M rm) (hls : ls.length = nL) {v1 v2 v3 : Value} {res : Int32 × Sg} (hM : Ci M [v1, v2, v3] SH σ res) (hst : cats st) (K : AW X 0 0 ad SH res.2 nx ls (.int res.1 :: st)) : AW X 0 0 ad SH σ pc ls (v3 :: v2 :: v1 :: st) := a_callNi (As := [v1, v2, v3]) C d w hR ⟨Nat.zero_le _, Nat.zero_le _⟩ hls rfl hM hst K
theorem a_cVi4 (C : Cx X cc nL own ret rm) {idx : Nat} (d : Dec cc pc (.invokevirtual idx) 3 nx) {M : MI} (w : CWV own idx M 4) (hR : fitR M rm) (hls : ls.length = nL) {v1 v2 v3 v4 : Value} {a ci N : Nat} {T : u_T} {fl : List (Option (Option Nat))} (ha : SH[a]? = some (.inr (ci, fl))) (hci : vwCl[ci]? = some (M.1.cls, T, N)) {res : Int32 × Sg} (hM : Ci M (.ref a :: [v1, v2, v3, v4]) SH σ res) (hst : cats st) (K : AW X 0 0 ad SH res.2 nx ls (.int res.1 :: st)) : AW X 0 0 ad SH σ pc ls (v4 :: v3 :: v2 :: v1 :: .ref a :: st) := a_callVi (As := [v1, v2, v3, v4]) C d w hR ⟨Nat.zero_le _, Nat.zero_le _⟩ hls rfl ha hci hM hst K
theorem a_cVv4 (C : Cx X cc nL own ret rm) {idx : Nat} (d : Dec cc pc (.invokevirtual idx) 3 nx) {M : MI} (w : CWV own idx M 4) (hR : fitR M rm) (hls : ls.length = nL) {v1 v2 v3 v4 : Value} {a ci N : Nat} {T : u_T} {fl : List (Option (Option Nat))} (ha : SH[a]? = some (.inr (ci, fl))) (hci : vwCl[ci]? = some (M.1.cls, T, N)) (hM : Cv M (.ref a :: [v1, v2, v3, v4]) SH σ τ) (hst : cats st) (K : AW X 0 0 ad SH τ nx ls st) : AW X 0 0 ad SH σ pc ls (v4 :: v3 :: v2 :: v1 :: .ref a :: st) := a_callVv (As := [v1, v2, v3, v4]) C d w hR ⟨Nat.zero_le _, Nat.zero_le _⟩ hls rfl ha hci hM hst K
theorem a_cSi4 (C : Cx X cc nL own ret rm) {idx : Nat} (d : Dec cc pc (.invokestatic idx) 3 nx) {M : MI} (w : CWS own idx M 4) (hR : fitR M rm) (hls : ls.length = nL) {v1 v2 v3 v4 : Value} {res : Int32 × Sg} (hM : Ci M [v1, v2, v3, v4] SH σ res) (hst : cats st) (K : AW X 0 0 ad SH res.2 nx ls (.int res.1 :: st)) : AW X 0 0 ad SH σ pc ls (v4 :: v3 :: v2 :: v1 :: st) := a_callSi (As := [v1, v2, v3, v4]) C d w hR ⟨Nat.zero_le _, Nat.zero_le _⟩ hls rfl hM hst K
theorem a_cSv4 (C : Cx X cc nL own ret rm) {idx : Nat} (d : Dec cc pc (.invokestatic idx) 3 nx) {M : MI} (w : CWS own idx M 4) (hR : fitR M rm) (hls : ls.length = nL) {v1 v2 v3 v4 : Value} (hM : Cv M [v1, v2, v3, v4] SH σ τ) (hst : cats st) (K : AW X 0 0 ad SH τ nx ls st) : AW X 0 0 ad SH σ pc ls (v4 :: v3 :: v2 :: v1 :: st) := a_callSv (As := [v1, v2, v3, v4]) C d w hR ⟨Nat.zero_le _, Nat.zero_le _⟩ hls rfl hM hst K
theorem a_cNi4 (C : Cx X cc nL own ret rm) {idx : Nat} {host : String} (d : Dec cc pc (.invokestatic idx) 3 nx) {M : MI} (w : CWN own idx M 4 host) (hR : fitR M rm) (hls : ls.length = nL) {v1 v2 v3 v4 : Value} {res : Int32 × Sg} (hM : Ci M [v1, v2, v3, v4] SH σ res) (hst : cats st) (K : AW X 0 0 ad SH res.2 nx ls (.int res.1 :: st)) : AW X 0 0 ad SH σ pc ls (v4 :: v3 :: v2 :: v1 :: st) := a_callNi (As := [v1, v2, v3, v4]) C d w hR ⟨Nat.zero_le _, Nat.zero_le _⟩ hls rfl hM hst K
theorem a_cVi5 (C : Cx X cc nL own ret rm) {idx : Nat} (d : Dec cc pc (.invokevirtual idx) 3 nx) {M : MI} (w : CWV own idx M 5) (hR : fitR M rm) (hls : ls.length = nL) {v1 v2 v3 v4 v5 : Value} {a ci N : Nat} {T : u_T} {fl : List (Option (Option Nat))} (ha : SH[a]? = some (.inr (ci, fl))) (hci : vwCl[ci]? = some (M.1.cls, T, N)) {res : Int32 × Sg} (hM : Ci M (.ref a :: [v1, v2, v3, v4, v5]) SH σ res) (hst : cats st) (K : AW X 0 0 ad SH res.2 nx ls (.int res.1 :: st)) : AW X 0 0 ad SH σ pc ls (v5 :: v4 :: v3 :: v2 :: v1 :: .ref a :: st) := a_callVi (As := [v1, v2, v3, v4, v5]) C d w hR ⟨Nat.zero_le _, Nat.zero_le _⟩ hls rfl ha hci hM hst K
theorem a_cVv5 (C : Cx X cc nL own ret rm) {idx : Nat} (d : Dec cc pc (.invokevirtual idx) 3 nx) {M : MI} (w : CWV own idx M 5) (hR : fitR M rm) (hls : ls.length = nL) {v1 v2 v3 v4 v5 : Value} {a ci N : Nat} {T : u_T} {fl : List (Option (Option Nat))} (ha : SH[a]? = some (.inr (ci, fl))) (hci : vwCl[ci]? = some (M.1.cls, T, N)) (hM : Cv M (.ref a :: [v1, v2, v3, v4, v5]) SH σ τ) (hst : cats st) (K : AW X 0 0 ad SH τ nx ls st) : AW X 0 0 ad SH σ pc ls (v5 :: v4 :: v3 :: v2 :: v1 :: .ref a :: st) := a_callVv (As := [v1, v2, v3, v4, v5]) C d w hR ⟨Nat.zero_le _, Nat.zero_le _⟩ hls rfl ha hci hM hst K
theorem a_cSi5 (C : Cx X cc nL own ret rm) {idx : Nat} (d : Dec cc pc (.invokestatic idx) 3 nx) {M : MI} (w : CWS own idx M 5) (hR : fitR M rm) (hls : ls.length = nL) {v1 v2 v3 v4 v5 : Value} {res : Int32 × Sg} (hM : Ci M [v1, v2, v3, v4, v5] SH σ res) (hst : cats st) (K : AW X 0 0 ad SH res.2 nx ls (.int res.1 :: st)) : AW X 0 0 ad SH σ pc ls (v5 :: v4 :: v3 :: v2 :: v1 :: st) := a_callSi (As := [v1, v2, v3, v4, v5]) C d w hR ⟨Nat.zero_le _, Nat.zero_le _⟩ hls rfl hM hst K
theorem a_cSv5 (C : Cx X cc nL own ret rm) {idx : Nat} (d : Dec cc pc (.invokestatic idx) 3 nx) {M : MI} (w : CWS own idx M 5) (hR : fitR M rm) (hls : ls.length = nL) {v1 v2 v3 v4 v5 : Value} (hM : Cv M [v1, v2, v3, v4, v5] SH σ τ) (hst : cats st) (K : AW X 0 0 ad SH τ nx ls st) : AW X 0 0 ad SH σ pc ls (v5 :: v4 :: v3 :: v2 :: v1 :: st) := a_callSv (As := [v1, v2, v3, v4, v5]) C d w hR ⟨Nat.zero_le _, Nat.zero_le _⟩ hls rfl hM hst K
theorem a_cNi5 (C : Cx X cc nL own ret rm) {idx : Nat} {host : String} (d : Dec cc pc (.invokestatic idx) 3 nx) {M : MI} (w : CWN own idx M 5 host) (hR : fitR M rm) (hls : ls.length = nL) {v1 v2 v3 v4 v5 : Value} {res : Int32 × Sg} (hM : Ci M [v1, v2, v3, v4, v5] SH σ res) (hst : cats st) (K : AW X 0 0 ad SH res.2 nx ls (.int res.1 :: st)) : AW X 0 0 ad SH σ pc ls (v5 :: v4 :: v3 :: v2 :: v1 :: st) := a_callNi (As := [v1, v2, v3, v4, v5]) C d w hR ⟨Nat.zero_le _, Nat.zero_le _⟩ hls rfl hM hst K
end AWM
section AWN
variable {X : CT} {cc : ByteArray} {nL : Nat} {own : String} {ret : Option FieldType} {rm : Room} {ce sl : Nat} {ad : Nat → Nat} {SH : List Shp} {σ τ : Sg} {res : Int32 × Sg} {pc nx tgt : Nat} {ls : List (Option Value)} {st : List Value}
def cpyOK (sp dp n : Int32) (n0 n1 : Nat) : Prop := ¬ sp < 0 ∧ ¬ dp < 0 ∧ ¬ n < 0 ∧ sp.toNatClampNeg + n.toNatClampNeg ≤ n0 ∧ dp.toNatClampNeg + n.toNatClampNeg ≤ n1
def fitA (rm : Room) : Prop := 1 ≤ rm.frames ∧ 8 + (nativeFrameWords "java/lang/System" "arraycopy" 5 + 11) ≤ rm.locals
theorem a_acopy {ρ : Type} {r : ρ} (C : Cx X cc nL own ret rm) {idx : Nat} (d : Dec cc pc (.invokestatic idx) 3 nx) (w : CWA own idx) (hR : fitA rm) (hls : ls.length = nL) (hst : cats st) {a b n0 n1 : Nat} (ha : SH[a]? = some (.inl n0)) (hb : SH[b]? = some (.inl n1)) {sp dp n : Int32} (hg : cpyOK sp dp n n0 n1) {f : Sg → Option ρ} (h : lt (cpy σ a b sp.toNatClampNeg dp.toNatClampNeg n.toNatClampNeg) f = some r) (K : ∀ τ, f τ = some r → AW X ce sl ad SH τ nx ls st) : AW X ce sl ad SH σ pc ls (.int n :: .int dp :: .ref b :: .int sp :: .ref a :: st) := by
  have K := K _ h
  obtain ⟨p, l, e, R, s, m, args, below, meth, c, D, cA, A, Q⟩ := X
  obtain ⟨hx, hb0, hml, hown, hts, hK, hA, hlocks, hret, rfl, hN⟩ := C
  obtain ⟨d, rfl⟩ := d
  obtain ⟨w1, w2, w3, w4⟩ := w
  obtain ⟨g1, g2, g3, g4, g5⟩ := hg
  intro H locs lsA hr hl
  refine va_copyi (ty := .int) hx hb0 (by rw [hml, hl.1]; exact hls.symm) hown (hts _ w1) (hts _ w2) (hts _ w3) (hts _ w4) hK hr.1 hr.2.1 hr.2.2 a b 0 0 (wld_get0 ha) (wld_get0 hb) rfl rfl rfl g1 g2 g3 g4 g5 (fun _ _ => rfl) hR.1 (by have := cats_cv (ad := ad) hst; have := hR.2; omega) d (fun H1 locs1 hP hD hS => ?_)
  have e1 := wld_set0 (ad := ad) (cA := cA) (σ := σ) hb (va_cpy (σ a) (σ b) sp.toNatClampNeg dp.toNatClampNeg n.toNatClampNeg)
  have e2 : List.set (wld ad cA σ 0 SH) b (ad b, .inl (cA, n1, .inl (va_cpy (σ a) (σ b) sp.toNatClampNeg dp.toNatClampNeg n.toNatClampNeg))) = wld ad cA (cpy σ a b sp.toNatClampNeg dp.toNatClampNeg n.toNatClampNeg) 0 SH := e1
  rw [e2] at hP hD
  exact K H1 locs1 lsA ⟨hP, hD, hS⟩ hl
theorem a_ist_n (C : Cx X cc nL own ret rm) {k : Fin 4} {x : Int32} (d : Dec cc pc (.istore_n k) 1 nx) (hk : (k : Nat) < ls.length) (ls' : List (Option Value)) (hl : ls.set k (some (.int x)) = ls') (K : AW X ce sl ad SH σ nx ls' st) : AW X ce sl ad SH σ pc ls (.int x :: st) := a_istore_n C d hk (hl ▸ K)
theorem a_ist (C : Cx X cc nL own ret rm) {k : Nat} {x : Int32} (d : Dec cc pc (.istore k) 2 nx) (hk : k < ls.length) (ls' : List (Option Value)) (hl : ls.set k (some (.int x)) = ls') (K : AW X ce sl ad SH σ nx ls' st) : AW X ce sl ad SH σ pc ls (.int x :: st) := a_istore C d hk (hl ▸ K)
theorem a_ast_n (C : Cx X cc nL own ret rm) {k : Fin 4} {x : Nat} (d : Dec cc pc (.astore_n k) 1 nx) (hk : (k : Nat) < ls.length) (ls' : List (Option Value)) (hl : ls.set k (some (.ref x)) = ls') (K : AW X ce sl ad SH σ nx ls' st) : AW X ce sl ad SH σ pc ls (.ref x :: st) := a_astore_n C d hk (hl ▸ K)
theorem a_inc {ρ : Type} {r : ρ} (C : Cx X cc nL own ret rm) {k : Nat} {n : Int} {x : Int32} (d : Dec cc pc (.iinc k n) 3 nx) (hl : ls[k]? = some (some (.int x))) {y : Int32} (hy : Int32.ofInt n = y) {f : Int32 → Option ρ} (h : lt (x + y) f = some r) (ls' : Int32 → List (Option Value)) (hs : ∀ z, ls.set k (some (.int z)) = ls' z) (K : ∀ z, f z = some r → AW X ce sl ad SH σ nx (ls' z) st) : AW X ce sl ad SH σ pc ls st := a_iinc C d hl y hy ((hs _).symm ▸ K _ h)
/-- an index that is a written number -/
theorem a_ialdK (C : Cx X cc nL own ret rm) (d : Dec cc pc .iaload 1 nx) {k n : Nat} (hk : SH[k]? = some (.inl n)) {i : Int32} {j : Nat} (hi : i.toNatClampNeg = j ∧ ¬ i < 0) (hj : j < n) (K : AW X ce sl ad SH σ nx ls (.int (σ k j) :: st)) : AW X ce sl ad SH σ pc ls (.int i :: .ref k :: st) := by
  obtain ⟨h1, h2⟩ := hi
  subst h1
  exact a_iald C d hk (fun h => h.elim h2 (fun h => absurd hj (by omega))) K
theorem a_iastK {ρ : Type} {r : ρ} (C : Cx X cc nL own ret rm) (d : Dec cc pc .iastore 1 nx) {k n : Nat} (hk : SH[k]? = some (.inl n)) {i x : Int32} {j : Nat} (hi : i.toNatClampNeg = j ∧ ¬ i < 0) (hj : j < n) {f : Sg → Option ρ} (h : lt (up σ k j x) f = some r) (K : ∀ τ, f τ = some r → AW X ce sl ad SH τ nx ls st) : AW X ce sl ad SH σ pc ls (.int x :: .int i :: .ref k :: st) := by
  obtain ⟨h1, h2⟩ := hi
  subst h1
  exact a_iast C d hk (fun h => h.elim h2 (fun h => absurd hj (by omega))) (K _ h)
theorem rt_i (R : Ri X cc ret ad SH res) {v : Int32} (d : Dec cc pc .ireturn 1 nx) (h : some (v, σ) = some res) (hn : nb ret v) : AW X 0 0 ad SH σ pc ls [.int v] := by
  cases h
  exact R _ _ _ d hn
theorem rt_p {r : Int32} (R : Ri X cc ret ad SH (r, σ)) {v : Int32} (d : Dec cc pc .ireturn 1 nx) (h : some v = some r) (hn : nb ret v) : AW X 0 0 ad SH σ pc ls [.int v] := by
  cases h
  exact R _ _ _ d hn
theorem rt_v (R : Rv X cc ad SH τ) (d : Dec cc pc .return_ 1 nx) (h : some σ = some τ) : AW X 0 0 ad SH σ pc ls [] := by
  cases h
  exact R _ _ _ d
end AWN
abbrev ib (i : Int32) (n : Nat) : Prop := ¬ (i < 0 ∨ n ≤ i.toNatClampNeg)
def FUEL : Nat := 1000000
