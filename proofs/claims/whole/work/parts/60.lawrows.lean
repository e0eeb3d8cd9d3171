/-! THE LAW: its script, outside the world, is cell 999 -/
/-- the script in a walk: the ints xs, L of them -/
def Scr (X : CT) (ad : Nat → Nat) (L : Nat) (xs : Nat → Int32) : Prop := match X with
  | (_, _, _, _, s, _, _, _, _, _, _, _, A, _) => va_X (ad 999) L xs s s.heap ∧ ad 999 < s.heap.size ∧ ¬ A (ad 999)
theorem Scr.agr {X : CT} {ad u : Nat → Nat} {L lo hi : Nat} {xs : Nat → Int32} (h : Scr X ad L xs) (ha : agr lo hi ad u) (hh : hi ≤ 999) : Scr X u L xs := by
  obtain ⟨p, l, e, R, s, m, args, below, meth, c, D, cA, A, Q⟩ := X
  have e1 := ha 999 (Or.inr hh)
  unfold Scr at h ⊢
  rw [e1]
  exact h
section AWL
variable {X : CT} {cc : ByteArray} {nL : Nat} {own : String} {ret : Option FieldType} {rm : Room} {ce sl : Nat} {ad : Nat → Nat} {SH : List Shp} {σ τ : Sg} {pc nx tgt : Nat} {ls : List (Option Value)} {st : List Value}
theorem a_sld (C : Cx X cc nL own ret rm) (d : Dec cc pc .iaload 1 nx) {L : Nat} {xs : Nat → Int32} (hX : Scr X ad L xs) {i : Int32} (hin : ¬ (i < 0 ∨ L ≤ i.toNatClampNeg)) (K : AW X ce sl ad SH σ nx ls (.int (xs i.toNatClampNeg) :: st)) : AW X ce sl ad SH σ pc ls (.int i :: .ref 999 :: st) := by
  obtain ⟨p, l, e, R, s, m, args, below, meth, c, D, cA, A, Q⟩ := X
  obtain ⟨hx, hb, -⟩ := C
  obtain ⟨d, rfl⟩ := d
  obtain ⟨h1, h2, h3⟩ := hX
  intro H locs lsA hr hl
  exact va_sld hx hb h1 h2 h3 hr.2.2 hin d (K H locs lsA hr hl)
theorem a_slen (C : Cx X cc nL own ret rm) (d : Dec cc pc .arraylength 1 nx) {L : Nat} {xs : Nat → Int32} (hX : Scr X ad L xs) (K : AW X ce sl ad SH σ nx ls (.int (Int32.ofNat L) :: st)) : AW X ce sl ad SH σ pc ls (.ref 999 :: st) := by
  obtain ⟨p, l, e, R, s, m, args, below, meth, c, D, cA, A, Q⟩ := X
  obtain ⟨hx, hb, -⟩ := C
  obtain ⟨d, rfl⟩ := d
  obtain ⟨h1, h2, h3⟩ := hX
  intro H locs lsA hr hl
  exact va_slen hx hb h1 h2 h3 hr.2.2 d (K H locs lsA hr hl)
theorem a_dVi0 (C : Cx X cc nL own ret rm) {idx : Nat} (d : Dec cc pc (.invokevirtual idx) 3 nx) {M : MI} (w : CWV own idx M 0) (hR : fitR M rm) (hcs : ce ≤ rm.cells ∧ sl ≤ rm.slots) (hls : ls.length = nL) {a ci N : Nat} {T : u_T} {fl : List (Option (Option Nat))} (ha : SH[a]? = some (.inr (ci, fl))) (hci : vwCl[ci]? = some (M.1.cls, T, N)) {res : Int32 × Sg} (hM : Ci M (.ref a :: []) SH σ res) (hst : cats st) (K : AW X ce sl ad SH res.2 nx ls (.int res.1 :: st)) : AW X ce sl ad SH σ pc ls (.ref a :: st) := a_callVi (As := []) C d w hR hcs hls rfl ha hci hM hst K
theorem a_dVi1 (C : Cx X cc nL own ret rm) {idx : Nat} (d : Dec cc pc (.invokevirtual idx) 3 nx) {M : MI} (w : CWV own idx M 1) (hR : fitR M rm) (hcs : ce ≤ rm.cells ∧ sl ≤ rm.slots) (hls : ls.length = nL) {v1 : Value} {a ci N : Nat} {T : u_T} {fl : List (Option (Option Nat))} (ha : SH[a]? = some (.inr (ci, fl))) (hci : vwCl[ci]? = some (M.1.cls, T, N)) {res : Int32 × Sg} (hM : Ci M (.ref a :: [v1]) SH σ res) (hst : cats st) (K : AW X ce sl ad SH res.2 nx ls (.int res.1 :: st)) : AW X ce sl ad SH σ pc ls (v1 :: .ref a :: st) := a_callVi (As := [v1]) C d w hR hcs hls rfl ha hci hM hst K
theorem a_dVi2 (C : Cx X cc nL own ret rm) {idx : Nat} (d : Dec cc pc (.invokevirtual idx) 3 nx) {M : MI} (w : CWV own idx M 2) (hR : fitR M rm) (hcs : ce ≤ rm.cells ∧ sl ≤ rm.slots) (hls : ls.length = nL) {v1 v2 : Value} {a ci N : Nat} {T : u_T} {fl : List (Option (Option Nat))} (ha : SH[a]? = some (.inr (ci, fl))) (hci : vwCl[ci]? = some (M.1.cls, T, N)) {res : Int32 × Sg} (hM : Ci M (.ref a :: [v1, v2]) SH σ res) (hst : cats st) (K : AW X ce sl ad SH res.2 nx ls (.int res.1 :: st)) : AW X ce sl ad SH σ pc ls (v2 :: v1 :: .ref a :: st) := a_callVi (As := [v1, v2]) C d w hR hcs hls rfl ha hci hM hst K
theorem a_dVi3 (C : Cx X cc nL own ret rm) {idx : Nat} (d : Dec cc pc (.invokevirtual idx) 3 nx) {M : MI} (w : CWV own idx M 3) (hR : fitR M rm) (hcs : ce ≤ rm.cells ∧ sl ≤ rm.slots) (hls : ls.length = nL) {v1 v2 v3 : Value} {a ci N : Nat} {T : u_T} {fl : List (Option (Option Nat))} (ha : SH[a]? = some (.inr (ci, fl))) (hci : vwCl[ci]? = some (M.1.cls, T, N)) {res : Int32 × Sg} (hM : Ci M (.ref a :: [v1, v2, v3]) SH σ res) (hst : cats st) (K : AW X ce sl ad SH res.2 nx ls (.int res.1 :: st)) : AW X ce sl ad SH σ pc ls (v3 :: v2 :: v1 :: .ref a :: st) := a_callVi (As := [v1, v2, v3]) C d w hR hcs hls rfl ha hci hM hst K
theorem a_dVi4 (C : Cx X cc nL own ret rm) {idx : Nat} (d : Dec cc pc (.invokevirtual idx) 3 nx) {M : MI} (w : CWV own idx M 4) (hR : fitR M rm) (hcs : ce ≤ rm.cells ∧ sl ≤ rm.slots) (hls : ls.length = nL) {v1 v2 v3 v4 : Value} {a ci N : Nat} {T : u_T} {fl : List (Option (Option Nat))} (ha : SH[a]? = some (.inr (ci, fl))) (hci : vwCl[ci]? = some (M.1.cls, T, N)) {res : Int32 × Sg} (hM : Ci M (.ref a :: [v1, v2, v3, v4]) SH σ res) (hst : cats st) (K : AW X ce sl ad SH res.2 nx ls (.int res.1 :: st)) : AW X ce sl ad SH σ pc ls (v4 :: v3 :: v2 :: v1 :: .ref a :: st) := a_callVi (As := [v1, v2, v3, v4]) C d w hR hcs hls rfl ha hci hM hst K
theorem a_dVi5 (C : Cx X cc nL own ret rm) {idx : Nat} (d : Dec cc pc (.invokevirtual idx) 3 nx) {M : MI} (w : CWV own idx M 5) (hR : fitR M rm) (hcs : ce ≤ rm.cells ∧ sl ≤ rm.slots) (hls : ls.length = nL) {v1 v2 v3 v4 v5 : Value} {a ci N : Nat} {T : u_T} {fl : List (Option (Option Nat))} (ha : SH[a]? = some (.inr (ci, fl))) (hci : vwCl[ci]? = some (M.1.cls, T, N)) {res : Int32 × Sg} (hM : Ci M (.ref a :: [v1, v2, v3, v4, v5]) SH σ res) (hst : cats st) (K : AW X ce sl ad SH res.2 nx ls (.int res.1 :: st)) : AW X ce sl ad SH σ pc ls (v5 :: v4 :: v3 :: v2 :: v1 :: .ref a :: st) := a_callVi (As := [v1, v2, v3, v4, v5]) C d w hR hcs hls rfl ha hci hM hst K
end AWL
def RLw (X : CT) (ad : Nat → Nat) (rr : Int32) : Prop := ∀ (pc nx : Nat) (ls : List (Option Value)) (σ : Sg), Dec cL_law pc .ireturn 1 nx → AW X 92 7821 ad (SHc ++ SHm) σ pc ls [.int rr]
theorem rt_L {X : CT} {ad : Nat → Nat} {rr v : Int32} {σ : Sg} {pc nx : Nat} {ls : List (Option Value)} (R : RLw X ad rr) (d : Dec cL_law pc .ireturn 1 nx) (h : some v = some rr) : AW X 92 7821 ad (SHc ++ SHm) σ pc ls [.int v] := by
  cases h
  exact R _ _ _ _ d
theorem c_iconst_6 : Int32.ofInt (6) = (6 : Int32) := by decide
