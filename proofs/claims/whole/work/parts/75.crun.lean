/-! THE CLASS: its run of one shop -/
theorem lt_def {α β : Type} (a : α) (f : α → β) : lt a f = f a := rfl
theorem lt_val {α β : Type} {a b : α} (h : a = b) (f : α → β) : lt a f = f b := by rw [h]; rfl
theorem ush_nI {n j : Nat} (hn : n < 2147483648) (hj : j < 32) : ush (nI n) (nI j) = nI (n >>> j) := by
  unfold ush
  rw [pk_ushrN (by omega) _ j (by
    have : ∀ n, n < 32 → (((nI n).toUInt32 &&& Int32.toUInt32 31).toBitVec % 32).toNat = n := by decide +kernel
    exact this j hj), Nat.shiftRight_eq_div_pow]
theorem c_cellOf (s d : Nat) : XX9_cellOf (nI s) (nI d) = some (nI (14 * s + d)) := by
  unfold XX9_cellOf
  simp only [nI_lit]
  rw [pk_mul, nI_add, Nat.mul_comm s 14]
theorem c_isVisited {k s d v : Nat} {σ : Sg} (h : σ (k + 1) s = nI v) (hs : s < 6) (hv : v < 2147483648) (hd : d < 32) : XX5_isVisited k (nI s) (nI d) σ = some (nI (bq (v.testBit d))) := by
  unfold XX5_isVisited
  rw [if_pos ((ib_nI (by omega)).mpr hs), nI_cl (by omega), h]
  simp only [nI_lit]
  rw [nx_bit hv hd]
  cases v.testBit d <;> rfl
theorem min_nI {a b : Nat} (ha : a < 2147483648) (hb : b < 2147483648) : (if nI b < nI a then nI b else nI a) = nI (min a b) := by
  by_cases h : b < a
  · rw [if_pos ((nI_lti hb ha).mpr h), Nat.min_eq_right (by omega)]
  · rw [if_neg (fun q => h ((nI_lti hb ha).mp q)), Nat.min_eq_left (by omega)]
/-- the cells that a run changes -/
abbrev runS (k : Nat) : List (Nat × Option Nat) := [(k, some 5), (k, some 6), (k + 3, none), (k + 4, none), (k + 5, none), (k + 6, none)]
theorem runFrom_step {k D s v p sh a d n : Nat} {c : Int32} {σ : Sg} (hk : 10 ≤ k) (h0 : σ 2 0 = nI D) (hD : D ≤ 14) (hs : s < 6) (hv : v < 2147483648) (h5 : σ 5 s = nI sh) (hsh : sh < 1000000) (hp : p ≤ sh) (h1 : σ (k + 1) s = nI v) (ha : σ (k + 2) (14 * s + d) = nI a) (hla : a < 1000000) (hd : d < D) : ∃ τ, LX5_runFrom_11 k (nI s) c (n + 1) (nI p) (nI d) σ = (if nI ((if v.testBit d then sh else p) - a) = σ (k + 4) (14 * s + d) ∧ ush c (nI (d + 1)) = 0 then some τ else LX5_runFrom_11 k (nI s) c n (nI ((if v.testBit d then sh else p) - a)) (nI (d + 1)) τ)
    ∧ (∀ i, τ (k + 3) i = if i = 14 * s + d then nI (if v.testBit d then sh - p else 0) else σ (k + 3) i) ∧ (∀ i, τ (k + 4) i = if i = 14 * s + d then nI ((if v.testBit d then sh else p) - a) else σ (k + 4) i) ∧ (∀ i, τ (k + 5) i = if i = 14 * s + d then nI (a - (if v.testBit d then sh else p)) else σ (k + 5) i)
    ∧ τ k 5 = σ k 5 + (nI (a - (if v.testBit d then sh else p)) - σ (k + 5) (14 * s + d)) ∧ τ k 6 = σ k 6 + (nI ((if v.testBit d then sh else p) - a) - σ (k + 4) (14 * s + d))
    ∧ (∀ e, τ (k + 6) e = if e = d ∧ ¬ nI (if v.testBit d then sh - p else 0) = σ (k + 3) (14 * s + d) then -1 else σ (k + 6) e) ∧ fr (runS k) σ τ := by
  obtain ⟨m, hm⟩ : ∃ m, m = if v.testBit d then sh else p := ⟨_, rfl⟩
  obtain ⟨ld, hld⟩ : ∃ ld, ld = if v.testBit d then sh - p else 0 := ⟨_, rfl⟩
  have hm1 : m < 1000000 ∧ p + ld = m := by
    rw [hm, hld]
    split <;> omega
  rw [← hm, ← hld]
  -- what is ahead of the branch on the load
  obtain ⟨σ1, hσ1⟩ : ∃ σ1, σ1 = if nI ld = σ (k + 3) (14 * s + d) then σ else up (up σ (k + 3) (14 * s + d) (nI ld)) (k + 6) d (-1) := ⟨_, rfl⟩
  have f1 : fr (runS k) σ σ1 := by
    rw [hσ1]
    split
    · exact fr.rf
    · exact (fr_up.mono (by simp)).tr (fr_up.mono (by simp))
  have g2 : σ1 (k + 2) = σ (k + 2) := f1.cell (by simp)
  have g3 : ∀ i, σ1 (k + 3) i = if i = 14 * s + d then nI ld else σ (k + 3) i := fun i => by
    rw [hσ1]
    split
    · rename_i q
      by_cases r : i = 14 * s + d
      · rw [if_pos r, r, q]
      · rw [if_neg r]
    · rw [up_cell (by omega), up_at]
      simp only [true_and]
  have g4 : σ1 (k + 4) = σ (k + 4) := by
    rw [hσ1]
    split
    · rfl
    · rw [up_cell (by omega), up_cell (by omega)]
  have g5 : σ1 (k + 5) = σ (k + 5) := by
    rw [hσ1]
    split
    · rfl
    · rw [up_cell (by omega), up_cell (by omega)]
  have gk : σ1 k = σ k := by
    rw [hσ1]
    split
    · rfl
    · rw [up_cell (by omega), up_cell (by omega)]
  have g6 : ∀ e, σ1 (k + 6) e = if e = d ∧ ¬ nI ld = σ (k + 3) (14 * s + d) then -1 else σ (k + 6) e := fun e => by
    rw [hσ1]
    split
    · rename_i q
      rw [if_neg (fun r => r.2 q)]
    · rename_i q
      rw [up_at]
      by_cases r : e = d
      · rw [if_pos ⟨rfl, r⟩, if_pos ⟨r, q⟩]
      · rw [if_neg (fun z => r z.2), if_neg (fun z => r z.1), up_cell (by omega)]
  refine ⟨up (up (up (up σ1 k 5 (σ1 k 5 + (nI (a - m) - σ1 (k + 5) (14 * s + d)))) (k + 5) (14 * s + d) (nI (a - m))) k 6 (σ1 k 6 + (nI (m - a) - σ1 (k + 4) (14 * s + d)))) (k + 4) (14 * s + d) (nI (m - a)), ?_, ?_, ?_, ?_, ?_, ?_, ?_, ?_⟩
  · rw [LX5_runFrom_11, h0, if_neg (by rw [nI_lei] <;> omega), c_cellOf]
    simp only [b1]
    rw [c_isVisited h1 hs hv (by omega)]
    simp only []
    have i1 : ib (nI (14 * s + d)) 84 := (ib_nI (by omega)).mpr (by omega)
    have i2 : (nI (14 * s + d)).toNatClampNeg = 14 * s + d := nI_cl (by omega)
    have i3 : ib (nI d) 14 := (ib_nI (by omega)).mpr (by omega)
    have i4 : (nI d).toNatClampNeg = d := nI_cl (by omega)
    have i5 : ib (nI s) 6 := (ib_nI (by omega)).mpr hs
    have i6 : (nI s).toNatClampNeg = s := nI_cl (by omega)
    simp only [if_pos i1, i2, if_pos i3, i4, if_pos i5, i6, h5]
    have eld : (if nI (bq (v.testBit d)) = 0 then (0 : Int32) else nI sh - nI p) = nI ld := by
      rw [hld]
      cases v.testBit d with
      | false => rfl
      | true =>
        rw [if_neg (by decide), pk_sub hp]
        rfl
    have e9 : ∀ ρ : Sg, ρ (k + 2) = σ (k + 2) → nI p + nI ld = nI m ∧ (if ρ (k + 2) (14 * s + d) < nI m then ρ (k + 2) (14 * s + d) else nI m) = nI (min m a) := fun ρ hρ => by
      refine ⟨by rw [nI_add, hm1.2], ?_⟩
      rw [hρ, ha]
      exact min_nI (by omega) (by omega)
    have s1 : nI m - nI (min m a) = nI (m - a) := by rw [pk_sub (Nat.min_le_left m a), show m - min m a = m - a by omega]
    have s2 : nI a - nI (min m a) = nI (a - m) := by rw [pk_sub (Nat.min_le_right m a), show a - min m a = a - m by omega]
    have u1 : ∀ x, up σ1 k 5 x (k + 2) (14 * s + d) = nI a := fun x => by rw [up_cell (by omega), g2, ha]
    have u2 : ∀ x y, up (up σ1 k 5 x) (k + 5) (14 * s + d) y (k + 4) (14 * s + d) = σ (k + 4) (14 * s + d) := fun x y => by rw [up_cell (by omega), up_cell (by omega), g4]
    have u3 : ∀ x y, up (up σ1 k 5 x) (k + 5) (14 * s + d) y k 6 = σ1 k 6 := fun x y => by rw [up_cell (by omega), up_slot (by omega)]
    have u4 : σ1 (k + 2) (14 * s + d) = nI a := by rw [g2, ha]
    have u5 : σ1 (k + 4) (14 * s + d) = σ (k + 4) (14 * s + d) := by rw [g4]
    have fin : ∀ (W : Int32 → Sg → Option Sg), (∀ y τ, W y τ = (if y = σ (k + 4) (14 * s + d) then (if ush c (nI d + 1) = 0 then some τ else LX5_runFrom_11 k (nI s) c n y (nI d + 1) τ) else LX5_runFrom_11 k (nI s) c n y (nI d + 1) τ)) → W (nI (m - a)) (up (up (up (up σ1 k 5 (σ1 k 5 + (nI (a - m) - σ1 (k + 5) (14 * s + d)))) (k + 5) (14 * s + d) (nI (a - m))) k 6 (σ1 k 6 + (nI (m - a) - σ1 (k + 4) (14 * s + d)))) (k + 4) (14 * s + d) (nI (m - a))) = (if nI (m - a) = σ (k + 4) (14 * s + d) ∧ ush c (nI (d + 1)) = 0 then some (up (up (up (up σ1 k 5 (σ1 k 5 + (nI (a - m) - σ1 (k + 5) (14 * s + d)))) (k + 5) (14 * s + d) (nI (a - m))) k 6 (σ1 k 6 + (nI (m - a) - σ1 (k + 4) (14 * s + d)))) (k + 4) (14 * s + d) (nI (m - a))) else LX5_runFrom_11 k (nI s) c n (nI (m - a)) (nI (d + 1)) (up (up (up (up σ1 k 5 (σ1 k 5 + (nI (a - m) - σ1 (k + 5) (14 * s + d)))) (k + 5) (14 * s + d) (nI (a - m))) k 6 (σ1 k 6 + (nI (m - a) - σ1 (k + 4) (14 * s + d)))) (k + 4) (14 * s + d) (nI (m - a)))) := fun W hW => by
      rw [hW, nI_1]
      by_cases q1 : nI (m - a) = σ (k + 4) (14 * s + d)
      · rw [if_pos q1]
        by_cases q2 : ush c (nI (d + 1)) = 0
        · rw [if_pos q2, if_pos ⟨q1, q2⟩]
        · rw [if_neg q2, if_neg (fun z => q2 z.2)]
      · rw [if_neg q1, if_neg (fun z => q1 z.1)]
    have cont : ∀ (B : Int32 → Option Sg), lt B (fun k => if nI (bq (v.testBit d)) = 0 then k 0 else k (nI sh - nI p)) = B (nI ld) := fun B => by
      rw [← eld]
      show (if nI (bq (v.testBit d)) = 0 then B 0 else B (nI sh - nI p)) = _
      split <;> rfl
    have br : ∀ (B : Sg → Option Sg), lt B (fun k88 => if nI ld = σ (k + 3) (14 * s + d) then k88 σ else lt (up σ (k + 3) (14 * s + d) (nI ld)) (fun σ_29 => lt (up σ_29 (k + 6) d (-1)) (fun σ_31 => k88 σ_31))) = B σ1 := fun B => by
      rw [hσ1]
      show (if nI ld = σ (k + 3) (14 * s + d) then B σ else B (up (up σ (k + 3) (14 * s + d) (nI ld)) (k + 6) d (-1))) = _
      split <;> rfl
    refine (cont _).trans ?_
    refine (br _).trans ?_
    refine (lt_val (e9 σ1 g2).1 _).trans ?_
    refine (lt_val (e9 σ1 g2).2 _).trans ?_
    refine (lt_val s1 _).trans ?_
    refine (lt_val (b := up σ1 k 5 (σ1 k 5 + (nI (a - m) - σ1 (k + 5) (14 * s + d)))) (by rw [u4, s2]) _).trans ?_
    refine (lt_val (b := up (up σ1 k 5 (σ1 k 5 + (nI (a - m) - σ1 (k + 5) (14 * s + d)))) (k + 5) (14 * s + d) (nI (a - m))) (by rw [u1, s2]) _).trans ?_
    refine (lt_val (u2 _ _) _).trans ?_
    refine (lt_val (b := up (up (up σ1 k 5 (σ1 k 5 + (nI (a - m) - σ1 (k + 5) (14 * s + d)))) (k + 5) (14 * s + d) (nI (a - m))) k 6 (σ1 k 6 + (nI (m - a) - σ1 (k + 4) (14 * s + d)))) (by rw [u3, u5]) _).trans ?_
    refine (lt_val rfl _).trans ?_
    exact fin (fun y τ => (if y = σ (k + 4) (14 * s + d) then (if ush c (nI d + 1) = 0 then some τ else LX5_runFrom_11 k (nI s) c n y (nI d + 1) τ) else LX5_runFrom_11 k (nI s) c n y (nI d + 1) τ)) (fun _ _ => rfl)
  · intro i
    rw [up_cell (by omega), up_cell (by omega), up_cell (by omega), up_cell (by omega)]
    exact g3 i
  · intro i
    rw [up_at]
    simp only [true_and]
    by_cases r : i = 14 * s + d
    · rw [if_pos r, if_pos r]
    · rw [if_neg r, if_neg r, up_cell (by omega), up_cell (by omega), up_cell (by omega), g4]
  · intro i
    rw [up_cell (by omega), up_cell (by omega), up_at]
    simp only [true_and]
    by_cases r : i = 14 * s + d
    · rw [if_pos r, if_pos r]
    · rw [if_neg r, if_neg r, up_cell (by omega), g5]
  · rw [up_cell (by omega), up_slot (by omega), up_cell (by omega), up_same, gk, g5]
  · rw [up_cell (by omega), up_same, gk, g4]
  · intro e
    rw [up_cell (by omega), up_cell (by omega), up_cell (by omega), up_cell (by omega)]
    exact g6 e
  · exact (((f1.tr (fr_upf.mono (by simp))).tr (fr_up.mono (by simp))).tr (fr_upf.mono (by simp))).tr (fr_up.mono (by simp))
