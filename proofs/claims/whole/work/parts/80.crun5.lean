/-! THE CLASS: takeOver, dropVisits, counts; what is there -/
theorem cpy_cell {σ : Sg} {a b x y n k : Nat} (h : k ≠ b) : cpy σ a b x y n k = σ k := by
  unfold cpy setc
  rw [if_neg h]
theorem c_takeOver {V : Vw} {pr : (Nat → Int32) → Int32} (hpr : prC pr) {k j : Nat} {vis : Nat → Nat} {ask : Nat → Nat → Nat} {σ : Sg} (hkj : k + 7 ≤ j ∨ j + 7 ≤ k) (h8 : V 0 8 ≤ 6) (h0 : V 0 0 ≤ 14) (hr : RN V pr j vis ask σ) : ∃ τ, XX5_takeOver k j σ = some τ ∧ RN V pr k vis ask τ ∧ fr [(k, some 5), (k, some 6), (k + 1, none), (k + 2, none), (k + 3, none), (k + 4, none), (k + 5, none), (k + 6, none)] σ τ := by
  obtain ⟨τ, hτ⟩ : ∃ τ, τ = up (up (cpy (cpy (cpy (cpy (cpy (cpy σ (j + 1) (k + 1) 0 0 6) (j + 2) (k + 2) 0 0 84) (j + 3) (k + 3) 0 0 84) (j + 4) (k + 4) 0 0 84) (j + 5) (k + 5) 0 0 84) (j + 6) (k + 6) 0 0 14) k 5 (σ j 5)) k 6 (σ j 6) := ⟨_, rfl⟩
  have g1 : ∀ i, i < 6 → τ (k + 1) i = σ (j + 1) i := fun i hi => by
    rw [hτ, up_cell (by omega), up_cell (by omega), cpy_cell (by omega), cpy_cell (by omega), cpy_cell (by omega), cpy_cell (by omega), cpy_cell (by omega), cpy_at, if_pos ⟨rfl, hi⟩]
  have g2 : ∀ i, i < 84 → τ (k + 2) i = σ (j + 2) i := fun i hi => by
    rw [hτ, up_cell (by omega), up_cell (by omega), cpy_cell (by omega), cpy_cell (by omega), cpy_cell (by omega), cpy_cell (by omega), cpy_at, if_pos ⟨rfl, hi⟩, cpy_cell (by omega)]
  have g3 : ∀ i, i < 84 → τ (k + 3) i = σ (j + 3) i := fun i hi => by
    rw [hτ, up_cell (by omega), up_cell (by omega), cpy_cell (by omega), cpy_cell (by omega), cpy_cell (by omega), cpy_at, if_pos ⟨rfl, hi⟩, cpy_cell (by omega), cpy_cell (by omega)]
  have g4 : ∀ i, i < 84 → τ (k + 4) i = σ (j + 4) i := fun i hi => by
    rw [hτ, up_cell (by omega), up_cell (by omega), cpy_cell (by omega), cpy_cell (by omega), cpy_at, if_pos ⟨rfl, hi⟩, cpy_cell (by omega), cpy_cell (by omega), cpy_cell (by omega)]
  have g5 : ∀ i, i < 84 → τ (k + 5) i = σ (j + 5) i := fun i hi => by
    rw [hτ, up_cell (by omega), up_cell (by omega), cpy_cell (by omega), cpy_at, if_pos ⟨rfl, hi⟩, cpy_cell (by omega), cpy_cell (by omega), cpy_cell (by omega), cpy_cell (by omega)]
  have g6 : ∀ i, i < 14 → τ (k + 6) i = σ (j + 6) i := fun i hi => by
    rw [hτ, up_cell (by omega), up_cell (by omega), cpy_at, if_pos ⟨rfl, hi⟩, cpy_cell (by omega), cpy_cell (by omega), cpy_cell (by omega), cpy_cell (by omega), cpy_cell (by omega)]
  have k5 : τ k 5 = σ j 5 := by rw [hτ, up_slot (by omega), up_same]
  have k6 : τ k 6 = σ j 6 := by rw [hτ, up_same]
  have hf : fr [(k, some 5), (k, some 6), (k + 1, none), (k + 2, none), (k + 3, none), (k + 4, none), (k + 5, none), (k + 6, none)] σ τ := by
    rw [hτ]
    exact (((((((fr_cpy.mono (by simp)).tr (fr_cpy.mono (by simp))).tr (fr_cpy.mono (by simp))).tr (fr_cpy.mono (by simp))).tr (fr_cpy.mono (by simp))).tr (fr_cpy.mono (by simp))).tr (fr_upf.mono (by simp))).tr (fr_upf.mono (by simp))
  obtain ⟨r1, r2, r3, q1, q2, q3, q4⟩ := hr
  have t2 : ∀ (a b : Nat), (∀ i, i < 84 → τ a i = σ b i) → tot2 (τ a) (V 0 8) (V 0 0) = tot2 (σ b) (V 0 8) (V 0 0) := fun a b h => sumI_ext (fun s hs => sumI_ext (fun d hd => h _ (by omega)))
  refine ⟨τ, ?_, ⟨fun s hs => by rw [g1 s hs]; exact r1 s hs, fun s d hs hd => by rw [g2 _ (by omega)]; exact r2 s d hs hd, fun s d hs hd => ?_, ?_, ?_, ?_, ?_⟩, hf⟩
  · unfold XX5_takeOver
    have n0 : (0 : Int32).toNatClampNeg = 0 := by decide
    have n6 : (6 : Int32).toNatClampNeg = 6 := by decide
    have n14 : (14 : Int32).toNatClampNeg = 14 := by decide
    have n84 : (84 : Int32).toNatClampNeg = 84 := by decide
    simp only [lt, n0, n6, n14, n84]
    have e5 : (cpy (cpy (cpy (cpy (cpy (cpy σ (j + 1) (k + 1) 0 0 6) (j + 2) (k + 2) 0 0 84) (j + 3) (k + 3) 0 0 84) (j + 4) (k + 4) 0 0 84) (j + 5) (k + 5) 0 0 84) (j + 6) (k + 6) 0 0 14) j 5 = σ j 5 := by rw [cpy_cell (by omega), cpy_cell (by omega), cpy_cell (by omega), cpy_cell (by omega), cpy_cell (by omega), cpy_cell (by omega)]
    have e6 : up (cpy (cpy (cpy (cpy (cpy (cpy σ (j + 1) (k + 1) 0 0 6) (j + 2) (k + 2) 0 0 84) (j + 3) (k + 3) 0 0 84) (j + 4) (k + 4) 0 0 84) (j + 5) (k + 5) 0 0 84) (j + 6) (k + 6) 0 0 14) k 5 (σ j 5) j 6 = σ j 6 := by rw [up_cell (by omega), cpy_cell (by omega), cpy_cell (by omega), cpy_cell (by omega), cpy_cell (by omega), cpy_cell (by omega), cpy_cell (by omega)]
    rw [e5, e6, hτ]
  · unfold rowC
    rw [g3 _ (by omega), g4 _ (by omega), g5 _ (by omega)]
    exact r3 s d hs hd
  · rw [k5, t2 _ _ g5]
    exact q1
  · rw [k6, t2 _ _ g4]
    exact q2
  · intro e he
    rw [g6 e (by omega)]
    rcases q3 e he with z | z
    · exact Or.inl z
    · exact Or.inr (z.trans (hpr _ _ (fun s hs => (g3 _ (by omega)).symm)))
  · intro s d hs hd hn
    rw [g3 _ (by omega)]
    exact q4 s d hs hd hn
theorem c_hasShop {V : Vw} {σ : Sg} (ht : TC V σ) (h8 : V 0 8 ≤ 6) (x : Int32) : XX7_hasShop x σ = some (if ib x (V 0 8) then 1 else 0) := by
  unfold XX7_hasShop
  rw [ht.2.2.2.2.2.2.1, lt_def]
  rcases pk_ix x (n := V 0 8) (by omega) with h | h | ⟨j, hj, rfl⟩
  · rw [if_pos h, if_neg (fun q => q (Or.inl h))]
  · have h0 : ¬ x < 0 := fun q => by
      have h1 := Int32.lt_iff_toInt_lt.mp q
      have h2 := Int32.le_iff_toInt_le.mp h
      rw [nI_toInt (by omega)] at h2
      rw [Int32.toInt_zero] at h1
      omega
    rw [if_neg h0, if_pos h, if_neg]
    obtain ⟨j, hj, rfl⟩ := nI_of h0
    rw [ib_nI hj]
    have := (nI_lei (by omega) hj).mp h
    omega
  · rw [if_neg (nI_pos (by omega)), if_neg (by rw [nI_lei] <;> omega), if_pos ((ib_nI (by omega)).mpr hj)]
theorem c_hasDay {V : Vw} {σ : Sg} (ht : TC V σ) (h8 : V 0 0 ≤ 14) (x : Int32) : XX7_hasDay x σ = some (if ib x (V 0 0) then 1 else 0) := by
  unfold XX7_hasDay
  rw [ht.1, lt_def]
  rcases pk_ix x (n := V 0 0) (by omega) with h | h | ⟨j, hj, rfl⟩
  · rw [if_pos h, if_neg (fun q => q (Or.inl h))]
  · have h0 : ¬ x < 0 := fun q => by
      have h1 := Int32.lt_iff_toInt_lt.mp q
      have h2 := Int32.le_iff_toInt_le.mp h
      rw [nI_toInt (by omega)] at h2
      rw [Int32.toInt_zero] at h1
      omega
    rw [if_neg h0, if_pos h, if_neg]
    obtain ⟨j, hj, rfl⟩ := nI_of h0
    rw [ib_nI hj]
    have := (nI_lei (by omega) hj).mp h
    omega
  · rw [if_neg (nI_pos (by omega)), if_neg (by rw [nI_lei] <;> omega), if_pos ((ib_nI (by omega)).mpr hj)]
theorem c_hasCell {V : Vw} {σ : Sg} (ht : TC V σ) (h8 : V 0 8 ≤ 6) (h0 : V 0 0 ≤ 14) (x y : Int32) : XX9_hasCell x y σ = some (if ib x (V 0 8) ∧ ib y (V 0 0) then 1 else 0) := by
  unfold XX9_hasCell
  rw [c_hasShop ht h8]
  by_cases hx : ib x (V 0 8)
  · rw [if_pos hx]
    simp only [b1, lt]
    rw [if_neg (by decide), c_hasDay ht h0]
    by_cases hy : ib y (V 0 0)
    · rw [if_pos hy, if_pos ⟨hx, hy⟩]
      rfl
    · rw [if_neg hy, if_neg (fun q => hy q.2)]
      rfl
  · rw [if_neg hx, if_neg (fun q => hx q.1)]
    rfl
theorem c_load {V : Vw} (hw : WF V) {pr : (Nat → Int32) → Int32} {σ : Sg} (ht : TC V σ) (hr : RN V pr 38 (V 5) (aq V) σ) (x y : Int32) : XX9_load x y σ = some (spC V (rlV V) x y) := by
  have w0 := hw.1.2
  have w8 : V 0 8 ≤ 6 := hw.2.2.2.2.2.2.1
  unfold XX9_load spC
  rw [c_hasCell ht w8 w0]
  by_cases hx : ib x (V 0 8) ∧ ib y (V 0 0)
  · rw [if_pos hx, if_pos hx]
    obtain ⟨s, hs, rfl⟩ := ib_of hx.1 (by omega)
    obtain ⟨d, hd, rfl⟩ := ib_of hx.2 (by omega)
    simp only [b1]
    rw [if_neg (by decide), c_cellOf]
    simp (disch := omega) only [b1, b2, lt, nI_lit, pk_mul, nI_add, ib_nI, nI_cl, nI_lei, nI_lti, nI_eqi]
    rw [if_pos (by omega), (hr.2.2.1 s d hs hd).1]
    rfl
  · rw [if_neg hx, if_neg hx]
    rfl
theorem c_stock {V : Vw} (hw : WF V) {pr : (Nat → Int32) → Int32} {σ : Sg} (ht : TC V σ) (hr : RN V pr 38 (V 5) (aq V) σ) (x y : Int32) : XX9_stock x y σ = some (spC V (skV V) x y) := by
  have w0 := hw.1.2
  have w8 : V 0 8 ≤ 6 := hw.2.2.2.2.2.2.1
  unfold XX9_stock spC
  rw [c_hasCell ht w8 w0]
  by_cases hx : ib x (V 0 8) ∧ ib y (V 0 0)
  · rw [if_pos hx, if_pos hx]
    obtain ⟨s, hs, rfl⟩ := ib_of hx.1 (by omega)
    obtain ⟨d, hd, rfl⟩ := ib_of hx.2 (by omega)
    simp only [b1]
    rw [if_neg (by decide), c_cellOf]
    simp (disch := omega) only [b1, b2, lt, nI_lit, pk_mul, nI_add, ib_nI, nI_cl, nI_lei, nI_lti, nI_eqi]
    rw [if_pos (by omega), (hr.2.2.1 s d hs hd).2.1]
    rfl
  · rw [if_neg hx, if_neg hx]
    rfl
theorem c_lost {V : Vw} (hw : WF V) {pr : (Nat → Int32) → Int32} {σ : Sg} (ht : TC V σ) (hr : RN V pr 38 (V 5) (aq V) σ) (x y : Int32) : XX9_lost x y σ = some (spC V (msV V) x y) := by
  have w0 := hw.1.2
  have w8 : V 0 8 ≤ 6 := hw.2.2.2.2.2.2.1
  unfold XX9_lost spC
  rw [c_hasCell ht w8 w0]
  by_cases hx : ib x (V 0 8) ∧ ib y (V 0 0)
  · rw [if_pos hx, if_pos hx]
    obtain ⟨s, hs, rfl⟩ := ib_of hx.1 (by omega)
    obtain ⟨d, hd, rfl⟩ := ib_of hx.2 (by omega)
    simp only [b1]
    rw [if_neg (by decide), c_cellOf]
    simp (disch := omega) only [b1, b2, lt, nI_lit, pk_mul, nI_add, ib_nI, nI_cl, nI_lei, nI_lti, nI_eqi]
    rw [if_pos (by omega), (hr.2.2.1 s d hs hd).2.2]
    rfl
  · rw [if_neg hx, if_neg hx]
    rfl
theorem c_firstMissed {V : Vw} (hw : WF V) {k s : Nat} {σ : Sg} (ht : TC V σ) (hs : s < V 0 8) {f : Nat → Nat} (hla : ∀ d, d < V 0 0 → f d < 1000000) (hf : ∀ d, d < V 0 0 → σ (k + 5) (14 * s + d) = nI (f d)) : XX5_firstMissed k (nI s) σ = some (fstD (fun d => decide (0 < f d)) (V 0 0) 0) := by
  have w0 := hw.1.2
  have w8 : V 0 8 ≤ 6 := hw.2.2.2.2.2.2.1
  have key : ∀ m d n, d + m = V 0 0 → m < n → LX5_firstMissed_2 k (nI s) σ n (nI d) = some (fstD (fun d => decide (0 < f d)) m d) := by
    intro m
    induction m with
    | zero =>
      intro d n hd hn
      obtain ⟨n, rfl⟩ : ∃ q, n = q + 1 := ⟨n - 1, by omega⟩
      have hd : d = V 0 0 := by omega
      subst hd
      rw [LX5_firstMissed_2, ht.1, if_pos (by rw [nI_lei] <;> omega)]
      rfl
    | succ m ih =>
      intro d n hd hn
      obtain ⟨n, rfl⟩ : ∃ q, n = q + 1 := ⟨n - 1, by omega⟩
      rw [LX5_firstMissed_2, ht.1, if_neg (by rw [nI_lei] <;> omega), c_cellOf]
      simp (disch := omega) only [b1, b2, lt, nI_lit, pk_mul, nI_add, ib_nI, nI_cl, nI_lei, nI_lti, nI_eqi]
      have hl := hla d (by omega)
      rw [if_pos (by omega), hf d (by omega)]
      show _ = some (if decide (0 < f d) = true then nI d else fstD (fun d => decide (0 < f d)) m (d + 1))
      by_cases q : 0 < f d
      · rw [if_neg (by rw [nI_lei] <;> omega), if_pos (by simpa using q)]
      · rw [if_pos (by rw [nI_lei] <;> omega), if_neg (by simpa using q)]
        exact ih (d + 1) n (by omega) (by omega)
  exact key (V 0 0) 0 FUEL (by omega) (by unfold FUEL; omega)
theorem c_empty {V : Vw} (hw : WF V) {pr : (Nat → Int32) → Int32} {σ : Sg} (ht : TC V σ) (hr : RN V pr 38 (V 5) (aq V) σ) (x : Int32) : XX9_empty x σ = some (spEmpty V x) := by
  have w8 : V 0 8 ≤ 6 := hw.2.2.2.2.2.2.1
  unfold XX9_empty spEmpty
  rw [c_hasShop ht w8]
  by_cases hx : ib x (V 0 8)
  · rw [if_pos hx, if_pos hx]
    obtain ⟨s, hs, rfl⟩ := ib_of hx (by omega)
    simp only [b1]
    rw [if_neg (by decide), c_firstMissed hw ht hs (fun d hd => ms_lt hw hs hd) (fun d hd => (hr.2.2.1 s d hs hd).2.2), nI_cl (by omega)]
  · rw [if_neg hx, if_neg hx]
    rfl
