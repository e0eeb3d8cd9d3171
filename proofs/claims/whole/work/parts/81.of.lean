/-! of, peak -/
def idV (V : Vw) (s d : Nat) : Nat := bq ((V 5 s).testBit d && decide (rlV V s d = 0))
def gOf (V : Vw) (s : Nat) (y : Int32) (d : Nat) : Int32 := if y = 0 then nI (rlV V s d) else if y = 1 then nI (aq V s d) - nI (msV V s d) else if y = 2 then nI (msV V s d) else nI (idV V s d)
def spOf (V : Vw) (x y : Int32) : Int32 := if ib x (V 0 8) ∧ ib y 4 then sumI (gOf V x.toNatClampNeg y) (V 0 0) else -1
theorem m_of_loop {V : Vw} (hw : WF V) {σ : Sg} (hr : RM V σ) (ha : askM V (aq V) σ) (hu : runM V (V 5) (aq V) σ) {s : Nat} (hs : s < V 0 8) (y : Int32) : ∀ m d n, d + m = V 0 0 → m < n → LX10_of_33 (nI s) y σ n (sumI (gOf V s y) d) (nI d) = some (sumI (gOf V s y) (V 0 0), σ) := by
  have w0 := hw.1.2
  have w8 : V 0 8 ≤ 6 := hw.2.2.2.2.2.2.1
  have wt : V 0 3 ≤ 99 := hw.2.1.2
  intro m
  induction m with
  | zero =>
    intro d n hd hn
    obtain ⟨n, rfl⟩ : ∃ q, n = q + 1 := ⟨n - 1, by omega⟩
    have hd : d = V 0 0 := by omega
    subst hd
    rw [LX10_of_33]
    simp only [XX10_days, b1]
    rw [hr.1 0 (by omega), if_pos (by rw [nI_lei] <;> omega)]
  | succ m ih =>
    intro d n hd hn
    obtain ⟨n, rfl⟩ : ∃ q, n = q + 1 := ⟨n - 1, by omega⟩
    obtain ⟨u1, u2, u3⟩ := hu s d hs (by omega)
    have u4 := ha s d hs (by omega)
    have key := ih (d + 1) n (by omega) (by omega)
    have hll : rlV V s d ≤ V 3 s := rload_le
    have hsl := (hw.2.2.2.2.2.2.2.2.2.2.2.2.1 s hs).2.2.2.1
    rw [LX10_of_33]
    simp only [XX10_days, b1]
    rw [hr.1 0 (by omega), if_neg (by rw [nI_lei] <;> omega)]
    have i1 : ib (nI (14 * s + d)) 84 := (ib_nI (by omega)).mpr (by omega)
    have i2 : (nI (14 * s + d)).toNatClampNeg = 14 * s + d := nI_cl (by omega)
    have i5 : ib (nI s) 6 := (ib_nI (by omega)).mpr (by omega)
    have i6 : (nI s).toNatClampNeg = s := nI_cl (by omega)
    have e14 : (14 : Int32) * nI s + nI d = nI (14 * s + d) := by rw [nI_lit, pk_mul, nI_add]
    rw [e14, lt_def, if_pos i5, i6, hr.2.2.1 s (by omega), m_isOf (vis_lt hw s) (by omega)]
    simp only [if_pos i1, i2, u1, u3, u4]
    -- what an idle visit counts
    have eid : ∀ (B : Int32 → Option (Int32 × Sg)), lt B (fun k80 => lt (k80 0) (fun k79 => if nI (bq ((V 5 s).testBit d)) = 0 then k79 else if nI (rload (V 4 s) (V 3 s) (V 5 s) (aq V s) d) = 0 then k80 1 else k79)) = B (nI (idV V s d)) := fun B => by
      show (if nI (bq ((V 5 s).testBit d)) = 0 then B 0 else if nI (rload (V 4 s) (V 3 s) (V 5 s) (aq V s) d) = 0 then B 1 else B 0) = _
      unfold idV
      have er : rload (V 4 s) (V 3 s) (V 5 s) (aq V s) d = rlV V s d := rfl
      rw [er]
      cases hb : (V 5 s).testBit d with
      | false => rfl
      | true =>
        rw [if_neg (by decide)]
        by_cases q : rlV V s d = 0
        · rw [q]
          rfl
        · rw [if_neg (show ¬ nI (rlV V s d) = 0 from nI_ne (b := 0) (by omega) (by omega) q)]
          simp [q]
          rfl
    refine (eid _).trans ?_
    have ek : ∀ (B : Int32 → Option (Int32 × Sg)), lt B (fun k => if y = 0 then k (nI (rload (V 4 s) (V 3 s) (V 5 s) (aq V s) d)) else if y = 1 then k (nI (aq V s d) - nI (rmiss (V 4 s) (V 3 s) (V 5 s) (aq V s) d)) else if y = 2 then k (nI (rmiss (V 4 s) (V 3 s) (V 5 s) (aq V s) d)) else k (nI (idV V s d))) = B (gOf V s y d) := fun B => by
      unfold gOf rlV msV
      rw [lt_def]
      split
      · rfl
      · split
        · rfl
        · split <;> rfl
    refine (ek _).trans ?_
    rw [lt_def, lt_def, nI_1]
    exact key
theorem in4 (y : Int32) : XX10_in y 0 3 = some (if ib y 4 then 1 else 0) := in_shop (n := 4) (by omega)
theorem m_of {V : Vw} (hw : WF V) {σ : Sg} (hr : RM V σ) (x y : Int32) : ∃ τ, XX10_of x y σ = some (spOf V x y, τ) ∧ RM V τ := by
  have w0 := hw.1.2
  have w8 : V 0 8 ≤ 6 := hw.2.2.2.2.2.2.1
  have hr1 : RM V (up σ 64 0 0) := hr.th
  simp only [XX10_of, lt]
  rw [m_isShop (hr1.1 8 (by omega)) (by omega)]
  unfold spOf
  by_cases hx : ib x (V 0 8)
  · rw [if_pos hx]
    simp only [b1]
    rw [if_neg (by decide), in4]
    by_cases hy : ib y 4
    · rw [if_pos hy, if_pos ⟨hx, hy⟩]
      obtain ⟨s, hs, rfl⟩ := ib_of hx (by omega)
      obtain ⟨τ, h1, h2, h3, h4⟩ := m_layRun hw hr1
      refine ⟨τ, ?_, h2⟩
      simp only []
      rw [if_neg (by decide), h1]
      simp only []
      rw [nI_cl (by omega)]
      exact m_of_loop hw h2 h3 h4 hs y (V 0 0) 0 FUEL (by omega) (by unfold FUEL; omega)
    · rw [if_neg hy, if_neg (fun q => hy q.2)]
      exact ⟨_, rfl, hr1⟩
  · rw [if_neg hx, if_neg (fun q => hx q.1)]
    exact ⟨_, rfl, hr1⟩
theorem sumOf_loop {a s D : Nat} {σ : Sg} {f : Nat → Nat} (hs : s < 6) (hD : σ 2 0 = nI D) (hD2 : D ≤ 14) (hf : ∀ d, d < D → σ a (14 * s + d) = nI (f d)) : ∀ m d n, d + m = D → m < n → LX5_sumOf_5 a (nI s) σ n (nI (sumN f d)) (nI d) = some (nI (sumN f D)) := by
  intro m
  induction m with
  | zero =>
    intro d n hd hn
    obtain ⟨n, rfl⟩ : ∃ q, n = q + 1 := ⟨n - 1, by omega⟩
    have hd : d = D := by omega
    subst hd
    rw [LX5_sumOf_5, hD, if_pos (by rw [nI_lei] <;> omega)]
  | succ m ih =>
    intro d n hd hn
    obtain ⟨n, rfl⟩ : ∃ q, n = q + 1 := ⟨n - 1, by omega⟩
    rw [LX5_sumOf_5, hD, if_neg (by rw [nI_lei] <;> omega), c_cellOf]
    simp (disch := omega) only [b1, b2, lt, nI_lit, pk_mul, nI_add, ib_nI, nI_cl, nI_lei, nI_lti, nI_eqi]
    rw [if_pos (by omega), hf d (by omega), nI_add]
    exact ih (d + 1) n (by omega) (by omega)
theorem c_sumOf {k a s D : Nat} {σ : Sg} {f : Nat → Nat} (hs : s < 6) (hD : σ 2 0 = nI D) (hD2 : D ≤ 14) (hf : ∀ d, d < D → σ a (14 * s + d) = nI (f d)) : XX5_sumOf k a (nI s) σ = some (nI (sumN f D)) := sumOf_loop hs hD hD2 hf D 0 FUEL (by omega) (by unfold FUEL; omega)
theorem c_idle {V : Vw} (hw : WF V) {pr : (Nat → Int32) → Int32} {σ : Sg} (ht : TC V σ) (hr : RN V pr 38 (V 5) (aq V) σ) {s : Nat} (hs : s < V 0 8) : XX5_idleVisits 38 (nI s) σ = some (nI (sumN (idV V s) (V 0 0))) := by
  have w0 := hw.1.2
  have w8 : V 0 8 ≤ 6 := hw.2.2.2.2.2.2.1
  have wt : V 0 3 ≤ 99 := hw.2.1.2
  have key : ∀ m d n, d + m = V 0 0 → m < n → LX5_idleVisits_4 38 (nI s) σ n (nI (sumN (idV V s) d)) (nI d) = some (nI (sumN (idV V s) (V 0 0))) := by
    intro m
    induction m with
    | zero =>
      intro d n hd hn
      obtain ⟨n, rfl⟩ : ∃ q, n = q + 1 := ⟨n - 1, by omega⟩
      have hd : d = V 0 0 := by omega
      subst hd
      rw [LX5_idleVisits_4, ht.1, if_pos (by rw [nI_lei] <;> omega)]
    | succ m ih =>
      intro d n hd hn
      obtain ⟨n, rfl⟩ : ∃ q, n = q + 1 := ⟨n - 1, by omega⟩
      have k1 := ih (d + 1) n (by omega) (by omega)
      have e : sumN (idV V s) (d + 1) = sumN (idV V s) d + idV V s d := rfl
      rw [e] at k1
      have hll : rlV V s d ≤ V 3 s := rload_le
      have hsl := (hw.2.2.2.2.2.2.2.2.2.2.2.2.1 s hs).2.2.2.1
      rw [LX5_idleVisits_4, ht.1, if_neg (by rw [nI_lei] <;> omega), c_isVisited (hr.1 s (by omega)) (by omega) (vis_lt hw s) (by omega)]
      have h41 : σ (38 + 3) (14 * s + d) = nI (rlV V s d) := (hr.2.2.1 s d hs (by omega)).1
      have i1 : ib (nI (14 * s + d)) 84 := (ib_nI (by omega)).mpr (by omega)
      have i2 : (nI (14 * s + d)).toNatClampNeg = 14 * s + d := nI_cl (by omega)
      have ei : idV V s d = bq ((V 5 s).testBit d && decide (rlV V s d = 0)) := rfl
      rw [ei] at k1
      cases hb : (V 5 s).testBit d with
      | false =>
        rw [hb] at k1
        show LX5_idleVisits_4 38 (nI s) σ n (nI (sumN (idV V s) d)) (nI d + 1) = _
        rw [nI_1]
        exact k1
      | true =>
        rw [hb] at k1
        simp only [b1]
        rw [lt_def, if_neg (show ¬ nI (bq true) = 0 by decide), c_cellOf]
        simp only []
        rw [if_pos i1, i2, h41]
        by_cases q : rlV V s d = 0
        · rw [q] at k1 ⊢
          rw [if_pos (show nI 0 = 0 from rfl), lt_def, lt_def, nI_1, nI_1]
          exact k1
        · have eb : bq (true && decide (rlV V s d = 0)) = 0 := by simp [q, bq]
          rw [if_neg (show ¬ nI (rlV V s d) = 0 from nI_ne (b := 0) (by omega) (by omega) q), lt_def, nI_1]
          rw [eb] at k1
          exact k1
  exact key (V 0 0) 0 FUEL (by omega) (by unfold FUEL; omega)
theorem sumI_sub {f g : Nat → Nat} : ∀ {n : Nat}, sumI (fun i => nI (f i) - nI (g i)) n = nI (sumN f n) - nI (sumN g n)
  | 0 => by
    show (0 : Int32) = nI 0 - nI 0
    decide
  | n + 1 => by
    show sumI (fun i => nI (f i) - nI (g i)) n + (nI (f n) - nI (g n)) = nI (sumN f n + f n) - nI (sumN g n + g n)
    rw [sumI_sub, ← nI_add, ← nI_add]
    grind
theorem c_of {V : Vw} (hw : WF V) {pr : (Nat → Int32) → Int32} {σ : Sg} (ht : TC V σ) (hr : RN V pr 38 (V 5) (aq V) σ) (x y : Int32) : XX9_of x y σ = some (spOf V x y) := by
  have w0 := hw.1.2
  have w8 : V 0 8 ≤ 6 := hw.2.2.2.2.2.2.1
  unfold XX9_of spOf
  rw [c_hasShop ht w8]
  by_cases hx : ib x (V 0 8)
  · rw [if_pos hx]
    obtain ⟨s, hs, rfl⟩ := ib_of hx (by omega)
    have s1 := c_sumOf (k := 38) (a := 41) (f := rlV V s) (show s < 6 by omega) ht.1 w0 (fun d hd => (hr.2.2.1 s d hs hd).1)
    have s2 := c_sumOf (k := 38) (a := 40) (f := aq V s) (show s < 6 by omega) ht.1 w0 (fun d hd => hr.2.1 s d hs hd)
    have s3 := c_sumOf (k := 38) (a := 43) (f := msV V s) (show s < 6 by omega) ht.1 w0 (fun d hd => (hr.2.2.1 s d hs hd).2.2)
    have s4 := c_idle hw ht hr hs
    rw [s1, s2, s3, s4]
    simp (disch := omega) only [nI_cl, b1]
    rw [if_neg (by decide)]
    by_cases y0 : y = 0
    · subst y0
      rw [if_pos rfl, if_pos ⟨hx, by decide⟩]
      have : gOf V s 0 = fun d => nI (rlV V s d) := by funext d; rfl
      rw [this, sumI_nI]
    · rw [if_neg y0]
      by_cases y1 : y = 1
      · subst y1
        rw [if_pos rfl, if_pos ⟨hx, by decide⟩]
        have : gOf V s 1 = fun d => nI (aq V s d) - nI (msV V s d) := by funext d; rfl
        rw [this, sumI_sub]
      · rw [if_neg y1]
        by_cases y2 : y = 2
        · subst y2
          rw [if_pos rfl, if_pos ⟨hx, by decide⟩]
          have : gOf V s 2 = fun d => nI (msV V s d) := by funext d; rfl
          rw [this, sumI_nI]
        · rw [if_neg y2]
          by_cases y3 : y = 3
          · subst y3
            rw [if_pos rfl, if_pos ⟨hx, by decide⟩]
            have : gOf V s 3 = fun d => nI (idV V s d) := by funext d; rfl
            rw [this, sumI_nI]
          · rw [if_neg y3, if_neg]
            intro q
            obtain ⟨j, hj, rfl⟩ := ib_of q.2 (by omega)
            have : j = 0 ∨ j = 1 ∨ j = 2 ∨ j = 3 := by omega
            rcases this with rfl | rfl | rfl | rfl
            · exact y0 rfl
            · exact y1 rfl
            · exact y2 rfl
            · exact y3 rfl
  · have hn : ¬ (ib x (V 0 8) ∧ ib y 4) := fun q => hx q.1
    rw [if_neg hx]
    simp only [if_neg hn]
    rfl
