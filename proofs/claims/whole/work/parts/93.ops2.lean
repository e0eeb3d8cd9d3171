/-! CALLS: miles, together, costOf, cost, scaled, worth, peak -/
theorem op_miles {V : Vw} {σ : Sg} (h : Inv V σ) (x : Int32) : pureOK σ (XX9_miles x σ) (XX10_miles x σ) := by
  obtain ⟨hw, ⟨ht, hn, hc, -, -, -⟩, hr⟩ := id h
  have s6 := hw.s6
  have p6 := p64 s6
  have hr1 : RA V (up σ 64 0 0) := hr.off (fr_upf (a := 64) (i := 0)) rfl
  have key : ∃ r τ, XX9_miles x σ = some r ∧ XX10_miles x σ = some (r, τ) := by
    unfold XX9_miles XX10_miles
    simp only [lt, XX10_shops, b1]
    rw [hr1.1.1 8 (by omega), ht.2.2.2.2.2.2.1, show (1 : Int32) <<< (nI (V 0 8) &&& 31) = nI (2 ^ V 0 8) from nx_1shl (by omega), in_shop (by omega)]
    simp only []
    by_cases hx : ib x (2 ^ V 0 8)
    · obtain ⟨j, hj, rfl⟩ := ib_of hx (by omega)
      rw [if_neg (nI_pos (by omega)), if_neg (by rw [nI_lei] <;> omega), if_pos hx, if_neg (show ¬ (1 : Int32) = 0 by decide), c_milesTo (by omega), m_milesOf hw hr1.2 hj, hc.2.2 j 6 hj (Or.inr rfl)]
      exact ⟨_, _, rfl, rfl⟩
    · rw [if_neg hx, if_pos (show (0 : Int32) = 0 from rfl)]
      by_cases q : x < 0
      · rw [if_pos q]
        exact ⟨_, _, rfl, rfl⟩
      · obtain ⟨j, hj, rfl⟩ := nI_of q
        rw [ib_nI hj] at hx
        rw [if_neg q, if_pos (by rw [nI_lei] <;> omega)]
        exact ⟨_, _, rfl, rfl⟩
  obtain ⟨r, τ, h1, h2⟩ := key
  exact ⟨r, τ, h1, h2, V, h.look (frX10_miles h2) rfl rfl⟩
theorem op_together {V : Vw} {σ : Sg} (h : Inv V σ) (x y : Int32) : pureOK σ (XX9_together x y σ) (XX10_together x y σ) := by
  obtain ⟨hw, ⟨ht, hn, hc, hp, -, -⟩, hr⟩ := id h
  have s6 := hw.s6
  have p6 := p64 s6
  have hr1 : RA V (up σ 64 0 0) := hr.off (fr_upf (a := 64) (i := 0)) rfl
  have key : ∃ r τ, XX9_together x y σ = some r ∧ XX10_together x y σ = some (r, τ) := by
    unfold XX9_together XX10_together
    rw [lt_def, c_hasShop ht s6, c_hasShop ht s6, m_isShop (hr1.1.1 8 (by omega)) (by omega), m_isShop (hr1.1.1 8 (by omega)) (by omega)]
    simp only [b1]
    by_cases hx : ib x (V 0 8)
    · rw [if_pos hx, if_neg (show ¬ (1 : Int32) = 0 by decide), if_neg (show ¬ (1 : Int32) = 0 by decide)]
      by_cases hy : ib y (V 0 8)
      · rw [if_pos hy, if_neg (show ¬ (1 : Int32) = 0 by decide), if_neg (show ¬ (1 : Int32) = 0 by decide)]
        by_cases e : x = y
        · rw [if_pos e, if_pos e]
          exact ⟨_, _, rfl, rfl⟩
        · rw [if_neg e, if_neg e]
          obtain ⟨s, hs, rfl⟩ := ib_of hx (by omega)
          obtain ⟨t, ht', rfl⟩ := ib_of hy (by omega)
          have l1 : 2 ^ s < 2 ^ V 0 8 := Nat.pow_lt_pow_right (by omega) hs
          have l2 : 2 ^ t < 2 ^ V 0 8 := Nat.pow_lt_pow_right (by omega) ht'
          have l3 : 2 ^ s ||| 2 ^ t < 2 ^ V 0 8 := Nat.or_lt_two_pow l1 l2
          have z1 : 2 ^ s ≠ 0 := by have := Nat.two_pow_pos s; omega
          have z2 : 2 ^ t ≠ 0 := by have := Nat.two_pow_pos t; omega
          have z3 : 2 ^ s ||| 2 ^ t ≠ 0 := by have := Nat.left_le_or (n := 2 ^ s) (m := 2 ^ t); have := Nat.two_pow_pos s; omega
          have c1 : cosV V (2 ^ s) = rpV V (2 ^ s) := by unfold cosV; rw [if_neg z1]
          have c2 : cosV V (2 ^ t) = rpV V (2 ^ t) := by unfold cosV; rw [if_neg z2]
          have c3 : cosV V (2 ^ s ||| 2 ^ t) = rpV V (2 ^ s ||| 2 ^ t) := by unfold cosV; rw [if_neg z3]
          rw [show (1 : Int32) <<< (nI s &&& 31) = nI (2 ^ s) from nx_1shl (by omega), show (1 : Int32) <<< (nI t &&& 31) = nI (2 ^ t) from nx_1shl (by omega), nx_or, m_costOfSet hw hr1.1 hr1.2 l1, m_costOfSet hw hr1.1 hr1.2 l2, m_costOfSet hw hr1.1 hr1.2 l3, c1, c2, c3]
          unfold XX2_gain
          rw [nx_or, if_pos ((ib_nI (by omega)).mpr (by omega)), if_pos ((ib_nI (by omega)).mpr (by omega)), if_pos ((ib_nI (by omega)).mpr (by omega)), nI_cl (by omega), nI_cl (by omega), nI_cl (by omega), hp.1 _ l1, hp.1 _ l2, hp.1 _ l3]
          exact ⟨_, _, rfl, rfl⟩
      · rw [if_neg hy, if_pos rfl, if_pos rfl]
        exact ⟨_, _, rfl, rfl⟩
    · rw [if_neg hx, if_pos rfl, if_pos rfl]
      exact ⟨_, _, rfl, rfl⟩
  obtain ⟨r, τ, h1, h2⟩ := key
  exact ⟨r, τ, h1, h2, V, h.look (frX10_together h2) rfl rfl⟩
theorem iP_cd {V : Vw} (hw : WF V) {cap : Nat} {ld : Nat → Nat} (h : ∀ s, s < V 0 8 → ld s ≤ cap) : iP (dpV V cap ld) = nI (cdV V cap ld) := by
  obtain ⟨r, hr⟩ := dp_ex hw h
  unfold cdV
  rw [hr]
  rfl
theorem op_costOf {V : Vw} {σ : Sg} (h : Inv V σ) (x : Int32) : stOK (XX9_costOf x σ) (XX10_costOf x) := by
  obtain ⟨hw, hc, hr⟩ := id h
  have d14 := hw.d14
  have t99 := hw.t99
  by_cases hx : ib x (V 0 0)
  · obtain ⟨d, hd, rfl⟩ := ib_of hx (by omega)
    obtain ⟨σ1, h1, h2, h3, h4⟩ := c_priceOn hw (k := 38) (by omega) hc.1 hc.2.2.2.1 hc.2.1 hd
    have e1 : XX9_costOf (nI d) σ = some (nI (cdV V (V 0 3) (ldD V (V 5) (aq V) d)), σ1) := by
      unfold XX9_costOf
      rw [c_hasDay hc.1 d14, if_pos hx]
      simp only [b1]
      rw [if_neg (show ¬ (1 : Int32) = 0 by decide), h1]
      rfl
    have hr1 : RA V (up σ1 64 0 0) := (hr.near h4 rfl).off (fr_upf (a := 64) (i := 0)) rfl
    obtain ⟨τ1, g1, g2, g3, g4⟩ := m_layRun hw hr1.1
    have hr2 : RA V τ1 := hr1.off (frX10_layRun g1) rfl
    obtain ⟨τ2, k1, k2, k3⟩ := m_roundsCost hw (cap := V 0 3) (by omega) hd (ld := ldD V (V 5) (aq V) d) (fun s hs => by have := ldD_le hw (vis := V 5) (ask := aq V) (d := d) hs; omega) hr2 (fun s hs => (g4 s d hs hd).1)
    have n3 : XX10_number (3 : Int32) τ1 = some (nI (V 0 3)) := num_at hr2.1 (i := 3) (by omega)
    have e2 : XX10_costOf (nI d) σ1 = some (nI (cdV V (V 0 3) (ldD V (V 5) (aq V) d)), τ2) := by
      unfold XX10_costOf
      rw [lt_def, m_isDay (hr1.1.1 0 (by omega)) (by omega), if_pos hx]
      simp only [b1]
      rw [if_neg (show ¬ (1 : Int32) = 0 by decide), g1]
      simp only []
      rw [n3]
      simp only []
      rw [k1, iP_cd hw (fun s hs => ldD_le hw hs)]
      rfl
    exact ⟨_, _, _, e1, e2, V, hw, (hc.off h4 rfl h2 h3).far (frX10_costOf e2) rfl, k2⟩
  · have e1 : XX9_costOf x σ = some (-1, σ) := by
      unfold XX9_costOf
      rw [c_hasDay hc.1 d14, if_neg hx]
      rfl
    have e2 : XX10_costOf x σ = some (-1, up σ 64 0 0) := by
      unfold XX10_costOf
      rw [lt_def, m_isDay (hr.1.th.1 0 (by omega)) (by omega), if_neg hx]
      rfl
    exact ⟨_, _, _, e1, e2, V, h.look (fr_upf (a := 64) (i := 0)) rfl rfl⟩
theorem op_cost {V : Vw} {σ : Sg} (h : Inv V σ) (x : Int32) : stOK (XX9_cost x σ) (XX10_cost x) := by
  obtain ⟨hw, hc, hr⟩ := id h
  have t99 := hw.t99
  by_cases hx : ib x 4
  · -- what the reference does in all cases
    have ref : ∀ σ1, RA V σ1 → ∃ τ1, XX10_layAsked 100 (up σ1 64 0 0) = some τ1 ∧ ∃ τ2, XX10_costNow τ1 = some (nI (cosT V (V 5) (aq V)), τ2) ∧ RA V τ2 ∧ runM V (V 5) (aq V) τ2 := fun σ1 hr => by
      have hr1 : RA V (up σ1 64 0 0) := hr.off (fr_upf (a := 64) (i := 0)) rfl
      obtain ⟨τ1, g1, g2, g3⟩ := m_layAsked hw hr1.1 (pct := 100) (by omega)
      rw [ask100] at g3
      obtain ⟨τ2, k1, k2, k3, k4⟩ := m_costNow hw (ask := aq V) (fun s d hs hd => by have := aq_le hw hs hd; omega) (hr1.off (frX10_layAsked g1) rfl) g3
      exact ⟨τ1, g1, τ2, k1, k2, k4⟩
    obtain ⟨σ1, h1, h2, h3, h4⟩ := c_wholeCost hw (k := 38) (by omega) hc.1 hc.2.2.2.1 hc.2.1
    have hc1 : CI V σ1 := hc.off h4 rfl h2 h3
    have m5 := hc.2.1.t5
    have m6 := hc.2.1.t6
    have stock : ∀ {σ : Sg}, CI V σ → XX5_stockCost 38 σ = some (nI (V 0 6 * stT V (V 5) (aq V))) := fun hc => by
      unfold XX5_stockCost
      rw [hc.2.1.t6, hc.1.2.2.2.2.1, pk_mul]
    have lost : ∀ {σ : Sg}, CI V σ → XX5_lostCost 38 σ = some (nI (V 0 7 * msT V (V 5) (aq V))) := fun hc => by
      unfold XX5_lostCost
      rw [hc.2.1.t5, hc.1.2.2.2.2.2.1, pk_mul]
    obtain ⟨j, hj, rfl⟩ := ib_of hx (by omega)
    have : j = 0 ∨ j = 1 ∨ j = 2 ∨ j = 3 := by omega
    rcases this with rfl | rfl | rfl | rfl
    · have e1 : XX9_cost (nI 0) σ = some (nI (cosT V (V 5) (aq V)), σ1) := by
        unfold XX9_cost
        rw [if_pos (show nI 0 = 0 from rfl), h1]
        rfl
      obtain ⟨τ1, g1, τ2, g2, g3, g4⟩ := ref σ1 (hr.near h4 rfl)
      have e2 : XX10_cost (nI 0) σ1 = some (nI (cosT V (V 5) (aq V)), τ2) := by
        unfold XX10_cost
        rw [lt_def, in4, if_pos hx]
        simp only [b1]
        rw [if_neg (show ¬ (1 : Int32) = 0 by decide), g1]
        simp only []
        rw [g2]
        rfl
      exact ⟨_, _, _, e1, e2, V, hw, hc1.far (frX10_cost e2) rfl, g3⟩
    · have e1 : XX9_cost (nI 1) σ = some (nI (rcT V (V 5) (aq V)), σ1) := by
        unfold XX9_cost
        rw [if_neg (show ¬ nI 1 = 0 by decide), if_pos (show nI 1 = 1 from rfl)]
        unfold XX5_roundsCost
        rw [h1]
        simp only [b2]
        rw [stock hc1, lost hc1]
        simp only [b1]
        have e : cosT V (V 5) (aq V) = rcT V (V 5) (aq V) + V 0 6 * stT V (V 5) (aq V) + V 0 7 * msT V (V 5) (aq V) := rfl
        rw [e, pk_sub (by omega), pk_sub (by omega)]
        rw [show rcT V (V 5) (aq V) + V 0 6 * stT V (V 5) (aq V) + V 0 7 * msT V (V 5) (aq V) - V 0 6 * stT V (V 5) (aq V) - V 0 7 * msT V (V 5) (aq V) = rcT V (V 5) (aq V) by omega]
      obtain ⟨τ1, g1, τ2, g2, g3, g4⟩ := ref σ1 (hr.near h4 rfl)
      obtain ⟨τ3, k1, k2, k3⟩ := m_allRounds hw (cap := V 0 3) (by omega) (L := ldD V (V 5) (aq V)) (fun d s hs => by have := ldD_le hw (vis := V 5) (ask := aq V) (d := d) hs; omega) g3 (fun s d hs hd => (g4 s d hs hd).1)
      have n3 : XX10_number (3 : Int32) τ2 = some (nI (V 0 3)) := num_at g3.1 (i := 3) (by omega)
      have e2 : XX10_cost (nI 1) σ1 = some (nI (rcT V (V 5) (aq V)), τ3) := by
        unfold XX10_cost
        rw [lt_def, in4, if_pos hx]
        simp only [b1]
        rw [if_neg (show ¬ (1 : Int32) = 0 by decide), g1]
        simp only []
        rw [g2]
        simp only [b2]
        rw [if_neg (show ¬ nI 1 = 0 by decide), if_pos (show nI 1 = 1 from rfl), n3]
        simp only []
        rw [k1, arS_sum hw (fun d s hs => ldD_le hw hs)]
        rfl
      exact ⟨_, _, _, e1, e2, V, hw, hc1.far (frX10_cost e2) rfl, k2⟩
    · have e1 : XX9_cost (nI 2) σ = some (nI (V 0 6 * stT V (V 5) (aq V)), σ) := by
        unfold XX9_cost
        rw [if_neg (show ¬ nI 2 = 0 by decide), if_neg (show ¬ nI 2 = 1 by decide), if_pos (show nI 2 = 2 from rfl), stock hc]
        rfl
      obtain ⟨τ1, g1, τ2, g2, g3, g4⟩ := ref σ hr
      have e2 : XX10_cost (nI 2) σ = some (nI (V 0 6 * stT V (V 5) (aq V)), τ2) := by
        unfold XX10_cost
        rw [lt_def, in4, if_pos hx]
        simp only [b1]
        rw [if_neg (show ¬ (1 : Int32) = 0 by decide), g1]
        simp only []
        rw [g2]
        simp only [b2]
        rw [if_neg (show ¬ nI 2 = 0 by decide), if_neg (show ¬ nI 2 = 1 by decide), if_pos (show nI 2 = 2 from rfl), m_allStocks hw g3.1 (fun s d hs hd => (g4 s d hs hd).2.1)]
        rfl
      exact ⟨_, _, _, e1, e2, V, hw, hc.far (frX10_cost e2) rfl, g3⟩
    · have e1 : XX9_cost (nI 3) σ = some (nI (V 0 7 * msT V (V 5) (aq V)), σ) := by
        unfold XX9_cost
        rw [if_neg (show ¬ nI 3 = 0 by decide), if_neg (show ¬ nI 3 = 1 by decide), if_neg (show ¬ nI 3 = 2 by decide), if_pos (show nI 3 = 3 from rfl), lost hc]
        rfl
      obtain ⟨τ1, g1, τ2, g2, g3, g4⟩ := ref σ hr
      have n7 : XX10_number (7 : Int32) τ2 = some (nI (V 0 7)) := num_at g3.1 (i := 7) (by omega)
      have e2 : XX10_cost (nI 3) σ = some (nI (V 0 7 * msT V (V 5) (aq V)), τ2) := by
        unfold XX10_cost
        rw [lt_def, in4, if_pos hx]
        simp only [b1]
        rw [if_neg (show ¬ (1 : Int32) = 0 by decide), g1]
        simp only []
        rw [g2]
        simp only [b2]
        rw [if_neg (show ¬ nI 3 = 0 by decide), if_neg (show ¬ nI 3 = 1 by decide), if_neg (show ¬ nI 3 = 2 by decide), n7, m_allLost hw g3.1 (fun s d hs hd => (g4 s d hs hd).2.2)]
        simp only []
        rw [pk_mul]
        rfl
      exact ⟨_, _, _, e1, e2, V, hw, hc.far (frX10_cost e2) rfl, g3⟩
  · have ne : ∀ j : Nat, j < 4 → ¬ x = nI j := fun j hj q => hx (by rw [q]; exact (ib_nI (by omega)).mpr hj)
    have e1 : XX9_cost x σ = some (-1, σ) := by
      unfold XX9_cost
      rw [if_neg (show ¬ x = 0 from ne 0 (by omega)), if_neg (show ¬ x = 1 from ne 1 (by omega)), if_neg (show ¬ x = 2 from ne 2 (by omega)), if_neg (show ¬ x = 3 from ne 3 (by omega))]
    have e2 : XX10_cost x σ = some (-1, up σ 64 0 0) := by
      unfold XX10_cost
      rw [lt_def, in4, if_neg hx]
      rfl
    exact ⟨_, _, _, e1, e2, V, h.look (fr_upf (a := 64) (i := 0)) rfl rfl⟩
