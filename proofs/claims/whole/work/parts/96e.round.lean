/-! CALLS: round, aboard -/
theorem op_round {V : Vw} {σ : Sg} (h : Inv V σ) (x y z : Int32) : stOK (XX9_round x y z σ) (XX10_round x y z) := by
  obtain ⟨hw, hc, hr⟩ := id h
  have s6 := hw.s6
  have p6 := p64 s6
  obtain ⟨σ1, a1, a2, a3⟩ := c_roundSet hw hc x y
  have F1 := frX9_roundSet a1
  have hr1 : RA V σ1 := hr.near F1 rfl
  obtain ⟨S, hS⟩ : ∃ S, S = rdS V x y := ⟨_, rfl⟩
  rw [← hS] at a1 a3
  by_cases S0 : S = 0
  · obtain ⟨τ, g1, g2, g3⟩ := m_roundOf hw hr1.th x y
    rw [← hS] at g1
    have e1 : XX9_round x y z σ = some (-1, σ1) := by
      unfold XX9_round
      rw [a1, S0]
      rfl
    have e2 : XX10_round x y z σ1 = some (-1, τ) := by
      unfold XX10_round
      rw [lt_def, g1, S0]
      rfl
    exact ⟨_, _, _, e1, e2, V, hw, a2.far (frX10_round e2) rfl, g2⟩
  obtain ⟨Sl, b31, b63⟩ := a3 S0
  have n0 : ¬ nI S = 0 := nI_n0 S0 (by omega)
  have c6 := cnt6 S
  have bt : XX10_bits (nI S) = some (nI (cntB S 6)) := by rw [m_bits (by omega), cnt146 (by omega)]
  by_cases z10 : z < 10
  · obtain ⟨τ, g1, g2, g3⟩ := m_roundOf hw hr1.th x y
    rw [← hS] at g1 g3
    have l3 := g3 S0
    have q1 : XX8_milesTo (nI S) σ1 = some (nI (ah V S 6)) := by rw [c_milesTo (by omega), a2.2.2.1.2.2 S 6 Sl (Or.inr rfl)]
    have q2 : XX2_loadOf (nI S) σ1 = some (nI (ldS (lda V x.toNatClampNeg) S (V 0 8))) := by
      unfold XX2_loadOf
      rw [if_pos ((ib_nI (by omega)).mpr (by omega)), nI_cl (by omega), b31]
    have q3 : XX2_roundPrice (nI S) σ1 = some (nI (rpV V S)) := by
      unfold XX2_roundPrice
      rw [if_pos ((ib_nI (by omega)).mpr (by omega)), nI_cl (by omega), a2.2.2.2.1.1 S Sl]
    have r1 := m_milesOf hw g2.2 Sl
    have r2 := m_loadsOf hw g2.1 l3 (set := S) (by omega)
    have r3 := m_costOfSet hw g2.1 g2.2 Sl
    have ec : cosV V S = rpV V S := if_neg S0
    have key : ∃ r, XX9_round x y z σ = some (r, σ1) ∧ XX10_round x y z σ1 = some (r, τ) := by
      unfold XX9_round XX10_round
      rw [a1, lt_def, g1]
      simp only [b2]
      rw [if_neg n0, if_pos z10, if_neg n0, bt, q1, q2, q3]
      simp only [b1]
      rw [m_in, if_pos z10]
      simp only []
      rw [if_pos trivial, r1, r2, r3, ec]
      simp only []
      by_cases y0 : z = 0
      · rw [if_pos y0, if_pos y0]
        exact ⟨_, rfl, rfl⟩
      rw [if_neg y0, if_neg y0]
      by_cases y1 : z = 1
      · rw [if_pos y1, if_pos y1]
        exact ⟨_, rfl, rfl⟩
      rw [if_neg y1, if_neg y1]
      by_cases y2 : z = 2
      · rw [if_pos y2, if_pos y2]
        exact ⟨_, rfl, rfl⟩
      rw [if_neg y2, if_neg y2]
      by_cases y3 : z = 3
      · rw [if_pos y3, if_pos y3]
        exact ⟨_, rfl, rfl⟩
      rw [if_neg y3, if_neg y3]
      exact ⟨_, rfl, rfl⟩
    obtain ⟨r, e1, e2⟩ := key
    exact ⟨_, _, _, e1, e2, V, hw, a2.far (frX10_round e2) rfl, g2⟩
  · obtain ⟨σ2, t1, t2, t3⟩ := c_trace hw Sl a2.2.2.1
    have hc2 : CI V σ2 := WC.tr a2 t3
    have hr2 : RA V σ2 := hr1.near t3 rfl
    obtain ⟨τ, g1, g2, g3⟩ := m_roundOf hw hr2.th x y
    rw [← hS] at g1
    have z0 : ¬ z < 0 := fun q => z10 (by
      have h1 := Int32.lt_iff_toInt_lt.mp q
      have e0 : (0 : Int32).toInt = 0 := by decide
      have e1 : (10 : Int32).toInt = 10 := by decide
      exact Int32.lt_iff_toInt_lt.mpr (by omega))
    obtain ⟨t, ht, rfl⟩ := nI_of z0
    have t10 : 10 ≤ t := n_nlt (b := 10) (by omega) (by omega) z10
    have et : nI t - (10 : Int32) = nI (t - 10) := pk_sub (b := 10) t10
    by_cases q : cntB S 6 ≤ t - 10
    · have e1 : XX9_round x y (nI t) σ = some (-1, σ2) := by
        unfold XX9_round
        rw [a1]
        simp only [b2]
        rw [if_neg n0, if_neg z10, t1]
        simp only []
        rw [et, if_pos (by rw [nI_lei] <;> omega)]
      have e2 : XX10_round x y (nI t) σ2 = some (-1, τ) := by
        unfold XX10_round
        rw [lt_def, g1]
        simp only [b2]
        rw [if_neg n0, bt]
        simp only [b1]
        rw [m_in, if_neg z10, show (9 : Int32) = nI 9 from rfl, nI_add, if_pos (by rw [nI_lti] <;> omega)]
        simp only []
        rw [if_pos trivial, if_neg (show ¬ nI t = (0 : Int32) from nI_ne (b := 0) (by omega) (by omega) (by omega)), if_neg (show ¬ nI t = (1 : Int32) from nI_ne (b := 1) (by omega) (by omega) (by omega)), if_neg (show ¬ nI t = (2 : Int32) from nI_ne (b := 2) (by omega) (by omega) (by omega)), if_neg (show ¬ nI t = (3 : Int32) from nI_ne (b := 3) (by omega) (by omega) (by omega))]
      exact ⟨_, _, _, e1, e2, V, hw, hc2.far (frX10_round e2) rfl, g2⟩
    · have e1 : XX9_round x y (nI t) σ = some (nI (wy V S (t - 10 + 1)).1, σ2) := by
        unfold XX9_round
        rw [a1]
        simp only [b2]
        rw [if_neg n0, if_neg z10, t1]
        simp only []
        rw [et, if_neg (by rw [nI_lei] <;> omega), if_pos ((ib_nI (by omega)).mpr (by omega)), nI_cl (by omega), t2 (t - 10) (by omega)]
      have e2 : XX10_round x y (nI t) σ2 = some (nI (wy V S (t - 10 + 1)).1, τ) := by
        unfold XX10_round
        rw [lt_def, g1]
        simp only [b2]
        rw [if_neg n0, bt]
        simp only [b1]
        rw [m_in, if_neg z10, show (9 : Int32) = nI 9 from rfl, nI_add, if_neg (by rw [nI_lti] <;> omega)]
        simp only []
        rw [if_neg (show ¬ (1 : Int32) = 0 by decide), et, m_onWay hw Sl g2 (by omega)]
      exact ⟨_, _, _, e1, e2, V, hw, hc2.far (frX10_round e2) rfl, g2⟩
def abI (V : Vw) (ld : Nat → Nat) (set : Nat) : Nat → Int32
  | 0 => nI (ldS ld set (V 0 8))
  | j + 1 => abI V ld set j - nI (ld (wy V set (j + 1)).1)
theorem c_ab_loop {V : Vw} (hw : WF V) {set : Nat} (hs : set < 2 ^ V 0 8) {ld : Nat → Nat} {σ : Sg} {t : Nat} (ht : t < cntB set 6) (h26 : ∀ j, j < cntB set 6 → σ 26 j = nI (wy V set (j + 1)).1) (h63 : ∀ s, s < V 0 8 → σ 63 s = nI (ld s)) : ∀ m j n, j + m = t + 1 → m < n → LX9_aboard_53 (nI t) σ n (abI V ld set j) (nI j) = some (abI V ld set (t + 1), σ) := by
  have s6 := hw.s6
  have c6 := cnt6 set
  intro m
  induction m with
  | zero =>
    intro j n hj hn
    obtain ⟨n, rfl⟩ : ∃ q, n = q + 1 := ⟨n - 1, by omega⟩
    rw [LX9_aboard_53, if_pos (by rw [nI_lti] <;> omega), show j = t + 1 by omega]
  | succ m ih =>
    intro j n hj hn
    obtain ⟨n, rfl⟩ : ∃ q, n = q + 1 := ⟨n - 1, by omega⟩
    have w4 := (wy_ok hw hs (j + 1) (by omega)).2.2.2 (by omega)
    have k1 := ih (j + 1) n (by omega) (by omega)
    rw [LX9_aboard_53, if_neg (by rw [nI_lti] <;> omega), if_pos ((ib_nI (by omega)).mpr (by omega)), nI_cl (by omega), h26 j (by omega), if_pos ((ib_nI (by omega)).mpr (by omega)), nI_cl (by omega), h63 _ w4, lt_def, lt_def, nI_1]
    exact k1
theorem m_ab_loop {V : Vw} (hw : WF V) {set : Nat} (hs : set < 2 ^ V 0 8) {ld : Nat → Nat} {σ : Sg} (hr : RA V σ) {t : Nat} (ht : t < cntB set 6) (hl : LDM V ld σ) : ∀ m j n, j + m = t + 1 → m < n → LX10_aboard_46 (nI t) (nI set) σ n (abI V ld set j) (nI j) = some (abI V ld set (t + 1), σ) := by
  have s6 := hw.s6
  have c6 := cnt6 set
  intro m
  induction m with
  | zero =>
    intro j n hj hn
    obtain ⟨n, rfl⟩ : ∃ q, n = q + 1 := ⟨n - 1, by omega⟩
    rw [LX10_aboard_46, if_pos (by rw [nI_lti] <;> omega), show j = t + 1 by omega]
  | succ m ih =>
    intro j n hj hn
    obtain ⟨n, rfl⟩ : ∃ q, n = q + 1 := ⟨n - 1, by omega⟩
    have w4 := (wy_ok hw hs (j + 1) (by omega)).2.2.2 (by omega)
    have k1 := ih (j + 1) n (by omega) (by omega)
    rw [LX10_aboard_46, if_neg (by rw [nI_lti] <;> omega), m_onWay hw hs hr (by omega)]
    simp only [b1]
    rw [if_pos ((ib_nI (by omega)).mpr (by omega)), nI_cl (by omega), hl _ w4, lt_def, lt_def, nI_1]
    exact k1
theorem op_aboard {V : Vw} {σ : Sg} (h : Inv V σ) (x y z : Int32) : stOK (XX9_aboard x y z σ) (XX10_aboard x y z) := by
  obtain ⟨hw, hc, hr⟩ := id h
  have s6 := hw.s6
  have p6 := p64 s6
  obtain ⟨σ1, a1, a2, a3⟩ := c_roundSet hw hc x y
  have F1 := frX9_roundSet a1
  have hr1 : RA V σ1 := hr.near F1 rfl
  obtain ⟨S, hS⟩ : ∃ S, S = rdS V x y := ⟨_, rfl⟩
  rw [← hS] at a1 a3
  by_cases S0 : S = 0
  · obtain ⟨τ, g1, g2, g3⟩ := m_roundOf hw hr1.th x y
    rw [← hS] at g1
    have e1 : XX9_aboard x y z σ = some (-1, σ1) := by
      unfold XX9_aboard
      rw [a1, S0]
      rfl
    have e2 : XX10_aboard x y z σ1 = some (-1, τ) := by
      unfold XX10_aboard
      rw [lt_def, g1, S0]
      rfl
    exact ⟨_, _, _, e1, e2, V, hw, a2.far (frX10_aboard e2) rfl, g2⟩
  obtain ⟨Sl, b31, b63⟩ := a3 S0
  have n0 : ¬ nI S = 0 := nI_n0 S0 (by omega)
  have c6 := cnt6 S
  have c1 : 1 ≤ cntB S 6 := by
    have : ¬ cntB S 6 = 0 := fun q => S0 ((cnt_nz (set := S) (by omega)).mp q)
    omega
  have bt : XX10_bits (nI S) = some (nI (cntB S 6)) := by rw [m_bits (by omega), cnt146 (by omega)]
  have em1 : (-1 : Int32).toInt = -1 := by decide
  have e0' : (0 : Int32).toInt = 0 := by decide
  by_cases zl : z < -1
  · obtain ⟨τ, g1, g2, g3⟩ := m_roundOf hw hr1.th x y
    rw [← hS] at g1
    have e1 : XX9_aboard x y z σ = some (-1, σ1) := by
      unfold XX9_aboard
      rw [a1]
      simp only [b2]
      rw [if_neg n0, if_neg (lt_irr zl)]
    have e2 : XX10_aboard x y z σ1 = some (-1, τ) := by
      unfold XX10_aboard
      rw [lt_def, g1]
      simp only [b2]
      rw [if_neg n0, bt]
      simp only [b1]
      rw [m_in, if_pos zl]
      rfl
    exact ⟨_, _, _, e1, e2, V, hw, a2.far (frX10_aboard e2) rfl, g2⟩
  have zl' : (-1 : Int32) ≤ z := nlt_le zl
  obtain ⟨σ2, t1, t2, t3⟩ := c_trace hw Sl a2.2.2.1
  have hc2 : CI V σ2 := WC.tr a2 t3
  have hr2 : RA V σ2 := hr1.near t3 rfl
  obtain ⟨τ, g1, g2, g3⟩ := m_roundOf hw hr2.th x y
  rw [← hS] at g1 g3
  have l3 := g3 S0
  have r2 := m_loadsOf hw g2.1 l3 (set := S) (by omega)
  have q2 : XX2_loadOf (nI S) σ2 = some (nI (ldS (lda V x.toNatClampNeg) S (V 0 8))) := by
    unfold XX2_loadOf
    rw [if_pos ((ib_nI (by omega)).mpr (by omega)), nI_cl (by omega), t3.cell (k := 31) rfl, b31]
  have b63' : ∀ s, s < V 0 8 → σ2 63 s = nI (lda V x.toNatClampNeg s) := fun s hs => by
    rw [t3.cell (k := 63) rfl]
    exact b63 s hs
  have ec : nI (cntB S 6) - 1 = nI (cntB S 6 - 1) := pk_sub (b := 1) c1
  by_cases z0 : z < 0
  · have zi : z < nI (cntB S 6) := Int32.lt_iff_toInt_lt.mpr (by
      have h1 := Int32.lt_iff_toInt_lt.mp z0
      rw [nI_toInt (by omega)]
      omega)
    have zj : ¬ nI (cntB S 6 - 1) < z := fun q => by
      have h1 := Int32.lt_iff_toInt_lt.mp z0
      have h2 := Int32.lt_iff_toInt_lt.mp q
      rw [nI_toInt (by omega)] at h2
      omega
    have e1 : XX9_aboard x y z σ = some (nI (ldS (lda V x.toNatClampNeg) S (V 0 8)), σ2) := by
      unfold XX9_aboard
      rw [a1]
      simp only [b2]
      rw [if_neg n0, if_pos zl', t1]
      simp only []
      rw [if_pos zi, q2]
      simp only [b1]
      rw [show FUEL = 999999 + 1 from rfl, LX9_aboard_53, if_pos z0]
    have e2 : XX10_aboard x y z σ2 = some (nI (ldS (lda V x.toNatClampNeg) S (V 0 8)), τ) := by
      unfold XX10_aboard
      rw [lt_def, g1]
      simp only [b2]
      rw [if_neg n0, bt]
      simp only [b1]
      rw [m_in, if_neg zl, ec, if_neg zj]
      simp only []
      rw [if_neg (show ¬ (1 : Int32) = 0 by decide), r2]
      simp only []
      rw [show FUEL = 999999 + 1 from rfl, LX10_aboard_46, if_pos z0]
    exact ⟨_, _, _, e1, e2, V, hw, hc2.far (frX10_aboard e2) rfl, g2⟩
  · obtain ⟨t, ht, rfl⟩ := nI_of z0
    by_cases q : t < cntB S 6
    · have l1 := c_ab_loop hw Sl (ld := lda V x.toNatClampNeg) q t2 b63' (t + 1) 0 FUEL (by omega) (by unfold FUEL; omega)
      have l2 := m_ab_loop hw Sl (ld := lda V x.toNatClampNeg) g2 q l3 (t + 1) 0 FUEL (by omega) (by unfold FUEL; omega)
      have e1 : XX9_aboard x y (nI t) σ = some (abI V (lda V x.toNatClampNeg) S (t + 1), σ2) := by
        unfold XX9_aboard
        rw [a1]
        simp only [b2]
        rw [if_neg n0, if_pos zl', t1]
        simp only []
        rw [if_pos (by rw [nI_lti] <;> omega), q2]
        exact l1
      have e2 : XX10_aboard x y (nI t) σ2 = some (abI V (lda V x.toNatClampNeg) S (t + 1), τ) := by
        unfold XX10_aboard
        rw [lt_def, g1]
        simp only [b2]
        rw [if_neg n0, bt]
        simp only [b1]
        rw [m_in, if_neg zl, ec, if_neg (by rw [nI_lti] <;> omega)]
        simp only []
        rw [if_neg (show ¬ (1 : Int32) = 0 by decide), r2]
        exact l2
      exact ⟨_, _, _, e1, e2, V, hw, hc2.far (frX10_aboard e2) rfl, g2⟩
    · have e1 : XX9_aboard x y (nI t) σ = some (-1, σ2) := by
        unfold XX9_aboard
        rw [a1]
        simp only [b2]
        rw [if_neg n0, if_pos zl', t1]
        simp only []
        rw [if_neg (by rw [nI_lti] <;> omega)]
      have e2 : XX10_aboard x y (nI t) σ2 = some (-1, τ) := by
        unfold XX10_aboard
        rw [lt_def, g1]
        simp only [b2]
        rw [if_neg n0, bt]
        simp only [b1]
        rw [m_in, if_neg zl, ec, if_pos (by rw [nI_lti] <;> omega)]
        rfl
      exact ⟨_, _, _, e1, e2, V, hw, hc2.far (frX10_aboard e2) rfl, g2⟩
