/-! TEXT: a rush's line -/
theorem c_addR {V : Vw} (hw : WF V) {σ : Sg} (ht : TC V (fun k => σ (k + 9))) {s d n : Nat} (hs : s < V 0 8) (hd : d < V 0 0) (hn : n ≤ 60) (hr : V 0 9 < 12) : ∃ τ, XX7_addRush 11 (nI s) (nI d) (nI n) σ = some τ ∧ TC (ruM V s d n) (fun k => τ (k + 9)) ∧ fr [(11, some 7), (16, none), (17, none), (18, none)] σ τ := by
  have s6 := hw.s6
  have d14 := hw.d14
  obtain ⟨t0, t1, t2, t3, t4, t5, t6, t7, t8, t9, t10, t11, t12⟩ := id ht
  have al := aq_le hw hs hd
  obtain ⟨R, hR⟩ : ∃ R, R = V 0 9 := ⟨_, rfl⟩
  have t7' : σ 11 7 = nI R := by
    rw [hR]
    exact t7
  rw [← hR] at hr
  have i12 : ib (nI R) 12 := (ib_nI (by omega)).mpr hr
  have ic : (nI R).toNatClampNeg = R := nI_cl (by omega)
  obtain ⟨σ1, hσ1⟩ : ∃ σ1, σ1 = up (up σ (11 + 6) R (nI (14 * s + d))) (11 + 7) R (nI n) := ⟨_, rfl⟩
  have c27 : up σ (11 + 6) R (nI (14 * s + d)) 11 7 = nI R := by rw [up_cell (by omega), t7']
  have c27b : σ1 11 7 = nI R := by rw [hσ1, up_cell (by omega), c27]
  have c8 : σ1 (11 + 6) R = nI (14 * s + d) := by rw [hσ1, up_cell (by omega), up_same]
  have c7 : σ1 (11 + 5) (14 * s + d) = nI (aq V s d) := by
    rw [hσ1, up_cell (by omega), up_cell (by omega)]
    exact t11 s d hs hd
  obtain ⟨τ, hτ⟩ : ∃ τ, τ = up (up σ1 (11 + 5) (14 * s + d) (nI (aq V s d + n))) 11 7 (nI (R + 1)) := ⟨_, rfl⟩
  refine ⟨τ, ?_, ?_, ?_⟩
  · unfold XX7_addRush
    rw [t7', if_pos (show nI R < 12 from (nI_lti (b := 12) (by omega) (by omega)).mpr hr), c_cellOf, b1s, if_pos i12, ic, lt_def, c27, if_pos i12, ic, lt_def, ← hσ1, c27b, if_pos i12, ic, lt_def, c8, if_pos ((ib_nI (by omega)).mpr (by omega)), nI_cl (by omega), c7, nI_add, lt_def, up_cell (show 11 ≠ 11 + 5 by omega), c27b, nI_1, lt_def, hτ]
  · have cz : ∀ k i, k ≠ 11 → k ≠ 16 → k ≠ 17 → k ≠ 18 → τ k i = σ k i := fun k i k1 k2 k3 k4 => by
      rw [hτ, up_cell k1, up_cell (by omega), hσ1, up_cell (by omega), up_cell (by omega)]
    have c2 : ∀ i, i ≠ 7 → τ 11 i = σ 11 i := fun i hi => by
      rw [hτ, up_slot hi, up_cell (by omega), hσ1, up_cell (by omega), up_cell (by omega)]
    have c16 : ∀ i, τ 16 i = if i = 14 * s + d then nI (aq V s d + n) else σ 16 i := fun i => by
      rw [hτ, up_cell (by omega)]
      by_cases q : i = 14 * s + d
      · rw [if_pos q, q]
        exact up_same
      · rw [if_neg q]
        show up σ1 16 (14 * s + d) (nI (aq V s d + n)) 16 i = _
        rw [up_slot q, hσ1, up_cell (by omega), up_cell (by omega)]
    have c17 : ∀ i, τ 17 i = if i = R then nI (14 * s + d) else σ 17 i := fun i => by
      rw [hτ, up_cell (by omega), up_cell (by omega), hσ1, up_cell (by omega)]
      show up σ 17 R (nI (14 * s + d)) 17 i = _
      by_cases q : i = R
      · rw [if_pos q, q, up_same]
      · rw [if_neg q, up_slot q]
    have c18 : ∀ i, τ 18 i = if i = R then nI n else σ 18 i := fun i => by
      rw [hτ, up_cell (by omega), up_cell (by omega), hσ1]
      show up (up σ 17 R (nI (14 * s + d))) 18 R (nI n) 18 i = _
      by_cases q : i = R
      · rw [if_pos q, q, up_same]
      · rw [if_neg q, up_slot q, up_cell (by omega)]
    refine ⟨(c2 0 (by omega)).trans t0, (c2 1 (by omega)).trans t1, (c2 2 (by omega)).trans t2, (c2 3 (by omega)).trans t3, (c2 4 (by omega)).trans t4, (c2 5 (by omega)).trans t5, (c2 6 (by omega)).trans t6, ?_, fun t ht => ⟨(cz 12 t (by omega) (by omega) (by omega) (by omega)).trans (t8 t ht).1, (cz 13 t (by omega) (by omega) (by omega) (by omega)).trans (t8 t ht).2.1, (cz 14 t (by omega) (by omega) (by omega) (by omega)).trans (t8 t ht).2.2.1, (cz 15 t (by omega) (by omega) (by omega) (by omega)).trans (t8 t ht).2.2.2⟩, (cz 12 6 (by omega) (by omega) (by omega) (by omega)).trans t9, (cz 13 6 (by omega) (by omega) (by omega) (by omega)).trans t10, fun t e ht he => ?_, fun k hk => ?_⟩
    · show τ 11 7 = nI (V 0 9 + 1)
      rw [hτ, up_same, hR]
    · have he14 : e < V 0 0 := he
      have ht8 : t < V 0 8 := ht
      show τ 16 (14 * t + e) = _
      rw [aq_ruM, c16]
      by_cases q : 14 * s + d = 14 * t + e
      · have q1 : s = t := by omega
        have q2 : d = e := by omega
        subst q1
        subst q2
        rw [if_pos rfl, if_pos rfl]
      · rw [if_neg q, if_neg (fun z => q z.symm), Nat.add_zero]
        exact t11 t e ht he
    · have hk' : k < V 0 9 + 1 := hk
      show τ 17 k = nI (updN (V 7) (V 0 9) (14 * s + d) k) ∧ τ 18 k = nI (updN (V 8) (V 0 9) n k)
      rw [c17, c18, ← hR]
      unfold updN
      by_cases q : k = R
      · rw [if_pos q, if_pos q, if_pos q, if_pos q]
        exact ⟨rfl, rfl⟩
      · rw [if_neg q, if_neg q, if_neg q, if_neg q]
        exact t12 k (by omega)
  · rw [hτ, hσ1]
    exact fr.tr (fr.tr (fr.tr (fr_up.mono (by simp)) (fr_up.mono (by simp))) (fr_up.mono (by simp))) (fr_upf.mono (by simp))
theorem WD.ru {D : Vw} (hw : WD D) {s d n : Nat} (hs : s < D 0 8) (hd : d < D 0 0) (h1 : 1 ≤ n) (h6 : n ≤ 60) (hr : D 0 9 < 12) : WD (ruM D s d n) := by
  obtain ⟨w1, w2, w3, w4, w5, w6, w7, w8, w9, w10⟩ := hw
  exact ⟨w1.ruM hs hd h1 h6 hr, w2, w3, w4, w5, w6, w7, w8, w9, w10⟩
theorem MDru {D : Vw} {σ : Sg} (hm : MD D σ) {s d n : Nat} (hs : s < D 0 8) (hd : d < D 0 0) : MD (ruM D s d n) (up (up (up (up σ 72 (12 + D 0 9) (nI s)) 73 (12 + D 0 9) (nI d)) 74 (12 + D 0 9) (nI n)) 65 19 (nI (D 0 9 + 1))) := by
  obtain ⟨h1, h2, h3, h4, h5, h6⟩ := hm
  obtain ⟨τ, hτ⟩ : ∃ τ, τ = up (up (up (up σ 72 (12 + D 0 9) (nI s)) 73 (12 + D 0 9) (nI d)) 74 (12 + D 0 9) (nI n)) 65 19 (nI (D 0 9 + 1)) := ⟨_, rfl⟩
  rw [← hτ]
  have key : ∀ c' j, ¬ (c' = 72 ∧ j = 12 + D 0 9) → ¬ (c' = 73 ∧ j = 12 + D 0 9) → ¬ (c' = 74 ∧ j = 12 + D 0 9) → ¬ (c' = 65 ∧ j = 19) → τ c' j = σ c' j := fun c' j q1 q2 q3 q4 => by
    rw [hτ, up_at, if_neg q4, up_at, if_neg q3, up_at, if_neg q2, up_at, if_neg q1]
  refine ⟨fun j hj => ?_, fun t ht => ⟨(key 66 _ (by omega) (by omega) (by omega) (by omega)).trans (h2 t ht).1, (key 67 _ (by omega) (by omega) (by omega) (by omega)).trans (h2 t ht).2.1, (key 68 _ (by omega) (by omega) (by omega) (by omega)).trans (h2 t ht).2.2.1, (key 69 _ (by omega) (by omega) (by omega) (by omega)).trans (h2 t ht).2.2.2⟩, fun t ht => ?_, fun k hk => ?_, fun t ht => (key 75 t (by omega) (by omega) (by omega) (by omega)).trans (h5 t ht), (key 64 12 (by omega) (by omega) (by omega) (by omega)).trans h6⟩
  · show τ 65 (10 + j) = nI (if j = 9 then D 0 9 + 1 else D 0 j)
    by_cases q : j = 9
    · rw [if_pos q, q, hτ, up_same]
    · rw [if_neg q, key 65 _ (by omega) (by omega) (by omega) (by omega)]
      exact h1 j hj
  · obtain ⟨c, n1, n2, n3, n4⟩ := h3 t ht
    exact ⟨c, n1, n2, (key 70 _ (by omega) (by omega) (by omega) (by omega)).trans n3, fun e he => (key 71 _ (by omega) (by omega) (by omega) (by omega)).trans (n4 e he)⟩
  · have hk' : k < D 0 9 + 1 := hk
    show ∃ s' d', s' < D 0 8 ∧ d' < D 0 0 ∧ updN (D 7) (D 0 9) (14 * s + d) k = 14 * s' + d' ∧ τ 72 (12 + k) = nI s' ∧ τ 73 (12 + k) = nI d' ∧ τ 74 (12 + k) = nI (updN (D 8) (D 0 9) n k)
    unfold updN
    by_cases q : k = D 0 9
    · rw [if_pos q, if_pos q, q]
      refine ⟨s, d, hs, hd, rfl, ?_, ?_, ?_⟩
      · rw [hτ, up_cell (by omega), up_cell (by omega), up_cell (by omega), up_same]
      · rw [hτ, up_cell (by omega), up_cell (by omega), up_same]
      · rw [hτ, up_cell (by omega), up_same]
    · rw [if_neg q, if_neg q]
      obtain ⟨s', d', m1, m2, m3, m4, m5, m6⟩ := h4 k (by omega)
      exact ⟨s', d', m1, m2, m3, (key 72 _ (by omega) (by omega) (by omega) (by omega)).trans m4, (key 73 _ (by omega) (by omega) (by omega) (by omega)).trans m5, (key 74 _ (by omega) (by omega) (by omega) (by omega)).trans m6⟩
def ruE (x1_1 s_6 r_12 r_14 : Int32) (σ_15 : Sg) : Option Sg := b1 (XX10_isGood σ_15) (fun (r_16 : Int32) => if r_16 = 0 then (some σ_15) else (if ib ((12 : Int32) + x1_1) 24 then lt (up σ_15 72 ((12 : Int32) + x1_1).toNatClampNeg s_6) (fun (σ_17 : Sg) => lt (up σ_17 73 ((12 : Int32) + x1_1).toNatClampNeg r_12) (fun (σ_19 : Sg) => lt (up σ_19 74 ((12 : Int32) + x1_1).toNatClampNeg r_14) (fun (σ_20 : Sg) => lt (up σ_20 65 19 ((σ_20 65 19) + (1 : Int32))) (fun (σ_21 : Sg) => some σ_21)))) else none))
def ruD (x1_1 s_6 : Int32) (σ_11 : Sg) : Option Sg := b2 (XX10_readNumber (0 : Int32) ((σ_11 65 10) - (1 : Int32)) σ_11) (fun (r_12 : Int32) (σ_13 : Sg) => b2 (XX10_readNumber (1 : Int32) (60 : Int32) σ_13) (fun (r_14 : Int32) (σ_15 : Sg) => ruE x1_1 s_6 r_12 r_14 σ_15))
def ruC (x1_1 s_6 : Int32) (σ_9 : Sg) : Option Sg := b1 (XX10_goOn σ_9) (fun (σ_11 : Sg) => ruD x1_1 s_6 σ_11)
def ruB (x1_1 : Int32) (σ_4 : Sg) (s_6 : Int32) : Option Sg := b1 (XX10_isGood σ_4) (fun (r_8 : Int32) => if r_8 = 0 then (ruC x1_1 s_6 σ_4) else (if 0 ≤ s_6 then (ruC x1_1 s_6 σ_4) else (b1 (XX10_isName σ_4) (fun (r_22 : Int32) => if r_22 = 0 then (b1 (XX10_fails (2 : Int32) σ_4) (fun (σ_25 : Sg) => ruC x1_1 s_6 σ_25)) else (b1 (XX10_fails (3 : Int32) σ_4) (fun (σ_25 : Sg) => ruC x1_1 s_6 σ_25))))))
def ruA (x1_1 : Int32) (σ_2 : Sg) : Option Sg := b1 (XX10_goOn σ_2) (fun (σ_4 : Sg) => b1 (XX10_isGood σ_4) (fun (r_5 : Int32) => if r_5 = 0 then (ruB x1_1 σ_4 (-1 : Int32)) else (b1 (XX10_isName σ_4) (fun (r_27 : Int32) => if r_27 = 0 then (ruB x1_1 σ_4 (-1 : Int32)) else (b1 (XX10_called σ_4) (fun (r_28 : Int32) => ruB x1_1 σ_4 r_28))))))
theorem mRush_eq (σ : Sg) : XX10_readRush σ = if (σ 65 19) = (12 : Int32) then (b1 (XX10_fails (5 : Int32) σ) (fun (σ_29 : Sg) => ruA (σ 65 19) σ_29)) else (ruA (σ 65 19) σ) := rfl
theorem ruE_bad {σ : Sg} (h : ¬ σ 64 22 = 0) (a b c d : Int32) : ruE a b c d σ = some σ := by
  unfold ruE
  rw [b_good h, b1s, if_pos rfl]
theorem ruC_bad {σ : Sg} (h : ¬ σ 64 22 = 0) (a b : Int32) : ruC a b σ = some σ := by
  unfold ruC
  rw [b_goOn h, b1s]
  unfold ruD
  rw [b_readNumber h, b2s, b_readNumber h, b2s, ruE_bad h]
theorem ruB_bad {σ : Sg} (h : ¬ σ 64 22 = 0) (a b : Int32) : ruB a σ b = some σ := by
  unfold ruB
  rw [b_good h, b1s, if_pos rfl, ruC_bad h]
theorem ruA_bad {σ : Sg} (h : ¬ σ 64 22 = 0) (a : Int32) : ruA a σ = some σ := by
  unfold ruA
  rw [b_goOn h, b1s, b_good h, b1s, if_pos rfl, ruB_bad h]
theorem sim_rush {g : Nat → Nat} {L T : Nat} {σ0 : Sg} {D : Vw} {k : Nat} {σ σ' : Sg} (hw : WD D) (hc : CTk g L T D k σ) (hm : MSt g L σ0 D k σ') (hk : ck g L (ps g L k) = 12) : Sim σ0 (QL g L T σ0 k) (XX4_readRush σ) (b1 (XX10_readRush σ') (fun (σ_17 : Sg) => lnT σ_17)) := by
  have s6 := hw.1.s6
  have r12 := hw.1.r12
  have d1 := hw.1.d1
  have d14 := hw.1.d14
  have t7 : σ 11 7 = nI (D 0 9) := hc.2.1.1.2.2.2.2.2.2.2.1
  have m9 : σ' 65 19 = nI (D 0 9) := hm.2.2.2.2.1.1 9 (by omega)
  have hK := ck_1.mp (show ck g L (ps g L k) ≤ 13 by omega)
  have o1 : ¬ (1 : Int32) = 0 := by decide
  unfold XX4_readRush
  rw [mRush_eq, m9, t7]
  by_cases q6 : D 0 9 = 12
  · obtain ⟨τ, τ', e1, e2, e3⟩ := ff_both hc hm (w := 5) (by omega) (by omega) (a := (5 : Int32)) rfl
    rw [q6, if_neg (show ¬ nI 12 < 12 by decide), e1, b2s, if_pos (Or.inl rfl), if_pos (show nI 12 = 12 from rfl), e2, b1s, ruA_bad e3.bad, b1s]
    exact Sim.bd rfl e3 e3.ln
  have l12 : D 0 9 < 12 := by omega
  rw [if_pos (show nI (D 0 9) < 12 from (nI_lti (b := 12) (by omega) (by omega)).mpr l12), if_neg (show ¬ nI (D 0 9) = 12 from nI_ne (b := 12) (by omega) (by omega) q6)]
  obtain ⟨a', g1, g2⟩ := m_go hm
  have C1 := hc.go (fun z => by omega)
  unfold ruA
  rw [g1, b1s, g_good g2.2.2.1, b1s, if_neg o1, m_isNm g2, b1s]
  rcases name_both C1 g2 with ⟨τ, q, e1, e2, e3, e4, e5, e6⟩ | ⟨τ, τ', q, e1, e2, e3⟩
  rotate_left
  · rw [e1, b2s, if_pos rfl, if_neg q, if_pos rfl]
    unfold ruB
    rw [g_good g2.2.2.1, b1s, if_neg o1, if_neg (show ¬ (0 : Int32) ≤ -1 by decide), m_isNm g2, b1s, if_neg q, if_pos rfl, e2, b1s, ruC_bad e3.bad, b1s]
    exact Sim.bd rfl e3 e3.ln
  obtain ⟨nm, hnm⟩ : ∃ nm, nm = tkV g L (ps g L (k + 1)) := ⟨_, rfl⟩
  rw [← hnm] at e4 e5 e6
  rw [e1, b2s, if_neg o1, e4, if_pos q, if_neg o1]
  obtain ⟨n1, n2⟩ := named_both hw e3.2.1 g2.2.2.2.2.1 (show nm < 2147483648 by omega) e5
  rw [n1, b1s, n2, b1s]
  cases hf : fdN (D 14) nm (D 0 8) 0 with
  | none =>
    obtain ⟨ρ, ρ', f1, f2, f3⟩ := ff_both e2 g2 (w := 3) (by omega) (by omega) (a := (3 : Int32)) rfl
    rw [if_pos (show fnI none = -1 from rfl), f1, b2s, if_pos (Or.inl rfl)]
    unfold ruB
    rw [g_good g2.2.2.1, b1s, if_neg o1, if_neg (show ¬ (0 : Int32) ≤ fnI none by decide), m_isNm g2, b1s, if_pos q, if_neg o1, f2, b1s, ruC_bad f3.bad, b1s]
    exact Sim.bd rfl f3 f3.ln
  | some s =>
    have sl : s < D 0 8 := by
      have := fdN_lt _ _ hf
      omega
    have t0 : τ 11 0 = nI (D 0 0) := e3.2.1.1.1
    have e0 : nI (D 0 0) - (1 : Int32) = nI (D 0 0 - 1) := by
      rw [show (1 : Int32) = nI 1 from rfl, nI_sb (by omega)]
    rw [if_neg (show ¬ fnI (some s) = -1 from nI_nm1 (by omega)), t0, e0]
    unfold ruB
    rw [g_good g2.2.2.1, b1s, if_neg o1, if_pos (show (0 : Int32) ≤ fnI (some s) from (nI_lei (a := 0) (by omega) (by omega)).mpr (by omega))]
    unfold ruC
    obtain ⟨b', g3, M3⟩ := m_go g2
    have m0 : b' 65 10 = nI (D 0 0) := M3.2.2.2.2.1.1 0 (by omega)
    rw [g3, b1s]
    unfold ruD
    rw [m0, e0]
    rcases num_both e3 M3 (lo := 0) (hi := D 0 0 - 1) (a := (0 : Int32)) (b := nI (D 0 0 - 1)) (by omega) (by omega) rfl rfl with ⟨d, c, c', v1, v2, x1, x2, C4, x4, M4⟩ | ⟨c, c', x1, x2, x3⟩
    rotate_left
    · rw [x1, b2s, if_pos rfl, x2, b2s, b_readNumber x3.bad, b2s, ruE_bad x3.bad, b1s]
      exact Sim.bd rfl x3 x3.ln
    rw [x1, b2s, if_neg o1, x4, lt_def, x2, b2s]
    rcases num_both C4 M4 (lo := 1) (hi := 60) (a := (1 : Int32)) (b := (60 : Int32)) (by omega) (by omega) rfl rfl with ⟨n, p, p', w1, w2, y1, y2, C5, y4, M5⟩ | ⟨p, p', y1, y2, y3⟩
    rotate_left
    · rw [y1, b2s, if_pos rfl, y2, b2s, ruE_bad y3.bad, b1s]
      exact Sim.bd rfl y3 y3.ln
    have hd : d < D 0 0 := by omega
    obtain ⟨ρ, r1, r2, r3⟩ := c_addR hw.1 C5.2.1.1 sl hd w2 l12
    have p9 : p' 65 19 = nI (D 0 9) := M5.2.2.2.2.1.1 9 (by omega)
    have WD' := hw.ru sl hd w1 w2 l12
    have C6 : CSt g L T (ruM D s d n) (k + 1 + 1 + 1 + 1) ρ := by
      obtain ⟨a1, a2, a3, a4, a5, a6⟩ := C5
      refine ⟨a1.off (by rw [r3.cell (k := 10) rfl]) (r3.cell (k := 20) rfl) (r3.cell (k := 21) rfl) (r3.cell (k := 22) rfl), ⟨r2, ?_, ?_⟩, a3, ?_, ?_, ?_⟩
      · rw [r3.cell (k := 23) rfl]
        exact a2.2.1
      · rw [r3.cell (k := 10) rfl]
        exact a2.2.2
      · rw [r3.cell (k := 10) rfl]
        exact a4
      · rw [r3.cell (k := 10) rfl]
        exact a5
      · rw [r3.cell (k := 10) rfl]
        exact a6
    have M6 : MSt g L σ0 (ruM D s d n) (k + 1 + 1 + 1 + 1) (up (up (up (up p' 72 (12 + D 0 9) (nI s)) 73 (12 + D 0 9) (nI d)) 74 (12 + D 0 9) (nI n)) 65 19 (nI (D 0 9 + 1))) := by
      have Md := MDru (n := n) M5.2.2.2.2.1 sl hd
      obtain ⟨a1, a2, a3, a4, a5, a6⟩ := M5
      refine ⟨a1.off ?_, ?_, ?_, ?_, Md, (((a6.up (by unfold lvd; omega)).up (by unfold lvd; omega)).up (by unfold lvd; omega)).up (by unfold lvd; omega)⟩
      · rw [up_cell (by omega), up_cell (by omega), up_cell (by omega), up_cell (by omega)]
      · rw [up_cell (by omega), up_cell (by omega), up_cell (by omega), up_cell (by omega)]
        exact a2
      · rw [up_cell (by omega), up_cell (by omega), up_cell (by omega), up_cell (by omega)]
        exact a3
      · unfold TKs at a4 ⊢
        rw [up_cell (by omega), up_cell (by omega), up_cell (by omega), up_cell (by omega)]
        exact a4
    have i24 : ib ((12 : Int32) + nI (D 0 9)) 24 := by
      rw [show (12 : Int32) = nI 12 from rfl, nI_add]
      exact (ib_nI (by omega)).mpr (by omega)
    have c24 : ((12 : Int32) + nI (D 0 9)).toNatClampNeg = 12 + D 0 9 := by
      rw [show (12 : Int32) = nI 12 from rfl, nI_add, nI_cl (by omega)]
    have eE : ruE (nI (D 0 9)) (fnI (some s)) (nI d) (nI n) p' = some (up (up (up (up p' 72 (12 + D 0 9) (nI s)) 73 (12 + D 0 9) (nI d)) 74 (12 + D 0 9) (nI n)) 65 19 (nI (D 0 9 + 1))) := by
      unfold ruE
      rw [g_good M5.2.2.1, b1s, if_neg o1, if_pos i24, c24, lt_def, lt_def, lt_def, lt_def, up_cell (show 65 ≠ 74 by omega), up_cell (show 65 ≠ 73 by omega), up_cell (show 65 ≠ 72 by omega), p9, nI_1]
      rfl
    rw [y1, b2s, if_neg o1, y4, y2, b2s, eE, b1s]
    rw [show fnI (some s) = nI s from rfl, r1, b1s]
    exact (sign_both WD' C6 M6).w.mono (QL.le (by omega))
