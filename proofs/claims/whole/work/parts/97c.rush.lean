/-! ACTS: rush, undo -/
/-- may a write touch what a change of the plan or of rushes leaves -/
def tchX (q : Nat × Option Nat) : Bool := q.1 == 0 || q.1 == 1 || q.1 == 10 || q.1 == 19 || q.1 == 25 || q.1 == 27 || q.1 == 28 || q.1 == 30 || q.1 == 31 || q.1 == 32 || q.1 == 33
theorem CI.mk {V V2 : Vw} {σ τ : Sg} (h : CI V σ) (hs : sW V V2) (e11 : V2 11 = V 11) (e12 : V2 12 = V 12) (e13 : V2 13 = V 13) {S : List (Nat × Option Nat)} (hf : fr S σ τ) (hS : S.all (fun q => !tchX q) = true) (ht : TC V2 τ) (hr : RN V2 (prV V2) 38 (V2 5) (aq V2) τ) (ha : AC V2 τ) : CI V2 τ := by
  have hn := List.all_eq_true.mp hS
  have c : ∀ k, (∀ o, tchX (k, o) = true) → τ k = σ k := fun k h1 => funext fun i => hf k i (fun q => by
    have := hn _ q
    rw [h1 none] at this
    cases this) (fun q => by
    have := hn _ q
    rw [h1 (some i)] at this
    cases this)
  obtain ⟨-, -, h3, h4, -, h6⟩ := h
  refine ⟨ht, hr, ?_, ?_, ha, ?_⟩
  · refine WC.sw ?_ hs
    unfold WC FC at h3 ⊢
    rw [c 25 (fun _ => rfl), c 27 (fun _ => rfl), c 28 (fun _ => rfl)]
    exact h3
  · refine PC.sw ?_ hs
    unfold PC at h4 ⊢
    rw [c 30 (fun _ => rfl), c 31 (fun _ => rfl), c 32 (fun _ => rfl), c 33 (fun _ => rfl)]
    exact h4
  · unfold XC at h6 ⊢
    rw [c 0 (fun _ => rfl), c 1 (fun _ => rfl), c 10 (fun _ => rfl), c 19 (fun _ => rfl), e11, e12, e13]
    exact h6
def ruV (V : Vw) (r : Nat) (c7 c8 : Nat → Nat) : Vw := put (put (put V 0 (fun i => if i = 9 then r else V 0 i)) 7 c7) 8 c8
theorem ru_sw (V : Vw) (r : Nat) (c7 c8 : Nat → Nat) : sW V (ruV V r c7 c8) := ⟨rfl, rfl, rfl, rfl, rfl⟩
theorem WF.rush {V : Vw} (h : WF V) {r : Nat} {c7 c8 : Nat → Nat} (hr : r ≤ 12) (h7 : ∀ k, k < r → (∃ s d, s < V 0 8 ∧ d < V 0 0 ∧ c7 k = 14 * s + d) ∧ 1 ≤ c8 k ∧ c8 k ≤ 60) (h9 : ∀ a, a < V 10 0 → V 9 (7 * a + 6) ≤ r) : WF (ruV V r c7 c8) := by
  obtain ⟨a1, a2, a3, a4, a5, a6, a7, -, a9, a10, a11, a12, a13, a14, a15, a16, -, a18, a19, -, a21, a22, a23⟩ := h
  exact ⟨a1, a2, a3, a4, a5, a6, a7, hr, a9, a10, a11, a12, a13, a14, a15, a16, h7, a18, a19, h9, a21, a22, a23⟩
theorem WF.ru {V : Vw} (h : WF V) : ∀ k, k < V 0 9 → (∃ s d, s < V 0 8 ∧ d < V 0 0 ∧ V 7 k = 14 * s + d) ∧ 1 ≤ V 8 k ∧ V 8 k ≤ 60 := by
  obtain ⟨a1, a2, a3, a4, a5, a6, a7, a8, a9, a10, a11, a12, a13, a14, a15, a16, a17, -⟩ := h
  exact a17
theorem aq_ru (V : Vw) (r : Nat) (c7 c8 : Nat → Nat) (s d : Nat) : aq (ruV V r c7 c8) s d = V 6 (14 * s + d) + sumN (fun k => if c7 k = 14 * s + d then c8 k else 0) r := rfl
theorem WK.pr {V V2 : Vw} {k : Nat} {σ : Sg} {pr pr2 : (Nat → Int32) → Int32} (h : WK V pr k σ) (e : pr2 = pr) (e8 : V2 0 8 = V 0 8) (e0 : V2 0 0 = V 0 0) : WK V2 pr2 k σ := by
  unfold WK at h ⊢
  rw [e, e8, e0]
  exact h
/-- one rush more -/
def ruM (V : Vw) (s d n : Nat) : Vw := ruV V (V 0 9 + 1) (updN (V 7) (V 0 9) (14 * s + d)) (updN (V 8) (V 0 9) n)
theorem aq_ruM (V : Vw) (s d n s' d' : Nat) : aq (ruM V s d n) s' d' = aq V s' d' + (if 14 * s + d = 14 * s' + d' then n else 0) := by
  show V 6 (14 * s' + d') + (sumN (fun k => if updN (V 7) (V 0 9) (14 * s + d) k = 14 * s' + d' then updN (V 8) (V 0 9) n k else 0) (V 0 9) + (if updN (V 7) (V 0 9) (14 * s + d) (V 0 9) = 14 * s' + d' then updN (V 8) (V 0 9) n (V 0 9) else 0)) = _
  have e : sumN (fun k => if updN (V 7) (V 0 9) (14 * s + d) k = 14 * s' + d' then updN (V 8) (V 0 9) n k else 0) (V 0 9) = sumN (fun k => if V 7 k = 14 * s' + d' then V 8 k else 0) (V 0 9) := sumN_ext (fun i hi => by
    have q : ¬ i = V 0 9 := by omega
    unfold updN
    rw [if_neg q, if_neg q])
  rw [e]
  unfold updN aq
  rw [if_pos rfl, if_pos rfl]
  omega
theorem WF.ruM {V : Vw} (hw : WF V) {s d n : Nat} (hs : s < V 0 8) (hd : d < V 0 0) (h1 : 1 ≤ n) (h6 : n ≤ 60) (hr : V 0 9 < 12) : WF (ruM V s d n) := by
  refine hw.rush (by omega) (fun k hk => ?_) (fun a ha => by have := hw.ac.2.2.1 a ha; omega)
  unfold updN
  by_cases q : k = V 0 9
  · rw [if_pos q, if_pos q]
    exact ⟨⟨s, d, hs, hd, rfl⟩, h1, h6⟩
  · rw [if_neg q, if_neg q]
    exact hw.ru k (by omega)
theorem c_addRush {V : Vw} (hw : WF V) {σ : Sg} (ht : TC V σ) {s d n : Nat} (hs : s < V 0 8) (hd : d < V 0 0) (hn : n ≤ 60) (hr : V 0 9 < 12) : ∃ τ, XX7_addRush 2 (nI s) (nI d) (nI n) σ = some τ ∧ TC (ruM V s d n) τ ∧ fr [(2, some 7), (7, none), (8, none), (9, none)] σ τ := by
  have s6 := hw.s6
  have d14 := hw.d14
  obtain ⟨t0, t1, t2, t3, t4, t5, t6, t7, t8, t9, t10, t11, t12⟩ := id ht
  have al := aq_le hw hs hd
  obtain ⟨R, hR⟩ : ∃ R, R = V 0 9 := ⟨_, rfl⟩
  rw [← hR] at t7 hr
  have i12 : ib (nI R) 12 := (ib_nI (by omega)).mpr hr
  have ic : (nI R).toNatClampNeg = R := nI_cl (by omega)
  obtain ⟨σ1, hσ1⟩ : ∃ σ1, σ1 = up (up σ (2 + 6) R (nI (14 * s + d))) (2 + 7) R (nI n) := ⟨_, rfl⟩
  have c27 : up σ (2 + 6) R (nI (14 * s + d)) 2 7 = nI R := by rw [up_cell (by omega), t7]
  have c27b : σ1 2 7 = nI R := by rw [hσ1, up_cell (by omega), c27]
  have c8 : σ1 (2 + 6) R = nI (14 * s + d) := by rw [hσ1, up_cell (by omega), up_same]
  have c7 : σ1 (2 + 5) (14 * s + d) = nI (aq V s d) := by
    rw [hσ1, up_cell (by omega), up_cell (by omega)]
    exact t11 s d hs hd
  refine ⟨up (up σ1 (2 + 5) (14 * s + d) (nI (aq V s d + n))) 2 7 (nI (R + 1)), ?_, ?_, ?_⟩
  · unfold XX7_addRush
    rw [t7, if_pos (show nI R < 12 from (nI_lti (b := 12) (by omega) (by omega)).mpr hr), c_cellOf, b1s, if_pos i12, ic, lt_def, c27, if_pos i12, ic, lt_def, ← hσ1, c27b, if_pos i12, ic, lt_def, c8, if_pos ((ib_nI (by omega)).mpr (by omega)), nI_cl (by omega), c7, nI_add, lt_def, up_cell (show 2 ≠ 2 + 5 by omega), c27b, nI_1, lt_def]
  · have cz : ∀ k, k ≠ 2 → k ≠ 7 → k ≠ 8 → k ≠ 9 → up (up σ1 (2 + 5) (14 * s + d) (nI (aq V s d + n))) 2 7 (nI (R + 1)) k = σ k := fun k k1 k2 k3 k4 => by
      rw [up_cell k1, up_cell (by omega), hσ1, up_cell (by omega), up_cell (by omega)]
    have c2 : ∀ i, i ≠ 7 → up (up σ1 (2 + 5) (14 * s + d) (nI (aq V s d + n))) 2 7 (nI (R + 1)) 2 i = σ 2 i := fun i hi => by
      rw [up_slot hi, up_cell (by omega), hσ1, up_cell (by omega), up_cell (by omega)]
    refine ⟨?_, ?_, ?_, ?_, ?_, ?_, ?_, ?_, fun t ht => ?_, ?_, ?_, fun t e ht he => ?_, fun k hk => ?_⟩
    · rw [c2 0 (by omega)]
      exact t0
    · rw [c2 1 (by omega)]
      exact t1
    · rw [c2 2 (by omega)]
      exact t2
    · rw [c2 3 (by omega)]
      exact t3
    · rw [c2 4 (by omega)]
      exact t4
    · rw [c2 5 (by omega)]
      exact t5
    · rw [c2 6 (by omega)]
      exact t6
    · rw [up_same, hR]
      rfl
    · rw [cz 3 (by omega) (by omega) (by omega) (by omega), cz 4 (by omega) (by omega) (by omega) (by omega), cz 5 (by omega) (by omega) (by omega) (by omega), cz 6 (by omega) (by omega) (by omega) (by omega)]
      exact t8 t ht
    · rw [cz 3 (by omega) (by omega) (by omega) (by omega)]
      exact t9
    · rw [cz 4 (by omega) (by omega) (by omega) (by omega)]
      exact t10
    · have he14 : e < V 0 0 := he
      have ht8 : t < V 0 8 := ht
      rw [aq_ruM, up_cell (by omega)]
      by_cases q : 14 * s + d = 14 * t + e
      · have q1 : s = t := by omega
        have q2 : d = e := by omega
        subst q1
        subst q2
        rw [if_pos rfl]
        exact up_same
      · rw [if_neg q, Nat.add_zero]
        show up σ1 7 (14 * s + d) (nI (aq V s d + n)) 7 (14 * t + e) = _
        rw [up_slot (by omega), hσ1, up_cell (by omega), up_cell (by omega)]
        exact t11 t e ht he
    · have hk' : k < V 0 9 + 1 := hk
      show _ = nI (updN (V 7) (V 0 9) (14 * s + d) k) ∧ _ = nI (updN (V 8) (V 0 9) n k)
      rw [up_cell (show 8 ≠ 2 by omega), up_cell (show 8 ≠ 2 + 5 by omega), up_cell (show 9 ≠ 2 by omega), up_cell (show 9 ≠ 2 + 5 by omega), hσ1, up_cell (show 8 ≠ 2 + 7 by omega), ← hR]
      show up σ 8 R (nI (14 * s + d)) 8 k = _ ∧ up (up σ 8 R (nI (14 * s + d))) 9 R (nI n) 9 k = _
      unfold updN
      by_cases q : k = R
      · rw [if_pos q, if_pos q, q, up_same, up_same]
        exact ⟨rfl, rfl⟩
      · rw [if_neg q, if_neg q, up_slot q, up_slot q, up_cell (by omega)]
        exact t12 k (by omega)
  · rw [hσ1]
    exact fr.tr (fr.tr (fr.tr (fr_up.mono (by simp)) (fr_up.mono (by simp))) (fr_up.mono (by simp))) (fr_upf.mono (by simp))
/-- asked anew, all as they are -/
theorem c_askAnew {V V2 : Vw} (hw2 : WF V2) {σ : Sg} {pr : (Nat → Int32) → Int32} {vis : Nat → Nat} {ask : Nat → Nat → Nat} (hpr : prC pr) (ht : TC V2 σ) (hwk : WK V2 pr 38 σ) (hrw : RW V2 38 σ) (hv : ∀ s, s < 6 → σ 39 s = nI (vis s)) (hvl : ∀ s, vis s < 2147483648) : ∃ τ, XX5_askPercent 38 (100 : Int32) σ = some τ ∧ RN V2 pr 38 vis (aq V2) τ ∧ fr ((40, none) :: runS 38) σ τ := by
  obtain ⟨τ, h1, h2, h3⟩ := c_askPercent hw2 hpr (k := 38) (pct := 100) (vis := vis) (by omega) (by omega) (fun s _ => hvl s) ht hwk hrw hv
  rw [ask100] at h2
  exact ⟨τ, h1, h2, h3⟩
theorem op_rush {V : Vw} {σ : Sg} (h : Inv V σ) (x y z : Int32) : stOK (XX9_rush x y z σ) (XX10_rush x y z) := by
  obtain ⟨hw, hc, hr⟩ := id h
  have s6 := hw.s6
  have d14 := hw.d14
  have r12 := hw.r12
  have rf : ∀ r, XX9_rush x y z σ = some (r, σ) → XX10_rush x y z σ = some (r, up σ 64 0 0) → stOK (XX9_rush x y z σ) (XX10_rush x y z) := fun r e1 e2 => ⟨_, _, _, e1, e2, V, h.look (fr_upf (a := 64) (i := 0)) rfl rfl⟩
  have hrt : RA V (up σ 64 0 0) := hr.th
  have n9 : ∀ {τ : Sg}, RA V τ → XX10_number (9 : Int32) τ = some (nI (V 0 9)) := fun hh => num_at hh.1 (i := 9) (by omega)
  have t7 : σ 2 7 = nI (V 0 9) := hc.1.2.2.2.2.2.2.2.1
  by_cases hx : ib x (V 0 8) ∧ ib y (V 0 0)
  · by_cases z1 : z < 1
    · refine rf (-1) ?_ ?_
      · unfold XX9_rush
        rw [c_hasCell hc.1 s6 d14, if_pos hx, b1s, if_neg (show ¬ (1 : Int32) = 0 by decide), if_pos z1]
      · unfold XX10_rush
        rw [lt_def, n9 hrt, b1s, m_isAt (hrt.1.1 8 (by omega)) (by omega) (hrt.1.1 0 (by omega)) (by omega), if_pos hx, b1s, if_neg (show ¬ (1 : Int32) = 0 by decide), m_in, if_pos z1, b1s, if_pos rfl]
    by_cases z2 : 60 < z
    · refine rf (-1) ?_ ?_
      · unfold XX9_rush
        rw [c_hasCell hc.1 s6 d14, if_pos hx, b1s, if_neg (show ¬ (1 : Int32) = 0 by decide), if_neg z1, if_pos z2]
      · unfold XX10_rush
        rw [lt_def, n9 hrt, b1s, m_isAt (hrt.1.1 8 (by omega)) (by omega) (hrt.1.1 0 (by omega)) (by omega), if_pos hx, b1s, if_neg (show ¬ (1 : Int32) = 0 by decide), m_in, if_neg z1, if_pos z2, b1s, if_pos rfl]
    by_cases rr : V 0 9 = 12
    · refine rf (-1) ?_ ?_
      · unfold XX9_rush
        rw [c_hasCell hc.1 s6 d14, if_pos hx, b1s, if_neg (show ¬ (1 : Int32) = 0 by decide), if_neg z1, if_neg z2, t7, rr, if_neg (show ¬ nI 12 < 12 by decide)]
      · unfold XX10_rush
        rw [lt_def, n9 hrt, b1s, m_isAt (hrt.1.1 8 (by omega)) (by omega) (hrt.1.1 0 (by omega)) (by omega), if_pos hx, b1s, if_neg (show ¬ (1 : Int32) = 0 by decide), m_in, if_neg z1, if_neg z2, b1s, if_neg (show ¬ (1 : Int32) = 0 by decide), rr, if_pos (show nI 12 = 12 from rfl)]
    obtain ⟨s, hs, rfl⟩ := ib_of hx.1 (by omega)
    obtain ⟨d, hd, rfl⟩ := ib_of hx.2 (by omega)
    have z0 : ¬ z < 0 := fun q => z1 (by
      have h1 := Int32.lt_iff_toInt_lt.mp q
      have e0 : (0 : Int32).toInt = 0 := by decide
      have e1 : (1 : Int32).toInt = 1 := by decide
      exact Int32.lt_iff_toInt_lt.mpr (by omega))
    obtain ⟨n, hn, rfl⟩ := nI_of z0
    have n1 : 1 ≤ n := n_nlt (b := 1) (by omega) (by omega) z1
    have n60 : n ≤ 60 := n_nlt (a := 60) (by omega) (by omega) z2
    have hw1 := hw.keep
    obtain ⟨σ1, a1, a2⟩ := c_keep hw hc
    have hs1 : s < kpV V 0 8 := hs
    have hd1 : d < kpV V 0 0 := hd
    have hr1 : kpV V 0 9 < 12 := by
      show V 0 9 < 12
      omega
    have hw2 : WF (ruM (kpV V) s d n) := hw1.ruM hs1 hd1 n1 n60 hr1
    obtain ⟨σ2, b1', b2', b3'⟩ := c_addRush hw1 a2.1 (s := s) (d := d) (n := n) hs1 hd1 n60 hr1
    have ep : prV (ruM (kpV V) s d n) = prV (kpV V) := prV_sw (ru_sw _ _ _ _) rfl
    have rn2 : RN (kpV V) (prV (kpV V)) 38 (kpV V 5) (aq (kpV V)) σ2 := a2.2.1.frm b3' rfl
    obtain ⟨σ3, c1, c2, c3⟩ := c_askAnew (V := V) (ask := aq V) hw2 (pr := prV (kpV V)) (vis := kpV V 5) (prV_C _) b2' (rn2.2.2.2.pr rfl rfl rfl) (rn2.rw hw1 : RW (kpV V) 38 σ2) rn2.1 (fun t => vis_lt hw1 t)
    have t3 : TC (ruM (kpV V) s d n) σ3 := b2'.off (fun k k1 k2 => c3.cell (by simp; omega))
    have F := (b3'.mono (S' := [(2, some 7), (7, none), (8, none), (9, none)] ++ ((40, none) :: runS 38)) (fun q hq => List.mem_append_left _ hq)).tr (c3.mono (S' := [(2, some 7), (7, none), (8, none), (9, none)] ++ ((40, none) :: runS 38)) (fun q hq => List.mem_append_right _ hq))
    have ac : AC (ruM (kpV V) s d n) σ3 := by
      show σ3 61 0 = nI (kpV V 10 0) ∧ (∀ a s, a < kpV V 10 0 → s < 7 → σ3 62 (7 * a + s) = nI (kpV V 9 (7 * a + s)))
      rw [F.cell (k := 61) rfl, F.cell (k := 62) rfl]
      exact a2.2.2.2.2.1
    have hc3 : CI (ruM (kpV V) s d n) σ3 := a2.mk (ru_sw _ _ _ _) rfl rfl rfl F rfl t3 (by rw [ep]; exact c2) ac
    have e7 : σ3 2 7 = nI (V 0 9 + 1) := t3.2.2.2.2.2.2.2.1
    have e1 : XX9_rush (nI s) (nI d) (nI n) σ = some (nI (V 0 9 + 1), σ3) := by
      unfold XX9_rush
      rw [c_hasCell hc.1 s6 d14, if_pos hx, b1s, if_neg (show ¬ (1 : Int32) = 0 by decide), if_neg z1, if_neg z2, t7, if_pos (show nI (V 0 9) < 12 from (nI_lti (b := 12) (by omega) (by omega)).mpr hr1), a1, b1s, b1', b1s, c1, b1s, e7]
    have F9 := frX9_rush e1
    have hr3 : RA V (up σ3 64 0 0) := (hr.near F9 rfl).th
    obtain ⟨τ1, g1, g2⟩ := m_keep hw hr3
    obtain ⟨τ2, hτ2⟩ : ∃ τ2, τ2 = up (up (up (up τ1 72 (V 0 9) (nI s)) 73 (V 0 9) (nI d)) 74 (V 0 9) (nI n)) 65 9 (nI (V 0 9 + 1)) := ⟨_, rfl⟩
    have e2 : XX10_rush (nI s) (nI d) (nI n) σ3 = some (nI (V 0 9 + 1), τ2) := by
      unfold XX10_rush
      rw [lt_def, n9 hr3, b1s, m_isAt (hr3.1.1 8 (by omega)) (by omega) (hr3.1.1 0 (by omega)) (by omega), if_pos hx, b1s, if_neg (show ¬ (1 : Int32) = 0 by decide), m_in, if_neg z1, if_neg z2, b1s, if_neg (show ¬ (1 : Int32) = 0 by decide), if_neg (show ¬ nI (V 0 9) = 12 from nI_ne (b := 12) (by omega) (by omega) rr), g1, b1s, if_pos ((ib_nI (by omega)).mpr (by omega)), nI_cl (by omega), lt_def, lt_def, lt_def, lt_def, nI_1, ← hτ2]
    have cz : ∀ k, k ≠ 65 → k ≠ 72 → k ≠ 73 → k ≠ 74 → τ2 k = τ1 k := fun k k1 k2 k3 k4 => by
      rw [hτ2, up_cell k1, up_cell k4, up_cell k3, up_cell k2]
    have hra : RA (ruM (kpV V) s d n) τ2 := by
      obtain ⟨hm, hA⟩ := g2
      refine ⟨?_, ?_⟩
      · obtain ⟨b1, b2, b3, b4, b5, b6, b7, b8, b9, b10, b11⟩ := hm
        rw [← cz 66 (by omega) (by omega) (by omega) (by omega), ← cz 67 (by omega) (by omega) (by omega) (by omega), ← cz 68 (by omega) (by omega) (by omega) (by omega), ← cz 69 (by omega) (by omega) (by omega) (by omega)] at b2
        rw [← cz 78 (by omega) (by omega) (by omega) (by omega)] at b3
        rw [← cz 70 (by omega) (by omega) (by omega) (by omega), ← cz 71 (by omega) (by omega) (by omega) (by omega)] at b4
        rw [← cz 64 (by omega) (by omega) (by omega) (by omega)] at b6 b8 b10 b11
        rw [← cz 91 (by omega) (by omega) (by omega) (by omega)] at b7
        rw [← cz 76 (by omega) (by omega) (by omega) (by omega)] at b9
        refine ⟨fun i hi => ?_, b2, b3, b4, fun k hk => ?_, b6, b7, b8, b9, b10, b11⟩
        · show τ2 65 i = nI (if i = 9 then V 0 9 + 1 else V 0 i)
          by_cases q : i = 9
          · rw [if_pos q, q, hτ2, up_same]
          · rw [if_neg q, hτ2, up_slot q, up_cell (by omega), up_cell (by omega), up_cell (by omega)]
            exact b1 i hi
        · have hk' : k < V 0 9 + 1 := hk
          show ∃ s' d', s' < V 0 8 ∧ d' < V 0 0 ∧ updN (V 7) (V 0 9) (14 * s + d) k = 14 * s' + d' ∧ τ2 72 k = nI s' ∧ τ2 73 k = nI d' ∧ τ2 74 k = nI (updN (V 8) (V 0 9) n k)
          rw [hτ2, up_cell (show 72 ≠ 65 by omega), up_cell (show 72 ≠ 74 by omega), up_cell (show 72 ≠ 73 by omega), up_cell (show 73 ≠ 65 by omega), up_cell (show 73 ≠ 74 by omega), up_cell (show 74 ≠ 65 by omega)]
          unfold updN
          by_cases q : k = V 0 9
          · rw [if_pos q, if_pos q, q]
            exact ⟨s, d, hs, hd, rfl, up_same, up_same, up_same⟩
          · rw [if_neg q, if_neg q]
            obtain ⟨s', d', m1, m2, m3, m4, m5, m6⟩ := b5 k (by show k < V 0 9; omega)
            refine ⟨s', d', m1, m2, m3, ?_, ?_, ?_⟩
            · rw [up_slot q]
              exact m4
            · rw [up_slot q, up_cell (by omega)]
              exact m5
            · rw [up_slot q, up_cell (by omega), up_cell (by omega)]
              exact m6
      · refine AHM.sw ?_ (ru_sw _ _ _ _)
        unfold AHM at hA ⊢
        rw [cz 77 (by omega) (by omega) (by omega) (by omega)]
        exact hA
    exact ⟨_, _, _, e1, e2, _, hw2, hc3.far (frX10_rush e2) rfl, hra⟩
  · refine rf (-1) ?_ ?_
    · unfold XX9_rush
      rw [c_hasCell hc.1 s6 d14, if_neg hx]
      rfl
    · unfold XX10_rush
      rw [lt_def, n9 hrt, b1s, m_isAt (hrt.1.1 8 (by omega)) (by omega) (hrt.1.1 0 (by omega)) (by omega), if_neg hx]
      rfl
