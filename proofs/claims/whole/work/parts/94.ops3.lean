/-! CALLS: scaled, worth, peak, reach -/
theorem RA.th {V : Vw} {σ : Sg} {v : Int32} (h : RA V σ) : RA V (up σ 64 0 v) := h.off (fr_upf (a := 64) (i := 0)) rfl
/-- with other visits -/
def vsV (V : Vw) (f : Nat → Nat) : Vw := put V 5 f
theorem vs_sw (V : Vw) (f : Nat → Nat) : sW V (vsV V f) := ⟨rfl, rfl, rfl, rfl, rfl⟩
theorem WF.vis {V : Vw} (h : WF V) {f : Nat → Nat} (h1 : ∀ s, f s < 2 ^ V 0 0) (h2 : ∀ s, V 0 8 ≤ s → f s = 0) : WF (vsV V f) := by
  obtain ⟨a1, a2, a3, a4, a5, a6, a7, a8, a9, a10, a11, a12, a13, -, -, a16, a17, a18, a19, a20, a21, a22, a23⟩ := h
  exact ⟨a1, a2, a3, a4, a5, a6, a7, a8, a9, a10, a11, a12, a13, h1, h2, a16, a17, a18, a19, a20, a21, a22, a23⟩
theorem WF.v5 {V : Vw} (h : WF V) : (∀ s, V 5 s < 2 ^ V 0 0) ∧ (∀ s, V 0 8 ≤ s → V 5 s = 0) := ⟨h.2.2.2.2.2.2.2.2.2.2.2.2.2.1, h.2.2.2.2.2.2.2.2.2.2.2.2.2.2.1⟩
theorem RA.vis {V : Vw} {σ τ : Sg} (h : RA V σ) {f : Nat → Nat} (hf : fr [(78, none)] σ τ) (h1 : ∀ s, s < 6 → τ 78 s = nI (f s)) : RA (vsV V f) τ := by
  obtain ⟨hm, hA⟩ := h
  have c : ∀ k, k ≠ 78 → τ k = σ k := fun k k1 => hf.cell (by simp; omega)
  refine ⟨?_, ?_⟩
  · obtain ⟨b1, b2, -, b4, b5, b6, b7, b8, b9, b10, b11⟩ := hm
    rw [← c 65 (by omega)] at b1
    rw [← c 66 (by omega), ← c 67 (by omega), ← c 68 (by omega), ← c 69 (by omega)] at b2
    rw [← c 70 (by omega), ← c 71 (by omega)] at b4
    rw [← c 72 (by omega), ← c 73 (by omega), ← c 74 (by omega)] at b5
    rw [← c 64 (by omega)] at b6 b8 b10 b11
    rw [← c 91 (by omega)] at b7
    rw [← c 76 (by omega)] at b9
    exact ⟨b1, b2, h1, b4, b5, b6, b7, b8, b9, b10, b11⟩
  · refine AHM.sw ?_ (vs_sw V f)
    unfold AHM at hA ⊢
    rw [c 77 (by omega)]
    exact hA
theorem cd_sw {V V' : Vw} (h : sW V V') : cdV V' = cdV V := by
  funext cap ld
  unfold cdV dpV
  rw [PT_sw h, h.2.2.1]
theorem cosT_vs (V : Vw) (f : Nat → Nat) : cosT (vsV V f) = cosT V := by
  funext vis ask
  unfold cosT rcT
  rw [cd_sw (vs_sw V f)]
  rfl
theorem CI.vis {V : Vw} {σ τ : Sg} (h : CI V σ) {f : Nat → Nat} {S : List (Nat × Option Nat)} (hf : fr S σ τ) (hS : S.all (fun q => !tchC q) = true) (hr : RN V (prV V) 38 f (aq V) τ) (hp : PC V τ) : CI (vsV V f) τ := by
  have hn := List.all_eq_true.mp hS
  have e : ∀ k i, tchC (k, none) = true → tchC (k, some i) = true → τ k i = σ k i := fun k i h1 h2 => hf k i (fun q => by
    have := hn _ q
    rw [h1] at this
    cases this) (fun q => by
    have := hn _ q
    rw [h2] at this
    cases this)
  have c : ∀ k, (∀ i, tchC (k, some i) = true) → tchC (k, none) = true → τ k = σ k := fun k h1 h2 => funext fun i => e k i h2 (h1 i)
  obtain ⟨h1, h2, h3, h4, h5, h6⟩ := h
  refine ⟨(h1.off (fun k k1 k2 => ?_) : TC V τ), ?_, ?_, hp.sw (vs_sw V f), ?_, ?_⟩
  · have : k = 2 ∨ k = 3 ∨ k = 4 ∨ k = 5 ∨ k = 6 ∨ k = 7 ∨ k = 8 ∨ k = 9 := by omega
    rcases this with rfl | rfl | rfl | rfl | rfl | rfl | rfl | rfl <;> exact c _ (fun _ => rfl) rfl
  · rw [prV_sw (vs_sw V f) rfl]
    exact hr
  · refine WC.sw ?_ (vs_sw V f)
    unfold WC FC
    rw [e 25 3 rfl rfl, c 27 (fun _ => rfl) rfl, c 28 (fun _ => rfl) rfl]
    exact h3
  · show AC V τ
    unfold AC
    rw [e 61 0 rfl rfl, c 62 (fun _ => rfl) rfl]
    exact h5
  · show XC V τ
    unfold XC
    rw [e 0 1 rfl rfl, c 1 (fun _ => rfl) rfl, e 10 1 rfl rfl, e 10 2 rfl rfl, c 19 (fun _ => rfl) rfl]
    exact h6
theorem aqp_lt {V : Vw} (hw : WF V) {p : Nat} (hp : p ≤ 300) {s d : Nat} (hs : s < V 0 8) (hd : d < V 0 0) : aq V s d * p / 100 < 1000000 := by
  have h1 := aq_le hw hs hd
  have h2 : aq V s d * p ≤ 750 * 300 := Nat.mul_le_mul h1 hp
  omega
/-- the trial run, asked for so many of a hundred -/
theorem c_trialAt {V : Vw} (hw : WF V) {p : Nat} (hp : p ≤ 300) {ask : Nat → Nat → Nat} {σ : Sg} (ht : TC V σ) (hr : RN V (prV V) 46 (V 5) ask σ) : ∃ τ, XX5_askPercent 46 (nI p) σ = some τ ∧ RN V (prV V) 46 (V 5) (fun s d => aq V s d * p / 100) τ ∧ fr ((46 + 2, none) :: runS 46) σ τ := c_askPercent hw (prV_C V) (by omega) hp (fun s _ => vis_lt hw s) ht hr.2.2.2 (hr.rw hw) hr.1
theorem op_scaled {V : Vw} {σ : Sg} (h : Inv V σ) (x : Int32) : stOK (XX9_scaled x σ) (XX10_scaled x) := by
  obtain ⟨hw, hc, hr⟩ := id h
  by_cases hx : ib x 301
  · obtain ⟨p, hp, rfl⟩ := ib_of hx (by omega)
    obtain ⟨σ1, a1, a2, a3⟩ := c_takeOver (prV_C V) (k := 46) (j := 38) (by omega) hw.s6 hw.d14 hc.2.1
    have t1 : TC V σ1 := hc.1.off (fun k k1 k2 => a3.cell (by simp; omega))
    obtain ⟨σ2, b1', b2', b3'⟩ := c_trialAt hw (p := p) (by omega) t1 a2
    have t2 : TC V σ2 := t1.off (fun k k1 k2 => b3'.cell (by simp; omega))
    have p2 : PC V σ2 := (hc.2.2.2.1.off a3 (fun k k1 k2 => by simp; omega)).off b3' (fun k k1 k2 => by simp; omega)
    obtain ⟨σ3, c1, c2, c3, c4⟩ := c_wholeCost hw (k := 46) (by omega) t2 p2 b2'
    have e1 : XX9_scaled (nI p) σ = some (nI (cosT V (V 5) (fun s d => aq V s d * p / 100)), σ3) := by
      unfold XX9_scaled
      rw [if_neg (nI_pos (by omega)), if_pos (show nI p ≤ (300 : Int32) from (nI_lei (b := 300) (by omega) (by omega)).mpr (by omega)), a1]
      simp only [b1]
      rw [b1']
      simp only []
      rw [c1]
      rfl
    have F := frX9_scaled e1
    have hc3 : CI V σ3 := hc.off F rfl (hc.2.1.frm F rfl) c3
    have hr1 : RA V (up σ3 64 0 0) := (hr.near F rfl).th
    obtain ⟨τ1, g1, g2, g3⟩ := m_layAsked hw hr1.1 (pct := p) (by omega)
    obtain ⟨τ2, k1, k2, k3, k4⟩ := m_costNow hw (ask := fun s d => aq V s d * p / 100) (fun s d hs hd => aqp_lt hw (by omega) hs hd) (hr1.off (frX10_layAsked g1) rfl) g3
    have e2 : XX10_scaled (nI p) σ3 = some (nI (cosT V (V 5) (fun s d => aq V s d * p / 100)), τ2) := by
      unfold XX10_scaled
      rw [lt_def, m_in, if_neg (nI_pos (by omega)), if_neg (show ¬ (300 : Int32) < nI p from fun q => absurd ((nI_lti (a := 300) (by omega) (by omega)).mp q) (by omega))]
      simp only [b1]
      rw [if_neg (show ¬ (1 : Int32) = 0 by decide), g1]
      simp only []
      rw [k1]
      rfl
    exact ⟨_, _, _, e1, e2, V, hw, hc3.far (frX10_scaled e2) rfl, k2⟩
  · have hq : x < 0 ∨ (¬ x < 0 ∧ 300 < x) := by
      by_cases q : x < 0
      · exact Or.inl q
      · obtain ⟨j, hj, rfl⟩ := nI_of q
        rw [ib_nI hj] at hx
        exact Or.inr ⟨q, (nI_lti (a := 300) (by omega) (by omega)).mpr (by omega)⟩
    have e1 : XX9_scaled x σ = some (-1, σ) := by
      unfold XX9_scaled
      rcases hq with q | ⟨q, z⟩
      · rw [if_pos q]
      · rw [if_neg q, if_neg (fun y => by
          have h1 := Int32.lt_iff_toInt_lt.mp z
          have h2 := Int32.le_iff_toInt_le.mp y
          omega)]
    have e2 : XX10_scaled x σ = some (-1, up σ 64 0 0) := by
      unfold XX10_scaled
      rw [lt_def, m_in]
      rcases hq with q | ⟨q, z⟩
      · rw [if_pos q]
        rfl
      · rw [if_neg q, if_pos z]
        rfl
    exact ⟨_, _, _, e1, e2, V, h.look (fr_upf (a := 64) (i := 0)) rfl rfl⟩
theorem pow_day {V : Vw} (hw : WF V) {d : Nat} (hd : d < V 0 0) : 2 ^ d < 2 ^ V 0 0 := Nat.pow_lt_pow_right (by omega) hd
/-- a shop's visits changed -/
theorem upd_ok {V : Vw} (hw : WF V) {s v : Nat} (hs : s < V 0 8) (hv : v < 2 ^ V 0 0) {f : Nat → Nat} (h1 : ∀ s, f s < 2 ^ V 0 0) (h2 : ∀ s, V 0 8 ≤ s → f s = 0) : (∀ t, updN f s v t < 2 ^ V 0 0) ∧ (∀ t, V 0 8 ≤ t → updN f s v t = 0) := by
  refine ⟨fun t => ?_, fun t ht => ?_⟩
  · unfold updN
    split
    · exact hv
    · exact h1 t
  · unfold updN
    rw [if_neg (by omega)]
    exact h2 t ht
theorem op_worth {V : Vw} {σ : Sg} (h : Inv V σ) (x y : Int32) : stOK (XX9_worth x y σ) (XX10_worth x y) := by
  obtain ⟨hw, hc, hr⟩ := id h
  have s6 := hw.s6
  have d14 := hw.d14
  have hla : ∀ s d, s < V 0 8 → d < V 0 0 → aq V s d < 1000000 := fun s d hs hd => by have := aq_le hw hs hd; omega
  by_cases hx : ib x (V 0 8) ∧ ib y (V 0 0)
  · obtain ⟨s, hs, rfl⟩ := ib_of hx.1 (by omega)
    obtain ⟨d, hd, rfl⟩ := ib_of hx.2 (by omega)
    have hv : V 5 s ^^^ 2 ^ d < 2 ^ V 0 0 := Nat.xor_lt_two_pow (hw.v5.1 s) (pow_day hw hd)
    have i6 : ib (nI s) 6 := (ib_nI (by omega)).mpr (by omega)
    have ic : (nI s).toNatClampNeg = s := nI_cl (by omega)
    have sh1 : (1 : Int32) <<< (nI d &&& 31) = nI (2 ^ d) := nx_1shl (by omega)
    obtain ⟨σ1, a1, a2, a3⟩ := c_takeOver (prV_C V) (k := 46) (j := 38) (by omega) hw.s6 hw.d14 hc.2.1
    have t1 : TC V σ1 := hc.1.off (fun k k1 k2 => a3.cell (by simp; omega))
    have n1 : RN V (prV V) 38 (V 5) (aq V) σ1 := hc.2.1.frm a3 rfl
    obtain ⟨σ2, b1', b2', b3'⟩ := c_setVisits hw (prV_C V) (k := 46) (by omega) hs hv (hw.v5.1 s) hla t1 a2
    have t2 : TC V σ2 := t1.off (fun k k1 k2 => b3'.cell (by simp; omega))
    have n2 : RN V (prV V) 38 (V 5) (aq V) σ2 := n1.frm b3' rfl
    have p2 : PC V σ2 := (hc.2.2.2.1.off a3 (fun k k1 k2 => by simp; omega)).off b3' (fun k k1 k2 => by simp; omega)
    obtain ⟨σ3, c1, c2, c3, c4⟩ := c_wholeCost hw (k := 38) (by omega) t2 p2 n2
    have t3 : TC V σ3 := t2.off (fun k k1 k2 => c4.cell (by simp; omega))
    have n3 : RN V (prV V) 46 (updN (V 5) s (V 5 s ^^^ 2 ^ d)) (aq V) σ3 := b2'.frm c4 rfl
    obtain ⟨σ4, d1, d2, d3, d4⟩ := c_wholeCost hw (k := 46) (by omega) t3 c3 n3
    have v39 : σ1 39 s = nI (V 5 s) := n1.1 s (by omega)
    have e1 : XX9_worth (nI s) (nI d) σ = some (nI (cosT V (V 5) (aq V)) - nI (cosT V (updN (V 5) s (V 5 s ^^^ 2 ^ d)) (aq V)), σ4) := by
      unfold XX9_worth
      rw [c_hasCell hc.1 s6 d14, if_pos hx]
      simp only [b1]
      rw [if_neg (show ¬ (1 : Int32) = 0 by decide), a1]
      simp only []
      rw [if_pos i6, ic, v39, sh1, nx_xor, b1']
      simp only []
      rw [c1]
      simp only [b2]
      rw [d1]
    have F := frX9_worth e1
    have hc4 : CI V σ4 := hc.off F rfl (c2.frm d4 rfl) d3
    have hr1 : RA V (up σ4 64 0 0) := (hr.near F rfl).th
    obtain ⟨τ1, g1, g2, g3⟩ := m_layAsked hw hr1.1 (pct := 100) (by omega)
    rw [ask100] at g3
    obtain ⟨τ2, k1, k2, k3, k4⟩ := m_costNow hw hla (hr1.off (frX10_layAsked g1) rfl) g3
    obtain ⟨f, hfd⟩ : ∃ f, f = updN (V 5) s (V 5 s ^^^ 2 ^ d) := ⟨_, rfl⟩
    have w78 : τ2 78 s = nI (V 5 s) := k2.1.2.2.1 s (by omega)
    have f3 : fr [(78, none)] τ2 (up τ2 78 s (nI (V 5 s ^^^ 2 ^ d))) := fr_up
    have hu := upd_ok hw hs hv hw.v5.1 hw.v5.2
    rw [← hfd] at hu
    have hw' : WF (vsV V f) := hw.vis hu.1 hu.2
    have k5 : RA (vsV V f) (up τ2 78 s (nI (V 5 s ^^^ 2 ^ d))) := k2.vis f3 (fun t ht => by
      rw [hfd]
      unfold updN
      by_cases q : t = s
      · subst q
        rw [if_pos rfl, up_same]
      · rw [if_neg q, up_slot q]
        exact k2.1.2.2.1 t ht)
    obtain ⟨τ3, l1, l2, l3, l4⟩ := m_costNow hw' (ask := aq V) hla k5 (fun t e ht he => by rw [f3.cell (k := 79) rfl]; exact k3 t e ht he)
    have v78 : τ3 78 s = nI (V 5 s ^^^ 2 ^ d) := (congrFun ((frX10_costNow l1).cell (k := 78) rfl) s).trans up_same
    have xx : V 5 s ^^^ 2 ^ d ^^^ 2 ^ d = V 5 s := by rw [Nat.xor_assoc, Nat.xor_self, Nat.xor_zero]
    have e2 : XX10_worth (nI s) (nI d) σ4 = some (nI (cosT V (V 5) (aq V)) - nI (cosT V (updN (V 5) s (V 5 s ^^^ 2 ^ d)) (aq V)), up τ3 78 s (nI (V 5 s))) := by
      unfold XX10_worth
      rw [lt_def, m_isAt (hr1.1.1 8 (by omega)) (by omega) (hr1.1.1 0 (by omega)) (by omega), if_pos hx]
      simp only [b1]
      rw [if_neg (show ¬ (1 : Int32) = 0 by decide), show (100 : Int32) = nI 100 from rfl, g1]
      simp only []
      rw [k1]
      simp only [b2]
      rw [if_pos i6, ic, sh1, w78, nx_xor, lt_def, l1]
      simp only []
      rw [lt_def, v78, nx_xor, xx, cosT_vs, ← hfd]
      rfl
    refine ⟨_, _, _, e1, e2, V, hw, hc4.far (frX10_worth e2) rfl, ?_⟩
    have f4 : fr [(78, none)] τ3 (up τ3 78 s (nI (V 5 s))) := fr_up
    have := l2.vis (f := V 5) f4 (fun t ht => by
      by_cases q : t = s
      · subst q
        exact up_same
      · rw [up_slot q, l2.1.2.2.1 t ht]
        show nI (f t) = _
        rw [hfd]
        unfold updN
        rw [if_neg q])
    have ev : vsV (vsV V f) (V 5) = V := by
      funext i
      unfold vsV put
      by_cases q : i = 5
      · rw [if_pos q, q]
      · rw [if_neg q, if_neg q]
    rw [ev] at this
    exact this
  · have e1 : XX9_worth x y σ = some (-1000000, σ) := by
      unfold XX9_worth
      rw [c_hasCell hc.1 s6 d14, if_neg hx]
      rfl
    have e2 : XX10_worth x y σ = some (-1000000, up σ 64 0 0) := by
      unfold XX10_worth
      rw [lt_def, m_isAt (hr.1.th.1 8 (by omega)) (by omega) (hr.1.th.1 0 (by omega)) (by omega), if_neg hx]
      rfl
    exact ⟨_, _, _, e1, e2, V, h.look (fr_upf (a := 64) (i := 0)) rfl rfl⟩
