/-! CALLS: rounds, round, aboard -/
/-- the loads of a day, and all the shops with one -/
abbrev lda (V : Vw) (d : Nat) : Nat → Nat := ldD V (V 5) (aq V) d
abbrev alD (V : Vw) (d : Nat) : Nat := allS (lda V d) (V 0 8)
theorem lda_le {V : Vw} (hw : WF V) {d s : Nat} (hs : s < V 0 8) : lda V d s ≤ V 0 3 := ldD_le hw hs
theorem lda_lt {V : Vw} (hw : WF V) {d s : Nat} (hs : s < V 0 8) : lda V d s < 1000000 := by
  have := lda_le hw (d := d) hs
  have := hw.t99
  omega
theorem c_partDay {V : Vw} {σ : Sg} (hw : WF V) (hc : CI V σ) {d : Nat} (hd : d < V 0 0) : ∃ τ r, dpV V (V 0 3) (lda V d) = some r ∧ XX9_partDay (nI d) σ = some (nI r.2.1, τ) ∧ PI V (V 0 3) (lda V d) (alD V d) (alD V d + 1) τ ∧ CI V τ ∧ (∀ s, s < V 0 8 → τ 63 s = nI (lda V d s)) := by
  have d14 := hw.d14
  have s6 := hw.s6
  have t99 := hw.t99
  obtain ⟨σ1, a1, a2, a3⟩ := c_pickLoads (k := 38) (a := 63) (d := d) (by omega) (by omega) (σ := σ)
  have t1 : TC V σ1 := hc.1.off (fun k k1 k2 => a3.cell (by simp; omega))
  have p1 : PC V σ1 := hc.2.2.2.1.off a3 (fun k k1 k2 => by simp; omega)
  have l1 : ∀ s, s < V 0 8 → σ1 63 s = nI (lda V d s) := fun s hs => by
    rw [a2 s (by omega)]
    exact (hc.2.1.2.2.1 s d hs hd).1
  obtain ⟨τ, r, g1, g2, g3, g4⟩ := c_part hw (cap := V 0 3) (by omega) (ld := lda V d) (fun s hs => lda_lt hw hs) (fun s hs => lda_le hw hs) t1 p1 l1
  have e1 : XX9_partDay (nI d) σ = some (nI r.2.1, τ) := by
    unfold XX9_partDay
    rw [a1]
    simp only [b1]
    rw [t1.2.1, g2]
    rfl
  have F := frX9_partDay e1
  exact ⟨τ, r, g1, e1, g3, hc.off F rfl (hc.2.1.frm F rfl) g3.2.1, fun s hs => by rw [g4.cell (k := 63) rfl]; exact l1 s hs⟩
theorem m_partDay {V : Vw} {σ : Sg} (hw : WF V) (hr : RA V σ) {d : Nat} (hd : d < V 0 0) : ∃ τ1 τ2 τ, XX10_layRun σ = some τ1 ∧ XX10_layLoads (nI d) τ1 = some (nI (alD V d), τ2) ∧ XX10_number 3 τ2 = some (nI (V 0 3)) ∧ XX10_layParts (nI (alD V d)) (nI (V 0 3)) τ2 = some (iP (dpV V (V 0 3) (lda V d)), τ) ∧ RA V τ ∧ LDM V (lda V d) τ ∧ (∀ q, q ≤ alD V d → q &&& alD V d = q → cPM V (V 0 3) (lda V d) q τ) := by
  have t99 := hw.t99
  obtain ⟨τ1, g1, g2, g3, g4⟩ := m_layRun hw hr.1
  have hr2 : RA V τ1 := hr.off (frX10_layRun g1) rfl
  obtain ⟨τ2, k1, k2, k3, k4⟩ := m_layLoads hw (ld := lda V d) hd (fun s hs => lda_lt hw hs) hr2.1 (fun s hs => (g4 s d hs hd).1)
  have hr3 : RA V τ2 := hr2.off k4 rfl
  obtain ⟨τ, l1, l2, l3, l4, l5⟩ := m_layParts hw (cap := V 0 3) (by omega) (ld := lda V d) (fun s hs => lda_lt hw hs) (allS_lt (lda V d) (V 0 8)) hr3 k3
  exact ⟨τ1, τ2, τ, g1, k1, num_at hr3.1 (i := 3) (by omega), l1, l2, l3, l4⟩
theorem op_rounds {V : Vw} {σ : Sg} (h : Inv V σ) (x : Int32) : stOK (XX9_rounds x σ) (XX10_rounds x) := by
  obtain ⟨hw, hc, hr⟩ := id h
  have d14 := hw.d14
  by_cases hx : ib x (V 0 0)
  · obtain ⟨d, hd, rfl⟩ := ib_of hx (by omega)
    obtain ⟨σ1, r, a0, a1, a2, a3, a4⟩ := c_partDay hw hc hd
    have e1 : XX9_rounds (nI d) σ = some (nI r.2.1, σ1) := by
      unfold XX9_rounds
      rw [c_hasDay hc.1 d14, if_pos hx]
      simp only [b1]
      rw [if_neg (show ¬ (1 : Int32) = 0 by decide), a1]
      rfl
    have F := frX9_rounds e1
    have hr1 : RA V (up σ1 64 0 0) := (hr.near F rfl).th
    obtain ⟨τ1, τ2, τ, g1, g2, g3, g4, g5, g6, g7⟩ := m_partDay hw hr1 hd
    have al : alD V d < 2 ^ V 0 8 := allS_lt _ _
    have p6 := p64 hw.s6
    have r84 : τ 84 (alD V d) = nI r.2.1 := ((g7 _ (Nat.le_refl _) (Nat.and_self _)).m83.2 r a0).2
    have e2 : XX10_rounds (nI d) σ1 = some (nI r.2.1, τ) := by
      unfold XX10_rounds
      rw [lt_def, m_isDay (hr1.1.1 0 (by omega)) (by omega), if_pos hx]
      simp only [b1]
      rw [if_neg (show ¬ (1 : Int32) = 0 by decide), g1]
      simp only []
      rw [g2]
      simp only [b2]
      rw [g3]
      simp only []
      rw [g4]
      simp only []
      rw [if_pos ((ib_nI (by omega)).mpr (by omega)), nI_cl (by omega), r84]
    exact ⟨_, _, _, e1, e2, V, hw, a3.far (frX10_rounds e2) rfl, g5⟩
  · have e1 : XX9_rounds x σ = some (-1, σ) := by
      unfold XX9_rounds
      rw [c_hasDay hc.1 d14, if_neg hx]
      rfl
    have e2 : XX10_rounds x σ = some (-1, up σ 64 0 0) := by
      unfold XX10_rounds
      rw [lt_def, m_isDay (hr.1.th.1 0 (by omega)) (by omega), if_neg hx]
      rfl
    exact ⟨_, _, _, e1, e2, V, h.look (fr_upf (a := 64) (i := 0)) rfl rfl⟩
/-! the rounds in their row -/
def hd (V : Vw) (cap : Nat) (ld : Nat → Nat) (q : Nat) : Nat := match PT V cap ld q with
  | some r => r.2.2
  | none => 0
def rstN (V : Vw) (cap : Nat) (ld : Nat → Nat) : Nat → Nat → Nat
  | 0, q => q
  | i + 1, q => rstN V cap ld i (q ^^^ hd V cap ld q)
theorem hd_step {V : Vw} (hw : WF V) {cap : Nat} {ld : Nat → Nat} {q : Nat} {r : PR} (hq : q < 2 ^ V 0 8) (h0 : q ≠ 0) (h : PT V cap ld q = some r) : hd V cap ld q = r.2.2 ∧ vp q r.2.2 = true ∧ r.2.2 < 64 ∧ ldS ld r.2.2 (V 0 8) ≤ cap ∧ ∃ r', PT V cap ld (q ^^^ r.2.2) = some r' ∧ r.2.1 = r'.2.1 + 1 := by
  have p6 := p64 hw.s6
  obtain ⟨p, p1, p2, p3, r', p4, p5⟩ := PT_mem (by omega) h0 h
  have e : hd V cap ld q = r.2.2 := by
    unfold hd
    rw [h]
  subst p5
  exact ⟨e, p2, by show p < 64; omega, p3, r', p4, rfl⟩
theorem vp_sub {q p : Nat} (h : vp q p = true) : p &&& q = p := by
  unfold vp at h
  rw [Bool.and_eq_true, decide_eq_true_eq] at h
  exact h.1
theorem cnt_zero {V : Vw} (hw : WF V) {cap : Nat} {ld : Nat → Nat} {q : Nat} {r : PR} (hq : q < 2 ^ V 0 8) (h : PT V cap ld q = some r) : r.2.1 = 0 ↔ q = 0 := by
  constructor
  · intro z
    by_cases q0 : q = 0
    · exact q0
    · have := (PT_bd hw q r hq h).2.2 q0
      omega
  · intro z
    subst z
    rw [PT_zero] at h
    cases h
    rfl
theorem and_lt2 {q all n : Nat} (h : q &&& all = q) (ha : all < 2 ^ n) : q < 2 ^ n := by
  have : q ≤ all := by rw [← h]; exact Nat.and_le_right
  omega
theorem m_round_loop {V : Vw} (hw : WF V) {cap : Nat} {ld : Nat → Nat} {all k : Nat} {σ : Sg} (hk : k < 2147483648) (hall : all < 2 ^ V 0 8) (hq : ∀ q, q ≤ all → q &&& all = q → cPM V cap ld q σ) (K : Int32 → Option (Int32 × Sg)) : ∀ m q i n r, q &&& all = q → PT V cap ld q = some r → r.2.1 = m → m < n → i + m ≤ 100 → LX10_roundOf_38 (nI k) σ K n (nI q) (nI i) = K (nI (rstN V cap ld (min (k - i) m) q)) := by
  have p6 := p64 hw.s6
  intro m
  induction m with
  | zero =>
    intro q i n r h1 h2 h3 h4 h5
    obtain ⟨n, rfl⟩ : ∃ q, n = q + 1 := ⟨n - 1, by omega⟩
    have q0 := (cnt_zero hw (and_lt2 h1 hall) h2).mp h3
    rw [LX10_roundOf_38, Nat.min_zero]
    show _ = K (nI q)
    by_cases z : k ≤ i
    · rw [if_pos (by rw [nI_lei] <;> omega)]
    · rw [if_neg (by rw [nI_lei] <;> omega), q0, if_pos (show nI 0 = 0 from rfl)]
  | succ m ih =>
    intro q i n r h1 h2 h3 h4 h5
    obtain ⟨n, rfl⟩ : ∃ q, n = q + 1 := ⟨n - 1, by omega⟩
    have ql := and_lt2 h1 hall
    have q0 : q ≠ 0 := fun z => by
      have := (cnt_zero hw ql h2).mpr z
      omega
    have qa : q ≤ all := by rw [← h1]; exact Nat.and_le_right
    obtain ⟨a1, a2, a3, a4, r', a5, a6⟩ := hd_step hw ql q0 h2
    have vf := vp_facts q (by omega) r.2.2 a3 a2
    have s85 : σ 85 q = nI r.2.2 := by
      have := hq q qa h1
      unfold cPM at this
      rw [if_neg q0, h2] at this
      exact this.2.2
    rw [LX10_roundOf_38]
    by_cases z : k ≤ i
    · rw [if_pos (by rw [nI_lei] <;> omega), show k - i = 0 by omega, Nat.zero_min]
      rfl
    · rw [if_neg (by rw [nI_lei] <;> omega), if_neg (nI_n0 q0 (by omega)), if_pos ((ib_nI (by omega)).mpr (by omega)), nI_cl (by omega), s85, sb_diff q (by omega) _ a3 (vp_sub a2), lt_def, lt_def, nI_1]
      have ee : min (k - i) (m + 1) = min (k - (i + 1)) m + 1 := by omega
      rw [ee]
      show _ = K (nI (rstN V cap ld (min (k - (i + 1)) m) (q ^^^ hd V cap ld q)))
      rw [a1]
      exact ih (q ^^^ r.2.2) (i + 1) n r' (sub_tr vf.2.1 h1) a5 (by omega) (by omega) (by omega)
theorem c_round_loop {V : Vw} (hw : WF V) {cap : Nat} {ld : Nat → Nat} {all k : Nat} {σ : Sg} (hk : k < 2147483648) (hall : all < 2 ^ V 0 8) (hq : ∀ q, q < all + 1 → q &&& all = q → cPC V cap ld q σ) (K : Int32 → Option Int32) : ∀ m q i n r, q &&& all = q → PT V cap ld q = some r → k = i + m → m < r.2.1 → i + r.2.1 ≤ 6 → m < n → LX2_setAt_7 (nI k) σ K n (nI q) (nI i) = K (nI (rstN V cap ld m q)) := by
  have p6 := p64 hw.s6
  intro m
  induction m with
  | zero =>
    intro q i n r h1 h2 h3 h4 h5 h6
    obtain ⟨n, rfl⟩ : ∃ q, n = q + 1 := ⟨n - 1, by omega⟩
    rw [LX2_setAt_7, if_pos (by rw [nI_lei] <;> omega)]
    rfl
  | succ m ih =>
    intro q i n r h1 h2 h3 h4 h5 h6
    obtain ⟨n, rfl⟩ : ∃ q, n = q + 1 := ⟨n - 1, by omega⟩
    have ql := and_lt2 h1 hall
    have q0 : q ≠ 0 := fun z => by
      have := (cnt_zero hw ql h2).mpr z
      omega
    have qa : q ≤ all := by rw [← h1]; exact Nat.and_le_right
    obtain ⟨a1, a2, a3, a4, r', a5, a6⟩ := hd_step hw ql q0 h2
    have vf := vp_facts q (by omega) r.2.2 a3 a2
    have s34 : σ 34 q = nI r.2.2 := by
      obtain ⟨-, r2, z1, -, -, z2⟩ := hq q (by omega) h1
      rw [h2] at z1
      cases z1
      exact z2 q0
    rw [LX2_setAt_7, if_neg (by rw [nI_lei] <;> omega), show (6 : Int32) = nI 6 from rfl, if_neg (by rw [nI_lei] <;> omega), if_pos ((ib_nI (by omega)).mpr (by omega)), nI_cl (by omega), s34, sb_diff q (by omega) _ a3 (vp_sub a2), lt_def, lt_def, nI_1]
    show _ = K (nI (rstN V cap ld m (q ^^^ hd V cap ld q)))
    rw [a1]
    exact ih (q ^^^ r.2.2) (i + 1) n r' (sub_tr vf.2.1 h1) a5 (by omega) (by omega) (by omega) (by omega)
theorem rst_ok {V : Vw} (hw : WF V) {cap : Nat} {ld : Nat → Nat} {all : Nat} (hall : all < 2 ^ V 0 8) : ∀ i q r, q &&& all = q → PT V cap ld q = some r → i ≤ r.2.1 → ∃ r', PT V cap ld (rstN V cap ld i q) = some r' ∧ r'.2.1 + i = r.2.1 ∧ rstN V cap ld i q &&& all = rstN V cap ld i q := by
  have p6 := p64 hw.s6
  intro i
  induction i with
  | zero =>
    intro q r h1 h2 h3
    exact ⟨r, h2, rfl, h1⟩
  | succ i ih =>
    intro q r h1 h2 h3
    have ql := and_lt2 h1 hall
    have q0 : q ≠ 0 := fun z => by
      have := (cnt_zero hw ql h2).mpr z
      omega
    obtain ⟨a1, a2, a3, a4, r', a5, a6⟩ := hd_step hw ql q0 h2
    have vf := vp_facts q (by omega) r.2.2 a3 a2
    obtain ⟨r2, b1', b2', b3'⟩ := ih (q ^^^ r.2.2) r' (sub_tr vf.2.1 h1) a5 (by omega)
    have e : rstN V cap ld (i + 1) q = rstN V cap ld i (q ^^^ r.2.2) := by
      show rstN V cap ld i (q ^^^ hd V cap ld q) = _
      rw [a1]
    rw [e]
    exact ⟨r2, b1', by omega, b3'⟩
/-- the shops of a round of a day -/
def rdS (V : Vw) (x y : Int32) : Nat := if ib x (V 0 0) ∧ 0 ≤ y then (match dpV V (V 0 3) (lda V x.toNatClampNeg) with
  | some r => if y.toNatClampNeg < r.2.1 then hd V (V 0 3) (lda V x.toNatClampNeg) (rstN V (V 0 3) (lda V x.toNatClampNeg) y.toNatClampNeg (alD V x.toNatClampNeg)) else 0
  | none => 0) else 0
def rdH (V : Vw) (d k : Nat) : Nat := hd V (V 0 3) (lda V d) (rstN V (V 0 3) (lda V d) k (alD V d))
theorem rd_pick {V : Vw} (hw : WF V) {d k : Nat} {r : PR} (h : dpV V (V 0 3) (lda V d) = some r) (hk : k < r.2.1) : ∃ q p, rstN V (V 0 3) (lda V d) k (alD V d) = q ∧ hd V (V 0 3) (lda V d) q = p ∧ q &&& alD V d = q ∧ q ≤ alD V d ∧ q ≠ 0 ∧ q < 64 ∧ p ≠ 0 ∧ p ≤ alD V d ∧ p &&& alD V d = p ∧ p < 2 ^ V 0 8 ∧ ∃ r', PT V (V 0 3) (lda V d) q = some r' ∧ r'.2.2 = p := by
  have p6 := p64 hw.s6
  have al : alD V d < 2 ^ V 0 8 := allS_lt _ _
  obtain ⟨r', a1, a2, a3⟩ := rst_ok hw al k (alD V d) r (Nat.and_self _) h (by omega)
  have ql := and_lt2 a3 al
  have q0 : rstN V (V 0 3) (lda V d) k (alD V d) ≠ 0 := fun z => by
    have := (cnt_zero hw ql a1).mpr z
    omega
  obtain ⟨b1', b2', b3', -, -⟩ := hd_step hw ql q0 a1
  have vf := vp_facts _ (show rstN V (V 0 3) (lda V d) k (alD V d) < 64 by omega) r'.2.2 b3' b2'
  have ps := sub_tr (vp_sub b2') a3
  have qa : rstN V (V 0 3) (lda V d) k (alD V d) ≤ alD V d := by rw [← a3]; exact Nat.and_le_right
  refine ⟨_, _, rfl, rfl, a3, qa, q0, by omega, ?_⟩
  rw [b1']
  exact ⟨vf.1.1, by rw [← ps]; exact Nat.and_le_right, ps, and_lt2 ps al, r', a1, rfl⟩
theorem c_roundSet {V : Vw} {σ : Sg} (hw : WF V) (hc : CI V σ) (x y : Int32) : ∃ τ, XX9_roundSet x y σ = some (nI (rdS V x y), τ) ∧ CI V τ ∧ (rdS V x y ≠ 0 → rdS V x y < 2 ^ V 0 8 ∧ τ 31 (rdS V x y) = nI (ldS (lda V x.toNatClampNeg) (rdS V x y) (V 0 8)) ∧ (∀ s, s < V 0 8 → τ 63 s = nI (lda V x.toNatClampNeg s))) := by
  have d14 := hw.d14
  have p6 := p64 hw.s6
  by_cases hx : ib x (V 0 0)
  · by_cases hy : 0 ≤ y
    · obtain ⟨d, hd', rfl⟩ := ib_of hx (by omega)
      have hy' : ¬ y < 0 := fun q => by
        have h1 := Int32.lt_iff_toInt_lt.mp q
        have h2 := Int32.le_iff_toInt_le.mp hy
        omega
      obtain ⟨k, hk, rfl⟩ := nI_of hy'
      have al : alD V d < 2 ^ V 0 8 := allS_lt _ _
      obtain ⟨σ1, r, a0, a1, a2, a3, a4⟩ := c_partDay hw hc hd'
      have ev : rdS V (nI d) (nI k) = if k < r.2.1 then rdH V d k else 0 := by
        unfold rdS
        rw [if_pos ⟨hx, hy⟩, nI_cl (by omega), nI_cl (by omega), a0]
        rfl
      have r6 : r.2.1 ≤ 6 := (dp_bd hw a0).2
      rw [ev]
      by_cases z : k < r.2.1
      · rw [if_pos z]
        obtain ⟨q, p, c1, c2, c3, c4, c5, c6, c7, c8, c9, c10, r', c11, c12⟩ := rd_pick hw a0 z
        have em : rdH V d k = p := by
          unfold rdH
          rw [c1, c2]
        rw [em]
        have s34 : σ1 34 q = nI p := by
          obtain ⟨-, r2, z1, -, -, z2⟩ := a2.2.2.2 q (by omega) c3
          rw [c11] at z1
          cases z1
          rw [z2 c5, c12]
        have st : XX2_setAt (nI k) σ1 = some (nI p) := by
          unfold XX2_setAt
          rw [lt_def, lt_def, a2.1]
          refine Eq.trans (c_round_loop hw hk al a2.2.2.2 _ k (alD V d) 0 FUEL r (Nat.and_self _) a0 (by omega) z (by omega) (by unfold FUEL; omega)) ?_
          rw [c1, if_pos ((ib_nI (by omega)).mpr (by omega)), nI_cl (by omega), s34]
        refine ⟨σ1, ?_, a3, fun _ => ⟨c10, by rw [nI_cl (by omega)]; exact (a2.2.2.2 p (by omega) c9).1, ?_⟩⟩
        · unfold XX9_roundSet
          rw [c_hasDay hc.1 d14, if_pos hx]
          simp only [b1]
          rw [if_neg (show ¬ (1 : Int32) = 0 by decide), if_neg hy', a1]
          simp only [b2]
          rw [if_pos (by rw [nI_lti] <;> omega), st]
        · rw [nI_cl (by omega)]
          exact a4
      · rw [if_neg z]
        refine ⟨σ1, ?_, a3, fun q => absurd rfl q⟩
        unfold XX9_roundSet
        rw [c_hasDay hc.1 d14, if_pos hx]
        simp only [b1]
        rw [if_neg (show ¬ (1 : Int32) = 0 by decide), if_neg hy', a1]
        simp only [b2]
        rw [if_neg (by rw [nI_lti] <;> omega)]
        rfl
    · have ev : rdS V x y = 0 := if_neg (fun q => hy q.2)
      rw [ev]
      refine ⟨σ, ?_, hc, fun q => absurd rfl q⟩
      unfold XX9_roundSet
      rw [c_hasDay hc.1 d14, if_pos hx]
      simp only [b1]
      rw [if_neg (show ¬ (1 : Int32) = 0 by decide), if_pos (nle_lt hy)]
      rfl
  · have ev : rdS V x y = 0 := if_neg (fun q => hx q.1)
    rw [ev]
    refine ⟨σ, ?_, hc, fun q => absurd rfl q⟩
    unfold XX9_roundSet
    rw [c_hasDay hc.1 d14, if_neg hx]
    rfl
theorem m_roundOf {V : Vw} {σ : Sg} (hw : WF V) (hr : RA V σ) (x y : Int32) : ∃ τ, XX10_roundOf x y σ = some (nI (rdS V x y), τ) ∧ RA V τ ∧ (rdS V x y ≠ 0 → LDM V (lda V x.toNatClampNeg) τ) := by
  have d14 := hw.d14
  have p6 := p64 hw.s6
  by_cases hx : ib x (V 0 0)
  · by_cases hy : 0 ≤ y
    · obtain ⟨d, hd', rfl⟩ := ib_of hx (by omega)
      have hy' : ¬ y < 0 := fun q => by
        have h1 := Int32.lt_iff_toInt_lt.mp q
        have h2 := Int32.le_iff_toInt_le.mp hy
        omega
      obtain ⟨k, hk, rfl⟩ := nI_of hy'
      have al : alD V d < 2 ^ V 0 8 := allS_lt _ _
      obtain ⟨τ1, τ2, τ, g1, g2, g3, g4, g5, g6, g7⟩ := m_partDay hw hr hd'
      obtain ⟨r, a0⟩ : ∃ r, dpV V (V 0 3) (lda V d) = some r := dp_ex hw (fun s hs => lda_le hw hs)
      have ev : rdS V (nI d) (nI k) = if k < r.2.1 then rdH V d k else 0 := by
        unfold rdS
        rw [if_pos ⟨hx, hy⟩, nI_cl (by omega), nI_cl (by omega), a0]
        rfl
      refine ⟨τ, ?_, g5, fun _ => by rw [nI_cl (by omega)]; exact g6⟩
      rw [ev]
      unfold XX10_roundOf
      rw [m_isDay (hr.1.1 0 (by omega)) (by omega), if_pos hx]
      simp only [b1]
      rw [if_neg (show ¬ (1 : Int32) = 0 by decide), if_pos hy, g1]
      simp only []
      rw [g2]
      simp only [b2]
      rw [g3]
      simp only []
      rw [g4]
      simp only []
      rw [lt_def]
      have r6 : r.2.1 ≤ 6 := (dp_bd hw a0).2
      refine Eq.trans (m_round_loop hw hk al g7 _ r.2.1 (alD V d) 0 FUEL r (Nat.and_self _) a0 rfl (by unfold FUEL; omega) (by omega)) ?_
      rw [Nat.sub_zero]
      by_cases z : k < r.2.1
      · rw [if_pos z, show min k r.2.1 = k by omega]
        obtain ⟨q, p, c1, c2, c3, c4, c5, c6, c7, c8, c9, c10, r', c11, c12⟩ := rd_pick hw a0 z
        have em : rdH V d k = p := by
          unfold rdH
          rw [c1, c2]
        have s85 : τ 85 q = nI p := by
          have := g7 q c4 c3
          unfold cPM at this
          rw [if_neg c5, c11] at this
          rw [this.2.2, c12]
        rw [em, c1, if_neg (nI_n0 c5 (by omega)), if_pos ((ib_nI (by omega)).mpr (by omega)), nI_cl (by omega), s85]
      · rw [if_neg z, show min k r.2.1 = r.2.1 by omega]
        obtain ⟨r', b1', b2', b3'⟩ := rst_ok hw al r.2.1 (alD V d) r (Nat.and_self _) a0 (Nat.le_refl _)
        have := (cnt_zero hw (and_lt2 b3' al) b1').mp (by omega)
        rw [this, if_pos (show nI 0 = 0 from rfl)]
        rfl
    · have ev : rdS V x y = 0 := if_neg (fun q => hy q.2)
      rw [ev]
      refine ⟨σ, ?_, hr, fun q => absurd rfl q⟩
      unfold XX10_roundOf
      rw [m_isDay (hr.1.1 0 (by omega)) (by omega), if_pos hx]
      simp only [b1]
      rw [if_neg (show ¬ (1 : Int32) = 0 by decide), if_neg hy]
      rfl
  · have ev : rdS V x y = 0 := if_neg (fun q => hx q.1)
    rw [ev]
    refine ⟨σ, ?_, hr, fun q => absurd rfl q⟩
    unfold XX10_roundOf
    rw [m_isDay (hr.1.1 0 (by omega)) (by omega), if_neg hx]
    rfl
