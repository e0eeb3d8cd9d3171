/-! ACTS: better, tune -/
def itN (G : FN → Option FN) : Nat → FN → Nat × FN
  | 0, f => (0, f)
  | n + 1, f => match G f with
    | none => (0, f)
    | some g => ((itN G n g).1 + 1, (itN G n g).2)
theorem itN_none {G : FN → Option FN} {n : Nat} {f : FN} (h : G f = none) : itN G (n + 1) f = (0, f) := by
  show (match G f with | none => (0, f) | some g => ((itN G n g).1 + 1, (itN G n g).2)) = _
  rw [h]
theorem itN_some {G : FN → Option FN} {n : Nat} {f g : FN} (h : G f = some g) : itN G (n + 1) f = ((itN G n g).1 + 1, (itN G n g).2) := by
  show (match G f with | none => (0, f) | some g => ((itN G n g).1 + 1, (itN G n g).2)) = _
  rw [h]
theorem itN_le {G : FN → Option FN} : ∀ n f, (itN G n f).1 ≤ n
  | 0, _ => Nat.le_refl _
  | n + 1, f => by
    cases h : G f with
    | none =>
      rw [itN_none h]
      exact Nat.zero_le _
    | some g =>
      rw [itN_some h]
      have := itN_le (G := G) n g
      show (itN G n g).1 + 1 ≤ n + 1
      omega
theorem Cc_ac (V : Vw) (g : Nat → Nat) (n : Nat) : Cc (acV V g n) = Cc V := by
  funext f
  unfold Cc cosT rcT
  rw [cd_sw (ac_sw V g n)]
  rfl
theorem mw_save (K : Sg → Option (Int32 × Sg)) : ∀ m s n σ, s + m = 6 → m < n → ∃ τ, LX10_wouldChange_2 K n (nI s) σ = K τ ∧ (∀ t, s ≤ t → t < 6 → τ 90 t = σ 78 t) ∧ (∀ t, t < s → τ 90 t = σ 90 t) ∧ fr [(90, none)] σ τ := by
  intro m
  induction m with
  | zero =>
    intro s n σ hs hn
    obtain ⟨n, rfl⟩ : ∃ q, n = q + 1 := ⟨n - 1, by omega⟩
    refine ⟨σ, ?_, fun t h1 h2 => absurd h2 (by omega), fun t _ => rfl, fr.rf⟩
    rw [LX10_wouldChange_2, show (6 : Int32) = nI 6 from rfl, if_pos (by rw [nI_lei] <;> omega)]
  | succ m ih =>
    intro s n σ hs hn
    obtain ⟨n, rfl⟩ : ∃ q, n = q + 1 := ⟨n - 1, by omega⟩
    have f1 : fr [(90, none)] σ (up σ 90 s (σ 78 s)) := fr_up
    obtain ⟨τ, k1, k2, k3, k4⟩ := ih (s + 1) n (up σ 90 s (σ 78 s)) (by omega) (by omega)
    refine ⟨τ, ?_, fun t h1 h2 => ?_, fun t h1 => ?_, f1.tr k4⟩
    · rw [LX10_wouldChange_2, show (6 : Int32) = nI 6 from rfl, if_neg (by rw [nI_lei] <;> omega), if_pos ((ib_nI (by omega)).mpr (by omega)), nI_cl (by omega), lt_def, lt_def, nI_1]
      exact k1
    · by_cases q : t = s
      · rw [q, k3 s (by omega), up_same]
      · rw [k2 t (by omega) h2, up_cell (by omega)]
    · rw [k3 t (by omega), up_slot (by omega)]
theorem mw_back {r : Int32} (hr : r = 0 ∨ r = 1) : ∀ m s n σ, s + m = 6 → m < n → ∃ τ, LX10_wouldChange_58 r n (nI s) σ = some (r, τ) ∧ (∀ t, s ≤ t → t < 6 → τ 78 t = σ 90 t) ∧ (∀ t, t < s → τ 78 t = σ 78 t) ∧ fr [(78, none)] σ τ := by
  intro m
  induction m with
  | zero =>
    intro s n σ hs hn
    obtain ⟨n, rfl⟩ : ∃ q, n = q + 1 := ⟨n - 1, by omega⟩
    refine ⟨σ, ?_, fun t h1 h2 => absurd h2 (by omega), fun t _ => rfl, fr.rf⟩
    rw [LX10_wouldChange_58, show (6 : Int32) = nI 6 from rfl, if_pos (by rw [nI_lei] <;> omega), if_pos hr]
  | succ m ih =>
    intro s n σ hs hn
    obtain ⟨n, rfl⟩ : ∃ q, n = q + 1 := ⟨n - 1, by omega⟩
    have f1 : fr [(78, none)] σ (up σ 78 s (σ 90 s)) := fr_up
    obtain ⟨τ, k1, k2, k3, k4⟩ := ih (s + 1) n (up σ 78 s (σ 90 s)) (by omega) (by omega)
    refine ⟨τ, ?_, fun t h1 h2 => ?_, fun t h1 => ?_, f1.tr k4⟩
    · rw [LX10_wouldChange_58, show (6 : Int32) = nI 6 from rfl, if_neg (by rw [nI_lei] <;> omega), if_pos ((ib_nI (by omega)).mpr (by omega)), nI_cl (by omega), lt_def, lt_def, nI_1]
      exact k1
    · by_cases q : t = s
      · rw [q, k3 s (by omega), up_same]
      · rw [k2 t (by omega) h2, up_cell (by omega)]
    · rw [k3 t (by omega), up_slot (by omega)]
theorem rsI_01 (R : Option FN) : rsI R = 0 ∨ rsI R = 1 := by
  cases R with
  | none => exact Or.inl rfl
  | some g => exact Or.inr rfl
theorem c_adopt {V : Vw} (hw : WF V) {g : FN} (hg : vOK V g) {c : Nat} (hc : 0 < c) (hc4 : c ≤ 40) {σ : Sg} (hσ : CS V g σ) : ∃ τ, XX9_adoptTrial (nI c) σ = some τ ∧ CI (vsV (kpV V) g) τ := by
  obtain ⟨σ1, a1, a2⟩ := c_keep hw hσ.1
  have F1 := frX9_keepAct a1
  have ep : prV (kpV V) = prV V := prV_sw (ac_sw _ _ _) rfl
  have rn : RN (kpV V) (prV (kpV V)) 46 g (aq (kpV V)) σ1 := by
    rw [ep]
    exact hσ.2.frm F1 rfl
  obtain ⟨σ2, b1', b2', b3'⟩ := c_takeOver (V := kpV V) (prV_C (kpV V)) (k := 38) (j := 46) (by omega) hw.s6 hw.d14 rn
  refine ⟨σ2, ?_, a2.vis b3' rfl b2' (a2.2.2.2.1.off b3' (fun k k1 k2 => by simp; omega))⟩
  unfold XX9_adoptTrial
  rw [if_neg (nI_nle (by omega) (by omega)), a1, b1s, b1', b1s]
/-! better -/
abbrev Gmv (V : Vw) : FN → Option FN := mvF (Cc V) (V 0 0) (V 0 8)
theorem c_mv1 {V : Vw} (hw : WF V) {f : FN} (hf : vOK V f) {σ : Sg} (hσ : CS V f σ) : ∃ τ, XX3_moveOne σ = some (rsI (Gmv V f), τ) ∧ CS V (rsF (Gmv V f) f) τ ∧ vOK V (rsF (Gmv V f) f) := by
  have s6 := hw.s6
  obtain ⟨σ1, a1, a2, a3, a4⟩ := c_wholeCost hw (k := 46) (by omega) hσ.1.1 hσ.1.2.2.2.1 hσ.2
  have a1' : XX5_wholeCost 46 σ = some (nI (Cc V f), σ1) := a1
  obtain ⟨τ, k1, k2, k3⟩ := cv_out hw hf (Cc_lt hw f) (V 0 8) 0 FUEL σ1 (by omega) (by unfold FUEL; omega) ⟨hσ.1.off a4 rfl (hσ.1.2.1.frm a4 rfl) a3, a2⟩
  refine ⟨τ, ?_, k2, k3⟩
  unfold XX3_moveOne
  rw [a1', b2s]
  exact k1
theorem m_mv1 {V : Vw} (hw : WF V) {f : FN} (hf : vOK V f) {σ : Sg} (hσ : MS V f σ) : ∃ τ, XX10_moves (nI (Cc V f)) σ = some (rsI (Gmv V f), τ) ∧ MS V (rsF (Gmv V f) f) τ ∧ vOK V (rsF (Gmv V f) f) := by
  have s6 := hw.s6
  exact mv_out hw hf (Cc_lt hw f) (V 0 8) 0 FUEL σ (by omega) (by unfold FUEL; omega) hσ
theorem c_mvn {V : Vw} (hw : WF V) {N : Nat} (hN : N ≤ 40) (K : Int32 → Sg → Option (Int32 × Sg)) : ∀ m i n σ f, i + m = N → m < n → vOK V f → CS V f σ → ∃ τ, LX9_better_26 (nI N) K n (nI i) σ = K (nI (i + (itN (Gmv V) m f).1)) τ ∧ CS V (itN (Gmv V) m f).2 τ ∧ vOK V (itN (Gmv V) m f).2 := by
  intro m
  induction m with
  | zero =>
    intro i n σ f hi hn hf hσ
    obtain ⟨n, rfl⟩ : ∃ q, n = q + 1 := ⟨n - 1, by omega⟩
    refine ⟨σ, ?_, hσ, hf⟩
    rw [LX9_better_26, if_pos (by rw [nI_lei] <;> omega)]
    rfl
  | succ m ih =>
    intro i n σ f hi hn hf hσ
    obtain ⟨n, rfl⟩ : ∃ q, n = q + 1 := ⟨n - 1, by omega⟩
    obtain ⟨σ1, a1, a2, a3⟩ := c_mv1 hw hf hσ
    rw [LX9_better_26, if_neg (by rw [nI_lei] <;> omega), a1, b2s]
    cases hR : Gmv V f with
    | none =>
      rw [hR] at a2
      rw [itN_none hR, show rsI none = 0 from rfl, if_pos rfl]
      exact ⟨σ1, rfl, a2, hf⟩
    | some g =>
      rw [hR] at a2 a3
      obtain ⟨τ, k1, k2, k3⟩ := ih (i + 1) n σ1 g (by omega) (by omega) a3 a2
      rw [itN_some hR, show rsI (some g) = 1 from rfl, if_neg (show ¬ (1 : Int32) = 0 by decide), lt_def, nI_1]
      refine ⟨τ, ?_, k2, k3⟩
      rw [k1, show i + 1 + (itN (Gmv V) m g).1 = i + ((itN (Gmv V) m g).1 + 1) by omega]
theorem m_mvn {V : Vw} (hw : WF V) {N : Nat} (hN : N ≤ 40) : ∀ m i n σ f, i + m = N → m + 1 < n → vOK V f → MS V f σ → ∃ τ, LX10_betters_27 (nI N) (1 : Int32) n (nI i) 1 σ = some (nI (i + (itN (Gmv V) m f).1), τ) ∧ MS V (itN (Gmv V) m f).2 τ := by
  intro m
  induction m with
  | zero =>
    intro i n σ f hi hn hf hσ
    obtain ⟨n, rfl⟩ : ∃ q, n = q + 1 := ⟨n - 1, by omega⟩
    refine ⟨σ, ?_, hσ⟩
    rw [LX10_betters_27, if_neg (show ¬ (1 : Int32) = 0 by decide), if_pos (by rw [nI_lei] <;> omega)]
    rfl
  | succ m ih =>
    intro i n σ f hi hn hf hσ
    obtain ⟨n, rfl⟩ : ∃ q, n = q + 1 := ⟨n - 1, by omega⟩
    obtain ⟨σ0, c1, c2⟩ := m_cost hw hf hσ
    obtain ⟨σ1, a1, a2, a3⟩ := m_mv1 hw hf c2
    rw [LX10_betters_27, if_neg (show ¬ (1 : Int32) = 0 by decide), if_neg (by rw [nI_lei] <;> omega), c1, b2s, lt_def, if_neg (show ¬ (1 : Int32) = 0 by decide), a1, b2s]
    simp only [lt]
    cases hR : Gmv V f with
    | none =>
      rw [hR] at a2
      obtain ⟨n, rfl⟩ : ∃ q, n = q + 1 := ⟨n - 1, by omega⟩
      rw [itN_none hR, show rsI none = 0 from rfl, if_pos rfl, LX10_betters_27, if_pos rfl, show (0 : Int32) = nI 0 from rfl, nI_add]
      exact ⟨σ1, rfl, a2⟩
    | some g =>
      rw [hR] at a2 a3
      obtain ⟨τ, k1, k2⟩ := ih (i + 1) n σ1 g (by omega) (by omega) a3 a2
      rw [itN_some hR, show rsI (some g) = 1 from rfl, if_neg (show ¬ (1 : Int32) = 0 by decide), nI_1]
      refine ⟨τ, ?_, k2⟩
      rw [k1, show i + 1 + (itN (Gmv V) m g).1 = i + ((itN (Gmv V) m g).1 + 1) by omega]
theorem m_mvw {V : Vw} (hw : WF V) {σ : Sg} (hr : RA V σ) : ∃ τ, XX10_wouldChange (1 : Int32) σ = some (rsI (Gmv V (V 5)), τ) ∧ RA V τ := by
  have ok : vOK V (V 5) := hw.v5
  obtain ⟨σ1, a1, a2, -, a4⟩ := mw_save (fun (σ_1 : Sg) => b1 (XX10_layAsked (100 : Int32) σ_1) (fun (σ_3 : Sg) => b2 (XX10_costNow σ_3) (fun (r_4 : Int32) (σ_5 : Sg) => lt (fun (s_6 : Int32) (σ_7 : Sg) => LX10_wouldChange_58 s_6 FUEL (0 : Int32) σ_7) (fun (k54_8 : Int32 → Sg → Option (Int32 × Sg)) => if (1 : Int32) = (0 : Int32) then (b2 (XX10_tunes r_4 σ_5) (fun (r_15 : Int32) (σ_16 : Sg) => k54_8 r_15 σ_16)) else (b2 (XX10_moves r_4 σ_5) (fun (r_17 : Int32) (σ_18 : Sg) => k54_8 r_17 σ_18)))))) 6 0 FUEL σ (by omega) (by unfold FUEL; omega)
  have hr1 : RA V σ1 := hr.off a4 rfl
  have h90 : ∀ t, t < 6 → σ1 90 t = nI (V 5 t) := fun t ht => by
    rw [a2 t (by omega) ht]
    exact hr.1.2.2.1 t ht
  obtain ⟨σ2, g1, g2, g3⟩ := m_layAsked hw hr1.1 (pct := 100) (by omega)
  rw [ask100] at g3
  have F2 := frX10_layAsked g1
  have ms2 : MS V (V 5) σ2 := ⟨by rw [vs_self]; exact hr1.off F2 rfl, g3⟩
  obtain ⟨σ3, c1, c2⟩ := m_cost hw ok ms2
  have F3 := frX10_costNow c1
  obtain ⟨σ4, d1, d2, d3⟩ := m_mv1 hw ok c2
  have F4 := frX10_moves d1
  have i90 : ∀ t, t < 6 → σ4 90 t = nI (V 5 t) := fun t ht => by
    have q4 : σ4 90 = σ3 90 := F4.cell (k := 90) rfl
    have q3 : σ3 90 = σ2 90 := F3.cell (k := 90) rfl
    have q2 : σ2 90 = σ1 90 := F2.cell (k := 90) rfl
    rw [q4, q3, q2]
    exact h90 t ht
  obtain ⟨τ, k1, k2, -, k4⟩ := mw_back (rsI_01 (Gmv V (V 5))) 6 0 FUEL σ4 (by omega) (by unfold FUEL; omega)
  have hv := d2.1.vis k4 (f := V 5) (fun t ht => by
    rw [k2 t (by omega) ht]
    exact i90 t ht)
  rw [vs_vs, vs_self] at hv
  refine ⟨τ, ?_, hv⟩
  unfold XX10_wouldChange
  rw [lt_def]
  refine Eq.trans a1 ?_
  rw [show (100 : Int32) = nI 100 from rfl, g1, b1s, c1, b2s, lt_def, if_neg (show ¬ (1 : Int32) = 0 by decide), d1, b2s]
  exact k1
theorem op_better {V : Vw} {σ : Sg} (h : Inv V σ) (x : Int32) : stOK (XX9_better x σ) (XX10_better x) := by
  obtain ⟨hw, hc, hr⟩ := id h
  have rf : ∀ r, XX9_better x σ = some (r, σ) → XX10_better x σ = some (r, up σ 64 0 0) → stOK (XX9_better x σ) (XX10_better x) := fun r e1 e2 => ⟨_, _, _, e1, e2, V, h.look (fr_upf (a := 64) (i := 0)) rfl rfl⟩
  by_cases x1 : x < 1
  · refine rf (-1) ?_ ?_
    · unfold XX9_better
      rw [if_pos x1]
    · unfold XX10_better
      rw [lt_def, m_in, if_pos x1, b1s, lt_def, if_pos rfl]
      rfl
  by_cases x40 : 40 < x
  · refine rf (-1) ?_ ?_
    · unfold XX9_better
      rw [if_neg x1, if_neg (lt_irr x40)]
    · unfold XX10_better
      rw [lt_def, m_in, if_neg x1, if_pos x40, b1s, lt_def, if_pos rfl]
      rfl
  have x0 : ¬ x < 0 := fun q => x1 (by
    have h1 := Int32.lt_iff_toInt_lt.mp q
    have e0 : (0 : Int32).toInt = 0 := by decide
    have e1 : (1 : Int32).toInt = 1 := by decide
    exact Int32.lt_iff_toInt_lt.mpr (by omega))
  obtain ⟨N, hNl, rfl⟩ := nI_of x0
  have N1 : 1 ≤ N := n_nlt (b := 1) (by omega) (by omega) x1
  have N40 : N ≤ 40 := n_nlt (a := 40) (by omega) (by omega) x40
  have ok : vOK V (V 5) := hw.v5
  obtain ⟨σ1, a1, a2, a3⟩ := c_takeOver (prV_C V) (k := 46) (j := 38) (by omega) hw.s6 hw.d14 hc.2.1
  have hc1 : CI V σ1 := hc.off a3 rfl (hc.2.1.frm a3 rfl) (hc.2.2.2.1.off a3 (fun k k1 k2 => by simp; omega))
  obtain ⟨σ2, b1', b2', b3'⟩ := c_mvn hw N40 (fun (x2_2 : Int32) (σ_3 : Sg) => b1 (XX9_adoptTrial x2_2 σ_3) (fun (σ_5 : Sg) => some (x2_2, σ_5))) N 0 FUEL σ1 (V 5) (by omega) (by unfold FUEL; omega) ok ⟨hc1, a2⟩
  obtain ⟨M, rfl⟩ : ∃ M, N = M + 1 := ⟨N - 1, by omega⟩
  rw [Nat.zero_add] at b1'
  have e1' : XX9_better (nI (M + 1)) σ = b1 (XX9_adoptTrial (nI (itN (Gmv V) (M + 1) (V 5)).1) σ2) (fun (σ_5 : Sg) => some (nI (itN (Gmv V) (M + 1) (V 5)).1, σ_5)) := by
    unfold XX9_better
    rw [if_neg x1, if_pos (nlt_le x40), a1, b1s, lt_def]
    exact b1'
  cases hR : Gmv V (V 5) with
  | none =>
    rw [itN_none hR] at b2' e1'
    have e1 : XX9_better (nI (M + 1)) σ = some (nI 0, σ2) := by
      rw [e1']
      unfold XX9_adoptTrial
      rw [if_pos (show nI 0 ≤ 0 by decide), b1s]
    have F := frX9_better e1
    obtain ⟨τ, w1, w2⟩ := m_mvw hw ((hr.near F rfl).th)
    rw [hR] at w1
    have e2 : XX10_better (nI (M + 1)) σ2 = some (nI 0, τ) := by
      unfold XX10_better
      rw [lt_def, m_in, if_neg x1, if_neg x40, b1s, lt_def, if_neg (show ¬ (1 : Int32) = 0 by decide), w1, b2s, show rsI none = 0 from rfl, if_pos rfl]
      rfl
    exact ⟨_, _, _, e1, e2, V, hw, b2'.1.far (frX10_better e2) rfl, w2⟩
  | some g0 =>
    have c0 : 0 < (itN (Gmv V) (M + 1) (V 5)).1 := by
      rw [itN_some hR]
      show 0 < (itN (Gmv V) M g0).1 + 1
      omega
    have c40 : (itN (Gmv V) (M + 1) (V 5)).1 ≤ 40 := by
      have := itN_le (G := Gmv V) (M + 1) (V 5)
      omega
    obtain ⟨R, hRe⟩ : ∃ R, R = itN (Gmv V) (M + 1) (V 5) := ⟨_, rfl⟩
    rw [← hRe] at b2' b3' e1' c0 c40
    obtain ⟨σ3, d1, d2⟩ := c_adopt hw b3' c0 c40 b2'
    have e1 : XX9_better (nI (M + 1)) σ = some (nI R.1, σ3) := by rw [e1', d1, b1s]
    have F := frX9_better e1
    obtain ⟨τ, w1, w2⟩ := m_mvw hw ((hr.near F rfl).th)
    rw [hR] at w1
    obtain ⟨τ1, g1, g2, g3⟩ := m_layAsked hw w2.1 (pct := 100) (by omega)
    rw [ask100] at g3
    obtain ⟨τ2, k1, k2⟩ := m_keep hw (w2.off (frX10_layAsked g1) rfl)
    have F2 := frX10_keep k1
    have hw1 := hw.keep
    have ms : MS (kpV V) (kpV V 5) τ2 := ⟨by rw [vs_self]; exact k2, fun t e ht he => by rw [F2.cell (k := 79) rfl]; exact g3 t e ht he⟩
    obtain ⟨τ3, l1, l2⟩ := m_mvn hw1 N40 (M + 1) 0 FUEL τ2 (kpV V 5) (by omega) (by unfold FUEL; omega) hw1.v5 ms
    have eg : Gmv (kpV V) = Gmv V := by
      show mvF (Cc (kpV V)) (V 0 0) (V 0 8) = mvF (Cc V) (V 0 0) (V 0 8)
      rw [show Cc (kpV V) = Cc V from Cc_ac _ _ _]
    rw [eg, Nat.zero_add] at l1
    rw [eg] at l2
    have l1' : LX10_betters_27 (nI (M + 1)) (1 : Int32) FUEL (0 : Int32) 1 τ2 = some (nI (itN (Gmv V) (M + 1) (V 5)).1, τ3) := l1
    have l2' : MS (kpV V) (itN (Gmv V) (M + 1) (V 5)).2 τ3 := l2
    rw [← hRe] at l1' l2'
    have e2 : XX10_better (nI (M + 1)) σ3 = some (nI R.1, τ3) := by
      have bt : XX10_betters (nI (M + 1)) (1 : Int32) τ = some (nI R.1, τ3) := by
        unfold XX10_betters
        rw [m_in, if_neg x1, if_neg x40, b1s, if_neg (show ¬ (1 : Int32) = 0 by decide), show (100 : Int32) = nI 100 from rfl, g1, b1s, k1, b1s]
        exact l1'
      unfold XX10_better
      rw [lt_def, m_in, if_neg x1, if_neg x40, b1s, lt_def, if_neg (show ¬ (1 : Int32) = 0 by decide), w1, b2s, show rsI (some g0) = 1 from rfl, if_neg (show ¬ (1 : Int32) = 0 by decide), bt, b2s]
    have okR : vOK (kpV V) R.2 := b3'
    exact ⟨_, _, _, e1, e2, _, hw1.vis okR.1 okR.2, d2.far (frX10_better e2) rfl, l2'.1⟩
/-! tune -/
abbrev Gtn (V : Vw) : FN → Option FN := tnF (Cc V) (V 0 0) (V 0 8)
theorem c_tn1 {V : Vw} (hw : WF V) {f : FN} (hf : vOK V f) {σ : Sg} (hσ : CS V f σ) : ∃ τ, XX3_turnOne σ = some (rsI (Gtn V f), τ) ∧ CS V (rsF (Gtn V f) f) τ ∧ vOK V (rsF (Gtn V f) f) := by
  have s6 := hw.s6
  obtain ⟨σ1, a1, a2, a3, a4⟩ := c_wholeCost hw (k := 46) (by omega) hσ.1.1 hσ.1.2.2.2.1 hσ.2
  have a1' : XX5_wholeCost 46 σ = some (nI (Cc V f), σ1) := a1
  obtain ⟨τ, k1, k2, k3⟩ := ct_out hw hf (Cc_lt hw f) (V 0 8) 0 FUEL σ1 (by omega) (by unfold FUEL; omega) ⟨hσ.1.off a4 rfl (hσ.1.2.1.frm a4 rfl) a3, a2⟩
  refine ⟨τ, ?_, k2, k3⟩
  unfold XX3_turnOne
  rw [a1', b2s]
  exact k1
theorem m_tn1 {V : Vw} (hw : WF V) {f : FN} (hf : vOK V f) {σ : Sg} (hσ : MS V f σ) : ∃ τ, XX10_tunes (nI (Cc V f)) σ = some (rsI (Gtn V f), τ) ∧ MS V (rsF (Gtn V f) f) τ ∧ vOK V (rsF (Gtn V f) f) := by
  have s6 := hw.s6
  exact mt_out hw hf (Cc_lt hw f) (V 0 8) 0 FUEL σ (by omega) (by unfold FUEL; omega) hσ
theorem c_tnn {V : Vw} (hw : WF V) {N : Nat} (hN : N ≤ 40) (K : Int32 → Sg → Option (Int32 × Sg)) : ∀ m i n σ f, i + m = N → m < n → vOK V f → CS V f σ → ∃ τ, LX9_tune_26 (nI N) K n (nI i) σ = K (nI (i + (itN (Gtn V) m f).1)) τ ∧ CS V (itN (Gtn V) m f).2 τ ∧ vOK V (itN (Gtn V) m f).2 := by
  intro m
  induction m with
  | zero =>
    intro i n σ f hi hn hf hσ
    obtain ⟨n, rfl⟩ : ∃ q, n = q + 1 := ⟨n - 1, by omega⟩
    refine ⟨σ, ?_, hσ, hf⟩
    rw [LX9_tune_26, if_pos (by rw [nI_lei] <;> omega)]
    rfl
  | succ m ih =>
    intro i n σ f hi hn hf hσ
    obtain ⟨n, rfl⟩ : ∃ q, n = q + 1 := ⟨n - 1, by omega⟩
    obtain ⟨σ1, a1, a2, a3⟩ := c_tn1 hw hf hσ
    rw [LX9_tune_26, if_neg (by rw [nI_lei] <;> omega), a1, b2s]
    cases hR : Gtn V f with
    | none =>
      rw [hR] at a2
      rw [itN_none hR, show rsI none = 0 from rfl, if_pos rfl]
      exact ⟨σ1, rfl, a2, hf⟩
    | some g =>
      rw [hR] at a2 a3
      obtain ⟨τ, k1, k2, k3⟩ := ih (i + 1) n σ1 g (by omega) (by omega) a3 a2
      rw [itN_some hR, show rsI (some g) = 1 from rfl, if_neg (show ¬ (1 : Int32) = 0 by decide), lt_def, nI_1]
      refine ⟨τ, ?_, k2, k3⟩
      rw [k1, show i + 1 + (itN (Gtn V) m g).1 = i + ((itN (Gtn V) m g).1 + 1) by omega]
theorem m_tnn {V : Vw} (hw : WF V) {N : Nat} (hN : N ≤ 40) : ∀ m i n σ f, i + m = N → m + 1 < n → vOK V f → MS V f σ → ∃ τ, LX10_betters_27 (nI N) (0 : Int32) n (nI i) 1 σ = some (nI (i + (itN (Gtn V) m f).1), τ) ∧ MS V (itN (Gtn V) m f).2 τ := by
  intro m
  induction m with
  | zero =>
    intro i n σ f hi hn hf hσ
    obtain ⟨n, rfl⟩ : ∃ q, n = q + 1 := ⟨n - 1, by omega⟩
    refine ⟨σ, ?_, hσ⟩
    rw [LX10_betters_27, if_neg (show ¬ (1 : Int32) = 0 by decide), if_pos (by rw [nI_lei] <;> omega)]
    rfl
  | succ m ih =>
    intro i n σ f hi hn hf hσ
    obtain ⟨n, rfl⟩ : ∃ q, n = q + 1 := ⟨n - 1, by omega⟩
    obtain ⟨σ0, c1, c2⟩ := m_cost hw hf hσ
    obtain ⟨σ1, a1, a2, a3⟩ := m_tn1 hw hf c2
    rw [LX10_betters_27, if_neg (show ¬ (1 : Int32) = 0 by decide), if_neg (by rw [nI_lei] <;> omega), c1, b2s, lt_def, if_pos (show (0 : Int32) = 0 from rfl), a1, b2s]
    simp only [lt]
    cases hR : Gtn V f with
    | none =>
      rw [hR] at a2
      obtain ⟨n, rfl⟩ : ∃ q, n = q + 1 := ⟨n - 1, by omega⟩
      rw [itN_none hR, show rsI none = 0 from rfl, if_pos rfl, LX10_betters_27, if_pos rfl, show (0 : Int32) = nI 0 from rfl, nI_add]
      exact ⟨σ1, rfl, a2⟩
    | some g =>
      rw [hR] at a2 a3
      obtain ⟨τ, k1, k2⟩ := ih (i + 1) n σ1 g (by omega) (by omega) a3 a2
      rw [itN_some hR, show rsI (some g) = 1 from rfl, if_neg (show ¬ (1 : Int32) = 0 by decide), nI_1]
      refine ⟨τ, ?_, k2⟩
      rw [k1, show i + 1 + (itN (Gtn V) m g).1 = i + ((itN (Gtn V) m g).1 + 1) by omega]
theorem m_tnw {V : Vw} (hw : WF V) {σ : Sg} (hr : RA V σ) : ∃ τ, XX10_wouldChange (0 : Int32) σ = some (rsI (Gtn V (V 5)), τ) ∧ RA V τ := by
  have ok : vOK V (V 5) := hw.v5
  obtain ⟨σ1, a1, a2, -, a4⟩ := mw_save (fun (σ_1 : Sg) => b1 (XX10_layAsked (100 : Int32) σ_1) (fun (σ_3 : Sg) => b2 (XX10_costNow σ_3) (fun (r_4 : Int32) (σ_5 : Sg) => lt (fun (s_6 : Int32) (σ_7 : Sg) => LX10_wouldChange_58 s_6 FUEL (0 : Int32) σ_7) (fun (k54_8 : Int32 → Sg → Option (Int32 × Sg)) => if (0 : Int32) = (0 : Int32) then (b2 (XX10_tunes r_4 σ_5) (fun (r_15 : Int32) (σ_16 : Sg) => k54_8 r_15 σ_16)) else (b2 (XX10_moves r_4 σ_5) (fun (r_17 : Int32) (σ_18 : Sg) => k54_8 r_17 σ_18)))))) 6 0 FUEL σ (by omega) (by unfold FUEL; omega)
  have hr1 : RA V σ1 := hr.off a4 rfl
  have h90 : ∀ t, t < 6 → σ1 90 t = nI (V 5 t) := fun t ht => by
    rw [a2 t (by omega) ht]
    exact hr.1.2.2.1 t ht
  obtain ⟨σ2, g1, g2, g3⟩ := m_layAsked hw hr1.1 (pct := 100) (by omega)
  rw [ask100] at g3
  have F2 := frX10_layAsked g1
  have ms2 : MS V (V 5) σ2 := ⟨by rw [vs_self]; exact hr1.off F2 rfl, g3⟩
  obtain ⟨σ3, c1, c2⟩ := m_cost hw ok ms2
  have F3 := frX10_costNow c1
  obtain ⟨σ4, d1, d2, d3⟩ := m_tn1 hw ok c2
  have F4 := frX10_tunes d1
  have i90 : ∀ t, t < 6 → σ4 90 t = nI (V 5 t) := fun t ht => by
    have q4 : σ4 90 = σ3 90 := F4.cell (k := 90) rfl
    have q3 : σ3 90 = σ2 90 := F3.cell (k := 90) rfl
    have q2 : σ2 90 = σ1 90 := F2.cell (k := 90) rfl
    rw [q4, q3, q2]
    exact h90 t ht
  obtain ⟨τ, k1, k2, -, k4⟩ := mw_back (rsI_01 (Gtn V (V 5))) 6 0 FUEL σ4 (by omega) (by unfold FUEL; omega)
  have hv := d2.1.vis k4 (f := V 5) (fun t ht => by
    rw [k2 t (by omega) ht]
    exact i90 t ht)
  rw [vs_vs, vs_self] at hv
  refine ⟨τ, ?_, hv⟩
  unfold XX10_wouldChange
  rw [lt_def]
  refine Eq.trans a1 ?_
  rw [show (100 : Int32) = nI 100 from rfl, g1, b1s, c1, b2s, lt_def, if_pos (show (0 : Int32) = 0 from rfl), d1, b2s]
  exact k1
theorem op_tune {V : Vw} {σ : Sg} (h : Inv V σ) (x : Int32) : stOK (XX9_tune x σ) (XX10_tune x) := by
  obtain ⟨hw, hc, hr⟩ := id h
  have rf : ∀ r, XX9_tune x σ = some (r, σ) → XX10_tune x σ = some (r, up σ 64 0 0) → stOK (XX9_tune x σ) (XX10_tune x) := fun r e1 e2 => ⟨_, _, _, e1, e2, V, h.look (fr_upf (a := 64) (i := 0)) rfl rfl⟩
  by_cases x1 : x < 1
  · refine rf (-1) ?_ ?_
    · unfold XX9_tune
      rw [if_pos x1]
    · unfold XX10_tune
      rw [lt_def, m_in, if_pos x1, b1s, lt_def, if_pos rfl]
      rfl
  by_cases x40 : 40 < x
  · refine rf (-1) ?_ ?_
    · unfold XX9_tune
      rw [if_neg x1, if_neg (lt_irr x40)]
    · unfold XX10_tune
      rw [lt_def, m_in, if_neg x1, if_pos x40, b1s, lt_def, if_pos rfl]
      rfl
  have x0 : ¬ x < 0 := fun q => x1 (by
    have h1 := Int32.lt_iff_toInt_lt.mp q
    have e0 : (0 : Int32).toInt = 0 := by decide
    have e1 : (1 : Int32).toInt = 1 := by decide
    exact Int32.lt_iff_toInt_lt.mpr (by omega))
  obtain ⟨N, hNl, rfl⟩ := nI_of x0
  have N1 : 1 ≤ N := n_nlt (b := 1) (by omega) (by omega) x1
  have N40 : N ≤ 40 := n_nlt (a := 40) (by omega) (by omega) x40
  have ok : vOK V (V 5) := hw.v5
  obtain ⟨σ1, a1, a2, a3⟩ := c_takeOver (prV_C V) (k := 46) (j := 38) (by omega) hw.s6 hw.d14 hc.2.1
  have hc1 : CI V σ1 := hc.off a3 rfl (hc.2.1.frm a3 rfl) (hc.2.2.2.1.off a3 (fun k k1 k2 => by simp; omega))
  obtain ⟨σ2, b1', b2', b3'⟩ := c_tnn hw N40 (fun (x2_2 : Int32) (σ_3 : Sg) => b1 (XX9_adoptTrial x2_2 σ_3) (fun (σ_5 : Sg) => some (x2_2, σ_5))) N 0 FUEL σ1 (V 5) (by omega) (by unfold FUEL; omega) ok ⟨hc1, a2⟩
  obtain ⟨M, rfl⟩ : ∃ M, N = M + 1 := ⟨N - 1, by omega⟩
  rw [Nat.zero_add] at b1'
  have e1' : XX9_tune (nI (M + 1)) σ = b1 (XX9_adoptTrial (nI (itN (Gtn V) (M + 1) (V 5)).1) σ2) (fun (σ_5 : Sg) => some (nI (itN (Gtn V) (M + 1) (V 5)).1, σ_5)) := by
    unfold XX9_tune
    rw [if_neg x1, if_pos (nlt_le x40), a1, b1s, lt_def]
    exact b1'
  cases hR : Gtn V (V 5) with
  | none =>
    rw [itN_none hR] at b2' e1'
    have e1 : XX9_tune (nI (M + 1)) σ = some (nI 0, σ2) := by
      rw [e1']
      unfold XX9_adoptTrial
      rw [if_pos (show nI 0 ≤ 0 by decide), b1s]
    have F := frX9_tune e1
    obtain ⟨τ, w1, w2⟩ := m_tnw hw ((hr.near F rfl).th)
    rw [hR] at w1
    have e2 : XX10_tune (nI (M + 1)) σ2 = some (nI 0, τ) := by
      unfold XX10_tune
      rw [lt_def, m_in, if_neg x1, if_neg x40, b1s, lt_def, if_neg (show ¬ (1 : Int32) = 0 by decide), w1, b2s, show rsI none = 0 from rfl, if_pos rfl]
      rfl
    exact ⟨_, _, _, e1, e2, V, hw, b2'.1.far (frX10_tune e2) rfl, w2⟩
  | some g0 =>
    have c0 : 0 < (itN (Gtn V) (M + 1) (V 5)).1 := by
      rw [itN_some hR]
      show 0 < (itN (Gtn V) M g0).1 + 1
      omega
    have c40 : (itN (Gtn V) (M + 1) (V 5)).1 ≤ 40 := by
      have := itN_le (G := Gtn V) (M + 1) (V 5)
      omega
    obtain ⟨R, hRe⟩ : ∃ R, R = itN (Gtn V) (M + 1) (V 5) := ⟨_, rfl⟩
    rw [← hRe] at b2' b3' e1' c0 c40
    obtain ⟨σ3, d1, d2⟩ := c_adopt hw b3' c0 c40 b2'
    have e1 : XX9_tune (nI (M + 1)) σ = some (nI R.1, σ3) := by rw [e1', d1, b1s]
    have F := frX9_tune e1
    obtain ⟨τ, w1, w2⟩ := m_tnw hw ((hr.near F rfl).th)
    rw [hR] at w1
    obtain ⟨τ1, g1, g2, g3⟩ := m_layAsked hw w2.1 (pct := 100) (by omega)
    rw [ask100] at g3
    obtain ⟨τ2, k1, k2⟩ := m_keep hw (w2.off (frX10_layAsked g1) rfl)
    have F2 := frX10_keep k1
    have hw1 := hw.keep
    have ms : MS (kpV V) (kpV V 5) τ2 := ⟨by rw [vs_self]; exact k2, fun t e ht he => by rw [F2.cell (k := 79) rfl]; exact g3 t e ht he⟩
    obtain ⟨τ3, l1, l2⟩ := m_tnn hw1 N40 (M + 1) 0 FUEL τ2 (kpV V 5) (by omega) (by unfold FUEL; omega) hw1.v5 ms
    have eg : Gtn (kpV V) = Gtn V := by
      show tnF (Cc (kpV V)) (V 0 0) (V 0 8) = tnF (Cc V) (V 0 0) (V 0 8)
      rw [show Cc (kpV V) = Cc V from Cc_ac _ _ _]
    rw [eg, Nat.zero_add] at l1
    rw [eg] at l2
    have l1' : LX10_betters_27 (nI (M + 1)) (0 : Int32) FUEL (0 : Int32) 1 τ2 = some (nI (itN (Gtn V) (M + 1) (V 5)).1, τ3) := l1
    have l2' : MS (kpV V) (itN (Gtn V) (M + 1) (V 5)).2 τ3 := l2
    rw [← hRe] at l1' l2'
    have e2 : XX10_tune (nI (M + 1)) σ3 = some (nI R.1, τ3) := by
      have bt : XX10_betters (nI (M + 1)) (0 : Int32) τ = some (nI R.1, τ3) := by
        unfold XX10_betters
        rw [m_in, if_neg x1, if_neg x40, b1s, if_neg (show ¬ (1 : Int32) = 0 by decide), show (100 : Int32) = nI 100 from rfl, g1, b1s, k1, b1s]
        exact l1'
      unfold XX10_tune
      rw [lt_def, m_in, if_neg x1, if_neg x40, b1s, lt_def, if_neg (show ¬ (1 : Int32) = 0 by decide), w1, b2s, show rsI (some g0) = 1 from rfl, if_neg (show ¬ (1 : Int32) = 0 by decide), bt, b2s]
    have okR : vOK (kpV V) R.2 := b3'
    exact ⟨_, _, _, e1, e2, _, hw1.vis okR.1 okR.2, d2.far (frX10_tune e2) rfl, l2'.1⟩
