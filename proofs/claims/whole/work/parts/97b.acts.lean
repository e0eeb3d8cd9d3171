/-! ACTS: visit, clear -/
theorem vs_vs (V : Vw) (f g : Nat → Nat) : vsV (vsV V f) g = vsV V g := by
  funext j
  unfold vsV put
  by_cases q : j = 5
  · rw [if_pos q, if_pos q]
  · rw [if_neg q, if_neg q, if_neg q]
theorem vs_self (V : Vw) : vsV V (V 5) = V := by
  funext j
  unfold vsV put
  by_cases q : j = 5
  · rw [if_pos q, q]
  · rw [if_neg q]
theorem hla {V : Vw} (hw : WF V) : ∀ s d, s < V 0 8 → d < V 0 0 → aq V s d < 1000000 := fun s d hs hd => by
  have := aq_le hw hs hd
  omega
/-- good visits -/
def vOK (V : Vw) (f : Nat → Nat) : Prop := (∀ s, f s < 2 ^ V 0 0) ∧ (∀ s, V 0 8 ≤ s → f s = 0)
theorem vOK.upd {V : Vw} {f : Nat → Nat} (h : vOK V f) {s b : Nat} (hs : s < V 0 8) (hb : b < 2 ^ V 0 0) : vOK V (updN f s b) := by
  refine ⟨fun t => ?_, fun t ht => ?_⟩
  · unfold updN
    split
    · exact hb
    · exact h.1 t
  · unfold updN
    rw [if_neg (by omega)]
    exact h.2 t ht
theorem c_set1 {V : Vw} {f : Nat → Nat} (hw : WF V) (hf : vOK V f) {σ : Sg} (hc : CI (vsV V f) σ) {s b : Nat} (hs : s < V 0 8) (hb : b < 2 ^ V 0 0) : ∃ τ, XX5_setVisits 38 (nI s) (nI b) σ = some τ ∧ CI (vsV V (updN f s b)) τ ∧ fr ((39, none) :: runS 38) σ τ := by
  have hw1 : WF (vsV V f) := hw.vis hf.1 hf.2
  obtain ⟨τ, h1, h2, h3⟩ := c_setVisits hw1 (prV_C (vsV V f)) (k := 38) (by omega) (s := s) (b := b) hs hb (hf.1 s) (hla hw1) hc.1 hc.2.1
  have hp : PC (vsV V f) τ := hc.2.2.2.1.off h3 (fun k k1 k2 => by simp; omega)
  have := hc.vis h3 rfl (f := updN f s b) h2 hp
  rw [vs_vs] at this
  exact ⟨τ, h1, this, h3⟩
theorem m_set1 {V : Vw} {f : Nat → Nat} {σ : Sg} (hr : RA (vsV V f) σ) {s b : Nat} (hs : s < 6) : RA (vsV V (updN f s b)) (up σ 78 s (nI b)) := by
  have := hr.vis (f := updN f s b) (τ := up σ 78 s (nI b)) fr_up (fun t ht => by
    unfold updN
    by_cases q : t = s
    · subst q
      rw [if_pos rfl, up_same]
    · rw [if_neg q, up_slot q]
      exact hr.1.2.2.1 t ht)
  rw [vs_vs] at this
  exact this
theorem op_visit {V : Vw} {σ : Sg} (h : Inv V σ) (x y : Int32) : stOK (XX9_visit x y σ) (XX10_visit x y) := by
  obtain ⟨hw, hc, hr⟩ := id h
  have s6 := hw.s6
  have d14 := hw.d14
  by_cases hx : ib x (V 0 8) ∧ ib y (V 0 0)
  · obtain ⟨s, hs, rfl⟩ := ib_of hx.1 (by omega)
    obtain ⟨d, hd, rfl⟩ := ib_of hx.2 (by omega)
    have hb : V 5 s ^^^ 2 ^ d < 2 ^ V 0 0 := Nat.xor_lt_two_pow (hw.v5.1 s) (pow_day hw hd)
    have b31 : V 5 s ^^^ 2 ^ d < 2147483648 := by
      have := Nat.pow_le_pow_right (show 0 < 2 by omega) d14
      omega
    have i6 : ib (nI s) 6 := (ib_nI (by omega)).mpr (by omega)
    have ic : (nI s).toNatClampNeg = s := nI_cl (by omega)
    have sh1 : (1 : Int32) <<< (nI d &&& 31) = nI (2 ^ d) := nx_1shl (by omega)
    have eb : nI (V 5 s ^^^ 2 ^ d) >>> (nI d &&& 31) &&& (1 : Int32) = nI (bq ((V 5 s ^^^ 2 ^ d).testBit d)) := nx_bit b31 (by omega)
    have hw1 := hw.keep
    have ok : vOK (kpV V) (kpV V 5) := hw1.v5
    obtain ⟨σ1, a1, a2⟩ := c_keep hw hc
    have a2' : CI (vsV (kpV V) (kpV V 5)) σ1 := by rw [vs_self]; exact a2
    obtain ⟨σ2, b1', b2', b3'⟩ := c_set1 hw1 ok a2' (s := s) (b := V 5 s ^^^ 2 ^ d) hs hb
    have v1 : σ1 39 s = nI (V 5 s) := a2.2.1.1 s (by omega)
    have v2 : σ2 39 s = nI (V 5 s ^^^ 2 ^ d) := by
      have := b2'.2.1.1 s (by omega)
      have e : vsV (kpV V) (updN (kpV V 5) s (V 5 s ^^^ 2 ^ d)) 5 s = V 5 s ^^^ 2 ^ d := if_pos rfl
      rw [e] at this
      exact this
    have e1 : XX9_visit (nI s) (nI d) σ = some (nI (bq ((V 5 s ^^^ 2 ^ d).testBit d)), σ2) := by
      unfold XX9_visit
      rw [c_hasCell hc.1 s6 d14, if_pos hx, b1s, if_neg (show ¬ (1 : Int32) = 0 by decide), a1, b1s, if_pos i6, ic, v1, sh1, nx_xor, b1', b1s, v2, eb]
    have F := frX9_visit e1
    have hr1 : RA V (up σ2 64 0 0) := (hr.near F rfl).th
    obtain ⟨τ1, g1, g2⟩ := m_keep hw hr1
    have g2' : RA (vsV (kpV V) (kpV V 5)) τ1 := by rw [vs_self]; exact g2
    have g3 := m_set1 g2' (s := s) (b := V 5 s ^^^ 2 ^ d) (by omega)
    have w1 : τ1 78 s = nI (V 5 s) := g2.1.2.2.1 s (by omega)
    have e2 : XX10_visit (nI s) (nI d) σ2 = some (nI (bq ((V 5 s ^^^ 2 ^ d).testBit d)), up τ1 78 s (nI (V 5 s ^^^ 2 ^ d))) := by
      unfold XX10_visit
      rw [lt_def, m_isAt (hr1.1.1 8 (by omega)) (by omega) (hr1.1.1 0 (by omega)) (by omega), if_pos hx, b1s, if_neg (show ¬ (1 : Int32) = 0 by decide), g1, b1s, if_pos i6, ic, w1, sh1, nx_xor, lt_def, up_same, eb]
    have okf := ok.upd (s := s) hs (b := V 5 s ^^^ 2 ^ d) hb
    exact ⟨_, _, _, e1, e2, _, hw1.vis okf.1 okf.2, b2'.far (frX10_visit e2) rfl, g3⟩
  · have e1 : XX9_visit x y σ = some (-1, σ) := by
      unfold XX9_visit
      rw [c_hasCell hc.1 s6 d14, if_neg hx]
      rfl
    have e2 : XX10_visit x y σ = some (-1, up σ 64 0 0) := by
      unfold XX10_visit
      rw [lt_def, m_isAt (hr.1.th.1 8 (by omega)) (by omega) (hr.1.th.1 0 (by omega)) (by omega), if_neg hx]
      rfl
    exact ⟨_, _, _, e1, e2, V, h.look (fr_upf (a := 64) (i := 0)) rfl rfl⟩
theorem c_countVisits {V : Vw} (hw : WF V) {σ : Sg} (hc : CI V σ) : XX5_countVisits 38 σ = some (nI (sumN (fun s => cntB (V 5 s) 14) (V 0 8))) := by
  have s6 := hw.s6
  have p14 := Nat.pow_le_pow_right (show 0 < 2 by omega) hw.d14
  have key : ∀ m s n, s + m = V 0 8 → m < n → LX5_countVisits_4 38 σ n (nI (sumN (fun s => cntB (V 5 s) 14) s)) (nI s) = some (nI (sumN (fun s => cntB (V 5 s) 14) (V 0 8))) := by
    intro m
    induction m with
    | zero =>
      intro s n hs hn
      obtain ⟨n, rfl⟩ : ∃ q, n = q + 1 := ⟨n - 1, by omega⟩
      have hs : s = V 0 8 := by omega
      subst hs
      rw [LX5_countVisits_4, hc.1.2.2.2.2.2.2.1, if_pos (by rw [nI_lei] <;> omega)]
    | succ m ih =>
      intro s n hs hn
      obtain ⟨n, rfl⟩ : ∃ q, n = q + 1 := ⟨n - 1, by omega⟩
      have v5 := hw.v5.1 s
      rw [LX5_countVisits_4, hc.1.2.2.2.2.2.2.1, if_neg (by rw [nI_lei] <;> omega), if_pos ((ib_nI (by omega)).mpr (by omega)), nI_cl (by omega), hc.2.1.1 s (by omega), c_cnt (by omega), b1s, lt_def, lt_def, nI_add, nI_1]
      exact ih (s + 1) n (by omega) (by omega)
  exact key (V 0 8) 0 FUEL (by omega) (by unfold FUEL; omega)
theorem c_drop {V : Vw} (hw : WF V) : ∀ m s n σ f, s + m = V 0 8 → m < n → vOK V f → (∀ t, t < s → f t = 0) → CI (vsV V f) σ → ∃ τ, LX5_dropVisits_2 38 n (nI s) σ = some τ ∧ CI (vsV V (fun _ => 0)) τ ∧ fr ((39, none) :: runS 38) σ τ := by
  have s6 := hw.s6
  intro m
  induction m with
  | zero =>
    intro s n σ f hs hn ok h0 hc
    obtain ⟨n, rfl⟩ : ∃ q, n = q + 1 := ⟨n - 1, by omega⟩
    have hs : s = V 0 8 := by omega
    subst hs
    have ef : f = fun _ => 0 := by
      funext t
      by_cases q : t < V 0 8
      · exact h0 t q
      · exact ok.2 t (by omega)
    rw [ef] at hc
    refine ⟨σ, ?_, hc, fr.rf⟩
    have e26 : σ 2 6 = nI (V 0 8) := hc.1.2.2.2.2.2.2.1
    rw [LX5_dropVisits_2, e26, if_pos (by rw [nI_lei] <;> omega)]
  | succ m ih =>
    intro s n σ f hs hn ok h0 hc
    obtain ⟨n, rfl⟩ : ∃ q, n = q + 1 := ⟨n - 1, by omega⟩
    obtain ⟨σ1, a1, a2, a3⟩ := c_set1 hw ok hc (s := s) (b := 0) (by omega) (Nat.two_pow_pos _)
    obtain ⟨τ, k1, k2, k3⟩ := ih (s + 1) n σ1 (updN f s 0) (by omega) (by omega) (ok.upd (by omega) (Nat.two_pow_pos _)) (fun t ht => by
      unfold updN
      by_cases q : t = s
      · rw [if_pos q]
      · rw [if_neg q]
        exact h0 t (by omega)) a2
    refine ⟨τ, ?_, k2, a3.tr k3⟩
    have e26 : σ 2 6 = nI (V 0 8) := hc.1.2.2.2.2.2.2.1
    have a1' : XX5_setVisits 38 (nI s) (0 : Int32) σ = some σ1 := a1
    rw [LX5_dropVisits_2, e26, if_neg (by rw [nI_lei] <;> omega), a1', b1s, lt_def, nI_1]
    exact k1
theorem m_drop {V : Vw} (hw : WF V) (r : Int32) : ∀ m s n σ f, s + m = V 0 8 → m < n → vOK V f → (∀ t, t < s → f t = 0) → RA (vsV V f) σ → ∃ τ, LX10_clear_22 r n (nI s) σ = some (r, τ) ∧ RA (vsV V (fun _ => 0)) τ := by
  have s6 := hw.s6
  intro m
  induction m with
  | zero =>
    intro s n σ f hs hn ok h0 hc
    obtain ⟨n, rfl⟩ : ∃ q, n = q + 1 := ⟨n - 1, by omega⟩
    have hs : s = V 0 8 := by omega
    subst hs
    have ef : f = fun _ => 0 := by
      funext t
      by_cases q : t < V 0 8
      · exact h0 t q
      · exact ok.2 t (by omega)
    rw [ef] at hc
    refine ⟨σ, ?_, hc⟩
    have e8 : σ 65 8 = nI (V 0 8) := hc.1.1 8 (by omega)
    unfold LX10_clear_22 XX10_shops
    rw [b1s, e8, if_pos (by rw [nI_lei] <;> omega)]
  | succ m ih =>
    intro s n σ f hs hn ok h0 hc
    obtain ⟨n, rfl⟩ : ∃ q, n = q + 1 := ⟨n - 1, by omega⟩
    obtain ⟨τ, k1, k2⟩ := ih (s + 1) n (up σ 78 s (nI 0)) (updN f s 0) (by omega) (by omega) (ok.upd (by omega) (Nat.two_pow_pos _)) (fun t ht => by
      unfold updN
      by_cases q : t = s
      · rw [if_pos q]
      · rw [if_neg q]
        exact h0 t (by omega)) (m_set1 hc (by omega))
    refine ⟨τ, ?_, k2⟩
    have e8 : σ 65 8 = nI (V 0 8) := hc.1.1 8 (by omega)
    rw [LX10_clear_22]
    unfold XX10_shops
    rw [b1s, e8, if_neg (by rw [nI_lei] <;> omega), if_pos ((ib_nI (by omega)).mpr (by omega)), nI_cl (by omega), lt_def, lt_def, nI_1]
    exact k1
theorem cv_le {V : Vw} (hw : WF V) : sumN (fun s => cntB (V 5 s) 14) (V 0 8) ≤ 84 := by
  have h1 : sumN (fun s => cntB (V 5 s) 14) (V 0 8) ≤ V 0 8 * 14 := sumN_le (fun s _ => cntB_le _ 14)
  have := hw.s6
  omega
theorem zero_ok (V : Vw) : vOK V (fun _ => 0) := ⟨fun _ => Nat.two_pow_pos _, fun _ _ => rfl⟩
theorem op_clear {V : Vw} {σ : Sg} (h : Inv V σ) : stOK (XX9_clear σ) XX10_clear := by
  obtain ⟨hw, hc, hr⟩ := id h
  have s6 := hw.s6
  have cl := cv_le hw
  have cv := c_countVisits hw hc
  by_cases q : sumN (fun s => cntB (V 5 s) 14) (V 0 8) = 0
  · have e1 : XX9_clear σ = some (nI 0, σ) := by
      unfold XX9_clear
      rw [cv, q, b1s, if_pos (show nI 0 ≤ 0 by decide)]
    have e2 : XX10_clear σ = some (nI 0, up σ 64 0 0) := by
      unfold XX10_clear
      rw [lt_def, m_allVisits hw hr.1.th, q, b1s, if_pos (show nI 0 = 0 from rfl)]
      rfl
    exact ⟨_, _, _, e1, e2, V, h.look (fr_upf (a := 64) (i := 0)) rfl rfl⟩
  · have hw1 := hw.keep
    have ok : vOK (kpV V) (kpV V 5) := hw1.v5
    obtain ⟨σ1, a1, a2⟩ := c_keep hw hc
    have a2' : CI (vsV (kpV V) (kpV V 5)) σ1 := by rw [vs_self]; exact a2
    obtain ⟨σ2, b1', b2', b3'⟩ := c_drop hw1 (V 0 8) 0 FUEL σ1 (kpV V 5) (Nat.zero_add _) (by unfold FUEL; omega) ok (fun t ht => absurd ht (by omega)) a2'
    have e1 : XX9_clear σ = some (nI (sumN (fun s => cntB (V 5 s) 14) (V 0 8)), σ2) := by
      have b1'' : XX5_dropVisits 38 σ1 = some σ2 := b1'
      unfold XX9_clear
      rw [cv, b1s, if_neg (nI_nle (by omega) (by omega)), a1, b1s, b1'', b1s]
    have F := frX9_clear e1
    have hr1 : RA V (up σ2 64 0 0) := (hr.near F rfl).th
    obtain ⟨τ1, g1, g2⟩ := m_keep hw hr1
    have g2' : RA (vsV (kpV V) (kpV V 5)) τ1 := by rw [vs_self]; exact g2
    obtain ⟨τ, k1, k2⟩ := m_drop hw1 (nI (sumN (fun s => cntB (V 5 s) 14) (V 0 8))) (V 0 8) 0 FUEL τ1 (kpV V 5) (Nat.zero_add _) (by unfold FUEL; omega) ok (fun t ht => absurd ht (by omega)) g2'
    have e2 : XX10_clear σ2 = some (nI (sumN (fun s => cntB (V 5 s) 14) (V 0 8)), τ) := by
      unfold XX10_clear
      rw [lt_def, m_allVisits hw hr1.1, b1s, if_neg (nI_n0 q (by omega)), g1, b1s]
      exact k1
    exact ⟨_, _, _, e1, e2, _, hw1.vis (zero_ok _).1 (zero_ok _).2, b2'.far (frX10_clear e2) rfl, k2⟩
