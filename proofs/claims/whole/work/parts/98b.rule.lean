/-! ACTS: rule -/
abbrev mo (V : Vw) (f : Nat → Nat) (s d : Nat) : Nat := stk (V 4 s) (V 3 s) (f s) (aq V s) d
def wa (V : Vw) (s d n : Nat) : Nat := sumN (fun i => aq V s (d + i)) (min (n + 1) (V 0 0 - d))
def shF (V : Vw) (f : Nat → Nat) (d : Nat) : Nat → Nat → Bool
  | 0, _ => false
  | m + 1, s => decide (mo V f s d < aq V s d) || shF V f d m (s + 1)
def nwV (V : Vw) (n d : Nat) (f : Nat → Nat) : Nat → Nat := fun s => if s < V 0 8 ∧ mo V f s d < wa V s d n then f s ||| 2 ^ d else f s
def stR (V : Vw) (n d : Nat) (f : Nat → Nat) : Nat → Nat := if shF V f d (V 0 8) 0 = true then nwV V n d f else f
def ruF (V : Vw) (n : Nat) : Nat → Nat → Nat
  | 0 => fun _ => 0
  | d + 1 => stR V n d (ruF V n d)
theorem nwV_ok {V : Vw} (hw : WF V) {n d : Nat} {f : Nat → Nat} (hf : vOK V f) (hd : d < V 0 0) : vOK V (nwV V n d f) := by
  refine ⟨fun s => ?_, fun s hs => ?_⟩
  · unfold nwV
    split
    · exact Nat.or_lt_two_pow (hf.1 s) (pow_day hw hd)
    · exact hf.1 s
  · unfold nwV
    rw [if_neg (fun q => absurd q.1 (by omega))]
    exact hf.2 s hs
theorem stR_ok {V : Vw} (hw : WF V) {n d : Nat} {f : Nat → Nat} (hf : vOK V f) (hd : d < V 0 0) : vOK V (stR V n d f) := by
  unfold stR
  split
  · exact nwV_ok hw hf hd
  · exact hf
theorem ruF_ok {V : Vw} (hw : WF V) {n : Nat} : ∀ d, d ≤ V 0 0 → vOK V (ruF V n d)
  | 0, _ => zero_ok V
  | d + 1, h => stR_ok hw (ruF_ok hw d (by omega)) (by omega)
theorem wa_lt {V : Vw} (hw : WF V) {s d n : Nat} (hs : s < V 0 8) : wa V s d n < 1000000 := by
  have d14 := hw.d14
  have h1 : wa V s d n ≤ min (n + 1) (V 0 0 - d) * 750 := sumN_le (fun i hi => aq_le hw hs (by omega))
  have h2 : min (n + 1) (V 0 0 - d) * 750 ≤ 14 * 750 := Nat.mul_le_mul_right _ (by omega)
  omega
theorem c_mo {V : Vw} {f : Nat → Nat} (hw : WF V) {σ : Sg} (hc : CI (vsV V f) σ) {s d : Nat} (hs : s < V 0 8) (hd : d < V 0 0) : XX5_morning 38 (nI s) (nI d) σ = some (nI (mo V f s d)) := by
  have cm := c_morning (V := vsV V f) (k := 38) (s := s) (d := d) hc.1 hs hw.s6 hd hw.d14
  rw [cm]
  by_cases q : d = 0
  · rw [if_pos q, q]
    rfl
  · obtain ⟨e, rfl⟩ : ∃ e, d = e + 1 := ⟨d - 1, by omega⟩
    rw [if_neg q, show e + 1 - 1 = e by omega]
    have := (hc.2.1.2.2.1 s e hs (by show e < V 0 0; omega)).2.1
    rw [this]
    rfl
theorem c_short {V : Vw} {f : Nat → Nat} (hw : WF V) {σ : Sg} (hc : CI (vsV V f) σ) {d : Nat} (hd : d < V 0 0) : ∀ m s n, s + m = V 0 8 → m < n → LX3_isOneShort_2 (nI d) σ n (nI s) = some (nI (bq (shF V f d m s))) := by
  have s6 := hw.s6
  have d14 := hw.d14
  have e26 : σ 2 6 = nI (V 0 8) := hc.1.2.2.2.2.2.2.1
  intro m
  induction m with
  | zero =>
    intro s n hs hn
    obtain ⟨n, rfl⟩ : ∃ q, n = q + 1 := ⟨n - 1, by omega⟩
    rw [LX3_isOneShort_2, e26, if_pos (by rw [nI_lei] <;> omega)]
    rfl
  | succ m ih =>
    intro s n hs hn
    obtain ⟨n, rfl⟩ : ∃ q, n = q + 1 := ⟨n - 1, by omega⟩
    have hs8 : s < V 0 8 := by omega
    have ml : mo V f s d < 1000 := stk_lt hw (v := f s) (A := aq V s) (d := d) hs8
    have al := aq_le hw hs8 hd
    have a40 : σ 40 (14 * s + d) = nI (aq V s d) := hc.2.1.2.1 s d hs8 hd
    rw [LX3_isOneShort_2, e26, if_neg (by rw [nI_lei] <;> omega), c_mo hw hc hs8 hd, b1s, c_cellOf, b1s, if_pos ((ib_nI (by omega)).mpr (by omega)), nI_cl (by omega), a40, lt_def, nI_1]
    show _ = some (nI (bq (decide (mo V f s d < aq V s d) || shF V f d m (s + 1))))
    by_cases q : mo V f s d < aq V s d
    · rw [if_neg (by rw [nI_lei] <;> omega), decide_eq_true q]
      rfl
    · rw [if_pos (by rw [nI_lei] <;> omega), decide_eq_false q, Bool.false_or]
      exact ih (s + 1) n (by omega) (by omega)
theorem c_wa_loop {V : Vw} {f : Nat → Nat} (hw : WF V) {σ : Sg} (hc : CI (vsV V f) σ) {s d N : Nat} (hs : s < V 0 8) (hd : d < V 0 0) (hN : N = min (N) (V 0 0 - d)) (hN1 : 1 ≤ N) (K : Int32 → Option Sg) : ∀ m j n, j + m = N → m < n → LX3_visitShort_38 (nI (d + N - 1)) (nI s) σ K n (nI (sumN (fun i => aq V s (d + i)) j)) (nI (d + j)) = K (nI (sumN (fun i => aq V s (d + i)) N)) := by
  have s6 := hw.s6
  have d14 := hw.d14
  intro m
  induction m with
  | zero =>
    intro j n hj hn
    obtain ⟨n, rfl⟩ : ∃ q, n = q + 1 := ⟨n - 1, by omega⟩
    have hj : j = N := by omega
    subst hj
    rw [LX3_visitShort_38, if_pos (by rw [nI_lti] <;> omega)]
  | succ m ih =>
    intro j n hj hn
    obtain ⟨n, rfl⟩ : ∃ q, n = q + 1 := ⟨n - 1, by omega⟩
    have a40 : σ 40 (14 * s + (d + j)) = nI (aq V s (d + j)) := hc.2.1.2.1 s (d + j) hs (by show d + j < V 0 0; omega)
    rw [LX3_visitShort_38, if_neg (by rw [nI_lti] <;> omega), c_cellOf, b1s, if_pos ((ib_nI (by omega)).mpr (by omega)), nI_cl (by omega), a40, lt_def, lt_def, nI_add, nI_1]
    exact ih (j + 1) n (by omega) (by omega)
theorem c_short_loop {V : Vw} {f : Nat → Nat} (hw : WF V) (hf : vOK V f) {d a : Nat} (hd : d < V 0 0) : ∀ m s n σ h, s + m = V 0 8 → m < n → vOK V h → (∀ t, t < s → h t = nwV V a d f t) → (∀ t, s ≤ t → h t = f t) → CI (vsV V h) σ → ∃ τ, LX3_visitShort_20 (nI d) (nI (d + min (a + 1) (V 0 0 - d) - 1)) n (nI s) σ = some τ ∧ CI (vsV V (nwV V a d f)) τ := by
  have s6 := hw.s6
  have d14 := hw.d14
  intro m
  induction m with
  | zero =>
    intro s n σ h hs hn ok h1 h2 hc
    obtain ⟨n, rfl⟩ : ∃ q, n = q + 1 := ⟨n - 1, by omega⟩
    have e26 : σ 2 6 = nI (V 0 8) := hc.1.2.2.2.2.2.2.1
    have eh : h = nwV V a d f := by
      funext t
      by_cases q : t < s
      · exact h1 t q
      · rw [h2 t (by omega)]
        unfold nwV
        rw [if_neg (fun z => absurd z.1 (by omega))]
    rw [eh] at hc
    refine ⟨σ, ?_, hc⟩
    rw [LX3_visitShort_20, e26, if_pos (by rw [nI_lei] <;> omega)]
  | succ m ih =>
    intro s n σ h hs hn ok h1 h2 hc
    obtain ⟨n, rfl⟩ : ∃ q, n = q + 1 := ⟨n - 1, by omega⟩
    have e26 : σ 2 6 = nI (V 0 8) := hc.1.2.2.2.2.2.2.1
    have hs8 : s < V 0 8 := by omega
    have hss : h s = f s := h2 s (Nat.le_refl _)
    have em : mo V h s d = mo V f s d := by
      show stk (V 4 s) (V 3 s) (h s) (aq V s) d = _
      rw [hss]
    have cm := c_mo hw hc hs8 hd
    rw [em] at cm
    have ml : mo V f s d < 1000 := stk_lt hw (v := f s) (A := aq V s) (d := d) hs8
    have wl := wa_lt hw (d := d) (n := a) hs8
    have wl' := c_wa_loop hw hc (N := min (a + 1) (V 0 0 - d)) hs8 hd (by omega) (by omega)
    rw [LX3_visitShort_20, e26, if_neg (by rw [nI_lei] <;> omega), lt_def]
    have K1 := wl' (fun (x6_4 : Int32) => b1 (XX5_morning 38 (nI s) (nI d) σ) (fun (r_6 : Int32) => lt (fun (σ_7 : Sg) => lt (nI s + (1 : Int32)) (fun (x5_9 : Int32) => LX3_visitShort_20 (nI d) (nI (d + min (a + 1) (V 0 0 - d) - 1)) n x5_9 σ_7)) (fun (k97_8 : Sg → Option Sg) => if x6_4 ≤ r_6 then (k97_8 σ) else (if ib (nI s) 6 then b1 (XX5_setVisits 38 (nI s) ((σ 39 (nI s).toNatClampNeg) ||| ((1 : Int32) <<< (nI d &&& 31))) σ) (fun (σ_11 : Sg) => k97_8 σ_11) else none)))) (min (a + 1) (V 0 0 - d)) 0 FUEL (by omega) (by unfold FUEL; omega)
    have eg : ∀ b, nwV V a d f s = b → ∀ σ1, CI (vsV V (updN h s b)) σ1 → vOK V (updN h s b) → ∃ τ, LX3_visitShort_20 (nI d) (nI (d + min (a + 1) (V 0 0 - d) - 1)) n (nI (s + 1)) σ1 = some τ ∧ CI (vsV V (nwV V a d f)) τ := fun b hb σ1 q1 q2 => ih (s + 1) n σ1 (updN h s b) (by omega) (by omega) q2 (fun t ht => by
      unfold updN
      by_cases q : t = s
      · rw [if_pos q, q, hb]
      · rw [if_neg q]
        exact h1 t (by omega)) (fun t ht => by
      unfold updN
      rw [if_neg (by omega)]
      exact h2 t (by omega)) q1
    by_cases q : mo V f s d < wa V s d a
    · have hb : f s ||| 2 ^ d < 2 ^ V 0 0 := Nat.or_lt_two_pow (hf.1 s) (pow_day hw hd)
      obtain ⟨σ1, a1, a2, -⟩ := c_set1 hw ok hc (s := s) (b := f s ||| 2 ^ d) hs8 hb
      obtain ⟨τ, k1, k2⟩ := eg (f s ||| 2 ^ d) (if_pos ⟨hs8, q⟩) σ1 a2 (ok.upd hs8 hb)
      refine ⟨τ, ?_, k2⟩
      refine Eq.trans K1 ?_
      have sh1 : (1 : Int32) <<< (nI d &&& 31) = nI (2 ^ d) := nx_1shl (by omega)
      have v39 : σ 39 s = nI (f s) := by
        have : σ 39 s = nI (h s) := hc.2.1.1 s (by omega)
        rw [this, hss]
      rw [cm, b1s]
      simp only [lt]
      rw [if_neg (show ¬ nI (sumN (fun i => aq V s (d + i)) (min (a + 1) (V 0 0 - d))) ≤ nI (mo V f s d) from fun z => absurd ((nI_lei (show wa V s d a < 2147483648 by omega) (by omega)).mp z) (by omega)), if_pos ((ib_nI (by omega)).mpr (by omega)), nI_cl (by omega), v39, sh1, nx_or, a1, b1s, nI_1]
      exact k1
    · have eh : updN h s (f s) = h := by
        funext t
        unfold updN
        by_cases z : t = s
        · rw [if_pos z, z, hss]
        · rw [if_neg z]
      obtain ⟨τ, k1, k2⟩ := eg (f s) (if_neg (fun z => q z.2)) σ (by rw [eh]; exact hc) (by rw [eh]; exact ok)
      refine ⟨τ, ?_, k2⟩
      refine Eq.trans K1 ?_
      rw [cm, b1s]
      simp only [lt]
      rw [if_pos (show nI (sumN (fun i => aq V s (d + i)) (min (a + 1) (V 0 0 - d))) ≤ nI (mo V f s d) from (nI_lei (show wa V s d a < 2147483648 by omega) (by omega)).mpr (show wa V s d a ≤ mo V f s d by omega)), nI_1]
      exact k1
theorem c_rule_loop {V : Vw} (hw : WF V) {a : Nat} (ha : a < 14) : ∀ m d n σ, d + m = V 0 0 → m < n → CI (vsV V (ruF V a d)) σ → ∃ τ, LX3_visitByRule_6 (nI a) n (nI d) σ = some τ ∧ CI (vsV V (ruF V a (V 0 0))) τ := by
  have s6 := hw.s6
  have d14 := hw.d14
  intro m
  induction m with
  | zero =>
    intro d n σ hd hn hc
    obtain ⟨n, rfl⟩ : ∃ q, n = q + 1 := ⟨n - 1, by omega⟩
    have hd : d = V 0 0 := by omega
    subst hd
    have e20 : σ 2 0 = nI (V 0 0) := hc.1.1
    refine ⟨σ, ?_, hc⟩
    rw [LX3_visitByRule_6, e20, if_pos (by rw [nI_lei] <;> omega)]
  | succ m ih =>
    intro d n σ hd hn hc
    obtain ⟨n, rfl⟩ : ∃ q, n = q + 1 := ⟨n - 1, by omega⟩
    have hd0 : d < V 0 0 := by omega
    have e20 : σ 2 0 = nI (V 0 0) := hc.1.1
    have ok := ruF_ok hw (n := a) d (by omega)
    have sh := c_short hw hc hd0 (V 0 8) 0 FUEL (by omega) (by unfold FUEL; omega)
    have sh' : XX3_isOneShort (nI d) σ = some (nI (bq (shF V (ruF V a d) d (V 0 8) 0))) := sh
    have er : ruF V a (d + 1) = stR V a d (ruF V a d) := rfl
    rw [LX3_visitByRule_6, e20, if_neg (by rw [nI_lei] <;> omega), sh', b1s]
    simp only [lt]
    rw [nI_1]
    by_cases q : shF V (ruF V a d) d (V 0 8) 0 = true
    · have e2 : stR V a d (ruF V a d) = nwV V a d (ruF V a d) := if_pos q
      obtain ⟨σ1, a1, a2⟩ := c_short_loop hw ok (a := a) hd0 (V 0 8) 0 FUEL σ (ruF V a d) (by omega) (by unfold FUEL; omega) ok (fun t ht => absurd ht (by omega)) (fun t _ => rfl) hc
      have vs : XX3_visitShort (nI d) (nI a) σ = some σ1 := by
        have em : (if nI (V 0 0) - (1 : Int32) < nI d + nI a then nI (V 0 0) - (1 : Int32) else nI d + nI a) = nI (d + min (a + 1) (V 0 0 - d) - 1) := by
          rw [show nI (V 0 0) - (1 : Int32) = nI (V 0 0 - 1) from pk_sub (b := 1) (by omega), nI_add]
          by_cases z : V 0 0 - 1 < d + a
          · rw [if_pos (by rw [nI_lti] <;> omega), show V 0 0 - 1 = d + min (a + 1) (V 0 0 - d) - 1 by omega]
          · rw [if_neg (by rw [nI_lti] <;> omega), show d + a = d + min (a + 1) (V 0 0 - d) - 1 by omega]
        unfold XX3_visitShort
        rw [e20, em, lt_def]
        exact a1
      rw [q, if_neg (show ¬ nI (bq true) = 0 by decide), vs, b1s]
      rw [← e2, ← er] at a2
      exact ih (d + 1) n σ1 (by omega) (by omega) a2
    · have e2 : stR V a d (ruF V a d) = ruF V a d := if_neg q
      rw [show shF V (ruF V a d) d (V 0 8) 0 = false by simpa using q, if_pos (show nI (bq false) = 0 by decide)]
      rw [← e2, ← er] at hc
      exact ih (d + 1) n σ (by omega) (by omega) hc
/-! the reference -/
theorem m_mo {V : Vw} {f h : Nat → Nat} (hw : WF V) {σ : Sg} (hr : RM (vsV V h) σ) {s d : Nat} (hs : s < V 0 8) (hd : d < V 0 0) (h81 : 0 < d → σ 81 (14 * s + (d - 1)) = nI (mo V f s d)) : XX10_morning (nI s) (nI d) σ = some (nI (mo V f s d)) := by
  have s6 := hw.s6
  have d14 := hw.d14
  unfold XX10_morning
  by_cases q : d = 0
  · rw [q, if_pos (show nI 0 = 0 from rfl), if_pos ((ib_nI (by omega)).mpr (by omega)), nI_cl (by omega), (hr.2.1 s hs).2.2.2]
    rfl
  · rw [if_neg (nI_n0 q (by omega)), show (14 : Int32) = nI 14 from rfl, pk_mul, nI_add, show nI (14 * s + d) - (1 : Int32) = nI (14 * s + (d - 1)) by rw [show nI (14 * s + d) - (1 : Int32) = nI (14 * s + d - 1) from pk_sub (b := 1) (by omega), show 14 * s + d - 1 = 14 * s + (d - 1) by omega], if_pos ((ib_nI (by omega)).mpr (by omega)), nI_cl (by omega), h81 (by omega)]
theorem m_is_loop {V : Vw} {f : Nat → Nat} (hw : WF V) {σ : Sg} (hr : RM (vsV V f) σ) (ha : askM V (aq V) σ) {d : Nat} (hd : d < V 0 0) (h81 : ∀ s, s < V 0 8 → 0 < d → σ 81 (14 * s + (d - 1)) = nI (mo V f s d)) (K : Int32 → Option (Int32 × Sg)) : ∀ m s n b, s + m = V 0 8 → m < n → LX10_rule_69 (nI d) σ K n (nI (bq b)) (nI s) = K (nI (bq (b || shF V f d m s))) := by
  have s6 := hw.s6
  have d14 := hw.d14
  have e8 : σ 65 8 = nI (V 0 8) := hr.1 8 (by omega)
  intro m
  induction m with
  | zero =>
    intro s n b hs hn
    obtain ⟨n, rfl⟩ : ∃ q, n = q + 1 := ⟨n - 1, by omega⟩
    rw [LX10_rule_69]
    unfold XX10_shops
    rw [b1s, e8, if_pos (by rw [nI_lei] <;> omega)]
    show _ = K (nI (bq (b || false)))
    rw [Bool.or_false]
  | succ m ih =>
    intro s n b hs hn
    obtain ⟨n, rfl⟩ : ∃ q, n = q + 1 := ⟨n - 1, by omega⟩
    have hs8 : s < V 0 8 := by omega
    have ml : mo V f s d < 1000 := stk_lt hw (v := f s) (A := aq V s) (d := d) hs8
    have al := aq_le hw hs8 hd
    rw [LX10_rule_69]
    unfold XX10_shops
    rw [b1s, e8, if_neg (by rw [nI_lei] <;> omega), m_mo hw hr hs8 hd (h81 s hs8), b1s, show (14 : Int32) = nI 14 from rfl, pk_mul, nI_add, if_pos ((ib_nI (by omega)).mpr (by omega)), nI_cl (by omega), ha s d hs8 hd]
    simp only [lt]
    rw [nI_1]
    show _ = K (nI (bq (b || (decide (mo V f s d < aq V s d) || shF V f d m (s + 1)))))
    by_cases q : mo V f s d < aq V s d
    · have k1 := ih (s + 1) n true (by omega) (by omega)
      have eb : nI (bq b) ||| (1 : Int32) = nI (bq true) := by cases b <;> decide
      rw [if_neg (by rw [nI_lei] <;> omega), decide_eq_true q, eb, k1]
      cases b <;> rfl
    · have k1 := ih (s + 1) n b (by omega) (by omega)
      have eb : nI (bq b) ||| (0 : Int32) = nI (bq b) := by cases b <;> decide
      rw [if_pos (by rw [nI_lei] <;> omega), decide_eq_false q, Bool.false_or, eb]
      exact k1
theorem m_wa {V : Vw} (hw : WF V) {σ : Sg} {h : Nat → Nat} (hr : RM (vsV V h) σ) (ha : askM V (aq V) σ) {s d a : Nat} (hs : s < V 0 8) (hd : d < V 0 0) (ha14 : a < 14) : XX10_askedFor (nI s) (nI d) (nI a) σ = some (nI (wa V s d a)) := by
  have s6 := hw.s6
  have d14 := hw.d14
  have e0 : σ 65 0 = nI (V 0 0) := hr.1 0 (by omega)
  have key : ∀ m j n, j + m = min (a + 1) (V 0 0 - d) → m < n → LX10_askedFor_6 (nI s) (nI d) (nI a) σ n (nI (sumN (fun i => aq V s (d + i)) j)) (nI (d + j)) = some (nI (wa V s d a)) := by
    intro m
    induction m with
    | zero =>
      intro j n hj hn
      obtain ⟨n, rfl⟩ : ∃ q, n = q + 1 := ⟨n - 1, by omega⟩
      have ej : j = min (a + 1) (V 0 0 - d) := by omega
      have ew : wa V s d a = sumN (fun i => aq V s (d + i)) j := by rw [ej]; rfl
      rw [LX10_askedFor_6, nI_add]
      unfold XX10_days
      rw [b1s, e0, ew]
      by_cases q : d + a < d + j
      · rw [if_pos (by rw [nI_lti] <;> omega)]
      · rw [if_neg (by rw [nI_lti] <;> omega), if_pos (by rw [nI_lei] <;> omega)]
    | succ m ih =>
      intro j n hj hn
      obtain ⟨n, rfl⟩ : ∃ q, n = q + 1 := ⟨n - 1, by omega⟩
      have k1 := ih (j + 1) n (by omega) (by omega)
      rw [LX10_askedFor_6, nI_add]
      unfold XX10_days
      rw [b1s, e0, if_neg (by rw [nI_lti] <;> omega), if_neg (by rw [nI_lei] <;> omega), show (14 : Int32) = nI 14 from rfl, pk_mul, nI_add, if_pos ((ib_nI (by omega)).mpr (by omega)), nI_cl (by omega), ha s (d + j) hs (by omega), lt_def, lt_def, nI_add, nI_1]
      exact k1
  exact key (min (a + 1) (V 0 0 - d)) 0 FUEL (by omega) (by unfold FUEL; omega)
theorem m_short_loop {V : Vw} {f : Nat → Nat} (hw : WF V) (hf : vOK V f) {d a : Nat} (hd : d < V 0 0) (ha14 : a < 14) (K : Sg → Option (Int32 × Sg)) : ∀ m s n σ h, s + m = V 0 8 → m < n → (∀ t, t < s → h t = nwV V a d f t) → (∀ t, s ≤ t → h t = f t) → RA (vsV V h) σ → askM V (aq V) σ → (∀ s, s < V 0 8 → 0 < d → σ 81 (14 * s + (d - 1)) = nI (mo V f s d)) → ∃ τ, LX10_rule_117 (nI a) (nI d) (nI 1) K n (nI s) σ = K τ ∧ RA (vsV V (nwV V a d f)) τ ∧ askM V (aq V) τ := by
  have s6 := hw.s6
  have d14 := hw.d14
  intro m
  induction m with
  | zero =>
    intro s n σ h hs hn h1 h2 hr ha h81
    obtain ⟨n, rfl⟩ : ∃ q, n = q + 1 := ⟨n - 1, by omega⟩
    have e8 : σ 65 8 = nI (V 0 8) := hr.1.1 8 (by omega)
    have eh : h = nwV V a d f := by
      funext t
      by_cases q : t < s
      · exact h1 t q
      · rw [h2 t (by omega)]
        unfold nwV
        rw [if_neg (fun z => absurd z.1 (by omega))]
    rw [eh] at hr
    refine ⟨σ, ?_, hr, ha⟩
    rw [LX10_rule_117]
    unfold XX10_shops
    rw [b1s, e8, if_pos (by rw [nI_lei] <;> omega)]
  | succ m ih =>
    intro s n σ h hs hn h1 h2 hr ha h81
    obtain ⟨n, rfl⟩ : ∃ q, n = q + 1 := ⟨n - 1, by omega⟩
    have e8 : σ 65 8 = nI (V 0 8) := hr.1.1 8 (by omega)
    have hs8 : s < V 0 8 := by omega
    have hss : h s = f s := h2 s (Nat.le_refl _)
    have ml : mo V f s d < 1000 := stk_lt hw (v := f s) (A := aq V s) (d := d) hs8
    have wl := wa_lt hw (d := d) (n := a) hs8
    have v78 : σ 78 s = nI (f s) := by
      have : σ 78 s = nI (h s) := hr.1.2.2.1 s (by omega)
      rw [this, hss]
    have sh1 : (1 : Int32) <<< (nI d &&& 31) = nI (2 ^ d) := nx_1shl (by omega)
    have f1 : fr [(78, none)] σ (up σ 78 s (nI (nwV V a d f s))) := fr_up
    obtain ⟨τ, k1, k2, k3⟩ := ih (s + 1) n (up σ 78 s (nI (nwV V a d f s))) (updN h s (nwV V a d f s)) (by omega) (by omega) (fun t ht => by
      unfold updN
      by_cases q : t = s
      · rw [if_pos q, q]
      · rw [if_neg q]
        exact h1 t (by omega)) (fun t ht => by
      unfold updN
      rw [if_neg (by omega)]
      exact h2 t (by omega)) (m_set1 hr (by omega)) (fun t e ht he => by rw [f1.cell (k := 79) rfl]; exact ha t e ht he) (fun t ht h0 => by rw [f1.cell (k := 81) rfl]; exact h81 t ht h0)
    refine ⟨τ, ?_, k2, k3⟩
    rw [LX10_rule_117]
    unfold XX10_shops
    rw [b1s, e8, if_neg (by rw [nI_lei] <;> omega), if_neg (show ¬ nI 1 = 0 by decide), if_pos ((ib_nI (by omega)).mpr (by omega)), m_mo hw hr.1 hs8 hd (h81 s hs8), b1s, m_wa hw hr.1 ha hs8 hd ha14, b1s, nI_cl (by omega), v78, sh1]
    simp only [lt]
    rw [nI_1]
    by_cases q : mo V f s d < wa V s d a
    · have eb : nwV V a d f s = f s ||| 2 ^ d := if_pos ⟨hs8, q⟩
      rw [eb] at k1
      rw [if_neg (by rw [nI_lei] <;> omega), nx_or]
      exact k1
    · have eb : nwV V a d f s = f s := if_neg (fun z => q z.2)
      rw [eb] at k1
      have e0 : nI (f s) ||| (0 : Int32) = nI (f s) := by
        rw [show (0 : Int32) = nI 0 from rfl, nx_or, Nat.or_zero]
      rw [if_pos (by rw [nI_lei] <;> omega), e0]
      exact k1
theorem m_rule_loop {V : Vw} (hw : WF V) {a : Nat} (ha14 : a < 14) (K : Sg → Option (Int32 × Sg)) : ∀ m d n σ, d + m = V 0 0 → m < n → RA (vsV V (ruF V a d)) σ → askM V (aq V) σ → ∃ τ, LX10_rule_52 (nI a) K n (nI d) σ = K τ ∧ RA (vsV V (ruF V a (V 0 0))) τ := by
  have s6 := hw.s6
  have d14 := hw.d14
  intro m
  induction m with
  | zero =>
    intro d n σ hd hn hr ha
    obtain ⟨n, rfl⟩ : ∃ q, n = q + 1 := ⟨n - 1, by omega⟩
    have hd : d = V 0 0 := by omega
    subst hd
    have e0 : σ 65 0 = nI (V 0 0) := hr.1.1 0 (by omega)
    refine ⟨σ, ?_, hr⟩
    rw [LX10_rule_52]
    unfold XX10_days
    rw [b1s, e0, if_pos (by rw [nI_lei] <;> omega)]
  | succ m ih =>
    intro d n σ hd hn hr ha
    obtain ⟨n, rfl⟩ : ∃ q, n = q + 1 := ⟨n - 1, by omega⟩
    have hd0 : d < V 0 0 := by omega
    have e0 : σ 65 0 = nI (V 0 0) := hr.1.1 0 (by omega)
    have ok := ruF_ok hw (n := a) d (by omega)
    have hw1 : WF (vsV V (ruF V a d)) := hw.vis ok.1 ok.2
    obtain ⟨σ1, a1, a2, a3, a4⟩ := m_runAll hw1 (ask := aq V) hr.1 (hla hw1) ha
    have hr1 : RA (vsV V (ruF V a d)) σ1 := hr.off a4 rfl
    have ha1 : askM V (aq V) σ1 := fun t e ht he => by rw [a4.cell (k := 79) rfl]; exact ha t e ht he
    have h81 : ∀ s, s < V 0 8 → 0 < d → σ1 81 (14 * s + (d - 1)) = nI (mo V (ruF V a d) s d) := fun s hs h0 => by
      obtain ⟨e, rfl⟩ : ∃ e, d = e + 1 := ⟨d - 1, by omega⟩
      exact (a3 s e hs (by show e < V 0 0; omega)).2.1
    have er : ruF V a (d + 1) = stR V a d (ruF V a d) := rfl
    have is := m_is_loop hw hr1.1 ha1 hd0 h81 (fun (x3_14 : Int32) => lt (fun (σ_16 : Sg) => lt (nI d + (1 : Int32)) (fun (x2_18 : Int32) => LX10_rule_52 (nI a) K n x2_18 σ_16)) (fun (k171_17 : Sg → Option (Int32 × Sg)) => LX10_rule_117 (nI a) (nI d) x3_14 k171_17 FUEL (0 : Int32) σ1)) (V 0 8) 0 FUEL false (by omega) (by unfold FUEL; omega)
    rw [Bool.false_or] at is
    have is' : LX10_rule_69 (nI d) σ1 (fun (x3_14 : Int32) => lt (fun (σ_16 : Sg) => lt (nI d + (1 : Int32)) (fun (x2_18 : Int32) => LX10_rule_52 (nI a) K n x2_18 σ_16)) (fun (k171_17 : Sg → Option (Int32 × Sg)) => LX10_rule_117 (nI a) (nI d) x3_14 k171_17 FUEL (0 : Int32) σ1)) FUEL (0 : Int32) (0 : Int32) = _ := is
    rw [LX10_rule_52]
    unfold XX10_days
    rw [b1s, e0, if_neg (by rw [nI_lei] <;> omega), a1, b1s, lt_def, is', lt_def]
    by_cases q : shF V (ruF V a d) d (V 0 8) 0 = true
    · have e2 : stR V a d (ruF V a d) = nwV V a d (ruF V a d) := if_pos q
      obtain ⟨σ2, c1, c2, c3⟩ := m_short_loop hw ok (a := a) hd0 ha14 (fun (σ_16 : Sg) => lt (nI d + (1 : Int32)) (fun (x2_18 : Int32) => LX10_rule_52 (nI a) K n x2_18 σ_16)) (V 0 8) 0 FUEL σ1 (ruF V a d) (by omega) (by unfold FUEL; omega) (fun t ht => absurd ht (by omega)) (fun t _ => rfl) hr1 ha1 h81
      rw [← e2, ← er] at c2
      obtain ⟨τ, k1, k2⟩ := ih (d + 1) n σ2 (by omega) (by omega) c2 c3
      refine ⟨τ, ?_, k2⟩
      rw [q]
      refine Eq.trans c1 ?_
      rw [lt_def, nI_1]
      exact k1
    · have e2 : stR V a d (ruF V a d) = ruF V a d := if_neg q
      rw [← e2, ← er] at hr1
      obtain ⟨τ, k1, k2⟩ := ih (d + 1) n σ1 (by omega) (by omega) hr1 ha1
      refine ⟨τ, ?_, k2⟩
      have e8 : σ1 65 8 = nI (V 0 8) := hr1.1.1 8 (by omega)
      rw [show shF V (ruF V a d) d (V 0 8) 0 = false by simpa using q, show FUEL = 999999 + 1 from rfl, LX10_rule_117]
      unfold XX10_shops
      rw [b1s, e8, if_pos (show nI (bq false) = 0 by decide), ite_self, lt_def, nI_1]
      exact k1
theorem m_drop2 {V : Vw} (hw : WF V) (K : Sg → Option (Int32 × Sg)) : ∀ m s n σ f, s + m = V 0 8 → m < n → vOK V f → (∀ t, t < s → f t = 0) → RA (vsV V f) σ → askM V (aq V) σ → ∃ τ, LX10_rule_29 K n (nI s) σ = K τ ∧ RA (vsV V (fun _ => 0)) τ ∧ askM V (aq V) τ := by
  have s6 := hw.s6
  intro m
  induction m with
  | zero =>
    intro s n σ f hs hn ok h0 hc ha
    obtain ⟨n, rfl⟩ : ∃ q, n = q + 1 := ⟨n - 1, by omega⟩
    have hs : s = V 0 8 := by omega
    subst hs
    have ef : f = fun _ => 0 := by
      funext t
      by_cases q : t < V 0 8
      · exact h0 t q
      · exact ok.2 t (by omega)
    rw [ef] at hc
    refine ⟨σ, ?_, hc, ha⟩
    have e8 : σ 65 8 = nI (V 0 8) := hc.1.1 8 (by omega)
    rw [LX10_rule_29]
    unfold XX10_shops
    rw [b1s, e8, if_pos (by rw [nI_lei] <;> omega)]
  | succ m ih =>
    intro s n σ f hs hn ok h0 hc ha
    obtain ⟨n, rfl⟩ : ∃ q, n = q + 1 := ⟨n - 1, by omega⟩
    have f1 : fr [(78, none)] σ (up σ 78 s (nI 0)) := fr_up
    obtain ⟨τ, k1, k2, k3⟩ := ih (s + 1) n (up σ 78 s (nI 0)) (updN f s 0) (by omega) (by omega) (ok.upd (by omega) (Nat.two_pow_pos _)) (fun t ht => by
      unfold updN
      by_cases q : t = s
      · rw [if_pos q]
      · rw [if_neg q]
        exact h0 t (by omega)) (m_set1 hc (by omega)) (fun t e ht he => by rw [f1.cell (k := 79) rfl]; exact ha t e ht he)
    refine ⟨τ, ?_, k2, k3⟩
    have e8 : σ 65 8 = nI (V 0 8) := hc.1.1 8 (by omega)
    rw [LX10_rule_29]
    unfold XX10_shops
    rw [b1s, e8, if_neg (by rw [nI_lei] <;> omega), if_pos ((ib_nI (by omega)).mpr (by omega)), nI_cl (by omega), lt_def, lt_def, nI_1]
    exact k1
theorem op_rule {V : Vw} {σ : Sg} (h : Inv V σ) (x : Int32) : stOK (XX9_rule x σ) (XX10_rule x) := by
  obtain ⟨hw, hc, hr⟩ := id h
  have rf : ∀ r, XX9_rule x σ = some (r, σ) → XX10_rule x σ = some (r, up σ 64 0 0) → stOK (XX9_rule x σ) (XX10_rule x) := fun r e1 e2 => ⟨_, _, _, e1, e2, V, h.look (fr_upf (a := 64) (i := 0)) rfl rfl⟩
  by_cases x0 : x < 0
  · refine rf (-1) ?_ ?_
    · unfold XX9_rule
      rw [if_pos x0]
    · unfold XX10_rule
      rw [lt_def, m_in, if_pos x0, b1s, if_pos rfl]
  obtain ⟨a, hal, rfl⟩ := nI_of x0
  by_cases a14 : a < 14
  · have hw1 := hw.keep
    have ok : vOK (kpV V) (kpV V 5) := hw1.v5
    obtain ⟨V1, hV1⟩ : ∃ V1, V1 = kpV V := ⟨_, rfl⟩
    rw [← hV1] at hw1 ok
    obtain ⟨σ1, a1, a2⟩ := c_keep hw hc
    rw [← hV1] at a2
    have s6 := hw1.s6
    have d14 := hw1.d14
    have a2' : CI (vsV V1 (V1 5)) σ1 := by rw [vs_self]; exact a2
    obtain ⟨σ2, b1', b2', b3'⟩ := c_drop hw1 (V1 0 8) 0 FUEL σ1 (V1 5) (Nat.zero_add _) (by unfold FUEL; omega) ok (fun t ht => absurd ht (by omega)) a2'
    obtain ⟨σ3, c1, c2⟩ := c_rule_loop hw1 a14 (V1 0 0) 0 FUEL σ2 (Nat.zero_add _) (by unfold FUEL; omega) b2'
    have okR := ruF_ok hw1 (n := a) (V1 0 0) (Nat.le_refl _)
    have hw3 : WF (vsV V1 (ruF V1 a (V1 0 0))) := hw1.vis okR.1 okR.2
    have cv := c_countVisits hw3 c2
    obtain ⟨C, hC⟩ : ∃ C, C = nI (sumN (fun s => cntB (vsV V1 (ruF V1 a (V1 0 0)) 5 s) 14) (vsV V1 (ruF V1 a (V1 0 0)) 0 8)) := ⟨_, rfl⟩
    rw [← hC] at cv
    have e1 : XX9_rule (nI a) σ = some (C, σ3) := by
      have vr : XX3_visitByRule (nI a) σ1 = some σ3 := by
        have b1'' : XX5_dropVisits 38 σ1 = some σ2 := b1'
        unfold XX3_visitByRule
        rw [b1'', b1s]
        exact c1
      unfold XX9_rule
      rw [if_neg x0, if_pos (show nI a < 14 from (nI_lti (b := 14) (by omega) (by omega)).mpr a14), a1, b1s, vr, b1s, cv, b1s]
    have F := frX9_rule e1
    have hr3 : RA V (up σ3 64 0 0) := (hr.near F rfl).th
    obtain ⟨τ1, g1, g2⟩ := m_keep hw hr3
    rw [← hV1] at g2
    obtain ⟨τ2, k1, k2, k3⟩ := m_layAsked hw1 g2.1 (pct := 100) (by omega)
    rw [ask100] at k3
    have k2' : RA (vsV V1 (V1 5)) τ2 := by rw [vs_self]; exact g2.off (frX10_layAsked k1) rfl
    obtain ⟨τ3, l1, l2, l3⟩ := m_drop2 hw1 (fun (σ_5 : Sg) => lt (fun (σ_7 : Sg) => b1 (XX10_allVisits σ_7) (fun (r_9 : Int32) => some (r_9, σ_7))) (fun (k177_8 : Sg → Option (Int32 × Sg)) => LX10_rule_52 (nI a) k177_8 FUEL (0 : Int32) σ_5)) (V1 0 8) 0 FUEL τ2 (V1 5) (Nat.zero_add _) (by unfold FUEL; omega) ok (fun t ht => absurd ht (by omega)) k2' k3
    obtain ⟨τ, n1, n2⟩ := m_rule_loop hw1 a14 (fun (σ_7 : Sg) => b1 (XX10_allVisits σ_7) (fun (r_9 : Int32) => some (r_9, σ_7))) (V1 0 0) 0 FUEL τ3 (Nat.zero_add _) (by unfold FUEL; omega) l2 l3
    have av := m_allVisits hw3 n2.1
    rw [← hC] at av
    have e2 : XX10_rule (nI a) σ3 = some (C, τ) := by
      unfold XX10_rule
      rw [lt_def, m_in, if_neg x0, if_neg (show ¬ (13 : Int32) < nI a from fun q => absurd ((nI_lti (a := 13) (by omega) (by omega)).mp q) (by omega)), b1s, if_neg (show ¬ (1 : Int32) = 0 by decide), g1, b1s, show (100 : Int32) = nI 100 from rfl, k1, b1s, lt_def]
      refine Eq.trans l1 ?_
      rw [lt_def]
      refine Eq.trans n1 ?_
      rw [av, b1s]
    exact ⟨_, _, _, e1, e2, _, hw3, c2.far (frX10_rule e2) rfl, n2⟩
  · refine rf (-1) ?_ ?_
    · unfold XX9_rule
      rw [if_neg x0, if_neg (show ¬ nI a < 14 from fun q => a14 ((nI_lti (b := 14) (by omega) (by omega)).mp q))]
    · unfold XX10_rule
      rw [lt_def, m_in, if_neg x0, if_pos (show (13 : Int32) < nI a from (nI_lti (a := 13) (by omega) (by omega)).mpr (by omega)), b1s, if_pos rfl]
