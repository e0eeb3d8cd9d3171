/-! CALLS: round, aboard: the way of a round -/
/-- the first on from b of which p holds -/
def fnd (p : Nat → Bool) : Nat → Nat → Nat
  | 0, b => b
  | m + 1, b => if p b then b else fnd p m (b + 1)
theorem fnd_ok {p : Nat → Bool} : ∀ m b, (∃ c, b ≤ c ∧ c < b + m ∧ p c = true) → p (fnd p m b) = true ∧ b ≤ fnd p m b ∧ fnd p m b < b + m
  | 0, b, h => by
    obtain ⟨c, h1, h2, -⟩ := h
    omega
  | m + 1, b, h => by
    show p (if p b then b else fnd p m (b + 1)) = true ∧ b ≤ (if p b then b else fnd p m (b + 1)) ∧ (if p b then b else fnd p m (b + 1)) < b + (m + 1)
    cases hp : p b with
    | true =>
      rw [if_pos rfl]
      exact ⟨hp, Nat.le_refl _, by omega⟩
    | false =>
      rw [if_neg (by decide)]
      obtain ⟨c, h1, h2, h3⟩ := h
      have hc : c ≠ b := fun q => by
        rw [q, hp] at h3
        cases h3
      have := fnd_ok (p := p) m (b + 1) ⟨c, by omega, by omega, h3⟩
      exact ⟨this.1, by omega, by omega⟩
def nxB (V : Vw) (set a b : Nat) : Bool := set.testBit b && decide (faV V a b + ah V (set ^^^ 2 ^ b) b = ah V set a)
def nxS (V : Vw) (set a : Nat) : Nat := fnd (nxB V set a) (V 0 8) 0
theorem nxB_ex {V : Vw} (hw : WF V) {set a : Nat} (hs : set < 2 ^ V 0 8) (h0 : set ≠ 0) (ha : pl V a) : ∃ c, 0 ≤ c ∧ c < 0 + V 0 8 ∧ nxB V set a c = true := by
  obtain ⟨b, h1, h2, h3⟩ := (ah_best hw (cntB set 6) set a rfl hs ha).2 h0
  refine ⟨b, Nat.zero_le _, by omega, ?_⟩
  unfold nxB
  rw [h2, h3]
  simp
theorem nxS_ok {V : Vw} (hw : WF V) {set a : Nat} (hs : set < 2 ^ V 0 8) (h0 : set ≠ 0) (ha : pl V a) : nxS V set a < V 0 8 ∧ set.testBit (nxS V set a) = true := by
  obtain ⟨h1, h2, h3⟩ := fnd_ok (p := nxB V set a) (V 0 8) 0 (nxB_ex hw hs h0 ha)
  refine ⟨by unfold nxS; omega, ?_⟩
  have : nxB V set a (nxS V set a) = true := h1
  unfold nxB at this
  rw [Bool.and_eq_true] at this
  exact this.1
theorem c_next_loop {V : Vw} (hw : WF V) {σ : Sg} (hc : WC V σ) {set a : Nat} (hs : set < 2 ^ V 0 8) (ha : pl V a) : ∀ m b n x, b + m = V 0 8 → m < n → (∃ c, b ≤ c ∧ c < b + m ∧ nxB V set a c = true) → LX8_nextStop_18 (nI set) (nI a) (nI (ah V set a)) σ n x (nI b) = some (nI (fnd (nxB V set a) m b)) := by
  have s6 := hw.s6
  have p6 := p64 s6
  have a7 := pl7 hw ha
  intro m
  induction m with
  | zero =>
    intro b n x hb hn h
    obtain ⟨c, h1, h2, -⟩ := h
    omega
  | succ m ih =>
    intro b n x hb hn h
    obtain ⟨n, rfl⟩ : ∃ q, n = q + 1 := ⟨n - 1, by omega⟩
    obtain ⟨c, h1, h2, h3⟩ := h
    have hbs : pl V b := Or.inl (by omega)
    have nb : c ≠ b → ∃ c, b + 1 ≤ c ∧ c < b + 1 + m ∧ nxB V set a c = true := fun q => ⟨c, by omega, by omega, h3⟩
    rw [LX8_nextStop_18, hc.1, if_neg (by rw [nI_lei] <;> omega)]
    simp only [lt]
    have eb : nI set >>> (nI b &&& 31) &&& (1 : Int32) = nI (bq (set.testBit b)) := nx_bit (by omega) (by omega)
    rw [eb]
    show _ = some (nI (if nxB V set a b then b else fnd (nxB V set a) m (b + 1)))
    cases hbit : set.testBit b with
    | false =>
      have e : nxB V set a b = false := by unfold nxB; rw [hbit]; rfl
      rw [if_pos (show nI (bq false) = 0 by decide), nI_1, e, if_neg (by decide)]
      exact ih (b + 1) n _ (by omega) (by omega) (nb (fun q => by rw [q, e] at h3; cases h3))
    | true =>
      have xb := xb_lt set (by omega) b (by omega) hbit
      have xl : set ^^^ 2 ^ b < 2 ^ V 0 8 := by omega
      have l1 := ah_le hw (set := set ^^^ 2 ^ b) xl hbs
      have l2 := faV_le hw ha hbs
      have l3 := ah_le hw hs ha
      rw [if_neg (show ¬ nI (bq true) = 0 by decide), c_milesBy (by omega) a7 (by omega), hc.2.1 a b ha hbs, hc.2.2 _ b xl hbs, nI_add]
      simp only [b1]
      by_cases q : faV V a b + ah V (set ^^^ 2 ^ b) b = ah V set a
      · have e : nxB V set a b = true := by unfold nxB; rw [hbit, q]; simp
        rw [if_pos (by rw [q]), e, if_pos rfl]
      · have e : nxB V set a b = false := by unfold nxB; rw [hbit]; simp [q]
        rw [if_neg (nI_ne (by omega) (by omega) q), nI_1, e, if_neg (by decide)]
        exact ih (b + 1) n _ (by omega) (by omega) (nb (fun q => by rw [q, e] at h3; cases h3))
theorem c_nextStop {V : Vw} (hw : WF V) {σ : Sg} (hc : WC V σ) {set a : Nat} (hs : set < 2 ^ V 0 8) (h0 : set ≠ 0) (ha : pl V a) : XX8_nextStop (nI set) (nI a) σ = some (nI (nxS V set a)) := by
  have s6 := hw.s6
  have p6 := p64 s6
  have a7 := pl7 hw ha
  unfold XX8_nextStop
  rw [show (7 : Int32) = nI 7 from rfl, pk_mul, nI_add, if_pos ((ib_nI (by omega)).mpr (by omega)), nI_cl (by omega), Nat.mul_comm set 7, hc.2.2 set a hs ha, lt_def]
  exact c_next_loop hw hc hs ha (V 0 8) 0 FUEL 0 (by omega) (by unfold FUEL; omega) (nxB_ex hw hs h0 ha)
theorem m_next_loop {V : Vw} (hw : WF V) {σ : Sg} (hr : RA V σ) {set a : Nat} (hs : set < 2 ^ V 0 8) (ha : pl V a) (K : Int32 → Option Int32) : ∀ m b n, b + m = V 0 8 → m < n → (∃ c, b ≤ c ∧ c < b + m ∧ nxB V set a c = true) → LX10_onWay_18 (nI a) (nI set) σ K n (nI b) = K (nI (fnd (nxB V set a) m b)) := by
  have s6 := hw.s6
  have p6 := p64 s6
  have a7 := pl7 hw ha
  intro m
  induction m with
  | zero =>
    intro b n hb hn h
    obtain ⟨c, h1, h2, -⟩ := h
    omega
  | succ m ih =>
    intro b n hb hn h
    obtain ⟨n, rfl⟩ : ∃ q, n = q + 1 := ⟨n - 1, by omega⟩
    obtain ⟨c, h1, h2, h3⟩ := h
    have hbs : pl V b := Or.inl (by omega)
    have nb : c ≠ b → ∃ c, b + 1 ≤ c ∧ c < b + 1 + m ∧ nxB V set a c = true := fun q => ⟨c, by omega, by omega, h3⟩
    rw [LX10_onWay_18, m_isOf (by omega) (by omega)]
    simp only [b1, lt]
    rw [nI_1]
    show _ = K (nI (if nxB V set a b then b else fnd (nxB V set a) m (b + 1)))
    cases hbit : set.testBit b with
    | false =>
      have e : nxB V set a b = false := by unfold nxB; rw [hbit]; rfl
      rw [if_pos (show nI (bq false) = 0 by decide), e, if_neg (by decide)]
      exact ih (b + 1) n (by omega) (by omega) (nb (fun q => by rw [q, e] at h3; cases h3))
    | true =>
      have xb := xb_lt set (by omega) b (by omega) hbit
      have xl : set ^^^ 2 ^ b < 2 ^ V 0 8 := by omega
      have l1 := ah_le hw (set := set ^^^ 2 ^ b) xl hbs
      have l2 := faV_le hw ha hbs
      have l3 := ah_le hw hs ha
      have sh1 : (1 : Int32) <<< (nI b &&& 31) = nI (2 ^ b) := nx_1shl (by omega)
      rw [if_neg (show ¬ nI (bq true) = 0 by decide), m_far hw hr.1 ha hbs]
      simp only []
      rw [sh1, nx_xor, show (64 : Int32) = nI 64 from rfl, pk_mul, nI_add, pk_mul, nI_add, if_pos ((ib_nI (by omega)).mpr (by omega)), if_pos ((ib_nI (by omega)).mpr (by omega)), nI_cl (by omega), nI_cl (by omega), hr.2 _ b xl hbs, hr.2 set a hs ha, nI_add]
      by_cases q : faV V a b + ah V (set ^^^ 2 ^ b) b = ah V set a
      · have e : nxB V set a b = true := by unfold nxB; rw [hbit, q]; simp
        rw [if_pos (by rw [q]), e, if_pos rfl]
      · have e : nxB V set a b = false := by unfold nxB; rw [hbit]; simp [q]
        rw [if_neg (nI_ne (by omega) (by omega) q), e, if_neg (by decide)]
        exact ih (b + 1) n (by omega) (by omega) (nb (fun q => by rw [q, e] at h3; cases h3))
/-- the way: where it is, what is left -/
def wy (V : Vw) (set : Nat) : Nat → Nat × Nat
  | 0 => (6, set)
  | i + 1 => (nxS V (wy V set i).2 (wy V set i).1, (wy V set i).2 ^^^ 2 ^ nxS V (wy V set i).2 (wy V set i).1)
theorem cnt_nz {set : Nat} (hs : set < 64) : cntB set 6 = 0 ↔ set = 0 := by
  have : ∀ set, set < 64 → (cntB set 6 = 0 ↔ set = 0) := by decide +kernel
  exact this set hs
theorem cnt146 {set : Nat} (hs : set < 64) : cntB set 14 = cntB set 6 := by
  have : ∀ set, set < 64 → cntB set 14 = cntB set 6 := by decide +kernel
  exact this set hs
theorem wy_ok {V : Vw} (hw : WF V) {set : Nat} (hs : set < 2 ^ V 0 8) : ∀ i, i ≤ cntB set 6 → pl V (wy V set i).1 ∧ (wy V set i).2 < 2 ^ V 0 8 ∧ cntB (wy V set i).2 6 + i = cntB set 6 ∧ (0 < i → (wy V set i).1 < V 0 8)
  | 0, _ => ⟨Or.inr rfl, hs, rfl, fun h => absurd h (by omega)⟩
  | i + 1, hi => by
    have p6 := p64 hw.s6
    have s6 := hw.s6
    obtain ⟨h1, h2, h3, -⟩ := wy_ok hw hs i (by omega)
    have n0 : (wy V set i).2 ≠ 0 := fun q => by
      have := (cnt_nz (set := (wy V set i).2) (by omega)).mpr q
      omega
    have no := nxS_ok hw h2 n0 h1
    have xb := xb_lt (wy V set i).2 (by omega) _ (show nxS V (wy V set i).2 (wy V set i).1 < 6 by omega) no.2
    show pl V (nxS V (wy V set i).2 (wy V set i).1) ∧ (wy V set i).2 ^^^ 2 ^ nxS V (wy V set i).2 (wy V set i).1 < 2 ^ V 0 8 ∧ cntB ((wy V set i).2 ^^^ 2 ^ nxS V (wy V set i).2 (wy V set i).1) 6 + (i + 1) = cntB set 6 ∧ (0 < i + 1 → nxS V (wy V set i).2 (wy V set i).1 < V 0 8)
    exact ⟨Or.inl no.1, by omega, by omega, fun _ => no.1⟩
theorem off_xor : ∀ set, set < 64 → ∀ b, b < 6 → set.testBit b = true → nI set &&& (nI (2 ^ b) ^^^ (-1 : Int32)) = nI (set ^^^ 2 ^ b) := by decide +kernel
theorem trace_loop {V : Vw} (hw : WF V) {set : Nat} (hs : set < 2 ^ V 0 8) : ∀ m i n σ, i + m = cntB set 6 → m < n → WC V σ → (∀ j, j < i → σ 26 j = nI (wy V set (j + 1)).1) → ∃ τ, LX8_trace_8 n (nI (wy V set i).1) (nI (wy V set i).2) (nI i) σ = some (nI (cntB set 6), τ) ∧ (∀ j, j < cntB set 6 → τ 26 j = nI (wy V set (j + 1)).1) ∧ fr [(26, none)] σ τ := by
  have s6 := hw.s6
  have p6 := p64 s6
  have c6 := cnt6 set
  intro m
  induction m with
  | zero =>
    intro i n σ hi hn hc h1
    obtain ⟨n, rfl⟩ : ∃ q, n = q + 1 := ⟨n - 1, by omega⟩
    obtain ⟨-, w2, w3, -⟩ := wy_ok hw hs i (by omega)
    have z := (cnt_nz (set := (wy V set i).2) (by omega)).mp (by omega)
    refine ⟨σ, ?_, fun j hj => h1 j (by omega), fr.rf⟩
    rw [LX8_trace_8, z, if_pos (show nI 0 = 0 from rfl), show i = cntB set 6 by omega]
  | succ m ih =>
    intro i n σ hi hn hc h1
    obtain ⟨n, rfl⟩ : ∃ q, n = q + 1 := ⟨n - 1, by omega⟩
    obtain ⟨w1, w2, w3, -⟩ := wy_ok hw hs i (by omega)
    have n0 : (wy V set i).2 ≠ 0 := fun q => by
      have := (cnt_nz (set := (wy V set i).2) (by omega)).mpr q
      omega
    have no := nxS_ok hw w2 n0 w1
    have f1 : fr [(26, none)] σ (up σ 26 i (nI (nxS V (wy V set i).2 (wy V set i).1))) := fr_up
    have hc1 : WC V (up σ 26 i (nI (nxS V (wy V set i).2 (wy V set i).1))) := by
      unfold WC FC
      rw [f1.cell (k := 25) rfl, f1.cell (k := 27) rfl, f1.cell (k := 28) rfl]
      exact hc
    obtain ⟨τ, k1, k2, k3⟩ := ih (i + 1) n _ (by omega) (by omega) hc1 (fun j hj => by
      by_cases q : j = i
      · rw [q, up_same]
        rfl
      · rw [up_slot q]
        exact h1 j (by omega))
    refine ⟨τ, ?_, k2, f1.tr k3⟩
    have sh1 : (1 : Int32) <<< (nI (nxS V (wy V set i).2 (wy V set i).1) &&& 31) = nI (2 ^ nxS V (wy V set i).2 (wy V set i).1) := nx_1shl (by omega)
    rw [LX8_trace_8, if_neg (nI_n0 n0 (by omega)), show (6 : Int32) = nI 6 from rfl, if_neg (by rw [nI_lei] <;> omega), c_nextStop hw hc w2 n0 w1]
    simp only [b1]
    rw [if_pos ((ib_nI (by omega)).mpr (by omega)), nI_cl (by omega), lt_def, lt_def, lt_def, nI_1, sh1, off_xor _ (by omega) _ (by omega) no.2]
    exact k1
theorem c_trace {V : Vw} (hw : WF V) {set : Nat} (hs : set < 2 ^ V 0 8) {σ : Sg} (hc : WC V σ) : ∃ τ, XX8_trace (nI set) σ = some (nI (cntB set 6), τ) ∧ (∀ j, j < cntB set 6 → τ 26 j = nI (wy V set (j + 1)).1) ∧ fr [(26, none)] σ τ := by
  have c6 := cnt6 set
  exact trace_loop hw hs (cntB set 6) 0 FUEL σ (by omega) (by unfold FUEL; omega) hc (fun j hj => absurd hj (by omega))
theorem onWay_loop {V : Vw} (hw : WF V) {set : Nat} (hs : set < 2 ^ V 0 8) {σ : Sg} (hr : RA V σ) {t : Nat} (ht : t < cntB set 6) : ∀ m i n, i + m = t + 1 → m < n → LX10_onWay_9 (nI t) σ n (nI (wy V set i).1) (nI (wy V set i).2) (nI i) = some (nI (wy V set (t + 1)).1) := by
  have s6 := hw.s6
  have p6 := p64 s6
  have c6 := cnt6 set
  intro m
  induction m with
  | zero =>
    intro i n hi hn
    obtain ⟨n, rfl⟩ : ∃ q, n = q + 1 := ⟨n - 1, by omega⟩
    rw [LX10_onWay_9, if_pos (by rw [nI_lti] <;> omega), show i = t + 1 by omega]
  | succ m ih =>
    intro i n hi hn
    obtain ⟨n, rfl⟩ : ∃ q, n = q + 1 := ⟨n - 1, by omega⟩
    obtain ⟨w1, w2, w3, -⟩ := wy_ok hw hs i (by omega)
    have n0 : (wy V set i).2 ≠ 0 := fun q => by
      have := (cnt_nz (set := (wy V set i).2) (by omega)).mpr q
      omega
    have no := nxS_ok hw w2 n0 w1
    have sh1 : (1 : Int32) <<< (nI (nxS V (wy V set i).2 (wy V set i).1) &&& 31) = nI (2 ^ nxS V (wy V set i).2 (wy V set i).1) := nx_1shl (by omega)
    rw [LX10_onWay_9, if_neg (by rw [nI_lti] <;> omega), lt_def]
    refine Eq.trans (m_next_loop hw hr w2 w1 _ (V 0 8) 0 FUEL (by omega) (by unfold FUEL; omega) (nxB_ex hw w2 n0 w1)) ?_
    show lt (nI (wy V set i).2 ^^^ ((1 : Int32) <<< (nI (nxS V (wy V set i).2 (wy V set i).1) &&& 31))) _ = _
    rw [lt_def, lt_def, sh1, nx_xor, nI_1]
    exact ih (i + 1) n (by omega) (by omega)
theorem m_onWay {V : Vw} (hw : WF V) {set : Nat} (hs : set < 2 ^ V 0 8) {σ : Sg} (hr : RA V σ) {t : Nat} (ht : t < cntB set 6) : XX10_onWay (nI set) (nI t) σ = some (nI (wy V set (t + 1)).1) := by
  have c6 := cnt6 set
  exact onWay_loop hw hs hr ht (t + 1) 0 FUEL (by omega) (by unfold FUEL; omega)
theorem WC.tr {V : Vw} {σ τ : Sg} (hc : CI V σ) (F : fr [(26, none)] σ τ) : CI V τ := hc.off F rfl (hc.2.1.frm F rfl) (hc.2.2.2.1.off F (fun k k1 k2 => by simp; omega))
