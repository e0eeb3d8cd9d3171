/-! THE REFERENCE: calls that only look, of the run -/
theorem RM.th {V : Vw} {σ : Sg} {v : Int32} (h : RM V σ) : RM V (up σ 64 0 v) := h.off (fr_upf) rfl
theorem vis_lt {V : Vw} (hw : WF V) (s : Nat) : V 5 s < 2147483648 := by
  have h1 := hw.2.2.2.2.2.2.2.2.2.2.2.2.2.1 s
  have h2 : 2 ^ V 0 0 ≤ 2 ^ 14 := Nat.pow_le_pow_right (by omega) hw.1.2
  omega
/-- of the plan as it is: load, evening stock, what is lost -/
def rlV (V : Vw) (s d : Nat) : Nat := rload (V 4 s) (V 3 s) (V 5 s) (aq V s) d
def skV (V : Vw) (s d : Nat) : Nat := stk (V 4 s) (V 3 s) (V 5 s) (aq V s) (d + 1)
def msV (V : Vw) (s d : Nat) : Nat := rmiss (V 4 s) (V 3 s) (V 5 s) (aq V s) d
def spC (V : Vw) (f : Nat → Nat → Nat) (x y : Int32) : Int32 := if ib x (V 0 8) ∧ ib y (V 0 0) then nI (f x.toNatClampNeg y.toNatClampNeg) else -1
theorem rload_le {fi sh vis : Nat} {ask : Nat → Nat} {d : Nat} : rload fi sh vis ask d ≤ sh := by
  unfold rload
  split <;> omega
theorem rmiss_le {fi sh vis : Nat} {ask : Nat → Nat} {d : Nat} : rmiss fi sh vis ask d ≤ ask d := by
  unfold rmiss
  omega
theorem m_load {V : Vw} (hw : WF V) {σ : Sg} (hr : RM V σ) (x y : Int32) : ∃ τ, XX10_load x y σ = some (spC V (rlV V) x y, τ) ∧ RM V τ := by
  have w0 := hw.1.2
  have w8 : V 0 8 ≤ 6 := hw.2.2.2.2.2.2.1
  have hr1 : RM V (up σ 64 0 0) := hr.th
  simp only [XX10_load, lt]
  rw [m_isAt (hr1.1 8 (by omega)) (by omega) (hr1.1 0 (by omega)) (by omega)]
  unfold spC
  by_cases hx : ib x (V 0 8) ∧ ib y (V 0 0)
  · rw [if_pos hx, if_pos hx]
    obtain ⟨s, hs, rfl⟩ := ib_of hx.1 (by omega)
    obtain ⟨d, hd, rfl⟩ := ib_of hx.2 (by omega)
    obtain ⟨τ, h1, h2, h3, h4⟩ := m_layRun hw hr1
    refine ⟨τ, ?_, h2⟩
    simp only [b1]
    rw [if_neg (by decide), h1]
    simp (disch := omega) only [b1, b2, lt, nI_lit, pk_mul, nI_add, ib_nI, nI_cl, nI_lei, nI_lti, nI_eqi]
    rw [if_pos (by omega), (h4 s d hs hd).1]
    rfl
  · rw [if_neg hx, if_neg hx]
    exact ⟨_, rfl, hr1⟩
theorem m_stock {V : Vw} (hw : WF V) {σ : Sg} (hr : RM V σ) (x y : Int32) : ∃ τ, XX10_stock x y σ = some (spC V (skV V) x y, τ) ∧ RM V τ := by
  have w0 := hw.1.2
  have w8 : V 0 8 ≤ 6 := hw.2.2.2.2.2.2.1
  have hr1 : RM V (up σ 64 0 0) := hr.th
  simp only [XX10_stock, lt]
  rw [m_isAt (hr1.1 8 (by omega)) (by omega) (hr1.1 0 (by omega)) (by omega)]
  unfold spC
  by_cases hx : ib x (V 0 8) ∧ ib y (V 0 0)
  · rw [if_pos hx, if_pos hx]
    obtain ⟨s, hs, rfl⟩ := ib_of hx.1 (by omega)
    obtain ⟨d, hd, rfl⟩ := ib_of hx.2 (by omega)
    obtain ⟨τ, h1, h2, h3, h4⟩ := m_layRun hw hr1
    refine ⟨τ, ?_, h2⟩
    simp only [b1]
    rw [if_neg (by decide), h1]
    simp (disch := omega) only [b1, b2, lt, nI_lit, pk_mul, nI_add, ib_nI, nI_cl, nI_lei, nI_lti, nI_eqi]
    rw [if_pos (by omega), (h4 s d hs hd).2.1]
    rfl
  · rw [if_neg hx, if_neg hx]
    exact ⟨_, rfl, hr1⟩
theorem m_lost {V : Vw} (hw : WF V) {σ : Sg} (hr : RM V σ) (x y : Int32) : ∃ τ, XX10_lost x y σ = some (spC V (msV V) x y, τ) ∧ RM V τ := by
  have w0 := hw.1.2
  have w8 : V 0 8 ≤ 6 := hw.2.2.2.2.2.2.1
  have hr1 : RM V (up σ 64 0 0) := hr.th
  simp only [XX10_lost, lt]
  rw [m_isAt (hr1.1 8 (by omega)) (by omega) (hr1.1 0 (by omega)) (by omega)]
  unfold spC
  by_cases hx : ib x (V 0 8) ∧ ib y (V 0 0)
  · rw [if_pos hx, if_pos hx]
    obtain ⟨s, hs, rfl⟩ := ib_of hx.1 (by omega)
    obtain ⟨d, hd, rfl⟩ := ib_of hx.2 (by omega)
    obtain ⟨τ, h1, h2, h3, h4⟩ := m_layRun hw hr1
    refine ⟨τ, ?_, h2⟩
    simp only [b1]
    rw [if_neg (by decide), h1]
    simp (disch := omega) only [b1, b2, lt, nI_lit, pk_mul, nI_add, ib_nI, nI_cl, nI_lei, nI_lti, nI_eqi]
    rw [if_pos (by omega), (h4 s d hs hd).2.2]
    rfl
  · rw [if_neg hx, if_neg hx]
    exact ⟨_, rfl, hr1⟩
theorem m_lostBy {V : Vw} (hw : WF V) {σ : Sg} (hr : RM V σ) {s : Nat} (hs : s < V 0 8) {f : Nat → Nat} (hf : ∀ d, d < V 0 0 → σ 82 (14 * s + d) = nI (f d)) : XX10_lostBy (nI s) σ = some (nI (sumN f (V 0 0))) := by
  have w0 := hw.1.2
  have w8 : V 0 8 ≤ 6 := hw.2.2.2.2.2.2.1
  have key : ∀ m d n, d + m = V 0 0 → m < n → LX10_lostBy_4 (nI s) σ n (nI (sumN f d)) (nI d) = some (nI (sumN f (V 0 0))) := by
    intro m
    induction m with
    | zero =>
      intro d n hd hn
      obtain ⟨n, rfl⟩ : ∃ q, n = q + 1 := ⟨n - 1, by omega⟩
      have hd : d = V 0 0 := by omega
      subst hd
      rw [LX10_lostBy_4]
      simp only [XX10_days, b1]
      rw [hr.1 0 (by omega), if_pos (by rw [nI_lei] <;> omega)]
    | succ m ih =>
      intro d n hd hn
      obtain ⟨n, rfl⟩ : ∃ q, n = q + 1 := ⟨n - 1, by omega⟩
      rw [LX10_lostBy_4]
      simp only [XX10_days, b1]
      rw [hr.1 0 (by omega), if_neg (by rw [nI_lei] <;> omega)]
      simp (disch := omega) only [b1, b2, lt, nI_lit, pk_mul, nI_add, ib_nI, nI_cl, nI_lei, nI_lti, nI_eqi]
      rw [if_pos (by omega), hf d (by omega), nI_add]
      exact ih (d + 1) n (by omega) (by omega)
  exact key (V 0 0) 0 FUEL (by omega) (by unfold FUEL; omega)
theorem m_stocks {V : Vw} (hw : WF V) {σ : Sg} (hr : RM V σ) {s : Nat} (hs : s < V 0 8) {f : Nat → Nat} (hf : ∀ d, d < V 0 0 → σ 81 (14 * s + d) = nI (f d)) : XX10_stocks (nI s) σ = some (nI (sumN f (V 0 0))) := by
  have w0 := hw.1.2
  have w8 : V 0 8 ≤ 6 := hw.2.2.2.2.2.2.1
  have key : ∀ m d n, d + m = V 0 0 → m < n → LX10_stocks_4 (nI s) σ n (nI (sumN f d)) (nI d) = some (nI (sumN f (V 0 0))) := by
    intro m
    induction m with
    | zero =>
      intro d n hd hn
      obtain ⟨n, rfl⟩ : ∃ q, n = q + 1 := ⟨n - 1, by omega⟩
      have hd : d = V 0 0 := by omega
      subst hd
      rw [LX10_stocks_4]
      simp only [XX10_days, b1]
      rw [hr.1 0 (by omega), if_pos (by rw [nI_lei] <;> omega)]
    | succ m ih =>
      intro d n hd hn
      obtain ⟨n, rfl⟩ : ∃ q, n = q + 1 := ⟨n - 1, by omega⟩
      rw [LX10_stocks_4]
      simp only [XX10_days, b1]
      rw [hr.1 0 (by omega), if_neg (by rw [nI_lei] <;> omega)]
      simp (disch := omega) only [b1, b2, lt, nI_lit, pk_mul, nI_add, ib_nI, nI_cl, nI_lei, nI_lti, nI_eqi]
      rw [if_pos (by omega), hf d (by omega), nI_add]
      exact ih (d + 1) n (by omega) (by omega)
  exact key (V 0 0) 0 FUEL (by omega) (by unfold FUEL; omega)
/-- the first day on from a day of which something holds; none: -1 -/
def fstD (p : Nat → Bool) : Nat → Nat → Int32
  | 0, _ => -1
  | m + 1, d => if p d then nI d else fstD p m (d + 1)
theorem m_firstLost {V : Vw} (hw : WF V) {σ : Sg} (hr : RM V σ) {s : Nat} (hs : s < V 0 8) {f : Nat → Nat} (hla : ∀ d, d < V 0 0 → f d < 1000000) (hf : ∀ d, d < V 0 0 → σ 82 (14 * s + d) = nI (f d)) {a : Nat} (ha : a ≤ V 0 0) : XX10_firstLost (nI s) (nI a) σ = some (fstD (fun d => decide (0 < f d)) (V 0 0 - a) a) := by
  have w0 := hw.1.2
  have w8 : V 0 8 ≤ 6 := hw.2.2.2.2.2.2.1
  have key : ∀ m d n, d + m = V 0 0 → m < n → LX10_firstLost_2 (nI s) σ n (nI d) = some (fstD (fun d => decide (0 < f d)) m d) := by
    intro m
    induction m with
    | zero =>
      intro d n hd hn
      obtain ⟨n, rfl⟩ : ∃ q, n = q + 1 := ⟨n - 1, by omega⟩
      have hd : d = V 0 0 := by omega
      subst hd
      rw [LX10_firstLost_2]
      simp only [XX10_days, b1]
      rw [hr.1 0 (by omega), if_pos (by rw [nI_lei] <;> omega)]
      rfl
    | succ m ih =>
      intro d n hd hn
      obtain ⟨n, rfl⟩ : ∃ q, n = q + 1 := ⟨n - 1, by omega⟩
      rw [LX10_firstLost_2]
      simp only [XX10_days, b1]
      rw [hr.1 0 (by omega), if_neg (by rw [nI_lei] <;> omega)]
      simp (disch := omega) only [b1, b2, lt, nI_lit, pk_mul, nI_add, ib_nI, nI_cl, nI_lei, nI_lti, nI_eqi]
      have hl := hla d (by omega)
      rw [if_pos (by omega), hf d (by omega)]
      show _ = some (if decide (0 < f d) = true then nI d else fstD (fun d => decide (0 < f d)) m (d + 1))
      by_cases q : 0 < f d
      · rw [if_neg (by rw [nI_lei] <;> omega), if_pos (by simpa using q)]
      · rw [if_pos (by rw [nI_lei] <;> omega), if_neg (by simpa using q)]
        exact ih (d + 1) n (by omega) (by omega)
  exact key (V 0 0 - a) a FUEL (by omega) (by unfold FUEL; omega)
def spEmpty (V : Vw) (x : Int32) : Int32 := if ib x (V 0 8) then fstD (fun d => decide (0 < msV V x.toNatClampNeg d)) (V 0 0) 0 else -1
theorem ms_lt {V : Vw} (hw : WF V) {s d : Nat} (hs : s < V 0 8) (hd : d < V 0 0) : msV V s d < 1000000 := by
  have h1 := aq_le hw hs hd
  have h2 : msV V s d ≤ aq V s d := rmiss_le
  omega
theorem m_empty {V : Vw} (hw : WF V) {σ : Sg} (hr : RM V σ) (x : Int32) : ∃ τ, XX10_empty x σ = some (spEmpty V x, τ) ∧ RM V τ := by
  have w0 := hw.1.2
  have w8 : V 0 8 ≤ 6 := hw.2.2.2.2.2.2.1
  have hr1 : RM V (up σ 64 0 0) := hr.th
  simp only [XX10_empty, lt]
  rw [m_isShop (hr1.1 8 (by omega)) (by omega)]
  unfold spEmpty
  by_cases hx : ib x (V 0 8)
  · rw [if_pos hx, if_pos hx]
    obtain ⟨s, hs, rfl⟩ := ib_of hx (by omega)
    obtain ⟨τ, h1, h2, h3, h4⟩ := m_layRun hw hr1
    refine ⟨τ, ?_, h2⟩
    simp only [b1]
    rw [if_neg (by decide), h1]
    simp only [nI_lit]
    rw [m_firstLost hw h2 hs (fun d hd => ms_lt hw hs hd) (fun d hd => (h4 s d hs hd).2.2) (Nat.zero_le _), nI_cl (by omega)]
    rfl
  · rw [if_neg hx, if_neg hx]
    exact ⟨_, rfl, hr1⟩
/-- how many bits -/
def cntB (v : Nat) : Nat → Nat := sumN (fun k => bq (v.testBit k))
theorem m_bits {v : Nat} (hv : v < 2147483648) : XX10_bits (nI v) = some (nI (cntB v 14)) := by
  have key : ∀ m d n, d + m = 14 → m < n → LX10_bits_4 (nI v) n (nI (cntB v d)) (nI d) = some (nI (cntB v 14)) := by
    intro m
    induction m with
    | zero =>
      intro d n hd hn
      obtain ⟨n, rfl⟩ : ∃ q, n = q + 1 := ⟨n - 1, by omega⟩
      have hd : d = 14 := by omega
      subst hd
      rw [LX10_bits_4]
      simp only [nI_lit]
      rw [if_pos (by rw [nI_lei] <;> omega)]
    | succ m ih =>
      intro d n hd hn
      obtain ⟨n, rfl⟩ : ∃ q, n = q + 1 := ⟨n - 1, by omega⟩
      rw [LX10_bits_4]
      simp only [nI_lit, lt]
      rw [if_neg (by rw [nI_lei] <;> omega), nx_bit hv (by omega), nI_add, nI_add]
      exact ih (d + 1) n (by omega) (by omega)
  exact key 14 0 FUEL (by omega) (by unfold FUEL; omega)
theorem cntB_le (v n : Nat) : cntB v n ≤ n := by
  have h := sumN_le (f := fun k => bq (v.testBit k)) (c := 1) (n := n) (fun i _ => by
    show bq _ ≤ 1
    cases v.testBit i <;> decide)
  unfold cntB
  omega
theorem m_allVisits {V : Vw} (hw : WF V) {σ : Sg} (hr : RM V σ) : XX10_allVisits σ = some (nI (sumN (fun s => cntB (V 5 s) 14) (V 0 8))) := by
  have w8 : V 0 8 ≤ 6 := hw.2.2.2.2.2.2.1
  have key : ∀ m s n, s + m = V 0 8 → m < n → LX10_allVisits_4 σ n (nI (sumN (fun s => cntB (V 5 s) 14) s)) (nI s) = some (nI (sumN (fun s => cntB (V 5 s) 14) (V 0 8))) := by
    intro m
    induction m with
    | zero =>
      intro s n hd hn
      obtain ⟨n, rfl⟩ : ∃ q, n = q + 1 := ⟨n - 1, by omega⟩
      have hd : s = V 0 8 := by omega
      subst hd
      rw [LX10_allVisits_4]
      simp only [XX10_shops, b1]
      rw [hr.1 8 (by omega), if_pos (by rw [nI_lei] <;> omega)]
    | succ m ih =>
      intro s n hd hn
      obtain ⟨n, rfl⟩ : ∃ q, n = q + 1 := ⟨n - 1, by omega⟩
      rw [LX10_allVisits_4]
      simp only [XX10_shops, b1]
      rw [hr.1 8 (by omega), if_neg (by rw [nI_lei] <;> omega)]
      simp (disch := omega) only [b1, b2, lt, nI_lit, pk_mul, nI_add, ib_nI, nI_cl, nI_lei, nI_lti, nI_eqi]
      rw [if_pos (by omega), hr.2.2.1 s (by omega), m_bits (vis_lt hw s)]
      simp only [nI_add]
      exact ih (s + 1) n (by omega) (by omega)
  exact key (V 0 8) 0 FUEL (by omega) (by unfold FUEL; omega)
