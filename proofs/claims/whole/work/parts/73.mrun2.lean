/-! THE REFERENCE'S RUN -/
theorem runShop_step {σ : Sg} {D s vis p sh a d n : Nat} (h0 : σ 65 0 = nI D) (hD : D ≤ 14) (hs : s < 6) (hv : vis < 2147483648) (h68 : σ 68 s = nI sh) (hsh : sh < 1000000) (hp : p ≤ sh) (ha : σ 79 (14 * s + d) = nI a) (hla : a < 1000000) (hd : d < D) : LX10_runShop_10 (nI s) (nI vis) (n + 1) (nI p) (nI d) σ = LX10_runShop_10 (nI s) (nI vis) n (nI ((if vis.testBit d then sh else p) - a)) (nI (d + 1)) (up (up (up σ 80 (14 * s + d) (nI (if vis.testBit d then sh - p else 0))) 82 (14 * s + d) (nI (a - (if vis.testBit d then sh else p)))) 81 (14 * s + d) (nI ((if vis.testBit d then sh else p) - a))) := by
  rw [LX10_runShop_10]
  simp only [XX10_days, b1]
  rw [h0, if_neg (by rw [nI_lei] <;> omega)]
  simp (disch := omega) only [b1, b2, lt, nI_lit, pk_mul, nI_add, ib_nI, nI_cl, nI_lei, nI_lti, nI_eqi]
  rw [m_isOf hv (by omega)]
  simp only []
  have e1 : ∀ v, up σ 80 (14 * s + d) v 80 (14 * s + d) = v := fun v => up_same
  have e2 : ∀ v, up σ 80 (14 * s + d) v 79 (14 * s + d) = nI a := fun v => by rw [up_cell (by omega)]; exact ha
  cases hb : vis.testBit d with
  | false =>
    have h1 : nI (bq false) = nI 0 := rfl
    rw [h1, if_pos rfl, if_pos (by omega), e1, e2, nI_add]
    rw [m_lesser (by omega) (by omega)]
    simp only [Nat.add_zero, Bool.false_eq_true, if_false]
    rw [pk_sub (Nat.min_le_right p a), pk_sub (Nat.min_le_left p a)]
    rw [show a - min p a = a - p by omega, show p - min p a = p - a by omega]
  | true =>
    have h1 : nI (bq true) = nI 1 := rfl
    rw [h1, if_neg (by rw [nI_eqi] <;> omega), if_pos (by omega), h68, pk_sub hp, if_pos (by omega), e1, e2, nI_add]
    rw [m_lesser (by omega) (by omega)]
    simp only [if_true]
    rw [show p + (sh - p) = sh by omega, pk_sub (Nat.min_le_right sh a), pk_sub (Nat.min_le_left sh a)]
    rw [show a - min sh a = a - sh by omega, show sh - min sh a = sh - a by omega]
/-- the rows of a shop's run -/
def rowM (V : Vw) (s vis : Nat) (ask : Nat → Nat) (d : Nat) (σ : Sg) : Prop := σ 80 (14 * s + d) = nI (rload (V 4 s) (V 3 s) vis ask d) ∧ σ 81 (14 * s + d) = nI (stk (V 4 s) (V 3 s) vis ask (d + 1)) ∧ σ 82 (14 * s + d) = nI (rmiss (V 4 s) (V 3 s) vis ask d)
theorem runShop_loop {V : Vw} (hw : WF V) {s vis : Nat} {ask : Nat → Nat} (hs : s < V 0 8) (hv : vis < 2147483648) (hla : ∀ d, d < V 0 0 → ask d < 1000000) : ∀ m d n σ, d + m = V 0 0 → m < n → RM V σ → (∀ e, e < V 0 0 → σ 79 (14 * s + e) = nI (ask e)) → (∀ e, e < d → rowM V s vis ask e σ) → ∃ τ, LX10_runShop_10 (nI s) (nI vis) n (nI (stk (V 4 s) (V 3 s) vis ask d)) (nI d) σ = some τ ∧ RM V τ ∧ (∀ e, e < V 0 0 → rowM V s vis ask e τ) ∧ (∀ i, (i < 14 * s ∨ 14 * s + 14 ≤ i) → τ 80 i = σ 80 i ∧ τ 81 i = σ 81 i ∧ τ 82 i = σ 82 i) ∧ fr [(80, none), (81, none), (82, none)] σ τ := by
  have w0 := hw.1.2
  have w8 : V 0 8 ≤ 6 := hw.2.2.2.2.2.2.1
  have wt : V 0 3 ≤ 99 := hw.2.1.2
  obtain ⟨-, -, s1, s2, s3⟩ := hw.2.2.2.2.2.2.2.2.2.2.2.2.1 s hs
  intro m
  induction m with
  | zero =>
    intro d n σ hd hn hr ha ho
    obtain ⟨n, rfl⟩ : ∃ q, n = q + 1 := ⟨n - 1, by omega⟩
    have hd : d = V 0 0 := by omega
    subst hd
    refine ⟨σ, ?_, hr, ho, fun _ _ => ⟨rfl, rfl, rfl⟩, fr.rf⟩
    rw [LX10_runShop_10]
    simp only [XX10_days, b1]
    rw [hr.1 0 (by omega), if_pos (by rw [nI_lei] <;> omega)]
  | succ m ih =>
    intro d n σ hd hn hr ha ho
    obtain ⟨n, rfl⟩ : ∃ q, n = q + 1 := ⟨n - 1, by omega⟩
    have hp := stk_le (vis := vis) (ask := ask) s3 d
    have st := runShop_step (n := n) (hr.1 0 (by omega)) (by omega) (show s < 6 by omega) hv (hr.2.1 s hs).2.2.1 (by omega) hp (ha d (by omega)) (hla d (by omega)) (show d < V 0 0 by omega)
    obtain ⟨τ0, hτ⟩ : ∃ τ0, τ0 = (up (up (up σ 80 (14 * s + d) (nI (if vis.testBit d then V 3 s - stk (V 4 s) (V 3 s) vis ask d else 0))) 82 (14 * s + d) (nI (ask d - (if vis.testBit d then V 3 s else stk (V 4 s) (V 3 s) vis ask d)))) 81 (14 * s + d) (nI ((if vis.testBit d then V 3 s else stk (V 4 s) (V 3 s) vis ask d) - ask d))) := ⟨_, rfl⟩
    rw [← hτ] at st
    have hf : fr [(80, none), (81, none), (82, none)] σ τ0 := by
      rw [hτ]
      exact ((fr_up.mono (by simp)).tr (fr_up.mono (by simp))).tr (fr_up.mono (by simp))
    have g80 : ∀ i, τ0 80 i = if i = 14 * s + d then nI (rload (V 4 s) (V 3 s) vis ask d) else σ 80 i := fun i => by
      rw [hτ, up_cell (by omega), up_cell (by omega), up_at]
      simp only [true_and]
      rfl
    have g81 : ∀ i, τ0 81 i = if i = 14 * s + d then nI (stk (V 4 s) (V 3 s) vis ask (d + 1)) else σ 81 i := fun i => by
      rw [hτ, up_at]
      simp only [true_and]
      by_cases q : i = 14 * s + d
      · rw [if_pos q, if_pos q]
        rfl
      · rw [if_neg q, if_neg q, up_cell (by omega), up_cell (by omega)]
    have g82 : ∀ i, τ0 82 i = if i = 14 * s + d then nI (rmiss (V 4 s) (V 3 s) vis ask d) else σ 82 i := fun i => by
      rw [hτ, up_cell (by omega), up_at]
      simp only [true_and]
      by_cases q : i = 14 * s + d
      · rw [if_pos q, if_pos q]
        rfl
      · rw [if_neg q, if_neg q, up_cell (by omega)]
    obtain ⟨τ, h1, h2, h3, h4, h5⟩ := ih (d + 1) n τ0 (by omega) (by omega) (hr.off hf rfl) (fun e he => by rw [hf.cell (k := 79) rfl]; exact ha e he) (fun e he => by
      unfold rowM
      rw [g80, g81, g82]
      by_cases q : e = d
      · subst q
        simp
      · rw [if_neg (by omega), if_neg (by omega), if_neg (by omega)]
        exact ho e (by omega))
    refine ⟨τ, st.trans h1, h2, h3, fun i hi => ?_, hf.tr h5⟩
    obtain ⟨q1, q2, q3⟩ := h4 i hi
    rw [q1, q2, q3, g80, g81, g82, if_neg (by omega), if_neg (by omega), if_neg (by omega)]
    exact ⟨rfl, rfl, rfl⟩
theorem m_runShop {V : Vw} (hw : WF V) {σ : Sg} (hr : RM V σ) {s vis : Nat} {ask : Nat → Nat} (hs : s < V 0 8) (hv : vis < 2147483648) (hla : ∀ d, d < V 0 0 → ask d < 1000000) (ha : ∀ e, e < V 0 0 → σ 79 (14 * s + e) = nI (ask e)) : ∃ τ, XX10_runShop (nI s) (nI vis) σ = some τ ∧ RM V τ ∧ (∀ e, e < V 0 0 → rowM V s vis ask e τ) ∧ (∀ i, (i < 14 * s ∨ 14 * s + 14 ≤ i) → τ 80 i = σ 80 i ∧ τ 81 i = σ 81 i ∧ τ 82 i = σ 82 i) ∧ fr [(80, none), (81, none), (82, none)] σ τ := by
  have w0 := hw.1.2
  have w8 : V 0 8 ≤ 6 := hw.2.2.2.2.2.2.1
  obtain ⟨τ, h1, h2⟩ := runShop_loop hw hs hv hla (V 0 0) 0 FUEL σ (by omega) (by unfold FUEL; omega) hr ha (fun e he => absurd he (by omega))
  refine ⟨τ, ?_, h2⟩
  unfold XX10_runShop
  rw [if_pos ((ib_nI (by omega)).mpr (by omega)), nI_cl (by omega), (hr.2.1 s hs).2.2.2]
  exact h1
/-- the rows of the whole run -/
def runM (V : Vw) (vis : Nat → Nat) (ask : Nat → Nat → Nat) (σ : Sg) : Prop := ∀ s d, s < V 0 8 → d < V 0 0 → rowM V s (vis s) (ask s) d σ
theorem runAll_loop {V : Vw} (hw : WF V) {ask : Nat → Nat → Nat} (hla : ∀ s d, s < V 0 8 → d < V 0 0 → ask s d < 1000000) : ∀ m s n σ, s + m = V 0 8 → m < n → RM V σ → askM V ask σ → (∀ t d, t < s → d < V 0 0 → rowM V t (V 5 t) (ask t) d σ) → ∃ τ, LX10_runAll_2 n (nI s) σ = some τ ∧ RM V τ ∧ runM V (V 5) ask τ ∧ fr [(80, none), (81, none), (82, none)] σ τ := by
  have w0 := hw.1.2
  have w8 : V 0 8 ≤ 6 := hw.2.2.2.2.2.2.1
  intro m
  induction m with
  | zero =>
    intro s n σ hd hn hr ha ho
    obtain ⟨n, rfl⟩ : ∃ q, n = q + 1 := ⟨n - 1, by omega⟩
    have hd : s = V 0 8 := by omega
    subst hd
    refine ⟨σ, ?_, hr, fun t d ht hd => ho t d ht hd, fr.rf⟩
    rw [LX10_runAll_2]
    simp only [XX10_shops, b1]
    rw [hr.1 8 (by omega), if_pos (by rw [nI_lei] <;> omega)]
  | succ m ih =>
    intro s n σ hd hn hr ha ho
    obtain ⟨n, rfl⟩ : ∃ q, n = q + 1 := ⟨n - 1, by omega⟩
    have hv5 : V 5 s < 2147483648 := by
      have h1 := hw.2.2.2.2.2.2.2.2.2.2.2.2.2.1 s
      have h2 : 2 ^ V 0 0 ≤ 2 ^ 14 := Nat.pow_le_pow_right (by omega) w0
      omega
    obtain ⟨τ, h1, h2, h3, h4, h5⟩ := m_runShop hw hr (show s < V 0 8 by omega) hv5 (fun d hd => hla s d (by omega) hd) (fun e he => ha s e (by omega) he)
    obtain ⟨ρ, g1, g2, g3, g4⟩ := ih (s + 1) n τ (by omega) (by omega) h2 (fun t e ht he => by rw [h5.cell (k := 79) rfl]; exact ha t e ht he) (fun t e ht he => by
      by_cases q : t = s
      · subst q
        exact h3 e he
      · unfold rowM
        obtain ⟨q1, q2, q3⟩ := h4 (14 * t + e) (by omega)
        rw [q1, q2, q3]
        exact ho t e (by omega) he)
    refine ⟨ρ, ?_, g2, g3, h5.tr g4⟩
    rw [LX10_runAll_2]
    simp only [XX10_shops, b1]
    rw [hr.1 8 (by omega), if_neg (by rw [nI_lei] <;> omega)]
    simp (disch := omega) only [b1, b2, lt, nI_lit, pk_mul, nI_add, ib_nI, nI_cl, nI_lei, nI_lti, nI_eqi]
    rw [if_pos (by omega), hr.2.2.1 s (by omega), h1]
    exact g1
theorem m_runAll {V : Vw} (hw : WF V) {σ : Sg} (hr : RM V σ) {ask : Nat → Nat → Nat} (hla : ∀ s d, s < V 0 8 → d < V 0 0 → ask s d < 1000000) (ha : askM V ask σ) : ∃ τ, XX10_runAll σ = some τ ∧ RM V τ ∧ runM V (V 5) ask τ ∧ fr [(80, none), (81, none), (82, none)] σ τ := runAll_loop hw hla (V 0 8) 0 FUEL σ (by omega) (by have : V 0 8 ≤ 6 := hw.2.2.2.2.2.2.1; unfold FUEL; omega) hr ha (fun t d ht => absurd ht (by omega))
/-- what is asked for, as it is -/
theorem ask100 (V : Vw) : (fun s d => aq V s d * 100 / 100) = aq V := by
  funext s d
  omega
theorem m_layRun {V : Vw} (hw : WF V) {σ : Sg} (hr : RM V σ) : ∃ τ, XX10_layRun σ = some τ ∧ RM V τ ∧ askM V (aq V) τ ∧ runM V (V 5) (aq V) τ := by
  obtain ⟨σ1, h1, h2, h3⟩ := m_layAsked hw hr (pct := 100) (by omega)
  rw [ask100] at h3
  obtain ⟨σ2, g1, g2, g3, g4⟩ := m_runAll hw h2 (fun s d hs hd => by have := aq_le hw hs hd; omega) h3
  refine ⟨σ2, ?_, g2, fun s d hs hd => by rw [g4.cell (k := 79) rfl]; exact h3 s d hs hd, g3⟩
  unfold XX10_layRun
  rw [show (100 : Int32) = nI 100 from rfl, h1]
  simp only [b1]
  rw [g1]
