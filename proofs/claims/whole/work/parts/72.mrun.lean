/-! THE REFERENCE: its numbers, what is asked for, its run -/
theorem m_in (a b c : Int32) : XX10_in a b c = some (if a < b then 0 else if c < a then 0 else 1) := by
  unfold XX10_in lt
  split
  · rfl
  · split <;> rfl
theorem m_isOf {v d : Nat} (hv : v < 2147483648) (hd : d < 32) : XX10_isOf (nI v) (nI d) = some (nI (bq (v.testBit d))) := by
  unfold XX10_isOf
  simp only [nI_lit]
  rw [nx_bit hv hd]
  cases v.testBit d <;> rfl
theorem m_lesser {a b : Nat} (ha : a < 2147483648) (hb : b < 2147483648) : XX10_lesser (nI a) (nI b) = some (nI (min a b)) := by
  unfold XX10_lesser
  by_cases h : b ≤ a
  · rw [if_pos ((nI_lei hb ha).mpr h), Nat.min_eq_right h]
  · rw [if_neg (fun q => h ((nI_lei hb ha).mp q)), Nat.min_eq_left (by omega)]
theorem in_shop {n : Nat} {x : Int32} (hn : n < 100) : XX10_in x 0 (nI n - 1) = some (if ib x n then 1 else 0) := by
  rw [m_in]
  rcases pk_ix x (n := n) (by omega) with h | h | ⟨j, hj, rfl⟩
  · rw [if_pos h, if_neg (fun q => q (Or.inl h))]
  · have h0 : ¬ x < 0 := fun q => by
      have h1 := Int32.lt_iff_toInt_lt.mp q
      have h2 := Int32.le_iff_toInt_le.mp h
      rw [nI_toInt (by omega)] at h2
      rw [Int32.toInt_zero] at h1
      omega
    obtain ⟨j, hj, rfl⟩ := nI_of h0
    have hj2 : n ≤ j := (nI_lei (by omega) hj).mp h
    rw [if_neg h0]
    have e : nI n - 1 < nI j := by
      cases n with
      | zero =>
        rw [Int32.lt_iff_toInt_lt, nI_toInt hj]
        show (-1 : Int) < _
        omega
      | succ n =>
        rw [nI_pred]
        exact (nI_lti (by omega) hj).mpr (by omega)
    rw [if_pos e, if_neg (fun q => absurd ((ib_nI hj).mp q) (by omega))]
  · have e : nI n - 1 = nI (n - 1) := by
      obtain ⟨q, rfl⟩ : ∃ q, n = q + 1 := ⟨n - 1, by omega⟩
      exact nI_pred q
    rw [e, if_neg (nI_pos (by omega)), if_neg (by rw [nI_lti] <;> omega), if_pos ((ib_nI (by omega)).mpr hj)]
theorem m_isShop {σ : Sg} {n : Nat} {x : Int32} (h : σ 65 8 = nI n) (hn : n < 100) : XX10_isShop x σ = some (if ib x n then 1 else 0) := by
  unfold XX10_isShop XX10_shops
  simp only [b1]
  rw [h, in_shop hn]
  simp only [b1]
  split <;> rfl
theorem m_isDay {σ : Sg} {n : Nat} {x : Int32} (h : σ 65 0 = nI n) (hn : n < 100) : XX10_isDay x σ = some (if ib x n then 1 else 0) := by
  unfold XX10_isDay XX10_days
  simp only [b1]
  rw [h, in_shop hn]
  simp only [b1]
  split <;> rfl
theorem m_isAt {σ : Sg} {n D : Nat} {x y : Int32} (h : σ 65 8 = nI n) (hn : n < 100) (h2 : σ 65 0 = nI D) (hD : D < 100) : XX10_isAt x y σ = some (if ib x n ∧ ib y D then 1 else 0) := by
  unfold XX10_isAt
  rw [m_isShop h hn]
  by_cases hx : ib x n
  · rw [if_pos hx]
    simp only [b1, lt]
    rw [if_neg (by decide), m_isDay h2 hD]
    by_cases hy : ib y D
    · rw [if_pos hy, if_pos ⟨hx, hy⟩]
      rfl
    · rw [if_neg hy, if_neg (fun q => hy q.2)]
      rfl
  · rw [if_neg hx, if_neg (fun q => hx q.1)]
    rfl
theorem asked_loop {V : Vw} {σ : Sg} (hw : WF V) (hr : RM V σ) {s d b : Nat} (hs : s < V 0 8) (hd : d < V 0 0) (hb : b ≤ 30) : ∀ m k n, k + m = V 0 9 → m < n → LX10_askedOf_22 (nI s) (nI d) σ n (nI (b + sumN (fun k => if V 7 k = 14 * s + d then V 8 k else 0) k)) (nI k) = some (nI (b + sumN (fun k => if V 7 k = 14 * s + d then V 8 k else 0) (V 0 9))) := by
  obtain ⟨⟨-, w0⟩, -, -, -, -, -, w8, w9, -, -, -, -, -, -, -, w6, w7, -⟩ := hw
  obtain ⟨r0, -, -, -, r7, -⟩ := hr
  intro m
  induction m with
  | zero =>
    intro k n hk hn
    obtain ⟨n, rfl⟩ : ∃ q, n = q + 1 := ⟨n - 1, by omega⟩
    rw [LX10_askedOf_22]
    have hk : k = V 0 9 := by omega
    subst hk
    simp (disch := omega) only [XX10_number, b1, b2, lt, nI_lit, pk_mul, nI_add, ib_nI, nI_cl, nI_lei, nI_lti, nI_eqi]
    rw [if_pos (by omega), r0 9 (by omega)]
    simp only []
    rw [if_pos (by rw [nI_lei] <;> omega)]
  | succ m ih =>
    intro k n hk hn
    obtain ⟨n, rfl⟩ : ∃ q, n = q + 1 := ⟨n - 1, by omega⟩
    obtain ⟨s', d', h1, h2, h3, h4, h5, h6⟩ := r7 k (by omega)
    obtain ⟨-, h7, h8⟩ := w7 k (by omega)
    rw [LX10_askedOf_22]
    simp (disch := omega) only [XX10_number, b1, b2, lt, nI_lit, pk_mul, nI_add, ib_nI, nI_cl, nI_lei, nI_lti, nI_eqi]
    rw [if_pos (by omega), r0 9 (by omega)]
    simp only []
    rw [if_neg (by rw [nI_lei] <;> omega), if_pos (by omega), h4, h5, h6]
    have key := ih (k + 1) n (by omega) (by omega)
    have e : sumN (fun k => if V 7 k = 14 * s + d then V 8 k else 0) (k + 1) = sumN (fun k => if V 7 k = 14 * s + d then V 8 k else 0) k + (if V 7 k = 14 * s + d then V 8 k else 0) := rfl
    rw [e] at key
    by_cases hq : s' = s
    · subst hq
      rw [if_pos rfl]
      by_cases hq2 : d' = d
      · subst hq2
        rw [if_pos rfl]
        rw [if_pos h3] at key
        simp (disch := omega) only [nI_lit, pk_mul, nI_add, ib_nI, nI_cl, nI_lei, nI_lti, nI_eqi]
        rw [Nat.add_assoc]
        exact key
      · rw [if_neg (by rw [nI_eqi] <;> omega)]
        rw [if_neg (by omega)] at key
        rw [Nat.add_assoc]
        exact key
    · rw [if_neg (by rw [nI_eqi] <;> omega)]
      rw [if_neg (by omega)] at key
      rw [Nat.add_assoc]
      exact key
theorem m_askedOf {V : Vw} {σ : Sg} (hw : WF V) (hr : RM V σ) {s d : Nat} (hs : s < V 0 8) (hd : d < V 0 0) : XX10_askedOf (nI s) (nI d) σ = some (nI (aq V s d)) := by
  have key := asked_loop (b := V 6 (14 * s + d)) hw hr hs hd
  obtain ⟨⟨-, w0⟩, -, -, -, -, -, w8, w9, -, -, -, -, -, -, -, w6, w7, -⟩ := hw
  obtain ⟨r0, -, -, r6, -⟩ := hr
  obtain ⟨n, n1, n2, h1, h2⟩ := r6 s hs
  have h3 := h2 d hd
  unfold XX10_askedOf
  simp only [nI_lit]
  have hm : d % n < 7 := Nat.lt_of_lt_of_le (Nat.mod_lt d (by omega)) n2
  have h30 := w6 s d hs hd
  have e7 : nI 7 * nI s + (nI d - nI d / nI n * nI n) = nI (7 * s + d % n) := by
    rw [pk_rem (by omega) (by omega) (by omega), pk_mul, nI_add]
  rw [if_pos ((ib_nI (by omega)).mpr (by omega)), nI_cl (by omega), h1, if_pos (nI_ne (by omega) (by omega) (by omega)), e7, if_pos ((ib_nI (by omega)).mpr (by omega)), nI_cl (by omega), h3]
  exact key h30 (V 0 9) 0 FUEL (by omega) (by unfold FUEL; omega)
/-- the row of what is asked for, by shops and days -/
def askM (V : Vw) (f : Nat → Nat → Nat) (σ : Sg) : Prop := ∀ s d, s < V 0 8 → d < V 0 0 → σ 79 (14 * s + d) = nI (f s d)
theorem layAsked_in {V : Vw} (hw : WF V) {pct s : Nat} (hp : pct ≤ 300) (hs : s < V 0 8) (K : Sg → Option Sg) : ∀ m d n σ, d + m = V 0 0 → m < n → RM V σ → (∀ e, e < d → σ 79 (14 * s + e) = nI (aq V s e * pct / 100)) → ∃ τ, LX10_layAsked_12 (nI pct) (nI s) K n (nI d) σ = K τ ∧ RM V τ ∧ (∀ e, e < V 0 0 → τ 79 (14 * s + e) = nI (aq V s e * pct / 100)) ∧ (∀ i, (i < 14 * s ∨ 14 * s + 14 ≤ i) → τ 79 i = σ 79 i) ∧ fr [(79, none)] σ τ := by
  have w0 := hw.1.2
  have w8 : V 0 8 ≤ 6 := hw.2.2.2.2.2.2.1
  intro m
  induction m with
  | zero =>
    intro d n σ hd hn hr ho
    obtain ⟨n, rfl⟩ : ∃ q, n = q + 1 := ⟨n - 1, by omega⟩
    have hd : d = V 0 0 := by omega
    subst hd
    refine ⟨σ, ?_, hr, ho, fun _ _ => rfl, fr.rf⟩
    rw [LX10_layAsked_12]
    simp only [XX10_days, b1]
    rw [hr.1 0 (by omega), if_pos (by rw [nI_lei] <;> omega)]
  | succ m ih =>
    intro d n σ hd hn hr ho
    obtain ⟨n, rfl⟩ : ∃ q, n = q + 1 := ⟨n - 1, by omega⟩
    have ha := aq_le hw hs (show d < V 0 0 by omega)
    have hb : aq V s d * pct ≤ 750 * 300 := Nat.mul_le_mul ha hp
    have hf : fr [(79, none)] σ (up σ 79 (14 * s + d) (nI (aq V s d * pct / 100))) := fr_up
    obtain ⟨τ, h1, h2, h3, h4, h5⟩ := ih (d + 1) n (up σ 79 (14 * s + d) (nI (aq V s d * pct / 100))) (by omega) (by omega) (hr.off hf rfl) (fun e he => by
      rw [up_at]
      by_cases q : e = d
      · subst q
        rw [if_pos ⟨rfl, rfl⟩]
      · rw [if_neg (by omega)]
        exact ho e (by omega))
    refine ⟨τ, ?_, h2, h3, fun i hi => ?_, hf.tr h5⟩
    · rw [LX10_layAsked_12]
      simp only [XX10_days, b1]
      rw [hr.1 0 (by omega), if_neg (by rw [nI_lei] <;> omega), m_askedOf hw hr hs (by omega)]
      simp (disch := omega) only [b1, b2, lt, nI_lit, pk_mul, nI_add, ib_nI, nI_cl, nI_lei, nI_lti, nI_eqi]
      rw [if_pos (by omega), pk_div (by omega) (by omega) (by omega)]
      exact h1
    · rw [h4 i hi, up_at, if_neg (by omega)]
theorem layAsked_out {V : Vw} (hw : WF V) {pct : Nat} (hp : pct ≤ 300) : ∀ m s n σ, s + m = V 0 8 → m < n → RM V σ → (∀ t e, t < s → e < V 0 0 → σ 79 (14 * t + e) = nI (aq V t e * pct / 100)) → ∃ τ, LX10_layAsked_2 (nI pct) n (nI s) σ = some τ ∧ RM V τ ∧ askM V (fun s d => aq V s d * pct / 100) τ := by
  have w0 := hw.1.2
  have w8 : V 0 8 ≤ 6 := hw.2.2.2.2.2.2.1
  intro m
  induction m with
  | zero =>
    intro s n σ hd hn hr ho
    obtain ⟨n, rfl⟩ : ∃ q, n = q + 1 := ⟨n - 1, by omega⟩
    have hd : s = V 0 8 := by omega
    subst hd
    refine ⟨σ, ?_, hr, fun t e ht he => ho t e ht he⟩
    rw [LX10_layAsked_2]
    simp only [XX10_shops, b1]
    rw [hr.1 8 (by omega), if_pos (by rw [nI_lei] <;> omega)]
  | succ m ih =>
    intro s n σ hd hn hr ho
    obtain ⟨n, rfl⟩ : ∃ q, n = q + 1 := ⟨n - 1, by omega⟩
    obtain ⟨τ, h1, h2, h3, h4, h5⟩ := layAsked_in hw hp (show s < V 0 8 by omega) (fun σ_4 => LX10_layAsked_2 (nI pct) n (nI (s + 1)) σ_4) (V 0 0) 0 FUEL σ (by omega) (by unfold FUEL; omega) hr (fun e he => absurd he (by omega))
    obtain ⟨ρ, g1, g2, g3⟩ := ih (s + 1) n τ (by omega) (by omega) h2 (fun t e ht he => by
      by_cases q : t = s
      · subst q
        exact h3 e he
      · rw [h4 _ (by omega)]
        exact ho t e (by omega) he)
    refine ⟨ρ, ?_, g2, g3⟩
    rw [LX10_layAsked_2]
    simp only [XX10_shops, b1]
    rw [hr.1 8 (by omega), if_neg (by rw [nI_lei] <;> omega)]
    simp (disch := omega) only [b1, b2, lt, nI_lit, pk_mul, nI_add, ib_nI, nI_cl, nI_lei, nI_lti, nI_eqi]
    rw [h1]
    exact g1
theorem m_layAsked {V : Vw} (hw : WF V) {σ : Sg} (hr : RM V σ) {pct : Nat} (hp : pct ≤ 300) : ∃ τ, XX10_layAsked (nI pct) σ = some τ ∧ RM V τ ∧ askM V (fun s d => aq V s d * pct / 100) τ := layAsked_out hw hp (V 0 8) 0 FUEL σ (by omega) (by have : V 0 8 ≤ 6 := hw.2.2.2.2.2.2.1; unfold FUEL; omega) hr (fun t e ht => absurd ht (by omega))
