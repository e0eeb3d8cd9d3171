/-! THE LAW: its loop over the calls -/
theorem lawAll {L : Nat} {xs : Nat → Int32} (hL : L ≤ 3072) : ∀ m i n σ, L - i ≤ m → i ≤ L → m + 1 < n → (6 ≤ L ∨ i = 0) → InvE σ → LL_law_18 L xs n (nI i) σ = some 1 := by
  intro m
  induction m with
  | zero =>
    intro i n σ hm hi hn h6 hI
    obtain ⟨n, rfl⟩ : ∃ q, n = q + 1 := ⟨n - 1, by omega⟩
    rw [LL_law_18, if_pos]
    show nI L - (6 : Int32) < nI i
    rcases h6 with h6 | h6
    · rw [show (6 : Int32) = nI 6 from rfl, nI_sb h6, nI_lti (by omega) (by omega)]
      omega
    · have e : L = 0 := by omega
      rw [h6, e]
      decide
  | succ m ih =>
    intro i n σ hm hi hn h6 hI
    obtain ⟨n, rfl⟩ : ∃ q, n = q + 1 := ⟨n - 1, by omega⟩
    by_cases sm : L < 6
    · have i0 : i = 0 := by omega
      rw [LL_law_18, if_pos]
      show nI L - (6 : Int32) < nI i
      rw [i0]
      have hh : L = 0 ∨ L = 1 ∨ L = 2 ∨ L = 3 ∨ L = 4 ∨ L = 5 := by omega
      rcases hh with e | e | e | e | e | e <;> rw [e] <;> decide
    have l6 : 6 ≤ L := by omega
    have eL : Int32.ofNat L - (6 : Int32) = nI (L - 6) := by
      show nI L - (6 : Int32) = _
      rw [show (6 : Int32) = nI 6 from rfl, nI_sb l6]
    rw [LL_law_18, eL]
    by_cases hd : L - 6 < i
    · rw [if_pos ((nI_lti (by omega) (by omega)).mpr hd)]
    have i0 : ib (nI i) L := (ib_nI (by omega)).mpr (by omega)
    have ik : ∀ k : Nat, k < 6 → ib (nI i + nI k) L := fun k hk => by
      rw [nI_add]
      exact (ib_nI (by omega)).mpr (by omega)
    have i1 : ib (nI i + (1 : Int32)) L := ik 1 (by omega)
    have i2 : ib (nI i + (2 : Int32)) L := ik 2 (by omega)
    have i3 : ib (nI i + (3 : Int32)) L := ik 3 (by omega)
    have i4 : ib (nI i + (4 : Int32)) L := ik 4 (by omega)
    have i5 : ib (nI i + (5 : Int32)) L := ik 5 (by omega)
    have step : ∀ τ : Sg, InvE τ → lt (nI i + (6 : Int32)) (fun (x3_6 : Int32) => LL_law_18 L xs n x3_6 τ) = some 1 := fun τ hτ => by
      rw [lt_def, show (6 : Int32) = nI 6 from rfl, nI_add]
      exact ih (i + 6) n τ (by omega) (by omega) (by omega) (Or.inl l6) hτ
    obtain ⟨V, hV⟩ := id hI
    rw [if_neg (show ¬ nI (L - 6) < nI i by rw [nI_lti (by omega) (by omega)]; omega), if_pos i0, lt_def, lt_def]
    generalize xs (nI i).toNatClampNeg &&& (63 : Int32) = w
    by_cases q0 : w = (0 : Int32)
    · rw [if_pos q0, if_pos i1, if_pos i2, if_pos i3, if_pos i4, if_pos i5]
      obtain ⟨r, σ1, τ, e1, e2, e3⟩ := op_feed hV _ _ _ _ _
      rw [e1, b2s, e2, b2s, if_pos rfl]
      exact step τ e3
    rw [if_neg q0]
    by_cases q1 : w = (1 : Int32)
    · rw [if_pos q1, if_pos i1]
      obtain ⟨r, σ1, τ, e1, e2, e3⟩ := op_end hV _
      rw [e1, b2s, e2, b2s, if_pos rfl]
      exact step τ e3
    rw [if_neg q1]
    by_cases q2 : w = (2 : Int32)
    · rw [if_pos q2]
      obtain ⟨r, σ1, τ, e1, e2, e3⟩ := op_text hV
      rw [e1, b2s, e2, b2s, if_pos rfl]
      exact step τ e3
    rw [if_neg q2]
    by_cases q3 : w = (3 : Int32)
    · rw [if_pos q3, if_pos i1]
      obtain ⟨r, τ, e1, e2, e3⟩ := op_fault hV _
      rw [e1, b1s, e2, b2s, if_pos rfl]
      exact step τ e3
    rw [if_neg q3]
    by_cases q4 : w = (4 : Int32)
    · rw [if_pos q4, if_pos i1]
      obtain ⟨r, τ, e1, e2, e3⟩ := op_about hV _
      rw [e1, b1s, e2, b2s, if_pos rfl]
      exact step τ e3
    rw [if_neg q4]
    by_cases q5 : w = (5 : Int32)
    · rw [if_pos q5, if_pos i1, if_pos i2]
      obtain ⟨r, τ, e1, e2, e3⟩ := op_shop hV _ _
      rw [e1, b1s, e2, b2s, if_pos rfl]
      exact step τ e3
    rw [if_neg q5]
    by_cases q6 : w = (6 : Int32)
    · rw [if_pos q6, if_pos i1, if_pos i2]
      obtain ⟨r, τ, e1, e2, e3⟩ := op_load hV _ _
      rw [e1, b1s, e2, b2s, if_pos rfl]
      exact step τ e3
    rw [if_neg q6]
    by_cases q7 : w = (7 : Int32)
    · rw [if_pos q7, if_pos i1, if_pos i2]
      obtain ⟨r, τ, e1, e2, e3⟩ := op_stock hV _ _
      rw [e1, b1s, e2, b2s, if_pos rfl]
      exact step τ e3
    rw [if_neg q7]
    by_cases q8 : w = (8 : Int32)
    · rw [if_pos q8, if_pos i1, if_pos i2]
      obtain ⟨r, τ, e1, e2, e3⟩ := op_lost hV _ _
      rw [e1, b1s, e2, b2s, if_pos rfl]
      exact step τ e3
    rw [if_neg q8]
    by_cases q9 : w = (9 : Int32)
    · rw [if_pos q9, if_pos i1, if_pos i2]
      obtain ⟨r, τ, e1, e2, e3⟩ := op_of hV _ _
      rw [e1, b1s, e2, b2s, if_pos rfl]
      exact step τ e3
    rw [if_neg q9]
    by_cases q10 : w = (10 : Int32)
    · rw [if_pos q10, if_pos i1]
      obtain ⟨r, τ, e1, e2, e3⟩ := op_empty hV _
      rw [e1, b1s, e2, b2s, if_pos rfl]
      exact step τ e3
    rw [if_neg q10]
    by_cases q11 : w = (11 : Int32)
    · rw [if_pos q11, if_pos i1, if_pos i2]
      obtain ⟨r, τ, e1, e2, e3⟩ := op_bears hV _ _
      rw [e1, b1s, e2, b2s, if_pos rfl]
      exact step τ e3
    rw [if_neg q11]
    by_cases q12 : w = (12 : Int32)
    · rw [if_pos q12, if_pos i1, if_pos i2]
      obtain ⟨r, τ, e1, e2, e3⟩ := op_waits hV _ _
      rw [e1, b1s, e2, b2s, if_pos rfl]
      exact step τ e3
    rw [if_neg q12]
    by_cases q13 : w = (13 : Int32)
    · rw [if_pos q13, if_pos i1, if_pos i2, if_pos i3, if_pos i4]
      obtain ⟨r, τ, e1, e2, e3⟩ := op_chance hV _ _ _ _
      rw [e1, b1s, e2, b2s, if_pos rfl]
      exact step τ e3
    rw [if_neg q13]
    by_cases q14 : w = (14 : Int32)
    · rw [if_pos q14, if_pos i1]
      obtain ⟨r, σ1, τ, e1, e2, e3⟩ := op_rounds hV _
      rw [e1, b2s, e2, b2s, if_pos rfl]
      exact step τ e3
    rw [if_neg q14]
    by_cases q15 : w = (15 : Int32)
    · rw [if_pos q15, if_pos i1, if_pos i2, if_pos i3]
      obtain ⟨r, σ1, τ, e1, e2, e3⟩ := op_round hV _ _ _
      rw [e1, b2s, e2, b2s, if_pos rfl]
      exact step τ e3
    rw [if_neg q15]
    by_cases q16 : w = (16 : Int32)
    · rw [if_pos q16, if_pos i1, if_pos i2, if_pos i3]
      obtain ⟨r, σ1, τ, e1, e2, e3⟩ := op_aboard hV _ _ _
      rw [e1, b2s, e2, b2s, if_pos rfl]
      exact step τ e3
    rw [if_neg q16]
    by_cases q17 : w = (17 : Int32)
    · rw [if_pos q17, if_pos i1]
      obtain ⟨r, τ, e1, e2, e3⟩ := op_miles hV _
      rw [e1, b1s, e2, b2s, if_pos rfl]
      exact step τ e3
    rw [if_neg q17]
    by_cases q18 : w = (18 : Int32)
    · rw [if_pos q18, if_pos i1, if_pos i2]
      obtain ⟨r, τ, e1, e2, e3⟩ := op_together hV _ _
      rw [e1, b1s, e2, b2s, if_pos rfl]
      exact step τ e3
    rw [if_neg q18]
    by_cases q19 : w = (19 : Int32)
    · rw [if_pos q19, if_pos i1, if_pos i2]
      obtain ⟨r, σ1, τ, e1, e2, e3⟩ := op_savings hV _ _
      rw [e1, b2s, e2, b2s, if_pos rfl]
      exact step τ e3
    rw [if_neg q19]
    by_cases q20 : w = (20 : Int32)
    · rw [if_pos q20, if_pos i1, if_pos i2, if_pos i3]
      obtain ⟨r, σ1, τ, e1, e2, e3⟩ := op_share hV _ _ _
      rw [e1, b2s, e2, b2s, if_pos rfl]
      exact step τ e3
    rw [if_neg q20]
    by_cases q21 : w = (21 : Int32)
    · rw [if_pos q21, if_pos i1]
      obtain ⟨r, τ, e1, e2, e3⟩ := op_peak hV _
      rw [e1, b1s, e2, b2s, if_pos rfl]
      exact step τ e3
    rw [if_neg q21]
    by_cases q22 : w = (22 : Int32)
    · rw [if_pos q22, if_pos i1]
      obtain ⟨r, σ1, τ, e1, e2, e3⟩ := op_cost hV _
      rw [e1, b2s, e2, b2s, if_pos rfl]
      exact step τ e3
    rw [if_neg q22]
    by_cases q23 : w = (23 : Int32)
    · rw [if_pos q23, if_pos i1]
      obtain ⟨r, σ1, τ, e1, e2, e3⟩ := op_costOf hV _
      rw [e1, b2s, e2, b2s, if_pos rfl]
      exact step τ e3
    rw [if_neg q23]
    by_cases q24 : w = (24 : Int32)
    · rw [if_pos q24, if_pos i1, if_pos i2]
      obtain ⟨r, σ1, τ, e1, e2, e3⟩ := op_worth hV _ _
      rw [e1, b2s, e2, b2s, if_pos rfl]
      exact step τ e3
    rw [if_neg q24]
    by_cases q25 : w = (25 : Int32)
    · rw [if_pos q25, if_pos i1]
      obtain ⟨r, σ1, τ, e1, e2, e3⟩ := op_truck hV _
      rw [e1, b2s, e2, b2s, if_pos rfl]
      exact step τ e3
    rw [if_neg q25]
    by_cases q26 : w = (26 : Int32)
    · rw [if_pos q26]
      obtain ⟨r, σ1, τ, e1, e2, e3⟩ := op_reach hV
      rw [e1, b2s, e2, b2s, if_pos rfl]
      exact step τ e3
    rw [if_neg q26]
    by_cases q27 : w = (27 : Int32)
    · rw [if_pos q27, if_pos i1]
      obtain ⟨r, σ1, τ, e1, e2, e3⟩ := op_scaled hV _
      rw [e1, b2s, e2, b2s, if_pos rfl]
      exact step τ e3
    rw [if_neg q27]
    by_cases q28 : w = (28 : Int32)
    · rw [if_pos q28, if_pos i1, if_pos i2]
      obtain ⟨r, σ1, τ, e1, e2, e3⟩ := op_alone hV _ _
      rw [e1, b2s, e2, b2s, if_pos rfl]
      exact step τ e3
    rw [if_neg q28]
    by_cases q29 : w = (29 : Int32)
    · rw [if_pos q29, if_pos i1, if_pos i2]
      obtain ⟨r, σ1, τ, e1, e2, e3⟩ := op_every hV _ _
      rw [e1, b2s, e2, b2s, if_pos rfl]
      exact step τ e3
    rw [if_neg q29]
    by_cases q30 : w = (30 : Int32)
    · rw [if_pos q30, if_pos i1]
      obtain ⟨r, σ1, τ, e1, e2, e3⟩ := op_joint hV _
      rw [e1, b2s, e2, b2s, if_pos rfl]
      exact step τ e3
    rw [if_neg q30]
    by_cases q31 : w = (31 : Int32)
    · rw [if_pos q31, if_pos i1, if_pos i2]
      obtain ⟨r, σ1, τ, e1, e2, e3⟩ := op_visit hV _ _
      rw [e1, b2s, e2, b2s, if_pos rfl]
      exact step τ e3
    rw [if_neg q31]
    by_cases q32 : w = (32 : Int32)
    · rw [if_pos q32, if_pos i1]
      obtain ⟨r, σ1, τ, e1, e2, e3⟩ := op_rule hV _
      rw [e1, b2s, e2, b2s, if_pos rfl]
      exact step τ e3
    rw [if_neg q32]
    by_cases q33 : w = (33 : Int32)
    · rw [if_pos q33, if_pos i1]
      obtain ⟨r, σ1, τ, e1, e2, e3⟩ := op_better hV _
      rw [e1, b2s, e2, b2s, if_pos rfl]
      exact step τ e3
    rw [if_neg q33]
    by_cases q34 : w = (34 : Int32)
    · rw [if_pos q34, if_pos i1]
      obtain ⟨r, σ1, τ, e1, e2, e3⟩ := op_tune hV _
      rw [e1, b2s, e2, b2s, if_pos rfl]
      exact step τ e3
    rw [if_neg q34]
    by_cases q35 : w = (35 : Int32)
    · rw [if_pos q35]
      obtain ⟨r, σ1, τ, e1, e2, e3⟩ := op_least hV
      rw [e1, b2s, e2, b2s, if_pos rfl]
      exact step τ e3
    rw [if_neg q35]
    by_cases q36 : w = (36 : Int32)
    · rw [if_pos q36]
      obtain ⟨r, σ1, τ, e1, e2, e3⟩ := op_clear hV
      rw [e1, b2s, e2, b2s, if_pos rfl]
      exact step τ e3
    rw [if_neg q36]
    by_cases q37 : w = (37 : Int32)
    · rw [if_pos q37, if_pos i1, if_pos i2, if_pos i3]
      obtain ⟨r, σ1, τ, e1, e2, e3⟩ := op_rush hV _ _ _
      rw [e1, b2s, e2, b2s, if_pos rfl]
      exact step τ e3
    rw [if_neg q37]
    by_cases q38 : w = (38 : Int32)
    · rw [if_pos q38]
      obtain ⟨r, σ1, τ, e1, e2, e3⟩ := op_undo hV
      rw [e1, b2s, e2, b2s, if_pos rfl]
      exact step τ e3
    rw [if_neg q38]
    exact step σ hI
theorem law_pure {L : Nat} {xs : Nat → Int32} (hL : L ≤ 3072) : XL_law L xs = some 1 := by
  obtain ⟨σ2, a1, a2⟩ := start9
  obtain ⟨σ4, b1', b2', b3'⟩ := start10 a2
  unfold XL_law
  rw [lt_def, a1, b1s, lt_def, b1', b1s]
  exact lawAll hL (L - 0) 0 FUEL σ4 (Nat.le_refl _) (Nat.zero_le _) (by unfold FUEL; omega) (Or.inr rfl) ⟨dr0, WD.start.1, b2', b3'⟩
