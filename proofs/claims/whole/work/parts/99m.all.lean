/-! TEXT: a line, all lines -/
theorem mLine_eq (σ : Sg) : XX10_readLine σ = b1 (XX10_isWord (132915 : Int32) σ) (fun (r_1 : Int32) => if r_1 = 0 then (b1 (XX10_isWord (4375028 : Int32) σ) (fun (r_9 : Int32) => if r_9 = 0 then (b1 (XX10_isWord (21582955 : Int32) σ) (fun (r_10 : Int32) => if r_10 = 0 then (b1 (XX10_isWord (277892 : Int32) σ) (fun (r_11 : Int32) => if r_11 = 0 then (b1 (XX10_isWord (409204 : Int32) σ) (fun (r_12 : Int32) => if r_12 = 0 then (b1 (XX10_isWord (631280 : Int32) σ) (fun (r_13 : Int32) => if r_13 = 0 then (b1 (XX10_isWord (611944 : Int32) σ) (fun (r_14 : Int32) => if r_14 = 0 then (b1 (XX10_fails (2 : Int32) σ) (fun (σ_15 : Sg) => lnT σ_15)) else (b1 (XX10_readRush σ) (fun (σ_16 : Sg) => lnT σ_16)))) else (b1 (XX10_readShop σ) (fun (σ_17 : Sg) => lnT σ_17)))) else (b2 (XX10_begins (4 : Int32) σ) (fun (r_18 : Int32) (σ_19 : Sg) => if r_18 = 0 then (lnT σ_19) else (b1 (XX10_reads (7 : Int32) (0 : Int32) (99 : Int32) σ_19) (fun (σ_20 : Sg) => lnT σ_20)))))) else (b2 (XX10_begins (3 : Int32) σ) (fun (r_21 : Int32) (σ_22 : Sg) => if r_21 = 0 then (lnT σ_22) else (b1 (XX10_reads (6 : Int32) (0 : Int32) (9 : Int32) σ_22) (fun (σ_23 : Sg) => lnT σ_23)))))) else (b1 (XX10_readTruck σ) (fun (σ_24 : Sg) => lnT σ_24)))) else (b2 (XX10_begins (1 : Int32) σ) (fun (r_25 : Int32) (σ_26 : Sg) => if r_25 = 0 then (lnT σ_26) else (b1 (XX10_reads (1 : Int32) (0 : Int32) (30 : Int32) σ_26) (fun (σ_27 : Sg) => b1 (XX10_reads (2 : Int32) (0 : Int32) (30 : Int32) σ_27) (fun (σ_28 : Sg) => lnT σ_28))))))) else (b2 (XX10_begins (0 : Int32) σ) (fun (r_29 : Int32) (σ_30 : Sg) => if r_29 = 0 then (lnT σ_30) else (b1 (XX10_reads (0 : Int32) (1 : Int32) (14 : Int32) σ_30) (fun (σ_31 : Sg) => lnT σ_31))))) := rfl
theorem sim_line {g : Nat → Nat} {L T : Nat} {σ0 : Sg} {D : Vw} {k : Nat} {σ σ' : Sg} (hw : WD D) (hc : CTk g L T D k σ) (hm : MSt g L σ0 D k σ') : Sim σ0 (QL g L T σ0 k) (XX4_readLine σ) (XX10_readLine σ') := by
  have c9 := hc.2.2.2.2.2.2.1
  have cl := ck_le g L (ps g L k)
  have o1 : ¬ (1 : Int32) = 0 := by decide
  have z0 : (0 : Int32) = 0 := rfl
  have e0 := m_isW hm (j := 0) (by omega) (w := (132915 : Int32)) rfl
  have e1 := m_isW hm (j := 1) (by omega) (w := (4375028 : Int32)) rfl
  have e2 := m_isW hm (j := 2) (by omega) (w := (21582955 : Int32)) rfl
  have e5 := m_isW hm (j := 5) (by omega) (w := (277892 : Int32)) rfl
  have e6 := m_isW hm (j := 6) (by omega) (w := (409204 : Int32)) rfl
  have e7 := m_isW hm (j := 7) (by omega) (w := (631280 : Int32)) rfl
  have e12 := m_isW hm (j := 12) (by omega) (w := (611944 : Int32)) rfl
  have nn : ∀ j : Nat, j < 20 → ¬ ck g L (ps g L k) = j → ¬ nI (ck g L (ps g L k)) = nI j := fun j hj q => nI_ne (by omega) (by omega) q
  unfold XX4_readLine
  rw [lt_def, c9, mLine_eq, e0, b1s]
  by_cases q0 : ck g L (ps g L k) = 0
  · rw [if_pos q0, if_neg o1, if_pos (show nI (ck g L (ps g L k)) = 0 by rw [q0]; rfl)]
    rcases once_both hw hc hm (j := 0) (by omega) (by rw [q0]; rfl) (a := (0 : Int32)) rfl with ⟨τ, τ', z8, f1, f2, f3, f4⟩ | ⟨τ, τ', f1, f2, f3⟩
    · rw [f1, b2s, lt_def, if_neg o1, f2, b2s, if_neg o1]
      exact (((sim_days (hw.on (by omega)) z8 f3 f4).mono (QL.le (by omega))).w0)
    · rw [f1, b2s, lt_def, if_pos z0, f2, b2s, if_pos z0]
      exact Sim.bd rfl f3 f3.ln
  rw [if_neg q0, if_pos z0, if_neg (show ¬ nI (ck g L (ps g L k)) = 0 from nn 0 (by omega) (by omega)), e1, b1s]
  by_cases q1 : ck g L (ps g L k) = 1
  · rw [if_pos q1, if_neg o1, if_pos (show nI (ck g L (ps g L k)) = 1 by rw [q1]; rfl)]
    rcases once_both hw hc hm (j := 1) (by omega) (by rw [q1]; rfl) (a := (1 : Int32)) rfl with ⟨τ, τ', z8, f1, f2, f3, f4⟩ | ⟨τ, τ', f1, f2, f3⟩
    · rw [f1, b2s, lt_def, if_neg o1, f2, b2s, if_neg o1]
      exact (((sim_depot (hw.on (by omega)) z8 f3 f4).mono (QL.le (by omega))).w0)
    · rw [f1, b2s, lt_def, if_pos z0, f2, b2s, if_pos z0]
      exact Sim.bd rfl f3 f3.ln
  rw [if_neg q1, if_pos z0, if_neg (show ¬ nI (ck g L (ps g L k)) = 1 from nn 1 (by omega) (by omega)), e2, b1s]
  by_cases q2 : ck g L (ps g L k) = 2
  · rw [if_pos q2, if_neg o1, if_pos (show nI (ck g L (ps g L k)) = 2 by rw [q2]; rfl)]
    rcases once_both hw hc hm (j := 2) (by omega) (by rw [q2]; rfl) (a := (2 : Int32)) rfl with ⟨τ, τ', z8, f1, f2, f3, f4⟩ | ⟨τ, τ', f1, f2, f3⟩
    · rw [f1, b2s, lt_def, if_neg o1, mTruck_eq, f2, b2s, if_neg o1]
      exact (((sim_tA (hw.on (by omega)) z8 f3 f4).mono (QL.le (by omega))).w0)
    · rw [f1, b2s, lt_def, if_pos z0, mTruck_eq, f2, b2s, if_pos z0, b1s]
      exact Sim.bd rfl f3 f3.ln
  rw [if_neg q2, if_pos z0, if_neg (show ¬ nI (ck g L (ps g L k)) = 2 from nn 2 (by omega) (by omega)), e5, b1s]
  by_cases q5 : ck g L (ps g L k) = 5
  · rw [if_pos q5, if_neg o1, if_neg (show ¬ nI (ck g L (ps g L k)) = 3 from nn 3 (by omega) (by omega)), if_neg (show ¬ nI (ck g L (ps g L k)) = 4 from nn 4 (by omega) (by omega)), if_pos (show nI (ck g L (ps g L k)) = 5 by rw [q5]; rfl)]
    rcases once_both hw hc hm (j := 3) (by omega) (by rw [q5]; rfl) (a := (3 : Int32)) rfl with ⟨τ, τ', z8, f1, f2, f3, f4⟩ | ⟨τ, τ', f1, f2, f3⟩
    · rw [f1, b2s, lt_def, if_neg o1, f2, b2s, if_neg o1]
      exact (((sim_hold (hw.on (by omega)) z8 f3 f4).mono (QL.le (by omega))).w0)
    · rw [f1, b2s, lt_def, if_pos z0, f2, b2s, if_pos z0]
      exact Sim.bd rfl f3 f3.ln
  rw [if_neg q5, if_pos z0, e6, b1s]
  by_cases q6 : ck g L (ps g L k) = 6
  · rw [if_pos q6, if_neg o1, if_neg (show ¬ nI (ck g L (ps g L k)) = 3 from nn 3 (by omega) (by omega)), if_neg (show ¬ nI (ck g L (ps g L k)) = 4 from nn 4 (by omega) (by omega)), if_neg (show ¬ nI (ck g L (ps g L k)) = 5 from nn 5 (by omega) (by omega)), if_pos (show nI (ck g L (ps g L k)) = 6 by rw [q6]; rfl)]
    rcases once_both hw hc hm (j := 4) (by omega) (by rw [q6]; rfl) (a := (4 : Int32)) rfl with ⟨τ, τ', z8, f1, f2, f3, f4⟩ | ⟨τ, τ', f1, f2, f3⟩
    · rw [f1, b2s, lt_def, if_neg o1, f2, b2s, if_neg o1]
      exact (((sim_lost (hw.on (by omega)) z8 f3 f4).mono (QL.le (by omega))).w0)
    · rw [f1, b2s, lt_def, if_pos z0, f2, b2s, if_pos z0]
      exact Sim.bd rfl f3 f3.ln
  rw [if_neg q6, if_pos z0, e7, b1s]
  by_cases q7 : ck g L (ps g L k) = 7
  · rw [if_pos q7, if_neg o1, if_neg (show ¬ nI (ck g L (ps g L k)) = 3 from nn 3 (by omega) (by omega)), if_neg (show ¬ nI (ck g L (ps g L k)) = 4 from nn 4 (by omega) (by omega)), if_neg (show ¬ nI (ck g L (ps g L k)) = 5 from nn 5 (by omega) (by omega)), if_neg (show ¬ nI (ck g L (ps g L k)) = 6 from nn 6 (by omega) (by omega)), if_pos (show nI (ck g L (ps g L k)) = 7 by rw [q7]; rfl)]
    exact (sim_shop hw hc hm q7).w
  rw [if_neg q7, if_pos z0, e12, b1s]
  by_cases q12 : ck g L (ps g L k) = 12
  · rw [if_pos q12, if_neg o1, if_neg (show ¬ nI (ck g L (ps g L k)) = 3 from nn 3 (by omega) (by omega)), if_neg (show ¬ nI (ck g L (ps g L k)) = 4 from nn 4 (by omega) (by omega)), if_neg (show ¬ nI (ck g L (ps g L k)) = 5 from nn 5 (by omega) (by omega)), if_neg (show ¬ nI (ck g L (ps g L k)) = 6 from nn 6 (by omega) (by omega)), if_neg (show ¬ nI (ck g L (ps g L k)) = 7 from nn 7 (by omega) (by omega)), if_neg (show ¬ nI (ck g L (ps g L k)) = 8 from nn 8 (by omega) (by omega)), if_neg (show ¬ nI (ck g L (ps g L k)) = 9 from nn 9 (by omega) (by omega)), if_neg (show ¬ nI (ck g L (ps g L k)) = 10 from nn 10 (by omega) (by omega)), if_neg (show ¬ nI (ck g L (ps g L k)) = 11 from nn 11 (by omega) (by omega)), if_pos (show nI (ck g L (ps g L k)) = 12 by rw [q12]; rfl)]
    exact (sim_rush hw hc hm q12).w
  rw [if_neg q12, if_pos z0]
  obtain ⟨τ, τ', f1, f2, f3⟩ := ff_both hc hm (w := 2) (by omega) (by omega) (a := (2 : Int32)) rfl
  rw [f2, b1s]
  refine Sim.bd ?_ f3 f3.ln
  rw [f1, b2s, if_pos (Or.inl rfl)]
  by_cases q3 : ck g L (ps g L k) = 3
  · rw [if_pos (show nI (ck g L (ps g L k)) = 3 by rw [q3]; rfl)]
  rw [if_neg (show ¬ nI (ck g L (ps g L k)) = 3 from nn 3 (by omega) (by omega))]
  by_cases q4 : ck g L (ps g L k) = 4
  · rw [if_pos (show nI (ck g L (ps g L k)) = 4 by rw [q4]; rfl)]
  rw [if_neg (show ¬ nI (ck g L (ps g L k)) = 4 from nn 4 (by omega) (by omega))]
  rw [if_neg (show ¬ nI (ck g L (ps g L k)) = 5 from nn 5 (by omega) (by omega)), if_neg (show ¬ nI (ck g L (ps g L k)) = 6 from nn 6 (by omega) (by omega)), if_neg (show ¬ nI (ck g L (ps g L k)) = 7 from nn 7 (by omega) (by omega))]
  by_cases q8 : ck g L (ps g L k) = 8
  · rw [if_pos (show nI (ck g L (ps g L k)) = 8 by rw [q8]; rfl)]
  rw [if_neg (show ¬ nI (ck g L (ps g L k)) = 8 from nn 8 (by omega) (by omega))]
  by_cases q9 : ck g L (ps g L k) = 9
  · rw [if_pos (show nI (ck g L (ps g L k)) = 9 by rw [q9]; rfl)]
  rw [if_neg (show ¬ nI (ck g L (ps g L k)) = 9 from nn 9 (by omega) (by omega))]
  by_cases q10 : ck g L (ps g L k) = 10
  · rw [if_pos (show nI (ck g L (ps g L k)) = 10 by rw [q10]; rfl)]
  rw [if_neg (show ¬ nI (ck g L (ps g L k)) = 10 from nn 10 (by omega) (by omega))]
  by_cases q11 : ck g L (ps g L k) = 11
  · rw [if_pos (show nI (ck g L (ps g L k)) = 11 by rw [q11]; rfl)]
  rw [if_neg (show ¬ nI (ck g L (ps g L k)) = 11 from nn 11 (by omega) (by omega))]
  rw [if_neg (show ¬ nI (ck g L (ps g L k)) = 12 from nn 12 (by omega) (by omega))]
/-- both have read all, or both have met the same fault -/
theorem sim_all {g : Nat → Nat} {L T : Nat} {σ0 : Sg} (Kc : Sg → Option (Int32 × Sg)) (KK : Sg → Option (Int32 × Sg)) : ∀ (m k ln n n' : Nat) (D : Vw) (σ σ' : Sg), T + 1 - k ≤ m → m < n → m + 1 < n' → ln ≤ k → WD D → CSt g L T D k σ → MSt g L σ0 D k σ' → (∃ D τ τ', LX4_readAll_35 Kc n (nI ln) σ = some (1, τ) ∧ LX10_text_121 KK n' σ' = KK τ' ∧ WD D ∧ CD D τ ∧ τ 10 1 = 0 ∧ τ 10 2 = -1 ∧ MD D τ' ∧ τ' 64 22 = 0 ∧ Lv σ0 τ') ∨ (∃ τ τ', LX4_readAll_35 Kc n (nI ln) σ = some (0, τ) ∧ LX10_text_121 KK n' σ' = KK τ' ∧ FF σ0 τ τ') := by
  have o1 : ¬ (1 : Int32) = 0 := by decide
  have z0 : (0 : Int32) = 0 := rfl
  intro m
  induction m with
  | zero =>
    intro k ln n n' D σ σ' hm1 hn hn' hl hw hc hm
    have := hc.2.2.1
    omega
  | succ m ih =>
    intro k ln n n' D σ σ' hm1 hn hn' hl hw hc hm
    obtain ⟨n, rfl⟩ : ∃ q, n = q + 1 := ⟨n - 1, by omega⟩
    obtain ⟨n', rfl⟩ : ∃ q, n' = q + 1 := ⟨n' - 1, by omega⟩
    have kT := hc.2.2.1
    have T8 := hc.1.1
    have cl := ck_le g L (ps g L k)
    have hk := tkK_le g L (ps g L k)
    have m18 := hm.2.2.2.1.2.2.1
    obtain ⟨σ1, s1, s2⟩ := c_step hc
    have c9 := s2.2.2.2.2.2.2.1
    have n8 : ¬ (800 : Int32) < nI ln := by
      rw [show (800 : Int32) = nI 800 from rfl, nI_lti (by omega) (by omega)]
      omega
    rw [LX4_readAll_35, if_neg n8, s1, b1s, c9, LX10_text_121, g_good hm.2.2.1, b1s, if_neg o1, m18]
    by_cases q : ck g L (ps g L k) = 16
    · have hK := ck_0.mp q
      refine Or.inl ⟨D, σ1, σ', ?_, ?_, hw, s2.2.1, s2.2.2.2.2.1, s2.2.2.2.2.2.1, hm.2.2.2.2.1, hm.2.2.1, hm.2.2.2.2.2⟩
      · rw [q, if_pos (show nI 16 = 16 from rfl)]
      · rw [hK, if_pos (show nI 0 = 0 from rfl)]
    · rw [if_neg (show ¬ nI (ck g L (ps g L k)) = 16 from nI_ne (b := 16) (by omega) (by omega) q), if_neg (show ¬ nI (tkK g L (ps g L k)) = 0 from nI_n0 (fun z => q (ck_0.mpr z)) (by omega))]
      rcases sim_line hw s2 hm with ⟨τ, τ', e1, e2, D', k', k1, w1, c1, m1⟩ | ⟨τ, τ', e1, e2, e3⟩
      · rw [e1, b2s, if_neg o1, e2, b1s, lt_def, nI_1]
        exact ih k' (ln + 1) n n' D' τ τ' (by omega) (by omega) (by omega) (by omega) w1 c1 m1
      · obtain ⟨n', rfl⟩ : ∃ q, n' = q + 1 := ⟨n' - 1, by omega⟩
        rw [e1, b2s, if_pos z0, e2, b1s, LX10_text_121, b_good e3.bad, b1s, if_pos z0]
        exact Or.inr ⟨τ, τ', rfl, rfl, e3⟩
