/-! TEXT: the reference's next token -/
def tkK (g : Nat → Nat) (L i : Nat) : Nat := if L ≤ i then 0 else if cL (g i) = true then (if en cL g L i - i ≤ 6 then 1 else 4) else if cD (g i) = true then (if en cD g L i - i ≤ 2 ∧ ¬ (en cD g L i < L ∧ cL (g (en cD g L i)) = true) then 2 else 4) else if g i = 59 then 3 else 4
def tkB (g : Nat → Nat) (L i : Nat) : Nat := if L ≤ i then i else if cL (g i) = true then en cL g L i else if cD (g i) = true then en cD g L i else i + 1
def tkV (g : Nat → Nat) (L i : Nat) : Nat := if cL (g i) = true then wc g i (en cL g L i - i) else nv g i (en cD g L i - i)
theorem m_brun {g : Nat → Nat} {L : Nat} (K : Sg → Option Sg) : ∀ m j n σ, L - j = m → j ≤ L → m < n → TP g L 76 σ → σ 64 15 = nI L → σ 64 17 = nI j → ∃ τ, LX10_goOn_8 K n σ = K τ ∧ τ 64 17 = nI (en cB g L j) ∧ fr [(64, some 17)] σ τ := by
  intro m
  induction m with
  | zero =>
    intro j n σ hm hj hn h h15 h17
    have hL := h.1
    obtain ⟨n, rfl⟩ : ∃ q, n = q + 1 := ⟨n - 1, by omega⟩
    refine ⟨σ, ?_, by rw [en_end (by omega)]; exact h17, fr.rf⟩
    rw [LX10_goOn_8, h17, m_byte h h15 (by omega), b1s, if_pos (show L ≤ j by omega), lt_def, if_neg (by decide), b1s, if_neg (by decide)]
  | succ m ih =>
    intro j n σ hm hj hn h h15 h17
    have hL := h.1
    have hg := h.2.1 j (by omega)
    obtain ⟨n, rfl⟩ : ∃ q, n = q + 1 := ⟨n - 1, by omega⟩
    have f1 : fr [(64, some 17)] σ (up σ 64 17 (nI (j + 1))) := fr_upf
    have go : cB (g j) = true → ∃ τ, LX10_goOn_8 K n (up σ 64 17 (nI (j + 1))) = K τ ∧ τ 64 17 = nI (en cB g L j) ∧ fr [(64, some 17)] σ τ := fun hb => by
      obtain ⟨τ, k1, k2, k3⟩ := ih (j + 1) n (up σ 64 17 (nI (j + 1))) (by omega) (by omega) (by omega) ⟨h.1, h.2.1, fun i hi => by rw [f1.cell (k := 76) rfl]; exact h.2.2 i hi⟩ (by rw [f1.slot (k := 64) (i := 15) rfl]; exact h15) up_same
      exact ⟨τ, k1, by rw [en_go (by omega) hb]; exact k2, f1.tr k3⟩
    by_cases q1 : g j = 32
    · obtain ⟨τ, k1, k2, k3⟩ := go (by rw [q1]; rfl)
      refine ⟨τ, ?_, k2, k3⟩
      rw [LX10_goOn_8, h17, m_byte h h15 (by omega), b1s, if_neg (show ¬ L ≤ j by omega), lt_def, lt_def, nI_1, show (32 : Int32) = nI 32 from rfl, q1, if_pos rfl]
      exact k1
    by_cases q2 : g j = 10
    · obtain ⟨τ, k1, k2, k3⟩ := go (by rw [q2]; rfl)
      refine ⟨τ, ?_, k2, k3⟩
      rw [LX10_goOn_8, h17, m_byte h h15 (by omega), b1s, if_neg (show ¬ L ≤ j by omega), lt_def, lt_def, nI_1, show (32 : Int32) = nI 32 from rfl, if_neg (nI_ne (by omega) (by omega) q1), b1s, show (10 : Int32) = nI 10 from rfl, q2, if_pos rfl]
      exact k1
    · refine ⟨σ, ?_, ?_, fr.rf⟩
      · rw [LX10_goOn_8, h17, m_byte h h15 (by omega), b1s, if_neg (show ¬ L ≤ j by omega), lt_def, show (32 : Int32) = nI 32 from rfl, if_neg (nI_ne (by omega) (by omega) q1), b1s, show (10 : Int32) = nI 10 from rfl, if_neg (nI_ne (by omega) (by omega) q2)]
      · rw [en_no (show cB (g j) = false from decide_eq_false (by omega))]
        exact h17
theorem TP.off {g : Nat → Nat} {L a : Nat} {σ τ : Sg} (h : TP g L a σ) (e : τ a = σ a) : TP g L a τ := ⟨h.1, h.2.1, fun i hi => by rw [e]; exact h.2.2 i hi⟩
theorem m_wrun {g : Nat → Nat} {L : Nat} (i : Nat) (K : Sg → Option Sg) : ∀ m j n σ v, L - j = m → j ≤ L → m < n → i ≤ j → TP g L 76 σ → σ 64 15 = nI L → σ 64 16 = nI i → σ 64 17 = nI j → σ 64 19 = v → (j - i ≤ 6 → v = nI (wc g i (j - i))) → ∃ τ, LX10_goOn_89 K n σ = K τ ∧ τ 64 17 = nI (en cL g L j) ∧ (en cL g L j - i ≤ 6 → τ 64 19 = nI (wc g i (en cL g L j - i))) ∧ fr [(64, some 17), (64, some 19)] σ τ := by
  intro m
  induction m with
  | zero =>
    intro j n σ v hm hj hn hi h h15 h16 h17 h19 hv
    have hL := h.1
    obtain ⟨n, rfl⟩ : ∃ q, n = q + 1 := ⟨n - 1, by omega⟩
    refine ⟨σ, ?_, by rw [en_end (by omega)]; exact h17, by rw [en_end (by omega), h19]; exact hv, fr.rf⟩
    rw [LX10_goOn_89, h17, m_byte h h15 (by omega), b1s, if_pos (show L ≤ j by omega), m_isL1, b1s, if_pos (show nI 0 = 0 by decide)]
  | succ m ih =>
    intro j n σ v hm hj hn hi h h15 h16 h17 h19 hv
    have hL := h.1
    have hg := h.2.1 j (by omega)
    obtain ⟨n, rfl⟩ : ∃ q, n = q + 1 := ⟨n - 1, by omega⟩
    cases q : cL (g j) with
    | false =>
      refine ⟨σ, ?_, by rw [en_no q]; exact h17, by rw [en_no q, h19]; exact hv, fr.rf⟩
      rw [LX10_goOn_89, h17, m_byte h h15 (by omega), b1s, if_neg (show ¬ L ≤ j by omega), m_isL hg, b1s, q, if_pos (show nI (bq false) = 0 by decide)]
    | true =>
      have q2 : 97 ≤ g j ∧ g j ≤ 122 := of_decide_eq_true q
      have go : ∀ v', (j + 1 - i ≤ 6 → v' = nI (wc g i (j + 1 - i))) → ∃ τ, LX10_goOn_89 K n (up (up σ 64 19 v') 64 17 (nI (j + 1))) = K τ ∧ τ 64 17 = nI (en cL g L j) ∧ (en cL g L j - i ≤ 6 → τ 64 19 = nI (wc g i (en cL g L j - i))) ∧ fr [(64, some 17), (64, some 19)] σ τ := fun v' hv' => by
        have f1 : fr [(64, some 17), (64, some 19)] σ (up (up σ 64 19 v') 64 17 (nI (j + 1))) := (fr_upf.mono (by simp)).tr (fr_upf.mono (by simp))
        obtain ⟨τ, k1, k2, k3, k4⟩ := ih (j + 1) n (up (up σ 64 19 v') 64 17 (nI (j + 1))) v' (by omega) (by omega) (by omega) (by omega) (h.off (f1.cell (k := 76) rfl)) (by rw [f1.slot (k := 64) (i := 15) rfl]; exact h15) (by rw [f1.slot (k := 64) (i := 16) rfl]; exact h16) up_same (by rw [up_slot (by omega), up_same]) hv'
        rw [en_go (by omega) q]
        exact ⟨τ, k1, k2, k3, f1.tr k4⟩
      have e7 : ∀ v' : Int32, (up σ 64 19 v') 64 17 + (1 : Int32) = nI (j + 1) := fun v' => by rw [up_slot (by omega), h17, nI_1]
      have ed : nI j - nI i = nI (j - i) := nI_sb hi
      by_cases z : 6 ≤ j - i
      · obtain ⟨τ, k1, k2⟩ := go v (fun y => absurd y (by omega))
        refine ⟨τ, ?_, k2⟩
        rw [LX10_goOn_89, h17, m_byte h h15 (by omega), b1s, if_neg (show ¬ L ≤ j by omega), m_isL hg, b1s, q, if_neg (show ¬ nI (bq true) = 0 by decide), lt_def, h16, ed, show (6 : Int32) = nI 6 from rfl, if_pos ((nI_lei (a := 6) (by omega) (by omega)).mpr z), h19]
        show lt _ _ = _
        rw [lt_def, lt_def, e7]
        exact k1
      · obtain ⟨τ, k1, k2⟩ := go (v * (32 : Int32) + nI (g j) - (96 : Int32)) (fun y => by
          rw [hv (by omega), show (32 : Int32) = nI 32 from rfl, show (96 : Int32) = nI 96 from rfl, pk_mul, nI_add, nI_sb (by omega), show j + 1 - i = j - i + 1 by omega]
          show _ = nI (wc g i (j - i) * 32 + (g (i + (j - i)) - 96))
          rw [show i + (j - i) = j by omega, show wc g i (j - i) * 32 + g j - 96 = wc g i (j - i) * 32 + (g j - 96) by omega])
        refine ⟨τ, ?_, k2⟩
        rw [LX10_goOn_89, h17, m_byte h h15 (by omega), b1s, if_neg (show ¬ L ≤ j by omega), m_isL hg, b1s, q, if_neg (show ¬ nI (bq true) = 0 by decide), lt_def, h16, ed, show (6 : Int32) = nI 6 from rfl, if_neg (fun y => z ((nI_lei (a := 6) (by omega) (by omega)).mp y)), b1s, h19]
        show lt _ _ = _
        rw [lt_def, lt_def, e7]
        exact k1
theorem m_nrun {g : Nat → Nat} {L : Nat} (i : Nat) (K : Sg → Option Sg) : ∀ m j n σ v, L - j = m → j ≤ L → m < n → i ≤ j → TP g L 76 σ → σ 64 15 = nI L → σ 64 17 = nI j → σ 64 19 = v → (∀ t, t < j - i → cD (g (i + t)) = true) → (j - i ≤ 2 → v = nI (nv g i (j - i))) → ∃ τ, LX10_goOn_193 K n σ = K τ ∧ τ 64 17 = nI (en cD g L j) ∧ (en cD g L j - i ≤ 2 → τ 64 19 = nI (nv g i (en cD g L j - i))) ∧ fr [(64, some 17), (64, some 19)] σ τ := by
  intro m
  induction m with
  | zero =>
    intro j n σ v hm hj hn hi h h15 h17 h19 hc hv
    have hL := h.1
    obtain ⟨n, rfl⟩ : ∃ q, n = q + 1 := ⟨n - 1, by omega⟩
    refine ⟨σ, ?_, by rw [en_end (by omega)]; exact h17, by rw [en_end (by omega), h19]; exact hv, fr.rf⟩
    rw [LX10_goOn_193, h17, m_byte h h15 (by omega), b1s, if_pos (show L ≤ j by omega), m_isD1, b1s, if_pos (show nI 0 = 0 by decide)]
  | succ m ih =>
    intro j n σ v hm hj hn hi h h15 h17 h19 hc hv
    have hL := h.1
    have hg := h.2.1 j (by omega)
    obtain ⟨n, rfl⟩ : ∃ q, n = q + 1 := ⟨n - 1, by omega⟩
    cases q : cD (g j) with
    | false =>
      refine ⟨σ, ?_, by rw [en_no q]; exact h17, by rw [en_no q, h19]; exact hv, fr.rf⟩
      rw [LX10_goOn_193, h17, m_byte h h15 (by omega), b1s, if_neg (show ¬ L ≤ j by omega), m_isD hg, b1s, q, if_pos (show nI (bq false) = 0 by decide)]
    | true =>
      have q2 : 48 ≤ g j ∧ g j ≤ 57 := of_decide_eq_true q
      have hc' : ∀ t, t < j + 1 - i → cD (g (i + t)) = true := fun t ht => by
        by_cases z : t = j - i
        · rw [z, show i + (j - i) = j by omega]
          exact q
        · exact hc t (by omega)
      have go : ∀ v', (j + 1 - i ≤ 2 → v' = nI (nv g i (j + 1 - i))) → ∃ τ, LX10_goOn_193 K n (up (up σ 64 19 v') 64 17 (nI (j + 1))) = K τ ∧ τ 64 17 = nI (en cD g L j) ∧ (en cD g L j - i ≤ 2 → τ 64 19 = nI (nv g i (en cD g L j - i))) ∧ fr [(64, some 17), (64, some 19)] σ τ := fun v' hv' => by
        have f1 : fr [(64, some 17), (64, some 19)] σ (up (up σ 64 19 v') 64 17 (nI (j + 1))) := (fr_upf.mono (by simp)).tr (fr_upf.mono (by simp))
        obtain ⟨τ, k1, k2, k3, k4⟩ := ih (j + 1) n (up (up σ 64 19 v') 64 17 (nI (j + 1))) v' (by omega) (by omega) (by omega) (by omega) (h.off (f1.cell (k := 76) rfl)) (by rw [f1.slot (k := 64) (i := 15) rfl]; exact h15) up_same (by rw [up_slot (by omega), up_same]) hc' hv'
        rw [en_go (by omega) q]
        exact ⟨τ, k1, k2, k3, f1.tr k4⟩
      have e7 : ∀ v' : Int32, (up σ 64 19 v') 64 17 + (1 : Int32) = nI (j + 1) := fun v' => by rw [up_slot (by omega), h17, nI_1]
      by_cases z : v ≤ (9999 : Int32)
      · obtain ⟨τ, k1, k2⟩ := go (v * (10 : Int32) + nI (g j) - (48 : Int32)) (fun y => by
          rw [hv (by omega), show (10 : Int32) = nI 10 from rfl, show (48 : Int32) = nI 48 from rfl, pk_mul, nI_add, nI_sb (by omega), show j + 1 - i = j - i + 1 by omega]
          show _ = nI (nv g i (j - i) * 10 + (g (i + (j - i)) - 48))
          rw [show i + (j - i) = j by omega, show nv g i (j - i) * 10 + g j - 48 = nv g i (j - i) * 10 + (g j - 48) by omega])
        refine ⟨τ, ?_, k2⟩
        rw [LX10_goOn_193, h17, m_byte h h15 (by omega), b1s, if_neg (show ¬ L ≤ j by omega), m_isD hg, b1s, q, if_neg (show ¬ nI (bq true) = 0 by decide), lt_def, h19, if_pos z, b1s]
        show lt _ _ = _
        rw [lt_def, lt_def, e7]
        exact k1
      · obtain ⟨τ, k1, k2⟩ := go v (fun y => by
          exfalso
          have hv1 := hv (by omega)
          have nl := nv_lt (g := g) (i := i) (j - i) hc
          have np : 10 ^ (j - i) ≤ 10 ^ 1 := Nat.pow_le_pow_right (by omega) (by omega)
          rw [hv1] at z
          exact z ((nI_lei (b := 9999) (by omega) (by omega)).mpr (by omega)))
        refine ⟨τ, ?_, k2⟩
        rw [LX10_goOn_193, h17, m_byte h h15 (by omega), b1s, if_neg (show ¬ L ≤ j by omega), m_isD hg, b1s, q, if_neg (show ¬ nI (bq true) = 0 by decide), lt_def, h19, if_neg z]
        show lt _ _ = _
        rw [lt_def, lt_def, e7]
        exact k1
