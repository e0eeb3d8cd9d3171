/-! TEXT: the reference takes the draft over -/
theorem st_num : ∀ m i n σ, i + m = 10 → m < n → ∃ τ, (∀ K : Sg → Option Sg, LX10_stands_2 K n (nI i) σ = K τ) ∧ (∀ j, i ≤ j → j < 10 → τ 65 j = σ 65 (10 + j)) ∧ (∀ j, j < i ∨ 10 ≤ j → τ 65 j = σ 65 j) ∧ fr [(65, none)] σ τ := by
  intro m
  induction m with
  | zero =>
    intro i n σ hi hn
    obtain ⟨n, rfl⟩ : ∃ q, n = q + 1 := ⟨n - 1, by omega⟩
    refine ⟨σ, fun K => ?_, fun j j1 j2 => absurd j2 (by omega), fun _ _ => rfl, fr.rf⟩
    rw [LX10_stands_2, show (10 : Int32) = nI 10 from rfl, if_pos ((nI_lei (by omega) (by omega)).mpr (by omega))]
  | succ m ih =>
    intro i n σ hi hn
    obtain ⟨n, rfl⟩ : ∃ q, n = q + 1 := ⟨n - 1, by omega⟩
    obtain ⟨ρ, hρ⟩ : ∃ ρ, ρ = up (σ) 65 i (σ 65 (10 + i)) := ⟨_, rfl⟩
    have s65 : ρ 65 i = σ 65 (10 + i) := by
      rw [hρ, up_same]
    have o65 : ∀ j, j ≠ i → ρ 65 j = σ 65 j := fun j q => by
      rw [hρ, up_slot q]
    obtain ⟨τ, k1, a65, b65, kf⟩ := ih (i + 1) n ρ (by omega) (by omega)
    refine ⟨τ, fun K => ?_, fun j j1 j2 => ?_, fun j j1 => ?_, fr.tr (by rw [hρ]; exact fr_up) kf⟩
    · rw [LX10_stands_2, show (10 : Int32) = nI 10 from rfl, if_neg (by rw [nI_lei] <;> omega), nI_add, if_pos ((ib_nI (by omega)).mpr (by omega)), if_pos ((ib_nI (by omega)).mpr (by omega)), nI_cl (show i < 2147483648 by omega), nI_cl (show 10 + i < 2147483648 by omega), lt_def, ← hρ, lt_def, nI_1]
      exact k1 K
    · by_cases q : j = i
      · rw [q, b65 i (by omega), s65]
      · rw [a65 j (by omega) j2, o65 _ (by omega)]
    · rw [b65 j (by omega), o65 j (by omega)]
theorem st_sell : ∀ m i n σ, i + m = 42 → m < n → ∃ τ, (∀ K : Sg → Option Sg, LX10_stands_127 K n (nI i) σ = K τ) ∧ (∀ j, i ≤ j → j < 42 → τ 71 j = σ 71 (42 + j)) ∧ (∀ j, j < i ∨ 42 ≤ j → τ 71 j = σ 71 j) ∧ fr [(71, none)] σ τ := by
  intro m
  induction m with
  | zero =>
    intro i n σ hi hn
    obtain ⟨n, rfl⟩ : ∃ q, n = q + 1 := ⟨n - 1, by omega⟩
    refine ⟨σ, fun K => ?_, fun j j1 j2 => absurd j2 (by omega), fun _ _ => rfl, fr.rf⟩
    rw [LX10_stands_127, show (42 : Int32) = nI 42 from rfl, if_pos ((nI_lei (by omega) (by omega)).mpr (by omega))]
  | succ m ih =>
    intro i n σ hi hn
    obtain ⟨n, rfl⟩ : ∃ q, n = q + 1 := ⟨n - 1, by omega⟩
    obtain ⟨ρ, hρ⟩ : ∃ ρ, ρ = up (σ) 71 i (σ 71 (42 + i)) := ⟨_, rfl⟩
    have s71 : ρ 71 i = σ 71 (42 + i) := by
      rw [hρ, up_same]
    have o71 : ∀ j, j ≠ i → ρ 71 j = σ 71 j := fun j q => by
      rw [hρ, up_slot q]
    obtain ⟨τ, k1, a71, b71, kf⟩ := ih (i + 1) n ρ (by omega) (by omega)
    refine ⟨τ, fun K => ?_, fun j j1 j2 => ?_, fun j j1 => ?_, fr.tr (by rw [hρ]; exact fr_up) kf⟩
    · rw [LX10_stands_127, show (42 : Int32) = nI 42 from rfl, if_neg (by rw [nI_lei] <;> omega), nI_add, if_pos ((ib_nI (by omega)).mpr (by omega)), if_pos ((ib_nI (by omega)).mpr (by omega)), nI_cl (show i < 2147483648 by omega), nI_cl (show 42 + i < 2147483648 by omega), lt_def, ← hρ, lt_def, nI_1]
      exact k1 K
    · by_cases q : j = i
      · rw [q, b71 i (by omega), s71]
      · rw [a71 j (by omega) j2, o71 _ (by omega)]
    · rw [b71 j (by omega), o71 j (by omega)]
theorem st_rush : ∀ m i n σ, i + m = 12 → m < n → ∃ τ, (∀ K : Sg → Option Sg, LX10_stands_156 K n (nI i) σ = K τ) ∧ (∀ j, i ≤ j → j < 12 → τ 72 j = σ 72 (12 + j)) ∧ (∀ j, j < i ∨ 12 ≤ j → τ 72 j = σ 72 j) ∧ (∀ j, i ≤ j → j < 12 → τ 73 j = σ 73 (12 + j)) ∧ (∀ j, j < i ∨ 12 ≤ j → τ 73 j = σ 73 j) ∧ (∀ j, i ≤ j → j < 12 → τ 74 j = σ 74 (12 + j)) ∧ (∀ j, j < i ∨ 12 ≤ j → τ 74 j = σ 74 j) ∧ fr [(72, none), (73, none), (74, none)] σ τ := by
  intro m
  induction m with
  | zero =>
    intro i n σ hi hn
    obtain ⟨n, rfl⟩ : ∃ q, n = q + 1 := ⟨n - 1, by omega⟩
    refine ⟨σ, fun K => ?_, fun j j1 j2 => absurd j2 (by omega), fun _ _ => rfl, fun j j1 j2 => absurd j2 (by omega), fun _ _ => rfl, fun j j1 j2 => absurd j2 (by omega), fun _ _ => rfl, fr.rf⟩
    rw [LX10_stands_156, show (12 : Int32) = nI 12 from rfl, if_pos ((nI_lei (by omega) (by omega)).mpr (by omega))]
  | succ m ih =>
    intro i n σ hi hn
    obtain ⟨n, rfl⟩ : ∃ q, n = q + 1 := ⟨n - 1, by omega⟩
    obtain ⟨ρ, hρ⟩ : ∃ ρ, ρ = up (up (up (σ) 72 i (σ 72 (12 + i))) 73 i (σ 73 (12 + i))) 74 i (σ 74 (12 + i)) := ⟨_, rfl⟩
    have s72 : ρ 72 i = σ 72 (12 + i) := by
      rw [hρ, up_cell (by omega), up_cell (by omega), up_same]
    have o72 : ∀ j, j ≠ i → ρ 72 j = σ 72 j := fun j q => by
      rw [hρ, up_cell (by omega), up_cell (by omega), up_slot q]
    have s73 : ρ 73 i = σ 73 (12 + i) := by
      rw [hρ, up_cell (by omega), up_same]
    have o73 : ∀ j, j ≠ i → ρ 73 j = σ 73 j := fun j q => by
      rw [hρ, up_cell (by omega), up_slot q, up_cell (by omega)]
    have s74 : ρ 74 i = σ 74 (12 + i) := by
      rw [hρ, up_same]
    have o74 : ∀ j, j ≠ i → ρ 74 j = σ 74 j := fun j q => by
      rw [hρ, up_slot q, up_cell (by omega), up_cell (by omega)]
    obtain ⟨τ, k1, a72, b72, a73, b73, a74, b74, kf⟩ := ih (i + 1) n ρ (by omega) (by omega)
    refine ⟨τ, fun K => ?_, fun j j1 j2 => ?_, fun j j1 => ?_, fun j j1 j2 => ?_, fun j j1 => ?_, fun j j1 j2 => ?_, fun j j1 => ?_, fr.tr (by rw [hρ]; exact (((fr_up.mono (by simp)).tr (fr_up.mono (by simp))).tr (fr_up.mono (by simp)))) kf⟩
    · rw [LX10_stands_156, show (12 : Int32) = nI 12 from rfl, if_neg (by rw [nI_lei] <;> omega), nI_add, if_pos ((ib_nI (by omega)).mpr (by omega)), if_pos ((ib_nI (by omega)).mpr (by omega)), nI_cl (show i < 2147483648 by omega), nI_cl (show 12 + i < 2147483648 by omega), lt_def, up_cell (show 73 ≠ 72 by omega), lt_def, up_cell (show 74 ≠ 73 by omega), up_cell (show 74 ≠ 72 by omega), lt_def, ← hρ, lt_def, nI_1]
      exact k1 K
    · by_cases q : j = i
      · rw [q, b72 i (by omega), s72]
      · rw [a72 j (by omega) j2, o72 _ (by omega)]
    · rw [b72 j (by omega), o72 j (by omega)]
    · by_cases q : j = i
      · rw [q, b73 i (by omega), s73]
      · rw [a73 j (by omega) j2, o73 _ (by omega)]
    · rw [b73 j (by omega), o73 j (by omega)]
    · by_cases q : j = i
      · rw [q, b74 i (by omega), s74]
      · rw [a74 j (by omega) j2, o74 _ (by omega)]
    · rw [b74 j (by omega), o74 j (by omega)]
theorem st_shop : ∀ m i n σ, i + m = 6 → m < n → ∃ τ, (∀ K : Sg → Option Sg, LX10_stands_31 K n (nI i) σ = K τ) ∧ (∀ c j, 66 ≤ c → c ≤ 70 → i ≤ j → j < 6 → τ c j = σ c (6 + j)) ∧ (∀ c j, 66 ≤ c → c ≤ 70 → j < i ∨ 6 ≤ j → τ c j = σ c j) ∧ (∀ j, i ≤ j → j < 6 → τ 78 j = 0) ∧ (∀ j, j < i → τ 78 j = σ 78 j) ∧ fr [(66, none), (67, none), (68, none), (69, none), (70, none), (78, none)] σ τ := by
  intro m
  induction m with
  | zero =>
    intro i n σ hi hn
    obtain ⟨n, rfl⟩ : ∃ q, n = q + 1 := ⟨n - 1, by omega⟩
    refine ⟨σ, fun K => ?_, fun c j c1 c2 j1 j2 => absurd j2 (by omega), fun _ _ _ _ _ => rfl, fun j j1 j2 => absurd j2 (by omega), fun _ _ => rfl, fr.rf⟩
    rw [LX10_stands_31, show (6 : Int32) = nI 6 from rfl, if_pos ((nI_lei (by omega) (by omega)).mpr (by omega))]
  | succ m ih =>
    intro i n σ hi hn
    obtain ⟨n, rfl⟩ : ∃ q, n = q + 1 := ⟨n - 1, by omega⟩
    obtain ⟨ρ, hρ⟩ : ∃ ρ, ρ = up (up (up (up (up (up σ 66 i (σ 66 (6 + i))) 67 i (σ 67 (6 + i))) 68 i (σ 68 (6 + i))) 69 i (σ 69 (6 + i))) 70 i (σ 70 (6 + i))) 78 i 0 := ⟨_, rfl⟩
    have s : ∀ c, 66 ≤ c → c ≤ 70 → ρ c i = σ c (6 + i) := fun c c1 c2 => by
      have : c = 66 ∨ c = 67 ∨ c = 68 ∨ c = 69 ∨ c = 70 := by omega
      rcases this with rfl | rfl | rfl | rfl | rfl
      · rw [hρ, up_cell (by omega), up_cell (by omega), up_cell (by omega), up_cell (by omega), up_cell (by omega), up_same]
      · rw [hρ, up_cell (by omega), up_cell (by omega), up_cell (by omega), up_cell (by omega), up_same]
      · rw [hρ, up_cell (by omega), up_cell (by omega), up_cell (by omega), up_same]
      · rw [hρ, up_cell (by omega), up_cell (by omega), up_same]
      · rw [hρ, up_cell (by omega), up_same]
    have o : ∀ c j, 66 ≤ c → c ≤ 70 → j ≠ i → ρ c j = σ c j := fun c j c1 c2 q => by
      rw [hρ, up_at, if_neg (by omega), up_at, if_neg (by omega), up_at, if_neg (by omega), up_at, if_neg (by omega), up_at, if_neg (by omega), up_at, if_neg (by omega)]
    have s78 : ρ 78 i = 0 := by
      rw [hρ, up_same]
    have o78 : ∀ j, j ≠ i → ρ 78 j = σ 78 j := fun j q => by
      rw [hρ, up_slot q, up_cell (by omega), up_cell (by omega), up_cell (by omega), up_cell (by omega), up_cell (by omega)]
    obtain ⟨τ, k1, k2, k3, k4, k5, k6⟩ := ih (i + 1) n ρ (by omega) (by omega)
    have fρ : fr [(66, none), (67, none), (68, none), (69, none), (70, none), (78, none)] σ ρ := by
      rw [hρ]
      exact (((((fr_up.mono (by simp)).tr (fr_up.mono (by simp))).tr (fr_up.mono (by simp))).tr (fr_up.mono (by simp))).tr (fr_up.mono (by simp))).tr (fr_up.mono (by simp))
    refine ⟨τ, fun K => ?_, fun c j c1 c2 j1 j2 => ?_, fun c j c1 c2 j1 => ?_, fun j j1 j2 => ?_, fun j j1 => ?_, fρ.tr k6⟩
    · rw [LX10_stands_31, show (6 : Int32) = nI 6 from rfl, if_neg (by rw [nI_lei] <;> omega), nI_add, if_pos ((ib_nI (by omega)).mpr (by omega)), if_pos ((ib_nI (by omega)).mpr (by omega))]
      have i6 : ib (nI i) 6 := (ib_nI (by omega)).mpr (by omega)
      have w : ∀ (c : Nat) (v : Int32) (ζ : Sg), up ζ c (nI i).toNatClampNeg v = up ζ c i v := fun c v ζ => by rw [nI_cl (by omega)]
      have r6 : (nI (6 + i)).toNatClampNeg = 6 + i := nI_cl (by omega)
      rw [r6, w, lt_def, w, up_cell (show 67 ≠ 66 by omega), lt_def, w, up_cell (show 68 ≠ 67 by omega), up_cell (show 68 ≠ 66 by omega), lt_def, w, up_cell (show 69 ≠ 68 by omega), up_cell (show 69 ≠ 67 by omega), up_cell (show 69 ≠ 66 by omega), lt_def, w, up_cell (show 70 ≠ 69 by omega), up_cell (show 70 ≠ 68 by omega), up_cell (show 70 ≠ 67 by omega), up_cell (show 70 ≠ 66 by omega), lt_def, if_pos i6, w, ← hρ, lt_def, lt_def, nI_1]
      exact k1 K
    · by_cases q : j = i
      · rw [q, k3 c i c1 c2 (by omega), s c c1 c2]
      · rw [k2 c j c1 c2 (by omega) j2, o c _ c1 c2 (by omega)]
    · rw [k3 c j c1 c2 (by omega), o c j c1 c2 (by omega)]
    · by_cases q : j = i
      · rw [q, k5 i (by omega), s78]
      · exact k4 j (by omega) j2
    · rw [k5 j (by omega), o78 j (by omega)]
theorem m_stands {D : Vw} (hw : WF D) {σ : Sg} (hm : MD D σ) (h14 : σ 64 14 = nI (D 12 0)) (h20 : σ 64 20 = nI (D 13 0)) (h21 : σ 64 21 = nI (D 13 1) - 1) (v5 : ∀ s, D 5 s = 0) (v10 : D 10 0 = 0) (v12 : D 12 0 = 0) : ∃ τ, XX10_stands σ = some τ ∧ RA D τ := by
  have s6 := hw.s6
  have r12 := hw.r12
  have d14 := hw.d14
  obtain ⟨d1, d2, d3, d4, d5, d6⟩ := hm
  obtain ⟨σ1, a1, a2, a3, af⟩ := st_num 10 0 FUEL σ (by omega) (by unfold FUEL; omega)
  obtain ⟨σ2, b1', b2', b3', b4', b5', bf⟩ := st_shop 6 0 FUEL σ1 (by omega) (by unfold FUEL; omega)
  obtain ⟨σ3, c1, c2, c3, cf⟩ := st_sell 42 0 FUEL σ2 (by omega) (by unfold FUEL; omega)
  obtain ⟨σ4, e1, e72, e72', e73, e73', e74, e74', ef⟩ := st_rush 12 0 FUEL σ3 (by omega) (by unfold FUEL; omega)
  obtain ⟨σ5, hσ5⟩ : ∃ σ5, σ5 = up σ4 64 39 (nI 0) := ⟨_, rfl⟩
  have k64 : ∀ i, i ≠ 39 → σ5 64 i = σ 64 i := fun i hi => by
    rw [hσ5, up_slot hi, ef.cell (k := 64) rfl, cf.cell (k := 64) rfl, bf.cell (k := 64) rfl, af.cell (k := 64) rfl]
  have k65 : ∀ i, i < 10 → σ5 65 i = σ 65 (10 + i) := fun i hi => by
    rw [hσ5, up_cell (by omega), ef.cell (k := 65) rfl, cf.cell (k := 65) rfl, bf.cell (k := 65) rfl, a2 i (by omega) hi]
  have ksh : ∀ c s, 66 ≤ c → c ≤ 70 → s < 6 → σ5 c s = σ c (6 + s) := fun c s q1 q2 q3 => by
    rw [hσ5, up_cell (by omega), ef.cell (k := c) (by simp; omega), cf.cell (k := c) (by simp; omega), b2' c s q1 q2 (by omega) q3, af.cell (k := c) (by simp; omega)]
  have k71 : ∀ j, j < 42 → σ5 71 j = σ 71 (42 + j) := fun j hj => by
    rw [hσ5, up_cell (by omega), ef.cell (k := 71) rfl, c2 j (by omega) hj, bf.cell (k := 71) rfl, af.cell (k := 71) rfl]
  have k72 : ∀ j, j < 12 → σ5 72 j = σ 72 (12 + j) := fun j hj => by
    rw [hσ5, up_cell (by omega), e72 j (by omega) hj, cf.cell (k := 72) rfl, bf.cell (k := 72) rfl, af.cell (k := 72) rfl]
  have k73 : ∀ j, j < 12 → σ5 73 j = σ 73 (12 + j) := fun j hj => by
    rw [hσ5, up_cell (by omega), e73 j (by omega) hj, cf.cell (k := 73) rfl, bf.cell (k := 73) rfl, af.cell (k := 73) rfl]
  have k74 : ∀ j, j < 12 → σ5 74 j = σ 74 (12 + j) := fun j hj => by
    rw [hσ5, up_cell (by omega), e74 j (by omega) hj, cf.cell (k := 74) rfl, bf.cell (k := 74) rfl, af.cell (k := 74) rfl]
  have k78 : ∀ s, s < 6 → σ5 78 s = 0 := fun s hs => by
    rw [hσ5, up_cell (by omega), ef.cell (k := 78) rfl, cf.cell (k := 78) rfl, b4' s (by omega) hs]
  have rm : RM D σ5 := by
    refine ⟨fun i hi => by rw [k65 i hi]; exact d1 i hi, fun s hs => ?_, fun s hs => by rw [k78 s hs, v5]; rfl, fun s hs => ?_, fun k hk => ?_, ?_, fun a s ha => absurd ha (by omega), ?_, fun i hi => absurd hi (by omega), ?_, ?_⟩
    · rw [ksh 66 s (by omega) (by omega) (by omega), ksh 67 s (by omega) (by omega) (by omega), ksh 68 s (by omega) (by omega) (by omega), ksh 69 s (by omega) (by omega) (by omega)]
      exact d2 s hs
    · obtain ⟨n, n1, n2, n3, n4⟩ := d3 s hs
      refine ⟨n, n1, n2, by rw [ksh 70 s (by omega) (by omega) (by omega)]; exact n3, fun d hd => ?_⟩
      have ml := Nat.mod_lt d (show n > 0 by omega)
      rw [k71 _ (by omega), show 42 + (7 * s + d % n) = 42 + 7 * s + d % n by omega]
      exact n4 d hd
    · obtain ⟨s, d, q1, q2, q3, q4, q5, q6⟩ := d4 k hk
      exact ⟨s, d, q1, q2, q3, by rw [k72 k (by omega)]; exact q4, by rw [k73 k (by omega)]; exact q5, by rw [k74 k (by omega)]; exact q6⟩
    · rw [hσ5, up_same, v10]
    · rw [k64 14 (by omega)]
      exact h14
    · rw [k64 20 (by omega)]
      exact h20
    · rw [k64 21 (by omega)]
      exact h21
  obtain ⟨τ, f1, f2, f3, f4⟩ := m_layWays hw rm
  refine ⟨τ, ?_, f2, f3⟩
  unfold XX10_stands
  rw [lt_def, show (0 : Int32) = nI 0 from rfl, a1, lt_def, b1', lt_def, c1, lt_def, e1, lt_def, ← hσ5, f1, b1s]
