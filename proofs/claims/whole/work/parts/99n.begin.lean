/-! TEXT: how both begin -/
def dr0 : Vw := fun r i => if r = 0 then (if i = 0 then 7 else if i = 3 then 60 else if i = 4 then 10 else if i = 5 then 1 else if i = 6 then 1 else if i = 7 then 20 else 0) else 0
theorem WD.start : WD dr0 := by
  refine ⟨WF0 ⟨⟨by decide, by decide⟩, ⟨by decide, by decide⟩, by decide, by decide, by decide, by decide, rfl, rfl, by decide, by decide⟩ rfl rfl (fun s => rfl) rfl rfl, rfl, rfl, rfl, rfl, fun s => rfl, fun s hs => absurd hs (Nat.not_lt_zero s), by decide, by decide, fun j hj => ?_⟩
  show (0 : Nat).testBit (kb j) = (0 : Nat).testBit j
  rw [Nat.zero_testBit, Nat.zero_testBit]
theorem c_forget (σ : Sg) : ∃ τ, XX7_forget 11 σ = some τ ∧ TC dr0 (fun k => τ (k + 9)) := by
  obtain ⟨P, hP⟩ : ∃ P, P = up (up (up (up (up (up (up (up (up (up σ 11 0 (7 : Int32)) 11 1 (60 : Int32)) 11 2 (10 : Int32)) 11 3 (1 : Int32)) 11 4 (1 : Int32)) 11 5 (20 : Int32)) 11 6 (0 : Int32)) 11 7 (0 : Int32)) (11 + 1) 6 (0 : Int32)) (11 + 2) 6 (0 : Int32) := ⟨_, rfl⟩
  obtain ⟨τ, e1, e2, e3⟩ := c_fill0 (a := 11 + 5) (N := 84) (by omega) (0 : Int32) P
  have k11 : τ 11 = P 11 := e3.cell (k := 11) rfl
  have k12 : τ 12 = P 12 := e3.cell (k := 12) rfl
  have k13 : τ 13 = P 13 := e3.cell (k := 13) rfl
  refine ⟨τ, ?_, ?_⟩
  · unfold XX7_forget
    rw [lt_def, lt_def, lt_def, lt_def, lt_def, lt_def, lt_def, lt_def, lt_def, lt_def, ← hP, e1, b1s]
  · refine ⟨?_, ?_, ?_, ?_, ?_, ?_, ?_, ?_, fun s hs => absurd hs (Nat.not_lt_zero s), ?_, ?_, fun s d hs => absurd hs (Nat.not_lt_zero s), fun k hk => absurd hk (Nat.not_lt_zero k)⟩
    · show τ 11 0 = _
      rw [k11, hP]
      rfl
    · show τ 11 1 = _
      rw [k11, hP]
      rfl
    · show τ 11 2 = _
      rw [k11, hP]
      rfl
    · show τ 11 3 = _
      rw [k11, hP]
      rfl
    · show τ 11 4 = _
      rw [k11, hP]
      rfl
    · show τ 11 5 = _
      rw [k11, hP]
      rfl
    · show τ 11 6 = _
      rw [k11, hP]
      rfl
    · show τ 11 7 = _
      rw [k11, hP]
      rfl
    · show τ 12 6 = _
      rw [k12, hP]
      rfl
    · show τ 13 6 = _
      rw [k13, hP]
      rfl
def raK (σ_7 : Sg) : Option (Int32 × Sg) := b2 (XX4_refuse (2 : Int32) σ_7) (fun (r_9 : Int32) (σ_10 : Sg) => if r_9 = 0 ∨ r_9 = 1 then some (r_9, σ_10) else none)
theorem c_begin {g : Nat → Nat} {L : Nat} {σ : Sg} (h : TP g L 1 σ) (hk : KW σ) : ∃ τ T, XX4_readAll (nI L) σ = LX4_readAll_35 raK FUEL (nI 0) τ ∧ CSt g L T dr0 0 τ := by
  obtain ⟨σ1, T, s1, S1⟩ := c_scanAll h hk
  obtain ⟨σ2, f1, f2⟩ := c_forget σ1
  have F := frX7_forget f1
  have S2 : SC g L T σ2 := S1.off (by rw [F.cell (k := 10) rfl]) (F.cell (k := 20) rfl) (F.cell (k := 21) rfl) (F.cell (k := 22) rfl)
  refine ⟨up (up (up (up σ2 10 1 (0 : Int32)) 10 2 (-1 : Int32)) 10 8 (0 : Int32)) 10 12 (0 : Int32), T, ?_, ?_, ⟨?_, ?_, up_same⟩, Nat.zero_le _, ?_, ?_, ?_⟩
  · unfold XX4_readAll
    rw [s1, b1s, f1, b1s, lt_def, lt_def, lt_def, lt_def, lt_def]
    rfl
  · refine S2.off ?_ ?_ ?_ ?_
    · rw [up_slot (by omega), up_slot (by omega), up_slot (by omega), up_slot (by omega)]
    · rw [up_cell (by omega), up_cell (by omega), up_cell (by omega), up_cell (by omega)]
    · rw [up_cell (by omega), up_cell (by omega), up_cell (by omega), up_cell (by omega)]
    · rw [up_cell (by omega), up_cell (by omega), up_cell (by omega), up_cell (by omega)]
  · refine f2.off (fun k k1 k2 => ?_)
    show up (up (up (up σ2 10 1 (0 : Int32)) 10 2 (-1 : Int32)) 10 8 (0 : Int32)) 10 12 (0 : Int32) (k + 9) = σ2 (k + 9)
    rw [up_cell (by omega), up_cell (by omega), up_cell (by omega), up_cell (by omega)]
  · exact fun s hs => absurd hs (Nat.not_lt_zero s)
  · rw [up_slot (by omega), up_same]
    rfl
  · rw [up_slot (by omega), up_slot (by omega), up_slot (by omega), up_same]
  · rw [up_slot (by omega), up_slot (by omega), up_same]
def txK (σ_18 : Sg) : Option (Int32 × Sg) := lt (up σ_18 64 20 (σ_18 64 22)) (fun (σ_20 : Sg) => b1 (XX10_isGood σ_20) (fun (r_21 : Int32) => lt (fun (s_22 : Int32) => lt (up σ_20 64 21 s_22) (fun (σ_24 : Sg) => b1 (XX10_isGood σ_24) (fun (r_25 : Int32) => if r_25 = 0 then (some ((-1 : Int32), σ_24)) else (b1 (XX10_stands σ_24) (fun (σ_26 : Sg) => b1 (XX10_shops σ_26) (fun (r_27 : Int32) => some (r_27, σ_26))))))) (fun (k166_23 : Int32 → Option (Int32 × Sg)) => if r_21 = 0 then (k166_23 (σ_20 64 23)) else (k166_23 (-1 : Int32)))))
theorem m_begin {V : Vw} (hw : WF V) {σ : Sg} (hr : RM V σ) : ∃ σ0 τ, XX10_text σ = LX10_text_121 txK FUEL τ ∧ MSt (V 11) (V 12 0) σ0 dr0 0 τ ∧ σ0 64 14 = 0 ∧ (∀ c i, lvd c i → ¬ (c = 64 ∧ i = 14) → σ0 c i = σ c i) := by
  have n800 : V 12 0 ≤ 800 := hw.2.2.2.2.2.2.2.2.2.2.2.2.2.2.2.2.2.2.2.2.2.1
  have hb := hw.2.2.2.2.2.2.2.2.2.2.2.2.2.2.2.2.2.2.2.2.2.2
  have t14 : σ 64 14 = nI (V 12 0) := hr.2.2.2.2.2.2.2.1
  have h76 := hr.2.2.2.2.2.2.2.2.1
  obtain ⟨σ1, h1⟩ : ∃ σ1, σ1 = up σ 64 0 (0 : Int32) := ⟨_, rfl⟩
  obtain ⟨σ2, h2⟩ : ∃ σ2, σ2 = up σ1 64 15 (σ1 64 14) := ⟨_, rfl⟩
  obtain ⟨σ3, h3⟩ : ∃ σ3, σ3 = up σ2 64 14 (0 : Int32) := ⟨_, rfl⟩
  obtain ⟨σ4, h4⟩ : ∃ σ4, σ4 = up σ3 64 17 (0 : Int32) := ⟨_, rfl⟩
  obtain ⟨σ5, h5⟩ : ∃ σ5, σ5 = up σ4 64 22 (0 : Int32) := ⟨_, rfl⟩
  obtain ⟨σ6, h6⟩ : ∃ σ6, σ6 = up σ5 64 12 (0 : Int32) := ⟨_, rfl⟩
  obtain ⟨σ7, h7⟩ : ∃ σ7, σ7 = up σ6 65 10 (7 : Int32) := ⟨_, rfl⟩
  obtain ⟨σ8, h8⟩ : ∃ σ8, σ8 = up σ7 65 11 (0 : Int32) := ⟨_, rfl⟩
  obtain ⟨σ9, h9⟩ : ∃ σ9, σ9 = up σ8 65 12 (0 : Int32) := ⟨_, rfl⟩
  obtain ⟨σ10, h10⟩ : ∃ σ10, σ10 = up σ9 65 13 (60 : Int32) := ⟨_, rfl⟩
  obtain ⟨σ11, h11⟩ : ∃ σ11, σ11 = up σ10 65 14 (10 : Int32) := ⟨_, rfl⟩
  obtain ⟨σ12, h12⟩ : ∃ σ12, σ12 = up σ11 65 15 (1 : Int32) := ⟨_, rfl⟩
  obtain ⟨σ13, h13⟩ : ∃ σ13, σ13 = up σ12 65 16 (1 : Int32) := ⟨_, rfl⟩
  obtain ⟨σ14, h14⟩ : ∃ σ14, σ14 = up σ13 65 17 (20 : Int32) := ⟨_, rfl⟩
  obtain ⟨σ15, h15⟩ : ∃ σ15, σ15 = up σ14 65 18 (0 : Int32) := ⟨_, rfl⟩
  obtain ⟨σ16, h16⟩ : ∃ σ16, σ16 = up σ15 65 19 (0 : Int32) := ⟨_, rfl⟩
  have un : ∀ c i, ¬ (c = 64 ∧ (i = 0 ∨ i = 15 ∨ i = 14 ∨ i = 17 ∨ i = 22 ∨ i = 12)) → ¬ (c = 65 ∧ 10 ≤ i ∧ i < 20) → σ16 c i = σ c i := fun c i q1 q2 => by
    rw [h16, up_at, if_neg (by omega), h15, up_at, if_neg (by omega), h14, up_at, if_neg (by omega), h13, up_at, if_neg (by omega), h12, up_at, if_neg (by omega), h11, up_at, if_neg (by omega), h10, up_at, if_neg (by omega), h9, up_at, if_neg (by omega), h8, up_at, if_neg (by omega), h7, up_at, if_neg (by omega), h6, up_at, if_neg (by omega), h5, up_at, if_neg (by omega), h4, up_at, if_neg (by omega), h3, up_at, if_neg (by omega), h2, up_at, if_neg (by omega), h1, up_at, if_neg (by omega)]
  have a76 : σ16 76 = σ 76 := funext fun i => un 76 i (by omega) (by omega)
  have a15 : σ16 64 15 = nI (V 12 0) := by
    rw [h16, up_cell (by omega), h15, up_cell (by omega), h14, up_cell (by omega), h13, up_cell (by omega), h12, up_cell (by omega), h11, up_cell (by omega), h10, up_cell (by omega), h9, up_cell (by omega), h8, up_cell (by omega), h7, up_cell (by omega), h6, up_slot (by omega), h5, up_slot (by omega), h4, up_slot (by omega), h3, up_slot (by omega), h2, up_same, h1, up_slot (by omega), t14]
  have a14 : σ16 64 14 = 0 := by
    rw [h16, up_cell (by omega), h15, up_cell (by omega), h14, up_cell (by omega), h13, up_cell (by omega), h12, up_cell (by omega), h11, up_cell (by omega), h10, up_cell (by omega), h9, up_cell (by omega), h8, up_cell (by omega), h7, up_cell (by omega), h6, up_slot (by omega), h5, up_slot (by omega), h4, up_slot (by omega), h3, up_same]
  have a17 : σ16 64 17 = 0 := by
    rw [h16, up_cell (by omega), h15, up_cell (by omega), h14, up_cell (by omega), h13, up_cell (by omega), h12, up_cell (by omega), h11, up_cell (by omega), h10, up_cell (by omega), h9, up_cell (by omega), h8, up_cell (by omega), h7, up_cell (by omega), h6, up_slot (by omega), h5, up_slot (by omega), h4, up_same]
  have a22 : σ16 64 22 = 0 := by
    rw [h16, up_cell (by omega), h15, up_cell (by omega), h14, up_cell (by omega), h13, up_cell (by omega), h12, up_cell (by omega), h11, up_cell (by omega), h10, up_cell (by omega), h9, up_cell (by omega), h8, up_cell (by omega), h7, up_cell (by omega), h6, up_slot (by omega), h5, up_same]
  have a12 : σ16 64 12 = 0 := by
    rw [h16, up_cell (by omega), h15, up_cell (by omega), h14, up_cell (by omega), h13, up_cell (by omega), h12, up_cell (by omega), h11, up_cell (by omega), h10, up_cell (by omega), h9, up_cell (by omega), h8, up_cell (by omega), h7, up_cell (by omega), h6, up_same]
  have b0 : σ16 65 10 = nI 7 := by
    rw [h16, up_slot (by omega), h15, up_slot (by omega), h14, up_slot (by omega), h13, up_slot (by omega), h12, up_slot (by omega), h11, up_slot (by omega), h10, up_slot (by omega), h9, up_slot (by omega), h8, up_slot (by omega), h7, up_same]
    rfl
  have b1 : σ16 65 11 = nI 0 := by
    rw [h16, up_slot (by omega), h15, up_slot (by omega), h14, up_slot (by omega), h13, up_slot (by omega), h12, up_slot (by omega), h11, up_slot (by omega), h10, up_slot (by omega), h9, up_slot (by omega), h8, up_same]
    rfl
  have b2 : σ16 65 12 = nI 0 := by
    rw [h16, up_slot (by omega), h15, up_slot (by omega), h14, up_slot (by omega), h13, up_slot (by omega), h12, up_slot (by omega), h11, up_slot (by omega), h10, up_slot (by omega), h9, up_same]
    rfl
  have b3 : σ16 65 13 = nI 60 := by
    rw [h16, up_slot (by omega), h15, up_slot (by omega), h14, up_slot (by omega), h13, up_slot (by omega), h12, up_slot (by omega), h11, up_slot (by omega), h10, up_same]
    rfl
  have b4 : σ16 65 14 = nI 10 := by
    rw [h16, up_slot (by omega), h15, up_slot (by omega), h14, up_slot (by omega), h13, up_slot (by omega), h12, up_slot (by omega), h11, up_same]
    rfl
  have b5 : σ16 65 15 = nI 1 := by
    rw [h16, up_slot (by omega), h15, up_slot (by omega), h14, up_slot (by omega), h13, up_slot (by omega), h12, up_same]
    rfl
  have b6 : σ16 65 16 = nI 1 := by
    rw [h16, up_slot (by omega), h15, up_slot (by omega), h14, up_slot (by omega), h13, up_same]
    rfl
  have b7 : σ16 65 17 = nI 20 := by
    rw [h16, up_slot (by omega), h15, up_slot (by omega), h14, up_same]
    rfl
  have b8 : σ16 65 18 = nI 0 := by
    rw [h16, up_slot (by omega), h15, up_same]
    rfl
  have b9 : σ16 65 19 = nI 0 := by
    rw [h16, up_same]
    rfl
  have tp : TP (V 11) (V 12 0) 76 σ16 := ⟨n800, hb, fun i hi => by rw [a76]; exact h76 i hi⟩
  have md : MD dr0 σ16 := by
    refine ⟨fun i hi => ?_, fun s hs => absurd hs (Nat.not_lt_zero s), fun s hs => absurd hs (Nat.not_lt_zero s), fun k hk => absurd hk (Nat.not_lt_zero k), fun s hs => absurd hs (Nat.not_lt_zero s), a12⟩
    have : i = 0 ∨ i = 1 ∨ i = 2 ∨ i = 3 ∨ i = 4 ∨ i = 5 ∨ i = 6 ∨ i = 7 ∨ i = 8 ∨ i = 9 := by omega
    rcases this with rfl | rfl | rfl | rfl | rfl | rfl | rfl | rfl | rfl | rfl
    · exact b0
    · exact b1
    · exact b2
    · exact b3
    · exact b4
    · exact b5
    · exact b6
    · exact b7
    · exact b8
    · exact b9
  obtain ⟨τ, e1, e2, e3⟩ := m_goOn tp a15 a22 (show σ16 64 17 = nI 0 from a17) (Nat.zero_le _)
  refine ⟨σ16, τ, ?_, ⟨tp.off (e3.cell (k := 76) rfl), ?_, ?_, e2, md.fr (e3.mono (by simp)), Lv.fr (fun _ _ _ => rfl) (e3.mono (by simp))⟩, a14, fun c i hl hn => un c i (by unfold lvd at hl; omega) (by unfold lvd at hl; omega)⟩
  · unfold XX10_text
    rw [lt_def, ← h1, lt_def, ← h2, lt_def, ← h3, lt_def, ← h4, lt_def, ← h5, lt_def, ← h6, lt_def, ← h7, lt_def, ← h8, lt_def, ← h9, lt_def, ← h10, lt_def, ← h11, lt_def, ← h12, lt_def, ← h13, lt_def, ← h14, lt_def, ← h15, lt_def, ← h16, e1, b1s, lt_def]
    rfl
  · rw [e3.slot (k := 64) (i := 15) rfl]
    exact a15
  · rw [e3.slot (k := 64) (i := 22) rfl]
    exact a22
