/-! TEXT: the reference goes on to the next token -/
def goW (σ_29 : Sg) : Option Sg := lt (fun (s_31 : Int32) => lt (up σ_29 64 18 s_31) (fun (σ_33 : Sg) => some σ_33)) (fun (k180_32 : Int32 → Option Sg) => if ((σ_29 64 17) - (σ_29 64 16)) ≤ (6 : Int32) then (k180_32 (1 : Int32)) else (k180_32 (4 : Int32)))
def goN (σ_13 : Sg) : Option Sg := lt (fun (s_15 : Int32) => lt (up σ_13 64 18 s_15) (fun (σ_17 : Sg) => some σ_17)) (fun (k293_16 : Int32 → Option Sg) => lt (k293_16 (4 : Int32)) (fun (k288_18 : Option Sg) => if (2 : Int32) < ((σ_13 64 17) - (σ_13 64 16)) then (k288_18) else (b1 (XX10_byteAt (σ_13 64 17) σ_13) (fun (r_19 : Int32) => b1 (XX10_isSmall r_19) (fun (r_20 : Int32) => if r_20 = 0 then (k293_16 (2 : Int32)) else (k288_18))))))
def goS (r_5 : Int32) (σ_6 : Sg) : Option Sg := lt (up σ_6 64 17 ((σ_6 64 17) + (1 : Int32))) (fun (σ_9 : Sg) => lt (fun (s_10 : Int32) => lt (up σ_9 64 18 s_10) (fun (σ_12 : Sg) => some σ_12)) (fun (k321_11 : Int32 → Option Sg) => if r_5 = (59 : Int32) then (k321_11 (3 : Int32)) else (k321_11 (4 : Int32))))
def goK (σ_2 : Sg) : Option Sg := b1 (XX10_byteAt ((up σ_2 64 16 (σ_2 64 17)) 64 16) (up σ_2 64 16 (σ_2 64 17))) (fun (r_5 : Int32) => lt (up (up σ_2 64 16 (σ_2 64 17)) 64 19 (0 : Int32)) (fun (σ_6 : Sg) => if r_5 = (-1 : Int32) then some (up σ_6 64 18 (0 : Int32)) else (b1 (XX10_isSmall r_5) (fun (r_7 : Int32) => if r_7 = 0 then (b1 (XX10_isDigit r_5) (fun (r_8 : Int32) => if r_8 = 0 then goS r_5 σ_6 else LX10_goOn_193 goN FUEL σ_6)) else LX10_goOn_89 goW FUEL σ_6))))
theorem goOn_eq {σ : Sg} (h : σ 64 22 = 0) : XX10_goOn σ = LX10_goOn_8 goK FUEL σ := by
  unfold XX10_goOn XX10_isGood
  rw [if_pos h, b1s, if_neg (by decide), lt_def]
  have eN : goN = fun (σ_13 : Sg) => _ := funext fun σ_13 => goN.eq_1 σ_13
  have eW : goW = fun (σ_29 : Sg) => _ := funext fun σ_29 => goW.eq_1 σ_29
  have eK : goK = fun (σ_2 : Sg) => _ := funext fun σ_2 => goK.eq_1 σ_2
  rw [eK, eN, eW]
  simp only [goS, lt_def]
abbrev goF : List (Nat × Option Nat) := [(64, some 16), (64, some 17), (64, some 18), (64, some 19)]
def TKs (g : Nat → Nat) (L p : Nat) (τ : Sg) : Prop := τ 64 16 = nI p ∧ τ 64 17 = nI (tkB g L p) ∧ τ 64 18 = nI (tkK g L p) ∧ (tkK g L p = 1 ∨ tkK g L p = 2 → τ 64 19 = nI (tkV g L p))
theorem nI_nm1 {c : Nat} (h : c < 2147483648) : ¬ nI c = -1 := fun z => by
  have : nI 0 ≤ nI c := (nI_lei (by omega) h).mpr (Nat.zero_le _)
  rw [z] at this
  exact absurd this (by decide)
theorem m_goK {g : Nat → Nat} {L p : Nat} {σ : Sg} (h : TP g L 76 σ) (h15 : σ 64 15 = nI L) (h17 : σ 64 17 = nI p) (hp : p ≤ L) : ∃ τ, goK σ = some τ ∧ TKs g L p τ ∧ fr goF σ τ := by
  have hL := h.1
  have f4 : fr goF σ (up σ 64 16 (nI p)) := fr_upf.mono (by simp)
  obtain ⟨σ6, hσ6⟩ : ∃ σ6, σ6 = up (up σ 64 16 (nI p)) 64 19 (0 : Int32) := ⟨_, rfl⟩
  have f6 : fr goF σ σ6 := by
    rw [hσ6]
    exact f4.tr (fr_upf.mono (by simp))
  have t6 : TP g L 76 σ6 := h.off (f6.cell (k := 76) rfl)
  have a15 : σ6 64 15 = nI L := by rw [f6.slot (k := 64) (i := 15) rfl]; exact h15
  have a16 : σ6 64 16 = nI p := by rw [hσ6, up_slot (by omega), up_same]
  have a17 : σ6 64 17 = nI p := by rw [hσ6, up_slot (by omega), up_slot (by omega)]; exact h17
  have a19 : σ6 64 19 = 0 := by rw [hσ6, up_same]
  unfold goK
  rw [h17, up_same, m_byte (h.off (f4.cell (k := 76) rfl)) (by rw [f4.slot (k := 64) (i := 15) rfl]; exact h15) (by omega), b1s, lt_def, ← hσ6]
  by_cases q : L ≤ p
  · rw [if_pos q, if_pos rfl]
    refine ⟨_, rfl, ⟨?_, ?_, ?_, ?_⟩, f6.tr (fr_upf.mono (by simp))⟩
    · rw [up_slot (by omega)]
      exact a16
    · rw [up_slot (by omega), a17]
      unfold tkB
      rw [if_pos q]
    · rw [up_same]
      unfold tkK
      rw [if_pos q]
      rfl
    · unfold tkK
      rw [if_pos q]
      intro z
      omega
  have hg := h.2.1 p (by omega)
  rw [if_neg q, if_neg (nI_nm1 (by omega)), m_isL hg, b1s]
  cases c1 : cL (g p) with
  | true =>
    rw [if_neg (show ¬ nI (bq true) = 0 by decide)]
    obtain ⟨τ1, k1, k2, k3, k4⟩ := m_wrun (g := g) (L := L) p goW (L - p) p FUEL σ6 0 rfl hp (by unfold FUEL; omega) (Nat.le_refl _) t6 a15 a16 a17 a19 (fun _ => by rw [Nat.sub_self]; rfl)
    have ge := en_ge (p := cL) (g := g) (L := L) (L - p) p rfl
    have le := en_le (p := cL) (g := g) (L := L) (L - p) p rfl hp
    have b16 : τ1 64 16 = nI p := by rw [k4.slot (k := 64) (i := 16) rfl]; exact a16
    have F : fr goF σ τ1 := f6.tr (k4.mono (by simp))
    rw [k1]
    unfold goW
    rw [lt_def, k2, b16, nI_sb ge, show (6 : Int32) = nI 6 from rfl]
    have fin : ∀ v : Nat, v = tkK g L p → ∃ τ, lt (up τ1 64 18 (nI v)) (fun (σ_33 : Sg) => some σ_33) = some τ ∧ TKs g L p τ ∧ fr goF σ τ := fun v hv => by
      refine ⟨_, rfl, ⟨?_, ?_, ?_, ?_⟩, F.tr (fr_upf.mono (by simp))⟩
      · rw [up_slot (by omega)]
        exact b16
      · rw [up_slot (by omega), k2]
        unfold tkB
        rw [if_neg q, if_pos c1]
      · rw [up_same, hv]
      · intro z
        rw [up_slot (by omega)]
        unfold tkV
        rw [if_pos c1]
        refine k3 ?_
        unfold tkK at z
        rw [if_neg q, if_pos c1] at z
        by_cases y : en cL g L p - p ≤ 6
        · exact y
        · rw [if_neg y] at z
          omega
    by_cases y : en cL g L p - p ≤ 6
    · rw [if_pos ((nI_lei (by omega) (by omega)).mpr y)]
      exact fin 1 (by unfold tkK; rw [if_neg q, if_pos c1, if_pos y])
    · rw [if_neg (fun z => y ((nI_lei (by omega) (by omega)).mp z))]
      exact fin 4 (by unfold tkK; rw [if_neg q, if_pos c1, if_neg y])
  | false =>
    have c1' : ¬ cL (g p) = true := by rw [c1]; decide
    rw [if_pos (show nI (bq false) = 0 by decide), m_isD hg, b1s]
    cases c2 : cD (g p) with
    | true =>
      rw [if_neg (show ¬ nI (bq true) = 0 by decide)]
      obtain ⟨τ1, k1, k2, k3, k4⟩ := m_nrun (g := g) (L := L) p goN (L - p) p FUEL σ6 0 rfl hp (by unfold FUEL; omega) (Nat.le_refl _) t6 a15 a17 a19 (fun t ht => absurd ht (by omega)) (fun _ => by rw [Nat.sub_self]; rfl)
      have ge := en_ge (p := cD) (g := g) (L := L) (L - p) p rfl
      have le := en_le (p := cD) (g := g) (L := L) (L - p) p rfl hp
      have b16 : τ1 64 16 = nI p := by rw [k4.slot (k := 64) (i := 16) rfl]; exact a16
      have F : fr goF σ τ1 := f6.tr (k4.mono (by simp))
      have fin : ∀ v : Nat, v = tkK g L p → ∃ τ, lt (up τ1 64 18 (nI v)) (fun (σ_33 : Sg) => some σ_33) = some τ ∧ TKs g L p τ ∧ fr goF σ τ := fun v hv => by
        refine ⟨_, rfl, ⟨?_, ?_, ?_, ?_⟩, F.tr (fr_upf.mono (by simp))⟩
        · rw [up_slot (by omega)]
          exact b16
        · rw [up_slot (by omega), k2]
          unfold tkB
          rw [if_neg q, if_neg c1', if_pos c2]
        · rw [up_same, hv]
        · intro z
          rw [up_slot (by omega)]
          unfold tkV
          rw [if_neg c1']
          refine k3 ?_
          unfold tkK at z
          rw [if_neg q, if_neg c1', if_pos c2] at z
          by_cases y : en cD g L p - p ≤ 2
          · exact y
          · rw [if_neg (fun w => y w.1)] at z
            omega
      rw [k1]
      unfold goN
      rw [lt_def, lt_def, k2, b16, nI_sb ge, show (2 : Int32) = nI 2 from rfl]
      by_cases y : en cD g L p - p ≤ 2
      · rw [if_neg (fun z => absurd ((nI_lti (by omega) (by omega)).mp z) (by omega)), m_byte (t6.off (k4.cell (k := 76) rfl)) (by rw [k4.slot (k := 64) (i := 15) rfl]; exact a15) (by omega), b1s]
        by_cases w : L ≤ en cD g L p
        · rw [if_pos w, m_isL1, b1s, if_pos (show nI 0 = 0 by decide)]
          exact fin 2 (by unfold tkK; rw [if_neg q, if_neg c1', if_pos c2, if_pos ⟨y, fun x => by omega⟩])
        · rw [if_neg w, m_isL (h.2.1 _ (by omega)), b1s]
          cases c3 : cL (g (en cD g L p)) with
          | true =>
            rw [if_neg (show ¬ nI (bq true) = 0 by decide)]
            exact fin 4 (by unfold tkK; rw [if_neg q, if_neg c1', if_pos c2, if_neg (fun x => x.2 ⟨by omega, c3⟩)])
          | false =>
            rw [if_pos (show nI (bq false) = 0 by decide)]
            exact fin 2 (by unfold tkK; rw [if_neg q, if_neg c1', if_pos c2, if_pos ⟨y, fun x => by rw [c3] at x; cases x.2⟩])
      · rw [if_pos ((nI_lti (by omega) (by omega)).mpr (by omega))]
        exact fin 4 (by unfold tkK; rw [if_neg q, if_neg c1', if_pos c2, if_neg (fun x => y x.1)])
    | false =>
      have c2' : ¬ cD (g p) = true := by rw [c2]; decide
      rw [if_pos (show nI (bq false) = 0 by decide)]
      unfold goS
      rw [lt_def, lt_def, a17, nI_1, show (59 : Int32) = nI 59 from rfl]
      have F : fr goF σ (up σ6 64 17 (nI (p + 1))) := f6.tr (fr_upf.mono (by simp))
      have fin : ∀ v : Nat, v = tkK g L p → v = 3 ∨ v = 4 → ∃ τ, lt (up (up σ6 64 17 (nI (p + 1))) 64 18 (nI v)) (fun (σ_33 : Sg) => some σ_33) = some τ ∧ TKs g L p τ ∧ fr goF σ τ := fun v hv hv2 => by
        refine ⟨_, rfl, ⟨?_, ?_, ?_, ?_⟩, F.tr (fr_upf.mono (by simp))⟩
        · rw [up_slot (by omega), up_slot (by omega)]
          exact a16
        · rw [up_slot (by omega), up_same]
          unfold tkB
          rw [if_neg q, if_neg c1', if_neg c2']
        · rw [up_same, hv]
        · intro z
          omega
      by_cases y : g p = 59
      · rw [if_pos (by rw [y])]
        exact fin 3 (by unfold tkK; rw [if_neg q, if_neg c1', if_neg c2', if_pos y]) (Or.inl rfl)
      · rw [if_neg (nI_ne (by omega) (by omega) y)]
        exact fin 4 (by unfold tkK; rw [if_neg q, if_neg c1', if_neg c2', if_neg y]) (Or.inr rfl)
theorem m_goOn {g : Nat → Nat} {L b : Nat} {σ : Sg} (h : TP g L 76 σ) (h15 : σ 64 15 = nI L) (h22 : σ 64 22 = 0) (h17 : σ 64 17 = nI b) (hb : b ≤ L) : ∃ τ, XX10_goOn σ = some τ ∧ TKs g L (en cB g L b) τ ∧ fr goF σ τ := by
  have hL := h.1
  obtain ⟨σ1, k1, k2, k3⟩ := m_brun (g := g) (L := L) goK (L - b) b FUEL σ rfl hb (by unfold FUEL; omega) h h15 h17
  obtain ⟨τ, e1, e2, e3⟩ := m_goK (p := en cB g L b) (h.off (k3.cell (k := 76) rfl)) (by rw [k3.slot (k := 64) (i := 15) rfl]; exact h15) k2 (en_le (L - b) b rfl hb)
  exact ⟨τ, by rw [goOn_eq h22, k1, e1], e2, (k3.mono (by simp)).tr e3⟩
