/-! TEXT: words, signs, lines of numbers -/
def trC (c : Int32) (σ_1 : Sg) : Option (Int32 × Sg) := if (σ_1 10 9) = c then some ((1 : Int32), σ_1) else (b2 (XX4_refuse (2 : Int32) σ_1) (fun (r_4 : Int32) (σ_5 : Sg) => if r_4 = 0 then (some ((0 : Int32), σ_5)) else (some ((1 : Int32), σ_5))))
theorem want_eq (c : Int32) (σ : Sg) : XX4_want c σ = b1 (XX4_step σ) (trC c) := rfl
theorem m_isW {g : Nat → Nat} {L : Nat} {σ0 : Sg} {D : Vw} {k : Nat} {σ' : Sg} (hm : MSt g L σ0 D k σ') {j : Nat} (hj : j < 13) {w : Int32} (hw : w = nI (kwL.getD j 0)) : XX10_isWord w σ' = some (if ck g L (ps g L k) = j then 1 else 0) := by
  obtain ⟨-, -, -, ⟨-, -, m18, m19⟩, -, -⟩ := hm
  have hk := tkK_le g L (ps g L k)
  unfold XX10_isWord
  rw [lt_def, m18]
  by_cases q : tkK g L (ps g L k) = 1
  · have vl := tkV_lt (Or.inl q)
    rw [q, if_pos (show nI 1 = 1 from rfl), m19 (Or.inl q), hw, ck_w q]
    by_cases r : tkV g L (ps g L k) = kwL.getD j 0
    · rw [if_pos (show nI (tkV g L (ps g L k)) = nI (kwL.getD j 0) by rw [r]), if_pos ((wk_iff hj).mpr r)]
    · rw [if_neg (nI_ne (by omega) (kwL_lt j hj) r), if_neg (fun z => r ((wk_iff hj).mp z))]
  · rw [if_neg (show ¬ nI (tkK g L (ps g L k)) = 1 from nI_ne (b := 1) (by omega) (by omega) q), if_neg (fun z => q (ck_1.mp (by omega)))]
theorem m_isNm {g : Nat → Nat} {L : Nat} {σ0 : Sg} {D : Vw} {k : Nat} {σ' : Sg} (hm : MSt g L σ0 D k σ') : XX10_isName σ' = some (if ck g L (ps g L k) = 13 then 1 else 0) := by
  have e0 := m_isW hm (j := 0) (by omega) (w := (132915 : Int32)) rfl
  have e1 := m_isW hm (j := 1) (by omega) (w := (4375028 : Int32)) rfl
  have e2 := m_isW hm (j := 2) (by omega) (w := (21582955 : Int32)) rfl
  have e3 := m_isW hm (j := 3) (by omega) (w := (6611108 : Int32)) rfl
  have e4 := m_isW hm (j := 4) (by omega) (w := (435589 : Int32)) rfl
  have e5 := m_isW hm (j := 5) (by omega) (w := (277892 : Int32)) rfl
  have e6 := m_isW hm (j := 6) (by omega) (w := (409204 : Int32)) rfl
  have e7 := m_isW hm (j := 7) (by omega) (w := (631280 : Int32)) rfl
  have e8 := m_isW hm (j := 8) (by omega) (w := (52 : Int32)) rfl
  have e9 := m_isW hm (j := 9) (by omega) (w := (20190598 : Int32)) rfl
  have e10 := m_isW hm (j := 10) (by omega) (w := (20593771 : Int32)) rfl
  have e11 := m_isW hm (j := 11) (by omega) (w := (20099475 : Int32)) rfl
  have e12 := m_isW hm (j := 12) (by omega) (w := (611944 : Int32)) rfl
  obtain ⟨-, -, -, ⟨-, -, m18, m19⟩, -, -⟩ := hm
  have cl := ck_le g L (ps g L k)
  have hk := tkK_le g L (ps g L k)
  unfold XX10_isName
  by_cases q : tkK g L (ps g L k) = 1
  · have c13 := ck_1.mpr q
    rw [e0, e1, e2, e3, e4, e5, e6, e7, e8, e9, e10, e11, e12, m18, q]
    clear e0 e1 e2 e3 e4 e5 e6 e7 e8 e9 e10 e11 e12
    generalize ck g L (ps g L k) = c at c13 ⊢
    have hh : c = 0 ∨ c = 1 ∨ c = 2 ∨ c = 3 ∨ c = 4 ∨ c = 5 ∨ c = 6 ∨ c = 7 ∨ c = 8 ∨ c = 9 ∨ c = 10 ∨ c = 11 ∨ c = 12 ∨ c = 13 := by omega
    rcases hh with rfl | rfl | rfl | rfl | rfl | rfl | rfl | rfl | rfl | rfl | rfl | rfl | rfl | rfl <;> first | rfl | decide
  · have c13 : ¬ ck g L (ps g L k) ≤ 13 := fun z => q (ck_1.mp z)
    rw [if_neg (by omega)] at e0 e1 e2 e3 e4 e5 e6 e7 e8 e9 e10 e11 e12
    have hf : ¬ (σ' 64 18) = (1 : Int32) := by
      rw [m18]
      exact nI_ne (b := 1) (by omega) (by omega) q
    rw [e0, b1s, lt_def, lt_def, if_pos rfl, e1, b1s, if_pos rfl, e2, b1s, if_pos rfl, e3, b1s, if_pos rfl, e4, b1s, if_pos rfl, e5, b1s, if_pos rfl]
    show b1 (XX10_isWord (409204 : Int32) σ') _ = _
    rw [e6, b1s, lt_def, lt_def, if_pos rfl, e7, b1s, if_pos rfl, e8, b1s, if_pos rfl, e9, b1s, if_pos rfl, e10, b1s, if_pos rfl, e11, b1s, if_pos rfl]
    show lt _ _ = _
    rw [lt_def, if_neg hf, if_neg (by omega)]
theorem kw_both {g : Nat → Nat} {L T : Nat} {σ0 : Sg} {D : Vw} {k : Nat} {σ σ' : Sg} (hc : CSt g L T D k σ) (hm : MSt g L σ0 D k σ') {j : Nat} (hj : j < 13) {a w : Int32} (ha : a = nI j) (hw : w = nI (kwL.getD j 0)) : (∃ τ τ', XX4_want a σ = some (1, τ) ∧ XX10_keyword w σ' = some τ' ∧ CSt g L T D (k + 1) τ ∧ MSt g L σ0 D (k + 1) τ') ∨ (∃ τ τ', XX4_want a σ = some (0, τ) ∧ XX10_keyword w σ' = some τ' ∧ FF σ0 τ τ') := by
  obtain ⟨σ1, s1, s2⟩ := c_step hc
  have c9 := s2.2.2.2.2.2.2.1
  have cl := ck_le g L (ps g L k)
  by_cases q : ck g L (ps g L k) = j
  · obtain ⟨τ', e1, e2⟩ := m_go hm
    have hK := ck_1.mp (show ck g L (ps g L k) ≤ 13 by omega)
    refine Or.inl ⟨σ1, τ', ?_, ?_, s2.go (fun z => by omega), e2⟩
    · rw [want_eq, s1, b1s]
      unfold trC
      rw [if_pos (show σ1 10 9 = a by rw [c9, q, ha])]
    · unfold XX10_keyword
      rw [g_good hm.2.2.1, b1s, lt_def, if_neg (show ¬ (1 : Int32) = 0 by decide), m_isW hm hj hw, if_pos q, b1s, if_neg (show ¬ (1 : Int32) = 0 by decide)]
      show b1 (XX10_goOn σ') _ = _
      rw [e1, b1s]
  · obtain ⟨τ, τ', e1, e2, e3⟩ := ff_both s2 hm (w := 2) (by omega) (by omega) (a := (2 : Int32)) rfl
    refine Or.inr ⟨τ, τ', ?_, ?_, e3⟩
    · rw [want_eq, s1, b1s]
      unfold trC
      rw [if_neg (show ¬ σ1 10 9 = a by rw [c9, ha]; exact nI_ne (by omega) (by omega) q), e1, b2s, if_pos rfl]
    · unfold XX10_keyword
      rw [g_good hm.2.2.1, b1s, lt_def, if_neg (show ¬ (1 : Int32) = 0 by decide), m_isW hm hj hw, if_neg q, b1s, if_pos rfl, e2, b1s]
      show b1 (XX10_goOn τ') _ = _
      rw [b_goOn e3.bad, b1s]
/-- a name on both sides -/
theorem name_both {g : Nat → Nat} {L T : Nat} {σ0 : Sg} {D : Vw} {k : Nat} {σ σ' : Sg} (hc : CSt g L T D k σ) (hm : MSt g L σ0 D k σ') : (∃ τ, ck g L (ps g L k) = 13 ∧ XX4_want (13 : Int32) σ = some (1, τ) ∧ CTk g L T D k τ ∧ CSt g L T D (k + 1) τ ∧ τ 10 11 = nI (tkV g L (ps g L k)) ∧ σ' 64 19 = nI (tkV g L (ps g L k)) ∧ tkV g L (ps g L k) < 1073741825) ∨ (∃ τ τ', ¬ ck g L (ps g L k) = 13 ∧ XX4_want (13 : Int32) σ = some (0, τ) ∧ XX10_fails (2 : Int32) σ' = some τ' ∧ FF σ0 τ τ') := by
  obtain ⟨σ1, s1, s2⟩ := c_step hc
  have c9 := s2.2.2.2.2.2.2.1
  have c11 := s2.2.2.2.2.2.2.2.2
  have cl := ck_le g L (ps g L k)
  by_cases q : ck g L (ps g L k) = 13
  · have hK := ck_1.mp (show ck g L (ps g L k) ≤ 13 by omega)
    refine Or.inl ⟨σ1, q, ?_, s2, s2.go (fun z => by omega), c11 (Or.inl hK), hm.2.2.2.1.2.2.2 (Or.inl hK), tkV_lt (Or.inl hK)⟩
    rw [want_eq, s1, b1s]
    unfold trC
    rw [if_pos (show σ1 10 9 = 13 by rw [c9, q]; rfl)]
  · obtain ⟨τ, τ', e1, e2, e3⟩ := ff_both s2 hm (w := 2) (by omega) (by omega) (a := (2 : Int32)) rfl
    refine Or.inr ⟨τ, τ', q, ?_, e2, e3⟩
    rw [want_eq, s1, b1s]
    unfold trC
    rw [if_neg (show ¬ σ1 10 9 = 13 by rw [c9]; exact nI_ne (b := 13) (by omega) (by omega) q), e1, b2s, if_pos rfl]
/-- what holds of every draft -/
def kb (j : Nat) : Nat := if j < 3 then j else j + 2
def WD (D : Vw) : Prop := WF D ∧ D 10 0 = 0 ∧ D 12 0 = 0 ∧ D 13 0 = 0 ∧ D 13 1 = 0 ∧ (∀ s, D 5 s = 0) ∧ (∀ s, s < D 0 8 → D 14 s < 2147483648) ∧ D 15 0 < 128 ∧ D 15 1 < 32 ∧ (∀ j, j < 5 → (D 15 0).testBit (kb j) = (D 15 1).testBit j)
/-- the end of a line -/
def lnT (σ_2 : Sg) : Option Sg := b1 (XX10_isGood σ_2) (fun (r_4 : Int32) => lt (fun (σ_5 : Sg) => b1 (XX10_goOn σ_5) (fun (σ_7 : Sg) => some σ_7)) (fun (k195_6 : Sg → Option Sg) => if r_4 = 0 then (k195_6 σ_2) else (if (σ_2 64 18) = (3 : Int32) then (k195_6 σ_2) else (b1 (XX10_fails (2 : Int32) σ_2) (fun (σ_8 : Sg) => k195_6 σ_8)))))
theorem lnT_bad {σ : Sg} (h : ¬ σ 64 22 = 0) : lnT σ = some σ := by
  unfold lnT
  rw [b_good h, b1s, lt_def, if_pos rfl]
  show b1 (XX10_goOn σ) _ = _
  rw [b_goOn h, b1s]
theorem FF.ln {σ0 τ τ' : Sg} (h : FF σ0 τ τ') : Kp σ0 τ' (lnT τ') := by
  rw [lnT_bad h.bad]
  exact Kp.same h.lv
def QL (g : Nat → Nat) (L T : Nat) (σ0 : Sg) (k : Nat) (τ τ' : Sg) : Prop := ∃ D k', k < k' ∧ WD D ∧ CSt g L T D k' τ ∧ MSt g L σ0 D k' τ'
theorem QL.le {g : Nat → Nat} {L T : Nat} {σ0 : Sg} {k k1 : Nat} (h : k ≤ k1) : ∀ τ τ', QL g L T σ0 k1 τ τ' → QL g L T σ0 k τ τ' := fun τ τ' ⟨D, k', q1, q2⟩ => ⟨D, k', by omega, q2⟩
theorem end_both {g : Nat → Nat} {L T : Nat} {σ0 : Sg} {D : Vw} {k : Nat} {σ σ' : Sg} (hw : WD D) (hc : CTk g L T D k σ) (hm : MSt g L σ0 D k σ') : Sim σ0 (QL g L T σ0 k) (trC (15 : Int32) σ) (lnT σ') := by
  have c9 := hc.2.2.2.2.2.2.1
  have cl := ck_le g L (ps g L k)
  have hk := tkK_le g L (ps g L k)
  have m18 := hm.2.2.2.1.2.2.1
  unfold trC lnT
  rw [g_good hm.2.2.1, b1s, lt_def, if_neg (show ¬ (1 : Int32) = 0 by decide), m18, c9]
  by_cases q : ck g L (ps g L k) = 15
  · have hK := ck_3.mp q
    obtain ⟨τ', e1, e2⟩ := m_go hm
    refine Or.inl ⟨σ, τ', ?_, ?_, D, k + 1, by omega, hw, hc.go (fun z => by omega), e2⟩
    · rw [q, if_pos (show nI 15 = 15 from rfl)]
    · rw [hK, if_pos (show nI 3 = 3 from rfl)]
      show b1 (XX10_goOn σ') _ = _
      rw [e1, b1s]
  · obtain ⟨τ, τ', e1, e2, e3⟩ := ff_both hc hm (w := 2) (by omega) (by omega) (a := (2 : Int32)) rfl
    refine Or.inr ⟨τ, τ', ?_, ?_, e3⟩
    · rw [if_neg (show ¬ nI (ck g L (ps g L k)) = 15 from nI_ne (b := 15) (by omega) (by omega) q), e1, b2s, if_pos rfl]
    · rw [if_neg (show ¬ nI (tkK g L (ps g L k)) = 3 from nI_ne (b := 3) (by omega) (by omega) (fun z => q (ck_3.mpr z))), e2, b1s]
      show b1 (XX10_goOn τ') _ = _
      rw [b_goOn e3.bad, b1s]
theorem sign_both {g : Nat → Nat} {L T : Nat} {σ0 : Sg} {D : Vw} {k : Nat} {σ σ' : Sg} (hw : WD D) (hc : CSt g L T D k σ) (hm : MSt g L σ0 D k σ') : Sim σ0 (QL g L T σ0 k) (XX4_want (15 : Int32) σ) (lnT σ') := by
  obtain ⟨σ1, s1, s2⟩ := c_step hc
  rw [want_eq, s1, b1s]
  exact end_both hw s2 hm
theorem CSt.upd {g : Nat → Nat} {L T : Nat} {D D' : Vw} {k : Nat} {σ : Sg} (h : CSt g L T D k σ) {c i : Nat} {v : Int32} (c1 : c ≠ 10) (c2 : c ≠ 20) (c3 : c ≠ 21) (c4 : c ≠ 22) (hd : CD D' (up σ c i v)) : CSt g L T D' k (up σ c i v) := by
  obtain ⟨h1, h2, h3, h4, h5, h6⟩ := h
  refine ⟨h1.off (by rw [up_cell (Ne.symm c1)]) (up_cell (Ne.symm c2)) (up_cell (Ne.symm c3)) (up_cell (Ne.symm c4)), hd, h3, ?_, ?_, ?_⟩
  · rw [up_cell (Ne.symm c1)]
    exact h4
  · rw [up_cell (Ne.symm c1)]
    exact h5
  · rw [up_cell (Ne.symm c1)]
    exact h6
theorem MSt.upd {g : Nat → Nat} {L : Nat} {σ0 : Sg} {D D' : Vw} {k : Nat} {σ : Sg} (h : MSt g L σ0 D k σ) {c i : Nat} {v : Int32} (c1 : c ≠ 64) (c2 : c ≠ 76) (n : ¬ lvd c i) (hd : MD D' (up σ c i v)) : MSt g L σ0 D' k (up σ c i v) := by
  obtain ⟨h1, h2, h3, h4, h5, h6⟩ := h
  refine ⟨h1.off (up_cell (Ne.symm c2)), ?_, ?_, ?_, hd, h6.up n⟩
  · rw [up_cell (Ne.symm c1)]
    exact h2
  · rw [up_cell (Ne.symm c1)]
    exact h3
  · unfold TKs at h4 ⊢
    rw [up_cell (Ne.symm c1)]
    exact h4
theorem and2 : ∀ a, a < 128 → ∀ c, c < 7 → ((a &&& 2 ^ c = 0) ↔ a.testBit c = false) := by decide +kernel
theorem or2a : ∀ a, a < 128 → ∀ c, c < 7 → a ||| 2 ^ c < 128 := by decide +kernel
theorem or2b : ∀ a, a < 32 → ∀ c, c < 5 → a ||| 2 ^ c < 32 := by decide +kernel
theorem and_lt128 : ∀ a, a < 128 → ∀ c, c < 7 → a &&& 2 ^ c < 128 := by decide +kernel
def onD (D : Vw) (j : Nat) : Vw := put D 15 (fun i => if i = 0 then D 15 0 ||| 2 ^ kb j else D 15 1 ||| 2 ^ j)
theorem kb_lt {j : Nat} (h : j < 5) : kb j < 7 := by
  unfold kb
  split <;> omega
theorem WD.on {D : Vw} (h : WD D) {j : Nat} (hj : j < 5) : WD (onD D j) := by
  obtain ⟨h1, h2, h3, h4, h5, h6, h7, h8, h9, h10⟩ := h
  refine ⟨h1, h2, h3, h4, h5, h6, h7, or2a _ h8 _ (kb_lt hj), or2b _ h9 _ hj, fun i hi => ?_⟩
  show (D 15 0 ||| 2 ^ kb j).testBit (kb i) = (D 15 1 ||| 2 ^ j).testBit i
  have e : (kb j = kb i) ↔ (j = i) := by
    unfold kb
    split <;> split <;> omega
  rw [Nat.testBit_or, Nat.testBit_or, h10 i hi, Nat.testBit_two_pow, Nat.testBit_two_pow, decide_eq_decide.mpr e]
theorem once_both {g : Nat → Nat} {L T : Nat} {σ0 : Sg} {D : Vw} {k : Nat} {σ σ' : Sg} (hw : WD D) (hc : CTk g L T D k σ) (hm : MSt g L σ0 D k σ') {j : Nat} (hj : j < 5) (hk : ck g L (ps g L k) = kb j) {a : Int32} (ha : a = nI j) : (∃ τ τ', D 0 8 = 0 ∧ XX4_isOnce σ = some (1, τ) ∧ XX10_begins a σ' = some (1, τ') ∧ CSt g L T (onD D j) (k + 1) τ ∧ MSt g L σ0 (onD D j) (k + 1) τ') ∨ (∃ τ τ', XX4_isOnce σ = some (0, τ) ∧ XX10_begins a σ' = some (0, τ') ∧ FF σ0 τ τ') := by
  obtain ⟨w1, w2, w3, w4, w5, w6, w7, w8, w9, w10⟩ := id hw
  have s6 := w1.s6
  have kl := kb_lt hj
  have c9 : σ 10 9 = nI (kb j) := by
    rw [← hk]
    exact hc.2.2.2.2.2.2.1
  have c12 : σ 10 12 = nI (D 15 0) := hc.2.1.2.2
  have t6 : σ 11 6 = nI (D 0 8) := hc.2.1.1.2.2.2.2.2.2.1
  have m12 : σ' 64 12 = nI (D 15 1) := hm.2.2.2.2.1.2.2.2.2.2
  have m8 : σ' 65 18 = nI (D 0 8) := hm.2.2.2.2.1.1 8 (by omega)
  have hK := ck_1.mp (show ck g L (ps g L k) ≤ 13 by omega)
  have ns : ¬ stq g L (ps g L k) := fun z => by omega
  have x1 : (1 : Int32) <<< (nI (kb j) &&& 31) = nI (2 ^ kb j) := nx_1shl (by omega)
  have y1 : (1 : Int32) <<< (nI j &&& 31) = nI (2 ^ j) := nx_1shl (by omega)
  have al := and_lt128 _ w8 _ kl
  have bt := w10 j hj
  have z0 : (nI (D 15 0 &&& 2 ^ kb j) = 0) ↔ (D 15 1).testBit j = false := by
    rw [← bt, ← and2 _ w8 _ kl]
    exact nI_eqi (b := 0) (by omega) (by omega)
  have n1 : ∀ b : Bool, (nI (bq b) = 0) ↔ b = false := by decide
  have le0 : (nI (D 0 8) ≤ 0) ↔ D 0 8 = 0 := by
    have := nI_lei (a := D 0 8) (b := 0) (by omega) (by omega)
    rw [show (0 : Int32) = nI 0 from rfl, this]
    omega
  by_cases q : (D 15 1).testBit j = false ∧ D 0 8 = 0
  · have C : CD (onD D j) (up σ 10 12 (nI (D 15 0 ||| 2 ^ kb j))) := by
      obtain ⟨d1, d2, d3⟩ := hc.2.1
      refine ⟨d1.off (fun k k1 k2 => up_cell (by omega)), ?_, up_same⟩
      rw [up_cell (show 23 ≠ 10 by omega)]
      exact d2
    have C2 : CSt g L T (onD D j) (k + 1) (up σ 10 12 (nI (D 15 0 ||| 2 ^ kb j))) := by
      obtain ⟨h1, h2, h3, h4, h5, h6⟩ := hc.go ns
      refine ⟨h1.off (up_slot (by omega)) (up_cell (by omega)) (up_cell (by omega)) (up_cell (by omega)), C, h3, ?_, ?_, ?_⟩
      · rw [up_slot (by omega)]
        exact h4
      · rw [up_slot (by omega)]
        exact h5
      · rw [up_slot (by omega)]
        exact h6
    have M : MSt g L σ0 (onD D j) k (up σ' 64 12 (nI (D 15 1 ||| 2 ^ j))) := by
      obtain ⟨h1, h2, h3, h4, h5, h6⟩ := hm
      refine ⟨h1.off (up_cell (by omega)), ?_, ?_, ?_, ?_, h6.up (by unfold lvd; omega)⟩
      · rw [up_slot (by omega)]
        exact h2
      · rw [up_slot (by omega)]
        exact h3
      · unfold TKs at h4 ⊢
        rw [up_slot (by omega), up_slot (by omega), up_slot (by omega), up_slot (by omega)]
        exact h4
      · obtain ⟨d1, d2, d3, d4, d5, d6⟩ := h5
        refine ⟨?_, ?_, ?_, ?_, ?_, up_same⟩
        · rw [up_cell (show 65 ≠ 64 by omega)]
          exact d1
        · rw [up_cell (show 66 ≠ 64 by omega), up_cell (show 67 ≠ 64 by omega), up_cell (show 68 ≠ 64 by omega), up_cell (show 69 ≠ 64 by omega)]
          exact d2
        · rw [up_cell (show 70 ≠ 64 by omega), up_cell (show 71 ≠ 64 by omega)]
          exact d3
        · rw [up_cell (show 72 ≠ 64 by omega), up_cell (show 73 ≠ 64 by omega), up_cell (show 74 ≠ 64 by omega)]
          exact d4
        · rw [up_cell (show 75 ≠ 64 by omega)]
          exact d5
    obtain ⟨τ', e1, e2⟩ := m_go M
    refine Or.inl ⟨_, τ', q.2, ?_, ?_, C2, e2⟩
    · unfold XX4_isOnce
      rw [lt_def, lt_def, c9, x1, c12, nx_and, nx_or, if_pos (z0.mpr q.1), t6, if_pos (le0.mpr q.2), lt_def]
    · unfold XX10_begins
      rw [m12, ha, m_isOf (by omega) (by omega), b1s, lt_def, lt_def, if_pos ((n1 _).mpr q.1), m8, if_pos (le0.mpr q.2)]
      show lt _ _ = _
      rw [lt_def, m12, y1, nx_or, e1, b1s, g_good e2.2.2.1, b1s, if_pos (Or.inr rfl)]
  · obtain ⟨τ, τ', e1, e2, e3⟩ := ff_both hc hm (w := 2) (by omega) (by omega) (a := (2 : Int32)) rfl
    have k1 : Kp σ0 τ' (some (up τ' 64 12 (τ' 64 12 ||| nI (2 ^ j)))) := (Kp.same (e3.lv.up (by unfold lvd; omega))).of (up_slot (by omega)) (up_slot (by omega))
    obtain ⟨τ2, f1, f2⟩ := e3.kp k1
    have f0 := Option.some.inj f1
    have b2' : ¬ (up τ' 64 12 (τ' 64 12 ||| nI (2 ^ j))) 64 22 = 0 := by
      rw [f0]
      exact f2.bad
    refine Or.inr ⟨τ, τ2, ?_, ?_, f2⟩
    · unfold XX4_isOnce
      rw [lt_def, lt_def, c9, x1, c12, nx_and, t6, e1, b2s, if_pos (Or.inl rfl)]
      by_cases y : (D 15 1).testBit j = false
      · rw [if_pos (z0.mpr y), if_neg (fun z => q ⟨y, le0.mp z⟩)]
      · rw [if_neg (fun z => y (z0.mp z))]
    · unfold XX10_begins
      rw [m12, ha, m_isOf (by omega) (by omega), b1s, lt_def, lt_def, m8, e2, b1s]
      have tk : lt (up τ' 64 12 ((τ' 64 12) ||| ((1 : Int32) <<< (nI j &&& 31)))) (fun (σ_4 : Sg) => b1 (XX10_goOn σ_4) (fun (σ_5 : Sg) => b1 (XX10_isGood σ_5) (fun (r_6 : Int32) => if r_6 = 0 ∨ r_6 = 1 then some (r_6, σ_5) else none))) = some (0, τ2) := by
        rw [lt_def, y1, b_goOn b2', b1s, b_good b2', b1s, if_pos (Or.inl rfl), f0]
      by_cases y : (D 15 1).testBit j = false
      · rw [if_pos ((n1 _).mpr y), if_neg (fun z => q ⟨y, le0.mp z⟩)]
        exact tk
      · rw [if_neg (fun z => y ((n1 _).mp z))]
        exact tk
