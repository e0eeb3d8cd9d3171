/-! TEXT: both sides' drafts, token by token -/
def CD (D : Vw) (σ : Sg) : Prop := TC D (fun k => σ (k + 9)) ∧ (∀ s, s < D 0 8 → σ 23 s = nI (D 14 s)) ∧ σ 10 12 = nI (D 15 0)
def MD (D : Vw) (σ : Sg) : Prop := (∀ i, i < 10 → σ 65 (10 + i) = nI (D 0 i)) ∧ (∀ s, s < D 0 8 → σ 66 (6 + s) = nI (D 1 s) ∧ σ 67 (6 + s) = nI (D 2 s) ∧ σ 68 (6 + s) = nI (D 3 s) ∧ σ 69 (6 + s) = nI (D 4 s))
  ∧ (∀ s, s < D 0 8 → ∃ n, 1 ≤ n ∧ n ≤ 7 ∧ σ 70 (6 + s) = nI n ∧ ∀ d, d < D 0 0 → σ 71 (42 + 7 * s + d % n) = nI (D 6 (14 * s + d)))
  ∧ (∀ k, k < D 0 9 → ∃ s d, s < D 0 8 ∧ d < D 0 0 ∧ D 7 k = 14 * s + d ∧ σ 72 (12 + k) = nI s ∧ σ 73 (12 + k) = nI d ∧ σ 74 (12 + k) = nI (D 8 k))
  ∧ (∀ s, s < D 0 8 → σ 75 s = nI (D 14 s)) ∧ σ 64 12 = nI (D 15 1)
/-- what the reference's reading leaves as it was -/
def lvd (c i : Nat) : Prop := (c = 64 ∧ (i = 14 ∨ i = 39)) ∨ (c = 65 ∧ i < 10) ∨ (66 ≤ c ∧ c ≤ 70 ∧ i < 6) ∨ (c = 71 ∧ i < 42) ∨ (72 ≤ c ∧ c ≤ 74 ∧ i < 12) ∨ 76 ≤ c
def Lv (σ0 σ : Sg) : Prop := ∀ c i, lvd c i → σ c i = σ0 c i
theorem Lv.up {σ0 σ : Sg} {c i : Nat} {v : Int32} (h : Lv σ0 σ) (n : ¬ lvd c i) : Lv σ0 (up σ c i v) := fun c' i' h' => by
  rw [up_at, if_neg (fun z => n (by rw [← z.1, ← z.2]; exact h'))]
  exact h c' i' h'
abbrev mF : List (Nat × Option Nat) := [(64, some 12), (64, some 16), (64, some 17), (64, some 18), (64, some 19), (64, some 22), (64, some 23)]
abbrev mG : List (Nat × Option Nat) := [(64, some 16), (64, some 17), (64, some 18), (64, some 19), (64, some 22), (64, some 23)]
abbrev cF : List (Nat × Option Nat) := [(10, some 1), (10, some 2), (10, some 8), (10, some 9), (10, some 10), (10, some 11)]
theorem Lv.fr {σ0 σ τ : Sg} (h : Lv σ0 σ) (hf : fr mF σ τ) : Lv σ0 τ := fun c i h' => by
  rw [hf c i (fun q => by simp at q) (fun q => by
    unfold lvd at h'
    simp at q
    omega)]
  exact h c i h'
theorem MD.fr {D : Vw} {σ τ : Sg} (h : MD D σ) (hf : fr mG σ τ) : MD D τ := by
  unfold MD at h ⊢
  rw [hf.cell (k := 65) rfl, hf.cell (k := 66) rfl, hf.cell (k := 67) rfl, hf.cell (k := 68) rfl, hf.cell (k := 69) rfl, hf.cell (k := 70) rfl, hf.cell (k := 71) rfl, hf.cell (k := 72) rfl, hf.cell (k := 73) rfl, hf.cell (k := 74) rfl, hf.cell (k := 75) rfl, hf.slot (k := 64) (i := 12) rfl]
  exact h
theorem CD.fr {D : Vw} {σ τ : Sg} (h : CD D σ) (hf : fr cF σ τ) : CD D τ := by
  obtain ⟨h1, h2, h3⟩ := h
  refine ⟨h1.off (fun k k1 k2 => funext fun i => hf (k + 9) i (fun q => by simp at q) (fun q => by
    simp at q
    omega)), ?_, ?_⟩
  · rw [hf.cell (k := 23) rfl]
    exact h2
  · rw [hf.slot (k := 10) (i := 12) rfl]
    exact h3
theorem SC.fr {g : Nat → Nat} {L T : Nat} {σ τ : Sg} (h : SC g L T σ) (hf : fr cF σ τ) : SC g L T τ := h.off (hf.slot (k := 10) (i := 7) rfl) (hf.cell (k := 20) rfl) (hf.cell (k := 21) rfl) (hf.cell (k := 22) rfl)
/-- the class ahead of token k; the class at token k; the reference at token k -/
def CSt (g : Nat → Nat) (L T : Nat) (D : Vw) (k : Nat) (σ : Sg) : Prop := SC g L T σ ∧ CD D σ ∧ k ≤ T ∧ σ 10 8 = nI k ∧ σ 10 1 = 0 ∧ σ 10 2 = -1
def CTk (g : Nat → Nat) (L T : Nat) (D : Vw) (k : Nat) (σ : Sg) : Prop := SC g L T σ ∧ CD D σ ∧ k ≤ T ∧ σ 10 8 = nI (k + 1) ∧ σ 10 1 = 0 ∧ σ 10 2 = -1 ∧ σ 10 9 = nI (ck g L (ps g L k)) ∧ σ 10 10 = nI (ps g L k) ∧ (tkK g L (ps g L k) = 1 ∨ tkK g L (ps g L k) = 2 → σ 10 11 = nI (tkV g L (ps g L k)))
def MSt (g : Nat → Nat) (L : Nat) (σ0 : Sg) (D : Vw) (k : Nat) (σ : Sg) : Prop := TP g L 76 σ ∧ σ 64 15 = nI L ∧ σ 64 22 = 0 ∧ TKs g L (ps g L k) σ ∧ MD D σ ∧ Lv σ0 σ
theorem CTk.go {g : Nat → Nat} {L T : Nat} {D : Vw} {k : Nat} {σ : Sg} (h : CTk g L T D k σ) (n : ¬ stq g L (ps g L k)) : CSt g L T D (k + 1) σ := by
  obtain ⟨h1, h2, h3, h4, h5, h6, -⟩ := h
  refine ⟨h1, h2, ?_, h4, h5, h6⟩
  by_cases q : k = T
  · rw [q] at n
    exact absurd h1.2.2.2.2 n
  · omega
theorem ps_le (g : Nat → Nat) (L : Nat) : ∀ k, ps g L k ≤ L
  | 0 => en_le (L - 0) 0 rfl (by omega)
  | k + 1 => by
    have h := ps_le g L k
    refine en_le (L - tkB g L (ps g L k)) _ rfl ?_
    by_cases q : ps g L k < L
    · exact (tkB_gt q).2
    · unfold tkB
      rw [if_pos (by omega)]
      exact h
theorem tkB_le {g : Nat → Nat} {L p : Nat} (h : p ≤ L) : tkB g L p ≤ L := by
  by_cases q : p < L
  · exact (tkB_gt q).2
  · unfold tkB
    rw [if_pos (by omega)]
    exact h
theorem c_step {g : Nat → Nat} {L T : Nat} {D : Vw} {k : Nat} {σ : Sg} (h : CSt g L T D k σ) : ∃ τ, XX4_step σ = some τ ∧ CTk g L T D k τ := by
  obtain ⟨h1, h2, h3, h4, h5, h6⟩ := h
  have hT := h1.1
  obtain ⟨t1, t2, t3⟩ := h1.2.2.1 k h3
  have e1 : σ 10 7 - (1 : Int32) = nI T := by
    rw [h1.2.1, show (1 : Int32) = nI 1 from rfl, nI_sb (by omega), show T + 1 - 1 = T by omega]
  obtain ⟨τ, hτ⟩ : ∃ τ, XX4_step σ = some τ ∧ τ 10 8 = nI (k + 1) ∧ τ 10 9 = σ 20 k ∧ τ 10 10 = σ 21 k ∧ τ 10 11 = σ 22 k := by
    refine ⟨up (up (up (up σ 10 9 (σ 20 k)) 10 10 (σ 21 k)) 10 11 (σ 22 k)) 10 8 (nI (k + 1)), ?_, up_same, ?_, ?_, ?_⟩
    · unfold XX4_step
      rw [e1, h4, if_neg (show ¬ nI T < nI k by rw [nI_lti (by omega) (by omega)]; omega), lt_def, if_pos ((ib_nI (by omega)).mpr (by omega)), nI_cl (by omega), lt_def, lt_def, up_cell (show 21 ≠ 10 by omega), lt_def, up_cell (show 22 ≠ 10 by omega), up_cell (show 22 ≠ 10 by omega), lt_def, nI_1]
    · rw [up_slot (by omega), up_slot (by omega), up_slot (by omega), up_same]
    · rw [up_slot (by omega), up_slot (by omega), up_same]
    · rw [up_slot (by omega), up_same]
  obtain ⟨e, a8, a9, a10, a11⟩ := hτ
  have f : fr cF σ τ := (frX4_step e).mono (by simp)
  refine ⟨τ, e, h1.fr f, h2.fr f, h3, a8, ?_, ?_, by rw [a9, t1], by rw [a10, t2], fun z => by rw [a11]; exact t3 z⟩
  · rw [(frX4_step e).slot (k := 10) (i := 1) rfl]
    exact h5
  · rw [(frX4_step e).slot (k := 10) (i := 2) rfl]
    exact h6
theorem c_refuse {c p w : Nat} {σ : Sg} (h9 : σ 10 9 = nI c) (hc : c ≤ 17) (h10 : σ 10 10 = nI p) : ∃ τ, XX4_refuse (nI w) σ = some (0, τ) ∧ τ 10 1 = nI (if c = 17 then 1 else w) ∧ τ 10 2 = nI p := by
  refine ⟨up (up σ 10 1 (nI (if c = 17 then 1 else w))) 10 2 (nI p), ?_, ?_, up_same⟩
  · unfold XX4_refuse
    rw [lt_def, h9]
    by_cases q : c = 17
    · rw [if_pos q, if_pos (show nI c = 17 by rw [q]; rfl)]
      show lt _ _ = _
      rw [lt_def, lt_def, up_slot (show 10 ≠ 1 by omega), h10]
      rfl
    · rw [if_neg q, if_neg (show ¬ nI c = 17 from nI_ne (b := 17) (by omega) (by omega) q)]
      show lt _ _ = _
      rw [lt_def, lt_def, up_slot (show 10 ≠ 1 by omega), h10]
  · rw [up_slot (by omega), up_same]
theorem m_fails {K p w : Nat} {σ : Sg} (h22 : σ 64 22 = 0) (h18 : σ 64 18 = nI K) (hK : K ≤ 4) (h16 : σ 64 16 = nI p) : ∃ τ, XX10_fails (nI w) σ = some τ ∧ τ 64 22 = nI (if K = 4 then 1 else w) ∧ τ 64 23 = nI p := by
  refine ⟨up (up σ 64 22 (nI (if K = 4 then 1 else w))) 64 23 (nI p), ?_, ?_, up_same⟩
  · unfold XX10_fails
    rw [if_pos h22, lt_def, h18]
    by_cases q : K = 4
    · rw [if_pos q, if_pos (show nI K = 4 by rw [q]; rfl)]
      show lt _ _ = _
      rw [lt_def, lt_def, up_slot (show 16 ≠ 22 by omega), h16]
      rfl
    · rw [if_neg q, if_neg (show ¬ nI K = 4 from nI_ne (b := 4) (by omega) (by omega) q)]
      show lt _ _ = _
      rw [lt_def, lt_def, up_slot (show 16 ≠ 22 by omega), h16]
  · rw [up_slot (by omega), up_same]
/-- the same fault on both sides -/
def FF (σ0 τ τ' : Sg) : Prop := ∃ w p, 1 ≤ w ∧ w ≤ 5 ∧ p ≤ 800 ∧ τ 10 1 = nI w ∧ τ 10 2 = nI p ∧ τ' 64 22 = nI w ∧ τ' 64 23 = nI p ∧ Lv σ0 τ'
/-- a faulty reference that goes on keeps its fault -/
def Kp (σ0 σ : Sg) (Y : Option Sg) : Prop := ∃ τ, Y = some τ ∧ τ 64 22 = σ 64 22 ∧ τ 64 23 = σ 64 23 ∧ Lv σ0 τ
theorem FF.bad {σ0 τ τ' : Sg} (h : FF σ0 τ τ') : ¬ τ' 64 22 = 0 := by
  obtain ⟨w, p, h1, h2, h3, h4, h5, h6, -⟩ := h
  rw [h6]
  exact nI_n0 (by omega) (by omega)
theorem FF.lv {σ0 τ τ' : Sg} (h : FF σ0 τ τ') : Lv σ0 τ' := by
  obtain ⟨w, p, h1, h2, h3, h4, h5, h6, h7, h8⟩ := h
  exact h8
theorem FF.kp {σ0 τ τ' : Sg} {Y : Option Sg} (h : FF σ0 τ τ') (k : Kp σ0 τ' Y) : ∃ τ2, Y = some τ2 ∧ FF σ0 τ τ2 := by
  obtain ⟨w, p, h1, h2, h3, h4, h5, h6, h7, h8⟩ := h
  obtain ⟨τ2, k1, k2, k3, k4⟩ := k
  exact ⟨τ2, k1, w, p, h1, h2, h3, h4, h5, by rw [k2]; exact h6, by rw [k3]; exact h7, k4⟩
theorem Kp.same {σ0 σ : Sg} (h : Lv σ0 σ) : Kp σ0 σ (some σ) := ⟨σ, rfl, rfl, rfl, h⟩
theorem Kp.of {σ0 σ σ2 : Sg} {Y : Option Sg} (h : Kp σ0 σ2 Y) (e2 : σ2 64 22 = σ 64 22) (e3 : σ2 64 23 = σ 64 23) : Kp σ0 σ Y := by
  obtain ⟨τ, k1, k2, k3, k4⟩ := h
  exact ⟨τ, k1, by rw [k2, e2], by rw [k3, e3], k4⟩
theorem Kp.up {σ0 σ : Sg} {c i : Nat} {v : Int32} {Y : Option Sg} (h : Kp σ0 (up σ c i v) Y) (hc : c ≠ 64) : Kp σ0 σ Y := h.of (by rw [up_cell (Ne.symm hc)]) (by rw [up_cell (Ne.symm hc)])
theorem b_good {σ : Sg} (h : ¬ σ 64 22 = 0) : XX10_isGood σ = some 0 := by
  unfold XX10_isGood
  rw [if_neg h]
theorem g_good {σ : Sg} (h : σ 64 22 = 0) : XX10_isGood σ = some 1 := by
  unfold XX10_isGood
  rw [if_pos h]
theorem b_goOn {σ : Sg} (h : ¬ σ 64 22 = 0) : XX10_goOn σ = some σ := by
  unfold XX10_goOn
  rw [b_good h, b1s, if_pos rfl]
theorem b_fails {σ : Sg} (h : ¬ σ 64 22 = 0) (w : Int32) : XX10_fails w σ = some σ := by
  unfold XX10_fails
  rw [if_neg h]
theorem b_keyword {σ : Sg} (h : ¬ σ 64 22 = 0) (w : Int32) : XX10_keyword w σ = some σ := by
  unfold XX10_keyword
  rw [b_good h, b1s, lt_def, if_pos rfl]
  show b1 (XX10_goOn σ) _ = _
  rw [b_goOn h, b1s]
def rnK (σ_2 : Sg) : Option (Int32 × Sg) := b1 (XX10_goOn σ_2) (fun (σ_5 : Sg) => b1 (XX10_isGood σ_5) (fun (r_6 : Int32) => if r_6 = 0 then (some ((0 : Int32), σ_5)) else (some (σ_2 64 19, σ_5))))
theorem rnK_bad {σ : Sg} (h : ¬ σ 64 22 = 0) : rnK σ = some (0, σ) := by
  unfold rnK
  rw [b_goOn h, b1s, b_good h, b1s, if_pos rfl]
theorem b_readNumber {σ : Sg} (h : ¬ σ 64 22 = 0) (a b : Int32) : XX10_readNumber a b σ = some (0, σ) := by
  unfold XX10_readNumber
  rw [b_good h, b1s, lt_def, lt_def, b1s, if_pos rfl, if_pos rfl]
  exact rnK_bad h
theorem readNumber_eq {σ : Sg} (h : σ 64 22 = 0) (a b : Int32) : XX10_readNumber a b σ = if (σ 64 18) = (2 : Int32) then (b1 (XX10_in (σ 64 19) a b) (fun (r_9 : Int32) => if r_9 = 0 then (b1 (XX10_fails (4 : Int32) σ) (fun (σ_10 : Sg) => rnK σ_10)) else (rnK σ))) else (b1 (XX10_fails (2 : Int32) σ) (fun (σ_11 : Sg) => rnK σ_11)) := by
  unfold XX10_readNumber
  rw [g_good h, b1s, lt_def, lt_def, b1s, if_neg (show ¬ (1 : Int32) = 0 by decide), if_neg (show ¬ (1 : Int32) = 0 by decide)]
  rfl
theorem b_reads {σ : Sg} (h : ¬ σ 64 22 = 0) {i : Nat} (hi : i < 10) (a b : Int32) : XX10_reads (nI i) a b σ = some (up σ 65 (10 + i) 0) := by
  unfold XX10_reads
  rw [b_readNumber h, b2s, show (10 : Int32) = nI 10 from rfl, nI_add, if_pos ((ib_nI (by omega)).mpr (by omega)), nI_cl (by omega), lt_def]
theorem m_go {g : Nat → Nat} {L : Nat} {σ0 : Sg} {D : Vw} {k : Nat} {σ : Sg} (h : MSt g L σ0 D k σ) : ∃ τ, XX10_goOn σ = some τ ∧ MSt g L σ0 D (k + 1) τ := by
  obtain ⟨h1, h2, h3, h4, h5, h6⟩ := h
  obtain ⟨τ, e1, e2, e3⟩ := m_goOn h1 h2 h3 h4.2.1 (tkB_le (ps_le g L k))
  refine ⟨τ, e1, h1.off (e3.cell (k := 76) rfl), ?_, ?_, e2, h5.fr (e3.mono (by simp)), h6.fr (e3.mono (by simp))⟩
  · rw [e3.slot (k := 64) (i := 15) rfl]
    exact h2
  · rw [e3.slot (k := 64) (i := 22) rfl]
    exact h3
theorem ff_both {g : Nat → Nat} {L T : Nat} {σ0 : Sg} {D D2 : Vw} {k : Nat} {σ σ' : Sg} (hc : CTk g L T D k σ) (hm : MSt g L σ0 D2 k σ') {w : Nat} (w1 : 1 ≤ w) (w5 : w ≤ 5) {a : Int32} (ha : a = nI w) : ∃ τ τ', XX4_refuse a σ = some (0, τ) ∧ XX10_fails a σ' = some τ' ∧ FF σ0 τ τ' := by
  obtain ⟨-, -, -, -, -, -, c9, c10, -⟩ := hc
  obtain ⟨m1, -, m22, ⟨m16, -, m18, -⟩, -, m6⟩ := hm
  have pl := ps_le g L k
  have hL := m1.1
  obtain ⟨τ, e1, e2, e3⟩ := c_refuse (w := w) c9 (ck_le g L _) c10
  obtain ⟨τ', f1, f2, f3⟩ := m_fails (w := w) m22 m18 (tkK_le g L _) m16
  rw [ha]
  refine ⟨τ, τ', e1, f1, (if ck g L (ps g L k) = 17 then 1 else w), ps g L k, ?_, ?_, by omega, e2, e3, ?_, f3, m6.fr ((frX10_fails f1).mono (by simp))⟩
  · split <;> omega
  · split <;> omega
  · rw [f2]
    by_cases q : tkK g L (ps g L k) = 4
    · rw [if_pos q, if_pos (ck_4.mpr q)]
    · rw [if_neg q, if_neg (fun z => q (ck_4.mp z))]
/-- a run of the class's beside one of the reference's -/
def Sim (σ0 : Sg) (Q : Sg → Sg → Prop) (X : Option (Int32 × Sg)) (Y : Option Sg) : Prop := (∃ τ τ', X = some (1, τ) ∧ Y = some τ' ∧ Q τ τ') ∨ (∃ τ τ', X = some (0, τ) ∧ Y = some τ' ∧ FF σ0 τ τ')
theorem Sim.bd {σ0 : Sg} {Q : Sg → Sg → Prop} {X : Option (Int32 × Sg)} {Y : Option Sg} {τ τ' : Sg} (e : X = some (0, τ)) (h : FF σ0 τ τ') (k : Kp σ0 τ' Y) : Sim σ0 Q X Y := by
  obtain ⟨τ2, k1, k2⟩ := h.kp k
  exact Or.inr ⟨τ, τ2, e, k1, k2⟩
theorem Sim.w {σ0 : Sg} {Q : Sg → Sg → Prop} {X : Option (Int32 × Sg)} {Y : Option Sg} (h : Sim σ0 Q X Y) : Sim σ0 Q (b2 X (fun (r_4 : Int32) (σ_5 : Sg) => if r_4 = 0 ∨ r_4 = 1 then some (r_4, σ_5) else none)) Y := by
  rcases h with ⟨τ, τ', e, f, q⟩ | ⟨τ, τ', e, f, q⟩
  · refine Or.inl ⟨τ, τ', ?_, f, q⟩
    rw [e, b2s, if_pos (Or.inr rfl)]
  · refine Or.inr ⟨τ, τ', ?_, f, q⟩
    rw [e, b2s, if_pos (Or.inl rfl)]
theorem Sim.w0 {σ0 : Sg} {Q : Sg → Sg → Prop} {X : Option (Int32 × Sg)} {Y : Option Sg} (h : Sim σ0 Q X Y) : Sim σ0 Q (b2 X (fun (r_4 : Int32) (σ_5 : Sg) => if r_4 = 0 then some ((0 : Int32), σ_5) else some ((1 : Int32), σ_5))) Y := by
  rcases h with ⟨τ, τ', e, f, q⟩ | ⟨τ, τ', e, f, q⟩
  · refine Or.inl ⟨τ, τ', ?_, f, q⟩
    rw [e, b2s, if_neg (show ¬ (1 : Int32) = 0 by decide)]
  · refine Or.inr ⟨τ, τ', ?_, f, q⟩
    rw [e, b2s, if_pos rfl]
theorem Sim.mono {σ0 : Sg} {Q Q2 : Sg → Sg → Prop} {X : Option (Int32 × Sg)} {Y : Option Sg} (h : Sim σ0 Q X Y) (m : ∀ τ τ', Q τ τ' → Q2 τ τ') : Sim σ0 Q2 X Y := by
  rcases h with ⟨τ, τ', e, f, q⟩ | ⟨τ, τ', e, f, q⟩
  · exact Or.inl ⟨τ, τ', e, f, m _ _ q⟩
  · exact Or.inr ⟨τ, τ', e, f, q⟩
/-- a number on both sides -/
theorem isn_both {g : Nat → Nat} {L T : Nat} {σ0 : Sg} {D : Vw} {k : Nat} {σ σ' : Sg} (hc : CTk g L T D k σ) (hm : MSt g L σ0 D k σ') {lo hi : Nat} (l9 : lo < 2147483648) (h9 : hi < 2147483648) {a b : Int32} (ha : a = nI lo) (hb : b = nI hi) : (∃ v τ', ck g L (ps g L k) = 14 ∧ lo ≤ v ∧ v ≤ hi ∧ XX4_isNumber a b σ = some (1, σ) ∧ XX10_readNumber a b σ' = some (nI v, τ') ∧ CSt g L T D (k + 1) σ ∧ σ 10 11 = nI v ∧ MSt g L σ0 D (k + 1) τ') ∨ (∃ τ τ', XX4_isNumber a b σ = some (0, τ) ∧ XX10_readNumber a b σ' = some (0, τ') ∧ FF σ0 τ τ') := by
  obtain ⟨-, -, -, -, -, -, c9, c10, c11⟩ := id hc
  obtain ⟨m1, -, m22, ⟨m16, -, m18, m19⟩, -, m6⟩ := id hm
  have cl := ck_le g L (ps g L k)
  by_cases q : ck g L (ps g L k) = 14
  · have hK := ck_2.mp q
    have vl := tkV_lt (Or.inr hK)
    have d11 := c11 (Or.inr hK)
    have d19 := m19 (Or.inr hK)
    have ns : ¬ stq g L (ps g L k) := fun z => by omega
    by_cases r : lo ≤ tkV g L (ps g L k) ∧ tkV g L (ps g L k) ≤ hi
    · obtain ⟨τ', e1, e2⟩ := m_go hm
      refine Or.inl ⟨tkV g L (ps g L k), τ', q, r.1, r.2, ?_, ?_, hc.go ns, d11, e2⟩
      · unfold XX4_isNumber
        rw [c9, q, if_pos (show nI 14 = 14 from rfl), lt_def, lt_def, d11, ha, hb, if_neg (show ¬ nI (tkV g L (ps g L k)) < nI lo by rw [nI_lti (by omega) l9]; omega), if_pos ((nI_lei (by omega) h9).mpr r.2)]
      · rw [readNumber_eq m22, m18, hK, if_pos (show nI 2 = 2 from rfl), d19, m_in, ha, hb, if_neg (show ¬ nI (tkV g L (ps g L k)) < nI lo by rw [nI_lti (by omega) l9]; omega), if_neg (show ¬ nI hi < nI (tkV g L (ps g L k)) by rw [nI_lti h9 (by omega)]; omega), b1s, if_neg (show ¬ (1 : Int32) = 0 by decide)]
        unfold rnK
        rw [e1, b1s, g_good e2.2.2.1, b1s, if_neg (show ¬ (1 : Int32) = 0 by decide), d19]
    · obtain ⟨τ, τ', e1, e2, e3⟩ := ff_both hc hm (w := 4) (by omega) (by omega) (a := (4 : Int32)) rfl
      refine Or.inr ⟨τ, τ', ?_, ?_, e3⟩
      · unfold XX4_isNumber
        rw [c9, q, if_pos (show nI 14 = 14 from rfl), lt_def, lt_def, d11, ha, hb, e1, b2s, if_pos rfl]
        by_cases y : nI (tkV g L (ps g L k)) < nI lo
        · rw [if_pos y]
        · rw [if_neg y, if_neg (fun z => r ⟨n_nlt (by omega) l9 y, (nI_lei (by omega) h9).mp z⟩)]
      · rw [readNumber_eq m22, m18, hK, if_pos (show nI 2 = 2 from rfl), d19, m_in, ha, hb, e2]
        have e0 : (if nI (tkV g L (ps g L k)) < nI lo then (0 : Int32) else if nI hi < nI (tkV g L (ps g L k)) then 0 else 1) = 0 := by
          by_cases y : nI (tkV g L (ps g L k)) < nI lo
          · rw [if_pos y]
          · rw [if_neg y, if_pos ((nI_lti h9 (by omega)).mpr (by
              have := n_nlt (by omega) l9 y
              omega))]
        rw [e0, b1s, if_pos rfl, b1s]
        exact rnK_bad e3.bad
  · obtain ⟨τ, τ', e1, e2, e3⟩ := ff_both hc hm (w := 2) (by omega) (by omega) (a := (2 : Int32)) rfl
    refine Or.inr ⟨τ, τ', ?_, ?_, e3⟩
    · unfold XX4_isNumber
      rw [c9, if_neg (show ¬ nI (ck g L (ps g L k)) = 14 from nI_ne (b := 14) (by omega) (by omega) q), e1, b2s, if_pos (Or.inl rfl)]
    · rw [readNumber_eq m22, m18, if_neg (show ¬ nI (tkK g L (ps g L k)) = 2 from nI_ne (b := 2) (by have := tkK_le g L (ps g L k); omega) (by omega) (fun z => q (ck_2.mpr z))), e2, b1s]
      exact rnK_bad e3.bad
theorem num_both {g : Nat → Nat} {L T : Nat} {σ0 : Sg} {D : Vw} {k : Nat} {σ σ' : Sg} (hc : CSt g L T D k σ) (hm : MSt g L σ0 D k σ') {lo hi : Nat} (l9 : lo < 2147483648) (h9 : hi < 2147483648) {a b : Int32} (ha : a = nI lo) (hb : b = nI hi) : (∃ v τ τ', lo ≤ v ∧ v ≤ hi ∧ XX4_wantNumber a b σ = some (1, τ) ∧ XX10_readNumber a b σ' = some (nI v, τ') ∧ CSt g L T D (k + 1) τ ∧ τ 10 11 = nI v ∧ MSt g L σ0 D (k + 1) τ') ∨ (∃ τ τ', XX4_wantNumber a b σ = some (0, τ) ∧ XX10_readNumber a b σ' = some (0, τ') ∧ FF σ0 τ τ') := by
  obtain ⟨σ1, s1, s2⟩ := c_step hc
  rcases isn_both s2 hm l9 h9 ha hb with ⟨v, τ', -, v1, v2, e1, e2, e3, e4, e5⟩ | ⟨τ, τ', e1, e2, e3⟩
  · refine Or.inl ⟨v, σ1, τ', v1, v2, ?_, e2, e3, e4, e5⟩
    unfold XX4_wantNumber
    rw [s1, b1s, e1, b2s, if_pos (Or.inr rfl)]
  · refine Or.inr ⟨τ, τ', ?_, e2, e3⟩
    unfold XX4_wantNumber
    rw [s1, b1s, e1, b2s, if_pos (Or.inl rfl)]
theorem reads_both {g : Nat → Nat} {L T : Nat} {σ0 : Sg} {D : Vw} {k : Nat} {σ σ' : Sg} (hc : CSt g L T D k σ) (hm : MSt g L σ0 D k σ') {lo hi i : Nat} (l9 : lo < 2147483648) (h9 : hi < 2147483648) (hi9 : i < 10) {a b c : Int32} (ha : a = nI lo) (hb : b = nI hi) (hci : c = nI i) : (∃ v τ τ', lo ≤ v ∧ v ≤ hi ∧ XX4_wantNumber a b σ = some (1, τ) ∧ XX10_reads c a b σ' = some (up τ' 65 (10 + i) (nI v)) ∧ CSt g L T D (k + 1) τ ∧ τ 10 11 = nI v ∧ MSt g L σ0 D (k + 1) τ') ∨ (∃ τ τ', XX4_wantNumber a b σ = some (0, τ) ∧ XX10_reads c a b σ' = some τ' ∧ FF σ0 τ τ') := by
  rcases num_both hc hm l9 h9 ha hb with ⟨v, τ, τ', v1, v2, e1, e2, e3, e4, e5⟩ | ⟨τ, τ', e1, e2, e3⟩
  · refine Or.inl ⟨v, τ, τ', v1, v2, e1, ?_, e3, e4, e5⟩
    unfold XX10_reads
    rw [e2, b2s, hci, show (10 : Int32) = nI 10 from rfl, nI_add, if_pos ((ib_nI (by omega)).mpr (by omega)), nI_cl (by omega), lt_def]
  · have kp : Kp σ0 τ' (some (up τ' 65 (10 + i) 0)) := Kp.up (Kp.same (e3.lv.up (by unfold lvd; omega))) (by omega)
    obtain ⟨τ2, f1, f2⟩ := e3.kp kp
    refine Or.inr ⟨τ, τ2, e1, ?_, f2⟩
    unfold XX10_reads
    rw [e2, b2s, hci, show (10 : Int32) = nI 10 from rfl, nI_add, if_pos ((ib_nI (by omega)).mpr (by omega)), nI_cl (by omega), lt_def]
    exact f1
