/-! ACTS: better, tune: one step -/
abbrev FN : Type := Nat → Nat
def Cc (V : Vw) : FN → Nat := fun f => cosT V f (aq V)
theorem Cc_lt {V : Vw} (hw : WF V) (f : FN) : Cc V f < 100000000 := by
  have s6 := hw.s6
  have d14 := hw.d14
  have h1 : stT V f (aq V) ≤ V 0 8 * (V 0 0 * 1000) := sumN_le (fun s hs => sumN_le (fun d hd => by
    have := stk_lt hw (v := f s) (A := aq V s) (d := d + 1) hs
    show stk (V 4 s) (V 3 s) (f s) (aq V s) (d + 1) ≤ 1000
    omega))
  have h2 : msT V f (aq V) ≤ V 0 8 * (V 0 0 * 750) := sumN_le (fun s hs => sumN_le (fun d hd => by
    have h2 : rmiss (V 4 s) (V 3 s) (f s) (aq V s) d ≤ aq V s d := rmiss_le
    have := aq_le hw hs hd
    show rmiss (V 4 s) (V 3 s) (f s) (aq V s) d ≤ 750
    omega))
  have h3 : V 0 8 * (V 0 0 * 1000) ≤ 6 * (14 * 1000) := Nat.mul_le_mul s6 (Nat.mul_le_mul_right _ d14)
  have h4 : V 0 8 * (V 0 0 * 750) ≤ 6 * (14 * 750) := Nat.mul_le_mul s6 (Nat.mul_le_mul_right _ d14)
  have h5 : V 0 6 * stT V f (aq V) ≤ 9 * 84000 := Nat.mul_le_mul hw.ho (by omega)
  have h6 : V 0 7 * msT V f (aq V) ≤ 99 * 63000 := Nat.mul_le_mul hw.lo (by omega)
  have h7 : rcT V f (aq V) ≤ V 0 0 * 24000 := sumN_le (fun d _ => cd_le hw)
  unfold Cc cosT
  omega
/-- the class's state, the reference's state, at a plan -/
def CS (V : Vw) (f : FN) (σ : Sg) : Prop := CI V σ ∧ RN V (prV V) 46 f (aq V) σ
def MS (V : Vw) (f : FN) (σ : Sg) : Prop := RA (vsV V f) σ ∧ askM V (aq V) σ
/-- the plan with a change -/
abbrev chF (f : FN) (s c : Nat) : FN := updN f s (f s ^^^ c)
theorem upd_upd (f : FN) (s a b : Nat) : updN (updN f s a) s b = updN f s b := by
  funext t
  unfold updN
  by_cases q : t = s
  · rw [if_pos q, if_pos q]
  · rw [if_neg q, if_neg q, if_neg q]
theorem upd_self (f : FN) (s : Nat) : updN f s (f s) = f := by
  funext t
  unfold updN
  by_cases q : t = s
  · rw [if_pos q, q]
  · rw [if_neg q]
def tyH (C : FN → Nat) (had : Nat) (f : FN) (s c : Nat) : Option FN := if C (chF f s c) < had then some (chF f s c) else none
def rsF (R : Option FN) (f : FN) : FN := match R with
  | some g => g
  | none => f
def rsI (R : Option FN) : Int32 := match R with
  | some _ => 1
  | none => 0
def rsK {α : Type} (R : Option FN) (a b : α) : α := match R with
  | some _ => a
  | none => b
theorem tyH_ok {V : Vw} {C : FN → Nat} {had : Nat} {f : FN} {s c : Nat} (hf : vOK V f) (hs : s < V 0 8) (hc : c < 2 ^ V 0 0) : vOK V (rsF (tyH C had f s c) f) := by
  unfold tyH
  split
  · exact hf.upd hs (Nat.xor_lt_two_pow (hf.1 s) hc)
  · exact hf
theorem c_try {V : Vw} (hw : WF V) {f : FN} (hf : vOK V f) {s c had : Nat} (hs : s < V 0 8) (hc : c < 2 ^ V 0 0) (hh : had < 100000000) {σ : Sg} (hσ : CS V f σ) : ∃ τ, XX3_turnIfLess (nI s) (nI c) (nI had) σ = some (rsI (tyH (Cc V) had f s c), τ) ∧ CS V (rsF (tyH (Cc V) had f s c) f) τ := by
  have s6 := hw.s6
  obtain ⟨hc0, hr⟩ := hσ
  have hb : f s ^^^ c < 2 ^ V 0 0 := Nat.xor_lt_two_pow (hf.1 s) hc
  obtain ⟨σ1, a1, a2, a3⟩ := c_setVisits hw (prV_C V) (k := 46) (by omega) hs hb (hf.1 s) (hla hw) hc0.1 hr
  have hc1 : CI V σ1 := hc0.off a3 rfl (hc0.2.1.frm a3 rfl) (hc0.2.2.2.1.off a3 (fun k k1 k2 => by simp; omega))
  obtain ⟨σ2, b1', b2', b3', b4'⟩ := c_wholeCost hw (k := 46) (by omega) hc1.1 hc1.2.2.2.1 a2
  have hc2 : CI V σ2 := hc1.off b4' rfl (hc1.2.1.frm b4' rfl) b3'
  have b1'' : XX5_wholeCost 46 σ1 = some (nI (Cc V (chF f s c)), σ2) := b1'
  have cl := Cc_lt hw (chF f s c)
  have v47 : σ 47 s = nI (f s) := hr.1 s (by omega)
  by_cases q : Cc V (chF f s c) < had
  · have e : tyH (Cc V) had f s c = some (chF f s c) := if_pos q
    rw [e]
    refine ⟨σ2, ?_, hc2, b2'⟩
    unfold XX3_turnIfLess
    rw [if_pos ((ib_nI (by omega)).mpr (by omega)), nI_cl (by omega), lt_def, v47, nx_xor, a1, b1s, b1'', b2s, if_neg (by rw [nI_lei] <;> omega)]
    rfl
  · have e : tyH (Cc V) had f s c = none := if_neg q
    rw [e]
    have uu : updN f s (f s ^^^ c) s = f s ^^^ c := if_pos rfl
    obtain ⟨σ3, c1, c2, c3⟩ := c_setVisits hw (prV_C V) (k := 46) (by omega) hs (hf.1 s) (vis := updN f s (f s ^^^ c)) (by rw [uu]; exact hb) (hla hw) hc2.1 b2'
    rw [upd_upd, upd_self] at c2
    refine ⟨σ3, ?_, hc2.off c3 rfl (hc2.2.1.frm c3 rfl) (hc2.2.2.2.1.off c3 (fun k k1 k2 => by simp; omega)), c2⟩
    unfold XX3_turnIfLess
    rw [if_pos ((ib_nI (by omega)).mpr (by omega)), nI_cl (by omega), lt_def, v47, nx_xor, a1, b1s, b1'', b2s, if_pos (by rw [nI_lei] <;> omega), c1, b1s]
    rfl
theorem m_cost {V : Vw} (hw : WF V) {f : FN} (hf : vOK V f) {σ : Sg} (hσ : MS V f σ) : ∃ τ, XX10_costNow σ = some (nI (Cc V f), τ) ∧ MS V f τ := by
  have hw1 : WF (vsV V f) := hw.vis hf.1 hf.2
  obtain ⟨τ, h1, h2, h3, -⟩ := m_costNow hw1 (ask := aq V) (hla hw1) hσ.1 hσ.2
  rw [cosT_vs] at h1
  exact ⟨τ, h1, h2, h3⟩
theorem m_try {V : Vw} (hw : WF V) {f : FN} (hf : vOK V f) {s c had : Nat} (hs : s < V 0 8) (hc : c < 2 ^ V 0 0) (hh : had < 100000000) {σ : Sg} (hσ : MS V f σ) : ∃ τ, XX10_helps (nI s) (nI c) (nI had) σ = some (rsI (tyH (Cc V) had f s c), τ) ∧ MS V (rsF (tyH (Cc V) had f s c) f) τ := by
  have s6 := hw.s6
  have hb : f s ^^^ c < 2 ^ V 0 0 := Nat.xor_lt_two_pow (hf.1 s) hc
  have v78 : σ 78 s = nI (f s) := hσ.1.1.2.2.1 s (by omega)
  have f1 : fr [(78, none)] σ (up σ 78 s (nI (f s ^^^ c))) := fr_up
  obtain ⟨τ1, a1, a2⟩ := m_cost hw (hf.upd hs hb) (σ := up σ 78 s (nI (f s ^^^ c))) ⟨m_set1 hσ.1 (by omega), fun t e ht he => by rw [f1.cell (k := 79) rfl]; exact hσ.2 t e ht he⟩
  have cl := Cc_lt hw (chF f s c)
  have a1' : XX10_costNow (up σ 78 s (nI (f s ^^^ c))) = some (nI (Cc V (chF f s c)), τ1) := a1
  have w78 : τ1 78 s = nI (f s ^^^ c) := by
    have := a2.1.1.2.2.1 s (by omega)
    have e : vsV V (updN f s (f s ^^^ c)) 5 s = f s ^^^ c := if_pos rfl
    rw [e] at this
    exact this
  by_cases q : Cc V (chF f s c) < had
  · have e : tyH (Cc V) had f s c = some (chF f s c) := if_pos q
    rw [e]
    refine ⟨τ1, ?_, a2⟩
    unfold XX10_helps
    rw [if_pos ((ib_nI (by omega)).mpr (by omega)), nI_cl (by omega), v78, nx_xor, lt_def, a1', b2s, if_neg (by rw [nI_lei] <;> omega)]
    rfl
  · have e : tyH (Cc V) had f s c = none := if_neg q
    rw [e]
    have f2 : fr [(78, none)] τ1 (up τ1 78 s (nI (f s))) := fr_up
    refine ⟨up τ1 78 s (nI (f s)), ?_, ?_, fun t e ht he => by rw [f2.cell (k := 79) rfl]; exact a2.2 t e ht he⟩
    · unfold XX10_helps
      rw [if_pos ((ib_nI (by omega)).mpr (by omega)), nI_cl (by omega), v78, nx_xor, lt_def, a1', b2s, if_pos (by rw [nI_lei] <;> omega), w78, nx_xor, lt_def, show f s ^^^ c ^^^ c = f s by rw [Nat.xor_assoc, Nat.xor_self, Nat.xor_zero]]
      rfl
    · have := m_set1 a2.1 (s := s) (b := f s) (by omega)
      rw [upd_upd, upd_self] at this
      exact this
/-! tune -/
def tnD (C : FN → Nat) (had : Nat) (f : FN) (s : Nat) : Nat → Nat → Option FN
  | 0, _ => none
  | m + 1, d => rsK (tyH C had f s (2 ^ d)) (tyH C had f s (2 ^ d)) (tnD C had f s m (d + 1))
def tnS (C : FN → Nat) (had : Nat) (f : FN) (D : Nat) : Nat → Nat → Option FN
  | 0, _ => none
  | m + 1, s => rsK (tnD C had f s D 0) (tnD C had f s D 0) (tnS C had f D m (s + 1))
def tnF (C : FN → Nat) (D N : Nat) (f : FN) : Option FN := tnS C (C f) f D N 0
theorem ct_in {V : Vw} (hw : WF V) {f : FN} (hf : vOK V f) {s had : Nat} (hs : s < V 0 8) (hh : had < 100000000) (K : Sg → Option (Int32 × Sg)) : ∀ m d n σ, d + m = V 0 0 → m < n → CS V f σ → ∃ τ, LX3_turnOne_21 (nI had) (nI s) K n (nI d) σ = rsK (tnD (Cc V) had f s m d) (some (1, τ)) (K τ) ∧ CS V (rsF (tnD (Cc V) had f s m d) f) τ ∧ vOK V (rsF (tnD (Cc V) had f s m d) f) := by
  have d14 := hw.d14
  intro m
  induction m with
  | zero =>
    intro d n σ hd hn hσ
    obtain ⟨n, rfl⟩ : ∃ q, n = q + 1 := ⟨n - 1, by omega⟩
    refine ⟨σ, ?_, hσ, hf⟩
    rw [LX3_turnOne_21, hσ.1.1.1, if_pos (by rw [nI_lei] <;> omega)]
    rfl
  | succ m ih =>
    intro d n σ hd hn hσ
    obtain ⟨n, rfl⟩ : ∃ q, n = q + 1 := ⟨n - 1, by omega⟩
    have hd0 : d < V 0 0 := by omega
    have sh1 : (1 : Int32) <<< (nI d &&& 31) = nI (2 ^ d) := nx_1shl (by omega)
    obtain ⟨σ1, a1, a2⟩ := c_try hw hf hs (pow_day hw hd0) hh hσ
    have a3 := tyH_ok (C := Cc V) (had := had) hf hs (pow_day hw hd0)
    have e : tnD (Cc V) had f s (m + 1) d = rsK (tyH (Cc V) had f s (2 ^ d)) (tyH (Cc V) had f s (2 ^ d)) (tnD (Cc V) had f s m (d + 1)) := rfl
    rw [e, LX3_turnOne_21, hσ.1.1.1, if_neg (by rw [nI_lei] <;> omega), sh1, a1, b2s]
    cases hR : tyH (Cc V) had f s (2 ^ d) with
    | some g =>
      rw [hR] at a2 a3
      exact ⟨σ1, by rw [show rsI (some g) = 1 from rfl, if_neg (show ¬ (1 : Int32) = 0 by decide)]; rfl, a2, a3⟩
    | none =>
      rw [hR] at a2
      obtain ⟨τ, k1, k2, k3⟩ := ih (d + 1) n σ1 (by omega) (by omega) a2
      refine ⟨τ, ?_, k2, k3⟩
      rw [show rsI none = 0 from rfl, if_pos rfl, lt_def, nI_1]
      exact k1
theorem ct_out {V : Vw} (hw : WF V) {f : FN} (hf : vOK V f) {had : Nat} (hh : had < 100000000) : ∀ m s n σ, s + m = V 0 8 → m < n → CS V f σ → ∃ τ, LX3_turnOne_7 (nI had) n (nI s) σ = some (rsI (tnS (Cc V) had f (V 0 0) m s), τ) ∧ CS V (rsF (tnS (Cc V) had f (V 0 0) m s) f) τ ∧ vOK V (rsF (tnS (Cc V) had f (V 0 0) m s) f) := by
  have s6 := hw.s6
  have d14 := hw.d14
  intro m
  induction m with
  | zero =>
    intro s n σ hs hn hσ
    obtain ⟨n, rfl⟩ : ∃ q, n = q + 1 := ⟨n - 1, by omega⟩
    refine ⟨σ, ?_, hσ, hf⟩
    rw [LX3_turnOne_7, hσ.1.1.2.2.2.2.2.2.1, if_pos (by rw [nI_lei] <;> omega)]
    rfl
  | succ m ih =>
    intro s n σ hs hn hσ
    obtain ⟨n, rfl⟩ : ∃ q, n = q + 1 := ⟨n - 1, by omega⟩
    obtain ⟨σ1, a1, a2, a3⟩ := ct_in hw hf (s := s) (by omega) hh (fun (σ_5 : Sg) => lt (nI s + (1 : Int32)) (fun (x3_7 : Int32) => LX3_turnOne_7 (nI had) n x3_7 σ_5)) (V 0 0) 0 FUEL σ (by omega) (by unfold FUEL; omega) hσ
    have e : tnS (Cc V) had f (V 0 0) (m + 1) s = rsK (tnD (Cc V) had f s (V 0 0) 0) (tnD (Cc V) had f s (V 0 0) 0) (tnS (Cc V) had f (V 0 0) m (s + 1)) := rfl
    rw [e, LX3_turnOne_7, hσ.1.1.2.2.2.2.2.2.1, if_neg (by rw [nI_lei] <;> omega), lt_def]
    cases hR : tnD (Cc V) had f s (V 0 0) 0 with
    | some g =>
      rw [hR] at a1 a2 a3
      exact ⟨σ1, a1, a2, a3⟩
    | none =>
      rw [hR] at a1 a2
      obtain ⟨τ, k1, k2, k3⟩ := ih (s + 1) n σ1 (by omega) (by omega) a2
      refine ⟨τ, ?_, k2, k3⟩
      refine Eq.trans a1 ?_
      show lt _ _ = _
      rw [lt_def, nI_1]
      exact k1
theorem mt_in {V : Vw} (hw : WF V) {f : FN} (hf : vOK V f) {s had : Nat} (hs : s < V 0 8) (hh : had < 100000000) (K : Sg → Option (Int32 × Sg)) : ∀ m d n σ, d + m = V 0 0 → m < n → MS V f σ → ∃ τ, LX10_tunes_12 (nI had) (nI s) K n (nI d) σ = rsK (tnD (Cc V) had f s m d) (some (1, τ)) (K τ) ∧ MS V (rsF (tnD (Cc V) had f s m d) f) τ ∧ vOK V (rsF (tnD (Cc V) had f s m d) f) := by
  have d14 := hw.d14
  intro m
  induction m with
  | zero =>
    intro d n σ hd hn hσ
    obtain ⟨n, rfl⟩ : ∃ q, n = q + 1 := ⟨n - 1, by omega⟩
    have e0 : σ 65 0 = nI (V 0 0) := hσ.1.1.1 0 (by omega)
    refine ⟨σ, ?_, hσ, hf⟩
    rw [LX10_tunes_12]
    unfold XX10_days
    rw [b1s, e0, if_pos (by rw [nI_lei] <;> omega)]
    rfl
  | succ m ih =>
    intro d n σ hd hn hσ
    obtain ⟨n, rfl⟩ : ∃ q, n = q + 1 := ⟨n - 1, by omega⟩
    have e0 : σ 65 0 = nI (V 0 0) := hσ.1.1.1 0 (by omega)
    have hd0 : d < V 0 0 := by omega
    have sh1 : (1 : Int32) <<< (nI d &&& 31) = nI (2 ^ d) := nx_1shl (by omega)
    obtain ⟨σ1, a1, a2⟩ := m_try hw hf hs (pow_day hw hd0) hh hσ
    have a3 := tyH_ok (C := Cc V) (had := had) hf hs (pow_day hw hd0)
    have e : tnD (Cc V) had f s (m + 1) d = rsK (tyH (Cc V) had f s (2 ^ d)) (tyH (Cc V) had f s (2 ^ d)) (tnD (Cc V) had f s m (d + 1)) := rfl
    rw [e, LX10_tunes_12]
    unfold XX10_days
    rw [b1s, e0, if_neg (by rw [nI_lei] <;> omega), sh1, a1, b2s]
    cases hR : tyH (Cc V) had f s (2 ^ d) with
    | some g =>
      rw [hR] at a2 a3
      exact ⟨σ1, by rw [show rsI (some g) = 1 from rfl, if_neg (show ¬ (1 : Int32) = 0 by decide)]; rfl, a2, a3⟩
    | none =>
      rw [hR] at a2
      obtain ⟨τ, k1, k2, k3⟩ := ih (d + 1) n σ1 (by omega) (by omega) a2
      refine ⟨τ, ?_, k2, k3⟩
      rw [show rsI none = 0 from rfl, if_pos rfl, lt_def, nI_1]
      exact k1
theorem mt_out {V : Vw} (hw : WF V) {f : FN} (hf : vOK V f) {had : Nat} (hh : had < 100000000) : ∀ m s n σ, s + m = V 0 8 → m < n → MS V f σ → ∃ τ, LX10_tunes_2 (nI had) n (nI s) σ = some (rsI (tnS (Cc V) had f (V 0 0) m s), τ) ∧ MS V (rsF (tnS (Cc V) had f (V 0 0) m s) f) τ ∧ vOK V (rsF (tnS (Cc V) had f (V 0 0) m s) f) := by
  have s6 := hw.s6
  have d14 := hw.d14
  intro m
  induction m with
  | zero =>
    intro s n σ hs hn hσ
    obtain ⟨n, rfl⟩ : ∃ q, n = q + 1 := ⟨n - 1, by omega⟩
    have e8 : σ 65 8 = nI (V 0 8) := hσ.1.1.1 8 (by omega)
    refine ⟨σ, ?_, hσ, hf⟩
    rw [LX10_tunes_2]
    unfold XX10_shops
    rw [b1s, e8, if_pos (by rw [nI_lei] <;> omega)]
    rfl
  | succ m ih =>
    intro s n σ hs hn hσ
    obtain ⟨n, rfl⟩ : ∃ q, n = q + 1 := ⟨n - 1, by omega⟩
    have e8 : σ 65 8 = nI (V 0 8) := hσ.1.1.1 8 (by omega)
    obtain ⟨σ1, a1, a2, a3⟩ := mt_in hw hf (s := s) (by omega) hh (fun (σ_4 : Sg) => lt (nI s + (1 : Int32)) (fun (x2_6 : Int32) => LX10_tunes_2 (nI had) n x2_6 σ_4)) (V 0 0) 0 FUEL σ (by omega) (by unfold FUEL; omega) hσ
    have e : tnS (Cc V) had f (V 0 0) (m + 1) s = rsK (tnD (Cc V) had f s (V 0 0) 0) (tnD (Cc V) had f s (V 0 0) 0) (tnS (Cc V) had f (V 0 0) m (s + 1)) := rfl
    rw [e, LX10_tunes_2]
    unfold XX10_shops
    rw [b1s, e8, if_neg (by rw [nI_lei] <;> omega), lt_def]
    cases hR : tnD (Cc V) had f s (V 0 0) 0 with
    | some g =>
      rw [hR] at a1 a2 a3
      exact ⟨σ1, a1, a2, a3⟩
    | none =>
      rw [hR] at a1 a2
      obtain ⟨τ, k1, k2, k3⟩ := ih (s + 1) n σ1 (by omega) (by omega) a2
      refine ⟨τ, ?_, k2, k3⟩
      refine Eq.trans a1 ?_
      show lt _ _ = _
      rw [lt_def, nI_1]
      exact k1
