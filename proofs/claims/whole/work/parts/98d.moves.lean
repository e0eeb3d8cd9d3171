/-! ACTS: better: one step -/
def mvX (C : FN → Nat) (had : Nat) (f : FN) (s D d : Nat) (x : Int32) : Option FN := if (f s).testBit d = true ∧ ib x D ∧ (f s).testBit x.toNatClampNeg = false then tyH C had f s (2 ^ d ||| 2 ^ x.toNatClampNeg) else none
def mvT (C : FN → Nat) (had : Nat) (f : FN) (s D d : Nat) : Option FN := rsK (mvX C had f s D d (nI d - 1)) (mvX C had f s D d (nI d - 1)) (mvX C had f s D d (nI (d + 1)))
theorem mvX_ok {V : Vw} (hw : WF V) {C : FN → Nat} {had : Nat} {f : FN} {s d : Nat} {x : Int32} (hf : vOK V f) (hs : s < V 0 8) (hd : d < V 0 0) : vOK V (rsF (mvX C had f s (V 0 0) d x) f) := by
  have d14 := hw.d14
  unfold mvX
  split
  · rename_i q
    obtain ⟨t, ht, rfl⟩ := ib_of q.2.1 (by omega)
    rw [nI_cl (by omega)]
    exact tyH_ok hf hs (Nat.or_lt_two_pow (pow_day hw hd) (pow_day hw ht))
  · exact hf
theorem cm_one {V : Vw} (hw : WF V) {f : FN} (hf : vOK V f) {s d had n : Nat} (hs : s < V 0 8) (hd : d < V 0 0) (hh : had < 100000000) (K : Sg → Option (Int32 × Sg)) {x : Int32} (hx : ¬ nI d + 1 < x) {σ : Sg} (hσ : CS V f σ) : ∃ τ, LX3_moveOne_39 (nI had) (nI s) (nI d) K (n + 1) x σ = rsK (mvX (Cc V) had f s (V 0 0) d x) (some (1, τ)) (LX3_moveOne_39 (nI had) (nI s) (nI d) K n (x + 2) τ) ∧ CS V (rsF (mvX (Cc V) had f s (V 0 0) d x) f) τ := by
  have s6 := hw.s6
  have d14 := hw.d14
  have p14 := Nat.pow_le_pow_right (show 0 < 2 by omega) d14
  have fl := hf.1 s
  have hv : σ (46 + 1) s = nI (f s) := hσ.2.1 s (by omega)
  rw [LX3_moveOne_39, if_neg hx, c_isVisited hv (by omega) (by omega) (by omega), b1s]
  simp only [lt]
  cases hb : (f s).testBit d with
  | false =>
    have e : mvX (Cc V) had f s (V 0 0) d x = none := if_neg (fun q => by
      have := q.1
      rw [hb] at this
      cases this)
    rw [e, if_pos (show nI (bq false) = 0 by decide)]
    exact ⟨σ, rfl, hσ⟩
  | true =>
    rw [if_neg (show ¬ nI (bq true) = 0 by decide), c_hasDay hσ.1.1 d14, b1s]
    by_cases hi : ib x (V 0 0)
    · obtain ⟨t, ht, rfl⟩ := ib_of hi (by omega)
      rw [if_pos hi, if_neg (show ¬ (1 : Int32) = 0 by decide), c_isVisited hv (by omega) (by omega) (by omega), b1s]
      cases ht2 : (f s).testBit t with
      | true =>
        have e : mvX (Cc V) had f s (V 0 0) d (nI t) = none := if_neg (fun q => by
          have := q.2.2
          rw [nI_cl (by omega), ht2] at this
          cases this)
        rw [e, if_neg (show ¬ nI (bq true) = 0 by decide)]
        exact ⟨σ, rfl, hσ⟩
      | false =>
        have e : mvX (Cc V) had f s (V 0 0) d (nI t) = tyH (Cc V) had f s (2 ^ d ||| 2 ^ t) := by
          unfold mvX
          rw [if_pos ⟨hb, hi, by rw [nI_cl (by omega)]; exact ht2⟩, nI_cl (by omega)]
        have sh1 : (1 : Int32) <<< (nI d &&& 31) = nI (2 ^ d) := nx_1shl (by omega)
        have sh2 : (1 : Int32) <<< (nI t &&& 31) = nI (2 ^ t) := nx_1shl (by omega)
        obtain ⟨σ1, a1, a2⟩ := c_try hw hf hs (Nat.or_lt_two_pow (pow_day hw hd) (pow_day hw ht)) hh hσ
        rw [e, if_pos (show nI (bq false) = 0 by decide), sh1, sh2, nx_or, a1, b2s]
        cases hR : tyH (Cc V) had f s (2 ^ d ||| 2 ^ t) with
        | some g =>
          rw [hR] at a2
          exact ⟨σ1, by rw [show rsI (some g) = 1 from rfl, if_neg (show ¬ (1 : Int32) = 0 by decide)]; rfl, a2⟩
        | none =>
          rw [hR] at a2
          exact ⟨σ1, by rw [show rsI none = 0 from rfl, if_pos rfl]; rfl, a2⟩
    · have e : mvX (Cc V) had f s (V 0 0) d x = none := if_neg (fun q => hi q.2.1)
      rw [e, if_neg hi, if_pos rfl]
      exact ⟨σ, rfl, hσ⟩
theorem mm_one {V : Vw} (hw : WF V) {f : FN} (hf : vOK V f) {s d had n : Nat} (hs : s < V 0 8) (hd : d < V 0 0) (hh : had < 100000000) (K : Sg → Option (Int32 × Sg)) {x : Int32} (hx : ¬ nI d + 1 < x) {σ : Sg} (hσ : MS V f σ) : ∃ τ, LX10_moves_25 (nI had) (nI s) (nI d) K (n + 1) x σ = rsK (mvX (Cc V) had f s (V 0 0) d x) (some (1, τ)) (LX10_moves_25 (nI had) (nI s) (nI d) K n (x + 2) τ) ∧ MS V (rsF (mvX (Cc V) had f s (V 0 0) d x) f) τ := by
  have s6 := hw.s6
  have d14 := hw.d14
  have p14 := Nat.pow_le_pow_right (show 0 < 2 by omega) d14
  have fl := hf.1 s
  have e0 : σ 65 0 = nI (V 0 0) := hσ.1.1.1 0 (by omega)
  have hv : σ 78 s = nI (f s) := hσ.1.1.2.2.1 s (by omega)
  rw [LX10_moves_25, if_neg hx, if_pos ((ib_nI (by omega)).mpr (by omega)), nI_cl (by omega), hv, m_isOf (by omega) (by omega), b1s]
  simp only [lt]
  cases hb : (f s).testBit d with
  | false =>
    have e : mvX (Cc V) had f s (V 0 0) d x = none := if_neg (fun q => by
      have := q.1
      rw [hb] at this
      cases this)
    rw [e, if_pos (show nI (bq false) = 0 by decide)]
    exact ⟨σ, rfl, hσ⟩
  | true =>
    rw [if_neg (show ¬ nI (bq true) = 0 by decide), m_isDay e0 (by omega), b1s]
    by_cases hi : ib x (V 0 0)
    · obtain ⟨t, ht, rfl⟩ := ib_of hi (by omega)
      rw [if_pos hi, if_neg (show ¬ (1 : Int32) = 0 by decide), m_isOf (by omega) (by omega), b1s]
      cases ht2 : (f s).testBit t with
      | true =>
        have e : mvX (Cc V) had f s (V 0 0) d (nI t) = none := if_neg (fun q => by
          have := q.2.2
          rw [nI_cl (by omega), ht2] at this
          cases this)
        rw [e, if_neg (show ¬ nI (bq true) = 0 by decide)]
        exact ⟨σ, rfl, hσ⟩
      | false =>
        have e : mvX (Cc V) had f s (V 0 0) d (nI t) = tyH (Cc V) had f s (2 ^ d ||| 2 ^ t) := by
          unfold mvX
          rw [if_pos ⟨hb, hi, by rw [nI_cl (by omega)]; exact ht2⟩, nI_cl (by omega)]
        have sh1 : (1 : Int32) <<< (nI d &&& 31) = nI (2 ^ d) := nx_1shl (by omega)
        have sh2 : (1 : Int32) <<< (nI t &&& 31) = nI (2 ^ t) := nx_1shl (by omega)
        obtain ⟨σ1, a1, a2⟩ := m_try hw hf hs (Nat.or_lt_two_pow (pow_day hw hd) (pow_day hw ht)) hh hσ
        rw [e, if_pos (show nI (bq false) = 0 by decide), sh1, sh2, nx_or, a1, b2s]
        cases hR : tyH (Cc V) had f s (2 ^ d ||| 2 ^ t) with
        | some g =>
          rw [hR] at a2
          exact ⟨σ1, by rw [show rsI (some g) = 1 from rfl, if_neg (show ¬ (1 : Int32) = 0 by decide)]; rfl, a2⟩
        | none =>
          rw [hR] at a2
          exact ⟨σ1, by rw [show rsI none = 0 from rfl, if_pos rfl]; rfl, a2⟩
    · have e : mvX (Cc V) had f s (V 0 0) d x = none := if_neg (fun q => hi q.2.1)
      rw [e, if_neg hi, if_pos rfl]
      exact ⟨σ, rfl, hσ⟩
theorem to_facts {d : Nat} (hd : d < 14) : (¬ nI d + 1 < nI d - 1) ∧ nI d - 1 + 2 = nI (d + 1) ∧ (¬ nI d + 1 < nI (d + 1)) ∧ nI d + 1 < nI (d + 1) + 2 := by
  have : ∀ d, d < 14 → (¬ nI d + 1 < nI d - 1) ∧ nI d - 1 + 2 = nI (d + 1) ∧ (¬ nI d + 1 < nI (d + 1)) ∧ nI d + 1 < nI (d + 1) + 2 := by decide +kernel
  exact this d hd
theorem cm_three {V : Vw} (hw : WF V) {f : FN} (hf : vOK V f) {s d had : Nat} (hs : s < V 0 8) (hd : d < V 0 0) (hh : had < 100000000) (K : Sg → Option (Int32 × Sg)) {σ : Sg} (hσ : CS V f σ) : ∃ τ, LX3_moveOne_39 (nI had) (nI s) (nI d) K FUEL (nI d - 1) σ = rsK (mvT (Cc V) had f s (V 0 0) d) (some (1, τ)) (K τ) ∧ CS V (rsF (mvT (Cc V) had f s (V 0 0) d) f) τ ∧ vOK V (rsF (mvT (Cc V) had f s (V 0 0) d) f) := by
  have d14 := hw.d14
  obtain ⟨q1, q2, q3, q4⟩ := to_facts (d := d) (by omega)
  obtain ⟨σ1, a1, a2⟩ := cm_one hw hf (n := 999999) hs hd hh K q1 hσ
  have a3 := mvX_ok hw (C := Cc V) (had := had) (x := nI d - 1) hf hs hd
  rw [show FUEL = 999999 + 1 from rfl, a1]
  unfold mvT
  cases hR : mvX (Cc V) had f s (V 0 0) d (nI d - 1) with
  | some g =>
    rw [hR] at a2 a3
    exact ⟨σ1, rfl, a2, a3⟩
  | none =>
    rw [hR] at a2
    obtain ⟨σ2, c1, c2⟩ := cm_one hw hf (n := 999998) hs hd hh K q3 (σ := σ1) a2
    have c3 := mvX_ok hw (C := Cc V) (had := had) (x := nI (d + 1)) hf hs hd
    show ∃ τ, LX3_moveOne_39 (nI had) (nI s) (nI d) K 999999 (nI d - 1 + 2) σ1 = rsK (mvX (Cc V) had f s (V 0 0) d (nI (d + 1))) (some (1, τ)) (K τ) ∧ CS V (rsF (mvX (Cc V) had f s (V 0 0) d (nI (d + 1))) f) τ ∧ vOK V (rsF (mvX (Cc V) had f s (V 0 0) d (nI (d + 1))) f)
    rw [q2, show 999999 = 999998 + 1 from rfl, c1]
    cases hR2 : mvX (Cc V) had f s (V 0 0) d (nI (d + 1)) with
    | some g =>
      rw [hR2] at c2 c3
      exact ⟨σ2, rfl, c2, c3⟩
    | none =>
      rw [hR2] at c2
      refine ⟨σ2, ?_, c2, hf⟩
      show LX3_moveOne_39 (nI had) (nI s) (nI d) K 999998 (nI (d + 1) + 2) σ2 = K σ2
      rw [show 999998 = 999997 + 1 from rfl, LX3_moveOne_39, if_pos q4]
theorem mm_three {V : Vw} (hw : WF V) {f : FN} (hf : vOK V f) {s d had : Nat} (hs : s < V 0 8) (hd : d < V 0 0) (hh : had < 100000000) (K : Sg → Option (Int32 × Sg)) {σ : Sg} (hσ : MS V f σ) : ∃ τ, LX10_moves_25 (nI had) (nI s) (nI d) K FUEL (nI d - 1) σ = rsK (mvT (Cc V) had f s (V 0 0) d) (some (1, τ)) (K τ) ∧ MS V (rsF (mvT (Cc V) had f s (V 0 0) d) f) τ ∧ vOK V (rsF (mvT (Cc V) had f s (V 0 0) d) f) := by
  have d14 := hw.d14
  obtain ⟨q1, q2, q3, q4⟩ := to_facts (d := d) (by omega)
  obtain ⟨σ1, a1, a2⟩ := mm_one hw hf (n := 999999) hs hd hh K q1 hσ
  have a3 := mvX_ok hw (C := Cc V) (had := had) (x := nI d - 1) hf hs hd
  rw [show FUEL = 999999 + 1 from rfl, a1]
  unfold mvT
  cases hR : mvX (Cc V) had f s (V 0 0) d (nI d - 1) with
  | some g =>
    rw [hR] at a2 a3
    exact ⟨σ1, rfl, a2, a3⟩
  | none =>
    rw [hR] at a2
    obtain ⟨σ2, c1, c2⟩ := mm_one hw hf (n := 999998) hs hd hh K q3 (σ := σ1) a2
    have c3 := mvX_ok hw (C := Cc V) (had := had) (x := nI (d + 1)) hf hs hd
    show ∃ τ, LX10_moves_25 (nI had) (nI s) (nI d) K 999999 (nI d - 1 + 2) σ1 = rsK (mvX (Cc V) had f s (V 0 0) d (nI (d + 1))) (some (1, τ)) (K τ) ∧ MS V (rsF (mvX (Cc V) had f s (V 0 0) d (nI (d + 1))) f) τ ∧ vOK V (rsF (mvX (Cc V) had f s (V 0 0) d (nI (d + 1))) f)
    rw [q2, show 999999 = 999998 + 1 from rfl, c1]
    cases hR2 : mvX (Cc V) had f s (V 0 0) d (nI (d + 1)) with
    | some g =>
      rw [hR2] at c2 c3
      exact ⟨σ2, rfl, c2, c3⟩
    | none =>
      rw [hR2] at c2
      refine ⟨σ2, ?_, c2, hf⟩
      show LX10_moves_25 (nI had) (nI s) (nI d) K 999998 (nI (d + 1) + 2) σ2 = K σ2
      rw [show 999998 = 999997 + 1 from rfl, LX10_moves_25, if_pos q4]
def mvD (C : FN → Nat) (had : Nat) (f : FN) (s D : Nat) : Nat → Nat → Option FN
  | 0, _ => none
  | m + 1, d => rsK (mvT C had f s D d) (mvT C had f s D d) (mvD C had f s D m (d + 1))
def mvS (C : FN → Nat) (had : Nat) (f : FN) (D : Nat) : Nat → Nat → Option FN
  | 0, _ => none
  | m + 1, s => rsK (mvD C had f s D D 0) (mvD C had f s D D 0) (mvS C had f D m (s + 1))
def mvF (C : FN → Nat) (D N : Nat) (f : FN) : Option FN := mvS C (C f) f D N 0
theorem cv_in {V : Vw} (hw : WF V) {f : FN} (hf : vOK V f) {s had : Nat} (hs : s < V 0 8) (hh : had < 100000000) (K : Sg → Option (Int32 × Sg)) : ∀ m d n σ, d + m = V 0 0 → m < n → CS V f σ → ∃ τ, LX3_moveOne_21 (nI had) (nI s) K n (nI d) σ = rsK (mvD (Cc V) had f s (V 0 0) m d) (some (1, τ)) (K τ) ∧ CS V (rsF (mvD (Cc V) had f s (V 0 0) m d) f) τ ∧ vOK V (rsF (mvD (Cc V) had f s (V 0 0) m d) f) := by
  have d14 := hw.d14
  intro m
  induction m with
  | zero =>
    intro d n σ hd hn hσ
    obtain ⟨n, rfl⟩ : ∃ q, n = q + 1 := ⟨n - 1, by omega⟩
    refine ⟨σ, ?_, hσ, hf⟩
    rw [LX3_moveOne_21, hσ.1.1.1, if_pos (by rw [nI_lei] <;> omega)]
    rfl
  | succ m ih =>
    intro d n σ hd hn hσ
    obtain ⟨n, rfl⟩ : ∃ q, n = q + 1 := ⟨n - 1, by omega⟩
    have hd0 : d < V 0 0 := by omega
    obtain ⟨σ1, a1, a2, a3⟩ := cm_three hw hf hs hd0 hh (fun (σ_11 : Sg) => lt (nI d + (1 : Int32)) (fun (x4_13 : Int32) => LX3_moveOne_21 (nI had) (nI s) K n x4_13 σ_11)) hσ
    have e : mvD (Cc V) had f s (V 0 0) (m + 1) d = rsK (mvT (Cc V) had f s (V 0 0) d) (mvT (Cc V) had f s (V 0 0) d) (mvD (Cc V) had f s (V 0 0) m (d + 1)) := rfl
    rw [e, LX3_moveOne_21, hσ.1.1.1, if_neg (by rw [nI_lei] <;> omega), lt_def, lt_def]
    cases hR : mvT (Cc V) had f s (V 0 0) d with
    | some g =>
      rw [hR] at a1 a2 a3
      exact ⟨σ1, a1, a2, a3⟩
    | none =>
      rw [hR] at a1 a2
      obtain ⟨τ, k1, k2, k3⟩ := ih (d + 1) n σ1 (by omega) (by omega) a2
      refine ⟨τ, ?_, k2, k3⟩
      refine Eq.trans a1 ?_
      show lt _ _ = _
      rw [lt_def, nI_1]
      exact k1
theorem cv_out {V : Vw} (hw : WF V) {f : FN} (hf : vOK V f) {had : Nat} (hh : had < 100000000) : ∀ m s n σ, s + m = V 0 8 → m < n → CS V f σ → ∃ τ, LX3_moveOne_7 (nI had) n (nI s) σ = some (rsI (mvS (Cc V) had f (V 0 0) m s), τ) ∧ CS V (rsF (mvS (Cc V) had f (V 0 0) m s) f) τ ∧ vOK V (rsF (mvS (Cc V) had f (V 0 0) m s) f) := by
  have s6 := hw.s6
  have d14 := hw.d14
  intro m
  induction m with
  | zero =>
    intro s n σ hs hn hσ
    obtain ⟨n, rfl⟩ : ∃ q, n = q + 1 := ⟨n - 1, by omega⟩
    refine ⟨σ, ?_, hσ, hf⟩
    rw [LX3_moveOne_7, hσ.1.1.2.2.2.2.2.2.1, if_pos (by rw [nI_lei] <;> omega)]
    rfl
  | succ m ih =>
    intro s n σ hs hn hσ
    obtain ⟨n, rfl⟩ : ∃ q, n = q + 1 := ⟨n - 1, by omega⟩
    obtain ⟨σ1, a1, a2, a3⟩ := cv_in hw hf (s := s) (by omega) hh (fun (σ_5 : Sg) => lt (nI s + (1 : Int32)) (fun (x3_7 : Int32) => LX3_moveOne_7 (nI had) n x3_7 σ_5)) (V 0 0) 0 FUEL σ (by omega) (by unfold FUEL; omega) hσ
    have e : mvS (Cc V) had f (V 0 0) (m + 1) s = rsK (mvD (Cc V) had f s (V 0 0) (V 0 0) 0) (mvD (Cc V) had f s (V 0 0) (V 0 0) 0) (mvS (Cc V) had f (V 0 0) m (s + 1)) := rfl
    rw [e, LX3_moveOne_7, hσ.1.1.2.2.2.2.2.2.1, if_neg (by rw [nI_lei] <;> omega), lt_def]
    cases hR : mvD (Cc V) had f s (V 0 0) (V 0 0) 0 with
    | some g =>
      rw [hR] at a1 a2 a3
      exact ⟨σ1, a1, a2, a3⟩
    | none =>
      rw [hR] at a1 a2
      obtain ⟨τ, k1, k2, k3⟩ := ih (s + 1) n σ1 (by omega) (by omega) a2
      refine ⟨τ, ?_, k2, k3⟩
      refine Eq.trans a1 ?_
      show lt _ _ = _
      rw [lt_def, nI_1]
      exact k1
theorem mv_in {V : Vw} (hw : WF V) {f : FN} (hf : vOK V f) {s had : Nat} (hs : s < V 0 8) (hh : had < 100000000) (K : Sg → Option (Int32 × Sg)) : ∀ m d n σ, d + m = V 0 0 → m < n → MS V f σ → ∃ τ, LX10_moves_12 (nI had) (nI s) K n (nI d) σ = rsK (mvD (Cc V) had f s (V 0 0) m d) (some (1, τ)) (K τ) ∧ MS V (rsF (mvD (Cc V) had f s (V 0 0) m d) f) τ ∧ vOK V (rsF (mvD (Cc V) had f s (V 0 0) m d) f) := by
  have d14 := hw.d14
  intro m
  induction m with
  | zero =>
    intro d n σ hd hn hσ
    obtain ⟨n, rfl⟩ : ∃ q, n = q + 1 := ⟨n - 1, by omega⟩
    have e0 : σ 65 0 = nI (V 0 0) := hσ.1.1.1 0 (by omega)
    refine ⟨σ, ?_, hσ, hf⟩
    rw [LX10_moves_12]
    unfold XX10_days
    rw [b1s, e0, if_pos (by rw [nI_lei] <;> omega)]
    rfl
  | succ m ih =>
    intro d n σ hd hn hσ
    obtain ⟨n, rfl⟩ : ∃ q, n = q + 1 := ⟨n - 1, by omega⟩
    have e0 : σ 65 0 = nI (V 0 0) := hσ.1.1.1 0 (by omega)
    have hd0 : d < V 0 0 := by omega
    obtain ⟨σ1, a1, a2, a3⟩ := mm_three hw hf hs hd0 hh (fun (σ_11 : Sg) => lt (nI d + (1 : Int32)) (fun (x3_13 : Int32) => LX10_moves_12 (nI had) (nI s) K n x3_13 σ_11)) hσ
    have e : mvD (Cc V) had f s (V 0 0) (m + 1) d = rsK (mvT (Cc V) had f s (V 0 0) d) (mvT (Cc V) had f s (V 0 0) d) (mvD (Cc V) had f s (V 0 0) m (d + 1)) := rfl
    rw [e, LX10_moves_12]
    unfold XX10_days
    rw [b1s, e0, if_neg (by rw [nI_lei] <;> omega), lt_def, lt_def]
    cases hR : mvT (Cc V) had f s (V 0 0) d with
    | some g =>
      rw [hR] at a1 a2 a3
      exact ⟨σ1, a1, a2, a3⟩
    | none =>
      rw [hR] at a1 a2
      obtain ⟨τ, k1, k2, k3⟩ := ih (d + 1) n σ1 (by omega) (by omega) a2
      refine ⟨τ, ?_, k2, k3⟩
      refine Eq.trans a1 ?_
      show lt _ _ = _
      rw [lt_def, nI_1]
      exact k1
theorem mv_out {V : Vw} (hw : WF V) {f : FN} (hf : vOK V f) {had : Nat} (hh : had < 100000000) : ∀ m s n σ, s + m = V 0 8 → m < n → MS V f σ → ∃ τ, LX10_moves_2 (nI had) n (nI s) σ = some (rsI (mvS (Cc V) had f (V 0 0) m s), τ) ∧ MS V (rsF (mvS (Cc V) had f (V 0 0) m s) f) τ ∧ vOK V (rsF (mvS (Cc V) had f (V 0 0) m s) f) := by
  have s6 := hw.s6
  have d14 := hw.d14
  intro m
  induction m with
  | zero =>
    intro s n σ hs hn hσ
    obtain ⟨n, rfl⟩ : ∃ q, n = q + 1 := ⟨n - 1, by omega⟩
    have e8 : σ 65 8 = nI (V 0 8) := hσ.1.1.1 8 (by omega)
    refine ⟨σ, ?_, hσ, hf⟩
    rw [LX10_moves_2]
    unfold XX10_shops
    rw [b1s, e8, if_pos (by rw [nI_lei] <;> omega)]
    rfl
  | succ m ih =>
    intro s n σ hs hn hσ
    obtain ⟨n, rfl⟩ : ∃ q, n = q + 1 := ⟨n - 1, by omega⟩
    have e8 : σ 65 8 = nI (V 0 8) := hσ.1.1.1 8 (by omega)
    obtain ⟨σ1, a1, a2, a3⟩ := mv_in hw hf (s := s) (by omega) hh (fun (σ_4 : Sg) => lt (nI s + (1 : Int32)) (fun (x2_6 : Int32) => LX10_moves_2 (nI had) n x2_6 σ_4)) (V 0 0) 0 FUEL σ (by omega) (by unfold FUEL; omega) hσ
    have e : mvS (Cc V) had f (V 0 0) (m + 1) s = rsK (mvD (Cc V) had f s (V 0 0) (V 0 0) 0) (mvD (Cc V) had f s (V 0 0) (V 0 0) 0) (mvS (Cc V) had f (V 0 0) m (s + 1)) := rfl
    rw [e, LX10_moves_2]
    unfold XX10_shops
    rw [b1s, e8, if_neg (by rw [nI_lei] <;> omega), lt_def]
    cases hR : mvD (Cc V) had f s (V 0 0) (V 0 0) 0 with
    | some g =>
      rw [hR] at a1 a2 a3
      exact ⟨σ1, a1, a2, a3⟩
    | none =>
      rw [hR] at a1 a2
      obtain ⟨τ, k1, k2, k3⟩ := ih (s + 1) n σ1 (by omega) (by omega) a2
      refine ⟨τ, ?_, k2, k3⟩
      refine Eq.trans a1 ?_
      show lt _ _ = _
      rw [lt_def, nI_1]
      exact k1
