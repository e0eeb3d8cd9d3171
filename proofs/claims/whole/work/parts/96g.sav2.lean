/-! CALLS: savings, the rest -/
theorem bs_two {V : Vw} {ld J : Nat → Nat} {o t : Nat} (e : (bsJ V ld J).2 = some (o, t)) : 2 ≤ rkJ J (V 0 8) ∧ rkJ (mrJ J o t) (V 0 8) + 1 = rkJ J (V 0 8) := by
  have P := (bsJ_P (V := V) (ld := ld) (J := J)).2 o t e
  have r1 := rk_lt (J := J) (a := t) (b := V 0 8) P.2.2.1 P.2.2.2.2
  have r2 := rk_lt (J := J) (a := o) (b := t) P.2.1 P.2.2.2.1
  rw [rk_mr P.2.1 P.2.2.2.1 P.2.2.2.2, if_neg (show ¬ V 0 8 ≤ t by omega)]
  omega
theorem cj_all {V : Vw} (hw : WF V) {ld : Nat → Nat} (hld : ∀ s, s < V 0 8 → ld s ≤ 99) : ∀ k J step n σ, rkJ J (V 0 8) ≤ k + 1 → step + k + 1 ≤ 6 → k + 1 < n → TC V σ → PC V σ → JW V J → JC V ld J σ → ∃ τ, LX6_mergeAll_66 n (nI step) σ = some τ ∧ JC V ld (itJ V ld k J) τ ∧ JW V (itJ V ld k J) ∧ fr [(35, some 0), (36, none), (37, none)] σ τ := by
  intro k
  induction k with
  | zero =>
    intro J step n σ h1 h2 h3 ht hp hJ hj
    obtain ⟨n, rfl⟩ : ∃ q, n = q + 1 := ⟨n - 1, by omega⟩
    have e : (bsJ V ld J).2 = none := by
      cases hb : (bsJ V ld J).2 with
      | none => rfl
      | some q =>
        have := (bs_two (o := q.1) (t := q.2) hb).1
        omega
    refine ⟨σ, ?_, hj, hJ, fr.rf⟩
    rw [LX6_mergeAll_66, show (6 : Int32) = nI 6 from rfl, if_neg (by rw [nI_lei] <;> omega), (c_mergeBest hw ht hp hld hJ hj).1 e, b2s, if_pos rfl]
  | succ k ih =>
    intro J step n σ h1 h2 h3 ht hp hJ hj
    obtain ⟨n, rfl⟩ : ∃ q, n = q + 1 := ⟨n - 1, by omega⟩
    have cm := c_mergeBest hw ht hp hld hJ hj
    cases hb : (bsJ V ld J).2 with
    | none =>
      have ei : itJ V ld (k + 1) J = J := by
        show (match (bsJ V ld J).2 with | none => J | some q => itJ V ld k (mrJ J q.1 q.2)) = J
        rw [hb]
      rw [ei]
      refine ⟨σ, ?_, hj, hJ, fr.rf⟩
      rw [LX6_mergeAll_66, show (6 : Int32) = nI 6 from rfl, if_neg (by rw [nI_lei] <;> omega), cm.1 hb, b2s, if_pos rfl]
    | some q =>
      have ei : itJ V ld (k + 1) J = itJ V ld k (mrJ J q.1 q.2) := by
        show (match (bsJ V ld J).2 with | none => J | some q => itJ V ld k (mrJ J q.1 q.2)) = _
        rw [hb]
      have bt := bs_two (o := q.1) (t := q.2) hb
      have P := (bsJ_P (V := V) (ld := ld) (J := J)).2 q.1 q.2 hb
      obtain ⟨σ1, c1, c2, c3⟩ := cm.2 q.1 q.2 hb
      obtain ⟨τ, k1, k2, k3, k4⟩ := ih (mrJ J q.1 q.2) (step + 1) n σ1 (by omega) (by omega) (by omega) (ht.off (fun k k1 k2 => c3.cell (by simp; omega))) (hp.off c3 (fun k k1 k2 => by simp; omega)) (hJ.mr P.2.1 P.2.2.1) c2
      rw [ei]
      refine ⟨τ, ?_, k2, k3, c3.tr k4⟩
      rw [LX6_mergeAll_66, show (6 : Int32) = nI 6 from rfl, if_neg (by rw [nI_lei] <;> omega), c1, b2s, if_neg (show ¬ (1 : Int32) = 0 by decide), lt_def, nI_1]
      exact k1
theorem mj_all {V : Vw} (hw : WF V) {ld : Nat → Nat} (hld : ∀ s, s < V 0 8 → ld s ≤ 99) (K : Sg → Option (Int32 × Sg)) : ∀ k J n σ, rkJ J (V 0 8) ≤ k + 1 → k + 2 < n → RA V σ → LDM V ld σ → JW V J → JM J σ → ∃ τ, LX10_savings_77 K n 1 σ = K τ ∧ RA V τ ∧ JM (itJ V ld k J) τ ∧ JW V (itJ V ld k J) := by
  intro k
  induction k with
  | zero =>
    intro J n σ h1 h3 hr hl hJ hj
    obtain ⟨n, rfl⟩ : ∃ q, n = q + 1 := ⟨n - 1, by omega⟩
    obtain ⟨n, rfl⟩ : ∃ q, n = q + 1 := ⟨n - 1, by omega⟩
    have e : (bsJ V ld J).2 = none := by
      cases hb : (bsJ V ld J).2 with
      | none => rfl
      | some q =>
        have := (bs_two (o := q.1) (t := q.2) hb).1
        omega
    have n3 : XX10_number (3 : Int32) σ = some (nI (V 0 3)) := num_at hr.1 (i := 3) (by omega)
    refine ⟨σ, ?_, hr, hj, hJ⟩
    rw [LX10_savings_77, if_neg (show ¬ (1 : Int32) = 0 by decide), n3, b1s, (m_joins hw hr hl hld hJ hj).1 e, b2s, LX10_savings_77, if_pos rfl]
  | succ k ih =>
    intro J n σ h1 h3 hr hl hJ hj
    obtain ⟨n, rfl⟩ : ∃ q, n = q + 1 := ⟨n - 1, by omega⟩
    have cm := m_joins hw hr hl hld hJ hj
    have n3 : XX10_number (3 : Int32) σ = some (nI (V 0 3)) := num_at hr.1 (i := 3) (by omega)
    cases hb : (bsJ V ld J).2 with
    | none =>
      obtain ⟨n, rfl⟩ : ∃ q, n = q + 1 := ⟨n - 1, by omega⟩
      have ei : itJ V ld (k + 1) J = J := by
        show (match (bsJ V ld J).2 with | none => J | some q => itJ V ld k (mrJ J q.1 q.2)) = J
        rw [hb]
      rw [ei]
      refine ⟨σ, ?_, hr, hj, hJ⟩
      rw [LX10_savings_77, if_neg (show ¬ (1 : Int32) = 0 by decide), n3, b1s, cm.1 hb, b2s, LX10_savings_77, if_pos rfl]
    | some q =>
      have ei : itJ V ld (k + 1) J = itJ V ld k (mrJ J q.1 q.2) := by
        show (match (bsJ V ld J).2 with | none => J | some q => itJ V ld k (mrJ J q.1 q.2)) = _
        rw [hb]
      have bt := bs_two (o := q.1) (t := q.2) hb
      have P := (bsJ_P (V := V) (ld := ld) (J := J)).2 q.1 q.2 hb
      obtain ⟨σ1, c1, c2, c3⟩ := cm.2 q.1 q.2 hb
      obtain ⟨τ, k1, k2, k3, k4⟩ := ih (mrJ J q.1 q.2) n σ1 (by omega) (by omega) (hr.off c3 rfl) (fun s hs => by rw [c3.cell (k := 86) rfl]; exact hl s hs) (hJ.mr P.2.1 P.2.2.1) c2
      rw [ei]
      refine ⟨τ, ?_, k2, k3, k4⟩
      rw [LX10_savings_77, if_neg (show ¬ (1 : Int32) = 0 by decide), n3, b1s, c1, b2s]
      exact k1
/-- each shop with a load has a round of its own -/
def J0 (ld : Nat → Nat) (N : Nat) : Nat → Nat := fun s => if s < N ∧ 0 < ld s then 2 ^ s else 0
theorem pow_and {a b : Nat} (h : a ≠ b) : 2 ^ a &&& 2 ^ b = 0 := by
  apply Nat.eq_of_testBit_eq
  intro i
  rw [Nat.testBit_and, Nat.testBit_two_pow, Nat.testBit_two_pow, Nat.zero_testBit]
  by_cases q : a = i
  · have : ¬ b = i := fun z => h (by rw [q, z])
    simp [this]
  · simp [q]
theorem J0_W {V : Vw} {ld : Nat → Nat} : JW V (J0 ld (V 0 8)) := by
  refine ⟨fun a => ?_, fun a ha => if_neg (fun q => absurd q.1 (by omega)), fun a b hab => ?_⟩
  · unfold J0
    split
    · rename_i q
      exact Nat.pow_lt_pow_right (by omega) q.1
    · exact Nat.two_pow_pos _
  · unfold J0
    split
    · split
      · exact pow_and hab
      · exact Nat.and_zero _
    · exact Nat.zero_and _
theorem cj_start {V : Vw} (hw : WF V) {ld : Nat → Nat} (hld : ∀ s, s < V 0 8 → ld s ≤ 99) (K : Sg → Option Sg) : ∀ m s n σ, s + m = V 0 8 → m < n → σ 2 6 = nI (V 0 8) → (∀ s, s < V 0 8 → σ 63 s = nI (ld s)) → σ 35 0 = nI (rkJ (J0 ld (V 0 8)) s) → (∀ a, a < s → J0 ld (V 0 8) a ≠ 0 → σ 36 (rkJ (J0 ld (V 0 8)) a) = nI (J0 ld (V 0 8) a) ∧ σ 37 (rkJ (J0 ld (V 0 8)) a) = nI (ldS ld (J0 ld (V 0 8) a) (V 0 8))) → ∃ τ, LX6_mergeAll_7 K n (nI s) σ = K τ ∧ JC V ld (J0 ld (V 0 8)) τ ∧ fr [(35, some 0), (36, none), (37, none)] σ τ := by
  have s6 := hw.s6
  intro m
  induction m with
  | zero =>
    intro s n σ hs hn h2 h63 h35 hj
    obtain ⟨n, rfl⟩ : ∃ q, n = q + 1 := ⟨n - 1, by omega⟩
    have hs : s = V 0 8 := by omega
    subst hs
    refine ⟨σ, ?_, ⟨h35, hj⟩, fr.rf⟩
    rw [LX6_mergeAll_7, h2, if_pos (by rw [nI_lei] <;> omega)]
  | succ m ih =>
    intro s n σ hs hn h2 h63 h35 hj
    obtain ⟨n, rfl⟩ : ∃ q, n = q + 1 := ⟨n - 1, by omega⟩
    have hs8 : s < V 0 8 := by omega
    have l99 := hld s hs8
    have rl := rk_le (J0 ld (V 0 8)) s
    by_cases q : ld s = 0
    · have e0 : J0 ld (V 0 8) s = 0 := if_neg (fun z => absurd z.2 (by omega))
      have er : rkJ (J0 ld (V 0 8)) (s + 1) = rkJ (J0 ld (V 0 8)) s := by rw [rk_s, if_pos e0, Nat.add_zero]
      obtain ⟨τ, k1, k2, k3⟩ := ih (s + 1) n σ (by omega) (by omega) h2 h63 (by rw [er]; exact h35) (fun a ha hz => by
        by_cases z : a = s
        · rw [z] at hz
          exact absurd e0 hz
        · exact hj a (by omega) hz)
      refine ⟨τ, ?_, k2, k3⟩
      rw [LX6_mergeAll_7, h2, if_neg (by rw [nI_lei] <;> omega), if_pos ((ib_nI (by omega)).mpr (by omega)), lt_def, nI_cl (by omega), h63 s hs8, q, if_pos (show nI 0 ≤ 0 by decide)]
      simp only [lt]
      rw [nI_1]
      exact k1
    · have e0 : J0 ld (V 0 8) s = 2 ^ s := if_pos ⟨hs8, by omega⟩
      have ez : J0 ld (V 0 8) s ≠ 0 := by
        rw [e0]
        have := Nat.two_pow_pos s
        omega
      have er : rkJ (J0 ld (V 0 8)) (s + 1) = rkJ (J0 ld (V 0 8)) s + 1 := by rw [rk_s, if_neg ez]
      have sh1 : (1 : Int32) <<< (nI s &&& 31) = nI (2 ^ s) := nx_1shl (by omega)
      obtain ⟨R, hR⟩ : ∃ R, R = rkJ (J0 ld (V 0 8)) s := ⟨_, rfl⟩
      obtain ⟨σ1, hσ1⟩ : ∃ σ1, σ1 = up (up (up σ 36 R (nI (2 ^ s))) 37 R (nI (ld s))) 35 0 (nI (R + 1)) := ⟨_, rfl⟩
      have f1 : fr [(35, some 0), (36, none), (37, none)] σ σ1 := by
        rw [hσ1]
        exact fr.tr (fr.tr (fr_up.mono (by simp)) (fr_up.mono (by simp))) (fr_upf.mono (by simp))
      have e36 : ∀ j, σ1 36 j = if j = R then nI (2 ^ s) else σ 36 j := fun j => by
        rw [hσ1, up_cell (by omega), up_cell (by omega), up_at]
        by_cases z : j = R <;> simp [z]
      have e37 : ∀ j, σ1 37 j = if j = R then nI (ld s) else σ 37 j := fun j => by
        rw [hσ1, up_cell (by omega), up_at]
        by_cases z : j = R
        · simp [z]
        · rw [if_neg (fun y => z y.2), if_neg z, up_cell (by omega)]
      have u35 : σ1 35 0 = nI (R + 1) := by rw [hσ1, up_same]
      obtain ⟨τ, k1, k2, k3⟩ := ih (s + 1) n σ1 (by omega) (by omega) (by rw [f1.cell (k := 2) rfl]; exact h2) (fun t ht => by rw [f1.cell (k := 63) rfl]; exact h63 t ht) (by rw [u35, er, hR]) (fun a ha hz => by
        by_cases z : a = s
        · subst z
          rw [e36, e37, ← hR, if_pos rfl, if_pos rfl, e0, ldS_one, if_pos hs8]
          exact ⟨rfl, rfl⟩
        · have := rk_lt (J := J0 ld (V 0 8)) (a := a) (b := s) (by omega) hz
          rw [e36, e37, if_neg (by omega), if_neg (by omega)]
          exact hj a (by omega) hz)
      refine ⟨τ, ?_, k2, f1.tr k3⟩
      rw [← hR] at h35
      rw [LX6_mergeAll_7, h2, if_neg (by rw [nI_lei] <;> omega), if_pos ((ib_nI (by omega)).mpr (by omega)), lt_def, nI_cl (by omega), h63 s hs8, if_neg (nI_nle (by omega) (by omega)), h35, if_pos ((ib_nI (by omega)).mpr (by omega)), nI_cl (by omega), sh1, lt_def, up_cell (show 35 ≠ 36 by omega), h35, if_pos ((ib_nI (by omega)).mpr (by omega)), nI_cl (by omega), up_cell (show 63 ≠ 36 by omega), h63 s hs8, lt_def, up_cell (show 35 ≠ 37 by omega), up_cell (show 35 ≠ 36 by omega), h35, nI_1, lt_def, ← hσ1]
      simp only [lt]
      rw [nI_1]
      exact k1
theorem mj_start {V : Vw} (hw : WF V) {ld : Nat → Nat} (K : Sg → Option (Int32 × Sg)) : ∀ m s n σ, s + m = 6 → m < n → (∀ a, a < s → σ 87 a = nI (J0 ld (V 0 8) a)) → ∃ τ, LX10_savings_37 (nI (allS ld (V 0 8))) K n (nI s) σ = K τ ∧ JM (J0 ld (V 0 8)) τ ∧ fr [(87, none)] σ τ := by
  have s6 := hw.s6
  have p6 := p64 s6
  have al := allS_lt ld (V 0 8)
  intro m
  induction m with
  | zero =>
    intro s n σ hs hn hj
    obtain ⟨n, rfl⟩ : ∃ q, n = q + 1 := ⟨n - 1, by omega⟩
    refine ⟨σ, ?_, fun a ha => hj a (by omega), fr.rf⟩
    rw [LX10_savings_37, show (6 : Int32) = nI 6 from rfl, if_pos (by rw [nI_lei] <;> omega)]
  | succ m ih =>
    intro s n σ hs hn hj
    obtain ⟨n, rfl⟩ : ∃ q, n = q + 1 := ⟨n - 1, by omega⟩
    have sh1 : (1 : Int32) <<< (nI s &&& 31) = nI (2 ^ s) := nx_1shl (by omega)
    have f1 : fr [(87, none)] σ (up σ 87 s (nI (J0 ld (V 0 8) s))) := fr_up
    obtain ⟨τ, k1, k2, k3⟩ := ih (s + 1) n (up σ 87 s (nI (J0 ld (V 0 8) s))) (by omega) (by omega) (fun a ha => by
      by_cases z : a = s
      · rw [z, up_same]
      · rw [up_slot z]
        exact hj a (by omega))
    refine ⟨τ, ?_, k2, f1.tr k3⟩
    rw [LX10_savings_37, show (6 : Int32) = nI 6 from rfl, if_neg (by rw [nI_lei] <;> omega), m_isOf (by omega) (by omega), b1s]
    simp only [lt]
    have i6 : ib (nI s) 6 := (ib_nI (by omega)).mpr (by omega)
    rw [sh1, if_pos i6, if_pos i6, nI_cl (by omega), nI_1]
    have bb := allS_bit ld s (V 0 8)
    by_cases q : s < V 0 8 ∧ 0 < ld s
    · have e0 : J0 ld (V 0 8) s = 2 ^ s := if_pos q
      have e1 : (allS ld (V 0 8)).testBit s = true := by rw [bb]; simp [q.1, q.2]
      rw [e1, if_neg (show ¬ nI (bq true) = 0 by decide), ← e0]
      exact k1
    · have e0 : J0 ld (V 0 8) s = 0 := if_neg q
      have e1 : (allS ld (V 0 8)).testBit s = false := by
        rw [bb]
        by_cases q1 : s < V 0 8
        · have : ¬ 0 < ld s := fun z => q ⟨q1, z⟩
          simp [this]
        · simp [q1]
      rw [e0] at k1
      rw [e1, if_pos (show nI (bq false) = 0 by decide)]
      exact k1
/-- what the rounds cost -/
def cJ (V : Vw) (J : Nat → Nat) (a : Nat) : Nat := cosV V (J a)
theorem cj_price {V : Vw} (hw : WF V) {σ : Sg} (hp : PC V σ) {ld J : Nat → Nat} (hJ : JW V J) (hj : JC V ld J σ) : ∀ m a n, a + m = V 0 8 → m < n → LX6_price_4 σ n (nI (sumN (cJ V J) a)) (nI (rkJ J a)) = some (nI (sumN (cJ V J) (V 0 8))) := by
  have s6 := hw.s6
  have p6 := p64 s6
  intro m
  induction m with
  | zero =>
    intro a n ha hn
    obtain ⟨n, rfl⟩ : ∃ q, n = q + 1 := ⟨n - 1, by omega⟩
    have ha : a = V 0 8 := by omega
    subst ha
    have r1 := rk_le J (V 0 8)
    rw [LX6_price_4, hj.1, if_pos (by rw [nI_lei] <;> omega)]
  | succ m ih =>
    intro a n ha hn
    have es : sumN (cJ V J) (a + 1) = sumN (cJ V J) a + cJ V J a := rfl
    by_cases z : J a = 0
    · have k1 := ih (a + 1) n (by omega) (by omega)
      have ec : cJ V J a = 0 := if_pos z
      rw [es, ec, rk_s, if_pos z] at k1
      exact k1
    obtain ⟨n, rfl⟩ : ∃ q, n = q + 1 := ⟨n - 1, by omega⟩
    have k1 := ih (a + 1) n (by omega) (by omega)
    have ja := hJ.1 a
    have ec : cJ V J a = rpV V (J a) := if_neg z
    rw [es, ec, rk_s, if_neg z] at k1
    have r1 := rk_le J (V 0 8)
    have r2 := rk_lt (J := J) (a := a) (b := V 0 8) (by omega) z
    have gp : XX2_roundPrice (nI (J a)) σ = some (nI (rpV V (J a))) := by
      unfold XX2_roundPrice
      rw [if_pos ((ib_nI (by omega)).mpr (by omega)), nI_cl (by omega), hp.1 _ ja]
    rw [LX6_price_4, hj.1, if_neg (by rw [nI_lei] <;> omega), if_pos ((ib_nI (by omega)).mpr (by omega)), nI_cl (by omega), (hj.2 a (by omega) z).1, gp, b1s, lt_def, lt_def, nI_add, nI_1]
    exact k1
theorem mj_price {V : Vw} (hw : WF V) {σ : Sg} (hr : RA V σ) {J : Nat → Nat} (hJ : JW V J) (hj : JM J σ) (K : Int32 → Int32 → Option (Int32 × Sg)) : ∀ m a n, a + m = 6 → m < n → LX10_savings_105 σ K n (nI (rkJ J a)) (nI (sumN (cJ V J) a)) (nI a) = K (nI (rkJ J 6)) (nI (sumN (cJ V J) 6)) := by
  have s6 := hw.s6
  have p6 := p64 s6
  intro m
  induction m with
  | zero =>
    intro a n ha hn
    obtain ⟨n, rfl⟩ : ∃ q, n = q + 1 := ⟨n - 1, by omega⟩
    have ha : a = 6 := by omega
    subst ha
    rw [LX10_savings_105, show (6 : Int32) = nI 6 from rfl, if_pos (by rw [nI_lei] <;> omega)]
  | succ m ih =>
    intro a n ha hn
    obtain ⟨n, rfl⟩ : ∃ q, n = q + 1 := ⟨n - 1, by omega⟩
    have k1 := ih (a + 1) n (by omega) (by omega)
    have ja := hJ.1 a
    have es : sumN (cJ V J) (a + 1) = sumN (cJ V J) a + cJ V J a := rfl
    have mc : XX10_costOfSet (nI (J a)) σ = some (nI (cJ V J a)) := m_costOfSet hw hr.1 hr.2 ja
    rw [es, rk_s] at k1
    rw [LX10_savings_105, show (6 : Int32) = nI 6 from rfl, if_neg (by rw [nI_lei] <;> omega), if_pos ((ib_nI (by omega)).mpr (by omega)), nI_cl (by omega), hj a (by omega), mc]
    simp only [lt, b1]
    rw [nI_1, nI_add]
    by_cases z : J a = 0
    · rw [if_pos z] at k1
      rw [z, if_pos (show nI 0 = 0 from rfl), show (0 : Int32) = nI 0 from rfl, nI_add]
      exact k1
    · rw [if_neg z] at k1
      rw [if_neg (nI_n0 z (by omega)), show (1 : Int32) = nI 1 from rfl, nI_add]
      exact k1
theorem sumN_ztail {f : Nat → Nat} {a : Nat} : ∀ m, (∀ i, a ≤ i → f i = 0) → sumN f (a + m) = sumN f a
  | 0, _ => rfl
  | m + 1, h => by
    show sumN f (a + m) + f (a + m) = _
    rw [sumN_ztail m h, h (a + m) (by omega)]
    rfl
theorem op_savings {V : Vw} {σ : Sg} (h : Inv V σ) (x y : Int32) : stOK (XX9_savings x y σ) (XX10_savings x y) := by
  obtain ⟨hw, hc, hr⟩ := id h
  have d14 := hw.d14
  have s6 := hw.s6
  have t99 := hw.t99
  have refuse : ∀ r, XX9_savings x y σ = some (r, σ) → XX10_savings x y σ = some (r, up σ 64 0 0) → stOK (XX9_savings x y σ) (XX10_savings x y) := fun r e1 e2 => ⟨_, _, _, e1, e2, V, h.look (fr_upf (a := 64) (i := 0)) rfl rfl⟩
  have hrt : RA V (up σ 64 0 0) := hr.th
  by_cases hx : ib x (V 0 0)
  · by_cases y0 : y < 0
    · refine refuse (-1) ?_ ?_
      · unfold XX9_savings
        rw [c_hasDay hc.1 d14, if_pos hx, b1s, if_neg (show ¬ (1 : Int32) = 0 by decide), if_pos y0]
      · unfold XX10_savings
        rw [lt_def, m_isDay (hrt.1.1 0 (by omega)) (by omega), if_pos hx, b1s, if_neg (show ¬ (1 : Int32) = 0 by decide), m_in, if_pos y0, b1s, if_pos rfl]
    by_cases y1 : 1 < y
    · refine refuse (-1) ?_ ?_
      · unfold XX9_savings
        rw [c_hasDay hc.1 d14, if_pos hx, b1s, if_neg (show ¬ (1 : Int32) = 0 by decide), if_neg y0, if_neg (lt_irr y1)]
      · unfold XX10_savings
        rw [lt_def, m_isDay (hrt.1.1 0 (by omega)) (by omega), if_pos hx, b1s, if_neg (show ¬ (1 : Int32) = 0 by decide), m_in, if_neg y0, if_pos y1, b1s, if_pos rfl]
    obtain ⟨d, hd, rfl⟩ := ib_of hx (by omega)
    have hld : ∀ s, s < V 0 8 → lda V d s ≤ 99 := fun s hs => by have := lda_le hw (d := d) hs; omega
    obtain ⟨J, hJe⟩ : ∃ J, J = itJ V (lda V d) 5 (J0 (lda V d) (V 0 8)) := ⟨_, rfl⟩
    have rk6 : rkJ (J0 (lda V d) (V 0 8)) (V 0 8) ≤ 5 + 1 := by
      have := rk_le (J0 (lda V d) (V 0 8)) (V 0 8)
      omega
    obtain ⟨σ1, a1, a2, a3⟩ := c_pickLoads (k := 38) (a := 63) (d := d) (by omega) (by omega) (σ := σ)
    have l1 : ∀ s, s < V 0 8 → σ1 63 s = nI (lda V d s) := fun s hs => by
      rw [a2 s (by omega)]
      exact (hc.2.1.2.2.1 s d hs hd).1
    have hc1 : CI V σ1 := hc.off a3 rfl (hc.2.1.frm a3 rfl) (hc.2.2.2.1.off a3 (fun k k1 k2 => by simp; omega))
    have f2 : fr [(35, some 0), (36, none), (37, none)] σ1 (up σ1 35 0 0) := fr_upf.mono (by simp)
    obtain ⟨σ2, b1', b2', b3'⟩ := cj_start hw hld (fun (σ_2 : Sg) => LX6_mergeAll_66 FUEL (0 : Int32) σ_2) (V 0 8) 0 FUEL (up σ1 35 0 0) (by omega) (by unfold FUEL; omega) (by rw [f2.cell (k := 2) rfl]; exact hc1.1.2.2.2.2.2.2.1) (fun s hs => by rw [f2.cell (k := 63) rfl]; exact l1 s hs) (by rw [up_same]; rfl) (fun a ha => absurd ha (by omega))
    have f3 := f2.tr b3'
    obtain ⟨σ3, c1, c2, c3, c4⟩ := cj_all hw hld 5 (J0 (lda V d) (V 0 8)) 0 FUEL σ2 rk6 (by omega) (by unfold FUEL; omega) (hc1.1.off (fun k k1 k2 => f3.cell (by simp; omega))) (hc1.2.2.2.1.off f3 (fun k k1 k2 => by simp; omega)) J0_W b2'
    rw [← hJe] at c2 c3
    have f4 := f3.tr c4
    have hp3 : PC V σ3 := hc1.2.2.2.1.off f4 (fun k k1 k2 => by simp; omega)
    have ma : XX6_mergeAll σ1 = some σ3 := by
      unfold XX6_mergeAll
      rw [lt_def, lt_def]
      exact Eq.trans b1' c1
    have pr : XX6_price σ3 = some (nI (sumN (cJ V J) (V 0 8))) := cj_price hw hp3 c3 c2 (V 0 8) 0 FUEL (by omega) (by unfold FUEL; omega)
    have hc3 : CI V σ3 := hc1.off f4 rfl (hc1.2.1.frm f4 rfl) hp3
    have hr3 : RA V σ3 := (hr.near a3 rfl).near f4 rfl
    have e1 : XX9_savings (nI d) y σ = some (if y = 0 then nI (sumN (cJ V J) (V 0 8)) else nI (rkJ J (V 0 8)), σ3) := by
      unfold XX9_savings
      rw [c_hasDay hc.1 d14, if_pos hx, b1s, if_neg (show ¬ (1 : Int32) = 0 by decide), if_neg y0, if_pos (nlt_le y1), a1, b1s, ma, b1s, pr, b1s, c2.1]
      split <;> rfl
    have hrt3 : RA V (up σ3 64 0 0) := hr3.th
    obtain ⟨τ1, g1, g2, g3, g4⟩ := m_layRun hw hrt3.1
    have hr4 : RA V τ1 := hrt3.off (frX10_layRun g1) rfl
    obtain ⟨τ2, k1, k2, k3, k4⟩ := m_layLoads hw (ld := lda V d) hd (fun s hs => lda_lt hw hs) hr4.1 (fun s hs => (g4 s d hs hd).1)
    have hr5 : RA V τ2 := hr4.off k4 rfl
    have key : ∃ τ, XX10_savings (nI d) y σ3 = some (if y = 0 then nI (sumN (cJ V J) (V 0 8)) else nI (rkJ J (V 0 8)), τ) ∧ RA V τ := by
      unfold XX10_savings
      rw [lt_def, m_isDay (hrt3.1.1 0 (by omega)) (by omega), if_pos hx, b1s, if_neg (show ¬ (1 : Int32) = 0 by decide), m_in, if_neg y0, if_neg y1, b1s, if_neg (show ¬ (1 : Int32) = 0 by decide), g1, b1s, k1, b2s, lt_def]
      obtain ⟨τ3, q1, q2, q3⟩ := mj_start hw (ld := lda V d) (fun (σ_7 : Sg) => lt (fun (σ_9 : Sg) => lt (fun (x5_11 : Int32) (x6_12 : Int32) => if y = 0 then (some (x6_12, σ_9)) else (some (x5_11, σ_9))) (fun (k154_13 : Int32 → Int32 → Option (Int32 × Sg)) => LX10_savings_105 σ_9 k154_13 FUEL (0 : Int32) (0 : Int32) (0 : Int32))) (fun (k96_10 : Sg → Option (Int32 × Sg)) => LX10_savings_77 k96_10 FUEL (1 : Int32) σ_7)) 6 0 FUEL τ2 (by omega) (by unfold FUEL; omega) (fun a ha => absurd ha (by omega))
      have hr6 : RA V τ3 := hr5.off q3 rfl
      obtain ⟨τ4, t1, t2, t3, t4⟩ := mj_all hw hld (fun (σ_9 : Sg) => lt (fun (x5_11 : Int32) (x6_12 : Int32) => if y = 0 then (some (x6_12, σ_9)) else (some (x5_11, σ_9))) (fun (k154_13 : Int32 → Int32 → Option (Int32 × Sg)) => LX10_savings_105 σ_9 k154_13 FUEL (0 : Int32) (0 : Int32) (0 : Int32))) 5 (J0 (lda V d) (V 0 8)) FUEL τ3 rk6 (by unfold FUEL; omega) hr6 (fun s hs => by rw [q3.cell (k := 86) rfl]; exact k3 s hs) J0_W q2
      rw [← hJe] at t3 t4
      refine ⟨τ4, ?_, t2⟩
      refine Eq.trans q1 ?_
      rw [lt_def]
      refine Eq.trans t1 ?_
      rw [lt_def]
      refine Eq.trans (mj_price hw t2 t4 t3 _ 6 0 FUEL (by omega) (by unfold FUEL; omega)) ?_
      have z1 : rkJ J 6 = rkJ J (V 0 8) := by
        have := sumN_ztail (f := fun b => if J b = 0 then 0 else 1) (a := V 0 8) (6 - V 0 8) (fun i hi => if_pos (t4.2.1 i hi))
        rw [show V 0 8 + (6 - V 0 8) = 6 by omega] at this
        exact this
      have z2 : sumN (cJ V J) 6 = sumN (cJ V J) (V 0 8) := by
        have := sumN_ztail (f := cJ V J) (a := V 0 8) (6 - V 0 8) (fun i hi => if_pos (t4.2.1 i hi))
        rw [show V 0 8 + (6 - V 0 8) = 6 by omega] at this
        exact this
      rw [z1, z2]
      split <;> rfl
    obtain ⟨τ, e2, g5⟩ := key
    exact ⟨_, _, _, e1, e2, V, hw, hc3.far (frX10_savings e2) rfl, g5⟩
  · refine refuse (-1) ?_ ?_
    · unfold XX9_savings
      rw [c_hasDay hc.1 d14, if_neg hx]
      rfl
    · unfold XX10_savings
      rw [lt_def, m_isDay (hrt.1.1 0 (by omega)) (by omega), if_neg hx]
      rfl
