/-! THE CLASS: ways -/
def FC (V : Vw) (σ : Sg) : Prop := ∀ a b, pl V a → pl V b → σ 27 (7 * a + b) = nI (faV V a b)
def WC (V : Vw) (σ : Sg) : Prop := σ 25 3 = nI (V 0 8) ∧ FC V σ ∧ (∀ set a, set < 2 ^ V 0 8 → pl V a → σ 28 (7 * set + a) = nI (ah V set a))
theorem pl7 {V : Vw} (h : WF V) {a : Nat} (ha : pl V a) : a < 7 := by
  have := h.s6
  unfold pl at ha
  omega
theorem TC.x {V : Vw} {σ : Sg} (h : TC V σ) {a : Nat} (ha : pl V a) : σ 3 a = nI (V 1 a) ∧ σ 4 a = nI (V 2 a) := by
  rcases ha with ha | ha
  · exact ⟨(h.2.2.2.2.2.2.2.2.1 a ha).1, (h.2.2.2.2.2.2.2.2.1 a ha).2.1⟩
  · rw [ha]
    exact ⟨h.2.2.2.2.2.2.2.2.2.1, h.2.2.2.2.2.2.2.2.2.2.1⟩
theorem cfar_in {V : Vw} (hw : WF V) {a : Nat} (ha : a < 7) (K : Sg → Option Sg) : ∀ m b n σ, b + m = 7 → m < n → TC V σ → ∃ τ, LX8_measure_18 (nI a) K n (nI b) σ = K τ ∧ (∀ i, (i < 7 * a + b ∨ 7 * a + 7 ≤ i) → τ 27 i = σ 27 i) ∧ (pl V a → ∀ c, b ≤ c → pl V c → τ 27 (7 * a + c) = nI (faV V a c)) ∧ fr [(27, none)] σ τ := by
  intro m
  induction m with
  | zero =>
    intro b n σ hb hn ht
    obtain ⟨n, rfl⟩ : ∃ q, n = q + 1 := ⟨n - 1, by omega⟩
    refine ⟨σ, ?_, fun _ _ => rfl, fun _ c h1 h2 => absurd (pl7 hw h2) (by omega), fr.rf⟩
    rw [LX8_measure_18]
    simp only [nI_lit]
    rw [if_pos (by rw [nI_lei] <;> omega)]
  | succ m ih =>
    intro b n σ hb hn ht
    obtain ⟨n, rfl⟩ : ∃ q, n = q + 1 := ⟨n - 1, by omega⟩
    obtain ⟨v, hv⟩ : ∃ v, v = ((if 0 ≤ ((σ 3 (nI a).toNatClampNeg) - (σ 3 (nI b).toNatClampNeg)) then ((σ 3 (nI a).toNatClampNeg) - (σ 3 (nI b).toNatClampNeg)) else 0 - ((σ 3 (nI a).toNatClampNeg) - (σ 3 (nI b).toNatClampNeg))) + (if 0 ≤ ((σ 4 (nI a).toNatClampNeg) - (σ 4 (nI b).toNatClampNeg)) then ((σ 4 (nI a).toNatClampNeg) - (σ 4 (nI b).toNatClampNeg)) else 0 - ((σ 4 (nI a).toNatClampNeg) - (σ 4 (nI b).toNatClampNeg)))) := ⟨_, rfl⟩
    have hf : fr [(27, none)] σ (up σ 27 (7 * a + b) v) := fr_up
    obtain ⟨τ, h1, h2, h3, h4⟩ := ih (b + 1) n (up σ 27 (7 * a + b) v) (by omega) (by omega) (ht.off (fun j j1 j2 => hf.cell (by simp; omega)))
    refine ⟨τ, ?_, fun i hi => ?_, fun pa c h5 h6 => ?_, hf.tr h4⟩
    · rw [LX8_measure_18]
      rw [if_neg (show ¬ (7 : Int32) ≤ nI b from fun q => absurd ((nI_lei (a := 7) (by omega) (by omega)).mp q) (by omega)), if_pos ((ib_nI (by omega)).mpr (by omega)), if_pos ((ib_nI (by omega)).mpr (by omega)), ← hv]
      have e : nI a * (7 : Int32) + nI b = nI (7 * a + b) := by rw [nI_lit, pk_mul, nI_add, Nat.mul_comm]
      rw [e, if_pos ((ib_nI (by omega)).mpr (by omega)), nI_cl (by omega), lt_def, lt_def, nI_1]
      exact h1
    · rw [h2 i (by omega), up_slot (by omega)]
    · by_cases q : c = b
      · subst q
        rw [h2 _ (by omega), up_same, hv, nI_cl (by omega), nI_cl (by omega), (ht.x pa).1, (ht.x pa).2, (ht.x h6).1, (ht.x h6).2]
        have p1 := hw.plx pa
        have p2 := hw.plx h6
        have e1 := abs30b (V 1 a) (by omega) (V 1 c) (by omega)
        have e2 := abs30b (V 2 a) (by omega) (V 2 c) (by omega)
        unfold faV
        rw [e1, e2, nI_add]
      · exact h3 pa c (by omega) h6
theorem cfar_out {V : Vw} (hw : WF V) (K : Sg → Option Sg) : ∀ m a n σ, a + m = 7 → m < n → TC V σ → (∀ c b, c < a → pl V c → pl V b → σ 27 (7 * c + b) = nI (faV V c b)) → ∃ τ, LX8_measure_10 K n (nI a) σ = K τ ∧ FC V τ ∧ fr [(27, none)] σ τ := by
  intro m
  induction m with
  | zero =>
    intro a n σ hb hn ht hA
    obtain ⟨n, rfl⟩ : ∃ q, n = q + 1 := ⟨n - 1, by omega⟩
    refine ⟨σ, ?_, fun c b hc hb => hA c b (by have := pl7 hw hc; omega) hc hb, fr.rf⟩
    rw [LX8_measure_10]
    simp only [nI_lit]
    rw [if_pos (by rw [nI_lei] <;> omega)]
  | succ m ih =>
    intro a n σ hb hn ht hA
    obtain ⟨n, rfl⟩ : ∃ q, n = q + 1 := ⟨n - 1, by omega⟩
    obtain ⟨τ, h1, h2, h3, h4⟩ := cfar_in hw (show a < 7 by omega) (fun σ => LX8_measure_10 K n (nI (a + 1)) σ) 7 0 FUEL σ (by omega) (by unfold FUEL; omega) ht
    obtain ⟨ρ, g1, g2, g3⟩ := ih (a + 1) n τ (by omega) (by omega) (ht.off (fun j j1 j2 => h4.cell (by simp; omega))) (fun c b hc pc pb => by
      have := pl7 hw pb
      by_cases q : c = a
      · subst q
        exact h3 pc b (by omega) pb
      · rw [h2 _ (by omega)]
        exact hA c b (by omega) pc pb)
    refine ⟨ρ, ?_, g2, h4.tr g3⟩
    rw [LX8_measure_10, if_neg (show ¬ (7 : Int32) ≤ nI a from fun q => absurd ((nI_lei (a := 7) (by omega) (by omega)).mp q) (by omega)), lt_def]
    simp only [lt]
    rw [nI_1]
    exact h1.trans g1
theorem c_between {σ : Sg} {a b : Nat} (ha : a < 7) (hb : b < 7) : XX8_between (nI a) (nI b) σ = some (σ 27 (7 * a + b)) := by
  unfold XX8_between
  have e : nI a * (7 : Int32) + nI b = nI (7 * a + b) := by rw [nI_lit, pk_mul, nI_add, Nat.mul_comm]
  rw [e, if_pos ((ib_nI (by omega)).mpr (by omega)), nI_cl (by omega)]
theorem xor64 : ∀ set, set < 64 → ∀ b, b < 6 → set ^^^ 2 ^ b < 64 := by decide +kernel
theorem c_milesBy {σ : Sg} {set a b : Nat} (hs : set < 64) (ha : a < 7) (hb : b < 6) : XX8_milesBy (nI set) (nI a) (nI b) σ = some (σ 27 (7 * a + b) + σ 28 (7 * (set ^^^ 2 ^ b) + b)) := by
  have := xor64 set hs b hb
  unfold XX8_milesBy
  rw [c_between ha (by omega)]
  simp only [b1, nI_lit]
  rw [nx_1shl (by omega), nx_xor, pk_mul, nI_add, if_pos ((ib_nI (by omega)).mpr (by omega)), nI_cl (by omega), Nat.mul_comm _ 7]
theorem c_milesTo {σ : Sg} {set : Nat} (hs : set < 64) : XX8_milesTo (nI set) σ = some (σ 28 (7 * set + 6)) := by
  unfold XX8_milesTo
  simp only [nI_lit]
  rw [pk_mul, nI_add, if_pos ((ib_nI (by omega)).mpr (by omega)), nI_cl (by omega), Nat.mul_comm]
theorem leastRest_loop {V : Vw} (hw : WF V) {σ : Sg} (h25 : σ 25 3 = nI (V 0 8)) {set a : Nat} (hs : set < 2 ^ V 0 8) (ha : a < 7) : ∀ m b n x, b + m = V 0 8 → m < n → ∃ r, LX8_leastRest_18 (nI set) (nI a) σ n x (nI b) = some r ∧ (FC V σ → (∀ q b, q < set → pl V b → σ 28 (7 * q + b) = nI (ah V q b)) → pl V a → x = nI (wbA V (ah V) set a b) → r = nI (wbA V (ah V) set a (V 0 8))) := by
  have s6 := hw.s6
  have p6 := p64 s6
  intro m
  induction m with
  | zero =>
    intro b n x hb hn
    obtain ⟨n, rfl⟩ : ∃ q, n = q + 1 := ⟨n - 1, by omega⟩
    have hb : b = V 0 8 := by omega
    subst hb
    refine ⟨x, ?_, fun _ _ _ h => h⟩
    rw [LX8_leastRest_18, h25, if_pos (by rw [nI_lei] <;> omega)]
  | succ m ih =>
    intro b n x hb hn
    obtain ⟨n, rfl⟩ : ∃ q, n = q + 1 := ⟨n - 1, by omega⟩
    have ew : wbA V (ah V) set a (b + 1) = if set.testBit b then min (wbA V (ah V) set a b) (faV V a b + ah V (set ^^^ 2 ^ b) b) else wbA V (ah V) set a b := rfl
    rw [LX8_leastRest_18, h25, if_neg (by rw [nI_lei] <;> omega)]
    simp only [lt, nI_lit]
    rw [nx_bit (by omega) (by omega)]
    simp only [bq1]
    cases hq : set.testBit b with
    | false =>
      obtain ⟨r, h1, h2⟩ := ih (b + 1) n x (by omega) (by omega)
      refine ⟨r, ?_, fun q1 q2 q3 q4 => h2 q1 q2 q3 ?_⟩
      · rw [if_neg (by decide), nI_add]
        exact h1
      · rw [ew, hq]
        exact q4
    | true =>
      have z := xb_lt set (by omega) b (by omega) hq
      rw [if_pos rfl, c_milesBy (by omega) ha (by omega)]
      simp only [b1]
      obtain ⟨r, h1, h2⟩ := ih (b + 1) n (if σ 27 (7 * a + b) + σ 28 (7 * (set ^^^ 2 ^ b) + b) < x then σ 27 (7 * a + b) + σ 28 (7 * (set ^^^ 2 ^ b) + b) else x) (by omega) (by omega)
      refine ⟨r, ?_, fun q1 q2 q3 q4 => h2 q1 q2 q3 ?_⟩
      · rw [nI_add]
        exact h1
      · have hb8 : b < V 0 8 := by omega
        have l1 := ah_le hw (set := set ^^^ 2 ^ b) (a := b) (by omega) (Or.inl hb8)
        have l2 := faV_le hw q3 (Or.inl hb8 : pl V b)
        rw [q1 a b q3 (Or.inl hb8), q2 _ b z.1 (Or.inl hb8), nI_add, q4, ew, hq, if_pos rfl]
        refine min_nI ?_ (by omega)
        rcases wbA_mem (V := V) (T := ah V) (set := set) (a := a) (n := b) with y | ⟨d, d1, d2, d3⟩
        · rw [y]
          decide
        · have zd := xb_lt set (by omega) d (by omega) d2
          have hd8 : d < V 0 8 := by omega
          have l3 := ah_le hw (set := set ^^^ 2 ^ d) (a := d) (by omega) (Or.inl hd8)
          have l4 := faV_le hw q3 (Or.inl hd8 : pl V d)
          omega
theorem c_leastRest {V : Vw} (hw : WF V) {σ : Sg} (h25 : σ 25 3 = nI (V 0 8)) {set a : Nat} (hs : set < 2 ^ V 0 8) (ha : a < 7) : ∃ r, XX8_leastRest (nI set) (nI a) σ = some r ∧ (FC V σ → (∀ q b, q < set → pl V b → σ 28 (7 * q + b) = nI (ah V q b)) → pl V a → r = nI (ah V set a)) := by
  have s6 := hw.s6
  have p6 := p64 s6
  unfold XX8_leastRest
  by_cases z : set = 0
  · subst z
    refine ⟨σ 27 (7 * a + 6), ?_, fun h1 h2 h3 => ?_⟩
    · rw [if_pos (show nI 0 = 0 from rfl), show (6 : Int32) = nI 6 from rfl, c_between ha (by omega)]
      rfl
    · rw [ah_zero, h1 a 6 h3 (Or.inr rfl)]
  · rw [if_neg (show ¬ nI set = 0 from nI_ne (b := 0) (by omega) (by omega) z)]
    obtain ⟨r, h1, h2⟩ := leastRest_loop hw h25 hs ha (V 0 8) 0 FUEL (nI 1000000000) (by omega) (by unfold FUEL; omega)
    exact ⟨r, h1, fun q1 q2 q3 => by rw [ah_pos hw (by omega) z]; exact h2 q1 q2 q3 rfl⟩
theorem crest_in {V : Vw} (hw : WF V) {set : Nat} (hs : set < 2 ^ V 0 8) (K : Sg → Option Sg) : ∀ m a n σ, a + m = 7 → m < n → σ 25 3 = nI (V 0 8) → FC V σ → (∀ q b, q < set → pl V b → σ 28 (7 * q + b) = nI (ah V q b)) → (∀ b, b < a → pl V b → σ 28 (7 * set + b) = nI (ah V set b)) → ∃ τ, LX8_measure_94 (nI set) K n (nI a) σ = K τ ∧ (∀ q b, q ≤ set → pl V b → τ 28 (7 * q + b) = nI (ah V q b)) ∧ fr [(28, none)] σ τ := by
  have s6 := hw.s6
  have p6 := p64 s6
  intro m
  induction m with
  | zero =>
    intro a n σ ha hn h25 hF hA hB
    obtain ⟨n, rfl⟩ : ∃ q, n = q + 1 := ⟨n - 1, by omega⟩
    refine ⟨σ, ?_, fun q b hq hb => ?_, fr.rf⟩
    · rw [LX8_measure_94]
      simp only [nI_lit]
      rw [if_pos (by rw [nI_lei] <;> omega)]
    · by_cases z : q = set
      · subst z
        exact hB b (by have := pl7 hw hb; omega) hb
      · exact hA q b (by omega) hb
  | succ m ih =>
    intro a n σ ha hn h25 hF hA hB
    obtain ⟨n, rfl⟩ : ∃ q, n = q + 1 := ⟨n - 1, by omega⟩
    obtain ⟨r, r1, r2⟩ := c_leastRest hw h25 hs (show a < 7 by omega)
    have hf : fr [(28, none)] σ (up σ 28 (7 * set + a) r) := fr_up
    obtain ⟨τ, h1, h2, h3⟩ := ih (a + 1) n (up σ 28 (7 * set + a) r) (by omega) (by omega) (by rw [hf.cell (k := 25) rfl]; exact h25) (fun c b hc hb => by rw [hf.cell (k := 27) rfl]; exact hF c b hc hb) (fun q b hq hb => by
        have := pl7 hw hb
        rw [up_slot (by omega)]
        exact hA q b hq hb) (fun b hb pb => by
        by_cases z : b = a
        · subst z
          rw [up_same]
          exact r2 hF hA pb
        · rw [up_slot (by omega)]
          exact hB b (by omega) pb)
    refine ⟨τ, ?_, h2, hf.tr h3⟩
    rw [LX8_measure_94, if_neg (show ¬ (7 : Int32) ≤ nI a from fun q => absurd ((nI_lei (a := 7) (by omega) (by omega)).mp q) (by omega)), r1]
    have e : nI set * (7 : Int32) + nI a = nI (7 * set + a) := by rw [nI_lit, pk_mul, nI_add, Nat.mul_comm]
    simp only [b1]
    rw [e, if_pos ((ib_nI (by omega)).mpr (by omega)), nI_cl (by omega), lt_def, lt_def, nI_1]
    exact h1
theorem c_measure {V : Vw} (hw : WF V) {σ : Sg} (ht : TC V σ) : ∃ τ, XX8_measure σ = some τ ∧ WC V τ ∧ fr [(25, some 3), (27, none), (28, none)] σ τ := by
  have s6 := hw.s6
  have p6 := p64 s6
  have key : ∀ m set n σ, set + m = 2 ^ V 0 8 → m < n → σ 25 3 = nI (V 0 8) → FC V σ → (∀ q b, q < set → pl V b → σ 28 (7 * q + b) = nI (ah V q b)) → ∃ τ, LX8_measure_82 n (nI set) σ = some τ ∧ (∀ set a, set < 2 ^ V 0 8 → pl V a → τ 28 (7 * set + a) = nI (ah V set a)) ∧ fr [(28, none)] σ τ := by
    intro m
    induction m with
    | zero =>
      intro set n σ hs hn h25 hF hA
      obtain ⟨n, rfl⟩ : ∃ q, n = q + 1 := ⟨n - 1, by omega⟩
      have hs : set = 2 ^ V 0 8 := by omega
      subst hs
      refine ⟨σ, ?_, fun q b hq hb => hA q b hq hb, fr.rf⟩
      rw [LX8_measure_82, h25]
      simp only [nI_lit]
      rw [nx_1shl (by omega), if_pos (by rw [nI_lei] <;> omega)]
    | succ m ih =>
      intro set n σ hs hn h25 hF hA
      obtain ⟨n, rfl⟩ : ∃ q, n = q + 1 := ⟨n - 1, by omega⟩
      obtain ⟨τ, h1, h2, h3⟩ := crest_in hw (show set < 2 ^ V 0 8 by omega) (fun (σ_4 : Sg) => LX8_measure_82 n (nI (set + 1)) σ_4) 7 0 FUEL σ (by omega) (by unfold FUEL; omega) h25 hF hA (fun b hb => absurd hb (by omega))
      obtain ⟨ρ, g1, g2, g3⟩ := ih (set + 1) n τ (by omega) (by omega) (by rw [h3.cell (k := 25) rfl]; exact h25) (fun c b hc hb => by rw [h3.cell (k := 27) rfl]; exact hF c b hc hb) (fun q b hq hb => h2 q b (by omega) hb)
      refine ⟨ρ, ?_, g2, h3.tr g3⟩
      rw [LX8_measure_82, h25]
      simp only [nI_lit]
      rw [nx_1shl (by omega), if_neg (by rw [nI_lei] <;> omega), lt_def]
      simp only [lt]
      rw [nI_add]
      exact h1.trans g1
  unfold XX8_measure
  rw [lt_def, lt_def, ht.2.2.2.2.2.2.1]
  have f0 : fr [(25, some 3)] σ (up σ 25 3 (nI (V 0 8))) := fr_upf
  obtain ⟨τ, h1, h2, h3⟩ := cfar_out hw (fun (σ_2 : Sg) => LX8_measure_82 FUEL (0 : Int32) σ_2) 7 0 FUEL (up σ 25 3 (nI (V 0 8))) (by omega) (by unfold FUEL; omega) (ht.off (fun j j1 j2 => f0.cell (by simp; omega))) (fun c b hc => absurd hc (by omega))
  have q25 : τ 25 3 = nI (V 0 8) := by rw [h3.cell (k := 25) rfl, up_same]
  obtain ⟨ρ, g1, g2, g3⟩ := key (2 ^ V 0 8) 0 FUEL τ (by omega) (by unfold FUEL; omega) q25 h2 (fun q b hq => absurd hq (by omega))
  refine ⟨ρ, h1.trans g1, ⟨by rw [g3.cell (k := 25) rfl]; exact q25, fun c b hc hb => by rw [g3.cell (k := 27) rfl]; exact h2 c b hc hb, g2⟩, ((f0.mono (by simp)).tr (h3.mono (by simp))).tr (g3.mono (by simp))⟩
