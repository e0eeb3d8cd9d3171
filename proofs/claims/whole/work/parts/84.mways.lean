/-! THE REFERENCE: ways -/
theorem bq0 {b : Bool} : nI (bq b) = nI 0 ↔ b = false := by cases b <;> decide
theorem bq1 {b : Bool} : nI (bq b) = nI 1 ↔ b = true := by cases b <;> decide
theorem bq0' {b : Bool} : nI (bq b) = 0 ↔ b = false := by cases b <;> decide
theorem bq1' {b : Bool} : nI (bq b) = 1 ↔ b = true := by cases b <;> decide
theorem abs30 : ∀ a, a < 31 → ∀ b, b < 31 → (if 0 ≤ nI a - nI b then nI a - nI b else -(nI a - nI b)) = nI ((a - b) + (b - a)) := by decide +kernel
theorem abs30b : ∀ a, a < 31 → ∀ b, b < 31 → (if 0 ≤ nI a - nI b then nI a - nI b else 0 - (nI a - nI b)) = nI ((a - b) + (b - a)) := by decide +kernel
theorem m_far {V : Vw} (hw : WF V) {σ : Sg} (hr : RM V σ) {a b : Nat} (ha : pl V a) (hb : pl V b) : XX10_far (nI a) (nI b) σ = some (nI (faV V a b)) := by
  have s6 := hw.s6
  have px := hw.plx ha
  have py := hw.plx hb
  have n1 : σ 65 1 = nI (V 1 6) := by rw [hr.1 1 (by omega), hw.dx]
  have n2 : σ 65 2 = nI (V 2 6) := by rw [hr.1 2 (by omega), hw.dy]
  have cx : ∀ (a : Nat) (i : Nat) (B : Int32 → Option Int32), pl V a → σ 65 1 = nI (V 1 6) → lt B (fun k => if nI a = (6 : Int32) then b1 (XX10_number (1 : Int32) σ) (fun r => k r) else if ib (nI a) 12 then k (σ 66 (nI a).toNatClampNeg) else none) = B (nI (V 1 a)) := fun a i B ha n1 => by
    rcases ha with ha | ha
    · have h1 : ¬ nI a = (6 : Int32) := nI_ne (b := 6) (by omega) (by omega) (by omega)
      rw [lt_def, if_neg h1, if_pos ((ib_nI (by omega)).mpr (by omega)), nI_cl (by omega), (hr.2.1 a ha).1]
    · subst ha
      rw [lt_def, if_pos (show nI 6 = (6 : Int32) from rfl), ← n1]
      rfl
  have cy : ∀ (a : Nat) (i : Nat) (B : Int32 → Option Int32), pl V a → σ 65 2 = nI (V 2 6) → lt B (fun k => if nI a = (6 : Int32) then b1 (XX10_number (2 : Int32) σ) (fun r => k r) else if ib (nI a) 12 then k (σ 67 (nI a).toNatClampNeg) else none) = B (nI (V 2 a)) := fun a i B ha n1 => by
    rcases ha with ha | ha
    · have h1 : ¬ nI a = (6 : Int32) := nI_ne (b := 6) (by omega) (by omega) (by omega)
      rw [lt_def, if_neg h1, if_pos ((ib_nI (by omega)).mpr (by omega)), nI_cl (by omega), (hr.2.1 a ha).2.1]
    · subst ha
      rw [lt_def, if_pos (show nI 6 = (6 : Int32) from rfl), ← n1]
      rfl
  unfold XX10_far
  refine (cx a 0 _ ha n1).trans ?_
  refine (cx b 0 _ hb n1).trans ?_
  refine (lt_def _ _).trans ?_
  refine (cy a 0 _ ha n2).trans ?_
  refine (cy b 0 _ hb n2).trans ?_
  refine (lt_def _ _).trans ?_
  have e1 := abs30 (V 1 a) (by omega) (V 1 b) (by omega)
  have e2 := abs30 (V 2 a) (by omega) (V 2 b) (by omega)
  unfold faV
  rw [← nI_add, ← e1, ← e2, lt_def]
  split <;> split <;> rfl
/-- the table of ways -/
def AHM (V : Vw) (σ : Sg) : Prop := ∀ set a, set < 2 ^ V 0 8 → pl V a → σ 77 (64 * a + set) = nI (ah V set a)
/-- none, or that -/
def iN (x : Nat) : Int32 := if x = INF then -1 else nI x
theorem layWays_in {V : Vw} (hw : WF V) {σ : Sg} (hr : RM V σ) {set a : Nat} (hs : set < 2 ^ V 0 8) (hs0 : set ≠ 0) (ha : pl V a) (hA : ∀ q b, q < set → b < V 0 8 → σ 77 (64 * b + q) = nI (ah V q b)) (K : Int32 → Option Sg) : ∀ m b n, b + m = V 0 8 → m < n → LX10_layWays_56 (nI set) (nI a) σ K n (iN (wbA V (ah V) set a b)) (nI b) = K (iN (wbA V (ah V) set a (V 0 8))) := by
  have s6 := hw.s6
  have p6 := p64 s6
  intro m
  induction m with
  | zero =>
    intro b n hb hn
    obtain ⟨n, rfl⟩ : ∃ q, n = q + 1 := ⟨n - 1, by omega⟩
    have hb : b = V 0 8 := by omega
    subst hb
    rw [LX10_layWays_56]
    simp only [XX10_shops, b1]
    rw [hr.1 8 (by omega), if_pos (by rw [nI_lei] <;> omega)]
  | succ m ih =>
    intro b n hb hn
    obtain ⟨n, rfl⟩ : ∃ q, n = q + 1 := ⟨n - 1, by omega⟩
    have key := ih (b + 1) n (by omega) (by omega)
    rw [LX10_layWays_56]
    simp only [XX10_shops, b1]
    rw [hr.1 8 (by omega), if_neg (by rw [nI_lei] <;> omega), m_isOf (by omega) (by omega)]
    simp only []
    have ew : wbA V (ah V) set a (b + 1) = if set.testBit b then min (wbA V (ah V) set a b) (faV V a b + ah V (set ^^^ 2 ^ b) b) else wbA V (ah V) set a b := rfl
    cases hq : set.testBit b with
    | false =>
      rw [hq] at ew
      rw [ew] at key
      simp only [lt, nI_lit] at key ⊢
      rw [if_pos (show nI (bq false) = nI 0 from rfl), if_pos (show -nI 1 < nI 0 by decide), nI_add]
      exact key
    | true =>
      have z := xb_lt set (by omega) b (by omega) hq
      have hb8 : b < V 0 8 := by omega
      have l1 := ah_le hw (set := set ^^^ 2 ^ b) (a := b) (by omega) (Or.inl hb8)
      have l2 := faV_le hw ha (Or.inl hb8 : pl V b)
      simp only [lt, nI_lit]
      rw [if_neg (show ¬ nI (bq true) = nI 0 by decide), m_far hw hr ha (Or.inl hb8)]
      simp only []
      rw [nx_1shl (by omega), nx_xor, pk_mul, nI_add, if_pos ((ib_nI (by omega)).mpr (by omega)), nI_cl (by omega), hA _ b z.1 hb8]
      rw [nI_add, ← nI_lit 0, if_neg (nI_pos (by omega)), nI_add]
      rw [hq] at ew
      simp only [if_true] at ew
      rw [ew] at key
      by_cases q : wbA V (ah V) set a b = INF
      · have e1 : min (wbA V (ah V) set a b) (faV V a b + ah V (set ^^^ 2 ^ b) b) = faV V a b + ah V (set ^^^ 2 ^ b) b := by
          rw [q]
          exact Nat.min_eq_right (by unfold INF; omega)
        rw [e1] at key
        have e2 : iN (faV V a b + ah V (set ^^^ 2 ^ b) b) = nI (faV V a b + ah V (set ^^^ 2 ^ b) b) := by
          unfold iN
          rw [if_neg (by unfold INF; omega)]
        rw [e2] at key
        rw [show iN (wbA V (ah V) set a b) = -1 by unfold iN; rw [if_pos q], if_pos (by decide)]
        exact key
      · have hl : wbA V (ah V) set a b < 2147483648 := by
          rcases wbA_mem (V := V) (T := ah V) (set := set) (a := a) (n := b) with y | ⟨d, d1, d2, d3⟩
          · exact absurd y q
          · have zd := xb_lt set (by omega) d (by omega) d2
            have hd8 : d < V 0 8 := by omega
            have l3 := ah_le hw (set := set ^^^ 2 ^ d) (a := d) (by omega) (Or.inl hd8)
            have l4 := faV_le hw ha (Or.inl hd8 : pl V d)
            omega
        have e0 : iN (wbA V (ah V) set a b) = nI (wbA V (ah V) set a b) := by unfold iN; rw [if_neg q]
        rw [e0, if_neg (nI_pos hl)]
        have e2 : ∀ x, x < 1000000000 → iN x = nI x := fun x hx => by
          unfold iN
          rw [if_neg (by unfold INF; omega)]
        by_cases c : faV V a b + ah V (set ^^^ 2 ^ b) b < wbA V (ah V) set a b
        · rw [if_pos (by rw [nI_lti] <;> omega)]
          rw [Nat.min_eq_right (by omega), e2 _ (by omega)] at key
          exact key
        · rw [if_neg (by rw [nI_lti] <;> omega)]
          rw [Nat.min_eq_left (by omega), e0] at key
          exact key
theorem layWays_mid {V : Vw} (hw : WF V) {set : Nat} (hs : set < 2 ^ V 0 8) (K : Sg → Option Sg) : ∀ m a n σ, a + m = 7 → m < n → RM V σ → (∀ q b, q < set → pl V b → σ 77 (64 * b + q) = nI (ah V q b)) → (∀ b, b < a → pl V b → σ 77 (64 * b + set) = nI (ah V set b)) → ∃ τ, LX10_layWays_14 (nI set) K n (nI a) σ = K τ ∧ RM V τ ∧ (∀ q b, q ≤ set → pl V b → τ 77 (64 * b + q) = nI (ah V q b)) ∧ fr [(77, none)] σ τ := by
  have s6 := hw.s6
  have p6 := p64 s6
  intro m
  induction m with
  | zero =>
    intro a n σ ha hn hr hA hB
    obtain ⟨n, rfl⟩ : ∃ q, n = q + 1 := ⟨n - 1, by omega⟩
    have ha : a = 7 := by omega
    subst ha
    refine ⟨σ, ?_, hr, fun q b hq hb => ?_, fr.rf⟩
    · rw [LX10_layWays_14]
      simp only [nI_lit]
      rw [if_pos (by rw [nI_lti] <;> omega)]
    · by_cases z : q = set
      · subst z
        exact hB b (by unfold pl at hb; omega) hb
      · exact hA q b (by omega) hb
  | succ m ih =>
    intro a n σ ha hn hr hA hB
    obtain ⟨n, rfl⟩ : ∃ q, n = q + 1 := ⟨n - 1, by omega⟩
    by_cases hp : pl V a
    · have hf : fr [(77, none)] σ (up σ 77 (64 * a + set) (nI (ah V set a))) := fr_up
      obtain ⟨τ, h1, h2, h3, h4⟩ := ih (a + 1) n (up σ 77 (64 * a + set) (nI (ah V set a))) (by omega) (by omega) (hr.off hf rfl) (fun q b hq hb => by
        rw [up_at, if_neg (by unfold pl at hb; omega)]
        exact hA q b hq hb) (fun b hb hpb => by
        rw [up_at]
        by_cases z : b = a
        · subst z
          rw [if_pos ⟨rfl, rfl⟩]
        · rw [if_neg (by unfold pl at hpb; omega)]
          exact hB b (by omega) hpb)
      refine ⟨τ, ?_, h2, h3, hf.tr h4⟩
      rw [LX10_layWays_14]
      have e37 : ∀ (B : Option Sg) (C : Option Sg), lt B (fun (k37_12 : Option Sg) => if (6 : Int32) ≤ nI a then (k37_12) else (b1 (XX10_shops σ) (fun (r_33 : Int32) => if nI a < r_33 then (k37_12) else C))) = B := fun B C => by
        simp only [lt, XX10_shops, b1, nI_lit]
        rw [hr.1 8 (by omega)]
        rcases hp with hp | hp
        · rw [if_neg (by rw [nI_lei] <;> omega), if_pos (by rw [nI_lti] <;> omega)]
        · rw [if_pos (by rw [nI_lei] <;> omega)]
      rw [if_neg (show ¬ (6 : Int32) < nI a from fun q => absurd ((nI_lti (a := 6) (by omega) (by omega)).mp q) (by omega))]
      rw [lt_def]
      refine (e37 _ _).trans ?_
      have fin : ∀ (x : Int32), x = nI (ah V set a) → (if ib (((64 : Int32) * nI a) + nI set) 448 then lt (up σ 77 (((64 : Int32) * nI a) + nI set).toNatClampNeg x) (fun (σ_17 : Sg) => (fun (σ_9 : Sg) => lt (nI a + (1 : Int32)) (fun (x2_11 : Int32) => LX10_layWays_14 (nI set) K n x2_11 σ_9)) σ_17) else none) = K τ := fun x hx => by
        simp only [nI_lit]
        rw [pk_mul, nI_add, if_pos ((ib_nI (by omega)).mpr (by omega)), nI_cl (by omega), hx]
        simp only [lt]
        rw [nI_add]
        exact h1
      by_cases z : set = 0
      · subst z
        rw [lt_def, if_pos (show nI 0 = 0 from rfl), show (6 : Int32) = nI 6 from rfl, m_far hw hr hp (Or.inr rfl)]
        simp only [b1]
        rw [lt_def]
        -- no shop is of the empty set
        have key : ∀ (K : Int32 → Option Sg) (x : Int32), ∀ m b n, b + m = V 0 8 → m < n → LX10_layWays_56 (nI 0) (nI a) σ K n x (nI b) = K x := by
          intro K x m
          induction m with
          | zero =>
            intro b n hb hn
            obtain ⟨n, rfl⟩ : ∃ q, n = q + 1 := ⟨n - 1, by omega⟩
            have hb : b = V 0 8 := by omega
            subst hb
            rw [LX10_layWays_56]
            simp only [XX10_shops, b1]
            rw [hr.1 8 (by omega), if_pos (by rw [nI_lei] <;> omega)]
          | succ m ih =>
            intro b n hb hn
            obtain ⟨n, rfl⟩ : ∃ q, n = q + 1 := ⟨n - 1, by omega⟩
            have key := ih (b + 1) n (by omega) (by omega)
            rw [LX10_layWays_56]
            simp only [XX10_shops, b1]
            rw [hr.1 8 (by omega), if_neg (by rw [nI_lei] <;> omega), m_isOf (by omega) (by omega)]
            simp only [Nat.zero_testBit, lt, nI_lit]
            rw [if_pos (show nI (bq false) = nI 0 from rfl), if_pos (show -nI 1 < nI 0 by decide), nI_add]
            exact key
        refine (key _ _ (V 0 8) 0 FUEL (by omega) (by unfold FUEL; omega)).trans ?_
        exact fin _ (by rw [ah_zero])
      · rw [lt_def, if_neg (show ¬ nI set = 0 from nI_ne (b := 0) (by omega) (by omega) z)]
        refine (lt_def _ _).trans ?_
        refine (layWays_in hw hr hs z hp (fun q b hq hb => hA q b hq (Or.inl hb)) _ (V 0 8) 0 FUEL (by omega) (by unfold FUEL; omega)).trans ?_
        have l := ah_le hw hs hp
        have e := ah_pos hw (a := a) (show set < 64 by omega) z
        refine fin _ ?_
        rw [← e]
        unfold iN
        rw [if_neg (by unfold INF; omega)]
    · obtain ⟨τ, h1, h2, h3, h4⟩ := ih (a + 1) n σ (by omega) (by omega) hr hA (fun b hb hpb => by
        by_cases z : b = a
        · subst z
          exact absurd hpb hp
        · exact hB b (by omega) hpb)
      refine ⟨τ, ?_, h2, h3, h4⟩
      unfold pl at hp
      rw [LX10_layWays_14]
      simp only [XX10_shops, b1, nI_lit]
      rw [hr.1 8 (by omega), if_neg (by rw [nI_lti] <;> omega), lt_def, lt_def, if_neg (by rw [nI_lei] <;> omega), if_neg (by rw [nI_lti] <;> omega)]
      refine (lt_val (nI_add _ _) _).trans ?_
      exact h1
theorem m_layWays {V : Vw} (hw : WF V) {σ : Sg} (hr : RM V σ) : ∃ τ, XX10_layWays σ = some τ ∧ RM V τ ∧ AHM V τ ∧ fr [(77, none)] σ τ := by
  have s6 := hw.s6
  have p6 := p64 s6
  have key : ∀ m set n σ, set + m = 2 ^ V 0 8 → m < n → RM V σ → (∀ q b, q < set → pl V b → σ 77 (64 * b + q) = nI (ah V q b)) → ∃ τ, LX10_layWays_2 n (nI set) σ = some τ ∧ RM V τ ∧ AHM V τ ∧ fr [(77, none)] σ τ := by
    intro m
    induction m with
    | zero =>
      intro set n σ hs hn hr hA
      obtain ⟨n, rfl⟩ : ∃ q, n = q + 1 := ⟨n - 1, by omega⟩
      have hs : set = 2 ^ V 0 8 := by omega
      subst hs
      refine ⟨σ, ?_, hr, fun q b hq hb => hA q b hq hb, fr.rf⟩
      rw [LX10_layWays_2]
      simp only [XX10_shops, b1, nI_lit]
      rw [hr.1 8 (by omega)]
      rw [nx_1shl (by omega), if_pos (by rw [nI_lei] <;> omega)]
    | succ m ih =>
      intro set n σ hs hn hr hA
      obtain ⟨n, rfl⟩ : ∃ q, n = q + 1 := ⟨n - 1, by omega⟩
      obtain ⟨τ, h1, h2, h3, h4⟩ := layWays_mid hw (show set < 2 ^ V 0 8 by omega) (fun (σ_4 : Sg) => LX10_layWays_2 n (nI (set + 1)) σ_4) 7 0 FUEL σ (by omega) (by unfold FUEL; omega) hr hA (fun b hb => absurd hb (by omega))
      obtain ⟨ρ, g1, g2, g3, g4⟩ := ih (set + 1) n τ (by omega) (by omega) h2 (fun q b hq hb => h3 q b (by omega) hb)
      refine ⟨ρ, ?_, g2, g3, h4.tr g4⟩
      rw [LX10_layWays_2]
      simp only [XX10_shops, b1, nI_lit]
      rw [hr.1 8 (by omega)]
      rw [nx_1shl (by omega), if_neg (by rw [nI_lei] <;> omega), lt_def]
      simp only [lt]
      rw [nI_add]
      exact h1.trans g1
  exact key (2 ^ V 0 8) 0 FUEL σ (by omega) (by unfold FUEL; omega) hr (fun q b hq => absurd hq (by omega))
