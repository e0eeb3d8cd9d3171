/-! CALLS: savings -/
/-- how much less one round costs than two, as an int -/
def gnI (V : Vw) (A B : Nat) : Int32 := nI (rpV V A) + nI (rpV V B) - nI (rpV V (A ||| B))
abbrev AJ : Type := Int32 × Option (Nat × Nat)
def stJ (V : Vw) (ld J : Nat → Nat) (a b : Nat) (acc : AJ) : AJ := if J a = 0 ∨ J b = 0 ∨ V 0 3 < ldS ld (J a ||| J b) (V 0 8) ∨ gnI V (J a) (J b) ≤ acc.1 then acc else (gnI V (J a) (J b), some (a, b))
def inJ (V : Vw) (ld J : Nat → Nat) (a : Nat) : Nat → Nat → AJ → AJ
  | 0, _, acc => acc
  | m + 1, b, acc => inJ V ld J a m (b + 1) (stJ V ld J a b acc)
def outJ (V : Vw) (ld J : Nat → Nat) : Nat → Nat → AJ → AJ
  | 0, _, acc => acc
  | m + 1, a, acc => outJ V ld J m (a + 1) (inJ V ld J a m (a + 1) acc)
def oI1 : Option (Nat × Nat) → Int32
  | none => -1
  | some q => nI q.1
def oI2 : Option (Nat × Nat) → Int32
  | none => -1
  | some q => nI q.2
/-- rounds by their least shops: they have no shop in common -/
def JW (V : Vw) (J : Nat → Nat) : Prop := (∀ a, J a < 2 ^ V 0 8) ∧ (∀ a, V 0 8 ≤ a → J a = 0) ∧ (∀ a b, a ≠ b → J a &&& J b = 0)
def JM (J : Nat → Nat) (σ : Sg) : Prop := ∀ a, a < 6 → σ 87 a = nI (J a)
theorem or_ne {a b : Nat} (h : a ≠ 0) : a ||| b ≠ 0 := fun q => h (Nat.le_zero.mp (by rw [← q]; exact Nat.left_le_or))
theorem mj_in {V : Vw} (hw : WF V) {σ : Sg} (hr : RA V σ) {ld J : Nat → Nat} (hl : LDM V ld σ) (hld : ∀ s, s < V 0 8 → ld s ≤ 99) (hJ : JW V J) (hj : JM J σ) {a : Nat} (ha : a < V 0 8) (K : Int32 → Int32 → Int32 → Option (Int32 × Sg)) : ∀ m b n acc, b + m = V 0 8 → m < n → LX10_joins_25 (nI (V 0 3)) (nI a) σ K n acc.1 (oI1 acc.2) (oI2 acc.2) (nI b) = K (inJ V ld J a m b acc).1 (oI1 (inJ V ld J a m b acc).2) (oI2 (inJ V ld J a m b acc).2) := by
  have s6 := hw.s6
  have p6 := p64 s6
  have t99 := hw.t99
  intro m
  induction m with
  | zero =>
    intro b n acc hb hn
    obtain ⟨n, rfl⟩ : ∃ q, n = q + 1 := ⟨n - 1, by omega⟩
    rw [LX10_joins_25]
    simp only [XX10_shops, b1]
    rw [hr.1.1 8 (by omega), if_pos (by rw [nI_lei] <;> omega)]
    rfl
  | succ m ih =>
    intro b n acc hb hn
    obtain ⟨n, rfl⟩ : ∃ q, n = q + 1 := ⟨n - 1, by omega⟩
    have ja := hJ.1 a
    have jb := hJ.1 b
    have k1 := ih (b + 1) n (stJ V ld J a b acc) (by omega) (by omega)
    rw [LX10_joins_25]
    simp only [XX10_shops, b1]
    rw [hr.1.1 8 (by omega), if_neg (by rw [nI_lei] <;> omega), if_pos ((ib_nI (by omega)).mpr (by omega))]
    simp only [lt]
    rw [if_pos ((ib_nI (show b < 2147483648 by omega)).mpr (by omega)), nI_cl (by omega), nI_cl (by omega), hj a (by omega), hj b (by omega)]
    show _ = K (inJ V ld J a m (b + 1) (stJ V ld J a b acc)).1 (oI1 (inJ V ld J a m (b + 1) (stJ V ld J a b acc)).2) (oI2 (inJ V ld J a m (b + 1) (stJ V ld J a b acc)).2)
    by_cases z1 : J a = 0
    · have e : stJ V ld J a b acc = acc := if_pos (Or.inl z1)
      rw [e] at k1 ⊢
      rw [z1, if_pos (show nI 0 = 0 from rfl), nI_1]
      exact k1
    rw [if_neg (nI_n0 z1 (by omega))]
    by_cases z2 : J b = 0
    · have e : stJ V ld J a b acc = acc := if_pos (Or.inr (Or.inl z2))
      rw [e] at k1 ⊢
      rw [z2, if_pos (show nI 0 = 0 from rfl), nI_1]
      exact k1
    have jo : J a ||| J b < 2 ^ V 0 8 := Nat.or_lt_two_pow ja jb
    have sl : ldS ld (J a ||| J b) (V 0 8) ≤ V 0 8 * 99 := sumN_le (fun s hs => by
      have := hld s hs
      show (if (J a ||| J b).testBit s then ld s else 0) ≤ 99
      split <;> omega)
    rw [if_neg (nI_n0 z2 (by omega)), nx_or, m_loadsOf hw hr.1 hl (by omega)]
    simp only []
    by_cases z3 : V 0 3 < ldS ld (J a ||| J b) (V 0 8)
    · have e : stJ V ld J a b acc = acc := if_pos (Or.inr (Or.inr (Or.inl z3)))
      rw [e] at k1 ⊢
      rw [if_neg (by rw [nI_lei] <;> omega), nI_1]
      exact k1
    have ec1 : cosV V (J a) = rpV V (J a) := if_neg z1
    have ec2 : cosV V (J b) = rpV V (J b) := if_neg z2
    have ec3 : cosV V (J a ||| J b) = rpV V (J a ||| J b) := if_neg (or_ne z1)
    rw [if_pos (by rw [nI_lei] <;> omega), m_costOfSet hw hr.1 hr.2 ja, m_costOfSet hw hr.1 hr.2 jb, m_costOfSet hw hr.1 hr.2 jo, ec1, ec2, ec3]
    simp only []
    rw [nI_1]
    show (if gnI V (J a) (J b) ≤ acc.1 then _ else LX10_joins_25 (nI (V 0 3)) (nI a) σ K n (gnI V (J a) (J b)) (nI a) (nI b) (nI (b + 1))) = _
    by_cases z4 : gnI V (J a) (J b) ≤ acc.1
    · have e : stJ V ld J a b acc = acc := if_pos (Or.inr (Or.inr (Or.inr z4)))
      rw [e] at k1 ⊢
      rw [if_pos z4]
      exact k1
    · have e : stJ V ld J a b acc = (gnI V (J a) (J b), some (a, b)) := if_neg (fun q => by
        rcases q with q | q | q | q
        · exact z1 q
        · exact z2 q
        · exact z3 q
        · exact z4 q)
      rw [e] at k1 ⊢
      rw [if_neg z4]
      exact k1
theorem mj_out {V : Vw} (hw : WF V) {σ : Sg} (hr : RA V σ) {ld J : Nat → Nat} (hl : LDM V ld σ) (hld : ∀ s, s < V 0 8 → ld s ≤ 99) (hJ : JW V J) (hj : JM J σ) (K : Int32 → Int32 → Option (Int32 × Sg)) : ∀ m a n acc, a + m = V 0 8 → m < n → LX10_joins_10 (nI (V 0 3)) σ K n acc.1 (oI1 acc.2) (oI2 acc.2) (nI a) = K (oI1 (outJ V ld J m a acc).2) (oI2 (outJ V ld J m a acc).2) := by
  have s6 := hw.s6
  intro m
  induction m with
  | zero =>
    intro a n acc ha hn
    obtain ⟨n, rfl⟩ : ∃ q, n = q + 1 := ⟨n - 1, by omega⟩
    rw [LX10_joins_10]
    simp only [XX10_shops, b1]
    rw [hr.1.1 8 (by omega), if_pos (by rw [nI_lei] <;> omega)]
    rfl
  | succ m ih =>
    intro a n acc ha hn
    obtain ⟨n, rfl⟩ : ∃ q, n = q + 1 := ⟨n - 1, by omega⟩
    rw [LX10_joins_10]
    simp only [XX10_shops, b1]
    rw [hr.1.1 8 (by omega), if_neg (by rw [nI_lei] <;> omega), lt_def, lt_def, nI_1]
    refine Eq.trans (mj_in hw hr hl hld hJ hj (a := a) (by omega) _ m (a + 1) FUEL acc (by omega) (by unfold FUEL; omega)) ?_
    rw [lt_def]
    exact ih (a + 1) n _ (by omega) (by omega)
/-- the best two -/
def bsJ (V : Vw) (ld J : Nat → Nat) : AJ := outJ V ld J (V 0 8) 0 (0, none)
def PJ (V : Vw) (J : Nat → Nat) (acc : AJ) : Prop := (acc.2 = none → acc.1 = 0) ∧ (∀ o t, acc.2 = some (o, t) → 0 < acc.1 ∧ o < t ∧ t < V 0 8 ∧ J o ≠ 0 ∧ J t ≠ 0)
theorem PJ.ge {V : Vw} {J : Nat → Nat} {acc : AJ} (h : PJ V J acc) : 0 ≤ acc.1 := by
  obtain ⟨M, o⟩ := acc
  cases o with
  | none =>
    have : M = 0 := h.1 rfl
    rw [this]
    decide
  | some q =>
    have := (h.2 q.1 q.2 rfl).1
    have h1 := Int32.lt_iff_toInt_lt.mp this
    exact Int32.le_iff_toInt_le.mpr (by omega)
theorem PJ_st {V : Vw} {ld J : Nat → Nat} {a b : Nat} {acc : AJ} (h : PJ V J acc) (hab : a < b) (hb : b < V 0 8) : PJ V J (stJ V ld J a b acc) := by
  unfold stJ
  split
  · exact h
  · rename_i q
    have g := h.ge
    refine ⟨fun z => (by cases z), fun o t z => ?_⟩
    cases z
    refine ⟨?_, hab, hb, fun z => q (Or.inl z), fun z => q (Or.inr (Or.inl z))⟩
    have h1 := nle_lt (fun z => q (Or.inr (Or.inr (Or.inr z))))
    have h2 := Int32.lt_iff_toInt_lt.mp h1
    have h3 := Int32.le_iff_toInt_le.mp g
    exact Int32.lt_iff_toInt_lt.mpr (by
      show (0 : Int32).toInt < (gnI V (J a) (J b)).toInt
      omega)
theorem PJ_in {V : Vw} {ld J : Nat → Nat} {a : Nat} : ∀ m b acc, b + m = V 0 8 → a < b → PJ V J acc → PJ V J (inJ V ld J a m b acc)
  | 0, _, _, _, _, h => h
  | m + 1, b, acc, hb, hab, h => PJ_in m (b + 1) _ (by omega) (by omega) (PJ_st h hab (by omega))
theorem PJ_out {V : Vw} {ld J : Nat → Nat} : ∀ m a acc, a + m = V 0 8 → PJ V J acc → PJ V J (outJ V ld J m a acc)
  | 0, _, _, _, h => h
  | m + 1, a, acc, ha, h => PJ_out m (a + 1) _ (by omega) (PJ_in m (a + 1) acc (by omega) (by omega) h)
theorem bsJ_P {V : Vw} {ld J : Nat → Nat} : PJ V J (bsJ V ld J) := PJ_out (V 0 8) 0 (0, none) (by omega) ⟨fun _ => rfl, fun _ _ z => (by cases z)⟩
def mrJ (J : Nat → Nat) (o t : Nat) : Nat → Nat := fun a => if a = o then J o ||| J t else if a = t then 0 else J a
theorem JW.mr {V : Vw} {J : Nat → Nat} (h : JW V J) {o t : Nat} (hot : o < t) (ht : t < V 0 8) : JW V (mrJ J o t) := by
  obtain ⟨h1, h2, h3⟩ := h
  have dj : ∀ a, a ≠ o → a ≠ t → (J o ||| J t) &&& J a = 0 := fun a q1 q2 => by
    rw [Nat.and_comm, Nat.and_or_distrib_left, h3 a o q1, h3 a t q2]
    rfl
  refine ⟨fun a => ?_, fun a ha => ?_, fun a b hab => ?_⟩
  · unfold mrJ
    split
    · exact Nat.or_lt_two_pow (h1 o) (h1 t)
    · split
      · exact Nat.two_pow_pos _
      · exact h1 a
  · unfold mrJ
    rw [if_neg (by omega), if_neg (by omega)]
    exact h2 a ha
  · unfold mrJ
    by_cases a1 : a = o
    · rw [if_pos a1, if_neg (fun q => hab (by rw [a1, q]))]
      by_cases b2 : b = t
      · rw [if_pos b2, Nat.and_zero]
      · rw [if_neg b2]
        exact dj b (fun q => hab (by rw [a1, q])) b2
    · rw [if_neg a1]
      by_cases a2 : a = t
      · rw [if_pos a2, Nat.zero_and]
      · rw [if_neg a2]
        by_cases b1 : b = o
        · rw [if_pos b1, Nat.and_comm]
          exact dj a a1 a2
        · rw [if_neg b1]
          by_cases b2 : b = t
          · rw [if_pos b2, Nat.and_zero]
          · rw [if_neg b2]
            exact h3 a b hab
theorem m_joins {V : Vw} (hw : WF V) {σ : Sg} (hr : RA V σ) {ld J : Nat → Nat} (hl : LDM V ld σ) (hld : ∀ s, s < V 0 8 → ld s ≤ 99) (hJ : JW V J) (hj : JM J σ) : ((bsJ V ld J).2 = none → XX10_joins (nI (V 0 3)) σ = some (0, σ)) ∧ (∀ o t, (bsJ V ld J).2 = some (o, t) → ∃ τ, XX10_joins (nI (V 0 3)) σ = some (1, τ) ∧ JM (mrJ J o t) τ ∧ fr [(87, none)] σ τ) := by
  have s6 := hw.s6
  refine ⟨fun e => ?_, fun o t e => ?_⟩
  · unfold XX10_joins
    rw [lt_def]
    refine Eq.trans (mj_out hw hr hl hld hJ hj _ (V 0 8) 0 FUEL (0, none) (by omega) (by unfold FUEL; omega)) ?_
    have e' : (outJ V ld J (V 0 8) 0 (0, none)).2 = none := e
    rw [e']
    rfl
  · have P := (bsJ_P (V := V) (ld := ld) (J := J)).2 o t e
    have e' : (outJ V ld J (V 0 8) 0 (0, none)).2 = some (o, t) := e
    refine ⟨up (up σ 87 o (nI (J o ||| J t))) 87 t (nI 0), ?_, ?_, fr.tr fr_up fr_up⟩
    · unfold XX10_joins
      rw [lt_def]
      refine Eq.trans (mj_out hw hr hl hld hJ hj _ (V 0 8) 0 FUEL (0, none) (by omega) (by unfold FUEL; omega)) ?_
      rw [e']
      show lt _ _ = _
      rw [lt_def]
      show (if nI o < 0 then _ else _) = _
      rw [if_neg (nI_pos (by omega)), show oI1 (some (o, t)) = nI o from rfl, show oI2 (some (o, t)) = nI t from rfl, if_pos ((ib_nI (by omega)).mpr (by omega)), if_pos ((ib_nI (by omega)).mpr (by omega)), nI_cl (by omega), nI_cl (by omega), lt_def, lt_def, hj o (by omega), hj t (by omega), nx_or]
      show (if nI o < 0 then _ else _) = _
      rw [if_neg (nI_pos (by omega))]
      rfl
    · intro a ha
      unfold mrJ
      by_cases a2 : a = t
      · rw [if_neg (by omega), if_pos a2, a2, up_same]
      · rw [if_neg a2, up_slot a2]
        by_cases a1 : a = o
        · rw [if_pos a1, a1, up_same]
        · rw [if_neg a1, up_slot a1]
          exact hj a ha
/-- again and again -/
def itJ (V : Vw) (ld : Nat → Nat) : Nat → (Nat → Nat) → (Nat → Nat)
  | 0, J => J
  | k + 1, J => match (bsJ V ld J).2 with
    | none => J
    | some q => itJ V ld k (mrJ J q.1 q.2)
/-- how many rounds stand ahead -/
def rkJ (J : Nat → Nat) : Nat → Nat := sumN (fun b => if J b = 0 then 0 else 1)
theorem rk_s (J : Nat → Nat) (a : Nat) : rkJ J (a + 1) = rkJ J a + (if J a = 0 then 0 else 1) := rfl
theorem rk_le (J : Nat → Nat) (a : Nat) : rkJ J a ≤ a := by
  have : rkJ J a ≤ a * 1 := sumN_le (fun i _ => by split <;> omega)
  omega
theorem rk_mono {J : Nat → Nat} {a b : Nat} (h : a ≤ b) : rkJ J a ≤ rkJ J b := sumN_mono h
theorem rk_lt {J : Nat → Nat} {a b : Nat} (h : a < b) (hz : J a ≠ 0) : rkJ J a < rkJ J b := by
  have := rk_mono (J := J) (a := a + 1) (b := b) h
  rw [rk_s, if_neg hz] at this
  omega
theorem rk_mr {J : Nat → Nat} {o t : Nat} (hot : o < t) (ho : J o ≠ 0) (ht : J t ≠ 0) : ∀ a, rkJ (mrJ J o t) a = if a ≤ t then rkJ J a else rkJ J a - 1
  | 0 => by rw [if_pos (Nat.zero_le _)]; rfl
  | a + 1 => by
    have ih := rk_mr hot ho ht a
    have em : mrJ J o t a = if a = o then J o ||| J t else if a = t then 0 else J a := rfl
    rw [rk_s, rk_s, ih, em]
    by_cases q : a < t
    · rw [if_pos (show a ≤ t by omega), if_pos (show a + 1 ≤ t by omega)]
      by_cases a1 : a = o
      · rw [if_pos a1, if_neg (or_ne ho), a1, if_neg ho]
      · rw [if_neg a1, if_neg (show ¬ a = t by omega)]
    · by_cases q2 : a = t
      · rw [if_pos (show a ≤ t by omega), if_neg (show ¬ a + 1 ≤ t by omega), if_neg (show ¬ a = o by omega), if_pos q2, if_pos rfl, q2, if_neg ht]
        omega
      · have := rk_lt (J := J) (a := t) (b := a) (by omega) ht
        rw [if_neg (show ¬ a ≤ t by omega), if_neg (show ¬ a + 1 ≤ t by omega), if_neg (show ¬ a = o by omega), if_neg q2]
        omega
/-- the class's row of rounds -/
def JC (V : Vw) (ld J : Nat → Nat) (σ : Sg) : Prop := σ 35 0 = nI (rkJ J (V 0 8)) ∧ (∀ a, a < V 0 8 → J a ≠ 0 → σ 36 (rkJ J a) = nI (J a) ∧ σ 37 (rkJ J a) = nI (ldS ld (J a) (V 0 8)))
def oC1 (J : Nat → Nat) : Option (Nat × Nat) → Int32
  | none => 0
  | some q => nI (rkJ J q.1)
def oC2 (J : Nat → Nat) : Option (Nat × Nat) → Int32
  | none => 0
  | some q => nI (rkJ J q.2)
theorem inJ_z {V : Vw} {ld J : Nat → Nat} {a : Nat} (h : J a = 0) : ∀ m b acc, inJ V ld J a m b acc = acc
  | 0, _, _ => rfl
  | m + 1, b, acc => by
    show inJ V ld J a m (b + 1) (stJ V ld J a b acc) = acc
    rw [show stJ V ld J a b acc = acc from if_pos (Or.inl h)]
    exact inJ_z h m (b + 1) acc
theorem cj_in {V : Vw} (hw : WF V) {σ : Sg} (ht : TC V σ) (hp : PC V σ) {ld J : Nat → Nat} (hld : ∀ s, s < V 0 8 → ld s ≤ 99) (hJ : JW V J) (hj : JC V ld J σ) {a : Nat} (ha : a < V 0 8) (hz : J a ≠ 0) (K : Int32 → Int32 → Int32 → Option (Int32 × Sg)) : ∀ m b n acc, b + m = V 0 8 → a < b → m < n → LX6_mergeBest_24 (nI (rkJ J a)) σ K n acc.1 (oC1 J acc.2) (oC2 J acc.2) (nI (rkJ J b)) = K (inJ V ld J a m b acc).1 (oC1 J (inJ V ld J a m b acc).2) (oC2 J (inJ V ld J a m b acc).2) := by
  have s6 := hw.s6
  have p6 := p64 s6
  have t99 := hw.t99
  intro m
  induction m with
  | zero =>
    intro b n acc hb hab hn
    obtain ⟨n, rfl⟩ : ∃ q, n = q + 1 := ⟨n - 1, by omega⟩
    have hb : b = V 0 8 := by omega
    subst hb
    have r1 := rk_le J (V 0 8)
    rw [LX6_mergeBest_24, hj.1, if_pos (by rw [nI_lei] <;> omega)]
    rfl
  | succ m ih =>
    intro b n acc hb hab hn
    have ja := hJ.1 a
    have jb := hJ.1 b
    show _ = K (inJ V ld J a m (b + 1) (stJ V ld J a b acc)).1 (oC1 J (inJ V ld J a m (b + 1) (stJ V ld J a b acc)).2) (oC2 J (inJ V ld J a m (b + 1) (stJ V ld J a b acc)).2)
    by_cases z2 : J b = 0
    · have e : stJ V ld J a b acc = acc := if_pos (Or.inr (Or.inl z2))
      have k1 := ih (b + 1) n acc (by omega) (by omega) (by omega)
      rw [rk_s, if_pos z2, Nat.add_zero] at k1
      rw [e]
      exact k1
    obtain ⟨n, rfl⟩ : ∃ q, n = q + 1 := ⟨n - 1, by omega⟩
    have k1 := ih (b + 1) n (stJ V ld J a b acc) (by omega) (by omega) (by omega)
    rw [rk_s, if_neg z2] at k1
    have r1 := rk_le J (V 0 8)
    have r2 := rk_lt (J := J) (a := b) (b := V 0 8) (by omega) z2
    have r3 := rk_lt (J := J) (a := a) (b := b) hab hz
    have jo : J a ||| J b < 2 ^ V 0 8 := Nat.or_lt_two_pow ja jb
    obtain ⟨a1, a2⟩ := hj.2 a ha hz
    obtain ⟨b1', b2'⟩ := hj.2 b (by omega) z2
    have gn : XX2_gain (nI (J a)) (nI (J b)) σ = some (gnI V (J a) (J b)) := by
      unfold XX2_gain
      rw [nx_or, if_pos ((ib_nI (by omega)).mpr (by omega)), if_pos ((ib_nI (by omega)).mpr (by omega)), if_pos ((ib_nI (by omega)).mpr (by omega)), nI_cl (by omega), nI_cl (by omega), nI_cl (by omega), hp.1 _ ja, hp.1 _ jb, hp.1 _ jo]
      rfl
    have sl : ldS ld (J a ||| J b) (V 0 8) ≤ V 0 8 * 99 := sumN_le (fun s hs => by
      have := hld s hs
      show (if (J a ||| J b).testBit s then ld s else 0) ≤ 99
      split <;> omega)
    rw [LX6_mergeBest_24, hj.1, if_neg (by rw [nI_lei] <;> omega), if_pos ((ib_nI (by omega)).mpr (by omega)), if_pos ((ib_nI (by omega)).mpr (by omega)), nI_cl (by omega), nI_cl (by omega), a1, b1', gn, a2, b2', nI_add, ← ldS_or (hJ.2.2 a b (by omega)), ht.2.1]
    simp only [b1, lt]
    rw [nI_1]
    by_cases z4 : gnI V (J a) (J b) ≤ acc.1
    · have e : stJ V ld J a b acc = acc := if_pos (Or.inr (Or.inr (Or.inr z4)))
      rw [e] at k1 ⊢
      rw [if_pos z4]
      exact k1
    rw [if_neg z4]
    by_cases z3 : V 0 3 < ldS ld (J a ||| J b) (V 0 8)
    · have e : stJ V ld J a b acc = acc := if_pos (Or.inr (Or.inr (Or.inl z3)))
      rw [e] at k1 ⊢
      rw [if_pos (by rw [nI_lti] <;> omega)]
      exact k1
    · have e : stJ V ld J a b acc = (gnI V (J a) (J b), some (a, b)) := if_neg (fun q => by
        rcases q with q | q | q | q
        · exact hz q
        · exact z2 q
        · exact z3 q
        · exact z4 q)
      rw [e] at k1 ⊢
      rw [if_neg (by rw [nI_lti] <;> omega)]
      exact k1
theorem cj_out {V : Vw} (hw : WF V) {σ : Sg} (ht : TC V σ) (hp : PC V σ) {ld J : Nat → Nat} (hld : ∀ s, s < V 0 8 → ld s ≤ 99) (hJ : JW V J) (hj : JC V ld J σ) (K : Int32 → Int32 → Int32 → Option (Int32 × Sg)) : ∀ m a n acc, a + m = V 0 8 → m < n → LX6_mergeBest_9 σ K n acc.1 (oC1 J acc.2) (oC2 J acc.2) (nI (rkJ J a)) = K (outJ V ld J m a acc).1 (oC1 J (outJ V ld J m a acc).2) (oC2 J (outJ V ld J m a acc).2) := by
  have s6 := hw.s6
  intro m
  induction m with
  | zero =>
    intro a n acc ha hn
    obtain ⟨n, rfl⟩ : ∃ q, n = q + 1 := ⟨n - 1, by omega⟩
    have ha : a = V 0 8 := by omega
    subst ha
    have r1 := rk_le J (V 0 8)
    rw [LX6_mergeBest_9, hj.1, if_pos (by rw [nI_lei] <;> omega)]
    rfl
  | succ m ih =>
    intro a n acc ha hn
    show _ = K (outJ V ld J m (a + 1) (inJ V ld J a m (a + 1) acc)).1 (oC1 J (outJ V ld J m (a + 1) (inJ V ld J a m (a + 1) acc)).2) (oC2 J (outJ V ld J m (a + 1) (inJ V ld J a m (a + 1) acc)).2)
    by_cases z : J a = 0
    · have k1 := ih (a + 1) n acc (by omega) (by omega)
      rw [rk_s, if_pos z, Nat.add_zero] at k1
      rw [inJ_z z]
      exact k1
    obtain ⟨n, rfl⟩ : ∃ q, n = q + 1 := ⟨n - 1, by omega⟩
    have r1 := rk_le J (V 0 8)
    have r2 := rk_lt (J := J) (a := a) (b := V 0 8) (by omega) z
    have k1 := ih (a + 1) n (inJ V ld J a m (a + 1) acc) (by omega) (by omega)
    have er : rkJ J (a + 1) = rkJ J a + 1 := by rw [rk_s, if_neg z]
    rw [LX6_mergeBest_9, hj.1, if_neg (by rw [nI_lei] <;> omega), lt_def, lt_def, nI_1, ← er]
    refine Eq.trans (cj_in hw ht hp hld hJ hj (a := a) (by omega) z _ m (a + 1) FUEL acc (by omega) (by omega) (by unfold FUEL; omega)) ?_
    rw [lt_def]
    exact k1
theorem rm_loop : ∀ m i n σ c, i + m = c → m < n → c < 6 → σ 35 0 = nI c → ∃ τ, LX6_removeRound_12 n (nI i) σ = some τ ∧ (∀ j, (j < i ∨ c ≤ j) → τ 36 j = σ 36 j ∧ τ 37 j = σ 37 j) ∧ (∀ j, i ≤ j → j < c → τ 36 j = σ 36 (j + 1) ∧ τ 37 j = σ 37 (j + 1)) ∧ fr [(36, none), (37, none)] σ τ := by
  intro m
  induction m with
  | zero =>
    intro i n σ c hi hn hc h0
    obtain ⟨n, rfl⟩ : ∃ q, n = q + 1 := ⟨n - 1, by omega⟩
    refine ⟨σ, ?_, fun j _ => ⟨rfl, rfl⟩, fun j h1 h2 => absurd h2 (by omega), fr.rf⟩
    rw [LX6_removeRound_12, h0, if_pos (by rw [nI_lei] <;> omega)]
  | succ m ih =>
    intro i n σ c hi hn hc h0
    obtain ⟨n, rfl⟩ : ∃ q, n = q + 1 := ⟨n - 1, by omega⟩
    obtain ⟨σ1, hσ1⟩ : ∃ σ1, σ1 = up (up σ 36 i (σ 36 (i + 1))) 37 i (σ 37 (i + 1)) := ⟨_, rfl⟩
    have f1 : fr [(36, none), (37, none)] σ σ1 := by
      rw [hσ1]
      exact fr.tr (fr_up.mono (by simp)) (fr_up.mono (by simp))
    have e36 : ∀ j, σ1 36 j = if j = i then σ 36 (i + 1) else σ 36 j := fun j => by
      rw [hσ1, up_cell (by omega), up_at]
      by_cases q : j = i <;> simp [q]
    have e37 : ∀ j, σ1 37 j = if j = i then σ 37 (i + 1) else σ 37 j := fun j => by
      rw [hσ1, up_at]
      by_cases q : j = i
      · simp [q]
      · rw [if_neg (fun z => q z.2), if_neg q, up_cell (by omega)]
    obtain ⟨τ, k1, k2, k3, k4⟩ := ih (i + 1) n σ1 c (by omega) (by omega) hc (by rw [f1.cell (k := 35) rfl]; exact h0)
    refine ⟨τ, ?_, fun j hj => ?_, fun j h1 h2 => ?_, f1.tr k4⟩
    · rw [LX6_removeRound_12, h0, if_neg (by rw [nI_lei] <;> omega), nI_1, if_pos ((ib_nI (by omega)).mpr (by omega)), if_pos ((ib_nI (by omega)).mpr (by omega)), nI_cl (by omega), nI_cl (by omega), lt_def, up_cell (show 37 ≠ 36 by omega), lt_def, lt_def, ← hσ1]
      exact k1
    · have := k2 j (by omega)
      rw [e36, e37, if_neg (by omega), if_neg (by omega)] at this
      exact this
    · by_cases q : j = i
      · have := k2 j (by omega)
        rw [e36, e37, if_pos q, if_pos q] at this
        rw [q] at this ⊢
        exact this
      · have := k3 j (by omega) h2
        rw [e36, e37, if_neg (by omega), if_neg (by omega)] at this
        exact this
theorem c_mergeBest {V : Vw} (hw : WF V) {σ : Sg} (ht : TC V σ) (hp : PC V σ) {ld J : Nat → Nat} (hld : ∀ s, s < V 0 8 → ld s ≤ 99) (hJ : JW V J) (hj : JC V ld J σ) : ((bsJ V ld J).2 = none → XX6_mergeBest σ = some (0, σ)) ∧ (∀ o t, (bsJ V ld J).2 = some (o, t) → ∃ τ, XX6_mergeBest σ = some (1, τ) ∧ JC V ld (mrJ J o t) τ ∧ fr [(35, some 0), (36, none), (37, none)] σ τ) := by
  have s6 := hw.s6
  have P := bsJ_P (V := V) (ld := ld) (J := J)
  refine ⟨fun e => ?_, fun o t e => ?_⟩
  · unfold XX6_mergeBest
    rw [lt_def]
    refine Eq.trans (cj_out hw ht hp hld hJ hj _ (V 0 8) 0 FUEL (0, none) (by omega) (by unfold FUEL; omega)) ?_
    have e' : (outJ V ld J (V 0 8) 0 (0, none)).1 = 0 := P.1 e
    rw [e']
    rfl
  · have P := P.2 o t e
    have e' : (outJ V ld J (V 0 8) 0 (0, none)).2 = some (o, t) := e
    have r0 := rk_le J (V 0 8)
    have r1 := rk_lt (J := J) (a := t) (b := V 0 8) P.2.2.1 P.2.2.2.2
    have r2 := rk_lt (J := J) (a := o) (b := t) P.2.1 P.2.2.2.1
    obtain ⟨o1, o2⟩ := hj.2 o (by omega) P.2.2.2.1
    obtain ⟨t1, t2⟩ := hj.2 t (by omega) P.2.2.2.2
    have e1 : ¬ (outJ V ld J (V 0 8) 0 (0, none)).1 ≤ 0 := lt_irr P.1
    obtain ⟨σ1, hσ1⟩ : ∃ σ1, σ1 = up (up σ 36 (rkJ J o) (nI (J o ||| J t))) 37 (rkJ J o) (nI (ldS ld (J o ||| J t) (V 0 8))) := ⟨_, rfl⟩
    have f1 : fr [(36, none), (37, none)] σ σ1 := by
      rw [hσ1]
      exact fr.tr (fr_up.mono (by simp)) (fr_up.mono (by simp))
    have e36 : ∀ j, σ1 36 j = if j = rkJ J o then nI (J o ||| J t) else σ 36 j := fun j => by
      rw [hσ1, up_cell (by omega), up_at]
      by_cases q : j = rkJ J o <;> simp [q]
    have e37 : ∀ j, σ1 37 j = if j = rkJ J o then nI (ldS ld (J o ||| J t) (V 0 8)) else σ 37 j := fun j => by
      rw [hσ1, up_at]
      by_cases q : j = rkJ J o
      · simp [q]
      · rw [if_neg (fun z => q z.2), if_neg q, up_cell (by omega)]
    have f2 : fr [(35, some 0)] σ1 (up σ1 35 0 (nI (rkJ J (V 0 8) - 1))) := fr_upf
    obtain ⟨τ, k1, k2, k3, k4⟩ := rm_loop (rkJ J (V 0 8) - 1 - rkJ J t) (rkJ J t) FUEL (up σ1 35 0 (nI (rkJ J (V 0 8) - 1))) (rkJ J (V 0 8) - 1) (by omega) (by unfold FUEL; omega) (by omega) up_same
    have h35 : σ1 35 0 = nI (rkJ J (V 0 8)) := by rw [f1.cell (k := 35) rfl]; exact hj.1
    have rr : XX6_removeRound (nI (rkJ J t)) σ1 = some τ := by
      unfold XX6_removeRound
      rw [lt_def, h35, show nI (rkJ J (V 0 8)) - 1 = nI (rkJ J (V 0 8) - 1) from pk_sub (b := 1) (by omega)]
      exact k1
    have c36 : ∀ j, up σ1 35 0 (nI (rkJ J (V 0 8) - 1)) 36 j = σ1 36 j := fun j => by rw [up_cell (by omega)]
    have c37 : ∀ j, up σ1 35 0 (nI (rkJ J (V 0 8) - 1)) 37 j = σ1 37 j := fun j => by rw [up_cell (by omega)]
    refine ⟨τ, ?_, ⟨?_, fun a ha hz => ?_⟩, ?_⟩
    · unfold XX6_mergeBest
      rw [lt_def]
      refine Eq.trans (cj_out hw ht hp hld hJ hj _ (V 0 8) 0 FUEL (0, none) (by omega) (by unfold FUEL; omega)) ?_
      rw [e', lt_def, if_neg e1, show oC1 J (some (o, t)) = nI (rkJ J o) from rfl, show oC2 J (some (o, t)) = nI (rkJ J t) from rfl, if_pos ((ib_nI (by omega)).mpr (by omega)), if_pos ((ib_nI (by omega)).mpr (by omega)), nI_cl (by omega), nI_cl (by omega), lt_def, up_cell (show 37 ≠ 36 by omega), lt_def, o1, t1, o2, t2, nx_or, nI_add, ← ldS_or (hJ.2.2 o t (by omega)), ← hσ1, rr]
      simp only [b1]
      rw [if_neg e1]
    · rw [k4.cell (k := 35) rfl, up_same, rk_mr P.2.1 P.2.2.2.1 P.2.2.2.2, if_neg (by omega)]
    · have em : mrJ J o t a = if a = o then J o ||| J t else if a = t then 0 else J a := rfl
      rw [rk_mr P.2.1 P.2.2.2.1 P.2.2.2.2]
      by_cases a1 : a = o
      · rw [em, if_pos a1, if_pos (by omega), a1]
        have := k2 (rkJ J o) (by omega)
        rw [c36, c37, e36, e37, if_pos rfl, if_pos rfl] at this
        exact this
      · rw [em, if_neg a1] at hz ⊢
        by_cases a2 : a = t
        · rw [if_pos a2] at hz
          exact absurd rfl hz
        rw [if_neg a2] at hz ⊢
        obtain ⟨h1, h2⟩ := hj.2 a ha hz
        have ne : rkJ J a ≠ rkJ J o := by
          rcases Nat.lt_or_gt_of_ne a1 with q | q
          · have := rk_lt (J := J) q hz
            omega
          · have := rk_lt (J := J) q P.2.2.2.1
            omega
        by_cases q : a < t
        · have r3 := rk_lt (J := J) q hz
          rw [if_pos (by omega)]
          have := k2 (rkJ J a) (by omega)
          rw [c36, c37, e36, e37, if_neg ne, if_neg ne, h1, h2] at this
          exact this
        · have r3 := rk_lt (J := J) (a := t) (b := a) (by omega) P.2.2.2.2
          have r4 := rk_lt (J := J) (a := a) (b := V 0 8) ha hz
          rw [if_neg (by omega)]
          have := k3 (rkJ J a - 1) (by omega) (by omega)
          rw [c36, c37, e36, e37, show rkJ J a - 1 + 1 = rkJ J a by omega, if_neg ne, if_neg ne, h1, h2] at this
          exact this
    · exact fr.tr (f1.mono (by simp)) (fr.tr (f2.mono (by simp)) (k4.mono (by simp)))
