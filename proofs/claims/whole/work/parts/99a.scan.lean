/-! TEXT: tokens of a tape -/
def cL (c : Nat) : Bool := decide (97 ≤ c ∧ c ≤ 122)
def cD (c : Nat) : Bool := decide (48 ≤ c ∧ c ≤ 57)
def cB (c : Nat) : Bool := decide (c = 32 ∨ c = 10)
/-- where a run of signs ends -/
def rE (p : Nat → Bool) (g : Nat → Nat) : Nat → Nat → Nat
  | 0, i => i
  | m + 1, i => if p (g i) = true then rE p g m (i + 1) else i
def en (p : Nat → Bool) (g : Nat → Nat) (L i : Nat) : Nat := rE p g (L - i) i
theorem en_end {p : Nat → Bool} {g : Nat → Nat} {L i : Nat} (h : L ≤ i) : en p g L i = i := by
  unfold en
  rw [show L - i = 0 by omega]
  rfl
theorem en_no {p : Nat → Bool} {g : Nat → Nat} {L i : Nat} (h : p (g i) = false) : en p g L i = i := by
  unfold en
  cases L - i with
  | zero => rfl
  | succ m =>
    show (if p (g i) = true then _ else i) = i
    rw [if_neg (by rw [h]; decide)]
theorem en_go {p : Nat → Bool} {g : Nat → Nat} {L i : Nat} (hi : i < L) (h : p (g i) = true) : en p g L i = en p g L (i + 1) := by
  unfold en
  rw [show L - i = L - (i + 1) + 1 by omega]
  show (if p (g i) = true then _ else i) = _
  rw [if_pos h]
theorem en_ge {p : Nat → Bool} {g : Nat → Nat} {L : Nat} : ∀ m i, L - i = m → i ≤ en p g L i
  | 0, i, h => by
    rw [en_end (by omega)]
    exact Nat.le_refl _
  | m + 1, i, h => by
    cases q : p (g i) with
    | false =>
      rw [en_no q]
      exact Nat.le_refl _
    | true =>
      rw [en_go (by omega) q]
      have := en_ge (p := p) (g := g) (L := L) m (i + 1) (by omega)
      omega
theorem en_le {p : Nat → Bool} {g : Nat → Nat} {L : Nat} : ∀ m i, L - i = m → i ≤ L → en p g L i ≤ L
  | 0, i, h, hi => by
    rw [en_end (by omega)]
    exact hi
  | m + 1, i, h, hi => by
    cases q : p (g i) with
    | false =>
      rw [en_no q]
      exact hi
    | true =>
      rw [en_go (by omega) q]
      exact en_le (p := p) (g := g) m (i + 1) (by omega) (by omega)
/-- what stands at the end of a run is none of it -/
theorem en_at {p : Nat → Bool} {g : Nat → Nat} {L : Nat} : ∀ m i, L - i = m → en p g L i < L → p (g (en p g L i)) = false
  | 0, i, h, he => by
    rw [en_end (by omega)] at he
    omega
  | m + 1, i, h, he => by
    cases q : p (g i) with
    | false =>
      rw [en_no q]
      exact q
    | true =>
      rw [en_go (by omega) q] at he ⊢
      exact en_at m (i + 1) (by omega) he
/-- the code of a word, the value of a number -/
def wc (g : Nat → Nat) (i : Nat) : Nat → Nat
  | 0 => 0
  | m + 1 => wc g i m * 32 + (g (i + m) - 96)
def nv (g : Nat → Nat) (i : Nat) : Nat → Nat
  | 0 => 0
  | m + 1 => nv g i m * 10 + (g (i + m) - 48)
theorem wc_lt {g : Nat → Nat} {i : Nat} : ∀ m, (∀ t, t < m → cL (g (i + t)) = true) → wc g i m < 32 ^ m
  | 0, _ => by
    show 0 < 32 ^ 0
    decide
  | m + 1, h => by
    have h1 := wc_lt (g := g) (i := i) m (fun t ht => h t (by omega))
    have h2 : 97 ≤ g (i + m) ∧ g (i + m) ≤ 122 := of_decide_eq_true (h m (by omega))
    show wc g i m * 32 + (g (i + m) - 96) < 32 ^ (m + 1)
    rw [Nat.pow_succ]
    omega
theorem nv_lt {g : Nat → Nat} {i : Nat} : ∀ m, (∀ t, t < m → cD (g (i + t)) = true) → nv g i m < 10 ^ m
  | 0, _ => by
    show 0 < 10 ^ 0
    decide
  | m + 1, h => by
    have h1 := nv_lt (g := g) (i := i) m (fun t ht => h t (by omega))
    have h2 : 48 ≤ g (i + m) ∧ g (i + m) ≤ 57 := of_decide_eq_true (h m (by omega))
    show nv g i m * 10 + (g (i + m) - 48) < 10 ^ (m + 1)
    rw [Nat.pow_succ]
    omega
theorem c_isL {c : Nat} (hc : c < 256) : XX4_isLetter (nI c) = some (nI (bq (cL c))) := by
  unfold XX4_isLetter cL
  rw [lt_def, show (97 : Int32) = nI 97 from rfl, show (122 : Int32) = nI 122 from rfl]
  by_cases q : c < 97
  · rw [if_pos ((nI_lti (by omega) (by omega)).mpr q), decide_eq_false (by omega)]
    rfl
  rw [if_neg (fun z => q ((nI_lti (by omega) (by omega)).mp z))]
  by_cases r : 122 < c
  · rw [if_pos ((nI_lti (by omega) (by omega)).mpr r), decide_eq_false (by omega)]
    rfl
  rw [if_neg (fun z => r ((nI_lti (by omega) (by omega)).mp z)), decide_eq_true (by omega)]
  rfl
theorem c_isD {c : Nat} (hc : c < 256) : XX4_isDigit (nI c) = some (nI (bq (cD c))) := by
  unfold XX4_isDigit cD
  rw [lt_def, show (48 : Int32) = nI 48 from rfl, show (57 : Int32) = nI 57 from rfl]
  by_cases q : c < 48
  · rw [if_pos ((nI_lti (by omega) (by omega)).mpr q), decide_eq_false (by omega)]
    rfl
  rw [if_neg (fun z => q ((nI_lti (by omega) (by omega)).mp z))]
  by_cases r : 57 < c
  · rw [if_pos ((nI_lti (by omega) (by omega)).mpr r), decide_eq_false (by omega)]
    rfl
  rw [if_neg (fun z => r ((nI_lti (by omega) (by omega)).mp z)), decide_eq_true (by omega)]
  rfl
theorem m_isL {c : Nat} (hc : c < 256) : XX10_isSmall (nI c) = some (nI (bq (cL c))) := c_isL hc
theorem m_isD {c : Nat} (hc : c < 256) : XX10_isDigit (nI c) = some (nI (bq (cD c))) := c_isD hc
theorem m_isL1 : XX10_isSmall (-1 : Int32) = some (nI 0) := by
  unfold XX10_isSmall
  rw [lt_def, if_pos (by decide)]
  rfl
theorem m_isD1 : XX10_isDigit (-1 : Int32) = some (nI 0) := by
  unfold XX10_isDigit
  rw [lt_def, if_pos (by decide)]
  rfl
/-- a tape in a cell -/
def TP (g : Nat → Nat) (L a : Nat) (σ : Sg) : Prop := L ≤ 800 ∧ (∀ i, i < L → g i < 256) ∧ (∀ i, i < L → σ a i = nI (g i))
theorem m_byte {g : Nat → Nat} {L i : Nat} {σ : Sg} (h : TP g L 76 σ) (h15 : σ 64 15 = nI L) (hi : i ≤ 800) : XX10_byteAt (nI i) σ = some (if L ≤ i then -1 else nI (g i)) := by
  have hL := h.1
  unfold XX10_byteAt
  rw [h15]
  by_cases q : L ≤ i
  · rw [if_pos ((nI_lei (by omega) (by omega)).mpr q), if_pos q]
  · rw [if_neg (fun z => q ((nI_lei (by omega) (by omega)).mp z)), if_pos ((ib_nI (by omega)).mpr (by omega)), nI_cl (by omega), h.2.2 i (by omega), if_neg q]
theorem nI_sb {a c : Nat} (h : a ≤ c) : nI c - nI a = nI (c - a) := by
  have : nI c = nI (c - a) + nI a := by rw [nI_add, show c - a + a = c by omega]
  rw [this, Int32.add_sub_cancel]
theorem wl_ok {a c : Nat} (ha : a < 33554432) (h1 : 97 ≤ c) (h2 : c ≤ 122) : XX4_withLetter (nI a) (nI c) = some (nI (a * 32 + (c - 96))) := by
  unfold XX4_withLetter
  have e1 : nI c - (97 : Int32) + 1 = nI (c - 96) := by
    rw [show (97 : Int32) = nI 97 from rfl, nI_sb (by omega), show (1 : Int32) = nI 1 from rfl, nI_add, show c - 97 + 1 = c - 96 by omega]
  have e2 : nI a <<< ((5 : Int32) &&& 31) = nI (a * 32) := by
    have := nx_shl (n := a) (k := 5) (by omega) (by rw [Nat.shiftLeft_eq]; omega)
    rw [Nat.shiftLeft_eq] at this
    exact this
  have e3 : a * 32 ||| (c - 96) = a * 32 + (c - 96) := by
    have := Nat.two_pow_add_eq_or_of_lt (i := 5) (b := c - 96) (by omega) a
    rw [show 2 ^ 5 * a = a * 32 by omega] at this
    exact this.symm
  rw [e1, e2, nx_or, e3]
/-- the class's runs -/
theorem c_wrun {g : Nat → Nat} {L : Nat} {σ : Sg} (h : TP g L 1 σ) (i : Nat) (K : Int32 → Int32 → Option (Int32 × Sg)) : ∀ m j n v, L - j = m → j ≤ L → m < n → i ≤ j → (j - i ≤ 6 → v = nI (wc g i (j - i))) → (∀ t, t < j - i → cL (g (i + t)) = true) → ∃ w, LX4_scanWord_6 (nI L) σ K n (nI j) v = K (nI (en cL g L j)) w ∧ (en cL g L j - i ≤ 6 → w = nI (wc g i (en cL g L j - i))) := by
  have hL := h.1
  intro m
  induction m with
  | zero =>
    intro j n v hm hj hn hi hv hc
    obtain ⟨n, rfl⟩ : ∃ q, n = q + 1 := ⟨n - 1, by omega⟩
    refine ⟨v, ?_, ?_⟩
    · rw [LX4_scanWord_6, if_pos ((nI_lei (by omega) (by omega)).mpr (by omega)), en_end (by omega)]
    · rw [en_end (by omega)]
      exact hv
  | succ m ih =>
    intro j n v hm hj hn hi hv hc
    obtain ⟨n, rfl⟩ : ∃ q, n = q + 1 := ⟨n - 1, by omega⟩
    cases q : cL (g j) with
    | false =>
      refine ⟨v, ?_, ?_⟩
      · rw [LX4_scanWord_6, if_neg (by rw [nI_lei] <;> omega), if_pos ((ib_nI (by omega)).mpr (by omega)), nI_cl (by omega), h.2.2 j (by omega), c_isL (h.2.1 j (by omega)), b1s, q, if_pos (show nI (bq false) = 0 by decide), en_no q]
      · rw [en_no q]
        exact hv
    | true =>
      have q2 : 97 ≤ g j ∧ g j ≤ 122 := of_decide_eq_true q
      have hc' : ∀ t, t < j + 1 - i → cL (g (i + t)) = true := fun t ht => by
        by_cases z : t = j - i
        · rw [z, show i + (j - i) = j by omega]
          exact q
        · exact hc t (by omega)
      obtain ⟨v', hv'⟩ : ∃ v', XX4_withLetter v (nI (g j)) = some v' := ⟨_, rfl⟩
      obtain ⟨w, k1, k2⟩ := ih (j + 1) n v' (by omega) (by omega) (by omega) (by omega) (fun z => by
        have hv1 := hv (by omega)
        have wl := wc_lt (g := g) (i := i) (j - i) (fun t ht => hc t ht)
        have wp : 32 ^ (j - i) ≤ 32 ^ 5 := Nat.pow_le_pow_right (by omega) (by omega)
        rw [hv1, wl_ok (Nat.lt_of_lt_of_le wl wp) q2.1 q2.2] at hv'
        have hv2 := Option.some.inj hv'
        rw [← hv2, show j + 1 - i = j - i + 1 by omega]
        show _ = nI (wc g i (j - i) * 32 + (g (i + (j - i)) - 96))
        rw [show i + (j - i) = j by omega]) hc'
      refine ⟨w, ?_, ?_⟩
      · rw [LX4_scanWord_6, if_neg (by rw [nI_lei] <;> omega), if_pos ((ib_nI (by omega)).mpr (by omega)), nI_cl (by omega), h.2.2 j (by omega), c_isL (h.2.1 j (by omega)), b1s, q, if_neg (show ¬ nI (bq true) = 0 by decide), hv', b1s, lt_def, nI_1, en_go (by omega) q]
        exact k1
      · rw [en_go (by omega) q]
        exact k2
theorem c_nrun {g : Nat → Nat} {L : Nat} {σ : Sg} (h : TP g L 1 σ) (i : Nat) (K : Int32 → Int32 → Option (Int32 × Sg)) : ∀ m j n v, L - j = m → j ≤ L → m < n → i ≤ j → (j - i ≤ 2 → v = nI (nv g i (j - i))) → (∀ t, t < j - i → cD (g (i + t)) = true) → ∃ w, LX4_scanNumber_6 (nI L) σ K n (nI j) v = K (nI (en cD g L j)) w ∧ (en cD g L j - i ≤ 2 → w = nI (nv g i (en cD g L j - i))) := by
  have hL := h.1
  intro m
  induction m with
  | zero =>
    intro j n v hm hj hn hi hv hc
    obtain ⟨n, rfl⟩ : ∃ q, n = q + 1 := ⟨n - 1, by omega⟩
    refine ⟨v, ?_, ?_⟩
    · rw [LX4_scanNumber_6, if_pos ((nI_lei (by omega) (by omega)).mpr (by omega)), en_end (by omega)]
    · rw [en_end (by omega)]
      exact hv
  | succ m ih =>
    intro j n v hm hj hn hi hv hc
    obtain ⟨n, rfl⟩ : ∃ q, n = q + 1 := ⟨n - 1, by omega⟩
    cases q : cD (g j) with
    | false =>
      refine ⟨v, ?_, ?_⟩
      · rw [LX4_scanNumber_6, if_neg (by rw [nI_lei] <;> omega), if_pos ((ib_nI (by omega)).mpr (by omega)), nI_cl (by omega), h.2.2 j (by omega), c_isD (h.2.1 j (by omega)), b1s, q, if_pos (show nI (bq false) = 0 by decide), en_no q]
      · rw [en_no q]
        exact hv
    | true =>
      have q2 : 48 ≤ g j ∧ g j ≤ 57 := of_decide_eq_true q
      have hc' : ∀ t, t < j + 1 - i → cD (g (i + t)) = true := fun t ht => by
        by_cases z : t = j - i
        · rw [z, show i + (j - i) = j by omega]
          exact q
        · exact hc t (by omega)
      obtain ⟨w, k1, k2⟩ := ih (j + 1) n (v * (10 : Int32) + nI (g j) - (48 : Int32)) (by omega) (by omega) (by omega) (by omega) (fun z => by
        have hv1 := hv (by omega)
        rw [hv1, show (10 : Int32) = nI 10 from rfl, show (48 : Int32) = nI 48 from rfl, pk_mul, nI_add, nI_sb (by omega), show j + 1 - i = j - i + 1 by omega]
        show _ = nI (nv g i (j - i) * 10 + (g (i + (j - i)) - 48))
        rw [show i + (j - i) = j by omega, show nv g i (j - i) * 10 + g j - 48 = nv g i (j - i) * 10 + (g j - 48) by omega]) hc'
      refine ⟨w, ?_, ?_⟩
      · rw [LX4_scanNumber_6, if_neg (by rw [nI_lei] <;> omega), if_pos ((ib_nI (by omega)).mpr (by omega)), nI_cl (by omega), h.2.2 j (by omega), c_isD (h.2.1 j (by omega)), b1s, q, if_neg (show ¬ nI (bq true) = 0 by decide), lt_def, lt_def, nI_1, en_go (by omega) q]
        exact k1
      · rw [en_go (by omega) q]
        exact k2
theorem c_brun {g : Nat → Nat} {L : Nat} {σ : Sg} (h : TP g L 1 σ) (K : Int32 → Option Sg) : ∀ m j n, L - j = m → j ≤ L → m < n → LX4_scanAll_18 (nI L) σ K n (nI j) = K (nI (en cB g L j)) := by
  have hL := h.1
  intro m
  induction m with
  | zero =>
    intro j n hm hj hn
    obtain ⟨n, rfl⟩ : ∃ q, n = q + 1 := ⟨n - 1, by omega⟩
    rw [LX4_scanAll_18, if_pos ((nI_lei (by omega) (by omega)).mpr (by omega)), en_end (by omega)]
  | succ m ih =>
    intro j n hm hj hn
    obtain ⟨n, rfl⟩ : ∃ q, n = q + 1 := ⟨n - 1, by omega⟩
    have k1 := ih (j + 1) n (by omega) (by omega) (by omega)
    have hg := h.2.1 j (by omega)
    rw [LX4_scanAll_18, if_neg (by rw [nI_lei] <;> omega), if_pos ((ib_nI (by omega)).mpr (by omega)), lt_def, lt_def, nI_cl (by omega), h.2.2 j (by omega), nI_1, k1, show (32 : Int32) = nI 32 from rfl, show (10 : Int32) = nI 10 from rfl]
    by_cases q1 : g j = 32
    · rw [q1, if_pos rfl, en_go (by omega) (show cB (g j) = true by rw [q1]; rfl)]
    rw [if_neg (nI_ne (b := 32) (by omega) (by omega) q1)]
    by_cases q2 : g j = 10
    · rw [q2, if_pos rfl, en_go (by omega) (show cB (g j) = true by rw [q2]; rfl)]
    rw [if_neg (nI_ne (b := 10) (by omega) (by omega) q2), en_no (show cB (g j) = false from decide_eq_false (by omega))]
