/-! ACTS: least -/
/-- bits turned round -/
def rv : Nat → Nat → Nat
  | 0, _ => 0
  | c + 1, i => i % 2 * 2 ^ c + rv c (i / 2)
theorem rv_lt : ∀ c i, rv c i < 2 ^ c
  | 0, _ => Nat.one_pos
  | c + 1, i => by
    show i % 2 * 2 ^ c + rv c (i / 2) < 2 ^ (c + 1)
    have h1 := rv_lt c (i / 2)
    have h2 : i % 2 * 2 ^ c ≤ 1 * 2 ^ c := Nat.mul_le_mul_right _ (by omega)
    rw [Nat.pow_succ]
    omega
theorem rv_sur : ∀ c q, q < 2 ^ c → ∃ i, i < 2 ^ c ∧ rv c i = q
  | 0, q, h => ⟨0, Nat.one_pos, by
      have : q = 0 := by
        have h' : q < 1 := h
        omega
      rw [this]
      rfl⟩
  | c + 1, q, h => by
    have pc := Nat.two_pow_pos c
    rw [Nat.pow_succ] at h
    have hd := Nat.div_add_mod q (2 ^ c)
    have hm := Nat.mod_lt q pc
    have ht : q / 2 ^ c < 2 := (Nat.div_lt_iff_lt_mul pc).mpr (by omega)
    obtain ⟨i, h1, h2⟩ := rv_sur c (q % 2 ^ c) hm
    obtain ⟨T, hT⟩ : ∃ T, T = q / 2 ^ c := ⟨_, rfl⟩
    rw [← hT] at hd ht
    refine ⟨2 * i + T, ?_, ?_⟩
    · rw [Nat.pow_succ]
      omega
    · show (2 * i + T) % 2 * 2 ^ c + rv c ((2 * i + T) / 2) = q
      rw [show (2 * i + T) % 2 = T by omega, show (2 * i + T) / 2 = i by omega, h2, Nat.mul_comm]
      exact hd
def nxJ : Nat → Nat → Nat
  | 0, y => y
  | j + 1, y => if (y ^^^ 2 ^ j).testBit j = true then y ^^^ 2 ^ j else nxJ j (y ^^^ 2 ^ j)
theorem xor_up {H L j : Nat} (hL : L < 2 ^ j) : (2 ^ (j + 1) * H + L) ^^^ 2 ^ j = 2 ^ (j + 1) * H + (2 ^ j + L) ∧ (2 ^ (j + 1) * H + (2 ^ j + L)).testBit j = true ∧ (2 ^ (j + 1) * H + L).testBit j = false := by
  have hL1 : L < 2 ^ (j + 1) := by
    rw [Nat.pow_succ]
    omega
  have hL2 : 2 ^ j + L < 2 ^ (j + 1) := by
    rw [Nat.pow_succ]
    omega
  have t2 : ∀ k, (2 ^ j + L).testBit k = if k < j then L.testBit k else (1 : Nat).testBit (k - j) := fun k => by
    have := Nat.testBit_two_pow_mul_add 1 hL k
    rw [Nat.mul_one] at this
    exact this
  have lj : L.testBit j = false := Nat.testBit_lt_two_pow hL
  refine ⟨?_, ?_, ?_⟩
  · apply Nat.eq_of_testBit_eq
    intro k
    rw [Nat.testBit_xor, Nat.testBit_two_pow, Nat.testBit_two_pow_mul_add _ hL1, Nat.testBit_two_pow_mul_add _ hL2, t2]
    rcases Nat.lt_trichotomy k j with q | q | q
    · rw [if_pos (by omega), if_pos (by omega), if_pos q, decide_eq_false (show ¬ j = k by omega), Bool.xor_false]
    · subst q
      rw [if_pos (by omega), if_pos (by omega), if_neg (by omega), lj, Nat.sub_self]
      simp
    · rw [if_neg (by omega), if_neg (by omega), decide_eq_false (show ¬ j = k by omega), Bool.xor_false]
  · rw [Nat.testBit_two_pow_mul_add _ hL2, if_pos (by omega), t2, if_neg (by omega), Nat.sub_self]
    rfl
  · rw [Nat.testBit_two_pow_mul_add _ hL1, if_pos (by omega)]
    exact lj
theorem nxJ_rv : ∀ j H i, i + 1 < 2 ^ j → nxJ j (2 ^ j * H + rv j i) = 2 ^ j * H + rv j (i + 1)
  | 0, H, i, h => by
    have h' : i + 1 < 1 := h
    omega
  | j + 1, H, i, h => by
    have hL := rv_lt j (i / 2)
    obtain ⟨x1, x2, x3⟩ := xor_up (H := H) hL
    have e1 : rv (j + 1) i = i % 2 * 2 ^ j + rv j (i / 2) := rfl
    have e2 : rv (j + 1) (i + 1) = (i + 1) % 2 * 2 ^ j + rv j ((i + 1) / 2) := rfl
    rw [Nat.pow_succ] at h
    have en : ∀ y, nxJ (j + 1) y = if (y ^^^ 2 ^ j).testBit j = true then y ^^^ 2 ^ j else nxJ j (y ^^^ 2 ^ j) := fun y => rfl
    by_cases q : i % 2 = 0
    · rw [e1, e2, q, show (i + 1) % 2 = 1 by omega, show (i + 1) / 2 = i / 2 by omega, Nat.zero_mul, Nat.zero_add, Nat.one_mul, en, x1, if_pos x2]
    · have x4 : (2 ^ (j + 1) * H + (2 ^ j + rv j (i / 2))) ^^^ 2 ^ j = 2 ^ (j + 1) * H + rv j (i / 2) := by
        rw [← x1, Nat.xor_assoc, Nat.xor_self, Nat.xor_zero]
      have ih := nxJ_rv j (2 * H) (i / 2) (by omega)
      have eh : 2 ^ j * (2 * H) = 2 ^ (j + 1) * H := by rw [Nat.pow_succ, Nat.mul_assoc]
      rw [eh] at ih
      rw [e1, e2, show i % 2 = 1 by omega, show (i + 1) % 2 = 0 by omega, show (i + 1) / 2 = i / 2 + 1 by omega, Nat.zero_mul, Nat.zero_add, Nat.one_mul, en, x4, if_neg (by rw [x3]; decide)]
      exact ih
theorem nxJ_lt : ∀ j y, j ≤ 14 → y < 2 ^ 14 → nxJ j y < 2 ^ 14
  | 0, _, _, h => h
  | j + 1, y, hj, h => by
    have hx : y ^^^ 2 ^ j < 2 ^ 14 := Nat.xor_lt_two_pow h (Nat.pow_lt_pow_right (by omega) (by omega))
    show (if (y ^^^ 2 ^ j).testBit j = true then y ^^^ 2 ^ j else nxJ j (y ^^^ 2 ^ j)) < 2 ^ 14
    split
    · exact hx
    · exact nxJ_lt j _ (by omega) hx
theorem and_pow0 (a j : Nat) : a &&& 2 ^ j = 0 ↔ a.testBit j = false := by
  constructor
  · intro h
    have := congrArg (fun n => n.testBit j) h
    simp only [Nat.testBit_and, Nat.testBit_two_pow_self, Bool.and_true, Nat.zero_testBit] at this
    exact this
  · intro h
    apply Nat.eq_of_testBit_eq
    intro k
    rw [Nat.testBit_and, Nat.testBit_two_pow, Nat.zero_testBit]
    by_cases q : j = k
    · rw [← q, h]
      rfl
    · simp [q]
theorem pb_loop : ∀ j y n, j ≤ 14 → y < 2 ^ 14 → j < n → LX3_planBehind_8 n (nI y) (nI (2 ^ j / 2)) = some (nI (nxJ j y)) := by
  intro j
  induction j with
  | zero =>
    intro y n hj hy hn
    obtain ⟨n, rfl⟩ : ∃ q, n = q + 1 := ⟨n - 1, by omega⟩
    rw [LX3_planBehind_8, if_pos (show nI (2 ^ 0 / 2) ≤ 0 by decide)]
    rfl
  | succ j ih =>
    intro y n hj hy hn
    obtain ⟨n, rfl⟩ : ∃ q, n = q + 1 := ⟨n - 1, by omega⟩
    have p1 := Nat.two_pow_pos j
    have p2 : 2 ^ j ≤ 2 ^ 14 := Nat.pow_le_pow_right (by omega) (by omega)
    have hx : y ^^^ 2 ^ j < 2 ^ 14 := Nat.xor_lt_two_pow hy (Nat.pow_lt_pow_right (by omega) (by omega))
    have e : 2 ^ (j + 1) / 2 = 2 ^ j := by
      rw [Nat.pow_succ]
      omega
    have sh : nI (2 ^ j) >>> ((1 : Int32) &&& 31) = nI (2 ^ j / 2) := by
      have : nI (2 ^ j) >>> (nI 1 &&& nI 31) = nI (2 ^ j >>> 1) := nx_shr (by omega) (by omega)
      rw [Nat.shiftRight_eq_div_pow, Nat.pow_one] at this
      exact this
    rw [e, LX3_planBehind_8, if_neg (nI_nle (by omega) (by omega)), lt_def, nx_xor, nx_and]
    show _ = some (nI (if (y ^^^ 2 ^ j).testBit j = true then y ^^^ 2 ^ j else nxJ j (y ^^^ 2 ^ j)))
    have al : (y ^^^ 2 ^ j) &&& 2 ^ j ≤ 2 ^ j := Nat.and_le_right
    by_cases q : (y ^^^ 2 ^ j).testBit j = true
    · have : ¬ (y ^^^ 2 ^ j) &&& 2 ^ j = 0 := fun z => by
        have := (and_pow0 _ _).mp z
        rw [q] at this
        cases this
      rw [if_pos q, if_neg (nI_n0 this (by omega))]
    · have z : (y ^^^ 2 ^ j) &&& 2 ^ j = 0 := (and_pow0 _ _).mpr (by simpa using q)
      rw [if_neg q, z, if_pos (show nI 0 = 0 from rfl), sh, lt_def]
      exact ih (y ^^^ 2 ^ j) n (by omega) hx (by omega)
theorem c_planBehind {c y : Nat} (hc : c ≤ 14) (hy : y < 2 ^ 14) : XX3_planBehind (nI y) (nI c) = some (nI (nxJ c y)) := by
  have p2 : 2 ^ c ≤ 2 ^ 14 := Nat.pow_le_pow_right (by omega) hc
  have sh1 : (1 : Int32) <<< (nI c &&& 31) = nI (2 ^ c) := nx_1shl (by omega)
  have sh : nI (2 ^ c) >>> ((1 : Int32) &&& 31) = nI (2 ^ c / 2) := by
    have : nI (2 ^ c) >>> (nI 1 &&& nI 31) = nI (2 ^ c >>> 1) := nx_shr (by omega) (by omega)
    rw [Nat.shiftRight_eq_div_pow, Nat.pow_one] at this
    exact this
  unfold XX3_planBehind
  rw [sh1, sh, lt_def]
  exact pb_loop c y FUEL hc hy (by unfold FUEL; omega)
/-- a number's plan -/
def plF (V : Vw) (p : Nat) : FN := fun s => if s < V 0 8 then (p >>> (V 0 0 * s)) &&& (2 ^ V 0 0 - 1) else 0
theorem plF_ok (V : Vw) (p : Nat) : vOK V (plF V p) := by
  have p0 := Nat.two_pow_pos (V 0 0)
  refine ⟨fun s => ?_, fun s hs => if_neg (by omega)⟩
  unfold plF
  split
  · have : (p >>> (V 0 0 * s)) &&& (2 ^ V 0 0 - 1) ≤ 2 ^ V 0 0 - 1 := Nat.and_le_right
    omega
  · exact p0
theorem sm1 {D : Nat} (hD : D ≤ 14) : (1 : Int32) <<< (nI D &&& 31) - 1 = nI (2 ^ D - 1) := by
  have p0 := Nat.two_pow_pos D
  rw [show (1 : Int32) <<< (nI D &&& 31) = nI (2 ^ D) from nx_1shl (by omega)]
  exact pk_sub (b := 1) p0
theorem c_setPlan {V : Vw} (hw : WF V) {p : Nat} (hp : p < 2147483648) : ∀ m s n σ h, s + m = V 0 8 → m < n → vOK V h → (∀ t, t < s → h t = plF V p t) → CI (vsV V h) σ → ∃ τ, LX3_setPlan_5 n (nI (p >>> (V 0 0 * s))) (nI s) σ = some τ ∧ CI (vsV V (plF V p)) τ := by
  have s6 := hw.s6
  have d14 := hw.d14
  intro m
  induction m with
  | zero =>
    intro s n σ h hs hn ok h1 hc
    obtain ⟨n, rfl⟩ : ∃ q, n = q + 1 := ⟨n - 1, by omega⟩
    have hs : s = V 0 8 := by omega
    subst hs
    have e26 : σ 2 6 = nI (V 0 8) := hc.1.2.2.2.2.2.2.1
    have eh : h = plF V p := by
      funext t
      by_cases q : t < V 0 8
      · exact h1 t q
      · rw [ok.2 t (by omega), (plF_ok V p).2 t (by omega)]
    rw [eh] at hc
    refine ⟨σ, ?_, hc⟩
    rw [LX3_setPlan_5, e26, if_pos (by rw [nI_lei] <;> omega)]
  | succ m ih =>
    intro s n σ h hs hn ok h1 hc
    obtain ⟨n, rfl⟩ : ∃ q, n = q + 1 := ⟨n - 1, by omega⟩
    have e26 : σ 2 6 = nI (V 0 8) := hc.1.2.2.2.2.2.2.1
    have e20 : σ 2 0 = nI (V 0 0) := hc.1.1
    have hs8 : s < V 0 8 := by omega
    have ep : plF V p s = (p >>> (V 0 0 * s)) &&& (2 ^ V 0 0 - 1) := if_pos hs8
    have hb := (plF_ok V p).1 s
    obtain ⟨σ1, a1, a2, a3⟩ := c_set1 hw ok hc hs8 hb
    obtain ⟨τ, k1, k2⟩ := ih (s + 1) n σ1 (updN h s (plF V p s)) (by omega) (by omega) (ok.upd hs8 hb) (fun t ht => by
      unfold updN
      by_cases q : t = s
      · rw [if_pos q, q]
      · rw [if_neg q]
        exact h1 t (by omega)) a2
    have e20' : σ1 2 0 = nI (V 0 0) := a2.1.1
    have pl : p >>> (V 0 0 * s) ≤ p := Nat.shiftRight_le p _
    refine ⟨τ, ?_, k2⟩
    rw [LX3_setPlan_5, e26, if_neg (by rw [nI_lei] <;> omega), e20, sm1 d14, nx_and, ← ep, a1, b1s, e20', ush_nI (by omega) (by omega), lt_def, lt_def, nI_1, ← Nat.shiftRight_add, show V 0 0 * s + V 0 0 = V 0 0 * (s + 1) by rw [Nat.mul_add, Nat.mul_one]]
    exact k1
theorem c_setPlan0 {V : Vw} (hw : WF V) {p : Nat} (hp : p < 2147483648) {f : FN} (hf : vOK V f) {σ : Sg} (hc : CI (vsV V f) σ) : ∃ τ, XX3_setPlan (nI p) σ = some τ ∧ CI (vsV V (plF V p)) τ := by
  have s6 := hw.s6
  have := c_setPlan hw hp (V 0 8) 0 FUEL σ f (by omega) (by unfold FUEL; omega) hf (fun t ht => absurd ht (by omega)) hc
  rw [Nat.mul_zero, Nat.shiftRight_zero] at this
  exact this
theorem m_plan {V : Vw} (hw : WF V) (hND : V 0 8 * V 0 0 ≤ 14) {p : Nat} (hp : p < 2147483648) : ∀ m s n σ h, s + m = V 0 8 → m < n → vOK V h → (∀ t, t < s → h t = plF V p t) → MS V h σ → ∃ τ, LX10_plan_2 (nI p) n (nI s) σ = some τ ∧ MS V (plF V p) τ := by
  have s6 := hw.s6
  have d14 := hw.d14
  intro m
  induction m with
  | zero =>
    intro s n σ h hs hn ok h1 hc
    obtain ⟨n, rfl⟩ : ∃ q, n = q + 1 := ⟨n - 1, by omega⟩
    have hs : s = V 0 8 := by omega
    subst hs
    have e8 : σ 65 8 = nI (V 0 8) := hc.1.1.1 8 (by omega)
    have eh : h = plF V p := by
      funext t
      by_cases q : t < V 0 8
      · exact h1 t q
      · rw [ok.2 t (by omega), (plF_ok V p).2 t (by omega)]
    rw [eh] at hc
    refine ⟨σ, ?_, hc⟩
    rw [LX10_plan_2]
    unfold XX10_shops
    rw [b1s, e8, if_pos (by rw [nI_lei] <;> omega)]
  | succ m ih =>
    intro s n σ h hs hn ok h1 hc
    obtain ⟨n, rfl⟩ : ∃ q, n = q + 1 := ⟨n - 1, by omega⟩
    have e8 : σ 65 8 = nI (V 0 8) := hc.1.1.1 8 (by omega)
    have e0 : σ 65 0 = nI (V 0 0) := hc.1.1.1 0 (by omega)
    have hs8 : s < V 0 8 := by omega
    have ds : V 0 0 * s ≤ V 0 8 * V 0 0 := by
      rw [Nat.mul_comm (V 0 8)]
      exact Nat.mul_le_mul_left _ (by omega)
    have ep : plF V p s = (p >>> (V 0 0 * s)) &&& (2 ^ V 0 0 - 1) := if_pos hs8
    have hb := (plF_ok V p).1 s
    have f1 : fr [(78, none)] σ (up σ 78 s (nI (plF V p s))) := fr_up
    obtain ⟨τ, k1, k2⟩ := ih (s + 1) n (up σ 78 s (nI (plF V p s))) (updN h s (plF V p s)) (by omega) (by omega) (ok.upd hs8 hb) (fun t ht => by
      unfold updN
      by_cases q : t = s
      · rw [if_pos q, q]
      · rw [if_neg q]
        exact h1 t (by omega)) ⟨m_set1 hc.1 (by omega), fun t e ht he => by rw [f1.cell (k := 79) rfl]; exact hc.2 t e ht he⟩
    have sr : nI p >>> (nI (V 0 0 * s) &&& 31) = nI (p >>> (V 0 0 * s)) := nx_shr hp (by omega)
    refine ⟨τ, ?_, k2⟩
    rw [LX10_plan_2]
    unfold XX10_shops XX10_days
    rw [b1s, e8, if_neg (by rw [nI_lei] <;> omega), b1s, b1s, e0, if_pos ((ib_nI (by omega)).mpr (by omega)), nI_cl (by omega), pk_mul, sr, sm1 d14, nx_and, ← ep, lt_def, lt_def, nI_1]
    exact k1
theorem m_plan0 {V : Vw} (hw : WF V) (hND : V 0 8 * V 0 0 ≤ 14) {p : Nat} (hp : p < 2147483648) {f : FN} (hf : vOK V f) {σ : Sg} (hc : MS V f σ) : ∃ τ, XX10_plan (nI p) σ = some τ ∧ MS V (plF V p) τ := by
  have s6 := hw.s6
  exact m_plan hw hND hp (V 0 8) 0 FUEL σ f (by omega) (by unfold FUEL; omega) hf (fun t ht => absurd ht (by omega)) hc
/-! which of two plans is better -/
def lk (C : Nat → Nat) (p q : Nat) : Prop := C p < C q ∨ (C p = C q ∧ (cntB p 14 < cntB q 14 ∨ (cntB p 14 = cntB q 14 ∧ p < q)))
theorem lk_tr {C : Nat → Nat} {p q r : Nat} (h1 : lk C p q) (h2 : lk C q r) : lk C p r := by
  unfold lk at h1 h2 ⊢
  omega
theorem lk_tot {C : Nat → Nat} {p q : Nat} (h : ¬ lk C p q) : p = q ∨ lk C q p := by
  unfold lk at h ⊢
  omega
theorem lk_as {C : Nat → Nat} {p q : Nat} (h1 : lk C p q) (h2 : lk C q p) : False := by
  unfold lk at h1 h2
  omega
/-- the best of some -/
def bst (C : Nat → Nat) (P : Nat → Prop) (b : Nat) : Prop := P b ∧ ∀ q, P q → q = b ∨ lk C b q
theorem bst_one {C : Nat → Nat} {P : Nat → Prop} {a b : Nat} (h1 : bst C P a) (h2 : bst C P b) : a = b := by
  rcases h1.2 b h2.1 with q | q
  · exact q.symm
  · rcases h2.2 a h1.1 with z | z
    · exact z
    · exact (lk_as q z).elim
theorem bst_new {C : Nat → Nat} {P : Nat → Prop} {a b : Nat} (h : bst C P b) (hl : lk C a b) : bst C (fun q => P q ∨ q = a) a := ⟨Or.inr rfl, fun q hq => by
  rcases hq with hq | hq
  · rcases h.2 q hq with z | z
    · exact Or.inr (by rw [z]; exact hl)
    · exact Or.inr (lk_tr hl z)
  · exact Or.inl hq⟩
theorem bst_old {C : Nat → Nat} {P : Nat → Prop} {a b : Nat} (h : bst C P b) (hl : ¬ lk C a b) : bst C (fun q => P q ∨ q = a) b := ⟨Or.inl h.1, fun q hq => by
  rcases hq with hq | hq
  · exact h.2 q hq
  · rcases lk_tot hl with z | z
    · exact Or.inl (by rw [hq, z])
    · exact Or.inr (by rw [hq]; exact z)⟩
theorem c_isFewer {p q : Nat} (hp : p < 16384) (hq : q < 16384) : XX3_isFewer (nI p) (nI q) = some (if cntB p 14 < cntB q 14 ∨ (cntB p 14 = cntB q 14 ∧ p < q) then 1 else 0) := by
  have c1 := cntB_le p 14
  have c2 := cntB_le q 14
  unfold XX3_isFewer
  rw [c_cnt hp, b1s, c_cnt hq, b1s, lt_def, lt_def]
  rcases Nat.lt_trichotomy (cntB p 14) (cntB q 14) with z | z | z
  · rw [if_pos (pk_sneg (by omega) z), if_pos (Or.inl z)]
  · rw [z, show nI (cntB q 14) - nI (cntB q 14) = 0 by rw [pk_sub (Nat.le_refl _), Nat.sub_self]; rfl, if_neg (show ¬ (0 : Int32) < 0 by decide), lt_def, if_pos rfl]
    by_cases y : p < q
    · rw [if_neg (by rw [nI_lei] <;> omega), if_pos (Or.inr ⟨rfl, y⟩)]
    · rw [if_pos (by rw [nI_lei] <;> omega), if_neg (fun w => by omega)]
  · rw [pk_sub (by omega), if_neg (nI_pos (by omega)), lt_def, if_neg (nI_n0 (by omega) (by omega)), if_neg (fun w => by omega)]
/-- what a plan of that number costs -/
def Cp (V : Vw) (p : Nat) : Nat := Cc V (plF V p)
theorem cl_loop {V : Vw} (hw : WF V) {c : Nat} (hc14 : c ≤ 14) (K : Int32 → Sg → Option Sg) : ∀ m i n y b σ f, i + m = 2 ^ c → m < n → 1 ≤ i → (m ≠ 0 → y = rv c i) → y < 2 ^ 14 → b < 2 ^ c → vOK V f → CI (vsV V f) σ → bst (Cp V) (fun q => ∃ j, j < i ∧ rv c j = q) b → ∃ τ g b', LX3_takeLeastPlan_35 (nI c) K n (nI y) (nI b) (nI (Cp V b)) (nI m) σ = K (nI b') τ ∧ vOK V g ∧ CI (vsV V g) τ ∧ b' < 2 ^ c ∧ bst (Cp V) (fun q => q < 2 ^ c) b' := by
  have pc : 2 ^ c ≤ 2 ^ 14 := Nat.pow_le_pow_right (by omega) hc14
  intro m
  induction m with
  | zero =>
    intro i n y b σ f hi hn h1 hy hyl hb hf hc hB
    obtain ⟨n, rfl⟩ : ∃ q, n = q + 1 := ⟨n - 1, by omega⟩
    refine ⟨σ, f, b, ?_, hf, hc, hb, hb, fun q hq => ?_⟩
    · rw [LX3_takeLeastPlan_35, if_pos (show nI 0 ≤ 0 by decide)]
    · obtain ⟨j, j1, j2⟩ := rv_sur c q hq
      exact hB.2 q ⟨j, by omega, j2⟩
  | succ m ih =>
    intro i n y b σ f hi hn h1 hy hyl hb hf hc hB
    obtain ⟨n, rfl⟩ : ∃ q, n = q + 1 := ⟨n - 1, by omega⟩
    have ey := hy (by omega)
    subst ey
    have yl := rv_lt c i
    obtain ⟨σ1, a1, a2⟩ := c_setPlan0 hw (p := rv c i) (by omega) hf hc
    have ok := plF_ok V (rv c i)
    have hw1 : WF (vsV V (plF V (rv c i))) := hw.vis ok.1 ok.2
    obtain ⟨σ2, d1, d2, d3, d4⟩ := c_wholeCost hw1 (k := 38) (by omega) a2.1 a2.2.2.2.1 a2.2.1
    rw [cosT_vs] at d1
    have d1' : XX5_wholeCost 38 σ1 = some (nI (Cp V (rv c i)), σ2) := d1
    have c2 : CI (vsV V (plF V (rv c i))) σ2 := a2.off d4 rfl d2 d3
    have l1 : Cp V (rv c i) < 100000000 := Cc_lt hw _
    have l2 : Cp V b < 100000000 := Cc_lt hw _
    have pb := c_planBehind hc14 (y := rv c i) (by omega)
    have ml := Nat.lt_of_lt_of_le (Nat.lt_of_lt_of_le (show m < 2 ^ c by omega) pc) (show 2 ^ 14 ≤ 2147483648 by decide)
    have nx : m ≠ 0 → nxJ c (rv c i) = rv c (i + 1) := fun hm => by
      have := nxJ_rv c 0 i (by omega)
      rw [Nat.mul_zero, Nat.zero_add, Nat.zero_add] at this
      exact this
    have pe : (fun q => ∃ j, j < i + 1 ∧ rv c j = q) = (fun q => (∃ j, j < i ∧ rv c j = q) ∨ q = rv c i) := by
      funext q
      apply propext
      constructor
      · rintro ⟨j, h1, h2⟩
        by_cases z : j = i
        · exact Or.inr (by rw [← h2, z])
        · exact Or.inl ⟨j, by omega, h2⟩
      · rintro (⟨j, h1, h2⟩ | h)
        · exact ⟨j, by omega, h2⟩
        · exact ⟨i, by omega, h.symm⟩
    have go : ∀ b1, b1 < 2 ^ c → bst (Cp V) (fun q => (∃ j, j < i ∧ rv c j = q) ∨ q = rv c i) b1 → ∃ τ g b', LX3_takeLeastPlan_35 (nI c) K n (nI (nxJ c (rv c i))) (nI b1) (nI (Cp V b1)) (nI m) σ2 = K (nI b') τ ∧ vOK V g ∧ CI (vsV V g) τ ∧ b' < 2 ^ c ∧ bst (Cp V) (fun q => q < 2 ^ c) b' := fun b1 hb1 hB1 => ih (i + 1) n (nxJ c (rv c i)) b1 σ2 (plF V (rv c i)) (by omega) (by omega) (by omega) nx (nxJ_lt c _ hc14 (by omega)) hb1 ok c2 (by rw [pe]; exact hB1)
    rw [LX3_takeLeastPlan_35, if_neg (nI_nle (by omega) (by omega)), a1, b1s, d1', b2s, pb]
    simp only [lt]
    rw [b1s, b1s, pk_m1, c_isFewer (by omega) (by omega), b1s]
    by_cases q1 : Cp V (rv c i) < Cp V b
    · rw [if_pos (by rw [nI_lti] <;> omega)]
      exact go (rv c i) yl (bst_new hB (Or.inl q1))
    rw [if_neg (by rw [nI_lti] <;> omega)]
    by_cases q2 : Cp V (rv c i) = Cp V b
    · rw [if_pos (by rw [q2])]
      by_cases q3 : cntB (rv c i) 14 < cntB b 14 ∨ (cntB (rv c i) 14 = cntB b 14 ∧ rv c i < b)
      · rw [if_pos q3, if_neg (show ¬ (1 : Int32) = 0 by decide)]
        exact go (rv c i) yl (bst_new hB (Or.inr ⟨q2, q3⟩))
      · rw [if_neg q3, if_pos rfl]
        exact go b hb (bst_old hB (fun z => by
          rcases z with z | z
          · exact q1 z
          · exact q3 z.2))
    · rw [if_neg (nI_ne (by omega) (by omega) q2)]
      exact go b hb (bst_old hB (fun z => by
        rcases z with z | z
        · exact q1 z
        · exact q2 z.1))
theorem ml_loop {V : Vw} (hw : WF V) (hND : V 0 8 * V 0 0 ≤ 14) (K : Int32 → Int32 → Sg → Option (Int32 × Sg)) : ∀ m i n b σ f, i + m = 2 ^ (V 0 8 * V 0 0) → m < n → 1 ≤ i → b < i → vOK V f → MS V f σ → bst (Cp V) (fun q => q < i) b → ∃ τ g b', LX10_least_37 K n (nI b) (nI (Cp V b)) (nI i) σ = K (nI b') (nI (Cp V b')) τ ∧ vOK V g ∧ MS V g τ ∧ bst (Cp V) (fun q => q < 2 ^ (V 0 8 * V 0 0)) b' := by
  have s6 := hw.s6
  have d14 := hw.d14
  have pc : 2 ^ (V 0 8 * V 0 0) ≤ 2 ^ 14 := Nat.pow_le_pow_right (by omega) hND
  have sh1 : (1 : Int32) <<< (nI (V 0 8 * V 0 0) &&& 31) = nI (2 ^ (V 0 8 * V 0 0)) := nx_1shl (by omega)
  intro m
  induction m with
  | zero =>
    intro i n b σ f hi hn h1 hb hf hσ hB
    obtain ⟨n, rfl⟩ : ∃ q, n = q + 1 := ⟨n - 1, by omega⟩
    have e8 : σ 65 8 = nI (V 0 8) := hσ.1.1.1 8 (by omega)
    have e0 : σ 65 0 = nI (V 0 0) := hσ.1.1.1 0 (by omega)
    have hi : i = 2 ^ (V 0 8 * V 0 0) := by omega
    subst hi
    refine ⟨σ, f, b, ?_, hf, hσ, hB⟩
    rw [LX10_least_37]
    unfold XX10_shops XX10_days
    rw [b1s, b1s, e8, e0, pk_mul, sh1, if_pos (by rw [nI_lei] <;> omega)]
  | succ m ih =>
    intro i n b σ f hi hn h1 hb hf hσ hB
    obtain ⟨n, rfl⟩ : ∃ q, n = q + 1 := ⟨n - 1, by omega⟩
    have e8 : σ 65 8 = nI (V 0 8) := hσ.1.1.1 8 (by omega)
    have e0 : σ 65 0 = nI (V 0 0) := hσ.1.1.1 0 (by omega)
    obtain ⟨σ1, a1, a2⟩ := m_plan0 hw hND (p := i) (by omega) hf hσ
    have ok := plF_ok V i
    obtain ⟨σ2, d1, d2⟩ := m_cost hw ok a2
    have d1' : XX10_costNow σ1 = some (nI (Cp V i), σ2) := d1
    have l1 : Cp V i < 100000000 := Cc_lt hw _
    have l2 : Cp V b < 100000000 := Cc_lt hw _
    have c1 := cntB_le i 14
    have c2 := cntB_le b 14
    have pe : (fun q => q < i + 1) = (fun q => q < i ∨ q = i) := by
      funext q
      apply propext
      constructor
      · intro h
        omega
      · intro h
        omega
    have go : ∀ b1, b1 < i + 1 → bst (Cp V) (fun q => q < i ∨ q = i) b1 → ∃ τ g b', LX10_least_37 K n (nI b1) (nI (Cp V b1)) (nI (i + 1)) σ2 = K (nI b') (nI (Cp V b')) τ ∧ vOK V g ∧ MS V g τ ∧ bst (Cp V) (fun q => q < 2 ^ (V 0 8 * V 0 0)) b' := fun b1 hb1 hB1 => ih (i + 1) n b1 σ2 (plF V i) (by omega) (by omega) (by omega) hb1 ok d2 (by rw [pe]; exact hB1)
    rw [LX10_least_37]
    unfold XX10_shops XX10_days
    rw [b1s, b1s, e8, e0, pk_mul, sh1, if_neg (by rw [nI_lei] <;> omega), a1, b1s, d1', b2s]
    simp only [lt]
    rw [nI_1, if_neg (nI_pos (by omega)), m_bits (by omega), b1s, m_bits (by omega), b1s]
    by_cases q1 : Cp V i < Cp V b
    · rw [if_pos (by rw [nI_lti] <;> omega)]
      exact go i (by omega) (bst_new hB (Or.inl q1))
    rw [if_neg (by rw [nI_lti] <;> omega)]
    by_cases q2 : Cp V i = Cp V b
    · rw [if_pos (by rw [q2])]
      by_cases q3 : cntB i 14 < cntB b 14
      · rw [if_neg (by rw [nI_lei] <;> omega)]
        exact go i (by omega) (bst_new hB (Or.inr ⟨q2, Or.inl q3⟩))
      · rw [if_pos (by rw [nI_lei] <;> omega)]
        exact go b (by omega) (bst_old hB (fun z => by
          unfold lk at z
          omega))
    · rw [if_neg (nI_ne (by omega) (by omega) q2)]
      exact go b (by omega) (bst_old hB (fun z => by
        unfold lk at z
        omega))
theorem rv_zero : ∀ c, rv c 0 = 0
  | 0 => rfl
  | c + 1 => by
    show 0 % 2 * 2 ^ c + rv c (0 / 2) = 0
    rw [show 0 / 2 = 0 from rfl, rv_zero c, show 0 % 2 = 0 from rfl, Nat.zero_mul]
theorem op_least {V : Vw} {σ : Sg} (h : Inv V σ) : stOK (XX9_least σ) XX10_least := by
  obtain ⟨hw, hc, hr⟩ := id h
  have s6 := hw.s6
  have d14 := hw.d14
  have nd84 : V 0 8 * V 0 0 ≤ 6 * 14 := Nat.mul_le_mul s6 d14
  have c26 : σ 2 6 = nI (V 0 8) := hc.1.2.2.2.2.2.2.1
  have c20 : σ 2 0 = nI (V 0 0) := hc.1.1
  by_cases hND : V 0 8 * V 0 0 ≤ 14
  · have hw1 := hw.keep
    obtain ⟨V1, hV1⟩ : ∃ V1, V1 = kpV V := ⟨_, rfl⟩
    have e8 : V1 0 8 = V 0 8 := by rw [hV1]; rfl
    have e0 : V1 0 0 = V 0 0 := by rw [hV1]; rfl
    rw [← hV1] at hw1
    obtain ⟨c, hcd⟩ : ∃ c, c = V1 0 8 * V1 0 0 := ⟨_, rfl⟩
    have c14 : c ≤ 14 := by rw [hcd, e8, e0]; exact hND
    have pc : 2 ^ c ≤ 2 ^ 14 := Nat.pow_le_pow_right (by omega) c14
    have pp := Nat.two_pow_pos c
    obtain ⟨σ1, a1, a2⟩ := c_keep hw hc
    rw [← hV1] at a2
    have ok5 : vOK V1 (V1 5) := hw1.v5
    have a2' : CI (vsV V1 (V1 5)) σ1 := by rw [vs_self]; exact a2
    -- the class: the first plan
    obtain ⟨σ2, b1', b2'⟩ := c_setPlan0 hw1 (p := 0) (by omega) ok5 a2'
    have ok := plF_ok V1 0
    have hw2 : WF (vsV V1 (plF V1 0)) := hw1.vis ok.1 ok.2
    obtain ⟨σ3, d1, d2, d3, d4⟩ := c_wholeCost hw2 (k := 38) (by omega) b2'.1 b2'.2.2.2.1 b2'.2.1
    rw [cosT_vs] at d1
    have d1' : XX5_wholeCost 38 σ2 = some (nI (Cp V1 0), σ3) := d1
    have hc3 : CI (vsV V1 (plF V1 0)) σ3 := b2'.off d4 rfl d2 d3
    have l1 : Cp V1 0 < 100000000 := Cc_lt hw1 _
    have pb := c_planBehind c14 (y := 0) (by omega)
    have nx : 2 ^ c - 1 ≠ 0 → nxJ c 0 = rv c 1 := fun hm => by
      have := nxJ_rv c 0 0 (by omega)
      rw [Nat.mul_zero, Nat.zero_add, Nat.zero_add, rv_zero] at this
      exact this
    obtain ⟨σ4, g, b, k1, k2, k3, k4, k5⟩ := cl_loop hw1 c14 (fun (x4_3 : Int32) (σ_4 : Sg) => b1 (XX3_setPlan x4_3 σ_4) (fun (σ_6 : Sg) => some σ_6)) (2 ^ c - 1) 1 999999 (nxJ c 0) 0 σ3 (plF V1 0) (by omega) (by omega) (Nat.le_refl _) nx (nxJ_lt c 0 c14 (by omega)) pp ok hc3 ⟨⟨0, by omega, rv_zero c⟩, fun q hq => by
      obtain ⟨j, j1, j2⟩ := hq
      rw [show j = 0 by omega, rv_zero] at j2
      exact Or.inl j2.symm⟩
    obtain ⟨σ5, m1, m2⟩ := c_setPlan0 hw1 (p := b) (by omega) k2 k3
    have okb := plF_ok V1 b
    have hwb : WF (vsV V1 (plF V1 b)) := hw1.vis okb.1 okb.2
    obtain ⟨σ6, n1, n2, n3, n4⟩ := c_wholeCost hwb (k := 38) (by omega) m2.1 m2.2.2.2.1 m2.2.1
    rw [cosT_vs] at n1
    have n1' : XX5_wholeCost 38 σ5 = some (nI (Cp V1 b), σ6) := n1
    have hc6 : CI (vsV V1 (plF V1 b)) σ6 := m2.off n4 rfl n2 n3
    have x26 : σ1 2 6 = nI (V1 0 8) := a2.1.2.2.2.2.2.2.1
    have x20 : σ1 2 0 = nI (V1 0 0) := a2.1.1
    have tl : XX3_takeLeastPlan σ1 = some σ5 := by
      have sh1 : (1 : Int32) <<< (nI c &&& 31) = nI (2 ^ c) := nx_1shl (by omega)
      have b1'' : XX3_setPlan (0 : Int32) σ1 = some σ2 := b1'
      have pb' : XX3_planBehind (0 : Int32) (nI c) = some (nI (nxJ c 0)) := pb
      unfold XX3_takeLeastPlan
      rw [x26, x20, pk_mul, ← hcd, if_neg (show ¬ (14 : Int32) < nI c from fun q => absurd ((nI_lti (a := 14) (by omega) (by omega)).mp q) (by omega)), lt_def, sh1, lt_def, lt_def, show FUEL = 999999 + 1 from rfl, LX3_takeLeastPlan_35, if_neg (nI_nle (by omega) (by omega)), b1'', b1s, d1', b2s, pb', lt_def, lt_def, if_pos (show nI (Cp V1 0) < 1000000000 from (nI_lti (b := 1000000000) (by omega) (by omega)).mpr (by omega))]
      show b1 _ _ = _
      rw [b1s, lt_def, show nI (2 ^ c) + (-1 : Int32) = nI (2 ^ c - 1) by
        have := pk_m1 (2 ^ c - 1)
        rw [show 2 ^ c - 1 + 1 = 2 ^ c by omega] at this
        exact this]
      refine Eq.trans k1 ?_
      rw [m1, b1s]
    have e1 : XX9_least σ = some (nI (Cp V1 b), σ6) := by
      unfold XX9_least
      rw [c26, c20, pk_mul, if_pos (show nI (V 0 8 * V 0 0) ≤ 14 from (nI_lei (b := 14) (by omega) (by omega)).mpr hND), a1, b1s, tl, b1s, n1', b2s]
    have F := frX9_least e1
    have hr6 : RA V (up σ6 64 0 0) := (hr.near F rfl).th
    -- the reference
    obtain ⟨τ1, g1, g2⟩ := m_keep hw hr6
    rw [← hV1] at g2
    obtain ⟨τ2, q1, q2, q3⟩ := m_layAsked hw1 g2.1 (pct := 100) (by omega)
    rw [ask100] at q3
    have ms : MS V1 (V1 5) τ2 := ⟨by rw [vs_self]; exact g2.off (frX10_layAsked q1) rfl, q3⟩
    have hND1 : V1 0 8 * V1 0 0 ≤ 14 := by rw [← hcd]; exact c14
    obtain ⟨τ3, r1, r2⟩ := m_plan0 hw1 hND1 (p := 0) (by omega) ok5 ms
    obtain ⟨τ4, t1, t2⟩ := m_cost hw1 ok r2
    have t1' : XX10_costNow τ3 = some (nI (Cp V1 0), τ4) := t1
    obtain ⟨τ5, g', b', u1, u2, u3, u4⟩ := ml_loop hw1 hND1 (fun (x1_6 : Int32) (x2_7 : Int32) (σ_8 : Sg) => b1 (XX10_plan x1_6 σ_8) (fun (σ_10 : Sg) => some (x2_7, σ_10))) (2 ^ c - 1) 1 999999 0 τ4 (plF V1 0) (by rw [← hcd]; omega) (by omega) (Nat.le_refl _) (by omega) ok t2 ⟨by omega, fun q hq => Or.inl (by omega)⟩
    rw [← hcd] at u4
    have eb : b' = b := bst_one u4 k5
    rw [eb] at u1
    obtain ⟨τ6, v1, v2⟩ := m_plan0 hw1 hND1 (p := b) (by omega) u2 u3
    have e2 : XX10_least σ6 = some (nI (Cp V1 b), τ6) := by
      have e8' : up σ6 64 0 0 65 8 = nI (V 0 8) := hr6.1.1 8 (by omega)
      have e0' : up σ6 64 0 0 65 0 = nI (V 0 0) := hr6.1.1 0 (by omega)
      have f8 : τ2 65 8 = nI (V1 0 8) := q2.1 8 (by omega)
      have f0 : τ2 65 0 = nI (V1 0 0) := q2.1 0 (by omega)
      have sh1 : (1 : Int32) <<< (nI c &&& 31) = nI (2 ^ c) := nx_1shl (by omega)
      have r1' : XX10_plan (0 : Int32) τ2 = some τ3 := r1
      unfold XX10_least
      rw [lt_def]
      unfold XX10_shops XX10_days
      rw [b1s, b1s, e8', e0', pk_mul, if_pos (show nI (V 0 8 * V 0 0) ≤ 14 from (nI_lei (b := 14) (by omega) (by omega)).mpr hND), g1, b1s, show (100 : Int32) = nI 100 from rfl, q1, b1s, lt_def, show FUEL = 999999 + 1 from rfl, LX10_least_37]
      unfold XX10_shops XX10_days
      rw [b1s, b1s, f8, f0, pk_mul, ← hcd, sh1, if_neg (show ¬ nI (2 ^ c) ≤ 0 from nI_nle (by omega) (by omega)), r1', b1s, t1', b2s]
      simp only [lt]
      rw [if_pos (show (-1 : Int32) < 0 by decide), show (0 : Int32) + 1 = nI 1 from rfl]
      refine Eq.trans u1 ?_
      rw [v1, b1s]
    exact ⟨_, _, _, e1, e2, _, hwb, hc6.far (frX10_least e2) rfl, v2.1⟩
  · have e1 : XX9_least σ = some (-1, σ) := by
      unfold XX9_least
      rw [c26, c20, pk_mul, if_neg (show ¬ nI (V 0 8 * V 0 0) ≤ 14 from fun q => hND ((nI_lei (b := 14) (by omega) (by omega)).mp q))]
    have e2 : XX10_least σ = some (-1, up σ 64 0 0) := by
      have e8' : up σ 64 0 0 65 8 = nI (V 0 8) := hr.1.th.1 8 (by omega)
      have e0' : up σ 64 0 0 65 0 = nI (V 0 0) := hr.1.th.1 0 (by omega)
      unfold XX10_least
      rw [lt_def]
      unfold XX10_shops XX10_days
      rw [b1s, b1s, e8', e0', pk_mul, if_neg (show ¬ nI (V 0 8 * V 0 0) ≤ 14 from fun q => hND ((nI_lei (b := 14) (by omega) (by omega)).mp q))]
    exact ⟨_, _, _, e1, e2, V, h.look (fr_upf (a := 64) (i := 0)) rfl rfl⟩
