/-! CALLS: peak, reach, truck -/
def pkB (L : Nat → Nat) : Nat → Nat
  | 0 => 0
  | n + 1 => if L (pkB L n) < L n then n else pkB L n
theorem pkB_lt {L : Nat → Nat} : ∀ n, pkB L (n + 1) ≤ n
  | 0 => by
    show (if L 0 < L 0 then 0 else 0) ≤ 0
    split <;> omega
  | n + 1 => by
    have := pkB_lt (L := L) n
    show (if L (pkB L (n + 1)) < L (n + 1) then n + 1 else pkB L (n + 1)) ≤ n + 1
    split <;> omega
/-- the loads of a day, together -/
def ldT (V : Vw) (d : Nat) : Nat := sumN (ldD V (V 5) (aq V) d) (V 0 8)
theorem ldT_lt {V : Vw} (hw : WF V) (d : Nat) : ldT V d < 1000000 := by
  have h1 : ldT V d ≤ V 0 8 * V 0 3 := sumN_le (fun i hi => ldD_le hw hi)
  have h2 : V 0 8 * V 0 3 ≤ 6 * 99 := Nat.mul_le_mul hw.s6 hw.t99
  omega
theorem c_loadsOn {V : Vw} (hw : WF V) {σ : Sg} (ht : TC V σ) (hr : RN V (prV V) 38 (V 5) (aq V) σ) {d : Nat} (hd : d < V 0 0) : XX5_loadsOn 38 (nI d) σ = some (nI (ldT V d)) := by
  have s6 := hw.s6
  have d14 := hw.d14
  have key : ∀ m s n, s + m = V 0 8 → m < n → LX5_loadsOn_4 38 (nI d) σ n (nI (sumN (ldD V (V 5) (aq V) d) s)) (nI s) = some (nI (ldT V d)) := by
    intro m
    induction m with
    | zero =>
      intro s n hs hn
      obtain ⟨n, rfl⟩ : ∃ q, n = q + 1 := ⟨n - 1, by omega⟩
      have hs : s = V 0 8 := by omega
      subst hs
      rw [LX5_loadsOn_4, ht.2.2.2.2.2.2.1, if_pos (by rw [nI_lei] <;> omega)]
      rfl
    | succ m ih =>
      intro s n hs hn
      obtain ⟨n, rfl⟩ : ∃ q, n = q + 1 := ⟨n - 1, by omega⟩
      have h41 : σ (38 + 3) (14 * s + d) = nI (ldD V (V 5) (aq V) d s) := (hr.2.2.1 s d (by omega) hd).1
      rw [LX5_loadsOn_4, ht.2.2.2.2.2.2.1, if_neg (by rw [nI_lei] <;> omega), c_cellOf]
      simp only [b1, lt]
      rw [if_pos ((ib_nI (by omega)).mpr (by omega)), nI_cl (by omega), h41, nI_add, nI_1]
      exact ih (s + 1) n (by omega) (by omega)
  exact key (V 0 8) 0 FUEL (by omega) (by unfold FUEL; omega)
theorem c_fullest {V : Vw} (hw : WF V) {σ : Sg} (ht : TC V σ) (hr : RN V (prV V) 38 (V 5) (aq V) σ) : XX5_fullestDay 38 σ = some (nI (pkB (ldT V) (V 0 0))) := by
  have d14 := hw.d14
  have d1 := hw.d1
  have key : ∀ m d n, d + m = V 0 0 → m < n → 1 ≤ d → LX5_fullestDay_4 38 σ n (nI (pkB (ldT V) d)) (nI d) = some (nI (pkB (ldT V) (V 0 0))) := by
    intro m
    induction m with
    | zero =>
      intro d n hd hn h1
      obtain ⟨n, rfl⟩ : ∃ q, n = q + 1 := ⟨n - 1, by omega⟩
      have hd : d = V 0 0 := by omega
      subst hd
      rw [LX5_fullestDay_4, ht.1, if_pos (by rw [nI_lei] <;> omega)]
    | succ m ih =>
      intro d n hd hn h1
      obtain ⟨n, rfl⟩ : ∃ q, n = q + 1 := ⟨n - 1, by omega⟩
      have hb : pkB (ldT V) d < d := by
        obtain ⟨q, rfl⟩ : ∃ q, d = q + 1 := ⟨d - 1, by omega⟩
        have := pkB_lt (L := ldT V) q
        omega
      have k1 := ih (d + 1) n (by omega) (by omega) (by omega)
      have e : pkB (ldT V) (d + 1) = if ldT V (pkB (ldT V) d) < ldT V d then d else pkB (ldT V) d := rfl
      rw [e] at k1
      have l1 := ldT_lt hw d
      have l2 := ldT_lt hw (pkB (ldT V) d)
      rw [LX5_fullestDay_4, ht.1, if_neg (by rw [nI_lei] <;> omega), c_loadsOn hw ht hr (by omega), c_loadsOn hw ht hr (by omega)]
      simp only [b1, lt]
      rw [nI_1]
      by_cases q : ldT V (pkB (ldT V) d) < ldT V d
      · rw [if_pos q] at k1
        rw [if_neg (by rw [nI_lei] <;> omega)]
        exact k1
      · rw [if_neg q] at k1
        rw [if_pos (by rw [nI_lei] <;> omega)]
        exact k1
  have := key (V 0 0 - 1) 1 FUEL (by omega) (by unfold FUEL; omega) (by omega)
  have e1 : pkB (ldT V) 1 = 0 := by
    show (if ldT V 0 < ldT V 0 then 0 else 0) = 0
    split <;> rfl
  rw [e1] at this
  exact this
theorem all_full {ld : Nat → Nat} {n : Nat} : ∀ k, k ≤ n → ldS ld (2 ^ n - 1) k = sumN ld k
  | 0, _ => rfl
  | k + 1, h => by
    show ldS ld (2 ^ n - 1) k + (if (2 ^ n - 1).testBit k then ld k else 0) = sumN ld k + ld k
    rw [all_full k (by omega), Nat.testBit_two_pow_sub_one]
    simp
    omega
theorem m_peak_loop {V : Vw} (hw : WF V) (K : Int32 → Int32 → Sg → Option (Int32 × Sg)) : ∀ m d n σ x, d + m = V 0 0 → m < n → RM V σ → runM V (V 5) (aq V) σ → x = (if d = 0 then -1 else nI (ldT V (pkB (ldT V) d))) → ∃ τ, LX10_peak_27 K n (nI (pkB (ldT V) d)) x (nI d) σ = K (nI (pkB (ldT V) (V 0 0))) (nI (ldT V (pkB (ldT V) (V 0 0)))) τ := by
  have d14 := hw.d14
  have d1 := hw.d1
  have s6 := hw.s6
  have p6 := p64 s6
  have t99 := hw.t99
  intro m
  induction m with
  | zero =>
    intro d n σ x hd hn hr hu hx
    obtain ⟨n, rfl⟩ : ∃ q, n = q + 1 := ⟨n - 1, by omega⟩
    have hd : d = V 0 0 := by omega
    subst hd
    refine ⟨σ, ?_⟩
    rw [LX10_peak_27]
    simp only [XX10_days, b1]
    rw [hr.1 0 (by omega), if_pos (by rw [nI_lei] <;> omega), hx, if_neg (by omega)]
  | succ m ih =>
    intro d n σ x hd hn hr hu hx
    obtain ⟨n, rfl⟩ : ∃ q, n = q + 1 := ⟨n - 1, by omega⟩
    obtain ⟨σ1, h1, h2, h3, h4⟩ := m_layLoads hw (ld := ldD V (V 5) (aq V) d) (show d < V 0 0 by omega) (fun s hs => by have := ldD_le hw (vis := V 5) (ask := aq V) (d := d) hs; omega) hr (fun s hs => (hu s d hs (by omega)).1)
    have e : pkB (ldT V) (d + 1) = if ldT V (pkB (ldT V) d) < ldT V d then d else pkB (ldT V) d := rfl
    have l1 := ldT_lt hw d
    have l2 := ldT_lt hw (pkB (ldT V) d)
    have hu1 : runM V (V 5) (aq V) σ1 := fun s e hs he => by
      unfold rowM
      rw [h4.cell (k := 80) rfl, h4.cell (k := 81) rfl, h4.cell (k := 82) rfl]
      exact hu s e hs he
    have ee : (1 : Int32) <<< (nI (V 0 8) &&& 31) - 1 = nI (2 ^ V 0 8 - 1) := by
      rw [show (1 : Int32) <<< (nI (V 0 8) &&& 31) = nI (2 ^ V 0 8) from nx_1shl (by omega), nI_lit, pk_sub (Nat.two_pow_pos _)]
    have lt1 : ldS (ldD V (V 5) (aq V) d) (2 ^ V 0 8 - 1) (V 0 8) = ldT V d := all_full (V 0 8) (Nat.le_refl _)
    rw [LX10_peak_27]
    simp only [XX10_days, b1]
    rw [hr.1 0 (by omega), if_neg (by rw [nI_lei] <;> omega), h1]
    simp only [b2, XX10_shops]
    rw [h2.1 8 (by omega), ee, m_loadsOf hw h2 h3 (by omega), lt1]
    simp only [lt]
    rw [nI_1, hx]
    by_cases d0 : d = 0
    · subst d0
      rw [if_pos rfl, if_neg (fun q => by
        have := Int32.le_iff_toInt_le.mp q
        rw [nI_toInt (by omega)] at this
        have e2 : (-1 : Int32).toInt = -1 := by decide
        omega)]
      have e1 : pkB (ldT V) 1 = 0 := by
        show (if ldT V 0 < ldT V 0 then 0 else 0) = 0
        split <;> rfl
      have := ih 1 n σ1 (nI (ldT V 0)) (by omega) (by omega) h2 hu1 (by rw [if_neg (by omega), e1])
      rw [e1] at this
      exact this
    · rw [if_neg d0]
      by_cases q : ldT V (pkB (ldT V) d) < ldT V d
      · rw [if_neg (by rw [nI_lei] <;> omega)]
        rw [if_pos q] at e
        have := ih (d + 1) n σ1 (nI (ldT V d)) (by omega) (by omega) h2 hu1 (by rw [if_neg (by omega), e])
        rw [e] at this
        exact this
      · rw [if_pos (by rw [nI_lei] <;> omega)]
        rw [if_neg q] at e
        have := ih (d + 1) n σ1 (nI (ldT V (pkB (ldT V) d))) (by omega) (by omega) h2 hu1 (by rw [if_neg (by omega), e])
        rw [e] at this
        exact this
theorem in2 (y : Int32) : XX10_in y 0 1 = some (if ib y 2 then 1 else 0) := in_shop (n := 2) (by omega)
theorem op_peak {V : Vw} {σ : Sg} (h : Inv V σ) (x : Int32) : pureOK σ (XX9_peak x σ) (XX10_peak x σ) := by
  obtain ⟨hw, ⟨ht, hn, -⟩, hr⟩ := id h
  have d14 := hw.d14
  have d1 := hw.d1
  have hr1 : RM V (up σ 64 0 0) := hr.1.th
  have hb : pkB (ldT V) (V 0 0) < V 0 0 := by
    obtain ⟨q, hq⟩ : ∃ q, V 0 0 = q + 1 := ⟨V 0 0 - 1, by omega⟩
    have := pkB_lt (L := ldT V) q
    rw [hq]
    omega
  have key : ∃ r τ, XX9_peak x σ = some r ∧ XX10_peak x σ = some (r, τ) := by
    unfold XX9_peak XX10_peak
    rw [c_fullest hw ht hn, lt_def, in2]
    simp only [b1]
    by_cases hx : ib x 2
    · rw [if_pos hx, if_neg (show ¬ (1 : Int32) = 0 by decide)]
      obtain ⟨τ1, g1, g2, g3, g4⟩ := m_layRun hw hr1
      rw [g1]
      simp only []
      rw [lt_def, c_loadsOn hw ht hn hb]
      simp only []
      have e0 : pkB (ldT V) 0 = 0 := rfl
      obtain ⟨τ, k1⟩ := m_peak_loop hw (fun (x2_4 : Int32) (x3_5 : Int32) (σ_6 : Sg) => if x = 0 then (some (x2_4, σ_6)) else (some (x3_5, σ_6))) (V 0 0) 0 FUEL τ1 (-1) (by omega) (by unfold FUEL; omega) g2 g4 rfl
      rw [e0] at k1
      have k2 : LX10_peak_27 (fun (x2_4 : Int32) (x3_5 : Int32) (σ_6 : Sg) => if x = 0 then (some (x2_4, σ_6)) else (some (x3_5, σ_6))) FUEL (0 : Int32) (-1 : Int32) (0 : Int32) τ1 = _ := k1
      rw [k2]
      by_cases q : x = 0
      · rw [if_pos q, if_pos q]
        exact ⟨_, _, rfl, rfl⟩
      · rw [if_neg q, if_neg q, if_pos]
        · exact ⟨_, _, rfl, rfl⟩
        · obtain ⟨j, hj, rfl⟩ := ib_of hx (by omega)
          have : j = 0 ∨ j = 1 := by omega
          rcases this with rfl | rfl
          · exact absurd rfl q
          · rfl
    · rw [if_neg hx, if_pos (show (0 : Int32) = 0 from rfl), if_neg (fun q => hx (by rw [q]; decide)), if_neg (fun q => hx (by rw [q]; decide))]
      exact ⟨_, _, rfl, rfl⟩
  obtain ⟨r, τ, h1, h2⟩ := key
  exact ⟨r, τ, h1, h2, V, h.look (frX10_peak h2) rfl rfl⟩
/-! reach -/
theorem sumN_le2 {f g : Nat → Nat} : ∀ {n : Nat}, (∀ i, i < n → f i ≤ g i) → sumN f n ≤ sumN g n
  | 0, _ => Nat.le_refl _
  | n + 1, h => by
    show sumN f n + f n ≤ sumN g n + g n
    have h1 := sumN_le2 (f := f) (g := g) (n := n) (fun i hi => h i (by omega))
    have h2 := h n (by omega)
    omega
theorem stk_mono {fi sh v : Nat} {A B : Nat → Nat} : ∀ {d : Nat}, (∀ e, e < d → A e ≤ B e) → stk fi sh v B d ≤ stk fi sh v A d
  | 0, _ => Nat.le_refl _
  | d + 1, h => by
    show (if v.testBit d then sh else stk fi sh v B d) - B d ≤ (if v.testBit d then sh else stk fi sh v A d) - A d
    have h1 := stk_mono (fi := fi) (sh := sh) (v := v) (A := A) (B := B) (d := d) (fun e he => h e (by omega))
    have h2 := h d (by omega)
    split <;> omega
theorem rmiss_mono {fi sh v d : Nat} {A B : Nat → Nat} (h : ∀ e, e ≤ d → A e ≤ B e) : rmiss fi sh v A d ≤ rmiss fi sh v B d := by
  have h1 := stk_mono (fi := fi) (sh := sh) (v := v) (A := A) (B := B) (d := d) (fun e he => h e (by omega))
  have h2 := h d (Nat.le_refl _)
  unfold rmiss
  split <;> omega
/-- what is lost, of so many of a hundred -/
def msP (V : Vw) (p : Nat) : Nat := msT V (V 5) (fun s d => aq V s d * p / 100)
theorem msP_mono {V : Vw} {p q : Nat} (h : p ≤ q) : msP V p ≤ msP V q := sumN_le2 (fun s _ => sumN_le2 (fun d _ => rmiss_mono (fun e _ => Nat.div_le_div_right (Nat.mul_le_mul_left _ h))))
theorem msP_zero (V : Vw) : msP V 0 = 0 := by
  refine sumN_zero.mpr (fun s _ => sumN_zero.mpr (fun d _ => ?_))
  unfold rmiss
  simp
theorem msP_lt {V : Vw} (hw : WF V) {p : Nat} (hp : p ≤ 300) : msP V p < 2147483648 := by
  have h1 : msP V p ≤ V 0 8 * (V 0 0 * 1000000) := sumN_le (fun s hs => sumN_le (fun d hd => by
    have h2 : rmiss (V 4 s) (V 3 s) (V 5 s) (fun d => aq V s d * p / 100) d ≤ aq V s d * p / 100 := rmiss_le
    have := aqp_lt hw hp hs hd
    show rmiss (V 4 s) (V 3 s) (V 5 s) (fun d => aq V s d * p / 100) d ≤ 1000000
    omega))
  have h2 : V 0 0 * 1000000 ≤ 14 * 1000000 := Nat.mul_le_mul_right _ hw.d14
  have h3 : V 0 8 * (V 0 0 * 1000000) ≤ 6 * (14 * 1000000) := Nat.mul_le_mul hw.s6 h2
  omega
def grP (V : Vw) : Nat → Nat
  | 0 => 0
  | n + 1 => if msP V (n + 1) = 0 then n + 1 else grP V n
theorem grP_eq {V : Vw} {l : Nat} (hl : msP V l = 0) : ∀ n, l ≤ n → (∀ p, l < p → p ≤ n → msP V p ≠ 0) → grP V n = l
  | 0, h, _ => by
    have : l = 0 := by omega
    rw [this]
    rfl
  | n + 1, h, hp => by
    show (if msP V (n + 1) = 0 then n + 1 else grP V n) = l
    by_cases q : l = n + 1
    · rw [← q, if_pos hl]
    · rw [if_neg (hp (n + 1) (by omega) (by omega))]
      exact grP_eq hl n (by omega) (fun p h1 h2 => hp p h1 (by omega))
theorem c_losesAt {V : Vw} (hw : WF V) {p : Nat} (hp : p ≤ 300) {ask : Nat → Nat → Nat} {σ : Sg} (ht : TC V σ) (hr : RN V (prV V) 46 (V 5) ask σ) : ∃ τ, XX9_losesAt (nI p) σ = some (if msP V p = 0 then 0 else 1, τ) ∧ TC V τ ∧ RN V (prV V) 46 (V 5) (fun s d => aq V s d * p / 100) τ := by
  obtain ⟨τ, h1, h2, h3⟩ := c_trialAt hw hp ht hr
  refine ⟨τ, ?_, ht.off (fun k k1 k2 => h3.cell (by simp; omega)), h2⟩
  unfold XX9_losesAt
  rw [h1]
  simp only [b1]
  have e : τ 46 5 = nI (msP V p) := h2.t5
  have l := msP_lt hw hp
  rw [e]
  by_cases q : msP V p = 0
  · rw [q, if_pos (by decide), if_pos rfl]
  · rw [if_neg (fun z => q (by have := (nI_lei (b := 0) (by omega) (by omega)).mp z; omega)), if_neg q]
theorem c_greatest {V : Vw} (hw : WF V) : ∀ m low high step n σ ask, high - low ≤ m → m < n → low ≤ high → high ≤ 300 → high - low + step ≤ 300 → msP V low = 0 → (∀ p, high < p → p ≤ 300 → msP V p ≠ 0) → TC V σ → RN V (prV V) 46 (V 5) ask σ → ∃ τ, LX9_greatestPercent_8 n (nI low) (nI high) (nI step) σ = some (nI (grP V 300), τ) := by
  intro m
  induction m with
  | zero =>
    intro low high step n σ ask hm hn h1 h2 h3 h4 h5 ht hr
    obtain ⟨n, rfl⟩ : ∃ q, n = q + 1 := ⟨n - 1, by omega⟩
    have e : grP V 300 = low := grP_eq h4 300 (by omega) (fun p a b => h5 p (by omega) b)
    refine ⟨σ, ?_⟩
    rw [LX9_greatestPercent_8, e]
    simp only [nI_lit]
    by_cases q : 300 ≤ step
    · rw [if_pos (by rw [nI_lei] <;> omega)]
    · rw [if_neg (by rw [nI_lei] <;> omega), if_pos (by rw [nI_lei] <;> omega)]
  | succ m ih =>
    intro low high step n σ ask hm hn h1 h2 h3 h4 h5 ht hr
    obtain ⟨n, rfl⟩ : ∃ q, n = q + 1 := ⟨n - 1, by omega⟩
    by_cases q : low = high
    · exact ih low high step (n + 1) σ ask (by omega) (by omega) h1 h2 h3 h4 h5 ht hr
    · rw [LX9_greatestPercent_8]
      simp only [nI_lit]
      rw [if_neg (by rw [nI_lei] <;> omega), if_neg (by rw [nI_lei] <;> omega), nI_add, nI_add, pk_div (by omega) (by omega) (by omega)]
      obtain ⟨τ, k1, k2, k3⟩ := c_losesAt hw (p := (low + high + 1) / 2) (by omega) ht hr
      simp only [lt]
      rw [k1]
      simp only [b2]
      by_cases z : msP V ((low + high + 1) / 2) = 0
      · rw [if_pos z, if_pos (show (0 : Int32) = nI 0 from rfl), nI_add]
        exact ih ((low + high + 1) / 2) high (step + 1) n τ _ (by omega) (by omega) (by omega) h2 (by omega) z h5 k2 k3
      · rw [if_neg z, if_neg (show ¬ (1 : Int32) = nI 0 by decide), nI_add, pk_sub (by omega)]
        exact ih low ((low + high + 1) / 2 - 1) (step + 1) n τ _ (by omega) (by omega) (by omega) (by omega) (by omega) h4 (fun p a b c => z (by have := msP_mono (V := V) (p := (low + high + 1) / 2) (q := p) (by omega); omega)) k2 k3
theorem m_reach_loop {V : Vw} (hw : WF V) : ∀ p n σ, p ≤ 300 → p < n → RM V σ → ∃ τ, LX10_reach_9 n (nI p) σ = some (nI (grP V p), τ) := by
  intro p
  induction p with
  | zero =>
    intro n σ hp hn hr
    obtain ⟨n, rfl⟩ : ∃ q, n = q + 1 := ⟨n - 1, by omega⟩
    obtain ⟨σ1, h1, h2, h3⟩ := m_layAsked hw hr (pct := 0) (by omega)
    obtain ⟨σ2, g1, g2, g3, g4⟩ := m_runAll hw h2 (fun s d hs hd => aqp_lt hw (p := 0) (by omega) hs hd) h3
    have e := m_allLost hw g2 (fun s d hs hd => (g3 s d hs hd).2.2)
    have e2 : XX10_allLost σ2 = some (nI (msP V 0)) := e
    refine ⟨σ2, ?_⟩
    rw [LX10_reach_9, if_neg (show ¬ nI 0 < 0 by decide), h1]
    simp only [b1]
    rw [g1]
    simp only []
    rw [e2, msP_zero]
    rfl
  | succ p ih =>
    intro n σ hp hn hr
    obtain ⟨n, rfl⟩ : ∃ q, n = q + 1 := ⟨n - 1, by omega⟩
    obtain ⟨σ1, h1, h2, h3⟩ := m_layAsked hw hr (pct := p + 1) (by omega)
    obtain ⟨σ2, g1, g2, g3, g4⟩ := m_runAll hw h2 (fun s d hs hd => aqp_lt hw (p := p + 1) (by omega) hs hd) h3
    have e := m_allLost hw g2 (fun s d hs hd => (g3 s d hs hd).2.2)
    have e2 : XX10_allLost σ2 = some (nI (msP V (p + 1))) := e
    have l := msP_lt hw (p := p + 1) (by omega)
    have eg : grP V (p + 1) = if msP V (p + 1) = 0 then p + 1 else grP V p := rfl
    rw [LX10_reach_9, if_neg (nI_pos (by omega)), h1]
    simp only [b1]
    rw [g1]
    simp only []
    rw [e2]
    simp only [lt]
    by_cases q : msP V (p + 1) = 0
    · rw [if_pos q] at eg
      rw [q, if_pos (show nI 0 = 0 from rfl), eg]
      exact ⟨_, rfl⟩
    · rw [if_neg q] at eg
      rw [if_neg (show ¬ nI (msP V (p + 1)) = 0 from nI_ne (b := 0) (by omega) (by omega) q), eg]
      have em : nI (p + 1) + (-1 : Int32) = nI p := by
        have : nI (p + 1) - 1 = nI p := nI_pred p
        rw [← this]
        grind
      rw [em]
      exact ih n σ2 (by omega) (by omega) g2
theorem op_reach {V : Vw} {σ : Sg} (h : Inv V σ) : stOK (XX9_reach σ) XX10_reach := by
  obtain ⟨hw, hc, hr⟩ := id h
  obtain ⟨σ1, a1, a2, a3⟩ := c_takeOver (prV_C V) (k := 46) (j := 38) (by omega) hw.s6 hw.d14 hc.2.1
  have t1 : TC V σ1 := hc.1.off (fun k k1 k2 => a3.cell (by simp; omega))
  obtain ⟨σ2, b1', b2', b3'⟩ := c_losesAt hw (p := 0) (by omega) t1 a2
  rw [if_pos (msP_zero V)] at b1'
  obtain ⟨σ3, c1⟩ := c_greatest hw 300 0 300 0 FUEL σ2 _ (by omega) (by unfold FUEL; omega) (by omega) (by omega) (by omega) (msP_zero V) (fun p h1 h2 => absurd h1 (by omega)) b2' b3'
  have e1 : XX9_reach σ = some (nI (grP V 300), σ3) := by
    unfold XX9_reach
    rw [a1]
    simp only [b1]
    rw [show (0 : Int32) = nI 0 from rfl, b1']
    simp only [b2]
    rw [if_pos (show (0 : Int32) = nI 0 from rfl)]
    have e : XX9_greatestPercent σ2 = some (nI (grP V 300), σ3) := c1
    rw [e]
  have F := frX9_reach e1
  have hp : PC V σ3 := hc.2.2.2.1.off F (fun k k1 k2 => by simp; omega)
  obtain ⟨τ, k1⟩ := m_reach_loop hw 300 FUEL (up σ3 64 0 0) (by omega) (by unfold FUEL; omega) (hr.near F rfl).1.th
  have e2 : XX10_reach σ3 = some (nI (grP V 300), τ) := k1
  exact ⟨_, _, _, e1, e2, V, hw, (hc.off F rfl (hc.2.1.frm F rfl) hp).far (frX10_reach e2) rfl, (hr.near F rfl).off (frX10_reach e2) rfl⟩
