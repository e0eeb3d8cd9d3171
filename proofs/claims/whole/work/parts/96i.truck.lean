/-! CALLS: truck -/
theorem isub {x y : Int32} (h1 : -2147483648 ≤ x.toInt - y.toInt) (h2 : x.toInt - y.toInt < 2147483648) : (x - y).toInt = x.toInt - y.toInt := by
  rw [Int32.toInt_sub]
  exact Int.bmod_eq_of_le (by omega) (by omega)
theorem tb_high {v n d : Nat} (hv : v < 2 ^ n) (hd : n ≤ d) : v.testBit d = false := Nat.testBit_lt_two_pow (Nat.lt_of_lt_of_le hv (Nat.pow_le_pow_right (by omega) hd))
theorem lda_out {V : Vw} (hw : WF V) {d s : Nat} (hd : V 0 0 ≤ d) : lda V d s = 0 := by
  show rload (V 4 s) (V 3 s) (V 5 s) (aq V s) d = 0
  unfold rload
  rw [if_neg]
  rw [tb_high (hw.v5.1 s) hd]
  decide
def ldc (V : Vw) (c : Nat) : Nat := if c / 14 < V 0 8 ∧ c % 14 < V 0 0 then lda V (c % 14) (c / 14) else 0
def glN (V : Vw) : Nat → Nat
  | 0 => 0
  | c + 1 => max (glN V c) (ldc V c)
theorem ldc_le {V : Vw} (hw : WF V) (c : Nat) : ldc V c ≤ 99 := by
  unfold ldc
  have := hw.t99
  split
  · rename_i q
    have := lda_le hw (d := c % 14) q.1
    omega
  · omega
theorem glN_ge {V : Vw} {c : Nat} : ∀ n, c < n → ldc V c ≤ glN V n
  | 0, h => absurd h (by omega)
  | n + 1, h => by
    show ldc V c ≤ max (glN V n) (ldc V n)
    by_cases q : c = n
    · rw [q]
      omega
    · have := glN_ge (V := V) (c := c) n (by omega)
      omega
theorem glN_le {V : Vw} (hw : WF V) : ∀ n, glN V n ≤ 99
  | 0 => Nat.zero_le _
  | n + 1 => by
    show max (glN V n) (ldc V n) ≤ 99
    have := glN_le hw n
    have := ldc_le hw n
    omega
theorem glN_mem {V : Vw} : ∀ n, glN V n = 0 ∨ ∃ s d, s < V 0 8 ∧ d < V 0 0 ∧ lda V d s = glN V n
  | 0 => Or.inl rfl
  | n + 1 => by
    have e : glN V (n + 1) = max (glN V n) (ldc V n) := rfl
    rw [e]
    by_cases q : glN V n ≤ ldc V n
    · rw [Nat.max_eq_right q]
      by_cases z : n / 14 < V 0 8 ∧ n % 14 < V 0 0
      · exact Or.inr ⟨n / 14, n % 14, z.1, z.2, (if_pos z).symm⟩
      · exact Or.inl (if_neg z)
    · rw [Nat.max_eq_left (by omega)]
      exact glN_mem n
theorem gl_all {V : Vw} (hw : WF V) {d s : Nat} (hs : s < V 0 8) : lda V d s ≤ glN V 84 := by
  have s6 := hw.s6
  have d14 := hw.d14
  by_cases hd : d < V 0 0
  · have h1 := glN_ge (V := V) (c := 14 * s + d) 84 (by omega)
    have e : ldc V (14 * s + d) = lda V d s := by
      unfold ldc
      have e1 : (14 * s + d) / 14 = s := by omega
      have e2 : (14 * s + d) % 14 = d := by omega
      rw [e1, e2, if_pos ⟨hs, hd⟩]
    omega
  · rw [lda_out hw (by omega)]
    exact Nat.zero_le _
theorem c_greatestLoad {V : Vw} (hw : WF V) {σ : Sg} (hr : RN V (prV V) 38 (V 5) (aq V) σ) : XX5_greatestLoad 38 σ = some (nI (glN V 84)) := by
  have cells : ∀ c, c < 84 → σ (38 + 3) c = nI (ldc V c) := fun c hc => by
    have ec : 14 * (c / 14) + c % 14 = c := by omega
    unfold ldc
    by_cases q : c / 14 < V 0 8 ∧ c % 14 < V 0 0
    · rw [if_pos q]
      have := (hr.2.2.1 (c / 14) (c % 14) q.1 q.2).1
      rw [ec] at this
      exact this
    · rw [if_neg q]
      have := hr.2.2.2.2.2.2 (c / 14) (c % 14) (by omega) (by omega) q
      rw [ec] at this
      exact this
  have key : ∀ m c n, c + m = 84 → m < n → LX5_greatestLoad_4 38 σ n (nI (glN V c)) (nI c) = some (nI (glN V 84)) := by
    intro m
    induction m with
    | zero =>
      intro c n hc hn
      obtain ⟨n, rfl⟩ : ∃ q, n = q + 1 := ⟨n - 1, by omega⟩
      have hc : c = 84 := by omega
      subst hc
      rw [LX5_greatestLoad_4, show (84 : Int32) = nI 84 from rfl, if_pos (by rw [nI_lei] <;> omega)]
    | succ m ih =>
      intro c n hc hn
      obtain ⟨n, rfl⟩ : ∃ q, n = q + 1 := ⟨n - 1, by omega⟩
      have k1 := ih (c + 1) n (by omega) (by omega)
      have g1 := glN_le hw c
      have g2 := ldc_le hw c
      have e : glN V (c + 1) = max (glN V c) (ldc V c) := rfl
      have em : (if nI (glN V c) < nI (ldc V c) then nI (ldc V c) else nI (glN V c)) = nI (glN V (c + 1)) := by
        rw [e]
        by_cases q : glN V c < ldc V c
        · rw [if_pos ((nI_lti (by omega) (by omega)).mpr q), Nat.max_eq_right (by omega)]
        · rw [if_neg (fun z => q ((nI_lti (by omega) (by omega)).mp z)), Nat.max_eq_left (by omega)]
      rw [LX5_greatestLoad_4, show (84 : Int32) = nI 84 from rfl, if_neg (by rw [nI_lei] <;> omega), if_pos ((ib_nI (by omega)).mpr (by omega)), nI_cl (by omega), cells c (by omega), em, lt_def, lt_def, nI_1]
      exact k1
  exact key 84 0 FUEL (by omega) (by unfold FUEL; omega)
/-- what the rounds cost with such a truck -/
def rcW (V : Vw) (t : Nat) : Nat := sumN (fun d => cdV V t (lda V d)) (V 0 0)
theorem rcW_le {V : Vw} (hw : WF V) (t : Nat) : rcW V t ≤ 336000 := by
  have h1 : rcW V t ≤ V 0 0 * 24000 := sumN_le (fun d _ => cd_le hw)
  have := hw.d14
  omega
theorem rcW_mono {V : Vw} (hw : WF V) {t t' : Nat} (hM : glN V 84 ≤ t) (h : t ≤ t') : rcW V t' ≤ rcW V t := sumN_le2 (fun d _ => by
  obtain ⟨r, hr⟩ := dp_ex hw (cap := t) (ld := lda V d) (fun s hs => by have := gl_all hw (d := d) hs; omega)
  obtain ⟨r', h1, h2⟩ := PT_mono hw h _ r (allS_lt _ _) hr
  have h3 : dpV V t' (lda V d) = some r' := h1
  show cdV V t' (lda V d) ≤ cdV V t (lda V d)
  unfold cdV
  rw [hr, h3]
  exact h2)
theorem c_roundsWith {V : Vw} (hw : WF V) {t : Nat} (ht9 : t ≤ 99) (hM : glN V 84 ≤ t) : ∀ {σ : Sg}, CI V σ → ∃ τ, XX5_roundsCostWith 38 (nI t) σ = some (nI (rcW V t), τ) ∧ CI V τ ∧ fr ((45, none) :: gS) σ τ := by
  have d14 := hw.d14
  have s6 := hw.s6
  have key : ∀ m d n σ, d + m = V 0 0 → m < n → CI V σ → ∃ τ, LX5_roundsCostWith_4 38 (nI t) n (nI (sumN (fun d => cdV V t (lda V d)) d)) (nI d) σ = some (nI (rcW V t), τ) ∧ CI V τ ∧ fr ((45, none) :: gS) σ τ := by
    intro m
    induction m with
    | zero =>
      intro d n σ hd hn hc
      obtain ⟨n, rfl⟩ : ∃ q, n = q + 1 := ⟨n - 1, by omega⟩
      have hd : d = V 0 0 := by omega
      subst hd
      refine ⟨σ, ?_, hc, fr.rf⟩
      rw [LX5_roundsCostWith_4, hc.1.1, if_pos (by rw [nI_lei] <;> omega)]
      rfl
    | succ m ih =>
      intro d n σ hd hn hc
      obtain ⟨n, rfl⟩ : ∃ q, n = q + 1 := ⟨n - 1, by omega⟩
      obtain ⟨σ1, a1, a2, a3⟩ := c_pickLoads (k := 38) (a := 38 + 7) (d := d) (by omega) (by omega) (σ := σ)
      have t1 : TC V σ1 := hc.1.off (fun k k1 k2 => a3.cell (by simp; omega))
      have p1 : PC V σ1 := hc.2.2.2.1.off a3 (fun k k1 k2 => by simp; omega)
      have hc1 : CI V σ1 := hc.off a3 rfl (hc.2.1.frm a3 rfl) p1
      have l1 : ∀ s, s < V 0 8 → σ1 (38 + 7) s = nI (lda V d s) := fun s hs => by
        rw [a2 s (by omega)]
        exact (hc.2.1.2.2.1 s d hs (by omega)).1
      obtain ⟨σ2, b1', b2', b3'⟩ := c_priceOf hw (a := 38 + 7) (by omega) (cap := t) (by omega) (ld := lda V d) (fun s hs => lda_lt hw hs) (fun s hs => by have := gl_all hw (d := d) hs; omega) t1 p1 l1
      have hc2 : CI V σ2 := hc1.off b3' rfl (hc1.2.1.frm b3' rfl) b2'
      obtain ⟨τ, k1, k2, k3⟩ := ih (d + 1) n σ2 (by omega) (by omega) hc2
      refine ⟨τ, ?_, k2, fr.tr (a3.mono (by simp)) (fr.tr (b3'.mono (by simp)) k3)⟩
      rw [LX5_roundsCostWith_4, hc.1.1, if_neg (by rw [nI_lei] <;> omega), a1, b1s, b1', b2s, lt_def, lt_def, nI_add, nI_1]
      exact k1
  intro σ hc
  exact key (V 0 0) 0 FUEL σ (by omega) (by unfold FUEL; omega) hc
theorem arS_big {V : Vw} (hw : WF V) {t s d : Nat} (hs : s < V 0 8) (hd : d < V 0 0) (h : t < lda V d s) : arS V t (lda V) (V 0 0) = none := by
  have al : (allS (lda V d) (V 0 8)).testBit s = true := by
    rw [allS_bit]
    simp [hs]
    omega
  have h1 : dpV V t (lda V d) = none := PT_none hw h _ (allS_lt _ _) al
  have h2 : arS V t (lda V) (d + 1) = none := by
    show (match arS V t (lda V) d, dpV V t (lda V d) with
    | some a, some r => some (a + r.1)
    | _, _ => none) = none
    rw [h1]
    cases arS V t (lda V) d <;> rfl
  have := arS_none h2 (V 0 0 - (d + 1))
  rw [show d + 1 + (V 0 0 - (d + 1)) = V 0 0 by omega] at this
  exact this
/-- stocks and what is lost, what they cost -/
def slV (V : Vw) : Nat := V 0 6 * stT V (V 5) (aq V) + V 0 7 * msT V (V 5) (aq V)
theorem sl_le {V : Vw} (hw : WF V) : V 0 6 * stT V (V 5) (aq V) ≤ 1000000 ∧ V 0 7 * msT V (V 5) (aq V) ≤ 10000000 := by
  have s6 := hw.s6
  have d14 := hw.d14
  have h1 : stT V (V 5) (aq V) ≤ V 0 8 * (V 0 0 * 1000) := sumN_le (fun s hs => sumN_le (fun d hd => by
    have := stk_lt hw (v := V 5 s) (A := aq V s) (d := d + 1) hs
    show stk (V 4 s) (V 3 s) (V 5 s) (aq V s) (d + 1) ≤ 1000
    omega))
  have h2 : msT V (V 5) (aq V) ≤ V 0 8 * (V 0 0 * 750) := sumN_le (fun s hs => sumN_le (fun d hd => by
    have h2 : rmiss (V 4 s) (V 3 s) (V 5 s) (aq V s) d ≤ aq V s d := rmiss_le
    have := aq_le hw hs hd
    show rmiss (V 4 s) (V 3 s) (V 5 s) (aq V s) d ≤ 750
    omega))
  have h3 : V 0 8 * (V 0 0 * 1000) ≤ 6 * (14 * 1000) := Nat.mul_le_mul s6 (Nat.mul_le_mul_right _ d14)
  have h4 : V 0 8 * (V 0 0 * 750) ≤ 6 * (14 * 750) := Nat.mul_le_mul s6 (Nat.mul_le_mul_right _ d14)
  have h5 : V 0 6 * stT V (V 5) (aq V) ≤ 9 * 84000 := Nat.mul_le_mul hw.ho (by omega)
  have h6 : V 0 7 * msT V (V 5) (aq V) ≤ 99 * 63000 := Nat.mul_le_mul hw.lo (by omega)
  omega
def okT (V : Vw) (c t : Nat) : Bool := decide (glN V 84 ≤ t ∧ rcW V t + slV V ≤ c)
theorem ok_up {V : Vw} (hw : WF V) {c t t' : Nat} (h : okT V c t = true) (ht : t ≤ t') : okT V c t' = true := by
  unfold okT at h ⊢
  rw [decide_eq_true_eq] at h ⊢
  have := rcW_mono hw h.1 ht
  omega
theorem fnd_eq {p : Nat → Bool} {l : Nat} (hl : p l = true) : ∀ m b, b ≤ l → l < b + m → (∀ t, b ≤ t → t < l → p t = false) → fnd p m b = l
  | 0, b, h1, h2, _ => absurd h2 (by omega)
  | m + 1, b, h1, h2, h3 => by
    show (if p b then b else fnd p m (b + 1)) = l
    by_cases q : b = l
    · rw [q, if_pos hl]
    · rw [if_neg (by rw [h3 b (Nat.le_refl _) (by omega)]; decide)]
      exact fnd_eq hl m (b + 1) (by omega) (by omega) (fun t h4 h5 => h3 t (by omega) h5)
theorem fnd_no {p : Nat → Bool} : ∀ m b, (∀ t, b ≤ t → t < b + m → p t = false) → fnd p m b = b + m
  | 0, b, _ => rfl
  | m + 1, b, h => by
    show (if p b then b else fnd p m (b + 1)) = b + (m + 1)
    rw [if_neg (by rw [h b (Nat.le_refl _) (by omega)]; decide), fnd_no m (b + 1) (fun t h1 h2 => h t (by omega) (by omega))]
    omega
def spT (V : Vw) (c : Nat) : Int32 := if fnd (okT V c) 99 1 = 100 then -1 else nI (fnd (okT V c) 99 1)
theorem m_truck_loop {V : Vw} (hw : WF V) {c : Nat} (hc : c < 2147483648) : ∀ m t n σ, t + m = 100 → m < n → 1 ≤ t → RA V σ → runM V (V 5) (aq V) σ → (∀ u, 1 ≤ u → u < t → okT V c u = false) → ∃ τ, LX10_truck_18 (nI c) n (nI t) σ = some (spT V c, τ) := by
  have sl := sl_le hw
  intro m
  induction m with
  | zero =>
    intro t n σ ht hn h1 hr hu hno
    obtain ⟨n, rfl⟩ : ∃ q, n = q + 1 := ⟨n - 1, by omega⟩
    have e : fnd (okT V c) 99 1 = 100 := fnd_no 99 1 (fun u a b => hno u a (by omega))
    refine ⟨σ, ?_⟩
    rw [LX10_truck_18, show (99 : Int32) = nI 99 from rfl, if_pos (by rw [nI_lti] <;> omega)]
    unfold spT
    rw [if_pos e]
  | succ m ih =>
    intro t n σ ht hn h1 hr hu hno
    obtain ⟨n, rfl⟩ : ∃ q, n = q + 1 := ⟨n - 1, by omega⟩
    obtain ⟨σ1, a1, a2, a3⟩ := m_allRounds hw (cap := t) (by omega) (L := lda V) (fun d s hs => lda_lt hw hs) hr (fun s d hs hd => (hu s d hs hd).1)
    have hu1 : runM V (V 5) (aq V) σ1 := fun s e hs he => by
      unfold rowM
      rw [a3.cell (k := 80) rfl, a3.cell (k := 81) rfl, a3.cell (k := 82) rfl]
      exact hu s e hs he
    have n7 : XX10_number (7 : Int32) σ1 = some (nI (V 0 7)) := num_at a2.1 (i := 7) (by omega)
    have st := m_allStocks hw a2.1 (fun s d hs hd => (hu1 s d hs hd).2.1)
    have lo := m_allLost hw a2.1 (fun s d hs hd => (hu1 s d hs hd).2.2)
    have st' : XX10_allStocks σ1 = some (nI (V 0 6 * stT V (V 5) (aq V))) := st
    have lo' : XX10_allLost σ1 = some (nI (msT V (V 5) (aq V))) := lo
    have go : okT V c t = false → ∃ τ, LX10_truck_18 (nI c) n (nI (t + 1)) σ1 = some (spT V c, τ) := fun hf => ih (t + 1) n σ1 (by omega) (by omega) (by omega) a2 hu1 (fun u b1 b2 => by
      by_cases q : u = t
      · rw [q]
        exact hf
      · exact hno u b1 (by omega))
    rw [LX10_truck_18, show (99 : Int32) = nI 99 from rfl, if_neg (by rw [nI_lti] <;> omega), a1, b2s]
    simp only [lt]
    rw [nI_1]
    by_cases q : glN V 84 ≤ t
    · have rl := rcW_le hw t
      have es : arS V t (lda V) (V 0 0) = some (rcW V t) := arS_sum hw (fun d s hs => by have := gl_all hw (d := d) hs; omega) (V 0 0)
      rw [es, st', b1s, n7, b1s, lo', b1s, pk_mul]
      show ∃ τ, (if nI (rcW V t) < 0 then _ else (if nI c < nI (rcW V t) + nI (V 0 6 * stT V (V 5) (aq V)) + nI (V 0 7 * msT V (V 5) (aq V)) then _ else _)) = _
      rw [if_neg (nI_pos (by omega)), nI_add, nI_add]
      by_cases z : rcW V t + slV V ≤ c
      · have ok : okT V c t = true := by
          unfold okT
          rw [decide_eq_true_eq]
          exact ⟨q, z⟩
        have e : fnd (okT V c) 99 1 = t := fnd_eq ok 99 1 h1 (by omega) (fun u b1 b2 => hno u b1 b2)
        refine ⟨σ1, ?_⟩
        unfold slV at z
        rw [if_neg (by rw [nI_lti] <;> omega)]
        unfold spT
        rw [e, if_neg (by omega)]
      · have nok : okT V c t = false := by
          unfold okT
          rw [decide_eq_false_iff_not]
          exact fun y => z y.2
        unfold slV at z
        rw [if_pos (by rw [nI_lti] <;> omega)]
        exact go nok
    · have nok : okT V c t = false := by
        unfold okT
        rw [decide_eq_false_iff_not]
        exact fun y => q y.1
      rcases glN_mem (V := V) 84 with z | ⟨s, d, b1, b2, b3⟩
      · omega
      · rw [arS_big hw b1 b2 (by omega), if_pos (show iA none < 0 by decide)]
        exact go nok
theorem c_truck_loop {V : Vw} (hw : WF V) {c : Nat} {mo : Int32} (hmo : mo.toInt = (c : Int) - (slV V : Nat)) : ∀ m low high step n σ, high - low ≤ m → m < n → low ≤ high → high ≤ 99 → 1 ≤ low → high - low + step ≤ 98 → glN V 84 ≤ low → okT V c high = true → (∀ u, 1 ≤ u → u < low → okT V c u = false) → CI V σ → ∃ τ, LX9_leastTruck_9 mo n (nI low) (nI high) (nI step) σ = some (spT V c, τ) ∧ CI V τ ∧ fr ((45, none) :: gS) σ τ := by
  intro m
  induction m with
  | zero =>
    intro low high step n σ hm hn h1 h2 h3 h4 hM ok no hc
    obtain ⟨n, rfl⟩ : ∃ q, n = q + 1 := ⟨n - 1, by omega⟩
    have e : low = high := by omega
    subst e
    have ef : fnd (okT V c) 99 1 = low := fnd_eq ok 99 1 h3 (by omega) (fun u b1 b2 => no u b1 b2)
    refine ⟨σ, ?_, hc, fr.rf⟩
    rw [LX9_leastTruck_9, show (99 : Int32) = nI 99 from rfl, if_neg (by rw [nI_lei] <;> omega), if_pos (by rw [nI_lei] <;> omega)]
    unfold spT
    rw [ef, if_neg (by omega)]
  | succ m ih =>
    intro low high step n σ hm hn h1 h2 h3 h4 hM ok no hc
    by_cases q : low = high
    · exact ih low high step n σ (by omega) (by omega) h1 h2 h3 h4 hM ok no hc
    obtain ⟨n, rfl⟩ : ∃ q, n = q + 1 := ⟨n - 1, by omega⟩
    obtain ⟨σ1, a1, a2, a3⟩ := c_roundsWith hw (t := (low + high) / 2) (by omega) (by omega) hc
    have rl := rcW_le hw ((low + high) / 2)
    rw [LX9_leastTruck_9, show (99 : Int32) = nI 99 from rfl, if_neg (by rw [nI_lei] <;> omega), if_neg (by rw [nI_lei] <;> omega), nI_add, show (2 : Int32) = nI 2 from rfl, pk_div (by omega) (by omega) (by omega), lt_def, a1, b2s]
    simp only [lt]
    rw [nI_1, nI_1]
    by_cases z : rcW V ((low + high) / 2) + slV V ≤ c
    · have ok2 : okT V c ((low + high) / 2) = true := by
        unfold okT
        rw [decide_eq_true_eq]
        exact ⟨by omega, z⟩
      obtain ⟨τ, k1, k2, k3⟩ := ih low ((low + high) / 2) (step + 1) n σ1 (by omega) (by omega) (by omega) (by omega) h3 (by omega) hM ok2 no a2
      refine ⟨τ, ?_, k2, a3.tr k3⟩
      rw [if_neg (fun y => by
        have h5 := Int32.lt_iff_toInt_lt.mp y
        rw [hmo, nI_toInt (by omega)] at h5
        omega)]
      exact k1
    · have no2 : ∀ u, 1 ≤ u → u < (low + high) / 2 + 1 → okT V c u = false := fun u b1 b2 => by
        cases hu : okT V c u with
        | false => rfl
        | true =>
          have := ok_up hw hu (t' := (low + high) / 2) (by omega)
          unfold okT at this
          rw [decide_eq_true_eq] at this
          exact absurd this.2 z
      obtain ⟨τ, k1, k2, k3⟩ := ih ((low + high) / 2 + 1) high (step + 1) n σ1 (by omega) (by omega) (by omega) (by omega) (by omega) (by omega) (by omega) ok no2 a2
      refine ⟨τ, ?_, k2, a3.tr k3⟩
      rw [if_pos (Int32.lt_iff_toInt_lt.mpr (by
        rw [hmo, nI_toInt (by omega)]
        omega))]
      exact k1
theorem op_truck {V : Vw} {σ : Sg} (h : Inv V σ) (x : Int32) : stOK (XX9_truck x σ) (XX10_truck x) := by
  obtain ⟨hw, hc, hr⟩ := id h
  have sl := sl_le hw
  by_cases hx : 0 ≤ x
  · have hx' : ¬ x < 0 := fun q => lt_irr q hx
    obtain ⟨c, hcl, rfl⟩ := nI_of hx'
    have stock : XX5_stockCost 38 σ = some (nI (V 0 6 * stT V (V 5) (aq V))) := by
      unfold XX5_stockCost
      rw [hc.2.1.t6, hc.1.2.2.2.2.1, pk_mul]
    have lost : XX5_lostCost 38 σ = some (nI (V 0 7 * msT V (V 5) (aq V))) := by
      unfold XX5_lostCost
      rw [hc.2.1.t5, hc.1.2.2.2.2.2.1, pk_mul]
    have g99 := glN_le hw 84
    have i1 : (nI c - nI (V 0 6 * stT V (V 5) (aq V))).toInt = (c : Int) - (V 0 6 * stT V (V 5) (aq V) : Nat) := by
      rw [isub, nI_toInt (by omega), nI_toInt (by omega)] <;> rw [nI_toInt (by omega), nI_toInt (by omega)] <;> omega
    have hmo : (nI c - nI (V 0 6 * stT V (V 5) (aq V)) - nI (V 0 7 * msT V (V 5) (aq V))).toInt = (c : Int) - (slV V : Nat) := by
      have e : slV V = V 0 6 * stT V (V 5) (aq V) + V 0 7 * msT V (V 5) (aq V) := rfl
      rw [isub, i1, nI_toInt (by omega)]
      · omega
      · rw [i1, nI_toInt (by omega)]
        omega
      · rw [i1, nI_toInt (by omega)]
        omega
    obtain ⟨σ1, a1, a2, a3⟩ := c_roundsWith hw (t := 99) (by omega) g99 hc
    have rl := rcW_le hw 99
    have cl : ∃ σ2, XX9_truck (nI c) σ = some (spT V c, σ2) ∧ CI V σ2 := by
      unfold XX9_truck
      rw [if_pos hx, stock, b1s, lost, b1s, lt_def, show (99 : Int32) = nI 99 from rfl, a1, b2s]
      by_cases z : rcW V 99 + slV V ≤ c
      · have ok : okT V c 99 = true := by
          unfold okT
          rw [decide_eq_true_eq]
          exact ⟨g99, z⟩
        have em : (if (1 : Int32) < nI (glN V 84) then nI (glN V 84) else 1) = nI (max 1 (glN V 84)) := by
          by_cases q : 1 < glN V 84
          · rw [if_pos (show (1 : Int32) < nI (glN V 84) from (nI_lti (a := 1) (by omega) (by omega)).mpr q), Nat.max_eq_right (by omega)]
          · rw [if_neg (show ¬ (1 : Int32) < nI (glN V 84) from fun y => q ((nI_lti (a := 1) (by omega) (by omega)).mp y)), Nat.max_eq_left (by omega)]
            rfl
        obtain ⟨σ2, k1, k2, k3⟩ := c_truck_loop hw hmo (99 - max 1 (glN V 84)) (max 1 (glN V 84)) 99 0 FUEL σ1 (by omega) (by unfold FUEL; omega) (by omega) (by omega) (by omega) (by omega) (by omega) ok (fun u b1 b2 => by
          unfold okT
          rw [decide_eq_false_iff_not]
          omega) a2
        refine ⟨σ2, ?_, k2⟩
        rw [if_pos (Int32.le_iff_toInt_le.mpr (by
          rw [hmo, nI_toInt (by omega)]
          omega)), c_greatestLoad hw a2.2.1, b1s, em]
        have k1' : XX9_leastTruck (nI (max 1 (glN V 84))) (nI c - nI (V 0 6 * stT V (V 5) (aq V)) - nI (V 0 7 * msT V (V 5) (aq V))) σ1 = some (spT V c, σ2) := k1
        rw [k1', b2s]
      · have e : fnd (okT V c) 99 1 = 100 := fnd_no 99 1 (fun u a b => by
          cases hu : okT V c u with
          | false => rfl
          | true =>
            have := ok_up hw hu (t' := 99) (by omega)
            unfold okT at this
            rw [decide_eq_true_eq] at this
            exact absurd this.2 z)
        refine ⟨σ1, ?_, a2⟩
        rw [if_neg (fun y => by
          have h5 := Int32.le_iff_toInt_le.mp y
          rw [hmo, nI_toInt (by omega)] at h5
          omega)]
        unfold spT
        rw [if_pos e]
    obtain ⟨σ2, e1, hc2⟩ := cl
    have F := frX9_truck e1
    have hr2 : RA V (up σ2 64 0 0) := (hr.near F rfl).th
    obtain ⟨τ1, g1, g2, g3, g4⟩ := m_layRun hw hr2.1
    have hr3 : RA V τ1 := hr2.off (frX10_layRun g1) rfl
    obtain ⟨τ, k1⟩ := m_truck_loop hw (c := c) (by omega) 99 1 FUEL τ1 (by omega) (by unfold FUEL; omega) (by omega) hr3 g4 (fun u b1 b2 => absurd b1 (by omega))
    have e2 : XX10_truck (nI c) σ2 = some (spT V c, τ) := by
      unfold XX10_truck
      rw [lt_def, if_pos hx, g1, b1s]
      exact k1
    exact ⟨_, _, _, e1, e2, V, hw, hc2.far (frX10_truck e2) rfl, (hr.near F rfl).off (frX10_truck e2) rfl⟩
  · have e1 : XX9_truck x σ = some (-2, σ) := by
      unfold XX9_truck
      rw [if_neg hx]
    have e2 : XX10_truck x σ = some (-2, up σ 64 0 0) := by
      unfold XX10_truck
      rw [lt_def, if_neg hx]
    exact ⟨_, _, _, e1, e2, V, h.look (fr_upf (a := 64) (i := 0)) rfl rfl⟩
