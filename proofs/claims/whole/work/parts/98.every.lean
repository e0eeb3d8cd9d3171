/-! CALLS: every; a shop by itself -/
def drN (V : Vw) (s v : Nat) (d : Nat) : Nat := if rload (V 4 s) (V 3 s) v (aq V s) d = 0 then 0 else 1
/-- what a shop by itself costs -/
def soV (V : Vw) (s v : Nat) : Nat := sumN (drN V s v) (V 0 0) * rpV V (2 ^ s) + V 0 6 * sumN (fun d => stk (V 4 s) (V 3 s) v (aq V s) (d + 1)) (V 0 0) + V 0 7 * sumN (rmiss (V 4 s) (V 3 s) v (aq V s)) (V 0 0)
theorem pow_lt8 {V : Vw} {s : Nat} (hs : s < V 0 8) : 2 ^ s < 2 ^ V 0 8 := Nat.pow_lt_pow_right (by omega) hs
theorem soV_lt {V : Vw} (hw : WF V) {s v : Nat} (hs : s < V 0 8) : soV V s v < 10000000 := by
  have d14 := hw.d14
  have h1 : sumN (drN V s v) (V 0 0) ≤ V 0 0 * 1 := sumN_le (fun d _ => by unfold drN; split <;> omega)
  have h2 : sumN (fun d => stk (V 4 s) (V 3 s) v (aq V s) (d + 1)) (V 0 0) ≤ V 0 0 * 1000 := sumN_le (fun d _ => by
    have := stk_lt hw (v := v) (A := aq V s) (d := d + 1) hs
    show stk (V 4 s) (V 3 s) v (aq V s) (d + 1) ≤ 1000
    omega)
  have h3 : sumN (rmiss (V 4 s) (V 3 s) v (aq V s)) (V 0 0) ≤ V 0 0 * 750 := sumN_le (fun d hd => by
    have h2 : rmiss (V 4 s) (V 3 s) v (aq V s) d ≤ aq V s d := rmiss_le
    have := aq_le hw hs hd
    omega)
  have h4 := rp_le hw (pow_lt8 hs)
  have h5 : sumN (drN V s v) (V 0 0) * rpV V (2 ^ s) ≤ 14 * 4000 := Nat.mul_le_mul (by omega) h4
  have h6 : V 0 6 * sumN (fun d => stk (V 4 s) (V 3 s) v (aq V s) (d + 1)) (V 0 0) ≤ 9 * 14000 := Nat.mul_le_mul hw.ho (by omega)
  have h7 : V 0 7 * sumN (rmiss (V 4 s) (V 3 s) v (aq V s)) (V 0 0) ≤ 99 * 10500 := Nat.mul_le_mul hw.lo (by omega)
  unfold soV
  omega
theorem rl_lt {V : Vw} (hw : WF V) {s v d : Nat} (hs : s < V 0 8) : rload (V 4 s) (V 3 s) v (aq V s) d < 1000 := by
  have h1 : rload (V 4 s) (V 3 s) v (aq V s) d ≤ V 3 s := rload_le
  have := (hw.sh hs).2.2.2.1
  have := hw.t99
  omega
theorem ca_loop {V : Vw} (hw : WF V) {σ : Sg} (ht : TC V σ) {k s v : Nat} (hs : s < V 0 8) (h3 : ∀ d, d < V 0 0 → σ (k + 3) (14 * s + d) = nI (rload (V 4 s) (V 3 s) v (aq V s) d)) (K : Int32 → Option Int32) : ∀ m d n, d + m = V 0 0 → m < n → LX5_costAlone_4 k (nI s) σ K n (nI (sumN (drN V s v) d)) (nI d) = K (nI (sumN (drN V s v) (V 0 0))) := by
  have s6 := hw.s6
  have d14 := hw.d14
  intro m
  induction m with
  | zero =>
    intro d n hd hn
    obtain ⟨n, rfl⟩ : ∃ q, n = q + 1 := ⟨n - 1, by omega⟩
    have hd : d = V 0 0 := by omega
    subst hd
    rw [LX5_costAlone_4, ht.1, if_pos (by rw [nI_lei] <;> omega)]
  | succ m ih =>
    intro d n hd hn
    obtain ⟨n, rfl⟩ : ∃ q, n = q + 1 := ⟨n - 1, by omega⟩
    have k1 := ih (d + 1) n (by omega) (by omega)
    have es : sumN (drN V s v) (d + 1) = sumN (drN V s v) d + drN V s v d := rfl
    have rl := rl_lt hw (v := v) (d := d) hs
    rw [es] at k1
    rw [LX5_costAlone_4, ht.1, if_neg (by rw [nI_lei] <;> omega), c_cellOf, b1s, if_pos ((ib_nI (by omega)).mpr (by omega)), nI_cl (by omega), h3 d (by omega)]
    simp only [lt]
    rw [nI_1]
    by_cases q : rload (V 4 s) (V 3 s) v (aq V s) d = 0
    · have e : drN V s v d = 0 := if_pos q
      rw [e] at k1
      rw [q, if_pos (show nI 0 ≤ 0 by decide), show (0 : Int32) = nI 0 from rfl, nI_add]
      exact k1
    · have e : drN V s v d = 1 := if_neg q
      rw [e] at k1
      rw [if_neg (nI_nle (by omega) (by omega)), nI_1]
      exact k1
theorem c_costAlone {V : Vw} (hw : WF V) {σ : Sg} (ht : TC V σ) (hp : PC V σ) {pr : (Nat → Int32) → Int32} {k : Nat} {vis : Nat → Nat} (hr : RN V pr k vis (aq V) σ) {s : Nat} (hs : s < V 0 8) : XX5_costAlone k (nI s) σ = some (nI (soV V s (vis s))) := by
  have s6 := hw.s6
  have d14 := hw.d14
  have p6 := p64 s6
  have pl := pow_lt8 hs
  have sh1 : (1 : Int32) <<< (nI s &&& 31) = nI (2 ^ s) := nx_1shl (by omega)
  have gp : XX2_roundPrice (nI (2 ^ s)) σ = some (nI (rpV V (2 ^ s))) := by
    unfold XX2_roundPrice
    rw [if_pos ((ib_nI (by omega)).mpr (by omega)), nI_cl (by omega), hp.1 _ pl]
  unfold XX5_costAlone
  rw [lt_def]
  refine Eq.trans (ca_loop hw ht hs (fun d hd => (hr.2.2.1 s d hs hd).1) _ (V 0 0) 0 FUEL (by omega) (by unfold FUEL; omega)) ?_
  rw [sh1, gp, b1s, c_sumOf (k := k) (a := k + 4) (by omega) ht.1 d14 (fun d hd => (hr.2.2.1 s d hs hd).2.1), b1s, c_sumOf (k := k) (a := k + 5) (by omega) ht.1 d14 (fun d hd => (hr.2.2.1 s d hs hd).2.2), b1s, ht.2.2.2.2.1, ht.2.2.2.2.2.1, pk_mul, pk_mul, pk_mul, nI_add, nI_add]
  rfl
theorem ms_loop {V : Vw} (hw : WF V) {σ : Sg} (hr : RA V σ) {s v B : Nat} (hs : s < V 0 8) (h80 : ∀ d, d < V 0 0 → σ 80 (14 * s + d) = nI (rload (V 4 s) (V 3 s) v (aq V s) d)) : ∀ m d n, d + m = V 0 0 → m < n → LX10_soloCost_35 (nI s) σ n (nI (B + sumN (drN V s v) d * rpV V (2 ^ s))) (nI d) = some (nI (B + sumN (drN V s v) (V 0 0) * rpV V (2 ^ s)), σ) := by
  have s6 := hw.s6
  have d14 := hw.d14
  have p6 := p64 s6
  have pl := pow_lt8 hs
  have sh1 : (1 : Int32) <<< (nI s &&& 31) = nI (2 ^ s) := nx_1shl (by omega)
  have ec : cosV V (2 ^ s) = rpV V (2 ^ s) := if_neg (by have := Nat.two_pow_pos s; omega)
  intro m
  induction m with
  | zero =>
    intro d n hd hn
    obtain ⟨n, rfl⟩ : ∃ q, n = q + 1 := ⟨n - 1, by omega⟩
    have hd : d = V 0 0 := by omega
    subst hd
    rw [LX10_soloCost_35]
    unfold XX10_days
    rw [b1s, hr.1.1 0 (by omega), if_pos (by rw [nI_lei] <;> omega)]
  | succ m ih =>
    intro d n hd hn
    obtain ⟨n, rfl⟩ : ∃ q, n = q + 1 := ⟨n - 1, by omega⟩
    have k1 := ih (d + 1) n (by omega) (by omega)
    have es : sumN (drN V s v) (d + 1) = sumN (drN V s v) d + drN V s v d := rfl
    have rl := rl_lt hw (v := v) (d := d) hs
    rw [es, Nat.add_mul, ← Nat.add_assoc] at k1
    rw [LX10_soloCost_35]
    unfold XX10_days
    rw [b1s, hr.1.1 0 (by omega), if_neg (by rw [nI_lei] <;> omega), show (14 : Int32) = nI 14 from rfl, pk_mul, nI_add, if_pos ((ib_nI (by omega)).mpr (by omega)), nI_cl (by omega), h80 d (by omega), sh1, m_costOfSet hw hr.1 hr.2 pl, ec]
    simp only [lt]
    rw [nI_1]
    by_cases q : rload (V 4 s) (V 3 s) v (aq V s) d = 0
    · have e : drN V s v d = 0 := if_pos q
      rw [e, Nat.zero_mul] at k1
      rw [q, if_pos (show nI 0 ≤ 0 by decide), show (0 : Int32) = nI 0 from rfl, nI_add]
      exact k1
    · have e : drN V s v d = 1 := if_neg q
      rw [e, Nat.one_mul] at k1
      rw [if_neg (nI_nle (by omega) (by omega)), b1s, nI_add]
      exact k1
theorem m_soloCost {V : Vw} (hw : WF V) {σ : Sg} (hr : RA V σ) (ha : askM V (aq V) σ) {s v : Nat} (hs : s < V 0 8) (hv : v < 2147483648) : ∃ τ, XX10_soloCost (nI s) (nI v) σ = some (nI (soV V s v), τ) ∧ RA V τ ∧ askM V (aq V) τ ∧ (∀ e, e < V 0 0 → rowM V s v (aq V s) e τ) := by
  have d14 := hw.d14
  obtain ⟨τ, h1, h2, h3, -, h5⟩ := m_runShop hw hr.1 hs hv (fun d hd => hla hw s d hs hd) (fun e he => ha s e hs he)
  have hr1 : RA V τ := hr.off h5 rfl
  have n6 : XX10_number (6 : Int32) τ = some (nI (V 0 6)) := num_at hr1.1 (i := 6) (by omega)
  have n7 : XX10_number (7 : Int32) τ = some (nI (V 0 7)) := num_at hr1.1 (i := 7) (by omega)
  refine ⟨τ, ?_, hr1, fun t e ht he => by rw [h5.cell (k := 79) rfl]; exact ha t e ht he, h3⟩
  unfold XX10_soloCost
  rw [h1, b1s, n6, b1s, m_stocks hw hr1.1 hs (fun d hd => (h3 d hd).2.1), b1s, n7, b1s, m_lostBy hw hr1.1 hs (fun d hd => (h3 d hd).2.2), b1s, lt_def, pk_mul, pk_mul, nI_add]
  have k := ms_loop hw hr1 (B := V 0 6 * sumN (fun d => stk (V 4 s) (V 3 s) v (aq V s) (d + 1)) (V 0 0) + V 0 7 * sumN (rmiss (V 4 s) (V 3 s) v (aq V s)) (V 0 0)) hs (fun d hd => (h3 d hd).1) (V 0 0) 0 FUEL (by omega) (by unfold FUEL; omega)
  have e0 : sumN (drN V s v) 0 * rpV V (2 ^ s) = 0 := Nat.zero_mul _
  rw [e0, Nat.add_zero] at k
  refine Eq.trans k ?_
  have e : V 0 6 * sumN (fun d => stk (V 4 s) (V 3 s) v (aq V s) (d + 1)) (V 0 0) + V 0 7 * sumN (rmiss (V 4 s) (V 3 s) v (aq V s)) (V 0 0) + sumN (drN V s v) (V 0 0) * rpV V (2 ^ s) = soV V s v := by
    unfold soV
    omega
  rw [e]
/-- every p-th day -/
def evB (D p : Nat) : Nat → Nat → Nat → Nat
  | 0, acc, _ => acc
  | m + 1, acc, d => if D ≤ d then acc else evB D p m (acc ||| 2 ^ d) (d + p)
theorem evB_lt {D p : Nat} : ∀ m acc d, acc < 2 ^ D → evB D p m acc d < 2 ^ D
  | 0, _, _, h => h
  | m + 1, acc, d, h => by
    show (if D ≤ d then acc else evB D p m (acc ||| 2 ^ d) (d + p)) < 2 ^ D
    split
    · exact h
    · exact evB_lt m _ _ (Nat.or_lt_two_pow h (Nat.pow_lt_pow_right (by omega) (by omega)))
theorem ev_loops {D p : Nat} (hD : D ≤ 14) (hp : 1 ≤ p) (hp7 : p ≤ 7) {σ τ : Sg} (h1 : σ 2 0 = nI D) (h2 : τ 65 0 = nI D) : ∀ m acc d n, D ≤ d + m → d ≤ 100 → m < n → LX3_daysBy_12 (nI p) σ n (nI acc) (nI d) = some (nI (evB D p m acc d)) ∧ LX10_everySet_5 (nI p) τ n (nI acc) (nI d) = some (nI (evB D p m acc d)) := by
  intro m
  induction m with
  | zero =>
    intro acc d n hd h100 hn
    obtain ⟨n, rfl⟩ : ∃ q, n = q + 1 := ⟨n - 1, by omega⟩
    rw [LX3_daysBy_12, LX10_everySet_5]
    unfold XX10_days
    rw [b1s, h1, h2, if_pos (by rw [nI_lei] <;> omega), if_pos (by rw [nI_lei] <;> omega)]
    exact ⟨rfl, rfl⟩
  | succ m ih =>
    intro acc d n hd h100 hn
    obtain ⟨n, rfl⟩ : ∃ q, n = q + 1 := ⟨n - 1, by omega⟩
    have e : evB D p (m + 1) acc d = if D ≤ d then acc else evB D p m (acc ||| 2 ^ d) (d + p) := rfl
    rw [LX3_daysBy_12, LX10_everySet_5, e]
    unfold XX10_days
    rw [b1s, h1, h2]
    by_cases q : D ≤ d
    · rw [if_pos q, if_pos (by rw [nI_lei] <;> omega), if_pos (by rw [nI_lei] <;> omega)]
      exact ⟨rfl, rfl⟩
    · have sh1 : (1 : Int32) <<< (nI d &&& 31) = nI (2 ^ d) := nx_1shl (by omega)
      rw [if_neg q, if_neg (by rw [nI_lei] <;> omega), if_neg (by rw [nI_lei] <;> omega), sh1, nx_or, lt_def, lt_def, lt_def, lt_def, nI_add]
      exact ih (acc ||| 2 ^ d) (d + p) n (by omega) (by omega) (by omega)
def evV (V : Vw) (p f : Nat) : Nat := evB (V 0 0) p (V 0 0) 0 f
theorem evV_lt (V : Vw) (p f : Nat) : evV V p f < 2 ^ V 0 0 := evB_lt _ _ _ (Nat.two_pow_pos _)
abbrev EA : Type := Option (Nat × Nat × Nat)
def evS (V : Vw) (s p f : Nat) (acc : EA) : EA := match acc with
  | none => some (soV V s (evV V p f), p, f)
  | some a => if a.1 ≤ soV V s (evV V p f) then some a else some (soV V s (evV V p f), p, f)
def evI (V : Vw) (s p : Nat) : Nat → Nat → EA → EA
  | 0, _, acc => acc
  | m + 1, f, acc => evI V s p m (f + 1) (evS V s p f acc)
def evO (V : Vw) (s : Nat) : Nat → EA → EA
  | 0, acc => acc
  | p + 1, acc => evO V s p (evI V s (p + 1) (p + 1) 0 acc)
/-- the class's best so far -/
def eC (acc : EA) (σ : Sg) : Prop := match acc with
  | none => σ 54 2 = 1000000000
  | some a => a.1 < 10000000 ∧ σ 54 2 = nI a.1 ∧ σ 54 0 = nI a.2.1 ∧ σ 54 1 = nI a.2.2
theorem ce_in {V : Vw} (hw : WF V) {s p : Nat} (hs : s < V 0 8) (hp : 1 ≤ p) (hp7 : p ≤ 7) (K : Sg → Option Sg) : ∀ m f n σ v acc, f + m = p → m < n → v < 2 ^ V 0 0 → CI V σ → RN V (prV V) 46 (updN (V 5) s v) (aq V) σ → eC acc σ → ∃ τ v', LX3_findEvery_17 (nI s) (nI p) K n (nI f) σ = K τ ∧ v' < 2 ^ V 0 0 ∧ CI V τ ∧ RN V (prV V) 46 (updN (V 5) s v') (aq V) τ ∧ eC (evI V s p m f acc) τ := by
  have d14 := hw.d14
  intro m
  induction m with
  | zero =>
    intro f n σ v acc hf hn hv hc hr he
    obtain ⟨n, rfl⟩ : ∃ q, n = q + 1 := ⟨n - 1, by omega⟩
    refine ⟨σ, v, ?_, hv, hc, hr, he⟩
    rw [LX3_findEvery_17, if_pos (by rw [nI_lei] <;> omega)]
  | succ m ih =>
    intro f n σ v acc hf hn hv hc hr he
    obtain ⟨n, rfl⟩ : ∃ q, n = q + 1 := ⟨n - 1, by omega⟩
    have el := evV_lt V p f
    have db : XX3_daysBy (nI p) (nI f) σ = some (nI (evV V p f)) := by
      have em : (if (1 : Int32) < nI p then nI p else 1) = nI p := by
        by_cases q : 1 < p
        · rw [if_pos (show (1 : Int32) < nI p from (nI_lti (a := 1) (by omega) (by omega)).mpr q)]
        · rw [show p = 1 by omega]
          rfl
      unfold XX3_daysBy
      rw [em, lt_def]
      exact (ev_loops d14 hp hp7 hc.1.1 (τ := fun _ _ => nI (V 0 0)) rfl (V 0 0) 0 f FUEL (by omega) (by omega) (by unfold FUEL; omega)).1
    have uu : updN (V 5) s v s = v := if_pos rfl
    obtain ⟨σ1, a1, a2, a3⟩ := c_setVisits hw (prV_C V) (k := 46) (by omega) hs el (vis := updN (V 5) s v) (by rw [uu]; exact hv) (hla hw) hc.1 hr
    have u2 : updN (updN (V 5) s v) s (evV V p f) = updN (V 5) s (evV V p f) := by
      funext t
      unfold updN
      by_cases q : t = s
      · rw [if_pos q, if_pos q]
      · rw [if_neg q, if_neg q, if_neg q]
    rw [u2] at a2
    have hc1 : CI V σ1 := hc.off a3 rfl (hc.2.1.frm a3 rfl) (hc.2.2.2.1.off a3 (fun k k1 k2 => by simp; omega))
    have co := c_costAlone hw hc1.1 hc1.2.2.2.1 a2 hs
    rw [show updN (V 5) s (evV V p f) s = evV V p f from if_pos rfl] at co
    have sl := soV_lt hw (v := evV V p f) hs
    have he1 : eC acc σ1 := by
      unfold eC at he ⊢
      rw [a3.cell (k := 54) rfl]
      exact he
    have go : ∀ σ2, CI V σ2 → RN V (prV V) 46 (updN (V 5) s (evV V p f)) (aq V) σ2 → eC (evS V s p f acc) σ2 → ∃ τ v', LX3_findEvery_17 (nI s) (nI p) K n (nI (f + 1)) σ2 = K τ ∧ v' < 2 ^ V 0 0 ∧ CI V τ ∧ RN V (prV V) 46 (updN (V 5) s v') (aq V) τ ∧ eC (evI V s p (m + 1) f acc) τ := fun σ2 g1 g2 g3 => ih (f + 1) n σ2 (evV V p f) (evS V s p f acc) (by omega) (by omega) el g1 g2 g3
    obtain ⟨σ2, hσ2⟩ : ∃ σ2, σ2 = up (up (up σ1 54 2 (nI (soV V s (evV V p f)))) 54 0 (nI p)) 54 1 (nI f) := ⟨_, rfl⟩
    have f2 : fr [(54, none)] σ1 σ2 := by
      rw [hσ2]
      exact fr.tr (fr.tr fr_up fr_up) fr_up
    have hc2 : CI V σ2 := hc1.off f2 rfl (hc1.2.1.frm f2 rfl) (hc1.2.2.2.1.off f2 (fun k k1 k2 => by simp; omega))
    have g54 : σ2 54 2 = nI (soV V s (evV V p f)) ∧ σ2 54 0 = nI p ∧ σ2 54 1 = nI f := by
      rw [hσ2]
      exact ⟨by rw [up_slot (by omega), up_slot (by omega), up_same], by rw [up_slot (by omega), up_same], up_same⟩
    rw [LX3_findEvery_17, if_neg (by rw [nI_lei] <;> omega), db, b1s, a1, b1s, co, b1s]
    simp only [lt]
    rw [nI_1, ← hσ2]
    cases acc with
    | none =>
      have e54 : σ1 54 2 = 1000000000 := he1
      rw [e54, if_neg (show ¬ (1000000000 : Int32) ≤ nI (soV V s (evV V p f)) from fun q => absurd ((nI_lei (a := 1000000000) (by omega) (by omega)).mp q) (by omega))]
      exact go σ2 hc2 (a2.frm f2 rfl) ⟨sl, g54⟩
    | some a =>
      have he2 : a.1 < 10000000 ∧ σ1 54 2 = nI a.1 ∧ σ1 54 0 = nI a.2.1 ∧ σ1 54 1 = nI a.2.2 := he1
      rw [he2.2.1]
      by_cases q : a.1 ≤ soV V s (evV V p f)
      · have ee : evS V s p f (some a) = some a := if_pos q
        rw [if_pos (by rw [nI_lei] <;> omega)]
        exact go σ1 hc1 a2 (by rw [ee]; exact he2)
      · have ee : evS V s p f (some a) = some (soV V s (evV V p f), p, f) := if_neg q
        rw [if_neg (by rw [nI_lei] <;> omega)]
        exact go σ2 hc2 (a2.frm f2 rfl) (by rw [ee]; exact ⟨sl, g54⟩)
theorem ce_out {V : Vw} (hw : WF V) {s : Nat} (hs : s < V 0 8) : ∀ p n σ v acc, p ≤ 7 → p < n → v < 2 ^ V 0 0 → CI V σ → RN V (prV V) 46 (updN (V 5) s v) (aq V) σ → eC acc σ → ∃ τ, LX3_findEvery_9 (nI s) n (nI p) σ = some τ ∧ CI V τ ∧ eC (evO V s p acc) τ := by
  intro p
  induction p with
  | zero =>
    intro n σ v acc h7 hn hv hc hr he
    obtain ⟨n, rfl⟩ : ∃ q, n = q + 1 := ⟨n - 1, by omega⟩
    refine ⟨σ, ?_, hc, he⟩
    rw [LX3_findEvery_9, if_pos (show nI 0 < 1 by decide)]
  | succ p ih =>
    intro n σ v acc h7 hn hv hc hr he
    obtain ⟨n, rfl⟩ : ∃ q, n = q + 1 := ⟨n - 1, by omega⟩
    obtain ⟨σ1, v', a1, a2, a3, a4, a5⟩ := ce_in hw hs (p := p + 1) (by omega) h7 (fun (σ_4 : Sg) => lt (nI (p + 1) + (-1 : Int32)) (fun (x3_6 : Int32) => LX3_findEvery_9 (nI s) n x3_6 σ_4)) (p + 1) 0 FUEL σ v acc (by omega) (by unfold FUEL; omega) hv hc hr he
    obtain ⟨τ, k1, k2, k3⟩ := ih n σ1 v' _ (by omega) (by omega) a2 a3 a4 a5
    refine ⟨τ, ?_, k2, k3⟩
    rw [LX3_findEvery_9, if_neg (show ¬ nI (p + 1) < 1 from fun q => absurd ((nI_lti (b := 1) (by omega) (by omega)).mp q) (by omega)), lt_def]
    refine Eq.trans a1 ?_
    rw [lt_def, pk_m1]
    exact k1
def eI (acc : EA) (j : Nat) : Int32 := match acc with
  | none => if j = 2 then -1 else 0
  | some a => if j = 2 then nI a.1 else if j = 0 then nI a.2.1 else nI a.2.2
theorem me_in {V : Vw} (hw : WF V) {s p : Nat} (hs : s < V 0 8) (hp : 1 ≤ p) (hp7 : p ≤ 7) (K : Int32 → Int32 → Int32 → Sg → Option (Int32 × Sg)) : ∀ m f n σ acc, f + m = p → m < n → RA V σ → askM V (aq V) σ → (∀ a, acc = some a → a.1 < 10000000) → ∃ τ, LX10_every_50 (nI s) (nI p) K n (eI acc 0) (eI acc 1) (eI acc 2) (nI f) σ = K (eI (evI V s p m f acc) 0) (eI (evI V s p m f acc) 1) (eI (evI V s p m f acc) 2) τ ∧ RA V τ ∧ askM V (aq V) τ ∧ (∀ a, evI V s p m f acc = some a → a.1 < 10000000) := by
  have d14 := hw.d14
  intro m
  induction m with
  | zero =>
    intro f n σ acc hf hn hr ha he
    obtain ⟨n, rfl⟩ : ∃ q, n = q + 1 := ⟨n - 1, by omega⟩
    refine ⟨σ, ?_, hr, ha, he⟩
    rw [LX10_every_50, if_pos (by rw [nI_lei] <;> omega)]
    rfl
  | succ m ih =>
    intro f n σ acc hf hn hr ha he
    obtain ⟨n, rfl⟩ : ∃ q, n = q + 1 := ⟨n - 1, by omega⟩
    have el := evV_lt V p f
    have p14 := Nat.pow_le_pow_right (show 0 < 2 by omega) d14
    have es : XX10_everySet (nI p) (nI f) σ = some (nI (evV V p f)) := (ev_loops d14 hp hp7 (σ := fun _ _ => nI (V 0 0)) rfl (hr.1.1 0 (by omega)) (V 0 0) 0 f FUEL (by omega) (by omega) (by unfold FUEL; omega)).2
    obtain ⟨σ1, a1, a2, a3, -⟩ := m_soloCost hw hr ha hs (v := evV V p f) (by omega)
    have sl := soV_lt hw (v := evV V p f) hs
    have he' : ∀ a, evS V s p f acc = some a → a.1 < 10000000 := fun a h => by
      cases acc with
      | none =>
        cases h
        exact sl
      | some b =>
        have h' : (if b.1 ≤ soV V s (evV V p f) then some b else some (soV V s (evV V p f), p, f)) = some a := h
        by_cases q : b.1 ≤ soV V s (evV V p f)
        · rw [if_pos q] at h'
          rw [← Option.some.inj h']
          exact he b rfl
        · rw [if_neg q] at h'
          rw [← Option.some.inj h']
          exact sl
    obtain ⟨τ, k1, k2, k3, k4⟩ := ih (f + 1) n σ1 (evS V s p f acc) (by omega) (by omega) a2 a3 he'
    refine ⟨τ, ?_, k2, k3, k4⟩
    rw [LX10_every_50, if_neg (by rw [nI_lei] <;> omega), es, b1s, a1, b2s]
    simp only [lt]
    rw [nI_1]
    cases acc with
    | none =>
      rw [if_pos (show eI none 2 < 0 by decide)]
      exact k1
    | some a =>
      have al := he a rfl
      rw [show eI (some a) 2 = nI a.1 from rfl, if_neg (nI_pos (by omega))]
      by_cases q : a.1 ≤ soV V s (evV V p f)
      · have ee : evS V s p f (some a) = some a := if_pos q
        rw [ee] at k1
        rw [if_pos (by rw [nI_lei] <;> omega)]
        refine Eq.trans k1 ?_
        show _ = K (eI (evI V s p m (f + 1) (evS V s p f (some a))) 0) (eI (evI V s p m (f + 1) (evS V s p f (some a))) 1) (eI (evI V s p m (f + 1) (evS V s p f (some a))) 2) τ
        rw [ee]
      · have ee : evS V s p f (some a) = some (soV V s (evV V p f), p, f) := if_neg q
        rw [ee] at k1
        rw [if_neg (by rw [nI_lei] <;> omega)]
        refine Eq.trans k1 ?_
        show _ = K (eI (evI V s p m (f + 1) (evS V s p f (some a))) 0) (eI (evI V s p m (f + 1) (evS V s p f (some a))) 1) (eI (evI V s p m (f + 1) (evS V s p f (some a))) 2) τ
        rw [ee]
theorem me_out {V : Vw} (hw : WF V) {s : Nat} (hs : s < V 0 8) (K : Int32 → Int32 → Int32 → Sg → Option (Int32 × Sg)) : ∀ p n σ acc, p ≤ 7 → p < n → RA V σ → askM V (aq V) σ → (∀ a, acc = some a → a.1 < 10000000) → ∃ τ, LX10_every_42 (nI s) K n (eI acc 0) (eI acc 1) (eI acc 2) (nI p) σ = K (eI (evO V s p acc) 0) (eI (evO V s p acc) 1) (eI (evO V s p acc) 2) τ ∧ RA V τ := by
  intro p
  induction p with
  | zero =>
    intro n σ acc h7 hn hr ha he
    obtain ⟨n, rfl⟩ : ∃ q, n = q + 1 := ⟨n - 1, by omega⟩
    refine ⟨σ, ?_, hr⟩
    rw [LX10_every_42, if_pos (show nI 0 ≤ 0 by decide)]
    rfl
  | succ p ih =>
    intro n σ acc h7 hn hr ha he
    obtain ⟨n, rfl⟩ : ∃ q, n = q + 1 := ⟨n - 1, by omega⟩
    obtain ⟨σ1, a1, a2, a3, a4⟩ := me_in hw hs (p := p + 1) (by omega) h7 (fun (x3_15 : Int32) (x4_16 : Int32) (x5_17 : Int32) (σ_18 : Sg) => lt (nI (p + 1) + (-1 : Int32)) (fun (x6_20 : Int32) => LX10_every_42 (nI s) K n x3_15 x4_16 x5_17 x6_20 σ_18)) (p + 1) 0 FUEL σ acc (by omega) (by unfold FUEL; omega) hr ha he
    obtain ⟨τ, k1, k2⟩ := ih n σ1 _ (by omega) (by omega) a2 a3 a4
    refine ⟨τ, ?_, k2⟩
    rw [LX10_every_42, if_neg (nI_nle (by omega) (by omega)), lt_def]
    refine Eq.trans a1 ?_
    rw [lt_def, pk_m1]
    exact k1
theorem evS_some {V : Vw} {s p f : Nat} : ∀ acc, ∃ b, evS V s p f acc = some b
  | none => ⟨_, rfl⟩
  | some a => by
    show ∃ b, (if a.1 ≤ soV V s (evV V p f) then some a else some (soV V s (evV V p f), p, f)) = some b
    split
    · exact ⟨_, rfl⟩
    · exact ⟨_, rfl⟩
theorem evI_some {V : Vw} {s p : Nat} : ∀ m f a, ∃ b, evI V s p m f (some a) = some b
  | 0, _, a => ⟨a, rfl⟩
  | m + 1, f, a => by
    obtain ⟨b, hb⟩ := evS_some (V := V) (s := s) (p := p) (f := f) (some a)
    show ∃ b, evI V s p m (f + 1) (evS V s p f (some a)) = some b
    rw [hb]
    exact evI_some m (f + 1) b
theorem evO_some {V : Vw} {s : Nat} : ∀ p a, ∃ b, evO V s p (some a) = some b
  | 0, a => ⟨a, rfl⟩
  | p + 1, a => by
    obtain ⟨b, hb⟩ := evI_some (V := V) (s := s) (p := p + 1) (p + 1) 0 a
    show ∃ b, evO V s p (evI V s (p + 1) (p + 1) 0 (some a)) = some b
    rw [hb]
    exact evO_some p b
theorem evO_top {V : Vw} {s : Nat} (p : Nat) : ∃ b, evO V s (p + 1) none = some b := by
  obtain ⟨a, ha⟩ := evS_some (V := V) (s := s) (p := p + 1) (f := 0) none
  obtain ⟨b, hb⟩ := evI_some (V := V) (s := s) (p := p + 1) p (0 + 1) a
  show ∃ b, evO V s p (evI V s (p + 1) p (0 + 1) (evS V s (p + 1) 0 none)) = some b
  rw [ha, hb]
  exact evO_some p b
theorem op_every {V : Vw} {σ : Sg} (h : Inv V σ) (x y : Int32) : stOK (XX9_every x y σ) (XX10_every x y) := by
  obtain ⟨hw, hc, hr⟩ := id h
  have s6 := hw.s6
  have d14 := hw.d14
  have rf : ∀ r, XX9_every x y σ = some (r, σ) → XX10_every x y σ = some (r, up σ 64 0 0) → stOK (XX9_every x y σ) (XX10_every x y) := fun r e1 e2 => ⟨_, _, _, e1, e2, V, h.look (fr_upf (a := 64) (i := 0)) rfl rfl⟩
  have hrt : RA V (up σ 64 0 0) := hr.th
  by_cases hx : ib x (V 0 8)
  · by_cases y0 : y < 0
    · refine rf (-1) ?_ ?_
      · unfold XX9_every
        rw [c_hasShop hc.1 s6, if_pos hx, b1s, if_neg (show ¬ (1 : Int32) = 0 by decide), if_pos y0]
      · unfold XX10_every
        rw [lt_def, m_isShop (hrt.1.1 8 (by omega)) (by omega), if_pos hx, b1s, if_neg (show ¬ (1 : Int32) = 0 by decide), m_in, if_pos y0, b1s, if_pos rfl]
    by_cases y2 : 2 < y
    · refine rf (-1) ?_ ?_
      · unfold XX9_every
        rw [c_hasShop hc.1 s6, if_pos hx, b1s, if_neg (show ¬ (1 : Int32) = 0 by decide), if_neg y0, if_neg (lt_irr y2)]
      · unfold XX10_every
        rw [lt_def, m_isShop (hrt.1.1 8 (by omega)) (by omega), if_pos hx, b1s, if_neg (show ¬ (1 : Int32) = 0 by decide), m_in, if_neg y0, if_pos y2, b1s, if_pos rfl]
    obtain ⟨s, hs, rfl⟩ := ib_of hx (by omega)
    obtain ⟨σ1, a1, a2, a3⟩ := c_takeOver (prV_C V) (k := 46) (j := 38) (by omega) hw.s6 hw.d14 hc.2.1
    have hc1 : CI V σ1 := hc.off a3 rfl (hc.2.1.frm a3 rfl) (hc.2.2.2.1.off a3 (fun k k1 k2 => by simp; omega))
    have f2 : fr [(54, none)] σ1 (up σ1 54 2 1000000000) := fr_up
    have hc2 : CI V (up σ1 54 2 1000000000) := hc1.off f2 rfl (hc1.2.1.frm f2 rfl) (hc1.2.2.2.1.off f2 (fun k k1 k2 => by simp; omega))
    have eu : updN (V 5) s (V 5 s) = V 5 := by
      funext t
      unfold updN
      by_cases q : t = s
      · rw [if_pos q, q]
      · rw [if_neg q]
    obtain ⟨σ3, k1, k2, k3⟩ := ce_out hw hs 7 FUEL (up σ1 54 2 1000000000) (V 5 s) none (by omega) (by unfold FUEL; omega) (hw.v5.1 s) hc2 (by rw [eu]; exact a2.frm f2 rfl) (by show up σ1 54 2 1000000000 54 2 = 1000000000; rw [up_same])
    obtain ⟨E, hE⟩ : ∃ E, E = evO V s 7 none := ⟨_, rfl⟩
    rw [← hE] at k3
    have e1 : ∃ a, E = some a ∧ XX9_every (nI s) y σ = some (if y = 0 then nI a.2.1 else if y = 1 then nI a.2.2 else nI a.1, σ3) := by
      have k1' : XX3_findEvery (nI s) σ1 = some σ3 := by
        unfold XX3_findEvery
        rw [lt_def, show (7 : Int32) = nI 7 from rfl]
        exact k1
      cases hEE : E with
      | none =>
        exfalso
        obtain ⟨b, hb⟩ := evO_top (V := V) (s := s) 6
        have e7 : 7 = 6 + 1 := rfl
        rw [hE, e7, hb] at hEE
        cases hEE
      | some a =>
        rw [hEE] at k3
        refine ⟨a, rfl, ?_⟩
        unfold XX9_every
        rw [c_hasShop hc.1 s6, if_pos hx, b1s, if_neg (show ¬ (1 : Int32) = 0 by decide), if_neg y0, if_pos (nlt_le y2), a1, b1s, k1', b1s, k3.2.1, k3.2.2.1, k3.2.2.2]
        split
        · rfl
        · split <;> rfl
    obtain ⟨a, hEa, e1⟩ := e1
    have F := frX9_every e1
    have hr3 : RA V (up σ3 64 0 0) := (hr.near F rfl).th
    obtain ⟨τ1, g1, g2, g3⟩ := m_layAsked hw hr3.1 (pct := 100) (by omega)
    rw [ask100] at g3
    obtain ⟨τ, l1, l2⟩ := me_out hw hs (fun (x3_5 : Int32) (x4_6 : Int32) (x5_7 : Int32) (σ_8 : Sg) => if y = 0 then (some (x3_5, σ_8)) else (if y = (1 : Int32) then (some (x4_6, σ_8)) else (some (x5_7, σ_8)))) 7 FUEL τ1 none (by omega) (by unfold FUEL; omega) (hr3.off (frX10_layAsked g1) rfl) g3 (fun a h => by cases h)
    have e2 : XX10_every (nI s) y σ3 = some (if y = 0 then nI a.2.1 else if y = 1 then nI a.2.2 else nI a.1, τ) := by
      unfold XX10_every
      rw [lt_def, m_isShop (hr3.1.1 8 (by omega)) (by omega), if_pos hx, b1s, if_neg (show ¬ (1 : Int32) = 0 by decide), m_in, if_neg y0, if_neg y2, b1s, if_neg (show ¬ (1 : Int32) = 0 by decide), show (100 : Int32) = nI 100 from rfl, g1, b1s, lt_def]
      refine Eq.trans l1 ?_
      rw [← hE, hEa]
      show (if y = 0 then some (nI a.2.1, τ) else if y = 1 then some (nI a.2.2, τ) else some (nI a.1, τ)) = _
      split
      · rfl
      · split <;> rfl
    exact ⟨_, _, _, e1, e2, V, hw, k2.far (frX10_every e2) rfl, l2⟩
  · refine rf (-1) ?_ ?_
    · unfold XX9_every
      rw [c_hasShop hc.1 s6, if_neg hx]
      rfl
    · unfold XX10_every
      rw [lt_def, m_isShop (hrt.1.1 8 (by omega)) (by omega), if_neg hx]
      rfl
