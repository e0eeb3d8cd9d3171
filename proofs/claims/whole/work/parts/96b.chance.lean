/-! CALLS: chance -/
def rq (y : Int32) : Nat := y.toBitVec.toNat / 65536
theorem rq_lt (y : Int32) : rq y < 65536 := by
  have h : y.toBitVec.toNat < 2 ^ 32 := y.toBitVec.isLt
  unfold rq
  omega
theorem ush16 (y : Int32) : ush y 16 = nI (rq y) := by
  apply Int32.toBitVec_inj.mp
  apply BitVec.eq_of_toNat_eq
  have h1 : (ush y 16).toBitVec.toNat = y.toBitVec.toNat / 2 ^ 16 := pk_ushr y 16 16 (by decide)
  have h2 := rq_lt y
  rw [h1, pk_tn (by omega)]
  rfl
theorem pos1 {a b : Nat} (ha : a < 1073741824) (hb : b < 1073741824) : (if (0 : Int32) < nI a - nI b then nI a - nI b else (0 : Int32)) = nI (a - b) := by
  by_cases q : b ≤ a
  · rw [pk_sub q]
    by_cases z : a - b = 0
    · rw [z]
      decide
    · rw [if_pos (nI_g0 (by omega) (by omega))]
  · have := pk_sneg (a := a) (b := b) hb (by omega)
    rw [if_neg (fun h => by
      have h1 := Int32.lt_iff_toInt_lt.mp this
      have h2 := Int32.lt_iff_toInt_lt.mp h
      omega), show a - b = 0 by omega]
    rfl
theorem pos2 {a b : Nat} (ha : a < 1073741824) (hb : b < 1073741824) : (0 ≤ nI a - nI b → nI a - nI b = nI (a - b)) ∧ (¬ 0 ≤ nI a - nI b → (0 : Int32) = nI (a - b)) := by
  refine ⟨fun h => pk_sub ((sub_le0 ha hb).mp h), fun h => ?_⟩
  have : ¬ b ≤ a := fun q => h ((sub_le0 ha hb).mpr q)
  rw [show a - b = 0 by omega]
  rfl
def xs (x : Int32) : Nat → Int32
  | 0 => x
  | d + 1 => xs x d * 1103515245 + 12345
def cA (A : Nat → Nat) (sp : Nat) (x : Int32) (d : Nat) : Nat := A d + rq (xs x (d + 1)) % (2 * sp + 1) - sp
theorem cA_lt {A : Nat → Nat} {sp : Nat} {x : Int32} {d : Nat} (hsp : sp ≤ 20) (h : A d ≤ 750) : cA A sp x d < 1000 := by
  have := Nat.mod_lt (rq (xs x (d + 1))) (show 0 < 2 * sp + 1 by omega)
  unfold cA
  omega
theorem ch_in {V : Vw} (hw : WF V) {σ : Sg} (ht : TC V σ) {k s v sp : Nat} (hs : s < V 0 8) (hv : v < 2147483648) (hV : σ (k + 1) s = nI v) (hsp : sp ≤ 20) {A : Nat → Nat} (hla : ∀ d, d < V 0 0 → A d ≤ 750) (hA : ∀ d, d < V 0 0 → σ (k + 2) (14 * s + d) = nI (A d)) (K : Int32 → Int32 → Option Int32) (x : Int32) (G : Nat) : ∀ m d n, d + m = V 0 0 → m < n → LX5_missedByChance_42 k (nI sp) (nI (2 * sp + 1)) (nI s) σ K n (xs x d) (nI (G + sumN (rmiss (V 4 s) (V 3 s) v (cA A sp x)) d)) (nI (stk (V 4 s) (V 3 s) v (cA A sp x) d)) (nI d) = K (xs x (V 0 0)) (nI (G + sumN (rmiss (V 4 s) (V 3 s) v (cA A sp x)) (V 0 0))) := by
  have s6 := hw.s6
  have d14 := hw.d14
  have t99 := hw.t99
  have shl := (hw.sh hs).2.2.2.1
  have s5 : σ 5 s = nI (V 3 s) := (ht.2.2.2.2.2.2.2.2.1 s hs).2.2.1
  intro m
  induction m with
  | zero =>
    intro d n hd hn
    obtain ⟨n, rfl⟩ : ∃ q, n = q + 1 := ⟨n - 1, by omega⟩
    have hd : d = V 0 0 := by omega
    subst hd
    rw [LX5_missedByChance_42, ht.1, if_pos (by rw [nI_lei] <;> omega)]
  | succ m ih =>
    intro d n hd hn
    obtain ⟨n, rfl⟩ : ∃ q, n = q + 1 := ⟨n - 1, by omega⟩
    have k1 := ih (d + 1) n (by omega) (by omega)
    have hl := hla d (by omega)
    have hk := stk_lt hw (v := v) (d := d) (A := cA A sp x) hs
    have hq := rq_lt (xs x (d + 1))
    have hm := Nat.mod_lt (rq (xs x (d + 1))) (show 0 < 2 * sp + 1 by omega)
    have ex : xs x d * 1103515245 + 12345 = xs x (d + 1) := rfl
    have ec : A d + rq (xs x (d + 1)) % (2 * sp + 1) - sp = cA A sp x d := rfl
    have es : sumN (rmiss (V 4 s) (V 3 s) v (cA A sp x)) (d + 1) = sumN (rmiss (V 4 s) (V 3 s) v (cA A sp x)) d + (cA A sp x d - (if v.testBit d then V 3 s else stk (V 4 s) (V 3 s) v (cA A sp x) d)) := rfl
    have et : stk (V 4 s) (V 3 s) v (cA A sp x) (d + 1) = (if v.testBit d then V 3 s else stk (V 4 s) (V 3 s) v (cA A sp x) d) - cA A sp x d := rfl
    have cl := cA_lt (A := A) (x := x) hsp hl
    rw [es, et, ← Nat.add_assoc] at k1
    rw [LX5_missedByChance_42, ht.1, if_neg (by rw [nI_lei] <;> omega), lt_def, ex, c_cellOf]
    simp only [b1]
    rw [if_pos ((ib_nI (by omega)).mpr (by omega)), if_pos (nI_n0 (n := 2 * sp + 1) (by omega) (by omega)), nI_cl (by omega), hA d (by omega), ush16, pk_rem (by omega) (by omega) (by omega), nI_add, pos1 (by omega) (by omega), ec, lt_def, c_isVisited hV (by omega) hv (by omega)]
    simp only []
    rw [lt_def]
    cases hb : v.testBit d with
    | true =>
      rw [hb, if_pos rfl] at k1
      rw [if_neg (show ¬ nI (bq true) = 0 by decide), if_pos ((ib_nI (by omega)).mpr (by omega)), nI_cl (by omega), s5]
      simp only [lt]
      rw [pos1 (by omega) (by omega), pos1 (by omega) (by omega), nI_add, nI_1]
      exact k1
    | false =>
      rw [hb, if_neg (by decide)] at k1
      rw [if_pos (show nI (bq false) = 0 by decide)]
      simp only [lt]
      rw [pos1 (by omega) (by omega), pos1 (by omega) (by omega), nI_add, nI_1]
      exact k1
def sx (D : Nat) (x : Int32) : Nat → Int32
  | 0 => x
  | s + 1 => xs (sx D x s) D
def gC (V : Vw) (sp : Nat) (x : Int32) (s : Nat) : Nat := sumN (rmiss (V 4 s) (V 3 s) (V 5 s) (cA (aq V s) sp (sx (V 0 0) x s))) (V 0 0)
theorem gC_le {V : Vw} (hw : WF V) {sp : Nat} (hsp : sp ≤ 20) {x : Int32} {s : Nat} (hs : s < V 0 8) : gC V sp x s ≤ 14000 := by
  have h1 : gC V sp x s ≤ V 0 0 * 1000 := sumN_le (fun d hd => by
    have h2 : rmiss (V 4 s) (V 3 s) (V 5 s) (cA (aq V s) sp (sx (V 0 0) x s)) d ≤ cA (aq V s) sp (sx (V 0 0) x s) d := rmiss_le
    have := cA_lt (A := aq V s) (x := sx (V 0 0) x s) hsp (aq_le hw hs hd)
    omega)
  have := hw.d14
  omega
theorem ch_out {V : Vw} (hw : WF V) {σ : Sg} {pr : (Nat → Int32) → Int32} (ht : TC V σ) (hr : RN V pr 38 (V 5) (aq V) σ) {sp : Nat} (hsp : sp ≤ 20) (x : Int32) : ∀ m s n, s + m = V 0 8 → m < n → LX5_missedByChance_15 38 (nI sp) (nI (2 * sp + 1)) σ n (sx (V 0 0) x s) (nI (sumN (gC V sp x) s)) (nI s) = some (nI (sumN (gC V sp x) (V 0 8))) := by
  have s6 := hw.s6
  have d14 := hw.d14
  intro m
  induction m with
  | zero =>
    intro s n hs hn
    obtain ⟨n, rfl⟩ : ∃ q, n = q + 1 := ⟨n - 1, by omega⟩
    have hs : s = V 0 8 := by omega
    subst hs
    rw [LX5_missedByChance_15, ht.2.2.2.2.2.2.1, if_pos (by rw [nI_lei] <;> omega)]
  | succ m ih =>
    intro s n hs hn
    obtain ⟨n, rfl⟩ : ∃ q, n = q + 1 := ⟨n - 1, by omega⟩
    have hs8 : s < V 0 8 := by omega
    have f6 : σ 6 s = nI (V 4 s) := (ht.2.2.2.2.2.2.2.2.1 s hs8).2.2.2
    have c := ch_in hw ht (k := 38) hs8 (vis_lt hw s) (hr.1 s (by omega)) hsp (A := aq V s) (fun d hd => aq_le hw hs8 hd) (fun d hd => hr.2.1 s d hs8 hd) (fun (x3_7 : Int32) (x4_8 : Int32) => lt (nI s + (1 : Int32)) (fun (x6_10 : Int32) => LX5_missedByChance_15 38 (nI sp) (nI (2 * sp + 1)) σ n x3_7 x4_8 x6_10)) (sx (V 0 0) x s) (sumN (gC V sp x) s) (V 0 0) 0 FUEL (by omega) (by unfold FUEL; omega)
    rw [LX5_missedByChance_15, ht.2.2.2.2.2.2.1, if_neg (by rw [nI_lei] <;> omega), if_pos ((ib_nI (by omega)).mpr (by omega)), nI_cl (by omega), f6, lt_def, lt_def]
    refine Eq.trans c ?_
    rw [lt_def, nI_1]
    exact ih (s + 1) n (by omega) (by omega)
theorem c_chance1 {V : Vw} (hw : WF V) {σ : Sg} {pr : (Nat → Int32) → Int32} (ht : TC V σ) (hr : RN V pr 38 (V 5) (aq V) σ) {sp : Nat} (hsp : sp ≤ 20) (x : Int32) : XX5_missedByChance 38 x (nI sp) σ = some (nI (sumN (gC V sp x) (V 0 8))) := by
  have s6 := hw.s6
  unfold XX5_missedByChance
  rw [lt_def, show (2 : Int32) = nI 2 from rfl, pk_mul, nI_1]
  exact ch_out hw ht hr hsp x (V 0 8) 0 FUEL (by omega) (by unfold FUEL; omega)
theorem mch_in {V : Vw} (hw : WF V) {s sp : Nat} (hs : s < V 0 8) (hsp : sp ≤ 20) (K : Int32 → Sg → Option (Int32 × Sg)) (x : Int32) : ∀ m d n σ, d + m = V 0 0 → m < n → RM V σ → (∀ e, d ≤ e → e < V 0 0 → σ 79 (14 * s + e) = nI (aq V s e)) → (∀ e, e < d → σ 79 (14 * s + e) = nI (cA (aq V s) sp x e)) → ∃ τ, LX10_lostByDraws_26 (nI sp) (nI s) K n (xs x d) (nI d) σ = K (xs x (V 0 0)) τ ∧ RM V τ ∧ (∀ e, e < V 0 0 → τ 79 (14 * s + e) = nI (cA (aq V s) sp x e)) ∧ (∀ i, (i < 14 * s ∨ 14 * s + 14 ≤ i) → τ 79 i = σ 79 i) := by
  have s6 := hw.s6
  have d14 := hw.d14
  intro m
  induction m with
  | zero =>
    intro d n σ hd hn hr h1 h2
    obtain ⟨n, rfl⟩ : ∃ q, n = q + 1 := ⟨n - 1, by omega⟩
    have hd : d = V 0 0 := by omega
    subst hd
    refine ⟨σ, ?_, hr, h2, fun _ _ => rfl⟩
    rw [LX10_lostByDraws_26]
    simp only [XX10_days, b1]
    rw [hr.1 0 (by omega), if_pos (by rw [nI_lei] <;> omega)]
  | succ m ih =>
    intro d n σ hd hn hr h1 h2
    obtain ⟨n, rfl⟩ : ∃ q, n = q + 1 := ⟨n - 1, by omega⟩
    have hl := aq_le hw hs (d := d) (by omega)
    have hq := rq_lt (xs x (d + 1))
    have hm := Nat.mod_lt (rq (xs x (d + 1))) (show 0 < 2 * sp + 1 by omega)
    have ex : xs x d * 1103515245 + 12345 = xs x (d + 1) := rfl
    have ec : aq V s d + rq (xs x (d + 1)) % (2 * sp + 1) - sp = cA (aq V s) sp x d := rfl
    have ew : (2 : Int32) * nI sp + 1 = nI (2 * sp + 1) := by rw [show (2 : Int32) = nI 2 from rfl, pk_mul, nI_1]
    have ei : (14 : Int32) * nI s + nI d = nI (14 * s + d) := by rw [show (14 : Int32) = nI 14 from rfl, pk_mul, nI_add]
    have f1 : fr [(79, none)] σ (up σ 79 (14 * s + d) (nI (cA (aq V s) sp x d))) := fr_up
    obtain ⟨τ, t1, t2, t3, t4⟩ := ih (d + 1) n (up σ 79 (14 * s + d) (nI (cA (aq V s) sp x d))) (by omega) (by omega) (hr.off f1 rfl) (fun e g1 g2 => by rw [up_slot (by omega)]; exact h1 e (by omega) g2) (fun e g1 => by
      by_cases q : e = d
      · rw [q, up_same]
      · rw [up_slot (by omega)]
        exact h2 e (by omega))
    refine ⟨τ, ?_, t2, t3, fun i hi => by rw [t4 i hi, up_slot (by omega)]⟩
    rw [LX10_lostByDraws_26]
    simp only [XX10_days, b1]
    rw [hr.1 0 (by omega), if_neg (by rw [nI_lei] <;> omega), lt_def, ex, ew, ei, if_pos ((ib_nI (by omega)).mpr (by omega)), if_pos (nI_n0 (n := 2 * sp + 1) (by omega) (by omega)), nI_cl (by omega), h1 d (Nat.le_refl _) (by omega), ush16, pk_rem (by omega) (by omega) (by omega), nI_add, lt_def, lt_def]
    have p := pos2 (a := aq V s d + rq (xs x (d + 1)) % (2 * sp + 1)) (b := sp) (by omega) (by omega)
    by_cases z : 0 ≤ nI (aq V s d + rq (xs x (d + 1)) % (2 * sp + 1)) - nI sp
    · rw [if_pos z, p.1 z, ec]
      simp only [lt]
      rw [nI_1]
      exact t1
    · rw [if_neg z, p.2 z, ec]
      simp only [lt]
      rw [nI_1]
      exact t1
theorem mch_out {V : Vw} (hw : WF V) {sp : Nat} (hsp : sp ≤ 20) (x : Int32) : ∀ m s n σ, s + m = V 0 8 → m < n → RM V σ → (∀ t e, s ≤ t → t < V 0 8 → e < V 0 0 → σ 79 (14 * t + e) = nI (aq V t e)) → ∃ τ, LX10_lostByDraws_14 (nI sp) n (sx (V 0 0) x s) (nI (sumN (gC V sp x) s)) (nI s) σ = some (nI (sumN (gC V sp x) (V 0 8)), τ) ∧ RM V τ := by
  have s6 := hw.s6
  have d14 := hw.d14
  intro m
  induction m with
  | zero =>
    intro s n σ hs hn hr h1
    obtain ⟨n, rfl⟩ : ∃ q, n = q + 1 := ⟨n - 1, by omega⟩
    have hs : s = V 0 8 := by omega
    subst hs
    refine ⟨σ, ?_, hr⟩
    rw [LX10_lostByDraws_14]
    simp only [XX10_shops, b1]
    rw [hr.1 8 (by omega), if_pos (by rw [nI_lei] <;> omega)]
  | succ m ih =>
    intro s n σ hs hn hr h1
    obtain ⟨n, rfl⟩ : ∃ q, n = q + 1 := ⟨n - 1, by omega⟩
    have hs8 : s < V 0 8 := by omega
    obtain ⟨τ1, a1, a2, a3, a4⟩ := mch_in hw hs8 hsp (fun (x3_7 : Int32) (σ_8 : Sg) => if ib (nI s) 6 then b1 (XX10_runShop (nI s) (σ_8 78 (nI s).toNatClampNeg) σ_8) (fun (σ_11 : Sg) => b1 (XX10_lostBy (nI s) σ_11) (fun (r_12 : Int32) => lt (nI (sumN (gC V sp x) s) + r_12) (fun (x4_13 : Int32) => lt (nI s + (1 : Int32)) (fun (x5_14 : Int32) => LX10_lostByDraws_14 (nI sp) n x3_7 x4_13 x5_14 σ_11)))) else none) (sx (V 0 0) x s) (V 0 0) 0 FUEL σ (by omega) (by unfold FUEL; omega) hr (fun e _ he => h1 s e (Nat.le_refl _) hs8 he) (fun e he => absurd he (by omega))
    obtain ⟨τ2, c1, c2, c3, -, c5⟩ := m_runShop hw a2 hs8 (vis_lt hw s) (fun e he => by have := cA_lt (A := aq V s) (x := sx (V 0 0) x s) hsp (aq_le hw hs8 he); omega) a3
    have lb := m_lostBy hw c2 hs8 (f := rmiss (V 4 s) (V 3 s) (V 5 s) (cA (aq V s) sp (sx (V 0 0) x s))) (fun e he => (c3 e he).2.2)
    obtain ⟨τ, t1, t2⟩ := ih (s + 1) n τ2 (by omega) (by omega) c2 (fun t e g1 g2 g3 => by
      rw [c5.cell (k := 79) rfl, a4 _ (by omega)]
      exact h1 t e (by omega) g2 g3)
    refine ⟨τ, ?_, t2⟩
    rw [LX10_lostByDraws_14]
    simp only [XX10_shops, b1]
    rw [hr.1 8 (by omega), if_neg (by rw [nI_lei] <;> omega), lt_def]
    refine Eq.trans a1 ?_
    rw [if_pos ((ib_nI (by omega)).mpr (by omega)), nI_cl (by omega), a2.2.2.1 s (by omega), c1]
    simp only [b1]
    rw [lb]
    simp only []
    rw [lt_def, lt_def, nI_add, nI_1]
    exact t1
theorem m_chance1 {V : Vw} (hw : WF V) {σ : Sg} (hr : RM V σ) {sp : Nat} (hsp : sp ≤ 20) (x : Int32) : ∃ τ, XX10_lostByDraws x (nI sp) σ = some (nI (sumN (gC V sp x) (V 0 8)), τ) ∧ RM V τ := by
  have s6 := hw.s6
  obtain ⟨τ1, g1, g2, g3⟩ := m_layAsked hw hr (pct := 100) (by omega)
  rw [ask100] at g3
  obtain ⟨τ, t1, t2⟩ := mch_out hw hsp x (V 0 8) 0 FUEL τ1 (by omega) (by unfold FUEL; omega) g2 (fun t e _ h2 h3 => g3 t e h2 h3)
  refine ⟨τ, ?_, t2⟩
  unfold XX10_lostByDraws
  rw [show (100 : Int32) = nI 100 from rfl, g1]
  exact t1
def gT (V : Vw) (sp : Nat) (x : Int32) (i : Nat) : Nat := sumN (gC V sp (x + nI i)) (V 0 8)
def gP (V : Vw) (sp : Nat) (x : Int32) (i : Nat) : Nat := if gT V sp x i = 0 then 0 else 1
theorem gT_lt {V : Vw} (hw : WF V) {sp : Nat} (hsp : sp ≤ 20) {x : Int32} {i : Nat} : gT V sp x i < 1000000 := by
  have h1 : gT V sp x i ≤ V 0 8 * 14000 := sumN_le (fun s hs => gC_le hw hsp hs)
  have := hw.s6
  omega
theorem ch_top {V : Vw} (hw : WF V) {σ : Sg} {pr : (Nat → Int32) → Int32} (ht : TC V σ) (hr : RN V pr 38 (V 5) (aq V) σ) {M sp : Nat} (hM : M ≤ 20) (hsp : sp ≤ 20) (x y : Int32) : ∀ m i n, i + m = M → m < n → LX9_chance_40 x (nI M) (nI sp) y σ n (if y = 1 then nI (sumN (gT V sp x) i) else nI (sumN (gP V sp x) i)) (nI i) = some (if y = 1 then nI (sumN (gT V sp x) M) else nI (sumN (gP V sp x) M)) := by
  intro m
  induction m with
  | zero =>
    intro i n hi hn
    obtain ⟨n, rfl⟩ : ∃ q, n = q + 1 := ⟨n - 1, by omega⟩
    have hi : i = M := by omega
    subst hi
    rw [LX9_chance_40, if_pos (by rw [nI_lei] <;> omega)]
  | succ m ih =>
    intro i n hi hn
    obtain ⟨n, rfl⟩ : ∃ q, n = q + 1 := ⟨n - 1, by omega⟩
    have k1 := ih (i + 1) n (by omega) (by omega)
    have e1 : sumN (gT V sp x) (i + 1) = sumN (gT V sp x) i + gT V sp x i := rfl
    have e2 : sumN (gP V sp x) (i + 1) = sumN (gP V sp x) i + gP V sp x i := rfl
    have hl := gT_lt hw hsp (x := x) (i := i)
    have c : XX5_missedByChance 38 (x + nI i) (nI sp) σ = some (nI (gT V sp x i)) := c_chance1 hw ht hr hsp (x + nI i)
    rw [e1, e2] at k1
    rw [LX9_chance_40, if_neg (by rw [nI_lei] <;> omega), c]
    simp only [b1]
    rw [lt_def]
    by_cases q : y = 1
    · rw [if_pos q] at k1 ⊢
      rw [if_pos q]
      simp only [lt]
      rw [nI_add, nI_1]
      exact k1
    · rw [if_neg q] at k1 ⊢
      rw [if_neg q]
      by_cases z : gT V sp x i = 0
      · have e3 : gP V sp x i = 0 := if_pos z
        rw [e3] at k1
        rw [z, if_pos (show nI 0 ≤ 0 by decide)]
        simp only [lt]
        rw [nI_1]
        exact k1
      · have e3 : gP V sp x i = 1 := if_neg z
        rw [e3] at k1
        rw [if_neg (nI_nle (by omega) (by omega))]
        simp only [lt]
        rw [nI_1, nI_1]
        exact k1
theorem mch_top {V : Vw} (hw : WF V) {M sp : Nat} (hM : M ≤ 20) (hsp : sp ≤ 20) (x : Int32) (K : Int32 → Int32 → Sg → Option (Int32 × Sg)) : ∀ m i n σ, i + m = M → m < n → RM V σ → ∃ τ, LX10_chance_46 x (nI M) (nI sp) K n (nI (sumN (gP V sp x) i)) (nI (sumN (gT V sp x) i)) (nI i) σ = K (nI (sumN (gP V sp x) M)) (nI (sumN (gT V sp x) M)) τ := by
  intro m
  induction m with
  | zero =>
    intro i n σ hi hn hr
    obtain ⟨n, rfl⟩ : ∃ q, n = q + 1 := ⟨n - 1, by omega⟩
    have hi : i = M := by omega
    subst hi
    refine ⟨σ, ?_⟩
    rw [LX10_chance_46, if_pos (by rw [nI_lei] <;> omega)]
  | succ m ih =>
    intro i n σ hi hn hr
    obtain ⟨n, rfl⟩ : ∃ q, n = q + 1 := ⟨n - 1, by omega⟩
    obtain ⟨τ1, c1, c2⟩ := m_chance1 hw hr hsp (x + nI i)
    have c : XX10_lostByDraws (x + nI i) (nI sp) σ = some (nI (gT V sp x i), τ1) := c1
    obtain ⟨τ, k1⟩ := ih (i + 1) n τ1 (by omega) (by omega) c2
    have e1 : sumN (gT V sp x) (i + 1) = sumN (gT V sp x) i + gT V sp x i := rfl
    have e2 : sumN (gP V sp x) (i + 1) = sumN (gP V sp x) i + gP V sp x i := rfl
    have hl := gT_lt hw hsp (x := x) (i := i)
    rw [e1, e2] at k1
    refine ⟨τ, ?_⟩
    rw [LX10_chance_46, if_neg (by rw [nI_lei] <;> omega), c]
    simp only [b2]
    rw [lt_def]
    by_cases z : gT V sp x i = 0
    · have e3 : gP V sp x i = 0 := if_pos z
      rw [e3] at k1
      rw [if_pos (by rw [z]; decide)]
      simp only [lt]
      rw [nI_add, nI_1, show (0 : Int32) = nI 0 from rfl, nI_add]
      exact k1
    · have e3 : gP V sp x i = 1 := if_neg z
      rw [e3] at k1
      rw [if_neg (nI_nle (by omega) (by omega))]
      simp only [lt]
      rw [nI_add, nI_1, nI_1]
      exact k1
theorem op_chance {V : Vw} {σ : Sg} (h : Inv V σ) (x y z w : Int32) : pureOK σ (XX9_chance x y z w σ) (XX10_chance x y z w σ) := by
  obtain ⟨hw, hc, hr⟩ := id h
  have hr1 : RM V (up σ 64 0 0) := hr.1.th
  have key : ∃ r τ, XX9_chance x y z w σ = some r ∧ XX10_chance x y z w σ = some (r, τ) := by
    unfold XX9_chance XX10_chance
    rw [lt_def, m_in, m_in, m_in]
    by_cases a1 : y < 1
    · rw [if_pos a1, if_pos a1]
      exact ⟨_, _, rfl, rfl⟩
    rw [if_neg a1, if_neg a1]
    by_cases a2 : 20 < y
    · rw [if_pos a2, if_pos a2]
      exact ⟨_, _, rfl, rfl⟩
    rw [if_neg a2, if_neg a2]
    simp only [b1]
    rw [if_neg (show ¬ (1 : Int32) = 0 by decide)]
    by_cases a3 : z < 0
    · rw [if_pos a3, if_pos a3]
      exact ⟨_, _, rfl, rfl⟩
    rw [if_neg a3, if_neg a3]
    by_cases a4 : 20 < z
    · rw [if_pos a4, if_pos a4]
      exact ⟨_, _, rfl, rfl⟩
    rw [if_neg a4, if_neg a4]
    rw [if_neg (show ¬ (1 : Int32) = 0 by decide)]
    by_cases a5 : w < 0
    · rw [if_pos a5, if_pos a5]
      exact ⟨_, _, rfl, rfl⟩
    rw [if_neg a5, if_neg a5]
    by_cases a6 : 1 < w
    · rw [if_pos a6, if_neg (lt_irr a6)]
      exact ⟨_, _, rfl, rfl⟩
    rw [if_neg a6, if_pos (nlt_le a6)]
    rw [if_neg (show ¬ (1 : Int32) = 0 by decide), lt_def]
    have y0 : ¬ y < 0 := fun q => a1 (Int32.lt_iff_toInt_lt.mpr (by
      have h1 := Int32.lt_iff_toInt_lt.mp q
      have e0 : (0 : Int32).toInt = 0 := by decide
      have e1 : (1 : Int32).toInt = 1 := by decide
      omega))
    obtain ⟨M, hM, rfl⟩ := nI_of y0
    obtain ⟨sp, hsp, rfl⟩ := nI_of a3
    have M20 : M ≤ 20 := by
      exact n_nlt (a := 20) (by omega) (by omega) a2
    have s20 : sp ≤ 20 := by
      exact n_nlt (a := 20) (by omega) (by omega) a4
    have c := ch_top hw hc.1 hc.2.1 M20 s20 x w M 0 FUEL (by omega) (by unfold FUEL; omega)
    have c0 : (if w = 1 then nI (sumN (gT V sp x) 0) else nI (sumN (gP V sp x) 0)) = (0 : Int32) := by split <;> rfl
    rw [c0] at c
    obtain ⟨τ, k1⟩ := mch_top hw M20 s20 x (fun (x5_5 : Int32) (x6_6 : Int32) (σ_7 : Sg) => if w = 0 then (some (x5_5, σ_7)) else (some (x6_6, σ_7))) M 0 FUEL (up σ 64 0 0) (by omega) (by unfold FUEL; omega) hr1
    have c' : LX9_chance_40 x (nI M) (nI sp) w σ FUEL 0 0 = _ := c
    have k' : LX10_chance_46 x (nI M) (nI sp) (fun (x5_5 : Int32) (x6_6 : Int32) (σ_7 : Sg) => if w = 0 then (some (x5_5, σ_7)) else (some (x6_6, σ_7))) FUEL 0 0 0 (up σ 64 0 0) = _ := k1
    rw [c', k']
    by_cases q : w = 0
    · rw [if_pos q, if_neg (by rw [q]; decide)]
      exact ⟨_, _, rfl, rfl⟩
    · obtain ⟨j, hj, rfl⟩ := nI_of a5
      have : j = 1 := by
        have h1 := n_nlt (a := 1) (b := j) (by omega) (by omega) a6
        have h2 : j ≠ 0 := fun e => q (by rw [e]; rfl)
        omega
      rw [if_neg q, this, if_pos (show nI 1 = 1 from rfl)]
      exact ⟨_, _, rfl, rfl⟩
  obtain ⟨r, τ, h1, h2⟩ := key
  exact ⟨r, τ, h1, h2, V, h.look (frX10_chance h2) rfl rfl⟩
