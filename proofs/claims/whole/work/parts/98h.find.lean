/-! CALLS: alone, joint: the class's table of places -/
theorem c_fill {a N : Nat} (hN : N < 1000) (v : Int32) : ∀ m i n σ, i + m = N → m < n → ∃ τ, LJ7_fill_53178_5 a N v (nI N) n (nI i) σ = some τ ∧ (∀ j, i ≤ j → j < N → τ a j = v) ∧ (∀ j, j < i → τ a j = σ a j) ∧ fr [(a, none)] σ τ := by
  intro m
  induction m with
  | zero =>
    intro i n σ hi hn
    obtain ⟨n, rfl⟩ : ∃ q, n = q + 1 := ⟨n - 1, by omega⟩
    refine ⟨σ, ?_, fun j h1 h2 => absurd h2 (by omega), fun _ _ => rfl, fr.rf⟩
    rw [LJ7_fill_53178_5, if_pos (by rw [nI_lei] <;> omega)]
  | succ m ih =>
    intro i n σ hi hn
    obtain ⟨n, rfl⟩ : ∃ q, n = q + 1 := ⟨n - 1, by omega⟩
    obtain ⟨τ, k1, k2, k3, k4⟩ := ih (i + 1) n (up σ a i v) (by omega) (by omega)
    refine ⟨τ, ?_, fun j h1 h2 => ?_, fun j h1 => ?_, fr.tr fr_up k4⟩
    · rw [LJ7_fill_53178_5, if_neg (by rw [nI_lei] <;> omega), if_pos ((ib_nI (by omega)).mpr (by omega)), nI_cl (by omega), lt_def, lt_def, nI_1]
      exact k1
    · by_cases q : j = i
      · rw [q, k3 i (by omega), up_same]
      · exact k2 j (by omega) h2
    · rw [k3 j (by omega), up_slot (by omega)]
theorem c_fill0 {a N : Nat} (hN : N < 1000) (v : Int32) (σ : Sg) : ∃ τ, XJ7_fill_53178 a N v σ = some τ ∧ (∀ j, j < N → τ a j = v) ∧ fr [(a, none)] σ τ := by
  obtain ⟨τ, h1, h2, -, h4⟩ := c_fill (a := a) hN v N 0 FUEL σ (by omega) (by unfold FUEL; omega)
  refine ⟨τ, ?_, fun j hj => h2 j (Nat.zero_le _) hj, h4⟩
  unfold XJ7_fill_53178
  rw [lt_def, show (Int32.ofNat N) = nI N from rfl, show (0 : Int32) = nI 0 from rfl]
  exact h1
/-- good rows -/
def gR (V : Vw) (p : Nat) (o : Option TR) : Prop := ∀ a, o = some a → a.1 ≤ 500000 * p ∧ a.2.1 ≤ min p (V 0 0) ∧ a.2.2 < 2 ^ min p (V 0 0)
theorem gR.row {V : Vw} (hw : WF V) {p : Nat} (hp : p ≤ 15) {o : Option TR} (h : gR V p o) : gRow o := fun a ha => by
  have d14 := hw.d14
  obtain ⟨h1, h2, h3⟩ := h a ha
  have : 2 ^ min p (V 0 0) ≤ 2 ^ 14 := Nat.pow_le_pow_right (by omega) (by omega)
  exact ⟨by omega, by omega, by omega⟩
theorem ldS_le {ld : Nat → Nat} {G n c : Nat} (h : ∀ s, s < n → ld s ≤ c) : ldS ld G n ≤ n * c := sumN_le (fun s hs => by
  have := h s hs
  show (if G.testBit s then ld s else 0) ≤ c
  split <;> omega)
theorem rn_le {V : Vw} (hw : WF V) {G f e : Nat} (he : e < V 0 0) : rnF V G f e ≤ 460000 ∧ gnF V G f e ≤ 4500 := by
  have s6 := hw.s6
  have t99 := hw.t99
  have h1 : gnF V G f e ≤ V 0 8 * 750 := ldS_le (fun s hs => by
    have h2 : msF V f s e ≤ aq V s e := rmiss_le
    have := aq_le hw hs he
    omega)
  have h2 : ldS (fun s => sk V f s (e + 1)) G (V 0 8) ≤ V 0 8 * 99 := ldS_le (fun s hs => by
    have h3 : sk V f s (e + 1) ≤ V 3 s := stk_le (hw.sh hs).2.2.2.2 _
    have := (hw.sh hs).2.2.2.1
    show sk V f s (e + 1) ≤ 99
    omega)
  have h3 : V 0 7 * gnF V G f e ≤ 99 * 4500 := Nat.mul_le_mul hw.lo (by omega)
  have h4 : V 0 6 * ldS (fun s => sk V f s (e + 1)) G (V 0 8) ≤ 9 * 594 := Nat.mul_le_mul hw.ho (by omega)
  unfold rnF
  omega
theorem of3_gR {V : Vw} {p : Nat} {o : Option TR} {a : TR} (h : gR V p o) (ha : gR V p (some a)) : gR V p (of3 o a) := by
  cases o with
  | none => exact ha
  | some b =>
    show gR V p (if a.1 < b.1 ∨ (a.1 = b.1 ∧ (a.2.1 < b.2.1 ∨ (a.2.1 = b.2.1 ∧ a.2.2 < b.2.2))) then some a else some b)
    split
    · exact ha
    · exact h
theorem upT_gR {V : Vw} {T : TT} (h : ∀ p, p < 16 → gR V p (T p)) {p : Nat} {o : Option TR} (ho : gR V p o) : ∀ q, q < 16 → gR V q (upT T p o q) := fun q hq => by
  unfold upT
  by_cases z : q = p
  · rw [if_pos z, z]
    exact ho
  · rw [if_neg z]
    exact h q hq
theorem cg_loop {V : Vw} (hw : WF V) {G f : Nat} {ml : Bool} {a : TR} (hG : G < 64) (hf : f ≤ V 0 0) : ∀ m e n so T σ, e + m = V 0 0 → f ≤ e + 1 → m < n → so ≤ 500000 * (e + 1) → (f ≤ e → so + 24000 ≤ 500000 * (e + 1)) → CI V σ → TH V G f e σ → TS T σ → T f = some a → (∀ p, p < 16 → gR V p (T p)) → ∃ τ, LX1_goOn_72 (nI f) (nI G) (nI (bq ml)) (fun (x4_6 : Int32) (σ_7 : Sg) => b1 (XX1_offer ((σ_7 2 0) + (1 : Int32)) (nI f) x4_6 (0 : Int32) σ_7) (fun (σ_9 : Sg) => some σ_9)) n (nI so) (nI e) σ = some τ ∧ CI V τ ∧ TS (goT V G ml f a m e so T) τ ∧ (∀ p, p < 16 → gR V p (goT V G ml f a m e so T p)) := by
  have d14 := hw.d14
  intro m
  induction m with
  | zero =>
    intro e n so T σ he hfe hn hso hso2 hc ht hT hTf hg
    obtain ⟨n, rfl⟩ : ∃ q, n = q + 1 := ⟨n - 1, by omega⟩
    obtain ⟨g1, g2, g3⟩ := hg f (by omega) a hTf
    have wl : a.2.2 < 2 ^ V 0 0 := Nat.lt_of_lt_of_le g3 (Nat.pow_le_pow_right (by omega) (by omega))
    have wl2 : 2 ^ V 0 0 ≤ 2 ^ 14 := Nat.pow_le_pow_right (by omega) d14
    have gf : gRow (some a) := by
      rw [← hTf]
      exact (hg f (by omega)).row hw (by omega)
    obtain ⟨τ, k1, k2, k3⟩ := c_offer hT (p := V 0 0 + 1) (f := f) (c := so) (b := 0) (k := 0) (by omega) (by omega) (by omega) hTf gf ((hg (V 0 0 + 1) (by omega)).row hw (by omega)) (by omega) (by omega) (by decide) (by omega) (by rw [Nat.or_zero]; omega)
    rw [Nat.or_zero, Nat.add_zero] at k2
    refine ⟨τ, ?_, hc.off k3 rfl (hc.2.1.frm k3 rfl) (hc.2.2.2.1.off k3 (fun k k1 k2 => by simp; omega)), k2, upT_gR hg (of3_gR (hg _ (by omega)) (fun b hb => ?_))⟩
    · have k1' : XX1_offer (nI (V 0 0 + 1)) (nI f) (nI so) (0 : Int32) σ = some τ := k1
      rw [LX1_goOn_72, hc.1.1, if_pos (by rw [nI_lei] <;> omega), nI_1, k1', b1s]
    · cases hb
      rw [show min (V 0 0 + 1) (V 0 0) = V 0 0 by omega]
      have : e = V 0 0 := by omega
      subst this
      exact ⟨hso, by show a.2.1 ≤ V 0 0; omega, wl⟩
  | succ m ih =>
    intro e n so T σ he hfe hn hso hso2 hc ht hT hTf hg
    obtain ⟨n, rfl⟩ : ∃ q, n = q + 1 := ⟨n - 1, by omega⟩
    have he0 : e < V 0 0 := by omega
    obtain ⟨g1, g2, g3⟩ := hg f (by omega) a hTf
    have gf : gRow (some a) := by
      rw [← hTf]
      exact (hg f (by omega)).row hw (by omega)
    have rl := rn_le hw (G := G) (f := f) he0
    have vl : vpF V G f e ≤ 24000 := cd_le hw
    obtain ⟨T1, hT1⟩ : ∃ T1, T1 = (if e < f then T else upT T (e + 1) (of3 (T (e + 1)) (so + vpF V G f e, a.2.1 + 1, a.2.2 ||| 2 ^ e))) := ⟨_, rfl⟩
    have eg : goT V G ml f a (m + 1) e so T = if ml = false ∧ gnF V G f e ≠ 0 then T1 else goT V G ml f a m (e + 1) (so + rnF V G f e) T1 := by
      rw [hT1]
      rfl
    -- behind the offer
    have tail : ∀ σ1, CI V σ1 → TH V G f e σ1 → TS T1 σ1 → T1 f = some a → (∀ p, p < 16 → gR V p (T1 p)) → ∃ τ, b2 (XX1_sellDay (nI e) (nI G) σ1) (fun (r_15 : Int32) (σ_16 : Sg) => lt (b1 (XX1_stockOf (nI G) σ_16) (fun (r_18 : Int32) => lt (nI so + (((σ_16 2 5) * r_15) + ((σ_16 2 4) * r_18))) (fun (x4_19 : Int32) => lt (nI (e + 1)) (fun (x5_20 : Int32) => LX1_goOn_72 (nI f) (nI G) (nI (bq ml)) (fun (x4_6 : Int32) (σ_7 : Sg) => b1 (XX1_offer ((σ_7 2 0) + (1 : Int32)) (nI f) x4_6 (0 : Int32) σ_7) (fun (σ_9 : Sg) => some σ_9)) n x4_19 x5_20 σ_16)))) (fun (k130_17 : Option Sg) => if r_15 ≤ 0 then (k130_17) else (if nI (bq ml) = 0 then (some σ_16) else (k130_17)))) = some τ ∧ CI V τ ∧ TS (goT V G ml f a (m + 1) e so T) τ ∧ (∀ p, p < 16 → gR V p (goT V G ml f a (m + 1) e so T p)) := fun σ1 hc1 ht1 hTS hTf1 hg1 => by
      obtain ⟨σ2, b1', b2', b3', b4'⟩ := c_sell hw hG hfe he0 hc1 ht1
      have hT2 : TS T1 σ2 := hTS.off (b4'.cell (k := 56) rfl) (b4'.cell (k := 57) rfl) (b4'.cell (k := 58) rfl)
      have st := c_stockOf hw hG hfe b2' b3'
      rw [eg, b1', b2s, lt_def, st, b1s, lt_def, lt_def, b2'.1.2.2.2.2.2.1, b2'.1.2.2.2.2.1, pk_mul, pk_mul, nI_add, nI_add]
      have er : V 0 7 * gnF V G f e + V 0 6 * ldS (fun s => sk V f s (e + 1)) G (V 0 8) = rnF V G f e := rfl
      rw [er]
      obtain ⟨τ, k1, k2, k3, k4⟩ := ih (e + 1) n (so + rnF V G f e) T1 σ2 (by omega) (by omega) (by omega) (by omega) (fun _ => by omega) b2' b3' hT2 hTf1 hg1
      by_cases q : gnF V G f e = 0
      · rw [if_pos (show nI (gnF V G f e) ≤ 0 by rw [q]; decide), if_neg (fun z => z.2 q)]
        exact ⟨τ, k1, k2, k3, k4⟩
      · rw [if_neg (nI_nle (by omega) (by omega))]
        cases ml with
        | true =>
          rw [if_neg (show ¬ nI (bq true) = 0 by decide), if_neg (fun z => absurd z.1 (by decide))]
          exact ⟨τ, k1, k2, k3, k4⟩
        | false =>
          rw [if_pos (show nI (bq false) = 0 by decide), if_pos ⟨rfl, q⟩]
          exact ⟨σ2, rfl, b2', hT2, hg1⟩
    rw [LX1_goOn_72, hc.1.1, if_neg (by rw [nI_lei] <;> omega), lt_def]
    by_cases q : e < f
    · have eT : T1 = T := by rw [hT1, if_pos q]
      rw [if_pos (by rw [nI_lti] <;> omega), nI_1]
      exact tail σ hc ht (by rw [eT]; exact hT) (by rw [eT]; exact hTf) (by rw [eT]; exact hg)
    · have eT : T1 = upT T (e + 1) (of3 (T (e + 1)) (so + vpF V G f e, a.2.1 + 1, a.2.2 ||| 2 ^ e)) := by rw [hT1, if_neg q]
      have hs2 := hso2 (by omega)
      obtain ⟨σ1, a1, a2, a3⟩ := c_vp hw hG (f := f) (e := e) (by omega) hc ht
      have hT1' : TS T σ1 := hT.off (a3.cell (k := 56) rfl) (a3.cell (k := 57) rfl) (a3.cell (k := 58) rfl)
      have ht1 : TH V G f e σ1 := fun s h1 h2 => by rw [a3.cell (k := 59) rfl]; exact ht s h1 h2
      have sh1 : (1 : Int32) <<< (nI e &&& 31) = nI (2 ^ e) := nx_1shl (by omega)
      have pe : 2 ^ e < 2 ^ 14 := Nat.pow_lt_pow_right (by omega) (by omega)
      have we : a.2.2 < 2 ^ e := Nat.lt_of_lt_of_le g3 (Nat.pow_le_pow_right (by omega) (by omega))
      have wo : a.2.2 ||| 2 ^ e < 2 ^ (e + 1) := Nat.or_lt_two_pow (Nat.lt_of_lt_of_le we (Nat.pow_le_pow_right (by omega) (by omega))) (Nat.pow_lt_pow_right (by omega) (by omega))
      have w14 : 2 ^ (e + 1) ≤ 2 ^ 14 := Nat.pow_le_pow_right (by omega) (by omega)
      obtain ⟨σ2, o1, o2, o3⟩ := c_offer hT1' (p := e + 1) (f := f) (c := so + vpF V G f e) (b := 2 ^ e) (k := 1) (by omega) (by omega) (by omega) hTf gf ((hg (e + 1) (by omega)).row hw (by omega)) (by omega) (by omega) (cnt_pow e (by omega)) (by omega) (by omega)
      rw [← eT] at o2
      have hc2 : CI V σ2 := a2.off o3 rfl (a2.2.1.frm o3 rfl) (a2.2.2.2.1.off o3 (fun k k1 k2 => by simp; omega))
      rw [if_neg (by rw [nI_lti] <;> omega), a1, b2s, nI_1, nI_add, sh1, o1, b1s]
      refine tail σ2 hc2 (fun s h1 h2 => by rw [o3.cell (k := 59) rfl]; exact ht1 s h1 h2) o2 ?_ ?_
      · rw [eT]
        unfold upT
        rw [if_neg (by omega)]
        exact hTf
      · rw [eT]
        refine upT_gR hg (of3_gR (hg _ (by omega)) (fun b hb => ?_))
        cases hb
        rw [show min (e + 1) (V 0 0) = e + 1 by omega]
        exact ⟨by show so + vpF V G f e ≤ 500000 * (e + 1); omega, by show a.2.1 + 1 ≤ e + 1; omega, wo⟩
theorem c_goOn {V : Vw} (hw : WF V) {G f : Nat} {ml : Bool} {a : TR} (hG : G < 64) (hf : f ≤ V 0 0) {T : TT} {σ : Sg} (hc : CI V σ) (hT : TS T σ) (hTf : T f = some a) (hg : ∀ p, p < 16 → gR V p (T p)) : ∃ τ, XX1_goOn (nI f) (nI G) (nI (bq ml)) σ = some τ ∧ CI V τ ∧ TS (stT1 V G ml f T) τ ∧ (∀ p, p < 16 → gR V p (stT1 V G ml f T p)) := by
  have d14 := hw.d14
  have s6 := hw.s6
  have e56 : σ 56 f = nI a.1 := by
    have := hT f (by omega)
    rw [hTf] at this
    exact this.1
  have key : ∀ (K : Sg → Option Sg) m s n σ, s + m = V 0 8 → m < n → CI V σ → TS T σ → (∀ t, t < s → σ 59 t = nI (thF V f t (f - 1))) → ∃ τ, LX1_goOn_11 (nI f) K n (nI s) σ = K τ ∧ CI V τ ∧ TS T τ ∧ TH V G f (f - 1) τ := by
    intro K m
    induction m with
    | zero =>
      intro s n σ hs hn hc hT h0
      obtain ⟨n, rfl⟩ : ∃ q, n = q + 1 := ⟨n - 1, by omega⟩
      have hs : s = V 0 8 := by omega
      subst hs
      refine ⟨σ, ?_, hc, hT, fun t a b => h0 t a⟩
      rw [LX1_goOn_11, hc.1.2.2.2.2.2.2.1, if_pos (by rw [nI_lei] <;> omega)]
    | succ m ih =>
      intro s n σ hs hn hc hT h0
      obtain ⟨n, rfl⟩ : ∃ q, n = q + 1 := ⟨n - 1, by omega⟩
      have hs8 : s < V 0 8 := by omega
      have i6 : ib (nI s) 6 := (ib_nI (by omega)).mpr (by omega)
      have f1 : fr [(59, none)] σ (up σ 59 s (nI (thF V f s (f - 1)))) := fr_up
      obtain ⟨τ, k1, k2, k3, k4⟩ := ih (s + 1) n (up σ 59 s (nI (thF V f s (f - 1)))) (by omega) (by omega) (hc.off f1 rfl (hc.2.1.frm f1 rfl) (hc.2.2.2.1.off f1 (fun k k1 k2 => by simp; omega))) (hT.off (f1.cell (k := 56) rfl) (f1.cell (k := 57) rfl) (f1.cell (k := 58) rfl)) (fun t ht => by
        by_cases q : t = s
        · rw [q, up_same]
        · rw [up_slot q]
          exact h0 t (by omega))
      refine ⟨τ, ?_, k2, k3, k4⟩
      have s5 := (hc.1.2.2.2.2.2.2.2.2.1 s hs8).2.2
      rw [LX1_goOn_11, hc.1.2.2.2.2.2.2.1, if_neg (by rw [nI_lei] <;> omega)]
      simp only [lt]
      rw [if_pos i6, if_pos i6, if_pos i6, if_pos i6, nI_cl (by omega), nI_1, s5.1, s5.2]
      by_cases q : f = 0
      · have et : thF V f s (f - 1) = V 4 s := by
          rw [q]
          rfl
        rw [et] at k1
        rw [if_pos (show nI f = 0 by rw [q]; rfl)]
        exact k1
      · have et : thF V f s (f - 1) = V 3 s := if_pos (by omega)
        rw [et] at k1
        rw [if_neg (nI_n0 q (by omega))]
        exact k1
  obtain ⟨g1, g2, g3⟩ := hg f (by omega) a hTf
  have es : stT1 V G ml f T = goT V G ml f a (V 0 0 - (f - 1)) (f - 1) a.1 T := by
    unfold stT1
    rw [hTf]
  obtain ⟨σ1, a1, a2, a3, a4⟩ := key (fun (σ_3 : Sg) => lt (if (0 : Int32) < (nI f - (1 : Int32)) then (nI f - (1 : Int32)) else (0 : Int32)) (fun (x5_5 : Int32) => lt (fun (x4_6 : Int32) (σ_7 : Sg) => b1 (XX1_offer ((σ_7 2 0) + (1 : Int32)) (nI f) x4_6 (0 : Int32) σ_7) (fun (σ_9 : Sg) => some σ_9)) (fun (k165_8 : Int32 → Sg → Option Sg) => LX1_goOn_72 (nI f) (nI G) (nI (bq ml)) k165_8 FUEL (nI a.1) x5_5 σ_3))) (V 0 8) 0 FUEL σ (by omega) (by unfold FUEL; omega) hc hT (fun t h => absurd h (by omega))
  obtain ⟨τ, k1, k2, k3, k4⟩ := cg_loop hw (ml := ml) hG hf (V 0 0 - (f - 1)) (f - 1) FUEL a.1 T σ1 (by omega) (by omega) (by unfold FUEL; omega) (by omega) (fun h => by omega) a2 a4 a3 hTf hg
  rw [es]
  refine ⟨τ, ?_, k2, k3, k4⟩
  have em : (if (0 : Int32) < nI f - (1 : Int32) then nI f - (1 : Int32) else (0 : Int32)) = nI (f - 1) := by
    have := pos1 (a := f) (b := 1) (by omega) (by omega)
    exact this
  unfold XX1_goOn
  rw [if_pos ((ib_nI (by omega)).mpr (by omega)), nI_cl (by omega), e56, lt_def, lt_def]
  refine Eq.trans a1 ?_
  rw [em, lt_def, lt_def]
  exact k1
theorem cf_loop {V : Vw} (hw : WF V) {G : Nat} {ml : Bool} (hG : G < 64) (K : Sg → Option (Int32 × Sg)) : ∀ m f n σ, f + m = V 0 0 + 1 → m < n → CI V σ → TS (fdT V G ml f) σ → (∀ p, p < 16 → gR V p (fdT V G ml f p)) → ∃ τ, LX1_findDays_40 (nI G) (nI (bq ml)) K n (nI f) σ = K τ ∧ CI V τ ∧ TS (fdT V G ml (V 0 0 + 1)) τ ∧ (∀ p, p < 16 → gR V p (fdT V G ml (V 0 0 + 1) p)) := by
  have d14 := hw.d14
  intro m
  induction m with
  | zero =>
    intro f n σ hf hn hc hT hg
    obtain ⟨n, rfl⟩ : ∃ q, n = q + 1 := ⟨n - 1, by omega⟩
    have hf : f = V 0 0 + 1 := by omega
    subst hf
    refine ⟨σ, ?_, hc, hT, hg⟩
    rw [LX1_findDays_40, hc.1.1, if_pos (by rw [nI_lti] <;> omega)]
  | succ m ih =>
    intro f n σ hf hn hc hT hg
    obtain ⟨n, rfl⟩ : ∃ q, n = q + 1 := ⟨n - 1, by omega⟩
    have ef : fdT V G ml (f + 1) = stT1 V G ml f (fdT V G ml f) := rfl
    rw [LX1_findDays_40, hc.1.1, if_neg (by rw [nI_lti] <;> omega), if_pos ((ib_nI (by omega)).mpr (by omega)), nI_cl (by omega)]
    simp only [lt]
    rw [nI_1]
    cases hTf : fdT V G ml f f with
    | none =>
      have h56 : σ 56 f = 1000000000 := by
        have := hT f (by omega)
        rw [hTf] at this
        exact this
      have es : stT1 V G ml f (fdT V G ml f) = fdT V G ml f := by
        unfold stT1
        rw [hTf]
      rw [es] at ef
      rw [h56, if_pos rfl]
      rw [← ef] at hT hg
      exact ih (f + 1) n σ (by omega) (by omega) hc hT hg
    | some a =>
      have h56 : σ 56 f = nI a.1 := by
        have := hT f (by omega)
        rw [hTf] at this
        exact this.1
      have gl := (hg f (by omega) a hTf).1
      obtain ⟨σ1, a1, a2, a3, a4⟩ := c_goOn hw (ml := ml) hG (f := f) (by omega) hc hT hTf hg
      rw [h56, if_neg (show ¬ nI a.1 = 1000000000 from nI_ne (b := 1000000000) (by omega) (by omega) (by omega)), a1, b1s]
      rw [← ef] at a3 a4
      exact ih (f + 1) n σ1 (by omega) (by omega) a2 a3 a4
theorem c_findDays {V : Vw} (hw : WF V) {G : Nat} {ml : Bool} (hG : G < 64) {σ : Sg} (hc : CI V σ) : ∃ τ, XX1_findDays (nI G) (nI (bq ml)) σ = some (if fdT V G ml (V 0 0 + 1) (V 0 0 + 1) = none then 0 else 1, τ) ∧ CI V τ ∧ pRow (fdT V G ml (V 0 0 + 1) (V 0 0 + 1)) (V 0 0 + 1) τ := by
  have d14 := hw.d14
  obtain ⟨σ1, a1, a2, a3⟩ := c_fill0 (a := 56) (N := 16) (by omega) 1000000000 σ
  obtain ⟨σ2, b1', b2', b3'⟩ := c_fill0 (a := 60) (N := 6) (by omega) 0 σ1
  obtain ⟨σ3, hσ3⟩ : ∃ σ3, σ3 = up (up (up σ2 56 0 0) 57 0 0) 58 0 0 := ⟨_, rfl⟩
  have F : fr [(56, none), (57, none), (58, none), (60, none)] σ σ3 := by
    rw [hσ3]
    exact fr.tr (a3.mono (by simp)) (fr.tr (b3'.mono (by simp)) (fr.tr (fr.tr (fr_up.mono (by simp)) (fr_up.mono (by simp))) (fr_up.mono (by simp))))
  have hc3 : CI V σ3 := hc.off F rfl (hc.2.1.frm F rfl) (hc.2.2.2.1.off F (fun k k1 k2 => by simp; omega))
  have hT3 : TS (fdT V G ml 0) σ3 := fun p hp => by
    show pRow (if p = 0 then some (0, 0, 0) else none) p σ3
    by_cases q : p = 0
    · rw [if_pos q, q, hσ3]
      exact ⟨by rw [up_cell (by omega), up_cell (by omega), up_same]; rfl, by rw [up_cell (by omega), up_same]; rfl, by rw [up_same]; rfl⟩
    · rw [if_neg q, hσ3]
      show up (up (up σ2 56 0 0) 57 0 0) 58 0 0 56 p = 1000000000
      rw [up_cell (by omega), up_cell (by omega), up_slot q, b3'.cell (k := 56) rfl, a2 p hp]
  have hg3 : ∀ p, p < 16 → gR V p (fdT V G ml 0 p) := fun p hp b hb => by
    have hb' : (if p = 0 then some (0, 0, 0) else none) = some b := hb
    by_cases q : p = 0
    · rw [if_pos q] at hb'
      rw [← Option.some.inj hb']
      exact ⟨Nat.zero_le _, Nat.zero_le _, Nat.two_pow_pos _⟩
    · rw [if_neg q] at hb'
      cases hb'
  obtain ⟨τ, k1, k2, k3, k4⟩ := cf_loop hw (ml := ml) hG (fun (σ_6 : Sg) => if ib ((σ_6 2 0) + (1 : Int32)) 16 then if (σ_6 56 ((σ_6 2 0) + (1 : Int32)).toNatClampNeg) = (1000000000 : Int32) then (some ((0 : Int32), σ_6)) else (some ((1 : Int32), σ_6)) else none) (V 0 0 + 1) 0 FUEL σ3 (by omega) (by unfold FUEL; omega) hc3 hT3 hg3
  have kk := k3 (V 0 0 + 1) (by omega)
  refine ⟨τ, ?_, k2, kk⟩
  unfold XX1_findDays
  rw [a1, b1s, b1', b1s, lt_def, lt_def, lt_def, ← hσ3, lt_def]
  refine Eq.trans k1 ?_
  rw [k2.1.1, nI_1, if_pos ((ib_nI (by omega)).mpr (by omega)), nI_cl (by omega)]
  cases hE : fdT V G ml (V 0 0 + 1) (V 0 0 + 1) with
  | none =>
    rw [hE] at kk
    have kk' : τ 56 (V 0 0 + 1) = 1000000000 := kk
    rw [kk', if_pos rfl, if_pos rfl]
  | some b =>
    have gl := (k4 (V 0 0 + 1) (by omega) b hE).1
    rw [hE] at kk
    rw [kk.1, if_neg (show ¬ nI b.1 = 1000000000 from nI_ne (b := 1000000000) (by omega) (by omega) (by omega)), if_neg (fun z => by cases z)]
