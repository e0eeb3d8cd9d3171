/-! CALLS: joint -/
theorem mb_from {V : Vw} (hw : WF V) (K : Sg → Option Sg) : ∀ m f n σ h, f + m = V 0 0 + 1 → m < n → vOK V h → MS V h σ → (∀ q u, q < f → q ≤ u → u ≤ V 0 0 → σ 88 (16 * q + u) = nI (btV V q u)) → ∃ τ g, LX10_layBetween_30 K n (nI f - 1) σ = K τ ∧ vOK V g ∧ MS V g τ ∧ (∀ q u, q ≤ V 0 0 → q ≤ u → u ≤ V 0 0 → τ 88 (16 * q + u) = nI (btV V q u)) ∧ τ 90 = σ 90 := by
  have s6 := hw.s6
  have d14 := hw.d14
  intro m
  induction m with
  | zero =>
    intro f n σ h hf hn ok hσ h88
    obtain ⟨n, rfl⟩ : ∃ q, n = q + 1 := ⟨n - 1, by omega⟩
    have e0 : σ 65 0 = nI (V 0 0) := hσ.1.1.1 0 (by omega)
    refine ⟨σ, h, ?_, ok, hσ, fun q u a b c => h88 q u (by omega) b c, rfl⟩
    rw [LX10_layBetween_30]
    unfold XX10_days
    rw [b1s, e0, show nI f - (1 : Int32) = nI (f - 1) from pk_sub (b := 1) (by omega), if_pos (by rw [nI_lei] <;> omega)]
  | succ m ih =>
    intro f n σ h hf hn ok hσ h88
    obtain ⟨n, rfl⟩ : ∃ q, n = q + 1 := ⟨n - 1, by omega⟩
    have e0 : σ 65 0 = nI (V 0 0) := hσ.1.1.1 0 (by omega)
    have hx : (f = 0 ∧ nI f - (1 : Int32) = -1) ∨ (0 < f ∧ nI f - (1 : Int32) = nI (f - 1)) := by
      by_cases q : f = 0
      · exact Or.inl ⟨q, by rw [q]; decide⟩
      · exact Or.inr ⟨by omega, pk_sub (b := 1) (by omega)⟩
    have nge : ¬ nI (V 0 0) ≤ nI f - (1 : Int32) := by
      rcases hx with ⟨q1, q2⟩ | ⟨q1, q2⟩
      · rw [q2]
        intro z
        have h1 := Int32.le_iff_toInt_le.mp z
        rw [nI_toInt (by omega)] at h1
        have e1 : (-1 : Int32).toInt = -1 := by decide
        omega
      · rw [q2, nI_lei] <;> omega
    have x1 : nI f - (1 : Int32) + 1 = nI f := Int32.sub_add_cancel _ _
    obtain ⟨σ1, g1, a1, a2, a3, a4, a5, a6⟩ := mb_to hw (f := f) (by omega) hx (fun (σ_15 : Sg) => lt (nI f - (1 : Int32) + (1 : Int32)) (fun (x1_17 : Int32) => LX10_layBetween_30 K n x1_17 σ_15)) (V 0 0 + 1 - f) f FUEL σ h (by omega) (Nat.le_refl _) (by unfold FUEL; omega) ok hσ (fun u p q => absurd q (by omega))
    obtain ⟨τ, g, k1, k2, k3, k4, k5⟩ := ih (f + 1) n σ1 g1 (by omega) (by omega) a2 a3 (fun q u p1 p2 p3 => by
      by_cases z : q = f
      · rw [z]
        exact a4 u (by omega) p3
      · rw [a5 _ (by omega)]
        exact h88 q u (by omega) p2 p3)
    refine ⟨τ, g, ?_, k2, k3, k4, by rw [k5, a6]⟩
    rw [LX10_layBetween_30]
    unfold XX10_days
    rw [b1s, e0, if_neg nge, lt_def, lt_def]
    rw [x1] at a1 ⊢
    refine Eq.trans a1 ?_
    rw [lt_def]
    have e2 : nI (f + 1) - (1 : Int32) = nI f := nI_pred f
    rw [e2] at k1
    exact k1
theorem mb_save {V : Vw} (hw : WF V) (K : Sg → Option Sg) : ∀ m s n σ, s + m = V 0 8 → m < n → RA V σ → ∃ τ, LX10_layBetween_2 K n (nI s) σ = K τ ∧ (∀ t, s ≤ t → t < V 0 8 → τ 90 t = σ 78 t) ∧ (∀ t, t < s → τ 90 t = σ 90 t) ∧ fr [(90, none)] σ τ := by
  have s6 := hw.s6
  intro m
  induction m with
  | zero =>
    intro s n σ hs hn hr
    obtain ⟨n, rfl⟩ : ∃ q, n = q + 1 := ⟨n - 1, by omega⟩
    have e8 : σ 65 8 = nI (V 0 8) := hr.1.1 8 (by omega)
    refine ⟨σ, ?_, fun t h1 h2 => absurd h2 (by omega), fun t _ => rfl, fr.rf⟩
    rw [LX10_layBetween_2]
    unfold XX10_shops
    rw [b1s, e8, if_pos (by rw [nI_lei] <;> omega)]
  | succ m ih =>
    intro s n σ hs hn hr
    obtain ⟨n, rfl⟩ : ∃ q, n = q + 1 := ⟨n - 1, by omega⟩
    have e8 : σ 65 8 = nI (V 0 8) := hr.1.1 8 (by omega)
    have f1 : fr [(90, none)] σ (up σ 90 s (σ 78 s)) := fr_up
    obtain ⟨τ, k1, k2, k3, k4⟩ := ih (s + 1) n (up σ 90 s (σ 78 s)) (by omega) (by omega) (hr.off f1 rfl)
    refine ⟨τ, ?_, fun t h1 h2 => ?_, fun t h1 => ?_, f1.tr k4⟩
    · rw [LX10_layBetween_2]
      unfold XX10_shops
      rw [b1s, e8, if_neg (by rw [nI_lei] <;> omega), if_pos ((ib_nI (by omega)).mpr (by omega)), nI_cl (by omega), lt_def, lt_def, nI_1]
      exact k1
    · by_cases q : t = s
      · rw [q, k3 s (by omega), up_same]
      · rw [k2 t (by omega) h2, up_cell (by omega)]
    · rw [k3 t (by omega), up_slot (by omega)]
theorem mb_back {V : Vw} (hw : WF V) : ∀ m s n σ h, s + m = V 0 8 → m < n → vOK V h → MS V h σ → (∀ t, t < V 0 8 → σ 90 t = nI (V 5 t)) → (∀ t, t < s → h t = V 5 t) → ∃ τ, LX10_layBetween_239 n (nI s) σ = some τ ∧ RA V τ ∧ τ 88 = σ 88 := by
  have s6 := hw.s6
  intro m
  induction m with
  | zero =>
    intro s n σ h hs hn ok hσ h90 h1
    obtain ⟨n, rfl⟩ : ∃ q, n = q + 1 := ⟨n - 1, by omega⟩
    have hs : s = V 0 8 := by omega
    subst hs
    have e8 : σ 65 8 = nI (V 0 8) := hσ.1.1.1 8 (by omega)
    have eh : h = V 5 := by
      funext u
      by_cases q : u < V 0 8
      · exact h1 u q
      · rw [ok.2 u (by omega), hw.v5.2 u (by omega)]
    have hr := hσ.1
    rw [eh, vs_self] at hr
    refine ⟨σ, ?_, hr, rfl⟩
    rw [LX10_layBetween_239]
    unfold XX10_shops
    rw [b1s, e8, if_pos (by rw [nI_lei] <;> omega)]
  | succ m ih =>
    intro s n σ h hs hn ok hσ h90 h1
    obtain ⟨n, rfl⟩ : ∃ q, n = q + 1 := ⟨n - 1, by omega⟩
    have e8 : σ 65 8 = nI (V 0 8) := hσ.1.1.1 8 (by omega)
    have f1 : fr [(78, none)] σ (up σ 78 s (nI (V 5 s))) := fr_up
    obtain ⟨τ, k1, k2, k3⟩ := ih (s + 1) n (up σ 78 s (nI (V 5 s))) (updN h s (V 5 s)) (by omega) (by omega) (ok.upd (by omega) (hw.v5.1 s)) ⟨m_set1 hσ.1 (by omega), fun u e hu he => by rw [f1.cell (k := 79) rfl]; exact hσ.2 u e hu he⟩ (fun t ht => by rw [f1.cell (k := 90) rfl]; exact h90 t ht) (fun t ht => by
      unfold updN
      by_cases q : t = s
      · rw [if_pos q, q]
      · rw [if_neg q]
        exact h1 t (by omega))
    refine ⟨τ, ?_, k2, by rw [k3, f1.cell (k := 88) rfl]⟩
    rw [LX10_layBetween_239]
    unfold XX10_shops
    rw [b1s, e8, if_neg (by rw [nI_lei] <;> omega), if_pos ((ib_nI (by omega)).mpr (by omega)), nI_cl (by omega), h90 s (by omega), lt_def, lt_def, nI_1]
    exact k1
/-- the table of stretches -/
def BT (V : Vw) (σ : Sg) : Prop := ∀ q u, q ≤ V 0 0 → q ≤ u → u ≤ V 0 0 → σ 88 (16 * q + u) = nI (btV V q u)
theorem m_layBetween {V : Vw} (hw : WF V) {σ : Sg} (hr : RA V σ) (ha : askM V (aq V) σ) : ∃ τ, XX10_layBetween σ = some τ ∧ RA V τ ∧ BT V τ := by
  have s6 := hw.s6
  have d14 := hw.d14
  obtain ⟨σ1, a1, a2, -, a4⟩ := mb_save hw (fun (σ_1 : Sg) => lt (fun (σ_3 : Sg) => LX10_layBetween_239 FUEL (0 : Int32) σ_3) (fun (k237_4 : Sg → Option Sg) => LX10_layBetween_30 k237_4 FUEL (-1 : Int32) σ_1)) (V 0 8) 0 FUEL σ (by omega) (by unfold FUEL; omega) hr
  have ms1 : MS V (V 5) σ1 := ⟨by rw [vs_self]; exact hr.off a4 rfl, fun u e hu he => by rw [a4.cell (k := 79) rfl]; exact ha u e hu he⟩
  obtain ⟨σ2, g, b1', b2', b3', b4', b5'⟩ := mb_from hw (fun (σ_3 : Sg) => LX10_layBetween_239 FUEL (0 : Int32) σ_3) (V 0 0 + 1) 0 FUEL σ1 (V 5) (by omega) (by unfold FUEL; omega) hw.v5 ms1 (fun q u p => absurd p (by omega))
  obtain ⟨τ, k1, k2, k3⟩ := mb_back hw (V 0 8) 0 FUEL σ2 g (by omega) (by unfold FUEL; omega) b2' b3' (fun t ht => by
    rw [b5', a2 t (by omega) ht]
    exact hr.1.2.2.1 t (by omega)) (fun t ht => absurd ht (by omega))
  refine ⟨τ, ?_, k2, fun q u p1 p2 p3 => by rw [k3]; exact b4' q u p1 p2 p3⟩
  unfold XX10_layBetween
  rw [lt_def]
  refine Eq.trans a1 ?_
  rw [lt_def]
  have em : nI 0 - (1 : Int32) = -1 := by decide
  rw [em] at b1'
  refine Eq.trans b1' ?_
  exact k1
theorem bt_seg {V : Vw} {f t : Nat} (ht : t < V 0 0) : btV V f t = rsm V (Ga V) f t + vpF V (Ga V) f t := by
  unfold btV
  rw [if_pos ht]
  omega
theorem bt_end {V : Vw} {f : Nat} : btV V f (V 0 0) = rsm V (Ga V) f (V 0 0) := by
  unfold btV
  rw [if_neg (by omega)]
  omega
theorem m_costBy {V : Vw} (hw : WF V) {σ : Sg} (hr : RA V σ) (hB : BT V σ) {v : Nat} (hv : v < 2147483648) : XX10_costBy (nI v) σ = some (nI (tcV V (Ga V) v)) := by
  have d14 := hw.d14
  have e0 : σ 65 0 = nI (V 0 0) := hr.1.1 0 (by omega)
  have key : ∀ (K : Int32 → Int32 → Option Int32) m d n, d + m = V 0 0 → m < n → LX10_costBy_7 (nI v) σ K n (nI (sc V (Ga V) v d).2 - 1) (nI (sc V (Ga V) v d).1) (nI d) = K (nI (sc V (Ga V) v (V 0 0)).2 - 1) (nI (sc V (Ga V) v (V 0 0)).1) := by
    intro K m
    induction m with
    | zero =>
      intro d n hd hn
      obtain ⟨n, rfl⟩ : ∃ q, n = q + 1 := ⟨n - 1, by omega⟩
      have hd : d = V 0 0 := by omega
      subst hd
      rw [LX10_costBy_7]
      unfold XX10_days
      rw [b1s, e0, if_pos (by rw [nI_lei] <;> omega)]
    | succ m ih =>
      intro d n hd hn
      obtain ⟨n, rfl⟩ : ∃ q, n = q + 1 := ⟨n - 1, by omega⟩
      have k1 := ih (d + 1) n (by omega) (by omega)
      have fl := sc_le (V := V) (G := Ga V) (v := v) d
      rw [LX10_costBy_7]
      unfold XX10_days
      rw [b1s, e0, if_neg (by rw [nI_lei] <;> omega), m_isOf hv (by omega), b1s]
      simp only [lt]
      rw [nI_1]
      cases hb : v.testBit d with
      | false =>
        rw [sc_f hb] at k1
        rw [if_pos (show nI (bq false) = 0 by decide)]
        exact k1
      | true =>
        rw [sc_t hb] at k1
        have x1 : nI (sc V (Ga V) v d).2 - (1 : Int32) + 1 = nI (sc V (Ga V) v d).2 := Int32.sub_add_cancel _ _
        rw [if_neg (show ¬ nI (bq true) = 0 by decide), x1, show (16 : Int32) = nI 16 from rfl, pk_mul, nI_add, if_pos ((ib_nI (by omega)).mpr (by omega)), nI_cl (by omega), hB _ d (by omega) fl (by omega), bt_seg (by omega), nI_add]
        have e2 : nI (d + 1) - (1 : Int32) = nI d := nI_pred d
        rw [← e2]
        exact k1
  have fl := sc_le (V := V) (G := Ga V) (v := v) (V 0 0)
  have k := key (fun (x2_1 : Int32) (x3_2 : Int32) => b1 (XX10_days σ) (fun (r_4 : Int32) => if ib (((16 : Int32) * (x2_1 + (1 : Int32))) + r_4) 256 then some (x3_2 + (σ 88 (((16 : Int32) * (x2_1 + (1 : Int32))) + r_4).toNatClampNeg)) else none)) (V 0 0) 0 FUEL (by omega) (by unfold FUEL; omega)
  have em : nI (sc V (Ga V) v 0).2 - (1 : Int32) = -1 := by
    show nI 0 - (1 : Int32) = -1
    decide
  rw [em] at k
  unfold XX10_costBy
  rw [lt_def]
  refine Eq.trans k ?_
  unfold XX10_days
  have x1 : nI (sc V (Ga V) v (V 0 0)).2 - (1 : Int32) + 1 = nI (sc V (Ga V) v (V 0 0)).2 := Int32.sub_add_cancel _ _
  rw [b1s, e0, x1, show (16 : Int32) = nI 16 from rfl, pk_mul, nI_add, if_pos ((ib_nI (by omega)).mpr (by omega)), nI_cl (by omega), hB _ (V 0 0) (by omega) (by omega) (Nat.le_refl _), bt_end, nI_add]
  rfl
theorem tc_lt {V : Vw} (hw : WF V) {G v : Nat} : tcV V G v < 100000000 := by
  have d14 := hw.d14
  have rl : ∀ f t, t ≤ V 0 0 → rsm V G f t ≤ 14 * 460000 := fun f t ht => by
    have h1 : rsm V G f t ≤ (t - (f - 1)) * 460000 := sumN_le (fun i hi => (rn_le hw (by omega)).1)
    have h2 : (t - (f - 1)) * 460000 ≤ 14 * 460000 := Nat.mul_le_mul_right _ (by omega)
    exact Nat.le_trans h1 h2
  have vl : ∀ f e, vpF V G f e ≤ 24000 := fun f e => cd_le hw
  have key : ∀ d, d ≤ V 0 0 → (sc V G v d).1 ≤ 6464000 * d := by
    intro d
    induction d with
    | zero =>
      intro _
      exact Nat.le_refl _
    | succ d ih =>
      intro hd
      have i1 := ih (by omega)
      cases h : v.testBit d with
      | true =>
        rw [sc_t h]
        have r1 := rl (sc V G v d).2 d (by omega)
        have v1 := vl (sc V G v d).2 d
        show (sc V G v d).1 + (rsm V G (sc V G v d).2 d + vpF V G (sc V G v d).2 d) ≤ 6464000 * (d + 1)
        omega
      | false =>
        rw [sc_f h]
        omega
  have k := key (V 0 0) (Nat.le_refl _)
  have r := rl (sc V G v (V 0 0)).2 (V 0 0) (Nat.le_refl _)
  unfold tcV
  omega
theorem mj_loop37 {V : Vw} (hw : WF V) {σ : Sg} (hr : RA V σ) (hB : BT V σ) (K : Int32 → Int32 → Option (Int32 × Sg)) : ∀ m i n b, i + m = 2 ^ V 0 0 → m < n → 1 ≤ i → b < i → bst (tcV V (Ga V)) (fun q => q < i) b → ∃ b', LX10_joint_37 σ K n (nI b) (nI (tcV V (Ga V) b)) (nI i) = K (nI b') (nI (tcV V (Ga V) b')) ∧ bst (tcV V (Ga V)) (fun q => q < 2 ^ V 0 0) b' := by
  have d14 := hw.d14
  have pc : 2 ^ V 0 0 ≤ 2 ^ 14 := Nat.pow_le_pow_right (by omega) d14
  have e0 : σ 65 0 = nI (V 0 0) := hr.1.1 0 (by omega)
  have sh1 : (1 : Int32) <<< (nI (V 0 0) &&& 31) = nI (2 ^ V 0 0) := nx_1shl (by omega)
  intro m
  induction m with
  | zero =>
    intro i n b hi hn h1 hb hbst
    obtain ⟨n, rfl⟩ : ∃ q, n = q + 1 := ⟨n - 1, by omega⟩
    have hi : i = 2 ^ V 0 0 := by omega
    subst hi
    refine ⟨b, ?_, hbst⟩
    rw [LX10_joint_37]
    unfold XX10_days
    rw [b1s, e0, sh1, if_pos (by rw [nI_lei] <;> omega)]
  | succ m ih =>
    intro i n b hi hn h1 hb hbst
    obtain ⟨n, rfl⟩ : ∃ q, n = q + 1 := ⟨n - 1, by omega⟩
    have l1 := tc_lt hw (G := Ga V) (v := i)
    have l2 := tc_lt hw (G := Ga V) (v := b)
    have c1 := cntB_le i 14
    have c2 := cntB_le b 14
    have pe : (fun q => q < i + 1) = (fun q => q < i ∨ q = i) := by
      funext q
      apply propext
      constructor
      · intro h
        omega
      · intro h
        omega
    have go : ∀ b1, b1 < i + 1 → bst (tcV V (Ga V)) (fun q => q < i ∨ q = i) b1 → ∃ b', LX10_joint_37 σ K n (nI b1) (nI (tcV V (Ga V) b1)) (nI (i + 1)) = K (nI b') (nI (tcV V (Ga V) b')) ∧ bst (tcV V (Ga V)) (fun q => q < 2 ^ V 0 0) b' := fun b1 hb1 hB1 => ih (i + 1) n b1 (by omega) (by omega) (by omega) hb1 (by rw [pe]; exact hB1)
    rw [LX10_joint_37]
    unfold XX10_days
    rw [b1s, e0, sh1, if_neg (by rw [nI_lei] <;> omega), m_costBy hw hr hB (by omega), b1s]
    simp only [lt]
    rw [nI_1, m_bits (by omega), b1s, m_bits (by omega), b1s]
    by_cases q1 : tcV V (Ga V) i < tcV V (Ga V) b
    · rw [if_pos (by rw [nI_lti] <;> omega)]
      exact go i (by omega) (bst_new hbst (Or.inl q1))
    rw [if_neg (by rw [nI_lti] <;> omega)]
    by_cases q2 : tcV V (Ga V) i = tcV V (Ga V) b
    · rw [if_pos (by rw [q2])]
      by_cases q3 : cntB i 14 < cntB b 14
      · rw [if_neg (by rw [nI_lei] <;> omega)]
        exact go i (by omega) (bst_new hbst (Or.inr ⟨q2, Or.inl q3⟩))
      · rw [if_pos (by rw [nI_lei] <;> omega)]
        exact go b (by omega) (bst_old hbst (fun z => by
          unfold lk at z
          omega))
    · rw [if_neg (nI_ne (by omega) (by omega) q2)]
      exact go b (by omega) (bst_old hbst (fun z => by
        unfold lk at z
        omega))
theorem FS_true {V : Vw} {G v : Nat} : FS V G true v ↔ v < 2 ^ V 0 0 := by
  have h : ∀ d, okS V G true v d := fun d => by
    induction d with
    | zero => trivial
    | succ d ih => exact ⟨ih, fun _ => Or.inl rfl⟩
  constructor
  · intro q
    exact q.1
  · intro q
    exact ⟨q, h _, Or.inl rfl⟩
theorem c_best {V : Vw} (hw : WF V) {σ : Sg} (hc : CI V σ) {a : TR} (h : pRow (some a) (V 0 0 + 1) σ) : XX1_bestCost σ = some (nI a.1) ∧ XX1_bestDays σ = some (nI a.2.2) := by
  have d14 := hw.d14
  obtain ⟨h1, -, h3⟩ : σ 56 (V 0 0 + 1) = nI a.1 ∧ σ 57 (V 0 0 + 1) = nI a.2.1 ∧ σ 58 (V 0 0 + 1) = nI a.2.2 := h
  unfold XX1_bestCost XX1_bestDays
  rw [hc.1.1, nI_1, if_pos ((ib_nI (by omega)).mpr (by omega)), if_pos ((ib_nI (by omega)).mpr (by omega)), nI_cl (by omega), h1, h3]
  exact ⟨rfl, rfl⟩
theorem op_joint {V : Vw} {σ : Sg} (h : Inv V σ) (x : Int32) : stOK (XX9_joint x σ) (XX10_joint x) := by
  obtain ⟨hw, hc, hr⟩ := id h
  have s6 := hw.s6
  have d14 := hw.d14
  have pc : 2 ^ V 0 0 ≤ 2 ^ 14 := Nat.pow_le_pow_right (by omega) d14
  have pp := Nat.two_pow_pos (V 0 0)
  have rf : ∀ r, XX9_joint x σ = some (r, σ) → XX10_joint x σ = some (r, up σ 64 0 0) → stOK (XX9_joint x σ) (XX10_joint x) := fun r e1 e2 => ⟨_, _, _, e1, e2, V, h.look (fr_upf (a := 64) (i := 0)) rfl rfl⟩
  by_cases x0 : x < 0
  · refine rf (-1) ?_ ?_
    · unfold XX9_joint
      rw [if_pos x0]
    · unfold XX10_joint
      rw [lt_def, m_in, if_pos x0, b1s, if_pos rfl]
  by_cases x1 : 1 < x
  · refine rf (-1) ?_ ?_
    · unfold XX9_joint
      rw [if_neg x0, if_neg (lt_irr x1)]
    · unfold XX10_joint
      rw [lt_def, m_in, if_neg x0, if_pos x1, b1s, if_pos rfl]
  obtain ⟨σ1, a1, a2, a3⟩ := c_findDays hw (ml := true) (Ga_lt hw) hc
  have fe := fdT_end (V := V) (G := Ga V) (ml := true) d14
  cases hE : fdT V (Ga V) true (V 0 0 + 1) (V 0 0 + 1) with
  | none =>
    rw [hE] at fe
    exact absurd (FS_true.mpr pp) (fe 0)
  | some a =>
    rw [hE] at fe a3 a1
    obtain ⟨f1, f2, f3⟩ : bst (tcV V (Ga V)) (FS V (Ga V) true) a.2.2 ∧ a.1 = tcV V (Ga V) a.2.2 ∧ a.2.1 = cntB a.2.2 14 := fe
    rw [if_neg (fun z => by cases z)] at a1
    have a1' : XX1_findDays (nI (Ga V)) (1 : Int32) σ = some (1, σ1) := a1
    obtain ⟨g1, g2⟩ := c_best hw a2 a3
    have sm : (1 : Int32) <<< (nI (V 0 8) &&& 31) - 1 = nI (Ga V) := sm1 (by omega)
    have c26 : σ 2 6 = nI (V 0 8) := hc.1.2.2.2.2.2.2.1
    have e1 : XX9_joint x σ = some (if x = 0 then nI a.2.2 else nI a.1, σ1) := by
      unfold XX9_joint
      rw [if_neg x0, if_pos (nlt_le x1), c26, sm, a1', b2s, if_neg (show ¬ (1 : Int32) = 0 by decide), g1, g2, b1s, b1s]
      split <;> rfl
    have F := frX9_joint e1
    have hr1 : RA V (up σ1 64 0 0) := (hr.near F rfl).th
    obtain ⟨τ1, q1, q2, q3⟩ := m_layAsked hw hr1.1 (pct := 100) (by omega)
    rw [ask100] at q3
    obtain ⟨τ2, r1, r2, r3⟩ := m_layBetween hw (hr1.off (frX10_layAsked q1) rfl) q3
    obtain ⟨b, t1, t2⟩ := mj_loop37 hw r2 r3 (fun (x2_6 : Int32) (x3_7 : Int32) => if x = 0 then (some (x2_6, τ2)) else (some (x3_7, τ2))) (2 ^ V 0 0 - 1) 1 FUEL 0 (by omega) (by unfold FUEL; omega) (Nat.le_refl _) (by omega) ⟨by omega, fun q hq => Or.inl (by omega)⟩
    have fs : FS V (Ga V) true = (fun q => q < 2 ^ V 0 0) := funext fun q => propext FS_true
    rw [fs] at f1
    have eb : b = a.2.2 := bst_one t2 f1
    rw [eb, ← f2] at t1
    have e2 : XX10_joint x σ1 = some (if x = 0 then nI a.2.2 else nI a.1, τ2) := by
      have c0 : XX10_costBy (0 : Int32) τ2 = some (nI (tcV V (Ga V) 0)) := m_costBy hw r2 r3 (v := 0) (by omega)
      unfold XX10_joint
      rw [lt_def, m_in, if_neg x0, if_neg x1, b1s, if_neg (show ¬ (1 : Int32) = 0 by decide), show (100 : Int32) = nI 100 from rfl, q1, b1s, r1, b1s, c0, b1s, lt_def]
      have t1' : LX10_joint_37 τ2 (fun (x2_6 : Int32) (x3_7 : Int32) => if x = 0 then (some (x2_6, τ2)) else (some (x3_7, τ2))) FUEL (0 : Int32) (nI (tcV V (Ga V) 0)) (1 : Int32) = _ := t1
      rw [t1']
      split <;> rfl
    exact ⟨_, _, _, e1, e2, V, hw, a2.far (frX10_joint e2) rfl, r2⟩
