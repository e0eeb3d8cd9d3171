/-! CALLS: alone -/
theorem ld1 {ld : Nat → Nat} {s N : Nat} (hs : s < N) : ldS ld (2 ^ s) N = ld s := by
  rw [ldS_one, if_pos hs]
theorem rn1 {V : Vw} {f s e : Nat} (hs : s < V 0 8) : rnF V (2 ^ s) f e = V 0 7 * msF V f s e + V 0 6 * sk V f s (e + 1) := by
  unfold rnF gnF
  rw [ld1 hs, ld1 hs]
theorem vp1 {V : Vw} (hw : WF V) {f s e : Nat} (hs : s < V 0 8) : vpF V (2 ^ s) f e = if V 3 s - sk V f s e = 0 then 0 else rpV V (2 ^ s) := by
  have lc : ∀ t, lcF V (2 ^ s) f e t = if s = t then V 3 t - sk V f t e else 0 := fun t => by
    unfold lcF
    rw [Nat.testBit_two_pow]
    by_cases q : s = t
    · rw [decide_eq_true q, if_pos rfl, if_pos q]
    · rw [decide_eq_false q, if_neg (by decide), if_neg q]
  have ls : lcF V (2 ^ s) f e s = V 3 s - sk V f s e := by rw [lc, if_pos rfl]
  have al : allS (lcF V (2 ^ s) f e) (V 0 8) = if V 3 s - sk V f s e = 0 then 0 else 2 ^ s := by
    apply Nat.eq_of_testBit_eq
    intro j
    rw [allS_bit]
    by_cases q : V 3 s - sk V f s e = 0
    · rw [if_pos q, Nat.zero_testBit]
      by_cases z : s = j
      · rw [← z, ls, q]
        simp
      · rw [lc, if_neg z]
        simp
    · rw [if_neg q, Nat.testBit_two_pow]
      by_cases z : s = j
      · rw [← z, ls, decide_eq_true hs, decide_eq_true (show 0 < V 3 s - sk V f s e by omega), decide_eq_true rfl]
        rfl
      · rw [lc, if_neg z, decide_eq_false z]
        simp
  unfold vpF cdV dpV
  rw [al]
  by_cases q : V 3 s - sk V f s e = 0
  · rw [if_pos q, if_pos q, PT_zero]
  · rw [if_neg q, if_neg q]
    have pf := PT_fit hw (cap := V 0 3) (ld := lcF V (2 ^ s) f e) (2 ^ s) (pow_lt8 hs) (by have := Nat.two_pow_pos s; omega) (by
      rw [ld1 hs, ls]
      have := (hw.sh hs).2.2.2.1
      omega)
    rw [pf]
theorem sk_self {V : Vw} {s d : Nat} : sk V (d + 1) s (d + 1) = V 3 s - aq V s d ∧ msF V (d + 1) s d = aq V s d - V 3 s := by
  have hb : (wf (d + 1)).testBit d = true := by
    rw [wf_bit, decide_eq_true rfl]
  refine ⟨?_, ?_⟩
  · show (if (wf (d + 1)).testBit d then V 3 s else stk (V 4 s) (V 3 s) (wf (d + 1)) (aq V s) d) - aq V s d = _
    rw [if_pos hb]
  · show aq V s d - (if (wf (d + 1)).testBit d then V 3 s else stk (V 4 s) (V 3 s) (wf (d + 1)) (aq V s) d) = _
    rw [if_pos hb]
theorem sk_next {V : Vw} {f s d : Nat} (h : f ≤ d) : sk V f s (d + 1) = sk V f s d - aq V s d ∧ msF V f s d = aq V s d - sk V f s d := by
  have hb : ¬ (wf f).testBit d = true := by
    rw [wf_bit, decide_eq_false (by omega)]
    decide
  refine ⟨?_, ?_⟩
  · show (if (wf f).testBit d then V 3 s else stk (V 4 s) (V 3 s) (wf f) (aq V s) d) - aq V s d = _
    rw [if_neg hb]
    rfl
  · show aq V s d - (if (wf f).testBit d then V 3 s else stk (V 4 s) (V 3 s) (wf f) (aq V s) d) = _
    rw [if_neg hb]
    rfl
theorem sc_run {V : Vw} {G s v : Nat} : ∀ d, stk (V 4 s) (V 3 s) v (aq V s) d = sk V (sc V G v d).2 s d
  | 0 => rfl
  | d + 1 => by
    have ih := sc_run (V := V) (G := G) (s := s) (v := v) d
    show (if v.testBit d then V 3 s else stk (V 4 s) (V 3 s) v (aq V s) d) - aq V s d = _
    cases h : v.testBit d with
    | true =>
      rw [sc_t h, if_pos rfl]
      exact sk_self.1.symm
    | false =>
      rw [sc_f h, if_neg (by decide), ih]
      exact (sk_next (sc_le d)).1.symm
theorem sc_cost {V : Vw} (hw : WF V) {s v : Nat} (hs : s < V 0 8) : ∀ d, (sc V (2 ^ s) v d).1 + rsm V (2 ^ s) (sc V (2 ^ s) v d).2 d = sumN (drN V s v) d * rpV V (2 ^ s) + V 0 6 * sumN (fun d => stk (V 4 s) (V 3 s) v (aq V s) (d + 1)) d + V 0 7 * sumN (rmiss (V 4 s) (V 3 s) v (aq V s)) d
  | 0 => by
    show 0 + rsm V (2 ^ s) 0 0 = 0 * rpV V (2 ^ s) + V 0 6 * 0 + V 0 7 * 0
    rw [show rsm V (2 ^ s) 0 0 = 0 from rsm_0]
    omega
  | d + 1 => by
    have ih := sc_cost hw (v := v) hs d
    have run := sc_run (V := V) (G := 2 ^ s) (s := s) (v := v) d
    have run1 := sc_run (V := V) (G := 2 ^ s) (s := s) (v := v) (d + 1)
    show _ = (sumN (drN V s v) d + drN V s v d) * rpV V (2 ^ s) + V 0 6 * (sumN (fun d => stk (V 4 s) (V 3 s) v (aq V s) (d + 1)) d + stk (V 4 s) (V 3 s) v (aq V s) (d + 1)) + V 0 7 * (sumN (rmiss (V 4 s) (V 3 s) v (aq V s)) d + rmiss (V 4 s) (V 3 s) v (aq V s) d)
    rw [Nat.add_mul, Nat.mul_add, Nat.mul_add]
    cases h : v.testBit d with
    | true =>
      have er : rmiss (V 4 s) (V 3 s) v (aq V s) d = msF V (d + 1) s d := by
        unfold rmiss
        rw [h, if_pos rfl, sk_self.2]
      have el : rload (V 4 s) (V 3 s) v (aq V s) d = V 3 s - sk V (sc V (2 ^ s) v d).2 s d := by
        unfold rload
        rw [h, if_pos rfl, run]
      have ed : vpF V (2 ^ s) (sc V (2 ^ s) v d).2 d = drN V s v d * rpV V (2 ^ s) := by
        rw [vp1 hw hs]
        unfold drN
        rw [el]
        split
        · rw [Nat.zero_mul]
        · rw [Nat.one_mul]
      have e0 : rsm V (2 ^ s) (d + 1) d = 0 := rsm_0 (f := d + 1)
      rw [sc_t h] at run1 ⊢
      have run1' : stk (V 4 s) (V 3 s) v (aq V s) (d + 1) = sk V (d + 1) s (d + 1) := run1
      show (sc V (2 ^ s) v d).1 + (rsm V (2 ^ s) (sc V (2 ^ s) v d).2 d + vpF V (2 ^ s) (sc V (2 ^ s) v d).2 d) + rsm V (2 ^ s) (d + 1) (d + 1) = _
      rw [rsm_s (Nat.le_refl _), e0, rn1 hs, er, run1', ed]
      omega
    | false =>
      have er : rmiss (V 4 s) (V 3 s) v (aq V s) d = msF V (sc V (2 ^ s) v d).2 s d := by
        unfold rmiss
        rw [h, if_neg (by decide), run, (sk_next (sc_le d)).2]
      have ed : drN V s v d = 0 := by
        unfold drN rload
        rw [h, if_neg (show ¬ false = true by decide), if_pos rfl]
      have fl := sc_le (V := V) (G := 2 ^ s) (v := v) d
      rw [sc_f h] at run1 ⊢
      rw [rsm_s (by omega), rn1 hs, er, run1, ed, Nat.zero_mul]
      omega
theorem tc_so {V : Vw} (hw : WF V) {s v : Nat} (hs : s < V 0 8) : tcV V (2 ^ s) v = soV V s v := sc_cost hw hs (V 0 0)
theorem sc_ok {V : Vw} {s v : Nat} (hs : s < V 0 8) : ∀ d, (okS V (2 ^ s) false v d ∧ okF V (2 ^ s) false (sc V (2 ^ s) v d).2 d) ↔ ∀ j, j < d → rmiss (V 4 s) (V 3 s) v (aq V s) j = 0
  | 0 => ⟨fun _ j hj => absurd hj (by omega), fun _ => ⟨trivial, Or.inr (fun j _ hj => absurd hj (by omega))⟩⟩
  | d + 1 => by
    have ih := sc_ok (v := v) hs d
    have run := sc_run (V := V) (G := 2 ^ s) (s := s) (v := v) d
    have gn : ∀ f j, gnF V (2 ^ s) f j = msF V f s j := fun f j => by
      unfold gnF
      rw [ld1 hs]
    have all : (∀ j, j < d + 1 → rmiss (V 4 s) (V 3 s) v (aq V s) j = 0) ↔ (∀ j, j < d → rmiss (V 4 s) (V 3 s) v (aq V s) j = 0) ∧ rmiss (V 4 s) (V 3 s) v (aq V s) d = 0 := by
      constructor
      · intro h
        exact ⟨fun j hj => h j (by omega), h d (by omega)⟩
      · rintro ⟨h1, h2⟩ j hj
        by_cases q : j = d
        · rw [q]
          exact h2
        · exact h1 j (by omega)
    rw [all, ← ih]
    show ((okS V (2 ^ s) false v d ∧ (v.testBit d = true → okF V (2 ^ s) false (sc V (2 ^ s) v d).2 d)) ∧ okF V (2 ^ s) false (sc V (2 ^ s) v (d + 1)).2 (d + 1)) ↔ _
    cases h : v.testBit d with
    | true =>
      have er : rmiss (V 4 s) (V 3 s) v (aq V s) d = msF V (d + 1) s d := by
        unfold rmiss
        rw [h, if_pos rfl, sk_self.2]
      rw [sc_t h, er]
      constructor
      · rintro ⟨⟨h1, h2⟩, h3⟩
        refine ⟨⟨h1, h2 rfl⟩, ?_⟩
        rcases h3 with h3 | h3
        · cases h3
        · have := h3 d (by show d + 1 - 1 ≤ d; omega) (by omega)
          rw [gn] at this
          exact this
      · rintro ⟨⟨h1, h2⟩, h3⟩
        refine ⟨⟨h1, fun _ => h2⟩, Or.inr (fun j a b => ?_)⟩
        have a' : d + 1 - 1 ≤ j := a
        rw [show j = d by omega, gn]
        exact h3
    | false =>
      have er : rmiss (V 4 s) (V 3 s) v (aq V s) d = msF V (sc V (2 ^ s) v d).2 s d := by
        unfold rmiss
        rw [h, if_neg (by decide), run, (sk_next (sc_le d)).2]
      have fl := sc_le (V := V) (G := 2 ^ s) (v := v) d
      rw [sc_f h, er]
      constructor
      · rintro ⟨⟨h1, -⟩, h3⟩
        rcases h3 with h3 | h3
        · cases h3
        · refine ⟨⟨h1, Or.inr (fun j a b => h3 j a (by omega))⟩, ?_⟩
          have := h3 d (by omega) (by omega)
          rw [gn] at this
          exact this
      · rintro ⟨⟨h1, h2⟩, h3⟩
        refine ⟨⟨h1, fun z => by cases z⟩, Or.inr (fun j a b => ?_)⟩
        rcases h2 with h2 | h2
        · cases h2
        · by_cases q : j = d
          · rw [q, gn]
            exact h3
          · exact h2 j a (by omega)
/-- nothing is lost -/
def nlS (V : Vw) (s v : Nat) : Prop := ∀ j, j < V 0 0 → rmiss (V 4 s) (V 3 s) v (aq V s) j = 0
theorem FS_one {V : Vw} {s v : Nat} (hs : s < V 0 8) : FS V (2 ^ s) false v ↔ v < 2 ^ V 0 0 ∧ nlS V s v := by
  have := sc_ok (v := v) hs (V 0 0)
  unfold FS nlS
  rw [← this]
def aI1 : Option Nat → Int32
  | none => -1
  | some b => nI b
def aI2 (V : Vw) (s : Nat) : Option Nat → Int32
  | none => 0
  | some b => nI (soV V s b)
def RTa (C : Nat → Nat) (S : Nat → Prop) (o : Option Nat) : Prop := match o with
  | none => ∀ w, ¬ S w
  | some b => bst C S b
theorem bst_eq {C : Nat → Nat} {S S' : Nat → Prop} {b : Nat} (h : bst C S b) (e : ∀ w, S w ↔ S' w) : bst C S' b := by
  have : S = S' := funext fun w => propext (e w)
  rw [← this]
  exact h
theorem ma_loop {V : Vw} (hw : WF V) {s : Nat} (hs : s < V 0 8) (K : Int32 → Int32 → Sg → Option (Int32 × Sg)) : ∀ m i n σ o, i + m = 2 ^ V 0 0 → m < n → RA V σ → askM V (aq V) σ → RTa (soV V s) (fun q => q < i ∧ nlS V s q) o → ∃ τ o', LX10_alone_38 (nI s) K n (aI1 o) (aI2 V s o) (nI i) σ = K (aI1 o') (aI2 V s o') τ ∧ RA V τ ∧ RTa (soV V s) (fun q => q < 2 ^ V 0 0 ∧ nlS V s q) o' := by
  have d14 := hw.d14
  have pc : 2 ^ V 0 0 ≤ 2 ^ 14 := Nat.pow_le_pow_right (by omega) d14
  have sh1 : (1 : Int32) <<< (nI (V 0 0) &&& 31) = nI (2 ^ V 0 0) := nx_1shl (by omega)
  intro m
  induction m with
  | zero =>
    intro i n σ o hi hn hr ha ho
    obtain ⟨n, rfl⟩ : ∃ q, n = q + 1 := ⟨n - 1, by omega⟩
    have e0 : σ 65 0 = nI (V 0 0) := hr.1.1 0 (by omega)
    have hi : i = 2 ^ V 0 0 := by omega
    subst hi
    refine ⟨σ, o, ?_, hr, ho⟩
    rw [LX10_alone_38]
    unfold XX10_days
    rw [b1s, e0, sh1, if_pos (by rw [nI_lei] <;> omega)]
  | succ m ih =>
    intro i n σ o hi hn hr ha ho
    obtain ⟨n, rfl⟩ : ∃ q, n = q + 1 := ⟨n - 1, by omega⟩
    have e0 : σ 65 0 = nI (V 0 0) := hr.1.1 0 (by omega)
    obtain ⟨σ1, a1, a2, a3, a4⟩ := m_soloCost hw hr ha hs (v := i) (by omega)
    have lb := m_lostBy hw a2.1 hs (f := rmiss (V 4 s) (V 3 s) i (aq V s)) (fun e he => (a4 e he).2.2)
    have l1 := soV_lt hw (v := i) hs
    have ll : sumN (rmiss (V 4 s) (V 3 s) i (aq V s)) (V 0 0) ≤ V 0 0 * 750 := sumN_le (fun d hd => by
      have h2 : rmiss (V 4 s) (V 3 s) i (aq V s) d ≤ aq V s d := rmiss_le
      have := aq_le hw hs hd
      omega)
    have nl : sumN (rmiss (V 4 s) (V 3 s) i (aq V s)) (V 0 0) = 0 ↔ nlS V s i := sumN_zero
    have c1 := cntB_le i 14
    have go : ∀ o1, RTa (soV V s) (fun q => q < i + 1 ∧ nlS V s q) o1 → ∃ τ o', LX10_alone_38 (nI s) K n (aI1 o1) (aI2 V s o1) (nI (i + 1)) σ1 = K (aI1 o') (aI2 V s o') τ ∧ RA V τ ∧ RTa (soV V s) (fun q => q < 2 ^ V 0 0 ∧ nlS V s q) o' := fun o1 h1 => ih (i + 1) n σ1 o1 (by omega) (by omega) a2 a3 h1
    rw [LX10_alone_38]
    unfold XX10_days
    rw [b1s, e0, sh1, if_neg (by rw [nI_lei] <;> omega), a1, b2s, lb, b1s]
    simp only [lt]
    rw [nI_1]
    by_cases q : sumN (rmiss (V 4 s) (V 3 s) i (aq V s)) (V 0 0) = 0
    · have hni := nl.mp q
      rw [if_pos (show nI (sumN (rmiss (V 4 s) (V 3 s) i (aq V s)) (V 0 0)) ≤ 0 by rw [q]; decide)]
      cases o with
      | none =>
        have ho' : ∀ w, ¬ (w < i ∧ nlS V s w) := ho
        rw [if_pos (show aI1 none < 0 by decide)]
        exact go (some i) ⟨⟨by omega, hni⟩, fun w hw => Or.inl (by
          by_cases z : w = i
          · exact z
          · exact absurd ⟨by omega, hw.2⟩ (ho' w))⟩
      | some b =>
        have ho' : bst (soV V s) (fun q => q < i ∧ nlS V s q) b := ho
        have bl : b < i := ho'.1.1
        have l2 := soV_lt hw (v := b) hs
        have c2 := cntB_le b 14
        have se : ∀ w, ((w < i ∧ nlS V s w) ∨ w = i) ↔ (w < i + 1 ∧ nlS V s w) := fun w => by
          constructor
          · rintro (⟨h1, h2⟩ | h1)
            · exact ⟨by omega, h2⟩
            · rw [h1]
              exact ⟨by omega, hni⟩
          · rintro ⟨h1, h2⟩
            by_cases z : w = i
            · exact Or.inr z
            · exact Or.inl ⟨by omega, h2⟩
        rw [show aI1 (some b) = nI b from rfl, show aI2 V s (some b) = nI (soV V s b) from rfl, if_neg (nI_pos (by omega)), m_bits (by omega), b1s, m_bits (by omega), b1s]
        by_cases q1 : soV V s i < soV V s b
        · rw [if_pos (by rw [nI_lti] <;> omega)]
          exact go (some i) (bst_eq (bst_new ho' (Or.inl q1)) se)
        rw [if_neg (by rw [nI_lti] <;> omega)]
        by_cases q2 : soV V s i = soV V s b
        · rw [if_pos (by rw [q2])]
          by_cases q3 : cntB i 14 < cntB b 14
          · rw [if_neg (by rw [nI_lei] <;> omega)]
            exact go (some i) (bst_eq (bst_new ho' (Or.inr ⟨q2, Or.inl q3⟩)) se)
          · rw [if_pos (by rw [nI_lei] <;> omega)]
            exact go (some b) (bst_eq (bst_old ho' (fun z => by
              unfold lk at z
              omega)) se)
        · rw [if_neg (nI_ne (by omega) (by omega) q2)]
          exact go (some b) (bst_eq (bst_old ho' (fun z => by
            unfold lk at z
            omega)) se)
    · have hni : ¬ nlS V s i := fun z => q (nl.mpr z)
      have se : ∀ w, (w < i ∧ nlS V s w) ↔ (w < i + 1 ∧ nlS V s w) := fun w => by
        constructor
        · rintro ⟨h1, h2⟩
          exact ⟨by omega, h2⟩
        · rintro ⟨h1, h2⟩
          by_cases z : w = i
          · rw [z] at h2
            exact absurd h2 hni
          · exact ⟨by omega, h2⟩
      rw [if_neg (nI_nle (by omega) (by omega))]
      refine go o ?_
      cases o with
      | none =>
        have ho' : ∀ w, ¬ (w < i ∧ nlS V s w) := ho
        exact fun w hw => ho' w ((se w).mpr hw)
      | some b => exact bst_eq (show bst (soV V s) (fun q => q < i ∧ nlS V s q) b from ho) se
theorem op_alone {V : Vw} {σ : Sg} (h : Inv V σ) (x y : Int32) : stOK (XX9_alone x y σ) (XX10_alone x y) := by
  obtain ⟨hw, hc, hr⟩ := id h
  have s6 := hw.s6
  have d14 := hw.d14
  have p6 := p64 s6
  have pc : 2 ^ V 0 0 ≤ 2 ^ 14 := Nat.pow_le_pow_right (by omega) d14
  have rf : ∀ r, XX9_alone x y σ = some (r, σ) → XX10_alone x y σ = some (r, up σ 64 0 0) → stOK (XX9_alone x y σ) (XX10_alone x y) := fun r e1 e2 => ⟨_, _, _, e1, e2, V, h.look (fr_upf (a := 64) (i := 0)) rfl rfl⟩
  have hrt : RA V (up σ 64 0 0) := hr.th
  by_cases hx : ib x (V 0 8)
  · by_cases y0 : y < 0
    · refine rf (-1) ?_ ?_
      · unfold XX9_alone
        rw [c_hasShop hc.1 s6, if_pos hx, b1s, if_neg (show ¬ (1 : Int32) = 0 by decide), if_pos y0]
      · unfold XX10_alone
        rw [lt_def, m_isShop (hrt.1.1 8 (by omega)) (by omega), if_pos hx, b1s, if_neg (show ¬ (1 : Int32) = 0 by decide), m_in, if_pos y0, b1s, if_pos rfl]
    by_cases y1 : 1 < y
    · refine rf (-1) ?_ ?_
      · unfold XX9_alone
        rw [c_hasShop hc.1 s6, if_pos hx, b1s, if_neg (show ¬ (1 : Int32) = 0 by decide), if_neg y0, if_neg (lt_irr y1)]
      · unfold XX10_alone
        rw [lt_def, m_isShop (hrt.1.1 8 (by omega)) (by omega), if_pos hx, b1s, if_neg (show ¬ (1 : Int32) = 0 by decide), m_in, if_neg y0, if_pos y1, b1s, if_pos rfl]
    obtain ⟨s, hs, rfl⟩ := ib_of hx (by omega)
    have pl := pow_lt8 hs
    have sh1 : (1 : Int32) <<< (nI s &&& 31) = nI (2 ^ s) := nx_1shl (by omega)
    obtain ⟨σ1, a1, a2, a3⟩ := c_findDays hw (G := 2 ^ s) (ml := false) (by omega) hc
    have a1' : XX1_findDays (nI (2 ^ s)) (0 : Int32) σ = some (if fdT V (2 ^ s) false (V 0 0 + 1) (V 0 0 + 1) = none then 0 else 1, σ1) := a1
    have fe := fdT_end (V := V) (G := 2 ^ s) (ml := false) d14
    have ec : tcV V (2 ^ s) = soV V s := funext fun v => tc_so hw hs
    have fs : FS V (2 ^ s) false = (fun q => q < 2 ^ V 0 0 ∧ nlS V s q) := funext fun q => propext (FS_one hs)
    rw [ec, fs] at fe
    -- the reference, wherever the class ends
    have ref : RA V σ1 → ∃ τ o, XX10_alone (nI s) y σ1 = some (if aI1 o < 0 then aI1 o else if y = 0 then aI1 o else aI2 V s o, τ) ∧ RA V τ ∧ RTa (soV V s) (fun q => q < 2 ^ V 0 0 ∧ nlS V s q) o := fun hr1 => by
      have hr2 : RA V (up σ1 64 0 0) := hr1.th
      obtain ⟨τ1, q1, q2, q3⟩ := m_layAsked hw hr2.1 (pct := 100) (by omega)
      rw [ask100] at q3
      obtain ⟨τ, o, t1, t2, t3⟩ := ma_loop hw hs (fun (x3_5 : Int32) (x4_6 : Int32) (σ_7 : Sg) => lt (some (x3_5, σ_7)) (fun (k120_9 : Option (Int32 × Sg)) => if x3_5 < 0 then (k120_9) else (if y = 0 then (k120_9) else (some (x4_6, σ_7))))) (2 ^ V 0 0) 0 FUEL τ1 none (by omega) (by unfold FUEL; omega) (hr2.off (frX10_layAsked q1) rfl) q3 (fun w hw => absurd hw.1 (by omega))
      refine ⟨τ, o, ?_, t2, t3⟩
      have t1' : LX10_alone_38 (nI s) (fun (x3_5 : Int32) (x4_6 : Int32) (σ_7 : Sg) => lt (some (x3_5, σ_7)) (fun (k120_9 : Option (Int32 × Sg)) => if x3_5 < 0 then (k120_9) else (if y = 0 then (k120_9) else (some (x4_6, σ_7))))) FUEL (-1 : Int32) (0 : Int32) (0 : Int32) τ1 = _ := t1
      unfold XX10_alone
      rw [lt_def, m_isShop (hr2.1.1 8 (by omega)) (by omega), if_pos hx, b1s, if_neg (show ¬ (1 : Int32) = 0 by decide), m_in, if_neg y0, if_neg y1, b1s, if_neg (show ¬ (1 : Int32) = 0 by decide), show (100 : Int32) = nI 100 from rfl, q1, b1s, lt_def, t1', lt_def]
      split
      · rfl
      · split <;> rfl
    cases hE : fdT V (2 ^ s) false (V 0 0 + 1) (V 0 0 + 1) with
    | none =>
      rw [hE] at fe a1'
      have fe' : ∀ w, ¬ (w < 2 ^ V 0 0 ∧ nlS V s w) := fe
      rw [if_pos rfl] at a1'
      have e1 : XX9_alone (nI s) y σ = some (-1, σ1) := by
        unfold XX9_alone
        rw [c_hasShop hc.1 s6, if_pos hx, b1s, if_neg (show ¬ (1 : Int32) = 0 by decide), if_neg y0, if_pos (nlt_le y1), sh1, a1', b2s, if_pos rfl]
      have F := frX9_alone e1
      obtain ⟨τ, o, r1, r2, r3⟩ := ref (hr.near F rfl)
      cases o with
      | none =>
        rw [if_pos (show aI1 none < 0 by decide)] at r1
        exact ⟨_, _, _, e1, r1, V, hw, a2.far (frX10_alone r1) rfl, r2⟩
      | some b =>
        have r3' : bst (soV V s) (fun q => q < 2 ^ V 0 0 ∧ nlS V s q) b := r3
        exact absurd r3'.1 (fe' b)
    | some a =>
      rw [hE] at fe a1' a3
      obtain ⟨f1, f2, f3⟩ : bst (soV V s) (fun q => q < 2 ^ V 0 0 ∧ nlS V s q) a.2.2 ∧ a.1 = soV V s a.2.2 ∧ a.2.1 = cntB a.2.2 14 := fe
      rw [if_neg (fun z => by cases z)] at a1'
      obtain ⟨g1, g2⟩ := c_best hw a2 a3
      have e1 : XX9_alone (nI s) y σ = some (if y = 0 then nI a.2.2 else nI a.1, σ1) := by
        unfold XX9_alone
        rw [c_hasShop hc.1 s6, if_pos hx, b1s, if_neg (show ¬ (1 : Int32) = 0 by decide), if_neg y0, if_pos (nlt_le y1), sh1, a1', b2s, if_neg (show ¬ (1 : Int32) = 0 by decide), g1, g2, b1s, b1s]
        split <;> rfl
      have F := frX9_alone e1
      obtain ⟨τ, o, r1, r2, r3⟩ := ref (hr.near F rfl)
      cases o with
      | none =>
        have r3' : ∀ w, ¬ (w < 2 ^ V 0 0 ∧ nlS V s w) := r3
        exact absurd f1.1 (r3' _)
      | some b =>
        have r3' : bst (soV V s) (fun q => q < 2 ^ V 0 0 ∧ nlS V s q) b := r3
        have eb : b = a.2.2 := bst_one r3' f1
        have bl : b < 2 ^ V 0 0 := r3'.1.1
        rw [show aI1 (some b) = nI b from rfl, show aI2 V s (some b) = nI (soV V s b) from rfl, if_neg (nI_pos (by omega)), eb, ← f2] at r1
        exact ⟨_, _, _, e1, r1, V, hw, a2.far (frX10_alone r1) rfl, r2⟩
  · refine rf (-1) ?_ ?_
    · unfold XX9_alone
      rw [c_hasShop hc.1 s6, if_neg hx]
      rfl
    · unfold XX10_alone
      rw [lt_def, m_isShop (hrt.1.1 8 (by omega)) (by omega), if_neg hx]
      rfl
