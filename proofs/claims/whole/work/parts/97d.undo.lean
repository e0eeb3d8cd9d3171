/-! ACTS: undo -/
theorem TC.rows {V V2 : Vw} {σ τ : Sg} (h : TC V σ) (e0 : ∀ i, i ≠ 9 → V2 0 i = V 0 i) (e1 : V2 1 = V 1) (e2 : V2 2 = V 2) (e3 : V2 3 = V 3) (e4 : V2 4 = V 4) (c2 : ∀ i, i ≠ 7 → τ 2 i = σ 2 i) (cz : ∀ k, 3 ≤ k → k ≤ 6 → τ k = σ k) (h7 : τ 2 7 = nI (V2 0 9)) (ha : ∀ s d, s < V 0 8 → d < V 0 0 → τ 7 (14 * s + d) = nI (aq V2 s d)) (hk : ∀ k, k < V2 0 9 → τ 8 k = nI (V2 7 k) ∧ τ 9 k = nI (V2 8 k)) : TC V2 τ := by
  obtain ⟨t0, t1, t2, t3, t4, t5, t6, t7, t8, t9, t10, t11, t12⟩ := h
  refine ⟨?_, ?_, ?_, ?_, ?_, ?_, ?_, h7, ?_, ?_, ?_, ?_, hk⟩
  · rw [c2 0 (by omega), e0 0 (by omega)]
    exact t0
  · rw [c2 1 (by omega), e0 3 (by omega)]
    exact t1
  · rw [c2 2 (by omega), e0 4 (by omega)]
    exact t2
  · rw [c2 3 (by omega), e0 5 (by omega)]
    exact t3
  · rw [c2 4 (by omega), e0 6 (by omega)]
    exact t4
  · rw [c2 5 (by omega), e0 7 (by omega)]
    exact t5
  · rw [c2 6 (by omega), e0 8 (by omega)]
    exact t6
  · rw [cz 3 (by omega) (by omega), cz 4 (by omega) (by omega), cz 5 (by omega) (by omega), cz 6 (by omega) (by omega), e0 8 (by omega), e1, e2, e3, e4]
    exact t8
  · rw [cz 3 (by omega) (by omega), e1]
    exact t9
  · rw [cz 4 (by omega) (by omega), e2]
    exact t10
  · rw [e0 8 (by omega), e0 0 (by omega)]
    exact ha
theorem c_keepRushes {V : Vw} (hw : WF V) {R : Nat} : ∀ m r n σ, r = R + m → r ≤ V 0 9 → m < n → TC (ruV V r (V 7) (V 8)) σ → ∃ τ, LX7_keepRushes_0 (nI R) n σ = some τ ∧ TC (ruV V R (V 7) (V 8)) τ ∧ fr [(2, some 7), (7, none)] σ τ := by
  have s6 := hw.s6
  have d14 := hw.d14
  have r12 := hw.r12
  intro m
  induction m with
  | zero =>
    intro r n σ hr hl hn ht
    obtain ⟨n, rfl⟩ : ∃ q, n = q + 1 := ⟨n - 1, by omega⟩
    have hr : r = R := by omega
    subst hr
    have e7 : σ 2 7 = nI r := ht.2.2.2.2.2.2.2.1
    refine ⟨σ, ?_, ht, fr.rf⟩
    rw [LX7_keepRushes_0, e7, if_pos (by rw [nI_lei] <;> omega)]
  | succ m ih =>
    intro r n σ hr hl hn ht
    obtain ⟨n, rfl⟩ : ∃ q, n = q + 1 := ⟨n - 1, by omega⟩
    obtain ⟨q, rfl⟩ : ∃ q, r = q + 1 := ⟨r - 1, by omega⟩
    have e7 : σ 2 7 = nI (q + 1) := ht.2.2.2.2.2.2.2.1
    obtain ⟨⟨s0, d0, g1, g2, g3⟩, g4, g5⟩ := hw.ru q (by omega)
    have e8 : σ 8 q = nI (14 * s0 + d0) := by
      have := (ht.2.2.2.2.2.2.2.2.2.2.2.2 q (show q < q + 1 by omega)).1
      rw [← g3]
      exact this
    have e9 : σ 9 q = nI (V 8 q) := (ht.2.2.2.2.2.2.2.2.2.2.2.2 q (show q < q + 1 by omega)).2
    have ea : ∀ s d, s < V 0 8 → d < V 0 0 → σ 7 (14 * s + d) = nI (aq (ruV V (q + 1) (V 7) (V 8)) s d) := ht.2.2.2.2.2.2.2.2.2.2.2.1
    have as : ∀ s d, aq (ruV V (q + 1) (V 7) (V 8)) s d = aq (ruV V q (V 7) (V 8)) s d + (if V 7 q = 14 * s + d then V 8 q else 0) := fun s d => by
      show V 6 (14 * s + d) + (sumN (fun k => if V 7 k = 14 * s + d then V 8 k else 0) q + (if V 7 q = 14 * s + d then V 8 q else 0)) = V 6 (14 * s + d) + sumN (fun k => if V 7 k = 14 * s + d then V 8 k else 0) q + (if V 7 q = 14 * s + d then V 8 q else 0)
      omega
    obtain ⟨σ1, hσ1⟩ : ∃ σ1, σ1 = up (up σ 2 7 (nI q)) 7 (14 * s0 + d0) (nI (aq (ruV V q (V 7) (V 8)) s0 d0)) := ⟨_, rfl⟩
    have f1 : fr [(2, some 7), (7, none)] σ σ1 := by
      rw [hσ1]
      exact fr.tr (fr_upf.mono (by simp)) (fr_up.mono (by simp))
    have t1 : TC (ruV V q (V 7) (V 8)) σ1 := by
      refine ht.rows (V2 := ruV V q (V 7) (V 8)) (fun i hi => ?_) rfl rfl rfl rfl (fun i hi => ?_) (fun k k1 k2 => f1.cell (by simp; omega)) ?_ (fun s d hs hd => ?_) (fun k hk => ?_)
      · show (if i = 9 then q else V 0 i) = (if i = 9 then q + 1 else V 0 i)
        rw [if_neg hi, if_neg hi]
      · exact f1.slot (by simp; omega)
      · rw [hσ1, up_cell (by omega), up_same]
        rfl
      · have hs8 : s < V 0 8 := hs
        have hd0 : d < V 0 0 := hd
        rw [hσ1]
        by_cases z : 14 * s0 + d0 = 14 * s + d
        · have z1 : s0 = s := by omega
          have z2 : d0 = d := by omega
          subst z1
          subst z2
          rw [up_same]
        · rw [up_slot (by omega), up_cell (by omega), ea s d hs8 hd0, as, g3, if_neg z, Nat.add_zero]
      · have hk' : k < q := hk
        rw [f1.cell (k := 8) rfl, f1.cell (k := 9) rfl]
        exact ht.2.2.2.2.2.2.2.2.2.2.2.2 k (show k < q + 1 by omega)
    obtain ⟨τ, k1, k2, k3⟩ := ih q n σ1 (by omega) (by omega) (by omega) t1
    refine ⟨τ, ?_, k2, f1.tr k3⟩
    have c7 : up σ 2 7 (nI q) 7 (14 * s0 + d0) = nI (aq (ruV V q (V 7) (V 8)) s0 d0 + V 8 q) := by
      rw [up_cell (by omega), ea s0 d0 g1 g2, as, g3, if_pos rfl]
    rw [LX7_keepRushes_0, e7, if_neg (by rw [nI_lei] <;> omega), if_neg (nI_nle (by omega) (by omega)), show nI (q + 1) - (1 : Int32) = nI q from nI_pred q, lt_def, up_same, if_pos ((ib_nI (by omega)).mpr (by omega)), nI_cl (by omega), up_cell (show 8 ≠ 2 by omega), e8, lt_def, if_pos ((ib_nI (by omega)).mpr (by omega)), nI_cl (by omega), c7, up_cell (show 9 ≠ 2 by omega), e9, pk_sub (by omega), show aq (ruV V q (V 7) (V 8)) s0 d0 + V 8 q - V 8 q = aq (ruV V q (V 7) (V 8)) s0 d0 by omega, lt_def, ← hσ1]
    exact k1
/-- all shops' visits anew -/
theorem c_undo_loop {V : Vw} (hw : WF V) {pr : (Nat → Int32) → Int32} (hpr : prC pr) {g : Nat → Nat} (hg : vOK V g) {ask : Nat → Nat → Nat} (hask : ∀ s d, s < V 0 8 → d < V 0 0 → ask s d < 1000000) {B : Nat} (hB : B ≤ 11) (K : Sg → Option (Int32 × Sg)) : ∀ m s n σ f, s + m = V 0 8 → m < n → vOK V f → (∀ t, t < s → f t = g t) → TC V σ → RN V pr 38 f ask σ → σ 61 0 = nI B → (∀ t, t < 6 → σ 62 (7 * B + t) = nI (g t)) → ∃ τ, LX9_undo_28 K n (nI s) σ = K τ ∧ TC V τ ∧ RN V pr 38 g ask τ ∧ fr ((39, none) :: runS 38) σ τ := by
  have s6 := hw.s6
  intro m
  induction m with
  | zero =>
    intro s n σ f hs hn ok h0 ht hr h61 h62
    obtain ⟨n, rfl⟩ : ∃ q, n = q + 1 := ⟨n - 1, by omega⟩
    have hs : s = V 0 8 := by omega
    subst hs
    have ef : f = g := by
      funext t
      by_cases q : t < V 0 8
      · exact h0 t q
      · rw [ok.2 t (by omega), hg.2 t (by omega)]
    rw [ef] at hr
    refine ⟨σ, ?_, ht, hr, fr.rf⟩
    rw [LX9_undo_28, ht.2.2.2.2.2.2.1, if_pos (by rw [nI_lei] <;> omega)]
  | succ m ih =>
    intro s n σ f hs hn ok h0 ht hr h61 h62
    obtain ⟨n, rfl⟩ : ∃ q, n = q + 1 := ⟨n - 1, by omega⟩
    obtain ⟨σ1, a1, a2, a3⟩ := c_setVisits hw hpr (k := 38) (by omega) (s := s) (b := g s) (by omega) (hg.1 s) (ok.1 s) hask ht hr
    obtain ⟨τ, k1, k2, k3, k4⟩ := ih (s + 1) n σ1 (updN f s (g s)) (by omega) (by omega) (ok.upd (by omega) (hg.1 s)) (fun t ht => by
      unfold updN
      by_cases q : t = s
      · rw [if_pos q, q]
      · rw [if_neg q]
        exact h0 t (by omega)) (ht.off (fun k k1 k2 => a3.cell (by simp; omega))) a2 (by rw [a3.cell (k := 61) rfl]; exact h61) (by rw [a3.cell (k := 62) rfl]; exact h62)
    refine ⟨τ, ?_, k2, k3, a3.tr k4⟩
    have vb : XX0_visitsBefore (nI s) σ = some (nI (g s)) := by
      unfold XX0_visitsBefore
      rw [h61, show (7 : Int32) = nI 7 from rfl, pk_mul, Nat.mul_comm B 7, nI_add, if_pos ((ib_nI (by omega)).mpr (by omega)), nI_cl (by omega), h62 s (by omega)]
    rw [LX9_undo_28, ht.2.2.2.2.2.2.1, if_neg (by rw [nI_lei] <;> omega), vb, b1s, a1, b1s, lt_def, nI_1]
    exact k1
theorem m_puts_loop {B : Nat} (hB : B ≤ 11) (K : Sg → Option Sg) : ∀ m s n σ, s + m = 6 → m < n → σ 64 39 = nI B → ∃ τ, LX10_puts_2 K n (nI s) σ = K τ ∧ (∀ t, s ≤ t → t < 6 → τ 78 t = σ 91 (7 * B + t)) ∧ (∀ t, t < s → τ 78 t = σ 78 t) ∧ fr [(78, none)] σ τ := by
  intro m
  induction m with
  | zero =>
    intro s n σ hs hn h64
    obtain ⟨n, rfl⟩ : ∃ q, n = q + 1 := ⟨n - 1, by omega⟩
    refine ⟨σ, ?_, fun t h1 h2 => absurd h2 (by omega), fun t _ => rfl, fr.rf⟩
    rw [LX10_puts_2, show (6 : Int32) = nI 6 from rfl, if_pos (by rw [nI_lei] <;> omega)]
  | succ m ih =>
    intro s n σ hs hn h64
    obtain ⟨n, rfl⟩ : ∃ q, n = q + 1 := ⟨n - 1, by omega⟩
    have f1 : fr [(78, none)] σ (up σ 78 s (σ 91 (7 * B + s))) := fr_up
    obtain ⟨τ, k1, k2, k3, k4⟩ := ih (s + 1) n _ (by omega) (by omega) (show up σ 78 s (σ 91 (7 * B + s)) 64 39 = nI B by rw [f1.cell (k := 64) rfl]; exact h64)
    refine ⟨τ, ?_, fun t h1 h2 => ?_, fun t h1 => ?_, f1.tr k4⟩
    · rw [LX10_puts_2, show (6 : Int32) = nI 6 from rfl, if_neg (by rw [nI_lei] <;> omega), h64, show (7 : Int32) = nI 7 from rfl, pk_mul, nI_add, if_pos ((ib_nI (by omega)).mpr (by omega)), if_pos ((ib_nI (by omega)).mpr (by omega)), nI_cl (by omega), nI_cl (by omega), lt_def, lt_def, nI_1]
      exact k1
    · by_cases q : t = s
      · rw [q, k3 s (by omega), up_same]
      · rw [k2 t (by omega) h2, up_cell (by omega)]
    · rw [k3 t (by omega), up_slot (by omega)]
theorem op_undo {V : Vw} {σ : Sg} (h : Inv V σ) : stOK (XX9_undo σ) XX10_undo := by
  obtain ⟨hw, hc, hr⟩ := id h
  have s6 := hw.s6
  have d14 := hw.d14
  have r12 := hw.r12
  obtain ⟨c1, c2, c3, c4⟩ := hw.ac
  have a61 := hc.2.2.2.2.1.1
  have a62 := hc.2.2.2.2.1.2
  by_cases A0 : V 10 0 = 0
  · have e1 : XX9_undo σ = some (0, σ) := by
      unfold XX9_undo XX0_takeBack
      rw [a61, A0, if_pos (show nI 0 = 0 from rfl), b2s, if_pos rfl]
    have e2 : XX10_undo σ = some (0, up σ 64 0 0) := by
      unfold XX10_undo
      rw [lt_def, hr.1.th.2.2.2.2.2.1, A0, if_pos (show nI 0 = 0 from rfl)]
    exact ⟨_, _, _, e1, e2, V, h.look (fr_upf (a := 64) (i := 0)) rfl rfl⟩
  obtain ⟨B, hB⟩ : ∃ B, V 10 0 = B + 1 := ⟨V 10 0 - 1, by omega⟩
  have hB11 : B ≤ 11 := by omega
  have hR := c3 B (by omega)
  obtain ⟨R, hRe⟩ : ∃ R, R = V 9 (7 * B + 6) := ⟨_, rfl⟩
  rw [← hRe] at hR
  obtain ⟨V1, hV1⟩ : ∃ V1, V1 = acV V (V 9) B := ⟨_, rfl⟩
  have hw1 : WF V1 := by
    rw [hV1]
    exact hw.acts (by omega) (fun a s ha hs => c2 a s (by omega) hs) (fun a ha => c3 a (by omega)) (fun a b hab hb => c4 a b hab (by omega))
  obtain ⟨V2, hV2⟩ : ∃ V2, V2 = ruV V1 R (V1 7) (V1 8) := ⟨_, rfl⟩
  have hw2 : WF V2 := by
    rw [hV2]
    refine hw1.rush (by omega) (fun k hk => hw1.ru k ?_) (fun a ha => ?_)
    · rw [hV1]
      show k < V 0 9
      omega
    · rw [hV1] at ha ⊢
      have ha' : a < B := ha
      show V 9 (7 * a + 6) ≤ R
      rw [hRe]
      exact c4 a B (by omega) (by omega)
  obtain ⟨g, hg⟩ : ∃ g : Nat → Nat, g = fun t => if t < 6 then V 9 (7 * B + t) else 0 := ⟨_, rfl⟩
  have okg : vOK V2 g := by
    rw [hV2, hV1, hg]
    refine ⟨fun t => ?_, fun t ht => ?_⟩
    · show (if t < 6 then V 9 (7 * B + t) else 0) < 2 ^ V 0 0
      split
      · rename_i q
        exact (c2 B t (by omega) q).1
      · exact Nat.two_pow_pos _
    · have ht' : V 0 8 ≤ t := ht
      show (if t < 6 then V 9 (7 * B + t) else 0) = 0
      split
      · rename_i q
        exact (c2 B t (by omega) q).2 ht'
      · rfl
  have ok5 : vOK V2 (V 5) := by
    rw [hV2, hV1]
    exact hw.v5
  have hw3 : WF (vsV V2 g) := hw2.vis okg.1 okg.2
  -- the class
  have f1 : fr [(61, some 0)] σ (up σ 61 0 (nI B)) := fr_upf
  have t1 : TC (ruV V1 (V1 0 9) (V1 7) (V1 8)) (up σ 61 0 (nI B)) := by
    have e : ruV V1 (V1 0 9) (V1 7) (V1 8) = V1 := by
      funext j
      unfold ruV put
      by_cases q8 : j = 8
      · rw [if_pos q8, q8]
      · rw [if_neg q8]
        by_cases q7 : j = 7
        · rw [if_pos q7, q7]
        · rw [if_neg q7]
          by_cases q0 : j = 0
          · rw [if_pos q0, q0]
            funext i
            by_cases q9 : i = 9
            · rw [if_pos q9, q9]
            · rw [if_neg q9]
          · rw [if_neg q0]
    rw [e, hV1]
    have : TC V (up σ 61 0 (nI B)) := hc.1.off (fun k k1 k2 => f1.cell (by simp; omega))
    exact this
  have v9 : V1 0 9 = V 0 9 := by rw [hV1]; rfl
  obtain ⟨σ2, b1', b2', b3'⟩ := c_keepRushes hw1 (R := R) (V1 0 9 - R) (V1 0 9) FUEL (up σ 61 0 (nI B)) (by omega) (Nat.le_refl _) (by unfold FUEL; omega) t1
  rw [← hV2] at b2'
  have ep : prV V2 = prV V := by
    rw [hV2, hV1]
    exact (prV_sw (ru_sw _ _ _ _) rfl).trans (prV_sw (ac_sw _ _ _) rfl)
  have rn0 : RN V (prV V) 38 (V 5) (aq V) σ2 := (hc.2.1.frm f1 rfl).frm b3' rfl
  have rn2 : RN V2 (prV V) 38 (V 5) (aq V) σ2 := by
    rw [hV2, hV1]
    exact rn0
  have h61 : σ2 61 0 = nI B := by rw [b3'.cell (k := 61) rfl, up_same]
  have h62 : ∀ a s, a < V 10 0 → s < 7 → σ2 62 (7 * a + s) = nI (V 9 (7 * a + s)) := by
    rw [b3'.cell (k := 62) rfl, f1.cell (k := 62) rfl]
    exact a62
  have hask : ∀ s d, s < V2 0 8 → d < V2 0 0 → aq V s d < 1000000 := by
    rw [hV2, hV1]
    exact hla hw
  obtain ⟨σ3, d1, d2, d3, d4⟩ := c_undo_loop hw2 (prV_C V) okg hask hB11 (fun (σ_5 : Sg) => b1 (XX5_askPercent 38 (100 : Int32) σ_5) (fun (σ_7 : Sg) => some ((1 : Int32), σ_7))) (V2 0 8) 0 FUEL σ2 (V 5) (Nat.zero_add _) (by have := hw2.s6; unfold FUEL; omega) ok5 (fun t ht => absurd ht (by omega)) b2' rn2 h61 (fun t ht => by
    rw [h62 B t (by omega) (by omega), hg]
    show nI (V 9 (7 * B + t)) = nI (if t < 6 then V 9 (7 * B + t) else 0)
    rw [if_pos ht])
  obtain ⟨σ4, l1, l2, l3⟩ := c_askAnew (V := V) (ask := aq V) hw2 (prV_C V) d2 d3.2.2.2 (d3.rw hw2) d3.1 (fun t => by
    have := okg.1 t
    have p := Nat.pow_le_pow_right (show 0 < 2 by omega) hw2.d14
    omega)
  have e1 : XX9_undo σ = some (1, σ4) := by
    have tb : XX0_takeBack σ = some (1, up σ 61 0 (nI B)) := by
      unfold XX0_takeBack
      rw [a61, if_neg (nI_n0 A0 (by omega)), hB, show nI (B + 1) - (1 : Int32) = nI B from nI_pred B, lt_def]
    have rb : XX0_rushesBefore (up σ 61 0 (nI B)) = some (nI R) := by
      unfold XX0_rushesBefore
      rw [up_same, show (7 : Int32) = nI 7 from rfl, pk_mul, Nat.mul_comm B 7, show (6 : Int32) = nI 6 from rfl, nI_add, if_pos ((ib_nI (by omega)).mpr (by omega)), nI_cl (by omega), up_cell (by omega), a62 B 6 (by omega) (by omega), hRe]
    have kr : XX7_keepRushes (nI R) (up σ 61 0 (nI B)) = some σ2 := b1'
    unfold XX9_undo
    rw [tb, b2s, if_neg (show ¬ (1 : Int32) = 0 by decide), rb, b1s, kr, b1s, lt_def]
    refine Eq.trans d1 ?_
    rw [l1, b1s]
  have F9 := frX9_undo e1
  have FF : fr ([(61, some 0), (2, some 7), (7, none)] ++ ((39, none) :: (40, none) :: runS 38)) σ σ4 := fr.tr (f1.mono (by simp)) (fr.tr (b3'.mono (by simp)) (fr.tr (d4.mono (by simp)) (l3.mono (by simp))))
  have F34 : fr ((39, none) :: (40, none) :: runS 38) σ2 σ4 := fr.tr (d4.mono (by simp)) (l3.mono (by simp))
  have hc4 : CI (vsV V2 g) σ4 := by
    refine hc.mk (V2 := vsV V2 g) ?_ ?_ ?_ ?_ FF rfl ?_ ?_ ?_
    · rw [hV2, hV1]
      exact ⟨rfl, rfl, rfl, rfl, rfl⟩
    · rw [hV2, hV1]
      rfl
    · rw [hV2, hV1]
      rfl
    · rw [hV2, hV1]
      rfl
    · have : TC V2 σ4 := d2.off (fun k k1 k2 => l3.cell (by simp; omega))
      exact this
    · have e : prV (vsV V2 g) = prV V := (prV_sw (vs_sw _ _) rfl).trans ep
      rw [e]
      exact l2
    · have e10 : vsV V2 g 10 0 = B := by rw [hV2, hV1]; rfl
      have e9 : vsV V2 g 9 = V 9 := by rw [hV2, hV1]; rfl
      unfold AC
      rw [e10, e9, F34.cell (k := 61) rfl, F34.cell (k := 62) rfl]
      exact ⟨h61, fun a s ha hs => h62 a s (by omega) hs⟩
  -- the reference
  have hr1 : RA V (up σ4 64 0 0) := (hr.near F9 rfl).th
  have b39 : up σ4 64 0 0 64 39 = nI (V 10 0) := hr1.1.2.2.2.2.2.1
  obtain ⟨τ1, hτ1⟩ : ∃ τ1, τ1 = up (up σ4 64 0 0) 64 39 (nI B) := ⟨_, rfl⟩
  have m1 : τ1 64 39 = nI B := by rw [hτ1, up_same]
  have fm : fr [(64, some 39)] (up σ4 64 0 0) τ1 := by rw [hτ1]; exact fr_upf
  have m91 : ∀ a s, a < V 10 0 → s < 7 → τ1 91 (7 * a + s) = nI (V 9 (7 * a + s)) := by
    rw [fm.cell (k := 91) rfl]
    exact hr1.1.2.2.2.2.2.2.1
  obtain ⟨τ2, k1, k2, -, k4⟩ := m_puts_loop hB11 (fun (σ_1 : Sg) => if ib (((7 : Int32) * (σ_1 64 39)) + (6 : Int32)) 84 then lt (up σ_1 65 9 (σ_1 91 (((7 : Int32) * (σ_1 64 39)) + (6 : Int32)).toNatClampNeg)) (fun (σ_4 : Sg) => some σ_4) else none) 6 0 FUEL τ1 (by omega) (by unfold FUEL; omega) m1
  have m2 : τ2 64 39 = nI B := by rw [k4.cell (k := 64) rfl, m1]
  have n91 : τ2 91 (7 * B + 6) = nI R := by rw [k4.cell (k := 91) rfl, m91 B 6 (by omega) (by omega), hRe]
  have e2 : XX10_undo σ4 = some (1, up τ2 65 9 (nI R)) := by
    have pu : XX10_puts τ1 = some (up τ2 65 9 (nI R)) := by
      unfold XX10_puts
      rw [lt_def]
      refine Eq.trans k1 ?_
      rw [m2, show (7 : Int32) = nI 7 from rfl, pk_mul, show (6 : Int32) = nI 6 from rfl, nI_add, if_pos ((ib_nI (by omega)).mpr (by omega)), nI_cl (by omega), n91, lt_def]
    unfold XX10_undo
    rw [lt_def, b39, if_neg (nI_n0 A0 (by omega)), hB, show nI (B + 1) - (1 : Int32) = nI B from nI_pred B, lt_def, ← hτ1, pu, b1s]
  have cz : ∀ k, k ≠ 64 → k ≠ 65 → k ≠ 78 → up τ2 65 9 (nI R) k = up σ4 64 0 0 k := fun k q1 q2 q3 => by
    rw [up_cell q2, k4.cell (by simp; omega), fm.cell (by simp; omega)]
  have c64 : ∀ i, i ≠ 39 → up τ2 65 9 (nI R) 64 i = up σ4 64 0 0 64 i := fun i hi => by
    rw [up_cell (by omega), k4.cell (k := 64) rfl]
    exact fm.slot (by simp; omega)
  have hra : RA (vsV V2 g) (up τ2 65 9 (nI R)) := by
    obtain ⟨hm, hA⟩ := hr1
    rw [hV2, hV1]
    refine ⟨?_, ?_⟩
    · obtain ⟨b1, b2, b3, b4, b5, b6, b7, b8, b9, b10, b11⟩ := hm
      rw [← cz 66 (by omega) (by omega) (by omega), ← cz 67 (by omega) (by omega) (by omega), ← cz 68 (by omega) (by omega) (by omega), ← cz 69 (by omega) (by omega) (by omega)] at b2
      rw [← cz 70 (by omega) (by omega) (by omega), ← cz 71 (by omega) (by omega) (by omega)] at b4
      rw [← cz 72 (by omega) (by omega) (by omega), ← cz 73 (by omega) (by omega) (by omega), ← cz 74 (by omega) (by omega) (by omega)] at b5
      rw [← cz 91 (by omega) (by omega) (by omega)] at b7
      rw [← c64 14 (by omega)] at b8
      rw [← cz 76 (by omega) (by omega) (by omega)] at b9
      rw [← c64 20 (by omega)] at b10
      rw [← c64 21 (by omega)] at b11
      refine ⟨fun i hi => ?_, b2, fun t ht => ?_, b4, fun k hk => ?_, ?_, fun a s ha hs => ?_, b8, b9, b10, b11⟩
      · show up τ2 65 9 (nI R) 65 i = nI (if i = 9 then R else V 0 i)
        by_cases q : i = 9
        · rw [if_pos q, q, up_same]
        · rw [if_neg q, up_slot q, k4.cell (k := 65) rfl, fm.cell (k := 65) rfl]
          exact b1 i hi
      · show up τ2 65 9 (nI R) 78 t = nI (g t)
        rw [up_cell (by omega), k2 t (by omega) ht, m91 B t (by omega) (by omega), hg]
        show nI (V 9 (7 * B + t)) = nI (if t < 6 then V 9 (7 * B + t) else 0)
        rw [if_pos ht]
      · have hk' : k < R := hk
        exact b5 k (by show k < V 0 9; omega)
      · show up τ2 65 9 (nI R) 64 39 = nI B
        rw [up_cell (by omega), m2]
      · have ha' : a < B := ha
        exact b7 a s (by omega) hs
    · refine AHM.sw (V := V) ?_ ⟨rfl, rfl, rfl, rfl, rfl⟩
      unfold AHM at hA ⊢
      rw [cz 77 (by omega) (by omega) (by omega)]
      exact hA
  exact ⟨_, _, _, e1, e2, _, hw3, hc4.far (frX10_undo e2) rfl, hra⟩
