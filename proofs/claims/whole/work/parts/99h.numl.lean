/-! TEXT: the lines that come once -/
def NB (V : Vw) : Prop := (1 ≤ V 0 0 ∧ V 0 0 ≤ 14) ∧ (1 ≤ V 0 3 ∧ V 0 3 ≤ 99) ∧ V 0 4 ≤ 99 ∧ V 0 5 ≤ 9 ∧ V 0 6 ≤ 9 ∧ V 0 7 ≤ 99 ∧ V 0 1 = V 1 6 ∧ V 0 2 = V 2 6 ∧ V 1 6 ≤ 30 ∧ V 2 6 ≤ 30
theorem WF.nb {V : Vw} (h : WF V) : NB V := ⟨h.1, h.2.1, h.fx, h.mi, h.ho, h.lo, h.dx, h.dy, h.x6, h.y6⟩
theorem WF.z9 {V : Vw} (h : WF V) (z8 : V 0 8 = 0) : V 0 9 = 0 := by
  by_cases q : V 0 9 = 0
  · exact q
  · obtain ⟨⟨s, d, h1, -⟩, -⟩ := h.ru 0 (by omega)
    omega
theorem WF0 {V : Vw} (n : NB V) (z8 : V 0 8 = 0) (z9 : V 0 9 = 0) (v5 : ∀ s, V 5 s = 0) (v10 : V 10 0 = 0) (v12 : V 12 0 = 0) : WF V := by
  obtain ⟨n1, n2, n3, n4, n5, n6, n7, n8, n9, n10⟩ := n
  refine ⟨n1, n2, n3, n4, n5, n6, by omega, by omega, n7, n8, n9, n10, fun s hs => absurd hs (by omega), fun s => ?_, fun s _ => v5 s, fun s d hs => absurd hs (by omega), fun k hk => absurd hk (by omega), by omega, fun a s ha => absurd ha (by omega), fun a ha => absurd ha (by omega), fun a b _ hb => absurd hb (by omega), by omega, fun i hi => absurd hi (by omega)⟩
  rw [v5]
  exact Nat.two_pow_pos _
def setN (D : Vw) (i v : Nat) : Vw := put D 0 (updN (D 0) i v)
def setX (D : Vw) (v : Nat) : Vw := put (setN D 1 v) 1 (updN (D 1) 6 v)
def setY (D : Vw) (v : Nat) : Vw := put (setN D 2 v) 2 (updN (D 2) 6 v)
theorem setN_ne {D : Vw} {i v j : Nat} (h : j ≠ i) : setN D i v 0 j = D 0 j := by
  show updN (D 0) i v j = D 0 j
  unfold updN
  rw [if_neg h]
theorem WD.num {D : Vw} (h : WD D) {i v : Nat} (z8 : D 0 8 = 0) (hi : i < 8) (nb : NB (setN D i v)) : WD (setN D i v) := by
  obtain ⟨h1, h2, h3, h4, h5, h6, h7, h8, h9, h10⟩ := h
  have e8 : setN D i v 0 8 = 0 := by
    rw [setN_ne (by omega)]
    exact z8
  have e9 : setN D i v 0 9 = 0 := by
    rw [setN_ne (by omega)]
    exact h1.z9 z8
  exact ⟨WF0 nb e8 e9 h6 h2 h3, h2, h3, h4, h5, h6, fun s hs => absurd hs (by omega), h8, h9, h10⟩
theorem WD.x {D : Vw} (h : WD D) {v : Nat} (z8 : D 0 8 = 0) (hv : v ≤ 30) : WD (setX D v) := by
  obtain ⟨h1, h2, h3, h4, h5, h6, h7, h8, h9, h10⟩ := h
  obtain ⟨n1, n2, n3, n4, n5, n6, n7, n8, n9, n10⟩ := h1.nb
  have z9 := h1.z9 z8
  exact ⟨WF0 ⟨n1, n2, n3, n4, n5, n6, rfl, n8, hv, n10⟩ z8 z9 h6 h2 h3, h2, h3, h4, h5, h6, fun s hs => absurd (show s < D 0 8 from hs) (by omega), h8, h9, h10⟩
theorem WD.y {D : Vw} (h : WD D) {v : Nat} (z8 : D 0 8 = 0) (hv : v ≤ 30) : WD (setY D v) := by
  obtain ⟨h1, h2, h3, h4, h5, h6, h7, h8, h9, h10⟩ := h
  obtain ⟨n1, n2, n3, n4, n5, n6, n7, n8, n9, n10⟩ := h1.nb
  have z9 := h1.z9 z8
  exact ⟨WF0 ⟨n1, n2, n3, n4, n5, n6, n7, rfl, n9, hv⟩ z8 z9 h6 h2 h3, h2, h3, h4, h5, h6, fun s hs => absurd (show s < D 0 8 from hs) (by omega), h8, h9, h10⟩
theorem CD.num {D : Vw} {σ : Sg} (h : CD D σ) {i ci v : Nat} (z8 : D 0 8 = 0) (z9 : D 0 9 = 0) (hi : (i = 0 ∧ ci = 0) ∨ (i = 3 ∧ ci = 1) ∨ (i = 4 ∧ ci = 2) ∨ (i = 5 ∧ ci = 3) ∨ (i = 6 ∧ ci = 4) ∨ (i = 7 ∧ ci = 5)) : CD (setN D i v) (up σ 11 ci (nI v)) := by
  obtain ⟨⟨t0, t1, t2, t3, t4, t5, t6, t7, t8, t9, t10, t11, t12⟩, h2, h3⟩ := h
  have e6 : ∀ s, ¬ s < D 0 8 := fun s => by omega
  have e9 : ∀ s, ¬ s < D 0 9 := fun s => by omega
  have u9 : ∀ (c j : Nat) (x : Int32), c ≠ 11 → σ c j = x → up σ 11 ci (nI v) c j = x := fun c j x q e => by
    rw [up_cell q]
    exact e
  have u1 : ∀ (j : Nat) (x : Int32), j ≠ ci → σ 11 j = x → up σ 11 ci (nI v) 11 j = x := fun j x q e => by
    rw [up_slot q]
    exact e
  rcases hi with ⟨rfl, rfl⟩ | ⟨rfl, rfl⟩ | ⟨rfl, rfl⟩ | ⟨rfl, rfl⟩ | ⟨rfl, rfl⟩ | ⟨rfl, rfl⟩
  · exact ⟨⟨up_same, u1 _ _ (by omega) t1, u1 _ _ (by omega) t2, u1 _ _ (by omega) t3, u1 _ _ (by omega) t4, u1 _ _ (by omega) t5, u1 _ _ (by omega) t6, u1 _ _ (by omega) t7, fun s hs => absurd hs (e6 s), u9 _ _ _ (by omega) t9, u9 _ _ _ (by omega) t10, fun s d hs => absurd hs (e6 s), fun k hk => absurd hk (e9 k)⟩, fun s hs => absurd hs (e6 s), u9 _ _ _ (by omega) h3⟩
  · exact ⟨⟨u1 _ _ (by omega) t0, up_same, u1 _ _ (by omega) t2, u1 _ _ (by omega) t3, u1 _ _ (by omega) t4, u1 _ _ (by omega) t5, u1 _ _ (by omega) t6, u1 _ _ (by omega) t7, fun s hs => absurd hs (e6 s), u9 _ _ _ (by omega) t9, u9 _ _ _ (by omega) t10, fun s d hs => absurd hs (e6 s), fun k hk => absurd hk (e9 k)⟩, fun s hs => absurd hs (e6 s), u9 _ _ _ (by omega) h3⟩
  · exact ⟨⟨u1 _ _ (by omega) t0, u1 _ _ (by omega) t1, up_same, u1 _ _ (by omega) t3, u1 _ _ (by omega) t4, u1 _ _ (by omega) t5, u1 _ _ (by omega) t6, u1 _ _ (by omega) t7, fun s hs => absurd hs (e6 s), u9 _ _ _ (by omega) t9, u9 _ _ _ (by omega) t10, fun s d hs => absurd hs (e6 s), fun k hk => absurd hk (e9 k)⟩, fun s hs => absurd hs (e6 s), u9 _ _ _ (by omega) h3⟩
  · exact ⟨⟨u1 _ _ (by omega) t0, u1 _ _ (by omega) t1, u1 _ _ (by omega) t2, up_same, u1 _ _ (by omega) t4, u1 _ _ (by omega) t5, u1 _ _ (by omega) t6, u1 _ _ (by omega) t7, fun s hs => absurd hs (e6 s), u9 _ _ _ (by omega) t9, u9 _ _ _ (by omega) t10, fun s d hs => absurd hs (e6 s), fun k hk => absurd hk (e9 k)⟩, fun s hs => absurd hs (e6 s), u9 _ _ _ (by omega) h3⟩
  · exact ⟨⟨u1 _ _ (by omega) t0, u1 _ _ (by omega) t1, u1 _ _ (by omega) t2, u1 _ _ (by omega) t3, up_same, u1 _ _ (by omega) t5, u1 _ _ (by omega) t6, u1 _ _ (by omega) t7, fun s hs => absurd hs (e6 s), u9 _ _ _ (by omega) t9, u9 _ _ _ (by omega) t10, fun s d hs => absurd hs (e6 s), fun k hk => absurd hk (e9 k)⟩, fun s hs => absurd hs (e6 s), u9 _ _ _ (by omega) h3⟩
  · exact ⟨⟨u1 _ _ (by omega) t0, u1 _ _ (by omega) t1, u1 _ _ (by omega) t2, u1 _ _ (by omega) t3, u1 _ _ (by omega) t4, up_same, u1 _ _ (by omega) t6, u1 _ _ (by omega) t7, fun s hs => absurd hs (e6 s), u9 _ _ _ (by omega) t9, u9 _ _ _ (by omega) t10, fun s d hs => absurd hs (e6 s), fun k hk => absurd hk (e9 k)⟩, fun s hs => absurd hs (e6 s), u9 _ _ _ (by omega) h3⟩
theorem CD.x {D : Vw} {σ : Sg} (h : CD D σ) {v : Nat} (z8 : D 0 8 = 0) (z9 : D 0 9 = 0) : CD (setX D v) (up σ 12 6 (nI v)) := by
  obtain ⟨⟨t0, t1, t2, t3, t4, t5, t6, t7, t8, t9, t10, t11, t12⟩, h2, h3⟩ := h
  have e6 : ∀ s, ¬ s < D 0 8 := fun s => by omega
  have e9 : ∀ s, ¬ s < D 0 9 := fun s => by omega
  have u9 : ∀ (c j : Nat) (x : Int32), c ≠ 12 → σ c j = x → up σ 12 6 (nI v) c j = x := fun c j x q e => by
    rw [up_cell q]
    exact e
  exact ⟨⟨u9 _ _ _ (by omega) t0, u9 _ _ _ (by omega) t1, u9 _ _ _ (by omega) t2, u9 _ _ _ (by omega) t3, u9 _ _ _ (by omega) t4, u9 _ _ _ (by omega) t5, u9 _ _ _ (by omega) t6, u9 _ _ _ (by omega) t7, fun s hs => absurd hs (e6 s), up_same, u9 _ _ _ (by omega) t10, fun s d hs => absurd hs (e6 s), fun k hk => absurd hk (e9 k)⟩, fun s hs => absurd hs (e6 s), u9 _ _ _ (by omega) h3⟩
theorem CD.y {D : Vw} {σ : Sg} (h : CD D σ) {v : Nat} (z8 : D 0 8 = 0) (z9 : D 0 9 = 0) : CD (setY D v) (up σ 13 6 (nI v)) := by
  obtain ⟨⟨t0, t1, t2, t3, t4, t5, t6, t7, t8, t9, t10, t11, t12⟩, h2, h3⟩ := h
  have e6 : ∀ s, ¬ s < D 0 8 := fun s => by omega
  have e9 : ∀ s, ¬ s < D 0 9 := fun s => by omega
  have u9 : ∀ (c j : Nat) (x : Int32), c ≠ 13 → σ c j = x → up σ 13 6 (nI v) c j = x := fun c j x q e => by
    rw [up_cell q]
    exact e
  exact ⟨⟨u9 _ _ _ (by omega) t0, u9 _ _ _ (by omega) t1, u9 _ _ _ (by omega) t2, u9 _ _ _ (by omega) t3, u9 _ _ _ (by omega) t4, u9 _ _ _ (by omega) t5, u9 _ _ _ (by omega) t6, u9 _ _ _ (by omega) t7, fun s hs => absurd hs (e6 s), u9 _ _ _ (by omega) t9, up_same, fun s d hs => absurd hs (e6 s), fun k hk => absurd hk (e9 k)⟩, fun s hs => absurd hs (e6 s), u9 _ _ _ (by omega) h3⟩
theorem MD.num {D D' : Vw} {σ : Sg} (h : MD D σ) {i v : Nat} (e0 : D' 0 = updN (D 0) i v) (e15 : D' 15 = D 15) (z8 : D 0 8 = 0) (z9 : D 0 9 = 0) (hi : i < 8) : MD D' (up σ 65 (10 + i) (nI v)) := by
  obtain ⟨h1, -, -, -, -, h6⟩ := h
  have z8' : D' 0 8 = 0 := by
    rw [e0]
    unfold updN
    rw [if_neg (by omega)]
    exact z8
  have z9' : D' 0 9 = 0 := by
    rw [e0]
    unfold updN
    rw [if_neg (by omega)]
    exact z9
  refine ⟨fun j hj => ?_, fun s hs => absurd hs (by omega), fun s hs => absurd hs (by omega), fun s hs => absurd hs (by omega), fun s hs => absurd hs (by omega), ?_⟩
  · rw [e0]
    unfold updN
    by_cases q : j = i
    · rw [q, if_pos rfl, up_same]
    · rw [if_neg q, up_slot (by omega)]
      exact h1 j hj
  · rw [e15, up_cell (by omega)]
    exact h6
theorem num_set {g : Nat → Nat} {L T : Nat} {σ0 : Sg} {D : Vw} {k : Nat} {σ σ' : Sg} (hw : WD D) (z8 : D 0 8 = 0) (hc : CSt g L T D k σ) (hm : MSt g L σ0 D k σ') {i ci v : Nat} (hi : (i = 0 ∧ ci = 0) ∨ (i = 3 ∧ ci = 1) ∨ (i = 4 ∧ ci = 2) ∨ (i = 5 ∧ ci = 3) ∨ (i = 6 ∧ ci = 4) ∨ (i = 7 ∧ ci = 5)) (nb : NB (setN D i v)) : WD (setN D i v) ∧ CSt g L T (setN D i v) k (up σ 11 ci (nI v)) ∧ MSt g L σ0 (setN D i v) k (up σ' 65 (10 + i) (nI v)) := by
  have z9 := hw.1.z9 z8
  exact ⟨hw.num z8 (by omega) nb, hc.upd (by omega) (by omega) (by omega) (by omega) (hc.2.1.num z8 z9 hi), hm.upd (by omega) (by omega) (by unfold lvd; omega) (hm.2.2.2.2.1.num rfl rfl z8 z9 (by omega))⟩
theorem num_line {g : Nat → Nat} {L T : Nat} {σ0 : Sg} {D : Vw} {k : Nat} {σ σ' : Sg} (hw : WD D) (z8 : D 0 8 = 0) (hc : CSt g L T D k σ) (hm : MSt g L σ0 D k σ') {lo hi i ci : Nat} (l9 : lo < 2147483648) (h9 : hi < 2147483648) (hi9 : (i = 0 ∧ ci = 0) ∨ (i = 3 ∧ ci = 1) ∨ (i = 4 ∧ ci = 2) ∨ (i = 5 ∧ ci = 3) ∨ (i = 6 ∧ ci = 4) ∨ (i = 7 ∧ ci = 5)) (nb : ∀ v, lo ≤ v → v ≤ hi → NB (setN D i v)) {a b c : Int32} (ha : a = nI lo) (hb : b = nI hi) (hci : c = nI i) : Sim σ0 (QL g L T σ0 k) (b2 (XX4_wantNumber a b σ) (fun (r_1 : Int32) (σ_2 : Sg) => if r_1 = 0 then (some ((0 : Int32), σ_2)) else (lt (up σ_2 11 ci (σ_2 10 11)) (fun (σ_3 : Sg) => b2 (XX4_want (15 : Int32) σ_3) (fun (r_4 : Int32) (σ_5 : Sg) => if r_4 = 0 ∨ r_4 = 1 then some (r_4, σ_5) else none))))) (b1 (XX10_reads c a b σ') (fun (σ_31 : Sg) => lnT σ_31)) := by
  rcases reads_both hc hm l9 h9 (i := i) (by omega) ha hb hci with ⟨v, τ, τ', v1, v2, e1, e2, e3, e4, e5⟩ | ⟨τ, τ', e1, e2, e3⟩
  · obtain ⟨n1, n2, n3⟩ := num_set hw z8 e3 e5 hi9 (nb v v1 v2)
    rw [e1, b2s, if_neg (show ¬ (1 : Int32) = 0 by decide), e2, b1s, e4, lt_def]
    exact (sign_both n1 n2 n3).w.mono (QL.le (by omega))
  · rw [e1, b2s, if_pos rfl, e2, b1s]
    exact Sim.bd rfl e3 e3.ln
theorem sim_days {g : Nat → Nat} {L T : Nat} {σ0 : Sg} {D : Vw} {k : Nat} {σ σ' : Sg} (hw : WD D) (z8 : D 0 8 = 0) (hc : CSt g L T D k σ) (hm : MSt g L σ0 D k σ') : Sim σ0 (QL g L T σ0 k) (XX4_readDays σ) (b1 (XX10_reads (0 : Int32) (1 : Int32) (14 : Int32) σ') (fun (σ_31 : Sg) => lnT σ_31)) := by
  obtain ⟨n1, n2⟩ := hw.1.nb
  unfold XX4_readDays
  exact num_line hw z8 hc hm (lo := 1) (hi := 14) (i := 0) (ci := 0) (by omega) (by omega) (by omega) (fun v v1 v2 => ⟨⟨v1, v2⟩, n2⟩) rfl rfl rfl
theorem sim_hold {g : Nat → Nat} {L T : Nat} {σ0 : Sg} {D : Vw} {k : Nat} {σ σ' : Sg} (hw : WD D) (z8 : D 0 8 = 0) (hc : CSt g L T D k σ) (hm : MSt g L σ0 D k σ') : Sim σ0 (QL g L T σ0 k) (XX4_readHold σ) (b1 (XX10_reads (6 : Int32) (0 : Int32) (9 : Int32) σ') (fun (σ_31 : Sg) => lnT σ_31)) := by
  obtain ⟨n1, n2, n3, n4, n5, n6⟩ := hw.1.nb
  unfold XX4_readHold
  exact num_line hw z8 hc hm (lo := 0) (hi := 9) (i := 6) (ci := 4) (by omega) (by omega) (by omega) (fun v v1 v2 => ⟨n1, n2, n3, n4, v2, n6⟩) rfl rfl rfl
theorem sim_lost {g : Nat → Nat} {L T : Nat} {σ0 : Sg} {D : Vw} {k : Nat} {σ σ' : Sg} (hw : WD D) (z8 : D 0 8 = 0) (hc : CSt g L T D k σ) (hm : MSt g L σ0 D k σ') : Sim σ0 (QL g L T σ0 k) (XX4_readLost σ) (b1 (XX10_reads (7 : Int32) (0 : Int32) (99 : Int32) σ') (fun (σ_31 : Sg) => lnT σ_31)) := by
  obtain ⟨n1, n2, n3, n4, n5, n6, n7⟩ := hw.1.nb
  unfold XX4_readLost
  exact num_line hw z8 hc hm (lo := 0) (hi := 99) (i := 7) (ci := 5) (by omega) (by omega) (by omega) (fun v v1 v2 => ⟨n1, n2, n3, n4, n5, v2, n7⟩) rfl rfl rfl
theorem sim_depot {g : Nat → Nat} {L T : Nat} {σ0 : Sg} {D : Vw} {k : Nat} {σ σ' : Sg} (hw : WD D) (z8 : D 0 8 = 0) (hc : CSt g L T D k σ) (hm : MSt g L σ0 D k σ') : Sim σ0 (QL g L T σ0 k) (XX4_readDepot σ) (b1 (XX10_reads (1 : Int32) (0 : Int32) (30 : Int32) σ') (fun (σ_27 : Sg) => b1 (XX10_reads (2 : Int32) (0 : Int32) (30 : Int32) σ_27) (fun (σ_28 : Sg) => lnT σ_28))) := by
  have z9 := hw.1.z9 z8
  unfold XX4_readDepot
  rcases reads_both hc hm (lo := 0) (hi := 30) (i := 1) (a := (0 : Int32)) (b := (30 : Int32)) (c := (1 : Int32)) (by omega) (by omega) (by omega) rfl rfl rfl with ⟨v, τ, τ', v1, v2, e1, e2, e3, e4, e5⟩ | ⟨τ, τ', e1, e2, e3⟩
  · have w2 : WD (setX D v) := hw.x z8 v2
    have c2 : CSt g L T (setX D v) (k + 1) (up τ 12 6 (nI v)) := e3.upd (by omega) (by omega) (by omega) (by omega) (e3.2.1.x z8 z9)
    have m2 : MSt g L σ0 (setX D v) (k + 1) (up τ' 65 (10 + 1) (nI v)) := e5.upd (by omega) (by omega) (by unfold lvd; omega) (e5.2.2.2.2.1.num rfl rfl z8 z9 (by omega))
    rw [e1, b2s, if_neg (show ¬ (1 : Int32) = 0 by decide), e2, b1s, e4, lt_def]
    rcases reads_both c2 m2 (lo := 0) (hi := 30) (i := 2) (a := (0 : Int32)) (b := (30 : Int32)) (c := (2 : Int32)) (by omega) (by omega) (by omega) rfl rfl rfl with ⟨u, ρ, ρ', u1, u2, f1, f2, f3, f4, f5⟩ | ⟨ρ, ρ', f1, f2, f3⟩
    · have w3 : WD (setY (setX D v) u) := w2.y z8 u2
      have c3 : CSt g L T (setY (setX D v) u) (k + 1 + 1) (up ρ 13 6 (nI u)) := f3.upd (by omega) (by omega) (by omega) (by omega) (f3.2.1.y z8 z9)
      have m3 : MSt g L σ0 (setY (setX D v) u) (k + 1 + 1) (up ρ' 65 (10 + 2) (nI u)) := f5.upd (by omega) (by omega) (by unfold lvd; omega) (f5.2.2.2.2.1.num rfl rfl z8 z9 (by omega))
      rw [f1, b2s, if_neg (show ¬ (1 : Int32) = 0 by decide), f2, b1s, f4, lt_def]
      exact (sign_both w3 c3 m3).w.mono (QL.le (by omega))
    · rw [f1, b2s, if_pos rfl, f2, b1s]
      exact Sim.bd rfl f3 f3.ln
  · rw [e1, b2s, if_pos rfl, e2, b1s]
    refine Sim.bd rfl e3 ?_
    rw [show (2 : Int32) = nI 2 from rfl, b_reads e3.bad (by omega), b1s]
    have kl : Lv σ0 (up τ' 65 (10 + 2) 0) := e3.lv.up (by unfold lvd; omega)
    rw [lnT_bad (by rw [up_cell (by omega)]; exact e3.bad)]
    exact Kp.up (Kp.same kl) (by omega)
def tkD (σ_5 : Sg) : Option (Int32 × Sg) := if (σ_5 10 9) = (4 : Int32) then (b2 (XX4_wantNumber (0 : Int32) (9 : Int32) σ_5) (fun (r_13 : Int32) (σ_14 : Sg) => if r_13 = 0 then (some ((0 : Int32), σ_14)) else (lt (up σ_14 11 3 (σ_14 10 11)) (fun (σ_15 : Sg) => b1 (XX4_step σ_15) (fun (σ_16 : Sg) => trC (15 : Int32) σ_16))))) else (trC (15 : Int32) σ_5)
theorem readTruck_eq (σ : Sg) : XX4_readTruck σ = b2 (XX4_wantNumber (1 : Int32) (99 : Int32) σ) (fun (r_1 : Int32) (σ_2 : Sg) => if r_1 = 0 then (some ((0 : Int32), σ_2)) else (lt (up σ_2 11 1 (σ_2 10 11)) (fun (σ_3 : Sg) => b1 (XX4_step σ_3) (fun (σ_4 : Sg) => if (σ_4 10 9) = (3 : Int32) then (b2 (XX4_wantNumber (0 : Int32) (99 : Int32) σ_4) (fun (r_17 : Int32) (σ_18 : Sg) => if r_17 = 0 then (some ((0 : Int32), σ_18)) else (lt (up σ_18 11 2 (σ_18 10 11)) (fun (σ_19 : Sg) => b1 (XX4_step σ_19) (fun (σ_20 : Sg) => tkD σ_20))))) else (tkD σ_4))))) := rfl
def mtB (σ_5 : Sg) : Option Sg := b1 (XX10_isGood σ_5) (fun (r_7 : Int32) => if r_7 = 0 then (some σ_5) else (b1 (XX10_isWord (435589 : Int32) σ_5) (fun (r_8 : Int32) => if r_8 = 0 then (some σ_5) else (b1 (XX10_goOn σ_5) (fun (σ_9 : Sg) => b1 (XX10_reads (5 : Int32) (0 : Int32) (9 : Int32) σ_9) (fun (σ_10 : Sg) => some σ_10))))))
def mtA (σ_3 : Sg) : Option Sg := b1 (XX10_isGood σ_3) (fun (r_4 : Int32) => if r_4 = 0 then (mtB σ_3) else (b1 (XX10_isWord (6611108 : Int32) σ_3) (fun (r_11 : Int32) => if r_11 = 0 then (mtB σ_3) else (b1 (XX10_goOn σ_3) (fun (σ_12 : Sg) => b1 (XX10_reads (4 : Int32) (0 : Int32) (99 : Int32) σ_12) (fun (σ_13 : Sg) => mtB σ_13))))))
theorem mTruck_eq (σ : Sg) : XX10_readTruck σ = b2 (XX10_begins (2 : Int32) σ) (fun (r_1 : Int32) (σ_2 : Sg) => if r_1 = 0 then (some σ_2) else (b1 (XX10_reads (3 : Int32) (1 : Int32) (99 : Int32) σ_2) (fun (σ_3 : Sg) => mtA σ_3))) := rfl
theorem mtB_bad {σ : Sg} (h : ¬ σ 64 22 = 0) : mtB σ = some σ := by
  unfold mtB
  rw [b_good h, b1s, if_pos rfl]
theorem mtA_bad {σ : Sg} (h : ¬ σ 64 22 = 0) : mtA σ = some σ := by
  unfold mtA
  rw [b_good h, b1s, if_pos rfl, mtB_bad h]
theorem sim_tB {g : Nat → Nat} {L T : Nat} {σ0 : Sg} {D : Vw} {k : Nat} {σ σ' : Sg} (hw : WD D) (z8 : D 0 8 = 0) (hc : CTk g L T D k σ) (hm : MSt g L σ0 D k σ') : Sim σ0 (QL g L T σ0 k) (tkD σ) (b1 (mtB σ') (fun (σ_24 : Sg) => lnT σ_24)) := by
  have c9 := hc.2.2.2.2.2.2.1
  have cl := ck_le g L (ps g L k)
  obtain ⟨n1, n2, n3, n4, n5⟩ := hw.1.nb
  unfold tkD mtB
  rw [g_good hm.2.2.1, b1s, if_neg (show ¬ (1 : Int32) = 0 by decide), m_isW hm (j := 4) (by omega) (w := (435589 : Int32)) rfl, b1s, c9]
  by_cases q : ck g L (ps g L k) = 4
  · have hK := ck_1.mp (show ck g L (ps g L k) ≤ 13 by omega)
    obtain ⟨τ0, g1, g2⟩ := m_go hm
    rw [if_pos q, if_neg (show ¬ (1 : Int32) = 0 by decide), g1, b1s, if_pos (show nI (ck g L (ps g L k)) = 4 by rw [q]; rfl)]
    rcases reads_both (hc.go (fun z => by omega)) g2 (lo := 0) (hi := 9) (i := 5) (a := (0 : Int32)) (b := (9 : Int32)) (c := (5 : Int32)) (by omega) (by omega) (by omega) rfl rfl rfl with ⟨v, τ, τ', v1, v2, e1, e2, e3, e4, e5⟩ | ⟨τ, τ', e1, e2, e3⟩
    · obtain ⟨k1, k2, k3⟩ := num_set hw z8 e3 e5 (i := 5) (ci := 3) (by omega) (v := v) ⟨n1, n2, n3, v2, n5⟩
      obtain ⟨ρ, s1, s2⟩ := c_step k2
      rw [e1, b2s, if_neg (show ¬ (1 : Int32) = 0 by decide), e2, b1s, b1s, e4, lt_def, s1, b1s]
      exact (end_both k1 s2 k3).mono (QL.le (by omega))
    · rw [e1, b2s, if_pos rfl, e2, b1s, b1s]
      exact Sim.bd rfl e3 e3.ln
  · rw [if_neg q, if_pos rfl, b1s, if_neg (show ¬ nI (ck g L (ps g L k)) = 4 from nI_ne (b := 4) (by omega) (by omega) q)]
    exact end_both hw hc hm
theorem sim_tA {g : Nat → Nat} {L T : Nat} {σ0 : Sg} {D : Vw} {k : Nat} {σ σ' : Sg} (hw : WD D) (z8 : D 0 8 = 0) (hc : CSt g L T D k σ) (hm : MSt g L σ0 D k σ') : Sim σ0 (QL g L T σ0 k) (XX4_readTruck σ) (b1 (b1 (XX10_reads (3 : Int32) (1 : Int32) (99 : Int32) σ') (fun (σ_3 : Sg) => mtA σ_3)) (fun (σ_24 : Sg) => lnT σ_24)) := by
  obtain ⟨n1, n2, n3, n4, n5⟩ := hw.1.nb
  rw [readTruck_eq]
  rcases reads_both hc hm (lo := 1) (hi := 99) (i := 3) (a := (1 : Int32)) (b := (99 : Int32)) (c := (3 : Int32)) (by omega) (by omega) (by omega) rfl rfl rfl with ⟨v, τ, τ', v1, v2, e1, e2, e3, e4, e5⟩ | ⟨τ, τ', e1, e2, e3⟩
  · obtain ⟨k1, k2, k3⟩ := num_set hw z8 e3 e5 (i := 3) (ci := 1) (by omega) (v := v) ⟨n1, ⟨v1, v2⟩, n3, n4, n5⟩
    obtain ⟨ρ, s1, s2⟩ := c_step k2
    have c9 := s2.2.2.2.2.2.2.1
    have cl := ck_le g L (ps g L (k + 1))
    rw [e1, b2s, if_neg (show ¬ (1 : Int32) = 0 by decide), e2, b1s, e4, lt_def, s1, b1s]
    unfold mtA
    rw [g_good k3.2.2.1, b1s, if_neg (show ¬ (1 : Int32) = 0 by decide), m_isW k3 (j := 3) (by omega) (w := (6611108 : Int32)) rfl, b1s, c9]
    by_cases q : ck g L (ps g L (k + 1)) = 3
    · have hK := ck_1.mp (show ck g L (ps g L (k + 1)) ≤ 13 by omega)
      obtain ⟨τ0, g1, g2⟩ := m_go k3
      rw [if_pos q, if_neg (show ¬ (1 : Int32) = 0 by decide), g1, b1s, if_pos (show nI (ck g L (ps g L (k + 1))) = 3 by rw [q]; rfl)]
      rcases reads_both (s2.go (fun z => by omega)) g2 (lo := 0) (hi := 99) (i := 4) (a := (0 : Int32)) (b := (99 : Int32)) (c := (4 : Int32)) (by omega) (by omega) (by omega) rfl rfl rfl with ⟨u, μ, μ', u1, u2, f1, f2, f3, f4, f5⟩ | ⟨μ, μ', f1, f2, f3⟩
      · obtain ⟨l1, l2, l3⟩ := num_set k1 z8 f3 f5 (i := 4) (ci := 2) (by omega) (v := u) ⟨n1, ⟨v1, v2⟩, u2, n4, n5⟩
        obtain ⟨ν, x1, x2⟩ := c_step l2
        rw [f1, b2s, if_neg (show ¬ (1 : Int32) = 0 by decide), f2, b1s, f4, lt_def, x1, b1s]
        exact (sim_tB l1 z8 x2 l3).mono (QL.le (by omega))
      · rw [f1, b2s, if_pos rfl, f2, b1s, mtB_bad f3.bad, b1s]
        exact Sim.bd rfl f3 f3.ln
    · rw [if_neg q, if_pos rfl, if_neg (show ¬ nI (ck g L (ps g L (k + 1))) = 3 from nI_ne (b := 3) (by omega) (by omega) q)]
      exact (sim_tB k1 z8 s2 k3).mono (QL.le (by omega))
  · rw [e1, b2s, if_pos rfl, e2, b1s, mtA_bad e3.bad, b1s]
    exact Sim.bd rfl e3 e3.ln
