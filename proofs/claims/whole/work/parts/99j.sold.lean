/-! TEXT: what a shop sells, on both sides -/
theorem lnT_yes {g : Nat → Nat} {L : Nat} {σ0 : Sg} {D : Vw} {k : Nat} {σ' : Sg} (hm : MSt g L σ0 D k σ') (q : ck g L (ps g L k) = 15) : ∃ τ', lnT σ' = some τ' ∧ MSt g L σ0 D (k + 1) τ' := by
  have m18 := hm.2.2.2.1.2.2.1
  have hK := ck_3.mp q
  obtain ⟨τ', e1, e2⟩ := m_go hm
  refine ⟨τ', ?_, e2⟩
  unfold lnT
  rw [g_good hm.2.2.1, b1s, lt_def, if_neg (show ¬ (1 : Int32) = 0 by decide), m18, hK, if_pos (show nI 3 = 3 from rfl)]
  show b1 (XX10_goOn σ') _ = _
  rw [e1, b1s]
theorem lnT_no {g : Nat → Nat} {L : Nat} {σ0 : Sg} {D : Vw} {k : Nat} {σ' τ' : Sg} (hm : MSt g L σ0 D k σ') (q : ¬ ck g L (ps g L k) = 15) (e2 : XX10_fails (2 : Int32) σ' = some τ') (bad : ¬ τ' 64 22 = 0) : lnT σ' = some τ' := by
  have m18 := hm.2.2.2.1.2.2.1
  have hk := tkK_le g L (ps g L k)
  unfold lnT
  rw [g_good hm.2.2.1, b1s, lt_def, if_neg (show ¬ (1 : Int32) = 0 by decide), m18, if_neg (show ¬ nI (tkK g L (ps g L k)) = 3 from nI_ne (b := 3) (by omega) (by omega) (fun z => q (ck_3.mpr z))), e2, b1s]
  show b1 (XX10_goOn τ') _ = _
  rw [b_goOn bad, b1s]
def sdE (p1 : Int32) (x2_2 : Int32) (σ_3 : Sg) : Option (Int32 × Sg) := lt (b2 (XX4_refuse (2 : Int32) σ_3) (fun (r_6 : Int32) (σ_7 : Sg) => if r_6 = 0 ∨ r_6 = 1 then some (r_6, σ_7) else none)) (fun (k70_5 : Option (Int32 × Sg)) => if (σ_3 10 9) = (15 : Int32) then (if x2_2 = 0 then (k70_5) else (lt (fun (σ_9 : Sg) => lt (up σ_9 11 6 ((σ_9 11 6) + (1 : Int32))) (fun (σ_11 : Sg) => some ((1 : Int32), σ_11))) (fun (k116_10 : Sg → Option (Int32 × Sg)) => LX4_readSold_78 p1 x2_2 k116_10 FUEL (0 : Int32) σ_3))) else (k70_5))
theorem readSold_eq {σ σ1 : Sg} (h : XX4_step σ = some σ1) (p1 : Int32) : XX4_readSold p1 σ = LX4_readSold_6 (sdE p1) FUEL (0 : Int32) σ1 := by
  unfold XX4_readSold
  rw [h, b1s, lt_def]
  rfl
def shK (x1_1 : Int32) (x3_29 : Int32) (σ_30 : Sg) : Option Sg := lt (up σ_30 70 ((6 : Int32) + x1_1).toNatClampNeg x3_29) (fun (σ_32 : Sg) => lt (up σ_32 65 18 ((σ_32 65 18) + (1 : Int32))) (fun (σ_33 : Sg) => some σ_33))
theorem shK_eq {S : Nat} (hS : S < 6) (x : Int32) (σ : Sg) : shK (nI S) x σ = some (up (up σ 70 (6 + S) x) 65 18 (σ 65 18 + (1 : Int32))) := by
  unfold shK
  rw [show (6 : Int32) = nI 6 from rfl, nI_add, nI_cl (by omega), lt_def, lt_def, up_cell (show 65 ≠ 70 by omega)]
theorem shK_bad {S : Nat} (hS : S < 6) {σ0 σ : Sg} (h : ¬ σ 64 22 = 0) (lv : Lv σ0 σ) (x : Int32) : Kp σ0 σ (b1 (shK (nI S) x σ) (fun (σ_17 : Sg) => lnT σ_17)) := by
  rw [shK_eq hS, b1s, lnT_bad (by rw [up_cell (by omega), up_cell (by omega)]; exact h)]
  exact Kp.up (Kp.up (Kp.same ((lv.up (by unfold lvd; omega)).up (by unfold lvd; omega))) (by omega)) (by omega)
theorem shL_bad {S : Nat} (hS : S < 6) {σ0 σ : Sg} (h : ¬ σ 64 22 = 0) (lv : Lv σ0 σ) (n : Nat) (x : Int32) : Kp σ0 σ (b1 (LX10_readShop_182 (nI S) (shK (nI S)) (n + 1) x σ) (fun (σ_17 : Sg) => lnT σ_17)) := by
  rw [LX10_readShop_182, b_good h, b1s, if_pos rfl]
  exact shK_bad hS h lv x
/-- the shop as it stands by then -/
abbrev lC (S nm x y h i : Nat) : List (Nat × Nat × Nat) := [(15, S, i), (14, S, h), (13, S, y), (12, S, x), (23, S, nm)]
abbrev lM (S nm x y h i : Nat) : List (Nat × Nat × Nat) := [(69, 6 + S, i), (68, 6 + S, h), (67, 6 + S, y), (66, 6 + S, x), (75, S, nm)]
theorem MDsh {D : Vw} (hw : WD D) {nm x y h i c : Nat} {f : Nat → Nat} {σ' : Sg} (hm : MD D σ') (s6 : D 0 8 < 6) (c1 : 1 ≤ c) (c7 : c ≤ 7) (H : Hd (lM (D 0 8) nm x y h i) σ') (Hf : ∀ j, j < c → σ' 71 (42 + 7 * D 0 8 + j) = nI (f j)) : MD (shD D nm x y h i c f) (up (up σ' 70 (6 + D 0 8) (nI c)) 65 18 (nI (D 0 8 + 1))) := by
  have d14 := hw.1.d14
  obtain ⟨h1, h2, h3, h4, h5, h6⟩ := hm
  have key : ∀ c' j, ¬ (c' = 70 ∧ j = 6 + D 0 8) → ¬ (c' = 65 ∧ j = 18) → up (up σ' 70 (6 + D 0 8) (nI c)) 65 18 (nI (D 0 8 + 1)) c' j = σ' c' j := fun c' j q1 q2 => by
    rw [up_at, if_neg q2, up_at, if_neg q1]
  have g69 := H (69, 6 + D 0 8, i) (by simp)
  have g68 := H (68, 6 + D 0 8, h) (by simp)
  have g67 := H (67, 6 + D 0 8, y) (by simp)
  have g66 := H (66, 6 + D 0 8, x) (by simp)
  have g75 := H (75, D 0 8, nm) (by simp)
  refine ⟨fun j hj => ?_, fun s hs => ?_, fun s hs => ?_, fun k hk => ?_, fun s hs => ?_, ?_⟩
  · show _ = nI (updN (D 0) 8 (D 0 8 + 1) j)
    unfold updN
    by_cases q : j = 8
    · rw [q, if_pos rfl, up_same]
    · rw [if_neg q, key 65 _ (by omega) (by omega)]
      exact h1 j hj
  · have hs' : s < D 0 8 + 1 := hs
    rw [key 66 _ (by omega) (by omega), key 67 _ (by omega) (by omega), key 68 _ (by omega) (by omega), key 69 _ (by omega) (by omega)]
    show _ = nI (updN (D 1) (D 0 8) x s) ∧ _ = nI (updN (D 2) (D 0 8) y s) ∧ _ = nI (updN (D 3) (D 0 8) h s) ∧ _ = nI (updN (D 4) (D 0 8) i s)
    unfold updN
    by_cases q : s = D 0 8
    · rw [if_pos q, if_pos q, if_pos q, if_pos q, q]
      exact ⟨g66, g67, g68, g69⟩
    · rw [if_neg q, if_neg q, if_neg q, if_neg q]
      exact h2 s (by omega)
  · have hs' : s < D 0 8 + 1 := hs
    by_cases q : s = D 0 8
    · refine ⟨c, c1, c7, ?_, fun d hd => ?_⟩
      · rw [q, up_cell (by omega), up_same]
      · have hd' : d < D 0 0 := hd
        rw [key 71 _ (by omega) (by omega), q, sh6_new (by omega)]
        exact Hf _ (Nat.mod_lt _ (by omega))
    · obtain ⟨n, n1, n2, n3, n4⟩ := h3 s (by omega)
      refine ⟨n, n1, n2, ?_, fun d hd => ?_⟩
      · rw [key 70 _ (by omega) (by omega)]
        exact n3
      · have hd' : d < D 0 0 := hd
        rw [key 71 _ (by omega) (by omega), sh6_old (by omega) (by omega)]
        exact n4 d hd'
  · obtain ⟨s, d, a1, a2, a3, a4, a5, a6⟩ := h4 k hk
    rw [key 72 _ (by omega) (by omega), key 73 _ (by omega) (by omega), key 74 _ (by omega) (by omega)]
    exact ⟨s, d, (show s < D 0 8 + 1 by omega), a2, a3, a4, a5, a6⟩
  · have hs' : s < D 0 8 + 1 := hs
    rw [key 75 _ (by omega) (by omega)]
    show _ = nI (updN (D 14) (D 0 8) nm s)
    unfold updN
    by_cases q : s = D 0 8
    · rw [if_pos q, q]
      exact g75
    · rw [if_neg q]
      exact h5 s (by omega)
  · rw [key 64 _ (by omega) (by omega)]
    exact h6
theorem CDsh {D : Vw} (hw : WD D) {nm x y h i c : Nat} {f : Nat → Nat} {σ τ : Sg} (hc : CD D σ) (s6 : D 0 8 < 6) (c1 : 1 ≤ c) (H : Hd (lC (D 0 8) nm x y h i) σ) (Hf : ∀ j, j < c → σ 24 j = nI (f j)) (k2 : ∀ e, e < D 0 0 → τ 16 (14 * D 0 8 + e) = σ 24 (e % c)) (k3 : ∀ j, j < 14 * D 0 8 → τ 16 j = σ 16 j) (k4 : fr [(16, none)] σ τ) : CD (shD D nm x y h i c f) (up τ 11 6 (nI (D 0 8 + 1))) := by
  have d14 := hw.1.d14
  obtain ⟨⟨t0, t1, t2, t3, t4, t5, t6, t7, t8, t9, t10, t11, t12⟩, h2, h3⟩ := hc
  have key : ∀ c' j, c' ≠ 16 → ¬ (c' = 11 ∧ j = 6) → up τ 11 6 (nI (D 0 8 + 1)) c' j = σ c' j := fun c' j q1 q2 => by
    rw [up_at, if_neg q2, k4.cell (k := c') (by simp; omega)]
  have g15 := H (15, D 0 8, i) (by simp)
  have g14 := H (14, D 0 8, h) (by simp)
  have g13 := H (13, D 0 8, y) (by simp)
  have g12 := H (12, D 0 8, x) (by simp)
  have g23 := H (23, D 0 8, nm) (by simp)
  have e16 : shD D nm x y h i c f 1 6 = D 1 6 := by
    show updN (D 1) (D 0 8) x 6 = D 1 6
    unfold updN
    rw [if_neg (by omega)]
  have e26 : shD D nm x y h i c f 2 6 = D 2 6 := by
    show updN (D 2) (D 0 8) y 6 = D 2 6
    unfold updN
    rw [if_neg (by omega)]
  refine ⟨⟨(key 11 0 (by omega) (by omega)).trans t0, (key 11 1 (by omega) (by omega)).trans t1, (key 11 2 (by omega) (by omega)).trans t2, (key 11 3 (by omega) (by omega)).trans t3, (key 11 4 (by omega) (by omega)).trans t4, (key 11 5 (by omega) (by omega)).trans t5, up_same, (key 11 7 (by omega) (by omega)).trans t7, fun s hs => ?_, ?_, ?_, fun s d hs hd => ?_, fun k hk => ⟨(key 17 k (by omega) (by omega)).trans (t12 k hk).1, (key 18 k (by omega) (by omega)).trans (t12 k hk).2⟩⟩, fun s hs => ?_, (key 10 12 (by omega) (by omega)).trans h3⟩
  · have hs' : s < D 0 8 + 1 := hs
    show up τ 11 6 (nI (D 0 8 + 1)) 12 s = nI (updN (D 1) (D 0 8) x s) ∧ up τ 11 6 (nI (D 0 8 + 1)) 13 s = nI (updN (D 2) (D 0 8) y s) ∧ up τ 11 6 (nI (D 0 8 + 1)) 14 s = nI (updN (D 3) (D 0 8) h s) ∧ up τ 11 6 (nI (D 0 8 + 1)) 15 s = nI (updN (D 4) (D 0 8) i s)
    rw [key 12 _ (by omega) (by omega), key 13 _ (by omega) (by omega), key 14 _ (by omega) (by omega), key 15 _ (by omega) (by omega)]
    unfold updN
    by_cases q : s = D 0 8
    · rw [if_pos q, if_pos q, if_pos q, if_pos q, q]
      exact ⟨g12, g13, g14, g15⟩
    · rw [if_neg q, if_neg q, if_neg q, if_neg q]
      exact t8 s (by omega)
  · rw [e16]
    exact (key 12 6 (by omega) (by omega)).trans t9
  · rw [e26]
    exact (key 13 6 (by omega) (by omega)).trans t10
  · have hs' : s < D 0 8 + 1 := hs
    have hd' : d < D 0 0 := hd
    show up τ 11 6 (nI (D 0 8 + 1)) 16 (14 * s + d) = _
    rw [up_cell (by omega)]
    by_cases q : s = D 0 8
    · rw [q, aq_new hw.1 (by omega), k2 d hd', Hf _ (Nat.mod_lt _ (by omega))]
    · rw [aq_old (by omega) (by omega), k3 _ (by omega)]
      exact t11 s d (by omega) hd'
  · have hs' : s < D 0 8 + 1 := hs
    rw [key 23 _ (by omega) (by omega)]
    show _ = nI (updN (D 14) (D 0 8) nm s)
    unfold updN
    by_cases q : s = D 0 8
    · rw [if_pos q, q]
      exact g23
    · rw [if_neg q]
      exact h2 s (by omega)
theorem shK_ms {g : Nat → Nat} {L : Nat} {σ0 : Sg} {D : Vw} {k : Nat} {σ' : Sg} (hw : WD D) (hm : MSt g L σ0 D k σ') {nm x y h i c : Nat} {f : Nat → Nat} (s6 : D 0 8 < 6) (c1 : 1 ≤ c) (c7 : c ≤ 7) (H : Hd (lM (D 0 8) nm x y h i) σ') (Hf : ∀ j, j < c → σ' 71 (42 + 7 * D 0 8 + j) = nI (f j)) : ∃ ρ, shK (nI (D 0 8)) (nI c) σ' = some ρ ∧ MSt g L σ0 (shD D nm x y h i c f) k ρ := by
  have m8 : σ' 65 18 = nI (D 0 8) := hm.2.2.2.2.1.1 8 (by omega)
  have M1 := MDsh hw hm.2.2.2.2.1 s6 c1 c7 H Hf
  have m1 : MSt g L σ0 D k (up σ' 70 (6 + D 0 8) (nI c)) := hm.upd (by omega) (by omega) (by unfold lvd; omega) (hm.2.2.2.2.1.beside (by omega))
  refine ⟨_, ?_, m1.upd (by omega) (by omega) (by unfold lvd; omega) M1⟩
  rw [shK_eq s6, m8, nI_1]
theorem sold_no {g : Nat → Nat} {L T : Nat} {σ0 : Sg} {D : Vw} {k : Nat} {σ σ' : Sg} (hw : WD D) (hc : CTk g L T D k σ) (hm : MSt g L σ0 D k σ') {nm x y h i c : Nat} {f : Nat → Nat} (s6 : D 0 8 < 6) (c1 : 1 ≤ c) (c7 : c ≤ 7) (H : Hd (lM (D 0 8) nm x y h i) σ') (Hf : ∀ j, j < c → σ' 71 (42 + 7 * D 0 8 + j) = nI (f j)) (q : ¬ ck g L (ps g L k) = 15) : ∃ τ τ', XX4_refuse (2 : Int32) σ = some (0, τ) ∧ b1 (shK (nI (D 0 8)) (nI c) σ') (fun (σ_17 : Sg) => lnT σ_17) = some τ' ∧ FF σ0 τ τ' := by
  obtain ⟨ρ, r1, r2⟩ := shK_ms hw hm s6 c1 c7 H Hf
  obtain ⟨τ, τ', e1, e2, e3⟩ := ff_both hc r2 (w := 2) (by omega) (by omega) (a := (2 : Int32)) rfl
  refine ⟨τ, τ', e1, ?_, e3⟩
  rw [r1, b1s]
  exact lnT_no r2 q e2 e3.bad
theorem sold_end {g : Nat → Nat} {L T : Nat} {σ0 : Sg} {D : Vw} {k : Nat} {σ σ' : Sg} (hw : WD D) (hc : CTk g L T D k σ) (hm : MSt g L σ0 D k σ') {nm x y h i c : Nat} {f : Nat → Nat} (s6 : D 0 8 < 6) (hn : nm < 2147483648) (hx : x ≤ 30) (hy : y ≤ 30) (h1 : 1 ≤ h) (h2 : h ≤ D 0 3) (hi : i ≤ h) (c1 : 1 ≤ c) (c7 : c ≤ 7) (hf : ∀ j, j < c → f j ≤ 30) (HC : Hd (lC (D 0 8) nm x y h i) σ) (HCf : ∀ j, j < c → σ 24 j = nI (f j)) (H : Hd (lM (D 0 8) nm x y h i) σ') (Hf : ∀ j, j < c → σ' 71 (42 + 7 * D 0 8 + j) = nI (f j)) : Sim σ0 (QL g L T σ0 k) (sdE (nI (D 0 8)) (nI c) σ) (b1 (shK (nI (D 0 8)) (nI c) σ') (fun (σ_17 : Sg) => lnT σ_17)) := by
  have c9 := hc.2.2.2.2.2.2.1
  have cl := ck_le g L (ps g L k)
  have d14 := hw.1.d14
  unfold sdE
  rw [lt_def, c9]
  by_cases q : ck g L (ps g L k) = 15
  · have hK := ck_3.mp q
    obtain ⟨ρ, r1, r2⟩ := shK_ms hw hm s6 c1 c7 H Hf
    obtain ⟨τ', e1, e2⟩ := lnT_yes r2 q
    have t0 : σ 11 0 = nI (D 0 0) := hc.2.1.1.1
    obtain ⟨τ, k1, k2, k3, k4⟩ := sold_fill (S := D 0 8) (c := c) s6 c1 c7 (fun (σ_9 : Sg) => lt (up σ_9 11 6 ((σ_9 11 6) + (1 : Int32))) (fun (σ_11 : Sg) => some ((1 : Int32), σ_11))) (N := D 0 0) d14 (D 0 0) 0 FUEL σ (by omega) (by unfold FUEL; omega) t0
    have t6 : τ 11 6 = nI (D 0 8) := by
      rw [k4.cell (k := 11) rfl]
      exact hc.2.1.1.2.2.2.2.2.2.1
    have C := CDsh hw hc.2.1 s6 c1 HC HCf (fun e he => k2 e (by omega) he) (fun j hj => k3 j (by omega)) k4
    have C2 : CSt g L T (shD D nm x y h i c f) (k + 1) (up τ 11 6 (nI (D 0 8 + 1))) := by
      obtain ⟨a1, a2, a3, a4, a5, a6⟩ := hc.go (fun z => by omega)
      have s1 : SC g L T τ := a1.off (by rw [k4.cell (k := 10) rfl]) (k4.cell (k := 20) rfl) (k4.cell (k := 21) rfl) (k4.cell (k := 22) rfl)
      refine ⟨s1.off (by rw [up_cell (by omega)]) (up_cell (by omega)) (up_cell (by omega)) (up_cell (by omega)), C, a3, ?_, ?_, ?_⟩
      · rw [up_cell (by omega), k4.cell (k := 10) rfl]
        exact a4
      · rw [up_cell (by omega), k4.cell (k := 10) rfl]
        exact a5
      · rw [up_cell (by omega), k4.cell (k := 10) rfl]
        exact a6
    refine Or.inl ⟨_, τ', ?_, by rw [r1, b1s]; exact e1, _, k + 1, by omega, hw.sh s6 hn hx hy h1 h2 hi c1 hf, C2, e2⟩
    rw [q, if_pos (show nI 15 = 15 from rfl), if_neg (nI_n0 (by omega) (by omega)), lt_def, show (0 : Int32) = nI 0 from rfl, k1, lt_def, t6, nI_1]
  · obtain ⟨τ, τ', e1, e2, e3⟩ := sold_no hw hc hm s6 c1 c7 H Hf q
    refine Or.inr ⟨τ, τ', ?_, e2, e3⟩
    rw [if_neg (show ¬ nI (ck g L (ps g L k)) = 15 from nI_ne (b := 15) (by omega) (by omega) q), e1, b2s, if_pos (Or.inl rfl)]
theorem sold_loop {g : Nat → Nat} {L T : Nat} {σ0 : Sg} {D : Vw} (hw : WD D) {nm x y h i : Nat} (s6 : D 0 8 < 6) (hn : nm < 2147483648) (hx : x ≤ 30) (hy : y ≤ 30) (h1 : 1 ≤ h) (h2 : h ≤ D 0 3) (hi : i ≤ h) : ∀ (m c n n' k : Nat) (σ σ' : Sg) (f : Nat → Nat), c + m = 7 → m < n → m + 1 < n' → CTk g L T D k σ → MSt g L σ0 D k σ' → (∀ j, j < c → f j ≤ 30) → Hd (lC (D 0 8) nm x y h i) σ → (∀ j, j < c → σ 24 j = nI (f j)) → Hd (lM (D 0 8) nm x y h i) σ' → (∀ j, j < c → σ' 71 (42 + 7 * D 0 8 + j) = nI (f j)) → Sim σ0 (QL g L T σ0 k) (LX4_readSold_6 (sdE (nI (D 0 8))) n (nI c) σ) (b1 (LX10_readShop_182 (nI (D 0 8)) (shK (nI (D 0 8))) n' (nI c) σ') (fun (σ_17 : Sg) => lnT σ_17)) := by
  intro m
  induction m with
  | zero =>
    intro c n n' k σ σ' f hcm hn1 hn2 hc hm hf HC HCf H Hf
    obtain ⟨n, rfl⟩ : ∃ q, n = q + 1 := ⟨n - 1, by omega⟩
    obtain ⟨n', rfl⟩ : ∃ q, n' = q + 1 := ⟨n' - 1, by omega⟩
    have e7 : c = 7 := by omega
    subst e7
    have key := sold_end hw hc hm s6 hn hx hy h1 h2 hi (by omega) (by omega) hf HC HCf H Hf
    rw [LX4_readSold_6, if_pos (show (7 : Int32) ≤ nI 7 by decide), LX10_readShop_182, g_good hm.2.2.1, b1s, if_neg (show ¬ (1 : Int32) = 0 by decide), lt_def, if_neg (show ¬ nI 7 = 0 by decide)]
    by_cases q : σ' 64 18 = (2 : Int32)
    · rw [if_pos q, if_pos (show (7 : Int32) ≤ nI 7 by decide)]
      exact key
    · rw [if_neg q]
      exact key
  | succ m ih =>
    intro c n n' k σ σ' f hcm hn1 hn2 hc hm hf HC HCf H Hf
    obtain ⟨n, rfl⟩ : ∃ q, n = q + 1 := ⟨n - 1, by omega⟩
    obtain ⟨n', rfl⟩ : ∃ q, n' = q + 1 := ⟨n' - 1, by omega⟩
    have c9 := hc.2.2.2.2.2.2.1
    have m18 := hm.2.2.2.1.2.2.1
    have cl := ck_le g L (ps g L k)
    have hk := tkK_le g L (ps g L k)
    have n7 : ¬ (7 : Int32) ≤ nI c := by
      rw [show (7 : Int32) = nI 7 from rfl, nI_lei (by omega) (by omega)]
      omega
    have body : (c = 0 ∨ ck g L (ps g L k) = 14) → Sim σ0 (QL g L T σ0 k) (b2 (XX4_isNumber (0 : Int32) (30 : Int32) σ) (fun (r_23 : Int32) (σ_24 : Sg) => if r_23 = 0 then (some ((0 : Int32), σ_24)) else (if ib (nI c) 7 then lt (up σ_24 24 (nI c).toNatClampNeg (σ_24 10 11)) (fun (σ_25 : Sg) => lt (nI c + (1 : Int32)) (fun (x2_27 : Int32) => b1 (XX4_step σ_25) (fun (σ_28 : Sg) => LX4_readSold_6 (sdE (nI (D 0 8))) n x2_27 σ_28))) else none))) (b1 (b2 (XX10_readNumber (0 : Int32) (30 : Int32) σ') (fun (r_38 : Int32) (σ_39 : Sg) => if ib (((42 : Int32) + ((7 : Int32) * nI (D 0 8))) + nI c) 84 then lt (up σ_39 71 (((42 : Int32) + ((7 : Int32) * nI (D 0 8))) + nI c).toNatClampNeg r_38) (fun (σ_40 : Sg) => lt (nI c + (1 : Int32)) (fun (x3_42 : Int32) => LX10_readShop_182 (nI (D 0 8)) (shK (nI (D 0 8))) n' x3_42 σ_40)) else none)) (fun (σ_17 : Sg) => lnT σ_17)) := fun _ => by
      have e42 : ((42 : Int32) + ((7 : Int32) * nI (D 0 8))) + nI c = nI (42 + 7 * D 0 8 + c) := by
        rw [show (42 : Int32) = nI 42 from rfl, show (7 : Int32) = nI 7 from rfl, pk_mul, nI_add, nI_add]
      rw [e42]
      rcases isn_both hc hm (lo := 0) (hi := 30) (a := (0 : Int32)) (b := (30 : Int32)) (by omega) (by omega) rfl rfl with ⟨v, τ', q, v1, v2, e1, e2, e3, e4, e5⟩ | ⟨τ, τ', e1, e2, e3⟩
      · have C1 : CSt g L T D (k + 1) (up σ 24 c (nI v)) := e3.upd (by omega) (by omega) (by omega) (by omega) (e3.2.1.beside (by omega))
        have M1 : MSt g L σ0 D (k + 1) (up τ' 71 (42 + 7 * D 0 8 + c) (nI v)) := e5.upd (by omega) (by omega) (by unfold lvd; omega) (e5.2.2.2.2.1.beside (by omega))
        obtain ⟨ρ, s1, s2⟩ := c_step C1
        have fs := frX4_step s1
        have fm : fr mG σ' τ' := frX10_readNumber e2
        rw [e1, b2s, if_neg (show ¬ (1 : Int32) = 0 by decide), if_pos ((ib_nI (by omega)).mpr (by omega)), nI_cl (show c < 2147483648 by omega), e4, lt_def, lt_def, nI_1, s1, b1s, e2, b2s, if_pos ((ib_nI (by omega)).mpr (by omega)), nI_cl (by omega), lt_def, lt_def]
        refine (ih (c + 1) n n' (k + 1) ρ _ (updN f c v) (by omega) (by omega) (by omega) s2 M1 (fun j hj => ?_) ?_ (fun j hj => ?_) ?_ (fun j hj => ?_)).mono (QL.le (by omega))
        · unfold updN
          by_cases z : j = c
          · rw [if_pos z]
            exact v2
          · rw [if_neg z]
            exact hf j (by omega)
        · have HC1 : Hd (lC (D 0 8) nm x y h i) (up σ 24 c (nI v)) := HC.fr (F := [(24, none)]) fr_up rfl
          exact HC1.fr fs rfl
        · rw [fs.cell (k := 24) rfl]
          unfold updN
          by_cases z : j = c
          · rw [if_pos z, z, up_same]
          · rw [if_neg z, up_slot z]
            exact HCf j (by omega)
        · have H1 : Hd (lM (D 0 8) nm x y h i) τ' := H.fr fm rfl
          exact H1.fr (F := [(71, none)]) fr_up rfl
        · unfold updN
          by_cases z : j = c
          · rw [if_pos z, z, up_same]
          · rw [if_neg z, up_slot (by omega), fm.cell (k := 71) rfl]
            exact Hf j (by omega)
      · obtain ⟨n', rfl⟩ : ∃ q, n' = q + 1 := ⟨n' - 1, by omega⟩
        rw [e1, b2s, if_pos rfl, e2, b2s, if_pos ((ib_nI (by omega)).mpr (by omega)), nI_cl (by omega), lt_def, lt_def]
        refine Sim.bd rfl e3 (Kp.up (c := 71) (i := 42 + 7 * D 0 8 + c) (v := (0 : Int32)) (shL_bad s6 ?_ ?_ n' _) (by omega))
        · rw [up_cell (by omega)]
          exact e3.bad
        · exact e3.lv.up (by unfold lvd; omega)
    rw [LX4_readSold_6, LX10_readShop_182, g_good hm.2.2.1, b1s, if_neg (show ¬ (1 : Int32) = 0 by decide), lt_def, lt_def, if_neg n7, c9, m18]
    by_cases z : c = 0
    · rw [if_pos (show nI c = 0 by rw [z]; rfl), if_pos (show nI c = 0 by rw [z]; rfl)]
      by_cases q : nI (ck g L (ps g L k)) = (15 : Int32)
      · rw [if_pos q]
        exact body (Or.inl z)
      · rw [if_neg q]
        exact body (Or.inl z)
    · have z0 : ¬ nI c = 0 := nI_n0 z (by omega)
      rw [if_neg z0, if_neg z0]
      by_cases q : ck g L (ps g L k) = 15
      · have hK := ck_3.mp q
        rw [if_pos (show nI (ck g L (ps g L k)) = 15 by rw [q]; rfl), hK, if_neg (show ¬ nI 3 = 2 by decide)]
        exact sold_end hw hc hm s6 hn hx hy h1 h2 hi (by omega) (by omega) hf HC HCf H Hf
      · rw [if_neg (show ¬ nI (ck g L (ps g L k)) = 15 from nI_ne (b := 15) (by omega) (by omega) q)]
        by_cases y2 : ck g L (ps g L k) = 14
        · have hK := ck_2.mp y2
          rw [hK, if_pos (show nI 2 = 2 from rfl), if_neg n7]
          exact body (Or.inr y2)
        · rw [if_neg (show ¬ nI (tkK g L (ps g L k)) = 2 from nI_ne (b := 2) (by omega) (by omega) (fun w => y2 (ck_2.mpr w)))]
          obtain ⟨τ, τ', e1, e2, e3⟩ := sold_no hw hc hm s6 (by omega) (by omega) H Hf q
          refine Or.inr ⟨τ, τ', ?_, e2, e3⟩
          unfold XX4_isNumber
          rw [c9, if_neg (show ¬ nI (ck g L (ps g L k)) = 14 from nI_ne (b := 14) (by omega) (by omega) y2), e1, b2s, if_pos (Or.inl rfl), b2s, if_pos rfl]
