/-! TEXT: a shop's line -/
theorem up_cl {σ : Sg} {c S : Nat} {v : Int32} (h : S < 2147483648) : up σ c (nI S).toNatClampNeg v = up σ c S v := by
  rw [nI_cl h]
theorem up_cl6 {σ : Sg} {c S : Nat} {v : Int32} (h : S < 6) : up σ c ((6 : Int32) + nI S).toNatClampNeg v = up σ c (6 + S) v := by
  rw [show (6 : Int32) = nI 6 from rfl, nI_add, nI_cl (by omega)]
theorem ib6 {S : Nat} (h : S < 6) : ib ((6 : Int32) + nI S) 12 := by
  rw [show (6 : Int32) = nI 6 from rfl, nI_add]
  exact (ib_nI (by omega)).mpr (by omega)
theorem bad_up {σ : Sg} {c i : Nat} {v : Int32} (h : ¬ σ 64 22 = 0) (hc : c ≠ 64) : ¬ up σ c i v 64 22 = 0 := by
  rw [up_cell (Ne.symm hc)]
  exact h
def shZ (x1_1 : Int32) (σ_28 : Sg) : Option Sg := lt (fun (x3_29 : Int32) (σ_30 : Sg) => lt (up σ_30 70 ((6 : Int32) + x1_1).toNatClampNeg x3_29) (fun (σ_32 : Sg) => lt (up σ_32 65 18 ((σ_32 65 18) + (1 : Int32))) (fun (σ_33 : Sg) => some σ_33))) (fun (k234_31 : Int32 → Sg → Option Sg) => LX10_readShop_182 x1_1 k234_31 FUEL (0 : Int32) σ_28)
theorem shZ_eq (x : Int32) (σ : Sg) : shZ x σ = LX10_readShop_182 x (shK x) FUEL (0 : Int32) σ := by
  unfold shZ
  rw [lt_def]
  rfl
def shY (x1_1 r_21 : Int32) (σ_24 : Sg) : Option Sg := b2 (XX10_readNumber (0 : Int32) r_21 σ_24) (fun (r_25 : Int32) (σ_26 : Sg) => lt (up σ_26 69 ((6 : Int32) + x1_1).toNatClampNeg r_25) (fun (σ_27 : Sg) => b1 (XX10_keyword (20099475 : Int32) σ_27) (fun (σ_28 : Sg) => shZ x1_1 σ_28)))
def shX (x1_1 : Int32) (σ_20 : Sg) : Option Sg := b2 (XX10_readNumber (1 : Int32) (σ_20 65 13) σ_20) (fun (r_21 : Int32) (σ_22 : Sg) => lt (up σ_22 68 ((6 : Int32) + x1_1).toNatClampNeg r_21) (fun (σ_23 : Sg) => b1 (XX10_keyword (20593771 : Int32) σ_23) (fun (σ_24 : Sg) => shY x1_1 r_21 σ_24)))
def shW (x1_1 : Int32) (σ_15 : Sg) : Option Sg := b2 (XX10_readNumber (0 : Int32) (30 : Int32) σ_15) (fun (r_17 : Int32) (σ_18 : Sg) => lt (up σ_18 67 ((6 : Int32) + x1_1).toNatClampNeg r_17) (fun (σ_19 : Sg) => b1 (XX10_keyword (20190598 : Int32) σ_19) (fun (σ_20 : Sg) => shX x1_1 σ_20)))
def shU (x1_1 : Int32) (σ_12 : Sg) : Option Sg := b2 (XX10_readNumber (0 : Int32) (30 : Int32) σ_12) (fun (r_13 : Int32) (σ_14 : Sg) => if ib ((6 : Int32) + x1_1) 12 then lt (up σ_14 66 ((6 : Int32) + x1_1).toNatClampNeg r_13) (fun (σ_15 : Sg) => shW x1_1 σ_15) else none)
def shN (x1_1 : Int32) (σ_6 : Sg) : Option Sg := b1 (XX10_isGood σ_6) (fun (r_8 : Int32) => if r_8 = 0 then (some σ_6) else (if ib x1_1 6 then lt (up σ_6 75 x1_1.toNatClampNeg (σ_6 64 19)) (fun (σ_9 : Sg) => b1 (XX10_goOn σ_9) (fun (σ_11 : Sg) => b1 (XX10_keyword (52 : Int32) σ_11) (fun (σ_12 : Sg) => shU x1_1 σ_12))) else none))
def shB (x1_1 : Int32) (σ_4 : Sg) : Option Sg := b1 (XX10_isGood σ_4) (fun (r_44 : Int32) => if r_44 = 0 then (shN x1_1 σ_4) else (b1 (XX10_called σ_4) (fun (r_45 : Int32) => if r_45 < 0 then (shN x1_1 σ_4) else (b1 (XX10_fails (3 : Int32) σ_4) (fun (σ_46 : Sg) => shN x1_1 σ_46)))))
def shA (x1_1 : Int32) (σ_2 : Sg) : Option Sg := b1 (XX10_goOn σ_2) (fun (σ_4 : Sg) => b1 (XX10_isGood σ_4) (fun (r_5 : Int32) => if r_5 = 0 then (shB x1_1 σ_4) else (b1 (XX10_isName σ_4) (fun (r_47 : Int32) => if r_47 = 0 then (b1 (XX10_fails (2 : Int32) σ_4) (fun (σ_48 : Sg) => shN x1_1 σ_48)) else (shB x1_1 σ_4)))))
theorem mShop_eq (σ : Sg) : XX10_readShop σ = if (σ 65 18) = (6 : Int32) then (b1 (XX10_fails (5 : Int32) σ) (fun (σ_49 : Sg) => shA (σ 65 18) σ_49)) else (shA (σ 65 18) σ) := rfl
theorem shN_bad {σ : Sg} (h : ¬ σ 64 22 = 0) (x : Int32) : shN x σ = some σ := by
  unfold shN
  rw [b_good h, b1s, if_pos rfl]
theorem shA_bad {σ : Sg} (h : ¬ σ 64 22 = 0) (x : Int32) : shA x σ = some σ := by
  unfold shA
  rw [b_goOn h, b1s, b_good h, b1s, if_pos rfl]
  unfold shB
  rw [b_good h, b1s, if_pos rfl, shN_bad h]
theorem shZ_bad {S : Nat} (hS : S < 6) {σ0 σ : Sg} (h : ¬ σ 64 22 = 0) (lv : Lv σ0 σ) : Kp σ0 σ (b1 (shZ (nI S) σ) (fun (σ_17 : Sg) => lnT σ_17)) := by
  obtain ⟨n, hn⟩ : ∃ n, FUEL = n + 1 := ⟨999999, rfl⟩
  rw [shZ_eq, hn]
  exact shL_bad hS h lv n _
theorem shY_bad {S : Nat} (hS : S < 6) {σ0 σ : Sg} (h : ¬ σ 64 22 = 0) (lv : Lv σ0 σ) (r : Int32) : Kp σ0 σ (b1 (shY (nI S) r σ) (fun (σ_17 : Sg) => lnT σ_17)) := by
  unfold shY
  rw [b_readNumber h, b2s, lt_def, up_cl6 hS, b_keyword (bad_up h (by omega)), b1s]
  exact Kp.up (shZ_bad hS (bad_up h (by omega)) (lv.up (by unfold lvd; omega))) (by omega)
theorem shX_bad {S : Nat} (hS : S < 6) {σ0 σ : Sg} (h : ¬ σ 64 22 = 0) (lv : Lv σ0 σ) : Kp σ0 σ (b1 (shX (nI S) σ) (fun (σ_17 : Sg) => lnT σ_17)) := by
  unfold shX
  rw [b_readNumber h, b2s, lt_def, up_cl6 hS, b_keyword (bad_up h (by omega)), b1s]
  exact Kp.up (shY_bad hS (bad_up h (by omega)) (lv.up (by unfold lvd; omega)) _) (by omega)
theorem shW_bad {S : Nat} (hS : S < 6) {σ0 σ : Sg} (h : ¬ σ 64 22 = 0) (lv : Lv σ0 σ) : Kp σ0 σ (b1 (shW (nI S) σ) (fun (σ_17 : Sg) => lnT σ_17)) := by
  unfold shW
  rw [b_readNumber h, b2s, lt_def, up_cl6 hS, b_keyword (bad_up h (by omega)), b1s]
  exact Kp.up (shX_bad hS (bad_up h (by omega)) (lv.up (by unfold lvd; omega))) (by omega)
theorem shU_bad {S : Nat} (hS : S < 6) {σ0 σ : Sg} (h : ¬ σ 64 22 = 0) (lv : Lv σ0 σ) : Kp σ0 σ (b1 (shU (nI S) σ) (fun (σ_17 : Sg) => lnT σ_17)) := by
  unfold shU
  rw [b_readNumber h, b2s, if_pos (ib6 hS), lt_def, up_cl6 hS]
  exact Kp.up (shW_bad hS (bad_up h (by omega)) (lv.up (by unfold lvd; omega))) (by omega)
theorem Hd.nil {σ : Sg} : Hd [] σ := fun q hq => absurd hq (List.not_mem_nil)
theorem sim_shop {g : Nat → Nat} {L T : Nat} {σ0 : Sg} {D : Vw} {k : Nat} {σ σ' : Sg} (hw : WD D) (hc : CTk g L T D k σ) (hm : MSt g L σ0 D k σ') (hk : ck g L (ps g L k) = 7) : Sim σ0 (QL g L T σ0 k) (XX4_readShop σ) (b1 (XX10_readShop σ') (fun (σ_17 : Sg) => lnT σ_17)) := by
  have s6 := hw.1.s6
  have t99 := hw.1.t99
  have t6 : σ 11 6 = nI (D 0 8) := hc.2.1.1.2.2.2.2.2.2.1
  have m8 : σ' 65 18 = nI (D 0 8) := hm.2.2.2.2.1.1 8 (by omega)
  have hK := ck_1.mp (show ck g L (ps g L k) ≤ 13 by omega)
  have o1 : ¬ (1 : Int32) = 0 := by decide
  unfold XX4_readShop
  rw [mShop_eq, m8, lt_def, t6]
  by_cases q6 : D 0 8 = 6
  · obtain ⟨τ, τ', e1, e2, e3⟩ := ff_both hc hm (w := 5) (by omega) (by omega) (a := (5 : Int32)) rfl
    rw [q6, if_neg (show ¬ nI 6 < 6 by decide), e1, b2s, if_pos (Or.inl rfl), if_pos (show nI 6 = 6 from rfl), e2, b1s, shA_bad e3.bad, b1s]
    exact Sim.bd rfl e3 e3.ln
  have l6 : D 0 8 < 6 := by omega
  have i6 : ib (nI (D 0 8)) 6 := (ib_nI (by omega)).mpr l6
  have i7 : ib (nI (D 0 8)) 7 := (ib_nI (by omega)).mpr (by omega)
  rw [if_pos (show nI (D 0 8) < 6 from (nI_lti (b := 6) (by omega) (by omega)).mpr l6), if_neg (show ¬ nI (D 0 8) = 6 from nI_ne (b := 6) (by omega) (by omega) q6)]
  obtain ⟨a', g1, g2⟩ := m_go hm
  have C1 := hc.go (fun z => by omega)
  unfold shA
  rw [g1, b1s, g_good g2.2.2.1, b1s, if_neg o1, m_isNm g2, b1s]
  rcases name_both C1 g2 with ⟨τ, q, e1, e2, e3, e4, e5, e6⟩ | ⟨τ, τ', q, e1, e2, e3⟩
  rotate_left
  · rw [e1, b2s, if_pos rfl, if_neg q, if_pos rfl, e2, b1s, shN_bad e3.bad, b1s]
    exact Sim.bd rfl e3 e3.ln
  obtain ⟨nm, hnm⟩ : ∃ nm, nm = tkV g L (ps g L (k + 1)) := ⟨_, rfl⟩
  rw [← hnm] at e4 e5 e6
  rw [e1, b2s, if_neg o1, e4, if_pos q, if_neg o1]
  obtain ⟨n1, n2⟩ := named_both hw e3.2.1 g2.2.2.2.2.1 (show nm < 2147483648 by omega) e5
  unfold shB
  rw [n1, b1s, g_good g2.2.2.1, b1s, if_neg o1, n2, b1s]
  cases hf : fdN (D 14) nm (D 0 8) 0 with
  | some s =>
    have sl := fdN_lt _ _ hf
    obtain ⟨ρ, ρ', f1, f2, f3⟩ := ff_both e2 g2 (w := 3) (by omega) (by omega) (a := (3 : Int32)) rfl
    rw [if_neg (show ¬ fnI (some s) = -1 from nI_nm1 (by omega)), f1, b2s, if_pos (Or.inl rfl), if_neg (show ¬ fnI (some s) < 0 from nI_pos (by omega)), f2, b1s, shN_bad f3.bad, b1s]
    exact Sim.bd rfl f3 f3.ln
  | none =>
    rw [if_pos (show fnI none = -1 from rfl), if_pos (show fnI none < 0 by decide), if_pos i6, lt_def, up_cl (by omega)]
    unfold shN
    rw [g_good g2.2.2.1, b1s, if_neg o1, if_pos i6, e5, lt_def, up_cl (by omega)]
    have C2 : CSt g L T D (k + 1 + 1) (up τ 23 (D 0 8) (nI nm)) := e3.upd (by omega) (by omega) (by omega) (by omega) (e3.2.1.beside (by omega))
    have M2 : MSt g L σ0 D (k + 1) (up a' 75 (D 0 8) (nI nm)) := g2.upd (by omega) (by omega) (by unfold lvd; omega) (g2.2.2.2.2.1.beside (by omega))
    have HC2 := (Hd.nil (σ := τ)).up 23 (D 0 8) nm rfl
    have HM2 := (Hd.nil (σ := a')).up 75 (D 0 8) nm rfl
    obtain ⟨b', g3, M3⟩ := m_go M2
    have HM3 := HM2.fr (frX10_goOn g3) rfl
    rw [g3, b1s]
    -- at
    rcases kw_both C2 M3 (j := 8) (by omega) (a := (8 : Int32)) (w := (52 : Int32)) rfl rfl with ⟨c, c', x1, x2, C4, M4⟩ | ⟨c, c', x1, x2, x3⟩
    rotate_left
    · rw [x1, b2s, if_pos rfl, x2, b1s]
      exact Sim.bd rfl x3 (shU_bad l6 x3.bad x3.lv)
    have fc4 : fr cF _ c := frX4_want x1
    have fm4 : fr mG _ c' := frX10_keyword x2
    have HC4 := HC2.fr fc4 rfl
    have HM4 := HM3.fr fm4 rfl
    rw [x1, b2s, if_neg o1, x2, b1s]
    unfold shU
    -- x
    rcases num_both C4 M4 (lo := 0) (hi := 30) (a := (0 : Int32)) (b := (30 : Int32)) (by omega) (by omega) rfl rfl with ⟨x, d, d', v1, v2, y1, y2, C5, y4, M5⟩ | ⟨d, d', y1, y2, y3⟩
    rotate_left
    · rw [y1, b2s, if_pos rfl, y2, b2s, if_pos (ib6 l6), lt_def, up_cl6 l6]
      exact Sim.bd rfl y3 (Kp.up (shW_bad l6 (bad_up y3.bad (by omega)) (y3.lv.up (by unfold lvd; omega))) (by omega))
    have fc5 : fr cF _ d := frX4_wantNumber y1
    have fm5 : fr mG _ d' := frX10_readNumber y2
    have HC5 := (HC4.fr fc5 rfl).up 12 (D 0 8) x rfl
    have HM5 := (HM4.fr fm5 rfl).up 66 (6 + D 0 8) x rfl
    have C6 : CSt g L T D (k + 1 + 1 + 1 + 1) (up d 12 (D 0 8) (nI x)) := C5.upd (by omega) (by omega) (by omega) (by omega) (C5.2.1.beside (by omega))
    have M6 : MSt g L σ0 D (k + 1 + 1 + 1 + 1) (up d' 66 (6 + D 0 8) (nI x)) := M5.upd (by omega) (by omega) (by unfold lvd; omega) (M5.2.2.2.2.1.beside (by omega))
    rw [y1, b2s, if_neg o1, if_pos i7, y4, lt_def, up_cl (by omega), y2, b2s, if_pos (ib6 l6), lt_def, up_cl6 l6]
    unfold shW
    -- y
    rcases num_both C6 M6 (lo := 0) (hi := 30) (a := (0 : Int32)) (b := (30 : Int32)) (by omega) (by omega) rfl rfl with ⟨y, e, e', w1, w2, z1, z2, C7, z4, M7⟩ | ⟨e, e', z1, z2, z3⟩
    rotate_left
    · rw [z1, b2s, if_pos rfl, z2, b2s, lt_def, up_cl6 l6, b_keyword (bad_up z3.bad (by omega)), b1s]
      exact Sim.bd rfl z3 (Kp.up (shX_bad l6 (bad_up z3.bad (by omega)) (z3.lv.up (by unfold lvd; omega))) (by omega))
    have fc7 : fr cF _ e := frX4_wantNumber z1
    have fm7 : fr mG _ e' := frX10_readNumber z2
    have HC7 := (HC5.fr fc7 rfl).up 13 (D 0 8) y rfl
    have HM7 := (HM5.fr fm7 rfl).up 67 (6 + D 0 8) y rfl
    have C8 : CSt g L T D (k + 1 + 1 + 1 + 1 + 1) (up e 13 (D 0 8) (nI y)) := C7.upd (by omega) (by omega) (by omega) (by omega) (C7.2.1.beside (by omega))
    have M8 : MSt g L σ0 D (k + 1 + 1 + 1 + 1 + 1) (up e' 67 (6 + D 0 8) (nI y)) := M7.upd (by omega) (by omega) (by unfold lvd; omega) (M7.2.2.2.2.1.beside (by omega))
    rw [z1, b2s, if_neg o1, z4, lt_def, up_cl (by omega), z2, b2s, lt_def, up_cl6 l6]
    -- shelf
    rcases kw_both C8 M8 (j := 9) (by omega) (a := (9 : Int32)) (w := (20190598 : Int32)) rfl rfl with ⟨p, p', j1, j2, C9, M9⟩ | ⟨p, p', j1, j2, j3⟩
    rotate_left
    · rw [j1, b2s, if_pos rfl, j2, b1s]
      exact Sim.bd rfl j3 (shX_bad l6 j3.bad j3.lv)
    have fc9 : fr cF _ p := frX4_want j1
    have fm9 : fr mG _ p' := frX10_keyword j2
    have HC9 := HC7.fr fc9 rfl
    have HM9 := HM7.fr fm9 rfl
    have tr : p 11 1 = nI (D 0 3) := C9.2.1.1.2.1
    have mr : p' 65 13 = nI (D 0 3) := M9.2.2.2.2.1.1 3 (by omega)
    rw [j1, b2s, if_neg o1, j2, b1s]
    unfold shX
    rw [tr, mr]
    rcases num_both C9 M9 (lo := 1) (hi := D 0 3) (a := (1 : Int32)) (b := nI (D 0 3)) (by omega) (by omega) rfl rfl with ⟨h, r, r', u1, u2, k1, k2, C10, k4, M10⟩ | ⟨r, r', k1, k2, k3⟩
    rotate_left
    · rw [k1, b2s, if_pos rfl, k2, b2s, lt_def, up_cl6 l6, b_keyword (bad_up k3.bad (by omega)), b1s]
      exact Sim.bd rfl k3 (Kp.up (shY_bad l6 (bad_up k3.bad (by omega)) (k3.lv.up (by unfold lvd; omega)) _) (by omega))
    have fc10 : fr cF _ r := frX4_wantNumber k1
    have fm10 : fr mG _ r' := frX10_readNumber k2
    have HC10 := (HC9.fr fc10 rfl).up 14 (D 0 8) h rfl
    have HM10 := (HM9.fr fm10 rfl).up 68 (6 + D 0 8) h rfl
    have C11 : CSt g L T D (k + 1 + 1 + 1 + 1 + 1 + 1 + 1) (up r 14 (D 0 8) (nI h)) := C10.upd (by omega) (by omega) (by omega) (by omega) (C10.2.1.beside (by omega))
    have M11 : MSt g L σ0 D (k + 1 + 1 + 1 + 1 + 1 + 1 + 1) (up r' 68 (6 + D 0 8) (nI h)) := M10.upd (by omega) (by omega) (by unfold lvd; omega) (M10.2.2.2.2.1.beside (by omega))
    rw [k1, b2s, if_neg o1, k4, lt_def, up_cl (by omega), k2, b2s, lt_def, up_cl6 l6]
    -- stock
    rcases kw_both C11 M11 (j := 10) (by omega) (a := (10 : Int32)) (w := (20593771 : Int32)) rfl rfl with ⟨s, s', l1, l2, C12, M12⟩ | ⟨s, s', l1, l2, l3⟩
    rotate_left
    · rw [l1, b2s, if_pos rfl, l2, b1s]
      exact Sim.bd rfl l3 (shY_bad l6 l3.bad l3.lv _)
    have fc12 : fr cF _ s := frX4_want l1
    have fm12 : fr mG _ s' := frX10_keyword l2
    have HC12 := HC10.fr fc12 rfl
    have HM12 := HM10.fr fm12 rfl
    have eh : s 14 (nI (D 0 8)).toNatClampNeg = nI h := by
      rw [nI_cl (by omega)]
      exact HC12 (14, D 0 8, h) (by simp)
    rw [l1, b2s, if_neg o1, l2, b1s, eh]
    unfold shY
    rcases num_both C12 M12 (lo := 0) (hi := h) (a := (0 : Int32)) (b := nI h) (by omega) (by omega) rfl rfl with ⟨i, t, t', b1', b2', f1, f2, C13, f4, M13⟩ | ⟨t, t', f1, f2, f3⟩
    rotate_left
    · rw [f1, b2s, if_pos rfl, f2, b2s, lt_def, up_cl6 l6, b_keyword (bad_up f3.bad (by omega)), b1s]
      exact Sim.bd rfl f3 (Kp.up (shZ_bad l6 (bad_up f3.bad (by omega)) (f3.lv.up (by unfold lvd; omega))) (by omega))
    have fc13 : fr cF _ t := frX4_wantNumber f1
    have fm13 : fr mG _ t' := frX10_readNumber f2
    have HC13 := (HC12.fr fc13 rfl).up 15 (D 0 8) i rfl
    have HM13 := (HM12.fr fm13 rfl).up 69 (6 + D 0 8) i rfl
    have C14 : CSt g L T D (k + 1 + 1 + 1 + 1 + 1 + 1 + 1 + 1 + 1) (up t 15 (D 0 8) (nI i)) := C13.upd (by omega) (by omega) (by omega) (by omega) (C13.2.1.beside (by omega))
    have M14 : MSt g L σ0 D (k + 1 + 1 + 1 + 1 + 1 + 1 + 1 + 1 + 1) (up t' 69 (6 + D 0 8) (nI i)) := M13.upd (by omega) (by omega) (by unfold lvd; omega) (M13.2.2.2.2.1.beside (by omega))
    rw [f1, b2s, if_neg o1, f4, lt_def, up_cl (by omega), f2, b2s, lt_def, up_cl6 l6]
    -- sells
    rcases kw_both C14 M14 (j := 11) (by omega) (a := (11 : Int32)) (w := (20099475 : Int32)) rfl rfl with ⟨u, u', o2, o3, C15, M15⟩ | ⟨u, u', o2, o3, o4⟩
    rotate_left
    · rw [o2, b2s, lt_def, if_pos rfl, o3, b1s]
      exact Sim.bd rfl o4 (shZ_bad l6 o4.bad o4.lv)
    have fc15 : fr cF _ u := frX4_want o2
    have fm15 : fr mG _ u' := frX10_keyword o3
    have HC15 := HC13.fr fc15 rfl
    have HM15 := HM13.fr fm15 rfl
    obtain ⟨ν, s1, C16⟩ := c_step C15
    have HC16 := HC15.fr (frX4_step s1) rfl
    have key := sold_loop hw l6 (show nm < 2147483648 by omega) v2 w2 u1 u2 b2' 7 0 FUEL FUEL _ ν u' (fun _ => 0) (by omega) (by unfold FUEL; omega) (by unfold FUEL; omega) C16 M15 (fun j hj => absurd hj (by omega)) HC16 (fun j hj => absurd hj (by omega)) HM15 (fun j hj => absurd hj (by omega))
    rw [show nI 0 = (0 : Int32) from rfl] at key
    rw [o2, b2s, lt_def, if_neg o1, readSold_eq s1, o3, b1s, shZ_eq]
    exact (key.mono (QL.le (by omega))).w0
