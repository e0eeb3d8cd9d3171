/-! ShelfDrives$Run.roundsCost()I -/
def XX5_roundsCost (k : Nat) (σ : Sg) : Option (Int32 × Sg) := b2 (XX5_wholeCost k σ) (fun (r_1 : Int32) (σ_2 : Sg) => b1 (XX5_stockCost k σ_2) (fun (r_3 : Int32) => b1 (XX5_lostCost k σ_2) (fun (r_4 : Int32) => some ((r_1 - r_3) - r_4, σ_2))))
theorem kX5_roundsCost {ext : List Shp} {k : Nat} {σ : Sg} {rr : (Int32 × Sg)} (hk : is_X5 (SHc ++ ext) k) (h : XX5_roundsCost k σ = some rr) : Ci MX5_roundsCost [.ref k] (SHc ++ ext) σ rr := by
  refine Ci.start rfl rfl (Nat.le_of_ble_eq_true rfl) ?_
  intro X ad C R
  replace C : Cx X cX5_roundsCost 1 RX5 (some .int) { frames := 4, cells := 0, slots := 0, locals := 96 } := C
  replace R : Ri X cX5_roundsCost (some .int) ad (SHc ++ ext) rr := R
  show AW X 0 0 ad (SHc ++ ext) σ 0 [some (.ref k)] []
  rw [XX5_roundsCost] at h
  refine a_aload_n C eX5_roundsCost_0 rfl ?_
  obtain ⟨r_1, σ_2, hq, h⟩ := b2_e h
  refine a_cVi0 C eX5_roundsCost_1 wX5_131 ⟨Nat.le_of_ble_eq_true rfl, Nat.le_of_ble_eq_true rfl, rfl, rfl⟩ rfl hk.1 rfl (kX5_wholeCost hk hq) (Nat.le_of_ble_eq_true rfl) ?_
  refine a_aload_n C eX5_roundsCost_4 rfl ?_
  obtain ⟨r_3, hq, h⟩ := b1_e h
  refine a_cVi0 C eX5_roundsCost_5 wX5_135 ⟨Nat.le_of_ble_eq_true rfl, Nat.le_of_ble_eq_true rfl, rfl, rfl⟩ rfl hk.1 rfl (kX5_stockCost hk hq) (Nat.le_of_ble_eq_true rfl) ?_
  refine a_isub C eX5_roundsCost_8 ?_
  refine a_aload_n C eX5_roundsCost_9 rfl ?_
  obtain ⟨r_4, hq, h⟩ := b1_e h
  refine a_cVi0 C eX5_roundsCost_10 wX5_138 ⟨Nat.le_of_ble_eq_true rfl, Nat.le_of_ble_eq_true rfl, rfl, rfl⟩ rfl hk.1 rfl (kX5_lostCost hk hq) (Nat.le_of_ble_eq_true rfl) ?_
  refine a_isub C eX5_roundsCost_13 ?_
  exact rt_i R eX5_roundsCost_14 h nb_int
/-! ShelfDrives$Savings.removeRound(I)V -/
def LX6_removeRound_12 : Nat → Int32 → Sg → Option Sg
  | 0, _, _ => none
  | n + 1, x2_2, σ_3 => if (σ_3 35 0) ≤ x2_2 then (some σ_3) else (if ib (x2_2 + (1 : Int32)) 6 then if ib x2_2 6 then lt (up σ_3 36 x2_2.toNatClampNeg (σ_3 36 (x2_2 + (1 : Int32)).toNatClampNeg)) (fun (σ_5 : Sg) => lt (up σ_5 37 x2_2.toNatClampNeg (σ_5 37 (x2_2 + (1 : Int32)).toNatClampNeg)) (fun (σ_7 : Sg) => lt (x2_2 + (1 : Int32)) (fun (x2_8 : Int32) => LX6_removeRound_12 n x2_8 σ_7))) else none else none)
def XX6_removeRound (p1 : Int32) (σ : Sg) : Option Sg := lt (up σ 35 0 ((σ 35 0) - (1 : Int32))) (fun (σ_1 : Sg) => LX6_removeRound_12 FUEL p1 σ_1)
theorem lX6_removeRound_12 {ext : List Shp} {X : CT} {ad : Nat → Nat} {rr : Sg}   (C : Cx X cX6_removeRound 3 RX6 none { frames := 0, cells := 0, slots := 0, locals := 0 }) (R : Rv X cX6_removeRound ad (SHc ++ ext) rr)  : ∀ (n : Nat) (x2_2 : Int32) (σ_3 : Sg), LX6_removeRound_12 n x2_2 σ_3 = some rr → AW X 0 0 ad (SHc ++ ext) σ_3 12 [some (.ref 35), none, some (.int x2_2)] [] := by
  intro n
  induction n with
  | zero =>
    intro x2_2 σ_3 h
    rw [LX6_removeRound_12] at h
    cases h
  | succ n ih =>
    intro x2_2 σ_3 h
    rw [LX6_removeRound_12] at h
    refine a_iload_n C eX6_removeRound_12 rfl ?_
    refine a_aload_n C eX6_removeRound_13 rfl ?_
    refine a_getI C eX6_removeRound_14 fX6_26 sh_35 rfl ?_
    refine a_icmp_ge C eX6_removeRound_17 (fun hc => ?_) (fun hc => ?_)
    · replace h := it hc h
      exact rt_v R eX6_removeRound_54 h
    · replace h := ie hc h
      refine a_aload_n C eX6_removeRound_20 rfl ?_
      refine a_getR C eX6_removeRound_21 fX6_9 sh_35 rfl ?_
      refine a_iload_n C eX6_removeRound_24 rfl ?_
      refine a_aload_n C eX6_removeRound_25 rfl ?_
      refine a_getR C eX6_removeRound_26 fX6_9 sh_35 rfl ?_
      refine a_iload_n C eX6_removeRound_29 rfl ?_
      refine a_iconst C eX6_removeRound_30 (1 : Int32) c_iconst_1 ?_
      refine a_iadd C eX6_removeRound_31 ?_
      obtain ⟨hb_4, h⟩ := gd h
      refine a_iald C eX6_removeRound_32 sh_36 hb_4 ?_
      obtain ⟨hb_6, h⟩ := gd h
      refine a_iastL C eX6_removeRound_33 sh_36 hb_6 h (fun σ_5 h => ?_)
      refine a_aload_n C eX6_removeRound_34 rfl ?_
      refine a_getR C eX6_removeRound_35 fX6_15 sh_35 rfl ?_
      refine a_iload_n C eX6_removeRound_38 rfl ?_
      refine a_aload_n C eX6_removeRound_39 rfl ?_
      refine a_getR C eX6_removeRound_40 fX6_15 sh_35 rfl ?_
      refine a_iload_n C eX6_removeRound_43 rfl ?_
      refine a_iconst C eX6_removeRound_44 (1 : Int32) c_iconst_1 ?_
      refine a_iadd C eX6_removeRound_45 ?_
      refine a_iald C eX6_removeRound_46 sh_37 hb_4 ?_
      refine a_iastL C eX6_removeRound_47 sh_37 hb_6 h (fun σ_7 h => ?_)
      refine a_inc C eX6_removeRound_48 rfl c_iconst_1 h (fun z => [some (.ref 35), none, some (.int z)]) (fun _ => rfl) (fun x2_8 h => ?_)
      refine a_goto C eX6_removeRound_51 ?_
      exact a_less (lle_same (lle_same (lle_same lle_nil))) (ih _ _ h)
theorem kX6_removeRound {ext : List Shp} {p1 : Int32} {σ : Sg} {rr : Sg}  (h : XX6_removeRound p1 σ = some rr) : Cv MX6_removeRound [.ref 35, .int p1] (SHc ++ ext) σ rr := by
  refine Cv.start rfl rfl (Nat.le_of_ble_eq_true rfl) rfl ?_
  intro X ad C R
  replace C : Cx X cX6_removeRound 3 RX6 none { frames := 0, cells := 0, slots := 0, locals := 0 } := C
  replace R : Rv X cX6_removeRound ad (SHc ++ ext) rr := R
  show AW X 0 0 ad (SHc ++ ext) σ 0 [some (.ref 35), some (.int p1), none] []
  rw [XX6_removeRound] at h
  refine a_aload_n C eX6_removeRound_0 rfl ?_
  refine a_dup C eX6_removeRound_1 rfl ?_
  refine a_getI C eX6_removeRound_2 fX6_26 sh_35 rfl ?_
  refine a_iconst C eX6_removeRound_5 (1 : Int32) c_iconst_1 ?_
  refine a_isub C eX6_removeRound_6 ?_
  refine a_putIL C eX6_removeRound_7 fX6_26 ftyX6 rfl rfl sh_35 rfl h (fun σ_1 h => ?_)
  refine a_iload_n C eX6_removeRound_10 rfl ?_
  refine a_ist_n C eX6_removeRound_11 (Nat.le_of_ble_eq_true rfl) [some (.ref 35), some (.int p1), some (.int p1)] rfl ?_
  exact a_less (lle_same (lle_drop (lle_same lle_nil))) (lX6_removeRound_12  C R  _ _ _ h)
/-! ShelfDrives$Savings.mergeBest()Z -/
def LX6_mergeBest_24 (x4_15 : Int32) (σ : Sg) (k102_20 : Int32 → Int32 → Int32 → Option (Int32 × Sg)) : Nat → Int32 → Int32 → Int32 → Int32 → Option (Int32 × Sg)
  | 0, _, _, _, _ => none
  | n + 1, x1_22, x2_23, x3_24, x5_25 => if (σ 35 0) ≤ x5_25 then (k102_20 x1_22 x2_23 x3_24) else (if ib x4_15 6 then if ib x5_25 6 then b1 (XX2_gain (σ 36 x4_15.toNatClampNeg) (σ 36 x5_25.toNatClampNeg) σ) (fun (r_28 : Int32) => lt (fun (x1_29 : Int32) (x2_30 : Int32) (x3_31 : Int32) => lt (x5_25 + (1 : Int32)) (fun (x5_33 : Int32) => LX6_mergeBest_24 x4_15 σ k102_20 n x1_29 x2_30 x3_31 x5_33)) (fun (k96_32 : Int32 → Int32 → Int32 → Option (Int32 × Sg)) => if r_28 ≤ x1_22 then (k96_32 x1_22 x2_23 x3_24) else (if (σ 2 1) < ((σ 37 x4_15.toNatClampNeg) + (σ 37 x5_25.toNatClampNeg)) then (k96_32 x1_22 x2_23 x3_24) else (k96_32 r_28 x4_15 x5_25)))) else none else none)
def LX6_mergeBest_9 (σ : Sg) (k108_4 : Int32 → Int32 → Int32 → Option (Int32 × Sg)) : Nat → Int32 → Int32 → Int32 → Int32 → Option (Int32 × Sg)
  | 0, _, _, _, _ => none
  | n + 1, x1_12, x2_13, x3_14, x4_15 => if (σ 35 0) ≤ x4_15 then (k108_4 x1_12 x2_13 x3_14) else (lt (x4_15 + (1 : Int32)) (fun (x5_16 : Int32) => lt (fun (x1_17 : Int32) (x2_18 : Int32) (x3_19 : Int32) => lt (x4_15 + (1 : Int32)) (fun (x4_21 : Int32) => LX6_mergeBest_9 σ k108_4 n x1_17 x2_18 x3_19 x4_21)) (fun (k102_20 : Int32 → Int32 → Int32 → Option (Int32 × Sg)) => LX6_mergeBest_24 x4_15 σ k102_20 FUEL x1_12 x2_13 x3_14 x5_16)))
def XX6_mergeBest (σ : Sg) : Option (Int32 × Sg) := lt (fun (x1_1 : Int32) (x2_2 : Int32) (x3_3 : Int32) => lt (fun (σ_5 : Sg) => if x1_1 ≤ 0 then (some ((0 : Int32), σ_5)) else (some ((1 : Int32), σ_5))) (fun (k147_6 : Sg → Option (Int32 × Sg)) => if x1_1 ≤ 0 then (k147_6 σ) else (if ib x2_2 6 then if ib x3_3 6 then lt (up σ 36 x2_2.toNatClampNeg ((σ 36 x2_2.toNatClampNeg) ||| (σ 36 x3_3.toNatClampNeg))) (fun (σ_9 : Sg) => lt (up σ_9 37 x2_2.toNatClampNeg ((σ_9 37 x2_2.toNatClampNeg) + (σ_9 37 x3_3.toNatClampNeg))) (fun (σ_10 : Sg) => b1 (XX6_removeRound x3_3 σ_10) (fun (σ_11 : Sg) => k147_6 σ_11))) else none else none))) (fun (k108_4 : Int32 → Int32 → Int32 → Option (Int32 × Sg)) => LX6_mergeBest_9 σ k108_4 FUEL (0 : Int32) (0 : Int32) (0 : Int32) (0 : Int32))
theorem lX6_mergeBest_24 {ext : List Shp} {X : CT} {ad : Nat → Nat} {rr : (Int32 × Sg)} {x4_15 : Int32} {σ : Sg} {k102_20 : Int32 → Int32 → Int32 → Option (Int32 × Sg)}  (C : Cx X cX6_mergeBest 7 RX6 (some .boolean) { frames := 1, cells := 0, slots := 0, locals := 22 }) (R : Ri X cX6_mergeBest (some .boolean) ad (SHc ++ ext) rr) (hk102_20 : ∀ (x1_17 : Int32) (x2_18 : Int32) (x3_19 : Int32), k102_20 x1_17 x2_18 x3_19 = some rr → AW X 0 0 ad (SHc ++ ext) σ 102 [some (.ref 35), some (.int x1_17), some (.int x2_18), some (.int x3_19), some (.int x4_15), none, none] []) : ∀ (n : Nat) (x1_22 : Int32) (x2_23 : Int32) (x3_24 : Int32) (x5_25 : Int32), LX6_mergeBest_24 x4_15 σ k102_20 n x1_22 x2_23 x3_24 x5_25 = some rr → AW X 0 0 ad (SHc ++ ext) σ 24 [some (.ref 35), some (.int x1_22), some (.int x2_23), some (.int x3_24), some (.int x4_15), some (.int x5_25), none] [] := by
  intro n
  induction n with
  | zero =>
    intro x1_22 x2_23 x3_24 x5_25 h
    rw [LX6_mergeBest_24] at h
    cases h
  | succ n ih =>
    intro x1_22 x2_23 x3_24 x5_25 h
    rw [LX6_mergeBest_24] at h
    refine a_iload C eX6_mergeBest_24 rfl ?_
    refine a_aload_n C eX6_mergeBest_26 rfl ?_
    refine a_getI C eX6_mergeBest_27 fX6_26 sh_35 rfl ?_
    refine a_icmp_ge C eX6_mergeBest_30 (fun hc => ?_) (fun hc => ?_)
    · replace h := it hc h
      exact a_less (lle_same (lle_same (lle_same (lle_same (lle_same (lle_drop (lle_same lle_nil))))))) (hk102_20 _ _ _ h)
    · replace h := ie hc h
      refine a_aload_n C eX6_mergeBest_33 rfl ?_
      refine a_getR C eX6_mergeBest_34 fX6_22 sh_35 rfl ?_
      refine a_aload_n C eX6_mergeBest_37 rfl ?_
      refine a_getR C eX6_mergeBest_38 fX6_9 sh_35 rfl ?_
      refine a_iload C eX6_mergeBest_41 rfl ?_
      obtain ⟨hb_26, h⟩ := gd h
      refine a_iald C eX6_mergeBest_43 sh_36 hb_26 ?_
      refine a_aload_n C eX6_mergeBest_44 rfl ?_
      refine a_getR C eX6_mergeBest_45 fX6_9 sh_35 rfl ?_
      refine a_iload C eX6_mergeBest_48 rfl ?_
      obtain ⟨hb_27, h⟩ := gd h
      refine a_iald C eX6_mergeBest_50 sh_36 hb_27 ?_
      obtain ⟨r_28, hq, h⟩ := b1_e h
      refine a_cVi2 C eX6_mergeBest_51 wX6_45 ⟨Nat.le_of_ble_eq_true rfl, Nat.le_of_ble_eq_true rfl, rfl, rfl⟩ rfl sh_29 rfl (kX2_gain hq) (Nat.le_of_ble_eq_true rfl) ?_
      refine a_ist C eX6_mergeBest_54 (Nat.le_of_ble_eq_true rfl) [some (.ref 35), some (.int x1_22), some (.int x2_23), some (.int x3_24), some (.int x4_15), some (.int x5_25), some (.int r_28)] rfl ?_
      refine a_iload C eX6_mergeBest_56 rfl ?_
      refine a_iload_n C eX6_mergeBest_58 rfl ?_
      refine jn (fun (kk : Int32 → Int32 → Int32 → Option (Int32 × Sg)) => ∀ (x1_29 : Int32) (x2_30 : Int32) (x3_31 : Int32), kk x1_29 x2_30 x3_31 = some rr → AW X 0 0 ad (SHc ++ ext) σ 96 [some (.ref 35), some (.int x1_29), some (.int x2_30), some (.int x3_31), some (.int x4_15), some (.int x5_25), none] []) h ?_ (fun k96_32 hk96_32 h => ?_)
      · intro x1_29 x2_30 x3_31 h
        refine a_inc C eX6_mergeBest_96 rfl c_iconst_1 h (fun z => [some (.ref 35), some (.int x1_29), some (.int x2_30), some (.int x3_31), some (.int x4_15), some (.int z), none]) (fun _ => rfl) (fun x5_33 h => ?_)
        refine a_goto C eX6_mergeBest_99 ?_
        exact a_less (lle_same (lle_same (lle_same (lle_same (lle_same (lle_same (lle_same lle_nil))))))) (ih _ _ _ _ h)
      refine a_icmp_le C eX6_mergeBest_59 (fun hc => ?_) (fun hc => ?_)
      · replace h := it hc h
        exact a_less (lle_same (lle_same (lle_same (lle_same (lle_same (lle_same (lle_drop lle_nil))))))) (hk96_32 _ _ _ h)
      · replace h := ie hc h
        refine a_aload_n C eX6_mergeBest_62 rfl ?_
        refine a_getR C eX6_mergeBest_63 fX6_15 sh_35 rfl ?_
        refine a_iload C eX6_mergeBest_66 rfl ?_
        refine a_iald C eX6_mergeBest_68 sh_37 hb_26 ?_
        refine a_aload_n C eX6_mergeBest_69 rfl ?_
        refine a_getR C eX6_mergeBest_70 fX6_15 sh_35 rfl ?_
        refine a_iload C eX6_mergeBest_73 rfl ?_
        refine a_iald C eX6_mergeBest_75 sh_37 hb_27 ?_
        refine a_iadd C eX6_mergeBest_76 ?_
        refine a_aload_n C eX6_mergeBest_77 rfl ?_
        refine a_getR C eX6_mergeBest_78 fX6_18 sh_35 rfl ?_
        refine a_getI C eX6_mergeBest_81 fX6_49 sh_2 rfl ?_
        refine a_icmp_gt C eX6_mergeBest_84 (fun hc => ?_) (fun hc => ?_)
        · replace h := it hc h
          exact a_less (lle_same (lle_same (lle_same (lle_same (lle_same (lle_same (lle_drop lle_nil))))))) (hk96_32 _ _ _ h)
        · replace h := ie hc h
          refine a_iload C eX6_mergeBest_87 rfl ?_
          refine a_ist_n C eX6_mergeBest_89 (Nat.le_of_ble_eq_true rfl) [some (.ref 35), some (.int r_28), some (.int x2_23), some (.int x3_24), some (.int x4_15), some (.int x5_25), some (.int r_28)] rfl ?_
          refine a_iload C eX6_mergeBest_90 rfl ?_
          refine a_ist_n C eX6_mergeBest_92 (Nat.le_of_ble_eq_true rfl) [some (.ref 35), some (.int r_28), some (.int x4_15), some (.int x3_24), some (.int x4_15), some (.int x5_25), some (.int r_28)] rfl ?_
          refine a_iload C eX6_mergeBest_93 rfl ?_
          refine a_ist_n C eX6_mergeBest_95 (Nat.le_of_ble_eq_true rfl) [some (.ref 35), some (.int r_28), some (.int x4_15), some (.int x5_25), some (.int x4_15), some (.int x5_25), some (.int r_28)] rfl ?_
          exact a_less (lle_same (lle_same (lle_same (lle_same (lle_same (lle_same (lle_drop lle_nil))))))) (hk96_32 _ _ _ h)
theorem lX6_mergeBest_9 {ext : List Shp} {X : CT} {ad : Nat → Nat} {rr : (Int32 × Sg)} {σ : Sg} {k108_4 : Int32 → Int32 → Int32 → Option (Int32 × Sg)}  (C : Cx X cX6_mergeBest 7 RX6 (some .boolean) { frames := 1, cells := 0, slots := 0, locals := 22 }) (R : Ri X cX6_mergeBest (some .boolean) ad (SHc ++ ext) rr) (hk108_4 : ∀ (x1_1 : Int32) (x2_2 : Int32) (x3_3 : Int32), k108_4 x1_1 x2_2 x3_3 = some rr → AW X 0 0 ad (SHc ++ ext) σ 108 [some (.ref 35), some (.int x1_1), some (.int x2_2), some (.int x3_3), none, none, none] []) : ∀ (n : Nat) (x1_12 : Int32) (x2_13 : Int32) (x3_14 : Int32) (x4_15 : Int32), LX6_mergeBest_9 σ k108_4 n x1_12 x2_13 x3_14 x4_15 = some rr → AW X 0 0 ad (SHc ++ ext) σ 9 [some (.ref 35), some (.int x1_12), some (.int x2_13), some (.int x3_14), some (.int x4_15), none, none] [] := by
  intro n
  induction n with
  | zero =>
    intro x1_12 x2_13 x3_14 x4_15 h
    rw [LX6_mergeBest_9] at h
    cases h
  | succ n ih =>
    intro x1_12 x2_13 x3_14 x4_15 h
    rw [LX6_mergeBest_9] at h
    refine a_iload C eX6_mergeBest_9 rfl ?_
    refine a_aload_n C eX6_mergeBest_11 rfl ?_
    refine a_getI C eX6_mergeBest_12 fX6_26 sh_35 rfl ?_
    refine a_icmp_ge C eX6_mergeBest_15 (fun hc => ?_) (fun hc => ?_)
    · replace h := it hc h
      exact a_less (lle_same (lle_same (lle_same (lle_same (lle_drop (lle_same (lle_same lle_nil))))))) (hk108_4 _ _ _ h)
    · replace h := ie hc h
      refine a_iload C eX6_mergeBest_18 rfl ?_
      refine a_iconst C eX6_mergeBest_20 (1 : Int32) c_iconst_1 ?_
      refine a_iadd C eX6_mergeBest_21 ?_
      refine a_lt h (fun x5_16 h => ?_)
      refine a_ist C eX6_mergeBest_22 (Nat.le_of_ble_eq_true rfl) [some (.ref 35), some (.int x1_12), some (.int x2_13), some (.int x3_14), some (.int x4_15), some (.int x5_16), none] rfl ?_
      refine jn (fun (kk : Int32 → Int32 → Int32 → Option (Int32 × Sg)) => ∀ (x1_17 : Int32) (x2_18 : Int32) (x3_19 : Int32), kk x1_17 x2_18 x3_19 = some rr → AW X 0 0 ad (SHc ++ ext) σ 102 [some (.ref 35), some (.int x1_17), some (.int x2_18), some (.int x3_19), some (.int x4_15), none, none] []) h ?_ (fun k102_20 hk102_20 h => ?_)
      · intro x1_17 x2_18 x3_19 h
        refine a_inc C eX6_mergeBest_102 rfl c_iconst_1 h (fun z => [some (.ref 35), some (.int x1_17), some (.int x2_18), some (.int x3_19), some (.int z), none, none]) (fun _ => rfl) (fun x4_21 h => ?_)
        refine a_goto C eX6_mergeBest_105 ?_
        exact a_less (lle_same (lle_same (lle_same (lle_same (lle_same (lle_same (lle_same lle_nil))))))) (ih _ _ _ _ h)
      exact a_less (lle_same (lle_same (lle_same (lle_same (lle_same (lle_same (lle_same lle_nil))))))) (lX6_mergeBest_24  C R hk102_20 _ _ _ _ _ h)
theorem kX6_mergeBest {ext : List Shp} {σ : Sg} {rr : (Int32 × Sg)}  (h : XX6_mergeBest σ = some rr) : Ci MX6_mergeBest [.ref 35] (SHc ++ ext) σ rr := by
  refine Ci.start rfl rfl (Nat.le_of_ble_eq_true rfl) ?_
  intro X ad C R
  replace C : Cx X cX6_mergeBest 7 RX6 (some .boolean) { frames := 1, cells := 0, slots := 0, locals := 22 } := C
  replace R : Ri X cX6_mergeBest (some .boolean) ad (SHc ++ ext) rr := R
  show AW X 0 0 ad (SHc ++ ext) σ 0 [some (.ref 35), none, none, none, none, none, none] []
  rw [XX6_mergeBest] at h
  refine a_iconst C eX6_mergeBest_0 (0 : Int32) c_iconst_0 ?_
  refine a_ist_n C eX6_mergeBest_1 (Nat.le_of_ble_eq_true rfl) [some (.ref 35), some (.int (0 : Int32)), none, none, none, none, none] rfl ?_
  refine a_iconst C eX6_mergeBest_2 (0 : Int32) c_iconst_0 ?_
  refine a_ist_n C eX6_mergeBest_3 (Nat.le_of_ble_eq_true rfl) [some (.ref 35), some (.int (0 : Int32)), some (.int (0 : Int32)), none, none, none, none] rfl ?_
  refine a_iconst C eX6_mergeBest_4 (0 : Int32) c_iconst_0 ?_
  refine a_ist_n C eX6_mergeBest_5 (Nat.le_of_ble_eq_true rfl) [some (.ref 35), some (.int (0 : Int32)), some (.int (0 : Int32)), some (.int (0 : Int32)), none, none, none] rfl ?_
  refine a_iconst C eX6_mergeBest_6 (0 : Int32) c_iconst_0 ?_
  refine a_ist C eX6_mergeBest_7 (Nat.le_of_ble_eq_true rfl) [some (.ref 35), some (.int (0 : Int32)), some (.int (0 : Int32)), some (.int (0 : Int32)), some (.int (0 : Int32)), none, none] rfl ?_
  refine jn (fun (kk : Int32 → Int32 → Int32 → Option (Int32 × Sg)) => ∀ (x1_1 : Int32) (x2_2 : Int32) (x3_3 : Int32), kk x1_1 x2_2 x3_3 = some rr → AW X 0 0 ad (SHc ++ ext) σ 108 [some (.ref 35), some (.int x1_1), some (.int x2_2), some (.int x3_3), none, none, none] []) h ?_ (fun k108_4 hk108_4 h => ?_)
  · intro x1_1 x2_2 x3_3 h
    refine a_iload_n C eX6_mergeBest_108 rfl ?_
    refine jn (fun (kk : Sg → Option (Int32 × Sg)) => ∀ (σ_5 : Sg), kk σ_5 = some rr → AW X 0 0 ad (SHc ++ ext) σ_5 147 [none, some (.int x1_1), none, none, none, none, none] []) h ?_ (fun k147_6 hk147_6 h => ?_)
    · intro σ_5 h
      refine a_iload_n C eX6_mergeBest_147 rfl ?_
      refine a_if_le C eX6_mergeBest_148 (fun hc => ?_) (fun hc => ?_)
      · replace h := it hc h
        refine a_iconst C eX6_mergeBest_155 (0 : Int32) c_iconst_0 ?_
        exact rt_i R eX6_mergeBest_156 h nb_0
      · replace h := ie hc h
        refine a_iconst C eX6_mergeBest_151 (1 : Int32) c_iconst_1 ?_
        refine a_goto C eX6_mergeBest_152 ?_
        exact rt_i R eX6_mergeBest_156 h nb_1
    refine a_if_le C eX6_mergeBest_109 (fun hc => ?_) (fun hc => ?_)
    · replace h := it hc h
      exact a_less (lle_drop (lle_same (lle_drop (lle_drop (lle_same (lle_same (lle_same lle_nil))))))) (hk147_6 _ h)
    · replace h := ie hc h
      refine a_aload_n C eX6_mergeBest_112 rfl ?_
      refine a_getR C eX6_mergeBest_113 fX6_9 sh_35 rfl ?_
      refine a_iload_n C eX6_mergeBest_116 rfl ?_
      refine a_dup2 C eX6_mergeBest_117 rfl rfl ?_
      obtain ⟨hb_7, h⟩ := gd h
      refine a_iald C eX6_mergeBest_118 sh_36 hb_7 ?_
      refine a_aload_n C eX6_mergeBest_119 rfl ?_
      refine a_getR C eX6_mergeBest_120 fX6_9 sh_35 rfl ?_
      refine a_iload_n C eX6_mergeBest_123 rfl ?_
      obtain ⟨hb_8, h⟩ := gd h
      refine a_iald C eX6_mergeBest_124 sh_36 hb_8 ?_
      refine a_ior C eX6_mergeBest_125 ?_
      refine a_iastL C eX6_mergeBest_126 sh_36 hb_7 h (fun σ_9 h => ?_)
      refine a_aload_n C eX6_mergeBest_127 rfl ?_
      refine a_getR C eX6_mergeBest_128 fX6_15 sh_35 rfl ?_
      refine a_iload_n C eX6_mergeBest_131 rfl ?_
      refine a_dup2 C eX6_mergeBest_132 rfl rfl ?_
      refine a_iald C eX6_mergeBest_133 sh_37 hb_7 ?_
      refine a_aload_n C eX6_mergeBest_134 rfl ?_
      refine a_getR C eX6_mergeBest_135 fX6_15 sh_35 rfl ?_
      refine a_iload_n C eX6_mergeBest_138 rfl ?_
      refine a_iald C eX6_mergeBest_139 sh_37 hb_8 ?_
      refine a_iadd C eX6_mergeBest_140 ?_
      refine a_iastL C eX6_mergeBest_141 sh_37 hb_7 h (fun σ_10 h => ?_)
      refine a_aload_n C eX6_mergeBest_142 rfl ?_
      refine a_iload_n C eX6_mergeBest_143 rfl ?_
      obtain ⟨σ_11, hq, h⟩ := b1_e h
      refine a_cVv1 C eX6_mergeBest_144 wX6_52 ⟨Nat.le_of_ble_eq_true rfl, Nat.le_of_ble_eq_true rfl, rfl, rfl⟩ rfl sh_35 rfl (kX6_removeRound hq) (Nat.le_of_ble_eq_true rfl) ?_
      exact a_less (lle_drop (lle_same (lle_drop (lle_drop (lle_same (lle_same (lle_same lle_nil))))))) (hk147_6 _ h)
  exact a_less (lle_same (lle_same (lle_same (lle_same (lle_same (lle_same (lle_same lle_nil))))))) (lX6_mergeBest_9  C R hk108_4 _ _ _ _ _ h)
/-! ShelfDrives$Savings.mergeAll([I)V -/
def LX6_mergeAll_66 : Nat → Int32 → Sg → Option Sg
  | 0, _, _ => none
  | n + 1, x2_4, σ_5 => if (6 : Int32) ≤ x2_4 then (some σ_5) else (b2 (XX6_mergeBest σ_5) (fun (r_6 : Int32) (σ_7 : Sg) => if r_6 = 0 then (some σ_7) else (lt (x2_4 + (1 : Int32)) (fun (x2_8 : Int32) => LX6_mergeAll_66 n x2_8 σ_7))))
def LX6_mergeAll_7 (k64_3 : Sg → Option Sg) : Nat → Int32 → Sg → Option Sg
  | 0, _, _ => none
  | n + 1, x2_9, σ_10 => if (σ_10 2 6) ≤ x2_9 then (k64_3 σ_10) else (if ib x2_9 6 then lt (fun (σ_12 : Sg) => lt (x2_9 + (1 : Int32)) (fun (x2_14 : Int32) => LX6_mergeAll_7 k64_3 n x2_14 σ_12)) (fun (k58_13 : Sg → Option Sg) => if (σ_10 63 x2_9.toNatClampNeg) ≤ 0 then (k58_13 σ_10) else (if ib (σ_10 35 0) 6 then lt (up σ_10 36 (σ_10 35 0).toNatClampNeg ((1 : Int32) <<< (x2_9 &&& 31))) (fun (σ_15 : Sg) => if ib (σ_15 35 0) 6 then lt (up σ_15 37 (σ_15 35 0).toNatClampNeg (σ_15 63 x2_9.toNatClampNeg)) (fun (σ_17 : Sg) => lt (up σ_17 35 0 ((σ_17 35 0) + (1 : Int32))) (fun (σ_19 : Sg) => k58_13 σ_19)) else none) else none)) else none)
def XX6_mergeAll (σ : Sg) : Option Sg := lt (up σ 35 0 (0 : Int32)) (fun (σ_1 : Sg) => lt (fun (σ_2 : Sg) => LX6_mergeAll_66 FUEL (0 : Int32) σ_2) (fun (k64_3 : Sg → Option Sg) => LX6_mergeAll_7 k64_3 FUEL (0 : Int32) σ_1))
theorem lX6_mergeAll_66 {ext : List Shp} {X : CT} {ad : Nat → Nat} {rr : Sg}   (C : Cx X cX6_mergeAll 3 RX6 none { frames := 2, cells := 0, slots := 0, locals := 48 }) (R : Rv X cX6_mergeAll ad (SHc ++ ext) rr)  : ∀ (n : Nat) (x2_4 : Int32) (σ_5 : Sg), LX6_mergeAll_66 n x2_4 σ_5 = some rr → AW X 0 0 ad (SHc ++ ext) σ_5 66 [some (.ref 35), none, some (.int x2_4)] [] := by
  intro n
  induction n with
  | zero =>
    intro x2_4 σ_5 h
    rw [LX6_mergeAll_66] at h
    cases h
  | succ n ih =>
    intro x2_4 σ_5 h
    rw [LX6_mergeAll_66] at h
    refine a_iload_n C eX6_mergeAll_66 rfl ?_
    refine a_bipush C eX6_mergeAll_67 (6 : Int32) c_bipush_6 ?_
    refine a_icmp_ge C eX6_mergeAll_69 (fun hc => ?_) (fun hc => ?_)
    · replace h := it hc h
      exact rt_v R eX6_mergeAll_86 h
    · replace h := ie hc h
      refine a_aload_n C eX6_mergeAll_72 rfl ?_
      obtain ⟨r_6, σ_7, hq, h⟩ := b2_e h
      refine a_cVi0 C eX6_mergeAll_73 wX6_35 ⟨Nat.le_of_ble_eq_true rfl, Nat.le_of_ble_eq_true rfl, rfl, rfl⟩ rfl sh_35 rfl (kX6_mergeBest hq) (Nat.le_of_ble_eq_true rfl) ?_
      refine a_if_ne C eX6_mergeAll_76 (fun hc => ?_) (fun hc => ?_)
      · replace h := ie hc h
        refine a_inc C eX6_mergeAll_80 rfl c_iconst_1 h (fun z => [some (.ref 35), none, some (.int z)]) (fun _ => rfl) (fun x2_8 h => ?_)
        refine a_goto C eX6_mergeAll_83 ?_
        exact a_less (lle_same (lle_same (lle_same lle_nil))) (ih _ _ h)
      · replace h := it hc h
        exact rt_v R eX6_mergeAll_79 h
theorem lX6_mergeAll_7 {ext : List Shp} {X : CT} {ad : Nat → Nat} {rr : Sg} {k64_3 : Sg → Option Sg}  (C : Cx X cX6_mergeAll 3 RX6 none { frames := 2, cells := 0, slots := 0, locals := 48 }) (R : Rv X cX6_mergeAll ad (SHc ++ ext) rr) (hk64_3 : ∀ (σ_2 : Sg), k64_3 σ_2 = some rr → AW X 0 0 ad (SHc ++ ext) σ_2 64 [some (.ref 35), none, none] []) : ∀ (n : Nat) (x2_9 : Int32) (σ_10 : Sg), LX6_mergeAll_7 k64_3 n x2_9 σ_10 = some rr → AW X 0 0 ad (SHc ++ ext) σ_10 7 [some (.ref 35), some (.ref 63), some (.int x2_9)] [] := by
  intro n
  induction n with
  | zero =>
    intro x2_9 σ_10 h
    rw [LX6_mergeAll_7] at h
    cases h
  | succ n ih =>
    intro x2_9 σ_10 h
    rw [LX6_mergeAll_7] at h
    refine a_iload_n C eX6_mergeAll_7 rfl ?_
    refine a_aload_n C eX6_mergeAll_8 rfl ?_
    refine a_getR C eX6_mergeAll_9 fX6_18 sh_35 rfl ?_
    refine a_getI C eX6_mergeAll_12 fX6_30 sh_2 rfl ?_
    refine a_icmp_ge C eX6_mergeAll_15 (fun hc => ?_) (fun hc => ?_)
    · replace h := it hc h
      exact a_less (lle_same (lle_drop (lle_drop lle_nil))) (hk64_3 _ h)
    · replace h := ie hc h
      refine a_aload_n C eX6_mergeAll_18 rfl ?_
      refine a_iload_n C eX6_mergeAll_19 rfl ?_
      obtain ⟨hb_11, h⟩ := gd h
      refine a_iald C eX6_mergeAll_20 sh_63 hb_11 ?_
      refine jn (fun (kk : Sg → Option Sg) => ∀ (σ_12 : Sg), kk σ_12 = some rr → AW X 0 0 ad (SHc ++ ext) σ_12 58 [some (.ref 35), some (.ref 63), some (.int x2_9)] []) h ?_ (fun k58_13 hk58_13 h => ?_)
      · intro σ_12 h
        refine a_inc C eX6_mergeAll_58 rfl c_iconst_1 h (fun z => [some (.ref 35), some (.ref 63), some (.int z)]) (fun _ => rfl) (fun x2_14 h => ?_)
        refine a_goto C eX6_mergeAll_61 ?_
        exact a_less (lle_same (lle_same (lle_same lle_nil))) (ih _ _ h)
      refine a_if_le C eX6_mergeAll_21 (fun hc => ?_) (fun hc => ?_)
      · replace h := it hc h
        exact a_less (lle_same (lle_same (lle_same lle_nil))) (hk58_13 _ h)
      · replace h := ie hc h
        refine a_aload_n C eX6_mergeAll_24 rfl ?_
        refine a_getR C eX6_mergeAll_25 fX6_9 sh_35 rfl ?_
        refine a_aload_n C eX6_mergeAll_28 rfl ?_
        refine a_getI C eX6_mergeAll_29 fX6_26 sh_35 rfl ?_
        refine a_iconst C eX6_mergeAll_32 (1 : Int32) c_iconst_1 ?_
        refine a_iload_n C eX6_mergeAll_33 rfl ?_
        refine a_ishl C eX6_mergeAll_34 ?_
        obtain ⟨hb_16, h⟩ := gd h
        refine a_iastL C eX6_mergeAll_35 sh_36 hb_16 h (fun σ_15 h => ?_)
        refine a_aload_n C eX6_mergeAll_36 rfl ?_
        refine a_getR C eX6_mergeAll_37 fX6_15 sh_35 rfl ?_
        refine a_aload_n C eX6_mergeAll_40 rfl ?_
        refine a_getI C eX6_mergeAll_41 fX6_26 sh_35 rfl ?_
        refine a_aload_n C eX6_mergeAll_44 rfl ?_
        refine a_iload_n C eX6_mergeAll_45 rfl ?_
        refine a_iald C eX6_mergeAll_46 sh_63 hb_11 ?_
        obtain ⟨hb_18, h⟩ := gd h
        refine a_iastL C eX6_mergeAll_47 sh_37 hb_18 h (fun σ_17 h => ?_)
        refine a_aload_n C eX6_mergeAll_48 rfl ?_
        refine a_dup C eX6_mergeAll_49 rfl ?_
        refine a_getI C eX6_mergeAll_50 fX6_26 sh_35 rfl ?_
        refine a_iconst C eX6_mergeAll_53 (1 : Int32) c_iconst_1 ?_
        refine a_iadd C eX6_mergeAll_54 ?_
        refine a_putIL C eX6_mergeAll_55 fX6_26 ftyX6 rfl rfl sh_35 rfl h (fun σ_19 h => ?_)
        exact a_less (lle_same (lle_same (lle_same lle_nil))) (hk58_13 _ h)
theorem kX6_mergeAll {ext : List Shp} {σ : Sg} {rr : Sg}  (h : XX6_mergeAll σ = some rr) : Cv MX6_mergeAll [.ref 35, .ref 63] (SHc ++ ext) σ rr := by
  refine Cv.start rfl rfl (Nat.le_of_ble_eq_true rfl) rfl ?_
  intro X ad C R
  replace C : Cx X cX6_mergeAll 3 RX6 none { frames := 2, cells := 0, slots := 0, locals := 48 } := C
  replace R : Rv X cX6_mergeAll ad (SHc ++ ext) rr := R
  show AW X 0 0 ad (SHc ++ ext) σ 0 [some (.ref 35), some (.ref 63), none] []
  rw [XX6_mergeAll] at h
  refine a_aload_n C eX6_mergeAll_0 rfl ?_
  refine a_iconst C eX6_mergeAll_1 (0 : Int32) c_iconst_0 ?_
  refine a_putIL C eX6_mergeAll_2 fX6_26 ftyX6 rfl rfl sh_35 rfl h (fun σ_1 h => ?_)
  refine a_iconst C eX6_mergeAll_5 (0 : Int32) c_iconst_0 ?_
  refine a_ist_n C eX6_mergeAll_6 (Nat.le_of_ble_eq_true rfl) [some (.ref 35), some (.ref 63), some (.int (0 : Int32))] rfl ?_
  refine jn (fun (kk : Sg → Option Sg) => ∀ (σ_2 : Sg), kk σ_2 = some rr → AW X 0 0 ad (SHc ++ ext) σ_2 64 [some (.ref 35), none, none] []) h ?_ (fun k64_3 hk64_3 h => ?_)
  · intro σ_2 h
    refine a_iconst C eX6_mergeAll_64 (0 : Int32) c_iconst_0 ?_
    refine a_ist_n C eX6_mergeAll_65 (Nat.le_of_ble_eq_true rfl) [some (.ref 35), none, some (.int (0 : Int32))] rfl ?_
    exact a_less (lle_same (lle_same (lle_same lle_nil))) (lX6_mergeAll_66  C R  _ _ _ h)
  exact a_less (lle_same (lle_same (lle_same lle_nil))) (lX6_mergeAll_7  C R hk64_3 _ _ _ h)
/-! ShelfDrives$Savings.price()I -/
def LX6_price_4 (σ : Sg) : Nat → Int32 → Int32 → Option Int32
  | 0, _, _ => none
  | n + 1, x1_1, x2_2 => if (σ 35 0) ≤ x2_2 then (some x1_1) else (if ib x2_2 6 then b1 (XX2_roundPrice (σ 36 x2_2.toNatClampNeg) σ) (fun (r_4 : Int32) => lt (x1_1 + r_4) (fun (x1_5 : Int32) => lt (x2_2 + (1 : Int32)) (fun (x2_6 : Int32) => LX6_price_4 σ n x1_5 x2_6))) else none)
def XX6_price (σ : Sg) : Option Int32 := LX6_price_4 σ FUEL (0 : Int32) (0 : Int32)
theorem lX6_price_4 {ext : List Shp} {X : CT} {ad : Nat → Nat} {rr : Int32} {σ : Sg}  (C : Cx X cX6_price 3 RX6 (some .int) { frames := 1, cells := 0, slots := 0, locals := 21 }) (R : Ri X cX6_price (some .int) ad (SHc ++ ext) (rr, σ))  : ∀ (n : Nat) (x1_1 : Int32) (x2_2 : Int32), LX6_price_4 σ n x1_1 x2_2 = some rr → AW X 0 0 ad (SHc ++ ext) σ 4 [some (.ref 35), some (.int x1_1), some (.int x2_2)] [] := by
  intro n
  induction n with
  | zero =>
    intro x1_1 x2_2 h
    rw [LX6_price_4] at h
    cases h
  | succ n ih =>
    intro x1_1 x2_2 h
    rw [LX6_price_4] at h
    refine a_iload_n C eX6_price_4 rfl ?_
    refine a_aload_n C eX6_price_5 rfl ?_
    refine a_getI C eX6_price_6 fX6_26 sh_35 rfl ?_
    refine a_icmp_ge C eX6_price_9 (fun hc => ?_) (fun hc => ?_)
    · replace h := it hc h
      refine a_iload_n C eX6_price_34 rfl ?_
      exact rt_p R eX6_price_35 h nb_int
    · replace h := ie hc h
      refine a_iload_n C eX6_price_12 rfl ?_
      refine a_aload_n C eX6_price_13 rfl ?_
      refine a_getR C eX6_price_14 fX6_22 sh_35 rfl ?_
      refine a_aload_n C eX6_price_17 rfl ?_
      refine a_getR C eX6_price_18 fX6_9 sh_35 rfl ?_
      refine a_iload_n C eX6_price_21 rfl ?_
      obtain ⟨hb_3, h⟩ := gd h
      refine a_iald C eX6_price_22 sh_36 hb_3 ?_
      obtain ⟨r_4, hq, h⟩ := b1_e h
      refine a_cVi1 C eX6_price_23 wX6_39 ⟨Nat.le_of_ble_eq_true rfl, Nat.le_of_ble_eq_true rfl, rfl, rfl⟩ rfl sh_29 rfl (kX2_roundPrice hq) (Nat.le_of_ble_eq_true rfl) ?_
      refine a_iadd C eX6_price_26 ?_
      refine a_lt h (fun x1_5 h => ?_)
      refine a_ist_n C eX6_price_27 (Nat.le_of_ble_eq_true rfl) [some (.ref 35), some (.int x1_5), some (.int x2_2)] rfl ?_
      refine a_inc C eX6_price_28 rfl c_iconst_1 h (fun z => [some (.ref 35), some (.int x1_5), some (.int z)]) (fun _ => rfl) (fun x2_6 h => ?_)
      refine a_goto C eX6_price_31 ?_
      exact a_less (lle_same (lle_same (lle_same lle_nil))) (ih _ _ h)
theorem kX6_price {ext : List Shp} {σ : Sg} {rr : Int32}  (h : XX6_price σ = some rr) : Ci MX6_price [.ref 35] (SHc ++ ext) σ (rr, σ) := by
  refine Ci.start rfl rfl (Nat.le_of_ble_eq_true rfl) ?_
  intro X ad C R
  replace C : Cx X cX6_price 3 RX6 (some .int) { frames := 1, cells := 0, slots := 0, locals := 21 } := C
  replace R : Ri X cX6_price (some .int) ad (SHc ++ ext) (rr, σ) := R
  show AW X 0 0 ad (SHc ++ ext) σ 0 [some (.ref 35), none, none] []
  rw [XX6_price] at h
  refine a_iconst C eX6_price_0 (0 : Int32) c_iconst_0 ?_
  refine a_ist_n C eX6_price_1 (Nat.le_of_ble_eq_true rfl) [some (.ref 35), some (.int (0 : Int32)), none] rfl ?_
  refine a_iconst C eX6_price_2 (0 : Int32) c_iconst_0 ?_
  refine a_ist_n C eX6_price_3 (Nat.le_of_ble_eq_true rfl) [some (.ref 35), some (.int (0 : Int32)), some (.int (0 : Int32))] rfl ?_
  exact a_less (lle_same (lle_same (lle_same lle_nil))) (lX6_price_4  C R  _ _ _ h)
/-! ShelfDrives$Town.takeOver(LShelfDrives$Town;)V -/
def XX7_takeOver (σ : Sg) : Option Sg := lt (up σ 2 0 (σ 11 0)) (fun (σ_1 : Sg) => lt (up σ_1 2 1 (σ_1 11 1)) (fun (σ_2 : Sg) => lt (up σ_2 2 2 (σ_2 11 2)) (fun (σ_3 : Sg) => lt (up σ_3 2 3 (σ_3 11 3)) (fun (σ_4 : Sg) => lt (up σ_4 2 4 (σ_4 11 4)) (fun (σ_5 : Sg) => lt (up σ_5 2 5 (σ_5 11 5)) (fun (σ_6 : Sg) => lt (up σ_6 2 6 (σ_6 11 6)) (fun (σ_7 : Sg) => lt (up σ_7 2 7 (σ_7 11 7)) (fun (σ_8 : Sg) => lt (cpy σ_8 12 3 (0 : Int32).toNatClampNeg (0 : Int32).toNatClampNeg (7 : Int32).toNatClampNeg) (fun (σ_9 : Sg) => lt (cpy σ_9 13 4 (0 : Int32).toNatClampNeg (0 : Int32).toNatClampNeg (7 : Int32).toNatClampNeg) (fun (σ_10 : Sg) => lt (cpy σ_10 14 5 (0 : Int32).toNatClampNeg (0 : Int32).toNatClampNeg (6 : Int32).toNatClampNeg) (fun (σ_11 : Sg) => lt (cpy σ_11 15 6 (0 : Int32).toNatClampNeg (0 : Int32).toNatClampNeg (6 : Int32).toNatClampNeg) (fun (σ_12 : Sg) => lt (cpy σ_12 16 7 (0 : Int32).toNatClampNeg (0 : Int32).toNatClampNeg (84 : Int32).toNatClampNeg) (fun (σ_13 : Sg) => lt (cpy σ_13 17 8 (0 : Int32).toNatClampNeg (0 : Int32).toNatClampNeg (12 : Int32).toNatClampNeg) (fun (σ_14 : Sg) => lt (cpy σ_14 18 9 (0 : Int32).toNatClampNeg (0 : Int32).toNatClampNeg (12 : Int32).toNatClampNeg) (fun (σ_15 : Sg) => some σ_15)))))))))))))))
theorem kX7_takeOver {ext : List Shp} {σ : Sg} {rr : Sg}  (h : XX7_takeOver σ = some rr) : Cv MX7_takeOver [.ref 2, .ref 11] (SHc ++ ext) σ rr := by
  refine Cv.start rfl rfl (Nat.le_of_ble_eq_true rfl) rfl ?_
  intro X ad C R
  replace C : Cx X cX7_takeOver 2 RX7 none { frames := 1, cells := 0, slots := 0, locals := 26 } := C
  replace R : Rv X cX7_takeOver ad (SHc ++ ext) rr := R
  show AW X 0 0 ad (SHc ++ ext) σ 0 [some (.ref 2), some (.ref 11)] []
  rw [XX7_takeOver] at h
  refine a_aload_n C eX7_takeOver_0 rfl ?_
  refine a_aload_n C eX7_takeOver_1 rfl ?_
  refine a_getI C eX7_takeOver_2 fX7_36 sh_11 rfl ?_
  refine a_putIL C eX7_takeOver_5 fX7_36 ftyX7 rfl rfl sh_2 rfl h (fun σ_1 h => ?_)
  refine a_aload_n C eX7_takeOver_8 rfl ?_
  refine a_aload_n C eX7_takeOver_9 rfl ?_
  refine a_getI C eX7_takeOver_10 fX7_40 sh_11 rfl ?_
  refine a_putIL C eX7_takeOver_13 fX7_40 ftyX7 rfl rfl sh_2 rfl h (fun σ_2 h => ?_)
  refine a_aload_n C eX7_takeOver_16 rfl ?_
  refine a_aload_n C eX7_takeOver_17 rfl ?_
  refine a_getI C eX7_takeOver_18 fX7_43 sh_11 rfl ?_
  refine a_putIL C eX7_takeOver_21 fX7_43 ftyX7 rfl rfl sh_2 rfl h (fun σ_3 h => ?_)
  refine a_aload_n C eX7_takeOver_24 rfl ?_
  refine a_aload_n C eX7_takeOver_25 rfl ?_
  refine a_getI C eX7_takeOver_26 fX7_46 sh_11 rfl ?_
  refine a_putIL C eX7_takeOver_29 fX7_46 ftyX7 rfl rfl sh_2 rfl h (fun σ_4 h => ?_)
  refine a_aload_n C eX7_takeOver_32 rfl ?_
  refine a_aload_n C eX7_takeOver_33 rfl ?_
  refine a_getI C eX7_takeOver_34 fX7_49 sh_11 rfl ?_
  refine a_putIL C eX7_takeOver_37 fX7_49 ftyX7 rfl rfl sh_2 rfl h (fun σ_5 h => ?_)
  refine a_aload_n C eX7_takeOver_40 rfl ?_
  refine a_aload_n C eX7_takeOver_41 rfl ?_
  refine a_getI C eX7_takeOver_42 fX7_52 sh_11 rfl ?_
  refine a_putIL C eX7_takeOver_45 fX7_52 ftyX7 rfl rfl sh_2 rfl h (fun σ_6 h => ?_)
  refine a_aload_n C eX7_takeOver_48 rfl ?_
  refine a_aload_n C eX7_takeOver_49 rfl ?_
  refine a_getI C eX7_takeOver_50 fX7_55 sh_11 rfl ?_
  refine a_putIL C eX7_takeOver_53 fX7_55 ftyX7 rfl rfl sh_2 rfl h (fun σ_7 h => ?_)
  refine a_aload_n C eX7_takeOver_56 rfl ?_
  refine a_aload_n C eX7_takeOver_57 rfl ?_
  refine a_getI C eX7_takeOver_58 fX7_58 sh_11 rfl ?_
  refine a_putIL C eX7_takeOver_61 fX7_58 ftyX7 rfl rfl sh_2 rfl h (fun σ_8 h => ?_)
  refine a_aload_n C eX7_takeOver_64 rfl ?_
  refine a_getR C eX7_takeOver_65 fX7_9 sh_11 rfl ?_
  refine a_iconst C eX7_takeOver_68 (0 : Int32) c_iconst_0 ?_
  refine a_aload_n C eX7_takeOver_69 rfl ?_
  refine a_getR C eX7_takeOver_70 fX7_9 sh_2 rfl ?_
  refine a_iconst C eX7_takeOver_73 (0 : Int32) c_iconst_0 ?_
  refine a_bipush C eX7_takeOver_74 (7 : Int32) c_bipush_7 ?_
  refine a_acopy C eX7_takeOver_76 wX7_67 ⟨Nat.le_of_ble_eq_true rfl, Nat.le_of_ble_eq_true rfl⟩ rfl (Nat.le_of_ble_eq_true rfl) sh_12 sh_3 ⟨by decide, by decide, by decide, by decide, by decide⟩ h (fun σ_9 h => ?_)
  refine a_aload_n C eX7_takeOver_79 rfl ?_
  refine a_getR C eX7_takeOver_80 fX7_15 sh_11 rfl ?_
  refine a_iconst C eX7_takeOver_83 (0 : Int32) c_iconst_0 ?_
  refine a_aload_n C eX7_takeOver_84 rfl ?_
  refine a_getR C eX7_takeOver_85 fX7_15 sh_2 rfl ?_
  refine a_iconst C eX7_takeOver_88 (0 : Int32) c_iconst_0 ?_
  refine a_bipush C eX7_takeOver_89 (7 : Int32) c_bipush_7 ?_
  refine a_acopy C eX7_takeOver_91 wX7_67 ⟨Nat.le_of_ble_eq_true rfl, Nat.le_of_ble_eq_true rfl⟩ rfl (Nat.le_of_ble_eq_true rfl) sh_13 sh_4 ⟨by decide, by decide, by decide, by decide, by decide⟩ h (fun σ_10 h => ?_)
  refine a_aload_n C eX7_takeOver_94 rfl ?_
  refine a_getR C eX7_takeOver_95 fX7_18 sh_11 rfl ?_
  refine a_iconst C eX7_takeOver_98 (0 : Int32) c_iconst_0 ?_
  refine a_aload_n C eX7_takeOver_99 rfl ?_
  refine a_getR C eX7_takeOver_100 fX7_18 sh_2 rfl ?_
  refine a_iconst C eX7_takeOver_103 (0 : Int32) c_iconst_0 ?_
  refine a_bipush C eX7_takeOver_104 (6 : Int32) c_bipush_6 ?_
  refine a_acopy C eX7_takeOver_106 wX7_67 ⟨Nat.le_of_ble_eq_true rfl, Nat.le_of_ble_eq_true rfl⟩ rfl (Nat.le_of_ble_eq_true rfl) sh_14 sh_5 ⟨by decide, by decide, by decide, by decide, by decide⟩ h (fun σ_11 h => ?_)
  refine a_aload_n C eX7_takeOver_109 rfl ?_
  refine a_getR C eX7_takeOver_110 fX7_21 sh_11 rfl ?_
  refine a_iconst C eX7_takeOver_113 (0 : Int32) c_iconst_0 ?_
  refine a_aload_n C eX7_takeOver_114 rfl ?_
  refine a_getR C eX7_takeOver_115 fX7_21 sh_2 rfl ?_
  refine a_iconst C eX7_takeOver_118 (0 : Int32) c_iconst_0 ?_
  refine a_bipush C eX7_takeOver_119 (6 : Int32) c_bipush_6 ?_
  refine a_acopy C eX7_takeOver_121 wX7_67 ⟨Nat.le_of_ble_eq_true rfl, Nat.le_of_ble_eq_true rfl⟩ rfl (Nat.le_of_ble_eq_true rfl) sh_15 sh_6 ⟨by decide, by decide, by decide, by decide, by decide⟩ h (fun σ_12 h => ?_)
  refine a_aload_n C eX7_takeOver_124 rfl ?_
  refine a_getR C eX7_takeOver_125 fX7_24 sh_11 rfl ?_
  refine a_iconst C eX7_takeOver_128 (0 : Int32) c_iconst_0 ?_
  refine a_aload_n C eX7_takeOver_129 rfl ?_
  refine a_getR C eX7_takeOver_130 fX7_24 sh_2 rfl ?_
  refine a_iconst C eX7_takeOver_133 (0 : Int32) c_iconst_0 ?_
  refine a_bipush C eX7_takeOver_134 (84 : Int32) c_bipush_84 ?_
  refine a_acopy C eX7_takeOver_136 wX7_67 ⟨Nat.le_of_ble_eq_true rfl, Nat.le_of_ble_eq_true rfl⟩ rfl (Nat.le_of_ble_eq_true rfl) sh_16 sh_7 ⟨by decide, by decide, by decide, by decide, by decide⟩ h (fun σ_13 h => ?_)
  refine a_aload_n C eX7_takeOver_139 rfl ?_
  refine a_getR C eX7_takeOver_140 fX7_27 sh_11 rfl ?_
  refine a_iconst C eX7_takeOver_143 (0 : Int32) c_iconst_0 ?_
  refine a_aload_n C eX7_takeOver_144 rfl ?_
  refine a_getR C eX7_takeOver_145 fX7_27 sh_2 rfl ?_
  refine a_iconst C eX7_takeOver_148 (0 : Int32) c_iconst_0 ?_
  refine a_bipush C eX7_takeOver_149 (12 : Int32) c_bipush_12 ?_
  refine a_acopy C eX7_takeOver_151 wX7_67 ⟨Nat.le_of_ble_eq_true rfl, Nat.le_of_ble_eq_true rfl⟩ rfl (Nat.le_of_ble_eq_true rfl) sh_17 sh_8 ⟨by decide, by decide, by decide, by decide, by decide⟩ h (fun σ_14 h => ?_)
  refine a_aload_n C eX7_takeOver_154 rfl ?_
  refine a_getR C eX7_takeOver_155 fX7_30 sh_11 rfl ?_
  refine a_iconst C eX7_takeOver_158 (0 : Int32) c_iconst_0 ?_
  refine a_aload_n C eX7_takeOver_159 rfl ?_
  refine a_getR C eX7_takeOver_160 fX7_30 sh_2 rfl ?_
  refine a_iconst C eX7_takeOver_163 (0 : Int32) c_iconst_0 ?_
  refine a_bipush C eX7_takeOver_164 (12 : Int32) c_bipush_12 ?_
  refine a_acopy C eX7_takeOver_166 wX7_67 ⟨Nat.le_of_ble_eq_true rfl, Nat.le_of_ble_eq_true rfl⟩ rfl (Nat.le_of_ble_eq_true rfl) sh_18 sh_9 ⟨by decide, by decide, by decide, by decide, by decide⟩ h (fun σ_15 h => ?_)
  exact rt_v R eX7_takeOver_169 h
/-! ShelfDrives$Town.hasShop(I)Z -/
def XX7_hasShop (p1 : Int32) (σ : Sg) : Option Int32 := lt (some (0 : Int32)) (fun (k16_1 : Option Int32) => if p1 < 0 then (k16_1) else (if (σ 2 6) ≤ p1 then (k16_1) else (some (1 : Int32))))
theorem kX7_hasShop {ext : List Shp} {p1 : Int32} {σ : Sg} {rr : Int32}  (h : XX7_hasShop p1 σ = some rr) : Ci MX7_hasShop [.ref 2, .int p1] (SHc ++ ext) σ (rr, σ) := by
  refine Ci.start rfl rfl (Nat.le_of_ble_eq_true rfl) ?_
  intro X ad C R
  replace C : Cx X cX7_hasShop 2 RX7 (some .boolean) { frames := 0, cells := 0, slots := 0, locals := 0 } := C
  replace R : Ri X cX7_hasShop (some .boolean) ad (SHc ++ ext) (rr, σ) := R
  show AW X 0 0 ad (SHc ++ ext) σ 0 [some (.ref 2), some (.int p1)] []
  rw [XX7_hasShop] at h
  refine a_iload_n C eX7_hasShop_0 rfl ?_
  refine jn (fun (kk : Option Int32) => kk = some rr → AW X 0 0 ad (SHc ++ ext) σ 16 [none, none] []) h ?_ (fun k16_1 hk16_1 h => ?_)
  · intro h
    refine a_iconst C eX7_hasShop_16 (0 : Int32) c_iconst_0 ?_
    exact rt_p R eX7_hasShop_17 h nb_0
  refine a_if_lt C eX7_hasShop_1 (fun hc => ?_) (fun hc => ?_)
  · replace h := it hc h
    exact a_less (lle_drop (lle_drop lle_nil)) (hk16_1 h)
  · replace h := ie hc h
    refine a_iload_n C eX7_hasShop_4 rfl ?_
    refine a_aload_n C eX7_hasShop_5 rfl ?_
    refine a_getI C eX7_hasShop_6 fX7_55 sh_2 rfl ?_
    refine a_icmp_ge C eX7_hasShop_9 (fun hc => ?_) (fun hc => ?_)
    · replace h := it hc h
      exact a_less (lle_drop (lle_drop lle_nil)) (hk16_1 h)
    · replace h := ie hc h
      refine a_iconst C eX7_hasShop_12 (1 : Int32) c_iconst_1 ?_
      refine a_goto C eX7_hasShop_13 ?_
      exact rt_p R eX7_hasShop_17 h nb_1
/-! ShelfDrives$Town.keepRushes(I)V -/
def LX7_keepRushes_0 (p1 : Int32) : Nat → Sg → Option Sg
  | 0, _ => none
  | n + 1, σ_1 => if (σ_1 2 7) ≤ p1 then (some σ_1) else (if (σ_1 2 7) ≤ 0 then (some σ_1) else (lt (up σ_1 2 7 ((σ_1 2 7) - (1 : Int32))) (fun (σ_2 : Sg) => if ib (σ_2 2 7) 12 then lt (σ_2 8 (σ_2 2 7).toNatClampNeg) (fun (d_4 : Int32) => if ib d_4 84 then lt (up σ_2 7 d_4.toNatClampNeg ((σ_2 7 d_4.toNatClampNeg) - (σ_2 9 (σ_2 2 7).toNatClampNeg))) (fun (σ_6 : Sg) => LX7_keepRushes_0 p1 n σ_6) else none) else none)))
def XX7_keepRushes (p1 : Int32) (σ : Sg) : Option Sg := LX7_keepRushes_0 p1 FUEL σ
theorem lX7_keepRushes_0 {ext : List Shp} {X : CT} {ad : Nat → Nat} {rr : Sg} {p1 : Int32}  (C : Cx X cX7_keepRushes 2 RX7 none { frames := 0, cells := 0, slots := 0, locals := 0 }) (R : Rv X cX7_keepRushes ad (SHc ++ ext) rr)  : ∀ (n : Nat) (σ_1 : Sg), LX7_keepRushes_0 p1 n σ_1 = some rr → AW X 0 0 ad (SHc ++ ext) σ_1 0 [some (.ref 2), some (.int p1)] [] := by
  intro n
  induction n with
  | zero =>
    intro σ_1 h
    rw [LX7_keepRushes_0] at h
    cases h
  | succ n ih =>
    intro σ_1 h
    rw [LX7_keepRushes_0] at h
    refine a_aload_n C eX7_keepRushes_0 rfl ?_
    refine a_getI C eX7_keepRushes_1 fX7_58 sh_2 rfl ?_
    refine a_iload_n C eX7_keepRushes_4 rfl ?_
    refine a_icmp_le C eX7_keepRushes_5 (fun hc => ?_) (fun hc => ?_)
    · replace h := it hc h
      exact rt_v R eX7_keepRushes_54 h
    · replace h := ie hc h
      refine a_aload_n C eX7_keepRushes_8 rfl ?_
      refine a_getI C eX7_keepRushes_9 fX7_58 sh_2 rfl ?_
      refine a_if_le C eX7_keepRushes_12 (fun hc => ?_) (fun hc => ?_)
      · replace h := it hc h
        exact rt_v R eX7_keepRushes_54 h
      · replace h := ie hc h
        refine a_aload_n C eX7_keepRushes_15 rfl ?_
        refine a_dup C eX7_keepRushes_16 rfl ?_
        refine a_getI C eX7_keepRushes_17 fX7_58 sh_2 rfl ?_
        refine a_iconst C eX7_keepRushes_20 (1 : Int32) c_iconst_1 ?_
        refine a_isub C eX7_keepRushes_21 ?_
        refine a_putIL C eX7_keepRushes_22 fX7_58 ftyX7 rfl rfl sh_2 rfl h (fun σ_2 h => ?_)
        refine a_aload_n C eX7_keepRushes_25 rfl ?_
        refine a_getR C eX7_keepRushes_26 fX7_24 sh_2 rfl ?_
        refine a_aload_n C eX7_keepRushes_29 rfl ?_
        refine a_getR C eX7_keepRushes_30 fX7_27 sh_2 rfl ?_
        refine a_aload_n C eX7_keepRushes_33 rfl ?_
        refine a_getI C eX7_keepRushes_34 fX7_58 sh_2 rfl ?_
        obtain ⟨hb_3, h⟩ := gd h
        refine a_iald C eX7_keepRushes_37 sh_8 hb_3 ?_
        refine a_lt h (fun d_4 h => ?_)
        refine a_dup2 C eX7_keepRushes_38 rfl rfl ?_
        obtain ⟨hb_5, h⟩ := gd h
        refine a_iald C eX7_keepRushes_39 sh_7 hb_5 ?_
        refine a_aload_n C eX7_keepRushes_40 rfl ?_
        refine a_getR C eX7_keepRushes_41 fX7_30 sh_2 rfl ?_
        refine a_aload_n C eX7_keepRushes_44 rfl ?_
        refine a_getI C eX7_keepRushes_45 fX7_58 sh_2 rfl ?_
        refine a_iald C eX7_keepRushes_48 sh_9 hb_3 ?_
        refine a_isub C eX7_keepRushes_49 ?_
        refine a_iastL C eX7_keepRushes_50 sh_7 hb_5 h (fun σ_6 h => ?_)
        refine a_goto C eX7_keepRushes_51 ?_
        exact a_less (lle_same (lle_same lle_nil)) (ih _ h)
theorem kX7_keepRushes {ext : List Shp} {p1 : Int32} {σ : Sg} {rr : Sg}  (h : XX7_keepRushes p1 σ = some rr) : Cv MX7_keepRushes [.ref 2, .int p1] (SHc ++ ext) σ rr := by
  refine Cv.start rfl rfl (Nat.le_of_ble_eq_true rfl) rfl ?_
  intro X ad C R
  replace C : Cx X cX7_keepRushes 2 RX7 none { frames := 0, cells := 0, slots := 0, locals := 0 } := C
  replace R : Rv X cX7_keepRushes ad (SHc ++ ext) rr := R
  show AW X 0 0 ad (SHc ++ ext) σ 0 [some (.ref 2), some (.int p1)] []
  rw [XX7_keepRushes] at h
  exact a_less (lle_same (lle_same lle_nil)) (lX7_keepRushes_0  C R  _ _ h)
/-! ShelfDrives$Ways.between(II)I -/
def XX8_between (p1 : Int32) (p2 : Int32) (σ : Sg) : Option Int32 := if ib ((p1 * (7 : Int32)) + p2) 49 then some (σ 27 ((p1 * (7 : Int32)) + p2).toNatClampNeg) else none
theorem kX8_between {ext : List Shp} {p1 : Int32} {p2 : Int32} {σ : Sg} {rr : Int32}  (h : XX8_between p1 p2 σ = some rr) : Ci MX8_between [.ref 25, .int p1, .int p2] (SHc ++ ext) σ (rr, σ) := by
  refine Ci.start rfl rfl (Nat.le_of_ble_eq_true rfl) ?_
  intro X ad C R
  replace C : Cx X cX8_between 3 RX8 (some .int) { frames := 0, cells := 0, slots := 0, locals := 0 } := C
  replace R : Ri X cX8_between (some .int) ad (SHc ++ ext) (rr, σ) := R
  show AW X 0 0 ad (SHc ++ ext) σ 0 [some (.ref 25), some (.int p1), some (.int p2)] []
  rw [XX8_between] at h
  refine a_aload_n C eX8_between_0 rfl ?_
  refine a_getR C eX8_between_1 fX8_15 sh_25 rfl ?_
  refine a_iload_n C eX8_between_4 rfl ?_
  refine a_bipush C eX8_between_5 (7 : Int32) c_bipush_7 ?_
  refine a_imul C eX8_between_7 ?_
  refine a_iload_n C eX8_between_8 rfl ?_
  refine a_iadd C eX8_between_9 ?_
  obtain ⟨hb_1, h⟩ := gd h
  refine a_iald C eX8_between_10 sh_27 hb_1 ?_
  exact rt_p R eX8_between_11 h nb_int
/-! ShelfDrives$Ways.milesBy(III)I -/
def XX8_milesBy (p1 : Int32) (p2 : Int32) (p3 : Int32) (σ : Sg) : Option Int32 := b1 (XX8_between p2 p3 σ) (fun (r_1 : Int32) => if ib (((p1 ^^^ ((1 : Int32) <<< (p3 &&& 31))) * (7 : Int32)) + p3) 448 then some (r_1 + (σ 28 (((p1 ^^^ ((1 : Int32) <<< (p3 &&& 31))) * (7 : Int32)) + p3).toNatClampNeg)) else none)
theorem kX8_milesBy {ext : List Shp} {p1 : Int32} {p2 : Int32} {p3 : Int32} {σ : Sg} {rr : Int32}  (h : XX8_milesBy p1 p2 p3 σ = some rr) : Ci MX8_milesBy [.ref 25, .int p1, .int p2, .int p3] (SHc ++ ext) σ (rr, σ) := by
  refine Ci.start rfl rfl (Nat.le_of_ble_eq_true rfl) ?_
  intro X ad C R
  replace C : Cx X cX8_milesBy 4 RX8 (some .int) { frames := 1, cells := 0, slots := 0, locals := 22 } := C
  replace R : Ri X cX8_milesBy (some .int) ad (SHc ++ ext) (rr, σ) := R
  show AW X 0 0 ad (SHc ++ ext) σ 0 [some (.ref 25), some (.int p1), some (.int p2), some (.int p3)] []
  rw [XX8_milesBy] at h
  refine a_aload_n C eX8_milesBy_0 rfl ?_
  refine a_iload_n C eX8_milesBy_1 rfl ?_
  refine a_iload_n C eX8_milesBy_2 rfl ?_
  obtain ⟨r_1, hq, h⟩ := b1_e h
  refine a_cVi2 C eX8_milesBy_3 wX8_51 ⟨Nat.le_of_ble_eq_true rfl, Nat.le_of_ble_eq_true rfl, rfl, rfl⟩ rfl sh_25 rfl (kX8_between hq) (Nat.le_of_ble_eq_true rfl) ?_
  refine a_aload_n C eX8_milesBy_6 rfl ?_
  refine a_getR C eX8_milesBy_7 fX8_18 sh_25 rfl ?_
  refine a_iload_n C eX8_milesBy_10 rfl ?_
  refine a_iconst C eX8_milesBy_11 (1 : Int32) c_iconst_1 ?_
  refine a_iload_n C eX8_milesBy_12 rfl ?_
  refine a_ishl C eX8_milesBy_13 ?_
  refine a_ixor C eX8_milesBy_14 ?_
  refine a_bipush C eX8_milesBy_15 (7 : Int32) c_bipush_7 ?_
  refine a_imul C eX8_milesBy_17 ?_
  refine a_iload_n C eX8_milesBy_18 rfl ?_
  refine a_iadd C eX8_milesBy_19 ?_
  obtain ⟨hb_2, h⟩ := gd h
  refine a_iald C eX8_milesBy_20 sh_28 hb_2 ?_
  refine a_iadd C eX8_milesBy_21 ?_
  exact rt_p R eX8_milesBy_22 h nb_int
/-! ShelfDrives$Ways.leastRest(II)I -/
def LX8_leastRest_18 (p1 : Int32) (p2 : Int32) (σ : Sg) : Nat → Int32 → Int32 → Option Int32
  | 0, _, _ => none
  | n + 1, x3_1, x4_2 => if (σ 25 3) ≤ x4_2 then (some x3_1) else (lt (fun (x3_3 : Int32) => lt (x4_2 + (1 : Int32)) (fun (x4_5 : Int32) => LX8_leastRest_18 p1 p2 σ n x3_3 x4_5)) (fun (k50_4 : Int32 → Option Int32) => if ((p1 >>> (x4_2 &&& 31)) &&& (1 : Int32)) = (1 : Int32) then (b1 (XX8_milesBy p1 p2 x4_2 σ) (fun (r_6 : Int32) => lt (if r_6 < x3_1 then r_6 else x3_1) (fun (x3_7 : Int32) => k50_4 x3_7))) else (k50_4 x3_1)))
def XX8_leastRest (p1 : Int32) (p2 : Int32) (σ : Sg) : Option Int32 := if p1 = 0 then (b1 (XX8_between p2 (6 : Int32) σ) (fun (r_8 : Int32) => some r_8)) else (LX8_leastRest_18 p1 p2 σ FUEL (1000000000 : Int32) (0 : Int32))
theorem lX8_leastRest_18 {ext : List Shp} {X : CT} {ad : Nat → Nat} {rr : Int32} {p1 : Int32} {p2 : Int32} {σ : Sg}  (C : Cx X cX8_leastRest 5 RX8 (some .int) { frames := 2, cells := 0, slots := 0, locals := 45 }) (R : Ri X cX8_leastRest (some .int) ad (SHc ++ ext) (rr, σ))  : ∀ (n : Nat) (x3_1 : Int32) (x4_2 : Int32), LX8_leastRest_18 p1 p2 σ n x3_1 x4_2 = some rr → AW X 0 0 ad (SHc ++ ext) σ 18 [some (.ref 25), some (.int p1), some (.int p2), some (.int x3_1), some (.int x4_2)] [] := by
  intro n
  induction n with
  | zero =>
    intro x3_1 x4_2 h
    rw [LX8_leastRest_18] at h
    cases h
  | succ n ih =>
    intro x3_1 x4_2 h
    rw [LX8_leastRest_18] at h
    refine a_iload C eX8_leastRest_18 rfl ?_
    refine a_aload_n C eX8_leastRest_20 rfl ?_
    refine a_getI C eX8_leastRest_21 fX8_27 sh_25 rfl ?_
    refine a_icmp_ge C eX8_leastRest_24 (fun hc => ?_) (fun hc => ?_)
    · replace h := it hc h
      refine a_iload_n C eX8_leastRest_56 rfl ?_
      exact rt_p R eX8_leastRest_57 h nb_int
    · replace h := ie hc h
      refine a_iload_n C eX8_leastRest_27 rfl ?_
      refine a_iload C eX8_leastRest_28 rfl ?_
      refine a_ishr C eX8_leastRest_30 ?_
      refine a_iconst C eX8_leastRest_31 (1 : Int32) c_iconst_1 ?_
      refine a_iand C eX8_leastRest_32 ?_
      refine a_iconst C eX8_leastRest_33 (1 : Int32) c_iconst_1 ?_
      refine jn (fun (kk : Int32 → Option Int32) => ∀ (x3_3 : Int32), kk x3_3 = some rr → AW X 0 0 ad (SHc ++ ext) σ 50 [some (.ref 25), some (.int p1), some (.int p2), some (.int x3_3), some (.int x4_2)] []) h ?_ (fun k50_4 hk50_4 h => ?_)
      · intro x3_3 h
        refine a_inc C eX8_leastRest_50 rfl c_iconst_1 h (fun z => [some (.ref 25), some (.int p1), some (.int p2), some (.int x3_3), some (.int z)]) (fun _ => rfl) (fun x4_5 h => ?_)
        refine a_goto C eX8_leastRest_53 ?_
        exact a_less (lle_same (lle_same (lle_same (lle_same (lle_same lle_nil))))) (ih _ _ h)
      refine a_icmp_ne C eX8_leastRest_34 (fun hc => ?_) (fun hc => ?_)
      · replace h := ie hc h
        exact a_less (lle_same (lle_same (lle_same (lle_same (lle_same lle_nil))))) (hk50_4 _ h)
      · replace h := it hc h
        refine a_iload_n C eX8_leastRest_37 rfl ?_
        refine a_aload_n C eX8_leastRest_38 rfl ?_
        refine a_iload_n C eX8_leastRest_39 rfl ?_
        refine a_iload_n C eX8_leastRest_40 rfl ?_
        refine a_iload C eX8_leastRest_41 rfl ?_
        obtain ⟨r_6, hq, h⟩ := b1_e h
        refine a_cVi3 C eX8_leastRest_43 wX8_47 ⟨Nat.le_of_ble_eq_true rfl, Nat.le_of_ble_eq_true rfl, rfl, rfl⟩ rfl sh_25 rfl (kX8_milesBy hq) (Nat.le_of_ble_eq_true rfl) ?_
        refine a_min C eX8_leastRest_46 wX8_55 ⟨Nat.le_of_ble_eq_true rfl, Nat.le_of_ble_eq_true rfl⟩ rfl (Nat.le_of_ble_eq_true rfl) ?_
        refine a_lt h (fun x3_7 h => ?_)
        refine a_ist_n C eX8_leastRest_49 (Nat.le_of_ble_eq_true rfl) [some (.ref 25), some (.int p1), some (.int p2), some (.int x3_7), some (.int x4_2)] rfl ?_
        exact a_less (lle_same (lle_same (lle_same (lle_same (lle_same lle_nil))))) (hk50_4 _ h)
theorem kX8_leastRest {ext : List Shp} {p1 : Int32} {p2 : Int32} {σ : Sg} {rr : Int32}  (h : XX8_leastRest p1 p2 σ = some rr) : Ci MX8_leastRest [.ref 25, .int p1, .int p2] (SHc ++ ext) σ (rr, σ) := by
  refine Ci.start rfl rfl (Nat.le_of_ble_eq_true rfl) ?_
  intro X ad C R
  replace C : Cx X cX8_leastRest 5 RX8 (some .int) { frames := 2, cells := 0, slots := 0, locals := 45 } := C
  replace R : Ri X cX8_leastRest (some .int) ad (SHc ++ ext) (rr, σ) := R
  show AW X 0 0 ad (SHc ++ ext) σ 0 [some (.ref 25), some (.int p1), some (.int p2), none, none] []
  rw [XX8_leastRest] at h
  refine a_iload_n C eX8_leastRest_0 rfl ?_
  refine a_if_ne C eX8_leastRest_1 (fun hc => ?_) (fun hc => ?_)
  · replace h := ie hc h
    refine a_ldc C eX8_leastRest_12 (1000000000 : Int32) wkX8_54 ?_
    refine a_ist_n C eX8_leastRest_14 (Nat.le_of_ble_eq_true rfl) [some (.ref 25), some (.int p1), some (.int p2), some (.int (1000000000 : Int32)), none] rfl ?_
    refine a_iconst C eX8_leastRest_15 (0 : Int32) c_iconst_0 ?_
    refine a_ist C eX8_leastRest_16 (Nat.le_of_ble_eq_true rfl) [some (.ref 25), some (.int p1), some (.int p2), some (.int (1000000000 : Int32)), some (.int (0 : Int32))] rfl ?_
    exact a_less (lle_same (lle_same (lle_same (lle_same (lle_same lle_nil))))) (lX8_leastRest_18  C R  _ _ _ h)
  · replace h := it hc h
    refine a_aload_n C eX8_leastRest_4 rfl ?_
    refine a_iload_n C eX8_leastRest_5 rfl ?_
    refine a_bipush C eX8_leastRest_6 (6 : Int32) c_bipush_6 ?_
    obtain ⟨r_8, hq, h⟩ := b1_e h
    refine a_cVi2 C eX8_leastRest_8 wX8_51 ⟨Nat.le_of_ble_eq_true rfl, Nat.le_of_ble_eq_true rfl, rfl, rfl⟩ rfl sh_25 rfl (kX8_between hq) (Nat.le_of_ble_eq_true rfl) ?_
    exact rt_p R eX8_leastRest_11 h nb_int
/-! ShelfDrives$Ways.measure(LShelfDrives$Town;)V -/
def LX8_measure_94 (x2_4 : Int32) (k123_7 : Sg → Option Sg) : Nat → Int32 → Sg → Option Sg
  | 0, _, _ => none
  | n + 1, x3_9, σ_10 => if (7 : Int32) ≤ x3_9 then (k123_7 σ_10) else (b1 (XX8_leastRest x2_4 x3_9 σ_10) (fun (r_11 : Int32) => if ib ((x2_4 * (7 : Int32)) + x3_9) 448 then lt (up σ_10 28 ((x2_4 * (7 : Int32)) + x3_9).toNatClampNeg r_11) (fun (σ_12 : Sg) => lt (x3_9 + (1 : Int32)) (fun (x3_14 : Int32) => LX8_measure_94 x2_4 k123_7 n x3_14 σ_12)) else none))
def LX8_measure_82 : Nat → Int32 → Sg → Option Sg
  | 0, _, _ => none
  | n + 1, x2_4, σ_5 => if ((1 : Int32) <<< ((σ_5 25 3) &&& 31)) ≤ x2_4 then (some σ_5) else (lt (fun (σ_6 : Sg) => lt (x2_4 + (1 : Int32)) (fun (x2_8 : Int32) => LX8_measure_82 n x2_8 σ_6)) (fun (k123_7 : Sg → Option Sg) => LX8_measure_94 x2_4 k123_7 FUEL (0 : Int32) σ_5))
def LX8_measure_18 (x2_15 : Int32) (k74_18 : Sg → Option Sg) : Nat → Int32 → Sg → Option Sg
  | 0, _, _ => none
  | n + 1, x3_20, σ_21 => if (7 : Int32) ≤ x3_20 then (k74_18 σ_21) else (if ib x2_15 7 then if ib x3_20 7 then if ib ((x2_15 * (7 : Int32)) + x3_20) 49 then lt (up σ_21 27 ((x2_15 * (7 : Int32)) + x3_20).toNatClampNeg ((if 0 ≤ ((σ_21 3 x2_15.toNatClampNeg) - (σ_21 3 x3_20.toNatClampNeg)) then ((σ_21 3 x2_15.toNatClampNeg) - (σ_21 3 x3_20.toNatClampNeg)) else 0 - ((σ_21 3 x2_15.toNatClampNeg) - (σ_21 3 x3_20.toNatClampNeg))) + (if 0 ≤ ((σ_21 4 x2_15.toNatClampNeg) - (σ_21 4 x3_20.toNatClampNeg)) then ((σ_21 4 x2_15.toNatClampNeg) - (σ_21 4 x3_20.toNatClampNeg)) else 0 - ((σ_21 4 x2_15.toNatClampNeg) - (σ_21 4 x3_20.toNatClampNeg))))) (fun (σ_24 : Sg) => lt (x3_20 + (1 : Int32)) (fun (x3_26 : Int32) => LX8_measure_18 x2_15 k74_18 n x3_26 σ_24)) else none else none else none)
def LX8_measure_10 (k80_3 : Sg → Option Sg) : Nat → Int32 → Sg → Option Sg
  | 0, _, _ => none
  | n + 1, x2_15, σ_16 => if (7 : Int32) ≤ x2_15 then (k80_3 σ_16) else (lt (fun (σ_17 : Sg) => lt (x2_15 + (1 : Int32)) (fun (x2_19 : Int32) => LX8_measure_10 k80_3 n x2_19 σ_17)) (fun (k74_18 : Sg → Option Sg) => LX8_measure_18 x2_15 k74_18 FUEL (0 : Int32) σ_16))
def XX8_measure (σ : Sg) : Option Sg := lt (up σ 25 3 (σ 2 6)) (fun (σ_1 : Sg) => lt (fun (σ_2 : Sg) => LX8_measure_82 FUEL (0 : Int32) σ_2) (fun (k80_3 : Sg → Option Sg) => LX8_measure_10 k80_3 FUEL (0 : Int32) σ_1))
theorem lX8_measure_94 {ext : List Shp} {X : CT} {ad : Nat → Nat} {rr : Sg} {x2_4 : Int32} {k123_7 : Sg → Option Sg}  (C : Cx X cX8_measure 4 RX8 none { frames := 3, cells := 0, slots := 0, locals := 69 }) (R : Rv X cX8_measure ad (SHc ++ ext) rr) (hk123_7 : ∀ (σ_6 : Sg), k123_7 σ_6 = some rr → AW X 0 0 ad (SHc ++ ext) σ_6 123 [some (.ref 25), none, some (.int x2_4), none] []) : ∀ (n : Nat) (x3_9 : Int32) (σ_10 : Sg), LX8_measure_94 x2_4 k123_7 n x3_9 σ_10 = some rr → AW X 0 0 ad (SHc ++ ext) σ_10 94 [some (.ref 25), none, some (.int x2_4), some (.int x3_9)] [] := by
  intro n
  induction n with
  | zero =>
    intro x3_9 σ_10 h
    rw [LX8_measure_94] at h
    cases h
  | succ n ih =>
    intro x3_9 σ_10 h
    rw [LX8_measure_94] at h
    refine a_iload_n C eX8_measure_94 rfl ?_
    refine a_bipush C eX8_measure_95 (7 : Int32) c_bipush_7 ?_
    refine a_icmp_ge C eX8_measure_97 (fun hc => ?_) (fun hc => ?_)
    · replace h := it hc h
      exact a_less (lle_same (lle_same (lle_same (lle_drop lle_nil)))) (hk123_7 _ h)
    · replace h := ie hc h
      refine a_aload_n C eX8_measure_100 rfl ?_
      refine a_getR C eX8_measure_101 fX8_18 sh_25 rfl ?_
      refine a_iload_n C eX8_measure_104 rfl ?_
      refine a_bipush C eX8_measure_105 (7 : Int32) c_bipush_7 ?_
      refine a_imul C eX8_measure_107 ?_
      refine a_iload_n C eX8_measure_108 rfl ?_
      refine a_iadd C eX8_measure_109 ?_
      refine a_aload_n C eX8_measure_110 rfl ?_
      refine a_iload_n C eX8_measure_111 rfl ?_
      refine a_iload_n C eX8_measure_112 rfl ?_
      obtain ⟨r_11, hq, h⟩ := b1_e h
      refine a_cVi2 C eX8_measure_113 wX8_40 ⟨Nat.le_of_ble_eq_true rfl, Nat.le_of_ble_eq_true rfl, rfl, rfl⟩ rfl sh_25 rfl (kX8_leastRest hq) (Nat.le_of_ble_eq_true rfl) ?_
      obtain ⟨hb_13, h⟩ := gd h
      refine a_iastL C eX8_measure_116 sh_28 hb_13 h (fun σ_12 h => ?_)
      refine a_inc C eX8_measure_117 rfl c_iconst_1 h (fun z => [some (.ref 25), none, some (.int x2_4), some (.int z)]) (fun _ => rfl) (fun x3_14 h => ?_)
      refine a_goto C eX8_measure_120 ?_
      exact a_less (lle_same (lle_same (lle_same (lle_same lle_nil)))) (ih _ _ h)
theorem lX8_measure_82 {ext : List Shp} {X : CT} {ad : Nat → Nat} {rr : Sg}   (C : Cx X cX8_measure 4 RX8 none { frames := 3, cells := 0, slots := 0, locals := 69 }) (R : Rv X cX8_measure ad (SHc ++ ext) rr)  : ∀ (n : Nat) (x2_4 : Int32) (σ_5 : Sg), LX8_measure_82 n x2_4 σ_5 = some rr → AW X 0 0 ad (SHc ++ ext) σ_5 82 [some (.ref 25), none, some (.int x2_4), none] [] := by
  intro n
  induction n with
  | zero =>
    intro x2_4 σ_5 h
    rw [LX8_measure_82] at h
    cases h
  | succ n ih =>
    intro x2_4 σ_5 h
    rw [LX8_measure_82] at h
    refine a_iload_n C eX8_measure_82 rfl ?_
    refine a_iconst C eX8_measure_83 (1 : Int32) c_iconst_1 ?_
    refine a_aload_n C eX8_measure_84 rfl ?_
    refine a_getI C eX8_measure_85 fX8_27 sh_25 rfl ?_
    refine a_ishl C eX8_measure_88 ?_
    refine a_icmp_ge C eX8_measure_89 (fun hc => ?_) (fun hc => ?_)
    · replace h := it hc h
      exact rt_v R eX8_measure_129 h
    · replace h := ie hc h
      refine a_iconst C eX8_measure_92 (0 : Int32) c_iconst_0 ?_
      refine a_ist_n C eX8_measure_93 (Nat.le_of_ble_eq_true rfl) [some (.ref 25), none, some (.int x2_4), some (.int (0 : Int32))] rfl ?_
      refine jn (fun (kk : Sg → Option Sg) => ∀ (σ_6 : Sg), kk σ_6 = some rr → AW X 0 0 ad (SHc ++ ext) σ_6 123 [some (.ref 25), none, some (.int x2_4), none] []) h ?_ (fun k123_7 hk123_7 h => ?_)
      · intro σ_6 h
        refine a_inc C eX8_measure_123 rfl c_iconst_1 h (fun z => [some (.ref 25), none, some (.int z), none]) (fun _ => rfl) (fun x2_8 h => ?_)
        refine a_goto C eX8_measure_126 ?_
        exact a_less (lle_same (lle_same (lle_same (lle_same lle_nil)))) (ih _ _ h)
      exact a_less (lle_same (lle_same (lle_same (lle_same lle_nil)))) (lX8_measure_94  C R hk123_7 _ _ _ h)
theorem lX8_measure_18 {ext : List Shp} {X : CT} {ad : Nat → Nat} {rr : Sg} {x2_15 : Int32} {k74_18 : Sg → Option Sg}  (C : Cx X cX8_measure 4 RX8 none { frames := 3, cells := 0, slots := 0, locals := 69 }) (R : Rv X cX8_measure ad (SHc ++ ext) rr) (hk74_18 : ∀ (σ_17 : Sg), k74_18 σ_17 = some rr → AW X 0 0 ad (SHc ++ ext) σ_17 74 [some (.ref 25), some (.ref 2), some (.int x2_15), none] []) : ∀ (n : Nat) (x3_20 : Int32) (σ_21 : Sg), LX8_measure_18 x2_15 k74_18 n x3_20 σ_21 = some rr → AW X 0 0 ad (SHc ++ ext) σ_21 18 [some (.ref 25), some (.ref 2), some (.int x2_15), some (.int x3_20)] [] := by
  intro n
  induction n with
  | zero =>
    intro x3_20 σ_21 h
    rw [LX8_measure_18] at h
    cases h
  | succ n ih =>
    intro x3_20 σ_21 h
    rw [LX8_measure_18] at h
    refine a_iload_n C eX8_measure_18 rfl ?_
    refine a_bipush C eX8_measure_19 (7 : Int32) c_bipush_7 ?_
    refine a_icmp_ge C eX8_measure_21 (fun hc => ?_) (fun hc => ?_)
    · replace h := it hc h
      exact a_less (lle_same (lle_same (lle_same (lle_drop lle_nil)))) (hk74_18 _ h)
    · replace h := ie hc h
      refine a_aload_n C eX8_measure_24 rfl ?_
      refine a_getR C eX8_measure_25 fX8_15 sh_25 rfl ?_
      refine a_iload_n C eX8_measure_28 rfl ?_
      refine a_bipush C eX8_measure_29 (7 : Int32) c_bipush_7 ?_
      refine a_imul C eX8_measure_31 ?_
      refine a_iload_n C eX8_measure_32 rfl ?_
      refine a_iadd C eX8_measure_33 ?_
      refine a_aload_n C eX8_measure_34 rfl ?_
      refine a_getR C eX8_measure_35 fX8_28 sh_2 rfl ?_
      refine a_iload_n C eX8_measure_38 rfl ?_
      obtain ⟨hb_22, h⟩ := gd h
      refine a_iald C eX8_measure_39 sh_3 hb_22 ?_
      refine a_aload_n C eX8_measure_40 rfl ?_
      refine a_getR C eX8_measure_41 fX8_28 sh_2 rfl ?_
      refine a_iload_n C eX8_measure_44 rfl ?_
      obtain ⟨hb_23, h⟩ := gd h
      refine a_iald C eX8_measure_45 sh_3 hb_23 ?_
      refine a_isub C eX8_measure_46 ?_
      refine a_abs C eX8_measure_47 wX8_31 ⟨Nat.le_of_ble_eq_true rfl, Nat.le_of_ble_eq_true rfl⟩ rfl (Nat.le_of_ble_eq_true rfl) ?_
      refine a_aload_n C eX8_measure_50 rfl ?_
      refine a_getR C eX8_measure_51 fX8_37 sh_2 rfl ?_
      refine a_iload_n C eX8_measure_54 rfl ?_
      refine a_iald C eX8_measure_55 sh_4 hb_22 ?_
      refine a_aload_n C eX8_measure_56 rfl ?_
      refine a_getR C eX8_measure_57 fX8_37 sh_2 rfl ?_
      refine a_iload_n C eX8_measure_60 rfl ?_
      refine a_iald C eX8_measure_61 sh_4 hb_23 ?_
      refine a_isub C eX8_measure_62 ?_
      refine a_abs C eX8_measure_63 wX8_31 ⟨Nat.le_of_ble_eq_true rfl, Nat.le_of_ble_eq_true rfl⟩ rfl (Nat.le_of_ble_eq_true rfl) ?_
      refine a_iadd C eX8_measure_66 ?_
      obtain ⟨hb_25, h⟩ := gd h
      refine a_iastL C eX8_measure_67 sh_27 hb_25 h (fun σ_24 h => ?_)
      refine a_inc C eX8_measure_68 rfl c_iconst_1 h (fun z => [some (.ref 25), some (.ref 2), some (.int x2_15), some (.int z)]) (fun _ => rfl) (fun x3_26 h => ?_)
      refine a_goto C eX8_measure_71 ?_
      exact a_less (lle_same (lle_same (lle_same (lle_same lle_nil)))) (ih _ _ h)
theorem lX8_measure_10 {ext : List Shp} {X : CT} {ad : Nat → Nat} {rr : Sg} {k80_3 : Sg → Option Sg}  (C : Cx X cX8_measure 4 RX8 none { frames := 3, cells := 0, slots := 0, locals := 69 }) (R : Rv X cX8_measure ad (SHc ++ ext) rr) (hk80_3 : ∀ (σ_2 : Sg), k80_3 σ_2 = some rr → AW X 0 0 ad (SHc ++ ext) σ_2 80 [some (.ref 25), none, none, none] []) : ∀ (n : Nat) (x2_15 : Int32) (σ_16 : Sg), LX8_measure_10 k80_3 n x2_15 σ_16 = some rr → AW X 0 0 ad (SHc ++ ext) σ_16 10 [some (.ref 25), some (.ref 2), some (.int x2_15), none] [] := by
  intro n
  induction n with
  | zero =>
    intro x2_15 σ_16 h
    rw [LX8_measure_10] at h
    cases h
  | succ n ih =>
    intro x2_15 σ_16 h
    rw [LX8_measure_10] at h
    refine a_iload_n C eX8_measure_10 rfl ?_
    refine a_bipush C eX8_measure_11 (7 : Int32) c_bipush_7 ?_
    refine a_icmp_ge C eX8_measure_13 (fun hc => ?_) (fun hc => ?_)
    · replace h := it hc h
      exact a_less (lle_same (lle_drop (lle_drop (lle_same lle_nil)))) (hk80_3 _ h)
    · replace h := ie hc h
      refine a_iconst C eX8_measure_16 (0 : Int32) c_iconst_0 ?_
      refine a_ist_n C eX8_measure_17 (Nat.le_of_ble_eq_true rfl) [some (.ref 25), some (.ref 2), some (.int x2_15), some (.int (0 : Int32))] rfl ?_
      refine jn (fun (kk : Sg → Option Sg) => ∀ (σ_17 : Sg), kk σ_17 = some rr → AW X 0 0 ad (SHc ++ ext) σ_17 74 [some (.ref 25), some (.ref 2), some (.int x2_15), none] []) h ?_ (fun k74_18 hk74_18 h => ?_)
      · intro σ_17 h
        refine a_inc C eX8_measure_74 rfl c_iconst_1 h (fun z => [some (.ref 25), some (.ref 2), some (.int z), none]) (fun _ => rfl) (fun x2_19 h => ?_)
        refine a_goto C eX8_measure_77 ?_
        exact a_less (lle_same (lle_same (lle_same (lle_same lle_nil)))) (ih _ _ h)
      exact a_less (lle_same (lle_same (lle_same (lle_same lle_nil)))) (lX8_measure_18  C R hk74_18 _ _ _ h)
theorem kX8_measure {ext : List Shp} {σ : Sg} {rr : Sg}  (h : XX8_measure σ = some rr) : Cv MX8_measure [.ref 25, .ref 2] (SHc ++ ext) σ rr := by
  refine Cv.start rfl rfl (Nat.le_of_ble_eq_true rfl) rfl ?_
  intro X ad C R
  replace C : Cx X cX8_measure 4 RX8 none { frames := 3, cells := 0, slots := 0, locals := 69 } := C
  replace R : Rv X cX8_measure ad (SHc ++ ext) rr := R
  show AW X 0 0 ad (SHc ++ ext) σ 0 [some (.ref 25), some (.ref 2), none, none] []
  rw [XX8_measure] at h
  refine a_aload_n C eX8_measure_0 rfl ?_
  refine a_aload_n C eX8_measure_1 rfl ?_
  refine a_getI C eX8_measure_2 fX8_21 sh_2 rfl ?_
  refine a_putIL C eX8_measure_5 fX8_27 ftyX8 rfl rfl sh_25 rfl h (fun σ_1 h => ?_)
  refine a_iconst C eX8_measure_8 (0 : Int32) c_iconst_0 ?_
  refine a_ist_n C eX8_measure_9 (Nat.le_of_ble_eq_true rfl) [some (.ref 25), some (.ref 2), some (.int (0 : Int32)), none] rfl ?_
  refine jn (fun (kk : Sg → Option Sg) => ∀ (σ_2 : Sg), kk σ_2 = some rr → AW X 0 0 ad (SHc ++ ext) σ_2 80 [some (.ref 25), none, none, none] []) h ?_ (fun k80_3 hk80_3 h => ?_)
  · intro σ_2 h
    refine a_iconst C eX8_measure_80 (0 : Int32) c_iconst_0 ?_
    refine a_ist_n C eX8_measure_81 (Nat.le_of_ble_eq_true rfl) [some (.ref 25), none, some (.int (0 : Int32)), none] rfl ?_
    exact a_less (lle_same (lle_same (lle_same (lle_same lle_nil)))) (lX8_measure_82  C R  _ _ _ h)
  exact a_less (lle_same (lle_same (lle_same (lle_same lle_nil)))) (lX8_measure_10  C R hk80_3 _ _ _ h)
/-! ShelfDrives$Ways.nextStop(II)I -/
def LX8_nextStop_18 (p1 : Int32) (p2 : Int32) (x3_2 : Int32) (σ : Sg) : Nat → Int32 → Int32 → Option Int32
  | 0, _, _ => none
  | n + 1, x4_3, x5_4 => if (σ 25 3) ≤ x5_4 then (some x4_3) else (lt (fun (x4_5 : Int32) => lt (x5_4 + (1 : Int32)) (fun (x5_7 : Int32) => LX8_nextStop_18 p1 p2 x3_2 σ n x4_5 x5_7)) (fun (k58_6 : Int32 → Option Int32) => if ((p1 >>> (x5_4 &&& 31)) &&& (1 : Int32)) = 0 then (k58_6 x4_3) else (b1 (XX8_milesBy p1 p2 x5_4 σ) (fun (r_8 : Int32) => if r_8 = x3_2 then (some x5_4) else (k58_6 x5_4)))))
def XX8_nextStop (p1 : Int32) (p2 : Int32) (σ : Sg) : Option Int32 := if ib ((p1 * (7 : Int32)) + p2) 448 then lt (σ 28 ((p1 * (7 : Int32)) + p2).toNatClampNeg) (fun (x3_2 : Int32) => LX8_nextStop_18 p1 p2 x3_2 σ FUEL (0 : Int32) (0 : Int32)) else none
theorem lX8_nextStop_18 {ext : List Shp} {X : CT} {ad : Nat → Nat} {rr : Int32} {p1 : Int32} {p2 : Int32} {x3_2 : Int32} {σ : Sg}  (C : Cx X cX8_nextStop 6 RX8 (some .int) { frames := 2, cells := 0, slots := 0, locals := 45 }) (R : Ri X cX8_nextStop (some .int) ad (SHc ++ ext) (rr, σ))  : ∀ (n : Nat) (x4_3 : Int32) (x5_4 : Int32), LX8_nextStop_18 p1 p2 x3_2 σ n x4_3 x5_4 = some rr → AW X 0 0 ad (SHc ++ ext) σ 18 [some (.ref 25), some (.int p1), some (.int p2), some (.int x3_2), some (.int x4_3), some (.int x5_4)] [] := by
  intro n
  induction n with
  | zero =>
    intro x4_3 x5_4 h
    rw [LX8_nextStop_18] at h
    cases h
  | succ n ih =>
    intro x4_3 x5_4 h
    rw [LX8_nextStop_18] at h
    refine a_iload C eX8_nextStop_18 rfl ?_
    refine a_aload_n C eX8_nextStop_20 rfl ?_
    refine a_getI C eX8_nextStop_21 fX8_27 sh_25 rfl ?_
    refine a_icmp_ge C eX8_nextStop_24 (fun hc => ?_) (fun hc => ?_)
    · replace h := it hc h
      refine a_iload C eX8_nextStop_64 rfl ?_
      exact rt_p R eX8_nextStop_66 h nb_int
    · replace h := ie hc h
      refine a_iload_n C eX8_nextStop_27 rfl ?_
      refine a_iload C eX8_nextStop_28 rfl ?_
      refine a_ishr C eX8_nextStop_30 ?_
      refine a_iconst C eX8_nextStop_31 (1 : Int32) c_iconst_1 ?_
      refine a_iand C eX8_nextStop_32 ?_
      refine jn (fun (kk : Int32 → Option Int32) => ∀ (x4_5 : Int32), kk x4_5 = some rr → AW X 0 0 ad (SHc ++ ext) σ 58 [some (.ref 25), some (.int p1), some (.int p2), some (.int x3_2), some (.int x4_5), some (.int x5_4)] []) h ?_ (fun k58_6 hk58_6 h => ?_)
      · intro x4_5 h
        refine a_inc C eX8_nextStop_58 rfl c_iconst_1 h (fun z => [some (.ref 25), some (.int p1), some (.int p2), some (.int x3_2), some (.int x4_5), some (.int z)]) (fun _ => rfl) (fun x5_7 h => ?_)
        refine a_goto C eX8_nextStop_61 ?_
        exact a_less (lle_same (lle_same (lle_same (lle_same (lle_same (lle_same lle_nil)))))) (ih _ _ h)
      refine a_if_ne C eX8_nextStop_33 (fun hc => ?_) (fun hc => ?_)
      · replace h := ie hc h
        refine a_iload C eX8_nextStop_39 rfl ?_
        refine a_ist C eX8_nextStop_41 (Nat.le_of_ble_eq_true rfl) [some (.ref 25), some (.int p1), some (.int p2), some (.int x3_2), some (.int x5_4), some (.int x5_4)] rfl ?_
        refine a_aload_n C eX8_nextStop_43 rfl ?_
        refine a_iload_n C eX8_nextStop_44 rfl ?_
        refine a_iload_n C eX8_nextStop_45 rfl ?_
        refine a_iload C eX8_nextStop_46 rfl ?_
        obtain ⟨r_8, hq, h⟩ := b1_e h
        refine a_cVi3 C eX8_nextStop_48 wX8_47 ⟨Nat.le_of_ble_eq_true rfl, Nat.le_of_ble_eq_true rfl, rfl, rfl⟩ rfl sh_25 rfl (kX8_milesBy hq) (Nat.le_of_ble_eq_true rfl) ?_
        refine a_iload_n C eX8_nextStop_51 rfl ?_
        refine a_icmp_ne C eX8_nextStop_52 (fun hc => ?_) (fun hc => ?_)
        · replace h := ie hc h
          exact a_less (lle_same (lle_same (lle_same (lle_same (lle_same (lle_same lle_nil)))))) (hk58_6 _ h)
        · replace h := it hc h
          refine a_iload C eX8_nextStop_55 rfl ?_
          exact rt_p R eX8_nextStop_57 h nb_int
      · replace h := it hc h
        refine a_goto C eX8_nextStop_36 ?_
        exact a_less (lle_same (lle_same (lle_same (lle_same (lle_same (lle_same lle_nil)))))) (hk58_6 _ h)
theorem kX8_nextStop {ext : List Shp} {p1 : Int32} {p2 : Int32} {σ : Sg} {rr : Int32}  (h : XX8_nextStop p1 p2 σ = some rr) : Ci MX8_nextStop [.ref 25, .int p1, .int p2] (SHc ++ ext) σ (rr, σ) := by
  refine Ci.start rfl rfl (Nat.le_of_ble_eq_true rfl) ?_
  intro X ad C R
  replace C : Cx X cX8_nextStop 6 RX8 (some .int) { frames := 2, cells := 0, slots := 0, locals := 45 } := C
  replace R : Ri X cX8_nextStop (some .int) ad (SHc ++ ext) (rr, σ) := R
  show AW X 0 0 ad (SHc ++ ext) σ 0 [some (.ref 25), some (.int p1), some (.int p2), none, none, none] []
  rw [XX8_nextStop] at h
  refine a_aload_n C eX8_nextStop_0 rfl ?_
  refine a_getR C eX8_nextStop_1 fX8_18 sh_25 rfl ?_
  refine a_iload_n C eX8_nextStop_4 rfl ?_
  refine a_bipush C eX8_nextStop_5 (7 : Int32) c_bipush_7 ?_
  refine a_imul C eX8_nextStop_7 ?_
  refine a_iload_n C eX8_nextStop_8 rfl ?_
  refine a_iadd C eX8_nextStop_9 ?_
  obtain ⟨hb_1, h⟩ := gd h
  refine a_iald C eX8_nextStop_10 sh_28 hb_1 ?_
  refine a_lt h (fun x3_2 h => ?_)
  refine a_ist_n C eX8_nextStop_11 (Nat.le_of_ble_eq_true rfl) [some (.ref 25), some (.int p1), some (.int p2), some (.int x3_2), none, none] rfl ?_
  refine a_iconst C eX8_nextStop_12 (0 : Int32) c_iconst_0 ?_
  refine a_ist C eX8_nextStop_13 (Nat.le_of_ble_eq_true rfl) [some (.ref 25), some (.int p1), some (.int p2), some (.int x3_2), some (.int (0 : Int32)), none] rfl ?_
  refine a_iconst C eX8_nextStop_15 (0 : Int32) c_iconst_0 ?_
  refine a_ist C eX8_nextStop_16 (Nat.le_of_ble_eq_true rfl) [some (.ref 25), some (.int p1), some (.int p2), some (.int x3_2), some (.int (0 : Int32)), some (.int (0 : Int32))] rfl ?_
  exact a_less (lle_same (lle_same (lle_same (lle_same (lle_same (lle_same lle_nil)))))) (lX8_nextStop_18  C R  _ _ _ h)
/-! ShelfDrives$Ways.trace(I)I -/
def LX8_trace_8 : Nat → Int32 → Int32 → Int32 → Sg → Option (Int32 × Sg)
  | 0, _, _, _, _ => none
  | n + 1, x2_1, x3_2, x4_3, σ_4 => if x3_2 = 0 then (some (x4_3, σ_4)) else (if (6 : Int32) ≤ x4_3 then (some (x4_3, σ_4)) else (b1 (XX8_nextStop x3_2 x2_1 σ_4) (fun (r_5 : Int32) => if ib x4_3 6 then lt (up σ_4 26 x4_3.toNatClampNeg r_5) (fun (σ_6 : Sg) => lt (x4_3 + (1 : Int32)) (fun (x4_8 : Int32) => lt (x3_2 &&& (((1 : Int32) <<< (r_5 &&& 31)) ^^^ (-1 : Int32))) (fun (x3_9 : Int32) => LX8_trace_8 n r_5 x3_9 x4_8 σ_6))) else none)))
def XX8_trace (p1 : Int32) (σ : Sg) : Option (Int32 × Sg) := LX8_trace_8 FUEL (6 : Int32) p1 (0 : Int32) σ
theorem lX8_trace_8 {ext : List Shp} {X : CT} {ad : Nat → Nat} {rr : (Int32 × Sg)}   (C : Cx X cX8_trace 6 RX8 (some .int) { frames := 3, cells := 0, slots := 0, locals := 70 }) (R : Ri X cX8_trace (some .int) ad (SHc ++ ext) rr)  : ∀ (n : Nat) (x2_1 : Int32) (x3_2 : Int32) (x4_3 : Int32) (σ_4 : Sg), LX8_trace_8 n x2_1 x3_2 x4_3 σ_4 = some rr → AW X 0 0 ad (SHc ++ ext) σ_4 8 [some (.ref 25), none, some (.int x2_1), some (.int x3_2), some (.int x4_3), none] [] := by
  intro n
  induction n with
  | zero =>
    intro x2_1 x3_2 x4_3 σ_4 h
    rw [LX8_trace_8] at h
    cases h
  | succ n ih =>
    intro x2_1 x3_2 x4_3 σ_4 h
    rw [LX8_trace_8] at h
    refine a_iload_n C eX8_trace_8 rfl ?_
    refine a_if_eq C eX8_trace_9 (fun hc => ?_) (fun hc => ?_)
    · replace h := it hc h
      refine a_iload C eX8_trace_54 rfl ?_
      exact rt_i R eX8_trace_56 h nb_int
    · replace h := ie hc h
      refine a_iload C eX8_trace_12 rfl ?_
      refine a_bipush C eX8_trace_14 (6 : Int32) c_bipush_6 ?_
      refine a_icmp_ge C eX8_trace_16 (fun hc => ?_) (fun hc => ?_)
      · replace h := it hc h
        refine a_iload C eX8_trace_54 rfl ?_
        exact rt_i R eX8_trace_56 h nb_int
      · replace h := ie hc h
        refine a_aload_n C eX8_trace_19 rfl ?_
        refine a_iload_n C eX8_trace_20 rfl ?_
        refine a_iload_n C eX8_trace_21 rfl ?_
        obtain ⟨r_5, hq, h⟩ := b1_e h
        refine a_cVi2 C eX8_trace_22 wX8_44 ⟨Nat.le_of_ble_eq_true rfl, Nat.le_of_ble_eq_true rfl, rfl, rfl⟩ rfl sh_25 rfl (kX8_nextStop hq) (Nat.le_of_ble_eq_true rfl) ?_
        refine a_ist C eX8_trace_25 (Nat.le_of_ble_eq_true rfl) [some (.ref 25), none, some (.int x2_1), some (.int x3_2), some (.int x4_3), some (.int r_5)] rfl ?_
        refine a_aload_n C eX8_trace_27 rfl ?_
        refine a_getR C eX8_trace_28 fX8_9 sh_25 rfl ?_
        refine a_iload C eX8_trace_31 rfl ?_
        refine a_iload C eX8_trace_33 rfl ?_
        obtain ⟨hb_7, h⟩ := gd h
        refine a_iastL C eX8_trace_35 sh_26 hb_7 h (fun σ_6 h => ?_)
        refine a_inc C eX8_trace_36 rfl c_iconst_1 h (fun z => [some (.ref 25), none, some (.int x2_1), some (.int x3_2), some (.int z), some (.int r_5)]) (fun _ => rfl) (fun x4_8 h => ?_)
        refine a_iload_n C eX8_trace_39 rfl ?_
        refine a_iconst C eX8_trace_40 (1 : Int32) c_iconst_1 ?_
        refine a_iload C eX8_trace_41 rfl ?_
        refine a_ishl C eX8_trace_43 ?_
        refine a_iconst C eX8_trace_44 (-1 : Int32) c_iconst_m1 ?_
        refine a_ixor C eX8_trace_45 ?_
        refine a_iand C eX8_trace_46 ?_
        refine a_lt h (fun x3_9 h => ?_)
        refine a_ist_n C eX8_trace_47 (Nat.le_of_ble_eq_true rfl) [some (.ref 25), none, some (.int x2_1), some (.int x3_9), some (.int x4_8), some (.int r_5)] rfl ?_
        refine a_iload C eX8_trace_48 rfl ?_
        refine a_ist_n C eX8_trace_50 (Nat.le_of_ble_eq_true rfl) [some (.ref 25), none, some (.int r_5), some (.int x3_9), some (.int x4_8), some (.int r_5)] rfl ?_
        refine a_goto C eX8_trace_51 ?_
        exact a_less (lle_same (lle_same (lle_same (lle_same (lle_same (lle_drop lle_nil)))))) (ih _ _ _ _ h)
theorem kX8_trace {ext : List Shp} {p1 : Int32} {σ : Sg} {rr : (Int32 × Sg)}  (h : XX8_trace p1 σ = some rr) : Ci MX8_trace [.ref 25, .int p1] (SHc ++ ext) σ rr := by
  refine Ci.start rfl rfl (Nat.le_of_ble_eq_true rfl) ?_
  intro X ad C R
  replace C : Cx X cX8_trace 6 RX8 (some .int) { frames := 3, cells := 0, slots := 0, locals := 70 } := C
  replace R : Ri X cX8_trace (some .int) ad (SHc ++ ext) rr := R
  show AW X 0 0 ad (SHc ++ ext) σ 0 [some (.ref 25), some (.int p1), none, none, none, none] []
  rw [XX8_trace] at h
  refine a_bipush C eX8_trace_0 (6 : Int32) c_bipush_6 ?_
  refine a_ist_n C eX8_trace_2 (Nat.le_of_ble_eq_true rfl) [some (.ref 25), some (.int p1), some (.int (6 : Int32)), none, none, none] rfl ?_
  refine a_iload_n C eX8_trace_3 rfl ?_
  refine a_ist_n C eX8_trace_4 (Nat.le_of_ble_eq_true rfl) [some (.ref 25), some (.int p1), some (.int (6 : Int32)), some (.int p1), none, none] rfl ?_
  refine a_iconst C eX8_trace_5 (0 : Int32) c_iconst_0 ?_
  refine a_ist C eX8_trace_6 (Nat.le_of_ble_eq_true rfl) [some (.ref 25), some (.int p1), some (.int (6 : Int32)), some (.int p1), some (.int (0 : Int32)), none] rfl ?_
  exact a_less (lle_same (lle_drop (lle_same (lle_same (lle_same (lle_same lle_nil)))))) (lX8_trace_8  C R  _ _ _ _ _ h)
/-! ShelfDrives.putNumber(I)V -/
def LX9_putNumber_3 (p1 : Int32) : Nat → Int32 → Sg → Option Sg
  | 0, _, _ => none
  | n + 1, x2_1, σ_2 => if x2_1 < 0 then (some σ_2) else (if ib (σ_2 0 1) 800 then lt (up σ_2 1 (σ_2 0 1).toNatClampNeg ((ush p1 x2_1) &&& (255 : Int32))) (fun (σ_3 : Sg) => lt (up σ_3 0 1 ((σ_3 0 1) + (1 : Int32))) (fun (σ_5 : Sg) => lt (x2_1 + (-8 : Int32)) (fun (x2_6 : Int32) => LX9_putNumber_3 p1 n x2_6 σ_5))) else none)
def XX9_putNumber (p1 : Int32) (σ : Sg) : Option Sg := LX9_putNumber_3 p1 FUEL (24 : Int32) σ
theorem lX9_putNumber_3 {ext : List Shp} {X : CT} {ad : Nat → Nat} {rr : Sg} {p1 : Int32}  (C : Cx X cX9_putNumber 3 RX9 none { frames := 0, cells := 0, slots := 0, locals := 0 }) (R : Rv X cX9_putNumber ad (SHc ++ ext) rr)  : ∀ (n : Nat) (x2_1 : Int32) (σ_2 : Sg), LX9_putNumber_3 p1 n x2_1 σ_2 = some rr → AW X 0 0 ad (SHc ++ ext) σ_2 3 [some (.ref 0), some (.int p1), some (.int x2_1)] [] := by
  intro n
  induction n with
  | zero =>
    intro x2_1 σ_2 h
    rw [LX9_putNumber_3] at h
    cases h
  | succ n ih =>
    intro x2_1 σ_2 h
    rw [LX9_putNumber_3] at h
    refine a_iload_n C eX9_putNumber_3 rfl ?_
    refine a_if_lt C eX9_putNumber_4 (fun hc => ?_) (fun hc => ?_)
    · replace h := it hc h
      exact rt_v R eX9_putNumber_39 h
    · replace h := ie hc h
      refine a_aload_n C eX9_putNumber_7 rfl ?_
      refine a_getR C eX9_putNumber_8 fX9_9 sh_0 rfl ?_
      refine a_aload_n C eX9_putNumber_11 rfl ?_
      refine a_getI C eX9_putNumber_12 fX9_13 sh_0 rfl ?_
      refine a_iload_n C eX9_putNumber_15 rfl ?_
      refine a_iload_n C eX9_putNumber_16 rfl ?_
      refine a_iushr C eX9_putNumber_17 ?_
      refine a_sipush C eX9_putNumber_18 (255 : Int32) c_sipush_255 ?_
      refine a_iand C eX9_putNumber_21 ?_
      obtain ⟨hb_4, h⟩ := gd h
      refine a_iastL C eX9_putNumber_22 sh_1 hb_4 h (fun σ_3 h => ?_)
      refine a_aload_n C eX9_putNumber_23 rfl ?_
      refine a_dup C eX9_putNumber_24 rfl ?_
      refine a_getI C eX9_putNumber_25 fX9_13 sh_0 rfl ?_
      refine a_iconst C eX9_putNumber_28 (1 : Int32) c_iconst_1 ?_
      refine a_iadd C eX9_putNumber_29 ?_
      refine a_putIL C eX9_putNumber_30 fX9_13 ftyX9 rfl rfl sh_0 rfl h (fun σ_5 h => ?_)
      refine a_inc C eX9_putNumber_33 rfl c_iconst_m8 h (fun z => [some (.ref 0), some (.int p1), some (.int z)]) (fun _ => rfl) (fun x2_6 h => ?_)
      refine a_goto C eX9_putNumber_36 ?_
      exact a_less (lle_same (lle_same (lle_same lle_nil))) (ih _ _ h)
theorem kX9_putNumber {ext : List Shp} {p1 : Int32} {σ : Sg} {rr : Sg}  (h : XX9_putNumber p1 σ = some rr) : Cv MX9_putNumber [.ref 0, .int p1] (SHc ++ ext) σ rr := by
  refine Cv.start rfl rfl (Nat.le_of_ble_eq_true rfl) rfl ?_
  intro X ad C R
  replace C : Cx X cX9_putNumber 3 RX9 none { frames := 0, cells := 0, slots := 0, locals := 0 } := C
  replace R : Rv X cX9_putNumber ad (SHc ++ ext) rr := R
  show AW X 0 0 ad (SHc ++ ext) σ 0 [some (.ref 0), some (.int p1), none] []
  rw [XX9_putNumber] at h
  refine a_bipush C eX9_putNumber_0 (24 : Int32) c_bipush_24 ?_
  refine a_ist_n C eX9_putNumber_2 (Nat.le_of_ble_eq_true rfl) [some (.ref 0), some (.int p1), some (.int (24 : Int32))] rfl ?_
  exact a_less (lle_same (lle_same (lle_same lle_nil))) (lX9_putNumber_3  C R  _ _ _ h)
/-! ShelfDrives.feed(IIIII)I -/
def XX9_feed (p1 : Int32) (p2 : Int32) (p3 : Int32) (p4 : Int32) (p5 : Int32) (σ : Sg) : Option (Int32 × Sg) := if ((σ 0 1) + (20 : Int32)) ≤ (800 : Int32) then (b1 (XX9_putNumber p1 σ) (fun (σ_1 : Sg) => b1 (XX9_putNumber p2 σ_1) (fun (σ_2 : Sg) => b1 (XX9_putNumber p3 σ_2) (fun (σ_3 : Sg) => b1 (XX9_putNumber p4 σ_3) (fun (σ_4 : Sg) => b1 (XX9_putNumber p5 σ_4) (fun (σ_5 : Sg) => some (σ_5 0 1, σ_5))))))) else (some ((-1 : Int32), σ))
theorem kX9_feed {ext : List Shp} {p1 : Int32} {p2 : Int32} {p3 : Int32} {p4 : Int32} {p5 : Int32} {σ : Sg} {rr : (Int32 × Sg)}  (h : XX9_feed p1 p2 p3 p4 p5 σ = some rr) : Ci MX9_feed [.ref 0, .int p1, .int p2, .int p3, .int p4, .int p5] (SHc ++ ext) σ rr := by
  refine Ci.start rfl rfl (Nat.le_of_ble_eq_true rfl) ?_
  intro X ad C R
  replace C : Cx X cX9_feed 6 RX9 (some .int) { frames := 1, cells := 0, slots := 0, locals := 22 } := C
  replace R : Ri X cX9_feed (some .int) ad (SHc ++ ext) rr := R
  show AW X 0 0 ad (SHc ++ ext) σ 0 [some (.ref 0), some (.int p1), some (.int p2), some (.int p3), some (.int p4), some (.int p5)] []
  rw [XX9_feed] at h
  refine a_aload_n C eX9_feed_0 rfl ?_
  refine a_getI C eX9_feed_1 fX9_13 sh_0 rfl ?_
  refine a_bipush C eX9_feed_4 (20 : Int32) c_bipush_20 ?_
  refine a_iadd C eX9_feed_6 ?_
  refine a_sipush C eX9_feed_7 (800 : Int32) c_sipush_800 ?_
  refine a_icmp_le C eX9_feed_10 (fun hc => ?_) (fun hc => ?_)
  · replace h := it hc h
    refine a_aload_n C eX9_feed_15 rfl ?_
    refine a_iload_n C eX9_feed_16 rfl ?_
    obtain ⟨σ_1, hq, h⟩ := b1_e h
    refine a_cVv1 C eX9_feed_17 wX9_93 ⟨Nat.le_of_ble_eq_true rfl, Nat.le_of_ble_eq_true rfl, rfl, rfl⟩ rfl sh_0 rfl (kX9_putNumber hq) (Nat.le_of_ble_eq_true rfl) ?_
    refine a_aload_n C eX9_feed_20 rfl ?_
    refine a_iload_n C eX9_feed_21 rfl ?_
    obtain ⟨σ_2, hq, h⟩ := b1_e h
    refine a_cVv1 C eX9_feed_22 wX9_93 ⟨Nat.le_of_ble_eq_true rfl, Nat.le_of_ble_eq_true rfl, rfl, rfl⟩ rfl sh_0 rfl (kX9_putNumber hq) (Nat.le_of_ble_eq_true rfl) ?_
    refine a_aload_n C eX9_feed_25 rfl ?_
    refine a_iload_n C eX9_feed_26 rfl ?_
    obtain ⟨σ_3, hq, h⟩ := b1_e h
    refine a_cVv1 C eX9_feed_27 wX9_93 ⟨Nat.le_of_ble_eq_true rfl, Nat.le_of_ble_eq_true rfl, rfl, rfl⟩ rfl sh_0 rfl (kX9_putNumber hq) (Nat.le_of_ble_eq_true rfl) ?_
    refine a_aload_n C eX9_feed_30 rfl ?_
    refine a_iload C eX9_feed_31 rfl ?_
    obtain ⟨σ_4, hq, h⟩ := b1_e h
    refine a_cVv1 C eX9_feed_33 wX9_93 ⟨Nat.le_of_ble_eq_true rfl, Nat.le_of_ble_eq_true rfl, rfl, rfl⟩ rfl sh_0 rfl (kX9_putNumber hq) (Nat.le_of_ble_eq_true rfl) ?_
    refine a_aload_n C eX9_feed_36 rfl ?_
    refine a_iload C eX9_feed_37 rfl ?_
    obtain ⟨σ_5, hq, h⟩ := b1_e h
    refine a_cVv1 C eX9_feed_39 wX9_93 ⟨Nat.le_of_ble_eq_true rfl, Nat.le_of_ble_eq_true rfl, rfl, rfl⟩ rfl sh_0 rfl (kX9_putNumber hq) (Nat.le_of_ble_eq_true rfl) ?_
    refine a_aload_n C eX9_feed_42 rfl ?_
    refine a_getI C eX9_feed_43 fX9_13 sh_0 rfl ?_
    exact rt_i R eX9_feed_46 h nb_int
  · replace h := ie hc h
    refine a_iconst C eX9_feed_13 (-1 : Int32) c_iconst_m1 ?_
    exact rt_i R eX9_feed_14 h nb_int
/-! ShelfDrives.end(I)I -/
def XX9_end (p1 : Int32) (σ : Sg) : Option (Int32 × Sg) := if p1 < 0 then (some ((-1 : Int32), σ)) else (if p1 ≤ (σ 0 1) then (lt (up σ 0 1 p1) (fun (σ_1 : Sg) => some (p1, σ_1))) else (some ((-1 : Int32), σ)))
theorem kX9_end {ext : List Shp} {p1 : Int32} {σ : Sg} {rr : (Int32 × Sg)}  (h : XX9_end p1 σ = some rr) : Ci MX9_end [.ref 0, .int p1] (SHc ++ ext) σ rr := by
  refine Ci.start rfl rfl (Nat.le_of_ble_eq_true rfl) ?_
  intro X ad C R
  replace C : Cx X cX9_end 2 RX9 (some .int) { frames := 0, cells := 0, slots := 0, locals := 0 } := C
  replace R : Ri X cX9_end (some .int) ad (SHc ++ ext) rr := R
  show AW X 0 0 ad (SHc ++ ext) σ 0 [some (.ref 0), some (.int p1)] []
  rw [XX9_end] at h
  refine a_iload_n C eX9_end_0 rfl ?_
  refine a_if_lt C eX9_end_1 (fun hc => ?_) (fun hc => ?_)
  · replace h := it hc h
    refine a_iconst C eX9_end_12 (-1 : Int32) c_iconst_m1 ?_
    exact rt_i R eX9_end_13 h nb_int
  · replace h := ie hc h
    refine a_iload_n C eX9_end_4 rfl ?_
    refine a_aload_n C eX9_end_5 rfl ?_
    refine a_getI C eX9_end_6 fX9_13 sh_0 rfl ?_
    refine a_icmp_le C eX9_end_9 (fun hc => ?_) (fun hc => ?_)
    · replace h := it hc h
      refine a_aload_n C eX9_end_14 rfl ?_
      refine a_iload_n C eX9_end_15 rfl ?_
      refine a_putIL C eX9_end_16 fX9_13 ftyX9 rfl rfl sh_0 rfl h (fun σ_1 h => ?_)
      refine a_iload_n C eX9_end_19 rfl ?_
      exact rt_i R eX9_end_20 h nb_int
    · replace h := ie hc h
      refine a_iconst C eX9_end_12 (-1 : Int32) c_iconst_m1 ?_
      exact rt_i R eX9_end_13 h nb_int
/-! ShelfDrives.beginAnew()V -/
def XX9_beginAnew (σ : Sg) : Option Sg := b1 (XX8_measure σ) (fun (σ_1 : Sg) => b1 (XX2_measure σ_1) (fun (σ_2 : Sg) => b1 (XX5_forget 38 σ_2) (fun (σ_3 : Sg) => b1 (XX5_askPercent 38 (100 : Int32) σ_3) (fun (σ_4 : Sg) => b1 (XX0_forget σ_4) (fun (σ_5 : Sg) => some σ_5)))))
theorem kX9_beginAnew {ext : List Shp} {σ : Sg} {rr : Sg}  (h : XX9_beginAnew σ = some rr) : Cv MX9_beginAnew [.ref 0] (SHc ++ ext) σ rr := by
  refine Cv.start rfl rfl (Nat.le_of_ble_eq_true rfl) rfl ?_
  intro X ad C R
  replace C : Cx X cX9_beginAnew 1 RX9 none { frames := 4, cells := 0, slots := 0, locals := 94 } := C
  replace R : Rv X cX9_beginAnew ad (SHc ++ ext) rr := R
  show AW X 0 0 ad (SHc ++ ext) σ 0 [some (.ref 0)] []
  rw [XX9_beginAnew] at h
  refine a_aload_n C eX9_beginAnew_0 rfl ?_
  refine a_getR C eX9_beginAnew_1 fX9_34 sh_0 rfl ?_
  refine a_aload_n C eX9_beginAnew_4 rfl ?_
  refine a_getR C eX9_beginAnew_5 fX9_20 sh_0 rfl ?_
  obtain ⟨σ_1, hq, h⟩ := b1_e h
  refine a_cVv1 C eX9_beginAnew_8 wX9_371 ⟨Nat.le_of_ble_eq_true rfl, Nat.le_of_ble_eq_true rfl, rfl, rfl⟩ rfl sh_25 rfl (kX8_measure hq) (Nat.le_of_ble_eq_true rfl) ?_
  refine a_aload_n C eX9_beginAnew_11 rfl ?_
  refine a_getR C eX9_beginAnew_12 fX9_43 sh_0 rfl ?_
  refine a_aload_n C eX9_beginAnew_15 rfl ?_
  refine a_getR C eX9_beginAnew_16 fX9_34 sh_0 rfl ?_
  obtain ⟨σ_2, hq, h⟩ := b1_e h
  refine a_cVv1 C eX9_beginAnew_19 wX9_374 ⟨Nat.le_of_ble_eq_true rfl, Nat.le_of_ble_eq_true rfl, rfl, rfl⟩ rfl sh_29 rfl (kX2_measure hq) (Nat.le_of_ble_eq_true rfl) ?_
  refine a_aload_n C eX9_beginAnew_22 rfl ?_
  refine a_getR C eX9_beginAnew_23 fX9_59 sh_0 rfl ?_
  obtain ⟨σ_3, hq, h⟩ := b1_e h
  refine a_cVv0 C eX9_beginAnew_26 wX9_377 ⟨Nat.le_of_ble_eq_true rfl, Nat.le_of_ble_eq_true rfl, rfl, rfl⟩ rfl sh_38 rfl (kX5_forget is_X5_38 hq) (Nat.le_of_ble_eq_true rfl) ?_
  refine a_aload_n C eX9_beginAnew_29 rfl ?_
  refine a_getR C eX9_beginAnew_30 fX9_59 sh_0 rfl ?_
  refine a_bipush C eX9_beginAnew_33 (100 : Int32) c_bipush_100 ?_
  obtain ⟨σ_4, hq, h⟩ := b1_e h
  refine a_cVv1 C eX9_beginAnew_35 wX9_303 ⟨Nat.le_of_ble_eq_true rfl, Nat.le_of_ble_eq_true rfl, rfl, rfl⟩ rfl sh_38 rfl (kX5_askPercent is_X5_38 hq) (Nat.le_of_ble_eq_true rfl) ?_
  refine a_aload_n C eX9_beginAnew_38 rfl ?_
  refine a_getR C eX9_beginAnew_39 fX9_83 sh_0 rfl ?_
  obtain ⟨σ_5, hq, h⟩ := b1_e h
  refine a_cVv0 C eX9_beginAnew_42 wX9_380 ⟨Nat.le_of_ble_eq_true rfl, Nat.le_of_ble_eq_true rfl, rfl, rfl⟩ rfl sh_61 rfl (kX0_forget hq) (Nat.le_of_ble_eq_true rfl) ?_
  exact rt_v R eX9_beginAnew_45 h
/-! ShelfDrives.text()I -/
def XX9_text (σ : Sg) : Option (Int32 × Sg) := b2 (XX4_readAll (σ 0 1) σ) (fun (r_1 : Int32) (σ_2 : Sg) => lt (up σ_2 0 1 (0 : Int32)) (fun (σ_3 : Sg) => if r_1 = 0 then (some ((-1 : Int32), σ_3)) else (b1 (XX7_takeOver σ_3) (fun (σ_4 : Sg) => b1 (XX9_beginAnew σ_4) (fun (σ_5 : Sg) => some (σ_5 2 6, σ_5))))))
theorem kX9_text {ext : List Shp} {σ : Sg} {rr : (Int32 × Sg)}  (h : XX9_text σ = some rr) : Ci MX9_text [.ref 0] (SHc ++ ext) σ rr := by
  refine Ci.start rfl rfl (Nat.le_of_ble_eq_true rfl) ?_
  intro X ad C R
  replace C : Cx X cX9_text 2 RX9 (some .int) { frames := 6, cells := 0, slots := 0, locals := 130 } := C
  replace R : Ri X cX9_text (some .int) ad (SHc ++ ext) rr := R
  show AW X 0 0 ad (SHc ++ ext) σ 0 [some (.ref 0), none] []
  rw [XX9_text] at h
  refine a_aload_n C eX9_text_0 rfl ?_
  refine a_getR C eX9_text_1 fX9_27 sh_0 rfl ?_
  refine a_aload_n C eX9_text_4 rfl ?_
  refine a_getR C eX9_text_5 fX9_9 sh_0 rfl ?_
  refine a_aload_n C eX9_text_8 rfl ?_
  refine a_getI C eX9_text_9 fX9_13 sh_0 rfl ?_
  obtain ⟨r_1, σ_2, hq, h⟩ := b2_e h
  refine a_cVi2 C eX9_text_12 wX9_97 ⟨Nat.le_of_ble_eq_true rfl, Nat.le_of_ble_eq_true rfl, rfl, rfl⟩ rfl sh_10 rfl (kX4_readAll hq) (Nat.le_of_ble_eq_true rfl) ?_
  refine a_ist_n C eX9_text_15 (Nat.le_of_ble_eq_true rfl) [some (.ref 0), some (.int r_1)] rfl ?_
  refine a_aload_n C eX9_text_16 rfl ?_
  refine a_iconst C eX9_text_17 (0 : Int32) c_iconst_0 ?_
  refine a_putIL C eX9_text_18 fX9_13 ftyX9 rfl rfl sh_0 rfl h (fun σ_3 h => ?_)
  refine a_iload_n C eX9_text_21 rfl ?_
  refine a_if_ne C eX9_text_22 (fun hc => ?_) (fun hc => ?_)
  · replace h := ie hc h
    refine a_aload_n C eX9_text_27 rfl ?_
    refine a_getR C eX9_text_28 fX9_20 sh_0 rfl ?_
    refine a_aload_n C eX9_text_31 rfl ?_
    refine a_getR C eX9_text_32 fX9_27 sh_0 rfl ?_
    refine a_getR C eX9_text_35 fX9_101 sh_10 rfl ?_
    obtain ⟨σ_4, hq, h⟩ := b1_e h
    refine a_cVv1 C eX9_text_38 wX9_104 ⟨Nat.le_of_ble_eq_true rfl, Nat.le_of_ble_eq_true rfl, rfl, rfl⟩ rfl sh_2 rfl (kX7_takeOver hq) (Nat.le_of_ble_eq_true rfl) ?_
    refine a_aload_n C eX9_text_41 rfl ?_
    obtain ⟨σ_5, hq, h⟩ := b1_e h
    refine a_cVv0 C eX9_text_42 wX9_90 ⟨Nat.le_of_ble_eq_true rfl, Nat.le_of_ble_eq_true rfl, rfl, rfl⟩ rfl sh_0 rfl (kX9_beginAnew hq) (Nat.le_of_ble_eq_true rfl) ?_
    refine a_aload_n C eX9_text_45 rfl ?_
    refine a_getR C eX9_text_46 fX9_20 sh_0 rfl ?_
    refine a_getI C eX9_text_49 fX9_107 sh_2 rfl ?_
    exact rt_i R eX9_text_52 h nb_int
  · replace h := it hc h
    refine a_iconst C eX9_text_25 (-1 : Int32) c_iconst_m1 ?_
    exact rt_i R eX9_text_26 h nb_int
/-! ShelfDrives.fault(I)I -/
def XX9_fault (p1 : Int32) (σ : Sg) : Option Int32 := if p1 = (0 : Int32) then (some (σ 10 1)) else (if p1 = (1 : Int32) then (some (σ 10 2)) else (some (-1 : Int32)))
theorem kX9_fault {ext : List Shp} {p1 : Int32} {σ : Sg} {rr : Int32}  (h : XX9_fault p1 σ = some rr) : Ci MX9_fault [.ref 0, .int p1] (SHc ++ ext) σ (rr, σ) := by
  refine Ci.start rfl rfl (Nat.le_of_ble_eq_true rfl) ?_
  intro X ad C R
  replace C : Cx X cX9_fault 2 RX9 (some .int) { frames := 0, cells := 0, slots := 0, locals := 0 } := C
  replace R : Ri X cX9_fault (some .int) ad (SHc ++ ext) (rr, σ) := R
  show AW X 0 0 ad (SHc ++ ext) σ 0 [some (.ref 0), some (.int p1)] []
  rw [XX9_fault] at h
  refine a_iload_n C eX9_fault_0 rfl ?_
  by_cases hs_1 : p1 = (0 : Int32)
  · replace h := it hs_1 h
    refine a_lsw C eX9_fault_1 (x := p1) (by decide) (tgt := 28) (by rw [hs_1]) rfl ?_
    refine a_aload_n C eX9_fault_28 rfl ?_
    refine a_getR C eX9_fault_29 fX9_27 sh_0 rfl ?_
    refine a_getI C eX9_fault_32 fX9_110 sh_10 rfl ?_
    exact rt_p R eX9_fault_35 h nb_int
  replace h := ie hs_1 h
  by_cases hs_2 : p1 = (1 : Int32)
  · replace h := it hs_2 h
    refine a_lsw C eX9_fault_1 (x := p1) (by decide) (tgt := 36) (by rw [hs_2]) rfl ?_
    refine a_aload_n C eX9_fault_36 rfl ?_
    refine a_getR C eX9_fault_37 fX9_27 sh_0 rfl ?_
    refine a_getI C eX9_fault_40 fX9_113 sh_10 rfl ?_
    exact rt_p R eX9_fault_43 h nb_int
  replace h := ie hs_2 h
  refine a_lsw C eX9_fault_1 (by decide) (tgt := 44) ((lv_osw hs_1 rfl).trans ((lv_osw hs_2 rfl).trans rfl)) rfl ?_
  refine a_iconst C eX9_fault_44 (-1 : Int32) c_iconst_m1 ?_
  exact rt_p R eX9_fault_45 h nb_int
/-! ShelfDrives.about(I)I -/
def XX9_about (p1 : Int32) (σ : Sg) : Option Int32 := if p1 = (0 : Int32) then (some (σ 2 6)) else (if p1 = (1 : Int32) then (some (σ 2 0)) else (if p1 = (2 : Int32) then (some (σ 2 1)) else (if p1 = (3 : Int32) then (some (σ 2 2)) else (if p1 = (4 : Int32) then (some (σ 2 3)) else (if p1 = (5 : Int32) then (some (σ 2 4)) else (if p1 = (6 : Int32) then (some (σ 2 5)) else (if p1 = (7 : Int32) then (some (σ 2 7)) else (if p1 = (8 : Int32) then (some (σ 61 0)) else (if p1 = (9 : Int32) then (some (σ 0 1)) else (if p1 = (10 : Int32) then (some (σ 3 6)) else (if p1 = (11 : Int32) then (some (σ 4 6)) else (some (-1 : Int32)))))))))))))
theorem kX9_about {ext : List Shp} {p1 : Int32} {σ : Sg} {rr : Int32}  (h : XX9_about p1 σ = some rr) : Ci MX9_about [.ref 0, .int p1] (SHc ++ ext) σ (rr, σ) := by
  refine Ci.start rfl rfl (Nat.le_of_ble_eq_true rfl) ?_
  intro X ad C R
  replace C : Cx X cX9_about 2 RX9 (some .int) { frames := 0, cells := 0, slots := 0, locals := 0 } := C
  replace R : Ri X cX9_about (some .int) ad (SHc ++ ext) (rr, σ) := R
  show AW X 0 0 ad (SHc ++ ext) σ 0 [some (.ref 0), some (.int p1)] []
  rw [XX9_about] at h
  refine a_iload_n C eX9_about_0 rfl ?_
  by_cases hs_1 : p1 = (0 : Int32)
  · replace h := it hs_1 h
    refine a_tsw C eX9_about_1 (0 : Int32) hs_1 (by decide) (by decide) rfl (tgt := 64) rfl ?_
    refine a_aload_n C eX9_about_64 rfl ?_
    refine a_getR C eX9_about_65 fX9_20 sh_0 rfl ?_
    refine a_getI C eX9_about_68 fX9_107 sh_2 rfl ?_
    exact rt_p R eX9_about_71 h nb_int
  replace h := ie hs_1 h
  by_cases hs_2 : p1 = (1 : Int32)
  · replace h := it hs_2 h
    refine a_tsw C eX9_about_1 (1 : Int32) hs_2 (by decide) (by decide) rfl (tgt := 72) rfl ?_
    refine a_aload_n C eX9_about_72 rfl ?_
    refine a_getR C eX9_about_73 fX9_20 sh_0 rfl ?_
    refine a_getI C eX9_about_76 fX9_116 sh_2 rfl ?_
    exact rt_p R eX9_about_79 h nb_int
  replace h := ie hs_2 h
  by_cases hs_3 : p1 = (2 : Int32)
  · replace h := it hs_3 h
    refine a_tsw C eX9_about_1 (2 : Int32) hs_3 (by decide) (by decide) rfl (tgt := 80) rfl ?_
    refine a_aload_n C eX9_about_80 rfl ?_
    refine a_getR C eX9_about_81 fX9_20 sh_0 rfl ?_
    refine a_getI C eX9_about_84 fX9_119 sh_2 rfl ?_
    exact rt_p R eX9_about_87 h nb_int
  replace h := ie hs_3 h
  by_cases hs_4 : p1 = (3 : Int32)
  · replace h := it hs_4 h
    refine a_tsw C eX9_about_1 (3 : Int32) hs_4 (by decide) (by decide) rfl (tgt := 88) rfl ?_
    refine a_aload_n C eX9_about_88 rfl ?_
    refine a_getR C eX9_about_89 fX9_20 sh_0 rfl ?_
    refine a_getI C eX9_about_92 fX9_122 sh_2 rfl ?_
    exact rt_p R eX9_about_95 h nb_int
  replace h := ie hs_4 h
  by_cases hs_5 : p1 = (4 : Int32)
  · replace h := it hs_5 h
    refine a_tsw C eX9_about_1 (4 : Int32) hs_5 (by decide) (by decide) rfl (tgt := 96) rfl ?_
    refine a_aload_n C eX9_about_96 rfl ?_
    refine a_getR C eX9_about_97 fX9_20 sh_0 rfl ?_
    refine a_getI C eX9_about_100 fX9_125 sh_2 rfl ?_
    exact rt_p R eX9_about_103 h nb_int
  replace h := ie hs_5 h
  by_cases hs_6 : p1 = (5 : Int32)
  · replace h := it hs_6 h
    refine a_tsw C eX9_about_1 (5 : Int32) hs_6 (by decide) (by decide) rfl (tgt := 104) rfl ?_
    refine a_aload_n C eX9_about_104 rfl ?_
    refine a_getR C eX9_about_105 fX9_20 sh_0 rfl ?_
    refine a_getI C eX9_about_108 fX9_128 sh_2 rfl ?_
    exact rt_p R eX9_about_111 h nb_int
  replace h := ie hs_6 h
  by_cases hs_7 : p1 = (6 : Int32)
  · replace h := it hs_7 h
    refine a_tsw C eX9_about_1 (6 : Int32) hs_7 (by decide) (by decide) rfl (tgt := 112) rfl ?_
    refine a_aload_n C eX9_about_112 rfl ?_
    refine a_getR C eX9_about_113 fX9_20 sh_0 rfl ?_
    refine a_getI C eX9_about_116 fX9_131 sh_2 rfl ?_
    exact rt_p R eX9_about_119 h nb_int
  replace h := ie hs_7 h
  by_cases hs_8 : p1 = (7 : Int32)
  · replace h := it hs_8 h
    refine a_tsw C eX9_about_1 (7 : Int32) hs_8 (by decide) (by decide) rfl (tgt := 120) rfl ?_
    refine a_aload_n C eX9_about_120 rfl ?_
    refine a_getR C eX9_about_121 fX9_20 sh_0 rfl ?_
    refine a_getI C eX9_about_124 fX9_134 sh_2 rfl ?_
    exact rt_p R eX9_about_127 h nb_int
  replace h := ie hs_8 h
  by_cases hs_9 : p1 = (8 : Int32)
  · replace h := it hs_9 h
    refine a_tsw C eX9_about_1 (8 : Int32) hs_9 (by decide) (by decide) rfl (tgt := 128) rfl ?_
    refine a_aload_n C eX9_about_128 rfl ?_
    refine a_getR C eX9_about_129 fX9_83 sh_0 rfl ?_
    refine a_getI C eX9_about_132 fX9_137 sh_61 rfl ?_
    exact rt_p R eX9_about_135 h nb_int
  replace h := ie hs_9 h
  by_cases hs_10 : p1 = (9 : Int32)
  · replace h := it hs_10 h
    refine a_tsw C eX9_about_1 (9 : Int32) hs_10 (by decide) (by decide) rfl (tgt := 136) rfl ?_
    refine a_aload_n C eX9_about_136 rfl ?_
    refine a_getI C eX9_about_137 fX9_13 sh_0 rfl ?_
    exact rt_p R eX9_about_140 h nb_int
  replace h := ie hs_10 h
  by_cases hs_11 : p1 = (10 : Int32)
  · replace h := it hs_11 h
    refine a_tsw C eX9_about_1 (10 : Int32) hs_11 (by decide) (by decide) rfl (tgt := 141) rfl ?_
    refine a_aload_n C eX9_about_141 rfl ?_
    refine a_getR C eX9_about_142 fX9_20 sh_0 rfl ?_
    refine a_getR C eX9_about_145 fX9_140 sh_2 rfl ?_
    refine a_bipush C eX9_about_148 (6 : Int32) c_bipush_6 ?_
    refine a_ialdK C eX9_about_150 sh_3 ix_6 (Nat.le_of_ble_eq_true rfl) ?_
    exact rt_p R eX9_about_151 h nb_int
  replace h := ie hs_11 h
  by_cases hs_12 : p1 = (11 : Int32)
  · replace h := it hs_12 h
    refine a_tsw C eX9_about_1 (11 : Int32) hs_12 (by decide) (by decide) rfl (tgt := 152) rfl ?_
    refine a_aload_n C eX9_about_152 rfl ?_
    refine a_getR C eX9_about_153 fX9_20 sh_0 rfl ?_
    refine a_getR C eX9_about_156 fX9_143 sh_2 rfl ?_
    refine a_bipush C eX9_about_159 (6 : Int32) c_bipush_6 ?_
    refine a_ialdK C eX9_about_161 sh_4 ix_6 (Nat.le_of_ble_eq_true rfl) ?_
    exact rt_p R eX9_about_162 h nb_int
  replace h := ie hs_12 h
  refine a_tsw_out C eX9_about_1 12 rfl (fun j hj => match j, hj with | 0, _ => lv_neT hs_1 rfl | 1, _ => lv_neT hs_2 rfl | 2, _ => lv_neT hs_3 rfl | 3, _ => lv_neT hs_4 rfl | 4, _ => lv_neT hs_5 rfl | 5, _ => lv_neT hs_6 rfl | 6, _ => lv_neT hs_7 rfl | 7, _ => lv_neT hs_8 rfl | 8, _ => lv_neT hs_9 rfl | 9, _ => lv_neT hs_10 rfl | 10, _ => lv_neT hs_11 rfl | 11, _ => lv_neT hs_12 rfl | j + 12, hj => absurd hj (by omega)) (tgt := 163) rfl ?_
  refine a_iconst C eX9_about_163 (-1 : Int32) c_iconst_m1 ?_
  exact rt_p R eX9_about_164 h nb_int
/-! ShelfDrives.shop(II)I -/
def XX9_shop (p1 : Int32) (p2 : Int32) (σ : Sg) : Option Int32 := b1 (XX7_hasShop p1 σ) (fun (r_1 : Int32) => if r_1 = 0 then (some (-1 : Int32)) else (if p2 < (10 : Int32) then (if p2 = (0 : Int32) then (if ib p1 7 then some (σ 3 p1.toNatClampNeg) else none) else (if p2 = (1 : Int32) then (if ib p1 7 then some (σ 4 p1.toNatClampNeg) else none) else (if p2 = (2 : Int32) then (if ib p1 6 then some (σ 5 p1.toNatClampNeg) else none) else (if p2 = (3 : Int32) then (if ib p1 6 then some (σ 6 p1.toNatClampNeg) else none) else (if p2 = (4 : Int32) then (if ib p1 6 then some (σ 39 p1.toNatClampNeg) else none) else (if p2 = (5 : Int32) then (b1 (XX8_between p1 (6 : Int32) σ) (fun (r_12 : Int32) => some r_12)) else (some (-1 : Int32)))))))) else (b1 (XX7_hasDay (p2 - (10 : Int32)) σ) (fun (r_14 : Int32) => if r_14 = 0 then (some (-1 : Int32)) else (b1 (XX9_cellOf p1 (p2 - (10 : Int32))) (fun (r_15 : Int32) => if ib r_15 84 then some (σ 7 r_15.toNatClampNeg) else none))))))
theorem kX9_shop {ext : List Shp} {p1 : Int32} {p2 : Int32} {σ : Sg} {rr : Int32}  (h : XX9_shop p1 p2 σ = some rr) : Ci MX9_shop [.ref 0, .int p1, .int p2] (SHc ++ ext) σ (rr, σ) := by
  refine Ci.start rfl rfl (Nat.le_of_ble_eq_true rfl) ?_
  intro X ad C R
  replace C : Cx X cX9_shop 3 RX9 (some .int) { frames := 1, cells := 0, slots := 0, locals := 22 } := C
  replace R : Ri X cX9_shop (some .int) ad (SHc ++ ext) (rr, σ) := R
  show AW X 0 0 ad (SHc ++ ext) σ 0 [some (.ref 0), some (.int p1), some (.int p2)] []
  rw [XX9_shop] at h
  refine a_aload_n C eX9_shop_0 rfl ?_
  refine a_getR C eX9_shop_1 fX9_20 sh_0 rfl ?_
  refine a_iload_n C eX9_shop_4 rfl ?_
  obtain ⟨r_1, hq, h⟩ := b1_e h
  refine a_cVi1 C eX9_shop_5 wX9_146 ⟨Nat.le_of_ble_eq_true rfl, Nat.le_of_ble_eq_true rfl, rfl, rfl⟩ rfl sh_2 rfl (kX7_hasShop hq) (Nat.le_of_ble_eq_true rfl) ?_
  refine a_if_ne C eX9_shop_8 (fun hc => ?_) (fun hc => ?_)
  · replace h := ie hc h
    refine a_iload_n C eX9_shop_13 rfl ?_
    refine a_bipush C eX9_shop_14 (10 : Int32) c_bipush_10 ?_
    refine a_icmp_lt C eX9_shop_16 (fun hc => ?_) (fun hc => ?_)
    · replace h := it hc h
      refine a_iload_n C eX9_shop_54 rfl ?_
      by_cases hs_3 : p2 = (0 : Int32)
      · replace h := it hs_3 h
        refine a_tsw C eX9_shop_55 (0 : Int32) hs_3 (by decide) (by decide) rfl (tgt := 92) rfl ?_
        refine a_aload_n C eX9_shop_92 rfl ?_
        refine a_getR C eX9_shop_93 fX9_20 sh_0 rfl ?_
        refine a_getR C eX9_shop_96 fX9_140 sh_2 rfl ?_
        refine a_iload_n C eX9_shop_99 rfl ?_
        obtain ⟨hb_2, h⟩ := gd h
        refine a_iald C eX9_shop_100 sh_3 hb_2 ?_
        exact rt_p R eX9_shop_101 h nb_int
      replace h := ie hs_3 h
      by_cases hs_5 : p2 = (1 : Int32)
      · replace h := it hs_5 h
        refine a_tsw C eX9_shop_55 (1 : Int32) hs_5 (by decide) (by decide) rfl (tgt := 102) rfl ?_
        refine a_aload_n C eX9_shop_102 rfl ?_
        refine a_getR C eX9_shop_103 fX9_20 sh_0 rfl ?_
        refine a_getR C eX9_shop_106 fX9_143 sh_2 rfl ?_
        refine a_iload_n C eX9_shop_109 rfl ?_
        obtain ⟨hb_4, h⟩ := gd h
        refine a_iald C eX9_shop_110 sh_4 hb_4 ?_
        exact rt_p R eX9_shop_111 h nb_int
      replace h := ie hs_5 h
      by_cases hs_7 : p2 = (2 : Int32)
      · replace h := it hs_7 h
        refine a_tsw C eX9_shop_55 (2 : Int32) hs_7 (by decide) (by decide) rfl (tgt := 112) rfl ?_
        refine a_aload_n C eX9_shop_112 rfl ?_
        refine a_getR C eX9_shop_113 fX9_20 sh_0 rfl ?_
        refine a_getR C eX9_shop_116 fX9_160 sh_2 rfl ?_
        refine a_iload_n C eX9_shop_119 rfl ?_
        obtain ⟨hb_6, h⟩ := gd h
        refine a_iald C eX9_shop_120 sh_5 hb_6 ?_
        exact rt_p R eX9_shop_121 h nb_int
      replace h := ie hs_7 h
      by_cases hs_9 : p2 = (3 : Int32)
      · replace h := it hs_9 h
        refine a_tsw C eX9_shop_55 (3 : Int32) hs_9 (by decide) (by decide) rfl (tgt := 122) rfl ?_
        refine a_aload_n C eX9_shop_122 rfl ?_
        refine a_getR C eX9_shop_123 fX9_20 sh_0 rfl ?_
        refine a_getR C eX9_shop_126 fX9_163 sh_2 rfl ?_
        refine a_iload_n C eX9_shop_129 rfl ?_
        obtain ⟨hb_8, h⟩ := gd h
        refine a_iald C eX9_shop_130 sh_6 hb_8 ?_
        exact rt_p R eX9_shop_131 h nb_int
      replace h := ie hs_9 h
      by_cases hs_11 : p2 = (4 : Int32)
      · replace h := it hs_11 h
        refine a_tsw C eX9_shop_55 (4 : Int32) hs_11 (by decide) (by decide) rfl (tgt := 132) rfl ?_
        refine a_aload_n C eX9_shop_132 rfl ?_
        refine a_getR C eX9_shop_133 fX9_59 sh_0 rfl ?_
        refine a_getR C eX9_shop_136 fX9_166 sh_38 rfl ?_
        refine a_iload_n C eX9_shop_139 rfl ?_
        obtain ⟨hb_10, h⟩ := gd h
        refine a_iald C eX9_shop_140 sh_39 hb_10 ?_
        exact rt_p R eX9_shop_141 h nb_int
      replace h := ie hs_11 h
      by_cases hs_13 : p2 = (5 : Int32)
      · replace h := it hs_13 h
        refine a_tsw C eX9_shop_55 (5 : Int32) hs_13 (by decide) (by decide) rfl (tgt := 142) rfl ?_
        refine a_aload_n C eX9_shop_142 rfl ?_
        refine a_getR C eX9_shop_143 fX9_34 sh_0 rfl ?_
        refine a_iload_n C eX9_shop_146 rfl ?_
        refine a_bipush C eX9_shop_147 (6 : Int32) c_bipush_6 ?_
        obtain ⟨r_12, hq, h⟩ := b1_e h
        refine a_cVi2 C eX9_shop_149 wX9_169 ⟨Nat.le_of_ble_eq_true rfl, Nat.le_of_ble_eq_true rfl, rfl, rfl⟩ rfl sh_25 rfl (kX8_between hq) (Nat.le_of_ble_eq_true rfl) ?_
        exact rt_p R eX9_shop_152 h nb_int
      replace h := ie hs_13 h
      refine a_tsw_out C eX9_shop_55 6 rfl (fun j hj => match j, hj with | 0, _ => lv_neT hs_3 rfl | 1, _ => lv_neT hs_5 rfl | 2, _ => lv_neT hs_7 rfl | 3, _ => lv_neT hs_9 rfl | 4, _ => lv_neT hs_11 rfl | 5, _ => lv_neT hs_13 rfl | j + 6, hj => absurd hj (by omega)) (tgt := 153) rfl ?_
      refine a_iconst C eX9_shop_153 (-1 : Int32) c_iconst_m1 ?_
      exact rt_p R eX9_shop_154 h nb_int
    · replace h := ie hc h
      refine a_aload_n C eX9_shop_19 rfl ?_
      refine a_getR C eX9_shop_20 fX9_20 sh_0 rfl ?_
      refine a_iload_n C eX9_shop_23 rfl ?_
      refine a_bipush C eX9_shop_24 (10 : Int32) c_bipush_10 ?_
      refine a_isub C eX9_shop_26 ?_
      obtain ⟨r_14, hq, h⟩ := b1_e h
      refine a_cVi1 C eX9_shop_27 wX9_150 ⟨Nat.le_of_ble_eq_true rfl, Nat.le_of_ble_eq_true rfl, rfl, rfl⟩ rfl sh_2 rfl (kX7_hasDay hq) (Nat.le_of_ble_eq_true rfl) ?_
      refine a_if_eq C eX9_shop_30 (fun hc => ?_) (fun hc => ?_)
      · replace h := it hc h
        refine a_iconst C eX9_shop_52 (-1 : Int32) c_iconst_m1 ?_
        exact rt_p R eX9_shop_53 h nb_int
      · replace h := ie hc h
        refine a_aload_n C eX9_shop_33 rfl ?_
        refine a_getR C eX9_shop_34 fX9_20 sh_0 rfl ?_
        refine a_getR C eX9_shop_37 fX9_153 sh_2 rfl ?_
        refine a_iload_n C eX9_shop_40 rfl ?_
        refine a_iload_n C eX9_shop_41 rfl ?_
        refine a_bipush C eX9_shop_42 (10 : Int32) c_bipush_10 ?_
        refine a_isub C eX9_shop_44 ?_
        obtain ⟨r_15, hq, h⟩ := b1_e h
        refine a_cSi2 C eX9_shop_45 wX9_156 ⟨Nat.le_of_ble_eq_true rfl, Nat.le_of_ble_eq_true rfl, rfl, rfl⟩ rfl (kX9_cellOf hq) (Nat.le_of_ble_eq_true rfl) ?_
        obtain ⟨hb_16, h⟩ := gd h
        refine a_iald C eX9_shop_48 sh_7 hb_16 ?_
        refine a_goto C eX9_shop_49 ?_
        exact rt_p R eX9_shop_53 h nb_int
  · replace h := it hc h
    refine a_iconst C eX9_shop_11 (-1 : Int32) c_iconst_m1 ?_
    exact rt_p R eX9_shop_12 h nb_int
/-! ShelfDrives.hasCell(II)Z -/
def XX9_hasCell (p1 : Int32) (p2 : Int32) (σ : Sg) : Option Int32 := b1 (XX7_hasShop p1 σ) (fun (r_1 : Int32) => lt (some (0 : Int32)) (fun (k26_2 : Option Int32) => if r_1 = 0 then (k26_2) else (b1 (XX7_hasDay p2 σ) (fun (r_3 : Int32) => if r_3 = 0 then (k26_2) else (some (1 : Int32))))))
theorem kX9_hasCell {ext : List Shp} {p1 : Int32} {p2 : Int32} {σ : Sg} {rr : Int32}  (h : XX9_hasCell p1 p2 σ = some rr) : Ci MX9_hasCell [.ref 0, .int p1, .int p2] (SHc ++ ext) σ (rr, σ) := by
  refine Ci.start rfl rfl (Nat.le_of_ble_eq_true rfl) ?_
  intro X ad C R
  replace C : Cx X cX9_hasCell 3 RX9 (some .boolean) { frames := 1, cells := 0, slots := 0, locals := 21 } := C
  replace R : Ri X cX9_hasCell (some .boolean) ad (SHc ++ ext) (rr, σ) := R
  show AW X 0 0 ad (SHc ++ ext) σ 0 [some (.ref 0), some (.int p1), some (.int p2)] []
  rw [XX9_hasCell] at h
  refine a_aload_n C eX9_hasCell_0 rfl ?_
  refine a_getR C eX9_hasCell_1 fX9_20 sh_0 rfl ?_
  refine a_iload_n C eX9_hasCell_4 rfl ?_
  obtain ⟨r_1, hq, h⟩ := b1_e h
  refine a_cVi1 C eX9_hasCell_5 wX9_146 ⟨Nat.le_of_ble_eq_true rfl, Nat.le_of_ble_eq_true rfl, rfl, rfl⟩ rfl sh_2 rfl (kX7_hasShop hq) (Nat.le_of_ble_eq_true rfl) ?_
  refine jn (fun (kk : Option Int32) => kk = some rr → AW X 0 0 ad (SHc ++ ext) σ 26 [none, none, none] []) h ?_ (fun k26_2 hk26_2 h => ?_)
  · intro h
    refine a_iconst C eX9_hasCell_26 (0 : Int32) c_iconst_0 ?_
    exact rt_p R eX9_hasCell_27 h nb_0
  refine a_if_eq C eX9_hasCell_8 (fun hc => ?_) (fun hc => ?_)
  · replace h := it hc h
    exact a_less (lle_drop (lle_drop (lle_drop lle_nil))) (hk26_2 h)
  · replace h := ie hc h
    refine a_aload_n C eX9_hasCell_11 rfl ?_
    refine a_getR C eX9_hasCell_12 fX9_20 sh_0 rfl ?_
    refine a_iload_n C eX9_hasCell_15 rfl ?_
    obtain ⟨r_3, hq, h⟩ := b1_e h
    refine a_cVi1 C eX9_hasCell_16 wX9_150 ⟨Nat.le_of_ble_eq_true rfl, Nat.le_of_ble_eq_true rfl, rfl, rfl⟩ rfl sh_2 rfl (kX7_hasDay hq) (Nat.le_of_ble_eq_true rfl) ?_
    refine a_if_eq C eX9_hasCell_19 (fun hc => ?_) (fun hc => ?_)
    · replace h := it hc h
      exact a_less (lle_drop (lle_drop (lle_drop lle_nil))) (hk26_2 h)
    · replace h := ie hc h
      refine a_iconst C eX9_hasCell_22 (1 : Int32) c_iconst_1 ?_
      refine a_goto C eX9_hasCell_23 ?_
      exact rt_p R eX9_hasCell_27 h nb_1
/-! ShelfDrives.load(II)I -/
def XX9_load (p1 : Int32) (p2 : Int32) (σ : Sg) : Option Int32 := b1 (XX9_hasCell p1 p2 σ) (fun (r_1 : Int32) => if r_1 = 0 then (some (-1 : Int32)) else (b1 (XX9_cellOf p1 p2) (fun (r_2 : Int32) => if ib r_2 84 then some (σ 41 r_2.toNatClampNeg) else none)))
theorem kX9_load {ext : List Shp} {p1 : Int32} {p2 : Int32} {σ : Sg} {rr : Int32}  (h : XX9_load p1 p2 σ = some rr) : Ci MX9_load [.ref 0, .int p1, .int p2] (SHc ++ ext) σ (rr, σ) := by
  refine Ci.start rfl rfl (Nat.le_of_ble_eq_true rfl) ?_
  intro X ad C R
  replace C : Cx X cX9_load 3 RX9 (some .int) { frames := 2, cells := 0, slots := 0, locals := 43 } := C
  replace R : Ri X cX9_load (some .int) ad (SHc ++ ext) (rr, σ) := R
  show AW X 0 0 ad (SHc ++ ext) σ 0 [some (.ref 0), some (.int p1), some (.int p2)] []
  rw [XX9_load] at h
  refine a_aload_n C eX9_load_0 rfl ?_
  refine a_iload_n C eX9_load_1 rfl ?_
  refine a_iload_n C eX9_load_2 rfl ?_
  obtain ⟨r_1, hq, h⟩ := b1_e h
  refine a_cVi2 C eX9_load_3 wX9_172 ⟨Nat.le_of_ble_eq_true rfl, Nat.le_of_ble_eq_true rfl, rfl, rfl⟩ rfl sh_0 rfl (kX9_hasCell hq) (Nat.le_of_ble_eq_true rfl) ?_
  refine a_if_eq C eX9_load_6 (fun hc => ?_) (fun hc => ?_)
  · replace h := it hc h
    refine a_iconst C eX9_load_25 (-1 : Int32) c_iconst_m1 ?_
    exact rt_p R eX9_load_26 h nb_int
  · replace h := ie hc h
    refine a_aload_n C eX9_load_9 rfl ?_
    refine a_getR C eX9_load_10 fX9_59 sh_0 rfl ?_
    refine a_getR C eX9_load_13 fX9_176 sh_38 rfl ?_
    refine a_iload_n C eX9_load_16 rfl ?_
    refine a_iload_n C eX9_load_17 rfl ?_
    obtain ⟨r_2, hq, h⟩ := b1_e h
    refine a_cSi2 C eX9_load_18 wX9_156 ⟨Nat.le_of_ble_eq_true rfl, Nat.le_of_ble_eq_true rfl, rfl, rfl⟩ rfl (kX9_cellOf hq) (Nat.le_of_ble_eq_true rfl) ?_
    obtain ⟨hb_3, h⟩ := gd h
    refine a_iald C eX9_load_21 sh_41 hb_3 ?_
    refine a_goto C eX9_load_22 ?_
    exact rt_p R eX9_load_26 h nb_int
/-! ShelfDrives.stock(II)I -/
def XX9_stock (p1 : Int32) (p2 : Int32) (σ : Sg) : Option Int32 := b1 (XX9_hasCell p1 p2 σ) (fun (r_1 : Int32) => if r_1 = 0 then (some (-1 : Int32)) else (b1 (XX9_cellOf p1 p2) (fun (r_2 : Int32) => if ib r_2 84 then some (σ 42 r_2.toNatClampNeg) else none)))
theorem kX9_stock {ext : List Shp} {p1 : Int32} {p2 : Int32} {σ : Sg} {rr : Int32}  (h : XX9_stock p1 p2 σ = some rr) : Ci MX9_stock [.ref 0, .int p1, .int p2] (SHc ++ ext) σ (rr, σ) := by
  refine Ci.start rfl rfl (Nat.le_of_ble_eq_true rfl) ?_
  intro X ad C R
  replace C : Cx X cX9_stock 3 RX9 (some .int) { frames := 2, cells := 0, slots := 0, locals := 43 } := C
  replace R : Ri X cX9_stock (some .int) ad (SHc ++ ext) (rr, σ) := R
  show AW X 0 0 ad (SHc ++ ext) σ 0 [some (.ref 0), some (.int p1), some (.int p2)] []
  rw [XX9_stock] at h
  refine a_aload_n C eX9_stock_0 rfl ?_
  refine a_iload_n C eX9_stock_1 rfl ?_
  refine a_iload_n C eX9_stock_2 rfl ?_
  obtain ⟨r_1, hq, h⟩ := b1_e h
  refine a_cVi2 C eX9_stock_3 wX9_172 ⟨Nat.le_of_ble_eq_true rfl, Nat.le_of_ble_eq_true rfl, rfl, rfl⟩ rfl sh_0 rfl (kX9_hasCell hq) (Nat.le_of_ble_eq_true rfl) ?_
  refine a_if_eq C eX9_stock_6 (fun hc => ?_) (fun hc => ?_)
  · replace h := it hc h
    refine a_iconst C eX9_stock_25 (-1 : Int32) c_iconst_m1 ?_
    exact rt_p R eX9_stock_26 h nb_int
  · replace h := ie hc h
    refine a_aload_n C eX9_stock_9 rfl ?_
    refine a_getR C eX9_stock_10 fX9_59 sh_0 rfl ?_
    refine a_getR C eX9_stock_13 fX9_179 sh_38 rfl ?_
    refine a_iload_n C eX9_stock_16 rfl ?_
    refine a_iload_n C eX9_stock_17 rfl ?_
    obtain ⟨r_2, hq, h⟩ := b1_e h
    refine a_cSi2 C eX9_stock_18 wX9_156 ⟨Nat.le_of_ble_eq_true rfl, Nat.le_of_ble_eq_true rfl, rfl, rfl⟩ rfl (kX9_cellOf hq) (Nat.le_of_ble_eq_true rfl) ?_
    obtain ⟨hb_3, h⟩ := gd h
    refine a_iald C eX9_stock_21 sh_42 hb_3 ?_
    refine a_goto C eX9_stock_22 ?_
    exact rt_p R eX9_stock_26 h nb_int
/-! ShelfDrives.lost(II)I -/
def XX9_lost (p1 : Int32) (p2 : Int32) (σ : Sg) : Option Int32 := b1 (XX9_hasCell p1 p2 σ) (fun (r_1 : Int32) => if r_1 = 0 then (some (-1 : Int32)) else (b1 (XX9_cellOf p1 p2) (fun (r_2 : Int32) => if ib r_2 84 then some (σ 43 r_2.toNatClampNeg) else none)))
theorem kX9_lost {ext : List Shp} {p1 : Int32} {p2 : Int32} {σ : Sg} {rr : Int32}  (h : XX9_lost p1 p2 σ = some rr) : Ci MX9_lost [.ref 0, .int p1, .int p2] (SHc ++ ext) σ (rr, σ) := by
  refine Ci.start rfl rfl (Nat.le_of_ble_eq_true rfl) ?_
  intro X ad C R
  replace C : Cx X cX9_lost 3 RX9 (some .int) { frames := 2, cells := 0, slots := 0, locals := 43 } := C
  replace R : Ri X cX9_lost (some .int) ad (SHc ++ ext) (rr, σ) := R
  show AW X 0 0 ad (SHc ++ ext) σ 0 [some (.ref 0), some (.int p1), some (.int p2)] []
  rw [XX9_lost] at h
  refine a_aload_n C eX9_lost_0 rfl ?_
  refine a_iload_n C eX9_lost_1 rfl ?_
  refine a_iload_n C eX9_lost_2 rfl ?_
  obtain ⟨r_1, hq, h⟩ := b1_e h
  refine a_cVi2 C eX9_lost_3 wX9_172 ⟨Nat.le_of_ble_eq_true rfl, Nat.le_of_ble_eq_true rfl, rfl, rfl⟩ rfl sh_0 rfl (kX9_hasCell hq) (Nat.le_of_ble_eq_true rfl) ?_
  refine a_if_eq C eX9_lost_6 (fun hc => ?_) (fun hc => ?_)
  · replace h := it hc h
    refine a_iconst C eX9_lost_25 (-1 : Int32) c_iconst_m1 ?_
    exact rt_p R eX9_lost_26 h nb_int
  · replace h := ie hc h
    refine a_aload_n C eX9_lost_9 rfl ?_
    refine a_getR C eX9_lost_10 fX9_59 sh_0 rfl ?_
    refine a_getR C eX9_lost_13 fX9_182 sh_38 rfl ?_
    refine a_iload_n C eX9_lost_16 rfl ?_
    refine a_iload_n C eX9_lost_17 rfl ?_
    obtain ⟨r_2, hq, h⟩ := b1_e h
    refine a_cSi2 C eX9_lost_18 wX9_156 ⟨Nat.le_of_ble_eq_true rfl, Nat.le_of_ble_eq_true rfl, rfl, rfl⟩ rfl (kX9_cellOf hq) (Nat.le_of_ble_eq_true rfl) ?_
    obtain ⟨hb_3, h⟩ := gd h
    refine a_iald C eX9_lost_21 sh_43 hb_3 ?_
    refine a_goto C eX9_lost_22 ?_
    exact rt_p R eX9_lost_26 h nb_int
/-! ShelfDrives.of(II)I -/
def XX9_of (p1 : Int32) (p2 : Int32) (σ : Sg) : Option Int32 := b1 (XX7_hasShop p1 σ) (fun (r_1 : Int32) => if r_1 = 0 then (some (-1 : Int32)) else (if p2 = (0 : Int32) then (b1 (XX5_sumOf 38 41 p1 σ) (fun (r_2 : Int32) => some r_2)) else (if p2 = (1 : Int32) then (b1 (XX5_sumOf 38 40 p1 σ) (fun (r_4 : Int32) => b1 (XX5_sumOf 38 43 p1 σ) (fun (r_5 : Int32) => some (r_4 - r_5)))) else (if p2 = (2 : Int32) then (b1 (XX5_sumOf 38 43 p1 σ) (fun (r_7 : Int32) => some r_7)) else (if p2 = (3 : Int32) then (b1 (XX5_idleVisits 38 p1 σ) (fun (r_9 : Int32) => some r_9)) else (some (-1 : Int32)))))))
theorem kX9_of {ext : List Shp} {p1 : Int32} {p2 : Int32} {σ : Sg} {rr : Int32}  (h : XX9_of p1 p2 σ = some rr) : Ci MX9_of [.ref 0, .int p1, .int p2] (SHc ++ ext) σ (rr, σ) := by
  refine Ci.start rfl rfl (Nat.le_of_ble_eq_true rfl) ?_
  intro X ad C R
  replace C : Cx X cX9_of 3 RX9 (some .int) { frames := 2, cells := 0, slots := 0, locals := 45 } := C
  replace R : Ri X cX9_of (some .int) ad (SHc ++ ext) (rr, σ) := R
  show AW X 0 0 ad (SHc ++ ext) σ 0 [some (.ref 0), some (.int p1), some (.int p2)] []
  rw [XX9_of] at h
  refine a_aload_n C eX9_of_0 rfl ?_
  refine a_getR C eX9_of_1 fX9_20 sh_0 rfl ?_
  refine a_iload_n C eX9_of_4 rfl ?_
  obtain ⟨r_1, hq, h⟩ := b1_e h
  refine a_cVi1 C eX9_of_5 wX9_146 ⟨Nat.le_of_ble_eq_true rfl, Nat.le_of_ble_eq_true rfl, rfl, rfl⟩ rfl sh_2 rfl (kX7_hasShop hq) (Nat.le_of_ble_eq_true rfl) ?_
  refine a_if_ne C eX9_of_8 (fun hc => ?_) (fun hc => ?_)
  · replace h := ie hc h
    refine a_iload_n C eX9_of_13 rfl ?_
    by_cases hs_3 : p2 = (0 : Int32)
    · replace h := it hs_3 h
      refine a_tsw C eX9_of_14 (0 : Int32) hs_3 (by decide) (by decide) rfl (tgt := 44) rfl ?_
      refine a_aload_n C eX9_of_44 rfl ?_
      refine a_getR C eX9_of_45 fX9_59 sh_0 rfl ?_
      refine a_aload_n C eX9_of_48 rfl ?_
      refine a_getR C eX9_of_49 fX9_59 sh_0 rfl ?_
      refine a_getR C eX9_of_52 fX9_176 sh_38 rfl ?_
      refine a_iload_n C eX9_of_55 rfl ?_
      obtain ⟨r_2, hq, h⟩ := b1_e h
      refine a_cVi2 C eX9_of_56 wX9_185 ⟨Nat.le_of_ble_eq_true rfl, Nat.le_of_ble_eq_true rfl, rfl, rfl⟩ rfl sh_38 rfl (kX5_sumOf is_X5_38 sh_41 hq) (Nat.le_of_ble_eq_true rfl) ?_
      exact rt_p R eX9_of_59 h nb_int
    replace h := ie hs_3 h
    by_cases hs_6 : p2 = (1 : Int32)
    · replace h := it hs_6 h
      refine a_tsw C eX9_of_14 (1 : Int32) hs_6 (by decide) (by decide) rfl (tgt := 60) rfl ?_
      refine a_aload_n C eX9_of_60 rfl ?_
      refine a_getR C eX9_of_61 fX9_59 sh_0 rfl ?_
      refine a_aload_n C eX9_of_64 rfl ?_
      refine a_getR C eX9_of_65 fX9_59 sh_0 rfl ?_
      refine a_getR C eX9_of_68 fX9_189 sh_38 rfl ?_
      refine a_iload_n C eX9_of_71 rfl ?_
      obtain ⟨r_4, hq, h⟩ := b1_e h
      refine a_cVi2 C eX9_of_72 wX9_185 ⟨Nat.le_of_ble_eq_true rfl, Nat.le_of_ble_eq_true rfl, rfl, rfl⟩ rfl sh_38 rfl (kX5_sumOf is_X5_38 sh_40 hq) (Nat.le_of_ble_eq_true rfl) ?_
      refine a_aload_n C eX9_of_75 rfl ?_
      refine a_getR C eX9_of_76 fX9_59 sh_0 rfl ?_
      refine a_aload_n C eX9_of_79 rfl ?_
      refine a_getR C eX9_of_80 fX9_59 sh_0 rfl ?_
      refine a_getR C eX9_of_83 fX9_182 sh_38 rfl ?_
      refine a_iload_n C eX9_of_86 rfl ?_
      obtain ⟨r_5, hq, h⟩ := b1_e h
      refine a_cVi2 C eX9_of_87 wX9_185 ⟨Nat.le_of_ble_eq_true rfl, Nat.le_of_ble_eq_true rfl, rfl, rfl⟩ rfl sh_38 rfl (kX5_sumOf is_X5_38 sh_43 hq) (Nat.le_of_ble_eq_true rfl) ?_
      refine a_isub C eX9_of_90 ?_
      exact rt_p R eX9_of_91 h nb_int
    replace h := ie hs_6 h
    by_cases hs_8 : p2 = (2 : Int32)
    · replace h := it hs_8 h
      refine a_tsw C eX9_of_14 (2 : Int32) hs_8 (by decide) (by decide) rfl (tgt := 92) rfl ?_
      refine a_aload_n C eX9_of_92 rfl ?_
      refine a_getR C eX9_of_93 fX9_59 sh_0 rfl ?_
      refine a_aload_n C eX9_of_96 rfl ?_
      refine a_getR C eX9_of_97 fX9_59 sh_0 rfl ?_
      refine a_getR C eX9_of_100 fX9_182 sh_38 rfl ?_
      refine a_iload_n C eX9_of_103 rfl ?_
      obtain ⟨r_7, hq, h⟩ := b1_e h
      refine a_cVi2 C eX9_of_104 wX9_185 ⟨Nat.le_of_ble_eq_true rfl, Nat.le_of_ble_eq_true rfl, rfl, rfl⟩ rfl sh_38 rfl (kX5_sumOf is_X5_38 sh_43 hq) (Nat.le_of_ble_eq_true rfl) ?_
      exact rt_p R eX9_of_107 h nb_int
    replace h := ie hs_8 h
    by_cases hs_10 : p2 = (3 : Int32)
    · replace h := it hs_10 h
      refine a_tsw C eX9_of_14 (3 : Int32) hs_10 (by decide) (by decide) rfl (tgt := 108) rfl ?_
      refine a_aload_n C eX9_of_108 rfl ?_
      refine a_getR C eX9_of_109 fX9_59 sh_0 rfl ?_
      refine a_iload_n C eX9_of_112 rfl ?_
      obtain ⟨r_9, hq, h⟩ := b1_e h
      refine a_cVi1 C eX9_of_113 wX9_190 ⟨Nat.le_of_ble_eq_true rfl, Nat.le_of_ble_eq_true rfl, rfl, rfl⟩ rfl sh_38 rfl (kX5_idleVisits is_X5_38 hq) (Nat.le_of_ble_eq_true rfl) ?_
      exact rt_p R eX9_of_116 h nb_int
    replace h := ie hs_10 h
    refine a_tsw_out C eX9_of_14 4 rfl (fun j hj => match j, hj with | 0, _ => lv_neT hs_3 rfl | 1, _ => lv_neT hs_6 rfl | 2, _ => lv_neT hs_8 rfl | 3, _ => lv_neT hs_10 rfl | j + 4, hj => absurd hj (by omega)) (tgt := 117) rfl ?_
    refine a_iconst C eX9_of_117 (-1 : Int32) c_iconst_m1 ?_
    exact rt_p R eX9_of_118 h nb_int
  · replace h := it hc h
    refine a_iconst C eX9_of_11 (-1 : Int32) c_iconst_m1 ?_
    exact rt_p R eX9_of_12 h nb_int
