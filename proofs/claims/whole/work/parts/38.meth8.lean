/-! ShelfDrivesModel.together(II)I -/
def XX10_together (p1 : Int32) (p2 : Int32) (σ : Sg) : Option (Int32 × Sg) := lt (up σ 64 0 (0 : Int32)) (fun (σ_1 : Sg) => b1 (XX10_isShop p1 σ_1) (fun (r_2 : Int32) => if r_2 = 0 then (some ((-1000000 : Int32), σ_1)) else (b1 (XX10_isShop p2 σ_1) (fun (r_3 : Int32) => if r_3 = 0 then (some ((-1000000 : Int32), σ_1)) else (if p1 = p2 then (some ((-1000000 : Int32), σ_1)) else (b1 (XX10_costOfSet ((1 : Int32) <<< (p1 &&& 31)) σ_1) (fun (r_4 : Int32) => b1 (XX10_costOfSet ((1 : Int32) <<< (p2 &&& 31)) σ_1) (fun (r_5 : Int32) => b1 (XX10_costOfSet (((1 : Int32) <<< (p1 &&& 31)) ||| ((1 : Int32) <<< (p2 &&& 31))) σ_1) (fun (r_6 : Int32) => some ((r_4 + r_5) - r_6, σ_1))))))))))
theorem kX10_together {p1 : Int32} {p2 : Int32} {σ : Sg} {rr : (Int32 × Sg)}  (h : XX10_together p1 p2 σ = some rr) : Ci MX10_together [.ref 64, .int p1, .int p2] (SHc ++ SHm) σ rr := by
  refine Ci.start rfl rfl (Nat.le_of_ble_eq_true rfl) ?_
  intro X ad C R
  replace C : Cx X cX10_together 3 RX10 (some .int) { frames := 2, cells := 0, slots := 0, locals := 43 } := C
  replace R : Ri X cX10_together (some .int) ad (SHc ++ SHm) rr := R
  show AW X 0 0 ad (SHc ++ SHm) σ 0 [some (.ref 64), some (.int p1), some (.int p2)] []
  rw [XX10_together] at h
  refine a_aload_n C eX10_together_0 rfl ?_
  refine a_iconst C eX10_together_1 (0 : Int32) c_iconst_0 ?_
  refine a_putIL C eX10_together_2 fX10_95 ftyX10 rfl rfl sh_64 rfl h (fun σ_1 h => ?_)
  refine a_aload_n C eX10_together_5 rfl ?_
  refine a_iload_n C eX10_together_6 rfl ?_
  obtain ⟨r_2, hq, h⟩ := b1_e h
  refine a_cVi1 C eX10_together_7 wX10_233 ⟨Nat.le_of_ble_eq_true rfl, Nat.le_of_ble_eq_true rfl, rfl, rfl⟩ rfl sh_64 rfl (kX10_isShop hq) (Nat.le_of_ble_eq_true rfl) ?_
  refine a_if_eq C eX10_together_10 (fun hc => ?_) (fun hc => ?_)
  · replace h := it hc h
    refine a_ldc C eX10_together_26 (-1000000 : Int32) wkX10_236 ?_
    exact rt_i R eX10_together_28 h nb_int
  · replace h := ie hc h
    refine a_aload_n C eX10_together_13 rfl ?_
    refine a_iload_n C eX10_together_14 rfl ?_
    obtain ⟨r_3, hq, h⟩ := b1_e h
    refine a_cVi1 C eX10_together_15 wX10_233 ⟨Nat.le_of_ble_eq_true rfl, Nat.le_of_ble_eq_true rfl, rfl, rfl⟩ rfl sh_64 rfl (kX10_isShop hq) (Nat.le_of_ble_eq_true rfl) ?_
    refine a_if_eq C eX10_together_18 (fun hc => ?_) (fun hc => ?_)
    · replace h := it hc h
      refine a_ldc C eX10_together_26 (-1000000 : Int32) wkX10_236 ?_
      exact rt_i R eX10_together_28 h nb_int
    · replace h := ie hc h
      refine a_iload_n C eX10_together_21 rfl ?_
      refine a_iload_n C eX10_together_22 rfl ?_
      refine a_icmp_ne C eX10_together_23 (fun hc => ?_) (fun hc => ?_)
      · replace h := ie hc h
        refine a_aload_n C eX10_together_29 rfl ?_
        refine a_iconst C eX10_together_30 (1 : Int32) c_iconst_1 ?_
        refine a_iload_n C eX10_together_31 rfl ?_
        refine a_ishl C eX10_together_32 ?_
        obtain ⟨r_4, hq, h⟩ := b1_e h
        refine a_cVi1 C eX10_together_33 wX10_237 ⟨Nat.le_of_ble_eq_true rfl, Nat.le_of_ble_eq_true rfl, rfl, rfl⟩ rfl sh_64 rfl (kX10_costOfSet hq) (Nat.le_of_ble_eq_true rfl) ?_
        refine a_aload_n C eX10_together_36 rfl ?_
        refine a_iconst C eX10_together_37 (1 : Int32) c_iconst_1 ?_
        refine a_iload_n C eX10_together_38 rfl ?_
        refine a_ishl C eX10_together_39 ?_
        obtain ⟨r_5, hq, h⟩ := b1_e h
        refine a_cVi1 C eX10_together_40 wX10_237 ⟨Nat.le_of_ble_eq_true rfl, Nat.le_of_ble_eq_true rfl, rfl, rfl⟩ rfl sh_64 rfl (kX10_costOfSet hq) (Nat.le_of_ble_eq_true rfl) ?_
        refine a_iadd C eX10_together_43 ?_
        refine a_aload_n C eX10_together_44 rfl ?_
        refine a_iconst C eX10_together_45 (1 : Int32) c_iconst_1 ?_
        refine a_iload_n C eX10_together_46 rfl ?_
        refine a_ishl C eX10_together_47 ?_
        refine a_iconst C eX10_together_48 (1 : Int32) c_iconst_1 ?_
        refine a_iload_n C eX10_together_49 rfl ?_
        refine a_ishl C eX10_together_50 ?_
        refine a_ior C eX10_together_51 ?_
        obtain ⟨r_6, hq, h⟩ := b1_e h
        refine a_cVi1 C eX10_together_52 wX10_237 ⟨Nat.le_of_ble_eq_true rfl, Nat.le_of_ble_eq_true rfl, rfl, rfl⟩ rfl sh_64 rfl (kX10_costOfSet hq) (Nat.le_of_ble_eq_true rfl) ?_
        refine a_isub C eX10_together_55 ?_
        exact rt_i R eX10_together_56 h nb_int
      · replace h := it hc h
        refine a_ldc C eX10_together_26 (-1000000 : Int32) wkX10_236 ?_
        exact rt_i R eX10_together_28 h nb_int
/-! ShelfDrivesModel.askedOf(II)I -/
def LX10_askedOf_22 (p1 : Int32) (p2 : Int32) (σ : Sg) : Nat → Int32 → Int32 → Option Int32
  | 0, _, _ => none
  | n + 1, x3_5, x4_6 => b1 (XX10_number (9 : Int32) σ) (fun (r_7 : Int32) => if r_7 ≤ x4_6 then (some x3_5) else (if ib x4_6 24 then lt (fun (s_9 : Int32) => lt (x3_5 + s_9) (fun (x3_11 : Int32) => lt (x4_6 + (1 : Int32)) (fun (x4_12 : Int32) => LX10_askedOf_22 p1 p2 σ n x3_11 x4_12))) (fun (k67_10 : Int32 → Option Int32) => lt (k67_10 (0 : Int32)) (fun (k66_13 : Option Int32) => if (σ 72 x4_6.toNatClampNeg) = p1 then (if (σ 73 x4_6.toNatClampNeg) = p2 then (k67_10 (σ 74 x4_6.toNatClampNeg)) else (k66_13)) else (k66_13))) else none))
def XX10_askedOf (p1 : Int32) (p2 : Int32) (σ : Sg) : Option Int32 := if ib p1 12 then if ¬ (σ 70 p1.toNatClampNeg) = 0 then if ib (((7 : Int32) * p1) + (p2 - p2 / (σ 70 p1.toNatClampNeg) * (σ 70 p1.toNatClampNeg))) 84 then lt (σ 71 (((7 : Int32) * p1) + (p2 - p2 / (σ 70 p1.toNatClampNeg) * (σ 70 p1.toNatClampNeg))).toNatClampNeg) (fun (x3_4 : Int32) => LX10_askedOf_22 p1 p2 σ FUEL x3_4 (0 : Int32)) else none else none else none
theorem lX10_askedOf_22 {X : CT} {ad : Nat → Nat} {rr : Int32} {p1 : Int32} {p2 : Int32} {σ : Sg}  (C : Cx X cX10_askedOf 5 RX10 (some .int) { frames := 1, cells := 0, slots := 0, locals := 21 }) (R : Ri X cX10_askedOf (some .int) ad (SHc ++ SHm) (rr, σ))  : ∀ (n : Nat) (x3_5 : Int32) (x4_6 : Int32), LX10_askedOf_22 p1 p2 σ n x3_5 x4_6 = some rr → AW X 0 0 ad (SHc ++ SHm) σ 22 [some (.ref 64), some (.int p1), some (.int p2), some (.int x3_5), some (.int x4_6)] [] := by
  intro n
  induction n with
  | zero =>
    intro x3_5 x4_6 h
    rw [LX10_askedOf_22] at h
    cases h
  | succ n ih =>
    intro x3_5 x4_6 h
    rw [LX10_askedOf_22] at h
    refine a_iload C eX10_askedOf_22 rfl ?_
    refine a_aload_n C eX10_askedOf_24 rfl ?_
    refine a_bipush C eX10_askedOf_25 (9 : Int32) c_bipush_9 ?_
    obtain ⟨r_7, hq, h⟩ := b1_e h
    refine a_cVi1 C eX10_askedOf_27 wX10_224 ⟨Nat.le_of_ble_eq_true rfl, Nat.le_of_ble_eq_true rfl, rfl, rfl⟩ rfl sh_64 rfl (kX10_number hq) (Nat.le_of_ble_eq_true rfl) ?_
    refine a_icmp_ge C eX10_askedOf_30 (fun hc => ?_) (fun hc => ?_)
    · replace h := it hc h
      refine a_iload_n C eX10_askedOf_75 rfl ?_
      exact rt_p R eX10_askedOf_76 h nb_int
    · replace h := ie hc h
      refine a_iload_n C eX10_askedOf_33 rfl ?_
      refine a_aload_n C eX10_askedOf_34 rfl ?_
      refine a_getR C eX10_askedOf_35 fX10_31 sh_64 rfl ?_
      refine a_iload C eX10_askedOf_38 rfl ?_
      obtain ⟨hb_8, h⟩ := gd h
      refine a_iald C eX10_askedOf_40 sh_72 hb_8 ?_
      refine a_iload_n C eX10_askedOf_41 rfl ?_
      refine jn (fun (kk : Int32 → Option Int32) => ∀ (s_9 : Int32), kk s_9 = some rr → AW X 0 0 ad (SHc ++ SHm) σ 67 [some (.ref 64), some (.int p1), some (.int p2), none, some (.int x4_6)] [.int s_9, .int x3_5]) h ?_ (fun k67_10 hk67_10 h => ?_)
      · intro s_9 h
        refine a_iadd C eX10_askedOf_67 ?_
        refine a_lt h (fun x3_11 h => ?_)
        refine a_ist_n C eX10_askedOf_68 (Nat.le_of_ble_eq_true rfl) [some (.ref 64), some (.int p1), some (.int p2), some (.int x3_11), some (.int x4_6)] rfl ?_
        refine a_inc C eX10_askedOf_69 rfl c_iconst_1 h (fun z => [some (.ref 64), some (.int p1), some (.int p2), some (.int x3_11), some (.int z)]) (fun _ => rfl) (fun x4_12 h => ?_)
        refine a_goto C eX10_askedOf_72 ?_
        exact a_less (lle_same (lle_same (lle_same (lle_same (lle_same lle_nil))))) (ih _ _ h)
      refine jn (fun (kk : Option Int32) => kk = some rr → AW X 0 0 ad (SHc ++ SHm) σ 66 [some (.ref 64), some (.int p1), some (.int p2), none, some (.int x4_6)] [.int x3_5]) h ?_ (fun k66_13 hk66_13 h => ?_)
      · intro h
        refine a_iconst C eX10_askedOf_66 (0 : Int32) c_iconst_0 ?_
        exact a_less (lle_same (lle_same (lle_same (lle_same (lle_same lle_nil))))) (hk67_10 _ h)
      refine a_icmp_ne C eX10_askedOf_42 (fun hc => ?_) (fun hc => ?_)
      · replace h := ie hc h
        exact a_less (lle_same (lle_same (lle_same (lle_drop (lle_same lle_nil))))) (hk66_13 h)
      · replace h := it hc h
        refine a_aload_n C eX10_askedOf_45 rfl ?_
        refine a_getR C eX10_askedOf_46 fX10_34 sh_64 rfl ?_
        refine a_iload C eX10_askedOf_49 rfl ?_
        refine a_iald C eX10_askedOf_51 sh_73 hb_8 ?_
        refine a_iload_n C eX10_askedOf_52 rfl ?_
        refine a_icmp_ne C eX10_askedOf_53 (fun hc => ?_) (fun hc => ?_)
        · replace h := ie hc h
          exact a_less (lle_same (lle_same (lle_same (lle_drop (lle_same lle_nil))))) (hk66_13 h)
        · replace h := it hc h
          refine a_aload_n C eX10_askedOf_56 rfl ?_
          refine a_getR C eX10_askedOf_57 fX10_37 sh_64 rfl ?_
          refine a_iload C eX10_askedOf_60 rfl ?_
          refine a_iald C eX10_askedOf_62 sh_74 hb_8 ?_
          refine a_goto C eX10_askedOf_63 ?_
          exact a_less (lle_same (lle_same (lle_same (lle_drop (lle_same lle_nil))))) (hk67_10 _ h)
theorem kX10_askedOf {p1 : Int32} {p2 : Int32} {σ : Sg} {rr : Int32}  (h : XX10_askedOf p1 p2 σ = some rr) : Ci MX10_askedOf [.ref 64, .int p1, .int p2] (SHc ++ SHm) σ (rr, σ) := by
  refine Ci.start rfl rfl (Nat.le_of_ble_eq_true rfl) ?_
  intro X ad C R
  replace C : Cx X cX10_askedOf 5 RX10 (some .int) { frames := 1, cells := 0, slots := 0, locals := 21 } := C
  replace R : Ri X cX10_askedOf (some .int) ad (SHc ++ SHm) (rr, σ) := R
  show AW X 0 0 ad (SHc ++ SHm) σ 0 [some (.ref 64), some (.int p1), some (.int p2), none, none] []
  rw [XX10_askedOf] at h
  refine a_aload_n C eX10_askedOf_0 rfl ?_
  refine a_getR C eX10_askedOf_1 fX10_28 sh_64 rfl ?_
  refine a_bipush C eX10_askedOf_4 (7 : Int32) c_bipush_7 ?_
  refine a_iload_n C eX10_askedOf_6 rfl ?_
  refine a_imul C eX10_askedOf_7 ?_
  refine a_iload_n C eX10_askedOf_8 rfl ?_
  refine a_aload_n C eX10_askedOf_9 rfl ?_
  refine a_getR C eX10_askedOf_10 fX10_25 sh_64 rfl ?_
  refine a_iload_n C eX10_askedOf_13 rfl ?_
  obtain ⟨hb_1, h⟩ := gd h
  refine a_iald C eX10_askedOf_14 sh_70 hb_1 ?_
  obtain ⟨hz_2, h⟩ := gd h
  refine a_irem C eX10_askedOf_15 hz_2 ?_
  refine a_iadd C eX10_askedOf_16 ?_
  obtain ⟨hb_3, h⟩ := gd h
  refine a_iald C eX10_askedOf_17 sh_71 hb_3 ?_
  refine a_lt h (fun x3_4 h => ?_)
  refine a_ist_n C eX10_askedOf_18 (Nat.le_of_ble_eq_true rfl) [some (.ref 64), some (.int p1), some (.int p2), some (.int x3_4), none] rfl ?_
  refine a_iconst C eX10_askedOf_19 (0 : Int32) c_iconst_0 ?_
  refine a_ist C eX10_askedOf_20 (Nat.le_of_ble_eq_true rfl) [some (.ref 64), some (.int p1), some (.int p2), some (.int x3_4), some (.int (0 : Int32))] rfl ?_
  exact a_less (lle_same (lle_same (lle_same (lle_same (lle_same lle_nil))))) (lX10_askedOf_22  C R  _ _ _ h)
/-! ShelfDrivesModel.layAsked(I)V -/
def LX10_layAsked_12 (p1 : Int32) (x2_1 : Int32) (k48_5 : Sg → Option Sg) : Nat → Int32 → Sg → Option Sg
  | 0, _, _ => none
  | n + 1, x3_7, σ_8 => b1 (XX10_days σ_8) (fun (r_9 : Int32) => if r_9 ≤ x3_7 then (k48_5 σ_8) else (b1 (XX10_askedOf x2_1 x3_7 σ_8) (fun (r_10 : Int32) => if ib (((14 : Int32) * x2_1) + x3_7) 84 then lt (up σ_8 79 (((14 : Int32) * x2_1) + x3_7).toNatClampNeg ((r_10 * p1) / (100 : Int32))) (fun (σ_11 : Sg) => lt (x3_7 + (1 : Int32)) (fun (x3_13 : Int32) => LX10_layAsked_12 p1 x2_1 k48_5 n x3_13 σ_11)) else none)))
def LX10_layAsked_2 (p1 : Int32) : Nat → Int32 → Sg → Option Sg
  | 0, _, _ => none
  | n + 1, x2_1, σ_2 => b1 (XX10_shops σ_2) (fun (r_3 : Int32) => if r_3 ≤ x2_1 then (some σ_2) else (lt (fun (σ_4 : Sg) => lt (x2_1 + (1 : Int32)) (fun (x2_6 : Int32) => LX10_layAsked_2 p1 n x2_6 σ_4)) (fun (k48_5 : Sg → Option Sg) => LX10_layAsked_12 p1 x2_1 k48_5 FUEL (0 : Int32) σ_2)))
def XX10_layAsked (p1 : Int32) (σ : Sg) : Option Sg := LX10_layAsked_2 p1 FUEL (0 : Int32) σ
theorem lX10_layAsked_12 {X : CT} {ad : Nat → Nat} {rr : Sg} {p1 : Int32} {x2_1 : Int32} {k48_5 : Sg → Option Sg}  (C : Cx X cX10_layAsked 4 RX10 none { frames := 2, cells := 0, slots := 0, locals := 45 }) (R : Rv X cX10_layAsked ad (SHc ++ SHm) rr) (hk48_5 : ∀ (σ_4 : Sg), k48_5 σ_4 = some rr → AW X 0 0 ad (SHc ++ SHm) σ_4 48 [some (.ref 64), some (.int p1), some (.int x2_1), none] []) : ∀ (n : Nat) (x3_7 : Int32) (σ_8 : Sg), LX10_layAsked_12 p1 x2_1 k48_5 n x3_7 σ_8 = some rr → AW X 0 0 ad (SHc ++ SHm) σ_8 12 [some (.ref 64), some (.int p1), some (.int x2_1), some (.int x3_7)] [] := by
  intro n
  induction n with
  | zero =>
    intro x3_7 σ_8 h
    rw [LX10_layAsked_12] at h
    cases h
  | succ n ih =>
    intro x3_7 σ_8 h
    rw [LX10_layAsked_12] at h
    refine a_iload_n C eX10_layAsked_12 rfl ?_
    refine a_aload_n C eX10_layAsked_13 rfl ?_
    obtain ⟨r_9, hq, h⟩ := b1_e h
    refine a_cVi0 C eX10_layAsked_14 wX10_106 ⟨Nat.le_of_ble_eq_true rfl, Nat.le_of_ble_eq_true rfl, rfl, rfl⟩ rfl sh_64 rfl (kX10_days hq) (Nat.le_of_ble_eq_true rfl) ?_
    refine a_icmp_ge C eX10_layAsked_17 (fun hc => ?_) (fun hc => ?_)
    · replace h := it hc h
      exact a_less (lle_same (lle_same (lle_same (lle_drop lle_nil)))) (hk48_5 _ h)
    · replace h := ie hc h
      refine a_aload_n C eX10_layAsked_20 rfl ?_
      refine a_getR C eX10_layAsked_21 fX10_56 sh_64 rfl ?_
      refine a_bipush C eX10_layAsked_24 (14 : Int32) c_bipush_14 ?_
      refine a_iload_n C eX10_layAsked_26 rfl ?_
      refine a_imul C eX10_layAsked_27 ?_
      refine a_iload_n C eX10_layAsked_28 rfl ?_
      refine a_iadd C eX10_layAsked_29 ?_
      refine a_aload_n C eX10_layAsked_30 rfl ?_
      refine a_iload_n C eX10_layAsked_31 rfl ?_
      refine a_iload_n C eX10_layAsked_32 rfl ?_
      obtain ⟨r_10, hq, h⟩ := b1_e h
      refine a_cVi2 C eX10_layAsked_33 wX10_240 ⟨Nat.le_of_ble_eq_true rfl, Nat.le_of_ble_eq_true rfl, rfl, rfl⟩ rfl sh_64 rfl (kX10_askedOf hq) (Nat.le_of_ble_eq_true rfl) ?_
      refine a_iload_n C eX10_layAsked_36 rfl ?_
      refine a_imul C eX10_layAsked_37 ?_
      refine a_bipush C eX10_layAsked_38 (100 : Int32) c_bipush_100 ?_
      refine a_idiv C eX10_layAsked_40 (by decide) ?_
      obtain ⟨hb_12, h⟩ := gd h
      refine a_iastL C eX10_layAsked_41 sh_79 hb_12 h (fun σ_11 h => ?_)
      refine a_inc C eX10_layAsked_42 rfl c_iconst_1 h (fun z => [some (.ref 64), some (.int p1), some (.int x2_1), some (.int z)]) (fun _ => rfl) (fun x3_13 h => ?_)
      refine a_goto C eX10_layAsked_45 ?_
      exact a_less (lle_same (lle_same (lle_same (lle_same lle_nil)))) (ih _ _ h)
theorem lX10_layAsked_2 {X : CT} {ad : Nat → Nat} {rr : Sg} {p1 : Int32}  (C : Cx X cX10_layAsked 4 RX10 none { frames := 2, cells := 0, slots := 0, locals := 45 }) (R : Rv X cX10_layAsked ad (SHc ++ SHm) rr)  : ∀ (n : Nat) (x2_1 : Int32) (σ_2 : Sg), LX10_layAsked_2 p1 n x2_1 σ_2 = some rr → AW X 0 0 ad (SHc ++ SHm) σ_2 2 [some (.ref 64), some (.int p1), some (.int x2_1), none] [] := by
  intro n
  induction n with
  | zero =>
    intro x2_1 σ_2 h
    rw [LX10_layAsked_2] at h
    cases h
  | succ n ih =>
    intro x2_1 σ_2 h
    rw [LX10_layAsked_2] at h
    refine a_iload_n C eX10_layAsked_2 rfl ?_
    refine a_aload_n C eX10_layAsked_3 rfl ?_
    obtain ⟨r_3, hq, h⟩ := b1_e h
    refine a_cVi0 C eX10_layAsked_4 wX10_98 ⟨Nat.le_of_ble_eq_true rfl, Nat.le_of_ble_eq_true rfl, rfl, rfl⟩ rfl sh_64 rfl (kX10_shops hq) (Nat.le_of_ble_eq_true rfl) ?_
    refine a_icmp_ge C eX10_layAsked_7 (fun hc => ?_) (fun hc => ?_)
    · replace h := it hc h
      exact rt_v R eX10_layAsked_54 h
    · replace h := ie hc h
      refine a_iconst C eX10_layAsked_10 (0 : Int32) c_iconst_0 ?_
      refine a_ist_n C eX10_layAsked_11 (Nat.le_of_ble_eq_true rfl) [some (.ref 64), some (.int p1), some (.int x2_1), some (.int (0 : Int32))] rfl ?_
      refine jn (fun (kk : Sg → Option Sg) => ∀ (σ_4 : Sg), kk σ_4 = some rr → AW X 0 0 ad (SHc ++ SHm) σ_4 48 [some (.ref 64), some (.int p1), some (.int x2_1), none] []) h ?_ (fun k48_5 hk48_5 h => ?_)
      · intro σ_4 h
        refine a_inc C eX10_layAsked_48 rfl c_iconst_1 h (fun z => [some (.ref 64), some (.int p1), some (.int z), none]) (fun _ => rfl) (fun x2_6 h => ?_)
        refine a_goto C eX10_layAsked_51 ?_
        exact a_less (lle_same (lle_same (lle_same (lle_same lle_nil)))) (ih _ _ h)
      exact a_less (lle_same (lle_same (lle_same (lle_same lle_nil)))) (lX10_layAsked_12  C R hk48_5 _ _ _ h)
theorem kX10_layAsked {p1 : Int32} {σ : Sg} {rr : Sg}  (h : XX10_layAsked p1 σ = some rr) : Cv MX10_layAsked [.ref 64, .int p1] (SHc ++ SHm) σ rr := by
  refine Cv.start rfl rfl (Nat.le_of_ble_eq_true rfl) rfl ?_
  intro X ad C R
  replace C : Cx X cX10_layAsked 4 RX10 none { frames := 2, cells := 0, slots := 0, locals := 45 } := C
  replace R : Rv X cX10_layAsked ad (SHc ++ SHm) rr := R
  show AW X 0 0 ad (SHc ++ SHm) σ 0 [some (.ref 64), some (.int p1), none, none] []
  rw [XX10_layAsked] at h
  refine a_iconst C eX10_layAsked_0 (0 : Int32) c_iconst_0 ?_
  refine a_ist_n C eX10_layAsked_1 (Nat.le_of_ble_eq_true rfl) [some (.ref 64), some (.int p1), some (.int (0 : Int32)), none] rfl ?_
  exact a_less (lle_same (lle_same (lle_same (lle_same lle_nil)))) (lX10_layAsked_2  C R  _ _ _ h)
/-! ShelfDrivesModel.runShop(II)V -/
def LX10_runShop_10 (p1 : Int32) (p2 : Int32) : Nat → Int32 → Int32 → Sg → Option Sg
  | 0, _, _, _ => none
  | n + 1, x3_3, x4_4, σ_5 => b1 (XX10_days σ_5) (fun (r_6 : Int32) => if r_6 ≤ x4_4 then (some σ_5) else (lt (((14 : Int32) * p1) + x4_4) (fun (x5_7 : Int32) => b1 (XX10_isOf p2 x4_4) (fun (r_8 : Int32) => lt (fun (s_9 : Int32) => if ib x5_7 84 then lt (up σ_5 80 x5_7.toNatClampNeg s_9) (fun (σ_11 : Sg) => lt (x3_3 + (σ_11 80 x5_7.toNatClampNeg)) (fun (x3_13 : Int32) => b1 (XX10_lesser x3_13 (σ_11 79 x5_7.toNatClampNeg)) (fun (r_14 : Int32) => lt (up σ_11 82 x5_7.toNatClampNeg ((σ_11 79 x5_7.toNatClampNeg) - r_14)) (fun (σ_15 : Sg) => lt (x3_13 - r_14) (fun (x3_16 : Int32) => lt (up σ_15 81 x5_7.toNatClampNeg x3_16) (fun (σ_17 : Sg) => lt (x4_4 + (1 : Int32)) (fun (x4_18 : Int32) => LX10_runShop_10 p1 p2 n x3_16 x4_18 σ_17))))))) else none) (fun (k55_10 : Int32 → Option Sg) => if r_8 = 0 then (k55_10 (0 : Int32)) else (if ib p1 12 then k55_10 ((σ_5 68 p1.toNatClampNeg) - x3_3) else none))))))
def XX10_runShop (p1 : Int32) (p2 : Int32) (σ : Sg) : Option Sg := if ib p1 12 then lt (σ 69 p1.toNatClampNeg) (fun (x3_2 : Int32) => LX10_runShop_10 p1 p2 FUEL x3_2 (0 : Int32) σ) else none
theorem lX10_runShop_10 {X : CT} {ad : Nat → Nat} {rr : Sg} {p1 : Int32} {p2 : Int32}  (C : Cx X cX10_runShop 7 RX10 none { frames := 1, cells := 0, slots := 0, locals := 21 }) (R : Rv X cX10_runShop ad (SHc ++ SHm) rr)  : ∀ (n : Nat) (x3_3 : Int32) (x4_4 : Int32) (σ_5 : Sg), LX10_runShop_10 p1 p2 n x3_3 x4_4 σ_5 = some rr → AW X 0 0 ad (SHc ++ SHm) σ_5 10 [some (.ref 64), some (.int p1), some (.int p2), some (.int x3_3), some (.int x4_4), none, none] [] := by
  intro n
  induction n with
  | zero =>
    intro x3_3 x4_4 σ_5 h
    rw [LX10_runShop_10] at h
    cases h
  | succ n ih =>
    intro x3_3 x4_4 σ_5 h
    rw [LX10_runShop_10] at h
    refine a_iload C eX10_runShop_10 rfl ?_
    refine a_aload_n C eX10_runShop_12 rfl ?_
    obtain ⟨r_6, hq, h⟩ := b1_e h
    refine a_cVi0 C eX10_runShop_13 wX10_106 ⟨Nat.le_of_ble_eq_true rfl, Nat.le_of_ble_eq_true rfl, rfl, rfl⟩ rfl sh_64 rfl (kX10_days hq) (Nat.le_of_ble_eq_true rfl) ?_
    refine a_icmp_ge C eX10_runShop_16 (fun hc => ?_) (fun hc => ?_)
    · replace h := it hc h
      exact rt_v R eX10_runShop_115 h
    · replace h := ie hc h
      refine a_bipush C eX10_runShop_19 (14 : Int32) c_bipush_14 ?_
      refine a_iload_n C eX10_runShop_21 rfl ?_
      refine a_imul C eX10_runShop_22 ?_
      refine a_iload C eX10_runShop_23 rfl ?_
      refine a_iadd C eX10_runShop_25 ?_
      refine a_lt h (fun x5_7 h => ?_)
      refine a_ist C eX10_runShop_26 (Nat.le_of_ble_eq_true rfl) [some (.ref 64), some (.int p1), some (.int p2), some (.int x3_3), some (.int x4_4), some (.int x5_7), none] rfl ?_
      refine a_aload_n C eX10_runShop_28 rfl ?_
      refine a_getR C eX10_runShop_29 fX10_59 sh_64 rfl ?_
      refine a_iload C eX10_runShop_32 rfl ?_
      refine a_iload_n C eX10_runShop_34 rfl ?_
      refine a_iload C eX10_runShop_35 rfl ?_
      obtain ⟨r_8, hq, h⟩ := b1_e h
      refine a_cSi2 C eX10_runShop_37 wX10_176 ⟨Nat.le_of_ble_eq_true rfl, Nat.le_of_ble_eq_true rfl, rfl, rfl⟩ rfl (kX10_isOf hq) (Nat.le_of_ble_eq_true rfl) ?_
      refine jn (fun (kk : Int32 → Option Sg) => ∀ (s_9 : Int32), kk s_9 = some rr → AW X 0 0 ad (SHc ++ SHm) σ_5 55 [some (.ref 64), some (.int p1), some (.int p2), some (.int x3_3), some (.int x4_4), some (.int x5_7), none] [.int s_9, .int x5_7, .ref 80]) h ?_ (fun k55_10 hk55_10 h => ?_)
      · intro s_9 h
        obtain ⟨hb_12, h⟩ := gd h
        refine a_iastL C eX10_runShop_55 sh_80 hb_12 h (fun σ_11 h => ?_)
        refine a_iload_n C eX10_runShop_56 rfl ?_
        refine a_aload_n C eX10_runShop_57 rfl ?_
        refine a_getR C eX10_runShop_58 fX10_59 sh_64 rfl ?_
        refine a_iload C eX10_runShop_61 rfl ?_
        refine a_iald C eX10_runShop_63 sh_80 hb_12 ?_
        refine a_iadd C eX10_runShop_64 ?_
        refine a_lt h (fun x3_13 h => ?_)
        refine a_ist_n C eX10_runShop_65 (Nat.le_of_ble_eq_true rfl) [some (.ref 64), some (.int p1), some (.int p2), some (.int x3_13), some (.int x4_4), some (.int x5_7), none] rfl ?_
        refine a_iload_n C eX10_runShop_66 rfl ?_
        refine a_aload_n C eX10_runShop_67 rfl ?_
        refine a_getR C eX10_runShop_68 fX10_56 sh_64 rfl ?_
        refine a_iload C eX10_runShop_71 rfl ?_
        refine a_iald C eX10_runShop_73 sh_79 hb_12 ?_
        obtain ⟨r_14, hq, h⟩ := b1_e h
        refine a_cSi2 C eX10_runShop_74 wX10_243 ⟨Nat.le_of_ble_eq_true rfl, Nat.le_of_ble_eq_true rfl, rfl, rfl⟩ rfl (kX10_lesser hq) (Nat.le_of_ble_eq_true rfl) ?_
        refine a_ist C eX10_runShop_77 (Nat.le_of_ble_eq_true rfl) [some (.ref 64), some (.int p1), some (.int p2), some (.int x3_13), some (.int x4_4), some (.int x5_7), some (.int r_14)] rfl ?_
        refine a_aload_n C eX10_runShop_79 rfl ?_
        refine a_getR C eX10_runShop_80 fX10_65 sh_64 rfl ?_
        refine a_iload C eX10_runShop_83 rfl ?_
        refine a_aload_n C eX10_runShop_85 rfl ?_
        refine a_getR C eX10_runShop_86 fX10_56 sh_64 rfl ?_
        refine a_iload C eX10_runShop_89 rfl ?_
        refine a_iald C eX10_runShop_91 sh_79 hb_12 ?_
        refine a_iload C eX10_runShop_92 rfl ?_
        refine a_isub C eX10_runShop_94 ?_
        refine a_iastL C eX10_runShop_95 sh_82 hb_12 h (fun σ_15 h => ?_)
        refine a_iload_n C eX10_runShop_96 rfl ?_
        refine a_iload C eX10_runShop_97 rfl ?_
        refine a_isub C eX10_runShop_99 ?_
        refine a_lt h (fun x3_16 h => ?_)
        refine a_ist_n C eX10_runShop_100 (Nat.le_of_ble_eq_true rfl) [some (.ref 64), some (.int p1), some (.int p2), some (.int x3_16), some (.int x4_4), some (.int x5_7), some (.int r_14)] rfl ?_
        refine a_aload_n C eX10_runShop_101 rfl ?_
        refine a_getR C eX10_runShop_102 fX10_62 sh_64 rfl ?_
        refine a_iload C eX10_runShop_105 rfl ?_
        refine a_iload_n C eX10_runShop_107 rfl ?_
        refine a_iastL C eX10_runShop_108 sh_81 hb_12 h (fun σ_17 h => ?_)
        refine a_inc C eX10_runShop_109 rfl c_iconst_1 h (fun z => [some (.ref 64), some (.int p1), some (.int p2), some (.int x3_16), some (.int z), some (.int x5_7), some (.int r_14)]) (fun _ => rfl) (fun x4_18 h => ?_)
        refine a_goto C eX10_runShop_112 ?_
        exact a_less (lle_same (lle_same (lle_same (lle_same (lle_same (lle_drop (lle_drop lle_nil))))))) (ih _ _ _ h)
      refine a_if_eq C eX10_runShop_40 (fun hc => ?_) (fun hc => ?_)
      · replace h := it hc h
        refine a_iconst C eX10_runShop_54 (0 : Int32) c_iconst_0 ?_
        exact a_less (lle_same (lle_same (lle_same (lle_same (lle_same (lle_same (lle_same lle_nil))))))) (hk55_10 _ h)
      · replace h := ie hc h
        refine a_aload_n C eX10_runShop_43 rfl ?_
        refine a_getR C eX10_runShop_44 fX10_19 sh_64 rfl ?_
        refine a_iload_n C eX10_runShop_47 rfl ?_
        obtain ⟨hb_19, h⟩ := gd h
        refine a_iald C eX10_runShop_48 sh_68 hb_19 ?_
        refine a_iload_n C eX10_runShop_49 rfl ?_
        refine a_isub C eX10_runShop_50 ?_
        refine a_goto C eX10_runShop_51 ?_
        exact a_less (lle_same (lle_same (lle_same (lle_same (lle_same (lle_same (lle_same lle_nil))))))) (hk55_10 _ h)
theorem kX10_runShop {p1 : Int32} {p2 : Int32} {σ : Sg} {rr : Sg}  (h : XX10_runShop p1 p2 σ = some rr) : Cv MX10_runShop [.ref 64, .int p1, .int p2] (SHc ++ SHm) σ rr := by
  refine Cv.start rfl rfl (Nat.le_of_ble_eq_true rfl) rfl ?_
  intro X ad C R
  replace C : Cx X cX10_runShop 7 RX10 none { frames := 1, cells := 0, slots := 0, locals := 21 } := C
  replace R : Rv X cX10_runShop ad (SHc ++ SHm) rr := R
  show AW X 0 0 ad (SHc ++ SHm) σ 0 [some (.ref 64), some (.int p1), some (.int p2), none, none, none, none] []
  rw [XX10_runShop] at h
  refine a_aload_n C eX10_runShop_0 rfl ?_
  refine a_getR C eX10_runShop_1 fX10_22 sh_64 rfl ?_
  refine a_iload_n C eX10_runShop_4 rfl ?_
  obtain ⟨hb_1, h⟩ := gd h
  refine a_iald C eX10_runShop_5 sh_69 hb_1 ?_
  refine a_lt h (fun x3_2 h => ?_)
  refine a_ist_n C eX10_runShop_6 (Nat.le_of_ble_eq_true rfl) [some (.ref 64), some (.int p1), some (.int p2), some (.int x3_2), none, none, none] rfl ?_
  refine a_iconst C eX10_runShop_7 (0 : Int32) c_iconst_0 ?_
  refine a_ist C eX10_runShop_8 (Nat.le_of_ble_eq_true rfl) [some (.ref 64), some (.int p1), some (.int p2), some (.int x3_2), some (.int (0 : Int32)), none, none] rfl ?_
  exact a_less (lle_same (lle_same (lle_same (lle_same (lle_same (lle_same (lle_same lle_nil))))))) (lX10_runShop_10  C R  _ _ _ _ h)
/-! ShelfDrivesModel.runAll()V -/
def LX10_runAll_2 : Nat → Int32 → Sg → Option Sg
  | 0, _, _ => none
  | n + 1, x1_1, σ_2 => b1 (XX10_shops σ_2) (fun (r_3 : Int32) => if r_3 ≤ x1_1 then (some σ_2) else (if ib x1_1 6 then b1 (XX10_runShop x1_1 (σ_2 78 x1_1.toNatClampNeg) σ_2) (fun (σ_5 : Sg) => lt (x1_1 + (1 : Int32)) (fun (x1_6 : Int32) => LX10_runAll_2 n x1_6 σ_5)) else none))
def XX10_runAll (σ : Sg) : Option Sg := LX10_runAll_2 FUEL (0 : Int32) σ
theorem lX10_runAll_2 {X : CT} {ad : Nat → Nat} {rr : Sg}   (C : Cx X cX10_runAll 2 RX10 none { frames := 2, cells := 0, slots := 0, locals := 47 }) (R : Rv X cX10_runAll ad (SHc ++ SHm) rr)  : ∀ (n : Nat) (x1_1 : Int32) (σ_2 : Sg), LX10_runAll_2 n x1_1 σ_2 = some rr → AW X 0 0 ad (SHc ++ SHm) σ_2 2 [some (.ref 64), some (.int x1_1)] [] := by
  intro n
  induction n with
  | zero =>
    intro x1_1 σ_2 h
    rw [LX10_runAll_2] at h
    cases h
  | succ n ih =>
    intro x1_1 σ_2 h
    rw [LX10_runAll_2] at h
    refine a_iload_n C eX10_runAll_2 rfl ?_
    refine a_aload_n C eX10_runAll_3 rfl ?_
    obtain ⟨r_3, hq, h⟩ := b1_e h
    refine a_cVi0 C eX10_runAll_4 wX10_98 ⟨Nat.le_of_ble_eq_true rfl, Nat.le_of_ble_eq_true rfl, rfl, rfl⟩ rfl sh_64 rfl (kX10_shops hq) (Nat.le_of_ble_eq_true rfl) ?_
    refine a_icmp_ge C eX10_runAll_7 (fun hc => ?_) (fun hc => ?_)
    · replace h := it hc h
      exact rt_v R eX10_runAll_27 h
    · replace h := ie hc h
      refine a_aload_n C eX10_runAll_10 rfl ?_
      refine a_iload_n C eX10_runAll_11 rfl ?_
      refine a_aload_n C eX10_runAll_12 rfl ?_
      refine a_getR C eX10_runAll_13 fX10_53 sh_64 rfl ?_
      refine a_iload_n C eX10_runAll_16 rfl ?_
      obtain ⟨hb_4, h⟩ := gd h
      refine a_iald C eX10_runAll_17 sh_78 hb_4 ?_
      obtain ⟨σ_5, hq, h⟩ := b1_e h
      refine a_cVv2 C eX10_runAll_18 wX10_246 ⟨Nat.le_of_ble_eq_true rfl, Nat.le_of_ble_eq_true rfl, rfl, rfl⟩ rfl sh_64 rfl (kX10_runShop hq) (Nat.le_of_ble_eq_true rfl) ?_
      refine a_inc C eX10_runAll_21 rfl c_iconst_1 h (fun z => [some (.ref 64), some (.int z)]) (fun _ => rfl) (fun x1_6 h => ?_)
      refine a_goto C eX10_runAll_24 ?_
      exact a_less (lle_same (lle_same lle_nil)) (ih _ _ h)
theorem kX10_runAll {σ : Sg} {rr : Sg}  (h : XX10_runAll σ = some rr) : Cv MX10_runAll [.ref 64] (SHc ++ SHm) σ rr := by
  refine Cv.start rfl rfl (Nat.le_of_ble_eq_true rfl) rfl ?_
  intro X ad C R
  replace C : Cx X cX10_runAll 2 RX10 none { frames := 2, cells := 0, slots := 0, locals := 47 } := C
  replace R : Rv X cX10_runAll ad (SHc ++ SHm) rr := R
  show AW X 0 0 ad (SHc ++ SHm) σ 0 [some (.ref 64), none] []
  rw [XX10_runAll] at h
  refine a_iconst C eX10_runAll_0 (0 : Int32) c_iconst_0 ?_
  refine a_ist_n C eX10_runAll_1 (Nat.le_of_ble_eq_true rfl) [some (.ref 64), some (.int (0 : Int32))] rfl ?_
  exact a_less (lle_same (lle_same lle_nil)) (lX10_runAll_2  C R  _ _ _ h)
/-! ShelfDrivesModel.layRun()V -/
def XX10_layRun (σ : Sg) : Option Sg := b1 (XX10_layAsked (100 : Int32) σ) (fun (σ_1 : Sg) => b1 (XX10_runAll σ_1) (fun (σ_2 : Sg) => some σ_2))
theorem kX10_layRun {σ : Sg} {rr : Sg}  (h : XX10_layRun σ = some rr) : Cv MX10_layRun [.ref 64] (SHc ++ SHm) σ rr := by
  refine Cv.start rfl rfl (Nat.le_of_ble_eq_true rfl) rfl ?_
  intro X ad C R
  replace C : Cx X cX10_layRun 1 RX10 none { frames := 3, cells := 0, slots := 0, locals := 68 } := C
  replace R : Rv X cX10_layRun ad (SHc ++ SHm) rr := R
  show AW X 0 0 ad (SHc ++ SHm) σ 0 [some (.ref 64)] []
  rw [XX10_layRun] at h
  refine a_aload_n C eX10_layRun_0 rfl ?_
  refine a_bipush C eX10_layRun_1 (100 : Int32) c_bipush_100 ?_
  obtain ⟨σ_1, hq, h⟩ := b1_e h
  refine a_cVv1 C eX10_layRun_3 wX10_250 ⟨Nat.le_of_ble_eq_true rfl, Nat.le_of_ble_eq_true rfl, rfl, rfl⟩ rfl sh_64 rfl (kX10_layAsked hq) (Nat.le_of_ble_eq_true rfl) ?_
  refine a_aload_n C eX10_layRun_6 rfl ?_
  obtain ⟨σ_2, hq, h⟩ := b1_e h
  refine a_cVv0 C eX10_layRun_7 wX10_253 ⟨Nat.le_of_ble_eq_true rfl, Nat.le_of_ble_eq_true rfl, rfl, rfl⟩ rfl sh_64 rfl (kX10_runAll hq) (Nat.le_of_ble_eq_true rfl) ?_
  exact rt_v R eX10_layRun_10 h
/-! ShelfDrivesModel.isAt(II)Z -/
def XX10_isAt (p1 : Int32) (p2 : Int32) (σ : Sg) : Option Int32 := b1 (XX10_isShop p1 σ) (fun (r_1 : Int32) => lt (some (0 : Int32)) (fun (k20_2 : Option Int32) => if r_1 = 0 then (k20_2) else (b1 (XX10_isDay p2 σ) (fun (r_3 : Int32) => if r_3 = 0 then (k20_2) else (some (1 : Int32))))))
theorem kX10_isAt {p1 : Int32} {p2 : Int32} {σ : Sg} {rr : Int32}  (h : XX10_isAt p1 p2 σ = some rr) : Ci MX10_isAt [.ref 64, .int p1, .int p2] (SHc ++ SHm) σ (rr, σ) := by
  refine Ci.start rfl rfl (Nat.le_of_ble_eq_true rfl) ?_
  intro X ad C R
  replace C : Cx X cX10_isAt 3 RX10 (some .boolean) { frames := 2, cells := 0, slots := 0, locals := 43 } := C
  replace R : Ri X cX10_isAt (some .boolean) ad (SHc ++ SHm) (rr, σ) := R
  show AW X 0 0 ad (SHc ++ SHm) σ 0 [some (.ref 64), some (.int p1), some (.int p2)] []
  rw [XX10_isAt] at h
  refine a_aload_n C eX10_isAt_0 rfl ?_
  refine a_iload_n C eX10_isAt_1 rfl ?_
  obtain ⟨r_1, hq, h⟩ := b1_e h
  refine a_cVi1 C eX10_isAt_2 wX10_233 ⟨Nat.le_of_ble_eq_true rfl, Nat.le_of_ble_eq_true rfl, rfl, rfl⟩ rfl sh_64 rfl (kX10_isShop hq) (Nat.le_of_ble_eq_true rfl) ?_
  refine jn (fun (kk : Option Int32) => kk = some rr → AW X 0 0 ad (SHc ++ SHm) σ 20 [none, none, none] []) h ?_ (fun k20_2 hk20_2 h => ?_)
  · intro h
    refine a_iconst C eX10_isAt_20 (0 : Int32) c_iconst_0 ?_
    exact rt_p R eX10_isAt_21 h nb_0
  refine a_if_eq C eX10_isAt_5 (fun hc => ?_) (fun hc => ?_)
  · replace h := it hc h
    exact a_less (lle_drop (lle_drop (lle_drop lle_nil))) (hk20_2 h)
  · replace h := ie hc h
    refine a_aload_n C eX10_isAt_8 rfl ?_
    refine a_iload_n C eX10_isAt_9 rfl ?_
    obtain ⟨r_3, hq, h⟩ := b1_e h
    refine a_cVi1 C eX10_isAt_10 wX10_256 ⟨Nat.le_of_ble_eq_true rfl, Nat.le_of_ble_eq_true rfl, rfl, rfl⟩ rfl sh_64 rfl (kX10_isDay hq) (Nat.le_of_ble_eq_true rfl) ?_
    refine a_if_eq C eX10_isAt_13 (fun hc => ?_) (fun hc => ?_)
    · replace h := it hc h
      exact a_less (lle_drop (lle_drop (lle_drop lle_nil))) (hk20_2 h)
    · replace h := ie hc h
      refine a_iconst C eX10_isAt_16 (1 : Int32) c_iconst_1 ?_
      refine a_goto C eX10_isAt_17 ?_
      exact rt_p R eX10_isAt_21 h nb_1
/-! ShelfDrivesModel.shop(II)I -/
def XX10_shop (p1 : Int32) (p2 : Int32) (σ : Sg) : Option (Int32 × Sg) := lt (up σ 64 0 (0 : Int32)) (fun (σ_1 : Sg) => b1 (XX10_isShop p1 σ_1) (fun (r_2 : Int32) => if r_2 = 0 then (some ((-1 : Int32), σ_1)) else (b1 (XX10_days σ_1) (fun (r_3 : Int32) => b1 (XX10_in p2 (10 : Int32) ((9 : Int32) + r_3)) (fun (r_4 : Int32) => if r_4 = 0 then (if p2 = (0 : Int32) then (if ib p1 12 then some (σ_1 66 p1.toNatClampNeg, σ_1) else none) else (if p2 = (1 : Int32) then (if ib p1 12 then some (σ_1 67 p1.toNatClampNeg, σ_1) else none) else (if p2 = (2 : Int32) then (if ib p1 12 then some (σ_1 68 p1.toNatClampNeg, σ_1) else none) else (if p2 = (3 : Int32) then (if ib p1 12 then some (σ_1 69 p1.toNatClampNeg, σ_1) else none) else (if p2 = (4 : Int32) then (if ib p1 6 then some (σ_1 78 p1.toNatClampNeg, σ_1) else none) else (if p2 = (5 : Int32) then (b1 (XX10_far p1 (6 : Int32) σ_1) (fun (r_15 : Int32) => some (r_15, σ_1))) else (some ((-1 : Int32), σ_1)))))))) else (b1 (XX10_askedOf p1 (p2 - (10 : Int32)) σ_1) (fun (r_17 : Int32) => some (r_17, σ_1))))))))
theorem kX10_shop {p1 : Int32} {p2 : Int32} {σ : Sg} {rr : (Int32 × Sg)}  (h : XX10_shop p1 p2 σ = some rr) : Ci MX10_shop [.ref 64, .int p1, .int p2] (SHc ++ SHm) σ rr := by
  refine Ci.start rfl rfl (Nat.le_of_ble_eq_true rfl) ?_
  intro X ad C R
  replace C : Cx X cX10_shop 3 RX10 (some .int) { frames := 2, cells := 0, slots := 0, locals := 45 } := C
  replace R : Ri X cX10_shop (some .int) ad (SHc ++ SHm) rr := R
  show AW X 0 0 ad (SHc ++ SHm) σ 0 [some (.ref 64), some (.int p1), some (.int p2)] []
  rw [XX10_shop] at h
  refine a_aload_n C eX10_shop_0 rfl ?_
  refine a_iconst C eX10_shop_1 (0 : Int32) c_iconst_0 ?_
  refine a_putIL C eX10_shop_2 fX10_95 ftyX10 rfl rfl sh_64 rfl h (fun σ_1 h => ?_)
  refine a_aload_n C eX10_shop_5 rfl ?_
  refine a_iload_n C eX10_shop_6 rfl ?_
  obtain ⟨r_2, hq, h⟩ := b1_e h
  refine a_cVi1 C eX10_shop_7 wX10_233 ⟨Nat.le_of_ble_eq_true rfl, Nat.le_of_ble_eq_true rfl, rfl, rfl⟩ rfl sh_64 rfl (kX10_isShop hq) (Nat.le_of_ble_eq_true rfl) ?_
  refine a_if_ne C eX10_shop_10 (fun hc => ?_) (fun hc => ?_)
  · replace h := ie hc h
    refine a_iload_n C eX10_shop_15 rfl ?_
    refine a_bipush C eX10_shop_16 (10 : Int32) c_bipush_10 ?_
    refine a_bipush C eX10_shop_18 (9 : Int32) c_bipush_9 ?_
    refine a_aload_n C eX10_shop_20 rfl ?_
    obtain ⟨r_3, hq, h⟩ := b1_e h
    refine a_cVi0 C eX10_shop_21 wX10_106 ⟨Nat.le_of_ble_eq_true rfl, Nat.le_of_ble_eq_true rfl, rfl, rfl⟩ rfl sh_64 rfl (kX10_days hq) (Nat.le_of_ble_eq_true rfl) ?_
    refine a_iadd C eX10_shop_24 ?_
    obtain ⟨r_4, hq, h⟩ := b1_e h
    refine a_cSi3 C eX10_shop_25 wX10_102 ⟨Nat.le_of_ble_eq_true rfl, Nat.le_of_ble_eq_true rfl, rfl, rfl⟩ rfl (kX10_in hq) (Nat.le_of_ble_eq_true rfl) ?_
    refine a_if_eq C eX10_shop_28 (fun hc => ?_) (fun hc => ?_)
    · replace h := it hc h
      refine a_iload_n C eX10_shop_41 rfl ?_
      by_cases hs_6 : p2 = (0 : Int32)
      · replace h := it hs_6 h
        refine a_tsw C eX10_shop_42 (0 : Int32) hs_6 (by decide) (by decide) rfl (tgt := 80) rfl ?_
        refine a_aload_n C eX10_shop_80 rfl ?_
        refine a_getR C eX10_shop_81 fX10_13 sh_64 rfl ?_
        refine a_iload_n C eX10_shop_84 rfl ?_
        obtain ⟨hb_5, h⟩ := gd h
        refine a_iald C eX10_shop_85 sh_66 hb_5 ?_
        exact rt_i R eX10_shop_86 h nb_int
      replace h := ie hs_6 h
      by_cases hs_8 : p2 = (1 : Int32)
      · replace h := it hs_8 h
        refine a_tsw C eX10_shop_42 (1 : Int32) hs_8 (by decide) (by decide) rfl (tgt := 87) rfl ?_
        refine a_aload_n C eX10_shop_87 rfl ?_
        refine a_getR C eX10_shop_88 fX10_16 sh_64 rfl ?_
        refine a_iload_n C eX10_shop_91 rfl ?_
        obtain ⟨hb_7, h⟩ := gd h
        refine a_iald C eX10_shop_92 sh_67 hb_7 ?_
        exact rt_i R eX10_shop_93 h nb_int
      replace h := ie hs_8 h
      by_cases hs_10 : p2 = (2 : Int32)
      · replace h := it hs_10 h
        refine a_tsw C eX10_shop_42 (2 : Int32) hs_10 (by decide) (by decide) rfl (tgt := 94) rfl ?_
        refine a_aload_n C eX10_shop_94 rfl ?_
        refine a_getR C eX10_shop_95 fX10_19 sh_64 rfl ?_
        refine a_iload_n C eX10_shop_98 rfl ?_
        obtain ⟨hb_9, h⟩ := gd h
        refine a_iald C eX10_shop_99 sh_68 hb_9 ?_
        exact rt_i R eX10_shop_100 h nb_int
      replace h := ie hs_10 h
      by_cases hs_12 : p2 = (3 : Int32)
      · replace h := it hs_12 h
        refine a_tsw C eX10_shop_42 (3 : Int32) hs_12 (by decide) (by decide) rfl (tgt := 101) rfl ?_
        refine a_aload_n C eX10_shop_101 rfl ?_
        refine a_getR C eX10_shop_102 fX10_22 sh_64 rfl ?_
        refine a_iload_n C eX10_shop_105 rfl ?_
        obtain ⟨hb_11, h⟩ := gd h
        refine a_iald C eX10_shop_106 sh_69 hb_11 ?_
        exact rt_i R eX10_shop_107 h nb_int
      replace h := ie hs_12 h
      by_cases hs_14 : p2 = (4 : Int32)
      · replace h := it hs_14 h
        refine a_tsw C eX10_shop_42 (4 : Int32) hs_14 (by decide) (by decide) rfl (tgt := 108) rfl ?_
        refine a_aload_n C eX10_shop_108 rfl ?_
        refine a_getR C eX10_shop_109 fX10_53 sh_64 rfl ?_
        refine a_iload_n C eX10_shop_112 rfl ?_
        obtain ⟨hb_13, h⟩ := gd h
        refine a_iald C eX10_shop_113 sh_78 hb_13 ?_
        exact rt_i R eX10_shop_114 h nb_int
      replace h := ie hs_14 h
      by_cases hs_16 : p2 = (5 : Int32)
      · replace h := it hs_16 h
        refine a_tsw C eX10_shop_42 (5 : Int32) hs_16 (by decide) (by decide) rfl (tgt := 115) rfl ?_
        refine a_aload_n C eX10_shop_115 rfl ?_
        refine a_iload_n C eX10_shop_116 rfl ?_
        refine a_bipush C eX10_shop_117 (6 : Int32) c_bipush_6 ?_
        obtain ⟨r_15, hq, h⟩ := b1_e h
        refine a_cVi2 C eX10_shop_119 wX10_227 ⟨Nat.le_of_ble_eq_true rfl, Nat.le_of_ble_eq_true rfl, rfl, rfl⟩ rfl sh_64 rfl (kX10_far hq) (Nat.le_of_ble_eq_true rfl) ?_
        exact rt_i R eX10_shop_122 h nb_int
      replace h := ie hs_16 h
      refine a_tsw_out C eX10_shop_42 6 rfl (fun j hj => match j, hj with | 0, _ => lv_neT hs_6 rfl | 1, _ => lv_neT hs_8 rfl | 2, _ => lv_neT hs_10 rfl | 3, _ => lv_neT hs_12 rfl | 4, _ => lv_neT hs_14 rfl | 5, _ => lv_neT hs_16 rfl | j + 6, hj => absurd hj (by omega)) (tgt := 123) rfl ?_
      refine a_iconst C eX10_shop_123 (-1 : Int32) c_iconst_m1 ?_
      exact rt_i R eX10_shop_124 h nb_int
    · replace h := ie hc h
      refine a_aload_n C eX10_shop_31 rfl ?_
      refine a_iload_n C eX10_shop_32 rfl ?_
      refine a_iload_n C eX10_shop_33 rfl ?_
      refine a_bipush C eX10_shop_34 (10 : Int32) c_bipush_10 ?_
      refine a_isub C eX10_shop_36 ?_
      obtain ⟨r_17, hq, h⟩ := b1_e h
      refine a_cVi2 C eX10_shop_37 wX10_240 ⟨Nat.le_of_ble_eq_true rfl, Nat.le_of_ble_eq_true rfl, rfl, rfl⟩ rfl sh_64 rfl (kX10_askedOf hq) (Nat.le_of_ble_eq_true rfl) ?_
      exact rt_i R eX10_shop_40 h nb_int
  · replace h := it hc h
    refine a_iconst C eX10_shop_13 (-1 : Int32) c_iconst_m1 ?_
    exact rt_i R eX10_shop_14 h nb_int
/-! ShelfDrivesModel.load(II)I -/
def XX10_load (p1 : Int32) (p2 : Int32) (σ : Sg) : Option (Int32 × Sg) := lt (up σ 64 0 (0 : Int32)) (fun (σ_1 : Sg) => b1 (XX10_isAt p1 p2 σ_1) (fun (r_2 : Int32) => if r_2 = 0 then (some ((-1 : Int32), σ_1)) else (b1 (XX10_layRun σ_1) (fun (σ_3 : Sg) => if ib (((14 : Int32) * p1) + p2) 84 then some (σ_3 80 (((14 : Int32) * p1) + p2).toNatClampNeg, σ_3) else none))))
theorem kX10_load {p1 : Int32} {p2 : Int32} {σ : Sg} {rr : (Int32 × Sg)}  (h : XX10_load p1 p2 σ = some rr) : Ci MX10_load [.ref 64, .int p1, .int p2] (SHc ++ SHm) σ rr := by
  refine Ci.start rfl rfl (Nat.le_of_ble_eq_true rfl) ?_
  intro X ad C R
  replace C : Cx X cX10_load 3 RX10 (some .int) { frames := 4, cells := 0, slots := 0, locals := 88 } := C
  replace R : Ri X cX10_load (some .int) ad (SHc ++ SHm) rr := R
  show AW X 0 0 ad (SHc ++ SHm) σ 0 [some (.ref 64), some (.int p1), some (.int p2)] []
  rw [XX10_load] at h
  refine a_aload_n C eX10_load_0 rfl ?_
  refine a_iconst C eX10_load_1 (0 : Int32) c_iconst_0 ?_
  refine a_putIL C eX10_load_2 fX10_95 ftyX10 rfl rfl sh_64 rfl h (fun σ_1 h => ?_)
  refine a_aload_n C eX10_load_5 rfl ?_
  refine a_iload_n C eX10_load_6 rfl ?_
  refine a_iload_n C eX10_load_7 rfl ?_
  obtain ⟨r_2, hq, h⟩ := b1_e h
  refine a_cVi2 C eX10_load_8 wX10_259 ⟨Nat.le_of_ble_eq_true rfl, Nat.le_of_ble_eq_true rfl, rfl, rfl⟩ rfl sh_64 rfl (kX10_isAt hq) (Nat.le_of_ble_eq_true rfl) ?_
  refine a_if_ne C eX10_load_11 (fun hc => ?_) (fun hc => ?_)
  · replace h := ie hc h
    refine a_aload_n C eX10_load_16 rfl ?_
    obtain ⟨σ_3, hq, h⟩ := b1_e h
    refine a_cVv0 C eX10_load_17 wX10_262 ⟨Nat.le_of_ble_eq_true rfl, Nat.le_of_ble_eq_true rfl, rfl, rfl⟩ rfl sh_64 rfl (kX10_layRun hq) (Nat.le_of_ble_eq_true rfl) ?_
    refine a_aload_n C eX10_load_20 rfl ?_
    refine a_getR C eX10_load_21 fX10_59 sh_64 rfl ?_
    refine a_bipush C eX10_load_24 (14 : Int32) c_bipush_14 ?_
    refine a_iload_n C eX10_load_26 rfl ?_
    refine a_imul C eX10_load_27 ?_
    refine a_iload_n C eX10_load_28 rfl ?_
    refine a_iadd C eX10_load_29 ?_
    obtain ⟨hb_4, h⟩ := gd h
    refine a_iald C eX10_load_30 sh_80 hb_4 ?_
    exact rt_i R eX10_load_31 h nb_int
  · replace h := it hc h
    refine a_iconst C eX10_load_14 (-1 : Int32) c_iconst_m1 ?_
    exact rt_i R eX10_load_15 h nb_int
/-! ShelfDrivesModel.stock(II)I -/
def XX10_stock (p1 : Int32) (p2 : Int32) (σ : Sg) : Option (Int32 × Sg) := lt (up σ 64 0 (0 : Int32)) (fun (σ_1 : Sg) => b1 (XX10_isAt p1 p2 σ_1) (fun (r_2 : Int32) => if r_2 = 0 then (some ((-1 : Int32), σ_1)) else (b1 (XX10_layRun σ_1) (fun (σ_3 : Sg) => if ib (((14 : Int32) * p1) + p2) 84 then some (σ_3 81 (((14 : Int32) * p1) + p2).toNatClampNeg, σ_3) else none))))
theorem kX10_stock {p1 : Int32} {p2 : Int32} {σ : Sg} {rr : (Int32 × Sg)}  (h : XX10_stock p1 p2 σ = some rr) : Ci MX10_stock [.ref 64, .int p1, .int p2] (SHc ++ SHm) σ rr := by
  refine Ci.start rfl rfl (Nat.le_of_ble_eq_true rfl) ?_
  intro X ad C R
  replace C : Cx X cX10_stock 3 RX10 (some .int) { frames := 4, cells := 0, slots := 0, locals := 88 } := C
  replace R : Ri X cX10_stock (some .int) ad (SHc ++ SHm) rr := R
  show AW X 0 0 ad (SHc ++ SHm) σ 0 [some (.ref 64), some (.int p1), some (.int p2)] []
  rw [XX10_stock] at h
  refine a_aload_n C eX10_stock_0 rfl ?_
  refine a_iconst C eX10_stock_1 (0 : Int32) c_iconst_0 ?_
  refine a_putIL C eX10_stock_2 fX10_95 ftyX10 rfl rfl sh_64 rfl h (fun σ_1 h => ?_)
  refine a_aload_n C eX10_stock_5 rfl ?_
  refine a_iload_n C eX10_stock_6 rfl ?_
  refine a_iload_n C eX10_stock_7 rfl ?_
  obtain ⟨r_2, hq, h⟩ := b1_e h
  refine a_cVi2 C eX10_stock_8 wX10_259 ⟨Nat.le_of_ble_eq_true rfl, Nat.le_of_ble_eq_true rfl, rfl, rfl⟩ rfl sh_64 rfl (kX10_isAt hq) (Nat.le_of_ble_eq_true rfl) ?_
  refine a_if_ne C eX10_stock_11 (fun hc => ?_) (fun hc => ?_)
  · replace h := ie hc h
    refine a_aload_n C eX10_stock_16 rfl ?_
    obtain ⟨σ_3, hq, h⟩ := b1_e h
    refine a_cVv0 C eX10_stock_17 wX10_262 ⟨Nat.le_of_ble_eq_true rfl, Nat.le_of_ble_eq_true rfl, rfl, rfl⟩ rfl sh_64 rfl (kX10_layRun hq) (Nat.le_of_ble_eq_true rfl) ?_
    refine a_aload_n C eX10_stock_20 rfl ?_
    refine a_getR C eX10_stock_21 fX10_62 sh_64 rfl ?_
    refine a_bipush C eX10_stock_24 (14 : Int32) c_bipush_14 ?_
    refine a_iload_n C eX10_stock_26 rfl ?_
    refine a_imul C eX10_stock_27 ?_
    refine a_iload_n C eX10_stock_28 rfl ?_
    refine a_iadd C eX10_stock_29 ?_
    obtain ⟨hb_4, h⟩ := gd h
    refine a_iald C eX10_stock_30 sh_81 hb_4 ?_
    exact rt_i R eX10_stock_31 h nb_int
  · replace h := it hc h
    refine a_iconst C eX10_stock_14 (-1 : Int32) c_iconst_m1 ?_
    exact rt_i R eX10_stock_15 h nb_int
/-! ShelfDrivesModel.lost(II)I -/
def XX10_lost (p1 : Int32) (p2 : Int32) (σ : Sg) : Option (Int32 × Sg) := lt (up σ 64 0 (0 : Int32)) (fun (σ_1 : Sg) => b1 (XX10_isAt p1 p2 σ_1) (fun (r_2 : Int32) => if r_2 = 0 then (some ((-1 : Int32), σ_1)) else (b1 (XX10_layRun σ_1) (fun (σ_3 : Sg) => if ib (((14 : Int32) * p1) + p2) 84 then some (σ_3 82 (((14 : Int32) * p1) + p2).toNatClampNeg, σ_3) else none))))
theorem kX10_lost {p1 : Int32} {p2 : Int32} {σ : Sg} {rr : (Int32 × Sg)}  (h : XX10_lost p1 p2 σ = some rr) : Ci MX10_lost [.ref 64, .int p1, .int p2] (SHc ++ SHm) σ rr := by
  refine Ci.start rfl rfl (Nat.le_of_ble_eq_true rfl) ?_
  intro X ad C R
  replace C : Cx X cX10_lost 3 RX10 (some .int) { frames := 4, cells := 0, slots := 0, locals := 88 } := C
  replace R : Ri X cX10_lost (some .int) ad (SHc ++ SHm) rr := R
  show AW X 0 0 ad (SHc ++ SHm) σ 0 [some (.ref 64), some (.int p1), some (.int p2)] []
  rw [XX10_lost] at h
  refine a_aload_n C eX10_lost_0 rfl ?_
  refine a_iconst C eX10_lost_1 (0 : Int32) c_iconst_0 ?_
  refine a_putIL C eX10_lost_2 fX10_95 ftyX10 rfl rfl sh_64 rfl h (fun σ_1 h => ?_)
  refine a_aload_n C eX10_lost_5 rfl ?_
  refine a_iload_n C eX10_lost_6 rfl ?_
  refine a_iload_n C eX10_lost_7 rfl ?_
  obtain ⟨r_2, hq, h⟩ := b1_e h
  refine a_cVi2 C eX10_lost_8 wX10_259 ⟨Nat.le_of_ble_eq_true rfl, Nat.le_of_ble_eq_true rfl, rfl, rfl⟩ rfl sh_64 rfl (kX10_isAt hq) (Nat.le_of_ble_eq_true rfl) ?_
  refine a_if_ne C eX10_lost_11 (fun hc => ?_) (fun hc => ?_)
  · replace h := ie hc h
    refine a_aload_n C eX10_lost_16 rfl ?_
    obtain ⟨σ_3, hq, h⟩ := b1_e h
    refine a_cVv0 C eX10_lost_17 wX10_262 ⟨Nat.le_of_ble_eq_true rfl, Nat.le_of_ble_eq_true rfl, rfl, rfl⟩ rfl sh_64 rfl (kX10_layRun hq) (Nat.le_of_ble_eq_true rfl) ?_
    refine a_aload_n C eX10_lost_20 rfl ?_
    refine a_getR C eX10_lost_21 fX10_65 sh_64 rfl ?_
    refine a_bipush C eX10_lost_24 (14 : Int32) c_bipush_14 ?_
    refine a_iload_n C eX10_lost_26 rfl ?_
    refine a_imul C eX10_lost_27 ?_
    refine a_iload_n C eX10_lost_28 rfl ?_
    refine a_iadd C eX10_lost_29 ?_
    obtain ⟨hb_4, h⟩ := gd h
    refine a_iald C eX10_lost_30 sh_82 hb_4 ?_
    exact rt_i R eX10_lost_31 h nb_int
  · replace h := it hc h
    refine a_iconst C eX10_lost_14 (-1 : Int32) c_iconst_m1 ?_
    exact rt_i R eX10_lost_15 h nb_int
/-! ShelfDrivesModel.lostBy(I)I -/
def LX10_lostBy_4 (p1 : Int32) (σ : Sg) : Nat → Int32 → Int32 → Option Int32
  | 0, _, _ => none
  | n + 1, x2_1, x3_2 => b1 (XX10_days σ) (fun (r_3 : Int32) => if r_3 ≤ x3_2 then (some x2_1) else (if ib (((14 : Int32) * p1) + x3_2) 84 then lt (x2_1 + (σ 82 (((14 : Int32) * p1) + x3_2).toNatClampNeg)) (fun (x2_5 : Int32) => lt (x3_2 + (1 : Int32)) (fun (x3_6 : Int32) => LX10_lostBy_4 p1 σ n x2_5 x3_6)) else none))
def XX10_lostBy (p1 : Int32) (σ : Sg) : Option Int32 := LX10_lostBy_4 p1 σ FUEL (0 : Int32) (0 : Int32)
theorem lX10_lostBy_4 {X : CT} {ad : Nat → Nat} {rr : Int32} {p1 : Int32} {σ : Sg}  (C : Cx X cX10_lostBy 4 RX10 (some .int) { frames := 1, cells := 0, slots := 0, locals := 20 }) (R : Ri X cX10_lostBy (some .int) ad (SHc ++ SHm) (rr, σ))  : ∀ (n : Nat) (x2_1 : Int32) (x3_2 : Int32), LX10_lostBy_4 p1 σ n x2_1 x3_2 = some rr → AW X 0 0 ad (SHc ++ SHm) σ 4 [some (.ref 64), some (.int p1), some (.int x2_1), some (.int x3_2)] [] := by
  intro n
  induction n with
  | zero =>
    intro x2_1 x3_2 h
    rw [LX10_lostBy_4] at h
    cases h
  | succ n ih =>
    intro x2_1 x3_2 h
    rw [LX10_lostBy_4] at h
    refine a_iload_n C eX10_lostBy_4 rfl ?_
    refine a_aload_n C eX10_lostBy_5 rfl ?_
    obtain ⟨r_3, hq, h⟩ := b1_e h
    refine a_cVi0 C eX10_lostBy_6 wX10_106 ⟨Nat.le_of_ble_eq_true rfl, Nat.le_of_ble_eq_true rfl, rfl, rfl⟩ rfl sh_64 rfl (kX10_days hq) (Nat.le_of_ble_eq_true rfl) ?_
    refine a_icmp_ge C eX10_lostBy_9 (fun hc => ?_) (fun hc => ?_)
    · replace h := it hc h
      refine a_iload_n C eX10_lostBy_32 rfl ?_
      exact rt_p R eX10_lostBy_33 h nb_int
    · replace h := ie hc h
      refine a_iload_n C eX10_lostBy_12 rfl ?_
      refine a_aload_n C eX10_lostBy_13 rfl ?_
      refine a_getR C eX10_lostBy_14 fX10_65 sh_64 rfl ?_
      refine a_bipush C eX10_lostBy_17 (14 : Int32) c_bipush_14 ?_
      refine a_iload_n C eX10_lostBy_19 rfl ?_
      refine a_imul C eX10_lostBy_20 ?_
      refine a_iload_n C eX10_lostBy_21 rfl ?_
      refine a_iadd C eX10_lostBy_22 ?_
      obtain ⟨hb_4, h⟩ := gd h
      refine a_iald C eX10_lostBy_23 sh_82 hb_4 ?_
      refine a_iadd C eX10_lostBy_24 ?_
      refine a_lt h (fun x2_5 h => ?_)
      refine a_ist_n C eX10_lostBy_25 (Nat.le_of_ble_eq_true rfl) [some (.ref 64), some (.int p1), some (.int x2_5), some (.int x3_2)] rfl ?_
      refine a_inc C eX10_lostBy_26 rfl c_iconst_1 h (fun z => [some (.ref 64), some (.int p1), some (.int x2_5), some (.int z)]) (fun _ => rfl) (fun x3_6 h => ?_)
      refine a_goto C eX10_lostBy_29 ?_
      exact a_less (lle_same (lle_same (lle_same (lle_same lle_nil)))) (ih _ _ h)
theorem kX10_lostBy {p1 : Int32} {σ : Sg} {rr : Int32}  (h : XX10_lostBy p1 σ = some rr) : Ci MX10_lostBy [.ref 64, .int p1] (SHc ++ SHm) σ (rr, σ) := by
  refine Ci.start rfl rfl (Nat.le_of_ble_eq_true rfl) ?_
  intro X ad C R
  replace C : Cx X cX10_lostBy 4 RX10 (some .int) { frames := 1, cells := 0, slots := 0, locals := 20 } := C
  replace R : Ri X cX10_lostBy (some .int) ad (SHc ++ SHm) (rr, σ) := R
  show AW X 0 0 ad (SHc ++ SHm) σ 0 [some (.ref 64), some (.int p1), none, none] []
  rw [XX10_lostBy] at h
  refine a_iconst C eX10_lostBy_0 (0 : Int32) c_iconst_0 ?_
  refine a_ist_n C eX10_lostBy_1 (Nat.le_of_ble_eq_true rfl) [some (.ref 64), some (.int p1), some (.int (0 : Int32)), none] rfl ?_
  refine a_iconst C eX10_lostBy_2 (0 : Int32) c_iconst_0 ?_
  refine a_ist_n C eX10_lostBy_3 (Nat.le_of_ble_eq_true rfl) [some (.ref 64), some (.int p1), some (.int (0 : Int32)), some (.int (0 : Int32))] rfl ?_
  exact a_less (lle_same (lle_same (lle_same (lle_same lle_nil)))) (lX10_lostBy_4  C R  _ _ _ h)
/-! ShelfDrivesModel.of(II)I -/
def LX10_of_33 (p1 : Int32) (p2 : Int32) (σ_4 : Sg) : Nat → Int32 → Int32 → Option (Int32 × Sg)
  | 0, _, _ => none
  | n + 1, x3_5, x4_6 => b1 (XX10_days σ_4) (fun (r_7 : Int32) => if r_7 ≤ x4_6 then (some (x3_5, σ_4)) else (lt (((14 : Int32) * p1) + x4_6) (fun (x5_8 : Int32) => if ib p1 6 then b1 (XX10_isOf (σ_4 78 p1.toNatClampNeg) x4_6) (fun (r_10 : Int32) => lt (fun (s_11 : Int32) => lt (fun (s_13 : Int32) => lt (x3_5 + s_13) (fun (x3_15 : Int32) => lt (x4_6 + (1 : Int32)) (fun (x4_16 : Int32) => LX10_of_33 p1 p2 σ_4 n x3_15 x4_16))) (fun (k137_14 : Int32 → Option (Int32 × Sg)) => if p2 = 0 then (if ib x5_8 84 then k137_14 (σ_4 80 x5_8.toNatClampNeg) else none) else (if p2 = (1 : Int32) then (if ib x5_8 84 then k137_14 ((σ_4 79 x5_8.toNatClampNeg) - (σ_4 82 x5_8.toNatClampNeg)) else none) else (if p2 = (2 : Int32) then (if ib x5_8 84 then k137_14 (σ_4 82 x5_8.toNatClampNeg) else none) else (k137_14 s_11))))) (fun (k80_12 : Int32 → Option (Int32 × Sg)) => lt (k80_12 (0 : Int32)) (fun (k79_20 : Option (Int32 × Sg)) => if r_10 = 0 then (k79_20) else (if ib x5_8 84 then if (σ_4 80 x5_8.toNatClampNeg) = 0 then (k80_12 (1 : Int32)) else (k79_20) else none)))) else none)))
def XX10_of (p1 : Int32) (p2 : Int32) (σ : Sg) : Option (Int32 × Sg) := lt (up σ 64 0 (0 : Int32)) (fun (σ_1 : Sg) => b1 (XX10_isShop p1 σ_1) (fun (r_2 : Int32) => if r_2 = 0 then (some ((-1 : Int32), σ_1)) else (b1 (XX10_in p2 (0 : Int32) (3 : Int32)) (fun (r_3 : Int32) => if r_3 = 0 then (some ((-1 : Int32), σ_1)) else (b1 (XX10_layRun σ_1) (fun (σ_4 : Sg) => LX10_of_33 p1 p2 σ_4 FUEL (0 : Int32) (0 : Int32)))))))
theorem lX10_of_33 {X : CT} {ad : Nat → Nat} {rr : (Int32 × Sg)} {p1 : Int32} {p2 : Int32} {σ_4 : Sg}  (C : Cx X cX10_of 7 RX10 (some .int) { frames := 4, cells := 0, slots := 0, locals := 88 }) (R : Ri X cX10_of (some .int) ad (SHc ++ SHm) rr)  : ∀ (n : Nat) (x3_5 : Int32) (x4_6 : Int32), LX10_of_33 p1 p2 σ_4 n x3_5 x4_6 = some rr → AW X 0 0 ad (SHc ++ SHm) σ_4 33 [some (.ref 64), some (.int p1), some (.int p2), some (.int x3_5), some (.int x4_6), none, none] [] := by
  intro n
  induction n with
  | zero =>
    intro x3_5 x4_6 h
    rw [LX10_of_33] at h
    cases h
  | succ n ih =>
    intro x3_5 x4_6 h
    rw [LX10_of_33] at h
    refine a_iload C eX10_of_33 rfl ?_
    refine a_aload_n C eX10_of_35 rfl ?_
    obtain ⟨r_7, hq, h⟩ := b1_e h
    refine a_cVi0 C eX10_of_36 wX10_106 ⟨Nat.le_of_ble_eq_true rfl, Nat.le_of_ble_eq_true rfl, rfl, rfl⟩ rfl sh_64 rfl (kX10_days hq) (Nat.le_of_ble_eq_true rfl) ?_
    refine a_icmp_ge C eX10_of_39 (fun hc => ?_) (fun hc => ?_)
    · replace h := it hc h
      refine a_iload_n C eX10_of_145 rfl ?_
      exact rt_i R eX10_of_146 h nb_int
    · replace h := ie hc h
      refine a_bipush C eX10_of_42 (14 : Int32) c_bipush_14 ?_
      refine a_iload_n C eX10_of_44 rfl ?_
      refine a_imul C eX10_of_45 ?_
      refine a_iload C eX10_of_46 rfl ?_
      refine a_iadd C eX10_of_48 ?_
      refine a_lt h (fun x5_8 h => ?_)
      refine a_ist C eX10_of_49 (Nat.le_of_ble_eq_true rfl) [some (.ref 64), some (.int p1), some (.int p2), some (.int x3_5), some (.int x4_6), some (.int x5_8), none] rfl ?_
      refine a_aload_n C eX10_of_51 rfl ?_
      refine a_getR C eX10_of_52 fX10_53 sh_64 rfl ?_
      refine a_iload_n C eX10_of_55 rfl ?_
      obtain ⟨hb_9, h⟩ := gd h
      refine a_iald C eX10_of_56 sh_78 hb_9 ?_
      refine a_iload C eX10_of_57 rfl ?_
      obtain ⟨r_10, hq, h⟩ := b1_e h
      refine a_cSi2 C eX10_of_59 wX10_176 ⟨Nat.le_of_ble_eq_true rfl, Nat.le_of_ble_eq_true rfl, rfl, rfl⟩ rfl (kX10_isOf hq) (Nat.le_of_ble_eq_true rfl) ?_
      refine jn (fun (kk : Int32 → Option (Int32 × Sg)) => ∀ (s_11 : Int32), kk s_11 = some rr → AW X 0 0 ad (SHc ++ SHm) σ_4 80 [some (.ref 64), some (.int p1), some (.int p2), some (.int x3_5), some (.int x4_6), some (.int x5_8), none] [.int s_11]) h ?_ (fun k80_12 hk80_12 h => ?_)
      · intro s_11 h
        refine a_ist C eX10_of_80 (Nat.le_of_ble_eq_true rfl) [some (.ref 64), some (.int p1), some (.int p2), some (.int x3_5), some (.int x4_6), some (.int x5_8), some (.int s_11)] rfl ?_
        refine a_iload_n C eX10_of_82 rfl ?_
        refine a_iload_n C eX10_of_83 rfl ?_
        refine jn (fun (kk : Int32 → Option (Int32 × Sg)) => ∀ (s_13 : Int32), kk s_13 = some rr → AW X 0 0 ad (SHc ++ SHm) σ_4 137 [some (.ref 64), some (.int p1), some (.int p2), none, some (.int x4_6), none, none] [.int s_13, .int x3_5]) h ?_ (fun k137_14 hk137_14 h => ?_)
        · intro s_13 h
          refine a_iadd C eX10_of_137 ?_
          refine a_lt h (fun x3_15 h => ?_)
          refine a_ist_n C eX10_of_138 (Nat.le_of_ble_eq_true rfl) [some (.ref 64), some (.int p1), some (.int p2), some (.int x3_15), some (.int x4_6), none, none] rfl ?_
          refine a_inc C eX10_of_139 rfl c_iconst_1 h (fun z => [some (.ref 64), some (.int p1), some (.int p2), some (.int x3_15), some (.int z), none, none]) (fun _ => rfl) (fun x4_16 h => ?_)
          refine a_goto C eX10_of_142 ?_
          exact a_less (lle_same (lle_same (lle_same (lle_same (lle_same (lle_same (lle_same lle_nil))))))) (ih _ _ h)
        refine a_if_ne C eX10_of_84 (fun hc => ?_) (fun hc => ?_)
        · replace h := ie hc h
          refine a_iload_n C eX10_of_97 rfl ?_
          refine a_iconst C eX10_of_98 (1 : Int32) c_iconst_1 ?_
          refine a_icmp_ne C eX10_of_99 (fun hc => ?_) (fun hc => ?_)
          · replace h := ie hc h
            refine a_iload_n C eX10_of_120 rfl ?_
            refine a_iconst C eX10_of_121 (2 : Int32) c_iconst_2 ?_
            refine a_icmp_ne C eX10_of_122 (fun hc => ?_) (fun hc => ?_)
            · replace h := ie hc h
              refine a_iload C eX10_of_135 rfl ?_
              exact a_less (lle_same (lle_same (lle_same (lle_drop (lle_same (lle_drop (lle_drop lle_nil))))))) (hk137_14 _ h)
            · replace h := it hc h
              refine a_aload_n C eX10_of_125 rfl ?_
              refine a_getR C eX10_of_126 fX10_65 sh_64 rfl ?_
              refine a_iload C eX10_of_129 rfl ?_
              obtain ⟨hb_17, h⟩ := gd h
              refine a_iald C eX10_of_131 sh_82 hb_17 ?_
              refine a_goto C eX10_of_132 ?_
              exact a_less (lle_same (lle_same (lle_same (lle_drop (lle_same (lle_drop (lle_drop lle_nil))))))) (hk137_14 _ h)
          · replace h := it hc h
            refine a_aload_n C eX10_of_102 rfl ?_
            refine a_getR C eX10_of_103 fX10_56 sh_64 rfl ?_
            refine a_iload C eX10_of_106 rfl ?_
            obtain ⟨hb_18, h⟩ := gd h
            refine a_iald C eX10_of_108 sh_79 hb_18 ?_
            refine a_aload_n C eX10_of_109 rfl ?_
            refine a_getR C eX10_of_110 fX10_65 sh_64 rfl ?_
            refine a_iload C eX10_of_113 rfl ?_
            refine a_iald C eX10_of_115 sh_82 hb_18 ?_
            refine a_isub C eX10_of_116 ?_
            refine a_goto C eX10_of_117 ?_
            exact a_less (lle_same (lle_same (lle_same (lle_drop (lle_same (lle_drop (lle_drop lle_nil))))))) (hk137_14 _ h)
        · replace h := it hc h
          refine a_aload_n C eX10_of_87 rfl ?_
          refine a_getR C eX10_of_88 fX10_59 sh_64 rfl ?_
          refine a_iload C eX10_of_91 rfl ?_
          obtain ⟨hb_19, h⟩ := gd h
          refine a_iald C eX10_of_93 sh_80 hb_19 ?_
          refine a_goto C eX10_of_94 ?_
          exact a_less (lle_same (lle_same (lle_same (lle_drop (lle_same (lle_drop (lle_drop lle_nil))))))) (hk137_14 _ h)
      refine jn (fun (kk : Option (Int32 × Sg)) => kk = some rr → AW X 0 0 ad (SHc ++ SHm) σ_4 79 [some (.ref 64), some (.int p1), some (.int p2), some (.int x3_5), some (.int x4_6), some (.int x5_8), none] []) h ?_ (fun k79_20 hk79_20 h => ?_)
      · intro h
        refine a_iconst C eX10_of_79 (0 : Int32) c_iconst_0 ?_
        exact a_less (lle_same (lle_same (lle_same (lle_same (lle_same (lle_same (lle_same lle_nil))))))) (hk80_12 _ h)
      refine a_if_eq C eX10_of_62 (fun hc => ?_) (fun hc => ?_)
      · replace h := it hc h
        exact a_less (lle_same (lle_same (lle_same (lle_same (lle_same (lle_same (lle_same lle_nil))))))) (hk79_20 h)
      · replace h := ie hc h
        refine a_aload_n C eX10_of_65 rfl ?_
        refine a_getR C eX10_of_66 fX10_59 sh_64 rfl ?_
        refine a_iload C eX10_of_69 rfl ?_
        obtain ⟨hb_21, h⟩ := gd h
        refine a_iald C eX10_of_71 sh_80 hb_21 ?_
        refine a_if_ne C eX10_of_72 (fun hc => ?_) (fun hc => ?_)
        · replace h := ie hc h
          exact a_less (lle_same (lle_same (lle_same (lle_same (lle_same (lle_same (lle_same lle_nil))))))) (hk79_20 h)
        · replace h := it hc h
          refine a_iconst C eX10_of_75 (1 : Int32) c_iconst_1 ?_
          refine a_goto C eX10_of_76 ?_
          exact a_less (lle_same (lle_same (lle_same (lle_same (lle_same (lle_same (lle_same lle_nil))))))) (hk80_12 _ h)
theorem kX10_of {p1 : Int32} {p2 : Int32} {σ : Sg} {rr : (Int32 × Sg)}  (h : XX10_of p1 p2 σ = some rr) : Ci MX10_of [.ref 64, .int p1, .int p2] (SHc ++ SHm) σ rr := by
  refine Ci.start rfl rfl (Nat.le_of_ble_eq_true rfl) ?_
  intro X ad C R
  replace C : Cx X cX10_of 7 RX10 (some .int) { frames := 4, cells := 0, slots := 0, locals := 88 } := C
  replace R : Ri X cX10_of (some .int) ad (SHc ++ SHm) rr := R
  show AW X 0 0 ad (SHc ++ SHm) σ 0 [some (.ref 64), some (.int p1), some (.int p2), none, none, none, none] []
  rw [XX10_of] at h
  refine a_aload_n C eX10_of_0 rfl ?_
  refine a_iconst C eX10_of_1 (0 : Int32) c_iconst_0 ?_
  refine a_putIL C eX10_of_2 fX10_95 ftyX10 rfl rfl sh_64 rfl h (fun σ_1 h => ?_)
  refine a_aload_n C eX10_of_5 rfl ?_
  refine a_iload_n C eX10_of_6 rfl ?_
  obtain ⟨r_2, hq, h⟩ := b1_e h
  refine a_cVi1 C eX10_of_7 wX10_233 ⟨Nat.le_of_ble_eq_true rfl, Nat.le_of_ble_eq_true rfl, rfl, rfl⟩ rfl sh_64 rfl (kX10_isShop hq) (Nat.le_of_ble_eq_true rfl) ?_
  refine a_if_eq C eX10_of_10 (fun hc => ?_) (fun hc => ?_)
  · replace h := it hc h
    refine a_iconst C eX10_of_22 (-1 : Int32) c_iconst_m1 ?_
    exact rt_i R eX10_of_23 h nb_int
  · replace h := ie hc h
    refine a_iload_n C eX10_of_13 rfl ?_
    refine a_iconst C eX10_of_14 (0 : Int32) c_iconst_0 ?_
    refine a_iconst C eX10_of_15 (3 : Int32) c_iconst_3 ?_
    obtain ⟨r_3, hq, h⟩ := b1_e h
    refine a_cSi3 C eX10_of_16 wX10_102 ⟨Nat.le_of_ble_eq_true rfl, Nat.le_of_ble_eq_true rfl, rfl, rfl⟩ rfl (kX10_in hq) (Nat.le_of_ble_eq_true rfl) ?_
    refine a_if_ne C eX10_of_19 (fun hc => ?_) (fun hc => ?_)
    · replace h := ie hc h
      refine a_aload_n C eX10_of_24 rfl ?_
      obtain ⟨σ_4, hq, h⟩ := b1_e h
      refine a_cVv0 C eX10_of_25 wX10_262 ⟨Nat.le_of_ble_eq_true rfl, Nat.le_of_ble_eq_true rfl, rfl, rfl⟩ rfl sh_64 rfl (kX10_layRun hq) (Nat.le_of_ble_eq_true rfl) ?_
      refine a_iconst C eX10_of_28 (0 : Int32) c_iconst_0 ?_
      refine a_ist_n C eX10_of_29 (Nat.le_of_ble_eq_true rfl) [some (.ref 64), some (.int p1), some (.int p2), some (.int (0 : Int32)), none, none, none] rfl ?_
      refine a_iconst C eX10_of_30 (0 : Int32) c_iconst_0 ?_
      refine a_ist C eX10_of_31 (Nat.le_of_ble_eq_true rfl) [some (.ref 64), some (.int p1), some (.int p2), some (.int (0 : Int32)), some (.int (0 : Int32)), none, none] rfl ?_
      exact a_less (lle_same (lle_same (lle_same (lle_same (lle_same (lle_same (lle_same lle_nil))))))) (lX10_of_33  C R  _ _ _ h)
    · replace h := it hc h
      refine a_iconst C eX10_of_22 (-1 : Int32) c_iconst_m1 ?_
      exact rt_i R eX10_of_23 h nb_int
/-! ShelfDrivesModel.firstLost(II)I -/
def LX10_firstLost_2 (p1 : Int32) (σ : Sg) : Nat → Int32 → Option Int32
  | 0, _ => none
  | n + 1, x3_1 => b1 (XX10_days σ) (fun (r_2 : Int32) => if r_2 ≤ x3_1 then (some (-1 : Int32)) else (if ib (((14 : Int32) * p1) + x3_1) 84 then if (σ 82 (((14 : Int32) * p1) + x3_1).toNatClampNeg) ≤ 0 then (lt (x3_1 + (1 : Int32)) (fun (x3_4 : Int32) => LX10_firstLost_2 p1 σ n x3_4)) else (some x3_1) else none))
def XX10_firstLost (p1 : Int32) (p2 : Int32) (σ : Sg) : Option Int32 := LX10_firstLost_2 p1 σ FUEL p2
theorem lX10_firstLost_2 {X : CT} {ad : Nat → Nat} {rr : Int32} {p1 : Int32} {σ : Sg}  (C : Cx X cX10_firstLost 4 RX10 (some .int) { frames := 1, cells := 0, slots := 0, locals := 20 }) (R : Ri X cX10_firstLost (some .int) ad (SHc ++ SHm) (rr, σ))  : ∀ (n : Nat) (x3_1 : Int32), LX10_firstLost_2 p1 σ n x3_1 = some rr → AW X 0 0 ad (SHc ++ SHm) σ 2 [some (.ref 64), some (.int p1), none, some (.int x3_1)] [] := by
  intro n
  induction n with
  | zero =>
    intro x3_1 h
    rw [LX10_firstLost_2] at h
    cases h
  | succ n ih =>
    intro x3_1 h
    rw [LX10_firstLost_2] at h
    refine a_iload_n C eX10_firstLost_2 rfl ?_
    refine a_aload_n C eX10_firstLost_3 rfl ?_
    obtain ⟨r_2, hq, h⟩ := b1_e h
    refine a_cVi0 C eX10_firstLost_4 wX10_106 ⟨Nat.le_of_ble_eq_true rfl, Nat.le_of_ble_eq_true rfl, rfl, rfl⟩ rfl sh_64 rfl (kX10_days hq) (Nat.le_of_ble_eq_true rfl) ?_
    refine a_icmp_ge C eX10_firstLost_7 (fun hc => ?_) (fun hc => ?_)
    · replace h := it hc h
      refine a_iconst C eX10_firstLost_32 (-1 : Int32) c_iconst_m1 ?_
      exact rt_p R eX10_firstLost_33 h nb_int
    · replace h := ie hc h
      refine a_aload_n C eX10_firstLost_10 rfl ?_
      refine a_getR C eX10_firstLost_11 fX10_65 sh_64 rfl ?_
      refine a_bipush C eX10_firstLost_14 (14 : Int32) c_bipush_14 ?_
      refine a_iload_n C eX10_firstLost_16 rfl ?_
      refine a_imul C eX10_firstLost_17 ?_
      refine a_iload_n C eX10_firstLost_18 rfl ?_
      refine a_iadd C eX10_firstLost_19 ?_
      obtain ⟨hb_3, h⟩ := gd h
      refine a_iald C eX10_firstLost_20 sh_82 hb_3 ?_
      refine a_if_le C eX10_firstLost_21 (fun hc => ?_) (fun hc => ?_)
      · replace h := it hc h
        refine a_inc C eX10_firstLost_26 rfl c_iconst_1 h (fun z => [some (.ref 64), some (.int p1), none, some (.int z)]) (fun _ => rfl) (fun x3_4 h => ?_)
        refine a_goto C eX10_firstLost_29 ?_
        exact a_less (lle_same (lle_same (lle_same (lle_same lle_nil)))) (ih _ h)
      · replace h := ie hc h
        refine a_iload_n C eX10_firstLost_24 rfl ?_
        exact rt_p R eX10_firstLost_25 h nb_int
theorem kX10_firstLost {p1 : Int32} {p2 : Int32} {σ : Sg} {rr : Int32}  (h : XX10_firstLost p1 p2 σ = some rr) : Ci MX10_firstLost [.ref 64, .int p1, .int p2] (SHc ++ SHm) σ (rr, σ) := by
  refine Ci.start rfl rfl (Nat.le_of_ble_eq_true rfl) ?_
  intro X ad C R
  replace C : Cx X cX10_firstLost 4 RX10 (some .int) { frames := 1, cells := 0, slots := 0, locals := 20 } := C
  replace R : Ri X cX10_firstLost (some .int) ad (SHc ++ SHm) (rr, σ) := R
  show AW X 0 0 ad (SHc ++ SHm) σ 0 [some (.ref 64), some (.int p1), some (.int p2), none] []
  rw [XX10_firstLost] at h
  refine a_iload_n C eX10_firstLost_0 rfl ?_
  refine a_ist_n C eX10_firstLost_1 (Nat.le_of_ble_eq_true rfl) [some (.ref 64), some (.int p1), some (.int p2), some (.int p2)] rfl ?_
  exact a_less (lle_same (lle_same (lle_drop (lle_same lle_nil)))) (lX10_firstLost_2  C R  _ _ h)
/-! ShelfDrivesModel.empty(I)I -/
def XX10_empty (p1 : Int32) (σ : Sg) : Option (Int32 × Sg) := lt (up σ 64 0 (0 : Int32)) (fun (σ_1 : Sg) => b1 (XX10_isShop p1 σ_1) (fun (r_2 : Int32) => if r_2 = 0 then (some ((-1 : Int32), σ_1)) else (b1 (XX10_layRun σ_1) (fun (σ_3 : Sg) => b1 (XX10_firstLost p1 (0 : Int32) σ_3) (fun (r_4 : Int32) => some (r_4, σ_3))))))
theorem kX10_empty {p1 : Int32} {σ : Sg} {rr : (Int32 × Sg)}  (h : XX10_empty p1 σ = some rr) : Ci MX10_empty [.ref 64, .int p1] (SHc ++ SHm) σ rr := by
  refine Ci.start rfl rfl (Nat.le_of_ble_eq_true rfl) ?_
  intro X ad C R
  replace C : Cx X cX10_empty 2 RX10 (some .int) { frames := 4, cells := 0, slots := 0, locals := 88 } := C
  replace R : Ri X cX10_empty (some .int) ad (SHc ++ SHm) rr := R
  show AW X 0 0 ad (SHc ++ SHm) σ 0 [some (.ref 64), some (.int p1)] []
  rw [XX10_empty] at h
  refine a_aload_n C eX10_empty_0 rfl ?_
  refine a_iconst C eX10_empty_1 (0 : Int32) c_iconst_0 ?_
  refine a_putIL C eX10_empty_2 fX10_95 ftyX10 rfl rfl sh_64 rfl h (fun σ_1 h => ?_)
  refine a_aload_n C eX10_empty_5 rfl ?_
  refine a_iload_n C eX10_empty_6 rfl ?_
  obtain ⟨r_2, hq, h⟩ := b1_e h
  refine a_cVi1 C eX10_empty_7 wX10_233 ⟨Nat.le_of_ble_eq_true rfl, Nat.le_of_ble_eq_true rfl, rfl, rfl⟩ rfl sh_64 rfl (kX10_isShop hq) (Nat.le_of_ble_eq_true rfl) ?_
  refine a_if_ne C eX10_empty_10 (fun hc => ?_) (fun hc => ?_)
  · replace h := ie hc h
    refine a_aload_n C eX10_empty_15 rfl ?_
    obtain ⟨σ_3, hq, h⟩ := b1_e h
    refine a_cVv0 C eX10_empty_16 wX10_262 ⟨Nat.le_of_ble_eq_true rfl, Nat.le_of_ble_eq_true rfl, rfl, rfl⟩ rfl sh_64 rfl (kX10_layRun hq) (Nat.le_of_ble_eq_true rfl) ?_
    refine a_aload_n C eX10_empty_19 rfl ?_
    refine a_iload_n C eX10_empty_20 rfl ?_
    refine a_iconst C eX10_empty_21 (0 : Int32) c_iconst_0 ?_
    obtain ⟨r_4, hq, h⟩ := b1_e h
    refine a_cVi2 C eX10_empty_22 wX10_265 ⟨Nat.le_of_ble_eq_true rfl, Nat.le_of_ble_eq_true rfl, rfl, rfl⟩ rfl sh_64 rfl (kX10_firstLost hq) (Nat.le_of_ble_eq_true rfl) ?_
    exact rt_i R eX10_empty_25 h nb_int
  · replace h := it hc h
    refine a_iconst C eX10_empty_13 (-1 : Int32) c_iconst_m1 ?_
    exact rt_i R eX10_empty_14 h nb_int
/-! ShelfDrivesModel.bears(II)I -/
def LX10_bears_22 (p1 : Int32) (p2 : Int32) : Nat → Int32 → Sg → Option (Int32 × Sg)
  | 0, _, _ => none
  | n + 1, x3_4, σ_5 => if (99 : Int32) ≤ x3_4 then (some (x3_4, σ_5)) else (b1 (XX10_lostBy p1 σ_5) (fun (r_6 : Int32) => if r_6 = 0 then (lt (x3_4 + (1 : Int32)) (fun (x3_7 : Int32) => lt (((14 : Int32) * p1) + p2) (fun (d_8 : Int32) => if ib d_8 84 then lt (up σ_5 79 d_8.toNatClampNeg ((σ_5 79 d_8.toNatClampNeg) + (1 : Int32))) (fun (σ_10 : Sg) => if ib p1 6 then b1 (XX10_runShop p1 (σ_10 78 p1.toNatClampNeg) σ_10) (fun (σ_12 : Sg) => LX10_bears_22 p1 p2 n x3_7 σ_12) else none) else none))) else (some (x3_4, σ_5))))
def XX10_bears (p1 : Int32) (p2 : Int32) (σ : Sg) : Option (Int32 × Sg) := lt (up σ 64 0 (0 : Int32)) (fun (σ_1 : Sg) => b1 (XX10_isAt p1 p2 σ_1) (fun (r_2 : Int32) => if r_2 = 0 then (some ((-1 : Int32), σ_1)) else (b1 (XX10_layRun σ_1) (fun (σ_3 : Sg) => LX10_bears_22 p1 p2 FUEL (-1 : Int32) σ_3))))
theorem lX10_bears_22 {X : CT} {ad : Nat → Nat} {rr : (Int32 × Sg)} {p1 : Int32} {p2 : Int32}  (C : Cx X cX10_bears 4 RX10 (some .int) { frames := 4, cells := 0, slots := 0, locals := 88 }) (R : Ri X cX10_bears (some .int) ad (SHc ++ SHm) rr)  : ∀ (n : Nat) (x3_4 : Int32) (σ_5 : Sg), LX10_bears_22 p1 p2 n x3_4 σ_5 = some rr → AW X 0 0 ad (SHc ++ SHm) σ_5 22 [some (.ref 64), some (.int p1), some (.int p2), some (.int x3_4)] [] := by
  intro n
  induction n with
  | zero =>
    intro x3_4 σ_5 h
    rw [LX10_bears_22] at h
    cases h
  | succ n ih =>
    intro x3_4 σ_5 h
    rw [LX10_bears_22] at h
    refine a_iload_n C eX10_bears_22 rfl ?_
    refine a_bipush C eX10_bears_23 (99 : Int32) c_bipush_99 ?_
    refine a_icmp_ge C eX10_bears_25 (fun hc => ?_) (fun hc => ?_)
    · replace h := it hc h
      refine a_iload_n C eX10_bears_68 rfl ?_
      exact rt_i R eX10_bears_69 h nb_int
    · replace h := ie hc h
      refine a_aload_n C eX10_bears_28 rfl ?_
      refine a_iload_n C eX10_bears_29 rfl ?_
      obtain ⟨r_6, hq, h⟩ := b1_e h
      refine a_cVi1 C eX10_bears_30 wX10_268 ⟨Nat.le_of_ble_eq_true rfl, Nat.le_of_ble_eq_true rfl, rfl, rfl⟩ rfl sh_64 rfl (kX10_lostBy hq) (Nat.le_of_ble_eq_true rfl) ?_
      refine a_if_ne C eX10_bears_33 (fun hc => ?_) (fun hc => ?_)
      · replace h := ie hc h
        refine a_iload_n C eX10_bears_68 rfl ?_
        exact rt_i R eX10_bears_69 h nb_int
      · replace h := it hc h
        refine a_inc C eX10_bears_36 rfl c_iconst_1 h (fun z => [some (.ref 64), some (.int p1), some (.int p2), some (.int z)]) (fun _ => rfl) (fun x3_7 h => ?_)
        refine a_aload_n C eX10_bears_39 rfl ?_
        refine a_getR C eX10_bears_40 fX10_56 sh_64 rfl ?_
        refine a_bipush C eX10_bears_43 (14 : Int32) c_bipush_14 ?_
        refine a_iload_n C eX10_bears_45 rfl ?_
        refine a_imul C eX10_bears_46 ?_
        refine a_iload_n C eX10_bears_47 rfl ?_
        refine a_iadd C eX10_bears_48 ?_
        refine a_lt h (fun d_8 h => ?_)
        refine a_dup2 C eX10_bears_49 rfl rfl ?_
        obtain ⟨hb_9, h⟩ := gd h
        refine a_iald C eX10_bears_50 sh_79 hb_9 ?_
        refine a_iconst C eX10_bears_51 (1 : Int32) c_iconst_1 ?_
        refine a_iadd C eX10_bears_52 ?_
        refine a_iastL C eX10_bears_53 sh_79 hb_9 h (fun σ_10 h => ?_)
        refine a_aload_n C eX10_bears_54 rfl ?_
        refine a_iload_n C eX10_bears_55 rfl ?_
        refine a_aload_n C eX10_bears_56 rfl ?_
        refine a_getR C eX10_bears_57 fX10_53 sh_64 rfl ?_
        refine a_iload_n C eX10_bears_60 rfl ?_
        obtain ⟨hb_11, h⟩ := gd h
        refine a_iald C eX10_bears_61 sh_78 hb_11 ?_
        obtain ⟨σ_12, hq, h⟩ := b1_e h
        refine a_cVv2 C eX10_bears_62 wX10_246 ⟨Nat.le_of_ble_eq_true rfl, Nat.le_of_ble_eq_true rfl, rfl, rfl⟩ rfl sh_64 rfl (kX10_runShop hq) (Nat.le_of_ble_eq_true rfl) ?_
        refine a_goto C eX10_bears_65 ?_
        exact a_less (lle_same (lle_same (lle_same (lle_same lle_nil)))) (ih _ _ h)
theorem kX10_bears {p1 : Int32} {p2 : Int32} {σ : Sg} {rr : (Int32 × Sg)}  (h : XX10_bears p1 p2 σ = some rr) : Ci MX10_bears [.ref 64, .int p1, .int p2] (SHc ++ SHm) σ rr := by
  refine Ci.start rfl rfl (Nat.le_of_ble_eq_true rfl) ?_
  intro X ad C R
  replace C : Cx X cX10_bears 4 RX10 (some .int) { frames := 4, cells := 0, slots := 0, locals := 88 } := C
  replace R : Ri X cX10_bears (some .int) ad (SHc ++ SHm) rr := R
  show AW X 0 0 ad (SHc ++ SHm) σ 0 [some (.ref 64), some (.int p1), some (.int p2), none] []
  rw [XX10_bears] at h
  refine a_aload_n C eX10_bears_0 rfl ?_
  refine a_iconst C eX10_bears_1 (0 : Int32) c_iconst_0 ?_
  refine a_putIL C eX10_bears_2 fX10_95 ftyX10 rfl rfl sh_64 rfl h (fun σ_1 h => ?_)
  refine a_aload_n C eX10_bears_5 rfl ?_
  refine a_iload_n C eX10_bears_6 rfl ?_
  refine a_iload_n C eX10_bears_7 rfl ?_
  obtain ⟨r_2, hq, h⟩ := b1_e h
  refine a_cVi2 C eX10_bears_8 wX10_259 ⟨Nat.le_of_ble_eq_true rfl, Nat.le_of_ble_eq_true rfl, rfl, rfl⟩ rfl sh_64 rfl (kX10_isAt hq) (Nat.le_of_ble_eq_true rfl) ?_
  refine a_if_ne C eX10_bears_11 (fun hc => ?_) (fun hc => ?_)
  · replace h := ie hc h
    refine a_aload_n C eX10_bears_16 rfl ?_
    obtain ⟨σ_3, hq, h⟩ := b1_e h
    refine a_cVv0 C eX10_bears_17 wX10_262 ⟨Nat.le_of_ble_eq_true rfl, Nat.le_of_ble_eq_true rfl, rfl, rfl⟩ rfl sh_64 rfl (kX10_layRun hq) (Nat.le_of_ble_eq_true rfl) ?_
    refine a_iconst C eX10_bears_20 (-1 : Int32) c_iconst_m1 ?_
    refine a_ist_n C eX10_bears_21 (Nat.le_of_ble_eq_true rfl) [some (.ref 64), some (.int p1), some (.int p2), some (.int (-1 : Int32))] rfl ?_
    exact a_less (lle_same (lle_same (lle_same (lle_same lle_nil)))) (lX10_bears_22  C R  _ _ _ h)
  · replace h := it hc h
    refine a_iconst C eX10_bears_14 (-1 : Int32) c_iconst_m1 ?_
    exact rt_i R eX10_bears_15 h nb_int
/-! ShelfDrivesModel.waits(II)I -/
def XX10_waits (p1 : Int32) (p2 : Int32) (σ : Sg) : Option (Int32 × Sg) := lt (up σ 64 0 (0 : Int32)) (fun (σ_1 : Sg) => b1 (XX10_isAt p1 p2 σ_1) (fun (r_2 : Int32) => if r_2 = 0 then (some ((-1 : Int32), σ_1)) else (b1 (XX10_layAsked (100 : Int32) σ_1) (fun (σ_3 : Sg) => if ib p1 6 then b1 (XX10_runShop p1 ((σ_3 78 p1.toNatClampNeg) &&& (((2 : Int32) <<< (p2 &&& 31)) - (1 : Int32))) σ_3) (fun (σ_5 : Sg) => b1 (XX10_firstLost p1 (p2 + (1 : Int32)) σ_5) (fun (r_6 : Int32) => some (r_6, σ_5))) else none))))
theorem kX10_waits {p1 : Int32} {p2 : Int32} {σ : Sg} {rr : (Int32 × Sg)}  (h : XX10_waits p1 p2 σ = some rr) : Ci MX10_waits [.ref 64, .int p1, .int p2] (SHc ++ SHm) σ rr := by
  refine Ci.start rfl rfl (Nat.le_of_ble_eq_true rfl) ?_
  intro X ad C R
  replace C : Cx X cX10_waits 3 RX10 (some .int) { frames := 3, cells := 0, slots := 0, locals := 68 } := C
  replace R : Ri X cX10_waits (some .int) ad (SHc ++ SHm) rr := R
  show AW X 0 0 ad (SHc ++ SHm) σ 0 [some (.ref 64), some (.int p1), some (.int p2)] []
  rw [XX10_waits] at h
  refine a_aload_n C eX10_waits_0 rfl ?_
  refine a_iconst C eX10_waits_1 (0 : Int32) c_iconst_0 ?_
  refine a_putIL C eX10_waits_2 fX10_95 ftyX10 rfl rfl sh_64 rfl h (fun σ_1 h => ?_)
  refine a_aload_n C eX10_waits_5 rfl ?_
  refine a_iload_n C eX10_waits_6 rfl ?_
  refine a_iload_n C eX10_waits_7 rfl ?_
  obtain ⟨r_2, hq, h⟩ := b1_e h
  refine a_cVi2 C eX10_waits_8 wX10_259 ⟨Nat.le_of_ble_eq_true rfl, Nat.le_of_ble_eq_true rfl, rfl, rfl⟩ rfl sh_64 rfl (kX10_isAt hq) (Nat.le_of_ble_eq_true rfl) ?_
  refine a_if_ne C eX10_waits_11 (fun hc => ?_) (fun hc => ?_)
  · replace h := ie hc h
    refine a_aload_n C eX10_waits_16 rfl ?_
    refine a_bipush C eX10_waits_17 (100 : Int32) c_bipush_100 ?_
    obtain ⟨σ_3, hq, h⟩ := b1_e h
    refine a_cVv1 C eX10_waits_19 wX10_250 ⟨Nat.le_of_ble_eq_true rfl, Nat.le_of_ble_eq_true rfl, rfl, rfl⟩ rfl sh_64 rfl (kX10_layAsked hq) (Nat.le_of_ble_eq_true rfl) ?_
    refine a_aload_n C eX10_waits_22 rfl ?_
    refine a_iload_n C eX10_waits_23 rfl ?_
    refine a_aload_n C eX10_waits_24 rfl ?_
    refine a_getR C eX10_waits_25 fX10_53 sh_64 rfl ?_
    refine a_iload_n C eX10_waits_28 rfl ?_
    obtain ⟨hb_4, h⟩ := gd h
    refine a_iald C eX10_waits_29 sh_78 hb_4 ?_
    refine a_iconst C eX10_waits_30 (2 : Int32) c_iconst_2 ?_
    refine a_iload_n C eX10_waits_31 rfl ?_
    refine a_ishl C eX10_waits_32 ?_
    refine a_iconst C eX10_waits_33 (1 : Int32) c_iconst_1 ?_
    refine a_isub C eX10_waits_34 ?_
    refine a_iand C eX10_waits_35 ?_
    obtain ⟨σ_5, hq, h⟩ := b1_e h
    refine a_cVv2 C eX10_waits_36 wX10_246 ⟨Nat.le_of_ble_eq_true rfl, Nat.le_of_ble_eq_true rfl, rfl, rfl⟩ rfl sh_64 rfl (kX10_runShop hq) (Nat.le_of_ble_eq_true rfl) ?_
    refine a_aload_n C eX10_waits_39 rfl ?_
    refine a_iload_n C eX10_waits_40 rfl ?_
    refine a_iload_n C eX10_waits_41 rfl ?_
    refine a_iconst C eX10_waits_42 (1 : Int32) c_iconst_1 ?_
    refine a_iadd C eX10_waits_43 ?_
    obtain ⟨r_6, hq, h⟩ := b1_e h
    refine a_cVi2 C eX10_waits_44 wX10_265 ⟨Nat.le_of_ble_eq_true rfl, Nat.le_of_ble_eq_true rfl, rfl, rfl⟩ rfl sh_64 rfl (kX10_firstLost hq) (Nat.le_of_ble_eq_true rfl) ?_
    exact rt_i R eX10_waits_47 h nb_int
  · replace h := it hc h
    refine a_iconst C eX10_waits_14 (-1 : Int32) c_iconst_m1 ?_
    exact rt_i R eX10_waits_15 h nb_int
/-! ShelfDrivesModel.lostByDraws(II)I -/
def LX10_lostByDraws_26 (p2 : Int32) (x5_4 : Int32) (k103_9 : Int32 → Sg → Option (Int32 × Sg)) : Nat → Int32 → Int32 → Sg → Option (Int32 × Sg)
  | 0, _, _, _ => none
  | n + 1, x3_15, x6_16, σ_17 => b1 (XX10_days σ_17) (fun (r_18 : Int32) => if r_18 ≤ x6_16 then (k103_9 x3_15 σ_17) else (lt ((x3_15 * (1103515245 : Int32)) + (12345 : Int32)) (fun (x3_19 : Int32) => if ib (((14 : Int32) * x5_4) + x6_16) 84 then if ¬ (((2 : Int32) * p2) + (1 : Int32)) = 0 then lt (((σ_17 79 (((14 : Int32) * x5_4) + x6_16).toNatClampNeg) + ((ush x3_19 (16 : Int32)) - (ush x3_19 (16 : Int32)) / (((2 : Int32) * p2) + (1 : Int32)) * (((2 : Int32) * p2) + (1 : Int32)))) - p2) (fun (x7_22 : Int32) => lt (fun (s_23 : Int32) => lt (up σ_17 79 (((14 : Int32) * x5_4) + x6_16).toNatClampNeg s_23) (fun (σ_25 : Sg) => lt (x6_16 + (1 : Int32)) (fun (x6_26 : Int32) => LX10_lostByDraws_26 p2 x5_4 k103_9 n x3_19 x6_26 σ_25))) (fun (k96_24 : Int32 → Option (Int32 × Sg)) => if 0 ≤ x7_22 then (k96_24 x7_22) else (k96_24 (0 : Int32)))) else none else none)))
def LX10_lostByDraws_14 (p2 : Int32) : Nat → Int32 → Int32 → Int32 → Sg → Option (Int32 × Sg)
  | 0, _, _, _, _ => none
  | n + 1, x3_2, x4_3, x5_4, σ_5 => b1 (XX10_shops σ_5) (fun (r_6 : Int32) => if r_6 ≤ x5_4 then (some (x4_3, σ_5)) else (lt (fun (x3_7 : Int32) (σ_8 : Sg) => if ib x5_4 6 then b1 (XX10_runShop x5_4 (σ_8 78 x5_4.toNatClampNeg) σ_8) (fun (σ_11 : Sg) => b1 (XX10_lostBy x5_4 σ_11) (fun (r_12 : Int32) => lt (x4_3 + r_12) (fun (x4_13 : Int32) => lt (x5_4 + (1 : Int32)) (fun (x5_14 : Int32) => LX10_lostByDraws_14 p2 n x3_7 x4_13 x5_14 σ_11)))) else none) (fun (k103_9 : Int32 → Sg → Option (Int32 × Sg)) => LX10_lostByDraws_26 p2 x5_4 k103_9 FUEL x3_2 (0 : Int32) σ_5)))
def XX10_lostByDraws (p1 : Int32) (p2 : Int32) (σ : Sg) : Option (Int32 × Sg) := b1 (XX10_layAsked (100 : Int32) σ) (fun (σ_1 : Sg) => LX10_lostByDraws_14 p2 FUEL p1 (0 : Int32) (0 : Int32) σ_1)
theorem lX10_lostByDraws_26 {X : CT} {ad : Nat → Nat} {rr : (Int32 × Sg)} {p2 : Int32} {x4_3 : Int32} {x5_4 : Int32} {k103_9 : Int32 → Sg → Option (Int32 × Sg)}  (C : Cx X cX10_lostByDraws 8 RX10 (some .int) { frames := 3, cells := 0, slots := 0, locals := 68 }) (R : Ri X cX10_lostByDraws (some .int) ad (SHc ++ SHm) rr) (hk103_9 : ∀ (x3_7 : Int32) (σ_8 : Sg), k103_9 x3_7 σ_8 = some rr → AW X 0 0 ad (SHc ++ SHm) σ_8 103 [some (.ref 64), none, some (.int p2), some (.int x3_7), some (.int x4_3), some (.int x5_4), none, none] []) : ∀ (n : Nat) (x3_15 : Int32) (x6_16 : Int32) (σ_17 : Sg), LX10_lostByDraws_26 p2 x5_4 k103_9 n x3_15 x6_16 σ_17 = some rr → AW X 0 0 ad (SHc ++ SHm) σ_17 26 [some (.ref 64), none, some (.int p2), some (.int x3_15), some (.int x4_3), some (.int x5_4), some (.int x6_16), none] [] := by
  intro n
  induction n with
  | zero =>
    intro x3_15 x6_16 σ_17 h
    rw [LX10_lostByDraws_26] at h
    cases h
  | succ n ih =>
    intro x3_15 x6_16 σ_17 h
    rw [LX10_lostByDraws_26] at h
    refine a_iload C eX10_lostByDraws_26 rfl ?_
    refine a_aload_n C eX10_lostByDraws_28 rfl ?_
    obtain ⟨r_18, hq, h⟩ := b1_e h
    refine a_cVi0 C eX10_lostByDraws_29 wX10_106 ⟨Nat.le_of_ble_eq_true rfl, Nat.le_of_ble_eq_true rfl, rfl, rfl⟩ rfl sh_64 rfl (kX10_days hq) (Nat.le_of_ble_eq_true rfl) ?_
    refine a_icmp_ge C eX10_lostByDraws_32 (fun hc => ?_) (fun hc => ?_)
    · replace h := it hc h
      exact a_less (lle_same (lle_same (lle_same (lle_same (lle_same (lle_same (lle_drop (lle_same lle_nil)))))))) (hk103_9 _ _ h)
    · replace h := ie hc h
      refine a_iload_n C eX10_lostByDraws_35 rfl ?_
      refine a_ldcw C eX10_lostByDraws_36 (1103515245 : Int32) wkX10_274 ?_
      refine a_imul C eX10_lostByDraws_39 ?_
      refine a_sipush C eX10_lostByDraws_40 (12345 : Int32) c_sipush_12345 ?_
      refine a_iadd C eX10_lostByDraws_43 ?_
      refine a_lt h (fun x3_19 h => ?_)
      refine a_ist_n C eX10_lostByDraws_44 (Nat.le_of_ble_eq_true rfl) [some (.ref 64), none, some (.int p2), some (.int x3_19), some (.int x4_3), some (.int x5_4), some (.int x6_16), none] rfl ?_
      refine a_aload_n C eX10_lostByDraws_45 rfl ?_
      refine a_getR C eX10_lostByDraws_46 fX10_56 sh_64 rfl ?_
      refine a_bipush C eX10_lostByDraws_49 (14 : Int32) c_bipush_14 ?_
      refine a_iload C eX10_lostByDraws_51 rfl ?_
      refine a_imul C eX10_lostByDraws_53 ?_
      refine a_iload C eX10_lostByDraws_54 rfl ?_
      refine a_iadd C eX10_lostByDraws_56 ?_
      obtain ⟨hb_20, h⟩ := gd h
      refine a_iald C eX10_lostByDraws_57 sh_79 hb_20 ?_
      refine a_iload_n C eX10_lostByDraws_58 rfl ?_
      refine a_bipush C eX10_lostByDraws_59 (16 : Int32) c_bipush_16 ?_
      refine a_iushr C eX10_lostByDraws_61 ?_
      refine a_iconst C eX10_lostByDraws_62 (2 : Int32) c_iconst_2 ?_
      refine a_iload_n C eX10_lostByDraws_63 rfl ?_
      refine a_imul C eX10_lostByDraws_64 ?_
      refine a_iconst C eX10_lostByDraws_65 (1 : Int32) c_iconst_1 ?_
      refine a_iadd C eX10_lostByDraws_66 ?_
      obtain ⟨hz_21, h⟩ := gd h
      refine a_irem C eX10_lostByDraws_67 hz_21 ?_
      refine a_iadd C eX10_lostByDraws_68 ?_
      refine a_iload_n C eX10_lostByDraws_69 rfl ?_
      refine a_isub C eX10_lostByDraws_70 ?_
      refine a_lt h (fun x7_22 h => ?_)
      refine a_ist C eX10_lostByDraws_71 (Nat.le_of_ble_eq_true rfl) [some (.ref 64), none, some (.int p2), some (.int x3_19), some (.int x4_3), some (.int x5_4), some (.int x6_16), some (.int x7_22)] rfl ?_
      refine a_aload_n C eX10_lostByDraws_73 rfl ?_
      refine a_getR C eX10_lostByDraws_74 fX10_56 sh_64 rfl ?_
      refine a_bipush C eX10_lostByDraws_77 (14 : Int32) c_bipush_14 ?_
      refine a_iload C eX10_lostByDraws_79 rfl ?_
      refine a_imul C eX10_lostByDraws_81 ?_
      refine a_iload C eX10_lostByDraws_82 rfl ?_
      refine a_iadd C eX10_lostByDraws_84 ?_
      refine a_iload C eX10_lostByDraws_85 rfl ?_
      refine jn (fun (kk : Int32 → Option (Int32 × Sg)) => ∀ (s_23 : Int32), kk s_23 = some rr → AW X 0 0 ad (SHc ++ SHm) σ_17 96 [some (.ref 64), none, some (.int p2), some (.int x3_19), some (.int x4_3), some (.int x5_4), some (.int x6_16), none] [.int s_23, .int (((14 : Int32) * x5_4) + x6_16), .ref 79]) h ?_ (fun k96_24 hk96_24 h => ?_)
      · intro s_23 h
        refine a_iastL C eX10_lostByDraws_96 sh_79 hb_20 h (fun σ_25 h => ?_)
        refine a_inc C eX10_lostByDraws_97 rfl c_iconst_1 h (fun z => [some (.ref 64), none, some (.int p2), some (.int x3_19), some (.int x4_3), some (.int x5_4), some (.int z), none]) (fun _ => rfl) (fun x6_26 h => ?_)
        refine a_goto C eX10_lostByDraws_100 ?_
        exact a_less (lle_same (lle_same (lle_same (lle_same (lle_same (lle_same (lle_same (lle_same lle_nil)))))))) (ih _ _ _ h)
      refine a_if_ge C eX10_lostByDraws_87 (fun hc => ?_) (fun hc => ?_)
      · replace h := it hc h
        refine a_iload C eX10_lostByDraws_94 rfl ?_
        exact a_less (lle_same (lle_same (lle_same (lle_same (lle_same (lle_same (lle_same (lle_drop lle_nil)))))))) (hk96_24 _ h)
      · replace h := ie hc h
        refine a_iconst C eX10_lostByDraws_90 (0 : Int32) c_iconst_0 ?_
        refine a_goto C eX10_lostByDraws_91 ?_
        exact a_less (lle_same (lle_same (lle_same (lle_same (lle_same (lle_same (lle_same (lle_drop lle_nil)))))))) (hk96_24 _ h)
theorem lX10_lostByDraws_14 {X : CT} {ad : Nat → Nat} {rr : (Int32 × Sg)} {p2 : Int32}  (C : Cx X cX10_lostByDraws 8 RX10 (some .int) { frames := 3, cells := 0, slots := 0, locals := 68 }) (R : Ri X cX10_lostByDraws (some .int) ad (SHc ++ SHm) rr)  : ∀ (n : Nat) (x3_2 : Int32) (x4_3 : Int32) (x5_4 : Int32) (σ_5 : Sg), LX10_lostByDraws_14 p2 n x3_2 x4_3 x5_4 σ_5 = some rr → AW X 0 0 ad (SHc ++ SHm) σ_5 14 [some (.ref 64), none, some (.int p2), some (.int x3_2), some (.int x4_3), some (.int x5_4), none, none] [] := by
  intro n
  induction n with
  | zero =>
    intro x3_2 x4_3 x5_4 σ_5 h
    rw [LX10_lostByDraws_14] at h
    cases h
  | succ n ih =>
    intro x3_2 x4_3 x5_4 σ_5 h
    rw [LX10_lostByDraws_14] at h
    refine a_iload C eX10_lostByDraws_14 rfl ?_
    refine a_aload_n C eX10_lostByDraws_16 rfl ?_
    obtain ⟨r_6, hq, h⟩ := b1_e h
    refine a_cVi0 C eX10_lostByDraws_17 wX10_98 ⟨Nat.le_of_ble_eq_true rfl, Nat.le_of_ble_eq_true rfl, rfl, rfl⟩ rfl sh_64 rfl (kX10_shops hq) (Nat.le_of_ble_eq_true rfl) ?_
    refine a_icmp_ge C eX10_lostByDraws_20 (fun hc => ?_) (fun hc => ?_)
    · replace h := it hc h
      refine a_iload C eX10_lostByDraws_133 rfl ?_
      exact rt_i R eX10_lostByDraws_135 h nb_int
    · replace h := ie hc h
      refine a_iconst C eX10_lostByDraws_23 (0 : Int32) c_iconst_0 ?_
      refine a_ist C eX10_lostByDraws_24 (Nat.le_of_ble_eq_true rfl) [some (.ref 64), none, some (.int p2), some (.int x3_2), some (.int x4_3), some (.int x5_4), some (.int (0 : Int32)), none] rfl ?_
      refine jn (fun (kk : Int32 → Sg → Option (Int32 × Sg)) => ∀ (x3_7 : Int32) (σ_8 : Sg), kk x3_7 σ_8 = some rr → AW X 0 0 ad (SHc ++ SHm) σ_8 103 [some (.ref 64), none, some (.int p2), some (.int x3_7), some (.int x4_3), some (.int x5_4), none, none] []) h ?_ (fun k103_9 hk103_9 h => ?_)
      · intro x3_7 σ_8 h
        refine a_aload_n C eX10_lostByDraws_103 rfl ?_
        refine a_iload C eX10_lostByDraws_104 rfl ?_
        refine a_aload_n C eX10_lostByDraws_106 rfl ?_
        refine a_getR C eX10_lostByDraws_107 fX10_53 sh_64 rfl ?_
        refine a_iload C eX10_lostByDraws_110 rfl ?_
        obtain ⟨hb_10, h⟩ := gd h
        refine a_iald C eX10_lostByDraws_112 sh_78 hb_10 ?_
        obtain ⟨σ_11, hq, h⟩ := b1_e h
        refine a_cVv2 C eX10_lostByDraws_113 wX10_246 ⟨Nat.le_of_ble_eq_true rfl, Nat.le_of_ble_eq_true rfl, rfl, rfl⟩ rfl sh_64 rfl (kX10_runShop hq) (Nat.le_of_ble_eq_true rfl) ?_
        refine a_iload C eX10_lostByDraws_116 rfl ?_
        refine a_aload_n C eX10_lostByDraws_118 rfl ?_
        refine a_iload C eX10_lostByDraws_119 rfl ?_
        obtain ⟨r_12, hq, h⟩ := b1_e h
        refine a_cVi1 C eX10_lostByDraws_121 wX10_268 ⟨Nat.le_of_ble_eq_true rfl, Nat.le_of_ble_eq_true rfl, rfl, rfl⟩ rfl sh_64 rfl (kX10_lostBy hq) (Nat.le_of_ble_eq_true rfl) ?_
        refine a_iadd C eX10_lostByDraws_124 ?_
        refine a_lt h (fun x4_13 h => ?_)
        refine a_ist C eX10_lostByDraws_125 (Nat.le_of_ble_eq_true rfl) [some (.ref 64), none, some (.int p2), some (.int x3_7), some (.int x4_13), some (.int x5_4), none, none] rfl ?_
        refine a_inc C eX10_lostByDraws_127 rfl c_iconst_1 h (fun z => [some (.ref 64), none, some (.int p2), some (.int x3_7), some (.int x4_13), some (.int z), none, none]) (fun _ => rfl) (fun x5_14 h => ?_)
        refine a_goto C eX10_lostByDraws_130 ?_
        exact a_less (lle_same (lle_same (lle_same (lle_same (lle_same (lle_same (lle_same (lle_same lle_nil)))))))) (ih _ _ _ _ h)
      exact a_less (lle_same (lle_same (lle_same (lle_same (lle_same (lle_same (lle_same (lle_same lle_nil)))))))) (lX10_lostByDraws_26  C R hk103_9 _ _ _ _ h)
theorem kX10_lostByDraws {p1 : Int32} {p2 : Int32} {σ : Sg} {rr : (Int32 × Sg)}  (h : XX10_lostByDraws p1 p2 σ = some rr) : Ci MX10_lostByDraws [.ref 64, .int p1, .int p2] (SHc ++ SHm) σ rr := by
  refine Ci.start rfl rfl (Nat.le_of_ble_eq_true rfl) ?_
  intro X ad C R
  replace C : Cx X cX10_lostByDraws 8 RX10 (some .int) { frames := 3, cells := 0, slots := 0, locals := 68 } := C
  replace R : Ri X cX10_lostByDraws (some .int) ad (SHc ++ SHm) rr := R
  show AW X 0 0 ad (SHc ++ SHm) σ 0 [some (.ref 64), some (.int p1), some (.int p2), none, none, none, none, none] []
  rw [XX10_lostByDraws] at h
  refine a_aload_n C eX10_lostByDraws_0 rfl ?_
  refine a_bipush C eX10_lostByDraws_1 (100 : Int32) c_bipush_100 ?_
  obtain ⟨σ_1, hq, h⟩ := b1_e h
  refine a_cVv1 C eX10_lostByDraws_3 wX10_250 ⟨Nat.le_of_ble_eq_true rfl, Nat.le_of_ble_eq_true rfl, rfl, rfl⟩ rfl sh_64 rfl (kX10_layAsked hq) (Nat.le_of_ble_eq_true rfl) ?_
  refine a_iload_n C eX10_lostByDraws_6 rfl ?_
  refine a_ist_n C eX10_lostByDraws_7 (Nat.le_of_ble_eq_true rfl) [some (.ref 64), some (.int p1), some (.int p2), some (.int p1), none, none, none, none] rfl ?_
  refine a_iconst C eX10_lostByDraws_8 (0 : Int32) c_iconst_0 ?_
  refine a_ist C eX10_lostByDraws_9 (Nat.le_of_ble_eq_true rfl) [some (.ref 64), some (.int p1), some (.int p2), some (.int p1), some (.int (0 : Int32)), none, none, none] rfl ?_
  refine a_iconst C eX10_lostByDraws_11 (0 : Int32) c_iconst_0 ?_
  refine a_ist C eX10_lostByDraws_12 (Nat.le_of_ble_eq_true rfl) [some (.ref 64), some (.int p1), some (.int p2), some (.int p1), some (.int (0 : Int32)), some (.int (0 : Int32)), none, none] rfl ?_
  exact a_less (lle_same (lle_drop (lle_same (lle_same (lle_same (lle_same (lle_same (lle_same lle_nil)))))))) (lX10_lostByDraws_14  C R  _ _ _ _ _ h)
/-! ShelfDrivesModel.chance(IIII)I -/
def LX10_chance_46 (p1 : Int32) (p2 : Int32) (p3 : Int32) (k91_8 : Int32 → Int32 → Sg → Option (Int32 × Sg)) : Nat → Int32 → Int32 → Int32 → Sg → Option (Int32 × Sg)
  | 0, _, _, _, _ => none
  | n + 1, x5_9, x6_10, x7_11, σ_12 => if p2 ≤ x7_11 then (k91_8 x5_9 x6_10 σ_12) else (b2 (XX10_lostByDraws (p1 + x7_11) p3 σ_12) (fun (r_13 : Int32) (σ_14 : Sg) => lt (fun (s_15 : Int32) => lt (x5_9 + s_15) (fun (x5_17 : Int32) => lt (x6_10 + r_13) (fun (x6_18 : Int32) => lt (x7_11 + (1 : Int32)) (fun (x7_19 : Int32) => LX10_chance_46 p1 p2 p3 k91_8 n x5_17 x6_18 x7_19 σ_14)))) (fun (k75_16 : Int32 → Option (Int32 × Sg)) => if r_13 ≤ 0 then (k75_16 (0 : Int32)) else (k75_16 (1 : Int32)))))
def XX10_chance (p1 : Int32) (p2 : Int32) (p3 : Int32) (p4 : Int32) (σ : Sg) : Option (Int32 × Sg) := lt (up σ 64 0 (0 : Int32)) (fun (σ_1 : Sg) => b1 (XX10_in p2 (1 : Int32) (20 : Int32)) (fun (r_2 : Int32) => if r_2 = 0 then (some ((-1 : Int32), σ_1)) else (b1 (XX10_in p3 (0 : Int32) (20 : Int32)) (fun (r_3 : Int32) => if r_3 = 0 then (some ((-1 : Int32), σ_1)) else (b1 (XX10_in p4 (0 : Int32) (1 : Int32)) (fun (r_4 : Int32) => if r_4 = 0 then (some ((-1 : Int32), σ_1)) else (lt (fun (x5_5 : Int32) (x6_6 : Int32) (σ_7 : Sg) => if p4 = 0 then (some (x5_5, σ_7)) else (some (x6_6, σ_7))) (fun (k91_8 : Int32 → Int32 → Sg → Option (Int32 × Sg)) => LX10_chance_46 p1 p2 p3 k91_8 FUEL (0 : Int32) (0 : Int32) (0 : Int32) σ_1))))))))
theorem lX10_chance_46 {X : CT} {ad : Nat → Nat} {rr : (Int32 × Sg)} {p1 : Int32} {p2 : Int32} {p3 : Int32} {p4 : Int32} {k91_8 : Int32 → Int32 → Sg → Option (Int32 × Sg)}  (C : Cx X cX10_chance 9 RX10 (some .int) { frames := 4, cells := 0, slots := 0, locals := 95 }) (R : Ri X cX10_chance (some .int) ad (SHc ++ SHm) rr) (hk91_8 : ∀ (x5_5 : Int32) (x6_6 : Int32) (σ_7 : Sg), k91_8 x5_5 x6_6 σ_7 = some rr → AW X 0 0 ad (SHc ++ SHm) σ_7 91 [none, none, none, none, some (.int p4), some (.int x5_5), some (.int x6_6), none, none] []) : ∀ (n : Nat) (x5_9 : Int32) (x6_10 : Int32) (x7_11 : Int32) (σ_12 : Sg), LX10_chance_46 p1 p2 p3 k91_8 n x5_9 x6_10 x7_11 σ_12 = some rr → AW X 0 0 ad (SHc ++ SHm) σ_12 46 [some (.ref 64), some (.int p1), some (.int p2), some (.int p3), some (.int p4), some (.int x5_9), some (.int x6_10), some (.int x7_11), none] [] := by
  intro n
  induction n with
  | zero =>
    intro x5_9 x6_10 x7_11 σ_12 h
    rw [LX10_chance_46] at h
    cases h
  | succ n ih =>
    intro x5_9 x6_10 x7_11 σ_12 h
    rw [LX10_chance_46] at h
    refine a_iload C eX10_chance_46 rfl ?_
    refine a_iload_n C eX10_chance_48 rfl ?_
    refine a_icmp_ge C eX10_chance_49 (fun hc => ?_) (fun hc => ?_)
    · replace h := it hc h
      exact a_less (lle_drop (lle_drop (lle_drop (lle_drop (lle_same (lle_same (lle_same (lle_drop (lle_same lle_nil))))))))) (hk91_8 _ _ _ h)
    · replace h := ie hc h
      refine a_aload_n C eX10_chance_52 rfl ?_
      refine a_iload_n C eX10_chance_53 rfl ?_
      refine a_iload C eX10_chance_54 rfl ?_
      refine a_iadd C eX10_chance_56 ?_
      refine a_iload_n C eX10_chance_57 rfl ?_
      obtain ⟨r_13, σ_14, hq, h⟩ := b2_e h
      refine a_cVi2 C eX10_chance_58 wX10_271 ⟨Nat.le_of_ble_eq_true rfl, Nat.le_of_ble_eq_true rfl, rfl, rfl⟩ rfl sh_64 rfl (kX10_lostByDraws hq) (Nat.le_of_ble_eq_true rfl) ?_
      refine a_ist C eX10_chance_61 (Nat.le_of_ble_eq_true rfl) [some (.ref 64), some (.int p1), some (.int p2), some (.int p3), some (.int p4), some (.int x5_9), some (.int x6_10), some (.int x7_11), some (.int r_13)] rfl ?_
      refine a_iload C eX10_chance_63 rfl ?_
      refine a_iload C eX10_chance_65 rfl ?_
      refine jn (fun (kk : Int32 → Option (Int32 × Sg)) => ∀ (s_15 : Int32), kk s_15 = some rr → AW X 0 0 ad (SHc ++ SHm) σ_14 75 [some (.ref 64), some (.int p1), some (.int p2), some (.int p3), some (.int p4), none, some (.int x6_10), some (.int x7_11), some (.int r_13)] [.int s_15, .int x5_9]) h ?_ (fun k75_16 hk75_16 h => ?_)
      · intro s_15 h
        refine a_iadd C eX10_chance_75 ?_
        refine a_lt h (fun x5_17 h => ?_)
        refine a_ist C eX10_chance_76 (Nat.le_of_ble_eq_true rfl) [some (.ref 64), some (.int p1), some (.int p2), some (.int p3), some (.int p4), some (.int x5_17), some (.int x6_10), some (.int x7_11), some (.int r_13)] rfl ?_
        refine a_iload C eX10_chance_78 rfl ?_
        refine a_iload C eX10_chance_80 rfl ?_
        refine a_iadd C eX10_chance_82 ?_
        refine a_lt h (fun x6_18 h => ?_)
        refine a_ist C eX10_chance_83 (Nat.le_of_ble_eq_true rfl) [some (.ref 64), some (.int p1), some (.int p2), some (.int p3), some (.int p4), some (.int x5_17), some (.int x6_18), some (.int x7_11), some (.int r_13)] rfl ?_
        refine a_inc C eX10_chance_85 rfl c_iconst_1 h (fun z => [some (.ref 64), some (.int p1), some (.int p2), some (.int p3), some (.int p4), some (.int x5_17), some (.int x6_18), some (.int z), some (.int r_13)]) (fun _ => rfl) (fun x7_19 h => ?_)
        refine a_goto C eX10_chance_88 ?_
        exact a_less (lle_same (lle_same (lle_same (lle_same (lle_same (lle_same (lle_same (lle_same (lle_drop lle_nil))))))))) (ih _ _ _ _ h)
      refine a_if_le C eX10_chance_67 (fun hc => ?_) (fun hc => ?_)
      · replace h := it hc h
        refine a_iconst C eX10_chance_74 (0 : Int32) c_iconst_0 ?_
        exact a_less (lle_same (lle_same (lle_same (lle_same (lle_same (lle_drop (lle_same (lle_same (lle_same lle_nil))))))))) (hk75_16 _ h)
      · replace h := ie hc h
        refine a_iconst C eX10_chance_70 (1 : Int32) c_iconst_1 ?_
        refine a_goto C eX10_chance_71 ?_
        exact a_less (lle_same (lle_same (lle_same (lle_same (lle_same (lle_drop (lle_same (lle_same (lle_same lle_nil))))))))) (hk75_16 _ h)
theorem kX10_chance {p1 : Int32} {p2 : Int32} {p3 : Int32} {p4 : Int32} {σ : Sg} {rr : (Int32 × Sg)}  (h : XX10_chance p1 p2 p3 p4 σ = some rr) : Ci MX10_chance [.ref 64, .int p1, .int p2, .int p3, .int p4] (SHc ++ SHm) σ rr := by
  refine Ci.start rfl rfl (Nat.le_of_ble_eq_true rfl) ?_
  intro X ad C R
  replace C : Cx X cX10_chance 9 RX10 (some .int) { frames := 4, cells := 0, slots := 0, locals := 95 } := C
  replace R : Ri X cX10_chance (some .int) ad (SHc ++ SHm) rr := R
  show AW X 0 0 ad (SHc ++ SHm) σ 0 [some (.ref 64), some (.int p1), some (.int p2), some (.int p3), some (.int p4), none, none, none, none] []
  rw [XX10_chance] at h
  refine a_aload_n C eX10_chance_0 rfl ?_
  refine a_iconst C eX10_chance_1 (0 : Int32) c_iconst_0 ?_
  refine a_putIL C eX10_chance_2 fX10_95 ftyX10 rfl rfl sh_64 rfl h (fun σ_1 h => ?_)
  refine a_iload_n C eX10_chance_5 rfl ?_
  refine a_iconst C eX10_chance_6 (1 : Int32) c_iconst_1 ?_
  refine a_bipush C eX10_chance_7 (20 : Int32) c_bipush_20 ?_
  obtain ⟨r_2, hq, h⟩ := b1_e h
  refine a_cSi3 C eX10_chance_9 wX10_102 ⟨Nat.le_of_ble_eq_true rfl, Nat.le_of_ble_eq_true rfl, rfl, rfl⟩ rfl (kX10_in hq) (Nat.le_of_ble_eq_true rfl) ?_
  refine a_if_eq C eX10_chance_12 (fun hc => ?_) (fun hc => ?_)
  · replace h := it hc h
    refine a_iconst C eX10_chance_35 (-1 : Int32) c_iconst_m1 ?_
    exact rt_i R eX10_chance_36 h nb_int
  · replace h := ie hc h
    refine a_iload_n C eX10_chance_15 rfl ?_
    refine a_iconst C eX10_chance_16 (0 : Int32) c_iconst_0 ?_
    refine a_bipush C eX10_chance_17 (20 : Int32) c_bipush_20 ?_
    obtain ⟨r_3, hq, h⟩ := b1_e h
    refine a_cSi3 C eX10_chance_19 wX10_102 ⟨Nat.le_of_ble_eq_true rfl, Nat.le_of_ble_eq_true rfl, rfl, rfl⟩ rfl (kX10_in hq) (Nat.le_of_ble_eq_true rfl) ?_
    refine a_if_eq C eX10_chance_22 (fun hc => ?_) (fun hc => ?_)
    · replace h := it hc h
      refine a_iconst C eX10_chance_35 (-1 : Int32) c_iconst_m1 ?_
      exact rt_i R eX10_chance_36 h nb_int
    · replace h := ie hc h
      refine a_iload C eX10_chance_25 rfl ?_
      refine a_iconst C eX10_chance_27 (0 : Int32) c_iconst_0 ?_
      refine a_iconst C eX10_chance_28 (1 : Int32) c_iconst_1 ?_
      obtain ⟨r_4, hq, h⟩ := b1_e h
      refine a_cSi3 C eX10_chance_29 wX10_102 ⟨Nat.le_of_ble_eq_true rfl, Nat.le_of_ble_eq_true rfl, rfl, rfl⟩ rfl (kX10_in hq) (Nat.le_of_ble_eq_true rfl) ?_
      refine a_if_ne C eX10_chance_32 (fun hc => ?_) (fun hc => ?_)
      · replace h := ie hc h
        refine a_iconst C eX10_chance_37 (0 : Int32) c_iconst_0 ?_
        refine a_ist C eX10_chance_38 (Nat.le_of_ble_eq_true rfl) [some (.ref 64), some (.int p1), some (.int p2), some (.int p3), some (.int p4), some (.int (0 : Int32)), none, none, none] rfl ?_
        refine a_iconst C eX10_chance_40 (0 : Int32) c_iconst_0 ?_
        refine a_ist C eX10_chance_41 (Nat.le_of_ble_eq_true rfl) [some (.ref 64), some (.int p1), some (.int p2), some (.int p3), some (.int p4), some (.int (0 : Int32)), some (.int (0 : Int32)), none, none] rfl ?_
        refine a_iconst C eX10_chance_43 (0 : Int32) c_iconst_0 ?_
        refine a_ist C eX10_chance_44 (Nat.le_of_ble_eq_true rfl) [some (.ref 64), some (.int p1), some (.int p2), some (.int p3), some (.int p4), some (.int (0 : Int32)), some (.int (0 : Int32)), some (.int (0 : Int32)), none] rfl ?_
        refine jn (fun (kk : Int32 → Int32 → Sg → Option (Int32 × Sg)) => ∀ (x5_5 : Int32) (x6_6 : Int32) (σ_7 : Sg), kk x5_5 x6_6 σ_7 = some rr → AW X 0 0 ad (SHc ++ SHm) σ_7 91 [none, none, none, none, some (.int p4), some (.int x5_5), some (.int x6_6), none, none] []) h ?_ (fun k91_8 hk91_8 h => ?_)
        · intro x5_5 x6_6 σ_7 h
          refine a_iload C eX10_chance_91 rfl ?_
          refine a_if_ne C eX10_chance_93 (fun hc => ?_) (fun hc => ?_)
          · replace h := ie hc h
            refine a_iload C eX10_chance_101 rfl ?_
            exact rt_i R eX10_chance_103 h nb_int
          · replace h := it hc h
            refine a_iload C eX10_chance_96 rfl ?_
            refine a_goto C eX10_chance_98 ?_
            exact rt_i R eX10_chance_103 h nb_int
        exact a_less (lle_same (lle_same (lle_same (lle_same (lle_same (lle_same (lle_same (lle_same (lle_same lle_nil))))))))) (lX10_chance_46  C R hk91_8 _ _ _ _ _ h)
      · replace h := it hc h
        refine a_iconst C eX10_chance_35 (-1 : Int32) c_iconst_m1 ?_
        exact rt_i R eX10_chance_36 h nb_int
/-! ShelfDrivesModel.loadsOf(I)I -/
def LX10_loadsOf_4 (p1 : Int32) (σ : Sg) : Nat → Int32 → Int32 → Option Int32
  | 0, _, _ => none
  | n + 1, x2_1, x3_2 => b1 (XX10_shops σ) (fun (r_3 : Int32) => if r_3 ≤ x3_2 then (some x2_1) else (b1 (XX10_isOf p1 x3_2) (fun (r_4 : Int32) => lt (fun (s_5 : Int32) => lt (x2_1 + s_5) (fun (x2_7 : Int32) => lt (x3_2 + (1 : Int32)) (fun (x3_8 : Int32) => LX10_loadsOf_4 p1 σ n x2_7 x3_8))) (fun (k31_6 : Int32 → Option Int32) => if r_4 = 0 then (k31_6 (0 : Int32)) else (if ib x3_2 6 then k31_6 (σ 86 x3_2.toNatClampNeg) else none)))))
def XX10_loadsOf (p1 : Int32) (σ : Sg) : Option Int32 := LX10_loadsOf_4 p1 σ FUEL (0 : Int32) (0 : Int32)
theorem lX10_loadsOf_4 {X : CT} {ad : Nat → Nat} {rr : Int32} {p1 : Int32} {σ : Sg}  (C : Cx X cX10_loadsOf 4 RX10 (some .int) { frames := 1, cells := 0, slots := 0, locals := 21 }) (R : Ri X cX10_loadsOf (some .int) ad (SHc ++ SHm) (rr, σ))  : ∀ (n : Nat) (x2_1 : Int32) (x3_2 : Int32), LX10_loadsOf_4 p1 σ n x2_1 x3_2 = some rr → AW X 0 0 ad (SHc ++ SHm) σ 4 [some (.ref 64), some (.int p1), some (.int x2_1), some (.int x3_2)] [] := by
  intro n
  induction n with
  | zero =>
    intro x2_1 x3_2 h
    rw [LX10_loadsOf_4] at h
    cases h
  | succ n ih =>
    intro x2_1 x3_2 h
    rw [LX10_loadsOf_4] at h
    refine a_iload_n C eX10_loadsOf_4 rfl ?_
    refine a_aload_n C eX10_loadsOf_5 rfl ?_
    obtain ⟨r_3, hq, h⟩ := b1_e h
    refine a_cVi0 C eX10_loadsOf_6 wX10_98 ⟨Nat.le_of_ble_eq_true rfl, Nat.le_of_ble_eq_true rfl, rfl, rfl⟩ rfl sh_64 rfl (kX10_shops hq) (Nat.le_of_ble_eq_true rfl) ?_
    refine a_icmp_ge C eX10_loadsOf_9 (fun hc => ?_) (fun hc => ?_)
    · replace h := it hc h
      refine a_iload_n C eX10_loadsOf_39 rfl ?_
      exact rt_p R eX10_loadsOf_40 h nb_int
    · replace h := ie hc h
      refine a_iload_n C eX10_loadsOf_12 rfl ?_
      refine a_iload_n C eX10_loadsOf_13 rfl ?_
      refine a_iload_n C eX10_loadsOf_14 rfl ?_
      obtain ⟨r_4, hq, h⟩ := b1_e h
      refine a_cSi2 C eX10_loadsOf_15 wX10_176 ⟨Nat.le_of_ble_eq_true rfl, Nat.le_of_ble_eq_true rfl, rfl, rfl⟩ rfl (kX10_isOf hq) (Nat.le_of_ble_eq_true rfl) ?_
      refine jn (fun (kk : Int32 → Option Int32) => ∀ (s_5 : Int32), kk s_5 = some rr → AW X 0 0 ad (SHc ++ SHm) σ 31 [some (.ref 64), some (.int p1), none, some (.int x3_2)] [.int s_5, .int x2_1]) h ?_ (fun k31_6 hk31_6 h => ?_)
      · intro s_5 h
        refine a_iadd C eX10_loadsOf_31 ?_
        refine a_lt h (fun x2_7 h => ?_)
        refine a_ist_n C eX10_loadsOf_32 (Nat.le_of_ble_eq_true rfl) [some (.ref 64), some (.int p1), some (.int x2_7), some (.int x3_2)] rfl ?_
        refine a_inc C eX10_loadsOf_33 rfl c_iconst_1 h (fun z => [some (.ref 64), some (.int p1), some (.int x2_7), some (.int z)]) (fun _ => rfl) (fun x3_8 h => ?_)
        refine a_goto C eX10_loadsOf_36 ?_
        exact a_less (lle_same (lle_same (lle_same (lle_same lle_nil)))) (ih _ _ h)
      refine a_if_eq C eX10_loadsOf_18 (fun hc => ?_) (fun hc => ?_)
      · replace h := it hc h
        refine a_iconst C eX10_loadsOf_30 (0 : Int32) c_iconst_0 ?_
        exact a_less (lle_same (lle_same (lle_drop (lle_same lle_nil)))) (hk31_6 _ h)
      · replace h := ie hc h
        refine a_aload_n C eX10_loadsOf_21 rfl ?_
        refine a_getR C eX10_loadsOf_22 fX10_77 sh_64 rfl ?_
        refine a_iload_n C eX10_loadsOf_25 rfl ?_
        obtain ⟨hb_9, h⟩ := gd h
        refine a_iald C eX10_loadsOf_26 sh_86 hb_9 ?_
        refine a_goto C eX10_loadsOf_27 ?_
        exact a_less (lle_same (lle_same (lle_drop (lle_same lle_nil)))) (hk31_6 _ h)
theorem kX10_loadsOf {p1 : Int32} {σ : Sg} {rr : Int32}  (h : XX10_loadsOf p1 σ = some rr) : Ci MX10_loadsOf [.ref 64, .int p1] (SHc ++ SHm) σ (rr, σ) := by
  refine Ci.start rfl rfl (Nat.le_of_ble_eq_true rfl) ?_
  intro X ad C R
  replace C : Cx X cX10_loadsOf 4 RX10 (some .int) { frames := 1, cells := 0, slots := 0, locals := 21 } := C
  replace R : Ri X cX10_loadsOf (some .int) ad (SHc ++ SHm) (rr, σ) := R
  show AW X 0 0 ad (SHc ++ SHm) σ 0 [some (.ref 64), some (.int p1), none, none] []
  rw [XX10_loadsOf] at h
  refine a_iconst C eX10_loadsOf_0 (0 : Int32) c_iconst_0 ?_
  refine a_ist_n C eX10_loadsOf_1 (Nat.le_of_ble_eq_true rfl) [some (.ref 64), some (.int p1), some (.int (0 : Int32)), none] rfl ?_
  refine a_iconst C eX10_loadsOf_2 (0 : Int32) c_iconst_0 ?_
  refine a_ist_n C eX10_loadsOf_3 (Nat.le_of_ble_eq_true rfl) [some (.ref 64), some (.int p1), some (.int (0 : Int32)), some (.int (0 : Int32))] rfl ?_
  exact a_less (lle_same (lle_same (lle_same (lle_same lle_nil)))) (lX10_loadsOf_4  C R  _ _ _ h)
/-! ShelfDrivesModel.layLoads(I)I -/
def LX10_layLoads_4 (p1 : Int32) : Nat → Int32 → Int32 → Sg → Option (Int32 × Sg)
  | 0, _, _, _ => none
  | n + 1, x2_1, x3_2, σ_3 => b1 (XX10_shops σ_3) (fun (r_4 : Int32) => if r_4 ≤ x3_2 then (some (x2_1, σ_3)) else (if ib (((14 : Int32) * x3_2) + p1) 84 then if ib x3_2 6 then lt (up σ_3 86 x3_2.toNatClampNeg (σ_3 80 (((14 : Int32) * x3_2) + p1).toNatClampNeg)) (fun (σ_6 : Sg) => lt (fun (s_8 : Int32) => lt (x2_1 ||| s_8) (fun (x2_10 : Int32) => lt (x3_2 + (1 : Int32)) (fun (x3_11 : Int32) => LX10_layLoads_4 p1 n x2_10 x3_11 σ_6))) (fun (k46_9 : Int32 → Option (Int32 × Sg)) => if (σ_6 86 x3_2.toNatClampNeg) ≤ 0 then (k46_9 (0 : Int32)) else (k46_9 ((1 : Int32) <<< (x3_2 &&& 31))))) else none else none))
def XX10_layLoads (p1 : Int32) (σ : Sg) : Option (Int32 × Sg) := LX10_layLoads_4 p1 FUEL (0 : Int32) (0 : Int32) σ
theorem lX10_layLoads_4 {X : CT} {ad : Nat → Nat} {rr : (Int32 × Sg)} {p1 : Int32}  (C : Cx X cX10_layLoads 4 RX10 (some .int) { frames := 1, cells := 0, slots := 0, locals := 20 }) (R : Ri X cX10_layLoads (some .int) ad (SHc ++ SHm) rr)  : ∀ (n : Nat) (x2_1 : Int32) (x3_2 : Int32) (σ_3 : Sg), LX10_layLoads_4 p1 n x2_1 x3_2 σ_3 = some rr → AW X 0 0 ad (SHc ++ SHm) σ_3 4 [some (.ref 64), some (.int p1), some (.int x2_1), some (.int x3_2)] [] := by
  intro n
  induction n with
  | zero =>
    intro x2_1 x3_2 σ_3 h
    rw [LX10_layLoads_4] at h
    cases h
  | succ n ih =>
    intro x2_1 x3_2 σ_3 h
    rw [LX10_layLoads_4] at h
    refine a_iload_n C eX10_layLoads_4 rfl ?_
    refine a_aload_n C eX10_layLoads_5 rfl ?_
    obtain ⟨r_4, hq, h⟩ := b1_e h
    refine a_cVi0 C eX10_layLoads_6 wX10_98 ⟨Nat.le_of_ble_eq_true rfl, Nat.le_of_ble_eq_true rfl, rfl, rfl⟩ rfl sh_64 rfl (kX10_shops hq) (Nat.le_of_ble_eq_true rfl) ?_
    refine a_icmp_ge C eX10_layLoads_9 (fun hc => ?_) (fun hc => ?_)
    · replace h := it hc h
      refine a_iload_n C eX10_layLoads_54 rfl ?_
      exact rt_i R eX10_layLoads_55 h nb_int
    · replace h := ie hc h
      refine a_aload_n C eX10_layLoads_12 rfl ?_
      refine a_getR C eX10_layLoads_13 fX10_77 sh_64 rfl ?_
      refine a_iload_n C eX10_layLoads_16 rfl ?_
      refine a_aload_n C eX10_layLoads_17 rfl ?_
      refine a_getR C eX10_layLoads_18 fX10_59 sh_64 rfl ?_
      refine a_bipush C eX10_layLoads_21 (14 : Int32) c_bipush_14 ?_
      refine a_iload_n C eX10_layLoads_23 rfl ?_
      refine a_imul C eX10_layLoads_24 ?_
      refine a_iload_n C eX10_layLoads_25 rfl ?_
      refine a_iadd C eX10_layLoads_26 ?_
      obtain ⟨hb_5, h⟩ := gd h
      refine a_iald C eX10_layLoads_27 sh_80 hb_5 ?_
      obtain ⟨hb_7, h⟩ := gd h
      refine a_iastL C eX10_layLoads_28 sh_86 hb_7 h (fun σ_6 h => ?_)
      refine a_iload_n C eX10_layLoads_29 rfl ?_
      refine a_aload_n C eX10_layLoads_30 rfl ?_
      refine a_getR C eX10_layLoads_31 fX10_77 sh_64 rfl ?_
      refine a_iload_n C eX10_layLoads_34 rfl ?_
      refine a_iald C eX10_layLoads_35 sh_86 hb_7 ?_
      refine jn (fun (kk : Int32 → Option (Int32 × Sg)) => ∀ (s_8 : Int32), kk s_8 = some rr → AW X 0 0 ad (SHc ++ SHm) σ_6 46 [some (.ref 64), some (.int p1), none, some (.int x3_2)] [.int s_8, .int x2_1]) h ?_ (fun k46_9 hk46_9 h => ?_)
      · intro s_8 h
        refine a_ior C eX10_layLoads_46 ?_
        refine a_lt h (fun x2_10 h => ?_)
        refine a_ist_n C eX10_layLoads_47 (Nat.le_of_ble_eq_true rfl) [some (.ref 64), some (.int p1), some (.int x2_10), some (.int x3_2)] rfl ?_
        refine a_inc C eX10_layLoads_48 rfl c_iconst_1 h (fun z => [some (.ref 64), some (.int p1), some (.int x2_10), some (.int z)]) (fun _ => rfl) (fun x3_11 h => ?_)
        refine a_goto C eX10_layLoads_51 ?_
        exact a_less (lle_same (lle_same (lle_same (lle_same lle_nil)))) (ih _ _ _ h)
      refine a_if_le C eX10_layLoads_36 (fun hc => ?_) (fun hc => ?_)
      · replace h := it hc h
        refine a_iconst C eX10_layLoads_45 (0 : Int32) c_iconst_0 ?_
        exact a_less (lle_same (lle_same (lle_drop (lle_same lle_nil)))) (hk46_9 _ h)
      · replace h := ie hc h
        refine a_iconst C eX10_layLoads_39 (1 : Int32) c_iconst_1 ?_
        refine a_iload_n C eX10_layLoads_40 rfl ?_
        refine a_ishl C eX10_layLoads_41 ?_
        refine a_goto C eX10_layLoads_42 ?_
        exact a_less (lle_same (lle_same (lle_drop (lle_same lle_nil)))) (hk46_9 _ h)
theorem kX10_layLoads {p1 : Int32} {σ : Sg} {rr : (Int32 × Sg)}  (h : XX10_layLoads p1 σ = some rr) : Ci MX10_layLoads [.ref 64, .int p1] (SHc ++ SHm) σ rr := by
  refine Ci.start rfl rfl (Nat.le_of_ble_eq_true rfl) ?_
  intro X ad C R
  replace C : Cx X cX10_layLoads 4 RX10 (some .int) { frames := 1, cells := 0, slots := 0, locals := 20 } := C
  replace R : Ri X cX10_layLoads (some .int) ad (SHc ++ SHm) rr := R
  show AW X 0 0 ad (SHc ++ SHm) σ 0 [some (.ref 64), some (.int p1), none, none] []
  rw [XX10_layLoads] at h
  refine a_iconst C eX10_layLoads_0 (0 : Int32) c_iconst_0 ?_
  refine a_ist_n C eX10_layLoads_1 (Nat.le_of_ble_eq_true rfl) [some (.ref 64), some (.int p1), some (.int (0 : Int32)), none] rfl ?_
  refine a_iconst C eX10_layLoads_2 (0 : Int32) c_iconst_0 ?_
  refine a_ist_n C eX10_layLoads_3 (Nat.le_of_ble_eq_true rfl) [some (.ref 64), some (.int p1), some (.int (0 : Int32)), some (.int (0 : Int32))] rfl ?_
  exact a_less (lle_same (lle_same (lle_same (lle_same lle_nil)))) (lX10_layLoads_4  C R  _ _ _ _ h)
