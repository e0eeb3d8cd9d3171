/-! ShelfDrivesModel.joint(I)I -/
def LX10_joint_37 (σ_4 : Sg) (k92_8 : Int32 → Int32 → Option (Int32 × Sg)) : Nat → Int32 → Int32 → Int32 → Option (Int32 × Sg)
  | 0, _, _, _ => none
  | n + 1, x2_9, x3_10, x4_11 => b1 (XX10_days σ_4) (fun (r_12 : Int32) => if ((1 : Int32) <<< (r_12 &&& 31)) ≤ x4_11 then (k92_8 x2_9 x3_10) else (b1 (XX10_costBy x4_11 σ_4) (fun (r_13 : Int32) => lt (fun (x2_14 : Int32) (x3_15 : Int32) => lt (x4_11 + (1 : Int32)) (fun (x4_17 : Int32) => LX10_joint_37 σ_4 k92_8 n x2_14 x3_15 x4_17)) (fun (k86_16 : Int32 → Int32 → Option (Int32 × Sg)) => lt (k86_16 x4_11 r_13) (fun (k80_18 : Option (Int32 × Sg)) => if r_13 < x3_10 then (k80_18) else (if r_13 = x3_10 then (b1 (XX10_bits x4_11) (fun (r_19 : Int32) => b1 (XX10_bits x2_9) (fun (r_20 : Int32) => if r_20 ≤ r_19 then (k86_16 x2_9 x3_10) else (k80_18)))) else (k86_16 x2_9 x3_10)))))))
def XX10_joint (p1 : Int32) (σ : Sg) : Option (Int32 × Sg) := lt (up σ 64 0 (0 : Int32)) (fun (σ_1 : Sg) => b1 (XX10_in p1 (0 : Int32) (1 : Int32)) (fun (r_2 : Int32) => if r_2 = 0 then (some ((-1 : Int32), σ_1)) else (b1 (XX10_layAsked (100 : Int32) σ_1) (fun (σ_3 : Sg) => b1 (XX10_layBetween σ_3) (fun (σ_4 : Sg) => b1 (XX10_costBy (0 : Int32) σ_4) (fun (r_5 : Int32) => lt (fun (x2_6 : Int32) (x3_7 : Int32) => if p1 = 0 then (some (x2_6, σ_4)) else (some (x3_7, σ_4))) (fun (k92_8 : Int32 → Int32 → Option (Int32 × Sg)) => LX10_joint_37 σ_4 k92_8 FUEL (0 : Int32) r_5 (1 : Int32))))))))
theorem lX10_joint_37 {X : CT} {ad : Nat → Nat} {rr : (Int32 × Sg)} {p1 : Int32} {σ_4 : Sg} {k92_8 : Int32 → Int32 → Option (Int32 × Sg)}  (C : Cx X cX10_joint 6 RX10 (some .int) { frames := 6, cells := 0, slots := 0, locals := 141 }) (R : Ri X cX10_joint (some .int) ad (SHc ++ SHm) rr) (hk92_8 : ∀ (x2_6 : Int32) (x3_7 : Int32), k92_8 x2_6 x3_7 = some rr → AW X 0 0 ad (SHc ++ SHm) σ_4 92 [none, some (.int p1), some (.int x2_6), some (.int x3_7), none, none] []) : ∀ (n : Nat) (x2_9 : Int32) (x3_10 : Int32) (x4_11 : Int32), LX10_joint_37 σ_4 k92_8 n x2_9 x3_10 x4_11 = some rr → AW X 0 0 ad (SHc ++ SHm) σ_4 37 [some (.ref 64), some (.int p1), some (.int x2_9), some (.int x3_10), some (.int x4_11), none] [] := by
  intro n
  induction n with
  | zero =>
    intro x2_9 x3_10 x4_11 h
    rw [LX10_joint_37] at h
    cases h
  | succ n ih =>
    intro x2_9 x3_10 x4_11 h
    rw [LX10_joint_37] at h
    refine a_iload C eX10_joint_37 rfl ?_
    refine a_iconst C eX10_joint_39 (1 : Int32) c_iconst_1 ?_
    refine a_aload_n C eX10_joint_40 rfl ?_
    obtain ⟨r_12, hq, h⟩ := b1_e h
    refine a_cVi0 C eX10_joint_41 wX10_106 ⟨Nat.le_of_ble_eq_true rfl, Nat.le_of_ble_eq_true rfl, rfl, rfl⟩ rfl sh_64 rfl (kX10_days hq) (Nat.le_of_ble_eq_true rfl) ?_
    refine a_ishl C eX10_joint_44 ?_
    refine a_icmp_ge C eX10_joint_45 (fun hc => ?_) (fun hc => ?_)
    · replace h := it hc h
      exact a_less (lle_drop (lle_same (lle_same (lle_same (lle_drop (lle_same lle_nil)))))) (hk92_8 _ _ h)
    · replace h := ie hc h
      refine a_aload_n C eX10_joint_48 rfl ?_
      refine a_iload C eX10_joint_49 rfl ?_
      obtain ⟨r_13, hq, h⟩ := b1_e h
      refine a_cVi1 C eX10_joint_51 wX10_332 ⟨Nat.le_of_ble_eq_true rfl, Nat.le_of_ble_eq_true rfl, rfl, rfl⟩ rfl sh_64 rfl (kX10_costBy hq) (Nat.le_of_ble_eq_true rfl) ?_
      refine a_ist C eX10_joint_54 (Nat.le_of_ble_eq_true rfl) [some (.ref 64), some (.int p1), some (.int x2_9), some (.int x3_10), some (.int x4_11), some (.int r_13)] rfl ?_
      refine a_iload C eX10_joint_56 rfl ?_
      refine a_iload_n C eX10_joint_58 rfl ?_
      refine jn (fun (kk : Int32 → Int32 → Option (Int32 × Sg)) => ∀ (x2_14 : Int32) (x3_15 : Int32), kk x2_14 x3_15 = some rr → AW X 0 0 ad (SHc ++ SHm) σ_4 86 [some (.ref 64), some (.int p1), some (.int x2_14), some (.int x3_15), some (.int x4_11), none] []) h ?_ (fun k86_16 hk86_16 h => ?_)
      · intro x2_14 x3_15 h
        refine a_inc C eX10_joint_86 rfl c_iconst_1 h (fun z => [some (.ref 64), some (.int p1), some (.int x2_14), some (.int x3_15), some (.int z), none]) (fun _ => rfl) (fun x4_17 h => ?_)
        refine a_goto C eX10_joint_89 ?_
        exact a_less (lle_same (lle_same (lle_same (lle_same (lle_same (lle_same lle_nil)))))) (ih _ _ _ h)
      refine jn (fun (kk : Option (Int32 × Sg)) => kk = some rr → AW X 0 0 ad (SHc ++ SHm) σ_4 80 [some (.ref 64), some (.int p1), none, none, some (.int x4_11), some (.int r_13)] []) h ?_ (fun k80_18 hk80_18 h => ?_)
      · intro h
        refine a_iload C eX10_joint_80 rfl ?_
        refine a_ist_n C eX10_joint_82 (Nat.le_of_ble_eq_true rfl) [some (.ref 64), some (.int p1), some (.int x4_11), none, some (.int x4_11), some (.int r_13)] rfl ?_
        refine a_iload C eX10_joint_83 rfl ?_
        refine a_ist_n C eX10_joint_85 (Nat.le_of_ble_eq_true rfl) [some (.ref 64), some (.int p1), some (.int x4_11), some (.int r_13), some (.int x4_11), some (.int r_13)] rfl ?_
        exact a_less (lle_same (lle_same (lle_same (lle_same (lle_same (lle_drop lle_nil)))))) (hk86_16 _ _ h)
      refine a_icmp_lt C eX10_joint_59 (fun hc => ?_) (fun hc => ?_)
      · replace h := it hc h
        exact a_less (lle_same (lle_same (lle_drop (lle_drop (lle_same (lle_same lle_nil)))))) (hk80_18 h)
      · replace h := ie hc h
        refine a_iload C eX10_joint_62 rfl ?_
        refine a_iload_n C eX10_joint_64 rfl ?_
        refine a_icmp_ne C eX10_joint_65 (fun hc => ?_) (fun hc => ?_)
        · replace h := ie hc h
          exact a_less (lle_same (lle_same (lle_same (lle_same (lle_same (lle_drop lle_nil)))))) (hk86_16 _ _ h)
        · replace h := it hc h
          refine a_iload C eX10_joint_68 rfl ?_
          obtain ⟨r_19, hq, h⟩ := b1_e h
          refine a_cSi1 C eX10_joint_70 wX10_290 ⟨Nat.le_of_ble_eq_true rfl, Nat.le_of_ble_eq_true rfl, rfl, rfl⟩ rfl (kX10_bits hq) (Nat.le_of_ble_eq_true rfl) ?_
          refine a_iload_n C eX10_joint_73 rfl ?_
          obtain ⟨r_20, hq, h⟩ := b1_e h
          refine a_cSi1 C eX10_joint_74 wX10_290 ⟨Nat.le_of_ble_eq_true rfl, Nat.le_of_ble_eq_true rfl, rfl, rfl⟩ rfl (kX10_bits hq) (Nat.le_of_ble_eq_true rfl) ?_
          refine a_icmp_ge C eX10_joint_77 (fun hc => ?_) (fun hc => ?_)
          · replace h := it hc h
            exact a_less (lle_same (lle_same (lle_same (lle_same (lle_same (lle_drop lle_nil)))))) (hk86_16 _ _ h)
          · replace h := ie hc h
            exact a_less (lle_same (lle_same (lle_drop (lle_drop (lle_same (lle_same lle_nil)))))) (hk80_18 h)
theorem kX10_joint {p1 : Int32} {σ : Sg} {rr : (Int32 × Sg)}  (h : XX10_joint p1 σ = some rr) : Ci MX10_joint [.ref 64, .int p1] (SHc ++ SHm) σ rr := by
  refine Ci.start rfl rfl (Nat.le_of_ble_eq_true rfl) ?_
  intro X ad C R
  replace C : Cx X cX10_joint 6 RX10 (some .int) { frames := 6, cells := 0, slots := 0, locals := 141 } := C
  replace R : Ri X cX10_joint (some .int) ad (SHc ++ SHm) rr := R
  show AW X 0 0 ad (SHc ++ SHm) σ 0 [some (.ref 64), some (.int p1), none, none, none, none] []
  rw [XX10_joint] at h
  refine a_aload_n C eX10_joint_0 rfl ?_
  refine a_iconst C eX10_joint_1 (0 : Int32) c_iconst_0 ?_
  refine a_putIL C eX10_joint_2 fX10_95 ftyX10 rfl rfl sh_64 rfl h (fun σ_1 h => ?_)
  refine a_iload_n C eX10_joint_5 rfl ?_
  refine a_iconst C eX10_joint_6 (0 : Int32) c_iconst_0 ?_
  refine a_iconst C eX10_joint_7 (1 : Int32) c_iconst_1 ?_
  obtain ⟨r_2, hq, h⟩ := b1_e h
  refine a_cSi3 C eX10_joint_8 wX10_102 ⟨Nat.le_of_ble_eq_true rfl, Nat.le_of_ble_eq_true rfl, rfl, rfl⟩ rfl (kX10_in hq) (Nat.le_of_ble_eq_true rfl) ?_
  refine a_if_ne C eX10_joint_11 (fun hc => ?_) (fun hc => ?_)
  · replace h := ie hc h
    refine a_aload_n C eX10_joint_16 rfl ?_
    refine a_bipush C eX10_joint_17 (100 : Int32) c_bipush_100 ?_
    obtain ⟨σ_3, hq, h⟩ := b1_e h
    refine a_cVv1 C eX10_joint_19 wX10_250 ⟨Nat.le_of_ble_eq_true rfl, Nat.le_of_ble_eq_true rfl, rfl, rfl⟩ rfl sh_64 rfl (kX10_layAsked hq) (Nat.le_of_ble_eq_true rfl) ?_
    refine a_aload_n C eX10_joint_22 rfl ?_
    obtain ⟨σ_4, hq, h⟩ := b1_e h
    refine a_cVv0 C eX10_joint_23 wX10_329 ⟨Nat.le_of_ble_eq_true rfl, Nat.le_of_ble_eq_true rfl, rfl, rfl⟩ rfl sh_64 rfl (kX10_layBetween hq) (Nat.le_of_ble_eq_true rfl) ?_
    refine a_iconst C eX10_joint_26 (0 : Int32) c_iconst_0 ?_
    refine a_ist_n C eX10_joint_27 (Nat.le_of_ble_eq_true rfl) [some (.ref 64), some (.int p1), some (.int (0 : Int32)), none, none, none] rfl ?_
    refine a_aload_n C eX10_joint_28 rfl ?_
    refine a_iconst C eX10_joint_29 (0 : Int32) c_iconst_0 ?_
    obtain ⟨r_5, hq, h⟩ := b1_e h
    refine a_cVi1 C eX10_joint_30 wX10_332 ⟨Nat.le_of_ble_eq_true rfl, Nat.le_of_ble_eq_true rfl, rfl, rfl⟩ rfl sh_64 rfl (kX10_costBy hq) (Nat.le_of_ble_eq_true rfl) ?_
    refine a_ist_n C eX10_joint_33 (Nat.le_of_ble_eq_true rfl) [some (.ref 64), some (.int p1), some (.int (0 : Int32)), some (.int r_5), none, none] rfl ?_
    refine a_iconst C eX10_joint_34 (1 : Int32) c_iconst_1 ?_
    refine a_ist C eX10_joint_35 (Nat.le_of_ble_eq_true rfl) [some (.ref 64), some (.int p1), some (.int (0 : Int32)), some (.int r_5), some (.int (1 : Int32)), none] rfl ?_
    refine jn (fun (kk : Int32 → Int32 → Option (Int32 × Sg)) => ∀ (x2_6 : Int32) (x3_7 : Int32), kk x2_6 x3_7 = some rr → AW X 0 0 ad (SHc ++ SHm) σ_4 92 [none, some (.int p1), some (.int x2_6), some (.int x3_7), none, none] []) h ?_ (fun k92_8 hk92_8 h => ?_)
    · intro x2_6 x3_7 h
      refine a_iload_n C eX10_joint_92 rfl ?_
      refine a_if_ne C eX10_joint_93 (fun hc => ?_) (fun hc => ?_)
      · replace h := ie hc h
        refine a_iload_n C eX10_joint_100 rfl ?_
        exact rt_i R eX10_joint_101 h nb_int
      · replace h := it hc h
        refine a_iload_n C eX10_joint_96 rfl ?_
        refine a_goto C eX10_joint_97 ?_
        exact rt_i R eX10_joint_101 h nb_int
    exact a_less (lle_same (lle_same (lle_same (lle_same (lle_same (lle_same lle_nil)))))) (lX10_joint_37  C R hk92_8 _ _ _ _ h)
  · replace h := it hc h
    refine a_iconst C eX10_joint_14 (-1 : Int32) c_iconst_m1 ?_
    exact rt_i R eX10_joint_15 h nb_int
/-! ShelfDrivesModel.keep()V -/
def LX10_keep_51 (k83_4 : Sg → Option Sg) : Nat → Int32 → Sg → Option Sg
  | 0, _, _ => none
  | n + 1, x1_9, σ_10 => if (6 : Int32) ≤ x1_9 then (k83_4 σ_10) else (if ib x1_9 6 then if ib (((7 : Int32) * (σ_10 64 39)) + x1_9) 84 then lt (up σ_10 91 (((7 : Int32) * (σ_10 64 39)) + x1_9).toNatClampNeg (σ_10 78 x1_9.toNatClampNeg)) (fun (σ_12 : Sg) => lt (x1_9 + (1 : Int32)) (fun (x1_14 : Int32) => LX10_keep_51 k83_4 n x1_14 σ_12)) else none else none)
def LX10_keep_12 (k39_16 : Sg → Option Sg) : Nat → Int32 → Sg → Option Sg
  | 0, _, _ => none
  | n + 1, x1_18, σ_19 => if (84 : Int32) ≤ x1_18 then (k39_16 σ_19) else (if ib x1_18 84 then if ib (x1_18 - (7 : Int32)) 84 then lt (up σ_19 91 (x1_18 - (7 : Int32)).toNatClampNeg (σ_19 91 x1_18.toNatClampNeg)) (fun (σ_21 : Sg) => lt (x1_18 + (1 : Int32)) (fun (x1_23 : Int32) => LX10_keep_12 k39_16 n x1_23 σ_21)) else none else none)
def XX10_keep (σ : Sg) : Option Sg := lt (fun (σ_1 : Sg) => lt (fun (σ_3 : Sg) => b1 (XX10_number (9 : Int32) σ_3) (fun (r_5 : Int32) => if ib (((7 : Int32) * (σ_3 64 39)) + (6 : Int32)) 84 then lt (up σ_3 91 (((7 : Int32) * (σ_3 64 39)) + (6 : Int32)).toNatClampNeg r_5) (fun (σ_6 : Sg) => lt (up σ_6 64 39 ((σ_6 64 39) + (1 : Int32))) (fun (σ_8 : Sg) => some σ_8)) else none)) (fun (k83_4 : Sg → Option Sg) => LX10_keep_51 k83_4 FUEL (0 : Int32) σ_1)) (fun (k49_2 : Sg → Option Sg) => if (σ 64 39) = (12 : Int32) then (lt (fun (σ_15 : Sg) => lt (up σ_15 64 39 ((σ_15 64 39) - (1 : Int32))) (fun (σ_17 : Sg) => k49_2 σ_17)) (fun (k39_16 : Sg → Option Sg) => LX10_keep_12 k39_16 FUEL (7 : Int32) σ)) else (k49_2 σ))
theorem lX10_keep_51 {X : CT} {ad : Nat → Nat} {rr : Sg} {k83_4 : Sg → Option Sg}  (C : Cx X cX10_keep 2 RX10 none { frames := 1, cells := 0, slots := 0, locals := 21 }) (R : Rv X cX10_keep ad (SHc ++ SHm) rr) (hk83_4 : ∀ (σ_3 : Sg), k83_4 σ_3 = some rr → AW X 0 0 ad (SHc ++ SHm) σ_3 83 [some (.ref 64), none] []) : ∀ (n : Nat) (x1_9 : Int32) (σ_10 : Sg), LX10_keep_51 k83_4 n x1_9 σ_10 = some rr → AW X 0 0 ad (SHc ++ SHm) σ_10 51 [some (.ref 64), some (.int x1_9)] [] := by
  intro n
  induction n with
  | zero =>
    intro x1_9 σ_10 h
    rw [LX10_keep_51] at h
    cases h
  | succ n ih =>
    intro x1_9 σ_10 h
    rw [LX10_keep_51] at h
    refine a_iload_n C eX10_keep_51 rfl ?_
    refine a_bipush C eX10_keep_52 (6 : Int32) c_bipush_6 ?_
    refine a_icmp_ge C eX10_keep_54 (fun hc => ?_) (fun hc => ?_)
    · replace h := it hc h
      exact a_less (lle_same (lle_drop lle_nil)) (hk83_4 _ h)
    · replace h := ie hc h
      refine a_aload_n C eX10_keep_57 rfl ?_
      refine a_getR C eX10_keep_58 fX10_92 sh_64 rfl ?_
      refine a_bipush C eX10_keep_61 (7 : Int32) c_bipush_7 ?_
      refine a_aload_n C eX10_keep_63 rfl ?_
      refine a_getI C eX10_keep_64 fX10_218 sh_64 rfl ?_
      refine a_imul C eX10_keep_67 ?_
      refine a_iload_n C eX10_keep_68 rfl ?_
      refine a_iadd C eX10_keep_69 ?_
      refine a_aload_n C eX10_keep_70 rfl ?_
      refine a_getR C eX10_keep_71 fX10_53 sh_64 rfl ?_
      refine a_iload_n C eX10_keep_74 rfl ?_
      obtain ⟨hb_11, h⟩ := gd h
      refine a_iald C eX10_keep_75 sh_78 hb_11 ?_
      obtain ⟨hb_13, h⟩ := gd h
      refine a_iastL C eX10_keep_76 sh_91 hb_13 h (fun σ_12 h => ?_)
      refine a_inc C eX10_keep_77 rfl c_iconst_1 h (fun z => [some (.ref 64), some (.int z)]) (fun _ => rfl) (fun x1_14 h => ?_)
      refine a_goto C eX10_keep_80 ?_
      exact a_less (lle_same (lle_same lle_nil)) (ih _ _ h)
theorem lX10_keep_12 {X : CT} {ad : Nat → Nat} {rr : Sg} {k39_16 : Sg → Option Sg}  (C : Cx X cX10_keep 2 RX10 none { frames := 1, cells := 0, slots := 0, locals := 21 }) (R : Rv X cX10_keep ad (SHc ++ SHm) rr) (hk39_16 : ∀ (σ_15 : Sg), k39_16 σ_15 = some rr → AW X 0 0 ad (SHc ++ SHm) σ_15 39 [some (.ref 64), none] []) : ∀ (n : Nat) (x1_18 : Int32) (σ_19 : Sg), LX10_keep_12 k39_16 n x1_18 σ_19 = some rr → AW X 0 0 ad (SHc ++ SHm) σ_19 12 [some (.ref 64), some (.int x1_18)] [] := by
  intro n
  induction n with
  | zero =>
    intro x1_18 σ_19 h
    rw [LX10_keep_12] at h
    cases h
  | succ n ih =>
    intro x1_18 σ_19 h
    rw [LX10_keep_12] at h
    refine a_iload_n C eX10_keep_12 rfl ?_
    refine a_bipush C eX10_keep_13 (84 : Int32) c_bipush_84 ?_
    refine a_icmp_ge C eX10_keep_15 (fun hc => ?_) (fun hc => ?_)
    · replace h := it hc h
      exact a_less (lle_same (lle_drop lle_nil)) (hk39_16 _ h)
    · replace h := ie hc h
      refine a_aload_n C eX10_keep_18 rfl ?_
      refine a_getR C eX10_keep_19 fX10_92 sh_64 rfl ?_
      refine a_iload_n C eX10_keep_22 rfl ?_
      refine a_bipush C eX10_keep_23 (7 : Int32) c_bipush_7 ?_
      refine a_isub C eX10_keep_25 ?_
      refine a_aload_n C eX10_keep_26 rfl ?_
      refine a_getR C eX10_keep_27 fX10_92 sh_64 rfl ?_
      refine a_iload_n C eX10_keep_30 rfl ?_
      obtain ⟨hb_20, h⟩ := gd h
      refine a_iald C eX10_keep_31 sh_91 hb_20 ?_
      obtain ⟨hb_22, h⟩ := gd h
      refine a_iastL C eX10_keep_32 sh_91 hb_22 h (fun σ_21 h => ?_)
      refine a_inc C eX10_keep_33 rfl c_iconst_1 h (fun z => [some (.ref 64), some (.int z)]) (fun _ => rfl) (fun x1_23 h => ?_)
      refine a_goto C eX10_keep_36 ?_
      exact a_less (lle_same (lle_same lle_nil)) (ih _ _ h)
theorem kX10_keep {σ : Sg} {rr : Sg}  (h : XX10_keep σ = some rr) : Cv MX10_keep [.ref 64] (SHc ++ SHm) σ rr := by
  refine Cv.start rfl rfl (Nat.le_of_ble_eq_true rfl) rfl ?_
  intro X ad C R
  replace C : Cx X cX10_keep 2 RX10 none { frames := 1, cells := 0, slots := 0, locals := 21 } := C
  replace R : Rv X cX10_keep ad (SHc ++ SHm) rr := R
  show AW X 0 0 ad (SHc ++ SHm) σ 0 [some (.ref 64), none] []
  rw [XX10_keep] at h
  refine a_aload_n C eX10_keep_0 rfl ?_
  refine a_getI C eX10_keep_1 fX10_218 sh_64 rfl ?_
  refine a_bipush C eX10_keep_4 (12 : Int32) c_bipush_12 ?_
  refine jn (fun (kk : Sg → Option Sg) => ∀ (σ_1 : Sg), kk σ_1 = some rr → AW X 0 0 ad (SHc ++ SHm) σ_1 49 [some (.ref 64), none] []) h ?_ (fun k49_2 hk49_2 h => ?_)
  · intro σ_1 h
    refine a_iconst C eX10_keep_49 (0 : Int32) c_iconst_0 ?_
    refine a_ist_n C eX10_keep_50 (Nat.le_of_ble_eq_true rfl) [some (.ref 64), some (.int (0 : Int32))] rfl ?_
    refine jn (fun (kk : Sg → Option Sg) => ∀ (σ_3 : Sg), kk σ_3 = some rr → AW X 0 0 ad (SHc ++ SHm) σ_3 83 [some (.ref 64), none] []) h ?_ (fun k83_4 hk83_4 h => ?_)
    · intro σ_3 h
      refine a_aload_n C eX10_keep_83 rfl ?_
      refine a_getR C eX10_keep_84 fX10_92 sh_64 rfl ?_
      refine a_bipush C eX10_keep_87 (7 : Int32) c_bipush_7 ?_
      refine a_aload_n C eX10_keep_89 rfl ?_
      refine a_getI C eX10_keep_90 fX10_218 sh_64 rfl ?_
      refine a_imul C eX10_keep_93 ?_
      refine a_bipush C eX10_keep_94 (6 : Int32) c_bipush_6 ?_
      refine a_iadd C eX10_keep_96 ?_
      refine a_aload_n C eX10_keep_97 rfl ?_
      refine a_bipush C eX10_keep_98 (9 : Int32) c_bipush_9 ?_
      obtain ⟨r_5, hq, h⟩ := b1_e h
      refine a_cVi1 C eX10_keep_100 wX10_224 ⟨Nat.le_of_ble_eq_true rfl, Nat.le_of_ble_eq_true rfl, rfl, rfl⟩ rfl sh_64 rfl (kX10_number hq) (Nat.le_of_ble_eq_true rfl) ?_
      obtain ⟨hb_7, h⟩ := gd h
      refine a_iastL C eX10_keep_103 sh_91 hb_7 h (fun σ_6 h => ?_)
      refine a_aload_n C eX10_keep_104 rfl ?_
      refine a_dup C eX10_keep_105 rfl ?_
      refine a_getI C eX10_keep_106 fX10_218 sh_64 rfl ?_
      refine a_iconst C eX10_keep_109 (1 : Int32) c_iconst_1 ?_
      refine a_iadd C eX10_keep_110 ?_
      refine a_putIL C eX10_keep_111 fX10_218 ftyX10 rfl rfl sh_64 rfl h (fun σ_8 h => ?_)
      exact rt_v R eX10_keep_114 h
    exact a_less (lle_same (lle_same lle_nil)) (lX10_keep_51  C R hk83_4 _ _ _ h)
  refine a_icmp_ne C eX10_keep_6 (fun hc => ?_) (fun hc => ?_)
  · replace h := ie hc h
    exact a_less (lle_same (lle_same lle_nil)) (hk49_2 _ h)
  · replace h := it hc h
    refine a_bipush C eX10_keep_9 (7 : Int32) c_bipush_7 ?_
    refine a_ist_n C eX10_keep_11 (Nat.le_of_ble_eq_true rfl) [some (.ref 64), some (.int (7 : Int32))] rfl ?_
    refine jn (fun (kk : Sg → Option Sg) => ∀ (σ_15 : Sg), kk σ_15 = some rr → AW X 0 0 ad (SHc ++ SHm) σ_15 39 [some (.ref 64), none] []) h ?_ (fun k39_16 hk39_16 h => ?_)
    · intro σ_15 h
      refine a_aload_n C eX10_keep_39 rfl ?_
      refine a_dup C eX10_keep_40 rfl ?_
      refine a_getI C eX10_keep_41 fX10_218 sh_64 rfl ?_
      refine a_iconst C eX10_keep_44 (1 : Int32) c_iconst_1 ?_
      refine a_isub C eX10_keep_45 ?_
      refine a_putIL C eX10_keep_46 fX10_218 ftyX10 rfl rfl sh_64 rfl h (fun σ_17 h => ?_)
      exact a_less (lle_same (lle_same lle_nil)) (hk49_2 _ h)
    exact a_less (lle_same (lle_same lle_nil)) (lX10_keep_12  C R hk39_16 _ _ _ h)
/-! ShelfDrivesModel.puts()V -/
def LX10_puts_2 (k34_2 : Sg → Option Sg) : Nat → Int32 → Sg → Option Sg
  | 0, _, _ => none
  | n + 1, x1_5, σ_6 => if (6 : Int32) ≤ x1_5 then (k34_2 σ_6) else (if ib (((7 : Int32) * (σ_6 64 39)) + x1_5) 84 then if ib x1_5 6 then lt (up σ_6 78 x1_5.toNatClampNeg (σ_6 91 (((7 : Int32) * (σ_6 64 39)) + x1_5).toNatClampNeg)) (fun (σ_8 : Sg) => lt (x1_5 + (1 : Int32)) (fun (x1_10 : Int32) => LX10_puts_2 k34_2 n x1_10 σ_8)) else none else none)
def XX10_puts (σ : Sg) : Option Sg := lt (fun (σ_1 : Sg) => if ib (((7 : Int32) * (σ_1 64 39)) + (6 : Int32)) 84 then lt (up σ_1 65 9 (σ_1 91 (((7 : Int32) * (σ_1 64 39)) + (6 : Int32)).toNatClampNeg)) (fun (σ_4 : Sg) => some σ_4) else none) (fun (k34_2 : Sg → Option Sg) => LX10_puts_2 k34_2 FUEL (0 : Int32) σ)
theorem lX10_puts_2 {X : CT} {ad : Nat → Nat} {rr : Sg} {k34_2 : Sg → Option Sg}  (C : Cx X cX10_puts 2 RX10 none { frames := 0, cells := 0, slots := 0, locals := 0 }) (R : Rv X cX10_puts ad (SHc ++ SHm) rr) (hk34_2 : ∀ (σ_1 : Sg), k34_2 σ_1 = some rr → AW X 0 0 ad (SHc ++ SHm) σ_1 34 [some (.ref 64), none] []) : ∀ (n : Nat) (x1_5 : Int32) (σ_6 : Sg), LX10_puts_2 k34_2 n x1_5 σ_6 = some rr → AW X 0 0 ad (SHc ++ SHm) σ_6 2 [some (.ref 64), some (.int x1_5)] [] := by
  intro n
  induction n with
  | zero =>
    intro x1_5 σ_6 h
    rw [LX10_puts_2] at h
    cases h
  | succ n ih =>
    intro x1_5 σ_6 h
    rw [LX10_puts_2] at h
    refine a_iload_n C eX10_puts_2 rfl ?_
    refine a_bipush C eX10_puts_3 (6 : Int32) c_bipush_6 ?_
    refine a_icmp_ge C eX10_puts_5 (fun hc => ?_) (fun hc => ?_)
    · replace h := it hc h
      exact a_less (lle_same (lle_drop lle_nil)) (hk34_2 _ h)
    · replace h := ie hc h
      refine a_aload_n C eX10_puts_8 rfl ?_
      refine a_getR C eX10_puts_9 fX10_53 sh_64 rfl ?_
      refine a_iload_n C eX10_puts_12 rfl ?_
      refine a_aload_n C eX10_puts_13 rfl ?_
      refine a_getR C eX10_puts_14 fX10_92 sh_64 rfl ?_
      refine a_bipush C eX10_puts_17 (7 : Int32) c_bipush_7 ?_
      refine a_aload_n C eX10_puts_19 rfl ?_
      refine a_getI C eX10_puts_20 fX10_218 sh_64 rfl ?_
      refine a_imul C eX10_puts_23 ?_
      refine a_iload_n C eX10_puts_24 rfl ?_
      refine a_iadd C eX10_puts_25 ?_
      obtain ⟨hb_7, h⟩ := gd h
      refine a_iald C eX10_puts_26 sh_91 hb_7 ?_
      obtain ⟨hb_9, h⟩ := gd h
      refine a_iastL C eX10_puts_27 sh_78 hb_9 h (fun σ_8 h => ?_)
      refine a_inc C eX10_puts_28 rfl c_iconst_1 h (fun z => [some (.ref 64), some (.int z)]) (fun _ => rfl) (fun x1_10 h => ?_)
      refine a_goto C eX10_puts_31 ?_
      exact a_less (lle_same (lle_same lle_nil)) (ih _ _ h)
theorem kX10_puts {σ : Sg} {rr : Sg}  (h : XX10_puts σ = some rr) : Cv MX10_puts [.ref 64] (SHc ++ SHm) σ rr := by
  refine Cv.start rfl rfl (Nat.le_of_ble_eq_true rfl) rfl ?_
  intro X ad C R
  replace C : Cx X cX10_puts 2 RX10 none { frames := 0, cells := 0, slots := 0, locals := 0 } := C
  replace R : Rv X cX10_puts ad (SHc ++ SHm) rr := R
  show AW X 0 0 ad (SHc ++ SHm) σ 0 [some (.ref 64), none] []
  rw [XX10_puts] at h
  refine a_iconst C eX10_puts_0 (0 : Int32) c_iconst_0 ?_
  refine a_ist_n C eX10_puts_1 (Nat.le_of_ble_eq_true rfl) [some (.ref 64), some (.int (0 : Int32))] rfl ?_
  refine jn (fun (kk : Sg → Option Sg) => ∀ (σ_1 : Sg), kk σ_1 = some rr → AW X 0 0 ad (SHc ++ SHm) σ_1 34 [some (.ref 64), none] []) h ?_ (fun k34_2 hk34_2 h => ?_)
  · intro σ_1 h
    refine a_aload_n C eX10_puts_34 rfl ?_
    refine a_getR C eX10_puts_35 fX10_7 sh_64 rfl ?_
    refine a_bipush C eX10_puts_38 (9 : Int32) c_bipush_9 ?_
    refine a_aload_n C eX10_puts_40 rfl ?_
    refine a_getR C eX10_puts_41 fX10_92 sh_64 rfl ?_
    refine a_bipush C eX10_puts_44 (7 : Int32) c_bipush_7 ?_
    refine a_aload_n C eX10_puts_46 rfl ?_
    refine a_getI C eX10_puts_47 fX10_218 sh_64 rfl ?_
    refine a_imul C eX10_puts_50 ?_
    refine a_bipush C eX10_puts_51 (6 : Int32) c_bipush_6 ?_
    refine a_iadd C eX10_puts_53 ?_
    obtain ⟨hb_3, h⟩ := gd h
    refine a_iald C eX10_puts_54 sh_91 hb_3 ?_
    refine a_iastK C eX10_puts_55 sh_65 ix_9 (Nat.le_of_ble_eq_true rfl) h (fun σ_4 h => ?_)
    exact rt_v R eX10_puts_56 h
  exact a_less (lle_same (lle_same lle_nil)) (lX10_puts_2  C R hk34_2 _ _ _ h)
/-! ShelfDrivesModel.undo()Z -/
def XX10_undo (σ : Sg) : Option (Int32 × Sg) := lt (up σ 64 0 (0 : Int32)) (fun (σ_1 : Sg) => if (σ_1 64 39) = 0 then (some ((0 : Int32), σ_1)) else (lt (up σ_1 64 39 ((σ_1 64 39) - (1 : Int32))) (fun (σ_2 : Sg) => b1 (XX10_puts σ_2) (fun (σ_3 : Sg) => some ((1 : Int32), σ_3)))))
theorem kX10_undo {σ : Sg} {rr : (Int32 × Sg)}  (h : XX10_undo σ = some rr) : Ci MX10_undo [.ref 64] (SHc ++ SHm) σ rr := by
  refine Ci.start rfl rfl (Nat.le_of_ble_eq_true rfl) ?_
  intro X ad C R
  replace C : Cx X cX10_undo 1 RX10 (some .boolean) { frames := 1, cells := 0, slots := 0, locals := 21 } := C
  replace R : Ri X cX10_undo (some .boolean) ad (SHc ++ SHm) rr := R
  show AW X 0 0 ad (SHc ++ SHm) σ 0 [some (.ref 64)] []
  rw [XX10_undo] at h
  refine a_aload_n C eX10_undo_0 rfl ?_
  refine a_iconst C eX10_undo_1 (0 : Int32) c_iconst_0 ?_
  refine a_putIL C eX10_undo_2 fX10_95 ftyX10 rfl rfl sh_64 rfl h (fun σ_1 h => ?_)
  refine a_aload_n C eX10_undo_5 rfl ?_
  refine a_getI C eX10_undo_6 fX10_218 sh_64 rfl ?_
  refine a_if_ne C eX10_undo_9 (fun hc => ?_) (fun hc => ?_)
  · replace h := ie hc h
    refine a_aload_n C eX10_undo_14 rfl ?_
    refine a_dup C eX10_undo_15 rfl ?_
    refine a_getI C eX10_undo_16 fX10_218 sh_64 rfl ?_
    refine a_iconst C eX10_undo_19 (1 : Int32) c_iconst_1 ?_
    refine a_isub C eX10_undo_20 ?_
    refine a_putIL C eX10_undo_21 fX10_218 ftyX10 rfl rfl sh_64 rfl h (fun σ_2 h => ?_)
    refine a_aload_n C eX10_undo_24 rfl ?_
    obtain ⟨σ_3, hq, h⟩ := b1_e h
    refine a_cVv0 C eX10_undo_25 wX10_335 ⟨Nat.le_of_ble_eq_true rfl, Nat.le_of_ble_eq_true rfl, rfl, rfl⟩ rfl sh_64 rfl (kX10_puts hq) (Nat.le_of_ble_eq_true rfl) ?_
    refine a_iconst C eX10_undo_28 (1 : Int32) c_iconst_1 ?_
    exact rt_i R eX10_undo_29 h nb_1
  · replace h := it hc h
    refine a_iconst C eX10_undo_12 (0 : Int32) c_iconst_0 ?_
    exact rt_i R eX10_undo_13 h nb_0
/-! ShelfDrivesModel.allVisits()I -/
def LX10_allVisits_4 (σ : Sg) : Nat → Int32 → Int32 → Option Int32
  | 0, _, _ => none
  | n + 1, x1_1, x2_2 => b1 (XX10_shops σ) (fun (r_3 : Int32) => if r_3 ≤ x2_2 then (some x1_1) else (if ib x2_2 6 then b1 (XX10_bits (σ 78 x2_2.toNatClampNeg)) (fun (r_5 : Int32) => lt (x1_1 + r_5) (fun (x1_6 : Int32) => lt (x2_2 + (1 : Int32)) (fun (x2_7 : Int32) => LX10_allVisits_4 σ n x1_6 x2_7))) else none))
def XX10_allVisits (σ : Sg) : Option Int32 := LX10_allVisits_4 σ FUEL (0 : Int32) (0 : Int32)
theorem lX10_allVisits_4 {X : CT} {ad : Nat → Nat} {rr : Int32} {σ : Sg}  (C : Cx X cX10_allVisits 3 RX10 (some .int) { frames := 1, cells := 0, slots := 0, locals := 22 }) (R : Ri X cX10_allVisits (some .int) ad (SHc ++ SHm) (rr, σ))  : ∀ (n : Nat) (x1_1 : Int32) (x2_2 : Int32), LX10_allVisits_4 σ n x1_1 x2_2 = some rr → AW X 0 0 ad (SHc ++ SHm) σ 4 [some (.ref 64), some (.int x1_1), some (.int x2_2)] [] := by
  intro n
  induction n with
  | zero =>
    intro x1_1 x2_2 h
    rw [LX10_allVisits_4] at h
    cases h
  | succ n ih =>
    intro x1_1 x2_2 h
    rw [LX10_allVisits_4] at h
    refine a_iload_n C eX10_allVisits_4 rfl ?_
    refine a_aload_n C eX10_allVisits_5 rfl ?_
    obtain ⟨r_3, hq, h⟩ := b1_e h
    refine a_cVi0 C eX10_allVisits_6 wX10_98 ⟨Nat.le_of_ble_eq_true rfl, Nat.le_of_ble_eq_true rfl, rfl, rfl⟩ rfl sh_64 rfl (kX10_shops hq) (Nat.le_of_ble_eq_true rfl) ?_
    refine a_icmp_ge C eX10_allVisits_9 (fun hc => ?_) (fun hc => ?_)
    · replace h := it hc h
      refine a_iload_n C eX10_allVisits_30 rfl ?_
      exact rt_p R eX10_allVisits_31 h nb_int
    · replace h := ie hc h
      refine a_iload_n C eX10_allVisits_12 rfl ?_
      refine a_aload_n C eX10_allVisits_13 rfl ?_
      refine a_getR C eX10_allVisits_14 fX10_53 sh_64 rfl ?_
      refine a_iload_n C eX10_allVisits_17 rfl ?_
      obtain ⟨hb_4, h⟩ := gd h
      refine a_iald C eX10_allVisits_18 sh_78 hb_4 ?_
      obtain ⟨r_5, hq, h⟩ := b1_e h
      refine a_cSi1 C eX10_allVisits_19 wX10_290 ⟨Nat.le_of_ble_eq_true rfl, Nat.le_of_ble_eq_true rfl, rfl, rfl⟩ rfl (kX10_bits hq) (Nat.le_of_ble_eq_true rfl) ?_
      refine a_iadd C eX10_allVisits_22 ?_
      refine a_lt h (fun x1_6 h => ?_)
      refine a_ist_n C eX10_allVisits_23 (Nat.le_of_ble_eq_true rfl) [some (.ref 64), some (.int x1_6), some (.int x2_2)] rfl ?_
      refine a_inc C eX10_allVisits_24 rfl c_iconst_1 h (fun z => [some (.ref 64), some (.int x1_6), some (.int z)]) (fun _ => rfl) (fun x2_7 h => ?_)
      refine a_goto C eX10_allVisits_27 ?_
      exact a_less (lle_same (lle_same (lle_same lle_nil))) (ih _ _ h)
theorem kX10_allVisits {σ : Sg} {rr : Int32}  (h : XX10_allVisits σ = some rr) : Ci MX10_allVisits [.ref 64] (SHc ++ SHm) σ (rr, σ) := by
  refine Ci.start rfl rfl (Nat.le_of_ble_eq_true rfl) ?_
  intro X ad C R
  replace C : Cx X cX10_allVisits 3 RX10 (some .int) { frames := 1, cells := 0, slots := 0, locals := 22 } := C
  replace R : Ri X cX10_allVisits (some .int) ad (SHc ++ SHm) (rr, σ) := R
  show AW X 0 0 ad (SHc ++ SHm) σ 0 [some (.ref 64), none, none] []
  rw [XX10_allVisits] at h
  refine a_iconst C eX10_allVisits_0 (0 : Int32) c_iconst_0 ?_
  refine a_ist_n C eX10_allVisits_1 (Nat.le_of_ble_eq_true rfl) [some (.ref 64), some (.int (0 : Int32)), none] rfl ?_
  refine a_iconst C eX10_allVisits_2 (0 : Int32) c_iconst_0 ?_
  refine a_ist_n C eX10_allVisits_3 (Nat.le_of_ble_eq_true rfl) [some (.ref 64), some (.int (0 : Int32)), some (.int (0 : Int32))] rfl ?_
  exact a_less (lle_same (lle_same (lle_same lle_nil))) (lX10_allVisits_4  C R  _ _ _ h)
/-! ShelfDrivesModel.visit(II)I -/
def XX10_visit (p1 : Int32) (p2 : Int32) (σ : Sg) : Option (Int32 × Sg) := lt (up σ 64 0 (0 : Int32)) (fun (σ_1 : Sg) => b1 (XX10_isAt p1 p2 σ_1) (fun (r_2 : Int32) => if r_2 = 0 then (some ((-1 : Int32), σ_1)) else (b1 (XX10_keep σ_1) (fun (σ_3 : Sg) => if ib p1 6 then lt (up σ_3 78 p1.toNatClampNeg ((σ_3 78 p1.toNatClampNeg) ^^^ ((1 : Int32) <<< (p2 &&& 31)))) (fun (σ_5 : Sg) => some (((σ_5 78 p1.toNatClampNeg) >>> (p2 &&& 31)) &&& (1 : Int32), σ_5)) else none))))
theorem kX10_visit {p1 : Int32} {p2 : Int32} {σ : Sg} {rr : (Int32 × Sg)}  (h : XX10_visit p1 p2 σ = some rr) : Ci MX10_visit [.ref 64, .int p1, .int p2] (SHc ++ SHm) σ rr := by
  refine Ci.start rfl rfl (Nat.le_of_ble_eq_true rfl) ?_
  intro X ad C R
  replace C : Cx X cX10_visit 3 RX10 (some .int) { frames := 3, cells := 0, slots := 0, locals := 65 } := C
  replace R : Ri X cX10_visit (some .int) ad (SHc ++ SHm) rr := R
  show AW X 0 0 ad (SHc ++ SHm) σ 0 [some (.ref 64), some (.int p1), some (.int p2)] []
  rw [XX10_visit] at h
  refine a_aload_n C eX10_visit_0 rfl ?_
  refine a_iconst C eX10_visit_1 (0 : Int32) c_iconst_0 ?_
  refine a_putIL C eX10_visit_2 fX10_95 ftyX10 rfl rfl sh_64 rfl h (fun σ_1 h => ?_)
  refine a_aload_n C eX10_visit_5 rfl ?_
  refine a_iload_n C eX10_visit_6 rfl ?_
  refine a_iload_n C eX10_visit_7 rfl ?_
  obtain ⟨r_2, hq, h⟩ := b1_e h
  refine a_cVi2 C eX10_visit_8 wX10_259 ⟨Nat.le_of_ble_eq_true rfl, Nat.le_of_ble_eq_true rfl, rfl, rfl⟩ rfl sh_64 rfl (kX10_isAt hq) (Nat.le_of_ble_eq_true rfl) ?_
  refine a_if_ne C eX10_visit_11 (fun hc => ?_) (fun hc => ?_)
  · replace h := ie hc h
    refine a_aload_n C eX10_visit_16 rfl ?_
    obtain ⟨σ_3, hq, h⟩ := b1_e h
    refine a_cVv0 C eX10_visit_17 wX10_338 ⟨Nat.le_of_ble_eq_true rfl, Nat.le_of_ble_eq_true rfl, rfl, rfl⟩ rfl sh_64 rfl (kX10_keep hq) (Nat.le_of_ble_eq_true rfl) ?_
    refine a_aload_n C eX10_visit_20 rfl ?_
    refine a_getR C eX10_visit_21 fX10_53 sh_64 rfl ?_
    refine a_iload_n C eX10_visit_24 rfl ?_
    refine a_dup2 C eX10_visit_25 rfl rfl ?_
    obtain ⟨hb_4, h⟩ := gd h
    refine a_iald C eX10_visit_26 sh_78 hb_4 ?_
    refine a_iconst C eX10_visit_27 (1 : Int32) c_iconst_1 ?_
    refine a_iload_n C eX10_visit_28 rfl ?_
    refine a_ishl C eX10_visit_29 ?_
    refine a_ixor C eX10_visit_30 ?_
    refine a_iastL C eX10_visit_31 sh_78 hb_4 h (fun σ_5 h => ?_)
    refine a_aload_n C eX10_visit_32 rfl ?_
    refine a_getR C eX10_visit_33 fX10_53 sh_64 rfl ?_
    refine a_iload_n C eX10_visit_36 rfl ?_
    refine a_iald C eX10_visit_37 sh_78 hb_4 ?_
    refine a_iload_n C eX10_visit_38 rfl ?_
    refine a_ishr C eX10_visit_39 ?_
    refine a_iconst C eX10_visit_40 (1 : Int32) c_iconst_1 ?_
    refine a_iand C eX10_visit_41 ?_
    exact rt_i R eX10_visit_42 h nb_int
  · replace h := it hc h
    refine a_iconst C eX10_visit_14 (-1 : Int32) c_iconst_m1 ?_
    exact rt_i R eX10_visit_15 h nb_int
/-! ShelfDrivesModel.morning(II)I -/
def XX10_morning (p1 : Int32) (p2 : Int32) (σ : Sg) : Option Int32 := if p2 = 0 then (if ib p1 12 then some (σ 69 p1.toNatClampNeg) else none) else (if ib ((((14 : Int32) * p1) + p2) - (1 : Int32)) 84 then some (σ 81 ((((14 : Int32) * p1) + p2) - (1 : Int32)).toNatClampNeg) else none)
theorem kX10_morning {p1 : Int32} {p2 : Int32} {σ : Sg} {rr : Int32}  (h : XX10_morning p1 p2 σ = some rr) : Ci MX10_morning [.ref 64, .int p1, .int p2] (SHc ++ SHm) σ (rr, σ) := by
  refine Ci.start rfl rfl (Nat.le_of_ble_eq_true rfl) ?_
  intro X ad C R
  replace C : Cx X cX10_morning 3 RX10 (some .int) { frames := 0, cells := 0, slots := 0, locals := 0 } := C
  replace R : Ri X cX10_morning (some .int) ad (SHc ++ SHm) (rr, σ) := R
  show AW X 0 0 ad (SHc ++ SHm) σ 0 [some (.ref 64), some (.int p1), some (.int p2)] []
  rw [XX10_morning] at h
  refine a_iload_n C eX10_morning_0 rfl ?_
  refine a_if_ne C eX10_morning_1 (fun hc => ?_) (fun hc => ?_)
  · replace h := ie hc h
    refine a_aload_n C eX10_morning_13 rfl ?_
    refine a_getR C eX10_morning_14 fX10_62 sh_64 rfl ?_
    refine a_bipush C eX10_morning_17 (14 : Int32) c_bipush_14 ?_
    refine a_iload_n C eX10_morning_19 rfl ?_
    refine a_imul C eX10_morning_20 ?_
    refine a_iload_n C eX10_morning_21 rfl ?_
    refine a_iadd C eX10_morning_22 ?_
    refine a_iconst C eX10_morning_23 (1 : Int32) c_iconst_1 ?_
    refine a_isub C eX10_morning_24 ?_
    obtain ⟨hb_1, h⟩ := gd h
    refine a_iald C eX10_morning_25 sh_81 hb_1 ?_
    exact rt_p R eX10_morning_26 h nb_int
  · replace h := it hc h
    refine a_aload_n C eX10_morning_4 rfl ?_
    refine a_getR C eX10_morning_5 fX10_22 sh_64 rfl ?_
    refine a_iload_n C eX10_morning_8 rfl ?_
    obtain ⟨hb_2, h⟩ := gd h
    refine a_iald C eX10_morning_9 sh_69 hb_2 ?_
    refine a_goto C eX10_morning_10 ?_
    exact rt_p R eX10_morning_26 h nb_int
/-! ShelfDrivesModel.askedFor(III)I -/
def LX10_askedFor_6 (p1 : Int32) (p2 : Int32) (p3 : Int32) (σ : Sg) : Nat → Int32 → Int32 → Option Int32
  | 0, _, _ => none
  | n + 1, x4_1, x5_2 => if (p2 + p3) < x5_2 then (some x4_1) else (b1 (XX10_days σ) (fun (r_3 : Int32) => if r_3 ≤ x5_2 then (some x4_1) else (if ib (((14 : Int32) * p1) + x5_2) 84 then lt (x4_1 + (σ 79 (((14 : Int32) * p1) + x5_2).toNatClampNeg)) (fun (x4_5 : Int32) => lt (x5_2 + (1 : Int32)) (fun (x5_6 : Int32) => LX10_askedFor_6 p1 p2 p3 σ n x4_5 x5_6)) else none)))
def XX10_askedFor (p1 : Int32) (p2 : Int32) (p3 : Int32) (σ : Sg) : Option Int32 := LX10_askedFor_6 p1 p2 p3 σ FUEL (0 : Int32) p2
theorem lX10_askedFor_6 {X : CT} {ad : Nat → Nat} {rr : Int32} {p1 : Int32} {p2 : Int32} {p3 : Int32} {σ : Sg}  (C : Cx X cX10_askedFor 6 RX10 (some .int) { frames := 1, cells := 0, slots := 0, locals := 20 }) (R : Ri X cX10_askedFor (some .int) ad (SHc ++ SHm) (rr, σ))  : ∀ (n : Nat) (x4_1 : Int32) (x5_2 : Int32), LX10_askedFor_6 p1 p2 p3 σ n x4_1 x5_2 = some rr → AW X 0 0 ad (SHc ++ SHm) σ 6 [some (.ref 64), some (.int p1), some (.int p2), some (.int p3), some (.int x4_1), some (.int x5_2)] [] := by
  intro n
  induction n with
  | zero =>
    intro x4_1 x5_2 h
    rw [LX10_askedFor_6] at h
    cases h
  | succ n ih =>
    intro x4_1 x5_2 h
    rw [LX10_askedFor_6] at h
    refine a_iload C eX10_askedFor_6 rfl ?_
    refine a_iload_n C eX10_askedFor_8 rfl ?_
    refine a_iload_n C eX10_askedFor_9 rfl ?_
    refine a_iadd C eX10_askedFor_10 ?_
    refine a_icmp_gt C eX10_askedFor_11 (fun hc => ?_) (fun hc => ?_)
    · replace h := it hc h
      refine a_iload C eX10_askedFor_46 rfl ?_
      exact rt_p R eX10_askedFor_48 h nb_int
    · replace h := ie hc h
      refine a_iload C eX10_askedFor_14 rfl ?_
      refine a_aload_n C eX10_askedFor_16 rfl ?_
      obtain ⟨r_3, hq, h⟩ := b1_e h
      refine a_cVi0 C eX10_askedFor_17 wX10_106 ⟨Nat.le_of_ble_eq_true rfl, Nat.le_of_ble_eq_true rfl, rfl, rfl⟩ rfl sh_64 rfl (kX10_days hq) (Nat.le_of_ble_eq_true rfl) ?_
      refine a_icmp_ge C eX10_askedFor_20 (fun hc => ?_) (fun hc => ?_)
      · replace h := it hc h
        refine a_iload C eX10_askedFor_46 rfl ?_
        exact rt_p R eX10_askedFor_48 h nb_int
      · replace h := ie hc h
        refine a_iload C eX10_askedFor_23 rfl ?_
        refine a_aload_n C eX10_askedFor_25 rfl ?_
        refine a_getR C eX10_askedFor_26 fX10_56 sh_64 rfl ?_
        refine a_bipush C eX10_askedFor_29 (14 : Int32) c_bipush_14 ?_
        refine a_iload_n C eX10_askedFor_31 rfl ?_
        refine a_imul C eX10_askedFor_32 ?_
        refine a_iload C eX10_askedFor_33 rfl ?_
        refine a_iadd C eX10_askedFor_35 ?_
        obtain ⟨hb_4, h⟩ := gd h
        refine a_iald C eX10_askedFor_36 sh_79 hb_4 ?_
        refine a_iadd C eX10_askedFor_37 ?_
        refine a_lt h (fun x4_5 h => ?_)
        refine a_ist C eX10_askedFor_38 (Nat.le_of_ble_eq_true rfl) [some (.ref 64), some (.int p1), some (.int p2), some (.int p3), some (.int x4_5), some (.int x5_2)] rfl ?_
        refine a_inc C eX10_askedFor_40 rfl c_iconst_1 h (fun z => [some (.ref 64), some (.int p1), some (.int p2), some (.int p3), some (.int x4_5), some (.int z)]) (fun _ => rfl) (fun x5_6 h => ?_)
        refine a_goto C eX10_askedFor_43 ?_
        exact a_less (lle_same (lle_same (lle_same (lle_same (lle_same (lle_same lle_nil)))))) (ih _ _ h)
theorem kX10_askedFor {p1 : Int32} {p2 : Int32} {p3 : Int32} {σ : Sg} {rr : Int32}  (h : XX10_askedFor p1 p2 p3 σ = some rr) : Ci MX10_askedFor [.ref 64, .int p1, .int p2, .int p3] (SHc ++ SHm) σ (rr, σ) := by
  refine Ci.start rfl rfl (Nat.le_of_ble_eq_true rfl) ?_
  intro X ad C R
  replace C : Cx X cX10_askedFor 6 RX10 (some .int) { frames := 1, cells := 0, slots := 0, locals := 20 } := C
  replace R : Ri X cX10_askedFor (some .int) ad (SHc ++ SHm) (rr, σ) := R
  show AW X 0 0 ad (SHc ++ SHm) σ 0 [some (.ref 64), some (.int p1), some (.int p2), some (.int p3), none, none] []
  rw [XX10_askedFor] at h
  refine a_iconst C eX10_askedFor_0 (0 : Int32) c_iconst_0 ?_
  refine a_ist C eX10_askedFor_1 (Nat.le_of_ble_eq_true rfl) [some (.ref 64), some (.int p1), some (.int p2), some (.int p3), some (.int (0 : Int32)), none] rfl ?_
  refine a_iload_n C eX10_askedFor_3 rfl ?_
  refine a_ist C eX10_askedFor_4 (Nat.le_of_ble_eq_true rfl) [some (.ref 64), some (.int p1), some (.int p2), some (.int p3), some (.int (0 : Int32)), some (.int p2)] rfl ?_
  exact a_less (lle_same (lle_same (lle_same (lle_same (lle_same (lle_same lle_nil)))))) (lX10_askedFor_6  C R  _ _ _ h)
/-! ShelfDrivesModel.rule(I)I -/
def LX10_rule_117 (p1 : Int32) (x2_10 : Int32) (x3_14 : Int32) (k171_17 : Sg → Option (Int32 × Sg)) : Nat → Int32 → Sg → Option (Int32 × Sg)
  | 0, _, _ => none
  | n + 1, x4_19, σ_20 => b1 (XX10_shops σ_20) (fun (r_21 : Int32) => if r_21 ≤ x4_19 then (k171_17 σ_20) else (if x3_14 = 0 then (k171_17 σ_20) else (if ib x4_19 6 then b1 (XX10_morning x4_19 x2_10 σ_20) (fun (r_23 : Int32) => b1 (XX10_askedFor x4_19 x2_10 p1 σ_20) (fun (r_24 : Int32) => lt (fun (s_25 : Int32) => lt (up σ_20 78 x4_19.toNatClampNeg ((σ_20 78 x4_19.toNatClampNeg) ||| s_25)) (fun (σ_27 : Sg) => lt (x4_19 + (1 : Int32)) (fun (x4_28 : Int32) => LX10_rule_117 p1 x2_10 x3_14 k171_17 n x4_28 σ_27))) (fun (k163_26 : Int32 → Option (Int32 × Sg)) => if r_24 ≤ r_23 then (k163_26 (0 : Int32)) else (k163_26 ((1 : Int32) <<< (x2_10 &&& 31)))))) else none)))
def LX10_rule_69 (x2_10 : Int32) (σ_13 : Sg) (k114_15 : Int32 → Option (Int32 × Sg)) : Nat → Int32 → Int32 → Option (Int32 × Sg)
  | 0, _, _ => none
  | n + 1, x3_29, x4_30 => b1 (XX10_shops σ_13) (fun (r_31 : Int32) => if r_31 ≤ x4_30 then (k114_15 x3_29) else (b1 (XX10_morning x4_30 x2_10 σ_13) (fun (r_32 : Int32) => if ib (((14 : Int32) * x4_30) + x2_10) 84 then lt (fun (s_34 : Int32) => lt (x3_29 ||| s_34) (fun (x3_36 : Int32) => lt (x4_30 + (1 : Int32)) (fun (x4_37 : Int32) => LX10_rule_69 x2_10 σ_13 k114_15 n x3_36 x4_37))) (fun (k106_35 : Int32 → Option (Int32 × Sg)) => if (σ_13 79 (((14 : Int32) * x4_30) + x2_10).toNatClampNeg) ≤ r_32 then (k106_35 (0 : Int32)) else (k106_35 (1 : Int32))) else none)))
def LX10_rule_52 (p1 : Int32) (k177_8 : Sg → Option (Int32 × Sg)) : Nat → Int32 → Sg → Option (Int32 × Sg)
  | 0, _, _ => none
  | n + 1, x2_10, σ_11 => b1 (XX10_days σ_11) (fun (r_12 : Int32) => if r_12 ≤ x2_10 then (k177_8 σ_11) else (b1 (XX10_runAll σ_11) (fun (σ_13 : Sg) => lt (fun (x3_14 : Int32) => lt (fun (σ_16 : Sg) => lt (x2_10 + (1 : Int32)) (fun (x2_18 : Int32) => LX10_rule_52 p1 k177_8 n x2_18 σ_16)) (fun (k171_17 : Sg → Option (Int32 × Sg)) => LX10_rule_117 p1 x2_10 x3_14 k171_17 FUEL (0 : Int32) σ_13)) (fun (k114_15 : Int32 → Option (Int32 × Sg)) => LX10_rule_69 x2_10 σ_13 k114_15 FUEL (0 : Int32) (0 : Int32)))))
def LX10_rule_29 (k50_6 : Sg → Option (Int32 × Sg)) : Nat → Int32 → Sg → Option (Int32 × Sg)
  | 0, _, _ => none
  | n + 1, x2_38, σ_39 => b1 (XX10_shops σ_39) (fun (r_40 : Int32) => if r_40 ≤ x2_38 then (k50_6 σ_39) else (if ib x2_38 6 then lt (up σ_39 78 x2_38.toNatClampNeg (0 : Int32)) (fun (σ_41 : Sg) => lt (x2_38 + (1 : Int32)) (fun (x2_43 : Int32) => LX10_rule_29 k50_6 n x2_43 σ_41)) else none))
def XX10_rule (p1 : Int32) (σ : Sg) : Option (Int32 × Sg) := lt (up σ 64 0 (0 : Int32)) (fun (σ_1 : Sg) => b1 (XX10_in p1 (0 : Int32) (13 : Int32)) (fun (r_2 : Int32) => if r_2 = 0 then (some ((-1 : Int32), σ_1)) else (b1 (XX10_keep σ_1) (fun (σ_3 : Sg) => b1 (XX10_layAsked (100 : Int32) σ_3) (fun (σ_4 : Sg) => lt (fun (σ_5 : Sg) => lt (fun (σ_7 : Sg) => b1 (XX10_allVisits σ_7) (fun (r_9 : Int32) => some (r_9, σ_7))) (fun (k177_8 : Sg → Option (Int32 × Sg)) => LX10_rule_52 p1 k177_8 FUEL (0 : Int32) σ_5)) (fun (k50_6 : Sg → Option (Int32 × Sg)) => LX10_rule_29 k50_6 FUEL (0 : Int32) σ_4))))))
theorem lX10_rule_117 {X : CT} {ad : Nat → Nat} {rr : (Int32 × Sg)} {p1 : Int32} {x2_10 : Int32} {x3_14 : Int32} {k171_17 : Sg → Option (Int32 × Sg)}  (C : Cx X cX10_rule 5 RX10 (some .int) { frames := 3, cells := 0, slots := 0, locals := 68 }) (R : Ri X cX10_rule (some .int) ad (SHc ++ SHm) rr) (hk171_17 : ∀ (σ_16 : Sg), k171_17 σ_16 = some rr → AW X 0 0 ad (SHc ++ SHm) σ_16 171 [some (.ref 64), some (.int p1), some (.int x2_10), none, none] []) : ∀ (n : Nat) (x4_19 : Int32) (σ_20 : Sg), LX10_rule_117 p1 x2_10 x3_14 k171_17 n x4_19 σ_20 = some rr → AW X 0 0 ad (SHc ++ SHm) σ_20 117 [some (.ref 64), some (.int p1), some (.int x2_10), some (.int x3_14), some (.int x4_19)] [] := by
  intro n
  induction n with
  | zero =>
    intro x4_19 σ_20 h
    rw [LX10_rule_117] at h
    cases h
  | succ n ih =>
    intro x4_19 σ_20 h
    rw [LX10_rule_117] at h
    refine a_iload C eX10_rule_117 rfl ?_
    refine a_aload_n C eX10_rule_119 rfl ?_
    obtain ⟨r_21, hq, h⟩ := b1_e h
    refine a_cVi0 C eX10_rule_120 wX10_98 ⟨Nat.le_of_ble_eq_true rfl, Nat.le_of_ble_eq_true rfl, rfl, rfl⟩ rfl sh_64 rfl (kX10_shops hq) (Nat.le_of_ble_eq_true rfl) ?_
    refine a_icmp_ge C eX10_rule_123 (fun hc => ?_) (fun hc => ?_)
    · replace h := it hc h
      exact a_less (lle_same (lle_same (lle_same (lle_drop (lle_drop lle_nil))))) (hk171_17 _ h)
    · replace h := ie hc h
      refine a_iload_n C eX10_rule_126 rfl ?_
      refine a_if_eq C eX10_rule_127 (fun hc => ?_) (fun hc => ?_)
      · replace h := it hc h
        exact a_less (lle_same (lle_same (lle_same (lle_drop (lle_drop lle_nil))))) (hk171_17 _ h)
      · replace h := ie hc h
        refine a_aload_n C eX10_rule_130 rfl ?_
        refine a_getR C eX10_rule_131 fX10_53 sh_64 rfl ?_
        refine a_iload C eX10_rule_134 rfl ?_
        refine a_dup2 C eX10_rule_136 rfl rfl ?_
        obtain ⟨hb_22, h⟩ := gd h
        refine a_iald C eX10_rule_137 sh_78 hb_22 ?_
        refine a_aload_n C eX10_rule_138 rfl ?_
        refine a_iload C eX10_rule_139 rfl ?_
        refine a_iload_n C eX10_rule_141 rfl ?_
        obtain ⟨r_23, hq, h⟩ := b1_e h
        refine a_cVi2 C eX10_rule_142 wX10_341 ⟨Nat.le_of_ble_eq_true rfl, Nat.le_of_ble_eq_true rfl, rfl, rfl⟩ rfl sh_64 rfl (kX10_morning hq) (Nat.le_of_ble_eq_true rfl) ?_
        refine a_aload_n C eX10_rule_145 rfl ?_
        refine a_iload C eX10_rule_146 rfl ?_
        refine a_iload_n C eX10_rule_148 rfl ?_
        refine a_iload_n C eX10_rule_149 rfl ?_
        obtain ⟨r_24, hq, h⟩ := b1_e h
        refine a_cVi3 C eX10_rule_150 wX10_344 ⟨Nat.le_of_ble_eq_true rfl, Nat.le_of_ble_eq_true rfl, rfl, rfl⟩ rfl sh_64 rfl (kX10_askedFor hq) (Nat.le_of_ble_eq_true rfl) ?_
        refine jn (fun (kk : Int32 → Option (Int32 × Sg)) => ∀ (s_25 : Int32), kk s_25 = some rr → AW X 0 0 ad (SHc ++ SHm) σ_20 163 [some (.ref 64), some (.int p1), some (.int x2_10), some (.int x3_14), some (.int x4_19)] [.int s_25, .int (σ_20 78 x4_19.toNatClampNeg), .int x4_19, .ref 78]) h ?_ (fun k163_26 hk163_26 h => ?_)
        · intro s_25 h
          refine a_ior C eX10_rule_163 ?_
          refine a_iastL C eX10_rule_164 sh_78 hb_22 h (fun σ_27 h => ?_)
          refine a_inc C eX10_rule_165 rfl c_iconst_1 h (fun z => [some (.ref 64), some (.int p1), some (.int x2_10), some (.int x3_14), some (.int z)]) (fun _ => rfl) (fun x4_28 h => ?_)
          refine a_goto C eX10_rule_168 ?_
          exact a_less (lle_same (lle_same (lle_same (lle_same (lle_same lle_nil))))) (ih _ _ h)
        refine a_icmp_ge C eX10_rule_153 (fun hc => ?_) (fun hc => ?_)
        · replace h := it hc h
          refine a_iconst C eX10_rule_162 (0 : Int32) c_iconst_0 ?_
          exact a_less (lle_same (lle_same (lle_same (lle_same (lle_same lle_nil))))) (hk163_26 _ h)
        · replace h := ie hc h
          refine a_iconst C eX10_rule_156 (1 : Int32) c_iconst_1 ?_
          refine a_iload_n C eX10_rule_157 rfl ?_
          refine a_ishl C eX10_rule_158 ?_
          refine a_goto C eX10_rule_159 ?_
          exact a_less (lle_same (lle_same (lle_same (lle_same (lle_same lle_nil))))) (hk163_26 _ h)
theorem lX10_rule_69 {X : CT} {ad : Nat → Nat} {rr : (Int32 × Sg)} {p1 : Int32} {x2_10 : Int32} {σ_13 : Sg} {k114_15 : Int32 → Option (Int32 × Sg)}  (C : Cx X cX10_rule 5 RX10 (some .int) { frames := 3, cells := 0, slots := 0, locals := 68 }) (R : Ri X cX10_rule (some .int) ad (SHc ++ SHm) rr) (hk114_15 : ∀ (x3_14 : Int32), k114_15 x3_14 = some rr → AW X 0 0 ad (SHc ++ SHm) σ_13 114 [some (.ref 64), some (.int p1), some (.int x2_10), some (.int x3_14), none] []) : ∀ (n : Nat) (x3_29 : Int32) (x4_30 : Int32), LX10_rule_69 x2_10 σ_13 k114_15 n x3_29 x4_30 = some rr → AW X 0 0 ad (SHc ++ SHm) σ_13 69 [some (.ref 64), some (.int p1), some (.int x2_10), some (.int x3_29), some (.int x4_30)] [] := by
  intro n
  induction n with
  | zero =>
    intro x3_29 x4_30 h
    rw [LX10_rule_69] at h
    cases h
  | succ n ih =>
    intro x3_29 x4_30 h
    rw [LX10_rule_69] at h
    refine a_iload C eX10_rule_69 rfl ?_
    refine a_aload_n C eX10_rule_71 rfl ?_
    obtain ⟨r_31, hq, h⟩ := b1_e h
    refine a_cVi0 C eX10_rule_72 wX10_98 ⟨Nat.le_of_ble_eq_true rfl, Nat.le_of_ble_eq_true rfl, rfl, rfl⟩ rfl sh_64 rfl (kX10_shops hq) (Nat.le_of_ble_eq_true rfl) ?_
    refine a_icmp_ge C eX10_rule_75 (fun hc => ?_) (fun hc => ?_)
    · replace h := it hc h
      exact a_less (lle_same (lle_same (lle_same (lle_same (lle_drop lle_nil))))) (hk114_15 _ h)
    · replace h := ie hc h
      refine a_iload_n C eX10_rule_78 rfl ?_
      refine a_aload_n C eX10_rule_79 rfl ?_
      refine a_iload C eX10_rule_80 rfl ?_
      refine a_iload_n C eX10_rule_82 rfl ?_
      obtain ⟨r_32, hq, h⟩ := b1_e h
      refine a_cVi2 C eX10_rule_83 wX10_341 ⟨Nat.le_of_ble_eq_true rfl, Nat.le_of_ble_eq_true rfl, rfl, rfl⟩ rfl sh_64 rfl (kX10_morning hq) (Nat.le_of_ble_eq_true rfl) ?_
      refine a_aload_n C eX10_rule_86 rfl ?_
      refine a_getR C eX10_rule_87 fX10_56 sh_64 rfl ?_
      refine a_bipush C eX10_rule_90 (14 : Int32) c_bipush_14 ?_
      refine a_iload C eX10_rule_92 rfl ?_
      refine a_imul C eX10_rule_94 ?_
      refine a_iload_n C eX10_rule_95 rfl ?_
      refine a_iadd C eX10_rule_96 ?_
      obtain ⟨hb_33, h⟩ := gd h
      refine a_iald C eX10_rule_97 sh_79 hb_33 ?_
      refine jn (fun (kk : Int32 → Option (Int32 × Sg)) => ∀ (s_34 : Int32), kk s_34 = some rr → AW X 0 0 ad (SHc ++ SHm) σ_13 106 [some (.ref 64), some (.int p1), some (.int x2_10), none, some (.int x4_30)] [.int s_34, .int x3_29]) h ?_ (fun k106_35 hk106_35 h => ?_)
      · intro s_34 h
        refine a_ior C eX10_rule_106 ?_
        refine a_lt h (fun x3_36 h => ?_)
        refine a_ist_n C eX10_rule_107 (Nat.le_of_ble_eq_true rfl) [some (.ref 64), some (.int p1), some (.int x2_10), some (.int x3_36), some (.int x4_30)] rfl ?_
        refine a_inc C eX10_rule_108 rfl c_iconst_1 h (fun z => [some (.ref 64), some (.int p1), some (.int x2_10), some (.int x3_36), some (.int z)]) (fun _ => rfl) (fun x4_37 h => ?_)
        refine a_goto C eX10_rule_111 ?_
        exact a_less (lle_same (lle_same (lle_same (lle_same (lle_same lle_nil))))) (ih _ _ h)
      refine a_icmp_ge C eX10_rule_98 (fun hc => ?_) (fun hc => ?_)
      · replace h := it hc h
        refine a_iconst C eX10_rule_105 (0 : Int32) c_iconst_0 ?_
        exact a_less (lle_same (lle_same (lle_same (lle_drop (lle_same lle_nil))))) (hk106_35 _ h)
      · replace h := ie hc h
        refine a_iconst C eX10_rule_101 (1 : Int32) c_iconst_1 ?_
        refine a_goto C eX10_rule_102 ?_
        exact a_less (lle_same (lle_same (lle_same (lle_drop (lle_same lle_nil))))) (hk106_35 _ h)
theorem lX10_rule_52 {X : CT} {ad : Nat → Nat} {rr : (Int32 × Sg)} {p1 : Int32} {k177_8 : Sg → Option (Int32 × Sg)}  (C : Cx X cX10_rule 5 RX10 (some .int) { frames := 3, cells := 0, slots := 0, locals := 68 }) (R : Ri X cX10_rule (some .int) ad (SHc ++ SHm) rr) (hk177_8 : ∀ (σ_7 : Sg), k177_8 σ_7 = some rr → AW X 0 0 ad (SHc ++ SHm) σ_7 177 [some (.ref 64), none, none, none, none] []) : ∀ (n : Nat) (x2_10 : Int32) (σ_11 : Sg), LX10_rule_52 p1 k177_8 n x2_10 σ_11 = some rr → AW X 0 0 ad (SHc ++ SHm) σ_11 52 [some (.ref 64), some (.int p1), some (.int x2_10), none, none] [] := by
  intro n
  induction n with
  | zero =>
    intro x2_10 σ_11 h
    rw [LX10_rule_52] at h
    cases h
  | succ n ih =>
    intro x2_10 σ_11 h
    rw [LX10_rule_52] at h
    refine a_iload_n C eX10_rule_52 rfl ?_
    refine a_aload_n C eX10_rule_53 rfl ?_
    obtain ⟨r_12, hq, h⟩ := b1_e h
    refine a_cVi0 C eX10_rule_54 wX10_106 ⟨Nat.le_of_ble_eq_true rfl, Nat.le_of_ble_eq_true rfl, rfl, rfl⟩ rfl sh_64 rfl (kX10_days hq) (Nat.le_of_ble_eq_true rfl) ?_
    refine a_icmp_ge C eX10_rule_57 (fun hc => ?_) (fun hc => ?_)
    · replace h := it hc h
      exact a_less (lle_same (lle_drop (lle_drop (lle_same (lle_same lle_nil))))) (hk177_8 _ h)
    · replace h := ie hc h
      refine a_aload_n C eX10_rule_60 rfl ?_
      obtain ⟨σ_13, hq, h⟩ := b1_e h
      refine a_cVv0 C eX10_rule_61 wX10_253 ⟨Nat.le_of_ble_eq_true rfl, Nat.le_of_ble_eq_true rfl, rfl, rfl⟩ rfl sh_64 rfl (kX10_runAll hq) (Nat.le_of_ble_eq_true rfl) ?_
      refine a_iconst C eX10_rule_64 (0 : Int32) c_iconst_0 ?_
      refine a_ist_n C eX10_rule_65 (Nat.le_of_ble_eq_true rfl) [some (.ref 64), some (.int p1), some (.int x2_10), some (.int (0 : Int32)), none] rfl ?_
      refine a_iconst C eX10_rule_66 (0 : Int32) c_iconst_0 ?_
      refine a_ist C eX10_rule_67 (Nat.le_of_ble_eq_true rfl) [some (.ref 64), some (.int p1), some (.int x2_10), some (.int (0 : Int32)), some (.int (0 : Int32))] rfl ?_
      refine jn (fun (kk : Int32 → Option (Int32 × Sg)) => ∀ (x3_14 : Int32), kk x3_14 = some rr → AW X 0 0 ad (SHc ++ SHm) σ_13 114 [some (.ref 64), some (.int p1), some (.int x2_10), some (.int x3_14), none] []) h ?_ (fun k114_15 hk114_15 h => ?_)
      · intro x3_14 h
        refine a_iconst C eX10_rule_114 (0 : Int32) c_iconst_0 ?_
        refine a_ist C eX10_rule_115 (Nat.le_of_ble_eq_true rfl) [some (.ref 64), some (.int p1), some (.int x2_10), some (.int x3_14), some (.int (0 : Int32))] rfl ?_
        refine jn (fun (kk : Sg → Option (Int32 × Sg)) => ∀ (σ_16 : Sg), kk σ_16 = some rr → AW X 0 0 ad (SHc ++ SHm) σ_16 171 [some (.ref 64), some (.int p1), some (.int x2_10), none, none] []) h ?_ (fun k171_17 hk171_17 h => ?_)
        · intro σ_16 h
          refine a_inc C eX10_rule_171 rfl c_iconst_1 h (fun z => [some (.ref 64), some (.int p1), some (.int z), none, none]) (fun _ => rfl) (fun x2_18 h => ?_)
          refine a_goto C eX10_rule_174 ?_
          exact a_less (lle_same (lle_same (lle_same (lle_same (lle_same lle_nil))))) (ih _ _ h)
        exact a_less (lle_same (lle_same (lle_same (lle_same (lle_same lle_nil))))) (lX10_rule_117  C R hk171_17 _ _ _ h)
      exact a_less (lle_same (lle_same (lle_same (lle_same (lle_same lle_nil))))) (lX10_rule_69  C R hk114_15 _ _ _ h)
theorem lX10_rule_29 {X : CT} {ad : Nat → Nat} {rr : (Int32 × Sg)} {p1 : Int32} {k50_6 : Sg → Option (Int32 × Sg)}  (C : Cx X cX10_rule 5 RX10 (some .int) { frames := 3, cells := 0, slots := 0, locals := 68 }) (R : Ri X cX10_rule (some .int) ad (SHc ++ SHm) rr) (hk50_6 : ∀ (σ_5 : Sg), k50_6 σ_5 = some rr → AW X 0 0 ad (SHc ++ SHm) σ_5 50 [some (.ref 64), some (.int p1), none, none, none] []) : ∀ (n : Nat) (x2_38 : Int32) (σ_39 : Sg), LX10_rule_29 k50_6 n x2_38 σ_39 = some rr → AW X 0 0 ad (SHc ++ SHm) σ_39 29 [some (.ref 64), some (.int p1), some (.int x2_38), none, none] [] := by
  intro n
  induction n with
  | zero =>
    intro x2_38 σ_39 h
    rw [LX10_rule_29] at h
    cases h
  | succ n ih =>
    intro x2_38 σ_39 h
    rw [LX10_rule_29] at h
    refine a_iload_n C eX10_rule_29 rfl ?_
    refine a_aload_n C eX10_rule_30 rfl ?_
    obtain ⟨r_40, hq, h⟩ := b1_e h
    refine a_cVi0 C eX10_rule_31 wX10_98 ⟨Nat.le_of_ble_eq_true rfl, Nat.le_of_ble_eq_true rfl, rfl, rfl⟩ rfl sh_64 rfl (kX10_shops hq) (Nat.le_of_ble_eq_true rfl) ?_
    refine a_icmp_ge C eX10_rule_34 (fun hc => ?_) (fun hc => ?_)
    · replace h := it hc h
      exact a_less (lle_same (lle_same (lle_drop (lle_same (lle_same lle_nil))))) (hk50_6 _ h)
    · replace h := ie hc h
      refine a_aload_n C eX10_rule_37 rfl ?_
      refine a_getR C eX10_rule_38 fX10_53 sh_64 rfl ?_
      refine a_iload_n C eX10_rule_41 rfl ?_
      refine a_iconst C eX10_rule_42 (0 : Int32) c_iconst_0 ?_
      obtain ⟨hb_42, h⟩ := gd h
      refine a_iastL C eX10_rule_43 sh_78 hb_42 h (fun σ_41 h => ?_)
      refine a_inc C eX10_rule_44 rfl c_iconst_1 h (fun z => [some (.ref 64), some (.int p1), some (.int z), none, none]) (fun _ => rfl) (fun x2_43 h => ?_)
      refine a_goto C eX10_rule_47 ?_
      exact a_less (lle_same (lle_same (lle_same (lle_same (lle_same lle_nil))))) (ih _ _ h)
theorem kX10_rule {p1 : Int32} {σ : Sg} {rr : (Int32 × Sg)}  (h : XX10_rule p1 σ = some rr) : Ci MX10_rule [.ref 64, .int p1] (SHc ++ SHm) σ rr := by
  refine Ci.start rfl rfl (Nat.le_of_ble_eq_true rfl) ?_
  intro X ad C R
  replace C : Cx X cX10_rule 5 RX10 (some .int) { frames := 3, cells := 0, slots := 0, locals := 68 } := C
  replace R : Ri X cX10_rule (some .int) ad (SHc ++ SHm) rr := R
  show AW X 0 0 ad (SHc ++ SHm) σ 0 [some (.ref 64), some (.int p1), none, none, none] []
  rw [XX10_rule] at h
  refine a_aload_n C eX10_rule_0 rfl ?_
  refine a_iconst C eX10_rule_1 (0 : Int32) c_iconst_0 ?_
  refine a_putIL C eX10_rule_2 fX10_95 ftyX10 rfl rfl sh_64 rfl h (fun σ_1 h => ?_)
  refine a_iload_n C eX10_rule_5 rfl ?_
  refine a_iconst C eX10_rule_6 (0 : Int32) c_iconst_0 ?_
  refine a_bipush C eX10_rule_7 (13 : Int32) c_bipush_13 ?_
  obtain ⟨r_2, hq, h⟩ := b1_e h
  refine a_cSi3 C eX10_rule_9 wX10_102 ⟨Nat.le_of_ble_eq_true rfl, Nat.le_of_ble_eq_true rfl, rfl, rfl⟩ rfl (kX10_in hq) (Nat.le_of_ble_eq_true rfl) ?_
  refine a_if_ne C eX10_rule_12 (fun hc => ?_) (fun hc => ?_)
  · replace h := ie hc h
    refine a_aload_n C eX10_rule_17 rfl ?_
    obtain ⟨σ_3, hq, h⟩ := b1_e h
    refine a_cVv0 C eX10_rule_18 wX10_338 ⟨Nat.le_of_ble_eq_true rfl, Nat.le_of_ble_eq_true rfl, rfl, rfl⟩ rfl sh_64 rfl (kX10_keep hq) (Nat.le_of_ble_eq_true rfl) ?_
    refine a_aload_n C eX10_rule_21 rfl ?_
    refine a_bipush C eX10_rule_22 (100 : Int32) c_bipush_100 ?_
    obtain ⟨σ_4, hq, h⟩ := b1_e h
    refine a_cVv1 C eX10_rule_24 wX10_250 ⟨Nat.le_of_ble_eq_true rfl, Nat.le_of_ble_eq_true rfl, rfl, rfl⟩ rfl sh_64 rfl (kX10_layAsked hq) (Nat.le_of_ble_eq_true rfl) ?_
    refine a_iconst C eX10_rule_27 (0 : Int32) c_iconst_0 ?_
    refine a_ist_n C eX10_rule_28 (Nat.le_of_ble_eq_true rfl) [some (.ref 64), some (.int p1), some (.int (0 : Int32)), none, none] rfl ?_
    refine jn (fun (kk : Sg → Option (Int32 × Sg)) => ∀ (σ_5 : Sg), kk σ_5 = some rr → AW X 0 0 ad (SHc ++ SHm) σ_5 50 [some (.ref 64), some (.int p1), none, none, none] []) h ?_ (fun k50_6 hk50_6 h => ?_)
    · intro σ_5 h
      refine a_iconst C eX10_rule_50 (0 : Int32) c_iconst_0 ?_
      refine a_ist_n C eX10_rule_51 (Nat.le_of_ble_eq_true rfl) [some (.ref 64), some (.int p1), some (.int (0 : Int32)), none, none] rfl ?_
      refine jn (fun (kk : Sg → Option (Int32 × Sg)) => ∀ (σ_7 : Sg), kk σ_7 = some rr → AW X 0 0 ad (SHc ++ SHm) σ_7 177 [some (.ref 64), none, none, none, none] []) h ?_ (fun k177_8 hk177_8 h => ?_)
      · intro σ_7 h
        refine a_aload_n C eX10_rule_177 rfl ?_
        obtain ⟨r_9, hq, h⟩ := b1_e h
        refine a_cVi0 C eX10_rule_178 wX10_348 ⟨Nat.le_of_ble_eq_true rfl, Nat.le_of_ble_eq_true rfl, rfl, rfl⟩ rfl sh_64 rfl (kX10_allVisits hq) (Nat.le_of_ble_eq_true rfl) ?_
        exact rt_i R eX10_rule_181 h nb_int
      exact a_less (lle_same (lle_same (lle_same (lle_same (lle_same lle_nil))))) (lX10_rule_52  C R hk177_8 _ _ _ h)
    exact a_less (lle_same (lle_same (lle_same (lle_same (lle_same lle_nil))))) (lX10_rule_29  C R hk50_6 _ _ _ h)
  · replace h := it hc h
    refine a_iconst C eX10_rule_15 (-1 : Int32) c_iconst_m1 ?_
    exact rt_i R eX10_rule_16 h nb_int
/-! ShelfDrivesModel.helps(III)Z -/
def XX10_helps (p1 : Int32) (p2 : Int32) (p3 : Int32) (σ : Sg) : Option (Int32 × Sg) := if ib p1 6 then lt (up σ 78 p1.toNatClampNeg ((σ 78 p1.toNatClampNeg) ^^^ p2)) (fun (σ_2 : Sg) => b2 (XX10_costNow σ_2) (fun (r_3 : Int32) (σ_4 : Sg) => if p3 ≤ r_3 then (lt (up σ_4 78 p1.toNatClampNeg ((σ_4 78 p1.toNatClampNeg) ^^^ p2)) (fun (σ_5 : Sg) => some ((0 : Int32), σ_5))) else (some ((1 : Int32), σ_4)))) else none
theorem kX10_helps {p1 : Int32} {p2 : Int32} {p3 : Int32} {σ : Sg} {rr : (Int32 × Sg)}  (h : XX10_helps p1 p2 p3 σ = some rr) : Ci MX10_helps [.ref 64, .int p1, .int p2, .int p3] (SHc ++ SHm) σ rr := by
  refine Ci.start rfl rfl (Nat.le_of_ble_eq_true rfl) ?_
  intro X ad C R
  replace C : Cx X cX10_helps 4 RX10 (some .boolean) { frames := 7, cells := 0, slots := 0, locals := 160 } := C
  replace R : Ri X cX10_helps (some .boolean) ad (SHc ++ SHm) rr := R
  show AW X 0 0 ad (SHc ++ SHm) σ 0 [some (.ref 64), some (.int p1), some (.int p2), some (.int p3)] []
  rw [XX10_helps] at h
  refine a_aload_n C eX10_helps_0 rfl ?_
  refine a_getR C eX10_helps_1 fX10_53 sh_64 rfl ?_
  refine a_iload_n C eX10_helps_4 rfl ?_
  refine a_dup2 C eX10_helps_5 rfl rfl ?_
  obtain ⟨hb_1, h⟩ := gd h
  refine a_iald C eX10_helps_6 sh_78 hb_1 ?_
  refine a_iload_n C eX10_helps_7 rfl ?_
  refine a_ixor C eX10_helps_8 ?_
  refine a_iastL C eX10_helps_9 sh_78 hb_1 h (fun σ_2 h => ?_)
  refine a_aload_n C eX10_helps_10 rfl ?_
  obtain ⟨r_3, σ_4, hq, h⟩ := b2_e h
  refine a_cVi0 C eX10_helps_11 wX10_320 ⟨Nat.le_of_ble_eq_true rfl, Nat.le_of_ble_eq_true rfl, rfl, rfl⟩ rfl sh_64 rfl (kX10_costNow hq) (Nat.le_of_ble_eq_true rfl) ?_
  refine a_iload_n C eX10_helps_14 rfl ?_
  refine a_icmp_ge C eX10_helps_15 (fun hc => ?_) (fun hc => ?_)
  · replace h := it hc h
    refine a_aload_n C eX10_helps_20 rfl ?_
    refine a_getR C eX10_helps_21 fX10_53 sh_64 rfl ?_
    refine a_iload_n C eX10_helps_24 rfl ?_
    refine a_dup2 C eX10_helps_25 rfl rfl ?_
    refine a_iald C eX10_helps_26 sh_78 hb_1 ?_
    refine a_iload_n C eX10_helps_27 rfl ?_
    refine a_ixor C eX10_helps_28 ?_
    refine a_iastL C eX10_helps_29 sh_78 hb_1 h (fun σ_5 h => ?_)
    refine a_iconst C eX10_helps_30 (0 : Int32) c_iconst_0 ?_
    exact rt_i R eX10_helps_31 h nb_0
  · replace h := ie hc h
    refine a_iconst C eX10_helps_18 (1 : Int32) c_iconst_1 ?_
    exact rt_i R eX10_helps_19 h nb_1
/-! ShelfDrivesModel.moves(I)Z -/
def LX10_moves_25 (p1 : Int32) (x2_1 : Int32) (x3_7 : Int32) (k94_12 : Sg → Option (Int32 × Sg)) : Nat → Int32 → Sg → Option (Int32 × Sg)
  | 0, _, _ => none
  | n + 1, x4_14, σ_15 => if (x3_7 + (1 : Int32)) < x4_14 then (k94_12 σ_15) else (if ib x2_1 6 then b1 (XX10_isOf (σ_15 78 x2_1.toNatClampNeg) x3_7) (fun (r_17 : Int32) => lt (fun (σ_18 : Sg) => lt (x4_14 + (2 : Int32)) (fun (x4_20 : Int32) => LX10_moves_25 p1 x2_1 x3_7 k94_12 n x4_20 σ_18)) (fun (k88_19 : Sg → Option (Int32 × Sg)) => if r_17 = 0 then (k88_19 σ_15) else (b1 (XX10_isDay x4_14 σ_15) (fun (r_21 : Int32) => if r_21 = 0 then (k88_19 σ_15) else (b1 (XX10_isOf (σ_15 78 x2_1.toNatClampNeg) x4_14) (fun (r_22 : Int32) => if r_22 = 0 then (b2 (XX10_helps x2_1 (((1 : Int32) <<< (x3_7 &&& 31)) ||| ((1 : Int32) <<< (x4_14 &&& 31))) p1 σ_15) (fun (r_23 : Int32) (σ_24 : Sg) => if r_23 = 0 then (k88_19 σ_24) else (some ((1 : Int32), σ_24)))) else (k88_19 σ_15))))))) else none)
def LX10_moves_12 (p1 : Int32) (x2_1 : Int32) (k100_5 : Sg → Option (Int32 × Sg)) : Nat → Int32 → Sg → Option (Int32 × Sg)
  | 0, _, _ => none
  | n + 1, x3_7, σ_8 => b1 (XX10_days σ_8) (fun (r_9 : Int32) => if r_9 ≤ x3_7 then (k100_5 σ_8) else (lt (x3_7 - (1 : Int32)) (fun (x4_10 : Int32) => lt (fun (σ_11 : Sg) => lt (x3_7 + (1 : Int32)) (fun (x3_13 : Int32) => LX10_moves_12 p1 x2_1 k100_5 n x3_13 σ_11)) (fun (k94_12 : Sg → Option (Int32 × Sg)) => LX10_moves_25 p1 x2_1 x3_7 k94_12 FUEL x4_10 σ_8))))
def LX10_moves_2 (p1 : Int32) : Nat → Int32 → Sg → Option (Int32 × Sg)
  | 0, _, _ => none
  | n + 1, x2_1, σ_2 => b1 (XX10_shops σ_2) (fun (r_3 : Int32) => if r_3 ≤ x2_1 then (some ((0 : Int32), σ_2)) else (lt (fun (σ_4 : Sg) => lt (x2_1 + (1 : Int32)) (fun (x2_6 : Int32) => LX10_moves_2 p1 n x2_6 σ_4)) (fun (k100_5 : Sg → Option (Int32 × Sg)) => LX10_moves_12 p1 x2_1 k100_5 FUEL (0 : Int32) σ_2)))
def XX10_moves (p1 : Int32) (σ : Sg) : Option (Int32 × Sg) := LX10_moves_2 p1 FUEL (0 : Int32) σ
theorem lX10_moves_25 {X : CT} {ad : Nat → Nat} {rr : (Int32 × Sg)} {p1 : Int32} {x2_1 : Int32} {x3_7 : Int32} {k94_12 : Sg → Option (Int32 × Sg)}  (C : Cx X cX10_moves 5 RX10 (some .boolean) { frames := 8, cells := 0, slots := 0, locals := 183 }) (R : Ri X cX10_moves (some .boolean) ad (SHc ++ SHm) rr) (hk94_12 : ∀ (σ_11 : Sg), k94_12 σ_11 = some rr → AW X 0 0 ad (SHc ++ SHm) σ_11 94 [some (.ref 64), some (.int p1), some (.int x2_1), some (.int x3_7), none] []) : ∀ (n : Nat) (x4_14 : Int32) (σ_15 : Sg), LX10_moves_25 p1 x2_1 x3_7 k94_12 n x4_14 σ_15 = some rr → AW X 0 0 ad (SHc ++ SHm) σ_15 25 [some (.ref 64), some (.int p1), some (.int x2_1), some (.int x3_7), some (.int x4_14)] [] := by
  intro n
  induction n with
  | zero =>
    intro x4_14 σ_15 h
    rw [LX10_moves_25] at h
    cases h
  | succ n ih =>
    intro x4_14 σ_15 h
    rw [LX10_moves_25] at h
    refine a_iload C eX10_moves_25 rfl ?_
    refine a_iload_n C eX10_moves_27 rfl ?_
    refine a_iconst C eX10_moves_28 (1 : Int32) c_iconst_1 ?_
    refine a_iadd C eX10_moves_29 ?_
    refine a_icmp_gt C eX10_moves_30 (fun hc => ?_) (fun hc => ?_)
    · replace h := it hc h
      exact a_less (lle_same (lle_same (lle_same (lle_same (lle_drop lle_nil))))) (hk94_12 _ h)
    · replace h := ie hc h
      refine a_aload_n C eX10_moves_33 rfl ?_
      refine a_getR C eX10_moves_34 fX10_53 sh_64 rfl ?_
      refine a_iload_n C eX10_moves_37 rfl ?_
      obtain ⟨hb_16, h⟩ := gd h
      refine a_iald C eX10_moves_38 sh_78 hb_16 ?_
      refine a_iload_n C eX10_moves_39 rfl ?_
      obtain ⟨r_17, hq, h⟩ := b1_e h
      refine a_cSi2 C eX10_moves_40 wX10_176 ⟨Nat.le_of_ble_eq_true rfl, Nat.le_of_ble_eq_true rfl, rfl, rfl⟩ rfl (kX10_isOf hq) (Nat.le_of_ble_eq_true rfl) ?_
      refine jn (fun (kk : Sg → Option (Int32 × Sg)) => ∀ (σ_18 : Sg), kk σ_18 = some rr → AW X 0 0 ad (SHc ++ SHm) σ_18 88 [some (.ref 64), some (.int p1), some (.int x2_1), some (.int x3_7), some (.int x4_14)] []) h ?_ (fun k88_19 hk88_19 h => ?_)
      · intro σ_18 h
        refine a_inc C eX10_moves_88 rfl c_iconst_2 h (fun z => [some (.ref 64), some (.int p1), some (.int x2_1), some (.int x3_7), some (.int z)]) (fun _ => rfl) (fun x4_20 h => ?_)
        refine a_goto C eX10_moves_91 ?_
        exact a_less (lle_same (lle_same (lle_same (lle_same (lle_same lle_nil))))) (ih _ _ h)
      refine a_if_eq C eX10_moves_43 (fun hc => ?_) (fun hc => ?_)
      · replace h := it hc h
        exact a_less (lle_same (lle_same (lle_same (lle_same (lle_same lle_nil))))) (hk88_19 _ h)
      · replace h := ie hc h
        refine a_aload_n C eX10_moves_46 rfl ?_
        refine a_iload C eX10_moves_47 rfl ?_
        obtain ⟨r_21, hq, h⟩ := b1_e h
        refine a_cVi1 C eX10_moves_49 wX10_256 ⟨Nat.le_of_ble_eq_true rfl, Nat.le_of_ble_eq_true rfl, rfl, rfl⟩ rfl sh_64 rfl (kX10_isDay hq) (Nat.le_of_ble_eq_true rfl) ?_
        refine a_if_eq C eX10_moves_52 (fun hc => ?_) (fun hc => ?_)
        · replace h := it hc h
          exact a_less (lle_same (lle_same (lle_same (lle_same (lle_same lle_nil))))) (hk88_19 _ h)
        · replace h := ie hc h
          refine a_aload_n C eX10_moves_55 rfl ?_
          refine a_getR C eX10_moves_56 fX10_53 sh_64 rfl ?_
          refine a_iload_n C eX10_moves_59 rfl ?_
          refine a_iald C eX10_moves_60 sh_78 hb_16 ?_
          refine a_iload C eX10_moves_61 rfl ?_
          obtain ⟨r_22, hq, h⟩ := b1_e h
          refine a_cSi2 C eX10_moves_63 wX10_176 ⟨Nat.le_of_ble_eq_true rfl, Nat.le_of_ble_eq_true rfl, rfl, rfl⟩ rfl (kX10_isOf hq) (Nat.le_of_ble_eq_true rfl) ?_
          refine a_if_ne C eX10_moves_66 (fun hc => ?_) (fun hc => ?_)
          · replace h := ie hc h
            exact a_less (lle_same (lle_same (lle_same (lle_same (lle_same lle_nil))))) (hk88_19 _ h)
          · replace h := it hc h
            refine a_aload_n C eX10_moves_69 rfl ?_
            refine a_iload_n C eX10_moves_70 rfl ?_
            refine a_iconst C eX10_moves_71 (1 : Int32) c_iconst_1 ?_
            refine a_iload_n C eX10_moves_72 rfl ?_
            refine a_ishl C eX10_moves_73 ?_
            refine a_iconst C eX10_moves_74 (1 : Int32) c_iconst_1 ?_
            refine a_iload C eX10_moves_75 rfl ?_
            refine a_ishl C eX10_moves_77 ?_
            refine a_ior C eX10_moves_78 ?_
            refine a_iload_n C eX10_moves_79 rfl ?_
            obtain ⟨r_23, σ_24, hq, h⟩ := b2_e h
            refine a_cVi3 C eX10_moves_80 wX10_351 ⟨Nat.le_of_ble_eq_true rfl, Nat.le_of_ble_eq_true rfl, rfl, rfl⟩ rfl sh_64 rfl (kX10_helps hq) (Nat.le_of_ble_eq_true rfl) ?_
            refine a_if_eq C eX10_moves_83 (fun hc => ?_) (fun hc => ?_)
            · replace h := it hc h
              exact a_less (lle_same (lle_same (lle_same (lle_same (lle_same lle_nil))))) (hk88_19 _ h)
            · replace h := ie hc h
              refine a_iconst C eX10_moves_86 (1 : Int32) c_iconst_1 ?_
              exact rt_i R eX10_moves_87 h nb_1
theorem lX10_moves_12 {X : CT} {ad : Nat → Nat} {rr : (Int32 × Sg)} {p1 : Int32} {x2_1 : Int32} {k100_5 : Sg → Option (Int32 × Sg)}  (C : Cx X cX10_moves 5 RX10 (some .boolean) { frames := 8, cells := 0, slots := 0, locals := 183 }) (R : Ri X cX10_moves (some .boolean) ad (SHc ++ SHm) rr) (hk100_5 : ∀ (σ_4 : Sg), k100_5 σ_4 = some rr → AW X 0 0 ad (SHc ++ SHm) σ_4 100 [some (.ref 64), some (.int p1), some (.int x2_1), none, none] []) : ∀ (n : Nat) (x3_7 : Int32) (σ_8 : Sg), LX10_moves_12 p1 x2_1 k100_5 n x3_7 σ_8 = some rr → AW X 0 0 ad (SHc ++ SHm) σ_8 12 [some (.ref 64), some (.int p1), some (.int x2_1), some (.int x3_7), none] [] := by
  intro n
  induction n with
  | zero =>
    intro x3_7 σ_8 h
    rw [LX10_moves_12] at h
    cases h
  | succ n ih =>
    intro x3_7 σ_8 h
    rw [LX10_moves_12] at h
    refine a_iload_n C eX10_moves_12 rfl ?_
    refine a_aload_n C eX10_moves_13 rfl ?_
    obtain ⟨r_9, hq, h⟩ := b1_e h
    refine a_cVi0 C eX10_moves_14 wX10_106 ⟨Nat.le_of_ble_eq_true rfl, Nat.le_of_ble_eq_true rfl, rfl, rfl⟩ rfl sh_64 rfl (kX10_days hq) (Nat.le_of_ble_eq_true rfl) ?_
    refine a_icmp_ge C eX10_moves_17 (fun hc => ?_) (fun hc => ?_)
    · replace h := it hc h
      exact a_less (lle_same (lle_same (lle_same (lle_drop (lle_same lle_nil))))) (hk100_5 _ h)
    · replace h := ie hc h
      refine a_iload_n C eX10_moves_20 rfl ?_
      refine a_iconst C eX10_moves_21 (1 : Int32) c_iconst_1 ?_
      refine a_isub C eX10_moves_22 ?_
      refine a_lt h (fun x4_10 h => ?_)
      refine a_ist C eX10_moves_23 (Nat.le_of_ble_eq_true rfl) [some (.ref 64), some (.int p1), some (.int x2_1), some (.int x3_7), some (.int x4_10)] rfl ?_
      refine jn (fun (kk : Sg → Option (Int32 × Sg)) => ∀ (σ_11 : Sg), kk σ_11 = some rr → AW X 0 0 ad (SHc ++ SHm) σ_11 94 [some (.ref 64), some (.int p1), some (.int x2_1), some (.int x3_7), none] []) h ?_ (fun k94_12 hk94_12 h => ?_)
      · intro σ_11 h
        refine a_inc C eX10_moves_94 rfl c_iconst_1 h (fun z => [some (.ref 64), some (.int p1), some (.int x2_1), some (.int z), none]) (fun _ => rfl) (fun x3_13 h => ?_)
        refine a_goto C eX10_moves_97 ?_
        exact a_less (lle_same (lle_same (lle_same (lle_same (lle_same lle_nil))))) (ih _ _ h)
      exact a_less (lle_same (lle_same (lle_same (lle_same (lle_same lle_nil))))) (lX10_moves_25  C R hk94_12 _ _ _ h)
theorem lX10_moves_2 {X : CT} {ad : Nat → Nat} {rr : (Int32 × Sg)} {p1 : Int32}  (C : Cx X cX10_moves 5 RX10 (some .boolean) { frames := 8, cells := 0, slots := 0, locals := 183 }) (R : Ri X cX10_moves (some .boolean) ad (SHc ++ SHm) rr)  : ∀ (n : Nat) (x2_1 : Int32) (σ_2 : Sg), LX10_moves_2 p1 n x2_1 σ_2 = some rr → AW X 0 0 ad (SHc ++ SHm) σ_2 2 [some (.ref 64), some (.int p1), some (.int x2_1), none, none] [] := by
  intro n
  induction n with
  | zero =>
    intro x2_1 σ_2 h
    rw [LX10_moves_2] at h
    cases h
  | succ n ih =>
    intro x2_1 σ_2 h
    rw [LX10_moves_2] at h
    refine a_iload_n C eX10_moves_2 rfl ?_
    refine a_aload_n C eX10_moves_3 rfl ?_
    obtain ⟨r_3, hq, h⟩ := b1_e h
    refine a_cVi0 C eX10_moves_4 wX10_98 ⟨Nat.le_of_ble_eq_true rfl, Nat.le_of_ble_eq_true rfl, rfl, rfl⟩ rfl sh_64 rfl (kX10_shops hq) (Nat.le_of_ble_eq_true rfl) ?_
    refine a_icmp_ge C eX10_moves_7 (fun hc => ?_) (fun hc => ?_)
    · replace h := it hc h
      refine a_iconst C eX10_moves_106 (0 : Int32) c_iconst_0 ?_
      exact rt_i R eX10_moves_107 h nb_0
    · replace h := ie hc h
      refine a_iconst C eX10_moves_10 (0 : Int32) c_iconst_0 ?_
      refine a_ist_n C eX10_moves_11 (Nat.le_of_ble_eq_true rfl) [some (.ref 64), some (.int p1), some (.int x2_1), some (.int (0 : Int32)), none] rfl ?_
      refine jn (fun (kk : Sg → Option (Int32 × Sg)) => ∀ (σ_4 : Sg), kk σ_4 = some rr → AW X 0 0 ad (SHc ++ SHm) σ_4 100 [some (.ref 64), some (.int p1), some (.int x2_1), none, none] []) h ?_ (fun k100_5 hk100_5 h => ?_)
      · intro σ_4 h
        refine a_inc C eX10_moves_100 rfl c_iconst_1 h (fun z => [some (.ref 64), some (.int p1), some (.int z), none, none]) (fun _ => rfl) (fun x2_6 h => ?_)
        refine a_goto C eX10_moves_103 ?_
        exact a_less (lle_same (lle_same (lle_same (lle_same (lle_same lle_nil))))) (ih _ _ h)
      exact a_less (lle_same (lle_same (lle_same (lle_same (lle_same lle_nil))))) (lX10_moves_12  C R hk100_5 _ _ _ h)
theorem kX10_moves {p1 : Int32} {σ : Sg} {rr : (Int32 × Sg)}  (h : XX10_moves p1 σ = some rr) : Ci MX10_moves [.ref 64, .int p1] (SHc ++ SHm) σ rr := by
  refine Ci.start rfl rfl (Nat.le_of_ble_eq_true rfl) ?_
  intro X ad C R
  replace C : Cx X cX10_moves 5 RX10 (some .boolean) { frames := 8, cells := 0, slots := 0, locals := 183 } := C
  replace R : Ri X cX10_moves (some .boolean) ad (SHc ++ SHm) rr := R
  show AW X 0 0 ad (SHc ++ SHm) σ 0 [some (.ref 64), some (.int p1), none, none, none] []
  rw [XX10_moves] at h
  refine a_iconst C eX10_moves_0 (0 : Int32) c_iconst_0 ?_
  refine a_ist_n C eX10_moves_1 (Nat.le_of_ble_eq_true rfl) [some (.ref 64), some (.int p1), some (.int (0 : Int32)), none, none] rfl ?_
  exact a_less (lle_same (lle_same (lle_same (lle_same (lle_same lle_nil))))) (lX10_moves_2  C R  _ _ _ h)
/-! ShelfDrivesModel.tunes(I)Z -/
def LX10_tunes_12 (p1 : Int32) (x2_1 : Int32) (k40_5 : Sg → Option (Int32 × Sg)) : Nat → Int32 → Sg → Option (Int32 × Sg)
  | 0, _, _ => none
  | n + 1, x3_7, σ_8 => b1 (XX10_days σ_8) (fun (r_9 : Int32) => if r_9 ≤ x3_7 then (k40_5 σ_8) else (b2 (XX10_helps x2_1 ((1 : Int32) <<< (x3_7 &&& 31)) p1 σ_8) (fun (r_10 : Int32) (σ_11 : Sg) => if r_10 = 0 then (lt (x3_7 + (1 : Int32)) (fun (x3_12 : Int32) => LX10_tunes_12 p1 x2_1 k40_5 n x3_12 σ_11)) else (some ((1 : Int32), σ_11)))))
def LX10_tunes_2 (p1 : Int32) : Nat → Int32 → Sg → Option (Int32 × Sg)
  | 0, _, _ => none
  | n + 1, x2_1, σ_2 => b1 (XX10_shops σ_2) (fun (r_3 : Int32) => if r_3 ≤ x2_1 then (some ((0 : Int32), σ_2)) else (lt (fun (σ_4 : Sg) => lt (x2_1 + (1 : Int32)) (fun (x2_6 : Int32) => LX10_tunes_2 p1 n x2_6 σ_4)) (fun (k40_5 : Sg → Option (Int32 × Sg)) => LX10_tunes_12 p1 x2_1 k40_5 FUEL (0 : Int32) σ_2)))
def XX10_tunes (p1 : Int32) (σ : Sg) : Option (Int32 × Sg) := LX10_tunes_2 p1 FUEL (0 : Int32) σ
theorem lX10_tunes_12 {X : CT} {ad : Nat → Nat} {rr : (Int32 × Sg)} {p1 : Int32} {x2_1 : Int32} {k40_5 : Sg → Option (Int32 × Sg)}  (C : Cx X cX10_tunes 4 RX10 (some .boolean) { frames := 8, cells := 0, slots := 0, locals := 183 }) (R : Ri X cX10_tunes (some .boolean) ad (SHc ++ SHm) rr) (hk40_5 : ∀ (σ_4 : Sg), k40_5 σ_4 = some rr → AW X 0 0 ad (SHc ++ SHm) σ_4 40 [some (.ref 64), some (.int p1), some (.int x2_1), none] []) : ∀ (n : Nat) (x3_7 : Int32) (σ_8 : Sg), LX10_tunes_12 p1 x2_1 k40_5 n x3_7 σ_8 = some rr → AW X 0 0 ad (SHc ++ SHm) σ_8 12 [some (.ref 64), some (.int p1), some (.int x2_1), some (.int x3_7)] [] := by
  intro n
  induction n with
  | zero =>
    intro x3_7 σ_8 h
    rw [LX10_tunes_12] at h
    cases h
  | succ n ih =>
    intro x3_7 σ_8 h
    rw [LX10_tunes_12] at h
    refine a_iload_n C eX10_tunes_12 rfl ?_
    refine a_aload_n C eX10_tunes_13 rfl ?_
    obtain ⟨r_9, hq, h⟩ := b1_e h
    refine a_cVi0 C eX10_tunes_14 wX10_106 ⟨Nat.le_of_ble_eq_true rfl, Nat.le_of_ble_eq_true rfl, rfl, rfl⟩ rfl sh_64 rfl (kX10_days hq) (Nat.le_of_ble_eq_true rfl) ?_
    refine a_icmp_ge C eX10_tunes_17 (fun hc => ?_) (fun hc => ?_)
    · replace h := it hc h
      exact a_less (lle_same (lle_same (lle_same (lle_drop lle_nil)))) (hk40_5 _ h)
    · replace h := ie hc h
      refine a_aload_n C eX10_tunes_20 rfl ?_
      refine a_iload_n C eX10_tunes_21 rfl ?_
      refine a_iconst C eX10_tunes_22 (1 : Int32) c_iconst_1 ?_
      refine a_iload_n C eX10_tunes_23 rfl ?_
      refine a_ishl C eX10_tunes_24 ?_
      refine a_iload_n C eX10_tunes_25 rfl ?_
      obtain ⟨r_10, σ_11, hq, h⟩ := b2_e h
      refine a_cVi3 C eX10_tunes_26 wX10_351 ⟨Nat.le_of_ble_eq_true rfl, Nat.le_of_ble_eq_true rfl, rfl, rfl⟩ rfl sh_64 rfl (kX10_helps hq) (Nat.le_of_ble_eq_true rfl) ?_
      refine a_if_eq C eX10_tunes_29 (fun hc => ?_) (fun hc => ?_)
      · replace h := it hc h
        refine a_inc C eX10_tunes_34 rfl c_iconst_1 h (fun z => [some (.ref 64), some (.int p1), some (.int x2_1), some (.int z)]) (fun _ => rfl) (fun x3_12 h => ?_)
        refine a_goto C eX10_tunes_37 ?_
        exact a_less (lle_same (lle_same (lle_same (lle_same lle_nil)))) (ih _ _ h)
      · replace h := ie hc h
        refine a_iconst C eX10_tunes_32 (1 : Int32) c_iconst_1 ?_
        exact rt_i R eX10_tunes_33 h nb_1
theorem lX10_tunes_2 {X : CT} {ad : Nat → Nat} {rr : (Int32 × Sg)} {p1 : Int32}  (C : Cx X cX10_tunes 4 RX10 (some .boolean) { frames := 8, cells := 0, slots := 0, locals := 183 }) (R : Ri X cX10_tunes (some .boolean) ad (SHc ++ SHm) rr)  : ∀ (n : Nat) (x2_1 : Int32) (σ_2 : Sg), LX10_tunes_2 p1 n x2_1 σ_2 = some rr → AW X 0 0 ad (SHc ++ SHm) σ_2 2 [some (.ref 64), some (.int p1), some (.int x2_1), none] [] := by
  intro n
  induction n with
  | zero =>
    intro x2_1 σ_2 h
    rw [LX10_tunes_2] at h
    cases h
  | succ n ih =>
    intro x2_1 σ_2 h
    rw [LX10_tunes_2] at h
    refine a_iload_n C eX10_tunes_2 rfl ?_
    refine a_aload_n C eX10_tunes_3 rfl ?_
    obtain ⟨r_3, hq, h⟩ := b1_e h
    refine a_cVi0 C eX10_tunes_4 wX10_98 ⟨Nat.le_of_ble_eq_true rfl, Nat.le_of_ble_eq_true rfl, rfl, rfl⟩ rfl sh_64 rfl (kX10_shops hq) (Nat.le_of_ble_eq_true rfl) ?_
    refine a_icmp_ge C eX10_tunes_7 (fun hc => ?_) (fun hc => ?_)
    · replace h := it hc h
      refine a_iconst C eX10_tunes_46 (0 : Int32) c_iconst_0 ?_
      exact rt_i R eX10_tunes_47 h nb_0
    · replace h := ie hc h
      refine a_iconst C eX10_tunes_10 (0 : Int32) c_iconst_0 ?_
      refine a_ist_n C eX10_tunes_11 (Nat.le_of_ble_eq_true rfl) [some (.ref 64), some (.int p1), some (.int x2_1), some (.int (0 : Int32))] rfl ?_
      refine jn (fun (kk : Sg → Option (Int32 × Sg)) => ∀ (σ_4 : Sg), kk σ_4 = some rr → AW X 0 0 ad (SHc ++ SHm) σ_4 40 [some (.ref 64), some (.int p1), some (.int x2_1), none] []) h ?_ (fun k40_5 hk40_5 h => ?_)
      · intro σ_4 h
        refine a_inc C eX10_tunes_40 rfl c_iconst_1 h (fun z => [some (.ref 64), some (.int p1), some (.int z), none]) (fun _ => rfl) (fun x2_6 h => ?_)
        refine a_goto C eX10_tunes_43 ?_
        exact a_less (lle_same (lle_same (lle_same (lle_same lle_nil)))) (ih _ _ h)
      exact a_less (lle_same (lle_same (lle_same (lle_same lle_nil)))) (lX10_tunes_12  C R hk40_5 _ _ _ h)
theorem kX10_tunes {p1 : Int32} {σ : Sg} {rr : (Int32 × Sg)}  (h : XX10_tunes p1 σ = some rr) : Ci MX10_tunes [.ref 64, .int p1] (SHc ++ SHm) σ rr := by
  refine Ci.start rfl rfl (Nat.le_of_ble_eq_true rfl) ?_
  intro X ad C R
  replace C : Cx X cX10_tunes 4 RX10 (some .boolean) { frames := 8, cells := 0, slots := 0, locals := 183 } := C
  replace R : Ri X cX10_tunes (some .boolean) ad (SHc ++ SHm) rr := R
  show AW X 0 0 ad (SHc ++ SHm) σ 0 [some (.ref 64), some (.int p1), none, none] []
  rw [XX10_tunes] at h
  refine a_iconst C eX10_tunes_0 (0 : Int32) c_iconst_0 ?_
  refine a_ist_n C eX10_tunes_1 (Nat.le_of_ble_eq_true rfl) [some (.ref 64), some (.int p1), some (.int (0 : Int32)), none] rfl ?_
  exact a_less (lle_same (lle_same (lle_same (lle_same lle_nil)))) (lX10_tunes_2  C R  _ _ _ h)
/-! ShelfDrivesModel.betters(IZ)I -/
def LX10_betters_27 (p1 : Int32) (p2 : Int32) : Nat → Int32 → Int32 → Sg → Option (Int32 × Sg)
  | 0, _, _, _ => none
  | n + 1, x3_4, x4_5, σ_6 => if x4_5 = 0 then (some (x3_4, σ_6)) else (if p1 ≤ x3_4 then (some (x3_4, σ_6)) else (b2 (XX10_costNow σ_6) (fun (r_7 : Int32) (σ_8 : Sg) => lt (fun (s_9 : Int32) (σ_10 : Sg) => lt (fun (s_12 : Int32) => lt (x3_4 + s_12) (fun (x3_14 : Int32) => LX10_betters_27 p1 p2 n x3_14 s_9 σ_10)) (fun (k75_13 : Int32 → Option (Int32 × Sg)) => if s_9 = 0 then (k75_13 (0 : Int32)) else (k75_13 (1 : Int32)))) (fun (k62_11 : Int32 → Sg → Option (Int32 × Sg)) => if p2 = 0 then (b2 (XX10_tunes r_7 σ_8) (fun (r_15 : Int32) (σ_16 : Sg) => k62_11 r_15 σ_16)) else (b2 (XX10_moves r_7 σ_8) (fun (r_17 : Int32) (σ_18 : Sg) => k62_11 r_17 σ_18))))))
def XX10_betters (p1 : Int32) (p2 : Int32) (σ : Sg) : Option (Int32 × Sg) := b1 (XX10_in p1 (1 : Int32) (40 : Int32)) (fun (r_1 : Int32) => if r_1 = 0 then (some ((-1 : Int32), σ)) else (b1 (XX10_layAsked (100 : Int32) σ) (fun (σ_2 : Sg) => b1 (XX10_keep σ_2) (fun (σ_3 : Sg) => LX10_betters_27 p1 p2 FUEL (0 : Int32) (1 : Int32) σ_3))))
theorem lX10_betters_27 {X : CT} {ad : Nat → Nat} {rr : (Int32 × Sg)} {p1 : Int32} {p2 : Int32}  (C : Cx X cX10_betters 6 RX10 (some .int) { frames := 9, cells := 0, slots := 0, locals := 207 }) (R : Ri X cX10_betters (some .int) ad (SHc ++ SHm) rr)  : ∀ (n : Nat) (x3_4 : Int32) (x4_5 : Int32) (σ_6 : Sg), LX10_betters_27 p1 p2 n x3_4 x4_5 σ_6 = some rr → AW X 0 0 ad (SHc ++ SHm) σ_6 27 [some (.ref 64), some (.int p1), some (.int p2), some (.int x3_4), some (.int x4_5), none] [] := by
  intro n
  induction n with
  | zero =>
    intro x3_4 x4_5 σ_6 h
    rw [LX10_betters_27] at h
    cases h
  | succ n ih =>
    intro x3_4 x4_5 σ_6 h
    rw [LX10_betters_27] at h
    refine a_iload C eX10_betters_27 rfl ?_
    refine a_if_eq C eX10_betters_29 (fun hc => ?_) (fun hc => ?_)
    · replace h := it hc h
      refine a_iload_n C eX10_betters_80 rfl ?_
      exact rt_i R eX10_betters_81 h nb_int
    · replace h := ie hc h
      refine a_iload_n C eX10_betters_32 rfl ?_
      refine a_iload_n C eX10_betters_33 rfl ?_
      refine a_icmp_ge C eX10_betters_34 (fun hc => ?_) (fun hc => ?_)
      · replace h := it hc h
        refine a_iload_n C eX10_betters_80 rfl ?_
        exact rt_i R eX10_betters_81 h nb_int
      · replace h := ie hc h
        refine a_aload_n C eX10_betters_37 rfl ?_
        obtain ⟨r_7, σ_8, hq, h⟩ := b2_e h
        refine a_cVi0 C eX10_betters_38 wX10_320 ⟨Nat.le_of_ble_eq_true rfl, Nat.le_of_ble_eq_true rfl, rfl, rfl⟩ rfl sh_64 rfl (kX10_costNow hq) (Nat.le_of_ble_eq_true rfl) ?_
        refine a_ist C eX10_betters_41 (Nat.le_of_ble_eq_true rfl) [some (.ref 64), some (.int p1), some (.int p2), some (.int x3_4), some (.int x4_5), some (.int r_7)] rfl ?_
        refine a_iload_n C eX10_betters_43 rfl ?_
        refine jn (fun (kk : Int32 → Sg → Option (Int32 × Sg)) => ∀ (s_9 : Int32) (σ_10 : Sg), kk s_9 σ_10 = some rr → AW X 0 0 ad (SHc ++ SHm) σ_10 62 [some (.ref 64), some (.int p1), some (.int p2), some (.int x3_4), none, none] [.int s_9]) h ?_ (fun k62_11 hk62_11 h => ?_)
        · intro s_9 σ_10 h
          refine a_ist C eX10_betters_62 (Nat.le_of_ble_eq_true rfl) [some (.ref 64), some (.int p1), some (.int p2), some (.int x3_4), some (.int s_9), none] rfl ?_
          refine a_iload_n C eX10_betters_64 rfl ?_
          refine a_iload C eX10_betters_65 rfl ?_
          refine jn (fun (kk : Int32 → Option (Int32 × Sg)) => ∀ (s_12 : Int32), kk s_12 = some rr → AW X 0 0 ad (SHc ++ SHm) σ_10 75 [some (.ref 64), some (.int p1), some (.int p2), none, some (.int s_9), none] [.int s_12, .int x3_4]) h ?_ (fun k75_13 hk75_13 h => ?_)
          · intro s_12 h
            refine a_iadd C eX10_betters_75 ?_
            refine a_lt h (fun x3_14 h => ?_)
            refine a_ist_n C eX10_betters_76 (Nat.le_of_ble_eq_true rfl) [some (.ref 64), some (.int p1), some (.int p2), some (.int x3_14), some (.int s_9), none] rfl ?_
            refine a_goto C eX10_betters_77 ?_
            exact a_less (lle_same (lle_same (lle_same (lle_same (lle_same (lle_same lle_nil)))))) (ih _ _ _ h)
          refine a_if_eq C eX10_betters_67 (fun hc => ?_) (fun hc => ?_)
          · replace h := it hc h
            refine a_iconst C eX10_betters_74 (0 : Int32) c_iconst_0 ?_
            exact a_less (lle_same (lle_same (lle_same (lle_drop (lle_same (lle_same lle_nil)))))) (hk75_13 _ h)
          · replace h := ie hc h
            refine a_iconst C eX10_betters_70 (1 : Int32) c_iconst_1 ?_
            refine a_goto C eX10_betters_71 ?_
            exact a_less (lle_same (lle_same (lle_same (lle_drop (lle_same (lle_same lle_nil)))))) (hk75_13 _ h)
        refine a_if_eq C eX10_betters_44 (fun hc => ?_) (fun hc => ?_)
        · replace h := it hc h
          refine a_aload_n C eX10_betters_56 rfl ?_
          refine a_iload C eX10_betters_57 rfl ?_
          obtain ⟨r_15, σ_16, hq, h⟩ := b2_e h
          refine a_cVi1 C eX10_betters_59 wX10_357 ⟨Nat.le_of_ble_eq_true rfl, Nat.le_of_ble_eq_true rfl, rfl, rfl⟩ rfl sh_64 rfl (kX10_tunes hq) (Nat.le_of_ble_eq_true rfl) ?_
          exact a_less (lle_same (lle_same (lle_same (lle_same (lle_drop (lle_drop lle_nil)))))) (hk62_11 _ _ h)
        · replace h := ie hc h
          refine a_aload_n C eX10_betters_47 rfl ?_
          refine a_iload C eX10_betters_48 rfl ?_
          obtain ⟨r_17, σ_18, hq, h⟩ := b2_e h
          refine a_cVi1 C eX10_betters_50 wX10_354 ⟨Nat.le_of_ble_eq_true rfl, Nat.le_of_ble_eq_true rfl, rfl, rfl⟩ rfl sh_64 rfl (kX10_moves hq) (Nat.le_of_ble_eq_true rfl) ?_
          refine a_goto C eX10_betters_53 ?_
          exact a_less (lle_same (lle_same (lle_same (lle_same (lle_drop (lle_drop lle_nil)))))) (hk62_11 _ _ h)
theorem kX10_betters {p1 : Int32} {p2 : Int32} {σ : Sg} {rr : (Int32 × Sg)}  (h : XX10_betters p1 p2 σ = some rr) : Ci MX10_betters [.ref 64, .int p1, .int p2] (SHc ++ SHm) σ rr := by
  refine Ci.start rfl rfl (Nat.le_of_ble_eq_true rfl) ?_
  intro X ad C R
  replace C : Cx X cX10_betters 6 RX10 (some .int) { frames := 9, cells := 0, slots := 0, locals := 207 } := C
  replace R : Ri X cX10_betters (some .int) ad (SHc ++ SHm) rr := R
  show AW X 0 0 ad (SHc ++ SHm) σ 0 [some (.ref 64), some (.int p1), some (.int p2), none, none, none] []
  rw [XX10_betters] at h
  refine a_iload_n C eX10_betters_0 rfl ?_
  refine a_iconst C eX10_betters_1 (1 : Int32) c_iconst_1 ?_
  refine a_bipush C eX10_betters_2 (40 : Int32) c_bipush_40 ?_
  obtain ⟨r_1, hq, h⟩ := b1_e h
  refine a_cSi3 C eX10_betters_4 wX10_102 ⟨Nat.le_of_ble_eq_true rfl, Nat.le_of_ble_eq_true rfl, rfl, rfl⟩ rfl (kX10_in hq) (Nat.le_of_ble_eq_true rfl) ?_
  refine a_if_ne C eX10_betters_7 (fun hc => ?_) (fun hc => ?_)
  · replace h := ie hc h
    refine a_aload_n C eX10_betters_12 rfl ?_
    refine a_bipush C eX10_betters_13 (100 : Int32) c_bipush_100 ?_
    obtain ⟨σ_2, hq, h⟩ := b1_e h
    refine a_cVv1 C eX10_betters_15 wX10_250 ⟨Nat.le_of_ble_eq_true rfl, Nat.le_of_ble_eq_true rfl, rfl, rfl⟩ rfl sh_64 rfl (kX10_layAsked hq) (Nat.le_of_ble_eq_true rfl) ?_
    refine a_aload_n C eX10_betters_18 rfl ?_
    obtain ⟨σ_3, hq, h⟩ := b1_e h
    refine a_cVv0 C eX10_betters_19 wX10_338 ⟨Nat.le_of_ble_eq_true rfl, Nat.le_of_ble_eq_true rfl, rfl, rfl⟩ rfl sh_64 rfl (kX10_keep hq) (Nat.le_of_ble_eq_true rfl) ?_
    refine a_iconst C eX10_betters_22 (0 : Int32) c_iconst_0 ?_
    refine a_ist_n C eX10_betters_23 (Nat.le_of_ble_eq_true rfl) [some (.ref 64), some (.int p1), some (.int p2), some (.int (0 : Int32)), none, none] rfl ?_
    refine a_iconst C eX10_betters_24 (1 : Int32) c_iconst_1 ?_
    refine a_ist C eX10_betters_25 (Nat.le_of_ble_eq_true rfl) [some (.ref 64), some (.int p1), some (.int p2), some (.int (0 : Int32)), some (.int (1 : Int32)), none] rfl ?_
    exact a_less (lle_same (lle_same (lle_same (lle_same (lle_same (lle_same lle_nil)))))) (lX10_betters_27  C R  _ _ _ _ h)
  · replace h := it hc h
    refine a_iconst C eX10_betters_10 (-1 : Int32) c_iconst_m1 ?_
    exact rt_i R eX10_betters_11 h nb_int
/-! ShelfDrivesModel.wouldChange(Z)Z -/
def LX10_wouldChange_58 (s_6 : Int32) : Nat → Int32 → Sg → Option (Int32 × Sg)
  | 0, _, _ => none
  | n + 1, x4_9, σ_10 => if (6 : Int32) ≤ x4_9 then (if s_6 = 0 ∨ s_6 = 1 then some (s_6, σ_10) else none) else (if ib x4_9 6 then lt (up σ_10 78 x4_9.toNatClampNeg (σ_10 90 x4_9.toNatClampNeg)) (fun (σ_13 : Sg) => lt (x4_9 + (1 : Int32)) (fun (x4_14 : Int32) => LX10_wouldChange_58 s_6 n x4_14 σ_13)) else none)
def LX10_wouldChange_2 (k26_2 : Sg → Option (Int32 × Sg)) : Nat → Int32 → Sg → Option (Int32 × Sg)
  | 0, _, _ => none
  | n + 1, x2_19, σ_20 => if (6 : Int32) ≤ x2_19 then (k26_2 σ_20) else (if ib x2_19 6 then lt (up σ_20 90 x2_19.toNatClampNeg (σ_20 78 x2_19.toNatClampNeg)) (fun (σ_22 : Sg) => lt (x2_19 + (1 : Int32)) (fun (x2_23 : Int32) => LX10_wouldChange_2 k26_2 n x2_23 σ_22)) else none)
def XX10_wouldChange (p1 : Int32) (σ : Sg) : Option (Int32 × Sg) := lt (fun (σ_1 : Sg) => b1 (XX10_layAsked (100 : Int32) σ_1) (fun (σ_3 : Sg) => b2 (XX10_costNow σ_3) (fun (r_4 : Int32) (σ_5 : Sg) => lt (fun (s_6 : Int32) (σ_7 : Sg) => LX10_wouldChange_58 s_6 FUEL (0 : Int32) σ_7) (fun (k54_8 : Int32 → Sg → Option (Int32 × Sg)) => if p1 = 0 then (b2 (XX10_tunes r_4 σ_5) (fun (r_15 : Int32) (σ_16 : Sg) => k54_8 r_15 σ_16)) else (b2 (XX10_moves r_4 σ_5) (fun (r_17 : Int32) (σ_18 : Sg) => k54_8 r_17 σ_18)))))) (fun (k26_2 : Sg → Option (Int32 × Sg)) => LX10_wouldChange_2 k26_2 FUEL (0 : Int32) σ)
theorem lX10_wouldChange_58 {X : CT} {ad : Nat → Nat} {rr : (Int32 × Sg)} {s_6 : Int32}  (C : Cx X cX10_wouldChange 5 RX10 (some .boolean) { frames := 9, cells := 0, slots := 0, locals := 207 }) (R : Ri X cX10_wouldChange (some .boolean) ad (SHc ++ SHm) rr)  : ∀ (n : Nat) (x4_9 : Int32) (σ_10 : Sg), LX10_wouldChange_58 s_6 n x4_9 σ_10 = some rr → AW X 0 0 ad (SHc ++ SHm) σ_10 58 [some (.ref 64), none, none, some (.int s_6), some (.int x4_9)] [] := by
  intro n
  induction n with
  | zero =>
    intro x4_9 σ_10 h
    rw [LX10_wouldChange_58] at h
    cases h
  | succ n ih =>
    intro x4_9 σ_10 h
    rw [LX10_wouldChange_58] at h
    refine a_iload C eX10_wouldChange_58 rfl ?_
    refine a_bipush C eX10_wouldChange_60 (6 : Int32) c_bipush_6 ?_
    refine a_icmp_ge C eX10_wouldChange_62 (fun hc => ?_) (fun hc => ?_)
    · replace h := it hc h
      refine a_iload_n C eX10_wouldChange_85 rfl ?_
      obtain ⟨hn_11, h⟩ := gd h
      exact rt_i R eX10_wouldChange_86 h (nb_b hn_11)
    · replace h := ie hc h
      refine a_aload_n C eX10_wouldChange_65 rfl ?_
      refine a_getR C eX10_wouldChange_66 fX10_53 sh_64 rfl ?_
      refine a_iload C eX10_wouldChange_69 rfl ?_
      refine a_aload_n C eX10_wouldChange_71 rfl ?_
      refine a_getR C eX10_wouldChange_72 fX10_89 sh_64 rfl ?_
      refine a_iload C eX10_wouldChange_75 rfl ?_
      obtain ⟨hb_12, h⟩ := gd h
      refine a_iald C eX10_wouldChange_77 sh_90 hb_12 ?_
      refine a_iastL C eX10_wouldChange_78 sh_78 hb_12 h (fun σ_13 h => ?_)
      refine a_inc C eX10_wouldChange_79 rfl c_iconst_1 h (fun z => [some (.ref 64), none, none, some (.int s_6), some (.int z)]) (fun _ => rfl) (fun x4_14 h => ?_)
      refine a_goto C eX10_wouldChange_82 ?_
      exact a_less (lle_same (lle_same (lle_same (lle_same (lle_same lle_nil))))) (ih _ _ h)
theorem lX10_wouldChange_2 {X : CT} {ad : Nat → Nat} {rr : (Int32 × Sg)} {p1 : Int32} {k26_2 : Sg → Option (Int32 × Sg)}  (C : Cx X cX10_wouldChange 5 RX10 (some .boolean) { frames := 9, cells := 0, slots := 0, locals := 207 }) (R : Ri X cX10_wouldChange (some .boolean) ad (SHc ++ SHm) rr) (hk26_2 : ∀ (σ_1 : Sg), k26_2 σ_1 = some rr → AW X 0 0 ad (SHc ++ SHm) σ_1 26 [some (.ref 64), some (.int p1), none, none, none] []) : ∀ (n : Nat) (x2_19 : Int32) (σ_20 : Sg), LX10_wouldChange_2 k26_2 n x2_19 σ_20 = some rr → AW X 0 0 ad (SHc ++ SHm) σ_20 2 [some (.ref 64), some (.int p1), some (.int x2_19), none, none] [] := by
  intro n
  induction n with
  | zero =>
    intro x2_19 σ_20 h
    rw [LX10_wouldChange_2] at h
    cases h
  | succ n ih =>
    intro x2_19 σ_20 h
    rw [LX10_wouldChange_2] at h
    refine a_iload_n C eX10_wouldChange_2 rfl ?_
    refine a_bipush C eX10_wouldChange_3 (6 : Int32) c_bipush_6 ?_
    refine a_icmp_ge C eX10_wouldChange_5 (fun hc => ?_) (fun hc => ?_)
    · replace h := it hc h
      exact a_less (lle_same (lle_same (lle_drop (lle_same (lle_same lle_nil))))) (hk26_2 _ h)
    · replace h := ie hc h
      refine a_aload_n C eX10_wouldChange_8 rfl ?_
      refine a_getR C eX10_wouldChange_9 fX10_89 sh_64 rfl ?_
      refine a_iload_n C eX10_wouldChange_12 rfl ?_
      refine a_aload_n C eX10_wouldChange_13 rfl ?_
      refine a_getR C eX10_wouldChange_14 fX10_53 sh_64 rfl ?_
      refine a_iload_n C eX10_wouldChange_17 rfl ?_
      obtain ⟨hb_21, h⟩ := gd h
      refine a_iald C eX10_wouldChange_18 sh_78 hb_21 ?_
      refine a_iastL C eX10_wouldChange_19 sh_90 hb_21 h (fun σ_22 h => ?_)
      refine a_inc C eX10_wouldChange_20 rfl c_iconst_1 h (fun z => [some (.ref 64), some (.int p1), some (.int z), none, none]) (fun _ => rfl) (fun x2_23 h => ?_)
      refine a_goto C eX10_wouldChange_23 ?_
      exact a_less (lle_same (lle_same (lle_same (lle_same (lle_same lle_nil))))) (ih _ _ h)
theorem kX10_wouldChange {p1 : Int32} {σ : Sg} {rr : (Int32 × Sg)}  (h : XX10_wouldChange p1 σ = some rr) : Ci MX10_wouldChange [.ref 64, .int p1] (SHc ++ SHm) σ rr := by
  refine Ci.start rfl rfl (Nat.le_of_ble_eq_true rfl) ?_
  intro X ad C R
  replace C : Cx X cX10_wouldChange 5 RX10 (some .boolean) { frames := 9, cells := 0, slots := 0, locals := 207 } := C
  replace R : Ri X cX10_wouldChange (some .boolean) ad (SHc ++ SHm) rr := R
  show AW X 0 0 ad (SHc ++ SHm) σ 0 [some (.ref 64), some (.int p1), none, none, none] []
  rw [XX10_wouldChange] at h
  refine a_iconst C eX10_wouldChange_0 (0 : Int32) c_iconst_0 ?_
  refine a_ist_n C eX10_wouldChange_1 (Nat.le_of_ble_eq_true rfl) [some (.ref 64), some (.int p1), some (.int (0 : Int32)), none, none] rfl ?_
  refine jn (fun (kk : Sg → Option (Int32 × Sg)) => ∀ (σ_1 : Sg), kk σ_1 = some rr → AW X 0 0 ad (SHc ++ SHm) σ_1 26 [some (.ref 64), some (.int p1), none, none, none] []) h ?_ (fun k26_2 hk26_2 h => ?_)
  · intro σ_1 h
    refine a_aload_n C eX10_wouldChange_26 rfl ?_
    refine a_bipush C eX10_wouldChange_27 (100 : Int32) c_bipush_100 ?_
    obtain ⟨σ_3, hq, h⟩ := b1_e h
    refine a_cVv1 C eX10_wouldChange_29 wX10_250 ⟨Nat.le_of_ble_eq_true rfl, Nat.le_of_ble_eq_true rfl, rfl, rfl⟩ rfl sh_64 rfl (kX10_layAsked hq) (Nat.le_of_ble_eq_true rfl) ?_
    refine a_aload_n C eX10_wouldChange_32 rfl ?_
    obtain ⟨r_4, σ_5, hq, h⟩ := b2_e h
    refine a_cVi0 C eX10_wouldChange_33 wX10_320 ⟨Nat.le_of_ble_eq_true rfl, Nat.le_of_ble_eq_true rfl, rfl, rfl⟩ rfl sh_64 rfl (kX10_costNow hq) (Nat.le_of_ble_eq_true rfl) ?_
    refine a_ist_n C eX10_wouldChange_36 (Nat.le_of_ble_eq_true rfl) [some (.ref 64), some (.int p1), some (.int r_4), none, none] rfl ?_
    refine a_iload_n C eX10_wouldChange_37 rfl ?_
    refine jn (fun (kk : Int32 → Sg → Option (Int32 × Sg)) => ∀ (s_6 : Int32) (σ_7 : Sg), kk s_6 σ_7 = some rr → AW X 0 0 ad (SHc ++ SHm) σ_7 54 [some (.ref 64), none, none, none, none] [.int s_6]) h ?_ (fun k54_8 hk54_8 h => ?_)
    · intro s_6 σ_7 h
      refine a_ist_n C eX10_wouldChange_54 (Nat.le_of_ble_eq_true rfl) [some (.ref 64), none, none, some (.int s_6), none] rfl ?_
      refine a_iconst C eX10_wouldChange_55 (0 : Int32) c_iconst_0 ?_
      refine a_ist C eX10_wouldChange_56 (Nat.le_of_ble_eq_true rfl) [some (.ref 64), none, none, some (.int s_6), some (.int (0 : Int32))] rfl ?_
      exact a_less (lle_same (lle_same (lle_same (lle_same (lle_same lle_nil))))) (lX10_wouldChange_58  C R  _ _ _ h)
    refine a_if_eq C eX10_wouldChange_38 (fun hc => ?_) (fun hc => ?_)
    · replace h := it hc h
      refine a_aload_n C eX10_wouldChange_49 rfl ?_
      refine a_iload_n C eX10_wouldChange_50 rfl ?_
      obtain ⟨r_15, σ_16, hq, h⟩ := b2_e h
      refine a_cVi1 C eX10_wouldChange_51 wX10_357 ⟨Nat.le_of_ble_eq_true rfl, Nat.le_of_ble_eq_true rfl, rfl, rfl⟩ rfl sh_64 rfl (kX10_tunes hq) (Nat.le_of_ble_eq_true rfl) ?_
      exact a_less (lle_same (lle_drop (lle_drop (lle_same (lle_same lle_nil))))) (hk54_8 _ _ h)
    · replace h := ie hc h
      refine a_aload_n C eX10_wouldChange_41 rfl ?_
      refine a_iload_n C eX10_wouldChange_42 rfl ?_
      obtain ⟨r_17, σ_18, hq, h⟩ := b2_e h
      refine a_cVi1 C eX10_wouldChange_43 wX10_354 ⟨Nat.le_of_ble_eq_true rfl, Nat.le_of_ble_eq_true rfl, rfl, rfl⟩ rfl sh_64 rfl (kX10_moves hq) (Nat.le_of_ble_eq_true rfl) ?_
      refine a_goto C eX10_wouldChange_46 ?_
      exact a_less (lle_same (lle_drop (lle_drop (lle_same (lle_same lle_nil))))) (hk54_8 _ _ h)
  exact a_less (lle_same (lle_same (lle_same (lle_same (lle_same lle_nil))))) (lX10_wouldChange_2  C R hk26_2 _ _ _ h)
/-! ShelfDrivesModel.better(I)I -/
def XX10_better (p1 : Int32) (σ : Sg) : Option (Int32 × Sg) := lt (up σ 64 0 (0 : Int32)) (fun (σ_1 : Sg) => b1 (XX10_in p1 (1 : Int32) (40 : Int32)) (fun (r_2 : Int32) => lt (fun (σ_3 : Sg) => b1 (XX10_in p1 (1 : Int32) (40 : Int32)) (fun (r_5 : Int32) => if r_5 = 0 then (some ((-1 : Int32), σ_3)) else (some ((0 : Int32), σ_3)))) (fun (k23_4 : Sg → Option (Int32 × Sg)) => if r_2 = 0 then (k23_4 σ_1) else (b2 (XX10_wouldChange (1 : Int32) σ_1) (fun (r_6 : Int32) (σ_7 : Sg) => if r_6 = 0 then (k23_4 σ_7) else (b2 (XX10_betters p1 (1 : Int32) σ_7) (fun (r_8 : Int32) (σ_9 : Sg) => some (r_8, σ_9))))))))
theorem kX10_better {p1 : Int32} {σ : Sg} {rr : (Int32 × Sg)}  (h : XX10_better p1 σ = some rr) : Ci MX10_better [.ref 64, .int p1] (SHc ++ SHm) σ rr := by
  refine Ci.start rfl rfl (Nat.le_of_ble_eq_true rfl) ?_
  intro X ad C R
  replace C : Cx X cX10_better 2 RX10 (some .int) { frames := 10, cells := 0, slots := 0, locals := 232 } := C
  replace R : Ri X cX10_better (some .int) ad (SHc ++ SHm) rr := R
  show AW X 0 0 ad (SHc ++ SHm) σ 0 [some (.ref 64), some (.int p1)] []
  rw [XX10_better] at h
  refine a_aload_n C eX10_better_0 rfl ?_
  refine a_iconst C eX10_better_1 (0 : Int32) c_iconst_0 ?_
  refine a_putIL C eX10_better_2 fX10_95 ftyX10 rfl rfl sh_64 rfl h (fun σ_1 h => ?_)
  refine a_iload_n C eX10_better_5 rfl ?_
  refine a_iconst C eX10_better_6 (1 : Int32) c_iconst_1 ?_
  refine a_bipush C eX10_better_7 (40 : Int32) c_bipush_40 ?_
  obtain ⟨r_2, hq, h⟩ := b1_e h
  refine a_cSi3 C eX10_better_9 wX10_102 ⟨Nat.le_of_ble_eq_true rfl, Nat.le_of_ble_eq_true rfl, rfl, rfl⟩ rfl (kX10_in hq) (Nat.le_of_ble_eq_true rfl) ?_
  refine jn (fun (kk : Sg → Option (Int32 × Sg)) => ∀ (σ_3 : Sg), kk σ_3 = some rr → AW X 0 0 ad (SHc ++ SHm) σ_3 23 [none, some (.int p1)] []) h ?_ (fun k23_4 hk23_4 h => ?_)
  · intro σ_3 h
    refine a_iload_n C eX10_better_23 rfl ?_
    refine a_iconst C eX10_better_24 (1 : Int32) c_iconst_1 ?_
    refine a_bipush C eX10_better_25 (40 : Int32) c_bipush_40 ?_
    obtain ⟨r_5, hq, h⟩ := b1_e h
    refine a_cSi3 C eX10_better_27 wX10_102 ⟨Nat.le_of_ble_eq_true rfl, Nat.le_of_ble_eq_true rfl, rfl, rfl⟩ rfl (kX10_in hq) (Nat.le_of_ble_eq_true rfl) ?_
    refine a_if_eq C eX10_better_30 (fun hc => ?_) (fun hc => ?_)
    · replace h := it hc h
      refine a_iconst C eX10_better_37 (-1 : Int32) c_iconst_m1 ?_
      exact rt_i R eX10_better_38 h nb_int
    · replace h := ie hc h
      refine a_iconst C eX10_better_33 (0 : Int32) c_iconst_0 ?_
      refine a_goto C eX10_better_34 ?_
      exact rt_i R eX10_better_38 h nb_int
  refine a_if_eq C eX10_better_12 (fun hc => ?_) (fun hc => ?_)
  · replace h := it hc h
    exact a_less (lle_drop (lle_same lle_nil)) (hk23_4 _ h)
  · replace h := ie hc h
    refine a_aload_n C eX10_better_15 rfl ?_
    refine a_iconst C eX10_better_16 (1 : Int32) c_iconst_1 ?_
    obtain ⟨r_6, σ_7, hq, h⟩ := b2_e h
    refine a_cVi1 C eX10_better_17 wX10_360 ⟨Nat.le_of_ble_eq_true rfl, Nat.le_of_ble_eq_true rfl, rfl, rfl⟩ rfl sh_64 rfl (kX10_wouldChange hq) (Nat.le_of_ble_eq_true rfl) ?_
    refine a_if_ne C eX10_better_20 (fun hc => ?_) (fun hc => ?_)
    · replace h := ie hc h
      refine a_aload_n C eX10_better_39 rfl ?_
      refine a_iload_n C eX10_better_40 rfl ?_
      refine a_iconst C eX10_better_41 (1 : Int32) c_iconst_1 ?_
      obtain ⟨r_8, σ_9, hq, h⟩ := b2_e h
      refine a_cVi2 C eX10_better_42 wX10_364 ⟨Nat.le_of_ble_eq_true rfl, Nat.le_of_ble_eq_true rfl, rfl, rfl⟩ rfl sh_64 rfl (kX10_betters hq) (Nat.le_of_ble_eq_true rfl) ?_
      exact rt_i R eX10_better_45 h nb_int
    · replace h := it hc h
      exact a_less (lle_drop (lle_same lle_nil)) (hk23_4 _ h)
/-! ShelfDrivesModel.tune(I)I -/
def XX10_tune (p1 : Int32) (σ : Sg) : Option (Int32 × Sg) := lt (up σ 64 0 (0 : Int32)) (fun (σ_1 : Sg) => b1 (XX10_in p1 (1 : Int32) (40 : Int32)) (fun (r_2 : Int32) => lt (fun (σ_3 : Sg) => b1 (XX10_in p1 (1 : Int32) (40 : Int32)) (fun (r_5 : Int32) => if r_5 = 0 then (some ((-1 : Int32), σ_3)) else (some ((0 : Int32), σ_3)))) (fun (k23_4 : Sg → Option (Int32 × Sg)) => if r_2 = 0 then (k23_4 σ_1) else (b2 (XX10_wouldChange (0 : Int32) σ_1) (fun (r_6 : Int32) (σ_7 : Sg) => if r_6 = 0 then (k23_4 σ_7) else (b2 (XX10_betters p1 (0 : Int32) σ_7) (fun (r_8 : Int32) (σ_9 : Sg) => some (r_8, σ_9))))))))
theorem kX10_tune {p1 : Int32} {σ : Sg} {rr : (Int32 × Sg)}  (h : XX10_tune p1 σ = some rr) : Ci MX10_tune [.ref 64, .int p1] (SHc ++ SHm) σ rr := by
  refine Ci.start rfl rfl (Nat.le_of_ble_eq_true rfl) ?_
  intro X ad C R
  replace C : Cx X cX10_tune 2 RX10 (some .int) { frames := 10, cells := 0, slots := 0, locals := 232 } := C
  replace R : Ri X cX10_tune (some .int) ad (SHc ++ SHm) rr := R
  show AW X 0 0 ad (SHc ++ SHm) σ 0 [some (.ref 64), some (.int p1)] []
  rw [XX10_tune] at h
  refine a_aload_n C eX10_tune_0 rfl ?_
  refine a_iconst C eX10_tune_1 (0 : Int32) c_iconst_0 ?_
  refine a_putIL C eX10_tune_2 fX10_95 ftyX10 rfl rfl sh_64 rfl h (fun σ_1 h => ?_)
  refine a_iload_n C eX10_tune_5 rfl ?_
  refine a_iconst C eX10_tune_6 (1 : Int32) c_iconst_1 ?_
  refine a_bipush C eX10_tune_7 (40 : Int32) c_bipush_40 ?_
  obtain ⟨r_2, hq, h⟩ := b1_e h
  refine a_cSi3 C eX10_tune_9 wX10_102 ⟨Nat.le_of_ble_eq_true rfl, Nat.le_of_ble_eq_true rfl, rfl, rfl⟩ rfl (kX10_in hq) (Nat.le_of_ble_eq_true rfl) ?_
  refine jn (fun (kk : Sg → Option (Int32 × Sg)) => ∀ (σ_3 : Sg), kk σ_3 = some rr → AW X 0 0 ad (SHc ++ SHm) σ_3 23 [none, some (.int p1)] []) h ?_ (fun k23_4 hk23_4 h => ?_)
  · intro σ_3 h
    refine a_iload_n C eX10_tune_23 rfl ?_
    refine a_iconst C eX10_tune_24 (1 : Int32) c_iconst_1 ?_
    refine a_bipush C eX10_tune_25 (40 : Int32) c_bipush_40 ?_
    obtain ⟨r_5, hq, h⟩ := b1_e h
    refine a_cSi3 C eX10_tune_27 wX10_102 ⟨Nat.le_of_ble_eq_true rfl, Nat.le_of_ble_eq_true rfl, rfl, rfl⟩ rfl (kX10_in hq) (Nat.le_of_ble_eq_true rfl) ?_
    refine a_if_eq C eX10_tune_30 (fun hc => ?_) (fun hc => ?_)
    · replace h := it hc h
      refine a_iconst C eX10_tune_37 (-1 : Int32) c_iconst_m1 ?_
      exact rt_i R eX10_tune_38 h nb_int
    · replace h := ie hc h
      refine a_iconst C eX10_tune_33 (0 : Int32) c_iconst_0 ?_
      refine a_goto C eX10_tune_34 ?_
      exact rt_i R eX10_tune_38 h nb_int
  refine a_if_eq C eX10_tune_12 (fun hc => ?_) (fun hc => ?_)
  · replace h := it hc h
    exact a_less (lle_drop (lle_same lle_nil)) (hk23_4 _ h)
  · replace h := ie hc h
    refine a_aload_n C eX10_tune_15 rfl ?_
    refine a_iconst C eX10_tune_16 (0 : Int32) c_iconst_0 ?_
    obtain ⟨r_6, σ_7, hq, h⟩ := b2_e h
    refine a_cVi1 C eX10_tune_17 wX10_360 ⟨Nat.le_of_ble_eq_true rfl, Nat.le_of_ble_eq_true rfl, rfl, rfl⟩ rfl sh_64 rfl (kX10_wouldChange hq) (Nat.le_of_ble_eq_true rfl) ?_
    refine a_if_ne C eX10_tune_20 (fun hc => ?_) (fun hc => ?_)
    · replace h := ie hc h
      refine a_aload_n C eX10_tune_39 rfl ?_
      refine a_iload_n C eX10_tune_40 rfl ?_
      refine a_iconst C eX10_tune_41 (0 : Int32) c_iconst_0 ?_
      obtain ⟨r_8, σ_9, hq, h⟩ := b2_e h
      refine a_cVi2 C eX10_tune_42 wX10_364 ⟨Nat.le_of_ble_eq_true rfl, Nat.le_of_ble_eq_true rfl, rfl, rfl⟩ rfl sh_64 rfl (kX10_betters hq) (Nat.le_of_ble_eq_true rfl) ?_
      exact rt_i R eX10_tune_45 h nb_int
    · replace h := it hc h
      exact a_less (lle_drop (lle_same lle_nil)) (hk23_4 _ h)
/-! ShelfDrivesModel.plan(I)V -/
def LX10_plan_2 (p1 : Int32) : Nat → Int32 → Sg → Option Sg
  | 0, _, _ => none
  | n + 1, x2_1, σ_2 => b1 (XX10_shops σ_2) (fun (r_3 : Int32) => if r_3 ≤ x2_1 then (some σ_2) else (b1 (XX10_days σ_2) (fun (r_4 : Int32) => b1 (XX10_days σ_2) (fun (r_5 : Int32) => if ib x2_1 6 then lt (up σ_2 78 x2_1.toNatClampNeg ((p1 >>> ((r_4 * x2_1) &&& 31)) &&& (((1 : Int32) <<< (r_5 &&& 31)) - (1 : Int32)))) (fun (σ_6 : Sg) => lt (x2_1 + (1 : Int32)) (fun (x2_8 : Int32) => LX10_plan_2 p1 n x2_8 σ_6)) else none))))
def XX10_plan (p1 : Int32) (σ : Sg) : Option Sg := LX10_plan_2 p1 FUEL (0 : Int32) σ
theorem lX10_plan_2 {X : CT} {ad : Nat → Nat} {rr : Sg} {p1 : Int32}  (C : Cx X cX10_plan 3 RX10 none { frames := 1, cells := 0, slots := 0, locals := 20 }) (R : Rv X cX10_plan ad (SHc ++ SHm) rr)  : ∀ (n : Nat) (x2_1 : Int32) (σ_2 : Sg), LX10_plan_2 p1 n x2_1 σ_2 = some rr → AW X 0 0 ad (SHc ++ SHm) σ_2 2 [some (.ref 64), some (.int p1), some (.int x2_1)] [] := by
  intro n
  induction n with
  | zero =>
    intro x2_1 σ_2 h
    rw [LX10_plan_2] at h
    cases h
  | succ n ih =>
    intro x2_1 σ_2 h
    rw [LX10_plan_2] at h
    refine a_iload_n C eX10_plan_2 rfl ?_
    refine a_aload_n C eX10_plan_3 rfl ?_
    obtain ⟨r_3, hq, h⟩ := b1_e h
    refine a_cVi0 C eX10_plan_4 wX10_98 ⟨Nat.le_of_ble_eq_true rfl, Nat.le_of_ble_eq_true rfl, rfl, rfl⟩ rfl sh_64 rfl (kX10_shops hq) (Nat.le_of_ble_eq_true rfl) ?_
    refine a_icmp_ge C eX10_plan_7 (fun hc => ?_) (fun hc => ?_)
    · replace h := it hc h
      exact rt_v R eX10_plan_39 h
    · replace h := ie hc h
      refine a_aload_n C eX10_plan_10 rfl ?_
      refine a_getR C eX10_plan_11 fX10_53 sh_64 rfl ?_
      refine a_iload_n C eX10_plan_14 rfl ?_
      refine a_iload_n C eX10_plan_15 rfl ?_
      refine a_aload_n C eX10_plan_16 rfl ?_
      obtain ⟨r_4, hq, h⟩ := b1_e h
      refine a_cVi0 C eX10_plan_17 wX10_106 ⟨Nat.le_of_ble_eq_true rfl, Nat.le_of_ble_eq_true rfl, rfl, rfl⟩ rfl sh_64 rfl (kX10_days hq) (Nat.le_of_ble_eq_true rfl) ?_
      refine a_iload_n C eX10_plan_20 rfl ?_
      refine a_imul C eX10_plan_21 ?_
      refine a_ishr C eX10_plan_22 ?_
      refine a_iconst C eX10_plan_23 (1 : Int32) c_iconst_1 ?_
      refine a_aload_n C eX10_plan_24 rfl ?_
      obtain ⟨r_5, hq, h⟩ := b1_e h
      refine a_cVi0 C eX10_plan_25 wX10_106 ⟨Nat.le_of_ble_eq_true rfl, Nat.le_of_ble_eq_true rfl, rfl, rfl⟩ rfl sh_64 rfl (kX10_days hq) (Nat.le_of_ble_eq_true rfl) ?_
      refine a_ishl C eX10_plan_28 ?_
      refine a_iconst C eX10_plan_29 (1 : Int32) c_iconst_1 ?_
      refine a_isub C eX10_plan_30 ?_
      refine a_iand C eX10_plan_31 ?_
      obtain ⟨hb_7, h⟩ := gd h
      refine a_iastL C eX10_plan_32 sh_78 hb_7 h (fun σ_6 h => ?_)
      refine a_inc C eX10_plan_33 rfl c_iconst_1 h (fun z => [some (.ref 64), some (.int p1), some (.int z)]) (fun _ => rfl) (fun x2_8 h => ?_)
      refine a_goto C eX10_plan_36 ?_
      exact a_less (lle_same (lle_same (lle_same lle_nil))) (ih _ _ h)
theorem kX10_plan {p1 : Int32} {σ : Sg} {rr : Sg}  (h : XX10_plan p1 σ = some rr) : Cv MX10_plan [.ref 64, .int p1] (SHc ++ SHm) σ rr := by
  refine Cv.start rfl rfl (Nat.le_of_ble_eq_true rfl) rfl ?_
  intro X ad C R
  replace C : Cx X cX10_plan 3 RX10 none { frames := 1, cells := 0, slots := 0, locals := 20 } := C
  replace R : Rv X cX10_plan ad (SHc ++ SHm) rr := R
  show AW X 0 0 ad (SHc ++ SHm) σ 0 [some (.ref 64), some (.int p1), none] []
  rw [XX10_plan] at h
  refine a_iconst C eX10_plan_0 (0 : Int32) c_iconst_0 ?_
  refine a_ist_n C eX10_plan_1 (Nat.le_of_ble_eq_true rfl) [some (.ref 64), some (.int p1), some (.int (0 : Int32))] rfl ?_
  exact a_less (lle_same (lle_same (lle_same lle_nil))) (lX10_plan_2  C R  _ _ _ h)
/-! ShelfDrivesModel.least()I -/
def LX10_least_37 (k101_9 : Int32 → Int32 → Sg → Option (Int32 × Sg)) : Nat → Int32 → Int32 → Int32 → Sg → Option (Int32 × Sg)
  | 0, _, _, _, _ => none
  | n + 1, x1_11, x2_12, x3_13, σ_14 => b1 (XX10_shops σ_14) (fun (r_15 : Int32) => b1 (XX10_days σ_14) (fun (r_16 : Int32) => if ((1 : Int32) <<< ((r_15 * r_16) &&& 31)) ≤ x3_13 then (k101_9 x1_11 x2_12 σ_14) else (b1 (XX10_plan x3_13 σ_14) (fun (σ_17 : Sg) => b2 (XX10_costNow σ_17) (fun (r_18 : Int32) (σ_19 : Sg) => lt (fun (x1_20 : Int32) (x2_21 : Int32) => lt (x3_13 + (1 : Int32)) (fun (x3_23 : Int32) => LX10_least_37 k101_9 n x1_20 x2_21 x3_23 σ_19)) (fun (k95_22 : Int32 → Int32 → Option (Int32 × Sg)) => lt (k95_22 x3_13 r_18) (fun (k90_24 : Option (Int32 × Sg)) => if x2_12 < 0 then (k90_24) else (if r_18 < x2_12 then (k90_24) else (if r_18 = x2_12 then (b1 (XX10_bits x3_13) (fun (r_25 : Int32) => b1 (XX10_bits x1_11) (fun (r_26 : Int32) => if r_26 ≤ r_25 then (k95_22 x1_11 x2_12) else (k90_24)))) else (k95_22 x1_11 x2_12))))))))))
def XX10_least (σ : Sg) : Option (Int32 × Sg) := lt (up σ 64 0 (0 : Int32)) (fun (σ_1 : Sg) => b1 (XX10_shops σ_1) (fun (r_2 : Int32) => b1 (XX10_days σ_1) (fun (r_3 : Int32) => if (r_2 * r_3) ≤ (14 : Int32) then (b1 (XX10_keep σ_1) (fun (σ_4 : Sg) => b1 (XX10_layAsked (100 : Int32) σ_4) (fun (σ_5 : Sg) => lt (fun (x1_6 : Int32) (x2_7 : Int32) (σ_8 : Sg) => b1 (XX10_plan x1_6 σ_8) (fun (σ_10 : Sg) => some (x2_7, σ_10))) (fun (k101_9 : Int32 → Int32 → Sg → Option (Int32 × Sg)) => LX10_least_37 k101_9 FUEL (0 : Int32) (-1 : Int32) (0 : Int32) σ_5)))) else (some ((-1 : Int32), σ_1)))))
theorem lX10_least_37 {X : CT} {ad : Nat → Nat} {rr : (Int32 × Sg)} {k101_9 : Int32 → Int32 → Sg → Option (Int32 × Sg)}  (C : Cx X cX10_least 5 RX10 (some .int) { frames := 7, cells := 0, slots := 0, locals := 160 }) (R : Ri X cX10_least (some .int) ad (SHc ++ SHm) rr) (hk101_9 : ∀ (x1_6 : Int32) (x2_7 : Int32) (σ_8 : Sg), k101_9 x1_6 x2_7 σ_8 = some rr → AW X 0 0 ad (SHc ++ SHm) σ_8 101 [some (.ref 64), some (.int x1_6), some (.int x2_7), none, none] []) : ∀ (n : Nat) (x1_11 : Int32) (x2_12 : Int32) (x3_13 : Int32) (σ_14 : Sg), LX10_least_37 k101_9 n x1_11 x2_12 x3_13 σ_14 = some rr → AW X 0 0 ad (SHc ++ SHm) σ_14 37 [some (.ref 64), some (.int x1_11), some (.int x2_12), some (.int x3_13), none] [] := by
  intro n
  induction n with
  | zero =>
    intro x1_11 x2_12 x3_13 σ_14 h
    rw [LX10_least_37] at h
    cases h
  | succ n ih =>
    intro x1_11 x2_12 x3_13 σ_14 h
    rw [LX10_least_37] at h
    refine a_iload_n C eX10_least_37 rfl ?_
    refine a_iconst C eX10_least_38 (1 : Int32) c_iconst_1 ?_
    refine a_aload_n C eX10_least_39 rfl ?_
    obtain ⟨r_15, hq, h⟩ := b1_e h
    refine a_cVi0 C eX10_least_40 wX10_98 ⟨Nat.le_of_ble_eq_true rfl, Nat.le_of_ble_eq_true rfl, rfl, rfl⟩ rfl sh_64 rfl (kX10_shops hq) (Nat.le_of_ble_eq_true rfl) ?_
    refine a_aload_n C eX10_least_43 rfl ?_
    obtain ⟨r_16, hq, h⟩ := b1_e h
    refine a_cVi0 C eX10_least_44 wX10_106 ⟨Nat.le_of_ble_eq_true rfl, Nat.le_of_ble_eq_true rfl, rfl, rfl⟩ rfl sh_64 rfl (kX10_days hq) (Nat.le_of_ble_eq_true rfl) ?_
    refine a_imul C eX10_least_47 ?_
    refine a_ishl C eX10_least_48 ?_
    refine a_icmp_ge C eX10_least_49 (fun hc => ?_) (fun hc => ?_)
    · replace h := it hc h
      exact a_less (lle_same (lle_same (lle_same (lle_drop (lle_same lle_nil))))) (hk101_9 _ _ _ h)
    · replace h := ie hc h
      refine a_aload_n C eX10_least_52 rfl ?_
      refine a_iload_n C eX10_least_53 rfl ?_
      obtain ⟨σ_17, hq, h⟩ := b1_e h
      refine a_cVv1 C eX10_least_54 wX10_368 ⟨Nat.le_of_ble_eq_true rfl, Nat.le_of_ble_eq_true rfl, rfl, rfl⟩ rfl sh_64 rfl (kX10_plan hq) (Nat.le_of_ble_eq_true rfl) ?_
      refine a_aload_n C eX10_least_57 rfl ?_
      obtain ⟨r_18, σ_19, hq, h⟩ := b2_e h
      refine a_cVi0 C eX10_least_58 wX10_320 ⟨Nat.le_of_ble_eq_true rfl, Nat.le_of_ble_eq_true rfl, rfl, rfl⟩ rfl sh_64 rfl (kX10_costNow hq) (Nat.le_of_ble_eq_true rfl) ?_
      refine a_ist C eX10_least_61 (Nat.le_of_ble_eq_true rfl) [some (.ref 64), some (.int x1_11), some (.int x2_12), some (.int x3_13), some (.int r_18)] rfl ?_
      refine a_iload_n C eX10_least_63 rfl ?_
      refine jn (fun (kk : Int32 → Int32 → Option (Int32 × Sg)) => ∀ (x1_20 : Int32) (x2_21 : Int32), kk x1_20 x2_21 = some rr → AW X 0 0 ad (SHc ++ SHm) σ_19 95 [some (.ref 64), some (.int x1_20), some (.int x2_21), some (.int x3_13), none] []) h ?_ (fun k95_22 hk95_22 h => ?_)
      · intro x1_20 x2_21 h
        refine a_inc C eX10_least_95 rfl c_iconst_1 h (fun z => [some (.ref 64), some (.int x1_20), some (.int x2_21), some (.int z), none]) (fun _ => rfl) (fun x3_23 h => ?_)
        refine a_goto C eX10_least_98 ?_
        exact a_less (lle_same (lle_same (lle_same (lle_same (lle_same lle_nil))))) (ih _ _ _ _ h)
      refine jn (fun (kk : Option (Int32 × Sg)) => kk = some rr → AW X 0 0 ad (SHc ++ SHm) σ_19 90 [some (.ref 64), none, none, some (.int x3_13), some (.int r_18)] []) h ?_ (fun k90_24 hk90_24 h => ?_)
      · intro h
        refine a_iload_n C eX10_least_90 rfl ?_
        refine a_ist_n C eX10_least_91 (Nat.le_of_ble_eq_true rfl) [some (.ref 64), some (.int x3_13), none, some (.int x3_13), some (.int r_18)] rfl ?_
        refine a_iload C eX10_least_92 rfl ?_
        refine a_ist_n C eX10_least_94 (Nat.le_of_ble_eq_true rfl) [some (.ref 64), some (.int x3_13), some (.int r_18), some (.int x3_13), some (.int r_18)] rfl ?_
        exact a_less (lle_same (lle_same (lle_same (lle_same (lle_drop lle_nil))))) (hk95_22 _ _ h)
      refine a_if_lt C eX10_least_64 (fun hc => ?_) (fun hc => ?_)
      · replace h := it hc h
        exact a_less (lle_same (lle_drop (lle_drop (lle_same (lle_same lle_nil))))) (hk90_24 h)
      · replace h := ie hc h
        refine a_iload C eX10_least_67 rfl ?_
        refine a_iload_n C eX10_least_69 rfl ?_
        refine a_icmp_lt C eX10_least_70 (fun hc => ?_) (fun hc => ?_)
        · replace h := it hc h
          exact a_less (lle_same (lle_drop (lle_drop (lle_same (lle_same lle_nil))))) (hk90_24 h)
        · replace h := ie hc h
          refine a_iload C eX10_least_73 rfl ?_
          refine a_iload_n C eX10_least_75 rfl ?_
          refine a_icmp_ne C eX10_least_76 (fun hc => ?_) (fun hc => ?_)
          · replace h := ie hc h
            exact a_less (lle_same (lle_same (lle_same (lle_same (lle_drop lle_nil))))) (hk95_22 _ _ h)
          · replace h := it hc h
            refine a_iload_n C eX10_least_79 rfl ?_
            obtain ⟨r_25, hq, h⟩ := b1_e h
            refine a_cSi1 C eX10_least_80 wX10_290 ⟨Nat.le_of_ble_eq_true rfl, Nat.le_of_ble_eq_true rfl, rfl, rfl⟩ rfl (kX10_bits hq) (Nat.le_of_ble_eq_true rfl) ?_
            refine a_iload_n C eX10_least_83 rfl ?_
            obtain ⟨r_26, hq, h⟩ := b1_e h
            refine a_cSi1 C eX10_least_84 wX10_290 ⟨Nat.le_of_ble_eq_true rfl, Nat.le_of_ble_eq_true rfl, rfl, rfl⟩ rfl (kX10_bits hq) (Nat.le_of_ble_eq_true rfl) ?_
            refine a_icmp_ge C eX10_least_87 (fun hc => ?_) (fun hc => ?_)
            · replace h := it hc h
              exact a_less (lle_same (lle_same (lle_same (lle_same (lle_drop lle_nil))))) (hk95_22 _ _ h)
            · replace h := ie hc h
              exact a_less (lle_same (lle_drop (lle_drop (lle_same (lle_same lle_nil))))) (hk90_24 h)
theorem kX10_least {σ : Sg} {rr : (Int32 × Sg)}  (h : XX10_least σ = some rr) : Ci MX10_least [.ref 64] (SHc ++ SHm) σ rr := by
  refine Ci.start rfl rfl (Nat.le_of_ble_eq_true rfl) ?_
  intro X ad C R
  replace C : Cx X cX10_least 5 RX10 (some .int) { frames := 7, cells := 0, slots := 0, locals := 160 } := C
  replace R : Ri X cX10_least (some .int) ad (SHc ++ SHm) rr := R
  show AW X 0 0 ad (SHc ++ SHm) σ 0 [some (.ref 64), none, none, none, none] []
  rw [XX10_least] at h
  refine a_aload_n C eX10_least_0 rfl ?_
  refine a_iconst C eX10_least_1 (0 : Int32) c_iconst_0 ?_
  refine a_putIL C eX10_least_2 fX10_95 ftyX10 rfl rfl sh_64 rfl h (fun σ_1 h => ?_)
  refine a_aload_n C eX10_least_5 rfl ?_
  obtain ⟨r_2, hq, h⟩ := b1_e h
  refine a_cVi0 C eX10_least_6 wX10_98 ⟨Nat.le_of_ble_eq_true rfl, Nat.le_of_ble_eq_true rfl, rfl, rfl⟩ rfl sh_64 rfl (kX10_shops hq) (Nat.le_of_ble_eq_true rfl) ?_
  refine a_aload_n C eX10_least_9 rfl ?_
  obtain ⟨r_3, hq, h⟩ := b1_e h
  refine a_cVi0 C eX10_least_10 wX10_106 ⟨Nat.le_of_ble_eq_true rfl, Nat.le_of_ble_eq_true rfl, rfl, rfl⟩ rfl sh_64 rfl (kX10_days hq) (Nat.le_of_ble_eq_true rfl) ?_
  refine a_imul C eX10_least_13 ?_
  refine a_bipush C eX10_least_14 (14 : Int32) c_bipush_14 ?_
  refine a_icmp_le C eX10_least_16 (fun hc => ?_) (fun hc => ?_)
  · replace h := it hc h
    refine a_aload_n C eX10_least_21 rfl ?_
    obtain ⟨σ_4, hq, h⟩ := b1_e h
    refine a_cVv0 C eX10_least_22 wX10_338 ⟨Nat.le_of_ble_eq_true rfl, Nat.le_of_ble_eq_true rfl, rfl, rfl⟩ rfl sh_64 rfl (kX10_keep hq) (Nat.le_of_ble_eq_true rfl) ?_
    refine a_aload_n C eX10_least_25 rfl ?_
    refine a_bipush C eX10_least_26 (100 : Int32) c_bipush_100 ?_
    obtain ⟨σ_5, hq, h⟩ := b1_e h
    refine a_cVv1 C eX10_least_28 wX10_250 ⟨Nat.le_of_ble_eq_true rfl, Nat.le_of_ble_eq_true rfl, rfl, rfl⟩ rfl sh_64 rfl (kX10_layAsked hq) (Nat.le_of_ble_eq_true rfl) ?_
    refine a_iconst C eX10_least_31 (0 : Int32) c_iconst_0 ?_
    refine a_ist_n C eX10_least_32 (Nat.le_of_ble_eq_true rfl) [some (.ref 64), some (.int (0 : Int32)), none, none, none] rfl ?_
    refine a_iconst C eX10_least_33 (-1 : Int32) c_iconst_m1 ?_
    refine a_ist_n C eX10_least_34 (Nat.le_of_ble_eq_true rfl) [some (.ref 64), some (.int (0 : Int32)), some (.int (-1 : Int32)), none, none] rfl ?_
    refine a_iconst C eX10_least_35 (0 : Int32) c_iconst_0 ?_
    refine a_ist_n C eX10_least_36 (Nat.le_of_ble_eq_true rfl) [some (.ref 64), some (.int (0 : Int32)), some (.int (-1 : Int32)), some (.int (0 : Int32)), none] rfl ?_
    refine jn (fun (kk : Int32 → Int32 → Sg → Option (Int32 × Sg)) => ∀ (x1_6 : Int32) (x2_7 : Int32) (σ_8 : Sg), kk x1_6 x2_7 σ_8 = some rr → AW X 0 0 ad (SHc ++ SHm) σ_8 101 [some (.ref 64), some (.int x1_6), some (.int x2_7), none, none] []) h ?_ (fun k101_9 hk101_9 h => ?_)
    · intro x1_6 x2_7 σ_8 h
      refine a_aload_n C eX10_least_101 rfl ?_
      refine a_iload_n C eX10_least_102 rfl ?_
      obtain ⟨σ_10, hq, h⟩ := b1_e h
      refine a_cVv1 C eX10_least_103 wX10_368 ⟨Nat.le_of_ble_eq_true rfl, Nat.le_of_ble_eq_true rfl, rfl, rfl⟩ rfl sh_64 rfl (kX10_plan hq) (Nat.le_of_ble_eq_true rfl) ?_
      refine a_iload_n C eX10_least_106 rfl ?_
      exact rt_i R eX10_least_107 h nb_int
    exact a_less (lle_same (lle_same (lle_same (lle_same (lle_same lle_nil))))) (lX10_least_37  C R hk101_9 _ _ _ _ _ h)
  · replace h := ie hc h
    refine a_iconst C eX10_least_19 (-1 : Int32) c_iconst_m1 ?_
    exact rt_i R eX10_least_20 h nb_int
