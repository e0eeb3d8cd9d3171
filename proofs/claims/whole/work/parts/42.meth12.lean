/-! ShelfDrivesModel.clear()I -/
def LX10_clear_22 (r_2 : Int32) : Nat → Int32 → Sg → Option (Int32 × Sg)
  | 0, _, _ => none
  | n + 1, x2_4, σ_5 => b1 (XX10_shops σ_5) (fun (r_6 : Int32) => if r_6 ≤ x2_4 then (some (r_2, σ_5)) else (if ib x2_4 6 then lt (up σ_5 78 x2_4.toNatClampNeg (0 : Int32)) (fun (σ_7 : Sg) => lt (x2_4 + (1 : Int32)) (fun (x2_9 : Int32) => LX10_clear_22 r_2 n x2_9 σ_7)) else none))
def XX10_clear (σ : Sg) : Option (Int32 × Sg) := lt (up σ 64 0 (0 : Int32)) (fun (σ_1 : Sg) => b1 (XX10_allVisits σ_1) (fun (r_2 : Int32) => if r_2 = 0 then (some ((0 : Int32), σ_1)) else (b1 (XX10_keep σ_1) (fun (σ_3 : Sg) => LX10_clear_22 r_2 FUEL (0 : Int32) σ_3))))
theorem lX10_clear_22 {X : CT} {ad : Nat → Nat} {rr : (Int32 × Sg)} {r_2 : Int32}  (C : Cx X cX10_clear 3 RX10 (some .int) { frames := 2, cells := 0, slots := 0, locals := 44 }) (R : Ri X cX10_clear (some .int) ad (SHc ++ SHm) rr)  : ∀ (n : Nat) (x2_4 : Int32) (σ_5 : Sg), LX10_clear_22 r_2 n x2_4 σ_5 = some rr → AW X 0 0 ad (SHc ++ SHm) σ_5 22 [some (.ref 64), some (.int r_2), some (.int x2_4)] [] := by
  intro n
  induction n with
  | zero =>
    intro x2_4 σ_5 h
    rw [LX10_clear_22] at h
    cases h
  | succ n ih =>
    intro x2_4 σ_5 h
    rw [LX10_clear_22] at h
    refine a_iload_n C eX10_clear_22 rfl ?_
    refine a_aload_n C eX10_clear_23 rfl ?_
    obtain ⟨r_6, hq, h⟩ := b1_e h
    refine a_cVi0 C eX10_clear_24 wX10_98 ⟨Nat.le_of_ble_eq_true rfl, Nat.le_of_ble_eq_true rfl, rfl, rfl⟩ rfl sh_64 rfl (kX10_shops hq) (Nat.le_of_ble_eq_true rfl) ?_
    refine a_icmp_ge C eX10_clear_27 (fun hc => ?_) (fun hc => ?_)
    · replace h := it hc h
      refine a_iload_n C eX10_clear_43 rfl ?_
      exact rt_i R eX10_clear_44 h nb_int
    · replace h := ie hc h
      refine a_aload_n C eX10_clear_30 rfl ?_
      refine a_getR C eX10_clear_31 fX10_53 sh_64 rfl ?_
      refine a_iload_n C eX10_clear_34 rfl ?_
      refine a_iconst C eX10_clear_35 (0 : Int32) c_iconst_0 ?_
      obtain ⟨hb_8, h⟩ := gd h
      refine a_iastL C eX10_clear_36 sh_78 hb_8 h (fun σ_7 h => ?_)
      refine a_inc C eX10_clear_37 rfl c_iconst_1 h (fun z => [some (.ref 64), some (.int r_2), some (.int z)]) (fun _ => rfl) (fun x2_9 h => ?_)
      refine a_goto C eX10_clear_40 ?_
      exact a_less (lle_same (lle_same (lle_same lle_nil))) (ih _ _ h)
theorem kX10_clear {σ : Sg} {rr : (Int32 × Sg)}  (h : XX10_clear σ = some rr) : Ci MX10_clear [.ref 64] (SHc ++ SHm) σ rr := by
  refine Ci.start rfl rfl (Nat.le_of_ble_eq_true rfl) ?_
  intro X ad C R
  replace C : Cx X cX10_clear 3 RX10 (some .int) { frames := 2, cells := 0, slots := 0, locals := 44 } := C
  replace R : Ri X cX10_clear (some .int) ad (SHc ++ SHm) rr := R
  show AW X 0 0 ad (SHc ++ SHm) σ 0 [some (.ref 64), none, none] []
  rw [XX10_clear] at h
  refine a_aload_n C eX10_clear_0 rfl ?_
  refine a_iconst C eX10_clear_1 (0 : Int32) c_iconst_0 ?_
  refine a_putIL C eX10_clear_2 fX10_95 ftyX10 rfl rfl sh_64 rfl h (fun σ_1 h => ?_)
  refine a_aload_n C eX10_clear_5 rfl ?_
  obtain ⟨r_2, hq, h⟩ := b1_e h
  refine a_cVi0 C eX10_clear_6 wX10_348 ⟨Nat.le_of_ble_eq_true rfl, Nat.le_of_ble_eq_true rfl, rfl, rfl⟩ rfl sh_64 rfl (kX10_allVisits hq) (Nat.le_of_ble_eq_true rfl) ?_
  refine a_ist_n C eX10_clear_9 (Nat.le_of_ble_eq_true rfl) [some (.ref 64), some (.int r_2), none] rfl ?_
  refine a_iload_n C eX10_clear_10 rfl ?_
  refine a_if_ne C eX10_clear_11 (fun hc => ?_) (fun hc => ?_)
  · replace h := ie hc h
    refine a_aload_n C eX10_clear_16 rfl ?_
    obtain ⟨σ_3, hq, h⟩ := b1_e h
    refine a_cVv0 C eX10_clear_17 wX10_338 ⟨Nat.le_of_ble_eq_true rfl, Nat.le_of_ble_eq_true rfl, rfl, rfl⟩ rfl sh_64 rfl (kX10_keep hq) (Nat.le_of_ble_eq_true rfl) ?_
    refine a_iconst C eX10_clear_20 (0 : Int32) c_iconst_0 ?_
    refine a_ist_n C eX10_clear_21 (Nat.le_of_ble_eq_true rfl) [some (.ref 64), some (.int r_2), some (.int (0 : Int32))] rfl ?_
    exact a_less (lle_same (lle_same (lle_same lle_nil))) (lX10_clear_22  C R  _ _ _ h)
  · replace h := it hc h
    refine a_iconst C eX10_clear_14 (0 : Int32) c_iconst_0 ?_
    exact rt_i R eX10_clear_15 h nb_int
/-! ShelfDrivesModel.rush(III)I -/
def XX10_rush (p1 : Int32) (p2 : Int32) (p3 : Int32) (σ : Sg) : Option (Int32 × Sg) := lt (up σ 64 0 (0 : Int32)) (fun (σ_1 : Sg) => b1 (XX10_number (9 : Int32) σ_1) (fun (r_2 : Int32) => b1 (XX10_isAt p1 p2 σ_1) (fun (r_3 : Int32) => if r_3 = 0 then (some ((-1 : Int32), σ_1)) else (b1 (XX10_in p3 (1 : Int32) (60 : Int32)) (fun (r_4 : Int32) => if r_4 = 0 then (some ((-1 : Int32), σ_1)) else (if r_2 = (12 : Int32) then (some ((-1 : Int32), σ_1)) else (b1 (XX10_keep σ_1) (fun (σ_5 : Sg) => if ib r_2 24 then lt (up σ_5 72 r_2.toNatClampNeg p1) (fun (σ_6 : Sg) => lt (up σ_6 73 r_2.toNatClampNeg p2) (fun (σ_8 : Sg) => lt (up σ_8 74 r_2.toNatClampNeg p3) (fun (σ_9 : Sg) => lt (up σ_9 65 9 (r_2 + (1 : Int32))) (fun (σ_10 : Sg) => some (r_2 + (1 : Int32), σ_10))))) else none))))))))
theorem kX10_rush {p1 : Int32} {p2 : Int32} {p3 : Int32} {σ : Sg} {rr : (Int32 × Sg)}  (h : XX10_rush p1 p2 p3 σ = some rr) : Ci MX10_rush [.ref 64, .int p1, .int p2, .int p3] (SHc ++ SHm) σ rr := by
  refine Ci.start rfl rfl (Nat.le_of_ble_eq_true rfl) ?_
  intro X ad C R
  replace C : Cx X cX10_rush 5 RX10 (some .int) { frames := 3, cells := 0, slots := 0, locals := 65 } := C
  replace R : Ri X cX10_rush (some .int) ad (SHc ++ SHm) rr := R
  show AW X 0 0 ad (SHc ++ SHm) σ 0 [some (.ref 64), some (.int p1), some (.int p2), some (.int p3), none] []
  rw [XX10_rush] at h
  refine a_aload_n C eX10_rush_0 rfl ?_
  refine a_iconst C eX10_rush_1 (0 : Int32) c_iconst_0 ?_
  refine a_putIL C eX10_rush_2 fX10_95 ftyX10 rfl rfl sh_64 rfl h (fun σ_1 h => ?_)
  refine a_aload_n C eX10_rush_5 rfl ?_
  refine a_bipush C eX10_rush_6 (9 : Int32) c_bipush_9 ?_
  obtain ⟨r_2, hq, h⟩ := b1_e h
  refine a_cVi1 C eX10_rush_8 wX10_224 ⟨Nat.le_of_ble_eq_true rfl, Nat.le_of_ble_eq_true rfl, rfl, rfl⟩ rfl sh_64 rfl (kX10_number hq) (Nat.le_of_ble_eq_true rfl) ?_
  refine a_ist C eX10_rush_11 (Nat.le_of_ble_eq_true rfl) [some (.ref 64), some (.int p1), some (.int p2), some (.int p3), some (.int r_2)] rfl ?_
  refine a_aload_n C eX10_rush_13 rfl ?_
  refine a_iload_n C eX10_rush_14 rfl ?_
  refine a_iload_n C eX10_rush_15 rfl ?_
  obtain ⟨r_3, hq, h⟩ := b1_e h
  refine a_cVi2 C eX10_rush_16 wX10_259 ⟨Nat.le_of_ble_eq_true rfl, Nat.le_of_ble_eq_true rfl, rfl, rfl⟩ rfl sh_64 rfl (kX10_isAt hq) (Nat.le_of_ble_eq_true rfl) ?_
  refine a_if_eq C eX10_rush_19 (fun hc => ?_) (fun hc => ?_)
  · replace h := it hc h
    refine a_iconst C eX10_rush_39 (-1 : Int32) c_iconst_m1 ?_
    exact rt_i R eX10_rush_40 h nb_int
  · replace h := ie hc h
    refine a_iload_n C eX10_rush_22 rfl ?_
    refine a_iconst C eX10_rush_23 (1 : Int32) c_iconst_1 ?_
    refine a_bipush C eX10_rush_24 (60 : Int32) c_bipush_60 ?_
    obtain ⟨r_4, hq, h⟩ := b1_e h
    refine a_cSi3 C eX10_rush_26 wX10_102 ⟨Nat.le_of_ble_eq_true rfl, Nat.le_of_ble_eq_true rfl, rfl, rfl⟩ rfl (kX10_in hq) (Nat.le_of_ble_eq_true rfl) ?_
    refine a_if_eq C eX10_rush_29 (fun hc => ?_) (fun hc => ?_)
    · replace h := it hc h
      refine a_iconst C eX10_rush_39 (-1 : Int32) c_iconst_m1 ?_
      exact rt_i R eX10_rush_40 h nb_int
    · replace h := ie hc h
      refine a_iload C eX10_rush_32 rfl ?_
      refine a_bipush C eX10_rush_34 (12 : Int32) c_bipush_12 ?_
      refine a_icmp_ne C eX10_rush_36 (fun hc => ?_) (fun hc => ?_)
      · replace h := ie hc h
        refine a_aload_n C eX10_rush_41 rfl ?_
        obtain ⟨σ_5, hq, h⟩ := b1_e h
        refine a_cVv0 C eX10_rush_42 wX10_338 ⟨Nat.le_of_ble_eq_true rfl, Nat.le_of_ble_eq_true rfl, rfl, rfl⟩ rfl sh_64 rfl (kX10_keep hq) (Nat.le_of_ble_eq_true rfl) ?_
        refine a_aload_n C eX10_rush_45 rfl ?_
        refine a_getR C eX10_rush_46 fX10_31 sh_64 rfl ?_
        refine a_iload C eX10_rush_49 rfl ?_
        refine a_iload_n C eX10_rush_51 rfl ?_
        obtain ⟨hb_7, h⟩ := gd h
        refine a_iastL C eX10_rush_52 sh_72 hb_7 h (fun σ_6 h => ?_)
        refine a_aload_n C eX10_rush_53 rfl ?_
        refine a_getR C eX10_rush_54 fX10_34 sh_64 rfl ?_
        refine a_iload C eX10_rush_57 rfl ?_
        refine a_iload_n C eX10_rush_59 rfl ?_
        refine a_iastL C eX10_rush_60 sh_73 hb_7 h (fun σ_8 h => ?_)
        refine a_aload_n C eX10_rush_61 rfl ?_
        refine a_getR C eX10_rush_62 fX10_37 sh_64 rfl ?_
        refine a_iload C eX10_rush_65 rfl ?_
        refine a_iload_n C eX10_rush_67 rfl ?_
        refine a_iastL C eX10_rush_68 sh_74 hb_7 h (fun σ_9 h => ?_)
        refine a_aload_n C eX10_rush_69 rfl ?_
        refine a_getR C eX10_rush_70 fX10_7 sh_64 rfl ?_
        refine a_bipush C eX10_rush_73 (9 : Int32) c_bipush_9 ?_
        refine a_iload C eX10_rush_75 rfl ?_
        refine a_iconst C eX10_rush_77 (1 : Int32) c_iconst_1 ?_
        refine a_iadd C eX10_rush_78 ?_
        refine a_iastK C eX10_rush_79 sh_65 ix_9 (Nat.le_of_ble_eq_true rfl) h (fun σ_10 h => ?_)
        refine a_iload C eX10_rush_80 rfl ?_
        refine a_iconst C eX10_rush_82 (1 : Int32) c_iconst_1 ?_
        refine a_iadd C eX10_rush_83 ?_
        exact rt_i R eX10_rush_84 h nb_int
      · replace h := it hc h
        refine a_iconst C eX10_rush_39 (-1 : Int32) c_iconst_m1 ?_
        exact rt_i R eX10_rush_40 h nb_int
