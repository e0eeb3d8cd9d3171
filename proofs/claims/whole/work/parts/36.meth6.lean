/-! ShelfDrives.least()I -/
def XX9_least (σ : Sg) : Option (Int32 × Sg) := if ((σ 2 6) * (σ 2 0)) ≤ (14 : Int32) then (b1 (XX9_keepAct σ) (fun (σ_1 : Sg) => b1 (XX3_takeLeastPlan σ_1) (fun (σ_2 : Sg) => b2 (XX5_wholeCost 38 σ_2) (fun (r_3 : Int32) (σ_4 : Sg) => some (r_3, σ_4))))) else (some ((-1 : Int32), σ))
theorem kX9_least {ext : List Shp} {σ : Sg} {rr : (Int32 × Sg)}  (h : XX9_least σ = some rr) : Ci MX9_least [.ref 0] (SHc ++ ext) σ rr := by
  refine Ci.start rfl rfl (Nat.le_of_ble_eq_true rfl) ?_
  intro X ad C R
  replace C : Cx X cX9_least 1 RX9 (some .int) { frames := 6, cells := 0, slots := 0, locals := 146 } := C
  replace R : Ri X cX9_least (some .int) ad (SHc ++ ext) rr := R
  show AW X 0 0 ad (SHc ++ ext) σ 0 [some (.ref 0)] []
  rw [XX9_least] at h
  refine a_aload_n C eX9_least_0 rfl ?_
  refine a_getR C eX9_least_1 fX9_20 sh_0 rfl ?_
  refine a_getI C eX9_least_4 fX9_107 sh_2 rfl ?_
  refine a_aload_n C eX9_least_7 rfl ?_
  refine a_getR C eX9_least_8 fX9_20 sh_0 rfl ?_
  refine a_getI C eX9_least_11 fX9_116 sh_2 rfl ?_
  refine a_imul C eX9_least_14 ?_
  refine a_bipush C eX9_least_15 (14 : Int32) c_bipush_14 ?_
  refine a_icmp_le C eX9_least_17 (fun hc => ?_) (fun hc => ?_)
  · replace h := it hc h
    refine a_aload_n C eX9_least_22 rfl ?_
    obtain ⟨σ_1, hq, h⟩ := b1_e h
    refine a_cVv0 C eX9_least_23 wX9_329 ⟨Nat.le_of_ble_eq_true rfl, Nat.le_of_ble_eq_true rfl, rfl, rfl⟩ rfl sh_0 rfl (kX9_keepAct hq) (Nat.le_of_ble_eq_true rfl) ?_
    refine a_aload_n C eX9_least_26 rfl ?_
    refine a_getR C eX9_least_27 fX9_69 sh_0 rfl ?_
    refine a_aload_n C eX9_least_30 rfl ?_
    refine a_getR C eX9_least_31 fX9_59 sh_0 rfl ?_
    obtain ⟨σ_2, hq, h⟩ := b1_e h
    refine a_cVv1 C eX9_least_34 wX9_348 ⟨Nat.le_of_ble_eq_true rfl, Nat.le_of_ble_eq_true rfl, rfl, rfl⟩ rfl sh_54 rfl (kX3_takeLeastPlan hq) (Nat.le_of_ble_eq_true rfl) ?_
    refine a_aload_n C eX9_least_37 rfl ?_
    refine a_getR C eX9_least_38 fX9_59 sh_0 rfl ?_
    obtain ⟨r_3, σ_4, hq, h⟩ := b2_e h
    refine a_cVi0 C eX9_least_41 wX9_261 ⟨Nat.le_of_ble_eq_true rfl, Nat.le_of_ble_eq_true rfl, rfl, rfl⟩ rfl sh_38 rfl (kX5_wholeCost is_X5_38 hq) (Nat.le_of_ble_eq_true rfl) ?_
    exact rt_i R eX9_least_44 h nb_int
  · replace h := ie hc h
    refine a_iconst C eX9_least_20 (-1 : Int32) c_iconst_m1 ?_
    exact rt_i R eX9_least_21 h nb_int
/-! ShelfDrives.clear()I -/
def XX9_clear (σ : Sg) : Option (Int32 × Sg) := b1 (XX5_countVisits 38 σ) (fun (r_1 : Int32) => if r_1 ≤ 0 then (some (r_1, σ)) else (b1 (XX9_keepAct σ) (fun (σ_2 : Sg) => b1 (XX5_dropVisits 38 σ_2) (fun (σ_3 : Sg) => some (r_1, σ_3)))))
theorem kX9_clear {ext : List Shp} {σ : Sg} {rr : (Int32 × Sg)}  (h : XX9_clear σ = some rr) : Ci MX9_clear [.ref 0] (SHc ++ ext) σ rr := by
  refine Ci.start rfl rfl (Nat.le_of_ble_eq_true rfl) ?_
  intro X ad C R
  replace C : Cx X cX9_clear 2 RX9 (some .int) { frames := 5, cells := 0, slots := 0, locals := 116 } := C
  replace R : Ri X cX9_clear (some .int) ad (SHc ++ ext) rr := R
  show AW X 0 0 ad (SHc ++ ext) σ 0 [some (.ref 0), none] []
  rw [XX9_clear] at h
  refine a_aload_n C eX9_clear_0 rfl ?_
  refine a_getR C eX9_clear_1 fX9_59 sh_0 rfl ?_
  obtain ⟨r_1, hq, h⟩ := b1_e h
  refine a_cVi0 C eX9_clear_4 wX9_335 ⟨Nat.le_of_ble_eq_true rfl, Nat.le_of_ble_eq_true rfl, rfl, rfl⟩ rfl sh_38 rfl (kX5_countVisits is_X5_38 hq) (Nat.le_of_ble_eq_true rfl) ?_
  refine a_ist_n C eX9_clear_7 (Nat.le_of_ble_eq_true rfl) [some (.ref 0), some (.int r_1)] rfl ?_
  refine a_iload_n C eX9_clear_8 rfl ?_
  refine a_if_le C eX9_clear_9 (fun hc => ?_) (fun hc => ?_)
  · replace h := it hc h
    refine a_iload_n C eX9_clear_23 rfl ?_
    exact rt_i R eX9_clear_24 h nb_int
  · replace h := ie hc h
    refine a_aload_n C eX9_clear_12 rfl ?_
    obtain ⟨σ_2, hq, h⟩ := b1_e h
    refine a_cVv0 C eX9_clear_13 wX9_329 ⟨Nat.le_of_ble_eq_true rfl, Nat.le_of_ble_eq_true rfl, rfl, rfl⟩ rfl sh_0 rfl (kX9_keepAct hq) (Nat.le_of_ble_eq_true rfl) ?_
    refine a_aload_n C eX9_clear_16 rfl ?_
    refine a_getR C eX9_clear_17 fX9_59 sh_0 rfl ?_
    obtain ⟨σ_3, hq, h⟩ := b1_e h
    refine a_cVv0 C eX9_clear_20 wX9_351 ⟨Nat.le_of_ble_eq_true rfl, Nat.le_of_ble_eq_true rfl, rfl, rfl⟩ rfl sh_38 rfl (kX5_dropVisits is_X5_38 hq) (Nat.le_of_ble_eq_true rfl) ?_
    refine a_iload_n C eX9_clear_23 rfl ?_
    exact rt_i R eX9_clear_24 h nb_int
/-! ShelfDrives.rush(III)I -/
def XX9_rush (p1 : Int32) (p2 : Int32) (p3 : Int32) (σ : Sg) : Option (Int32 × Sg) := b1 (XX9_hasCell p1 p2 σ) (fun (r_1 : Int32) => if r_1 = 0 then (some ((-1 : Int32), σ)) else (if p3 < (1 : Int32) then (some ((-1 : Int32), σ)) else (if (60 : Int32) < p3 then (some ((-1 : Int32), σ)) else (if (σ 2 7) < (12 : Int32) then (b1 (XX9_keepAct σ) (fun (σ_2 : Sg) => b1 (XX7_addRush 2 p1 p2 p3 σ_2) (fun (σ_3 : Sg) => b1 (XX5_askPercent 38 (100 : Int32) σ_3) (fun (σ_4 : Sg) => some (σ_4 2 7, σ_4))))) else (some ((-1 : Int32), σ))))))
theorem kX9_rush {ext : List Shp} {p1 : Int32} {p2 : Int32} {p3 : Int32} {σ : Sg} {rr : (Int32 × Sg)}  (h : XX9_rush p1 p2 p3 σ = some rr) : Ci MX9_rush [.ref 0, .int p1, .int p2, .int p3] (SHc ++ ext) σ rr := by
  refine Ci.start rfl rfl (Nat.le_of_ble_eq_true rfl) ?_
  intro X ad C R
  replace C : Cx X cX9_rush 4 RX9 (some .int) { frames := 4, cells := 0, slots := 0, locals := 94 } := C
  replace R : Ri X cX9_rush (some .int) ad (SHc ++ ext) rr := R
  show AW X 0 0 ad (SHc ++ ext) σ 0 [some (.ref 0), some (.int p1), some (.int p2), some (.int p3)] []
  rw [XX9_rush] at h
  refine a_aload_n C eX9_rush_0 rfl ?_
  refine a_iload_n C eX9_rush_1 rfl ?_
  refine a_iload_n C eX9_rush_2 rfl ?_
  obtain ⟨r_1, hq, h⟩ := b1_e h
  refine a_cVi2 C eX9_rush_3 wX9_172 ⟨Nat.le_of_ble_eq_true rfl, Nat.le_of_ble_eq_true rfl, rfl, rfl⟩ rfl sh_0 rfl (kX9_hasCell hq) (Nat.le_of_ble_eq_true rfl) ?_
  refine a_if_eq C eX9_rush_6 (fun hc => ?_) (fun hc => ?_)
  · replace h := it hc h
    refine a_iconst C eX9_rush_32 (-1 : Int32) c_iconst_m1 ?_
    exact rt_i R eX9_rush_33 h nb_int
  · replace h := ie hc h
    refine a_iload_n C eX9_rush_9 rfl ?_
    refine a_iconst C eX9_rush_10 (1 : Int32) c_iconst_1 ?_
    refine a_icmp_lt C eX9_rush_11 (fun hc => ?_) (fun hc => ?_)
    · replace h := it hc h
      refine a_iconst C eX9_rush_32 (-1 : Int32) c_iconst_m1 ?_
      exact rt_i R eX9_rush_33 h nb_int
    · replace h := ie hc h
      refine a_iload_n C eX9_rush_14 rfl ?_
      refine a_bipush C eX9_rush_15 (60 : Int32) c_bipush_60 ?_
      refine a_icmp_gt C eX9_rush_17 (fun hc => ?_) (fun hc => ?_)
      · replace h := it hc h
        refine a_iconst C eX9_rush_32 (-1 : Int32) c_iconst_m1 ?_
        exact rt_i R eX9_rush_33 h nb_int
      · replace h := ie hc h
        refine a_aload_n C eX9_rush_20 rfl ?_
        refine a_getR C eX9_rush_21 fX9_20 sh_0 rfl ?_
        refine a_getI C eX9_rush_24 fX9_134 sh_2 rfl ?_
        refine a_bipush C eX9_rush_27 (12 : Int32) c_bipush_12 ?_
        refine a_icmp_lt C eX9_rush_29 (fun hc => ?_) (fun hc => ?_)
        · replace h := it hc h
          refine a_aload_n C eX9_rush_34 rfl ?_
          obtain ⟨σ_2, hq, h⟩ := b1_e h
          refine a_cVv0 C eX9_rush_35 wX9_329 ⟨Nat.le_of_ble_eq_true rfl, Nat.le_of_ble_eq_true rfl, rfl, rfl⟩ rfl sh_0 rfl (kX9_keepAct hq) (Nat.le_of_ble_eq_true rfl) ?_
          refine a_aload_n C eX9_rush_38 rfl ?_
          refine a_getR C eX9_rush_39 fX9_20 sh_0 rfl ?_
          refine a_iload_n C eX9_rush_42 rfl ?_
          refine a_iload_n C eX9_rush_43 rfl ?_
          refine a_iload_n C eX9_rush_44 rfl ?_
          obtain ⟨σ_3, hq, h⟩ := b1_e h
          refine a_cVv3 C eX9_rush_45 wX9_354 ⟨Nat.le_of_ble_eq_true rfl, Nat.le_of_ble_eq_true rfl, rfl, rfl⟩ rfl sh_2 rfl (kX7_addRush is_X7_2 hq) (Nat.le_of_ble_eq_true rfl) ?_
          refine a_aload_n C eX9_rush_48 rfl ?_
          refine a_getR C eX9_rush_49 fX9_59 sh_0 rfl ?_
          refine a_bipush C eX9_rush_52 (100 : Int32) c_bipush_100 ?_
          obtain ⟨σ_4, hq, h⟩ := b1_e h
          refine a_cVv1 C eX9_rush_54 wX9_303 ⟨Nat.le_of_ble_eq_true rfl, Nat.le_of_ble_eq_true rfl, rfl, rfl⟩ rfl sh_38 rfl (kX5_askPercent is_X5_38 hq) (Nat.le_of_ble_eq_true rfl) ?_
          refine a_aload_n C eX9_rush_57 rfl ?_
          refine a_getR C eX9_rush_58 fX9_20 sh_0 rfl ?_
          refine a_getI C eX9_rush_61 fX9_134 sh_2 rfl ?_
          exact rt_i R eX9_rush_64 h nb_int
        · replace h := ie hc h
          refine a_iconst C eX9_rush_32 (-1 : Int32) c_iconst_m1 ?_
          exact rt_i R eX9_rush_33 h nb_int
/-! ShelfDrives.undo()Z -/
def LX9_undo_28 (k61_6 : Sg → Option (Int32 × Sg)) : Nat → Int32 → Sg → Option (Int32 × Sg)
  | 0, _, _ => none
  | n + 1, x1_8, σ_9 => if (σ_9 2 6) ≤ x1_8 then (k61_6 σ_9) else (b1 (XX0_visitsBefore x1_8 σ_9) (fun (r_10 : Int32) => b1 (XX5_setVisits 38 x1_8 r_10 σ_9) (fun (σ_11 : Sg) => lt (x1_8 + (1 : Int32)) (fun (x1_12 : Int32) => LX9_undo_28 k61_6 n x1_12 σ_11))))
def XX9_undo (σ : Sg) : Option (Int32 × Sg) := b2 (XX0_takeBack σ) (fun (r_1 : Int32) (σ_2 : Sg) => if r_1 = 0 then (some ((0 : Int32), σ_2)) else (b1 (XX0_rushesBefore σ_2) (fun (r_3 : Int32) => b1 (XX7_keepRushes r_3 σ_2) (fun (σ_4 : Sg) => lt (fun (σ_5 : Sg) => b1 (XX5_askPercent 38 (100 : Int32) σ_5) (fun (σ_7 : Sg) => some ((1 : Int32), σ_7))) (fun (k61_6 : Sg → Option (Int32 × Sg)) => LX9_undo_28 k61_6 FUEL (0 : Int32) σ_4)))))
theorem lX9_undo_28 {ext : List Shp} {X : CT} {ad : Nat → Nat} {rr : (Int32 × Sg)} {k61_6 : Sg → Option (Int32 × Sg)}  (C : Cx X cX9_undo 2 RX9 (some .boolean) { frames := 4, cells := 0, slots := 0, locals := 95 }) (R : Ri X cX9_undo (some .boolean) ad (SHc ++ ext) rr) (hk61_6 : ∀ (σ_5 : Sg), k61_6 σ_5 = some rr → AW X 0 0 ad (SHc ++ ext) σ_5 61 [some (.ref 0), none] []) : ∀ (n : Nat) (x1_8 : Int32) (σ_9 : Sg), LX9_undo_28 k61_6 n x1_8 σ_9 = some rr → AW X 0 0 ad (SHc ++ ext) σ_9 28 [some (.ref 0), some (.int x1_8)] [] := by
  intro n
  induction n with
  | zero =>
    intro x1_8 σ_9 h
    rw [LX9_undo_28] at h
    cases h
  | succ n ih =>
    intro x1_8 σ_9 h
    rw [LX9_undo_28] at h
    refine a_iload_n C eX9_undo_28 rfl ?_
    refine a_aload_n C eX9_undo_29 rfl ?_
    refine a_getR C eX9_undo_30 fX9_20 sh_0 rfl ?_
    refine a_getI C eX9_undo_33 fX9_107 sh_2 rfl ?_
    refine a_icmp_ge C eX9_undo_36 (fun hc => ?_) (fun hc => ?_)
    · replace h := it hc h
      exact a_less (lle_same (lle_drop lle_nil)) (hk61_6 _ h)
    · replace h := ie hc h
      refine a_aload_n C eX9_undo_39 rfl ?_
      refine a_getR C eX9_undo_40 fX9_59 sh_0 rfl ?_
      refine a_iload_n C eX9_undo_43 rfl ?_
      refine a_aload_n C eX9_undo_44 rfl ?_
      refine a_getR C eX9_undo_45 fX9_83 sh_0 rfl ?_
      refine a_iload_n C eX9_undo_48 rfl ?_
      obtain ⟨r_10, hq, h⟩ := b1_e h
      refine a_cVi1 C eX9_undo_49 wX9_368 ⟨Nat.le_of_ble_eq_true rfl, Nat.le_of_ble_eq_true rfl, rfl, rfl⟩ rfl sh_61 rfl (kX0_visitsBefore hq) (Nat.le_of_ble_eq_true rfl) ?_
      obtain ⟨σ_11, hq, h⟩ := b1_e h
      refine a_cVv2 C eX9_undo_52 wX9_279 ⟨Nat.le_of_ble_eq_true rfl, Nat.le_of_ble_eq_true rfl, rfl, rfl⟩ rfl sh_38 rfl (kX5_setVisits is_X5_38 hq) (Nat.le_of_ble_eq_true rfl) ?_
      refine a_inc C eX9_undo_55 rfl c_iconst_1 h (fun z => [some (.ref 0), some (.int z)]) (fun _ => rfl) (fun x1_12 h => ?_)
      refine a_goto C eX9_undo_58 ?_
      exact a_less (lle_same (lle_same lle_nil)) (ih _ _ h)
theorem kX9_undo {ext : List Shp} {σ : Sg} {rr : (Int32 × Sg)}  (h : XX9_undo σ = some rr) : Ci MX9_undo [.ref 0] (SHc ++ ext) σ rr := by
  refine Ci.start rfl rfl (Nat.le_of_ble_eq_true rfl) ?_
  intro X ad C R
  replace C : Cx X cX9_undo 2 RX9 (some .boolean) { frames := 4, cells := 0, slots := 0, locals := 95 } := C
  replace R : Ri X cX9_undo (some .boolean) ad (SHc ++ ext) rr := R
  show AW X 0 0 ad (SHc ++ ext) σ 0 [some (.ref 0), none] []
  rw [XX9_undo] at h
  refine a_aload_n C eX9_undo_0 rfl ?_
  refine a_getR C eX9_undo_1 fX9_83 sh_0 rfl ?_
  obtain ⟨r_1, σ_2, hq, h⟩ := b2_e h
  refine a_cVi0 C eX9_undo_4 wX9_358 ⟨Nat.le_of_ble_eq_true rfl, Nat.le_of_ble_eq_true rfl, rfl, rfl⟩ rfl sh_61 rfl (kX0_takeBack hq) (Nat.le_of_ble_eq_true rfl) ?_
  refine a_if_ne C eX9_undo_7 (fun hc => ?_) (fun hc => ?_)
  · replace h := ie hc h
    refine a_aload_n C eX9_undo_12 rfl ?_
    refine a_getR C eX9_undo_13 fX9_20 sh_0 rfl ?_
    refine a_aload_n C eX9_undo_16 rfl ?_
    refine a_getR C eX9_undo_17 fX9_83 sh_0 rfl ?_
    obtain ⟨r_3, hq, h⟩ := b1_e h
    refine a_cVi0 C eX9_undo_20 wX9_362 ⟨Nat.le_of_ble_eq_true rfl, Nat.le_of_ble_eq_true rfl, rfl, rfl⟩ rfl sh_61 rfl (kX0_rushesBefore hq) (Nat.le_of_ble_eq_true rfl) ?_
    obtain ⟨σ_4, hq, h⟩ := b1_e h
    refine a_cVv1 C eX9_undo_23 wX9_365 ⟨Nat.le_of_ble_eq_true rfl, Nat.le_of_ble_eq_true rfl, rfl, rfl⟩ rfl sh_2 rfl (kX7_keepRushes hq) (Nat.le_of_ble_eq_true rfl) ?_
    refine a_iconst C eX9_undo_26 (0 : Int32) c_iconst_0 ?_
    refine a_ist_n C eX9_undo_27 (Nat.le_of_ble_eq_true rfl) [some (.ref 0), some (.int (0 : Int32))] rfl ?_
    refine jn (fun (kk : Sg → Option (Int32 × Sg)) => ∀ (σ_5 : Sg), kk σ_5 = some rr → AW X 0 0 ad (SHc ++ ext) σ_5 61 [some (.ref 0), none] []) h ?_ (fun k61_6 hk61_6 h => ?_)
    · intro σ_5 h
      refine a_aload_n C eX9_undo_61 rfl ?_
      refine a_getR C eX9_undo_62 fX9_59 sh_0 rfl ?_
      refine a_bipush C eX9_undo_65 (100 : Int32) c_bipush_100 ?_
      obtain ⟨σ_7, hq, h⟩ := b1_e h
      refine a_cVv1 C eX9_undo_67 wX9_303 ⟨Nat.le_of_ble_eq_true rfl, Nat.le_of_ble_eq_true rfl, rfl, rfl⟩ rfl sh_38 rfl (kX5_askPercent is_X5_38 hq) (Nat.le_of_ble_eq_true rfl) ?_
      refine a_iconst C eX9_undo_70 (1 : Int32) c_iconst_1 ?_
      exact rt_i R eX9_undo_71 h nb_1
    exact a_less (lle_same (lle_same lle_nil)) (lX9_undo_28  C R hk61_6 _ _ _ h)
  · replace h := it hc h
    refine a_iconst C eX9_undo_10 (0 : Int32) c_iconst_0 ?_
    exact rt_i R eX9_undo_11 h nb_0
/-! ShelfDrivesModel.in(III)Z -/
def XX10_in (p1 : Int32) (p2 : Int32) (p3 : Int32) : Option Int32 := lt (some (0 : Int32)) (fun (k14_1 : Option Int32) => if p1 < p2 then (k14_1) else (if p3 < p1 then (k14_1) else (some (1 : Int32))))
theorem kX10_in {p1 : Int32} {p2 : Int32} {p3 : Int32} {σ : Sg} {rr : Int32}  (h : XX10_in p1 p2 p3 = some rr) : Ci MX10_in [.int p1, .int p2, .int p3] (SHc ++ SHm) σ (rr, σ) := by
  refine Ci.start rfl rfl (Nat.le_of_ble_eq_true rfl) ?_
  intro X ad C R
  replace C : Cx X cX10_in 3 RX10 (some .boolean) { frames := 0, cells := 0, slots := 0, locals := 0 } := C
  replace R : Ri X cX10_in (some .boolean) ad (SHc ++ SHm) (rr, σ) := R
  show AW X 0 0 ad (SHc ++ SHm) σ 0 [some (.int p1), some (.int p2), some (.int p3)] []
  rw [XX10_in] at h
  refine a_iload_n C eX10_in_0 rfl ?_
  refine a_iload_n C eX10_in_1 rfl ?_
  refine jn (fun (kk : Option Int32) => kk = some rr → AW X 0 0 ad (SHc ++ SHm) σ 14 [none, none, none] []) h ?_ (fun k14_1 hk14_1 h => ?_)
  · intro h
    refine a_iconst C eX10_in_14 (0 : Int32) c_iconst_0 ?_
    exact rt_p R eX10_in_15 h nb_0
  refine a_icmp_lt C eX10_in_2 (fun hc => ?_) (fun hc => ?_)
  · replace h := it hc h
    exact a_less (lle_drop (lle_drop (lle_drop lle_nil))) (hk14_1 h)
  · replace h := ie hc h
    refine a_iload_n C eX10_in_5 rfl ?_
    refine a_iload_n C eX10_in_6 rfl ?_
    refine a_icmp_gt C eX10_in_7 (fun hc => ?_) (fun hc => ?_)
    · replace h := it hc h
      exact a_less (lle_drop (lle_drop (lle_drop lle_nil))) (hk14_1 h)
    · replace h := ie hc h
      refine a_iconst C eX10_in_10 (1 : Int32) c_iconst_1 ?_
      refine a_goto C eX10_in_11 ?_
      exact rt_p R eX10_in_15 h nb_1
/-! ShelfDrivesModel.isOf(II)Z -/
def XX10_isOf (p1 : Int32) (p2 : Int32) : Option Int32 := if ((p1 >>> (p2 &&& 31)) &&& (1 : Int32)) = (1 : Int32) then (some (1 : Int32)) else (some (0 : Int32))
theorem kX10_isOf {p1 : Int32} {p2 : Int32} {σ : Sg} {rr : Int32}  (h : XX10_isOf p1 p2 = some rr) : Ci MX10_isOf [.int p1, .int p2] (SHc ++ SHm) σ (rr, σ) := by
  refine Ci.start rfl rfl (Nat.le_of_ble_eq_true rfl) ?_
  intro X ad C R
  replace C : Cx X cX10_isOf 2 RX10 (some .boolean) { frames := 0, cells := 0, slots := 0, locals := 0 } := C
  replace R : Ri X cX10_isOf (some .boolean) ad (SHc ++ SHm) (rr, σ) := R
  show AW X 0 0 ad (SHc ++ SHm) σ 0 [some (.int p1), some (.int p2)] []
  rw [XX10_isOf] at h
  refine a_iload_n C eX10_isOf_0 rfl ?_
  refine a_iload_n C eX10_isOf_1 rfl ?_
  refine a_ishr C eX10_isOf_2 ?_
  refine a_iconst C eX10_isOf_3 (1 : Int32) c_iconst_1 ?_
  refine a_iand C eX10_isOf_4 ?_
  refine a_iconst C eX10_isOf_5 (1 : Int32) c_iconst_1 ?_
  refine a_icmp_ne C eX10_isOf_6 (fun hc => ?_) (fun hc => ?_)
  · replace h := ie hc h
    refine a_iconst C eX10_isOf_13 (0 : Int32) c_iconst_0 ?_
    exact rt_p R eX10_isOf_14 h nb_0
  · replace h := it hc h
    refine a_iconst C eX10_isOf_9 (1 : Int32) c_iconst_1 ?_
    refine a_goto C eX10_isOf_10 ?_
    exact rt_p R eX10_isOf_14 h nb_1
/-! ShelfDrivesModel.lesser(II)I -/
def XX10_lesser (p1 : Int32) (p2 : Int32) : Option Int32 := if p2 ≤ p1 then (some p2) else (some p1)
theorem kX10_lesser {p1 : Int32} {p2 : Int32} {σ : Sg} {rr : Int32}  (h : XX10_lesser p1 p2 = some rr) : Ci MX10_lesser [.int p1, .int p2] (SHc ++ SHm) σ (rr, σ) := by
  refine Ci.start rfl rfl (Nat.le_of_ble_eq_true rfl) ?_
  intro X ad C R
  replace C : Cx X cX10_lesser 2 RX10 (some .int) { frames := 0, cells := 0, slots := 0, locals := 0 } := C
  replace R : Ri X cX10_lesser (some .int) ad (SHc ++ SHm) (rr, σ) := R
  show AW X 0 0 ad (SHc ++ SHm) σ 0 [some (.int p1), some (.int p2)] []
  rw [XX10_lesser] at h
  refine a_iload_n C eX10_lesser_0 rfl ?_
  refine a_iload_n C eX10_lesser_1 rfl ?_
  refine a_icmp_ge C eX10_lesser_2 (fun hc => ?_) (fun hc => ?_)
  · replace h := it hc h
    refine a_iload_n C eX10_lesser_9 rfl ?_
    exact rt_p R eX10_lesser_10 h nb_int
  · replace h := ie hc h
    refine a_iload_n C eX10_lesser_5 rfl ?_
    refine a_goto C eX10_lesser_6 ?_
    exact rt_p R eX10_lesser_10 h nb_int
/-! ShelfDrivesModel.bits(I)I -/
def LX10_bits_4 (p1 : Int32) : Nat → Int32 → Int32 → Option Int32
  | 0, _, _ => none
  | n + 1, x1_1, x2_2 => if (14 : Int32) ≤ x2_2 then (some x1_1) else (lt (x1_1 + ((p1 >>> (x2_2 &&& 31)) &&& (1 : Int32))) (fun (x1_3 : Int32) => lt (x2_2 + (1 : Int32)) (fun (x2_4 : Int32) => LX10_bits_4 p1 n x1_3 x2_4)))
def XX10_bits (p1 : Int32) : Option Int32 := LX10_bits_4 p1 FUEL (0 : Int32) (0 : Int32)
theorem lX10_bits_4 {X : CT} {ad : Nat → Nat} {rr : Int32} {p1 : Int32} {σ : Sg}  (C : Cx X cX10_bits 3 RX10 (some .int) { frames := 0, cells := 0, slots := 0, locals := 0 }) (R : Ri X cX10_bits (some .int) ad (SHc ++ SHm) (rr, σ))  : ∀ (n : Nat) (x1_1 : Int32) (x2_2 : Int32), LX10_bits_4 p1 n x1_1 x2_2 = some rr → AW X 0 0 ad (SHc ++ SHm) σ 4 [some (.int p1), some (.int x1_1), some (.int x2_2)] [] := by
  intro n
  induction n with
  | zero =>
    intro x1_1 x2_2 h
    rw [LX10_bits_4] at h
    cases h
  | succ n ih =>
    intro x1_1 x2_2 h
    rw [LX10_bits_4] at h
    refine a_iload_n C eX10_bits_4 rfl ?_
    refine a_bipush C eX10_bits_5 (14 : Int32) c_bipush_14 ?_
    refine a_icmp_ge C eX10_bits_7 (fun hc => ?_) (fun hc => ?_)
    · replace h := it hc h
      refine a_iload_n C eX10_bits_24 rfl ?_
      exact rt_p R eX10_bits_25 h nb_int
    · replace h := ie hc h
      refine a_iload_n C eX10_bits_10 rfl ?_
      refine a_iload_n C eX10_bits_11 rfl ?_
      refine a_iload_n C eX10_bits_12 rfl ?_
      refine a_ishr C eX10_bits_13 ?_
      refine a_iconst C eX10_bits_14 (1 : Int32) c_iconst_1 ?_
      refine a_iand C eX10_bits_15 ?_
      refine a_iadd C eX10_bits_16 ?_
      refine a_lt h (fun x1_3 h => ?_)
      refine a_ist_n C eX10_bits_17 (Nat.le_of_ble_eq_true rfl) [some (.int p1), some (.int x1_3), some (.int x2_2)] rfl ?_
      refine a_inc C eX10_bits_18 rfl c_iconst_1 h (fun z => [some (.int p1), some (.int x1_3), some (.int z)]) (fun _ => rfl) (fun x2_4 h => ?_)
      refine a_goto C eX10_bits_21 ?_
      exact a_less (lle_same (lle_same (lle_same lle_nil))) (ih _ _ h)
theorem kX10_bits {p1 : Int32} {σ : Sg} {rr : Int32}  (h : XX10_bits p1 = some rr) : Ci MX10_bits [.int p1] (SHc ++ SHm) σ (rr, σ) := by
  refine Ci.start rfl rfl (Nat.le_of_ble_eq_true rfl) ?_
  intro X ad C R
  replace C : Cx X cX10_bits 3 RX10 (some .int) { frames := 0, cells := 0, slots := 0, locals := 0 } := C
  replace R : Ri X cX10_bits (some .int) ad (SHc ++ SHm) (rr, σ) := R
  show AW X 0 0 ad (SHc ++ SHm) σ 0 [some (.int p1), none, none] []
  rw [XX10_bits] at h
  refine a_iconst C eX10_bits_0 (0 : Int32) c_iconst_0 ?_
  refine a_ist_n C eX10_bits_1 (Nat.le_of_ble_eq_true rfl) [some (.int p1), some (.int (0 : Int32)), none] rfl ?_
  refine a_iconst C eX10_bits_2 (0 : Int32) c_iconst_0 ?_
  refine a_ist_n C eX10_bits_3 (Nat.le_of_ble_eq_true rfl) [some (.int p1), some (.int (0 : Int32)), some (.int (0 : Int32))] rfl ?_
  exact a_less (lle_same (lle_same (lle_same lle_nil))) (lX10_bits_4  C R  _ _ _ h)
/-! ShelfDrivesModel.common(II)I -/
def LX10_common_13 : Nat → Int32 → Int32 → Option Int32
  | 0, _, _ => none
  | n + 1, x2_3, x3_4 => if x3_4 = 0 then (some x2_3) else (if ¬ x3_4 = 0 then lt (x2_3 - x2_3 / x3_4 * x3_4) (fun (x4_6 : Int32) => LX10_common_13 n x3_4 x4_6) else none)
def XX10_common (p1 : Int32) (p2 : Int32) : Option Int32 := lt (fun (s_1 : Int32) => LX10_common_13 FUEL s_1 p2) (fun (k10_2 : Int32 → Option Int32) => if 0 ≤ p1 then (k10_2 p1) else (k10_2 (-p1)))
theorem lX10_common_13 {X : CT} {ad : Nat → Nat} {rr : Int32} {σ : Sg}  (C : Cx X cX10_common 5 RX10 (some .int) { frames := 0, cells := 0, slots := 0, locals := 0 }) (R : Ri X cX10_common (some .int) ad (SHc ++ SHm) (rr, σ))  : ∀ (n : Nat) (x2_3 : Int32) (x3_4 : Int32), LX10_common_13 n x2_3 x3_4 = some rr → AW X 0 0 ad (SHc ++ SHm) σ 13 [none, none, some (.int x2_3), some (.int x3_4), none] [] := by
  intro n
  induction n with
  | zero =>
    intro x2_3 x3_4 h
    rw [LX10_common_13] at h
    cases h
  | succ n ih =>
    intro x2_3 x3_4 h
    rw [LX10_common_13] at h
    refine a_iload_n C eX10_common_13 rfl ?_
    refine a_if_eq C eX10_common_14 (fun hc => ?_) (fun hc => ?_)
    · replace h := it hc h
      refine a_iload_n C eX10_common_30 rfl ?_
      exact rt_p R eX10_common_31 h nb_int
    · replace h := ie hc h
      refine a_iload_n C eX10_common_17 rfl ?_
      refine a_iload_n C eX10_common_18 rfl ?_
      obtain ⟨hz_5, h⟩ := gd h
      refine a_irem C eX10_common_19 hz_5 ?_
      refine a_lt h (fun x4_6 h => ?_)
      refine a_ist C eX10_common_20 (Nat.le_of_ble_eq_true rfl) [none, none, some (.int x2_3), some (.int x3_4), some (.int x4_6)] rfl ?_
      refine a_iload_n C eX10_common_22 rfl ?_
      refine a_ist_n C eX10_common_23 (Nat.le_of_ble_eq_true rfl) [none, none, some (.int x3_4), some (.int x3_4), some (.int x4_6)] rfl ?_
      refine a_iload C eX10_common_24 rfl ?_
      refine a_ist_n C eX10_common_26 (Nat.le_of_ble_eq_true rfl) [none, none, some (.int x3_4), some (.int x4_6), some (.int x4_6)] rfl ?_
      refine a_goto C eX10_common_27 ?_
      exact a_less (lle_same (lle_same (lle_same (lle_same (lle_drop lle_nil))))) (ih _ _ h)
theorem kX10_common {p1 : Int32} {p2 : Int32} {σ : Sg} {rr : Int32}  (h : XX10_common p1 p2 = some rr) : Ci MX10_common [.int p1, .int p2] (SHc ++ SHm) σ (rr, σ) := by
  refine Ci.start rfl rfl (Nat.le_of_ble_eq_true rfl) ?_
  intro X ad C R
  replace C : Cx X cX10_common 5 RX10 (some .int) { frames := 0, cells := 0, slots := 0, locals := 0 } := C
  replace R : Ri X cX10_common (some .int) ad (SHc ++ SHm) (rr, σ) := R
  show AW X 0 0 ad (SHc ++ SHm) σ 0 [some (.int p1), some (.int p2), none, none, none] []
  rw [XX10_common] at h
  refine a_iload_n C eX10_common_0 rfl ?_
  refine jn (fun (kk : Int32 → Option Int32) => ∀ (s_1 : Int32), kk s_1 = some rr → AW X 0 0 ad (SHc ++ SHm) σ 10 [none, some (.int p2), none, none, none] [.int s_1]) h ?_ (fun k10_2 hk10_2 h => ?_)
  · intro s_1 h
    refine a_ist_n C eX10_common_10 (Nat.le_of_ble_eq_true rfl) [none, some (.int p2), some (.int s_1), none, none] rfl ?_
    refine a_iload_n C eX10_common_11 rfl ?_
    refine a_ist_n C eX10_common_12 (Nat.le_of_ble_eq_true rfl) [none, some (.int p2), some (.int s_1), some (.int p2), none] rfl ?_
    exact a_less (lle_same (lle_drop (lle_same (lle_same (lle_same lle_nil))))) (lX10_common_13  C R  _ _ _ h)
  refine a_if_ge C eX10_common_1 (fun hc => ?_) (fun hc => ?_)
  · replace h := it hc h
    refine a_iload_n C eX10_common_9 rfl ?_
    exact a_less (lle_drop (lle_same (lle_same (lle_same (lle_same lle_nil))))) (hk10_2 _ h)
  · replace h := ie hc h
    refine a_iload_n C eX10_common_4 rfl ?_
    refine a_ineg C eX10_common_5 ?_
    refine a_goto C eX10_common_6 ?_
    exact a_less (lle_drop (lle_same (lle_same (lle_same (lle_same lle_nil))))) (hk10_2 _ h)
/-! ShelfDrivesModel.number(I)I -/
def XX10_number (p1 : Int32) (σ : Sg) : Option Int32 := if ib p1 20 then some (σ 65 p1.toNatClampNeg) else none
theorem kX10_number {p1 : Int32} {σ : Sg} {rr : Int32}  (h : XX10_number p1 σ = some rr) : Ci MX10_number [.ref 64, .int p1] (SHc ++ SHm) σ (rr, σ) := by
  refine Ci.start rfl rfl (Nat.le_of_ble_eq_true rfl) ?_
  intro X ad C R
  replace C : Cx X cX10_number 2 RX10 (some .int) { frames := 0, cells := 0, slots := 0, locals := 0 } := C
  replace R : Ri X cX10_number (some .int) ad (SHc ++ SHm) (rr, σ) := R
  show AW X 0 0 ad (SHc ++ SHm) σ 0 [some (.ref 64), some (.int p1)] []
  rw [XX10_number] at h
  refine a_aload_n C eX10_number_0 rfl ?_
  refine a_getR C eX10_number_1 fX10_7 sh_64 rfl ?_
  refine a_iload_n C eX10_number_4 rfl ?_
  obtain ⟨hb_1, h⟩ := gd h
  refine a_iald C eX10_number_5 sh_65 hb_1 ?_
  exact rt_p R eX10_number_6 h nb_int
/-! ShelfDrivesModel.shops()I -/
def XX10_shops (σ : Sg) : Option Int32 := some (σ 65 8)
theorem kX10_shops {σ : Sg} {rr : Int32}  (h : XX10_shops σ = some rr) : Ci MX10_shops [.ref 64] (SHc ++ SHm) σ (rr, σ) := by
  refine Ci.start rfl rfl (Nat.le_of_ble_eq_true rfl) ?_
  intro X ad C R
  replace C : Cx X cX10_shops 1 RX10 (some .int) { frames := 0, cells := 0, slots := 0, locals := 0 } := C
  replace R : Ri X cX10_shops (some .int) ad (SHc ++ SHm) (rr, σ) := R
  show AW X 0 0 ad (SHc ++ SHm) σ 0 [some (.ref 64)] []
  rw [XX10_shops] at h
  refine a_aload_n C eX10_shops_0 rfl ?_
  refine a_getR C eX10_shops_1 fX10_7 sh_64 rfl ?_
  refine a_bipush C eX10_shops_4 (8 : Int32) c_bipush_8 ?_
  refine a_ialdK C eX10_shops_6 sh_65 ix_8 (Nat.le_of_ble_eq_true rfl) ?_
  exact rt_p R eX10_shops_7 h nb_int
/-! ShelfDrivesModel.days()I -/
def XX10_days (σ : Sg) : Option Int32 := some (σ 65 0)
theorem kX10_days {σ : Sg} {rr : Int32}  (h : XX10_days σ = some rr) : Ci MX10_days [.ref 64] (SHc ++ SHm) σ (rr, σ) := by
  refine Ci.start rfl rfl (Nat.le_of_ble_eq_true rfl) ?_
  intro X ad C R
  replace C : Cx X cX10_days 1 RX10 (some .int) { frames := 0, cells := 0, slots := 0, locals := 0 } := C
  replace R : Ri X cX10_days (some .int) ad (SHc ++ SHm) (rr, σ) := R
  show AW X 0 0 ad (SHc ++ SHm) σ 0 [some (.ref 64)] []
  rw [XX10_days] at h
  refine a_aload_n C eX10_days_0 rfl ?_
  refine a_getR C eX10_days_1 fX10_7 sh_64 rfl ?_
  refine a_iconst C eX10_days_4 (0 : Int32) c_iconst_0 ?_
  refine a_ialdK C eX10_days_5 sh_65 ix_0 (Nat.le_of_ble_eq_true rfl) ?_
  exact rt_p R eX10_days_6 h nb_int
/-! ShelfDrivesModel.isShop(I)Z -/
def XX10_isShop (p1 : Int32) (σ : Sg) : Option Int32 := b1 (XX10_shops σ) (fun (r_1 : Int32) => b1 (XX10_in p1 (0 : Int32) (r_1 - (1 : Int32))) (fun (r_2 : Int32) => if r_2 = 0 ∨ r_2 = 1 then some r_2 else none))
theorem kX10_isShop {p1 : Int32} {σ : Sg} {rr : Int32}  (h : XX10_isShop p1 σ = some rr) : Ci MX10_isShop [.ref 64, .int p1] (SHc ++ SHm) σ (rr, σ) := by
  refine Ci.start rfl rfl (Nat.le_of_ble_eq_true rfl) ?_
  intro X ad C R
  replace C : Cx X cX10_isShop 2 RX10 (some .boolean) { frames := 1, cells := 0, slots := 0, locals := 22 } := C
  replace R : Ri X cX10_isShop (some .boolean) ad (SHc ++ SHm) (rr, σ) := R
  show AW X 0 0 ad (SHc ++ SHm) σ 0 [some (.ref 64), some (.int p1)] []
  rw [XX10_isShop] at h
  refine a_iload_n C eX10_isShop_0 rfl ?_
  refine a_iconst C eX10_isShop_1 (0 : Int32) c_iconst_0 ?_
  refine a_aload_n C eX10_isShop_2 rfl ?_
  obtain ⟨r_1, hq, h⟩ := b1_e h
  refine a_cVi0 C eX10_isShop_3 wX10_98 ⟨Nat.le_of_ble_eq_true rfl, Nat.le_of_ble_eq_true rfl, rfl, rfl⟩ rfl sh_64 rfl (kX10_shops hq) (Nat.le_of_ble_eq_true rfl) ?_
  refine a_iconst C eX10_isShop_6 (1 : Int32) c_iconst_1 ?_
  refine a_isub C eX10_isShop_7 ?_
  obtain ⟨r_2, hq, h⟩ := b1_e h
  refine a_cSi3 C eX10_isShop_8 wX10_102 ⟨Nat.le_of_ble_eq_true rfl, Nat.le_of_ble_eq_true rfl, rfl, rfl⟩ rfl (kX10_in hq) (Nat.le_of_ble_eq_true rfl) ?_
  obtain ⟨hn_3, h⟩ := gd h
  exact rt_p R eX10_isShop_11 h (nb_b hn_3)
/-! ShelfDrivesModel.isDay(I)Z -/
def XX10_isDay (p1 : Int32) (σ : Sg) : Option Int32 := b1 (XX10_days σ) (fun (r_1 : Int32) => b1 (XX10_in p1 (0 : Int32) (r_1 - (1 : Int32))) (fun (r_2 : Int32) => if r_2 = 0 ∨ r_2 = 1 then some r_2 else none))
theorem kX10_isDay {p1 : Int32} {σ : Sg} {rr : Int32}  (h : XX10_isDay p1 σ = some rr) : Ci MX10_isDay [.ref 64, .int p1] (SHc ++ SHm) σ (rr, σ) := by
  refine Ci.start rfl rfl (Nat.le_of_ble_eq_true rfl) ?_
  intro X ad C R
  replace C : Cx X cX10_isDay 2 RX10 (some .boolean) { frames := 1, cells := 0, slots := 0, locals := 22 } := C
  replace R : Ri X cX10_isDay (some .boolean) ad (SHc ++ SHm) (rr, σ) := R
  show AW X 0 0 ad (SHc ++ SHm) σ 0 [some (.ref 64), some (.int p1)] []
  rw [XX10_isDay] at h
  refine a_iload_n C eX10_isDay_0 rfl ?_
  refine a_iconst C eX10_isDay_1 (0 : Int32) c_iconst_0 ?_
  refine a_aload_n C eX10_isDay_2 rfl ?_
  obtain ⟨r_1, hq, h⟩ := b1_e h
  refine a_cVi0 C eX10_isDay_3 wX10_106 ⟨Nat.le_of_ble_eq_true rfl, Nat.le_of_ble_eq_true rfl, rfl, rfl⟩ rfl sh_64 rfl (kX10_days hq) (Nat.le_of_ble_eq_true rfl) ?_
  refine a_iconst C eX10_isDay_6 (1 : Int32) c_iconst_1 ?_
  refine a_isub C eX10_isDay_7 ?_
  obtain ⟨r_2, hq, h⟩ := b1_e h
  refine a_cSi3 C eX10_isDay_8 wX10_102 ⟨Nat.le_of_ble_eq_true rfl, Nat.le_of_ble_eq_true rfl, rfl, rfl⟩ rfl (kX10_in hq) (Nat.le_of_ble_eq_true rfl) ?_
  obtain ⟨hn_3, h⟩ := gd h
  exact rt_p R eX10_isDay_11 h (nb_b hn_3)
/-! ShelfDrivesModel.four(I)V -/
def LX10_four_3 (p1 : Int32) : Nat → Int32 → Sg → Option Sg
  | 0, _, _ => none
  | n + 1, x2_1, σ_2 => if x2_1 < 0 then (some σ_2) else (if ib (σ_2 64 14) 800 then lt (up σ_2 76 (σ_2 64 14).toNatClampNeg ((p1 >>> (x2_1 &&& 31)) &&& (255 : Int32))) (fun (σ_3 : Sg) => lt (up σ_3 64 14 ((σ_3 64 14) + (1 : Int32))) (fun (σ_5 : Sg) => lt (x2_1 + (-8 : Int32)) (fun (x2_6 : Int32) => LX10_four_3 p1 n x2_6 σ_5))) else none)
def XX10_four (p1 : Int32) (σ : Sg) : Option Sg := LX10_four_3 p1 FUEL (24 : Int32) σ
theorem lX10_four_3 {X : CT} {ad : Nat → Nat} {rr : Sg} {p1 : Int32}  (C : Cx X cX10_four 3 RX10 none { frames := 0, cells := 0, slots := 0, locals := 0 }) (R : Rv X cX10_four ad (SHc ++ SHm) rr)  : ∀ (n : Nat) (x2_1 : Int32) (σ_2 : Sg), LX10_four_3 p1 n x2_1 σ_2 = some rr → AW X 0 0 ad (SHc ++ SHm) σ_2 3 [some (.ref 64), some (.int p1), some (.int x2_1)] [] := by
  intro n
  induction n with
  | zero =>
    intro x2_1 σ_2 h
    rw [LX10_four_3] at h
    cases h
  | succ n ih =>
    intro x2_1 σ_2 h
    rw [LX10_four_3] at h
    refine a_iload_n C eX10_four_3 rfl ?_
    refine a_if_lt C eX10_four_4 (fun hc => ?_) (fun hc => ?_)
    · replace h := it hc h
      exact rt_v R eX10_four_39 h
    · replace h := ie hc h
      refine a_aload_n C eX10_four_7 rfl ?_
      refine a_getR C eX10_four_8 fX10_43 sh_64 rfl ?_
      refine a_aload_n C eX10_four_11 rfl ?_
      refine a_getI C eX10_four_12 fX10_109 sh_64 rfl ?_
      refine a_iload_n C eX10_four_15 rfl ?_
      refine a_iload_n C eX10_four_16 rfl ?_
      refine a_ishr C eX10_four_17 ?_
      refine a_sipush C eX10_four_18 (255 : Int32) c_sipush_255 ?_
      refine a_iand C eX10_four_21 ?_
      obtain ⟨hb_4, h⟩ := gd h
      refine a_iastL C eX10_four_22 sh_76 hb_4 h (fun σ_3 h => ?_)
      refine a_aload_n C eX10_four_23 rfl ?_
      refine a_dup C eX10_four_24 rfl ?_
      refine a_getI C eX10_four_25 fX10_109 sh_64 rfl ?_
      refine a_iconst C eX10_four_28 (1 : Int32) c_iconst_1 ?_
      refine a_iadd C eX10_four_29 ?_
      refine a_putIL C eX10_four_30 fX10_109 ftyX10 rfl rfl sh_64 rfl h (fun σ_5 h => ?_)
      refine a_inc C eX10_four_33 rfl c_iconst_m8 h (fun z => [some (.ref 64), some (.int p1), some (.int z)]) (fun _ => rfl) (fun x2_6 h => ?_)
      refine a_goto C eX10_four_36 ?_
      exact a_less (lle_same (lle_same (lle_same lle_nil))) (ih _ _ h)
theorem kX10_four {p1 : Int32} {σ : Sg} {rr : Sg}  (h : XX10_four p1 σ = some rr) : Cv MX10_four [.ref 64, .int p1] (SHc ++ SHm) σ rr := by
  refine Cv.start rfl rfl (Nat.le_of_ble_eq_true rfl) rfl ?_
  intro X ad C R
  replace C : Cx X cX10_four 3 RX10 none { frames := 0, cells := 0, slots := 0, locals := 0 } := C
  replace R : Rv X cX10_four ad (SHc ++ SHm) rr := R
  show AW X 0 0 ad (SHc ++ SHm) σ 0 [some (.ref 64), some (.int p1), none] []
  rw [XX10_four] at h
  refine a_bipush C eX10_four_0 (24 : Int32) c_bipush_24 ?_
  refine a_ist_n C eX10_four_2 (Nat.le_of_ble_eq_true rfl) [some (.ref 64), some (.int p1), some (.int (24 : Int32))] rfl ?_
  exact a_less (lle_same (lle_same (lle_same lle_nil))) (lX10_four_3  C R  _ _ _ h)
/-! ShelfDrivesModel.feed(IIIII)I -/
def XX10_feed (p1 : Int32) (p2 : Int32) (p3 : Int32) (p4 : Int32) (p5 : Int32) (σ : Sg) : Option (Int32 × Sg) := lt (up σ 64 0 (0 : Int32)) (fun (σ_1 : Sg) => if ((σ_1 64 14) + (20 : Int32)) ≤ (800 : Int32) then (b1 (XX10_four p1 σ_1) (fun (σ_2 : Sg) => b1 (XX10_four p2 σ_2) (fun (σ_3 : Sg) => b1 (XX10_four p3 σ_3) (fun (σ_4 : Sg) => b1 (XX10_four p4 σ_4) (fun (σ_5 : Sg) => b1 (XX10_four p5 σ_5) (fun (σ_6 : Sg) => some (σ_6 64 14, σ_6))))))) else (some ((-1 : Int32), σ_1)))
theorem kX10_feed {p1 : Int32} {p2 : Int32} {p3 : Int32} {p4 : Int32} {p5 : Int32} {σ : Sg} {rr : (Int32 × Sg)}  (h : XX10_feed p1 p2 p3 p4 p5 σ = some rr) : Ci MX10_feed [.ref 64, .int p1, .int p2, .int p3, .int p4, .int p5] (SHc ++ SHm) σ rr := by
  refine Ci.start rfl rfl (Nat.le_of_ble_eq_true rfl) ?_
  intro X ad C R
  replace C : Cx X cX10_feed 6 RX10 (some .int) { frames := 1, cells := 0, slots := 0, locals := 22 } := C
  replace R : Ri X cX10_feed (some .int) ad (SHc ++ SHm) rr := R
  show AW X 0 0 ad (SHc ++ SHm) σ 0 [some (.ref 64), some (.int p1), some (.int p2), some (.int p3), some (.int p4), some (.int p5)] []
  rw [XX10_feed] at h
  refine a_aload_n C eX10_feed_0 rfl ?_
  refine a_iconst C eX10_feed_1 (0 : Int32) c_iconst_0 ?_
  refine a_putIL C eX10_feed_2 fX10_95 ftyX10 rfl rfl sh_64 rfl h (fun σ_1 h => ?_)
  refine a_aload_n C eX10_feed_5 rfl ?_
  refine a_getI C eX10_feed_6 fX10_109 sh_64 rfl ?_
  refine a_bipush C eX10_feed_9 (20 : Int32) c_bipush_20 ?_
  refine a_iadd C eX10_feed_11 ?_
  refine a_sipush C eX10_feed_12 (800 : Int32) c_sipush_800 ?_
  refine a_icmp_le C eX10_feed_15 (fun hc => ?_) (fun hc => ?_)
  · replace h := it hc h
    refine a_aload_n C eX10_feed_20 rfl ?_
    refine a_iload_n C eX10_feed_21 rfl ?_
    obtain ⟨σ_2, hq, h⟩ := b1_e h
    refine a_cVv1 C eX10_feed_22 wX10_112 ⟨Nat.le_of_ble_eq_true rfl, Nat.le_of_ble_eq_true rfl, rfl, rfl⟩ rfl sh_64 rfl (kX10_four hq) (Nat.le_of_ble_eq_true rfl) ?_
    refine a_aload_n C eX10_feed_25 rfl ?_
    refine a_iload_n C eX10_feed_26 rfl ?_
    obtain ⟨σ_3, hq, h⟩ := b1_e h
    refine a_cVv1 C eX10_feed_27 wX10_112 ⟨Nat.le_of_ble_eq_true rfl, Nat.le_of_ble_eq_true rfl, rfl, rfl⟩ rfl sh_64 rfl (kX10_four hq) (Nat.le_of_ble_eq_true rfl) ?_
    refine a_aload_n C eX10_feed_30 rfl ?_
    refine a_iload_n C eX10_feed_31 rfl ?_
    obtain ⟨σ_4, hq, h⟩ := b1_e h
    refine a_cVv1 C eX10_feed_32 wX10_112 ⟨Nat.le_of_ble_eq_true rfl, Nat.le_of_ble_eq_true rfl, rfl, rfl⟩ rfl sh_64 rfl (kX10_four hq) (Nat.le_of_ble_eq_true rfl) ?_
    refine a_aload_n C eX10_feed_35 rfl ?_
    refine a_iload C eX10_feed_36 rfl ?_
    obtain ⟨σ_5, hq, h⟩ := b1_e h
    refine a_cVv1 C eX10_feed_38 wX10_112 ⟨Nat.le_of_ble_eq_true rfl, Nat.le_of_ble_eq_true rfl, rfl, rfl⟩ rfl sh_64 rfl (kX10_four hq) (Nat.le_of_ble_eq_true rfl) ?_
    refine a_aload_n C eX10_feed_41 rfl ?_
    refine a_iload C eX10_feed_42 rfl ?_
    obtain ⟨σ_6, hq, h⟩ := b1_e h
    refine a_cVv1 C eX10_feed_44 wX10_112 ⟨Nat.le_of_ble_eq_true rfl, Nat.le_of_ble_eq_true rfl, rfl, rfl⟩ rfl sh_64 rfl (kX10_four hq) (Nat.le_of_ble_eq_true rfl) ?_
    refine a_aload_n C eX10_feed_47 rfl ?_
    refine a_getI C eX10_feed_48 fX10_109 sh_64 rfl ?_
    exact rt_i R eX10_feed_51 h nb_int
  · replace h := ie hc h
    refine a_iconst C eX10_feed_18 (-1 : Int32) c_iconst_m1 ?_
    exact rt_i R eX10_feed_19 h nb_int
/-! ShelfDrivesModel.end(I)I -/
def XX10_end (p1 : Int32) (σ : Sg) : Option (Int32 × Sg) := lt (up σ 64 0 (0 : Int32)) (fun (σ_1 : Sg) => b1 (XX10_in p1 (0 : Int32) (σ_1 64 14)) (fun (r_2 : Int32) => if r_2 = 0 then (some ((-1 : Int32), σ_1)) else (lt (up σ_1 64 14 p1) (fun (σ_3 : Sg) => some (p1, σ_3)))))
theorem kX10_end {p1 : Int32} {σ : Sg} {rr : (Int32 × Sg)}  (h : XX10_end p1 σ = some rr) : Ci MX10_end [.ref 64, .int p1] (SHc ++ SHm) σ rr := by
  refine Ci.start rfl rfl (Nat.le_of_ble_eq_true rfl) ?_
  intro X ad C R
  replace C : Cx X cX10_end 2 RX10 (some .int) { frames := 1, cells := 0, slots := 0, locals := 22 } := C
  replace R : Ri X cX10_end (some .int) ad (SHc ++ SHm) rr := R
  show AW X 0 0 ad (SHc ++ SHm) σ 0 [some (.ref 64), some (.int p1)] []
  rw [XX10_end] at h
  refine a_aload_n C eX10_end_0 rfl ?_
  refine a_iconst C eX10_end_1 (0 : Int32) c_iconst_0 ?_
  refine a_putIL C eX10_end_2 fX10_95 ftyX10 rfl rfl sh_64 rfl h (fun σ_1 h => ?_)
  refine a_iload_n C eX10_end_5 rfl ?_
  refine a_iconst C eX10_end_6 (0 : Int32) c_iconst_0 ?_
  refine a_aload_n C eX10_end_7 rfl ?_
  refine a_getI C eX10_end_8 fX10_109 sh_64 rfl ?_
  obtain ⟨r_2, hq, h⟩ := b1_e h
  refine a_cSi3 C eX10_end_11 wX10_102 ⟨Nat.le_of_ble_eq_true rfl, Nat.le_of_ble_eq_true rfl, rfl, rfl⟩ rfl (kX10_in hq) (Nat.le_of_ble_eq_true rfl) ?_
  refine a_if_ne C eX10_end_14 (fun hc => ?_) (fun hc => ?_)
  · replace h := ie hc h
    refine a_aload_n C eX10_end_19 rfl ?_
    refine a_iload_n C eX10_end_20 rfl ?_
    refine a_putIL C eX10_end_21 fX10_109 ftyX10 rfl rfl sh_64 rfl h (fun σ_3 h => ?_)
    refine a_iload_n C eX10_end_24 rfl ?_
    exact rt_i R eX10_end_25 h nb_int
  · replace h := it hc h
    refine a_iconst C eX10_end_17 (-1 : Int32) c_iconst_m1 ?_
    exact rt_i R eX10_end_18 h nb_int
/-! ShelfDrivesModel.byteAt(I)I -/
def XX10_byteAt (p1 : Int32) (σ : Sg) : Option Int32 := if (σ 64 15) ≤ p1 then (some (-1 : Int32)) else (if ib p1 800 then some (σ 76 p1.toNatClampNeg) else none)
theorem kX10_byteAt {p1 : Int32} {σ : Sg} {rr : Int32}  (h : XX10_byteAt p1 σ = some rr) : Ci MX10_byteAt [.ref 64, .int p1] (SHc ++ SHm) σ (rr, σ) := by
  refine Ci.start rfl rfl (Nat.le_of_ble_eq_true rfl) ?_
  intro X ad C R
  replace C : Cx X cX10_byteAt 2 RX10 (some .int) { frames := 0, cells := 0, slots := 0, locals := 0 } := C
  replace R : Ri X cX10_byteAt (some .int) ad (SHc ++ SHm) (rr, σ) := R
  show AW X 0 0 ad (SHc ++ SHm) σ 0 [some (.ref 64), some (.int p1)] []
  rw [XX10_byteAt] at h
  refine a_iload_n C eX10_byteAt_0 rfl ?_
  refine a_aload_n C eX10_byteAt_1 rfl ?_
  refine a_getI C eX10_byteAt_2 fX10_116 sh_64 rfl ?_
  refine a_icmp_ge C eX10_byteAt_5 (fun hc => ?_) (fun hc => ?_)
  · replace h := it hc h
    refine a_iconst C eX10_byteAt_17 (-1 : Int32) c_iconst_m1 ?_
    exact rt_p R eX10_byteAt_18 h nb_int
  · replace h := ie hc h
    refine a_aload_n C eX10_byteAt_8 rfl ?_
    refine a_getR C eX10_byteAt_9 fX10_43 sh_64 rfl ?_
    refine a_iload_n C eX10_byteAt_12 rfl ?_
    obtain ⟨hb_1, h⟩ := gd h
    refine a_iald C eX10_byteAt_13 sh_76 hb_1 ?_
    refine a_goto C eX10_byteAt_14 ?_
    exact rt_p R eX10_byteAt_18 h nb_int
/-! ShelfDrivesModel.isSmall(I)Z -/
def XX10_isSmall (p1 : Int32) : Option Int32 := lt (some (0 : Int32)) (fun (k16_1 : Option Int32) => if p1 < (97 : Int32) then (k16_1) else (if (122 : Int32) < p1 then (k16_1) else (some (1 : Int32))))
theorem kX10_isSmall {p1 : Int32} {σ : Sg} {rr : Int32}  (h : XX10_isSmall p1 = some rr) : Ci MX10_isSmall [.int p1] (SHc ++ SHm) σ (rr, σ) := by
  refine Ci.start rfl rfl (Nat.le_of_ble_eq_true rfl) ?_
  intro X ad C R
  replace C : Cx X cX10_isSmall 1 RX10 (some .boolean) { frames := 0, cells := 0, slots := 0, locals := 0 } := C
  replace R : Ri X cX10_isSmall (some .boolean) ad (SHc ++ SHm) (rr, σ) := R
  show AW X 0 0 ad (SHc ++ SHm) σ 0 [some (.int p1)] []
  rw [XX10_isSmall] at h
  refine a_iload_n C eX10_isSmall_0 rfl ?_
  refine a_bipush C eX10_isSmall_1 (97 : Int32) c_bipush_97 ?_
  refine jn (fun (kk : Option Int32) => kk = some rr → AW X 0 0 ad (SHc ++ SHm) σ 16 [none] []) h ?_ (fun k16_1 hk16_1 h => ?_)
  · intro h
    refine a_iconst C eX10_isSmall_16 (0 : Int32) c_iconst_0 ?_
    exact rt_p R eX10_isSmall_17 h nb_0
  refine a_icmp_lt C eX10_isSmall_3 (fun hc => ?_) (fun hc => ?_)
  · replace h := it hc h
    exact a_less (lle_drop lle_nil) (hk16_1 h)
  · replace h := ie hc h
    refine a_iload_n C eX10_isSmall_6 rfl ?_
    refine a_bipush C eX10_isSmall_7 (122 : Int32) c_bipush_122 ?_
    refine a_icmp_gt C eX10_isSmall_9 (fun hc => ?_) (fun hc => ?_)
    · replace h := it hc h
      exact a_less (lle_drop lle_nil) (hk16_1 h)
    · replace h := ie hc h
      refine a_iconst C eX10_isSmall_12 (1 : Int32) c_iconst_1 ?_
      refine a_goto C eX10_isSmall_13 ?_
      exact rt_p R eX10_isSmall_17 h nb_1
/-! ShelfDrivesModel.isDigit(I)Z -/
def XX10_isDigit (p1 : Int32) : Option Int32 := lt (some (0 : Int32)) (fun (k16_1 : Option Int32) => if p1 < (48 : Int32) then (k16_1) else (if (57 : Int32) < p1 then (k16_1) else (some (1 : Int32))))
theorem kX10_isDigit {p1 : Int32} {σ : Sg} {rr : Int32}  (h : XX10_isDigit p1 = some rr) : Ci MX10_isDigit [.int p1] (SHc ++ SHm) σ (rr, σ) := by
  refine Ci.start rfl rfl (Nat.le_of_ble_eq_true rfl) ?_
  intro X ad C R
  replace C : Cx X cX10_isDigit 1 RX10 (some .boolean) { frames := 0, cells := 0, slots := 0, locals := 0 } := C
  replace R : Ri X cX10_isDigit (some .boolean) ad (SHc ++ SHm) (rr, σ) := R
  show AW X 0 0 ad (SHc ++ SHm) σ 0 [some (.int p1)] []
  rw [XX10_isDigit] at h
  refine a_iload_n C eX10_isDigit_0 rfl ?_
  refine a_bipush C eX10_isDigit_1 (48 : Int32) c_bipush_48 ?_
  refine jn (fun (kk : Option Int32) => kk = some rr → AW X 0 0 ad (SHc ++ SHm) σ 16 [none] []) h ?_ (fun k16_1 hk16_1 h => ?_)
  · intro h
    refine a_iconst C eX10_isDigit_16 (0 : Int32) c_iconst_0 ?_
    exact rt_p R eX10_isDigit_17 h nb_0
  refine a_icmp_lt C eX10_isDigit_3 (fun hc => ?_) (fun hc => ?_)
  · replace h := it hc h
    exact a_less (lle_drop lle_nil) (hk16_1 h)
  · replace h := ie hc h
    refine a_iload_n C eX10_isDigit_6 rfl ?_
    refine a_bipush C eX10_isDigit_7 (57 : Int32) c_bipush_57 ?_
    refine a_icmp_gt C eX10_isDigit_9 (fun hc => ?_) (fun hc => ?_)
    · replace h := it hc h
      exact a_less (lle_drop lle_nil) (hk16_1 h)
    · replace h := ie hc h
      refine a_iconst C eX10_isDigit_12 (1 : Int32) c_iconst_1 ?_
      refine a_goto C eX10_isDigit_13 ?_
      exact rt_p R eX10_isDigit_17 h nb_1
/-! ShelfDrivesModel.isGood()Z -/
def XX10_isGood (σ : Sg) : Option Int32 := if (σ 64 22) = 0 then (some (1 : Int32)) else (some (0 : Int32))
theorem kX10_isGood {σ : Sg} {rr : Int32}  (h : XX10_isGood σ = some rr) : Ci MX10_isGood [.ref 64] (SHc ++ SHm) σ (rr, σ) := by
  refine Ci.start rfl rfl (Nat.le_of_ble_eq_true rfl) ?_
  intro X ad C R
  replace C : Cx X cX10_isGood 1 RX10 (some .boolean) { frames := 0, cells := 0, slots := 0, locals := 0 } := C
  replace R : Ri X cX10_isGood (some .boolean) ad (SHc ++ SHm) (rr, σ) := R
  show AW X 0 0 ad (SHc ++ SHm) σ 0 [some (.ref 64)] []
  rw [XX10_isGood] at h
  refine a_aload_n C eX10_isGood_0 rfl ?_
  refine a_getI C eX10_isGood_1 fX10_119 sh_64 rfl ?_
  refine a_if_ne C eX10_isGood_4 (fun hc => ?_) (fun hc => ?_)
  · replace h := ie hc h
    refine a_iconst C eX10_isGood_11 (0 : Int32) c_iconst_0 ?_
    exact rt_p R eX10_isGood_12 h nb_0
  · replace h := it hc h
    refine a_iconst C eX10_isGood_7 (1 : Int32) c_iconst_1 ?_
    refine a_goto C eX10_isGood_8 ?_
    exact rt_p R eX10_isGood_12 h nb_1
/-! ShelfDrivesModel.fails(I)V -/
def XX10_fails (p1 : Int32) (σ : Sg) : Option Sg := if (σ 64 22) = 0 then (lt (fun (s_1 : Int32) => lt (up σ 64 22 s_1) (fun (σ_3 : Sg) => lt (up σ_3 64 23 (σ_3 64 16)) (fun (σ_4 : Sg) => some σ_4))) (fun (k21_2 : Int32 → Option Sg) => if (σ 64 18) = (4 : Int32) then (k21_2 (1 : Int32)) else (k21_2 p1))) else (some σ)
theorem kX10_fails {p1 : Int32} {σ : Sg} {rr : Sg}  (h : XX10_fails p1 σ = some rr) : Cv MX10_fails [.ref 64, .int p1] (SHc ++ SHm) σ rr := by
  refine Cv.start rfl rfl (Nat.le_of_ble_eq_true rfl) rfl ?_
  intro X ad C R
  replace C : Cx X cX10_fails 2 RX10 none { frames := 0, cells := 0, slots := 0, locals := 0 } := C
  replace R : Rv X cX10_fails ad (SHc ++ SHm) rr := R
  show AW X 0 0 ad (SHc ++ SHm) σ 0 [some (.ref 64), some (.int p1)] []
  rw [XX10_fails] at h
  refine a_aload_n C eX10_fails_0 rfl ?_
  refine a_getI C eX10_fails_1 fX10_119 sh_64 rfl ?_
  refine a_if_ne C eX10_fails_4 (fun hc => ?_) (fun hc => ?_)
  · replace h := ie hc h
    exact rt_v R eX10_fails_32 h
  · replace h := it hc h
    refine a_aload_n C eX10_fails_7 rfl ?_
    refine a_aload_n C eX10_fails_8 rfl ?_
    refine a_getI C eX10_fails_9 fX10_122 sh_64 rfl ?_
    refine a_iconst C eX10_fails_12 (4 : Int32) c_iconst_4 ?_
    refine jn (fun (kk : Int32 → Option Sg) => ∀ (s_1 : Int32), kk s_1 = some rr → AW X 0 0 ad (SHc ++ SHm) σ 21 [some (.ref 64), none] [.int s_1, .ref 64]) h ?_ (fun k21_2 hk21_2 h => ?_)
    · intro s_1 h
      refine a_putIL C eX10_fails_21 fX10_119 ftyX10 rfl rfl sh_64 rfl h (fun σ_3 h => ?_)
      refine a_aload_n C eX10_fails_24 rfl ?_
      refine a_aload_n C eX10_fails_25 rfl ?_
      refine a_getI C eX10_fails_26 fX10_125 sh_64 rfl ?_
      refine a_putIL C eX10_fails_29 fX10_128 ftyX10 rfl rfl sh_64 rfl h (fun σ_4 h => ?_)
      exact rt_v R eX10_fails_32 h
    refine a_icmp_ne C eX10_fails_13 (fun hc => ?_) (fun hc => ?_)
    · replace h := ie hc h
      refine a_iload_n C eX10_fails_20 rfl ?_
      exact a_less (lle_same (lle_drop lle_nil)) (hk21_2 _ h)
    · replace h := it hc h
      refine a_iconst C eX10_fails_16 (1 : Int32) c_iconst_1 ?_
      refine a_goto C eX10_fails_17 ?_
      exact a_less (lle_same (lle_drop lle_nil)) (hk21_2 _ h)
/-! ShelfDrivesModel.goOn()V -/
def LX10_goOn_193 (k260_14 : Sg → Option Sg) : Nat → Sg → Option Sg
  | 0, _ => none
  | n + 1, σ_21 => b1 (XX10_byteAt (σ_21 64 17) σ_21) (fun (r_22 : Int32) => b1 (XX10_isDigit r_22) (fun (r_23 : Int32) => if r_23 = 0 then (k260_14 σ_21) else (lt (fun (s_24 : Int32) => lt (up σ_21 64 19 s_24) (fun (σ_26 : Sg) => lt (up σ_26 64 17 ((σ_26 64 17) + (1 : Int32))) (fun (σ_27 : Sg) => LX10_goOn_193 k260_14 n σ_27))) (fun (k244_25 : Int32 → Option Sg) => if (σ_21 64 19) ≤ (9999 : Int32) then (b1 (XX10_byteAt (σ_21 64 17) σ_21) (fun (r_28 : Int32) => k244_25 ((((σ_21 64 19) * (10 : Int32)) + r_28) - (48 : Int32)))) else (k244_25 (σ_21 64 19))))))
def LX10_goOn_89 (k160_30 : Sg → Option Sg) : Nat → Sg → Option Sg
  | 0, _ => none
  | n + 1, σ_34 => b1 (XX10_byteAt (σ_34 64 17) σ_34) (fun (r_35 : Int32) => b1 (XX10_isSmall r_35) (fun (r_36 : Int32) => if r_36 = 0 then (k160_30 σ_34) else (lt (fun (s_37 : Int32) => lt (up σ_34 64 19 s_37) (fun (σ_39 : Sg) => lt (up σ_39 64 17 ((σ_39 64 17) + (1 : Int32))) (fun (σ_40 : Sg) => LX10_goOn_89 k160_30 n σ_40))) (fun (k144_38 : Int32 → Option Sg) => if (6 : Int32) ≤ ((σ_34 64 17) - (σ_34 64 16)) then (k144_38 (σ_34 64 19)) else (b1 (XX10_byteAt (σ_34 64 17) σ_34) (fun (r_41 : Int32) => k144_38 ((((σ_34 64 19) * (32 : Int32)) + r_41) - (96 : Int32))))))))
def LX10_goOn_8 (k47_3 : Sg → Option Sg) : Nat → Sg → Option Sg
  | 0, _ => none
  | n + 1, σ_43 => b1 (XX10_byteAt (σ_43 64 17) σ_43) (fun (r_44 : Int32) => lt (lt (up σ_43 64 17 ((σ_43 64 17) + (1 : Int32))) (fun (σ_46 : Sg) => LX10_goOn_8 k47_3 n σ_46)) (fun (k34_45 : Option Sg) => if r_44 = (32 : Int32) then (k34_45) else (b1 (XX10_byteAt (σ_43 64 17) σ_43) (fun (r_47 : Int32) => if r_47 = (10 : Int32) then (k34_45) else (k47_3 σ_43)))))
def XX10_goOn (σ : Sg) : Option Sg := b1 (XX10_isGood σ) (fun (r_1 : Int32) => if r_1 = 0 then (some σ) else (lt (fun (σ_2 : Sg) => lt (up σ_2 64 16 (σ_2 64 17)) (fun (σ_4 : Sg) => b1 (XX10_byteAt (σ_4 64 16) σ_4) (fun (r_5 : Int32) => lt (up σ_4 64 19 (0 : Int32)) (fun (σ_6 : Sg) => if r_5 = (-1 : Int32) then (lt (up σ_6 64 18 (0 : Int32)) (fun (σ_42 : Sg) => some σ_42)) else (b1 (XX10_isSmall r_5) (fun (r_7 : Int32) => if r_7 = 0 then (b1 (XX10_isDigit r_5) (fun (r_8 : Int32) => if r_8 = 0 then (lt (up σ_6 64 17 ((σ_6 64 17) + (1 : Int32))) (fun (σ_9 : Sg) => lt (fun (s_10 : Int32) => lt (up σ_9 64 18 s_10) (fun (σ_12 : Sg) => some σ_12)) (fun (k321_11 : Int32 → Option Sg) => if r_5 = (59 : Int32) then (k321_11 (3 : Int32)) else (k321_11 (4 : Int32))))) else (lt (fun (σ_13 : Sg) => lt (fun (s_15 : Int32) => lt (up σ_13 64 18 s_15) (fun (σ_17 : Sg) => some σ_17)) (fun (k293_16 : Int32 → Option Sg) => lt (k293_16 (4 : Int32)) (fun (k288_18 : Option Sg) => if (2 : Int32) < ((σ_13 64 17) - (σ_13 64 16)) then (k288_18) else (b1 (XX10_byteAt (σ_13 64 17) σ_13) (fun (r_19 : Int32) => b1 (XX10_isSmall r_19) (fun (r_20 : Int32) => if r_20 = 0 then (k293_16 (2 : Int32)) else (k288_18))))))) (fun (k260_14 : Sg → Option Sg) => LX10_goOn_193 k260_14 FUEL σ_6)))) else (lt (fun (σ_29 : Sg) => lt (fun (s_31 : Int32) => lt (up σ_29 64 18 s_31) (fun (σ_33 : Sg) => some σ_33)) (fun (k180_32 : Int32 → Option Sg) => if ((σ_29 64 17) - (σ_29 64 16)) ≤ (6 : Int32) then (k180_32 (1 : Int32)) else (k180_32 (4 : Int32)))) (fun (k160_30 : Sg → Option Sg) => LX10_goOn_89 k160_30 FUEL σ_6)))))))) (fun (k47_3 : Sg → Option Sg) => LX10_goOn_8 k47_3 FUEL σ)))
theorem lX10_goOn_193 {X : CT} {ad : Nat → Nat} {rr : Sg} {k260_14 : Sg → Option Sg}  (C : Cx X cX10_goOn 2 RX10 none { frames := 1, cells := 0, slots := 0, locals := 21 }) (R : Rv X cX10_goOn ad (SHc ++ SHm) rr) (hk260_14 : ∀ (σ_13 : Sg), k260_14 σ_13 = some rr → AW X 0 0 ad (SHc ++ SHm) σ_13 260 [some (.ref 64), none] []) : ∀ (n : Nat) (σ_21 : Sg), LX10_goOn_193 k260_14 n σ_21 = some rr → AW X 0 0 ad (SHc ++ SHm) σ_21 193 [some (.ref 64), none] [] := by
  intro n
  induction n with
  | zero =>
    intro σ_21 h
    rw [LX10_goOn_193] at h
    cases h
  | succ n ih =>
    intro σ_21 h
    rw [LX10_goOn_193] at h
    refine a_aload_n C eX10_goOn_193 rfl ?_
    refine a_aload_n C eX10_goOn_194 rfl ?_
    refine a_getI C eX10_goOn_195 fX10_135 sh_64 rfl ?_
    obtain ⟨r_22, hq, h⟩ := b1_e h
    refine a_cVi1 C eX10_goOn_198 wX10_138 ⟨Nat.le_of_ble_eq_true rfl, Nat.le_of_ble_eq_true rfl, rfl, rfl⟩ rfl sh_64 rfl (kX10_byteAt hq) (Nat.le_of_ble_eq_true rfl) ?_
    obtain ⟨r_23, hq, h⟩ := b1_e h
    refine a_cSi1 C eX10_goOn_201 wX10_149 ⟨Nat.le_of_ble_eq_true rfl, Nat.le_of_ble_eq_true rfl, rfl, rfl⟩ rfl (kX10_isDigit hq) (Nat.le_of_ble_eq_true rfl) ?_
    refine a_if_eq C eX10_goOn_204 (fun hc => ?_) (fun hc => ?_)
    · replace h := it hc h
      exact a_less (lle_same (lle_same lle_nil)) (hk260_14 _ h)
    · replace h := ie hc h
      refine a_aload_n C eX10_goOn_207 rfl ?_
      refine a_aload_n C eX10_goOn_208 rfl ?_
      refine a_getI C eX10_goOn_209 fX10_142 sh_64 rfl ?_
      refine a_sipush C eX10_goOn_212 (9999 : Int32) c_sipush_9999 ?_
      refine jn (fun (kk : Int32 → Option Sg) => ∀ (s_24 : Int32), kk s_24 = some rr → AW X 0 0 ad (SHc ++ SHm) σ_21 244 [some (.ref 64), none] [.int s_24, .ref 64]) h ?_ (fun k244_25 hk244_25 h => ?_)
      · intro s_24 h
        refine a_putIL C eX10_goOn_244 fX10_142 ftyX10 rfl rfl sh_64 rfl h (fun σ_26 h => ?_)
        refine a_aload_n C eX10_goOn_247 rfl ?_
        refine a_dup C eX10_goOn_248 rfl ?_
        refine a_getI C eX10_goOn_249 fX10_135 sh_64 rfl ?_
        refine a_iconst C eX10_goOn_252 (1 : Int32) c_iconst_1 ?_
        refine a_iadd C eX10_goOn_253 ?_
        refine a_putIL C eX10_goOn_254 fX10_135 ftyX10 rfl rfl sh_64 rfl h (fun σ_27 h => ?_)
        refine a_goto C eX10_goOn_257 ?_
        exact a_less (lle_same (lle_same lle_nil)) (ih _ h)
      refine a_icmp_le C eX10_goOn_215 (fun hc => ?_) (fun hc => ?_)
      · replace h := it hc h
        refine a_aload_n C eX10_goOn_225 rfl ?_
        refine a_getI C eX10_goOn_226 fX10_142 sh_64 rfl ?_
        refine a_bipush C eX10_goOn_229 (10 : Int32) c_bipush_10 ?_
        refine a_imul C eX10_goOn_231 ?_
        refine a_aload_n C eX10_goOn_232 rfl ?_
        refine a_aload_n C eX10_goOn_233 rfl ?_
        refine a_getI C eX10_goOn_234 fX10_135 sh_64 rfl ?_
        obtain ⟨r_28, hq, h⟩ := b1_e h
        refine a_cVi1 C eX10_goOn_237 wX10_138 ⟨Nat.le_of_ble_eq_true rfl, Nat.le_of_ble_eq_true rfl, rfl, rfl⟩ rfl sh_64 rfl (kX10_byteAt hq) (Nat.le_of_ble_eq_true rfl) ?_
        refine a_iadd C eX10_goOn_240 ?_
        refine a_bipush C eX10_goOn_241 (48 : Int32) c_bipush_48 ?_
        refine a_isub C eX10_goOn_243 ?_
        exact a_less (lle_same (lle_same lle_nil)) (hk244_25 _ h)
      · replace h := ie hc h
        refine a_aload_n C eX10_goOn_218 rfl ?_
        refine a_getI C eX10_goOn_219 fX10_142 sh_64 rfl ?_
        refine a_goto C eX10_goOn_222 ?_
        exact a_less (lle_same (lle_same lle_nil)) (hk244_25 _ h)
theorem lX10_goOn_89 {X : CT} {ad : Nat → Nat} {rr : Sg} {k160_30 : Sg → Option Sg}  (C : Cx X cX10_goOn 2 RX10 none { frames := 1, cells := 0, slots := 0, locals := 21 }) (R : Rv X cX10_goOn ad (SHc ++ SHm) rr) (hk160_30 : ∀ (σ_29 : Sg), k160_30 σ_29 = some rr → AW X 0 0 ad (SHc ++ SHm) σ_29 160 [some (.ref 64), none] []) : ∀ (n : Nat) (σ_34 : Sg), LX10_goOn_89 k160_30 n σ_34 = some rr → AW X 0 0 ad (SHc ++ SHm) σ_34 89 [some (.ref 64), none] [] := by
  intro n
  induction n with
  | zero =>
    intro σ_34 h
    rw [LX10_goOn_89] at h
    cases h
  | succ n ih =>
    intro σ_34 h
    rw [LX10_goOn_89] at h
    refine a_aload_n C eX10_goOn_89 rfl ?_
    refine a_aload_n C eX10_goOn_90 rfl ?_
    refine a_getI C eX10_goOn_91 fX10_135 sh_64 rfl ?_
    obtain ⟨r_35, hq, h⟩ := b1_e h
    refine a_cVi1 C eX10_goOn_94 wX10_138 ⟨Nat.le_of_ble_eq_true rfl, Nat.le_of_ble_eq_true rfl, rfl, rfl⟩ rfl sh_64 rfl (kX10_byteAt hq) (Nat.le_of_ble_eq_true rfl) ?_
    obtain ⟨r_36, hq, h⟩ := b1_e h
    refine a_cSi1 C eX10_goOn_97 wX10_145 ⟨Nat.le_of_ble_eq_true rfl, Nat.le_of_ble_eq_true rfl, rfl, rfl⟩ rfl (kX10_isSmall hq) (Nat.le_of_ble_eq_true rfl) ?_
    refine a_if_eq C eX10_goOn_100 (fun hc => ?_) (fun hc => ?_)
    · replace h := it hc h
      exact a_less (lle_same (lle_same lle_nil)) (hk160_30 _ h)
    · replace h := ie hc h
      refine a_aload_n C eX10_goOn_103 rfl ?_
      refine a_aload_n C eX10_goOn_104 rfl ?_
      refine a_getI C eX10_goOn_105 fX10_135 sh_64 rfl ?_
      refine a_aload_n C eX10_goOn_108 rfl ?_
      refine a_getI C eX10_goOn_109 fX10_125 sh_64 rfl ?_
      refine a_isub C eX10_goOn_112 ?_
      refine a_bipush C eX10_goOn_113 (6 : Int32) c_bipush_6 ?_
      refine jn (fun (kk : Int32 → Option Sg) => ∀ (s_37 : Int32), kk s_37 = some rr → AW X 0 0 ad (SHc ++ SHm) σ_34 144 [some (.ref 64), none] [.int s_37, .ref 64]) h ?_ (fun k144_38 hk144_38 h => ?_)
      · intro s_37 h
        refine a_putIL C eX10_goOn_144 fX10_142 ftyX10 rfl rfl sh_64 rfl h (fun σ_39 h => ?_)
        refine a_aload_n C eX10_goOn_147 rfl ?_
        refine a_dup C eX10_goOn_148 rfl ?_
        refine a_getI C eX10_goOn_149 fX10_135 sh_64 rfl ?_
        refine a_iconst C eX10_goOn_152 (1 : Int32) c_iconst_1 ?_
        refine a_iadd C eX10_goOn_153 ?_
        refine a_putIL C eX10_goOn_154 fX10_135 ftyX10 rfl rfl sh_64 rfl h (fun σ_40 h => ?_)
        refine a_goto C eX10_goOn_157 ?_
        exact a_less (lle_same (lle_same lle_nil)) (ih _ h)
      refine a_icmp_ge C eX10_goOn_115 (fun hc => ?_) (fun hc => ?_)
      · replace h := it hc h
        refine a_aload_n C eX10_goOn_140 rfl ?_
        refine a_getI C eX10_goOn_141 fX10_142 sh_64 rfl ?_
        exact a_less (lle_same (lle_same lle_nil)) (hk144_38 _ h)
      · replace h := ie hc h
        refine a_aload_n C eX10_goOn_118 rfl ?_
        refine a_getI C eX10_goOn_119 fX10_142 sh_64 rfl ?_
        refine a_bipush C eX10_goOn_122 (32 : Int32) c_bipush_32 ?_
        refine a_imul C eX10_goOn_124 ?_
        refine a_aload_n C eX10_goOn_125 rfl ?_
        refine a_aload_n C eX10_goOn_126 rfl ?_
        refine a_getI C eX10_goOn_127 fX10_135 sh_64 rfl ?_
        obtain ⟨r_41, hq, h⟩ := b1_e h
        refine a_cVi1 C eX10_goOn_130 wX10_138 ⟨Nat.le_of_ble_eq_true rfl, Nat.le_of_ble_eq_true rfl, rfl, rfl⟩ rfl sh_64 rfl (kX10_byteAt hq) (Nat.le_of_ble_eq_true rfl) ?_
        refine a_iadd C eX10_goOn_133 ?_
        refine a_bipush C eX10_goOn_134 (96 : Int32) c_bipush_96 ?_
        refine a_isub C eX10_goOn_136 ?_
        refine a_goto C eX10_goOn_137 ?_
        exact a_less (lle_same (lle_same lle_nil)) (hk144_38 _ h)
theorem lX10_goOn_8 {X : CT} {ad : Nat → Nat} {rr : Sg} {k47_3 : Sg → Option Sg}  (C : Cx X cX10_goOn 2 RX10 none { frames := 1, cells := 0, slots := 0, locals := 21 }) (R : Rv X cX10_goOn ad (SHc ++ SHm) rr) (hk47_3 : ∀ (σ_2 : Sg), k47_3 σ_2 = some rr → AW X 0 0 ad (SHc ++ SHm) σ_2 47 [some (.ref 64), none] []) : ∀ (n : Nat) (σ_43 : Sg), LX10_goOn_8 k47_3 n σ_43 = some rr → AW X 0 0 ad (SHc ++ SHm) σ_43 8 [some (.ref 64), none] [] := by
  intro n
  induction n with
  | zero =>
    intro σ_43 h
    rw [LX10_goOn_8] at h
    cases h
  | succ n ih =>
    intro σ_43 h
    rw [LX10_goOn_8] at h
    refine a_aload_n C eX10_goOn_8 rfl ?_
    refine a_aload_n C eX10_goOn_9 rfl ?_
    refine a_getI C eX10_goOn_10 fX10_135 sh_64 rfl ?_
    obtain ⟨r_44, hq, h⟩ := b1_e h
    refine a_cVi1 C eX10_goOn_13 wX10_138 ⟨Nat.le_of_ble_eq_true rfl, Nat.le_of_ble_eq_true rfl, rfl, rfl⟩ rfl sh_64 rfl (kX10_byteAt hq) (Nat.le_of_ble_eq_true rfl) ?_
    refine a_bipush C eX10_goOn_16 (32 : Int32) c_bipush_32 ?_
    refine jn (fun (kk : Option Sg) => kk = some rr → AW X 0 0 ad (SHc ++ SHm) σ_43 34 [some (.ref 64), none] []) h ?_ (fun k34_45 hk34_45 h => ?_)
    · intro h
      refine a_aload_n C eX10_goOn_34 rfl ?_
      refine a_dup C eX10_goOn_35 rfl ?_
      refine a_getI C eX10_goOn_36 fX10_135 sh_64 rfl ?_
      refine a_iconst C eX10_goOn_39 (1 : Int32) c_iconst_1 ?_
      refine a_iadd C eX10_goOn_40 ?_
      refine a_putIL C eX10_goOn_41 fX10_135 ftyX10 rfl rfl sh_64 rfl h (fun σ_46 h => ?_)
      refine a_goto C eX10_goOn_44 ?_
      exact a_less (lle_same (lle_same lle_nil)) (ih _ h)
    refine a_icmp_eq C eX10_goOn_18 (fun hc => ?_) (fun hc => ?_)
    · replace h := it hc h
      exact a_less (lle_same (lle_same lle_nil)) (hk34_45 h)
    · replace h := ie hc h
      refine a_aload_n C eX10_goOn_21 rfl ?_
      refine a_aload_n C eX10_goOn_22 rfl ?_
      refine a_getI C eX10_goOn_23 fX10_135 sh_64 rfl ?_
      obtain ⟨r_47, hq, h⟩ := b1_e h
      refine a_cVi1 C eX10_goOn_26 wX10_138 ⟨Nat.le_of_ble_eq_true rfl, Nat.le_of_ble_eq_true rfl, rfl, rfl⟩ rfl sh_64 rfl (kX10_byteAt hq) (Nat.le_of_ble_eq_true rfl) ?_
      refine a_bipush C eX10_goOn_29 (10 : Int32) c_bipush_10 ?_
      refine a_icmp_ne C eX10_goOn_31 (fun hc => ?_) (fun hc => ?_)
      · replace h := ie hc h
        exact a_less (lle_same (lle_same lle_nil)) (hk47_3 _ h)
      · replace h := it hc h
        exact a_less (lle_same (lle_same lle_nil)) (hk34_45 h)
theorem kX10_goOn {σ : Sg} {rr : Sg}  (h : XX10_goOn σ = some rr) : Cv MX10_goOn [.ref 64] (SHc ++ SHm) σ rr := by
  refine Cv.start rfl rfl (Nat.le_of_ble_eq_true rfl) rfl ?_
  intro X ad C R
  replace C : Cx X cX10_goOn 2 RX10 none { frames := 1, cells := 0, slots := 0, locals := 21 } := C
  replace R : Rv X cX10_goOn ad (SHc ++ SHm) rr := R
  show AW X 0 0 ad (SHc ++ SHm) σ 0 [some (.ref 64), none] []
  rw [XX10_goOn] at h
  refine a_aload_n C eX10_goOn_0 rfl ?_
  obtain ⟨r_1, hq, h⟩ := b1_e h
  refine a_cVi0 C eX10_goOn_1 wX10_131 ⟨Nat.le_of_ble_eq_true rfl, Nat.le_of_ble_eq_true rfl, rfl, rfl⟩ rfl sh_64 rfl (kX10_isGood hq) (Nat.le_of_ble_eq_true rfl) ?_
  refine a_if_ne C eX10_goOn_4 (fun hc => ?_) (fun hc => ?_)
  · replace h := ie hc h
    refine jn (fun (kk : Sg → Option Sg) => ∀ (σ_2 : Sg), kk σ_2 = some rr → AW X 0 0 ad (SHc ++ SHm) σ_2 47 [some (.ref 64), none] []) h ?_ (fun k47_3 hk47_3 h => ?_)
    · intro σ_2 h
      refine a_aload_n C eX10_goOn_47 rfl ?_
      refine a_aload_n C eX10_goOn_48 rfl ?_
      refine a_getI C eX10_goOn_49 fX10_135 sh_64 rfl ?_
      refine a_putIL C eX10_goOn_52 fX10_125 ftyX10 rfl rfl sh_64 rfl h (fun σ_4 h => ?_)
      refine a_aload_n C eX10_goOn_55 rfl ?_
      refine a_aload_n C eX10_goOn_56 rfl ?_
      refine a_getI C eX10_goOn_57 fX10_125 sh_64 rfl ?_
      obtain ⟨r_5, hq, h⟩ := b1_e h
      refine a_cVi1 C eX10_goOn_60 wX10_138 ⟨Nat.le_of_ble_eq_true rfl, Nat.le_of_ble_eq_true rfl, rfl, rfl⟩ rfl sh_64 rfl (kX10_byteAt hq) (Nat.le_of_ble_eq_true rfl) ?_
      refine a_ist_n C eX10_goOn_63 (Nat.le_of_ble_eq_true rfl) [some (.ref 64), some (.int r_5)] rfl ?_
      refine a_aload_n C eX10_goOn_64 rfl ?_
      refine a_iconst C eX10_goOn_65 (0 : Int32) c_iconst_0 ?_
      refine a_putIL C eX10_goOn_66 fX10_142 ftyX10 rfl rfl sh_64 rfl h (fun σ_6 h => ?_)
      refine a_iload_n C eX10_goOn_69 rfl ?_
      refine a_iconst C eX10_goOn_70 (-1 : Int32) c_iconst_m1 ?_
      refine a_icmp_ne C eX10_goOn_71 (fun hc => ?_) (fun hc => ?_)
      · replace h := ie hc h
        refine a_iload_n C eX10_goOn_82 rfl ?_
        obtain ⟨r_7, hq, h⟩ := b1_e h
        refine a_cSi1 C eX10_goOn_83 wX10_145 ⟨Nat.le_of_ble_eq_true rfl, Nat.le_of_ble_eq_true rfl, rfl, rfl⟩ rfl (kX10_isSmall hq) (Nat.le_of_ble_eq_true rfl) ?_
        refine a_if_eq C eX10_goOn_86 (fun hc => ?_) (fun hc => ?_)
        · replace h := it hc h
          refine a_iload_n C eX10_goOn_186 rfl ?_
          obtain ⟨r_8, hq, h⟩ := b1_e h
          refine a_cSi1 C eX10_goOn_187 wX10_149 ⟨Nat.le_of_ble_eq_true rfl, Nat.le_of_ble_eq_true rfl, rfl, rfl⟩ rfl (kX10_isDigit hq) (Nat.le_of_ble_eq_true rfl) ?_
          refine a_if_eq C eX10_goOn_190 (fun hc => ?_) (fun hc => ?_)
          · replace h := it hc h
            refine a_aload_n C eX10_goOn_299 rfl ?_
            refine a_dup C eX10_goOn_300 rfl ?_
            refine a_getI C eX10_goOn_301 fX10_135 sh_64 rfl ?_
            refine a_iconst C eX10_goOn_304 (1 : Int32) c_iconst_1 ?_
            refine a_iadd C eX10_goOn_305 ?_
            refine a_putIL C eX10_goOn_306 fX10_135 ftyX10 rfl rfl sh_64 rfl h (fun σ_9 h => ?_)
            refine a_aload_n C eX10_goOn_309 rfl ?_
            refine a_iload_n C eX10_goOn_310 rfl ?_
            refine a_bipush C eX10_goOn_311 (59 : Int32) c_bipush_59 ?_
            refine jn (fun (kk : Int32 → Option Sg) => ∀ (s_10 : Int32), kk s_10 = some rr → AW X 0 0 ad (SHc ++ SHm) σ_9 321 [none, none] [.int s_10, .ref 64]) h ?_ (fun k321_11 hk321_11 h => ?_)
            · intro s_10 h
              refine a_putIL C eX10_goOn_321 fX10_122 ftyX10 rfl rfl sh_64 rfl h (fun σ_12 h => ?_)
              exact rt_v R eX10_goOn_324 h
            refine a_icmp_ne C eX10_goOn_313 (fun hc => ?_) (fun hc => ?_)
            · replace h := ie hc h
              refine a_iconst C eX10_goOn_320 (4 : Int32) c_iconst_4 ?_
              exact a_less (lle_drop (lle_drop lle_nil)) (hk321_11 _ h)
            · replace h := it hc h
              refine a_iconst C eX10_goOn_316 (3 : Int32) c_iconst_3 ?_
              refine a_goto C eX10_goOn_317 ?_
              exact a_less (lle_drop (lle_drop lle_nil)) (hk321_11 _ h)
          · replace h := ie hc h
            refine jn (fun (kk : Sg → Option Sg) => ∀ (σ_13 : Sg), kk σ_13 = some rr → AW X 0 0 ad (SHc ++ SHm) σ_13 260 [some (.ref 64), none] []) h ?_ (fun k260_14 hk260_14 h => ?_)
            · intro σ_13 h
              refine a_aload_n C eX10_goOn_260 rfl ?_
              refine a_aload_n C eX10_goOn_261 rfl ?_
              refine a_getI C eX10_goOn_262 fX10_135 sh_64 rfl ?_
              refine a_aload_n C eX10_goOn_265 rfl ?_
              refine a_getI C eX10_goOn_266 fX10_125 sh_64 rfl ?_
              refine a_isub C eX10_goOn_269 ?_
              refine a_iconst C eX10_goOn_270 (2 : Int32) c_iconst_2 ?_
              refine jn (fun (kk : Int32 → Option Sg) => ∀ (s_15 : Int32), kk s_15 = some rr → AW X 0 0 ad (SHc ++ SHm) σ_13 293 [none, none] [.int s_15, .ref 64]) h ?_ (fun k293_16 hk293_16 h => ?_)
              · intro s_15 h
                refine a_putIL C eX10_goOn_293 fX10_122 ftyX10 rfl rfl sh_64 rfl h (fun σ_17 h => ?_)
                refine a_goto C eX10_goOn_296 ?_
                exact rt_v R eX10_goOn_324 h
              refine jn (fun (kk : Option Sg) => kk = some rr → AW X 0 0 ad (SHc ++ SHm) σ_13 288 [none, none] [.ref 64]) h ?_ (fun k288_18 hk288_18 h => ?_)
              · intro h
                refine a_iconst C eX10_goOn_288 (4 : Int32) c_iconst_4 ?_
                refine a_goto C eX10_goOn_289 ?_
                exact a_less (lle_same (lle_same lle_nil)) (hk293_16 _ h)
              refine a_icmp_gt C eX10_goOn_271 (fun hc => ?_) (fun hc => ?_)
              · replace h := it hc h
                exact a_less (lle_drop (lle_same lle_nil)) (hk288_18 h)
              · replace h := ie hc h
                refine a_aload_n C eX10_goOn_274 rfl ?_
                refine a_aload_n C eX10_goOn_275 rfl ?_
                refine a_getI C eX10_goOn_276 fX10_135 sh_64 rfl ?_
                obtain ⟨r_19, hq, h⟩ := b1_e h
                refine a_cVi1 C eX10_goOn_279 wX10_138 ⟨Nat.le_of_ble_eq_true rfl, Nat.le_of_ble_eq_true rfl, rfl, rfl⟩ rfl sh_64 rfl (kX10_byteAt hq) (Nat.le_of_ble_eq_true rfl) ?_
                obtain ⟨r_20, hq, h⟩ := b1_e h
                refine a_cSi1 C eX10_goOn_282 wX10_145 ⟨Nat.le_of_ble_eq_true rfl, Nat.le_of_ble_eq_true rfl, rfl, rfl⟩ rfl (kX10_isSmall hq) (Nat.le_of_ble_eq_true rfl) ?_
                refine a_if_eq C eX10_goOn_285 (fun hc => ?_) (fun hc => ?_)
                · replace h := it hc h
                  refine a_iconst C eX10_goOn_292 (2 : Int32) c_iconst_2 ?_
                  exact a_less (lle_drop (lle_same lle_nil)) (hk293_16 _ h)
                · replace h := ie hc h
                  exact a_less (lle_drop (lle_same lle_nil)) (hk288_18 h)
            exact a_less (lle_same (lle_drop lle_nil)) (lX10_goOn_193  C R hk260_14 _ _ h)
        · replace h := ie hc h
          refine jn (fun (kk : Sg → Option Sg) => ∀ (σ_29 : Sg), kk σ_29 = some rr → AW X 0 0 ad (SHc ++ SHm) σ_29 160 [some (.ref 64), none] []) h ?_ (fun k160_30 hk160_30 h => ?_)
          · intro σ_29 h
            refine a_aload_n C eX10_goOn_160 rfl ?_
            refine a_aload_n C eX10_goOn_161 rfl ?_
            refine a_getI C eX10_goOn_162 fX10_135 sh_64 rfl ?_
            refine a_aload_n C eX10_goOn_165 rfl ?_
            refine a_getI C eX10_goOn_166 fX10_125 sh_64 rfl ?_
            refine a_isub C eX10_goOn_169 ?_
            refine a_bipush C eX10_goOn_170 (6 : Int32) c_bipush_6 ?_
            refine jn (fun (kk : Int32 → Option Sg) => ∀ (s_31 : Int32), kk s_31 = some rr → AW X 0 0 ad (SHc ++ SHm) σ_29 180 [none, none] [.int s_31, .ref 64]) h ?_ (fun k180_32 hk180_32 h => ?_)
            · intro s_31 h
              refine a_putIL C eX10_goOn_180 fX10_122 ftyX10 rfl rfl sh_64 rfl h (fun σ_33 h => ?_)
              refine a_goto C eX10_goOn_183 ?_
              exact rt_v R eX10_goOn_324 h
            refine a_icmp_le C eX10_goOn_172 (fun hc => ?_) (fun hc => ?_)
            · replace h := it hc h
              refine a_iconst C eX10_goOn_179 (1 : Int32) c_iconst_1 ?_
              exact a_less (lle_drop (lle_same lle_nil)) (hk180_32 _ h)
            · replace h := ie hc h
              refine a_iconst C eX10_goOn_175 (4 : Int32) c_iconst_4 ?_
              refine a_goto C eX10_goOn_176 ?_
              exact a_less (lle_drop (lle_same lle_nil)) (hk180_32 _ h)
          exact a_less (lle_same (lle_drop lle_nil)) (lX10_goOn_89  C R hk160_30 _ _ h)
      · replace h := it hc h
        refine a_aload_n C eX10_goOn_74 rfl ?_
        refine a_iconst C eX10_goOn_75 (0 : Int32) c_iconst_0 ?_
        refine a_putIL C eX10_goOn_76 fX10_122 ftyX10 rfl rfl sh_64 rfl h (fun σ_42 h => ?_)
        refine a_goto C eX10_goOn_79 ?_
        exact rt_v R eX10_goOn_324 h
    exact a_less (lle_same (lle_same lle_nil)) (lX10_goOn_8  C R hk47_3 _ _ h)
  · replace h := it hc h
    exact rt_v R eX10_goOn_7 h
/-! ShelfDrivesModel.isWord(I)Z -/
def XX10_isWord (p1 : Int32) (σ : Sg) : Option Int32 := lt (some (0 : Int32)) (fun (k20_1 : Option Int32) => if (σ 64 18) = (1 : Int32) then (if (σ 64 19) = p1 then (some (1 : Int32)) else (k20_1)) else (k20_1))
theorem kX10_isWord {p1 : Int32} {σ : Sg} {rr : Int32}  (h : XX10_isWord p1 σ = some rr) : Ci MX10_isWord [.ref 64, .int p1] (SHc ++ SHm) σ (rr, σ) := by
  refine Ci.start rfl rfl (Nat.le_of_ble_eq_true rfl) ?_
  intro X ad C R
  replace C : Cx X cX10_isWord 2 RX10 (some .boolean) { frames := 0, cells := 0, slots := 0, locals := 0 } := C
  replace R : Ri X cX10_isWord (some .boolean) ad (SHc ++ SHm) (rr, σ) := R
  show AW X 0 0 ad (SHc ++ SHm) σ 0 [some (.ref 64), some (.int p1)] []
  rw [XX10_isWord] at h
  refine a_aload_n C eX10_isWord_0 rfl ?_
  refine a_getI C eX10_isWord_1 fX10_122 sh_64 rfl ?_
  refine a_iconst C eX10_isWord_4 (1 : Int32) c_iconst_1 ?_
  refine jn (fun (kk : Option Int32) => kk = some rr → AW X 0 0 ad (SHc ++ SHm) σ 20 [none, none] []) h ?_ (fun k20_1 hk20_1 h => ?_)
  · intro h
    refine a_iconst C eX10_isWord_20 (0 : Int32) c_iconst_0 ?_
    exact rt_p R eX10_isWord_21 h nb_0
  refine a_icmp_ne C eX10_isWord_5 (fun hc => ?_) (fun hc => ?_)
  · replace h := ie hc h
    exact a_less (lle_drop (lle_drop lle_nil)) (hk20_1 h)
  · replace h := it hc h
    refine a_aload_n C eX10_isWord_8 rfl ?_
    refine a_getI C eX10_isWord_9 fX10_142 sh_64 rfl ?_
    refine a_iload_n C eX10_isWord_12 rfl ?_
    refine a_icmp_ne C eX10_isWord_13 (fun hc => ?_) (fun hc => ?_)
    · replace h := ie hc h
      exact a_less (lle_drop (lle_drop lle_nil)) (hk20_1 h)
    · replace h := it hc h
      refine a_iconst C eX10_isWord_16 (1 : Int32) c_iconst_1 ?_
      refine a_goto C eX10_isWord_17 ?_
      exact rt_p R eX10_isWord_21 h nb_1
/-! ShelfDrivesModel.isName()Z -/
def XX10_isName (σ : Sg) : Option Int32 := b1 (XX10_isWord (132915 : Int32) σ) (fun (r_1 : Int32) => lt (fun (s_2 : Int32) => b1 (XX10_isWord (409204 : Int32) σ) (fun (r_4 : Int32) => lt (fun (s_5 : Int32) => lt (some (0 : Int32)) (fun (k149_7 : Option Int32) => if (σ 64 18) = (1 : Int32) then (if s_2 = 0 then (if s_5 = 0 then (b1 (XX10_isWord (611944 : Int32) σ) (fun (r_8 : Int32) => if r_8 = 0 then (some (1 : Int32)) else (k149_7))) else (k149_7)) else (k149_7)) else (k149_7))) (fun (k119_6 : Int32 → Option Int32) => lt (k119_6 (1 : Int32)) (fun (k114_9 : Option Int32) => if r_4 = 0 then (b1 (XX10_isWord (631280 : Int32) σ) (fun (r_10 : Int32) => if r_10 = 0 then (b1 (XX10_isWord (52 : Int32) σ) (fun (r_11 : Int32) => if r_11 = 0 then (b1 (XX10_isWord (20190598 : Int32) σ) (fun (r_12 : Int32) => if r_12 = 0 then (b1 (XX10_isWord (20593771 : Int32) σ) (fun (r_13 : Int32) => if r_13 = 0 then (b1 (XX10_isWord (20099475 : Int32) σ) (fun (r_14 : Int32) => if r_14 = 0 then (k119_6 (0 : Int32)) else (k114_9))) else (k114_9))) else (k114_9))) else (k114_9))) else (k114_9))) else (k114_9))))) (fun (k59_3 : Int32 → Option Int32) => lt (k59_3 (1 : Int32)) (fun (k54_15 : Option Int32) => if r_1 = 0 then (b1 (XX10_isWord (4375028 : Int32) σ) (fun (r_16 : Int32) => if r_16 = 0 then (b1 (XX10_isWord (21582955 : Int32) σ) (fun (r_17 : Int32) => if r_17 = 0 then (b1 (XX10_isWord (6611108 : Int32) σ) (fun (r_18 : Int32) => if r_18 = 0 then (b1 (XX10_isWord (435589 : Int32) σ) (fun (r_19 : Int32) => if r_19 = 0 then (b1 (XX10_isWord (277892 : Int32) σ) (fun (r_20 : Int32) => if r_20 = 0 then (k59_3 (0 : Int32)) else (k54_15))) else (k54_15))) else (k54_15))) else (k54_15))) else (k54_15))) else (k54_15))))
theorem kX10_isName {σ : Sg} {rr : Int32}  (h : XX10_isName σ = some rr) : Ci MX10_isName [.ref 64] (SHc ++ SHm) σ (rr, σ) := by
  refine Ci.start rfl rfl (Nat.le_of_ble_eq_true rfl) ?_
  intro X ad C R
  replace C : Cx X cX10_isName 3 RX10 (some .boolean) { frames := 1, cells := 0, slots := 0, locals := 21 } := C
  replace R : Ri X cX10_isName (some .boolean) ad (SHc ++ SHm) (rr, σ) := R
  show AW X 0 0 ad (SHc ++ SHm) σ 0 [some (.ref 64), none, none] []
  rw [XX10_isName] at h
  refine a_aload_n C eX10_isName_0 rfl ?_
  refine a_ldc C eX10_isName_1 (132915 : Int32) wkX10_152 ?_
  obtain ⟨r_1, hq, h⟩ := b1_e h
  refine a_cVi1 C eX10_isName_3 wX10_153 ⟨Nat.le_of_ble_eq_true rfl, Nat.le_of_ble_eq_true rfl, rfl, rfl⟩ rfl sh_64 rfl (kX10_isWord hq) (Nat.le_of_ble_eq_true rfl) ?_
  refine jn (fun (kk : Int32 → Option Int32) => ∀ (s_2 : Int32), kk s_2 = some rr → AW X 0 0 ad (SHc ++ SHm) σ 59 [some (.ref 64), none, none] [.int s_2]) h ?_ (fun k59_3 hk59_3 h => ?_)
  · intro s_2 h
    refine a_ist_n C eX10_isName_59 (Nat.le_of_ble_eq_true rfl) [some (.ref 64), some (.int s_2), none] rfl ?_
    refine a_aload_n C eX10_isName_60 rfl ?_
    refine a_ldc C eX10_isName_61 (409204 : Int32) wkX10_161 ?_
    obtain ⟨r_4, hq, h⟩ := b1_e h
    refine a_cVi1 C eX10_isName_63 wX10_153 ⟨Nat.le_of_ble_eq_true rfl, Nat.le_of_ble_eq_true rfl, rfl, rfl⟩ rfl sh_64 rfl (kX10_isWord hq) (Nat.le_of_ble_eq_true rfl) ?_
    refine jn (fun (kk : Int32 → Option Int32) => ∀ (s_5 : Int32), kk s_5 = some rr → AW X 0 0 ad (SHc ++ SHm) σ 119 [some (.ref 64), some (.int s_2), none] [.int s_5]) h ?_ (fun k119_6 hk119_6 h => ?_)
    · intro s_5 h
      refine a_ist_n C eX10_isName_119 (Nat.le_of_ble_eq_true rfl) [some (.ref 64), some (.int s_2), some (.int s_5)] rfl ?_
      refine a_aload_n C eX10_isName_120 rfl ?_
      refine a_getI C eX10_isName_121 fX10_122 sh_64 rfl ?_
      refine a_iconst C eX10_isName_124 (1 : Int32) c_iconst_1 ?_
      refine jn (fun (kk : Option Int32) => kk = some rr → AW X 0 0 ad (SHc ++ SHm) σ 149 [none, none, none] []) h ?_ (fun k149_7 hk149_7 h => ?_)
      · intro h
        refine a_iconst C eX10_isName_149 (0 : Int32) c_iconst_0 ?_
        exact rt_p R eX10_isName_150 h nb_0
      refine a_icmp_ne C eX10_isName_125 (fun hc => ?_) (fun hc => ?_)
      · replace h := ie hc h
        exact a_less (lle_drop (lle_drop (lle_drop lle_nil))) (hk149_7 h)
      · replace h := it hc h
        refine a_iload_n C eX10_isName_128 rfl ?_
        refine a_if_ne C eX10_isName_129 (fun hc => ?_) (fun hc => ?_)
        · replace h := ie hc h
          exact a_less (lle_drop (lle_drop (lle_drop lle_nil))) (hk149_7 h)
        · replace h := it hc h
          refine a_iload_n C eX10_isName_132 rfl ?_
          refine a_if_ne C eX10_isName_133 (fun hc => ?_) (fun hc => ?_)
          · replace h := ie hc h
            exact a_less (lle_drop (lle_drop (lle_drop lle_nil))) (hk149_7 h)
          · replace h := it hc h
            refine a_aload_n C eX10_isName_136 rfl ?_
            refine a_ldc C eX10_isName_137 (611944 : Int32) wkX10_166 ?_
            obtain ⟨r_8, hq, h⟩ := b1_e h
            refine a_cVi1 C eX10_isName_139 wX10_153 ⟨Nat.le_of_ble_eq_true rfl, Nat.le_of_ble_eq_true rfl, rfl, rfl⟩ rfl sh_64 rfl (kX10_isWord hq) (Nat.le_of_ble_eq_true rfl) ?_
            refine a_if_ne C eX10_isName_142 (fun hc => ?_) (fun hc => ?_)
            · replace h := ie hc h
              exact a_less (lle_drop (lle_drop (lle_drop lle_nil))) (hk149_7 h)
            · replace h := it hc h
              refine a_iconst C eX10_isName_145 (1 : Int32) c_iconst_1 ?_
              refine a_goto C eX10_isName_146 ?_
              exact rt_p R eX10_isName_150 h nb_1
    refine jn (fun (kk : Option Int32) => kk = some rr → AW X 0 0 ad (SHc ++ SHm) σ 114 [some (.ref 64), some (.int s_2), none] []) h ?_ (fun k114_9 hk114_9 h => ?_)
    · intro h
      refine a_iconst C eX10_isName_114 (1 : Int32) c_iconst_1 ?_
      refine a_goto C eX10_isName_115 ?_
      exact a_less (lle_same (lle_same (lle_same lle_nil))) (hk119_6 _ h)
    refine a_if_ne C eX10_isName_66 (fun hc => ?_) (fun hc => ?_)
    · replace h := ie hc h
      exact a_less (lle_same (lle_same (lle_same lle_nil))) (hk114_9 h)
    · replace h := it hc h
      refine a_aload_n C eX10_isName_69 rfl ?_
      refine a_ldc C eX10_isName_70 (631280 : Int32) wkX10_162 ?_
      obtain ⟨r_10, hq, h⟩ := b1_e h
      refine a_cVi1 C eX10_isName_72 wX10_153 ⟨Nat.le_of_ble_eq_true rfl, Nat.le_of_ble_eq_true rfl, rfl, rfl⟩ rfl sh_64 rfl (kX10_isWord hq) (Nat.le_of_ble_eq_true rfl) ?_
      refine a_if_ne C eX10_isName_75 (fun hc => ?_) (fun hc => ?_)
      · replace h := ie hc h
        exact a_less (lle_same (lle_same (lle_same lle_nil))) (hk114_9 h)
      · replace h := it hc h
        refine a_aload_n C eX10_isName_78 rfl ?_
        refine a_bipush C eX10_isName_79 (52 : Int32) c_bipush_52 ?_
        obtain ⟨r_11, hq, h⟩ := b1_e h
        refine a_cVi1 C eX10_isName_81 wX10_153 ⟨Nat.le_of_ble_eq_true rfl, Nat.le_of_ble_eq_true rfl, rfl, rfl⟩ rfl sh_64 rfl (kX10_isWord hq) (Nat.le_of_ble_eq_true rfl) ?_
        refine a_if_ne C eX10_isName_84 (fun hc => ?_) (fun hc => ?_)
        · replace h := ie hc h
          exact a_less (lle_same (lle_same (lle_same lle_nil))) (hk114_9 h)
        · replace h := it hc h
          refine a_aload_n C eX10_isName_87 rfl ?_
          refine a_ldc C eX10_isName_88 (20190598 : Int32) wkX10_163 ?_
          obtain ⟨r_12, hq, h⟩ := b1_e h
          refine a_cVi1 C eX10_isName_90 wX10_153 ⟨Nat.le_of_ble_eq_true rfl, Nat.le_of_ble_eq_true rfl, rfl, rfl⟩ rfl sh_64 rfl (kX10_isWord hq) (Nat.le_of_ble_eq_true rfl) ?_
          refine a_if_ne C eX10_isName_93 (fun hc => ?_) (fun hc => ?_)
          · replace h := ie hc h
            exact a_less (lle_same (lle_same (lle_same lle_nil))) (hk114_9 h)
          · replace h := it hc h
            refine a_aload_n C eX10_isName_96 rfl ?_
            refine a_ldc C eX10_isName_97 (20593771 : Int32) wkX10_164 ?_
            obtain ⟨r_13, hq, h⟩ := b1_e h
            refine a_cVi1 C eX10_isName_99 wX10_153 ⟨Nat.le_of_ble_eq_true rfl, Nat.le_of_ble_eq_true rfl, rfl, rfl⟩ rfl sh_64 rfl (kX10_isWord hq) (Nat.le_of_ble_eq_true rfl) ?_
            refine a_if_ne C eX10_isName_102 (fun hc => ?_) (fun hc => ?_)
            · replace h := ie hc h
              exact a_less (lle_same (lle_same (lle_same lle_nil))) (hk114_9 h)
            · replace h := it hc h
              refine a_aload_n C eX10_isName_105 rfl ?_
              refine a_ldc C eX10_isName_106 (20099475 : Int32) wkX10_165 ?_
              obtain ⟨r_14, hq, h⟩ := b1_e h
              refine a_cVi1 C eX10_isName_108 wX10_153 ⟨Nat.le_of_ble_eq_true rfl, Nat.le_of_ble_eq_true rfl, rfl, rfl⟩ rfl sh_64 rfl (kX10_isWord hq) (Nat.le_of_ble_eq_true rfl) ?_
              refine a_if_eq C eX10_isName_111 (fun hc => ?_) (fun hc => ?_)
              · replace h := it hc h
                refine a_iconst C eX10_isName_118 (0 : Int32) c_iconst_0 ?_
                exact a_less (lle_same (lle_same (lle_same lle_nil))) (hk119_6 _ h)
              · replace h := ie hc h
                exact a_less (lle_same (lle_same (lle_same lle_nil))) (hk114_9 h)
  refine jn (fun (kk : Option Int32) => kk = some rr → AW X 0 0 ad (SHc ++ SHm) σ 54 [some (.ref 64), none, none] []) h ?_ (fun k54_15 hk54_15 h => ?_)
  · intro h
    refine a_iconst C eX10_isName_54 (1 : Int32) c_iconst_1 ?_
    refine a_goto C eX10_isName_55 ?_
    exact a_less (lle_same (lle_same (lle_same lle_nil))) (hk59_3 _ h)
  refine a_if_ne C eX10_isName_6 (fun hc => ?_) (fun hc => ?_)
  · replace h := ie hc h
    exact a_less (lle_same (lle_same (lle_same lle_nil))) (hk54_15 h)
  · replace h := it hc h
    refine a_aload_n C eX10_isName_9 rfl ?_
    refine a_ldc C eX10_isName_10 (4375028 : Int32) wkX10_156 ?_
    obtain ⟨r_16, hq, h⟩ := b1_e h
    refine a_cVi1 C eX10_isName_12 wX10_153 ⟨Nat.le_of_ble_eq_true rfl, Nat.le_of_ble_eq_true rfl, rfl, rfl⟩ rfl sh_64 rfl (kX10_isWord hq) (Nat.le_of_ble_eq_true rfl) ?_
    refine a_if_ne C eX10_isName_15 (fun hc => ?_) (fun hc => ?_)
    · replace h := ie hc h
      exact a_less (lle_same (lle_same (lle_same lle_nil))) (hk54_15 h)
    · replace h := it hc h
      refine a_aload_n C eX10_isName_18 rfl ?_
      refine a_ldc C eX10_isName_19 (21582955 : Int32) wkX10_157 ?_
      obtain ⟨r_17, hq, h⟩ := b1_e h
      refine a_cVi1 C eX10_isName_21 wX10_153 ⟨Nat.le_of_ble_eq_true rfl, Nat.le_of_ble_eq_true rfl, rfl, rfl⟩ rfl sh_64 rfl (kX10_isWord hq) (Nat.le_of_ble_eq_true rfl) ?_
      refine a_if_ne C eX10_isName_24 (fun hc => ?_) (fun hc => ?_)
      · replace h := ie hc h
        exact a_less (lle_same (lle_same (lle_same lle_nil))) (hk54_15 h)
      · replace h := it hc h
        refine a_aload_n C eX10_isName_27 rfl ?_
        refine a_ldc C eX10_isName_28 (6611108 : Int32) wkX10_158 ?_
        obtain ⟨r_18, hq, h⟩ := b1_e h
        refine a_cVi1 C eX10_isName_30 wX10_153 ⟨Nat.le_of_ble_eq_true rfl, Nat.le_of_ble_eq_true rfl, rfl, rfl⟩ rfl sh_64 rfl (kX10_isWord hq) (Nat.le_of_ble_eq_true rfl) ?_
        refine a_if_ne C eX10_isName_33 (fun hc => ?_) (fun hc => ?_)
        · replace h := ie hc h
          exact a_less (lle_same (lle_same (lle_same lle_nil))) (hk54_15 h)
        · replace h := it hc h
          refine a_aload_n C eX10_isName_36 rfl ?_
          refine a_ldc C eX10_isName_37 (435589 : Int32) wkX10_159 ?_
          obtain ⟨r_19, hq, h⟩ := b1_e h
          refine a_cVi1 C eX10_isName_39 wX10_153 ⟨Nat.le_of_ble_eq_true rfl, Nat.le_of_ble_eq_true rfl, rfl, rfl⟩ rfl sh_64 rfl (kX10_isWord hq) (Nat.le_of_ble_eq_true rfl) ?_
          refine a_if_ne C eX10_isName_42 (fun hc => ?_) (fun hc => ?_)
          · replace h := ie hc h
            exact a_less (lle_same (lle_same (lle_same lle_nil))) (hk54_15 h)
          · replace h := it hc h
            refine a_aload_n C eX10_isName_45 rfl ?_
            refine a_ldc C eX10_isName_46 (277892 : Int32) wkX10_160 ?_
            obtain ⟨r_20, hq, h⟩ := b1_e h
            refine a_cVi1 C eX10_isName_48 wX10_153 ⟨Nat.le_of_ble_eq_true rfl, Nat.le_of_ble_eq_true rfl, rfl, rfl⟩ rfl sh_64 rfl (kX10_isWord hq) (Nat.le_of_ble_eq_true rfl) ?_
            refine a_if_eq C eX10_isName_51 (fun hc => ?_) (fun hc => ?_)
            · replace h := it hc h
              refine a_iconst C eX10_isName_58 (0 : Int32) c_iconst_0 ?_
              exact a_less (lle_same (lle_same (lle_same lle_nil))) (hk59_3 _ h)
            · replace h := ie hc h
              exact a_less (lle_same (lle_same (lle_same lle_nil))) (hk54_15 h)
/-! ShelfDrivesModel.called()I -/
def LX10_called_2 (σ : Sg) : Nat → Int32 → Option Int32
  | 0, _ => none
  | n + 1, x1_1 => if (σ 65 18) ≤ x1_1 then (some (-1 : Int32)) else (if ib x1_1 6 then if (σ 75 x1_1.toNatClampNeg) = (σ 64 19) then (some x1_1) else (lt (x1_1 + (1 : Int32)) (fun (x1_3 : Int32) => LX10_called_2 σ n x1_3)) else none)
def XX10_called (σ : Sg) : Option Int32 := LX10_called_2 σ FUEL (0 : Int32)
theorem lX10_called_2 {X : CT} {ad : Nat → Nat} {rr : Int32} {σ : Sg}  (C : Cx X cX10_called 2 RX10 (some .int) { frames := 0, cells := 0, slots := 0, locals := 0 }) (R : Ri X cX10_called (some .int) ad (SHc ++ SHm) (rr, σ))  : ∀ (n : Nat) (x1_1 : Int32), LX10_called_2 σ n x1_1 = some rr → AW X 0 0 ad (SHc ++ SHm) σ 2 [some (.ref 64), some (.int x1_1)] [] := by
  intro n
  induction n with
  | zero =>
    intro x1_1 h
    rw [LX10_called_2] at h
    cases h
  | succ n ih =>
    intro x1_1 h
    rw [LX10_called_2] at h
    refine a_iload_n C eX10_called_2 rfl ?_
    refine a_aload_n C eX10_called_3 rfl ?_
    refine a_getR C eX10_called_4 fX10_7 sh_64 rfl ?_
    refine a_bipush C eX10_called_7 (18 : Int32) c_bipush_18 ?_
    refine a_ialdK C eX10_called_9 sh_65 ix_18 (Nat.le_of_ble_eq_true rfl) ?_
    refine a_icmp_ge C eX10_called_10 (fun hc => ?_) (fun hc => ?_)
    · replace h := it hc h
      refine a_iconst C eX10_called_34 (-1 : Int32) c_iconst_m1 ?_
      exact rt_p R eX10_called_35 h nb_int
    · replace h := ie hc h
      refine a_aload_n C eX10_called_13 rfl ?_
      refine a_getR C eX10_called_14 fX10_40 sh_64 rfl ?_
      refine a_iload_n C eX10_called_17 rfl ?_
      obtain ⟨hb_2, h⟩ := gd h
      refine a_iald C eX10_called_18 sh_75 hb_2 ?_
      refine a_aload_n C eX10_called_19 rfl ?_
      refine a_getI C eX10_called_20 fX10_142 sh_64 rfl ?_
      refine a_icmp_ne C eX10_called_23 (fun hc => ?_) (fun hc => ?_)
      · replace h := ie hc h
        refine a_inc C eX10_called_28 rfl c_iconst_1 h (fun z => [some (.ref 64), some (.int z)]) (fun _ => rfl) (fun x1_3 h => ?_)
        refine a_goto C eX10_called_31 ?_
        exact a_less (lle_same (lle_same lle_nil)) (ih _ h)
      · replace h := it hc h
        refine a_iload_n C eX10_called_26 rfl ?_
        exact rt_p R eX10_called_27 h nb_int
theorem kX10_called {σ : Sg} {rr : Int32}  (h : XX10_called σ = some rr) : Ci MX10_called [.ref 64] (SHc ++ SHm) σ (rr, σ) := by
  refine Ci.start rfl rfl (Nat.le_of_ble_eq_true rfl) ?_
  intro X ad C R
  replace C : Cx X cX10_called 2 RX10 (some .int) { frames := 0, cells := 0, slots := 0, locals := 0 } := C
  replace R : Ri X cX10_called (some .int) ad (SHc ++ SHm) (rr, σ) := R
  show AW X 0 0 ad (SHc ++ SHm) σ 0 [some (.ref 64), none] []
  rw [XX10_called] at h
  refine a_iconst C eX10_called_0 (0 : Int32) c_iconst_0 ?_
  refine a_ist_n C eX10_called_1 (Nat.le_of_ble_eq_true rfl) [some (.ref 64), some (.int (0 : Int32))] rfl ?_
  exact a_less (lle_same (lle_same lle_nil)) (lX10_called_2  C R  _ _ h)
/-! ShelfDrivesModel.readNumber(II)I -/
def XX10_readNumber (p1 : Int32) (p2 : Int32) (σ : Sg) : Option (Int32 × Sg) := b1 (XX10_isGood σ) (fun (r_1 : Int32) => lt (fun (σ_2 : Sg) => lt (σ_2 64 19) (fun (x3_4 : Int32) => b1 (XX10_goOn σ_2) (fun (σ_5 : Sg) => b1 (XX10_isGood σ_5) (fun (r_6 : Int32) => if r_6 = 0 then (some ((0 : Int32), σ_5)) else (some (x3_4, σ_5)))))) (fun (k47_3 : Sg → Option (Int32 × Sg)) => lt (b1 (XX10_isGood σ) (fun (r_8 : Int32) => if r_8 = 0 then (k47_3 σ) else (b1 (XX10_in (σ 64 19) p1 p2) (fun (r_9 : Int32) => if r_9 = 0 then (b1 (XX10_fails (4 : Int32) σ) (fun (σ_10 : Sg) => k47_3 σ_10)) else (k47_3 σ))))) (fun (k23_7 : Option (Int32 × Sg)) => if r_1 = 0 then (k23_7) else (if (σ 64 18) = (2 : Int32) then (k23_7) else (b1 (XX10_fails (2 : Int32) σ) (fun (σ_11 : Sg) => k47_3 σ_11))))))
theorem kX10_readNumber {p1 : Int32} {p2 : Int32} {σ : Sg} {rr : (Int32 × Sg)}  (h : XX10_readNumber p1 p2 σ = some rr) : Ci MX10_readNumber [.ref 64, .int p1, .int p2] (SHc ++ SHm) σ rr := by
  refine Ci.start rfl rfl (Nat.le_of_ble_eq_true rfl) ?_
  intro X ad C R
  replace C : Cx X cX10_readNumber 4 RX10 (some .int) { frames := 2, cells := 0, slots := 0, locals := 42 } := C
  replace R : Ri X cX10_readNumber (some .int) ad (SHc ++ SHm) rr := R
  show AW X 0 0 ad (SHc ++ SHm) σ 0 [some (.ref 64), some (.int p1), some (.int p2), none] []
  rw [XX10_readNumber] at h
  refine a_aload_n C eX10_readNumber_0 rfl ?_
  obtain ⟨r_1, hq, h⟩ := b1_e h
  refine a_cVi0 C eX10_readNumber_1 wX10_131 ⟨Nat.le_of_ble_eq_true rfl, Nat.le_of_ble_eq_true rfl, rfl, rfl⟩ rfl sh_64 rfl (kX10_isGood hq) (Nat.le_of_ble_eq_true rfl) ?_
  refine jn (fun (kk : Sg → Option (Int32 × Sg)) => ∀ (σ_2 : Sg), kk σ_2 = some rr → AW X 0 0 ad (SHc ++ SHm) σ_2 47 [some (.ref 64), none, none, none] []) h ?_ (fun k47_3 hk47_3 h => ?_)
  · intro σ_2 h
    refine a_aload_n C eX10_readNumber_47 rfl ?_
    refine a_getI C eX10_readNumber_48 fX10_142 sh_64 rfl ?_
    refine a_lt h (fun x3_4 h => ?_)
    refine a_ist_n C eX10_readNumber_51 (Nat.le_of_ble_eq_true rfl) [some (.ref 64), none, none, some (.int x3_4)] rfl ?_
    refine a_aload_n C eX10_readNumber_52 rfl ?_
    obtain ⟨σ_5, hq, h⟩ := b1_e h
    refine a_cVv0 C eX10_readNumber_53 wX10_170 ⟨Nat.le_of_ble_eq_true rfl, Nat.le_of_ble_eq_true rfl, rfl, rfl⟩ rfl sh_64 rfl (kX10_goOn hq) (Nat.le_of_ble_eq_true rfl) ?_
    refine a_aload_n C eX10_readNumber_56 rfl ?_
    obtain ⟨r_6, hq, h⟩ := b1_e h
    refine a_cVi0 C eX10_readNumber_57 wX10_131 ⟨Nat.le_of_ble_eq_true rfl, Nat.le_of_ble_eq_true rfl, rfl, rfl⟩ rfl sh_64 rfl (kX10_isGood hq) (Nat.le_of_ble_eq_true rfl) ?_
    refine a_if_eq C eX10_readNumber_60 (fun hc => ?_) (fun hc => ?_)
    · replace h := it hc h
      refine a_iconst C eX10_readNumber_67 (0 : Int32) c_iconst_0 ?_
      exact rt_i R eX10_readNumber_68 h nb_int
    · replace h := ie hc h
      refine a_iload_n C eX10_readNumber_63 rfl ?_
      refine a_goto C eX10_readNumber_64 ?_
      exact rt_i R eX10_readNumber_68 h nb_int
  refine jn (fun (kk : Option (Int32 × Sg)) => kk = some rr → AW X 0 0 ad (SHc ++ SHm) σ 23 [some (.ref 64), some (.int p1), some (.int p2), none] []) h ?_ (fun k23_7 hk23_7 h => ?_)
  · intro h
    refine a_aload_n C eX10_readNumber_23 rfl ?_
    obtain ⟨r_8, hq, h⟩ := b1_e h
    refine a_cVi0 C eX10_readNumber_24 wX10_131 ⟨Nat.le_of_ble_eq_true rfl, Nat.le_of_ble_eq_true rfl, rfl, rfl⟩ rfl sh_64 rfl (kX10_isGood hq) (Nat.le_of_ble_eq_true rfl) ?_
    refine a_if_eq C eX10_readNumber_27 (fun hc => ?_) (fun hc => ?_)
    · replace h := it hc h
      exact a_less (lle_same (lle_drop (lle_drop (lle_same lle_nil)))) (hk47_3 _ h)
    · replace h := ie hc h
      refine a_aload_n C eX10_readNumber_30 rfl ?_
      refine a_getI C eX10_readNumber_31 fX10_142 sh_64 rfl ?_
      refine a_iload_n C eX10_readNumber_34 rfl ?_
      refine a_iload_n C eX10_readNumber_35 rfl ?_
      obtain ⟨r_9, hq, h⟩ := b1_e h
      refine a_cSi3 C eX10_readNumber_36 wX10_102 ⟨Nat.le_of_ble_eq_true rfl, Nat.le_of_ble_eq_true rfl, rfl, rfl⟩ rfl (kX10_in hq) (Nat.le_of_ble_eq_true rfl) ?_
      refine a_if_ne C eX10_readNumber_39 (fun hc => ?_) (fun hc => ?_)
      · replace h := ie hc h
        exact a_less (lle_same (lle_drop (lle_drop (lle_same lle_nil)))) (hk47_3 _ h)
      · replace h := it hc h
        refine a_aload_n C eX10_readNumber_42 rfl ?_
        refine a_iconst C eX10_readNumber_43 (4 : Int32) c_iconst_4 ?_
        obtain ⟨σ_10, hq, h⟩ := b1_e h
        refine a_cVv1 C eX10_readNumber_44 wX10_167 ⟨Nat.le_of_ble_eq_true rfl, Nat.le_of_ble_eq_true rfl, rfl, rfl⟩ rfl sh_64 rfl (kX10_fails hq) (Nat.le_of_ble_eq_true rfl) ?_
        exact a_less (lle_same (lle_drop (lle_drop (lle_same lle_nil)))) (hk47_3 _ h)
  refine a_if_eq C eX10_readNumber_4 (fun hc => ?_) (fun hc => ?_)
  · replace h := it hc h
    exact a_less (lle_same (lle_same (lle_same (lle_same lle_nil)))) (hk23_7 h)
  · replace h := ie hc h
    refine a_aload_n C eX10_readNumber_7 rfl ?_
    refine a_getI C eX10_readNumber_8 fX10_122 sh_64 rfl ?_
    refine a_iconst C eX10_readNumber_11 (2 : Int32) c_iconst_2 ?_
    refine a_icmp_eq C eX10_readNumber_12 (fun hc => ?_) (fun hc => ?_)
    · replace h := it hc h
      exact a_less (lle_same (lle_same (lle_same (lle_same lle_nil)))) (hk23_7 h)
    · replace h := ie hc h
      refine a_aload_n C eX10_readNumber_15 rfl ?_
      refine a_iconst C eX10_readNumber_16 (2 : Int32) c_iconst_2 ?_
      obtain ⟨σ_11, hq, h⟩ := b1_e h
      refine a_cVv1 C eX10_readNumber_17 wX10_167 ⟨Nat.le_of_ble_eq_true rfl, Nat.le_of_ble_eq_true rfl, rfl, rfl⟩ rfl sh_64 rfl (kX10_fails hq) (Nat.le_of_ble_eq_true rfl) ?_
      refine a_goto C eX10_readNumber_20 ?_
      exact a_less (lle_same (lle_drop (lle_drop (lle_same lle_nil)))) (hk47_3 _ h)
/-! ShelfDrivesModel.keyword(I)V -/
def XX10_keyword (p1 : Int32) (σ : Sg) : Option Sg := b1 (XX10_isGood σ) (fun (r_1 : Int32) => lt (fun (σ_2 : Sg) => b1 (XX10_goOn σ_2) (fun (σ_4 : Sg) => some σ_4)) (fun (k20_3 : Sg → Option Sg) => if r_1 = 0 then (k20_3 σ) else (b1 (XX10_isWord p1 σ) (fun (r_5 : Int32) => if r_5 = 0 then (b1 (XX10_fails (2 : Int32) σ) (fun (σ_6 : Sg) => k20_3 σ_6)) else (k20_3 σ)))))
theorem kX10_keyword {p1 : Int32} {σ : Sg} {rr : Sg}  (h : XX10_keyword p1 σ = some rr) : Cv MX10_keyword [.ref 64, .int p1] (SHc ++ SHm) σ rr := by
  refine Cv.start rfl rfl (Nat.le_of_ble_eq_true rfl) rfl ?_
  intro X ad C R
  replace C : Cx X cX10_keyword 2 RX10 none { frames := 2, cells := 0, slots := 0, locals := 42 } := C
  replace R : Rv X cX10_keyword ad (SHc ++ SHm) rr := R
  show AW X 0 0 ad (SHc ++ SHm) σ 0 [some (.ref 64), some (.int p1)] []
  rw [XX10_keyword] at h
  refine a_aload_n C eX10_keyword_0 rfl ?_
  obtain ⟨r_1, hq, h⟩ := b1_e h
  refine a_cVi0 C eX10_keyword_1 wX10_131 ⟨Nat.le_of_ble_eq_true rfl, Nat.le_of_ble_eq_true rfl, rfl, rfl⟩ rfl sh_64 rfl (kX10_isGood hq) (Nat.le_of_ble_eq_true rfl) ?_
  refine jn (fun (kk : Sg → Option Sg) => ∀ (σ_2 : Sg), kk σ_2 = some rr → AW X 0 0 ad (SHc ++ SHm) σ_2 20 [some (.ref 64), none] []) h ?_ (fun k20_3 hk20_3 h => ?_)
  · intro σ_2 h
    refine a_aload_n C eX10_keyword_20 rfl ?_
    obtain ⟨σ_4, hq, h⟩ := b1_e h
    refine a_cVv0 C eX10_keyword_21 wX10_170 ⟨Nat.le_of_ble_eq_true rfl, Nat.le_of_ble_eq_true rfl, rfl, rfl⟩ rfl sh_64 rfl (kX10_goOn hq) (Nat.le_of_ble_eq_true rfl) ?_
    exact rt_v R eX10_keyword_24 h
  refine a_if_eq C eX10_keyword_4 (fun hc => ?_) (fun hc => ?_)
  · replace h := it hc h
    exact a_less (lle_same (lle_drop lle_nil)) (hk20_3 _ h)
  · replace h := ie hc h
    refine a_aload_n C eX10_keyword_7 rfl ?_
    refine a_iload_n C eX10_keyword_8 rfl ?_
    obtain ⟨r_5, hq, h⟩ := b1_e h
    refine a_cVi1 C eX10_keyword_9 wX10_153 ⟨Nat.le_of_ble_eq_true rfl, Nat.le_of_ble_eq_true rfl, rfl, rfl⟩ rfl sh_64 rfl (kX10_isWord hq) (Nat.le_of_ble_eq_true rfl) ?_
    refine a_if_ne C eX10_keyword_12 (fun hc => ?_) (fun hc => ?_)
    · replace h := ie hc h
      exact a_less (lle_same (lle_drop lle_nil)) (hk20_3 _ h)
    · replace h := it hc h
      refine a_aload_n C eX10_keyword_15 rfl ?_
      refine a_iconst C eX10_keyword_16 (2 : Int32) c_iconst_2 ?_
      obtain ⟨σ_6, hq, h⟩ := b1_e h
      refine a_cVv1 C eX10_keyword_17 wX10_167 ⟨Nat.le_of_ble_eq_true rfl, Nat.le_of_ble_eq_true rfl, rfl, rfl⟩ rfl sh_64 rfl (kX10_fails hq) (Nat.le_of_ble_eq_true rfl) ?_
      exact a_less (lle_same (lle_drop lle_nil)) (hk20_3 _ h)
/-! ShelfDrivesModel.begins(I)Z -/
def XX10_begins (p1 : Int32) (σ : Sg) : Option (Int32 × Sg) := b1 (XX10_isOf (σ 64 12) p1) (fun (r_1 : Int32) => lt (fun (σ_2 : Sg) => lt (up σ_2 64 12 ((σ_2 64 12) ||| ((1 : Int32) <<< (p1 &&& 31)))) (fun (σ_4 : Sg) => b1 (XX10_goOn σ_4) (fun (σ_5 : Sg) => b1 (XX10_isGood σ_5) (fun (r_6 : Int32) => if r_6 = 0 ∨ r_6 = 1 then some (r_6, σ_5) else none)))) (fun (k26_3 : Sg → Option (Int32 × Sg)) => lt (b1 (XX10_fails (2 : Int32) σ) (fun (σ_9 : Sg) => k26_3 σ_9)) (fun (k21_8 : Option (Int32 × Sg)) => if r_1 = 0 then (if (σ 65 18) ≤ 0 then (k26_3 σ) else (k21_8)) else (k21_8))))
theorem kX10_begins {p1 : Int32} {σ : Sg} {rr : (Int32 × Sg)}  (h : XX10_begins p1 σ = some rr) : Ci MX10_begins [.ref 64, .int p1] (SHc ++ SHm) σ rr := by
  refine Ci.start rfl rfl (Nat.le_of_ble_eq_true rfl) ?_
  intro X ad C R
  replace C : Cx X cX10_begins 2 RX10 (some .boolean) { frames := 2, cells := 0, slots := 0, locals := 42 } := C
  replace R : Ri X cX10_begins (some .boolean) ad (SHc ++ SHm) rr := R
  show AW X 0 0 ad (SHc ++ SHm) σ 0 [some (.ref 64), some (.int p1)] []
  rw [XX10_begins] at h
  refine a_aload_n C eX10_begins_0 rfl ?_
  refine a_getI C eX10_begins_1 fX10_173 sh_64 rfl ?_
  refine a_iload_n C eX10_begins_4 rfl ?_
  obtain ⟨r_1, hq, h⟩ := b1_e h
  refine a_cSi2 C eX10_begins_5 wX10_176 ⟨Nat.le_of_ble_eq_true rfl, Nat.le_of_ble_eq_true rfl, rfl, rfl⟩ rfl (kX10_isOf hq) (Nat.le_of_ble_eq_true rfl) ?_
  refine jn (fun (kk : Sg → Option (Int32 × Sg)) => ∀ (σ_2 : Sg), kk σ_2 = some rr → AW X 0 0 ad (SHc ++ SHm) σ_2 26 [some (.ref 64), some (.int p1)] []) h ?_ (fun k26_3 hk26_3 h => ?_)
  · intro σ_2 h
    refine a_aload_n C eX10_begins_26 rfl ?_
    refine a_dup C eX10_begins_27 rfl ?_
    refine a_getI C eX10_begins_28 fX10_173 sh_64 rfl ?_
    refine a_iconst C eX10_begins_31 (1 : Int32) c_iconst_1 ?_
    refine a_iload_n C eX10_begins_32 rfl ?_
    refine a_ishl C eX10_begins_33 ?_
    refine a_ior C eX10_begins_34 ?_
    refine a_putIL C eX10_begins_35 fX10_173 ftyX10 rfl rfl sh_64 rfl h (fun σ_4 h => ?_)
    refine a_aload_n C eX10_begins_38 rfl ?_
    obtain ⟨σ_5, hq, h⟩ := b1_e h
    refine a_cVv0 C eX10_begins_39 wX10_170 ⟨Nat.le_of_ble_eq_true rfl, Nat.le_of_ble_eq_true rfl, rfl, rfl⟩ rfl sh_64 rfl (kX10_goOn hq) (Nat.le_of_ble_eq_true rfl) ?_
    refine a_aload_n C eX10_begins_42 rfl ?_
    obtain ⟨r_6, hq, h⟩ := b1_e h
    refine a_cVi0 C eX10_begins_43 wX10_131 ⟨Nat.le_of_ble_eq_true rfl, Nat.le_of_ble_eq_true rfl, rfl, rfl⟩ rfl sh_64 rfl (kX10_isGood hq) (Nat.le_of_ble_eq_true rfl) ?_
    obtain ⟨hn_7, h⟩ := gd h
    exact rt_i R eX10_begins_46 h (nb_b hn_7)
  refine jn (fun (kk : Option (Int32 × Sg)) => kk = some rr → AW X 0 0 ad (SHc ++ SHm) σ 21 [some (.ref 64), some (.int p1)] []) h ?_ (fun k21_8 hk21_8 h => ?_)
  · intro h
    refine a_aload_n C eX10_begins_21 rfl ?_
    refine a_iconst C eX10_begins_22 (2 : Int32) c_iconst_2 ?_
    obtain ⟨σ_9, hq, h⟩ := b1_e h
    refine a_cVv1 C eX10_begins_23 wX10_167 ⟨Nat.le_of_ble_eq_true rfl, Nat.le_of_ble_eq_true rfl, rfl, rfl⟩ rfl sh_64 rfl (kX10_fails hq) (Nat.le_of_ble_eq_true rfl) ?_
    exact a_less (lle_same (lle_same lle_nil)) (hk26_3 _ h)
  refine a_if_ne C eX10_begins_8 (fun hc => ?_) (fun hc => ?_)
  · replace h := ie hc h
    exact a_less (lle_same (lle_same lle_nil)) (hk21_8 h)
  · replace h := it hc h
    refine a_aload_n C eX10_begins_11 rfl ?_
    refine a_getR C eX10_begins_12 fX10_7 sh_64 rfl ?_
    refine a_bipush C eX10_begins_15 (18 : Int32) c_bipush_18 ?_
    refine a_ialdK C eX10_begins_17 sh_65 ix_18 (Nat.le_of_ble_eq_true rfl) ?_
    refine a_if_le C eX10_begins_18 (fun hc => ?_) (fun hc => ?_)
    · replace h := it hc h
      exact a_less (lle_same (lle_same lle_nil)) (hk26_3 _ h)
    · replace h := ie hc h
      exact a_less (lle_same (lle_same lle_nil)) (hk21_8 h)
/-! ShelfDrivesModel.reads(III)V -/
def XX10_reads (p1 : Int32) (p2 : Int32) (p3 : Int32) (σ : Sg) : Option Sg := b2 (XX10_readNumber p2 p3 σ) (fun (r_1 : Int32) (σ_2 : Sg) => if ib ((10 : Int32) + p1) 20 then lt (up σ_2 65 ((10 : Int32) + p1).toNatClampNeg r_1) (fun (σ_3 : Sg) => some σ_3) else none)
theorem kX10_reads {p1 : Int32} {p2 : Int32} {p3 : Int32} {σ : Sg} {rr : Sg}  (h : XX10_reads p1 p2 p3 σ = some rr) : Cv MX10_reads [.ref 64, .int p1, .int p2, .int p3] (SHc ++ SHm) σ rr := by
  refine Cv.start rfl rfl (Nat.le_of_ble_eq_true rfl) rfl ?_
  intro X ad C R
  replace C : Cx X cX10_reads 5 RX10 none { frames := 3, cells := 0, slots := 0, locals := 65 } := C
  replace R : Rv X cX10_reads ad (SHc ++ SHm) rr := R
  show AW X 0 0 ad (SHc ++ SHm) σ 0 [some (.ref 64), some (.int p1), some (.int p2), some (.int p3), none] []
  rw [XX10_reads] at h
  refine a_aload_n C eX10_reads_0 rfl ?_
  refine a_iload_n C eX10_reads_1 rfl ?_
  refine a_iload_n C eX10_reads_2 rfl ?_
  obtain ⟨r_1, σ_2, hq, h⟩ := b2_e h
  refine a_cVi2 C eX10_reads_3 wX10_180 ⟨Nat.le_of_ble_eq_true rfl, Nat.le_of_ble_eq_true rfl, rfl, rfl⟩ rfl sh_64 rfl (kX10_readNumber hq) (Nat.le_of_ble_eq_true rfl) ?_
  refine a_ist C eX10_reads_6 (Nat.le_of_ble_eq_true rfl) [some (.ref 64), some (.int p1), some (.int p2), some (.int p3), some (.int r_1)] rfl ?_
  refine a_aload_n C eX10_reads_8 rfl ?_
  refine a_getR C eX10_reads_9 fX10_7 sh_64 rfl ?_
  refine a_bipush C eX10_reads_12 (10 : Int32) c_bipush_10 ?_
  refine a_iload_n C eX10_reads_14 rfl ?_
  refine a_iadd C eX10_reads_15 ?_
  refine a_iload C eX10_reads_16 rfl ?_
  obtain ⟨hb_4, h⟩ := gd h
  refine a_iastL C eX10_reads_18 sh_65 hb_4 h (fun σ_3 h => ?_)
  exact rt_v R eX10_reads_19 h
/-! ShelfDrivesModel.readTruck()V -/
def XX10_readTruck (σ : Sg) : Option Sg := b2 (XX10_begins (2 : Int32) σ) (fun (r_1 : Int32) (σ_2 : Sg) => if r_1 = 0 then (some σ_2) else (b1 (XX10_reads (3 : Int32) (1 : Int32) (99 : Int32) σ_2) (fun (σ_3 : Sg) => b1 (XX10_isGood σ_3) (fun (r_4 : Int32) => lt (fun (σ_5 : Sg) => b1 (XX10_isGood σ_5) (fun (r_7 : Int32) => if r_7 = 0 then (some σ_5) else (b1 (XX10_isWord (435589 : Int32) σ_5) (fun (r_8 : Int32) => if r_8 = 0 then (some σ_5) else (b1 (XX10_goOn σ_5) (fun (σ_9 : Sg) => b1 (XX10_reads (5 : Int32) (0 : Int32) (9 : Int32) σ_9) (fun (σ_10 : Sg) => some σ_10))))))) (fun (k45_6 : Sg → Option Sg) => if r_4 = 0 then (k45_6 σ_3) else (b1 (XX10_isWord (6611108 : Int32) σ_3) (fun (r_11 : Int32) => if r_11 = 0 then (k45_6 σ_3) else (b1 (XX10_goOn σ_3) (fun (σ_12 : Sg) => b1 (XX10_reads (4 : Int32) (0 : Int32) (99 : Int32) σ_12) (fun (σ_13 : Sg) => k45_6 σ_13))))))))))
theorem kX10_readTruck {σ : Sg} {rr : Sg}  (h : XX10_readTruck σ = some rr) : Cv MX10_readTruck [.ref 64] (SHc ++ SHm) σ rr := by
  refine Cv.start rfl rfl (Nat.le_of_ble_eq_true rfl) rfl ?_
  intro X ad C R
  replace C : Cx X cX10_readTruck 1 RX10 none { frames := 4, cells := 0, slots := 0, locals := 89 } := C
  replace R : Rv X cX10_readTruck ad (SHc ++ SHm) rr := R
  show AW X 0 0 ad (SHc ++ SHm) σ 0 [some (.ref 64)] []
  rw [XX10_readTruck] at h
  refine a_aload_n C eX10_readTruck_0 rfl ?_
  refine a_iconst C eX10_readTruck_1 (2 : Int32) c_iconst_2 ?_
  obtain ⟨r_1, σ_2, hq, h⟩ := b2_e h
  refine a_cVi1 C eX10_readTruck_2 wX10_184 ⟨Nat.le_of_ble_eq_true rfl, Nat.le_of_ble_eq_true rfl, rfl, rfl⟩ rfl sh_64 rfl (kX10_begins hq) (Nat.le_of_ble_eq_true rfl) ?_
  refine a_if_ne C eX10_readTruck_5 (fun hc => ?_) (fun hc => ?_)
  · replace h := ie hc h
    refine a_aload_n C eX10_readTruck_9 rfl ?_
    refine a_iconst C eX10_readTruck_10 (3 : Int32) c_iconst_3 ?_
    refine a_iconst C eX10_readTruck_11 (1 : Int32) c_iconst_1 ?_
    refine a_bipush C eX10_readTruck_12 (99 : Int32) c_bipush_99 ?_
    obtain ⟨σ_3, hq, h⟩ := b1_e h
    refine a_cVv3 C eX10_readTruck_14 wX10_187 ⟨Nat.le_of_ble_eq_true rfl, Nat.le_of_ble_eq_true rfl, rfl, rfl⟩ rfl sh_64 rfl (kX10_reads hq) (Nat.le_of_ble_eq_true rfl) ?_
    refine a_aload_n C eX10_readTruck_17 rfl ?_
    obtain ⟨r_4, hq, h⟩ := b1_e h
    refine a_cVi0 C eX10_readTruck_18 wX10_131 ⟨Nat.le_of_ble_eq_true rfl, Nat.le_of_ble_eq_true rfl, rfl, rfl⟩ rfl sh_64 rfl (kX10_isGood hq) (Nat.le_of_ble_eq_true rfl) ?_
    refine jn (fun (kk : Sg → Option Sg) => ∀ (σ_5 : Sg), kk σ_5 = some rr → AW X 0 0 ad (SHc ++ SHm) σ_5 45 [some (.ref 64)] []) h ?_ (fun k45_6 hk45_6 h => ?_)
    · intro σ_5 h
      refine a_aload_n C eX10_readTruck_45 rfl ?_
      obtain ⟨r_7, hq, h⟩ := b1_e h
      refine a_cVi0 C eX10_readTruck_46 wX10_131 ⟨Nat.le_of_ble_eq_true rfl, Nat.le_of_ble_eq_true rfl, rfl, rfl⟩ rfl sh_64 rfl (kX10_isGood hq) (Nat.le_of_ble_eq_true rfl) ?_
      refine a_if_eq C eX10_readTruck_49 (fun hc => ?_) (fun hc => ?_)
      · replace h := it hc h
        exact rt_v R eX10_readTruck_73 h
      · replace h := ie hc h
        refine a_aload_n C eX10_readTruck_52 rfl ?_
        refine a_ldc C eX10_readTruck_53 (435589 : Int32) wkX10_159 ?_
        obtain ⟨r_8, hq, h⟩ := b1_e h
        refine a_cVi1 C eX10_readTruck_55 wX10_153 ⟨Nat.le_of_ble_eq_true rfl, Nat.le_of_ble_eq_true rfl, rfl, rfl⟩ rfl sh_64 rfl (kX10_isWord hq) (Nat.le_of_ble_eq_true rfl) ?_
        refine a_if_eq C eX10_readTruck_58 (fun hc => ?_) (fun hc => ?_)
        · replace h := it hc h
          exact rt_v R eX10_readTruck_73 h
        · replace h := ie hc h
          refine a_aload_n C eX10_readTruck_61 rfl ?_
          obtain ⟨σ_9, hq, h⟩ := b1_e h
          refine a_cVv0 C eX10_readTruck_62 wX10_170 ⟨Nat.le_of_ble_eq_true rfl, Nat.le_of_ble_eq_true rfl, rfl, rfl⟩ rfl sh_64 rfl (kX10_goOn hq) (Nat.le_of_ble_eq_true rfl) ?_
          refine a_aload_n C eX10_readTruck_65 rfl ?_
          refine a_iconst C eX10_readTruck_66 (5 : Int32) c_iconst_5 ?_
          refine a_iconst C eX10_readTruck_67 (0 : Int32) c_iconst_0 ?_
          refine a_bipush C eX10_readTruck_68 (9 : Int32) c_bipush_9 ?_
          obtain ⟨σ_10, hq, h⟩ := b1_e h
          refine a_cVv3 C eX10_readTruck_70 wX10_187 ⟨Nat.le_of_ble_eq_true rfl, Nat.le_of_ble_eq_true rfl, rfl, rfl⟩ rfl sh_64 rfl (kX10_reads hq) (Nat.le_of_ble_eq_true rfl) ?_
          exact rt_v R eX10_readTruck_73 h
    refine a_if_eq C eX10_readTruck_21 (fun hc => ?_) (fun hc => ?_)
    · replace h := it hc h
      exact a_less (lle_same lle_nil) (hk45_6 _ h)
    · replace h := ie hc h
      refine a_aload_n C eX10_readTruck_24 rfl ?_
      refine a_ldc C eX10_readTruck_25 (6611108 : Int32) wkX10_158 ?_
      obtain ⟨r_11, hq, h⟩ := b1_e h
      refine a_cVi1 C eX10_readTruck_27 wX10_153 ⟨Nat.le_of_ble_eq_true rfl, Nat.le_of_ble_eq_true rfl, rfl, rfl⟩ rfl sh_64 rfl (kX10_isWord hq) (Nat.le_of_ble_eq_true rfl) ?_
      refine a_if_eq C eX10_readTruck_30 (fun hc => ?_) (fun hc => ?_)
      · replace h := it hc h
        exact a_less (lle_same lle_nil) (hk45_6 _ h)
      · replace h := ie hc h
        refine a_aload_n C eX10_readTruck_33 rfl ?_
        obtain ⟨σ_12, hq, h⟩ := b1_e h
        refine a_cVv0 C eX10_readTruck_34 wX10_170 ⟨Nat.le_of_ble_eq_true rfl, Nat.le_of_ble_eq_true rfl, rfl, rfl⟩ rfl sh_64 rfl (kX10_goOn hq) (Nat.le_of_ble_eq_true rfl) ?_
        refine a_aload_n C eX10_readTruck_37 rfl ?_
        refine a_iconst C eX10_readTruck_38 (4 : Int32) c_iconst_4 ?_
        refine a_iconst C eX10_readTruck_39 (0 : Int32) c_iconst_0 ?_
        refine a_bipush C eX10_readTruck_40 (99 : Int32) c_bipush_99 ?_
        obtain ⟨σ_13, hq, h⟩ := b1_e h
        refine a_cVv3 C eX10_readTruck_42 wX10_187 ⟨Nat.le_of_ble_eq_true rfl, Nat.le_of_ble_eq_true rfl, rfl, rfl⟩ rfl sh_64 rfl (kX10_reads hq) (Nat.le_of_ble_eq_true rfl) ?_
        exact a_less (lle_same lle_nil) (hk45_6 _ h)
  · replace h := it hc h
    exact rt_v R eX10_readTruck_8 h
