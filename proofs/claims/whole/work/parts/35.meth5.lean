/-! ShelfDrives.empty(I)I -/
def XX9_empty (p1 : Int32) (σ : Sg) : Option Int32 := b1 (XX7_hasShop p1 σ) (fun (r_1 : Int32) => if r_1 = 0 then (some (-1 : Int32)) else (b1 (XX5_firstMissed 38 p1 σ) (fun (r_2 : Int32) => some r_2)))
theorem kX9_empty {ext : List Shp} {p1 : Int32} {σ : Sg} {rr : Int32}  (h : XX9_empty p1 σ = some rr) : Ci MX9_empty [.ref 0, .int p1] (SHc ++ ext) σ (rr, σ) := by
  refine Ci.start rfl rfl (Nat.le_of_ble_eq_true rfl) ?_
  intro X ad C R
  replace C : Cx X cX9_empty 2 RX9 (some .int) { frames := 2, cells := 0, slots := 0, locals := 43 } := C
  replace R : Ri X cX9_empty (some .int) ad (SHc ++ ext) (rr, σ) := R
  show AW X 0 0 ad (SHc ++ ext) σ 0 [some (.ref 0), some (.int p1)] []
  rw [XX9_empty] at h
  refine a_aload_n C eX9_empty_0 rfl ?_
  refine a_getR C eX9_empty_1 fX9_20 sh_0 rfl ?_
  refine a_iload_n C eX9_empty_4 rfl ?_
  obtain ⟨r_1, hq, h⟩ := b1_e h
  refine a_cVi1 C eX9_empty_5 wX9_146 ⟨Nat.le_of_ble_eq_true rfl, Nat.le_of_ble_eq_true rfl, rfl, rfl⟩ rfl sh_2 rfl (kX7_hasShop hq) (Nat.le_of_ble_eq_true rfl) ?_
  refine a_if_eq C eX9_empty_8 (fun hc => ?_) (fun hc => ?_)
  · replace h := it hc h
    refine a_iconst C eX9_empty_22 (-1 : Int32) c_iconst_m1 ?_
    exact rt_p R eX9_empty_23 h nb_int
  · replace h := ie hc h
    refine a_aload_n C eX9_empty_11 rfl ?_
    refine a_getR C eX9_empty_12 fX9_59 sh_0 rfl ?_
    refine a_iload_n C eX9_empty_15 rfl ?_
    obtain ⟨r_2, hq, h⟩ := b1_e h
    refine a_cVi1 C eX9_empty_16 wX9_194 ⟨Nat.le_of_ble_eq_true rfl, Nat.le_of_ble_eq_true rfl, rfl, rfl⟩ rfl sh_38 rfl (kX5_firstMissed is_X5_38 hq) (Nat.le_of_ble_eq_true rfl) ?_
    refine a_goto C eX9_empty_19 ?_
    exact rt_p R eX9_empty_23 h nb_int
/-! ShelfDrives.bears(II)I -/
def XX9_bears (p1 : Int32) (p2 : Int32) (σ : Sg) : Option Int32 := b1 (XX9_hasCell p1 p2 σ) (fun (r_1 : Int32) => if r_1 = 0 then (some (-1 : Int32)) else (b1 (XX5_firstMissed 38 p1 σ) (fun (r_2 : Int32) => if r_2 = (-1 : Int32) then (b1 (XX5_spareFrom 38 p1 p2 σ) (fun (r_3 : Int32) => some r_3)) else (some (-1 : Int32)))))
theorem kX9_bears {ext : List Shp} {p1 : Int32} {p2 : Int32} {σ : Sg} {rr : Int32}  (h : XX9_bears p1 p2 σ = some rr) : Ci MX9_bears [.ref 0, .int p1, .int p2] (SHc ++ ext) σ (rr, σ) := by
  refine Ci.start rfl rfl (Nat.le_of_ble_eq_true rfl) ?_
  intro X ad C R
  replace C : Cx X cX9_bears 3 RX9 (some .int) { frames := 2, cells := 0, slots := 0, locals := 46 } := C
  replace R : Ri X cX9_bears (some .int) ad (SHc ++ ext) (rr, σ) := R
  show AW X 0 0 ad (SHc ++ ext) σ 0 [some (.ref 0), some (.int p1), some (.int p2)] []
  rw [XX9_bears] at h
  refine a_aload_n C eX9_bears_0 rfl ?_
  refine a_iload_n C eX9_bears_1 rfl ?_
  refine a_iload_n C eX9_bears_2 rfl ?_
  obtain ⟨r_1, hq, h⟩ := b1_e h
  refine a_cVi2 C eX9_bears_3 wX9_172 ⟨Nat.le_of_ble_eq_true rfl, Nat.le_of_ble_eq_true rfl, rfl, rfl⟩ rfl sh_0 rfl (kX9_hasCell hq) (Nat.le_of_ble_eq_true rfl) ?_
  refine a_if_eq C eX9_bears_6 (fun hc => ?_) (fun hc => ?_)
  · replace h := it hc h
    refine a_iconst C eX9_bears_21 (-1 : Int32) c_iconst_m1 ?_
    exact rt_p R eX9_bears_22 h nb_int
  · replace h := ie hc h
    refine a_aload_n C eX9_bears_9 rfl ?_
    refine a_getR C eX9_bears_10 fX9_59 sh_0 rfl ?_
    refine a_iload_n C eX9_bears_13 rfl ?_
    obtain ⟨r_2, hq, h⟩ := b1_e h
    refine a_cVi1 C eX9_bears_14 wX9_194 ⟨Nat.le_of_ble_eq_true rfl, Nat.le_of_ble_eq_true rfl, rfl, rfl⟩ rfl sh_38 rfl (kX5_firstMissed is_X5_38 hq) (Nat.le_of_ble_eq_true rfl) ?_
    refine a_iconst C eX9_bears_17 (-1 : Int32) c_iconst_m1 ?_
    refine a_icmp_eq C eX9_bears_18 (fun hc => ?_) (fun hc => ?_)
    · replace h := it hc h
      refine a_aload_n C eX9_bears_23 rfl ?_
      refine a_getR C eX9_bears_24 fX9_59 sh_0 rfl ?_
      refine a_iload_n C eX9_bears_27 rfl ?_
      refine a_iload_n C eX9_bears_28 rfl ?_
      obtain ⟨r_3, hq, h⟩ := b1_e h
      refine a_cVi2 C eX9_bears_29 wX9_197 ⟨Nat.le_of_ble_eq_true rfl, Nat.le_of_ble_eq_true rfl, rfl, rfl⟩ rfl sh_38 rfl (kX5_spareFrom is_X5_38 hq) (Nat.le_of_ble_eq_true rfl) ?_
      exact rt_p R eX9_bears_32 h nb_int
    · replace h := ie hc h
      refine a_iconst C eX9_bears_21 (-1 : Int32) c_iconst_m1 ?_
      exact rt_p R eX9_bears_22 h nb_int
/-! ShelfDrives.waits(II)I -/
def XX9_waits (p1 : Int32) (p2 : Int32) (σ : Sg) : Option Int32 := b1 (XX9_hasCell p1 p2 σ) (fun (r_1 : Int32) => if r_1 = 0 then (some (-1 : Int32)) else (b1 (XX5_lastsUntil 38 p1 p2 σ) (fun (r_2 : Int32) => some r_2)))
theorem kX9_waits {ext : List Shp} {p1 : Int32} {p2 : Int32} {σ : Sg} {rr : Int32}  (h : XX9_waits p1 p2 σ = some rr) : Ci MX9_waits [.ref 0, .int p1, .int p2] (SHc ++ ext) σ (rr, σ) := by
  refine Ci.start rfl rfl (Nat.le_of_ble_eq_true rfl) ?_
  intro X ad C R
  replace C : Cx X cX9_waits 3 RX9 (some .int) { frames := 2, cells := 0, slots := 0, locals := 45 } := C
  replace R : Ri X cX9_waits (some .int) ad (SHc ++ ext) (rr, σ) := R
  show AW X 0 0 ad (SHc ++ ext) σ 0 [some (.ref 0), some (.int p1), some (.int p2)] []
  rw [XX9_waits] at h
  refine a_aload_n C eX9_waits_0 rfl ?_
  refine a_iload_n C eX9_waits_1 rfl ?_
  refine a_iload_n C eX9_waits_2 rfl ?_
  obtain ⟨r_1, hq, h⟩ := b1_e h
  refine a_cVi2 C eX9_waits_3 wX9_172 ⟨Nat.le_of_ble_eq_true rfl, Nat.le_of_ble_eq_true rfl, rfl, rfl⟩ rfl sh_0 rfl (kX9_hasCell hq) (Nat.le_of_ble_eq_true rfl) ?_
  refine a_if_eq C eX9_waits_6 (fun hc => ?_) (fun hc => ?_)
  · replace h := it hc h
    refine a_iconst C eX9_waits_21 (-1 : Int32) c_iconst_m1 ?_
    exact rt_p R eX9_waits_22 h nb_int
  · replace h := ie hc h
    refine a_aload_n C eX9_waits_9 rfl ?_
    refine a_getR C eX9_waits_10 fX9_59 sh_0 rfl ?_
    refine a_iload_n C eX9_waits_13 rfl ?_
    refine a_iload_n C eX9_waits_14 rfl ?_
    obtain ⟨r_2, hq, h⟩ := b1_e h
    refine a_cVi2 C eX9_waits_15 wX9_200 ⟨Nat.le_of_ble_eq_true rfl, Nat.le_of_ble_eq_true rfl, rfl, rfl⟩ rfl sh_38 rfl (kX5_lastsUntil is_X5_38 hq) (Nat.le_of_ble_eq_true rfl) ?_
    refine a_goto C eX9_waits_18 ?_
    exact rt_p R eX9_waits_22 h nb_int
/-! ShelfDrives.chance(IIII)I -/
def LX9_chance_40 (p1 : Int32) (p2 : Int32) (p3 : Int32) (p4 : Int32) (σ : Sg) : Nat → Int32 → Int32 → Option Int32
  | 0, _, _ => none
  | n + 1, x5_1, x6_2 => if p2 ≤ x6_2 then (some x5_1) else (b1 (XX5_missedByChance 38 (p1 + x6_2) p3 σ) (fun (r_3 : Int32) => lt (fun (x5_4 : Int32) => lt (x6_2 + (1 : Int32)) (fun (x6_6 : Int32) => LX9_chance_40 p1 p2 p3 p4 σ n x5_4 x6_6)) (fun (k84_5 : Int32 → Option Int32) => if p4 = (1 : Int32) then (lt (x5_1 + r_3) (fun (x5_8 : Int32) => k84_5 x5_8)) else (if r_3 ≤ 0 then (k84_5 x5_1) else (lt (x5_1 + (1 : Int32)) (fun (x5_7 : Int32) => k84_5 x5_7))))))
def XX9_chance (p1 : Int32) (p2 : Int32) (p3 : Int32) (p4 : Int32) (σ : Sg) : Option Int32 := if p2 < (1 : Int32) then (some (-1 : Int32)) else (if (20 : Int32) < p2 then (some (-1 : Int32)) else (if p3 < 0 then (some (-1 : Int32)) else (if (20 : Int32) < p3 then (some (-1 : Int32)) else (if p4 < 0 then (some (-1 : Int32)) else (if p4 ≤ (1 : Int32) then (LX9_chance_40 p1 p2 p3 p4 σ FUEL (0 : Int32) (0 : Int32)) else (some (-1 : Int32)))))))
theorem lX9_chance_40 {ext : List Shp} {X : CT} {ad : Nat → Nat} {rr : Int32} {p1 : Int32} {p2 : Int32} {p3 : Int32} {p4 : Int32} {σ : Sg}  (C : Cx X cX9_chance 8 RX9 (some .int) { frames := 2, cells := 0, slots := 0, locals := 51 }) (R : Ri X cX9_chance (some .int) ad (SHc ++ ext) (rr, σ))  : ∀ (n : Nat) (x5_1 : Int32) (x6_2 : Int32), LX9_chance_40 p1 p2 p3 p4 σ n x5_1 x6_2 = some rr → AW X 0 0 ad (SHc ++ ext) σ 40 [some (.ref 0), some (.int p1), some (.int p2), some (.int p3), some (.int p4), some (.int x5_1), some (.int x6_2), none] [] := by
  intro n
  induction n with
  | zero =>
    intro x5_1 x6_2 h
    rw [LX9_chance_40] at h
    cases h
  | succ n ih =>
    intro x5_1 x6_2 h
    rw [LX9_chance_40] at h
    refine a_iload C eX9_chance_40 rfl ?_
    refine a_iload_n C eX9_chance_42 rfl ?_
    refine a_icmp_ge C eX9_chance_43 (fun hc => ?_) (fun hc => ?_)
    · replace h := it hc h
      refine a_iload C eX9_chance_90 rfl ?_
      exact rt_p R eX9_chance_92 h nb_int
    · replace h := ie hc h
      refine a_aload_n C eX9_chance_46 rfl ?_
      refine a_getR C eX9_chance_47 fX9_59 sh_0 rfl ?_
      refine a_iload_n C eX9_chance_50 rfl ?_
      refine a_iload C eX9_chance_51 rfl ?_
      refine a_iadd C eX9_chance_53 ?_
      refine a_iload_n C eX9_chance_54 rfl ?_
      obtain ⟨r_3, hq, h⟩ := b1_e h
      refine a_cVi2 C eX9_chance_55 wX9_203 ⟨Nat.le_of_ble_eq_true rfl, Nat.le_of_ble_eq_true rfl, rfl, rfl⟩ rfl sh_38 rfl (kX5_missedByChance is_X5_38 hq) (Nat.le_of_ble_eq_true rfl) ?_
      refine a_ist C eX9_chance_58 (Nat.le_of_ble_eq_true rfl) [some (.ref 0), some (.int p1), some (.int p2), some (.int p3), some (.int p4), some (.int x5_1), some (.int x6_2), some (.int r_3)] rfl ?_
      refine a_iload C eX9_chance_60 rfl ?_
      refine a_iconst C eX9_chance_62 (1 : Int32) c_iconst_1 ?_
      refine jn (fun (kk : Int32 → Option Int32) => ∀ (x5_4 : Int32), kk x5_4 = some rr → AW X 0 0 ad (SHc ++ ext) σ 84 [some (.ref 0), some (.int p1), some (.int p2), some (.int p3), some (.int p4), some (.int x5_4), some (.int x6_2), none] []) h ?_ (fun k84_5 hk84_5 h => ?_)
      · intro x5_4 h
        refine a_inc C eX9_chance_84 rfl c_iconst_1 h (fun z => [some (.ref 0), some (.int p1), some (.int p2), some (.int p3), some (.int p4), some (.int x5_4), some (.int z), none]) (fun _ => rfl) (fun x6_6 h => ?_)
        refine a_goto C eX9_chance_87 ?_
        exact a_less (lle_same (lle_same (lle_same (lle_same (lle_same (lle_same (lle_same (lle_same lle_nil)))))))) (ih _ _ h)
      refine a_icmp_ne C eX9_chance_63 (fun hc => ?_) (fun hc => ?_)
      · replace h := ie hc h
        refine a_iload C eX9_chance_76 rfl ?_
        refine a_if_le C eX9_chance_78 (fun hc => ?_) (fun hc => ?_)
        · replace h := it hc h
          exact a_less (lle_same (lle_same (lle_same (lle_same (lle_same (lle_same (lle_same (lle_drop lle_nil)))))))) (hk84_5 _ h)
        · replace h := ie hc h
          refine a_inc C eX9_chance_81 rfl c_iconst_1 h (fun z => [some (.ref 0), some (.int p1), some (.int p2), some (.int p3), some (.int p4), some (.int z), some (.int x6_2), some (.int r_3)]) (fun _ => rfl) (fun x5_7 h => ?_)
          exact a_less (lle_same (lle_same (lle_same (lle_same (lle_same (lle_same (lle_same (lle_drop lle_nil)))))))) (hk84_5 _ h)
      · replace h := it hc h
        refine a_iload C eX9_chance_66 rfl ?_
        refine a_iload C eX9_chance_68 rfl ?_
        refine a_iadd C eX9_chance_70 ?_
        refine a_lt h (fun x5_8 h => ?_)
        refine a_ist C eX9_chance_71 (Nat.le_of_ble_eq_true rfl) [some (.ref 0), some (.int p1), some (.int p2), some (.int p3), some (.int p4), some (.int x5_8), some (.int x6_2), some (.int r_3)] rfl ?_
        refine a_goto C eX9_chance_73 ?_
        exact a_less (lle_same (lle_same (lle_same (lle_same (lle_same (lle_same (lle_same (lle_drop lle_nil)))))))) (hk84_5 _ h)
theorem kX9_chance {ext : List Shp} {p1 : Int32} {p2 : Int32} {p3 : Int32} {p4 : Int32} {σ : Sg} {rr : Int32}  (h : XX9_chance p1 p2 p3 p4 σ = some rr) : Ci MX9_chance [.ref 0, .int p1, .int p2, .int p3, .int p4] (SHc ++ ext) σ (rr, σ) := by
  refine Ci.start rfl rfl (Nat.le_of_ble_eq_true rfl) ?_
  intro X ad C R
  replace C : Cx X cX9_chance 8 RX9 (some .int) { frames := 2, cells := 0, slots := 0, locals := 51 } := C
  replace R : Ri X cX9_chance (some .int) ad (SHc ++ ext) (rr, σ) := R
  show AW X 0 0 ad (SHc ++ ext) σ 0 [some (.ref 0), some (.int p1), some (.int p2), some (.int p3), some (.int p4), none, none, none] []
  rw [XX9_chance] at h
  refine a_iload_n C eX9_chance_0 rfl ?_
  refine a_iconst C eX9_chance_1 (1 : Int32) c_iconst_1 ?_
  refine a_icmp_lt C eX9_chance_2 (fun hc => ?_) (fun hc => ?_)
  · replace h := it hc h
    refine a_iconst C eX9_chance_32 (-1 : Int32) c_iconst_m1 ?_
    exact rt_p R eX9_chance_33 h nb_int
  · replace h := ie hc h
    refine a_iload_n C eX9_chance_5 rfl ?_
    refine a_bipush C eX9_chance_6 (20 : Int32) c_bipush_20 ?_
    refine a_icmp_gt C eX9_chance_8 (fun hc => ?_) (fun hc => ?_)
    · replace h := it hc h
      refine a_iconst C eX9_chance_32 (-1 : Int32) c_iconst_m1 ?_
      exact rt_p R eX9_chance_33 h nb_int
    · replace h := ie hc h
      refine a_iload_n C eX9_chance_11 rfl ?_
      refine a_if_lt C eX9_chance_12 (fun hc => ?_) (fun hc => ?_)
      · replace h := it hc h
        refine a_iconst C eX9_chance_32 (-1 : Int32) c_iconst_m1 ?_
        exact rt_p R eX9_chance_33 h nb_int
      · replace h := ie hc h
        refine a_iload_n C eX9_chance_15 rfl ?_
        refine a_bipush C eX9_chance_16 (20 : Int32) c_bipush_20 ?_
        refine a_icmp_gt C eX9_chance_18 (fun hc => ?_) (fun hc => ?_)
        · replace h := it hc h
          refine a_iconst C eX9_chance_32 (-1 : Int32) c_iconst_m1 ?_
          exact rt_p R eX9_chance_33 h nb_int
        · replace h := ie hc h
          refine a_iload C eX9_chance_21 rfl ?_
          refine a_if_lt C eX9_chance_23 (fun hc => ?_) (fun hc => ?_)
          · replace h := it hc h
            refine a_iconst C eX9_chance_32 (-1 : Int32) c_iconst_m1 ?_
            exact rt_p R eX9_chance_33 h nb_int
          · replace h := ie hc h
            refine a_iload C eX9_chance_26 rfl ?_
            refine a_iconst C eX9_chance_28 (1 : Int32) c_iconst_1 ?_
            refine a_icmp_le C eX9_chance_29 (fun hc => ?_) (fun hc => ?_)
            · replace h := it hc h
              refine a_iconst C eX9_chance_34 (0 : Int32) c_iconst_0 ?_
              refine a_ist C eX9_chance_35 (Nat.le_of_ble_eq_true rfl) [some (.ref 0), some (.int p1), some (.int p2), some (.int p3), some (.int p4), some (.int (0 : Int32)), none, none] rfl ?_
              refine a_iconst C eX9_chance_37 (0 : Int32) c_iconst_0 ?_
              refine a_ist C eX9_chance_38 (Nat.le_of_ble_eq_true rfl) [some (.ref 0), some (.int p1), some (.int p2), some (.int p3), some (.int p4), some (.int (0 : Int32)), some (.int (0 : Int32)), none] rfl ?_
              exact a_less (lle_same (lle_same (lle_same (lle_same (lle_same (lle_same (lle_same (lle_same lle_nil)))))))) (lX9_chance_40  C R  _ _ _ h)
            · replace h := ie hc h
              refine a_iconst C eX9_chance_32 (-1 : Int32) c_iconst_m1 ?_
              exact rt_p R eX9_chance_33 h nb_int
/-! ShelfDrives.partDay(I)I -/
def XX9_partDay (p1 : Int32) (σ : Sg) : Option (Int32 × Sg) := b1 (XX5_pickLoads 38 63 p1 σ) (fun (σ_1 : Sg) => b2 (XX2_part (σ_1 2 1) σ_1) (fun (r_2 : Int32) (σ_3 : Sg) => some (r_2, σ_3)))
theorem kX9_partDay {ext : List Shp} {p1 : Int32} {σ : Sg} {rr : (Int32 × Sg)}  (h : XX9_partDay p1 σ = some rr) : Ci MX9_partDay [.ref 0, .int p1] (SHc ++ ext) σ rr := by
  refine Ci.start rfl rfl (Nat.le_of_ble_eq_true rfl) ?_
  intro X ad C R
  replace C : Cx X cX9_partDay 2 RX9 (some .int) { frames := 2, cells := 0, slots := 0, locals := 52 } := C
  replace R : Ri X cX9_partDay (some .int) ad (SHc ++ ext) rr := R
  show AW X 0 0 ad (SHc ++ ext) σ 0 [some (.ref 0), some (.int p1)] []
  rw [XX9_partDay] at h
  refine a_aload_n C eX9_partDay_0 rfl ?_
  refine a_getR C eX9_partDay_1 fX9_59 sh_0 rfl ?_
  refine a_iload_n C eX9_partDay_4 rfl ?_
  refine a_aload_n C eX9_partDay_5 rfl ?_
  refine a_getR C eX9_partDay_6 fX9_87 sh_0 rfl ?_
  obtain ⟨σ_1, hq, h⟩ := b1_e h
  refine a_cVv2 C eX9_partDay_9 wX9_231 ⟨Nat.le_of_ble_eq_true rfl, Nat.le_of_ble_eq_true rfl, rfl, rfl⟩ rfl sh_38 rfl (kX5_pickLoads is_X5_38 sh_63 hq) (Nat.le_of_ble_eq_true rfl) ?_
  refine a_aload_n C eX9_partDay_12 rfl ?_
  refine a_getR C eX9_partDay_13 fX9_43 sh_0 rfl ?_
  refine a_aload_n C eX9_partDay_16 rfl ?_
  refine a_getR C eX9_partDay_17 fX9_87 sh_0 rfl ?_
  refine a_aload_n C eX9_partDay_20 rfl ?_
  refine a_getR C eX9_partDay_21 fX9_20 sh_0 rfl ?_
  refine a_getI C eX9_partDay_24 fX9_119 sh_2 rfl ?_
  obtain ⟨r_2, σ_3, hq, h⟩ := b2_e h
  refine a_cVi2 C eX9_partDay_27 wX9_381 ⟨Nat.le_of_ble_eq_true rfl, Nat.le_of_ble_eq_true rfl, rfl, rfl⟩ rfl sh_29 rfl (kX2_part hq) (Nat.le_of_ble_eq_true rfl) ?_
  exact rt_i R eX9_partDay_30 h nb_int
/-! ShelfDrives.rounds(I)I -/
def XX9_rounds (p1 : Int32) (σ : Sg) : Option (Int32 × Sg) := b1 (XX7_hasDay p1 σ) (fun (r_1 : Int32) => if r_1 = 0 then (some ((-1 : Int32), σ)) else (b2 (XX9_partDay p1 σ) (fun (r_2 : Int32) (σ_3 : Sg) => some (r_2, σ_3))))
theorem kX9_rounds {ext : List Shp} {p1 : Int32} {σ : Sg} {rr : (Int32 × Sg)}  (h : XX9_rounds p1 σ = some rr) : Ci MX9_rounds [.ref 0, .int p1] (SHc ++ ext) σ rr := by
  refine Ci.start rfl rfl (Nat.le_of_ble_eq_true rfl) ?_
  intro X ad C R
  replace C : Cx X cX9_rounds 2 RX9 (some .int) { frames := 3, cells := 0, slots := 0, locals := 73 } := C
  replace R : Ri X cX9_rounds (some .int) ad (SHc ++ ext) rr := R
  show AW X 0 0 ad (SHc ++ ext) σ 0 [some (.ref 0), some (.int p1)] []
  rw [XX9_rounds] at h
  refine a_aload_n C eX9_rounds_0 rfl ?_
  refine a_getR C eX9_rounds_1 fX9_20 sh_0 rfl ?_
  refine a_iload_n C eX9_rounds_4 rfl ?_
  obtain ⟨r_1, hq, h⟩ := b1_e h
  refine a_cVi1 C eX9_rounds_5 wX9_150 ⟨Nat.le_of_ble_eq_true rfl, Nat.le_of_ble_eq_true rfl, rfl, rfl⟩ rfl sh_2 rfl (kX7_hasDay hq) (Nat.le_of_ble_eq_true rfl) ?_
  refine a_if_eq C eX9_rounds_8 (fun hc => ?_) (fun hc => ?_)
  · replace h := it hc h
    refine a_iconst C eX9_rounds_19 (-1 : Int32) c_iconst_m1 ?_
    exact rt_i R eX9_rounds_20 h nb_int
  · replace h := ie hc h
    refine a_aload_n C eX9_rounds_11 rfl ?_
    refine a_iload_n C eX9_rounds_12 rfl ?_
    obtain ⟨r_2, σ_3, hq, h⟩ := b2_e h
    refine a_cVi1 C eX9_rounds_13 wX9_206 ⟨Nat.le_of_ble_eq_true rfl, Nat.le_of_ble_eq_true rfl, rfl, rfl⟩ rfl sh_0 rfl (kX9_partDay hq) (Nat.le_of_ble_eq_true rfl) ?_
    refine a_goto C eX9_rounds_16 ?_
    exact rt_i R eX9_rounds_20 h nb_int
/-! ShelfDrives.roundSet(II)I -/
def XX9_roundSet (p1 : Int32) (p2 : Int32) (σ : Sg) : Option (Int32 × Sg) := b1 (XX7_hasDay p1 σ) (fun (r_1 : Int32) => if r_1 = 0 then (some ((0 : Int32), σ)) else (if p2 < 0 then (some ((0 : Int32), σ)) else (b2 (XX9_partDay p1 σ) (fun (r_2 : Int32) (σ_3 : Sg) => if p2 < r_2 then (b1 (XX2_setAt p2 σ_3) (fun (r_4 : Int32) => some (r_4, σ_3))) else (some ((0 : Int32), σ_3))))))
theorem kX9_roundSet {ext : List Shp} {p1 : Int32} {p2 : Int32} {σ : Sg} {rr : (Int32 × Sg)}  (h : XX9_roundSet p1 p2 σ = some rr) : Ci MX9_roundSet [.ref 0, .int p1, .int p2] (SHc ++ ext) σ rr := by
  refine Ci.start rfl rfl (Nat.le_of_ble_eq_true rfl) ?_
  intro X ad C R
  replace C : Cx X cX9_roundSet 3 RX9 (some .int) { frames := 3, cells := 0, slots := 0, locals := 73 } := C
  replace R : Ri X cX9_roundSet (some .int) ad (SHc ++ ext) rr := R
  show AW X 0 0 ad (SHc ++ ext) σ 0 [some (.ref 0), some (.int p1), some (.int p2)] []
  rw [XX9_roundSet] at h
  refine a_aload_n C eX9_roundSet_0 rfl ?_
  refine a_getR C eX9_roundSet_1 fX9_20 sh_0 rfl ?_
  refine a_iload_n C eX9_roundSet_4 rfl ?_
  obtain ⟨r_1, hq, h⟩ := b1_e h
  refine a_cVi1 C eX9_roundSet_5 wX9_150 ⟨Nat.le_of_ble_eq_true rfl, Nat.le_of_ble_eq_true rfl, rfl, rfl⟩ rfl sh_2 rfl (kX7_hasDay hq) (Nat.le_of_ble_eq_true rfl) ?_
  refine a_if_eq C eX9_roundSet_8 (fun hc => ?_) (fun hc => ?_)
  · replace h := it hc h
    refine a_iconst C eX9_roundSet_24 (0 : Int32) c_iconst_0 ?_
    exact rt_i R eX9_roundSet_25 h nb_int
  · replace h := ie hc h
    refine a_iload_n C eX9_roundSet_11 rfl ?_
    refine a_if_lt C eX9_roundSet_12 (fun hc => ?_) (fun hc => ?_)
    · replace h := it hc h
      refine a_iconst C eX9_roundSet_24 (0 : Int32) c_iconst_0 ?_
      exact rt_i R eX9_roundSet_25 h nb_int
    · replace h := ie hc h
      refine a_iload_n C eX9_roundSet_15 rfl ?_
      refine a_aload_n C eX9_roundSet_16 rfl ?_
      refine a_iload_n C eX9_roundSet_17 rfl ?_
      obtain ⟨r_2, σ_3, hq, h⟩ := b2_e h
      refine a_cVi1 C eX9_roundSet_18 wX9_206 ⟨Nat.le_of_ble_eq_true rfl, Nat.le_of_ble_eq_true rfl, rfl, rfl⟩ rfl sh_0 rfl (kX9_partDay hq) (Nat.le_of_ble_eq_true rfl) ?_
      refine a_icmp_lt C eX9_roundSet_21 (fun hc => ?_) (fun hc => ?_)
      · replace h := it hc h
        refine a_aload_n C eX9_roundSet_26 rfl ?_
        refine a_getR C eX9_roundSet_27 fX9_43 sh_0 rfl ?_
        refine a_iload_n C eX9_roundSet_30 rfl ?_
        obtain ⟨r_4, hq, h⟩ := b1_e h
        refine a_cVi1 C eX9_roundSet_31 wX9_384 ⟨Nat.le_of_ble_eq_true rfl, Nat.le_of_ble_eq_true rfl, rfl, rfl⟩ rfl sh_29 rfl (kX2_setAt hq) (Nat.le_of_ble_eq_true rfl) ?_
        exact rt_i R eX9_roundSet_34 h nb_int
      · replace h := ie hc h
        refine a_iconst C eX9_roundSet_24 (0 : Int32) c_iconst_0 ?_
        exact rt_i R eX9_roundSet_25 h nb_int
/-! ShelfDrives.round(III)I -/
def XX9_round (p1 : Int32) (p2 : Int32) (p3 : Int32) (σ : Sg) : Option (Int32 × Sg) := b2 (XX9_roundSet p1 p2 σ) (fun (r_1 : Int32) (σ_2 : Sg) => if r_1 = 0 then (some ((-1 : Int32), σ_2)) else (if p3 < (10 : Int32) then (if p3 = (0 : Int32) then (some (r_1, σ_2)) else (if p3 = (1 : Int32) then (b1 (XX8_milesTo r_1 σ_2) (fun (r_4 : Int32) => some (r_4, σ_2))) else (if p3 = (2 : Int32) then (b1 (XX2_loadOf r_1 σ_2) (fun (r_6 : Int32) => some (r_6, σ_2))) else (if p3 = (3 : Int32) then (b1 (XX2_roundPrice r_1 σ_2) (fun (r_8 : Int32) => some (r_8, σ_2))) else (some ((-1 : Int32), σ_2)))))) else (b2 (XX8_trace r_1 σ_2) (fun (r_10 : Int32) (σ_11 : Sg) => if r_10 ≤ (p3 - (10 : Int32)) then (some ((-1 : Int32), σ_11)) else (if ib (p3 - (10 : Int32)) 6 then some (σ_11 26 (p3 - (10 : Int32)).toNatClampNeg, σ_11) else none)))))
theorem kX9_round {ext : List Shp} {p1 : Int32} {p2 : Int32} {p3 : Int32} {σ : Sg} {rr : (Int32 × Sg)}  (h : XX9_round p1 p2 p3 σ = some rr) : Ci MX9_round [.ref 0, .int p1, .int p2, .int p3] (SHc ++ ext) σ rr := by
  refine Ci.start rfl rfl (Nat.le_of_ble_eq_true rfl) ?_
  intro X ad C R
  replace C : Cx X cX9_round 6 RX9 (some .int) { frames := 4, cells := 0, slots := 0, locals := 95 } := C
  replace R : Ri X cX9_round (some .int) ad (SHc ++ ext) rr := R
  show AW X 0 0 ad (SHc ++ ext) σ 0 [some (.ref 0), some (.int p1), some (.int p2), some (.int p3), none, none] []
  rw [XX9_round] at h
  refine a_aload_n C eX9_round_0 rfl ?_
  refine a_iload_n C eX9_round_1 rfl ?_
  refine a_iload_n C eX9_round_2 rfl ?_
  obtain ⟨r_1, σ_2, hq, h⟩ := b2_e h
  refine a_cVi2 C eX9_round_3 wX9_209 ⟨Nat.le_of_ble_eq_true rfl, Nat.le_of_ble_eq_true rfl, rfl, rfl⟩ rfl sh_0 rfl (kX9_roundSet hq) (Nat.le_of_ble_eq_true rfl) ?_
  refine a_ist C eX9_round_6 (Nat.le_of_ble_eq_true rfl) [some (.ref 0), some (.int p1), some (.int p2), some (.int p3), some (.int r_1), none] rfl ?_
  refine a_iload C eX9_round_8 rfl ?_
  refine a_if_ne C eX9_round_10 (fun hc => ?_) (fun hc => ?_)
  · replace h := ie hc h
    refine a_iload_n C eX9_round_15 rfl ?_
    refine a_bipush C eX9_round_16 (10 : Int32) c_bipush_10 ?_
    refine a_icmp_lt C eX9_round_18 (fun hc => ?_) (fun hc => ?_)
    · replace h := it hc h
      refine a_iload_n C eX9_round_58 rfl ?_
      by_cases hs_3 : p3 = (0 : Int32)
      · replace h := it hs_3 h
        refine a_tsw C eX9_round_59 (0 : Int32) hs_3 (by decide) (by decide) rfl (tgt := 88) rfl ?_
        refine a_iload C eX9_round_88 rfl ?_
        exact rt_i R eX9_round_90 h nb_int
      replace h := ie hs_3 h
      by_cases hs_5 : p3 = (1 : Int32)
      · replace h := it hs_5 h
        refine a_tsw C eX9_round_59 (1 : Int32) hs_5 (by decide) (by decide) rfl (tgt := 91) rfl ?_
        refine a_aload_n C eX9_round_91 rfl ?_
        refine a_getR C eX9_round_92 fX9_34 sh_0 rfl ?_
        refine a_iload C eX9_round_95 rfl ?_
        obtain ⟨r_4, hq, h⟩ := b1_e h
        refine a_cVi1 C eX9_round_97 wX9_218 ⟨Nat.le_of_ble_eq_true rfl, Nat.le_of_ble_eq_true rfl, rfl, rfl⟩ rfl sh_25 rfl (kX8_milesTo hq) (Nat.le_of_ble_eq_true rfl) ?_
        exact rt_i R eX9_round_100 h nb_int
      replace h := ie hs_5 h
      by_cases hs_7 : p3 = (2 : Int32)
      · replace h := it hs_7 h
        refine a_tsw C eX9_round_59 (2 : Int32) hs_7 (by decide) (by decide) rfl (tgt := 101) rfl ?_
        refine a_aload_n C eX9_round_101 rfl ?_
        refine a_getR C eX9_round_102 fX9_43 sh_0 rfl ?_
        refine a_iload C eX9_round_105 rfl ?_
        obtain ⟨r_6, hq, h⟩ := b1_e h
        refine a_cVi1 C eX9_round_107 wX9_221 ⟨Nat.le_of_ble_eq_true rfl, Nat.le_of_ble_eq_true rfl, rfl, rfl⟩ rfl sh_29 rfl (kX2_loadOf hq) (Nat.le_of_ble_eq_true rfl) ?_
        exact rt_i R eX9_round_110 h nb_int
      replace h := ie hs_7 h
      by_cases hs_9 : p3 = (3 : Int32)
      · replace h := it hs_9 h
        refine a_tsw C eX9_round_59 (3 : Int32) hs_9 (by decide) (by decide) rfl (tgt := 111) rfl ?_
        refine a_aload_n C eX9_round_111 rfl ?_
        refine a_getR C eX9_round_112 fX9_43 sh_0 rfl ?_
        refine a_iload C eX9_round_115 rfl ?_
        obtain ⟨r_8, hq, h⟩ := b1_e h
        refine a_cVi1 C eX9_round_117 wX9_224 ⟨Nat.le_of_ble_eq_true rfl, Nat.le_of_ble_eq_true rfl, rfl, rfl⟩ rfl sh_29 rfl (kX2_roundPrice hq) (Nat.le_of_ble_eq_true rfl) ?_
        exact rt_i R eX9_round_120 h nb_int
      replace h := ie hs_9 h
      refine a_tsw_out C eX9_round_59 4 rfl (fun j hj => match j, hj with | 0, _ => lv_neT hs_3 rfl | 1, _ => lv_neT hs_5 rfl | 2, _ => lv_neT hs_7 rfl | 3, _ => lv_neT hs_9 rfl | j + 4, hj => absurd hj (by omega)) (tgt := 121) rfl ?_
      refine a_iconst C eX9_round_121 (-1 : Int32) c_iconst_m1 ?_
      exact rt_i R eX9_round_122 h nb_int
    · replace h := ie hc h
      refine a_aload_n C eX9_round_21 rfl ?_
      refine a_getR C eX9_round_22 fX9_34 sh_0 rfl ?_
      refine a_iload C eX9_round_25 rfl ?_
      obtain ⟨r_10, σ_11, hq, h⟩ := b2_e h
      refine a_cVi1 C eX9_round_27 wX9_212 ⟨Nat.le_of_ble_eq_true rfl, Nat.le_of_ble_eq_true rfl, rfl, rfl⟩ rfl sh_25 rfl (kX8_trace hq) (Nat.le_of_ble_eq_true rfl) ?_
      refine a_ist C eX9_round_30 (Nat.le_of_ble_eq_true rfl) [some (.ref 0), some (.int p1), some (.int p2), some (.int p3), some (.int r_1), some (.int r_10)] rfl ?_
      refine a_iload_n C eX9_round_32 rfl ?_
      refine a_bipush C eX9_round_33 (10 : Int32) c_bipush_10 ?_
      refine a_isub C eX9_round_35 ?_
      refine a_iload C eX9_round_36 rfl ?_
      refine a_icmp_ge C eX9_round_38 (fun hc => ?_) (fun hc => ?_)
      · replace h := it hc h
        refine a_iconst C eX9_round_56 (-1 : Int32) c_iconst_m1 ?_
        exact rt_i R eX9_round_57 h nb_int
      · replace h := ie hc h
        refine a_aload_n C eX9_round_41 rfl ?_
        refine a_getR C eX9_round_42 fX9_34 sh_0 rfl ?_
        refine a_getR C eX9_round_45 fX9_215 sh_25 rfl ?_
        refine a_iload_n C eX9_round_48 rfl ?_
        refine a_bipush C eX9_round_49 (10 : Int32) c_bipush_10 ?_
        refine a_isub C eX9_round_51 ?_
        obtain ⟨hb_12, h⟩ := gd h
        refine a_iald C eX9_round_52 sh_26 hb_12 ?_
        refine a_goto C eX9_round_53 ?_
        exact rt_i R eX9_round_57 h nb_int
  · replace h := it hc h
    refine a_iconst C eX9_round_13 (-1 : Int32) c_iconst_m1 ?_
    exact rt_i R eX9_round_14 h nb_int
/-! ShelfDrives.aboard(III)I -/
def LX9_aboard_53 (p3 : Int32) (σ_4 : Sg) : Nat → Int32 → Int32 → Option (Int32 × Sg)
  | 0, _, _ => none
  | n + 1, x6_6, x7_7 => if p3 < x7_7 then (some (x6_6, σ_4)) else (if ib x7_7 6 then if ib (σ_4 26 x7_7.toNatClampNeg) 6 then lt (x6_6 - (σ_4 63 (σ_4 26 x7_7.toNatClampNeg).toNatClampNeg)) (fun (x6_10 : Int32) => lt (x7_7 + (1 : Int32)) (fun (x7_11 : Int32) => LX9_aboard_53 p3 σ_4 n x6_10 x7_11)) else none else none)
def XX9_aboard (p1 : Int32) (p2 : Int32) (p3 : Int32) (σ : Sg) : Option (Int32 × Sg) := b2 (XX9_roundSet p1 p2 σ) (fun (r_1 : Int32) (σ_2 : Sg) => if r_1 = 0 then (some ((-1 : Int32), σ_2)) else (if (-1 : Int32) ≤ p3 then (b2 (XX8_trace r_1 σ_2) (fun (r_3 : Int32) (σ_4 : Sg) => if p3 < r_3 then (b1 (XX2_loadOf r_1 σ_4) (fun (r_5 : Int32) => LX9_aboard_53 p3 σ_4 FUEL r_5 (0 : Int32))) else (some ((-1 : Int32), σ_4)))) else (some ((-1 : Int32), σ_2))))
theorem lX9_aboard_53 {ext : List Shp} {X : CT} {ad : Nat → Nat} {rr : (Int32 × Sg)} {p3 : Int32} {σ_4 : Sg}  (C : Cx X cX9_aboard 8 RX9 (some .int) { frames := 4, cells := 0, slots := 0, locals := 95 }) (R : Ri X cX9_aboard (some .int) ad (SHc ++ ext) rr)  : ∀ (n : Nat) (x6_6 : Int32) (x7_7 : Int32), LX9_aboard_53 p3 σ_4 n x6_6 x7_7 = some rr → AW X 0 0 ad (SHc ++ ext) σ_4 53 [some (.ref 0), none, none, some (.int p3), none, none, some (.int x6_6), some (.int x7_7)] [] := by
  intro n
  induction n with
  | zero =>
    intro x6_6 x7_7 h
    rw [LX9_aboard_53] at h
    cases h
  | succ n ih =>
    intro x6_6 x7_7 h
    rw [LX9_aboard_53] at h
    refine a_iload C eX9_aboard_53 rfl ?_
    refine a_iload_n C eX9_aboard_55 rfl ?_
    refine a_icmp_gt C eX9_aboard_56 (fun hc => ?_) (fun hc => ?_)
    · replace h := it hc h
      refine a_iload C eX9_aboard_85 rfl ?_
      exact rt_i R eX9_aboard_87 h nb_int
    · replace h := ie hc h
      refine a_iload C eX9_aboard_59 rfl ?_
      refine a_aload_n C eX9_aboard_61 rfl ?_
      refine a_getR C eX9_aboard_62 fX9_87 sh_0 rfl ?_
      refine a_aload_n C eX9_aboard_65 rfl ?_
      refine a_getR C eX9_aboard_66 fX9_34 sh_0 rfl ?_
      refine a_getR C eX9_aboard_69 fX9_215 sh_25 rfl ?_
      refine a_iload C eX9_aboard_72 rfl ?_
      obtain ⟨hb_8, h⟩ := gd h
      refine a_iald C eX9_aboard_74 sh_26 hb_8 ?_
      obtain ⟨hb_9, h⟩ := gd h
      refine a_iald C eX9_aboard_75 sh_63 hb_9 ?_
      refine a_isub C eX9_aboard_76 ?_
      refine a_lt h (fun x6_10 h => ?_)
      refine a_ist C eX9_aboard_77 (Nat.le_of_ble_eq_true rfl) [some (.ref 0), none, none, some (.int p3), none, none, some (.int x6_10), some (.int x7_7)] rfl ?_
      refine a_inc C eX9_aboard_79 rfl c_iconst_1 h (fun z => [some (.ref 0), none, none, some (.int p3), none, none, some (.int x6_10), some (.int z)]) (fun _ => rfl) (fun x7_11 h => ?_)
      refine a_goto C eX9_aboard_82 ?_
      exact a_less (lle_same (lle_same (lle_same (lle_same (lle_same (lle_same (lle_same (lle_same lle_nil)))))))) (ih _ _ h)
theorem kX9_aboard {ext : List Shp} {p1 : Int32} {p2 : Int32} {p3 : Int32} {σ : Sg} {rr : (Int32 × Sg)}  (h : XX9_aboard p1 p2 p3 σ = some rr) : Ci MX9_aboard [.ref 0, .int p1, .int p2, .int p3] (SHc ++ ext) σ rr := by
  refine Ci.start rfl rfl (Nat.le_of_ble_eq_true rfl) ?_
  intro X ad C R
  replace C : Cx X cX9_aboard 8 RX9 (some .int) { frames := 4, cells := 0, slots := 0, locals := 95 } := C
  replace R : Ri X cX9_aboard (some .int) ad (SHc ++ ext) rr := R
  show AW X 0 0 ad (SHc ++ ext) σ 0 [some (.ref 0), some (.int p1), some (.int p2), some (.int p3), none, none, none, none] []
  rw [XX9_aboard] at h
  refine a_aload_n C eX9_aboard_0 rfl ?_
  refine a_iload_n C eX9_aboard_1 rfl ?_
  refine a_iload_n C eX9_aboard_2 rfl ?_
  obtain ⟨r_1, σ_2, hq, h⟩ := b2_e h
  refine a_cVi2 C eX9_aboard_3 wX9_209 ⟨Nat.le_of_ble_eq_true rfl, Nat.le_of_ble_eq_true rfl, rfl, rfl⟩ rfl sh_0 rfl (kX9_roundSet hq) (Nat.le_of_ble_eq_true rfl) ?_
  refine a_ist C eX9_aboard_6 (Nat.le_of_ble_eq_true rfl) [some (.ref 0), some (.int p1), some (.int p2), some (.int p3), some (.int r_1), none, none, none] rfl ?_
  refine a_iload C eX9_aboard_8 rfl ?_
  refine a_if_eq C eX9_aboard_10 (fun hc => ?_) (fun hc => ?_)
  · replace h := it hc h
    refine a_iconst C eX9_aboard_18 (-1 : Int32) c_iconst_m1 ?_
    exact rt_i R eX9_aboard_19 h nb_int
  · replace h := ie hc h
    refine a_iload_n C eX9_aboard_13 rfl ?_
    refine a_iconst C eX9_aboard_14 (-1 : Int32) c_iconst_m1 ?_
    refine a_icmp_ge C eX9_aboard_15 (fun hc => ?_) (fun hc => ?_)
    · replace h := it hc h
      refine a_aload_n C eX9_aboard_20 rfl ?_
      refine a_getR C eX9_aboard_21 fX9_34 sh_0 rfl ?_
      refine a_iload C eX9_aboard_24 rfl ?_
      obtain ⟨r_3, σ_4, hq, h⟩ := b2_e h
      refine a_cVi1 C eX9_aboard_26 wX9_212 ⟨Nat.le_of_ble_eq_true rfl, Nat.le_of_ble_eq_true rfl, rfl, rfl⟩ rfl sh_25 rfl (kX8_trace hq) (Nat.le_of_ble_eq_true rfl) ?_
      refine a_ist C eX9_aboard_29 (Nat.le_of_ble_eq_true rfl) [some (.ref 0), some (.int p1), some (.int p2), some (.int p3), some (.int r_1), some (.int r_3), none, none] rfl ?_
      refine a_iload_n C eX9_aboard_31 rfl ?_
      refine a_iload C eX9_aboard_32 rfl ?_
      refine a_icmp_lt C eX9_aboard_34 (fun hc => ?_) (fun hc => ?_)
      · replace h := it hc h
        refine a_aload_n C eX9_aboard_39 rfl ?_
        refine a_getR C eX9_aboard_40 fX9_43 sh_0 rfl ?_
        refine a_iload C eX9_aboard_43 rfl ?_
        obtain ⟨r_5, hq, h⟩ := b1_e h
        refine a_cVi1 C eX9_aboard_45 wX9_221 ⟨Nat.le_of_ble_eq_true rfl, Nat.le_of_ble_eq_true rfl, rfl, rfl⟩ rfl sh_29 rfl (kX2_loadOf hq) (Nat.le_of_ble_eq_true rfl) ?_
        refine a_ist C eX9_aboard_48 (Nat.le_of_ble_eq_true rfl) [some (.ref 0), some (.int p1), some (.int p2), some (.int p3), some (.int r_1), some (.int r_3), some (.int r_5), none] rfl ?_
        refine a_iconst C eX9_aboard_50 (0 : Int32) c_iconst_0 ?_
        refine a_ist C eX9_aboard_51 (Nat.le_of_ble_eq_true rfl) [some (.ref 0), some (.int p1), some (.int p2), some (.int p3), some (.int r_1), some (.int r_3), some (.int r_5), some (.int (0 : Int32))] rfl ?_
        exact a_less (lle_same (lle_drop (lle_drop (lle_same (lle_drop (lle_drop (lle_same (lle_same lle_nil)))))))) (lX9_aboard_53  C R  _ _ _ h)
      · replace h := ie hc h
        refine a_iconst C eX9_aboard_37 (-1 : Int32) c_iconst_m1 ?_
        exact rt_i R eX9_aboard_38 h nb_int
    · replace h := ie hc h
      refine a_iconst C eX9_aboard_18 (-1 : Int32) c_iconst_m1 ?_
      exact rt_i R eX9_aboard_19 h nb_int
/-! ShelfDrives.miles(I)I -/
def XX9_miles (p1 : Int32) (σ : Sg) : Option Int32 := lt (some (-1 : Int32)) (fun (k28_1 : Option Int32) => if p1 < 0 then (k28_1) else (if ((1 : Int32) <<< ((σ 2 6) &&& 31)) ≤ p1 then (k28_1) else (b1 (XX8_milesTo p1 σ) (fun (r_2 : Int32) => some r_2))))
theorem kX9_miles {ext : List Shp} {p1 : Int32} {σ : Sg} {rr : Int32}  (h : XX9_miles p1 σ = some rr) : Ci MX9_miles [.ref 0, .int p1] (SHc ++ ext) σ (rr, σ) := by
  refine Ci.start rfl rfl (Nat.le_of_ble_eq_true rfl) ?_
  intro X ad C R
  replace C : Cx X cX9_miles 2 RX9 (some .int) { frames := 1, cells := 0, slots := 0, locals := 21 } := C
  replace R : Ri X cX9_miles (some .int) ad (SHc ++ ext) (rr, σ) := R
  show AW X 0 0 ad (SHc ++ ext) σ 0 [some (.ref 0), some (.int p1)] []
  rw [XX9_miles] at h
  refine a_iload_n C eX9_miles_0 rfl ?_
  refine jn (fun (kk : Option Int32) => kk = some rr → AW X 0 0 ad (SHc ++ ext) σ 28 [none, none] []) h ?_ (fun k28_1 hk28_1 h => ?_)
  · intro h
    refine a_iconst C eX9_miles_28 (-1 : Int32) c_iconst_m1 ?_
    exact rt_p R eX9_miles_29 h nb_int
  refine a_if_lt C eX9_miles_1 (fun hc => ?_) (fun hc => ?_)
  · replace h := it hc h
    exact a_less (lle_drop (lle_drop lle_nil)) (hk28_1 h)
  · replace h := ie hc h
    refine a_iload_n C eX9_miles_4 rfl ?_
    refine a_iconst C eX9_miles_5 (1 : Int32) c_iconst_1 ?_
    refine a_aload_n C eX9_miles_6 rfl ?_
    refine a_getR C eX9_miles_7 fX9_20 sh_0 rfl ?_
    refine a_getI C eX9_miles_10 fX9_107 sh_2 rfl ?_
    refine a_ishl C eX9_miles_13 ?_
    refine a_icmp_ge C eX9_miles_14 (fun hc => ?_) (fun hc => ?_)
    · replace h := it hc h
      exact a_less (lle_drop (lle_drop lle_nil)) (hk28_1 h)
    · replace h := ie hc h
      refine a_aload_n C eX9_miles_17 rfl ?_
      refine a_getR C eX9_miles_18 fX9_34 sh_0 rfl ?_
      refine a_iload_n C eX9_miles_21 rfl ?_
      obtain ⟨r_2, hq, h⟩ := b1_e h
      refine a_cVi1 C eX9_miles_22 wX9_218 ⟨Nat.le_of_ble_eq_true rfl, Nat.le_of_ble_eq_true rfl, rfl, rfl⟩ rfl sh_25 rfl (kX8_milesTo hq) (Nat.le_of_ble_eq_true rfl) ?_
      refine a_goto C eX9_miles_25 ?_
      exact rt_p R eX9_miles_29 h nb_int
/-! ShelfDrives.together(II)I -/
def XX9_together (p1 : Int32) (p2 : Int32) (σ : Sg) : Option Int32 := b1 (XX7_hasShop p1 σ) (fun (r_1 : Int32) => if r_1 = 0 then (some (-1000000 : Int32)) else (b1 (XX7_hasShop p2 σ) (fun (r_2 : Int32) => if r_2 = 0 then (some (-1000000 : Int32)) else (if p1 = p2 then (some (-1000000 : Int32)) else (b1 (XX2_gain ((1 : Int32) <<< (p1 &&& 31)) ((1 : Int32) <<< (p2 &&& 31)) σ) (fun (r_3 : Int32) => some r_3))))))
theorem kX9_together {ext : List Shp} {p1 : Int32} {p2 : Int32} {σ : Sg} {rr : Int32}  (h : XX9_together p1 p2 σ = some rr) : Ci MX9_together [.ref 0, .int p1, .int p2] (SHc ++ ext) σ (rr, σ) := by
  refine Ci.start rfl rfl (Nat.le_of_ble_eq_true rfl) ?_
  intro X ad C R
  replace C : Cx X cX9_together 3 RX9 (some .int) { frames := 1, cells := 0, slots := 0, locals := 22 } := C
  replace R : Ri X cX9_together (some .int) ad (SHc ++ ext) (rr, σ) := R
  show AW X 0 0 ad (SHc ++ ext) σ 0 [some (.ref 0), some (.int p1), some (.int p2)] []
  rw [XX9_together] at h
  refine a_aload_n C eX9_together_0 rfl ?_
  refine a_getR C eX9_together_1 fX9_20 sh_0 rfl ?_
  refine a_iload_n C eX9_together_4 rfl ?_
  obtain ⟨r_1, hq, h⟩ := b1_e h
  refine a_cVi1 C eX9_together_5 wX9_146 ⟨Nat.le_of_ble_eq_true rfl, Nat.le_of_ble_eq_true rfl, rfl, rfl⟩ rfl sh_2 rfl (kX7_hasShop hq) (Nat.le_of_ble_eq_true rfl) ?_
  refine a_if_eq C eX9_together_8 (fun hc => ?_) (fun hc => ?_)
  · replace h := it hc h
    refine a_ldc C eX9_together_27 (-1000000 : Int32) wkX9_227 ?_
    exact rt_p R eX9_together_29 h nb_int
  · replace h := ie hc h
    refine a_aload_n C eX9_together_11 rfl ?_
    refine a_getR C eX9_together_12 fX9_20 sh_0 rfl ?_
    refine a_iload_n C eX9_together_15 rfl ?_
    obtain ⟨r_2, hq, h⟩ := b1_e h
    refine a_cVi1 C eX9_together_16 wX9_146 ⟨Nat.le_of_ble_eq_true rfl, Nat.le_of_ble_eq_true rfl, rfl, rfl⟩ rfl sh_2 rfl (kX7_hasShop hq) (Nat.le_of_ble_eq_true rfl) ?_
    refine a_if_eq C eX9_together_19 (fun hc => ?_) (fun hc => ?_)
    · replace h := it hc h
      refine a_ldc C eX9_together_27 (-1000000 : Int32) wkX9_227 ?_
      exact rt_p R eX9_together_29 h nb_int
    · replace h := ie hc h
      refine a_iload_n C eX9_together_22 rfl ?_
      refine a_iload_n C eX9_together_23 rfl ?_
      refine a_icmp_ne C eX9_together_24 (fun hc => ?_) (fun hc => ?_)
      · replace h := ie hc h
        refine a_aload_n C eX9_together_30 rfl ?_
        refine a_getR C eX9_together_31 fX9_43 sh_0 rfl ?_
        refine a_iconst C eX9_together_34 (1 : Int32) c_iconst_1 ?_
        refine a_iload_n C eX9_together_35 rfl ?_
        refine a_ishl C eX9_together_36 ?_
        refine a_iconst C eX9_together_37 (1 : Int32) c_iconst_1 ?_
        refine a_iload_n C eX9_together_38 rfl ?_
        refine a_ishl C eX9_together_39 ?_
        obtain ⟨r_3, hq, h⟩ := b1_e h
        refine a_cVi2 C eX9_together_40 wX9_228 ⟨Nat.le_of_ble_eq_true rfl, Nat.le_of_ble_eq_true rfl, rfl, rfl⟩ rfl sh_29 rfl (kX2_gain hq) (Nat.le_of_ble_eq_true rfl) ?_
        exact rt_p R eX9_together_43 h nb_int
      · replace h := it hc h
        refine a_ldc C eX9_together_27 (-1000000 : Int32) wkX9_227 ?_
        exact rt_p R eX9_together_29 h nb_int
/-! ShelfDrives.savings(II)I -/
def XX9_savings (p1 : Int32) (p2 : Int32) (σ : Sg) : Option (Int32 × Sg) := b1 (XX7_hasDay p1 σ) (fun (r_1 : Int32) => if r_1 = 0 then (some ((-1 : Int32), σ)) else (if p2 < 0 then (some ((-1 : Int32), σ)) else (if p2 ≤ (1 : Int32) then (b1 (XX5_pickLoads 38 63 p1 σ) (fun (σ_2 : Sg) => b1 (XX6_mergeAll σ_2) (fun (σ_3 : Sg) => if p2 = 0 then (b1 (XX6_price σ_3) (fun (r_4 : Int32) => some (r_4, σ_3))) else (some (σ_3 35 0, σ_3))))) else (some ((-1 : Int32), σ)))))
theorem kX9_savings {ext : List Shp} {p1 : Int32} {p2 : Int32} {σ : Sg} {rr : (Int32 × Sg)}  (h : XX9_savings p1 p2 σ = some rr) : Ci MX9_savings [.ref 0, .int p1, .int p2] (SHc ++ ext) σ rr := by
  refine Ci.start rfl rfl (Nat.le_of_ble_eq_true rfl) ?_
  intro X ad C R
  replace C : Cx X cX9_savings 3 RX9 (some .int) { frames := 3, cells := 0, slots := 0, locals := 70 } := C
  replace R : Ri X cX9_savings (some .int) ad (SHc ++ ext) rr := R
  show AW X 0 0 ad (SHc ++ ext) σ 0 [some (.ref 0), some (.int p1), some (.int p2)] []
  rw [XX9_savings] at h
  refine a_aload_n C eX9_savings_0 rfl ?_
  refine a_getR C eX9_savings_1 fX9_20 sh_0 rfl ?_
  refine a_iload_n C eX9_savings_4 rfl ?_
  obtain ⟨r_1, hq, h⟩ := b1_e h
  refine a_cVi1 C eX9_savings_5 wX9_150 ⟨Nat.le_of_ble_eq_true rfl, Nat.le_of_ble_eq_true rfl, rfl, rfl⟩ rfl sh_2 rfl (kX7_hasDay hq) (Nat.le_of_ble_eq_true rfl) ?_
  refine a_if_eq C eX9_savings_8 (fun hc => ?_) (fun hc => ?_)
  · replace h := it hc h
    refine a_iconst C eX9_savings_20 (-1 : Int32) c_iconst_m1 ?_
    exact rt_i R eX9_savings_21 h nb_int
  · replace h := ie hc h
    refine a_iload_n C eX9_savings_11 rfl ?_
    refine a_if_lt C eX9_savings_12 (fun hc => ?_) (fun hc => ?_)
    · replace h := it hc h
      refine a_iconst C eX9_savings_20 (-1 : Int32) c_iconst_m1 ?_
      exact rt_i R eX9_savings_21 h nb_int
    · replace h := ie hc h
      refine a_iload_n C eX9_savings_15 rfl ?_
      refine a_iconst C eX9_savings_16 (1 : Int32) c_iconst_1 ?_
      refine a_icmp_le C eX9_savings_17 (fun hc => ?_) (fun hc => ?_)
      · replace h := it hc h
        refine a_aload_n C eX9_savings_22 rfl ?_
        refine a_getR C eX9_savings_23 fX9_59 sh_0 rfl ?_
        refine a_iload_n C eX9_savings_26 rfl ?_
        refine a_aload_n C eX9_savings_27 rfl ?_
        refine a_getR C eX9_savings_28 fX9_87 sh_0 rfl ?_
        obtain ⟨σ_2, hq, h⟩ := b1_e h
        refine a_cVv2 C eX9_savings_31 wX9_231 ⟨Nat.le_of_ble_eq_true rfl, Nat.le_of_ble_eq_true rfl, rfl, rfl⟩ rfl sh_38 rfl (kX5_pickLoads is_X5_38 sh_63 hq) (Nat.le_of_ble_eq_true rfl) ?_
        refine a_aload_n C eX9_savings_34 rfl ?_
        refine a_getR C eX9_savings_35 fX9_52 sh_0 rfl ?_
        refine a_aload_n C eX9_savings_38 rfl ?_
        refine a_getR C eX9_savings_39 fX9_87 sh_0 rfl ?_
        obtain ⟨σ_3, hq, h⟩ := b1_e h
        refine a_cVv1 C eX9_savings_42 wX9_235 ⟨Nat.le_of_ble_eq_true rfl, Nat.le_of_ble_eq_true rfl, rfl, rfl⟩ rfl sh_35 rfl (kX6_mergeAll hq) (Nat.le_of_ble_eq_true rfl) ?_
        refine a_iload_n C eX9_savings_45 rfl ?_
        refine a_if_ne C eX9_savings_46 (fun hc => ?_) (fun hc => ?_)
        · replace h := ie hc h
          refine a_aload_n C eX9_savings_59 rfl ?_
          refine a_getR C eX9_savings_60 fX9_52 sh_0 rfl ?_
          refine a_getI C eX9_savings_63 fX9_243 sh_35 rfl ?_
          exact rt_i R eX9_savings_66 h nb_int
        · replace h := it hc h
          refine a_aload_n C eX9_savings_49 rfl ?_
          refine a_getR C eX9_savings_50 fX9_52 sh_0 rfl ?_
          obtain ⟨r_4, hq, h⟩ := b1_e h
          refine a_cVi0 C eX9_savings_53 wX9_239 ⟨Nat.le_of_ble_eq_true rfl, Nat.le_of_ble_eq_true rfl, rfl, rfl⟩ rfl sh_35 rfl (kX6_price hq) (Nat.le_of_ble_eq_true rfl) ?_
          refine a_goto C eX9_savings_56 ?_
          exact rt_i R eX9_savings_66 h nb_int
      · replace h := ie hc h
        refine a_iconst C eX9_savings_20 (-1 : Int32) c_iconst_m1 ?_
        exact rt_i R eX9_savings_21 h nb_int
/-! ShelfDrives.greatestDivisor(II)I -/
def LX9_greatestDivisor_13 (k40_4 : Int32 → Option Int32) : Nat → Int32 → Int32 → Int32 → Option Int32
  | 0, _, _, _ => none
  | n + 1, x2_5, x3_6, x4_7 => if (100 : Int32) ≤ x4_7 then (k40_4 x2_5) else (if x3_6 = 0 then (k40_4 x2_5) else (if ¬ x3_6 = 0 then lt (x2_5 - x2_5 / x3_6 * x3_6) (fun (x5_9 : Int32) => lt (x4_7 + (1 : Int32)) (fun (x4_10 : Int32) => LX9_greatestDivisor_13 k40_4 n x3_6 x5_9 x4_10)) else none))
def XX9_greatestDivisor (p1 : Int32) (p2 : Int32) : Option Int32 := lt (if 0 ≤ p1 then p1 else 0 - p1) (fun (x2_1 : Int32) => lt (if 0 ≤ p2 then p2 else 0 - p2) (fun (x3_2 : Int32) => lt (fun (x2_3 : Int32) => some (if (1 : Int32) < x2_3 then x2_3 else (1 : Int32))) (fun (k40_4 : Int32 → Option Int32) => LX9_greatestDivisor_13 k40_4 FUEL x2_1 x3_2 (0 : Int32))))
theorem lX9_greatestDivisor_13 {ext : List Shp} {X : CT} {ad : Nat → Nat} {rr : Int32} {σ : Sg} {k40_4 : Int32 → Option Int32}  (C : Cx X cX9_greatestDivisor 6 RX9 (some .int) { frames := 1, cells := 0, slots := 0, locals := 21 }) (R : Ri X cX9_greatestDivisor (some .int) ad (SHc ++ ext) (rr, σ)) (hk40_4 : ∀ (x2_3 : Int32), k40_4 x2_3 = some rr → AW X 0 0 ad (SHc ++ ext) σ 40 [none, none, some (.int x2_3), none, none, none] []) : ∀ (n : Nat) (x2_5 : Int32) (x3_6 : Int32) (x4_7 : Int32), LX9_greatestDivisor_13 k40_4 n x2_5 x3_6 x4_7 = some rr → AW X 0 0 ad (SHc ++ ext) σ 13 [none, none, some (.int x2_5), some (.int x3_6), some (.int x4_7), none] [] := by
  intro n
  induction n with
  | zero =>
    intro x2_5 x3_6 x4_7 h
    rw [LX9_greatestDivisor_13] at h
    cases h
  | succ n ih =>
    intro x2_5 x3_6 x4_7 h
    rw [LX9_greatestDivisor_13] at h
    refine a_iload C eX9_greatestDivisor_13 rfl ?_
    refine a_bipush C eX9_greatestDivisor_15 (100 : Int32) c_bipush_100 ?_
    refine a_icmp_ge C eX9_greatestDivisor_17 (fun hc => ?_) (fun hc => ?_)
    · replace h := it hc h
      exact a_less (lle_same (lle_same (lle_same (lle_drop (lle_drop (lle_same lle_nil)))))) (hk40_4 _ h)
    · replace h := ie hc h
      refine a_iload_n C eX9_greatestDivisor_20 rfl ?_
      refine a_if_eq C eX9_greatestDivisor_21 (fun hc => ?_) (fun hc => ?_)
      · replace h := it hc h
        exact a_less (lle_same (lle_same (lle_same (lle_drop (lle_drop (lle_same lle_nil)))))) (hk40_4 _ h)
      · replace h := ie hc h
        refine a_iload_n C eX9_greatestDivisor_24 rfl ?_
        refine a_iload_n C eX9_greatestDivisor_25 rfl ?_
        obtain ⟨hz_8, h⟩ := gd h
        refine a_irem C eX9_greatestDivisor_26 hz_8 ?_
        refine a_lt h (fun x5_9 h => ?_)
        refine a_ist C eX9_greatestDivisor_27 (Nat.le_of_ble_eq_true rfl) [none, none, some (.int x2_5), some (.int x3_6), some (.int x4_7), some (.int x5_9)] rfl ?_
        refine a_iload_n C eX9_greatestDivisor_29 rfl ?_
        refine a_ist_n C eX9_greatestDivisor_30 (Nat.le_of_ble_eq_true rfl) [none, none, some (.int x3_6), some (.int x3_6), some (.int x4_7), some (.int x5_9)] rfl ?_
        refine a_iload C eX9_greatestDivisor_31 rfl ?_
        refine a_ist_n C eX9_greatestDivisor_33 (Nat.le_of_ble_eq_true rfl) [none, none, some (.int x3_6), some (.int x5_9), some (.int x4_7), some (.int x5_9)] rfl ?_
        refine a_inc C eX9_greatestDivisor_34 rfl c_iconst_1 h (fun z => [none, none, some (.int x3_6), some (.int x5_9), some (.int z), some (.int x5_9)]) (fun _ => rfl) (fun x4_10 h => ?_)
        refine a_goto C eX9_greatestDivisor_37 ?_
        exact a_less (lle_same (lle_same (lle_same (lle_same (lle_same (lle_drop lle_nil)))))) (ih _ _ _ h)
theorem kX9_greatestDivisor {ext : List Shp} {p1 : Int32} {p2 : Int32} {σ : Sg} {rr : Int32}  (h : XX9_greatestDivisor p1 p2 = some rr) : Ci MX9_greatestDivisor [.int p1, .int p2] (SHc ++ ext) σ (rr, σ) := by
  refine Ci.start rfl rfl (Nat.le_of_ble_eq_true rfl) ?_
  intro X ad C R
  replace C : Cx X cX9_greatestDivisor 6 RX9 (some .int) { frames := 1, cells := 0, slots := 0, locals := 21 } := C
  replace R : Ri X cX9_greatestDivisor (some .int) ad (SHc ++ ext) (rr, σ) := R
  show AW X 0 0 ad (SHc ++ ext) σ 0 [some (.int p1), some (.int p2), none, none, none, none] []
  rw [XX9_greatestDivisor] at h
  refine a_iload_n C eX9_greatestDivisor_0 rfl ?_
  refine a_abs C eX9_greatestDivisor_1 wX9_394 ⟨Nat.le_of_ble_eq_true rfl, Nat.le_of_ble_eq_true rfl⟩ rfl (Nat.le_of_ble_eq_true rfl) ?_
  refine a_lt h (fun x2_1 h => ?_)
  refine a_ist_n C eX9_greatestDivisor_4 (Nat.le_of_ble_eq_true rfl) [some (.int p1), some (.int p2), some (.int x2_1), none, none, none] rfl ?_
  refine a_iload_n C eX9_greatestDivisor_5 rfl ?_
  refine a_abs C eX9_greatestDivisor_6 wX9_394 ⟨Nat.le_of_ble_eq_true rfl, Nat.le_of_ble_eq_true rfl⟩ rfl (Nat.le_of_ble_eq_true rfl) ?_
  refine a_lt h (fun x3_2 h => ?_)
  refine a_ist_n C eX9_greatestDivisor_9 (Nat.le_of_ble_eq_true rfl) [some (.int p1), some (.int p2), some (.int x2_1), some (.int x3_2), none, none] rfl ?_
  refine a_iconst C eX9_greatestDivisor_10 (0 : Int32) c_iconst_0 ?_
  refine a_ist C eX9_greatestDivisor_11 (Nat.le_of_ble_eq_true rfl) [some (.int p1), some (.int p2), some (.int x2_1), some (.int x3_2), some (.int (0 : Int32)), none] rfl ?_
  refine jn (fun (kk : Int32 → Option Int32) => ∀ (x2_3 : Int32), kk x2_3 = some rr → AW X 0 0 ad (SHc ++ ext) σ 40 [none, none, some (.int x2_3), none, none, none] []) h ?_ (fun k40_4 hk40_4 h => ?_)
  · intro x2_3 h
    refine a_iconst C eX9_greatestDivisor_40 (1 : Int32) c_iconst_1 ?_
    refine a_iload_n C eX9_greatestDivisor_41 rfl ?_
    refine a_max C eX9_greatestDivisor_42 wX9_289 ⟨Nat.le_of_ble_eq_true rfl, Nat.le_of_ble_eq_true rfl⟩ rfl (Nat.le_of_ble_eq_true rfl) ?_
    exact rt_p R eX9_greatestDivisor_45 h nb_int
  exact a_less (lle_drop (lle_drop (lle_same (lle_same (lle_same (lle_same lle_nil)))))) (lX9_greatestDivisor_13  C R hk40_4 _ _ _ _ h)
/-! ShelfDrives.share(III)I -/
def XX9_share (p1 : Int32) (p2 : Int32) (p3 : Int32) (σ : Sg) : Option (Int32 × Sg) := b1 (XX9_hasCell p1 p2 σ) (fun (r_1 : Int32) => if r_1 = 0 then (some ((-1 : Int32), σ)) else (if p3 < 0 then (some ((-1 : Int32), σ)) else (if p3 ≤ (1 : Int32) then (b2 (XX9_partDay p2 σ) (fun (r_2 : Int32) (σ_3 : Sg) => if ib p1 6 then if (σ_3 63 p1.toNatClampNeg) = 0 then (some (p3, σ_3)) else (b1 (XX2_shareSum p1 σ_3) (fun (r_5 : Int32) => b1 (XX2_orders σ_3) (fun (r_6 : Int32) => b1 (XX9_greatestDivisor r_5 r_6) (fun (r_7 : Int32) => if p3 = 0 then (if ¬ r_7 = 0 then some (r_5 / r_7, σ_3) else none) else (if ¬ r_7 = 0 then some (r_6 / r_7, σ_3) else none))))) else none)) else (some ((-1 : Int32), σ)))))
theorem kX9_share {ext : List Shp} {p1 : Int32} {p2 : Int32} {p3 : Int32} {σ : Sg} {rr : (Int32 × Sg)}  (h : XX9_share p1 p2 p3 σ = some rr) : Ci MX9_share [.ref 0, .int p1, .int p2, .int p3] (SHc ++ ext) σ rr := by
  refine Ci.start rfl rfl (Nat.le_of_ble_eq_true rfl) ?_
  intro X ad C R
  replace C : Cx X cX9_share 7 RX9 (some .int) { frames := 3, cells := 0, slots := 0, locals := 73 } := C
  replace R : Ri X cX9_share (some .int) ad (SHc ++ ext) rr := R
  show AW X 0 0 ad (SHc ++ ext) σ 0 [some (.ref 0), some (.int p1), some (.int p2), some (.int p3), none, none, none] []
  rw [XX9_share] at h
  refine a_aload_n C eX9_share_0 rfl ?_
  refine a_iload_n C eX9_share_1 rfl ?_
  refine a_iload_n C eX9_share_2 rfl ?_
  obtain ⟨r_1, hq, h⟩ := b1_e h
  refine a_cVi2 C eX9_share_3 wX9_172 ⟨Nat.le_of_ble_eq_true rfl, Nat.le_of_ble_eq_true rfl, rfl, rfl⟩ rfl sh_0 rfl (kX9_hasCell hq) (Nat.le_of_ble_eq_true rfl) ?_
  refine a_if_eq C eX9_share_6 (fun hc => ?_) (fun hc => ?_)
  · replace h := it hc h
    refine a_iconst C eX9_share_18 (-1 : Int32) c_iconst_m1 ?_
    exact rt_i R eX9_share_19 h nb_int
  · replace h := ie hc h
    refine a_iload_n C eX9_share_9 rfl ?_
    refine a_if_lt C eX9_share_10 (fun hc => ?_) (fun hc => ?_)
    · replace h := it hc h
      refine a_iconst C eX9_share_18 (-1 : Int32) c_iconst_m1 ?_
      exact rt_i R eX9_share_19 h nb_int
    · replace h := ie hc h
      refine a_iload_n C eX9_share_13 rfl ?_
      refine a_iconst C eX9_share_14 (1 : Int32) c_iconst_1 ?_
      refine a_icmp_le C eX9_share_15 (fun hc => ?_) (fun hc => ?_)
      · replace h := it hc h
        refine a_aload_n C eX9_share_20 rfl ?_
        refine a_iload_n C eX9_share_21 rfl ?_
        obtain ⟨r_2, σ_3, hq, h⟩ := b2_e h
        refine a_cVi1 C eX9_share_22 wX9_206 ⟨Nat.le_of_ble_eq_true rfl, Nat.le_of_ble_eq_true rfl, rfl, rfl⟩ rfl sh_0 rfl (kX9_partDay hq) (Nat.le_of_ble_eq_true rfl) ?_
        refine a_pop C eX9_share_25 rfl ?_
        refine a_aload_n C eX9_share_26 rfl ?_
        refine a_getR C eX9_share_27 fX9_87 sh_0 rfl ?_
        refine a_iload_n C eX9_share_30 rfl ?_
        obtain ⟨hb_4, h⟩ := gd h
        refine a_iald C eX9_share_31 sh_63 hb_4 ?_
        refine a_if_ne C eX9_share_32 (fun hc => ?_) (fun hc => ?_)
        · replace h := ie hc h
          refine a_aload_n C eX9_share_37 rfl ?_
          refine a_getR C eX9_share_38 fX9_43 sh_0 rfl ?_
          refine a_iload_n C eX9_share_41 rfl ?_
          obtain ⟨r_5, hq, h⟩ := b1_e h
          refine a_cVi1 C eX9_share_42 wX9_246 ⟨Nat.le_of_ble_eq_true rfl, Nat.le_of_ble_eq_true rfl, rfl, rfl⟩ rfl sh_29 rfl (kX2_shareSum hq) (Nat.le_of_ble_eq_true rfl) ?_
          refine a_ist C eX9_share_45 (Nat.le_of_ble_eq_true rfl) [some (.ref 0), some (.int p1), some (.int p2), some (.int p3), some (.int r_5), none, none] rfl ?_
          refine a_aload_n C eX9_share_47 rfl ?_
          refine a_getR C eX9_share_48 fX9_43 sh_0 rfl ?_
          obtain ⟨r_6, hq, h⟩ := b1_e h
          refine a_cVi0 C eX9_share_51 wX9_249 ⟨Nat.le_of_ble_eq_true rfl, Nat.le_of_ble_eq_true rfl, rfl, rfl⟩ rfl sh_29 rfl (kX2_orders hq) (Nat.le_of_ble_eq_true rfl) ?_
          refine a_ist C eX9_share_54 (Nat.le_of_ble_eq_true rfl) [some (.ref 0), some (.int p1), some (.int p2), some (.int p3), some (.int r_5), some (.int r_6), none] rfl ?_
          refine a_iload C eX9_share_56 rfl ?_
          refine a_iload C eX9_share_58 rfl ?_
          obtain ⟨r_7, hq, h⟩ := b1_e h
          refine a_cSi2 C eX9_share_60 wX9_252 ⟨Nat.le_of_ble_eq_true rfl, Nat.le_of_ble_eq_true rfl, rfl, rfl⟩ rfl (kX9_greatestDivisor hq) (Nat.le_of_ble_eq_true rfl) ?_
          refine a_ist C eX9_share_63 (Nat.le_of_ble_eq_true rfl) [some (.ref 0), some (.int p1), some (.int p2), some (.int p3), some (.int r_5), some (.int r_6), some (.int r_7)] rfl ?_
          refine a_iload_n C eX9_share_65 rfl ?_
          refine a_if_ne C eX9_share_66 (fun hc => ?_) (fun hc => ?_)
          · replace h := ie hc h
            refine a_iload C eX9_share_74 rfl ?_
            refine a_iload C eX9_share_76 rfl ?_
            obtain ⟨hz_8, h⟩ := gd h
            refine a_idiv C eX9_share_78 hz_8 ?_
            exact rt_i R eX9_share_79 h nb_int
          · replace h := it hc h
            refine a_iload C eX9_share_69 rfl ?_
            refine a_goto C eX9_share_71 ?_
            refine a_iload C eX9_share_76 rfl ?_
            obtain ⟨hz_9, h⟩ := gd h
            refine a_idiv C eX9_share_78 hz_9 ?_
            exact rt_i R eX9_share_79 h nb_int
        · replace h := it hc h
          refine a_iload_n C eX9_share_35 rfl ?_
          exact rt_i R eX9_share_36 h nb_int
      · replace h := ie hc h
        refine a_iconst C eX9_share_18 (-1 : Int32) c_iconst_m1 ?_
        exact rt_i R eX9_share_19 h nb_int
/-! ShelfDrives.peak(I)I -/
def XX9_peak (p1 : Int32) (σ : Sg) : Option Int32 := b1 (XX5_fullestDay 38 σ) (fun (r_1 : Int32) => if p1 = (0 : Int32) then (some r_1) else (if p1 = (1 : Int32) then (b1 (XX5_loadsOn 38 r_1 σ) (fun (r_3 : Int32) => some r_3)) else (some (-1 : Int32))))
theorem kX9_peak {ext : List Shp} {p1 : Int32} {σ : Sg} {rr : Int32}  (h : XX9_peak p1 σ = some rr) : Ci MX9_peak [.ref 0, .int p1] (SHc ++ ext) σ (rr, σ) := by
  refine Ci.start rfl rfl (Nat.le_of_ble_eq_true rfl) ?_
  intro X ad C R
  replace C : Cx X cX9_peak 3 RX9 (some .int) { frames := 3, cells := 0, slots := 0, locals := 66 } := C
  replace R : Ri X cX9_peak (some .int) ad (SHc ++ ext) (rr, σ) := R
  show AW X 0 0 ad (SHc ++ ext) σ 0 [some (.ref 0), some (.int p1), none] []
  rw [XX9_peak] at h
  refine a_aload_n C eX9_peak_0 rfl ?_
  refine a_getR C eX9_peak_1 fX9_59 sh_0 rfl ?_
  obtain ⟨r_1, hq, h⟩ := b1_e h
  refine a_cVi0 C eX9_peak_4 wX9_255 ⟨Nat.le_of_ble_eq_true rfl, Nat.le_of_ble_eq_true rfl, rfl, rfl⟩ rfl sh_38 rfl (kX5_fullestDay is_X5_38 hq) (Nat.le_of_ble_eq_true rfl) ?_
  refine a_ist_n C eX9_peak_7 (Nat.le_of_ble_eq_true rfl) [some (.ref 0), some (.int p1), some (.int r_1)] rfl ?_
  refine a_iload_n C eX9_peak_8 rfl ?_
  by_cases hs_2 : p1 = (0 : Int32)
  · replace h := it hs_2 h
    refine a_lsw C eX9_peak_9 (x := p1) (by decide) (tgt := 36) (by rw [hs_2]) rfl ?_
    refine a_iload_n C eX9_peak_36 rfl ?_
    exact rt_p R eX9_peak_37 h nb_int
  replace h := ie hs_2 h
  by_cases hs_4 : p1 = (1 : Int32)
  · replace h := it hs_4 h
    refine a_lsw C eX9_peak_9 (x := p1) (by decide) (tgt := 38) (by rw [hs_4]) rfl ?_
    refine a_aload_n C eX9_peak_38 rfl ?_
    refine a_getR C eX9_peak_39 fX9_59 sh_0 rfl ?_
    refine a_iload_n C eX9_peak_42 rfl ?_
    obtain ⟨r_3, hq, h⟩ := b1_e h
    refine a_cVi1 C eX9_peak_43 wX9_258 ⟨Nat.le_of_ble_eq_true rfl, Nat.le_of_ble_eq_true rfl, rfl, rfl⟩ rfl sh_38 rfl (kX5_loadsOn is_X5_38 hq) (Nat.le_of_ble_eq_true rfl) ?_
    exact rt_p R eX9_peak_46 h nb_int
  replace h := ie hs_4 h
  refine a_lsw C eX9_peak_9 (by decide) (tgt := 47) ((lv_osw hs_2 rfl).trans ((lv_osw hs_4 rfl).trans rfl)) rfl ?_
  refine a_iconst C eX9_peak_47 (-1 : Int32) c_iconst_m1 ?_
  exact rt_p R eX9_peak_48 h nb_int
/-! ShelfDrives.cost(I)I -/
def XX9_cost (p1 : Int32) (σ : Sg) : Option (Int32 × Sg) := if p1 = (0 : Int32) then (b2 (XX5_wholeCost 38 σ) (fun (r_1 : Int32) (σ_2 : Sg) => some (r_1, σ_2))) else (if p1 = (1 : Int32) then (b2 (XX5_roundsCost 38 σ) (fun (r_4 : Int32) (σ_5 : Sg) => some (r_4, σ_5))) else (if p1 = (2 : Int32) then (b1 (XX5_stockCost 38 σ) (fun (r_7 : Int32) => some (r_7, σ))) else (if p1 = (3 : Int32) then (b1 (XX5_lostCost 38 σ) (fun (r_9 : Int32) => some (r_9, σ))) else (some ((-1 : Int32), σ)))))
theorem kX9_cost {ext : List Shp} {p1 : Int32} {σ : Sg} {rr : (Int32 × Sg)}  (h : XX9_cost p1 σ = some rr) : Ci MX9_cost [.ref 0, .int p1] (SHc ++ ext) σ rr := by
  refine Ci.start rfl rfl (Nat.le_of_ble_eq_true rfl) ?_
  intro X ad C R
  replace C : Cx X cX9_cost 2 RX9 (some .int) { frames := 5, cells := 0, slots := 0, locals := 116 } := C
  replace R : Ri X cX9_cost (some .int) ad (SHc ++ ext) rr := R
  show AW X 0 0 ad (SHc ++ ext) σ 0 [some (.ref 0), some (.int p1)] []
  rw [XX9_cost] at h
  refine a_iload_n C eX9_cost_0 rfl ?_
  by_cases hs_3 : p1 = (0 : Int32)
  · replace h := it hs_3 h
    refine a_tsw C eX9_cost_1 (0 : Int32) hs_3 (by decide) (by decide) rfl (tgt := 32) rfl ?_
    refine a_aload_n C eX9_cost_32 rfl ?_
    refine a_getR C eX9_cost_33 fX9_59 sh_0 rfl ?_
    obtain ⟨r_1, σ_2, hq, h⟩ := b2_e h
    refine a_cVi0 C eX9_cost_36 wX9_261 ⟨Nat.le_of_ble_eq_true rfl, Nat.le_of_ble_eq_true rfl, rfl, rfl⟩ rfl sh_38 rfl (kX5_wholeCost is_X5_38 hq) (Nat.le_of_ble_eq_true rfl) ?_
    exact rt_i R eX9_cost_39 h nb_int
  replace h := ie hs_3 h
  by_cases hs_6 : p1 = (1 : Int32)
  · replace h := it hs_6 h
    refine a_tsw C eX9_cost_1 (1 : Int32) hs_6 (by decide) (by decide) rfl (tgt := 40) rfl ?_
    refine a_aload_n C eX9_cost_40 rfl ?_
    refine a_getR C eX9_cost_41 fX9_59 sh_0 rfl ?_
    obtain ⟨r_4, σ_5, hq, h⟩ := b2_e h
    refine a_cVi0 C eX9_cost_44 wX9_264 ⟨Nat.le_of_ble_eq_true rfl, Nat.le_of_ble_eq_true rfl, rfl, rfl⟩ rfl sh_38 rfl (kX5_roundsCost is_X5_38 hq) (Nat.le_of_ble_eq_true rfl) ?_
    exact rt_i R eX9_cost_47 h nb_int
  replace h := ie hs_6 h
  by_cases hs_8 : p1 = (2 : Int32)
  · replace h := it hs_8 h
    refine a_tsw C eX9_cost_1 (2 : Int32) hs_8 (by decide) (by decide) rfl (tgt := 48) rfl ?_
    refine a_aload_n C eX9_cost_48 rfl ?_
    refine a_getR C eX9_cost_49 fX9_59 sh_0 rfl ?_
    obtain ⟨r_7, hq, h⟩ := b1_e h
    refine a_cVi0 C eX9_cost_52 wX9_267 ⟨Nat.le_of_ble_eq_true rfl, Nat.le_of_ble_eq_true rfl, rfl, rfl⟩ rfl sh_38 rfl (kX5_stockCost is_X5_38 hq) (Nat.le_of_ble_eq_true rfl) ?_
    exact rt_i R eX9_cost_55 h nb_int
  replace h := ie hs_8 h
  by_cases hs_10 : p1 = (3 : Int32)
  · replace h := it hs_10 h
    refine a_tsw C eX9_cost_1 (3 : Int32) hs_10 (by decide) (by decide) rfl (tgt := 56) rfl ?_
    refine a_aload_n C eX9_cost_56 rfl ?_
    refine a_getR C eX9_cost_57 fX9_59 sh_0 rfl ?_
    obtain ⟨r_9, hq, h⟩ := b1_e h
    refine a_cVi0 C eX9_cost_60 wX9_270 ⟨Nat.le_of_ble_eq_true rfl, Nat.le_of_ble_eq_true rfl, rfl, rfl⟩ rfl sh_38 rfl (kX5_lostCost is_X5_38 hq) (Nat.le_of_ble_eq_true rfl) ?_
    exact rt_i R eX9_cost_63 h nb_int
  replace h := ie hs_10 h
  refine a_tsw_out C eX9_cost_1 4 rfl (fun j hj => match j, hj with | 0, _ => lv_neT hs_3 rfl | 1, _ => lv_neT hs_6 rfl | 2, _ => lv_neT hs_8 rfl | 3, _ => lv_neT hs_10 rfl | j + 4, hj => absurd hj (by omega)) (tgt := 64) rfl ?_
  refine a_iconst C eX9_cost_64 (-1 : Int32) c_iconst_m1 ?_
  exact rt_i R eX9_cost_65 h nb_int
/-! ShelfDrives.costOf(I)I -/
def XX9_costOf (p1 : Int32) (σ : Sg) : Option (Int32 × Sg) := b1 (XX7_hasDay p1 σ) (fun (r_1 : Int32) => if r_1 = 0 then (some ((-1 : Int32), σ)) else (b2 (XX5_priceOn 38 p1 σ) (fun (r_2 : Int32) (σ_3 : Sg) => some (r_2, σ_3))))
theorem kX9_costOf {ext : List Shp} {p1 : Int32} {σ : Sg} {rr : (Int32 × Sg)}  (h : XX9_costOf p1 σ = some rr) : Ci MX9_costOf [.ref 0, .int p1] (SHc ++ ext) σ rr := by
  refine Ci.start rfl rfl (Nat.le_of_ble_eq_true rfl) ?_
  intro X ad C R
  replace C : Cx X cX9_costOf 2 RX9 (some .int) { frames := 3, cells := 0, slots := 0, locals := 74 } := C
  replace R : Ri X cX9_costOf (some .int) ad (SHc ++ ext) rr := R
  show AW X 0 0 ad (SHc ++ ext) σ 0 [some (.ref 0), some (.int p1)] []
  rw [XX9_costOf] at h
  refine a_aload_n C eX9_costOf_0 rfl ?_
  refine a_getR C eX9_costOf_1 fX9_20 sh_0 rfl ?_
  refine a_iload_n C eX9_costOf_4 rfl ?_
  obtain ⟨r_1, hq, h⟩ := b1_e h
  refine a_cVi1 C eX9_costOf_5 wX9_150 ⟨Nat.le_of_ble_eq_true rfl, Nat.le_of_ble_eq_true rfl, rfl, rfl⟩ rfl sh_2 rfl (kX7_hasDay hq) (Nat.le_of_ble_eq_true rfl) ?_
  refine a_if_eq C eX9_costOf_8 (fun hc => ?_) (fun hc => ?_)
  · replace h := it hc h
    refine a_iconst C eX9_costOf_22 (-1 : Int32) c_iconst_m1 ?_
    exact rt_i R eX9_costOf_23 h nb_int
  · replace h := ie hc h
    refine a_aload_n C eX9_costOf_11 rfl ?_
    refine a_getR C eX9_costOf_12 fX9_59 sh_0 rfl ?_
    refine a_iload_n C eX9_costOf_15 rfl ?_
    obtain ⟨r_2, σ_3, hq, h⟩ := b2_e h
    refine a_cVi1 C eX9_costOf_16 wX9_273 ⟨Nat.le_of_ble_eq_true rfl, Nat.le_of_ble_eq_true rfl, rfl, rfl⟩ rfl sh_38 rfl (kX5_priceOn is_X5_38 hq) (Nat.le_of_ble_eq_true rfl) ?_
    refine a_goto C eX9_costOf_19 ?_
    exact rt_i R eX9_costOf_23 h nb_int
/-! ShelfDrives.worth(II)I -/
def XX9_worth (p1 : Int32) (p2 : Int32) (σ : Sg) : Option (Int32 × Sg) := b1 (XX9_hasCell p1 p2 σ) (fun (r_1 : Int32) => if r_1 = 0 then (some ((-1000000 : Int32), σ)) else (b1 (XX5_takeOver 46 38 σ) (fun (σ_2 : Sg) => if ib p1 6 then b1 (XX5_setVisits 46 p1 ((σ_2 39 p1.toNatClampNeg) ^^^ ((1 : Int32) <<< (p2 &&& 31))) σ_2) (fun (σ_4 : Sg) => b2 (XX5_wholeCost 38 σ_4) (fun (r_5 : Int32) (σ_6 : Sg) => b2 (XX5_wholeCost 46 σ_6) (fun (r_7 : Int32) (σ_8 : Sg) => some (r_5 - r_7, σ_8)))) else none)))
theorem kX9_worth {ext : List Shp} {p1 : Int32} {p2 : Int32} {σ : Sg} {rr : (Int32 × Sg)}  (h : XX9_worth p1 p2 σ = some rr) : Ci MX9_worth [.ref 0, .int p1, .int p2] (SHc ++ ext) σ rr := by
  refine Ci.start rfl rfl (Nat.le_of_ble_eq_true rfl) ?_
  intro X ad C R
  replace C : Cx X cX9_worth 3 RX9 (some .int) { frames := 4, cells := 0, slots := 0, locals := 96 } := C
  replace R : Ri X cX9_worth (some .int) ad (SHc ++ ext) rr := R
  show AW X 0 0 ad (SHc ++ ext) σ 0 [some (.ref 0), some (.int p1), some (.int p2)] []
  rw [XX9_worth] at h
  refine a_aload_n C eX9_worth_0 rfl ?_
  refine a_iload_n C eX9_worth_1 rfl ?_
  refine a_iload_n C eX9_worth_2 rfl ?_
  obtain ⟨r_1, hq, h⟩ := b1_e h
  refine a_cVi2 C eX9_worth_3 wX9_172 ⟨Nat.le_of_ble_eq_true rfl, Nat.le_of_ble_eq_true rfl, rfl, rfl⟩ rfl sh_0 rfl (kX9_hasCell hq) (Nat.le_of_ble_eq_true rfl) ?_
  refine a_if_ne C eX9_worth_6 (fun hc => ?_) (fun hc => ?_)
  · replace h := ie hc h
    refine a_aload_n C eX9_worth_12 rfl ?_
    refine a_getR C eX9_worth_13 fX9_63 sh_0 rfl ?_
    refine a_aload_n C eX9_worth_16 rfl ?_
    refine a_getR C eX9_worth_17 fX9_59 sh_0 rfl ?_
    obtain ⟨σ_2, hq, h⟩ := b1_e h
    refine a_cVv1 C eX9_worth_20 wX9_276 ⟨Nat.le_of_ble_eq_true rfl, Nat.le_of_ble_eq_true rfl, rfl, rfl⟩ rfl sh_46 rfl (kX5_takeOver is_X5_46 is_X5_38 hq) (Nat.le_of_ble_eq_true rfl) ?_
    refine a_aload_n C eX9_worth_23 rfl ?_
    refine a_getR C eX9_worth_24 fX9_63 sh_0 rfl ?_
    refine a_iload_n C eX9_worth_27 rfl ?_
    refine a_aload_n C eX9_worth_28 rfl ?_
    refine a_getR C eX9_worth_29 fX9_59 sh_0 rfl ?_
    refine a_getR C eX9_worth_32 fX9_166 sh_38 rfl ?_
    refine a_iload_n C eX9_worth_35 rfl ?_
    obtain ⟨hb_3, h⟩ := gd h
    refine a_iald C eX9_worth_36 sh_39 hb_3 ?_
    refine a_iconst C eX9_worth_37 (1 : Int32) c_iconst_1 ?_
    refine a_iload_n C eX9_worth_38 rfl ?_
    refine a_ishl C eX9_worth_39 ?_
    refine a_ixor C eX9_worth_40 ?_
    obtain ⟨σ_4, hq, h⟩ := b1_e h
    refine a_cVv2 C eX9_worth_41 wX9_279 ⟨Nat.le_of_ble_eq_true rfl, Nat.le_of_ble_eq_true rfl, rfl, rfl⟩ rfl sh_46 rfl (kX5_setVisits is_X5_46 hq) (Nat.le_of_ble_eq_true rfl) ?_
    refine a_aload_n C eX9_worth_44 rfl ?_
    refine a_getR C eX9_worth_45 fX9_59 sh_0 rfl ?_
    obtain ⟨r_5, σ_6, hq, h⟩ := b2_e h
    refine a_cVi0 C eX9_worth_48 wX9_261 ⟨Nat.le_of_ble_eq_true rfl, Nat.le_of_ble_eq_true rfl, rfl, rfl⟩ rfl sh_38 rfl (kX5_wholeCost is_X5_38 hq) (Nat.le_of_ble_eq_true rfl) ?_
    refine a_aload_n C eX9_worth_51 rfl ?_
    refine a_getR C eX9_worth_52 fX9_63 sh_0 rfl ?_
    obtain ⟨r_7, σ_8, hq, h⟩ := b2_e h
    refine a_cVi0 C eX9_worth_55 wX9_261 ⟨Nat.le_of_ble_eq_true rfl, Nat.le_of_ble_eq_true rfl, rfl, rfl⟩ rfl sh_46 rfl (kX5_wholeCost is_X5_46 hq) (Nat.le_of_ble_eq_true rfl) ?_
    refine a_isub C eX9_worth_58 ?_
    exact rt_i R eX9_worth_59 h nb_int
  · replace h := it hc h
    refine a_ldc C eX9_worth_9 (-1000000 : Int32) wkX9_227 ?_
    exact rt_i R eX9_worth_11 h nb_int
/-! ShelfDrives.leastTruck(II)I -/
def LX9_leastTruck_9 (p2 : Int32) : Nat → Int32 → Int32 → Int32 → Sg → Option (Int32 × Sg)
  | 0, _, _, _, _ => none
  | n + 1, x3_1, x4_2, x5_3, σ_4 => if (99 : Int32) ≤ x5_3 then (some (x3_1, σ_4)) else (if x4_2 ≤ x3_1 then (some (x3_1, σ_4)) else (lt ((x3_1 + x4_2) / (2 : Int32)) (fun (x6_5 : Int32) => b2 (XX5_roundsCostWith 38 x6_5 σ_4) (fun (r_6 : Int32) (σ_7 : Sg) => lt (fun (x3_8 : Int32) (x4_9 : Int32) => lt (x5_3 + (1 : Int32)) (fun (x5_11 : Int32) => LX9_leastTruck_9 p2 n x3_8 x4_9 x5_11 σ_7)) (fun (k55_10 : Int32 → Int32 → Option (Int32 × Sg)) => if p2 < r_6 then (lt (x6_5 + (1 : Int32)) (fun (x3_12 : Int32) => k55_10 x3_12 x4_2)) else (k55_10 x3_1 x6_5))))))
def XX9_leastTruck (p1 : Int32) (p2 : Int32) (σ : Sg) : Option (Int32 × Sg) := LX9_leastTruck_9 p2 FUEL p1 (99 : Int32) (0 : Int32) σ
theorem lX9_leastTruck_9 {ext : List Shp} {X : CT} {ad : Nat → Nat} {rr : (Int32 × Sg)} {p2 : Int32}  (C : Cx X cX9_leastTruck 7 RX9 (some .int) { frames := 3, cells := 0, slots := 0, locals := 76 }) (R : Ri X cX9_leastTruck (some .int) ad (SHc ++ ext) rr)  : ∀ (n : Nat) (x3_1 : Int32) (x4_2 : Int32) (x5_3 : Int32) (σ_4 : Sg), LX9_leastTruck_9 p2 n x3_1 x4_2 x5_3 σ_4 = some rr → AW X 0 0 ad (SHc ++ ext) σ_4 9 [some (.ref 0), none, some (.int p2), some (.int x3_1), some (.int x4_2), some (.int x5_3), none] [] := by
  intro n
  induction n with
  | zero =>
    intro x3_1 x4_2 x5_3 σ_4 h
    rw [LX9_leastTruck_9] at h
    cases h
  | succ n ih =>
    intro x3_1 x4_2 x5_3 σ_4 h
    rw [LX9_leastTruck_9] at h
    refine a_iload C eX9_leastTruck_9 rfl ?_
    refine a_bipush C eX9_leastTruck_11 (99 : Int32) c_bipush_99 ?_
    refine a_icmp_ge C eX9_leastTruck_13 (fun hc => ?_) (fun hc => ?_)
    · replace h := it hc h
      refine a_iload_n C eX9_leastTruck_61 rfl ?_
      exact rt_i R eX9_leastTruck_62 h nb_int
    · replace h := ie hc h
      refine a_iload_n C eX9_leastTruck_16 rfl ?_
      refine a_iload C eX9_leastTruck_17 rfl ?_
      refine a_icmp_ge C eX9_leastTruck_19 (fun hc => ?_) (fun hc => ?_)
      · replace h := it hc h
        refine a_iload_n C eX9_leastTruck_61 rfl ?_
        exact rt_i R eX9_leastTruck_62 h nb_int
      · replace h := ie hc h
        refine a_iload_n C eX9_leastTruck_22 rfl ?_
        refine a_iload C eX9_leastTruck_23 rfl ?_
        refine a_iadd C eX9_leastTruck_25 ?_
        refine a_iconst C eX9_leastTruck_26 (2 : Int32) c_iconst_2 ?_
        refine a_idiv C eX9_leastTruck_27 (by decide) ?_
        refine a_lt h (fun x6_5 h => ?_)
        refine a_ist C eX9_leastTruck_28 (Nat.le_of_ble_eq_true rfl) [some (.ref 0), none, some (.int p2), some (.int x3_1), some (.int x4_2), some (.int x5_3), some (.int x6_5)] rfl ?_
        refine a_aload_n C eX9_leastTruck_30 rfl ?_
        refine a_getR C eX9_leastTruck_31 fX9_59 sh_0 rfl ?_
        refine a_iload C eX9_leastTruck_34 rfl ?_
        obtain ⟨r_6, σ_7, hq, h⟩ := b2_e h
        refine a_cVi1 C eX9_leastTruck_36 wX9_283 ⟨Nat.le_of_ble_eq_true rfl, Nat.le_of_ble_eq_true rfl, rfl, rfl⟩ rfl sh_38 rfl (kX5_roundsCostWith is_X5_38 hq) (Nat.le_of_ble_eq_true rfl) ?_
        refine a_iload_n C eX9_leastTruck_39 rfl ?_
        refine jn (fun (kk : Int32 → Int32 → Option (Int32 × Sg)) => ∀ (x3_8 : Int32) (x4_9 : Int32), kk x3_8 x4_9 = some rr → AW X 0 0 ad (SHc ++ ext) σ_7 55 [some (.ref 0), none, some (.int p2), some (.int x3_8), some (.int x4_9), some (.int x5_3), none] []) h ?_ (fun k55_10 hk55_10 h => ?_)
        · intro x3_8 x4_9 h
          refine a_inc C eX9_leastTruck_55 rfl c_iconst_1 h (fun z => [some (.ref 0), none, some (.int p2), some (.int x3_8), some (.int x4_9), some (.int z), none]) (fun _ => rfl) (fun x5_11 h => ?_)
          refine a_goto C eX9_leastTruck_58 ?_
          exact a_less (lle_same (lle_same (lle_same (lle_same (lle_same (lle_same (lle_same lle_nil))))))) (ih _ _ _ _ h)
        refine a_icmp_gt C eX9_leastTruck_40 (fun hc => ?_) (fun hc => ?_)
        · replace h := it hc h
          refine a_iload C eX9_leastTruck_50 rfl ?_
          refine a_iconst C eX9_leastTruck_52 (1 : Int32) c_iconst_1 ?_
          refine a_iadd C eX9_leastTruck_53 ?_
          refine a_lt h (fun x3_12 h => ?_)
          refine a_ist_n C eX9_leastTruck_54 (Nat.le_of_ble_eq_true rfl) [some (.ref 0), none, some (.int p2), some (.int x3_12), some (.int x4_2), some (.int x5_3), some (.int x6_5)] rfl ?_
          exact a_less (lle_same (lle_same (lle_same (lle_same (lle_same (lle_same (lle_drop lle_nil))))))) (hk55_10 _ _ h)
        · replace h := ie hc h
          refine a_iload C eX9_leastTruck_43 rfl ?_
          refine a_ist C eX9_leastTruck_45 (Nat.le_of_ble_eq_true rfl) [some (.ref 0), none, some (.int p2), some (.int x3_1), some (.int x6_5), some (.int x5_3), some (.int x6_5)] rfl ?_
          refine a_goto C eX9_leastTruck_47 ?_
          exact a_less (lle_same (lle_same (lle_same (lle_same (lle_same (lle_same (lle_drop lle_nil))))))) (hk55_10 _ _ h)
theorem kX9_leastTruck {ext : List Shp} {p1 : Int32} {p2 : Int32} {σ : Sg} {rr : (Int32 × Sg)}  (h : XX9_leastTruck p1 p2 σ = some rr) : Ci MX9_leastTruck [.ref 0, .int p1, .int p2] (SHc ++ ext) σ rr := by
  refine Ci.start rfl rfl (Nat.le_of_ble_eq_true rfl) ?_
  intro X ad C R
  replace C : Cx X cX9_leastTruck 7 RX9 (some .int) { frames := 3, cells := 0, slots := 0, locals := 76 } := C
  replace R : Ri X cX9_leastTruck (some .int) ad (SHc ++ ext) rr := R
  show AW X 0 0 ad (SHc ++ ext) σ 0 [some (.ref 0), some (.int p1), some (.int p2), none, none, none, none] []
  rw [XX9_leastTruck] at h
  refine a_iload_n C eX9_leastTruck_0 rfl ?_
  refine a_ist_n C eX9_leastTruck_1 (Nat.le_of_ble_eq_true rfl) [some (.ref 0), some (.int p1), some (.int p2), some (.int p1), none, none, none] rfl ?_
  refine a_bipush C eX9_leastTruck_2 (99 : Int32) c_bipush_99 ?_
  refine a_ist C eX9_leastTruck_4 (Nat.le_of_ble_eq_true rfl) [some (.ref 0), some (.int p1), some (.int p2), some (.int p1), some (.int (99 : Int32)), none, none] rfl ?_
  refine a_iconst C eX9_leastTruck_6 (0 : Int32) c_iconst_0 ?_
  refine a_ist C eX9_leastTruck_7 (Nat.le_of_ble_eq_true rfl) [some (.ref 0), some (.int p1), some (.int p2), some (.int p1), some (.int (99 : Int32)), some (.int (0 : Int32)), none] rfl ?_
  exact a_less (lle_same (lle_drop (lle_same (lle_same (lle_same (lle_same (lle_same lle_nil))))))) (lX9_leastTruck_9  C R  _ _ _ _ _ h)
/-! ShelfDrives.truck(I)I -/
def XX9_truck (p1 : Int32) (σ : Sg) : Option (Int32 × Sg) := if 0 ≤ p1 then (b1 (XX5_stockCost 38 σ) (fun (r_1 : Int32) => b1 (XX5_lostCost 38 σ) (fun (r_2 : Int32) => lt ((p1 - r_1) - r_2) (fun (x2_3 : Int32) => b2 (XX5_roundsCostWith 38 (99 : Int32) σ) (fun (r_4 : Int32) (σ_5 : Sg) => if r_4 ≤ x2_3 then (b1 (XX5_greatestLoad 38 σ_5) (fun (r_6 : Int32) => b2 (XX9_leastTruck (if (1 : Int32) < r_6 then r_6 else (1 : Int32)) x2_3 σ_5) (fun (r_7 : Int32) (σ_8 : Sg) => some (r_7, σ_8)))) else (some ((-1 : Int32), σ_5))))))) else (some ((-2 : Int32), σ))
theorem kX9_truck {ext : List Shp} {p1 : Int32} {σ : Sg} {rr : (Int32 × Sg)}  (h : XX9_truck p1 σ = some rr) : Ci MX9_truck [.ref 0, .int p1] (SHc ++ ext) σ rr := by
  refine Ci.start rfl rfl (Nat.le_of_ble_eq_true rfl) ?_
  intro X ad C R
  replace C : Cx X cX9_truck 3 RX9 (some .int) { frames := 4, cells := 0, slots := 0, locals := 102 } := C
  replace R : Ri X cX9_truck (some .int) ad (SHc ++ ext) rr := R
  show AW X 0 0 ad (SHc ++ ext) σ 0 [some (.ref 0), some (.int p1), none] []
  rw [XX9_truck] at h
  refine a_iload_n C eX9_truck_0 rfl ?_
  refine a_if_ge C eX9_truck_1 (fun hc => ?_) (fun hc => ?_)
  · replace h := it hc h
    refine a_iload_n C eX9_truck_7 rfl ?_
    refine a_aload_n C eX9_truck_8 rfl ?_
    refine a_getR C eX9_truck_9 fX9_59 sh_0 rfl ?_
    obtain ⟨r_1, hq, h⟩ := b1_e h
    refine a_cVi0 C eX9_truck_12 wX9_267 ⟨Nat.le_of_ble_eq_true rfl, Nat.le_of_ble_eq_true rfl, rfl, rfl⟩ rfl sh_38 rfl (kX5_stockCost is_X5_38 hq) (Nat.le_of_ble_eq_true rfl) ?_
    refine a_isub C eX9_truck_15 ?_
    refine a_aload_n C eX9_truck_16 rfl ?_
    refine a_getR C eX9_truck_17 fX9_59 sh_0 rfl ?_
    obtain ⟨r_2, hq, h⟩ := b1_e h
    refine a_cVi0 C eX9_truck_20 wX9_270 ⟨Nat.le_of_ble_eq_true rfl, Nat.le_of_ble_eq_true rfl, rfl, rfl⟩ rfl sh_38 rfl (kX5_lostCost is_X5_38 hq) (Nat.le_of_ble_eq_true rfl) ?_
    refine a_isub C eX9_truck_23 ?_
    refine a_lt h (fun x2_3 h => ?_)
    refine a_ist_n C eX9_truck_24 (Nat.le_of_ble_eq_true rfl) [some (.ref 0), some (.int p1), some (.int x2_3)] rfl ?_
    refine a_aload_n C eX9_truck_25 rfl ?_
    refine a_getR C eX9_truck_26 fX9_59 sh_0 rfl ?_
    refine a_bipush C eX9_truck_29 (99 : Int32) c_bipush_99 ?_
    obtain ⟨r_4, σ_5, hq, h⟩ := b2_e h
    refine a_cVi1 C eX9_truck_31 wX9_283 ⟨Nat.le_of_ble_eq_true rfl, Nat.le_of_ble_eq_true rfl, rfl, rfl⟩ rfl sh_38 rfl (kX5_roundsCostWith is_X5_38 hq) (Nat.le_of_ble_eq_true rfl) ?_
    refine a_iload_n C eX9_truck_34 rfl ?_
    refine a_icmp_le C eX9_truck_35 (fun hc => ?_) (fun hc => ?_)
    · replace h := it hc h
      refine a_aload_n C eX9_truck_40 rfl ?_
      refine a_iconst C eX9_truck_41 (1 : Int32) c_iconst_1 ?_
      refine a_aload_n C eX9_truck_42 rfl ?_
      refine a_getR C eX9_truck_43 fX9_59 sh_0 rfl ?_
      obtain ⟨r_6, hq, h⟩ := b1_e h
      refine a_cVi0 C eX9_truck_46 wX9_286 ⟨Nat.le_of_ble_eq_true rfl, Nat.le_of_ble_eq_true rfl, rfl, rfl⟩ rfl sh_38 rfl (kX5_greatestLoad is_X5_38 hq) (Nat.le_of_ble_eq_true rfl) ?_
      refine a_max C eX9_truck_49 wX9_289 ⟨Nat.le_of_ble_eq_true rfl, Nat.le_of_ble_eq_true rfl⟩ rfl (Nat.le_of_ble_eq_true rfl) ?_
      refine a_iload_n C eX9_truck_52 rfl ?_
      obtain ⟨r_7, σ_8, hq, h⟩ := b2_e h
      refine a_cVi2 C eX9_truck_53 wX9_294 ⟨Nat.le_of_ble_eq_true rfl, Nat.le_of_ble_eq_true rfl, rfl, rfl⟩ rfl sh_0 rfl (kX9_leastTruck hq) (Nat.le_of_ble_eq_true rfl) ?_
      exact rt_i R eX9_truck_56 h nb_int
    · replace h := ie hc h
      refine a_iconst C eX9_truck_38 (-1 : Int32) c_iconst_m1 ?_
      exact rt_i R eX9_truck_39 h nb_int
  · replace h := ie hc h
    refine a_bipush C eX9_truck_4 (-2 : Int32) c_bipush_m2 ?_
    exact rt_i R eX9_truck_6 h nb_int
/-! ShelfDrives.losesAt(I)Z -/
def XX9_losesAt (p1 : Int32) (σ : Sg) : Option (Int32 × Sg) := b1 (XX5_askPercent 46 p1 σ) (fun (σ_1 : Sg) => if (σ_1 46 5) ≤ 0 then (some ((0 : Int32), σ_1)) else (some ((1 : Int32), σ_1)))
theorem kX9_losesAt {ext : List Shp} {p1 : Int32} {σ : Sg} {rr : (Int32 × Sg)}  (h : XX9_losesAt p1 σ = some rr) : Ci MX9_losesAt [.ref 0, .int p1] (SHc ++ ext) σ rr := by
  refine Ci.start rfl rfl (Nat.le_of_ble_eq_true rfl) ?_
  intro X ad C R
  replace C : Cx X cX9_losesAt 2 RX9 (some .boolean) { frames := 4, cells := 0, slots := 0, locals := 94 } := C
  replace R : Ri X cX9_losesAt (some .boolean) ad (SHc ++ ext) rr := R
  show AW X 0 0 ad (SHc ++ ext) σ 0 [some (.ref 0), some (.int p1)] []
  rw [XX9_losesAt] at h
  refine a_aload_n C eX9_losesAt_0 rfl ?_
  refine a_getR C eX9_losesAt_1 fX9_63 sh_0 rfl ?_
  refine a_iload_n C eX9_losesAt_4 rfl ?_
  obtain ⟨σ_1, hq, h⟩ := b1_e h
  refine a_cVv1 C eX9_losesAt_5 wX9_303 ⟨Nat.le_of_ble_eq_true rfl, Nat.le_of_ble_eq_true rfl, rfl, rfl⟩ rfl sh_46 rfl (kX5_askPercent is_X5_46 hq) (Nat.le_of_ble_eq_true rfl) ?_
  refine a_aload_n C eX9_losesAt_8 rfl ?_
  refine a_getR C eX9_losesAt_9 fX9_63 sh_0 rfl ?_
  refine a_getI C eX9_losesAt_12 fX9_387 sh_46 rfl ?_
  refine a_if_le C eX9_losesAt_15 (fun hc => ?_) (fun hc => ?_)
  · replace h := it hc h
    refine a_iconst C eX9_losesAt_22 (0 : Int32) c_iconst_0 ?_
    exact rt_i R eX9_losesAt_23 h nb_0
  · replace h := ie hc h
    refine a_iconst C eX9_losesAt_18 (1 : Int32) c_iconst_1 ?_
    refine a_goto C eX9_losesAt_19 ?_
    exact rt_i R eX9_losesAt_23 h nb_1
/-! ShelfDrives.greatestPercent()I -/
def LX9_greatestPercent_8 : Nat → Int32 → Int32 → Int32 → Sg → Option (Int32 × Sg)
  | 0, _, _, _, _ => none
  | n + 1, x1_1, x2_2, x3_3, σ_4 => if (300 : Int32) ≤ x3_3 then (some (x1_1, σ_4)) else (if x2_2 ≤ x1_1 then (some (x1_1, σ_4)) else (lt (((x1_1 + x2_2) + (1 : Int32)) / (2 : Int32)) (fun (x4_5 : Int32) => b2 (XX9_losesAt x4_5 σ_4) (fun (r_6 : Int32) (σ_7 : Sg) => lt (fun (x1_8 : Int32) (x2_9 : Int32) => lt (x3_3 + (1 : Int32)) (fun (x3_11 : Int32) => LX9_greatestPercent_8 n x1_8 x2_9 x3_11 σ_7)) (fun (k49_10 : Int32 → Int32 → Option (Int32 × Sg)) => if r_6 = 0 then (k49_10 x4_5 x2_2) else (lt (x4_5 - (1 : Int32)) (fun (x2_12 : Int32) => k49_10 x1_1 x2_12)))))))
def XX9_greatestPercent (σ : Sg) : Option (Int32 × Sg) := LX9_greatestPercent_8 FUEL (0 : Int32) (300 : Int32) (0 : Int32) σ
theorem lX9_greatestPercent_8 {ext : List Shp} {X : CT} {ad : Nat → Nat} {rr : (Int32 × Sg)}   (C : Cx X cX9_greatestPercent 5 RX9 (some .int) { frames := 5, cells := 0, slots := 0, locals := 115 }) (R : Ri X cX9_greatestPercent (some .int) ad (SHc ++ ext) rr)  : ∀ (n : Nat) (x1_1 : Int32) (x2_2 : Int32) (x3_3 : Int32) (σ_4 : Sg), LX9_greatestPercent_8 n x1_1 x2_2 x3_3 σ_4 = some rr → AW X 0 0 ad (SHc ++ ext) σ_4 8 [some (.ref 0), some (.int x1_1), some (.int x2_2), some (.int x3_3), none] [] := by
  intro n
  induction n with
  | zero =>
    intro x1_1 x2_2 x3_3 σ_4 h
    rw [LX9_greatestPercent_8] at h
    cases h
  | succ n ih =>
    intro x1_1 x2_2 x3_3 σ_4 h
    rw [LX9_greatestPercent_8] at h
    refine a_iload_n C eX9_greatestPercent_8 rfl ?_
    refine a_sipush C eX9_greatestPercent_9 (300 : Int32) c_sipush_300 ?_
    refine a_icmp_ge C eX9_greatestPercent_12 (fun hc => ?_) (fun hc => ?_)
    · replace h := it hc h
      refine a_iload_n C eX9_greatestPercent_55 rfl ?_
      exact rt_i R eX9_greatestPercent_56 h nb_int
    · replace h := ie hc h
      refine a_iload_n C eX9_greatestPercent_15 rfl ?_
      refine a_iload_n C eX9_greatestPercent_16 rfl ?_
      refine a_icmp_ge C eX9_greatestPercent_17 (fun hc => ?_) (fun hc => ?_)
      · replace h := it hc h
        refine a_iload_n C eX9_greatestPercent_55 rfl ?_
        exact rt_i R eX9_greatestPercent_56 h nb_int
      · replace h := ie hc h
        refine a_iload_n C eX9_greatestPercent_20 rfl ?_
        refine a_iload_n C eX9_greatestPercent_21 rfl ?_
        refine a_iadd C eX9_greatestPercent_22 ?_
        refine a_iconst C eX9_greatestPercent_23 (1 : Int32) c_iconst_1 ?_
        refine a_iadd C eX9_greatestPercent_24 ?_
        refine a_iconst C eX9_greatestPercent_25 (2 : Int32) c_iconst_2 ?_
        refine a_idiv C eX9_greatestPercent_26 (by decide) ?_
        refine a_lt h (fun x4_5 h => ?_)
        refine a_ist C eX9_greatestPercent_27 (Nat.le_of_ble_eq_true rfl) [some (.ref 0), some (.int x1_1), some (.int x2_2), some (.int x3_3), some (.int x4_5)] rfl ?_
        refine a_aload_n C eX9_greatestPercent_29 rfl ?_
        refine a_iload C eX9_greatestPercent_30 rfl ?_
        obtain ⟨r_6, σ_7, hq, h⟩ := b2_e h
        refine a_cVi1 C eX9_greatestPercent_32 wX9_297 ⟨Nat.le_of_ble_eq_true rfl, Nat.le_of_ble_eq_true rfl, rfl, rfl⟩ rfl sh_0 rfl (kX9_losesAt hq) (Nat.le_of_ble_eq_true rfl) ?_
        refine jn (fun (kk : Int32 → Int32 → Option (Int32 × Sg)) => ∀ (x1_8 : Int32) (x2_9 : Int32), kk x1_8 x2_9 = some rr → AW X 0 0 ad (SHc ++ ext) σ_7 49 [some (.ref 0), some (.int x1_8), some (.int x2_9), some (.int x3_3), none] []) h ?_ (fun k49_10 hk49_10 h => ?_)
        · intro x1_8 x2_9 h
          refine a_inc C eX9_greatestPercent_49 rfl c_iconst_1 h (fun z => [some (.ref 0), some (.int x1_8), some (.int x2_9), some (.int z), none]) (fun _ => rfl) (fun x3_11 h => ?_)
          refine a_goto C eX9_greatestPercent_52 ?_
          exact a_less (lle_same (lle_same (lle_same (lle_same (lle_same lle_nil))))) (ih _ _ _ _ h)
        refine a_if_eq C eX9_greatestPercent_35 (fun hc => ?_) (fun hc => ?_)
        · replace h := it hc h
          refine a_iload C eX9_greatestPercent_46 rfl ?_
          refine a_ist_n C eX9_greatestPercent_48 (Nat.le_of_ble_eq_true rfl) [some (.ref 0), some (.int x4_5), some (.int x2_2), some (.int x3_3), some (.int x4_5)] rfl ?_
          exact a_less (lle_same (lle_same (lle_same (lle_same (lle_drop lle_nil))))) (hk49_10 _ _ h)
        · replace h := ie hc h
          refine a_iload C eX9_greatestPercent_38 rfl ?_
          refine a_iconst C eX9_greatestPercent_40 (1 : Int32) c_iconst_1 ?_
          refine a_isub C eX9_greatestPercent_41 ?_
          refine a_lt h (fun x2_12 h => ?_)
          refine a_ist_n C eX9_greatestPercent_42 (Nat.le_of_ble_eq_true rfl) [some (.ref 0), some (.int x1_1), some (.int x2_12), some (.int x3_3), some (.int x4_5)] rfl ?_
          refine a_goto C eX9_greatestPercent_43 ?_
          exact a_less (lle_same (lle_same (lle_same (lle_same (lle_drop lle_nil))))) (hk49_10 _ _ h)
theorem kX9_greatestPercent {ext : List Shp} {σ : Sg} {rr : (Int32 × Sg)}  (h : XX9_greatestPercent σ = some rr) : Ci MX9_greatestPercent [.ref 0] (SHc ++ ext) σ rr := by
  refine Ci.start rfl rfl (Nat.le_of_ble_eq_true rfl) ?_
  intro X ad C R
  replace C : Cx X cX9_greatestPercent 5 RX9 (some .int) { frames := 5, cells := 0, slots := 0, locals := 115 } := C
  replace R : Ri X cX9_greatestPercent (some .int) ad (SHc ++ ext) rr := R
  show AW X 0 0 ad (SHc ++ ext) σ 0 [some (.ref 0), none, none, none, none] []
  rw [XX9_greatestPercent] at h
  refine a_iconst C eX9_greatestPercent_0 (0 : Int32) c_iconst_0 ?_
  refine a_ist_n C eX9_greatestPercent_1 (Nat.le_of_ble_eq_true rfl) [some (.ref 0), some (.int (0 : Int32)), none, none, none] rfl ?_
  refine a_sipush C eX9_greatestPercent_2 (300 : Int32) c_sipush_300 ?_
  refine a_ist_n C eX9_greatestPercent_5 (Nat.le_of_ble_eq_true rfl) [some (.ref 0), some (.int (0 : Int32)), some (.int (300 : Int32)), none, none] rfl ?_
  refine a_iconst C eX9_greatestPercent_6 (0 : Int32) c_iconst_0 ?_
  refine a_ist_n C eX9_greatestPercent_7 (Nat.le_of_ble_eq_true rfl) [some (.ref 0), some (.int (0 : Int32)), some (.int (300 : Int32)), some (.int (0 : Int32)), none] rfl ?_
  exact a_less (lle_same (lle_same (lle_same (lle_same (lle_same lle_nil))))) (lX9_greatestPercent_8  C R  _ _ _ _ _ h)
/-! ShelfDrives.reach()I -/
def XX9_reach (σ : Sg) : Option (Int32 × Sg) := b1 (XX5_takeOver 46 38 σ) (fun (σ_1 : Sg) => b2 (XX9_losesAt (0 : Int32) σ_1) (fun (r_2 : Int32) (σ_3 : Sg) => if r_2 = 0 then (b2 (XX9_greatestPercent σ_3) (fun (r_4 : Int32) (σ_5 : Sg) => some (r_4, σ_5))) else (some ((-1 : Int32), σ_3))))
theorem kX9_reach {ext : List Shp} {σ : Sg} {rr : (Int32 × Sg)}  (h : XX9_reach σ = some rr) : Ci MX9_reach [.ref 0] (SHc ++ ext) σ rr := by
  refine Ci.start rfl rfl (Nat.le_of_ble_eq_true rfl) ?_
  intro X ad C R
  replace C : Cx X cX9_reach 1 RX9 (some .int) { frames := 6, cells := 0, slots := 0, locals := 139 } := C
  replace R : Ri X cX9_reach (some .int) ad (SHc ++ ext) rr := R
  show AW X 0 0 ad (SHc ++ ext) σ 0 [some (.ref 0)] []
  rw [XX9_reach] at h
  refine a_aload_n C eX9_reach_0 rfl ?_
  refine a_getR C eX9_reach_1 fX9_63 sh_0 rfl ?_
  refine a_aload_n C eX9_reach_4 rfl ?_
  refine a_getR C eX9_reach_5 fX9_59 sh_0 rfl ?_
  obtain ⟨σ_1, hq, h⟩ := b1_e h
  refine a_cVv1 C eX9_reach_8 wX9_276 ⟨Nat.le_of_ble_eq_true rfl, Nat.le_of_ble_eq_true rfl, rfl, rfl⟩ rfl sh_46 rfl (kX5_takeOver is_X5_46 is_X5_38 hq) (Nat.le_of_ble_eq_true rfl) ?_
  refine a_aload_n C eX9_reach_11 rfl ?_
  refine a_iconst C eX9_reach_12 (0 : Int32) c_iconst_0 ?_
  obtain ⟨r_2, σ_3, hq, h⟩ := b2_e h
  refine a_cVi1 C eX9_reach_13 wX9_297 ⟨Nat.le_of_ble_eq_true rfl, Nat.le_of_ble_eq_true rfl, rfl, rfl⟩ rfl sh_0 rfl (kX9_losesAt hq) (Nat.le_of_ble_eq_true rfl) ?_
  refine a_if_eq C eX9_reach_16 (fun hc => ?_) (fun hc => ?_)
  · replace h := it hc h
    refine a_aload_n C eX9_reach_21 rfl ?_
    obtain ⟨r_4, σ_5, hq, h⟩ := b2_e h
    refine a_cVi0 C eX9_reach_22 wX9_300 ⟨Nat.le_of_ble_eq_true rfl, Nat.le_of_ble_eq_true rfl, rfl, rfl⟩ rfl sh_0 rfl (kX9_greatestPercent hq) (Nat.le_of_ble_eq_true rfl) ?_
    exact rt_i R eX9_reach_25 h nb_int
  · replace h := ie hc h
    refine a_iconst C eX9_reach_19 (-1 : Int32) c_iconst_m1 ?_
    exact rt_i R eX9_reach_20 h nb_int
/-! ShelfDrives.scaled(I)I -/
def XX9_scaled (p1 : Int32) (σ : Sg) : Option (Int32 × Sg) := if p1 < 0 then (some ((-1 : Int32), σ)) else (if p1 ≤ (300 : Int32) then (b1 (XX5_takeOver 46 38 σ) (fun (σ_1 : Sg) => b1 (XX5_askPercent 46 p1 σ_1) (fun (σ_2 : Sg) => b2 (XX5_wholeCost 46 σ_2) (fun (r_3 : Int32) (σ_4 : Sg) => some (r_3, σ_4))))) else (some ((-1 : Int32), σ)))
theorem kX9_scaled {ext : List Shp} {p1 : Int32} {σ : Sg} {rr : (Int32 × Sg)}  (h : XX9_scaled p1 σ = some rr) : Ci MX9_scaled [.ref 0, .int p1] (SHc ++ ext) σ rr := by
  refine Ci.start rfl rfl (Nat.le_of_ble_eq_true rfl) ?_
  intro X ad C R
  replace C : Cx X cX9_scaled 2 RX9 (some .int) { frames := 4, cells := 0, slots := 0, locals := 96 } := C
  replace R : Ri X cX9_scaled (some .int) ad (SHc ++ ext) rr := R
  show AW X 0 0 ad (SHc ++ ext) σ 0 [some (.ref 0), some (.int p1)] []
  rw [XX9_scaled] at h
  refine a_iload_n C eX9_scaled_0 rfl ?_
  refine a_if_lt C eX9_scaled_1 (fun hc => ?_) (fun hc => ?_)
  · replace h := it hc h
    refine a_iconst C eX9_scaled_11 (-1 : Int32) c_iconst_m1 ?_
    exact rt_i R eX9_scaled_12 h nb_int
  · replace h := ie hc h
    refine a_iload_n C eX9_scaled_4 rfl ?_
    refine a_sipush C eX9_scaled_5 (300 : Int32) c_sipush_300 ?_
    refine a_icmp_le C eX9_scaled_8 (fun hc => ?_) (fun hc => ?_)
    · replace h := it hc h
      refine a_aload_n C eX9_scaled_13 rfl ?_
      refine a_getR C eX9_scaled_14 fX9_63 sh_0 rfl ?_
      refine a_aload_n C eX9_scaled_17 rfl ?_
      refine a_getR C eX9_scaled_18 fX9_59 sh_0 rfl ?_
      obtain ⟨σ_1, hq, h⟩ := b1_e h
      refine a_cVv1 C eX9_scaled_21 wX9_276 ⟨Nat.le_of_ble_eq_true rfl, Nat.le_of_ble_eq_true rfl, rfl, rfl⟩ rfl sh_46 rfl (kX5_takeOver is_X5_46 is_X5_38 hq) (Nat.le_of_ble_eq_true rfl) ?_
      refine a_aload_n C eX9_scaled_24 rfl ?_
      refine a_getR C eX9_scaled_25 fX9_63 sh_0 rfl ?_
      refine a_iload_n C eX9_scaled_28 rfl ?_
      obtain ⟨σ_2, hq, h⟩ := b1_e h
      refine a_cVv1 C eX9_scaled_29 wX9_303 ⟨Nat.le_of_ble_eq_true rfl, Nat.le_of_ble_eq_true rfl, rfl, rfl⟩ rfl sh_46 rfl (kX5_askPercent is_X5_46 hq) (Nat.le_of_ble_eq_true rfl) ?_
      refine a_aload_n C eX9_scaled_32 rfl ?_
      refine a_getR C eX9_scaled_33 fX9_63 sh_0 rfl ?_
      obtain ⟨r_3, σ_4, hq, h⟩ := b2_e h
      refine a_cVi0 C eX9_scaled_36 wX9_261 ⟨Nat.le_of_ble_eq_true rfl, Nat.le_of_ble_eq_true rfl, rfl, rfl⟩ rfl sh_46 rfl (kX5_wholeCost is_X5_46 hq) (Nat.le_of_ble_eq_true rfl) ?_
      exact rt_i R eX9_scaled_39 h nb_int
    · replace h := ie hc h
      refine a_iconst C eX9_scaled_11 (-1 : Int32) c_iconst_m1 ?_
      exact rt_i R eX9_scaled_12 h nb_int
/-! ShelfDrives.alone(II)I -/
def XX9_alone (p1 : Int32) (p2 : Int32) (σ : Sg) : Option (Int32 × Sg) := b1 (XX7_hasShop p1 σ) (fun (r_1 : Int32) => if r_1 = 0 then (some ((-1 : Int32), σ)) else (if p2 < 0 then (some ((-1 : Int32), σ)) else (if p2 ≤ (1 : Int32) then (b2 (XX1_findDays ((1 : Int32) <<< (p1 &&& 31)) (0 : Int32) σ) (fun (r_2 : Int32) (σ_3 : Sg) => if r_2 = 0 then (some ((-1 : Int32), σ_3)) else (if p2 = 0 then (b1 (XX1_bestDays σ_3) (fun (r_5 : Int32) => some (r_5, σ_3))) else (b1 (XX1_bestCost σ_3) (fun (r_4 : Int32) => some (r_4, σ_3)))))) else (some ((-1 : Int32), σ)))))
theorem kX9_alone {ext : List Shp} {p1 : Int32} {p2 : Int32} {σ : Sg} {rr : (Int32 × Sg)}  (h : XX9_alone p1 p2 σ = some rr) : Ci MX9_alone [.ref 0, .int p1, .int p2] (SHc ++ ext) σ rr := by
  refine Ci.start rfl rfl (Nat.le_of_ble_eq_true rfl) ?_
  intro X ad C R
  replace C : Cx X cX9_alone 3 RX9 (some .int) { frames := 5, cells := 0, slots := 0, locals := 124 } := C
  replace R : Ri X cX9_alone (some .int) ad (SHc ++ ext) rr := R
  show AW X 0 0 ad (SHc ++ ext) σ 0 [some (.ref 0), some (.int p1), some (.int p2)] []
  rw [XX9_alone] at h
  refine a_aload_n C eX9_alone_0 rfl ?_
  refine a_getR C eX9_alone_1 fX9_20 sh_0 rfl ?_
  refine a_iload_n C eX9_alone_4 rfl ?_
  obtain ⟨r_1, hq, h⟩ := b1_e h
  refine a_cVi1 C eX9_alone_5 wX9_146 ⟨Nat.le_of_ble_eq_true rfl, Nat.le_of_ble_eq_true rfl, rfl, rfl⟩ rfl sh_2 rfl (kX7_hasShop hq) (Nat.le_of_ble_eq_true rfl) ?_
  refine a_if_eq C eX9_alone_8 (fun hc => ?_) (fun hc => ?_)
  · replace h := it hc h
    refine a_iconst C eX9_alone_20 (-1 : Int32) c_iconst_m1 ?_
    exact rt_i R eX9_alone_21 h nb_int
  · replace h := ie hc h
    refine a_iload_n C eX9_alone_11 rfl ?_
    refine a_if_lt C eX9_alone_12 (fun hc => ?_) (fun hc => ?_)
    · replace h := it hc h
      refine a_iconst C eX9_alone_20 (-1 : Int32) c_iconst_m1 ?_
      exact rt_i R eX9_alone_21 h nb_int
    · replace h := ie hc h
      refine a_iload_n C eX9_alone_15 rfl ?_
      refine a_iconst C eX9_alone_16 (1 : Int32) c_iconst_1 ?_
      refine a_icmp_le C eX9_alone_17 (fun hc => ?_) (fun hc => ?_)
      · replace h := it hc h
        refine a_aload_n C eX9_alone_22 rfl ?_
        refine a_getR C eX9_alone_23 fX9_76 sh_0 rfl ?_
        refine a_iconst C eX9_alone_26 (1 : Int32) c_iconst_1 ?_
        refine a_iload_n C eX9_alone_27 rfl ?_
        refine a_ishl C eX9_alone_28 ?_
        refine a_iconst C eX9_alone_29 (0 : Int32) c_iconst_0 ?_
        obtain ⟨r_2, σ_3, hq, h⟩ := b2_e h
        refine a_cVi2 C eX9_alone_30 wX9_306 ⟨Nat.le_of_ble_eq_true rfl, Nat.le_of_ble_eq_true rfl, rfl, rfl⟩ rfl sh_55 rfl (kX1_findDays hq) (Nat.le_of_ble_eq_true rfl) ?_
        refine a_if_ne C eX9_alone_33 (fun hc => ?_) (fun hc => ?_)
        · replace h := ie hc h
          refine a_iload_n C eX9_alone_38 rfl ?_
          refine a_if_ne C eX9_alone_39 (fun hc => ?_) (fun hc => ?_)
          · replace h := ie hc h
            refine a_aload_n C eX9_alone_52 rfl ?_
            refine a_getR C eX9_alone_53 fX9_76 sh_0 rfl ?_
            obtain ⟨r_4, hq, h⟩ := b1_e h
            refine a_cVi0 C eX9_alone_56 wX9_313 ⟨Nat.le_of_ble_eq_true rfl, Nat.le_of_ble_eq_true rfl, rfl, rfl⟩ rfl sh_55 rfl (kX1_bestCost hq) (Nat.le_of_ble_eq_true rfl) ?_
            exact rt_i R eX9_alone_59 h nb_int
          · replace h := it hc h
            refine a_aload_n C eX9_alone_42 rfl ?_
            refine a_getR C eX9_alone_43 fX9_76 sh_0 rfl ?_
            obtain ⟨r_5, hq, h⟩ := b1_e h
            refine a_cVi0 C eX9_alone_46 wX9_310 ⟨Nat.le_of_ble_eq_true rfl, Nat.le_of_ble_eq_true rfl, rfl, rfl⟩ rfl sh_55 rfl (kX1_bestDays hq) (Nat.le_of_ble_eq_true rfl) ?_
            refine a_goto C eX9_alone_49 ?_
            exact rt_i R eX9_alone_59 h nb_int
        · replace h := it hc h
          refine a_iconst C eX9_alone_36 (-1 : Int32) c_iconst_m1 ?_
          exact rt_i R eX9_alone_37 h nb_int
      · replace h := ie hc h
        refine a_iconst C eX9_alone_20 (-1 : Int32) c_iconst_m1 ?_
        exact rt_i R eX9_alone_21 h nb_int
/-! ShelfDrives.every(II)I -/
def XX9_every (p1 : Int32) (p2 : Int32) (σ : Sg) : Option (Int32 × Sg) := b1 (XX7_hasShop p1 σ) (fun (r_1 : Int32) => if r_1 = 0 then (some ((-1 : Int32), σ)) else (if p2 < 0 then (some ((-1 : Int32), σ)) else (if p2 ≤ (2 : Int32) then (b1 (XX5_takeOver 46 38 σ) (fun (σ_2 : Sg) => b1 (XX3_findEvery p1 σ_2) (fun (σ_3 : Sg) => if p2 = (0 : Int32) then (some (σ_3 54 0, σ_3)) else (if p2 = (1 : Int32) then (some (σ_3 54 1, σ_3)) else (some (σ_3 54 2, σ_3)))))) else (some ((-1 : Int32), σ)))))
theorem kX9_every {ext : List Shp} {p1 : Int32} {p2 : Int32} {σ : Sg} {rr : (Int32 × Sg)}  (h : XX9_every p1 p2 σ = some rr) : Ci MX9_every [.ref 0, .int p1, .int p2] (SHc ++ ext) σ rr := by
  refine Ci.start rfl rfl (Nat.le_of_ble_eq_true rfl) ?_
  intro X ad C R
  replace C : Cx X cX9_every 3 RX9 (some .int) { frames := 5, cells := 0, slots := 0, locals := 120 } := C
  replace R : Ri X cX9_every (some .int) ad (SHc ++ ext) rr := R
  show AW X 0 0 ad (SHc ++ ext) σ 0 [some (.ref 0), some (.int p1), some (.int p2)] []
  rw [XX9_every] at h
  refine a_aload_n C eX9_every_0 rfl ?_
  refine a_getR C eX9_every_1 fX9_20 sh_0 rfl ?_
  refine a_iload_n C eX9_every_4 rfl ?_
  obtain ⟨r_1, hq, h⟩ := b1_e h
  refine a_cVi1 C eX9_every_5 wX9_146 ⟨Nat.le_of_ble_eq_true rfl, Nat.le_of_ble_eq_true rfl, rfl, rfl⟩ rfl sh_2 rfl (kX7_hasShop hq) (Nat.le_of_ble_eq_true rfl) ?_
  refine a_if_eq C eX9_every_8 (fun hc => ?_) (fun hc => ?_)
  · replace h := it hc h
    refine a_iconst C eX9_every_20 (-1 : Int32) c_iconst_m1 ?_
    exact rt_i R eX9_every_21 h nb_int
  · replace h := ie hc h
    refine a_iload_n C eX9_every_11 rfl ?_
    refine a_if_lt C eX9_every_12 (fun hc => ?_) (fun hc => ?_)
    · replace h := it hc h
      refine a_iconst C eX9_every_20 (-1 : Int32) c_iconst_m1 ?_
      exact rt_i R eX9_every_21 h nb_int
    · replace h := ie hc h
      refine a_iload_n C eX9_every_15 rfl ?_
      refine a_iconst C eX9_every_16 (2 : Int32) c_iconst_2 ?_
      refine a_icmp_le C eX9_every_17 (fun hc => ?_) (fun hc => ?_)
      · replace h := it hc h
        refine a_aload_n C eX9_every_22 rfl ?_
        refine a_getR C eX9_every_23 fX9_63 sh_0 rfl ?_
        refine a_aload_n C eX9_every_26 rfl ?_
        refine a_getR C eX9_every_27 fX9_59 sh_0 rfl ?_
        obtain ⟨σ_2, hq, h⟩ := b1_e h
        refine a_cVv1 C eX9_every_30 wX9_276 ⟨Nat.le_of_ble_eq_true rfl, Nat.le_of_ble_eq_true rfl, rfl, rfl⟩ rfl sh_46 rfl (kX5_takeOver is_X5_46 is_X5_38 hq) (Nat.le_of_ble_eq_true rfl) ?_
        refine a_aload_n C eX9_every_33 rfl ?_
        refine a_getR C eX9_every_34 fX9_69 sh_0 rfl ?_
        refine a_aload_n C eX9_every_37 rfl ?_
        refine a_getR C eX9_every_38 fX9_63 sh_0 rfl ?_
        refine a_iload_n C eX9_every_41 rfl ?_
        obtain ⟨σ_3, hq, h⟩ := b1_e h
        refine a_cVv2 C eX9_every_42 wX9_316 ⟨Nat.le_of_ble_eq_true rfl, Nat.le_of_ble_eq_true rfl, rfl, rfl⟩ rfl sh_54 rfl (kX3_findEvery hq) (Nat.le_of_ble_eq_true rfl) ?_
        refine a_iload_n C eX9_every_45 rfl ?_
        by_cases hs_4 : p2 = (0 : Int32)
        · replace h := it hs_4 h
          refine a_lsw C eX9_every_46 (x := p2) (by decide) (tgt := 72) (by rw [hs_4]) rfl ?_
          refine a_aload_n C eX9_every_72 rfl ?_
          refine a_getR C eX9_every_73 fX9_69 sh_0 rfl ?_
          refine a_getI C eX9_every_76 fX9_320 sh_54 rfl ?_
          exact rt_i R eX9_every_79 h nb_int
        replace h := ie hs_4 h
        by_cases hs_5 : p2 = (1 : Int32)
        · replace h := it hs_5 h
          refine a_lsw C eX9_every_46 (x := p2) (by decide) (tgt := 80) (by rw [hs_5]) rfl ?_
          refine a_aload_n C eX9_every_80 rfl ?_
          refine a_getR C eX9_every_81 fX9_69 sh_0 rfl ?_
          refine a_getI C eX9_every_84 fX9_323 sh_54 rfl ?_
          exact rt_i R eX9_every_87 h nb_int
        replace h := ie hs_5 h
        refine a_lsw C eX9_every_46 (by decide) (tgt := 88) ((lv_osw hs_4 rfl).trans ((lv_osw hs_5 rfl).trans rfl)) rfl ?_
        refine a_aload_n C eX9_every_88 rfl ?_
        refine a_getR C eX9_every_89 fX9_69 sh_0 rfl ?_
        refine a_getI C eX9_every_92 fX9_326 sh_54 rfl ?_
        exact rt_i R eX9_every_95 h nb_int
      · replace h := ie hc h
        refine a_iconst C eX9_every_20 (-1 : Int32) c_iconst_m1 ?_
        exact rt_i R eX9_every_21 h nb_int
/-! ShelfDrives.joint(I)I -/
def XX9_joint (p1 : Int32) (σ : Sg) : Option (Int32 × Sg) := if p1 < 0 then (some ((-1 : Int32), σ)) else (if p1 ≤ (1 : Int32) then (b2 (XX1_findDays (((1 : Int32) <<< ((σ 2 6) &&& 31)) - (1 : Int32)) (1 : Int32) σ) (fun (r_1 : Int32) (σ_2 : Sg) => if r_1 = 0 then (some ((-1 : Int32), σ_2)) else (if p1 = 0 then (b1 (XX1_bestDays σ_2) (fun (r_4 : Int32) => some (r_4, σ_2))) else (b1 (XX1_bestCost σ_2) (fun (r_3 : Int32) => some (r_3, σ_2)))))) else (some ((-1 : Int32), σ)))
theorem kX9_joint {ext : List Shp} {p1 : Int32} {σ : Sg} {rr : (Int32 × Sg)}  (h : XX9_joint p1 σ = some rr) : Ci MX9_joint [.ref 0, .int p1] (SHc ++ ext) σ rr := by
  refine Ci.start rfl rfl (Nat.le_of_ble_eq_true rfl) ?_
  intro X ad C R
  replace C : Cx X cX9_joint 2 RX9 (some .int) { frames := 5, cells := 0, slots := 0, locals := 124 } := C
  replace R : Ri X cX9_joint (some .int) ad (SHc ++ ext) rr := R
  show AW X 0 0 ad (SHc ++ ext) σ 0 [some (.ref 0), some (.int p1)] []
  rw [XX9_joint] at h
  refine a_iload_n C eX9_joint_0 rfl ?_
  refine a_if_lt C eX9_joint_1 (fun hc => ?_) (fun hc => ?_)
  · replace h := it hc h
    refine a_iconst C eX9_joint_9 (-1 : Int32) c_iconst_m1 ?_
    exact rt_i R eX9_joint_10 h nb_int
  · replace h := ie hc h
    refine a_iload_n C eX9_joint_4 rfl ?_
    refine a_iconst C eX9_joint_5 (1 : Int32) c_iconst_1 ?_
    refine a_icmp_le C eX9_joint_6 (fun hc => ?_) (fun hc => ?_)
    · replace h := it hc h
      refine a_aload_n C eX9_joint_11 rfl ?_
      refine a_getR C eX9_joint_12 fX9_76 sh_0 rfl ?_
      refine a_iconst C eX9_joint_15 (1 : Int32) c_iconst_1 ?_
      refine a_aload_n C eX9_joint_16 rfl ?_
      refine a_getR C eX9_joint_17 fX9_20 sh_0 rfl ?_
      refine a_getI C eX9_joint_20 fX9_107 sh_2 rfl ?_
      refine a_ishl C eX9_joint_23 ?_
      refine a_iconst C eX9_joint_24 (1 : Int32) c_iconst_1 ?_
      refine a_isub C eX9_joint_25 ?_
      refine a_iconst C eX9_joint_26 (1 : Int32) c_iconst_1 ?_
      obtain ⟨r_1, σ_2, hq, h⟩ := b2_e h
      refine a_cVi2 C eX9_joint_27 wX9_306 ⟨Nat.le_of_ble_eq_true rfl, Nat.le_of_ble_eq_true rfl, rfl, rfl⟩ rfl sh_55 rfl (kX1_findDays hq) (Nat.le_of_ble_eq_true rfl) ?_
      refine a_if_ne C eX9_joint_30 (fun hc => ?_) (fun hc => ?_)
      · replace h := ie hc h
        refine a_iload_n C eX9_joint_35 rfl ?_
        refine a_if_ne C eX9_joint_36 (fun hc => ?_) (fun hc => ?_)
        · replace h := ie hc h
          refine a_aload_n C eX9_joint_49 rfl ?_
          refine a_getR C eX9_joint_50 fX9_76 sh_0 rfl ?_
          obtain ⟨r_3, hq, h⟩ := b1_e h
          refine a_cVi0 C eX9_joint_53 wX9_313 ⟨Nat.le_of_ble_eq_true rfl, Nat.le_of_ble_eq_true rfl, rfl, rfl⟩ rfl sh_55 rfl (kX1_bestCost hq) (Nat.le_of_ble_eq_true rfl) ?_
          exact rt_i R eX9_joint_56 h nb_int
        · replace h := it hc h
          refine a_aload_n C eX9_joint_39 rfl ?_
          refine a_getR C eX9_joint_40 fX9_76 sh_0 rfl ?_
          obtain ⟨r_4, hq, h⟩ := b1_e h
          refine a_cVi0 C eX9_joint_43 wX9_310 ⟨Nat.le_of_ble_eq_true rfl, Nat.le_of_ble_eq_true rfl, rfl, rfl⟩ rfl sh_55 rfl (kX1_bestDays hq) (Nat.le_of_ble_eq_true rfl) ?_
          refine a_goto C eX9_joint_46 ?_
          exact rt_i R eX9_joint_56 h nb_int
      · replace h := it hc h
        refine a_iconst C eX9_joint_33 (-1 : Int32) c_iconst_m1 ?_
        exact rt_i R eX9_joint_34 h nb_int
    · replace h := ie hc h
      refine a_iconst C eX9_joint_9 (-1 : Int32) c_iconst_m1 ?_
      exact rt_i R eX9_joint_10 h nb_int
/-! ShelfDrives.keepAct()V -/
def XX9_keepAct (σ : Sg) : Option Sg := b1 (XX0_keep (σ 2 7) σ) (fun (σ_1 : Sg) => some σ_1)
theorem kX9_keepAct {ext : List Shp} {σ : Sg} {rr : Sg}  (h : XX9_keepAct σ = some rr) : Cv MX9_keepAct [.ref 0] (SHc ++ ext) σ rr := by
  refine Cv.start rfl rfl (Nat.le_of_ble_eq_true rfl) rfl ?_
  intro X ad C R
  replace C : Cx X cX9_keepAct 1 RX9 none { frames := 2, cells := 0, slots := 0, locals := 48 } := C
  replace R : Rv X cX9_keepAct ad (SHc ++ ext) rr := R
  show AW X 0 0 ad (SHc ++ ext) σ 0 [some (.ref 0)] []
  rw [XX9_keepAct] at h
  refine a_aload_n C eX9_keepAct_0 rfl ?_
  refine a_getR C eX9_keepAct_1 fX9_83 sh_0 rfl ?_
  refine a_aload_n C eX9_keepAct_4 rfl ?_
  refine a_getR C eX9_keepAct_5 fX9_59 sh_0 rfl ?_
  refine a_getR C eX9_keepAct_8 fX9_166 sh_38 rfl ?_
  refine a_aload_n C eX9_keepAct_11 rfl ?_
  refine a_getR C eX9_keepAct_12 fX9_20 sh_0 rfl ?_
  refine a_getI C eX9_keepAct_15 fX9_134 sh_2 rfl ?_
  obtain ⟨σ_1, hq, h⟩ := b1_e h
  refine a_cVv2 C eX9_keepAct_18 wX9_390 ⟨Nat.le_of_ble_eq_true rfl, Nat.le_of_ble_eq_true rfl, rfl, rfl⟩ rfl sh_61 rfl (kX0_keep hq) (Nat.le_of_ble_eq_true rfl) ?_
  exact rt_v R eX9_keepAct_21 h
/-! ShelfDrives.visit(II)I -/
def XX9_visit (p1 : Int32) (p2 : Int32) (σ : Sg) : Option (Int32 × Sg) := b1 (XX9_hasCell p1 p2 σ) (fun (r_1 : Int32) => if r_1 = 0 then (some ((-1 : Int32), σ)) else (b1 (XX9_keepAct σ) (fun (σ_2 : Sg) => if ib p1 6 then b1 (XX5_setVisits 38 p1 ((σ_2 39 p1.toNatClampNeg) ^^^ ((1 : Int32) <<< (p2 &&& 31))) σ_2) (fun (σ_4 : Sg) => some (((σ_4 39 p1.toNatClampNeg) >>> (p2 &&& 31)) &&& (1 : Int32), σ_4)) else none)))
theorem kX9_visit {ext : List Shp} {p1 : Int32} {p2 : Int32} {σ : Sg} {rr : (Int32 × Sg)}  (h : XX9_visit p1 p2 σ = some rr) : Ci MX9_visit [.ref 0, .int p1, .int p2] (SHc ++ ext) σ rr := by
  refine Ci.start rfl rfl (Nat.le_of_ble_eq_true rfl) ?_
  intro X ad C R
  replace C : Cx X cX9_visit 3 RX9 (some .int) { frames := 4, cells := 0, slots := 0, locals := 95 } := C
  replace R : Ri X cX9_visit (some .int) ad (SHc ++ ext) rr := R
  show AW X 0 0 ad (SHc ++ ext) σ 0 [some (.ref 0), some (.int p1), some (.int p2)] []
  rw [XX9_visit] at h
  refine a_aload_n C eX9_visit_0 rfl ?_
  refine a_iload_n C eX9_visit_1 rfl ?_
  refine a_iload_n C eX9_visit_2 rfl ?_
  obtain ⟨r_1, hq, h⟩ := b1_e h
  refine a_cVi2 C eX9_visit_3 wX9_172 ⟨Nat.le_of_ble_eq_true rfl, Nat.le_of_ble_eq_true rfl, rfl, rfl⟩ rfl sh_0 rfl (kX9_hasCell hq) (Nat.le_of_ble_eq_true rfl) ?_
  refine a_if_ne C eX9_visit_6 (fun hc => ?_) (fun hc => ?_)
  · replace h := ie hc h
    refine a_aload_n C eX9_visit_11 rfl ?_
    obtain ⟨σ_2, hq, h⟩ := b1_e h
    refine a_cVv0 C eX9_visit_12 wX9_329 ⟨Nat.le_of_ble_eq_true rfl, Nat.le_of_ble_eq_true rfl, rfl, rfl⟩ rfl sh_0 rfl (kX9_keepAct hq) (Nat.le_of_ble_eq_true rfl) ?_
    refine a_aload_n C eX9_visit_15 rfl ?_
    refine a_getR C eX9_visit_16 fX9_59 sh_0 rfl ?_
    refine a_iload_n C eX9_visit_19 rfl ?_
    refine a_aload_n C eX9_visit_20 rfl ?_
    refine a_getR C eX9_visit_21 fX9_59 sh_0 rfl ?_
    refine a_getR C eX9_visit_24 fX9_166 sh_38 rfl ?_
    refine a_iload_n C eX9_visit_27 rfl ?_
    obtain ⟨hb_3, h⟩ := gd h
    refine a_iald C eX9_visit_28 sh_39 hb_3 ?_
    refine a_iconst C eX9_visit_29 (1 : Int32) c_iconst_1 ?_
    refine a_iload_n C eX9_visit_30 rfl ?_
    refine a_ishl C eX9_visit_31 ?_
    refine a_ixor C eX9_visit_32 ?_
    obtain ⟨σ_4, hq, h⟩ := b1_e h
    refine a_cVv2 C eX9_visit_33 wX9_279 ⟨Nat.le_of_ble_eq_true rfl, Nat.le_of_ble_eq_true rfl, rfl, rfl⟩ rfl sh_38 rfl (kX5_setVisits is_X5_38 hq) (Nat.le_of_ble_eq_true rfl) ?_
    refine a_aload_n C eX9_visit_36 rfl ?_
    refine a_getR C eX9_visit_37 fX9_59 sh_0 rfl ?_
    refine a_getR C eX9_visit_40 fX9_166 sh_38 rfl ?_
    refine a_iload_n C eX9_visit_43 rfl ?_
    refine a_iald C eX9_visit_44 sh_39 hb_3 ?_
    refine a_iload_n C eX9_visit_45 rfl ?_
    refine a_ishr C eX9_visit_46 ?_
    refine a_iconst C eX9_visit_47 (1 : Int32) c_iconst_1 ?_
    refine a_iand C eX9_visit_48 ?_
    exact rt_i R eX9_visit_49 h nb_int
  · replace h := it hc h
    refine a_iconst C eX9_visit_9 (-1 : Int32) c_iconst_m1 ?_
    exact rt_i R eX9_visit_10 h nb_int
/-! ShelfDrives.rule(I)I -/
def XX9_rule (p1 : Int32) (σ : Sg) : Option (Int32 × Sg) := if p1 < 0 then (some ((-1 : Int32), σ)) else (if p1 < (14 : Int32) then (b1 (XX9_keepAct σ) (fun (σ_1 : Sg) => b1 (XX3_visitByRule p1 σ_1) (fun (σ_2 : Sg) => b1 (XX5_countVisits 38 σ_2) (fun (r_3 : Int32) => some (r_3, σ_2))))) else (some ((-1 : Int32), σ)))
theorem kX9_rule {ext : List Shp} {p1 : Int32} {σ : Sg} {rr : (Int32 × Sg)}  (h : XX9_rule p1 σ = some rr) : Ci MX9_rule [.ref 0, .int p1] (SHc ++ ext) σ rr := by
  refine Ci.start rfl rfl (Nat.le_of_ble_eq_true rfl) ?_
  intro X ad C R
  replace C : Cx X cX9_rule 2 RX9 (some .int) { frames := 6, cells := 0, slots := 0, locals := 145 } := C
  replace R : Ri X cX9_rule (some .int) ad (SHc ++ ext) rr := R
  show AW X 0 0 ad (SHc ++ ext) σ 0 [some (.ref 0), some (.int p1)] []
  rw [XX9_rule] at h
  refine a_iload_n C eX9_rule_0 rfl ?_
  refine a_if_lt C eX9_rule_1 (fun hc => ?_) (fun hc => ?_)
  · replace h := it hc h
    refine a_iconst C eX9_rule_10 (-1 : Int32) c_iconst_m1 ?_
    exact rt_i R eX9_rule_11 h nb_int
  · replace h := ie hc h
    refine a_iload_n C eX9_rule_4 rfl ?_
    refine a_bipush C eX9_rule_5 (14 : Int32) c_bipush_14 ?_
    refine a_icmp_lt C eX9_rule_7 (fun hc => ?_) (fun hc => ?_)
    · replace h := it hc h
      refine a_aload_n C eX9_rule_12 rfl ?_
      obtain ⟨σ_1, hq, h⟩ := b1_e h
      refine a_cVv0 C eX9_rule_13 wX9_329 ⟨Nat.le_of_ble_eq_true rfl, Nat.le_of_ble_eq_true rfl, rfl, rfl⟩ rfl sh_0 rfl (kX9_keepAct hq) (Nat.le_of_ble_eq_true rfl) ?_
      refine a_aload_n C eX9_rule_16 rfl ?_
      refine a_getR C eX9_rule_17 fX9_69 sh_0 rfl ?_
      refine a_aload_n C eX9_rule_20 rfl ?_
      refine a_getR C eX9_rule_21 fX9_59 sh_0 rfl ?_
      refine a_iload_n C eX9_rule_24 rfl ?_
      obtain ⟨σ_2, hq, h⟩ := b1_e h
      refine a_cVv2 C eX9_rule_25 wX9_332 ⟨Nat.le_of_ble_eq_true rfl, Nat.le_of_ble_eq_true rfl, rfl, rfl⟩ rfl sh_54 rfl (kX3_visitByRule hq) (Nat.le_of_ble_eq_true rfl) ?_
      refine a_aload_n C eX9_rule_28 rfl ?_
      refine a_getR C eX9_rule_29 fX9_59 sh_0 rfl ?_
      obtain ⟨r_3, hq, h⟩ := b1_e h
      refine a_cVi0 C eX9_rule_32 wX9_335 ⟨Nat.le_of_ble_eq_true rfl, Nat.le_of_ble_eq_true rfl, rfl, rfl⟩ rfl sh_38 rfl (kX5_countVisits is_X5_38 hq) (Nat.le_of_ble_eq_true rfl) ?_
      exact rt_i R eX9_rule_35 h nb_int
    · replace h := ie hc h
      refine a_iconst C eX9_rule_10 (-1 : Int32) c_iconst_m1 ?_
      exact rt_i R eX9_rule_11 h nb_int
/-! ShelfDrives.adoptTrial(I)V -/
def XX9_adoptTrial (p1 : Int32) (σ : Sg) : Option Sg := if p1 ≤ 0 then (some σ) else (b1 (XX9_keepAct σ) (fun (σ_1 : Sg) => b1 (XX5_takeOver 38 46 σ_1) (fun (σ_2 : Sg) => some σ_2)))
theorem kX9_adoptTrial {ext : List Shp} {p1 : Int32} {σ : Sg} {rr : Sg}  (h : XX9_adoptTrial p1 σ = some rr) : Cv MX9_adoptTrial [.ref 0, .int p1] (SHc ++ ext) σ rr := by
  refine Cv.start rfl rfl (Nat.le_of_ble_eq_true rfl) rfl ?_
  intro X ad C R
  replace C : Cx X cX9_adoptTrial 2 RX9 none { frames := 3, cells := 0, slots := 0, locals := 68 } := C
  replace R : Rv X cX9_adoptTrial ad (SHc ++ ext) rr := R
  show AW X 0 0 ad (SHc ++ ext) σ 0 [some (.ref 0), some (.int p1)] []
  rw [XX9_adoptTrial] at h
  refine a_iload_n C eX9_adoptTrial_0 rfl ?_
  refine a_if_le C eX9_adoptTrial_1 (fun hc => ?_) (fun hc => ?_)
  · replace h := it hc h
    exact rt_v R eX9_adoptTrial_19 h
  · replace h := ie hc h
    refine a_aload_n C eX9_adoptTrial_4 rfl ?_
    obtain ⟨σ_1, hq, h⟩ := b1_e h
    refine a_cVv0 C eX9_adoptTrial_5 wX9_329 ⟨Nat.le_of_ble_eq_true rfl, Nat.le_of_ble_eq_true rfl, rfl, rfl⟩ rfl sh_0 rfl (kX9_keepAct hq) (Nat.le_of_ble_eq_true rfl) ?_
    refine a_aload_n C eX9_adoptTrial_8 rfl ?_
    refine a_getR C eX9_adoptTrial_9 fX9_59 sh_0 rfl ?_
    refine a_aload_n C eX9_adoptTrial_12 rfl ?_
    refine a_getR C eX9_adoptTrial_13 fX9_63 sh_0 rfl ?_
    obtain ⟨σ_2, hq, h⟩ := b1_e h
    refine a_cVv1 C eX9_adoptTrial_16 wX9_276 ⟨Nat.le_of_ble_eq_true rfl, Nat.le_of_ble_eq_true rfl, rfl, rfl⟩ rfl sh_38 rfl (kX5_takeOver is_X5_38 is_X5_46 hq) (Nat.le_of_ble_eq_true rfl) ?_
    exact rt_v R eX9_adoptTrial_19 h
/-! ShelfDrives.better(I)I -/
def LX9_better_26 (p1 : Int32) (k51_4 : Int32 → Sg → Option (Int32 × Sg)) : Nat → Int32 → Sg → Option (Int32 × Sg)
  | 0, _, _ => none
  | n + 1, x2_6, σ_7 => if p1 ≤ x2_6 then (k51_4 x2_6 σ_7) else (b2 (XX3_moveOne σ_7) (fun (r_8 : Int32) (σ_9 : Sg) => if r_8 = 0 then (k51_4 x2_6 σ_9) else (lt (x2_6 + (1 : Int32)) (fun (x2_10 : Int32) => LX9_better_26 p1 k51_4 n x2_10 σ_9))))
def XX9_better (p1 : Int32) (σ : Sg) : Option (Int32 × Sg) := if p1 < (1 : Int32) then (some ((-1 : Int32), σ)) else (if p1 ≤ (40 : Int32) then (b1 (XX5_takeOver 46 38 σ) (fun (σ_1 : Sg) => lt (fun (x2_2 : Int32) (σ_3 : Sg) => b1 (XX9_adoptTrial x2_2 σ_3) (fun (σ_5 : Sg) => some (x2_2, σ_5))) (fun (k51_4 : Int32 → Sg → Option (Int32 × Sg)) => LX9_better_26 p1 k51_4 FUEL (0 : Int32) σ_1))) else (some ((-1 : Int32), σ)))
theorem lX9_better_26 {ext : List Shp} {X : CT} {ad : Nat → Nat} {rr : (Int32 × Sg)} {p1 : Int32} {k51_4 : Int32 → Sg → Option (Int32 × Sg)}  (C : Cx X cX9_better 3 RX9 (some .int) { frames := 6, cells := 0, slots := 0, locals := 146 }) (R : Ri X cX9_better (some .int) ad (SHc ++ ext) rr) (hk51_4 : ∀ (x2_2 : Int32) (σ_3 : Sg), k51_4 x2_2 σ_3 = some rr → AW X 0 0 ad (SHc ++ ext) σ_3 51 [some (.ref 0), none, some (.int x2_2)] []) : ∀ (n : Nat) (x2_6 : Int32) (σ_7 : Sg), LX9_better_26 p1 k51_4 n x2_6 σ_7 = some rr → AW X 0 0 ad (SHc ++ ext) σ_7 26 [some (.ref 0), some (.int p1), some (.int x2_6)] [] := by
  intro n
  induction n with
  | zero =>
    intro x2_6 σ_7 h
    rw [LX9_better_26] at h
    cases h
  | succ n ih =>
    intro x2_6 σ_7 h
    rw [LX9_better_26] at h
    refine a_iload_n C eX9_better_26 rfl ?_
    refine a_iload_n C eX9_better_27 rfl ?_
    refine a_icmp_ge C eX9_better_28 (fun hc => ?_) (fun hc => ?_)
    · replace h := it hc h
      exact a_less (lle_same (lle_drop (lle_same lle_nil))) (hk51_4 _ _ h)
    · replace h := ie hc h
      refine a_aload_n C eX9_better_31 rfl ?_
      refine a_getR C eX9_better_32 fX9_69 sh_0 rfl ?_
      refine a_aload_n C eX9_better_35 rfl ?_
      refine a_getR C eX9_better_36 fX9_63 sh_0 rfl ?_
      obtain ⟨r_8, σ_9, hq, h⟩ := b2_e h
      refine a_cVi1 C eX9_better_39 wX9_338 ⟨Nat.le_of_ble_eq_true rfl, Nat.le_of_ble_eq_true rfl, rfl, rfl⟩ rfl sh_54 rfl (kX3_moveOne hq) (Nat.le_of_ble_eq_true rfl) ?_
      refine a_if_eq C eX9_better_42 (fun hc => ?_) (fun hc => ?_)
      · replace h := it hc h
        exact a_less (lle_same (lle_drop (lle_same lle_nil))) (hk51_4 _ _ h)
      · replace h := ie hc h
        refine a_inc C eX9_better_45 rfl c_iconst_1 h (fun z => [some (.ref 0), some (.int p1), some (.int z)]) (fun _ => rfl) (fun x2_10 h => ?_)
        refine a_goto C eX9_better_48 ?_
        exact a_less (lle_same (lle_same (lle_same lle_nil))) (ih _ _ h)
theorem kX9_better {ext : List Shp} {p1 : Int32} {σ : Sg} {rr : (Int32 × Sg)}  (h : XX9_better p1 σ = some rr) : Ci MX9_better [.ref 0, .int p1] (SHc ++ ext) σ rr := by
  refine Ci.start rfl rfl (Nat.le_of_ble_eq_true rfl) ?_
  intro X ad C R
  replace C : Cx X cX9_better 3 RX9 (some .int) { frames := 6, cells := 0, slots := 0, locals := 146 } := C
  replace R : Ri X cX9_better (some .int) ad (SHc ++ ext) rr := R
  show AW X 0 0 ad (SHc ++ ext) σ 0 [some (.ref 0), some (.int p1), none] []
  rw [XX9_better] at h
  refine a_iload_n C eX9_better_0 rfl ?_
  refine a_iconst C eX9_better_1 (1 : Int32) c_iconst_1 ?_
  refine a_icmp_lt C eX9_better_2 (fun hc => ?_) (fun hc => ?_)
  · replace h := it hc h
    refine a_iconst C eX9_better_11 (-1 : Int32) c_iconst_m1 ?_
    exact rt_i R eX9_better_12 h nb_int
  · replace h := ie hc h
    refine a_iload_n C eX9_better_5 rfl ?_
    refine a_bipush C eX9_better_6 (40 : Int32) c_bipush_40 ?_
    refine a_icmp_le C eX9_better_8 (fun hc => ?_) (fun hc => ?_)
    · replace h := it hc h
      refine a_aload_n C eX9_better_13 rfl ?_
      refine a_getR C eX9_better_14 fX9_63 sh_0 rfl ?_
      refine a_aload_n C eX9_better_17 rfl ?_
      refine a_getR C eX9_better_18 fX9_59 sh_0 rfl ?_
      obtain ⟨σ_1, hq, h⟩ := b1_e h
      refine a_cVv1 C eX9_better_21 wX9_276 ⟨Nat.le_of_ble_eq_true rfl, Nat.le_of_ble_eq_true rfl, rfl, rfl⟩ rfl sh_46 rfl (kX5_takeOver is_X5_46 is_X5_38 hq) (Nat.le_of_ble_eq_true rfl) ?_
      refine a_iconst C eX9_better_24 (0 : Int32) c_iconst_0 ?_
      refine a_ist_n C eX9_better_25 (Nat.le_of_ble_eq_true rfl) [some (.ref 0), some (.int p1), some (.int (0 : Int32))] rfl ?_
      refine jn (fun (kk : Int32 → Sg → Option (Int32 × Sg)) => ∀ (x2_2 : Int32) (σ_3 : Sg), kk x2_2 σ_3 = some rr → AW X 0 0 ad (SHc ++ ext) σ_3 51 [some (.ref 0), none, some (.int x2_2)] []) h ?_ (fun k51_4 hk51_4 h => ?_)
      · intro x2_2 σ_3 h
        refine a_aload_n C eX9_better_51 rfl ?_
        refine a_iload_n C eX9_better_52 rfl ?_
        obtain ⟨σ_5, hq, h⟩ := b1_e h
        refine a_cVv1 C eX9_better_53 wX9_342 ⟨Nat.le_of_ble_eq_true rfl, Nat.le_of_ble_eq_true rfl, rfl, rfl⟩ rfl sh_0 rfl (kX9_adoptTrial hq) (Nat.le_of_ble_eq_true rfl) ?_
        refine a_iload_n C eX9_better_56 rfl ?_
        exact rt_i R eX9_better_57 h nb_int
      exact a_less (lle_same (lle_same (lle_same lle_nil))) (lX9_better_26  C R hk51_4 _ _ _ h)
    · replace h := ie hc h
      refine a_iconst C eX9_better_11 (-1 : Int32) c_iconst_m1 ?_
      exact rt_i R eX9_better_12 h nb_int
/-! ShelfDrives.tune(I)I -/
def LX9_tune_26 (p1 : Int32) (k51_4 : Int32 → Sg → Option (Int32 × Sg)) : Nat → Int32 → Sg → Option (Int32 × Sg)
  | 0, _, _ => none
  | n + 1, x2_6, σ_7 => if p1 ≤ x2_6 then (k51_4 x2_6 σ_7) else (b2 (XX3_turnOne σ_7) (fun (r_8 : Int32) (σ_9 : Sg) => if r_8 = 0 then (k51_4 x2_6 σ_9) else (lt (x2_6 + (1 : Int32)) (fun (x2_10 : Int32) => LX9_tune_26 p1 k51_4 n x2_10 σ_9))))
def XX9_tune (p1 : Int32) (σ : Sg) : Option (Int32 × Sg) := if p1 < (1 : Int32) then (some ((-1 : Int32), σ)) else (if p1 ≤ (40 : Int32) then (b1 (XX5_takeOver 46 38 σ) (fun (σ_1 : Sg) => lt (fun (x2_2 : Int32) (σ_3 : Sg) => b1 (XX9_adoptTrial x2_2 σ_3) (fun (σ_5 : Sg) => some (x2_2, σ_5))) (fun (k51_4 : Int32 → Sg → Option (Int32 × Sg)) => LX9_tune_26 p1 k51_4 FUEL (0 : Int32) σ_1))) else (some ((-1 : Int32), σ)))
theorem lX9_tune_26 {ext : List Shp} {X : CT} {ad : Nat → Nat} {rr : (Int32 × Sg)} {p1 : Int32} {k51_4 : Int32 → Sg → Option (Int32 × Sg)}  (C : Cx X cX9_tune 3 RX9 (some .int) { frames := 6, cells := 0, slots := 0, locals := 145 }) (R : Ri X cX9_tune (some .int) ad (SHc ++ ext) rr) (hk51_4 : ∀ (x2_2 : Int32) (σ_3 : Sg), k51_4 x2_2 σ_3 = some rr → AW X 0 0 ad (SHc ++ ext) σ_3 51 [some (.ref 0), none, some (.int x2_2)] []) : ∀ (n : Nat) (x2_6 : Int32) (σ_7 : Sg), LX9_tune_26 p1 k51_4 n x2_6 σ_7 = some rr → AW X 0 0 ad (SHc ++ ext) σ_7 26 [some (.ref 0), some (.int p1), some (.int x2_6)] [] := by
  intro n
  induction n with
  | zero =>
    intro x2_6 σ_7 h
    rw [LX9_tune_26] at h
    cases h
  | succ n ih =>
    intro x2_6 σ_7 h
    rw [LX9_tune_26] at h
    refine a_iload_n C eX9_tune_26 rfl ?_
    refine a_iload_n C eX9_tune_27 rfl ?_
    refine a_icmp_ge C eX9_tune_28 (fun hc => ?_) (fun hc => ?_)
    · replace h := it hc h
      exact a_less (lle_same (lle_drop (lle_same lle_nil))) (hk51_4 _ _ h)
    · replace h := ie hc h
      refine a_aload_n C eX9_tune_31 rfl ?_
      refine a_getR C eX9_tune_32 fX9_69 sh_0 rfl ?_
      refine a_aload_n C eX9_tune_35 rfl ?_
      refine a_getR C eX9_tune_36 fX9_63 sh_0 rfl ?_
      obtain ⟨r_8, σ_9, hq, h⟩ := b2_e h
      refine a_cVi1 C eX9_tune_39 wX9_345 ⟨Nat.le_of_ble_eq_true rfl, Nat.le_of_ble_eq_true rfl, rfl, rfl⟩ rfl sh_54 rfl (kX3_turnOne hq) (Nat.le_of_ble_eq_true rfl) ?_
      refine a_if_eq C eX9_tune_42 (fun hc => ?_) (fun hc => ?_)
      · replace h := it hc h
        exact a_less (lle_same (lle_drop (lle_same lle_nil))) (hk51_4 _ _ h)
      · replace h := ie hc h
        refine a_inc C eX9_tune_45 rfl c_iconst_1 h (fun z => [some (.ref 0), some (.int p1), some (.int z)]) (fun _ => rfl) (fun x2_10 h => ?_)
        refine a_goto C eX9_tune_48 ?_
        exact a_less (lle_same (lle_same (lle_same lle_nil))) (ih _ _ h)
theorem kX9_tune {ext : List Shp} {p1 : Int32} {σ : Sg} {rr : (Int32 × Sg)}  (h : XX9_tune p1 σ = some rr) : Ci MX9_tune [.ref 0, .int p1] (SHc ++ ext) σ rr := by
  refine Ci.start rfl rfl (Nat.le_of_ble_eq_true rfl) ?_
  intro X ad C R
  replace C : Cx X cX9_tune 3 RX9 (some .int) { frames := 6, cells := 0, slots := 0, locals := 145 } := C
  replace R : Ri X cX9_tune (some .int) ad (SHc ++ ext) rr := R
  show AW X 0 0 ad (SHc ++ ext) σ 0 [some (.ref 0), some (.int p1), none] []
  rw [XX9_tune] at h
  refine a_iload_n C eX9_tune_0 rfl ?_
  refine a_iconst C eX9_tune_1 (1 : Int32) c_iconst_1 ?_
  refine a_icmp_lt C eX9_tune_2 (fun hc => ?_) (fun hc => ?_)
  · replace h := it hc h
    refine a_iconst C eX9_tune_11 (-1 : Int32) c_iconst_m1 ?_
    exact rt_i R eX9_tune_12 h nb_int
  · replace h := ie hc h
    refine a_iload_n C eX9_tune_5 rfl ?_
    refine a_bipush C eX9_tune_6 (40 : Int32) c_bipush_40 ?_
    refine a_icmp_le C eX9_tune_8 (fun hc => ?_) (fun hc => ?_)
    · replace h := it hc h
      refine a_aload_n C eX9_tune_13 rfl ?_
      refine a_getR C eX9_tune_14 fX9_63 sh_0 rfl ?_
      refine a_aload_n C eX9_tune_17 rfl ?_
      refine a_getR C eX9_tune_18 fX9_59 sh_0 rfl ?_
      obtain ⟨σ_1, hq, h⟩ := b1_e h
      refine a_cVv1 C eX9_tune_21 wX9_276 ⟨Nat.le_of_ble_eq_true rfl, Nat.le_of_ble_eq_true rfl, rfl, rfl⟩ rfl sh_46 rfl (kX5_takeOver is_X5_46 is_X5_38 hq) (Nat.le_of_ble_eq_true rfl) ?_
      refine a_iconst C eX9_tune_24 (0 : Int32) c_iconst_0 ?_
      refine a_ist_n C eX9_tune_25 (Nat.le_of_ble_eq_true rfl) [some (.ref 0), some (.int p1), some (.int (0 : Int32))] rfl ?_
      refine jn (fun (kk : Int32 → Sg → Option (Int32 × Sg)) => ∀ (x2_2 : Int32) (σ_3 : Sg), kk x2_2 σ_3 = some rr → AW X 0 0 ad (SHc ++ ext) σ_3 51 [some (.ref 0), none, some (.int x2_2)] []) h ?_ (fun k51_4 hk51_4 h => ?_)
      · intro x2_2 σ_3 h
        refine a_aload_n C eX9_tune_51 rfl ?_
        refine a_iload_n C eX9_tune_52 rfl ?_
        obtain ⟨σ_5, hq, h⟩ := b1_e h
        refine a_cVv1 C eX9_tune_53 wX9_342 ⟨Nat.le_of_ble_eq_true rfl, Nat.le_of_ble_eq_true rfl, rfl, rfl⟩ rfl sh_0 rfl (kX9_adoptTrial hq) (Nat.le_of_ble_eq_true rfl) ?_
        refine a_iload_n C eX9_tune_56 rfl ?_
        exact rt_i R eX9_tune_57 h nb_int
      exact a_less (lle_same (lle_same (lle_same lle_nil))) (lX9_tune_26  C R hk51_4 _ _ _ h)
    · replace h := ie hc h
      refine a_iconst C eX9_tune_11 (-1 : Int32) c_iconst_m1 ?_
      exact rt_i R eX9_tune_12 h nb_int
