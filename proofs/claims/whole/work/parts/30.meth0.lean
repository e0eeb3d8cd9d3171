/-! ShelfDrives$Acts.forget()V -/
def XX0_forget (σ : Sg) : Option Sg := lt (up σ 61 0 (0 : Int32)) (fun (σ_1 : Sg) => some σ_1)
theorem kX0_forget {ext : List Shp} {σ : Sg} {rr : Sg}  (h : XX0_forget σ = some rr) : Cv MX0_forget [.ref 61] (SHc ++ ext) σ rr := by
  refine Cv.start rfl rfl (Nat.le_of_ble_eq_true rfl) rfl ?_
  intro X ad C R
  replace C : Cx X cX0_forget 1 RX0 none { frames := 0, cells := 0, slots := 0, locals := 0 } := C
  replace R : Rv X cX0_forget ad (SHc ++ ext) rr := R
  show AW X 0 0 ad (SHc ++ ext) σ 0 [some (.ref 61)] []
  rw [XX0_forget] at h
  refine a_aload_n C eX0_forget_0 rfl ?_
  refine a_iconst C eX0_forget_1 (0 : Int32) c_iconst_0 ?_
  refine a_putIL C eX0_forget_2 fX0_9 ftyX0 rfl rfl sh_61 rfl h (fun σ_1 h => ?_)
  exact rt_v R eX0_forget_5 h
/-! ShelfDrives$Acts.keep([II)V -/
def XX0_keep (p1 : Int32) (σ : Sg) : Option Sg := lt (fun (σ_1 : Sg) => if ¬ (0 : Int32) < 0 ∧ ¬ ((σ_1 61 0) * (7 : Int32)) < 0 ∧ ¬ (6 : Int32) < 0 ∧ (0 : Int32).toNatClampNeg + (6 : Int32).toNatClampNeg ≤ 6 ∧ ((σ_1 61 0) * (7 : Int32)).toNatClampNeg + (6 : Int32).toNatClampNeg ≤ 84 then lt (cpy σ_1 39 62 (0 : Int32).toNatClampNeg ((σ_1 61 0) * (7 : Int32)).toNatClampNeg (6 : Int32).toNatClampNeg) (fun (σ_3 : Sg) => if ib (((σ_3 61 0) * (7 : Int32)) + (6 : Int32)) 84 then lt (up σ_3 62 (((σ_3 61 0) * (7 : Int32)) + (6 : Int32)).toNatClampNeg p1) (fun (σ_5 : Sg) => lt (up σ_5 61 0 ((σ_5 61 0) + (1 : Int32))) (fun (σ_7 : Sg) => some σ_7)) else none) else none) (fun (k35_2 : Sg → Option Sg) => if (σ 61 0) = (12 : Int32) then (lt (cpy σ 62 62 (7 : Int32).toNatClampNeg (0 : Int32).toNatClampNeg (77 : Int32).toNatClampNeg) (fun (σ_8 : Sg) => lt (up σ_8 61 0 ((σ_8 61 0) - (1 : Int32))) (fun (σ_9 : Sg) => k35_2 σ_9))) else (k35_2 σ))
theorem kX0_keep {ext : List Shp} {p1 : Int32} {σ : Sg} {rr : Sg}  (h : XX0_keep p1 σ = some rr) : Cv MX0_keep [.ref 61, .ref 39, .int p1] (SHc ++ ext) σ rr := by
  refine Cv.start rfl rfl (Nat.le_of_ble_eq_true rfl) rfl ?_
  intro X ad C R
  replace C : Cx X cX0_keep 3 RX0 none { frames := 1, cells := 0, slots := 0, locals := 26 } := C
  replace R : Rv X cX0_keep ad (SHc ++ ext) rr := R
  show AW X 0 0 ad (SHc ++ ext) σ 0 [some (.ref 61), some (.ref 39), some (.int p1)] []
  rw [XX0_keep] at h
  refine a_aload_n C eX0_keep_0 rfl ?_
  refine a_getI C eX0_keep_1 fX0_9 sh_61 rfl ?_
  refine a_bipush C eX0_keep_4 (12 : Int32) c_bipush_12 ?_
  refine jn (fun (kk : Sg → Option Sg) => ∀ (σ_1 : Sg), kk σ_1 = some rr → AW X 0 0 ad (SHc ++ ext) σ_1 35 [some (.ref 61), some (.ref 39), some (.int p1)] []) h ?_ (fun k35_2 hk35_2 h => ?_)
  · intro σ_1 h
    refine a_aload_n C eX0_keep_35 rfl ?_
    refine a_iconst C eX0_keep_36 (0 : Int32) c_iconst_0 ?_
    refine a_aload_n C eX0_keep_37 rfl ?_
    refine a_getR C eX0_keep_38 fX0_15 sh_61 rfl ?_
    refine a_aload_n C eX0_keep_41 rfl ?_
    refine a_getI C eX0_keep_42 fX0_9 sh_61 rfl ?_
    refine a_bipush C eX0_keep_45 (7 : Int32) c_bipush_7 ?_
    refine a_imul C eX0_keep_47 ?_
    refine a_bipush C eX0_keep_48 (6 : Int32) c_bipush_6 ?_
    obtain ⟨hg_4, h⟩ := gd h
    refine a_acopy C eX0_keep_50 wX0_19 ⟨Nat.le_of_ble_eq_true rfl, Nat.le_of_ble_eq_true rfl⟩ rfl (Nat.le_of_ble_eq_true rfl) sh_39 sh_62 hg_4 h (fun σ_3 h => ?_)
    refine a_aload_n C eX0_keep_53 rfl ?_
    refine a_getR C eX0_keep_54 fX0_15 sh_61 rfl ?_
    refine a_aload_n C eX0_keep_57 rfl ?_
    refine a_getI C eX0_keep_58 fX0_9 sh_61 rfl ?_
    refine a_bipush C eX0_keep_61 (7 : Int32) c_bipush_7 ?_
    refine a_imul C eX0_keep_63 ?_
    refine a_bipush C eX0_keep_64 (6 : Int32) c_bipush_6 ?_
    refine a_iadd C eX0_keep_66 ?_
    refine a_iload_n C eX0_keep_67 rfl ?_
    obtain ⟨hb_6, h⟩ := gd h
    refine a_iastL C eX0_keep_68 sh_62 hb_6 h (fun σ_5 h => ?_)
    refine a_aload_n C eX0_keep_69 rfl ?_
    refine a_dup C eX0_keep_70 rfl ?_
    refine a_getI C eX0_keep_71 fX0_9 sh_61 rfl ?_
    refine a_iconst C eX0_keep_74 (1 : Int32) c_iconst_1 ?_
    refine a_iadd C eX0_keep_75 ?_
    refine a_putIL C eX0_keep_76 fX0_9 ftyX0 rfl rfl sh_61 rfl h (fun σ_7 h => ?_)
    exact rt_v R eX0_keep_79 h
  refine a_icmp_ne C eX0_keep_6 (fun hc => ?_) (fun hc => ?_)
  · replace h := ie hc h
    exact a_less (lle_same (lle_same (lle_same lle_nil))) (hk35_2 _ h)
  · replace h := it hc h
    refine a_aload_n C eX0_keep_9 rfl ?_
    refine a_getR C eX0_keep_10 fX0_15 sh_61 rfl ?_
    refine a_bipush C eX0_keep_13 (7 : Int32) c_bipush_7 ?_
    refine a_aload_n C eX0_keep_15 rfl ?_
    refine a_getR C eX0_keep_16 fX0_15 sh_61 rfl ?_
    refine a_iconst C eX0_keep_19 (0 : Int32) c_iconst_0 ?_
    refine a_bipush C eX0_keep_20 (77 : Int32) c_bipush_77 ?_
    refine a_acopy C eX0_keep_22 wX0_19 ⟨Nat.le_of_ble_eq_true rfl, Nat.le_of_ble_eq_true rfl⟩ rfl (Nat.le_of_ble_eq_true rfl) sh_62 sh_62 ⟨by decide, by decide, by decide, by decide, by decide⟩ h (fun σ_8 h => ?_)
    refine a_aload_n C eX0_keep_25 rfl ?_
    refine a_dup C eX0_keep_26 rfl ?_
    refine a_getI C eX0_keep_27 fX0_9 sh_61 rfl ?_
    refine a_iconst C eX0_keep_30 (1 : Int32) c_iconst_1 ?_
    refine a_isub C eX0_keep_31 ?_
    refine a_putIL C eX0_keep_32 fX0_9 ftyX0 rfl rfl sh_61 rfl h (fun σ_9 h => ?_)
    exact a_less (lle_same (lle_same (lle_same lle_nil))) (hk35_2 _ h)
/-! ShelfDrives$Acts.takeBack()Z -/
def XX0_takeBack (σ : Sg) : Option (Int32 × Sg) := if (σ 61 0) = 0 then (some ((0 : Int32), σ)) else (lt (up σ 61 0 ((σ 61 0) - (1 : Int32))) (fun (σ_1 : Sg) => some ((1 : Int32), σ_1)))
theorem kX0_takeBack {ext : List Shp} {σ : Sg} {rr : (Int32 × Sg)}  (h : XX0_takeBack σ = some rr) : Ci MX0_takeBack [.ref 61] (SHc ++ ext) σ rr := by
  refine Ci.start rfl rfl (Nat.le_of_ble_eq_true rfl) ?_
  intro X ad C R
  replace C : Cx X cX0_takeBack 1 RX0 (some .boolean) { frames := 0, cells := 0, slots := 0, locals := 0 } := C
  replace R : Ri X cX0_takeBack (some .boolean) ad (SHc ++ ext) rr := R
  show AW X 0 0 ad (SHc ++ ext) σ 0 [some (.ref 61)] []
  rw [XX0_takeBack] at h
  refine a_aload_n C eX0_takeBack_0 rfl ?_
  refine a_getI C eX0_takeBack_1 fX0_9 sh_61 rfl ?_
  refine a_if_ne C eX0_takeBack_4 (fun hc => ?_) (fun hc => ?_)
  · replace h := ie hc h
    refine a_aload_n C eX0_takeBack_9 rfl ?_
    refine a_dup C eX0_takeBack_10 rfl ?_
    refine a_getI C eX0_takeBack_11 fX0_9 sh_61 rfl ?_
    refine a_iconst C eX0_takeBack_14 (1 : Int32) c_iconst_1 ?_
    refine a_isub C eX0_takeBack_15 ?_
    refine a_putIL C eX0_takeBack_16 fX0_9 ftyX0 rfl rfl sh_61 rfl h (fun σ_1 h => ?_)
    refine a_iconst C eX0_takeBack_19 (1 : Int32) c_iconst_1 ?_
    exact rt_i R eX0_takeBack_20 h nb_1
  · replace h := it hc h
    refine a_iconst C eX0_takeBack_7 (0 : Int32) c_iconst_0 ?_
    exact rt_i R eX0_takeBack_8 h nb_0
/-! ShelfDrives$Acts.visitsBefore(I)I -/
def XX0_visitsBefore (p1 : Int32) (σ : Sg) : Option Int32 := if ib (((σ 61 0) * (7 : Int32)) + p1) 84 then some (σ 62 (((σ 61 0) * (7 : Int32)) + p1).toNatClampNeg) else none
theorem kX0_visitsBefore {ext : List Shp} {p1 : Int32} {σ : Sg} {rr : Int32}  (h : XX0_visitsBefore p1 σ = some rr) : Ci MX0_visitsBefore [.ref 61, .int p1] (SHc ++ ext) σ (rr, σ) := by
  refine Ci.start rfl rfl (Nat.le_of_ble_eq_true rfl) ?_
  intro X ad C R
  replace C : Cx X cX0_visitsBefore 2 RX0 (some .int) { frames := 0, cells := 0, slots := 0, locals := 0 } := C
  replace R : Ri X cX0_visitsBefore (some .int) ad (SHc ++ ext) (rr, σ) := R
  show AW X 0 0 ad (SHc ++ ext) σ 0 [some (.ref 61), some (.int p1)] []
  rw [XX0_visitsBefore] at h
  refine a_aload_n C eX0_visitsBefore_0 rfl ?_
  refine a_getR C eX0_visitsBefore_1 fX0_15 sh_61 rfl ?_
  refine a_aload_n C eX0_visitsBefore_4 rfl ?_
  refine a_getI C eX0_visitsBefore_5 fX0_9 sh_61 rfl ?_
  refine a_bipush C eX0_visitsBefore_8 (7 : Int32) c_bipush_7 ?_
  refine a_imul C eX0_visitsBefore_10 ?_
  refine a_iload_n C eX0_visitsBefore_11 rfl ?_
  refine a_iadd C eX0_visitsBefore_12 ?_
  obtain ⟨hb_1, h⟩ := gd h
  refine a_iald C eX0_visitsBefore_13 sh_62 hb_1 ?_
  exact rt_p R eX0_visitsBefore_14 h nb_int
/-! ShelfDrives$Acts.rushesBefore()I -/
def XX0_rushesBefore (σ : Sg) : Option Int32 := if ib (((σ 61 0) * (7 : Int32)) + (6 : Int32)) 84 then some (σ 62 (((σ 61 0) * (7 : Int32)) + (6 : Int32)).toNatClampNeg) else none
theorem kX0_rushesBefore {ext : List Shp} {σ : Sg} {rr : Int32}  (h : XX0_rushesBefore σ = some rr) : Ci MX0_rushesBefore [.ref 61] (SHc ++ ext) σ (rr, σ) := by
  refine Ci.start rfl rfl (Nat.le_of_ble_eq_true rfl) ?_
  intro X ad C R
  replace C : Cx X cX0_rushesBefore 1 RX0 (some .int) { frames := 0, cells := 0, slots := 0, locals := 0 } := C
  replace R : Ri X cX0_rushesBefore (some .int) ad (SHc ++ ext) (rr, σ) := R
  show AW X 0 0 ad (SHc ++ ext) σ 0 [some (.ref 61)] []
  rw [XX0_rushesBefore] at h
  refine a_aload_n C eX0_rushesBefore_0 rfl ?_
  refine a_getR C eX0_rushesBefore_1 fX0_15 sh_61 rfl ?_
  refine a_aload_n C eX0_rushesBefore_4 rfl ?_
  refine a_getI C eX0_rushesBefore_5 fX0_9 sh_61 rfl ?_
  refine a_bipush C eX0_rushesBefore_8 (7 : Int32) c_bipush_7 ?_
  refine a_imul C eX0_rushesBefore_10 ?_
  refine a_bipush C eX0_rushesBefore_11 (6 : Int32) c_bipush_6 ?_
  refine a_iadd C eX0_rushesBefore_13 ?_
  obtain ⟨hb_1, h⟩ := gd h
  refine a_iald C eX0_rushesBefore_14 sh_62 hb_1 ?_
  exact rt_p R eX0_rushesBefore_15 h nb_int
/-! ShelfDrives$Common.bestCost()I -/
def XX1_bestCost (σ : Sg) : Option Int32 := if ib ((σ 2 0) + (1 : Int32)) 16 then some (σ 56 ((σ 2 0) + (1 : Int32)).toNatClampNeg) else none
theorem kX1_bestCost {ext : List Shp} {σ : Sg} {rr : Int32}  (h : XX1_bestCost σ = some rr) : Ci MX1_bestCost [.ref 55] (SHc ++ ext) σ (rr, σ) := by
  refine Ci.start rfl rfl (Nat.le_of_ble_eq_true rfl) ?_
  intro X ad C R
  replace C : Cx X cX1_bestCost 1 RX1 (some .int) { frames := 0, cells := 0, slots := 0, locals := 0 } := C
  replace R : Ri X cX1_bestCost (some .int) ad (SHc ++ ext) (rr, σ) := R
  show AW X 0 0 ad (SHc ++ ext) σ 0 [some (.ref 55)] []
  rw [XX1_bestCost] at h
  refine a_aload_n C eX1_bestCost_0 rfl ?_
  refine a_getR C eX1_bestCost_1 fX1_9 sh_55 rfl ?_
  refine a_aload_n C eX1_bestCost_4 rfl ?_
  refine a_getR C eX1_bestCost_5 fX1_27 sh_55 rfl ?_
  refine a_getI C eX1_bestCost_8 fX1_35 sh_2 rfl ?_
  refine a_iconst C eX1_bestCost_11 (1 : Int32) c_iconst_1 ?_
  refine a_iadd C eX1_bestCost_12 ?_
  obtain ⟨hb_1, h⟩ := gd h
  refine a_iald C eX1_bestCost_13 sh_56 hb_1 ?_
  exact rt_p R eX1_bestCost_14 h nb_int
/-! ShelfDrives$Common.bestDays()I -/
def XX1_bestDays (σ : Sg) : Option Int32 := if ib ((σ 2 0) + (1 : Int32)) 16 then some (σ 58 ((σ 2 0) + (1 : Int32)).toNatClampNeg) else none
theorem kX1_bestDays {ext : List Shp} {σ : Sg} {rr : Int32}  (h : XX1_bestDays σ = some rr) : Ci MX1_bestDays [.ref 55] (SHc ++ ext) σ (rr, σ) := by
  refine Ci.start rfl rfl (Nat.le_of_ble_eq_true rfl) ?_
  intro X ad C R
  replace C : Cx X cX1_bestDays 1 RX1 (some .int) { frames := 0, cells := 0, slots := 0, locals := 0 } := C
  replace R : Ri X cX1_bestDays (some .int) ad (SHc ++ ext) (rr, σ) := R
  show AW X 0 0 ad (SHc ++ ext) σ 0 [some (.ref 55)] []
  rw [XX1_bestDays] at h
  refine a_aload_n C eX1_bestDays_0 rfl ?_
  refine a_getR C eX1_bestDays_1 fX1_18 sh_55 rfl ?_
  refine a_aload_n C eX1_bestDays_4 rfl ?_
  refine a_getR C eX1_bestDays_5 fX1_27 sh_55 rfl ?_
  refine a_getI C eX1_bestDays_8 fX1_35 sh_2 rfl ?_
  refine a_iconst C eX1_bestDays_11 (1 : Int32) c_iconst_1 ?_
  refine a_iadd C eX1_bestDays_12 ?_
  obtain ⟨hb_1, h⟩ := gd h
  refine a_iald C eX1_bestDays_13 sh_58 hb_1 ?_
  exact rt_p R eX1_bestDays_14 h nb_int
/-! java/util/Arrays.fill([II)V -/
def LJ7_fill_53178_5 (a : Nat) (n0 : Nat) (p1 : Int32) (x3_1 : Int32) : Nat → Int32 → Sg → Option Sg
  | 0, _, _ => none
  | n + 1, x2_2, σ_3 => if x3_1 ≤ x2_2 then (some σ_3) else (if ib x2_2 n0 then lt (up σ_3 a x2_2.toNatClampNeg p1) (fun (σ_4 : Sg) => lt (x2_2 + (1 : Int32)) (fun (x2_6 : Int32) => LJ7_fill_53178_5 a n0 p1 x3_1 n x2_6 σ_4)) else none)
def XJ7_fill_53178 (a : Nat) (n0 : Nat) (p1 : Int32) (σ : Sg) : Option Sg := lt (Int32.ofNat n0) (fun (x3_1 : Int32) => LJ7_fill_53178_5 a n0 p1 x3_1 FUEL (0 : Int32) σ)
theorem lJ7_fill_53178_5 {SH : List Shp} {X : CT} {ad : Nat → Nat} {rr : Sg} {a : Nat} {n0 : Nat} {p1 : Int32} {x3_1 : Int32} (ha : SH[a]? = some (.inl n0)) (C : Cx X cJ7_fill_53178 4 RJ7 none { frames := 0, cells := 0, slots := 0, locals := 0 }) (R : Rv X cJ7_fill_53178 ad SH rr)  : ∀ (n : Nat) (x2_2 : Int32) (σ_3 : Sg), LJ7_fill_53178_5 a n0 p1 x3_1 n x2_2 σ_3 = some rr → AW X 0 0 ad SH σ_3 5 [some (.ref a), some (.int p1), some (.int x2_2), some (.int x3_1)] [] := by
  intro n
  induction n with
  | zero =>
    intro x2_2 σ_3 h
    rw [LJ7_fill_53178_5] at h
    cases h
  | succ n ih =>
    intro x2_2 σ_3 h
    rw [LJ7_fill_53178_5] at h
    refine a_iload_n C eJ7_fill_53178_5 rfl ?_
    refine a_iload_n C eJ7_fill_53178_6 rfl ?_
    refine a_icmp_ge C eJ7_fill_53178_7 (fun hc => ?_) (fun hc => ?_)
    · replace h := it hc h
      exact rt_v R eJ7_fill_53178_20 h
    · replace h := ie hc h
      refine a_aload_n C eJ7_fill_53178_10 rfl ?_
      refine a_iload_n C eJ7_fill_53178_11 rfl ?_
      refine a_iload_n C eJ7_fill_53178_12 rfl ?_
      obtain ⟨hb_5, h⟩ := gd h
      refine a_iastL C eJ7_fill_53178_13 ha hb_5 h (fun σ_4 h => ?_)
      refine a_inc C eJ7_fill_53178_14 rfl c_iconst_1 h (fun z => [some (.ref a), some (.int p1), some (.int z), some (.int x3_1)]) (fun _ => rfl) (fun x2_6 h => ?_)
      refine a_goto C eJ7_fill_53178_17 ?_
      exact a_less (lle_same (lle_same (lle_same (lle_same lle_nil)))) (ih _ _ h)
theorem kJ7_fill_53178 {SH : List Shp} {a : Nat} {n0 : Nat} {p1 : Int32} {σ : Sg} {rr : Sg} (ha : SH[a]? = some (.inl n0)) (h : XJ7_fill_53178 a n0 p1 σ = some rr) : Cv MJ7_fill_53178 [.ref a, .int p1] SH σ rr := by
  refine Cv.start rfl rfl (Nat.le_of_ble_eq_true rfl) rfl ?_
  intro X ad C R
  replace C : Cx X cJ7_fill_53178 4 RJ7 none { frames := 0, cells := 0, slots := 0, locals := 0 } := C
  replace R : Rv X cJ7_fill_53178 ad SH rr := R
  show AW X 0 0 ad SH σ 0 [some (.ref a), some (.int p1), none, none] []
  rw [XJ7_fill_53178] at h
  refine a_iconst C eJ7_fill_53178_0 (0 : Int32) c_iconst_0 ?_
  refine a_ist_n C eJ7_fill_53178_1 (Nat.le_of_ble_eq_true rfl) [some (.ref a), some (.int p1), some (.int (0 : Int32)), none] rfl ?_
  refine a_aload_n C eJ7_fill_53178_2 rfl ?_
  refine a_alen C eJ7_fill_53178_3 ha _ rfl ?_
  refine a_lt h (fun x3_1 h => ?_)
  refine a_ist_n C eJ7_fill_53178_4 (Nat.le_of_ble_eq_true rfl) [some (.ref a), some (.int p1), some (.int (0 : Int32)), some (.int x3_1)] rfl ?_
  exact a_less (lle_same (lle_same (lle_same (lle_same lle_nil)))) (lJ7_fill_53178_5 ha C R  _ _ _ h)
/-! ShelfDrives$Parting.gather([I)I -/
def LX2_gather_9 (a : Nat) : Nat → Int32 → Int32 → Sg → Option (Int32 × Sg)
  | 0, _, _, _ => none
  | n + 1, x2_2, x3_3, σ_4 => if (σ_4 2 6) ≤ x3_3 then (some (x2_2, σ_4)) else (if ib x3_3 6 then lt (fun (s_6 : Int32) => lt (up σ_4 29 6 ((σ_4 29 6) ||| s_6)) (fun (σ_8 : Sg) => if ib ((1 : Int32) <<< (x3_3 &&& 31)) 64 then lt (up σ_8 31 ((1 : Int32) <<< (x3_3 &&& 31)).toNatClampNeg (σ_8 a x3_3.toNatClampNeg)) (fun (σ_9 : Sg) => lt (x2_2 + (σ_9 a x3_3.toNatClampNeg)) (fun (x2_11 : Int32) => lt (x3_3 + (1 : Int32)) (fun (x3_12 : Int32) => LX2_gather_9 a n x2_11 x3_12 σ_9))) else none)) (fun (k38_7 : Int32 → Option (Int32 × Sg)) => if (σ_4 a x3_3.toNatClampNeg) ≤ 0 then (k38_7 (0 : Int32)) else (k38_7 ((1 : Int32) <<< (x3_3 &&& 31)))) else none)
def XX2_gather (a : Nat) (σ : Sg) : Option (Int32 × Sg) := lt (up σ 29 6 (0 : Int32)) (fun (σ_1 : Sg) => LX2_gather_9 a FUEL (0 : Int32) (0 : Int32) σ_1)
theorem lX2_gather_9 {ext : List Shp} {X : CT} {ad : Nat → Nat} {rr : (Int32 × Sg)} {a : Nat} (ha : (SHc ++ ext)[a]? = some (.inl 6)) (C : Cx X cX2_gather 4 RX2 (some .int) { frames := 0, cells := 0, slots := 0, locals := 0 }) (R : Ri X cX2_gather (some .int) ad (SHc ++ ext) rr)  : ∀ (n : Nat) (x2_2 : Int32) (x3_3 : Int32) (σ_4 : Sg), LX2_gather_9 a n x2_2 x3_3 σ_4 = some rr → AW X 0 0 ad (SHc ++ ext) σ_4 9 [some (.ref 29), some (.ref a), some (.int x2_2), some (.int x3_3)] [] := by
  intro n
  induction n with
  | zero =>
    intro x2_2 x3_3 σ_4 h
    rw [LX2_gather_9] at h
    cases h
  | succ n ih =>
    intro x2_2 x3_3 σ_4 h
    rw [LX2_gather_9] at h
    refine a_iload_n C eX2_gather_9 rfl ?_
    refine a_aload_n C eX2_gather_10 rfl ?_
    refine a_getR C eX2_gather_11 fX2_27 sh_29 rfl ?_
    refine a_getI C eX2_gather_14 fX2_31 sh_2 rfl ?_
    refine a_icmp_ge C eX2_gather_17 (fun hc => ?_) (fun hc => ?_)
    · replace h := it hc h
      refine a_iload_n C eX2_gather_65 rfl ?_
      exact rt_i R eX2_gather_66 h nb_int
    · replace h := ie hc h
      refine a_aload_n C eX2_gather_20 rfl ?_
      refine a_dup C eX2_gather_21 rfl ?_
      refine a_getI C eX2_gather_22 fX2_53 sh_29 rfl ?_
      refine a_aload_n C eX2_gather_25 rfl ?_
      refine a_iload_n C eX2_gather_26 rfl ?_
      obtain ⟨hb_5, h⟩ := gd h
      refine a_iald C eX2_gather_27 ha hb_5 ?_
      refine jn (fun (kk : Int32 → Option (Int32 × Sg)) => ∀ (s_6 : Int32), kk s_6 = some rr → AW X 0 0 ad (SHc ++ ext) σ_4 38 [some (.ref 29), some (.ref a), some (.int x2_2), some (.int x3_3)] [.int s_6, .int (σ_4 29 6), .ref 29]) h ?_ (fun k38_7 hk38_7 h => ?_)
      · intro s_6 h
        refine a_ior C eX2_gather_38 ?_
        refine a_putIL C eX2_gather_39 fX2_53 ftyX2 rfl rfl sh_29 rfl h (fun σ_8 h => ?_)
        refine a_aload_n C eX2_gather_42 rfl ?_
        refine a_getR C eX2_gather_43 fX2_15 sh_29 rfl ?_
        refine a_iconst C eX2_gather_46 (1 : Int32) c_iconst_1 ?_
        refine a_iload_n C eX2_gather_47 rfl ?_
        refine a_ishl C eX2_gather_48 ?_
        refine a_aload_n C eX2_gather_49 rfl ?_
        refine a_iload_n C eX2_gather_50 rfl ?_
        refine a_iald C eX2_gather_51 ha hb_5 ?_
        obtain ⟨hb_10, h⟩ := gd h
        refine a_iastL C eX2_gather_52 sh_31 hb_10 h (fun σ_9 h => ?_)
        refine a_iload_n C eX2_gather_53 rfl ?_
        refine a_aload_n C eX2_gather_54 rfl ?_
        refine a_iload_n C eX2_gather_55 rfl ?_
        refine a_iald C eX2_gather_56 ha hb_5 ?_
        refine a_iadd C eX2_gather_57 ?_
        refine a_lt h (fun x2_11 h => ?_)
        refine a_ist_n C eX2_gather_58 (Nat.le_of_ble_eq_true rfl) [some (.ref 29), some (.ref a), some (.int x2_11), some (.int x3_3)] rfl ?_
        refine a_inc C eX2_gather_59 rfl c_iconst_1 h (fun z => [some (.ref 29), some (.ref a), some (.int x2_11), some (.int z)]) (fun _ => rfl) (fun x3_12 h => ?_)
        refine a_goto C eX2_gather_62 ?_
        exact a_less (lle_same (lle_same (lle_same (lle_same lle_nil)))) (ih _ _ _ h)
      refine a_if_le C eX2_gather_28 (fun hc => ?_) (fun hc => ?_)
      · replace h := it hc h
        refine a_iconst C eX2_gather_37 (0 : Int32) c_iconst_0 ?_
        exact a_less (lle_same (lle_same (lle_same (lle_same lle_nil)))) (hk38_7 _ h)
      · replace h := ie hc h
        refine a_iconst C eX2_gather_31 (1 : Int32) c_iconst_1 ?_
        refine a_iload_n C eX2_gather_32 rfl ?_
        refine a_ishl C eX2_gather_33 ?_
        refine a_goto C eX2_gather_34 ?_
        exact a_less (lle_same (lle_same (lle_same (lle_same lle_nil)))) (hk38_7 _ h)
theorem kX2_gather {ext : List Shp} {a : Nat} {σ : Sg} {rr : (Int32 × Sg)} (ha : (SHc ++ ext)[a]? = some (.inl 6)) (h : XX2_gather a σ = some rr) : Ci MX2_gather [.ref 29, .ref a] (SHc ++ ext) σ rr := by
  refine Ci.start rfl rfl (Nat.le_of_ble_eq_true rfl) ?_
  intro X ad C R
  replace C : Cx X cX2_gather 4 RX2 (some .int) { frames := 0, cells := 0, slots := 0, locals := 0 } := C
  replace R : Ri X cX2_gather (some .int) ad (SHc ++ ext) rr := R
  show AW X 0 0 ad (SHc ++ ext) σ 0 [some (.ref 29), some (.ref a), none, none] []
  rw [XX2_gather] at h
  refine a_iconst C eX2_gather_0 (0 : Int32) c_iconst_0 ?_
  refine a_ist_n C eX2_gather_1 (Nat.le_of_ble_eq_true rfl) [some (.ref 29), some (.ref a), some (.int (0 : Int32)), none] rfl ?_
  refine a_aload_n C eX2_gather_2 rfl ?_
  refine a_iconst C eX2_gather_3 (0 : Int32) c_iconst_0 ?_
  refine a_putIL C eX2_gather_4 fX2_53 ftyX2 rfl rfl sh_29 rfl h (fun σ_1 h => ?_)
  refine a_iconst C eX2_gather_7 (0 : Int32) c_iconst_0 ?_
  refine a_ist_n C eX2_gather_8 (Nat.le_of_ble_eq_true rfl) [some (.ref 29), some (.ref a), some (.int (0 : Int32)), some (.int (0 : Int32))] rfl ?_
  exact a_less (lle_same (lle_same (lle_same (lle_same lle_nil)))) (lX2_gather_9 ha C R  _ _ _ _ h)
/-! ShelfDrives$Parting.partSet(II)V -/
def LX2_partSet_104 (p1 : Int32) (p2 : Int32) (x3_1 : Int32) (x4_2 : Int32) : Nat → Int32 → Sg → Option Sg
  | 0, _, _ => none
  | n + 1, x6_14, σ_15 => if x6_14 ≤ 0 then (some σ_15) else (lt ((x6_14 - (1 : Int32)) &&& x4_2) (fun (x6_16 : Int32) => lt (x3_1 ||| x6_16) (fun (x7_17 : Int32) => lt (p1 ^^^ x7_17) (fun (x8_18 : Int32) => if ib x7_17 64 then if (σ_15 31 x7_17.toNatClampNeg) ≤ p2 then (if ib x8_18 64 then lt ((σ_15 30 x7_17.toNatClampNeg) + (σ_15 32 x8_18.toNatClampNeg)) (fun (x9_21 : Int32) => if ib p1 64 then lt (lt (up σ_15 32 p1.toNatClampNeg x9_21) (fun (σ_24 : Sg) => lt (up σ_24 33 p1.toNatClampNeg ((1 : Int32) + (σ_24 33 x8_18.toNatClampNeg))) (fun (σ_25 : Sg) => lt (up σ_25 34 p1.toNatClampNeg x7_17) (fun (σ_26 : Sg) => LX2_partSet_104 p1 p2 x3_1 x4_2 n x6_16 σ_26)))) (fun (k201_23 : Option Sg) => if x9_21 < (σ_15 32 p1.toNatClampNeg) then (k201_23) else (if x9_21 = (σ_15 32 p1.toNatClampNeg) then (if (σ_15 33 p1.toNatClampNeg) < ((1 : Int32) + (σ_15 33 x8_18.toNatClampNeg)) then (LX2_partSet_104 p1 p2 x3_1 x4_2 n x6_16 σ_15) else (k201_23)) else (LX2_partSet_104 p1 p2 x3_1 x4_2 n x6_16 σ_15))) else none) else none) else (LX2_partSet_104 p1 p2 x3_1 x4_2 n x6_16 σ_15) else none))))
def XX2_partSet (p1 : Int32) (p2 : Int32) (σ : Sg) : Option Sg := if (p1 &&& (σ 29 6)) = p1 then (lt (p1 &&& (-p1)) (fun (x3_1 : Int32) => lt (p1 ^^^ x3_1) (fun (x4_2 : Int32) => if ib x3_1 64 then if ib x4_2 64 then if ib p1 64 then lt (up σ 31 p1.toNatClampNeg ((σ 31 x3_1.toNatClampNeg) + (σ 31 x4_2.toNatClampNeg))) (fun (σ_5 : Sg) => lt (up σ_5 34 p1.toNatClampNeg p1) (fun (σ_7 : Sg) => lt (up σ_7 33 p1.toNatClampNeg (1 : Int32)) (fun (σ_8 : Sg) => lt (fun (s_9 : Int32) => lt (fun (s_11 : Int32) => lt (up σ_8 32 p1.toNatClampNeg s_11) (fun (σ_13 : Sg) => if s_9 = 0 then (LX2_partSet_104 p1 p2 x3_1 x4_2 FUEL x4_2 σ_13) else (some σ_13))) (fun (k93_12 : Int32 → Option Sg) => if s_9 = 0 then (k93_12 (1000000000 : Int32)) else (k93_12 (σ_8 30 p1.toNatClampNeg)))) (fun (k70_10 : Int32 → Option Sg) => if p2 < (σ_8 31 p1.toNatClampNeg) then (k70_10 (0 : Int32)) else (k70_10 (1 : Int32)))))) else none else none else none))) else (some σ)
theorem lX2_partSet_104 {ext : List Shp} {X : CT} {ad : Nat → Nat} {rr : Sg} {p1 : Int32} {p2 : Int32} {x3_1 : Int32} {x4_2 : Int32}  (C : Cx X cX2_partSet 10 RX2 none { frames := 0, cells := 0, slots := 0, locals := 0 }) (R : Rv X cX2_partSet ad (SHc ++ ext) rr)  : ∀ (n : Nat) (x6_14 : Int32) (σ_15 : Sg), LX2_partSet_104 p1 p2 x3_1 x4_2 n x6_14 σ_15 = some rr → AW X 0 0 ad (SHc ++ ext) σ_15 104 [some (.ref 29), some (.int p1), some (.int p2), some (.int x3_1), some (.int x4_2), none, some (.int x6_14), none, none, none] [] := by
  intro n
  induction n with
  | zero =>
    intro x6_14 σ_15 h
    rw [LX2_partSet_104] at h
    cases h
  | succ n ih =>
    intro x6_14 σ_15 h
    rw [LX2_partSet_104] at h
    refine a_iload C eX2_partSet_104 rfl ?_
    refine a_if_le C eX2_partSet_106 (fun hc => ?_) (fun hc => ?_)
    · replace h := it hc h
      exact rt_v R eX2_partSet_235 h
    · replace h := ie hc h
      refine a_iload C eX2_partSet_109 rfl ?_
      refine a_iconst C eX2_partSet_111 (1 : Int32) c_iconst_1 ?_
      refine a_isub C eX2_partSet_112 ?_
      refine a_iload C eX2_partSet_113 rfl ?_
      refine a_iand C eX2_partSet_115 ?_
      refine a_lt h (fun x6_16 h => ?_)
      refine a_ist C eX2_partSet_116 (Nat.le_of_ble_eq_true rfl) [some (.ref 29), some (.int p1), some (.int p2), some (.int x3_1), some (.int x4_2), none, some (.int x6_16), none, none, none] rfl ?_
      refine a_iload_n C eX2_partSet_118 rfl ?_
      refine a_iload C eX2_partSet_119 rfl ?_
      refine a_ior C eX2_partSet_121 ?_
      refine a_lt h (fun x7_17 h => ?_)
      refine a_ist C eX2_partSet_122 (Nat.le_of_ble_eq_true rfl) [some (.ref 29), some (.int p1), some (.int p2), some (.int x3_1), some (.int x4_2), none, some (.int x6_16), some (.int x7_17), none, none] rfl ?_
      refine a_iload_n C eX2_partSet_124 rfl ?_
      refine a_iload C eX2_partSet_125 rfl ?_
      refine a_ixor C eX2_partSet_127 ?_
      refine a_lt h (fun x8_18 h => ?_)
      refine a_ist C eX2_partSet_128 (Nat.le_of_ble_eq_true rfl) [some (.ref 29), some (.int p1), some (.int p2), some (.int x3_1), some (.int x4_2), none, some (.int x6_16), some (.int x7_17), some (.int x8_18), none] rfl ?_
      refine a_aload_n C eX2_partSet_130 rfl ?_
      refine a_getR C eX2_partSet_131 fX2_15 sh_29 rfl ?_
      refine a_iload C eX2_partSet_134 rfl ?_
      obtain ⟨hb_19, h⟩ := gd h
      refine a_iald C eX2_partSet_136 sh_31 hb_19 ?_
      refine a_iload_n C eX2_partSet_137 rfl ?_
      refine a_icmp_le C eX2_partSet_138 (fun hc => ?_) (fun hc => ?_)
      · replace h := it hc h
        refine a_aload_n C eX2_partSet_144 rfl ?_
        refine a_getR C eX2_partSet_145 fX2_9 sh_29 rfl ?_
        refine a_iload C eX2_partSet_148 rfl ?_
        refine a_iald C eX2_partSet_150 sh_30 hb_19 ?_
        refine a_aload_n C eX2_partSet_151 rfl ?_
        refine a_getR C eX2_partSet_152 fX2_18 sh_29 rfl ?_
        refine a_iload C eX2_partSet_155 rfl ?_
        obtain ⟨hb_20, h⟩ := gd h
        refine a_iald C eX2_partSet_157 sh_32 hb_20 ?_
        refine a_iadd C eX2_partSet_158 ?_
        refine a_lt h (fun x9_21 h => ?_)
        refine a_ist C eX2_partSet_159 (Nat.le_of_ble_eq_true rfl) [some (.ref 29), some (.int p1), some (.int p2), some (.int x3_1), some (.int x4_2), none, some (.int x6_16), some (.int x7_17), some (.int x8_18), some (.int x9_21)] rfl ?_
        refine a_iload C eX2_partSet_161 rfl ?_
        refine a_aload_n C eX2_partSet_163 rfl ?_
        refine a_getR C eX2_partSet_164 fX2_18 sh_29 rfl ?_
        refine a_iload_n C eX2_partSet_167 rfl ?_
        obtain ⟨hb_22, h⟩ := gd h
        refine a_iald C eX2_partSet_168 sh_32 hb_22 ?_
        refine jn (fun (kk : Option Sg) => kk = some rr → AW X 0 0 ad (SHc ++ ext) σ_15 201 [some (.ref 29), some (.int p1), some (.int p2), some (.int x3_1), some (.int x4_2), none, some (.int x6_16), some (.int x7_17), some (.int x8_18), some (.int x9_21)] []) h ?_ (fun k201_23 hk201_23 h => ?_)
        · intro h
          refine a_aload_n C eX2_partSet_201 rfl ?_
          refine a_getR C eX2_partSet_202 fX2_18 sh_29 rfl ?_
          refine a_iload_n C eX2_partSet_205 rfl ?_
          refine a_iload C eX2_partSet_206 rfl ?_
          refine a_iastL C eX2_partSet_208 sh_32 hb_22 h (fun σ_24 h => ?_)
          refine a_aload_n C eX2_partSet_209 rfl ?_
          refine a_getR C eX2_partSet_210 fX2_21 sh_29 rfl ?_
          refine a_iload_n C eX2_partSet_213 rfl ?_
          refine a_iconst C eX2_partSet_214 (1 : Int32) c_iconst_1 ?_
          refine a_aload_n C eX2_partSet_215 rfl ?_
          refine a_getR C eX2_partSet_216 fX2_21 sh_29 rfl ?_
          refine a_iload C eX2_partSet_219 rfl ?_
          refine a_iald C eX2_partSet_221 sh_33 hb_20 ?_
          refine a_iadd C eX2_partSet_222 ?_
          refine a_iastL C eX2_partSet_223 sh_33 hb_22 h (fun σ_25 h => ?_)
          refine a_aload_n C eX2_partSet_224 rfl ?_
          refine a_getR C eX2_partSet_225 fX2_24 sh_29 rfl ?_
          refine a_iload_n C eX2_partSet_228 rfl ?_
          refine a_iload C eX2_partSet_229 rfl ?_
          refine a_iastL C eX2_partSet_231 sh_34 hb_22 h (fun σ_26 h => ?_)
          refine a_goto C eX2_partSet_232 ?_
          exact a_less (lle_same (lle_same (lle_same (lle_same (lle_same (lle_same (lle_same (lle_drop (lle_drop (lle_drop lle_nil)))))))))) (ih _ _ h)
        refine a_icmp_lt C eX2_partSet_169 (fun hc => ?_) (fun hc => ?_)
        · replace h := it hc h
          exact a_less (lle_same (lle_same (lle_same (lle_same (lle_same (lle_same (lle_same (lle_same (lle_same (lle_same lle_nil)))))))))) (hk201_23 h)
        · replace h := ie hc h
          refine a_iload C eX2_partSet_172 rfl ?_
          refine a_aload_n C eX2_partSet_174 rfl ?_
          refine a_getR C eX2_partSet_175 fX2_18 sh_29 rfl ?_
          refine a_iload_n C eX2_partSet_178 rfl ?_
          refine a_iald C eX2_partSet_179 sh_32 hb_22 ?_
          refine a_icmp_ne C eX2_partSet_180 (fun hc => ?_) (fun hc => ?_)
          · replace h := ie hc h
            refine a_goto C eX2_partSet_232 ?_
            exact a_less (lle_same (lle_same (lle_same (lle_same (lle_same (lle_same (lle_same (lle_drop (lle_drop (lle_drop lle_nil)))))))))) (ih _ _ h)
          · replace h := it hc h
            refine a_iconst C eX2_partSet_183 (1 : Int32) c_iconst_1 ?_
            refine a_aload_n C eX2_partSet_184 rfl ?_
            refine a_getR C eX2_partSet_185 fX2_21 sh_29 rfl ?_
            refine a_iload C eX2_partSet_188 rfl ?_
            refine a_iald C eX2_partSet_190 sh_33 hb_20 ?_
            refine a_iadd C eX2_partSet_191 ?_
            refine a_aload_n C eX2_partSet_192 rfl ?_
            refine a_getR C eX2_partSet_193 fX2_21 sh_29 rfl ?_
            refine a_iload_n C eX2_partSet_196 rfl ?_
            refine a_iald C eX2_partSet_197 sh_33 hb_22 ?_
            refine a_icmp_gt C eX2_partSet_198 (fun hc => ?_) (fun hc => ?_)
            · replace h := it hc h
              refine a_goto C eX2_partSet_232 ?_
              exact a_less (lle_same (lle_same (lle_same (lle_same (lle_same (lle_same (lle_same (lle_drop (lle_drop (lle_drop lle_nil)))))))))) (ih _ _ h)
            · replace h := ie hc h
              exact a_less (lle_same (lle_same (lle_same (lle_same (lle_same (lle_same (lle_same (lle_same (lle_same (lle_same lle_nil)))))))))) (hk201_23 h)
      · replace h := ie hc h
        refine a_goto C eX2_partSet_141 ?_
        exact a_less (lle_same (lle_same (lle_same (lle_same (lle_same (lle_same (lle_same (lle_drop (lle_drop (lle_same lle_nil)))))))))) (ih _ _ h)
theorem kX2_partSet {ext : List Shp} {p1 : Int32} {p2 : Int32} {σ : Sg} {rr : Sg}  (h : XX2_partSet p1 p2 σ = some rr) : Cv MX2_partSet [.ref 29, .int p1, .int p2] (SHc ++ ext) σ rr := by
  refine Cv.start rfl rfl (Nat.le_of_ble_eq_true rfl) rfl ?_
  intro X ad C R
  replace C : Cx X cX2_partSet 10 RX2 none { frames := 0, cells := 0, slots := 0, locals := 0 } := C
  replace R : Rv X cX2_partSet ad (SHc ++ ext) rr := R
  show AW X 0 0 ad (SHc ++ ext) σ 0 [some (.ref 29), some (.int p1), some (.int p2), none, none, none, none, none, none, none] []
  rw [XX2_partSet] at h
  refine a_iload_n C eX2_partSet_0 rfl ?_
  refine a_aload_n C eX2_partSet_1 rfl ?_
  refine a_getI C eX2_partSet_2 fX2_53 sh_29 rfl ?_
  refine a_iand C eX2_partSet_5 ?_
  refine a_iload_n C eX2_partSet_6 rfl ?_
  refine a_icmp_eq C eX2_partSet_7 (fun hc => ?_) (fun hc => ?_)
  · replace h := it hc h
    refine a_iload_n C eX2_partSet_11 rfl ?_
    refine a_iload_n C eX2_partSet_12 rfl ?_
    refine a_ineg C eX2_partSet_13 ?_
    refine a_iand C eX2_partSet_14 ?_
    refine a_lt h (fun x3_1 h => ?_)
    refine a_ist_n C eX2_partSet_15 (Nat.le_of_ble_eq_true rfl) [some (.ref 29), some (.int p1), some (.int p2), some (.int x3_1), none, none, none, none, none, none] rfl ?_
    refine a_iload_n C eX2_partSet_16 rfl ?_
    refine a_iload_n C eX2_partSet_17 rfl ?_
    refine a_ixor C eX2_partSet_18 ?_
    refine a_lt h (fun x4_2 h => ?_)
    refine a_ist C eX2_partSet_19 (Nat.le_of_ble_eq_true rfl) [some (.ref 29), some (.int p1), some (.int p2), some (.int x3_1), some (.int x4_2), none, none, none, none, none] rfl ?_
    refine a_aload_n C eX2_partSet_21 rfl ?_
    refine a_getR C eX2_partSet_22 fX2_15 sh_29 rfl ?_
    refine a_iload_n C eX2_partSet_25 rfl ?_
    refine a_aload_n C eX2_partSet_26 rfl ?_
    refine a_getR C eX2_partSet_27 fX2_15 sh_29 rfl ?_
    refine a_iload_n C eX2_partSet_30 rfl ?_
    obtain ⟨hb_3, h⟩ := gd h
    refine a_iald C eX2_partSet_31 sh_31 hb_3 ?_
    refine a_aload_n C eX2_partSet_32 rfl ?_
    refine a_getR C eX2_partSet_33 fX2_15 sh_29 rfl ?_
    refine a_iload C eX2_partSet_36 rfl ?_
    obtain ⟨hb_4, h⟩ := gd h
    refine a_iald C eX2_partSet_38 sh_31 hb_4 ?_
    refine a_iadd C eX2_partSet_39 ?_
    obtain ⟨hb_6, h⟩ := gd h
    refine a_iastL C eX2_partSet_40 sh_31 hb_6 h (fun σ_5 h => ?_)
    refine a_aload_n C eX2_partSet_41 rfl ?_
    refine a_getR C eX2_partSet_42 fX2_24 sh_29 rfl ?_
    refine a_iload_n C eX2_partSet_45 rfl ?_
    refine a_iload_n C eX2_partSet_46 rfl ?_
    refine a_iastL C eX2_partSet_47 sh_34 hb_6 h (fun σ_7 h => ?_)
    refine a_aload_n C eX2_partSet_48 rfl ?_
    refine a_getR C eX2_partSet_49 fX2_21 sh_29 rfl ?_
    refine a_iload_n C eX2_partSet_52 rfl ?_
    refine a_iconst C eX2_partSet_53 (1 : Int32) c_iconst_1 ?_
    refine a_iastL C eX2_partSet_54 sh_33 hb_6 h (fun σ_8 h => ?_)
    refine a_aload_n C eX2_partSet_55 rfl ?_
    refine a_getR C eX2_partSet_56 fX2_15 sh_29 rfl ?_
    refine a_iload_n C eX2_partSet_59 rfl ?_
    refine a_iald C eX2_partSet_60 sh_31 hb_6 ?_
    refine a_iload_n C eX2_partSet_61 rfl ?_
    refine jn (fun (kk : Int32 → Option Sg) => ∀ (s_9 : Int32), kk s_9 = some rr → AW X 0 0 ad (SHc ++ ext) σ_8 70 [some (.ref 29), some (.int p1), some (.int p2), some (.int x3_1), some (.int x4_2), none, none, none, none, none] [.int s_9]) h ?_ (fun k70_10 hk70_10 h => ?_)
    · intro s_9 h
      refine a_ist C eX2_partSet_70 (Nat.le_of_ble_eq_true rfl) [some (.ref 29), some (.int p1), some (.int p2), some (.int x3_1), some (.int x4_2), some (.int s_9), none, none, none, none] rfl ?_
      refine a_aload_n C eX2_partSet_72 rfl ?_
      refine a_getR C eX2_partSet_73 fX2_18 sh_29 rfl ?_
      refine a_iload_n C eX2_partSet_76 rfl ?_
      refine a_iload C eX2_partSet_77 rfl ?_
      refine jn (fun (kk : Int32 → Option Sg) => ∀ (s_11 : Int32), kk s_11 = some rr → AW X 0 0 ad (SHc ++ ext) σ_8 93 [some (.ref 29), some (.int p1), some (.int p2), some (.int x3_1), some (.int x4_2), some (.int s_9), none, none, none, none] [.int s_11, .int p1, .ref 32]) h ?_ (fun k93_12 hk93_12 h => ?_)
      · intro s_11 h
        refine a_iastL C eX2_partSet_93 sh_32 hb_6 h (fun σ_13 h => ?_)
        refine a_iload C eX2_partSet_94 rfl ?_
        refine a_if_eq C eX2_partSet_96 (fun hc => ?_) (fun hc => ?_)
        · replace h := it hc h
          refine a_iload C eX2_partSet_100 rfl ?_
          refine a_ist C eX2_partSet_102 (Nat.le_of_ble_eq_true rfl) [some (.ref 29), some (.int p1), some (.int p2), some (.int x3_1), some (.int x4_2), some (.int s_9), some (.int x4_2), none, none, none] rfl ?_
          exact a_less (lle_same (lle_same (lle_same (lle_same (lle_same (lle_drop (lle_same (lle_same (lle_same (lle_same lle_nil)))))))))) (lX2_partSet_104  C R  _ _ _ h)
        · replace h := ie hc h
          exact rt_v R eX2_partSet_99 h
      refine a_if_eq C eX2_partSet_79 (fun hc => ?_) (fun hc => ?_)
      · replace h := it hc h
        refine a_ldc C eX2_partSet_91 (1000000000 : Int32) wkX2_60 ?_
        exact a_less (lle_same (lle_same (lle_same (lle_same (lle_same (lle_same (lle_same (lle_same (lle_same (lle_same lle_nil)))))))))) (hk93_12 _ h)
      · replace h := ie hc h
        refine a_aload_n C eX2_partSet_82 rfl ?_
        refine a_getR C eX2_partSet_83 fX2_9 sh_29 rfl ?_
        refine a_iload_n C eX2_partSet_86 rfl ?_
        refine a_iald C eX2_partSet_87 sh_30 hb_6 ?_
        refine a_goto C eX2_partSet_88 ?_
        exact a_less (lle_same (lle_same (lle_same (lle_same (lle_same (lle_same (lle_same (lle_same (lle_same (lle_same lle_nil)))))))))) (hk93_12 _ h)
    refine a_icmp_gt C eX2_partSet_62 (fun hc => ?_) (fun hc => ?_)
    · replace h := it hc h
      refine a_iconst C eX2_partSet_69 (0 : Int32) c_iconst_0 ?_
      exact a_less (lle_same (lle_same (lle_same (lle_same (lle_same (lle_same (lle_same (lle_same (lle_same (lle_same lle_nil)))))))))) (hk70_10 _ h)
    · replace h := ie hc h
      refine a_iconst C eX2_partSet_65 (1 : Int32) c_iconst_1 ?_
      refine a_goto C eX2_partSet_66 ?_
      exact a_less (lle_same (lle_same (lle_same (lle_same (lle_same (lle_same (lle_same (lle_same (lle_same (lle_same lle_nil)))))))))) (hk70_10 _ h)
  · replace h := ie hc h
    exact rt_v R eX2_partSet_10 h
/-! ShelfDrives$Parting.priceOf([II)I -/
def LX2_priceOf_35 (p1 : Int32) (k57_4 : Sg → Option (Int32 × Sg)) : Nat → Int32 → Sg → Option (Int32 × Sg)
  | 0, _, _ => none
  | n + 1, x4_6, σ_7 => if (σ_7 29 6) < x4_6 then (k57_4 σ_7) else (b1 (XX2_partSet x4_6 p1 σ_7) (fun (σ_8 : Sg) => lt (x4_6 + (1 : Int32)) (fun (x4_9 : Int32) => LX2_priceOf_35 p1 k57_4 n x4_9 σ_8)))
def XX2_priceOf (a : Nat) (p1 : Int32) (σ : Sg) : Option (Int32 × Sg) := b2 (XX2_gather a σ) (fun (r_1 : Int32) (σ_2 : Sg) => if p1 < r_1 then (lt (fun (σ_3 : Sg) => if ib (σ_3 29 6) 64 then some (σ_3 32 (σ_3 29 6).toNatClampNeg, σ_3) else none) (fun (k57_4 : Sg → Option (Int32 × Sg)) => LX2_priceOf_35 p1 k57_4 FUEL (1 : Int32) σ_2)) else (if (σ_2 29 6) = 0 then (some ((0 : Int32), σ_2)) else (if ib (σ_2 29 6) 64 then some (σ_2 30 (σ_2 29 6).toNatClampNeg, σ_2) else none)))
theorem lX2_priceOf_35 {ext : List Shp} {X : CT} {ad : Nat → Nat} {rr : (Int32 × Sg)} {a : Nat} {p1 : Int32} {k57_4 : Sg → Option (Int32 × Sg)} (ha : (SHc ++ ext)[a]? = some (.inl 6)) (C : Cx X cX2_priceOf 5 RX2 (some .int) { frames := 1, cells := 0, slots := 0, locals := 29 }) (R : Ri X cX2_priceOf (some .int) ad (SHc ++ ext) rr) (hk57_4 : ∀ (σ_3 : Sg), k57_4 σ_3 = some rr → AW X 0 0 ad (SHc ++ ext) σ_3 57 [some (.ref 29), none, none, none, none] []) : ∀ (n : Nat) (x4_6 : Int32) (σ_7 : Sg), LX2_priceOf_35 p1 k57_4 n x4_6 σ_7 = some rr → AW X 0 0 ad (SHc ++ ext) σ_7 35 [some (.ref 29), none, some (.int p1), none, some (.int x4_6)] [] := by
  intro n
  induction n with
  | zero =>
    intro x4_6 σ_7 h
    rw [LX2_priceOf_35] at h
    cases h
  | succ n ih =>
    intro x4_6 σ_7 h
    rw [LX2_priceOf_35] at h
    refine a_iload C eX2_priceOf_35 rfl ?_
    refine a_aload_n C eX2_priceOf_37 rfl ?_
    refine a_getI C eX2_priceOf_38 fX2_53 sh_29 rfl ?_
    refine a_icmp_gt C eX2_priceOf_41 (fun hc => ?_) (fun hc => ?_)
    · replace h := it hc h
      exact a_less (lle_same (lle_same (lle_drop (lle_same (lle_drop lle_nil))))) (hk57_4 _ h)
    · replace h := ie hc h
      refine a_aload_n C eX2_priceOf_44 rfl ?_
      refine a_iload C eX2_priceOf_45 rfl ?_
      refine a_iload_n C eX2_priceOf_47 rfl ?_
      obtain ⟨σ_8, hq, h⟩ := b1_e h
      refine a_cVv2 C eX2_priceOf_48 wX2_56 ⟨Nat.le_of_ble_eq_true rfl, Nat.le_of_ble_eq_true rfl, rfl, rfl⟩ rfl sh_29 rfl (kX2_partSet hq) (Nat.le_of_ble_eq_true rfl) ?_
      refine a_inc C eX2_priceOf_51 rfl c_iconst_1 h (fun z => [some (.ref 29), none, some (.int p1), none, some (.int z)]) (fun _ => rfl) (fun x4_9 h => ?_)
      refine a_goto C eX2_priceOf_54 ?_
      exact a_less (lle_same (lle_same (lle_same (lle_same (lle_same lle_nil))))) (ih _ _ h)
theorem kX2_priceOf {ext : List Shp} {a : Nat} {p1 : Int32} {σ : Sg} {rr : (Int32 × Sg)} (ha : (SHc ++ ext)[a]? = some (.inl 6)) (h : XX2_priceOf a p1 σ = some rr) : Ci MX2_priceOf [.ref 29, .ref a, .int p1] (SHc ++ ext) σ rr := by
  refine Ci.start rfl rfl (Nat.le_of_ble_eq_true rfl) ?_
  intro X ad C R
  replace C : Cx X cX2_priceOf 5 RX2 (some .int) { frames := 1, cells := 0, slots := 0, locals := 29 } := C
  replace R : Ri X cX2_priceOf (some .int) ad (SHc ++ ext) rr := R
  show AW X 0 0 ad (SHc ++ ext) σ 0 [some (.ref 29), some (.ref a), some (.int p1), none, none] []
  rw [XX2_priceOf] at h
  refine a_aload_n C eX2_priceOf_0 rfl ?_
  refine a_aload_n C eX2_priceOf_1 rfl ?_
  obtain ⟨r_1, σ_2, hq, h⟩ := b2_e h
  refine a_cVi1 C eX2_priceOf_2 wX2_49 ⟨Nat.le_of_ble_eq_true rfl, Nat.le_of_ble_eq_true rfl, rfl, rfl⟩ rfl sh_29 rfl (kX2_gather ha hq) (Nat.le_of_ble_eq_true rfl) ?_
  refine a_ist_n C eX2_priceOf_5 (Nat.le_of_ble_eq_true rfl) [some (.ref 29), some (.ref a), some (.int p1), some (.int r_1), none] rfl ?_
  refine a_iload_n C eX2_priceOf_6 rfl ?_
  refine a_iload_n C eX2_priceOf_7 rfl ?_
  refine a_icmp_gt C eX2_priceOf_8 (fun hc => ?_) (fun hc => ?_)
  · replace h := it hc h
    refine a_iconst C eX2_priceOf_32 (1 : Int32) c_iconst_1 ?_
    refine a_ist C eX2_priceOf_33 (Nat.le_of_ble_eq_true rfl) [some (.ref 29), some (.ref a), some (.int p1), some (.int r_1), some (.int (1 : Int32))] rfl ?_
    refine jn (fun (kk : Sg → Option (Int32 × Sg)) => ∀ (σ_3 : Sg), kk σ_3 = some rr → AW X 0 0 ad (SHc ++ ext) σ_3 57 [some (.ref 29), none, none, none, none] []) h ?_ (fun k57_4 hk57_4 h => ?_)
    · intro σ_3 h
      refine a_aload_n C eX2_priceOf_57 rfl ?_
      refine a_getR C eX2_priceOf_58 fX2_18 sh_29 rfl ?_
      refine a_aload_n C eX2_priceOf_61 rfl ?_
      refine a_getI C eX2_priceOf_62 fX2_53 sh_29 rfl ?_
      obtain ⟨hb_5, h⟩ := gd h
      refine a_iald C eX2_priceOf_65 sh_32 hb_5 ?_
      exact rt_i R eX2_priceOf_66 h nb_int
    exact a_less (lle_same (lle_drop (lle_same (lle_drop (lle_same lle_nil))))) (lX2_priceOf_35 ha C R hk57_4 _ _ _ h)
  · replace h := ie hc h
    refine a_aload_n C eX2_priceOf_11 rfl ?_
    refine a_getI C eX2_priceOf_12 fX2_53 sh_29 rfl ?_
    refine a_if_ne C eX2_priceOf_15 (fun hc => ?_) (fun hc => ?_)
    · replace h := ie hc h
      refine a_aload_n C eX2_priceOf_22 rfl ?_
      refine a_getR C eX2_priceOf_23 fX2_9 sh_29 rfl ?_
      refine a_aload_n C eX2_priceOf_26 rfl ?_
      refine a_getI C eX2_priceOf_27 fX2_53 sh_29 rfl ?_
      obtain ⟨hb_10, h⟩ := gd h
      refine a_iald C eX2_priceOf_30 sh_30 hb_10 ?_
      exact rt_i R eX2_priceOf_31 h nb_int
    · replace h := it hc h
      refine a_iconst C eX2_priceOf_18 (0 : Int32) c_iconst_0 ?_
      refine a_goto C eX2_priceOf_19 ?_
      exact rt_i R eX2_priceOf_31 h nb_int
/-! ShelfDrives$Common.visitPrice(I)I -/
def LX1_visitPrice_2 (p1 : Int32) (k54_2 : Sg → Option (Int32 × Sg)) : Nat → Int32 → Sg → Option (Int32 × Sg)
  | 0, _, _ => none
  | n + 1, x2_5, σ_6 => if (σ_6 2 6) ≤ x2_5 then (k54_2 σ_6) else (lt (fun (s_7 : Int32) => if ib x2_5 6 then lt (up σ_6 60 x2_5.toNatClampNeg s_7) (fun (σ_9 : Sg) => lt (x2_5 + (1 : Int32)) (fun (x2_11 : Int32) => LX1_visitPrice_2 p1 k54_2 n x2_11 σ_9)) else none) (fun (k47_8 : Int32 → Option (Int32 × Sg)) => if ((p1 >>> (x2_5 &&& 31)) &&& (1 : Int32)) = (1 : Int32) then (if ib x2_5 6 then k47_8 ((σ_6 5 x2_5.toNatClampNeg) - (σ_6 59 x2_5.toNatClampNeg)) else none) else (k47_8 (0 : Int32))))
def XX1_visitPrice (p1 : Int32) (σ : Sg) : Option (Int32 × Sg) := lt (fun (σ_1 : Sg) => b2 (XX2_priceOf 60 (σ_1 2 1) σ_1) (fun (r_3 : Int32) (σ_4 : Sg) => some (r_3, σ_4))) (fun (k54_2 : Sg → Option (Int32 × Sg)) => LX1_visitPrice_2 p1 k54_2 FUEL (0 : Int32) σ)
theorem lX1_visitPrice_2 {ext : List Shp} {X : CT} {ad : Nat → Nat} {rr : (Int32 × Sg)} {p1 : Int32} {k54_2 : Sg → Option (Int32 × Sg)}  (C : Cx X cX1_visitPrice 3 RX1 (some .int) { frames := 2, cells := 0, slots := 0, locals := 53 }) (R : Ri X cX1_visitPrice (some .int) ad (SHc ++ ext) rr) (hk54_2 : ∀ (σ_1 : Sg), k54_2 σ_1 = some rr → AW X 0 0 ad (SHc ++ ext) σ_1 54 [some (.ref 55), none, none] []) : ∀ (n : Nat) (x2_5 : Int32) (σ_6 : Sg), LX1_visitPrice_2 p1 k54_2 n x2_5 σ_6 = some rr → AW X 0 0 ad (SHc ++ ext) σ_6 2 [some (.ref 55), some (.int p1), some (.int x2_5)] [] := by
  intro n
  induction n with
  | zero =>
    intro x2_5 σ_6 h
    rw [LX1_visitPrice_2] at h
    cases h
  | succ n ih =>
    intro x2_5 σ_6 h
    rw [LX1_visitPrice_2] at h
    refine a_iload_n C eX1_visitPrice_2 rfl ?_
    refine a_aload_n C eX1_visitPrice_3 rfl ?_
    refine a_getR C eX1_visitPrice_4 fX1_27 sh_55 rfl ?_
    refine a_getI C eX1_visitPrice_7 fX1_51 sh_2 rfl ?_
    refine a_icmp_ge C eX1_visitPrice_10 (fun hc => ?_) (fun hc => ?_)
    · replace h := it hc h
      exact a_less (lle_same (lle_drop (lle_drop lle_nil))) (hk54_2 _ h)
    · replace h := ie hc h
      refine a_aload_n C eX1_visitPrice_13 rfl ?_
      refine a_getR C eX1_visitPrice_14 fX1_24 sh_55 rfl ?_
      refine a_iload_n C eX1_visitPrice_17 rfl ?_
      refine a_iload_n C eX1_visitPrice_18 rfl ?_
      refine a_iload_n C eX1_visitPrice_19 rfl ?_
      refine a_ishr C eX1_visitPrice_20 ?_
      refine a_iconst C eX1_visitPrice_21 (1 : Int32) c_iconst_1 ?_
      refine a_iand C eX1_visitPrice_22 ?_
      refine a_iconst C eX1_visitPrice_23 (1 : Int32) c_iconst_1 ?_
      refine jn (fun (kk : Int32 → Option (Int32 × Sg)) => ∀ (s_7 : Int32), kk s_7 = some rr → AW X 0 0 ad (SHc ++ ext) σ_6 47 [some (.ref 55), some (.int p1), some (.int x2_5)] [.int s_7, .int x2_5, .ref 60]) h ?_ (fun k47_8 hk47_8 h => ?_)
      · intro s_7 h
        obtain ⟨hb_10, h⟩ := gd h
        refine a_iastL C eX1_visitPrice_47 sh_60 hb_10 h (fun σ_9 h => ?_)
        refine a_inc C eX1_visitPrice_48 rfl c_iconst_1 h (fun z => [some (.ref 55), some (.int p1), some (.int z)]) (fun _ => rfl) (fun x2_11 h => ?_)
        refine a_goto C eX1_visitPrice_51 ?_
        exact a_less (lle_same (lle_same (lle_same lle_nil))) (ih _ _ h)
      refine a_icmp_ne C eX1_visitPrice_24 (fun hc => ?_) (fun hc => ?_)
      · replace h := ie hc h
        refine a_iconst C eX1_visitPrice_46 (0 : Int32) c_iconst_0 ?_
        exact a_less (lle_same (lle_same (lle_same lle_nil))) (hk47_8 _ h)
      · replace h := it hc h
        refine a_aload_n C eX1_visitPrice_27 rfl ?_
        refine a_getR C eX1_visitPrice_28 fX1_27 sh_55 rfl ?_
        refine a_getR C eX1_visitPrice_31 fX1_57 sh_2 rfl ?_
        refine a_iload_n C eX1_visitPrice_34 rfl ?_
        obtain ⟨hb_12, h⟩ := gd h
        refine a_iald C eX1_visitPrice_35 sh_5 hb_12 ?_
        refine a_aload_n C eX1_visitPrice_36 rfl ?_
        refine a_getR C eX1_visitPrice_37 fX1_21 sh_55 rfl ?_
        refine a_iload_n C eX1_visitPrice_40 rfl ?_
        refine a_iald C eX1_visitPrice_41 sh_59 hb_12 ?_
        refine a_isub C eX1_visitPrice_42 ?_
        refine a_goto C eX1_visitPrice_43 ?_
        exact a_less (lle_same (lle_same (lle_same lle_nil))) (hk47_8 _ h)
theorem kX1_visitPrice {ext : List Shp} {p1 : Int32} {σ : Sg} {rr : (Int32 × Sg)}  (h : XX1_visitPrice p1 σ = some rr) : Ci MX1_visitPrice [.ref 55, .int p1] (SHc ++ ext) σ rr := by
  refine Ci.start rfl rfl (Nat.le_of_ble_eq_true rfl) ?_
  intro X ad C R
  replace C : Cx X cX1_visitPrice 3 RX1 (some .int) { frames := 2, cells := 0, slots := 0, locals := 53 } := C
  replace R : Ri X cX1_visitPrice (some .int) ad (SHc ++ ext) rr := R
  show AW X 0 0 ad (SHc ++ ext) σ 0 [some (.ref 55), some (.int p1), none] []
  rw [XX1_visitPrice] at h
  refine a_iconst C eX1_visitPrice_0 (0 : Int32) c_iconst_0 ?_
  refine a_ist_n C eX1_visitPrice_1 (Nat.le_of_ble_eq_true rfl) [some (.ref 55), some (.int p1), some (.int (0 : Int32))] rfl ?_
  refine jn (fun (kk : Sg → Option (Int32 × Sg)) => ∀ (σ_1 : Sg), kk σ_1 = some rr → AW X 0 0 ad (SHc ++ ext) σ_1 54 [some (.ref 55), none, none] []) h ?_ (fun k54_2 hk54_2 h => ?_)
  · intro σ_1 h
    refine a_aload_n C eX1_visitPrice_54 rfl ?_
    refine a_getR C eX1_visitPrice_55 fX1_31 sh_55 rfl ?_
    refine a_aload_n C eX1_visitPrice_58 rfl ?_
    refine a_getR C eX1_visitPrice_59 fX1_24 sh_55 rfl ?_
    refine a_aload_n C eX1_visitPrice_62 rfl ?_
    refine a_getR C eX1_visitPrice_63 fX1_27 sh_55 rfl ?_
    refine a_getI C eX1_visitPrice_66 fX1_91 sh_2 rfl ?_
    obtain ⟨r_3, σ_4, hq, h⟩ := b2_e h
    refine a_cVi2 C eX1_visitPrice_69 wX1_94 ⟨Nat.le_of_ble_eq_true rfl, Nat.le_of_ble_eq_true rfl, rfl, rfl⟩ rfl sh_29 rfl (kX2_priceOf sh_60 hq) (Nat.le_of_ble_eq_true rfl) ?_
    exact rt_i R eX1_visitPrice_72 h nb_int
  exact a_less (lle_same (lle_same (lle_same lle_nil))) (lX1_visitPrice_2  C R hk54_2 _ _ _ h)
/-! java/lang/Integer.bitCount(I)I -/
def XJ6_bitCount_0f7a4 (p1 : Int32) : Option Int32 := lt (p1 - ((ush p1 (1 : Int32)) &&& (1431655765 : Int32))) (fun (x0_1 : Int32) => lt ((x0_1 &&& (858993459 : Int32)) + ((ush x0_1 (2 : Int32)) &&& (858993459 : Int32))) (fun (x0_2 : Int32) => lt ((x0_2 + (ush x0_2 (4 : Int32))) &&& (252645135 : Int32)) (fun (x0_3 : Int32) => lt (x0_3 + (ush x0_3 (8 : Int32))) (fun (x0_4 : Int32) => lt (x0_4 + (ush x0_4 (16 : Int32))) (fun (x0_5 : Int32) => some (x0_5 &&& (63 : Int32)))))))
theorem kJ6_bitCount_0f7a4 {SH : List Shp} {p1 : Int32} {σ : Sg} {rr : Int32}  (h : XJ6_bitCount_0f7a4 p1 = some rr) : Ci MJ6_bitCount_0f7a4 [.int p1] SH σ (rr, σ) := by
  refine Ci.start rfl rfl (Nat.le_of_ble_eq_true rfl) ?_
  intro X ad C R
  replace C : Cx X cJ6_bitCount_0f7a4 1 RJ6 (some .int) { frames := 0, cells := 0, slots := 0, locals := 0 } := C
  replace R : Ri X cJ6_bitCount_0f7a4 (some .int) ad SH (rr, σ) := R
  show AW X 0 0 ad SH σ 0 [some (.int p1)] []
  rw [XJ6_bitCount_0f7a4] at h
  refine a_iload_n C eJ6_bitCount_0f7a4_0 rfl ?_
  refine a_iload_n C eJ6_bitCount_0f7a4_1 rfl ?_
  refine a_iconst C eJ6_bitCount_0f7a4_2 (1 : Int32) c_iconst_1 ?_
  refine a_iushr C eJ6_bitCount_0f7a4_3 ?_
  refine a_ldcw C eJ6_bitCount_0f7a4_4 (1431655765 : Int32) wkJ6_265 ?_
  refine a_iand C eJ6_bitCount_0f7a4_7 ?_
  refine a_isub C eJ6_bitCount_0f7a4_8 ?_
  refine a_lt h (fun x0_1 h => ?_)
  refine a_ist_n C eJ6_bitCount_0f7a4_9 (Nat.le_of_ble_eq_true rfl) [some (.int x0_1)] rfl ?_
  refine a_iload_n C eJ6_bitCount_0f7a4_10 rfl ?_
  refine a_ldcw C eJ6_bitCount_0f7a4_11 (858993459 : Int32) wkJ6_266 ?_
  refine a_iand C eJ6_bitCount_0f7a4_14 ?_
  refine a_iload_n C eJ6_bitCount_0f7a4_15 rfl ?_
  refine a_iconst C eJ6_bitCount_0f7a4_16 (2 : Int32) c_iconst_2 ?_
  refine a_iushr C eJ6_bitCount_0f7a4_17 ?_
  refine a_ldcw C eJ6_bitCount_0f7a4_18 (858993459 : Int32) wkJ6_266 ?_
  refine a_iand C eJ6_bitCount_0f7a4_21 ?_
  refine a_iadd C eJ6_bitCount_0f7a4_22 ?_
  refine a_lt h (fun x0_2 h => ?_)
  refine a_ist_n C eJ6_bitCount_0f7a4_23 (Nat.le_of_ble_eq_true rfl) [some (.int x0_2)] rfl ?_
  refine a_iload_n C eJ6_bitCount_0f7a4_24 rfl ?_
  refine a_iload_n C eJ6_bitCount_0f7a4_25 rfl ?_
  refine a_iconst C eJ6_bitCount_0f7a4_26 (4 : Int32) c_iconst_4 ?_
  refine a_iushr C eJ6_bitCount_0f7a4_27 ?_
  refine a_iadd C eJ6_bitCount_0f7a4_28 ?_
  refine a_ldcw C eJ6_bitCount_0f7a4_29 (252645135 : Int32) wkJ6_267 ?_
  refine a_iand C eJ6_bitCount_0f7a4_32 ?_
  refine a_lt h (fun x0_3 h => ?_)
  refine a_ist_n C eJ6_bitCount_0f7a4_33 (Nat.le_of_ble_eq_true rfl) [some (.int x0_3)] rfl ?_
  refine a_iload_n C eJ6_bitCount_0f7a4_34 rfl ?_
  refine a_iload_n C eJ6_bitCount_0f7a4_35 rfl ?_
  refine a_bipush C eJ6_bitCount_0f7a4_36 (8 : Int32) c_bipush_8 ?_
  refine a_iushr C eJ6_bitCount_0f7a4_38 ?_
  refine a_iadd C eJ6_bitCount_0f7a4_39 ?_
  refine a_lt h (fun x0_4 h => ?_)
  refine a_ist_n C eJ6_bitCount_0f7a4_40 (Nat.le_of_ble_eq_true rfl) [some (.int x0_4)] rfl ?_
  refine a_iload_n C eJ6_bitCount_0f7a4_41 rfl ?_
  refine a_iload_n C eJ6_bitCount_0f7a4_42 rfl ?_
  refine a_bipush C eJ6_bitCount_0f7a4_43 (16 : Int32) c_bipush_16 ?_
  refine a_iushr C eJ6_bitCount_0f7a4_45 ?_
  refine a_iadd C eJ6_bitCount_0f7a4_46 ?_
  refine a_lt h (fun x0_5 h => ?_)
  refine a_ist_n C eJ6_bitCount_0f7a4_47 (Nat.le_of_ble_eq_true rfl) [some (.int x0_5)] rfl ?_
  refine a_iload_n C eJ6_bitCount_0f7a4_48 rfl ?_
  refine a_bipush C eJ6_bitCount_0f7a4_49 (63 : Int32) c_bipush_63 ?_
  refine a_iand C eJ6_bitCount_0f7a4_51 ?_
  exact rt_p R eJ6_bitCount_0f7a4_52 h nb_int
/-! ShelfDrives$Common.offer(IIII)V -/
def XX1_offer (p1 : Int32) (p2 : Int32) (p3 : Int32) (p4 : Int32) (σ : Sg) : Option Sg := if ib p2 16 then b1 (XJ6_bitCount_0f7a4 p4) (fun (r_2 : Int32) => lt ((σ 57 p2.toNatClampNeg) + r_2) (fun (x5_3 : Int32) => lt ((σ 58 p2.toNatClampNeg) ||| p4) (fun (x6_4 : Int32) => if ib p1 16 then lt (fun (s_6 : Int32) => if s_6 = 0 then (some σ) else (lt (up σ 56 p1.toNatClampNeg p3) (fun (σ_8 : Sg) => lt (up σ_8 57 p1.toNatClampNeg x5_3) (fun (σ_9 : Sg) => lt (up σ_9 58 p1.toNatClampNeg x6_4) (fun (σ_10 : Sg) => some σ_10))))) (fun (k83_7 : Int32 → Option Sg) => lt (k83_7 (1 : Int32)) (fun (k78_11 : Option Sg) => if p3 < (σ 56 p1.toNatClampNeg) then (k78_11) else (lt (k83_7 (0 : Int32)) (fun (k82_12 : Option Sg) => if p3 = (σ 56 p1.toNatClampNeg) then (if x5_3 < (σ 57 p1.toNatClampNeg) then (k78_11) else (if x5_3 = (σ 57 p1.toNatClampNeg) then (if (σ 58 p1.toNatClampNeg) ≤ x6_4 then (k82_12) else (k78_11)) else (k82_12))) else (k82_12))))) else none))) else none
theorem kX1_offer {ext : List Shp} {p1 : Int32} {p2 : Int32} {p3 : Int32} {p4 : Int32} {σ : Sg} {rr : Sg}  (h : XX1_offer p1 p2 p3 p4 σ = some rr) : Cv MX1_offer [.ref 55, .int p1, .int p2, .int p3, .int p4] (SHc ++ ext) σ rr := by
  refine Cv.start rfl rfl (Nat.le_of_ble_eq_true rfl) rfl ?_
  intro X ad C R
  replace C : Cx X cX1_offer 8 RX1 none { frames := 1, cells := 0, slots := 0, locals := 20 } := C
  replace R : Rv X cX1_offer ad (SHc ++ ext) rr := R
  show AW X 0 0 ad (SHc ++ ext) σ 0 [some (.ref 55), some (.int p1), some (.int p2), some (.int p3), some (.int p4), none, none, none] []
  rw [XX1_offer] at h
  refine a_aload_n C eX1_offer_0 rfl ?_
  refine a_getR C eX1_offer_1 fX1_15 sh_55 rfl ?_
  refine a_iload_n C eX1_offer_4 rfl ?_
  obtain ⟨hb_1, h⟩ := gd h
  refine a_iald C eX1_offer_5 sh_57 hb_1 ?_
  refine a_iload C eX1_offer_6 rfl ?_
  obtain ⟨r_2, hq, h⟩ := b1_e h
  refine a_cSi1 C eX1_offer_8 wX1_86 ⟨Nat.le_of_ble_eq_true rfl, Nat.le_of_ble_eq_true rfl, rfl, rfl⟩ rfl (kJ6_bitCount_0f7a4 hq) (Nat.le_of_ble_eq_true rfl) ?_
  refine a_iadd C eX1_offer_11 ?_
  refine a_lt h (fun x5_3 h => ?_)
  refine a_ist C eX1_offer_12 (Nat.le_of_ble_eq_true rfl) [some (.ref 55), some (.int p1), some (.int p2), some (.int p3), some (.int p4), some (.int x5_3), none, none] rfl ?_
  refine a_aload_n C eX1_offer_14 rfl ?_
  refine a_getR C eX1_offer_15 fX1_18 sh_55 rfl ?_
  refine a_iload_n C eX1_offer_18 rfl ?_
  refine a_iald C eX1_offer_19 sh_58 hb_1 ?_
  refine a_iload C eX1_offer_20 rfl ?_
  refine a_ior C eX1_offer_22 ?_
  refine a_lt h (fun x6_4 h => ?_)
  refine a_ist C eX1_offer_23 (Nat.le_of_ble_eq_true rfl) [some (.ref 55), some (.int p1), some (.int p2), some (.int p3), some (.int p4), some (.int x5_3), some (.int x6_4), none] rfl ?_
  refine a_iload_n C eX1_offer_25 rfl ?_
  refine a_aload_n C eX1_offer_26 rfl ?_
  refine a_getR C eX1_offer_27 fX1_9 sh_55 rfl ?_
  refine a_iload_n C eX1_offer_30 rfl ?_
  obtain ⟨hb_5, h⟩ := gd h
  refine a_iald C eX1_offer_31 sh_56 hb_5 ?_
  refine jn (fun (kk : Int32 → Option Sg) => ∀ (s_6 : Int32), kk s_6 = some rr → AW X 0 0 ad (SHc ++ ext) σ 83 [some (.ref 55), some (.int p1), none, some (.int p3), none, some (.int x5_3), some (.int x6_4), none] [.int s_6]) h ?_ (fun k83_7 hk83_7 h => ?_)
  · intro s_6 h
    refine a_ist C eX1_offer_83 (Nat.le_of_ble_eq_true rfl) [some (.ref 55), some (.int p1), none, some (.int p3), none, some (.int x5_3), some (.int x6_4), some (.int s_6)] rfl ?_
    refine a_iload C eX1_offer_85 rfl ?_
    refine a_if_eq C eX1_offer_87 (fun hc => ?_) (fun hc => ?_)
    · replace h := it hc h
      exact rt_v R eX1_offer_113 h
    · replace h := ie hc h
      refine a_aload_n C eX1_offer_90 rfl ?_
      refine a_getR C eX1_offer_91 fX1_9 sh_55 rfl ?_
      refine a_iload_n C eX1_offer_94 rfl ?_
      refine a_iload_n C eX1_offer_95 rfl ?_
      refine a_iastL C eX1_offer_96 sh_56 hb_5 h (fun σ_8 h => ?_)
      refine a_aload_n C eX1_offer_97 rfl ?_
      refine a_getR C eX1_offer_98 fX1_15 sh_55 rfl ?_
      refine a_iload_n C eX1_offer_101 rfl ?_
      refine a_iload C eX1_offer_102 rfl ?_
      refine a_iastL C eX1_offer_104 sh_57 hb_5 h (fun σ_9 h => ?_)
      refine a_aload_n C eX1_offer_105 rfl ?_
      refine a_getR C eX1_offer_106 fX1_18 sh_55 rfl ?_
      refine a_iload_n C eX1_offer_109 rfl ?_
      refine a_iload C eX1_offer_110 rfl ?_
      refine a_iastL C eX1_offer_112 sh_58 hb_5 h (fun σ_10 h => ?_)
      exact rt_v R eX1_offer_113 h
  refine jn (fun (kk : Option Sg) => kk = some rr → AW X 0 0 ad (SHc ++ ext) σ 78 [some (.ref 55), some (.int p1), none, some (.int p3), none, some (.int x5_3), some (.int x6_4), none] []) h ?_ (fun k78_11 hk78_11 h => ?_)
  · intro h
    refine a_iconst C eX1_offer_78 (1 : Int32) c_iconst_1 ?_
    refine a_goto C eX1_offer_79 ?_
    exact a_less (lle_same (lle_same (lle_same (lle_same (lle_same (lle_same (lle_same (lle_same lle_nil)))))))) (hk83_7 _ h)
  refine a_icmp_lt C eX1_offer_32 (fun hc => ?_) (fun hc => ?_)
  · replace h := it hc h
    exact a_less (lle_same (lle_same (lle_drop (lle_same (lle_drop (lle_same (lle_same (lle_same lle_nil)))))))) (hk78_11 h)
  · replace h := ie hc h
    refine a_iload_n C eX1_offer_35 rfl ?_
    refine a_aload_n C eX1_offer_36 rfl ?_
    refine a_getR C eX1_offer_37 fX1_9 sh_55 rfl ?_
    refine a_iload_n C eX1_offer_40 rfl ?_
    refine a_iald C eX1_offer_41 sh_56 hb_5 ?_
    refine jn (fun (kk : Option Sg) => kk = some rr → AW X 0 0 ad (SHc ++ ext) σ 82 [some (.ref 55), some (.int p1), none, some (.int p3), none, some (.int x5_3), some (.int x6_4), none] []) h ?_ (fun k82_12 hk82_12 h => ?_)
    · intro h
      refine a_iconst C eX1_offer_82 (0 : Int32) c_iconst_0 ?_
      exact a_less (lle_same (lle_same (lle_same (lle_same (lle_same (lle_same (lle_same (lle_same lle_nil)))))))) (hk83_7 _ h)
    refine a_icmp_ne C eX1_offer_42 (fun hc => ?_) (fun hc => ?_)
    · replace h := ie hc h
      exact a_less (lle_same (lle_same (lle_drop (lle_same (lle_drop (lle_same (lle_same (lle_same lle_nil)))))))) (hk82_12 h)
    · replace h := it hc h
      refine a_iload C eX1_offer_45 rfl ?_
      refine a_aload_n C eX1_offer_47 rfl ?_
      refine a_getR C eX1_offer_48 fX1_15 sh_55 rfl ?_
      refine a_iload_n C eX1_offer_51 rfl ?_
      refine a_iald C eX1_offer_52 sh_57 hb_5 ?_
      refine a_icmp_lt C eX1_offer_53 (fun hc => ?_) (fun hc => ?_)
      · replace h := it hc h
        exact a_less (lle_same (lle_same (lle_drop (lle_same (lle_drop (lle_same (lle_same (lle_same lle_nil)))))))) (hk78_11 h)
      · replace h := ie hc h
        refine a_iload C eX1_offer_56 rfl ?_
        refine a_aload_n C eX1_offer_58 rfl ?_
        refine a_getR C eX1_offer_59 fX1_15 sh_55 rfl ?_
        refine a_iload_n C eX1_offer_62 rfl ?_
        refine a_iald C eX1_offer_63 sh_57 hb_5 ?_
        refine a_icmp_ne C eX1_offer_64 (fun hc => ?_) (fun hc => ?_)
        · replace h := ie hc h
          exact a_less (lle_same (lle_same (lle_drop (lle_same (lle_drop (lle_same (lle_same (lle_same lle_nil)))))))) (hk82_12 h)
        · replace h := it hc h
          refine a_iload C eX1_offer_67 rfl ?_
          refine a_aload_n C eX1_offer_69 rfl ?_
          refine a_getR C eX1_offer_70 fX1_18 sh_55 rfl ?_
          refine a_iload_n C eX1_offer_73 rfl ?_
          refine a_iald C eX1_offer_74 sh_58 hb_5 ?_
          refine a_icmp_ge C eX1_offer_75 (fun hc => ?_) (fun hc => ?_)
          · replace h := it hc h
            exact a_less (lle_same (lle_same (lle_drop (lle_same (lle_drop (lle_same (lle_same (lle_same lle_nil)))))))) (hk82_12 h)
          · replace h := ie hc h
            exact a_less (lle_same (lle_same (lle_drop (lle_same (lle_drop (lle_same (lle_same (lle_same lle_nil)))))))) (hk78_11 h)
/-! ShelfDrives.cellOf(II)I -/
def XX9_cellOf (p1 : Int32) (p2 : Int32) : Option Int32 := some ((p1 * (14 : Int32)) + p2)
theorem kX9_cellOf {SH : List Shp} {p1 : Int32} {p2 : Int32} {σ : Sg} {rr : Int32}  (h : XX9_cellOf p1 p2 = some rr) : Ci MX9_cellOf [.int p1, .int p2] SH σ (rr, σ) := by
  refine Ci.start rfl rfl (Nat.le_of_ble_eq_true rfl) ?_
  intro X ad C R
  replace C : Cx X cX9_cellOf 2 RX9 (some .int) { frames := 0, cells := 0, slots := 0, locals := 0 } := C
  replace R : Ri X cX9_cellOf (some .int) ad SH (rr, σ) := R
  show AW X 0 0 ad SH σ 0 [some (.int p1), some (.int p2)] []
  rw [XX9_cellOf] at h
  refine a_iload_n C eX9_cellOf_0 rfl ?_
  refine a_bipush C eX9_cellOf_1 (14 : Int32) c_bipush_14 ?_
  refine a_imul C eX9_cellOf_3 ?_
  refine a_iload_n C eX9_cellOf_4 rfl ?_
  refine a_iadd C eX9_cellOf_5 ?_
  exact rt_p R eX9_cellOf_6 h nb_int
/-! ShelfDrives$Common.sellDay(II)I -/
def LX1_sellDay_5 (p1 : Int32) (p2 : Int32) : Nat → Int32 → Int32 → Sg → Option (Int32 × Sg)
  | 0, _, _, _ => none
  | n + 1, x3_1, x4_2, σ_3 => if (σ_3 2 6) ≤ x4_2 then (some (x3_1, σ_3)) else (lt (fun (x3_4 : Int32) (σ_5 : Sg) => lt (x4_2 + (1 : Int32)) (fun (x4_7 : Int32) => LX1_sellDay_5 p1 p2 n x3_4 x4_7 σ_5)) (fun (k85_6 : Int32 → Sg → Option (Int32 × Sg)) => if ((p2 >>> (x4_2 &&& 31)) &&& (1 : Int32)) = (1 : Int32) then (if ib x4_2 6 then b1 (XX9_cellOf x4_2 p1) (fun (r_9 : Int32) => if ib r_9 84 then lt (if (σ_3 7 r_9.toNatClampNeg) < (σ_3 59 x4_2.toNatClampNeg) then (σ_3 7 r_9.toNatClampNeg) else (σ_3 59 x4_2.toNatClampNeg)) (fun (x5_11 : Int32) => lt (up σ_3 59 x4_2.toNatClampNeg ((σ_3 59 x4_2.toNatClampNeg) - x5_11)) (fun (σ_12 : Sg) => b1 (XX9_cellOf x4_2 p1) (fun (r_13 : Int32) => if ib r_13 84 then lt (x3_1 + ((σ_12 7 r_13.toNatClampNeg) - x5_11)) (fun (x3_15 : Int32) => k85_6 x3_15 σ_12) else none))) else none) else none) else (k85_6 x3_1 σ_3)))
def XX1_sellDay (p1 : Int32) (p2 : Int32) (σ : Sg) : Option (Int32 × Sg) := LX1_sellDay_5 p1 p2 FUEL (0 : Int32) (0 : Int32) σ
theorem lX1_sellDay_5 {ext : List Shp} {X : CT} {ad : Nat → Nat} {rr : (Int32 × Sg)} {p1 : Int32} {p2 : Int32}  (C : Cx X cX1_sellDay 6 RX1 (some .int) { frames := 1, cells := 0, slots := 0, locals := 21 }) (R : Ri X cX1_sellDay (some .int) ad (SHc ++ ext) rr)  : ∀ (n : Nat) (x3_1 : Int32) (x4_2 : Int32) (σ_3 : Sg), LX1_sellDay_5 p1 p2 n x3_1 x4_2 σ_3 = some rr → AW X 0 0 ad (SHc ++ ext) σ_3 5 [some (.ref 55), some (.int p1), some (.int p2), some (.int x3_1), some (.int x4_2), none] [] := by
  intro n
  induction n with
  | zero =>
    intro x3_1 x4_2 σ_3 h
    rw [LX1_sellDay_5] at h
    cases h
  | succ n ih =>
    intro x3_1 x4_2 σ_3 h
    rw [LX1_sellDay_5] at h
    refine a_iload C eX1_sellDay_5 rfl ?_
    refine a_aload_n C eX1_sellDay_7 rfl ?_
    refine a_getR C eX1_sellDay_8 fX1_27 sh_55 rfl ?_
    refine a_getI C eX1_sellDay_11 fX1_51 sh_2 rfl ?_
    refine a_icmp_ge C eX1_sellDay_14 (fun hc => ?_) (fun hc => ?_)
    · replace h := it hc h
      refine a_iload_n C eX1_sellDay_91 rfl ?_
      exact rt_i R eX1_sellDay_92 h nb_int
    · replace h := ie hc h
      refine a_iload_n C eX1_sellDay_17 rfl ?_
      refine a_iload C eX1_sellDay_18 rfl ?_
      refine a_ishr C eX1_sellDay_20 ?_
      refine a_iconst C eX1_sellDay_21 (1 : Int32) c_iconst_1 ?_
      refine a_iand C eX1_sellDay_22 ?_
      refine a_iconst C eX1_sellDay_23 (1 : Int32) c_iconst_1 ?_
      refine jn (fun (kk : Int32 → Sg → Option (Int32 × Sg)) => ∀ (x3_4 : Int32) (σ_5 : Sg), kk x3_4 σ_5 = some rr → AW X 0 0 ad (SHc ++ ext) σ_5 85 [some (.ref 55), some (.int p1), some (.int p2), some (.int x3_4), some (.int x4_2), none] []) h ?_ (fun k85_6 hk85_6 h => ?_)
      · intro x3_4 σ_5 h
        refine a_inc C eX1_sellDay_85 rfl c_iconst_1 h (fun z => [some (.ref 55), some (.int p1), some (.int p2), some (.int x3_4), some (.int z), none]) (fun _ => rfl) (fun x4_7 h => ?_)
        refine a_goto C eX1_sellDay_88 ?_
        exact a_less (lle_same (lle_same (lle_same (lle_same (lle_same (lle_same lle_nil)))))) (ih _ _ _ h)
      refine a_icmp_ne C eX1_sellDay_24 (fun hc => ?_) (fun hc => ?_)
      · replace h := ie hc h
        exact a_less (lle_same (lle_same (lle_same (lle_same (lle_same (lle_same lle_nil)))))) (hk85_6 _ _ h)
      · replace h := it hc h
        refine a_aload_n C eX1_sellDay_27 rfl ?_
        refine a_getR C eX1_sellDay_28 fX1_21 sh_55 rfl ?_
        refine a_iload C eX1_sellDay_31 rfl ?_
        obtain ⟨hb_8, h⟩ := gd h
        refine a_iald C eX1_sellDay_33 sh_59 hb_8 ?_
        refine a_aload_n C eX1_sellDay_34 rfl ?_
        refine a_getR C eX1_sellDay_35 fX1_27 sh_55 rfl ?_
        refine a_getR C eX1_sellDay_38 fX1_100 sh_2 rfl ?_
        refine a_iload C eX1_sellDay_41 rfl ?_
        refine a_iload_n C eX1_sellDay_43 rfl ?_
        obtain ⟨r_9, hq, h⟩ := b1_e h
        refine a_cNi2 C eX1_sellDay_44 wX1_103 ⟨Nat.le_of_ble_eq_true rfl, Nat.le_of_ble_eq_true rfl, rfl, rfl⟩ rfl (kX9_cellOf hq) (Nat.le_of_ble_eq_true rfl) ?_
        obtain ⟨hb_10, h⟩ := gd h
        refine a_iald C eX1_sellDay_47 sh_7 hb_10 ?_
        refine a_min C eX1_sellDay_48 wX1_106 ⟨Nat.le_of_ble_eq_true rfl, Nat.le_of_ble_eq_true rfl⟩ rfl (Nat.le_of_ble_eq_true rfl) ?_
        refine a_lt h (fun x5_11 h => ?_)
        refine a_ist C eX1_sellDay_51 (Nat.le_of_ble_eq_true rfl) [some (.ref 55), some (.int p1), some (.int p2), some (.int x3_1), some (.int x4_2), some (.int x5_11)] rfl ?_
        refine a_aload_n C eX1_sellDay_53 rfl ?_
        refine a_getR C eX1_sellDay_54 fX1_21 sh_55 rfl ?_
        refine a_iload C eX1_sellDay_57 rfl ?_
        refine a_dup2 C eX1_sellDay_59 rfl rfl ?_
        refine a_iald C eX1_sellDay_60 sh_59 hb_8 ?_
        refine a_iload C eX1_sellDay_61 rfl ?_
        refine a_isub C eX1_sellDay_63 ?_
        refine a_iastL C eX1_sellDay_64 sh_59 hb_8 h (fun σ_12 h => ?_)
        refine a_iload_n C eX1_sellDay_65 rfl ?_
        refine a_aload_n C eX1_sellDay_66 rfl ?_
        refine a_getR C eX1_sellDay_67 fX1_27 sh_55 rfl ?_
        refine a_getR C eX1_sellDay_70 fX1_100 sh_2 rfl ?_
        refine a_iload C eX1_sellDay_73 rfl ?_
        refine a_iload_n C eX1_sellDay_75 rfl ?_
        obtain ⟨r_13, hq, h⟩ := b1_e h
        refine a_cNi2 C eX1_sellDay_76 wX1_103 ⟨Nat.le_of_ble_eq_true rfl, Nat.le_of_ble_eq_true rfl, rfl, rfl⟩ rfl (kX9_cellOf hq) (Nat.le_of_ble_eq_true rfl) ?_
        obtain ⟨hb_14, h⟩ := gd h
        refine a_iald C eX1_sellDay_79 sh_7 hb_14 ?_
        refine a_iload C eX1_sellDay_80 rfl ?_
        refine a_isub C eX1_sellDay_82 ?_
        refine a_iadd C eX1_sellDay_83 ?_
        refine a_lt h (fun x3_15 h => ?_)
        refine a_ist_n C eX1_sellDay_84 (Nat.le_of_ble_eq_true rfl) [some (.ref 55), some (.int p1), some (.int p2), some (.int x3_15), some (.int x4_2), some (.int x5_11)] rfl ?_
        exact a_less (lle_same (lle_same (lle_same (lle_same (lle_same (lle_drop lle_nil)))))) (hk85_6 _ _ h)
theorem kX1_sellDay {ext : List Shp} {p1 : Int32} {p2 : Int32} {σ : Sg} {rr : (Int32 × Sg)}  (h : XX1_sellDay p1 p2 σ = some rr) : Ci MX1_sellDay [.ref 55, .int p1, .int p2] (SHc ++ ext) σ rr := by
  refine Ci.start rfl rfl (Nat.le_of_ble_eq_true rfl) ?_
  intro X ad C R
  replace C : Cx X cX1_sellDay 6 RX1 (some .int) { frames := 1, cells := 0, slots := 0, locals := 21 } := C
  replace R : Ri X cX1_sellDay (some .int) ad (SHc ++ ext) rr := R
  show AW X 0 0 ad (SHc ++ ext) σ 0 [some (.ref 55), some (.int p1), some (.int p2), none, none, none] []
  rw [XX1_sellDay] at h
  refine a_iconst C eX1_sellDay_0 (0 : Int32) c_iconst_0 ?_
  refine a_ist_n C eX1_sellDay_1 (Nat.le_of_ble_eq_true rfl) [some (.ref 55), some (.int p1), some (.int p2), some (.int (0 : Int32)), none, none] rfl ?_
  refine a_iconst C eX1_sellDay_2 (0 : Int32) c_iconst_0 ?_
  refine a_ist C eX1_sellDay_3 (Nat.le_of_ble_eq_true rfl) [some (.ref 55), some (.int p1), some (.int p2), some (.int (0 : Int32)), some (.int (0 : Int32)), none] rfl ?_
  exact a_less (lle_same (lle_same (lle_same (lle_same (lle_same (lle_same lle_nil)))))) (lX1_sellDay_5  C R  _ _ _ _ h)
/-! ShelfDrives$Common.stockOf(I)I -/
def LX1_stockOf_4 (p1 : Int32) (σ : Sg) : Nat → Int32 → Int32 → Option Int32
  | 0, _, _ => none
  | n + 1, x2_1, x3_2 => if (σ 2 6) ≤ x3_2 then (some x2_1) else (lt (fun (s_3 : Int32) => lt (x2_1 + s_3) (fun (x2_5 : Int32) => lt (x3_2 + (1 : Int32)) (fun (x3_6 : Int32) => LX1_stockOf_4 p1 σ n x2_5 x3_6))) (fun (k35_4 : Int32 → Option Int32) => if ((p1 >>> (x3_2 &&& 31)) &&& (1 : Int32)) = (1 : Int32) then (if ib x3_2 6 then k35_4 (σ 59 x3_2.toNatClampNeg) else none) else (k35_4 (0 : Int32))))
def XX1_stockOf (p1 : Int32) (σ : Sg) : Option Int32 := LX1_stockOf_4 p1 σ FUEL (0 : Int32) (0 : Int32)
theorem lX1_stockOf_4 {ext : List Shp} {X : CT} {ad : Nat → Nat} {rr : Int32} {p1 : Int32} {σ : Sg}  (C : Cx X cX1_stockOf 4 RX1 (some .int) { frames := 0, cells := 0, slots := 0, locals := 0 }) (R : Ri X cX1_stockOf (some .int) ad (SHc ++ ext) (rr, σ))  : ∀ (n : Nat) (x2_1 : Int32) (x3_2 : Int32), LX1_stockOf_4 p1 σ n x2_1 x3_2 = some rr → AW X 0 0 ad (SHc ++ ext) σ 4 [some (.ref 55), some (.int p1), some (.int x2_1), some (.int x3_2)] [] := by
  intro n
  induction n with
  | zero =>
    intro x2_1 x3_2 h
    rw [LX1_stockOf_4] at h
    cases h
  | succ n ih =>
    intro x2_1 x3_2 h
    rw [LX1_stockOf_4] at h
    refine a_iload_n C eX1_stockOf_4 rfl ?_
    refine a_aload_n C eX1_stockOf_5 rfl ?_
    refine a_getR C eX1_stockOf_6 fX1_27 sh_55 rfl ?_
    refine a_getI C eX1_stockOf_9 fX1_51 sh_2 rfl ?_
    refine a_icmp_ge C eX1_stockOf_12 (fun hc => ?_) (fun hc => ?_)
    · replace h := it hc h
      refine a_iload_n C eX1_stockOf_43 rfl ?_
      exact rt_p R eX1_stockOf_44 h nb_int
    · replace h := ie hc h
      refine a_iload_n C eX1_stockOf_15 rfl ?_
      refine a_iload_n C eX1_stockOf_16 rfl ?_
      refine a_iload_n C eX1_stockOf_17 rfl ?_
      refine a_ishr C eX1_stockOf_18 ?_
      refine a_iconst C eX1_stockOf_19 (1 : Int32) c_iconst_1 ?_
      refine a_iand C eX1_stockOf_20 ?_
      refine a_iconst C eX1_stockOf_21 (1 : Int32) c_iconst_1 ?_
      refine jn (fun (kk : Int32 → Option Int32) => ∀ (s_3 : Int32), kk s_3 = some rr → AW X 0 0 ad (SHc ++ ext) σ 35 [some (.ref 55), some (.int p1), none, some (.int x3_2)] [.int s_3, .int x2_1]) h ?_ (fun k35_4 hk35_4 h => ?_)
      · intro s_3 h
        refine a_iadd C eX1_stockOf_35 ?_
        refine a_lt h (fun x2_5 h => ?_)
        refine a_ist_n C eX1_stockOf_36 (Nat.le_of_ble_eq_true rfl) [some (.ref 55), some (.int p1), some (.int x2_5), some (.int x3_2)] rfl ?_
        refine a_inc C eX1_stockOf_37 rfl c_iconst_1 h (fun z => [some (.ref 55), some (.int p1), some (.int x2_5), some (.int z)]) (fun _ => rfl) (fun x3_6 h => ?_)
        refine a_goto C eX1_stockOf_40 ?_
        exact a_less (lle_same (lle_same (lle_same (lle_same lle_nil)))) (ih _ _ h)
      refine a_icmp_ne C eX1_stockOf_22 (fun hc => ?_) (fun hc => ?_)
      · replace h := ie hc h
        refine a_iconst C eX1_stockOf_34 (0 : Int32) c_iconst_0 ?_
        exact a_less (lle_same (lle_same (lle_drop (lle_same lle_nil)))) (hk35_4 _ h)
      · replace h := it hc h
        refine a_aload_n C eX1_stockOf_25 rfl ?_
        refine a_getR C eX1_stockOf_26 fX1_21 sh_55 rfl ?_
        refine a_iload_n C eX1_stockOf_29 rfl ?_
        obtain ⟨hb_7, h⟩ := gd h
        refine a_iald C eX1_stockOf_30 sh_59 hb_7 ?_
        refine a_goto C eX1_stockOf_31 ?_
        exact a_less (lle_same (lle_same (lle_drop (lle_same lle_nil)))) (hk35_4 _ h)
theorem kX1_stockOf {ext : List Shp} {p1 : Int32} {σ : Sg} {rr : Int32}  (h : XX1_stockOf p1 σ = some rr) : Ci MX1_stockOf [.ref 55, .int p1] (SHc ++ ext) σ (rr, σ) := by
  refine Ci.start rfl rfl (Nat.le_of_ble_eq_true rfl) ?_
  intro X ad C R
  replace C : Cx X cX1_stockOf 4 RX1 (some .int) { frames := 0, cells := 0, slots := 0, locals := 0 } := C
  replace R : Ri X cX1_stockOf (some .int) ad (SHc ++ ext) (rr, σ) := R
  show AW X 0 0 ad (SHc ++ ext) σ 0 [some (.ref 55), some (.int p1), none, none] []
  rw [XX1_stockOf] at h
  refine a_iconst C eX1_stockOf_0 (0 : Int32) c_iconst_0 ?_
  refine a_ist_n C eX1_stockOf_1 (Nat.le_of_ble_eq_true rfl) [some (.ref 55), some (.int p1), some (.int (0 : Int32)), none] rfl ?_
  refine a_iconst C eX1_stockOf_2 (0 : Int32) c_iconst_0 ?_
  refine a_ist_n C eX1_stockOf_3 (Nat.le_of_ble_eq_true rfl) [some (.ref 55), some (.int p1), some (.int (0 : Int32)), some (.int (0 : Int32))] rfl ?_
  exact a_less (lle_same (lle_same (lle_same (lle_same lle_nil)))) (lX1_stockOf_4  C R  _ _ _ h)
/-! ShelfDrives$Common.goOn(IIZ)V -/
def LX1_goOn_72 (p1 : Int32) (p2 : Int32) (p3 : Int32) (k165_8 : Int32 → Sg → Option Sg) : Nat → Int32 → Int32 → Sg → Option Sg
  | 0, _, _, _ => none
  | n + 1, x4_10, x5_11, σ_12 => if (σ_12 2 0) ≤ x5_11 then (k165_8 x4_10 σ_12) else (lt (fun (σ_13 : Sg) => b2 (XX1_sellDay x5_11 p2 σ_13) (fun (r_15 : Int32) (σ_16 : Sg) => lt (b1 (XX1_stockOf p2 σ_16) (fun (r_18 : Int32) => lt (x4_10 + (((σ_16 2 5) * r_15) + ((σ_16 2 4) * r_18))) (fun (x4_19 : Int32) => lt (x5_11 + (1 : Int32)) (fun (x5_20 : Int32) => LX1_goOn_72 p1 p2 p3 k165_8 n x4_19 x5_20 σ_16)))) (fun (k130_17 : Option Sg) => if r_15 ≤ 0 then (k130_17) else (if p3 = 0 then (some σ_16) else (k130_17))))) (fun (k111_14 : Sg → Option Sg) => if x5_11 < p1 then (k111_14 σ_12) else (b2 (XX1_visitPrice p2 σ_12) (fun (r_21 : Int32) (σ_22 : Sg) => b1 (XX1_offer (x5_11 + (1 : Int32)) p1 (x4_10 + r_21) ((1 : Int32) <<< (x5_11 &&& 31)) σ_22) (fun (σ_23 : Sg) => k111_14 σ_23)))))
def LX1_goOn_11 (p1 : Int32) (k63_4 : Sg → Option Sg) : Nat → Int32 → Sg → Option Sg
  | 0, _, _ => none
  | n + 1, x5_24, σ_25 => if (σ_25 2 6) ≤ x5_24 then (k63_4 σ_25) else (lt (fun (s_26 : Int32) => if ib x5_24 6 then lt (up σ_25 59 x5_24.toNatClampNeg s_26) (fun (σ_28 : Sg) => lt (x5_24 + (1 : Int32)) (fun (x5_30 : Int32) => LX1_goOn_11 p1 k63_4 n x5_30 σ_28)) else none) (fun (k56_27 : Int32 → Option Sg) => if p1 = 0 then (if ib x5_24 6 then k56_27 (σ_25 6 x5_24.toNatClampNeg) else none) else (if ib x5_24 6 then k56_27 (σ_25 5 x5_24.toNatClampNeg) else none)))
def XX1_goOn (p1 : Int32) (p2 : Int32) (p3 : Int32) (σ : Sg) : Option Sg := if ib p1 16 then lt (σ 56 p1.toNatClampNeg) (fun (x4_2 : Int32) => lt (fun (σ_3 : Sg) => lt (if (0 : Int32) < (p1 - (1 : Int32)) then (p1 - (1 : Int32)) else (0 : Int32)) (fun (x5_5 : Int32) => lt (fun (x4_6 : Int32) (σ_7 : Sg) => b1 (XX1_offer ((σ_7 2 0) + (1 : Int32)) p1 x4_6 (0 : Int32) σ_7) (fun (σ_9 : Sg) => some σ_9)) (fun (k165_8 : Int32 → Sg → Option Sg) => LX1_goOn_72 p1 p2 p3 k165_8 FUEL x4_2 x5_5 σ_3))) (fun (k63_4 : Sg → Option Sg) => LX1_goOn_11 p1 k63_4 FUEL (0 : Int32) σ)) else none
theorem lX1_goOn_72 {ext : List Shp} {X : CT} {ad : Nat → Nat} {rr : Sg} {p1 : Int32} {p2 : Int32} {p3 : Int32} {k165_8 : Int32 → Sg → Option Sg}  (C : Cx X cX1_goOn 7 RX1 none { frames := 3, cells := 0, slots := 0, locals := 75 }) (R : Rv X cX1_goOn ad (SHc ++ ext) rr) (hk165_8 : ∀ (x4_6 : Int32) (σ_7 : Sg), k165_8 x4_6 σ_7 = some rr → AW X 0 0 ad (SHc ++ ext) σ_7 165 [some (.ref 55), some (.int p1), none, none, some (.int x4_6), none, none] []) : ∀ (n : Nat) (x4_10 : Int32) (x5_11 : Int32) (σ_12 : Sg), LX1_goOn_72 p1 p2 p3 k165_8 n x4_10 x5_11 σ_12 = some rr → AW X 0 0 ad (SHc ++ ext) σ_12 72 [some (.ref 55), some (.int p1), some (.int p2), some (.int p3), some (.int x4_10), some (.int x5_11), none] [] := by
  intro n
  induction n with
  | zero =>
    intro x4_10 x5_11 σ_12 h
    rw [LX1_goOn_72] at h
    cases h
  | succ n ih =>
    intro x4_10 x5_11 σ_12 h
    rw [LX1_goOn_72] at h
    refine a_iload C eX1_goOn_72 rfl ?_
    refine a_aload_n C eX1_goOn_74 rfl ?_
    refine a_getR C eX1_goOn_75 fX1_27 sh_55 rfl ?_
    refine a_getI C eX1_goOn_78 fX1_35 sh_2 rfl ?_
    refine a_icmp_ge C eX1_goOn_81 (fun hc => ?_) (fun hc => ?_)
    · replace h := it hc h
      exact a_less (lle_same (lle_same (lle_drop (lle_drop (lle_same (lle_drop (lle_same lle_nil))))))) (hk165_8 _ _ h)
    · replace h := ie hc h
      refine a_iload C eX1_goOn_84 rfl ?_
      refine a_iload_n C eX1_goOn_86 rfl ?_
      refine jn (fun (kk : Sg → Option Sg) => ∀ (σ_13 : Sg), kk σ_13 = some rr → AW X 0 0 ad (SHc ++ ext) σ_13 111 [some (.ref 55), some (.int p1), some (.int p2), some (.int p3), some (.int x4_10), some (.int x5_11), none] []) h ?_ (fun k111_14 hk111_14 h => ?_)
      · intro σ_13 h
        refine a_aload_n C eX1_goOn_111 rfl ?_
        refine a_iload C eX1_goOn_112 rfl ?_
        refine a_iload_n C eX1_goOn_114 rfl ?_
        obtain ⟨r_15, σ_16, hq, h⟩ := b2_e h
        refine a_cVi2 C eX1_goOn_115 wX1_74 ⟨Nat.le_of_ble_eq_true rfl, Nat.le_of_ble_eq_true rfl, rfl, rfl⟩ rfl sh_55 rfl (kX1_sellDay hq) (Nat.le_of_ble_eq_true rfl) ?_
        refine a_ist C eX1_goOn_118 (Nat.le_of_ble_eq_true rfl) [some (.ref 55), some (.int p1), some (.int p2), some (.int p3), some (.int x4_10), some (.int x5_11), some (.int r_15)] rfl ?_
        refine a_iload C eX1_goOn_120 rfl ?_
        refine jn (fun (kk : Option Sg) => kk = some rr → AW X 0 0 ad (SHc ++ ext) σ_16 130 [some (.ref 55), some (.int p1), some (.int p2), some (.int p3), some (.int x4_10), some (.int x5_11), some (.int r_15)] []) h ?_ (fun k130_17 hk130_17 h => ?_)
        · intro h
          refine a_iload C eX1_goOn_130 rfl ?_
          refine a_aload_n C eX1_goOn_132 rfl ?_
          refine a_getR C eX1_goOn_133 fX1_27 sh_55 rfl ?_
          refine a_getI C eX1_goOn_136 fX1_77 sh_2 rfl ?_
          refine a_iload C eX1_goOn_139 rfl ?_
          refine a_imul C eX1_goOn_141 ?_
          refine a_aload_n C eX1_goOn_142 rfl ?_
          refine a_getR C eX1_goOn_143 fX1_27 sh_55 rfl ?_
          refine a_getI C eX1_goOn_146 fX1_80 sh_2 rfl ?_
          refine a_aload_n C eX1_goOn_149 rfl ?_
          refine a_iload_n C eX1_goOn_150 rfl ?_
          obtain ⟨r_18, hq, h⟩ := b1_e h
          refine a_cVi1 C eX1_goOn_151 wX1_83 ⟨Nat.le_of_ble_eq_true rfl, Nat.le_of_ble_eq_true rfl, rfl, rfl⟩ rfl sh_55 rfl (kX1_stockOf hq) (Nat.le_of_ble_eq_true rfl) ?_
          refine a_imul C eX1_goOn_154 ?_
          refine a_iadd C eX1_goOn_155 ?_
          refine a_iadd C eX1_goOn_156 ?_
          refine a_lt h (fun x4_19 h => ?_)
          refine a_ist C eX1_goOn_157 (Nat.le_of_ble_eq_true rfl) [some (.ref 55), some (.int p1), some (.int p2), some (.int p3), some (.int x4_19), some (.int x5_11), some (.int r_15)] rfl ?_
          refine a_inc C eX1_goOn_159 rfl c_iconst_1 h (fun z => [some (.ref 55), some (.int p1), some (.int p2), some (.int p3), some (.int x4_19), some (.int z), some (.int r_15)]) (fun _ => rfl) (fun x5_20 h => ?_)
          refine a_goto C eX1_goOn_162 ?_
          exact a_less (lle_same (lle_same (lle_same (lle_same (lle_same (lle_same (lle_drop lle_nil))))))) (ih _ _ _ h)
        refine a_if_le C eX1_goOn_122 (fun hc => ?_) (fun hc => ?_)
        · replace h := it hc h
          exact a_less (lle_same (lle_same (lle_same (lle_same (lle_same (lle_same (lle_same lle_nil))))))) (hk130_17 h)
        · replace h := ie hc h
          refine a_iload_n C eX1_goOn_125 rfl ?_
          refine a_if_ne C eX1_goOn_126 (fun hc => ?_) (fun hc => ?_)
          · replace h := ie hc h
            exact a_less (lle_same (lle_same (lle_same (lle_same (lle_same (lle_same (lle_same lle_nil))))))) (hk130_17 h)
          · replace h := it hc h
            exact rt_v R eX1_goOn_129 h
      refine a_icmp_lt C eX1_goOn_87 (fun hc => ?_) (fun hc => ?_)
      · replace h := it hc h
        exact a_less (lle_same (lle_same (lle_same (lle_same (lle_same (lle_same (lle_same lle_nil))))))) (hk111_14 _ h)
      · replace h := ie hc h
        refine a_aload_n C eX1_goOn_90 rfl ?_
        refine a_iload C eX1_goOn_91 rfl ?_
        refine a_iconst C eX1_goOn_93 (1 : Int32) c_iconst_1 ?_
        refine a_iadd C eX1_goOn_94 ?_
        refine a_iload_n C eX1_goOn_95 rfl ?_
        refine a_iload C eX1_goOn_96 rfl ?_
        refine a_aload_n C eX1_goOn_98 rfl ?_
        refine a_iload_n C eX1_goOn_99 rfl ?_
        obtain ⟨r_21, σ_22, hq, h⟩ := b2_e h
        refine a_cVi1 C eX1_goOn_100 wX1_66 ⟨Nat.le_of_ble_eq_true rfl, Nat.le_of_ble_eq_true rfl, rfl, rfl⟩ rfl sh_55 rfl (kX1_visitPrice hq) (Nat.le_of_ble_eq_true rfl) ?_
        refine a_iadd C eX1_goOn_103 ?_
        refine a_iconst C eX1_goOn_104 (1 : Int32) c_iconst_1 ?_
        refine a_iload C eX1_goOn_105 rfl ?_
        refine a_ishl C eX1_goOn_107 ?_
        obtain ⟨σ_23, hq, h⟩ := b1_e h
        refine a_cVv4 C eX1_goOn_108 wX1_70 ⟨Nat.le_of_ble_eq_true rfl, Nat.le_of_ble_eq_true rfl, rfl, rfl⟩ rfl sh_55 rfl (kX1_offer hq) (Nat.le_of_ble_eq_true rfl) ?_
        exact a_less (lle_same (lle_same (lle_same (lle_same (lle_same (lle_same (lle_same lle_nil))))))) (hk111_14 _ h)
theorem lX1_goOn_11 {ext : List Shp} {X : CT} {ad : Nat → Nat} {rr : Sg} {p1 : Int32} {p2 : Int32} {p3 : Int32} {x4_2 : Int32} {k63_4 : Sg → Option Sg}  (C : Cx X cX1_goOn 7 RX1 none { frames := 3, cells := 0, slots := 0, locals := 75 }) (R : Rv X cX1_goOn ad (SHc ++ ext) rr) (hk63_4 : ∀ (σ_3 : Sg), k63_4 σ_3 = some rr → AW X 0 0 ad (SHc ++ ext) σ_3 63 [some (.ref 55), some (.int p1), some (.int p2), some (.int p3), some (.int x4_2), none, none] []) : ∀ (n : Nat) (x5_24 : Int32) (σ_25 : Sg), LX1_goOn_11 p1 k63_4 n x5_24 σ_25 = some rr → AW X 0 0 ad (SHc ++ ext) σ_25 11 [some (.ref 55), some (.int p1), some (.int p2), some (.int p3), some (.int x4_2), some (.int x5_24), none] [] := by
  intro n
  induction n with
  | zero =>
    intro x5_24 σ_25 h
    rw [LX1_goOn_11] at h
    cases h
  | succ n ih =>
    intro x5_24 σ_25 h
    rw [LX1_goOn_11] at h
    refine a_iload C eX1_goOn_11 rfl ?_
    refine a_aload_n C eX1_goOn_13 rfl ?_
    refine a_getR C eX1_goOn_14 fX1_27 sh_55 rfl ?_
    refine a_getI C eX1_goOn_17 fX1_51 sh_2 rfl ?_
    refine a_icmp_ge C eX1_goOn_20 (fun hc => ?_) (fun hc => ?_)
    · replace h := it hc h
      exact a_less (lle_same (lle_same (lle_same (lle_same (lle_same (lle_drop (lle_same lle_nil))))))) (hk63_4 _ h)
    · replace h := ie hc h
      refine a_aload_n C eX1_goOn_23 rfl ?_
      refine a_getR C eX1_goOn_24 fX1_21 sh_55 rfl ?_
      refine a_iload C eX1_goOn_27 rfl ?_
      refine a_iload_n C eX1_goOn_29 rfl ?_
      refine jn (fun (kk : Int32 → Option Sg) => ∀ (s_26 : Int32), kk s_26 = some rr → AW X 0 0 ad (SHc ++ ext) σ_25 56 [some (.ref 55), some (.int p1), some (.int p2), some (.int p3), some (.int x4_2), some (.int x5_24), none] [.int s_26, .int x5_24, .ref 59]) h ?_ (fun k56_27 hk56_27 h => ?_)
      · intro s_26 h
        obtain ⟨hb_29, h⟩ := gd h
        refine a_iastL C eX1_goOn_56 sh_59 hb_29 h (fun σ_28 h => ?_)
        refine a_inc C eX1_goOn_57 rfl c_iconst_1 h (fun z => [some (.ref 55), some (.int p1), some (.int p2), some (.int p3), some (.int x4_2), some (.int z), none]) (fun _ => rfl) (fun x5_30 h => ?_)
        refine a_goto C eX1_goOn_60 ?_
        exact a_less (lle_same (lle_same (lle_same (lle_same (lle_same (lle_same (lle_same lle_nil))))))) (ih _ _ h)
      refine a_if_ne C eX1_goOn_30 (fun hc => ?_) (fun hc => ?_)
      · replace h := ie hc h
        refine a_aload_n C eX1_goOn_46 rfl ?_
        refine a_getR C eX1_goOn_47 fX1_27 sh_55 rfl ?_
        refine a_getR C eX1_goOn_50 fX1_57 sh_2 rfl ?_
        refine a_iload C eX1_goOn_53 rfl ?_
        obtain ⟨hb_31, h⟩ := gd h
        refine a_iald C eX1_goOn_55 sh_5 hb_31 ?_
        exact a_less (lle_same (lle_same (lle_same (lle_same (lle_same (lle_same (lle_same lle_nil))))))) (hk56_27 _ h)
      · replace h := it hc h
        refine a_aload_n C eX1_goOn_33 rfl ?_
        refine a_getR C eX1_goOn_34 fX1_27 sh_55 rfl ?_
        refine a_getR C eX1_goOn_37 fX1_54 sh_2 rfl ?_
        refine a_iload C eX1_goOn_40 rfl ?_
        obtain ⟨hb_32, h⟩ := gd h
        refine a_iald C eX1_goOn_42 sh_6 hb_32 ?_
        refine a_goto C eX1_goOn_43 ?_
        exact a_less (lle_same (lle_same (lle_same (lle_same (lle_same (lle_same (lle_same lle_nil))))))) (hk56_27 _ h)
theorem kX1_goOn {ext : List Shp} {p1 : Int32} {p2 : Int32} {p3 : Int32} {σ : Sg} {rr : Sg}  (h : XX1_goOn p1 p2 p3 σ = some rr) : Cv MX1_goOn [.ref 55, .int p1, .int p2, .int p3] (SHc ++ ext) σ rr := by
  refine Cv.start rfl rfl (Nat.le_of_ble_eq_true rfl) rfl ?_
  intro X ad C R
  replace C : Cx X cX1_goOn 7 RX1 none { frames := 3, cells := 0, slots := 0, locals := 75 } := C
  replace R : Rv X cX1_goOn ad (SHc ++ ext) rr := R
  show AW X 0 0 ad (SHc ++ ext) σ 0 [some (.ref 55), some (.int p1), some (.int p2), some (.int p3), none, none, none] []
  rw [XX1_goOn] at h
  refine a_aload_n C eX1_goOn_0 rfl ?_
  refine a_getR C eX1_goOn_1 fX1_9 sh_55 rfl ?_
  refine a_iload_n C eX1_goOn_4 rfl ?_
  obtain ⟨hb_1, h⟩ := gd h
  refine a_iald C eX1_goOn_5 sh_56 hb_1 ?_
  refine a_lt h (fun x4_2 h => ?_)
  refine a_ist C eX1_goOn_6 (Nat.le_of_ble_eq_true rfl) [some (.ref 55), some (.int p1), some (.int p2), some (.int p3), some (.int x4_2), none, none] rfl ?_
  refine a_iconst C eX1_goOn_8 (0 : Int32) c_iconst_0 ?_
  refine a_ist C eX1_goOn_9 (Nat.le_of_ble_eq_true rfl) [some (.ref 55), some (.int p1), some (.int p2), some (.int p3), some (.int x4_2), some (.int (0 : Int32)), none] rfl ?_
  refine jn (fun (kk : Sg → Option Sg) => ∀ (σ_3 : Sg), kk σ_3 = some rr → AW X 0 0 ad (SHc ++ ext) σ_3 63 [some (.ref 55), some (.int p1), some (.int p2), some (.int p3), some (.int x4_2), none, none] []) h ?_ (fun k63_4 hk63_4 h => ?_)
  · intro σ_3 h
    refine a_iconst C eX1_goOn_63 (0 : Int32) c_iconst_0 ?_
    refine a_iload_n C eX1_goOn_64 rfl ?_
    refine a_iconst C eX1_goOn_65 (1 : Int32) c_iconst_1 ?_
    refine a_isub C eX1_goOn_66 ?_
    refine a_max C eX1_goOn_67 wX1_60 ⟨Nat.le_of_ble_eq_true rfl, Nat.le_of_ble_eq_true rfl⟩ rfl (Nat.le_of_ble_eq_true rfl) ?_
    refine a_lt h (fun x5_5 h => ?_)
    refine a_ist C eX1_goOn_70 (Nat.le_of_ble_eq_true rfl) [some (.ref 55), some (.int p1), some (.int p2), some (.int p3), some (.int x4_2), some (.int x5_5), none] rfl ?_
    refine jn (fun (kk : Int32 → Sg → Option Sg) => ∀ (x4_6 : Int32) (σ_7 : Sg), kk x4_6 σ_7 = some rr → AW X 0 0 ad (SHc ++ ext) σ_7 165 [some (.ref 55), some (.int p1), none, none, some (.int x4_6), none, none] []) h ?_ (fun k165_8 hk165_8 h => ?_)
    · intro x4_6 σ_7 h
      refine a_aload_n C eX1_goOn_165 rfl ?_
      refine a_aload_n C eX1_goOn_166 rfl ?_
      refine a_getR C eX1_goOn_167 fX1_27 sh_55 rfl ?_
      refine a_getI C eX1_goOn_170 fX1_35 sh_2 rfl ?_
      refine a_iconst C eX1_goOn_173 (1 : Int32) c_iconst_1 ?_
      refine a_iadd C eX1_goOn_174 ?_
      refine a_iload_n C eX1_goOn_175 rfl ?_
      refine a_iload C eX1_goOn_176 rfl ?_
      refine a_iconst C eX1_goOn_178 (0 : Int32) c_iconst_0 ?_
      obtain ⟨σ_9, hq, h⟩ := b1_e h
      refine a_cVv4 C eX1_goOn_179 wX1_70 ⟨Nat.le_of_ble_eq_true rfl, Nat.le_of_ble_eq_true rfl, rfl, rfl⟩ rfl sh_55 rfl (kX1_offer hq) (Nat.le_of_ble_eq_true rfl) ?_
      exact rt_v R eX1_goOn_182 h
    exact a_less (lle_same (lle_same (lle_same (lle_same (lle_same (lle_same (lle_same lle_nil))))))) (lX1_goOn_72  C R hk165_8 _ _ _ _ h)
  exact a_less (lle_same (lle_same (lle_same (lle_same (lle_same (lle_same (lle_same lle_nil))))))) (lX1_goOn_11  C R hk63_4 _ _ _ h)
/-! ShelfDrives$Common.findDays(IZ)Z -/
def LX1_findDays_40 (p1 : Int32) (p2 : Int32) (k75_7 : Sg → Option (Int32 × Sg)) : Nat → Int32 → Sg → Option (Int32 × Sg)
  | 0, _, _ => none
  | n + 1, x3_9, σ_10 => if (σ_10 2 0) < x3_9 then (k75_7 σ_10) else (if ib x3_9 16 then lt (fun (σ_12 : Sg) => lt (x3_9 + (1 : Int32)) (fun (x3_14 : Int32) => LX1_findDays_40 p1 p2 k75_7 n x3_14 σ_12)) (fun (k69_13 : Sg → Option (Int32 × Sg)) => if (σ_10 56 x3_9.toNatClampNeg) = (1000000000 : Int32) then (k69_13 σ_10) else (b1 (XX1_goOn x3_9 p1 p2 σ_10) (fun (σ_15 : Sg) => k69_13 σ_15))) else none)
def XX1_findDays (p1 : Int32) (p2 : Int32) (σ : Sg) : Option (Int32 × Sg) := b1 (XJ7_fill_53178 56 16 (1000000000 : Int32) σ) (fun (σ_1 : Sg) => b1 (XJ7_fill_53178 60 6 (0 : Int32) σ_1) (fun (σ_2 : Sg) => lt (up σ_2 56 0 (0 : Int32)) (fun (σ_3 : Sg) => lt (up σ_3 57 0 (0 : Int32)) (fun (σ_4 : Sg) => lt (up σ_4 58 0 (0 : Int32)) (fun (σ_5 : Sg) => lt (fun (σ_6 : Sg) => if ib ((σ_6 2 0) + (1 : Int32)) 16 then if (σ_6 56 ((σ_6 2 0) + (1 : Int32)).toNatClampNeg) = (1000000000 : Int32) then (some ((0 : Int32), σ_6)) else (some ((1 : Int32), σ_6)) else none) (fun (k75_7 : Sg → Option (Int32 × Sg)) => LX1_findDays_40 p1 p2 k75_7 FUEL (0 : Int32) σ_5))))))
theorem lX1_findDays_40 {ext : List Shp} {X : CT} {ad : Nat → Nat} {rr : (Int32 × Sg)} {p1 : Int32} {p2 : Int32} {k75_7 : Sg → Option (Int32 × Sg)}  (C : Cx X cX1_findDays 4 RX1 (some .boolean) { frames := 4, cells := 0, slots := 0, locals := 101 }) (R : Ri X cX1_findDays (some .boolean) ad (SHc ++ ext) rr) (hk75_7 : ∀ (σ_6 : Sg), k75_7 σ_6 = some rr → AW X 0 0 ad (SHc ++ ext) σ_6 75 [some (.ref 55), none, none, none] []) : ∀ (n : Nat) (x3_9 : Int32) (σ_10 : Sg), LX1_findDays_40 p1 p2 k75_7 n x3_9 σ_10 = some rr → AW X 0 0 ad (SHc ++ ext) σ_10 40 [some (.ref 55), some (.int p1), some (.int p2), some (.int x3_9)] [] := by
  intro n
  induction n with
  | zero =>
    intro x3_9 σ_10 h
    rw [LX1_findDays_40] at h
    cases h
  | succ n ih =>
    intro x3_9 σ_10 h
    rw [LX1_findDays_40] at h
    refine a_iload_n C eX1_findDays_40 rfl ?_
    refine a_aload_n C eX1_findDays_41 rfl ?_
    refine a_getR C eX1_findDays_42 fX1_27 sh_55 rfl ?_
    refine a_getI C eX1_findDays_45 fX1_35 sh_2 rfl ?_
    refine a_icmp_gt C eX1_findDays_48 (fun hc => ?_) (fun hc => ?_)
    · replace h := it hc h
      exact a_less (lle_same (lle_drop (lle_drop (lle_drop lle_nil)))) (hk75_7 _ h)
    · replace h := ie hc h
      refine a_aload_n C eX1_findDays_51 rfl ?_
      refine a_getR C eX1_findDays_52 fX1_9 sh_55 rfl ?_
      refine a_iload_n C eX1_findDays_55 rfl ?_
      obtain ⟨hb_11, h⟩ := gd h
      refine a_iald C eX1_findDays_56 sh_56 hb_11 ?_
      refine a_ldc C eX1_findDays_57 (1000000000 : Int32) wkX1_40 ?_
      refine jn (fun (kk : Sg → Option (Int32 × Sg)) => ∀ (σ_12 : Sg), kk σ_12 = some rr → AW X 0 0 ad (SHc ++ ext) σ_12 69 [some (.ref 55), some (.int p1), some (.int p2), some (.int x3_9)] []) h ?_ (fun k69_13 hk69_13 h => ?_)
      · intro σ_12 h
        refine a_inc C eX1_findDays_69 rfl c_iconst_1 h (fun z => [some (.ref 55), some (.int p1), some (.int p2), some (.int z)]) (fun _ => rfl) (fun x3_14 h => ?_)
        refine a_goto C eX1_findDays_72 ?_
        exact a_less (lle_same (lle_same (lle_same (lle_same lle_nil)))) (ih _ _ h)
      refine a_icmp_eq C eX1_findDays_59 (fun hc => ?_) (fun hc => ?_)
      · replace h := it hc h
        exact a_less (lle_same (lle_same (lle_same (lle_same lle_nil)))) (hk69_13 _ h)
      · replace h := ie hc h
        refine a_aload_n C eX1_findDays_62 rfl ?_
        refine a_iload_n C eX1_findDays_63 rfl ?_
        refine a_iload_n C eX1_findDays_64 rfl ?_
        refine a_iload_n C eX1_findDays_65 rfl ?_
        obtain ⟨σ_15, hq, h⟩ := b1_e h
        refine a_cVv3 C eX1_findDays_66 wX1_47 ⟨Nat.le_of_ble_eq_true rfl, Nat.le_of_ble_eq_true rfl, rfl, rfl⟩ rfl sh_55 rfl (kX1_goOn hq) (Nat.le_of_ble_eq_true rfl) ?_
        exact a_less (lle_same (lle_same (lle_same (lle_same lle_nil)))) (hk69_13 _ h)
theorem kX1_findDays {ext : List Shp} {p1 : Int32} {p2 : Int32} {σ : Sg} {rr : (Int32 × Sg)}  (h : XX1_findDays p1 p2 σ = some rr) : Ci MX1_findDays [.ref 55, .int p1, .int p2] (SHc ++ ext) σ rr := by
  refine Ci.start rfl rfl (Nat.le_of_ble_eq_true rfl) ?_
  intro X ad C R
  replace C : Cx X cX1_findDays 4 RX1 (some .boolean) { frames := 4, cells := 0, slots := 0, locals := 101 } := C
  replace R : Ri X cX1_findDays (some .boolean) ad (SHc ++ ext) rr := R
  show AW X 0 0 ad (SHc ++ ext) σ 0 [some (.ref 55), some (.int p1), some (.int p2), none] []
  rw [XX1_findDays] at h
  refine a_aload_n C eX1_findDays_0 rfl ?_
  refine a_getR C eX1_findDays_1 fX1_9 sh_55 rfl ?_
  refine a_ldc C eX1_findDays_4 (1000000000 : Int32) wkX1_40 ?_
  obtain ⟨σ_1, hq, h⟩ := b1_e h
  refine a_cSv2 C eX1_findDays_6 wX1_41 ⟨Nat.le_of_ble_eq_true rfl, Nat.le_of_ble_eq_true rfl, rfl, rfl⟩ rfl (kJ7_fill_53178 sh_56 hq) (Nat.le_of_ble_eq_true rfl) ?_
  refine a_aload_n C eX1_findDays_9 rfl ?_
  refine a_getR C eX1_findDays_10 fX1_24 sh_55 rfl ?_
  refine a_iconst C eX1_findDays_13 (0 : Int32) c_iconst_0 ?_
  obtain ⟨σ_2, hq, h⟩ := b1_e h
  refine a_cSv2 C eX1_findDays_14 wX1_41 ⟨Nat.le_of_ble_eq_true rfl, Nat.le_of_ble_eq_true rfl, rfl, rfl⟩ rfl (kJ7_fill_53178 sh_60 hq) (Nat.le_of_ble_eq_true rfl) ?_
  refine a_aload_n C eX1_findDays_17 rfl ?_
  refine a_getR C eX1_findDays_18 fX1_9 sh_55 rfl ?_
  refine a_iconst C eX1_findDays_21 (0 : Int32) c_iconst_0 ?_
  refine a_iconst C eX1_findDays_22 (0 : Int32) c_iconst_0 ?_
  refine a_iastK C eX1_findDays_23 sh_56 ix_0 (Nat.le_of_ble_eq_true rfl) h (fun σ_3 h => ?_)
  refine a_aload_n C eX1_findDays_24 rfl ?_
  refine a_getR C eX1_findDays_25 fX1_15 sh_55 rfl ?_
  refine a_iconst C eX1_findDays_28 (0 : Int32) c_iconst_0 ?_
  refine a_iconst C eX1_findDays_29 (0 : Int32) c_iconst_0 ?_
  refine a_iastK C eX1_findDays_30 sh_57 ix_0 (Nat.le_of_ble_eq_true rfl) h (fun σ_4 h => ?_)
  refine a_aload_n C eX1_findDays_31 rfl ?_
  refine a_getR C eX1_findDays_32 fX1_18 sh_55 rfl ?_
  refine a_iconst C eX1_findDays_35 (0 : Int32) c_iconst_0 ?_
  refine a_iconst C eX1_findDays_36 (0 : Int32) c_iconst_0 ?_
  refine a_iastK C eX1_findDays_37 sh_58 ix_0 (Nat.le_of_ble_eq_true rfl) h (fun σ_5 h => ?_)
  refine a_iconst C eX1_findDays_38 (0 : Int32) c_iconst_0 ?_
  refine a_ist_n C eX1_findDays_39 (Nat.le_of_ble_eq_true rfl) [some (.ref 55), some (.int p1), some (.int p2), some (.int (0 : Int32))] rfl ?_
  refine jn (fun (kk : Sg → Option (Int32 × Sg)) => ∀ (σ_6 : Sg), kk σ_6 = some rr → AW X 0 0 ad (SHc ++ ext) σ_6 75 [some (.ref 55), none, none, none] []) h ?_ (fun k75_7 hk75_7 h => ?_)
  · intro σ_6 h
    refine a_aload_n C eX1_findDays_75 rfl ?_
    refine a_getR C eX1_findDays_76 fX1_9 sh_55 rfl ?_
    refine a_aload_n C eX1_findDays_79 rfl ?_
    refine a_getR C eX1_findDays_80 fX1_27 sh_55 rfl ?_
    refine a_getI C eX1_findDays_83 fX1_35 sh_2 rfl ?_
    refine a_iconst C eX1_findDays_86 (1 : Int32) c_iconst_1 ?_
    refine a_iadd C eX1_findDays_87 ?_
    obtain ⟨hb_8, h⟩ := gd h
    refine a_iald C eX1_findDays_88 sh_56 hb_8 ?_
    refine a_ldc C eX1_findDays_89 (1000000000 : Int32) wkX1_40 ?_
    refine a_icmp_eq C eX1_findDays_91 (fun hc => ?_) (fun hc => ?_)
    · replace h := it hc h
      refine a_iconst C eX1_findDays_98 (0 : Int32) c_iconst_0 ?_
      exact rt_i R eX1_findDays_99 h nb_0
    · replace h := ie hc h
      refine a_iconst C eX1_findDays_94 (1 : Int32) c_iconst_1 ?_
      refine a_goto C eX1_findDays_95 ?_
      exact rt_i R eX1_findDays_99 h nb_1
  exact a_less (lle_same (lle_same (lle_same (lle_same lle_nil)))) (lX1_findDays_40  C R hk75_7 _ _ _ h)
/-! ShelfDrives$Ways.milesTo(I)I -/
def XX8_milesTo (p1 : Int32) (σ : Sg) : Option Int32 := if ib ((p1 * (7 : Int32)) + (6 : Int32)) 448 then some (σ 28 ((p1 * (7 : Int32)) + (6 : Int32)).toNatClampNeg) else none
theorem kX8_milesTo {ext : List Shp} {p1 : Int32} {σ : Sg} {rr : Int32}  (h : XX8_milesTo p1 σ = some rr) : Ci MX8_milesTo [.ref 25, .int p1] (SHc ++ ext) σ (rr, σ) := by
  refine Ci.start rfl rfl (Nat.le_of_ble_eq_true rfl) ?_
  intro X ad C R
  replace C : Cx X cX8_milesTo 2 RX8 (some .int) { frames := 0, cells := 0, slots := 0, locals := 0 } := C
  replace R : Ri X cX8_milesTo (some .int) ad (SHc ++ ext) (rr, σ) := R
  show AW X 0 0 ad (SHc ++ ext) σ 0 [some (.ref 25), some (.int p1)] []
  rw [XX8_milesTo] at h
  refine a_aload_n C eX8_milesTo_0 rfl ?_
  refine a_getR C eX8_milesTo_1 fX8_18 sh_25 rfl ?_
  refine a_iload_n C eX8_milesTo_4 rfl ?_
  refine a_bipush C eX8_milesTo_5 (7 : Int32) c_bipush_7 ?_
  refine a_imul C eX8_milesTo_7 ?_
  refine a_bipush C eX8_milesTo_8 (6 : Int32) c_bipush_6 ?_
  refine a_iadd C eX8_milesTo_10 ?_
  obtain ⟨hb_1, h⟩ := gd h
  refine a_iald C eX8_milesTo_11 sh_28 hb_1 ?_
  exact rt_p R eX8_milesTo_12 h nb_int
/-! ShelfDrives$Parting.measure(LShelfDrives$Ways;)V -/
def LX2_measure_2 : Nat → Int32 → Sg → Option Sg
  | 0, _, _ => none
  | n + 1, x2_1, σ_2 => if ((1 : Int32) <<< ((σ_2 2 6) &&& 31)) ≤ x2_1 then (some σ_2) else (b1 (XX8_milesTo x2_1 σ_2) (fun (r_3 : Int32) => if ib x2_1 64 then lt (up σ_2 30 x2_1.toNatClampNeg ((σ_2 2 2) + ((σ_2 2 3) * r_3))) (fun (σ_4 : Sg) => lt (x2_1 + (1 : Int32)) (fun (x2_6 : Int32) => LX2_measure_2 n x2_6 σ_4)) else none))
def XX2_measure (σ : Sg) : Option Sg := LX2_measure_2 FUEL (0 : Int32) σ
theorem lX2_measure_2 {ext : List Shp} {X : CT} {ad : Nat → Nat} {rr : Sg}   (C : Cx X cX2_measure 3 RX2 none { frames := 1, cells := 0, slots := 0, locals := 21 }) (R : Rv X cX2_measure ad (SHc ++ ext) rr)  : ∀ (n : Nat) (x2_1 : Int32) (σ_2 : Sg), LX2_measure_2 n x2_1 σ_2 = some rr → AW X 0 0 ad (SHc ++ ext) σ_2 2 [some (.ref 29), some (.ref 25), some (.int x2_1)] [] := by
  intro n
  induction n with
  | zero =>
    intro x2_1 σ_2 h
    rw [LX2_measure_2] at h
    cases h
  | succ n ih =>
    intro x2_1 σ_2 h
    rw [LX2_measure_2] at h
    refine a_iload_n C eX2_measure_2 rfl ?_
    refine a_iconst C eX2_measure_3 (1 : Int32) c_iconst_1 ?_
    refine a_aload_n C eX2_measure_4 rfl ?_
    refine a_getR C eX2_measure_5 fX2_27 sh_29 rfl ?_
    refine a_getI C eX2_measure_8 fX2_31 sh_2 rfl ?_
    refine a_ishl C eX2_measure_11 ?_
    refine a_icmp_ge C eX2_measure_12 (fun hc => ?_) (fun hc => ?_)
    · replace h := it hc h
      exact rt_v R eX2_measure_48 h
    · replace h := ie hc h
      refine a_aload_n C eX2_measure_15 rfl ?_
      refine a_getR C eX2_measure_16 fX2_9 sh_29 rfl ?_
      refine a_iload_n C eX2_measure_19 rfl ?_
      refine a_aload_n C eX2_measure_20 rfl ?_
      refine a_getR C eX2_measure_21 fX2_27 sh_29 rfl ?_
      refine a_getI C eX2_measure_24 fX2_37 sh_2 rfl ?_
      refine a_aload_n C eX2_measure_27 rfl ?_
      refine a_getR C eX2_measure_28 fX2_27 sh_29 rfl ?_
      refine a_getI C eX2_measure_31 fX2_40 sh_2 rfl ?_
      refine a_aload_n C eX2_measure_34 rfl ?_
      refine a_iload_n C eX2_measure_35 rfl ?_
      obtain ⟨r_3, hq, h⟩ := b1_e h
      refine a_cVi1 C eX2_measure_36 wX2_43 ⟨Nat.le_of_ble_eq_true rfl, Nat.le_of_ble_eq_true rfl, rfl, rfl⟩ rfl sh_25 rfl (kX8_milesTo hq) (Nat.le_of_ble_eq_true rfl) ?_
      refine a_imul C eX2_measure_39 ?_
      refine a_iadd C eX2_measure_40 ?_
      obtain ⟨hb_5, h⟩ := gd h
      refine a_iastL C eX2_measure_41 sh_30 hb_5 h (fun σ_4 h => ?_)
      refine a_inc C eX2_measure_42 rfl c_iconst_1 h (fun z => [some (.ref 29), some (.ref 25), some (.int z)]) (fun _ => rfl) (fun x2_6 h => ?_)
      refine a_goto C eX2_measure_45 ?_
      exact a_less (lle_same (lle_same (lle_same lle_nil))) (ih _ _ h)
theorem kX2_measure {ext : List Shp} {σ : Sg} {rr : Sg}  (h : XX2_measure σ = some rr) : Cv MX2_measure [.ref 29, .ref 25] (SHc ++ ext) σ rr := by
  refine Cv.start rfl rfl (Nat.le_of_ble_eq_true rfl) rfl ?_
  intro X ad C R
  replace C : Cx X cX2_measure 3 RX2 none { frames := 1, cells := 0, slots := 0, locals := 21 } := C
  replace R : Rv X cX2_measure ad (SHc ++ ext) rr := R
  show AW X 0 0 ad (SHc ++ ext) σ 0 [some (.ref 29), some (.ref 25), none] []
  rw [XX2_measure] at h
  refine a_iconst C eX2_measure_0 (0 : Int32) c_iconst_0 ?_
  refine a_ist_n C eX2_measure_1 (Nat.le_of_ble_eq_true rfl) [some (.ref 29), some (.ref 25), some (.int (0 : Int32))] rfl ?_
  exact a_less (lle_same (lle_same (lle_same lle_nil))) (lX2_measure_2  C R  _ _ _ h)
/-! ShelfDrives$Parting.roundPrice(I)I -/
def XX2_roundPrice (p1 : Int32) (σ : Sg) : Option Int32 := if ib p1 64 then some (σ 30 p1.toNatClampNeg) else none
theorem kX2_roundPrice {ext : List Shp} {p1 : Int32} {σ : Sg} {rr : Int32}  (h : XX2_roundPrice p1 σ = some rr) : Ci MX2_roundPrice [.ref 29, .int p1] (SHc ++ ext) σ (rr, σ) := by
  refine Ci.start rfl rfl (Nat.le_of_ble_eq_true rfl) ?_
  intro X ad C R
  replace C : Cx X cX2_roundPrice 2 RX2 (some .int) { frames := 0, cells := 0, slots := 0, locals := 0 } := C
  replace R : Ri X cX2_roundPrice (some .int) ad (SHc ++ ext) (rr, σ) := R
  show AW X 0 0 ad (SHc ++ ext) σ 0 [some (.ref 29), some (.int p1)] []
  rw [XX2_roundPrice] at h
  refine a_aload_n C eX2_roundPrice_0 rfl ?_
  refine a_getR C eX2_roundPrice_1 fX2_9 sh_29 rfl ?_
  refine a_iload_n C eX2_roundPrice_4 rfl ?_
  obtain ⟨hb_1, h⟩ := gd h
  refine a_iald C eX2_roundPrice_5 sh_30 hb_1 ?_
  exact rt_p R eX2_roundPrice_6 h nb_int
/-! ShelfDrives$Parting.gain(II)I -/
def XX2_gain (p1 : Int32) (p2 : Int32) (σ : Sg) : Option Int32 := if ib p1 64 then if ib p2 64 then if ib (p1 ||| p2) 64 then some (((σ 30 p1.toNatClampNeg) + (σ 30 p2.toNatClampNeg)) - (σ 30 (p1 ||| p2).toNatClampNeg)) else none else none else none
theorem kX2_gain {ext : List Shp} {p1 : Int32} {p2 : Int32} {σ : Sg} {rr : Int32}  (h : XX2_gain p1 p2 σ = some rr) : Ci MX2_gain [.ref 29, .int p1, .int p2] (SHc ++ ext) σ (rr, σ) := by
  refine Ci.start rfl rfl (Nat.le_of_ble_eq_true rfl) ?_
  intro X ad C R
  replace C : Cx X cX2_gain 3 RX2 (some .int) { frames := 0, cells := 0, slots := 0, locals := 0 } := C
  replace R : Ri X cX2_gain (some .int) ad (SHc ++ ext) (rr, σ) := R
  show AW X 0 0 ad (SHc ++ ext) σ 0 [some (.ref 29), some (.int p1), some (.int p2)] []
  rw [XX2_gain] at h
  refine a_aload_n C eX2_gain_0 rfl ?_
  refine a_getR C eX2_gain_1 fX2_9 sh_29 rfl ?_
  refine a_iload_n C eX2_gain_4 rfl ?_
  obtain ⟨hb_1, h⟩ := gd h
  refine a_iald C eX2_gain_5 sh_30 hb_1 ?_
  refine a_aload_n C eX2_gain_6 rfl ?_
  refine a_getR C eX2_gain_7 fX2_9 sh_29 rfl ?_
  refine a_iload_n C eX2_gain_10 rfl ?_
  obtain ⟨hb_2, h⟩ := gd h
  refine a_iald C eX2_gain_11 sh_30 hb_2 ?_
  refine a_iadd C eX2_gain_12 ?_
  refine a_aload_n C eX2_gain_13 rfl ?_
  refine a_getR C eX2_gain_14 fX2_9 sh_29 rfl ?_
  refine a_iload_n C eX2_gain_17 rfl ?_
  refine a_iload_n C eX2_gain_18 rfl ?_
  refine a_ior C eX2_gain_19 ?_
  obtain ⟨hb_3, h⟩ := gd h
  refine a_iald C eX2_gain_20 sh_30 hb_3 ?_
  refine a_isub C eX2_gain_21 ?_
  exact rt_p R eX2_gain_22 h nb_int
/-! ShelfDrives$Parting.part([II)I -/
def LX2_part_8 (p1 : Int32) (k28_4 : Sg → Option (Int32 × Sg)) : Nat → Int32 → Sg → Option (Int32 × Sg)
  | 0, _, _ => none
  | n + 1, x3_6, σ_7 => if (σ_7 29 6) < x3_6 then (k28_4 σ_7) else (b1 (XX2_partSet x3_6 p1 σ_7) (fun (σ_8 : Sg) => lt (x3_6 + (1 : Int32)) (fun (x3_9 : Int32) => LX2_part_8 p1 k28_4 n x3_9 σ_8)))
def XX2_part (p1 : Int32) (σ : Sg) : Option (Int32 × Sg) := b2 (XX2_gather 63 σ) (fun (r_1 : Int32) (σ_2 : Sg) => lt (fun (σ_3 : Sg) => if ib (σ_3 29 6) 64 then some (σ_3 33 (σ_3 29 6).toNatClampNeg, σ_3) else none) (fun (k28_4 : Sg → Option (Int32 × Sg)) => LX2_part_8 p1 k28_4 FUEL (1 : Int32) σ_2))
theorem lX2_part_8 {ext : List Shp} {X : CT} {ad : Nat → Nat} {rr : (Int32 × Sg)} {p1 : Int32} {k28_4 : Sg → Option (Int32 × Sg)}  (C : Cx X cX2_part 4 RX2 (some .int) { frames := 1, cells := 0, slots := 0, locals := 29 }) (R : Ri X cX2_part (some .int) ad (SHc ++ ext) rr) (hk28_4 : ∀ (σ_3 : Sg), k28_4 σ_3 = some rr → AW X 0 0 ad (SHc ++ ext) σ_3 28 [some (.ref 29), none, none, none] []) : ∀ (n : Nat) (x3_6 : Int32) (σ_7 : Sg), LX2_part_8 p1 k28_4 n x3_6 σ_7 = some rr → AW X 0 0 ad (SHc ++ ext) σ_7 8 [some (.ref 29), none, some (.int p1), some (.int x3_6)] [] := by
  intro n
  induction n with
  | zero =>
    intro x3_6 σ_7 h
    rw [LX2_part_8] at h
    cases h
  | succ n ih =>
    intro x3_6 σ_7 h
    rw [LX2_part_8] at h
    refine a_iload_n C eX2_part_8 rfl ?_
    refine a_aload_n C eX2_part_9 rfl ?_
    refine a_getI C eX2_part_10 fX2_53 sh_29 rfl ?_
    refine a_icmp_gt C eX2_part_13 (fun hc => ?_) (fun hc => ?_)
    · replace h := it hc h
      exact a_less (lle_same (lle_same (lle_drop (lle_drop lle_nil)))) (hk28_4 _ h)
    · replace h := ie hc h
      refine a_aload_n C eX2_part_16 rfl ?_
      refine a_iload_n C eX2_part_17 rfl ?_
      refine a_iload_n C eX2_part_18 rfl ?_
      obtain ⟨σ_8, hq, h⟩ := b1_e h
      refine a_cVv2 C eX2_part_19 wX2_56 ⟨Nat.le_of_ble_eq_true rfl, Nat.le_of_ble_eq_true rfl, rfl, rfl⟩ rfl sh_29 rfl (kX2_partSet hq) (Nat.le_of_ble_eq_true rfl) ?_
      refine a_inc C eX2_part_22 rfl c_iconst_1 h (fun z => [some (.ref 29), none, some (.int p1), some (.int z)]) (fun _ => rfl) (fun x3_9 h => ?_)
      refine a_goto C eX2_part_25 ?_
      exact a_less (lle_same (lle_same (lle_same (lle_same lle_nil)))) (ih _ _ h)
theorem kX2_part {ext : List Shp} {p1 : Int32} {σ : Sg} {rr : (Int32 × Sg)}  (h : XX2_part p1 σ = some rr) : Ci MX2_part [.ref 29, .ref 63, .int p1] (SHc ++ ext) σ rr := by
  refine Ci.start rfl rfl (Nat.le_of_ble_eq_true rfl) ?_
  intro X ad C R
  replace C : Cx X cX2_part 4 RX2 (some .int) { frames := 1, cells := 0, slots := 0, locals := 29 } := C
  replace R : Ri X cX2_part (some .int) ad (SHc ++ ext) rr := R
  show AW X 0 0 ad (SHc ++ ext) σ 0 [some (.ref 29), some (.ref 63), some (.int p1), none] []
  rw [XX2_part] at h
  refine a_aload_n C eX2_part_0 rfl ?_
  refine a_aload_n C eX2_part_1 rfl ?_
  obtain ⟨r_1, σ_2, hq, h⟩ := b2_e h
  refine a_cVi1 C eX2_part_2 wX2_49 ⟨Nat.le_of_ble_eq_true rfl, Nat.le_of_ble_eq_true rfl, rfl, rfl⟩ rfl sh_29 rfl (kX2_gather sh_63 hq) (Nat.le_of_ble_eq_true rfl) ?_
  refine a_pop C eX2_part_5 rfl ?_
  refine a_iconst C eX2_part_6 (1 : Int32) c_iconst_1 ?_
  refine a_ist_n C eX2_part_7 (Nat.le_of_ble_eq_true rfl) [some (.ref 29), some (.ref 63), some (.int p1), some (.int (1 : Int32))] rfl ?_
  refine jn (fun (kk : Sg → Option (Int32 × Sg)) => ∀ (σ_3 : Sg), kk σ_3 = some rr → AW X 0 0 ad (SHc ++ ext) σ_3 28 [some (.ref 29), none, none, none] []) h ?_ (fun k28_4 hk28_4 h => ?_)
  · intro σ_3 h
    refine a_aload_n C eX2_part_28 rfl ?_
    refine a_getR C eX2_part_29 fX2_21 sh_29 rfl ?_
    refine a_aload_n C eX2_part_32 rfl ?_
    refine a_getI C eX2_part_33 fX2_53 sh_29 rfl ?_
    obtain ⟨hb_5, h⟩ := gd h
    refine a_iald C eX2_part_36 sh_33 hb_5 ?_
    exact rt_i R eX2_part_37 h nb_int
  exact a_less (lle_same (lle_drop (lle_same (lle_same lle_nil)))) (lX2_part_8  C R hk28_4 _ _ _ h)
/-! ShelfDrives$Parting.setAt(I)I -/
def LX2_setAt_7 (p1 : Int32) (σ : Sg) (k35_3 : Int32 → Option Int32) : Nat → Int32 → Int32 → Option Int32
  | 0, _, _ => none
  | n + 1, x2_5, x3_6 => if p1 ≤ x3_6 then (k35_3 x2_5) else (if (6 : Int32) ≤ x3_6 then (k35_3 x2_5) else (if ib x2_5 64 then lt (x2_5 &&& ((σ 34 x2_5.toNatClampNeg) ^^^ (-1 : Int32))) (fun (x2_8 : Int32) => lt (x3_6 + (1 : Int32)) (fun (x3_9 : Int32) => LX2_setAt_7 p1 σ k35_3 n x2_8 x3_9)) else none))
def XX2_setAt (p1 : Int32) (σ : Sg) : Option Int32 := lt (σ 29 6) (fun (x2_1 : Int32) => lt (fun (x2_2 : Int32) => if ib x2_2 64 then some (σ 34 x2_2.toNatClampNeg) else none) (fun (k35_3 : Int32 → Option Int32) => LX2_setAt_7 p1 σ k35_3 FUEL x2_1 (0 : Int32)))
theorem lX2_setAt_7 {ext : List Shp} {X : CT} {ad : Nat → Nat} {rr : Int32} {p1 : Int32} {σ : Sg} {k35_3 : Int32 → Option Int32}  (C : Cx X cX2_setAt 4 RX2 (some .int) { frames := 0, cells := 0, slots := 0, locals := 0 }) (R : Ri X cX2_setAt (some .int) ad (SHc ++ ext) (rr, σ)) (hk35_3 : ∀ (x2_2 : Int32), k35_3 x2_2 = some rr → AW X 0 0 ad (SHc ++ ext) σ 35 [some (.ref 29), none, some (.int x2_2), none] []) : ∀ (n : Nat) (x2_5 : Int32) (x3_6 : Int32), LX2_setAt_7 p1 σ k35_3 n x2_5 x3_6 = some rr → AW X 0 0 ad (SHc ++ ext) σ 7 [some (.ref 29), some (.int p1), some (.int x2_5), some (.int x3_6)] [] := by
  intro n
  induction n with
  | zero =>
    intro x2_5 x3_6 h
    rw [LX2_setAt_7] at h
    cases h
  | succ n ih =>
    intro x2_5 x3_6 h
    rw [LX2_setAt_7] at h
    refine a_iload_n C eX2_setAt_7 rfl ?_
    refine a_iload_n C eX2_setAt_8 rfl ?_
    refine a_icmp_ge C eX2_setAt_9 (fun hc => ?_) (fun hc => ?_)
    · replace h := it hc h
      exact a_less (lle_same (lle_drop (lle_same (lle_drop lle_nil)))) (hk35_3 _ h)
    · replace h := ie hc h
      refine a_iload_n C eX2_setAt_12 rfl ?_
      refine a_bipush C eX2_setAt_13 (6 : Int32) c_bipush_6 ?_
      refine a_icmp_ge C eX2_setAt_15 (fun hc => ?_) (fun hc => ?_)
      · replace h := it hc h
        exact a_less (lle_same (lle_drop (lle_same (lle_drop lle_nil)))) (hk35_3 _ h)
      · replace h := ie hc h
        refine a_iload_n C eX2_setAt_18 rfl ?_
        refine a_aload_n C eX2_setAt_19 rfl ?_
        refine a_getR C eX2_setAt_20 fX2_24 sh_29 rfl ?_
        refine a_iload_n C eX2_setAt_23 rfl ?_
        obtain ⟨hb_7, h⟩ := gd h
        refine a_iald C eX2_setAt_24 sh_34 hb_7 ?_
        refine a_iconst C eX2_setAt_25 (-1 : Int32) c_iconst_m1 ?_
        refine a_ixor C eX2_setAt_26 ?_
        refine a_iand C eX2_setAt_27 ?_
        refine a_lt h (fun x2_8 h => ?_)
        refine a_ist_n C eX2_setAt_28 (Nat.le_of_ble_eq_true rfl) [some (.ref 29), some (.int p1), some (.int x2_8), some (.int x3_6)] rfl ?_
        refine a_inc C eX2_setAt_29 rfl c_iconst_1 h (fun z => [some (.ref 29), some (.int p1), some (.int x2_8), some (.int z)]) (fun _ => rfl) (fun x3_9 h => ?_)
        refine a_goto C eX2_setAt_32 ?_
        exact a_less (lle_same (lle_same (lle_same (lle_same lle_nil)))) (ih _ _ h)
theorem kX2_setAt {ext : List Shp} {p1 : Int32} {σ : Sg} {rr : Int32}  (h : XX2_setAt p1 σ = some rr) : Ci MX2_setAt [.ref 29, .int p1] (SHc ++ ext) σ (rr, σ) := by
  refine Ci.start rfl rfl (Nat.le_of_ble_eq_true rfl) ?_
  intro X ad C R
  replace C : Cx X cX2_setAt 4 RX2 (some .int) { frames := 0, cells := 0, slots := 0, locals := 0 } := C
  replace R : Ri X cX2_setAt (some .int) ad (SHc ++ ext) (rr, σ) := R
  show AW X 0 0 ad (SHc ++ ext) σ 0 [some (.ref 29), some (.int p1), none, none] []
  rw [XX2_setAt] at h
  refine a_aload_n C eX2_setAt_0 rfl ?_
  refine a_getI C eX2_setAt_1 fX2_53 sh_29 rfl ?_
  refine a_lt h (fun x2_1 h => ?_)
  refine a_ist_n C eX2_setAt_4 (Nat.le_of_ble_eq_true rfl) [some (.ref 29), some (.int p1), some (.int x2_1), none] rfl ?_
  refine a_iconst C eX2_setAt_5 (0 : Int32) c_iconst_0 ?_
  refine a_ist_n C eX2_setAt_6 (Nat.le_of_ble_eq_true rfl) [some (.ref 29), some (.int p1), some (.int x2_1), some (.int (0 : Int32))] rfl ?_
  refine jn (fun (kk : Int32 → Option Int32) => ∀ (x2_2 : Int32), kk x2_2 = some rr → AW X 0 0 ad (SHc ++ ext) σ 35 [some (.ref 29), none, some (.int x2_2), none] []) h ?_ (fun k35_3 hk35_3 h => ?_)
  · intro x2_2 h
    refine a_aload_n C eX2_setAt_35 rfl ?_
    refine a_getR C eX2_setAt_36 fX2_24 sh_29 rfl ?_
    refine a_iload_n C eX2_setAt_39 rfl ?_
    obtain ⟨hb_4, h⟩ := gd h
    refine a_iald C eX2_setAt_40 sh_34 hb_4 ?_
    exact rt_p R eX2_setAt_41 h nb_int
  exact a_less (lle_same (lle_same (lle_same (lle_same lle_nil)))) (lX2_setAt_7  C R hk35_3 _ _ _ h)
/-! ShelfDrives$Parting.loadOf(I)I -/
def XX2_loadOf (p1 : Int32) (σ : Sg) : Option Int32 := if ib p1 64 then some (σ 31 p1.toNatClampNeg) else none
theorem kX2_loadOf {ext : List Shp} {p1 : Int32} {σ : Sg} {rr : Int32}  (h : XX2_loadOf p1 σ = some rr) : Ci MX2_loadOf [.ref 29, .int p1] (SHc ++ ext) σ (rr, σ) := by
  refine Ci.start rfl rfl (Nat.le_of_ble_eq_true rfl) ?_
  intro X ad C R
  replace C : Cx X cX2_loadOf 2 RX2 (some .int) { frames := 0, cells := 0, slots := 0, locals := 0 } := C
  replace R : Ri X cX2_loadOf (some .int) ad (SHc ++ ext) (rr, σ) := R
  show AW X 0 0 ad (SHc ++ ext) σ 0 [some (.ref 29), some (.int p1)] []
  rw [XX2_loadOf] at h
  refine a_aload_n C eX2_loadOf_0 rfl ?_
  refine a_getR C eX2_loadOf_1 fX2_15 sh_29 rfl ?_
  refine a_iload_n C eX2_loadOf_4 rfl ?_
  obtain ⟨hb_1, h⟩ := gd h
  refine a_iald C eX2_loadOf_5 sh_31 hb_1 ?_
  exact rt_p R eX2_loadOf_6 h nb_int
/-! ShelfDrives$Parting.factorial(I)I -/
def LX2_factorial_4 (p1 : Int32) : Nat → Int32 → Int32 → Option Int32
  | 0, _, _ => none
  | n + 1, x1_1, x2_2 => if p1 < x2_2 then (some x1_1) else (lt (x1_1 * x2_2) (fun (x1_3 : Int32) => lt (x2_2 + (1 : Int32)) (fun (x2_4 : Int32) => LX2_factorial_4 p1 n x1_3 x2_4)))
def XX2_factorial (p1 : Int32) : Option Int32 := LX2_factorial_4 p1 FUEL (1 : Int32) (2 : Int32)
theorem lX2_factorial_4 {ext : List Shp} {X : CT} {ad : Nat → Nat} {rr : Int32} {p1 : Int32} {σ : Sg}  (C : Cx X cX2_factorial 3 RX2 (some .int) { frames := 0, cells := 0, slots := 0, locals := 0 }) (R : Ri X cX2_factorial (some .int) ad (SHc ++ ext) (rr, σ))  : ∀ (n : Nat) (x1_1 : Int32) (x2_2 : Int32), LX2_factorial_4 p1 n x1_1 x2_2 = some rr → AW X 0 0 ad (SHc ++ ext) σ 4 [some (.int p1), some (.int x1_1), some (.int x2_2)] [] := by
  intro n
  induction n with
  | zero =>
    intro x1_1 x2_2 h
    rw [LX2_factorial_4] at h
    cases h
  | succ n ih =>
    intro x1_1 x2_2 h
    rw [LX2_factorial_4] at h
    refine a_iload_n C eX2_factorial_4 rfl ?_
    refine a_iload_n C eX2_factorial_5 rfl ?_
    refine a_icmp_gt C eX2_factorial_6 (fun hc => ?_) (fun hc => ?_)
    · replace h := it hc h
      refine a_iload_n C eX2_factorial_19 rfl ?_
      exact rt_p R eX2_factorial_20 h nb_int
    · replace h := ie hc h
      refine a_iload_n C eX2_factorial_9 rfl ?_
      refine a_iload_n C eX2_factorial_10 rfl ?_
      refine a_imul C eX2_factorial_11 ?_
      refine a_lt h (fun x1_3 h => ?_)
      refine a_ist_n C eX2_factorial_12 (Nat.le_of_ble_eq_true rfl) [some (.int p1), some (.int x1_3), some (.int x2_2)] rfl ?_
      refine a_inc C eX2_factorial_13 rfl c_iconst_1 h (fun z => [some (.int p1), some (.int x1_3), some (.int z)]) (fun _ => rfl) (fun x2_4 h => ?_)
      refine a_goto C eX2_factorial_16 ?_
      exact a_less (lle_same (lle_same (lle_same lle_nil))) (ih _ _ h)
theorem kX2_factorial {ext : List Shp} {p1 : Int32} {σ : Sg} {rr : Int32}  (h : XX2_factorial p1 = some rr) : Ci MX2_factorial [.int p1] (SHc ++ ext) σ (rr, σ) := by
  refine Ci.start rfl rfl (Nat.le_of_ble_eq_true rfl) ?_
  intro X ad C R
  replace C : Cx X cX2_factorial 3 RX2 (some .int) { frames := 0, cells := 0, slots := 0, locals := 0 } := C
  replace R : Ri X cX2_factorial (some .int) ad (SHc ++ ext) (rr, σ) := R
  show AW X 0 0 ad (SHc ++ ext) σ 0 [some (.int p1), none, none] []
  rw [XX2_factorial] at h
  refine a_iconst C eX2_factorial_0 (1 : Int32) c_iconst_1 ?_
  refine a_ist_n C eX2_factorial_1 (Nat.le_of_ble_eq_true rfl) [some (.int p1), some (.int (1 : Int32)), none] rfl ?_
  refine a_iconst C eX2_factorial_2 (2 : Int32) c_iconst_2 ?_
  refine a_ist_n C eX2_factorial_3 (Nat.le_of_ble_eq_true rfl) [some (.int p1), some (.int (1 : Int32)), some (.int (2 : Int32))] rfl ?_
  exact a_less (lle_same (lle_same (lle_same lle_nil))) (lX2_factorial_4  C R  _ _ _ h)
/-! ShelfDrives$Parting.orders()I -/
def XX2_orders (σ : Sg) : Option Int32 := b1 (XJ6_bitCount_0f7a4 (σ 29 6)) (fun (r_1 : Int32) => b1 (XX2_factorial r_1) (fun (r_2 : Int32) => some r_2))
theorem kX2_orders {ext : List Shp} {σ : Sg} {rr : Int32}  (h : XX2_orders σ = some rr) : Ci MX2_orders [.ref 29] (SHc ++ ext) σ (rr, σ) := by
  refine Ci.start rfl rfl (Nat.le_of_ble_eq_true rfl) ?_
  intro X ad C R
  replace C : Cx X cX2_orders 1 RX2 (some .int) { frames := 1, cells := 0, slots := 0, locals := 22 } := C
  replace R : Ri X cX2_orders (some .int) ad (SHc ++ ext) (rr, σ) := R
  show AW X 0 0 ad (SHc ++ ext) σ 0 [some (.ref 29)] []
  rw [XX2_orders] at h
  refine a_aload_n C eX2_orders_0 rfl ?_
  refine a_getI C eX2_orders_1 fX2_53 sh_29 rfl ?_
  obtain ⟨r_1, hq, h⟩ := b1_e h
  refine a_cSi1 C eX2_orders_4 wX2_61 ⟨Nat.le_of_ble_eq_true rfl, Nat.le_of_ble_eq_true rfl, rfl, rfl⟩ rfl (kJ6_bitCount_0f7a4 hq) (Nat.le_of_ble_eq_true rfl) ?_
  obtain ⟨r_2, hq, h⟩ := b1_e h
  refine a_cSi1 C eX2_orders_7 wX2_66 ⟨Nat.le_of_ble_eq_true rfl, Nat.le_of_ble_eq_true rfl, rfl, rfl⟩ rfl (kX2_factorial hq) (Nat.le_of_ble_eq_true rfl) ?_
  exact rt_p R eX2_orders_10 h nb_int
