/-! ShelfDrives$Run.costAlone(I)I -/
def LX5_costAlone_4 (k : Nat) (p1 : Int32) (σ : Sg) (k42_2 : Int32 → Option Int32) : Nat → Int32 → Int32 → Option Int32
  | 0, _, _ => none
  | n + 1, x2_6, x3_7 => if (σ 2 0) ≤ x3_7 then (k42_2 x2_6) else (b1 (XX9_cellOf p1 x3_7) (fun (r_8 : Int32) => if ib r_8 84 then lt (fun (s_10 : Int32) => lt (x2_6 + s_10) (fun (x2_12 : Int32) => lt (x3_7 + (1 : Int32)) (fun (x3_13 : Int32) => LX5_costAlone_4 k p1 σ k42_2 n x2_12 x3_13))) (fun (k34_11 : Int32 → Option Int32) => if (σ (k + 3) r_8.toNatClampNeg) ≤ 0 then (k34_11 (0 : Int32)) else (k34_11 (1 : Int32))) else none))
def XX5_costAlone (k : Nat) (p1 : Int32) (σ : Sg) : Option Int32 := lt (fun (x2_1 : Int32) => b1 (XX2_roundPrice ((1 : Int32) <<< (p1 &&& 31)) σ) (fun (r_3 : Int32) => b1 (XX5_sumOf k (k + 4) p1 σ) (fun (r_4 : Int32) => b1 (XX5_sumOf k (k + 5) p1 σ) (fun (r_5 : Int32) => some (((x2_1 * r_3) + ((σ 2 4) * r_4)) + ((σ 2 5) * r_5)))))) (fun (k42_2 : Int32 → Option Int32) => LX5_costAlone_4 k p1 σ k42_2 FUEL (0 : Int32) (0 : Int32))
theorem lX5_costAlone_4 {ext : List Shp} {X : CT} {ad : Nat → Nat} {rr : Int32} {k : Nat} {p1 : Int32} {σ : Sg} {k42_2 : Int32 → Option Int32} (hk : is_X5 (SHc ++ ext) k) (C : Cx X cX5_costAlone 4 RX5 (some .int) { frames := 2, cells := 0, slots := 0, locals := 45 }) (R : Ri X cX5_costAlone (some .int) ad (SHc ++ ext) (rr, σ)) (hk42_2 : ∀ (x2_1 : Int32), k42_2 x2_1 = some rr → AW X 0 0 ad (SHc ++ ext) σ 42 [some (.ref k), some (.int p1), some (.int x2_1), none] []) : ∀ (n : Nat) (x2_6 : Int32) (x3_7 : Int32), LX5_costAlone_4 k p1 σ k42_2 n x2_6 x3_7 = some rr → AW X 0 0 ad (SHc ++ ext) σ 4 [some (.ref k), some (.int p1), some (.int x2_6), some (.int x3_7)] [] := by
  intro n
  induction n with
  | zero =>
    intro x2_6 x3_7 h
    rw [LX5_costAlone_4] at h
    cases h
  | succ n ih =>
    intro x2_6 x3_7 h
    rw [LX5_costAlone_4] at h
    refine a_iload_n C eX5_costAlone_4 rfl ?_
    refine a_aload_n C eX5_costAlone_5 rfl ?_
    refine a_getR C eX5_costAlone_6 fX5_33 hk.1 rfl ?_
    refine a_getI C eX5_costAlone_9 fX5_84 sh_2 rfl ?_
    refine a_icmp_ge C eX5_costAlone_12 (fun hc => ?_) (fun hc => ?_)
    · replace h := it hc h
      exact a_less (lle_same (lle_same (lle_same (lle_drop lle_nil)))) (hk42_2 _ h)
    · replace h := ie hc h
      refine a_iload_n C eX5_costAlone_15 rfl ?_
      refine a_aload_n C eX5_costAlone_16 rfl ?_
      refine a_getR C eX5_costAlone_17 fX5_18 hk.1 rfl ?_
      refine a_iload_n C eX5_costAlone_20 rfl ?_
      refine a_iload_n C eX5_costAlone_21 rfl ?_
      obtain ⟨r_8, hq, h⟩ := b1_e h
      refine a_cNi2 C eX5_costAlone_22 wX5_87 ⟨Nat.le_of_ble_eq_true rfl, Nat.le_of_ble_eq_true rfl, rfl, rfl⟩ rfl (kX9_cellOf hq) (Nat.le_of_ble_eq_true rfl) ?_
      obtain ⟨hb_9, h⟩ := gd h
      refine a_iald C eX5_costAlone_25 hk.2.2.2.1 hb_9 ?_
      refine jn (fun (kk : Int32 → Option Int32) => ∀ (s_10 : Int32), kk s_10 = some rr → AW X 0 0 ad (SHc ++ ext) σ 34 [some (.ref k), some (.int p1), none, some (.int x3_7)] [.int s_10, .int x2_6]) h ?_ (fun k34_11 hk34_11 h => ?_)
      · intro s_10 h
        refine a_iadd C eX5_costAlone_34 ?_
        refine a_lt h (fun x2_12 h => ?_)
        refine a_ist_n C eX5_costAlone_35 (Nat.le_of_ble_eq_true rfl) [some (.ref k), some (.int p1), some (.int x2_12), some (.int x3_7)] rfl ?_
        refine a_inc C eX5_costAlone_36 rfl c_iconst_1 h (fun z => [some (.ref k), some (.int p1), some (.int x2_12), some (.int z)]) (fun _ => rfl) (fun x3_13 h => ?_)
        refine a_goto C eX5_costAlone_39 ?_
        exact a_less (lle_same (lle_same (lle_same (lle_same lle_nil)))) (ih _ _ h)
      refine a_if_le C eX5_costAlone_26 (fun hc => ?_) (fun hc => ?_)
      · replace h := it hc h
        refine a_iconst C eX5_costAlone_33 (0 : Int32) c_iconst_0 ?_
        exact a_less (lle_same (lle_same (lle_drop (lle_same lle_nil)))) (hk34_11 _ h)
      · replace h := ie hc h
        refine a_iconst C eX5_costAlone_29 (1 : Int32) c_iconst_1 ?_
        refine a_goto C eX5_costAlone_30 ?_
        exact a_less (lle_same (lle_same (lle_drop (lle_same lle_nil)))) (hk34_11 _ h)
theorem kX5_costAlone {ext : List Shp} {k : Nat} {p1 : Int32} {σ : Sg} {rr : Int32} (hk : is_X5 (SHc ++ ext) k) (h : XX5_costAlone k p1 σ = some rr) : Ci MX5_costAlone [.ref k, .int p1] (SHc ++ ext) σ (rr, σ) := by
  refine Ci.start rfl rfl (Nat.le_of_ble_eq_true rfl) ?_
  intro X ad C R
  replace C : Cx X cX5_costAlone 4 RX5 (some .int) { frames := 2, cells := 0, slots := 0, locals := 45 } := C
  replace R : Ri X cX5_costAlone (some .int) ad (SHc ++ ext) (rr, σ) := R
  show AW X 0 0 ad (SHc ++ ext) σ 0 [some (.ref k), some (.int p1), none, none] []
  rw [XX5_costAlone] at h
  refine a_iconst C eX5_costAlone_0 (0 : Int32) c_iconst_0 ?_
  refine a_ist_n C eX5_costAlone_1 (Nat.le_of_ble_eq_true rfl) [some (.ref k), some (.int p1), some (.int (0 : Int32)), none] rfl ?_
  refine a_iconst C eX5_costAlone_2 (0 : Int32) c_iconst_0 ?_
  refine a_ist_n C eX5_costAlone_3 (Nat.le_of_ble_eq_true rfl) [some (.ref k), some (.int p1), some (.int (0 : Int32)), some (.int (0 : Int32))] rfl ?_
  refine jn (fun (kk : Int32 → Option Int32) => ∀ (x2_1 : Int32), kk x2_1 = some rr → AW X 0 0 ad (SHc ++ ext) σ 42 [some (.ref k), some (.int p1), some (.int x2_1), none] []) h ?_ (fun k42_2 hk42_2 h => ?_)
  · intro x2_1 h
    refine a_iload_n C eX5_costAlone_42 rfl ?_
    refine a_aload_n C eX5_costAlone_43 rfl ?_
    refine a_getR C eX5_costAlone_44 fX5_37 hk.1 rfl ?_
    refine a_iconst C eX5_costAlone_47 (1 : Int32) c_iconst_1 ?_
    refine a_iload_n C eX5_costAlone_48 rfl ?_
    refine a_ishl C eX5_costAlone_49 ?_
    obtain ⟨r_3, hq, h⟩ := b1_e h
    refine a_cVi1 C eX5_costAlone_50 wX5_144 ⟨Nat.le_of_ble_eq_true rfl, Nat.le_of_ble_eq_true rfl, rfl, rfl⟩ rfl sh_29 rfl (kX2_roundPrice hq) (Nat.le_of_ble_eq_true rfl) ?_
    refine a_imul C eX5_costAlone_53 ?_
    refine a_aload_n C eX5_costAlone_54 rfl ?_
    refine a_getR C eX5_costAlone_55 fX5_33 hk.1 rfl ?_
    refine a_getI C eX5_costAlone_58 fX5_125 sh_2 rfl ?_
    refine a_aload_n C eX5_costAlone_61 rfl ?_
    refine a_aload_n C eX5_costAlone_62 rfl ?_
    refine a_getR C eX5_costAlone_63 fX5_21 hk.1 rfl ?_
    refine a_iload_n C eX5_costAlone_66 rfl ?_
    obtain ⟨r_4, hq, h⟩ := b1_e h
    refine a_cVi2 C eX5_costAlone_67 wX5_147 ⟨Nat.le_of_ble_eq_true rfl, Nat.le_of_ble_eq_true rfl, rfl, rfl⟩ rfl hk.1 rfl (kX5_sumOf hk hk.2.2.2.2.1 hq) (Nat.le_of_ble_eq_true rfl) ?_
    refine a_imul C eX5_costAlone_70 ?_
    refine a_iadd C eX5_costAlone_71 ?_
    refine a_aload_n C eX5_costAlone_72 rfl ?_
    refine a_getR C eX5_costAlone_73 fX5_33 hk.1 rfl ?_
    refine a_getI C eX5_costAlone_76 fX5_128 sh_2 rfl ?_
    refine a_aload_n C eX5_costAlone_79 rfl ?_
    refine a_aload_n C eX5_costAlone_80 rfl ?_
    refine a_getR C eX5_costAlone_81 fX5_24 hk.1 rfl ?_
    refine a_iload_n C eX5_costAlone_84 rfl ?_
    obtain ⟨r_5, hq, h⟩ := b1_e h
    refine a_cVi2 C eX5_costAlone_85 wX5_147 ⟨Nat.le_of_ble_eq_true rfl, Nat.le_of_ble_eq_true rfl, rfl, rfl⟩ rfl hk.1 rfl (kX5_sumOf hk hk.2.2.2.2.2.1 hq) (Nat.le_of_ble_eq_true rfl) ?_
    refine a_imul C eX5_costAlone_88 ?_
    refine a_iadd C eX5_costAlone_89 ?_
    exact rt_p R eX5_costAlone_90 h nb_int
  exact a_less (lle_same (lle_same (lle_same (lle_same lle_nil)))) (lX5_costAlone_4 hk C R hk42_2 _ _ _ h)
/-! ShelfDrives$Planner.findEvery(LShelfDrives$Run;I)V -/
def LX3_findEvery_17 (p1 : Int32) (x3_2 : Int32) (k74_5 : Sg → Option Sg) : Nat → Int32 → Sg → Option Sg
  | 0, _, _ => none
  | n + 1, x4_7, σ_8 => if x3_2 ≤ x4_7 then (k74_5 σ_8) else (b1 (XX3_daysBy x3_2 x4_7 σ_8) (fun (r_9 : Int32) => b1 (XX5_setVisits 46 p1 r_9 σ_8) (fun (σ_10 : Sg) => b1 (XX5_costAlone 46 p1 σ_10) (fun (r_11 : Int32) => lt (fun (σ_12 : Sg) => lt (x4_7 + (1 : Int32)) (fun (x4_14 : Int32) => LX3_findEvery_17 p1 x3_2 k74_5 n x4_14 σ_12)) (fun (k68_13 : Sg → Option Sg) => if (σ_10 54 2) ≤ r_11 then (k68_13 σ_10) else (lt (up σ_10 54 2 r_11) (fun (σ_15 : Sg) => lt (up σ_15 54 0 x3_2) (fun (σ_16 : Sg) => lt (up σ_16 54 1 x4_7) (fun (σ_17 : Sg) => k68_13 σ_17)))))))))
def LX3_findEvery_9 (p1 : Int32) : Nat → Int32 → Sg → Option Sg
  | 0, _, _ => none
  | n + 1, x3_2, σ_3 => if x3_2 < (1 : Int32) then (some σ_3) else (lt (fun (σ_4 : Sg) => lt (x3_2 + (-1 : Int32)) (fun (x3_6 : Int32) => LX3_findEvery_9 p1 n x3_6 σ_4)) (fun (k74_5 : Sg → Option Sg) => LX3_findEvery_17 p1 x3_2 k74_5 FUEL (0 : Int32) σ_3))
def XX3_findEvery (p1 : Int32) (σ : Sg) : Option Sg := lt (up σ 54 2 (1000000000 : Int32)) (fun (σ_1 : Sg) => LX3_findEvery_9 p1 FUEL (7 : Int32) σ_1)
theorem lX3_findEvery_17 {ext : List Shp} {X : CT} {ad : Nat → Nat} {rr : Sg} {p1 : Int32} {x3_2 : Int32} {k74_5 : Sg → Option Sg}  (C : Cx X cX3_findEvery 6 RX3 none { frames := 4, cells := 0, slots := 0, locals := 95 }) (R : Rv X cX3_findEvery ad (SHc ++ ext) rr) (hk74_5 : ∀ (σ_4 : Sg), k74_5 σ_4 = some rr → AW X 0 0 ad (SHc ++ ext) σ_4 74 [some (.ref 54), some (.ref 46), some (.int p1), some (.int x3_2), none, none] []) : ∀ (n : Nat) (x4_7 : Int32) (σ_8 : Sg), LX3_findEvery_17 p1 x3_2 k74_5 n x4_7 σ_8 = some rr → AW X 0 0 ad (SHc ++ ext) σ_8 17 [some (.ref 54), some (.ref 46), some (.int p1), some (.int x3_2), some (.int x4_7), none] [] := by
  intro n
  induction n with
  | zero =>
    intro x4_7 σ_8 h
    rw [LX3_findEvery_17] at h
    cases h
  | succ n ih =>
    intro x4_7 σ_8 h
    rw [LX3_findEvery_17] at h
    refine a_iload C eX3_findEvery_17 rfl ?_
    refine a_iload_n C eX3_findEvery_19 rfl ?_
    refine a_icmp_ge C eX3_findEvery_20 (fun hc => ?_) (fun hc => ?_)
    · replace h := it hc h
      exact a_less (lle_same (lle_same (lle_same (lle_same (lle_drop (lle_same lle_nil)))))) (hk74_5 _ h)
    · replace h := ie hc h
      refine a_aload_n C eX3_findEvery_23 rfl ?_
      refine a_iload_n C eX3_findEvery_24 rfl ?_
      refine a_aload_n C eX3_findEvery_25 rfl ?_
      refine a_iload_n C eX3_findEvery_26 rfl ?_
      refine a_iload C eX3_findEvery_27 rfl ?_
      obtain ⟨r_9, hq, h⟩ := b1_e h
      refine a_cVi2 C eX3_findEvery_29 wX3_96 ⟨Nat.le_of_ble_eq_true rfl, Nat.le_of_ble_eq_true rfl, rfl, rfl⟩ rfl sh_54 rfl (kX3_daysBy hq) (Nat.le_of_ble_eq_true rfl) ?_
      obtain ⟨σ_10, hq, h⟩ := b1_e h
      refine a_cVv2 C eX3_findEvery_32 wX3_56 ⟨Nat.le_of_ble_eq_true rfl, Nat.le_of_ble_eq_true rfl, rfl, rfl⟩ rfl sh_46 rfl (kX5_setVisits is_X5_46 hq) (Nat.le_of_ble_eq_true rfl) ?_
      refine a_aload_n C eX3_findEvery_35 rfl ?_
      refine a_iload_n C eX3_findEvery_36 rfl ?_
      obtain ⟨r_11, hq, h⟩ := b1_e h
      refine a_cVi1 C eX3_findEvery_37 wX3_99 ⟨Nat.le_of_ble_eq_true rfl, Nat.le_of_ble_eq_true rfl, rfl, rfl⟩ rfl sh_46 rfl (kX5_costAlone is_X5_46 hq) (Nat.le_of_ble_eq_true rfl) ?_
      refine a_ist C eX3_findEvery_40 (Nat.le_of_ble_eq_true rfl) [some (.ref 54), some (.ref 46), some (.int p1), some (.int x3_2), some (.int x4_7), some (.int r_11)] rfl ?_
      refine a_iload C eX3_findEvery_42 rfl ?_
      refine a_aload_n C eX3_findEvery_44 rfl ?_
      refine a_getI C eX3_findEvery_45 fX3_93 sh_54 rfl ?_
      refine jn (fun (kk : Sg → Option Sg) => ∀ (σ_12 : Sg), kk σ_12 = some rr → AW X 0 0 ad (SHc ++ ext) σ_12 68 [some (.ref 54), some (.ref 46), some (.int p1), some (.int x3_2), some (.int x4_7), none] []) h ?_ (fun k68_13 hk68_13 h => ?_)
      · intro σ_12 h
        refine a_inc C eX3_findEvery_68 rfl c_iconst_1 h (fun z => [some (.ref 54), some (.ref 46), some (.int p1), some (.int x3_2), some (.int z), none]) (fun _ => rfl) (fun x4_14 h => ?_)
        refine a_goto C eX3_findEvery_71 ?_
        exact a_less (lle_same (lle_same (lle_same (lle_same (lle_same (lle_same lle_nil)))))) (ih _ _ h)
      refine a_icmp_ge C eX3_findEvery_48 (fun hc => ?_) (fun hc => ?_)
      · replace h := it hc h
        exact a_less (lle_same (lle_same (lle_same (lle_same (lle_same (lle_drop lle_nil)))))) (hk68_13 _ h)
      · replace h := ie hc h
        refine a_aload_n C eX3_findEvery_51 rfl ?_
        refine a_iload C eX3_findEvery_52 rfl ?_
        refine a_putIL C eX3_findEvery_54 fX3_93 ftyX3 rfl rfl sh_54 rfl h (fun σ_15 h => ?_)
        refine a_aload_n C eX3_findEvery_57 rfl ?_
        refine a_iload_n C eX3_findEvery_58 rfl ?_
        refine a_putIL C eX3_findEvery_59 fX3_102 ftyX3 rfl rfl sh_54 rfl h (fun σ_16 h => ?_)
        refine a_aload_n C eX3_findEvery_62 rfl ?_
        refine a_iload C eX3_findEvery_63 rfl ?_
        refine a_putIL C eX3_findEvery_65 fX3_105 ftyX3 rfl rfl sh_54 rfl h (fun σ_17 h => ?_)
        exact a_less (lle_same (lle_same (lle_same (lle_same (lle_same (lle_drop lle_nil)))))) (hk68_13 _ h)
theorem lX3_findEvery_9 {ext : List Shp} {X : CT} {ad : Nat → Nat} {rr : Sg} {p1 : Int32}  (C : Cx X cX3_findEvery 6 RX3 none { frames := 4, cells := 0, slots := 0, locals := 95 }) (R : Rv X cX3_findEvery ad (SHc ++ ext) rr)  : ∀ (n : Nat) (x3_2 : Int32) (σ_3 : Sg), LX3_findEvery_9 p1 n x3_2 σ_3 = some rr → AW X 0 0 ad (SHc ++ ext) σ_3 9 [some (.ref 54), some (.ref 46), some (.int p1), some (.int x3_2), none, none] [] := by
  intro n
  induction n with
  | zero =>
    intro x3_2 σ_3 h
    rw [LX3_findEvery_9] at h
    cases h
  | succ n ih =>
    intro x3_2 σ_3 h
    rw [LX3_findEvery_9] at h
    refine a_iload_n C eX3_findEvery_9 rfl ?_
    refine a_iconst C eX3_findEvery_10 (1 : Int32) c_iconst_1 ?_
    refine a_icmp_lt C eX3_findEvery_11 (fun hc => ?_) (fun hc => ?_)
    · replace h := it hc h
      exact rt_v R eX3_findEvery_80 h
    · replace h := ie hc h
      refine a_iconst C eX3_findEvery_14 (0 : Int32) c_iconst_0 ?_
      refine a_ist C eX3_findEvery_15 (Nat.le_of_ble_eq_true rfl) [some (.ref 54), some (.ref 46), some (.int p1), some (.int x3_2), some (.int (0 : Int32)), none] rfl ?_
      refine jn (fun (kk : Sg → Option Sg) => ∀ (σ_4 : Sg), kk σ_4 = some rr → AW X 0 0 ad (SHc ++ ext) σ_4 74 [some (.ref 54), some (.ref 46), some (.int p1), some (.int x3_2), none, none] []) h ?_ (fun k74_5 hk74_5 h => ?_)
      · intro σ_4 h
        refine a_inc C eX3_findEvery_74 rfl c_iconst_m1 h (fun z => [some (.ref 54), some (.ref 46), some (.int p1), some (.int z), none, none]) (fun _ => rfl) (fun x3_6 h => ?_)
        refine a_goto C eX3_findEvery_77 ?_
        exact a_less (lle_same (lle_same (lle_same (lle_same (lle_same (lle_same lle_nil)))))) (ih _ _ h)
      exact a_less (lle_same (lle_same (lle_same (lle_same (lle_same (lle_same lle_nil)))))) (lX3_findEvery_17  C R hk74_5 _ _ _ h)
theorem kX3_findEvery {ext : List Shp} {p1 : Int32} {σ : Sg} {rr : Sg}  (h : XX3_findEvery p1 σ = some rr) : Cv MX3_findEvery [.ref 54, .ref 46, .int p1] (SHc ++ ext) σ rr := by
  refine Cv.start rfl rfl (Nat.le_of_ble_eq_true rfl) rfl ?_
  intro X ad C R
  replace C : Cx X cX3_findEvery 6 RX3 none { frames := 4, cells := 0, slots := 0, locals := 95 } := C
  replace R : Rv X cX3_findEvery ad (SHc ++ ext) rr := R
  show AW X 0 0 ad (SHc ++ ext) σ 0 [some (.ref 54), some (.ref 46), some (.int p1), none, none, none] []
  rw [XX3_findEvery] at h
  refine a_aload_n C eX3_findEvery_0 rfl ?_
  refine a_ldc C eX3_findEvery_1 (1000000000 : Int32) wkX3_76 ?_
  refine a_putIL C eX3_findEvery_3 fX3_93 ftyX3 rfl rfl sh_54 rfl h (fun σ_1 h => ?_)
  refine a_bipush C eX3_findEvery_6 (7 : Int32) c_bipush_7 ?_
  refine a_ist_n C eX3_findEvery_8 (Nat.le_of_ble_eq_true rfl) [some (.ref 54), some (.ref 46), some (.int p1), some (.int (7 : Int32)), none, none] rfl ?_
  exact a_less (lle_same (lle_same (lle_same (lle_same (lle_same (lle_same lle_nil)))))) (lX3_findEvery_9  C R  _ _ _ h)
/-! ShelfDrives$Reader.withLetter(II)I -/
def XX4_withLetter (p1 : Int32) (p2 : Int32) : Option Int32 := some ((p1 <<< ((5 : Int32) &&& 31)) ||| ((p2 - (97 : Int32)) + (1 : Int32)))
theorem kX4_withLetter {SH : List Shp} {p1 : Int32} {p2 : Int32} {σ : Sg} {rr : Int32}  (h : XX4_withLetter p1 p2 = some rr) : Ci MX4_withLetter [.int p1, .int p2] SH σ (rr, σ) := by
  refine Ci.start rfl rfl (Nat.le_of_ble_eq_true rfl) ?_
  intro X ad C R
  replace C : Cx X cX4_withLetter 2 RX4 (some .int) { frames := 0, cells := 0, slots := 0, locals := 0 } := C
  replace R : Ri X cX4_withLetter (some .int) ad SH (rr, σ) := R
  show AW X 0 0 ad SH σ 0 [some (.int p1), some (.int p2)] []
  rw [XX4_withLetter] at h
  refine a_iload_n C eX4_withLetter_0 rfl ?_
  refine a_iconst C eX4_withLetter_1 (5 : Int32) c_iconst_5 ?_
  refine a_ishl C eX4_withLetter_2 ?_
  refine a_iload_n C eX4_withLetter_3 rfl ?_
  refine a_bipush C eX4_withLetter_4 (97 : Int32) c_bipush_97 ?_
  refine a_isub C eX4_withLetter_6 ?_
  refine a_iconst C eX4_withLetter_7 (1 : Int32) c_iconst_1 ?_
  refine a_iadd C eX4_withLetter_8 ?_
  refine a_ior C eX4_withLetter_9 ?_
  exact rt_p R eX4_withLetter_10 h nb_int
/-! ShelfDrives$Reader.isLetter(I)Z -/
def XX4_isLetter (p1 : Int32) : Option Int32 := lt (some (0 : Int32)) (fun (k16_1 : Option Int32) => if p1 < (97 : Int32) then (k16_1) else (if (122 : Int32) < p1 then (k16_1) else (some (1 : Int32))))
theorem kX4_isLetter {ext : List Shp} {p1 : Int32} {σ : Sg} {rr : Int32}  (h : XX4_isLetter p1 = some rr) : Ci MX4_isLetter [.int p1] (SHc ++ ext) σ (rr, σ) := by
  refine Ci.start rfl rfl (Nat.le_of_ble_eq_true rfl) ?_
  intro X ad C R
  replace C : Cx X cX4_isLetter 1 RX4 (some .boolean) { frames := 0, cells := 0, slots := 0, locals := 0 } := C
  replace R : Ri X cX4_isLetter (some .boolean) ad (SHc ++ ext) (rr, σ) := R
  show AW X 0 0 ad (SHc ++ ext) σ 0 [some (.int p1)] []
  rw [XX4_isLetter] at h
  refine a_iload_n C eX4_isLetter_0 rfl ?_
  refine a_bipush C eX4_isLetter_1 (97 : Int32) c_bipush_97 ?_
  refine jn (fun (kk : Option Int32) => kk = some rr → AW X 0 0 ad (SHc ++ ext) σ 16 [none] []) h ?_ (fun k16_1 hk16_1 h => ?_)
  · intro h
    refine a_iconst C eX4_isLetter_16 (0 : Int32) c_iconst_0 ?_
    exact rt_p R eX4_isLetter_17 h nb_0
  refine a_icmp_lt C eX4_isLetter_3 (fun hc => ?_) (fun hc => ?_)
  · replace h := it hc h
    exact a_less (lle_drop lle_nil) (hk16_1 h)
  · replace h := ie hc h
    refine a_iload_n C eX4_isLetter_6 rfl ?_
    refine a_bipush C eX4_isLetter_7 (122 : Int32) c_bipush_122 ?_
    refine a_icmp_gt C eX4_isLetter_9 (fun hc => ?_) (fun hc => ?_)
    · replace h := it hc h
      exact a_less (lle_drop lle_nil) (hk16_1 h)
    · replace h := ie hc h
      refine a_iconst C eX4_isLetter_12 (1 : Int32) c_iconst_1 ?_
      refine a_goto C eX4_isLetter_13 ?_
      exact rt_p R eX4_isLetter_17 h nb_1
/-! ShelfDrives$Reader.kindOfWord(I)I -/
def LX4_kindOfWord_2 (p1 : Int32) (σ : Sg) : Nat → Int32 → Option Int32
  | 0, _ => none
  | n + 1, x2_1 => if (13 : Int32) ≤ x2_1 then (some (13 : Int32)) else (if ib x2_1 13 then if (σ 19 x2_1.toNatClampNeg) = p1 then (some x2_1) else (lt (x2_1 + (1 : Int32)) (fun (x2_3 : Int32) => LX4_kindOfWord_2 p1 σ n x2_3)) else none)
def XX4_kindOfWord (p1 : Int32) (σ : Sg) : Option Int32 := LX4_kindOfWord_2 p1 σ FUEL (0 : Int32)
theorem lX4_kindOfWord_2 {ext : List Shp} {X : CT} {ad : Nat → Nat} {rr : Int32} {p1 : Int32} {σ : Sg}  (C : Cx X cX4_kindOfWord 3 RX4 (some .int) { frames := 0, cells := 0, slots := 0, locals := 0 }) (R : Ri X cX4_kindOfWord (some .int) ad (SHc ++ ext) (rr, σ))  : ∀ (n : Nat) (x2_1 : Int32), LX4_kindOfWord_2 p1 σ n x2_1 = some rr → AW X 0 0 ad (SHc ++ ext) σ 2 [some (.ref 10), some (.int p1), some (.int x2_1)] [] := by
  intro n
  induction n with
  | zero =>
    intro x2_1 h
    rw [LX4_kindOfWord_2] at h
    cases h
  | succ n ih =>
    intro x2_1 h
    rw [LX4_kindOfWord_2] at h
    refine a_iload_n C eX4_kindOfWord_2 rfl ?_
    refine a_bipush C eX4_kindOfWord_3 (13 : Int32) c_bipush_13 ?_
    refine a_icmp_ge C eX4_kindOfWord_5 (fun hc => ?_) (fun hc => ?_)
    · replace h := it hc h
      refine a_bipush C eX4_kindOfWord_26 (13 : Int32) c_bipush_13 ?_
      exact rt_p R eX4_kindOfWord_28 h nb_int
    · replace h := ie hc h
      refine a_aload_n C eX4_kindOfWord_8 rfl ?_
      refine a_getR C eX4_kindOfWord_9 fX4_25 sh_10 rfl ?_
      refine a_iload_n C eX4_kindOfWord_12 rfl ?_
      obtain ⟨hb_2, h⟩ := gd h
      refine a_iald C eX4_kindOfWord_13 sh_19 hb_2 ?_
      refine a_iload_n C eX4_kindOfWord_14 rfl ?_
      refine a_icmp_ne C eX4_kindOfWord_15 (fun hc => ?_) (fun hc => ?_)
      · replace h := ie hc h
        refine a_inc C eX4_kindOfWord_20 rfl c_iconst_1 h (fun z => [some (.ref 10), some (.int p1), some (.int z)]) (fun _ => rfl) (fun x2_3 h => ?_)
        refine a_goto C eX4_kindOfWord_23 ?_
        exact a_less (lle_same (lle_same (lle_same lle_nil))) (ih _ h)
      · replace h := it hc h
        refine a_iload_n C eX4_kindOfWord_18 rfl ?_
        exact rt_p R eX4_kindOfWord_19 h nb_int
theorem kX4_kindOfWord {ext : List Shp} {p1 : Int32} {σ : Sg} {rr : Int32}  (h : XX4_kindOfWord p1 σ = some rr) : Ci MX4_kindOfWord [.ref 10, .int p1] (SHc ++ ext) σ (rr, σ) := by
  refine Ci.start rfl rfl (Nat.le_of_ble_eq_true rfl) ?_
  intro X ad C R
  replace C : Cx X cX4_kindOfWord 3 RX4 (some .int) { frames := 0, cells := 0, slots := 0, locals := 0 } := C
  replace R : Ri X cX4_kindOfWord (some .int) ad (SHc ++ ext) (rr, σ) := R
  show AW X 0 0 ad (SHc ++ ext) σ 0 [some (.ref 10), some (.int p1), none] []
  rw [XX4_kindOfWord] at h
  refine a_iconst C eX4_kindOfWord_0 (0 : Int32) c_iconst_0 ?_
  refine a_ist_n C eX4_kindOfWord_1 (Nat.le_of_ble_eq_true rfl) [some (.ref 10), some (.int p1), some (.int (0 : Int32))] rfl ?_
  exact a_less (lle_same (lle_same (lle_same lle_nil))) (lX4_kindOfWord_2  C R  _ _ h)
/-! ShelfDrives$Reader.scanWord([III)I -/
def LX4_scanWord_6 (p2 : Int32) (σ : Sg) (k39_3 : Int32 → Int32 → Option (Int32 × Sg)) : Nat → Int32 → Int32 → Option (Int32 × Sg)
  | 0, _, _ => none
  | n + 1, x4_11, x5_12 => if p2 ≤ x4_11 then (k39_3 x4_11 x5_12) else (if ib x4_11 800 then b1 (XX4_isLetter (σ 1 x4_11.toNatClampNeg)) (fun (r_14 : Int32) => if r_14 = 0 then (k39_3 x4_11 x5_12) else (b1 (XX4_withLetter x5_12 (σ 1 x4_11.toNatClampNeg)) (fun (r_15 : Int32) => lt (x4_11 + (1 : Int32)) (fun (x4_16 : Int32) => LX4_scanWord_6 p2 σ k39_3 n x4_16 r_15)))) else none)
def XX4_scanWord (p1 : Int32) (p2 : Int32) (σ : Sg) : Option (Int32 × Sg) := lt (fun (x4_1 : Int32) (x5_2 : Int32) => if ib (σ 10 7) 801 then lt (up σ 22 (σ 10 7).toNatClampNeg x5_2) (fun (σ_4 : Sg) => lt (fun (s_6 : Int32) => if ib (σ_4 10 7) 801 then lt (up σ_4 20 (σ_4 10 7).toNatClampNeg s_6) (fun (σ_8 : Sg) => some (x4_1, σ_8)) else none) (fun (k78_7 : Int32 → Option (Int32 × Sg)) => if (x4_1 - p1) ≤ (6 : Int32) then (b1 (XX4_kindOfWord x5_2 σ_4) (fun (r_10 : Int32) => k78_7 r_10)) else (k78_7 (17 : Int32)))) else none) (fun (k39_3 : Int32 → Int32 → Option (Int32 × Sg)) => LX4_scanWord_6 p2 σ k39_3 FUEL p1 (0 : Int32))
theorem lX4_scanWord_6 {ext : List Shp} {X : CT} {ad : Nat → Nat} {rr : (Int32 × Sg)} {p1 : Int32} {p2 : Int32} {σ : Sg} {k39_3 : Int32 → Int32 → Option (Int32 × Sg)}  (C : Cx X cX4_scanWord 6 RX4 (some .int) { frames := 1, cells := 0, slots := 0, locals := 22 }) (R : Ri X cX4_scanWord (some .int) ad (SHc ++ ext) rr) (hk39_3 : ∀ (x4_1 : Int32) (x5_2 : Int32), k39_3 x4_1 x5_2 = some rr → AW X 0 0 ad (SHc ++ ext) σ 39 [some (.ref 10), none, some (.int p1), none, some (.int x4_1), some (.int x5_2)] []) : ∀ (n : Nat) (x4_11 : Int32) (x5_12 : Int32), LX4_scanWord_6 p2 σ k39_3 n x4_11 x5_12 = some rr → AW X 0 0 ad (SHc ++ ext) σ 6 [some (.ref 10), some (.ref 1), some (.int p1), some (.int p2), some (.int x4_11), some (.int x5_12)] [] := by
  intro n
  induction n with
  | zero =>
    intro x4_11 x5_12 h
    rw [LX4_scanWord_6] at h
    cases h
  | succ n ih =>
    intro x4_11 x5_12 h
    rw [LX4_scanWord_6] at h
    refine a_iload C eX4_scanWord_6 rfl ?_
    refine a_iload_n C eX4_scanWord_8 rfl ?_
    refine a_icmp_ge C eX4_scanWord_9 (fun hc => ?_) (fun hc => ?_)
    · replace h := it hc h
      exact a_less (lle_same (lle_drop (lle_same (lle_drop (lle_same (lle_same lle_nil)))))) (hk39_3 _ _ h)
    · replace h := ie hc h
      refine a_aload_n C eX4_scanWord_12 rfl ?_
      refine a_iload C eX4_scanWord_13 rfl ?_
      obtain ⟨hb_13, h⟩ := gd h
      refine a_iald C eX4_scanWord_15 sh_1 hb_13 ?_
      obtain ⟨r_14, hq, h⟩ := b1_e h
      refine a_cSi1 C eX4_scanWord_16 wX4_90 ⟨Nat.le_of_ble_eq_true rfl, Nat.le_of_ble_eq_true rfl, rfl, rfl⟩ rfl (kX4_isLetter hq) (Nat.le_of_ble_eq_true rfl) ?_
      refine a_if_eq C eX4_scanWord_19 (fun hc => ?_) (fun hc => ?_)
      · replace h := it hc h
        exact a_less (lle_same (lle_drop (lle_same (lle_drop (lle_same (lle_same lle_nil)))))) (hk39_3 _ _ h)
      · replace h := ie hc h
        refine a_iload C eX4_scanWord_22 rfl ?_
        refine a_aload_n C eX4_scanWord_24 rfl ?_
        refine a_iload C eX4_scanWord_25 rfl ?_
        refine a_iald C eX4_scanWord_27 sh_1 hb_13 ?_
        obtain ⟨r_15, hq, h⟩ := b1_e h
        refine a_cSi2 C eX4_scanWord_28 wX4_56 ⟨Nat.le_of_ble_eq_true rfl, Nat.le_of_ble_eq_true rfl, rfl, rfl⟩ rfl (kX4_withLetter hq) (Nat.le_of_ble_eq_true rfl) ?_
        refine a_ist C eX4_scanWord_31 (Nat.le_of_ble_eq_true rfl) [some (.ref 10), some (.ref 1), some (.int p1), some (.int p2), some (.int x4_11), some (.int r_15)] rfl ?_
        refine a_inc C eX4_scanWord_33 rfl c_iconst_1 h (fun z => [some (.ref 10), some (.ref 1), some (.int p1), some (.int p2), some (.int z), some (.int r_15)]) (fun _ => rfl) (fun x4_16 h => ?_)
        refine a_goto C eX4_scanWord_36 ?_
        exact a_less (lle_same (lle_same (lle_same (lle_same (lle_same (lle_same lle_nil)))))) (ih _ _ h)
theorem kX4_scanWord {ext : List Shp} {p1 : Int32} {p2 : Int32} {σ : Sg} {rr : (Int32 × Sg)}  (h : XX4_scanWord p1 p2 σ = some rr) : Ci MX4_scanWord [.ref 10, .ref 1, .int p1, .int p2] (SHc ++ ext) σ rr := by
  refine Ci.start rfl rfl (Nat.le_of_ble_eq_true rfl) ?_
  intro X ad C R
  replace C : Cx X cX4_scanWord 6 RX4 (some .int) { frames := 1, cells := 0, slots := 0, locals := 22 } := C
  replace R : Ri X cX4_scanWord (some .int) ad (SHc ++ ext) rr := R
  show AW X 0 0 ad (SHc ++ ext) σ 0 [some (.ref 10), some (.ref 1), some (.int p1), some (.int p2), none, none] []
  rw [XX4_scanWord] at h
  refine a_iload_n C eX4_scanWord_0 rfl ?_
  refine a_ist C eX4_scanWord_1 (Nat.le_of_ble_eq_true rfl) [some (.ref 10), some (.ref 1), some (.int p1), some (.int p2), some (.int p1), none] rfl ?_
  refine a_iconst C eX4_scanWord_3 (0 : Int32) c_iconst_0 ?_
  refine a_ist C eX4_scanWord_4 (Nat.le_of_ble_eq_true rfl) [some (.ref 10), some (.ref 1), some (.int p1), some (.int p2), some (.int p1), some (.int (0 : Int32))] rfl ?_
  refine jn (fun (kk : Int32 → Int32 → Option (Int32 × Sg)) => ∀ (x4_1 : Int32) (x5_2 : Int32), kk x4_1 x5_2 = some rr → AW X 0 0 ad (SHc ++ ext) σ 39 [some (.ref 10), none, some (.int p1), none, some (.int x4_1), some (.int x5_2)] []) h ?_ (fun k39_3 hk39_3 h => ?_)
  · intro x4_1 x5_2 h
    refine a_aload_n C eX4_scanWord_39 rfl ?_
    refine a_getR C eX4_scanWord_40 fX4_35 sh_10 rfl ?_
    refine a_aload_n C eX4_scanWord_43 rfl ?_
    refine a_getI C eX4_scanWord_44 fX4_87 sh_10 rfl ?_
    refine a_iload C eX4_scanWord_47 rfl ?_
    obtain ⟨hb_5, h⟩ := gd h
    refine a_iastL C eX4_scanWord_49 sh_22 hb_5 h (fun σ_4 h => ?_)
    refine a_aload_n C eX4_scanWord_50 rfl ?_
    refine a_getR C eX4_scanWord_51 fX4_29 sh_10 rfl ?_
    refine a_aload_n C eX4_scanWord_54 rfl ?_
    refine a_getI C eX4_scanWord_55 fX4_87 sh_10 rfl ?_
    refine a_iload C eX4_scanWord_58 rfl ?_
    refine a_iload_n C eX4_scanWord_60 rfl ?_
    refine a_isub C eX4_scanWord_61 ?_
    refine a_bipush C eX4_scanWord_62 (6 : Int32) c_bipush_6 ?_
    refine jn (fun (kk : Int32 → Option (Int32 × Sg)) => ∀ (s_6 : Int32), kk s_6 = some rr → AW X 0 0 ad (SHc ++ ext) σ_4 78 [none, none, none, none, some (.int x4_1), none] [.int s_6, .int (σ_4 10 7), .ref 20]) h ?_ (fun k78_7 hk78_7 h => ?_)
    · intro s_6 h
      obtain ⟨hb_9, h⟩ := gd h
      refine a_iastL C eX4_scanWord_78 sh_20 hb_9 h (fun σ_8 h => ?_)
      refine a_iload C eX4_scanWord_79 rfl ?_
      exact rt_i R eX4_scanWord_81 h nb_int
    refine a_icmp_le C eX4_scanWord_64 (fun hc => ?_) (fun hc => ?_)
    · replace h := it hc h
      refine a_aload_n C eX4_scanWord_72 rfl ?_
      refine a_iload C eX4_scanWord_73 rfl ?_
      obtain ⟨r_10, hq, h⟩ := b1_e h
      refine a_cVi1 C eX4_scanWord_75 wX4_103 ⟨Nat.le_of_ble_eq_true rfl, Nat.le_of_ble_eq_true rfl, rfl, rfl⟩ rfl sh_10 rfl (kX4_kindOfWord hq) (Nat.le_of_ble_eq_true rfl) ?_
      exact a_less (lle_drop (lle_same (lle_drop (lle_same (lle_same (lle_drop lle_nil)))))) (hk78_7 _ h)
    · replace h := ie hc h
      refine a_bipush C eX4_scanWord_67 (17 : Int32) c_bipush_17 ?_
      refine a_goto C eX4_scanWord_69 ?_
      exact a_less (lle_drop (lle_same (lle_drop (lle_same (lle_same (lle_drop lle_nil)))))) (hk78_7 _ h)
  exact a_less (lle_same (lle_same (lle_same (lle_same (lle_same (lle_same lle_nil)))))) (lX4_scanWord_6  C R hk39_3 _ _ _ h)
/-! ShelfDrives$Reader.isDigit(I)Z -/
def XX4_isDigit (p1 : Int32) : Option Int32 := lt (some (0 : Int32)) (fun (k16_1 : Option Int32) => if p1 < (48 : Int32) then (k16_1) else (if (57 : Int32) < p1 then (k16_1) else (some (1 : Int32))))
theorem kX4_isDigit {ext : List Shp} {p1 : Int32} {σ : Sg} {rr : Int32}  (h : XX4_isDigit p1 = some rr) : Ci MX4_isDigit [.int p1] (SHc ++ ext) σ (rr, σ) := by
  refine Ci.start rfl rfl (Nat.le_of_ble_eq_true rfl) ?_
  intro X ad C R
  replace C : Cx X cX4_isDigit 1 RX4 (some .boolean) { frames := 0, cells := 0, slots := 0, locals := 0 } := C
  replace R : Ri X cX4_isDigit (some .boolean) ad (SHc ++ ext) (rr, σ) := R
  show AW X 0 0 ad (SHc ++ ext) σ 0 [some (.int p1)] []
  rw [XX4_isDigit] at h
  refine a_iload_n C eX4_isDigit_0 rfl ?_
  refine a_bipush C eX4_isDigit_1 (48 : Int32) c_bipush_48 ?_
  refine jn (fun (kk : Option Int32) => kk = some rr → AW X 0 0 ad (SHc ++ ext) σ 16 [none] []) h ?_ (fun k16_1 hk16_1 h => ?_)
  · intro h
    refine a_iconst C eX4_isDigit_16 (0 : Int32) c_iconst_0 ?_
    exact rt_p R eX4_isDigit_17 h nb_0
  refine a_icmp_lt C eX4_isDigit_3 (fun hc => ?_) (fun hc => ?_)
  · replace h := it hc h
    exact a_less (lle_drop lle_nil) (hk16_1 h)
  · replace h := ie hc h
    refine a_iload_n C eX4_isDigit_6 rfl ?_
    refine a_bipush C eX4_isDigit_7 (57 : Int32) c_bipush_57 ?_
    refine a_icmp_gt C eX4_isDigit_9 (fun hc => ?_) (fun hc => ?_)
    · replace h := it hc h
      exact a_less (lle_drop lle_nil) (hk16_1 h)
    · replace h := ie hc h
      refine a_iconst C eX4_isDigit_12 (1 : Int32) c_iconst_1 ?_
      refine a_goto C eX4_isDigit_13 ?_
      exact rt_p R eX4_isDigit_17 h nb_1
/-! ShelfDrives$Reader.scanNumber([III)I -/
def LX4_scanNumber_6 (p2 : Int32) (σ : Sg) (k43_3 : Int32 → Int32 → Option (Int32 × Sg)) : Nat → Int32 → Int32 → Option (Int32 × Sg)
  | 0, _, _ => none
  | n + 1, x4_16, x5_17 => if p2 ≤ x4_16 then (k43_3 x4_16 x5_17) else (if ib x4_16 800 then b1 (XX4_isDigit (σ 1 x4_16.toNatClampNeg)) (fun (r_19 : Int32) => if r_19 = 0 then (k43_3 x4_16 x5_17) else (lt (((x5_17 * (10 : Int32)) + (σ 1 x4_16.toNatClampNeg)) - (48 : Int32)) (fun (x5_20 : Int32) => lt (x4_16 + (1 : Int32)) (fun (x4_21 : Int32) => LX4_scanNumber_6 p2 σ k43_3 n x4_21 x5_20)))) else none)
def XX4_scanNumber (p1 : Int32) (p2 : Int32) (σ : Sg) : Option (Int32 × Sg) := lt (fun (x4_1 : Int32) (x5_2 : Int32) => lt (fun (s_4 : Int32) => if ib (σ 10 7) 801 then lt (up σ 22 (σ 10 7).toNatClampNeg x5_2) (fun (σ_6 : Sg) => lt (fun (s_8 : Int32) => if ib (σ_6 10 7) 801 then lt (up σ_6 20 (σ_6 10 7).toNatClampNeg s_8) (fun (σ_10 : Sg) => some (x4_1, σ_10)) else none) (fun (k105_9 : Int32 → Option (Int32 × Sg)) => if s_4 = 0 then (k105_9 (14 : Int32)) else (k105_9 (17 : Int32)))) else none) (fun (k72_5 : Int32 → Option (Int32 × Sg)) => lt (k72_5 (1 : Int32)) (fun (k67_12 : Option (Int32 × Sg)) => if (2 : Int32) < (x4_1 - p1) then (k67_12) else (lt (k72_5 (0 : Int32)) (fun (k71_13 : Option (Int32 × Sg)) => if p2 ≤ x4_1 then (k71_13) else (if ib x4_1 800 then b1 (XX4_isLetter (σ 1 x4_1.toNatClampNeg)) (fun (r_15 : Int32) => if r_15 = 0 then (k71_13) else (k67_12)) else none)))))) (fun (k43_3 : Int32 → Int32 → Option (Int32 × Sg)) => LX4_scanNumber_6 p2 σ k43_3 FUEL p1 (0 : Int32))
theorem lX4_scanNumber_6 {ext : List Shp} {X : CT} {ad : Nat → Nat} {rr : (Int32 × Sg)} {p1 : Int32} {p2 : Int32} {σ : Sg} {k43_3 : Int32 → Int32 → Option (Int32 × Sg)}  (C : Cx X cX4_scanNumber 7 RX4 (some .int) { frames := 1, cells := 0, slots := 0, locals := 20 }) (R : Ri X cX4_scanNumber (some .int) ad (SHc ++ ext) rr) (hk43_3 : ∀ (x4_1 : Int32) (x5_2 : Int32), k43_3 x4_1 x5_2 = some rr → AW X 0 0 ad (SHc ++ ext) σ 43 [some (.ref 10), some (.ref 1), some (.int p1), some (.int p2), some (.int x4_1), some (.int x5_2), none] []) : ∀ (n : Nat) (x4_16 : Int32) (x5_17 : Int32), LX4_scanNumber_6 p2 σ k43_3 n x4_16 x5_17 = some rr → AW X 0 0 ad (SHc ++ ext) σ 6 [some (.ref 10), some (.ref 1), some (.int p1), some (.int p2), some (.int x4_16), some (.int x5_17), none] [] := by
  intro n
  induction n with
  | zero =>
    intro x4_16 x5_17 h
    rw [LX4_scanNumber_6] at h
    cases h
  | succ n ih =>
    intro x4_16 x5_17 h
    rw [LX4_scanNumber_6] at h
    refine a_iload C eX4_scanNumber_6 rfl ?_
    refine a_iload_n C eX4_scanNumber_8 rfl ?_
    refine a_icmp_ge C eX4_scanNumber_9 (fun hc => ?_) (fun hc => ?_)
    · replace h := it hc h
      exact a_less (lle_same (lle_same (lle_same (lle_same (lle_same (lle_same (lle_same lle_nil))))))) (hk43_3 _ _ h)
    · replace h := ie hc h
      refine a_aload_n C eX4_scanNumber_12 rfl ?_
      refine a_iload C eX4_scanNumber_13 rfl ?_
      obtain ⟨hb_18, h⟩ := gd h
      refine a_iald C eX4_scanNumber_15 sh_1 hb_18 ?_
      obtain ⟨r_19, hq, h⟩ := b1_e h
      refine a_cSi1 C eX4_scanNumber_16 wX4_97 ⟨Nat.le_of_ble_eq_true rfl, Nat.le_of_ble_eq_true rfl, rfl, rfl⟩ rfl (kX4_isDigit hq) (Nat.le_of_ble_eq_true rfl) ?_
      refine a_if_eq C eX4_scanNumber_19 (fun hc => ?_) (fun hc => ?_)
      · replace h := it hc h
        exact a_less (lle_same (lle_same (lle_same (lle_same (lle_same (lle_same (lle_same lle_nil))))))) (hk43_3 _ _ h)
      · replace h := ie hc h
        refine a_iload C eX4_scanNumber_22 rfl ?_
        refine a_bipush C eX4_scanNumber_24 (10 : Int32) c_bipush_10 ?_
        refine a_imul C eX4_scanNumber_26 ?_
        refine a_aload_n C eX4_scanNumber_27 rfl ?_
        refine a_iload C eX4_scanNumber_28 rfl ?_
        refine a_iald C eX4_scanNumber_30 sh_1 hb_18 ?_
        refine a_iadd C eX4_scanNumber_31 ?_
        refine a_bipush C eX4_scanNumber_32 (48 : Int32) c_bipush_48 ?_
        refine a_isub C eX4_scanNumber_34 ?_
        refine a_lt h (fun x5_20 h => ?_)
        refine a_ist C eX4_scanNumber_35 (Nat.le_of_ble_eq_true rfl) [some (.ref 10), some (.ref 1), some (.int p1), some (.int p2), some (.int x4_16), some (.int x5_20), none] rfl ?_
        refine a_inc C eX4_scanNumber_37 rfl c_iconst_1 h (fun z => [some (.ref 10), some (.ref 1), some (.int p1), some (.int p2), some (.int z), some (.int x5_20), none]) (fun _ => rfl) (fun x4_21 h => ?_)
        refine a_goto C eX4_scanNumber_40 ?_
        exact a_less (lle_same (lle_same (lle_same (lle_same (lle_same (lle_same (lle_same lle_nil))))))) (ih _ _ h)
theorem kX4_scanNumber {ext : List Shp} {p1 : Int32} {p2 : Int32} {σ : Sg} {rr : (Int32 × Sg)}  (h : XX4_scanNumber p1 p2 σ = some rr) : Ci MX4_scanNumber [.ref 10, .ref 1, .int p1, .int p2] (SHc ++ ext) σ rr := by
  refine Ci.start rfl rfl (Nat.le_of_ble_eq_true rfl) ?_
  intro X ad C R
  replace C : Cx X cX4_scanNumber 7 RX4 (some .int) { frames := 1, cells := 0, slots := 0, locals := 20 } := C
  replace R : Ri X cX4_scanNumber (some .int) ad (SHc ++ ext) rr := R
  show AW X 0 0 ad (SHc ++ ext) σ 0 [some (.ref 10), some (.ref 1), some (.int p1), some (.int p2), none, none, none] []
  rw [XX4_scanNumber] at h
  refine a_iload_n C eX4_scanNumber_0 rfl ?_
  refine a_ist C eX4_scanNumber_1 (Nat.le_of_ble_eq_true rfl) [some (.ref 10), some (.ref 1), some (.int p1), some (.int p2), some (.int p1), none, none] rfl ?_
  refine a_iconst C eX4_scanNumber_3 (0 : Int32) c_iconst_0 ?_
  refine a_ist C eX4_scanNumber_4 (Nat.le_of_ble_eq_true rfl) [some (.ref 10), some (.ref 1), some (.int p1), some (.int p2), some (.int p1), some (.int (0 : Int32)), none] rfl ?_
  refine jn (fun (kk : Int32 → Int32 → Option (Int32 × Sg)) => ∀ (x4_1 : Int32) (x5_2 : Int32), kk x4_1 x5_2 = some rr → AW X 0 0 ad (SHc ++ ext) σ 43 [some (.ref 10), some (.ref 1), some (.int p1), some (.int p2), some (.int x4_1), some (.int x5_2), none] []) h ?_ (fun k43_3 hk43_3 h => ?_)
  · intro x4_1 x5_2 h
    refine a_iload C eX4_scanNumber_43 rfl ?_
    refine a_iload_n C eX4_scanNumber_45 rfl ?_
    refine a_isub C eX4_scanNumber_46 ?_
    refine a_iconst C eX4_scanNumber_47 (2 : Int32) c_iconst_2 ?_
    refine jn (fun (kk : Int32 → Option (Int32 × Sg)) => ∀ (s_4 : Int32), kk s_4 = some rr → AW X 0 0 ad (SHc ++ ext) σ 72 [some (.ref 10), none, none, none, some (.int x4_1), some (.int x5_2), none] [.int s_4]) h ?_ (fun k72_5 hk72_5 h => ?_)
    · intro s_4 h
      refine a_ist C eX4_scanNumber_72 (Nat.le_of_ble_eq_true rfl) [some (.ref 10), none, none, none, some (.int x4_1), some (.int x5_2), some (.int s_4)] rfl ?_
      refine a_aload_n C eX4_scanNumber_74 rfl ?_
      refine a_getR C eX4_scanNumber_75 fX4_35 sh_10 rfl ?_
      refine a_aload_n C eX4_scanNumber_78 rfl ?_
      refine a_getI C eX4_scanNumber_79 fX4_87 sh_10 rfl ?_
      refine a_iload C eX4_scanNumber_82 rfl ?_
      obtain ⟨hb_7, h⟩ := gd h
      refine a_iastL C eX4_scanNumber_84 sh_22 hb_7 h (fun σ_6 h => ?_)
      refine a_aload_n C eX4_scanNumber_85 rfl ?_
      refine a_getR C eX4_scanNumber_86 fX4_29 sh_10 rfl ?_
      refine a_aload_n C eX4_scanNumber_89 rfl ?_
      refine a_getI C eX4_scanNumber_90 fX4_87 sh_10 rfl ?_
      refine a_iload C eX4_scanNumber_93 rfl ?_
      refine jn (fun (kk : Int32 → Option (Int32 × Sg)) => ∀ (s_8 : Int32), kk s_8 = some rr → AW X 0 0 ad (SHc ++ ext) σ_6 105 [none, none, none, none, some (.int x4_1), none, none] [.int s_8, .int (σ_6 10 7), .ref 20]) h ?_ (fun k105_9 hk105_9 h => ?_)
      · intro s_8 h
        obtain ⟨hb_11, h⟩ := gd h
        refine a_iastL C eX4_scanNumber_105 sh_20 hb_11 h (fun σ_10 h => ?_)
        refine a_iload C eX4_scanNumber_106 rfl ?_
        exact rt_i R eX4_scanNumber_108 h nb_int
      refine a_if_eq C eX4_scanNumber_95 (fun hc => ?_) (fun hc => ?_)
      · replace h := it hc h
        refine a_bipush C eX4_scanNumber_103 (14 : Int32) c_bipush_14 ?_
        exact a_less (lle_drop (lle_same (lle_same (lle_same (lle_same (lle_drop (lle_drop lle_nil))))))) (hk105_9 _ h)
      · replace h := ie hc h
        refine a_bipush C eX4_scanNumber_98 (17 : Int32) c_bipush_17 ?_
        refine a_goto C eX4_scanNumber_100 ?_
        exact a_less (lle_drop (lle_same (lle_same (lle_same (lle_same (lle_drop (lle_drop lle_nil))))))) (hk105_9 _ h)
    refine jn (fun (kk : Option (Int32 × Sg)) => kk = some rr → AW X 0 0 ad (SHc ++ ext) σ 67 [some (.ref 10), none, none, none, some (.int x4_1), some (.int x5_2), none] []) h ?_ (fun k67_12 hk67_12 h => ?_)
    · intro h
      refine a_iconst C eX4_scanNumber_67 (1 : Int32) c_iconst_1 ?_
      refine a_goto C eX4_scanNumber_68 ?_
      exact a_less (lle_same (lle_same (lle_same (lle_same (lle_same (lle_same (lle_same lle_nil))))))) (hk72_5 _ h)
    refine a_icmp_gt C eX4_scanNumber_48 (fun hc => ?_) (fun hc => ?_)
    · replace h := it hc h
      exact a_less (lle_same (lle_drop (lle_drop (lle_drop (lle_same (lle_same (lle_same lle_nil))))))) (hk67_12 h)
    · replace h := ie hc h
      refine a_iload C eX4_scanNumber_51 rfl ?_
      refine a_iload_n C eX4_scanNumber_53 rfl ?_
      refine jn (fun (kk : Option (Int32 × Sg)) => kk = some rr → AW X 0 0 ad (SHc ++ ext) σ 71 [some (.ref 10), none, none, none, some (.int x4_1), some (.int x5_2), none] []) h ?_ (fun k71_13 hk71_13 h => ?_)
      · intro h
        refine a_iconst C eX4_scanNumber_71 (0 : Int32) c_iconst_0 ?_
        exact a_less (lle_same (lle_same (lle_same (lle_same (lle_same (lle_same (lle_same lle_nil))))))) (hk72_5 _ h)
      refine a_icmp_ge C eX4_scanNumber_54 (fun hc => ?_) (fun hc => ?_)
      · replace h := it hc h
        exact a_less (lle_same (lle_drop (lle_drop (lle_drop (lle_same (lle_same (lle_same lle_nil))))))) (hk71_13 h)
      · replace h := ie hc h
        refine a_aload_n C eX4_scanNumber_57 rfl ?_
        refine a_iload C eX4_scanNumber_58 rfl ?_
        obtain ⟨hb_14, h⟩ := gd h
        refine a_iald C eX4_scanNumber_60 sh_1 hb_14 ?_
        obtain ⟨r_15, hq, h⟩ := b1_e h
        refine a_cSi1 C eX4_scanNumber_61 wX4_90 ⟨Nat.le_of_ble_eq_true rfl, Nat.le_of_ble_eq_true rfl, rfl, rfl⟩ rfl (kX4_isLetter hq) (Nat.le_of_ble_eq_true rfl) ?_
        refine a_if_eq C eX4_scanNumber_64 (fun hc => ?_) (fun hc => ?_)
        · replace h := it hc h
          exact a_less (lle_same (lle_drop (lle_drop (lle_drop (lle_same (lle_same (lle_same lle_nil))))))) (hk71_13 h)
        · replace h := ie hc h
          exact a_less (lle_same (lle_drop (lle_drop (lle_drop (lle_same (lle_same (lle_same lle_nil))))))) (hk67_12 h)
  exact a_less (lle_same (lle_same (lle_same (lle_same (lle_same (lle_same (lle_same lle_nil))))))) (lX4_scanNumber_6  C R hk43_3 _ _ _ h)
/-! ShelfDrives$Reader.scanAll([II)V -/
def LX4_scanAll_18 (p1 : Int32) (σ_4 : Sg) (k45_6 : Int32 → Option Sg) : Nat → Int32 → Option Sg
  | 0, _ => none
  | n + 1, x3_29 => if p1 ≤ x3_29 then (k45_6 x3_29) else (if ib x3_29 800 then lt (lt (x3_29 + (1 : Int32)) (fun (x3_32 : Int32) => LX4_scanAll_18 p1 σ_4 k45_6 n x3_32)) (fun (k39_31 : Option Sg) => if (σ_4 1 x3_29.toNatClampNeg) = (32 : Int32) then (k39_31) else (if (σ_4 1 x3_29.toNatClampNeg) = (10 : Int32) then (k39_31) else (k45_6 x3_29))) else none)
def LX4_scanAll_10 (p1 : Int32) : Nat → Int32 → Int32 → Sg → Option Sg
  | 0, _, _, _ => none
  | n + 1, x3_2, x4_3, σ_4 => if (800 : Int32) < x4_3 then (some σ_4) else (lt (fun (x3_5 : Int32) => if ib (σ_4 10 7) 801 then lt (up σ_4 21 (σ_4 10 7).toNatClampNeg x3_5) (fun (σ_7 : Sg) => lt (fun (x3_9 : Int32) (σ_10 : Sg) => lt (up σ_10 10 7 ((σ_10 10 7) + (1 : Int32))) (fun (σ_12 : Sg) => if ib ((σ_12 10 7) - (1 : Int32)) 801 then if (σ_12 20 ((σ_12 10 7) - (1 : Int32)).toNatClampNeg) = (16 : Int32) then (some σ_12) else (if (σ_12 20 ((σ_12 10 7) - (1 : Int32)).toNatClampNeg) = (17 : Int32) then (some σ_12) else (lt (x4_3 + (1 : Int32)) (fun (x4_14 : Int32) => LX4_scanAll_10 p1 n x3_9 x4_14 σ_12))) else none)) (fun (k150_11 : Int32 → Sg → Option Sg) => if x3_5 < p1 then (if ib x3_5 800 then if (σ_7 1 x3_5.toNatClampNeg) = (59 : Int32) then (if ib (σ_7 10 7) 801 then lt (up σ_7 20 (σ_7 10 7).toNatClampNeg (15 : Int32)) (fun (σ_24 : Sg) => lt (x3_5 + (1 : Int32)) (fun (x3_26 : Int32) => k150_11 x3_26 σ_24)) else none) else (b1 (XX4_isLetter (σ_7 1 x3_5.toNatClampNeg)) (fun (r_16 : Int32) => if r_16 = 0 then (b1 (XX4_isDigit (σ_7 1 x3_5.toNatClampNeg)) (fun (r_17 : Int32) => if r_17 = 0 then (if ib (σ_7 10 7) 801 then lt (up σ_7 20 (σ_7 10 7).toNatClampNeg (17 : Int32)) (fun (σ_18 : Sg) => k150_11 x3_5 σ_18) else none) else (b2 (XX4_scanNumber x3_5 p1 σ_7) (fun (r_20 : Int32) (σ_21 : Sg) => k150_11 r_20 σ_21)))) else (b2 (XX4_scanWord x3_5 p1 σ_7) (fun (r_22 : Int32) (σ_23 : Sg) => k150_11 r_22 σ_23)))) else none) else (if ib (σ_7 10 7) 801 then lt (up σ_7 20 (σ_7 10 7).toNatClampNeg (16 : Int32)) (fun (σ_27 : Sg) => k150_11 x3_5 σ_27) else none))) else none) (fun (k45_6 : Int32 → Option Sg) => LX4_scanAll_18 p1 σ_4 k45_6 FUEL x3_2))
def XX4_scanAll (p1 : Int32) (σ : Sg) : Option Sg := lt (up σ 10 7 (0 : Int32)) (fun (σ_1 : Sg) => LX4_scanAll_10 p1 FUEL (0 : Int32) (0 : Int32) σ_1)
theorem lX4_scanAll_18 {ext : List Shp} {X : CT} {ad : Nat → Nat} {rr : Sg} {p1 : Int32} {x4_3 : Int32} {σ_4 : Sg} {k45_6 : Int32 → Option Sg}  (C : Cx X cX4_scanAll 5 RX4 none { frames := 2, cells := 0, slots := 0, locals := 47 }) (R : Rv X cX4_scanAll ad (SHc ++ ext) rr) (hk45_6 : ∀ (x3_5 : Int32), k45_6 x3_5 = some rr → AW X 0 0 ad (SHc ++ ext) σ_4 45 [some (.ref 10), some (.ref 1), some (.int p1), some (.int x3_5), some (.int x4_3)] []) : ∀ (n : Nat) (x3_29 : Int32), LX4_scanAll_18 p1 σ_4 k45_6 n x3_29 = some rr → AW X 0 0 ad (SHc ++ ext) σ_4 18 [some (.ref 10), some (.ref 1), some (.int p1), some (.int x3_29), some (.int x4_3)] [] := by
  intro n
  induction n with
  | zero =>
    intro x3_29 h
    rw [LX4_scanAll_18] at h
    cases h
  | succ n ih =>
    intro x3_29 h
    rw [LX4_scanAll_18] at h
    refine a_iload_n C eX4_scanAll_18 rfl ?_
    refine a_iload_n C eX4_scanAll_19 rfl ?_
    refine a_icmp_ge C eX4_scanAll_20 (fun hc => ?_) (fun hc => ?_)
    · replace h := it hc h
      exact a_less (lle_same (lle_same (lle_same (lle_same (lle_same lle_nil))))) (hk45_6 _ h)
    · replace h := ie hc h
      refine a_aload_n C eX4_scanAll_23 rfl ?_
      refine a_iload_n C eX4_scanAll_24 rfl ?_
      obtain ⟨hb_30, h⟩ := gd h
      refine a_iald C eX4_scanAll_25 sh_1 hb_30 ?_
      refine a_bipush C eX4_scanAll_26 (32 : Int32) c_bipush_32 ?_
      refine jn (fun (kk : Option Sg) => kk = some rr → AW X 0 0 ad (SHc ++ ext) σ_4 39 [some (.ref 10), some (.ref 1), some (.int p1), some (.int x3_29), some (.int x4_3)] []) h ?_ (fun k39_31 hk39_31 h => ?_)
      · intro h
        refine a_inc C eX4_scanAll_39 rfl c_iconst_1 h (fun z => [some (.ref 10), some (.ref 1), some (.int p1), some (.int z), some (.int x4_3)]) (fun _ => rfl) (fun x3_32 h => ?_)
        refine a_goto C eX4_scanAll_42 ?_
        exact a_less (lle_same (lle_same (lle_same (lle_same (lle_same lle_nil))))) (ih _ h)
      refine a_icmp_eq C eX4_scanAll_28 (fun hc => ?_) (fun hc => ?_)
      · replace h := it hc h
        exact a_less (lle_same (lle_same (lle_same (lle_same (lle_same lle_nil))))) (hk39_31 h)
      · replace h := ie hc h
        refine a_aload_n C eX4_scanAll_31 rfl ?_
        refine a_iload_n C eX4_scanAll_32 rfl ?_
        refine a_iald C eX4_scanAll_33 sh_1 hb_30 ?_
        refine a_bipush C eX4_scanAll_34 (10 : Int32) c_bipush_10 ?_
        refine a_icmp_ne C eX4_scanAll_36 (fun hc => ?_) (fun hc => ?_)
        · replace h := ie hc h
          exact a_less (lle_same (lle_same (lle_same (lle_same (lle_same lle_nil))))) (hk45_6 _ h)
        · replace h := it hc h
          exact a_less (lle_same (lle_same (lle_same (lle_same (lle_same lle_nil))))) (hk39_31 h)
theorem lX4_scanAll_10 {ext : List Shp} {X : CT} {ad : Nat → Nat} {rr : Sg} {p1 : Int32}  (C : Cx X cX4_scanAll 5 RX4 none { frames := 2, cells := 0, slots := 0, locals := 47 }) (R : Rv X cX4_scanAll ad (SHc ++ ext) rr)  : ∀ (n : Nat) (x3_2 : Int32) (x4_3 : Int32) (σ_4 : Sg), LX4_scanAll_10 p1 n x3_2 x4_3 σ_4 = some rr → AW X 0 0 ad (SHc ++ ext) σ_4 10 [some (.ref 10), some (.ref 1), some (.int p1), some (.int x3_2), some (.int x4_3)] [] := by
  intro n
  induction n with
  | zero =>
    intro x3_2 x4_3 σ_4 h
    rw [LX4_scanAll_10] at h
    cases h
  | succ n ih =>
    intro x3_2 x4_3 σ_4 h
    rw [LX4_scanAll_10] at h
    refine a_iload C eX4_scanAll_10 rfl ?_
    refine a_sipush C eX4_scanAll_12 (800 : Int32) c_sipush_800 ?_
    refine a_icmp_gt C eX4_scanAll_15 (fun hc => ?_) (fun hc => ?_)
    · replace h := it hc h
      exact rt_v R eX4_scanAll_199 h
    · replace h := ie hc h
      refine jn (fun (kk : Int32 → Option Sg) => ∀ (x3_5 : Int32), kk x3_5 = some rr → AW X 0 0 ad (SHc ++ ext) σ_4 45 [some (.ref 10), some (.ref 1), some (.int p1), some (.int x3_5), some (.int x4_3)] []) h ?_ (fun k45_6 hk45_6 h => ?_)
      · intro x3_5 h
        refine a_aload_n C eX4_scanAll_45 rfl ?_
        refine a_getR C eX4_scanAll_46 fX4_32 sh_10 rfl ?_
        refine a_aload_n C eX4_scanAll_49 rfl ?_
        refine a_getI C eX4_scanAll_50 fX4_87 sh_10 rfl ?_
        refine a_iload_n C eX4_scanAll_53 rfl ?_
        obtain ⟨hb_8, h⟩ := gd h
        refine a_iastL C eX4_scanAll_54 sh_21 hb_8 h (fun σ_7 h => ?_)
        refine a_iload_n C eX4_scanAll_55 rfl ?_
        refine a_iload_n C eX4_scanAll_56 rfl ?_
        refine jn (fun (kk : Int32 → Sg → Option Sg) => ∀ (x3_9 : Int32) (σ_10 : Sg), kk x3_9 σ_10 = some rr → AW X 0 0 ad (SHc ++ ext) σ_10 150 [some (.ref 10), some (.ref 1), some (.int p1), some (.int x3_9), some (.int x4_3)] []) h ?_ (fun k150_11 hk150_11 h => ?_)
        · intro x3_9 σ_10 h
          refine a_aload_n C eX4_scanAll_150 rfl ?_
          refine a_dup C eX4_scanAll_151 rfl ?_
          refine a_getI C eX4_scanAll_152 fX4_87 sh_10 rfl ?_
          refine a_iconst C eX4_scanAll_155 (1 : Int32) c_iconst_1 ?_
          refine a_iadd C eX4_scanAll_156 ?_
          refine a_putIL C eX4_scanAll_157 fX4_87 ftyX4 rfl rfl sh_10 rfl h (fun σ_12 h => ?_)
          refine a_aload_n C eX4_scanAll_160 rfl ?_
          refine a_getR C eX4_scanAll_161 fX4_29 sh_10 rfl ?_
          refine a_aload_n C eX4_scanAll_164 rfl ?_
          refine a_getI C eX4_scanAll_165 fX4_87 sh_10 rfl ?_
          refine a_iconst C eX4_scanAll_168 (1 : Int32) c_iconst_1 ?_
          refine a_isub C eX4_scanAll_169 ?_
          obtain ⟨hb_13, h⟩ := gd h
          refine a_iald C eX4_scanAll_170 sh_20 hb_13 ?_
          refine a_bipush C eX4_scanAll_171 (16 : Int32) c_bipush_16 ?_
          refine a_icmp_eq C eX4_scanAll_173 (fun hc => ?_) (fun hc => ?_)
          · replace h := it hc h
            exact rt_v R eX4_scanAll_192 h
          · replace h := ie hc h
            refine a_aload_n C eX4_scanAll_176 rfl ?_
            refine a_getR C eX4_scanAll_177 fX4_29 sh_10 rfl ?_
            refine a_aload_n C eX4_scanAll_180 rfl ?_
            refine a_getI C eX4_scanAll_181 fX4_87 sh_10 rfl ?_
            refine a_iconst C eX4_scanAll_184 (1 : Int32) c_iconst_1 ?_
            refine a_isub C eX4_scanAll_185 ?_
            refine a_iald C eX4_scanAll_186 sh_20 hb_13 ?_
            refine a_bipush C eX4_scanAll_187 (17 : Int32) c_bipush_17 ?_
            refine a_icmp_ne C eX4_scanAll_189 (fun hc => ?_) (fun hc => ?_)
            · replace h := ie hc h
              refine a_inc C eX4_scanAll_193 rfl c_iconst_1 h (fun z => [some (.ref 10), some (.ref 1), some (.int p1), some (.int x3_9), some (.int z)]) (fun _ => rfl) (fun x4_14 h => ?_)
              refine a_goto C eX4_scanAll_196 ?_
              exact a_less (lle_same (lle_same (lle_same (lle_same (lle_same lle_nil))))) (ih _ _ _ h)
            · replace h := it hc h
              exact rt_v R eX4_scanAll_192 h
        refine a_icmp_lt C eX4_scanAll_57 (fun hc => ?_) (fun hc => ?_)
        · replace h := it hc h
          refine a_aload_n C eX4_scanAll_74 rfl ?_
          refine a_iload_n C eX4_scanAll_75 rfl ?_
          obtain ⟨hb_15, h⟩ := gd h
          refine a_iald C eX4_scanAll_76 sh_1 hb_15 ?_
          refine a_bipush C eX4_scanAll_77 (59 : Int32) c_bipush_59 ?_
          refine a_icmp_ne C eX4_scanAll_79 (fun hc => ?_) (fun hc => ?_)
          · replace h := ie hc h
            refine a_aload_n C eX4_scanAll_99 rfl ?_
            refine a_iload_n C eX4_scanAll_100 rfl ?_
            refine a_iald C eX4_scanAll_101 sh_1 hb_15 ?_
            obtain ⟨r_16, hq, h⟩ := b1_e h
            refine a_cSi1 C eX4_scanAll_102 wX4_90 ⟨Nat.le_of_ble_eq_true rfl, Nat.le_of_ble_eq_true rfl, rfl, rfl⟩ rfl (kX4_isLetter hq) (Nat.le_of_ble_eq_true rfl) ?_
            refine a_if_eq C eX4_scanAll_105 (fun hc => ?_) (fun hc => ?_)
            · replace h := it hc h
              refine a_aload_n C eX4_scanAll_119 rfl ?_
              refine a_iload_n C eX4_scanAll_120 rfl ?_
              refine a_iald C eX4_scanAll_121 sh_1 hb_15 ?_
              obtain ⟨r_17, hq, h⟩ := b1_e h
              refine a_cSi1 C eX4_scanAll_122 wX4_97 ⟨Nat.le_of_ble_eq_true rfl, Nat.le_of_ble_eq_true rfl, rfl, rfl⟩ rfl (kX4_isDigit hq) (Nat.le_of_ble_eq_true rfl) ?_
              refine a_if_eq C eX4_scanAll_125 (fun hc => ?_) (fun hc => ?_)
              · replace h := it hc h
                refine a_aload_n C eX4_scanAll_139 rfl ?_
                refine a_getR C eX4_scanAll_140 fX4_29 sh_10 rfl ?_
                refine a_aload_n C eX4_scanAll_143 rfl ?_
                refine a_getI C eX4_scanAll_144 fX4_87 sh_10 rfl ?_
                refine a_bipush C eX4_scanAll_147 (17 : Int32) c_bipush_17 ?_
                obtain ⟨hb_19, h⟩ := gd h
                refine a_iastL C eX4_scanAll_149 sh_20 hb_19 h (fun σ_18 h => ?_)
                exact a_less (lle_same (lle_same (lle_same (lle_same (lle_same lle_nil))))) (hk150_11 _ _ h)
              · replace h := ie hc h
                refine a_aload_n C eX4_scanAll_128 rfl ?_
                refine a_aload_n C eX4_scanAll_129 rfl ?_
                refine a_iload_n C eX4_scanAll_130 rfl ?_
                refine a_iload_n C eX4_scanAll_131 rfl ?_
                obtain ⟨r_20, σ_21, hq, h⟩ := b2_e h
                refine a_cVi3 C eX4_scanAll_132 wX4_100 ⟨Nat.le_of_ble_eq_true rfl, Nat.le_of_ble_eq_true rfl, rfl, rfl⟩ rfl sh_10 rfl (kX4_scanNumber hq) (Nat.le_of_ble_eq_true rfl) ?_
                refine a_ist_n C eX4_scanAll_135 (Nat.le_of_ble_eq_true rfl) [some (.ref 10), some (.ref 1), some (.int p1), some (.int r_20), some (.int x4_3)] rfl ?_
                refine a_goto C eX4_scanAll_136 ?_
                exact a_less (lle_same (lle_same (lle_same (lle_same (lle_same lle_nil))))) (hk150_11 _ _ h)
            · replace h := ie hc h
              refine a_aload_n C eX4_scanAll_108 rfl ?_
              refine a_aload_n C eX4_scanAll_109 rfl ?_
              refine a_iload_n C eX4_scanAll_110 rfl ?_
              refine a_iload_n C eX4_scanAll_111 rfl ?_
              obtain ⟨r_22, σ_23, hq, h⟩ := b2_e h
              refine a_cVi3 C eX4_scanAll_112 wX4_93 ⟨Nat.le_of_ble_eq_true rfl, Nat.le_of_ble_eq_true rfl, rfl, rfl⟩ rfl sh_10 rfl (kX4_scanWord hq) (Nat.le_of_ble_eq_true rfl) ?_
              refine a_ist_n C eX4_scanAll_115 (Nat.le_of_ble_eq_true rfl) [some (.ref 10), some (.ref 1), some (.int p1), some (.int r_22), some (.int x4_3)] rfl ?_
              refine a_goto C eX4_scanAll_116 ?_
              exact a_less (lle_same (lle_same (lle_same (lle_same (lle_same lle_nil))))) (hk150_11 _ _ h)
          · replace h := it hc h
            refine a_aload_n C eX4_scanAll_82 rfl ?_
            refine a_getR C eX4_scanAll_83 fX4_29 sh_10 rfl ?_
            refine a_aload_n C eX4_scanAll_86 rfl ?_
            refine a_getI C eX4_scanAll_87 fX4_87 sh_10 rfl ?_
            refine a_bipush C eX4_scanAll_90 (15 : Int32) c_bipush_15 ?_
            obtain ⟨hb_25, h⟩ := gd h
            refine a_iastL C eX4_scanAll_92 sh_20 hb_25 h (fun σ_24 h => ?_)
            refine a_inc C eX4_scanAll_93 rfl c_iconst_1 h (fun z => [some (.ref 10), some (.ref 1), some (.int p1), some (.int z), some (.int x4_3)]) (fun _ => rfl) (fun x3_26 h => ?_)
            refine a_goto C eX4_scanAll_96 ?_
            exact a_less (lle_same (lle_same (lle_same (lle_same (lle_same lle_nil))))) (hk150_11 _ _ h)
        · replace h := ie hc h
          refine a_aload_n C eX4_scanAll_60 rfl ?_
          refine a_getR C eX4_scanAll_61 fX4_29 sh_10 rfl ?_
          refine a_aload_n C eX4_scanAll_64 rfl ?_
          refine a_getI C eX4_scanAll_65 fX4_87 sh_10 rfl ?_
          refine a_bipush C eX4_scanAll_68 (16 : Int32) c_bipush_16 ?_
          obtain ⟨hb_28, h⟩ := gd h
          refine a_iastL C eX4_scanAll_70 sh_20 hb_28 h (fun σ_27 h => ?_)
          refine a_goto C eX4_scanAll_71 ?_
          exact a_less (lle_same (lle_same (lle_same (lle_same (lle_same lle_nil))))) (hk150_11 _ _ h)
      exact a_less (lle_same (lle_same (lle_same (lle_same (lle_same lle_nil))))) (lX4_scanAll_18  C R hk45_6 _ _ h)
theorem kX4_scanAll {ext : List Shp} {p1 : Int32} {σ : Sg} {rr : Sg}  (h : XX4_scanAll p1 σ = some rr) : Cv MX4_scanAll [.ref 10, .ref 1, .int p1] (SHc ++ ext) σ rr := by
  refine Cv.start rfl rfl (Nat.le_of_ble_eq_true rfl) rfl ?_
  intro X ad C R
  replace C : Cx X cX4_scanAll 5 RX4 none { frames := 2, cells := 0, slots := 0, locals := 47 } := C
  replace R : Rv X cX4_scanAll ad (SHc ++ ext) rr := R
  show AW X 0 0 ad (SHc ++ ext) σ 0 [some (.ref 10), some (.ref 1), some (.int p1), none, none] []
  rw [XX4_scanAll] at h
  refine a_iconst C eX4_scanAll_0 (0 : Int32) c_iconst_0 ?_
  refine a_ist_n C eX4_scanAll_1 (Nat.le_of_ble_eq_true rfl) [some (.ref 10), some (.ref 1), some (.int p1), some (.int (0 : Int32)), none] rfl ?_
  refine a_aload_n C eX4_scanAll_2 rfl ?_
  refine a_iconst C eX4_scanAll_3 (0 : Int32) c_iconst_0 ?_
  refine a_putIL C eX4_scanAll_4 fX4_87 ftyX4 rfl rfl sh_10 rfl h (fun σ_1 h => ?_)
  refine a_iconst C eX4_scanAll_7 (0 : Int32) c_iconst_0 ?_
  refine a_ist C eX4_scanAll_8 (Nat.le_of_ble_eq_true rfl) [some (.ref 10), some (.ref 1), some (.int p1), some (.int (0 : Int32)), some (.int (0 : Int32))] rfl ?_
  exact a_less (lle_same (lle_same (lle_same (lle_same (lle_same lle_nil))))) (lX4_scanAll_10  C R  _ _ _ _ h)
/-! ShelfDrives$Town.forget()V -/
def XX7_forget (k : Nat) (σ : Sg) : Option Sg := lt (up σ k 0 (7 : Int32)) (fun (σ_1 : Sg) => lt (up σ_1 k 1 (60 : Int32)) (fun (σ_2 : Sg) => lt (up σ_2 k 2 (10 : Int32)) (fun (σ_3 : Sg) => lt (up σ_3 k 3 (1 : Int32)) (fun (σ_4 : Sg) => lt (up σ_4 k 4 (1 : Int32)) (fun (σ_5 : Sg) => lt (up σ_5 k 5 (20 : Int32)) (fun (σ_6 : Sg) => lt (up σ_6 k 6 (0 : Int32)) (fun (σ_7 : Sg) => lt (up σ_7 k 7 (0 : Int32)) (fun (σ_8 : Sg) => lt (up σ_8 (k + 1) 6 (0 : Int32)) (fun (σ_9 : Sg) => lt (up σ_9 (k + 2) 6 (0 : Int32)) (fun (σ_10 : Sg) => b1 (XJ7_fill_53178 (k + 5) 84 (0 : Int32) σ_10) (fun (σ_11 : Sg) => some σ_11)))))))))))
theorem kX7_forget {SH : List Shp} {k : Nat} {σ : Sg} {rr : Sg} (hk : is_X7 SH k) (h : XX7_forget k σ = some rr) : Cv MX7_forget [.ref k] SH σ rr := by
  refine Cv.start rfl rfl (Nat.le_of_ble_eq_true rfl) rfl ?_
  intro X ad C R
  replace C : Cx X cX7_forget 1 RX7 none { frames := 1, cells := 0, slots := 0, locals := 23 } := C
  replace R : Rv X cX7_forget ad SH rr := R
  show AW X 0 0 ad SH σ 0 [some (.ref k)] []
  rw [XX7_forget] at h
  refine a_aload_n C eX7_forget_0 rfl ?_
  refine a_bipush C eX7_forget_1 (7 : Int32) c_bipush_7 ?_
  refine a_putIL C eX7_forget_3 fX7_36 ftyX7 rfl rfl hk.1 rfl h (fun σ_1 h => ?_)
  refine a_aload_n C eX7_forget_6 rfl ?_
  refine a_bipush C eX7_forget_7 (60 : Int32) c_bipush_60 ?_
  refine a_putIL C eX7_forget_9 fX7_40 ftyX7 rfl rfl hk.1 rfl h (fun σ_2 h => ?_)
  refine a_aload_n C eX7_forget_12 rfl ?_
  refine a_bipush C eX7_forget_13 (10 : Int32) c_bipush_10 ?_
  refine a_putIL C eX7_forget_15 fX7_43 ftyX7 rfl rfl hk.1 rfl h (fun σ_3 h => ?_)
  refine a_aload_n C eX7_forget_18 rfl ?_
  refine a_iconst C eX7_forget_19 (1 : Int32) c_iconst_1 ?_
  refine a_putIL C eX7_forget_20 fX7_46 ftyX7 rfl rfl hk.1 rfl h (fun σ_4 h => ?_)
  refine a_aload_n C eX7_forget_23 rfl ?_
  refine a_iconst C eX7_forget_24 (1 : Int32) c_iconst_1 ?_
  refine a_putIL C eX7_forget_25 fX7_49 ftyX7 rfl rfl hk.1 rfl h (fun σ_5 h => ?_)
  refine a_aload_n C eX7_forget_28 rfl ?_
  refine a_bipush C eX7_forget_29 (20 : Int32) c_bipush_20 ?_
  refine a_putIL C eX7_forget_31 fX7_52 ftyX7 rfl rfl hk.1 rfl h (fun σ_6 h => ?_)
  refine a_aload_n C eX7_forget_34 rfl ?_
  refine a_iconst C eX7_forget_35 (0 : Int32) c_iconst_0 ?_
  refine a_putIL C eX7_forget_36 fX7_55 ftyX7 rfl rfl hk.1 rfl h (fun σ_7 h => ?_)
  refine a_aload_n C eX7_forget_39 rfl ?_
  refine a_iconst C eX7_forget_40 (0 : Int32) c_iconst_0 ?_
  refine a_putIL C eX7_forget_41 fX7_58 ftyX7 rfl rfl hk.1 rfl h (fun σ_8 h => ?_)
  refine a_aload_n C eX7_forget_44 rfl ?_
  refine a_getR C eX7_forget_45 fX7_9 hk.1 rfl ?_
  refine a_bipush C eX7_forget_48 (6 : Int32) c_bipush_6 ?_
  refine a_iconst C eX7_forget_50 (0 : Int32) c_iconst_0 ?_
  refine a_iastK C eX7_forget_51 hk.2.1 ix_6 (Nat.le_of_ble_eq_true rfl) h (fun σ_9 h => ?_)
  refine a_aload_n C eX7_forget_52 rfl ?_
  refine a_getR C eX7_forget_53 fX7_15 hk.1 rfl ?_
  refine a_bipush C eX7_forget_56 (6 : Int32) c_bipush_6 ?_
  refine a_iconst C eX7_forget_58 (0 : Int32) c_iconst_0 ?_
  refine a_iastK C eX7_forget_59 hk.2.2.1 ix_6 (Nat.le_of_ble_eq_true rfl) h (fun σ_10 h => ?_)
  refine a_aload_n C eX7_forget_60 rfl ?_
  refine a_getR C eX7_forget_61 fX7_24 hk.1 rfl ?_
  refine a_iconst C eX7_forget_64 (0 : Int32) c_iconst_0 ?_
  obtain ⟨σ_11, hq, h⟩ := b1_e h
  refine a_cSv2 C eX7_forget_65 wX7_61 ⟨Nat.le_of_ble_eq_true rfl, Nat.le_of_ble_eq_true rfl, rfl, rfl⟩ rfl (kJ7_fill_53178 hk.2.2.2.2.2.1 hq) (Nat.le_of_ble_eq_true rfl) ?_
  exact rt_v R eX7_forget_68 h
/-! ShelfDrives$Reader.step()V -/
def XX4_step (σ : Sg) : Option Sg := lt (if ((σ 10 7) - (1 : Int32)) < (σ 10 8) then ((σ 10 7) - (1 : Int32)) else (σ 10 8)) (fun (x1_1 : Int32) => if ib x1_1 801 then lt (up σ 10 9 (σ 20 x1_1.toNatClampNeg)) (fun (σ_3 : Sg) => lt (up σ_3 10 10 (σ_3 21 x1_1.toNatClampNeg)) (fun (σ_4 : Sg) => lt (up σ_4 10 11 (σ_4 22 x1_1.toNatClampNeg)) (fun (σ_5 : Sg) => lt (up σ_5 10 8 (x1_1 + (1 : Int32))) (fun (σ_6 : Sg) => some σ_6)))) else none)
theorem kX4_step {ext : List Shp} {σ : Sg} {rr : Sg}  (h : XX4_step σ = some rr) : Cv MX4_step [.ref 10] (SHc ++ ext) σ rr := by
  refine Cv.start rfl rfl (Nat.le_of_ble_eq_true rfl) rfl ?_
  intro X ad C R
  replace C : Cx X cX4_step 2 RX4 none { frames := 1, cells := 0, slots := 0, locals := 21 } := C
  replace R : Rv X cX4_step ad (SHc ++ ext) rr := R
  show AW X 0 0 ad (SHc ++ ext) σ 0 [some (.ref 10), none] []
  rw [XX4_step] at h
  refine a_aload_n C eX4_step_0 rfl ?_
  refine a_getI C eX4_step_1 fX4_67 sh_10 rfl ?_
  refine a_aload_n C eX4_step_4 rfl ?_
  refine a_getI C eX4_step_5 fX4_87 sh_10 rfl ?_
  refine a_iconst C eX4_step_8 (1 : Int32) c_iconst_1 ?_
  refine a_isub C eX4_step_9 ?_
  refine a_min C eX4_step_10 wX4_107 ⟨Nat.le_of_ble_eq_true rfl, Nat.le_of_ble_eq_true rfl⟩ rfl (Nat.le_of_ble_eq_true rfl) ?_
  refine a_lt h (fun x1_1 h => ?_)
  refine a_ist_n C eX4_step_13 (Nat.le_of_ble_eq_true rfl) [some (.ref 10), some (.int x1_1)] rfl ?_
  refine a_aload_n C eX4_step_14 rfl ?_
  refine a_aload_n C eX4_step_15 rfl ?_
  refine a_getR C eX4_step_16 fX4_29 sh_10 rfl ?_
  refine a_iload_n C eX4_step_19 rfl ?_
  obtain ⟨hb_2, h⟩ := gd h
  refine a_iald C eX4_step_20 sh_20 hb_2 ?_
  refine a_putIL C eX4_step_21 fX4_76 ftyX4 rfl rfl sh_10 rfl h (fun σ_3 h => ?_)
  refine a_aload_n C eX4_step_24 rfl ?_
  refine a_aload_n C eX4_step_25 rfl ?_
  refine a_getR C eX4_step_26 fX4_32 sh_10 rfl ?_
  refine a_iload_n C eX4_step_29 rfl ?_
  refine a_iald C eX4_step_30 sh_21 hb_2 ?_
  refine a_putIL C eX4_step_31 fX4_112 ftyX4 rfl rfl sh_10 rfl h (fun σ_4 h => ?_)
  refine a_aload_n C eX4_step_34 rfl ?_
  refine a_aload_n C eX4_step_35 rfl ?_
  refine a_getR C eX4_step_36 fX4_35 sh_10 rfl ?_
  refine a_iload_n C eX4_step_39 rfl ?_
  refine a_iald C eX4_step_40 sh_22 hb_2 ?_
  refine a_putIL C eX4_step_41 fX4_115 ftyX4 rfl rfl sh_10 rfl h (fun σ_5 h => ?_)
  refine a_aload_n C eX4_step_44 rfl ?_
  refine a_iload_n C eX4_step_45 rfl ?_
  refine a_iconst C eX4_step_46 (1 : Int32) c_iconst_1 ?_
  refine a_iadd C eX4_step_47 ?_
  refine a_putIL C eX4_step_48 fX4_67 ftyX4 rfl rfl sh_10 rfl h (fun σ_6 h => ?_)
  exact rt_v R eX4_step_51 h
/-! ShelfDrives$Reader.refuse(I)Z -/
def XX4_refuse (p1 : Int32) (σ : Sg) : Option (Int32 × Sg) := lt (fun (s_1 : Int32) => lt (up σ 10 1 s_1) (fun (σ_3 : Sg) => lt (up σ_3 10 2 (σ_3 10 10)) (fun (σ_4 : Sg) => some ((0 : Int32), σ_4)))) (fun (k15_2 : Int32 → Option (Int32 × Sg)) => if (σ 10 9) = (17 : Int32) then (k15_2 (1 : Int32)) else (k15_2 p1))
theorem kX4_refuse {ext : List Shp} {p1 : Int32} {σ : Sg} {rr : (Int32 × Sg)}  (h : XX4_refuse p1 σ = some rr) : Ci MX4_refuse [.ref 10, .int p1] (SHc ++ ext) σ rr := by
  refine Ci.start rfl rfl (Nat.le_of_ble_eq_true rfl) ?_
  intro X ad C R
  replace C : Cx X cX4_refuse 2 RX4 (some .boolean) { frames := 0, cells := 0, slots := 0, locals := 0 } := C
  replace R : Ri X cX4_refuse (some .boolean) ad (SHc ++ ext) rr := R
  show AW X 0 0 ad (SHc ++ ext) σ 0 [some (.ref 10), some (.int p1)] []
  rw [XX4_refuse] at h
  refine a_aload_n C eX4_refuse_0 rfl ?_
  refine a_aload_n C eX4_refuse_1 rfl ?_
  refine a_getI C eX4_refuse_2 fX4_76 sh_10 rfl ?_
  refine a_bipush C eX4_refuse_5 (17 : Int32) c_bipush_17 ?_
  refine jn (fun (kk : Int32 → Option (Int32 × Sg)) => ∀ (s_1 : Int32), kk s_1 = some rr → AW X 0 0 ad (SHc ++ ext) σ 15 [some (.ref 10), none] [.int s_1, .ref 10]) h ?_ (fun k15_2 hk15_2 h => ?_)
  · intro s_1 h
    refine a_putIL C eX4_refuse_15 fX4_18 ftyX4 rfl rfl sh_10 rfl h (fun σ_3 h => ?_)
    refine a_aload_n C eX4_refuse_18 rfl ?_
    refine a_aload_n C eX4_refuse_19 rfl ?_
    refine a_getI C eX4_refuse_20 fX4_112 sh_10 rfl ?_
    refine a_putIL C eX4_refuse_23 fX4_22 ftyX4 rfl rfl sh_10 rfl h (fun σ_4 h => ?_)
    refine a_iconst C eX4_refuse_26 (0 : Int32) c_iconst_0 ?_
    exact rt_i R eX4_refuse_27 h nb_0
  refine a_icmp_ne C eX4_refuse_7 (fun hc => ?_) (fun hc => ?_)
  · replace h := ie hc h
    refine a_iload_n C eX4_refuse_14 rfl ?_
    exact a_less (lle_same (lle_drop lle_nil)) (hk15_2 _ h)
  · replace h := it hc h
    refine a_iconst C eX4_refuse_10 (1 : Int32) c_iconst_1 ?_
    refine a_goto C eX4_refuse_11 ?_
    exact a_less (lle_same (lle_drop lle_nil)) (hk15_2 _ h)
/-! ShelfDrives$Reader.isOnce()Z -/
def XX4_isOnce (σ : Sg) : Option (Int32 × Sg) := lt ((1 : Int32) <<< ((σ 10 9) &&& 31)) (fun (x1_1 : Int32) => lt (b2 (XX4_refuse (2 : Int32) σ) (fun (r_3 : Int32) (σ_4 : Sg) => if r_3 = 0 ∨ r_3 = 1 then some (r_3, σ_4) else none)) (fun (k26_2 : Option (Int32 × Sg)) => if ((σ 10 12) &&& x1_1) = 0 then (if (σ 11 6) ≤ 0 then (lt (up σ 10 12 ((σ 10 12) ||| x1_1)) (fun (σ_6 : Sg) => some ((1 : Int32), σ_6))) else (k26_2)) else (k26_2)))
theorem kX4_isOnce {ext : List Shp} {σ : Sg} {rr : (Int32 × Sg)}  (h : XX4_isOnce σ = some rr) : Ci MX4_isOnce [.ref 10] (SHc ++ ext) σ rr := by
  refine Ci.start rfl rfl (Nat.le_of_ble_eq_true rfl) ?_
  intro X ad C R
  replace C : Cx X cX4_isOnce 2 RX4 (some .boolean) { frames := 1, cells := 0, slots := 0, locals := 21 } := C
  replace R : Ri X cX4_isOnce (some .boolean) ad (SHc ++ ext) rr := R
  show AW X 0 0 ad (SHc ++ ext) σ 0 [some (.ref 10), none] []
  rw [XX4_isOnce] at h
  refine a_iconst C eX4_isOnce_0 (1 : Int32) c_iconst_1 ?_
  refine a_aload_n C eX4_isOnce_1 rfl ?_
  refine a_getI C eX4_isOnce_2 fX4_76 sh_10 rfl ?_
  refine a_ishl C eX4_isOnce_5 ?_
  refine a_lt h (fun x1_1 h => ?_)
  refine a_ist_n C eX4_isOnce_6 (Nat.le_of_ble_eq_true rfl) [some (.ref 10), some (.int x1_1)] rfl ?_
  refine a_aload_n C eX4_isOnce_7 rfl ?_
  refine a_getI C eX4_isOnce_8 fX4_70 sh_10 rfl ?_
  refine a_iload_n C eX4_isOnce_11 rfl ?_
  refine a_iand C eX4_isOnce_12 ?_
  refine jn (fun (kk : Option (Int32 × Sg)) => kk = some rr → AW X 0 0 ad (SHc ++ ext) σ 26 [some (.ref 10), none] []) h ?_ (fun k26_2 hk26_2 h => ?_)
  · intro h
    refine a_aload_n C eX4_isOnce_26 rfl ?_
    refine a_iconst C eX4_isOnce_27 (2 : Int32) c_iconst_2 ?_
    obtain ⟨r_3, σ_4, hq, h⟩ := b2_e h
    refine a_cVi1 C eX4_isOnce_28 wX4_83 ⟨Nat.le_of_ble_eq_true rfl, Nat.le_of_ble_eq_true rfl, rfl, rfl⟩ rfl sh_10 rfl (kX4_refuse hq) (Nat.le_of_ble_eq_true rfl) ?_
    obtain ⟨hn_5, h⟩ := gd h
    exact rt_i R eX4_isOnce_31 h (nb_b hn_5)
  refine a_if_ne C eX4_isOnce_13 (fun hc => ?_) (fun hc => ?_)
  · replace h := ie hc h
    exact a_less (lle_same (lle_drop lle_nil)) (hk26_2 h)
  · replace h := it hc h
    refine a_aload_n C eX4_isOnce_16 rfl ?_
    refine a_getR C eX4_isOnce_17 fX4_12 sh_10 rfl ?_
    refine a_getI C eX4_isOnce_20 fX4_146 sh_11 rfl ?_
    refine a_if_le C eX4_isOnce_23 (fun hc => ?_) (fun hc => ?_)
    · replace h := it hc h
      refine a_aload_n C eX4_isOnce_32 rfl ?_
      refine a_dup C eX4_isOnce_33 rfl ?_
      refine a_getI C eX4_isOnce_34 fX4_70 sh_10 rfl ?_
      refine a_iload_n C eX4_isOnce_37 rfl ?_
      refine a_ior C eX4_isOnce_38 ?_
      refine a_putIL C eX4_isOnce_39 fX4_70 ftyX4 rfl rfl sh_10 rfl h (fun σ_6 h => ?_)
      refine a_iconst C eX4_isOnce_42 (1 : Int32) c_iconst_1 ?_
      exact rt_i R eX4_isOnce_43 h nb_1
    · replace h := ie hc h
      exact a_less (lle_same (lle_drop lle_nil)) (hk26_2 h)
/-! ShelfDrives$Reader.isNumber(II)Z -/
def XX4_isNumber (p1 : Int32) (p2 : Int32) (σ : Sg) : Option (Int32 × Sg) := if (σ 10 9) = (14 : Int32) then (lt (fun (σ_1 : Sg) => some ((1 : Int32), σ_1)) (fun (k39_2 : Sg → Option (Int32 × Sg)) => lt (b2 (XX4_refuse (4 : Int32) σ) (fun (r_4 : Int32) (σ_5 : Sg) => if r_4 = 0 then (some ((0 : Int32), σ_5)) else (k39_2 σ_5))) (fun (k31_3 : Option (Int32 × Sg)) => if (σ 10 11) < p1 then (k31_3) else (if (σ 10 11) ≤ p2 then (k39_2 σ) else (k31_3))))) else (b2 (XX4_refuse (2 : Int32) σ) (fun (r_6 : Int32) (σ_7 : Sg) => if r_6 = 0 ∨ r_6 = 1 then some (r_6, σ_7) else none))
theorem kX4_isNumber {ext : List Shp} {p1 : Int32} {p2 : Int32} {σ : Sg} {rr : (Int32 × Sg)}  (h : XX4_isNumber p1 p2 σ = some rr) : Ci MX4_isNumber [.ref 10, .int p1, .int p2] (SHc ++ ext) σ rr := by
  refine Ci.start rfl rfl (Nat.le_of_ble_eq_true rfl) ?_
  intro X ad C R
  replace C : Cx X cX4_isNumber 3 RX4 (some .boolean) { frames := 1, cells := 0, slots := 0, locals := 21 } := C
  replace R : Ri X cX4_isNumber (some .boolean) ad (SHc ++ ext) rr := R
  show AW X 0 0 ad (SHc ++ ext) σ 0 [some (.ref 10), some (.int p1), some (.int p2)] []
  rw [XX4_isNumber] at h
  refine a_aload_n C eX4_isNumber_0 rfl ?_
  refine a_getI C eX4_isNumber_1 fX4_76 sh_10 rfl ?_
  refine a_bipush C eX4_isNumber_4 (14 : Int32) c_bipush_14 ?_
  refine a_icmp_eq C eX4_isNumber_6 (fun hc => ?_) (fun hc => ?_)
  · replace h := it hc h
    refine a_aload_n C eX4_isNumber_15 rfl ?_
    refine a_getI C eX4_isNumber_16 fX4_115 sh_10 rfl ?_
    refine a_iload_n C eX4_isNumber_19 rfl ?_
    refine jn (fun (kk : Sg → Option (Int32 × Sg)) => ∀ (σ_1 : Sg), kk σ_1 = some rr → AW X 0 0 ad (SHc ++ ext) σ_1 39 [none, none, none] []) h ?_ (fun k39_2 hk39_2 h => ?_)
    · intro σ_1 h
      refine a_iconst C eX4_isNumber_39 (1 : Int32) c_iconst_1 ?_
      refine a_goto C eX4_isNumber_40 ?_
      exact rt_i R eX4_isNumber_44 h nb_1
    refine jn (fun (kk : Option (Int32 × Sg)) => kk = some rr → AW X 0 0 ad (SHc ++ ext) σ 31 [some (.ref 10), none, none] []) h ?_ (fun k31_3 hk31_3 h => ?_)
    · intro h
      refine a_aload_n C eX4_isNumber_31 rfl ?_
      refine a_iconst C eX4_isNumber_32 (4 : Int32) c_iconst_4 ?_
      obtain ⟨r_4, σ_5, hq, h⟩ := b2_e h
      refine a_cVi1 C eX4_isNumber_33 wX4_83 ⟨Nat.le_of_ble_eq_true rfl, Nat.le_of_ble_eq_true rfl, rfl, rfl⟩ rfl sh_10 rfl (kX4_refuse hq) (Nat.le_of_ble_eq_true rfl) ?_
      refine a_if_eq C eX4_isNumber_36 (fun hc => ?_) (fun hc => ?_)
      · replace h := it hc h
        refine a_iconst C eX4_isNumber_43 (0 : Int32) c_iconst_0 ?_
        exact rt_i R eX4_isNumber_44 h nb_0
      · replace h := ie hc h
        exact a_less (lle_drop (lle_same (lle_same lle_nil))) (hk39_2 _ h)
    refine a_icmp_lt C eX4_isNumber_20 (fun hc => ?_) (fun hc => ?_)
    · replace h := it hc h
      exact a_less (lle_same (lle_drop (lle_drop lle_nil))) (hk31_3 h)
    · replace h := ie hc h
      refine a_aload_n C eX4_isNumber_23 rfl ?_
      refine a_getI C eX4_isNumber_24 fX4_115 sh_10 rfl ?_
      refine a_iload_n C eX4_isNumber_27 rfl ?_
      refine a_icmp_le C eX4_isNumber_28 (fun hc => ?_) (fun hc => ?_)
      · replace h := it hc h
        exact a_less (lle_drop (lle_drop (lle_drop lle_nil))) (hk39_2 _ h)
      · replace h := ie hc h
        exact a_less (lle_same (lle_drop (lle_drop lle_nil))) (hk31_3 h)
  · replace h := ie hc h
    refine a_aload_n C eX4_isNumber_9 rfl ?_
    refine a_iconst C eX4_isNumber_10 (2 : Int32) c_iconst_2 ?_
    obtain ⟨r_6, σ_7, hq, h⟩ := b2_e h
    refine a_cVi1 C eX4_isNumber_11 wX4_83 ⟨Nat.le_of_ble_eq_true rfl, Nat.le_of_ble_eq_true rfl, rfl, rfl⟩ rfl sh_10 rfl (kX4_refuse hq) (Nat.le_of_ble_eq_true rfl) ?_
    obtain ⟨hn_8, h⟩ := gd h
    exact rt_i R eX4_isNumber_14 h (nb_b hn_8)
/-! ShelfDrives$Reader.wantNumber(II)Z -/
def XX4_wantNumber (p1 : Int32) (p2 : Int32) (σ : Sg) : Option (Int32 × Sg) := b1 (XX4_step σ) (fun (σ_1 : Sg) => b2 (XX4_isNumber p1 p2 σ_1) (fun (r_2 : Int32) (σ_3 : Sg) => if r_2 = 0 ∨ r_2 = 1 then some (r_2, σ_3) else none))
theorem kX4_wantNumber {ext : List Shp} {p1 : Int32} {p2 : Int32} {σ : Sg} {rr : (Int32 × Sg)}  (h : XX4_wantNumber p1 p2 σ = some rr) : Ci MX4_wantNumber [.ref 10, .int p1, .int p2] (SHc ++ ext) σ rr := by
  refine Ci.start rfl rfl (Nat.le_of_ble_eq_true rfl) ?_
  intro X ad C R
  replace C : Cx X cX4_wantNumber 3 RX4 (some .boolean) { frames := 2, cells := 0, slots := 0, locals := 43 } := C
  replace R : Ri X cX4_wantNumber (some .boolean) ad (SHc ++ ext) rr := R
  show AW X 0 0 ad (SHc ++ ext) σ 0 [some (.ref 10), some (.int p1), some (.int p2)] []
  rw [XX4_wantNumber] at h
  refine a_aload_n C eX4_wantNumber_0 rfl ?_
  obtain ⟨σ_1, hq, h⟩ := b1_e h
  refine a_cVv0 C eX4_wantNumber_1 wX4_73 ⟨Nat.le_of_ble_eq_true rfl, Nat.le_of_ble_eq_true rfl, rfl, rfl⟩ rfl sh_10 rfl (kX4_step hq) (Nat.le_of_ble_eq_true rfl) ?_
  refine a_aload_n C eX4_wantNumber_4 rfl ?_
  refine a_iload_n C eX4_wantNumber_5 rfl ?_
  refine a_iload_n C eX4_wantNumber_6 rfl ?_
  obtain ⟨r_2, σ_3, hq, h⟩ := b2_e h
  refine a_cVi2 C eX4_wantNumber_7 wX4_118 ⟨Nat.le_of_ble_eq_true rfl, Nat.le_of_ble_eq_true rfl, rfl, rfl⟩ rfl sh_10 rfl (kX4_isNumber hq) (Nat.le_of_ble_eq_true rfl) ?_
  obtain ⟨hn_4, h⟩ := gd h
  exact rt_i R eX4_wantNumber_10 h (nb_b hn_4)
/-! ShelfDrives$Reader.want(I)Z -/
def XX4_want (p1 : Int32) (σ : Sg) : Option (Int32 × Sg) := b1 (XX4_step σ) (fun (σ_1 : Sg) => lt (fun (σ_2 : Sg) => some ((1 : Int32), σ_2)) (fun (k20_3 : Sg → Option (Int32 × Sg)) => if (σ_1 10 9) = p1 then (k20_3 σ_1) else (b2 (XX4_refuse (2 : Int32) σ_1) (fun (r_4 : Int32) (σ_5 : Sg) => if r_4 = 0 then (some ((0 : Int32), σ_5)) else (k20_3 σ_5)))))
theorem kX4_want {ext : List Shp} {p1 : Int32} {σ : Sg} {rr : (Int32 × Sg)}  (h : XX4_want p1 σ = some rr) : Ci MX4_want [.ref 10, .int p1] (SHc ++ ext) σ rr := by
  refine Ci.start rfl rfl (Nat.le_of_ble_eq_true rfl) ?_
  intro X ad C R
  replace C : Cx X cX4_want 2 RX4 (some .boolean) { frames := 2, cells := 0, slots := 0, locals := 42 } := C
  replace R : Ri X cX4_want (some .boolean) ad (SHc ++ ext) rr := R
  show AW X 0 0 ad (SHc ++ ext) σ 0 [some (.ref 10), some (.int p1)] []
  rw [XX4_want] at h
  refine a_aload_n C eX4_want_0 rfl ?_
  obtain ⟨σ_1, hq, h⟩ := b1_e h
  refine a_cVv0 C eX4_want_1 wX4_73 ⟨Nat.le_of_ble_eq_true rfl, Nat.le_of_ble_eq_true rfl, rfl, rfl⟩ rfl sh_10 rfl (kX4_step hq) (Nat.le_of_ble_eq_true rfl) ?_
  refine a_aload_n C eX4_want_4 rfl ?_
  refine a_getI C eX4_want_5 fX4_76 sh_10 rfl ?_
  refine a_iload_n C eX4_want_8 rfl ?_
  refine jn (fun (kk : Sg → Option (Int32 × Sg)) => ∀ (σ_2 : Sg), kk σ_2 = some rr → AW X 0 0 ad (SHc ++ ext) σ_2 20 [none, none] []) h ?_ (fun k20_3 hk20_3 h => ?_)
  · intro σ_2 h
    refine a_iconst C eX4_want_20 (1 : Int32) c_iconst_1 ?_
    refine a_goto C eX4_want_21 ?_
    exact rt_i R eX4_want_25 h nb_1
  refine a_icmp_eq C eX4_want_9 (fun hc => ?_) (fun hc => ?_)
  · replace h := it hc h
    exact a_less (lle_drop (lle_drop lle_nil)) (hk20_3 _ h)
  · replace h := ie hc h
    refine a_aload_n C eX4_want_12 rfl ?_
    refine a_iconst C eX4_want_13 (2 : Int32) c_iconst_2 ?_
    obtain ⟨r_4, σ_5, hq, h⟩ := b2_e h
    refine a_cVi1 C eX4_want_14 wX4_83 ⟨Nat.le_of_ble_eq_true rfl, Nat.le_of_ble_eq_true rfl, rfl, rfl⟩ rfl sh_10 rfl (kX4_refuse hq) (Nat.le_of_ble_eq_true rfl) ?_
    refine a_if_eq C eX4_want_17 (fun hc => ?_) (fun hc => ?_)
    · replace h := it hc h
      refine a_iconst C eX4_want_24 (0 : Int32) c_iconst_0 ?_
      exact rt_i R eX4_want_25 h nb_0
    · replace h := ie hc h
      exact a_less (lle_drop (lle_drop lle_nil)) (hk20_3 _ h)
/-! ShelfDrives$Reader.readDays()Z -/
def XX4_readDays (σ : Sg) : Option (Int32 × Sg) := b2 (XX4_wantNumber (1 : Int32) (14 : Int32) σ) (fun (r_1 : Int32) (σ_2 : Sg) => if r_1 = 0 then (some ((0 : Int32), σ_2)) else (lt (up σ_2 11 0 (σ_2 10 11)) (fun (σ_3 : Sg) => b2 (XX4_want (15 : Int32) σ_3) (fun (r_4 : Int32) (σ_5 : Sg) => if r_4 = 0 ∨ r_4 = 1 then some (r_4, σ_5) else none))))
theorem kX4_readDays {ext : List Shp} {σ : Sg} {rr : (Int32 × Sg)}  (h : XX4_readDays σ = some rr) : Ci MX4_readDays [.ref 10] (SHc ++ ext) σ rr := by
  refine Ci.start rfl rfl (Nat.le_of_ble_eq_true rfl) ?_
  intro X ad C R
  replace C : Cx X cX4_readDays 1 RX4 (some .boolean) { frames := 3, cells := 0, slots := 0, locals := 65 } := C
  replace R : Ri X cX4_readDays (some .boolean) ad (SHc ++ ext) rr := R
  show AW X 0 0 ad (SHc ++ ext) σ 0 [some (.ref 10)] []
  rw [XX4_readDays] at h
  refine a_aload_n C eX4_readDays_0 rfl ?_
  refine a_iconst C eX4_readDays_1 (1 : Int32) c_iconst_1 ?_
  refine a_bipush C eX4_readDays_2 (14 : Int32) c_bipush_14 ?_
  obtain ⟨r_1, σ_2, hq, h⟩ := b2_e h
  refine a_cVi2 C eX4_readDays_4 wX4_149 ⟨Nat.le_of_ble_eq_true rfl, Nat.le_of_ble_eq_true rfl, rfl, rfl⟩ rfl sh_10 rfl (kX4_wantNumber hq) (Nat.le_of_ble_eq_true rfl) ?_
  refine a_if_ne C eX4_readDays_7 (fun hc => ?_) (fun hc => ?_)
  · replace h := ie hc h
    refine a_aload_n C eX4_readDays_12 rfl ?_
    refine a_getR C eX4_readDays_13 fX4_12 sh_10 rfl ?_
    refine a_aload_n C eX4_readDays_16 rfl ?_
    refine a_getI C eX4_readDays_17 fX4_115 sh_10 rfl ?_
    refine a_putIL C eX4_readDays_20 fX4_152 ftyX7 rfl rfl sh_11 rfl h (fun σ_3 h => ?_)
    refine a_aload_n C eX4_readDays_23 rfl ?_
    refine a_bipush C eX4_readDays_24 (15 : Int32) c_bipush_15 ?_
    obtain ⟨r_4, σ_5, hq, h⟩ := b2_e h
    refine a_cVi1 C eX4_readDays_26 wX4_155 ⟨Nat.le_of_ble_eq_true rfl, Nat.le_of_ble_eq_true rfl, rfl, rfl⟩ rfl sh_10 rfl (kX4_want hq) (Nat.le_of_ble_eq_true rfl) ?_
    obtain ⟨hn_6, h⟩ := gd h
    exact rt_i R eX4_readDays_29 h (nb_b hn_6)
  · replace h := it hc h
    refine a_iconst C eX4_readDays_10 (0 : Int32) c_iconst_0 ?_
    exact rt_i R eX4_readDays_11 h nb_0
/-! ShelfDrives$Reader.readDepot()Z -/
def XX4_readDepot (σ : Sg) : Option (Int32 × Sg) := b2 (XX4_wantNumber (0 : Int32) (30 : Int32) σ) (fun (r_1 : Int32) (σ_2 : Sg) => if r_1 = 0 then (some ((0 : Int32), σ_2)) else (lt (up σ_2 12 6 (σ_2 10 11)) (fun (σ_3 : Sg) => b2 (XX4_wantNumber (0 : Int32) (30 : Int32) σ_3) (fun (r_4 : Int32) (σ_5 : Sg) => if r_4 = 0 then (some ((0 : Int32), σ_5)) else (lt (up σ_5 13 6 (σ_5 10 11)) (fun (σ_6 : Sg) => b2 (XX4_want (15 : Int32) σ_6) (fun (r_7 : Int32) (σ_8 : Sg) => if r_7 = 0 ∨ r_7 = 1 then some (r_7, σ_8) else none)))))))
theorem kX4_readDepot {ext : List Shp} {σ : Sg} {rr : (Int32 × Sg)}  (h : XX4_readDepot σ = some rr) : Ci MX4_readDepot [.ref 10] (SHc ++ ext) σ rr := by
  refine Ci.start rfl rfl (Nat.le_of_ble_eq_true rfl) ?_
  intro X ad C R
  replace C : Cx X cX4_readDepot 1 RX4 (some .boolean) { frames := 3, cells := 0, slots := 0, locals := 65 } := C
  replace R : Ri X cX4_readDepot (some .boolean) ad (SHc ++ ext) rr := R
  show AW X 0 0 ad (SHc ++ ext) σ 0 [some (.ref 10)] []
  rw [XX4_readDepot] at h
  refine a_aload_n C eX4_readDepot_0 rfl ?_
  refine a_iconst C eX4_readDepot_1 (0 : Int32) c_iconst_0 ?_
  refine a_bipush C eX4_readDepot_2 (30 : Int32) c_bipush_30 ?_
  obtain ⟨r_1, σ_2, hq, h⟩ := b2_e h
  refine a_cVi2 C eX4_readDepot_4 wX4_149 ⟨Nat.le_of_ble_eq_true rfl, Nat.le_of_ble_eq_true rfl, rfl, rfl⟩ rfl sh_10 rfl (kX4_wantNumber hq) (Nat.le_of_ble_eq_true rfl) ?_
  refine a_if_ne C eX4_readDepot_7 (fun hc => ?_) (fun hc => ?_)
  · replace h := ie hc h
    refine a_aload_n C eX4_readDepot_12 rfl ?_
    refine a_getR C eX4_readDepot_13 fX4_12 sh_10 rfl ?_
    refine a_getR C eX4_readDepot_16 fX4_158 sh_11 rfl ?_
    refine a_bipush C eX4_readDepot_19 (6 : Int32) c_bipush_6 ?_
    refine a_aload_n C eX4_readDepot_21 rfl ?_
    refine a_getI C eX4_readDepot_22 fX4_115 sh_10 rfl ?_
    refine a_iastK C eX4_readDepot_25 sh_12 ix_6 (Nat.le_of_ble_eq_true rfl) h (fun σ_3 h => ?_)
    refine a_aload_n C eX4_readDepot_26 rfl ?_
    refine a_iconst C eX4_readDepot_27 (0 : Int32) c_iconst_0 ?_
    refine a_bipush C eX4_readDepot_28 (30 : Int32) c_bipush_30 ?_
    obtain ⟨r_4, σ_5, hq, h⟩ := b2_e h
    refine a_cVi2 C eX4_readDepot_30 wX4_149 ⟨Nat.le_of_ble_eq_true rfl, Nat.le_of_ble_eq_true rfl, rfl, rfl⟩ rfl sh_10 rfl (kX4_wantNumber hq) (Nat.le_of_ble_eq_true rfl) ?_
    refine a_if_ne C eX4_readDepot_33 (fun hc => ?_) (fun hc => ?_)
    · replace h := ie hc h
      refine a_aload_n C eX4_readDepot_38 rfl ?_
      refine a_getR C eX4_readDepot_39 fX4_12 sh_10 rfl ?_
      refine a_getR C eX4_readDepot_42 fX4_161 sh_11 rfl ?_
      refine a_bipush C eX4_readDepot_45 (6 : Int32) c_bipush_6 ?_
      refine a_aload_n C eX4_readDepot_47 rfl ?_
      refine a_getI C eX4_readDepot_48 fX4_115 sh_10 rfl ?_
      refine a_iastK C eX4_readDepot_51 sh_13 ix_6 (Nat.le_of_ble_eq_true rfl) h (fun σ_6 h => ?_)
      refine a_aload_n C eX4_readDepot_52 rfl ?_
      refine a_bipush C eX4_readDepot_53 (15 : Int32) c_bipush_15 ?_
      obtain ⟨r_7, σ_8, hq, h⟩ := b2_e h
      refine a_cVi1 C eX4_readDepot_55 wX4_155 ⟨Nat.le_of_ble_eq_true rfl, Nat.le_of_ble_eq_true rfl, rfl, rfl⟩ rfl sh_10 rfl (kX4_want hq) (Nat.le_of_ble_eq_true rfl) ?_
      obtain ⟨hn_9, h⟩ := gd h
      exact rt_i R eX4_readDepot_58 h (nb_b hn_9)
    · replace h := it hc h
      refine a_iconst C eX4_readDepot_36 (0 : Int32) c_iconst_0 ?_
      exact rt_i R eX4_readDepot_37 h nb_0
  · replace h := it hc h
    refine a_iconst C eX4_readDepot_10 (0 : Int32) c_iconst_0 ?_
    exact rt_i R eX4_readDepot_11 h nb_0
/-! ShelfDrives$Reader.readTruck()Z -/
def XX4_readTruck (σ : Sg) : Option (Int32 × Sg) := b2 (XX4_wantNumber (1 : Int32) (99 : Int32) σ) (fun (r_1 : Int32) (σ_2 : Sg) => if r_1 = 0 then (some ((0 : Int32), σ_2)) else (lt (up σ_2 11 1 (σ_2 10 11)) (fun (σ_3 : Sg) => b1 (XX4_step σ_3) (fun (σ_4 : Sg) => lt (fun (σ_5 : Sg) => lt (fun (σ_7 : Sg) => lt (fun (σ_9 : Sg) => some ((1 : Int32), σ_9)) (fun (k114_10 : Sg → Option (Int32 × Sg)) => if (σ_7 10 9) = (15 : Int32) then (k114_10 σ_7) else (b2 (XX4_refuse (2 : Int32) σ_7) (fun (r_11 : Int32) (σ_12 : Sg) => if r_11 = 0 then (some ((0 : Int32), σ_12)) else (k114_10 σ_12))))) (fun (k97_8 : Sg → Option (Int32 × Sg)) => if (σ_5 10 9) = (4 : Int32) then (b2 (XX4_wantNumber (0 : Int32) (9 : Int32) σ_5) (fun (r_13 : Int32) (σ_14 : Sg) => if r_13 = 0 then (some ((0 : Int32), σ_14)) else (lt (up σ_14 11 3 (σ_14 10 11)) (fun (σ_15 : Sg) => b1 (XX4_step σ_15) (fun (σ_16 : Sg) => k97_8 σ_16))))) else (k97_8 σ_5))) (fun (k62_6 : Sg → Option (Int32 × Sg)) => if (σ_4 10 9) = (3 : Int32) then (b2 (XX4_wantNumber (0 : Int32) (99 : Int32) σ_4) (fun (r_17 : Int32) (σ_18 : Sg) => if r_17 = 0 then (some ((0 : Int32), σ_18)) else (lt (up σ_18 11 2 (σ_18 10 11)) (fun (σ_19 : Sg) => b1 (XX4_step σ_19) (fun (σ_20 : Sg) => k62_6 σ_20))))) else (k62_6 σ_4))))))
theorem kX4_readTruck {ext : List Shp} {σ : Sg} {rr : (Int32 × Sg)}  (h : XX4_readTruck σ = some rr) : Ci MX4_readTruck [.ref 10] (SHc ++ ext) σ rr := by
  refine Ci.start rfl rfl (Nat.le_of_ble_eq_true rfl) ?_
  intro X ad C R
  replace C : Cx X cX4_readTruck 1 RX4 (some .boolean) { frames := 3, cells := 0, slots := 0, locals := 65 } := C
  replace R : Ri X cX4_readTruck (some .boolean) ad (SHc ++ ext) rr := R
  show AW X 0 0 ad (SHc ++ ext) σ 0 [some (.ref 10)] []
  rw [XX4_readTruck] at h
  refine a_aload_n C eX4_readTruck_0 rfl ?_
  refine a_iconst C eX4_readTruck_1 (1 : Int32) c_iconst_1 ?_
  refine a_bipush C eX4_readTruck_2 (99 : Int32) c_bipush_99 ?_
  obtain ⟨r_1, σ_2, hq, h⟩ := b2_e h
  refine a_cVi2 C eX4_readTruck_4 wX4_149 ⟨Nat.le_of_ble_eq_true rfl, Nat.le_of_ble_eq_true rfl, rfl, rfl⟩ rfl sh_10 rfl (kX4_wantNumber hq) (Nat.le_of_ble_eq_true rfl) ?_
  refine a_if_ne C eX4_readTruck_7 (fun hc => ?_) (fun hc => ?_)
  · replace h := ie hc h
    refine a_aload_n C eX4_readTruck_12 rfl ?_
    refine a_getR C eX4_readTruck_13 fX4_12 sh_10 rfl ?_
    refine a_aload_n C eX4_readTruck_16 rfl ?_
    refine a_getI C eX4_readTruck_17 fX4_115 sh_10 rfl ?_
    refine a_putIL C eX4_readTruck_20 fX4_170 ftyX7 rfl rfl sh_11 rfl h (fun σ_3 h => ?_)
    refine a_aload_n C eX4_readTruck_23 rfl ?_
    obtain ⟨σ_4, hq, h⟩ := b1_e h
    refine a_cVv0 C eX4_readTruck_24 wX4_73 ⟨Nat.le_of_ble_eq_true rfl, Nat.le_of_ble_eq_true rfl, rfl, rfl⟩ rfl sh_10 rfl (kX4_step hq) (Nat.le_of_ble_eq_true rfl) ?_
    refine a_aload_n C eX4_readTruck_27 rfl ?_
    refine a_getI C eX4_readTruck_28 fX4_76 sh_10 rfl ?_
    refine a_iconst C eX4_readTruck_31 (3 : Int32) c_iconst_3 ?_
    refine jn (fun (kk : Sg → Option (Int32 × Sg)) => ∀ (σ_5 : Sg), kk σ_5 = some rr → AW X 0 0 ad (SHc ++ ext) σ_5 62 [some (.ref 10)] []) h ?_ (fun k62_6 hk62_6 h => ?_)
    · intro σ_5 h
      refine a_aload_n C eX4_readTruck_62 rfl ?_
      refine a_getI C eX4_readTruck_63 fX4_76 sh_10 rfl ?_
      refine a_iconst C eX4_readTruck_66 (4 : Int32) c_iconst_4 ?_
      refine jn (fun (kk : Sg → Option (Int32 × Sg)) => ∀ (σ_7 : Sg), kk σ_7 = some rr → AW X 0 0 ad (SHc ++ ext) σ_7 97 [some (.ref 10)] []) h ?_ (fun k97_8 hk97_8 h => ?_)
      · intro σ_7 h
        refine a_aload_n C eX4_readTruck_97 rfl ?_
        refine a_getI C eX4_readTruck_98 fX4_76 sh_10 rfl ?_
        refine a_bipush C eX4_readTruck_101 (15 : Int32) c_bipush_15 ?_
        refine jn (fun (kk : Sg → Option (Int32 × Sg)) => ∀ (σ_9 : Sg), kk σ_9 = some rr → AW X 0 0 ad (SHc ++ ext) σ_9 114 [none] []) h ?_ (fun k114_10 hk114_10 h => ?_)
        · intro σ_9 h
          refine a_iconst C eX4_readTruck_114 (1 : Int32) c_iconst_1 ?_
          refine a_goto C eX4_readTruck_115 ?_
          exact rt_i R eX4_readTruck_119 h nb_1
        refine a_icmp_eq C eX4_readTruck_103 (fun hc => ?_) (fun hc => ?_)
        · replace h := it hc h
          exact a_less (lle_drop lle_nil) (hk114_10 _ h)
        · replace h := ie hc h
          refine a_aload_n C eX4_readTruck_106 rfl ?_
          refine a_iconst C eX4_readTruck_107 (2 : Int32) c_iconst_2 ?_
          obtain ⟨r_11, σ_12, hq, h⟩ := b2_e h
          refine a_cVi1 C eX4_readTruck_108 wX4_83 ⟨Nat.le_of_ble_eq_true rfl, Nat.le_of_ble_eq_true rfl, rfl, rfl⟩ rfl sh_10 rfl (kX4_refuse hq) (Nat.le_of_ble_eq_true rfl) ?_
          refine a_if_eq C eX4_readTruck_111 (fun hc => ?_) (fun hc => ?_)
          · replace h := it hc h
            refine a_iconst C eX4_readTruck_118 (0 : Int32) c_iconst_0 ?_
            exact rt_i R eX4_readTruck_119 h nb_0
          · replace h := ie hc h
            exact a_less (lle_drop lle_nil) (hk114_10 _ h)
      refine a_icmp_ne C eX4_readTruck_67 (fun hc => ?_) (fun hc => ?_)
      · replace h := ie hc h
        exact a_less (lle_same lle_nil) (hk97_8 _ h)
      · replace h := it hc h
        refine a_aload_n C eX4_readTruck_70 rfl ?_
        refine a_iconst C eX4_readTruck_71 (0 : Int32) c_iconst_0 ?_
        refine a_bipush C eX4_readTruck_72 (9 : Int32) c_bipush_9 ?_
        obtain ⟨r_13, σ_14, hq, h⟩ := b2_e h
        refine a_cVi2 C eX4_readTruck_74 wX4_149 ⟨Nat.le_of_ble_eq_true rfl, Nat.le_of_ble_eq_true rfl, rfl, rfl⟩ rfl sh_10 rfl (kX4_wantNumber hq) (Nat.le_of_ble_eq_true rfl) ?_
        refine a_if_ne C eX4_readTruck_77 (fun hc => ?_) (fun hc => ?_)
        · replace h := ie hc h
          refine a_aload_n C eX4_readTruck_82 rfl ?_
          refine a_getR C eX4_readTruck_83 fX4_12 sh_10 rfl ?_
          refine a_aload_n C eX4_readTruck_86 rfl ?_
          refine a_getI C eX4_readTruck_87 fX4_115 sh_10 rfl ?_
          refine a_putIL C eX4_readTruck_90 fX4_176 ftyX7 rfl rfl sh_11 rfl h (fun σ_15 h => ?_)
          refine a_aload_n C eX4_readTruck_93 rfl ?_
          obtain ⟨σ_16, hq, h⟩ := b1_e h
          refine a_cVv0 C eX4_readTruck_94 wX4_73 ⟨Nat.le_of_ble_eq_true rfl, Nat.le_of_ble_eq_true rfl, rfl, rfl⟩ rfl sh_10 rfl (kX4_step hq) (Nat.le_of_ble_eq_true rfl) ?_
          exact a_less (lle_same lle_nil) (hk97_8 _ h)
        · replace h := it hc h
          refine a_iconst C eX4_readTruck_80 (0 : Int32) c_iconst_0 ?_
          exact rt_i R eX4_readTruck_81 h nb_0
    refine a_icmp_ne C eX4_readTruck_32 (fun hc => ?_) (fun hc => ?_)
    · replace h := ie hc h
      exact a_less (lle_same lle_nil) (hk62_6 _ h)
    · replace h := it hc h
      refine a_aload_n C eX4_readTruck_35 rfl ?_
      refine a_iconst C eX4_readTruck_36 (0 : Int32) c_iconst_0 ?_
      refine a_bipush C eX4_readTruck_37 (99 : Int32) c_bipush_99 ?_
      obtain ⟨r_17, σ_18, hq, h⟩ := b2_e h
      refine a_cVi2 C eX4_readTruck_39 wX4_149 ⟨Nat.le_of_ble_eq_true rfl, Nat.le_of_ble_eq_true rfl, rfl, rfl⟩ rfl sh_10 rfl (kX4_wantNumber hq) (Nat.le_of_ble_eq_true rfl) ?_
      refine a_if_ne C eX4_readTruck_42 (fun hc => ?_) (fun hc => ?_)
      · replace h := ie hc h
        refine a_aload_n C eX4_readTruck_47 rfl ?_
        refine a_getR C eX4_readTruck_48 fX4_12 sh_10 rfl ?_
        refine a_aload_n C eX4_readTruck_51 rfl ?_
        refine a_getI C eX4_readTruck_52 fX4_115 sh_10 rfl ?_
        refine a_putIL C eX4_readTruck_55 fX4_173 ftyX7 rfl rfl sh_11 rfl h (fun σ_19 h => ?_)
        refine a_aload_n C eX4_readTruck_58 rfl ?_
        obtain ⟨σ_20, hq, h⟩ := b1_e h
        refine a_cVv0 C eX4_readTruck_59 wX4_73 ⟨Nat.le_of_ble_eq_true rfl, Nat.le_of_ble_eq_true rfl, rfl, rfl⟩ rfl sh_10 rfl (kX4_step hq) (Nat.le_of_ble_eq_true rfl) ?_
        exact a_less (lle_same lle_nil) (hk62_6 _ h)
      · replace h := it hc h
        refine a_iconst C eX4_readTruck_45 (0 : Int32) c_iconst_0 ?_
        exact rt_i R eX4_readTruck_46 h nb_0
  · replace h := it hc h
    refine a_iconst C eX4_readTruck_10 (0 : Int32) c_iconst_0 ?_
    exact rt_i R eX4_readTruck_11 h nb_0
/-! ShelfDrives$Reader.readHold()Z -/
def XX4_readHold (σ : Sg) : Option (Int32 × Sg) := b2 (XX4_wantNumber (0 : Int32) (9 : Int32) σ) (fun (r_1 : Int32) (σ_2 : Sg) => if r_1 = 0 then (some ((0 : Int32), σ_2)) else (lt (up σ_2 11 4 (σ_2 10 11)) (fun (σ_3 : Sg) => b2 (XX4_want (15 : Int32) σ_3) (fun (r_4 : Int32) (σ_5 : Sg) => if r_4 = 0 ∨ r_4 = 1 then some (r_4, σ_5) else none))))
theorem kX4_readHold {ext : List Shp} {σ : Sg} {rr : (Int32 × Sg)}  (h : XX4_readHold σ = some rr) : Ci MX4_readHold [.ref 10] (SHc ++ ext) σ rr := by
  refine Ci.start rfl rfl (Nat.le_of_ble_eq_true rfl) ?_
  intro X ad C R
  replace C : Cx X cX4_readHold 1 RX4 (some .boolean) { frames := 3, cells := 0, slots := 0, locals := 65 } := C
  replace R : Ri X cX4_readHold (some .boolean) ad (SHc ++ ext) rr := R
  show AW X 0 0 ad (SHc ++ ext) σ 0 [some (.ref 10)] []
  rw [XX4_readHold] at h
  refine a_aload_n C eX4_readHold_0 rfl ?_
  refine a_iconst C eX4_readHold_1 (0 : Int32) c_iconst_0 ?_
  refine a_bipush C eX4_readHold_2 (9 : Int32) c_bipush_9 ?_
  obtain ⟨r_1, σ_2, hq, h⟩ := b2_e h
  refine a_cVi2 C eX4_readHold_4 wX4_149 ⟨Nat.le_of_ble_eq_true rfl, Nat.le_of_ble_eq_true rfl, rfl, rfl⟩ rfl sh_10 rfl (kX4_wantNumber hq) (Nat.le_of_ble_eq_true rfl) ?_
  refine a_if_ne C eX4_readHold_7 (fun hc => ?_) (fun hc => ?_)
  · replace h := ie hc h
    refine a_aload_n C eX4_readHold_12 rfl ?_
    refine a_getR C eX4_readHold_13 fX4_12 sh_10 rfl ?_
    refine a_aload_n C eX4_readHold_16 rfl ?_
    refine a_getI C eX4_readHold_17 fX4_115 sh_10 rfl ?_
    refine a_putIL C eX4_readHold_20 fX4_164 ftyX7 rfl rfl sh_11 rfl h (fun σ_3 h => ?_)
    refine a_aload_n C eX4_readHold_23 rfl ?_
    refine a_bipush C eX4_readHold_24 (15 : Int32) c_bipush_15 ?_
    obtain ⟨r_4, σ_5, hq, h⟩ := b2_e h
    refine a_cVi1 C eX4_readHold_26 wX4_155 ⟨Nat.le_of_ble_eq_true rfl, Nat.le_of_ble_eq_true rfl, rfl, rfl⟩ rfl sh_10 rfl (kX4_want hq) (Nat.le_of_ble_eq_true rfl) ?_
    obtain ⟨hn_6, h⟩ := gd h
    exact rt_i R eX4_readHold_29 h (nb_b hn_6)
  · replace h := it hc h
    refine a_iconst C eX4_readHold_10 (0 : Int32) c_iconst_0 ?_
    exact rt_i R eX4_readHold_11 h nb_0
/-! ShelfDrives$Reader.readLost()Z -/
def XX4_readLost (σ : Sg) : Option (Int32 × Sg) := b2 (XX4_wantNumber (0 : Int32) (99 : Int32) σ) (fun (r_1 : Int32) (σ_2 : Sg) => if r_1 = 0 then (some ((0 : Int32), σ_2)) else (lt (up σ_2 11 5 (σ_2 10 11)) (fun (σ_3 : Sg) => b2 (XX4_want (15 : Int32) σ_3) (fun (r_4 : Int32) (σ_5 : Sg) => if r_4 = 0 ∨ r_4 = 1 then some (r_4, σ_5) else none))))
theorem kX4_readLost {ext : List Shp} {σ : Sg} {rr : (Int32 × Sg)}  (h : XX4_readLost σ = some rr) : Ci MX4_readLost [.ref 10] (SHc ++ ext) σ rr := by
  refine Ci.start rfl rfl (Nat.le_of_ble_eq_true rfl) ?_
  intro X ad C R
  replace C : Cx X cX4_readLost 1 RX4 (some .boolean) { frames := 3, cells := 0, slots := 0, locals := 65 } := C
  replace R : Ri X cX4_readLost (some .boolean) ad (SHc ++ ext) rr := R
  show AW X 0 0 ad (SHc ++ ext) σ 0 [some (.ref 10)] []
  rw [XX4_readLost] at h
  refine a_aload_n C eX4_readLost_0 rfl ?_
  refine a_iconst C eX4_readLost_1 (0 : Int32) c_iconst_0 ?_
  refine a_bipush C eX4_readLost_2 (99 : Int32) c_bipush_99 ?_
  obtain ⟨r_1, σ_2, hq, h⟩ := b2_e h
  refine a_cVi2 C eX4_readLost_4 wX4_149 ⟨Nat.le_of_ble_eq_true rfl, Nat.le_of_ble_eq_true rfl, rfl, rfl⟩ rfl sh_10 rfl (kX4_wantNumber hq) (Nat.le_of_ble_eq_true rfl) ?_
  refine a_if_ne C eX4_readLost_7 (fun hc => ?_) (fun hc => ?_)
  · replace h := ie hc h
    refine a_aload_n C eX4_readLost_12 rfl ?_
    refine a_getR C eX4_readLost_13 fX4_12 sh_10 rfl ?_
    refine a_aload_n C eX4_readLost_16 rfl ?_
    refine a_getI C eX4_readLost_17 fX4_115 sh_10 rfl ?_
    refine a_putIL C eX4_readLost_20 fX4_167 ftyX7 rfl rfl sh_11 rfl h (fun σ_3 h => ?_)
    refine a_aload_n C eX4_readLost_23 rfl ?_
    refine a_bipush C eX4_readLost_24 (15 : Int32) c_bipush_15 ?_
    obtain ⟨r_4, σ_5, hq, h⟩ := b2_e h
    refine a_cVi1 C eX4_readLost_26 wX4_155 ⟨Nat.le_of_ble_eq_true rfl, Nat.le_of_ble_eq_true rfl, rfl, rfl⟩ rfl sh_10 rfl (kX4_want hq) (Nat.le_of_ble_eq_true rfl) ?_
    obtain ⟨hn_6, h⟩ := gd h
    exact rt_i R eX4_readLost_29 h (nb_b hn_6)
  · replace h := it hc h
    refine a_iconst C eX4_readLost_10 (0 : Int32) c_iconst_0 ?_
    exact rt_i R eX4_readLost_11 h nb_0
/-! ShelfDrives$Reader.shopNamed(I)I -/
def LX4_shopNamed_2 (p1 : Int32) (σ : Sg) : Nat → Int32 → Option Int32
  | 0, _ => none
  | n + 1, x2_1 => if (σ 11 6) ≤ x2_1 then (some (-1 : Int32)) else (if ib x2_1 6 then if (σ 23 x2_1.toNatClampNeg) = p1 then (some x2_1) else (lt (x2_1 + (1 : Int32)) (fun (x2_3 : Int32) => LX4_shopNamed_2 p1 σ n x2_3)) else none)
def XX4_shopNamed (p1 : Int32) (σ : Sg) : Option Int32 := LX4_shopNamed_2 p1 σ FUEL (0 : Int32)
theorem lX4_shopNamed_2 {ext : List Shp} {X : CT} {ad : Nat → Nat} {rr : Int32} {p1 : Int32} {σ : Sg}  (C : Cx X cX4_shopNamed 3 RX4 (some .int) { frames := 0, cells := 0, slots := 0, locals := 0 }) (R : Ri X cX4_shopNamed (some .int) ad (SHc ++ ext) (rr, σ))  : ∀ (n : Nat) (x2_1 : Int32), LX4_shopNamed_2 p1 σ n x2_1 = some rr → AW X 0 0 ad (SHc ++ ext) σ 2 [some (.ref 10), some (.int p1), some (.int x2_1)] [] := by
  intro n
  induction n with
  | zero =>
    intro x2_1 h
    rw [LX4_shopNamed_2] at h
    cases h
  | succ n ih =>
    intro x2_1 h
    rw [LX4_shopNamed_2] at h
    refine a_iload_n C eX4_shopNamed_2 rfl ?_
    refine a_aload_n C eX4_shopNamed_3 rfl ?_
    refine a_getR C eX4_shopNamed_4 fX4_12 sh_10 rfl ?_
    refine a_getI C eX4_shopNamed_7 fX4_146 sh_11 rfl ?_
    refine a_icmp_ge C eX4_shopNamed_10 (fun hc => ?_) (fun hc => ?_)
    · replace h := it hc h
      refine a_iconst C eX4_shopNamed_31 (-1 : Int32) c_iconst_m1 ?_
      exact rt_p R eX4_shopNamed_32 h nb_int
    · replace h := ie hc h
      refine a_aload_n C eX4_shopNamed_13 rfl ?_
      refine a_getR C eX4_shopNamed_14 fX4_38 sh_10 rfl ?_
      refine a_iload_n C eX4_shopNamed_17 rfl ?_
      obtain ⟨hb_2, h⟩ := gd h
      refine a_iald C eX4_shopNamed_18 sh_23 hb_2 ?_
      refine a_iload_n C eX4_shopNamed_19 rfl ?_
      refine a_icmp_ne C eX4_shopNamed_20 (fun hc => ?_) (fun hc => ?_)
      · replace h := ie hc h
        refine a_inc C eX4_shopNamed_25 rfl c_iconst_1 h (fun z => [some (.ref 10), some (.int p1), some (.int z)]) (fun _ => rfl) (fun x2_3 h => ?_)
        refine a_goto C eX4_shopNamed_28 ?_
        exact a_less (lle_same (lle_same (lle_same lle_nil))) (ih _ h)
      · replace h := it hc h
        refine a_iload_n C eX4_shopNamed_23 rfl ?_
        exact rt_p R eX4_shopNamed_24 h nb_int
theorem kX4_shopNamed {ext : List Shp} {p1 : Int32} {σ : Sg} {rr : Int32}  (h : XX4_shopNamed p1 σ = some rr) : Ci MX4_shopNamed [.ref 10, .int p1] (SHc ++ ext) σ (rr, σ) := by
  refine Ci.start rfl rfl (Nat.le_of_ble_eq_true rfl) ?_
  intro X ad C R
  replace C : Cx X cX4_shopNamed 3 RX4 (some .int) { frames := 0, cells := 0, slots := 0, locals := 0 } := C
  replace R : Ri X cX4_shopNamed (some .int) ad (SHc ++ ext) (rr, σ) := R
  show AW X 0 0 ad (SHc ++ ext) σ 0 [some (.ref 10), some (.int p1), none] []
  rw [XX4_shopNamed] at h
  refine a_iconst C eX4_shopNamed_0 (0 : Int32) c_iconst_0 ?_
  refine a_ist_n C eX4_shopNamed_1 (Nat.le_of_ble_eq_true rfl) [some (.ref 10), some (.int p1), some (.int (0 : Int32))] rfl ?_
  exact a_less (lle_same (lle_same (lle_same lle_nil))) (lX4_shopNamed_2  C R  _ _ h)
/-! ShelfDrives$Reader.readSold(I)Z -/
def LX4_readSold_78 (p1 : Int32) (x2_2 : Int32) (k116_10 : Sg → Option (Int32 × Sg)) : Nat → Int32 → Sg → Option (Int32 × Sg)
  | 0, _, _ => none
  | n + 1, x3_12, σ_13 => if (σ_13 11 0) ≤ x3_12 then (k116_10 σ_13) else (b1 (XX9_cellOf p1 x3_12) (fun (r_14 : Int32) => if ¬ x2_2 = 0 then if ib (x3_12 - x3_12 / x2_2 * x2_2) 7 then if ib r_14 84 then lt (up σ_13 16 r_14.toNatClampNeg (σ_13 24 (x3_12 - x3_12 / x2_2 * x2_2).toNatClampNeg)) (fun (σ_17 : Sg) => lt (x3_12 + (1 : Int32)) (fun (x3_19 : Int32) => LX4_readSold_78 p1 x2_2 k116_10 n x3_19 σ_17)) else none else none else none))
def LX4_readSold_6 (k57_4 : Int32 → Sg → Option (Int32 × Sg)) : Nat → Int32 → Sg → Option (Int32 × Sg)
  | 0, _, _ => none
  | n + 1, x2_20, σ_21 => if (7 : Int32) ≤ x2_20 then (k57_4 x2_20 σ_21) else (lt (b2 (XX4_isNumber (0 : Int32) (30 : Int32) σ_21) (fun (r_23 : Int32) (σ_24 : Sg) => if r_23 = 0 then (some ((0 : Int32), σ_24)) else (if ib x2_20 7 then lt (up σ_24 24 x2_20.toNatClampNeg (σ_24 10 11)) (fun (σ_25 : Sg) => lt (x2_20 + (1 : Int32)) (fun (x2_27 : Int32) => b1 (XX4_step σ_25) (fun (σ_28 : Sg) => LX4_readSold_6 k57_4 n x2_27 σ_28))) else none))) (fun (k25_22 : Option (Int32 × Sg)) => if (σ_21 10 9) = (15 : Int32) then (if x2_20 = 0 then (k25_22) else (k57_4 x2_20 σ_21)) else (k25_22)))
def XX4_readSold (p1 : Int32) (σ : Sg) : Option (Int32 × Sg) := b1 (XX4_step σ) (fun (σ_1 : Sg) => lt (fun (x2_2 : Int32) (σ_3 : Sg) => lt (b2 (XX4_refuse (2 : Int32) σ_3) (fun (r_6 : Int32) (σ_7 : Sg) => if r_6 = 0 ∨ r_6 = 1 then some (r_6, σ_7) else none)) (fun (k70_5 : Option (Int32 × Sg)) => if (σ_3 10 9) = (15 : Int32) then (if x2_2 = 0 then (k70_5) else (lt (fun (σ_9 : Sg) => lt (up σ_9 11 6 ((σ_9 11 6) + (1 : Int32))) (fun (σ_11 : Sg) => some ((1 : Int32), σ_11))) (fun (k116_10 : Sg → Option (Int32 × Sg)) => LX4_readSold_78 p1 x2_2 k116_10 FUEL (0 : Int32) σ_3))) else (k70_5))) (fun (k57_4 : Int32 → Sg → Option (Int32 × Sg)) => LX4_readSold_6 k57_4 FUEL (0 : Int32) σ_1))
theorem lX4_readSold_78 {ext : List Shp} {X : CT} {ad : Nat → Nat} {rr : (Int32 × Sg)} {p1 : Int32} {x2_2 : Int32} {k116_10 : Sg → Option (Int32 × Sg)}  (C : Cx X cX4_readSold 4 RX4 (some .boolean) { frames := 2, cells := 0, slots := 0, locals := 43 }) (R : Ri X cX4_readSold (some .boolean) ad (SHc ++ ext) rr) (hk116_10 : ∀ (σ_9 : Sg), k116_10 σ_9 = some rr → AW X 0 0 ad (SHc ++ ext) σ_9 116 [some (.ref 10), none, none, none] []) : ∀ (n : Nat) (x3_12 : Int32) (σ_13 : Sg), LX4_readSold_78 p1 x2_2 k116_10 n x3_12 σ_13 = some rr → AW X 0 0 ad (SHc ++ ext) σ_13 78 [some (.ref 10), some (.int p1), some (.int x2_2), some (.int x3_12)] [] := by
  intro n
  induction n with
  | zero =>
    intro x3_12 σ_13 h
    rw [LX4_readSold_78] at h
    cases h
  | succ n ih =>
    intro x3_12 σ_13 h
    rw [LX4_readSold_78] at h
    refine a_iload_n C eX4_readSold_78 rfl ?_
    refine a_aload_n C eX4_readSold_79 rfl ?_
    refine a_getR C eX4_readSold_80 fX4_12 sh_10 rfl ?_
    refine a_getI C eX4_readSold_83 fX4_152 sh_11 rfl ?_
    refine a_icmp_ge C eX4_readSold_86 (fun hc => ?_) (fun hc => ?_)
    · replace h := it hc h
      exact a_less (lle_same (lle_drop (lle_drop (lle_drop lle_nil)))) (hk116_10 _ h)
    · replace h := ie hc h
      refine a_aload_n C eX4_readSold_89 rfl ?_
      refine a_getR C eX4_readSold_90 fX4_12 sh_10 rfl ?_
      refine a_getR C eX4_readSold_93 fX4_191 sh_11 rfl ?_
      refine a_iload_n C eX4_readSold_96 rfl ?_
      refine a_iload_n C eX4_readSold_97 rfl ?_
      obtain ⟨r_14, hq, h⟩ := b1_e h
      refine a_cNi2 C eX4_readSold_98 wX4_194 ⟨Nat.le_of_ble_eq_true rfl, Nat.le_of_ble_eq_true rfl, rfl, rfl⟩ rfl (kX9_cellOf hq) (Nat.le_of_ble_eq_true rfl) ?_
      refine a_aload_n C eX4_readSold_101 rfl ?_
      refine a_getR C eX4_readSold_102 fX4_41 sh_10 rfl ?_
      refine a_iload_n C eX4_readSold_105 rfl ?_
      refine a_iload_n C eX4_readSold_106 rfl ?_
      obtain ⟨hz_15, h⟩ := gd h
      refine a_irem C eX4_readSold_107 hz_15 ?_
      obtain ⟨hb_16, h⟩ := gd h
      refine a_iald C eX4_readSold_108 sh_24 hb_16 ?_
      obtain ⟨hb_18, h⟩ := gd h
      refine a_iastL C eX4_readSold_109 sh_16 hb_18 h (fun σ_17 h => ?_)
      refine a_inc C eX4_readSold_110 rfl c_iconst_1 h (fun z => [some (.ref 10), some (.int p1), some (.int x2_2), some (.int z)]) (fun _ => rfl) (fun x3_19 h => ?_)
      refine a_goto C eX4_readSold_113 ?_
      exact a_less (lle_same (lle_same (lle_same (lle_same lle_nil)))) (ih _ _ h)
theorem lX4_readSold_6 {ext : List Shp} {X : CT} {ad : Nat → Nat} {rr : (Int32 × Sg)} {p1 : Int32} {k57_4 : Int32 → Sg → Option (Int32 × Sg)}  (C : Cx X cX4_readSold 4 RX4 (some .boolean) { frames := 2, cells := 0, slots := 0, locals := 43 }) (R : Ri X cX4_readSold (some .boolean) ad (SHc ++ ext) rr) (hk57_4 : ∀ (x2_2 : Int32) (σ_3 : Sg), k57_4 x2_2 σ_3 = some rr → AW X 0 0 ad (SHc ++ ext) σ_3 57 [some (.ref 10), some (.int p1), some (.int x2_2), none] []) : ∀ (n : Nat) (x2_20 : Int32) (σ_21 : Sg), LX4_readSold_6 k57_4 n x2_20 σ_21 = some rr → AW X 0 0 ad (SHc ++ ext) σ_21 6 [some (.ref 10), some (.int p1), some (.int x2_20), none] [] := by
  intro n
  induction n with
  | zero =>
    intro x2_20 σ_21 h
    rw [LX4_readSold_6] at h
    cases h
  | succ n ih =>
    intro x2_20 σ_21 h
    rw [LX4_readSold_6] at h
    refine a_iload_n C eX4_readSold_6 rfl ?_
    refine a_bipush C eX4_readSold_7 (7 : Int32) c_bipush_7 ?_
    refine a_icmp_ge C eX4_readSold_9 (fun hc => ?_) (fun hc => ?_)
    · replace h := it hc h
      exact a_less (lle_same (lle_same (lle_same (lle_same lle_nil)))) (hk57_4 _ _ h)
    · replace h := ie hc h
      refine a_aload_n C eX4_readSold_12 rfl ?_
      refine a_getI C eX4_readSold_13 fX4_76 sh_10 rfl ?_
      refine a_bipush C eX4_readSold_16 (15 : Int32) c_bipush_15 ?_
      refine jn (fun (kk : Option (Int32 × Sg)) => kk = some rr → AW X 0 0 ad (SHc ++ ext) σ_21 25 [some (.ref 10), some (.int p1), some (.int x2_20), none] []) h ?_ (fun k25_22 hk25_22 h => ?_)
      · intro h
        refine a_aload_n C eX4_readSold_25 rfl ?_
        refine a_iconst C eX4_readSold_26 (0 : Int32) c_iconst_0 ?_
        refine a_bipush C eX4_readSold_27 (30 : Int32) c_bipush_30 ?_
        obtain ⟨r_23, σ_24, hq, h⟩ := b2_e h
        refine a_cVi2 C eX4_readSold_29 wX4_118 ⟨Nat.le_of_ble_eq_true rfl, Nat.le_of_ble_eq_true rfl, rfl, rfl⟩ rfl sh_10 rfl (kX4_isNumber hq) (Nat.le_of_ble_eq_true rfl) ?_
        refine a_if_ne C eX4_readSold_32 (fun hc => ?_) (fun hc => ?_)
        · replace h := ie hc h
          refine a_aload_n C eX4_readSold_37 rfl ?_
          refine a_getR C eX4_readSold_38 fX4_41 sh_10 rfl ?_
          refine a_iload_n C eX4_readSold_41 rfl ?_
          refine a_aload_n C eX4_readSold_42 rfl ?_
          refine a_getI C eX4_readSold_43 fX4_115 sh_10 rfl ?_
          obtain ⟨hb_26, h⟩ := gd h
          refine a_iastL C eX4_readSold_46 sh_24 hb_26 h (fun σ_25 h => ?_)
          refine a_inc C eX4_readSold_47 rfl c_iconst_1 h (fun z => [some (.ref 10), some (.int p1), some (.int z), none]) (fun _ => rfl) (fun x2_27 h => ?_)
          refine a_aload_n C eX4_readSold_50 rfl ?_
          obtain ⟨σ_28, hq, h⟩ := b1_e h
          refine a_cVv0 C eX4_readSold_51 wX4_73 ⟨Nat.le_of_ble_eq_true rfl, Nat.le_of_ble_eq_true rfl, rfl, rfl⟩ rfl sh_10 rfl (kX4_step hq) (Nat.le_of_ble_eq_true rfl) ?_
          refine a_goto C eX4_readSold_54 ?_
          exact a_less (lle_same (lle_same (lle_same (lle_same lle_nil)))) (ih _ _ h)
        · replace h := it hc h
          refine a_iconst C eX4_readSold_35 (0 : Int32) c_iconst_0 ?_
          exact rt_i R eX4_readSold_36 h nb_0
      refine a_icmp_ne C eX4_readSold_18 (fun hc => ?_) (fun hc => ?_)
      · replace h := ie hc h
        exact a_less (lle_same (lle_same (lle_same (lle_same lle_nil)))) (hk25_22 h)
      · replace h := it hc h
        refine a_iload_n C eX4_readSold_21 rfl ?_
        refine a_if_ne C eX4_readSold_22 (fun hc => ?_) (fun hc => ?_)
        · replace h := ie hc h
          exact a_less (lle_same (lle_same (lle_same (lle_same lle_nil)))) (hk57_4 _ _ h)
        · replace h := it hc h
          exact a_less (lle_same (lle_same (lle_same (lle_same lle_nil)))) (hk25_22 h)
theorem kX4_readSold {ext : List Shp} {p1 : Int32} {σ : Sg} {rr : (Int32 × Sg)}  (h : XX4_readSold p1 σ = some rr) : Ci MX4_readSold [.ref 10, .int p1] (SHc ++ ext) σ rr := by
  refine Ci.start rfl rfl (Nat.le_of_ble_eq_true rfl) ?_
  intro X ad C R
  replace C : Cx X cX4_readSold 4 RX4 (some .boolean) { frames := 2, cells := 0, slots := 0, locals := 43 } := C
  replace R : Ri X cX4_readSold (some .boolean) ad (SHc ++ ext) rr := R
  show AW X 0 0 ad (SHc ++ ext) σ 0 [some (.ref 10), some (.int p1), none, none] []
  rw [XX4_readSold] at h
  refine a_iconst C eX4_readSold_0 (0 : Int32) c_iconst_0 ?_
  refine a_ist_n C eX4_readSold_1 (Nat.le_of_ble_eq_true rfl) [some (.ref 10), some (.int p1), some (.int (0 : Int32)), none] rfl ?_
  refine a_aload_n C eX4_readSold_2 rfl ?_
  obtain ⟨σ_1, hq, h⟩ := b1_e h
  refine a_cVv0 C eX4_readSold_3 wX4_73 ⟨Nat.le_of_ble_eq_true rfl, Nat.le_of_ble_eq_true rfl, rfl, rfl⟩ rfl sh_10 rfl (kX4_step hq) (Nat.le_of_ble_eq_true rfl) ?_
  refine jn (fun (kk : Int32 → Sg → Option (Int32 × Sg)) => ∀ (x2_2 : Int32) (σ_3 : Sg), kk x2_2 σ_3 = some rr → AW X 0 0 ad (SHc ++ ext) σ_3 57 [some (.ref 10), some (.int p1), some (.int x2_2), none] []) h ?_ (fun k57_4 hk57_4 h => ?_)
  · intro x2_2 σ_3 h
    refine a_aload_n C eX4_readSold_57 rfl ?_
    refine a_getI C eX4_readSold_58 fX4_76 sh_10 rfl ?_
    refine a_bipush C eX4_readSold_61 (15 : Int32) c_bipush_15 ?_
    refine jn (fun (kk : Option (Int32 × Sg)) => kk = some rr → AW X 0 0 ad (SHc ++ ext) σ_3 70 [some (.ref 10), none, none, none] []) h ?_ (fun k70_5 hk70_5 h => ?_)
    · intro h
      refine a_aload_n C eX4_readSold_70 rfl ?_
      refine a_iconst C eX4_readSold_71 (2 : Int32) c_iconst_2 ?_
      obtain ⟨r_6, σ_7, hq, h⟩ := b2_e h
      refine a_cVi1 C eX4_readSold_72 wX4_83 ⟨Nat.le_of_ble_eq_true rfl, Nat.le_of_ble_eq_true rfl, rfl, rfl⟩ rfl sh_10 rfl (kX4_refuse hq) (Nat.le_of_ble_eq_true rfl) ?_
      obtain ⟨hn_8, h⟩ := gd h
      exact rt_i R eX4_readSold_75 h (nb_b hn_8)
    refine a_icmp_ne C eX4_readSold_63 (fun hc => ?_) (fun hc => ?_)
    · replace h := ie hc h
      exact a_less (lle_same (lle_drop (lle_drop (lle_same lle_nil)))) (hk70_5 h)
    · replace h := it hc h
      refine a_iload_n C eX4_readSold_66 rfl ?_
      refine a_if_ne C eX4_readSold_67 (fun hc => ?_) (fun hc => ?_)
      · replace h := ie hc h
        refine a_iconst C eX4_readSold_76 (0 : Int32) c_iconst_0 ?_
        refine a_ist_n C eX4_readSold_77 (Nat.le_of_ble_eq_true rfl) [some (.ref 10), some (.int p1), some (.int x2_2), some (.int (0 : Int32))] rfl ?_
        refine jn (fun (kk : Sg → Option (Int32 × Sg)) => ∀ (σ_9 : Sg), kk σ_9 = some rr → AW X 0 0 ad (SHc ++ ext) σ_9 116 [some (.ref 10), none, none, none] []) h ?_ (fun k116_10 hk116_10 h => ?_)
        · intro σ_9 h
          refine a_aload_n C eX4_readSold_116 rfl ?_
          refine a_getR C eX4_readSold_117 fX4_12 sh_10 rfl ?_
          refine a_dup C eX4_readSold_120 rfl ?_
          refine a_getI C eX4_readSold_121 fX4_146 sh_11 rfl ?_
          refine a_iconst C eX4_readSold_124 (1 : Int32) c_iconst_1 ?_
          refine a_iadd C eX4_readSold_125 ?_
          refine a_putIL C eX4_readSold_126 fX4_146 ftyX7 rfl rfl sh_11 rfl h (fun σ_11 h => ?_)
          refine a_iconst C eX4_readSold_129 (1 : Int32) c_iconst_1 ?_
          exact rt_i R eX4_readSold_130 h nb_1
        exact a_less (lle_same (lle_same (lle_same (lle_same lle_nil)))) (lX4_readSold_78  C R hk116_10 _ _ _ h)
      · replace h := it hc h
        exact a_less (lle_same (lle_drop (lle_drop (lle_same lle_nil)))) (hk70_5 h)
  exact a_less (lle_same (lle_same (lle_same (lle_same lle_nil)))) (lX4_readSold_6  C R hk57_4 _ _ _ h)
