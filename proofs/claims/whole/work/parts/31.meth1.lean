/-! ShelfDrives$Parting.shareSum(I)I -/
def LX2_shareSum_22 (p1 : Int32) (x2_1 : Int32) (r_2 : Int32) (σ : Sg) : Nat → Int32 → Int32 → Option Int32
  | 0, _, _ => none
  | n + 1, x4_3, x5_4 => if x2_1 < x5_4 then (some x4_3) else (lt (fun (x4_5 : Int32) => lt (x5_4 + (1 : Int32)) (fun (x5_7 : Int32) => LX2_shareSum_22 p1 x2_1 r_2 σ n x4_5 x5_7)) (fun (k86_6 : Int32 → Option Int32) => if (x5_4 &&& x2_1) = x5_4 then (b1 (XJ6_bitCount_0f7a4 x5_4) (fun (r_8 : Int32) => b1 (XX2_factorial r_8) (fun (r_9 : Int32) => b1 (XX2_factorial (r_2 - r_8)) (fun (r_10 : Int32) => lt (r_9 * r_10) (fun (x7_11 : Int32) => if ib (x5_4 ||| ((1 : Int32) <<< (p1 &&& 31))) 64 then if ib x5_4 64 then lt (x4_3 + (x7_11 * ((σ 32 (x5_4 ||| ((1 : Int32) <<< (p1 &&& 31))).toNatClampNeg) - (σ 32 x5_4.toNatClampNeg)))) (fun (x4_14 : Int32) => k86_6 x4_14) else none else none))))) else (k86_6 x4_3)))
def XX2_shareSum (p1 : Int32) (σ : Sg) : Option Int32 := lt ((σ 29 6) &&& (((1 : Int32) <<< (p1 &&& 31)) ^^^ (-1 : Int32))) (fun (x2_1 : Int32) => b1 (XJ6_bitCount_0f7a4 x2_1) (fun (r_2 : Int32) => LX2_shareSum_22 p1 x2_1 r_2 σ FUEL (0 : Int32) (0 : Int32)))
theorem lX2_shareSum_22 {ext : List Shp} {X : CT} {ad : Nat → Nat} {rr : Int32} {p1 : Int32} {x2_1 : Int32} {r_2 : Int32} {σ : Sg}  (C : Cx X cX2_shareSum 8 RX2 (some .int) { frames := 1, cells := 0, slots := 0, locals := 22 }) (R : Ri X cX2_shareSum (some .int) ad (SHc ++ ext) (rr, σ))  : ∀ (n : Nat) (x4_3 : Int32) (x5_4 : Int32), LX2_shareSum_22 p1 x2_1 r_2 σ n x4_3 x5_4 = some rr → AW X 0 0 ad (SHc ++ ext) σ 22 [some (.ref 29), some (.int p1), some (.int x2_1), some (.int r_2), some (.int x4_3), some (.int x5_4), none, none] [] := by
  intro n
  induction n with
  | zero =>
    intro x4_3 x5_4 h
    rw [LX2_shareSum_22] at h
    cases h
  | succ n ih =>
    intro x4_3 x5_4 h
    rw [LX2_shareSum_22] at h
    refine a_iload C eX2_shareSum_22 rfl ?_
    refine a_iload_n C eX2_shareSum_24 rfl ?_
    refine a_icmp_gt C eX2_shareSum_25 (fun hc => ?_) (fun hc => ?_)
    · replace h := it hc h
      refine a_iload C eX2_shareSum_92 rfl ?_
      exact rt_p R eX2_shareSum_94 h nb_int
    · replace h := ie hc h
      refine a_iload C eX2_shareSum_28 rfl ?_
      refine a_iload_n C eX2_shareSum_30 rfl ?_
      refine a_iand C eX2_shareSum_31 ?_
      refine a_iload C eX2_shareSum_32 rfl ?_
      refine jn (fun (kk : Int32 → Option Int32) => ∀ (x4_5 : Int32), kk x4_5 = some rr → AW X 0 0 ad (SHc ++ ext) σ 86 [some (.ref 29), some (.int p1), some (.int x2_1), some (.int r_2), some (.int x4_5), some (.int x5_4), none, none] []) h ?_ (fun k86_6 hk86_6 h => ?_)
      · intro x4_5 h
        refine a_inc C eX2_shareSum_86 rfl c_iconst_1 h (fun z => [some (.ref 29), some (.int p1), some (.int x2_1), some (.int r_2), some (.int x4_5), some (.int z), none, none]) (fun _ => rfl) (fun x5_7 h => ?_)
        refine a_goto C eX2_shareSum_89 ?_
        exact a_less (lle_same (lle_same (lle_same (lle_same (lle_same (lle_same (lle_same (lle_same lle_nil)))))))) (ih _ _ h)
      refine a_icmp_ne C eX2_shareSum_34 (fun hc => ?_) (fun hc => ?_)
      · replace h := ie hc h
        exact a_less (lle_same (lle_same (lle_same (lle_same (lle_same (lle_same (lle_same (lle_same lle_nil)))))))) (hk86_6 _ h)
      · replace h := it hc h
        refine a_iload C eX2_shareSum_37 rfl ?_
        obtain ⟨r_8, hq, h⟩ := b1_e h
        refine a_cSi1 C eX2_shareSum_39 wX2_61 ⟨Nat.le_of_ble_eq_true rfl, Nat.le_of_ble_eq_true rfl, rfl, rfl⟩ rfl (kJ6_bitCount_0f7a4 hq) (Nat.le_of_ble_eq_true rfl) ?_
        refine a_ist C eX2_shareSum_42 (Nat.le_of_ble_eq_true rfl) [some (.ref 29), some (.int p1), some (.int x2_1), some (.int r_2), some (.int x4_3), some (.int x5_4), some (.int r_8), none] rfl ?_
        refine a_iload C eX2_shareSum_44 rfl ?_
        obtain ⟨r_9, hq, h⟩ := b1_e h
        refine a_cSi1 C eX2_shareSum_46 wX2_66 ⟨Nat.le_of_ble_eq_true rfl, Nat.le_of_ble_eq_true rfl, rfl, rfl⟩ rfl (kX2_factorial hq) (Nat.le_of_ble_eq_true rfl) ?_
        refine a_iload_n C eX2_shareSum_49 rfl ?_
        refine a_iload C eX2_shareSum_50 rfl ?_
        refine a_isub C eX2_shareSum_52 ?_
        obtain ⟨r_10, hq, h⟩ := b1_e h
        refine a_cSi1 C eX2_shareSum_53 wX2_66 ⟨Nat.le_of_ble_eq_true rfl, Nat.le_of_ble_eq_true rfl, rfl, rfl⟩ rfl (kX2_factorial hq) (Nat.le_of_ble_eq_true rfl) ?_
        refine a_imul C eX2_shareSum_56 ?_
        refine a_lt h (fun x7_11 h => ?_)
        refine a_ist C eX2_shareSum_57 (Nat.le_of_ble_eq_true rfl) [some (.ref 29), some (.int p1), some (.int x2_1), some (.int r_2), some (.int x4_3), some (.int x5_4), some (.int r_8), some (.int x7_11)] rfl ?_
        refine a_iload C eX2_shareSum_59 rfl ?_
        refine a_iload C eX2_shareSum_61 rfl ?_
        refine a_aload_n C eX2_shareSum_63 rfl ?_
        refine a_getR C eX2_shareSum_64 fX2_18 sh_29 rfl ?_
        refine a_iload C eX2_shareSum_67 rfl ?_
        refine a_iconst C eX2_shareSum_69 (1 : Int32) c_iconst_1 ?_
        refine a_iload_n C eX2_shareSum_70 rfl ?_
        refine a_ishl C eX2_shareSum_71 ?_
        refine a_ior C eX2_shareSum_72 ?_
        obtain ⟨hb_12, h⟩ := gd h
        refine a_iald C eX2_shareSum_73 sh_32 hb_12 ?_
        refine a_aload_n C eX2_shareSum_74 rfl ?_
        refine a_getR C eX2_shareSum_75 fX2_18 sh_29 rfl ?_
        refine a_iload C eX2_shareSum_78 rfl ?_
        obtain ⟨hb_13, h⟩ := gd h
        refine a_iald C eX2_shareSum_80 sh_32 hb_13 ?_
        refine a_isub C eX2_shareSum_81 ?_
        refine a_imul C eX2_shareSum_82 ?_
        refine a_iadd C eX2_shareSum_83 ?_
        refine a_lt h (fun x4_14 h => ?_)
        refine a_ist C eX2_shareSum_84 (Nat.le_of_ble_eq_true rfl) [some (.ref 29), some (.int p1), some (.int x2_1), some (.int r_2), some (.int x4_14), some (.int x5_4), some (.int r_8), some (.int x7_11)] rfl ?_
        exact a_less (lle_same (lle_same (lle_same (lle_same (lle_same (lle_same (lle_drop (lle_drop lle_nil)))))))) (hk86_6 _ h)
theorem kX2_shareSum {ext : List Shp} {p1 : Int32} {σ : Sg} {rr : Int32}  (h : XX2_shareSum p1 σ = some rr) : Ci MX2_shareSum [.ref 29, .int p1] (SHc ++ ext) σ (rr, σ) := by
  refine Ci.start rfl rfl (Nat.le_of_ble_eq_true rfl) ?_
  intro X ad C R
  replace C : Cx X cX2_shareSum 8 RX2 (some .int) { frames := 1, cells := 0, slots := 0, locals := 22 } := C
  replace R : Ri X cX2_shareSum (some .int) ad (SHc ++ ext) (rr, σ) := R
  show AW X 0 0 ad (SHc ++ ext) σ 0 [some (.ref 29), some (.int p1), none, none, none, none, none, none] []
  rw [XX2_shareSum] at h
  refine a_aload_n C eX2_shareSum_0 rfl ?_
  refine a_getI C eX2_shareSum_1 fX2_53 sh_29 rfl ?_
  refine a_iconst C eX2_shareSum_4 (1 : Int32) c_iconst_1 ?_
  refine a_iload_n C eX2_shareSum_5 rfl ?_
  refine a_ishl C eX2_shareSum_6 ?_
  refine a_iconst C eX2_shareSum_7 (-1 : Int32) c_iconst_m1 ?_
  refine a_ixor C eX2_shareSum_8 ?_
  refine a_iand C eX2_shareSum_9 ?_
  refine a_lt h (fun x2_1 h => ?_)
  refine a_ist_n C eX2_shareSum_10 (Nat.le_of_ble_eq_true rfl) [some (.ref 29), some (.int p1), some (.int x2_1), none, none, none, none, none] rfl ?_
  refine a_iload_n C eX2_shareSum_11 rfl ?_
  obtain ⟨r_2, hq, h⟩ := b1_e h
  refine a_cSi1 C eX2_shareSum_12 wX2_61 ⟨Nat.le_of_ble_eq_true rfl, Nat.le_of_ble_eq_true rfl, rfl, rfl⟩ rfl (kJ6_bitCount_0f7a4 hq) (Nat.le_of_ble_eq_true rfl) ?_
  refine a_ist_n C eX2_shareSum_15 (Nat.le_of_ble_eq_true rfl) [some (.ref 29), some (.int p1), some (.int x2_1), some (.int r_2), none, none, none, none] rfl ?_
  refine a_iconst C eX2_shareSum_16 (0 : Int32) c_iconst_0 ?_
  refine a_ist C eX2_shareSum_17 (Nat.le_of_ble_eq_true rfl) [some (.ref 29), some (.int p1), some (.int x2_1), some (.int r_2), some (.int (0 : Int32)), none, none, none] rfl ?_
  refine a_iconst C eX2_shareSum_19 (0 : Int32) c_iconst_0 ?_
  refine a_ist C eX2_shareSum_20 (Nat.le_of_ble_eq_true rfl) [some (.ref 29), some (.int p1), some (.int x2_1), some (.int r_2), some (.int (0 : Int32)), some (.int (0 : Int32)), none, none] rfl ?_
  exact a_less (lle_same (lle_same (lle_same (lle_same (lle_same (lle_same (lle_same (lle_same lle_nil)))))))) (lX2_shareSum_22  C R  _ _ _ h)
/-! ShelfDrives$Run.morning(II)I -/
def XX5_morning (k : Nat) (p1 : Int32) (p2 : Int32) (σ : Sg) : Option Int32 := if p2 = 0 then (if ib p1 6 then some (σ 6 p1.toNatClampNeg) else none) else (b1 (XX9_cellOf p1 (p2 - (1 : Int32))) (fun (r_1 : Int32) => if ib r_1 84 then some (σ (k + 4) r_1.toNatClampNeg) else none))
theorem kX5_morning {ext : List Shp} {k : Nat} {p1 : Int32} {p2 : Int32} {σ : Sg} {rr : Int32} (hk : is_X5 (SHc ++ ext) k) (h : XX5_morning k p1 p2 σ = some rr) : Ci MX5_morning [.ref k, .int p1, .int p2] (SHc ++ ext) σ (rr, σ) := by
  refine Ci.start rfl rfl (Nat.le_of_ble_eq_true rfl) ?_
  intro X ad C R
  replace C : Cx X cX5_morning 3 RX5 (some .int) { frames := 1, cells := 0, slots := 0, locals := 21 } := C
  replace R : Ri X cX5_morning (some .int) ad (SHc ++ ext) (rr, σ) := R
  show AW X 0 0 ad (SHc ++ ext) σ 0 [some (.ref k), some (.int p1), some (.int p2)] []
  rw [XX5_morning] at h
  refine a_iload_n C eX5_morning_0 rfl ?_
  refine a_if_ne C eX5_morning_1 (fun hc => ?_) (fun hc => ?_)
  · replace h := ie hc h
    refine a_aload_n C eX5_morning_16 rfl ?_
    refine a_getR C eX5_morning_17 fX5_21 hk.1 rfl ?_
    refine a_iload_n C eX5_morning_20 rfl ?_
    refine a_iload_n C eX5_morning_21 rfl ?_
    refine a_iconst C eX5_morning_22 (1 : Int32) c_iconst_1 ?_
    refine a_isub C eX5_morning_23 ?_
    obtain ⟨r_1, hq, h⟩ := b1_e h
    refine a_cNi2 C eX5_morning_24 wX5_87 ⟨Nat.le_of_ble_eq_true rfl, Nat.le_of_ble_eq_true rfl, rfl, rfl⟩ rfl (kX9_cellOf hq) (Nat.le_of_ble_eq_true rfl) ?_
    obtain ⟨hb_2, h⟩ := gd h
    refine a_iald C eX5_morning_27 hk.2.2.2.2.1 hb_2 ?_
    exact rt_p R eX5_morning_28 h nb_int
  · replace h := it hc h
    refine a_aload_n C eX5_morning_4 rfl ?_
    refine a_getR C eX5_morning_5 fX5_33 hk.1 rfl ?_
    refine a_getR C eX5_morning_8 fX5_102 sh_2 rfl ?_
    refine a_iload_n C eX5_morning_11 rfl ?_
    obtain ⟨hb_3, h⟩ := gd h
    refine a_iald C eX5_morning_12 sh_6 hb_3 ?_
    refine a_goto C eX5_morning_13 ?_
    exact rt_p R eX5_morning_28 h nb_int
/-! ShelfDrives$Run.isVisited(II)Z -/
def XX5_isVisited (k : Nat) (p1 : Int32) (p2 : Int32) (σ : Sg) : Option Int32 := if ib p1 6 then if (((σ (k + 1) p1.toNatClampNeg) >>> (p2 &&& 31)) &&& (1 : Int32)) = (1 : Int32) then (some (1 : Int32)) else (some (0 : Int32)) else none
theorem kX5_isVisited {ext : List Shp} {k : Nat} {p1 : Int32} {p2 : Int32} {σ : Sg} {rr : Int32} (hk : is_X5 (SHc ++ ext) k) (h : XX5_isVisited k p1 p2 σ = some rr) : Ci MX5_isVisited [.ref k, .int p1, .int p2] (SHc ++ ext) σ (rr, σ) := by
  refine Ci.start rfl rfl (Nat.le_of_ble_eq_true rfl) ?_
  intro X ad C R
  replace C : Cx X cX5_isVisited 3 RX5 (some .boolean) { frames := 0, cells := 0, slots := 0, locals := 0 } := C
  replace R : Ri X cX5_isVisited (some .boolean) ad (SHc ++ ext) (rr, σ) := R
  show AW X 0 0 ad (SHc ++ ext) σ 0 [some (.ref k), some (.int p1), some (.int p2)] []
  rw [XX5_isVisited] at h
  refine a_aload_n C eX5_isVisited_0 rfl ?_
  refine a_getR C eX5_isVisited_1 fX5_9 hk.1 rfl ?_
  refine a_iload_n C eX5_isVisited_4 rfl ?_
  obtain ⟨hb_1, h⟩ := gd h
  refine a_iald C eX5_isVisited_5 hk.2.1 hb_1 ?_
  refine a_iload_n C eX5_isVisited_6 rfl ?_
  refine a_ishr C eX5_isVisited_7 ?_
  refine a_iconst C eX5_isVisited_8 (1 : Int32) c_iconst_1 ?_
  refine a_iand C eX5_isVisited_9 ?_
  refine a_iconst C eX5_isVisited_10 (1 : Int32) c_iconst_1 ?_
  refine a_icmp_ne C eX5_isVisited_11 (fun hc => ?_) (fun hc => ?_)
  · replace h := ie hc h
    refine a_iconst C eX5_isVisited_18 (0 : Int32) c_iconst_0 ?_
    exact rt_p R eX5_isVisited_19 h nb_0
  · replace h := it hc h
    refine a_iconst C eX5_isVisited_14 (1 : Int32) c_iconst_1 ?_
    refine a_goto C eX5_isVisited_15 ?_
    exact rt_p R eX5_isVisited_19 h nb_1
/-! ShelfDrives$Run.runFrom(III)V -/
def LX5_runFrom_11 (k : Nat) (p1 : Int32) (p3 : Int32) : Nat → Int32 → Int32 → Sg → Option Sg
  | 0, _, _, _ => none
  | n + 1, x4_2, x5_3, σ_4 => if (σ_4 2 0) ≤ x5_3 then (some σ_4) else (b1 (XX9_cellOf p1 x5_3) (fun (r_5 : Int32) => b1 (XX5_isVisited k p1 x5_3 σ_4) (fun (r_6 : Int32) => lt (fun (s_7 : Int32) => if ib r_5 84 then lt (fun (σ_10 : Sg) => lt (x4_2 + s_7) (fun (x4_12 : Int32) => lt (if (σ_10 (k + 2) r_5.toNatClampNeg) < x4_12 then (σ_10 (k + 2) r_5.toNatClampNeg) else x4_12) (fun (x8_13 : Int32) => lt (x4_12 - x8_13) (fun (x4_14 : Int32) => lt (up σ_10 k 5 ((σ_10 k 5) + (((σ_10 (k + 2) r_5.toNatClampNeg) - x8_13) - (σ_10 (k + 5) r_5.toNatClampNeg)))) (fun (σ_15 : Sg) => lt (up σ_15 (k + 5) r_5.toNatClampNeg ((σ_15 (k + 2) r_5.toNatClampNeg) - x8_13)) (fun (σ_16 : Sg) => lt (σ_16 (k + 4) r_5.toNatClampNeg) (fun (x9_17 : Int32) => lt (up σ_16 k 6 ((σ_16 k 6) + (x4_14 - x9_17))) (fun (σ_18 : Sg) => lt (up σ_18 (k + 4) r_5.toNatClampNeg x4_14) (fun (σ_19 : Sg) => lt (lt (x5_3 + (1 : Int32)) (fun (x5_21 : Int32) => LX5_runFrom_11 k p1 p3 n x4_14 x5_21 σ_19)) (fun (k209_20 : Option Sg) => if x4_14 = x9_17 then (if (ush p3 (x5_3 + (1 : Int32))) = 0 then (some σ_19) else (k209_20)) else (k209_20))))))))))) (fun (k88_11 : Sg → Option Sg) => if s_7 = (σ_4 (k + 3) r_5.toNatClampNeg) then (k88_11 σ_4) else (lt (up σ_4 (k + 3) r_5.toNatClampNeg s_7) (fun (σ_22 : Sg) => if ib x5_3 14 then lt (up σ_22 (k + 6) x5_3.toNatClampNeg (-1 : Int32)) (fun (σ_23 : Sg) => k88_11 σ_23) else none))) else none) (fun (k57_8 : Int32 → Option Sg) => if r_6 = 0 then (k57_8 (0 : Int32)) else (if ib p1 6 then k57_8 ((σ_4 5 p1.toNatClampNeg) - x4_2) else none)))))
def XX5_runFrom (k : Nat) (p1 : Int32) (p2 : Int32) (p3 : Int32) (σ : Sg) : Option Sg := b1 (XX5_morning k p1 p2 σ) (fun (r_1 : Int32) => LX5_runFrom_11 k p1 p3 FUEL r_1 p2 σ)
theorem lX5_runFrom_11 {ext : List Shp} {X : CT} {ad : Nat → Nat} {rr : Sg} {k : Nat} {p1 : Int32} {p3 : Int32} (hk : is_X5 (SHc ++ ext) k) (C : Cx X cX5_runFrom 10 RX5 none { frames := 2, cells := 0, slots := 0, locals := 43 }) (R : Rv X cX5_runFrom ad (SHc ++ ext) rr)  : ∀ (n : Nat) (x4_2 : Int32) (x5_3 : Int32) (σ_4 : Sg), LX5_runFrom_11 k p1 p3 n x4_2 x5_3 σ_4 = some rr → AW X 0 0 ad (SHc ++ ext) σ_4 11 [some (.ref k), some (.int p1), none, some (.int p3), some (.int x4_2), some (.int x5_3), none, none, none, none] [] := by
  intro n
  induction n with
  | zero =>
    intro x4_2 x5_3 σ_4 h
    rw [LX5_runFrom_11] at h
    cases h
  | succ n ih =>
    intro x4_2 x5_3 σ_4 h
    rw [LX5_runFrom_11] at h
    refine a_iload C eX5_runFrom_11 rfl ?_
    refine a_aload_n C eX5_runFrom_13 rfl ?_
    refine a_getR C eX5_runFrom_14 fX5_33 hk.1 rfl ?_
    refine a_getI C eX5_runFrom_17 fX5_84 sh_2 rfl ?_
    refine a_icmp_ge C eX5_runFrom_20 (fun hc => ?_) (fun hc => ?_)
    · replace h := it hc h
      exact rt_v R eX5_runFrom_215 h
    · replace h := ie hc h
      refine a_iload_n C eX5_runFrom_23 rfl ?_
      refine a_iload C eX5_runFrom_24 rfl ?_
      obtain ⟨r_5, hq, h⟩ := b1_e h
      refine a_cNi2 C eX5_runFrom_26 wX5_87 ⟨Nat.le_of_ble_eq_true rfl, Nat.le_of_ble_eq_true rfl, rfl, rfl⟩ rfl (kX9_cellOf hq) (Nat.le_of_ble_eq_true rfl) ?_
      refine a_ist C eX5_runFrom_29 (Nat.le_of_ble_eq_true rfl) [some (.ref k), some (.int p1), none, some (.int p3), some (.int x4_2), some (.int x5_3), some (.int r_5), none, none, none] rfl ?_
      refine a_aload_n C eX5_runFrom_31 rfl ?_
      refine a_iload_n C eX5_runFrom_32 rfl ?_
      refine a_iload C eX5_runFrom_33 rfl ?_
      obtain ⟨r_6, hq, h⟩ := b1_e h
      refine a_cVi2 C eX5_runFrom_35 wX5_90 ⟨Nat.le_of_ble_eq_true rfl, Nat.le_of_ble_eq_true rfl, rfl, rfl⟩ rfl hk.1 rfl (kX5_isVisited hk hq) (Nat.le_of_ble_eq_true rfl) ?_
      refine jn (fun (kk : Int32 → Option Sg) => ∀ (s_7 : Int32), kk s_7 = some rr → AW X 0 0 ad (SHc ++ ext) σ_4 57 [some (.ref k), some (.int p1), none, some (.int p3), some (.int x4_2), some (.int x5_3), some (.int r_5), none, none, none] [.int s_7]) h ?_ (fun k57_8 hk57_8 h => ?_)
      · intro s_7 h
        refine a_ist C eX5_runFrom_57 (Nat.le_of_ble_eq_true rfl) [some (.ref k), some (.int p1), none, some (.int p3), some (.int x4_2), some (.int x5_3), some (.int r_5), some (.int s_7), none, none] rfl ?_
        refine a_iload C eX5_runFrom_59 rfl ?_
        refine a_aload_n C eX5_runFrom_61 rfl ?_
        refine a_getR C eX5_runFrom_62 fX5_18 hk.1 rfl ?_
        refine a_iload C eX5_runFrom_65 rfl ?_
        obtain ⟨hb_9, h⟩ := gd h
        refine a_iald C eX5_runFrom_67 hk.2.2.2.1 hb_9 ?_
        refine jn (fun (kk : Sg → Option Sg) => ∀ (σ_10 : Sg), kk σ_10 = some rr → AW X 0 0 ad (SHc ++ ext) σ_10 88 [some (.ref k), some (.int p1), none, some (.int p3), some (.int x4_2), some (.int x5_3), some (.int r_5), some (.int s_7), none, none] []) h ?_ (fun k88_11 hk88_11 h => ?_)
        · intro σ_10 h
          refine a_iload C eX5_runFrom_88 rfl ?_
          refine a_iload C eX5_runFrom_90 rfl ?_
          refine a_iadd C eX5_runFrom_92 ?_
          refine a_lt h (fun x4_12 h => ?_)
          refine a_ist C eX5_runFrom_93 (Nat.le_of_ble_eq_true rfl) [some (.ref k), some (.int p1), none, some (.int p3), some (.int x4_12), some (.int x5_3), some (.int r_5), some (.int s_7), none, none] rfl ?_
          refine a_iload C eX5_runFrom_95 rfl ?_
          refine a_aload_n C eX5_runFrom_97 rfl ?_
          refine a_getR C eX5_runFrom_98 fX5_15 hk.1 rfl ?_
          refine a_iload C eX5_runFrom_101 rfl ?_
          refine a_iald C eX5_runFrom_103 hk.2.2.1 hb_9 ?_
          refine a_min C eX5_runFrom_104 wX5_97 ⟨Nat.le_of_ble_eq_true rfl, Nat.le_of_ble_eq_true rfl⟩ rfl (Nat.le_of_ble_eq_true rfl) ?_
          refine a_lt h (fun x8_13 h => ?_)
          refine a_ist C eX5_runFrom_107 (Nat.le_of_ble_eq_true rfl) [some (.ref k), some (.int p1), none, some (.int p3), some (.int x4_12), some (.int x5_3), some (.int r_5), some (.int s_7), some (.int x8_13), none] rfl ?_
          refine a_iload C eX5_runFrom_109 rfl ?_
          refine a_iload C eX5_runFrom_111 rfl ?_
          refine a_isub C eX5_runFrom_113 ?_
          refine a_lt h (fun x4_14 h => ?_)
          refine a_ist C eX5_runFrom_114 (Nat.le_of_ble_eq_true rfl) [some (.ref k), some (.int p1), none, some (.int p3), some (.int x4_14), some (.int x5_3), some (.int r_5), some (.int s_7), some (.int x8_13), none] rfl ?_
          refine a_aload_n C eX5_runFrom_116 rfl ?_
          refine a_dup C eX5_runFrom_117 rfl ?_
          refine a_getI C eX5_runFrom_118 fX5_47 hk.1 rfl ?_
          refine a_aload_n C eX5_runFrom_121 rfl ?_
          refine a_getR C eX5_runFrom_122 fX5_15 hk.1 rfl ?_
          refine a_iload C eX5_runFrom_125 rfl ?_
          refine a_iald C eX5_runFrom_127 hk.2.2.1 hb_9 ?_
          refine a_iload C eX5_runFrom_128 rfl ?_
          refine a_isub C eX5_runFrom_130 ?_
          refine a_aload_n C eX5_runFrom_131 rfl ?_
          refine a_getR C eX5_runFrom_132 fX5_24 hk.1 rfl ?_
          refine a_iload C eX5_runFrom_135 rfl ?_
          refine a_iald C eX5_runFrom_137 hk.2.2.2.2.2.1 hb_9 ?_
          refine a_isub C eX5_runFrom_138 ?_
          refine a_iadd C eX5_runFrom_139 ?_
          refine a_putIL C eX5_runFrom_140 fX5_47 ftyX5 rfl rfl hk.1 rfl h (fun σ_15 h => ?_)
          refine a_aload_n C eX5_runFrom_143 rfl ?_
          refine a_getR C eX5_runFrom_144 fX5_24 hk.1 rfl ?_
          refine a_iload C eX5_runFrom_147 rfl ?_
          refine a_aload_n C eX5_runFrom_149 rfl ?_
          refine a_getR C eX5_runFrom_150 fX5_15 hk.1 rfl ?_
          refine a_iload C eX5_runFrom_153 rfl ?_
          refine a_iald C eX5_runFrom_155 hk.2.2.1 hb_9 ?_
          refine a_iload C eX5_runFrom_156 rfl ?_
          refine a_isub C eX5_runFrom_158 ?_
          refine a_iastL C eX5_runFrom_159 hk.2.2.2.2.2.1 hb_9 h (fun σ_16 h => ?_)
          refine a_aload_n C eX5_runFrom_160 rfl ?_
          refine a_getR C eX5_runFrom_161 fX5_21 hk.1 rfl ?_
          refine a_iload C eX5_runFrom_164 rfl ?_
          refine a_iald C eX5_runFrom_166 hk.2.2.2.2.1 hb_9 ?_
          refine a_lt h (fun x9_17 h => ?_)
          refine a_ist C eX5_runFrom_167 (Nat.le_of_ble_eq_true rfl) [some (.ref k), some (.int p1), none, some (.int p3), some (.int x4_14), some (.int x5_3), some (.int r_5), some (.int s_7), some (.int x8_13), some (.int x9_17)] rfl ?_
          refine a_aload_n C eX5_runFrom_169 rfl ?_
          refine a_dup C eX5_runFrom_170 rfl ?_
          refine a_getI C eX5_runFrom_171 fX5_51 hk.1 rfl ?_
          refine a_iload C eX5_runFrom_174 rfl ?_
          refine a_iload C eX5_runFrom_176 rfl ?_
          refine a_isub C eX5_runFrom_178 ?_
          refine a_iadd C eX5_runFrom_179 ?_
          refine a_putIL C eX5_runFrom_180 fX5_51 ftyX5 rfl rfl hk.1 rfl h (fun σ_18 h => ?_)
          refine a_aload_n C eX5_runFrom_183 rfl ?_
          refine a_getR C eX5_runFrom_184 fX5_21 hk.1 rfl ?_
          refine a_iload C eX5_runFrom_187 rfl ?_
          refine a_iload C eX5_runFrom_189 rfl ?_
          refine a_iastL C eX5_runFrom_191 hk.2.2.2.2.1 hb_9 h (fun σ_19 h => ?_)
          refine a_iload C eX5_runFrom_192 rfl ?_
          refine a_iload C eX5_runFrom_194 rfl ?_
          refine jn (fun (kk : Option Sg) => kk = some rr → AW X 0 0 ad (SHc ++ ext) σ_19 209 [some (.ref k), some (.int p1), none, some (.int p3), some (.int x4_14), some (.int x5_3), none, none, none, none] []) h ?_ (fun k209_20 hk209_20 h => ?_)
          · intro h
            refine a_inc C eX5_runFrom_209 rfl c_iconst_1 h (fun z => [some (.ref k), some (.int p1), none, some (.int p3), some (.int x4_14), some (.int z), none, none, none, none]) (fun _ => rfl) (fun x5_21 h => ?_)
            refine a_goto C eX5_runFrom_212 ?_
            exact a_less (lle_same (lle_same (lle_same (lle_same (lle_same (lle_same (lle_same (lle_same (lle_same (lle_same lle_nil)))))))))) (ih _ _ _ h)
          refine a_icmp_ne C eX5_runFrom_196 (fun hc => ?_) (fun hc => ?_)
          · replace h := ie hc h
            exact a_less (lle_same (lle_same (lle_same (lle_same (lle_same (lle_same (lle_drop (lle_drop (lle_drop (lle_drop lle_nil)))))))))) (hk209_20 h)
          · replace h := it hc h
            refine a_iload_n C eX5_runFrom_199 rfl ?_
            refine a_iload C eX5_runFrom_200 rfl ?_
            refine a_iconst C eX5_runFrom_202 (1 : Int32) c_iconst_1 ?_
            refine a_iadd C eX5_runFrom_203 ?_
            refine a_iushr C eX5_runFrom_204 ?_
            refine a_if_ne C eX5_runFrom_205 (fun hc => ?_) (fun hc => ?_)
            · replace h := ie hc h
              exact a_less (lle_same (lle_same (lle_same (lle_same (lle_same (lle_same (lle_drop (lle_drop (lle_drop (lle_drop lle_nil)))))))))) (hk209_20 h)
            · replace h := it hc h
              exact rt_v R eX5_runFrom_208 h
        refine a_icmp_eq C eX5_runFrom_68 (fun hc => ?_) (fun hc => ?_)
        · replace h := it hc h
          exact a_less (lle_same (lle_same (lle_same (lle_same (lle_same (lle_same (lle_same (lle_same (lle_same (lle_same lle_nil)))))))))) (hk88_11 _ h)
        · replace h := ie hc h
          refine a_aload_n C eX5_runFrom_71 rfl ?_
          refine a_getR C eX5_runFrom_72 fX5_18 hk.1 rfl ?_
          refine a_iload C eX5_runFrom_75 rfl ?_
          refine a_iload C eX5_runFrom_77 rfl ?_
          refine a_iastL C eX5_runFrom_79 hk.2.2.2.1 hb_9 h (fun σ_22 h => ?_)
          refine a_aload_n C eX5_runFrom_80 rfl ?_
          refine a_getR C eX5_runFrom_81 fX5_27 hk.1 rfl ?_
          refine a_iload C eX5_runFrom_84 rfl ?_
          refine a_iconst C eX5_runFrom_86 (-1 : Int32) c_iconst_m1 ?_
          obtain ⟨hb_24, h⟩ := gd h
          refine a_iastL C eX5_runFrom_87 hk.2.2.2.2.2.2.1 hb_24 h (fun σ_23 h => ?_)
          exact a_less (lle_same (lle_same (lle_same (lle_same (lle_same (lle_same (lle_same (lle_same (lle_same (lle_same lle_nil)))))))))) (hk88_11 _ h)
      refine a_if_eq C eX5_runFrom_38 (fun hc => ?_) (fun hc => ?_)
      · replace h := it hc h
        refine a_iconst C eX5_runFrom_56 (0 : Int32) c_iconst_0 ?_
        exact a_less (lle_same (lle_same (lle_same (lle_same (lle_same (lle_same (lle_same (lle_same (lle_same (lle_same lle_nil)))))))))) (hk57_8 _ h)
      · replace h := ie hc h
        refine a_aload_n C eX5_runFrom_41 rfl ?_
        refine a_getR C eX5_runFrom_42 fX5_33 hk.1 rfl ?_
        refine a_getR C eX5_runFrom_45 fX5_94 sh_2 rfl ?_
        refine a_iload_n C eX5_runFrom_48 rfl ?_
        obtain ⟨hb_25, h⟩ := gd h
        refine a_iald C eX5_runFrom_49 sh_5 hb_25 ?_
        refine a_iload C eX5_runFrom_50 rfl ?_
        refine a_isub C eX5_runFrom_52 ?_
        refine a_goto C eX5_runFrom_53 ?_
        exact a_less (lle_same (lle_same (lle_same (lle_same (lle_same (lle_same (lle_same (lle_same (lle_same (lle_same lle_nil)))))))))) (hk57_8 _ h)
theorem kX5_runFrom {ext : List Shp} {k : Nat} {p1 : Int32} {p2 : Int32} {p3 : Int32} {σ : Sg} {rr : Sg} (hk : is_X5 (SHc ++ ext) k) (h : XX5_runFrom k p1 p2 p3 σ = some rr) : Cv MX5_runFrom [.ref k, .int p1, .int p2, .int p3] (SHc ++ ext) σ rr := by
  refine Cv.start rfl rfl (Nat.le_of_ble_eq_true rfl) rfl ?_
  intro X ad C R
  replace C : Cx X cX5_runFrom 10 RX5 none { frames := 2, cells := 0, slots := 0, locals := 43 } := C
  replace R : Rv X cX5_runFrom ad (SHc ++ ext) rr := R
  show AW X 0 0 ad (SHc ++ ext) σ 0 [some (.ref k), some (.int p1), some (.int p2), some (.int p3), none, none, none, none, none, none] []
  rw [XX5_runFrom] at h
  refine a_aload_n C eX5_runFrom_0 rfl ?_
  refine a_iload_n C eX5_runFrom_1 rfl ?_
  refine a_iload_n C eX5_runFrom_2 rfl ?_
  obtain ⟨r_1, hq, h⟩ := b1_e h
  refine a_cVi2 C eX5_runFrom_3 wX5_80 ⟨Nat.le_of_ble_eq_true rfl, Nat.le_of_ble_eq_true rfl, rfl, rfl⟩ rfl hk.1 rfl (kX5_morning hk hq) (Nat.le_of_ble_eq_true rfl) ?_
  refine a_ist C eX5_runFrom_6 (Nat.le_of_ble_eq_true rfl) [some (.ref k), some (.int p1), some (.int p2), some (.int p3), some (.int r_1), none, none, none, none, none] rfl ?_
  refine a_iload_n C eX5_runFrom_8 rfl ?_
  refine a_ist C eX5_runFrom_9 (Nat.le_of_ble_eq_true rfl) [some (.ref k), some (.int p1), some (.int p2), some (.int p3), some (.int r_1), some (.int p2), none, none, none, none] rfl ?_
  exact a_less (lle_same (lle_same (lle_drop (lle_same (lle_same (lle_same (lle_same (lle_same (lle_same (lle_same lle_nil)))))))))) (lX5_runFrom_11 hk C R  _ _ _ _ h)
/-! ShelfDrives$Run.setVisits(II)V -/
def XX5_setVisits (k : Nat) (p1 : Int32) (p2 : Int32) (σ : Sg) : Option Sg := if ib p1 6 then lt ((σ (k + 1) p1.toNatClampNeg) ^^^ p2) (fun (x3_2 : Int32) => if x3_2 = 0 then (some σ) else (lt (up σ (k + 1) p1.toNatClampNeg p2) (fun (σ_3 : Sg) => b1 (XJ6_bitCount_0f7a4 ((x3_2 &&& (-x3_2)) - (1 : Int32))) (fun (r_4 : Int32) => b1 (XX5_runFrom k p1 r_4 x3_2 σ_3) (fun (σ_5 : Sg) => some σ_5))))) else none
theorem kX5_setVisits {ext : List Shp} {k : Nat} {p1 : Int32} {p2 : Int32} {σ : Sg} {rr : Sg} (hk : is_X5 (SHc ++ ext) k) (h : XX5_setVisits k p1 p2 σ = some rr) : Cv MX5_setVisits [.ref k, .int p1, .int p2] (SHc ++ ext) σ rr := by
  refine Cv.start rfl rfl (Nat.le_of_ble_eq_true rfl) rfl ?_
  intro X ad C R
  replace C : Cx X cX5_setVisits 4 RX5 none { frames := 3, cells := 0, slots := 0, locals := 72 } := C
  replace R : Rv X cX5_setVisits ad (SHc ++ ext) rr := R
  show AW X 0 0 ad (SHc ++ ext) σ 0 [some (.ref k), some (.int p1), some (.int p2), none] []
  rw [XX5_setVisits] at h
  refine a_aload_n C eX5_setVisits_0 rfl ?_
  refine a_getR C eX5_setVisits_1 fX5_9 hk.1 rfl ?_
  refine a_iload_n C eX5_setVisits_4 rfl ?_
  obtain ⟨hb_1, h⟩ := gd h
  refine a_iald C eX5_setVisits_5 hk.2.1 hb_1 ?_
  refine a_iload_n C eX5_setVisits_6 rfl ?_
  refine a_ixor C eX5_setVisits_7 ?_
  refine a_lt h (fun x3_2 h => ?_)
  refine a_ist_n C eX5_setVisits_8 (Nat.le_of_ble_eq_true rfl) [some (.ref k), some (.int p1), some (.int p2), some (.int x3_2)] rfl ?_
  refine a_iload_n C eX5_setVisits_9 rfl ?_
  refine a_if_eq C eX5_setVisits_10 (fun hc => ?_) (fun hc => ?_)
  · replace h := it hc h
    exact rt_v R eX5_setVisits_35 h
  · replace h := ie hc h
    refine a_aload_n C eX5_setVisits_13 rfl ?_
    refine a_getR C eX5_setVisits_14 fX5_9 hk.1 rfl ?_
    refine a_iload_n C eX5_setVisits_17 rfl ?_
    refine a_iload_n C eX5_setVisits_18 rfl ?_
    refine a_iastL C eX5_setVisits_19 hk.2.1 hb_1 h (fun σ_3 h => ?_)
    refine a_aload_n C eX5_setVisits_20 rfl ?_
    refine a_iload_n C eX5_setVisits_21 rfl ?_
    refine a_iload_n C eX5_setVisits_22 rfl ?_
    refine a_iload_n C eX5_setVisits_23 rfl ?_
    refine a_ineg C eX5_setVisits_24 ?_
    refine a_iand C eX5_setVisits_25 ?_
    refine a_iconst C eX5_setVisits_26 (1 : Int32) c_iconst_1 ?_
    refine a_isub C eX5_setVisits_27 ?_
    obtain ⟨r_4, hq, h⟩ := b1_e h
    refine a_cSi1 C eX5_setVisits_28 wX5_70 ⟨Nat.le_of_ble_eq_true rfl, Nat.le_of_ble_eq_true rfl, rfl, rfl⟩ rfl (kJ6_bitCount_0f7a4 hq) (Nat.le_of_ble_eq_true rfl) ?_
    refine a_iload_n C eX5_setVisits_31 rfl ?_
    obtain ⟨σ_5, hq, h⟩ := b1_e h
    refine a_cVv3 C eX5_setVisits_32 wX5_66 ⟨Nat.le_of_ble_eq_true rfl, Nat.le_of_ble_eq_true rfl, rfl, rfl⟩ rfl hk.1 rfl (kX5_runFrom hk hq) (Nat.le_of_ble_eq_true rfl) ?_
    exact rt_v R eX5_setVisits_35 h
/-! ShelfDrives$Run.dropVisits()V -/
def LX5_dropVisits_2 (k : Nat) : Nat → Int32 → Sg → Option Sg
  | 0, _, _ => none
  | n + 1, x1_1, σ_2 => if (σ_2 2 6) ≤ x1_1 then (some σ_2) else (b1 (XX5_setVisits k x1_1 (0 : Int32) σ_2) (fun (σ_3 : Sg) => lt (x1_1 + (1 : Int32)) (fun (x1_4 : Int32) => LX5_dropVisits_2 k n x1_4 σ_3)))
def XX5_dropVisits (k : Nat) (σ : Sg) : Option Sg := LX5_dropVisits_2 k FUEL (0 : Int32) σ
theorem lX5_dropVisits_2 {ext : List Shp} {X : CT} {ad : Nat → Nat} {rr : Sg} {k : Nat} (hk : is_X5 (SHc ++ ext) k) (C : Cx X cX5_dropVisits 2 RX5 none { frames := 4, cells := 0, slots := 0, locals := 95 }) (R : Rv X cX5_dropVisits ad (SHc ++ ext) rr)  : ∀ (n : Nat) (x1_1 : Int32) (σ_2 : Sg), LX5_dropVisits_2 k n x1_1 σ_2 = some rr → AW X 0 0 ad (SHc ++ ext) σ_2 2 [some (.ref k), some (.int x1_1)] [] := by
  intro n
  induction n with
  | zero =>
    intro x1_1 σ_2 h
    rw [LX5_dropVisits_2] at h
    cases h
  | succ n ih =>
    intro x1_1 σ_2 h
    rw [LX5_dropVisits_2] at h
    refine a_iload_n C eX5_dropVisits_2 rfl ?_
    refine a_aload_n C eX5_dropVisits_3 rfl ?_
    refine a_getR C eX5_dropVisits_4 fX5_33 hk.1 rfl ?_
    refine a_getI C eX5_dropVisits_7 fX5_63 sh_2 rfl ?_
    refine a_icmp_ge C eX5_dropVisits_10 (fun hc => ?_) (fun hc => ?_)
    · replace h := it hc h
      exact rt_v R eX5_dropVisits_25 h
    · replace h := ie hc h
      refine a_aload_n C eX5_dropVisits_13 rfl ?_
      refine a_iload_n C eX5_dropVisits_14 rfl ?_
      refine a_iconst C eX5_dropVisits_15 (0 : Int32) c_iconst_0 ?_
      obtain ⟨σ_3, hq, h⟩ := b1_e h
      refine a_cVv2 C eX5_dropVisits_16 wX5_76 ⟨Nat.le_of_ble_eq_true rfl, Nat.le_of_ble_eq_true rfl, rfl, rfl⟩ rfl hk.1 rfl (kX5_setVisits hk hq) (Nat.le_of_ble_eq_true rfl) ?_
      refine a_inc C eX5_dropVisits_19 rfl c_iconst_1 h (fun z => [some (.ref k), some (.int z)]) (fun _ => rfl) (fun x1_4 h => ?_)
      refine a_goto C eX5_dropVisits_22 ?_
      exact a_less (lle_same (lle_same lle_nil)) (ih _ _ h)
theorem kX5_dropVisits {ext : List Shp} {k : Nat} {σ : Sg} {rr : Sg} (hk : is_X5 (SHc ++ ext) k) (h : XX5_dropVisits k σ = some rr) : Cv MX5_dropVisits [.ref k] (SHc ++ ext) σ rr := by
  refine Cv.start rfl rfl (Nat.le_of_ble_eq_true rfl) rfl ?_
  intro X ad C R
  replace C : Cx X cX5_dropVisits 2 RX5 none { frames := 4, cells := 0, slots := 0, locals := 95 } := C
  replace R : Rv X cX5_dropVisits ad (SHc ++ ext) rr := R
  show AW X 0 0 ad (SHc ++ ext) σ 0 [some (.ref k), none] []
  rw [XX5_dropVisits] at h
  refine a_iconst C eX5_dropVisits_0 (0 : Int32) c_iconst_0 ?_
  refine a_ist_n C eX5_dropVisits_1 (Nat.le_of_ble_eq_true rfl) [some (.ref k), some (.int (0 : Int32))] rfl ?_
  exact a_less (lle_same (lle_same lle_nil)) (lX5_dropVisits_2 hk C R  _ _ _ h)
/-! ShelfDrives$Planner.isOneShort(LShelfDrives$Run;I)Z -/
def LX3_isOneShort_2 (p1 : Int32) (σ : Sg) : Nat → Int32 → Option Int32
  | 0, _ => none
  | n + 1, x3_1 => if (σ 2 6) ≤ x3_1 then (some (0 : Int32)) else (b1 (XX5_morning 38 x3_1 p1 σ) (fun (r_2 : Int32) => b1 (XX9_cellOf x3_1 p1) (fun (r_3 : Int32) => if ib r_3 84 then if (σ 40 r_3.toNatClampNeg) ≤ r_2 then (lt (x3_1 + (1 : Int32)) (fun (x3_5 : Int32) => LX3_isOneShort_2 p1 σ n x3_5)) else (some (1 : Int32)) else none)))
def XX3_isOneShort (p1 : Int32) (σ : Sg) : Option Int32 := LX3_isOneShort_2 p1 σ FUEL (0 : Int32)
theorem lX3_isOneShort_2 {ext : List Shp} {X : CT} {ad : Nat → Nat} {rr : Int32} {p1 : Int32} {σ : Sg}  (C : Cx X cX3_isOneShort 4 RX3 (some .boolean) { frames := 2, cells := 0, slots := 0, locals := 43 }) (R : Ri X cX3_isOneShort (some .boolean) ad (SHc ++ ext) (rr, σ))  : ∀ (n : Nat) (x3_1 : Int32), LX3_isOneShort_2 p1 σ n x3_1 = some rr → AW X 0 0 ad (SHc ++ ext) σ 2 [some (.ref 54), some (.ref 38), some (.int p1), some (.int x3_1)] [] := by
  intro n
  induction n with
  | zero =>
    intro x3_1 h
    rw [LX3_isOneShort_2] at h
    cases h
  | succ n ih =>
    intro x3_1 h
    rw [LX3_isOneShort_2] at h
    refine a_iload_n C eX3_isOneShort_2 rfl ?_
    refine a_aload_n C eX3_isOneShort_3 rfl ?_
    refine a_getR C eX3_isOneShort_4 fX3_9 sh_54 rfl ?_
    refine a_getI C eX3_isOneShort_7 fX3_34 sh_2 rfl ?_
    refine a_icmp_ge C eX3_isOneShort_10 (fun hc => ?_) (fun hc => ?_)
    · replace h := it hc h
      refine a_iconst C eX3_isOneShort_40 (0 : Int32) c_iconst_0 ?_
      exact rt_p R eX3_isOneShort_41 h nb_0
    · replace h := ie hc h
      refine a_aload_n C eX3_isOneShort_13 rfl ?_
      refine a_iload_n C eX3_isOneShort_14 rfl ?_
      refine a_iload_n C eX3_isOneShort_15 rfl ?_
      obtain ⟨r_2, hq, h⟩ := b1_e h
      refine a_cVi2 C eX3_isOneShort_16 wX3_37 ⟨Nat.le_of_ble_eq_true rfl, Nat.le_of_ble_eq_true rfl, rfl, rfl⟩ rfl sh_38 rfl (kX5_morning is_X5_38 hq) (Nat.le_of_ble_eq_true rfl) ?_
      refine a_aload_n C eX3_isOneShort_19 rfl ?_
      refine a_getR C eX3_isOneShort_20 fX3_41 sh_38 rfl ?_
      refine a_iload_n C eX3_isOneShort_23 rfl ?_
      refine a_iload_n C eX3_isOneShort_24 rfl ?_
      obtain ⟨r_3, hq, h⟩ := b1_e h
      refine a_cNi2 C eX3_isOneShort_25 wX3_45 ⟨Nat.le_of_ble_eq_true rfl, Nat.le_of_ble_eq_true rfl, rfl, rfl⟩ rfl (kX9_cellOf hq) (Nat.le_of_ble_eq_true rfl) ?_
      obtain ⟨hb_4, h⟩ := gd h
      refine a_iald C eX3_isOneShort_28 sh_40 hb_4 ?_
      refine a_icmp_ge C eX3_isOneShort_29 (fun hc => ?_) (fun hc => ?_)
      · replace h := it hc h
        refine a_inc C eX3_isOneShort_34 rfl c_iconst_1 h (fun z => [some (.ref 54), some (.ref 38), some (.int p1), some (.int z)]) (fun _ => rfl) (fun x3_5 h => ?_)
        refine a_goto C eX3_isOneShort_37 ?_
        exact a_less (lle_same (lle_same (lle_same (lle_same lle_nil)))) (ih _ h)
      · replace h := ie hc h
        refine a_iconst C eX3_isOneShort_32 (1 : Int32) c_iconst_1 ?_
        exact rt_p R eX3_isOneShort_33 h nb_1
theorem kX3_isOneShort {ext : List Shp} {p1 : Int32} {σ : Sg} {rr : Int32}  (h : XX3_isOneShort p1 σ = some rr) : Ci MX3_isOneShort [.ref 54, .ref 38, .int p1] (SHc ++ ext) σ (rr, σ) := by
  refine Ci.start rfl rfl (Nat.le_of_ble_eq_true rfl) ?_
  intro X ad C R
  replace C : Cx X cX3_isOneShort 4 RX3 (some .boolean) { frames := 2, cells := 0, slots := 0, locals := 43 } := C
  replace R : Ri X cX3_isOneShort (some .boolean) ad (SHc ++ ext) (rr, σ) := R
  show AW X 0 0 ad (SHc ++ ext) σ 0 [some (.ref 54), some (.ref 38), some (.int p1), none] []
  rw [XX3_isOneShort] at h
  refine a_iconst C eX3_isOneShort_0 (0 : Int32) c_iconst_0 ?_
  refine a_ist_n C eX3_isOneShort_1 (Nat.le_of_ble_eq_true rfl) [some (.ref 54), some (.ref 38), some (.int p1), some (.int (0 : Int32))] rfl ?_
  exact a_less (lle_same (lle_same (lle_same (lle_same lle_nil)))) (lX3_isOneShort_2  C R  _ _ h)
/-! ShelfDrives$Planner.visitShort(LShelfDrives$Run;II)V -/
def LX3_visitShort_38 (x4_1 : Int32) (x5_2 : Int32) (σ_3 : Sg) (k68_5 : Int32 → Option Sg) : Nat → Int32 → Int32 → Option Sg
  | 0, _, _ => none
  | n + 1, x6_12, x7_13 => if x4_1 < x7_13 then (k68_5 x6_12) else (b1 (XX9_cellOf x5_2 x7_13) (fun (r_14 : Int32) => if ib r_14 84 then lt (x6_12 + (σ_3 40 r_14.toNatClampNeg)) (fun (x6_16 : Int32) => lt (x7_13 + (1 : Int32)) (fun (x7_17 : Int32) => LX3_visitShort_38 x4_1 x5_2 σ_3 k68_5 n x6_16 x7_17)) else none))
def LX3_visitShort_20 (p1 : Int32) (x4_1 : Int32) : Nat → Int32 → Sg → Option Sg
  | 0, _, _ => none
  | n + 1, x5_2, σ_3 => if (σ_3 2 6) ≤ x5_2 then (some σ_3) else (lt (fun (x6_4 : Int32) => b1 (XX5_morning 38 x5_2 p1 σ_3) (fun (r_6 : Int32) => lt (fun (σ_7 : Sg) => lt (x5_2 + (1 : Int32)) (fun (x5_9 : Int32) => LX3_visitShort_20 p1 x4_1 n x5_9 σ_7)) (fun (k97_8 : Sg → Option Sg) => if x6_4 ≤ r_6 then (k97_8 σ_3) else (if ib x5_2 6 then b1 (XX5_setVisits 38 x5_2 ((σ_3 39 x5_2.toNatClampNeg) ||| ((1 : Int32) <<< (p1 &&& 31))) σ_3) (fun (σ_11 : Sg) => k97_8 σ_11) else none)))) (fun (k68_5 : Int32 → Option Sg) => LX3_visitShort_38 x4_1 x5_2 σ_3 k68_5 FUEL (0 : Int32) p1))
def XX3_visitShort (p1 : Int32) (p2 : Int32) (σ : Sg) : Option Sg := lt (if ((σ 2 0) - (1 : Int32)) < (p1 + p2) then ((σ 2 0) - (1 : Int32)) else (p1 + p2)) (fun (x4_1 : Int32) => LX3_visitShort_20 p1 x4_1 FUEL (0 : Int32) σ)
theorem lX3_visitShort_38 {ext : List Shp} {X : CT} {ad : Nat → Nat} {rr : Sg} {p1 : Int32} {x4_1 : Int32} {x5_2 : Int32} {σ_3 : Sg} {k68_5 : Int32 → Option Sg}  (C : Cx X cX3_visitShort 8 RX3 none { frames := 4, cells := 0, slots := 0, locals := 95 }) (R : Rv X cX3_visitShort ad (SHc ++ ext) rr) (hk68_5 : ∀ (x6_4 : Int32), k68_5 x6_4 = some rr → AW X 0 0 ad (SHc ++ ext) σ_3 68 [some (.ref 54), some (.ref 38), some (.int p1), none, some (.int x4_1), some (.int x5_2), some (.int x6_4), none] []) : ∀ (n : Nat) (x6_12 : Int32) (x7_13 : Int32), LX3_visitShort_38 x4_1 x5_2 σ_3 k68_5 n x6_12 x7_13 = some rr → AW X 0 0 ad (SHc ++ ext) σ_3 38 [some (.ref 54), some (.ref 38), some (.int p1), none, some (.int x4_1), some (.int x5_2), some (.int x6_12), some (.int x7_13)] [] := by
  intro n
  induction n with
  | zero =>
    intro x6_12 x7_13 h
    rw [LX3_visitShort_38] at h
    cases h
  | succ n ih =>
    intro x6_12 x7_13 h
    rw [LX3_visitShort_38] at h
    refine a_iload C eX3_visitShort_38 rfl ?_
    refine a_iload C eX3_visitShort_40 rfl ?_
    refine a_icmp_gt C eX3_visitShort_42 (fun hc => ?_) (fun hc => ?_)
    · replace h := it hc h
      exact a_less (lle_same (lle_same (lle_same (lle_same (lle_same (lle_same (lle_same (lle_drop lle_nil)))))))) (hk68_5 _ h)
    · replace h := ie hc h
      refine a_iload C eX3_visitShort_45 rfl ?_
      refine a_aload_n C eX3_visitShort_47 rfl ?_
      refine a_getR C eX3_visitShort_48 fX3_41 sh_38 rfl ?_
      refine a_iload C eX3_visitShort_51 rfl ?_
      refine a_iload C eX3_visitShort_53 rfl ?_
      obtain ⟨r_14, hq, h⟩ := b1_e h
      refine a_cNi2 C eX3_visitShort_55 wX3_45 ⟨Nat.le_of_ble_eq_true rfl, Nat.le_of_ble_eq_true rfl, rfl, rfl⟩ rfl (kX9_cellOf hq) (Nat.le_of_ble_eq_true rfl) ?_
      obtain ⟨hb_15, h⟩ := gd h
      refine a_iald C eX3_visitShort_58 sh_40 hb_15 ?_
      refine a_iadd C eX3_visitShort_59 ?_
      refine a_lt h (fun x6_16 h => ?_)
      refine a_ist C eX3_visitShort_60 (Nat.le_of_ble_eq_true rfl) [some (.ref 54), some (.ref 38), some (.int p1), none, some (.int x4_1), some (.int x5_2), some (.int x6_16), some (.int x7_13)] rfl ?_
      refine a_inc C eX3_visitShort_62 rfl c_iconst_1 h (fun z => [some (.ref 54), some (.ref 38), some (.int p1), none, some (.int x4_1), some (.int x5_2), some (.int x6_16), some (.int z)]) (fun _ => rfl) (fun x7_17 h => ?_)
      refine a_goto C eX3_visitShort_65 ?_
      exact a_less (lle_same (lle_same (lle_same (lle_same (lle_same (lle_same (lle_same (lle_same lle_nil)))))))) (ih _ _ h)
theorem lX3_visitShort_20 {ext : List Shp} {X : CT} {ad : Nat → Nat} {rr : Sg} {p1 : Int32} {x4_1 : Int32}  (C : Cx X cX3_visitShort 8 RX3 none { frames := 4, cells := 0, slots := 0, locals := 95 }) (R : Rv X cX3_visitShort ad (SHc ++ ext) rr)  : ∀ (n : Nat) (x5_2 : Int32) (σ_3 : Sg), LX3_visitShort_20 p1 x4_1 n x5_2 σ_3 = some rr → AW X 0 0 ad (SHc ++ ext) σ_3 20 [some (.ref 54), some (.ref 38), some (.int p1), none, some (.int x4_1), some (.int x5_2), none, none] [] := by
  intro n
  induction n with
  | zero =>
    intro x5_2 σ_3 h
    rw [LX3_visitShort_20] at h
    cases h
  | succ n ih =>
    intro x5_2 σ_3 h
    rw [LX3_visitShort_20] at h
    refine a_iload C eX3_visitShort_20 rfl ?_
    refine a_aload_n C eX3_visitShort_22 rfl ?_
    refine a_getR C eX3_visitShort_23 fX3_9 sh_54 rfl ?_
    refine a_getI C eX3_visitShort_26 fX3_34 sh_2 rfl ?_
    refine a_icmp_ge C eX3_visitShort_29 (fun hc => ?_) (fun hc => ?_)
    · replace h := it hc h
      exact rt_v R eX3_visitShort_103 h
    · replace h := ie hc h
      refine a_iconst C eX3_visitShort_32 (0 : Int32) c_iconst_0 ?_
      refine a_ist C eX3_visitShort_33 (Nat.le_of_ble_eq_true rfl) [some (.ref 54), some (.ref 38), some (.int p1), none, some (.int x4_1), some (.int x5_2), some (.int (0 : Int32)), none] rfl ?_
      refine a_iload_n C eX3_visitShort_35 rfl ?_
      refine a_ist C eX3_visitShort_36 (Nat.le_of_ble_eq_true rfl) [some (.ref 54), some (.ref 38), some (.int p1), none, some (.int x4_1), some (.int x5_2), some (.int (0 : Int32)), some (.int p1)] rfl ?_
      refine jn (fun (kk : Int32 → Option Sg) => ∀ (x6_4 : Int32), kk x6_4 = some rr → AW X 0 0 ad (SHc ++ ext) σ_3 68 [some (.ref 54), some (.ref 38), some (.int p1), none, some (.int x4_1), some (.int x5_2), some (.int x6_4), none] []) h ?_ (fun k68_5 hk68_5 h => ?_)
      · intro x6_4 h
        refine a_aload_n C eX3_visitShort_68 rfl ?_
        refine a_iload C eX3_visitShort_69 rfl ?_
        refine a_iload_n C eX3_visitShort_71 rfl ?_
        obtain ⟨r_6, hq, h⟩ := b1_e h
        refine a_cVi2 C eX3_visitShort_72 wX3_37 ⟨Nat.le_of_ble_eq_true rfl, Nat.le_of_ble_eq_true rfl, rfl, rfl⟩ rfl sh_38 rfl (kX5_morning is_X5_38 hq) (Nat.le_of_ble_eq_true rfl) ?_
        refine a_iload C eX3_visitShort_75 rfl ?_
        refine jn (fun (kk : Sg → Option Sg) => ∀ (σ_7 : Sg), kk σ_7 = some rr → AW X 0 0 ad (SHc ++ ext) σ_7 97 [some (.ref 54), some (.ref 38), some (.int p1), none, some (.int x4_1), some (.int x5_2), none, none] []) h ?_ (fun k97_8 hk97_8 h => ?_)
        · intro σ_7 h
          refine a_inc C eX3_visitShort_97 rfl c_iconst_1 h (fun z => [some (.ref 54), some (.ref 38), some (.int p1), none, some (.int x4_1), some (.int z), none, none]) (fun _ => rfl) (fun x5_9 h => ?_)
          refine a_goto C eX3_visitShort_100 ?_
          exact a_less (lle_same (lle_same (lle_same (lle_same (lle_same (lle_same (lle_same (lle_same lle_nil)))))))) (ih _ _ h)
        refine a_icmp_ge C eX3_visitShort_77 (fun hc => ?_) (fun hc => ?_)
        · replace h := it hc h
          exact a_less (lle_same (lle_same (lle_same (lle_same (lle_same (lle_same (lle_drop (lle_same lle_nil)))))))) (hk97_8 _ h)
        · replace h := ie hc h
          refine a_aload_n C eX3_visitShort_80 rfl ?_
          refine a_iload C eX3_visitShort_81 rfl ?_
          refine a_aload_n C eX3_visitShort_83 rfl ?_
          refine a_getR C eX3_visitShort_84 fX3_53 sh_38 rfl ?_
          refine a_iload C eX3_visitShort_87 rfl ?_
          obtain ⟨hb_10, h⟩ := gd h
          refine a_iald C eX3_visitShort_89 sh_39 hb_10 ?_
          refine a_iconst C eX3_visitShort_90 (1 : Int32) c_iconst_1 ?_
          refine a_iload_n C eX3_visitShort_91 rfl ?_
          refine a_ishl C eX3_visitShort_92 ?_
          refine a_ior C eX3_visitShort_93 ?_
          obtain ⟨σ_11, hq, h⟩ := b1_e h
          refine a_cVv2 C eX3_visitShort_94 wX3_56 ⟨Nat.le_of_ble_eq_true rfl, Nat.le_of_ble_eq_true rfl, rfl, rfl⟩ rfl sh_38 rfl (kX5_setVisits is_X5_38 hq) (Nat.le_of_ble_eq_true rfl) ?_
          exact a_less (lle_same (lle_same (lle_same (lle_same (lle_same (lle_same (lle_drop (lle_same lle_nil)))))))) (hk97_8 _ h)
      exact a_less (lle_same (lle_same (lle_same (lle_same (lle_same (lle_same (lle_same (lle_same lle_nil)))))))) (lX3_visitShort_38  C R hk68_5 _ _ _ h)
theorem kX3_visitShort {ext : List Shp} {p1 : Int32} {p2 : Int32} {σ : Sg} {rr : Sg}  (h : XX3_visitShort p1 p2 σ = some rr) : Cv MX3_visitShort [.ref 54, .ref 38, .int p1, .int p2] (SHc ++ ext) σ rr := by
  refine Cv.start rfl rfl (Nat.le_of_ble_eq_true rfl) rfl ?_
  intro X ad C R
  replace C : Cx X cX3_visitShort 8 RX3 none { frames := 4, cells := 0, slots := 0, locals := 95 } := C
  replace R : Rv X cX3_visitShort ad (SHc ++ ext) rr := R
  show AW X 0 0 ad (SHc ++ ext) σ 0 [some (.ref 54), some (.ref 38), some (.int p1), some (.int p2), none, none, none, none] []
  rw [XX3_visitShort] at h
  refine a_iload_n C eX3_visitShort_0 rfl ?_
  refine a_iload_n C eX3_visitShort_1 rfl ?_
  refine a_iadd C eX3_visitShort_2 ?_
  refine a_aload_n C eX3_visitShort_3 rfl ?_
  refine a_getR C eX3_visitShort_4 fX3_9 sh_54 rfl ?_
  refine a_getI C eX3_visitShort_7 fX3_20 sh_2 rfl ?_
  refine a_iconst C eX3_visitShort_10 (1 : Int32) c_iconst_1 ?_
  refine a_isub C eX3_visitShort_11 ?_
  refine a_min C eX3_visitShort_12 wX3_48 ⟨Nat.le_of_ble_eq_true rfl, Nat.le_of_ble_eq_true rfl⟩ rfl (Nat.le_of_ble_eq_true rfl) ?_
  refine a_lt h (fun x4_1 h => ?_)
  refine a_ist C eX3_visitShort_15 (Nat.le_of_ble_eq_true rfl) [some (.ref 54), some (.ref 38), some (.int p1), some (.int p2), some (.int x4_1), none, none, none] rfl ?_
  refine a_iconst C eX3_visitShort_17 (0 : Int32) c_iconst_0 ?_
  refine a_ist C eX3_visitShort_18 (Nat.le_of_ble_eq_true rfl) [some (.ref 54), some (.ref 38), some (.int p1), some (.int p2), some (.int x4_1), some (.int (0 : Int32)), none, none] rfl ?_
  exact a_less (lle_same (lle_same (lle_same (lle_drop (lle_same (lle_same (lle_same (lle_same lle_nil)))))))) (lX3_visitShort_20  C R  _ _ _ h)
/-! ShelfDrives$Planner.visitByRule(LShelfDrives$Run;I)V -/
def LX3_visitByRule_6 (p1 : Int32) : Nat → Int32 → Sg → Option Sg
  | 0, _, _ => none
  | n + 1, x3_2, σ_3 => if (σ_3 2 0) ≤ x3_2 then (some σ_3) else (b1 (XX3_isOneShort x3_2 σ_3) (fun (r_4 : Int32) => lt (fun (σ_5 : Sg) => lt (x3_2 + (1 : Int32)) (fun (x3_7 : Int32) => LX3_visitByRule_6 p1 n x3_7 σ_5)) (fun (k33_6 : Sg → Option Sg) => if r_4 = 0 then (k33_6 σ_3) else (b1 (XX3_visitShort x3_2 p1 σ_3) (fun (σ_8 : Sg) => k33_6 σ_8)))))
def XX3_visitByRule (p1 : Int32) (σ : Sg) : Option Sg := b1 (XX5_dropVisits 38 σ) (fun (σ_1 : Sg) => LX3_visitByRule_6 p1 FUEL (0 : Int32) σ_1)
theorem lX3_visitByRule_6 {ext : List Shp} {X : CT} {ad : Nat → Nat} {rr : Sg} {p1 : Int32}  (C : Cx X cX3_visitByRule 4 RX3 none { frames := 5, cells := 0, slots := 0, locals := 122 }) (R : Rv X cX3_visitByRule ad (SHc ++ ext) rr)  : ∀ (n : Nat) (x3_2 : Int32) (σ_3 : Sg), LX3_visitByRule_6 p1 n x3_2 σ_3 = some rr → AW X 0 0 ad (SHc ++ ext) σ_3 6 [some (.ref 54), some (.ref 38), some (.int p1), some (.int x3_2)] [] := by
  intro n
  induction n with
  | zero =>
    intro x3_2 σ_3 h
    rw [LX3_visitByRule_6] at h
    cases h
  | succ n ih =>
    intro x3_2 σ_3 h
    rw [LX3_visitByRule_6] at h
    refine a_iload_n C eX3_visitByRule_6 rfl ?_
    refine a_aload_n C eX3_visitByRule_7 rfl ?_
    refine a_getR C eX3_visitByRule_8 fX3_9 sh_54 rfl ?_
    refine a_getI C eX3_visitByRule_11 fX3_20 sh_2 rfl ?_
    refine a_icmp_ge C eX3_visitByRule_14 (fun hc => ?_) (fun hc => ?_)
    · replace h := it hc h
      exact rt_v R eX3_visitByRule_39 h
    · replace h := ie hc h
      refine a_aload_n C eX3_visitByRule_17 rfl ?_
      refine a_aload_n C eX3_visitByRule_18 rfl ?_
      refine a_iload_n C eX3_visitByRule_19 rfl ?_
      obtain ⟨r_4, hq, h⟩ := b1_e h
      refine a_cVi2 C eX3_visitByRule_20 wX3_26 ⟨Nat.le_of_ble_eq_true rfl, Nat.le_of_ble_eq_true rfl, rfl, rfl⟩ rfl sh_54 rfl (kX3_isOneShort hq) (Nat.le_of_ble_eq_true rfl) ?_
      refine jn (fun (kk : Sg → Option Sg) => ∀ (σ_5 : Sg), kk σ_5 = some rr → AW X 0 0 ad (SHc ++ ext) σ_5 33 [some (.ref 54), some (.ref 38), some (.int p1), some (.int x3_2)] []) h ?_ (fun k33_6 hk33_6 h => ?_)
      · intro σ_5 h
        refine a_inc C eX3_visitByRule_33 rfl c_iconst_1 h (fun z => [some (.ref 54), some (.ref 38), some (.int p1), some (.int z)]) (fun _ => rfl) (fun x3_7 h => ?_)
        refine a_goto C eX3_visitByRule_36 ?_
        exact a_less (lle_same (lle_same (lle_same (lle_same lle_nil)))) (ih _ _ h)
      refine a_if_eq C eX3_visitByRule_23 (fun hc => ?_) (fun hc => ?_)
      · replace h := it hc h
        exact a_less (lle_same (lle_same (lle_same (lle_same lle_nil)))) (hk33_6 _ h)
      · replace h := ie hc h
        refine a_aload_n C eX3_visitByRule_26 rfl ?_
        refine a_aload_n C eX3_visitByRule_27 rfl ?_
        refine a_iload_n C eX3_visitByRule_28 rfl ?_
        refine a_iload_n C eX3_visitByRule_29 rfl ?_
        obtain ⟨σ_8, hq, h⟩ := b1_e h
        refine a_cVv3 C eX3_visitByRule_30 wX3_30 ⟨Nat.le_of_ble_eq_true rfl, Nat.le_of_ble_eq_true rfl, rfl, rfl⟩ rfl sh_54 rfl (kX3_visitShort hq) (Nat.le_of_ble_eq_true rfl) ?_
        exact a_less (lle_same (lle_same (lle_same (lle_same lle_nil)))) (hk33_6 _ h)
theorem kX3_visitByRule {ext : List Shp} {p1 : Int32} {σ : Sg} {rr : Sg}  (h : XX3_visitByRule p1 σ = some rr) : Cv MX3_visitByRule [.ref 54, .ref 38, .int p1] (SHc ++ ext) σ rr := by
  refine Cv.start rfl rfl (Nat.le_of_ble_eq_true rfl) rfl ?_
  intro X ad C R
  replace C : Cx X cX3_visitByRule 4 RX3 none { frames := 5, cells := 0, slots := 0, locals := 122 } := C
  replace R : Rv X cX3_visitByRule ad (SHc ++ ext) rr := R
  show AW X 0 0 ad (SHc ++ ext) σ 0 [some (.ref 54), some (.ref 38), some (.int p1), none] []
  rw [XX3_visitByRule] at h
  refine a_aload_n C eX3_visitByRule_0 rfl ?_
  obtain ⟨σ_1, hq, h⟩ := b1_e h
  refine a_cVv0 C eX3_visitByRule_1 wX3_15 ⟨Nat.le_of_ble_eq_true rfl, Nat.le_of_ble_eq_true rfl, rfl, rfl⟩ rfl sh_38 rfl (kX5_dropVisits is_X5_38 hq) (Nat.le_of_ble_eq_true rfl) ?_
  refine a_iconst C eX3_visitByRule_4 (0 : Int32) c_iconst_0 ?_
  refine a_ist_n C eX3_visitByRule_5 (Nat.le_of_ble_eq_true rfl) [some (.ref 54), some (.ref 38), some (.int p1), some (.int (0 : Int32))] rfl ?_
  exact a_less (lle_same (lle_same (lle_same (lle_same lle_nil)))) (lX3_visitByRule_6  C R  _ _ _ h)
/-! ShelfDrives$Run.pickLoads(I[I)V -/
def LX5_pickLoads_2 (k : Nat) (a : Nat) (p1 : Int32) : Nat → Int32 → Sg → Option Sg
  | 0, _, _ => none
  | n + 1, x3_1, σ_2 => if (6 : Int32) ≤ x3_1 then (some σ_2) else (b1 (XX9_cellOf x3_1 p1) (fun (r_3 : Int32) => if ib r_3 84 then if ib x3_1 6 then lt (up σ_2 a x3_1.toNatClampNeg (σ_2 (k + 3) r_3.toNatClampNeg)) (fun (σ_5 : Sg) => lt (x3_1 + (1 : Int32)) (fun (x3_7 : Int32) => LX5_pickLoads_2 k a p1 n x3_7 σ_5)) else none else none))
def XX5_pickLoads (k : Nat) (a : Nat) (p1 : Int32) (σ : Sg) : Option Sg := LX5_pickLoads_2 k a p1 FUEL (0 : Int32) σ
theorem lX5_pickLoads_2 {ext : List Shp} {X : CT} {ad : Nat → Nat} {rr : Sg} {k : Nat} {a : Nat} {p1 : Int32} (hk : is_X5 (SHc ++ ext) k) (ha : (SHc ++ ext)[a]? = some (.inl 6)) (C : Cx X cX5_pickLoads 4 RX5 none { frames := 1, cells := 0, slots := 0, locals := 21 }) (R : Rv X cX5_pickLoads ad (SHc ++ ext) rr)  : ∀ (n : Nat) (x3_1 : Int32) (σ_2 : Sg), LX5_pickLoads_2 k a p1 n x3_1 σ_2 = some rr → AW X 0 0 ad (SHc ++ ext) σ_2 2 [some (.ref k), some (.int p1), some (.ref a), some (.int x3_1)] [] := by
  intro n
  induction n with
  | zero =>
    intro x3_1 σ_2 h
    rw [LX5_pickLoads_2] at h
    cases h
  | succ n ih =>
    intro x3_1 σ_2 h
    rw [LX5_pickLoads_2] at h
    refine a_iload_n C eX5_pickLoads_2 rfl ?_
    refine a_bipush C eX5_pickLoads_3 (6 : Int32) c_bipush_6 ?_
    refine a_icmp_ge C eX5_pickLoads_5 (fun hc => ?_) (fun hc => ?_)
    · replace h := it hc h
      exact rt_v R eX5_pickLoads_27 h
    · replace h := ie hc h
      refine a_aload_n C eX5_pickLoads_8 rfl ?_
      refine a_iload_n C eX5_pickLoads_9 rfl ?_
      refine a_aload_n C eX5_pickLoads_10 rfl ?_
      refine a_getR C eX5_pickLoads_11 fX5_18 hk.1 rfl ?_
      refine a_iload_n C eX5_pickLoads_14 rfl ?_
      refine a_iload_n C eX5_pickLoads_15 rfl ?_
      obtain ⟨r_3, hq, h⟩ := b1_e h
      refine a_cNi2 C eX5_pickLoads_16 wX5_87 ⟨Nat.le_of_ble_eq_true rfl, Nat.le_of_ble_eq_true rfl, rfl, rfl⟩ rfl (kX9_cellOf hq) (Nat.le_of_ble_eq_true rfl) ?_
      obtain ⟨hb_4, h⟩ := gd h
      refine a_iald C eX5_pickLoads_19 hk.2.2.2.1 hb_4 ?_
      obtain ⟨hb_6, h⟩ := gd h
      refine a_iastL C eX5_pickLoads_20 ha hb_6 h (fun σ_5 h => ?_)
      refine a_inc C eX5_pickLoads_21 rfl c_iconst_1 h (fun z => [some (.ref k), some (.int p1), some (.ref a), some (.int z)]) (fun _ => rfl) (fun x3_7 h => ?_)
      refine a_goto C eX5_pickLoads_24 ?_
      exact a_less (lle_same (lle_same (lle_same (lle_same lle_nil)))) (ih _ _ h)
theorem kX5_pickLoads {ext : List Shp} {k : Nat} {a : Nat} {p1 : Int32} {σ : Sg} {rr : Sg} (hk : is_X5 (SHc ++ ext) k) (ha : (SHc ++ ext)[a]? = some (.inl 6)) (h : XX5_pickLoads k a p1 σ = some rr) : Cv MX5_pickLoads [.ref k, .int p1, .ref a] (SHc ++ ext) σ rr := by
  refine Cv.start rfl rfl (Nat.le_of_ble_eq_true rfl) rfl ?_
  intro X ad C R
  replace C : Cx X cX5_pickLoads 4 RX5 none { frames := 1, cells := 0, slots := 0, locals := 21 } := C
  replace R : Rv X cX5_pickLoads ad (SHc ++ ext) rr := R
  show AW X 0 0 ad (SHc ++ ext) σ 0 [some (.ref k), some (.int p1), some (.ref a), none] []
  rw [XX5_pickLoads] at h
  refine a_iconst C eX5_pickLoads_0 (0 : Int32) c_iconst_0 ?_
  refine a_ist_n C eX5_pickLoads_1 (Nat.le_of_ble_eq_true rfl) [some (.ref k), some (.int p1), some (.ref a), some (.int (0 : Int32))] rfl ?_
  exact a_less (lle_same (lle_same (lle_same (lle_same lle_nil)))) (lX5_pickLoads_2 hk ha C R  _ _ _ h)
/-! ShelfDrives$Run.priceOn(I)I -/
def XX5_priceOn (k : Nat) (p1 : Int32) (σ : Sg) : Option (Int32 × Sg) := if ib p1 14 then lt (fun (σ_2 : Sg) => some (σ_2 (k + 6) p1.toNatClampNeg, σ_2)) (fun (k43_3 : Sg → Option (Int32 × Sg)) => if (σ (k + 6) p1.toNatClampNeg) = (-1 : Int32) then (b1 (XX5_pickLoads k (k + 7) p1 σ) (fun (σ_4 : Sg) => b2 (XX2_priceOf (k + 7) (σ_4 2 1) σ_4) (fun (r_5 : Int32) (σ_6 : Sg) => lt (up σ_6 (k + 6) p1.toNatClampNeg r_5) (fun (σ_7 : Sg) => k43_3 σ_7)))) else (k43_3 σ)) else none
theorem kX5_priceOn {ext : List Shp} {k : Nat} {p1 : Int32} {σ : Sg} {rr : (Int32 × Sg)} (hk : is_X5 (SHc ++ ext) k) (h : XX5_priceOn k p1 σ = some rr) : Ci MX5_priceOn [.ref k, .int p1] (SHc ++ ext) σ rr := by
  refine Ci.start rfl rfl (Nat.le_of_ble_eq_true rfl) ?_
  intro X ad C R
  replace C : Cx X cX5_priceOn 2 RX5 (some .int) { frames := 2, cells := 0, slots := 0, locals := 53 } := C
  replace R : Ri X cX5_priceOn (some .int) ad (SHc ++ ext) rr := R
  show AW X 0 0 ad (SHc ++ ext) σ 0 [some (.ref k), some (.int p1)] []
  rw [XX5_priceOn] at h
  refine a_aload_n C eX5_priceOn_0 rfl ?_
  refine a_getR C eX5_priceOn_1 fX5_27 hk.1 rfl ?_
  refine a_iload_n C eX5_priceOn_4 rfl ?_
  obtain ⟨hb_1, h⟩ := gd h
  refine a_iald C eX5_priceOn_5 hk.2.2.2.2.2.2.1 hb_1 ?_
  refine a_iconst C eX5_priceOn_6 (-1 : Int32) c_iconst_m1 ?_
  refine jn (fun (kk : Sg → Option (Int32 × Sg)) => ∀ (σ_2 : Sg), kk σ_2 = some rr → AW X 0 0 ad (SHc ++ ext) σ_2 43 [some (.ref k), some (.int p1)] []) h ?_ (fun k43_3 hk43_3 h => ?_)
  · intro σ_2 h
    refine a_aload_n C eX5_priceOn_43 rfl ?_
    refine a_getR C eX5_priceOn_44 fX5_27 hk.1 rfl ?_
    refine a_iload_n C eX5_priceOn_47 rfl ?_
    refine a_iald C eX5_priceOn_48 hk.2.2.2.2.2.2.1 hb_1 ?_
    exact rt_i R eX5_priceOn_49 h nb_int
  refine a_icmp_ne C eX5_priceOn_7 (fun hc => ?_) (fun hc => ?_)
  · replace h := ie hc h
    exact a_less (lle_same (lle_same lle_nil)) (hk43_3 _ h)
  · replace h := it hc h
    refine a_aload_n C eX5_priceOn_10 rfl ?_
    refine a_iload_n C eX5_priceOn_11 rfl ?_
    refine a_aload_n C eX5_priceOn_12 rfl ?_
    refine a_getR C eX5_priceOn_13 fX5_30 hk.1 rfl ?_
    obtain ⟨σ_4, hq, h⟩ := b1_e h
    refine a_cVv2 C eX5_priceOn_16 wX5_112 ⟨Nat.le_of_ble_eq_true rfl, Nat.le_of_ble_eq_true rfl, rfl, rfl⟩ rfl hk.1 rfl (kX5_pickLoads hk hk.2.2.2.2.2.2.2 hq) (Nat.le_of_ble_eq_true rfl) ?_
    refine a_aload_n C eX5_priceOn_19 rfl ?_
    refine a_getR C eX5_priceOn_20 fX5_27 hk.1 rfl ?_
    refine a_iload_n C eX5_priceOn_23 rfl ?_
    refine a_aload_n C eX5_priceOn_24 rfl ?_
    refine a_getR C eX5_priceOn_25 fX5_37 hk.1 rfl ?_
    refine a_aload_n C eX5_priceOn_28 rfl ?_
    refine a_getR C eX5_priceOn_29 fX5_30 hk.1 rfl ?_
    refine a_aload_n C eX5_priceOn_32 rfl ?_
    refine a_getR C eX5_priceOn_33 fX5_33 hk.1 rfl ?_
    refine a_getI C eX5_priceOn_36 fX5_116 sh_2 rfl ?_
    obtain ⟨r_5, σ_6, hq, h⟩ := b2_e h
    refine a_cVi2 C eX5_priceOn_39 wX5_119 ⟨Nat.le_of_ble_eq_true rfl, Nat.le_of_ble_eq_true rfl, rfl, rfl⟩ rfl sh_29 rfl (kX2_priceOf hk.2.2.2.2.2.2.2 hq) (Nat.le_of_ble_eq_true rfl) ?_
    refine a_iastL C eX5_priceOn_42 hk.2.2.2.2.2.2.1 hb_1 h (fun σ_7 h => ?_)
    exact a_less (lle_same (lle_same lle_nil)) (hk43_3 _ h)
/-! ShelfDrives$Run.wholeCost()I -/
def LX5_wholeCost_28 (k : Nat) : Nat → Int32 → Int32 → Sg → Option (Int32 × Sg)
  | 0, _, _, _ => none
  | n + 1, x1_2, x2_3, σ_4 => if (σ_4 2 0) ≤ x2_3 then (some (x1_2, σ_4)) else (b2 (XX5_priceOn k x2_3 σ_4) (fun (r_5 : Int32) (σ_6 : Sg) => lt (x1_2 + r_5) (fun (x1_7 : Int32) => lt (x2_3 + (1 : Int32)) (fun (x2_8 : Int32) => LX5_wholeCost_28 k n x1_7 x2_8 σ_6))))
def XX5_wholeCost (k : Nat) (σ : Sg) : Option (Int32 × Sg) := lt (((σ 2 4) * (σ k 6)) + ((σ 2 5) * (σ k 5))) (fun (x1_1 : Int32) => LX5_wholeCost_28 k FUEL x1_1 (0 : Int32) σ)
theorem lX5_wholeCost_28 {ext : List Shp} {X : CT} {ad : Nat → Nat} {rr : (Int32 × Sg)} {k : Nat} (hk : is_X5 (SHc ++ ext) k) (C : Cx X cX5_wholeCost 3 RX5 (some .int) { frames := 3, cells := 0, slots := 0, locals := 74 }) (R : Ri X cX5_wholeCost (some .int) ad (SHc ++ ext) rr)  : ∀ (n : Nat) (x1_2 : Int32) (x2_3 : Int32) (σ_4 : Sg), LX5_wholeCost_28 k n x1_2 x2_3 σ_4 = some rr → AW X 0 0 ad (SHc ++ ext) σ_4 28 [some (.ref k), some (.int x1_2), some (.int x2_3)] [] := by
  intro n
  induction n with
  | zero =>
    intro x1_2 x2_3 σ_4 h
    rw [LX5_wholeCost_28] at h
    cases h
  | succ n ih =>
    intro x1_2 x2_3 σ_4 h
    rw [LX5_wholeCost_28] at h
    refine a_iload_n C eX5_wholeCost_28 rfl ?_
    refine a_aload_n C eX5_wholeCost_29 rfl ?_
    refine a_getR C eX5_wholeCost_30 fX5_33 hk.1 rfl ?_
    refine a_getI C eX5_wholeCost_33 fX5_84 sh_2 rfl ?_
    refine a_icmp_ge C eX5_wholeCost_36 (fun hc => ?_) (fun hc => ?_)
    · replace h := it hc h
      refine a_iload_n C eX5_wholeCost_53 rfl ?_
      exact rt_i R eX5_wholeCost_54 h nb_int
    · replace h := ie hc h
      refine a_iload_n C eX5_wholeCost_39 rfl ?_
      refine a_aload_n C eX5_wholeCost_40 rfl ?_
      refine a_iload_n C eX5_wholeCost_41 rfl ?_
      obtain ⟨r_5, σ_6, hq, h⟩ := b2_e h
      refine a_cVi1 C eX5_wholeCost_42 wX5_141 ⟨Nat.le_of_ble_eq_true rfl, Nat.le_of_ble_eq_true rfl, rfl, rfl⟩ rfl hk.1 rfl (kX5_priceOn hk hq) (Nat.le_of_ble_eq_true rfl) ?_
      refine a_iadd C eX5_wholeCost_45 ?_
      refine a_lt h (fun x1_7 h => ?_)
      refine a_ist_n C eX5_wholeCost_46 (Nat.le_of_ble_eq_true rfl) [some (.ref k), some (.int x1_7), some (.int x2_3)] rfl ?_
      refine a_inc C eX5_wholeCost_47 rfl c_iconst_1 h (fun z => [some (.ref k), some (.int x1_7), some (.int z)]) (fun _ => rfl) (fun x2_8 h => ?_)
      refine a_goto C eX5_wholeCost_50 ?_
      exact a_less (lle_same (lle_same (lle_same lle_nil))) (ih _ _ _ h)
theorem kX5_wholeCost {ext : List Shp} {k : Nat} {σ : Sg} {rr : (Int32 × Sg)} (hk : is_X5 (SHc ++ ext) k) (h : XX5_wholeCost k σ = some rr) : Ci MX5_wholeCost [.ref k] (SHc ++ ext) σ rr := by
  refine Ci.start rfl rfl (Nat.le_of_ble_eq_true rfl) ?_
  intro X ad C R
  replace C : Cx X cX5_wholeCost 3 RX5 (some .int) { frames := 3, cells := 0, slots := 0, locals := 74 } := C
  replace R : Ri X cX5_wholeCost (some .int) ad (SHc ++ ext) rr := R
  show AW X 0 0 ad (SHc ++ ext) σ 0 [some (.ref k), none, none] []
  rw [XX5_wholeCost] at h
  refine a_aload_n C eX5_wholeCost_0 rfl ?_
  refine a_getR C eX5_wholeCost_1 fX5_33 hk.1 rfl ?_
  refine a_getI C eX5_wholeCost_4 fX5_125 sh_2 rfl ?_
  refine a_aload_n C eX5_wholeCost_7 rfl ?_
  refine a_getI C eX5_wholeCost_8 fX5_51 hk.1 rfl ?_
  refine a_imul C eX5_wholeCost_11 ?_
  refine a_aload_n C eX5_wholeCost_12 rfl ?_
  refine a_getR C eX5_wholeCost_13 fX5_33 hk.1 rfl ?_
  refine a_getI C eX5_wholeCost_16 fX5_128 sh_2 rfl ?_
  refine a_aload_n C eX5_wholeCost_19 rfl ?_
  refine a_getI C eX5_wholeCost_20 fX5_47 hk.1 rfl ?_
  refine a_imul C eX5_wholeCost_23 ?_
  refine a_iadd C eX5_wholeCost_24 ?_
  refine a_lt h (fun x1_1 h => ?_)
  refine a_ist_n C eX5_wholeCost_25 (Nat.le_of_ble_eq_true rfl) [some (.ref k), some (.int x1_1), none] rfl ?_
  refine a_iconst C eX5_wholeCost_26 (0 : Int32) c_iconst_0 ?_
  refine a_ist_n C eX5_wholeCost_27 (Nat.le_of_ble_eq_true rfl) [some (.ref k), some (.int x1_1), some (.int (0 : Int32))] rfl ?_
  exact a_less (lle_same (lle_same (lle_same lle_nil))) (lX5_wholeCost_28 hk C R  _ _ _ _ h)
/-! ShelfDrives$Town.hasDay(I)Z -/
def XX7_hasDay (p1 : Int32) (σ : Sg) : Option Int32 := lt (some (0 : Int32)) (fun (k16_1 : Option Int32) => if p1 < 0 then (k16_1) else (if (σ 2 0) ≤ p1 then (k16_1) else (some (1 : Int32))))
theorem kX7_hasDay {ext : List Shp} {p1 : Int32} {σ : Sg} {rr : Int32}  (h : XX7_hasDay p1 σ = some rr) : Ci MX7_hasDay [.ref 2, .int p1] (SHc ++ ext) σ (rr, σ) := by
  refine Ci.start rfl rfl (Nat.le_of_ble_eq_true rfl) ?_
  intro X ad C R
  replace C : Cx X cX7_hasDay 2 RX7 (some .boolean) { frames := 0, cells := 0, slots := 0, locals := 0 } := C
  replace R : Ri X cX7_hasDay (some .boolean) ad (SHc ++ ext) (rr, σ) := R
  show AW X 0 0 ad (SHc ++ ext) σ 0 [some (.ref 2), some (.int p1)] []
  rw [XX7_hasDay] at h
  refine a_iload_n C eX7_hasDay_0 rfl ?_
  refine jn (fun (kk : Option Int32) => kk = some rr → AW X 0 0 ad (SHc ++ ext) σ 16 [none, none] []) h ?_ (fun k16_1 hk16_1 h => ?_)
  · intro h
    refine a_iconst C eX7_hasDay_16 (0 : Int32) c_iconst_0 ?_
    exact rt_p R eX7_hasDay_17 h nb_0
  refine a_if_lt C eX7_hasDay_1 (fun hc => ?_) (fun hc => ?_)
  · replace h := it hc h
    exact a_less (lle_drop (lle_drop lle_nil)) (hk16_1 h)
  · replace h := ie hc h
    refine a_iload_n C eX7_hasDay_4 rfl ?_
    refine a_aload_n C eX7_hasDay_5 rfl ?_
    refine a_getI C eX7_hasDay_6 fX7_36 sh_2 rfl ?_
    refine a_icmp_ge C eX7_hasDay_9 (fun hc => ?_) (fun hc => ?_)
    · replace h := it hc h
      exact a_less (lle_drop (lle_drop lle_nil)) (hk16_1 h)
    · replace h := ie hc h
      refine a_iconst C eX7_hasDay_12 (1 : Int32) c_iconst_1 ?_
      refine a_goto C eX7_hasDay_13 ?_
      exact rt_p R eX7_hasDay_17 h nb_1
/-! ShelfDrives$Planner.turnIfLess(LShelfDrives$Run;III)Z -/
def XX3_turnIfLess (p1 : Int32) (p2 : Int32) (p3 : Int32) (σ : Sg) : Option (Int32 × Sg) := if ib p1 6 then lt (σ 47 p1.toNatClampNeg) (fun (x5_2 : Int32) => b1 (XX5_setVisits 46 p1 (x5_2 ^^^ p2) σ) (fun (σ_3 : Sg) => b2 (XX5_wholeCost 46 σ_3) (fun (r_4 : Int32) (σ_5 : Sg) => if p3 ≤ r_4 then (b1 (XX5_setVisits 46 p1 x5_2 σ_5) (fun (σ_6 : Sg) => some ((0 : Int32), σ_6))) else (some ((1 : Int32), σ_5))))) else none
theorem kX3_turnIfLess {ext : List Shp} {p1 : Int32} {p2 : Int32} {p3 : Int32} {σ : Sg} {rr : (Int32 × Sg)}  (h : XX3_turnIfLess p1 p2 p3 σ = some rr) : Ci MX3_turnIfLess [.ref 54, .ref 46, .int p1, .int p2, .int p3] (SHc ++ ext) σ rr := by
  refine Ci.start rfl rfl (Nat.le_of_ble_eq_true rfl) ?_
  intro X ad C R
  replace C : Cx X cX3_turnIfLess 6 RX3 (some .boolean) { frames := 4, cells := 0, slots := 0, locals := 96 } := C
  replace R : Ri X cX3_turnIfLess (some .boolean) ad (SHc ++ ext) rr := R
  show AW X 0 0 ad (SHc ++ ext) σ 0 [some (.ref 54), some (.ref 46), some (.int p1), some (.int p2), some (.int p3), none] []
  rw [XX3_turnIfLess] at h
  refine a_aload_n C eX3_turnIfLess_0 rfl ?_
  refine a_getR C eX3_turnIfLess_1 fX3_53 sh_46 rfl ?_
  refine a_iload_n C eX3_turnIfLess_4 rfl ?_
  obtain ⟨hb_1, h⟩ := gd h
  refine a_iald C eX3_turnIfLess_5 sh_47 hb_1 ?_
  refine a_lt h (fun x5_2 h => ?_)
  refine a_ist C eX3_turnIfLess_6 (Nat.le_of_ble_eq_true rfl) [some (.ref 54), some (.ref 46), some (.int p1), some (.int p2), some (.int p3), some (.int x5_2)] rfl ?_
  refine a_aload_n C eX3_turnIfLess_8 rfl ?_
  refine a_iload_n C eX3_turnIfLess_9 rfl ?_
  refine a_iload C eX3_turnIfLess_10 rfl ?_
  refine a_iload_n C eX3_turnIfLess_12 rfl ?_
  refine a_ixor C eX3_turnIfLess_13 ?_
  obtain ⟨σ_3, hq, h⟩ := b1_e h
  refine a_cVv2 C eX3_turnIfLess_14 wX3_56 ⟨Nat.le_of_ble_eq_true rfl, Nat.le_of_ble_eq_true rfl, rfl, rfl⟩ rfl sh_46 rfl (kX5_setVisits is_X5_46 hq) (Nat.le_of_ble_eq_true rfl) ?_
  refine a_aload_n C eX3_turnIfLess_17 rfl ?_
  obtain ⟨r_4, σ_5, hq, h⟩ := b2_e h
  refine a_cVi0 C eX3_turnIfLess_18 wX3_60 ⟨Nat.le_of_ble_eq_true rfl, Nat.le_of_ble_eq_true rfl, rfl, rfl⟩ rfl sh_46 rfl (kX5_wholeCost is_X5_46 hq) (Nat.le_of_ble_eq_true rfl) ?_
  refine a_iload C eX3_turnIfLess_21 rfl ?_
  refine a_icmp_ge C eX3_turnIfLess_23 (fun hc => ?_) (fun hc => ?_)
  · replace h := it hc h
    refine a_aload_n C eX3_turnIfLess_28 rfl ?_
    refine a_iload_n C eX3_turnIfLess_29 rfl ?_
    refine a_iload C eX3_turnIfLess_30 rfl ?_
    obtain ⟨σ_6, hq, h⟩ := b1_e h
    refine a_cVv2 C eX3_turnIfLess_32 wX3_56 ⟨Nat.le_of_ble_eq_true rfl, Nat.le_of_ble_eq_true rfl, rfl, rfl⟩ rfl sh_46 rfl (kX5_setVisits is_X5_46 hq) (Nat.le_of_ble_eq_true rfl) ?_
    refine a_iconst C eX3_turnIfLess_35 (0 : Int32) c_iconst_0 ?_
    exact rt_i R eX3_turnIfLess_36 h nb_0
  · replace h := ie hc h
    refine a_iconst C eX3_turnIfLess_26 (1 : Int32) c_iconst_1 ?_
    exact rt_i R eX3_turnIfLess_27 h nb_1
/-! ShelfDrives$Planner.moveOne(LShelfDrives$Run;)Z -/
def LX3_moveOne_39 (r_1 : Int32) (x3_3 : Int32) (x4_8 : Int32) (k107_12 : Sg → Option (Int32 × Sg)) : Nat → Int32 → Sg → Option (Int32 × Sg)
  | 0, _, _ => none
  | n + 1, x5_14, σ_15 => if (x4_8 + (1 : Int32)) < x5_14 then (k107_12 σ_15) else (b1 (XX5_isVisited 46 x3_3 x4_8 σ_15) (fun (r_16 : Int32) => lt (fun (σ_17 : Sg) => lt (x5_14 + (2 : Int32)) (fun (x5_19 : Int32) => LX3_moveOne_39 r_1 x3_3 x4_8 k107_12 n x5_19 σ_17)) (fun (k101_18 : Sg → Option (Int32 × Sg)) => if r_16 = 0 then (k101_18 σ_15) else (b1 (XX7_hasDay x5_14 σ_15) (fun (r_20 : Int32) => if r_20 = 0 then (k101_18 σ_15) else (b1 (XX5_isVisited 46 x3_3 x5_14 σ_15) (fun (r_21 : Int32) => if r_21 = 0 then (b2 (XX3_turnIfLess x3_3 (((1 : Int32) <<< (x4_8 &&& 31)) ||| ((1 : Int32) <<< (x5_14 &&& 31))) r_1 σ_15) (fun (r_22 : Int32) (σ_23 : Sg) => if r_22 = 0 then (k101_18 σ_23) else (some ((1 : Int32), σ_23)))) else (k101_18 σ_15))))))))
def LX3_moveOne_21 (r_1 : Int32) (x3_3 : Int32) (k113_6 : Sg → Option (Int32 × Sg)) : Nat → Int32 → Sg → Option (Int32 × Sg)
  | 0, _, _ => none
  | n + 1, x4_8, σ_9 => if (σ_9 2 0) ≤ x4_8 then (k113_6 σ_9) else (lt (x4_8 - (1 : Int32)) (fun (x5_10 : Int32) => lt (fun (σ_11 : Sg) => lt (x4_8 + (1 : Int32)) (fun (x4_13 : Int32) => LX3_moveOne_21 r_1 x3_3 k113_6 n x4_13 σ_11)) (fun (k107_12 : Sg → Option (Int32 × Sg)) => LX3_moveOne_39 r_1 x3_3 x4_8 k107_12 FUEL x5_10 σ_9)))
def LX3_moveOne_7 (r_1 : Int32) : Nat → Int32 → Sg → Option (Int32 × Sg)
  | 0, _, _ => none
  | n + 1, x3_3, σ_4 => if (σ_4 2 6) ≤ x3_3 then (some ((0 : Int32), σ_4)) else (lt (fun (σ_5 : Sg) => lt (x3_3 + (1 : Int32)) (fun (x3_7 : Int32) => LX3_moveOne_7 r_1 n x3_7 σ_5)) (fun (k113_6 : Sg → Option (Int32 × Sg)) => LX3_moveOne_21 r_1 x3_3 k113_6 FUEL (0 : Int32) σ_4))
def XX3_moveOne (σ : Sg) : Option (Int32 × Sg) := b2 (XX5_wholeCost 46 σ) (fun (r_1 : Int32) (σ_2 : Sg) => LX3_moveOne_7 r_1 FUEL (0 : Int32) σ_2)
theorem lX3_moveOne_39 {ext : List Shp} {X : CT} {ad : Nat → Nat} {rr : (Int32 × Sg)} {r_1 : Int32} {x3_3 : Int32} {x4_8 : Int32} {k107_12 : Sg → Option (Int32 × Sg)}  (C : Cx X cX3_moveOne 6 RX3 (some .boolean) { frames := 5, cells := 0, slots := 0, locals := 121 }) (R : Ri X cX3_moveOne (some .boolean) ad (SHc ++ ext) rr) (hk107_12 : ∀ (σ_11 : Sg), k107_12 σ_11 = some rr → AW X 0 0 ad (SHc ++ ext) σ_11 107 [some (.ref 54), some (.ref 46), some (.int r_1), some (.int x3_3), some (.int x4_8), none] []) : ∀ (n : Nat) (x5_14 : Int32) (σ_15 : Sg), LX3_moveOne_39 r_1 x3_3 x4_8 k107_12 n x5_14 σ_15 = some rr → AW X 0 0 ad (SHc ++ ext) σ_15 39 [some (.ref 54), some (.ref 46), some (.int r_1), some (.int x3_3), some (.int x4_8), some (.int x5_14)] [] := by
  intro n
  induction n with
  | zero =>
    intro x5_14 σ_15 h
    rw [LX3_moveOne_39] at h
    cases h
  | succ n ih =>
    intro x5_14 σ_15 h
    rw [LX3_moveOne_39] at h
    refine a_iload C eX3_moveOne_39 rfl ?_
    refine a_iload C eX3_moveOne_41 rfl ?_
    refine a_iconst C eX3_moveOne_43 (1 : Int32) c_iconst_1 ?_
    refine a_iadd C eX3_moveOne_44 ?_
    refine a_icmp_gt C eX3_moveOne_45 (fun hc => ?_) (fun hc => ?_)
    · replace h := it hc h
      exact a_less (lle_same (lle_same (lle_same (lle_same (lle_same (lle_drop lle_nil)))))) (hk107_12 _ h)
    · replace h := ie hc h
      refine a_aload_n C eX3_moveOne_48 rfl ?_
      refine a_iload_n C eX3_moveOne_49 rfl ?_
      refine a_iload C eX3_moveOne_50 rfl ?_
      obtain ⟨r_16, hq, h⟩ := b1_e h
      refine a_cVi2 C eX3_moveOne_52 wX3_64 ⟨Nat.le_of_ble_eq_true rfl, Nat.le_of_ble_eq_true rfl, rfl, rfl⟩ rfl sh_46 rfl (kX5_isVisited is_X5_46 hq) (Nat.le_of_ble_eq_true rfl) ?_
      refine jn (fun (kk : Sg → Option (Int32 × Sg)) => ∀ (σ_17 : Sg), kk σ_17 = some rr → AW X 0 0 ad (SHc ++ ext) σ_17 101 [some (.ref 54), some (.ref 46), some (.int r_1), some (.int x3_3), some (.int x4_8), some (.int x5_14)] []) h ?_ (fun k101_18 hk101_18 h => ?_)
      · intro σ_17 h
        refine a_inc C eX3_moveOne_101 rfl c_iconst_2 h (fun z => [some (.ref 54), some (.ref 46), some (.int r_1), some (.int x3_3), some (.int x4_8), some (.int z)]) (fun _ => rfl) (fun x5_19 h => ?_)
        refine a_goto C eX3_moveOne_104 ?_
        exact a_less (lle_same (lle_same (lle_same (lle_same (lle_same (lle_same lle_nil)))))) (ih _ _ h)
      refine a_if_eq C eX3_moveOne_55 (fun hc => ?_) (fun hc => ?_)
      · replace h := it hc h
        exact a_less (lle_same (lle_same (lle_same (lle_same (lle_same (lle_same lle_nil)))))) (hk101_18 _ h)
      · replace h := ie hc h
        refine a_aload_n C eX3_moveOne_58 rfl ?_
        refine a_getR C eX3_moveOne_59 fX3_9 sh_54 rfl ?_
        refine a_iload C eX3_moveOne_62 rfl ?_
        obtain ⟨r_20, hq, h⟩ := b1_e h
        refine a_cVi1 C eX3_moveOne_64 wX3_68 ⟨Nat.le_of_ble_eq_true rfl, Nat.le_of_ble_eq_true rfl, rfl, rfl⟩ rfl sh_2 rfl (kX7_hasDay hq) (Nat.le_of_ble_eq_true rfl) ?_
        refine a_if_eq C eX3_moveOne_67 (fun hc => ?_) (fun hc => ?_)
        · replace h := it hc h
          exact a_less (lle_same (lle_same (lle_same (lle_same (lle_same (lle_same lle_nil)))))) (hk101_18 _ h)
        · replace h := ie hc h
          refine a_aload_n C eX3_moveOne_70 rfl ?_
          refine a_iload_n C eX3_moveOne_71 rfl ?_
          refine a_iload C eX3_moveOne_72 rfl ?_
          obtain ⟨r_21, hq, h⟩ := b1_e h
          refine a_cVi2 C eX3_moveOne_74 wX3_64 ⟨Nat.le_of_ble_eq_true rfl, Nat.le_of_ble_eq_true rfl, rfl, rfl⟩ rfl sh_46 rfl (kX5_isVisited is_X5_46 hq) (Nat.le_of_ble_eq_true rfl) ?_
          refine a_if_ne C eX3_moveOne_77 (fun hc => ?_) (fun hc => ?_)
          · replace h := ie hc h
            exact a_less (lle_same (lle_same (lle_same (lle_same (lle_same (lle_same lle_nil)))))) (hk101_18 _ h)
          · replace h := it hc h
            refine a_aload_n C eX3_moveOne_80 rfl ?_
            refine a_aload_n C eX3_moveOne_81 rfl ?_
            refine a_iload_n C eX3_moveOne_82 rfl ?_
            refine a_iconst C eX3_moveOne_83 (1 : Int32) c_iconst_1 ?_
            refine a_iload C eX3_moveOne_84 rfl ?_
            refine a_ishl C eX3_moveOne_86 ?_
            refine a_iconst C eX3_moveOne_87 (1 : Int32) c_iconst_1 ?_
            refine a_iload C eX3_moveOne_88 rfl ?_
            refine a_ishl C eX3_moveOne_90 ?_
            refine a_ior C eX3_moveOne_91 ?_
            refine a_iload_n C eX3_moveOne_92 rfl ?_
            obtain ⟨r_22, σ_23, hq, h⟩ := b2_e h
            refine a_cVi4 C eX3_moveOne_93 wX3_72 ⟨Nat.le_of_ble_eq_true rfl, Nat.le_of_ble_eq_true rfl, rfl, rfl⟩ rfl sh_54 rfl (kX3_turnIfLess hq) (Nat.le_of_ble_eq_true rfl) ?_
            refine a_if_eq C eX3_moveOne_96 (fun hc => ?_) (fun hc => ?_)
            · replace h := it hc h
              exact a_less (lle_same (lle_same (lle_same (lle_same (lle_same (lle_same lle_nil)))))) (hk101_18 _ h)
            · replace h := ie hc h
              refine a_iconst C eX3_moveOne_99 (1 : Int32) c_iconst_1 ?_
              exact rt_i R eX3_moveOne_100 h nb_1
theorem lX3_moveOne_21 {ext : List Shp} {X : CT} {ad : Nat → Nat} {rr : (Int32 × Sg)} {r_1 : Int32} {x3_3 : Int32} {k113_6 : Sg → Option (Int32 × Sg)}  (C : Cx X cX3_moveOne 6 RX3 (some .boolean) { frames := 5, cells := 0, slots := 0, locals := 121 }) (R : Ri X cX3_moveOne (some .boolean) ad (SHc ++ ext) rr) (hk113_6 : ∀ (σ_5 : Sg), k113_6 σ_5 = some rr → AW X 0 0 ad (SHc ++ ext) σ_5 113 [some (.ref 54), some (.ref 46), some (.int r_1), some (.int x3_3), none, none] []) : ∀ (n : Nat) (x4_8 : Int32) (σ_9 : Sg), LX3_moveOne_21 r_1 x3_3 k113_6 n x4_8 σ_9 = some rr → AW X 0 0 ad (SHc ++ ext) σ_9 21 [some (.ref 54), some (.ref 46), some (.int r_1), some (.int x3_3), some (.int x4_8), none] [] := by
  intro n
  induction n with
  | zero =>
    intro x4_8 σ_9 h
    rw [LX3_moveOne_21] at h
    cases h
  | succ n ih =>
    intro x4_8 σ_9 h
    rw [LX3_moveOne_21] at h
    refine a_iload C eX3_moveOne_21 rfl ?_
    refine a_aload_n C eX3_moveOne_23 rfl ?_
    refine a_getR C eX3_moveOne_24 fX3_9 sh_54 rfl ?_
    refine a_getI C eX3_moveOne_27 fX3_20 sh_2 rfl ?_
    refine a_icmp_ge C eX3_moveOne_30 (fun hc => ?_) (fun hc => ?_)
    · replace h := it hc h
      exact a_less (lle_same (lle_same (lle_same (lle_same (lle_drop (lle_same lle_nil)))))) (hk113_6 _ h)
    · replace h := ie hc h
      refine a_iload C eX3_moveOne_33 rfl ?_
      refine a_iconst C eX3_moveOne_35 (1 : Int32) c_iconst_1 ?_
      refine a_isub C eX3_moveOne_36 ?_
      refine a_lt h (fun x5_10 h => ?_)
      refine a_ist C eX3_moveOne_37 (Nat.le_of_ble_eq_true rfl) [some (.ref 54), some (.ref 46), some (.int r_1), some (.int x3_3), some (.int x4_8), some (.int x5_10)] rfl ?_
      refine jn (fun (kk : Sg → Option (Int32 × Sg)) => ∀ (σ_11 : Sg), kk σ_11 = some rr → AW X 0 0 ad (SHc ++ ext) σ_11 107 [some (.ref 54), some (.ref 46), some (.int r_1), some (.int x3_3), some (.int x4_8), none] []) h ?_ (fun k107_12 hk107_12 h => ?_)
      · intro σ_11 h
        refine a_inc C eX3_moveOne_107 rfl c_iconst_1 h (fun z => [some (.ref 54), some (.ref 46), some (.int r_1), some (.int x3_3), some (.int z), none]) (fun _ => rfl) (fun x4_13 h => ?_)
        refine a_goto C eX3_moveOne_110 ?_
        exact a_less (lle_same (lle_same (lle_same (lle_same (lle_same (lle_same lle_nil)))))) (ih _ _ h)
      exact a_less (lle_same (lle_same (lle_same (lle_same (lle_same (lle_same lle_nil)))))) (lX3_moveOne_39  C R hk107_12 _ _ _ h)
theorem lX3_moveOne_7 {ext : List Shp} {X : CT} {ad : Nat → Nat} {rr : (Int32 × Sg)} {r_1 : Int32}  (C : Cx X cX3_moveOne 6 RX3 (some .boolean) { frames := 5, cells := 0, slots := 0, locals := 121 }) (R : Ri X cX3_moveOne (some .boolean) ad (SHc ++ ext) rr)  : ∀ (n : Nat) (x3_3 : Int32) (σ_4 : Sg), LX3_moveOne_7 r_1 n x3_3 σ_4 = some rr → AW X 0 0 ad (SHc ++ ext) σ_4 7 [some (.ref 54), some (.ref 46), some (.int r_1), some (.int x3_3), none, none] [] := by
  intro n
  induction n with
  | zero =>
    intro x3_3 σ_4 h
    rw [LX3_moveOne_7] at h
    cases h
  | succ n ih =>
    intro x3_3 σ_4 h
    rw [LX3_moveOne_7] at h
    refine a_iload_n C eX3_moveOne_7 rfl ?_
    refine a_aload_n C eX3_moveOne_8 rfl ?_
    refine a_getR C eX3_moveOne_9 fX3_9 sh_54 rfl ?_
    refine a_getI C eX3_moveOne_12 fX3_34 sh_2 rfl ?_
    refine a_icmp_ge C eX3_moveOne_15 (fun hc => ?_) (fun hc => ?_)
    · replace h := it hc h
      refine a_iconst C eX3_moveOne_119 (0 : Int32) c_iconst_0 ?_
      exact rt_i R eX3_moveOne_120 h nb_0
    · replace h := ie hc h
      refine a_iconst C eX3_moveOne_18 (0 : Int32) c_iconst_0 ?_
      refine a_ist C eX3_moveOne_19 (Nat.le_of_ble_eq_true rfl) [some (.ref 54), some (.ref 46), some (.int r_1), some (.int x3_3), some (.int (0 : Int32)), none] rfl ?_
      refine jn (fun (kk : Sg → Option (Int32 × Sg)) => ∀ (σ_5 : Sg), kk σ_5 = some rr → AW X 0 0 ad (SHc ++ ext) σ_5 113 [some (.ref 54), some (.ref 46), some (.int r_1), some (.int x3_3), none, none] []) h ?_ (fun k113_6 hk113_6 h => ?_)
      · intro σ_5 h
        refine a_inc C eX3_moveOne_113 rfl c_iconst_1 h (fun z => [some (.ref 54), some (.ref 46), some (.int r_1), some (.int z), none, none]) (fun _ => rfl) (fun x3_7 h => ?_)
        refine a_goto C eX3_moveOne_116 ?_
        exact a_less (lle_same (lle_same (lle_same (lle_same (lle_same (lle_same lle_nil)))))) (ih _ _ h)
      exact a_less (lle_same (lle_same (lle_same (lle_same (lle_same (lle_same lle_nil)))))) (lX3_moveOne_21  C R hk113_6 _ _ _ h)
theorem kX3_moveOne {ext : List Shp} {σ : Sg} {rr : (Int32 × Sg)}  (h : XX3_moveOne σ = some rr) : Ci MX3_moveOne [.ref 54, .ref 46] (SHc ++ ext) σ rr := by
  refine Ci.start rfl rfl (Nat.le_of_ble_eq_true rfl) ?_
  intro X ad C R
  replace C : Cx X cX3_moveOne 6 RX3 (some .boolean) { frames := 5, cells := 0, slots := 0, locals := 121 } := C
  replace R : Ri X cX3_moveOne (some .boolean) ad (SHc ++ ext) rr := R
  show AW X 0 0 ad (SHc ++ ext) σ 0 [some (.ref 54), some (.ref 46), none, none, none, none] []
  rw [XX3_moveOne] at h
  refine a_aload_n C eX3_moveOne_0 rfl ?_
  obtain ⟨r_1, σ_2, hq, h⟩ := b2_e h
  refine a_cVi0 C eX3_moveOne_1 wX3_60 ⟨Nat.le_of_ble_eq_true rfl, Nat.le_of_ble_eq_true rfl, rfl, rfl⟩ rfl sh_46 rfl (kX5_wholeCost is_X5_46 hq) (Nat.le_of_ble_eq_true rfl) ?_
  refine a_ist_n C eX3_moveOne_4 (Nat.le_of_ble_eq_true rfl) [some (.ref 54), some (.ref 46), some (.int r_1), none, none, none] rfl ?_
  refine a_iconst C eX3_moveOne_5 (0 : Int32) c_iconst_0 ?_
  refine a_ist_n C eX3_moveOne_6 (Nat.le_of_ble_eq_true rfl) [some (.ref 54), some (.ref 46), some (.int r_1), some (.int (0 : Int32)), none, none] rfl ?_
  exact a_less (lle_same (lle_same (lle_same (lle_same (lle_same (lle_same lle_nil)))))) (lX3_moveOne_7  C R  _ _ _ h)
/-! ShelfDrives$Planner.turnOne(LShelfDrives$Run;)Z -/
def LX3_turnOne_21 (r_1 : Int32) (x3_3 : Int32) (k55_6 : Sg → Option (Int32 × Sg)) : Nat → Int32 → Sg → Option (Int32 × Sg)
  | 0, _, _ => none
  | n + 1, x4_8, σ_9 => if (σ_9 2 0) ≤ x4_8 then (k55_6 σ_9) else (b2 (XX3_turnIfLess x3_3 ((1 : Int32) <<< (x4_8 &&& 31)) r_1 σ_9) (fun (r_10 : Int32) (σ_11 : Sg) => if r_10 = 0 then (lt (x4_8 + (1 : Int32)) (fun (x4_12 : Int32) => LX3_turnOne_21 r_1 x3_3 k55_6 n x4_12 σ_11)) else (some ((1 : Int32), σ_11))))
def LX3_turnOne_7 (r_1 : Int32) : Nat → Int32 → Sg → Option (Int32 × Sg)
  | 0, _, _ => none
  | n + 1, x3_3, σ_4 => if (σ_4 2 6) ≤ x3_3 then (some ((0 : Int32), σ_4)) else (lt (fun (σ_5 : Sg) => lt (x3_3 + (1 : Int32)) (fun (x3_7 : Int32) => LX3_turnOne_7 r_1 n x3_7 σ_5)) (fun (k55_6 : Sg → Option (Int32 × Sg)) => LX3_turnOne_21 r_1 x3_3 k55_6 FUEL (0 : Int32) σ_4))
def XX3_turnOne (σ : Sg) : Option (Int32 × Sg) := b2 (XX5_wholeCost 46 σ) (fun (r_1 : Int32) (σ_2 : Sg) => LX3_turnOne_7 r_1 FUEL (0 : Int32) σ_2)
theorem lX3_turnOne_21 {ext : List Shp} {X : CT} {ad : Nat → Nat} {rr : (Int32 × Sg)} {r_1 : Int32} {x3_3 : Int32} {k55_6 : Sg → Option (Int32 × Sg)}  (C : Cx X cX3_turnOne 5 RX3 (some .boolean) { frames := 5, cells := 0, slots := 0, locals := 121 }) (R : Ri X cX3_turnOne (some .boolean) ad (SHc ++ ext) rr) (hk55_6 : ∀ (σ_5 : Sg), k55_6 σ_5 = some rr → AW X 0 0 ad (SHc ++ ext) σ_5 55 [some (.ref 54), some (.ref 46), some (.int r_1), some (.int x3_3), none] []) : ∀ (n : Nat) (x4_8 : Int32) (σ_9 : Sg), LX3_turnOne_21 r_1 x3_3 k55_6 n x4_8 σ_9 = some rr → AW X 0 0 ad (SHc ++ ext) σ_9 21 [some (.ref 54), some (.ref 46), some (.int r_1), some (.int x3_3), some (.int x4_8)] [] := by
  intro n
  induction n with
  | zero =>
    intro x4_8 σ_9 h
    rw [LX3_turnOne_21] at h
    cases h
  | succ n ih =>
    intro x4_8 σ_9 h
    rw [LX3_turnOne_21] at h
    refine a_iload C eX3_turnOne_21 rfl ?_
    refine a_aload_n C eX3_turnOne_23 rfl ?_
    refine a_getR C eX3_turnOne_24 fX3_9 sh_54 rfl ?_
    refine a_getI C eX3_turnOne_27 fX3_20 sh_2 rfl ?_
    refine a_icmp_ge C eX3_turnOne_30 (fun hc => ?_) (fun hc => ?_)
    · replace h := it hc h
      exact a_less (lle_same (lle_same (lle_same (lle_same (lle_drop lle_nil))))) (hk55_6 _ h)
    · replace h := ie hc h
      refine a_aload_n C eX3_turnOne_33 rfl ?_
      refine a_aload_n C eX3_turnOne_34 rfl ?_
      refine a_iload_n C eX3_turnOne_35 rfl ?_
      refine a_iconst C eX3_turnOne_36 (1 : Int32) c_iconst_1 ?_
      refine a_iload C eX3_turnOne_37 rfl ?_
      refine a_ishl C eX3_turnOne_39 ?_
      refine a_iload_n C eX3_turnOne_40 rfl ?_
      obtain ⟨r_10, σ_11, hq, h⟩ := b2_e h
      refine a_cVi4 C eX3_turnOne_41 wX3_72 ⟨Nat.le_of_ble_eq_true rfl, Nat.le_of_ble_eq_true rfl, rfl, rfl⟩ rfl sh_54 rfl (kX3_turnIfLess hq) (Nat.le_of_ble_eq_true rfl) ?_
      refine a_if_eq C eX3_turnOne_44 (fun hc => ?_) (fun hc => ?_)
      · replace h := it hc h
        refine a_inc C eX3_turnOne_49 rfl c_iconst_1 h (fun z => [some (.ref 54), some (.ref 46), some (.int r_1), some (.int x3_3), some (.int z)]) (fun _ => rfl) (fun x4_12 h => ?_)
        refine a_goto C eX3_turnOne_52 ?_
        exact a_less (lle_same (lle_same (lle_same (lle_same (lle_same lle_nil))))) (ih _ _ h)
      · replace h := ie hc h
        refine a_iconst C eX3_turnOne_47 (1 : Int32) c_iconst_1 ?_
        exact rt_i R eX3_turnOne_48 h nb_1
theorem lX3_turnOne_7 {ext : List Shp} {X : CT} {ad : Nat → Nat} {rr : (Int32 × Sg)} {r_1 : Int32}  (C : Cx X cX3_turnOne 5 RX3 (some .boolean) { frames := 5, cells := 0, slots := 0, locals := 121 }) (R : Ri X cX3_turnOne (some .boolean) ad (SHc ++ ext) rr)  : ∀ (n : Nat) (x3_3 : Int32) (σ_4 : Sg), LX3_turnOne_7 r_1 n x3_3 σ_4 = some rr → AW X 0 0 ad (SHc ++ ext) σ_4 7 [some (.ref 54), some (.ref 46), some (.int r_1), some (.int x3_3), none] [] := by
  intro n
  induction n with
  | zero =>
    intro x3_3 σ_4 h
    rw [LX3_turnOne_7] at h
    cases h
  | succ n ih =>
    intro x3_3 σ_4 h
    rw [LX3_turnOne_7] at h
    refine a_iload_n C eX3_turnOne_7 rfl ?_
    refine a_aload_n C eX3_turnOne_8 rfl ?_
    refine a_getR C eX3_turnOne_9 fX3_9 sh_54 rfl ?_
    refine a_getI C eX3_turnOne_12 fX3_34 sh_2 rfl ?_
    refine a_icmp_ge C eX3_turnOne_15 (fun hc => ?_) (fun hc => ?_)
    · replace h := it hc h
      refine a_iconst C eX3_turnOne_61 (0 : Int32) c_iconst_0 ?_
      exact rt_i R eX3_turnOne_62 h nb_0
    · replace h := ie hc h
      refine a_iconst C eX3_turnOne_18 (0 : Int32) c_iconst_0 ?_
      refine a_ist C eX3_turnOne_19 (Nat.le_of_ble_eq_true rfl) [some (.ref 54), some (.ref 46), some (.int r_1), some (.int x3_3), some (.int (0 : Int32))] rfl ?_
      refine jn (fun (kk : Sg → Option (Int32 × Sg)) => ∀ (σ_5 : Sg), kk σ_5 = some rr → AW X 0 0 ad (SHc ++ ext) σ_5 55 [some (.ref 54), some (.ref 46), some (.int r_1), some (.int x3_3), none] []) h ?_ (fun k55_6 hk55_6 h => ?_)
      · intro σ_5 h
        refine a_inc C eX3_turnOne_55 rfl c_iconst_1 h (fun z => [some (.ref 54), some (.ref 46), some (.int r_1), some (.int z), none]) (fun _ => rfl) (fun x3_7 h => ?_)
        refine a_goto C eX3_turnOne_58 ?_
        exact a_less (lle_same (lle_same (lle_same (lle_same (lle_same lle_nil))))) (ih _ _ h)
      exact a_less (lle_same (lle_same (lle_same (lle_same (lle_same lle_nil))))) (lX3_turnOne_21  C R hk55_6 _ _ _ h)
theorem kX3_turnOne {ext : List Shp} {σ : Sg} {rr : (Int32 × Sg)}  (h : XX3_turnOne σ = some rr) : Ci MX3_turnOne [.ref 54, .ref 46] (SHc ++ ext) σ rr := by
  refine Ci.start rfl rfl (Nat.le_of_ble_eq_true rfl) ?_
  intro X ad C R
  replace C : Cx X cX3_turnOne 5 RX3 (some .boolean) { frames := 5, cells := 0, slots := 0, locals := 121 } := C
  replace R : Ri X cX3_turnOne (some .boolean) ad (SHc ++ ext) rr := R
  show AW X 0 0 ad (SHc ++ ext) σ 0 [some (.ref 54), some (.ref 46), none, none, none] []
  rw [XX3_turnOne] at h
  refine a_aload_n C eX3_turnOne_0 rfl ?_
  obtain ⟨r_1, σ_2, hq, h⟩ := b2_e h
  refine a_cVi0 C eX3_turnOne_1 wX3_60 ⟨Nat.le_of_ble_eq_true rfl, Nat.le_of_ble_eq_true rfl, rfl, rfl⟩ rfl sh_46 rfl (kX5_wholeCost is_X5_46 hq) (Nat.le_of_ble_eq_true rfl) ?_
  refine a_ist_n C eX3_turnOne_4 (Nat.le_of_ble_eq_true rfl) [some (.ref 54), some (.ref 46), some (.int r_1), none, none] rfl ?_
  refine a_iconst C eX3_turnOne_5 (0 : Int32) c_iconst_0 ?_
  refine a_ist_n C eX3_turnOne_6 (Nat.le_of_ble_eq_true rfl) [some (.ref 54), some (.ref 46), some (.int r_1), some (.int (0 : Int32)), none] rfl ?_
  exact a_less (lle_same (lle_same (lle_same (lle_same (lle_same lle_nil))))) (lX3_turnOne_7  C R  _ _ _ h)
/-! ShelfDrives$Planner.setPlan(LShelfDrives$Run;I)V -/
def LX3_setPlan_5 : Nat → Int32 → Int32 → Sg → Option Sg
  | 0, _, _, _ => none
  | n + 1, x3_1, x4_2, σ_3 => if (σ_3 2 6) ≤ x4_2 then (some σ_3) else (b1 (XX5_setVisits 38 x4_2 (x3_1 &&& (((1 : Int32) <<< ((σ_3 2 0) &&& 31)) - (1 : Int32))) σ_3) (fun (σ_4 : Sg) => lt (ush x3_1 (σ_4 2 0)) (fun (x3_5 : Int32) => lt (x4_2 + (1 : Int32)) (fun (x4_6 : Int32) => LX3_setPlan_5 n x3_5 x4_6 σ_4))))
def XX3_setPlan (p1 : Int32) (σ : Sg) : Option Sg := LX3_setPlan_5 FUEL p1 (0 : Int32) σ
theorem lX3_setPlan_5 {ext : List Shp} {X : CT} {ad : Nat → Nat} {rr : Sg}   (C : Cx X cX3_setPlan 5 RX3 none { frames := 4, cells := 0, slots := 0, locals := 95 }) (R : Rv X cX3_setPlan ad (SHc ++ ext) rr)  : ∀ (n : Nat) (x3_1 : Int32) (x4_2 : Int32) (σ_3 : Sg), LX3_setPlan_5 n x3_1 x4_2 σ_3 = some rr → AW X 0 0 ad (SHc ++ ext) σ_3 5 [some (.ref 54), some (.ref 38), none, some (.int x3_1), some (.int x4_2)] [] := by
  intro n
  induction n with
  | zero =>
    intro x3_1 x4_2 σ_3 h
    rw [LX3_setPlan_5] at h
    cases h
  | succ n ih =>
    intro x3_1 x4_2 σ_3 h
    rw [LX3_setPlan_5] at h
    refine a_iload C eX3_setPlan_5 rfl ?_
    refine a_aload_n C eX3_setPlan_7 rfl ?_
    refine a_getR C eX3_setPlan_8 fX3_9 sh_54 rfl ?_
    refine a_getI C eX3_setPlan_11 fX3_34 sh_2 rfl ?_
    refine a_icmp_ge C eX3_setPlan_14 (fun hc => ?_) (fun hc => ?_)
    · replace h := it hc h
      exact rt_v R eX3_setPlan_52 h
    · replace h := ie hc h
      refine a_aload_n C eX3_setPlan_17 rfl ?_
      refine a_iload C eX3_setPlan_18 rfl ?_
      refine a_iload_n C eX3_setPlan_20 rfl ?_
      refine a_iconst C eX3_setPlan_21 (1 : Int32) c_iconst_1 ?_
      refine a_aload_n C eX3_setPlan_22 rfl ?_
      refine a_getR C eX3_setPlan_23 fX3_9 sh_54 rfl ?_
      refine a_getI C eX3_setPlan_26 fX3_20 sh_2 rfl ?_
      refine a_ishl C eX3_setPlan_29 ?_
      refine a_iconst C eX3_setPlan_30 (1 : Int32) c_iconst_1 ?_
      refine a_isub C eX3_setPlan_31 ?_
      refine a_iand C eX3_setPlan_32 ?_
      obtain ⟨σ_4, hq, h⟩ := b1_e h
      refine a_cVv2 C eX3_setPlan_33 wX3_56 ⟨Nat.le_of_ble_eq_true rfl, Nat.le_of_ble_eq_true rfl, rfl, rfl⟩ rfl sh_38 rfl (kX5_setVisits is_X5_38 hq) (Nat.le_of_ble_eq_true rfl) ?_
      refine a_iload_n C eX3_setPlan_36 rfl ?_
      refine a_aload_n C eX3_setPlan_37 rfl ?_
      refine a_getR C eX3_setPlan_38 fX3_9 sh_54 rfl ?_
      refine a_getI C eX3_setPlan_41 fX3_20 sh_2 rfl ?_
      refine a_iushr C eX3_setPlan_44 ?_
      refine a_lt h (fun x3_5 h => ?_)
      refine a_ist_n C eX3_setPlan_45 (Nat.le_of_ble_eq_true rfl) [some (.ref 54), some (.ref 38), none, some (.int x3_5), some (.int x4_2)] rfl ?_
      refine a_inc C eX3_setPlan_46 rfl c_iconst_1 h (fun z => [some (.ref 54), some (.ref 38), none, some (.int x3_5), some (.int z)]) (fun _ => rfl) (fun x4_6 h => ?_)
      refine a_goto C eX3_setPlan_49 ?_
      exact a_less (lle_same (lle_same (lle_same (lle_same (lle_same lle_nil))))) (ih _ _ _ h)
theorem kX3_setPlan {ext : List Shp} {p1 : Int32} {σ : Sg} {rr : Sg}  (h : XX3_setPlan p1 σ = some rr) : Cv MX3_setPlan [.ref 54, .ref 38, .int p1] (SHc ++ ext) σ rr := by
  refine Cv.start rfl rfl (Nat.le_of_ble_eq_true rfl) rfl ?_
  intro X ad C R
  replace C : Cx X cX3_setPlan 5 RX3 none { frames := 4, cells := 0, slots := 0, locals := 95 } := C
  replace R : Rv X cX3_setPlan ad (SHc ++ ext) rr := R
  show AW X 0 0 ad (SHc ++ ext) σ 0 [some (.ref 54), some (.ref 38), some (.int p1), none, none] []
  rw [XX3_setPlan] at h
  refine a_iload_n C eX3_setPlan_0 rfl ?_
  refine a_ist_n C eX3_setPlan_1 (Nat.le_of_ble_eq_true rfl) [some (.ref 54), some (.ref 38), some (.int p1), some (.int p1), none] rfl ?_
  refine a_iconst C eX3_setPlan_2 (0 : Int32) c_iconst_0 ?_
  refine a_ist C eX3_setPlan_3 (Nat.le_of_ble_eq_true rfl) [some (.ref 54), some (.ref 38), some (.int p1), some (.int p1), some (.int (0 : Int32))] rfl ?_
  exact a_less (lle_same (lle_same (lle_drop (lle_same (lle_same lle_nil))))) (lX3_setPlan_5  C R  _ _ _ _ h)
/-! ShelfDrives$Planner.isFewer(II)Z -/
def XX3_isFewer (p1 : Int32) (p2 : Int32) : Option Int32 := b1 (XJ6_bitCount_0f7a4 p1) (fun (r_1 : Int32) => b1 (XJ6_bitCount_0f7a4 p2) (fun (r_2 : Int32) => lt (r_1 - r_2) (fun (x2_3 : Int32) => lt (some (1 : Int32)) (fun (k23_4 : Option Int32) => if x2_3 < 0 then (k23_4) else (lt (some (0 : Int32)) (fun (k27_5 : Option Int32) => if x2_3 = 0 then (if p2 ≤ p1 then (k27_5) else (k23_4)) else (k27_5)))))))
theorem kX3_isFewer {ext : List Shp} {p1 : Int32} {p2 : Int32} {σ : Sg} {rr : Int32}  (h : XX3_isFewer p1 p2 = some rr) : Ci MX3_isFewer [.int p1, .int p2] (SHc ++ ext) σ (rr, σ) := by
  refine Ci.start rfl rfl (Nat.le_of_ble_eq_true rfl) ?_
  intro X ad C R
  replace C : Cx X cX3_isFewer 3 RX3 (some .boolean) { frames := 1, cells := 0, slots := 0, locals := 20 } := C
  replace R : Ri X cX3_isFewer (some .boolean) ad (SHc ++ ext) (rr, σ) := R
  show AW X 0 0 ad (SHc ++ ext) σ 0 [some (.int p1), some (.int p2), none] []
  rw [XX3_isFewer] at h
  refine a_iload_n C eX3_isFewer_0 rfl ?_
  obtain ⟨r_1, hq, h⟩ := b1_e h
  refine a_cSi1 C eX3_isFewer_1 wX3_87 ⟨Nat.le_of_ble_eq_true rfl, Nat.le_of_ble_eq_true rfl, rfl, rfl⟩ rfl (kJ6_bitCount_0f7a4 hq) (Nat.le_of_ble_eq_true rfl) ?_
  refine a_iload_n C eX3_isFewer_4 rfl ?_
  obtain ⟨r_2, hq, h⟩ := b1_e h
  refine a_cSi1 C eX3_isFewer_5 wX3_87 ⟨Nat.le_of_ble_eq_true rfl, Nat.le_of_ble_eq_true rfl, rfl, rfl⟩ rfl (kJ6_bitCount_0f7a4 hq) (Nat.le_of_ble_eq_true rfl) ?_
  refine a_isub C eX3_isFewer_8 ?_
  refine a_lt h (fun x2_3 h => ?_)
  refine a_ist_n C eX3_isFewer_9 (Nat.le_of_ble_eq_true rfl) [some (.int p1), some (.int p2), some (.int x2_3)] rfl ?_
  refine a_iload_n C eX3_isFewer_10 rfl ?_
  refine jn (fun (kk : Option Int32) => kk = some rr → AW X 0 0 ad (SHc ++ ext) σ 23 [none, none, none] []) h ?_ (fun k23_4 hk23_4 h => ?_)
  · intro h
    refine a_iconst C eX3_isFewer_23 (1 : Int32) c_iconst_1 ?_
    refine a_goto C eX3_isFewer_24 ?_
    exact rt_p R eX3_isFewer_28 h nb_1
  refine a_if_lt C eX3_isFewer_11 (fun hc => ?_) (fun hc => ?_)
  · replace h := it hc h
    exact a_less (lle_drop (lle_drop (lle_drop lle_nil))) (hk23_4 h)
  · replace h := ie hc h
    refine a_iload_n C eX3_isFewer_14 rfl ?_
    refine jn (fun (kk : Option Int32) => kk = some rr → AW X 0 0 ad (SHc ++ ext) σ 27 [none, none, none] []) h ?_ (fun k27_5 hk27_5 h => ?_)
    · intro h
      refine a_iconst C eX3_isFewer_27 (0 : Int32) c_iconst_0 ?_
      exact rt_p R eX3_isFewer_28 h nb_0
    refine a_if_ne C eX3_isFewer_15 (fun hc => ?_) (fun hc => ?_)
    · replace h := ie hc h
      exact a_less (lle_drop (lle_drop (lle_drop lle_nil))) (hk27_5 h)
    · replace h := it hc h
      refine a_iload_n C eX3_isFewer_18 rfl ?_
      refine a_iload_n C eX3_isFewer_19 rfl ?_
      refine a_icmp_ge C eX3_isFewer_20 (fun hc => ?_) (fun hc => ?_)
      · replace h := it hc h
        exact a_less (lle_drop (lle_drop (lle_drop lle_nil))) (hk27_5 h)
      · replace h := ie hc h
        exact a_less (lle_drop (lle_drop (lle_drop lle_nil))) (hk23_4 h)
/-! ShelfDrives$Planner.planBehind(II)I -/
def LX3_planBehind_8 : Nat → Int32 → Int32 → Option Int32
  | 0, _, _ => none
  | n + 1, x2_2, x3_3 => if x3_3 ≤ 0 then (some x2_2) else (lt (x2_2 ^^^ x3_3) (fun (x2_4 : Int32) => if (x2_4 &&& x3_3) = 0 then (lt (x3_3 >>> ((1 : Int32) &&& 31)) (fun (x3_5 : Int32) => LX3_planBehind_8 n x2_4 x3_5)) else (some x2_4)))
def XX3_planBehind (p1 : Int32) (p2 : Int32) : Option Int32 := lt (((1 : Int32) <<< (p2 &&& 31)) >>> ((1 : Int32) &&& 31)) (fun (x3_1 : Int32) => LX3_planBehind_8 FUEL p1 x3_1)
theorem lX3_planBehind_8 {ext : List Shp} {X : CT} {ad : Nat → Nat} {rr : Int32} {σ : Sg}  (C : Cx X cX3_planBehind 4 RX3 (some .int) { frames := 0, cells := 0, slots := 0, locals := 0 }) (R : Ri X cX3_planBehind (some .int) ad (SHc ++ ext) (rr, σ))  : ∀ (n : Nat) (x2_2 : Int32) (x3_3 : Int32), LX3_planBehind_8 n x2_2 x3_3 = some rr → AW X 0 0 ad (SHc ++ ext) σ 8 [none, none, some (.int x2_2), some (.int x3_3)] [] := by
  intro n
  induction n with
  | zero =>
    intro x2_2 x3_3 h
    rw [LX3_planBehind_8] at h
    cases h
  | succ n ih =>
    intro x2_2 x3_3 h
    rw [LX3_planBehind_8] at h
    refine a_iload_n C eX3_planBehind_8 rfl ?_
    refine a_if_le C eX3_planBehind_9 (fun hc => ?_) (fun hc => ?_)
    · replace h := it hc h
      refine a_iload_n C eX3_planBehind_31 rfl ?_
      exact rt_p R eX3_planBehind_32 h nb_int
    · replace h := ie hc h
      refine a_iload_n C eX3_planBehind_12 rfl ?_
      refine a_iload_n C eX3_planBehind_13 rfl ?_
      refine a_ixor C eX3_planBehind_14 ?_
      refine a_lt h (fun x2_4 h => ?_)
      refine a_ist_n C eX3_planBehind_15 (Nat.le_of_ble_eq_true rfl) [none, none, some (.int x2_4), some (.int x3_3)] rfl ?_
      refine a_iload_n C eX3_planBehind_16 rfl ?_
      refine a_iload_n C eX3_planBehind_17 rfl ?_
      refine a_iand C eX3_planBehind_18 ?_
      refine a_if_eq C eX3_planBehind_19 (fun hc => ?_) (fun hc => ?_)
      · replace h := it hc h
        refine a_iload_n C eX3_planBehind_24 rfl ?_
        refine a_iconst C eX3_planBehind_25 (1 : Int32) c_iconst_1 ?_
        refine a_ishr C eX3_planBehind_26 ?_
        refine a_lt h (fun x3_5 h => ?_)
        refine a_ist_n C eX3_planBehind_27 (Nat.le_of_ble_eq_true rfl) [none, none, some (.int x2_4), some (.int x3_5)] rfl ?_
        refine a_goto C eX3_planBehind_28 ?_
        exact a_less (lle_same (lle_same (lle_same (lle_same lle_nil)))) (ih _ _ h)
      · replace h := ie hc h
        refine a_iload_n C eX3_planBehind_22 rfl ?_
        exact rt_p R eX3_planBehind_23 h nb_int
theorem kX3_planBehind {ext : List Shp} {p1 : Int32} {p2 : Int32} {σ : Sg} {rr : Int32}  (h : XX3_planBehind p1 p2 = some rr) : Ci MX3_planBehind [.int p1, .int p2] (SHc ++ ext) σ (rr, σ) := by
  refine Ci.start rfl rfl (Nat.le_of_ble_eq_true rfl) ?_
  intro X ad C R
  replace C : Cx X cX3_planBehind 4 RX3 (some .int) { frames := 0, cells := 0, slots := 0, locals := 0 } := C
  replace R : Ri X cX3_planBehind (some .int) ad (SHc ++ ext) (rr, σ) := R
  show AW X 0 0 ad (SHc ++ ext) σ 0 [some (.int p1), some (.int p2), none, none] []
  rw [XX3_planBehind] at h
  refine a_iload_n C eX3_planBehind_0 rfl ?_
  refine a_ist_n C eX3_planBehind_1 (Nat.le_of_ble_eq_true rfl) [some (.int p1), some (.int p2), some (.int p1), none] rfl ?_
  refine a_iconst C eX3_planBehind_2 (1 : Int32) c_iconst_1 ?_
  refine a_iload_n C eX3_planBehind_3 rfl ?_
  refine a_ishl C eX3_planBehind_4 ?_
  refine a_iconst C eX3_planBehind_5 (1 : Int32) c_iconst_1 ?_
  refine a_ishr C eX3_planBehind_6 ?_
  refine a_lt h (fun x3_1 h => ?_)
  refine a_ist_n C eX3_planBehind_7 (Nat.le_of_ble_eq_true rfl) [some (.int p1), some (.int p2), some (.int p1), some (.int x3_1)] rfl ?_
  exact a_less (lle_drop (lle_drop (lle_same (lle_same lle_nil)))) (lX3_planBehind_8  C R  _ _ _ h)
/-! ShelfDrives$Planner.takeLeastPlan(LShelfDrives$Run;)V -/
def LX3_takeLeastPlan_35 (x2_1 : Int32) (k94_5 : Int32 → Sg → Option Sg) : Nat → Int32 → Int32 → Int32 → Int32 → Sg → Option Sg
  | 0, _, _, _, _, _ => none
  | n + 1, x3_7, x4_8, x5_9, x6_10, σ_11 => if x6_10 ≤ 0 then (k94_5 x4_8 σ_11) else (b1 (XX3_setPlan x3_7 σ_11) (fun (σ_12 : Sg) => b2 (XX5_wholeCost 38 σ_12) (fun (r_13 : Int32) (σ_14 : Sg) => lt (fun (x4_15 : Int32) (x5_16 : Int32) => b1 (XX3_planBehind x3_7 x2_1) (fun (r_18 : Int32) => lt (x6_10 + (-1 : Int32)) (fun (x6_19 : Int32) => LX3_takeLeastPlan_35 x2_1 k94_5 n r_18 x4_15 x5_16 x6_19 σ_14))) (fun (k82_17 : Int32 → Int32 → Option Sg) => lt (k82_17 x3_7 r_13) (fun (k75_20 : Option Sg) => if r_13 < x5_9 then (k75_20) else (if r_13 = x5_9 then (b1 (XX3_isFewer x3_7 x4_8) (fun (r_21 : Int32) => if r_21 = 0 then (k82_17 x4_8 x5_9) else (k75_20))) else (k82_17 x4_8 x5_9)))))))
def XX3_takeLeastPlan (σ : Sg) : Option Sg := lt (if (14 : Int32) < ((σ 2 6) * (σ 2 0)) then (14 : Int32) else ((σ 2 6) * (σ 2 0))) (fun (x2_1 : Int32) => lt ((1 : Int32) <<< (x2_1 &&& 31)) (fun (x6_2 : Int32) => lt (fun (x4_3 : Int32) (σ_4 : Sg) => b1 (XX3_setPlan x4_3 σ_4) (fun (σ_6 : Sg) => some σ_6)) (fun (k94_5 : Int32 → Sg → Option Sg) => LX3_takeLeastPlan_35 x2_1 k94_5 FUEL (0 : Int32) (0 : Int32) (1000000000 : Int32) x6_2 σ)))
theorem lX3_takeLeastPlan_35 {ext : List Shp} {X : CT} {ad : Nat → Nat} {rr : Sg} {x2_1 : Int32} {k94_5 : Int32 → Sg → Option Sg}  (C : Cx X cX3_takeLeastPlan 8 RX3 none { frames := 5, cells := 0, slots := 0, locals := 119 }) (R : Rv X cX3_takeLeastPlan ad (SHc ++ ext) rr) (hk94_5 : ∀ (x4_3 : Int32) (σ_4 : Sg), k94_5 x4_3 σ_4 = some rr → AW X 0 0 ad (SHc ++ ext) σ_4 94 [some (.ref 54), some (.ref 38), none, none, some (.int x4_3), none, none, none] []) : ∀ (n : Nat) (x3_7 : Int32) (x4_8 : Int32) (x5_9 : Int32) (x6_10 : Int32) (σ_11 : Sg), LX3_takeLeastPlan_35 x2_1 k94_5 n x3_7 x4_8 x5_9 x6_10 σ_11 = some rr → AW X 0 0 ad (SHc ++ ext) σ_11 35 [some (.ref 54), some (.ref 38), some (.int x2_1), some (.int x3_7), some (.int x4_8), some (.int x5_9), some (.int x6_10), none] [] := by
  intro n
  induction n with
  | zero =>
    intro x3_7 x4_8 x5_9 x6_10 σ_11 h
    rw [LX3_takeLeastPlan_35] at h
    cases h
  | succ n ih =>
    intro x3_7 x4_8 x5_9 x6_10 σ_11 h
    rw [LX3_takeLeastPlan_35] at h
    refine a_iload C eX3_takeLeastPlan_35 rfl ?_
    refine a_if_le C eX3_takeLeastPlan_37 (fun hc => ?_) (fun hc => ?_)
    · replace h := it hc h
      exact a_less (lle_same (lle_same (lle_drop (lle_drop (lle_same (lle_drop (lle_drop (lle_same lle_nil)))))))) (hk94_5 _ _ h)
    · replace h := ie hc h
      refine a_aload_n C eX3_takeLeastPlan_40 rfl ?_
      refine a_aload_n C eX3_takeLeastPlan_41 rfl ?_
      refine a_iload_n C eX3_takeLeastPlan_42 rfl ?_
      obtain ⟨σ_12, hq, h⟩ := b1_e h
      refine a_cVv2 C eX3_takeLeastPlan_43 wX3_77 ⟨Nat.le_of_ble_eq_true rfl, Nat.le_of_ble_eq_true rfl, rfl, rfl⟩ rfl sh_54 rfl (kX3_setPlan hq) (Nat.le_of_ble_eq_true rfl) ?_
      refine a_aload_n C eX3_takeLeastPlan_46 rfl ?_
      obtain ⟨r_13, σ_14, hq, h⟩ := b2_e h
      refine a_cVi0 C eX3_takeLeastPlan_47 wX3_60 ⟨Nat.le_of_ble_eq_true rfl, Nat.le_of_ble_eq_true rfl, rfl, rfl⟩ rfl sh_38 rfl (kX5_wholeCost is_X5_38 hq) (Nat.le_of_ble_eq_true rfl) ?_
      refine a_ist C eX3_takeLeastPlan_50 (Nat.le_of_ble_eq_true rfl) [some (.ref 54), some (.ref 38), some (.int x2_1), some (.int x3_7), some (.int x4_8), some (.int x5_9), some (.int x6_10), some (.int r_13)] rfl ?_
      refine a_iload C eX3_takeLeastPlan_52 rfl ?_
      refine a_iload C eX3_takeLeastPlan_54 rfl ?_
      refine jn (fun (kk : Int32 → Int32 → Option Sg) => ∀ (x4_15 : Int32) (x5_16 : Int32), kk x4_15 x5_16 = some rr → AW X 0 0 ad (SHc ++ ext) σ_14 82 [some (.ref 54), some (.ref 38), some (.int x2_1), some (.int x3_7), some (.int x4_15), some (.int x5_16), some (.int x6_10), none] []) h ?_ (fun k82_17 hk82_17 h => ?_)
      · intro x4_15 x5_16 h
        refine a_iload_n C eX3_takeLeastPlan_82 rfl ?_
        refine a_iload_n C eX3_takeLeastPlan_83 rfl ?_
        obtain ⟨r_18, hq, h⟩ := b1_e h
        refine a_cSi2 C eX3_takeLeastPlan_84 wX3_84 ⟨Nat.le_of_ble_eq_true rfl, Nat.le_of_ble_eq_true rfl, rfl, rfl⟩ rfl (kX3_planBehind hq) (Nat.le_of_ble_eq_true rfl) ?_
        refine a_ist_n C eX3_takeLeastPlan_87 (Nat.le_of_ble_eq_true rfl) [some (.ref 54), some (.ref 38), some (.int x2_1), some (.int r_18), some (.int x4_15), some (.int x5_16), some (.int x6_10), none] rfl ?_
        refine a_inc C eX3_takeLeastPlan_88 rfl c_iconst_m1 h (fun z => [some (.ref 54), some (.ref 38), some (.int x2_1), some (.int r_18), some (.int x4_15), some (.int x5_16), some (.int z), none]) (fun _ => rfl) (fun x6_19 h => ?_)
        refine a_goto C eX3_takeLeastPlan_91 ?_
        exact a_less (lle_same (lle_same (lle_same (lle_same (lle_same (lle_same (lle_same (lle_same lle_nil)))))))) (ih _ _ _ _ _ h)
      refine jn (fun (kk : Option Sg) => kk = some rr → AW X 0 0 ad (SHc ++ ext) σ_14 75 [some (.ref 54), some (.ref 38), some (.int x2_1), some (.int x3_7), none, none, some (.int x6_10), some (.int r_13)] []) h ?_ (fun k75_20 hk75_20 h => ?_)
      · intro h
        refine a_iload_n C eX3_takeLeastPlan_75 rfl ?_
        refine a_ist C eX3_takeLeastPlan_76 (Nat.le_of_ble_eq_true rfl) [some (.ref 54), some (.ref 38), some (.int x2_1), some (.int x3_7), some (.int x3_7), none, some (.int x6_10), some (.int r_13)] rfl ?_
        refine a_iload C eX3_takeLeastPlan_78 rfl ?_
        refine a_ist C eX3_takeLeastPlan_80 (Nat.le_of_ble_eq_true rfl) [some (.ref 54), some (.ref 38), some (.int x2_1), some (.int x3_7), some (.int x3_7), some (.int r_13), some (.int x6_10), some (.int r_13)] rfl ?_
        exact a_less (lle_same (lle_same (lle_same (lle_same (lle_same (lle_same (lle_same (lle_drop lle_nil)))))))) (hk82_17 _ _ h)
      refine a_icmp_lt C eX3_takeLeastPlan_56 (fun hc => ?_) (fun hc => ?_)
      · replace h := it hc h
        exact a_less (lle_same (lle_same (lle_same (lle_same (lle_drop (lle_drop (lle_same (lle_same lle_nil)))))))) (hk75_20 h)
      · replace h := ie hc h
        refine a_iload C eX3_takeLeastPlan_59 rfl ?_
        refine a_iload C eX3_takeLeastPlan_61 rfl ?_
        refine a_icmp_ne C eX3_takeLeastPlan_63 (fun hc => ?_) (fun hc => ?_)
        · replace h := ie hc h
          exact a_less (lle_same (lle_same (lle_same (lle_same (lle_same (lle_same (lle_same (lle_drop lle_nil)))))))) (hk82_17 _ _ h)
        · replace h := it hc h
          refine a_iload_n C eX3_takeLeastPlan_66 rfl ?_
          refine a_iload C eX3_takeLeastPlan_67 rfl ?_
          obtain ⟨r_21, hq, h⟩ := b1_e h
          refine a_cSi2 C eX3_takeLeastPlan_69 wX3_81 ⟨Nat.le_of_ble_eq_true rfl, Nat.le_of_ble_eq_true rfl, rfl, rfl⟩ rfl (kX3_isFewer hq) (Nat.le_of_ble_eq_true rfl) ?_
          refine a_if_eq C eX3_takeLeastPlan_72 (fun hc => ?_) (fun hc => ?_)
          · replace h := it hc h
            exact a_less (lle_same (lle_same (lle_same (lle_same (lle_same (lle_same (lle_same (lle_drop lle_nil)))))))) (hk82_17 _ _ h)
          · replace h := ie hc h
            exact a_less (lle_same (lle_same (lle_same (lle_same (lle_drop (lle_drop (lle_same (lle_same lle_nil)))))))) (hk75_20 h)
theorem kX3_takeLeastPlan {ext : List Shp} {σ : Sg} {rr : Sg}  (h : XX3_takeLeastPlan σ = some rr) : Cv MX3_takeLeastPlan [.ref 54, .ref 38] (SHc ++ ext) σ rr := by
  refine Cv.start rfl rfl (Nat.le_of_ble_eq_true rfl) rfl ?_
  intro X ad C R
  replace C : Cx X cX3_takeLeastPlan 8 RX3 none { frames := 5, cells := 0, slots := 0, locals := 119 } := C
  replace R : Rv X cX3_takeLeastPlan ad (SHc ++ ext) rr := R
  show AW X 0 0 ad (SHc ++ ext) σ 0 [some (.ref 54), some (.ref 38), none, none, none, none, none, none] []
  rw [XX3_takeLeastPlan] at h
  refine a_aload_n C eX3_takeLeastPlan_0 rfl ?_
  refine a_getR C eX3_takeLeastPlan_1 fX3_9 sh_54 rfl ?_
  refine a_getI C eX3_takeLeastPlan_4 fX3_34 sh_2 rfl ?_
  refine a_aload_n C eX3_takeLeastPlan_7 rfl ?_
  refine a_getR C eX3_takeLeastPlan_8 fX3_9 sh_54 rfl ?_
  refine a_getI C eX3_takeLeastPlan_11 fX3_20 sh_2 rfl ?_
  refine a_imul C eX3_takeLeastPlan_14 ?_
  refine a_bipush C eX3_takeLeastPlan_15 (14 : Int32) c_bipush_14 ?_
  refine a_min C eX3_takeLeastPlan_17 wX3_48 ⟨Nat.le_of_ble_eq_true rfl, Nat.le_of_ble_eq_true rfl⟩ rfl (Nat.le_of_ble_eq_true rfl) ?_
  refine a_lt h (fun x2_1 h => ?_)
  refine a_ist_n C eX3_takeLeastPlan_20 (Nat.le_of_ble_eq_true rfl) [some (.ref 54), some (.ref 38), some (.int x2_1), none, none, none, none, none] rfl ?_
  refine a_iconst C eX3_takeLeastPlan_21 (0 : Int32) c_iconst_0 ?_
  refine a_ist_n C eX3_takeLeastPlan_22 (Nat.le_of_ble_eq_true rfl) [some (.ref 54), some (.ref 38), some (.int x2_1), some (.int (0 : Int32)), none, none, none, none] rfl ?_
  refine a_iconst C eX3_takeLeastPlan_23 (0 : Int32) c_iconst_0 ?_
  refine a_ist C eX3_takeLeastPlan_24 (Nat.le_of_ble_eq_true rfl) [some (.ref 54), some (.ref 38), some (.int x2_1), some (.int (0 : Int32)), some (.int (0 : Int32)), none, none, none] rfl ?_
  refine a_ldc C eX3_takeLeastPlan_26 (1000000000 : Int32) wkX3_76 ?_
  refine a_ist C eX3_takeLeastPlan_28 (Nat.le_of_ble_eq_true rfl) [some (.ref 54), some (.ref 38), some (.int x2_1), some (.int (0 : Int32)), some (.int (0 : Int32)), some (.int (1000000000 : Int32)), none, none] rfl ?_
  refine a_iconst C eX3_takeLeastPlan_30 (1 : Int32) c_iconst_1 ?_
  refine a_iload_n C eX3_takeLeastPlan_31 rfl ?_
  refine a_ishl C eX3_takeLeastPlan_32 ?_
  refine a_lt h (fun x6_2 h => ?_)
  refine a_ist C eX3_takeLeastPlan_33 (Nat.le_of_ble_eq_true rfl) [some (.ref 54), some (.ref 38), some (.int x2_1), some (.int (0 : Int32)), some (.int (0 : Int32)), some (.int (1000000000 : Int32)), some (.int x6_2), none] rfl ?_
  refine jn (fun (kk : Int32 → Sg → Option Sg) => ∀ (x4_3 : Int32) (σ_4 : Sg), kk x4_3 σ_4 = some rr → AW X 0 0 ad (SHc ++ ext) σ_4 94 [some (.ref 54), some (.ref 38), none, none, some (.int x4_3), none, none, none] []) h ?_ (fun k94_5 hk94_5 h => ?_)
  · intro x4_3 σ_4 h
    refine a_aload_n C eX3_takeLeastPlan_94 rfl ?_
    refine a_aload_n C eX3_takeLeastPlan_95 rfl ?_
    refine a_iload C eX3_takeLeastPlan_96 rfl ?_
    obtain ⟨σ_6, hq, h⟩ := b1_e h
    refine a_cVv2 C eX3_takeLeastPlan_98 wX3_77 ⟨Nat.le_of_ble_eq_true rfl, Nat.le_of_ble_eq_true rfl, rfl, rfl⟩ rfl sh_54 rfl (kX3_setPlan hq) (Nat.le_of_ble_eq_true rfl) ?_
    exact rt_v R eX3_takeLeastPlan_101 h
  exact a_less (lle_same (lle_same (lle_same (lle_same (lle_same (lle_same (lle_same (lle_same lle_nil)))))))) (lX3_takeLeastPlan_35  C R hk94_5 _ _ _ _ _ _ h)
/-! ShelfDrives$Planner.daysBy(II)I -/
def LX3_daysBy_12 (x4_1 : Int32) (σ : Sg) : Nat → Int32 → Int32 → Option Int32
  | 0, _, _ => none
  | n + 1, x3_2, x5_3 => if (σ 2 0) ≤ x5_3 then (some x3_2) else (lt (x3_2 ||| ((1 : Int32) <<< (x5_3 &&& 31))) (fun (x3_4 : Int32) => lt (x5_3 + x4_1) (fun (x5_5 : Int32) => LX3_daysBy_12 x4_1 σ n x3_4 x5_5)))
def XX3_daysBy (p1 : Int32) (p2 : Int32) (σ : Sg) : Option Int32 := lt (if (1 : Int32) < p1 then p1 else (1 : Int32)) (fun (x4_1 : Int32) => LX3_daysBy_12 x4_1 σ FUEL (0 : Int32) p2)
theorem lX3_daysBy_12 {ext : List Shp} {X : CT} {ad : Nat → Nat} {rr : Int32} {x4_1 : Int32} {σ : Sg}  (C : Cx X cX3_daysBy 6 RX3 (some .int) { frames := 1, cells := 0, slots := 0, locals := 21 }) (R : Ri X cX3_daysBy (some .int) ad (SHc ++ ext) (rr, σ))  : ∀ (n : Nat) (x3_2 : Int32) (x5_3 : Int32), LX3_daysBy_12 x4_1 σ n x3_2 x5_3 = some rr → AW X 0 0 ad (SHc ++ ext) σ 12 [some (.ref 54), none, none, some (.int x3_2), some (.int x4_1), some (.int x5_3)] [] := by
  intro n
  induction n with
  | zero =>
    intro x3_2 x5_3 h
    rw [LX3_daysBy_12] at h
    cases h
  | succ n ih =>
    intro x3_2 x5_3 h
    rw [LX3_daysBy_12] at h
    refine a_iload C eX3_daysBy_12 rfl ?_
    refine a_aload_n C eX3_daysBy_14 rfl ?_
    refine a_getR C eX3_daysBy_15 fX3_9 sh_54 rfl ?_
    refine a_getI C eX3_daysBy_18 fX3_20 sh_2 rfl ?_
    refine a_icmp_ge C eX3_daysBy_21 (fun hc => ?_) (fun hc => ?_)
    · replace h := it hc h
      refine a_iload_n C eX3_daysBy_41 rfl ?_
      exact rt_p R eX3_daysBy_42 h nb_int
    · replace h := ie hc h
      refine a_iload_n C eX3_daysBy_24 rfl ?_
      refine a_iconst C eX3_daysBy_25 (1 : Int32) c_iconst_1 ?_
      refine a_iload C eX3_daysBy_26 rfl ?_
      refine a_ishl C eX3_daysBy_28 ?_
      refine a_ior C eX3_daysBy_29 ?_
      refine a_lt h (fun x3_4 h => ?_)
      refine a_ist_n C eX3_daysBy_30 (Nat.le_of_ble_eq_true rfl) [some (.ref 54), none, none, some (.int x3_4), some (.int x4_1), some (.int x5_3)] rfl ?_
      refine a_iload C eX3_daysBy_31 rfl ?_
      refine a_iload C eX3_daysBy_33 rfl ?_
      refine a_iadd C eX3_daysBy_35 ?_
      refine a_lt h (fun x5_5 h => ?_)
      refine a_ist C eX3_daysBy_36 (Nat.le_of_ble_eq_true rfl) [some (.ref 54), none, none, some (.int x3_4), some (.int x4_1), some (.int x5_5)] rfl ?_
      refine a_goto C eX3_daysBy_38 ?_
      exact a_less (lle_same (lle_same (lle_same (lle_same (lle_same (lle_same lle_nil)))))) (ih _ _ h)
theorem kX3_daysBy {ext : List Shp} {p1 : Int32} {p2 : Int32} {σ : Sg} {rr : Int32}  (h : XX3_daysBy p1 p2 σ = some rr) : Ci MX3_daysBy [.ref 54, .int p1, .int p2] (SHc ++ ext) σ (rr, σ) := by
  refine Ci.start rfl rfl (Nat.le_of_ble_eq_true rfl) ?_
  intro X ad C R
  replace C : Cx X cX3_daysBy 6 RX3 (some .int) { frames := 1, cells := 0, slots := 0, locals := 21 } := C
  replace R : Ri X cX3_daysBy (some .int) ad (SHc ++ ext) (rr, σ) := R
  show AW X 0 0 ad (SHc ++ ext) σ 0 [some (.ref 54), some (.int p1), some (.int p2), none, none, none] []
  rw [XX3_daysBy] at h
  refine a_iconst C eX3_daysBy_0 (0 : Int32) c_iconst_0 ?_
  refine a_ist_n C eX3_daysBy_1 (Nat.le_of_ble_eq_true rfl) [some (.ref 54), some (.int p1), some (.int p2), some (.int (0 : Int32)), none, none] rfl ?_
  refine a_iconst C eX3_daysBy_2 (1 : Int32) c_iconst_1 ?_
  refine a_iload_n C eX3_daysBy_3 rfl ?_
  refine a_max C eX3_daysBy_4 wX3_108 ⟨Nat.le_of_ble_eq_true rfl, Nat.le_of_ble_eq_true rfl⟩ rfl (Nat.le_of_ble_eq_true rfl) ?_
  refine a_lt h (fun x4_1 h => ?_)
  refine a_ist C eX3_daysBy_7 (Nat.le_of_ble_eq_true rfl) [some (.ref 54), some (.int p1), some (.int p2), some (.int (0 : Int32)), some (.int x4_1), none] rfl ?_
  refine a_iload_n C eX3_daysBy_9 rfl ?_
  refine a_ist C eX3_daysBy_10 (Nat.le_of_ble_eq_true rfl) [some (.ref 54), some (.int p1), some (.int p2), some (.int (0 : Int32)), some (.int x4_1), some (.int p2)] rfl ?_
  exact a_less (lle_same (lle_drop (lle_drop (lle_same (lle_same (lle_same lle_nil)))))) (lX3_daysBy_12  C R  _ _ _ h)
/-! ShelfDrives$Run.sumOf([II)I -/
def LX5_sumOf_5 (a : Nat) (p1 : Int32) (σ : Sg) : Nat → Int32 → Int32 → Option Int32
  | 0, _, _ => none
  | n + 1, x3_1, x4_2 => if (σ 2 0) ≤ x4_2 then (some x3_1) else (b1 (XX9_cellOf p1 x4_2) (fun (r_3 : Int32) => if ib r_3 84 then lt (x3_1 + (σ a r_3.toNatClampNeg)) (fun (x3_5 : Int32) => lt (x4_2 + (1 : Int32)) (fun (x4_6 : Int32) => LX5_sumOf_5 a p1 σ n x3_5 x4_6)) else none))
def XX5_sumOf (k : Nat) (a : Nat) (p1 : Int32) (σ : Sg) : Option Int32 := LX5_sumOf_5 a p1 σ FUEL (0 : Int32) (0 : Int32)
theorem lX5_sumOf_5 {ext : List Shp} {X : CT} {ad : Nat → Nat} {rr : Int32} {k : Nat} {a : Nat} {p1 : Int32} {σ : Sg} (hk : is_X5 (SHc ++ ext) k) (ha : (SHc ++ ext)[a]? = some (.inl 84)) (C : Cx X cX5_sumOf 5 RX5 (some .int) { frames := 1, cells := 0, slots := 0, locals := 21 }) (R : Ri X cX5_sumOf (some .int) ad (SHc ++ ext) (rr, σ))  : ∀ (n : Nat) (x3_1 : Int32) (x4_2 : Int32), LX5_sumOf_5 a p1 σ n x3_1 x4_2 = some rr → AW X 0 0 ad (SHc ++ ext) σ 5 [some (.ref k), some (.ref a), some (.int p1), some (.int x3_1), some (.int x4_2)] [] := by
  intro n
  induction n with
  | zero =>
    intro x3_1 x4_2 h
    rw [LX5_sumOf_5] at h
    cases h
  | succ n ih =>
    intro x3_1 x4_2 h
    rw [LX5_sumOf_5] at h
    refine a_iload C eX5_sumOf_5 rfl ?_
    refine a_aload_n C eX5_sumOf_7 rfl ?_
    refine a_getR C eX5_sumOf_8 fX5_33 hk.1 rfl ?_
    refine a_getI C eX5_sumOf_11 fX5_84 sh_2 rfl ?_
    refine a_icmp_ge C eX5_sumOf_14 (fun hc => ?_) (fun hc => ?_)
    · replace h := it hc h
      refine a_iload_n C eX5_sumOf_34 rfl ?_
      exact rt_p R eX5_sumOf_35 h nb_int
    · replace h := ie hc h
      refine a_iload_n C eX5_sumOf_17 rfl ?_
      refine a_aload_n C eX5_sumOf_18 rfl ?_
      refine a_iload_n C eX5_sumOf_19 rfl ?_
      refine a_iload C eX5_sumOf_20 rfl ?_
      obtain ⟨r_3, hq, h⟩ := b1_e h
      refine a_cNi2 C eX5_sumOf_22 wX5_87 ⟨Nat.le_of_ble_eq_true rfl, Nat.le_of_ble_eq_true rfl, rfl, rfl⟩ rfl (kX9_cellOf hq) (Nat.le_of_ble_eq_true rfl) ?_
      obtain ⟨hb_4, h⟩ := gd h
      refine a_iald C eX5_sumOf_25 ha hb_4 ?_
      refine a_iadd C eX5_sumOf_26 ?_
      refine a_lt h (fun x3_5 h => ?_)
      refine a_ist_n C eX5_sumOf_27 (Nat.le_of_ble_eq_true rfl) [some (.ref k), some (.ref a), some (.int p1), some (.int x3_5), some (.int x4_2)] rfl ?_
      refine a_inc C eX5_sumOf_28 rfl c_iconst_1 h (fun z => [some (.ref k), some (.ref a), some (.int p1), some (.int x3_5), some (.int z)]) (fun _ => rfl) (fun x4_6 h => ?_)
      refine a_goto C eX5_sumOf_31 ?_
      exact a_less (lle_same (lle_same (lle_same (lle_same (lle_same lle_nil))))) (ih _ _ h)
theorem kX5_sumOf {ext : List Shp} {k : Nat} {a : Nat} {p1 : Int32} {σ : Sg} {rr : Int32} (hk : is_X5 (SHc ++ ext) k) (ha : (SHc ++ ext)[a]? = some (.inl 84)) (h : XX5_sumOf k a p1 σ = some rr) : Ci MX5_sumOf [.ref k, .ref a, .int p1] (SHc ++ ext) σ (rr, σ) := by
  refine Ci.start rfl rfl (Nat.le_of_ble_eq_true rfl) ?_
  intro X ad C R
  replace C : Cx X cX5_sumOf 5 RX5 (some .int) { frames := 1, cells := 0, slots := 0, locals := 21 } := C
  replace R : Ri X cX5_sumOf (some .int) ad (SHc ++ ext) (rr, σ) := R
  show AW X 0 0 ad (SHc ++ ext) σ 0 [some (.ref k), some (.ref a), some (.int p1), none, none] []
  rw [XX5_sumOf] at h
  refine a_iconst C eX5_sumOf_0 (0 : Int32) c_iconst_0 ?_
  refine a_ist_n C eX5_sumOf_1 (Nat.le_of_ble_eq_true rfl) [some (.ref k), some (.ref a), some (.int p1), some (.int (0 : Int32)), none] rfl ?_
  refine a_iconst C eX5_sumOf_2 (0 : Int32) c_iconst_0 ?_
  refine a_ist C eX5_sumOf_3 (Nat.le_of_ble_eq_true rfl) [some (.ref k), some (.ref a), some (.int p1), some (.int (0 : Int32)), some (.int (0 : Int32))] rfl ?_
  exact a_less (lle_same (lle_same (lle_same (lle_same (lle_same lle_nil))))) (lX5_sumOf_5 hk ha C R  _ _ _ h)
