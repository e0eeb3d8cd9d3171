theorem shR_10 : (Sk 25 [(0, .inr (9, [some (some 1), none, some (some 2), some none, some none, some none, some none, some none, some none, some none, some none, some none, some none]))])[10]? = some (.inr (4, [some (some 11), none, none, some (some 19), some (some 20), some (some 21), some (some 22), none, none, none, none, none, none, some (some 23), some (some 24)])) := by decide +kernel
theorem shR_19 : (Sk 25 [(0, .inr (9, [some (some 1), none, some (some 2), some none, some none, some none, some none, some none, some none, some none, some none, some none, some none]))])[19]? = some (.inl 13) := by decide +kernel
def LX4_init_82 : Nat → Int32 → Int32 → Int32 → Sg → Option Sg
  | 0, _, _, _, _ => none
  | n + 1, x1_1, x2_2, x3_3, σ_4 => if (69 : Int32) ≤ x3_3 then (some σ_4) else (if (13 : Int32) ≤ x1_1 then (some σ_4) else (if ib x3_3 69 then lt (chS x3_3.toNatClampNeg) (fun (x4_6 : Int32) => lt (fun (x1_7 : Int32) (x2_8 : Int32) (σ_9 : Sg) => lt (x3_3 + (1 : Int32)) (fun (x3_11 : Int32) => LX4_init_82 n x1_7 x2_8 x3_11 σ_9)) (fun (k134_10 : Int32 → Int32 → Sg → Option Sg) => if x4_6 = (32 : Int32) then (if ib x1_1 13 then lt (up σ_4 19 x1_1.toNatClampNeg x2_2) (fun (σ_13 : Sg) => lt (x1_1 + (1 : Int32)) (fun (x1_15 : Int32) => k134_10 x1_15 (0 : Int32) σ_13)) else none) else (b1 (XX4_withLetter x2_2 x4_6) (fun (r_12 : Int32) => k134_10 x1_1 r_12 σ_4)))) else none))
theorem lX4_init_82 {ad0 : Nat → Nat} {fv : Value} {X : CT} {ad : Nat → Nat} {rr : Sg}  (E : StrX X ad fv) (hag : agr 11 (Sk 25 [(0, .inr (9, [some (some 1), none, some (some 2), some none, some none, some none, some none, some none, some none, some none, some none, some none, some none]))]).length ad0 ad) (C : Cx X cX4_init 5 RX4 none { frames := 4, cells := 14, slots := 2578, locals := 85 }) (R : Rk X cX4_init 14 2578 ad0 11 (Sk 25 [(0, .inr (9, [some (some 1), none, some (some 2), some none, some none, some none, some none, some none, some none, some none, some none, some none, some none]))]) rr)  : ∀ (n : Nat) (x1_1 : Int32) (x2_2 : Int32) (x3_3 : Int32) (σ_4 : Sg), LX4_init_82 n x1_1 x2_2 x3_3 σ_4 = some rr → AW X 14 2578 ad (Sk 25 [(0, .inr (9, [some (some 1), none, some (some 2), some none, some none, some none, some none, some none, some none, some none, some none, some none, some none]))]) σ_4 82 [some (.ref 10), some (.int x1_1), some (.int x2_2), some (.int x3_3), none] [] := by
  intro n
  induction n with
  | zero =>
    intro x1_1 x2_2 x3_3 σ_4 h
    rw [LX4_init_82] at h
    cases h
  | succ n ih =>
    intro x1_1 x2_2 x3_3 σ_4 h
    rw [LX4_init_82] at h
    refine a_iload_n C eX4_init_82 rfl ?_
    refine a_ldcS C E eX4_init_83 ?_
    refine a_sVi (As := []) C E eX4_init_85 wX4_46 rfl ⟨Nat.le_of_ble_eq_true rfl, Nat.le_of_ble_eq_true rfl, rfl, rfl⟩ ⟨Nat.le_of_ble_eq_true rfl, Nat.le_of_ble_eq_true rfl⟩ rfl rfl kS_length (Nat.le_of_ble_eq_true rfl) ?_
    refine a_icmp_ge C eX4_init_88 (fun hc => ?_) (fun hc => ?_)
    · replace h := it hc h
      exact rt_k R eX4_init_140 h hag
    · replace h := ie hc h
      refine a_iload_n C eX4_init_91 rfl ?_
      refine a_bipush C eX4_init_92 (13 : Int32) c_bipush_13 ?_
      refine a_icmp_ge C eX4_init_94 (fun hc => ?_) (fun hc => ?_)
      · replace h := it hc h
        exact rt_k R eX4_init_140 h hag
      · replace h := ie hc h
        refine a_ldcS C E eX4_init_97 ?_
        refine a_iload_n C eX4_init_99 rfl ?_
        obtain ⟨hb_5, h⟩ := gd h
        refine a_sVi (As := [.int x3_3]) C E eX4_init_100 wX4_52 rfl ⟨Nat.le_of_ble_eq_true rfl, Nat.le_of_ble_eq_true rfl, rfl, rfl⟩ ⟨Nat.le_of_ble_eq_true rfl, Nat.le_of_ble_eq_true rfl⟩ rfl rfl (kS_charAt hb_5) (Nat.le_of_ble_eq_true rfl) ?_
        refine a_lt h (fun x4_6 h => ?_)
        refine a_ist C eX4_init_103 (Nat.le_of_ble_eq_true rfl) [some (.ref 10), some (.int x1_1), some (.int x2_2), some (.int x3_3), some (.int x4_6)] rfl ?_
        refine a_iload C eX4_init_105 rfl ?_
        refine a_bipush C eX4_init_107 (32 : Int32) c_bipush_32 ?_
        refine jn (fun (kk : Int32 → Int32 → Sg → Option Sg) => ∀ (x1_7 : Int32) (x2_8 : Int32) (σ_9 : Sg), kk x1_7 x2_8 σ_9 = some rr → AW X 14 2578 ad (Sk 25 [(0, .inr (9, [some (some 1), none, some (some 2), some none, some none, some none, some none, some none, some none, some none, some none, some none, some none]))]) σ_9 134 [some (.ref 10), some (.int x1_7), some (.int x2_8), some (.int x3_3), none] []) h ?_ (fun k134_10 hk134_10 h => ?_)
        · intro x1_7 x2_8 σ_9 h
          refine a_inc C eX4_init_134 rfl c_iconst_1 h (fun z => [some (.ref 10), some (.int x1_7), some (.int x2_8), some (.int z), none]) (fun _ => rfl) (fun x3_11 h => ?_)
          refine a_goto C eX4_init_137 ?_
          exact a_less (lle_same (lle_same (lle_same (lle_same (lle_same lle_nil))))) (ih _ _ _ _ h)
        refine a_icmp_ne C eX4_init_109 (fun hc => ?_) (fun hc => ?_)
        · replace h := ie hc h
          refine a_iload_n C eX4_init_127 rfl ?_
          refine a_iload C eX4_init_128 rfl ?_
          obtain ⟨r_12, hq, h⟩ := b1_e h
          refine a_callSi (As := [.int x2_2, .int x4_6]) C eX4_init_130 wX4_56 ⟨Nat.le_of_ble_eq_true rfl, Nat.le_of_ble_eq_true rfl, rfl, rfl⟩ ⟨Nat.le_of_ble_eq_true rfl, Nat.le_of_ble_eq_true rfl⟩ rfl rfl (kX4_withLetter hq) (Nat.le_of_ble_eq_true rfl) ?_
          refine a_ist_n C eX4_init_133 (Nat.le_of_ble_eq_true rfl) [some (.ref 10), some (.int x1_1), some (.int r_12), some (.int x3_3), some (.int x4_6)] rfl ?_
          exact a_less (lle_same (lle_same (lle_same (lle_same (lle_drop lle_nil))))) (hk134_10 _ _ _ h)
        · replace h := it hc h
          refine a_aload_n C eX4_init_112 rfl ?_
          refine a_getR C eX4_init_113 fX4_25 shR_10 rfl ?_
          refine a_iload_n C eX4_init_116 rfl ?_
          refine a_iload_n C eX4_init_117 rfl ?_
          obtain ⟨hb_14, h⟩ := gd h
          refine a_iastL C eX4_init_118 shR_19 hb_14 h (fun σ_13 h => ?_)
          refine a_inc C eX4_init_119 rfl c_iconst_1 h (fun z => [some (.ref 10), some (.int z), some (.int x2_2), some (.int x3_3), some (.int x4_6)]) (fun _ => rfl) (fun x1_15 h => ?_)
          refine a_iconst C eX4_init_122 (0 : Int32) c_iconst_0 ?_
          refine a_ist_n C eX4_init_123 (Nat.le_of_ble_eq_true rfl) [some (.ref 10), some (.int x1_15), some (.int (0 : Int32)), some (.int x3_3), some (.int x4_6)] rfl ?_
          refine a_goto C eX4_init_124 ?_
          exact a_less (lle_same (lle_same (lle_same (lle_same (lle_drop lle_nil))))) (hk134_10 _ _ _ h)
def XX4_init_10 (σ : Sg) : Option Sg := lt (setc σ 11 zro) (fun (σ_1 : Sg) => b1 (XX7_init_11 σ_1) (fun (σ_3 : Sg) => lt (up σ_3 10 1 (0 : Int32)) (fun (σ_5 : Sg) => lt (up σ_5 10 2 (-1 : Int32)) (fun (σ_6 : Sg) => lt (setc σ_6 19 zro) (fun (σ_7 : Sg) => lt (setc σ_7 20 zro) (fun (σ_9 : Sg) => lt (setc σ_9 21 zro) (fun (σ_11 : Sg) => lt (setc σ_11 22 zro) (fun (σ_13 : Sg) => lt (setc σ_13 23 zro) (fun (σ_15 : Sg) => lt (setc σ_15 24 zro) (fun (σ_17 : Sg) => LX4_init_82 FUEL (0 : Int32) (0 : Int32) (0 : Int32) σ_17))))))))))
theorem kX4_init_10 {σ rr : Sg} (h : XX4_init_10 σ = some rr) : CkS MX4_init [.ref 10] (Sk 11 [(0, .inr (9, [some (some 1), none, some (some 2), some none, some none, some none, some none, some none, some none, some none, some none, some none, some none])), (10, .inr (4, [some none, none, none, some none, some none, some none, some none, none, none, none, none, none, none, some none, some none]))]) σ (Sk 25 [(0, .inr (9, [some (some 1), none, some (some 2), some none, some none, some none, some none, some none, some none, some none, some none, some none, some none]))]) rr := by
  refine CkS.start rfl rfl rfl (Nat.le_of_ble_eq_true rfl) rfl ?_
  intro X ad fv C hI E R
  replace C : Cx X cX4_init 5 RX4 none { frames := 4, cells := 14, slots := 2578, locals := 85 } := C
  replace R : Rk X cX4_init 14 2578 ad 11 (Sk 25 [(0, .inr (9, [some (some 1), none, some (some 2), some none, some none, some none, some none, some none, some none, some none, some none, some none, some none]))]) rr := R
  show AW X 0 0 ad (Sk 11 [(0, .inr (9, [some (some 1), none, some (some 2), some none, some none, some none, some none, some none, some none, some none, some none, some none, some none])), (10, .inr (4, [some none, none, none, some none, some none, some none, some none, none, none, none, none, none, none, some none, some none]))]) σ 0 [some (.ref 10), none, none, none, none] []
  rw [XX4_init_10] at h
  refine a_aload_n C eX4_init_0 rfl ?_
  refine a_obj C eX4_init_1 wOX4 rfl (Nat.le_of_ble_eq_true rfl) (Nat.le_of_ble_eq_true rfl) (Nat.le_of_ble_eq_true rfl) ⟨Nat.zero_le _, Nat.zero_le _⟩ ?_
  refine a_aload_n C eX4_init_4 rfl ?_
  refine a_nw C eX4_init_5 wNX4_9 [none, none, none, none, none, none, none, none, some none, some none, some none, some none, some none, some none, some none] (fun j hj => by rcases (show j = 0 ∨ j = 1 ∨ j = 2 ∨ j = 3 ∨ j = 4 ∨ j = 5 ∨ j = 6 ∨ j = 7 ∨ j = 8 ∨ j = 9 ∨ j = 10 ∨ j = 11 ∨ j = 12 ∨ j = 13 ∨ j = 14 by omega) with rfl | rfl | rfl | rfl | rfl | rfl | rfl | rfl | rfl | rfl | rfl | rfl | rfl | rfl | rfl <;> rfl) (Sk 12 [(0, .inr (9, [some (some 1), none, some (some 2), some none, some none, some none, some none, some none, some none, some none, some none, some none, some none])), (10, .inr (4, [some none, none, none, some none, some none, some none, some none, none, none, none, none, none, none, some none, some none])), (11, .inr (7, [none, none, none, none, none, none, none, none, some none, some none, some none, some none, some none, some none, some none]))]) (by decide +kernel) rfl rfl 1 15 rfl rfl (by decide +kernel) h (fun σ_1 h u_2 hu_2 => ?_)
  replace E := StrX.agr E hu_2 (Nat.le_of_ble_eq_true rfl)
  refine a_dup C eX4_init_8 rfl ?_
  obtain ⟨σ_3, hq, h⟩ := b1_e h
  refine a_cK0 C eX4_init_9 wIX4_11 ⟨by decide +kernel, by decide +kernel, by decide +kernel, by decide +kernel⟩ rfl (kX7_init_11 hq) (Nat.le_of_ble_eq_true rfl) 12 19 8 149 (by decide +kernel) (by decide +kernel) (by decide +kernel) (by decide +kernel) rfl rfl (fun u_4 hu_4 => ?_)
  replace E := StrX.agr E hu_4 (Nat.le_of_ble_eq_true rfl)
  refine a_ptR C hI eX4_init_12 fX4_12 ftyX4 ⟨rfl, rfl⟩ rfl (fun _ => rfl) (fun _ => rfl) [some none, none, none, some none, some none, some none, some none, none, none, none, none, none, none, some none, some none] (Sk 19 [(0, .inr (9, [some (some 1), none, some (some 2), some none, some none, some none, some none, some none, some none, some none, some none, some none, some none])), (10, .inr (4, [some (some 11), none, none, some none, some none, some none, some none, none, none, none, none, none, none, some none, some none]))]) (by decide +kernel) ?_
  refine a_aload_n C eX4_init_15 rfl ?_
  refine a_iconst C eX4_init_16 (0 : Int32) c_iconst_0 ?_
  refine a_putIL (fl := [some (some 11), none, none, some none, some none, some none, some none, none, none, none, none, none, none, some none, some none]) C eX4_init_17 fX4_18 ftyX4 rfl rfl (by decide +kernel) rfl h (fun σ_5 h => ?_)
  refine a_aload_n C eX4_init_20 rfl ?_
  refine a_iconst C eX4_init_21 (-1 : Int32) c_iconst_m1 ?_
  refine a_putIL (fl := [some (some 11), none, none, some none, some none, some none, some none, none, none, none, none, none, none, some none, some none]) C eX4_init_22 fX4_22 ftyX4 rfl rfl (by decide +kernel) rfl h (fun σ_6 h => ?_)
  refine a_aload_n C eX4_init_25 rfl ?_
  refine a_bipush C eX4_init_26 (13 : Int32) c_bipush_13 ?_
  refine a_nwa C eX4_init_28 wArr ix_13 (Sk 20 [(0, .inr (9, [some (some 1), none, some (some 2), some none, some none, some none, some none, some none, some none, some none, some none, some none, some none])), (10, .inr (4, [some (some 11), none, none, some none, some none, some none, some none, none, none, none, none, none, none, some none, some none]))]) (by decide +kernel) rfl rfl 9 162 rfl rfl (by decide +kernel) h (fun σ_7 h u_8 hu_8 => ?_)
  replace E := StrX.agr E hu_8 (Nat.le_of_ble_eq_true rfl)
  refine a_ptR C hI eX4_init_30 fX4_25 ftyX4 ⟨rfl, rfl⟩ rfl (fun _ => rfl) (fun _ => rfl) [some (some 11), none, none, some none, some none, some none, some none, none, none, none, none, none, none, some none, some none] (Sk 20 [(0, .inr (9, [some (some 1), none, some (some 2), some none, some none, some none, some none, some none, some none, some none, some none, some none, some none])), (10, .inr (4, [some (some 11), none, none, some (some 19), some none, some none, some none, none, none, none, none, none, none, some none, some none]))]) (by decide +kernel) ?_
  refine a_aload_n C eX4_init_33 rfl ?_
  refine a_sipush C eX4_init_34 (801 : Int32) c_sipush_801 ?_
  refine a_nwa C eX4_init_37 wArr ix_801 (Sk 21 [(0, .inr (9, [some (some 1), none, some (some 2), some none, some none, some none, some none, some none, some none, some none, some none, some none, some none])), (10, .inr (4, [some (some 11), none, none, some (some 19), some none, some none, some none, none, none, none, none, none, none, some none, some none]))]) (by decide +kernel) rfl rfl 10 963 rfl rfl (by decide +kernel) h (fun σ_9 h u_10 hu_10 => ?_)
  replace E := StrX.agr E hu_10 (Nat.le_of_ble_eq_true rfl)
  refine a_ptR C hI eX4_init_39 fX4_29 ftyX4 ⟨rfl, rfl⟩ rfl (fun _ => rfl) (fun _ => rfl) [some (some 11), none, none, some (some 19), some none, some none, some none, none, none, none, none, none, none, some none, some none] (Sk 21 [(0, .inr (9, [some (some 1), none, some (some 2), some none, some none, some none, some none, some none, some none, some none, some none, some none, some none])), (10, .inr (4, [some (some 11), none, none, some (some 19), some (some 20), some none, some none, none, none, none, none, none, none, some none, some none]))]) (by decide +kernel) ?_
  refine a_aload_n C eX4_init_42 rfl ?_
  refine a_sipush C eX4_init_43 (801 : Int32) c_sipush_801 ?_
  refine a_nwa C eX4_init_46 wArr ix_801 (Sk 22 [(0, .inr (9, [some (some 1), none, some (some 2), some none, some none, some none, some none, some none, some none, some none, some none, some none, some none])), (10, .inr (4, [some (some 11), none, none, some (some 19), some (some 20), some none, some none, none, none, none, none, none, none, some none, some none]))]) (by decide +kernel) rfl rfl 11 1764 rfl rfl (by decide +kernel) h (fun σ_11 h u_12 hu_12 => ?_)
  replace E := StrX.agr E hu_12 (Nat.le_of_ble_eq_true rfl)
  refine a_ptR C hI eX4_init_48 fX4_32 ftyX4 ⟨rfl, rfl⟩ rfl (fun _ => rfl) (fun _ => rfl) [some (some 11), none, none, some (some 19), some (some 20), some none, some none, none, none, none, none, none, none, some none, some none] (Sk 22 [(0, .inr (9, [some (some 1), none, some (some 2), some none, some none, some none, some none, some none, some none, some none, some none, some none, some none])), (10, .inr (4, [some (some 11), none, none, some (some 19), some (some 20), some (some 21), some none, none, none, none, none, none, none, some none, some none]))]) (by decide +kernel) ?_
  refine a_aload_n C eX4_init_51 rfl ?_
  refine a_sipush C eX4_init_52 (801 : Int32) c_sipush_801 ?_
  refine a_nwa C eX4_init_55 wArr ix_801 (Sk 23 [(0, .inr (9, [some (some 1), none, some (some 2), some none, some none, some none, some none, some none, some none, some none, some none, some none, some none])), (10, .inr (4, [some (some 11), none, none, some (some 19), some (some 20), some (some 21), some none, none, none, none, none, none, none, some none, some none]))]) (by decide +kernel) rfl rfl 12 2565 rfl rfl (by decide +kernel) h (fun σ_13 h u_14 hu_14 => ?_)
  replace E := StrX.agr E hu_14 (Nat.le_of_ble_eq_true rfl)
  refine a_ptR C hI eX4_init_57 fX4_35 ftyX4 ⟨rfl, rfl⟩ rfl (fun _ => rfl) (fun _ => rfl) [some (some 11), none, none, some (some 19), some (some 20), some (some 21), some none, none, none, none, none, none, none, some none, some none] (Sk 23 [(0, .inr (9, [some (some 1), none, some (some 2), some none, some none, some none, some none, some none, some none, some none, some none, some none, some none])), (10, .inr (4, [some (some 11), none, none, some (some 19), some (some 20), some (some 21), some (some 22), none, none, none, none, none, none, some none, some none]))]) (by decide +kernel) ?_
  refine a_aload_n C eX4_init_60 rfl ?_
  refine a_bipush C eX4_init_61 (6 : Int32) c_bipush_6 ?_
  refine a_nwa C eX4_init_63 wArr ix_6 (Sk 24 [(0, .inr (9, [some (some 1), none, some (some 2), some none, some none, some none, some none, some none, some none, some none, some none, some none, some none])), (10, .inr (4, [some (some 11), none, none, some (some 19), some (some 20), some (some 21), some (some 22), none, none, none, none, none, none, some none, some none]))]) (by decide +kernel) rfl rfl 13 2571 rfl rfl (by decide +kernel) h (fun σ_15 h u_16 hu_16 => ?_)
  replace E := StrX.agr E hu_16 (Nat.le_of_ble_eq_true rfl)
  refine a_ptR C hI eX4_init_65 fX4_38 ftyX4 ⟨rfl, rfl⟩ rfl (fun _ => rfl) (fun _ => rfl) [some (some 11), none, none, some (some 19), some (some 20), some (some 21), some (some 22), none, none, none, none, none, none, some none, some none] (Sk 24 [(0, .inr (9, [some (some 1), none, some (some 2), some none, some none, some none, some none, some none, some none, some none, some none, some none, some none])), (10, .inr (4, [some (some 11), none, none, some (some 19), some (some 20), some (some 21), some (some 22), none, none, none, none, none, none, some (some 23), some none]))]) (by decide +kernel) ?_
  refine a_aload_n C eX4_init_68 rfl ?_
  refine a_bipush C eX4_init_69 (7 : Int32) c_bipush_7 ?_
  refine a_nwa C eX4_init_71 wArr ix_7 (Sk 25 [(0, .inr (9, [some (some 1), none, some (some 2), some none, some none, some none, some none, some none, some none, some none, some none, some none, some none])), (10, .inr (4, [some (some 11), none, none, some (some 19), some (some 20), some (some 21), some (some 22), none, none, none, none, none, none, some (some 23), some none]))]) (by decide +kernel) rfl rfl 14 2578 rfl rfl (by decide +kernel) h (fun σ_17 h u_18 hu_18 => ?_)
  replace E := StrX.agr E hu_18 (Nat.le_of_ble_eq_true rfl)
  refine a_ptR C hI eX4_init_73 fX4_41 ftyX4 ⟨rfl, rfl⟩ rfl (fun _ => rfl) (fun _ => rfl) [some (some 11), none, none, some (some 19), some (some 20), some (some 21), some (some 22), none, none, none, none, none, none, some (some 23), some none] (Sk 25 [(0, .inr (9, [some (some 1), none, some (some 2), some none, some none, some none, some none, some none, some none, some none, some none, some none, some none]))]) (by decide +kernel) ?_
  refine a_iconst C eX4_init_76 (0 : Int32) c_iconst_0 ?_
  refine a_ist_n C eX4_init_77 (Nat.le_of_ble_eq_true rfl) [some (.ref 10), some (.int (0 : Int32)), none, none, none] rfl ?_
  refine a_iconst C eX4_init_78 (0 : Int32) c_iconst_0 ?_
  refine a_ist_n C eX4_init_79 (Nat.le_of_ble_eq_true rfl) [some (.ref 10), some (.int (0 : Int32)), some (.int (0 : Int32)), none, none] rfl ?_
  refine a_iconst C eX4_init_80 (0 : Int32) c_iconst_0 ?_
  refine a_ist_n C eX4_init_81 (Nat.le_of_ble_eq_true rfl) [some (.ref 10), some (.int (0 : Int32)), some (.int (0 : Int32)), some (.int (0 : Int32)), none] rfl ?_
  have hag := (agr.tr (agr.tr (agr.tr (agr.tr (agr.tr (agr.tr (agr.tr hu_2 hu_4 (Nat.le_of_ble_eq_true rfl) (Nat.le_of_ble_eq_true rfl)) hu_8 (Nat.le_of_ble_eq_true rfl) (Nat.le_of_ble_eq_true rfl)) hu_10 (Nat.le_of_ble_eq_true rfl) (Nat.le_of_ble_eq_true rfl)) hu_12 (Nat.le_of_ble_eq_true rfl) (Nat.le_of_ble_eq_true rfl)) hu_14 (Nat.le_of_ble_eq_true rfl) (Nat.le_of_ble_eq_true rfl)) hu_16 (Nat.le_of_ble_eq_true rfl) (Nat.le_of_ble_eq_true rfl)) hu_18 (Nat.le_of_ble_eq_true rfl) (Nat.le_of_ble_eq_true rfl))
  exact a_less (lle_same (lle_same (lle_same (lle_same (lle_same lle_nil))))) (lX4_init_82 E hag C R  _ _ _ _ _ h)
def XX9_init_0 (σ : Sg) : Option Sg := lt (setc σ 1 zro) (fun (σ_1 : Sg) => lt (up σ_1 0 1 (0 : Int32)) (fun (σ_3 : Sg) => lt (setc σ_3 2 zro) (fun (σ_4 : Sg) => b1 (XX7_init_2 σ_4) (fun (σ_6 : Sg) => lt (setc σ_6 10 zro) (fun (σ_8 : Sg) => b1 (XX4_init_10 σ_8) (fun (σ_10 : Sg) => lt (setc σ_10 25 zro) (fun (σ_12 : Sg) => b1 (XX8_init_25 σ_12) (fun (σ_14 : Sg) => lt (setc σ_14 29 zro) (fun (σ_16 : Sg) => b1 (XX2_init_29 σ_16) (fun (σ_18 : Sg) => lt (setc σ_18 35 zro) (fun (σ_20 : Sg) => b1 (XX6_init_35 σ_20) (fun (σ_22 : Sg) => lt (setc σ_22 38 zro) (fun (σ_24 : Sg) => b1 (XX5_init_38 σ_24) (fun (σ_26 : Sg) => lt (setc σ_26 46 zro) (fun (σ_28 : Sg) => b1 (XX5_init_46 σ_28) (fun (σ_30 : Sg) => lt (setc σ_30 54 zro) (fun (σ_32 : Sg) => b1 (XX3_init_54 σ_32) (fun (σ_34 : Sg) => lt (setc σ_34 55 zro) (fun (σ_36 : Sg) => b1 (XX1_init_55 σ_36) (fun (σ_38 : Sg) => lt (setc σ_38 61 zro) (fun (σ_40 : Sg) => b1 (XX0_init_61 σ_40) (fun (σ_42 : Sg) => lt (setc σ_42 63 zro) (fun (σ_44 : Sg) => b1 (XX9_beginAnew σ_44) (fun (σ_46 : Sg) => some σ_46))))))))))))))))))))))))
theorem kX9_init_0 {σ rr : Sg} (h : XX9_init_0 σ = some rr) : CkS MX9_init [.ref 0] (Sk 1 [(0, .inr (9, [some none, none, some none, some none, some none, some none, some none, some none, some none, some none, some none, some none, some none]))]) σ (SHc ++ []) rr := by
  refine CkS.start rfl rfl rfl (Nat.le_of_ble_eq_true rfl) rfl ?_
  intro X ad fv C hI E R
  replace C : Cx X cX9_init 1 RX9 none { frames := 5, cells := 63, slots := 5302, locals := 114 } := C
  replace R : Rk X cX9_init 63 5302 ad 1 (SHc ++ []) rr := R
  show AW X 0 0 ad (Sk 1 [(0, .inr (9, [some none, none, some none, some none, some none, some none, some none, some none, some none, some none, some none, some none, some none]))]) σ 0 [some (.ref 0)] []
  rw [XX9_init_0] at h
  refine a_aload_n C eX9_init_0 rfl ?_
  refine a_obj C eX9_init_1 wOX9 rfl (Nat.le_of_ble_eq_true rfl) (Nat.le_of_ble_eq_true rfl) (Nat.le_of_ble_eq_true rfl) ⟨Nat.zero_le _, Nat.zero_le _⟩ ?_
  refine a_aload_n C eX9_init_4 rfl ?_
  refine a_sipush C eX9_init_5 (800 : Int32) c_sipush_800 ?_
  refine a_nwa C eX9_init_8 wArr ix_800 (Sk 2 [(0, .inr (9, [some none, none, some none, some none, some none, some none, some none, some none, some none, some none, some none, some none, some none]))]) (by decide +kernel) rfl rfl 1 800 rfl rfl (by decide +kernel) h (fun σ_1 h u_2 hu_2 => ?_)
  replace E := StrX.agr E hu_2 (Nat.le_of_ble_eq_true rfl)
  refine a_ptR C hI eX9_init_10 fX9_9 ftyX9 ⟨rfl, rfl⟩ rfl (fun _ => rfl) (fun _ => rfl) [some none, none, some none, some none, some none, some none, some none, some none, some none, some none, some none, some none, some none] (Sk 2 [(0, .inr (9, [some (some 1), none, some none, some none, some none, some none, some none, some none, some none, some none, some none, some none, some none]))]) (by decide +kernel) ?_
  refine a_aload_n C eX9_init_13 rfl ?_
  refine a_iconst C eX9_init_14 (0 : Int32) c_iconst_0 ?_
  refine a_putIL (fl := [some (some 1), none, some none, some none, some none, some none, some none, some none, some none, some none, some none, some none, some none]) C eX9_init_15 fX9_13 ftyX9 rfl rfl (by decide +kernel) rfl h (fun σ_3 h => ?_)
  refine a_aload_n C eX9_init_18 rfl ?_
  refine a_nw C eX9_init_19 wNX9_17 [none, none, none, none, none, none, none, none, some none, some none, some none, some none, some none, some none, some none] (fun j hj => by rcases (show j = 0 ∨ j = 1 ∨ j = 2 ∨ j = 3 ∨ j = 4 ∨ j = 5 ∨ j = 6 ∨ j = 7 ∨ j = 8 ∨ j = 9 ∨ j = 10 ∨ j = 11 ∨ j = 12 ∨ j = 13 ∨ j = 14 by omega) with rfl | rfl | rfl | rfl | rfl | rfl | rfl | rfl | rfl | rfl | rfl | rfl | rfl | rfl | rfl <;> rfl) (Sk 3 [(0, .inr (9, [some (some 1), none, some none, some none, some none, some none, some none, some none, some none, some none, some none, some none, some none])), (2, .inr (7, [none, none, none, none, none, none, none, none, some none, some none, some none, some none, some none, some none, some none]))]) (by decide +kernel) rfl rfl 2 815 rfl rfl (by decide +kernel) h (fun σ_4 h u_5 hu_5 => ?_)
  replace E := StrX.agr E hu_5 (Nat.le_of_ble_eq_true rfl)
  refine a_dup C eX9_init_22 rfl ?_
  obtain ⟨σ_6, hq, h⟩ := b1_e h
  refine a_cK0 C eX9_init_23 wIX9_19 ⟨by decide +kernel, by decide +kernel, by decide +kernel, by decide +kernel⟩ rfl (kX7_init_2 hq) (Nat.le_of_ble_eq_true rfl) 3 10 9 949 (by decide +kernel) (by decide +kernel) (by decide +kernel) (by decide +kernel) rfl rfl (fun u_7 hu_7 => ?_)
  replace E := StrX.agr E hu_7 (Nat.le_of_ble_eq_true rfl)
  refine a_ptR C hI eX9_init_26 fX9_20 ftyX9 ⟨rfl, rfl⟩ rfl (fun _ => rfl) (fun _ => rfl) [some (some 1), none, some none, some none, some none, some none, some none, some none, some none, some none, some none, some none, some none] (Sk 10 [(0, .inr (9, [some (some 1), none, some (some 2), some none, some none, some none, some none, some none, some none, some none, some none, some none, some none]))]) (by decide +kernel) ?_
  refine a_aload_n C eX9_init_29 rfl ?_
  refine a_nw C eX9_init_30 wNX9_24 [some none, none, none, some none, some none, some none, some none, none, none, none, none, none, none, some none, some none] (fun j hj => by rcases (show j = 0 ∨ j = 1 ∨ j = 2 ∨ j = 3 ∨ j = 4 ∨ j = 5 ∨ j = 6 ∨ j = 7 ∨ j = 8 ∨ j = 9 ∨ j = 10 ∨ j = 11 ∨ j = 12 ∨ j = 13 ∨ j = 14 by omega) with rfl | rfl | rfl | rfl | rfl | rfl | rfl | rfl | rfl | rfl | rfl | rfl | rfl | rfl | rfl <;> rfl) (Sk 11 [(0, .inr (9, [some (some 1), none, some (some 2), some none, some none, some none, some none, some none, some none, some none, some none, some none, some none])), (10, .inr (4, [some none, none, none, some none, some none, some none, some none, none, none, none, none, none, none, some none, some none]))]) (by decide +kernel) rfl rfl 10 964 rfl rfl (by decide +kernel) h (fun σ_8 h u_9 hu_9 => ?_)
  replace E := StrX.agr E hu_9 (Nat.le_of_ble_eq_true rfl)
  refine a_dup C eX9_init_33 rfl ?_
  obtain ⟨σ_10, hq, h⟩ := b1_e h
  refine a_cKS C E eX9_init_34 wIX9_26 ⟨by decide +kernel, by decide +kernel, by decide +kernel, by decide +kernel⟩ rfl (kX4_init_10 hq) (Nat.le_of_ble_eq_true rfl) 11 25 24 3542 (by decide +kernel) (by decide +kernel) (by decide +kernel) (by decide +kernel) rfl rfl (fun u_11 hu_11 => ?_)
  replace E := StrX.agr E hu_11 (Nat.le_of_ble_eq_true rfl)
  refine a_ptR C hI eX9_init_37 fX9_27 ftyX9 ⟨rfl, rfl⟩ rfl (fun _ => rfl) (fun _ => rfl) [some (some 1), none, some (some 2), some none, some none, some none, some none, some none, some none, some none, some none, some none, some none] (Sk 25 [(0, .inr (9, [some (some 1), none, some (some 2), some (some 10), some none, some none, some none, some none, some none, some none, some none, some none, some none]))]) (by decide +kernel) ?_
  refine a_aload_n C eX9_init_40 rfl ?_
  refine a_nw C eX9_init_41 wNX9_31 [some none, some none, some none, none] (fun j hj => by rcases (show j = 0 ∨ j = 1 ∨ j = 2 ∨ j = 3 by omega) with rfl | rfl | rfl | rfl <;> rfl) (Sk 26 [(0, .inr (9, [some (some 1), none, some (some 2), some (some 10), some none, some none, some none, some none, some none, some none, some none, some none, some none])), (25, .inr (8, [some none, some none, some none, none]))]) (by decide +kernel) rfl rfl 25 3546 rfl rfl (by decide +kernel) h (fun σ_12 h u_13 hu_13 => ?_)
  replace E := StrX.agr E hu_13 (Nat.le_of_ble_eq_true rfl)
  refine a_dup C eX9_init_44 rfl ?_
  obtain ⟨σ_14, hq, h⟩ := b1_e h
  refine a_cK0 C eX9_init_45 wIX9_33 ⟨by decide +kernel, by decide +kernel, by decide +kernel, by decide +kernel⟩ rfl (kX8_init_25 hq) (Nat.le_of_ble_eq_true rfl) 26 29 28 4049 (by decide +kernel) (by decide +kernel) (by decide +kernel) (by decide +kernel) rfl rfl (fun u_15 hu_15 => ?_)
  replace E := StrX.agr E hu_15 (Nat.le_of_ble_eq_true rfl)
  refine a_ptR C hI eX9_init_48 fX9_34 ftyX9 ⟨rfl, rfl⟩ rfl (fun _ => rfl) (fun _ => rfl) [some (some 1), none, some (some 2), some (some 10), some none, some none, some none, some none, some none, some none, some none, some none, some none] (Sk 29 [(0, .inr (9, [some (some 1), none, some (some 2), some (some 10), some (some 25), some none, some none, some none, some none, some none, some none, some none, some none]))]) (by decide +kernel) ?_
  refine a_aload_n C eX9_init_51 rfl ?_
  refine a_nw C eX9_init_52 wNX9_38 [some none, some none, some none, some none, some none, some none, none] (fun j hj => by rcases (show j = 0 ∨ j = 1 ∨ j = 2 ∨ j = 3 ∨ j = 4 ∨ j = 5 ∨ j = 6 by omega) with rfl | rfl | rfl | rfl | rfl | rfl | rfl <;> rfl) (Sk 30 [(0, .inr (9, [some (some 1), none, some (some 2), some (some 10), some (some 25), some none, some none, some none, some none, some none, some none, some none, some none])), (29, .inr (2, [some none, some none, some none, some none, some none, some none, none]))]) (by decide +kernel) rfl rfl 29 4056 rfl rfl (by decide +kernel) h (fun σ_16 h u_17 hu_17 => ?_)
  replace E := StrX.agr E hu_17 (Nat.le_of_ble_eq_true rfl)
  refine a_dup C eX9_init_55 rfl ?_
  refine a_aload_n C eX9_init_56 rfl ?_
  refine a_getR (fl := [some (some 1), none, some (some 2), some (some 10), some (some 25), some none, some none, some none, some none, some none, some none, some none, some none]) C eX9_init_57 fX9_20 (by decide +kernel) rfl ?_
  obtain ⟨σ_18, hq, h⟩ := b1_e h
  refine a_cK1 C eX9_init_60 wIX9_40 ⟨by decide +kernel, by decide +kernel, by decide +kernel, by decide +kernel⟩ rfl (kX2_init_29 hq) (Nat.le_of_ble_eq_true rfl) 30 35 34 4376 (by decide +kernel) (by decide +kernel) (by decide +kernel) (by decide +kernel) rfl rfl (fun u_19 hu_19 => ?_)
  replace E := StrX.agr E hu_19 (Nat.le_of_ble_eq_true rfl)
  refine a_ptR C hI eX9_init_63 fX9_43 ftyX9 ⟨rfl, rfl⟩ rfl (fun _ => rfl) (fun _ => rfl) [some (some 1), none, some (some 2), some (some 10), some (some 25), some none, some none, some none, some none, some none, some none, some none, some none] (Sk 35 [(0, .inr (9, [some (some 1), none, some (some 2), some (some 10), some (some 25), some (some 29), some none, some none, some none, some none, some none, some none, some none]))]) (by decide +kernel) ?_
  refine a_aload_n C eX9_init_66 rfl ?_
  refine a_nw C eX9_init_67 wNX9_47 [none, some none, some none, some none, some none] (fun j hj => by rcases (show j = 0 ∨ j = 1 ∨ j = 2 ∨ j = 3 ∨ j = 4 by omega) with rfl | rfl | rfl | rfl | rfl <;> rfl) (Sk 36 [(0, .inr (9, [some (some 1), none, some (some 2), some (some 10), some (some 25), some (some 29), some none, some none, some none, some none, some none, some none, some none])), (35, .inr (6, [none, some none, some none, some none, some none]))]) (by decide +kernel) rfl rfl 35 4381 rfl rfl (by decide +kernel) h (fun σ_20 h u_21 hu_21 => ?_)
  replace E := StrX.agr E hu_21 (Nat.le_of_ble_eq_true rfl)
  refine a_dup C eX9_init_70 rfl ?_
  refine a_aload_n C eX9_init_71 rfl ?_
  refine a_getR (fl := [some (some 1), none, some (some 2), some (some 10), some (some 25), some (some 29), some none, some none, some none, some none, some none, some none, some none]) C eX9_init_72 fX9_20 (by decide +kernel) rfl ?_
  refine a_aload_n C eX9_init_75 rfl ?_
  refine a_getR (fl := [some (some 1), none, some (some 2), some (some 10), some (some 25), some (some 29), some none, some none, some none, some none, some none, some none, some none]) C eX9_init_76 fX9_43 (by decide +kernel) rfl ?_
  obtain ⟨σ_22, hq, h⟩ := b1_e h
  refine a_cK2 C eX9_init_79 wIX9_49 ⟨by decide +kernel, by decide +kernel, by decide +kernel, by decide +kernel⟩ rfl (kX6_init_35 hq) (Nat.le_of_ble_eq_true rfl) 36 38 37 4393 (by decide +kernel) (by decide +kernel) (by decide +kernel) (by decide +kernel) rfl rfl (fun u_23 hu_23 => ?_)
  replace E := StrX.agr E hu_23 (Nat.le_of_ble_eq_true rfl)
  refine a_ptR C hI eX9_init_82 fX9_52 ftyX9 ⟨rfl, rfl⟩ rfl (fun _ => rfl) (fun _ => rfl) [some (some 1), none, some (some 2), some (some 10), some (some 25), some (some 29), some none, some none, some none, some none, some none, some none, some none] (Sk 38 [(0, .inr (9, [some (some 1), none, some (some 2), some (some 10), some (some 25), some (some 29), some (some 35), some none, some none, some none, some none, some none, some none]))]) (by decide +kernel) ?_
  refine a_aload_n C eX9_init_85 rfl ?_
  refine a_nw C eX9_init_86 wNX9_56 [some none, some none, some none, some none, some none, none, none, some none, some none, some none, some none] (fun j hj => by rcases (show j = 0 ∨ j = 1 ∨ j = 2 ∨ j = 3 ∨ j = 4 ∨ j = 5 ∨ j = 6 ∨ j = 7 ∨ j = 8 ∨ j = 9 ∨ j = 10 by omega) with rfl | rfl | rfl | rfl | rfl | rfl | rfl | rfl | rfl | rfl | rfl <;> rfl) (Sk 39 [(0, .inr (9, [some (some 1), none, some (some 2), some (some 10), some (some 25), some (some 29), some (some 35), some none, some none, some none, some none, some none, some none])), (38, .inr (5, [some none, some none, some none, some none, some none, none, none, some none, some none, some none, some none]))]) (by decide +kernel) rfl rfl 38 4404 rfl rfl (by decide +kernel) h (fun σ_24 h u_25 hu_25 => ?_)
  replace E := StrX.agr E hu_25 (Nat.le_of_ble_eq_true rfl)
  refine a_dup C eX9_init_89 rfl ?_
  refine a_aload_n C eX9_init_90 rfl ?_
  refine a_getR (fl := [some (some 1), none, some (some 2), some (some 10), some (some 25), some (some 29), some (some 35), some none, some none, some none, some none, some none, some none]) C eX9_init_91 fX9_20 (by decide +kernel) rfl ?_
  refine a_aload_n C eX9_init_94 rfl ?_
  refine a_getR (fl := [some (some 1), none, some (some 2), some (some 10), some (some 25), some (some 29), some (some 35), some none, some none, some none, some none, some none, some none]) C eX9_init_95 fX9_43 (by decide +kernel) rfl ?_
  obtain ⟨σ_26, hq, h⟩ := b1_e h
  refine a_cK2 C eX9_init_98 wIX9_58 ⟨by decide +kernel, by decide +kernel, by decide +kernel, by decide +kernel⟩ rfl (kX5_init_38 hq) (Nat.le_of_ble_eq_true rfl) 39 46 45 4766 (by decide +kernel) (by decide +kernel) (by decide +kernel) (by decide +kernel) rfl rfl (fun u_27 hu_27 => ?_)
  replace E := StrX.agr E hu_27 (Nat.le_of_ble_eq_true rfl)
  refine a_ptR C hI eX9_init_101 fX9_59 ftyX9 ⟨rfl, rfl⟩ rfl (fun _ => rfl) (fun _ => rfl) [some (some 1), none, some (some 2), some (some 10), some (some 25), some (some 29), some (some 35), some none, some none, some none, some none, some none, some none] (Sk 46 [(0, .inr (9, [some (some 1), none, some (some 2), some (some 10), some (some 25), some (some 29), some (some 35), some (some 38), some none, some none, some none, some none, some none]))]) (by decide +kernel) ?_
  refine a_aload_n C eX9_init_104 rfl ?_
  refine a_nw C eX9_init_105 wNX9_56 [some none, some none, some none, some none, some none, none, none, some none, some none, some none, some none] (fun j hj => by rcases (show j = 0 ∨ j = 1 ∨ j = 2 ∨ j = 3 ∨ j = 4 ∨ j = 5 ∨ j = 6 ∨ j = 7 ∨ j = 8 ∨ j = 9 ∨ j = 10 by omega) with rfl | rfl | rfl | rfl | rfl | rfl | rfl | rfl | rfl | rfl | rfl <;> rfl) (Sk 47 [(0, .inr (9, [some (some 1), none, some (some 2), some (some 10), some (some 25), some (some 29), some (some 35), some (some 38), some none, some none, some none, some none, some none])), (46, .inr (5, [some none, some none, some none, some none, some none, none, none, some none, some none, some none, some none]))]) (by decide +kernel) rfl rfl 46 4777 rfl rfl (by decide +kernel) h (fun σ_28 h u_29 hu_29 => ?_)
  replace E := StrX.agr E hu_29 (Nat.le_of_ble_eq_true rfl)
  refine a_dup C eX9_init_108 rfl ?_
  refine a_aload_n C eX9_init_109 rfl ?_
  refine a_getR (fl := [some (some 1), none, some (some 2), some (some 10), some (some 25), some (some 29), some (some 35), some (some 38), some none, some none, some none, some none, some none]) C eX9_init_110 fX9_20 (by decide +kernel) rfl ?_
  refine a_aload_n C eX9_init_113 rfl ?_
  refine a_getR (fl := [some (some 1), none, some (some 2), some (some 10), some (some 25), some (some 29), some (some 35), some (some 38), some none, some none, some none, some none, some none]) C eX9_init_114 fX9_43 (by decide +kernel) rfl ?_
  obtain ⟨σ_30, hq, h⟩ := b1_e h
  refine a_cK2 C eX9_init_117 wIX9_58 ⟨by decide +kernel, by decide +kernel, by decide +kernel, by decide +kernel⟩ rfl (kX5_init_46 hq) (Nat.le_of_ble_eq_true rfl) 47 54 53 5139 (by decide +kernel) (by decide +kernel) (by decide +kernel) (by decide +kernel) rfl rfl (fun u_31 hu_31 => ?_)
  replace E := StrX.agr E hu_31 (Nat.le_of_ble_eq_true rfl)
  refine a_ptR C hI eX9_init_120 fX9_63 ftyX9 ⟨rfl, rfl⟩ rfl (fun _ => rfl) (fun _ => rfl) [some (some 1), none, some (some 2), some (some 10), some (some 25), some (some 29), some (some 35), some (some 38), some none, some none, some none, some none, some none] (Sk 54 [(0, .inr (9, [some (some 1), none, some (some 2), some (some 10), some (some 25), some (some 29), some (some 35), some (some 38), some (some 46), some none, some none, some none, some none]))]) (by decide +kernel) ?_
  refine a_aload_n C eX9_init_123 rfl ?_
  refine a_nw C eX9_init_124 wNX9_66 [none, none, none, some none] (fun j hj => by rcases (show j = 0 ∨ j = 1 ∨ j = 2 ∨ j = 3 by omega) with rfl | rfl | rfl | rfl <;> rfl) (Sk 55 [(0, .inr (9, [some (some 1), none, some (some 2), some (some 10), some (some 25), some (some 29), some (some 35), some (some 38), some (some 46), some none, some none, some none, some none])), (54, .inr (3, [none, none, none, some none]))]) (by decide +kernel) rfl rfl 54 5143 rfl rfl (by decide +kernel) h (fun σ_32 h u_33 hu_33 => ?_)
  replace E := StrX.agr E hu_33 (Nat.le_of_ble_eq_true rfl)
  refine a_dup C eX9_init_127 rfl ?_
  refine a_aload_n C eX9_init_128 rfl ?_
  refine a_getR (fl := [some (some 1), none, some (some 2), some (some 10), some (some 25), some (some 29), some (some 35), some (some 38), some (some 46), some none, some none, some none, some none]) C eX9_init_129 fX9_20 (by decide +kernel) rfl ?_
  obtain ⟨σ_34, hq, h⟩ := b1_e h
  refine a_cK1 C eX9_init_132 wIX9_68 ⟨by decide +kernel, by decide +kernel, by decide +kernel, by decide +kernel⟩ rfl (kX3_init_54 hq) (Nat.le_of_ble_eq_true rfl) 55 55 54 5143 (by decide +kernel) (by decide +kernel) (by decide +kernel) (by decide +kernel) rfl rfl (fun u_35 hu_35 => ?_)
  replace E := StrX.agr E hu_35 (Nat.le_of_ble_eq_true rfl)
  refine a_ptR C hI eX9_init_135 fX9_69 ftyX9 ⟨rfl, rfl⟩ rfl (fun _ => rfl) (fun _ => rfl) [some (some 1), none, some (some 2), some (some 10), some (some 25), some (some 29), some (some 35), some (some 38), some (some 46), some none, some none, some none, some none] (Sk 55 [(0, .inr (9, [some (some 1), none, some (some 2), some (some 10), some (some 25), some (some 29), some (some 35), some (some 38), some (some 46), some (some 54), some none, some none, some none]))]) (by decide +kernel) ?_
  refine a_aload_n C eX9_init_138 rfl ?_
  refine a_nw C eX9_init_139 wNX9_73 [some none, some none, some none, some none, some none, some none, some none] (fun j hj => by rcases (show j = 0 ∨ j = 1 ∨ j = 2 ∨ j = 3 ∨ j = 4 ∨ j = 5 ∨ j = 6 by omega) with rfl | rfl | rfl | rfl | rfl | rfl | rfl <;> rfl) (Sk 56 [(0, .inr (9, [some (some 1), none, some (some 2), some (some 10), some (some 25), some (some 29), some (some 35), some (some 38), some (some 46), some (some 54), some none, some none, some none])), (55, .inr (1, [some none, some none, some none, some none, some none, some none, some none]))]) (by decide +kernel) rfl rfl 55 5150 rfl rfl (by decide +kernel) h (fun σ_36 h u_37 hu_37 => ?_)
  replace E := StrX.agr E hu_37 (Nat.le_of_ble_eq_true rfl)
  refine a_dup C eX9_init_142 rfl ?_
  refine a_aload_n C eX9_init_143 rfl ?_
  refine a_getR (fl := [some (some 1), none, some (some 2), some (some 10), some (some 25), some (some 29), some (some 35), some (some 38), some (some 46), some (some 54), some none, some none, some none]) C eX9_init_144 fX9_20 (by decide +kernel) rfl ?_
  refine a_aload_n C eX9_init_147 rfl ?_
  refine a_getR (fl := [some (some 1), none, some (some 2), some (some 10), some (some 25), some (some 29), some (some 35), some (some 38), some (some 46), some (some 54), some none, some none, some none]) C eX9_init_148 fX9_43 (by decide +kernel) rfl ?_
  obtain ⟨σ_38, hq, h⟩ := b1_e h
  refine a_cK2 C eX9_init_151 wIX9_75 ⟨by decide +kernel, by decide +kernel, by decide +kernel, by decide +kernel⟩ rfl (kX1_init_55 hq) (Nat.le_of_ble_eq_true rfl) 56 61 60 5210 (by decide +kernel) (by decide +kernel) (by decide +kernel) (by decide +kernel) rfl rfl (fun u_39 hu_39 => ?_)
  replace E := StrX.agr E hu_39 (Nat.le_of_ble_eq_true rfl)
  refine a_ptR C hI eX9_init_154 fX9_76 ftyX9 ⟨rfl, rfl⟩ rfl (fun _ => rfl) (fun _ => rfl) [some (some 1), none, some (some 2), some (some 10), some (some 25), some (some 29), some (some 35), some (some 38), some (some 46), some (some 54), some none, some none, some none] (Sk 61 [(0, .inr (9, [some (some 1), none, some (some 2), some (some 10), some (some 25), some (some 29), some (some 35), some (some 38), some (some 46), some (some 54), some (some 55), some none, some none]))]) (by decide +kernel) ?_
  refine a_aload_n C eX9_init_157 rfl ?_
  refine a_nw C eX9_init_158 wNX9_80 [none, some none] (fun j hj => by rcases (show j = 0 ∨ j = 1 by omega) with rfl | rfl <;> rfl) (Sk 62 [(0, .inr (9, [some (some 1), none, some (some 2), some (some 10), some (some 25), some (some 29), some (some 35), some (some 38), some (some 46), some (some 54), some (some 55), some none, some none])), (61, .inr (0, [none, some none]))]) (by decide +kernel) rfl rfl 61 5212 rfl rfl (by decide +kernel) h (fun σ_40 h u_41 hu_41 => ?_)
  replace E := StrX.agr E hu_41 (Nat.le_of_ble_eq_true rfl)
  refine a_dup C eX9_init_161 rfl ?_
  obtain ⟨σ_42, hq, h⟩ := b1_e h
  refine a_cK0 C eX9_init_162 wIX9_82 ⟨by decide +kernel, by decide +kernel, by decide +kernel, by decide +kernel⟩ rfl (kX0_init_61 hq) (Nat.le_of_ble_eq_true rfl) 62 63 62 5296 (by decide +kernel) (by decide +kernel) (by decide +kernel) (by decide +kernel) rfl rfl (fun u_43 hu_43 => ?_)
  replace E := StrX.agr E hu_43 (Nat.le_of_ble_eq_true rfl)
  refine a_ptR C hI eX9_init_165 fX9_83 ftyX9 ⟨rfl, rfl⟩ rfl (fun _ => rfl) (fun _ => rfl) [some (some 1), none, some (some 2), some (some 10), some (some 25), some (some 29), some (some 35), some (some 38), some (some 46), some (some 54), some (some 55), some none, some none] (Sk 63 [(0, .inr (9, [some (some 1), none, some (some 2), some (some 10), some (some 25), some (some 29), some (some 35), some (some 38), some (some 46), some (some 54), some (some 55), some (some 61), some none]))]) (by decide +kernel) ?_
  refine a_aload_n C eX9_init_168 rfl ?_
  refine a_bipush C eX9_init_169 (6 : Int32) c_bipush_6 ?_
  refine a_nwa C eX9_init_171 wArr ix_6 (Sk 64 [(0, .inr (9, [some (some 1), none, some (some 2), some (some 10), some (some 25), some (some 29), some (some 35), some (some 38), some (some 46), some (some 54), some (some 55), some (some 61), some none]))]) (by decide +kernel) rfl rfl 63 5302 rfl rfl (by decide +kernel) h (fun σ_44 h u_45 hu_45 => ?_)
  replace E := StrX.agr E hu_45 (Nat.le_of_ble_eq_true rfl)
  refine a_ptR C hI eX9_init_173 fX9_87 ftyX9 ⟨rfl, rfl⟩ rfl (fun _ => rfl) (fun _ => rfl) [some (some 1), none, some (some 2), some (some 10), some (some 25), some (some 29), some (some 35), some (some 38), some (some 46), some (some 54), some (some 55), some (some 61), some none] (SHc ++ []) (by decide +kernel) ?_
  refine a_aload_n C eX9_init_176 rfl ?_
  obtain ⟨σ_46, hq, h⟩ := b1_e h
  refine a_callVv (As := []) (ci := 9) (fl := [some (some 1), none, some (some 2), some (some 10), some (some 25), some (some 29), some (some 35), some (some 38), some (some 46), some (some 54), some (some 55), some (some 61), some (some 63)]) C eX9_init_177 wX9_90 ⟨Nat.le_of_ble_eq_true rfl, Nat.le_of_ble_eq_true rfl, rfl, rfl⟩ ⟨Nat.le_of_ble_eq_true rfl, Nat.le_of_ble_eq_true rfl⟩ rfl rfl (by decide +kernel) rfl (kX9_beginAnew (ext := []) hq) (Nat.le_of_ble_eq_true rfl) ?_
  exact rt_k R eX9_init_180 h (agr.tr (agr.tr (agr.tr (agr.tr (agr.tr (agr.tr (agr.tr (agr.tr (agr.tr (agr.tr (agr.tr (agr.tr (agr.tr (agr.tr (agr.tr (agr.tr (agr.tr (agr.tr (agr.tr (agr.tr (agr.tr hu_2 hu_5 (Nat.le_of_ble_eq_true rfl) (Nat.le_of_ble_eq_true rfl)) hu_7 (Nat.le_of_ble_eq_true rfl) (Nat.le_of_ble_eq_true rfl)) hu_9 (Nat.le_of_ble_eq_true rfl) (Nat.le_of_ble_eq_true rfl)) hu_11 (Nat.le_of_ble_eq_true rfl) (Nat.le_of_ble_eq_true rfl)) hu_13 (Nat.le_of_ble_eq_true rfl) (Nat.le_of_ble_eq_true rfl)) hu_15 (Nat.le_of_ble_eq_true rfl) (Nat.le_of_ble_eq_true rfl)) hu_17 (Nat.le_of_ble_eq_true rfl) (Nat.le_of_ble_eq_true rfl)) hu_19 (Nat.le_of_ble_eq_true rfl) (Nat.le_of_ble_eq_true rfl)) hu_21 (Nat.le_of_ble_eq_true rfl) (Nat.le_of_ble_eq_true rfl)) hu_23 (Nat.le_of_ble_eq_true rfl) (Nat.le_of_ble_eq_true rfl)) hu_25 (Nat.le_of_ble_eq_true rfl) (Nat.le_of_ble_eq_true rfl)) hu_27 (Nat.le_of_ble_eq_true rfl) (Nat.le_of_ble_eq_true rfl)) hu_29 (Nat.le_of_ble_eq_true rfl) (Nat.le_of_ble_eq_true rfl)) hu_31 (Nat.le_of_ble_eq_true rfl) (Nat.le_of_ble_eq_true rfl)) hu_33 (Nat.le_of_ble_eq_true rfl) (Nat.le_of_ble_eq_true rfl)) hu_35 (Nat.le_of_ble_eq_true rfl) (Nat.le_of_ble_eq_true rfl)) hu_37 (Nat.le_of_ble_eq_true rfl) (Nat.le_of_ble_eq_true rfl)) hu_39 (Nat.le_of_ble_eq_true rfl) (Nat.le_of_ble_eq_true rfl)) hu_41 (Nat.le_of_ble_eq_true rfl) (Nat.le_of_ble_eq_true rfl)) hu_43 (Nat.le_of_ble_eq_true rfl) (Nat.le_of_ble_eq_true rfl)) hu_45 (Nat.le_of_ble_eq_true rfl) (Nat.le_of_ble_eq_true rfl))
