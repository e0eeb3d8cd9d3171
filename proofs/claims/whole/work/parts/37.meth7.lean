/-! ShelfDrivesModel.readShop()V -/
def LX10_readShop_182 (x1_1 : Int32) (k234_31 : Int32 → Sg → Option Sg) : Nat → Int32 → Sg → Option Sg
  | 0, _, _ => none
  | n + 1, x3_34, σ_35 => b1 (XX10_isGood σ_35) (fun (r_36 : Int32) => if r_36 = 0 then (k234_31 x3_34 σ_35) else (lt (b2 (XX10_readNumber (0 : Int32) (30 : Int32) σ_35) (fun (r_38 : Int32) (σ_39 : Sg) => if ib (((42 : Int32) + ((7 : Int32) * x1_1)) + x3_34) 84 then lt (up σ_39 71 (((42 : Int32) + ((7 : Int32) * x1_1)) + x3_34).toNatClampNeg r_38) (fun (σ_40 : Sg) => lt (x3_34 + (1 : Int32)) (fun (x3_42 : Int32) => LX10_readShop_182 x1_1 k234_31 n x3_42 σ_40)) else none)) (fun (k207_37 : Option Sg) => if x3_34 = 0 then (k207_37) else (if (σ_35 64 18) = (2 : Int32) then (if (7 : Int32) ≤ x3_34 then (k234_31 x3_34 σ_35) else (k207_37)) else (k234_31 x3_34 σ_35)))))
def XX10_readShop (σ : Sg) : Option Sg := lt (σ 65 18) (fun (x1_1 : Int32) => lt (fun (σ_2 : Sg) => b1 (XX10_goOn σ_2) (fun (σ_4 : Sg) => b1 (XX10_isGood σ_4) (fun (r_5 : Int32) => lt (fun (σ_6 : Sg) => b1 (XX10_isGood σ_6) (fun (r_8 : Int32) => if r_8 = 0 then (some σ_6) else (if ib x1_1 6 then lt (up σ_6 75 x1_1.toNatClampNeg (σ_6 64 19)) (fun (σ_9 : Sg) => b1 (XX10_goOn σ_9) (fun (σ_11 : Sg) => b1 (XX10_keyword (52 : Int32) σ_11) (fun (σ_12 : Sg) => b2 (XX10_readNumber (0 : Int32) (30 : Int32) σ_12) (fun (r_13 : Int32) (σ_14 : Sg) => if ib ((6 : Int32) + x1_1) 12 then lt (up σ_14 66 ((6 : Int32) + x1_1).toNatClampNeg r_13) (fun (σ_15 : Sg) => b2 (XX10_readNumber (0 : Int32) (30 : Int32) σ_15) (fun (r_17 : Int32) (σ_18 : Sg) => lt (up σ_18 67 ((6 : Int32) + x1_1).toNatClampNeg r_17) (fun (σ_19 : Sg) => b1 (XX10_keyword (20190598 : Int32) σ_19) (fun (σ_20 : Sg) => b2 (XX10_readNumber (1 : Int32) (σ_20 65 13) σ_20) (fun (r_21 : Int32) (σ_22 : Sg) => lt (up σ_22 68 ((6 : Int32) + x1_1).toNatClampNeg r_21) (fun (σ_23 : Sg) => b1 (XX10_keyword (20593771 : Int32) σ_23) (fun (σ_24 : Sg) => b2 (XX10_readNumber (0 : Int32) r_21 σ_24) (fun (r_25 : Int32) (σ_26 : Sg) => lt (up σ_26 69 ((6 : Int32) + x1_1).toNatClampNeg r_25) (fun (σ_27 : Sg) => b1 (XX10_keyword (20099475 : Int32) σ_27) (fun (σ_28 : Sg) => lt (fun (x3_29 : Int32) (σ_30 : Sg) => lt (up σ_30 70 ((6 : Int32) + x1_1).toNatClampNeg x3_29) (fun (σ_32 : Sg) => lt (up σ_32 65 18 ((σ_32 65 18) + (1 : Int32))) (fun (σ_33 : Sg) => some σ_33))) (fun (k234_31 : Int32 → Sg → Option Sg) => LX10_readShop_182 x1_1 k234_31 FUEL (0 : Int32) σ_28))))))))))) else none)))) else none))) (fun (k64_7 : Sg → Option Sg) => lt (b1 (XX10_isGood σ_4) (fun (r_44 : Int32) => if r_44 = 0 then (k64_7 σ_4) else (b1 (XX10_called σ_4) (fun (r_45 : Int32) => if r_45 < 0 then (k64_7 σ_4) else (b1 (XX10_fails (3 : Int32) σ_4) (fun (σ_46 : Sg) => k64_7 σ_46)))))) (fun (k45_43 : Option Sg) => if r_5 = 0 then (k45_43) else (b1 (XX10_isName σ_4) (fun (r_47 : Int32) => if r_47 = 0 then (b1 (XX10_fails (2 : Int32) σ_4) (fun (σ_48 : Sg) => k64_7 σ_48)) else (k45_43)))))))) (fun (k19_3 : Sg → Option Sg) => if x1_1 = (6 : Int32) then (b1 (XX10_fails (5 : Int32) σ) (fun (σ_49 : Sg) => k19_3 σ_49)) else (k19_3 σ)))
theorem lX10_readShop_182 {X : CT} {ad : Nat → Nat} {rr : Sg} {x1_1 : Int32} {k234_31 : Int32 → Sg → Option Sg}  (C : Cx X cX10_readShop 4 RX10 none { frames := 3, cells := 0, slots := 0, locals := 65 }) (R : Rv X cX10_readShop ad (SHc ++ SHm) rr) (hk234_31 : ∀ (x3_29 : Int32) (σ_30 : Sg), k234_31 x3_29 σ_30 = some rr → AW X 0 0 ad (SHc ++ SHm) σ_30 234 [some (.ref 64), some (.int x1_1), none, some (.int x3_29)] []) : ∀ (n : Nat) (x3_34 : Int32) (σ_35 : Sg), LX10_readShop_182 x1_1 k234_31 n x3_34 σ_35 = some rr → AW X 0 0 ad (SHc ++ SHm) σ_35 182 [some (.ref 64), some (.int x1_1), none, some (.int x3_34)] [] := by
  intro n
  induction n with
  | zero =>
    intro x3_34 σ_35 h
    rw [LX10_readShop_182] at h
    cases h
  | succ n ih =>
    intro x3_34 σ_35 h
    rw [LX10_readShop_182] at h
    refine a_aload_n C eX10_readShop_182 rfl ?_
    obtain ⟨r_36, hq, h⟩ := b1_e h
    refine a_cVi0 C eX10_readShop_183 wX10_131 ⟨Nat.le_of_ble_eq_true rfl, Nat.le_of_ble_eq_true rfl, rfl, rfl⟩ rfl sh_64 rfl (kX10_isGood hq) (Nat.le_of_ble_eq_true rfl) ?_
    refine a_if_eq C eX10_readShop_186 (fun hc => ?_) (fun hc => ?_)
    · replace h := it hc h
      exact a_less (lle_same (lle_same (lle_same (lle_same lle_nil)))) (hk234_31 _ _ h)
    · replace h := ie hc h
      refine a_iload_n C eX10_readShop_189 rfl ?_
      refine jn (fun (kk : Option Sg) => kk = some rr → AW X 0 0 ad (SHc ++ SHm) σ_35 207 [some (.ref 64), some (.int x1_1), none, some (.int x3_34)] []) h ?_ (fun k207_37 hk207_37 h => ?_)
      · intro h
        refine a_aload_n C eX10_readShop_207 rfl ?_
        refine a_getR C eX10_readShop_208 fX10_28 sh_64 rfl ?_
        refine a_bipush C eX10_readShop_211 (42 : Int32) c_bipush_42 ?_
        refine a_bipush C eX10_readShop_213 (7 : Int32) c_bipush_7 ?_
        refine a_iload_n C eX10_readShop_215 rfl ?_
        refine a_imul C eX10_readShop_216 ?_
        refine a_iadd C eX10_readShop_217 ?_
        refine a_iload_n C eX10_readShop_218 rfl ?_
        refine a_iadd C eX10_readShop_219 ?_
        refine a_aload_n C eX10_readShop_220 rfl ?_
        refine a_iconst C eX10_readShop_221 (0 : Int32) c_iconst_0 ?_
        refine a_bipush C eX10_readShop_222 (30 : Int32) c_bipush_30 ?_
        obtain ⟨r_38, σ_39, hq, h⟩ := b2_e h
        refine a_cVi2 C eX10_readShop_224 wX10_180 ⟨Nat.le_of_ble_eq_true rfl, Nat.le_of_ble_eq_true rfl, rfl, rfl⟩ rfl sh_64 rfl (kX10_readNumber hq) (Nat.le_of_ble_eq_true rfl) ?_
        obtain ⟨hb_41, h⟩ := gd h
        refine a_iastL C eX10_readShop_227 sh_71 hb_41 h (fun σ_40 h => ?_)
        refine a_inc C eX10_readShop_228 rfl c_iconst_1 h (fun z => [some (.ref 64), some (.int x1_1), none, some (.int z)]) (fun _ => rfl) (fun x3_42 h => ?_)
        refine a_goto C eX10_readShop_231 ?_
        exact a_less (lle_same (lle_same (lle_same (lle_same lle_nil)))) (ih _ _ h)
      refine a_if_eq C eX10_readShop_190 (fun hc => ?_) (fun hc => ?_)
      · replace h := it hc h
        exact a_less (lle_same (lle_same (lle_same (lle_same lle_nil)))) (hk207_37 h)
      · replace h := ie hc h
        refine a_aload_n C eX10_readShop_193 rfl ?_
        refine a_getI C eX10_readShop_194 fX10_122 sh_64 rfl ?_
        refine a_iconst C eX10_readShop_197 (2 : Int32) c_iconst_2 ?_
        refine a_icmp_ne C eX10_readShop_198 (fun hc => ?_) (fun hc => ?_)
        · replace h := ie hc h
          exact a_less (lle_same (lle_same (lle_same (lle_same lle_nil)))) (hk234_31 _ _ h)
        · replace h := it hc h
          refine a_iload_n C eX10_readShop_201 rfl ?_
          refine a_bipush C eX10_readShop_202 (7 : Int32) c_bipush_7 ?_
          refine a_icmp_ge C eX10_readShop_204 (fun hc => ?_) (fun hc => ?_)
          · replace h := it hc h
            exact a_less (lle_same (lle_same (lle_same (lle_same lle_nil)))) (hk234_31 _ _ h)
          · replace h := ie hc h
            exact a_less (lle_same (lle_same (lle_same (lle_same lle_nil)))) (hk207_37 h)
theorem kX10_readShop {σ : Sg} {rr : Sg}  (h : XX10_readShop σ = some rr) : Cv MX10_readShop [.ref 64] (SHc ++ SHm) σ rr := by
  refine Cv.start rfl rfl (Nat.le_of_ble_eq_true rfl) rfl ?_
  intro X ad C R
  replace C : Cx X cX10_readShop 4 RX10 none { frames := 3, cells := 0, slots := 0, locals := 65 } := C
  replace R : Rv X cX10_readShop ad (SHc ++ SHm) rr := R
  show AW X 0 0 ad (SHc ++ SHm) σ 0 [some (.ref 64), none, none, none] []
  rw [XX10_readShop] at h
  refine a_aload_n C eX10_readShop_0 rfl ?_
  refine a_getR C eX10_readShop_1 fX10_7 sh_64 rfl ?_
  refine a_bipush C eX10_readShop_4 (18 : Int32) c_bipush_18 ?_
  refine a_ialdK C eX10_readShop_6 sh_65 ix_18 (Nat.le_of_ble_eq_true rfl) ?_
  refine a_lt h (fun x1_1 h => ?_)
  refine a_ist_n C eX10_readShop_7 (Nat.le_of_ble_eq_true rfl) [some (.ref 64), some (.int x1_1), none, none] rfl ?_
  refine a_iload_n C eX10_readShop_8 rfl ?_
  refine a_bipush C eX10_readShop_9 (6 : Int32) c_bipush_6 ?_
  refine jn (fun (kk : Sg → Option Sg) => ∀ (σ_2 : Sg), kk σ_2 = some rr → AW X 0 0 ad (SHc ++ SHm) σ_2 19 [some (.ref 64), some (.int x1_1), none, none] []) h ?_ (fun k19_3 hk19_3 h => ?_)
  · intro σ_2 h
    refine a_aload_n C eX10_readShop_19 rfl ?_
    obtain ⟨σ_4, hq, h⟩ := b1_e h
    refine a_cVv0 C eX10_readShop_20 wX10_170 ⟨Nat.le_of_ble_eq_true rfl, Nat.le_of_ble_eq_true rfl, rfl, rfl⟩ rfl sh_64 rfl (kX10_goOn hq) (Nat.le_of_ble_eq_true rfl) ?_
    refine a_aload_n C eX10_readShop_23 rfl ?_
    obtain ⟨r_5, hq, h⟩ := b1_e h
    refine a_cVi0 C eX10_readShop_24 wX10_131 ⟨Nat.le_of_ble_eq_true rfl, Nat.le_of_ble_eq_true rfl, rfl, rfl⟩ rfl sh_64 rfl (kX10_isGood hq) (Nat.le_of_ble_eq_true rfl) ?_
    refine jn (fun (kk : Sg → Option Sg) => ∀ (σ_6 : Sg), kk σ_6 = some rr → AW X 0 0 ad (SHc ++ SHm) σ_6 64 [some (.ref 64), some (.int x1_1), none, none] []) h ?_ (fun k64_7 hk64_7 h => ?_)
    · intro σ_6 h
      refine a_aload_n C eX10_readShop_64 rfl ?_
      obtain ⟨r_8, hq, h⟩ := b1_e h
      refine a_cVi0 C eX10_readShop_65 wX10_131 ⟨Nat.le_of_ble_eq_true rfl, Nat.le_of_ble_eq_true rfl, rfl, rfl⟩ rfl sh_64 rfl (kX10_isGood hq) (Nat.le_of_ble_eq_true rfl) ?_
      refine a_if_ne C eX10_readShop_68 (fun hc => ?_) (fun hc => ?_)
      · replace h := ie hc h
        refine a_aload_n C eX10_readShop_72 rfl ?_
        refine a_getR C eX10_readShop_73 fX10_40 sh_64 rfl ?_
        refine a_iload_n C eX10_readShop_76 rfl ?_
        refine a_aload_n C eX10_readShop_77 rfl ?_
        refine a_getI C eX10_readShop_78 fX10_142 sh_64 rfl ?_
        obtain ⟨hb_10, h⟩ := gd h
        refine a_iastL C eX10_readShop_81 sh_75 hb_10 h (fun σ_9 h => ?_)
        refine a_aload_n C eX10_readShop_82 rfl ?_
        obtain ⟨σ_11, hq, h⟩ := b1_e h
        refine a_cVv0 C eX10_readShop_83 wX10_170 ⟨Nat.le_of_ble_eq_true rfl, Nat.le_of_ble_eq_true rfl, rfl, rfl⟩ rfl sh_64 rfl (kX10_goOn hq) (Nat.le_of_ble_eq_true rfl) ?_
        refine a_aload_n C eX10_readShop_86 rfl ?_
        refine a_bipush C eX10_readShop_87 (52 : Int32) c_bipush_52 ?_
        obtain ⟨σ_12, hq, h⟩ := b1_e h
        refine a_cVv1 C eX10_readShop_89 wX10_197 ⟨Nat.le_of_ble_eq_true rfl, Nat.le_of_ble_eq_true rfl, rfl, rfl⟩ rfl sh_64 rfl (kX10_keyword hq) (Nat.le_of_ble_eq_true rfl) ?_
        refine a_aload_n C eX10_readShop_92 rfl ?_
        refine a_getR C eX10_readShop_93 fX10_13 sh_64 rfl ?_
        refine a_bipush C eX10_readShop_96 (6 : Int32) c_bipush_6 ?_
        refine a_iload_n C eX10_readShop_98 rfl ?_
        refine a_iadd C eX10_readShop_99 ?_
        refine a_aload_n C eX10_readShop_100 rfl ?_
        refine a_iconst C eX10_readShop_101 (0 : Int32) c_iconst_0 ?_
        refine a_bipush C eX10_readShop_102 (30 : Int32) c_bipush_30 ?_
        obtain ⟨r_13, σ_14, hq, h⟩ := b2_e h
        refine a_cVi2 C eX10_readShop_104 wX10_180 ⟨Nat.le_of_ble_eq_true rfl, Nat.le_of_ble_eq_true rfl, rfl, rfl⟩ rfl sh_64 rfl (kX10_readNumber hq) (Nat.le_of_ble_eq_true rfl) ?_
        obtain ⟨hb_16, h⟩ := gd h
        refine a_iastL C eX10_readShop_107 sh_66 hb_16 h (fun σ_15 h => ?_)
        refine a_aload_n C eX10_readShop_108 rfl ?_
        refine a_getR C eX10_readShop_109 fX10_16 sh_64 rfl ?_
        refine a_bipush C eX10_readShop_112 (6 : Int32) c_bipush_6 ?_
        refine a_iload_n C eX10_readShop_114 rfl ?_
        refine a_iadd C eX10_readShop_115 ?_
        refine a_aload_n C eX10_readShop_116 rfl ?_
        refine a_iconst C eX10_readShop_117 (0 : Int32) c_iconst_0 ?_
        refine a_bipush C eX10_readShop_118 (30 : Int32) c_bipush_30 ?_
        obtain ⟨r_17, σ_18, hq, h⟩ := b2_e h
        refine a_cVi2 C eX10_readShop_120 wX10_180 ⟨Nat.le_of_ble_eq_true rfl, Nat.le_of_ble_eq_true rfl, rfl, rfl⟩ rfl sh_64 rfl (kX10_readNumber hq) (Nat.le_of_ble_eq_true rfl) ?_
        refine a_iastL C eX10_readShop_123 sh_67 hb_16 h (fun σ_19 h => ?_)
        refine a_aload_n C eX10_readShop_124 rfl ?_
        refine a_ldc C eX10_readShop_125 (20190598 : Int32) wkX10_163 ?_
        obtain ⟨σ_20, hq, h⟩ := b1_e h
        refine a_cVv1 C eX10_readShop_127 wX10_197 ⟨Nat.le_of_ble_eq_true rfl, Nat.le_of_ble_eq_true rfl, rfl, rfl⟩ rfl sh_64 rfl (kX10_keyword hq) (Nat.le_of_ble_eq_true rfl) ?_
        refine a_aload_n C eX10_readShop_130 rfl ?_
        refine a_iconst C eX10_readShop_131 (1 : Int32) c_iconst_1 ?_
        refine a_aload_n C eX10_readShop_132 rfl ?_
        refine a_getR C eX10_readShop_133 fX10_7 sh_64 rfl ?_
        refine a_bipush C eX10_readShop_136 (13 : Int32) c_bipush_13 ?_
        refine a_ialdK C eX10_readShop_138 sh_65 ix_13 (Nat.le_of_ble_eq_true rfl) ?_
        obtain ⟨r_21, σ_22, hq, h⟩ := b2_e h
        refine a_cVi2 C eX10_readShop_139 wX10_180 ⟨Nat.le_of_ble_eq_true rfl, Nat.le_of_ble_eq_true rfl, rfl, rfl⟩ rfl sh_64 rfl (kX10_readNumber hq) (Nat.le_of_ble_eq_true rfl) ?_
        refine a_ist_n C eX10_readShop_142 (Nat.le_of_ble_eq_true rfl) [some (.ref 64), some (.int x1_1), some (.int r_21), none] rfl ?_
        refine a_aload_n C eX10_readShop_143 rfl ?_
        refine a_getR C eX10_readShop_144 fX10_19 sh_64 rfl ?_
        refine a_bipush C eX10_readShop_147 (6 : Int32) c_bipush_6 ?_
        refine a_iload_n C eX10_readShop_149 rfl ?_
        refine a_iadd C eX10_readShop_150 ?_
        refine a_iload_n C eX10_readShop_151 rfl ?_
        refine a_iastL C eX10_readShop_152 sh_68 hb_16 h (fun σ_23 h => ?_)
        refine a_aload_n C eX10_readShop_153 rfl ?_
        refine a_ldc C eX10_readShop_154 (20593771 : Int32) wkX10_164 ?_
        obtain ⟨σ_24, hq, h⟩ := b1_e h
        refine a_cVv1 C eX10_readShop_156 wX10_197 ⟨Nat.le_of_ble_eq_true rfl, Nat.le_of_ble_eq_true rfl, rfl, rfl⟩ rfl sh_64 rfl (kX10_keyword hq) (Nat.le_of_ble_eq_true rfl) ?_
        refine a_aload_n C eX10_readShop_159 rfl ?_
        refine a_getR C eX10_readShop_160 fX10_22 sh_64 rfl ?_
        refine a_bipush C eX10_readShop_163 (6 : Int32) c_bipush_6 ?_
        refine a_iload_n C eX10_readShop_165 rfl ?_
        refine a_iadd C eX10_readShop_166 ?_
        refine a_aload_n C eX10_readShop_167 rfl ?_
        refine a_iconst C eX10_readShop_168 (0 : Int32) c_iconst_0 ?_
        refine a_iload_n C eX10_readShop_169 rfl ?_
        obtain ⟨r_25, σ_26, hq, h⟩ := b2_e h
        refine a_cVi2 C eX10_readShop_170 wX10_180 ⟨Nat.le_of_ble_eq_true rfl, Nat.le_of_ble_eq_true rfl, rfl, rfl⟩ rfl sh_64 rfl (kX10_readNumber hq) (Nat.le_of_ble_eq_true rfl) ?_
        refine a_iastL C eX10_readShop_173 sh_69 hb_16 h (fun σ_27 h => ?_)
        refine a_aload_n C eX10_readShop_174 rfl ?_
        refine a_ldc C eX10_readShop_175 (20099475 : Int32) wkX10_165 ?_
        obtain ⟨σ_28, hq, h⟩ := b1_e h
        refine a_cVv1 C eX10_readShop_177 wX10_197 ⟨Nat.le_of_ble_eq_true rfl, Nat.le_of_ble_eq_true rfl, rfl, rfl⟩ rfl sh_64 rfl (kX10_keyword hq) (Nat.le_of_ble_eq_true rfl) ?_
        refine a_iconst C eX10_readShop_180 (0 : Int32) c_iconst_0 ?_
        refine a_ist_n C eX10_readShop_181 (Nat.le_of_ble_eq_true rfl) [some (.ref 64), some (.int x1_1), some (.int r_21), some (.int (0 : Int32))] rfl ?_
        refine jn (fun (kk : Int32 → Sg → Option Sg) => ∀ (x3_29 : Int32) (σ_30 : Sg), kk x3_29 σ_30 = some rr → AW X 0 0 ad (SHc ++ SHm) σ_30 234 [some (.ref 64), some (.int x1_1), none, some (.int x3_29)] []) h ?_ (fun k234_31 hk234_31 h => ?_)
        · intro x3_29 σ_30 h
          refine a_aload_n C eX10_readShop_234 rfl ?_
          refine a_getR C eX10_readShop_235 fX10_25 sh_64 rfl ?_
          refine a_bipush C eX10_readShop_238 (6 : Int32) c_bipush_6 ?_
          refine a_iload_n C eX10_readShop_240 rfl ?_
          refine a_iadd C eX10_readShop_241 ?_
          refine a_iload_n C eX10_readShop_242 rfl ?_
          refine a_iastL C eX10_readShop_243 sh_70 hb_16 h (fun σ_32 h => ?_)
          refine a_aload_n C eX10_readShop_244 rfl ?_
          refine a_getR C eX10_readShop_245 fX10_7 sh_64 rfl ?_
          refine a_bipush C eX10_readShop_248 (18 : Int32) c_bipush_18 ?_
          refine a_dup2 C eX10_readShop_250 rfl rfl ?_
          refine a_ialdK C eX10_readShop_251 sh_65 ix_18 (Nat.le_of_ble_eq_true rfl) ?_
          refine a_iconst C eX10_readShop_252 (1 : Int32) c_iconst_1 ?_
          refine a_iadd C eX10_readShop_253 ?_
          refine a_iastK C eX10_readShop_254 sh_65 ix_18 (Nat.le_of_ble_eq_true rfl) h (fun σ_33 h => ?_)
          exact rt_v R eX10_readShop_255 h
        exact a_less (lle_same (lle_same (lle_drop (lle_same lle_nil)))) (lX10_readShop_182  C R hk234_31 _ _ _ h)
      · replace h := it hc h
        exact rt_v R eX10_readShop_71 h
    refine jn (fun (kk : Option Sg) => kk = some rr → AW X 0 0 ad (SHc ++ SHm) σ_4 45 [some (.ref 64), some (.int x1_1), none, none] []) h ?_ (fun k45_43 hk45_43 h => ?_)
    · intro h
      refine a_aload_n C eX10_readShop_45 rfl ?_
      obtain ⟨r_44, hq, h⟩ := b1_e h
      refine a_cVi0 C eX10_readShop_46 wX10_131 ⟨Nat.le_of_ble_eq_true rfl, Nat.le_of_ble_eq_true rfl, rfl, rfl⟩ rfl sh_64 rfl (kX10_isGood hq) (Nat.le_of_ble_eq_true rfl) ?_
      refine a_if_eq C eX10_readShop_49 (fun hc => ?_) (fun hc => ?_)
      · replace h := it hc h
        exact a_less (lle_same (lle_same (lle_same (lle_same lle_nil)))) (hk64_7 _ h)
      · replace h := ie hc h
        refine a_aload_n C eX10_readShop_52 rfl ?_
        obtain ⟨r_45, hq, h⟩ := b1_e h
        refine a_cVi0 C eX10_readShop_53 wX10_194 ⟨Nat.le_of_ble_eq_true rfl, Nat.le_of_ble_eq_true rfl, rfl, rfl⟩ rfl sh_64 rfl (kX10_called hq) (Nat.le_of_ble_eq_true rfl) ?_
        refine a_if_lt C eX10_readShop_56 (fun hc => ?_) (fun hc => ?_)
        · replace h := it hc h
          exact a_less (lle_same (lle_same (lle_same (lle_same lle_nil)))) (hk64_7 _ h)
        · replace h := ie hc h
          refine a_aload_n C eX10_readShop_59 rfl ?_
          refine a_iconst C eX10_readShop_60 (3 : Int32) c_iconst_3 ?_
          obtain ⟨σ_46, hq, h⟩ := b1_e h
          refine a_cVv1 C eX10_readShop_61 wX10_167 ⟨Nat.le_of_ble_eq_true rfl, Nat.le_of_ble_eq_true rfl, rfl, rfl⟩ rfl sh_64 rfl (kX10_fails hq) (Nat.le_of_ble_eq_true rfl) ?_
          exact a_less (lle_same (lle_same (lle_same (lle_same lle_nil)))) (hk64_7 _ h)
    refine a_if_eq C eX10_readShop_27 (fun hc => ?_) (fun hc => ?_)
    · replace h := it hc h
      exact a_less (lle_same (lle_same (lle_same (lle_same lle_nil)))) (hk45_43 h)
    · replace h := ie hc h
      refine a_aload_n C eX10_readShop_30 rfl ?_
      obtain ⟨r_47, hq, h⟩ := b1_e h
      refine a_cVi0 C eX10_readShop_31 wX10_191 ⟨Nat.le_of_ble_eq_true rfl, Nat.le_of_ble_eq_true rfl, rfl, rfl⟩ rfl sh_64 rfl (kX10_isName hq) (Nat.le_of_ble_eq_true rfl) ?_
      refine a_if_ne C eX10_readShop_34 (fun hc => ?_) (fun hc => ?_)
      · replace h := ie hc h
        exact a_less (lle_same (lle_same (lle_same (lle_same lle_nil)))) (hk45_43 h)
      · replace h := it hc h
        refine a_aload_n C eX10_readShop_37 rfl ?_
        refine a_iconst C eX10_readShop_38 (2 : Int32) c_iconst_2 ?_
        obtain ⟨σ_48, hq, h⟩ := b1_e h
        refine a_cVv1 C eX10_readShop_39 wX10_167 ⟨Nat.le_of_ble_eq_true rfl, Nat.le_of_ble_eq_true rfl, rfl, rfl⟩ rfl sh_64 rfl (kX10_fails hq) (Nat.le_of_ble_eq_true rfl) ?_
        refine a_goto C eX10_readShop_42 ?_
        exact a_less (lle_same (lle_same (lle_same (lle_same lle_nil)))) (hk64_7 _ h)
  refine a_icmp_ne C eX10_readShop_11 (fun hc => ?_) (fun hc => ?_)
  · replace h := ie hc h
    exact a_less (lle_same (lle_same (lle_same (lle_same lle_nil)))) (hk19_3 _ h)
  · replace h := it hc h
    refine a_aload_n C eX10_readShop_14 rfl ?_
    refine a_iconst C eX10_readShop_15 (5 : Int32) c_iconst_5 ?_
    obtain ⟨σ_49, hq, h⟩ := b1_e h
    refine a_cVv1 C eX10_readShop_16 wX10_167 ⟨Nat.le_of_ble_eq_true rfl, Nat.le_of_ble_eq_true rfl, rfl, rfl⟩ rfl sh_64 rfl (kX10_fails hq) (Nat.le_of_ble_eq_true rfl) ?_
    exact a_less (lle_same (lle_same (lle_same (lle_same lle_nil)))) (hk19_3 _ h)
/-! ShelfDrivesModel.readRush()V -/
def XX10_readRush (σ : Sg) : Option Sg := lt (σ 65 19) (fun (x1_1 : Int32) => lt (fun (σ_2 : Sg) => b1 (XX10_goOn σ_2) (fun (σ_4 : Sg) => b1 (XX10_isGood σ_4) (fun (r_5 : Int32) => lt (fun (s_6 : Int32) => b1 (XX10_isGood σ_4) (fun (r_8 : Int32) => lt (fun (σ_9 : Sg) => b1 (XX10_goOn σ_9) (fun (σ_11 : Sg) => b2 (XX10_readNumber (0 : Int32) ((σ_11 65 10) - (1 : Int32)) σ_11) (fun (r_12 : Int32) (σ_13 : Sg) => b2 (XX10_readNumber (1 : Int32) (60 : Int32) σ_13) (fun (r_14 : Int32) (σ_15 : Sg) => b1 (XX10_isGood σ_15) (fun (r_16 : Int32) => if r_16 = 0 then (some σ_15) else (if ib ((12 : Int32) + x1_1) 24 then lt (up σ_15 72 ((12 : Int32) + x1_1).toNatClampNeg s_6) (fun (σ_17 : Sg) => lt (up σ_17 73 ((12 : Int32) + x1_1).toNatClampNeg r_12) (fun (σ_19 : Sg) => lt (up σ_19 74 ((12 : Int32) + x1_1).toNatClampNeg r_14) (fun (σ_20 : Sg) => lt (up σ_20 65 19 ((σ_20 65 19) + (1 : Int32))) (fun (σ_21 : Sg) => some σ_21)))) else none)))))) (fun (k73_10 : Sg → Option Sg) => if r_8 = 0 then (k73_10 σ_4) else (if 0 ≤ s_6 then (k73_10 σ_4) else (b1 (XX10_isName σ_4) (fun (r_22 : Int32) => lt (fun (s_23 : Int32) => b1 (XX10_fails s_23 σ_4) (fun (σ_25 : Sg) => k73_10 σ_25)) (fun (k70_24 : Int32 → Option Sg) => if r_22 = 0 then (k70_24 (2 : Int32)) else (k70_24 (3 : Int32))))))))) (fun (k45_7 : Int32 → Option Sg) => lt (k45_7 (-1 : Int32)) (fun (k44_26 : Option Sg) => if r_5 = 0 then (k44_26) else (b1 (XX10_isName σ_4) (fun (r_27 : Int32) => if r_27 = 0 then (k44_26) else (b1 (XX10_called σ_4) (fun (r_28 : Int32) => k45_7 r_28))))))))) (fun (k19_3 : Sg → Option Sg) => if x1_1 = (12 : Int32) then (b1 (XX10_fails (5 : Int32) σ) (fun (σ_29 : Sg) => k19_3 σ_29)) else (k19_3 σ)))
theorem kX10_readRush {σ : Sg} {rr : Sg}  (h : XX10_readRush σ = some rr) : Cv MX10_readRush [.ref 64] (SHc ++ SHm) σ rr := by
  refine Cv.start rfl rfl (Nat.le_of_ble_eq_true rfl) rfl ?_
  intro X ad C R
  replace C : Cx X cX10_readRush 5 RX10 none { frames := 3, cells := 0, slots := 0, locals := 65 } := C
  replace R : Rv X cX10_readRush ad (SHc ++ SHm) rr := R
  show AW X 0 0 ad (SHc ++ SHm) σ 0 [some (.ref 64), none, none, none, none] []
  rw [XX10_readRush] at h
  refine a_aload_n C eX10_readRush_0 rfl ?_
  refine a_getR C eX10_readRush_1 fX10_7 sh_64 rfl ?_
  refine a_bipush C eX10_readRush_4 (19 : Int32) c_bipush_19 ?_
  refine a_ialdK C eX10_readRush_6 sh_65 ix_19 (Nat.le_of_ble_eq_true rfl) ?_
  refine a_lt h (fun x1_1 h => ?_)
  refine a_ist_n C eX10_readRush_7 (Nat.le_of_ble_eq_true rfl) [some (.ref 64), some (.int x1_1), none, none, none] rfl ?_
  refine a_iload_n C eX10_readRush_8 rfl ?_
  refine a_bipush C eX10_readRush_9 (12 : Int32) c_bipush_12 ?_
  refine jn (fun (kk : Sg → Option Sg) => ∀ (σ_2 : Sg), kk σ_2 = some rr → AW X 0 0 ad (SHc ++ SHm) σ_2 19 [some (.ref 64), some (.int x1_1), none, none, none] []) h ?_ (fun k19_3 hk19_3 h => ?_)
  · intro σ_2 h
    refine a_aload_n C eX10_readRush_19 rfl ?_
    obtain ⟨σ_4, hq, h⟩ := b1_e h
    refine a_cVv0 C eX10_readRush_20 wX10_170 ⟨Nat.le_of_ble_eq_true rfl, Nat.le_of_ble_eq_true rfl, rfl, rfl⟩ rfl sh_64 rfl (kX10_goOn hq) (Nat.le_of_ble_eq_true rfl) ?_
    refine a_aload_n C eX10_readRush_23 rfl ?_
    obtain ⟨r_5, hq, h⟩ := b1_e h
    refine a_cVi0 C eX10_readRush_24 wX10_131 ⟨Nat.le_of_ble_eq_true rfl, Nat.le_of_ble_eq_true rfl, rfl, rfl⟩ rfl sh_64 rfl (kX10_isGood hq) (Nat.le_of_ble_eq_true rfl) ?_
    refine jn (fun (kk : Int32 → Option Sg) => ∀ (s_6 : Int32), kk s_6 = some rr → AW X 0 0 ad (SHc ++ SHm) σ_4 45 [some (.ref 64), some (.int x1_1), none, none, none] [.int s_6]) h ?_ (fun k45_7 hk45_7 h => ?_)
    · intro s_6 h
      refine a_ist_n C eX10_readRush_45 (Nat.le_of_ble_eq_true rfl) [some (.ref 64), some (.int x1_1), some (.int s_6), none, none] rfl ?_
      refine a_aload_n C eX10_readRush_46 rfl ?_
      obtain ⟨r_8, hq, h⟩ := b1_e h
      refine a_cVi0 C eX10_readRush_47 wX10_131 ⟨Nat.le_of_ble_eq_true rfl, Nat.le_of_ble_eq_true rfl, rfl, rfl⟩ rfl sh_64 rfl (kX10_isGood hq) (Nat.le_of_ble_eq_true rfl) ?_
      refine jn (fun (kk : Sg → Option Sg) => ∀ (σ_9 : Sg), kk σ_9 = some rr → AW X 0 0 ad (SHc ++ SHm) σ_9 73 [some (.ref 64), some (.int x1_1), some (.int s_6), none, none] []) h ?_ (fun k73_10 hk73_10 h => ?_)
      · intro σ_9 h
        refine a_aload_n C eX10_readRush_73 rfl ?_
        obtain ⟨σ_11, hq, h⟩ := b1_e h
        refine a_cVv0 C eX10_readRush_74 wX10_170 ⟨Nat.le_of_ble_eq_true rfl, Nat.le_of_ble_eq_true rfl, rfl, rfl⟩ rfl sh_64 rfl (kX10_goOn hq) (Nat.le_of_ble_eq_true rfl) ?_
        refine a_aload_n C eX10_readRush_77 rfl ?_
        refine a_iconst C eX10_readRush_78 (0 : Int32) c_iconst_0 ?_
        refine a_aload_n C eX10_readRush_79 rfl ?_
        refine a_getR C eX10_readRush_80 fX10_7 sh_64 rfl ?_
        refine a_bipush C eX10_readRush_83 (10 : Int32) c_bipush_10 ?_
        refine a_ialdK C eX10_readRush_85 sh_65 ix_10 (Nat.le_of_ble_eq_true rfl) ?_
        refine a_iconst C eX10_readRush_86 (1 : Int32) c_iconst_1 ?_
        refine a_isub C eX10_readRush_87 ?_
        obtain ⟨r_12, σ_13, hq, h⟩ := b2_e h
        refine a_cVi2 C eX10_readRush_88 wX10_180 ⟨Nat.le_of_ble_eq_true rfl, Nat.le_of_ble_eq_true rfl, rfl, rfl⟩ rfl sh_64 rfl (kX10_readNumber hq) (Nat.le_of_ble_eq_true rfl) ?_
        refine a_ist_n C eX10_readRush_91 (Nat.le_of_ble_eq_true rfl) [some (.ref 64), some (.int x1_1), some (.int s_6), some (.int r_12), none] rfl ?_
        refine a_aload_n C eX10_readRush_92 rfl ?_
        refine a_iconst C eX10_readRush_93 (1 : Int32) c_iconst_1 ?_
        refine a_bipush C eX10_readRush_94 (60 : Int32) c_bipush_60 ?_
        obtain ⟨r_14, σ_15, hq, h⟩ := b2_e h
        refine a_cVi2 C eX10_readRush_96 wX10_180 ⟨Nat.le_of_ble_eq_true rfl, Nat.le_of_ble_eq_true rfl, rfl, rfl⟩ rfl sh_64 rfl (kX10_readNumber hq) (Nat.le_of_ble_eq_true rfl) ?_
        refine a_ist C eX10_readRush_99 (Nat.le_of_ble_eq_true rfl) [some (.ref 64), some (.int x1_1), some (.int s_6), some (.int r_12), some (.int r_14)] rfl ?_
        refine a_aload_n C eX10_readRush_101 rfl ?_
        obtain ⟨r_16, hq, h⟩ := b1_e h
        refine a_cVi0 C eX10_readRush_102 wX10_131 ⟨Nat.le_of_ble_eq_true rfl, Nat.le_of_ble_eq_true rfl, rfl, rfl⟩ rfl sh_64 rfl (kX10_isGood hq) (Nat.le_of_ble_eq_true rfl) ?_
        refine a_if_ne C eX10_readRush_105 (fun hc => ?_) (fun hc => ?_)
        · replace h := ie hc h
          refine a_aload_n C eX10_readRush_109 rfl ?_
          refine a_getR C eX10_readRush_110 fX10_31 sh_64 rfl ?_
          refine a_bipush C eX10_readRush_113 (12 : Int32) c_bipush_12 ?_
          refine a_iload_n C eX10_readRush_115 rfl ?_
          refine a_iadd C eX10_readRush_116 ?_
          refine a_iload_n C eX10_readRush_117 rfl ?_
          obtain ⟨hb_18, h⟩ := gd h
          refine a_iastL C eX10_readRush_118 sh_72 hb_18 h (fun σ_17 h => ?_)
          refine a_aload_n C eX10_readRush_119 rfl ?_
          refine a_getR C eX10_readRush_120 fX10_34 sh_64 rfl ?_
          refine a_bipush C eX10_readRush_123 (12 : Int32) c_bipush_12 ?_
          refine a_iload_n C eX10_readRush_125 rfl ?_
          refine a_iadd C eX10_readRush_126 ?_
          refine a_iload_n C eX10_readRush_127 rfl ?_
          refine a_iastL C eX10_readRush_128 sh_73 hb_18 h (fun σ_19 h => ?_)
          refine a_aload_n C eX10_readRush_129 rfl ?_
          refine a_getR C eX10_readRush_130 fX10_37 sh_64 rfl ?_
          refine a_bipush C eX10_readRush_133 (12 : Int32) c_bipush_12 ?_
          refine a_iload_n C eX10_readRush_135 rfl ?_
          refine a_iadd C eX10_readRush_136 ?_
          refine a_iload C eX10_readRush_137 rfl ?_
          refine a_iastL C eX10_readRush_139 sh_74 hb_18 h (fun σ_20 h => ?_)
          refine a_aload_n C eX10_readRush_140 rfl ?_
          refine a_getR C eX10_readRush_141 fX10_7 sh_64 rfl ?_
          refine a_bipush C eX10_readRush_144 (19 : Int32) c_bipush_19 ?_
          refine a_dup2 C eX10_readRush_146 rfl rfl ?_
          refine a_ialdK C eX10_readRush_147 sh_65 ix_19 (Nat.le_of_ble_eq_true rfl) ?_
          refine a_iconst C eX10_readRush_148 (1 : Int32) c_iconst_1 ?_
          refine a_iadd C eX10_readRush_149 ?_
          refine a_iastK C eX10_readRush_150 sh_65 ix_19 (Nat.le_of_ble_eq_true rfl) h (fun σ_21 h => ?_)
          exact rt_v R eX10_readRush_151 h
        · replace h := it hc h
          exact rt_v R eX10_readRush_108 h
      refine a_if_eq C eX10_readRush_50 (fun hc => ?_) (fun hc => ?_)
      · replace h := it hc h
        exact a_less (lle_same (lle_same (lle_same (lle_same (lle_same lle_nil))))) (hk73_10 _ h)
      · replace h := ie hc h
        refine a_iload_n C eX10_readRush_53 rfl ?_
        refine a_if_ge C eX10_readRush_54 (fun hc => ?_) (fun hc => ?_)
        · replace h := it hc h
          exact a_less (lle_same (lle_same (lle_same (lle_same (lle_same lle_nil))))) (hk73_10 _ h)
        · replace h := ie hc h
          refine a_aload_n C eX10_readRush_57 rfl ?_
          refine a_aload_n C eX10_readRush_58 rfl ?_
          obtain ⟨r_22, hq, h⟩ := b1_e h
          refine a_cVi0 C eX10_readRush_59 wX10_191 ⟨Nat.le_of_ble_eq_true rfl, Nat.le_of_ble_eq_true rfl, rfl, rfl⟩ rfl sh_64 rfl (kX10_isName hq) (Nat.le_of_ble_eq_true rfl) ?_
          refine jn (fun (kk : Int32 → Option Sg) => ∀ (s_23 : Int32), kk s_23 = some rr → AW X 0 0 ad (SHc ++ SHm) σ_4 70 [some (.ref 64), some (.int x1_1), some (.int s_6), none, none] [.int s_23, .ref 64]) h ?_ (fun k70_24 hk70_24 h => ?_)
          · intro s_23 h
            obtain ⟨σ_25, hq, h⟩ := b1_e h
            refine a_cVv1 C eX10_readRush_70 wX10_167 ⟨Nat.le_of_ble_eq_true rfl, Nat.le_of_ble_eq_true rfl, rfl, rfl⟩ rfl sh_64 rfl (kX10_fails hq) (Nat.le_of_ble_eq_true rfl) ?_
            exact a_less (lle_same (lle_same (lle_same (lle_same (lle_same lle_nil))))) (hk73_10 _ h)
          refine a_if_eq C eX10_readRush_62 (fun hc => ?_) (fun hc => ?_)
          · replace h := it hc h
            refine a_iconst C eX10_readRush_69 (2 : Int32) c_iconst_2 ?_
            exact a_less (lle_same (lle_same (lle_same (lle_same (lle_same lle_nil))))) (hk70_24 _ h)
          · replace h := ie hc h
            refine a_iconst C eX10_readRush_65 (3 : Int32) c_iconst_3 ?_
            refine a_goto C eX10_readRush_66 ?_
            exact a_less (lle_same (lle_same (lle_same (lle_same (lle_same lle_nil))))) (hk70_24 _ h)
    refine jn (fun (kk : Option Sg) => kk = some rr → AW X 0 0 ad (SHc ++ SHm) σ_4 44 [some (.ref 64), some (.int x1_1), none, none, none] []) h ?_ (fun k44_26 hk44_26 h => ?_)
    · intro h
      refine a_iconst C eX10_readRush_44 (-1 : Int32) c_iconst_m1 ?_
      exact a_less (lle_same (lle_same (lle_same (lle_same (lle_same lle_nil))))) (hk45_7 _ h)
    refine a_if_eq C eX10_readRush_27 (fun hc => ?_) (fun hc => ?_)
    · replace h := it hc h
      exact a_less (lle_same (lle_same (lle_same (lle_same (lle_same lle_nil))))) (hk44_26 h)
    · replace h := ie hc h
      refine a_aload_n C eX10_readRush_30 rfl ?_
      obtain ⟨r_27, hq, h⟩ := b1_e h
      refine a_cVi0 C eX10_readRush_31 wX10_191 ⟨Nat.le_of_ble_eq_true rfl, Nat.le_of_ble_eq_true rfl, rfl, rfl⟩ rfl sh_64 rfl (kX10_isName hq) (Nat.le_of_ble_eq_true rfl) ?_
      refine a_if_eq C eX10_readRush_34 (fun hc => ?_) (fun hc => ?_)
      · replace h := it hc h
        exact a_less (lle_same (lle_same (lle_same (lle_same (lle_same lle_nil))))) (hk44_26 h)
      · replace h := ie hc h
        refine a_aload_n C eX10_readRush_37 rfl ?_
        obtain ⟨r_28, hq, h⟩ := b1_e h
        refine a_cVi0 C eX10_readRush_38 wX10_194 ⟨Nat.le_of_ble_eq_true rfl, Nat.le_of_ble_eq_true rfl, rfl, rfl⟩ rfl sh_64 rfl (kX10_called hq) (Nat.le_of_ble_eq_true rfl) ?_
        refine a_goto C eX10_readRush_41 ?_
        exact a_less (lle_same (lle_same (lle_same (lle_same (lle_same lle_nil))))) (hk45_7 _ h)
  refine a_icmp_ne C eX10_readRush_11 (fun hc => ?_) (fun hc => ?_)
  · replace h := ie hc h
    exact a_less (lle_same (lle_same (lle_same (lle_same (lle_same lle_nil))))) (hk19_3 _ h)
  · replace h := it hc h
    refine a_aload_n C eX10_readRush_14 rfl ?_
    refine a_iconst C eX10_readRush_15 (5 : Int32) c_iconst_5 ?_
    obtain ⟨σ_29, hq, h⟩ := b1_e h
    refine a_cVv1 C eX10_readRush_16 wX10_167 ⟨Nat.le_of_ble_eq_true rfl, Nat.le_of_ble_eq_true rfl, rfl, rfl⟩ rfl sh_64 rfl (kX10_fails hq) (Nat.le_of_ble_eq_true rfl) ?_
    exact a_less (lle_same (lle_same (lle_same (lle_same (lle_same lle_nil))))) (hk19_3 _ h)
/-! ShelfDrivesModel.readLine()V -/
def XX10_readLine (σ : Sg) : Option Sg := b1 (XX10_isWord (132915 : Int32) σ) (fun (r_1 : Int32) => lt (fun (σ_2 : Sg) => b1 (XX10_isGood σ_2) (fun (r_4 : Int32) => lt (fun (σ_5 : Sg) => b1 (XX10_goOn σ_5) (fun (σ_7 : Sg) => some σ_7)) (fun (k195_6 : Sg → Option Sg) => if r_4 = 0 then (k195_6 σ_2) else (if (σ_2 64 18) = (3 : Int32) then (k195_6 σ_2) else (b1 (XX10_fails (2 : Int32) σ_2) (fun (σ_8 : Sg) => k195_6 σ_8)))))) (fun (k175_3 : Sg → Option Sg) => if r_1 = 0 then (b1 (XX10_isWord (4375028 : Int32) σ) (fun (r_9 : Int32) => if r_9 = 0 then (b1 (XX10_isWord (21582955 : Int32) σ) (fun (r_10 : Int32) => if r_10 = 0 then (b1 (XX10_isWord (277892 : Int32) σ) (fun (r_11 : Int32) => if r_11 = 0 then (b1 (XX10_isWord (409204 : Int32) σ) (fun (r_12 : Int32) => if r_12 = 0 then (b1 (XX10_isWord (631280 : Int32) σ) (fun (r_13 : Int32) => if r_13 = 0 then (b1 (XX10_isWord (611944 : Int32) σ) (fun (r_14 : Int32) => if r_14 = 0 then (b1 (XX10_fails (2 : Int32) σ) (fun (σ_15 : Sg) => k175_3 σ_15)) else (b1 (XX10_readRush σ) (fun (σ_16 : Sg) => k175_3 σ_16)))) else (b1 (XX10_readShop σ) (fun (σ_17 : Sg) => k175_3 σ_17)))) else (b2 (XX10_begins (4 : Int32) σ) (fun (r_18 : Int32) (σ_19 : Sg) => if r_18 = 0 then (k175_3 σ_19) else (b1 (XX10_reads (7 : Int32) (0 : Int32) (99 : Int32) σ_19) (fun (σ_20 : Sg) => k175_3 σ_20)))))) else (b2 (XX10_begins (3 : Int32) σ) (fun (r_21 : Int32) (σ_22 : Sg) => if r_21 = 0 then (k175_3 σ_22) else (b1 (XX10_reads (6 : Int32) (0 : Int32) (9 : Int32) σ_22) (fun (σ_23 : Sg) => k175_3 σ_23)))))) else (b1 (XX10_readTruck σ) (fun (σ_24 : Sg) => k175_3 σ_24)))) else (b2 (XX10_begins (1 : Int32) σ) (fun (r_25 : Int32) (σ_26 : Sg) => if r_25 = 0 then (k175_3 σ_26) else (b1 (XX10_reads (1 : Int32) (0 : Int32) (30 : Int32) σ_26) (fun (σ_27 : Sg) => b1 (XX10_reads (2 : Int32) (0 : Int32) (30 : Int32) σ_27) (fun (σ_28 : Sg) => k175_3 σ_28))))))) else (b2 (XX10_begins (0 : Int32) σ) (fun (r_29 : Int32) (σ_30 : Sg) => if r_29 = 0 then (k175_3 σ_30) else (b1 (XX10_reads (0 : Int32) (1 : Int32) (14 : Int32) σ_30) (fun (σ_31 : Sg) => k175_3 σ_31))))))
theorem kX10_readLine {σ : Sg} {rr : Sg}  (h : XX10_readLine σ = some rr) : Cv MX10_readLine [.ref 64] (SHc ++ SHm) σ rr := by
  refine Cv.start rfl rfl (Nat.le_of_ble_eq_true rfl) rfl ?_
  intro X ad C R
  replace C : Cx X cX10_readLine 1 RX10 none { frames := 5, cells := 0, slots := 0, locals := 109 } := C
  replace R : Rv X cX10_readLine ad (SHc ++ SHm) rr := R
  show AW X 0 0 ad (SHc ++ SHm) σ 0 [some (.ref 64)] []
  rw [XX10_readLine] at h
  refine a_aload_n C eX10_readLine_0 rfl ?_
  refine a_ldc C eX10_readLine_1 (132915 : Int32) wkX10_152 ?_
  obtain ⟨r_1, hq, h⟩ := b1_e h
  refine a_cVi1 C eX10_readLine_3 wX10_153 ⟨Nat.le_of_ble_eq_true rfl, Nat.le_of_ble_eq_true rfl, rfl, rfl⟩ rfl sh_64 rfl (kX10_isWord hq) (Nat.le_of_ble_eq_true rfl) ?_
  refine jn (fun (kk : Sg → Option Sg) => ∀ (σ_2 : Sg), kk σ_2 = some rr → AW X 0 0 ad (SHc ++ SHm) σ_2 175 [some (.ref 64)] []) h ?_ (fun k175_3 hk175_3 h => ?_)
  · intro σ_2 h
    refine a_aload_n C eX10_readLine_175 rfl ?_
    obtain ⟨r_4, hq, h⟩ := b1_e h
    refine a_cVi0 C eX10_readLine_176 wX10_131 ⟨Nat.le_of_ble_eq_true rfl, Nat.le_of_ble_eq_true rfl, rfl, rfl⟩ rfl sh_64 rfl (kX10_isGood hq) (Nat.le_of_ble_eq_true rfl) ?_
    refine jn (fun (kk : Sg → Option Sg) => ∀ (σ_5 : Sg), kk σ_5 = some rr → AW X 0 0 ad (SHc ++ SHm) σ_5 195 [some (.ref 64)] []) h ?_ (fun k195_6 hk195_6 h => ?_)
    · intro σ_5 h
      refine a_aload_n C eX10_readLine_195 rfl ?_
      obtain ⟨σ_7, hq, h⟩ := b1_e h
      refine a_cVv0 C eX10_readLine_196 wX10_170 ⟨Nat.le_of_ble_eq_true rfl, Nat.le_of_ble_eq_true rfl, rfl, rfl⟩ rfl sh_64 rfl (kX10_goOn hq) (Nat.le_of_ble_eq_true rfl) ?_
      exact rt_v R eX10_readLine_199 h
    refine a_if_eq C eX10_readLine_179 (fun hc => ?_) (fun hc => ?_)
    · replace h := it hc h
      exact a_less (lle_same lle_nil) (hk195_6 _ h)
    · replace h := ie hc h
      refine a_aload_n C eX10_readLine_182 rfl ?_
      refine a_getI C eX10_readLine_183 fX10_122 sh_64 rfl ?_
      refine a_iconst C eX10_readLine_186 (3 : Int32) c_iconst_3 ?_
      refine a_icmp_eq C eX10_readLine_187 (fun hc => ?_) (fun hc => ?_)
      · replace h := it hc h
        exact a_less (lle_same lle_nil) (hk195_6 _ h)
      · replace h := ie hc h
        refine a_aload_n C eX10_readLine_190 rfl ?_
        refine a_iconst C eX10_readLine_191 (2 : Int32) c_iconst_2 ?_
        obtain ⟨σ_8, hq, h⟩ := b1_e h
        refine a_cVv1 C eX10_readLine_192 wX10_167 ⟨Nat.le_of_ble_eq_true rfl, Nat.le_of_ble_eq_true rfl, rfl, rfl⟩ rfl sh_64 rfl (kX10_fails hq) (Nat.le_of_ble_eq_true rfl) ?_
        exact a_less (lle_same lle_nil) (hk195_6 _ h)
  refine a_if_eq C eX10_readLine_6 (fun hc => ?_) (fun hc => ?_)
  · replace h := it hc h
    refine a_aload_n C eX10_readLine_28 rfl ?_
    refine a_ldc C eX10_readLine_29 (4375028 : Int32) wkX10_156 ?_
    obtain ⟨r_9, hq, h⟩ := b1_e h
    refine a_cVi1 C eX10_readLine_31 wX10_153 ⟨Nat.le_of_ble_eq_true rfl, Nat.le_of_ble_eq_true rfl, rfl, rfl⟩ rfl sh_64 rfl (kX10_isWord hq) (Nat.le_of_ble_eq_true rfl) ?_
    refine a_if_eq C eX10_readLine_34 (fun hc => ?_) (fun hc => ?_)
    · replace h := it hc h
      refine a_aload_n C eX10_readLine_64 rfl ?_
      refine a_ldc C eX10_readLine_65 (21582955 : Int32) wkX10_157 ?_
      obtain ⟨r_10, hq, h⟩ := b1_e h
      refine a_cVi1 C eX10_readLine_67 wX10_153 ⟨Nat.le_of_ble_eq_true rfl, Nat.le_of_ble_eq_true rfl, rfl, rfl⟩ rfl sh_64 rfl (kX10_isWord hq) (Nat.le_of_ble_eq_true rfl) ?_
      refine a_if_eq C eX10_readLine_70 (fun hc => ?_) (fun hc => ?_)
      · replace h := it hc h
        refine a_aload_n C eX10_readLine_80 rfl ?_
        refine a_ldc C eX10_readLine_81 (277892 : Int32) wkX10_160 ?_
        obtain ⟨r_11, hq, h⟩ := b1_e h
        refine a_cVi1 C eX10_readLine_83 wX10_153 ⟨Nat.le_of_ble_eq_true rfl, Nat.le_of_ble_eq_true rfl, rfl, rfl⟩ rfl sh_64 rfl (kX10_isWord hq) (Nat.le_of_ble_eq_true rfl) ?_
        refine a_if_eq C eX10_readLine_86 (fun hc => ?_) (fun hc => ?_)
        · replace h := it hc h
          refine a_aload_n C eX10_readLine_109 rfl ?_
          refine a_ldc C eX10_readLine_110 (409204 : Int32) wkX10_161 ?_
          obtain ⟨r_12, hq, h⟩ := b1_e h
          refine a_cVi1 C eX10_readLine_112 wX10_153 ⟨Nat.le_of_ble_eq_true rfl, Nat.le_of_ble_eq_true rfl, rfl, rfl⟩ rfl sh_64 rfl (kX10_isWord hq) (Nat.le_of_ble_eq_true rfl) ?_
          refine a_if_eq C eX10_readLine_115 (fun hc => ?_) (fun hc => ?_)
          · replace h := it hc h
            refine a_aload_n C eX10_readLine_138 rfl ?_
            refine a_ldc C eX10_readLine_139 (631280 : Int32) wkX10_162 ?_
            obtain ⟨r_13, hq, h⟩ := b1_e h
            refine a_cVi1 C eX10_readLine_141 wX10_153 ⟨Nat.le_of_ble_eq_true rfl, Nat.le_of_ble_eq_true rfl, rfl, rfl⟩ rfl sh_64 rfl (kX10_isWord hq) (Nat.le_of_ble_eq_true rfl) ?_
            refine a_if_eq C eX10_readLine_144 (fun hc => ?_) (fun hc => ?_)
            · replace h := it hc h
              refine a_aload_n C eX10_readLine_154 rfl ?_
              refine a_ldc C eX10_readLine_155 (611944 : Int32) wkX10_166 ?_
              obtain ⟨r_14, hq, h⟩ := b1_e h
              refine a_cVi1 C eX10_readLine_157 wX10_153 ⟨Nat.le_of_ble_eq_true rfl, Nat.le_of_ble_eq_true rfl, rfl, rfl⟩ rfl sh_64 rfl (kX10_isWord hq) (Nat.le_of_ble_eq_true rfl) ?_
              refine a_if_eq C eX10_readLine_160 (fun hc => ?_) (fun hc => ?_)
              · replace h := it hc h
                refine a_aload_n C eX10_readLine_170 rfl ?_
                refine a_iconst C eX10_readLine_171 (2 : Int32) c_iconst_2 ?_
                obtain ⟨σ_15, hq, h⟩ := b1_e h
                refine a_cVv1 C eX10_readLine_172 wX10_167 ⟨Nat.le_of_ble_eq_true rfl, Nat.le_of_ble_eq_true rfl, rfl, rfl⟩ rfl sh_64 rfl (kX10_fails hq) (Nat.le_of_ble_eq_true rfl) ?_
                exact a_less (lle_same lle_nil) (hk175_3 _ h)
              · replace h := ie hc h
                refine a_aload_n C eX10_readLine_163 rfl ?_
                obtain ⟨σ_16, hq, h⟩ := b1_e h
                refine a_cVv0 C eX10_readLine_164 wX10_206 ⟨Nat.le_of_ble_eq_true rfl, Nat.le_of_ble_eq_true rfl, rfl, rfl⟩ rfl sh_64 rfl (kX10_readRush hq) (Nat.le_of_ble_eq_true rfl) ?_
                refine a_goto C eX10_readLine_167 ?_
                exact a_less (lle_same lle_nil) (hk175_3 _ h)
            · replace h := ie hc h
              refine a_aload_n C eX10_readLine_147 rfl ?_
              obtain ⟨σ_17, hq, h⟩ := b1_e h
              refine a_cVv0 C eX10_readLine_148 wX10_203 ⟨Nat.le_of_ble_eq_true rfl, Nat.le_of_ble_eq_true rfl, rfl, rfl⟩ rfl sh_64 rfl (kX10_readShop hq) (Nat.le_of_ble_eq_true rfl) ?_
              refine a_goto C eX10_readLine_151 ?_
              exact a_less (lle_same lle_nil) (hk175_3 _ h)
          · replace h := ie hc h
            refine a_aload_n C eX10_readLine_118 rfl ?_
            refine a_iconst C eX10_readLine_119 (4 : Int32) c_iconst_4 ?_
            obtain ⟨r_18, σ_19, hq, h⟩ := b2_e h
            refine a_cVi1 C eX10_readLine_120 wX10_184 ⟨Nat.le_of_ble_eq_true rfl, Nat.le_of_ble_eq_true rfl, rfl, rfl⟩ rfl sh_64 rfl (kX10_begins hq) (Nat.le_of_ble_eq_true rfl) ?_
            refine a_if_eq C eX10_readLine_123 (fun hc => ?_) (fun hc => ?_)
            · replace h := it hc h
              exact a_less (lle_same lle_nil) (hk175_3 _ h)
            · replace h := ie hc h
              refine a_aload_n C eX10_readLine_126 rfl ?_
              refine a_bipush C eX10_readLine_127 (7 : Int32) c_bipush_7 ?_
              refine a_iconst C eX10_readLine_129 (0 : Int32) c_iconst_0 ?_
              refine a_bipush C eX10_readLine_130 (99 : Int32) c_bipush_99 ?_
              obtain ⟨σ_20, hq, h⟩ := b1_e h
              refine a_cVv3 C eX10_readLine_132 wX10_187 ⟨Nat.le_of_ble_eq_true rfl, Nat.le_of_ble_eq_true rfl, rfl, rfl⟩ rfl sh_64 rfl (kX10_reads hq) (Nat.le_of_ble_eq_true rfl) ?_
              refine a_goto C eX10_readLine_135 ?_
              exact a_less (lle_same lle_nil) (hk175_3 _ h)
        · replace h := ie hc h
          refine a_aload_n C eX10_readLine_89 rfl ?_
          refine a_iconst C eX10_readLine_90 (3 : Int32) c_iconst_3 ?_
          obtain ⟨r_21, σ_22, hq, h⟩ := b2_e h
          refine a_cVi1 C eX10_readLine_91 wX10_184 ⟨Nat.le_of_ble_eq_true rfl, Nat.le_of_ble_eq_true rfl, rfl, rfl⟩ rfl sh_64 rfl (kX10_begins hq) (Nat.le_of_ble_eq_true rfl) ?_
          refine a_if_eq C eX10_readLine_94 (fun hc => ?_) (fun hc => ?_)
          · replace h := it hc h
            exact a_less (lle_same lle_nil) (hk175_3 _ h)
          · replace h := ie hc h
            refine a_aload_n C eX10_readLine_97 rfl ?_
            refine a_bipush C eX10_readLine_98 (6 : Int32) c_bipush_6 ?_
            refine a_iconst C eX10_readLine_100 (0 : Int32) c_iconst_0 ?_
            refine a_bipush C eX10_readLine_101 (9 : Int32) c_bipush_9 ?_
            obtain ⟨σ_23, hq, h⟩ := b1_e h
            refine a_cVv3 C eX10_readLine_103 wX10_187 ⟨Nat.le_of_ble_eq_true rfl, Nat.le_of_ble_eq_true rfl, rfl, rfl⟩ rfl sh_64 rfl (kX10_reads hq) (Nat.le_of_ble_eq_true rfl) ?_
            refine a_goto C eX10_readLine_106 ?_
            exact a_less (lle_same lle_nil) (hk175_3 _ h)
      · replace h := ie hc h
        refine a_aload_n C eX10_readLine_73 rfl ?_
        obtain ⟨σ_24, hq, h⟩ := b1_e h
        refine a_cVv0 C eX10_readLine_74 wX10_200 ⟨Nat.le_of_ble_eq_true rfl, Nat.le_of_ble_eq_true rfl, rfl, rfl⟩ rfl sh_64 rfl (kX10_readTruck hq) (Nat.le_of_ble_eq_true rfl) ?_
        refine a_goto C eX10_readLine_77 ?_
        exact a_less (lle_same lle_nil) (hk175_3 _ h)
    · replace h := ie hc h
      refine a_aload_n C eX10_readLine_37 rfl ?_
      refine a_iconst C eX10_readLine_38 (1 : Int32) c_iconst_1 ?_
      obtain ⟨r_25, σ_26, hq, h⟩ := b2_e h
      refine a_cVi1 C eX10_readLine_39 wX10_184 ⟨Nat.le_of_ble_eq_true rfl, Nat.le_of_ble_eq_true rfl, rfl, rfl⟩ rfl sh_64 rfl (kX10_begins hq) (Nat.le_of_ble_eq_true rfl) ?_
      refine a_if_eq C eX10_readLine_42 (fun hc => ?_) (fun hc => ?_)
      · replace h := it hc h
        exact a_less (lle_same lle_nil) (hk175_3 _ h)
      · replace h := ie hc h
        refine a_aload_n C eX10_readLine_45 rfl ?_
        refine a_iconst C eX10_readLine_46 (1 : Int32) c_iconst_1 ?_
        refine a_iconst C eX10_readLine_47 (0 : Int32) c_iconst_0 ?_
        refine a_bipush C eX10_readLine_48 (30 : Int32) c_bipush_30 ?_
        obtain ⟨σ_27, hq, h⟩ := b1_e h
        refine a_cVv3 C eX10_readLine_50 wX10_187 ⟨Nat.le_of_ble_eq_true rfl, Nat.le_of_ble_eq_true rfl, rfl, rfl⟩ rfl sh_64 rfl (kX10_reads hq) (Nat.le_of_ble_eq_true rfl) ?_
        refine a_aload_n C eX10_readLine_53 rfl ?_
        refine a_iconst C eX10_readLine_54 (2 : Int32) c_iconst_2 ?_
        refine a_iconst C eX10_readLine_55 (0 : Int32) c_iconst_0 ?_
        refine a_bipush C eX10_readLine_56 (30 : Int32) c_bipush_30 ?_
        obtain ⟨σ_28, hq, h⟩ := b1_e h
        refine a_cVv3 C eX10_readLine_58 wX10_187 ⟨Nat.le_of_ble_eq_true rfl, Nat.le_of_ble_eq_true rfl, rfl, rfl⟩ rfl sh_64 rfl (kX10_reads hq) (Nat.le_of_ble_eq_true rfl) ?_
        refine a_goto C eX10_readLine_61 ?_
        exact a_less (lle_same lle_nil) (hk175_3 _ h)
  · replace h := ie hc h
    refine a_aload_n C eX10_readLine_9 rfl ?_
    refine a_iconst C eX10_readLine_10 (0 : Int32) c_iconst_0 ?_
    obtain ⟨r_29, σ_30, hq, h⟩ := b2_e h
    refine a_cVi1 C eX10_readLine_11 wX10_184 ⟨Nat.le_of_ble_eq_true rfl, Nat.le_of_ble_eq_true rfl, rfl, rfl⟩ rfl sh_64 rfl (kX10_begins hq) (Nat.le_of_ble_eq_true rfl) ?_
    refine a_if_eq C eX10_readLine_14 (fun hc => ?_) (fun hc => ?_)
    · replace h := it hc h
      exact a_less (lle_same lle_nil) (hk175_3 _ h)
    · replace h := ie hc h
      refine a_aload_n C eX10_readLine_17 rfl ?_
      refine a_iconst C eX10_readLine_18 (0 : Int32) c_iconst_0 ?_
      refine a_iconst C eX10_readLine_19 (1 : Int32) c_iconst_1 ?_
      refine a_bipush C eX10_readLine_20 (14 : Int32) c_bipush_14 ?_
      obtain ⟨σ_31, hq, h⟩ := b1_e h
      refine a_cVv3 C eX10_readLine_22 wX10_187 ⟨Nat.le_of_ble_eq_true rfl, Nat.le_of_ble_eq_true rfl, rfl, rfl⟩ rfl sh_64 rfl (kX10_reads hq) (Nat.le_of_ble_eq_true rfl) ?_
      refine a_goto C eX10_readLine_25 ?_
      exact a_less (lle_same lle_nil) (hk175_3 _ h)
/-! ShelfDrivesModel.far(II)I -/
def XX10_far (p1 : Int32) (p2 : Int32) (σ : Sg) : Option Int32 := lt (fun (s_1 : Int32) => lt (fun (s_3 : Int32) => lt (s_1 - s_3) (fun (x3_5 : Int32) => lt (fun (s_6 : Int32) => lt (fun (s_8 : Int32) => lt (s_6 - s_8) (fun (x4_10 : Int32) => lt (fun (s_11 : Int32) => if 0 ≤ x4_10 then (some (s_11 + x4_10)) else (some (s_11 + (-x4_10)))) (fun (k95_12 : Int32 → Option Int32) => if 0 ≤ x3_5 then (k95_12 x3_5) else (k95_12 (-x3_5))))) (fun (k82_9 : Int32 → Option Int32) => if p2 = (6 : Int32) then (b1 (XX10_number (2 : Int32) σ) (fun (r_14 : Int32) => k82_9 r_14)) else (if ib p2 12 then k82_9 (σ 67 p2.toNatClampNeg) else none))) (fun (k62_7 : Int32 → Option Int32) => if p1 = (6 : Int32) then (b1 (XX10_number (2 : Int32) σ) (fun (r_16 : Int32) => k62_7 r_16)) else (if ib p1 12 then k62_7 (σ 67 p1.toNatClampNeg) else none)))) (fun (k40_4 : Int32 → Option Int32) => if p2 = (6 : Int32) then (b1 (XX10_number (1 : Int32) σ) (fun (r_18 : Int32) => k40_4 r_18)) else (if ib p2 12 then k40_4 (σ 66 p2.toNatClampNeg) else none))) (fun (k20_2 : Int32 → Option Int32) => if p1 = (6 : Int32) then (b1 (XX10_number (1 : Int32) σ) (fun (r_20 : Int32) => k20_2 r_20)) else (if ib p1 12 then k20_2 (σ 66 p1.toNatClampNeg) else none))
theorem kX10_far {p1 : Int32} {p2 : Int32} {σ : Sg} {rr : Int32}  (h : XX10_far p1 p2 σ = some rr) : Ci MX10_far [.ref 64, .int p1, .int p2] (SHc ++ SHm) σ (rr, σ) := by
  refine Ci.start rfl rfl (Nat.le_of_ble_eq_true rfl) ?_
  intro X ad C R
  replace C : Cx X cX10_far 5 RX10 (some .int) { frames := 1, cells := 0, slots := 0, locals := 21 } := C
  replace R : Ri X cX10_far (some .int) ad (SHc ++ SHm) (rr, σ) := R
  show AW X 0 0 ad (SHc ++ SHm) σ 0 [some (.ref 64), some (.int p1), some (.int p2), none, none] []
  rw [XX10_far] at h
  refine a_iload_n C eX10_far_0 rfl ?_
  refine a_bipush C eX10_far_1 (6 : Int32) c_bipush_6 ?_
  refine jn (fun (kk : Int32 → Option Int32) => ∀ (s_1 : Int32), kk s_1 = some rr → AW X 0 0 ad (SHc ++ SHm) σ 20 [some (.ref 64), some (.int p1), some (.int p2), none, none] [.int s_1]) h ?_ (fun k20_2 hk20_2 h => ?_)
  · intro s_1 h
    refine a_iload_n C eX10_far_20 rfl ?_
    refine a_bipush C eX10_far_21 (6 : Int32) c_bipush_6 ?_
    refine jn (fun (kk : Int32 → Option Int32) => ∀ (s_3 : Int32), kk s_3 = some rr → AW X 0 0 ad (SHc ++ SHm) σ 40 [some (.ref 64), some (.int p1), some (.int p2), none, none] [.int s_3, .int s_1]) h ?_ (fun k40_4 hk40_4 h => ?_)
    · intro s_3 h
      refine a_isub C eX10_far_40 ?_
      refine a_lt h (fun x3_5 h => ?_)
      refine a_ist_n C eX10_far_41 (Nat.le_of_ble_eq_true rfl) [some (.ref 64), some (.int p1), some (.int p2), some (.int x3_5), none] rfl ?_
      refine a_iload_n C eX10_far_42 rfl ?_
      refine a_bipush C eX10_far_43 (6 : Int32) c_bipush_6 ?_
      refine jn (fun (kk : Int32 → Option Int32) => ∀ (s_6 : Int32), kk s_6 = some rr → AW X 0 0 ad (SHc ++ SHm) σ 62 [some (.ref 64), none, some (.int p2), some (.int x3_5), none] [.int s_6]) h ?_ (fun k62_7 hk62_7 h => ?_)
      · intro s_6 h
        refine a_iload_n C eX10_far_62 rfl ?_
        refine a_bipush C eX10_far_63 (6 : Int32) c_bipush_6 ?_
        refine jn (fun (kk : Int32 → Option Int32) => ∀ (s_8 : Int32), kk s_8 = some rr → AW X 0 0 ad (SHc ++ SHm) σ 82 [none, none, none, some (.int x3_5), none] [.int s_8, .int s_6]) h ?_ (fun k82_9 hk82_9 h => ?_)
        · intro s_8 h
          refine a_isub C eX10_far_82 ?_
          refine a_lt h (fun x4_10 h => ?_)
          refine a_ist C eX10_far_83 (Nat.le_of_ble_eq_true rfl) [none, none, none, some (.int x3_5), some (.int x4_10)] rfl ?_
          refine a_iload_n C eX10_far_85 rfl ?_
          refine jn (fun (kk : Int32 → Option Int32) => ∀ (s_11 : Int32), kk s_11 = some rr → AW X 0 0 ad (SHc ++ SHm) σ 95 [none, none, none, none, some (.int x4_10)] [.int s_11]) h ?_ (fun k95_12 hk95_12 h => ?_)
          · intro s_11 h
            refine a_iload C eX10_far_95 rfl ?_
            refine a_if_ge C eX10_far_97 (fun hc => ?_) (fun hc => ?_)
            · replace h := it hc h
              refine a_iload C eX10_far_106 rfl ?_
              refine a_iadd C eX10_far_108 ?_
              exact rt_p R eX10_far_109 h nb_int
            · replace h := ie hc h
              refine a_iload C eX10_far_100 rfl ?_
              refine a_ineg C eX10_far_102 ?_
              refine a_goto C eX10_far_103 ?_
              refine a_iadd C eX10_far_108 ?_
              exact rt_p R eX10_far_109 h nb_int
          refine a_if_ge C eX10_far_86 (fun hc => ?_) (fun hc => ?_)
          · replace h := it hc h
            refine a_iload_n C eX10_far_94 rfl ?_
            exact a_less (lle_same (lle_same (lle_same (lle_drop (lle_same lle_nil))))) (hk95_12 _ h)
          · replace h := ie hc h
            refine a_iload_n C eX10_far_89 rfl ?_
            refine a_ineg C eX10_far_90 ?_
            refine a_goto C eX10_far_91 ?_
            exact a_less (lle_same (lle_same (lle_same (lle_drop (lle_same lle_nil))))) (hk95_12 _ h)
        refine a_icmp_ne C eX10_far_65 (fun hc => ?_) (fun hc => ?_)
        · replace h := ie hc h
          refine a_aload_n C eX10_far_76 rfl ?_
          refine a_getR C eX10_far_77 fX10_16 sh_64 rfl ?_
          refine a_iload_n C eX10_far_80 rfl ?_
          obtain ⟨hb_13, h⟩ := gd h
          refine a_iald C eX10_far_81 sh_67 hb_13 ?_
          exact a_less (lle_drop (lle_same (lle_drop (lle_same (lle_same lle_nil))))) (hk82_9 _ h)
        · replace h := it hc h
          refine a_aload_n C eX10_far_68 rfl ?_
          refine a_iconst C eX10_far_69 (2 : Int32) c_iconst_2 ?_
          obtain ⟨r_14, hq, h⟩ := b1_e h
          refine a_cVi1 C eX10_far_70 wX10_224 ⟨Nat.le_of_ble_eq_true rfl, Nat.le_of_ble_eq_true rfl, rfl, rfl⟩ rfl sh_64 rfl (kX10_number hq) (Nat.le_of_ble_eq_true rfl) ?_
          refine a_goto C eX10_far_73 ?_
          exact a_less (lle_drop (lle_same (lle_drop (lle_same (lle_same lle_nil))))) (hk82_9 _ h)
      refine a_icmp_ne C eX10_far_45 (fun hc => ?_) (fun hc => ?_)
      · replace h := ie hc h
        refine a_aload_n C eX10_far_56 rfl ?_
        refine a_getR C eX10_far_57 fX10_16 sh_64 rfl ?_
        refine a_iload_n C eX10_far_60 rfl ?_
        obtain ⟨hb_15, h⟩ := gd h
        refine a_iald C eX10_far_61 sh_67 hb_15 ?_
        exact a_less (lle_same (lle_drop (lle_same (lle_same (lle_same lle_nil))))) (hk62_7 _ h)
      · replace h := it hc h
        refine a_aload_n C eX10_far_48 rfl ?_
        refine a_iconst C eX10_far_49 (2 : Int32) c_iconst_2 ?_
        obtain ⟨r_16, hq, h⟩ := b1_e h
        refine a_cVi1 C eX10_far_50 wX10_224 ⟨Nat.le_of_ble_eq_true rfl, Nat.le_of_ble_eq_true rfl, rfl, rfl⟩ rfl sh_64 rfl (kX10_number hq) (Nat.le_of_ble_eq_true rfl) ?_
        refine a_goto C eX10_far_53 ?_
        exact a_less (lle_same (lle_drop (lle_same (lle_same (lle_same lle_nil))))) (hk62_7 _ h)
    refine a_icmp_ne C eX10_far_23 (fun hc => ?_) (fun hc => ?_)
    · replace h := ie hc h
      refine a_aload_n C eX10_far_34 rfl ?_
      refine a_getR C eX10_far_35 fX10_13 sh_64 rfl ?_
      refine a_iload_n C eX10_far_38 rfl ?_
      obtain ⟨hb_17, h⟩ := gd h
      refine a_iald C eX10_far_39 sh_66 hb_17 ?_
      exact a_less (lle_same (lle_same (lle_same (lle_same (lle_same lle_nil))))) (hk40_4 _ h)
    · replace h := it hc h
      refine a_aload_n C eX10_far_26 rfl ?_
      refine a_iconst C eX10_far_27 (1 : Int32) c_iconst_1 ?_
      obtain ⟨r_18, hq, h⟩ := b1_e h
      refine a_cVi1 C eX10_far_28 wX10_224 ⟨Nat.le_of_ble_eq_true rfl, Nat.le_of_ble_eq_true rfl, rfl, rfl⟩ rfl sh_64 rfl (kX10_number hq) (Nat.le_of_ble_eq_true rfl) ?_
      refine a_goto C eX10_far_31 ?_
      exact a_less (lle_same (lle_same (lle_same (lle_same (lle_same lle_nil))))) (hk40_4 _ h)
  refine a_icmp_ne C eX10_far_3 (fun hc => ?_) (fun hc => ?_)
  · replace h := ie hc h
    refine a_aload_n C eX10_far_14 rfl ?_
    refine a_getR C eX10_far_15 fX10_13 sh_64 rfl ?_
    refine a_iload_n C eX10_far_18 rfl ?_
    obtain ⟨hb_19, h⟩ := gd h
    refine a_iald C eX10_far_19 sh_66 hb_19 ?_
    exact a_less (lle_same (lle_same (lle_same (lle_same (lle_same lle_nil))))) (hk20_2 _ h)
  · replace h := it hc h
    refine a_aload_n C eX10_far_6 rfl ?_
    refine a_iconst C eX10_far_7 (1 : Int32) c_iconst_1 ?_
    obtain ⟨r_20, hq, h⟩ := b1_e h
    refine a_cVi1 C eX10_far_8 wX10_224 ⟨Nat.le_of_ble_eq_true rfl, Nat.le_of_ble_eq_true rfl, rfl, rfl⟩ rfl sh_64 rfl (kX10_number hq) (Nat.le_of_ble_eq_true rfl) ?_
    refine a_goto C eX10_far_11 ?_
    exact a_less (lle_same (lle_same (lle_same (lle_same (lle_same lle_nil))))) (hk20_2 _ h)
/-! ShelfDrivesModel.layWays()V -/
def LX10_layWays_56 (x1_1 : Int32) (x2_7 : Int32) (σ_8 : Sg) (k133_16 : Int32 → Option Sg) : Nat → Int32 → Int32 → Option Sg
  | 0, _, _ => none
  | n + 1, x3_19, x4_20 => b1 (XX10_shops σ_8) (fun (r_21 : Int32) => if r_21 ≤ x4_20 then (k133_16 x3_19) else (b1 (XX10_isOf x1_1 x4_20) (fun (r_22 : Int32) => lt (fun (s_23 : Int32) => lt (fun (s_25 : Int32) => lt (x4_20 + (1 : Int32)) (fun (x4_27 : Int32) => LX10_layWays_56 x1_1 x2_7 σ_8 k133_16 n s_25 x4_27)) (fun (k126_26 : Int32 → Option Sg) => lt (k126_26 x3_19) (fun (k120_28 : Option Sg) => if s_23 < 0 then (k120_28) else (lt (k126_26 s_23) (fun (k124_29 : Option Sg) => if x3_19 < 0 then (k124_29) else (if s_23 < x3_19 then (k124_29) else (k120_28))))))) (fun (k103_24 : Int32 → Option Sg) => if r_22 = 0 then (k103_24 (-1 : Int32)) else (b1 (XX10_far x2_7 x4_20 σ_8) (fun (r_30 : Int32) => if ib (((64 : Int32) * x4_20) + (x1_1 ^^^ ((1 : Int32) <<< (x4_20 &&& 31)))) 448 then k103_24 (r_30 + (σ_8 77 (((64 : Int32) * x4_20) + (x1_1 ^^^ ((1 : Int32) <<< (x4_20 &&& 31)))).toNatClampNeg)) else none))))))
def LX10_layWays_14 (x1_1 : Int32) (k151_5 : Sg → Option Sg) : Nat → Int32 → Sg → Option Sg
  | 0, _, _ => none
  | n + 1, x2_7, σ_8 => if (6 : Int32) < x2_7 then (k151_5 σ_8) else (lt (fun (σ_9 : Sg) => lt (x2_7 + (1 : Int32)) (fun (x2_11 : Int32) => LX10_layWays_14 x1_1 k151_5 n x2_11 σ_9)) (fun (k145_10 : Sg → Option Sg) => lt (lt (fun (s_13 : Int32) => lt (fun (x3_15 : Int32) => if ib (((64 : Int32) * x2_7) + x1_1) 448 then lt (up σ_8 77 (((64 : Int32) * x2_7) + x1_1).toNatClampNeg x3_15) (fun (σ_17 : Sg) => k145_10 σ_17) else none) (fun (k133_16 : Int32 → Option Sg) => LX10_layWays_56 x1_1 x2_7 σ_8 k133_16 FUEL s_13 (0 : Int32))) (fun (k52_14 : Int32 → Option Sg) => if x1_1 = 0 then (b1 (XX10_far x2_7 (6 : Int32) σ_8) (fun (r_32 : Int32) => k52_14 r_32)) else (k52_14 (-1 : Int32)))) (fun (k37_12 : Option Sg) => if (6 : Int32) ≤ x2_7 then (k37_12) else (b1 (XX10_shops σ_8) (fun (r_33 : Int32) => if x2_7 < r_33 then (k37_12) else (k145_10 σ_8))))))
def LX10_layWays_2 : Nat → Int32 → Sg → Option Sg
  | 0, _, _ => none
  | n + 1, x1_1, σ_2 => b1 (XX10_shops σ_2) (fun (r_3 : Int32) => if ((1 : Int32) <<< (r_3 &&& 31)) ≤ x1_1 then (some σ_2) else (lt (fun (σ_4 : Sg) => lt (x1_1 + (1 : Int32)) (fun (x1_6 : Int32) => LX10_layWays_2 n x1_6 σ_4)) (fun (k151_5 : Sg → Option Sg) => LX10_layWays_14 x1_1 k151_5 FUEL (0 : Int32) σ_2)))
def XX10_layWays (σ : Sg) : Option Sg := LX10_layWays_2 FUEL (0 : Int32) σ
theorem lX10_layWays_56 {X : CT} {ad : Nat → Nat} {rr : Sg} {x1_1 : Int32} {x2_7 : Int32} {σ_8 : Sg} {k133_16 : Int32 → Option Sg}  (C : Cx X cX10_layWays 6 RX10 none { frames := 2, cells := 0, slots := 0, locals := 45 }) (R : Rv X cX10_layWays ad (SHc ++ SHm) rr) (hk133_16 : ∀ (x3_15 : Int32), k133_16 x3_15 = some rr → AW X 0 0 ad (SHc ++ SHm) σ_8 133 [some (.ref 64), some (.int x1_1), some (.int x2_7), some (.int x3_15), none, none] []) : ∀ (n : Nat) (x3_19 : Int32) (x4_20 : Int32), LX10_layWays_56 x1_1 x2_7 σ_8 k133_16 n x3_19 x4_20 = some rr → AW X 0 0 ad (SHc ++ SHm) σ_8 56 [some (.ref 64), some (.int x1_1), some (.int x2_7), some (.int x3_19), some (.int x4_20), none] [] := by
  intro n
  induction n with
  | zero =>
    intro x3_19 x4_20 h
    rw [LX10_layWays_56] at h
    cases h
  | succ n ih =>
    intro x3_19 x4_20 h
    rw [LX10_layWays_56] at h
    refine a_iload C eX10_layWays_56 rfl ?_
    refine a_aload_n C eX10_layWays_58 rfl ?_
    obtain ⟨r_21, hq, h⟩ := b1_e h
    refine a_cVi0 C eX10_layWays_59 wX10_98 ⟨Nat.le_of_ble_eq_true rfl, Nat.le_of_ble_eq_true rfl, rfl, rfl⟩ rfl sh_64 rfl (kX10_shops hq) (Nat.le_of_ble_eq_true rfl) ?_
    refine a_icmp_ge C eX10_layWays_62 (fun hc => ?_) (fun hc => ?_)
    · replace h := it hc h
      exact a_less (lle_same (lle_same (lle_same (lle_same (lle_drop (lle_same lle_nil)))))) (hk133_16 _ h)
    · replace h := ie hc h
      refine a_iload_n C eX10_layWays_65 rfl ?_
      refine a_iload C eX10_layWays_66 rfl ?_
      obtain ⟨r_22, hq, h⟩ := b1_e h
      refine a_cSi2 C eX10_layWays_68 wX10_176 ⟨Nat.le_of_ble_eq_true rfl, Nat.le_of_ble_eq_true rfl, rfl, rfl⟩ rfl (kX10_isOf hq) (Nat.le_of_ble_eq_true rfl) ?_
      refine jn (fun (kk : Int32 → Option Sg) => ∀ (s_23 : Int32), kk s_23 = some rr → AW X 0 0 ad (SHc ++ SHm) σ_8 103 [some (.ref 64), some (.int x1_1), some (.int x2_7), some (.int x3_19), some (.int x4_20), none] [.int s_23]) h ?_ (fun k103_24 hk103_24 h => ?_)
      · intro s_23 h
        refine a_ist C eX10_layWays_103 (Nat.le_of_ble_eq_true rfl) [some (.ref 64), some (.int x1_1), some (.int x2_7), some (.int x3_19), some (.int x4_20), some (.int s_23)] rfl ?_
        refine a_iload C eX10_layWays_105 rfl ?_
        refine jn (fun (kk : Int32 → Option Sg) => ∀ (s_25 : Int32), kk s_25 = some rr → AW X 0 0 ad (SHc ++ SHm) σ_8 126 [some (.ref 64), some (.int x1_1), some (.int x2_7), none, some (.int x4_20), none] [.int s_25]) h ?_ (fun k126_26 hk126_26 h => ?_)
        · intro s_25 h
          refine a_ist_n C eX10_layWays_126 (Nat.le_of_ble_eq_true rfl) [some (.ref 64), some (.int x1_1), some (.int x2_7), some (.int s_25), some (.int x4_20), none] rfl ?_
          refine a_inc C eX10_layWays_127 rfl c_iconst_1 h (fun z => [some (.ref 64), some (.int x1_1), some (.int x2_7), some (.int s_25), some (.int z), none]) (fun _ => rfl) (fun x4_27 h => ?_)
          refine a_goto C eX10_layWays_130 ?_
          exact a_less (lle_same (lle_same (lle_same (lle_same (lle_same (lle_same lle_nil)))))) (ih _ _ h)
        refine jn (fun (kk : Option Sg) => kk = some rr → AW X 0 0 ad (SHc ++ SHm) σ_8 120 [some (.ref 64), some (.int x1_1), some (.int x2_7), some (.int x3_19), some (.int x4_20), none] []) h ?_ (fun k120_28 hk120_28 h => ?_)
        · intro h
          refine a_iload_n C eX10_layWays_120 rfl ?_
          refine a_goto C eX10_layWays_121 ?_
          exact a_less (lle_same (lle_same (lle_same (lle_drop (lle_same (lle_same lle_nil)))))) (hk126_26 _ h)
        refine a_if_lt C eX10_layWays_107 (fun hc => ?_) (fun hc => ?_)
        · replace h := it hc h
          exact a_less (lle_same (lle_same (lle_same (lle_same (lle_same (lle_drop lle_nil)))))) (hk120_28 h)
        · replace h := ie hc h
          refine a_iload_n C eX10_layWays_110 rfl ?_
          refine jn (fun (kk : Option Sg) => kk = some rr → AW X 0 0 ad (SHc ++ SHm) σ_8 124 [some (.ref 64), some (.int x1_1), some (.int x2_7), none, some (.int x4_20), some (.int s_23)] []) h ?_ (fun k124_29 hk124_29 h => ?_)
          · intro h
            refine a_iload C eX10_layWays_124 rfl ?_
            exact a_less (lle_same (lle_same (lle_same (lle_same (lle_same (lle_drop lle_nil)))))) (hk126_26 _ h)
          refine a_if_lt C eX10_layWays_111 (fun hc => ?_) (fun hc => ?_)
          · replace h := it hc h
            exact a_less (lle_same (lle_same (lle_same (lle_drop (lle_same (lle_same lle_nil)))))) (hk124_29 h)
          · replace h := ie hc h
            refine a_iload C eX10_layWays_114 rfl ?_
            refine a_iload_n C eX10_layWays_116 rfl ?_
            refine a_icmp_lt C eX10_layWays_117 (fun hc => ?_) (fun hc => ?_)
            · replace h := it hc h
              exact a_less (lle_same (lle_same (lle_same (lle_drop (lle_same (lle_same lle_nil)))))) (hk124_29 h)
            · replace h := ie hc h
              exact a_less (lle_same (lle_same (lle_same (lle_same (lle_same (lle_drop lle_nil)))))) (hk120_28 h)
      refine a_if_eq C eX10_layWays_71 (fun hc => ?_) (fun hc => ?_)
      · replace h := it hc h
        refine a_iconst C eX10_layWays_102 (-1 : Int32) c_iconst_m1 ?_
        exact a_less (lle_same (lle_same (lle_same (lle_same (lle_same (lle_same lle_nil)))))) (hk103_24 _ h)
      · replace h := ie hc h
        refine a_aload_n C eX10_layWays_74 rfl ?_
        refine a_iload_n C eX10_layWays_75 rfl ?_
        refine a_iload C eX10_layWays_76 rfl ?_
        obtain ⟨r_30, hq, h⟩ := b1_e h
        refine a_cVi2 C eX10_layWays_78 wX10_227 ⟨Nat.le_of_ble_eq_true rfl, Nat.le_of_ble_eq_true rfl, rfl, rfl⟩ rfl sh_64 rfl (kX10_far hq) (Nat.le_of_ble_eq_true rfl) ?_
        refine a_aload_n C eX10_layWays_81 rfl ?_
        refine a_getR C eX10_layWays_82 fX10_50 sh_64 rfl ?_
        refine a_bipush C eX10_layWays_85 (64 : Int32) c_bipush_64 ?_
        refine a_iload C eX10_layWays_87 rfl ?_
        refine a_imul C eX10_layWays_89 ?_
        refine a_iload_n C eX10_layWays_90 rfl ?_
        refine a_iconst C eX10_layWays_91 (1 : Int32) c_iconst_1 ?_
        refine a_iload C eX10_layWays_92 rfl ?_
        refine a_ishl C eX10_layWays_94 ?_
        refine a_ixor C eX10_layWays_95 ?_
        refine a_iadd C eX10_layWays_96 ?_
        obtain ⟨hb_31, h⟩ := gd h
        refine a_iald C eX10_layWays_97 sh_77 hb_31 ?_
        refine a_iadd C eX10_layWays_98 ?_
        refine a_goto C eX10_layWays_99 ?_
        exact a_less (lle_same (lle_same (lle_same (lle_same (lle_same (lle_same lle_nil)))))) (hk103_24 _ h)
theorem lX10_layWays_14 {X : CT} {ad : Nat → Nat} {rr : Sg} {x1_1 : Int32} {k151_5 : Sg → Option Sg}  (C : Cx X cX10_layWays 6 RX10 none { frames := 2, cells := 0, slots := 0, locals := 45 }) (R : Rv X cX10_layWays ad (SHc ++ SHm) rr) (hk151_5 : ∀ (σ_4 : Sg), k151_5 σ_4 = some rr → AW X 0 0 ad (SHc ++ SHm) σ_4 151 [some (.ref 64), some (.int x1_1), none, none, none, none] []) : ∀ (n : Nat) (x2_7 : Int32) (σ_8 : Sg), LX10_layWays_14 x1_1 k151_5 n x2_7 σ_8 = some rr → AW X 0 0 ad (SHc ++ SHm) σ_8 14 [some (.ref 64), some (.int x1_1), some (.int x2_7), none, none, none] [] := by
  intro n
  induction n with
  | zero =>
    intro x2_7 σ_8 h
    rw [LX10_layWays_14] at h
    cases h
  | succ n ih =>
    intro x2_7 σ_8 h
    rw [LX10_layWays_14] at h
    refine a_iload_n C eX10_layWays_14 rfl ?_
    refine a_bipush C eX10_layWays_15 (6 : Int32) c_bipush_6 ?_
    refine a_icmp_gt C eX10_layWays_17 (fun hc => ?_) (fun hc => ?_)
    · replace h := it hc h
      exact a_less (lle_same (lle_same (lle_drop (lle_same (lle_same (lle_same lle_nil)))))) (hk151_5 _ h)
    · replace h := ie hc h
      refine a_iload_n C eX10_layWays_20 rfl ?_
      refine a_bipush C eX10_layWays_21 (6 : Int32) c_bipush_6 ?_
      refine jn (fun (kk : Sg → Option Sg) => ∀ (σ_9 : Sg), kk σ_9 = some rr → AW X 0 0 ad (SHc ++ SHm) σ_9 145 [some (.ref 64), some (.int x1_1), some (.int x2_7), none, none, none] []) h ?_ (fun k145_10 hk145_10 h => ?_)
      · intro σ_9 h
        refine a_inc C eX10_layWays_145 rfl c_iconst_1 h (fun z => [some (.ref 64), some (.int x1_1), some (.int z), none, none, none]) (fun _ => rfl) (fun x2_11 h => ?_)
        refine a_goto C eX10_layWays_148 ?_
        exact a_less (lle_same (lle_same (lle_same (lle_same (lle_same (lle_same lle_nil)))))) (ih _ _ h)
      refine jn (fun (kk : Option Sg) => kk = some rr → AW X 0 0 ad (SHc ++ SHm) σ_8 37 [some (.ref 64), some (.int x1_1), some (.int x2_7), none, none, none] []) h ?_ (fun k37_12 hk37_12 h => ?_)
      · intro h
        refine a_iload_n C eX10_layWays_37 rfl ?_
        refine jn (fun (kk : Int32 → Option Sg) => ∀ (s_13 : Int32), kk s_13 = some rr → AW X 0 0 ad (SHc ++ SHm) σ_8 52 [some (.ref 64), some (.int x1_1), some (.int x2_7), none, none, none] [.int s_13]) h ?_ (fun k52_14 hk52_14 h => ?_)
        · intro s_13 h
          refine a_ist_n C eX10_layWays_52 (Nat.le_of_ble_eq_true rfl) [some (.ref 64), some (.int x1_1), some (.int x2_7), some (.int s_13), none, none] rfl ?_
          refine a_iconst C eX10_layWays_53 (0 : Int32) c_iconst_0 ?_
          refine a_ist C eX10_layWays_54 (Nat.le_of_ble_eq_true rfl) [some (.ref 64), some (.int x1_1), some (.int x2_7), some (.int s_13), some (.int (0 : Int32)), none] rfl ?_
          refine jn (fun (kk : Int32 → Option Sg) => ∀ (x3_15 : Int32), kk x3_15 = some rr → AW X 0 0 ad (SHc ++ SHm) σ_8 133 [some (.ref 64), some (.int x1_1), some (.int x2_7), some (.int x3_15), none, none] []) h ?_ (fun k133_16 hk133_16 h => ?_)
          · intro x3_15 h
            refine a_aload_n C eX10_layWays_133 rfl ?_
            refine a_getR C eX10_layWays_134 fX10_50 sh_64 rfl ?_
            refine a_bipush C eX10_layWays_137 (64 : Int32) c_bipush_64 ?_
            refine a_iload_n C eX10_layWays_139 rfl ?_
            refine a_imul C eX10_layWays_140 ?_
            refine a_iload_n C eX10_layWays_141 rfl ?_
            refine a_iadd C eX10_layWays_142 ?_
            refine a_iload_n C eX10_layWays_143 rfl ?_
            obtain ⟨hb_18, h⟩ := gd h
            refine a_iastL C eX10_layWays_144 sh_77 hb_18 h (fun σ_17 h => ?_)
            exact a_less (lle_same (lle_same (lle_same (lle_drop (lle_same (lle_same lle_nil)))))) (hk145_10 _ h)
          exact a_less (lle_same (lle_same (lle_same (lle_same (lle_same (lle_same lle_nil)))))) (lX10_layWays_56  C R hk133_16 _ _ _ h)
        refine a_if_ne C eX10_layWays_38 (fun hc => ?_) (fun hc => ?_)
        · replace h := ie hc h
          refine a_iconst C eX10_layWays_51 (-1 : Int32) c_iconst_m1 ?_
          exact a_less (lle_same (lle_same (lle_same (lle_same (lle_same (lle_same lle_nil)))))) (hk52_14 _ h)
        · replace h := it hc h
          refine a_aload_n C eX10_layWays_41 rfl ?_
          refine a_iload_n C eX10_layWays_42 rfl ?_
          refine a_bipush C eX10_layWays_43 (6 : Int32) c_bipush_6 ?_
          obtain ⟨r_32, hq, h⟩ := b1_e h
          refine a_cVi2 C eX10_layWays_45 wX10_227 ⟨Nat.le_of_ble_eq_true rfl, Nat.le_of_ble_eq_true rfl, rfl, rfl⟩ rfl sh_64 rfl (kX10_far hq) (Nat.le_of_ble_eq_true rfl) ?_
          refine a_goto C eX10_layWays_48 ?_
          exact a_less (lle_same (lle_same (lle_same (lle_same (lle_same (lle_same lle_nil)))))) (hk52_14 _ h)
      refine a_icmp_ge C eX10_layWays_23 (fun hc => ?_) (fun hc => ?_)
      · replace h := it hc h
        exact a_less (lle_same (lle_same (lle_same (lle_same (lle_same (lle_same lle_nil)))))) (hk37_12 h)
      · replace h := ie hc h
        refine a_iload_n C eX10_layWays_26 rfl ?_
        refine a_aload_n C eX10_layWays_27 rfl ?_
        obtain ⟨r_33, hq, h⟩ := b1_e h
        refine a_cVi0 C eX10_layWays_28 wX10_98 ⟨Nat.le_of_ble_eq_true rfl, Nat.le_of_ble_eq_true rfl, rfl, rfl⟩ rfl sh_64 rfl (kX10_shops hq) (Nat.le_of_ble_eq_true rfl) ?_
        refine a_icmp_lt C eX10_layWays_31 (fun hc => ?_) (fun hc => ?_)
        · replace h := it hc h
          exact a_less (lle_same (lle_same (lle_same (lle_same (lle_same (lle_same lle_nil)))))) (hk37_12 h)
        · replace h := ie hc h
          refine a_goto C eX10_layWays_34 ?_
          exact a_less (lle_same (lle_same (lle_same (lle_same (lle_same (lle_same lle_nil)))))) (hk145_10 _ h)
theorem lX10_layWays_2 {X : CT} {ad : Nat → Nat} {rr : Sg}   (C : Cx X cX10_layWays 6 RX10 none { frames := 2, cells := 0, slots := 0, locals := 45 }) (R : Rv X cX10_layWays ad (SHc ++ SHm) rr)  : ∀ (n : Nat) (x1_1 : Int32) (σ_2 : Sg), LX10_layWays_2 n x1_1 σ_2 = some rr → AW X 0 0 ad (SHc ++ SHm) σ_2 2 [some (.ref 64), some (.int x1_1), none, none, none, none] [] := by
  intro n
  induction n with
  | zero =>
    intro x1_1 σ_2 h
    rw [LX10_layWays_2] at h
    cases h
  | succ n ih =>
    intro x1_1 σ_2 h
    rw [LX10_layWays_2] at h
    refine a_iload_n C eX10_layWays_2 rfl ?_
    refine a_iconst C eX10_layWays_3 (1 : Int32) c_iconst_1 ?_
    refine a_aload_n C eX10_layWays_4 rfl ?_
    obtain ⟨r_3, hq, h⟩ := b1_e h
    refine a_cVi0 C eX10_layWays_5 wX10_98 ⟨Nat.le_of_ble_eq_true rfl, Nat.le_of_ble_eq_true rfl, rfl, rfl⟩ rfl sh_64 rfl (kX10_shops hq) (Nat.le_of_ble_eq_true rfl) ?_
    refine a_ishl C eX10_layWays_8 ?_
    refine a_icmp_ge C eX10_layWays_9 (fun hc => ?_) (fun hc => ?_)
    · replace h := it hc h
      exact rt_v R eX10_layWays_157 h
    · replace h := ie hc h
      refine a_iconst C eX10_layWays_12 (0 : Int32) c_iconst_0 ?_
      refine a_ist_n C eX10_layWays_13 (Nat.le_of_ble_eq_true rfl) [some (.ref 64), some (.int x1_1), some (.int (0 : Int32)), none, none, none] rfl ?_
      refine jn (fun (kk : Sg → Option Sg) => ∀ (σ_4 : Sg), kk σ_4 = some rr → AW X 0 0 ad (SHc ++ SHm) σ_4 151 [some (.ref 64), some (.int x1_1), none, none, none, none] []) h ?_ (fun k151_5 hk151_5 h => ?_)
      · intro σ_4 h
        refine a_inc C eX10_layWays_151 rfl c_iconst_1 h (fun z => [some (.ref 64), some (.int z), none, none, none, none]) (fun _ => rfl) (fun x1_6 h => ?_)
        refine a_goto C eX10_layWays_154 ?_
        exact a_less (lle_same (lle_same (lle_same (lle_same (lle_same (lle_same lle_nil)))))) (ih _ _ h)
      exact a_less (lle_same (lle_same (lle_same (lle_same (lle_same (lle_same lle_nil)))))) (lX10_layWays_14  C R hk151_5 _ _ _ h)
theorem kX10_layWays {σ : Sg} {rr : Sg}  (h : XX10_layWays σ = some rr) : Cv MX10_layWays [.ref 64] (SHc ++ SHm) σ rr := by
  refine Cv.start rfl rfl (Nat.le_of_ble_eq_true rfl) rfl ?_
  intro X ad C R
  replace C : Cx X cX10_layWays 6 RX10 none { frames := 2, cells := 0, slots := 0, locals := 45 } := C
  replace R : Rv X cX10_layWays ad (SHc ++ SHm) rr := R
  show AW X 0 0 ad (SHc ++ SHm) σ 0 [some (.ref 64), none, none, none, none, none] []
  rw [XX10_layWays] at h
  refine a_iconst C eX10_layWays_0 (0 : Int32) c_iconst_0 ?_
  refine a_ist_n C eX10_layWays_1 (Nat.le_of_ble_eq_true rfl) [some (.ref 64), some (.int (0 : Int32)), none, none, none, none] rfl ?_
  exact a_less (lle_same (lle_same (lle_same (lle_same (lle_same (lle_same lle_nil)))))) (lX10_layWays_2  C R  _ _ _ h)
/-! ShelfDrivesModel.stands()V -/
def LX10_stands_156 (k213_8 : Sg → Option Sg) : Nat → Int32 → Sg → Option Sg
  | 0, _, _ => none
  | n + 1, x1_11, σ_12 => if (12 : Int32) ≤ x1_11 then (k213_8 σ_12) else (if ib ((12 : Int32) + x1_11) 24 then if ib x1_11 24 then lt (up σ_12 72 x1_11.toNatClampNeg (σ_12 72 ((12 : Int32) + x1_11).toNatClampNeg)) (fun (σ_14 : Sg) => lt (up σ_14 73 x1_11.toNatClampNeg (σ_14 73 ((12 : Int32) + x1_11).toNatClampNeg)) (fun (σ_16 : Sg) => lt (up σ_16 74 x1_11.toNatClampNeg (σ_16 74 ((12 : Int32) + x1_11).toNatClampNeg)) (fun (σ_17 : Sg) => lt (x1_11 + (1 : Int32)) (fun (x1_18 : Int32) => LX10_stands_156 k213_8 n x1_18 σ_17)))) else none else none)
def LX10_stands_127 (k154_6 : Sg → Option Sg) : Nat → Int32 → Sg → Option Sg
  | 0, _, _ => none
  | n + 1, x1_19, σ_20 => if (42 : Int32) ≤ x1_19 then (k154_6 σ_20) else (if ib ((42 : Int32) + x1_19) 84 then if ib x1_19 84 then lt (up σ_20 71 x1_19.toNatClampNeg (σ_20 71 ((42 : Int32) + x1_19).toNatClampNeg)) (fun (σ_22 : Sg) => lt (x1_19 + (1 : Int32)) (fun (x1_24 : Int32) => LX10_stands_127 k154_6 n x1_24 σ_22)) else none else none)
def LX10_stands_31 (k125_4 : Sg → Option Sg) : Nat → Int32 → Sg → Option Sg
  | 0, _, _ => none
  | n + 1, x1_25, σ_26 => if (6 : Int32) ≤ x1_25 then (k125_4 σ_26) else (if ib ((6 : Int32) + x1_25) 12 then if ib x1_25 12 then lt (up σ_26 66 x1_25.toNatClampNeg (σ_26 66 ((6 : Int32) + x1_25).toNatClampNeg)) (fun (σ_28 : Sg) => lt (up σ_28 67 x1_25.toNatClampNeg (σ_28 67 ((6 : Int32) + x1_25).toNatClampNeg)) (fun (σ_30 : Sg) => lt (up σ_30 68 x1_25.toNatClampNeg (σ_30 68 ((6 : Int32) + x1_25).toNatClampNeg)) (fun (σ_31 : Sg) => lt (up σ_31 69 x1_25.toNatClampNeg (σ_31 69 ((6 : Int32) + x1_25).toNatClampNeg)) (fun (σ_32 : Sg) => lt (up σ_32 70 x1_25.toNatClampNeg (σ_32 70 ((6 : Int32) + x1_25).toNatClampNeg)) (fun (σ_33 : Sg) => if ib x1_25 6 then lt (up σ_33 78 x1_25.toNatClampNeg (0 : Int32)) (fun (σ_34 : Sg) => lt (x1_25 + (1 : Int32)) (fun (x1_36 : Int32) => LX10_stands_31 k125_4 n x1_36 σ_34)) else none))))) else none else none)
def LX10_stands_2 (k29_2 : Sg → Option Sg) : Nat → Int32 → Sg → Option Sg
  | 0, _, _ => none
  | n + 1, x1_37, σ_38 => if (10 : Int32) ≤ x1_37 then (k29_2 σ_38) else (if ib ((10 : Int32) + x1_37) 20 then if ib x1_37 20 then lt (up σ_38 65 x1_37.toNatClampNeg (σ_38 65 ((10 : Int32) + x1_37).toNatClampNeg)) (fun (σ_40 : Sg) => lt (x1_37 + (1 : Int32)) (fun (x1_42 : Int32) => LX10_stands_2 k29_2 n x1_42 σ_40)) else none else none)
def XX10_stands (σ : Sg) : Option Sg := lt (fun (σ_1 : Sg) => lt (fun (σ_3 : Sg) => lt (fun (σ_5 : Sg) => lt (fun (σ_7 : Sg) => lt (up σ_7 64 39 (0 : Int32)) (fun (σ_9 : Sg) => b1 (XX10_layWays σ_9) (fun (σ_10 : Sg) => some σ_10))) (fun (k213_8 : Sg → Option Sg) => LX10_stands_156 k213_8 FUEL (0 : Int32) σ_5)) (fun (k154_6 : Sg → Option Sg) => LX10_stands_127 k154_6 FUEL (0 : Int32) σ_3)) (fun (k125_4 : Sg → Option Sg) => LX10_stands_31 k125_4 FUEL (0 : Int32) σ_1)) (fun (k29_2 : Sg → Option Sg) => LX10_stands_2 k29_2 FUEL (0 : Int32) σ)
theorem lX10_stands_156 {X : CT} {ad : Nat → Nat} {rr : Sg} {k213_8 : Sg → Option Sg}  (C : Cx X cX10_stands 2 RX10 none { frames := 3, cells := 0, slots := 0, locals := 70 }) (R : Rv X cX10_stands ad (SHc ++ SHm) rr) (hk213_8 : ∀ (σ_7 : Sg), k213_8 σ_7 = some rr → AW X 0 0 ad (SHc ++ SHm) σ_7 213 [some (.ref 64), none] []) : ∀ (n : Nat) (x1_11 : Int32) (σ_12 : Sg), LX10_stands_156 k213_8 n x1_11 σ_12 = some rr → AW X 0 0 ad (SHc ++ SHm) σ_12 156 [some (.ref 64), some (.int x1_11)] [] := by
  intro n
  induction n with
  | zero =>
    intro x1_11 σ_12 h
    rw [LX10_stands_156] at h
    cases h
  | succ n ih =>
    intro x1_11 σ_12 h
    rw [LX10_stands_156] at h
    refine a_iload_n C eX10_stands_156 rfl ?_
    refine a_bipush C eX10_stands_157 (12 : Int32) c_bipush_12 ?_
    refine a_icmp_ge C eX10_stands_159 (fun hc => ?_) (fun hc => ?_)
    · replace h := it hc h
      exact a_less (lle_same (lle_drop lle_nil)) (hk213_8 _ h)
    · replace h := ie hc h
      refine a_aload_n C eX10_stands_162 rfl ?_
      refine a_getR C eX10_stands_163 fX10_31 sh_64 rfl ?_
      refine a_iload_n C eX10_stands_166 rfl ?_
      refine a_aload_n C eX10_stands_167 rfl ?_
      refine a_getR C eX10_stands_168 fX10_31 sh_64 rfl ?_
      refine a_bipush C eX10_stands_171 (12 : Int32) c_bipush_12 ?_
      refine a_iload_n C eX10_stands_173 rfl ?_
      refine a_iadd C eX10_stands_174 ?_
      obtain ⟨hb_13, h⟩ := gd h
      refine a_iald C eX10_stands_175 sh_72 hb_13 ?_
      obtain ⟨hb_15, h⟩ := gd h
      refine a_iastL C eX10_stands_176 sh_72 hb_15 h (fun σ_14 h => ?_)
      refine a_aload_n C eX10_stands_177 rfl ?_
      refine a_getR C eX10_stands_178 fX10_34 sh_64 rfl ?_
      refine a_iload_n C eX10_stands_181 rfl ?_
      refine a_aload_n C eX10_stands_182 rfl ?_
      refine a_getR C eX10_stands_183 fX10_34 sh_64 rfl ?_
      refine a_bipush C eX10_stands_186 (12 : Int32) c_bipush_12 ?_
      refine a_iload_n C eX10_stands_188 rfl ?_
      refine a_iadd C eX10_stands_189 ?_
      refine a_iald C eX10_stands_190 sh_73 hb_13 ?_
      refine a_iastL C eX10_stands_191 sh_73 hb_15 h (fun σ_16 h => ?_)
      refine a_aload_n C eX10_stands_192 rfl ?_
      refine a_getR C eX10_stands_193 fX10_37 sh_64 rfl ?_
      refine a_iload_n C eX10_stands_196 rfl ?_
      refine a_aload_n C eX10_stands_197 rfl ?_
      refine a_getR C eX10_stands_198 fX10_37 sh_64 rfl ?_
      refine a_bipush C eX10_stands_201 (12 : Int32) c_bipush_12 ?_
      refine a_iload_n C eX10_stands_203 rfl ?_
      refine a_iadd C eX10_stands_204 ?_
      refine a_iald C eX10_stands_205 sh_74 hb_13 ?_
      refine a_iastL C eX10_stands_206 sh_74 hb_15 h (fun σ_17 h => ?_)
      refine a_inc C eX10_stands_207 rfl c_iconst_1 h (fun z => [some (.ref 64), some (.int z)]) (fun _ => rfl) (fun x1_18 h => ?_)
      refine a_goto C eX10_stands_210 ?_
      exact a_less (lle_same (lle_same lle_nil)) (ih _ _ h)
theorem lX10_stands_127 {X : CT} {ad : Nat → Nat} {rr : Sg} {k154_6 : Sg → Option Sg}  (C : Cx X cX10_stands 2 RX10 none { frames := 3, cells := 0, slots := 0, locals := 70 }) (R : Rv X cX10_stands ad (SHc ++ SHm) rr) (hk154_6 : ∀ (σ_5 : Sg), k154_6 σ_5 = some rr → AW X 0 0 ad (SHc ++ SHm) σ_5 154 [some (.ref 64), none] []) : ∀ (n : Nat) (x1_19 : Int32) (σ_20 : Sg), LX10_stands_127 k154_6 n x1_19 σ_20 = some rr → AW X 0 0 ad (SHc ++ SHm) σ_20 127 [some (.ref 64), some (.int x1_19)] [] := by
  intro n
  induction n with
  | zero =>
    intro x1_19 σ_20 h
    rw [LX10_stands_127] at h
    cases h
  | succ n ih =>
    intro x1_19 σ_20 h
    rw [LX10_stands_127] at h
    refine a_iload_n C eX10_stands_127 rfl ?_
    refine a_bipush C eX10_stands_128 (42 : Int32) c_bipush_42 ?_
    refine a_icmp_ge C eX10_stands_130 (fun hc => ?_) (fun hc => ?_)
    · replace h := it hc h
      exact a_less (lle_same (lle_drop lle_nil)) (hk154_6 _ h)
    · replace h := ie hc h
      refine a_aload_n C eX10_stands_133 rfl ?_
      refine a_getR C eX10_stands_134 fX10_28 sh_64 rfl ?_
      refine a_iload_n C eX10_stands_137 rfl ?_
      refine a_aload_n C eX10_stands_138 rfl ?_
      refine a_getR C eX10_stands_139 fX10_28 sh_64 rfl ?_
      refine a_bipush C eX10_stands_142 (42 : Int32) c_bipush_42 ?_
      refine a_iload_n C eX10_stands_144 rfl ?_
      refine a_iadd C eX10_stands_145 ?_
      obtain ⟨hb_21, h⟩ := gd h
      refine a_iald C eX10_stands_146 sh_71 hb_21 ?_
      obtain ⟨hb_23, h⟩ := gd h
      refine a_iastL C eX10_stands_147 sh_71 hb_23 h (fun σ_22 h => ?_)
      refine a_inc C eX10_stands_148 rfl c_iconst_1 h (fun z => [some (.ref 64), some (.int z)]) (fun _ => rfl) (fun x1_24 h => ?_)
      refine a_goto C eX10_stands_151 ?_
      exact a_less (lle_same (lle_same lle_nil)) (ih _ _ h)
theorem lX10_stands_31 {X : CT} {ad : Nat → Nat} {rr : Sg} {k125_4 : Sg → Option Sg}  (C : Cx X cX10_stands 2 RX10 none { frames := 3, cells := 0, slots := 0, locals := 70 }) (R : Rv X cX10_stands ad (SHc ++ SHm) rr) (hk125_4 : ∀ (σ_3 : Sg), k125_4 σ_3 = some rr → AW X 0 0 ad (SHc ++ SHm) σ_3 125 [some (.ref 64), none] []) : ∀ (n : Nat) (x1_25 : Int32) (σ_26 : Sg), LX10_stands_31 k125_4 n x1_25 σ_26 = some rr → AW X 0 0 ad (SHc ++ SHm) σ_26 31 [some (.ref 64), some (.int x1_25)] [] := by
  intro n
  induction n with
  | zero =>
    intro x1_25 σ_26 h
    rw [LX10_stands_31] at h
    cases h
  | succ n ih =>
    intro x1_25 σ_26 h
    rw [LX10_stands_31] at h
    refine a_iload_n C eX10_stands_31 rfl ?_
    refine a_bipush C eX10_stands_32 (6 : Int32) c_bipush_6 ?_
    refine a_icmp_ge C eX10_stands_34 (fun hc => ?_) (fun hc => ?_)
    · replace h := it hc h
      exact a_less (lle_same (lle_drop lle_nil)) (hk125_4 _ h)
    · replace h := ie hc h
      refine a_aload_n C eX10_stands_37 rfl ?_
      refine a_getR C eX10_stands_38 fX10_13 sh_64 rfl ?_
      refine a_iload_n C eX10_stands_41 rfl ?_
      refine a_aload_n C eX10_stands_42 rfl ?_
      refine a_getR C eX10_stands_43 fX10_13 sh_64 rfl ?_
      refine a_bipush C eX10_stands_46 (6 : Int32) c_bipush_6 ?_
      refine a_iload_n C eX10_stands_48 rfl ?_
      refine a_iadd C eX10_stands_49 ?_
      obtain ⟨hb_27, h⟩ := gd h
      refine a_iald C eX10_stands_50 sh_66 hb_27 ?_
      obtain ⟨hb_29, h⟩ := gd h
      refine a_iastL C eX10_stands_51 sh_66 hb_29 h (fun σ_28 h => ?_)
      refine a_aload_n C eX10_stands_52 rfl ?_
      refine a_getR C eX10_stands_53 fX10_16 sh_64 rfl ?_
      refine a_iload_n C eX10_stands_56 rfl ?_
      refine a_aload_n C eX10_stands_57 rfl ?_
      refine a_getR C eX10_stands_58 fX10_16 sh_64 rfl ?_
      refine a_bipush C eX10_stands_61 (6 : Int32) c_bipush_6 ?_
      refine a_iload_n C eX10_stands_63 rfl ?_
      refine a_iadd C eX10_stands_64 ?_
      refine a_iald C eX10_stands_65 sh_67 hb_27 ?_
      refine a_iastL C eX10_stands_66 sh_67 hb_29 h (fun σ_30 h => ?_)
      refine a_aload_n C eX10_stands_67 rfl ?_
      refine a_getR C eX10_stands_68 fX10_19 sh_64 rfl ?_
      refine a_iload_n C eX10_stands_71 rfl ?_
      refine a_aload_n C eX10_stands_72 rfl ?_
      refine a_getR C eX10_stands_73 fX10_19 sh_64 rfl ?_
      refine a_bipush C eX10_stands_76 (6 : Int32) c_bipush_6 ?_
      refine a_iload_n C eX10_stands_78 rfl ?_
      refine a_iadd C eX10_stands_79 ?_
      refine a_iald C eX10_stands_80 sh_68 hb_27 ?_
      refine a_iastL C eX10_stands_81 sh_68 hb_29 h (fun σ_31 h => ?_)
      refine a_aload_n C eX10_stands_82 rfl ?_
      refine a_getR C eX10_stands_83 fX10_22 sh_64 rfl ?_
      refine a_iload_n C eX10_stands_86 rfl ?_
      refine a_aload_n C eX10_stands_87 rfl ?_
      refine a_getR C eX10_stands_88 fX10_22 sh_64 rfl ?_
      refine a_bipush C eX10_stands_91 (6 : Int32) c_bipush_6 ?_
      refine a_iload_n C eX10_stands_93 rfl ?_
      refine a_iadd C eX10_stands_94 ?_
      refine a_iald C eX10_stands_95 sh_69 hb_27 ?_
      refine a_iastL C eX10_stands_96 sh_69 hb_29 h (fun σ_32 h => ?_)
      refine a_aload_n C eX10_stands_97 rfl ?_
      refine a_getR C eX10_stands_98 fX10_25 sh_64 rfl ?_
      refine a_iload_n C eX10_stands_101 rfl ?_
      refine a_aload_n C eX10_stands_102 rfl ?_
      refine a_getR C eX10_stands_103 fX10_25 sh_64 rfl ?_
      refine a_bipush C eX10_stands_106 (6 : Int32) c_bipush_6 ?_
      refine a_iload_n C eX10_stands_108 rfl ?_
      refine a_iadd C eX10_stands_109 ?_
      refine a_iald C eX10_stands_110 sh_70 hb_27 ?_
      refine a_iastL C eX10_stands_111 sh_70 hb_29 h (fun σ_33 h => ?_)
      refine a_aload_n C eX10_stands_112 rfl ?_
      refine a_getR C eX10_stands_113 fX10_53 sh_64 rfl ?_
      refine a_iload_n C eX10_stands_116 rfl ?_
      refine a_iconst C eX10_stands_117 (0 : Int32) c_iconst_0 ?_
      obtain ⟨hb_35, h⟩ := gd h
      refine a_iastL C eX10_stands_118 sh_78 hb_35 h (fun σ_34 h => ?_)
      refine a_inc C eX10_stands_119 rfl c_iconst_1 h (fun z => [some (.ref 64), some (.int z)]) (fun _ => rfl) (fun x1_36 h => ?_)
      refine a_goto C eX10_stands_122 ?_
      exact a_less (lle_same (lle_same lle_nil)) (ih _ _ h)
theorem lX10_stands_2 {X : CT} {ad : Nat → Nat} {rr : Sg} {k29_2 : Sg → Option Sg}  (C : Cx X cX10_stands 2 RX10 none { frames := 3, cells := 0, slots := 0, locals := 70 }) (R : Rv X cX10_stands ad (SHc ++ SHm) rr) (hk29_2 : ∀ (σ_1 : Sg), k29_2 σ_1 = some rr → AW X 0 0 ad (SHc ++ SHm) σ_1 29 [some (.ref 64), none] []) : ∀ (n : Nat) (x1_37 : Int32) (σ_38 : Sg), LX10_stands_2 k29_2 n x1_37 σ_38 = some rr → AW X 0 0 ad (SHc ++ SHm) σ_38 2 [some (.ref 64), some (.int x1_37)] [] := by
  intro n
  induction n with
  | zero =>
    intro x1_37 σ_38 h
    rw [LX10_stands_2] at h
    cases h
  | succ n ih =>
    intro x1_37 σ_38 h
    rw [LX10_stands_2] at h
    refine a_iload_n C eX10_stands_2 rfl ?_
    refine a_bipush C eX10_stands_3 (10 : Int32) c_bipush_10 ?_
    refine a_icmp_ge C eX10_stands_5 (fun hc => ?_) (fun hc => ?_)
    · replace h := it hc h
      exact a_less (lle_same (lle_drop lle_nil)) (hk29_2 _ h)
    · replace h := ie hc h
      refine a_aload_n C eX10_stands_8 rfl ?_
      refine a_getR C eX10_stands_9 fX10_7 sh_64 rfl ?_
      refine a_iload_n C eX10_stands_12 rfl ?_
      refine a_aload_n C eX10_stands_13 rfl ?_
      refine a_getR C eX10_stands_14 fX10_7 sh_64 rfl ?_
      refine a_bipush C eX10_stands_17 (10 : Int32) c_bipush_10 ?_
      refine a_iload_n C eX10_stands_19 rfl ?_
      refine a_iadd C eX10_stands_20 ?_
      obtain ⟨hb_39, h⟩ := gd h
      refine a_iald C eX10_stands_21 sh_65 hb_39 ?_
      obtain ⟨hb_41, h⟩ := gd h
      refine a_iastL C eX10_stands_22 sh_65 hb_41 h (fun σ_40 h => ?_)
      refine a_inc C eX10_stands_23 rfl c_iconst_1 h (fun z => [some (.ref 64), some (.int z)]) (fun _ => rfl) (fun x1_42 h => ?_)
      refine a_goto C eX10_stands_26 ?_
      exact a_less (lle_same (lle_same lle_nil)) (ih _ _ h)
theorem kX10_stands {σ : Sg} {rr : Sg}  (h : XX10_stands σ = some rr) : Cv MX10_stands [.ref 64] (SHc ++ SHm) σ rr := by
  refine Cv.start rfl rfl (Nat.le_of_ble_eq_true rfl) rfl ?_
  intro X ad C R
  replace C : Cx X cX10_stands 2 RX10 none { frames := 3, cells := 0, slots := 0, locals := 70 } := C
  replace R : Rv X cX10_stands ad (SHc ++ SHm) rr := R
  show AW X 0 0 ad (SHc ++ SHm) σ 0 [some (.ref 64), none] []
  rw [XX10_stands] at h
  refine a_iconst C eX10_stands_0 (0 : Int32) c_iconst_0 ?_
  refine a_ist_n C eX10_stands_1 (Nat.le_of_ble_eq_true rfl) [some (.ref 64), some (.int (0 : Int32))] rfl ?_
  refine jn (fun (kk : Sg → Option Sg) => ∀ (σ_1 : Sg), kk σ_1 = some rr → AW X 0 0 ad (SHc ++ SHm) σ_1 29 [some (.ref 64), none] []) h ?_ (fun k29_2 hk29_2 h => ?_)
  · intro σ_1 h
    refine a_iconst C eX10_stands_29 (0 : Int32) c_iconst_0 ?_
    refine a_ist_n C eX10_stands_30 (Nat.le_of_ble_eq_true rfl) [some (.ref 64), some (.int (0 : Int32))] rfl ?_
    refine jn (fun (kk : Sg → Option Sg) => ∀ (σ_3 : Sg), kk σ_3 = some rr → AW X 0 0 ad (SHc ++ SHm) σ_3 125 [some (.ref 64), none] []) h ?_ (fun k125_4 hk125_4 h => ?_)
    · intro σ_3 h
      refine a_iconst C eX10_stands_125 (0 : Int32) c_iconst_0 ?_
      refine a_ist_n C eX10_stands_126 (Nat.le_of_ble_eq_true rfl) [some (.ref 64), some (.int (0 : Int32))] rfl ?_
      refine jn (fun (kk : Sg → Option Sg) => ∀ (σ_5 : Sg), kk σ_5 = some rr → AW X 0 0 ad (SHc ++ SHm) σ_5 154 [some (.ref 64), none] []) h ?_ (fun k154_6 hk154_6 h => ?_)
      · intro σ_5 h
        refine a_iconst C eX10_stands_154 (0 : Int32) c_iconst_0 ?_
        refine a_ist_n C eX10_stands_155 (Nat.le_of_ble_eq_true rfl) [some (.ref 64), some (.int (0 : Int32))] rfl ?_
        refine jn (fun (kk : Sg → Option Sg) => ∀ (σ_7 : Sg), kk σ_7 = some rr → AW X 0 0 ad (SHc ++ SHm) σ_7 213 [some (.ref 64), none] []) h ?_ (fun k213_8 hk213_8 h => ?_)
        · intro σ_7 h
          refine a_aload_n C eX10_stands_213 rfl ?_
          refine a_iconst C eX10_stands_214 (0 : Int32) c_iconst_0 ?_
          refine a_putIL C eX10_stands_215 fX10_218 ftyX10 rfl rfl sh_64 rfl h (fun σ_9 h => ?_)
          refine a_aload_n C eX10_stands_218 rfl ?_
          obtain ⟨σ_10, hq, h⟩ := b1_e h
          refine a_cVv0 C eX10_stands_219 wX10_221 ⟨Nat.le_of_ble_eq_true rfl, Nat.le_of_ble_eq_true rfl, rfl, rfl⟩ rfl sh_64 rfl (kX10_layWays hq) (Nat.le_of_ble_eq_true rfl) ?_
          exact rt_v R eX10_stands_222 h
        exact a_less (lle_same (lle_same lle_nil)) (lX10_stands_156  C R hk213_8 _ _ _ h)
      exact a_less (lle_same (lle_same lle_nil)) (lX10_stands_127  C R hk154_6 _ _ _ h)
    exact a_less (lle_same (lle_same lle_nil)) (lX10_stands_31  C R hk125_4 _ _ _ h)
  exact a_less (lle_same (lle_same lle_nil)) (lX10_stands_2  C R hk29_2 _ _ _ h)
/-! ShelfDrivesModel.text()I -/
def LX10_text_121 (k142_19 : Sg → Option (Int32 × Sg)) : Nat → Sg → Option (Int32 × Sg)
  | 0, _ => none
  | n + 1, σ_28 => b1 (XX10_isGood σ_28) (fun (r_29 : Int32) => if r_29 = 0 then (k142_19 σ_28) else (if (σ_28 64 18) = 0 then (k142_19 σ_28) else (b1 (XX10_readLine σ_28) (fun (σ_30 : Sg) => LX10_text_121 k142_19 n σ_30))))
def XX10_text (σ : Sg) : Option (Int32 × Sg) := lt (up σ 64 0 (0 : Int32)) (fun (σ_1 : Sg) => lt (up σ_1 64 15 (σ_1 64 14)) (fun (σ_2 : Sg) => lt (up σ_2 64 14 (0 : Int32)) (fun (σ_3 : Sg) => lt (up σ_3 64 17 (0 : Int32)) (fun (σ_4 : Sg) => lt (up σ_4 64 22 (0 : Int32)) (fun (σ_5 : Sg) => lt (up σ_5 64 12 (0 : Int32)) (fun (σ_6 : Sg) => lt (up σ_6 65 10 (7 : Int32)) (fun (σ_7 : Sg) => lt (up σ_7 65 11 (0 : Int32)) (fun (σ_8 : Sg) => lt (up σ_8 65 12 (0 : Int32)) (fun (σ_9 : Sg) => lt (up σ_9 65 13 (60 : Int32)) (fun (σ_10 : Sg) => lt (up σ_10 65 14 (10 : Int32)) (fun (σ_11 : Sg) => lt (up σ_11 65 15 (1 : Int32)) (fun (σ_12 : Sg) => lt (up σ_12 65 16 (1 : Int32)) (fun (σ_13 : Sg) => lt (up σ_13 65 17 (20 : Int32)) (fun (σ_14 : Sg) => lt (up σ_14 65 18 (0 : Int32)) (fun (σ_15 : Sg) => lt (up σ_15 65 19 (0 : Int32)) (fun (σ_16 : Sg) => b1 (XX10_goOn σ_16) (fun (σ_17 : Sg) => lt (fun (σ_18 : Sg) => lt (up σ_18 64 20 (σ_18 64 22)) (fun (σ_20 : Sg) => b1 (XX10_isGood σ_20) (fun (r_21 : Int32) => lt (fun (s_22 : Int32) => lt (up σ_20 64 21 s_22) (fun (σ_24 : Sg) => b1 (XX10_isGood σ_24) (fun (r_25 : Int32) => if r_25 = 0 then (some ((-1 : Int32), σ_24)) else (b1 (XX10_stands σ_24) (fun (σ_26 : Sg) => b1 (XX10_shops σ_26) (fun (r_27 : Int32) => some (r_27, σ_26))))))) (fun (k166_23 : Int32 → Option (Int32 × Sg)) => if r_21 = 0 then (k166_23 (σ_20 64 23)) else (k166_23 (-1 : Int32)))))) (fun (k142_19 : Sg → Option (Int32 × Sg)) => LX10_text_121 k142_19 FUEL σ_17))))))))))))))))))
theorem lX10_text_121 {X : CT} {ad : Nat → Nat} {rr : (Int32 × Sg)} {k142_19 : Sg → Option (Int32 × Sg)}  (C : Cx X cX10_text 1 RX10 (some .int) { frames := 6, cells := 0, slots := 0, locals := 129 }) (R : Ri X cX10_text (some .int) ad (SHc ++ SHm) rr) (hk142_19 : ∀ (σ_18 : Sg), k142_19 σ_18 = some rr → AW X 0 0 ad (SHc ++ SHm) σ_18 142 [some (.ref 64)] []) : ∀ (n : Nat) (σ_28 : Sg), LX10_text_121 k142_19 n σ_28 = some rr → AW X 0 0 ad (SHc ++ SHm) σ_28 121 [some (.ref 64)] [] := by
  intro n
  induction n with
  | zero =>
    intro σ_28 h
    rw [LX10_text_121] at h
    cases h
  | succ n ih =>
    intro σ_28 h
    rw [LX10_text_121] at h
    refine a_aload_n C eX10_text_121 rfl ?_
    obtain ⟨r_29, hq, h⟩ := b1_e h
    refine a_cVi0 C eX10_text_122 wX10_131 ⟨Nat.le_of_ble_eq_true rfl, Nat.le_of_ble_eq_true rfl, rfl, rfl⟩ rfl sh_64 rfl (kX10_isGood hq) (Nat.le_of_ble_eq_true rfl) ?_
    refine a_if_eq C eX10_text_125 (fun hc => ?_) (fun hc => ?_)
    · replace h := it hc h
      exact a_less (lle_same lle_nil) (hk142_19 _ h)
    · replace h := ie hc h
      refine a_aload_n C eX10_text_128 rfl ?_
      refine a_getI C eX10_text_129 fX10_122 sh_64 rfl ?_
      refine a_if_eq C eX10_text_132 (fun hc => ?_) (fun hc => ?_)
      · replace h := it hc h
        exact a_less (lle_same lle_nil) (hk142_19 _ h)
      · replace h := ie hc h
        refine a_aload_n C eX10_text_135 rfl ?_
        obtain ⟨σ_30, hq, h⟩ := b1_e h
        refine a_cVv0 C eX10_text_136 wX10_209 ⟨Nat.le_of_ble_eq_true rfl, Nat.le_of_ble_eq_true rfl, rfl, rfl⟩ rfl sh_64 rfl (kX10_readLine hq) (Nat.le_of_ble_eq_true rfl) ?_
        refine a_goto C eX10_text_139 ?_
        exact a_less (lle_same lle_nil) (ih _ h)
theorem kX10_text {σ : Sg} {rr : (Int32 × Sg)}  (h : XX10_text σ = some rr) : Ci MX10_text [.ref 64] (SHc ++ SHm) σ rr := by
  refine Ci.start rfl rfl (Nat.le_of_ble_eq_true rfl) ?_
  intro X ad C R
  replace C : Cx X cX10_text 1 RX10 (some .int) { frames := 6, cells := 0, slots := 0, locals := 129 } := C
  replace R : Ri X cX10_text (some .int) ad (SHc ++ SHm) rr := R
  show AW X 0 0 ad (SHc ++ SHm) σ 0 [some (.ref 64)] []
  rw [XX10_text] at h
  refine a_aload_n C eX10_text_0 rfl ?_
  refine a_iconst C eX10_text_1 (0 : Int32) c_iconst_0 ?_
  refine a_putIL C eX10_text_2 fX10_95 ftyX10 rfl rfl sh_64 rfl h (fun σ_1 h => ?_)
  refine a_aload_n C eX10_text_5 rfl ?_
  refine a_aload_n C eX10_text_6 rfl ?_
  refine a_getI C eX10_text_7 fX10_109 sh_64 rfl ?_
  refine a_putIL C eX10_text_10 fX10_116 ftyX10 rfl rfl sh_64 rfl h (fun σ_2 h => ?_)
  refine a_aload_n C eX10_text_13 rfl ?_
  refine a_iconst C eX10_text_14 (0 : Int32) c_iconst_0 ?_
  refine a_putIL C eX10_text_15 fX10_109 ftyX10 rfl rfl sh_64 rfl h (fun σ_3 h => ?_)
  refine a_aload_n C eX10_text_18 rfl ?_
  refine a_iconst C eX10_text_19 (0 : Int32) c_iconst_0 ?_
  refine a_putIL C eX10_text_20 fX10_135 ftyX10 rfl rfl sh_64 rfl h (fun σ_4 h => ?_)
  refine a_aload_n C eX10_text_23 rfl ?_
  refine a_iconst C eX10_text_24 (0 : Int32) c_iconst_0 ?_
  refine a_putIL C eX10_text_25 fX10_119 ftyX10 rfl rfl sh_64 rfl h (fun σ_5 h => ?_)
  refine a_aload_n C eX10_text_28 rfl ?_
  refine a_iconst C eX10_text_29 (0 : Int32) c_iconst_0 ?_
  refine a_putIL C eX10_text_30 fX10_173 ftyX10 rfl rfl sh_64 rfl h (fun σ_6 h => ?_)
  refine a_aload_n C eX10_text_33 rfl ?_
  refine a_getR C eX10_text_34 fX10_7 sh_64 rfl ?_
  refine a_bipush C eX10_text_37 (10 : Int32) c_bipush_10 ?_
  refine a_bipush C eX10_text_39 (7 : Int32) c_bipush_7 ?_
  refine a_iastK C eX10_text_41 sh_65 ix_10 (Nat.le_of_ble_eq_true rfl) h (fun σ_7 h => ?_)
  refine a_aload_n C eX10_text_42 rfl ?_
  refine a_getR C eX10_text_43 fX10_7 sh_64 rfl ?_
  refine a_bipush C eX10_text_46 (11 : Int32) c_bipush_11 ?_
  refine a_iconst C eX10_text_48 (0 : Int32) c_iconst_0 ?_
  refine a_iastK C eX10_text_49 sh_65 ix_11 (Nat.le_of_ble_eq_true rfl) h (fun σ_8 h => ?_)
  refine a_aload_n C eX10_text_50 rfl ?_
  refine a_getR C eX10_text_51 fX10_7 sh_64 rfl ?_
  refine a_bipush C eX10_text_54 (12 : Int32) c_bipush_12 ?_
  refine a_iconst C eX10_text_56 (0 : Int32) c_iconst_0 ?_
  refine a_iastK C eX10_text_57 sh_65 ix_12 (Nat.le_of_ble_eq_true rfl) h (fun σ_9 h => ?_)
  refine a_aload_n C eX10_text_58 rfl ?_
  refine a_getR C eX10_text_59 fX10_7 sh_64 rfl ?_
  refine a_bipush C eX10_text_62 (13 : Int32) c_bipush_13 ?_
  refine a_bipush C eX10_text_64 (60 : Int32) c_bipush_60 ?_
  refine a_iastK C eX10_text_66 sh_65 ix_13 (Nat.le_of_ble_eq_true rfl) h (fun σ_10 h => ?_)
  refine a_aload_n C eX10_text_67 rfl ?_
  refine a_getR C eX10_text_68 fX10_7 sh_64 rfl ?_
  refine a_bipush C eX10_text_71 (14 : Int32) c_bipush_14 ?_
  refine a_bipush C eX10_text_73 (10 : Int32) c_bipush_10 ?_
  refine a_iastK C eX10_text_75 sh_65 ix_14 (Nat.le_of_ble_eq_true rfl) h (fun σ_11 h => ?_)
  refine a_aload_n C eX10_text_76 rfl ?_
  refine a_getR C eX10_text_77 fX10_7 sh_64 rfl ?_
  refine a_bipush C eX10_text_80 (15 : Int32) c_bipush_15 ?_
  refine a_iconst C eX10_text_82 (1 : Int32) c_iconst_1 ?_
  refine a_iastK C eX10_text_83 sh_65 ix_15 (Nat.le_of_ble_eq_true rfl) h (fun σ_12 h => ?_)
  refine a_aload_n C eX10_text_84 rfl ?_
  refine a_getR C eX10_text_85 fX10_7 sh_64 rfl ?_
  refine a_bipush C eX10_text_88 (16 : Int32) c_bipush_16 ?_
  refine a_iconst C eX10_text_90 (1 : Int32) c_iconst_1 ?_
  refine a_iastK C eX10_text_91 sh_65 ix_16 (Nat.le_of_ble_eq_true rfl) h (fun σ_13 h => ?_)
  refine a_aload_n C eX10_text_92 rfl ?_
  refine a_getR C eX10_text_93 fX10_7 sh_64 rfl ?_
  refine a_bipush C eX10_text_96 (17 : Int32) c_bipush_17 ?_
  refine a_bipush C eX10_text_98 (20 : Int32) c_bipush_20 ?_
  refine a_iastK C eX10_text_100 sh_65 ix_17 (Nat.le_of_ble_eq_true rfl) h (fun σ_14 h => ?_)
  refine a_aload_n C eX10_text_101 rfl ?_
  refine a_getR C eX10_text_102 fX10_7 sh_64 rfl ?_
  refine a_bipush C eX10_text_105 (18 : Int32) c_bipush_18 ?_
  refine a_iconst C eX10_text_107 (0 : Int32) c_iconst_0 ?_
  refine a_iastK C eX10_text_108 sh_65 ix_18 (Nat.le_of_ble_eq_true rfl) h (fun σ_15 h => ?_)
  refine a_aload_n C eX10_text_109 rfl ?_
  refine a_getR C eX10_text_110 fX10_7 sh_64 rfl ?_
  refine a_bipush C eX10_text_113 (19 : Int32) c_bipush_19 ?_
  refine a_iconst C eX10_text_115 (0 : Int32) c_iconst_0 ?_
  refine a_iastK C eX10_text_116 sh_65 ix_19 (Nat.le_of_ble_eq_true rfl) h (fun σ_16 h => ?_)
  refine a_aload_n C eX10_text_117 rfl ?_
  obtain ⟨σ_17, hq, h⟩ := b1_e h
  refine a_cVv0 C eX10_text_118 wX10_170 ⟨Nat.le_of_ble_eq_true rfl, Nat.le_of_ble_eq_true rfl, rfl, rfl⟩ rfl sh_64 rfl (kX10_goOn hq) (Nat.le_of_ble_eq_true rfl) ?_
  refine jn (fun (kk : Sg → Option (Int32 × Sg)) => ∀ (σ_18 : Sg), kk σ_18 = some rr → AW X 0 0 ad (SHc ++ SHm) σ_18 142 [some (.ref 64)] []) h ?_ (fun k142_19 hk142_19 h => ?_)
  · intro σ_18 h
    refine a_aload_n C eX10_text_142 rfl ?_
    refine a_aload_n C eX10_text_143 rfl ?_
    refine a_getI C eX10_text_144 fX10_119 sh_64 rfl ?_
    refine a_putIL C eX10_text_147 fX10_212 ftyX10 rfl rfl sh_64 rfl h (fun σ_20 h => ?_)
    refine a_aload_n C eX10_text_150 rfl ?_
    refine a_aload_n C eX10_text_151 rfl ?_
    obtain ⟨r_21, hq, h⟩ := b1_e h
    refine a_cVi0 C eX10_text_152 wX10_131 ⟨Nat.le_of_ble_eq_true rfl, Nat.le_of_ble_eq_true rfl, rfl, rfl⟩ rfl sh_64 rfl (kX10_isGood hq) (Nat.le_of_ble_eq_true rfl) ?_
    refine jn (fun (kk : Int32 → Option (Int32 × Sg)) => ∀ (s_22 : Int32), kk s_22 = some rr → AW X 0 0 ad (SHc ++ SHm) σ_20 166 [some (.ref 64)] [.int s_22, .ref 64]) h ?_ (fun k166_23 hk166_23 h => ?_)
    · intro s_22 h
      refine a_putIL C eX10_text_166 fX10_46 ftyX10 rfl rfl sh_64 rfl h (fun σ_24 h => ?_)
      refine a_aload_n C eX10_text_169 rfl ?_
      obtain ⟨r_25, hq, h⟩ := b1_e h
      refine a_cVi0 C eX10_text_170 wX10_131 ⟨Nat.le_of_ble_eq_true rfl, Nat.le_of_ble_eq_true rfl, rfl, rfl⟩ rfl sh_64 rfl (kX10_isGood hq) (Nat.le_of_ble_eq_true rfl) ?_
      refine a_if_ne C eX10_text_173 (fun hc => ?_) (fun hc => ?_)
      · replace h := ie hc h
        refine a_aload_n C eX10_text_178 rfl ?_
        obtain ⟨σ_26, hq, h⟩ := b1_e h
        refine a_cVv0 C eX10_text_179 wX10_215 ⟨Nat.le_of_ble_eq_true rfl, Nat.le_of_ble_eq_true rfl, rfl, rfl⟩ rfl sh_64 rfl (kX10_stands hq) (Nat.le_of_ble_eq_true rfl) ?_
        refine a_aload_n C eX10_text_182 rfl ?_
        obtain ⟨r_27, hq, h⟩ := b1_e h
        refine a_cVi0 C eX10_text_183 wX10_98 ⟨Nat.le_of_ble_eq_true rfl, Nat.le_of_ble_eq_true rfl, rfl, rfl⟩ rfl sh_64 rfl (kX10_shops hq) (Nat.le_of_ble_eq_true rfl) ?_
        exact rt_i R eX10_text_186 h nb_int
      · replace h := it hc h
        refine a_iconst C eX10_text_176 (-1 : Int32) c_iconst_m1 ?_
        exact rt_i R eX10_text_177 h nb_int
    refine a_if_eq C eX10_text_155 (fun hc => ?_) (fun hc => ?_)
    · replace h := it hc h
      refine a_aload_n C eX10_text_162 rfl ?_
      refine a_getI C eX10_text_163 fX10_128 sh_64 rfl ?_
      exact a_less (lle_same lle_nil) (hk166_23 _ h)
    · replace h := ie hc h
      refine a_iconst C eX10_text_158 (-1 : Int32) c_iconst_m1 ?_
      refine a_goto C eX10_text_159 ?_
      exact a_less (lle_same lle_nil) (hk166_23 _ h)
  exact a_less (lle_same lle_nil) (lX10_text_121  C R hk142_19 _ _ h)
/-! ShelfDrivesModel.fault(I)I -/
def XX10_fault (p1 : Int32) (σ : Sg) : Option (Int32 × Sg) := lt (up σ 64 0 (0 : Int32)) (fun (σ_1 : Sg) => if p1 = 0 then (some (σ_1 64 20, σ_1)) else (if p1 = (1 : Int32) then (some (σ_1 64 21, σ_1)) else (some ((-1 : Int32), σ_1))))
theorem kX10_fault {p1 : Int32} {σ : Sg} {rr : (Int32 × Sg)}  (h : XX10_fault p1 σ = some rr) : Ci MX10_fault [.ref 64, .int p1] (SHc ++ SHm) σ rr := by
  refine Ci.start rfl rfl (Nat.le_of_ble_eq_true rfl) ?_
  intro X ad C R
  replace C : Cx X cX10_fault 2 RX10 (some .int) { frames := 0, cells := 0, slots := 0, locals := 0 } := C
  replace R : Ri X cX10_fault (some .int) ad (SHc ++ SHm) rr := R
  show AW X 0 0 ad (SHc ++ SHm) σ 0 [some (.ref 64), some (.int p1)] []
  rw [XX10_fault] at h
  refine a_aload_n C eX10_fault_0 rfl ?_
  refine a_iconst C eX10_fault_1 (0 : Int32) c_iconst_0 ?_
  refine a_putIL C eX10_fault_2 fX10_95 ftyX10 rfl rfl sh_64 rfl h (fun σ_1 h => ?_)
  refine a_iload_n C eX10_fault_5 rfl ?_
  refine a_if_ne C eX10_fault_6 (fun hc => ?_) (fun hc => ?_)
  · replace h := ie hc h
    refine a_iload_n C eX10_fault_16 rfl ?_
    refine a_iconst C eX10_fault_17 (1 : Int32) c_iconst_1 ?_
    refine a_icmp_ne C eX10_fault_18 (fun hc => ?_) (fun hc => ?_)
    · replace h := ie hc h
      refine a_iconst C eX10_fault_28 (-1 : Int32) c_iconst_m1 ?_
      exact rt_i R eX10_fault_29 h nb_int
    · replace h := it hc h
      refine a_aload_n C eX10_fault_21 rfl ?_
      refine a_getI C eX10_fault_22 fX10_46 sh_64 rfl ?_
      refine a_goto C eX10_fault_25 ?_
      exact rt_i R eX10_fault_29 h nb_int
  · replace h := it hc h
    refine a_aload_n C eX10_fault_9 rfl ?_
    refine a_getI C eX10_fault_10 fX10_212 sh_64 rfl ?_
    refine a_goto C eX10_fault_13 ?_
    exact rt_i R eX10_fault_29 h nb_int
/-! ShelfDrivesModel.about(I)I -/
def XX10_about (p1 : Int32) (σ : Sg) : Option (Int32 × Sg) := lt (up σ 64 0 (0 : Int32)) (fun (σ_1 : Sg) => if p1 = (0 : Int32) then (b1 (XX10_shops σ_1) (fun (r_2 : Int32) => some (r_2, σ_1))) else (if p1 = (1 : Int32) then (b1 (XX10_days σ_1) (fun (r_4 : Int32) => some (r_4, σ_1))) else (if p1 = (2 : Int32) then (b1 (XX10_number (3 : Int32) σ_1) (fun (r_6 : Int32) => some (r_6, σ_1))) else (if p1 = (3 : Int32) then (b1 (XX10_number (4 : Int32) σ_1) (fun (r_8 : Int32) => some (r_8, σ_1))) else (if p1 = (4 : Int32) then (b1 (XX10_number (5 : Int32) σ_1) (fun (r_10 : Int32) => some (r_10, σ_1))) else (if p1 = (5 : Int32) then (b1 (XX10_number (6 : Int32) σ_1) (fun (r_12 : Int32) => some (r_12, σ_1))) else (if p1 = (6 : Int32) then (b1 (XX10_number (7 : Int32) σ_1) (fun (r_14 : Int32) => some (r_14, σ_1))) else (if p1 = (7 : Int32) then (b1 (XX10_number (9 : Int32) σ_1) (fun (r_16 : Int32) => some (r_16, σ_1))) else (if p1 = (8 : Int32) then (some (σ_1 64 39, σ_1)) else (if p1 = (9 : Int32) then (some (σ_1 64 14, σ_1)) else (if p1 = (10 : Int32) then (b1 (XX10_number (1 : Int32) σ_1) (fun (r_20 : Int32) => some (r_20, σ_1))) else (if p1 = (11 : Int32) then (b1 (XX10_number (2 : Int32) σ_1) (fun (r_22 : Int32) => some (r_22, σ_1))) else (some ((-1 : Int32), σ_1))))))))))))))
theorem kX10_about {p1 : Int32} {σ : Sg} {rr : (Int32 × Sg)}  (h : XX10_about p1 σ = some rr) : Ci MX10_about [.ref 64, .int p1] (SHc ++ SHm) σ rr := by
  refine Ci.start rfl rfl (Nat.le_of_ble_eq_true rfl) ?_
  intro X ad C R
  replace C : Cx X cX10_about 2 RX10 (some .int) { frames := 1, cells := 0, slots := 0, locals := 21 } := C
  replace R : Ri X cX10_about (some .int) ad (SHc ++ SHm) rr := R
  show AW X 0 0 ad (SHc ++ SHm) σ 0 [some (.ref 64), some (.int p1)] []
  rw [XX10_about] at h
  refine a_aload_n C eX10_about_0 rfl ?_
  refine a_iconst C eX10_about_1 (0 : Int32) c_iconst_0 ?_
  refine a_putIL C eX10_about_2 fX10_95 ftyX10 rfl rfl sh_64 rfl h (fun σ_1 h => ?_)
  refine a_iload_n C eX10_about_5 rfl ?_
  by_cases hs_3 : p1 = (0 : Int32)
  · replace h := it hs_3 h
    refine a_tsw C eX10_about_6 (0 : Int32) hs_3 (by decide) (by decide) rfl (tgt := 68) rfl ?_
    refine a_aload_n C eX10_about_68 rfl ?_
    obtain ⟨r_2, hq, h⟩ := b1_e h
    refine a_cVi0 C eX10_about_69 wX10_98 ⟨Nat.le_of_ble_eq_true rfl, Nat.le_of_ble_eq_true rfl, rfl, rfl⟩ rfl sh_64 rfl (kX10_shops hq) (Nat.le_of_ble_eq_true rfl) ?_
    exact rt_i R eX10_about_72 h nb_int
  replace h := ie hs_3 h
  by_cases hs_5 : p1 = (1 : Int32)
  · replace h := it hs_5 h
    refine a_tsw C eX10_about_6 (1 : Int32) hs_5 (by decide) (by decide) rfl (tgt := 73) rfl ?_
    refine a_aload_n C eX10_about_73 rfl ?_
    obtain ⟨r_4, hq, h⟩ := b1_e h
    refine a_cVi0 C eX10_about_74 wX10_106 ⟨Nat.le_of_ble_eq_true rfl, Nat.le_of_ble_eq_true rfl, rfl, rfl⟩ rfl sh_64 rfl (kX10_days hq) (Nat.le_of_ble_eq_true rfl) ?_
    exact rt_i R eX10_about_77 h nb_int
  replace h := ie hs_5 h
  by_cases hs_7 : p1 = (2 : Int32)
  · replace h := it hs_7 h
    refine a_tsw C eX10_about_6 (2 : Int32) hs_7 (by decide) (by decide) rfl (tgt := 78) rfl ?_
    refine a_aload_n C eX10_about_78 rfl ?_
    refine a_iconst C eX10_about_79 (3 : Int32) c_iconst_3 ?_
    obtain ⟨r_6, hq, h⟩ := b1_e h
    refine a_cVi1 C eX10_about_80 wX10_224 ⟨Nat.le_of_ble_eq_true rfl, Nat.le_of_ble_eq_true rfl, rfl, rfl⟩ rfl sh_64 rfl (kX10_number hq) (Nat.le_of_ble_eq_true rfl) ?_
    exact rt_i R eX10_about_83 h nb_int
  replace h := ie hs_7 h
  by_cases hs_9 : p1 = (3 : Int32)
  · replace h := it hs_9 h
    refine a_tsw C eX10_about_6 (3 : Int32) hs_9 (by decide) (by decide) rfl (tgt := 84) rfl ?_
    refine a_aload_n C eX10_about_84 rfl ?_
    refine a_iconst C eX10_about_85 (4 : Int32) c_iconst_4 ?_
    obtain ⟨r_8, hq, h⟩ := b1_e h
    refine a_cVi1 C eX10_about_86 wX10_224 ⟨Nat.le_of_ble_eq_true rfl, Nat.le_of_ble_eq_true rfl, rfl, rfl⟩ rfl sh_64 rfl (kX10_number hq) (Nat.le_of_ble_eq_true rfl) ?_
    exact rt_i R eX10_about_89 h nb_int
  replace h := ie hs_9 h
  by_cases hs_11 : p1 = (4 : Int32)
  · replace h := it hs_11 h
    refine a_tsw C eX10_about_6 (4 : Int32) hs_11 (by decide) (by decide) rfl (tgt := 90) rfl ?_
    refine a_aload_n C eX10_about_90 rfl ?_
    refine a_iconst C eX10_about_91 (5 : Int32) c_iconst_5 ?_
    obtain ⟨r_10, hq, h⟩ := b1_e h
    refine a_cVi1 C eX10_about_92 wX10_224 ⟨Nat.le_of_ble_eq_true rfl, Nat.le_of_ble_eq_true rfl, rfl, rfl⟩ rfl sh_64 rfl (kX10_number hq) (Nat.le_of_ble_eq_true rfl) ?_
    exact rt_i R eX10_about_95 h nb_int
  replace h := ie hs_11 h
  by_cases hs_13 : p1 = (5 : Int32)
  · replace h := it hs_13 h
    refine a_tsw C eX10_about_6 (5 : Int32) hs_13 (by decide) (by decide) rfl (tgt := 96) rfl ?_
    refine a_aload_n C eX10_about_96 rfl ?_
    refine a_bipush C eX10_about_97 (6 : Int32) c_bipush_6 ?_
    obtain ⟨r_12, hq, h⟩ := b1_e h
    refine a_cVi1 C eX10_about_99 wX10_224 ⟨Nat.le_of_ble_eq_true rfl, Nat.le_of_ble_eq_true rfl, rfl, rfl⟩ rfl sh_64 rfl (kX10_number hq) (Nat.le_of_ble_eq_true rfl) ?_
    exact rt_i R eX10_about_102 h nb_int
  replace h := ie hs_13 h
  by_cases hs_15 : p1 = (6 : Int32)
  · replace h := it hs_15 h
    refine a_tsw C eX10_about_6 (6 : Int32) hs_15 (by decide) (by decide) rfl (tgt := 103) rfl ?_
    refine a_aload_n C eX10_about_103 rfl ?_
    refine a_bipush C eX10_about_104 (7 : Int32) c_bipush_7 ?_
    obtain ⟨r_14, hq, h⟩ := b1_e h
    refine a_cVi1 C eX10_about_106 wX10_224 ⟨Nat.le_of_ble_eq_true rfl, Nat.le_of_ble_eq_true rfl, rfl, rfl⟩ rfl sh_64 rfl (kX10_number hq) (Nat.le_of_ble_eq_true rfl) ?_
    exact rt_i R eX10_about_109 h nb_int
  replace h := ie hs_15 h
  by_cases hs_17 : p1 = (7 : Int32)
  · replace h := it hs_17 h
    refine a_tsw C eX10_about_6 (7 : Int32) hs_17 (by decide) (by decide) rfl (tgt := 110) rfl ?_
    refine a_aload_n C eX10_about_110 rfl ?_
    refine a_bipush C eX10_about_111 (9 : Int32) c_bipush_9 ?_
    obtain ⟨r_16, hq, h⟩ := b1_e h
    refine a_cVi1 C eX10_about_113 wX10_224 ⟨Nat.le_of_ble_eq_true rfl, Nat.le_of_ble_eq_true rfl, rfl, rfl⟩ rfl sh_64 rfl (kX10_number hq) (Nat.le_of_ble_eq_true rfl) ?_
    exact rt_i R eX10_about_116 h nb_int
  replace h := ie hs_17 h
  by_cases hs_18 : p1 = (8 : Int32)
  · replace h := it hs_18 h
    refine a_tsw C eX10_about_6 (8 : Int32) hs_18 (by decide) (by decide) rfl (tgt := 117) rfl ?_
    refine a_aload_n C eX10_about_117 rfl ?_
    refine a_getI C eX10_about_118 fX10_218 sh_64 rfl ?_
    exact rt_i R eX10_about_121 h nb_int
  replace h := ie hs_18 h
  by_cases hs_19 : p1 = (9 : Int32)
  · replace h := it hs_19 h
    refine a_tsw C eX10_about_6 (9 : Int32) hs_19 (by decide) (by decide) rfl (tgt := 122) rfl ?_
    refine a_aload_n C eX10_about_122 rfl ?_
    refine a_getI C eX10_about_123 fX10_109 sh_64 rfl ?_
    exact rt_i R eX10_about_126 h nb_int
  replace h := ie hs_19 h
  by_cases hs_21 : p1 = (10 : Int32)
  · replace h := it hs_21 h
    refine a_tsw C eX10_about_6 (10 : Int32) hs_21 (by decide) (by decide) rfl (tgt := 127) rfl ?_
    refine a_aload_n C eX10_about_127 rfl ?_
    refine a_iconst C eX10_about_128 (1 : Int32) c_iconst_1 ?_
    obtain ⟨r_20, hq, h⟩ := b1_e h
    refine a_cVi1 C eX10_about_129 wX10_224 ⟨Nat.le_of_ble_eq_true rfl, Nat.le_of_ble_eq_true rfl, rfl, rfl⟩ rfl sh_64 rfl (kX10_number hq) (Nat.le_of_ble_eq_true rfl) ?_
    exact rt_i R eX10_about_132 h nb_int
  replace h := ie hs_21 h
  by_cases hs_23 : p1 = (11 : Int32)
  · replace h := it hs_23 h
    refine a_tsw C eX10_about_6 (11 : Int32) hs_23 (by decide) (by decide) rfl (tgt := 133) rfl ?_
    refine a_aload_n C eX10_about_133 rfl ?_
    refine a_iconst C eX10_about_134 (2 : Int32) c_iconst_2 ?_
    obtain ⟨r_22, hq, h⟩ := b1_e h
    refine a_cVi1 C eX10_about_135 wX10_224 ⟨Nat.le_of_ble_eq_true rfl, Nat.le_of_ble_eq_true rfl, rfl, rfl⟩ rfl sh_64 rfl (kX10_number hq) (Nat.le_of_ble_eq_true rfl) ?_
    exact rt_i R eX10_about_138 h nb_int
  replace h := ie hs_23 h
  refine a_tsw_out C eX10_about_6 12 rfl (fun j hj => match j, hj with | 0, _ => lv_neT hs_3 rfl | 1, _ => lv_neT hs_5 rfl | 2, _ => lv_neT hs_7 rfl | 3, _ => lv_neT hs_9 rfl | 4, _ => lv_neT hs_11 rfl | 5, _ => lv_neT hs_13 rfl | 6, _ => lv_neT hs_15 rfl | 7, _ => lv_neT hs_17 rfl | 8, _ => lv_neT hs_18 rfl | 9, _ => lv_neT hs_19 rfl | 10, _ => lv_neT hs_21 rfl | 11, _ => lv_neT hs_23 rfl | j + 12, hj => absurd hj (by omega)) (tgt := 139) rfl ?_
  refine a_iconst C eX10_about_139 (-1 : Int32) c_iconst_m1 ?_
  exact rt_i R eX10_about_140 h nb_int
/-! ShelfDrivesModel.milesOf(I)I -/
def XX10_milesOf (p1 : Int32) (σ : Sg) : Option Int32 := if ib ((384 : Int32) + p1) 448 then some (σ 77 ((384 : Int32) + p1).toNatClampNeg) else none
theorem kX10_milesOf {p1 : Int32} {σ : Sg} {rr : Int32}  (h : XX10_milesOf p1 σ = some rr) : Ci MX10_milesOf [.ref 64, .int p1] (SHc ++ SHm) σ (rr, σ) := by
  refine Ci.start rfl rfl (Nat.le_of_ble_eq_true rfl) ?_
  intro X ad C R
  replace C : Cx X cX10_milesOf 2 RX10 (some .int) { frames := 0, cells := 0, slots := 0, locals := 0 } := C
  replace R : Ri X cX10_milesOf (some .int) ad (SHc ++ SHm) (rr, σ) := R
  show AW X 0 0 ad (SHc ++ SHm) σ 0 [some (.ref 64), some (.int p1)] []
  rw [XX10_milesOf] at h
  refine a_aload_n C eX10_milesOf_0 rfl ?_
  refine a_getR C eX10_milesOf_1 fX10_50 sh_64 rfl ?_
  refine a_sipush C eX10_milesOf_4 (384 : Int32) c_sipush_384 ?_
  refine a_iload_n C eX10_milesOf_7 rfl ?_
  refine a_iadd C eX10_milesOf_8 ?_
  obtain ⟨hb_1, h⟩ := gd h
  refine a_iald C eX10_milesOf_9 sh_77 hb_1 ?_
  exact rt_p R eX10_milesOf_10 h nb_int
/-! ShelfDrivesModel.costOfSet(I)I -/
def XX10_costOfSet (p1 : Int32) (σ : Sg) : Option Int32 := if p1 = 0 then (some (0 : Int32)) else (b1 (XX10_number (4 : Int32) σ) (fun (r_1 : Int32) => b1 (XX10_number (5 : Int32) σ) (fun (r_2 : Int32) => b1 (XX10_milesOf p1 σ) (fun (r_3 : Int32) => some (r_1 + (r_2 * r_3))))))
theorem kX10_costOfSet {p1 : Int32} {σ : Sg} {rr : Int32}  (h : XX10_costOfSet p1 σ = some rr) : Ci MX10_costOfSet [.ref 64, .int p1] (SHc ++ SHm) σ (rr, σ) := by
  refine Ci.start rfl rfl (Nat.le_of_ble_eq_true rfl) ?_
  intro X ad C R
  replace C : Cx X cX10_costOfSet 2 RX10 (some .int) { frames := 1, cells := 0, slots := 0, locals := 21 } := C
  replace R : Ri X cX10_costOfSet (some .int) ad (SHc ++ SHm) (rr, σ) := R
  show AW X 0 0 ad (SHc ++ SHm) σ 0 [some (.ref 64), some (.int p1)] []
  rw [XX10_costOfSet] at h
  refine a_iload_n C eX10_costOfSet_0 rfl ?_
  refine a_if_ne C eX10_costOfSet_1 (fun hc => ?_) (fun hc => ?_)
  · replace h := ie hc h
    refine a_aload_n C eX10_costOfSet_8 rfl ?_
    refine a_iconst C eX10_costOfSet_9 (4 : Int32) c_iconst_4 ?_
    obtain ⟨r_1, hq, h⟩ := b1_e h
    refine a_cVi1 C eX10_costOfSet_10 wX10_224 ⟨Nat.le_of_ble_eq_true rfl, Nat.le_of_ble_eq_true rfl, rfl, rfl⟩ rfl sh_64 rfl (kX10_number hq) (Nat.le_of_ble_eq_true rfl) ?_
    refine a_aload_n C eX10_costOfSet_13 rfl ?_
    refine a_iconst C eX10_costOfSet_14 (5 : Int32) c_iconst_5 ?_
    obtain ⟨r_2, hq, h⟩ := b1_e h
    refine a_cVi1 C eX10_costOfSet_15 wX10_224 ⟨Nat.le_of_ble_eq_true rfl, Nat.le_of_ble_eq_true rfl, rfl, rfl⟩ rfl sh_64 rfl (kX10_number hq) (Nat.le_of_ble_eq_true rfl) ?_
    refine a_aload_n C eX10_costOfSet_18 rfl ?_
    refine a_iload_n C eX10_costOfSet_19 rfl ?_
    obtain ⟨r_3, hq, h⟩ := b1_e h
    refine a_cVi1 C eX10_costOfSet_20 wX10_230 ⟨Nat.le_of_ble_eq_true rfl, Nat.le_of_ble_eq_true rfl, rfl, rfl⟩ rfl sh_64 rfl (kX10_milesOf hq) (Nat.le_of_ble_eq_true rfl) ?_
    refine a_imul C eX10_costOfSet_23 ?_
    refine a_iadd C eX10_costOfSet_24 ?_
    exact rt_p R eX10_costOfSet_25 h nb_int
  · replace h := it hc h
    refine a_iconst C eX10_costOfSet_4 (0 : Int32) c_iconst_0 ?_
    refine a_goto C eX10_costOfSet_5 ?_
    exact rt_p R eX10_costOfSet_25 h nb_int
/-! ShelfDrivesModel.miles(I)I -/
def XX10_miles (p1 : Int32) (σ : Sg) : Option (Int32 × Sg) := lt (up σ 64 0 (0 : Int32)) (fun (σ_1 : Sg) => b1 (XX10_shops σ_1) (fun (r_2 : Int32) => b1 (XX10_in p1 (0 : Int32) (((1 : Int32) <<< (r_2 &&& 31)) - (1 : Int32))) (fun (r_3 : Int32) => if r_3 = 0 then (some ((-1 : Int32), σ_1)) else (b1 (XX10_milesOf p1 σ_1) (fun (r_4 : Int32) => some (r_4, σ_1))))))
theorem kX10_miles {p1 : Int32} {σ : Sg} {rr : (Int32 × Sg)}  (h : XX10_miles p1 σ = some rr) : Ci MX10_miles [.ref 64, .int p1] (SHc ++ SHm) σ rr := by
  refine Ci.start rfl rfl (Nat.le_of_ble_eq_true rfl) ?_
  intro X ad C R
  replace C : Cx X cX10_miles 2 RX10 (some .int) { frames := 1, cells := 0, slots := 0, locals := 22 } := C
  replace R : Ri X cX10_miles (some .int) ad (SHc ++ SHm) rr := R
  show AW X 0 0 ad (SHc ++ SHm) σ 0 [some (.ref 64), some (.int p1)] []
  rw [XX10_miles] at h
  refine a_aload_n C eX10_miles_0 rfl ?_
  refine a_iconst C eX10_miles_1 (0 : Int32) c_iconst_0 ?_
  refine a_putIL C eX10_miles_2 fX10_95 ftyX10 rfl rfl sh_64 rfl h (fun σ_1 h => ?_)
  refine a_iload_n C eX10_miles_5 rfl ?_
  refine a_iconst C eX10_miles_6 (0 : Int32) c_iconst_0 ?_
  refine a_iconst C eX10_miles_7 (1 : Int32) c_iconst_1 ?_
  refine a_aload_n C eX10_miles_8 rfl ?_
  obtain ⟨r_2, hq, h⟩ := b1_e h
  refine a_cVi0 C eX10_miles_9 wX10_98 ⟨Nat.le_of_ble_eq_true rfl, Nat.le_of_ble_eq_true rfl, rfl, rfl⟩ rfl sh_64 rfl (kX10_shops hq) (Nat.le_of_ble_eq_true rfl) ?_
  refine a_ishl C eX10_miles_12 ?_
  refine a_iconst C eX10_miles_13 (1 : Int32) c_iconst_1 ?_
  refine a_isub C eX10_miles_14 ?_
  obtain ⟨r_3, hq, h⟩ := b1_e h
  refine a_cSi3 C eX10_miles_15 wX10_102 ⟨Nat.le_of_ble_eq_true rfl, Nat.le_of_ble_eq_true rfl, rfl, rfl⟩ rfl (kX10_in hq) (Nat.le_of_ble_eq_true rfl) ?_
  refine a_if_eq C eX10_miles_18 (fun hc => ?_) (fun hc => ?_)
  · replace h := it hc h
    refine a_iconst C eX10_miles_29 (-1 : Int32) c_iconst_m1 ?_
    exact rt_i R eX10_miles_30 h nb_int
  · replace h := ie hc h
    refine a_aload_n C eX10_miles_21 rfl ?_
    refine a_iload_n C eX10_miles_22 rfl ?_
    obtain ⟨r_4, hq, h⟩ := b1_e h
    refine a_cVi1 C eX10_miles_23 wX10_230 ⟨Nat.le_of_ble_eq_true rfl, Nat.le_of_ble_eq_true rfl, rfl, rfl⟩ rfl sh_64 rfl (kX10_milesOf hq) (Nat.le_of_ble_eq_true rfl) ?_
    refine a_goto C eX10_miles_26 ?_
    exact rt_i R eX10_miles_30 h nb_int
