/-! ShelfDrives$Reader.readShop()Z -/
def XX4_readShop (σ : Sg) : Option (Int32 × Sg) := lt (σ 11 6) (fun (x1_1 : Int32) => if x1_1 < (6 : Int32) then (b2 (XX4_want (13 : Int32) σ) (fun (r_2 : Int32) (σ_3 : Sg) => if r_2 = 0 then (some ((0 : Int32), σ_3)) else (b1 (XX4_shopNamed (σ_3 10 11) σ_3) (fun (r_4 : Int32) => if r_4 = (-1 : Int32) then (if ib x1_1 6 then lt (up σ_3 23 x1_1.toNatClampNeg (σ_3 10 11)) (fun (σ_5 : Sg) => b2 (XX4_want (8 : Int32) σ_5) (fun (r_7 : Int32) (σ_8 : Sg) => if r_7 = 0 then (some ((0 : Int32), σ_8)) else (b2 (XX4_wantNumber (0 : Int32) (30 : Int32) σ_8) (fun (r_9 : Int32) (σ_10 : Sg) => if r_9 = 0 then (some ((0 : Int32), σ_10)) else (if ib x1_1 7 then lt (up σ_10 12 x1_1.toNatClampNeg (σ_10 10 11)) (fun (σ_11 : Sg) => b2 (XX4_wantNumber (0 : Int32) (30 : Int32) σ_11) (fun (r_13 : Int32) (σ_14 : Sg) => if r_13 = 0 then (some ((0 : Int32), σ_14)) else (lt (up σ_14 13 x1_1.toNatClampNeg (σ_14 10 11)) (fun (σ_15 : Sg) => b2 (XX4_want (9 : Int32) σ_15) (fun (r_16 : Int32) (σ_17 : Sg) => if r_16 = 0 then (some ((0 : Int32), σ_17)) else (b2 (XX4_wantNumber (1 : Int32) (σ_17 11 1) σ_17) (fun (r_18 : Int32) (σ_19 : Sg) => if r_18 = 0 then (some ((0 : Int32), σ_19)) else (lt (up σ_19 14 x1_1.toNatClampNeg (σ_19 10 11)) (fun (σ_20 : Sg) => b2 (XX4_want (10 : Int32) σ_20) (fun (r_21 : Int32) (σ_22 : Sg) => if r_21 = 0 then (some ((0 : Int32), σ_22)) else (b2 (XX4_wantNumber (0 : Int32) (σ_22 14 x1_1.toNatClampNeg) σ_22) (fun (r_23 : Int32) (σ_24 : Sg) => if r_23 = 0 then (some ((0 : Int32), σ_24)) else (lt (up σ_24 15 x1_1.toNatClampNeg (σ_24 10 11)) (fun (σ_25 : Sg) => b2 (XX4_want (11 : Int32) σ_25) (fun (r_26 : Int32) (σ_27 : Sg) => lt (fun (σ_28 : Sg) => some ((0 : Int32), σ_28)) (fun (k219_29 : Sg → Option (Int32 × Sg)) => if r_26 = 0 then (k219_29 σ_27) else (b2 (XX4_readSold x1_1 σ_27) (fun (r_30 : Int32) (σ_31 : Sg) => if r_30 = 0 then (k219_29 σ_31) else (some ((1 : Int32), σ_31)))))))))))))))))))) else none))))) else none) else (b2 (XX4_refuse (3 : Int32) σ_3) (fun (r_32 : Int32) (σ_33 : Sg) => if r_32 = 0 ∨ r_32 = 1 then some (r_32, σ_33) else none)))))) else (b2 (XX4_refuse (5 : Int32) σ) (fun (r_35 : Int32) (σ_36 : Sg) => if r_35 = 0 ∨ r_35 = 1 then some (r_35, σ_36) else none)))
theorem kX4_readShop {ext : List Shp} {σ : Sg} {rr : (Int32 × Sg)}  (h : XX4_readShop σ = some rr) : Ci MX4_readShop [.ref 10] (SHc ++ ext) σ rr := by
  refine Ci.start rfl rfl (Nat.le_of_ble_eq_true rfl) ?_
  intro X ad C R
  replace C : Cx X cX4_readShop 2 RX4 (some .boolean) { frames := 3, cells := 0, slots := 0, locals := 66 } := C
  replace R : Ri X cX4_readShop (some .boolean) ad (SHc ++ ext) rr := R
  show AW X 0 0 ad (SHc ++ ext) σ 0 [some (.ref 10), none] []
  rw [XX4_readShop] at h
  refine a_aload_n C eX4_readShop_0 rfl ?_
  refine a_getR C eX4_readShop_1 fX4_12 sh_10 rfl ?_
  refine a_getI C eX4_readShop_4 fX4_146 sh_11 rfl ?_
  refine a_lt h (fun x1_1 h => ?_)
  refine a_ist_n C eX4_readShop_7 (Nat.le_of_ble_eq_true rfl) [some (.ref 10), some (.int x1_1)] rfl ?_
  refine a_iload_n C eX4_readShop_8 rfl ?_
  refine a_bipush C eX4_readShop_9 (6 : Int32) c_bipush_6 ?_
  refine a_icmp_lt C eX4_readShop_11 (fun hc => ?_) (fun hc => ?_)
  · replace h := it hc h
    refine a_aload_n C eX4_readShop_20 rfl ?_
    refine a_bipush C eX4_readShop_21 (13 : Int32) c_bipush_13 ?_
    obtain ⟨r_2, σ_3, hq, h⟩ := b2_e h
    refine a_cVi1 C eX4_readShop_23 wX4_155 ⟨Nat.le_of_ble_eq_true rfl, Nat.le_of_ble_eq_true rfl, rfl, rfl⟩ rfl sh_10 rfl (kX4_want hq) (Nat.le_of_ble_eq_true rfl) ?_
    refine a_if_ne C eX4_readShop_26 (fun hc => ?_) (fun hc => ?_)
    · replace h := ie hc h
      refine a_aload_n C eX4_readShop_31 rfl ?_
      refine a_aload_n C eX4_readShop_32 rfl ?_
      refine a_getI C eX4_readShop_33 fX4_115 sh_10 rfl ?_
      obtain ⟨r_4, hq, h⟩ := b1_e h
      refine a_cVi1 C eX4_readShop_36 wX4_179 ⟨Nat.le_of_ble_eq_true rfl, Nat.le_of_ble_eq_true rfl, rfl, rfl⟩ rfl sh_10 rfl (kX4_shopNamed hq) (Nat.le_of_ble_eq_true rfl) ?_
      refine a_iconst C eX4_readShop_39 (-1 : Int32) c_iconst_m1 ?_
      refine a_icmp_eq C eX4_readShop_40 (fun hc => ?_) (fun hc => ?_)
      · replace h := it hc h
        refine a_aload_n C eX4_readShop_49 rfl ?_
        refine a_getR C eX4_readShop_50 fX4_38 sh_10 rfl ?_
        refine a_iload_n C eX4_readShop_53 rfl ?_
        refine a_aload_n C eX4_readShop_54 rfl ?_
        refine a_getI C eX4_readShop_55 fX4_115 sh_10 rfl ?_
        obtain ⟨hb_6, h⟩ := gd h
        refine a_iastL C eX4_readShop_58 sh_23 hb_6 h (fun σ_5 h => ?_)
        refine a_aload_n C eX4_readShop_59 rfl ?_
        refine a_bipush C eX4_readShop_60 (8 : Int32) c_bipush_8 ?_
        obtain ⟨r_7, σ_8, hq, h⟩ := b2_e h
        refine a_cVi1 C eX4_readShop_62 wX4_155 ⟨Nat.le_of_ble_eq_true rfl, Nat.le_of_ble_eq_true rfl, rfl, rfl⟩ rfl sh_10 rfl (kX4_want hq) (Nat.le_of_ble_eq_true rfl) ?_
        refine a_if_eq C eX4_readShop_65 (fun hc => ?_) (fun hc => ?_)
        · replace h := it hc h
          refine a_iconst C eX4_readShop_78 (0 : Int32) c_iconst_0 ?_
          exact rt_i R eX4_readShop_79 h nb_0
        · replace h := ie hc h
          refine a_aload_n C eX4_readShop_68 rfl ?_
          refine a_iconst C eX4_readShop_69 (0 : Int32) c_iconst_0 ?_
          refine a_bipush C eX4_readShop_70 (30 : Int32) c_bipush_30 ?_
          obtain ⟨r_9, σ_10, hq, h⟩ := b2_e h
          refine a_cVi2 C eX4_readShop_72 wX4_149 ⟨Nat.le_of_ble_eq_true rfl, Nat.le_of_ble_eq_true rfl, rfl, rfl⟩ rfl sh_10 rfl (kX4_wantNumber hq) (Nat.le_of_ble_eq_true rfl) ?_
          refine a_if_ne C eX4_readShop_75 (fun hc => ?_) (fun hc => ?_)
          · replace h := ie hc h
            refine a_aload_n C eX4_readShop_80 rfl ?_
            refine a_getR C eX4_readShop_81 fX4_12 sh_10 rfl ?_
            refine a_getR C eX4_readShop_84 fX4_158 sh_11 rfl ?_
            refine a_iload_n C eX4_readShop_87 rfl ?_
            refine a_aload_n C eX4_readShop_88 rfl ?_
            refine a_getI C eX4_readShop_89 fX4_115 sh_10 rfl ?_
            obtain ⟨hb_12, h⟩ := gd h
            refine a_iastL C eX4_readShop_92 sh_12 hb_12 h (fun σ_11 h => ?_)
            refine a_aload_n C eX4_readShop_93 rfl ?_
            refine a_iconst C eX4_readShop_94 (0 : Int32) c_iconst_0 ?_
            refine a_bipush C eX4_readShop_95 (30 : Int32) c_bipush_30 ?_
            obtain ⟨r_13, σ_14, hq, h⟩ := b2_e h
            refine a_cVi2 C eX4_readShop_97 wX4_149 ⟨Nat.le_of_ble_eq_true rfl, Nat.le_of_ble_eq_true rfl, rfl, rfl⟩ rfl sh_10 rfl (kX4_wantNumber hq) (Nat.le_of_ble_eq_true rfl) ?_
            refine a_if_ne C eX4_readShop_100 (fun hc => ?_) (fun hc => ?_)
            · replace h := ie hc h
              refine a_aload_n C eX4_readShop_105 rfl ?_
              refine a_getR C eX4_readShop_106 fX4_12 sh_10 rfl ?_
              refine a_getR C eX4_readShop_109 fX4_161 sh_11 rfl ?_
              refine a_iload_n C eX4_readShop_112 rfl ?_
              refine a_aload_n C eX4_readShop_113 rfl ?_
              refine a_getI C eX4_readShop_114 fX4_115 sh_10 rfl ?_
              refine a_iastL C eX4_readShop_117 sh_13 hb_12 h (fun σ_15 h => ?_)
              refine a_aload_n C eX4_readShop_118 rfl ?_
              refine a_bipush C eX4_readShop_119 (9 : Int32) c_bipush_9 ?_
              obtain ⟨r_16, σ_17, hq, h⟩ := b2_e h
              refine a_cVi1 C eX4_readShop_121 wX4_155 ⟨Nat.le_of_ble_eq_true rfl, Nat.le_of_ble_eq_true rfl, rfl, rfl⟩ rfl sh_10 rfl (kX4_want hq) (Nat.le_of_ble_eq_true rfl) ?_
              refine a_if_eq C eX4_readShop_124 (fun hc => ?_) (fun hc => ?_)
              · replace h := it hc h
                refine a_iconst C eX4_readShop_142 (0 : Int32) c_iconst_0 ?_
                exact rt_i R eX4_readShop_143 h nb_0
              · replace h := ie hc h
                refine a_aload_n C eX4_readShop_127 rfl ?_
                refine a_iconst C eX4_readShop_128 (1 : Int32) c_iconst_1 ?_
                refine a_aload_n C eX4_readShop_129 rfl ?_
                refine a_getR C eX4_readShop_130 fX4_12 sh_10 rfl ?_
                refine a_getI C eX4_readShop_133 fX4_170 sh_11 rfl ?_
                obtain ⟨r_18, σ_19, hq, h⟩ := b2_e h
                refine a_cVi2 C eX4_readShop_136 wX4_149 ⟨Nat.le_of_ble_eq_true rfl, Nat.le_of_ble_eq_true rfl, rfl, rfl⟩ rfl sh_10 rfl (kX4_wantNumber hq) (Nat.le_of_ble_eq_true rfl) ?_
                refine a_if_ne C eX4_readShop_139 (fun hc => ?_) (fun hc => ?_)
                · replace h := ie hc h
                  refine a_aload_n C eX4_readShop_144 rfl ?_
                  refine a_getR C eX4_readShop_145 fX4_12 sh_10 rfl ?_
                  refine a_getR C eX4_readShop_148 fX4_182 sh_11 rfl ?_
                  refine a_iload_n C eX4_readShop_151 rfl ?_
                  refine a_aload_n C eX4_readShop_152 rfl ?_
                  refine a_getI C eX4_readShop_153 fX4_115 sh_10 rfl ?_
                  refine a_iastL C eX4_readShop_156 sh_14 hb_6 h (fun σ_20 h => ?_)
                  refine a_aload_n C eX4_readShop_157 rfl ?_
                  refine a_bipush C eX4_readShop_158 (10 : Int32) c_bipush_10 ?_
                  obtain ⟨r_21, σ_22, hq, h⟩ := b2_e h
                  refine a_cVi1 C eX4_readShop_160 wX4_155 ⟨Nat.le_of_ble_eq_true rfl, Nat.le_of_ble_eq_true rfl, rfl, rfl⟩ rfl sh_10 rfl (kX4_want hq) (Nat.le_of_ble_eq_true rfl) ?_
                  refine a_if_eq C eX4_readShop_163 (fun hc => ?_) (fun hc => ?_)
                  · replace h := it hc h
                    refine a_iconst C eX4_readShop_183 (0 : Int32) c_iconst_0 ?_
                    exact rt_i R eX4_readShop_184 h nb_0
                  · replace h := ie hc h
                    refine a_aload_n C eX4_readShop_166 rfl ?_
                    refine a_iconst C eX4_readShop_167 (0 : Int32) c_iconst_0 ?_
                    refine a_aload_n C eX4_readShop_168 rfl ?_
                    refine a_getR C eX4_readShop_169 fX4_12 sh_10 rfl ?_
                    refine a_getR C eX4_readShop_172 fX4_182 sh_11 rfl ?_
                    refine a_iload_n C eX4_readShop_175 rfl ?_
                    refine a_iald C eX4_readShop_176 sh_14 hb_6 ?_
                    obtain ⟨r_23, σ_24, hq, h⟩ := b2_e h
                    refine a_cVi2 C eX4_readShop_177 wX4_149 ⟨Nat.le_of_ble_eq_true rfl, Nat.le_of_ble_eq_true rfl, rfl, rfl⟩ rfl sh_10 rfl (kX4_wantNumber hq) (Nat.le_of_ble_eq_true rfl) ?_
                    refine a_if_ne C eX4_readShop_180 (fun hc => ?_) (fun hc => ?_)
                    · replace h := ie hc h
                      refine a_aload_n C eX4_readShop_185 rfl ?_
                      refine a_getR C eX4_readShop_186 fX4_12 sh_10 rfl ?_
                      refine a_getR C eX4_readShop_189 fX4_185 sh_11 rfl ?_
                      refine a_iload_n C eX4_readShop_192 rfl ?_
                      refine a_aload_n C eX4_readShop_193 rfl ?_
                      refine a_getI C eX4_readShop_194 fX4_115 sh_10 rfl ?_
                      refine a_iastL C eX4_readShop_197 sh_15 hb_6 h (fun σ_25 h => ?_)
                      refine a_aload_n C eX4_readShop_198 rfl ?_
                      refine a_bipush C eX4_readShop_199 (11 : Int32) c_bipush_11 ?_
                      obtain ⟨r_26, σ_27, hq, h⟩ := b2_e h
                      refine a_cVi1 C eX4_readShop_201 wX4_155 ⟨Nat.le_of_ble_eq_true rfl, Nat.le_of_ble_eq_true rfl, rfl, rfl⟩ rfl sh_10 rfl (kX4_want hq) (Nat.le_of_ble_eq_true rfl) ?_
                      refine jn (fun (kk : Sg → Option (Int32 × Sg)) => ∀ (σ_28 : Sg), kk σ_28 = some rr → AW X 0 0 ad (SHc ++ ext) σ_28 219 [none, none] []) h ?_ (fun k219_29 hk219_29 h => ?_)
                      · intro σ_28 h
                        refine a_iconst C eX4_readShop_219 (0 : Int32) c_iconst_0 ?_
                        exact rt_i R eX4_readShop_220 h nb_0
                      refine a_if_eq C eX4_readShop_204 (fun hc => ?_) (fun hc => ?_)
                      · replace h := it hc h
                        exact a_less (lle_drop (lle_drop lle_nil)) (hk219_29 _ h)
                      · replace h := ie hc h
                        refine a_aload_n C eX4_readShop_207 rfl ?_
                        refine a_iload_n C eX4_readShop_208 rfl ?_
                        obtain ⟨r_30, σ_31, hq, h⟩ := b2_e h
                        refine a_cVi1 C eX4_readShop_209 wX4_188 ⟨Nat.le_of_ble_eq_true rfl, Nat.le_of_ble_eq_true rfl, rfl, rfl⟩ rfl sh_10 rfl (kX4_readSold hq) (Nat.le_of_ble_eq_true rfl) ?_
                        refine a_if_eq C eX4_readShop_212 (fun hc => ?_) (fun hc => ?_)
                        · replace h := it hc h
                          exact a_less (lle_drop (lle_drop lle_nil)) (hk219_29 _ h)
                        · replace h := ie hc h
                          refine a_iconst C eX4_readShop_215 (1 : Int32) c_iconst_1 ?_
                          refine a_goto C eX4_readShop_216 ?_
                          exact rt_i R eX4_readShop_220 h nb_1
                    · replace h := it hc h
                      refine a_iconst C eX4_readShop_183 (0 : Int32) c_iconst_0 ?_
                      exact rt_i R eX4_readShop_184 h nb_0
                · replace h := it hc h
                  refine a_iconst C eX4_readShop_142 (0 : Int32) c_iconst_0 ?_
                  exact rt_i R eX4_readShop_143 h nb_0
            · replace h := it hc h
              refine a_iconst C eX4_readShop_103 (0 : Int32) c_iconst_0 ?_
              exact rt_i R eX4_readShop_104 h nb_0
          · replace h := it hc h
            refine a_iconst C eX4_readShop_78 (0 : Int32) c_iconst_0 ?_
            exact rt_i R eX4_readShop_79 h nb_0
      · replace h := ie hc h
        refine a_aload_n C eX4_readShop_43 rfl ?_
        refine a_iconst C eX4_readShop_44 (3 : Int32) c_iconst_3 ?_
        obtain ⟨r_32, σ_33, hq, h⟩ := b2_e h
        refine a_cVi1 C eX4_readShop_45 wX4_83 ⟨Nat.le_of_ble_eq_true rfl, Nat.le_of_ble_eq_true rfl, rfl, rfl⟩ rfl sh_10 rfl (kX4_refuse hq) (Nat.le_of_ble_eq_true rfl) ?_
        obtain ⟨hn_34, h⟩ := gd h
        exact rt_i R eX4_readShop_48 h (nb_b hn_34)
    · replace h := it hc h
      refine a_iconst C eX4_readShop_29 (0 : Int32) c_iconst_0 ?_
      exact rt_i R eX4_readShop_30 h nb_0
  · replace h := ie hc h
    refine a_aload_n C eX4_readShop_14 rfl ?_
    refine a_iconst C eX4_readShop_15 (5 : Int32) c_iconst_5 ?_
    obtain ⟨r_35, σ_36, hq, h⟩ := b2_e h
    refine a_cVi1 C eX4_readShop_16 wX4_83 ⟨Nat.le_of_ble_eq_true rfl, Nat.le_of_ble_eq_true rfl, rfl, rfl⟩ rfl sh_10 rfl (kX4_refuse hq) (Nat.le_of_ble_eq_true rfl) ?_
    obtain ⟨hn_37, h⟩ := gd h
    exact rt_i R eX4_readShop_19 h (nb_b hn_37)
/-! ShelfDrives$Town.addRush(III)V -/
def XX7_addRush (k : Nat) (p1 : Int32) (p2 : Int32) (p3 : Int32) (σ : Sg) : Option Sg := if (σ k 7) < (12 : Int32) then (b1 (XX9_cellOf p1 p2) (fun (r_1 : Int32) => if ib (σ k 7) 12 then lt (up σ (k + 6) (σ k 7).toNatClampNeg r_1) (fun (σ_2 : Sg) => if ib (σ_2 k 7) 12 then lt (up σ_2 (k + 7) (σ_2 k 7).toNatClampNeg p3) (fun (σ_4 : Sg) => if ib (σ_4 k 7) 12 then lt (σ_4 (k + 6) (σ_4 k 7).toNatClampNeg) (fun (d_7 : Int32) => if ib d_7 84 then lt (up σ_4 (k + 5) d_7.toNatClampNeg ((σ_4 (k + 5) d_7.toNatClampNeg) + p3)) (fun (σ_9 : Sg) => lt (up σ_9 k 7 ((σ_9 k 7) + (1 : Int32))) (fun (σ_10 : Sg) => some σ_10)) else none) else none) else none) else none)) else (some σ)
theorem kX7_addRush {ext : List Shp} {k : Nat} {p1 : Int32} {p2 : Int32} {p3 : Int32} {σ : Sg} {rr : Sg} (hk : is_X7 (SHc ++ ext) k) (h : XX7_addRush k p1 p2 p3 σ = some rr) : Cv MX7_addRush [.ref k, .int p1, .int p2, .int p3] (SHc ++ ext) σ rr := by
  refine Cv.start rfl rfl (Nat.le_of_ble_eq_true rfl) rfl ?_
  intro X ad C R
  replace C : Cx X cX7_addRush 4 RX7 none { frames := 1, cells := 0, slots := 0, locals := 21 } := C
  replace R : Rv X cX7_addRush ad (SHc ++ ext) rr := R
  show AW X 0 0 ad (SHc ++ ext) σ 0 [some (.ref k), some (.int p1), some (.int p2), some (.int p3)] []
  rw [XX7_addRush] at h
  refine a_aload_n C eX7_addRush_0 rfl ?_
  refine a_getI C eX7_addRush_1 fX7_58 hk.1 rfl ?_
  refine a_bipush C eX7_addRush_4 (12 : Int32) c_bipush_12 ?_
  refine a_icmp_lt C eX7_addRush_6 (fun hc => ?_) (fun hc => ?_)
  · replace h := it hc h
    refine a_aload_n C eX7_addRush_10 rfl ?_
    refine a_getR C eX7_addRush_11 fX7_27 hk.1 rfl ?_
    refine a_aload_n C eX7_addRush_14 rfl ?_
    refine a_getI C eX7_addRush_15 fX7_58 hk.1 rfl ?_
    refine a_iload_n C eX7_addRush_18 rfl ?_
    refine a_iload_n C eX7_addRush_19 rfl ?_
    obtain ⟨r_1, hq, h⟩ := b1_e h
    refine a_cNi2 C eX7_addRush_20 wX7_73 ⟨Nat.le_of_ble_eq_true rfl, Nat.le_of_ble_eq_true rfl, rfl, rfl⟩ rfl (kX9_cellOf hq) (Nat.le_of_ble_eq_true rfl) ?_
    obtain ⟨hb_3, h⟩ := gd h
    refine a_iastL C eX7_addRush_23 hk.2.2.2.2.2.2.1 hb_3 h (fun σ_2 h => ?_)
    refine a_aload_n C eX7_addRush_24 rfl ?_
    refine a_getR C eX7_addRush_25 fX7_30 hk.1 rfl ?_
    refine a_aload_n C eX7_addRush_28 rfl ?_
    refine a_getI C eX7_addRush_29 fX7_58 hk.1 rfl ?_
    refine a_iload_n C eX7_addRush_32 rfl ?_
    obtain ⟨hb_5, h⟩ := gd h
    refine a_iastL C eX7_addRush_33 hk.2.2.2.2.2.2.2 hb_5 h (fun σ_4 h => ?_)
    refine a_aload_n C eX7_addRush_34 rfl ?_
    refine a_getR C eX7_addRush_35 fX7_24 hk.1 rfl ?_
    refine a_aload_n C eX7_addRush_38 rfl ?_
    refine a_getR C eX7_addRush_39 fX7_27 hk.1 rfl ?_
    refine a_aload_n C eX7_addRush_42 rfl ?_
    refine a_getI C eX7_addRush_43 fX7_58 hk.1 rfl ?_
    obtain ⟨hb_6, h⟩ := gd h
    refine a_iald C eX7_addRush_46 hk.2.2.2.2.2.2.1 hb_6 ?_
    refine a_lt h (fun d_7 h => ?_)
    refine a_dup2 C eX7_addRush_47 rfl rfl ?_
    obtain ⟨hb_8, h⟩ := gd h
    refine a_iald C eX7_addRush_48 hk.2.2.2.2.2.1 hb_8 ?_
    refine a_iload_n C eX7_addRush_49 rfl ?_
    refine a_iadd C eX7_addRush_50 ?_
    refine a_iastL C eX7_addRush_51 hk.2.2.2.2.2.1 hb_8 h (fun σ_9 h => ?_)
    refine a_aload_n C eX7_addRush_52 rfl ?_
    refine a_dup C eX7_addRush_53 rfl ?_
    refine a_getI C eX7_addRush_54 fX7_58 hk.1 rfl ?_
    refine a_iconst C eX7_addRush_57 (1 : Int32) c_iconst_1 ?_
    refine a_iadd C eX7_addRush_58 ?_
    refine a_putIL C eX7_addRush_59 fX7_58 ftyX7 rfl rfl hk.1 rfl h (fun σ_10 h => ?_)
    exact rt_v R eX7_addRush_62 h
  · replace h := ie hc h
    exact rt_v R eX7_addRush_9 h
/-! ShelfDrives$Reader.readRush()Z -/
def XX4_readRush (σ : Sg) : Option (Int32 × Sg) := if (σ 11 7) < (12 : Int32) then (b2 (XX4_want (13 : Int32) σ) (fun (r_1 : Int32) (σ_2 : Sg) => if r_1 = 0 then (some ((0 : Int32), σ_2)) else (b1 (XX4_shopNamed (σ_2 10 11) σ_2) (fun (r_3 : Int32) => if r_3 = (-1 : Int32) then (b2 (XX4_refuse (3 : Int32) σ_2) (fun (r_13 : Int32) (σ_14 : Sg) => if r_13 = 0 ∨ r_13 = 1 then some (r_13, σ_14) else none)) else (b2 (XX4_wantNumber (0 : Int32) ((σ_2 11 0) - (1 : Int32)) σ_2) (fun (r_4 : Int32) (σ_5 : Sg) => if r_4 = 0 then (some ((0 : Int32), σ_5)) else (lt (σ_5 10 11) (fun (x2_6 : Int32) => b2 (XX4_wantNumber (1 : Int32) (60 : Int32) σ_5) (fun (r_7 : Int32) (σ_8 : Sg) => if r_7 = 0 then (some ((0 : Int32), σ_8)) else (b1 (XX7_addRush 11 r_3 x2_6 (σ_8 10 11) σ_8) (fun (σ_9 : Sg) => b2 (XX4_want (15 : Int32) σ_9) (fun (r_10 : Int32) (σ_11 : Sg) => if r_10 = 0 ∨ r_10 = 1 then some (r_10, σ_11) else none)))))))))))) else (b2 (XX4_refuse (5 : Int32) σ) (fun (r_16 : Int32) (σ_17 : Sg) => if r_16 = 0 ∨ r_16 = 1 then some (r_16, σ_17) else none))
theorem kX4_readRush {ext : List Shp} {σ : Sg} {rr : (Int32 × Sg)}  (h : XX4_readRush σ = some rr) : Ci MX4_readRush [.ref 10] (SHc ++ ext) σ rr := by
  refine Ci.start rfl rfl (Nat.le_of_ble_eq_true rfl) ?_
  intro X ad C R
  replace C : Cx X cX4_readRush 3 RX4 (some .boolean) { frames := 3, cells := 0, slots := 0, locals := 65 } := C
  replace R : Ri X cX4_readRush (some .boolean) ad (SHc ++ ext) rr := R
  show AW X 0 0 ad (SHc ++ ext) σ 0 [some (.ref 10), none, none] []
  rw [XX4_readRush] at h
  refine a_aload_n C eX4_readRush_0 rfl ?_
  refine a_getR C eX4_readRush_1 fX4_12 sh_10 rfl ?_
  refine a_getI C eX4_readRush_4 fX4_197 sh_11 rfl ?_
  refine a_bipush C eX4_readRush_7 (12 : Int32) c_bipush_12 ?_
  refine a_icmp_lt C eX4_readRush_9 (fun hc => ?_) (fun hc => ?_)
  · replace h := it hc h
    refine a_aload_n C eX4_readRush_18 rfl ?_
    refine a_bipush C eX4_readRush_19 (13 : Int32) c_bipush_13 ?_
    obtain ⟨r_1, σ_2, hq, h⟩ := b2_e h
    refine a_cVi1 C eX4_readRush_21 wX4_155 ⟨Nat.le_of_ble_eq_true rfl, Nat.le_of_ble_eq_true rfl, rfl, rfl⟩ rfl sh_10 rfl (kX4_want hq) (Nat.le_of_ble_eq_true rfl) ?_
    refine a_if_ne C eX4_readRush_24 (fun hc => ?_) (fun hc => ?_)
    · replace h := ie hc h
      refine a_aload_n C eX4_readRush_29 rfl ?_
      refine a_aload_n C eX4_readRush_30 rfl ?_
      refine a_getI C eX4_readRush_31 fX4_115 sh_10 rfl ?_
      obtain ⟨r_3, hq, h⟩ := b1_e h
      refine a_cVi1 C eX4_readRush_34 wX4_179 ⟨Nat.le_of_ble_eq_true rfl, Nat.le_of_ble_eq_true rfl, rfl, rfl⟩ rfl sh_10 rfl (kX4_shopNamed hq) (Nat.le_of_ble_eq_true rfl) ?_
      refine a_ist_n C eX4_readRush_37 (Nat.le_of_ble_eq_true rfl) [some (.ref 10), some (.int r_3), none] rfl ?_
      refine a_iload_n C eX4_readRush_38 rfl ?_
      refine a_iconst C eX4_readRush_39 (-1 : Int32) c_iconst_m1 ?_
      refine a_icmp_ne C eX4_readRush_40 (fun hc => ?_) (fun hc => ?_)
      · replace h := ie hc h
        refine a_aload_n C eX4_readRush_49 rfl ?_
        refine a_iconst C eX4_readRush_50 (0 : Int32) c_iconst_0 ?_
        refine a_aload_n C eX4_readRush_51 rfl ?_
        refine a_getR C eX4_readRush_52 fX4_12 sh_10 rfl ?_
        refine a_getI C eX4_readRush_55 fX4_152 sh_11 rfl ?_
        refine a_iconst C eX4_readRush_58 (1 : Int32) c_iconst_1 ?_
        refine a_isub C eX4_readRush_59 ?_
        obtain ⟨r_4, σ_5, hq, h⟩ := b2_e h
        refine a_cVi2 C eX4_readRush_60 wX4_149 ⟨Nat.le_of_ble_eq_true rfl, Nat.le_of_ble_eq_true rfl, rfl, rfl⟩ rfl sh_10 rfl (kX4_wantNumber hq) (Nat.le_of_ble_eq_true rfl) ?_
        refine a_if_ne C eX4_readRush_63 (fun hc => ?_) (fun hc => ?_)
        · replace h := ie hc h
          refine a_aload_n C eX4_readRush_68 rfl ?_
          refine a_getI C eX4_readRush_69 fX4_115 sh_10 rfl ?_
          refine a_lt h (fun x2_6 h => ?_)
          refine a_ist_n C eX4_readRush_72 (Nat.le_of_ble_eq_true rfl) [some (.ref 10), some (.int r_3), some (.int x2_6)] rfl ?_
          refine a_aload_n C eX4_readRush_73 rfl ?_
          refine a_iconst C eX4_readRush_74 (1 : Int32) c_iconst_1 ?_
          refine a_bipush C eX4_readRush_75 (60 : Int32) c_bipush_60 ?_
          obtain ⟨r_7, σ_8, hq, h⟩ := b2_e h
          refine a_cVi2 C eX4_readRush_77 wX4_149 ⟨Nat.le_of_ble_eq_true rfl, Nat.le_of_ble_eq_true rfl, rfl, rfl⟩ rfl sh_10 rfl (kX4_wantNumber hq) (Nat.le_of_ble_eq_true rfl) ?_
          refine a_if_ne C eX4_readRush_80 (fun hc => ?_) (fun hc => ?_)
          · replace h := ie hc h
            refine a_aload_n C eX4_readRush_85 rfl ?_
            refine a_getR C eX4_readRush_86 fX4_12 sh_10 rfl ?_
            refine a_iload_n C eX4_readRush_89 rfl ?_
            refine a_iload_n C eX4_readRush_90 rfl ?_
            refine a_aload_n C eX4_readRush_91 rfl ?_
            refine a_getI C eX4_readRush_92 fX4_115 sh_10 rfl ?_
            obtain ⟨σ_9, hq, h⟩ := b1_e h
            refine a_cVv3 C eX4_readRush_95 wX4_200 ⟨Nat.le_of_ble_eq_true rfl, Nat.le_of_ble_eq_true rfl, rfl, rfl⟩ rfl sh_11 rfl (kX7_addRush is_X7_11 hq) (Nat.le_of_ble_eq_true rfl) ?_
            refine a_aload_n C eX4_readRush_98 rfl ?_
            refine a_bipush C eX4_readRush_99 (15 : Int32) c_bipush_15 ?_
            obtain ⟨r_10, σ_11, hq, h⟩ := b2_e h
            refine a_cVi1 C eX4_readRush_101 wX4_155 ⟨Nat.le_of_ble_eq_true rfl, Nat.le_of_ble_eq_true rfl, rfl, rfl⟩ rfl sh_10 rfl (kX4_want hq) (Nat.le_of_ble_eq_true rfl) ?_
            obtain ⟨hn_12, h⟩ := gd h
            exact rt_i R eX4_readRush_104 h (nb_b hn_12)
          · replace h := it hc h
            refine a_iconst C eX4_readRush_83 (0 : Int32) c_iconst_0 ?_
            exact rt_i R eX4_readRush_84 h nb_0
        · replace h := it hc h
          refine a_iconst C eX4_readRush_66 (0 : Int32) c_iconst_0 ?_
          exact rt_i R eX4_readRush_67 h nb_0
      · replace h := it hc h
        refine a_aload_n C eX4_readRush_43 rfl ?_
        refine a_iconst C eX4_readRush_44 (3 : Int32) c_iconst_3 ?_
        obtain ⟨r_13, σ_14, hq, h⟩ := b2_e h
        refine a_cVi1 C eX4_readRush_45 wX4_83 ⟨Nat.le_of_ble_eq_true rfl, Nat.le_of_ble_eq_true rfl, rfl, rfl⟩ rfl sh_10 rfl (kX4_refuse hq) (Nat.le_of_ble_eq_true rfl) ?_
        obtain ⟨hn_15, h⟩ := gd h
        exact rt_i R eX4_readRush_48 h (nb_b hn_15)
    · replace h := it hc h
      refine a_iconst C eX4_readRush_27 (0 : Int32) c_iconst_0 ?_
      exact rt_i R eX4_readRush_28 h nb_0
  · replace h := ie hc h
    refine a_aload_n C eX4_readRush_12 rfl ?_
    refine a_iconst C eX4_readRush_13 (5 : Int32) c_iconst_5 ?_
    obtain ⟨r_16, σ_17, hq, h⟩ := b2_e h
    refine a_cVi1 C eX4_readRush_14 wX4_83 ⟨Nat.le_of_ble_eq_true rfl, Nat.le_of_ble_eq_true rfl, rfl, rfl⟩ rfl sh_10 rfl (kX4_refuse hq) (Nat.le_of_ble_eq_true rfl) ?_
    obtain ⟨hn_18, h⟩ := gd h
    exact rt_i R eX4_readRush_17 h (nb_b hn_18)
/-! ShelfDrives$Reader.readLine()Z -/
def XX4_readLine (σ : Sg) : Option (Int32 × Sg) := lt (σ 10 9) (fun (w_1 : Int32) => if w_1 = (0 : Int32) then (b2 (XX4_isOnce σ) (fun (r_2 : Int32) (σ_3 : Sg) => lt (fun (σ_4 : Sg) => some ((0 : Int32), σ_4)) (fun (k90_5 : Sg → Option (Int32 × Sg)) => if r_2 = 0 then (k90_5 σ_3) else (b2 (XX4_readDays σ_3) (fun (r_6 : Int32) (σ_7 : Sg) => if r_6 = 0 then (k90_5 σ_7) else (some ((1 : Int32), σ_7))))))) else (if w_1 = (1 : Int32) then (b2 (XX4_isOnce σ) (fun (r_9 : Int32) (σ_10 : Sg) => lt (fun (σ_11 : Sg) => some ((0 : Int32), σ_11)) (fun (k110_12 : Sg → Option (Int32 × Sg)) => if r_9 = 0 then (k110_12 σ_10) else (b2 (XX4_readDepot σ_10) (fun (r_13 : Int32) (σ_14 : Sg) => if r_13 = 0 then (k110_12 σ_14) else (some ((1 : Int32), σ_14))))))) else (if w_1 = (2 : Int32) then (b2 (XX4_isOnce σ) (fun (r_16 : Int32) (σ_17 : Sg) => lt (fun (σ_18 : Sg) => some ((0 : Int32), σ_18)) (fun (k130_19 : Sg → Option (Int32 × Sg)) => if r_16 = 0 then (k130_19 σ_17) else (b2 (XX4_readTruck σ_17) (fun (r_20 : Int32) (σ_21 : Sg) => if r_20 = 0 then (k130_19 σ_21) else (some ((1 : Int32), σ_21))))))) else (if w_1 = (3 : Int32) then (b2 (XX4_refuse (2 : Int32) σ) (fun (r_23 : Int32) (σ_24 : Sg) => if r_23 = 0 ∨ r_23 = 1 then some (r_23, σ_24) else none)) else (if w_1 = (4 : Int32) then (b2 (XX4_refuse (2 : Int32) σ) (fun (r_27 : Int32) (σ_28 : Sg) => if r_27 = 0 ∨ r_27 = 1 then some (r_27, σ_28) else none)) else (if w_1 = (5 : Int32) then (b2 (XX4_isOnce σ) (fun (r_31 : Int32) (σ_32 : Sg) => lt (fun (σ_33 : Sg) => some ((0 : Int32), σ_33)) (fun (k150_34 : Sg → Option (Int32 × Sg)) => if r_31 = 0 then (k150_34 σ_32) else (b2 (XX4_readHold σ_32) (fun (r_35 : Int32) (σ_36 : Sg) => if r_35 = 0 then (k150_34 σ_36) else (some ((1 : Int32), σ_36))))))) else (if w_1 = (6 : Int32) then (b2 (XX4_isOnce σ) (fun (r_38 : Int32) (σ_39 : Sg) => lt (fun (σ_40 : Sg) => some ((0 : Int32), σ_40)) (fun (k170_41 : Sg → Option (Int32 × Sg)) => if r_38 = 0 then (k170_41 σ_39) else (b2 (XX4_readLost σ_39) (fun (r_42 : Int32) (σ_43 : Sg) => if r_42 = 0 then (k170_41 σ_43) else (some ((1 : Int32), σ_43))))))) else (if w_1 = (7 : Int32) then (b2 (XX4_readShop σ) (fun (r_45 : Int32) (σ_46 : Sg) => if r_45 = 0 ∨ r_45 = 1 then some (r_45, σ_46) else none)) else (if w_1 = (8 : Int32) then (b2 (XX4_refuse (2 : Int32) σ) (fun (r_49 : Int32) (σ_50 : Sg) => if r_49 = 0 ∨ r_49 = 1 then some (r_49, σ_50) else none)) else (if w_1 = (9 : Int32) then (b2 (XX4_refuse (2 : Int32) σ) (fun (r_53 : Int32) (σ_54 : Sg) => if r_53 = 0 ∨ r_53 = 1 then some (r_53, σ_54) else none)) else (if w_1 = (10 : Int32) then (b2 (XX4_refuse (2 : Int32) σ) (fun (r_57 : Int32) (σ_58 : Sg) => if r_57 = 0 ∨ r_57 = 1 then some (r_57, σ_58) else none)) else (if w_1 = (11 : Int32) then (b2 (XX4_refuse (2 : Int32) σ) (fun (r_61 : Int32) (σ_62 : Sg) => if r_61 = 0 ∨ r_61 = 1 then some (r_61, σ_62) else none)) else (if w_1 = (12 : Int32) then (b2 (XX4_readRush σ) (fun (r_65 : Int32) (σ_66 : Sg) => if r_65 = 0 ∨ r_65 = 1 then some (r_65, σ_66) else none)) else (b2 (XX4_refuse (2 : Int32) σ) (fun (r_69 : Int32) (σ_70 : Sg) => if r_69 = 0 ∨ r_69 = 1 then some (r_69, σ_70) else none)))))))))))))))
theorem kX4_readLine {ext : List Shp} {σ : Sg} {rr : (Int32 × Sg)}  (h : XX4_readLine σ = some rr) : Ci MX4_readLine [.ref 10] (SHc ++ ext) σ rr := by
  refine Ci.start rfl rfl (Nat.le_of_ble_eq_true rfl) ?_
  intro X ad C R
  replace C : Cx X cX4_readLine 1 RX4 (some .boolean) { frames := 4, cells := 0, slots := 0, locals := 87 } := C
  replace R : Ri X cX4_readLine (some .boolean) ad (SHc ++ ext) rr := R
  show AW X 0 0 ad (SHc ++ ext) σ 0 [some (.ref 10)] []
  rw [XX4_readLine] at h
  refine a_aload_n C eX4_readLine_0 rfl ?_
  refine a_getI C eX4_readLine_1 fX4_76 sh_10 rfl ?_
  refine a_lt h (fun w_1 h => ?_)
  by_cases hs_8 : w_1 = (0 : Int32)
  · replace h := it hs_8 h
    refine a_tsw C eX4_readLine_4 (0 : Int32) hs_8 (by decide) (by decide) rfl (tgt := 72) rfl ?_
    refine a_aload_n C eX4_readLine_72 rfl ?_
    obtain ⟨r_2, σ_3, hq, h⟩ := b2_e h
    refine a_cVi0 C eX4_readLine_73 wX4_122 ⟨Nat.le_of_ble_eq_true rfl, Nat.le_of_ble_eq_true rfl, rfl, rfl⟩ rfl sh_10 rfl (kX4_isOnce hq) (Nat.le_of_ble_eq_true rfl) ?_
    refine jn (fun (kk : Sg → Option (Int32 × Sg)) => ∀ (σ_4 : Sg), kk σ_4 = some rr → AW X 0 0 ad (SHc ++ ext) σ_4 90 [none] []) h ?_ (fun k90_5 hk90_5 h => ?_)
    · intro σ_4 h
      refine a_iconst C eX4_readLine_90 (0 : Int32) c_iconst_0 ?_
      exact rt_i R eX4_readLine_91 h nb_0
    refine a_if_eq C eX4_readLine_76 (fun hc => ?_) (fun hc => ?_)
    · replace h := it hc h
      exact a_less (lle_drop lle_nil) (hk90_5 _ h)
    · replace h := ie hc h
      refine a_aload_n C eX4_readLine_79 rfl ?_
      obtain ⟨r_6, σ_7, hq, h⟩ := b2_e h
      refine a_cVi0 C eX4_readLine_80 wX4_125 ⟨Nat.le_of_ble_eq_true rfl, Nat.le_of_ble_eq_true rfl, rfl, rfl⟩ rfl sh_10 rfl (kX4_readDays hq) (Nat.le_of_ble_eq_true rfl) ?_
      refine a_if_eq C eX4_readLine_83 (fun hc => ?_) (fun hc => ?_)
      · replace h := it hc h
        exact a_less (lle_drop lle_nil) (hk90_5 _ h)
      · replace h := ie hc h
        refine a_iconst C eX4_readLine_86 (1 : Int32) c_iconst_1 ?_
        refine a_goto C eX4_readLine_87 ?_
        exact rt_i R eX4_readLine_91 h nb_1
  replace h := ie hs_8 h
  by_cases hs_15 : w_1 = (1 : Int32)
  · replace h := it hs_15 h
    refine a_tsw C eX4_readLine_4 (1 : Int32) hs_15 (by decide) (by decide) rfl (tgt := 92) rfl ?_
    refine a_aload_n C eX4_readLine_92 rfl ?_
    obtain ⟨r_9, σ_10, hq, h⟩ := b2_e h
    refine a_cVi0 C eX4_readLine_93 wX4_122 ⟨Nat.le_of_ble_eq_true rfl, Nat.le_of_ble_eq_true rfl, rfl, rfl⟩ rfl sh_10 rfl (kX4_isOnce hq) (Nat.le_of_ble_eq_true rfl) ?_
    refine jn (fun (kk : Sg → Option (Int32 × Sg)) => ∀ (σ_11 : Sg), kk σ_11 = some rr → AW X 0 0 ad (SHc ++ ext) σ_11 110 [none] []) h ?_ (fun k110_12 hk110_12 h => ?_)
    · intro σ_11 h
      refine a_iconst C eX4_readLine_110 (0 : Int32) c_iconst_0 ?_
      exact rt_i R eX4_readLine_111 h nb_0
    refine a_if_eq C eX4_readLine_96 (fun hc => ?_) (fun hc => ?_)
    · replace h := it hc h
      exact a_less (lle_drop lle_nil) (hk110_12 _ h)
    · replace h := ie hc h
      refine a_aload_n C eX4_readLine_99 rfl ?_
      obtain ⟨r_13, σ_14, hq, h⟩ := b2_e h
      refine a_cVi0 C eX4_readLine_100 wX4_128 ⟨Nat.le_of_ble_eq_true rfl, Nat.le_of_ble_eq_true rfl, rfl, rfl⟩ rfl sh_10 rfl (kX4_readDepot hq) (Nat.le_of_ble_eq_true rfl) ?_
      refine a_if_eq C eX4_readLine_103 (fun hc => ?_) (fun hc => ?_)
      · replace h := it hc h
        exact a_less (lle_drop lle_nil) (hk110_12 _ h)
      · replace h := ie hc h
        refine a_iconst C eX4_readLine_106 (1 : Int32) c_iconst_1 ?_
        refine a_goto C eX4_readLine_107 ?_
        exact rt_i R eX4_readLine_111 h nb_1
  replace h := ie hs_15 h
  by_cases hs_22 : w_1 = (2 : Int32)
  · replace h := it hs_22 h
    refine a_tsw C eX4_readLine_4 (2 : Int32) hs_22 (by decide) (by decide) rfl (tgt := 112) rfl ?_
    refine a_aload_n C eX4_readLine_112 rfl ?_
    obtain ⟨r_16, σ_17, hq, h⟩ := b2_e h
    refine a_cVi0 C eX4_readLine_113 wX4_122 ⟨Nat.le_of_ble_eq_true rfl, Nat.le_of_ble_eq_true rfl, rfl, rfl⟩ rfl sh_10 rfl (kX4_isOnce hq) (Nat.le_of_ble_eq_true rfl) ?_
    refine jn (fun (kk : Sg → Option (Int32 × Sg)) => ∀ (σ_18 : Sg), kk σ_18 = some rr → AW X 0 0 ad (SHc ++ ext) σ_18 130 [none] []) h ?_ (fun k130_19 hk130_19 h => ?_)
    · intro σ_18 h
      refine a_iconst C eX4_readLine_130 (0 : Int32) c_iconst_0 ?_
      exact rt_i R eX4_readLine_131 h nb_0
    refine a_if_eq C eX4_readLine_116 (fun hc => ?_) (fun hc => ?_)
    · replace h := it hc h
      exact a_less (lle_drop lle_nil) (hk130_19 _ h)
    · replace h := ie hc h
      refine a_aload_n C eX4_readLine_119 rfl ?_
      obtain ⟨r_20, σ_21, hq, h⟩ := b2_e h
      refine a_cVi0 C eX4_readLine_120 wX4_131 ⟨Nat.le_of_ble_eq_true rfl, Nat.le_of_ble_eq_true rfl, rfl, rfl⟩ rfl sh_10 rfl (kX4_readTruck hq) (Nat.le_of_ble_eq_true rfl) ?_
      refine a_if_eq C eX4_readLine_123 (fun hc => ?_) (fun hc => ?_)
      · replace h := it hc h
        exact a_less (lle_drop lle_nil) (hk130_19 _ h)
      · replace h := ie hc h
        refine a_iconst C eX4_readLine_126 (1 : Int32) c_iconst_1 ?_
        refine a_goto C eX4_readLine_127 ?_
        exact rt_i R eX4_readLine_131 h nb_1
  replace h := ie hs_22 h
  by_cases hs_26 : w_1 = (3 : Int32)
  · replace h := it hs_26 h
    refine a_tsw C eX4_readLine_4 (3 : Int32) hs_26 (by decide) (by decide) rfl (tgt := 182) rfl ?_
    refine a_aload_n C eX4_readLine_182 rfl ?_
    refine a_iconst C eX4_readLine_183 (2 : Int32) c_iconst_2 ?_
    obtain ⟨r_23, σ_24, hq, h⟩ := b2_e h
    refine a_cVi1 C eX4_readLine_184 wX4_83 ⟨Nat.le_of_ble_eq_true rfl, Nat.le_of_ble_eq_true rfl, rfl, rfl⟩ rfl sh_10 rfl (kX4_refuse hq) (Nat.le_of_ble_eq_true rfl) ?_
    obtain ⟨hn_25, h⟩ := gd h
    exact rt_i R eX4_readLine_187 h (nb_b hn_25)
  replace h := ie hs_26 h
  by_cases hs_30 : w_1 = (4 : Int32)
  · replace h := it hs_30 h
    refine a_tsw C eX4_readLine_4 (4 : Int32) hs_30 (by decide) (by decide) rfl (tgt := 182) rfl ?_
    refine a_aload_n C eX4_readLine_182 rfl ?_
    refine a_iconst C eX4_readLine_183 (2 : Int32) c_iconst_2 ?_
    obtain ⟨r_27, σ_28, hq, h⟩ := b2_e h
    refine a_cVi1 C eX4_readLine_184 wX4_83 ⟨Nat.le_of_ble_eq_true rfl, Nat.le_of_ble_eq_true rfl, rfl, rfl⟩ rfl sh_10 rfl (kX4_refuse hq) (Nat.le_of_ble_eq_true rfl) ?_
    obtain ⟨hn_29, h⟩ := gd h
    exact rt_i R eX4_readLine_187 h (nb_b hn_29)
  replace h := ie hs_30 h
  by_cases hs_37 : w_1 = (5 : Int32)
  · replace h := it hs_37 h
    refine a_tsw C eX4_readLine_4 (5 : Int32) hs_37 (by decide) (by decide) rfl (tgt := 132) rfl ?_
    refine a_aload_n C eX4_readLine_132 rfl ?_
    obtain ⟨r_31, σ_32, hq, h⟩ := b2_e h
    refine a_cVi0 C eX4_readLine_133 wX4_122 ⟨Nat.le_of_ble_eq_true rfl, Nat.le_of_ble_eq_true rfl, rfl, rfl⟩ rfl sh_10 rfl (kX4_isOnce hq) (Nat.le_of_ble_eq_true rfl) ?_
    refine jn (fun (kk : Sg → Option (Int32 × Sg)) => ∀ (σ_33 : Sg), kk σ_33 = some rr → AW X 0 0 ad (SHc ++ ext) σ_33 150 [none] []) h ?_ (fun k150_34 hk150_34 h => ?_)
    · intro σ_33 h
      refine a_iconst C eX4_readLine_150 (0 : Int32) c_iconst_0 ?_
      exact rt_i R eX4_readLine_151 h nb_0
    refine a_if_eq C eX4_readLine_136 (fun hc => ?_) (fun hc => ?_)
    · replace h := it hc h
      exact a_less (lle_drop lle_nil) (hk150_34 _ h)
    · replace h := ie hc h
      refine a_aload_n C eX4_readLine_139 rfl ?_
      obtain ⟨r_35, σ_36, hq, h⟩ := b2_e h
      refine a_cVi0 C eX4_readLine_140 wX4_134 ⟨Nat.le_of_ble_eq_true rfl, Nat.le_of_ble_eq_true rfl, rfl, rfl⟩ rfl sh_10 rfl (kX4_readHold hq) (Nat.le_of_ble_eq_true rfl) ?_
      refine a_if_eq C eX4_readLine_143 (fun hc => ?_) (fun hc => ?_)
      · replace h := it hc h
        exact a_less (lle_drop lle_nil) (hk150_34 _ h)
      · replace h := ie hc h
        refine a_iconst C eX4_readLine_146 (1 : Int32) c_iconst_1 ?_
        refine a_goto C eX4_readLine_147 ?_
        exact rt_i R eX4_readLine_151 h nb_1
  replace h := ie hs_37 h
  by_cases hs_44 : w_1 = (6 : Int32)
  · replace h := it hs_44 h
    refine a_tsw C eX4_readLine_4 (6 : Int32) hs_44 (by decide) (by decide) rfl (tgt := 152) rfl ?_
    refine a_aload_n C eX4_readLine_152 rfl ?_
    obtain ⟨r_38, σ_39, hq, h⟩ := b2_e h
    refine a_cVi0 C eX4_readLine_153 wX4_122 ⟨Nat.le_of_ble_eq_true rfl, Nat.le_of_ble_eq_true rfl, rfl, rfl⟩ rfl sh_10 rfl (kX4_isOnce hq) (Nat.le_of_ble_eq_true rfl) ?_
    refine jn (fun (kk : Sg → Option (Int32 × Sg)) => ∀ (σ_40 : Sg), kk σ_40 = some rr → AW X 0 0 ad (SHc ++ ext) σ_40 170 [none] []) h ?_ (fun k170_41 hk170_41 h => ?_)
    · intro σ_40 h
      refine a_iconst C eX4_readLine_170 (0 : Int32) c_iconst_0 ?_
      exact rt_i R eX4_readLine_171 h nb_0
    refine a_if_eq C eX4_readLine_156 (fun hc => ?_) (fun hc => ?_)
    · replace h := it hc h
      exact a_less (lle_drop lle_nil) (hk170_41 _ h)
    · replace h := ie hc h
      refine a_aload_n C eX4_readLine_159 rfl ?_
      obtain ⟨r_42, σ_43, hq, h⟩ := b2_e h
      refine a_cVi0 C eX4_readLine_160 wX4_137 ⟨Nat.le_of_ble_eq_true rfl, Nat.le_of_ble_eq_true rfl, rfl, rfl⟩ rfl sh_10 rfl (kX4_readLost hq) (Nat.le_of_ble_eq_true rfl) ?_
      refine a_if_eq C eX4_readLine_163 (fun hc => ?_) (fun hc => ?_)
      · replace h := it hc h
        exact a_less (lle_drop lle_nil) (hk170_41 _ h)
      · replace h := ie hc h
        refine a_iconst C eX4_readLine_166 (1 : Int32) c_iconst_1 ?_
        refine a_goto C eX4_readLine_167 ?_
        exact rt_i R eX4_readLine_171 h nb_1
  replace h := ie hs_44 h
  by_cases hs_48 : w_1 = (7 : Int32)
  · replace h := it hs_48 h
    refine a_tsw C eX4_readLine_4 (7 : Int32) hs_48 (by decide) (by decide) rfl (tgt := 172) rfl ?_
    refine a_aload_n C eX4_readLine_172 rfl ?_
    obtain ⟨r_45, σ_46, hq, h⟩ := b2_e h
    refine a_cVi0 C eX4_readLine_173 wX4_140 ⟨Nat.le_of_ble_eq_true rfl, Nat.le_of_ble_eq_true rfl, rfl, rfl⟩ rfl sh_10 rfl (kX4_readShop hq) (Nat.le_of_ble_eq_true rfl) ?_
    obtain ⟨hn_47, h⟩ := gd h
    exact rt_i R eX4_readLine_176 h (nb_b hn_47)
  replace h := ie hs_48 h
  by_cases hs_52 : w_1 = (8 : Int32)
  · replace h := it hs_52 h
    refine a_tsw C eX4_readLine_4 (8 : Int32) hs_52 (by decide) (by decide) rfl (tgt := 182) rfl ?_
    refine a_aload_n C eX4_readLine_182 rfl ?_
    refine a_iconst C eX4_readLine_183 (2 : Int32) c_iconst_2 ?_
    obtain ⟨r_49, σ_50, hq, h⟩ := b2_e h
    refine a_cVi1 C eX4_readLine_184 wX4_83 ⟨Nat.le_of_ble_eq_true rfl, Nat.le_of_ble_eq_true rfl, rfl, rfl⟩ rfl sh_10 rfl (kX4_refuse hq) (Nat.le_of_ble_eq_true rfl) ?_
    obtain ⟨hn_51, h⟩ := gd h
    exact rt_i R eX4_readLine_187 h (nb_b hn_51)
  replace h := ie hs_52 h
  by_cases hs_56 : w_1 = (9 : Int32)
  · replace h := it hs_56 h
    refine a_tsw C eX4_readLine_4 (9 : Int32) hs_56 (by decide) (by decide) rfl (tgt := 182) rfl ?_
    refine a_aload_n C eX4_readLine_182 rfl ?_
    refine a_iconst C eX4_readLine_183 (2 : Int32) c_iconst_2 ?_
    obtain ⟨r_53, σ_54, hq, h⟩ := b2_e h
    refine a_cVi1 C eX4_readLine_184 wX4_83 ⟨Nat.le_of_ble_eq_true rfl, Nat.le_of_ble_eq_true rfl, rfl, rfl⟩ rfl sh_10 rfl (kX4_refuse hq) (Nat.le_of_ble_eq_true rfl) ?_
    obtain ⟨hn_55, h⟩ := gd h
    exact rt_i R eX4_readLine_187 h (nb_b hn_55)
  replace h := ie hs_56 h
  by_cases hs_60 : w_1 = (10 : Int32)
  · replace h := it hs_60 h
    refine a_tsw C eX4_readLine_4 (10 : Int32) hs_60 (by decide) (by decide) rfl (tgt := 182) rfl ?_
    refine a_aload_n C eX4_readLine_182 rfl ?_
    refine a_iconst C eX4_readLine_183 (2 : Int32) c_iconst_2 ?_
    obtain ⟨r_57, σ_58, hq, h⟩ := b2_e h
    refine a_cVi1 C eX4_readLine_184 wX4_83 ⟨Nat.le_of_ble_eq_true rfl, Nat.le_of_ble_eq_true rfl, rfl, rfl⟩ rfl sh_10 rfl (kX4_refuse hq) (Nat.le_of_ble_eq_true rfl) ?_
    obtain ⟨hn_59, h⟩ := gd h
    exact rt_i R eX4_readLine_187 h (nb_b hn_59)
  replace h := ie hs_60 h
  by_cases hs_64 : w_1 = (11 : Int32)
  · replace h := it hs_64 h
    refine a_tsw C eX4_readLine_4 (11 : Int32) hs_64 (by decide) (by decide) rfl (tgt := 182) rfl ?_
    refine a_aload_n C eX4_readLine_182 rfl ?_
    refine a_iconst C eX4_readLine_183 (2 : Int32) c_iconst_2 ?_
    obtain ⟨r_61, σ_62, hq, h⟩ := b2_e h
    refine a_cVi1 C eX4_readLine_184 wX4_83 ⟨Nat.le_of_ble_eq_true rfl, Nat.le_of_ble_eq_true rfl, rfl, rfl⟩ rfl sh_10 rfl (kX4_refuse hq) (Nat.le_of_ble_eq_true rfl) ?_
    obtain ⟨hn_63, h⟩ := gd h
    exact rt_i R eX4_readLine_187 h (nb_b hn_63)
  replace h := ie hs_64 h
  by_cases hs_68 : w_1 = (12 : Int32)
  · replace h := it hs_68 h
    refine a_tsw C eX4_readLine_4 (12 : Int32) hs_68 (by decide) (by decide) rfl (tgt := 177) rfl ?_
    refine a_aload_n C eX4_readLine_177 rfl ?_
    obtain ⟨r_65, σ_66, hq, h⟩ := b2_e h
    refine a_cVi0 C eX4_readLine_178 wX4_143 ⟨Nat.le_of_ble_eq_true rfl, Nat.le_of_ble_eq_true rfl, rfl, rfl⟩ rfl sh_10 rfl (kX4_readRush hq) (Nat.le_of_ble_eq_true rfl) ?_
    obtain ⟨hn_67, h⟩ := gd h
    exact rt_i R eX4_readLine_181 h (nb_b hn_67)
  replace h := ie hs_68 h
  refine a_tsw_out C eX4_readLine_4 13 rfl (fun j hj => match j, hj with | 0, _ => lv_neT hs_8 rfl | 1, _ => lv_neT hs_15 rfl | 2, _ => lv_neT hs_22 rfl | 3, _ => lv_neT hs_26 rfl | 4, _ => lv_neT hs_30 rfl | 5, _ => lv_neT hs_37 rfl | 6, _ => lv_neT hs_44 rfl | 7, _ => lv_neT hs_48 rfl | 8, _ => lv_neT hs_52 rfl | 9, _ => lv_neT hs_56 rfl | 10, _ => lv_neT hs_60 rfl | 11, _ => lv_neT hs_64 rfl | 12, _ => lv_neT hs_68 rfl | j + 13, hj => absurd hj (by omega)) (tgt := 182) rfl ?_
  refine a_aload_n C eX4_readLine_182 rfl ?_
  refine a_iconst C eX4_readLine_183 (2 : Int32) c_iconst_2 ?_
  obtain ⟨r_69, σ_70, hq, h⟩ := b2_e h
  refine a_cVi1 C eX4_readLine_184 wX4_83 ⟨Nat.le_of_ble_eq_true rfl, Nat.le_of_ble_eq_true rfl, rfl, rfl⟩ rfl sh_10 rfl (kX4_refuse hq) (Nat.le_of_ble_eq_true rfl) ?_
  obtain ⟨hn_71, h⟩ := gd h
  exact rt_i R eX4_readLine_187 h (nb_b hn_71)
/-! ShelfDrives$Reader.readAll([II)Z -/
def LX4_readAll_35 (k72_8 : Sg → Option (Int32 × Sg)) : Nat → Int32 → Sg → Option (Int32 × Sg)
  | 0, _, _ => none
  | n + 1, x3_12, σ_13 => if (800 : Int32) < x3_12 then (k72_8 σ_13) else (b1 (XX4_step σ_13) (fun (σ_14 : Sg) => if (σ_14 10 9) = (16 : Int32) then (some ((1 : Int32), σ_14)) else (b2 (XX4_readLine σ_14) (fun (r_15 : Int32) (σ_16 : Sg) => if r_15 = 0 then (some ((0 : Int32), σ_16)) else (lt (x3_12 + (1 : Int32)) (fun (x3_17 : Int32) => LX4_readAll_35 k72_8 n x3_17 σ_16))))))
def XX4_readAll (p1 : Int32) (σ : Sg) : Option (Int32 × Sg) := b1 (XX4_scanAll p1 σ) (fun (σ_1 : Sg) => b1 (XX7_forget 11 σ_1) (fun (σ_2 : Sg) => lt (up σ_2 10 1 (0 : Int32)) (fun (σ_3 : Sg) => lt (up σ_3 10 2 (-1 : Int32)) (fun (σ_4 : Sg) => lt (up σ_4 10 8 (0 : Int32)) (fun (σ_5 : Sg) => lt (up σ_5 10 12 (0 : Int32)) (fun (σ_6 : Sg) => lt (fun (σ_7 : Sg) => b2 (XX4_refuse (2 : Int32) σ_7) (fun (r_9 : Int32) (σ_10 : Sg) => if r_9 = 0 ∨ r_9 = 1 then some (r_9, σ_10) else none)) (fun (k72_8 : Sg → Option (Int32 × Sg)) => LX4_readAll_35 k72_8 FUEL (0 : Int32) σ_6)))))))
theorem lX4_readAll_35 {ext : List Shp} {X : CT} {ad : Nat → Nat} {rr : (Int32 × Sg)} {k72_8 : Sg → Option (Int32 × Sg)}  (C : Cx X cX4_readAll 4 RX4 (some .boolean) { frames := 5, cells := 0, slots := 0, locals := 107 }) (R : Ri X cX4_readAll (some .boolean) ad (SHc ++ ext) rr) (hk72_8 : ∀ (σ_7 : Sg), k72_8 σ_7 = some rr → AW X 0 0 ad (SHc ++ ext) σ_7 72 [some (.ref 10), none, none, none] []) : ∀ (n : Nat) (x3_12 : Int32) (σ_13 : Sg), LX4_readAll_35 k72_8 n x3_12 σ_13 = some rr → AW X 0 0 ad (SHc ++ ext) σ_13 35 [some (.ref 10), none, none, some (.int x3_12)] [] := by
  intro n
  induction n with
  | zero =>
    intro x3_12 σ_13 h
    rw [LX4_readAll_35] at h
    cases h
  | succ n ih =>
    intro x3_12 σ_13 h
    rw [LX4_readAll_35] at h
    refine a_iload_n C eX4_readAll_35 rfl ?_
    refine a_sipush C eX4_readAll_36 (800 : Int32) c_sipush_800 ?_
    refine a_icmp_gt C eX4_readAll_39 (fun hc => ?_) (fun hc => ?_)
    · replace h := it hc h
      exact a_less (lle_same (lle_same (lle_same (lle_drop lle_nil)))) (hk72_8 _ h)
    · replace h := ie hc h
      refine a_aload_n C eX4_readAll_42 rfl ?_
      obtain ⟨σ_14, hq, h⟩ := b1_e h
      refine a_cVv0 C eX4_readAll_43 wX4_73 ⟨Nat.le_of_ble_eq_true rfl, Nat.le_of_ble_eq_true rfl, rfl, rfl⟩ rfl sh_10 rfl (kX4_step hq) (Nat.le_of_ble_eq_true rfl) ?_
      refine a_aload_n C eX4_readAll_46 rfl ?_
      refine a_getI C eX4_readAll_47 fX4_76 sh_10 rfl ?_
      refine a_bipush C eX4_readAll_50 (16 : Int32) c_bipush_16 ?_
      refine a_icmp_ne C eX4_readAll_52 (fun hc => ?_) (fun hc => ?_)
      · replace h := ie hc h
        refine a_aload_n C eX4_readAll_57 rfl ?_
        obtain ⟨r_15, σ_16, hq, h⟩ := b2_e h
        refine a_cVi0 C eX4_readAll_58 wX4_79 ⟨Nat.le_of_ble_eq_true rfl, Nat.le_of_ble_eq_true rfl, rfl, rfl⟩ rfl sh_10 rfl (kX4_readLine hq) (Nat.le_of_ble_eq_true rfl) ?_
        refine a_if_ne C eX4_readAll_61 (fun hc => ?_) (fun hc => ?_)
        · replace h := ie hc h
          refine a_inc C eX4_readAll_66 rfl c_iconst_1 h (fun z => [some (.ref 10), none, none, some (.int z)]) (fun _ => rfl) (fun x3_17 h => ?_)
          refine a_goto C eX4_readAll_69 ?_
          exact a_less (lle_same (lle_same (lle_same (lle_same lle_nil)))) (ih _ _ h)
        · replace h := it hc h
          refine a_iconst C eX4_readAll_64 (0 : Int32) c_iconst_0 ?_
          exact rt_i R eX4_readAll_65 h nb_0
      · replace h := it hc h
        refine a_iconst C eX4_readAll_55 (1 : Int32) c_iconst_1 ?_
        exact rt_i R eX4_readAll_56 h nb_1
theorem kX4_readAll {ext : List Shp} {p1 : Int32} {σ : Sg} {rr : (Int32 × Sg)}  (h : XX4_readAll p1 σ = some rr) : Ci MX4_readAll [.ref 10, .ref 1, .int p1] (SHc ++ ext) σ rr := by
  refine Ci.start rfl rfl (Nat.le_of_ble_eq_true rfl) ?_
  intro X ad C R
  replace C : Cx X cX4_readAll 4 RX4 (some .boolean) { frames := 5, cells := 0, slots := 0, locals := 107 } := C
  replace R : Ri X cX4_readAll (some .boolean) ad (SHc ++ ext) rr := R
  show AW X 0 0 ad (SHc ++ ext) σ 0 [some (.ref 10), some (.ref 1), some (.int p1), none] []
  rw [XX4_readAll] at h
  refine a_aload_n C eX4_readAll_0 rfl ?_
  refine a_aload_n C eX4_readAll_1 rfl ?_
  refine a_iload_n C eX4_readAll_2 rfl ?_
  obtain ⟨σ_1, hq, h⟩ := b1_e h
  refine a_cVv2 C eX4_readAll_3 wX4_60 ⟨Nat.le_of_ble_eq_true rfl, Nat.le_of_ble_eq_true rfl, rfl, rfl⟩ rfl sh_10 rfl (kX4_scanAll hq) (Nat.le_of_ble_eq_true rfl) ?_
  refine a_aload_n C eX4_readAll_6 rfl ?_
  refine a_getR C eX4_readAll_7 fX4_12 sh_10 rfl ?_
  obtain ⟨σ_2, hq, h⟩ := b1_e h
  refine a_cVv0 C eX4_readAll_10 wX4_64 ⟨Nat.le_of_ble_eq_true rfl, Nat.le_of_ble_eq_true rfl, rfl, rfl⟩ rfl sh_11 rfl (kX7_forget is_X7_11 hq) (Nat.le_of_ble_eq_true rfl) ?_
  refine a_aload_n C eX4_readAll_13 rfl ?_
  refine a_iconst C eX4_readAll_14 (0 : Int32) c_iconst_0 ?_
  refine a_putIL C eX4_readAll_15 fX4_18 ftyX4 rfl rfl sh_10 rfl h (fun σ_3 h => ?_)
  refine a_aload_n C eX4_readAll_18 rfl ?_
  refine a_iconst C eX4_readAll_19 (-1 : Int32) c_iconst_m1 ?_
  refine a_putIL C eX4_readAll_20 fX4_22 ftyX4 rfl rfl sh_10 rfl h (fun σ_4 h => ?_)
  refine a_aload_n C eX4_readAll_23 rfl ?_
  refine a_iconst C eX4_readAll_24 (0 : Int32) c_iconst_0 ?_
  refine a_putIL C eX4_readAll_25 fX4_67 ftyX4 rfl rfl sh_10 rfl h (fun σ_5 h => ?_)
  refine a_aload_n C eX4_readAll_28 rfl ?_
  refine a_iconst C eX4_readAll_29 (0 : Int32) c_iconst_0 ?_
  refine a_putIL C eX4_readAll_30 fX4_70 ftyX4 rfl rfl sh_10 rfl h (fun σ_6 h => ?_)
  refine a_iconst C eX4_readAll_33 (0 : Int32) c_iconst_0 ?_
  refine a_ist_n C eX4_readAll_34 (Nat.le_of_ble_eq_true rfl) [some (.ref 10), some (.ref 1), some (.int p1), some (.int (0 : Int32))] rfl ?_
  refine jn (fun (kk : Sg → Option (Int32 × Sg)) => ∀ (σ_7 : Sg), kk σ_7 = some rr → AW X 0 0 ad (SHc ++ ext) σ_7 72 [some (.ref 10), none, none, none] []) h ?_ (fun k72_8 hk72_8 h => ?_)
  · intro σ_7 h
    refine a_aload_n C eX4_readAll_72 rfl ?_
    refine a_iconst C eX4_readAll_73 (2 : Int32) c_iconst_2 ?_
    obtain ⟨r_9, σ_10, hq, h⟩ := b2_e h
    refine a_cVi1 C eX4_readAll_74 wX4_83 ⟨Nat.le_of_ble_eq_true rfl, Nat.le_of_ble_eq_true rfl, rfl, rfl⟩ rfl sh_10 rfl (kX4_refuse hq) (Nat.le_of_ble_eq_true rfl) ?_
    obtain ⟨hn_11, h⟩ := gd h
    exact rt_i R eX4_readAll_77 h (nb_b hn_11)
  exact a_less (lle_same (lle_drop (lle_drop (lle_same lle_nil)))) (lX4_readAll_35  C R hk72_8 _ _ _ h)
/-! ShelfDrives$Run.forget()V -/
def XX5_forget (k : Nat) (σ : Sg) : Option Sg := b1 (XJ7_fill_53178 (k + 1) 6 (0 : Int32) σ) (fun (σ_1 : Sg) => b1 (XJ7_fill_53178 (k + 3) 84 (0 : Int32) σ_1) (fun (σ_2 : Sg) => b1 (XJ7_fill_53178 (k + 4) 84 (0 : Int32) σ_2) (fun (σ_3 : Sg) => b1 (XJ7_fill_53178 (k + 5) 84 (0 : Int32) σ_3) (fun (σ_4 : Sg) => b1 (XJ7_fill_53178 (k + 6) 14 (-1 : Int32) σ_4) (fun (σ_5 : Sg) => lt (up σ_5 k 5 (0 : Int32)) (fun (σ_6 : Sg) => lt (up σ_6 k 6 (0 : Int32)) (fun (σ_7 : Sg) => some σ_7)))))))
theorem kX5_forget {ext : List Shp} {k : Nat} {σ : Sg} {rr : Sg} (hk : is_X5 (SHc ++ ext) k) (h : XX5_forget k σ = some rr) : Cv MX5_forget [.ref k] (SHc ++ ext) σ rr := by
  refine Cv.start rfl rfl (Nat.le_of_ble_eq_true rfl) rfl ?_
  intro X ad C R
  replace C : Cx X cX5_forget 1 RX5 none { frames := 1, cells := 0, slots := 0, locals := 23 } := C
  replace R : Rv X cX5_forget ad (SHc ++ ext) rr := R
  show AW X 0 0 ad (SHc ++ ext) σ 0 [some (.ref k)] []
  rw [XX5_forget] at h
  refine a_aload_n C eX5_forget_0 rfl ?_
  refine a_getR C eX5_forget_1 fX5_9 hk.1 rfl ?_
  refine a_iconst C eX5_forget_4 (0 : Int32) c_iconst_0 ?_
  obtain ⟨σ_1, hq, h⟩ := b1_e h
  refine a_cSv2 C eX5_forget_5 wX5_41 ⟨Nat.le_of_ble_eq_true rfl, Nat.le_of_ble_eq_true rfl, rfl, rfl⟩ rfl (kJ7_fill_53178 hk.2.1 hq) (Nat.le_of_ble_eq_true rfl) ?_
  refine a_aload_n C eX5_forget_8 rfl ?_
  refine a_getR C eX5_forget_9 fX5_18 hk.1 rfl ?_
  refine a_iconst C eX5_forget_12 (0 : Int32) c_iconst_0 ?_
  obtain ⟨σ_2, hq, h⟩ := b1_e h
  refine a_cSv2 C eX5_forget_13 wX5_41 ⟨Nat.le_of_ble_eq_true rfl, Nat.le_of_ble_eq_true rfl, rfl, rfl⟩ rfl (kJ7_fill_53178 hk.2.2.2.1 hq) (Nat.le_of_ble_eq_true rfl) ?_
  refine a_aload_n C eX5_forget_16 rfl ?_
  refine a_getR C eX5_forget_17 fX5_21 hk.1 rfl ?_
  refine a_iconst C eX5_forget_20 (0 : Int32) c_iconst_0 ?_
  obtain ⟨σ_3, hq, h⟩ := b1_e h
  refine a_cSv2 C eX5_forget_21 wX5_41 ⟨Nat.le_of_ble_eq_true rfl, Nat.le_of_ble_eq_true rfl, rfl, rfl⟩ rfl (kJ7_fill_53178 hk.2.2.2.2.1 hq) (Nat.le_of_ble_eq_true rfl) ?_
  refine a_aload_n C eX5_forget_24 rfl ?_
  refine a_getR C eX5_forget_25 fX5_24 hk.1 rfl ?_
  refine a_iconst C eX5_forget_28 (0 : Int32) c_iconst_0 ?_
  obtain ⟨σ_4, hq, h⟩ := b1_e h
  refine a_cSv2 C eX5_forget_29 wX5_41 ⟨Nat.le_of_ble_eq_true rfl, Nat.le_of_ble_eq_true rfl, rfl, rfl⟩ rfl (kJ7_fill_53178 hk.2.2.2.2.2.1 hq) (Nat.le_of_ble_eq_true rfl) ?_
  refine a_aload_n C eX5_forget_32 rfl ?_
  refine a_getR C eX5_forget_33 fX5_27 hk.1 rfl ?_
  refine a_iconst C eX5_forget_36 (-1 : Int32) c_iconst_m1 ?_
  obtain ⟨σ_5, hq, h⟩ := b1_e h
  refine a_cSv2 C eX5_forget_37 wX5_41 ⟨Nat.le_of_ble_eq_true rfl, Nat.le_of_ble_eq_true rfl, rfl, rfl⟩ rfl (kJ7_fill_53178 hk.2.2.2.2.2.2.1 hq) (Nat.le_of_ble_eq_true rfl) ?_
  refine a_aload_n C eX5_forget_40 rfl ?_
  refine a_iconst C eX5_forget_41 (0 : Int32) c_iconst_0 ?_
  refine a_putIL C eX5_forget_42 fX5_47 ftyX5 rfl rfl hk.1 rfl h (fun σ_6 h => ?_)
  refine a_aload_n C eX5_forget_45 rfl ?_
  refine a_iconst C eX5_forget_46 (0 : Int32) c_iconst_0 ?_
  refine a_putIL C eX5_forget_47 fX5_51 ftyX5 rfl rfl hk.1 rfl h (fun σ_7 h => ?_)
  exact rt_v R eX5_forget_50 h
/-! ShelfDrives$Run.takeOver(LShelfDrives$Run;)V -/
def XX5_takeOver (k : Nat) (j : Nat) (σ : Sg) : Option Sg := lt (cpy σ (j + 1) (k + 1) (0 : Int32).toNatClampNeg (0 : Int32).toNatClampNeg (6 : Int32).toNatClampNeg) (fun (σ_1 : Sg) => lt (cpy σ_1 (j + 2) (k + 2) (0 : Int32).toNatClampNeg (0 : Int32).toNatClampNeg (84 : Int32).toNatClampNeg) (fun (σ_2 : Sg) => lt (cpy σ_2 (j + 3) (k + 3) (0 : Int32).toNatClampNeg (0 : Int32).toNatClampNeg (84 : Int32).toNatClampNeg) (fun (σ_3 : Sg) => lt (cpy σ_3 (j + 4) (k + 4) (0 : Int32).toNatClampNeg (0 : Int32).toNatClampNeg (84 : Int32).toNatClampNeg) (fun (σ_4 : Sg) => lt (cpy σ_4 (j + 5) (k + 5) (0 : Int32).toNatClampNeg (0 : Int32).toNatClampNeg (84 : Int32).toNatClampNeg) (fun (σ_5 : Sg) => lt (cpy σ_5 (j + 6) (k + 6) (0 : Int32).toNatClampNeg (0 : Int32).toNatClampNeg (14 : Int32).toNatClampNeg) (fun (σ_6 : Sg) => lt (up σ_6 k 5 (σ_6 j 5)) (fun (σ_7 : Sg) => lt (up σ_7 k 6 (σ_7 j 6)) (fun (σ_8 : Sg) => some σ_8))))))))
theorem kX5_takeOver {ext : List Shp} {k : Nat} {j : Nat} {σ : Sg} {rr : Sg} (hk : is_X5 (SHc ++ ext) k) (hj : is_X5 (SHc ++ ext) j) (h : XX5_takeOver k j σ = some rr) : Cv MX5_takeOver [.ref k, .ref j] (SHc ++ ext) σ rr := by
  refine Cv.start rfl rfl (Nat.le_of_ble_eq_true rfl) rfl ?_
  intro X ad C R
  replace C : Cx X cX5_takeOver 2 RX5 none { frames := 1, cells := 0, slots := 0, locals := 26 } := C
  replace R : Rv X cX5_takeOver ad (SHc ++ ext) rr := R
  show AW X 0 0 ad (SHc ++ ext) σ 0 [some (.ref k), some (.ref j)] []
  rw [XX5_takeOver] at h
  refine a_aload_n C eX5_takeOver_0 rfl ?_
  refine a_getR C eX5_takeOver_1 fX5_9 hj.1 rfl ?_
  refine a_iconst C eX5_takeOver_4 (0 : Int32) c_iconst_0 ?_
  refine a_aload_n C eX5_takeOver_5 rfl ?_
  refine a_getR C eX5_takeOver_6 fX5_9 hk.1 rfl ?_
  refine a_iconst C eX5_takeOver_9 (0 : Int32) c_iconst_0 ?_
  refine a_bipush C eX5_takeOver_10 (6 : Int32) c_bipush_6 ?_
  refine a_acopy C eX5_takeOver_12 wX5_54 ⟨Nat.le_of_ble_eq_true rfl, Nat.le_of_ble_eq_true rfl⟩ rfl (Nat.le_of_ble_eq_true rfl) hj.2.1 hk.2.1 ⟨by decide, by decide, by decide, by decide, by decide⟩ h (fun σ_1 h => ?_)
  refine a_aload_n C eX5_takeOver_15 rfl ?_
  refine a_getR C eX5_takeOver_16 fX5_15 hj.1 rfl ?_
  refine a_iconst C eX5_takeOver_19 (0 : Int32) c_iconst_0 ?_
  refine a_aload_n C eX5_takeOver_20 rfl ?_
  refine a_getR C eX5_takeOver_21 fX5_15 hk.1 rfl ?_
  refine a_iconst C eX5_takeOver_24 (0 : Int32) c_iconst_0 ?_
  refine a_bipush C eX5_takeOver_25 (84 : Int32) c_bipush_84 ?_
  refine a_acopy C eX5_takeOver_27 wX5_54 ⟨Nat.le_of_ble_eq_true rfl, Nat.le_of_ble_eq_true rfl⟩ rfl (Nat.le_of_ble_eq_true rfl) hj.2.2.1 hk.2.2.1 ⟨by decide, by decide, by decide, by decide, by decide⟩ h (fun σ_2 h => ?_)
  refine a_aload_n C eX5_takeOver_30 rfl ?_
  refine a_getR C eX5_takeOver_31 fX5_18 hj.1 rfl ?_
  refine a_iconst C eX5_takeOver_34 (0 : Int32) c_iconst_0 ?_
  refine a_aload_n C eX5_takeOver_35 rfl ?_
  refine a_getR C eX5_takeOver_36 fX5_18 hk.1 rfl ?_
  refine a_iconst C eX5_takeOver_39 (0 : Int32) c_iconst_0 ?_
  refine a_bipush C eX5_takeOver_40 (84 : Int32) c_bipush_84 ?_
  refine a_acopy C eX5_takeOver_42 wX5_54 ⟨Nat.le_of_ble_eq_true rfl, Nat.le_of_ble_eq_true rfl⟩ rfl (Nat.le_of_ble_eq_true rfl) hj.2.2.2.1 hk.2.2.2.1 ⟨by decide, by decide, by decide, by decide, by decide⟩ h (fun σ_3 h => ?_)
  refine a_aload_n C eX5_takeOver_45 rfl ?_
  refine a_getR C eX5_takeOver_46 fX5_21 hj.1 rfl ?_
  refine a_iconst C eX5_takeOver_49 (0 : Int32) c_iconst_0 ?_
  refine a_aload_n C eX5_takeOver_50 rfl ?_
  refine a_getR C eX5_takeOver_51 fX5_21 hk.1 rfl ?_
  refine a_iconst C eX5_takeOver_54 (0 : Int32) c_iconst_0 ?_
  refine a_bipush C eX5_takeOver_55 (84 : Int32) c_bipush_84 ?_
  refine a_acopy C eX5_takeOver_57 wX5_54 ⟨Nat.le_of_ble_eq_true rfl, Nat.le_of_ble_eq_true rfl⟩ rfl (Nat.le_of_ble_eq_true rfl) hj.2.2.2.2.1 hk.2.2.2.2.1 ⟨by decide, by decide, by decide, by decide, by decide⟩ h (fun σ_4 h => ?_)
  refine a_aload_n C eX5_takeOver_60 rfl ?_
  refine a_getR C eX5_takeOver_61 fX5_24 hj.1 rfl ?_
  refine a_iconst C eX5_takeOver_64 (0 : Int32) c_iconst_0 ?_
  refine a_aload_n C eX5_takeOver_65 rfl ?_
  refine a_getR C eX5_takeOver_66 fX5_24 hk.1 rfl ?_
  refine a_iconst C eX5_takeOver_69 (0 : Int32) c_iconst_0 ?_
  refine a_bipush C eX5_takeOver_70 (84 : Int32) c_bipush_84 ?_
  refine a_acopy C eX5_takeOver_72 wX5_54 ⟨Nat.le_of_ble_eq_true rfl, Nat.le_of_ble_eq_true rfl⟩ rfl (Nat.le_of_ble_eq_true rfl) hj.2.2.2.2.2.1 hk.2.2.2.2.2.1 ⟨by decide, by decide, by decide, by decide, by decide⟩ h (fun σ_5 h => ?_)
  refine a_aload_n C eX5_takeOver_75 rfl ?_
  refine a_getR C eX5_takeOver_76 fX5_27 hj.1 rfl ?_
  refine a_iconst C eX5_takeOver_79 (0 : Int32) c_iconst_0 ?_
  refine a_aload_n C eX5_takeOver_80 rfl ?_
  refine a_getR C eX5_takeOver_81 fX5_27 hk.1 rfl ?_
  refine a_iconst C eX5_takeOver_84 (0 : Int32) c_iconst_0 ?_
  refine a_bipush C eX5_takeOver_85 (14 : Int32) c_bipush_14 ?_
  refine a_acopy C eX5_takeOver_87 wX5_54 ⟨Nat.le_of_ble_eq_true rfl, Nat.le_of_ble_eq_true rfl⟩ rfl (Nat.le_of_ble_eq_true rfl) hj.2.2.2.2.2.2.1 hk.2.2.2.2.2.2.1 ⟨by decide, by decide, by decide, by decide, by decide⟩ h (fun σ_6 h => ?_)
  refine a_aload_n C eX5_takeOver_90 rfl ?_
  refine a_aload_n C eX5_takeOver_91 rfl ?_
  refine a_getI C eX5_takeOver_92 fX5_47 hj.1 rfl ?_
  refine a_putIL C eX5_takeOver_95 fX5_47 ftyX5 rfl rfl hk.1 rfl h (fun σ_7 h => ?_)
  refine a_aload_n C eX5_takeOver_98 rfl ?_
  refine a_aload_n C eX5_takeOver_99 rfl ?_
  refine a_getI C eX5_takeOver_100 fX5_51 hj.1 rfl ?_
  refine a_putIL C eX5_takeOver_103 fX5_51 ftyX5 rfl rfl hk.1 rfl h (fun σ_8 h => ?_)
  exact rt_v R eX5_takeOver_106 h
/-! ShelfDrives$Run.askPercent(I)V -/
def LX5_askPercent_36 (k : Nat) : Nat → Int32 → Sg → Option Sg
  | 0, _, _ => none
  | n + 1, x2_3, σ_4 => if (σ_4 2 6) ≤ x2_3 then (some σ_4) else (b1 (XX5_runFrom k x2_3 (0 : Int32) (-1 : Int32) σ_4) (fun (σ_5 : Sg) => lt (x2_3 + (1 : Int32)) (fun (x2_6 : Int32) => LX5_askPercent_36 k n x2_6 σ_5)))
def LX5_askPercent_2 (k : Nat) (p1 : Int32) (k34_2 : Sg → Option Sg) : Nat → Int32 → Sg → Option Sg
  | 0, _, _ => none
  | n + 1, x2_7, σ_8 => if (84 : Int32) ≤ x2_7 then (k34_2 σ_8) else (if ib x2_7 84 then lt (up σ_8 (k + 2) x2_7.toNatClampNeg (((σ_8 7 x2_7.toNatClampNeg) * p1) / (100 : Int32))) (fun (σ_10 : Sg) => lt (x2_7 + (1 : Int32)) (fun (x2_11 : Int32) => LX5_askPercent_2 k p1 k34_2 n x2_11 σ_10)) else none)
def XX5_askPercent (k : Nat) (p1 : Int32) (σ : Sg) : Option Sg := lt (fun (σ_1 : Sg) => LX5_askPercent_36 k FUEL (0 : Int32) σ_1) (fun (k34_2 : Sg → Option Sg) => LX5_askPercent_2 k p1 k34_2 FUEL (0 : Int32) σ)
theorem lX5_askPercent_36 {ext : List Shp} {X : CT} {ad : Nat → Nat} {rr : Sg} {k : Nat} (hk : is_X5 (SHc ++ ext) k) (C : Cx X cX5_askPercent 3 RX5 none { frames := 3, cells := 0, slots := 0, locals := 72 }) (R : Rv X cX5_askPercent ad (SHc ++ ext) rr)  : ∀ (n : Nat) (x2_3 : Int32) (σ_4 : Sg), LX5_askPercent_36 k n x2_3 σ_4 = some rr → AW X 0 0 ad (SHc ++ ext) σ_4 36 [some (.ref k), none, some (.int x2_3)] [] := by
  intro n
  induction n with
  | zero =>
    intro x2_3 σ_4 h
    rw [LX5_askPercent_36] at h
    cases h
  | succ n ih =>
    intro x2_3 σ_4 h
    rw [LX5_askPercent_36] at h
    refine a_iload_n C eX5_askPercent_36 rfl ?_
    refine a_aload_n C eX5_askPercent_37 rfl ?_
    refine a_getR C eX5_askPercent_38 fX5_33 hk.1 rfl ?_
    refine a_getI C eX5_askPercent_41 fX5_63 sh_2 rfl ?_
    refine a_icmp_ge C eX5_askPercent_44 (fun hc => ?_) (fun hc => ?_)
    · replace h := it hc h
      exact rt_v R eX5_askPercent_60 h
    · replace h := ie hc h
      refine a_aload_n C eX5_askPercent_47 rfl ?_
      refine a_iload_n C eX5_askPercent_48 rfl ?_
      refine a_iconst C eX5_askPercent_49 (0 : Int32) c_iconst_0 ?_
      refine a_iconst C eX5_askPercent_50 (-1 : Int32) c_iconst_m1 ?_
      obtain ⟨σ_5, hq, h⟩ := b1_e h
      refine a_cVv3 C eX5_askPercent_51 wX5_66 ⟨Nat.le_of_ble_eq_true rfl, Nat.le_of_ble_eq_true rfl, rfl, rfl⟩ rfl hk.1 rfl (kX5_runFrom hk hq) (Nat.le_of_ble_eq_true rfl) ?_
      refine a_inc C eX5_askPercent_54 rfl c_iconst_1 h (fun z => [some (.ref k), none, some (.int z)]) (fun _ => rfl) (fun x2_6 h => ?_)
      refine a_goto C eX5_askPercent_57 ?_
      exact a_less (lle_same (lle_same (lle_same lle_nil))) (ih _ _ h)
theorem lX5_askPercent_2 {ext : List Shp} {X : CT} {ad : Nat → Nat} {rr : Sg} {k : Nat} {p1 : Int32} {k34_2 : Sg → Option Sg} (hk : is_X5 (SHc ++ ext) k) (C : Cx X cX5_askPercent 3 RX5 none { frames := 3, cells := 0, slots := 0, locals := 72 }) (R : Rv X cX5_askPercent ad (SHc ++ ext) rr) (hk34_2 : ∀ (σ_1 : Sg), k34_2 σ_1 = some rr → AW X 0 0 ad (SHc ++ ext) σ_1 34 [some (.ref k), none, none] []) : ∀ (n : Nat) (x2_7 : Int32) (σ_8 : Sg), LX5_askPercent_2 k p1 k34_2 n x2_7 σ_8 = some rr → AW X 0 0 ad (SHc ++ ext) σ_8 2 [some (.ref k), some (.int p1), some (.int x2_7)] [] := by
  intro n
  induction n with
  | zero =>
    intro x2_7 σ_8 h
    rw [LX5_askPercent_2] at h
    cases h
  | succ n ih =>
    intro x2_7 σ_8 h
    rw [LX5_askPercent_2] at h
    refine a_iload_n C eX5_askPercent_2 rfl ?_
    refine a_bipush C eX5_askPercent_3 (84 : Int32) c_bipush_84 ?_
    refine a_icmp_ge C eX5_askPercent_5 (fun hc => ?_) (fun hc => ?_)
    · replace h := it hc h
      exact a_less (lle_same (lle_drop (lle_drop lle_nil))) (hk34_2 _ h)
    · replace h := ie hc h
      refine a_aload_n C eX5_askPercent_8 rfl ?_
      refine a_getR C eX5_askPercent_9 fX5_15 hk.1 rfl ?_
      refine a_iload_n C eX5_askPercent_12 rfl ?_
      refine a_aload_n C eX5_askPercent_13 rfl ?_
      refine a_getR C eX5_askPercent_14 fX5_33 hk.1 rfl ?_
      refine a_getR C eX5_askPercent_17 fX5_60 sh_2 rfl ?_
      refine a_iload_n C eX5_askPercent_20 rfl ?_
      obtain ⟨hb_9, h⟩ := gd h
      refine a_iald C eX5_askPercent_21 sh_7 hb_9 ?_
      refine a_iload_n C eX5_askPercent_22 rfl ?_
      refine a_imul C eX5_askPercent_23 ?_
      refine a_bipush C eX5_askPercent_24 (100 : Int32) c_bipush_100 ?_
      refine a_idiv C eX5_askPercent_26 (by decide) ?_
      refine a_iastL C eX5_askPercent_27 hk.2.2.1 hb_9 h (fun σ_10 h => ?_)
      refine a_inc C eX5_askPercent_28 rfl c_iconst_1 h (fun z => [some (.ref k), some (.int p1), some (.int z)]) (fun _ => rfl) (fun x2_11 h => ?_)
      refine a_goto C eX5_askPercent_31 ?_
      exact a_less (lle_same (lle_same (lle_same lle_nil))) (ih _ _ h)
theorem kX5_askPercent {ext : List Shp} {k : Nat} {p1 : Int32} {σ : Sg} {rr : Sg} (hk : is_X5 (SHc ++ ext) k) (h : XX5_askPercent k p1 σ = some rr) : Cv MX5_askPercent [.ref k, .int p1] (SHc ++ ext) σ rr := by
  refine Cv.start rfl rfl (Nat.le_of_ble_eq_true rfl) rfl ?_
  intro X ad C R
  replace C : Cx X cX5_askPercent 3 RX5 none { frames := 3, cells := 0, slots := 0, locals := 72 } := C
  replace R : Rv X cX5_askPercent ad (SHc ++ ext) rr := R
  show AW X 0 0 ad (SHc ++ ext) σ 0 [some (.ref k), some (.int p1), none] []
  rw [XX5_askPercent] at h
  refine a_iconst C eX5_askPercent_0 (0 : Int32) c_iconst_0 ?_
  refine a_ist_n C eX5_askPercent_1 (Nat.le_of_ble_eq_true rfl) [some (.ref k), some (.int p1), some (.int (0 : Int32))] rfl ?_
  refine jn (fun (kk : Sg → Option Sg) => ∀ (σ_1 : Sg), kk σ_1 = some rr → AW X 0 0 ad (SHc ++ ext) σ_1 34 [some (.ref k), none, none] []) h ?_ (fun k34_2 hk34_2 h => ?_)
  · intro σ_1 h
    refine a_iconst C eX5_askPercent_34 (0 : Int32) c_iconst_0 ?_
    refine a_ist_n C eX5_askPercent_35 (Nat.le_of_ble_eq_true rfl) [some (.ref k), none, some (.int (0 : Int32))] rfl ?_
    exact a_less (lle_same (lle_same (lle_same lle_nil))) (lX5_askPercent_36 hk C R  _ _ _ h)
  exact a_less (lle_same (lle_same (lle_same lle_nil))) (lX5_askPercent_2 hk C R hk34_2 _ _ _ h)
/-! ShelfDrives$Run.countVisits()I -/
def LX5_countVisits_4 (k : Nat) (σ : Sg) : Nat → Int32 → Int32 → Option Int32
  | 0, _, _ => none
  | n + 1, x1_1, x2_2 => if (σ 2 6) ≤ x2_2 then (some x1_1) else (if ib x2_2 6 then b1 (XJ6_bitCount_0f7a4 (σ (k + 1) x2_2.toNatClampNeg)) (fun (r_4 : Int32) => lt (x1_1 + r_4) (fun (x1_5 : Int32) => lt (x2_2 + (1 : Int32)) (fun (x2_6 : Int32) => LX5_countVisits_4 k σ n x1_5 x2_6))) else none)
def XX5_countVisits (k : Nat) (σ : Sg) : Option Int32 := LX5_countVisits_4 k σ FUEL (0 : Int32) (0 : Int32)
theorem lX5_countVisits_4 {ext : List Shp} {X : CT} {ad : Nat → Nat} {rr : Int32} {k : Nat} {σ : Sg} (hk : is_X5 (SHc ++ ext) k) (C : Cx X cX5_countVisits 3 RX5 (some .int) { frames := 1, cells := 0, slots := 0, locals := 20 }) (R : Ri X cX5_countVisits (some .int) ad (SHc ++ ext) (rr, σ))  : ∀ (n : Nat) (x1_1 : Int32) (x2_2 : Int32), LX5_countVisits_4 k σ n x1_1 x2_2 = some rr → AW X 0 0 ad (SHc ++ ext) σ 4 [some (.ref k), some (.int x1_1), some (.int x2_2)] [] := by
  intro n
  induction n with
  | zero =>
    intro x1_1 x2_2 h
    rw [LX5_countVisits_4] at h
    cases h
  | succ n ih =>
    intro x1_1 x2_2 h
    rw [LX5_countVisits_4] at h
    refine a_iload_n C eX5_countVisits_4 rfl ?_
    refine a_aload_n C eX5_countVisits_5 rfl ?_
    refine a_getR C eX5_countVisits_6 fX5_33 hk.1 rfl ?_
    refine a_getI C eX5_countVisits_9 fX5_63 sh_2 rfl ?_
    refine a_icmp_ge C eX5_countVisits_12 (fun hc => ?_) (fun hc => ?_)
    · replace h := it hc h
      refine a_iload_n C eX5_countVisits_33 rfl ?_
      exact rt_p R eX5_countVisits_34 h nb_int
    · replace h := ie hc h
      refine a_iload_n C eX5_countVisits_15 rfl ?_
      refine a_aload_n C eX5_countVisits_16 rfl ?_
      refine a_getR C eX5_countVisits_17 fX5_9 hk.1 rfl ?_
      refine a_iload_n C eX5_countVisits_20 rfl ?_
      obtain ⟨hb_3, h⟩ := gd h
      refine a_iald C eX5_countVisits_21 hk.2.1 hb_3 ?_
      obtain ⟨r_4, hq, h⟩ := b1_e h
      refine a_cSi1 C eX5_countVisits_22 wX5_70 ⟨Nat.le_of_ble_eq_true rfl, Nat.le_of_ble_eq_true rfl, rfl, rfl⟩ rfl (kJ6_bitCount_0f7a4 hq) (Nat.le_of_ble_eq_true rfl) ?_
      refine a_iadd C eX5_countVisits_25 ?_
      refine a_lt h (fun x1_5 h => ?_)
      refine a_ist_n C eX5_countVisits_26 (Nat.le_of_ble_eq_true rfl) [some (.ref k), some (.int x1_5), some (.int x2_2)] rfl ?_
      refine a_inc C eX5_countVisits_27 rfl c_iconst_1 h (fun z => [some (.ref k), some (.int x1_5), some (.int z)]) (fun _ => rfl) (fun x2_6 h => ?_)
      refine a_goto C eX5_countVisits_30 ?_
      exact a_less (lle_same (lle_same (lle_same lle_nil))) (ih _ _ h)
theorem kX5_countVisits {ext : List Shp} {k : Nat} {σ : Sg} {rr : Int32} (hk : is_X5 (SHc ++ ext) k) (h : XX5_countVisits k σ = some rr) : Ci MX5_countVisits [.ref k] (SHc ++ ext) σ (rr, σ) := by
  refine Ci.start rfl rfl (Nat.le_of_ble_eq_true rfl) ?_
  intro X ad C R
  replace C : Cx X cX5_countVisits 3 RX5 (some .int) { frames := 1, cells := 0, slots := 0, locals := 20 } := C
  replace R : Ri X cX5_countVisits (some .int) ad (SHc ++ ext) (rr, σ) := R
  show AW X 0 0 ad (SHc ++ ext) σ 0 [some (.ref k), none, none] []
  rw [XX5_countVisits] at h
  refine a_iconst C eX5_countVisits_0 (0 : Int32) c_iconst_0 ?_
  refine a_ist_n C eX5_countVisits_1 (Nat.le_of_ble_eq_true rfl) [some (.ref k), some (.int (0 : Int32)), none] rfl ?_
  refine a_iconst C eX5_countVisits_2 (0 : Int32) c_iconst_0 ?_
  refine a_ist_n C eX5_countVisits_3 (Nat.le_of_ble_eq_true rfl) [some (.ref k), some (.int (0 : Int32)), some (.int (0 : Int32))] rfl ?_
  exact a_less (lle_same (lle_same (lle_same lle_nil))) (lX5_countVisits_4 hk C R  _ _ _ h)
/-! ShelfDrives$Run.idleVisits(I)I -/
def LX5_idleVisits_4 (k : Nat) (p1 : Int32) (σ : Sg) : Nat → Int32 → Int32 → Option Int32
  | 0, _, _ => none
  | n + 1, x2_1, x3_2 => if (σ 2 0) ≤ x3_2 then (some x2_1) else (b1 (XX5_isVisited k p1 x3_2 σ) (fun (r_3 : Int32) => lt (fun (x2_4 : Int32) => lt (x3_2 + (1 : Int32)) (fun (x3_6 : Int32) => LX5_idleVisits_4 k p1 σ n x2_4 x3_6)) (fun (k40_5 : Int32 → Option Int32) => if r_3 = 0 then (k40_5 x2_1) else (b1 (XX9_cellOf p1 x3_2) (fun (r_7 : Int32) => if ib r_7 84 then if (σ (k + 3) r_7.toNatClampNeg) = 0 then (lt (x2_1 + (1 : Int32)) (fun (x2_9 : Int32) => k40_5 x2_9)) else (k40_5 x2_1) else none)))))
def XX5_idleVisits (k : Nat) (p1 : Int32) (σ : Sg) : Option Int32 := LX5_idleVisits_4 k p1 σ FUEL (0 : Int32) (0 : Int32)
theorem lX5_idleVisits_4 {ext : List Shp} {X : CT} {ad : Nat → Nat} {rr : Int32} {k : Nat} {p1 : Int32} {σ : Sg} (hk : is_X5 (SHc ++ ext) k) (C : Cx X cX5_idleVisits 4 RX5 (some .int) { frames := 1, cells := 0, slots := 0, locals := 22 }) (R : Ri X cX5_idleVisits (some .int) ad (SHc ++ ext) (rr, σ))  : ∀ (n : Nat) (x2_1 : Int32) (x3_2 : Int32), LX5_idleVisits_4 k p1 σ n x2_1 x3_2 = some rr → AW X 0 0 ad (SHc ++ ext) σ 4 [some (.ref k), some (.int p1), some (.int x2_1), some (.int x3_2)] [] := by
  intro n
  induction n with
  | zero =>
    intro x2_1 x3_2 h
    rw [LX5_idleVisits_4] at h
    cases h
  | succ n ih =>
    intro x2_1 x3_2 h
    rw [LX5_idleVisits_4] at h
    refine a_iload_n C eX5_idleVisits_4 rfl ?_
    refine a_aload_n C eX5_idleVisits_5 rfl ?_
    refine a_getR C eX5_idleVisits_6 fX5_33 hk.1 rfl ?_
    refine a_getI C eX5_idleVisits_9 fX5_84 sh_2 rfl ?_
    refine a_icmp_ge C eX5_idleVisits_12 (fun hc => ?_) (fun hc => ?_)
    · replace h := it hc h
      refine a_iload_n C eX5_idleVisits_46 rfl ?_
      exact rt_p R eX5_idleVisits_47 h nb_int
    · replace h := ie hc h
      refine a_aload_n C eX5_idleVisits_15 rfl ?_
      refine a_iload_n C eX5_idleVisits_16 rfl ?_
      refine a_iload_n C eX5_idleVisits_17 rfl ?_
      obtain ⟨r_3, hq, h⟩ := b1_e h
      refine a_cVi2 C eX5_idleVisits_18 wX5_90 ⟨Nat.le_of_ble_eq_true rfl, Nat.le_of_ble_eq_true rfl, rfl, rfl⟩ rfl hk.1 rfl (kX5_isVisited hk hq) (Nat.le_of_ble_eq_true rfl) ?_
      refine jn (fun (kk : Int32 → Option Int32) => ∀ (x2_4 : Int32), kk x2_4 = some rr → AW X 0 0 ad (SHc ++ ext) σ 40 [some (.ref k), some (.int p1), some (.int x2_4), some (.int x3_2)] []) h ?_ (fun k40_5 hk40_5 h => ?_)
      · intro x2_4 h
        refine a_inc C eX5_idleVisits_40 rfl c_iconst_1 h (fun z => [some (.ref k), some (.int p1), some (.int x2_4), some (.int z)]) (fun _ => rfl) (fun x3_6 h => ?_)
        refine a_goto C eX5_idleVisits_43 ?_
        exact a_less (lle_same (lle_same (lle_same (lle_same lle_nil)))) (ih _ _ h)
      refine a_if_eq C eX5_idleVisits_21 (fun hc => ?_) (fun hc => ?_)
      · replace h := it hc h
        exact a_less (lle_same (lle_same (lle_same (lle_same lle_nil)))) (hk40_5 _ h)
      · replace h := ie hc h
        refine a_aload_n C eX5_idleVisits_24 rfl ?_
        refine a_getR C eX5_idleVisits_25 fX5_18 hk.1 rfl ?_
        refine a_iload_n C eX5_idleVisits_28 rfl ?_
        refine a_iload_n C eX5_idleVisits_29 rfl ?_
        obtain ⟨r_7, hq, h⟩ := b1_e h
        refine a_cNi2 C eX5_idleVisits_30 wX5_87 ⟨Nat.le_of_ble_eq_true rfl, Nat.le_of_ble_eq_true rfl, rfl, rfl⟩ rfl (kX9_cellOf hq) (Nat.le_of_ble_eq_true rfl) ?_
        obtain ⟨hb_8, h⟩ := gd h
        refine a_iald C eX5_idleVisits_33 hk.2.2.2.1 hb_8 ?_
        refine a_if_ne C eX5_idleVisits_34 (fun hc => ?_) (fun hc => ?_)
        · replace h := ie hc h
          exact a_less (lle_same (lle_same (lle_same (lle_same lle_nil)))) (hk40_5 _ h)
        · replace h := it hc h
          refine a_inc C eX5_idleVisits_37 rfl c_iconst_1 h (fun z => [some (.ref k), some (.int p1), some (.int z), some (.int x3_2)]) (fun _ => rfl) (fun x2_9 h => ?_)
          exact a_less (lle_same (lle_same (lle_same (lle_same lle_nil)))) (hk40_5 _ h)
theorem kX5_idleVisits {ext : List Shp} {k : Nat} {p1 : Int32} {σ : Sg} {rr : Int32} (hk : is_X5 (SHc ++ ext) k) (h : XX5_idleVisits k p1 σ = some rr) : Ci MX5_idleVisits [.ref k, .int p1] (SHc ++ ext) σ (rr, σ) := by
  refine Ci.start rfl rfl (Nat.le_of_ble_eq_true rfl) ?_
  intro X ad C R
  replace C : Cx X cX5_idleVisits 4 RX5 (some .int) { frames := 1, cells := 0, slots := 0, locals := 22 } := C
  replace R : Ri X cX5_idleVisits (some .int) ad (SHc ++ ext) (rr, σ) := R
  show AW X 0 0 ad (SHc ++ ext) σ 0 [some (.ref k), some (.int p1), none, none] []
  rw [XX5_idleVisits] at h
  refine a_iconst C eX5_idleVisits_0 (0 : Int32) c_iconst_0 ?_
  refine a_ist_n C eX5_idleVisits_1 (Nat.le_of_ble_eq_true rfl) [some (.ref k), some (.int p1), some (.int (0 : Int32)), none] rfl ?_
  refine a_iconst C eX5_idleVisits_2 (0 : Int32) c_iconst_0 ?_
  refine a_ist_n C eX5_idleVisits_3 (Nat.le_of_ble_eq_true rfl) [some (.ref k), some (.int p1), some (.int (0 : Int32)), some (.int (0 : Int32))] rfl ?_
  exact a_less (lle_same (lle_same (lle_same (lle_same lle_nil)))) (lX5_idleVisits_4 hk C R  _ _ _ h)
/-! ShelfDrives$Run.firstMissed(I)I -/
def LX5_firstMissed_2 (k : Nat) (p1 : Int32) (σ : Sg) : Nat → Int32 → Option Int32
  | 0, _ => none
  | n + 1, x2_1 => if (σ 2 0) ≤ x2_1 then (some (-1 : Int32)) else (b1 (XX9_cellOf p1 x2_1) (fun (r_2 : Int32) => if ib r_2 84 then if (σ (k + 5) r_2.toNatClampNeg) ≤ 0 then (lt (x2_1 + (1 : Int32)) (fun (x2_4 : Int32) => LX5_firstMissed_2 k p1 σ n x2_4)) else (some x2_1) else none))
def XX5_firstMissed (k : Nat) (p1 : Int32) (σ : Sg) : Option Int32 := LX5_firstMissed_2 k p1 σ FUEL (0 : Int32)
theorem lX5_firstMissed_2 {ext : List Shp} {X : CT} {ad : Nat → Nat} {rr : Int32} {k : Nat} {p1 : Int32} {σ : Sg} (hk : is_X5 (SHc ++ ext) k) (C : Cx X cX5_firstMissed 3 RX5 (some .int) { frames := 1, cells := 0, slots := 0, locals := 21 }) (R : Ri X cX5_firstMissed (some .int) ad (SHc ++ ext) (rr, σ))  : ∀ (n : Nat) (x2_1 : Int32), LX5_firstMissed_2 k p1 σ n x2_1 = some rr → AW X 0 0 ad (SHc ++ ext) σ 2 [some (.ref k), some (.int p1), some (.int x2_1)] [] := by
  intro n
  induction n with
  | zero =>
    intro x2_1 h
    rw [LX5_firstMissed_2] at h
    cases h
  | succ n ih =>
    intro x2_1 h
    rw [LX5_firstMissed_2] at h
    refine a_iload_n C eX5_firstMissed_2 rfl ?_
    refine a_aload_n C eX5_firstMissed_3 rfl ?_
    refine a_getR C eX5_firstMissed_4 fX5_33 hk.1 rfl ?_
    refine a_getI C eX5_firstMissed_7 fX5_84 sh_2 rfl ?_
    refine a_icmp_ge C eX5_firstMissed_10 (fun hc => ?_) (fun hc => ?_)
    · replace h := it hc h
      refine a_iconst C eX5_firstMissed_34 (-1 : Int32) c_iconst_m1 ?_
      exact rt_p R eX5_firstMissed_35 h nb_int
    · replace h := ie hc h
      refine a_aload_n C eX5_firstMissed_13 rfl ?_
      refine a_getR C eX5_firstMissed_14 fX5_24 hk.1 rfl ?_
      refine a_iload_n C eX5_firstMissed_17 rfl ?_
      refine a_iload_n C eX5_firstMissed_18 rfl ?_
      obtain ⟨r_2, hq, h⟩ := b1_e h
      refine a_cNi2 C eX5_firstMissed_19 wX5_87 ⟨Nat.le_of_ble_eq_true rfl, Nat.le_of_ble_eq_true rfl, rfl, rfl⟩ rfl (kX9_cellOf hq) (Nat.le_of_ble_eq_true rfl) ?_
      obtain ⟨hb_3, h⟩ := gd h
      refine a_iald C eX5_firstMissed_22 hk.2.2.2.2.2.1 hb_3 ?_
      refine a_if_le C eX5_firstMissed_23 (fun hc => ?_) (fun hc => ?_)
      · replace h := it hc h
        refine a_inc C eX5_firstMissed_28 rfl c_iconst_1 h (fun z => [some (.ref k), some (.int p1), some (.int z)]) (fun _ => rfl) (fun x2_4 h => ?_)
        refine a_goto C eX5_firstMissed_31 ?_
        exact a_less (lle_same (lle_same (lle_same lle_nil))) (ih _ h)
      · replace h := ie hc h
        refine a_iload_n C eX5_firstMissed_26 rfl ?_
        exact rt_p R eX5_firstMissed_27 h nb_int
theorem kX5_firstMissed {ext : List Shp} {k : Nat} {p1 : Int32} {σ : Sg} {rr : Int32} (hk : is_X5 (SHc ++ ext) k) (h : XX5_firstMissed k p1 σ = some rr) : Ci MX5_firstMissed [.ref k, .int p1] (SHc ++ ext) σ (rr, σ) := by
  refine Ci.start rfl rfl (Nat.le_of_ble_eq_true rfl) ?_
  intro X ad C R
  replace C : Cx X cX5_firstMissed 3 RX5 (some .int) { frames := 1, cells := 0, slots := 0, locals := 21 } := C
  replace R : Ri X cX5_firstMissed (some .int) ad (SHc ++ ext) (rr, σ) := R
  show AW X 0 0 ad (SHc ++ ext) σ 0 [some (.ref k), some (.int p1), none] []
  rw [XX5_firstMissed] at h
  refine a_iconst C eX5_firstMissed_0 (0 : Int32) c_iconst_0 ?_
  refine a_ist_n C eX5_firstMissed_1 (Nat.le_of_ble_eq_true rfl) [some (.ref k), some (.int p1), some (.int (0 : Int32))] rfl ?_
  exact a_less (lle_same (lle_same (lle_same lle_nil))) (lX5_firstMissed_2 hk C R  _ _ h)
/-! ShelfDrives$Run.spareFrom(II)I -/
def LX5_spareFrom_6 (k : Nat) (p1 : Int32) (p2 : Int32) (σ : Sg) : Nat → Int32 → Int32 → Option Int32
  | 0, _, _ => none
  | n + 1, x3_1, x4_2 => if (σ 2 0) ≤ x4_2 then (some x3_1) else (lt (b1 (XX9_cellOf p1 x4_2) (fun (r_4 : Int32) => if ib r_4 84 then lt (if (σ (k + 4) r_4.toNatClampNeg) < x3_1 then (σ (k + 4) r_4.toNatClampNeg) else x3_1) (fun (x3_6 : Int32) => lt (x4_2 + (1 : Int32)) (fun (x4_7 : Int32) => LX5_spareFrom_6 k p1 p2 σ n x3_6 x4_7)) else none)) (fun (k36_3 : Option Int32) => if x4_2 ≤ p2 then (k36_3) else (b1 (XX5_isVisited k p1 x4_2 σ) (fun (r_8 : Int32) => if r_8 = 0 then (k36_3) else (some x3_1)))))
def XX5_spareFrom (k : Nat) (p1 : Int32) (p2 : Int32) (σ : Sg) : Option Int32 := LX5_spareFrom_6 k p1 p2 σ FUEL (99 : Int32) p2
theorem lX5_spareFrom_6 {ext : List Shp} {X : CT} {ad : Nat → Nat} {rr : Int32} {k : Nat} {p1 : Int32} {p2 : Int32} {σ : Sg} (hk : is_X5 (SHc ++ ext) k) (C : Cx X cX5_spareFrom 5 RX5 (some .int) { frames := 1, cells := 0, slots := 0, locals := 22 }) (R : Ri X cX5_spareFrom (some .int) ad (SHc ++ ext) (rr, σ))  : ∀ (n : Nat) (x3_1 : Int32) (x4_2 : Int32), LX5_spareFrom_6 k p1 p2 σ n x3_1 x4_2 = some rr → AW X 0 0 ad (SHc ++ ext) σ 6 [some (.ref k), some (.int p1), some (.int p2), some (.int x3_1), some (.int x4_2)] [] := by
  intro n
  induction n with
  | zero =>
    intro x3_1 x4_2 h
    rw [LX5_spareFrom_6] at h
    cases h
  | succ n ih =>
    intro x3_1 x4_2 h
    rw [LX5_spareFrom_6] at h
    refine a_iload C eX5_spareFrom_6 rfl ?_
    refine a_aload_n C eX5_spareFrom_8 rfl ?_
    refine a_getR C eX5_spareFrom_9 fX5_33 hk.1 rfl ?_
    refine a_getI C eX5_spareFrom_12 fX5_84 sh_2 rfl ?_
    refine a_icmp_ge C eX5_spareFrom_15 (fun hc => ?_) (fun hc => ?_)
    · replace h := it hc h
      refine a_iload_n C eX5_spareFrom_58 rfl ?_
      exact rt_p R eX5_spareFrom_59 h nb_int
    · replace h := ie hc h
      refine a_iload C eX5_spareFrom_18 rfl ?_
      refine a_iload_n C eX5_spareFrom_20 rfl ?_
      refine jn (fun (kk : Option Int32) => kk = some rr → AW X 0 0 ad (SHc ++ ext) σ 36 [some (.ref k), some (.int p1), some (.int p2), some (.int x3_1), some (.int x4_2)] []) h ?_ (fun k36_3 hk36_3 h => ?_)
      · intro h
        refine a_iload_n C eX5_spareFrom_36 rfl ?_
        refine a_aload_n C eX5_spareFrom_37 rfl ?_
        refine a_getR C eX5_spareFrom_38 fX5_21 hk.1 rfl ?_
        refine a_iload_n C eX5_spareFrom_41 rfl ?_
        refine a_iload C eX5_spareFrom_42 rfl ?_
        obtain ⟨r_4, hq, h⟩ := b1_e h
        refine a_cNi2 C eX5_spareFrom_44 wX5_87 ⟨Nat.le_of_ble_eq_true rfl, Nat.le_of_ble_eq_true rfl, rfl, rfl⟩ rfl (kX9_cellOf hq) (Nat.le_of_ble_eq_true rfl) ?_
        obtain ⟨hb_5, h⟩ := gd h
        refine a_iald C eX5_spareFrom_47 hk.2.2.2.2.1 hb_5 ?_
        refine a_min C eX5_spareFrom_48 wX5_97 ⟨Nat.le_of_ble_eq_true rfl, Nat.le_of_ble_eq_true rfl⟩ rfl (Nat.le_of_ble_eq_true rfl) ?_
        refine a_lt h (fun x3_6 h => ?_)
        refine a_ist_n C eX5_spareFrom_51 (Nat.le_of_ble_eq_true rfl) [some (.ref k), some (.int p1), some (.int p2), some (.int x3_6), some (.int x4_2)] rfl ?_
        refine a_inc C eX5_spareFrom_52 rfl c_iconst_1 h (fun z => [some (.ref k), some (.int p1), some (.int p2), some (.int x3_6), some (.int z)]) (fun _ => rfl) (fun x4_7 h => ?_)
        refine a_goto C eX5_spareFrom_55 ?_
        exact a_less (lle_same (lle_same (lle_same (lle_same (lle_same lle_nil))))) (ih _ _ h)
      refine a_icmp_le C eX5_spareFrom_21 (fun hc => ?_) (fun hc => ?_)
      · replace h := it hc h
        exact a_less (lle_same (lle_same (lle_same (lle_same (lle_same lle_nil))))) (hk36_3 h)
      · replace h := ie hc h
        refine a_aload_n C eX5_spareFrom_24 rfl ?_
        refine a_iload_n C eX5_spareFrom_25 rfl ?_
        refine a_iload C eX5_spareFrom_26 rfl ?_
        obtain ⟨r_8, hq, h⟩ := b1_e h
        refine a_cVi2 C eX5_spareFrom_28 wX5_90 ⟨Nat.le_of_ble_eq_true rfl, Nat.le_of_ble_eq_true rfl, rfl, rfl⟩ rfl hk.1 rfl (kX5_isVisited hk hq) (Nat.le_of_ble_eq_true rfl) ?_
        refine a_if_eq C eX5_spareFrom_31 (fun hc => ?_) (fun hc => ?_)
        · replace h := it hc h
          exact a_less (lle_same (lle_same (lle_same (lle_same (lle_same lle_nil))))) (hk36_3 h)
        · replace h := ie hc h
          refine a_iload_n C eX5_spareFrom_34 rfl ?_
          exact rt_p R eX5_spareFrom_35 h nb_int
theorem kX5_spareFrom {ext : List Shp} {k : Nat} {p1 : Int32} {p2 : Int32} {σ : Sg} {rr : Int32} (hk : is_X5 (SHc ++ ext) k) (h : XX5_spareFrom k p1 p2 σ = some rr) : Ci MX5_spareFrom [.ref k, .int p1, .int p2] (SHc ++ ext) σ (rr, σ) := by
  refine Ci.start rfl rfl (Nat.le_of_ble_eq_true rfl) ?_
  intro X ad C R
  replace C : Cx X cX5_spareFrom 5 RX5 (some .int) { frames := 1, cells := 0, slots := 0, locals := 22 } := C
  replace R : Ri X cX5_spareFrom (some .int) ad (SHc ++ ext) (rr, σ) := R
  show AW X 0 0 ad (SHc ++ ext) σ 0 [some (.ref k), some (.int p1), some (.int p2), none, none] []
  rw [XX5_spareFrom] at h
  refine a_bipush C eX5_spareFrom_0 (99 : Int32) c_bipush_99 ?_
  refine a_ist_n C eX5_spareFrom_2 (Nat.le_of_ble_eq_true rfl) [some (.ref k), some (.int p1), some (.int p2), some (.int (99 : Int32)), none] rfl ?_
  refine a_iload_n C eX5_spareFrom_3 rfl ?_
  refine a_ist C eX5_spareFrom_4 (Nat.le_of_ble_eq_true rfl) [some (.ref k), some (.int p1), some (.int p2), some (.int (99 : Int32)), some (.int p2)] rfl ?_
  exact a_less (lle_same (lle_same (lle_same (lle_same (lle_same lle_nil))))) (lX5_spareFrom_6 hk C R  _ _ _ h)
/-! ShelfDrives$Run.lastsUntil(II)I -/
def LX5_lastsUntil_16 (k : Nat) (p1 : Int32) (σ : Sg) : Nat → Int32 → Int32 → Option Int32
  | 0, _, _ => none
  | n + 1, x3_5, x4_6 => if (σ 2 0) ≤ x4_6 then (some (-1 : Int32)) else (b1 (XX9_cellOf p1 x4_6) (fun (r_7 : Int32) => if ib r_7 84 then lt (x3_5 - (σ (k + 2) r_7.toNatClampNeg)) (fun (x3_9 : Int32) => if 0 ≤ x3_9 then (lt (x4_6 + (1 : Int32)) (fun (x4_10 : Int32) => LX5_lastsUntil_16 k p1 σ n x3_9 x4_10)) else (some x4_6)) else none))
def XX5_lastsUntil (k : Nat) (p1 : Int32) (p2 : Int32) (σ : Sg) : Option Int32 := b1 (XX9_cellOf p1 p2) (fun (r_1 : Int32) => if ib r_1 84 then lt (σ (k + 4) r_1.toNatClampNeg) (fun (x3_3 : Int32) => lt (p2 + (1 : Int32)) (fun (x4_4 : Int32) => LX5_lastsUntil_16 k p1 σ FUEL x3_3 x4_4)) else none)
theorem lX5_lastsUntil_16 {ext : List Shp} {X : CT} {ad : Nat → Nat} {rr : Int32} {k : Nat} {p1 : Int32} {σ : Sg} (hk : is_X5 (SHc ++ ext) k) (C : Cx X cX5_lastsUntil 5 RX5 (some .int) { frames := 1, cells := 0, slots := 0, locals := 21 }) (R : Ri X cX5_lastsUntil (some .int) ad (SHc ++ ext) (rr, σ))  : ∀ (n : Nat) (x3_5 : Int32) (x4_6 : Int32), LX5_lastsUntil_16 k p1 σ n x3_5 x4_6 = some rr → AW X 0 0 ad (SHc ++ ext) σ 16 [some (.ref k), some (.int p1), none, some (.int x3_5), some (.int x4_6)] [] := by
  intro n
  induction n with
  | zero =>
    intro x3_5 x4_6 h
    rw [LX5_lastsUntil_16] at h
    cases h
  | succ n ih =>
    intro x3_5 x4_6 h
    rw [LX5_lastsUntil_16] at h
    refine a_iload C eX5_lastsUntil_16 rfl ?_
    refine a_aload_n C eX5_lastsUntil_18 rfl ?_
    refine a_getR C eX5_lastsUntil_19 fX5_33 hk.1 rfl ?_
    refine a_getI C eX5_lastsUntil_22 fX5_84 sh_2 rfl ?_
    refine a_icmp_ge C eX5_lastsUntil_25 (fun hc => ?_) (fun hc => ?_)
    · replace h := it hc h
      refine a_iconst C eX5_lastsUntil_55 (-1 : Int32) c_iconst_m1 ?_
      exact rt_p R eX5_lastsUntil_56 h nb_int
    · replace h := ie hc h
      refine a_iload_n C eX5_lastsUntil_28 rfl ?_
      refine a_aload_n C eX5_lastsUntil_29 rfl ?_
      refine a_getR C eX5_lastsUntil_30 fX5_15 hk.1 rfl ?_
      refine a_iload_n C eX5_lastsUntil_33 rfl ?_
      refine a_iload C eX5_lastsUntil_34 rfl ?_
      obtain ⟨r_7, hq, h⟩ := b1_e h
      refine a_cNi2 C eX5_lastsUntil_36 wX5_87 ⟨Nat.le_of_ble_eq_true rfl, Nat.le_of_ble_eq_true rfl, rfl, rfl⟩ rfl (kX9_cellOf hq) (Nat.le_of_ble_eq_true rfl) ?_
      obtain ⟨hb_8, h⟩ := gd h
      refine a_iald C eX5_lastsUntil_39 hk.2.2.1 hb_8 ?_
      refine a_isub C eX5_lastsUntil_40 ?_
      refine a_lt h (fun x3_9 h => ?_)
      refine a_ist_n C eX5_lastsUntil_41 (Nat.le_of_ble_eq_true rfl) [some (.ref k), some (.int p1), none, some (.int x3_9), some (.int x4_6)] rfl ?_
      refine a_iload_n C eX5_lastsUntil_42 rfl ?_
      refine a_if_ge C eX5_lastsUntil_43 (fun hc => ?_) (fun hc => ?_)
      · replace h := it hc h
        refine a_inc C eX5_lastsUntil_49 rfl c_iconst_1 h (fun z => [some (.ref k), some (.int p1), none, some (.int x3_9), some (.int z)]) (fun _ => rfl) (fun x4_10 h => ?_)
        refine a_goto C eX5_lastsUntil_52 ?_
        exact a_less (lle_same (lle_same (lle_same (lle_same (lle_same lle_nil))))) (ih _ _ h)
      · replace h := ie hc h
        refine a_iload C eX5_lastsUntil_46 rfl ?_
        exact rt_p R eX5_lastsUntil_48 h nb_int
theorem kX5_lastsUntil {ext : List Shp} {k : Nat} {p1 : Int32} {p2 : Int32} {σ : Sg} {rr : Int32} (hk : is_X5 (SHc ++ ext) k) (h : XX5_lastsUntil k p1 p2 σ = some rr) : Ci MX5_lastsUntil [.ref k, .int p1, .int p2] (SHc ++ ext) σ (rr, σ) := by
  refine Ci.start rfl rfl (Nat.le_of_ble_eq_true rfl) ?_
  intro X ad C R
  replace C : Cx X cX5_lastsUntil 5 RX5 (some .int) { frames := 1, cells := 0, slots := 0, locals := 21 } := C
  replace R : Ri X cX5_lastsUntil (some .int) ad (SHc ++ ext) (rr, σ) := R
  show AW X 0 0 ad (SHc ++ ext) σ 0 [some (.ref k), some (.int p1), some (.int p2), none, none] []
  rw [XX5_lastsUntil] at h
  refine a_aload_n C eX5_lastsUntil_0 rfl ?_
  refine a_getR C eX5_lastsUntil_1 fX5_21 hk.1 rfl ?_
  refine a_iload_n C eX5_lastsUntil_4 rfl ?_
  refine a_iload_n C eX5_lastsUntil_5 rfl ?_
  obtain ⟨r_1, hq, h⟩ := b1_e h
  refine a_cNi2 C eX5_lastsUntil_6 wX5_87 ⟨Nat.le_of_ble_eq_true rfl, Nat.le_of_ble_eq_true rfl, rfl, rfl⟩ rfl (kX9_cellOf hq) (Nat.le_of_ble_eq_true rfl) ?_
  obtain ⟨hb_2, h⟩ := gd h
  refine a_iald C eX5_lastsUntil_9 hk.2.2.2.2.1 hb_2 ?_
  refine a_lt h (fun x3_3 h => ?_)
  refine a_ist_n C eX5_lastsUntil_10 (Nat.le_of_ble_eq_true rfl) [some (.ref k), some (.int p1), some (.int p2), some (.int x3_3), none] rfl ?_
  refine a_iload_n C eX5_lastsUntil_11 rfl ?_
  refine a_iconst C eX5_lastsUntil_12 (1 : Int32) c_iconst_1 ?_
  refine a_iadd C eX5_lastsUntil_13 ?_
  refine a_lt h (fun x4_4 h => ?_)
  refine a_ist C eX5_lastsUntil_14 (Nat.le_of_ble_eq_true rfl) [some (.ref k), some (.int p1), some (.int p2), some (.int x3_3), some (.int x4_4)] rfl ?_
  exact a_less (lle_same (lle_same (lle_drop (lle_same (lle_same lle_nil))))) (lX5_lastsUntil_16 hk C R  _ _ _ h)
/-! ShelfDrives$Run.missedByChance(II)I -/
def LX5_missedByChance_42 (k : Nat) (p2 : Int32) (x5_1 : Int32) (x6_4 : Int32) (σ : Sg) (k150_9 : Int32 → Int32 → Option Int32) : Nat → Int32 → Int32 → Int32 → Int32 → Option Int32
  | 0, _, _, _, _ => none
  | n + 1, x3_11, x4_12, x7_13, x8_14 => if (σ 2 0) ≤ x8_14 then (k150_9 x3_11 x4_12) else (lt ((x3_11 * (1103515245 : Int32)) + (12345 : Int32)) (fun (x3_15 : Int32) => b1 (XX9_cellOf x6_4 x8_14) (fun (r_16 : Int32) => if ib r_16 84 then if ¬ x5_1 = 0 then lt (if (0 : Int32) < (((σ (k + 2) r_16.toNatClampNeg) + ((ush x3_15 (16 : Int32)) - (ush x3_15 (16 : Int32)) / x5_1 * x5_1)) - p2) then (((σ (k + 2) r_16.toNatClampNeg) + ((ush x3_15 (16 : Int32)) - (ush x3_15 (16 : Int32)) / x5_1 * x5_1)) - p2) else (0 : Int32)) (fun (x9_19 : Int32) => b1 (XX5_isVisited k x6_4 x8_14 σ) (fun (r_20 : Int32) => lt (fun (s_21 : Int32) => lt (x4_12 + (if (0 : Int32) < (x9_19 - s_21) then (x9_19 - s_21) else (0 : Int32))) (fun (x4_23 : Int32) => lt (if (0 : Int32) < (s_21 - x9_19) then (s_21 - x9_19) else (0 : Int32)) (fun (x7_24 : Int32) => lt (x8_14 + (1 : Int32)) (fun (x8_25 : Int32) => LX5_missedByChance_42 k p2 x5_1 x6_4 σ k150_9 n x3_15 x4_23 x7_24 x8_25)))) (fun (k117_22 : Int32 → Option Int32) => if r_20 = 0 then (k117_22 x7_13) else (if ib x6_4 6 then k117_22 (σ 5 x6_4.toNatClampNeg) else none)))) else none else none)))
def LX5_missedByChance_15 (k : Nat) (p2 : Int32) (x5_1 : Int32) (σ : Sg) : Nat → Int32 → Int32 → Int32 → Option Int32
  | 0, _, _, _ => none
  | n + 1, x3_2, x4_3, x6_4 => if (σ 2 6) ≤ x6_4 then (some x4_3) else (if ib x6_4 6 then lt (σ 6 x6_4.toNatClampNeg) (fun (x7_6 : Int32) => lt (fun (x3_7 : Int32) (x4_8 : Int32) => lt (x6_4 + (1 : Int32)) (fun (x6_10 : Int32) => LX5_missedByChance_15 k p2 x5_1 σ n x3_7 x4_8 x6_10)) (fun (k150_9 : Int32 → Int32 → Option Int32) => LX5_missedByChance_42 k p2 x5_1 x6_4 σ k150_9 FUEL x3_2 x4_3 x7_6 (0 : Int32))) else none)
def XX5_missedByChance (k : Nat) (p1 : Int32) (p2 : Int32) (σ : Sg) : Option Int32 := lt (((2 : Int32) * p2) + (1 : Int32)) (fun (x5_1 : Int32) => LX5_missedByChance_15 k p2 x5_1 σ FUEL p1 (0 : Int32) (0 : Int32))
theorem lX5_missedByChance_42 {ext : List Shp} {X : CT} {ad : Nat → Nat} {rr : Int32} {k : Nat} {p2 : Int32} {x5_1 : Int32} {x6_4 : Int32} {σ : Sg} {k150_9 : Int32 → Int32 → Option Int32} (hk : is_X5 (SHc ++ ext) k) (C : Cx X cX5_missedByChance 10 RX5 (some .int) { frames := 1, cells := 0, slots := 0, locals := 22 }) (R : Ri X cX5_missedByChance (some .int) ad (SHc ++ ext) (rr, σ)) (hk150_9 : ∀ (x3_7 : Int32) (x4_8 : Int32), k150_9 x3_7 x4_8 = some rr → AW X 0 0 ad (SHc ++ ext) σ 150 [some (.ref k), none, some (.int p2), some (.int x3_7), some (.int x4_8), some (.int x5_1), some (.int x6_4), none, none, none] []) : ∀ (n : Nat) (x3_11 : Int32) (x4_12 : Int32) (x7_13 : Int32) (x8_14 : Int32), LX5_missedByChance_42 k p2 x5_1 x6_4 σ k150_9 n x3_11 x4_12 x7_13 x8_14 = some rr → AW X 0 0 ad (SHc ++ ext) σ 42 [some (.ref k), none, some (.int p2), some (.int x3_11), some (.int x4_12), some (.int x5_1), some (.int x6_4), some (.int x7_13), some (.int x8_14), none] [] := by
  intro n
  induction n with
  | zero =>
    intro x3_11 x4_12 x7_13 x8_14 h
    rw [LX5_missedByChance_42] at h
    cases h
  | succ n ih =>
    intro x3_11 x4_12 x7_13 x8_14 h
    rw [LX5_missedByChance_42] at h
    refine a_iload C eX5_missedByChance_42 rfl ?_
    refine a_aload_n C eX5_missedByChance_44 rfl ?_
    refine a_getR C eX5_missedByChance_45 fX5_33 hk.1 rfl ?_
    refine a_getI C eX5_missedByChance_48 fX5_84 sh_2 rfl ?_
    refine a_icmp_ge C eX5_missedByChance_51 (fun hc => ?_) (fun hc => ?_)
    · replace h := it hc h
      exact a_less (lle_same (lle_same (lle_same (lle_same (lle_same (lle_same (lle_same (lle_drop (lle_drop (lle_same lle_nil)))))))))) (hk150_9 _ _ h)
    · replace h := ie hc h
      refine a_iload_n C eX5_missedByChance_54 rfl ?_
      refine a_ldc C eX5_missedByChance_55 (1103515245 : Int32) wkX5_105 ?_
      refine a_imul C eX5_missedByChance_57 ?_
      refine a_sipush C eX5_missedByChance_58 (12345 : Int32) c_sipush_12345 ?_
      refine a_iadd C eX5_missedByChance_61 ?_
      refine a_lt h (fun x3_15 h => ?_)
      refine a_ist_n C eX5_missedByChance_62 (Nat.le_of_ble_eq_true rfl) [some (.ref k), none, some (.int p2), some (.int x3_15), some (.int x4_12), some (.int x5_1), some (.int x6_4), some (.int x7_13), some (.int x8_14), none] rfl ?_
      refine a_iconst C eX5_missedByChance_63 (0 : Int32) c_iconst_0 ?_
      refine a_aload_n C eX5_missedByChance_64 rfl ?_
      refine a_getR C eX5_missedByChance_65 fX5_15 hk.1 rfl ?_
      refine a_iload C eX5_missedByChance_68 rfl ?_
      refine a_iload C eX5_missedByChance_70 rfl ?_
      obtain ⟨r_16, hq, h⟩ := b1_e h
      refine a_cNi2 C eX5_missedByChance_72 wX5_87 ⟨Nat.le_of_ble_eq_true rfl, Nat.le_of_ble_eq_true rfl, rfl, rfl⟩ rfl (kX9_cellOf hq) (Nat.le_of_ble_eq_true rfl) ?_
      obtain ⟨hb_17, h⟩ := gd h
      refine a_iald C eX5_missedByChance_75 hk.2.2.1 hb_17 ?_
      refine a_iload_n C eX5_missedByChance_76 rfl ?_
      refine a_bipush C eX5_missedByChance_77 (16 : Int32) c_bipush_16 ?_
      refine a_iushr C eX5_missedByChance_79 ?_
      refine a_iload C eX5_missedByChance_80 rfl ?_
      obtain ⟨hz_18, h⟩ := gd h
      refine a_irem C eX5_missedByChance_82 hz_18 ?_
      refine a_iadd C eX5_missedByChance_83 ?_
      refine a_iload_n C eX5_missedByChance_84 rfl ?_
      refine a_isub C eX5_missedByChance_85 ?_
      refine a_max C eX5_missedByChance_86 wX5_106 ⟨Nat.le_of_ble_eq_true rfl, Nat.le_of_ble_eq_true rfl⟩ rfl (Nat.le_of_ble_eq_true rfl) ?_
      refine a_lt h (fun x9_19 h => ?_)
      refine a_ist C eX5_missedByChance_89 (Nat.le_of_ble_eq_true rfl) [some (.ref k), none, some (.int p2), some (.int x3_15), some (.int x4_12), some (.int x5_1), some (.int x6_4), some (.int x7_13), some (.int x8_14), some (.int x9_19)] rfl ?_
      refine a_aload_n C eX5_missedByChance_91 rfl ?_
      refine a_iload C eX5_missedByChance_92 rfl ?_
      refine a_iload C eX5_missedByChance_94 rfl ?_
      obtain ⟨r_20, hq, h⟩ := b1_e h
      refine a_cVi2 C eX5_missedByChance_96 wX5_90 ⟨Nat.le_of_ble_eq_true rfl, Nat.le_of_ble_eq_true rfl, rfl, rfl⟩ rfl hk.1 rfl (kX5_isVisited hk hq) (Nat.le_of_ble_eq_true rfl) ?_
      refine jn (fun (kk : Int32 → Option Int32) => ∀ (s_21 : Int32), kk s_21 = some rr → AW X 0 0 ad (SHc ++ ext) σ 117 [some (.ref k), none, some (.int p2), some (.int x3_15), some (.int x4_12), some (.int x5_1), some (.int x6_4), none, some (.int x8_14), some (.int x9_19)] [.int s_21]) h ?_ (fun k117_22 hk117_22 h => ?_)
      · intro s_21 h
        refine a_ist C eX5_missedByChance_117 (Nat.le_of_ble_eq_true rfl) [some (.ref k), none, some (.int p2), some (.int x3_15), some (.int x4_12), some (.int x5_1), some (.int x6_4), some (.int s_21), some (.int x8_14), some (.int x9_19)] rfl ?_
        refine a_iload C eX5_missedByChance_119 rfl ?_
        refine a_iconst C eX5_missedByChance_121 (0 : Int32) c_iconst_0 ?_
        refine a_iload C eX5_missedByChance_122 rfl ?_
        refine a_iload C eX5_missedByChance_124 rfl ?_
        refine a_isub C eX5_missedByChance_126 ?_
        refine a_max C eX5_missedByChance_127 wX5_106 ⟨Nat.le_of_ble_eq_true rfl, Nat.le_of_ble_eq_true rfl⟩ rfl (Nat.le_of_ble_eq_true rfl) ?_
        refine a_iadd C eX5_missedByChance_130 ?_
        refine a_lt h (fun x4_23 h => ?_)
        refine a_ist C eX5_missedByChance_131 (Nat.le_of_ble_eq_true rfl) [some (.ref k), none, some (.int p2), some (.int x3_15), some (.int x4_23), some (.int x5_1), some (.int x6_4), some (.int s_21), some (.int x8_14), some (.int x9_19)] rfl ?_
        refine a_iconst C eX5_missedByChance_133 (0 : Int32) c_iconst_0 ?_
        refine a_iload C eX5_missedByChance_134 rfl ?_
        refine a_iload C eX5_missedByChance_136 rfl ?_
        refine a_isub C eX5_missedByChance_138 ?_
        refine a_max C eX5_missedByChance_139 wX5_106 ⟨Nat.le_of_ble_eq_true rfl, Nat.le_of_ble_eq_true rfl⟩ rfl (Nat.le_of_ble_eq_true rfl) ?_
        refine a_lt h (fun x7_24 h => ?_)
        refine a_ist C eX5_missedByChance_142 (Nat.le_of_ble_eq_true rfl) [some (.ref k), none, some (.int p2), some (.int x3_15), some (.int x4_23), some (.int x5_1), some (.int x6_4), some (.int x7_24), some (.int x8_14), some (.int x9_19)] rfl ?_
        refine a_inc C eX5_missedByChance_144 rfl c_iconst_1 h (fun z => [some (.ref k), none, some (.int p2), some (.int x3_15), some (.int x4_23), some (.int x5_1), some (.int x6_4), some (.int x7_24), some (.int z), some (.int x9_19)]) (fun _ => rfl) (fun x8_25 h => ?_)
        refine a_goto C eX5_missedByChance_147 ?_
        exact a_less (lle_same (lle_same (lle_same (lle_same (lle_same (lle_same (lle_same (lle_same (lle_same (lle_drop lle_nil)))))))))) (ih _ _ _ _ h)
      refine a_if_eq C eX5_missedByChance_99 (fun hc => ?_) (fun hc => ?_)
      · replace h := it hc h
        refine a_iload C eX5_missedByChance_115 rfl ?_
        exact a_less (lle_same (lle_same (lle_same (lle_same (lle_same (lle_same (lle_same (lle_drop (lle_same (lle_same lle_nil)))))))))) (hk117_22 _ h)
      · replace h := ie hc h
        refine a_aload_n C eX5_missedByChance_102 rfl ?_
        refine a_getR C eX5_missedByChance_103 fX5_33 hk.1 rfl ?_
        refine a_getR C eX5_missedByChance_106 fX5_94 sh_2 rfl ?_
        refine a_iload C eX5_missedByChance_109 rfl ?_
        obtain ⟨hb_26, h⟩ := gd h
        refine a_iald C eX5_missedByChance_111 sh_5 hb_26 ?_
        refine a_goto C eX5_missedByChance_112 ?_
        exact a_less (lle_same (lle_same (lle_same (lle_same (lle_same (lle_same (lle_same (lle_drop (lle_same (lle_same lle_nil)))))))))) (hk117_22 _ h)
theorem lX5_missedByChance_15 {ext : List Shp} {X : CT} {ad : Nat → Nat} {rr : Int32} {k : Nat} {p2 : Int32} {x5_1 : Int32} {σ : Sg} (hk : is_X5 (SHc ++ ext) k) (C : Cx X cX5_missedByChance 10 RX5 (some .int) { frames := 1, cells := 0, slots := 0, locals := 22 }) (R : Ri X cX5_missedByChance (some .int) ad (SHc ++ ext) (rr, σ))  : ∀ (n : Nat) (x3_2 : Int32) (x4_3 : Int32) (x6_4 : Int32), LX5_missedByChance_15 k p2 x5_1 σ n x3_2 x4_3 x6_4 = some rr → AW X 0 0 ad (SHc ++ ext) σ 15 [some (.ref k), none, some (.int p2), some (.int x3_2), some (.int x4_3), some (.int x5_1), some (.int x6_4), none, none, none] [] := by
  intro n
  induction n with
  | zero =>
    intro x3_2 x4_3 x6_4 h
    rw [LX5_missedByChance_15] at h
    cases h
  | succ n ih =>
    intro x3_2 x4_3 x6_4 h
    rw [LX5_missedByChance_15] at h
    refine a_iload C eX5_missedByChance_15 rfl ?_
    refine a_aload_n C eX5_missedByChance_17 rfl ?_
    refine a_getR C eX5_missedByChance_18 fX5_33 hk.1 rfl ?_
    refine a_getI C eX5_missedByChance_21 fX5_63 sh_2 rfl ?_
    refine a_icmp_ge C eX5_missedByChance_24 (fun hc => ?_) (fun hc => ?_)
    · replace h := it hc h
      refine a_iload C eX5_missedByChance_156 rfl ?_
      exact rt_p R eX5_missedByChance_158 h nb_int
    · replace h := ie hc h
      refine a_aload_n C eX5_missedByChance_27 rfl ?_
      refine a_getR C eX5_missedByChance_28 fX5_33 hk.1 rfl ?_
      refine a_getR C eX5_missedByChance_31 fX5_102 sh_2 rfl ?_
      refine a_iload C eX5_missedByChance_34 rfl ?_
      obtain ⟨hb_5, h⟩ := gd h
      refine a_iald C eX5_missedByChance_36 sh_6 hb_5 ?_
      refine a_lt h (fun x7_6 h => ?_)
      refine a_ist C eX5_missedByChance_37 (Nat.le_of_ble_eq_true rfl) [some (.ref k), none, some (.int p2), some (.int x3_2), some (.int x4_3), some (.int x5_1), some (.int x6_4), some (.int x7_6), none, none] rfl ?_
      refine a_iconst C eX5_missedByChance_39 (0 : Int32) c_iconst_0 ?_
      refine a_ist C eX5_missedByChance_40 (Nat.le_of_ble_eq_true rfl) [some (.ref k), none, some (.int p2), some (.int x3_2), some (.int x4_3), some (.int x5_1), some (.int x6_4), some (.int x7_6), some (.int (0 : Int32)), none] rfl ?_
      refine jn (fun (kk : Int32 → Int32 → Option Int32) => ∀ (x3_7 : Int32) (x4_8 : Int32), kk x3_7 x4_8 = some rr → AW X 0 0 ad (SHc ++ ext) σ 150 [some (.ref k), none, some (.int p2), some (.int x3_7), some (.int x4_8), some (.int x5_1), some (.int x6_4), none, none, none] []) h ?_ (fun k150_9 hk150_9 h => ?_)
      · intro x3_7 x4_8 h
        refine a_inc C eX5_missedByChance_150 rfl c_iconst_1 h (fun z => [some (.ref k), none, some (.int p2), some (.int x3_7), some (.int x4_8), some (.int x5_1), some (.int z), none, none, none]) (fun _ => rfl) (fun x6_10 h => ?_)
        refine a_goto C eX5_missedByChance_153 ?_
        exact a_less (lle_same (lle_same (lle_same (lle_same (lle_same (lle_same (lle_same (lle_same (lle_same (lle_same lle_nil)))))))))) (ih _ _ _ h)
      exact a_less (lle_same (lle_same (lle_same (lle_same (lle_same (lle_same (lle_same (lle_same (lle_same (lle_same lle_nil)))))))))) (lX5_missedByChance_42 hk C R hk150_9 _ _ _ _ _ h)
theorem kX5_missedByChance {ext : List Shp} {k : Nat} {p1 : Int32} {p2 : Int32} {σ : Sg} {rr : Int32} (hk : is_X5 (SHc ++ ext) k) (h : XX5_missedByChance k p1 p2 σ = some rr) : Ci MX5_missedByChance [.ref k, .int p1, .int p2] (SHc ++ ext) σ (rr, σ) := by
  refine Ci.start rfl rfl (Nat.le_of_ble_eq_true rfl) ?_
  intro X ad C R
  replace C : Cx X cX5_missedByChance 10 RX5 (some .int) { frames := 1, cells := 0, slots := 0, locals := 22 } := C
  replace R : Ri X cX5_missedByChance (some .int) ad (SHc ++ ext) (rr, σ) := R
  show AW X 0 0 ad (SHc ++ ext) σ 0 [some (.ref k), some (.int p1), some (.int p2), none, none, none, none, none, none, none] []
  rw [XX5_missedByChance] at h
  refine a_iload_n C eX5_missedByChance_0 rfl ?_
  refine a_ist_n C eX5_missedByChance_1 (Nat.le_of_ble_eq_true rfl) [some (.ref k), some (.int p1), some (.int p2), some (.int p1), none, none, none, none, none, none] rfl ?_
  refine a_iconst C eX5_missedByChance_2 (0 : Int32) c_iconst_0 ?_
  refine a_ist C eX5_missedByChance_3 (Nat.le_of_ble_eq_true rfl) [some (.ref k), some (.int p1), some (.int p2), some (.int p1), some (.int (0 : Int32)), none, none, none, none, none] rfl ?_
  refine a_iconst C eX5_missedByChance_5 (2 : Int32) c_iconst_2 ?_
  refine a_iload_n C eX5_missedByChance_6 rfl ?_
  refine a_imul C eX5_missedByChance_7 ?_
  refine a_iconst C eX5_missedByChance_8 (1 : Int32) c_iconst_1 ?_
  refine a_iadd C eX5_missedByChance_9 ?_
  refine a_lt h (fun x5_1 h => ?_)
  refine a_ist C eX5_missedByChance_10 (Nat.le_of_ble_eq_true rfl) [some (.ref k), some (.int p1), some (.int p2), some (.int p1), some (.int (0 : Int32)), some (.int x5_1), none, none, none, none] rfl ?_
  refine a_iconst C eX5_missedByChance_12 (0 : Int32) c_iconst_0 ?_
  refine a_ist C eX5_missedByChance_13 (Nat.le_of_ble_eq_true rfl) [some (.ref k), some (.int p1), some (.int p2), some (.int p1), some (.int (0 : Int32)), some (.int x5_1), some (.int (0 : Int32)), none, none, none] rfl ?_
  exact a_less (lle_same (lle_drop (lle_same (lle_same (lle_same (lle_same (lle_same (lle_same (lle_same (lle_same lle_nil)))))))))) (lX5_missedByChance_15 hk C R  _ _ _ _ h)
/-! ShelfDrives$Run.loadsOn(I)I -/
def LX5_loadsOn_4 (k : Nat) (p1 : Int32) (σ : Sg) : Nat → Int32 → Int32 → Option Int32
  | 0, _, _ => none
  | n + 1, x2_1, x3_2 => if (σ 2 6) ≤ x3_2 then (some x2_1) else (b1 (XX9_cellOf x3_2 p1) (fun (r_3 : Int32) => if ib r_3 84 then lt (x2_1 + (σ (k + 3) r_3.toNatClampNeg)) (fun (x2_5 : Int32) => lt (x3_2 + (1 : Int32)) (fun (x3_6 : Int32) => LX5_loadsOn_4 k p1 σ n x2_5 x3_6)) else none))
def XX5_loadsOn (k : Nat) (p1 : Int32) (σ : Sg) : Option Int32 := LX5_loadsOn_4 k p1 σ FUEL (0 : Int32) (0 : Int32)
theorem lX5_loadsOn_4 {ext : List Shp} {X : CT} {ad : Nat → Nat} {rr : Int32} {k : Nat} {p1 : Int32} {σ : Sg} (hk : is_X5 (SHc ++ ext) k) (C : Cx X cX5_loadsOn 4 RX5 (some .int) { frames := 1, cells := 0, slots := 0, locals := 21 }) (R : Ri X cX5_loadsOn (some .int) ad (SHc ++ ext) (rr, σ))  : ∀ (n : Nat) (x2_1 : Int32) (x3_2 : Int32), LX5_loadsOn_4 k p1 σ n x2_1 x3_2 = some rr → AW X 0 0 ad (SHc ++ ext) σ 4 [some (.ref k), some (.int p1), some (.int x2_1), some (.int x3_2)] [] := by
  intro n
  induction n with
  | zero =>
    intro x2_1 x3_2 h
    rw [LX5_loadsOn_4] at h
    cases h
  | succ n ih =>
    intro x2_1 x3_2 h
    rw [LX5_loadsOn_4] at h
    refine a_iload_n C eX5_loadsOn_4 rfl ?_
    refine a_aload_n C eX5_loadsOn_5 rfl ?_
    refine a_getR C eX5_loadsOn_6 fX5_33 hk.1 rfl ?_
    refine a_getI C eX5_loadsOn_9 fX5_63 sh_2 rfl ?_
    refine a_icmp_ge C eX5_loadsOn_12 (fun hc => ?_) (fun hc => ?_)
    · replace h := it hc h
      refine a_iload_n C eX5_loadsOn_34 rfl ?_
      exact rt_p R eX5_loadsOn_35 h nb_int
    · replace h := ie hc h
      refine a_iload_n C eX5_loadsOn_15 rfl ?_
      refine a_aload_n C eX5_loadsOn_16 rfl ?_
      refine a_getR C eX5_loadsOn_17 fX5_18 hk.1 rfl ?_
      refine a_iload_n C eX5_loadsOn_20 rfl ?_
      refine a_iload_n C eX5_loadsOn_21 rfl ?_
      obtain ⟨r_3, hq, h⟩ := b1_e h
      refine a_cNi2 C eX5_loadsOn_22 wX5_87 ⟨Nat.le_of_ble_eq_true rfl, Nat.le_of_ble_eq_true rfl, rfl, rfl⟩ rfl (kX9_cellOf hq) (Nat.le_of_ble_eq_true rfl) ?_
      obtain ⟨hb_4, h⟩ := gd h
      refine a_iald C eX5_loadsOn_25 hk.2.2.2.1 hb_4 ?_
      refine a_iadd C eX5_loadsOn_26 ?_
      refine a_lt h (fun x2_5 h => ?_)
      refine a_ist_n C eX5_loadsOn_27 (Nat.le_of_ble_eq_true rfl) [some (.ref k), some (.int p1), some (.int x2_5), some (.int x3_2)] rfl ?_
      refine a_inc C eX5_loadsOn_28 rfl c_iconst_1 h (fun z => [some (.ref k), some (.int p1), some (.int x2_5), some (.int z)]) (fun _ => rfl) (fun x3_6 h => ?_)
      refine a_goto C eX5_loadsOn_31 ?_
      exact a_less (lle_same (lle_same (lle_same (lle_same lle_nil)))) (ih _ _ h)
theorem kX5_loadsOn {ext : List Shp} {k : Nat} {p1 : Int32} {σ : Sg} {rr : Int32} (hk : is_X5 (SHc ++ ext) k) (h : XX5_loadsOn k p1 σ = some rr) : Ci MX5_loadsOn [.ref k, .int p1] (SHc ++ ext) σ (rr, σ) := by
  refine Ci.start rfl rfl (Nat.le_of_ble_eq_true rfl) ?_
  intro X ad C R
  replace C : Cx X cX5_loadsOn 4 RX5 (some .int) { frames := 1, cells := 0, slots := 0, locals := 21 } := C
  replace R : Ri X cX5_loadsOn (some .int) ad (SHc ++ ext) (rr, σ) := R
  show AW X 0 0 ad (SHc ++ ext) σ 0 [some (.ref k), some (.int p1), none, none] []
  rw [XX5_loadsOn] at h
  refine a_iconst C eX5_loadsOn_0 (0 : Int32) c_iconst_0 ?_
  refine a_ist_n C eX5_loadsOn_1 (Nat.le_of_ble_eq_true rfl) [some (.ref k), some (.int p1), some (.int (0 : Int32)), none] rfl ?_
  refine a_iconst C eX5_loadsOn_2 (0 : Int32) c_iconst_0 ?_
  refine a_ist_n C eX5_loadsOn_3 (Nat.le_of_ble_eq_true rfl) [some (.ref k), some (.int p1), some (.int (0 : Int32)), some (.int (0 : Int32))] rfl ?_
  exact a_less (lle_same (lle_same (lle_same (lle_same lle_nil)))) (lX5_loadsOn_4 hk C R  _ _ _ h)
/-! ShelfDrives$Run.fullestDay()I -/
def LX5_fullestDay_4 (k : Nat) (σ : Sg) : Nat → Int32 → Int32 → Option Int32
  | 0, _, _ => none
  | n + 1, x1_1, x2_2 => if (σ 2 0) ≤ x2_2 then (some x1_1) else (b1 (XX5_loadsOn k x2_2 σ) (fun (r_3 : Int32) => b1 (XX5_loadsOn k x1_1 σ) (fun (r_4 : Int32) => lt (fun (x1_5 : Int32) => lt (x2_2 + (1 : Int32)) (fun (x2_7 : Int32) => LX5_fullestDay_4 k σ n x1_5 x2_7)) (fun (k30_6 : Int32 → Option Int32) => if r_3 ≤ r_4 then (k30_6 x1_1) else (k30_6 x2_2)))))
def XX5_fullestDay (k : Nat) (σ : Sg) : Option Int32 := LX5_fullestDay_4 k σ FUEL (0 : Int32) (1 : Int32)
theorem lX5_fullestDay_4 {ext : List Shp} {X : CT} {ad : Nat → Nat} {rr : Int32} {k : Nat} {σ : Sg} (hk : is_X5 (SHc ++ ext) k) (C : Cx X cX5_fullestDay 3 RX5 (some .int) { frames := 2, cells := 0, slots := 0, locals := 44 }) (R : Ri X cX5_fullestDay (some .int) ad (SHc ++ ext) (rr, σ))  : ∀ (n : Nat) (x1_1 : Int32) (x2_2 : Int32), LX5_fullestDay_4 k σ n x1_1 x2_2 = some rr → AW X 0 0 ad (SHc ++ ext) σ 4 [some (.ref k), some (.int x1_1), some (.int x2_2)] [] := by
  intro n
  induction n with
  | zero =>
    intro x1_1 x2_2 h
    rw [LX5_fullestDay_4] at h
    cases h
  | succ n ih =>
    intro x1_1 x2_2 h
    rw [LX5_fullestDay_4] at h
    refine a_iload_n C eX5_fullestDay_4 rfl ?_
    refine a_aload_n C eX5_fullestDay_5 rfl ?_
    refine a_getR C eX5_fullestDay_6 fX5_33 hk.1 rfl ?_
    refine a_getI C eX5_fullestDay_9 fX5_84 sh_2 rfl ?_
    refine a_icmp_ge C eX5_fullestDay_12 (fun hc => ?_) (fun hc => ?_)
    · replace h := it hc h
      refine a_iload_n C eX5_fullestDay_36 rfl ?_
      exact rt_p R eX5_fullestDay_37 h nb_int
    · replace h := ie hc h
      refine a_aload_n C eX5_fullestDay_15 rfl ?_
      refine a_iload_n C eX5_fullestDay_16 rfl ?_
      obtain ⟨r_3, hq, h⟩ := b1_e h
      refine a_cVi1 C eX5_fullestDay_17 wX5_109 ⟨Nat.le_of_ble_eq_true rfl, Nat.le_of_ble_eq_true rfl, rfl, rfl⟩ rfl hk.1 rfl (kX5_loadsOn hk hq) (Nat.le_of_ble_eq_true rfl) ?_
      refine a_aload_n C eX5_fullestDay_20 rfl ?_
      refine a_iload_n C eX5_fullestDay_21 rfl ?_
      obtain ⟨r_4, hq, h⟩ := b1_e h
      refine a_cVi1 C eX5_fullestDay_22 wX5_109 ⟨Nat.le_of_ble_eq_true rfl, Nat.le_of_ble_eq_true rfl, rfl, rfl⟩ rfl hk.1 rfl (kX5_loadsOn hk hq) (Nat.le_of_ble_eq_true rfl) ?_
      refine jn (fun (kk : Int32 → Option Int32) => ∀ (x1_5 : Int32), kk x1_5 = some rr → AW X 0 0 ad (SHc ++ ext) σ 30 [some (.ref k), some (.int x1_5), some (.int x2_2)] []) h ?_ (fun k30_6 hk30_6 h => ?_)
      · intro x1_5 h
        refine a_inc C eX5_fullestDay_30 rfl c_iconst_1 h (fun z => [some (.ref k), some (.int x1_5), some (.int z)]) (fun _ => rfl) (fun x2_7 h => ?_)
        refine a_goto C eX5_fullestDay_33 ?_
        exact a_less (lle_same (lle_same (lle_same lle_nil))) (ih _ _ h)
      refine a_icmp_le C eX5_fullestDay_25 (fun hc => ?_) (fun hc => ?_)
      · replace h := it hc h
        exact a_less (lle_same (lle_same (lle_same lle_nil))) (hk30_6 _ h)
      · replace h := ie hc h
        refine a_iload_n C eX5_fullestDay_28 rfl ?_
        refine a_ist_n C eX5_fullestDay_29 (Nat.le_of_ble_eq_true rfl) [some (.ref k), some (.int x2_2), some (.int x2_2)] rfl ?_
        exact a_less (lle_same (lle_same (lle_same lle_nil))) (hk30_6 _ h)
theorem kX5_fullestDay {ext : List Shp} {k : Nat} {σ : Sg} {rr : Int32} (hk : is_X5 (SHc ++ ext) k) (h : XX5_fullestDay k σ = some rr) : Ci MX5_fullestDay [.ref k] (SHc ++ ext) σ (rr, σ) := by
  refine Ci.start rfl rfl (Nat.le_of_ble_eq_true rfl) ?_
  intro X ad C R
  replace C : Cx X cX5_fullestDay 3 RX5 (some .int) { frames := 2, cells := 0, slots := 0, locals := 44 } := C
  replace R : Ri X cX5_fullestDay (some .int) ad (SHc ++ ext) (rr, σ) := R
  show AW X 0 0 ad (SHc ++ ext) σ 0 [some (.ref k), none, none] []
  rw [XX5_fullestDay] at h
  refine a_iconst C eX5_fullestDay_0 (0 : Int32) c_iconst_0 ?_
  refine a_ist_n C eX5_fullestDay_1 (Nat.le_of_ble_eq_true rfl) [some (.ref k), some (.int (0 : Int32)), none] rfl ?_
  refine a_iconst C eX5_fullestDay_2 (1 : Int32) c_iconst_1 ?_
  refine a_ist_n C eX5_fullestDay_3 (Nat.le_of_ble_eq_true rfl) [some (.ref k), some (.int (0 : Int32)), some (.int (1 : Int32))] rfl ?_
  exact a_less (lle_same (lle_same (lle_same lle_nil))) (lX5_fullestDay_4 hk C R  _ _ _ h)
/-! ShelfDrives$Run.greatestLoad()I -/
def LX5_greatestLoad_4 (k : Nat) (σ : Sg) : Nat → Int32 → Int32 → Option Int32
  | 0, _, _ => none
  | n + 1, x1_1, x2_2 => if (84 : Int32) ≤ x2_2 then (some x1_1) else (if ib x2_2 84 then lt (if x1_1 < (σ (k + 3) x2_2.toNatClampNeg) then (σ (k + 3) x2_2.toNatClampNeg) else x1_1) (fun (x1_4 : Int32) => lt (x2_2 + (1 : Int32)) (fun (x2_5 : Int32) => LX5_greatestLoad_4 k σ n x1_4 x2_5)) else none)
def XX5_greatestLoad (k : Nat) (σ : Sg) : Option Int32 := LX5_greatestLoad_4 k σ FUEL (0 : Int32) (0 : Int32)
theorem lX5_greatestLoad_4 {ext : List Shp} {X : CT} {ad : Nat → Nat} {rr : Int32} {k : Nat} {σ : Sg} (hk : is_X5 (SHc ++ ext) k) (C : Cx X cX5_greatestLoad 3 RX5 (some .int) { frames := 1, cells := 0, slots := 0, locals := 21 }) (R : Ri X cX5_greatestLoad (some .int) ad (SHc ++ ext) (rr, σ))  : ∀ (n : Nat) (x1_1 : Int32) (x2_2 : Int32), LX5_greatestLoad_4 k σ n x1_1 x2_2 = some rr → AW X 0 0 ad (SHc ++ ext) σ 4 [some (.ref k), some (.int x1_1), some (.int x2_2)] [] := by
  intro n
  induction n with
  | zero =>
    intro x1_1 x2_2 h
    rw [LX5_greatestLoad_4] at h
    cases h
  | succ n ih =>
    intro x1_1 x2_2 h
    rw [LX5_greatestLoad_4] at h
    refine a_iload_n C eX5_greatestLoad_4 rfl ?_
    refine a_bipush C eX5_greatestLoad_5 (84 : Int32) c_bipush_84 ?_
    refine a_icmp_ge C eX5_greatestLoad_7 (fun hc => ?_) (fun hc => ?_)
    · replace h := it hc h
      refine a_iload_n C eX5_greatestLoad_27 rfl ?_
      exact rt_p R eX5_greatestLoad_28 h nb_int
    · replace h := ie hc h
      refine a_iload_n C eX5_greatestLoad_10 rfl ?_
      refine a_aload_n C eX5_greatestLoad_11 rfl ?_
      refine a_getR C eX5_greatestLoad_12 fX5_18 hk.1 rfl ?_
      refine a_iload_n C eX5_greatestLoad_15 rfl ?_
      obtain ⟨hb_3, h⟩ := gd h
      refine a_iald C eX5_greatestLoad_16 hk.2.2.2.1 hb_3 ?_
      refine a_max C eX5_greatestLoad_17 wX5_106 ⟨Nat.le_of_ble_eq_true rfl, Nat.le_of_ble_eq_true rfl⟩ rfl (Nat.le_of_ble_eq_true rfl) ?_
      refine a_lt h (fun x1_4 h => ?_)
      refine a_ist_n C eX5_greatestLoad_20 (Nat.le_of_ble_eq_true rfl) [some (.ref k), some (.int x1_4), some (.int x2_2)] rfl ?_
      refine a_inc C eX5_greatestLoad_21 rfl c_iconst_1 h (fun z => [some (.ref k), some (.int x1_4), some (.int z)]) (fun _ => rfl) (fun x2_5 h => ?_)
      refine a_goto C eX5_greatestLoad_24 ?_
      exact a_less (lle_same (lle_same (lle_same lle_nil))) (ih _ _ h)
theorem kX5_greatestLoad {ext : List Shp} {k : Nat} {σ : Sg} {rr : Int32} (hk : is_X5 (SHc ++ ext) k) (h : XX5_greatestLoad k σ = some rr) : Ci MX5_greatestLoad [.ref k] (SHc ++ ext) σ (rr, σ) := by
  refine Ci.start rfl rfl (Nat.le_of_ble_eq_true rfl) ?_
  intro X ad C R
  replace C : Cx X cX5_greatestLoad 3 RX5 (some .int) { frames := 1, cells := 0, slots := 0, locals := 21 } := C
  replace R : Ri X cX5_greatestLoad (some .int) ad (SHc ++ ext) (rr, σ) := R
  show AW X 0 0 ad (SHc ++ ext) σ 0 [some (.ref k), none, none] []
  rw [XX5_greatestLoad] at h
  refine a_iconst C eX5_greatestLoad_0 (0 : Int32) c_iconst_0 ?_
  refine a_ist_n C eX5_greatestLoad_1 (Nat.le_of_ble_eq_true rfl) [some (.ref k), some (.int (0 : Int32)), none] rfl ?_
  refine a_iconst C eX5_greatestLoad_2 (0 : Int32) c_iconst_0 ?_
  refine a_ist_n C eX5_greatestLoad_3 (Nat.le_of_ble_eq_true rfl) [some (.ref k), some (.int (0 : Int32)), some (.int (0 : Int32))] rfl ?_
  exact a_less (lle_same (lle_same (lle_same lle_nil))) (lX5_greatestLoad_4 hk C R  _ _ _ h)
/-! ShelfDrives$Run.roundsCostWith(I)I -/
def LX5_roundsCostWith_4 (k : Nat) (p1 : Int32) : Nat → Int32 → Int32 → Sg → Option (Int32 × Sg)
  | 0, _, _, _ => none
  | n + 1, x2_1, x3_2, σ_3 => if (σ_3 2 0) ≤ x3_2 then (some (x2_1, σ_3)) else (b1 (XX5_pickLoads k (k + 7) x3_2 σ_3) (fun (σ_4 : Sg) => b2 (XX2_priceOf (k + 7) p1 σ_4) (fun (r_5 : Int32) (σ_6 : Sg) => lt (x2_1 + r_5) (fun (x2_7 : Int32) => lt (x3_2 + (1 : Int32)) (fun (x3_8 : Int32) => LX5_roundsCostWith_4 k p1 n x2_7 x3_8 σ_6)))))
def XX5_roundsCostWith (k : Nat) (p1 : Int32) (σ : Sg) : Option (Int32 × Sg) := LX5_roundsCostWith_4 k p1 FUEL (0 : Int32) (0 : Int32) σ
theorem lX5_roundsCostWith_4 {ext : List Shp} {X : CT} {ad : Nat → Nat} {rr : (Int32 × Sg)} {k : Nat} {p1 : Int32} (hk : is_X5 (SHc ++ ext) k) (C : Cx X cX5_roundsCostWith 4 RX5 (some .int) { frames := 2, cells := 0, slots := 0, locals := 53 }) (R : Ri X cX5_roundsCostWith (some .int) ad (SHc ++ ext) rr)  : ∀ (n : Nat) (x2_1 : Int32) (x3_2 : Int32) (σ_3 : Sg), LX5_roundsCostWith_4 k p1 n x2_1 x3_2 σ_3 = some rr → AW X 0 0 ad (SHc ++ ext) σ_3 4 [some (.ref k), some (.int p1), some (.int x2_1), some (.int x3_2)] [] := by
  intro n
  induction n with
  | zero =>
    intro x2_1 x3_2 σ_3 h
    rw [LX5_roundsCostWith_4] at h
    cases h
  | succ n ih =>
    intro x2_1 x3_2 σ_3 h
    rw [LX5_roundsCostWith_4] at h
    refine a_iload_n C eX5_roundsCostWith_4 rfl ?_
    refine a_aload_n C eX5_roundsCostWith_5 rfl ?_
    refine a_getR C eX5_roundsCostWith_6 fX5_33 hk.1 rfl ?_
    refine a_getI C eX5_roundsCostWith_9 fX5_84 sh_2 rfl ?_
    refine a_icmp_ge C eX5_roundsCostWith_12 (fun hc => ?_) (fun hc => ?_)
    · replace h := it hc h
      refine a_iload_n C eX5_roundsCostWith_45 rfl ?_
      exact rt_i R eX5_roundsCostWith_46 h nb_int
    · replace h := ie hc h
      refine a_aload_n C eX5_roundsCostWith_15 rfl ?_
      refine a_iload_n C eX5_roundsCostWith_16 rfl ?_
      refine a_aload_n C eX5_roundsCostWith_17 rfl ?_
      refine a_getR C eX5_roundsCostWith_18 fX5_30 hk.1 rfl ?_
      obtain ⟨σ_4, hq, h⟩ := b1_e h
      refine a_cVv2 C eX5_roundsCostWith_21 wX5_112 ⟨Nat.le_of_ble_eq_true rfl, Nat.le_of_ble_eq_true rfl, rfl, rfl⟩ rfl hk.1 rfl (kX5_pickLoads hk hk.2.2.2.2.2.2.2 hq) (Nat.le_of_ble_eq_true rfl) ?_
      refine a_iload_n C eX5_roundsCostWith_24 rfl ?_
      refine a_aload_n C eX5_roundsCostWith_25 rfl ?_
      refine a_getR C eX5_roundsCostWith_26 fX5_37 hk.1 rfl ?_
      refine a_aload_n C eX5_roundsCostWith_29 rfl ?_
      refine a_getR C eX5_roundsCostWith_30 fX5_30 hk.1 rfl ?_
      refine a_iload_n C eX5_roundsCostWith_33 rfl ?_
      obtain ⟨r_5, σ_6, hq, h⟩ := b2_e h
      refine a_cVi2 C eX5_roundsCostWith_34 wX5_119 ⟨Nat.le_of_ble_eq_true rfl, Nat.le_of_ble_eq_true rfl, rfl, rfl⟩ rfl sh_29 rfl (kX2_priceOf hk.2.2.2.2.2.2.2 hq) (Nat.le_of_ble_eq_true rfl) ?_
      refine a_iadd C eX5_roundsCostWith_37 ?_
      refine a_lt h (fun x2_7 h => ?_)
      refine a_ist_n C eX5_roundsCostWith_38 (Nat.le_of_ble_eq_true rfl) [some (.ref k), some (.int p1), some (.int x2_7), some (.int x3_2)] rfl ?_
      refine a_inc C eX5_roundsCostWith_39 rfl c_iconst_1 h (fun z => [some (.ref k), some (.int p1), some (.int x2_7), some (.int z)]) (fun _ => rfl) (fun x3_8 h => ?_)
      refine a_goto C eX5_roundsCostWith_42 ?_
      exact a_less (lle_same (lle_same (lle_same (lle_same lle_nil)))) (ih _ _ _ h)
theorem kX5_roundsCostWith {ext : List Shp} {k : Nat} {p1 : Int32} {σ : Sg} {rr : (Int32 × Sg)} (hk : is_X5 (SHc ++ ext) k) (h : XX5_roundsCostWith k p1 σ = some rr) : Ci MX5_roundsCostWith [.ref k, .int p1] (SHc ++ ext) σ rr := by
  refine Ci.start rfl rfl (Nat.le_of_ble_eq_true rfl) ?_
  intro X ad C R
  replace C : Cx X cX5_roundsCostWith 4 RX5 (some .int) { frames := 2, cells := 0, slots := 0, locals := 53 } := C
  replace R : Ri X cX5_roundsCostWith (some .int) ad (SHc ++ ext) rr := R
  show AW X 0 0 ad (SHc ++ ext) σ 0 [some (.ref k), some (.int p1), none, none] []
  rw [XX5_roundsCostWith] at h
  refine a_iconst C eX5_roundsCostWith_0 (0 : Int32) c_iconst_0 ?_
  refine a_ist_n C eX5_roundsCostWith_1 (Nat.le_of_ble_eq_true rfl) [some (.ref k), some (.int p1), some (.int (0 : Int32)), none] rfl ?_
  refine a_iconst C eX5_roundsCostWith_2 (0 : Int32) c_iconst_0 ?_
  refine a_ist_n C eX5_roundsCostWith_3 (Nat.le_of_ble_eq_true rfl) [some (.ref k), some (.int p1), some (.int (0 : Int32)), some (.int (0 : Int32))] rfl ?_
  exact a_less (lle_same (lle_same (lle_same (lle_same lle_nil)))) (lX5_roundsCostWith_4 hk C R  _ _ _ _ h)
/-! ShelfDrives$Run.stockCost()I -/
def XX5_stockCost (k : Nat) (σ : Sg) : Option Int32 := some ((σ 2 4) * (σ k 6))
theorem kX5_stockCost {ext : List Shp} {k : Nat} {σ : Sg} {rr : Int32} (hk : is_X5 (SHc ++ ext) k) (h : XX5_stockCost k σ = some rr) : Ci MX5_stockCost [.ref k] (SHc ++ ext) σ (rr, σ) := by
  refine Ci.start rfl rfl (Nat.le_of_ble_eq_true rfl) ?_
  intro X ad C R
  replace C : Cx X cX5_stockCost 1 RX5 (some .int) { frames := 0, cells := 0, slots := 0, locals := 0 } := C
  replace R : Ri X cX5_stockCost (some .int) ad (SHc ++ ext) (rr, σ) := R
  show AW X 0 0 ad (SHc ++ ext) σ 0 [some (.ref k)] []
  rw [XX5_stockCost] at h
  refine a_aload_n C eX5_stockCost_0 rfl ?_
  refine a_getR C eX5_stockCost_1 fX5_33 hk.1 rfl ?_
  refine a_getI C eX5_stockCost_4 fX5_125 sh_2 rfl ?_
  refine a_aload_n C eX5_stockCost_7 rfl ?_
  refine a_getI C eX5_stockCost_8 fX5_51 hk.1 rfl ?_
  refine a_imul C eX5_stockCost_11 ?_
  exact rt_p R eX5_stockCost_12 h nb_int
/-! ShelfDrives$Run.lostCost()I -/
def XX5_lostCost (k : Nat) (σ : Sg) : Option Int32 := some ((σ 2 5) * (σ k 5))
theorem kX5_lostCost {ext : List Shp} {k : Nat} {σ : Sg} {rr : Int32} (hk : is_X5 (SHc ++ ext) k) (h : XX5_lostCost k σ = some rr) : Ci MX5_lostCost [.ref k] (SHc ++ ext) σ (rr, σ) := by
  refine Ci.start rfl rfl (Nat.le_of_ble_eq_true rfl) ?_
  intro X ad C R
  replace C : Cx X cX5_lostCost 1 RX5 (some .int) { frames := 0, cells := 0, slots := 0, locals := 0 } := C
  replace R : Ri X cX5_lostCost (some .int) ad (SHc ++ ext) (rr, σ) := R
  show AW X 0 0 ad (SHc ++ ext) σ 0 [some (.ref k)] []
  rw [XX5_lostCost] at h
  refine a_aload_n C eX5_lostCost_0 rfl ?_
  refine a_getR C eX5_lostCost_1 fX5_33 hk.1 rfl ?_
  refine a_getI C eX5_lostCost_4 fX5_128 sh_2 rfl ?_
  refine a_aload_n C eX5_lostCost_7 rfl ?_
  refine a_getI C eX5_lostCost_8 fX5_47 hk.1 rfl ?_
  refine a_imul C eX5_lostCost_11 ?_
  exact rt_p R eX5_lostCost_12 h nb_int
