/-! ShelfDrivesModel.layPart(II)V -/
def LX10_layPart_30 (p1 : Int32) (p2 : Int32) (x3_6 : Int32) : Nat → Int32 → Sg → Option Sg
  | 0, _, _ => none
  | n + 1, x4_7, σ_8 => if p1 < x4_7 then (some σ_8) else (lt (p1 &&& (x4_7 ^^^ (-1 : Int32))) (fun (x5_9 : Int32) => lt (fun (σ_10 : Sg) => lt (x4_7 + (1 : Int32)) (fun (x4_12 : Int32) => LX10_layPart_30 p1 p2 x3_6 n x4_12 σ_10)) (fun (k191_11 : Sg → Option Sg) => if (x4_7 &&& (p1 ^^^ (-1 : Int32))) = 0 then (if (x4_7 &&& x3_6) = 0 then (k191_11 σ_8) else (b1 (XX10_loadsOf x4_7 σ_8) (fun (r_13 : Int32) => if p2 < r_13 then (k191_11 σ_8) else (if ib x5_9 64 then if 0 ≤ (σ_8 83 x5_9.toNatClampNeg) then (b1 (XX10_costOfSet x4_7 σ_8) (fun (r_15 : Int32) => lt (r_15 + (σ_8 83 x5_9.toNatClampNeg)) (fun (x6_16 : Int32) => if ib p1 64 then lt (fun (s_18 : Int32) => if s_18 = 0 then (k191_11 σ_8) else (lt (up σ_8 83 p1.toNatClampNeg x6_16) (fun (σ_20 : Sg) => lt (up σ_20 84 p1.toNatClampNeg ((σ_20 84 x5_9.toNatClampNeg) + (1 : Int32))) (fun (σ_21 : Sg) => lt (up σ_21 85 p1.toNatClampNeg x4_7) (fun (σ_22 : Sg) => k191_11 σ_22))))) (fun (k153_19 : Int32 → Option Sg) => lt (k153_19 (1 : Int32)) (fun (k148_23 : Option Sg) => if (σ_8 83 p1.toNatClampNeg) < 0 then (k148_23) else (if x6_16 < (σ_8 83 p1.toNatClampNeg) then (k148_23) else (lt (k153_19 (0 : Int32)) (fun (k152_24 : Option Sg) => if x6_16 = (σ_8 83 p1.toNatClampNeg) then (if (σ_8 84 p1.toNatClampNeg) ≤ ((σ_8 84 x5_9.toNatClampNeg) + (1 : Int32)) then (k152_24) else (k148_23)) else (k152_24)))))) else none))) else (k191_11 σ_8) else none)))) else (k191_11 σ_8))))
def XX10_layPart (p1 : Int32) (p2 : Int32) (σ : Sg) : Option Sg := lt (fun (s_1 : Int32) => if ib p1 64 then lt (up σ 83 p1.toNatClampNeg s_1) (fun (σ_3 : Sg) => lt (up σ_3 84 p1.toNatClampNeg (0 : Int32)) (fun (σ_5 : Sg) => lt (p1 &&& (-p1)) (fun (x3_6 : Int32) => LX10_layPart_30 p1 p2 x3_6 FUEL (1 : Int32) σ_5))) else none) (fun (k14_2 : Int32 → Option Sg) => if p1 = 0 then (k14_2 (0 : Int32)) else (k14_2 (-1 : Int32)))
theorem lX10_layPart_30 {X : CT} {ad : Nat → Nat} {rr : Sg} {p1 : Int32} {p2 : Int32} {x3_6 : Int32}  (C : Cx X cX10_layPart 8 RX10 none { frames := 2, cells := 0, slots := 0, locals := 44 }) (R : Rv X cX10_layPart ad (SHc ++ SHm) rr)  : ∀ (n : Nat) (x4_7 : Int32) (σ_8 : Sg), LX10_layPart_30 p1 p2 x3_6 n x4_7 σ_8 = some rr → AW X 0 0 ad (SHc ++ SHm) σ_8 30 [some (.ref 64), some (.int p1), some (.int p2), some (.int x3_6), some (.int x4_7), none, none, none] [] := by
  intro n
  induction n with
  | zero =>
    intro x4_7 σ_8 h
    rw [LX10_layPart_30] at h
    cases h
  | succ n ih =>
    intro x4_7 σ_8 h
    rw [LX10_layPart_30] at h
    refine a_iload C eX10_layPart_30 rfl ?_
    refine a_iload_n C eX10_layPart_32 rfl ?_
    refine a_icmp_gt C eX10_layPart_33 (fun hc => ?_) (fun hc => ?_)
    · replace h := it hc h
      exact rt_v R eX10_layPart_197 h
    · replace h := ie hc h
      refine a_iload_n C eX10_layPart_36 rfl ?_
      refine a_iload C eX10_layPart_37 rfl ?_
      refine a_iconst C eX10_layPart_39 (-1 : Int32) c_iconst_m1 ?_
      refine a_ixor C eX10_layPart_40 ?_
      refine a_iand C eX10_layPart_41 ?_
      refine a_lt h (fun x5_9 h => ?_)
      refine a_ist C eX10_layPart_42 (Nat.le_of_ble_eq_true rfl) [some (.ref 64), some (.int p1), some (.int p2), some (.int x3_6), some (.int x4_7), some (.int x5_9), none, none] rfl ?_
      refine a_iload C eX10_layPart_44 rfl ?_
      refine a_iload_n C eX10_layPart_46 rfl ?_
      refine a_iconst C eX10_layPart_47 (-1 : Int32) c_iconst_m1 ?_
      refine a_ixor C eX10_layPart_48 ?_
      refine a_iand C eX10_layPart_49 ?_
      refine jn (fun (kk : Sg → Option Sg) => ∀ (σ_10 : Sg), kk σ_10 = some rr → AW X 0 0 ad (SHc ++ SHm) σ_10 191 [some (.ref 64), some (.int p1), some (.int p2), some (.int x3_6), some (.int x4_7), none, none, none] []) h ?_ (fun k191_11 hk191_11 h => ?_)
      · intro σ_10 h
        refine a_inc C eX10_layPart_191 rfl c_iconst_1 h (fun z => [some (.ref 64), some (.int p1), some (.int p2), some (.int x3_6), some (.int z), none, none, none]) (fun _ => rfl) (fun x4_12 h => ?_)
        refine a_goto C eX10_layPart_194 ?_
        exact a_less (lle_same (lle_same (lle_same (lle_same (lle_same (lle_same (lle_same (lle_same lle_nil)))))))) (ih _ _ h)
      refine a_if_ne C eX10_layPart_50 (fun hc => ?_) (fun hc => ?_)
      · replace h := ie hc h
        exact a_less (lle_same (lle_same (lle_same (lle_same (lle_same (lle_drop (lle_same (lle_same lle_nil)))))))) (hk191_11 _ h)
      · replace h := it hc h
        refine a_iload C eX10_layPart_53 rfl ?_
        refine a_iload_n C eX10_layPart_55 rfl ?_
        refine a_iand C eX10_layPart_56 ?_
        refine a_if_eq C eX10_layPart_57 (fun hc => ?_) (fun hc => ?_)
        · replace h := it hc h
          exact a_less (lle_same (lle_same (lle_same (lle_same (lle_same (lle_drop (lle_same (lle_same lle_nil)))))))) (hk191_11 _ h)
        · replace h := ie hc h
          refine a_aload_n C eX10_layPart_60 rfl ?_
          refine a_iload C eX10_layPart_61 rfl ?_
          obtain ⟨r_13, hq, h⟩ := b1_e h
          refine a_cVi1 C eX10_layPart_63 wX10_275 ⟨Nat.le_of_ble_eq_true rfl, Nat.le_of_ble_eq_true rfl, rfl, rfl⟩ rfl sh_64 rfl (kX10_loadsOf hq) (Nat.le_of_ble_eq_true rfl) ?_
          refine a_iload_n C eX10_layPart_66 rfl ?_
          refine a_icmp_gt C eX10_layPart_67 (fun hc => ?_) (fun hc => ?_)
          · replace h := it hc h
            exact a_less (lle_same (lle_same (lle_same (lle_same (lle_same (lle_drop (lle_same (lle_same lle_nil)))))))) (hk191_11 _ h)
          · replace h := ie hc h
            refine a_aload_n C eX10_layPart_70 rfl ?_
            refine a_getR C eX10_layPart_71 fX10_68 sh_64 rfl ?_
            refine a_iload C eX10_layPart_74 rfl ?_
            obtain ⟨hb_14, h⟩ := gd h
            refine a_iald C eX10_layPart_76 sh_83 hb_14 ?_
            refine a_if_ge C eX10_layPart_77 (fun hc => ?_) (fun hc => ?_)
            · replace h := it hc h
              refine a_aload_n C eX10_layPart_83 rfl ?_
              refine a_iload C eX10_layPart_84 rfl ?_
              obtain ⟨r_15, hq, h⟩ := b1_e h
              refine a_cVi1 C eX10_layPart_86 wX10_237 ⟨Nat.le_of_ble_eq_true rfl, Nat.le_of_ble_eq_true rfl, rfl, rfl⟩ rfl sh_64 rfl (kX10_costOfSet hq) (Nat.le_of_ble_eq_true rfl) ?_
              refine a_aload_n C eX10_layPart_89 rfl ?_
              refine a_getR C eX10_layPart_90 fX10_68 sh_64 rfl ?_
              refine a_iload C eX10_layPart_93 rfl ?_
              refine a_iald C eX10_layPart_95 sh_83 hb_14 ?_
              refine a_iadd C eX10_layPart_96 ?_
              refine a_lt h (fun x6_16 h => ?_)
              refine a_ist C eX10_layPart_97 (Nat.le_of_ble_eq_true rfl) [some (.ref 64), some (.int p1), some (.int p2), some (.int x3_6), some (.int x4_7), some (.int x5_9), some (.int x6_16), none] rfl ?_
              refine a_aload_n C eX10_layPart_99 rfl ?_
              refine a_getR C eX10_layPart_100 fX10_68 sh_64 rfl ?_
              refine a_iload_n C eX10_layPart_103 rfl ?_
              obtain ⟨hb_17, h⟩ := gd h
              refine a_iald C eX10_layPart_104 sh_83 hb_17 ?_
              refine jn (fun (kk : Int32 → Option Sg) => ∀ (s_18 : Int32), kk s_18 = some rr → AW X 0 0 ad (SHc ++ SHm) σ_8 153 [some (.ref 64), some (.int p1), some (.int p2), some (.int x3_6), some (.int x4_7), some (.int x5_9), some (.int x6_16), none] [.int s_18]) h ?_ (fun k153_19 hk153_19 h => ?_)
              · intro s_18 h
                refine a_ist C eX10_layPart_153 (Nat.le_of_ble_eq_true rfl) [some (.ref 64), some (.int p1), some (.int p2), some (.int x3_6), some (.int x4_7), some (.int x5_9), some (.int x6_16), some (.int s_18)] rfl ?_
                refine a_iload C eX10_layPart_155 rfl ?_
                refine a_if_eq C eX10_layPart_157 (fun hc => ?_) (fun hc => ?_)
                · replace h := it hc h
                  exact a_less (lle_same (lle_same (lle_same (lle_same (lle_same (lle_drop (lle_drop (lle_drop lle_nil)))))))) (hk191_11 _ h)
                · replace h := ie hc h
                  refine a_aload_n C eX10_layPart_160 rfl ?_
                  refine a_getR C eX10_layPart_161 fX10_68 sh_64 rfl ?_
                  refine a_iload_n C eX10_layPart_164 rfl ?_
                  refine a_iload C eX10_layPart_165 rfl ?_
                  refine a_iastL C eX10_layPart_167 sh_83 hb_17 h (fun σ_20 h => ?_)
                  refine a_aload_n C eX10_layPart_168 rfl ?_
                  refine a_getR C eX10_layPart_169 fX10_71 sh_64 rfl ?_
                  refine a_iload_n C eX10_layPart_172 rfl ?_
                  refine a_aload_n C eX10_layPart_173 rfl ?_
                  refine a_getR C eX10_layPart_174 fX10_71 sh_64 rfl ?_
                  refine a_iload C eX10_layPart_177 rfl ?_
                  refine a_iald C eX10_layPart_179 sh_84 hb_14 ?_
                  refine a_iconst C eX10_layPart_180 (1 : Int32) c_iconst_1 ?_
                  refine a_iadd C eX10_layPart_181 ?_
                  refine a_iastL C eX10_layPart_182 sh_84 hb_17 h (fun σ_21 h => ?_)
                  refine a_aload_n C eX10_layPart_183 rfl ?_
                  refine a_getR C eX10_layPart_184 fX10_74 sh_64 rfl ?_
                  refine a_iload_n C eX10_layPart_187 rfl ?_
                  refine a_iload C eX10_layPart_188 rfl ?_
                  refine a_iastL C eX10_layPart_190 sh_85 hb_17 h (fun σ_22 h => ?_)
                  exact a_less (lle_same (lle_same (lle_same (lle_same (lle_same (lle_drop (lle_drop (lle_drop lle_nil)))))))) (hk191_11 _ h)
              refine jn (fun (kk : Option Sg) => kk = some rr → AW X 0 0 ad (SHc ++ SHm) σ_8 148 [some (.ref 64), some (.int p1), some (.int p2), some (.int x3_6), some (.int x4_7), some (.int x5_9), some (.int x6_16), none] []) h ?_ (fun k148_23 hk148_23 h => ?_)
              · intro h
                refine a_iconst C eX10_layPart_148 (1 : Int32) c_iconst_1 ?_
                refine a_goto C eX10_layPart_149 ?_
                exact a_less (lle_same (lle_same (lle_same (lle_same (lle_same (lle_same (lle_same (lle_same lle_nil)))))))) (hk153_19 _ h)
              refine a_if_lt C eX10_layPart_105 (fun hc => ?_) (fun hc => ?_)
              · replace h := it hc h
                exact a_less (lle_same (lle_same (lle_same (lle_same (lle_same (lle_same (lle_same (lle_same lle_nil)))))))) (hk148_23 h)
              · replace h := ie hc h
                refine a_iload C eX10_layPart_108 rfl ?_
                refine a_aload_n C eX10_layPart_110 rfl ?_
                refine a_getR C eX10_layPart_111 fX10_68 sh_64 rfl ?_
                refine a_iload_n C eX10_layPart_114 rfl ?_
                refine a_iald C eX10_layPart_115 sh_83 hb_17 ?_
                refine a_icmp_lt C eX10_layPart_116 (fun hc => ?_) (fun hc => ?_)
                · replace h := it hc h
                  exact a_less (lle_same (lle_same (lle_same (lle_same (lle_same (lle_same (lle_same (lle_same lle_nil)))))))) (hk148_23 h)
                · replace h := ie hc h
                  refine a_iload C eX10_layPart_119 rfl ?_
                  refine a_aload_n C eX10_layPart_121 rfl ?_
                  refine a_getR C eX10_layPart_122 fX10_68 sh_64 rfl ?_
                  refine a_iload_n C eX10_layPart_125 rfl ?_
                  refine a_iald C eX10_layPart_126 sh_83 hb_17 ?_
                  refine jn (fun (kk : Option Sg) => kk = some rr → AW X 0 0 ad (SHc ++ SHm) σ_8 152 [some (.ref 64), some (.int p1), some (.int p2), some (.int x3_6), some (.int x4_7), some (.int x5_9), some (.int x6_16), none] []) h ?_ (fun k152_24 hk152_24 h => ?_)
                  · intro h
                    refine a_iconst C eX10_layPart_152 (0 : Int32) c_iconst_0 ?_
                    exact a_less (lle_same (lle_same (lle_same (lle_same (lle_same (lle_same (lle_same (lle_same lle_nil)))))))) (hk153_19 _ h)
                  refine a_icmp_ne C eX10_layPart_127 (fun hc => ?_) (fun hc => ?_)
                  · replace h := ie hc h
                    exact a_less (lle_same (lle_same (lle_same (lle_same (lle_same (lle_same (lle_same (lle_same lle_nil)))))))) (hk152_24 h)
                  · replace h := it hc h
                    refine a_aload_n C eX10_layPart_130 rfl ?_
                    refine a_getR C eX10_layPart_131 fX10_71 sh_64 rfl ?_
                    refine a_iload C eX10_layPart_134 rfl ?_
                    refine a_iald C eX10_layPart_136 sh_84 hb_14 ?_
                    refine a_iconst C eX10_layPart_137 (1 : Int32) c_iconst_1 ?_
                    refine a_iadd C eX10_layPart_138 ?_
                    refine a_aload_n C eX10_layPart_139 rfl ?_
                    refine a_getR C eX10_layPart_140 fX10_71 sh_64 rfl ?_
                    refine a_iload_n C eX10_layPart_143 rfl ?_
                    refine a_iald C eX10_layPart_144 sh_84 hb_17 ?_
                    refine a_icmp_ge C eX10_layPart_145 (fun hc => ?_) (fun hc => ?_)
                    · replace h := it hc h
                      exact a_less (lle_same (lle_same (lle_same (lle_same (lle_same (lle_same (lle_same (lle_same lle_nil)))))))) (hk152_24 h)
                    · replace h := ie hc h
                      exact a_less (lle_same (lle_same (lle_same (lle_same (lle_same (lle_same (lle_same (lle_same lle_nil)))))))) (hk148_23 h)
            · replace h := ie hc h
              refine a_goto C eX10_layPart_80 ?_
              exact a_less (lle_same (lle_same (lle_same (lle_same (lle_same (lle_drop (lle_same (lle_same lle_nil)))))))) (hk191_11 _ h)
theorem kX10_layPart {p1 : Int32} {p2 : Int32} {σ : Sg} {rr : Sg}  (h : XX10_layPart p1 p2 σ = some rr) : Cv MX10_layPart [.ref 64, .int p1, .int p2] (SHc ++ SHm) σ rr := by
  refine Cv.start rfl rfl (Nat.le_of_ble_eq_true rfl) rfl ?_
  intro X ad C R
  replace C : Cx X cX10_layPart 8 RX10 none { frames := 2, cells := 0, slots := 0, locals := 44 } := C
  replace R : Rv X cX10_layPart ad (SHc ++ SHm) rr := R
  show AW X 0 0 ad (SHc ++ SHm) σ 0 [some (.ref 64), some (.int p1), some (.int p2), none, none, none, none, none] []
  rw [XX10_layPart] at h
  refine a_aload_n C eX10_layPart_0 rfl ?_
  refine a_getR C eX10_layPart_1 fX10_68 sh_64 rfl ?_
  refine a_iload_n C eX10_layPart_4 rfl ?_
  refine a_iload_n C eX10_layPart_5 rfl ?_
  refine jn (fun (kk : Int32 → Option Sg) => ∀ (s_1 : Int32), kk s_1 = some rr → AW X 0 0 ad (SHc ++ SHm) σ 14 [some (.ref 64), some (.int p1), some (.int p2), none, none, none, none, none] [.int s_1, .int p1, .ref 83]) h ?_ (fun k14_2 hk14_2 h => ?_)
  · intro s_1 h
    obtain ⟨hb_4, h⟩ := gd h
    refine a_iastL C eX10_layPart_14 sh_83 hb_4 h (fun σ_3 h => ?_)
    refine a_aload_n C eX10_layPart_15 rfl ?_
    refine a_getR C eX10_layPart_16 fX10_71 sh_64 rfl ?_
    refine a_iload_n C eX10_layPart_19 rfl ?_
    refine a_iconst C eX10_layPart_20 (0 : Int32) c_iconst_0 ?_
    refine a_iastL C eX10_layPart_21 sh_84 hb_4 h (fun σ_5 h => ?_)
    refine a_iload_n C eX10_layPart_22 rfl ?_
    refine a_iload_n C eX10_layPart_23 rfl ?_
    refine a_ineg C eX10_layPart_24 ?_
    refine a_iand C eX10_layPart_25 ?_
    refine a_lt h (fun x3_6 h => ?_)
    refine a_ist_n C eX10_layPart_26 (Nat.le_of_ble_eq_true rfl) [some (.ref 64), some (.int p1), some (.int p2), some (.int x3_6), none, none, none, none] rfl ?_
    refine a_iconst C eX10_layPart_27 (1 : Int32) c_iconst_1 ?_
    refine a_ist C eX10_layPart_28 (Nat.le_of_ble_eq_true rfl) [some (.ref 64), some (.int p1), some (.int p2), some (.int x3_6), some (.int (1 : Int32)), none, none, none] rfl ?_
    exact a_less (lle_same (lle_same (lle_same (lle_same (lle_same (lle_same (lle_same (lle_same lle_nil)))))))) (lX10_layPart_30  C R  _ _ _ h)
  refine a_if_ne C eX10_layPart_6 (fun hc => ?_) (fun hc => ?_)
  · replace h := ie hc h
    refine a_iconst C eX10_layPart_13 (-1 : Int32) c_iconst_m1 ?_
    exact a_less (lle_same (lle_same (lle_same (lle_same (lle_same (lle_same (lle_same (lle_same lle_nil)))))))) (hk14_2 _ h)
  · replace h := it hc h
    refine a_iconst C eX10_layPart_9 (0 : Int32) c_iconst_0 ?_
    refine a_goto C eX10_layPart_10 ?_
    exact a_less (lle_same (lle_same (lle_same (lle_same (lle_same (lle_same (lle_same (lle_same lle_nil)))))))) (hk14_2 _ h)
/-! ShelfDrivesModel.layParts(II)I -/
def LX10_layParts_2 (p1 : Int32) (p2 : Int32) (k27_2 : Sg → Option (Int32 × Sg)) : Nat → Int32 → Sg → Option (Int32 × Sg)
  | 0, _, _ => none
  | n + 1, x3_4, σ_5 => if p1 < x3_4 then (k27_2 σ_5) else (lt (fun (σ_6 : Sg) => lt (x3_4 + (1 : Int32)) (fun (x3_8 : Int32) => LX10_layParts_2 p1 p2 k27_2 n x3_8 σ_6)) (fun (k21_7 : Sg → Option (Int32 × Sg)) => if (x3_4 &&& (p1 ^^^ (-1 : Int32))) = 0 then (b1 (XX10_layPart x3_4 p2 σ_5) (fun (σ_9 : Sg) => k21_7 σ_9)) else (k21_7 σ_5)))
def XX10_layParts (p1 : Int32) (p2 : Int32) (σ : Sg) : Option (Int32 × Sg) := lt (fun (σ_1 : Sg) => if ib p1 64 then some (σ_1 83 p1.toNatClampNeg, σ_1) else none) (fun (k27_2 : Sg → Option (Int32 × Sg)) => LX10_layParts_2 p1 p2 k27_2 FUEL (0 : Int32) σ)
theorem lX10_layParts_2 {X : CT} {ad : Nat → Nat} {rr : (Int32 × Sg)} {p1 : Int32} {p2 : Int32} {k27_2 : Sg → Option (Int32 × Sg)}  (C : Cx X cX10_layParts 4 RX10 (some .int) { frames := 3, cells := 0, slots := 0, locals := 71 }) (R : Ri X cX10_layParts (some .int) ad (SHc ++ SHm) rr) (hk27_2 : ∀ (σ_1 : Sg), k27_2 σ_1 = some rr → AW X 0 0 ad (SHc ++ SHm) σ_1 27 [some (.ref 64), some (.int p1), none, none] []) : ∀ (n : Nat) (x3_4 : Int32) (σ_5 : Sg), LX10_layParts_2 p1 p2 k27_2 n x3_4 σ_5 = some rr → AW X 0 0 ad (SHc ++ SHm) σ_5 2 [some (.ref 64), some (.int p1), some (.int p2), some (.int x3_4)] [] := by
  intro n
  induction n with
  | zero =>
    intro x3_4 σ_5 h
    rw [LX10_layParts_2] at h
    cases h
  | succ n ih =>
    intro x3_4 σ_5 h
    rw [LX10_layParts_2] at h
    refine a_iload_n C eX10_layParts_2 rfl ?_
    refine a_iload_n C eX10_layParts_3 rfl ?_
    refine a_icmp_gt C eX10_layParts_4 (fun hc => ?_) (fun hc => ?_)
    · replace h := it hc h
      exact a_less (lle_same (lle_same (lle_drop (lle_drop lle_nil)))) (hk27_2 _ h)
    · replace h := ie hc h
      refine a_iload_n C eX10_layParts_7 rfl ?_
      refine a_iload_n C eX10_layParts_8 rfl ?_
      refine a_iconst C eX10_layParts_9 (-1 : Int32) c_iconst_m1 ?_
      refine a_ixor C eX10_layParts_10 ?_
      refine a_iand C eX10_layParts_11 ?_
      refine jn (fun (kk : Sg → Option (Int32 × Sg)) => ∀ (σ_6 : Sg), kk σ_6 = some rr → AW X 0 0 ad (SHc ++ SHm) σ_6 21 [some (.ref 64), some (.int p1), some (.int p2), some (.int x3_4)] []) h ?_ (fun k21_7 hk21_7 h => ?_)
      · intro σ_6 h
        refine a_inc C eX10_layParts_21 rfl c_iconst_1 h (fun z => [some (.ref 64), some (.int p1), some (.int p2), some (.int z)]) (fun _ => rfl) (fun x3_8 h => ?_)
        refine a_goto C eX10_layParts_24 ?_
        exact a_less (lle_same (lle_same (lle_same (lle_same lle_nil)))) (ih _ _ h)
      refine a_if_ne C eX10_layParts_12 (fun hc => ?_) (fun hc => ?_)
      · replace h := ie hc h
        exact a_less (lle_same (lle_same (lle_same (lle_same lle_nil)))) (hk21_7 _ h)
      · replace h := it hc h
        refine a_aload_n C eX10_layParts_15 rfl ?_
        refine a_iload_n C eX10_layParts_16 rfl ?_
        refine a_iload_n C eX10_layParts_17 rfl ?_
        obtain ⟨σ_9, hq, h⟩ := b1_e h
        refine a_cVv2 C eX10_layParts_18 wX10_278 ⟨Nat.le_of_ble_eq_true rfl, Nat.le_of_ble_eq_true rfl, rfl, rfl⟩ rfl sh_64 rfl (kX10_layPart hq) (Nat.le_of_ble_eq_true rfl) ?_
        exact a_less (lle_same (lle_same (lle_same (lle_same lle_nil)))) (hk21_7 _ h)
theorem kX10_layParts {p1 : Int32} {p2 : Int32} {σ : Sg} {rr : (Int32 × Sg)}  (h : XX10_layParts p1 p2 σ = some rr) : Ci MX10_layParts [.ref 64, .int p1, .int p2] (SHc ++ SHm) σ rr := by
  refine Ci.start rfl rfl (Nat.le_of_ble_eq_true rfl) ?_
  intro X ad C R
  replace C : Cx X cX10_layParts 4 RX10 (some .int) { frames := 3, cells := 0, slots := 0, locals := 71 } := C
  replace R : Ri X cX10_layParts (some .int) ad (SHc ++ SHm) rr := R
  show AW X 0 0 ad (SHc ++ SHm) σ 0 [some (.ref 64), some (.int p1), some (.int p2), none] []
  rw [XX10_layParts] at h
  refine a_iconst C eX10_layParts_0 (0 : Int32) c_iconst_0 ?_
  refine a_ist_n C eX10_layParts_1 (Nat.le_of_ble_eq_true rfl) [some (.ref 64), some (.int p1), some (.int p2), some (.int (0 : Int32))] rfl ?_
  refine jn (fun (kk : Sg → Option (Int32 × Sg)) => ∀ (σ_1 : Sg), kk σ_1 = some rr → AW X 0 0 ad (SHc ++ SHm) σ_1 27 [some (.ref 64), some (.int p1), none, none] []) h ?_ (fun k27_2 hk27_2 h => ?_)
  · intro σ_1 h
    refine a_aload_n C eX10_layParts_27 rfl ?_
    refine a_getR C eX10_layParts_28 fX10_68 sh_64 rfl ?_
    refine a_iload_n C eX10_layParts_31 rfl ?_
    obtain ⟨hb_3, h⟩ := gd h
    refine a_iald C eX10_layParts_32 sh_83 hb_3 ?_
    exact rt_i R eX10_layParts_33 h nb_int
  exact a_less (lle_same (lle_same (lle_same (lle_same lle_nil)))) (lX10_layParts_2  C R hk27_2 _ _ _ h)
/-! ShelfDrivesModel.roundsCost(II)I -/
def XX10_roundsCost (p1 : Int32) (p2 : Int32) (σ : Sg) : Option (Int32 × Sg) := b2 (XX10_layLoads p1 σ) (fun (r_1 : Int32) (σ_2 : Sg) => b2 (XX10_layParts r_1 p2 σ_2) (fun (r_3 : Int32) (σ_4 : Sg) => some (r_3, σ_4)))
theorem kX10_roundsCost {p1 : Int32} {p2 : Int32} {σ : Sg} {rr : (Int32 × Sg)}  (h : XX10_roundsCost p1 p2 σ = some rr) : Ci MX10_roundsCost [.ref 64, .int p1, .int p2] (SHc ++ SHm) σ rr := by
  refine Ci.start rfl rfl (Nat.le_of_ble_eq_true rfl) ?_
  intro X ad C R
  replace C : Cx X cX10_roundsCost 3 RX10 (some .int) { frames := 4, cells := 0, slots := 0, locals := 94 } := C
  replace R : Ri X cX10_roundsCost (some .int) ad (SHc ++ SHm) rr := R
  show AW X 0 0 ad (SHc ++ SHm) σ 0 [some (.ref 64), some (.int p1), some (.int p2)] []
  rw [XX10_roundsCost] at h
  refine a_aload_n C eX10_roundsCost_0 rfl ?_
  refine a_aload_n C eX10_roundsCost_1 rfl ?_
  refine a_iload_n C eX10_roundsCost_2 rfl ?_
  obtain ⟨r_1, σ_2, hq, h⟩ := b2_e h
  refine a_cVi1 C eX10_roundsCost_3 wX10_281 ⟨Nat.le_of_ble_eq_true rfl, Nat.le_of_ble_eq_true rfl, rfl, rfl⟩ rfl sh_64 rfl (kX10_layLoads hq) (Nat.le_of_ble_eq_true rfl) ?_
  refine a_iload_n C eX10_roundsCost_6 rfl ?_
  obtain ⟨r_3, σ_4, hq, h⟩ := b2_e h
  refine a_cVi2 C eX10_roundsCost_7 wX10_284 ⟨Nat.le_of_ble_eq_true rfl, Nat.le_of_ble_eq_true rfl, rfl, rfl⟩ rfl sh_64 rfl (kX10_layParts hq) (Nat.le_of_ble_eq_true rfl) ?_
  exact rt_i R eX10_roundsCost_10 h nb_int
/-! ShelfDrivesModel.rounds(I)I -/
def XX10_rounds (p1 : Int32) (σ : Sg) : Option (Int32 × Sg) := lt (up σ 64 0 (0 : Int32)) (fun (σ_1 : Sg) => b1 (XX10_isDay p1 σ_1) (fun (r_2 : Int32) => if r_2 = 0 then (some ((-1 : Int32), σ_1)) else (b1 (XX10_layRun σ_1) (fun (σ_3 : Sg) => b2 (XX10_layLoads p1 σ_3) (fun (r_4 : Int32) (σ_5 : Sg) => b1 (XX10_number (3 : Int32) σ_5) (fun (r_6 : Int32) => b2 (XX10_layParts r_4 r_6 σ_5) (fun (r_7 : Int32) (σ_8 : Sg) => if ib r_4 64 then some (σ_8 84 r_4.toNatClampNeg, σ_8) else none)))))))
theorem kX10_rounds {p1 : Int32} {σ : Sg} {rr : (Int32 × Sg)}  (h : XX10_rounds p1 σ = some rr) : Ci MX10_rounds [.ref 64, .int p1] (SHc ++ SHm) σ rr := by
  refine Ci.start rfl rfl (Nat.le_of_ble_eq_true rfl) ?_
  intro X ad C R
  replace C : Cx X cX10_rounds 3 RX10 (some .int) { frames := 4, cells := 0, slots := 0, locals := 94 } := C
  replace R : Ri X cX10_rounds (some .int) ad (SHc ++ SHm) rr := R
  show AW X 0 0 ad (SHc ++ SHm) σ 0 [some (.ref 64), some (.int p1), none] []
  rw [XX10_rounds] at h
  refine a_aload_n C eX10_rounds_0 rfl ?_
  refine a_iconst C eX10_rounds_1 (0 : Int32) c_iconst_0 ?_
  refine a_putIL C eX10_rounds_2 fX10_95 ftyX10 rfl rfl sh_64 rfl h (fun σ_1 h => ?_)
  refine a_aload_n C eX10_rounds_5 rfl ?_
  refine a_iload_n C eX10_rounds_6 rfl ?_
  obtain ⟨r_2, hq, h⟩ := b1_e h
  refine a_cVi1 C eX10_rounds_7 wX10_256 ⟨Nat.le_of_ble_eq_true rfl, Nat.le_of_ble_eq_true rfl, rfl, rfl⟩ rfl sh_64 rfl (kX10_isDay hq) (Nat.le_of_ble_eq_true rfl) ?_
  refine a_if_ne C eX10_rounds_10 (fun hc => ?_) (fun hc => ?_)
  · replace h := ie hc h
    refine a_aload_n C eX10_rounds_15 rfl ?_
    obtain ⟨σ_3, hq, h⟩ := b1_e h
    refine a_cVv0 C eX10_rounds_16 wX10_262 ⟨Nat.le_of_ble_eq_true rfl, Nat.le_of_ble_eq_true rfl, rfl, rfl⟩ rfl sh_64 rfl (kX10_layRun hq) (Nat.le_of_ble_eq_true rfl) ?_
    refine a_aload_n C eX10_rounds_19 rfl ?_
    refine a_iload_n C eX10_rounds_20 rfl ?_
    obtain ⟨r_4, σ_5, hq, h⟩ := b2_e h
    refine a_cVi1 C eX10_rounds_21 wX10_281 ⟨Nat.le_of_ble_eq_true rfl, Nat.le_of_ble_eq_true rfl, rfl, rfl⟩ rfl sh_64 rfl (kX10_layLoads hq) (Nat.le_of_ble_eq_true rfl) ?_
    refine a_ist_n C eX10_rounds_24 (Nat.le_of_ble_eq_true rfl) [some (.ref 64), some (.int p1), some (.int r_4)] rfl ?_
    refine a_aload_n C eX10_rounds_25 rfl ?_
    refine a_iload_n C eX10_rounds_26 rfl ?_
    refine a_aload_n C eX10_rounds_27 rfl ?_
    refine a_iconst C eX10_rounds_28 (3 : Int32) c_iconst_3 ?_
    obtain ⟨r_6, hq, h⟩ := b1_e h
    refine a_cVi1 C eX10_rounds_29 wX10_224 ⟨Nat.le_of_ble_eq_true rfl, Nat.le_of_ble_eq_true rfl, rfl, rfl⟩ rfl sh_64 rfl (kX10_number hq) (Nat.le_of_ble_eq_true rfl) ?_
    obtain ⟨r_7, σ_8, hq, h⟩ := b2_e h
    refine a_cVi2 C eX10_rounds_32 wX10_284 ⟨Nat.le_of_ble_eq_true rfl, Nat.le_of_ble_eq_true rfl, rfl, rfl⟩ rfl sh_64 rfl (kX10_layParts hq) (Nat.le_of_ble_eq_true rfl) ?_
    refine a_pop C eX10_rounds_35 rfl ?_
    refine a_aload_n C eX10_rounds_36 rfl ?_
    refine a_getR C eX10_rounds_37 fX10_71 sh_64 rfl ?_
    refine a_iload_n C eX10_rounds_40 rfl ?_
    obtain ⟨hb_9, h⟩ := gd h
    refine a_iald C eX10_rounds_41 sh_84 hb_9 ?_
    exact rt_i R eX10_rounds_42 h nb_int
  · replace h := it hc h
    refine a_iconst C eX10_rounds_13 (-1 : Int32) c_iconst_m1 ?_
    exact rt_i R eX10_rounds_14 h nb_int
/-! ShelfDrivesModel.roundOf(II)I -/
def LX10_roundOf_38 (p2 : Int32) (σ_7 : Sg) (k65_9 : Int32 → Option (Int32 × Sg)) : Nat → Int32 → Int32 → Option (Int32 × Sg)
  | 0, _, _ => none
  | n + 1, x3_11, x4_12 => if p2 ≤ x4_12 then (k65_9 x3_11) else (if x3_11 = 0 then (k65_9 x3_11) else (if ib x3_11 64 then lt (x3_11 &&& ((σ_7 85 x3_11.toNatClampNeg) ^^^ (-1 : Int32))) (fun (x3_14 : Int32) => lt (x4_12 + (1 : Int32)) (fun (x4_15 : Int32) => LX10_roundOf_38 p2 σ_7 k65_9 n x3_14 x4_15)) else none))
def XX10_roundOf (p1 : Int32) (p2 : Int32) (σ : Sg) : Option (Int32 × Sg) := b1 (XX10_isDay p1 σ) (fun (r_1 : Int32) => if r_1 = 0 then (some ((0 : Int32), σ)) else (if 0 ≤ p2 then (b1 (XX10_layRun σ) (fun (σ_2 : Sg) => b2 (XX10_layLoads p1 σ_2) (fun (r_3 : Int32) (σ_4 : Sg) => b1 (XX10_number (3 : Int32) σ_4) (fun (r_5 : Int32) => b2 (XX10_layParts r_3 r_5 σ_4) (fun (r_6 : Int32) (σ_7 : Sg) => lt (fun (x3_8 : Int32) => if x3_8 = 0 then (some ((0 : Int32), σ_7)) else (if ib x3_8 64 then some (σ_7 85 x3_8.toNatClampNeg, σ_7) else none)) (fun (k65_9 : Int32 → Option (Int32 × Sg)) => LX10_roundOf_38 p2 σ_7 k65_9 FUEL r_3 (0 : Int32))))))) else (some ((0 : Int32), σ))))
theorem lX10_roundOf_38 {X : CT} {ad : Nat → Nat} {rr : (Int32 × Sg)} {p2 : Int32} {σ_7 : Sg} {k65_9 : Int32 → Option (Int32 × Sg)}  (C : Cx X cX10_roundOf 5 RX10 (some .int) { frames := 4, cells := 0, slots := 0, locals := 94 }) (R : Ri X cX10_roundOf (some .int) ad (SHc ++ SHm) rr) (hk65_9 : ∀ (x3_8 : Int32), k65_9 x3_8 = some rr → AW X 0 0 ad (SHc ++ SHm) σ_7 65 [some (.ref 64), none, none, some (.int x3_8), none] []) : ∀ (n : Nat) (x3_11 : Int32) (x4_12 : Int32), LX10_roundOf_38 p2 σ_7 k65_9 n x3_11 x4_12 = some rr → AW X 0 0 ad (SHc ++ SHm) σ_7 38 [some (.ref 64), none, some (.int p2), some (.int x3_11), some (.int x4_12)] [] := by
  intro n
  induction n with
  | zero =>
    intro x3_11 x4_12 h
    rw [LX10_roundOf_38] at h
    cases h
  | succ n ih =>
    intro x3_11 x4_12 h
    rw [LX10_roundOf_38] at h
    refine a_iload C eX10_roundOf_38 rfl ?_
    refine a_iload_n C eX10_roundOf_40 rfl ?_
    refine a_icmp_ge C eX10_roundOf_41 (fun hc => ?_) (fun hc => ?_)
    · replace h := it hc h
      exact a_less (lle_same (lle_same (lle_drop (lle_same (lle_drop lle_nil))))) (hk65_9 _ h)
    · replace h := ie hc h
      refine a_iload_n C eX10_roundOf_44 rfl ?_
      refine a_if_eq C eX10_roundOf_45 (fun hc => ?_) (fun hc => ?_)
      · replace h := it hc h
        exact a_less (lle_same (lle_same (lle_drop (lle_same (lle_drop lle_nil))))) (hk65_9 _ h)
      · replace h := ie hc h
        refine a_iload_n C eX10_roundOf_48 rfl ?_
        refine a_aload_n C eX10_roundOf_49 rfl ?_
        refine a_getR C eX10_roundOf_50 fX10_74 sh_64 rfl ?_
        refine a_iload_n C eX10_roundOf_53 rfl ?_
        obtain ⟨hb_13, h⟩ := gd h
        refine a_iald C eX10_roundOf_54 sh_85 hb_13 ?_
        refine a_iconst C eX10_roundOf_55 (-1 : Int32) c_iconst_m1 ?_
        refine a_ixor C eX10_roundOf_56 ?_
        refine a_iand C eX10_roundOf_57 ?_
        refine a_lt h (fun x3_14 h => ?_)
        refine a_ist_n C eX10_roundOf_58 (Nat.le_of_ble_eq_true rfl) [some (.ref 64), none, some (.int p2), some (.int x3_14), some (.int x4_12)] rfl ?_
        refine a_inc C eX10_roundOf_59 rfl c_iconst_1 h (fun z => [some (.ref 64), none, some (.int p2), some (.int x3_14), some (.int z)]) (fun _ => rfl) (fun x4_15 h => ?_)
        refine a_goto C eX10_roundOf_62 ?_
        exact a_less (lle_same (lle_same (lle_same (lle_same (lle_same lle_nil))))) (ih _ _ h)
theorem kX10_roundOf {p1 : Int32} {p2 : Int32} {σ : Sg} {rr : (Int32 × Sg)}  (h : XX10_roundOf p1 p2 σ = some rr) : Ci MX10_roundOf [.ref 64, .int p1, .int p2] (SHc ++ SHm) σ rr := by
  refine Ci.start rfl rfl (Nat.le_of_ble_eq_true rfl) ?_
  intro X ad C R
  replace C : Cx X cX10_roundOf 5 RX10 (some .int) { frames := 4, cells := 0, slots := 0, locals := 94 } := C
  replace R : Ri X cX10_roundOf (some .int) ad (SHc ++ SHm) rr := R
  show AW X 0 0 ad (SHc ++ SHm) σ 0 [some (.ref 64), some (.int p1), some (.int p2), none, none] []
  rw [XX10_roundOf] at h
  refine a_aload_n C eX10_roundOf_0 rfl ?_
  refine a_iload_n C eX10_roundOf_1 rfl ?_
  obtain ⟨r_1, hq, h⟩ := b1_e h
  refine a_cVi1 C eX10_roundOf_2 wX10_256 ⟨Nat.le_of_ble_eq_true rfl, Nat.le_of_ble_eq_true rfl, rfl, rfl⟩ rfl sh_64 rfl (kX10_isDay hq) (Nat.le_of_ble_eq_true rfl) ?_
  refine a_if_eq C eX10_roundOf_5 (fun hc => ?_) (fun hc => ?_)
  · replace h := it hc h
    refine a_iconst C eX10_roundOf_12 (0 : Int32) c_iconst_0 ?_
    exact rt_i R eX10_roundOf_13 h nb_int
  · replace h := ie hc h
    refine a_iload_n C eX10_roundOf_8 rfl ?_
    refine a_if_ge C eX10_roundOf_9 (fun hc => ?_) (fun hc => ?_)
    · replace h := it hc h
      refine a_aload_n C eX10_roundOf_14 rfl ?_
      obtain ⟨σ_2, hq, h⟩ := b1_e h
      refine a_cVv0 C eX10_roundOf_15 wX10_262 ⟨Nat.le_of_ble_eq_true rfl, Nat.le_of_ble_eq_true rfl, rfl, rfl⟩ rfl sh_64 rfl (kX10_layRun hq) (Nat.le_of_ble_eq_true rfl) ?_
      refine a_aload_n C eX10_roundOf_18 rfl ?_
      refine a_iload_n C eX10_roundOf_19 rfl ?_
      obtain ⟨r_3, σ_4, hq, h⟩ := b2_e h
      refine a_cVi1 C eX10_roundOf_20 wX10_281 ⟨Nat.le_of_ble_eq_true rfl, Nat.le_of_ble_eq_true rfl, rfl, rfl⟩ rfl sh_64 rfl (kX10_layLoads hq) (Nat.le_of_ble_eq_true rfl) ?_
      refine a_ist_n C eX10_roundOf_23 (Nat.le_of_ble_eq_true rfl) [some (.ref 64), some (.int p1), some (.int p2), some (.int r_3), none] rfl ?_
      refine a_aload_n C eX10_roundOf_24 rfl ?_
      refine a_iload_n C eX10_roundOf_25 rfl ?_
      refine a_aload_n C eX10_roundOf_26 rfl ?_
      refine a_iconst C eX10_roundOf_27 (3 : Int32) c_iconst_3 ?_
      obtain ⟨r_5, hq, h⟩ := b1_e h
      refine a_cVi1 C eX10_roundOf_28 wX10_224 ⟨Nat.le_of_ble_eq_true rfl, Nat.le_of_ble_eq_true rfl, rfl, rfl⟩ rfl sh_64 rfl (kX10_number hq) (Nat.le_of_ble_eq_true rfl) ?_
      obtain ⟨r_6, σ_7, hq, h⟩ := b2_e h
      refine a_cVi2 C eX10_roundOf_31 wX10_284 ⟨Nat.le_of_ble_eq_true rfl, Nat.le_of_ble_eq_true rfl, rfl, rfl⟩ rfl sh_64 rfl (kX10_layParts hq) (Nat.le_of_ble_eq_true rfl) ?_
      refine a_pop C eX10_roundOf_34 rfl ?_
      refine a_iconst C eX10_roundOf_35 (0 : Int32) c_iconst_0 ?_
      refine a_ist C eX10_roundOf_36 (Nat.le_of_ble_eq_true rfl) [some (.ref 64), some (.int p1), some (.int p2), some (.int r_3), some (.int (0 : Int32))] rfl ?_
      refine jn (fun (kk : Int32 → Option (Int32 × Sg)) => ∀ (x3_8 : Int32), kk x3_8 = some rr → AW X 0 0 ad (SHc ++ SHm) σ_7 65 [some (.ref 64), none, none, some (.int x3_8), none] []) h ?_ (fun k65_9 hk65_9 h => ?_)
      · intro x3_8 h
        refine a_iload_n C eX10_roundOf_65 rfl ?_
        refine a_if_ne C eX10_roundOf_66 (fun hc => ?_) (fun hc => ?_)
        · replace h := ie hc h
          refine a_aload_n C eX10_roundOf_73 rfl ?_
          refine a_getR C eX10_roundOf_74 fX10_74 sh_64 rfl ?_
          refine a_iload_n C eX10_roundOf_77 rfl ?_
          obtain ⟨hb_10, h⟩ := gd h
          refine a_iald C eX10_roundOf_78 sh_85 hb_10 ?_
          exact rt_i R eX10_roundOf_79 h nb_int
        · replace h := it hc h
          refine a_iconst C eX10_roundOf_69 (0 : Int32) c_iconst_0 ?_
          refine a_goto C eX10_roundOf_70 ?_
          exact rt_i R eX10_roundOf_79 h nb_int
      exact a_less (lle_same (lle_drop (lle_same (lle_same (lle_same lle_nil))))) (lX10_roundOf_38  C R hk65_9 _ _ _ h)
    · replace h := ie hc h
      refine a_iconst C eX10_roundOf_12 (0 : Int32) c_iconst_0 ?_
      exact rt_i R eX10_roundOf_13 h nb_int
/-! ShelfDrivesModel.onWay(II)I -/
def LX10_onWay_18 (x3_1 : Int32) (x4_2 : Int32) (σ : Sg) (k75_5 : Int32 → Option Int32) : Nat → Int32 → Option Int32
  | 0, _ => none
  | n + 1, x6_8 => b1 (XX10_isOf x4_2 x6_8) (fun (r_9 : Int32) => lt (lt (x6_8 + (1 : Int32)) (fun (x6_11 : Int32) => LX10_onWay_18 x3_1 x4_2 σ k75_5 n x6_11)) (fun (k69_10 : Option Int32) => if r_9 = 0 then (k69_10) else (b1 (XX10_far x3_1 x6_8 σ) (fun (r_12 : Int32) => if ib (((64 : Int32) * x6_8) + (x4_2 ^^^ ((1 : Int32) <<< (x6_8 &&& 31)))) 448 then if ib (((64 : Int32) * x3_1) + x4_2) 448 then if (r_12 + (σ 77 (((64 : Int32) * x6_8) + (x4_2 ^^^ ((1 : Int32) <<< (x6_8 &&& 31)))).toNatClampNeg)) = (σ 77 (((64 : Int32) * x3_1) + x4_2).toNatClampNeg) then (k75_5 x6_8) else (k69_10) else none else none))))
def LX10_onWay_9 (p2 : Int32) (σ : Sg) : Nat → Int32 → Int32 → Int32 → Option Int32
  | 0, _, _, _ => none
  | n + 1, x3_1, x4_2, x5_3 => if p2 < x5_3 then (some x3_1) else (lt (fun (x6_4 : Int32) => lt (x4_2 ^^^ ((1 : Int32) <<< (x6_4 &&& 31))) (fun (x4_6 : Int32) => lt (x5_3 + (1 : Int32)) (fun (x5_7 : Int32) => LX10_onWay_9 p2 σ n x6_4 x4_6 x5_7))) (fun (k75_5 : Int32 → Option Int32) => LX10_onWay_18 x3_1 x4_2 σ k75_5 FUEL (0 : Int32)))
def XX10_onWay (p1 : Int32) (p2 : Int32) (σ : Sg) : Option Int32 := LX10_onWay_9 p2 σ FUEL (6 : Int32) p1 (0 : Int32)
theorem lX10_onWay_18 {X : CT} {ad : Nat → Nat} {rr : Int32} {p2 : Int32} {x3_1 : Int32} {x4_2 : Int32} {x5_3 : Int32} {σ : Sg} {k75_5 : Int32 → Option Int32}  (C : Cx X cX10_onWay 7 RX10 (some .int) { frames := 2, cells := 0, slots := 0, locals := 45 }) (R : Ri X cX10_onWay (some .int) ad (SHc ++ SHm) (rr, σ)) (hk75_5 : ∀ (x6_4 : Int32), k75_5 x6_4 = some rr → AW X 0 0 ad (SHc ++ SHm) σ 75 [some (.ref 64), none, some (.int p2), none, some (.int x4_2), some (.int x5_3), some (.int x6_4)] []) : ∀ (n : Nat) (x6_8 : Int32), LX10_onWay_18 x3_1 x4_2 σ k75_5 n x6_8 = some rr → AW X 0 0 ad (SHc ++ SHm) σ 18 [some (.ref 64), none, some (.int p2), some (.int x3_1), some (.int x4_2), some (.int x5_3), some (.int x6_8)] [] := by
  intro n
  induction n with
  | zero =>
    intro x6_8 h
    rw [LX10_onWay_18] at h
    cases h
  | succ n ih =>
    intro x6_8 h
    rw [LX10_onWay_18] at h
    refine a_iload C eX10_onWay_18 rfl ?_
    refine a_iload C eX10_onWay_20 rfl ?_
    obtain ⟨r_9, hq, h⟩ := b1_e h
    refine a_cSi2 C eX10_onWay_22 wX10_176 ⟨Nat.le_of_ble_eq_true rfl, Nat.le_of_ble_eq_true rfl, rfl, rfl⟩ rfl (kX10_isOf hq) (Nat.le_of_ble_eq_true rfl) ?_
    refine jn (fun (kk : Option Int32) => kk = some rr → AW X 0 0 ad (SHc ++ SHm) σ 69 [some (.ref 64), none, some (.int p2), some (.int x3_1), some (.int x4_2), some (.int x5_3), some (.int x6_8)] []) h ?_ (fun k69_10 hk69_10 h => ?_)
    · intro h
      refine a_inc C eX10_onWay_69 rfl c_iconst_1 h (fun z => [some (.ref 64), none, some (.int p2), some (.int x3_1), some (.int x4_2), some (.int x5_3), some (.int z)]) (fun _ => rfl) (fun x6_11 h => ?_)
      refine a_goto C eX10_onWay_72 ?_
      exact a_less (lle_same (lle_same (lle_same (lle_same (lle_same (lle_same (lle_same lle_nil))))))) (ih _ h)
    refine a_if_eq C eX10_onWay_25 (fun hc => ?_) (fun hc => ?_)
    · replace h := it hc h
      exact a_less (lle_same (lle_same (lle_same (lle_same (lle_same (lle_same (lle_same lle_nil))))))) (hk69_10 h)
    · replace h := ie hc h
      refine a_aload_n C eX10_onWay_28 rfl ?_
      refine a_iload_n C eX10_onWay_29 rfl ?_
      refine a_iload C eX10_onWay_30 rfl ?_
      obtain ⟨r_12, hq, h⟩ := b1_e h
      refine a_cVi2 C eX10_onWay_32 wX10_227 ⟨Nat.le_of_ble_eq_true rfl, Nat.le_of_ble_eq_true rfl, rfl, rfl⟩ rfl sh_64 rfl (kX10_far hq) (Nat.le_of_ble_eq_true rfl) ?_
      refine a_aload_n C eX10_onWay_35 rfl ?_
      refine a_getR C eX10_onWay_36 fX10_50 sh_64 rfl ?_
      refine a_bipush C eX10_onWay_39 (64 : Int32) c_bipush_64 ?_
      refine a_iload C eX10_onWay_41 rfl ?_
      refine a_imul C eX10_onWay_43 ?_
      refine a_iload C eX10_onWay_44 rfl ?_
      refine a_iconst C eX10_onWay_46 (1 : Int32) c_iconst_1 ?_
      refine a_iload C eX10_onWay_47 rfl ?_
      refine a_ishl C eX10_onWay_49 ?_
      refine a_ixor C eX10_onWay_50 ?_
      refine a_iadd C eX10_onWay_51 ?_
      obtain ⟨hb_13, h⟩ := gd h
      refine a_iald C eX10_onWay_52 sh_77 hb_13 ?_
      refine a_iadd C eX10_onWay_53 ?_
      refine a_aload_n C eX10_onWay_54 rfl ?_
      refine a_getR C eX10_onWay_55 fX10_50 sh_64 rfl ?_
      refine a_bipush C eX10_onWay_58 (64 : Int32) c_bipush_64 ?_
      refine a_iload_n C eX10_onWay_60 rfl ?_
      refine a_imul C eX10_onWay_61 ?_
      refine a_iload C eX10_onWay_62 rfl ?_
      refine a_iadd C eX10_onWay_64 ?_
      obtain ⟨hb_14, h⟩ := gd h
      refine a_iald C eX10_onWay_65 sh_77 hb_14 ?_
      refine a_icmp_eq C eX10_onWay_66 (fun hc => ?_) (fun hc => ?_)
      · replace h := it hc h
        exact a_less (lle_same (lle_same (lle_same (lle_drop (lle_same (lle_same (lle_same lle_nil))))))) (hk75_5 _ h)
      · replace h := ie hc h
        exact a_less (lle_same (lle_same (lle_same (lle_same (lle_same (lle_same (lle_same lle_nil))))))) (hk69_10 h)
theorem lX10_onWay_9 {X : CT} {ad : Nat → Nat} {rr : Int32} {p2 : Int32} {σ : Sg}  (C : Cx X cX10_onWay 7 RX10 (some .int) { frames := 2, cells := 0, slots := 0, locals := 45 }) (R : Ri X cX10_onWay (some .int) ad (SHc ++ SHm) (rr, σ))  : ∀ (n : Nat) (x3_1 : Int32) (x4_2 : Int32) (x5_3 : Int32), LX10_onWay_9 p2 σ n x3_1 x4_2 x5_3 = some rr → AW X 0 0 ad (SHc ++ SHm) σ 9 [some (.ref 64), none, some (.int p2), some (.int x3_1), some (.int x4_2), some (.int x5_3), none] [] := by
  intro n
  induction n with
  | zero =>
    intro x3_1 x4_2 x5_3 h
    rw [LX10_onWay_9] at h
    cases h
  | succ n ih =>
    intro x3_1 x4_2 x5_3 h
    rw [LX10_onWay_9] at h
    refine a_iload C eX10_onWay_9 rfl ?_
    refine a_iload_n C eX10_onWay_11 rfl ?_
    refine a_icmp_gt C eX10_onWay_12 (fun hc => ?_) (fun hc => ?_)
    · replace h := it hc h
      refine a_iload_n C eX10_onWay_93 rfl ?_
      exact rt_p R eX10_onWay_94 h nb_int
    · replace h := ie hc h
      refine a_iconst C eX10_onWay_15 (0 : Int32) c_iconst_0 ?_
      refine a_ist C eX10_onWay_16 (Nat.le_of_ble_eq_true rfl) [some (.ref 64), none, some (.int p2), some (.int x3_1), some (.int x4_2), some (.int x5_3), some (.int (0 : Int32))] rfl ?_
      refine jn (fun (kk : Int32 → Option Int32) => ∀ (x6_4 : Int32), kk x6_4 = some rr → AW X 0 0 ad (SHc ++ SHm) σ 75 [some (.ref 64), none, some (.int p2), none, some (.int x4_2), some (.int x5_3), some (.int x6_4)] []) h ?_ (fun k75_5 hk75_5 h => ?_)
      · intro x6_4 h
        refine a_iload C eX10_onWay_75 rfl ?_
        refine a_ist_n C eX10_onWay_77 (Nat.le_of_ble_eq_true rfl) [some (.ref 64), none, some (.int p2), some (.int x6_4), some (.int x4_2), some (.int x5_3), some (.int x6_4)] rfl ?_
        refine a_iload C eX10_onWay_78 rfl ?_
        refine a_iconst C eX10_onWay_80 (1 : Int32) c_iconst_1 ?_
        refine a_iload C eX10_onWay_81 rfl ?_
        refine a_ishl C eX10_onWay_83 ?_
        refine a_ixor C eX10_onWay_84 ?_
        refine a_lt h (fun x4_6 h => ?_)
        refine a_ist C eX10_onWay_85 (Nat.le_of_ble_eq_true rfl) [some (.ref 64), none, some (.int p2), some (.int x6_4), some (.int x4_6), some (.int x5_3), some (.int x6_4)] rfl ?_
        refine a_inc C eX10_onWay_87 rfl c_iconst_1 h (fun z => [some (.ref 64), none, some (.int p2), some (.int x6_4), some (.int x4_6), some (.int z), some (.int x6_4)]) (fun _ => rfl) (fun x5_7 h => ?_)
        refine a_goto C eX10_onWay_90 ?_
        exact a_less (lle_same (lle_same (lle_same (lle_same (lle_same (lle_same (lle_drop lle_nil))))))) (ih _ _ _ h)
      exact a_less (lle_same (lle_same (lle_same (lle_same (lle_same (lle_same (lle_same lle_nil))))))) (lX10_onWay_18  C R hk75_5 _ _ h)
theorem kX10_onWay {p1 : Int32} {p2 : Int32} {σ : Sg} {rr : Int32}  (h : XX10_onWay p1 p2 σ = some rr) : Ci MX10_onWay [.ref 64, .int p1, .int p2] (SHc ++ SHm) σ (rr, σ) := by
  refine Ci.start rfl rfl (Nat.le_of_ble_eq_true rfl) ?_
  intro X ad C R
  replace C : Cx X cX10_onWay 7 RX10 (some .int) { frames := 2, cells := 0, slots := 0, locals := 45 } := C
  replace R : Ri X cX10_onWay (some .int) ad (SHc ++ SHm) (rr, σ) := R
  show AW X 0 0 ad (SHc ++ SHm) σ 0 [some (.ref 64), some (.int p1), some (.int p2), none, none, none, none] []
  rw [XX10_onWay] at h
  refine a_bipush C eX10_onWay_0 (6 : Int32) c_bipush_6 ?_
  refine a_ist_n C eX10_onWay_2 (Nat.le_of_ble_eq_true rfl) [some (.ref 64), some (.int p1), some (.int p2), some (.int (6 : Int32)), none, none, none] rfl ?_
  refine a_iload_n C eX10_onWay_3 rfl ?_
  refine a_ist C eX10_onWay_4 (Nat.le_of_ble_eq_true rfl) [some (.ref 64), some (.int p1), some (.int p2), some (.int (6 : Int32)), some (.int p1), none, none] rfl ?_
  refine a_iconst C eX10_onWay_6 (0 : Int32) c_iconst_0 ?_
  refine a_ist C eX10_onWay_7 (Nat.le_of_ble_eq_true rfl) [some (.ref 64), some (.int p1), some (.int p2), some (.int (6 : Int32)), some (.int p1), some (.int (0 : Int32)), none] rfl ?_
  exact a_less (lle_same (lle_drop (lle_same (lle_same (lle_same (lle_same (lle_same lle_nil))))))) (lX10_onWay_9  C R  _ _ _ _ h)
/-! ShelfDrivesModel.round(III)I -/
def XX10_round (p1 : Int32) (p2 : Int32) (p3 : Int32) (σ : Sg) : Option (Int32 × Sg) := lt (up σ 64 0 (0 : Int32)) (fun (σ_1 : Sg) => b2 (XX10_roundOf p1 p2 σ_1) (fun (r_2 : Int32) (σ_3 : Sg) => if r_2 = 0 then (some ((-1 : Int32), σ_3)) else (b1 (XX10_bits r_2) (fun (r_4 : Int32) => b1 (XX10_in p3 (10 : Int32) ((9 : Int32) + r_4)) (fun (r_5 : Int32) => if r_5 = 0 then (if p3 = (0 : Int32) then (some (r_2, σ_3)) else (if p3 = (1 : Int32) then (b1 (XX10_milesOf r_2 σ_3) (fun (r_7 : Int32) => some (r_7, σ_3))) else (if p3 = (2 : Int32) then (b1 (XX10_loadsOf r_2 σ_3) (fun (r_9 : Int32) => some (r_9, σ_3))) else (if p3 = (3 : Int32) then (b1 (XX10_costOfSet r_2 σ_3) (fun (r_11 : Int32) => some (r_11, σ_3))) else (some ((-1 : Int32), σ_3)))))) else (b1 (XX10_onWay r_2 (p3 - (10 : Int32)) σ_3) (fun (r_13 : Int32) => some (r_13, σ_3))))))))
theorem kX10_round {p1 : Int32} {p2 : Int32} {p3 : Int32} {σ : Sg} {rr : (Int32 × Sg)}  (h : XX10_round p1 p2 p3 σ = some rr) : Ci MX10_round [.ref 64, .int p1, .int p2, .int p3] (SHc ++ SHm) σ rr := by
  refine Ci.start rfl rfl (Nat.le_of_ble_eq_true rfl) ?_
  intro X ad C R
  replace C : Cx X cX10_round 5 RX10 (some .int) { frames := 5, cells := 0, slots := 0, locals := 118 } := C
  replace R : Ri X cX10_round (some .int) ad (SHc ++ SHm) rr := R
  show AW X 0 0 ad (SHc ++ SHm) σ 0 [some (.ref 64), some (.int p1), some (.int p2), some (.int p3), none] []
  rw [XX10_round] at h
  refine a_aload_n C eX10_round_0 rfl ?_
  refine a_iconst C eX10_round_1 (0 : Int32) c_iconst_0 ?_
  refine a_putIL C eX10_round_2 fX10_95 ftyX10 rfl rfl sh_64 rfl h (fun σ_1 h => ?_)
  refine a_aload_n C eX10_round_5 rfl ?_
  refine a_iload_n C eX10_round_6 rfl ?_
  refine a_iload_n C eX10_round_7 rfl ?_
  obtain ⟨r_2, σ_3, hq, h⟩ := b2_e h
  refine a_cVi2 C eX10_round_8 wX10_287 ⟨Nat.le_of_ble_eq_true rfl, Nat.le_of_ble_eq_true rfl, rfl, rfl⟩ rfl sh_64 rfl (kX10_roundOf hq) (Nat.le_of_ble_eq_true rfl) ?_
  refine a_ist C eX10_round_11 (Nat.le_of_ble_eq_true rfl) [some (.ref 64), some (.int p1), some (.int p2), some (.int p3), some (.int r_2)] rfl ?_
  refine a_iload C eX10_round_13 rfl ?_
  refine a_if_ne C eX10_round_15 (fun hc => ?_) (fun hc => ?_)
  · replace h := ie hc h
    refine a_iload_n C eX10_round_20 rfl ?_
    refine a_bipush C eX10_round_21 (10 : Int32) c_bipush_10 ?_
    refine a_bipush C eX10_round_23 (9 : Int32) c_bipush_9 ?_
    refine a_iload C eX10_round_25 rfl ?_
    obtain ⟨r_4, hq, h⟩ := b1_e h
    refine a_cSi1 C eX10_round_27 wX10_290 ⟨Nat.le_of_ble_eq_true rfl, Nat.le_of_ble_eq_true rfl, rfl, rfl⟩ rfl (kX10_bits hq) (Nat.le_of_ble_eq_true rfl) ?_
    refine a_iadd C eX10_round_30 ?_
    obtain ⟨r_5, hq, h⟩ := b1_e h
    refine a_cSi3 C eX10_round_31 wX10_102 ⟨Nat.le_of_ble_eq_true rfl, Nat.le_of_ble_eq_true rfl, rfl, rfl⟩ rfl (kX10_in hq) (Nat.le_of_ble_eq_true rfl) ?_
    refine a_if_eq C eX10_round_34 (fun hc => ?_) (fun hc => ?_)
    · replace h := it hc h
      refine a_iload_n C eX10_round_48 rfl ?_
      by_cases hs_6 : p3 = (0 : Int32)
      · replace h := it hs_6 h
        refine a_tsw C eX10_round_49 (0 : Int32) hs_6 (by decide) (by decide) rfl (tgt := 80) rfl ?_
        refine a_iload C eX10_round_80 rfl ?_
        exact rt_i R eX10_round_82 h nb_int
      replace h := ie hs_6 h
      by_cases hs_8 : p3 = (1 : Int32)
      · replace h := it hs_8 h
        refine a_tsw C eX10_round_49 (1 : Int32) hs_8 (by decide) (by decide) rfl (tgt := 83) rfl ?_
        refine a_aload_n C eX10_round_83 rfl ?_
        refine a_iload C eX10_round_84 rfl ?_
        obtain ⟨r_7, hq, h⟩ := b1_e h
        refine a_cVi1 C eX10_round_86 wX10_230 ⟨Nat.le_of_ble_eq_true rfl, Nat.le_of_ble_eq_true rfl, rfl, rfl⟩ rfl sh_64 rfl (kX10_milesOf hq) (Nat.le_of_ble_eq_true rfl) ?_
        exact rt_i R eX10_round_89 h nb_int
      replace h := ie hs_8 h
      by_cases hs_10 : p3 = (2 : Int32)
      · replace h := it hs_10 h
        refine a_tsw C eX10_round_49 (2 : Int32) hs_10 (by decide) (by decide) rfl (tgt := 90) rfl ?_
        refine a_aload_n C eX10_round_90 rfl ?_
        refine a_iload C eX10_round_91 rfl ?_
        obtain ⟨r_9, hq, h⟩ := b1_e h
        refine a_cVi1 C eX10_round_93 wX10_275 ⟨Nat.le_of_ble_eq_true rfl, Nat.le_of_ble_eq_true rfl, rfl, rfl⟩ rfl sh_64 rfl (kX10_loadsOf hq) (Nat.le_of_ble_eq_true rfl) ?_
        exact rt_i R eX10_round_96 h nb_int
      replace h := ie hs_10 h
      by_cases hs_12 : p3 = (3 : Int32)
      · replace h := it hs_12 h
        refine a_tsw C eX10_round_49 (3 : Int32) hs_12 (by decide) (by decide) rfl (tgt := 97) rfl ?_
        refine a_aload_n C eX10_round_97 rfl ?_
        refine a_iload C eX10_round_98 rfl ?_
        obtain ⟨r_11, hq, h⟩ := b1_e h
        refine a_cVi1 C eX10_round_100 wX10_237 ⟨Nat.le_of_ble_eq_true rfl, Nat.le_of_ble_eq_true rfl, rfl, rfl⟩ rfl sh_64 rfl (kX10_costOfSet hq) (Nat.le_of_ble_eq_true rfl) ?_
        exact rt_i R eX10_round_103 h nb_int
      replace h := ie hs_12 h
      refine a_tsw_out C eX10_round_49 4 rfl (fun j hj => match j, hj with | 0, _ => lv_neT hs_6 rfl | 1, _ => lv_neT hs_8 rfl | 2, _ => lv_neT hs_10 rfl | 3, _ => lv_neT hs_12 rfl | j + 4, hj => absurd hj (by omega)) (tgt := 104) rfl ?_
      refine a_iconst C eX10_round_104 (-1 : Int32) c_iconst_m1 ?_
      exact rt_i R eX10_round_105 h nb_int
    · replace h := ie hc h
      refine a_aload_n C eX10_round_37 rfl ?_
      refine a_iload C eX10_round_38 rfl ?_
      refine a_iload_n C eX10_round_40 rfl ?_
      refine a_bipush C eX10_round_41 (10 : Int32) c_bipush_10 ?_
      refine a_isub C eX10_round_43 ?_
      obtain ⟨r_13, hq, h⟩ := b1_e h
      refine a_cVi2 C eX10_round_44 wX10_293 ⟨Nat.le_of_ble_eq_true rfl, Nat.le_of_ble_eq_true rfl, rfl, rfl⟩ rfl sh_64 rfl (kX10_onWay hq) (Nat.le_of_ble_eq_true rfl) ?_
      exact rt_i R eX10_round_47 h nb_int
  · replace h := it hc h
    refine a_iconst C eX10_round_18 (-1 : Int32) c_iconst_m1 ?_
    exact rt_i R eX10_round_19 h nb_int
/-! ShelfDrivesModel.aboard(III)I -/
def LX10_aboard_46 (p3 : Int32) (r_2 : Int32) (σ_3 : Sg) : Nat → Int32 → Int32 → Option (Int32 × Sg)
  | 0, _, _ => none
  | n + 1, x5_7, x6_8 => if p3 < x6_8 then (some (x5_7, σ_3)) else (b1 (XX10_onWay r_2 x6_8 σ_3) (fun (r_9 : Int32) => if ib r_9 6 then lt (x5_7 - (σ_3 86 r_9.toNatClampNeg)) (fun (x5_11 : Int32) => lt (x6_8 + (1 : Int32)) (fun (x6_12 : Int32) => LX10_aboard_46 p3 r_2 σ_3 n x5_11 x6_12)) else none))
def XX10_aboard (p1 : Int32) (p2 : Int32) (p3 : Int32) (σ : Sg) : Option (Int32 × Sg) := lt (up σ 64 0 (0 : Int32)) (fun (σ_1 : Sg) => b2 (XX10_roundOf p1 p2 σ_1) (fun (r_2 : Int32) (σ_3 : Sg) => if r_2 = 0 then (some ((-1 : Int32), σ_3)) else (b1 (XX10_bits r_2) (fun (r_4 : Int32) => b1 (XX10_in p3 (-1 : Int32) (r_4 - (1 : Int32))) (fun (r_5 : Int32) => if r_5 = 0 then (some ((-1 : Int32), σ_3)) else (b1 (XX10_loadsOf r_2 σ_3) (fun (r_6 : Int32) => LX10_aboard_46 p3 r_2 σ_3 FUEL r_6 (0 : Int32))))))))
theorem lX10_aboard_46 {X : CT} {ad : Nat → Nat} {rr : (Int32 × Sg)} {p3 : Int32} {r_2 : Int32} {σ_3 : Sg}  (C : Cx X cX10_aboard 7 RX10 (some .int) { frames := 5, cells := 0, slots := 0, locals := 118 }) (R : Ri X cX10_aboard (some .int) ad (SHc ++ SHm) rr)  : ∀ (n : Nat) (x5_7 : Int32) (x6_8 : Int32), LX10_aboard_46 p3 r_2 σ_3 n x5_7 x6_8 = some rr → AW X 0 0 ad (SHc ++ SHm) σ_3 46 [some (.ref 64), none, none, some (.int p3), some (.int r_2), some (.int x5_7), some (.int x6_8)] [] := by
  intro n
  induction n with
  | zero =>
    intro x5_7 x6_8 h
    rw [LX10_aboard_46] at h
    cases h
  | succ n ih =>
    intro x5_7 x6_8 h
    rw [LX10_aboard_46] at h
    refine a_iload C eX10_aboard_46 rfl ?_
    refine a_iload_n C eX10_aboard_48 rfl ?_
    refine a_icmp_gt C eX10_aboard_49 (fun hc => ?_) (fun hc => ?_)
    · replace h := it hc h
      refine a_iload C eX10_aboard_76 rfl ?_
      exact rt_i R eX10_aboard_78 h nb_int
    · replace h := ie hc h
      refine a_iload C eX10_aboard_52 rfl ?_
      refine a_aload_n C eX10_aboard_54 rfl ?_
      refine a_getR C eX10_aboard_55 fX10_77 sh_64 rfl ?_
      refine a_aload_n C eX10_aboard_58 rfl ?_
      refine a_iload C eX10_aboard_59 rfl ?_
      refine a_iload C eX10_aboard_61 rfl ?_
      obtain ⟨r_9, hq, h⟩ := b1_e h
      refine a_cVi2 C eX10_aboard_63 wX10_293 ⟨Nat.le_of_ble_eq_true rfl, Nat.le_of_ble_eq_true rfl, rfl, rfl⟩ rfl sh_64 rfl (kX10_onWay hq) (Nat.le_of_ble_eq_true rfl) ?_
      obtain ⟨hb_10, h⟩ := gd h
      refine a_iald C eX10_aboard_66 sh_86 hb_10 ?_
      refine a_isub C eX10_aboard_67 ?_
      refine a_lt h (fun x5_11 h => ?_)
      refine a_ist C eX10_aboard_68 (Nat.le_of_ble_eq_true rfl) [some (.ref 64), none, none, some (.int p3), some (.int r_2), some (.int x5_11), some (.int x6_8)] rfl ?_
      refine a_inc C eX10_aboard_70 rfl c_iconst_1 h (fun z => [some (.ref 64), none, none, some (.int p3), some (.int r_2), some (.int x5_11), some (.int z)]) (fun _ => rfl) (fun x6_12 h => ?_)
      refine a_goto C eX10_aboard_73 ?_
      exact a_less (lle_same (lle_same (lle_same (lle_same (lle_same (lle_same (lle_same lle_nil))))))) (ih _ _ h)
theorem kX10_aboard {p1 : Int32} {p2 : Int32} {p3 : Int32} {σ : Sg} {rr : (Int32 × Sg)}  (h : XX10_aboard p1 p2 p3 σ = some rr) : Ci MX10_aboard [.ref 64, .int p1, .int p2, .int p3] (SHc ++ SHm) σ rr := by
  refine Ci.start rfl rfl (Nat.le_of_ble_eq_true rfl) ?_
  intro X ad C R
  replace C : Cx X cX10_aboard 7 RX10 (some .int) { frames := 5, cells := 0, slots := 0, locals := 118 } := C
  replace R : Ri X cX10_aboard (some .int) ad (SHc ++ SHm) rr := R
  show AW X 0 0 ad (SHc ++ SHm) σ 0 [some (.ref 64), some (.int p1), some (.int p2), some (.int p3), none, none, none] []
  rw [XX10_aboard] at h
  refine a_aload_n C eX10_aboard_0 rfl ?_
  refine a_iconst C eX10_aboard_1 (0 : Int32) c_iconst_0 ?_
  refine a_putIL C eX10_aboard_2 fX10_95 ftyX10 rfl rfl sh_64 rfl h (fun σ_1 h => ?_)
  refine a_aload_n C eX10_aboard_5 rfl ?_
  refine a_iload_n C eX10_aboard_6 rfl ?_
  refine a_iload_n C eX10_aboard_7 rfl ?_
  obtain ⟨r_2, σ_3, hq, h⟩ := b2_e h
  refine a_cVi2 C eX10_aboard_8 wX10_287 ⟨Nat.le_of_ble_eq_true rfl, Nat.le_of_ble_eq_true rfl, rfl, rfl⟩ rfl sh_64 rfl (kX10_roundOf hq) (Nat.le_of_ble_eq_true rfl) ?_
  refine a_ist C eX10_aboard_11 (Nat.le_of_ble_eq_true rfl) [some (.ref 64), some (.int p1), some (.int p2), some (.int p3), some (.int r_2), none, none] rfl ?_
  refine a_iload C eX10_aboard_13 rfl ?_
  refine a_if_eq C eX10_aboard_15 (fun hc => ?_) (fun hc => ?_)
  · replace h := it hc h
    refine a_iconst C eX10_aboard_33 (-1 : Int32) c_iconst_m1 ?_
    exact rt_i R eX10_aboard_34 h nb_int
  · replace h := ie hc h
    refine a_iload_n C eX10_aboard_18 rfl ?_
    refine a_iconst C eX10_aboard_19 (-1 : Int32) c_iconst_m1 ?_
    refine a_iload C eX10_aboard_20 rfl ?_
    obtain ⟨r_4, hq, h⟩ := b1_e h
    refine a_cSi1 C eX10_aboard_22 wX10_290 ⟨Nat.le_of_ble_eq_true rfl, Nat.le_of_ble_eq_true rfl, rfl, rfl⟩ rfl (kX10_bits hq) (Nat.le_of_ble_eq_true rfl) ?_
    refine a_iconst C eX10_aboard_25 (1 : Int32) c_iconst_1 ?_
    refine a_isub C eX10_aboard_26 ?_
    obtain ⟨r_5, hq, h⟩ := b1_e h
    refine a_cSi3 C eX10_aboard_27 wX10_102 ⟨Nat.le_of_ble_eq_true rfl, Nat.le_of_ble_eq_true rfl, rfl, rfl⟩ rfl (kX10_in hq) (Nat.le_of_ble_eq_true rfl) ?_
    refine a_if_ne C eX10_aboard_30 (fun hc => ?_) (fun hc => ?_)
    · replace h := ie hc h
      refine a_aload_n C eX10_aboard_35 rfl ?_
      refine a_iload C eX10_aboard_36 rfl ?_
      obtain ⟨r_6, hq, h⟩ := b1_e h
      refine a_cVi1 C eX10_aboard_38 wX10_275 ⟨Nat.le_of_ble_eq_true rfl, Nat.le_of_ble_eq_true rfl, rfl, rfl⟩ rfl sh_64 rfl (kX10_loadsOf hq) (Nat.le_of_ble_eq_true rfl) ?_
      refine a_ist C eX10_aboard_41 (Nat.le_of_ble_eq_true rfl) [some (.ref 64), some (.int p1), some (.int p2), some (.int p3), some (.int r_2), some (.int r_6), none] rfl ?_
      refine a_iconst C eX10_aboard_43 (0 : Int32) c_iconst_0 ?_
      refine a_ist C eX10_aboard_44 (Nat.le_of_ble_eq_true rfl) [some (.ref 64), some (.int p1), some (.int p2), some (.int p3), some (.int r_2), some (.int r_6), some (.int (0 : Int32))] rfl ?_
      exact a_less (lle_same (lle_drop (lle_drop (lle_same (lle_same (lle_same (lle_same lle_nil))))))) (lX10_aboard_46  C R  _ _ _ h)
    · replace h := it hc h
      refine a_iconst C eX10_aboard_33 (-1 : Int32) c_iconst_m1 ?_
      exact rt_i R eX10_aboard_34 h nb_int
/-! ShelfDrivesModel.joins(I)Z -/
def LX10_joins_25 (p1 : Int32) (x5_13 : Int32) (σ : Sg) (k147_19 : Int32 → Int32 → Int32 → Option (Int32 × Sg)) : Nat → Int32 → Int32 → Int32 → Int32 → Option (Int32 × Sg)
  | 0, _, _, _, _ => none
  | n + 1, x2_21, x3_22, x4_23, x6_24 => b1 (XX10_shops σ) (fun (r_25 : Int32) => if r_25 ≤ x6_24 then (k147_19 x2_21 x3_22 x4_23) else (if ib x5_13 6 then lt (fun (x2_27 : Int32) (x3_28 : Int32) (x4_29 : Int32) => lt (x6_24 + (1 : Int32)) (fun (x6_31 : Int32) => LX10_joins_25 p1 x5_13 σ k147_19 n x2_27 x3_28 x4_29 x6_31)) (fun (k141_30 : Int32 → Int32 → Int32 → Option (Int32 × Sg)) => if (σ 87 x5_13.toNatClampNeg) = 0 then (k141_30 x2_21 x3_22 x4_23) else (if ib x6_24 6 then if (σ 87 x6_24.toNatClampNeg) = 0 then (k141_30 x2_21 x3_22 x4_23) else (b1 (XX10_loadsOf ((σ 87 x5_13.toNatClampNeg) ||| (σ 87 x6_24.toNatClampNeg)) σ) (fun (r_33 : Int32) => if r_33 ≤ p1 then (b1 (XX10_costOfSet (σ 87 x5_13.toNatClampNeg) σ) (fun (r_34 : Int32) => b1 (XX10_costOfSet (σ 87 x6_24.toNatClampNeg) σ) (fun (r_35 : Int32) => b1 (XX10_costOfSet ((σ 87 x5_13.toNatClampNeg) ||| (σ 87 x6_24.toNatClampNeg)) σ) (fun (r_36 : Int32) => lt ((r_34 + r_35) - r_36) (fun (x7_37 : Int32) => if x7_37 ≤ x2_21 then (k141_30 x2_21 x3_22 x4_23) else (k141_30 x7_37 x5_13 x6_24)))))) else (k141_30 x2_21 x3_22 x4_23))) else none)) else none))
def LX10_joins_10 (p1 : Int32) (σ : Sg) (k153_3 : Int32 → Int32 → Option (Int32 × Sg)) : Nat → Int32 → Int32 → Int32 → Int32 → Option (Int32 × Sg)
  | 0, _, _, _, _ => none
  | n + 1, x2_10, x3_11, x4_12, x5_13 => b1 (XX10_shops σ) (fun (r_14 : Int32) => if r_14 ≤ x5_13 then (k153_3 x3_11 x4_12) else (lt (x5_13 + (1 : Int32)) (fun (x6_15 : Int32) => lt (fun (x2_16 : Int32) (x3_17 : Int32) (x4_18 : Int32) => lt (x5_13 + (1 : Int32)) (fun (x5_20 : Int32) => LX10_joins_10 p1 σ k153_3 n x2_16 x3_17 x4_18 x5_20)) (fun (k147_19 : Int32 → Int32 → Int32 → Option (Int32 × Sg)) => LX10_joins_25 p1 x5_13 σ k147_19 FUEL x2_10 x3_11 x4_12 x6_15))))
def XX10_joins (p1 : Int32) (σ : Sg) : Option (Int32 × Sg) := lt (fun (x3_1 : Int32) (x4_2 : Int32) => lt (fun (σ_4 : Sg) => if x3_1 < 0 then (some ((0 : Int32), σ_4)) else (some ((1 : Int32), σ_4))) (fun (k181_5 : Sg → Option (Int32 × Sg)) => if x3_1 < 0 then (k181_5 σ) else (if ib x3_1 6 then if ib x4_2 6 then lt (up σ 87 x3_1.toNatClampNeg ((σ 87 x3_1.toNatClampNeg) ||| (σ 87 x4_2.toNatClampNeg))) (fun (σ_8 : Sg) => lt (up σ_8 87 x4_2.toNatClampNeg (0 : Int32)) (fun (σ_9 : Sg) => k181_5 σ_9)) else none else none))) (fun (k153_3 : Int32 → Int32 → Option (Int32 × Sg)) => LX10_joins_10 p1 σ k153_3 FUEL (0 : Int32) (-1 : Int32) (-1 : Int32) (0 : Int32))
theorem lX10_joins_25 {X : CT} {ad : Nat → Nat} {rr : (Int32 × Sg)} {p1 : Int32} {x5_13 : Int32} {σ : Sg} {k147_19 : Int32 → Int32 → Int32 → Option (Int32 × Sg)}  (C : Cx X cX10_joins 8 RX10 (some .boolean) { frames := 2, cells := 0, slots := 0, locals := 44 }) (R : Ri X cX10_joins (some .boolean) ad (SHc ++ SHm) rr) (hk147_19 : ∀ (x2_16 : Int32) (x3_17 : Int32) (x4_18 : Int32), k147_19 x2_16 x3_17 x4_18 = some rr → AW X 0 0 ad (SHc ++ SHm) σ 147 [some (.ref 64), some (.int p1), some (.int x2_16), some (.int x3_17), some (.int x4_18), some (.int x5_13), none, none] []) : ∀ (n : Nat) (x2_21 : Int32) (x3_22 : Int32) (x4_23 : Int32) (x6_24 : Int32), LX10_joins_25 p1 x5_13 σ k147_19 n x2_21 x3_22 x4_23 x6_24 = some rr → AW X 0 0 ad (SHc ++ SHm) σ 25 [some (.ref 64), some (.int p1), some (.int x2_21), some (.int x3_22), some (.int x4_23), some (.int x5_13), some (.int x6_24), none] [] := by
  intro n
  induction n with
  | zero =>
    intro x2_21 x3_22 x4_23 x6_24 h
    rw [LX10_joins_25] at h
    cases h
  | succ n ih =>
    intro x2_21 x3_22 x4_23 x6_24 h
    rw [LX10_joins_25] at h
    refine a_iload C eX10_joins_25 rfl ?_
    refine a_aload_n C eX10_joins_27 rfl ?_
    obtain ⟨r_25, hq, h⟩ := b1_e h
    refine a_cVi0 C eX10_joins_28 wX10_98 ⟨Nat.le_of_ble_eq_true rfl, Nat.le_of_ble_eq_true rfl, rfl, rfl⟩ rfl sh_64 rfl (kX10_shops hq) (Nat.le_of_ble_eq_true rfl) ?_
    refine a_icmp_ge C eX10_joins_31 (fun hc => ?_) (fun hc => ?_)
    · replace h := it hc h
      exact a_less (lle_same (lle_same (lle_same (lle_same (lle_same (lle_same (lle_drop (lle_same lle_nil)))))))) (hk147_19 _ _ _ h)
    · replace h := ie hc h
      refine a_aload_n C eX10_joins_34 rfl ?_
      refine a_getR C eX10_joins_35 fX10_80 sh_64 rfl ?_
      refine a_iload C eX10_joins_38 rfl ?_
      obtain ⟨hb_26, h⟩ := gd h
      refine a_iald C eX10_joins_40 sh_87 hb_26 ?_
      refine jn (fun (kk : Int32 → Int32 → Int32 → Option (Int32 × Sg)) => ∀ (x2_27 : Int32) (x3_28 : Int32) (x4_29 : Int32), kk x2_27 x3_28 x4_29 = some rr → AW X 0 0 ad (SHc ++ SHm) σ 141 [some (.ref 64), some (.int p1), some (.int x2_27), some (.int x3_28), some (.int x4_29), some (.int x5_13), some (.int x6_24), none] []) h ?_ (fun k141_30 hk141_30 h => ?_)
      · intro x2_27 x3_28 x4_29 h
        refine a_inc C eX10_joins_141 rfl c_iconst_1 h (fun z => [some (.ref 64), some (.int p1), some (.int x2_27), some (.int x3_28), some (.int x4_29), some (.int x5_13), some (.int z), none]) (fun _ => rfl) (fun x6_31 h => ?_)
        refine a_goto C eX10_joins_144 ?_
        exact a_less (lle_same (lle_same (lle_same (lle_same (lle_same (lle_same (lle_same (lle_same lle_nil)))))))) (ih _ _ _ _ h)
      refine a_if_eq C eX10_joins_41 (fun hc => ?_) (fun hc => ?_)
      · replace h := it hc h
        exact a_less (lle_same (lle_same (lle_same (lle_same (lle_same (lle_same (lle_same (lle_same lle_nil)))))))) (hk141_30 _ _ _ h)
      · replace h := ie hc h
        refine a_aload_n C eX10_joins_44 rfl ?_
        refine a_getR C eX10_joins_45 fX10_80 sh_64 rfl ?_
        refine a_iload C eX10_joins_48 rfl ?_
        obtain ⟨hb_32, h⟩ := gd h
        refine a_iald C eX10_joins_50 sh_87 hb_32 ?_
        refine a_if_eq C eX10_joins_51 (fun hc => ?_) (fun hc => ?_)
        · replace h := it hc h
          exact a_less (lle_same (lle_same (lle_same (lle_same (lle_same (lle_same (lle_same (lle_same lle_nil)))))))) (hk141_30 _ _ _ h)
        · replace h := ie hc h
          refine a_aload_n C eX10_joins_54 rfl ?_
          refine a_aload_n C eX10_joins_55 rfl ?_
          refine a_getR C eX10_joins_56 fX10_80 sh_64 rfl ?_
          refine a_iload C eX10_joins_59 rfl ?_
          refine a_iald C eX10_joins_61 sh_87 hb_26 ?_
          refine a_aload_n C eX10_joins_62 rfl ?_
          refine a_getR C eX10_joins_63 fX10_80 sh_64 rfl ?_
          refine a_iload C eX10_joins_66 rfl ?_
          refine a_iald C eX10_joins_68 sh_87 hb_32 ?_
          refine a_ior C eX10_joins_69 ?_
          obtain ⟨r_33, hq, h⟩ := b1_e h
          refine a_cVi1 C eX10_joins_70 wX10_275 ⟨Nat.le_of_ble_eq_true rfl, Nat.le_of_ble_eq_true rfl, rfl, rfl⟩ rfl sh_64 rfl (kX10_loadsOf hq) (Nat.le_of_ble_eq_true rfl) ?_
          refine a_iload_n C eX10_joins_73 rfl ?_
          refine a_icmp_le C eX10_joins_74 (fun hc => ?_) (fun hc => ?_)
          · replace h := it hc h
            refine a_aload_n C eX10_joins_80 rfl ?_
            refine a_aload_n C eX10_joins_81 rfl ?_
            refine a_getR C eX10_joins_82 fX10_80 sh_64 rfl ?_
            refine a_iload C eX10_joins_85 rfl ?_
            refine a_iald C eX10_joins_87 sh_87 hb_26 ?_
            obtain ⟨r_34, hq, h⟩ := b1_e h
            refine a_cVi1 C eX10_joins_88 wX10_237 ⟨Nat.le_of_ble_eq_true rfl, Nat.le_of_ble_eq_true rfl, rfl, rfl⟩ rfl sh_64 rfl (kX10_costOfSet hq) (Nat.le_of_ble_eq_true rfl) ?_
            refine a_aload_n C eX10_joins_91 rfl ?_
            refine a_aload_n C eX10_joins_92 rfl ?_
            refine a_getR C eX10_joins_93 fX10_80 sh_64 rfl ?_
            refine a_iload C eX10_joins_96 rfl ?_
            refine a_iald C eX10_joins_98 sh_87 hb_32 ?_
            obtain ⟨r_35, hq, h⟩ := b1_e h
            refine a_cVi1 C eX10_joins_99 wX10_237 ⟨Nat.le_of_ble_eq_true rfl, Nat.le_of_ble_eq_true rfl, rfl, rfl⟩ rfl sh_64 rfl (kX10_costOfSet hq) (Nat.le_of_ble_eq_true rfl) ?_
            refine a_iadd C eX10_joins_102 ?_
            refine a_aload_n C eX10_joins_103 rfl ?_
            refine a_aload_n C eX10_joins_104 rfl ?_
            refine a_getR C eX10_joins_105 fX10_80 sh_64 rfl ?_
            refine a_iload C eX10_joins_108 rfl ?_
            refine a_iald C eX10_joins_110 sh_87 hb_26 ?_
            refine a_aload_n C eX10_joins_111 rfl ?_
            refine a_getR C eX10_joins_112 fX10_80 sh_64 rfl ?_
            refine a_iload C eX10_joins_115 rfl ?_
            refine a_iald C eX10_joins_117 sh_87 hb_32 ?_
            refine a_ior C eX10_joins_118 ?_
            obtain ⟨r_36, hq, h⟩ := b1_e h
            refine a_cVi1 C eX10_joins_119 wX10_237 ⟨Nat.le_of_ble_eq_true rfl, Nat.le_of_ble_eq_true rfl, rfl, rfl⟩ rfl sh_64 rfl (kX10_costOfSet hq) (Nat.le_of_ble_eq_true rfl) ?_
            refine a_isub C eX10_joins_122 ?_
            refine a_lt h (fun x7_37 h => ?_)
            refine a_ist C eX10_joins_123 (Nat.le_of_ble_eq_true rfl) [some (.ref 64), some (.int p1), some (.int x2_21), some (.int x3_22), some (.int x4_23), some (.int x5_13), some (.int x6_24), some (.int x7_37)] rfl ?_
            refine a_iload C eX10_joins_125 rfl ?_
            refine a_iload_n C eX10_joins_127 rfl ?_
            refine a_icmp_le C eX10_joins_128 (fun hc => ?_) (fun hc => ?_)
            · replace h := it hc h
              exact a_less (lle_same (lle_same (lle_same (lle_same (lle_same (lle_same (lle_same (lle_drop lle_nil)))))))) (hk141_30 _ _ _ h)
            · replace h := ie hc h
              refine a_iload C eX10_joins_131 rfl ?_
              refine a_ist_n C eX10_joins_133 (Nat.le_of_ble_eq_true rfl) [some (.ref 64), some (.int p1), some (.int x7_37), some (.int x3_22), some (.int x4_23), some (.int x5_13), some (.int x6_24), some (.int x7_37)] rfl ?_
              refine a_iload C eX10_joins_134 rfl ?_
              refine a_ist_n C eX10_joins_136 (Nat.le_of_ble_eq_true rfl) [some (.ref 64), some (.int p1), some (.int x7_37), some (.int x5_13), some (.int x4_23), some (.int x5_13), some (.int x6_24), some (.int x7_37)] rfl ?_
              refine a_iload C eX10_joins_137 rfl ?_
              refine a_ist C eX10_joins_139 (Nat.le_of_ble_eq_true rfl) [some (.ref 64), some (.int p1), some (.int x7_37), some (.int x5_13), some (.int x6_24), some (.int x5_13), some (.int x6_24), some (.int x7_37)] rfl ?_
              exact a_less (lle_same (lle_same (lle_same (lle_same (lle_same (lle_same (lle_same (lle_drop lle_nil)))))))) (hk141_30 _ _ _ h)
          · replace h := ie hc h
            refine a_goto C eX10_joins_77 ?_
            exact a_less (lle_same (lle_same (lle_same (lle_same (lle_same (lle_same (lle_same (lle_same lle_nil)))))))) (hk141_30 _ _ _ h)
theorem lX10_joins_10 {X : CT} {ad : Nat → Nat} {rr : (Int32 × Sg)} {p1 : Int32} {σ : Sg} {k153_3 : Int32 → Int32 → Option (Int32 × Sg)}  (C : Cx X cX10_joins 8 RX10 (some .boolean) { frames := 2, cells := 0, slots := 0, locals := 44 }) (R : Ri X cX10_joins (some .boolean) ad (SHc ++ SHm) rr) (hk153_3 : ∀ (x3_1 : Int32) (x4_2 : Int32), k153_3 x3_1 x4_2 = some rr → AW X 0 0 ad (SHc ++ SHm) σ 153 [some (.ref 64), none, none, some (.int x3_1), some (.int x4_2), none, none, none] []) : ∀ (n : Nat) (x2_10 : Int32) (x3_11 : Int32) (x4_12 : Int32) (x5_13 : Int32), LX10_joins_10 p1 σ k153_3 n x2_10 x3_11 x4_12 x5_13 = some rr → AW X 0 0 ad (SHc ++ SHm) σ 10 [some (.ref 64), some (.int p1), some (.int x2_10), some (.int x3_11), some (.int x4_12), some (.int x5_13), none, none] [] := by
  intro n
  induction n with
  | zero =>
    intro x2_10 x3_11 x4_12 x5_13 h
    rw [LX10_joins_10] at h
    cases h
  | succ n ih =>
    intro x2_10 x3_11 x4_12 x5_13 h
    rw [LX10_joins_10] at h
    refine a_iload C eX10_joins_10 rfl ?_
    refine a_aload_n C eX10_joins_12 rfl ?_
    obtain ⟨r_14, hq, h⟩ := b1_e h
    refine a_cVi0 C eX10_joins_13 wX10_98 ⟨Nat.le_of_ble_eq_true rfl, Nat.le_of_ble_eq_true rfl, rfl, rfl⟩ rfl sh_64 rfl (kX10_shops hq) (Nat.le_of_ble_eq_true rfl) ?_
    refine a_icmp_ge C eX10_joins_16 (fun hc => ?_) (fun hc => ?_)
    · replace h := it hc h
      exact a_less (lle_same (lle_drop (lle_drop (lle_same (lle_same (lle_drop (lle_same (lle_same lle_nil)))))))) (hk153_3 _ _ h)
    · replace h := ie hc h
      refine a_iload C eX10_joins_19 rfl ?_
      refine a_iconst C eX10_joins_21 (1 : Int32) c_iconst_1 ?_
      refine a_iadd C eX10_joins_22 ?_
      refine a_lt h (fun x6_15 h => ?_)
      refine a_ist C eX10_joins_23 (Nat.le_of_ble_eq_true rfl) [some (.ref 64), some (.int p1), some (.int x2_10), some (.int x3_11), some (.int x4_12), some (.int x5_13), some (.int x6_15), none] rfl ?_
      refine jn (fun (kk : Int32 → Int32 → Int32 → Option (Int32 × Sg)) => ∀ (x2_16 : Int32) (x3_17 : Int32) (x4_18 : Int32), kk x2_16 x3_17 x4_18 = some rr → AW X 0 0 ad (SHc ++ SHm) σ 147 [some (.ref 64), some (.int p1), some (.int x2_16), some (.int x3_17), some (.int x4_18), some (.int x5_13), none, none] []) h ?_ (fun k147_19 hk147_19 h => ?_)
      · intro x2_16 x3_17 x4_18 h
        refine a_inc C eX10_joins_147 rfl c_iconst_1 h (fun z => [some (.ref 64), some (.int p1), some (.int x2_16), some (.int x3_17), some (.int x4_18), some (.int z), none, none]) (fun _ => rfl) (fun x5_20 h => ?_)
        refine a_goto C eX10_joins_150 ?_
        exact a_less (lle_same (lle_same (lle_same (lle_same (lle_same (lle_same (lle_same (lle_same lle_nil)))))))) (ih _ _ _ _ h)
      exact a_less (lle_same (lle_same (lle_same (lle_same (lle_same (lle_same (lle_same (lle_same lle_nil)))))))) (lX10_joins_25  C R hk147_19 _ _ _ _ _ h)
theorem kX10_joins {p1 : Int32} {σ : Sg} {rr : (Int32 × Sg)}  (h : XX10_joins p1 σ = some rr) : Ci MX10_joins [.ref 64, .int p1] (SHc ++ SHm) σ rr := by
  refine Ci.start rfl rfl (Nat.le_of_ble_eq_true rfl) ?_
  intro X ad C R
  replace C : Cx X cX10_joins 8 RX10 (some .boolean) { frames := 2, cells := 0, slots := 0, locals := 44 } := C
  replace R : Ri X cX10_joins (some .boolean) ad (SHc ++ SHm) rr := R
  show AW X 0 0 ad (SHc ++ SHm) σ 0 [some (.ref 64), some (.int p1), none, none, none, none, none, none] []
  rw [XX10_joins] at h
  refine a_iconst C eX10_joins_0 (0 : Int32) c_iconst_0 ?_
  refine a_ist_n C eX10_joins_1 (Nat.le_of_ble_eq_true rfl) [some (.ref 64), some (.int p1), some (.int (0 : Int32)), none, none, none, none, none] rfl ?_
  refine a_iconst C eX10_joins_2 (-1 : Int32) c_iconst_m1 ?_
  refine a_ist_n C eX10_joins_3 (Nat.le_of_ble_eq_true rfl) [some (.ref 64), some (.int p1), some (.int (0 : Int32)), some (.int (-1 : Int32)), none, none, none, none] rfl ?_
  refine a_iconst C eX10_joins_4 (-1 : Int32) c_iconst_m1 ?_
  refine a_ist C eX10_joins_5 (Nat.le_of_ble_eq_true rfl) [some (.ref 64), some (.int p1), some (.int (0 : Int32)), some (.int (-1 : Int32)), some (.int (-1 : Int32)), none, none, none] rfl ?_
  refine a_iconst C eX10_joins_7 (0 : Int32) c_iconst_0 ?_
  refine a_ist C eX10_joins_8 (Nat.le_of_ble_eq_true rfl) [some (.ref 64), some (.int p1), some (.int (0 : Int32)), some (.int (-1 : Int32)), some (.int (-1 : Int32)), some (.int (0 : Int32)), none, none] rfl ?_
  refine jn (fun (kk : Int32 → Int32 → Option (Int32 × Sg)) => ∀ (x3_1 : Int32) (x4_2 : Int32), kk x3_1 x4_2 = some rr → AW X 0 0 ad (SHc ++ SHm) σ 153 [some (.ref 64), none, none, some (.int x3_1), some (.int x4_2), none, none, none] []) h ?_ (fun k153_3 hk153_3 h => ?_)
  · intro x3_1 x4_2 h
    refine a_iload_n C eX10_joins_153 rfl ?_
    refine jn (fun (kk : Sg → Option (Int32 × Sg)) => ∀ (σ_4 : Sg), kk σ_4 = some rr → AW X 0 0 ad (SHc ++ SHm) σ_4 181 [none, none, none, some (.int x3_1), none, none, none, none] []) h ?_ (fun k181_5 hk181_5 h => ?_)
    · intro σ_4 h
      refine a_iload_n C eX10_joins_181 rfl ?_
      refine a_if_lt C eX10_joins_182 (fun hc => ?_) (fun hc => ?_)
      · replace h := it hc h
        refine a_iconst C eX10_joins_189 (0 : Int32) c_iconst_0 ?_
        exact rt_i R eX10_joins_190 h nb_0
      · replace h := ie hc h
        refine a_iconst C eX10_joins_185 (1 : Int32) c_iconst_1 ?_
        refine a_goto C eX10_joins_186 ?_
        exact rt_i R eX10_joins_190 h nb_1
    refine a_if_lt C eX10_joins_154 (fun hc => ?_) (fun hc => ?_)
    · replace h := it hc h
      exact a_less (lle_drop (lle_same (lle_same (lle_same (lle_drop (lle_same (lle_same (lle_same lle_nil)))))))) (hk181_5 _ h)
    · replace h := ie hc h
      refine a_aload_n C eX10_joins_157 rfl ?_
      refine a_getR C eX10_joins_158 fX10_80 sh_64 rfl ?_
      refine a_iload_n C eX10_joins_161 rfl ?_
      refine a_dup2 C eX10_joins_162 rfl rfl ?_
      obtain ⟨hb_6, h⟩ := gd h
      refine a_iald C eX10_joins_163 sh_87 hb_6 ?_
      refine a_aload_n C eX10_joins_164 rfl ?_
      refine a_getR C eX10_joins_165 fX10_80 sh_64 rfl ?_
      refine a_iload C eX10_joins_168 rfl ?_
      obtain ⟨hb_7, h⟩ := gd h
      refine a_iald C eX10_joins_170 sh_87 hb_7 ?_
      refine a_ior C eX10_joins_171 ?_
      refine a_iastL C eX10_joins_172 sh_87 hb_6 h (fun σ_8 h => ?_)
      refine a_aload_n C eX10_joins_173 rfl ?_
      refine a_getR C eX10_joins_174 fX10_80 sh_64 rfl ?_
      refine a_iload C eX10_joins_177 rfl ?_
      refine a_iconst C eX10_joins_179 (0 : Int32) c_iconst_0 ?_
      refine a_iastL C eX10_joins_180 sh_87 hb_7 h (fun σ_9 h => ?_)
      exact a_less (lle_drop (lle_same (lle_same (lle_same (lle_drop (lle_same (lle_same (lle_same lle_nil)))))))) (hk181_5 _ h)
  exact a_less (lle_same (lle_same (lle_same (lle_same (lle_same (lle_same (lle_same (lle_same lle_nil)))))))) (lX10_joins_10  C R hk153_3 _ _ _ _ _ h)
/-! ShelfDrivesModel.savings(II)I -/
def LX10_savings_105 (σ_9 : Sg) (k154_13 : Int32 → Int32 → Option (Int32 × Sg)) : Nat → Int32 → Int32 → Int32 → Option (Int32 × Sg)
  | 0, _, _, _ => none
  | n + 1, x5_14, x6_15, x7_16 => if (6 : Int32) ≤ x7_16 then (k154_13 x5_14 x6_15) else (if ib x7_16 6 then lt (fun (s_18 : Int32) => lt (x5_14 + s_18) (fun (x5_20 : Int32) => b1 (XX10_costOfSet (σ_9 87 x7_16.toNatClampNeg) σ_9) (fun (r_21 : Int32) => lt (x6_15 + r_21) (fun (x6_22 : Int32) => lt (x7_16 + (1 : Int32)) (fun (x7_23 : Int32) => LX10_savings_105 σ_9 k154_13 n x5_20 x6_22 x7_23))))) (fun (k129_19 : Int32 → Option (Int32 × Sg)) => if (σ_9 87 x7_16.toNatClampNeg) = 0 then (k129_19 (0 : Int32)) else (k129_19 (1 : Int32))) else none)
def LX10_savings_77 (k96_10 : Sg → Option (Int32 × Sg)) : Nat → Int32 → Sg → Option (Int32 × Sg)
  | 0, _, _ => none
  | n + 1, x4_24, σ_25 => if x4_24 = 0 then (k96_10 σ_25) else (b1 (XX10_number (3 : Int32) σ_25) (fun (r_26 : Int32) => b2 (XX10_joins r_26 σ_25) (fun (r_27 : Int32) (σ_28 : Sg) => LX10_savings_77 k96_10 n r_27 σ_28)))
def LX10_savings_37 (r_5 : Int32) (k74_8 : Sg → Option (Int32 × Sg)) : Nat → Int32 → Sg → Option (Int32 × Sg)
  | 0, _, _ => none
  | n + 1, x4_29, σ_30 => if (6 : Int32) ≤ x4_29 then (k74_8 σ_30) else (b1 (XX10_isOf r_5 x4_29) (fun (r_31 : Int32) => lt (fun (s_32 : Int32) => if ib x4_29 6 then lt (up σ_30 87 x4_29.toNatClampNeg s_32) (fun (σ_34 : Sg) => lt (x4_29 + (1 : Int32)) (fun (x4_36 : Int32) => LX10_savings_37 r_5 k74_8 n x4_36 σ_34)) else none) (fun (k67_33 : Int32 → Option (Int32 × Sg)) => if r_31 = 0 then (k67_33 (0 : Int32)) else (k67_33 ((1 : Int32) <<< (x4_29 &&& 31))))))
def XX10_savings (p1 : Int32) (p2 : Int32) (σ : Sg) : Option (Int32 × Sg) := lt (up σ 64 0 (0 : Int32)) (fun (σ_1 : Sg) => b1 (XX10_isDay p1 σ_1) (fun (r_2 : Int32) => if r_2 = 0 then (some ((-1 : Int32), σ_1)) else (b1 (XX10_in p2 (0 : Int32) (1 : Int32)) (fun (r_3 : Int32) => if r_3 = 0 then (some ((-1 : Int32), σ_1)) else (b1 (XX10_layRun σ_1) (fun (σ_4 : Sg) => b2 (XX10_layLoads p1 σ_4) (fun (r_5 : Int32) (σ_6 : Sg) => lt (fun (σ_7 : Sg) => lt (fun (σ_9 : Sg) => lt (fun (x5_11 : Int32) (x6_12 : Int32) => if p2 = 0 then (some (x6_12, σ_9)) else (some (x5_11, σ_9))) (fun (k154_13 : Int32 → Int32 → Option (Int32 × Sg)) => LX10_savings_105 σ_9 k154_13 FUEL (0 : Int32) (0 : Int32) (0 : Int32))) (fun (k96_10 : Sg → Option (Int32 × Sg)) => LX10_savings_77 k96_10 FUEL (1 : Int32) σ_7)) (fun (k74_8 : Sg → Option (Int32 × Sg)) => LX10_savings_37 r_5 k74_8 FUEL (0 : Int32) σ_6))))))))
theorem lX10_savings_105 {X : CT} {ad : Nat → Nat} {rr : (Int32 × Sg)} {p2 : Int32} {σ_9 : Sg} {k154_13 : Int32 → Int32 → Option (Int32 × Sg)}  (C : Cx X cX10_savings 8 RX10 (some .int) { frames := 4, cells := 0, slots := 0, locals := 88 }) (R : Ri X cX10_savings (some .int) ad (SHc ++ SHm) rr) (hk154_13 : ∀ (x5_11 : Int32) (x6_12 : Int32), k154_13 x5_11 x6_12 = some rr → AW X 0 0 ad (SHc ++ SHm) σ_9 154 [none, none, some (.int p2), none, none, some (.int x5_11), some (.int x6_12), none] []) : ∀ (n : Nat) (x5_14 : Int32) (x6_15 : Int32) (x7_16 : Int32), LX10_savings_105 σ_9 k154_13 n x5_14 x6_15 x7_16 = some rr → AW X 0 0 ad (SHc ++ SHm) σ_9 105 [some (.ref 64), none, some (.int p2), none, none, some (.int x5_14), some (.int x6_15), some (.int x7_16)] [] := by
  intro n
  induction n with
  | zero =>
    intro x5_14 x6_15 x7_16 h
    rw [LX10_savings_105] at h
    cases h
  | succ n ih =>
    intro x5_14 x6_15 x7_16 h
    rw [LX10_savings_105] at h
    refine a_iload C eX10_savings_105 rfl ?_
    refine a_bipush C eX10_savings_107 (6 : Int32) c_bipush_6 ?_
    refine a_icmp_ge C eX10_savings_109 (fun hc => ?_) (fun hc => ?_)
    · replace h := it hc h
      exact a_less (lle_drop (lle_same (lle_same (lle_same (lle_same (lle_same (lle_same (lle_drop lle_nil)))))))) (hk154_13 _ _ h)
    · replace h := ie hc h
      refine a_iload C eX10_savings_112 rfl ?_
      refine a_aload_n C eX10_savings_114 rfl ?_
      refine a_getR C eX10_savings_115 fX10_80 sh_64 rfl ?_
      refine a_iload C eX10_savings_118 rfl ?_
      obtain ⟨hb_17, h⟩ := gd h
      refine a_iald C eX10_savings_120 sh_87 hb_17 ?_
      refine jn (fun (kk : Int32 → Option (Int32 × Sg)) => ∀ (s_18 : Int32), kk s_18 = some rr → AW X 0 0 ad (SHc ++ SHm) σ_9 129 [some (.ref 64), none, some (.int p2), none, none, none, some (.int x6_15), some (.int x7_16)] [.int s_18, .int x5_14]) h ?_ (fun k129_19 hk129_19 h => ?_)
      · intro s_18 h
        refine a_iadd C eX10_savings_129 ?_
        refine a_lt h (fun x5_20 h => ?_)
        refine a_ist C eX10_savings_130 (Nat.le_of_ble_eq_true rfl) [some (.ref 64), none, some (.int p2), none, none, some (.int x5_20), some (.int x6_15), some (.int x7_16)] rfl ?_
        refine a_iload C eX10_savings_132 rfl ?_
        refine a_aload_n C eX10_savings_134 rfl ?_
        refine a_aload_n C eX10_savings_135 rfl ?_
        refine a_getR C eX10_savings_136 fX10_80 sh_64 rfl ?_
        refine a_iload C eX10_savings_139 rfl ?_
        refine a_iald C eX10_savings_141 sh_87 hb_17 ?_
        obtain ⟨r_21, hq, h⟩ := b1_e h
        refine a_cVi1 C eX10_savings_142 wX10_237 ⟨Nat.le_of_ble_eq_true rfl, Nat.le_of_ble_eq_true rfl, rfl, rfl⟩ rfl sh_64 rfl (kX10_costOfSet hq) (Nat.le_of_ble_eq_true rfl) ?_
        refine a_iadd C eX10_savings_145 ?_
        refine a_lt h (fun x6_22 h => ?_)
        refine a_ist C eX10_savings_146 (Nat.le_of_ble_eq_true rfl) [some (.ref 64), none, some (.int p2), none, none, some (.int x5_20), some (.int x6_22), some (.int x7_16)] rfl ?_
        refine a_inc C eX10_savings_148 rfl c_iconst_1 h (fun z => [some (.ref 64), none, some (.int p2), none, none, some (.int x5_20), some (.int x6_22), some (.int z)]) (fun _ => rfl) (fun x7_23 h => ?_)
        refine a_goto C eX10_savings_151 ?_
        exact a_less (lle_same (lle_same (lle_same (lle_same (lle_same (lle_same (lle_same (lle_same lle_nil)))))))) (ih _ _ _ h)
      refine a_if_ne C eX10_savings_121 (fun hc => ?_) (fun hc => ?_)
      · replace h := ie hc h
        refine a_iconst C eX10_savings_128 (1 : Int32) c_iconst_1 ?_
        exact a_less (lle_same (lle_same (lle_same (lle_same (lle_same (lle_drop (lle_same (lle_same lle_nil)))))))) (hk129_19 _ h)
      · replace h := it hc h
        refine a_iconst C eX10_savings_124 (0 : Int32) c_iconst_0 ?_
        refine a_goto C eX10_savings_125 ?_
        exact a_less (lle_same (lle_same (lle_same (lle_same (lle_same (lle_drop (lle_same (lle_same lle_nil)))))))) (hk129_19 _ h)
theorem lX10_savings_77 {X : CT} {ad : Nat → Nat} {rr : (Int32 × Sg)} {p2 : Int32} {k96_10 : Sg → Option (Int32 × Sg)}  (C : Cx X cX10_savings 8 RX10 (some .int) { frames := 4, cells := 0, slots := 0, locals := 88 }) (R : Ri X cX10_savings (some .int) ad (SHc ++ SHm) rr) (hk96_10 : ∀ (σ_9 : Sg), k96_10 σ_9 = some rr → AW X 0 0 ad (SHc ++ SHm) σ_9 96 [some (.ref 64), none, some (.int p2), none, none, none, none, none] []) : ∀ (n : Nat) (x4_24 : Int32) (σ_25 : Sg), LX10_savings_77 k96_10 n x4_24 σ_25 = some rr → AW X 0 0 ad (SHc ++ SHm) σ_25 77 [some (.ref 64), none, some (.int p2), none, some (.int x4_24), none, none, none] [] := by
  intro n
  induction n with
  | zero =>
    intro x4_24 σ_25 h
    rw [LX10_savings_77] at h
    cases h
  | succ n ih =>
    intro x4_24 σ_25 h
    rw [LX10_savings_77] at h
    refine a_iload C eX10_savings_77 rfl ?_
    refine a_if_eq C eX10_savings_79 (fun hc => ?_) (fun hc => ?_)
    · replace h := it hc h
      exact a_less (lle_same (lle_same (lle_same (lle_same (lle_drop (lle_same (lle_same (lle_same lle_nil)))))))) (hk96_10 _ h)
    · replace h := ie hc h
      refine a_aload_n C eX10_savings_82 rfl ?_
      refine a_aload_n C eX10_savings_83 rfl ?_
      refine a_iconst C eX10_savings_84 (3 : Int32) c_iconst_3 ?_
      obtain ⟨r_26, hq, h⟩ := b1_e h
      refine a_cVi1 C eX10_savings_85 wX10_224 ⟨Nat.le_of_ble_eq_true rfl, Nat.le_of_ble_eq_true rfl, rfl, rfl⟩ rfl sh_64 rfl (kX10_number hq) (Nat.le_of_ble_eq_true rfl) ?_
      obtain ⟨r_27, σ_28, hq, h⟩ := b2_e h
      refine a_cVi1 C eX10_savings_88 wX10_296 ⟨Nat.le_of_ble_eq_true rfl, Nat.le_of_ble_eq_true rfl, rfl, rfl⟩ rfl sh_64 rfl (kX10_joins hq) (Nat.le_of_ble_eq_true rfl) ?_
      refine a_ist C eX10_savings_91 (Nat.le_of_ble_eq_true rfl) [some (.ref 64), none, some (.int p2), none, some (.int r_27), none, none, none] rfl ?_
      refine a_goto C eX10_savings_93 ?_
      exact a_less (lle_same (lle_same (lle_same (lle_same (lle_same (lle_same (lle_same (lle_same lle_nil)))))))) (ih _ _ h)
theorem lX10_savings_37 {X : CT} {ad : Nat → Nat} {rr : (Int32 × Sg)} {p2 : Int32} {r_5 : Int32} {k74_8 : Sg → Option (Int32 × Sg)}  (C : Cx X cX10_savings 8 RX10 (some .int) { frames := 4, cells := 0, slots := 0, locals := 88 }) (R : Ri X cX10_savings (some .int) ad (SHc ++ SHm) rr) (hk74_8 : ∀ (σ_7 : Sg), k74_8 σ_7 = some rr → AW X 0 0 ad (SHc ++ SHm) σ_7 74 [some (.ref 64), none, some (.int p2), none, none, none, none, none] []) : ∀ (n : Nat) (x4_29 : Int32) (σ_30 : Sg), LX10_savings_37 r_5 k74_8 n x4_29 σ_30 = some rr → AW X 0 0 ad (SHc ++ SHm) σ_30 37 [some (.ref 64), none, some (.int p2), some (.int r_5), some (.int x4_29), none, none, none] [] := by
  intro n
  induction n with
  | zero =>
    intro x4_29 σ_30 h
    rw [LX10_savings_37] at h
    cases h
  | succ n ih =>
    intro x4_29 σ_30 h
    rw [LX10_savings_37] at h
    refine a_iload C eX10_savings_37 rfl ?_
    refine a_bipush C eX10_savings_39 (6 : Int32) c_bipush_6 ?_
    refine a_icmp_ge C eX10_savings_41 (fun hc => ?_) (fun hc => ?_)
    · replace h := it hc h
      exact a_less (lle_same (lle_same (lle_same (lle_drop (lle_drop (lle_same (lle_same (lle_same lle_nil)))))))) (hk74_8 _ h)
    · replace h := ie hc h
      refine a_aload_n C eX10_savings_44 rfl ?_
      refine a_getR C eX10_savings_45 fX10_80 sh_64 rfl ?_
      refine a_iload C eX10_savings_48 rfl ?_
      refine a_iload_n C eX10_savings_50 rfl ?_
      refine a_iload C eX10_savings_51 rfl ?_
      obtain ⟨r_31, hq, h⟩ := b1_e h
      refine a_cSi2 C eX10_savings_53 wX10_176 ⟨Nat.le_of_ble_eq_true rfl, Nat.le_of_ble_eq_true rfl, rfl, rfl⟩ rfl (kX10_isOf hq) (Nat.le_of_ble_eq_true rfl) ?_
      refine jn (fun (kk : Int32 → Option (Int32 × Sg)) => ∀ (s_32 : Int32), kk s_32 = some rr → AW X 0 0 ad (SHc ++ SHm) σ_30 67 [some (.ref 64), none, some (.int p2), some (.int r_5), some (.int x4_29), none, none, none] [.int s_32, .int x4_29, .ref 87]) h ?_ (fun k67_33 hk67_33 h => ?_)
      · intro s_32 h
        obtain ⟨hb_35, h⟩ := gd h
        refine a_iastL C eX10_savings_67 sh_87 hb_35 h (fun σ_34 h => ?_)
        refine a_inc C eX10_savings_68 rfl c_iconst_1 h (fun z => [some (.ref 64), none, some (.int p2), some (.int r_5), some (.int z), none, none, none]) (fun _ => rfl) (fun x4_36 h => ?_)
        refine a_goto C eX10_savings_71 ?_
        exact a_less (lle_same (lle_same (lle_same (lle_same (lle_same (lle_same (lle_same (lle_same lle_nil)))))))) (ih _ _ h)
      refine a_if_eq C eX10_savings_56 (fun hc => ?_) (fun hc => ?_)
      · replace h := it hc h
        refine a_iconst C eX10_savings_66 (0 : Int32) c_iconst_0 ?_
        exact a_less (lle_same (lle_same (lle_same (lle_same (lle_same (lle_same (lle_same (lle_same lle_nil)))))))) (hk67_33 _ h)
      · replace h := ie hc h
        refine a_iconst C eX10_savings_59 (1 : Int32) c_iconst_1 ?_
        refine a_iload C eX10_savings_60 rfl ?_
        refine a_ishl C eX10_savings_62 ?_
        refine a_goto C eX10_savings_63 ?_
        exact a_less (lle_same (lle_same (lle_same (lle_same (lle_same (lle_same (lle_same (lle_same lle_nil)))))))) (hk67_33 _ h)
theorem kX10_savings {p1 : Int32} {p2 : Int32} {σ : Sg} {rr : (Int32 × Sg)}  (h : XX10_savings p1 p2 σ = some rr) : Ci MX10_savings [.ref 64, .int p1, .int p2] (SHc ++ SHm) σ rr := by
  refine Ci.start rfl rfl (Nat.le_of_ble_eq_true rfl) ?_
  intro X ad C R
  replace C : Cx X cX10_savings 8 RX10 (some .int) { frames := 4, cells := 0, slots := 0, locals := 88 } := C
  replace R : Ri X cX10_savings (some .int) ad (SHc ++ SHm) rr := R
  show AW X 0 0 ad (SHc ++ SHm) σ 0 [some (.ref 64), some (.int p1), some (.int p2), none, none, none, none, none] []
  rw [XX10_savings] at h
  refine a_aload_n C eX10_savings_0 rfl ?_
  refine a_iconst C eX10_savings_1 (0 : Int32) c_iconst_0 ?_
  refine a_putIL C eX10_savings_2 fX10_95 ftyX10 rfl rfl sh_64 rfl h (fun σ_1 h => ?_)
  refine a_aload_n C eX10_savings_5 rfl ?_
  refine a_iload_n C eX10_savings_6 rfl ?_
  obtain ⟨r_2, hq, h⟩ := b1_e h
  refine a_cVi1 C eX10_savings_7 wX10_256 ⟨Nat.le_of_ble_eq_true rfl, Nat.le_of_ble_eq_true rfl, rfl, rfl⟩ rfl sh_64 rfl (kX10_isDay hq) (Nat.le_of_ble_eq_true rfl) ?_
  refine a_if_eq C eX10_savings_10 (fun hc => ?_) (fun hc => ?_)
  · replace h := it hc h
    refine a_iconst C eX10_savings_22 (-1 : Int32) c_iconst_m1 ?_
    exact rt_i R eX10_savings_23 h nb_int
  · replace h := ie hc h
    refine a_iload_n C eX10_savings_13 rfl ?_
    refine a_iconst C eX10_savings_14 (0 : Int32) c_iconst_0 ?_
    refine a_iconst C eX10_savings_15 (1 : Int32) c_iconst_1 ?_
    obtain ⟨r_3, hq, h⟩ := b1_e h
    refine a_cSi3 C eX10_savings_16 wX10_102 ⟨Nat.le_of_ble_eq_true rfl, Nat.le_of_ble_eq_true rfl, rfl, rfl⟩ rfl (kX10_in hq) (Nat.le_of_ble_eq_true rfl) ?_
    refine a_if_ne C eX10_savings_19 (fun hc => ?_) (fun hc => ?_)
    · replace h := ie hc h
      refine a_aload_n C eX10_savings_24 rfl ?_
      obtain ⟨σ_4, hq, h⟩ := b1_e h
      refine a_cVv0 C eX10_savings_25 wX10_262 ⟨Nat.le_of_ble_eq_true rfl, Nat.le_of_ble_eq_true rfl, rfl, rfl⟩ rfl sh_64 rfl (kX10_layRun hq) (Nat.le_of_ble_eq_true rfl) ?_
      refine a_aload_n C eX10_savings_28 rfl ?_
      refine a_iload_n C eX10_savings_29 rfl ?_
      obtain ⟨r_5, σ_6, hq, h⟩ := b2_e h
      refine a_cVi1 C eX10_savings_30 wX10_281 ⟨Nat.le_of_ble_eq_true rfl, Nat.le_of_ble_eq_true rfl, rfl, rfl⟩ rfl sh_64 rfl (kX10_layLoads hq) (Nat.le_of_ble_eq_true rfl) ?_
      refine a_ist_n C eX10_savings_33 (Nat.le_of_ble_eq_true rfl) [some (.ref 64), some (.int p1), some (.int p2), some (.int r_5), none, none, none, none] rfl ?_
      refine a_iconst C eX10_savings_34 (0 : Int32) c_iconst_0 ?_
      refine a_ist C eX10_savings_35 (Nat.le_of_ble_eq_true rfl) [some (.ref 64), some (.int p1), some (.int p2), some (.int r_5), some (.int (0 : Int32)), none, none, none] rfl ?_
      refine jn (fun (kk : Sg → Option (Int32 × Sg)) => ∀ (σ_7 : Sg), kk σ_7 = some rr → AW X 0 0 ad (SHc ++ SHm) σ_7 74 [some (.ref 64), none, some (.int p2), none, none, none, none, none] []) h ?_ (fun k74_8 hk74_8 h => ?_)
      · intro σ_7 h
        refine a_iconst C eX10_savings_74 (1 : Int32) c_iconst_1 ?_
        refine a_ist C eX10_savings_75 (Nat.le_of_ble_eq_true rfl) [some (.ref 64), none, some (.int p2), none, some (.int (1 : Int32)), none, none, none] rfl ?_
        refine jn (fun (kk : Sg → Option (Int32 × Sg)) => ∀ (σ_9 : Sg), kk σ_9 = some rr → AW X 0 0 ad (SHc ++ SHm) σ_9 96 [some (.ref 64), none, some (.int p2), none, none, none, none, none] []) h ?_ (fun k96_10 hk96_10 h => ?_)
        · intro σ_9 h
          refine a_iconst C eX10_savings_96 (0 : Int32) c_iconst_0 ?_
          refine a_ist C eX10_savings_97 (Nat.le_of_ble_eq_true rfl) [some (.ref 64), none, some (.int p2), none, none, some (.int (0 : Int32)), none, none] rfl ?_
          refine a_iconst C eX10_savings_99 (0 : Int32) c_iconst_0 ?_
          refine a_ist C eX10_savings_100 (Nat.le_of_ble_eq_true rfl) [some (.ref 64), none, some (.int p2), none, none, some (.int (0 : Int32)), some (.int (0 : Int32)), none] rfl ?_
          refine a_iconst C eX10_savings_102 (0 : Int32) c_iconst_0 ?_
          refine a_ist C eX10_savings_103 (Nat.le_of_ble_eq_true rfl) [some (.ref 64), none, some (.int p2), none, none, some (.int (0 : Int32)), some (.int (0 : Int32)), some (.int (0 : Int32))] rfl ?_
          refine jn (fun (kk : Int32 → Int32 → Option (Int32 × Sg)) => ∀ (x5_11 : Int32) (x6_12 : Int32), kk x5_11 x6_12 = some rr → AW X 0 0 ad (SHc ++ SHm) σ_9 154 [none, none, some (.int p2), none, none, some (.int x5_11), some (.int x6_12), none] []) h ?_ (fun k154_13 hk154_13 h => ?_)
          · intro x5_11 x6_12 h
            refine a_iload_n C eX10_savings_154 rfl ?_
            refine a_if_ne C eX10_savings_155 (fun hc => ?_) (fun hc => ?_)
            · replace h := ie hc h
              refine a_iload C eX10_savings_163 rfl ?_
              exact rt_i R eX10_savings_165 h nb_int
            · replace h := it hc h
              refine a_iload C eX10_savings_158 rfl ?_
              refine a_goto C eX10_savings_160 ?_
              exact rt_i R eX10_savings_165 h nb_int
          exact a_less (lle_same (lle_same (lle_same (lle_same (lle_same (lle_same (lle_same (lle_same lle_nil)))))))) (lX10_savings_105  C R hk154_13 _ _ _ _ h)
        exact a_less (lle_same (lle_same (lle_same (lle_same (lle_same (lle_same (lle_same (lle_same lle_nil)))))))) (lX10_savings_77  C R hk96_10 _ _ _ h)
      exact a_less (lle_same (lle_drop (lle_same (lle_same (lle_same (lle_same (lle_same (lle_same lle_nil)))))))) (lX10_savings_37  C R hk74_8 _ _ _ h)
    · replace h := it hc h
      refine a_iconst C eX10_savings_22 (-1 : Int32) c_iconst_m1 ?_
      exact rt_i R eX10_savings_23 h nb_int
/-! ShelfDrivesModel.orders(I)I -/
def LX10_orders_4 (p1 : Int32) : Nat → Int32 → Int32 → Option Int32
  | 0, _, _ => none
  | n + 1, x1_1, x2_2 => if p1 < x2_2 then (some x1_1) else (lt (x1_1 * x2_2) (fun (x1_3 : Int32) => lt (x2_2 + (1 : Int32)) (fun (x2_4 : Int32) => LX10_orders_4 p1 n x1_3 x2_4)))
def XX10_orders (p1 : Int32) : Option Int32 := LX10_orders_4 p1 FUEL (1 : Int32) (2 : Int32)
theorem lX10_orders_4 {X : CT} {ad : Nat → Nat} {rr : Int32} {p1 : Int32} {σ : Sg}  (C : Cx X cX10_orders 3 RX10 (some .int) { frames := 0, cells := 0, slots := 0, locals := 0 }) (R : Ri X cX10_orders (some .int) ad (SHc ++ SHm) (rr, σ))  : ∀ (n : Nat) (x1_1 : Int32) (x2_2 : Int32), LX10_orders_4 p1 n x1_1 x2_2 = some rr → AW X 0 0 ad (SHc ++ SHm) σ 4 [some (.int p1), some (.int x1_1), some (.int x2_2)] [] := by
  intro n
  induction n with
  | zero =>
    intro x1_1 x2_2 h
    rw [LX10_orders_4] at h
    cases h
  | succ n ih =>
    intro x1_1 x2_2 h
    rw [LX10_orders_4] at h
    refine a_iload_n C eX10_orders_4 rfl ?_
    refine a_iload_n C eX10_orders_5 rfl ?_
    refine a_icmp_gt C eX10_orders_6 (fun hc => ?_) (fun hc => ?_)
    · replace h := it hc h
      refine a_iload_n C eX10_orders_19 rfl ?_
      exact rt_p R eX10_orders_20 h nb_int
    · replace h := ie hc h
      refine a_iload_n C eX10_orders_9 rfl ?_
      refine a_iload_n C eX10_orders_10 rfl ?_
      refine a_imul C eX10_orders_11 ?_
      refine a_lt h (fun x1_3 h => ?_)
      refine a_ist_n C eX10_orders_12 (Nat.le_of_ble_eq_true rfl) [some (.int p1), some (.int x1_3), some (.int x2_2)] rfl ?_
      refine a_inc C eX10_orders_13 rfl c_iconst_1 h (fun z => [some (.int p1), some (.int x1_3), some (.int z)]) (fun _ => rfl) (fun x2_4 h => ?_)
      refine a_goto C eX10_orders_16 ?_
      exact a_less (lle_same (lle_same (lle_same lle_nil))) (ih _ _ h)
theorem kX10_orders {p1 : Int32} {σ : Sg} {rr : Int32}  (h : XX10_orders p1 = some rr) : Ci MX10_orders [.int p1] (SHc ++ SHm) σ (rr, σ) := by
  refine Ci.start rfl rfl (Nat.le_of_ble_eq_true rfl) ?_
  intro X ad C R
  replace C : Cx X cX10_orders 3 RX10 (some .int) { frames := 0, cells := 0, slots := 0, locals := 0 } := C
  replace R : Ri X cX10_orders (some .int) ad (SHc ++ SHm) (rr, σ) := R
  show AW X 0 0 ad (SHc ++ SHm) σ 0 [some (.int p1), none, none] []
  rw [XX10_orders] at h
  refine a_iconst C eX10_orders_0 (1 : Int32) c_iconst_1 ?_
  refine a_ist_n C eX10_orders_1 (Nat.le_of_ble_eq_true rfl) [some (.int p1), some (.int (1 : Int32)), none] rfl ?_
  refine a_iconst C eX10_orders_2 (2 : Int32) c_iconst_2 ?_
  refine a_ist_n C eX10_orders_3 (Nat.le_of_ble_eq_true rfl) [some (.int p1), some (.int (1 : Int32)), some (.int (2 : Int32))] rfl ?_
  exact a_less (lle_same (lle_same (lle_same lle_nil))) (lX10_orders_4  C R  _ _ _ h)
/-! ShelfDrivesModel.share(III)I -/
def LX10_share_72 (p1 : Int32) (r_5 : Int32) (r_11 : Int32) (σ_10 : Sg) (k152_13 : Int32 → Option (Int32 × Sg)) : Nat → Int32 → Int32 → Option (Int32 × Sg)
  | 0, _, _ => none
  | n + 1, x6_18, x7_19 => if r_5 < x7_19 then (k152_13 x6_18) else (lt (fun (x6_20 : Int32) => lt (x7_19 + (1 : Int32)) (fun (x7_22 : Int32) => LX10_share_72 p1 r_5 r_11 σ_10 k152_13 n x6_20 x7_22)) (fun (k146_21 : Int32 → Option (Int32 × Sg)) => if (x7_19 &&& (r_5 ^^^ (-1 : Int32))) = 0 then (b1 (XX10_isOf x7_19 p1) (fun (r_23 : Int32) => if r_23 = 0 then (b1 (XX10_bits x7_19) (fun (r_24 : Int32) => b1 (XX10_orders r_24) (fun (r_25 : Int32) => b1 (XX10_orders ((r_11 - r_24) - (1 : Int32))) (fun (r_26 : Int32) => if ib (x7_19 ||| ((1 : Int32) <<< (p1 &&& 31))) 64 then if ib x7_19 64 then lt (x6_18 + ((r_25 * r_26) * ((σ_10 83 (x7_19 ||| ((1 : Int32) <<< (p1 &&& 31))).toNatClampNeg) - (σ_10 83 x7_19.toNatClampNeg)))) (fun (x6_29 : Int32) => k146_21 x6_29) else none else none)))) else (k146_21 x6_18))) else (k146_21 x6_18)))
def XX10_share (p1 : Int32) (p2 : Int32) (p3 : Int32) (σ : Sg) : Option (Int32 × Sg) := lt (up σ 64 0 (0 : Int32)) (fun (σ_1 : Sg) => b1 (XX10_isAt p1 p2 σ_1) (fun (r_2 : Int32) => if r_2 = 0 then (some ((-1 : Int32), σ_1)) else (b1 (XX10_in p3 (0 : Int32) (1 : Int32)) (fun (r_3 : Int32) => if r_3 = 0 then (some ((-1 : Int32), σ_1)) else (b1 (XX10_layRun σ_1) (fun (σ_4 : Sg) => b2 (XX10_layLoads p2 σ_4) (fun (r_5 : Int32) (σ_6 : Sg) => b1 (XX10_isOf r_5 p1) (fun (r_7 : Int32) => if r_7 = 0 then (some (p3, σ_6)) else (b1 (XX10_number (3 : Int32) σ_6) (fun (r_8 : Int32) => b2 (XX10_layParts r_5 r_8 σ_6) (fun (r_9 : Int32) (σ_10 : Sg) => b1 (XX10_bits r_5) (fun (r_11 : Int32) => lt (fun (x6_12 : Int32) => b1 (XX10_orders r_11) (fun (r_14 : Int32) => b1 (XX10_common x6_12 r_14) (fun (r_15 : Int32) => if p3 = 0 then (if ¬ r_15 = 0 then some (x6_12 / r_15, σ_10) else none) else (if ¬ r_15 = 0 then some (r_14 / r_15, σ_10) else none)))) (fun (k152_13 : Int32 → Option (Int32 × Sg)) => LX10_share_72 p1 r_5 r_11 σ_10 k152_13 FUEL (0 : Int32) (0 : Int32))))))))))))))
theorem lX10_share_72 {X : CT} {ad : Nat → Nat} {rr : (Int32 × Sg)} {p1 : Int32} {p3 : Int32} {r_5 : Int32} {r_11 : Int32} {σ_10 : Sg} {k152_13 : Int32 → Option (Int32 × Sg)}  (C : Cx X cX10_share 9 RX10 (some .int) { frames := 4, cells := 0, slots := 0, locals := 94 }) (R : Ri X cX10_share (some .int) ad (SHc ++ SHm) rr) (hk152_13 : ∀ (x6_12 : Int32), k152_13 x6_12 = some rr → AW X 0 0 ad (SHc ++ SHm) σ_10 152 [none, none, none, some (.int p3), none, some (.int r_11), some (.int x6_12), none, none] []) : ∀ (n : Nat) (x6_18 : Int32) (x7_19 : Int32), LX10_share_72 p1 r_5 r_11 σ_10 k152_13 n x6_18 x7_19 = some rr → AW X 0 0 ad (SHc ++ SHm) σ_10 72 [some (.ref 64), some (.int p1), none, some (.int p3), some (.int r_5), some (.int r_11), some (.int x6_18), some (.int x7_19), none] [] := by
  intro n
  induction n with
  | zero =>
    intro x6_18 x7_19 h
    rw [LX10_share_72] at h
    cases h
  | succ n ih =>
    intro x6_18 x7_19 h
    rw [LX10_share_72] at h
    refine a_iload C eX10_share_72 rfl ?_
    refine a_iload C eX10_share_74 rfl ?_
    refine a_icmp_gt C eX10_share_76 (fun hc => ?_) (fun hc => ?_)
    · replace h := it hc h
      exact a_less (lle_drop (lle_drop (lle_same (lle_same (lle_drop (lle_same (lle_same (lle_drop (lle_same lle_nil))))))))) (hk152_13 _ h)
    · replace h := ie hc h
      refine a_iload C eX10_share_79 rfl ?_
      refine a_iload C eX10_share_81 rfl ?_
      refine a_iconst C eX10_share_83 (-1 : Int32) c_iconst_m1 ?_
      refine a_ixor C eX10_share_84 ?_
      refine a_iand C eX10_share_85 ?_
      refine jn (fun (kk : Int32 → Option (Int32 × Sg)) => ∀ (x6_20 : Int32), kk x6_20 = some rr → AW X 0 0 ad (SHc ++ SHm) σ_10 146 [some (.ref 64), some (.int p1), none, some (.int p3), some (.int r_5), some (.int r_11), some (.int x6_20), some (.int x7_19), none] []) h ?_ (fun k146_21 hk146_21 h => ?_)
      · intro x6_20 h
        refine a_inc C eX10_share_146 rfl c_iconst_1 h (fun z => [some (.ref 64), some (.int p1), none, some (.int p3), some (.int r_5), some (.int r_11), some (.int x6_20), some (.int z), none]) (fun _ => rfl) (fun x7_22 h => ?_)
        refine a_goto C eX10_share_149 ?_
        exact a_less (lle_same (lle_same (lle_same (lle_same (lle_same (lle_same (lle_same (lle_same (lle_same lle_nil))))))))) (ih _ _ h)
      refine a_if_ne C eX10_share_86 (fun hc => ?_) (fun hc => ?_)
      · replace h := ie hc h
        exact a_less (lle_same (lle_same (lle_same (lle_same (lle_same (lle_same (lle_same (lle_same (lle_same lle_nil))))))))) (hk146_21 _ h)
      · replace h := it hc h
        refine a_iload C eX10_share_89 rfl ?_
        refine a_iload_n C eX10_share_91 rfl ?_
        obtain ⟨r_23, hq, h⟩ := b1_e h
        refine a_cSi2 C eX10_share_92 wX10_176 ⟨Nat.le_of_ble_eq_true rfl, Nat.le_of_ble_eq_true rfl, rfl, rfl⟩ rfl (kX10_isOf hq) (Nat.le_of_ble_eq_true rfl) ?_
        refine a_if_ne C eX10_share_95 (fun hc => ?_) (fun hc => ?_)
        · replace h := ie hc h
          exact a_less (lle_same (lle_same (lle_same (lle_same (lle_same (lle_same (lle_same (lle_same (lle_same lle_nil))))))))) (hk146_21 _ h)
        · replace h := it hc h
          refine a_iload C eX10_share_98 rfl ?_
          obtain ⟨r_24, hq, h⟩ := b1_e h
          refine a_cSi1 C eX10_share_100 wX10_290 ⟨Nat.le_of_ble_eq_true rfl, Nat.le_of_ble_eq_true rfl, rfl, rfl⟩ rfl (kX10_bits hq) (Nat.le_of_ble_eq_true rfl) ?_
          refine a_ist C eX10_share_103 (Nat.le_of_ble_eq_true rfl) [some (.ref 64), some (.int p1), none, some (.int p3), some (.int r_5), some (.int r_11), some (.int x6_18), some (.int x7_19), some (.int r_24)] rfl ?_
          refine a_iload C eX10_share_105 rfl ?_
          refine a_iload C eX10_share_107 rfl ?_
          obtain ⟨r_25, hq, h⟩ := b1_e h
          refine a_cSi1 C eX10_share_109 wX10_299 ⟨Nat.le_of_ble_eq_true rfl, Nat.le_of_ble_eq_true rfl, rfl, rfl⟩ rfl (kX10_orders hq) (Nat.le_of_ble_eq_true rfl) ?_
          refine a_iload C eX10_share_112 rfl ?_
          refine a_iload C eX10_share_114 rfl ?_
          refine a_isub C eX10_share_116 ?_
          refine a_iconst C eX10_share_117 (1 : Int32) c_iconst_1 ?_
          refine a_isub C eX10_share_118 ?_
          obtain ⟨r_26, hq, h⟩ := b1_e h
          refine a_cSi1 C eX10_share_119 wX10_299 ⟨Nat.le_of_ble_eq_true rfl, Nat.le_of_ble_eq_true rfl, rfl, rfl⟩ rfl (kX10_orders hq) (Nat.le_of_ble_eq_true rfl) ?_
          refine a_imul C eX10_share_122 ?_
          refine a_aload_n C eX10_share_123 rfl ?_
          refine a_getR C eX10_share_124 fX10_68 sh_64 rfl ?_
          refine a_iload C eX10_share_127 rfl ?_
          refine a_iconst C eX10_share_129 (1 : Int32) c_iconst_1 ?_
          refine a_iload_n C eX10_share_130 rfl ?_
          refine a_ishl C eX10_share_131 ?_
          refine a_ior C eX10_share_132 ?_
          obtain ⟨hb_27, h⟩ := gd h
          refine a_iald C eX10_share_133 sh_83 hb_27 ?_
          refine a_aload_n C eX10_share_134 rfl ?_
          refine a_getR C eX10_share_135 fX10_68 sh_64 rfl ?_
          refine a_iload C eX10_share_138 rfl ?_
          obtain ⟨hb_28, h⟩ := gd h
          refine a_iald C eX10_share_140 sh_83 hb_28 ?_
          refine a_isub C eX10_share_141 ?_
          refine a_imul C eX10_share_142 ?_
          refine a_iadd C eX10_share_143 ?_
          refine a_lt h (fun x6_29 h => ?_)
          refine a_ist C eX10_share_144 (Nat.le_of_ble_eq_true rfl) [some (.ref 64), some (.int p1), none, some (.int p3), some (.int r_5), some (.int r_11), some (.int x6_29), some (.int x7_19), some (.int r_24)] rfl ?_
          exact a_less (lle_same (lle_same (lle_same (lle_same (lle_same (lle_same (lle_same (lle_same (lle_drop lle_nil))))))))) (hk146_21 _ h)
theorem kX10_share {p1 : Int32} {p2 : Int32} {p3 : Int32} {σ : Sg} {rr : (Int32 × Sg)}  (h : XX10_share p1 p2 p3 σ = some rr) : Ci MX10_share [.ref 64, .int p1, .int p2, .int p3] (SHc ++ SHm) σ rr := by
  refine Ci.start rfl rfl (Nat.le_of_ble_eq_true rfl) ?_
  intro X ad C R
  replace C : Cx X cX10_share 9 RX10 (some .int) { frames := 4, cells := 0, slots := 0, locals := 94 } := C
  replace R : Ri X cX10_share (some .int) ad (SHc ++ SHm) rr := R
  show AW X 0 0 ad (SHc ++ SHm) σ 0 [some (.ref 64), some (.int p1), some (.int p2), some (.int p3), none, none, none, none, none] []
  rw [XX10_share] at h
  refine a_aload_n C eX10_share_0 rfl ?_
  refine a_iconst C eX10_share_1 (0 : Int32) c_iconst_0 ?_
  refine a_putIL C eX10_share_2 fX10_95 ftyX10 rfl rfl sh_64 rfl h (fun σ_1 h => ?_)
  refine a_aload_n C eX10_share_5 rfl ?_
  refine a_iload_n C eX10_share_6 rfl ?_
  refine a_iload_n C eX10_share_7 rfl ?_
  obtain ⟨r_2, hq, h⟩ := b1_e h
  refine a_cVi2 C eX10_share_8 wX10_259 ⟨Nat.le_of_ble_eq_true rfl, Nat.le_of_ble_eq_true rfl, rfl, rfl⟩ rfl sh_64 rfl (kX10_isAt hq) (Nat.le_of_ble_eq_true rfl) ?_
  refine a_if_eq C eX10_share_11 (fun hc => ?_) (fun hc => ?_)
  · replace h := it hc h
    refine a_iconst C eX10_share_23 (-1 : Int32) c_iconst_m1 ?_
    exact rt_i R eX10_share_24 h nb_int
  · replace h := ie hc h
    refine a_iload_n C eX10_share_14 rfl ?_
    refine a_iconst C eX10_share_15 (0 : Int32) c_iconst_0 ?_
    refine a_iconst C eX10_share_16 (1 : Int32) c_iconst_1 ?_
    obtain ⟨r_3, hq, h⟩ := b1_e h
    refine a_cSi3 C eX10_share_17 wX10_102 ⟨Nat.le_of_ble_eq_true rfl, Nat.le_of_ble_eq_true rfl, rfl, rfl⟩ rfl (kX10_in hq) (Nat.le_of_ble_eq_true rfl) ?_
    refine a_if_ne C eX10_share_20 (fun hc => ?_) (fun hc => ?_)
    · replace h := ie hc h
      refine a_aload_n C eX10_share_25 rfl ?_
      obtain ⟨σ_4, hq, h⟩ := b1_e h
      refine a_cVv0 C eX10_share_26 wX10_262 ⟨Nat.le_of_ble_eq_true rfl, Nat.le_of_ble_eq_true rfl, rfl, rfl⟩ rfl sh_64 rfl (kX10_layRun hq) (Nat.le_of_ble_eq_true rfl) ?_
      refine a_aload_n C eX10_share_29 rfl ?_
      refine a_iload_n C eX10_share_30 rfl ?_
      obtain ⟨r_5, σ_6, hq, h⟩ := b2_e h
      refine a_cVi1 C eX10_share_31 wX10_281 ⟨Nat.le_of_ble_eq_true rfl, Nat.le_of_ble_eq_true rfl, rfl, rfl⟩ rfl sh_64 rfl (kX10_layLoads hq) (Nat.le_of_ble_eq_true rfl) ?_
      refine a_ist C eX10_share_34 (Nat.le_of_ble_eq_true rfl) [some (.ref 64), some (.int p1), some (.int p2), some (.int p3), some (.int r_5), none, none, none, none] rfl ?_
      refine a_iload C eX10_share_36 rfl ?_
      refine a_iload_n C eX10_share_38 rfl ?_
      obtain ⟨r_7, hq, h⟩ := b1_e h
      refine a_cSi2 C eX10_share_39 wX10_176 ⟨Nat.le_of_ble_eq_true rfl, Nat.le_of_ble_eq_true rfl, rfl, rfl⟩ rfl (kX10_isOf hq) (Nat.le_of_ble_eq_true rfl) ?_
      refine a_if_ne C eX10_share_42 (fun hc => ?_) (fun hc => ?_)
      · replace h := ie hc h
        refine a_aload_n C eX10_share_47 rfl ?_
        refine a_iload C eX10_share_48 rfl ?_
        refine a_aload_n C eX10_share_50 rfl ?_
        refine a_iconst C eX10_share_51 (3 : Int32) c_iconst_3 ?_
        obtain ⟨r_8, hq, h⟩ := b1_e h
        refine a_cVi1 C eX10_share_52 wX10_224 ⟨Nat.le_of_ble_eq_true rfl, Nat.le_of_ble_eq_true rfl, rfl, rfl⟩ rfl sh_64 rfl (kX10_number hq) (Nat.le_of_ble_eq_true rfl) ?_
        obtain ⟨r_9, σ_10, hq, h⟩ := b2_e h
        refine a_cVi2 C eX10_share_55 wX10_284 ⟨Nat.le_of_ble_eq_true rfl, Nat.le_of_ble_eq_true rfl, rfl, rfl⟩ rfl sh_64 rfl (kX10_layParts hq) (Nat.le_of_ble_eq_true rfl) ?_
        refine a_pop C eX10_share_58 rfl ?_
        refine a_iload C eX10_share_59 rfl ?_
        obtain ⟨r_11, hq, h⟩ := b1_e h
        refine a_cSi1 C eX10_share_61 wX10_290 ⟨Nat.le_of_ble_eq_true rfl, Nat.le_of_ble_eq_true rfl, rfl, rfl⟩ rfl (kX10_bits hq) (Nat.le_of_ble_eq_true rfl) ?_
        refine a_ist C eX10_share_64 (Nat.le_of_ble_eq_true rfl) [some (.ref 64), some (.int p1), some (.int p2), some (.int p3), some (.int r_5), some (.int r_11), none, none, none] rfl ?_
        refine a_iconst C eX10_share_66 (0 : Int32) c_iconst_0 ?_
        refine a_ist C eX10_share_67 (Nat.le_of_ble_eq_true rfl) [some (.ref 64), some (.int p1), some (.int p2), some (.int p3), some (.int r_5), some (.int r_11), some (.int (0 : Int32)), none, none] rfl ?_
        refine a_iconst C eX10_share_69 (0 : Int32) c_iconst_0 ?_
        refine a_ist C eX10_share_70 (Nat.le_of_ble_eq_true rfl) [some (.ref 64), some (.int p1), some (.int p2), some (.int p3), some (.int r_5), some (.int r_11), some (.int (0 : Int32)), some (.int (0 : Int32)), none] rfl ?_
        refine jn (fun (kk : Int32 → Option (Int32 × Sg)) => ∀ (x6_12 : Int32), kk x6_12 = some rr → AW X 0 0 ad (SHc ++ SHm) σ_10 152 [none, none, none, some (.int p3), none, some (.int r_11), some (.int x6_12), none, none] []) h ?_ (fun k152_13 hk152_13 h => ?_)
        · intro x6_12 h
          refine a_iload C eX10_share_152 rfl ?_
          obtain ⟨r_14, hq, h⟩ := b1_e h
          refine a_cSi1 C eX10_share_154 wX10_299 ⟨Nat.le_of_ble_eq_true rfl, Nat.le_of_ble_eq_true rfl, rfl, rfl⟩ rfl (kX10_orders hq) (Nat.le_of_ble_eq_true rfl) ?_
          refine a_ist C eX10_share_157 (Nat.le_of_ble_eq_true rfl) [none, none, none, some (.int p3), none, some (.int r_11), some (.int x6_12), some (.int r_14), none] rfl ?_
          refine a_iload C eX10_share_159 rfl ?_
          refine a_iload C eX10_share_161 rfl ?_
          obtain ⟨r_15, hq, h⟩ := b1_e h
          refine a_cSi2 C eX10_share_163 wX10_302 ⟨Nat.le_of_ble_eq_true rfl, Nat.le_of_ble_eq_true rfl, rfl, rfl⟩ rfl (kX10_common hq) (Nat.le_of_ble_eq_true rfl) ?_
          refine a_ist C eX10_share_166 (Nat.le_of_ble_eq_true rfl) [none, none, none, some (.int p3), none, some (.int r_11), some (.int x6_12), some (.int r_14), some (.int r_15)] rfl ?_
          refine a_iload_n C eX10_share_168 rfl ?_
          refine a_if_ne C eX10_share_169 (fun hc => ?_) (fun hc => ?_)
          · replace h := ie hc h
            refine a_iload C eX10_share_177 rfl ?_
            refine a_iload C eX10_share_179 rfl ?_
            obtain ⟨hz_16, h⟩ := gd h
            refine a_idiv C eX10_share_181 hz_16 ?_
            exact rt_i R eX10_share_182 h nb_int
          · replace h := it hc h
            refine a_iload C eX10_share_172 rfl ?_
            refine a_goto C eX10_share_174 ?_
            refine a_iload C eX10_share_179 rfl ?_
            obtain ⟨hz_17, h⟩ := gd h
            refine a_idiv C eX10_share_181 hz_17 ?_
            exact rt_i R eX10_share_182 h nb_int
        exact a_less (lle_same (lle_same (lle_drop (lle_same (lle_same (lle_same (lle_same (lle_same (lle_same lle_nil))))))))) (lX10_share_72  C R hk152_13 _ _ _ h)
      · replace h := it hc h
        refine a_iload_n C eX10_share_45 rfl ?_
        exact rt_i R eX10_share_46 h nb_int
    · replace h := it hc h
      refine a_iconst C eX10_share_23 (-1 : Int32) c_iconst_m1 ?_
      exact rt_i R eX10_share_24 h nb_int
/-! ShelfDrivesModel.peak(I)I -/
def LX10_peak_27 (k75_7 : Int32 → Int32 → Sg → Option (Int32 × Sg)) : Nat → Int32 → Int32 → Int32 → Sg → Option (Int32 × Sg)
  | 0, _, _, _, _ => none
  | n + 1, x2_8, x3_9, x4_10, σ_11 => b1 (XX10_days σ_11) (fun (r_12 : Int32) => if r_12 ≤ x4_10 then (k75_7 x2_8 x3_9 σ_11) else (b2 (XX10_layLoads x4_10 σ_11) (fun (r_13 : Int32) (σ_14 : Sg) => b1 (XX10_shops σ_14) (fun (r_15 : Int32) => b1 (XX10_loadsOf (((1 : Int32) <<< (r_15 &&& 31)) - (1 : Int32)) σ_14) (fun (r_16 : Int32) => lt (fun (x2_17 : Int32) (x3_18 : Int32) => lt (x4_10 + (1 : Int32)) (fun (x4_20 : Int32) => LX10_peak_27 k75_7 n x2_17 x3_18 x4_20 σ_14)) (fun (k69_19 : Int32 → Int32 → Option (Int32 × Sg)) => if r_16 ≤ x3_9 then (k69_19 x2_8 x3_9) else (k69_19 x4_10 r_16)))))))
def XX10_peak (p1 : Int32) (σ : Sg) : Option (Int32 × Sg) := lt (up σ 64 0 (0 : Int32)) (fun (σ_1 : Sg) => b1 (XX10_in p1 (0 : Int32) (1 : Int32)) (fun (r_2 : Int32) => if r_2 = 0 then (some ((-1 : Int32), σ_1)) else (b1 (XX10_layRun σ_1) (fun (σ_3 : Sg) => lt (fun (x2_4 : Int32) (x3_5 : Int32) (σ_6 : Sg) => if p1 = 0 then (some (x2_4, σ_6)) else (some (x3_5, σ_6))) (fun (k75_7 : Int32 → Int32 → Sg → Option (Int32 × Sg)) => LX10_peak_27 k75_7 FUEL (0 : Int32) (-1 : Int32) (0 : Int32) σ_3)))))
theorem lX10_peak_27 {X : CT} {ad : Nat → Nat} {rr : (Int32 × Sg)} {p1 : Int32} {k75_7 : Int32 → Int32 → Sg → Option (Int32 × Sg)}  (C : Cx X cX10_peak 6 RX10 (some .int) { frames := 4, cells := 0, slots := 0, locals := 88 }) (R : Ri X cX10_peak (some .int) ad (SHc ++ SHm) rr) (hk75_7 : ∀ (x2_4 : Int32) (x3_5 : Int32) (σ_6 : Sg), k75_7 x2_4 x3_5 σ_6 = some rr → AW X 0 0 ad (SHc ++ SHm) σ_6 75 [none, some (.int p1), some (.int x2_4), some (.int x3_5), none, none] []) : ∀ (n : Nat) (x2_8 : Int32) (x3_9 : Int32) (x4_10 : Int32) (σ_11 : Sg), LX10_peak_27 k75_7 n x2_8 x3_9 x4_10 σ_11 = some rr → AW X 0 0 ad (SHc ++ SHm) σ_11 27 [some (.ref 64), some (.int p1), some (.int x2_8), some (.int x3_9), some (.int x4_10), none] [] := by
  intro n
  induction n with
  | zero =>
    intro x2_8 x3_9 x4_10 σ_11 h
    rw [LX10_peak_27] at h
    cases h
  | succ n ih =>
    intro x2_8 x3_9 x4_10 σ_11 h
    rw [LX10_peak_27] at h
    refine a_iload C eX10_peak_27 rfl ?_
    refine a_aload_n C eX10_peak_29 rfl ?_
    obtain ⟨r_12, hq, h⟩ := b1_e h
    refine a_cVi0 C eX10_peak_30 wX10_106 ⟨Nat.le_of_ble_eq_true rfl, Nat.le_of_ble_eq_true rfl, rfl, rfl⟩ rfl sh_64 rfl (kX10_days hq) (Nat.le_of_ble_eq_true rfl) ?_
    refine a_icmp_ge C eX10_peak_33 (fun hc => ?_) (fun hc => ?_)
    · replace h := it hc h
      exact a_less (lle_drop (lle_same (lle_same (lle_same (lle_drop (lle_same lle_nil)))))) (hk75_7 _ _ _ h)
    · replace h := ie hc h
      refine a_aload_n C eX10_peak_36 rfl ?_
      refine a_iload C eX10_peak_37 rfl ?_
      obtain ⟨r_13, σ_14, hq, h⟩ := b2_e h
      refine a_cVi1 C eX10_peak_39 wX10_281 ⟨Nat.le_of_ble_eq_true rfl, Nat.le_of_ble_eq_true rfl, rfl, rfl⟩ rfl sh_64 rfl (kX10_layLoads hq) (Nat.le_of_ble_eq_true rfl) ?_
      refine a_pop C eX10_peak_42 rfl ?_
      refine a_aload_n C eX10_peak_43 rfl ?_
      refine a_iconst C eX10_peak_44 (1 : Int32) c_iconst_1 ?_
      refine a_aload_n C eX10_peak_45 rfl ?_
      obtain ⟨r_15, hq, h⟩ := b1_e h
      refine a_cVi0 C eX10_peak_46 wX10_98 ⟨Nat.le_of_ble_eq_true rfl, Nat.le_of_ble_eq_true rfl, rfl, rfl⟩ rfl sh_64 rfl (kX10_shops hq) (Nat.le_of_ble_eq_true rfl) ?_
      refine a_ishl C eX10_peak_49 ?_
      refine a_iconst C eX10_peak_50 (1 : Int32) c_iconst_1 ?_
      refine a_isub C eX10_peak_51 ?_
      obtain ⟨r_16, hq, h⟩ := b1_e h
      refine a_cVi1 C eX10_peak_52 wX10_275 ⟨Nat.le_of_ble_eq_true rfl, Nat.le_of_ble_eq_true rfl, rfl, rfl⟩ rfl sh_64 rfl (kX10_loadsOf hq) (Nat.le_of_ble_eq_true rfl) ?_
      refine a_ist C eX10_peak_55 (Nat.le_of_ble_eq_true rfl) [some (.ref 64), some (.int p1), some (.int x2_8), some (.int x3_9), some (.int x4_10), some (.int r_16)] rfl ?_
      refine a_iload C eX10_peak_57 rfl ?_
      refine a_iload_n C eX10_peak_59 rfl ?_
      refine jn (fun (kk : Int32 → Int32 → Option (Int32 × Sg)) => ∀ (x2_17 : Int32) (x3_18 : Int32), kk x2_17 x3_18 = some rr → AW X 0 0 ad (SHc ++ SHm) σ_14 69 [some (.ref 64), some (.int p1), some (.int x2_17), some (.int x3_18), some (.int x4_10), none] []) h ?_ (fun k69_19 hk69_19 h => ?_)
      · intro x2_17 x3_18 h
        refine a_inc C eX10_peak_69 rfl c_iconst_1 h (fun z => [some (.ref 64), some (.int p1), some (.int x2_17), some (.int x3_18), some (.int z), none]) (fun _ => rfl) (fun x4_20 h => ?_)
        refine a_goto C eX10_peak_72 ?_
        exact a_less (lle_same (lle_same (lle_same (lle_same (lle_same (lle_same lle_nil)))))) (ih _ _ _ _ h)
      refine a_icmp_le C eX10_peak_60 (fun hc => ?_) (fun hc => ?_)
      · replace h := it hc h
        exact a_less (lle_same (lle_same (lle_same (lle_same (lle_same (lle_drop lle_nil)))))) (hk69_19 _ _ h)
      · replace h := ie hc h
        refine a_iload C eX10_peak_63 rfl ?_
        refine a_ist_n C eX10_peak_65 (Nat.le_of_ble_eq_true rfl) [some (.ref 64), some (.int p1), some (.int x2_8), some (.int r_16), some (.int x4_10), some (.int r_16)] rfl ?_
        refine a_iload C eX10_peak_66 rfl ?_
        refine a_ist_n C eX10_peak_68 (Nat.le_of_ble_eq_true rfl) [some (.ref 64), some (.int p1), some (.int x4_10), some (.int r_16), some (.int x4_10), some (.int r_16)] rfl ?_
        exact a_less (lle_same (lle_same (lle_same (lle_same (lle_same (lle_drop lle_nil)))))) (hk69_19 _ _ h)
theorem kX10_peak {p1 : Int32} {σ : Sg} {rr : (Int32 × Sg)}  (h : XX10_peak p1 σ = some rr) : Ci MX10_peak [.ref 64, .int p1] (SHc ++ SHm) σ rr := by
  refine Ci.start rfl rfl (Nat.le_of_ble_eq_true rfl) ?_
  intro X ad C R
  replace C : Cx X cX10_peak 6 RX10 (some .int) { frames := 4, cells := 0, slots := 0, locals := 88 } := C
  replace R : Ri X cX10_peak (some .int) ad (SHc ++ SHm) rr := R
  show AW X 0 0 ad (SHc ++ SHm) σ 0 [some (.ref 64), some (.int p1), none, none, none, none] []
  rw [XX10_peak] at h
  refine a_aload_n C eX10_peak_0 rfl ?_
  refine a_iconst C eX10_peak_1 (0 : Int32) c_iconst_0 ?_
  refine a_putIL C eX10_peak_2 fX10_95 ftyX10 rfl rfl sh_64 rfl h (fun σ_1 h => ?_)
  refine a_iload_n C eX10_peak_5 rfl ?_
  refine a_iconst C eX10_peak_6 (0 : Int32) c_iconst_0 ?_
  refine a_iconst C eX10_peak_7 (1 : Int32) c_iconst_1 ?_
  obtain ⟨r_2, hq, h⟩ := b1_e h
  refine a_cSi3 C eX10_peak_8 wX10_102 ⟨Nat.le_of_ble_eq_true rfl, Nat.le_of_ble_eq_true rfl, rfl, rfl⟩ rfl (kX10_in hq) (Nat.le_of_ble_eq_true rfl) ?_
  refine a_if_ne C eX10_peak_11 (fun hc => ?_) (fun hc => ?_)
  · replace h := ie hc h
    refine a_aload_n C eX10_peak_16 rfl ?_
    obtain ⟨σ_3, hq, h⟩ := b1_e h
    refine a_cVv0 C eX10_peak_17 wX10_262 ⟨Nat.le_of_ble_eq_true rfl, Nat.le_of_ble_eq_true rfl, rfl, rfl⟩ rfl sh_64 rfl (kX10_layRun hq) (Nat.le_of_ble_eq_true rfl) ?_
    refine a_iconst C eX10_peak_20 (0 : Int32) c_iconst_0 ?_
    refine a_ist_n C eX10_peak_21 (Nat.le_of_ble_eq_true rfl) [some (.ref 64), some (.int p1), some (.int (0 : Int32)), none, none, none] rfl ?_
    refine a_iconst C eX10_peak_22 (-1 : Int32) c_iconst_m1 ?_
    refine a_ist_n C eX10_peak_23 (Nat.le_of_ble_eq_true rfl) [some (.ref 64), some (.int p1), some (.int (0 : Int32)), some (.int (-1 : Int32)), none, none] rfl ?_
    refine a_iconst C eX10_peak_24 (0 : Int32) c_iconst_0 ?_
    refine a_ist C eX10_peak_25 (Nat.le_of_ble_eq_true rfl) [some (.ref 64), some (.int p1), some (.int (0 : Int32)), some (.int (-1 : Int32)), some (.int (0 : Int32)), none] rfl ?_
    refine jn (fun (kk : Int32 → Int32 → Sg → Option (Int32 × Sg)) => ∀ (x2_4 : Int32) (x3_5 : Int32) (σ_6 : Sg), kk x2_4 x3_5 σ_6 = some rr → AW X 0 0 ad (SHc ++ SHm) σ_6 75 [none, some (.int p1), some (.int x2_4), some (.int x3_5), none, none] []) h ?_ (fun k75_7 hk75_7 h => ?_)
    · intro x2_4 x3_5 σ_6 h
      refine a_iload_n C eX10_peak_75 rfl ?_
      refine a_if_ne C eX10_peak_76 (fun hc => ?_) (fun hc => ?_)
      · replace h := ie hc h
        refine a_iload_n C eX10_peak_83 rfl ?_
        exact rt_i R eX10_peak_84 h nb_int
      · replace h := it hc h
        refine a_iload_n C eX10_peak_79 rfl ?_
        refine a_goto C eX10_peak_80 ?_
        exact rt_i R eX10_peak_84 h nb_int
    exact a_less (lle_same (lle_same (lle_same (lle_same (lle_same (lle_same lle_nil)))))) (lX10_peak_27  C R hk75_7 _ _ _ _ _ h)
  · replace h := it hc h
    refine a_iconst C eX10_peak_14 (-1 : Int32) c_iconst_m1 ?_
    exact rt_i R eX10_peak_15 h nb_int
/-! ShelfDrivesModel.allRounds(I)I -/
def LX10_allRounds_4 (p1 : Int32) : Nat → Int32 → Int32 → Sg → Option (Int32 × Sg)
  | 0, _, _, _ => none
  | n + 1, x2_1, x3_2, σ_3 => b1 (XX10_days σ_3) (fun (r_4 : Int32) => if r_4 ≤ x3_2 then (some (x2_1, σ_3)) else (b2 (XX10_roundsCost x3_2 p1 σ_3) (fun (r_5 : Int32) (σ_6 : Sg) => if 0 ≤ r_5 then (lt (x2_1 + r_5) (fun (x2_7 : Int32) => lt (x3_2 + (1 : Int32)) (fun (x3_8 : Int32) => LX10_allRounds_4 p1 n x2_7 x3_8 σ_6))) else (some ((-1 : Int32), σ_6)))))
def XX10_allRounds (p1 : Int32) (σ : Sg) : Option (Int32 × Sg) := LX10_allRounds_4 p1 FUEL (0 : Int32) (0 : Int32) σ
theorem lX10_allRounds_4 {X : CT} {ad : Nat → Nat} {rr : (Int32 × Sg)} {p1 : Int32}  (C : Cx X cX10_allRounds 5 RX10 (some .int) { frames := 5, cells := 0, slots := 0, locals := 116 }) (R : Ri X cX10_allRounds (some .int) ad (SHc ++ SHm) rr)  : ∀ (n : Nat) (x2_1 : Int32) (x3_2 : Int32) (σ_3 : Sg), LX10_allRounds_4 p1 n x2_1 x3_2 σ_3 = some rr → AW X 0 0 ad (SHc ++ SHm) σ_3 4 [some (.ref 64), some (.int p1), some (.int x2_1), some (.int x3_2), none] [] := by
  intro n
  induction n with
  | zero =>
    intro x2_1 x3_2 σ_3 h
    rw [LX10_allRounds_4] at h
    cases h
  | succ n ih =>
    intro x2_1 x3_2 σ_3 h
    rw [LX10_allRounds_4] at h
    refine a_iload_n C eX10_allRounds_4 rfl ?_
    refine a_aload_n C eX10_allRounds_5 rfl ?_
    obtain ⟨r_4, hq, h⟩ := b1_e h
    refine a_cVi0 C eX10_allRounds_6 wX10_106 ⟨Nat.le_of_ble_eq_true rfl, Nat.le_of_ble_eq_true rfl, rfl, rfl⟩ rfl sh_64 rfl (kX10_days hq) (Nat.le_of_ble_eq_true rfl) ?_
    refine a_icmp_ge C eX10_allRounds_9 (fun hc => ?_) (fun hc => ?_)
    · replace h := it hc h
      refine a_iload_n C eX10_allRounds_38 rfl ?_
      exact rt_i R eX10_allRounds_39 h nb_int
    · replace h := ie hc h
      refine a_aload_n C eX10_allRounds_12 rfl ?_
      refine a_iload_n C eX10_allRounds_13 rfl ?_
      refine a_iload_n C eX10_allRounds_14 rfl ?_
      obtain ⟨r_5, σ_6, hq, h⟩ := b2_e h
      refine a_cVi2 C eX10_allRounds_15 wX10_305 ⟨Nat.le_of_ble_eq_true rfl, Nat.le_of_ble_eq_true rfl, rfl, rfl⟩ rfl sh_64 rfl (kX10_roundsCost hq) (Nat.le_of_ble_eq_true rfl) ?_
      refine a_ist C eX10_allRounds_18 (Nat.le_of_ble_eq_true rfl) [some (.ref 64), some (.int p1), some (.int x2_1), some (.int x3_2), some (.int r_5)] rfl ?_
      refine a_iload C eX10_allRounds_20 rfl ?_
      refine a_if_ge C eX10_allRounds_22 (fun hc => ?_) (fun hc => ?_)
      · replace h := it hc h
        refine a_iload_n C eX10_allRounds_27 rfl ?_
        refine a_iload C eX10_allRounds_28 rfl ?_
        refine a_iadd C eX10_allRounds_30 ?_
        refine a_lt h (fun x2_7 h => ?_)
        refine a_ist_n C eX10_allRounds_31 (Nat.le_of_ble_eq_true rfl) [some (.ref 64), some (.int p1), some (.int x2_7), some (.int x3_2), some (.int r_5)] rfl ?_
        refine a_inc C eX10_allRounds_32 rfl c_iconst_1 h (fun z => [some (.ref 64), some (.int p1), some (.int x2_7), some (.int z), some (.int r_5)]) (fun _ => rfl) (fun x3_8 h => ?_)
        refine a_goto C eX10_allRounds_35 ?_
        exact a_less (lle_same (lle_same (lle_same (lle_same (lle_drop lle_nil))))) (ih _ _ _ h)
      · replace h := ie hc h
        refine a_iconst C eX10_allRounds_25 (-1 : Int32) c_iconst_m1 ?_
        exact rt_i R eX10_allRounds_26 h nb_int
theorem kX10_allRounds {p1 : Int32} {σ : Sg} {rr : (Int32 × Sg)}  (h : XX10_allRounds p1 σ = some rr) : Ci MX10_allRounds [.ref 64, .int p1] (SHc ++ SHm) σ rr := by
  refine Ci.start rfl rfl (Nat.le_of_ble_eq_true rfl) ?_
  intro X ad C R
  replace C : Cx X cX10_allRounds 5 RX10 (some .int) { frames := 5, cells := 0, slots := 0, locals := 116 } := C
  replace R : Ri X cX10_allRounds (some .int) ad (SHc ++ SHm) rr := R
  show AW X 0 0 ad (SHc ++ SHm) σ 0 [some (.ref 64), some (.int p1), none, none, none] []
  rw [XX10_allRounds] at h
  refine a_iconst C eX10_allRounds_0 (0 : Int32) c_iconst_0 ?_
  refine a_ist_n C eX10_allRounds_1 (Nat.le_of_ble_eq_true rfl) [some (.ref 64), some (.int p1), some (.int (0 : Int32)), none, none] rfl ?_
  refine a_iconst C eX10_allRounds_2 (0 : Int32) c_iconst_0 ?_
  refine a_ist_n C eX10_allRounds_3 (Nat.le_of_ble_eq_true rfl) [some (.ref 64), some (.int p1), some (.int (0 : Int32)), some (.int (0 : Int32)), none] rfl ?_
  exact a_less (lle_same (lle_same (lle_same (lle_same (lle_same lle_nil))))) (lX10_allRounds_4  C R  _ _ _ _ h)
