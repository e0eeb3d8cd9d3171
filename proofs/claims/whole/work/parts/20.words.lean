theorem c_bipush_m2 : (Int8.ofInt (-2)).toInt32 = (-2 : Int32) := by decide
theorem c_bipush_6 : (Int8.ofInt (6)).toInt32 = (6 : Int32) := by decide
theorem c_bipush_7 : (Int8.ofInt (7)).toInt32 = (7 : Int32) := by decide
theorem c_bipush_8 : (Int8.ofInt (8)).toInt32 = (8 : Int32) := by decide
theorem c_bipush_9 : (Int8.ofInt (9)).toInt32 = (9 : Int32) := by decide
theorem c_bipush_10 : (Int8.ofInt (10)).toInt32 = (10 : Int32) := by decide
theorem c_bipush_11 : (Int8.ofInt (11)).toInt32 = (11 : Int32) := by decide
theorem c_bipush_12 : (Int8.ofInt (12)).toInt32 = (12 : Int32) := by decide
theorem c_bipush_13 : (Int8.ofInt (13)).toInt32 = (13 : Int32) := by decide
theorem c_bipush_14 : (Int8.ofInt (14)).toInt32 = (14 : Int32) := by decide
theorem c_bipush_15 : (Int8.ofInt (15)).toInt32 = (15 : Int32) := by decide
theorem c_bipush_16 : (Int8.ofInt (16)).toInt32 = (16 : Int32) := by decide
theorem c_bipush_17 : (Int8.ofInt (17)).toInt32 = (17 : Int32) := by decide
theorem c_bipush_18 : (Int8.ofInt (18)).toInt32 = (18 : Int32) := by decide
theorem c_bipush_19 : (Int8.ofInt (19)).toInt32 = (19 : Int32) := by decide
theorem c_bipush_20 : (Int8.ofInt (20)).toInt32 = (20 : Int32) := by decide
theorem c_bipush_24 : (Int8.ofInt (24)).toInt32 = (24 : Int32) := by decide
theorem c_bipush_30 : (Int8.ofInt (30)).toInt32 = (30 : Int32) := by decide
theorem c_bipush_32 : (Int8.ofInt (32)).toInt32 = (32 : Int32) := by decide
theorem c_bipush_40 : (Int8.ofInt (40)).toInt32 = (40 : Int32) := by decide
theorem c_bipush_42 : (Int8.ofInt (42)).toInt32 = (42 : Int32) := by decide
theorem c_bipush_48 : (Int8.ofInt (48)).toInt32 = (48 : Int32) := by decide
theorem c_bipush_52 : (Int8.ofInt (52)).toInt32 = (52 : Int32) := by decide
theorem c_bipush_57 : (Int8.ofInt (57)).toInt32 = (57 : Int32) := by decide
theorem c_bipush_59 : (Int8.ofInt (59)).toInt32 = (59 : Int32) := by decide
theorem c_bipush_60 : (Int8.ofInt (60)).toInt32 = (60 : Int32) := by decide
theorem c_bipush_63 : (Int8.ofInt (63)).toInt32 = (63 : Int32) := by decide
theorem c_bipush_64 : (Int8.ofInt (64)).toInt32 = (64 : Int32) := by decide
theorem c_bipush_77 : (Int8.ofInt (77)).toInt32 = (77 : Int32) := by decide
theorem c_bipush_84 : (Int8.ofInt (84)).toInt32 = (84 : Int32) := by decide
theorem c_bipush_96 : (Int8.ofInt (96)).toInt32 = (96 : Int32) := by decide
theorem c_bipush_97 : (Int8.ofInt (97)).toInt32 = (97 : Int32) := by decide
theorem c_bipush_99 : (Int8.ofInt (99)).toInt32 = (99 : Int32) := by decide
theorem c_bipush_100 : (Int8.ofInt (100)).toInt32 = (100 : Int32) := by decide
theorem c_bipush_122 : (Int8.ofInt (122)).toInt32 = (122 : Int32) := by decide
theorem c_iconst_m8 : Int32.ofInt (-8) = (-8 : Int32) := by decide
theorem c_iconst_m1 : Int32.ofInt (-1) = (-1 : Int32) := by decide
theorem c_iconst_0 : Int32.ofInt (0) = (0 : Int32) := by decide
theorem c_iconst_1 : Int32.ofInt (1) = (1 : Int32) := by decide
theorem c_iconst_2 : Int32.ofInt (2) = (2 : Int32) := by decide
theorem c_iconst_3 : Int32.ofInt (3) = (3 : Int32) := by decide
theorem c_iconst_4 : Int32.ofInt (4) = (4 : Int32) := by decide
theorem c_iconst_5 : Int32.ofInt (5) = (5 : Int32) := by decide
theorem ix_0 : (0 : Int32).toNatClampNeg = 0 ∧ ¬ (0 : Int32) < 0 := by decide
theorem ix_6 : (6 : Int32).toNatClampNeg = 6 ∧ ¬ (6 : Int32) < 0 := by decide
theorem ix_8 : (8 : Int32).toNatClampNeg = 8 ∧ ¬ (8 : Int32) < 0 := by decide
theorem ix_9 : (9 : Int32).toNatClampNeg = 9 ∧ ¬ (9 : Int32) < 0 := by decide
theorem ix_10 : (10 : Int32).toNatClampNeg = 10 ∧ ¬ (10 : Int32) < 0 := by decide
theorem ix_11 : (11 : Int32).toNatClampNeg = 11 ∧ ¬ (11 : Int32) < 0 := by decide
theorem ix_12 : (12 : Int32).toNatClampNeg = 12 ∧ ¬ (12 : Int32) < 0 := by decide
theorem ix_13 : (13 : Int32).toNatClampNeg = 13 ∧ ¬ (13 : Int32) < 0 := by decide
theorem ix_14 : (14 : Int32).toNatClampNeg = 14 ∧ ¬ (14 : Int32) < 0 := by decide
theorem ix_15 : (15 : Int32).toNatClampNeg = 15 ∧ ¬ (15 : Int32) < 0 := by decide
theorem ix_16 : (16 : Int32).toNatClampNeg = 16 ∧ ¬ (16 : Int32) < 0 := by decide
theorem ix_17 : (17 : Int32).toNatClampNeg = 17 ∧ ¬ (17 : Int32) < 0 := by decide
theorem ix_18 : (18 : Int32).toNatClampNeg = 18 ∧ ¬ (18 : Int32) < 0 := by decide
theorem ix_19 : (19 : Int32).toNatClampNeg = 19 ∧ ¬ (19 : Int32) < 0 := by decide
theorem c_sipush_255 : (Int16.ofInt (255)).toInt32 = (255 : Int32) := by decide
theorem c_sipush_300 : (Int16.ofInt (300)).toInt32 = (300 : Int32) := by decide
theorem c_sipush_384 : (Int16.ofInt (384)).toInt32 = (384 : Int32) := by decide
theorem c_sipush_800 : (Int16.ofInt (800)).toInt32 = (800 : Int32) := by decide
theorem c_sipush_9999 : (Int16.ofInt (9999)).toInt32 = (9999 : Int32) := by decide
theorem c_sipush_12345 : (Int16.ofInt (12345)).toInt32 = (12345 : Int32) := by decide
theorem wkX8_54 : Cond.constant RX8 54 (1000000000) ∈ TB := in_TB 563 (by decide +kernel) (by decide +kernel)
theorem wkX5_105 : Cond.constant RX5 105 (1103515245) ∈ TB := in_TB 851 (by decide +kernel) (by decide +kernel)
theorem wkX2_60 : Cond.constant RX2 60 (1000000000) ∈ TB := in_TB 879 (by decide +kernel) (by decide +kernel)
theorem wkX9_227 : Cond.constant RX9 227 (-1000000) ∈ TB := in_TB 921 (by decide +kernel) (by decide +kernel)
theorem wkJ6_265 : Cond.constant RJ6 265 (1431655765) ∈ TB := in_TB 959 (by decide +kernel) (by decide +kernel)
theorem wkJ6_266 : Cond.constant RJ6 266 (858993459) ∈ TB := in_TB 960 (by decide +kernel) (by decide +kernel)
theorem wkJ6_267 : Cond.constant RJ6 267 (252645135) ∈ TB := in_TB 961 (by decide +kernel) (by decide +kernel)
theorem wkX1_40 : Cond.constant RX1 40 (1000000000) ∈ TB := in_TB 1078 (by decide +kernel) (by decide +kernel)
theorem wkX3_76 : Cond.constant RX3 76 (1000000000) ∈ TB := in_TB 1121 (by decide +kernel) (by decide +kernel)
theorem wkX10_152 : Cond.constant RX10 152 (132915) ∈ TB := in_TB 1423 (by decide +kernel) (by decide +kernel)
theorem wkX10_156 : Cond.constant RX10 156 (4375028) ∈ TB := in_TB 1447 (by decide +kernel) (by decide +kernel)
theorem wkX10_157 : Cond.constant RX10 157 (21582955) ∈ TB := in_TB 1448 (by decide +kernel) (by decide +kernel)
theorem wkX10_158 : Cond.constant RX10 158 (6611108) ∈ TB := in_TB 1453 (by decide +kernel) (by decide +kernel)
theorem wkX10_159 : Cond.constant RX10 159 (435589) ∈ TB := in_TB 1454 (by decide +kernel) (by decide +kernel)
theorem wkX10_160 : Cond.constant RX10 160 (277892) ∈ TB := in_TB 1455 (by decide +kernel) (by decide +kernel)
theorem wkX10_161 : Cond.constant RX10 161 (409204) ∈ TB := in_TB 1456 (by decide +kernel) (by decide +kernel)
theorem wkX10_162 : Cond.constant RX10 162 (631280) ∈ TB := in_TB 1457 (by decide +kernel) (by decide +kernel)
theorem wkX10_163 : Cond.constant RX10 163 (20190598) ∈ TB := in_TB 1466 (by decide +kernel) (by decide +kernel)
theorem wkX10_164 : Cond.constant RX10 164 (20593771) ∈ TB := in_TB 1467 (by decide +kernel) (by decide +kernel)
theorem wkX10_165 : Cond.constant RX10 165 (20099475) ∈ TB := in_TB 1468 (by decide +kernel) (by decide +kernel)
theorem wkX10_166 : Cond.constant RX10 166 (611944) ∈ TB := in_TB 1469 (by decide +kernel) (by decide +kernel)
theorem wkX10_236 : Cond.constant RX10 236 (-1000000) ∈ TB := in_TB 1530 (by decide +kernel) (by decide +kernel)
theorem wkX10_274 : Cond.constant RX10 274 (1103515245) ∈ TB := in_TB 1614 (by decide +kernel) (by decide +kernel)
theorem iwX0 : ∀ w ∈ u_ws RX0 TX0 2, w ∈ TB := by decide +kernel
theorem ftyX0 : FTy TX0 2 tyX0 := ⟨tyX0_ok, nmX0⟩
theorem iwX1 : ∀ w ∈ u_ws RX1 TX1 7, w ∈ TB := by decide +kernel
theorem ftyX1 : FTy TX1 7 tyX1 := ⟨tyX1_ok, nmX1⟩
theorem iwX2 : ∀ w ∈ u_ws RX2 TX2 7, w ∈ TB := by decide +kernel
theorem ftyX2 : FTy TX2 7 tyX2 := ⟨tyX2_ok, nmX2⟩
theorem iwX3 : ∀ w ∈ u_ws RX3 TX3 4, w ∈ TB := by decide +kernel
theorem ftyX3 : FTy TX3 4 tyX3 := ⟨tyX3_ok, nmX3⟩
theorem iwX4 : ∀ w ∈ u_ws RX4 TX4 15, w ∈ TB := by decide +kernel
theorem ftyX4 : FTy TX4 15 tyX4 := ⟨tyX4_ok, nmX4⟩
theorem iwX5 : ∀ w ∈ u_ws RX5 TX5 11, w ∈ TB := by decide +kernel
theorem ftyX5 : FTy TX5 11 tyX5 := ⟨tyX5_ok, nmX5⟩
theorem iwX6 : ∀ w ∈ u_ws RX6 TX6 5, w ∈ TB := by decide +kernel
theorem ftyX6 : FTy TX6 5 tyX6 := ⟨tyX6_ok, nmX6⟩
theorem iwX7 : ∀ w ∈ u_ws RX7 TX7 15, w ∈ TB := by decide +kernel
theorem ftyX7 : FTy TX7 15 tyX7 := ⟨tyX7_ok, nmX7⟩
theorem iwX8 : ∀ w ∈ u_ws RX8 TX8 4, w ∈ TB := by decide +kernel
theorem ftyX8 : FTy TX8 4 tyX8 := ⟨tyX8_ok, nmX8⟩
theorem iwX9 : ∀ w ∈ u_ws RX9 TX9 13, w ∈ TB := by decide +kernel
theorem ftyX9 : FTy TX9 13 tyX9 := ⟨tyX9_ok, nmX9⟩
theorem iwX10 : ∀ w ∈ u_ws RX10 TX10 40, w ∈ TB := by decide +kernel
theorem ftyX10 : FTy TX10 40 tyX10 := ⟨tyX10_ok, nmX10⟩
theorem fX7_36 : FLk RX7 36 7 0 "ShelfDrives$Town" TX7 RX7 15 := ⟨rfl, by decide, iwX7, in_TB 152 (by decide +kernel) (by decide +kernel), rfl⟩
theorem fX1_35 : FLk RX1 35 7 0 "ShelfDrives$Town" TX7 RX7 15 := ⟨rfl, by decide, iwX7, in_TB 153 (by decide +kernel) (by decide +kernel), rfl⟩
theorem fX3_20 : FLk RX3 20 7 0 "ShelfDrives$Town" TX7 RX7 15 := ⟨rfl, by decide, iwX7, in_TB 154 (by decide +kernel) (by decide +kernel), rfl⟩
theorem fX9_116 : FLk RX9 116 7 0 "ShelfDrives$Town" TX7 RX7 15 := ⟨rfl, by decide, iwX7, in_TB 155 (by decide +kernel) (by decide +kernel), rfl⟩
theorem fX5_84 : FLk RX5 84 7 0 "ShelfDrives$Town" TX7 RX7 15 := ⟨rfl, by decide, iwX7, in_TB 156 (by decide +kernel) (by decide +kernel), rfl⟩
theorem fX4_152 : FLk RX4 152 7 0 "ShelfDrives$Town" TX7 RX7 15 := ⟨rfl, by decide, iwX7, in_TB 157 (by decide +kernel) (by decide +kernel), rfl⟩
theorem fX7_40 : FLk RX7 40 7 1 "ShelfDrives$Town" TX7 RX7 15 := ⟨rfl, by decide, iwX7, in_TB 158 (by decide +kernel) (by decide +kernel), rfl⟩
theorem fX6_49 : FLk RX6 49 7 1 "ShelfDrives$Town" TX7 RX7 15 := ⟨rfl, by decide, iwX7, in_TB 159 (by decide +kernel) (by decide +kernel), rfl⟩
theorem fX9_119 : FLk RX9 119 7 1 "ShelfDrives$Town" TX7 RX7 15 := ⟨rfl, by decide, iwX7, in_TB 160 (by decide +kernel) (by decide +kernel), rfl⟩
theorem fX1_91 : FLk RX1 91 7 1 "ShelfDrives$Town" TX7 RX7 15 := ⟨rfl, by decide, iwX7, in_TB 161 (by decide +kernel) (by decide +kernel), rfl⟩
theorem fX4_170 : FLk RX4 170 7 1 "ShelfDrives$Town" TX7 RX7 15 := ⟨rfl, by decide, iwX7, in_TB 162 (by decide +kernel) (by decide +kernel), rfl⟩
theorem fX5_116 : FLk RX5 116 7 1 "ShelfDrives$Town" TX7 RX7 15 := ⟨rfl, by decide, iwX7, in_TB 163 (by decide +kernel) (by decide +kernel), rfl⟩
theorem fX7_43 : FLk RX7 43 7 2 "ShelfDrives$Town" TX7 RX7 15 := ⟨rfl, by decide, iwX7, in_TB 164 (by decide +kernel) (by decide +kernel), rfl⟩
theorem fX2_37 : FLk RX2 37 7 2 "ShelfDrives$Town" TX7 RX7 15 := ⟨rfl, by decide, iwX7, in_TB 165 (by decide +kernel) (by decide +kernel), rfl⟩
theorem fX9_122 : FLk RX9 122 7 2 "ShelfDrives$Town" TX7 RX7 15 := ⟨rfl, by decide, iwX7, in_TB 166 (by decide +kernel) (by decide +kernel), rfl⟩
theorem fX4_173 : FLk RX4 173 7 2 "ShelfDrives$Town" TX7 RX7 15 := ⟨rfl, by decide, iwX7, in_TB 167 (by decide +kernel) (by decide +kernel), rfl⟩
theorem fX7_46 : FLk RX7 46 7 3 "ShelfDrives$Town" TX7 RX7 15 := ⟨rfl, by decide, iwX7, in_TB 168 (by decide +kernel) (by decide +kernel), rfl⟩
theorem fX2_40 : FLk RX2 40 7 3 "ShelfDrives$Town" TX7 RX7 15 := ⟨rfl, by decide, iwX7, in_TB 169 (by decide +kernel) (by decide +kernel), rfl⟩
theorem fX9_125 : FLk RX9 125 7 3 "ShelfDrives$Town" TX7 RX7 15 := ⟨rfl, by decide, iwX7, in_TB 170 (by decide +kernel) (by decide +kernel), rfl⟩
theorem fX4_176 : FLk RX4 176 7 3 "ShelfDrives$Town" TX7 RX7 15 := ⟨rfl, by decide, iwX7, in_TB 171 (by decide +kernel) (by decide +kernel), rfl⟩
theorem fX7_49 : FLk RX7 49 7 4 "ShelfDrives$Town" TX7 RX7 15 := ⟨rfl, by decide, iwX7, in_TB 172 (by decide +kernel) (by decide +kernel), rfl⟩
theorem fX1_80 : FLk RX1 80 7 4 "ShelfDrives$Town" TX7 RX7 15 := ⟨rfl, by decide, iwX7, in_TB 173 (by decide +kernel) (by decide +kernel), rfl⟩
theorem fX9_128 : FLk RX9 128 7 4 "ShelfDrives$Town" TX7 RX7 15 := ⟨rfl, by decide, iwX7, in_TB 174 (by decide +kernel) (by decide +kernel), rfl⟩
theorem fX4_164 : FLk RX4 164 7 4 "ShelfDrives$Town" TX7 RX7 15 := ⟨rfl, by decide, iwX7, in_TB 175 (by decide +kernel) (by decide +kernel), rfl⟩
theorem fX5_125 : FLk RX5 125 7 4 "ShelfDrives$Town" TX7 RX7 15 := ⟨rfl, by decide, iwX7, in_TB 176 (by decide +kernel) (by decide +kernel), rfl⟩
theorem fX7_52 : FLk RX7 52 7 5 "ShelfDrives$Town" TX7 RX7 15 := ⟨rfl, by decide, iwX7, in_TB 177 (by decide +kernel) (by decide +kernel), rfl⟩
theorem fX1_77 : FLk RX1 77 7 5 "ShelfDrives$Town" TX7 RX7 15 := ⟨rfl, by decide, iwX7, in_TB 178 (by decide +kernel) (by decide +kernel), rfl⟩
theorem fX9_131 : FLk RX9 131 7 5 "ShelfDrives$Town" TX7 RX7 15 := ⟨rfl, by decide, iwX7, in_TB 179 (by decide +kernel) (by decide +kernel), rfl⟩
theorem fX4_167 : FLk RX4 167 7 5 "ShelfDrives$Town" TX7 RX7 15 := ⟨rfl, by decide, iwX7, in_TB 180 (by decide +kernel) (by decide +kernel), rfl⟩
theorem fX5_128 : FLk RX5 128 7 5 "ShelfDrives$Town" TX7 RX7 15 := ⟨rfl, by decide, iwX7, in_TB 181 (by decide +kernel) (by decide +kernel), rfl⟩
theorem fX8_21 : FLk RX8 21 7 6 "ShelfDrives$Town" TX7 RX7 15 := ⟨rfl, by decide, iwX7, in_TB 182 (by decide +kernel) (by decide +kernel), rfl⟩
theorem fX2_31 : FLk RX2 31 7 6 "ShelfDrives$Town" TX7 RX7 15 := ⟨rfl, by decide, iwX7, in_TB 183 (by decide +kernel) (by decide +kernel), rfl⟩
theorem fX6_30 : FLk RX6 30 7 6 "ShelfDrives$Town" TX7 RX7 15 := ⟨rfl, by decide, iwX7, in_TB 184 (by decide +kernel) (by decide +kernel), rfl⟩
theorem fX7_55 : FLk RX7 55 7 6 "ShelfDrives$Town" TX7 RX7 15 := ⟨rfl, by decide, iwX7, in_TB 185 (by decide +kernel) (by decide +kernel), rfl⟩
theorem fX3_34 : FLk RX3 34 7 6 "ShelfDrives$Town" TX7 RX7 15 := ⟨rfl, by decide, iwX7, in_TB 186 (by decide +kernel) (by decide +kernel), rfl⟩
theorem fX5_63 : FLk RX5 63 7 6 "ShelfDrives$Town" TX7 RX7 15 := ⟨rfl, by decide, iwX7, in_TB 187 (by decide +kernel) (by decide +kernel), rfl⟩
theorem fX9_107 : FLk RX9 107 7 6 "ShelfDrives$Town" TX7 RX7 15 := ⟨rfl, by decide, iwX7, in_TB 188 (by decide +kernel) (by decide +kernel), rfl⟩
theorem fX1_51 : FLk RX1 51 7 6 "ShelfDrives$Town" TX7 RX7 15 := ⟨rfl, by decide, iwX7, in_TB 189 (by decide +kernel) (by decide +kernel), rfl⟩
theorem fX4_146 : FLk RX4 146 7 6 "ShelfDrives$Town" TX7 RX7 15 := ⟨rfl, by decide, iwX7, in_TB 190 (by decide +kernel) (by decide +kernel), rfl⟩
theorem fX7_58 : FLk RX7 58 7 7 "ShelfDrives$Town" TX7 RX7 15 := ⟨rfl, by decide, iwX7, in_TB 191 (by decide +kernel) (by decide +kernel), rfl⟩
theorem fX9_134 : FLk RX9 134 7 7 "ShelfDrives$Town" TX7 RX7 15 := ⟨rfl, by decide, iwX7, in_TB 192 (by decide +kernel) (by decide +kernel), rfl⟩
theorem fX4_197 : FLk RX4 197 7 7 "ShelfDrives$Town" TX7 RX7 15 := ⟨rfl, by decide, iwX7, in_TB 193 (by decide +kernel) (by decide +kernel), rfl⟩
theorem fX7_9 : FLk RX7 9 7 8 "ShelfDrives$Town" TX7 RX7 15 := ⟨rfl, by decide, iwX7, in_TB 194 (by decide +kernel) (by decide +kernel), rfl⟩
theorem fX8_28 : FLk RX8 28 7 8 "ShelfDrives$Town" TX7 RX7 15 := ⟨rfl, by decide, iwX7, in_TB 195 (by decide +kernel) (by decide +kernel), rfl⟩
theorem fX9_140 : FLk RX9 140 7 8 "ShelfDrives$Town" TX7 RX7 15 := ⟨rfl, by decide, iwX7, in_TB 196 (by decide +kernel) (by decide +kernel), rfl⟩
theorem fX4_158 : FLk RX4 158 7 8 "ShelfDrives$Town" TX7 RX7 15 := ⟨rfl, by decide, iwX7, in_TB 197 (by decide +kernel) (by decide +kernel), rfl⟩
theorem fX7_15 : FLk RX7 15 7 9 "ShelfDrives$Town" TX7 RX7 15 := ⟨rfl, by decide, iwX7, in_TB 198 (by decide +kernel) (by decide +kernel), rfl⟩
theorem fX8_37 : FLk RX8 37 7 9 "ShelfDrives$Town" TX7 RX7 15 := ⟨rfl, by decide, iwX7, in_TB 199 (by decide +kernel) (by decide +kernel), rfl⟩
theorem fX9_143 : FLk RX9 143 7 9 "ShelfDrives$Town" TX7 RX7 15 := ⟨rfl, by decide, iwX7, in_TB 200 (by decide +kernel) (by decide +kernel), rfl⟩
theorem fX4_161 : FLk RX4 161 7 9 "ShelfDrives$Town" TX7 RX7 15 := ⟨rfl, by decide, iwX7, in_TB 201 (by decide +kernel) (by decide +kernel), rfl⟩
theorem fX7_18 : FLk RX7 18 7 10 "ShelfDrives$Town" TX7 RX7 15 := ⟨rfl, by decide, iwX7, in_TB 202 (by decide +kernel) (by decide +kernel), rfl⟩
theorem fX1_57 : FLk RX1 57 7 10 "ShelfDrives$Town" TX7 RX7 15 := ⟨rfl, by decide, iwX7, in_TB 203 (by decide +kernel) (by decide +kernel), rfl⟩
theorem fX5_94 : FLk RX5 94 7 10 "ShelfDrives$Town" TX7 RX7 15 := ⟨rfl, by decide, iwX7, in_TB 204 (by decide +kernel) (by decide +kernel), rfl⟩
theorem fX9_160 : FLk RX9 160 7 10 "ShelfDrives$Town" TX7 RX7 15 := ⟨rfl, by decide, iwX7, in_TB 205 (by decide +kernel) (by decide +kernel), rfl⟩
theorem fX4_182 : FLk RX4 182 7 10 "ShelfDrives$Town" TX7 RX7 15 := ⟨rfl, by decide, iwX7, in_TB 206 (by decide +kernel) (by decide +kernel), rfl⟩
theorem fX7_21 : FLk RX7 21 7 11 "ShelfDrives$Town" TX7 RX7 15 := ⟨rfl, by decide, iwX7, in_TB 207 (by decide +kernel) (by decide +kernel), rfl⟩
theorem fX1_54 : FLk RX1 54 7 11 "ShelfDrives$Town" TX7 RX7 15 := ⟨rfl, by decide, iwX7, in_TB 208 (by decide +kernel) (by decide +kernel), rfl⟩
theorem fX9_163 : FLk RX9 163 7 11 "ShelfDrives$Town" TX7 RX7 15 := ⟨rfl, by decide, iwX7, in_TB 209 (by decide +kernel) (by decide +kernel), rfl⟩
theorem fX5_102 : FLk RX5 102 7 11 "ShelfDrives$Town" TX7 RX7 15 := ⟨rfl, by decide, iwX7, in_TB 210 (by decide +kernel) (by decide +kernel), rfl⟩
theorem fX4_185 : FLk RX4 185 7 11 "ShelfDrives$Town" TX7 RX7 15 := ⟨rfl, by decide, iwX7, in_TB 211 (by decide +kernel) (by decide +kernel), rfl⟩
theorem fX7_24 : FLk RX7 24 7 12 "ShelfDrives$Town" TX7 RX7 15 := ⟨rfl, by decide, iwX7, in_TB 212 (by decide +kernel) (by decide +kernel), rfl⟩
theorem fX5_60 : FLk RX5 60 7 12 "ShelfDrives$Town" TX7 RX7 15 := ⟨rfl, by decide, iwX7, in_TB 213 (by decide +kernel) (by decide +kernel), rfl⟩
theorem fX9_153 : FLk RX9 153 7 12 "ShelfDrives$Town" TX7 RX7 15 := ⟨rfl, by decide, iwX7, in_TB 214 (by decide +kernel) (by decide +kernel), rfl⟩
theorem fX1_100 : FLk RX1 100 7 12 "ShelfDrives$Town" TX7 RX7 15 := ⟨rfl, by decide, iwX7, in_TB 215 (by decide +kernel) (by decide +kernel), rfl⟩
theorem fX4_191 : FLk RX4 191 7 12 "ShelfDrives$Town" TX7 RX7 15 := ⟨rfl, by decide, iwX7, in_TB 216 (by decide +kernel) (by decide +kernel), rfl⟩
theorem fX7_27 : FLk RX7 27 7 13 "ShelfDrives$Town" TX7 RX7 15 := ⟨rfl, by decide, iwX7, in_TB 217 (by decide +kernel) (by decide +kernel), rfl⟩
theorem fX7_30 : FLk RX7 30 7 14 "ShelfDrives$Town" TX7 RX7 15 := ⟨rfl, by decide, iwX7, in_TB 218 (by decide +kernel) (by decide +kernel), rfl⟩
theorem fX4_12 : FLk RX4 12 4 0 "ShelfDrives$Reader" TX4 RX4 15 := ⟨rfl, by decide, iwX4, in_TB 311 (by decide +kernel) (by decide +kernel), rfl⟩
theorem fX9_101 : FLk RX9 101 4 0 "ShelfDrives$Reader" TX4 RX4 15 := ⟨rfl, by decide, iwX4, in_TB 312 (by decide +kernel) (by decide +kernel), rfl⟩
theorem fX4_18 : FLk RX4 18 4 1 "ShelfDrives$Reader" TX4 RX4 15 := ⟨rfl, by decide, iwX4, in_TB 313 (by decide +kernel) (by decide +kernel), rfl⟩
theorem fX9_110 : FLk RX9 110 4 1 "ShelfDrives$Reader" TX4 RX4 15 := ⟨rfl, by decide, iwX4, in_TB 314 (by decide +kernel) (by decide +kernel), rfl⟩
theorem fX4_22 : FLk RX4 22 4 2 "ShelfDrives$Reader" TX4 RX4 15 := ⟨rfl, by decide, iwX4, in_TB 315 (by decide +kernel) (by decide +kernel), rfl⟩
theorem fX9_113 : FLk RX9 113 4 2 "ShelfDrives$Reader" TX4 RX4 15 := ⟨rfl, by decide, iwX4, in_TB 316 (by decide +kernel) (by decide +kernel), rfl⟩
theorem fX4_25 : FLk RX4 25 4 3 "ShelfDrives$Reader" TX4 RX4 15 := ⟨rfl, by decide, iwX4, in_TB 317 (by decide +kernel) (by decide +kernel), rfl⟩
theorem fX4_29 : FLk RX4 29 4 4 "ShelfDrives$Reader" TX4 RX4 15 := ⟨rfl, by decide, iwX4, in_TB 318 (by decide +kernel) (by decide +kernel), rfl⟩
theorem fX4_32 : FLk RX4 32 4 5 "ShelfDrives$Reader" TX4 RX4 15 := ⟨rfl, by decide, iwX4, in_TB 319 (by decide +kernel) (by decide +kernel), rfl⟩
theorem fX4_35 : FLk RX4 35 4 6 "ShelfDrives$Reader" TX4 RX4 15 := ⟨rfl, by decide, iwX4, in_TB 320 (by decide +kernel) (by decide +kernel), rfl⟩
theorem fX4_87 : FLk RX4 87 4 7 "ShelfDrives$Reader" TX4 RX4 15 := ⟨rfl, by decide, iwX4, in_TB 321 (by decide +kernel) (by decide +kernel), rfl⟩
theorem fX4_67 : FLk RX4 67 4 8 "ShelfDrives$Reader" TX4 RX4 15 := ⟨rfl, by decide, iwX4, in_TB 322 (by decide +kernel) (by decide +kernel), rfl⟩
theorem fX4_76 : FLk RX4 76 4 9 "ShelfDrives$Reader" TX4 RX4 15 := ⟨rfl, by decide, iwX4, in_TB 323 (by decide +kernel) (by decide +kernel), rfl⟩
theorem fX4_112 : FLk RX4 112 4 10 "ShelfDrives$Reader" TX4 RX4 15 := ⟨rfl, by decide, iwX4, in_TB 324 (by decide +kernel) (by decide +kernel), rfl⟩
theorem fX4_115 : FLk RX4 115 4 11 "ShelfDrives$Reader" TX4 RX4 15 := ⟨rfl, by decide, iwX4, in_TB 325 (by decide +kernel) (by decide +kernel), rfl⟩
theorem fX4_70 : FLk RX4 70 4 12 "ShelfDrives$Reader" TX4 RX4 15 := ⟨rfl, by decide, iwX4, in_TB 326 (by decide +kernel) (by decide +kernel), rfl⟩
theorem fX4_38 : FLk RX4 38 4 13 "ShelfDrives$Reader" TX4 RX4 15 := ⟨rfl, by decide, iwX4, in_TB 327 (by decide +kernel) (by decide +kernel), rfl⟩
theorem fX4_41 : FLk RX4 41 4 14 "ShelfDrives$Reader" TX4 RX4 15 := ⟨rfl, by decide, iwX4, in_TB 328 (by decide +kernel) (by decide +kernel), rfl⟩
theorem fX8_9 : FLk RX8 9 8 0 "ShelfDrives$Ways" TX8 RX8 4 := ⟨rfl, by decide, iwX8, in_TB 367 (by decide +kernel) (by decide +kernel), rfl⟩
theorem fX9_215 : FLk RX9 215 8 0 "ShelfDrives$Ways" TX8 RX8 4 := ⟨rfl, by decide, iwX8, in_TB 368 (by decide +kernel) (by decide +kernel), rfl⟩
theorem fX8_15 : FLk RX8 15 8 1 "ShelfDrives$Ways" TX8 RX8 4 := ⟨rfl, by decide, iwX8, in_TB 369 (by decide +kernel) (by decide +kernel), rfl⟩
theorem fX8_18 : FLk RX8 18 8 2 "ShelfDrives$Ways" TX8 RX8 4 := ⟨rfl, by decide, iwX8, in_TB 370 (by decide +kernel) (by decide +kernel), rfl⟩
theorem fX8_27 : FLk RX8 27 8 3 "ShelfDrives$Ways" TX8 RX8 4 := ⟨rfl, by decide, iwX8, in_TB 371 (by decide +kernel) (by decide +kernel), rfl⟩
theorem fX2_27 : FLk RX2 27 2 0 "ShelfDrives$Parting" TX2 RX2 7 := ⟨rfl, by decide, iwX2, in_TB 387 (by decide +kernel) (by decide +kernel), rfl⟩
theorem fX2_9 : FLk RX2 9 2 1 "ShelfDrives$Parting" TX2 RX2 7 := ⟨rfl, by decide, iwX2, in_TB 388 (by decide +kernel) (by decide +kernel), rfl⟩
theorem fX2_15 : FLk RX2 15 2 2 "ShelfDrives$Parting" TX2 RX2 7 := ⟨rfl, by decide, iwX2, in_TB 389 (by decide +kernel) (by decide +kernel), rfl⟩
theorem fX2_18 : FLk RX2 18 2 3 "ShelfDrives$Parting" TX2 RX2 7 := ⟨rfl, by decide, iwX2, in_TB 390 (by decide +kernel) (by decide +kernel), rfl⟩
theorem fX2_21 : FLk RX2 21 2 4 "ShelfDrives$Parting" TX2 RX2 7 := ⟨rfl, by decide, iwX2, in_TB 391 (by decide +kernel) (by decide +kernel), rfl⟩
theorem fX2_24 : FLk RX2 24 2 5 "ShelfDrives$Parting" TX2 RX2 7 := ⟨rfl, by decide, iwX2, in_TB 392 (by decide +kernel) (by decide +kernel), rfl⟩
theorem fX2_53 : FLk RX2 53 2 6 "ShelfDrives$Parting" TX2 RX2 7 := ⟨rfl, by decide, iwX2, in_TB 393 (by decide +kernel) (by decide +kernel), rfl⟩
theorem fX6_26 : FLk RX6 26 6 0 "ShelfDrives$Savings" TX6 RX6 5 := ⟨rfl, by decide, iwX6, in_TB 415 (by decide +kernel) (by decide +kernel), rfl⟩
theorem fX9_243 : FLk RX9 243 6 0 "ShelfDrives$Savings" TX6 RX6 5 := ⟨rfl, by decide, iwX6, in_TB 416 (by decide +kernel) (by decide +kernel), rfl⟩
theorem fX6_18 : FLk RX6 18 6 1 "ShelfDrives$Savings" TX6 RX6 5 := ⟨rfl, by decide, iwX6, in_TB 417 (by decide +kernel) (by decide +kernel), rfl⟩
theorem fX6_22 : FLk RX6 22 6 2 "ShelfDrives$Savings" TX6 RX6 5 := ⟨rfl, by decide, iwX6, in_TB 418 (by decide +kernel) (by decide +kernel), rfl⟩
theorem fX6_9 : FLk RX6 9 6 3 "ShelfDrives$Savings" TX6 RX6 5 := ⟨rfl, by decide, iwX6, in_TB 419 (by decide +kernel) (by decide +kernel), rfl⟩
theorem fX6_15 : FLk RX6 15 6 4 "ShelfDrives$Savings" TX6 RX6 5 := ⟨rfl, by decide, iwX6, in_TB 420 (by decide +kernel) (by decide +kernel), rfl⟩
theorem fX5_9 : FLk RX5 9 5 0 "ShelfDrives$Run" TX5 RX5 11 := ⟨rfl, by decide, iwX5, in_TB 438 (by decide +kernel) (by decide +kernel), rfl⟩
theorem fX3_53 : FLk RX3 53 5 0 "ShelfDrives$Run" TX5 RX5 11 := ⟨rfl, by decide, iwX5, in_TB 439 (by decide +kernel) (by decide +kernel), rfl⟩
theorem fX9_166 : FLk RX9 166 5 0 "ShelfDrives$Run" TX5 RX5 11 := ⟨rfl, by decide, iwX5, in_TB 440 (by decide +kernel) (by decide +kernel), rfl⟩
theorem fX5_15 : FLk RX5 15 5 1 "ShelfDrives$Run" TX5 RX5 11 := ⟨rfl, by decide, iwX5, in_TB 441 (by decide +kernel) (by decide +kernel), rfl⟩
theorem fX3_41 : FLk RX3 41 5 1 "ShelfDrives$Run" TX5 RX5 11 := ⟨rfl, by decide, iwX5, in_TB 442 (by decide +kernel) (by decide +kernel), rfl⟩
theorem fX9_189 : FLk RX9 189 5 1 "ShelfDrives$Run" TX5 RX5 11 := ⟨rfl, by decide, iwX5, in_TB 443 (by decide +kernel) (by decide +kernel), rfl⟩
theorem fX5_18 : FLk RX5 18 5 2 "ShelfDrives$Run" TX5 RX5 11 := ⟨rfl, by decide, iwX5, in_TB 444 (by decide +kernel) (by decide +kernel), rfl⟩
theorem fX9_176 : FLk RX9 176 5 2 "ShelfDrives$Run" TX5 RX5 11 := ⟨rfl, by decide, iwX5, in_TB 445 (by decide +kernel) (by decide +kernel), rfl⟩
theorem fX5_21 : FLk RX5 21 5 3 "ShelfDrives$Run" TX5 RX5 11 := ⟨rfl, by decide, iwX5, in_TB 446 (by decide +kernel) (by decide +kernel), rfl⟩
theorem fX9_179 : FLk RX9 179 5 3 "ShelfDrives$Run" TX5 RX5 11 := ⟨rfl, by decide, iwX5, in_TB 447 (by decide +kernel) (by decide +kernel), rfl⟩
theorem fX5_24 : FLk RX5 24 5 4 "ShelfDrives$Run" TX5 RX5 11 := ⟨rfl, by decide, iwX5, in_TB 448 (by decide +kernel) (by decide +kernel), rfl⟩
theorem fX9_182 : FLk RX9 182 5 4 "ShelfDrives$Run" TX5 RX5 11 := ⟨rfl, by decide, iwX5, in_TB 449 (by decide +kernel) (by decide +kernel), rfl⟩
theorem fX5_47 : FLk RX5 47 5 5 "ShelfDrives$Run" TX5 RX5 11 := ⟨rfl, by decide, iwX5, in_TB 450 (by decide +kernel) (by decide +kernel), rfl⟩
theorem fX9_387 : FLk RX9 387 5 5 "ShelfDrives$Run" TX5 RX5 11 := ⟨rfl, by decide, iwX5, in_TB 451 (by decide +kernel) (by decide +kernel), rfl⟩
theorem fX5_51 : FLk RX5 51 5 6 "ShelfDrives$Run" TX5 RX5 11 := ⟨rfl, by decide, iwX5, in_TB 452 (by decide +kernel) (by decide +kernel), rfl⟩
theorem fX5_33 : FLk RX5 33 5 7 "ShelfDrives$Run" TX5 RX5 11 := ⟨rfl, by decide, iwX5, in_TB 453 (by decide +kernel) (by decide +kernel), rfl⟩
theorem fX5_37 : FLk RX5 37 5 8 "ShelfDrives$Run" TX5 RX5 11 := ⟨rfl, by decide, iwX5, in_TB 454 (by decide +kernel) (by decide +kernel), rfl⟩
theorem fX5_27 : FLk RX5 27 5 9 "ShelfDrives$Run" TX5 RX5 11 := ⟨rfl, by decide, iwX5, in_TB 455 (by decide +kernel) (by decide +kernel), rfl⟩
theorem fX5_30 : FLk RX5 30 5 10 "ShelfDrives$Run" TX5 RX5 11 := ⟨rfl, by decide, iwX5, in_TB 456 (by decide +kernel) (by decide +kernel), rfl⟩
theorem fX3_102 : FLk RX3 102 3 0 "ShelfDrives$Planner" TX3 RX3 4 := ⟨rfl, by decide, iwX3, in_TB 486 (by decide +kernel) (by decide +kernel), rfl⟩
theorem fX9_320 : FLk RX9 320 3 0 "ShelfDrives$Planner" TX3 RX3 4 := ⟨rfl, by decide, iwX3, in_TB 487 (by decide +kernel) (by decide +kernel), rfl⟩
theorem fX3_105 : FLk RX3 105 3 1 "ShelfDrives$Planner" TX3 RX3 4 := ⟨rfl, by decide, iwX3, in_TB 488 (by decide +kernel) (by decide +kernel), rfl⟩
theorem fX9_323 : FLk RX9 323 3 1 "ShelfDrives$Planner" TX3 RX3 4 := ⟨rfl, by decide, iwX3, in_TB 489 (by decide +kernel) (by decide +kernel), rfl⟩
theorem fX3_93 : FLk RX3 93 3 2 "ShelfDrives$Planner" TX3 RX3 4 := ⟨rfl, by decide, iwX3, in_TB 490 (by decide +kernel) (by decide +kernel), rfl⟩
theorem fX9_326 : FLk RX9 326 3 2 "ShelfDrives$Planner" TX3 RX3 4 := ⟨rfl, by decide, iwX3, in_TB 491 (by decide +kernel) (by decide +kernel), rfl⟩
theorem fX3_9 : FLk RX3 9 3 3 "ShelfDrives$Planner" TX3 RX3 4 := ⟨rfl, by decide, iwX3, in_TB 492 (by decide +kernel) (by decide +kernel), rfl⟩
theorem fX1_27 : FLk RX1 27 1 0 "ShelfDrives$Common" TX1 RX1 7 := ⟨rfl, by decide, iwX1, in_TB 508 (by decide +kernel) (by decide +kernel), rfl⟩
theorem fX1_31 : FLk RX1 31 1 1 "ShelfDrives$Common" TX1 RX1 7 := ⟨rfl, by decide, iwX1, in_TB 509 (by decide +kernel) (by decide +kernel), rfl⟩
theorem fX1_9 : FLk RX1 9 1 2 "ShelfDrives$Common" TX1 RX1 7 := ⟨rfl, by decide, iwX1, in_TB 510 (by decide +kernel) (by decide +kernel), rfl⟩
theorem fX1_15 : FLk RX1 15 1 3 "ShelfDrives$Common" TX1 RX1 7 := ⟨rfl, by decide, iwX1, in_TB 511 (by decide +kernel) (by decide +kernel), rfl⟩
theorem fX1_18 : FLk RX1 18 1 4 "ShelfDrives$Common" TX1 RX1 7 := ⟨rfl, by decide, iwX1, in_TB 512 (by decide +kernel) (by decide +kernel), rfl⟩
theorem fX1_21 : FLk RX1 21 1 5 "ShelfDrives$Common" TX1 RX1 7 := ⟨rfl, by decide, iwX1, in_TB 513 (by decide +kernel) (by decide +kernel), rfl⟩
theorem fX1_24 : FLk RX1 24 1 6 "ShelfDrives$Common" TX1 RX1 7 := ⟨rfl, by decide, iwX1, in_TB 514 (by decide +kernel) (by decide +kernel), rfl⟩
theorem fX0_9 : FLk RX0 9 0 0 "ShelfDrives$Acts" TX0 RX0 2 := ⟨rfl, by decide, iwX0, in_TB 536 (by decide +kernel) (by decide +kernel), rfl⟩
theorem fX9_137 : FLk RX9 137 0 0 "ShelfDrives$Acts" TX0 RX0 2 := ⟨rfl, by decide, iwX0, in_TB 537 (by decide +kernel) (by decide +kernel), rfl⟩
theorem fX0_15 : FLk RX0 15 0 1 "ShelfDrives$Acts" TX0 RX0 2 := ⟨rfl, by decide, iwX0, in_TB 538 (by decide +kernel) (by decide +kernel), rfl⟩
theorem fX9_9 : FLk RX9 9 9 0 "ShelfDrives" TX9 RX9 13 := ⟨rfl, by decide, iwX9, in_TB 608 (by decide +kernel) (by decide +kernel), rfl⟩
theorem fX9_13 : FLk RX9 13 9 1 "ShelfDrives" TX9 RX9 13 := ⟨rfl, by decide, iwX9, in_TB 609 (by decide +kernel) (by decide +kernel), rfl⟩
theorem fX9_20 : FLk RX9 20 9 2 "ShelfDrives" TX9 RX9 13 := ⟨rfl, by decide, iwX9, in_TB 610 (by decide +kernel) (by decide +kernel), rfl⟩
theorem fX9_27 : FLk RX9 27 9 3 "ShelfDrives" TX9 RX9 13 := ⟨rfl, by decide, iwX9, in_TB 611 (by decide +kernel) (by decide +kernel), rfl⟩
theorem fX9_34 : FLk RX9 34 9 4 "ShelfDrives" TX9 RX9 13 := ⟨rfl, by decide, iwX9, in_TB 612 (by decide +kernel) (by decide +kernel), rfl⟩
theorem fX9_43 : FLk RX9 43 9 5 "ShelfDrives" TX9 RX9 13 := ⟨rfl, by decide, iwX9, in_TB 613 (by decide +kernel) (by decide +kernel), rfl⟩
theorem fX9_52 : FLk RX9 52 9 6 "ShelfDrives" TX9 RX9 13 := ⟨rfl, by decide, iwX9, in_TB 614 (by decide +kernel) (by decide +kernel), rfl⟩
theorem fX9_59 : FLk RX9 59 9 7 "ShelfDrives" TX9 RX9 13 := ⟨rfl, by decide, iwX9, in_TB 615 (by decide +kernel) (by decide +kernel), rfl⟩
theorem fX9_63 : FLk RX9 63 9 8 "ShelfDrives" TX9 RX9 13 := ⟨rfl, by decide, iwX9, in_TB 616 (by decide +kernel) (by decide +kernel), rfl⟩
theorem fX9_69 : FLk RX9 69 9 9 "ShelfDrives" TX9 RX9 13 := ⟨rfl, by decide, iwX9, in_TB 617 (by decide +kernel) (by decide +kernel), rfl⟩
theorem fX9_76 : FLk RX9 76 9 10 "ShelfDrives" TX9 RX9 13 := ⟨rfl, by decide, iwX9, in_TB 618 (by decide +kernel) (by decide +kernel), rfl⟩
theorem fX9_83 : FLk RX9 83 9 11 "ShelfDrives" TX9 RX9 13 := ⟨rfl, by decide, iwX9, in_TB 619 (by decide +kernel) (by decide +kernel), rfl⟩
theorem fX9_87 : FLk RX9 87 9 12 "ShelfDrives" TX9 RX9 13 := ⟨rfl, by decide, iwX9, in_TB 620 (by decide +kernel) (by decide +kernel), rfl⟩
theorem fX10_95 : FLk RX10 95 10 0 "ShelfDrivesModel" TX10 RX10 40 := ⟨rfl, by decide, iwX10, in_TB 1261 (by decide +kernel) (by decide +kernel), rfl⟩
theorem fX10_7 : FLk RX10 7 10 1 "ShelfDrivesModel" TX10 RX10 40 := ⟨rfl, by decide, iwX10, in_TB 1262 (by decide +kernel) (by decide +kernel), rfl⟩
theorem fX10_13 : FLk RX10 13 10 2 "ShelfDrivesModel" TX10 RX10 40 := ⟨rfl, by decide, iwX10, in_TB 1263 (by decide +kernel) (by decide +kernel), rfl⟩
theorem fX10_16 : FLk RX10 16 10 3 "ShelfDrivesModel" TX10 RX10 40 := ⟨rfl, by decide, iwX10, in_TB 1264 (by decide +kernel) (by decide +kernel), rfl⟩
theorem fX10_19 : FLk RX10 19 10 4 "ShelfDrivesModel" TX10 RX10 40 := ⟨rfl, by decide, iwX10, in_TB 1265 (by decide +kernel) (by decide +kernel), rfl⟩
theorem fX10_22 : FLk RX10 22 10 5 "ShelfDrivesModel" TX10 RX10 40 := ⟨rfl, by decide, iwX10, in_TB 1266 (by decide +kernel) (by decide +kernel), rfl⟩
theorem fX10_25 : FLk RX10 25 10 6 "ShelfDrivesModel" TX10 RX10 40 := ⟨rfl, by decide, iwX10, in_TB 1267 (by decide +kernel) (by decide +kernel), rfl⟩
theorem fX10_28 : FLk RX10 28 10 7 "ShelfDrivesModel" TX10 RX10 40 := ⟨rfl, by decide, iwX10, in_TB 1268 (by decide +kernel) (by decide +kernel), rfl⟩
theorem fX10_31 : FLk RX10 31 10 8 "ShelfDrivesModel" TX10 RX10 40 := ⟨rfl, by decide, iwX10, in_TB 1269 (by decide +kernel) (by decide +kernel), rfl⟩
theorem fX10_34 : FLk RX10 34 10 9 "ShelfDrivesModel" TX10 RX10 40 := ⟨rfl, by decide, iwX10, in_TB 1270 (by decide +kernel) (by decide +kernel), rfl⟩
theorem fX10_37 : FLk RX10 37 10 10 "ShelfDrivesModel" TX10 RX10 40 := ⟨rfl, by decide, iwX10, in_TB 1271 (by decide +kernel) (by decide +kernel), rfl⟩
theorem fX10_40 : FLk RX10 40 10 11 "ShelfDrivesModel" TX10 RX10 40 := ⟨rfl, by decide, iwX10, in_TB 1272 (by decide +kernel) (by decide +kernel), rfl⟩
theorem fX10_173 : FLk RX10 173 10 12 "ShelfDrivesModel" TX10 RX10 40 := ⟨rfl, by decide, iwX10, in_TB 1273 (by decide +kernel) (by decide +kernel), rfl⟩
theorem fX10_43 : FLk RX10 43 10 13 "ShelfDrivesModel" TX10 RX10 40 := ⟨rfl, by decide, iwX10, in_TB 1274 (by decide +kernel) (by decide +kernel), rfl⟩
theorem fX10_109 : FLk RX10 109 10 14 "ShelfDrivesModel" TX10 RX10 40 := ⟨rfl, by decide, iwX10, in_TB 1275 (by decide +kernel) (by decide +kernel), rfl⟩
theorem fX10_116 : FLk RX10 116 10 15 "ShelfDrivesModel" TX10 RX10 40 := ⟨rfl, by decide, iwX10, in_TB 1276 (by decide +kernel) (by decide +kernel), rfl⟩
theorem fX10_125 : FLk RX10 125 10 16 "ShelfDrivesModel" TX10 RX10 40 := ⟨rfl, by decide, iwX10, in_TB 1277 (by decide +kernel) (by decide +kernel), rfl⟩
theorem fX10_135 : FLk RX10 135 10 17 "ShelfDrivesModel" TX10 RX10 40 := ⟨rfl, by decide, iwX10, in_TB 1278 (by decide +kernel) (by decide +kernel), rfl⟩
theorem fX10_122 : FLk RX10 122 10 18 "ShelfDrivesModel" TX10 RX10 40 := ⟨rfl, by decide, iwX10, in_TB 1279 (by decide +kernel) (by decide +kernel), rfl⟩
theorem fX10_142 : FLk RX10 142 10 19 "ShelfDrivesModel" TX10 RX10 40 := ⟨rfl, by decide, iwX10, in_TB 1280 (by decide +kernel) (by decide +kernel), rfl⟩
theorem fX10_212 : FLk RX10 212 10 20 "ShelfDrivesModel" TX10 RX10 40 := ⟨rfl, by decide, iwX10, in_TB 1281 (by decide +kernel) (by decide +kernel), rfl⟩
theorem fX10_46 : FLk RX10 46 10 21 "ShelfDrivesModel" TX10 RX10 40 := ⟨rfl, by decide, iwX10, in_TB 1282 (by decide +kernel) (by decide +kernel), rfl⟩
theorem fX10_119 : FLk RX10 119 10 22 "ShelfDrivesModel" TX10 RX10 40 := ⟨rfl, by decide, iwX10, in_TB 1283 (by decide +kernel) (by decide +kernel), rfl⟩
theorem fX10_128 : FLk RX10 128 10 23 "ShelfDrivesModel" TX10 RX10 40 := ⟨rfl, by decide, iwX10, in_TB 1284 (by decide +kernel) (by decide +kernel), rfl⟩
theorem fX10_50 : FLk RX10 50 10 24 "ShelfDrivesModel" TX10 RX10 40 := ⟨rfl, by decide, iwX10, in_TB 1285 (by decide +kernel) (by decide +kernel), rfl⟩
theorem fX10_53 : FLk RX10 53 10 25 "ShelfDrivesModel" TX10 RX10 40 := ⟨rfl, by decide, iwX10, in_TB 1286 (by decide +kernel) (by decide +kernel), rfl⟩
theorem fX10_56 : FLk RX10 56 10 26 "ShelfDrivesModel" TX10 RX10 40 := ⟨rfl, by decide, iwX10, in_TB 1287 (by decide +kernel) (by decide +kernel), rfl⟩
theorem fX10_59 : FLk RX10 59 10 27 "ShelfDrivesModel" TX10 RX10 40 := ⟨rfl, by decide, iwX10, in_TB 1288 (by decide +kernel) (by decide +kernel), rfl⟩
theorem fX10_62 : FLk RX10 62 10 28 "ShelfDrivesModel" TX10 RX10 40 := ⟨rfl, by decide, iwX10, in_TB 1289 (by decide +kernel) (by decide +kernel), rfl⟩
theorem fX10_65 : FLk RX10 65 10 29 "ShelfDrivesModel" TX10 RX10 40 := ⟨rfl, by decide, iwX10, in_TB 1290 (by decide +kernel) (by decide +kernel), rfl⟩
theorem fX10_68 : FLk RX10 68 10 30 "ShelfDrivesModel" TX10 RX10 40 := ⟨rfl, by decide, iwX10, in_TB 1291 (by decide +kernel) (by decide +kernel), rfl⟩
theorem fX10_71 : FLk RX10 71 10 31 "ShelfDrivesModel" TX10 RX10 40 := ⟨rfl, by decide, iwX10, in_TB 1292 (by decide +kernel) (by decide +kernel), rfl⟩
theorem fX10_74 : FLk RX10 74 10 32 "ShelfDrivesModel" TX10 RX10 40 := ⟨rfl, by decide, iwX10, in_TB 1293 (by decide +kernel) (by decide +kernel), rfl⟩
theorem fX10_77 : FLk RX10 77 10 33 "ShelfDrivesModel" TX10 RX10 40 := ⟨rfl, by decide, iwX10, in_TB 1294 (by decide +kernel) (by decide +kernel), rfl⟩
theorem fX10_80 : FLk RX10 80 10 34 "ShelfDrivesModel" TX10 RX10 40 := ⟨rfl, by decide, iwX10, in_TB 1295 (by decide +kernel) (by decide +kernel), rfl⟩
theorem fX10_83 : FLk RX10 83 10 35 "ShelfDrivesModel" TX10 RX10 40 := ⟨rfl, by decide, iwX10, in_TB 1296 (by decide +kernel) (by decide +kernel), rfl⟩
theorem fX10_86 : FLk RX10 86 10 36 "ShelfDrivesModel" TX10 RX10 40 := ⟨rfl, by decide, iwX10, in_TB 1297 (by decide +kernel) (by decide +kernel), rfl⟩
theorem fX10_89 : FLk RX10 89 10 37 "ShelfDrivesModel" TX10 RX10 40 := ⟨rfl, by decide, iwX10, in_TB 1298 (by decide +kernel) (by decide +kernel), rfl⟩
theorem fX10_92 : FLk RX10 92 10 38 "ShelfDrivesModel" TX10 RX10 40 := ⟨rfl, by decide, iwX10, in_TB 1299 (by decide +kernel) (by decide +kernel), rfl⟩
theorem fX10_218 : FLk RX10 218 10 39 "ShelfDrivesModel" TX10 RX10 40 := ⟨rfl, by decide, iwX10, in_TB 1300 (by decide +kernel) (by decide +kernel), rfl⟩
def MX0_forget : MI := (yX0_forget, cX0_forget, 1, none, { frames := 0, cells := 0, slots := 0, locals := 0 })
theorem wbX0_forget : CWb MX0_forget 0 := ⟨in_TB 126 (by decide +kernel) (by decide +kernel), in_TB 607 (by decide +kernel) (by decide +kernel), ⟨by decide +kernel, by decide +kernel⟩, by decide +kernel⟩
def MX0_keep : MI := (yX0_keep, cX0_keep, 3, none, { frames := 1, cells := 0, slots := 0, locals := 26 })
theorem wbX0_keep : CWb MX0_keep 2 := ⟨in_TB 126 (by decide +kernel) (by decide +kernel), in_TB 1149 (by decide +kernel) (by decide +kernel), ⟨by decide +kernel, by decide +kernel⟩, by decide +kernel⟩
def MX0_takeBack : MI := (yX0_takeBack, cX0_takeBack, 1, (some .boolean), { frames := 0, cells := 0, slots := 0, locals := 0 })
theorem wbX0_takeBack : CWb MX0_takeBack 0 := ⟨in_TB 126 (by decide +kernel) (by decide +kernel), in_TB 1242 (by decide +kernel) (by decide +kernel), ⟨by decide +kernel, by decide +kernel⟩, by decide +kernel⟩
def MX0_visitsBefore : MI := (yX0_visitsBefore, cX0_visitsBefore, 2, (some .int), { frames := 0, cells := 0, slots := 0, locals := 0 })
theorem wbX0_visitsBefore : CWb MX0_visitsBefore 1 := ⟨in_TB 126 (by decide +kernel) (by decide +kernel), in_TB 1254 (by decide +kernel) (by decide +kernel), ⟨by decide +kernel, by decide +kernel⟩, by decide +kernel⟩
def MX0_rushesBefore : MI := (yX0_rushesBefore, cX0_rushesBefore, 1, (some .int), { frames := 0, cells := 0, slots := 0, locals := 0 })
theorem wbX0_rushesBefore : CWb MX0_rushesBefore 0 := ⟨in_TB 126 (by decide +kernel) (by decide +kernel), in_TB 1246 (by decide +kernel) (by decide +kernel), ⟨by decide +kernel, by decide +kernel⟩, by decide +kernel⟩
def MX1_bestCost : MI := (yX1_bestCost, cX1_bestCost, 1, (some .int), { frames := 0, cells := 0, slots := 0, locals := 0 })
theorem wbX1_bestCost : CWb MX1_bestCost 0 := ⟨in_TB 125 (by decide +kernel) (by decide +kernel), in_TB 1112 (by decide +kernel) (by decide +kernel), ⟨by decide +kernel, by decide +kernel⟩, by decide +kernel⟩
def MX1_bestDays : MI := (yX1_bestDays, cX1_bestDays, 1, (some .int), { frames := 0, cells := 0, slots := 0, locals := 0 })
theorem wbX1_bestDays : CWb MX1_bestDays 0 := ⟨in_TB 125 (by decide +kernel) (by decide +kernel), in_TB 1108 (by decide +kernel) (by decide +kernel), ⟨by decide +kernel, by decide +kernel⟩, by decide +kernel⟩
def MJ7_fill_53178 : MI := (yJ7_fill_53178, cJ7_fill_53178, 4, none, { frames := 0, cells := 0, slots := 0, locals := 0 })
theorem wbJ7_fill_53178 : CWb MJ7_fill_53178 2 := ⟨in_TB 114 (by decide +kernel) (by decide +kernel), in_TB 151 (by decide +kernel) (by decide +kernel), ⟨by decide +kernel, by decide +kernel⟩, by decide +kernel⟩
def MX2_gather : MI := (yX2_gather, cX2_gather, 4, (some .int), { frames := 0, cells := 0, slots := 0, locals := 0 })
theorem wbX2_gather : CWb MX2_gather 1 := ⟨in_TB 121 (by decide +kernel) (by decide +kernel), in_TB 874 (by decide +kernel) (by decide +kernel), ⟨by decide +kernel, by decide +kernel⟩, by decide +kernel⟩
def MX2_partSet : MI := (yX2_partSet, cX2_partSet, 10, none, { frames := 0, cells := 0, slots := 0, locals := 0 })
theorem wbX2_partSet : CWb MX2_partSet 2 := ⟨in_TB 121 (by decide +kernel) (by decide +kernel), in_TB 878 (by decide +kernel) (by decide +kernel), ⟨by decide +kernel, by decide +kernel⟩, by decide +kernel⟩
def MX2_priceOf : MI := (yX2_priceOf, cX2_priceOf, 5, (some .int), { frames := 1, cells := 0, slots := 0, locals := 29 })
theorem wbX2_priceOf : CWb MX2_priceOf 2 := ⟨in_TB 121 (by decide +kernel) (by decide +kernel), in_TB 1003 (by decide +kernel) (by decide +kernel), ⟨by decide +kernel, by decide +kernel⟩, by decide +kernel⟩
def MX1_visitPrice : MI := (yX1_visitPrice, cX1_visitPrice, 3, (some .int), { frames := 2, cells := 0, slots := 0, locals := 53 })
theorem wbX1_visitPrice : CWb MX1_visitPrice 1 := ⟨in_TB 125 (by decide +kernel) (by decide +kernel), in_TB 1088 (by decide +kernel) (by decide +kernel), ⟨by decide +kernel, by decide +kernel⟩, by decide +kernel⟩
def MJ6_bitCount_0f7a4 : MI := (yJ6_bitCount_0f7a4, cJ6_bitCount_0f7a4, 1, (some .int), { frames := 0, cells := 0, slots := 0, locals := 0 })
theorem wbJ6_bitCount_0f7a4 : CWb MJ6_bitCount_0f7a4 1 := ⟨in_TB 130 (by decide +kernel) (by decide +kernel), in_TB 958 (by decide +kernel) (by decide +kernel), ⟨by decide +kernel, by decide +kernel⟩, by decide +kernel⟩
def MX1_offer : MI := (yX1_offer, cX1_offer, 8, none, { frames := 1, cells := 0, slots := 0, locals := 20 })
theorem wbX1_offer : CWb MX1_offer 4 := ⟨in_TB 125 (by decide +kernel) (by decide +kernel), in_TB 1093 (by decide +kernel) (by decide +kernel), ⟨by decide +kernel, by decide +kernel⟩, by decide +kernel⟩
def MX9_cellOf : MI := (yX9_cellOf, cX9_cellOf, 2, (some .int), { frames := 0, cells := 0, slots := 0, locals := 0 })
theorem wbX9_cellOf : CWb MX9_cellOf 2 := ⟨in_TB 112 (by decide +kernel) (by decide +kernel), in_TB 598 (by decide +kernel) (by decide +kernel), ⟨by decide +kernel, by decide +kernel⟩, by decide +kernel⟩
def MX1_sellDay : MI := (yX1_sellDay, cX1_sellDay, 6, (some .int), { frames := 1, cells := 0, slots := 0, locals := 21 })
theorem wbX1_sellDay : CWb MX1_sellDay 2 := ⟨in_TB 125 (by decide +kernel) (by decide +kernel), in_TB 1098 (by decide +kernel) (by decide +kernel), ⟨by decide +kernel, by decide +kernel⟩, by decide +kernel⟩
def MX1_stockOf : MI := (yX1_stockOf, cX1_stockOf, 4, (some .int), { frames := 0, cells := 0, slots := 0, locals := 0 })
theorem wbX1_stockOf : CWb MX1_stockOf 1 := ⟨in_TB 125 (by decide +kernel) (by decide +kernel), in_TB 1104 (by decide +kernel) (by decide +kernel), ⟨by decide +kernel, by decide +kernel⟩, by decide +kernel⟩
def MX1_goOn : MI := (yX1_goOn, cX1_goOn, 7, none, { frames := 3, cells := 0, slots := 0, locals := 75 })
theorem wbX1_goOn : CWb MX1_goOn 3 := ⟨in_TB 125 (by decide +kernel) (by decide +kernel), in_TB 1083 (by decide +kernel) (by decide +kernel), ⟨by decide +kernel, by decide +kernel⟩, by decide +kernel⟩
def MX1_findDays : MI := (yX1_findDays, cX1_findDays, 4, (some .boolean), { frames := 4, cells := 0, slots := 0, locals := 101 })
theorem wbX1_findDays : CWb MX1_findDays 2 := ⟨in_TB 125 (by decide +kernel) (by decide +kernel), in_TB 1077 (by decide +kernel) (by decide +kernel), ⟨by decide +kernel, by decide +kernel⟩, by decide +kernel⟩
def MX8_milesTo : MI := (yX8_milesTo, cX8_milesTo, 2, (some .int), { frames := 0, cells := 0, slots := 0, locals := 0 })
theorem wbX8_milesTo : CWb MX8_milesTo 1 := ⟨in_TB 120 (by decide +kernel) (by decide +kernel), in_TB 578 (by decide +kernel) (by decide +kernel), ⟨by decide +kernel, by decide +kernel⟩, by decide +kernel⟩
def MX2_measure : MI := (yX2_measure, cX2_measure, 3, none, { frames := 1, cells := 0, slots := 0, locals := 21 })
theorem wbX2_measure : CWb MX2_measure 1 := ⟨in_TB 121 (by decide +kernel) (by decide +kernel), in_TB 574 (by decide +kernel) (by decide +kernel), ⟨by decide +kernel, by decide +kernel⟩, by decide +kernel⟩
def MX2_roundPrice : MI := (yX2_roundPrice, cX2_roundPrice, 2, (some .int), { frames := 0, cells := 0, slots := 0, locals := 0 })
theorem wbX2_roundPrice : CWb MX2_roundPrice 1 := ⟨in_TB 121 (by decide +kernel) (by decide +kernel), in_TB 908 (by decide +kernel) (by decide +kernel), ⟨by decide +kernel, by decide +kernel⟩, by decide +kernel⟩
def MX2_gain : MI := (yX2_gain, cX2_gain, 3, (some .int), { frames := 0, cells := 0, slots := 0, locals := 0 })
theorem wbX2_gain : CWb MX2_gain 2 := ⟨in_TB 121 (by decide +kernel) (by decide +kernel), in_TB 925 (by decide +kernel) (by decide +kernel), ⟨by decide +kernel, by decide +kernel⟩, by decide +kernel⟩
def MX2_part : MI := (yX2_part, cX2_part, 4, (some .int), { frames := 1, cells := 0, slots := 0, locals := 29 })
theorem wbX2_part : CWb MX2_part 2 := ⟨in_TB 121 (by decide +kernel) (by decide +kernel), in_TB 870 (by decide +kernel) (by decide +kernel), ⟨by decide +kernel, by decide +kernel⟩, by decide +kernel⟩
def MX2_setAt : MI := (yX2_setAt, cX2_setAt, 4, (some .int), { frames := 0, cells := 0, slots := 0, locals := 0 })
theorem wbX2_setAt : CWb MX2_setAt 1 := ⟨in_TB 121 (by decide +kernel) (by decide +kernel), in_TB 891 (by decide +kernel) (by decide +kernel), ⟨by decide +kernel, by decide +kernel⟩, by decide +kernel⟩
def MX2_loadOf : MI := (yX2_loadOf, cX2_loadOf, 2, (some .int), { frames := 0, cells := 0, slots := 0, locals := 0 })
theorem wbX2_loadOf : CWb MX2_loadOf 1 := ⟨in_TB 121 (by decide +kernel) (by decide +kernel), in_TB 904 (by decide +kernel) (by decide +kernel), ⟨by decide +kernel, by decide +kernel⟩, by decide +kernel⟩
def MX2_factorial : MI := (yX2_factorial, cX2_factorial, 3, (some .int), { frames := 0, cells := 0, slots := 0, locals := 0 })
theorem wbX2_factorial : CWb MX2_factorial 1 := ⟨in_TB 121 (by decide +kernel) (by decide +kernel), in_TB 964 (by decide +kernel) (by decide +kernel), ⟨by decide +kernel, by decide +kernel⟩, by decide +kernel⟩
def MX2_orders : MI := (yX2_orders, cX2_orders, 1, (some .int), { frames := 1, cells := 0, slots := 0, locals := 22 })
theorem wbX2_orders : CWb MX2_orders 0 := ⟨in_TB 121 (by decide +kernel) (by decide +kernel), in_TB 968 (by decide +kernel) (by decide +kernel), ⟨by decide +kernel, by decide +kernel⟩, by decide +kernel⟩
def MX2_shareSum : MI := (yX2_shareSum, cX2_shareSum, 8, (some .int), { frames := 1, cells := 0, slots := 0, locals := 22 })
theorem wbX2_shareSum : CWb MX2_shareSum 1 := ⟨in_TB 121 (by decide +kernel) (by decide +kernel), in_TB 955 (by decide +kernel) (by decide +kernel), ⟨by decide +kernel, by decide +kernel⟩, by decide +kernel⟩
def MX5_morning : MI := (yX5_morning, cX5_morning, 3, (some .int), { frames := 1, cells := 0, slots := 0, locals := 21 })
theorem wbX5_morning : CWb MX5_morning 2 := ⟨in_TB 123 (by decide +kernel) (by decide +kernel), in_TB 595 (by decide +kernel) (by decide +kernel), ⟨by decide +kernel, by decide +kernel⟩, by decide +kernel⟩
def MX5_isVisited : MI := (yX5_isVisited, cX5_isVisited, 3, (some .boolean), { frames := 0, cells := 0, slots := 0, locals := 0 })
theorem wbX5_isVisited : CWb MX5_isVisited 2 := ⟨in_TB 123 (by decide +kernel) (by decide +kernel), in_TB 602 (by decide +kernel) (by decide +kernel), ⟨by decide +kernel, by decide +kernel⟩, by decide +kernel⟩
def MX5_runFrom : MI := (yX5_runFrom, cX5_runFrom, 10, none, { frames := 2, cells := 0, slots := 0, locals := 43 })
theorem wbX5_runFrom : CWb MX5_runFrom 3 := ⟨in_TB 123 (by decide +kernel) (by decide +kernel), in_TB 591 (by decide +kernel) (by decide +kernel), ⟨by decide +kernel, by decide +kernel⟩, by decide +kernel⟩
def MX5_setVisits : MI := (yX5_setVisits, cX5_setVisits, 4, none, { frames := 3, cells := 0, slots := 0, locals := 72 })
theorem wbX5_setVisits : CWb MX5_setVisits 2 := ⟨in_TB 123 (by decide +kernel) (by decide +kernel), in_TB 1036 (by decide +kernel) (by decide +kernel), ⟨by decide +kernel, by decide +kernel⟩, by decide +kernel⟩
def MX5_dropVisits : MI := (yX5_dropVisits, cX5_dropVisits, 2, none, { frames := 4, cells := 0, slots := 0, locals := 95 })
theorem wbX5_dropVisits : CWb MX5_dropVisits 0 := ⟨in_TB 123 (by decide +kernel) (by decide +kernel), in_TB 1162 (by decide +kernel) (by decide +kernel), ⟨by decide +kernel, by decide +kernel⟩, by decide +kernel⟩
def MX3_isOneShort : MI := (yX3_isOneShort, cX3_isOneShort, 4, (some .boolean), { frames := 2, cells := 0, slots := 0, locals := 43 })
theorem wbX3_isOneShort : CWb MX3_isOneShort 2 := ⟨in_TB 124 (by decide +kernel) (by decide +kernel), in_TB 1167 (by decide +kernel) (by decide +kernel), ⟨by decide +kernel, by decide +kernel⟩, by decide +kernel⟩
def MX3_visitShort : MI := (yX3_visitShort, cX3_visitShort, 8, none, { frames := 4, cells := 0, slots := 0, locals := 95 })
theorem wbX3_visitShort : CWb MX3_visitShort 3 := ⟨in_TB 124 (by decide +kernel) (by decide +kernel), in_TB 1173 (by decide +kernel) (by decide +kernel), ⟨by decide +kernel, by decide +kernel⟩, by decide +kernel⟩
def MX3_visitByRule : MI := (yX3_visitByRule, cX3_visitByRule, 4, none, { frames := 5, cells := 0, slots := 0, locals := 122 })
theorem wbX3_visitByRule : CWb MX3_visitByRule 2 := ⟨in_TB 124 (by decide +kernel) (by decide +kernel), in_TB 1158 (by decide +kernel) (by decide +kernel), ⟨by decide +kernel, by decide +kernel⟩, by decide +kernel⟩
def MX5_pickLoads : MI := (yX5_pickLoads, cX5_pickLoads, 4, none, { frames := 1, cells := 0, slots := 0, locals := 21 })
theorem wbX5_pickLoads : CWb MX5_pickLoads 2 := ⟨in_TB 123 (by decide +kernel) (by decide +kernel), in_TB 866 (by decide +kernel) (by decide +kernel), ⟨by decide +kernel, by decide +kernel⟩, by decide +kernel⟩
def MX5_priceOn : MI := (yX5_priceOn, cX5_priceOn, 2, (some .int), { frames := 2, cells := 0, slots := 0, locals := 53 })
theorem wbX5_priceOn : CWb MX5_priceOn 1 := ⟨in_TB 123 (by decide +kernel) (by decide +kernel), in_TB 998 (by decide +kernel) (by decide +kernel), ⟨by decide +kernel, by decide +kernel⟩, by decide +kernel⟩
def MX5_wholeCost : MI := (yX5_wholeCost, cX5_wholeCost, 3, (some .int), { frames := 3, cells := 0, slots := 0, locals := 74 })
theorem wbX5_wholeCost : CWb MX5_wholeCost 0 := ⟨in_TB 123 (by decide +kernel) (by decide +kernel), in_TB 994 (by decide +kernel) (by decide +kernel), ⟨by decide +kernel, by decide +kernel⟩, by decide +kernel⟩
def MX7_hasDay : MI := (yX7_hasDay, cX7_hasDay, 2, (some .boolean), { frames := 0, cells := 0, slots := 0, locals := 0 })
theorem wbX7_hasDay : CWb MX7_hasDay 1 := ⟨in_TB 113 (by decide +kernel) (by decide +kernel), in_TB 788 (by decide +kernel) (by decide +kernel), ⟨by decide +kernel, by decide +kernel⟩, by decide +kernel⟩
def MX3_turnIfLess : MI := (yX3_turnIfLess, cX3_turnIfLess, 6, (some .boolean), { frames := 4, cells := 0, slots := 0, locals := 96 })
theorem wbX3_turnIfLess : CWb MX3_turnIfLess 4 := ⟨in_TB 124 (by decide +kernel) (by decide +kernel), in_TB 1193 (by decide +kernel) (by decide +kernel), ⟨by decide +kernel, by decide +kernel⟩, by decide +kernel⟩
def MX3_moveOne : MI := (yX3_moveOne, cX3_moveOne, 6, (some .boolean), { frames := 5, cells := 0, slots := 0, locals := 121 })
theorem wbX3_moveOne : CWb MX3_moveOne 1 := ⟨in_TB 124 (by decide +kernel) (by decide +kernel), in_TB 1186 (by decide +kernel) (by decide +kernel), ⟨by decide +kernel, by decide +kernel⟩, by decide +kernel⟩
def MX3_turnOne : MI := (yX3_turnOne, cX3_turnOne, 5, (some .boolean), { frames := 5, cells := 0, slots := 0, locals := 121 })
theorem wbX3_turnOne : CWb MX3_turnOne 1 := ⟨in_TB 124 (by decide +kernel) (by decide +kernel), in_TB 1205 (by decide +kernel) (by decide +kernel), ⟨by decide +kernel, by decide +kernel⟩, by decide +kernel⟩
def MX3_setPlan : MI := (yX3_setPlan, cX3_setPlan, 5, none, { frames := 4, cells := 0, slots := 0, locals := 95 })
theorem wbX3_setPlan : CWb MX3_setPlan 2 := ⟨in_TB 124 (by decide +kernel) (by decide +kernel), in_TB 1217 (by decide +kernel) (by decide +kernel), ⟨by decide +kernel, by decide +kernel⟩, by decide +kernel⟩
def MX3_isFewer : MI := (yX3_isFewer, cX3_isFewer, 3, (some .boolean), { frames := 1, cells := 0, slots := 0, locals := 20 })
theorem wbX3_isFewer : CWb MX3_isFewer 2 := ⟨in_TB 124 (by decide +kernel) (by decide +kernel), in_TB 1220 (by decide +kernel) (by decide +kernel), ⟨by decide +kernel, by decide +kernel⟩, by decide +kernel⟩
def MX3_planBehind : MI := (yX3_planBehind, cX3_planBehind, 4, (some .int), { frames := 0, cells := 0, slots := 0, locals := 0 })
theorem wbX3_planBehind : CWb MX3_planBehind 2 := ⟨in_TB 124 (by decide +kernel) (by decide +kernel), in_TB 1224 (by decide +kernel) (by decide +kernel), ⟨by decide +kernel, by decide +kernel⟩, by decide +kernel⟩
def MX3_takeLeastPlan : MI := (yX3_takeLeastPlan, cX3_takeLeastPlan, 8, none, { frames := 5, cells := 0, slots := 0, locals := 119 })
theorem wbX3_takeLeastPlan : CWb MX3_takeLeastPlan 1 := ⟨in_TB 124 (by decide +kernel) (by decide +kernel), in_TB 1213 (by decide +kernel) (by decide +kernel), ⟨by decide +kernel, by decide +kernel⟩, by decide +kernel⟩
def MX3_daysBy : MI := (yX3_daysBy, cX3_daysBy, 6, (some .int), { frames := 1, cells := 0, slots := 0, locals := 21 })
theorem wbX3_daysBy : CWb MX3_daysBy 2 := ⟨in_TB 124 (by decide +kernel) (by decide +kernel), in_TB 1125 (by decide +kernel) (by decide +kernel), ⟨by decide +kernel, by decide +kernel⟩, by decide +kernel⟩
def MX5_sumOf : MI := (yX5_sumOf, cX5_sumOf, 5, (some .int), { frames := 1, cells := 0, slots := 0, locals := 21 })
theorem wbX5_sumOf : CWb MX5_sumOf 2 := ⟨in_TB 123 (by decide +kernel) (by decide +kernel), in_TB 814 (by decide +kernel) (by decide +kernel), ⟨by decide +kernel, by decide +kernel⟩, by decide +kernel⟩
def MX5_costAlone : MI := (yX5_costAlone, cX5_costAlone, 4, (some .int), { frames := 2, cells := 0, slots := 0, locals := 45 })
theorem wbX5_costAlone : CWb MX5_costAlone 1 := ⟨in_TB 123 (by decide +kernel) (by decide +kernel), in_TB 1131 (by decide +kernel) (by decide +kernel), ⟨by decide +kernel, by decide +kernel⟩, by decide +kernel⟩
def MX3_findEvery : MI := (yX3_findEvery, cX3_findEvery, 6, none, { frames := 4, cells := 0, slots := 0, locals := 95 })
theorem wbX3_findEvery : CWb MX3_findEvery 2 := ⟨in_TB 124 (by decide +kernel) (by decide +kernel), in_TB 1120 (by decide +kernel) (by decide +kernel), ⟨by decide +kernel, by decide +kernel⟩, by decide +kernel⟩
def MX4_withLetter : MI := (yX4_withLetter, cX4_withLetter, 2, (some .int), { frames := 0, cells := 0, slots := 0, locals := 0 })
theorem wbX4_withLetter : CWb MX4_withLetter 2 := ⟨in_TB 115 (by decide +kernel) (by decide +kernel), in_TB 310 (by decide +kernel) (by decide +kernel), ⟨by decide +kernel, by decide +kernel⟩, by decide +kernel⟩
def MX4_isLetter : MI := (yX4_isLetter, cX4_isLetter, 1, (some .boolean), { frames := 0, cells := 0, slots := 0, locals := 0 })
theorem wbX4_isLetter : CWb MX4_isLetter 1 := ⟨in_TB 115 (by decide +kernel) (by decide +kernel), in_TB 674 (by decide +kernel) (by decide +kernel), ⟨by decide +kernel, by decide +kernel⟩, by decide +kernel⟩
def MX4_kindOfWord : MI := (yX4_kindOfWord, cX4_kindOfWord, 3, (some .int), { frames := 0, cells := 0, slots := 0, locals := 0 })
theorem wbX4_kindOfWord : CWb MX4_kindOfWord 1 := ⟨in_TB 115 (by decide +kernel) (by decide +kernel), in_TB 682 (by decide +kernel) (by decide +kernel), ⟨by decide +kernel, by decide +kernel⟩, by decide +kernel⟩
def MX4_scanWord : MI := (yX4_scanWord, cX4_scanWord, 6, (some .int), { frames := 1, cells := 0, slots := 0, locals := 22 })
theorem wbX4_scanWord : CWb MX4_scanWord 3 := ⟨in_TB 115 (by decide +kernel) (by decide +kernel), in_TB 678 (by decide +kernel) (by decide +kernel), ⟨by decide +kernel, by decide +kernel⟩, by decide +kernel⟩
def MX4_isDigit : MI := (yX4_isDigit, cX4_isDigit, 1, (some .boolean), { frames := 0, cells := 0, slots := 0, locals := 0 })
theorem wbX4_isDigit : CWb MX4_isDigit 1 := ⟨in_TB 115 (by decide +kernel) (by decide +kernel), in_TB 685 (by decide +kernel) (by decide +kernel), ⟨by decide +kernel, by decide +kernel⟩, by decide +kernel⟩
def MX4_scanNumber : MI := (yX4_scanNumber, cX4_scanNumber, 7, (some .int), { frames := 1, cells := 0, slots := 0, locals := 20 })
theorem wbX4_scanNumber : CWb MX4_scanNumber 3 := ⟨in_TB 115 (by decide +kernel) (by decide +kernel), in_TB 689 (by decide +kernel) (by decide +kernel), ⟨by decide +kernel, by decide +kernel⟩, by decide +kernel⟩
def MX4_scanAll : MI := (yX4_scanAll, cX4_scanAll, 5, none, { frames := 2, cells := 0, slots := 0, locals := 47 })
theorem wbX4_scanAll : CWb MX4_scanAll 2 := ⟨in_TB 115 (by decide +kernel) (by decide +kernel), in_TB 671 (by decide +kernel) (by decide +kernel), ⟨by decide +kernel, by decide +kernel⟩, by decide +kernel⟩
def MX7_forget : MI := (yX7_forget, cX7_forget, 1, none, { frames := 1, cells := 0, slots := 0, locals := 23 })
theorem wbX7_forget : CWb MX7_forget 0 := ⟨in_TB 113 (by decide +kernel) (by decide +kernel), in_TB 148 (by decide +kernel) (by decide +kernel), ⟨by decide +kernel, by decide +kernel⟩, by decide +kernel⟩
def MX4_step : MI := (yX4_step, cX4_step, 2, none, { frames := 1, cells := 0, slots := 0, locals := 21 })
theorem wbX4_step : CWb MX4_step 0 := ⟨in_TB 115 (by decide +kernel) (by decide +kernel), in_TB 694 (by decide +kernel) (by decide +kernel), ⟨by decide +kernel, by decide +kernel⟩, by decide +kernel⟩
def MX4_refuse : MI := (yX4_refuse, cX4_refuse, 2, (some .boolean), { frames := 0, cells := 0, slots := 0, locals := 0 })
theorem wbX4_refuse : CWb MX4_refuse 1 := ⟨in_TB 115 (by decide +kernel) (by decide +kernel), in_TB 707 (by decide +kernel) (by decide +kernel), ⟨by decide +kernel, by decide +kernel⟩, by decide +kernel⟩
def MX4_isOnce : MI := (yX4_isOnce, cX4_isOnce, 2, (some .boolean), { frames := 1, cells := 0, slots := 0, locals := 21 })
theorem wbX4_isOnce : CWb MX4_isOnce 0 := ⟨in_TB 115 (by decide +kernel) (by decide +kernel), in_TB 703 (by decide +kernel) (by decide +kernel), ⟨by decide +kernel, by decide +kernel⟩, by decide +kernel⟩
def MX4_isNumber : MI := (yX4_isNumber, cX4_isNumber, 3, (some .boolean), { frames := 1, cells := 0, slots := 0, locals := 21 })
theorem wbX4_isNumber : CWb MX4_isNumber 2 := ⟨in_TB 115 (by decide +kernel) (by decide +kernel), in_TB 719 (by decide +kernel) (by decide +kernel), ⟨by decide +kernel, by decide +kernel⟩, by decide +kernel⟩
def MX4_wantNumber : MI := (yX4_wantNumber, cX4_wantNumber, 3, (some .boolean), { frames := 2, cells := 0, slots := 0, locals := 43 })
theorem wbX4_wantNumber : CWb MX4_wantNumber 2 := ⟨in_TB 115 (by decide +kernel) (by decide +kernel), in_TB 715 (by decide +kernel) (by decide +kernel), ⟨by decide +kernel, by decide +kernel⟩, by decide +kernel⟩
def MX4_want : MI := (yX4_want, cX4_want, 2, (some .boolean), { frames := 2, cells := 0, slots := 0, locals := 42 })
theorem wbX4_want : CWb MX4_want 1 := ⟨in_TB 115 (by decide +kernel) (by decide +kernel), in_TB 723 (by decide +kernel) (by decide +kernel), ⟨by decide +kernel, by decide +kernel⟩, by decide +kernel⟩
def MX4_readDays : MI := (yX4_readDays, cX4_readDays, 1, (some .boolean), { frames := 3, cells := 0, slots := 0, locals := 65 })
theorem wbX4_readDays : CWb MX4_readDays 0 := ⟨in_TB 115 (by decide +kernel) (by decide +kernel), in_TB 711 (by decide +kernel) (by decide +kernel), ⟨by decide +kernel, by decide +kernel⟩, by decide +kernel⟩
def MX4_readDepot : MI := (yX4_readDepot, cX4_readDepot, 1, (some .boolean), { frames := 3, cells := 0, slots := 0, locals := 65 })
theorem wbX4_readDepot : CWb MX4_readDepot 0 := ⟨in_TB 115 (by decide +kernel) (by decide +kernel), in_TB 727 (by decide +kernel) (by decide +kernel), ⟨by decide +kernel, by decide +kernel⟩, by decide +kernel⟩
def MX4_readTruck : MI := (yX4_readTruck, cX4_readTruck, 1, (some .boolean), { frames := 3, cells := 0, slots := 0, locals := 65 })
theorem wbX4_readTruck : CWb MX4_readTruck 0 := ⟨in_TB 115 (by decide +kernel) (by decide +kernel), in_TB 731 (by decide +kernel) (by decide +kernel), ⟨by decide +kernel, by decide +kernel⟩, by decide +kernel⟩
def MX4_readHold : MI := (yX4_readHold, cX4_readHold, 1, (some .boolean), { frames := 3, cells := 0, slots := 0, locals := 65 })
theorem wbX4_readHold : CWb MX4_readHold 0 := ⟨in_TB 115 (by decide +kernel) (by decide +kernel), in_TB 735 (by decide +kernel) (by decide +kernel), ⟨by decide +kernel, by decide +kernel⟩, by decide +kernel⟩
def MX4_readLost : MI := (yX4_readLost, cX4_readLost, 1, (some .boolean), { frames := 3, cells := 0, slots := 0, locals := 65 })
theorem wbX4_readLost : CWb MX4_readLost 0 := ⟨in_TB 115 (by decide +kernel) (by decide +kernel), in_TB 739 (by decide +kernel) (by decide +kernel), ⟨by decide +kernel, by decide +kernel⟩, by decide +kernel⟩
def MX4_shopNamed : MI := (yX4_shopNamed, cX4_shopNamed, 3, (some .int), { frames := 0, cells := 0, slots := 0, locals := 0 })
theorem wbX4_shopNamed : CWb MX4_shopNamed 1 := ⟨in_TB 115 (by decide +kernel) (by decide +kernel), in_TB 747 (by decide +kernel) (by decide +kernel), ⟨by decide +kernel, by decide +kernel⟩, by decide +kernel⟩
def MX4_readSold : MI := (yX4_readSold, cX4_readSold, 4, (some .boolean), { frames := 2, cells := 0, slots := 0, locals := 43 })
theorem wbX4_readSold : CWb MX4_readSold 1 := ⟨in_TB 115 (by decide +kernel) (by decide +kernel), in_TB 751 (by decide +kernel) (by decide +kernel), ⟨by decide +kernel, by decide +kernel⟩, by decide +kernel⟩
def MX4_readShop : MI := (yX4_readShop, cX4_readShop, 2, (some .boolean), { frames := 3, cells := 0, slots := 0, locals := 66 })
theorem wbX4_readShop : CWb MX4_readShop 0 := ⟨in_TB 115 (by decide +kernel) (by decide +kernel), in_TB 743 (by decide +kernel) (by decide +kernel), ⟨by decide +kernel, by decide +kernel⟩, by decide +kernel⟩
def MX7_addRush : MI := (yX7_addRush, cX7_addRush, 4, none, { frames := 1, cells := 0, slots := 0, locals := 21 })
theorem wbX7_addRush : CWb MX7_addRush 3 := ⟨in_TB 113 (by decide +kernel) (by decide +kernel), in_TB 760 (by decide +kernel) (by decide +kernel), ⟨by decide +kernel, by decide +kernel⟩, by decide +kernel⟩
def MX4_readRush : MI := (yX4_readRush, cX4_readRush, 3, (some .boolean), { frames := 3, cells := 0, slots := 0, locals := 65 })
theorem wbX4_readRush : CWb MX4_readRush 0 := ⟨in_TB 115 (by decide +kernel) (by decide +kernel), in_TB 756 (by decide +kernel) (by decide +kernel), ⟨by decide +kernel, by decide +kernel⟩, by decide +kernel⟩
def MX4_readLine : MI := (yX4_readLine, cX4_readLine, 1, (some .boolean), { frames := 4, cells := 0, slots := 0, locals := 87 })
theorem wbX4_readLine : CWb MX4_readLine 0 := ⟨in_TB 115 (by decide +kernel) (by decide +kernel), in_TB 699 (by decide +kernel) (by decide +kernel), ⟨by decide +kernel, by decide +kernel⟩, by decide +kernel⟩
def MX4_readAll : MI := (yX4_readAll, cX4_readAll, 4, (some .boolean), { frames := 5, cells := 0, slots := 0, locals := 107 })
theorem wbX4_readAll : CWb MX4_readAll 2 := ⟨in_TB 115 (by decide +kernel) (by decide +kernel), in_TB 667 (by decide +kernel) (by decide +kernel), ⟨by decide +kernel, by decide +kernel⟩, by decide +kernel⟩
def MX5_forget : MI := (yX5_forget, cX5_forget, 1, none, { frames := 1, cells := 0, slots := 0, locals := 23 })
theorem wbX5_forget : CWb MX5_forget 0 := ⟨in_TB 123 (by decide +kernel) (by decide +kernel), in_TB 582 (by decide +kernel) (by decide +kernel), ⟨by decide +kernel, by decide +kernel⟩, by decide +kernel⟩
def MX5_takeOver : MI := (yX5_takeOver, cX5_takeOver, 2, none, { frames := 1, cells := 0, slots := 0, locals := 26 })
theorem wbX5_takeOver : CWb MX5_takeOver 1 := ⟨in_TB 123 (by decide +kernel) (by decide +kernel), in_TB 1031 (by decide +kernel) (by decide +kernel), ⟨by decide +kernel, by decide +kernel⟩, by decide +kernel⟩
def MX5_askPercent : MI := (yX5_askPercent, cX5_askPercent, 3, none, { frames := 3, cells := 0, slots := 0, locals := 72 })
theorem wbX5_askPercent : CWb MX5_askPercent 1 := ⟨in_TB 123 (by decide +kernel) (by decide +kernel), in_TB 587 (by decide +kernel) (by decide +kernel), ⟨by decide +kernel, by decide +kernel⟩, by decide +kernel⟩
def MX5_countVisits : MI := (yX5_countVisits, cX5_countVisits, 3, (some .int), { frames := 1, cells := 0, slots := 0, locals := 20 })
theorem wbX5_countVisits : CWb MX5_countVisits 0 := ⟨in_TB 123 (by decide +kernel) (by decide +kernel), in_TB 1178 (by decide +kernel) (by decide +kernel), ⟨by decide +kernel, by decide +kernel⟩, by decide +kernel⟩
def MX5_idleVisits : MI := (yX5_idleVisits, cX5_idleVisits, 4, (some .int), { frames := 1, cells := 0, slots := 0, locals := 22 })
theorem wbX5_idleVisits : CWb MX5_idleVisits 1 := ⟨in_TB 123 (by decide +kernel) (by decide +kernel), in_TB 818 (by decide +kernel) (by decide +kernel), ⟨by decide +kernel, by decide +kernel⟩, by decide +kernel⟩
def MX5_firstMissed : MI := (yX5_firstMissed, cX5_firstMissed, 3, (some .int), { frames := 1, cells := 0, slots := 0, locals := 21 })
theorem wbX5_firstMissed : CWb MX5_firstMissed 1 := ⟨in_TB 123 (by decide +kernel) (by decide +kernel), in_TB 826 (by decide +kernel) (by decide +kernel), ⟨by decide +kernel, by decide +kernel⟩, by decide +kernel⟩
def MX5_spareFrom : MI := (yX5_spareFrom, cX5_spareFrom, 5, (some .int), { frames := 1, cells := 0, slots := 0, locals := 22 })
theorem wbX5_spareFrom : CWb MX5_spareFrom 2 := ⟨in_TB 123 (by decide +kernel) (by decide +kernel), in_TB 834 (by decide +kernel) (by decide +kernel), ⟨by decide +kernel, by decide +kernel⟩, by decide +kernel⟩
def MX5_lastsUntil : MI := (yX5_lastsUntil, cX5_lastsUntil, 5, (some .int), { frames := 1, cells := 0, slots := 0, locals := 21 })
theorem wbX5_lastsUntil : CWb MX5_lastsUntil 2 := ⟨in_TB 123 (by decide +kernel) (by decide +kernel), in_TB 842 (by decide +kernel) (by decide +kernel), ⟨by decide +kernel, by decide +kernel⟩, by decide +kernel⟩
def MX5_missedByChance : MI := (yX5_missedByChance, cX5_missedByChance, 10, (some .int), { frames := 1, cells := 0, slots := 0, locals := 22 })
theorem wbX5_missedByChance : CWb MX5_missedByChance 2 := ⟨in_TB 123 (by decide +kernel) (by decide +kernel), in_TB 850 (by decide +kernel) (by decide +kernel), ⟨by decide +kernel, by decide +kernel⟩, by decide +kernel⟩
def MX5_loadsOn : MI := (yX5_loadsOn, cX5_loadsOn, 4, (some .int), { frames := 1, cells := 0, slots := 0, locals := 21 })
theorem wbX5_loadsOn : CWb MX5_loadsOn 1 := ⟨in_TB 123 (by decide +kernel) (by decide +kernel), in_TB 985 (by decide +kernel) (by decide +kernel), ⟨by decide +kernel, by decide +kernel⟩, by decide +kernel⟩
def MX5_fullestDay : MI := (yX5_fullestDay, cX5_fullestDay, 3, (some .int), { frames := 2, cells := 0, slots := 0, locals := 44 })
theorem wbX5_fullestDay : CWb MX5_fullestDay 0 := ⟨in_TB 123 (by decide +kernel) (by decide +kernel), in_TB 981 (by decide +kernel) (by decide +kernel), ⟨by decide +kernel, by decide +kernel⟩, by decide +kernel⟩
def MX5_greatestLoad : MI := (yX5_greatestLoad, cX5_greatestLoad, 3, (some .int), { frames := 1, cells := 0, slots := 0, locals := 21 })
theorem wbX5_greatestLoad : CWb MX5_greatestLoad 0 := ⟨in_TB 123 (by decide +kernel) (by decide +kernel), in_TB 1049 (by decide +kernel) (by decide +kernel), ⟨by decide +kernel, by decide +kernel⟩, by decide +kernel⟩
def MX5_roundsCostWith : MI := (yX5_roundsCostWith, cX5_roundsCostWith, 4, (some .int), { frames := 2, cells := 0, slots := 0, locals := 53 })
theorem wbX5_roundsCostWith : CWb MX5_roundsCostWith 1 := ⟨in_TB 123 (by decide +kernel) (by decide +kernel), in_TB 1045 (by decide +kernel) (by decide +kernel), ⟨by decide +kernel, by decide +kernel⟩, by decide +kernel⟩
def MX5_stockCost : MI := (yX5_stockCost, cX5_stockCost, 1, (some .int), { frames := 0, cells := 0, slots := 0, locals := 0 })
theorem wbX5_stockCost : CWb MX5_stockCost 0 := ⟨in_TB 123 (by decide +kernel) (by decide +kernel), in_TB 1012 (by decide +kernel) (by decide +kernel), ⟨by decide +kernel, by decide +kernel⟩, by decide +kernel⟩
def MX5_lostCost : MI := (yX5_lostCost, cX5_lostCost, 1, (some .int), { frames := 0, cells := 0, slots := 0, locals := 0 })
theorem wbX5_lostCost : CWb MX5_lostCost 0 := ⟨in_TB 123 (by decide +kernel) (by decide +kernel), in_TB 1016 (by decide +kernel) (by decide +kernel), ⟨by decide +kernel, by decide +kernel⟩, by decide +kernel⟩
def MX5_roundsCost : MI := (yX5_roundsCost, cX5_roundsCost, 1, (some .int), { frames := 4, cells := 0, slots := 0, locals := 96 })
theorem wbX5_roundsCost : CWb MX5_roundsCost 0 := ⟨in_TB 123 (by decide +kernel) (by decide +kernel), in_TB 1007 (by decide +kernel) (by decide +kernel), ⟨by decide +kernel, by decide +kernel⟩, by decide +kernel⟩
def MX6_removeRound : MI := (yX6_removeRound, cX6_removeRound, 3, none, { frames := 0, cells := 0, slots := 0, locals := 0 })
theorem wbX6_removeRound : CWb MX6_removeRound 1 := ⟨in_TB 122 (by decide +kernel) (by decide +kernel), in_TB 942 (by decide +kernel) (by decide +kernel), ⟨by decide +kernel, by decide +kernel⟩, by decide +kernel⟩
def MX6_mergeBest : MI := (yX6_mergeBest, cX6_mergeBest, 7, (some .boolean), { frames := 1, cells := 0, slots := 0, locals := 22 })
theorem wbX6_mergeBest : CWb MX6_mergeBest 0 := ⟨in_TB 122 (by decide +kernel) (by decide +kernel), in_TB 937 (by decide +kernel) (by decide +kernel), ⟨by decide +kernel, by decide +kernel⟩, by decide +kernel⟩
def MX6_mergeAll : MI := (yX6_mergeAll, cX6_mergeAll, 3, none, { frames := 2, cells := 0, slots := 0, locals := 48 })
theorem wbX6_mergeAll : CWb MX6_mergeAll 1 := ⟨in_TB 122 (by decide +kernel) (by decide +kernel), in_TB 933 (by decide +kernel) (by decide +kernel), ⟨by decide +kernel, by decide +kernel⟩, by decide +kernel⟩
def MX6_price : MI := (yX6_price, cX6_price, 3, (some .int), { frames := 1, cells := 0, slots := 0, locals := 21 })
theorem wbX6_price : CWb MX6_price 0 := ⟨in_TB 122 (by decide +kernel) (by decide +kernel), in_TB 946 (by decide +kernel) (by decide +kernel), ⟨by decide +kernel, by decide +kernel⟩, by decide +kernel⟩
def MX7_takeOver : MI := (yX7_takeOver, cX7_takeOver, 2, none, { frames := 1, cells := 0, slots := 0, locals := 26 })
theorem wbX7_takeOver : CWb MX7_takeOver 1 := ⟨in_TB 113 (by decide +kernel) (by decide +kernel), in_TB 765 (by decide +kernel) (by decide +kernel), ⟨by decide +kernel, by decide +kernel⟩, by decide +kernel⟩
def MX7_hasShop : MI := (yX7_hasShop, cX7_hasShop, 2, (some .boolean), { frames := 0, cells := 0, slots := 0, locals := 0 })
theorem wbX7_hasShop : CWb MX7_hasShop 1 := ⟨in_TB 113 (by decide +kernel) (by decide +kernel), in_TB 784 (by decide +kernel) (by decide +kernel), ⟨by decide +kernel, by decide +kernel⟩, by decide +kernel⟩
def MX7_keepRushes : MI := (yX7_keepRushes, cX7_keepRushes, 2, none, { frames := 0, cells := 0, slots := 0, locals := 0 })
theorem wbX7_keepRushes : CWb MX7_keepRushes 1 := ⟨in_TB 113 (by decide +kernel) (by decide +kernel), in_TB 1250 (by decide +kernel) (by decide +kernel), ⟨by decide +kernel, by decide +kernel⟩, by decide +kernel⟩
def MX8_between : MI := (yX8_between, cX8_between, 3, (some .int), { frames := 0, cells := 0, slots := 0, locals := 0 })
theorem wbX8_between : CWb MX8_between 2 := ⟨in_TB 120 (by decide +kernel) (by decide +kernel), in_TB 562 (by decide +kernel) (by decide +kernel), ⟨by decide +kernel, by decide +kernel⟩, by decide +kernel⟩
def MX8_milesBy : MI := (yX8_milesBy, cX8_milesBy, 4, (some .int), { frames := 1, cells := 0, slots := 0, locals := 22 })
theorem wbX8_milesBy : CWb MX8_milesBy 3 := ⟨in_TB 120 (by decide +kernel) (by decide +kernel), in_TB 567 (by decide +kernel) (by decide +kernel), ⟨by decide +kernel, by decide +kernel⟩, by decide +kernel⟩
def MX8_leastRest : MI := (yX8_leastRest, cX8_leastRest, 5, (some .int), { frames := 2, cells := 0, slots := 0, locals := 45 })
theorem wbX8_leastRest : CWb MX8_leastRest 2 := ⟨in_TB 120 (by decide +kernel) (by decide +kernel), in_TB 558 (by decide +kernel) (by decide +kernel), ⟨by decide +kernel, by decide +kernel⟩, by decide +kernel⟩
def MX8_measure : MI := (yX8_measure, cX8_measure, 4, none, { frames := 3, cells := 0, slots := 0, locals := 69 })
theorem wbX8_measure : CWb MX8_measure 1 := ⟨in_TB 120 (by decide +kernel) (by decide +kernel), in_TB 551 (by decide +kernel) (by decide +kernel), ⟨by decide +kernel, by decide +kernel⟩, by decide +kernel⟩
def MX8_nextStop : MI := (yX8_nextStop, cX8_nextStop, 6, (some .int), { frames := 2, cells := 0, slots := 0, locals := 45 })
theorem wbX8_nextStop : CWb MX8_nextStop 2 := ⟨in_TB 120 (by decide +kernel) (by decide +kernel), in_TB 899 (by decide +kernel) (by decide +kernel), ⟨by decide +kernel, by decide +kernel⟩, by decide +kernel⟩
def MX8_trace : MI := (yX8_trace, cX8_trace, 6, (some .int), { frames := 3, cells := 0, slots := 0, locals := 70 })
theorem wbX8_trace : CWb MX8_trace 1 := ⟨in_TB 120 (by decide +kernel) (by decide +kernel), in_TB 895 (by decide +kernel) (by decide +kernel), ⟨by decide +kernel, by decide +kernel⟩, by decide +kernel⟩
def MX9_putNumber : MI := (yX9_putNumber, cX9_putNumber, 3, none, { frames := 0, cells := 0, slots := 0, locals := 0 })
theorem wbX9_putNumber : CWb MX9_putNumber 1 := ⟨in_TB 112 (by decide +kernel) (by decide +kernel), in_TB 655 (by decide +kernel) (by decide +kernel), ⟨by decide +kernel, by decide +kernel⟩, by decide +kernel⟩
def MX9_feed : MI := (yX9_feed, cX9_feed, 6, (some .int), { frames := 1, cells := 0, slots := 0, locals := 22 })
theorem wbX9_feed : CWb MX9_feed 5 := ⟨in_TB 112 (by decide +kernel) (by decide +kernel), in_TB 651 (by decide +kernel) (by decide +kernel), ⟨by decide +kernel, by decide +kernel⟩, by decide +kernel⟩
def MX9_end : MI := (yX9_end, cX9_end, 2, (some .int), { frames := 0, cells := 0, slots := 0, locals := 0 })
theorem wbX9_end : CWb MX9_end 1 := ⟨in_TB 112 (by decide +kernel) (by decide +kernel), in_TB 659 (by decide +kernel) (by decide +kernel), ⟨by decide +kernel, by decide +kernel⟩, by decide +kernel⟩
def MX9_beginAnew : MI := (yX9_beginAnew, cX9_beginAnew, 1, none, { frames := 4, cells := 0, slots := 0, locals := 94 })
theorem wbX9_beginAnew : CWb MX9_beginAnew 0 := ⟨in_TB 112 (by decide +kernel) (by decide +kernel), in_TB 547 (by decide +kernel) (by decide +kernel), ⟨by decide +kernel, by decide +kernel⟩, by decide +kernel⟩
def MX9_text : MI := (yX9_text, cX9_text, 2, (some .int), { frames := 6, cells := 0, slots := 0, locals := 130 })
theorem wbX9_text : CWb MX9_text 0 := ⟨in_TB 112 (by decide +kernel) (by decide +kernel), in_TB 663 (by decide +kernel) (by decide +kernel), ⟨by decide +kernel, by decide +kernel⟩, by decide +kernel⟩
def MX9_fault : MI := (yX9_fault, cX9_fault, 2, (some .int), { frames := 0, cells := 0, slots := 0, locals := 0 })
theorem wbX9_fault : CWb MX9_fault 1 := ⟨in_TB 112 (by decide +kernel) (by decide +kernel), in_TB 772 (by decide +kernel) (by decide +kernel), ⟨by decide +kernel, by decide +kernel⟩, by decide +kernel⟩
def MX9_about : MI := (yX9_about, cX9_about, 2, (some .int), { frames := 0, cells := 0, slots := 0, locals := 0 })
theorem wbX9_about : CWb MX9_about 1 := ⟨in_TB 112 (by decide +kernel) (by decide +kernel), in_TB 776 (by decide +kernel) (by decide +kernel), ⟨by decide +kernel, by decide +kernel⟩, by decide +kernel⟩
def MX9_shop : MI := (yX9_shop, cX9_shop, 3, (some .int), { frames := 1, cells := 0, slots := 0, locals := 22 })
theorem wbX9_shop : CWb MX9_shop 2 := ⟨in_TB 112 (by decide +kernel) (by decide +kernel), in_TB 780 (by decide +kernel) (by decide +kernel), ⟨by decide +kernel, by decide +kernel⟩, by decide +kernel⟩
def MX9_hasCell : MI := (yX9_hasCell, cX9_hasCell, 3, (some .boolean), { frames := 1, cells := 0, slots := 0, locals := 21 })
theorem wbX9_hasCell : CWb MX9_hasCell 2 := ⟨in_TB 112 (by decide +kernel) (by decide +kernel), in_TB 798 (by decide +kernel) (by decide +kernel), ⟨by decide +kernel, by decide +kernel⟩, by decide +kernel⟩
def MX9_load : MI := (yX9_load, cX9_load, 3, (some .int), { frames := 2, cells := 0, slots := 0, locals := 43 })
theorem wbX9_load : CWb MX9_load 2 := ⟨in_TB 112 (by decide +kernel) (by decide +kernel), in_TB 794 (by decide +kernel) (by decide +kernel), ⟨by decide +kernel, by decide +kernel⟩, by decide +kernel⟩
def MX9_stock : MI := (yX9_stock, cX9_stock, 3, (some .int), { frames := 2, cells := 0, slots := 0, locals := 43 })
theorem wbX9_stock : CWb MX9_stock 2 := ⟨in_TB 112 (by decide +kernel) (by decide +kernel), in_TB 802 (by decide +kernel) (by decide +kernel), ⟨by decide +kernel, by decide +kernel⟩, by decide +kernel⟩
def MX9_lost : MI := (yX9_lost, cX9_lost, 3, (some .int), { frames := 2, cells := 0, slots := 0, locals := 43 })
theorem wbX9_lost : CWb MX9_lost 2 := ⟨in_TB 112 (by decide +kernel) (by decide +kernel), in_TB 806 (by decide +kernel) (by decide +kernel), ⟨by decide +kernel, by decide +kernel⟩, by decide +kernel⟩
def MX9_of : MI := (yX9_of, cX9_of, 3, (some .int), { frames := 2, cells := 0, slots := 0, locals := 45 })
theorem wbX9_of : CWb MX9_of 2 := ⟨in_TB 112 (by decide +kernel) (by decide +kernel), in_TB 810 (by decide +kernel) (by decide +kernel), ⟨by decide +kernel, by decide +kernel⟩, by decide +kernel⟩
def MX9_empty : MI := (yX9_empty, cX9_empty, 2, (some .int), { frames := 2, cells := 0, slots := 0, locals := 43 })
theorem wbX9_empty : CWb MX9_empty 1 := ⟨in_TB 112 (by decide +kernel) (by decide +kernel), in_TB 822 (by decide +kernel) (by decide +kernel), ⟨by decide +kernel, by decide +kernel⟩, by decide +kernel⟩
def MX9_bears : MI := (yX9_bears, cX9_bears, 3, (some .int), { frames := 2, cells := 0, slots := 0, locals := 46 })
theorem wbX9_bears : CWb MX9_bears 2 := ⟨in_TB 112 (by decide +kernel) (by decide +kernel), in_TB 830 (by decide +kernel) (by decide +kernel), ⟨by decide +kernel, by decide +kernel⟩, by decide +kernel⟩
def MX9_waits : MI := (yX9_waits, cX9_waits, 3, (some .int), { frames := 2, cells := 0, slots := 0, locals := 45 })
theorem wbX9_waits : CWb MX9_waits 2 := ⟨in_TB 112 (by decide +kernel) (by decide +kernel), in_TB 838 (by decide +kernel) (by decide +kernel), ⟨by decide +kernel, by decide +kernel⟩, by decide +kernel⟩
def MX9_chance : MI := (yX9_chance, cX9_chance, 8, (some .int), { frames := 2, cells := 0, slots := 0, locals := 51 })
theorem wbX9_chance : CWb MX9_chance 4 := ⟨in_TB 112 (by decide +kernel) (by decide +kernel), in_TB 846 (by decide +kernel) (by decide +kernel), ⟨by decide +kernel, by decide +kernel⟩, by decide +kernel⟩
def MX9_partDay : MI := (yX9_partDay, cX9_partDay, 2, (some .int), { frames := 2, cells := 0, slots := 0, locals := 52 })
theorem wbX9_partDay : CWb MX9_partDay 1 := ⟨in_TB 112 (by decide +kernel) (by decide +kernel), in_TB 862 (by decide +kernel) (by decide +kernel), ⟨by decide +kernel, by decide +kernel⟩, by decide +kernel⟩
def MX9_rounds : MI := (yX9_rounds, cX9_rounds, 2, (some .int), { frames := 3, cells := 0, slots := 0, locals := 73 })
theorem wbX9_rounds : CWb MX9_rounds 1 := ⟨in_TB 112 (by decide +kernel) (by decide +kernel), in_TB 858 (by decide +kernel) (by decide +kernel), ⟨by decide +kernel, by decide +kernel⟩, by decide +kernel⟩
def MX9_roundSet : MI := (yX9_roundSet, cX9_roundSet, 3, (some .int), { frames := 3, cells := 0, slots := 0, locals := 73 })
theorem wbX9_roundSet : CWb MX9_roundSet 2 := ⟨in_TB 112 (by decide +kernel) (by decide +kernel), in_TB 887 (by decide +kernel) (by decide +kernel), ⟨by decide +kernel, by decide +kernel⟩, by decide +kernel⟩
def MX9_round : MI := (yX9_round, cX9_round, 6, (some .int), { frames := 4, cells := 0, slots := 0, locals := 95 })
theorem wbX9_round : CWb MX9_round 3 := ⟨in_TB 112 (by decide +kernel) (by decide +kernel), in_TB 883 (by decide +kernel) (by decide +kernel), ⟨by decide +kernel, by decide +kernel⟩, by decide +kernel⟩
def MX9_aboard : MI := (yX9_aboard, cX9_aboard, 8, (some .int), { frames := 4, cells := 0, slots := 0, locals := 95 })
theorem wbX9_aboard : CWb MX9_aboard 3 := ⟨in_TB 112 (by decide +kernel) (by decide +kernel), in_TB 912 (by decide +kernel) (by decide +kernel), ⟨by decide +kernel, by decide +kernel⟩, by decide +kernel⟩
def MX9_miles : MI := (yX9_miles, cX9_miles, 2, (some .int), { frames := 1, cells := 0, slots := 0, locals := 21 })
theorem wbX9_miles : CWb MX9_miles 1 := ⟨in_TB 112 (by decide +kernel) (by decide +kernel), in_TB 916 (by decide +kernel) (by decide +kernel), ⟨by decide +kernel, by decide +kernel⟩, by decide +kernel⟩
def MX9_together : MI := (yX9_together, cX9_together, 3, (some .int), { frames := 1, cells := 0, slots := 0, locals := 22 })
theorem wbX9_together : CWb MX9_together 2 := ⟨in_TB 112 (by decide +kernel) (by decide +kernel), in_TB 920 (by decide +kernel) (by decide +kernel), ⟨by decide +kernel, by decide +kernel⟩, by decide +kernel⟩
def MX9_savings : MI := (yX9_savings, cX9_savings, 3, (some .int), { frames := 3, cells := 0, slots := 0, locals := 70 })
theorem wbX9_savings : CWb MX9_savings 2 := ⟨in_TB 112 (by decide +kernel) (by decide +kernel), in_TB 929 (by decide +kernel) (by decide +kernel), ⟨by decide +kernel, by decide +kernel⟩, by decide +kernel⟩
def MX9_greatestDivisor : MI := (yX9_greatestDivisor, cX9_greatestDivisor, 6, (some .int), { frames := 1, cells := 0, slots := 0, locals := 21 })
theorem wbX9_greatestDivisor : CWb MX9_greatestDivisor 2 := ⟨in_TB 112 (by decide +kernel) (by decide +kernel), in_TB 971 (by decide +kernel) (by decide +kernel), ⟨by decide +kernel, by decide +kernel⟩, by decide +kernel⟩
def MX9_share : MI := (yX9_share, cX9_share, 7, (some .int), { frames := 3, cells := 0, slots := 0, locals := 73 })
theorem wbX9_share : CWb MX9_share 3 := ⟨in_TB 112 (by decide +kernel) (by decide +kernel), in_TB 951 (by decide +kernel) (by decide +kernel), ⟨by decide +kernel, by decide +kernel⟩, by decide +kernel⟩
def MX9_peak : MI := (yX9_peak, cX9_peak, 3, (some .int), { frames := 3, cells := 0, slots := 0, locals := 66 })
theorem wbX9_peak : CWb MX9_peak 1 := ⟨in_TB 112 (by decide +kernel) (by decide +kernel), in_TB 977 (by decide +kernel) (by decide +kernel), ⟨by decide +kernel, by decide +kernel⟩, by decide +kernel⟩
def MX9_cost : MI := (yX9_cost, cX9_cost, 2, (some .int), { frames := 5, cells := 0, slots := 0, locals := 116 })
theorem wbX9_cost : CWb MX9_cost 1 := ⟨in_TB 112 (by decide +kernel) (by decide +kernel), in_TB 990 (by decide +kernel) (by decide +kernel), ⟨by decide +kernel, by decide +kernel⟩, by decide +kernel⟩
def MX9_costOf : MI := (yX9_costOf, cX9_costOf, 2, (some .int), { frames := 3, cells := 0, slots := 0, locals := 74 })
theorem wbX9_costOf : CWb MX9_costOf 1 := ⟨in_TB 112 (by decide +kernel) (by decide +kernel), in_TB 1022 (by decide +kernel) (by decide +kernel), ⟨by decide +kernel, by decide +kernel⟩, by decide +kernel⟩
def MX9_worth : MI := (yX9_worth, cX9_worth, 3, (some .int), { frames := 4, cells := 0, slots := 0, locals := 96 })
theorem wbX9_worth : CWb MX9_worth 2 := ⟨in_TB 112 (by decide +kernel) (by decide +kernel), in_TB 1027 (by decide +kernel) (by decide +kernel), ⟨by decide +kernel, by decide +kernel⟩, by decide +kernel⟩
def MX9_leastTruck : MI := (yX9_leastTruck, cX9_leastTruck, 7, (some .int), { frames := 3, cells := 0, slots := 0, locals := 76 })
theorem wbX9_leastTruck : CWb MX9_leastTruck 2 := ⟨in_TB 112 (by decide +kernel) (by decide +kernel), in_TB 1053 (by decide +kernel) (by decide +kernel), ⟨by decide +kernel, by decide +kernel⟩, by decide +kernel⟩
def MX9_truck : MI := (yX9_truck, cX9_truck, 3, (some .int), { frames := 4, cells := 0, slots := 0, locals := 102 })
theorem wbX9_truck : CWb MX9_truck 1 := ⟨in_TB 112 (by decide +kernel) (by decide +kernel), in_TB 1041 (by decide +kernel) (by decide +kernel), ⟨by decide +kernel, by decide +kernel⟩, by decide +kernel⟩
def MX9_losesAt : MI := (yX9_losesAt, cX9_losesAt, 2, (some .boolean), { frames := 4, cells := 0, slots := 0, locals := 94 })
theorem wbX9_losesAt : CWb MX9_losesAt 1 := ⟨in_TB 112 (by decide +kernel) (by decide +kernel), in_TB 1061 (by decide +kernel) (by decide +kernel), ⟨by decide +kernel, by decide +kernel⟩, by decide +kernel⟩
def MX9_greatestPercent : MI := (yX9_greatestPercent, cX9_greatestPercent, 5, (some .int), { frames := 5, cells := 0, slots := 0, locals := 115 })
theorem wbX9_greatestPercent : CWb MX9_greatestPercent 0 := ⟨in_TB 112 (by decide +kernel) (by decide +kernel), in_TB 1065 (by decide +kernel) (by decide +kernel), ⟨by decide +kernel, by decide +kernel⟩, by decide +kernel⟩
def MX9_reach : MI := (yX9_reach, cX9_reach, 1, (some .int), { frames := 6, cells := 0, slots := 0, locals := 139 })
theorem wbX9_reach : CWb MX9_reach 0 := ⟨in_TB 112 (by decide +kernel) (by decide +kernel), in_TB 1057 (by decide +kernel) (by decide +kernel), ⟨by decide +kernel, by decide +kernel⟩, by decide +kernel⟩
def MX9_scaled : MI := (yX9_scaled, cX9_scaled, 2, (some .int), { frames := 4, cells := 0, slots := 0, locals := 96 })
theorem wbX9_scaled : CWb MX9_scaled 1 := ⟨in_TB 112 (by decide +kernel) (by decide +kernel), in_TB 1069 (by decide +kernel) (by decide +kernel), ⟨by decide +kernel, by decide +kernel⟩, by decide +kernel⟩
def MX9_alone : MI := (yX9_alone, cX9_alone, 3, (some .int), { frames := 5, cells := 0, slots := 0, locals := 124 })
theorem wbX9_alone : CWb MX9_alone 2 := ⟨in_TB 112 (by decide +kernel) (by decide +kernel), in_TB 1073 (by decide +kernel) (by decide +kernel), ⟨by decide +kernel, by decide +kernel⟩, by decide +kernel⟩
def MX9_every : MI := (yX9_every, cX9_every, 3, (some .int), { frames := 5, cells := 0, slots := 0, locals := 120 })
theorem wbX9_every : CWb MX9_every 2 := ⟨in_TB 112 (by decide +kernel) (by decide +kernel), in_TB 1116 (by decide +kernel) (by decide +kernel), ⟨by decide +kernel, by decide +kernel⟩, by decide +kernel⟩
def MX9_joint : MI := (yX9_joint, cX9_joint, 2, (some .int), { frames := 5, cells := 0, slots := 0, locals := 124 })
theorem wbX9_joint : CWb MX9_joint 1 := ⟨in_TB 112 (by decide +kernel) (by decide +kernel), in_TB 1137 (by decide +kernel) (by decide +kernel), ⟨by decide +kernel, by decide +kernel⟩, by decide +kernel⟩
def MX9_keepAct : MI := (yX9_keepAct, cX9_keepAct, 1, none, { frames := 2, cells := 0, slots := 0, locals := 48 })
theorem wbX9_keepAct : CWb MX9_keepAct 0 := ⟨in_TB 112 (by decide +kernel) (by decide +kernel), in_TB 1145 (by decide +kernel) (by decide +kernel), ⟨by decide +kernel, by decide +kernel⟩, by decide +kernel⟩
def MX9_visit : MI := (yX9_visit, cX9_visit, 3, (some .int), { frames := 4, cells := 0, slots := 0, locals := 95 })
theorem wbX9_visit : CWb MX9_visit 2 := ⟨in_TB 112 (by decide +kernel) (by decide +kernel), in_TB 1141 (by decide +kernel) (by decide +kernel), ⟨by decide +kernel, by decide +kernel⟩, by decide +kernel⟩
def MX9_rule : MI := (yX9_rule, cX9_rule, 2, (some .int), { frames := 6, cells := 0, slots := 0, locals := 145 })
theorem wbX9_rule : CWb MX9_rule 1 := ⟨in_TB 112 (by decide +kernel) (by decide +kernel), in_TB 1154 (by decide +kernel) (by decide +kernel), ⟨by decide +kernel, by decide +kernel⟩, by decide +kernel⟩
def MX9_adoptTrial : MI := (yX9_adoptTrial, cX9_adoptTrial, 2, none, { frames := 3, cells := 0, slots := 0, locals := 68 })
theorem wbX9_adoptTrial : CWb MX9_adoptTrial 1 := ⟨in_TB 112 (by decide +kernel) (by decide +kernel), in_TB 1197 (by decide +kernel) (by decide +kernel), ⟨by decide +kernel, by decide +kernel⟩, by decide +kernel⟩
def MX9_better : MI := (yX9_better, cX9_better, 3, (some .int), { frames := 6, cells := 0, slots := 0, locals := 146 })
theorem wbX9_better : CWb MX9_better 1 := ⟨in_TB 112 (by decide +kernel) (by decide +kernel), in_TB 1182 (by decide +kernel) (by decide +kernel), ⟨by decide +kernel, by decide +kernel⟩, by decide +kernel⟩
def MX9_tune : MI := (yX9_tune, cX9_tune, 3, (some .int), { frames := 6, cells := 0, slots := 0, locals := 145 })
theorem wbX9_tune : CWb MX9_tune 1 := ⟨in_TB 112 (by decide +kernel) (by decide +kernel), in_TB 1201 (by decide +kernel) (by decide +kernel), ⟨by decide +kernel, by decide +kernel⟩, by decide +kernel⟩
def MX9_least : MI := (yX9_least, cX9_least, 1, (some .int), { frames := 6, cells := 0, slots := 0, locals := 146 })
theorem wbX9_least : CWb MX9_least 0 := ⟨in_TB 112 (by decide +kernel) (by decide +kernel), in_TB 1209 (by decide +kernel) (by decide +kernel), ⟨by decide +kernel, by decide +kernel⟩, by decide +kernel⟩
def MX9_clear : MI := (yX9_clear, cX9_clear, 2, (some .int), { frames := 5, cells := 0, slots := 0, locals := 116 })
theorem wbX9_clear : CWb MX9_clear 0 := ⟨in_TB 112 (by decide +kernel) (by decide +kernel), in_TB 1228 (by decide +kernel) (by decide +kernel), ⟨by decide +kernel, by decide +kernel⟩, by decide +kernel⟩
def MX9_rush : MI := (yX9_rush, cX9_rush, 4, (some .int), { frames := 4, cells := 0, slots := 0, locals := 94 })
theorem wbX9_rush : CWb MX9_rush 3 := ⟨in_TB 112 (by decide +kernel) (by decide +kernel), in_TB 1233 (by decide +kernel) (by decide +kernel), ⟨by decide +kernel, by decide +kernel⟩, by decide +kernel⟩
def MX9_undo : MI := (yX9_undo, cX9_undo, 2, (some .boolean), { frames := 4, cells := 0, slots := 0, locals := 95 })
theorem wbX9_undo : CWb MX9_undo 0 := ⟨in_TB 112 (by decide +kernel) (by decide +kernel), in_TB 1238 (by decide +kernel) (by decide +kernel), ⟨by decide +kernel, by decide +kernel⟩, by decide +kernel⟩
def MX10_in : MI := (yX10_in, cX10_in, 3, (some .boolean), { frames := 0, cells := 0, slots := 0, locals := 0 })
theorem wbX10_in : CWb MX10_in 3 := ⟨in_TB 128 (by decide +kernel) (by decide +kernel), in_TB 1396 (by decide +kernel) (by decide +kernel), ⟨by decide +kernel, by decide +kernel⟩, by decide +kernel⟩
def MX10_isOf : MI := (yX10_isOf, cX10_isOf, 2, (some .boolean), { frames := 0, cells := 0, slots := 0, locals := 0 })
theorem wbX10_isOf : CWb MX10_isOf 2 := ⟨in_TB 128 (by decide +kernel) (by decide +kernel), in_TB 1434 (by decide +kernel) (by decide +kernel), ⟨by decide +kernel, by decide +kernel⟩, by decide +kernel⟩
def MX10_lesser : MI := (yX10_lesser, cX10_lesser, 2, (some .int), { frames := 0, cells := 0, slots := 0, locals := 0 })
theorem wbX10_lesser : CWb MX10_lesser 2 := ⟨in_TB 128 (by decide +kernel) (by decide +kernel), in_TB 1573 (by decide +kernel) (by decide +kernel), ⟨by decide +kernel, by decide +kernel⟩, by decide +kernel⟩
def MX10_bits : MI := (yX10_bits, cX10_bits, 3, (some .int), { frames := 0, cells := 0, slots := 0, locals := 0 })
theorem wbX10_bits : CWb MX10_bits 1 := ⟨in_TB 128 (by decide +kernel) (by decide +kernel), in_TB 1645 (by decide +kernel) (by decide +kernel), ⟨by decide +kernel, by decide +kernel⟩, by decide +kernel⟩
def MX10_common : MI := (yX10_common, cX10_common, 5, (some .int), { frames := 0, cells := 0, slots := 0, locals := 0 })
theorem wbX10_common : CWb MX10_common 2 := ⟨in_TB 128 (by decide +kernel) (by decide +kernel), in_TB 1671 (by decide +kernel) (by decide +kernel), ⟨by decide +kernel, by decide +kernel⟩, by decide +kernel⟩
def MX10_number : MI := (yX10_number, cX10_number, 2, (some .int), { frames := 0, cells := 0, slots := 0, locals := 0 })
theorem wbX10_number : CWb MX10_number 1 := ⟨in_TB 128 (by decide +kernel) (by decide +kernel), in_TB 1501 (by decide +kernel) (by decide +kernel), ⟨by decide +kernel, by decide +kernel⟩, by decide +kernel⟩
def MX10_shops : MI := (yX10_shops, cX10_shops, 1, (some .int), { frames := 0, cells := 0, slots := 0, locals := 0 })
theorem wbX10_shops : CWb MX10_shops 0 := ⟨in_TB 128 (by decide +kernel) (by decide +kernel), in_TB 1493 (by decide +kernel) (by decide +kernel), ⟨by decide +kernel, by decide +kernel⟩, by decide +kernel⟩
def MX10_days : MI := (yX10_days, cX10_days, 1, (some .int), { frames := 0, cells := 0, slots := 0, locals := 0 })
theorem wbX10_days : CWb MX10_days 0 := ⟨in_TB 128 (by decide +kernel) (by decide +kernel), in_TB 1513 (by decide +kernel) (by decide +kernel), ⟨by decide +kernel, by decide +kernel⟩, by decide +kernel⟩
def MX10_isShop : MI := (yX10_isShop, cX10_isShop, 2, (some .boolean), { frames := 1, cells := 0, slots := 0, locals := 22 })
theorem wbX10_isShop : CWb MX10_isShop 1 := ⟨in_TB 128 (by decide +kernel) (by decide +kernel), in_TB 1529 (by decide +kernel) (by decide +kernel), ⟨by decide +kernel, by decide +kernel⟩, by decide +kernel⟩
def MX10_isDay : MI := (yX10_isDay, cX10_isDay, 2, (some .boolean), { frames := 1, cells := 0, slots := 0, locals := 22 })
theorem wbX10_isDay : CWb MX10_isDay 1 := ⟨in_TB 128 (by decide +kernel) (by decide +kernel), in_TB 1554 (by decide +kernel) (by decide +kernel), ⟨by decide +kernel, by decide +kernel⟩, by decide +kernel⟩
def MX10_four : MI := (yX10_four, cX10_four, 3, none, { frames := 0, cells := 0, slots := 0, locals := 0 })
theorem wbX10_four : CWb MX10_four 1 := ⟨in_TB 128 (by decide +kernel) (by decide +kernel), in_TB 1389 (by decide +kernel) (by decide +kernel), ⟨by decide +kernel, by decide +kernel⟩, by decide +kernel⟩
def MX10_feed : MI := (yX10_feed, cX10_feed, 6, (some .int), { frames := 1, cells := 0, slots := 0, locals := 22 })
theorem wbX10_feed : CWb MX10_feed 5 := ⟨in_TB 128 (by decide +kernel) (by decide +kernel), in_TB 1385 (by decide +kernel) (by decide +kernel), ⟨by decide +kernel, by decide +kernel⟩, by decide +kernel⟩
def MX10_end : MI := (yX10_end, cX10_end, 2, (some .int), { frames := 1, cells := 0, slots := 0, locals := 22 })
theorem wbX10_end : CWb MX10_end 1 := ⟨in_TB 128 (by decide +kernel) (by decide +kernel), in_TB 1393 (by decide +kernel) (by decide +kernel), ⟨by decide +kernel, by decide +kernel⟩, by decide +kernel⟩
def MX10_byteAt : MI := (yX10_byteAt, cX10_byteAt, 2, (some .int), { frames := 0, cells := 0, slots := 0, locals := 0 })
theorem wbX10_byteAt : CWb MX10_byteAt 1 := ⟨in_TB 128 (by decide +kernel) (by decide +kernel), in_TB 1412 (by decide +kernel) (by decide +kernel), ⟨by decide +kernel, by decide +kernel⟩, by decide +kernel⟩
def MX10_isSmall : MI := (yX10_isSmall, cX10_isSmall, 1, (some .boolean), { frames := 0, cells := 0, slots := 0, locals := 0 })
theorem wbX10_isSmall : CWb MX10_isSmall 1 := ⟨in_TB 128 (by decide +kernel) (by decide +kernel), in_TB 1415 (by decide +kernel) (by decide +kernel), ⟨by decide +kernel, by decide +kernel⟩, by decide +kernel⟩
def MX10_isDigit : MI := (yX10_isDigit, cX10_isDigit, 1, (some .boolean), { frames := 0, cells := 0, slots := 0, locals := 0 })
theorem wbX10_isDigit : CWb MX10_isDigit 1 := ⟨in_TB 128 (by decide +kernel) (by decide +kernel), in_TB 1418 (by decide +kernel) (by decide +kernel), ⟨by decide +kernel, by decide +kernel⟩, by decide +kernel⟩
def MX10_isGood : MI := (yX10_isGood, cX10_isGood, 1, (some .boolean), { frames := 0, cells := 0, slots := 0, locals := 0 })
theorem wbX10_isGood : CWb MX10_isGood 0 := ⟨in_TB 128 (by decide +kernel) (by decide +kernel), in_TB 1408 (by decide +kernel) (by decide +kernel), ⟨by decide +kernel, by decide +kernel⟩, by decide +kernel⟩
def MX10_fails : MI := (yX10_fails, cX10_fails, 2, none, { frames := 0, cells := 0, slots := 0, locals := 0 })
theorem wbX10_fails : CWb MX10_fails 1 := ⟨in_TB 128 (by decide +kernel) (by decide +kernel), in_TB 1438 (by decide +kernel) (by decide +kernel), ⟨by decide +kernel, by decide +kernel⟩, by decide +kernel⟩
def MX10_goOn : MI := (yX10_goOn, cX10_goOn, 2, none, { frames := 1, cells := 0, slots := 0, locals := 21 })
theorem wbX10_goOn : CWb MX10_goOn 0 := ⟨in_TB 128 (by decide +kernel) (by decide +kernel), in_TB 1404 (by decide +kernel) (by decide +kernel), ⟨by decide +kernel, by decide +kernel⟩, by decide +kernel⟩
def MX10_isWord : MI := (yX10_isWord, cX10_isWord, 2, (some .boolean), { frames := 0, cells := 0, slots := 0, locals := 0 })
theorem wbX10_isWord : CWb MX10_isWord 1 := ⟨in_TB 128 (by decide +kernel) (by decide +kernel), in_TB 1427 (by decide +kernel) (by decide +kernel), ⟨by decide +kernel, by decide +kernel⟩, by decide +kernel⟩
def MX10_isName : MI := (yX10_isName, cX10_isName, 3, (some .boolean), { frames := 1, cells := 0, slots := 0, locals := 21 })
theorem wbX10_isName : CWb MX10_isName 0 := ⟨in_TB 128 (by decide +kernel) (by decide +kernel), in_TB 1465 (by decide +kernel) (by decide +kernel), ⟨by decide +kernel, by decide +kernel⟩, by decide +kernel⟩
def MX10_called : MI := (yX10_called, cX10_called, 2, (some .int), { frames := 0, cells := 0, slots := 0, locals := 0 })
theorem wbX10_called : CWb MX10_called 0 := ⟨in_TB 128 (by decide +kernel) (by decide +kernel), in_TB 1473 (by decide +kernel) (by decide +kernel), ⟨by decide +kernel, by decide +kernel⟩, by decide +kernel⟩
def MX10_readNumber : MI := (yX10_readNumber, cX10_readNumber, 4, (some .int), { frames := 2, cells := 0, slots := 0, locals := 42 })
theorem wbX10_readNumber : CWb MX10_readNumber 2 := ⟨in_TB 128 (by decide +kernel) (by decide +kernel), in_TB 1446 (by decide +kernel) (by decide +kernel), ⟨by decide +kernel, by decide +kernel⟩, by decide +kernel⟩
def MX10_keyword : MI := (yX10_keyword, cX10_keyword, 2, none, { frames := 2, cells := 0, slots := 0, locals := 42 })
theorem wbX10_keyword : CWb MX10_keyword 1 := ⟨in_TB 128 (by decide +kernel) (by decide +kernel), in_TB 1477 (by decide +kernel) (by decide +kernel), ⟨by decide +kernel, by decide +kernel⟩, by decide +kernel⟩
def MX10_begins : MI := (yX10_begins, cX10_begins, 2, (some .boolean), { frames := 2, cells := 0, slots := 0, locals := 42 })
theorem wbX10_begins : CWb MX10_begins 1 := ⟨in_TB 128 (by decide +kernel) (by decide +kernel), in_TB 1431 (by decide +kernel) (by decide +kernel), ⟨by decide +kernel, by decide +kernel⟩, by decide +kernel⟩
def MX10_reads : MI := (yX10_reads, cX10_reads, 5, none, { frames := 3, cells := 0, slots := 0, locals := 65 })
theorem wbX10_reads : CWb MX10_reads 3 := ⟨in_TB 128 (by decide +kernel) (by decide +kernel), in_TB 1442 (by decide +kernel) (by decide +kernel), ⟨by decide +kernel, by decide +kernel⟩, by decide +kernel⟩
def MX10_readTruck : MI := (yX10_readTruck, cX10_readTruck, 1, none, { frames := 4, cells := 0, slots := 0, locals := 89 })
theorem wbX10_readTruck : CWb MX10_readTruck 0 := ⟨in_TB 128 (by decide +kernel) (by decide +kernel), in_TB 1452 (by decide +kernel) (by decide +kernel), ⟨by decide +kernel, by decide +kernel⟩, by decide +kernel⟩
def MX10_readShop : MI := (yX10_readShop, cX10_readShop, 4, none, { frames := 3, cells := 0, slots := 0, locals := 65 })
theorem wbX10_readShop : CWb MX10_readShop 0 := ⟨in_TB 128 (by decide +kernel) (by decide +kernel), in_TB 1461 (by decide +kernel) (by decide +kernel), ⟨by decide +kernel, by decide +kernel⟩, by decide +kernel⟩
def MX10_readRush : MI := (yX10_readRush, cX10_readRush, 5, none, { frames := 3, cells := 0, slots := 0, locals := 65 })
theorem wbX10_readRush : CWb MX10_readRush 0 := ⟨in_TB 128 (by decide +kernel) (by decide +kernel), in_TB 1481 (by decide +kernel) (by decide +kernel), ⟨by decide +kernel, by decide +kernel⟩, by decide +kernel⟩
def MX10_readLine : MI := (yX10_readLine, cX10_readLine, 1, none, { frames := 5, cells := 0, slots := 0, locals := 109 })
theorem wbX10_readLine : CWb MX10_readLine 0 := ⟨in_TB 128 (by decide +kernel) (by decide +kernel), in_TB 1422 (by decide +kernel) (by decide +kernel), ⟨by decide +kernel, by decide +kernel⟩, by decide +kernel⟩
def MX10_far : MI := (yX10_far, cX10_far, 5, (some .int), { frames := 1, cells := 0, slots := 0, locals := 21 })
theorem wbX10_far : CWb MX10_far 2 := ⟨in_TB 128 (by decide +kernel) (by decide +kernel), in_TB 1497 (by decide +kernel) (by decide +kernel), ⟨by decide +kernel, by decide +kernel⟩, by decide +kernel⟩
def MX10_layWays : MI := (yX10_layWays, cX10_layWays, 6, none, { frames := 2, cells := 0, slots := 0, locals := 45 })
theorem wbX10_layWays : CWb MX10_layWays 0 := ⟨in_TB 128 (by decide +kernel) (by decide +kernel), in_TB 1489 (by decide +kernel) (by decide +kernel), ⟨by decide +kernel, by decide +kernel⟩, by decide +kernel⟩
def MX10_stands : MI := (yX10_stands, cX10_stands, 2, none, { frames := 3, cells := 0, slots := 0, locals := 70 })
theorem wbX10_stands : CWb MX10_stands 0 := ⟨in_TB 128 (by decide +kernel) (by decide +kernel), in_TB 1485 (by decide +kernel) (by decide +kernel), ⟨by decide +kernel, by decide +kernel⟩, by decide +kernel⟩
def MX10_text : MI := (yX10_text, cX10_text, 1, (some .int), { frames := 6, cells := 0, slots := 0, locals := 129 })
theorem wbX10_text : CWb MX10_text 0 := ⟨in_TB 128 (by decide +kernel) (by decide +kernel), in_TB 1400 (by decide +kernel) (by decide +kernel), ⟨by decide +kernel, by decide +kernel⟩, by decide +kernel⟩
def MX10_fault : MI := (yX10_fault, cX10_fault, 2, (some .int), { frames := 0, cells := 0, slots := 0, locals := 0 })
theorem wbX10_fault : CWb MX10_fault 1 := ⟨in_TB 128 (by decide +kernel) (by decide +kernel), in_TB 1505 (by decide +kernel) (by decide +kernel), ⟨by decide +kernel, by decide +kernel⟩, by decide +kernel⟩
def MX10_about : MI := (yX10_about, cX10_about, 2, (some .int), { frames := 1, cells := 0, slots := 0, locals := 21 })
theorem wbX10_about : CWb MX10_about 1 := ⟨in_TB 128 (by decide +kernel) (by decide +kernel), in_TB 1509 (by decide +kernel) (by decide +kernel), ⟨by decide +kernel, by decide +kernel⟩, by decide +kernel⟩
def MX10_milesOf : MI := (yX10_milesOf, cX10_milesOf, 2, (some .int), { frames := 0, cells := 0, slots := 0, locals := 0 })
theorem wbX10_milesOf : CWb MX10_milesOf 1 := ⟨in_TB 128 (by decide +kernel) (by decide +kernel), in_TB 1521 (by decide +kernel) (by decide +kernel), ⟨by decide +kernel, by decide +kernel⟩, by decide +kernel⟩
def MX10_costOfSet : MI := (yX10_costOfSet, cX10_costOfSet, 2, (some .int), { frames := 1, cells := 0, slots := 0, locals := 21 })
theorem wbX10_costOfSet : CWb MX10_costOfSet 1 := ⟨in_TB 128 (by decide +kernel) (by decide +kernel), in_TB 1534 (by decide +kernel) (by decide +kernel), ⟨by decide +kernel, by decide +kernel⟩, by decide +kernel⟩
def MX10_miles : MI := (yX10_miles, cX10_miles, 2, (some .int), { frames := 1, cells := 0, slots := 0, locals := 22 })
theorem wbX10_miles : CWb MX10_miles 1 := ⟨in_TB 128 (by decide +kernel) (by decide +kernel), in_TB 1517 (by decide +kernel) (by decide +kernel), ⟨by decide +kernel, by decide +kernel⟩, by decide +kernel⟩
def MX10_together : MI := (yX10_together, cX10_together, 3, (some .int), { frames := 2, cells := 0, slots := 0, locals := 43 })
theorem wbX10_together : CWb MX10_together 2 := ⟨in_TB 128 (by decide +kernel) (by decide +kernel), in_TB 1525 (by decide +kernel) (by decide +kernel), ⟨by decide +kernel, by decide +kernel⟩, by decide +kernel⟩
def MX10_askedOf : MI := (yX10_askedOf, cX10_askedOf, 5, (some .int), { frames := 1, cells := 0, slots := 0, locals := 21 })
theorem wbX10_askedOf : CWb MX10_askedOf 2 := ⟨in_TB 128 (by decide +kernel) (by decide +kernel), in_TB 1542 (by decide +kernel) (by decide +kernel), ⟨by decide +kernel, by decide +kernel⟩, by decide +kernel⟩
def MX10_layAsked : MI := (yX10_layAsked, cX10_layAsked, 4, none, { frames := 2, cells := 0, slots := 0, locals := 45 })
theorem wbX10_layAsked : CWb MX10_layAsked 1 := ⟨in_TB 128 (by decide +kernel) (by decide +kernel), in_TB 1562 (by decide +kernel) (by decide +kernel), ⟨by decide +kernel, by decide +kernel⟩, by decide +kernel⟩
def MX10_runShop : MI := (yX10_runShop, cX10_runShop, 7, none, { frames := 1, cells := 0, slots := 0, locals := 21 })
theorem wbX10_runShop : CWb MX10_runShop 2 := ⟨in_TB 128 (by decide +kernel) (by decide +kernel), in_TB 1570 (by decide +kernel) (by decide +kernel), ⟨by decide +kernel, by decide +kernel⟩, by decide +kernel⟩
def MX10_runAll : MI := (yX10_runAll, cX10_runAll, 2, none, { frames := 2, cells := 0, slots := 0, locals := 47 })
theorem wbX10_runAll : CWb MX10_runAll 0 := ⟨in_TB 128 (by decide +kernel) (by decide +kernel), in_TB 1566 (by decide +kernel) (by decide +kernel), ⟨by decide +kernel, by decide +kernel⟩, by decide +kernel⟩
def MX10_layRun : MI := (yX10_layRun, cX10_layRun, 1, none, { frames := 3, cells := 0, slots := 0, locals := 68 })
theorem wbX10_layRun : CWb MX10_layRun 0 := ⟨in_TB 128 (by decide +kernel) (by decide +kernel), in_TB 1558 (by decide +kernel) (by decide +kernel), ⟨by decide +kernel, by decide +kernel⟩, by decide +kernel⟩
def MX10_isAt : MI := (yX10_isAt, cX10_isAt, 3, (some .boolean), { frames := 2, cells := 0, slots := 0, locals := 43 })
theorem wbX10_isAt : CWb MX10_isAt 2 := ⟨in_TB 128 (by decide +kernel) (by decide +kernel), in_TB 1550 (by decide +kernel) (by decide +kernel), ⟨by decide +kernel, by decide +kernel⟩, by decide +kernel⟩
def MX10_shop : MI := (yX10_shop, cX10_shop, 3, (some .int), { frames := 2, cells := 0, slots := 0, locals := 45 })
theorem wbX10_shop : CWb MX10_shop 2 := ⟨in_TB 128 (by decide +kernel) (by decide +kernel), in_TB 1538 (by decide +kernel) (by decide +kernel), ⟨by decide +kernel, by decide +kernel⟩, by decide +kernel⟩
def MX10_load : MI := (yX10_load, cX10_load, 3, (some .int), { frames := 4, cells := 0, slots := 0, locals := 88 })
theorem wbX10_load : CWb MX10_load 2 := ⟨in_TB 128 (by decide +kernel) (by decide +kernel), in_TB 1546 (by decide +kernel) (by decide +kernel), ⟨by decide +kernel, by decide +kernel⟩, by decide +kernel⟩
def MX10_stock : MI := (yX10_stock, cX10_stock, 3, (some .int), { frames := 4, cells := 0, slots := 0, locals := 88 })
theorem wbX10_stock : CWb MX10_stock 2 := ⟨in_TB 128 (by decide +kernel) (by decide +kernel), in_TB 1577 (by decide +kernel) (by decide +kernel), ⟨by decide +kernel, by decide +kernel⟩, by decide +kernel⟩
def MX10_lost : MI := (yX10_lost, cX10_lost, 3, (some .int), { frames := 4, cells := 0, slots := 0, locals := 88 })
theorem wbX10_lost : CWb MX10_lost 2 := ⟨in_TB 128 (by decide +kernel) (by decide +kernel), in_TB 1581 (by decide +kernel) (by decide +kernel), ⟨by decide +kernel, by decide +kernel⟩, by decide +kernel⟩
def MX10_lostBy : MI := (yX10_lostBy, cX10_lostBy, 4, (some .int), { frames := 1, cells := 0, slots := 0, locals := 20 })
theorem wbX10_lostBy : CWb MX10_lostBy 1 := ⟨in_TB 128 (by decide +kernel) (by decide +kernel), in_TB 1601 (by decide +kernel) (by decide +kernel), ⟨by decide +kernel, by decide +kernel⟩, by decide +kernel⟩
def MX10_of : MI := (yX10_of, cX10_of, 7, (some .int), { frames := 4, cells := 0, slots := 0, locals := 88 })
theorem wbX10_of : CWb MX10_of 2 := ⟨in_TB 128 (by decide +kernel) (by decide +kernel), in_TB 1585 (by decide +kernel) (by decide +kernel), ⟨by decide +kernel, by decide +kernel⟩, by decide +kernel⟩
def MX10_firstLost : MI := (yX10_firstLost, cX10_firstLost, 4, (some .int), { frames := 1, cells := 0, slots := 0, locals := 20 })
theorem wbX10_firstLost : CWb MX10_firstLost 2 := ⟨in_TB 128 (by decide +kernel) (by decide +kernel), in_TB 1593 (by decide +kernel) (by decide +kernel), ⟨by decide +kernel, by decide +kernel⟩, by decide +kernel⟩
def MX10_empty : MI := (yX10_empty, cX10_empty, 2, (some .int), { frames := 4, cells := 0, slots := 0, locals := 88 })
theorem wbX10_empty : CWb MX10_empty 1 := ⟨in_TB 128 (by decide +kernel) (by decide +kernel), in_TB 1589 (by decide +kernel) (by decide +kernel), ⟨by decide +kernel, by decide +kernel⟩, by decide +kernel⟩
def MX10_bears : MI := (yX10_bears, cX10_bears, 4, (some .int), { frames := 4, cells := 0, slots := 0, locals := 88 })
theorem wbX10_bears : CWb MX10_bears 2 := ⟨in_TB 128 (by decide +kernel) (by decide +kernel), in_TB 1597 (by decide +kernel) (by decide +kernel), ⟨by decide +kernel, by decide +kernel⟩, by decide +kernel⟩
def MX10_waits : MI := (yX10_waits, cX10_waits, 3, (some .int), { frames := 3, cells := 0, slots := 0, locals := 68 })
theorem wbX10_waits : CWb MX10_waits 2 := ⟨in_TB 128 (by decide +kernel) (by decide +kernel), in_TB 1605 (by decide +kernel) (by decide +kernel), ⟨by decide +kernel, by decide +kernel⟩, by decide +kernel⟩
def MX10_lostByDraws : MI := (yX10_lostByDraws, cX10_lostByDraws, 8, (some .int), { frames := 3, cells := 0, slots := 0, locals := 68 })
theorem wbX10_lostByDraws : CWb MX10_lostByDraws 2 := ⟨in_TB 128 (by decide +kernel) (by decide +kernel), in_TB 1613 (by decide +kernel) (by decide +kernel), ⟨by decide +kernel, by decide +kernel⟩, by decide +kernel⟩
def MX10_chance : MI := (yX10_chance, cX10_chance, 9, (some .int), { frames := 4, cells := 0, slots := 0, locals := 95 })
theorem wbX10_chance : CWb MX10_chance 4 := ⟨in_TB 128 (by decide +kernel) (by decide +kernel), in_TB 1609 (by decide +kernel) (by decide +kernel), ⟨by decide +kernel, by decide +kernel⟩, by decide +kernel⟩
def MX10_loadsOf : MI := (yX10_loadsOf, cX10_loadsOf, 4, (some .int), { frames := 1, cells := 0, slots := 0, locals := 21 })
theorem wbX10_loadsOf : CWb MX10_loadsOf 1 := ⟨in_TB 128 (by decide +kernel) (by decide +kernel), in_TB 1634 (by decide +kernel) (by decide +kernel), ⟨by decide +kernel, by decide +kernel⟩, by decide +kernel⟩
def MX10_layLoads : MI := (yX10_layLoads, cX10_layLoads, 4, (some .int), { frames := 1, cells := 0, slots := 0, locals := 20 })
theorem wbX10_layLoads : CWb MX10_layLoads 1 := ⟨in_TB 128 (by decide +kernel) (by decide +kernel), in_TB 1622 (by decide +kernel) (by decide +kernel), ⟨by decide +kernel, by decide +kernel⟩, by decide +kernel⟩
def MX10_layPart : MI := (yX10_layPart, cX10_layPart, 8, none, { frames := 2, cells := 0, slots := 0, locals := 44 })
theorem wbX10_layPart : CWb MX10_layPart 2 := ⟨in_TB 128 (by decide +kernel) (by decide +kernel), in_TB 1630 (by decide +kernel) (by decide +kernel), ⟨by decide +kernel, by decide +kernel⟩, by decide +kernel⟩
def MX10_layParts : MI := (yX10_layParts, cX10_layParts, 4, (some .int), { frames := 3, cells := 0, slots := 0, locals := 71 })
theorem wbX10_layParts : CWb MX10_layParts 2 := ⟨in_TB 128 (by decide +kernel) (by decide +kernel), in_TB 1626 (by decide +kernel) (by decide +kernel), ⟨by decide +kernel, by decide +kernel⟩, by decide +kernel⟩
def MX10_roundsCost : MI := (yX10_roundsCost, cX10_roundsCost, 3, (some .int), { frames := 4, cells := 0, slots := 0, locals := 94 })
theorem wbX10_roundsCost : CWb MX10_roundsCost 2 := ⟨in_TB 128 (by decide +kernel) (by decide +kernel), in_TB 1691 (by decide +kernel) (by decide +kernel), ⟨by decide +kernel, by decide +kernel⟩, by decide +kernel⟩
def MX10_rounds : MI := (yX10_rounds, cX10_rounds, 3, (some .int), { frames := 4, cells := 0, slots := 0, locals := 94 })
theorem wbX10_rounds : CWb MX10_rounds 1 := ⟨in_TB 128 (by decide +kernel) (by decide +kernel), in_TB 1618 (by decide +kernel) (by decide +kernel), ⟨by decide +kernel, by decide +kernel⟩, by decide +kernel⟩
def MX10_roundOf : MI := (yX10_roundOf, cX10_roundOf, 5, (some .int), { frames := 4, cells := 0, slots := 0, locals := 94 })
theorem wbX10_roundOf : CWb MX10_roundOf 2 := ⟨in_TB 128 (by decide +kernel) (by decide +kernel), in_TB 1642 (by decide +kernel) (by decide +kernel), ⟨by decide +kernel, by decide +kernel⟩, by decide +kernel⟩
def MX10_onWay : MI := (yX10_onWay, cX10_onWay, 7, (some .int), { frames := 2, cells := 0, slots := 0, locals := 45 })
theorem wbX10_onWay : CWb MX10_onWay 2 := ⟨in_TB 128 (by decide +kernel) (by decide +kernel), in_TB 1649 (by decide +kernel) (by decide +kernel), ⟨by decide +kernel, by decide +kernel⟩, by decide +kernel⟩
def MX10_round : MI := (yX10_round, cX10_round, 5, (some .int), { frames := 5, cells := 0, slots := 0, locals := 118 })
theorem wbX10_round : CWb MX10_round 3 := ⟨in_TB 128 (by decide +kernel) (by decide +kernel), in_TB 1638 (by decide +kernel) (by decide +kernel), ⟨by decide +kernel, by decide +kernel⟩, by decide +kernel⟩
def MX10_aboard : MI := (yX10_aboard, cX10_aboard, 7, (some .int), { frames := 5, cells := 0, slots := 0, locals := 118 })
theorem wbX10_aboard : CWb MX10_aboard 3 := ⟨in_TB 128 (by decide +kernel) (by decide +kernel), in_TB 1653 (by decide +kernel) (by decide +kernel), ⟨by decide +kernel, by decide +kernel⟩, by decide +kernel⟩
def MX10_joins : MI := (yX10_joins, cX10_joins, 8, (some .boolean), { frames := 2, cells := 0, slots := 0, locals := 44 })
theorem wbX10_joins : CWb MX10_joins 1 := ⟨in_TB 128 (by decide +kernel) (by decide +kernel), in_TB 1661 (by decide +kernel) (by decide +kernel), ⟨by decide +kernel, by decide +kernel⟩, by decide +kernel⟩
def MX10_savings : MI := (yX10_savings, cX10_savings, 8, (some .int), { frames := 4, cells := 0, slots := 0, locals := 88 })
theorem wbX10_savings : CWb MX10_savings 2 := ⟨in_TB 128 (by decide +kernel) (by decide +kernel), in_TB 1657 (by decide +kernel) (by decide +kernel), ⟨by decide +kernel, by decide +kernel⟩, by decide +kernel⟩
def MX10_orders : MI := (yX10_orders, cX10_orders, 3, (some .int), { frames := 0, cells := 0, slots := 0, locals := 0 })
theorem wbX10_orders : CWb MX10_orders 1 := ⟨in_TB 128 (by decide +kernel) (by decide +kernel), in_TB 1668 (by decide +kernel) (by decide +kernel), ⟨by decide +kernel, by decide +kernel⟩, by decide +kernel⟩
def MX10_share : MI := (yX10_share, cX10_share, 9, (some .int), { frames := 4, cells := 0, slots := 0, locals := 94 })
theorem wbX10_share : CWb MX10_share 3 := ⟨in_TB 128 (by decide +kernel) (by decide +kernel), in_TB 1665 (by decide +kernel) (by decide +kernel), ⟨by decide +kernel, by decide +kernel⟩, by decide +kernel⟩
def MX10_peak : MI := (yX10_peak, cX10_peak, 6, (some .int), { frames := 4, cells := 0, slots := 0, locals := 88 })
theorem wbX10_peak : CWb MX10_peak 1 := ⟨in_TB 128 (by decide +kernel) (by decide +kernel), in_TB 1675 (by decide +kernel) (by decide +kernel), ⟨by decide +kernel, by decide +kernel⟩, by decide +kernel⟩
def MX10_allRounds : MI := (yX10_allRounds, cX10_allRounds, 5, (some .int), { frames := 5, cells := 0, slots := 0, locals := 116 })
theorem wbX10_allRounds : CWb MX10_allRounds 1 := ⟨in_TB 128 (by decide +kernel) (by decide +kernel), in_TB 1687 (by decide +kernel) (by decide +kernel), ⟨by decide +kernel, by decide +kernel⟩, by decide +kernel⟩
def MX10_stocks : MI := (yX10_stocks, cX10_stocks, 4, (some .int), { frames := 1, cells := 0, slots := 0, locals := 20 })
theorem wbX10_stocks : CWb MX10_stocks 1 := ⟨in_TB 128 (by decide +kernel) (by decide +kernel), in_TB 1699 (by decide +kernel) (by decide +kernel), ⟨by decide +kernel, by decide +kernel⟩, by decide +kernel⟩
def MX10_allStocks : MI := (yX10_allStocks, cX10_allStocks, 3, (some .int), { frames := 2, cells := 0, slots := 0, locals := 43 })
theorem wbX10_allStocks : CWb MX10_allStocks 0 := ⟨in_TB 128 (by decide +kernel) (by decide +kernel), in_TB 1695 (by decide +kernel) (by decide +kernel), ⟨by decide +kernel, by decide +kernel⟩, by decide +kernel⟩
def MX10_allLost : MI := (yX10_allLost, cX10_allLost, 3, (some .int), { frames := 2, cells := 0, slots := 0, locals := 43 })
theorem wbX10_allLost : CWb MX10_allLost 0 := ⟨in_TB 128 (by decide +kernel) (by decide +kernel), in_TB 1703 (by decide +kernel) (by decide +kernel), ⟨by decide +kernel, by decide +kernel⟩, by decide +kernel⟩
def MX10_costNow : MI := (yX10_costNow, cX10_costNow, 1, (some .int), { frames := 6, cells := 0, slots := 0, locals := 140 })
theorem wbX10_costNow : CWb MX10_costNow 0 := ⟨in_TB 128 (by decide +kernel) (by decide +kernel), in_TB 1683 (by decide +kernel) (by decide +kernel), ⟨by decide +kernel, by decide +kernel⟩, by decide +kernel⟩
def MX10_cost : MI := (yX10_cost, cX10_cost, 3, (some .int), { frames := 7, cells := 0, slots := 0, locals := 160 })
theorem wbX10_cost : CWb MX10_cost 1 := ⟨in_TB 128 (by decide +kernel) (by decide +kernel), in_TB 1679 (by decide +kernel) (by decide +kernel), ⟨by decide +kernel, by decide +kernel⟩, by decide +kernel⟩
def MX10_costOf : MI := (yX10_costOf, cX10_costOf, 2, (some .int), { frames := 5, cells := 0, slots := 0, locals := 116 })
theorem wbX10_costOf : CWb MX10_costOf 1 := ⟨in_TB 128 (by decide +kernel) (by decide +kernel), in_TB 1707 (by decide +kernel) (by decide +kernel), ⟨by decide +kernel, by decide +kernel⟩, by decide +kernel⟩
def MX10_worth : MI := (yX10_worth, cX10_worth, 5, (some .int), { frames := 7, cells := 0, slots := 0, locals := 160 })
theorem wbX10_worth : CWb MX10_worth 2 := ⟨in_TB 128 (by decide +kernel) (by decide +kernel), in_TB 1711 (by decide +kernel) (by decide +kernel), ⟨by decide +kernel, by decide +kernel⟩, by decide +kernel⟩
def MX10_truck : MI := (yX10_truck, cX10_truck, 4, (some .int), { frames := 6, cells := 0, slots := 0, locals := 140 })
theorem wbX10_truck : CWb MX10_truck 1 := ⟨in_TB 128 (by decide +kernel) (by decide +kernel), in_TB 1715 (by decide +kernel) (by decide +kernel), ⟨by decide +kernel, by decide +kernel⟩, by decide +kernel⟩
def MX10_reach : MI := (yX10_reach, cX10_reach, 2, (some .int), { frames := 3, cells := 0, slots := 0, locals := 68 })
theorem wbX10_reach : CWb MX10_reach 0 := ⟨in_TB 128 (by decide +kernel) (by decide +kernel), in_TB 1719 (by decide +kernel) (by decide +kernel), ⟨by decide +kernel, by decide +kernel⟩, by decide +kernel⟩
def MX10_scaled : MI := (yX10_scaled, cX10_scaled, 2, (some .int), { frames := 7, cells := 0, slots := 0, locals := 160 })
theorem wbX10_scaled : CWb MX10_scaled 1 := ⟨in_TB 128 (by decide +kernel) (by decide +kernel), in_TB 1723 (by decide +kernel) (by decide +kernel), ⟨by decide +kernel, by decide +kernel⟩, by decide +kernel⟩
def MX10_soloCost : MI := (yX10_soloCost, cX10_soloCost, 5, (some .int), { frames := 2, cells := 0, slots := 0, locals := 47 })
theorem wbX10_soloCost : CWb MX10_soloCost 2 := ⟨in_TB 128 (by decide +kernel) (by decide +kernel), in_TB 1731 (by decide +kernel) (by decide +kernel), ⟨by decide +kernel, by decide +kernel⟩, by decide +kernel⟩
def MX10_alone : MI := (yX10_alone, cX10_alone, 7, (some .int), { frames := 3, cells := 0, slots := 0, locals := 71 })
theorem wbX10_alone : CWb MX10_alone 2 := ⟨in_TB 128 (by decide +kernel) (by decide +kernel), in_TB 1727 (by decide +kernel) (by decide +kernel), ⟨by decide +kernel, by decide +kernel⟩, by decide +kernel⟩
def MX10_everySet : MI := (yX10_everySet, cX10_everySet, 5, (some .int), { frames := 1, cells := 0, slots := 0, locals := 20 })
theorem wbX10_everySet : CWb MX10_everySet 2 := ⟨in_TB 128 (by decide +kernel) (by decide +kernel), in_TB 1739 (by decide +kernel) (by decide +kernel), ⟨by decide +kernel, by decide +kernel⟩, by decide +kernel⟩
def MX10_every : MI := (yX10_every, cX10_every, 9, (some .int), { frames := 3, cells := 0, slots := 0, locals := 71 })
theorem wbX10_every : CWb MX10_every 2 := ⟨in_TB 128 (by decide +kernel) (by decide +kernel), in_TB 1735 (by decide +kernel) (by decide +kernel), ⟨by decide +kernel, by decide +kernel⟩, by decide +kernel⟩
def MX10_layBetween : MI := (yX10_layBetween, cX10_layBetween, 6, none, { frames := 5, cells := 0, slots := 0, locals := 116 })
theorem wbX10_layBetween : CWb MX10_layBetween 0 := ⟨in_TB 128 (by decide +kernel) (by decide +kernel), in_TB 1747 (by decide +kernel) (by decide +kernel), ⟨by decide +kernel, by decide +kernel⟩, by decide +kernel⟩
def MX10_costBy : MI := (yX10_costBy, cX10_costBy, 5, (some .int), { frames := 1, cells := 0, slots := 0, locals := 21 })
theorem wbX10_costBy : CWb MX10_costBy 1 := ⟨in_TB 128 (by decide +kernel) (by decide +kernel), in_TB 1751 (by decide +kernel) (by decide +kernel), ⟨by decide +kernel, by decide +kernel⟩, by decide +kernel⟩
def MX10_joint : MI := (yX10_joint, cX10_joint, 6, (some .int), { frames := 6, cells := 0, slots := 0, locals := 141 })
theorem wbX10_joint : CWb MX10_joint 1 := ⟨in_TB 128 (by decide +kernel) (by decide +kernel), in_TB 1743 (by decide +kernel) (by decide +kernel), ⟨by decide +kernel, by decide +kernel⟩, by decide +kernel⟩
def MX10_keep : MI := (yX10_keep, cX10_keep, 2, none, { frames := 1, cells := 0, slots := 0, locals := 21 })
theorem wbX10_keep : CWb MX10_keep 0 := ⟨in_TB 128 (by decide +kernel) (by decide +kernel), in_TB 1767 (by decide +kernel) (by decide +kernel), ⟨by decide +kernel, by decide +kernel⟩, by decide +kernel⟩
def MX10_puts : MI := (yX10_puts, cX10_puts, 2, none, { frames := 0, cells := 0, slots := 0, locals := 0 })
theorem wbX10_puts : CWb MX10_puts 0 := ⟨in_TB 128 (by decide +kernel) (by decide +kernel), in_TB 1759 (by decide +kernel) (by decide +kernel), ⟨by decide +kernel, by decide +kernel⟩, by decide +kernel⟩
def MX10_undo : MI := (yX10_undo, cX10_undo, 1, (some .boolean), { frames := 1, cells := 0, slots := 0, locals := 21 })
theorem wbX10_undo : CWb MX10_undo 0 := ⟨in_TB 128 (by decide +kernel) (by decide +kernel), in_TB 1755 (by decide +kernel) (by decide +kernel), ⟨by decide +kernel, by decide +kernel⟩, by decide +kernel⟩
def MX10_allVisits : MI := (yX10_allVisits, cX10_allVisits, 3, (some .int), { frames := 1, cells := 0, slots := 0, locals := 22 })
theorem wbX10_allVisits : CWb MX10_allVisits 0 := ⟨in_TB 128 (by decide +kernel) (by decide +kernel), in_TB 1783 (by decide +kernel) (by decide +kernel), ⟨by decide +kernel, by decide +kernel⟩, by decide +kernel⟩
def MX10_visit : MI := (yX10_visit, cX10_visit, 3, (some .int), { frames := 3, cells := 0, slots := 0, locals := 65 })
theorem wbX10_visit : CWb MX10_visit 2 := ⟨in_TB 128 (by decide +kernel) (by decide +kernel), in_TB 1763 (by decide +kernel) (by decide +kernel), ⟨by decide +kernel, by decide +kernel⟩, by decide +kernel⟩
def MX10_morning : MI := (yX10_morning, cX10_morning, 3, (some .int), { frames := 0, cells := 0, slots := 0, locals := 0 })
theorem wbX10_morning : CWb MX10_morning 2 := ⟨in_TB 128 (by decide +kernel) (by decide +kernel), in_TB 1775 (by decide +kernel) (by decide +kernel), ⟨by decide +kernel, by decide +kernel⟩, by decide +kernel⟩
def MX10_askedFor : MI := (yX10_askedFor, cX10_askedFor, 6, (some .int), { frames := 1, cells := 0, slots := 0, locals := 20 })
theorem wbX10_askedFor : CWb MX10_askedFor 3 := ⟨in_TB 128 (by decide +kernel) (by decide +kernel), in_TB 1779 (by decide +kernel) (by decide +kernel), ⟨by decide +kernel, by decide +kernel⟩, by decide +kernel⟩
def MX10_rule : MI := (yX10_rule, cX10_rule, 5, (some .int), { frames := 3, cells := 0, slots := 0, locals := 68 })
theorem wbX10_rule : CWb MX10_rule 1 := ⟨in_TB 128 (by decide +kernel) (by decide +kernel), in_TB 1771 (by decide +kernel) (by decide +kernel), ⟨by decide +kernel, by decide +kernel⟩, by decide +kernel⟩
def MX10_helps : MI := (yX10_helps, cX10_helps, 4, (some .boolean), { frames := 7, cells := 0, slots := 0, locals := 160 })
theorem wbX10_helps : CWb MX10_helps 3 := ⟨in_TB 128 (by decide +kernel) (by decide +kernel), in_TB 1799 (by decide +kernel) (by decide +kernel), ⟨by decide +kernel, by decide +kernel⟩, by decide +kernel⟩
def MX10_moves : MI := (yX10_moves, cX10_moves, 5, (some .boolean), { frames := 8, cells := 0, slots := 0, locals := 183 })
theorem wbX10_moves : CWb MX10_moves 1 := ⟨in_TB 128 (by decide +kernel) (by decide +kernel), in_TB 1795 (by decide +kernel) (by decide +kernel), ⟨by decide +kernel, by decide +kernel⟩, by decide +kernel⟩
def MX10_tunes : MI := (yX10_tunes, cX10_tunes, 4, (some .boolean), { frames := 8, cells := 0, slots := 0, locals := 183 })
theorem wbX10_tunes : CWb MX10_tunes 1 := ⟨in_TB 128 (by decide +kernel) (by decide +kernel), in_TB 1803 (by decide +kernel) (by decide +kernel), ⟨by decide +kernel, by decide +kernel⟩, by decide +kernel⟩
def MX10_betters : MI := (yX10_betters, cX10_betters, 6, (some .int), { frames := 9, cells := 0, slots := 0, locals := 207 })
theorem wbX10_betters : CWb MX10_betters 2 := ⟨in_TB 128 (by decide +kernel) (by decide +kernel), in_TB 1807 (by decide +kernel) (by decide +kernel), ⟨by decide +kernel, by decide +kernel⟩, by decide +kernel⟩
def MX10_wouldChange : MI := (yX10_wouldChange, cX10_wouldChange, 5, (some .boolean), { frames := 9, cells := 0, slots := 0, locals := 207 })
theorem wbX10_wouldChange : CWb MX10_wouldChange 1 := ⟨in_TB 128 (by decide +kernel) (by decide +kernel), in_TB 1791 (by decide +kernel) (by decide +kernel), ⟨by decide +kernel, by decide +kernel⟩, by decide +kernel⟩
def MX10_better : MI := (yX10_better, cX10_better, 2, (some .int), { frames := 10, cells := 0, slots := 0, locals := 232 })
theorem wbX10_better : CWb MX10_better 1 := ⟨in_TB 128 (by decide +kernel) (by decide +kernel), in_TB 1787 (by decide +kernel) (by decide +kernel), ⟨by decide +kernel, by decide +kernel⟩, by decide +kernel⟩
def MX10_tune : MI := (yX10_tune, cX10_tune, 2, (some .int), { frames := 10, cells := 0, slots := 0, locals := 232 })
theorem wbX10_tune : CWb MX10_tune 1 := ⟨in_TB 128 (by decide +kernel) (by decide +kernel), in_TB 1811 (by decide +kernel) (by decide +kernel), ⟨by decide +kernel, by decide +kernel⟩, by decide +kernel⟩
def MX10_plan : MI := (yX10_plan, cX10_plan, 3, none, { frames := 1, cells := 0, slots := 0, locals := 20 })
theorem wbX10_plan : CWb MX10_plan 1 := ⟨in_TB 128 (by decide +kernel) (by decide +kernel), in_TB 1819 (by decide +kernel) (by decide +kernel), ⟨by decide +kernel, by decide +kernel⟩, by decide +kernel⟩
def MX10_least : MI := (yX10_least, cX10_least, 5, (some .int), { frames := 7, cells := 0, slots := 0, locals := 160 })
theorem wbX10_least : CWb MX10_least 0 := ⟨in_TB 128 (by decide +kernel) (by decide +kernel), in_TB 1815 (by decide +kernel) (by decide +kernel), ⟨by decide +kernel, by decide +kernel⟩, by decide +kernel⟩
def MX10_clear : MI := (yX10_clear, cX10_clear, 3, (some .int), { frames := 2, cells := 0, slots := 0, locals := 44 })
theorem wbX10_clear : CWb MX10_clear 0 := ⟨in_TB 128 (by decide +kernel) (by decide +kernel), in_TB 1823 (by decide +kernel) (by decide +kernel), ⟨by decide +kernel, by decide +kernel⟩, by decide +kernel⟩
def MX10_rush : MI := (yX10_rush, cX10_rush, 5, (some .int), { frames := 3, cells := 0, slots := 0, locals := 65 })
theorem wbX10_rush : CWb MX10_rush 3 := ⟨in_TB 128 (by decide +kernel) (by decide +kernel), in_TB 1827 (by decide +kernel) (by decide +kernel), ⟨by decide +kernel, by decide +kernel⟩, by decide +kernel⟩
theorem wX0_19 : CWA RX0 19 := ⟨in_TB 1150 (by decide +kernel) (by decide +kernel), in_TB 768 (by decide +kernel) (by decide +kernel), in_TB 767 (by decide +kernel) (by decide +kernel), in_TB 129 (by decide +kernel) (by decide +kernel)⟩
theorem wX1_41 : CWS RX1 41 MJ7_fill_53178 2 := ⟨wbJ7_fill_53178, in_TB 1079 (by decide +kernel) (by decide +kernel), in_TB 150 (by decide +kernel) (by decide +kernel)⟩
theorem wX1_47 : CWV RX1 47 MX1_goOn 3 := ⟨wbX1_goOn, in_TB 1080 (by decide +kernel) (by decide +kernel), in_TB 1082 (by decide +kernel) (by decide +kernel), in_TB 36 (by decide +kernel) (by decide +kernel)⟩
theorem wX1_60 : CWM RX1 60 Lib.Math.max.name Lib.Math.max.code 2 := ⟨in_TB 1084 (by decide +kernel) (by decide +kernel), in_TB 853 (by decide +kernel) (by decide +kernel), in_TB 127 (by decide +kernel) (by decide +kernel), in_TB 854 (by decide +kernel) (by decide +kernel)⟩
theorem wX1_66 : CWV RX1 66 MX1_visitPrice 1 := ⟨wbX1_visitPrice, in_TB 1085 (by decide +kernel) (by decide +kernel), in_TB 1087 (by decide +kernel) (by decide +kernel), in_TB 37 (by decide +kernel) (by decide +kernel)⟩
theorem wX1_70 : CWV RX1 70 MX1_offer 4 := ⟨wbX1_offer, in_TB 1090 (by decide +kernel) (by decide +kernel), in_TB 1092 (by decide +kernel) (by decide +kernel), in_TB 38 (by decide +kernel) (by decide +kernel)⟩
theorem wX1_74 : CWV RX1 74 MX1_sellDay 2 := ⟨wbX1_sellDay, in_TB 1095 (by decide +kernel) (by decide +kernel), in_TB 1097 (by decide +kernel) (by decide +kernel), in_TB 39 (by decide +kernel) (by decide +kernel)⟩
theorem wX1_83 : CWV RX1 83 MX1_stockOf 1 := ⟨wbX1_stockOf, in_TB 1101 (by decide +kernel) (by decide +kernel), in_TB 1103 (by decide +kernel) (by decide +kernel), in_TB 40 (by decide +kernel) (by decide +kernel)⟩
theorem wX1_86 : CWS RX1 86 MJ6_bitCount_0f7a4 1 := ⟨wbJ6_bitCount_0f7a4, in_TB 1094 (by decide +kernel) (by decide +kernel), in_TB 957 (by decide +kernel) (by decide +kernel)⟩
theorem wX1_94 : CWV RX1 94 MX2_priceOf 2 := ⟨wbX2_priceOf, in_TB 1089 (by decide +kernel) (by decide +kernel), in_TB 1001 (by decide +kernel) (by decide +kernel), in_TB 1002 (by decide +kernel) (by decide +kernel)⟩
theorem wX1_103 : CWN RX1 103 MX9_cellOf 2 "ShelfDrives" := ⟨wbX9_cellOf, (by decide +kernel), in_TB 597 (by decide +kernel) (by decide +kernel)⟩
theorem wX1_106 : CWM RX1 106 Lib.Math.min.name Lib.Math.min.code 2 := ⟨in_TB 1100 (by decide +kernel) (by decide +kernel), in_TB 569 (by decide +kernel) (by decide +kernel), in_TB 127 (by decide +kernel) (by decide +kernel), in_TB 570 (by decide +kernel) (by decide +kernel)⟩
theorem wX2_43 : CWV RX2 43 MX8_milesTo 1 := ⟨wbX8_milesTo, in_TB 575 (by decide +kernel) (by decide +kernel), in_TB 576 (by decide +kernel) (by decide +kernel), in_TB 577 (by decide +kernel) (by decide +kernel)⟩
theorem wX2_49 : CWV RX2 49 MX2_gather 1 := ⟨wbX2_gather, in_TB 871 (by decide +kernel) (by decide +kernel), in_TB 873 (by decide +kernel) (by decide +kernel), in_TB 27 (by decide +kernel) (by decide +kernel)⟩
theorem wX2_56 : CWV RX2 56 MX2_partSet 2 := ⟨wbX2_partSet, in_TB 875 (by decide +kernel) (by decide +kernel), in_TB 877 (by decide +kernel) (by decide +kernel), in_TB 28 (by decide +kernel) (by decide +kernel)⟩
theorem wX2_61 : CWS RX2 61 MJ6_bitCount_0f7a4 1 := ⟨wbJ6_bitCount_0f7a4, in_TB 956 (by decide +kernel) (by decide +kernel), in_TB 957 (by decide +kernel) (by decide +kernel)⟩
theorem wX2_66 : CWS RX2 66 MX2_factorial 1 := ⟨wbX2_factorial, in_TB 962 (by decide +kernel) (by decide +kernel), in_TB 963 (by decide +kernel) (by decide +kernel)⟩
theorem wX3_15 : CWV RX3 15 MX5_dropVisits 0 := ⟨wbX5_dropVisits, in_TB 1159 (by decide +kernel) (by decide +kernel), in_TB 1160 (by decide +kernel) (by decide +kernel), in_TB 1161 (by decide +kernel) (by decide +kernel)⟩
theorem wX3_26 : CWV RX3 26 MX3_isOneShort 2 := ⟨wbX3_isOneShort, in_TB 1164 (by decide +kernel) (by decide +kernel), in_TB 1166 (by decide +kernel) (by decide +kernel), in_TB 43 (by decide +kernel) (by decide +kernel)⟩
theorem wX3_30 : CWV RX3 30 MX3_visitShort 3 := ⟨wbX3_visitShort, in_TB 1170 (by decide +kernel) (by decide +kernel), in_TB 1172 (by decide +kernel) (by decide +kernel), in_TB 44 (by decide +kernel) (by decide +kernel)⟩
theorem wX3_37 : CWV RX3 37 MX5_morning 2 := ⟨wbX5_morning, in_TB 1168 (by decide +kernel) (by decide +kernel), in_TB 593 (by decide +kernel) (by decide +kernel), in_TB 594 (by decide +kernel) (by decide +kernel)⟩
theorem wX3_45 : CWN RX3 45 MX9_cellOf 2 "ShelfDrives" := ⟨wbX9_cellOf, (by decide +kernel), in_TB 597 (by decide +kernel) (by decide +kernel)⟩
theorem wX3_48 : CWM RX3 48 Lib.Math.min.name Lib.Math.min.code 2 := ⟨in_TB 1174 (by decide +kernel) (by decide +kernel), in_TB 569 (by decide +kernel) (by decide +kernel), in_TB 127 (by decide +kernel) (by decide +kernel), in_TB 570 (by decide +kernel) (by decide +kernel)⟩
theorem wX3_56 : CWV RX3 56 MX5_setVisits 2 := ⟨wbX5_setVisits, in_TB 1127 (by decide +kernel) (by decide +kernel), in_TB 1034 (by decide +kernel) (by decide +kernel), in_TB 1035 (by decide +kernel) (by decide +kernel)⟩
theorem wX3_60 : CWV RX3 60 MX5_wholeCost 0 := ⟨wbX5_wholeCost, in_TB 1187 (by decide +kernel) (by decide +kernel), in_TB 992 (by decide +kernel) (by decide +kernel), in_TB 993 (by decide +kernel) (by decide +kernel)⟩
theorem wX3_64 : CWV RX3 64 MX5_isVisited 2 := ⟨wbX5_isVisited, in_TB 1188 (by decide +kernel) (by decide +kernel), in_TB 600 (by decide +kernel) (by decide +kernel), in_TB 601 (by decide +kernel) (by decide +kernel)⟩
theorem wX3_68 : CWV RX3 68 MX7_hasDay 1 := ⟨wbX7_hasDay, in_TB 1189 (by decide +kernel) (by decide +kernel), in_TB 786 (by decide +kernel) (by decide +kernel), in_TB 787 (by decide +kernel) (by decide +kernel)⟩
theorem wX3_72 : CWV RX3 72 MX3_turnIfLess 4 := ⟨wbX3_turnIfLess, in_TB 1190 (by decide +kernel) (by decide +kernel), in_TB 1192 (by decide +kernel) (by decide +kernel), in_TB 45 (by decide +kernel) (by decide +kernel)⟩
theorem wX3_77 : CWV RX3 77 MX3_setPlan 2 := ⟨wbX3_setPlan, in_TB 1214 (by decide +kernel) (by decide +kernel), in_TB 1216 (by decide +kernel) (by decide +kernel), in_TB 47 (by decide +kernel) (by decide +kernel)⟩
theorem wX3_81 : CWS RX3 81 MX3_isFewer 2 := ⟨wbX3_isFewer, in_TB 1218 (by decide +kernel) (by decide +kernel), in_TB 1219 (by decide +kernel) (by decide +kernel)⟩
theorem wX3_84 : CWS RX3 84 MX3_planBehind 2 := ⟨wbX3_planBehind, in_TB 1222 (by decide +kernel) (by decide +kernel), in_TB 1223 (by decide +kernel) (by decide +kernel)⟩
theorem wX3_87 : CWS RX3 87 MJ6_bitCount_0f7a4 1 := ⟨wbJ6_bitCount_0f7a4, in_TB 1221 (by decide +kernel) (by decide +kernel), in_TB 957 (by decide +kernel) (by decide +kernel)⟩
theorem wX3_96 : CWV RX3 96 MX3_daysBy 2 := ⟨wbX3_daysBy, in_TB 1122 (by decide +kernel) (by decide +kernel), in_TB 1124 (by decide +kernel) (by decide +kernel), in_TB 41 (by decide +kernel) (by decide +kernel)⟩
theorem wX3_99 : CWV RX3 99 MX5_costAlone 1 := ⟨wbX5_costAlone, in_TB 1128 (by decide +kernel) (by decide +kernel), in_TB 1129 (by decide +kernel) (by decide +kernel), in_TB 1130 (by decide +kernel) (by decide +kernel)⟩
theorem wX3_108 : CWM RX3 108 Lib.Math.max.name Lib.Math.max.code 2 := ⟨in_TB 1126 (by decide +kernel) (by decide +kernel), in_TB 853 (by decide +kernel) (by decide +kernel), in_TB 127 (by decide +kernel) (by decide +kernel), in_TB 854 (by decide +kernel) (by decide +kernel)⟩
theorem wX4_56 : CWS RX4 56 MX4_withLetter 2 := ⟨wbX4_withLetter, in_TB 308 (by decide +kernel) (by decide +kernel), in_TB 309 (by decide +kernel) (by decide +kernel)⟩
theorem wX4_60 : CWV RX4 60 MX4_scanAll 2 := ⟨wbX4_scanAll, in_TB 668 (by decide +kernel) (by decide +kernel), in_TB 670 (by decide +kernel) (by decide +kernel), in_TB 5 (by decide +kernel) (by decide +kernel)⟩
theorem wX4_64 : CWV RX4 64 MX7_forget 0 := ⟨wbX7_forget, in_TB 690 (by decide +kernel) (by decide +kernel), in_TB 146 (by decide +kernel) (by decide +kernel), in_TB 147 (by decide +kernel) (by decide +kernel)⟩
theorem wX4_73 : CWV RX4 73 MX4_step 0 := ⟨wbX4_step, in_TB 691 (by decide +kernel) (by decide +kernel), in_TB 693 (by decide +kernel) (by decide +kernel), in_TB 9 (by decide +kernel) (by decide +kernel)⟩
theorem wX4_79 : CWV RX4 79 MX4_readLine 0 := ⟨wbX4_readLine, in_TB 696 (by decide +kernel) (by decide +kernel), in_TB 698 (by decide +kernel) (by decide +kernel), in_TB 10 (by decide +kernel) (by decide +kernel)⟩
theorem wX4_83 : CWV RX4 83 MX4_refuse 1 := ⟨wbX4_refuse, in_TB 704 (by decide +kernel) (by decide +kernel), in_TB 706 (by decide +kernel) (by decide +kernel), in_TB 12 (by decide +kernel) (by decide +kernel)⟩
theorem wX4_90 : CWS RX4 90 MX4_isLetter 1 := ⟨wbX4_isLetter, in_TB 672 (by decide +kernel) (by decide +kernel), in_TB 673 (by decide +kernel) (by decide +kernel)⟩
theorem wX4_93 : CWV RX4 93 MX4_scanWord 3 := ⟨wbX4_scanWord, in_TB 675 (by decide +kernel) (by decide +kernel), in_TB 677 (by decide +kernel) (by decide +kernel), in_TB 6 (by decide +kernel) (by decide +kernel)⟩
theorem wX4_97 : CWS RX4 97 MX4_isDigit 1 := ⟨wbX4_isDigit, in_TB 683 (by decide +kernel) (by decide +kernel), in_TB 684 (by decide +kernel) (by decide +kernel)⟩
theorem wX4_100 : CWV RX4 100 MX4_scanNumber 3 := ⟨wbX4_scanNumber, in_TB 686 (by decide +kernel) (by decide +kernel), in_TB 688 (by decide +kernel) (by decide +kernel), in_TB 8 (by decide +kernel) (by decide +kernel)⟩
theorem wX4_103 : CWV RX4 103 MX4_kindOfWord 1 := ⟨wbX4_kindOfWord, in_TB 679 (by decide +kernel) (by decide +kernel), in_TB 681 (by decide +kernel) (by decide +kernel), in_TB 7 (by decide +kernel) (by decide +kernel)⟩
theorem wX4_107 : CWM RX4 107 Lib.Math.min.name Lib.Math.min.code 2 := ⟨in_TB 695 (by decide +kernel) (by decide +kernel), in_TB 569 (by decide +kernel) (by decide +kernel), in_TB 127 (by decide +kernel) (by decide +kernel), in_TB 570 (by decide +kernel) (by decide +kernel)⟩
theorem wX4_118 : CWV RX4 118 MX4_isNumber 2 := ⟨wbX4_isNumber, in_TB 716 (by decide +kernel) (by decide +kernel), in_TB 718 (by decide +kernel) (by decide +kernel), in_TB 15 (by decide +kernel) (by decide +kernel)⟩
theorem wX4_122 : CWV RX4 122 MX4_isOnce 0 := ⟨wbX4_isOnce, in_TB 700 (by decide +kernel) (by decide +kernel), in_TB 702 (by decide +kernel) (by decide +kernel), in_TB 11 (by decide +kernel) (by decide +kernel)⟩
theorem wX4_125 : CWV RX4 125 MX4_readDays 0 := ⟨wbX4_readDays, in_TB 708 (by decide +kernel) (by decide +kernel), in_TB 710 (by decide +kernel) (by decide +kernel), in_TB 13 (by decide +kernel) (by decide +kernel)⟩
theorem wX4_128 : CWV RX4 128 MX4_readDepot 0 := ⟨wbX4_readDepot, in_TB 724 (by decide +kernel) (by decide +kernel), in_TB 726 (by decide +kernel) (by decide +kernel), in_TB 17 (by decide +kernel) (by decide +kernel)⟩
theorem wX4_131 : CWV RX4 131 MX4_readTruck 0 := ⟨wbX4_readTruck, in_TB 728 (by decide +kernel) (by decide +kernel), in_TB 730 (by decide +kernel) (by decide +kernel), in_TB 18 (by decide +kernel) (by decide +kernel)⟩
theorem wX4_134 : CWV RX4 134 MX4_readHold 0 := ⟨wbX4_readHold, in_TB 732 (by decide +kernel) (by decide +kernel), in_TB 734 (by decide +kernel) (by decide +kernel), in_TB 19 (by decide +kernel) (by decide +kernel)⟩
theorem wX4_137 : CWV RX4 137 MX4_readLost 0 := ⟨wbX4_readLost, in_TB 736 (by decide +kernel) (by decide +kernel), in_TB 738 (by decide +kernel) (by decide +kernel), in_TB 20 (by decide +kernel) (by decide +kernel)⟩
theorem wX4_140 : CWV RX4 140 MX4_readShop 0 := ⟨wbX4_readShop, in_TB 740 (by decide +kernel) (by decide +kernel), in_TB 742 (by decide +kernel) (by decide +kernel), in_TB 21 (by decide +kernel) (by decide +kernel)⟩
theorem wX4_143 : CWV RX4 143 MX4_readRush 0 := ⟨wbX4_readRush, in_TB 753 (by decide +kernel) (by decide +kernel), in_TB 755 (by decide +kernel) (by decide +kernel), in_TB 24 (by decide +kernel) (by decide +kernel)⟩
theorem wX4_149 : CWV RX4 149 MX4_wantNumber 2 := ⟨wbX4_wantNumber, in_TB 712 (by decide +kernel) (by decide +kernel), in_TB 714 (by decide +kernel) (by decide +kernel), in_TB 14 (by decide +kernel) (by decide +kernel)⟩
theorem wX4_155 : CWV RX4 155 MX4_want 1 := ⟨wbX4_want, in_TB 720 (by decide +kernel) (by decide +kernel), in_TB 722 (by decide +kernel) (by decide +kernel), in_TB 16 (by decide +kernel) (by decide +kernel)⟩
theorem wX4_179 : CWV RX4 179 MX4_shopNamed 1 := ⟨wbX4_shopNamed, in_TB 744 (by decide +kernel) (by decide +kernel), in_TB 746 (by decide +kernel) (by decide +kernel), in_TB 22 (by decide +kernel) (by decide +kernel)⟩
theorem wX4_188 : CWV RX4 188 MX4_readSold 1 := ⟨wbX4_readSold, in_TB 748 (by decide +kernel) (by decide +kernel), in_TB 750 (by decide +kernel) (by decide +kernel), in_TB 23 (by decide +kernel) (by decide +kernel)⟩
theorem wX4_194 : CWN RX4 194 MX9_cellOf 2 "ShelfDrives" := ⟨wbX9_cellOf, (by decide +kernel), in_TB 597 (by decide +kernel) (by decide +kernel)⟩
theorem wX4_200 : CWV RX4 200 MX7_addRush 3 := ⟨wbX7_addRush, in_TB 757 (by decide +kernel) (by decide +kernel), in_TB 758 (by decide +kernel) (by decide +kernel), in_TB 759 (by decide +kernel) (by decide +kernel)⟩
theorem wX5_41 : CWS RX5 41 MJ7_fill_53178 2 := ⟨wbJ7_fill_53178, in_TB 583 (by decide +kernel) (by decide +kernel), in_TB 150 (by decide +kernel) (by decide +kernel)⟩
theorem wX5_54 : CWA RX5 54 := ⟨in_TB 1032 (by decide +kernel) (by decide +kernel), in_TB 768 (by decide +kernel) (by decide +kernel), in_TB 767 (by decide +kernel) (by decide +kernel), in_TB 129 (by decide +kernel) (by decide +kernel)⟩
theorem wX5_66 : CWV RX5 66 MX5_runFrom 3 := ⟨wbX5_runFrom, in_TB 588 (by decide +kernel) (by decide +kernel), in_TB 590 (by decide +kernel) (by decide +kernel), in_TB 3 (by decide +kernel) (by decide +kernel)⟩
theorem wX5_70 : CWS RX5 70 MJ6_bitCount_0f7a4 1 := ⟨wbJ6_bitCount_0f7a4, in_TB 1037 (by decide +kernel) (by decide +kernel), in_TB 957 (by decide +kernel) (by decide +kernel)⟩
theorem wX5_76 : CWV RX5 76 MX5_setVisits 2 := ⟨wbX5_setVisits, in_TB 1163 (by decide +kernel) (by decide +kernel), in_TB 1034 (by decide +kernel) (by decide +kernel), in_TB 1035 (by decide +kernel) (by decide +kernel)⟩
theorem wX5_80 : CWV RX5 80 MX5_morning 2 := ⟨wbX5_morning, in_TB 592 (by decide +kernel) (by decide +kernel), in_TB 593 (by decide +kernel) (by decide +kernel), in_TB 594 (by decide +kernel) (by decide +kernel)⟩
theorem wX5_87 : CWN RX5 87 MX9_cellOf 2 "ShelfDrives" := ⟨wbX9_cellOf, (by decide +kernel), in_TB 597 (by decide +kernel) (by decide +kernel)⟩
theorem wX5_90 : CWV RX5 90 MX5_isVisited 2 := ⟨wbX5_isVisited, in_TB 599 (by decide +kernel) (by decide +kernel), in_TB 600 (by decide +kernel) (by decide +kernel), in_TB 601 (by decide +kernel) (by decide +kernel)⟩
theorem wX5_97 : CWM RX5 97 Lib.Math.min.name Lib.Math.min.code 2 := ⟨in_TB 603 (by decide +kernel) (by decide +kernel), in_TB 569 (by decide +kernel) (by decide +kernel), in_TB 127 (by decide +kernel) (by decide +kernel), in_TB 570 (by decide +kernel) (by decide +kernel)⟩
theorem wX5_106 : CWM RX5 106 Lib.Math.max.name Lib.Math.max.code 2 := ⟨in_TB 852 (by decide +kernel) (by decide +kernel), in_TB 853 (by decide +kernel) (by decide +kernel), in_TB 127 (by decide +kernel) (by decide +kernel), in_TB 854 (by decide +kernel) (by decide +kernel)⟩
theorem wX5_109 : CWV RX5 109 MX5_loadsOn 1 := ⟨wbX5_loadsOn, in_TB 982 (by decide +kernel) (by decide +kernel), in_TB 983 (by decide +kernel) (by decide +kernel), in_TB 984 (by decide +kernel) (by decide +kernel)⟩
theorem wX5_112 : CWV RX5 112 MX5_pickLoads 2 := ⟨wbX5_pickLoads, in_TB 999 (by decide +kernel) (by decide +kernel), in_TB 864 (by decide +kernel) (by decide +kernel), in_TB 865 (by decide +kernel) (by decide +kernel)⟩
theorem wX5_119 : CWV RX5 119 MX2_priceOf 2 := ⟨wbX2_priceOf, in_TB 1000 (by decide +kernel) (by decide +kernel), in_TB 1001 (by decide +kernel) (by decide +kernel), in_TB 1002 (by decide +kernel) (by decide +kernel)⟩
theorem wX5_131 : CWV RX5 131 MX5_wholeCost 0 := ⟨wbX5_wholeCost, in_TB 1008 (by decide +kernel) (by decide +kernel), in_TB 992 (by decide +kernel) (by decide +kernel), in_TB 993 (by decide +kernel) (by decide +kernel)⟩
theorem wX5_135 : CWV RX5 135 MX5_stockCost 0 := ⟨wbX5_stockCost, in_TB 1009 (by decide +kernel) (by decide +kernel), in_TB 1010 (by decide +kernel) (by decide +kernel), in_TB 1011 (by decide +kernel) (by decide +kernel)⟩
theorem wX5_138 : CWV RX5 138 MX5_lostCost 0 := ⟨wbX5_lostCost, in_TB 1013 (by decide +kernel) (by decide +kernel), in_TB 1014 (by decide +kernel) (by decide +kernel), in_TB 1015 (by decide +kernel) (by decide +kernel)⟩
theorem wX5_141 : CWV RX5 141 MX5_priceOn 1 := ⟨wbX5_priceOn, in_TB 995 (by decide +kernel) (by decide +kernel), in_TB 996 (by decide +kernel) (by decide +kernel), in_TB 997 (by decide +kernel) (by decide +kernel)⟩
theorem wX5_144 : CWV RX5 144 MX2_roundPrice 1 := ⟨wbX2_roundPrice, in_TB 1132 (by decide +kernel) (by decide +kernel), in_TB 906 (by decide +kernel) (by decide +kernel), in_TB 907 (by decide +kernel) (by decide +kernel)⟩
theorem wX5_147 : CWV RX5 147 MX5_sumOf 2 := ⟨wbX5_sumOf, in_TB 1133 (by decide +kernel) (by decide +kernel), in_TB 812 (by decide +kernel) (by decide +kernel), in_TB 813 (by decide +kernel) (by decide +kernel)⟩
theorem wX6_35 : CWV RX6 35 MX6_mergeBest 0 := ⟨wbX6_mergeBest, in_TB 934 (by decide +kernel) (by decide +kernel), in_TB 936 (by decide +kernel) (by decide +kernel), in_TB 31 (by decide +kernel) (by decide +kernel)⟩
theorem wX6_39 : CWV RX6 39 MX2_roundPrice 1 := ⟨wbX2_roundPrice, in_TB 947 (by decide +kernel) (by decide +kernel), in_TB 906 (by decide +kernel) (by decide +kernel), in_TB 907 (by decide +kernel) (by decide +kernel)⟩
theorem wX6_45 : CWV RX6 45 MX2_gain 2 := ⟨wbX2_gain, in_TB 938 (by decide +kernel) (by decide +kernel), in_TB 923 (by decide +kernel) (by decide +kernel), in_TB 924 (by decide +kernel) (by decide +kernel)⟩
theorem wX6_52 : CWV RX6 52 MX6_removeRound 1 := ⟨wbX6_removeRound, in_TB 939 (by decide +kernel) (by decide +kernel), in_TB 941 (by decide +kernel) (by decide +kernel), in_TB 32 (by decide +kernel) (by decide +kernel)⟩
theorem wX7_33 : CWV RX7 33 MX7_forget 0 := ⟨wbX7_forget, in_TB 145 (by decide +kernel) (by decide +kernel), in_TB 146 (by decide +kernel) (by decide +kernel), in_TB 147 (by decide +kernel) (by decide +kernel)⟩
theorem wX7_61 : CWS RX7 61 MJ7_fill_53178 2 := ⟨wbJ7_fill_53178, in_TB 149 (by decide +kernel) (by decide +kernel), in_TB 150 (by decide +kernel) (by decide +kernel)⟩
theorem wX7_67 : CWA RX7 67 := ⟨in_TB 766 (by decide +kernel) (by decide +kernel), in_TB 768 (by decide +kernel) (by decide +kernel), in_TB 767 (by decide +kernel) (by decide +kernel), in_TB 129 (by decide +kernel) (by decide +kernel)⟩
theorem wX7_73 : CWN RX7 73 MX9_cellOf 2 "ShelfDrives" := ⟨wbX9_cellOf, (by decide +kernel), in_TB 597 (by decide +kernel) (by decide +kernel)⟩
theorem wX8_31 : CWM RX8 31 Lib.Math.abs.name Lib.Math.abs.code 1 := ⟨in_TB 552 (by decide +kernel) (by decide +kernel), in_TB 553 (by decide +kernel) (by decide +kernel), in_TB 127 (by decide +kernel) (by decide +kernel), in_TB 554 (by decide +kernel) (by decide +kernel)⟩
theorem wX8_40 : CWV RX8 40 MX8_leastRest 2 := ⟨wbX8_leastRest, in_TB 555 (by decide +kernel) (by decide +kernel), in_TB 557 (by decide +kernel) (by decide +kernel), in_TB 1 (by decide +kernel) (by decide +kernel)⟩
theorem wX8_44 : CWV RX8 44 MX8_nextStop 2 := ⟨wbX8_nextStop, in_TB 896 (by decide +kernel) (by decide +kernel), in_TB 898 (by decide +kernel) (by decide +kernel), in_TB 30 (by decide +kernel) (by decide +kernel)⟩
theorem wX8_47 : CWV RX8 47 MX8_milesBy 3 := ⟨wbX8_milesBy, in_TB 564 (by decide +kernel) (by decide +kernel), in_TB 566 (by decide +kernel) (by decide +kernel), in_TB 2 (by decide +kernel) (by decide +kernel)⟩
theorem wX8_51 : CWV RX8 51 MX8_between 2 := ⟨wbX8_between, in_TB 559 (by decide +kernel) (by decide +kernel), in_TB 560 (by decide +kernel) (by decide +kernel), in_TB 561 (by decide +kernel) (by decide +kernel)⟩
theorem wX8_55 : CWM RX8 55 Lib.Math.min.name Lib.Math.min.code 2 := ⟨in_TB 568 (by decide +kernel) (by decide +kernel), in_TB 569 (by decide +kernel) (by decide +kernel), in_TB 127 (by decide +kernel) (by decide +kernel), in_TB 570 (by decide +kernel) (by decide +kernel)⟩
theorem wX9_90 : CWV RX9 90 MX9_beginAnew 0 := ⟨wbX9_beginAnew, in_TB 544 (by decide +kernel) (by decide +kernel), in_TB 546 (by decide +kernel) (by decide +kernel), in_TB 0 (by decide +kernel) (by decide +kernel)⟩
theorem wX9_93 : CWV RX9 93 MX9_putNumber 1 := ⟨wbX9_putNumber, in_TB 652 (by decide +kernel) (by decide +kernel), in_TB 654 (by decide +kernel) (by decide +kernel), in_TB 4 (by decide +kernel) (by decide +kernel)⟩
theorem wX9_97 : CWV RX9 97 MX4_readAll 2 := ⟨wbX4_readAll, in_TB 664 (by decide +kernel) (by decide +kernel), in_TB 665 (by decide +kernel) (by decide +kernel), in_TB 666 (by decide +kernel) (by decide +kernel)⟩
theorem wX9_104 : CWV RX9 104 MX7_takeOver 1 := ⟨wbX7_takeOver, in_TB 762 (by decide +kernel) (by decide +kernel), in_TB 763 (by decide +kernel) (by decide +kernel), in_TB 764 (by decide +kernel) (by decide +kernel)⟩
theorem wX9_146 : CWV RX9 146 MX7_hasShop 1 := ⟨wbX7_hasShop, in_TB 781 (by decide +kernel) (by decide +kernel), in_TB 782 (by decide +kernel) (by decide +kernel), in_TB 783 (by decide +kernel) (by decide +kernel)⟩
theorem wX9_150 : CWV RX9 150 MX7_hasDay 1 := ⟨wbX7_hasDay, in_TB 785 (by decide +kernel) (by decide +kernel), in_TB 786 (by decide +kernel) (by decide +kernel), in_TB 787 (by decide +kernel) (by decide +kernel)⟩
theorem wX9_156 : CWS RX9 156 MX9_cellOf 2 := ⟨wbX9_cellOf, in_TB 789 (by decide +kernel) (by decide +kernel), in_TB 597 (by decide +kernel) (by decide +kernel)⟩
theorem wX9_169 : CWV RX9 169 MX8_between 2 := ⟨wbX8_between, in_TB 790 (by decide +kernel) (by decide +kernel), in_TB 560 (by decide +kernel) (by decide +kernel), in_TB 561 (by decide +kernel) (by decide +kernel)⟩
theorem wX9_172 : CWV RX9 172 MX9_hasCell 2 := ⟨wbX9_hasCell, in_TB 795 (by decide +kernel) (by decide +kernel), in_TB 797 (by decide +kernel) (by decide +kernel), in_TB 25 (by decide +kernel) (by decide +kernel)⟩
theorem wX9_185 : CWV RX9 185 MX5_sumOf 2 := ⟨wbX5_sumOf, in_TB 811 (by decide +kernel) (by decide +kernel), in_TB 812 (by decide +kernel) (by decide +kernel), in_TB 813 (by decide +kernel) (by decide +kernel)⟩
theorem wX9_190 : CWV RX9 190 MX5_idleVisits 1 := ⟨wbX5_idleVisits, in_TB 815 (by decide +kernel) (by decide +kernel), in_TB 816 (by decide +kernel) (by decide +kernel), in_TB 817 (by decide +kernel) (by decide +kernel)⟩
theorem wX9_194 : CWV RX9 194 MX5_firstMissed 1 := ⟨wbX5_firstMissed, in_TB 823 (by decide +kernel) (by decide +kernel), in_TB 824 (by decide +kernel) (by decide +kernel), in_TB 825 (by decide +kernel) (by decide +kernel)⟩
theorem wX9_197 : CWV RX9 197 MX5_spareFrom 2 := ⟨wbX5_spareFrom, in_TB 831 (by decide +kernel) (by decide +kernel), in_TB 832 (by decide +kernel) (by decide +kernel), in_TB 833 (by decide +kernel) (by decide +kernel)⟩
theorem wX9_200 : CWV RX9 200 MX5_lastsUntil 2 := ⟨wbX5_lastsUntil, in_TB 839 (by decide +kernel) (by decide +kernel), in_TB 840 (by decide +kernel) (by decide +kernel), in_TB 841 (by decide +kernel) (by decide +kernel)⟩
theorem wX9_203 : CWV RX9 203 MX5_missedByChance 2 := ⟨wbX5_missedByChance, in_TB 847 (by decide +kernel) (by decide +kernel), in_TB 848 (by decide +kernel) (by decide +kernel), in_TB 849 (by decide +kernel) (by decide +kernel)⟩
theorem wX9_206 : CWV RX9 206 MX9_partDay 1 := ⟨wbX9_partDay, in_TB 859 (by decide +kernel) (by decide +kernel), in_TB 861 (by decide +kernel) (by decide +kernel), in_TB 26 (by decide +kernel) (by decide +kernel)⟩
theorem wX9_209 : CWV RX9 209 MX9_roundSet 2 := ⟨wbX9_roundSet, in_TB 884 (by decide +kernel) (by decide +kernel), in_TB 886 (by decide +kernel) (by decide +kernel), in_TB 29 (by decide +kernel) (by decide +kernel)⟩
theorem wX9_212 : CWV RX9 212 MX8_trace 1 := ⟨wbX8_trace, in_TB 892 (by decide +kernel) (by decide +kernel), in_TB 893 (by decide +kernel) (by decide +kernel), in_TB 894 (by decide +kernel) (by decide +kernel)⟩
theorem wX9_218 : CWV RX9 218 MX8_milesTo 1 := ⟨wbX8_milesTo, in_TB 900 (by decide +kernel) (by decide +kernel), in_TB 576 (by decide +kernel) (by decide +kernel), in_TB 577 (by decide +kernel) (by decide +kernel)⟩
theorem wX9_221 : CWV RX9 221 MX2_loadOf 1 := ⟨wbX2_loadOf, in_TB 901 (by decide +kernel) (by decide +kernel), in_TB 902 (by decide +kernel) (by decide +kernel), in_TB 903 (by decide +kernel) (by decide +kernel)⟩
theorem wX9_224 : CWV RX9 224 MX2_roundPrice 1 := ⟨wbX2_roundPrice, in_TB 905 (by decide +kernel) (by decide +kernel), in_TB 906 (by decide +kernel) (by decide +kernel), in_TB 907 (by decide +kernel) (by decide +kernel)⟩
theorem wX9_228 : CWV RX9 228 MX2_gain 2 := ⟨wbX2_gain, in_TB 922 (by decide +kernel) (by decide +kernel), in_TB 923 (by decide +kernel) (by decide +kernel), in_TB 924 (by decide +kernel) (by decide +kernel)⟩
theorem wX9_231 : CWV RX9 231 MX5_pickLoads 2 := ⟨wbX5_pickLoads, in_TB 863 (by decide +kernel) (by decide +kernel), in_TB 864 (by decide +kernel) (by decide +kernel), in_TB 865 (by decide +kernel) (by decide +kernel)⟩
theorem wX9_235 : CWV RX9 235 MX6_mergeAll 1 := ⟨wbX6_mergeAll, in_TB 930 (by decide +kernel) (by decide +kernel), in_TB 931 (by decide +kernel) (by decide +kernel), in_TB 932 (by decide +kernel) (by decide +kernel)⟩
theorem wX9_239 : CWV RX9 239 MX6_price 0 := ⟨wbX6_price, in_TB 943 (by decide +kernel) (by decide +kernel), in_TB 944 (by decide +kernel) (by decide +kernel), in_TB 945 (by decide +kernel) (by decide +kernel)⟩
theorem wX9_246 : CWV RX9 246 MX2_shareSum 1 := ⟨wbX2_shareSum, in_TB 952 (by decide +kernel) (by decide +kernel), in_TB 953 (by decide +kernel) (by decide +kernel), in_TB 954 (by decide +kernel) (by decide +kernel)⟩
theorem wX9_249 : CWV RX9 249 MX2_orders 0 := ⟨wbX2_orders, in_TB 965 (by decide +kernel) (by decide +kernel), in_TB 966 (by decide +kernel) (by decide +kernel), in_TB 967 (by decide +kernel) (by decide +kernel)⟩
theorem wX9_252 : CWS RX9 252 MX9_greatestDivisor 2 := ⟨wbX9_greatestDivisor, in_TB 969 (by decide +kernel) (by decide +kernel), in_TB 970 (by decide +kernel) (by decide +kernel)⟩
theorem wX9_255 : CWV RX9 255 MX5_fullestDay 0 := ⟨wbX5_fullestDay, in_TB 978 (by decide +kernel) (by decide +kernel), in_TB 979 (by decide +kernel) (by decide +kernel), in_TB 980 (by decide +kernel) (by decide +kernel)⟩
theorem wX9_258 : CWV RX9 258 MX5_loadsOn 1 := ⟨wbX5_loadsOn, in_TB 986 (by decide +kernel) (by decide +kernel), in_TB 983 (by decide +kernel) (by decide +kernel), in_TB 984 (by decide +kernel) (by decide +kernel)⟩
theorem wX9_261 : CWV RX9 261 MX5_wholeCost 0 := ⟨wbX5_wholeCost, in_TB 991 (by decide +kernel) (by decide +kernel), in_TB 992 (by decide +kernel) (by decide +kernel), in_TB 993 (by decide +kernel) (by decide +kernel)⟩
theorem wX9_264 : CWV RX9 264 MX5_roundsCost 0 := ⟨wbX5_roundsCost, in_TB 1004 (by decide +kernel) (by decide +kernel), in_TB 1005 (by decide +kernel) (by decide +kernel), in_TB 1006 (by decide +kernel) (by decide +kernel)⟩
theorem wX9_267 : CWV RX9 267 MX5_stockCost 0 := ⟨wbX5_stockCost, in_TB 1017 (by decide +kernel) (by decide +kernel), in_TB 1010 (by decide +kernel) (by decide +kernel), in_TB 1011 (by decide +kernel) (by decide +kernel)⟩
theorem wX9_270 : CWV RX9 270 MX5_lostCost 0 := ⟨wbX5_lostCost, in_TB 1018 (by decide +kernel) (by decide +kernel), in_TB 1014 (by decide +kernel) (by decide +kernel), in_TB 1015 (by decide +kernel) (by decide +kernel)⟩
theorem wX9_273 : CWV RX9 273 MX5_priceOn 1 := ⟨wbX5_priceOn, in_TB 1023 (by decide +kernel) (by decide +kernel), in_TB 996 (by decide +kernel) (by decide +kernel), in_TB 997 (by decide +kernel) (by decide +kernel)⟩
theorem wX9_276 : CWV RX9 276 MX5_takeOver 1 := ⟨wbX5_takeOver, in_TB 1028 (by decide +kernel) (by decide +kernel), in_TB 1029 (by decide +kernel) (by decide +kernel), in_TB 1030 (by decide +kernel) (by decide +kernel)⟩
theorem wX9_279 : CWV RX9 279 MX5_setVisits 2 := ⟨wbX5_setVisits, in_TB 1033 (by decide +kernel) (by decide +kernel), in_TB 1034 (by decide +kernel) (by decide +kernel), in_TB 1035 (by decide +kernel) (by decide +kernel)⟩
theorem wX9_283 : CWV RX9 283 MX5_roundsCostWith 1 := ⟨wbX5_roundsCostWith, in_TB 1042 (by decide +kernel) (by decide +kernel), in_TB 1043 (by decide +kernel) (by decide +kernel), in_TB 1044 (by decide +kernel) (by decide +kernel)⟩
theorem wX9_286 : CWV RX9 286 MX5_greatestLoad 0 := ⟨wbX5_greatestLoad, in_TB 1046 (by decide +kernel) (by decide +kernel), in_TB 1047 (by decide +kernel) (by decide +kernel), in_TB 1048 (by decide +kernel) (by decide +kernel)⟩
theorem wX9_289 : CWM RX9 289 Lib.Math.max.name Lib.Math.max.code 2 := ⟨in_TB 973 (by decide +kernel) (by decide +kernel), in_TB 853 (by decide +kernel) (by decide +kernel), in_TB 127 (by decide +kernel) (by decide +kernel), in_TB 854 (by decide +kernel) (by decide +kernel)⟩
theorem wX9_294 : CWV RX9 294 MX9_leastTruck 2 := ⟨wbX9_leastTruck, in_TB 1050 (by decide +kernel) (by decide +kernel), in_TB 1052 (by decide +kernel) (by decide +kernel), in_TB 33 (by decide +kernel) (by decide +kernel)⟩
theorem wX9_297 : CWV RX9 297 MX9_losesAt 1 := ⟨wbX9_losesAt, in_TB 1058 (by decide +kernel) (by decide +kernel), in_TB 1060 (by decide +kernel) (by decide +kernel), in_TB 34 (by decide +kernel) (by decide +kernel)⟩
theorem wX9_300 : CWV RX9 300 MX9_greatestPercent 0 := ⟨wbX9_greatestPercent, in_TB 1062 (by decide +kernel) (by decide +kernel), in_TB 1064 (by decide +kernel) (by decide +kernel), in_TB 35 (by decide +kernel) (by decide +kernel)⟩
theorem wX9_303 : CWV RX9 303 MX5_askPercent 1 := ⟨wbX5_askPercent, in_TB 584 (by decide +kernel) (by decide +kernel), in_TB 585 (by decide +kernel) (by decide +kernel), in_TB 586 (by decide +kernel) (by decide +kernel)⟩
theorem wX9_306 : CWV RX9 306 MX1_findDays 2 := ⟨wbX1_findDays, in_TB 1074 (by decide +kernel) (by decide +kernel), in_TB 1075 (by decide +kernel) (by decide +kernel), in_TB 1076 (by decide +kernel) (by decide +kernel)⟩
theorem wX9_310 : CWV RX9 310 MX1_bestDays 0 := ⟨wbX1_bestDays, in_TB 1105 (by decide +kernel) (by decide +kernel), in_TB 1106 (by decide +kernel) (by decide +kernel), in_TB 1107 (by decide +kernel) (by decide +kernel)⟩
theorem wX9_313 : CWV RX9 313 MX1_bestCost 0 := ⟨wbX1_bestCost, in_TB 1109 (by decide +kernel) (by decide +kernel), in_TB 1110 (by decide +kernel) (by decide +kernel), in_TB 1111 (by decide +kernel) (by decide +kernel)⟩
theorem wX9_316 : CWV RX9 316 MX3_findEvery 2 := ⟨wbX3_findEvery, in_TB 1117 (by decide +kernel) (by decide +kernel), in_TB 1118 (by decide +kernel) (by decide +kernel), in_TB 1119 (by decide +kernel) (by decide +kernel)⟩
theorem wX9_329 : CWV RX9 329 MX9_keepAct 0 := ⟨wbX9_keepAct, in_TB 1142 (by decide +kernel) (by decide +kernel), in_TB 1144 (by decide +kernel) (by decide +kernel), in_TB 42 (by decide +kernel) (by decide +kernel)⟩
theorem wX9_332 : CWV RX9 332 MX3_visitByRule 2 := ⟨wbX3_visitByRule, in_TB 1155 (by decide +kernel) (by decide +kernel), in_TB 1156 (by decide +kernel) (by decide +kernel), in_TB 1157 (by decide +kernel) (by decide +kernel)⟩
theorem wX9_335 : CWV RX9 335 MX5_countVisits 0 := ⟨wbX5_countVisits, in_TB 1175 (by decide +kernel) (by decide +kernel), in_TB 1176 (by decide +kernel) (by decide +kernel), in_TB 1177 (by decide +kernel) (by decide +kernel)⟩
theorem wX9_338 : CWV RX9 338 MX3_moveOne 1 := ⟨wbX3_moveOne, in_TB 1183 (by decide +kernel) (by decide +kernel), in_TB 1184 (by decide +kernel) (by decide +kernel), in_TB 1185 (by decide +kernel) (by decide +kernel)⟩
theorem wX9_342 : CWV RX9 342 MX9_adoptTrial 1 := ⟨wbX9_adoptTrial, in_TB 1194 (by decide +kernel) (by decide +kernel), in_TB 1196 (by decide +kernel) (by decide +kernel), in_TB 46 (by decide +kernel) (by decide +kernel)⟩
theorem wX9_345 : CWV RX9 345 MX3_turnOne 1 := ⟨wbX3_turnOne, in_TB 1202 (by decide +kernel) (by decide +kernel), in_TB 1203 (by decide +kernel) (by decide +kernel), in_TB 1204 (by decide +kernel) (by decide +kernel)⟩
theorem wX9_348 : CWV RX9 348 MX3_takeLeastPlan 1 := ⟨wbX3_takeLeastPlan, in_TB 1210 (by decide +kernel) (by decide +kernel), in_TB 1211 (by decide +kernel) (by decide +kernel), in_TB 1212 (by decide +kernel) (by decide +kernel)⟩
theorem wX9_351 : CWV RX9 351 MX5_dropVisits 0 := ⟨wbX5_dropVisits, in_TB 1229 (by decide +kernel) (by decide +kernel), in_TB 1160 (by decide +kernel) (by decide +kernel), in_TB 1161 (by decide +kernel) (by decide +kernel)⟩
theorem wX9_354 : CWV RX9 354 MX7_addRush 3 := ⟨wbX7_addRush, in_TB 1234 (by decide +kernel) (by decide +kernel), in_TB 758 (by decide +kernel) (by decide +kernel), in_TB 759 (by decide +kernel) (by decide +kernel)⟩
theorem wX9_358 : CWV RX9 358 MX0_takeBack 0 := ⟨wbX0_takeBack, in_TB 1239 (by decide +kernel) (by decide +kernel), in_TB 1240 (by decide +kernel) (by decide +kernel), in_TB 1241 (by decide +kernel) (by decide +kernel)⟩
theorem wX9_362 : CWV RX9 362 MX0_rushesBefore 0 := ⟨wbX0_rushesBefore, in_TB 1243 (by decide +kernel) (by decide +kernel), in_TB 1244 (by decide +kernel) (by decide +kernel), in_TB 1245 (by decide +kernel) (by decide +kernel)⟩
theorem wX9_365 : CWV RX9 365 MX7_keepRushes 1 := ⟨wbX7_keepRushes, in_TB 1247 (by decide +kernel) (by decide +kernel), in_TB 1248 (by decide +kernel) (by decide +kernel), in_TB 1249 (by decide +kernel) (by decide +kernel)⟩
theorem wX9_368 : CWV RX9 368 MX0_visitsBefore 1 := ⟨wbX0_visitsBefore, in_TB 1251 (by decide +kernel) (by decide +kernel), in_TB 1252 (by decide +kernel) (by decide +kernel), in_TB 1253 (by decide +kernel) (by decide +kernel)⟩
theorem wX9_371 : CWV RX9 371 MX8_measure 1 := ⟨wbX8_measure, in_TB 548 (by decide +kernel) (by decide +kernel), in_TB 549 (by decide +kernel) (by decide +kernel), in_TB 550 (by decide +kernel) (by decide +kernel)⟩
theorem wX9_374 : CWV RX9 374 MX2_measure 1 := ⟨wbX2_measure, in_TB 571 (by decide +kernel) (by decide +kernel), in_TB 572 (by decide +kernel) (by decide +kernel), in_TB 573 (by decide +kernel) (by decide +kernel)⟩
theorem wX9_377 : CWV RX9 377 MX5_forget 0 := ⟨wbX5_forget, in_TB 579 (by decide +kernel) (by decide +kernel), in_TB 580 (by decide +kernel) (by decide +kernel), in_TB 581 (by decide +kernel) (by decide +kernel)⟩
theorem wX9_380 : CWV RX9 380 MX0_forget 0 := ⟨wbX0_forget, in_TB 604 (by decide +kernel) (by decide +kernel), in_TB 605 (by decide +kernel) (by decide +kernel), in_TB 606 (by decide +kernel) (by decide +kernel)⟩
theorem wX9_381 : CWV RX9 381 MX2_part 2 := ⟨wbX2_part, in_TB 867 (by decide +kernel) (by decide +kernel), in_TB 868 (by decide +kernel) (by decide +kernel), in_TB 869 (by decide +kernel) (by decide +kernel)⟩
theorem wX9_384 : CWV RX9 384 MX2_setAt 1 := ⟨wbX2_setAt, in_TB 888 (by decide +kernel) (by decide +kernel), in_TB 889 (by decide +kernel) (by decide +kernel), in_TB 890 (by decide +kernel) (by decide +kernel)⟩
theorem wX9_390 : CWV RX9 390 MX0_keep 2 := ⟨wbX0_keep, in_TB 1146 (by decide +kernel) (by decide +kernel), in_TB 1147 (by decide +kernel) (by decide +kernel), in_TB 1148 (by decide +kernel) (by decide +kernel)⟩
theorem wX9_394 : CWM RX9 394 Lib.Math.abs.name Lib.Math.abs.code 1 := ⟨in_TB 972 (by decide +kernel) (by decide +kernel), in_TB 553 (by decide +kernel) (by decide +kernel), in_TB 127 (by decide +kernel) (by decide +kernel), in_TB 554 (by decide +kernel) (by decide +kernel)⟩
theorem wX10_98 : CWV RX10 98 MX10_shops 0 := ⟨wbX10_shops, in_TB 1490 (by decide +kernel) (by decide +kernel), in_TB 1492 (by decide +kernel) (by decide +kernel), in_TB 66 (by decide +kernel) (by decide +kernel)⟩
theorem wX10_102 : CWS RX10 102 MX10_in 3 := ⟨wbX10_in, in_TB 1394 (by decide +kernel) (by decide +kernel), in_TB 1395 (by decide +kernel) (by decide +kernel)⟩
theorem wX10_106 : CWV RX10 106 MX10_days 0 := ⟨wbX10_days, in_TB 1510 (by decide +kernel) (by decide +kernel), in_TB 1512 (by decide +kernel) (by decide +kernel), in_TB 69 (by decide +kernel) (by decide +kernel)⟩
theorem wX10_112 : CWV RX10 112 MX10_four 1 := ⟨wbX10_four, in_TB 1386 (by decide +kernel) (by decide +kernel), in_TB 1388 (by decide +kernel) (by decide +kernel), in_TB 48 (by decide +kernel) (by decide +kernel)⟩
theorem wX10_131 : CWV RX10 131 MX10_isGood 0 := ⟨wbX10_isGood, in_TB 1405 (by decide +kernel) (by decide +kernel), in_TB 1407 (by decide +kernel) (by decide +kernel), in_TB 50 (by decide +kernel) (by decide +kernel)⟩
theorem wX10_138 : CWV RX10 138 MX10_byteAt 1 := ⟨wbX10_byteAt, in_TB 1409 (by decide +kernel) (by decide +kernel), in_TB 1411 (by decide +kernel) (by decide +kernel), in_TB 51 (by decide +kernel) (by decide +kernel)⟩
theorem wX10_145 : CWS RX10 145 MX10_isSmall 1 := ⟨wbX10_isSmall, in_TB 1413 (by decide +kernel) (by decide +kernel), in_TB 1414 (by decide +kernel) (by decide +kernel)⟩
theorem wX10_149 : CWS RX10 149 MX10_isDigit 1 := ⟨wbX10_isDigit, in_TB 1416 (by decide +kernel) (by decide +kernel), in_TB 1417 (by decide +kernel) (by decide +kernel)⟩
theorem wX10_153 : CWV RX10 153 MX10_isWord 1 := ⟨wbX10_isWord, in_TB 1424 (by decide +kernel) (by decide +kernel), in_TB 1426 (by decide +kernel) (by decide +kernel), in_TB 53 (by decide +kernel) (by decide +kernel)⟩
theorem wX10_167 : CWV RX10 167 MX10_fails 1 := ⟨wbX10_fails, in_TB 1435 (by decide +kernel) (by decide +kernel), in_TB 1437 (by decide +kernel) (by decide +kernel), in_TB 55 (by decide +kernel) (by decide +kernel)⟩
theorem wX10_170 : CWV RX10 170 MX10_goOn 0 := ⟨wbX10_goOn, in_TB 1401 (by decide +kernel) (by decide +kernel), in_TB 1403 (by decide +kernel) (by decide +kernel), in_TB 49 (by decide +kernel) (by decide +kernel)⟩
theorem wX10_176 : CWS RX10 176 MX10_isOf 2 := ⟨wbX10_isOf, in_TB 1432 (by decide +kernel) (by decide +kernel), in_TB 1433 (by decide +kernel) (by decide +kernel)⟩
theorem wX10_180 : CWV RX10 180 MX10_readNumber 2 := ⟨wbX10_readNumber, in_TB 1443 (by decide +kernel) (by decide +kernel), in_TB 1445 (by decide +kernel) (by decide +kernel), in_TB 57 (by decide +kernel) (by decide +kernel)⟩
theorem wX10_184 : CWV RX10 184 MX10_begins 1 := ⟨wbX10_begins, in_TB 1428 (by decide +kernel) (by decide +kernel), in_TB 1430 (by decide +kernel) (by decide +kernel), in_TB 54 (by decide +kernel) (by decide +kernel)⟩
theorem wX10_187 : CWV RX10 187 MX10_reads 3 := ⟨wbX10_reads, in_TB 1439 (by decide +kernel) (by decide +kernel), in_TB 1441 (by decide +kernel) (by decide +kernel), in_TB 56 (by decide +kernel) (by decide +kernel)⟩
theorem wX10_191 : CWV RX10 191 MX10_isName 0 := ⟨wbX10_isName, in_TB 1462 (by decide +kernel) (by decide +kernel), in_TB 1464 (by decide +kernel) (by decide +kernel), in_TB 60 (by decide +kernel) (by decide +kernel)⟩
theorem wX10_194 : CWV RX10 194 MX10_called 0 := ⟨wbX10_called, in_TB 1470 (by decide +kernel) (by decide +kernel), in_TB 1472 (by decide +kernel) (by decide +kernel), in_TB 61 (by decide +kernel) (by decide +kernel)⟩
theorem wX10_197 : CWV RX10 197 MX10_keyword 1 := ⟨wbX10_keyword, in_TB 1474 (by decide +kernel) (by decide +kernel), in_TB 1476 (by decide +kernel) (by decide +kernel), in_TB 62 (by decide +kernel) (by decide +kernel)⟩
theorem wX10_200 : CWV RX10 200 MX10_readTruck 0 := ⟨wbX10_readTruck, in_TB 1449 (by decide +kernel) (by decide +kernel), in_TB 1451 (by decide +kernel) (by decide +kernel), in_TB 58 (by decide +kernel) (by decide +kernel)⟩
theorem wX10_203 : CWV RX10 203 MX10_readShop 0 := ⟨wbX10_readShop, in_TB 1458 (by decide +kernel) (by decide +kernel), in_TB 1460 (by decide +kernel) (by decide +kernel), in_TB 59 (by decide +kernel) (by decide +kernel)⟩
theorem wX10_206 : CWV RX10 206 MX10_readRush 0 := ⟨wbX10_readRush, in_TB 1478 (by decide +kernel) (by decide +kernel), in_TB 1480 (by decide +kernel) (by decide +kernel), in_TB 63 (by decide +kernel) (by decide +kernel)⟩
theorem wX10_209 : CWV RX10 209 MX10_readLine 0 := ⟨wbX10_readLine, in_TB 1419 (by decide +kernel) (by decide +kernel), in_TB 1421 (by decide +kernel) (by decide +kernel), in_TB 52 (by decide +kernel) (by decide +kernel)⟩
theorem wX10_215 : CWV RX10 215 MX10_stands 0 := ⟨wbX10_stands, in_TB 1482 (by decide +kernel) (by decide +kernel), in_TB 1484 (by decide +kernel) (by decide +kernel), in_TB 64 (by decide +kernel) (by decide +kernel)⟩
theorem wX10_221 : CWV RX10 221 MX10_layWays 0 := ⟨wbX10_layWays, in_TB 1486 (by decide +kernel) (by decide +kernel), in_TB 1488 (by decide +kernel) (by decide +kernel), in_TB 65 (by decide +kernel) (by decide +kernel)⟩
theorem wX10_224 : CWV RX10 224 MX10_number 1 := ⟨wbX10_number, in_TB 1498 (by decide +kernel) (by decide +kernel), in_TB 1500 (by decide +kernel) (by decide +kernel), in_TB 68 (by decide +kernel) (by decide +kernel)⟩
theorem wX10_227 : CWV RX10 227 MX10_far 2 := ⟨wbX10_far, in_TB 1494 (by decide +kernel) (by decide +kernel), in_TB 1496 (by decide +kernel) (by decide +kernel), in_TB 67 (by decide +kernel) (by decide +kernel)⟩
theorem wX10_230 : CWV RX10 230 MX10_milesOf 1 := ⟨wbX10_milesOf, in_TB 1518 (by decide +kernel) (by decide +kernel), in_TB 1520 (by decide +kernel) (by decide +kernel), in_TB 70 (by decide +kernel) (by decide +kernel)⟩
theorem wX10_233 : CWV RX10 233 MX10_isShop 1 := ⟨wbX10_isShop, in_TB 1526 (by decide +kernel) (by decide +kernel), in_TB 1528 (by decide +kernel) (by decide +kernel), in_TB 71 (by decide +kernel) (by decide +kernel)⟩
theorem wX10_237 : CWV RX10 237 MX10_costOfSet 1 := ⟨wbX10_costOfSet, in_TB 1531 (by decide +kernel) (by decide +kernel), in_TB 1533 (by decide +kernel) (by decide +kernel), in_TB 72 (by decide +kernel) (by decide +kernel)⟩
theorem wX10_240 : CWV RX10 240 MX10_askedOf 2 := ⟨wbX10_askedOf, in_TB 1539 (by decide +kernel) (by decide +kernel), in_TB 1541 (by decide +kernel) (by decide +kernel), in_TB 73 (by decide +kernel) (by decide +kernel)⟩
theorem wX10_243 : CWS RX10 243 MX10_lesser 2 := ⟨wbX10_lesser, in_TB 1571 (by decide +kernel) (by decide +kernel), in_TB 1572 (by decide +kernel) (by decide +kernel)⟩
theorem wX10_246 : CWV RX10 246 MX10_runShop 2 := ⟨wbX10_runShop, in_TB 1567 (by decide +kernel) (by decide +kernel), in_TB 1569 (by decide +kernel) (by decide +kernel), in_TB 79 (by decide +kernel) (by decide +kernel)⟩
theorem wX10_250 : CWV RX10 250 MX10_layAsked 1 := ⟨wbX10_layAsked, in_TB 1559 (by decide +kernel) (by decide +kernel), in_TB 1561 (by decide +kernel) (by decide +kernel), in_TB 77 (by decide +kernel) (by decide +kernel)⟩
theorem wX10_253 : CWV RX10 253 MX10_runAll 0 := ⟨wbX10_runAll, in_TB 1563 (by decide +kernel) (by decide +kernel), in_TB 1565 (by decide +kernel) (by decide +kernel), in_TB 78 (by decide +kernel) (by decide +kernel)⟩
theorem wX10_256 : CWV RX10 256 MX10_isDay 1 := ⟨wbX10_isDay, in_TB 1551 (by decide +kernel) (by decide +kernel), in_TB 1553 (by decide +kernel) (by decide +kernel), in_TB 75 (by decide +kernel) (by decide +kernel)⟩
theorem wX10_259 : CWV RX10 259 MX10_isAt 2 := ⟨wbX10_isAt, in_TB 1547 (by decide +kernel) (by decide +kernel), in_TB 1549 (by decide +kernel) (by decide +kernel), in_TB 74 (by decide +kernel) (by decide +kernel)⟩
theorem wX10_262 : CWV RX10 262 MX10_layRun 0 := ⟨wbX10_layRun, in_TB 1555 (by decide +kernel) (by decide +kernel), in_TB 1557 (by decide +kernel) (by decide +kernel), in_TB 76 (by decide +kernel) (by decide +kernel)⟩
theorem wX10_265 : CWV RX10 265 MX10_firstLost 2 := ⟨wbX10_firstLost, in_TB 1590 (by decide +kernel) (by decide +kernel), in_TB 1592 (by decide +kernel) (by decide +kernel), in_TB 80 (by decide +kernel) (by decide +kernel)⟩
theorem wX10_268 : CWV RX10 268 MX10_lostBy 1 := ⟨wbX10_lostBy, in_TB 1598 (by decide +kernel) (by decide +kernel), in_TB 1600 (by decide +kernel) (by decide +kernel), in_TB 81 (by decide +kernel) (by decide +kernel)⟩
theorem wX10_271 : CWV RX10 271 MX10_lostByDraws 2 := ⟨wbX10_lostByDraws, in_TB 1610 (by decide +kernel) (by decide +kernel), in_TB 1612 (by decide +kernel) (by decide +kernel), in_TB 82 (by decide +kernel) (by decide +kernel)⟩
theorem wX10_275 : CWV RX10 275 MX10_loadsOf 1 := ⟨wbX10_loadsOf, in_TB 1631 (by decide +kernel) (by decide +kernel), in_TB 1633 (by decide +kernel) (by decide +kernel), in_TB 86 (by decide +kernel) (by decide +kernel)⟩
theorem wX10_278 : CWV RX10 278 MX10_layPart 2 := ⟨wbX10_layPart, in_TB 1627 (by decide +kernel) (by decide +kernel), in_TB 1629 (by decide +kernel) (by decide +kernel), in_TB 85 (by decide +kernel) (by decide +kernel)⟩
theorem wX10_281 : CWV RX10 281 MX10_layLoads 1 := ⟨wbX10_layLoads, in_TB 1619 (by decide +kernel) (by decide +kernel), in_TB 1621 (by decide +kernel) (by decide +kernel), in_TB 83 (by decide +kernel) (by decide +kernel)⟩
theorem wX10_284 : CWV RX10 284 MX10_layParts 2 := ⟨wbX10_layParts, in_TB 1623 (by decide +kernel) (by decide +kernel), in_TB 1625 (by decide +kernel) (by decide +kernel), in_TB 84 (by decide +kernel) (by decide +kernel)⟩
theorem wX10_287 : CWV RX10 287 MX10_roundOf 2 := ⟨wbX10_roundOf, in_TB 1639 (by decide +kernel) (by decide +kernel), in_TB 1641 (by decide +kernel) (by decide +kernel), in_TB 87 (by decide +kernel) (by decide +kernel)⟩
theorem wX10_290 : CWS RX10 290 MX10_bits 1 := ⟨wbX10_bits, in_TB 1643 (by decide +kernel) (by decide +kernel), in_TB 1644 (by decide +kernel) (by decide +kernel)⟩
theorem wX10_293 : CWV RX10 293 MX10_onWay 2 := ⟨wbX10_onWay, in_TB 1646 (by decide +kernel) (by decide +kernel), in_TB 1648 (by decide +kernel) (by decide +kernel), in_TB 88 (by decide +kernel) (by decide +kernel)⟩
theorem wX10_296 : CWV RX10 296 MX10_joins 1 := ⟨wbX10_joins, in_TB 1658 (by decide +kernel) (by decide +kernel), in_TB 1660 (by decide +kernel) (by decide +kernel), in_TB 89 (by decide +kernel) (by decide +kernel)⟩
theorem wX10_299 : CWS RX10 299 MX10_orders 1 := ⟨wbX10_orders, in_TB 1666 (by decide +kernel) (by decide +kernel), in_TB 1667 (by decide +kernel) (by decide +kernel)⟩
theorem wX10_302 : CWS RX10 302 MX10_common 2 := ⟨wbX10_common, in_TB 1669 (by decide +kernel) (by decide +kernel), in_TB 1670 (by decide +kernel) (by decide +kernel)⟩
theorem wX10_305 : CWV RX10 305 MX10_roundsCost 2 := ⟨wbX10_roundsCost, in_TB 1688 (by decide +kernel) (by decide +kernel), in_TB 1690 (by decide +kernel) (by decide +kernel), in_TB 92 (by decide +kernel) (by decide +kernel)⟩
theorem wX10_308 : CWV RX10 308 MX10_stocks 1 := ⟨wbX10_stocks, in_TB 1696 (by decide +kernel) (by decide +kernel), in_TB 1698 (by decide +kernel) (by decide +kernel), in_TB 94 (by decide +kernel) (by decide +kernel)⟩
theorem wX10_311 : CWV RX10 311 MX10_allRounds 1 := ⟨wbX10_allRounds, in_TB 1684 (by decide +kernel) (by decide +kernel), in_TB 1686 (by decide +kernel) (by decide +kernel), in_TB 91 (by decide +kernel) (by decide +kernel)⟩
theorem wX10_314 : CWV RX10 314 MX10_allStocks 0 := ⟨wbX10_allStocks, in_TB 1692 (by decide +kernel) (by decide +kernel), in_TB 1694 (by decide +kernel) (by decide +kernel), in_TB 93 (by decide +kernel) (by decide +kernel)⟩
theorem wX10_317 : CWV RX10 317 MX10_allLost 0 := ⟨wbX10_allLost, in_TB 1700 (by decide +kernel) (by decide +kernel), in_TB 1702 (by decide +kernel) (by decide +kernel), in_TB 95 (by decide +kernel) (by decide +kernel)⟩
theorem wX10_320 : CWV RX10 320 MX10_costNow 0 := ⟨wbX10_costNow, in_TB 1680 (by decide +kernel) (by decide +kernel), in_TB 1682 (by decide +kernel) (by decide +kernel), in_TB 90 (by decide +kernel) (by decide +kernel)⟩
theorem wX10_323 : CWV RX10 323 MX10_soloCost 2 := ⟨wbX10_soloCost, in_TB 1728 (by decide +kernel) (by decide +kernel), in_TB 1730 (by decide +kernel) (by decide +kernel), in_TB 96 (by decide +kernel) (by decide +kernel)⟩
theorem wX10_326 : CWV RX10 326 MX10_everySet 2 := ⟨wbX10_everySet, in_TB 1736 (by decide +kernel) (by decide +kernel), in_TB 1738 (by decide +kernel) (by decide +kernel), in_TB 97 (by decide +kernel) (by decide +kernel)⟩
theorem wX10_329 : CWV RX10 329 MX10_layBetween 0 := ⟨wbX10_layBetween, in_TB 1744 (by decide +kernel) (by decide +kernel), in_TB 1746 (by decide +kernel) (by decide +kernel), in_TB 98 (by decide +kernel) (by decide +kernel)⟩
theorem wX10_332 : CWV RX10 332 MX10_costBy 1 := ⟨wbX10_costBy, in_TB 1748 (by decide +kernel) (by decide +kernel), in_TB 1750 (by decide +kernel) (by decide +kernel), in_TB 99 (by decide +kernel) (by decide +kernel)⟩
theorem wX10_335 : CWV RX10 335 MX10_puts 0 := ⟨wbX10_puts, in_TB 1756 (by decide +kernel) (by decide +kernel), in_TB 1758 (by decide +kernel) (by decide +kernel), in_TB 100 (by decide +kernel) (by decide +kernel)⟩
theorem wX10_338 : CWV RX10 338 MX10_keep 0 := ⟨wbX10_keep, in_TB 1764 (by decide +kernel) (by decide +kernel), in_TB 1766 (by decide +kernel) (by decide +kernel), in_TB 101 (by decide +kernel) (by decide +kernel)⟩
theorem wX10_341 : CWV RX10 341 MX10_morning 2 := ⟨wbX10_morning, in_TB 1772 (by decide +kernel) (by decide +kernel), in_TB 1774 (by decide +kernel) (by decide +kernel), in_TB 102 (by decide +kernel) (by decide +kernel)⟩
theorem wX10_344 : CWV RX10 344 MX10_askedFor 3 := ⟨wbX10_askedFor, in_TB 1776 (by decide +kernel) (by decide +kernel), in_TB 1778 (by decide +kernel) (by decide +kernel), in_TB 103 (by decide +kernel) (by decide +kernel)⟩
theorem wX10_348 : CWV RX10 348 MX10_allVisits 0 := ⟨wbX10_allVisits, in_TB 1780 (by decide +kernel) (by decide +kernel), in_TB 1782 (by decide +kernel) (by decide +kernel), in_TB 104 (by decide +kernel) (by decide +kernel)⟩
theorem wX10_351 : CWV RX10 351 MX10_helps 3 := ⟨wbX10_helps, in_TB 1796 (by decide +kernel) (by decide +kernel), in_TB 1798 (by decide +kernel) (by decide +kernel), in_TB 107 (by decide +kernel) (by decide +kernel)⟩
theorem wX10_354 : CWV RX10 354 MX10_moves 1 := ⟨wbX10_moves, in_TB 1792 (by decide +kernel) (by decide +kernel), in_TB 1794 (by decide +kernel) (by decide +kernel), in_TB 106 (by decide +kernel) (by decide +kernel)⟩
theorem wX10_357 : CWV RX10 357 MX10_tunes 1 := ⟨wbX10_tunes, in_TB 1800 (by decide +kernel) (by decide +kernel), in_TB 1802 (by decide +kernel) (by decide +kernel), in_TB 108 (by decide +kernel) (by decide +kernel)⟩
theorem wX10_360 : CWV RX10 360 MX10_wouldChange 1 := ⟨wbX10_wouldChange, in_TB 1788 (by decide +kernel) (by decide +kernel), in_TB 1790 (by decide +kernel) (by decide +kernel), in_TB 105 (by decide +kernel) (by decide +kernel)⟩
theorem wX10_364 : CWV RX10 364 MX10_betters 2 := ⟨wbX10_betters, in_TB 1804 (by decide +kernel) (by decide +kernel), in_TB 1806 (by decide +kernel) (by decide +kernel), in_TB 109 (by decide +kernel) (by decide +kernel)⟩
theorem wX10_368 : CWV RX10 368 MX10_plan 1 := ⟨wbX10_plan, in_TB 1816 (by decide +kernel) (by decide +kernel), in_TB 1818 (by decide +kernel) (by decide +kernel), in_TB 110 (by decide +kernel) (by decide +kernel)⟩
theorem wL_13 : CWV RL 13 MX9_feed 5 := ⟨wbX9_feed, in_TB 648 (by decide +kernel) (by decide +kernel), in_TB 649 (by decide +kernel) (by decide +kernel), in_TB 650 (by decide +kernel) (by decide +kernel)⟩
theorem wL_17 : CWV RL 17 MX10_feed 5 := ⟨wbX10_feed, in_TB 1382 (by decide +kernel) (by decide +kernel), in_TB 1383 (by decide +kernel) (by decide +kernel), in_TB 1384 (by decide +kernel) (by decide +kernel)⟩
theorem wL_18 : CWV RL 18 MX9_end 1 := ⟨wbX9_end, in_TB 656 (by decide +kernel) (by decide +kernel), in_TB 657 (by decide +kernel) (by decide +kernel), in_TB 658 (by decide +kernel) (by decide +kernel)⟩
theorem wL_22 : CWV RL 22 MX10_end 1 := ⟨wbX10_end, in_TB 1390 (by decide +kernel) (by decide +kernel), in_TB 1391 (by decide +kernel) (by decide +kernel), in_TB 1392 (by decide +kernel) (by decide +kernel)⟩
theorem wL_23 : CWV RL 23 MX9_text 0 := ⟨wbX9_text, in_TB 660 (by decide +kernel) (by decide +kernel), in_TB 661 (by decide +kernel) (by decide +kernel), in_TB 662 (by decide +kernel) (by decide +kernel)⟩
theorem wL_27 : CWV RL 27 MX10_text 0 := ⟨wbX10_text, in_TB 1397 (by decide +kernel) (by decide +kernel), in_TB 1398 (by decide +kernel) (by decide +kernel), in_TB 1399 (by decide +kernel) (by decide +kernel)⟩
theorem wL_28 : CWV RL 28 MX9_fault 1 := ⟨wbX9_fault, in_TB 769 (by decide +kernel) (by decide +kernel), in_TB 770 (by decide +kernel) (by decide +kernel), in_TB 771 (by decide +kernel) (by decide +kernel)⟩
theorem wL_31 : CWV RL 31 MX10_fault 1 := ⟨wbX10_fault, in_TB 1502 (by decide +kernel) (by decide +kernel), in_TB 1503 (by decide +kernel) (by decide +kernel), in_TB 1504 (by decide +kernel) (by decide +kernel)⟩
theorem wL_32 : CWV RL 32 MX9_about 1 := ⟨wbX9_about, in_TB 773 (by decide +kernel) (by decide +kernel), in_TB 774 (by decide +kernel) (by decide +kernel), in_TB 775 (by decide +kernel) (by decide +kernel)⟩
theorem wL_35 : CWV RL 35 MX10_about 1 := ⟨wbX10_about, in_TB 1506 (by decide +kernel) (by decide +kernel), in_TB 1507 (by decide +kernel) (by decide +kernel), in_TB 1508 (by decide +kernel) (by decide +kernel)⟩
theorem wL_36 : CWV RL 36 MX9_shop 2 := ⟨wbX9_shop, in_TB 777 (by decide +kernel) (by decide +kernel), in_TB 778 (by decide +kernel) (by decide +kernel), in_TB 779 (by decide +kernel) (by decide +kernel)⟩
theorem wL_40 : CWV RL 40 MX10_shop 2 := ⟨wbX10_shop, in_TB 1535 (by decide +kernel) (by decide +kernel), in_TB 1536 (by decide +kernel) (by decide +kernel), in_TB 1537 (by decide +kernel) (by decide +kernel)⟩
theorem wL_41 : CWV RL 41 MX9_load 2 := ⟨wbX9_load, in_TB 791 (by decide +kernel) (by decide +kernel), in_TB 792 (by decide +kernel) (by decide +kernel), in_TB 793 (by decide +kernel) (by decide +kernel)⟩
theorem wL_44 : CWV RL 44 MX10_load 2 := ⟨wbX10_load, in_TB 1543 (by decide +kernel) (by decide +kernel), in_TB 1544 (by decide +kernel) (by decide +kernel), in_TB 1545 (by decide +kernel) (by decide +kernel)⟩
theorem wL_45 : CWV RL 45 MX9_stock 2 := ⟨wbX9_stock, in_TB 799 (by decide +kernel) (by decide +kernel), in_TB 800 (by decide +kernel) (by decide +kernel), in_TB 801 (by decide +kernel) (by decide +kernel)⟩
theorem wL_48 : CWV RL 48 MX10_stock 2 := ⟨wbX10_stock, in_TB 1574 (by decide +kernel) (by decide +kernel), in_TB 1575 (by decide +kernel) (by decide +kernel), in_TB 1576 (by decide +kernel) (by decide +kernel)⟩
theorem wL_49 : CWV RL 49 MX9_lost 2 := ⟨wbX9_lost, in_TB 803 (by decide +kernel) (by decide +kernel), in_TB 804 (by decide +kernel) (by decide +kernel), in_TB 805 (by decide +kernel) (by decide +kernel)⟩
theorem wL_52 : CWV RL 52 MX10_lost 2 := ⟨wbX10_lost, in_TB 1578 (by decide +kernel) (by decide +kernel), in_TB 1579 (by decide +kernel) (by decide +kernel), in_TB 1580 (by decide +kernel) (by decide +kernel)⟩
theorem wL_53 : CWV RL 53 MX9_of 2 := ⟨wbX9_of, in_TB 807 (by decide +kernel) (by decide +kernel), in_TB 808 (by decide +kernel) (by decide +kernel), in_TB 809 (by decide +kernel) (by decide +kernel)⟩
theorem wL_56 : CWV RL 56 MX10_of 2 := ⟨wbX10_of, in_TB 1582 (by decide +kernel) (by decide +kernel), in_TB 1583 (by decide +kernel) (by decide +kernel), in_TB 1584 (by decide +kernel) (by decide +kernel)⟩
theorem wL_57 : CWV RL 57 MX9_empty 1 := ⟨wbX9_empty, in_TB 819 (by decide +kernel) (by decide +kernel), in_TB 820 (by decide +kernel) (by decide +kernel), in_TB 821 (by decide +kernel) (by decide +kernel)⟩
theorem wL_60 : CWV RL 60 MX10_empty 1 := ⟨wbX10_empty, in_TB 1586 (by decide +kernel) (by decide +kernel), in_TB 1587 (by decide +kernel) (by decide +kernel), in_TB 1588 (by decide +kernel) (by decide +kernel)⟩
theorem wL_61 : CWV RL 61 MX9_bears 2 := ⟨wbX9_bears, in_TB 827 (by decide +kernel) (by decide +kernel), in_TB 828 (by decide +kernel) (by decide +kernel), in_TB 829 (by decide +kernel) (by decide +kernel)⟩
theorem wL_64 : CWV RL 64 MX10_bears 2 := ⟨wbX10_bears, in_TB 1594 (by decide +kernel) (by decide +kernel), in_TB 1595 (by decide +kernel) (by decide +kernel), in_TB 1596 (by decide +kernel) (by decide +kernel)⟩
theorem wL_65 : CWV RL 65 MX9_waits 2 := ⟨wbX9_waits, in_TB 835 (by decide +kernel) (by decide +kernel), in_TB 836 (by decide +kernel) (by decide +kernel), in_TB 837 (by decide +kernel) (by decide +kernel)⟩
theorem wL_68 : CWV RL 68 MX10_waits 2 := ⟨wbX10_waits, in_TB 1602 (by decide +kernel) (by decide +kernel), in_TB 1603 (by decide +kernel) (by decide +kernel), in_TB 1604 (by decide +kernel) (by decide +kernel)⟩
theorem wL_69 : CWV RL 69 MX9_chance 4 := ⟨wbX9_chance, in_TB 843 (by decide +kernel) (by decide +kernel), in_TB 844 (by decide +kernel) (by decide +kernel), in_TB 845 (by decide +kernel) (by decide +kernel)⟩
theorem wL_73 : CWV RL 73 MX10_chance 4 := ⟨wbX10_chance, in_TB 1606 (by decide +kernel) (by decide +kernel), in_TB 1607 (by decide +kernel) (by decide +kernel), in_TB 1608 (by decide +kernel) (by decide +kernel)⟩
theorem wL_74 : CWV RL 74 MX9_rounds 1 := ⟨wbX9_rounds, in_TB 855 (by decide +kernel) (by decide +kernel), in_TB 856 (by decide +kernel) (by decide +kernel), in_TB 857 (by decide +kernel) (by decide +kernel)⟩
theorem wL_77 : CWV RL 77 MX10_rounds 1 := ⟨wbX10_rounds, in_TB 1615 (by decide +kernel) (by decide +kernel), in_TB 1616 (by decide +kernel) (by decide +kernel), in_TB 1617 (by decide +kernel) (by decide +kernel)⟩
theorem wL_78 : CWV RL 78 MX9_round 3 := ⟨wbX9_round, in_TB 880 (by decide +kernel) (by decide +kernel), in_TB 881 (by decide +kernel) (by decide +kernel), in_TB 882 (by decide +kernel) (by decide +kernel)⟩
theorem wL_82 : CWV RL 82 MX10_round 3 := ⟨wbX10_round, in_TB 1635 (by decide +kernel) (by decide +kernel), in_TB 1636 (by decide +kernel) (by decide +kernel), in_TB 1637 (by decide +kernel) (by decide +kernel)⟩
theorem wL_83 : CWV RL 83 MX9_aboard 3 := ⟨wbX9_aboard, in_TB 909 (by decide +kernel) (by decide +kernel), in_TB 910 (by decide +kernel) (by decide +kernel), in_TB 911 (by decide +kernel) (by decide +kernel)⟩
theorem wL_86 : CWV RL 86 MX10_aboard 3 := ⟨wbX10_aboard, in_TB 1650 (by decide +kernel) (by decide +kernel), in_TB 1651 (by decide +kernel) (by decide +kernel), in_TB 1652 (by decide +kernel) (by decide +kernel)⟩
theorem wL_87 : CWV RL 87 MX9_miles 1 := ⟨wbX9_miles, in_TB 913 (by decide +kernel) (by decide +kernel), in_TB 914 (by decide +kernel) (by decide +kernel), in_TB 915 (by decide +kernel) (by decide +kernel)⟩
theorem wL_90 : CWV RL 90 MX10_miles 1 := ⟨wbX10_miles, in_TB 1514 (by decide +kernel) (by decide +kernel), in_TB 1515 (by decide +kernel) (by decide +kernel), in_TB 1516 (by decide +kernel) (by decide +kernel)⟩
theorem wL_91 : CWV RL 91 MX9_together 2 := ⟨wbX9_together, in_TB 917 (by decide +kernel) (by decide +kernel), in_TB 918 (by decide +kernel) (by decide +kernel), in_TB 919 (by decide +kernel) (by decide +kernel)⟩
theorem wL_94 : CWV RL 94 MX10_together 2 := ⟨wbX10_together, in_TB 1522 (by decide +kernel) (by decide +kernel), in_TB 1523 (by decide +kernel) (by decide +kernel), in_TB 1524 (by decide +kernel) (by decide +kernel)⟩
theorem wL_95 : CWV RL 95 MX9_savings 2 := ⟨wbX9_savings, in_TB 926 (by decide +kernel) (by decide +kernel), in_TB 927 (by decide +kernel) (by decide +kernel), in_TB 928 (by decide +kernel) (by decide +kernel)⟩
theorem wL_98 : CWV RL 98 MX10_savings 2 := ⟨wbX10_savings, in_TB 1654 (by decide +kernel) (by decide +kernel), in_TB 1655 (by decide +kernel) (by decide +kernel), in_TB 1656 (by decide +kernel) (by decide +kernel)⟩
theorem wL_99 : CWV RL 99 MX9_share 3 := ⟨wbX9_share, in_TB 948 (by decide +kernel) (by decide +kernel), in_TB 949 (by decide +kernel) (by decide +kernel), in_TB 950 (by decide +kernel) (by decide +kernel)⟩
theorem wL_102 : CWV RL 102 MX10_share 3 := ⟨wbX10_share, in_TB 1662 (by decide +kernel) (by decide +kernel), in_TB 1663 (by decide +kernel) (by decide +kernel), in_TB 1664 (by decide +kernel) (by decide +kernel)⟩
theorem wL_103 : CWV RL 103 MX9_peak 1 := ⟨wbX9_peak, in_TB 974 (by decide +kernel) (by decide +kernel), in_TB 975 (by decide +kernel) (by decide +kernel), in_TB 976 (by decide +kernel) (by decide +kernel)⟩
theorem wL_106 : CWV RL 106 MX10_peak 1 := ⟨wbX10_peak, in_TB 1672 (by decide +kernel) (by decide +kernel), in_TB 1673 (by decide +kernel) (by decide +kernel), in_TB 1674 (by decide +kernel) (by decide +kernel)⟩
theorem wL_107 : CWV RL 107 MX9_cost 1 := ⟨wbX9_cost, in_TB 987 (by decide +kernel) (by decide +kernel), in_TB 988 (by decide +kernel) (by decide +kernel), in_TB 989 (by decide +kernel) (by decide +kernel)⟩
theorem wL_110 : CWV RL 110 MX10_cost 1 := ⟨wbX10_cost, in_TB 1676 (by decide +kernel) (by decide +kernel), in_TB 1677 (by decide +kernel) (by decide +kernel), in_TB 1678 (by decide +kernel) (by decide +kernel)⟩
theorem wL_111 : CWV RL 111 MX9_costOf 1 := ⟨wbX9_costOf, in_TB 1019 (by decide +kernel) (by decide +kernel), in_TB 1020 (by decide +kernel) (by decide +kernel), in_TB 1021 (by decide +kernel) (by decide +kernel)⟩
theorem wL_114 : CWV RL 114 MX10_costOf 1 := ⟨wbX10_costOf, in_TB 1704 (by decide +kernel) (by decide +kernel), in_TB 1705 (by decide +kernel) (by decide +kernel), in_TB 1706 (by decide +kernel) (by decide +kernel)⟩
theorem wL_115 : CWV RL 115 MX9_worth 2 := ⟨wbX9_worth, in_TB 1024 (by decide +kernel) (by decide +kernel), in_TB 1025 (by decide +kernel) (by decide +kernel), in_TB 1026 (by decide +kernel) (by decide +kernel)⟩
theorem wL_118 : CWV RL 118 MX10_worth 2 := ⟨wbX10_worth, in_TB 1708 (by decide +kernel) (by decide +kernel), in_TB 1709 (by decide +kernel) (by decide +kernel), in_TB 1710 (by decide +kernel) (by decide +kernel)⟩
theorem wL_119 : CWV RL 119 MX9_truck 1 := ⟨wbX9_truck, in_TB 1038 (by decide +kernel) (by decide +kernel), in_TB 1039 (by decide +kernel) (by decide +kernel), in_TB 1040 (by decide +kernel) (by decide +kernel)⟩
theorem wL_122 : CWV RL 122 MX10_truck 1 := ⟨wbX10_truck, in_TB 1712 (by decide +kernel) (by decide +kernel), in_TB 1713 (by decide +kernel) (by decide +kernel), in_TB 1714 (by decide +kernel) (by decide +kernel)⟩
theorem wL_123 : CWV RL 123 MX9_reach 0 := ⟨wbX9_reach, in_TB 1054 (by decide +kernel) (by decide +kernel), in_TB 1055 (by decide +kernel) (by decide +kernel), in_TB 1056 (by decide +kernel) (by decide +kernel)⟩
theorem wL_126 : CWV RL 126 MX10_reach 0 := ⟨wbX10_reach, in_TB 1716 (by decide +kernel) (by decide +kernel), in_TB 1717 (by decide +kernel) (by decide +kernel), in_TB 1718 (by decide +kernel) (by decide +kernel)⟩
theorem wL_127 : CWV RL 127 MX9_scaled 1 := ⟨wbX9_scaled, in_TB 1066 (by decide +kernel) (by decide +kernel), in_TB 1067 (by decide +kernel) (by decide +kernel), in_TB 1068 (by decide +kernel) (by decide +kernel)⟩
theorem wL_130 : CWV RL 130 MX10_scaled 1 := ⟨wbX10_scaled, in_TB 1720 (by decide +kernel) (by decide +kernel), in_TB 1721 (by decide +kernel) (by decide +kernel), in_TB 1722 (by decide +kernel) (by decide +kernel)⟩
theorem wL_131 : CWV RL 131 MX9_alone 2 := ⟨wbX9_alone, in_TB 1070 (by decide +kernel) (by decide +kernel), in_TB 1071 (by decide +kernel) (by decide +kernel), in_TB 1072 (by decide +kernel) (by decide +kernel)⟩
theorem wL_134 : CWV RL 134 MX10_alone 2 := ⟨wbX10_alone, in_TB 1724 (by decide +kernel) (by decide +kernel), in_TB 1725 (by decide +kernel) (by decide +kernel), in_TB 1726 (by decide +kernel) (by decide +kernel)⟩
theorem wL_135 : CWV RL 135 MX9_every 2 := ⟨wbX9_every, in_TB 1113 (by decide +kernel) (by decide +kernel), in_TB 1114 (by decide +kernel) (by decide +kernel), in_TB 1115 (by decide +kernel) (by decide +kernel)⟩
theorem wL_138 : CWV RL 138 MX10_every 2 := ⟨wbX10_every, in_TB 1732 (by decide +kernel) (by decide +kernel), in_TB 1733 (by decide +kernel) (by decide +kernel), in_TB 1734 (by decide +kernel) (by decide +kernel)⟩
theorem wL_139 : CWV RL 139 MX9_joint 1 := ⟨wbX9_joint, in_TB 1134 (by decide +kernel) (by decide +kernel), in_TB 1135 (by decide +kernel) (by decide +kernel), in_TB 1136 (by decide +kernel) (by decide +kernel)⟩
theorem wL_142 : CWV RL 142 MX10_joint 1 := ⟨wbX10_joint, in_TB 1740 (by decide +kernel) (by decide +kernel), in_TB 1741 (by decide +kernel) (by decide +kernel), in_TB 1742 (by decide +kernel) (by decide +kernel)⟩
theorem wL_143 : CWV RL 143 MX9_visit 2 := ⟨wbX9_visit, in_TB 1138 (by decide +kernel) (by decide +kernel), in_TB 1139 (by decide +kernel) (by decide +kernel), in_TB 1140 (by decide +kernel) (by decide +kernel)⟩
theorem wL_146 : CWV RL 146 MX10_visit 2 := ⟨wbX10_visit, in_TB 1760 (by decide +kernel) (by decide +kernel), in_TB 1761 (by decide +kernel) (by decide +kernel), in_TB 1762 (by decide +kernel) (by decide +kernel)⟩
theorem wL_147 : CWV RL 147 MX9_rule 1 := ⟨wbX9_rule, in_TB 1151 (by decide +kernel) (by decide +kernel), in_TB 1152 (by decide +kernel) (by decide +kernel), in_TB 1153 (by decide +kernel) (by decide +kernel)⟩
theorem wL_150 : CWV RL 150 MX10_rule 1 := ⟨wbX10_rule, in_TB 1768 (by decide +kernel) (by decide +kernel), in_TB 1769 (by decide +kernel) (by decide +kernel), in_TB 1770 (by decide +kernel) (by decide +kernel)⟩
theorem wL_151 : CWV RL 151 MX9_better 1 := ⟨wbX9_better, in_TB 1179 (by decide +kernel) (by decide +kernel), in_TB 1180 (by decide +kernel) (by decide +kernel), in_TB 1181 (by decide +kernel) (by decide +kernel)⟩
theorem wL_154 : CWV RL 154 MX10_better 1 := ⟨wbX10_better, in_TB 1784 (by decide +kernel) (by decide +kernel), in_TB 1785 (by decide +kernel) (by decide +kernel), in_TB 1786 (by decide +kernel) (by decide +kernel)⟩
theorem wL_155 : CWV RL 155 MX9_tune 1 := ⟨wbX9_tune, in_TB 1198 (by decide +kernel) (by decide +kernel), in_TB 1199 (by decide +kernel) (by decide +kernel), in_TB 1200 (by decide +kernel) (by decide +kernel)⟩
theorem wL_158 : CWV RL 158 MX10_tune 1 := ⟨wbX10_tune, in_TB 1808 (by decide +kernel) (by decide +kernel), in_TB 1809 (by decide +kernel) (by decide +kernel), in_TB 1810 (by decide +kernel) (by decide +kernel)⟩
theorem wL_159 : CWV RL 159 MX9_least 0 := ⟨wbX9_least, in_TB 1206 (by decide +kernel) (by decide +kernel), in_TB 1207 (by decide +kernel) (by decide +kernel), in_TB 1208 (by decide +kernel) (by decide +kernel)⟩
theorem wL_162 : CWV RL 162 MX10_least 0 := ⟨wbX10_least, in_TB 1812 (by decide +kernel) (by decide +kernel), in_TB 1813 (by decide +kernel) (by decide +kernel), in_TB 1814 (by decide +kernel) (by decide +kernel)⟩
theorem wL_163 : CWV RL 163 MX9_clear 0 := ⟨wbX9_clear, in_TB 1225 (by decide +kernel) (by decide +kernel), in_TB 1226 (by decide +kernel) (by decide +kernel), in_TB 1227 (by decide +kernel) (by decide +kernel)⟩
theorem wL_166 : CWV RL 166 MX10_clear 0 := ⟨wbX10_clear, in_TB 1820 (by decide +kernel) (by decide +kernel), in_TB 1821 (by decide +kernel) (by decide +kernel), in_TB 1822 (by decide +kernel) (by decide +kernel)⟩
theorem wL_167 : CWV RL 167 MX9_rush 3 := ⟨wbX9_rush, in_TB 1230 (by decide +kernel) (by decide +kernel), in_TB 1231 (by decide +kernel) (by decide +kernel), in_TB 1232 (by decide +kernel) (by decide +kernel)⟩
theorem wL_170 : CWV RL 170 MX10_rush 3 := ⟨wbX10_rush, in_TB 1824 (by decide +kernel) (by decide +kernel), in_TB 1825 (by decide +kernel) (by decide +kernel), in_TB 1826 (by decide +kernel) (by decide +kernel)⟩
theorem wL_171 : CWV RL 171 MX9_undo 0 := ⟨wbX9_undo, in_TB 1235 (by decide +kernel) (by decide +kernel), in_TB 1236 (by decide +kernel) (by decide +kernel), in_TB 1237 (by decide +kernel) (by decide +kernel)⟩
theorem wL_175 : CWV RL 175 MX10_undo 0 := ⟨wbX10_undo, in_TB 1752 (by decide +kernel) (by decide +kernel), in_TB 1753 (by decide +kernel) (by decide +kernel), in_TB 1754 (by decide +kernel) (by decide +kernel)⟩
