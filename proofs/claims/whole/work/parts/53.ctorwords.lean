theorem wArr : Cond.arrayClass .int ∈ TB := in_TB 250 (by decide +kernel) (by decide +kernel)
def MX0_init : MI := (yX0_init, cX0_init, 1, none, { frames := 1, cells := 1, slots := 84, locals := 20 })
theorem wbX0_init : CWb MX0_init 0 := ⟨in_TB 126 (by decide +kernel) (by decide +kernel), in_TB 534 (by decide +kernel) (by decide +kernel), ⟨by decide +kernel, by decide +kernel⟩, by decide +kernel⟩
def MX1_init : MI := (yX1_init, cX1_init, 3, none, { frames := 1, cells := 5, slots := 60, locals := 20 })
theorem wbX1_init : CWb MX1_init 2 := ⟨in_TB 125 (by decide +kernel) (by decide +kernel), in_TB 506 (by decide +kernel) (by decide +kernel), ⟨by decide +kernel, by decide +kernel⟩, by decide +kernel⟩
def MX2_init : MI := (yX2_init, cX2_init, 2, none, { frames := 1, cells := 5, slots := 320, locals := 20 })
theorem wbX2_init : CWb MX2_init 1 := ⟨in_TB 121 (by decide +kernel) (by decide +kernel), in_TB 385 (by decide +kernel) (by decide +kernel), ⟨by decide +kernel, by decide +kernel⟩, by decide +kernel⟩
def MX3_init : MI := (yX3_init, cX3_init, 2, none, { frames := 1, cells := 0, slots := 0, locals := 20 })
theorem wbX3_init : CWb MX3_init 1 := ⟨in_TB 124 (by decide +kernel) (by decide +kernel), in_TB 484 (by decide +kernel) (by decide +kernel), ⟨by decide +kernel, by decide +kernel⟩, by decide +kernel⟩
def MX4_init : MI := (yX4_init, cX4_init, 5, none, { frames := 4, cells := 14, slots := 2578, locals := 85 })
theorem wbX4_init : CWb MX4_init 0 := ⟨in_TB 115 (by decide +kernel) (by decide +kernel), in_TB 255 (by decide +kernel) (by decide +kernel), ⟨by decide +kernel, by decide +kernel⟩, by decide +kernel⟩
def MX5_init : MI := (yX5_init, cX5_init, 3, none, { frames := 1, cells := 7, slots := 362, locals := 20 })
theorem wbX5_init : CWb MX5_init 2 := ⟨in_TB 123 (by decide +kernel) (by decide +kernel), in_TB 436 (by decide +kernel) (by decide +kernel), ⟨by decide +kernel, by decide +kernel⟩, by decide +kernel⟩
def MX6_init : MI := (yX6_init, cX6_init, 3, none, { frames := 1, cells := 2, slots := 12, locals := 20 })
theorem wbX6_init : CWb MX6_init 2 := ⟨in_TB 122 (by decide +kernel) (by decide +kernel), in_TB 413 (by decide +kernel) (by decide +kernel), ⟨by decide +kernel, by decide +kernel⟩, by decide +kernel⟩
def MX7_init : MI := (yX7_init, cX7_init, 1, none, { frames := 2, cells := 7, slots := 134, locals := 43 })
theorem wbX7_init : CWb MX7_init 0 := ⟨in_TB 113 (by decide +kernel) (by decide +kernel), in_TB 143 (by decide +kernel) (by decide +kernel), ⟨by decide +kernel, by decide +kernel⟩, by decide +kernel⟩
def MX8_init : MI := (yX8_init, cX8_init, 1, none, { frames := 1, cells := 3, slots := 503, locals := 20 })
theorem wbX8_init : CWb MX8_init 0 := ⟨in_TB 120 (by decide +kernel) (by decide +kernel), in_TB 365 (by decide +kernel) (by decide +kernel), ⟨by decide +kernel, by decide +kernel⟩, by decide +kernel⟩
def MX9_init : MI := (yX9_init, cX9_init, 1, none, { frames := 5, cells := 63, slots := 5302, locals := 114 })
theorem wbX9_init : CWb MX9_init 0 := ⟨in_TB 112 (by decide +kernel) (by decide +kernel), in_TB 135 (by decide +kernel) (by decide +kernel), ⟨by decide +kernel, by decide +kernel⟩, by decide +kernel⟩
def MX10_init : MI := (yX10_init, cX10_init, 1, none, { frames := 1, cells := 27, slots := 2466, locals := 20 })
theorem wbX10_init : CWb MX10_init 0 := ⟨in_TB 128 (by decide +kernel) (by decide +kernel), in_TB 1259 (by decide +kernel) (by decide +kernel), ⟨by decide +kernel, by decide +kernel⟩, by decide +kernel⟩
theorem wOX0 : CWO RX0 3 := ⟨in_TB 535 (by decide +kernel) (by decide +kernel), in_TB 137 (by decide +kernel) (by decide +kernel), in_TB 138 (by decide +kernel) (by decide +kernel)⟩
theorem wOX1 : CWO RX1 3 := ⟨in_TB 507 (by decide +kernel) (by decide +kernel), in_TB 137 (by decide +kernel) (by decide +kernel), in_TB 138 (by decide +kernel) (by decide +kernel)⟩
theorem wOX2 : CWO RX2 3 := ⟨in_TB 386 (by decide +kernel) (by decide +kernel), in_TB 137 (by decide +kernel) (by decide +kernel), in_TB 138 (by decide +kernel) (by decide +kernel)⟩
theorem wOX3 : CWO RX3 3 := ⟨in_TB 485 (by decide +kernel) (by decide +kernel), in_TB 137 (by decide +kernel) (by decide +kernel), in_TB 138 (by decide +kernel) (by decide +kernel)⟩
theorem wOX4 : CWO RX4 3 := ⟨in_TB 256 (by decide +kernel) (by decide +kernel), in_TB 137 (by decide +kernel) (by decide +kernel), in_TB 138 (by decide +kernel) (by decide +kernel)⟩
theorem wNX4_9 : CWK RX4 9 7 15 RX7 TX7 tyX7 := ⟨rfl, iwX7, tyX7_ok, in_TB 257 (by decide +kernel) (by decide +kernel), in_TB 140 (by decide +kernel) (by decide +kernel), in_TB 113 (by decide +kernel) (by decide +kernel)⟩
theorem wIX4_11 : CWI RX4 11 MX7_init 0 := ⟨wbX7_init, in_TB 258 (by decide +kernel) (by decide +kernel), in_TB 142 (by decide +kernel) (by decide +kernel), rfl, rfl⟩
theorem wOX5 : CWO RX5 3 := ⟨in_TB 437 (by decide +kernel) (by decide +kernel), in_TB 137 (by decide +kernel) (by decide +kernel), in_TB 138 (by decide +kernel) (by decide +kernel)⟩
theorem wOX6 : CWO RX6 3 := ⟨in_TB 414 (by decide +kernel) (by decide +kernel), in_TB 137 (by decide +kernel) (by decide +kernel), in_TB 138 (by decide +kernel) (by decide +kernel)⟩
theorem wOX7 : CWO RX7 3 := ⟨in_TB 144 (by decide +kernel) (by decide +kernel), in_TB 137 (by decide +kernel) (by decide +kernel), in_TB 138 (by decide +kernel) (by decide +kernel)⟩
theorem wOX8 : CWO RX8 3 := ⟨in_TB 366 (by decide +kernel) (by decide +kernel), in_TB 137 (by decide +kernel) (by decide +kernel), in_TB 138 (by decide +kernel) (by decide +kernel)⟩
theorem wOX9 : CWO RX9 3 := ⟨in_TB 136 (by decide +kernel) (by decide +kernel), in_TB 137 (by decide +kernel) (by decide +kernel), in_TB 138 (by decide +kernel) (by decide +kernel)⟩
theorem wNX9_17 : CWK RX9 17 7 15 RX7 TX7 tyX7 := ⟨rfl, iwX7, tyX7_ok, in_TB 139 (by decide +kernel) (by decide +kernel), in_TB 140 (by decide +kernel) (by decide +kernel), in_TB 113 (by decide +kernel) (by decide +kernel)⟩
theorem wIX9_19 : CWI RX9 19 MX7_init 0 := ⟨wbX7_init, in_TB 141 (by decide +kernel) (by decide +kernel), in_TB 142 (by decide +kernel) (by decide +kernel), rfl, rfl⟩
theorem wNX9_24 : CWK RX9 24 4 15 RX4 TX4 tyX4 := ⟨rfl, iwX4, tyX4_ok, in_TB 251 (by decide +kernel) (by decide +kernel), in_TB 252 (by decide +kernel) (by decide +kernel), in_TB 115 (by decide +kernel) (by decide +kernel)⟩
theorem wIX9_26 : CWI RX9 26 MX4_init 0 := ⟨wbX4_init, in_TB 253 (by decide +kernel) (by decide +kernel), in_TB 254 (by decide +kernel) (by decide +kernel), rfl, rfl⟩
theorem wNX9_31 : CWK RX9 31 8 4 RX8 TX8 tyX8 := ⟨rfl, iwX8, tyX8_ok, in_TB 361 (by decide +kernel) (by decide +kernel), in_TB 362 (by decide +kernel) (by decide +kernel), in_TB 120 (by decide +kernel) (by decide +kernel)⟩
theorem wIX9_33 : CWI RX9 33 MX8_init 0 := ⟨wbX8_init, in_TB 363 (by decide +kernel) (by decide +kernel), in_TB 364 (by decide +kernel) (by decide +kernel), rfl, rfl⟩
theorem wNX9_38 : CWK RX9 38 2 7 RX2 TX2 tyX2 := ⟨rfl, iwX2, tyX2_ok, in_TB 381 (by decide +kernel) (by decide +kernel), in_TB 382 (by decide +kernel) (by decide +kernel), in_TB 121 (by decide +kernel) (by decide +kernel)⟩
theorem wIX9_40 : CWI RX9 40 MX2_init 1 := ⟨wbX2_init, in_TB 383 (by decide +kernel) (by decide +kernel), in_TB 384 (by decide +kernel) (by decide +kernel), rfl, rfl⟩
theorem wNX9_47 : CWK RX9 47 6 5 RX6 TX6 tyX6 := ⟨rfl, iwX6, tyX6_ok, in_TB 409 (by decide +kernel) (by decide +kernel), in_TB 410 (by decide +kernel) (by decide +kernel), in_TB 122 (by decide +kernel) (by decide +kernel)⟩
theorem wIX9_49 : CWI RX9 49 MX6_init 2 := ⟨wbX6_init, in_TB 411 (by decide +kernel) (by decide +kernel), in_TB 412 (by decide +kernel) (by decide +kernel), rfl, rfl⟩
theorem wNX9_56 : CWK RX9 56 5 11 RX5 TX5 tyX5 := ⟨rfl, iwX5, tyX5_ok, in_TB 432 (by decide +kernel) (by decide +kernel), in_TB 433 (by decide +kernel) (by decide +kernel), in_TB 123 (by decide +kernel) (by decide +kernel)⟩
theorem wIX9_58 : CWI RX9 58 MX5_init 2 := ⟨wbX5_init, in_TB 434 (by decide +kernel) (by decide +kernel), in_TB 435 (by decide +kernel) (by decide +kernel), rfl, rfl⟩
theorem wNX9_66 : CWK RX9 66 3 4 RX3 TX3 tyX3 := ⟨rfl, iwX3, tyX3_ok, in_TB 480 (by decide +kernel) (by decide +kernel), in_TB 481 (by decide +kernel) (by decide +kernel), in_TB 124 (by decide +kernel) (by decide +kernel)⟩
theorem wIX9_68 : CWI RX9 68 MX3_init 1 := ⟨wbX3_init, in_TB 482 (by decide +kernel) (by decide +kernel), in_TB 483 (by decide +kernel) (by decide +kernel), rfl, rfl⟩
theorem wNX9_73 : CWK RX9 73 1 7 RX1 TX1 tyX1 := ⟨rfl, iwX1, tyX1_ok, in_TB 502 (by decide +kernel) (by decide +kernel), in_TB 503 (by decide +kernel) (by decide +kernel), in_TB 125 (by decide +kernel) (by decide +kernel)⟩
theorem wIX9_75 : CWI RX9 75 MX1_init 2 := ⟨wbX1_init, in_TB 504 (by decide +kernel) (by decide +kernel), in_TB 505 (by decide +kernel) (by decide +kernel), rfl, rfl⟩
theorem wNX9_80 : CWK RX9 80 0 2 RX0 TX0 tyX0 := ⟨rfl, iwX0, tyX0_ok, in_TB 530 (by decide +kernel) (by decide +kernel), in_TB 531 (by decide +kernel) (by decide +kernel), in_TB 126 (by decide +kernel) (by decide +kernel)⟩
theorem wIX9_82 : CWI RX9 82 MX0_init 0 := ⟨wbX0_init, in_TB 532 (by decide +kernel) (by decide +kernel), in_TB 533 (by decide +kernel) (by decide +kernel), rfl, rfl⟩
theorem wOX10 : CWO RX10 1 := ⟨in_TB 1260 (by decide +kernel) (by decide +kernel), in_TB 137 (by decide +kernel) (by decide +kernel), in_TB 138 (by decide +kernel) (by decide +kernel)⟩
theorem wNL_7 : CWK RL 7 9 13 RX9 TX9 tyX9 := ⟨rfl, iwX9, tyX9_ok, in_TB 131 (by decide +kernel) (by decide +kernel), in_TB 132 (by decide +kernel) (by decide +kernel), in_TB 112 (by decide +kernel) (by decide +kernel)⟩
theorem wIL_9 : CWI RL 9 MX9_init 0 := ⟨wbX9_init, in_TB 133 (by decide +kernel) (by decide +kernel), in_TB 134 (by decide +kernel) (by decide +kernel), rfl, rfl⟩
theorem wNL_10 : CWK RL 10 10 40 RX10 TX10 tyX10 := ⟨rfl, iwX10, tyX10_ok, in_TB 1255 (by decide +kernel) (by decide +kernel), in_TB 1256 (by decide +kernel) (by decide +kernel), in_TB 128 (by decide +kernel) (by decide +kernel)⟩
theorem wIL_12 : CWI RL 12 MX10_init 0 := ⟨wbX10_init, in_TB 1257 (by decide +kernel) (by decide +kernel), in_TB 1258 (by decide +kernel) (by decide +kernel), rfl, rfl⟩
theorem c_bipush_49 : (Int8.ofInt (49)).toInt32 = (49 : Int32) := by decide
theorem ix_1 : (1 : Int32).toNatClampNeg = 1 ∧ ¬ (1 : Int32) < 0 := by decide
theorem ix_2 : (2 : Int32).toNatClampNeg = 2 ∧ ¬ (2 : Int32) < 0 := by decide
theorem ix_3 : (3 : Int32).toNatClampNeg = 3 ∧ ¬ (3 : Int32) < 0 := by decide
theorem ix_4 : (4 : Int32).toNatClampNeg = 4 ∧ ¬ (4 : Int32) < 0 := by decide
theorem ix_5 : (5 : Int32).toNatClampNeg = 5 ∧ ¬ (5 : Int32) < 0 := by decide
theorem ix_7 : (7 : Int32).toNatClampNeg = 7 ∧ ¬ (7 : Int32) < 0 := by decide
theorem ix_20 : (20 : Int32).toNatClampNeg = 20 ∧ ¬ (20 : Int32) < 0 := by decide
theorem ix_24 : (24 : Int32).toNatClampNeg = 24 ∧ ¬ (24 : Int32) < 0 := by decide
theorem ix_49 : (49 : Int32).toNatClampNeg = 49 ∧ ¬ (49 : Int32) < 0 := by decide
theorem ix_64 : (64 : Int32).toNatClampNeg = 64 ∧ ¬ (64 : Int32) < 0 := by decide
theorem ix_84 : (84 : Int32).toNatClampNeg = 84 ∧ ¬ (84 : Int32) < 0 := by decide
theorem ix_256 : (256 : Int32).toNatClampNeg = 256 ∧ ¬ (256 : Int32) < 0 := by decide
theorem ix_448 : (448 : Int32).toNatClampNeg = 448 ∧ ¬ (448 : Int32) < 0 := by decide
theorem ix_800 : (800 : Int32).toNatClampNeg = 800 ∧ ¬ (800 : Int32) < 0 := by decide
theorem ix_801 : (801 : Int32).toNatClampNeg = 801 ∧ ¬ (801 : Int32) < 0 := by decide
theorem c_sipush_256 : (Int16.ofInt (256)).toInt32 = (256 : Int32) := by decide
theorem c_sipush_448 : (Int16.ofInt (448)).toInt32 = (448 : Int32) := by decide
theorem c_sipush_801 : (Int16.ofInt (801)).toInt32 = (801 : Int32) := by decide
