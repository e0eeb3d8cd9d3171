/-! String.length(), String.charAt(k) of the constant -/
theorem eJ0_length_8abf5_0 : Dec cJ0_length_8abf5 0 (.aload_n 0) 1 1 := ⟨by decide +kernel, rfl⟩
theorem eJ0_length_8abf5_1 : Dec cJ0_length_8abf5 1 (.getfield 9) 3 4 := ⟨by decide +kernel, rfl⟩
theorem eJ0_length_8abf5_4 : Dec cJ0_length_8abf5 4 .arraylength 1 5 := ⟨by decide +kernel, rfl⟩
theorem eJ0_length_8abf5_5 : Dec cJ0_length_8abf5 5 (.aload_n 0) 1 6 := ⟨by decide +kernel, rfl⟩
theorem eJ0_length_8abf5_6 : Dec cJ0_length_8abf5 6 (.invokevirtual 335) 3 9 := ⟨by decide +kernel, rfl⟩
theorem eJ0_length_8abf5_9 : Dec cJ0_length_8abf5 9 .ishr 1 10 := ⟨by decide +kernel, rfl⟩
theorem eJ0_length_8abf5_10 : Dec cJ0_length_8abf5 10 .ireturn 1 11 := ⟨by decide +kernel, rfl⟩
def MJ0_length_8abf5 : MI := (yJ0_length_8abf5, cJ0_length_8abf5, 1, (some .int), { frames := 1, cells := 0, slots := 0, locals := 20 })
theorem wbJ0_length_8abf5 : CWb MJ0_length_8abf5 0 := ⟨in_TB 116 (by decide +kernel) (by decide +kernel), in_TB 263 (by decide +kernel) (by decide +kernel), ⟨by decide +kernel, by decide +kernel⟩, by decide +kernel⟩
theorem eJ0_charAt_5068e_0 : Dec cJ0_charAt_5068e 0 (.aload_n 0) 1 1 := ⟨by decide +kernel, rfl⟩
theorem eJ0_charAt_5068e_1 : Dec cJ0_charAt_5068e 1 (.invokevirtual 492) 3 4 := ⟨by decide +kernel, rfl⟩
theorem eJ0_charAt_5068e_4 : Jmp cJ0_charAt_5068e 4 (.ifCond .eq 12) 12 7 16 := ⟨by decide +kernel, rfl, rfl⟩
theorem eJ0_charAt_5068e_7 : Dec cJ0_charAt_5068e 7 (.aload_n 0) 1 8 := ⟨by decide +kernel, rfl⟩
theorem eJ0_charAt_5068e_8 : Dec cJ0_charAt_5068e 8 (.getfield 9) 3 11 := ⟨by decide +kernel, rfl⟩
theorem eJ0_charAt_5068e_11 : Dec cJ0_charAt_5068e 11 (.iload_n 1) 1 12 := ⟨by decide +kernel, rfl⟩
theorem eJ0_charAt_5068e_12 : Dec cJ0_charAt_5068e 12 (.invokestatic 495) 3 15 := ⟨by decide +kernel, rfl⟩
theorem eJ0_charAt_5068e_15 : Dec cJ0_charAt_5068e 15 .ireturn 1 16 := ⟨by decide +kernel, rfl⟩
theorem eJ0_charAt_5068e_16 : Dec cJ0_charAt_5068e 16 (.aload_n 0) 1 17 := ⟨by decide +kernel, rfl⟩
theorem eJ0_charAt_5068e_17 : Dec cJ0_charAt_5068e 17 (.getfield 9) 3 20 := ⟨by decide +kernel, rfl⟩
theorem eJ0_charAt_5068e_20 : Dec cJ0_charAt_5068e 20 (.iload_n 1) 1 21 := ⟨by decide +kernel, rfl⟩
theorem eJ0_charAt_5068e_21 : Dec cJ0_charAt_5068e 21 (.invokestatic 498) 3 24 := ⟨by decide +kernel, rfl⟩
theorem eJ0_charAt_5068e_24 : Dec cJ0_charAt_5068e 24 .ireturn 1 25 := ⟨by decide +kernel, rfl⟩
def MJ0_charAt_5068e : MI := (yJ0_charAt_5068e, cJ0_charAt_5068e, 2, (some .char), { frames := 3, cells := 0, slots := 0, locals := 64 })
theorem wbJ0_charAt_5068e : CWb MJ0_charAt_5068e 1 := ⟨in_TB 116 (by decide +kernel) (by decide +kernel), in_TB 273 (by decide +kernel) (by decide +kernel), ⟨by decide +kernel, by decide +kernel⟩, by decide +kernel⟩
theorem eJ0_coder_7d493_0 : Dec cJ0_coder_7d493 0 (.getstatic 38) 3 3 := ⟨by decide +kernel, rfl⟩
theorem eJ0_coder_7d493_3 : Jmp cJ0_coder_7d493 3 (.ifCond .eq 10) 10 6 13 := ⟨by decide +kernel, rfl, rfl⟩
theorem eJ0_coder_7d493_6 : Dec cJ0_coder_7d493 6 (.aload_n 0) 1 7 := ⟨by decide +kernel, rfl⟩
theorem eJ0_coder_7d493_7 : Dec cJ0_coder_7d493 7 (.getfield 15) 3 10 := ⟨by decide +kernel, rfl⟩
theorem eJ0_coder_7d493_10 : Jmp cJ0_coder_7d493 10 (.goto 4) 4 13 14 := ⟨by decide +kernel, rfl, rfl⟩
theorem eJ0_coder_7d493_13 : Dec cJ0_coder_7d493 13 (.iconst 1) 1 14 := ⟨by decide +kernel, rfl⟩
theorem eJ0_coder_7d493_14 : Dec cJ0_coder_7d493 14 .ireturn 1 15 := ⟨by decide +kernel, rfl⟩
def MJ0_coder_7d493 : MI := (yJ0_coder_7d493, cJ0_coder_7d493, 1, (some .byte), { frames := 0, cells := 0, slots := 0, locals := 0 })
theorem wbJ0_coder_7d493 : CWb MJ0_coder_7d493 0 := ⟨in_TB 116 (by decide +kernel) (by decide +kernel), in_TB 267 (by decide +kernel) (by decide +kernel), ⟨by decide +kernel, by decide +kernel⟩, by decide +kernel⟩
theorem eJ0_isLatin1_aae02_0 : Dec cJ0_isLatin1_aae02 0 (.getstatic 38) 3 3 := ⟨by decide +kernel, rfl⟩
theorem eJ0_isLatin1_aae02_3 : Jmp cJ0_isLatin1_aae02 3 (.ifCond .eq 14) 14 6 17 := ⟨by decide +kernel, rfl, rfl⟩
theorem eJ0_isLatin1_aae02_6 : Dec cJ0_isLatin1_aae02 6 (.aload_n 0) 1 7 := ⟨by decide +kernel, rfl⟩
theorem eJ0_isLatin1_aae02_7 : Dec cJ0_isLatin1_aae02 7 (.getfield 15) 3 10 := ⟨by decide +kernel, rfl⟩
theorem eJ0_isLatin1_aae02_10 : Jmp cJ0_isLatin1_aae02 10 (.ifCond .ne 7) 7 13 17 := ⟨by decide +kernel, rfl, rfl⟩
theorem eJ0_isLatin1_aae02_13 : Dec cJ0_isLatin1_aae02 13 (.iconst 1) 1 14 := ⟨by decide +kernel, rfl⟩
theorem eJ0_isLatin1_aae02_14 : Jmp cJ0_isLatin1_aae02 14 (.goto 4) 4 17 18 := ⟨by decide +kernel, rfl, rfl⟩
theorem eJ0_isLatin1_aae02_17 : Dec cJ0_isLatin1_aae02 17 (.iconst 0) 1 18 := ⟨by decide +kernel, rfl⟩
theorem eJ0_isLatin1_aae02_18 : Dec cJ0_isLatin1_aae02 18 .ireturn 1 19 := ⟨by decide +kernel, rfl⟩
def MJ0_isLatin1_aae02 : MI := (yJ0_isLatin1_aae02, cJ0_isLatin1_aae02, 1, (some .boolean), { frames := 0, cells := 0, slots := 0, locals := 0 })
theorem wbJ0_isLatin1_aae02 : CWb MJ0_isLatin1_aae02 0 := ⟨in_TB 116 (by decide +kernel) (by decide +kernel), in_TB 277 (by decide +kernel) (by decide +kernel), ⟨by decide +kernel, by decide +kernel⟩, by decide +kernel⟩
theorem eJ0_checkIndex_df160_0 : Dec cJ0_checkIndex_df160 0 (.iload_n 0) 1 1 := ⟨by decide +kernel, rfl⟩
theorem eJ0_checkIndex_df160_1 : Dec cJ0_checkIndex_df160 1 (.iload_n 1) 1 2 := ⟨by decide +kernel, rfl⟩
theorem eJ0_checkIndex_df160_2 : Dec cJ0_checkIndex_df160 2 (.getstatic 1053) 3 5 := ⟨by decide +kernel, rfl⟩
theorem eJ0_checkIndex_df160_5 : Dec cJ0_checkIndex_df160 5 (.invokestatic 1059) 3 8 := ⟨by decide +kernel, rfl⟩
theorem eJ0_checkIndex_df160_8 : Dec cJ0_checkIndex_df160 8 .pop 1 9 := ⟨by decide +kernel, rfl⟩
theorem eJ0_checkIndex_df160_9 : Dec cJ0_checkIndex_df160 9 .return_ 1 10 := ⟨by decide +kernel, rfl⟩
def MJ0_checkIndex_df160 : MI := (yJ0_checkIndex_df160, cJ0_checkIndex_df160, 2, none, { frames := 1, cells := 0, slots := 0, locals := 22 })
theorem wbJ0_checkIndex_df160 : CWb MJ0_checkIndex_df160 2 := ⟨in_TB 116 (by decide +kernel) (by decide +kernel), in_TB 283 (by decide +kernel) (by decide +kernel), ⟨by decide +kernel, by decide +kernel⟩, by decide +kernel⟩
theorem eJ1_charAt_3b067_0 : Dec cJ1_charAt_3b067 0 (.iload_n 1) 1 1 := ⟨by decide +kernel, rfl⟩
theorem eJ1_charAt_3b067_1 : Dec cJ1_charAt_3b067 1 (.aload_n 0) 1 2 := ⟨by decide +kernel, rfl⟩
theorem eJ1_charAt_3b067_2 : Dec cJ1_charAt_3b067 2 .arraylength 1 3 := ⟨by decide +kernel, rfl⟩
theorem eJ1_charAt_3b067_3 : Dec cJ1_charAt_3b067 3 (.invokestatic 9) 3 6 := ⟨by decide +kernel, rfl⟩
theorem eJ1_charAt_3b067_6 : Dec cJ1_charAt_3b067 6 (.aload_n 0) 1 7 := ⟨by decide +kernel, rfl⟩
theorem eJ1_charAt_3b067_7 : Dec cJ1_charAt_3b067 7 (.iload_n 1) 1 8 := ⟨by decide +kernel, rfl⟩
theorem eJ1_charAt_3b067_8 : Dec cJ1_charAt_3b067 8 .baload 1 9 := ⟨by decide +kernel, rfl⟩
theorem eJ1_charAt_3b067_9 : Dec cJ1_charAt_3b067 9 (.sipush 255) 3 12 := ⟨by decide +kernel, rfl⟩
theorem eJ1_charAt_3b067_12 : Dec cJ1_charAt_3b067 12 .iand 1 13 := ⟨by decide +kernel, rfl⟩
theorem eJ1_charAt_3b067_13 : Dec cJ1_charAt_3b067 13 .i2c 1 14 := ⟨by decide +kernel, rfl⟩
theorem eJ1_charAt_3b067_14 : Dec cJ1_charAt_3b067 14 .ireturn 1 15 := ⟨by decide +kernel, rfl⟩
def MJ1_charAt_3b067 : MI := (yJ1_charAt_3b067, cJ1_charAt_3b067, 2, (some .char), { frames := 2, cells := 0, slots := 0, locals := 43 })
theorem wbJ1_charAt_3b067 : CWb MJ1_charAt_3b067 2 := ⟨in_TB 117 (by decide +kernel) (by decide +kernel), in_TB 280 (by decide +kernel) (by decide +kernel), ⟨by decide +kernel, by decide +kernel⟩, by decide +kernel⟩
theorem eJ3_checkIndex_8e157_0 : Dec cJ3_checkIndex_8e157 0 (.iload_n 0) 1 1 := ⟨by decide +kernel, rfl⟩
theorem eJ3_checkIndex_8e157_1 : Jmp cJ3_checkIndex_8e157 1 (.ifCond .lt 8) 8 4 9 := ⟨by decide +kernel, rfl, rfl⟩
theorem eJ3_checkIndex_8e157_4 : Dec cJ3_checkIndex_8e157 4 (.iload_n 0) 1 5 := ⟨by decide +kernel, rfl⟩
theorem eJ3_checkIndex_8e157_5 : Dec cJ3_checkIndex_8e157 5 (.iload_n 1) 1 6 := ⟨by decide +kernel, rfl⟩
theorem eJ3_checkIndex_8e157_6 : Jmp cJ3_checkIndex_8e157 6 (.if_icmp .lt 10) 10 9 16 := ⟨by decide +kernel, rfl, rfl⟩
theorem eJ3_checkIndex_8e157_9 : Dec cJ3_checkIndex_8e157 9 (.aload_n 2) 1 10 := ⟨by decide +kernel, rfl⟩
theorem eJ3_checkIndex_8e157_10 : Dec cJ3_checkIndex_8e157 10 (.iload_n 0) 1 11 := ⟨by decide +kernel, rfl⟩
theorem eJ3_checkIndex_8e157_11 : Dec cJ3_checkIndex_8e157 11 (.iload_n 1) 1 12 := ⟨by decide +kernel, rfl⟩
theorem eJ3_checkIndex_8e157_12 : Dec cJ3_checkIndex_8e157 12 (.invokestatic 95) 3 15 := ⟨by decide +kernel, rfl⟩
theorem eJ3_checkIndex_8e157_16 : Dec cJ3_checkIndex_8e157 16 (.iload_n 0) 1 17 := ⟨by decide +kernel, rfl⟩
theorem eJ3_checkIndex_8e157_17 : Dec cJ3_checkIndex_8e157 17 .ireturn 1 18 := ⟨by decide +kernel, rfl⟩
def MJ3_checkIndex_8e157 : MI := (yJ3_checkIndex_8e157, cJ3_checkIndex_8e157, 3, (some .int), { frames := 0, cells := 0, slots := 0, locals := 0 })
theorem wbJ3_checkIndex_8e157 : CWb MJ3_checkIndex_8e157 3 := ⟨in_TB 118 (by decide +kernel) (by decide +kernel), in_TB 288 (by decide +kernel) (by decide +kernel), ⟨by decide +kernel, by decide +kernel⟩, by decide +kernel⟩
theorem wX4_46 : CWV RX4 46 MJ0_length_8abf5 0 := ⟨wbJ0_length_8abf5, in_TB 260 (by decide +kernel) (by decide +kernel), in_TB 261 (by decide +kernel) (by decide +kernel), in_TB 262 (by decide +kernel) (by decide +kernel)⟩
theorem wX4_52 : CWV RX4 52 MJ0_charAt_5068e 1 := ⟨wbJ0_charAt_5068e, in_TB 270 (by decide +kernel) (by decide +kernel), in_TB 271 (by decide +kernel) (by decide +kernel), in_TB 272 (by decide +kernel) (by decide +kernel)⟩
theorem wJ0_335 : CWV RJ0 335 MJ0_coder_7d493 0 := ⟨wbJ0_coder_7d493, in_TB 264 (by decide +kernel) (by decide +kernel), in_TB 265 (by decide +kernel) (by decide +kernel), in_TB 266 (by decide +kernel) (by decide +kernel)⟩
theorem wJ0_492 : CWV RJ0 492 MJ0_isLatin1_aae02 0 := ⟨wbJ0_isLatin1_aae02, in_TB 274 (by decide +kernel) (by decide +kernel), in_TB 275 (by decide +kernel) (by decide +kernel), in_TB 276 (by decide +kernel) (by decide +kernel)⟩
theorem wJ0_495 : CWS RJ0 495 MJ1_charAt_3b067 2 := ⟨wbJ1_charAt_3b067, in_TB 278 (by decide +kernel) (by decide +kernel), in_TB 279 (by decide +kernel) (by decide +kernel)⟩
theorem wJ1_9 : CWS RJ1 9 MJ0_checkIndex_df160 2 := ⟨wbJ0_checkIndex_df160, in_TB 281 (by decide +kernel) (by decide +kernel), in_TB 282 (by decide +kernel) (by decide +kernel)⟩
theorem wJ0_1059 : CWS RJ0 1059 MJ3_checkIndex_8e157 3 := ⟨wbJ3_checkIndex_8e157, in_TB 286 (by decide +kernel) (by decide +kernel), in_TB 287 (by decide +kernel) (by decide +kernel)⟩
theorem wf_38 : Cond.fieldLink RJ0 38 "java/lang/String" "COMPACT_STRINGS" "Z" ∈ TB := in_TB 268 (by decide +kernel) (by decide +kernel)
theorem wf_9 : Cond.fieldLink RJ0 9 "java/lang/String" "value" "[B" ∈ TB := in_TB 1828 (by decide +kernel) (by decide +kernel)
theorem wf_15 : Cond.fieldLink RJ0 15 "java/lang/String" "coder" "B" ∈ TB := in_TB 1829 (by decide +kernel) (by decide +kernel)
theorem wf_1053 : Cond.fieldLink RJ0 1053 "jdk/internal/util/Preconditions" "SIOOBE_FORMATTER" "Ljava/util/function/BiFunction;" ∈ TB := in_TB 284 (by decide +kernel) (by decide +kernel)
theorem kS_coder : CiS MJ0_coder_7d493 [.ref 5000] 0 := by
  refine CiS.start rfl rfl (Nat.le_of_ble_eq_true rfl) ?_
  intro X ad SH σ fv C E R
  replace C : Cx X cJ0_coder_7d493 1 RJ0 (some .byte) { frames := 0, cells := 0, slots := 0, locals := 0 } := C
  replace R : Ri X cJ0_coder_7d493 (some .byte) ad SH (0, σ) := R
  show AW X 0 0 ad SH σ 0 [some (.ref 5000)] []
  refine a_compact C E eJ0_coder_7d493_0 wf_38 ?_
  refine a_if_eq C eJ0_coder_7d493_3 (fun hc => absurd hc (by decide)) (fun hc => ?_)
  refine a_aload_n C eJ0_coder_7d493_6 rfl ?_
  refine a_coder C E eJ0_coder_7d493_7 wf_15 ?_
  refine a_goto C eJ0_coder_7d493_10 ?_
  exact R _ _ _ eJ0_coder_7d493_14 ⟨_, rfl, rfl⟩
theorem kS_latin : CiS MJ0_isLatin1_aae02 [.ref 5000] 1 := by
  refine CiS.start rfl rfl (Nat.le_of_ble_eq_true rfl) ?_
  intro X ad SH σ fv C E R
  replace C : Cx X cJ0_isLatin1_aae02 1 RJ0 (some .boolean) { frames := 0, cells := 0, slots := 0, locals := 0 } := C
  replace R : Ri X cJ0_isLatin1_aae02 (some .boolean) ad SH (1, σ) := R
  show AW X 0 0 ad SH σ 0 [some (.ref 5000)] []
  refine a_compact C E eJ0_isLatin1_aae02_0 wf_38 ?_
  refine a_if_eq C eJ0_isLatin1_aae02_3 (fun hc => absurd hc (by decide)) (fun hc => ?_)
  refine a_aload_n C eJ0_isLatin1_aae02_6 rfl ?_
  refine a_coder C E eJ0_isLatin1_aae02_7 wf_15 ?_
  refine a_if_ne C eJ0_isLatin1_aae02_10 (fun hc => absurd rfl hc) (fun hc => ?_)
  refine a_iconst C eJ0_isLatin1_aae02_13 (1 : Int32) c_iconst_1 ?_
  refine a_goto C eJ0_isLatin1_aae02_14 ?_
  exact R _ _ _ eJ0_isLatin1_aae02_18 nb_1
theorem kS_length : CiS MJ0_length_8abf5 [.ref 5000] 69 := by
  refine CiS.start rfl rfl (Nat.le_of_ble_eq_true rfl) ?_
  intro X ad SH σ fv C E R
  replace C : Cx X cJ0_length_8abf5 1 RJ0 (some .int) { frames := 1, cells := 0, slots := 0, locals := 20 } := C
  replace R : Ri X cJ0_length_8abf5 (some .int) ad SH (69, σ) := R
  show AW X 0 0 ad SH σ 0 [some (.ref 5000)] []
  refine a_aload_n C eJ0_length_8abf5_0 rfl ?_
  refine a_bytes C E eJ0_length_8abf5_1 wf_9 ?_
  refine a_blen C E eJ0_length_8abf5_4 ?_
  refine a_aload_n C eJ0_length_8abf5_5 rfl ?_
  refine a_sVi (As := []) C E eJ0_length_8abf5_6 wJ0_335 rfl ⟨Nat.le_of_ble_eq_true rfl, Nat.le_of_ble_eq_true rfl, rfl, rfl⟩ ⟨Nat.zero_le _, Nat.zero_le _⟩ rfl rfl kS_coder (Nat.le_of_ble_eq_true rfl) ?_
  refine a_ishr C eJ0_length_8abf5_9 ?_
  have e9 : (69 : Int32) >>> ((0 : Int32) &&& 31) = 69 := by decide
  rw [e9]
  exact R _ _ _ eJ0_length_8abf5_10 nb_int
theorem kS_pre {SH : List Shp} {σ : Sg} {i n : Int32} {fv : Value} (h0 : ¬ i < 0) (h1 : i < n) (hf : fv.category = 1) : Ci MJ3_checkIndex_8e157 [.int i, .int n, fv] SH σ (i, σ) := by
  refine Ci.start rfl (by simp [Value.category] <;> exact hf) (Nat.le_of_ble_eq_true rfl) ?_
  intro X ad C R
  replace C : Cx X cJ3_checkIndex_8e157 3 RJ3 (some .int) { frames := 0, cells := 0, slots := 0, locals := 0 } := C
  show AW X 0 0 ad SH σ 0 [some (.int i), some (.int n), some fv] []
  refine a_iload_n C eJ3_checkIndex_8e157_0 rfl ?_
  refine a_if_lt C eJ3_checkIndex_8e157_1 (fun hc => absurd hc h0) (fun hc => ?_)
  refine a_iload_n C eJ3_checkIndex_8e157_4 rfl ?_
  refine a_iload_n C eJ3_checkIndex_8e157_5 rfl ?_
  refine a_icmp_lt C eJ3_checkIndex_8e157_6 (fun hc => ?_) (fun hc => absurd h1 hc)
  refine a_iload_n C eJ3_checkIndex_8e157_16 rfl ?_
  exact R _ _ _ eJ3_checkIndex_8e157_17 nb_int
theorem kS_chk {i n : Int32} (h0 : ¬ i < 0) (h1 : i < n) : CvS MJ0_checkIndex_df160 [.int i, .int n] := by
  refine CvS.start rfl rfl (Nat.le_of_ble_eq_true rfl) rfl ?_
  intro X ad SH σ fv C E R
  replace C : Cx X cJ0_checkIndex_df160 2 RJ0 none { frames := 1, cells := 0, slots := 0, locals := 22 } := C
  replace R : Rv X cJ0_checkIndex_df160 ad SH σ := R
  show AW X 0 0 ad SH σ 0 [some (.int i), some (.int n)] []
  refine a_iload_n C eJ0_checkIndex_df160_0 rfl ?_
  refine a_iload_n C eJ0_checkIndex_df160_1 rfl ?_
  refine a_fmt C E eJ0_checkIndex_df160_2 wf_1053 ?_
  refine a_callSi (As := [.int i, .int n, fv]) C eJ0_checkIndex_df160_5 wJ0_1059 ⟨Nat.le_of_ble_eq_true rfl, Nat.le_of_ble_eq_true rfl, rfl, rfl⟩ ⟨Nat.zero_le _, Nat.zero_le _⟩ rfl rfl (kS_pre h0 h1 E.fcat) (Nat.le_of_ble_eq_true rfl) ?_
  refine a_pop C eJ0_checkIndex_df160_8 rfl ?_
  exact R _ _ _ eJ0_checkIndex_df160_9
theorem ch_nar : ∀ j, j < 69 → ((chS j &&& 255).toUInt32 % 65536).toInt32 = chS j ∧ narrow .char (.int (chS j)) = .int (chS j) := by decide +kernel
theorem ib_lt {i : Int32} (h : ib i 69) : ¬ i < 0 ∧ i < 69 ∧ i.toNatClampNeg < 69 := by
  have h1 : ¬ i < 0 := fun q => h (Or.inl q)
  have h2 : i.toNatClampNeg < 69 := Nat.not_le.mp fun q => h (Or.inr q)
  refine ⟨h1, ?_, h2⟩
  have h3 : (0 : Int) ≤ i.toInt := by
    have := Int32.not_lt.mp h1
    simpa using Int32.le_iff_toInt_le.mp this
  have h4 : (i.toInt.toNat : Nat) < 69 := h2
  rw [Int32.lt_iff_toInt_lt]
  show i.toInt < 69
  omega
theorem kS_ch1 {i : Int32} (hi : ib i 69) : CiS MJ1_charAt_3b067 [.ref 5001, .int i] (chS i.toNatClampNeg) := by
  obtain ⟨h0, h1, h2⟩ := ib_lt hi
  refine CiS.start rfl rfl (Nat.le_of_ble_eq_true rfl) ?_
  intro X ad SH σ fv C E R
  replace C : Cx X cJ1_charAt_3b067 2 RJ1 (some .char) { frames := 2, cells := 0, slots := 0, locals := 43 } := C
  replace R : Ri X cJ1_charAt_3b067 (some .char) ad SH (chS i.toNatClampNeg, σ) := R
  show AW X 0 0 ad SH σ 0 [some (.ref 5001), some (.int i)] []
  refine a_iload_n C eJ1_charAt_3b067_0 rfl ?_
  refine a_aload_n C eJ1_charAt_3b067_1 rfl ?_
  refine a_blen C E eJ1_charAt_3b067_2 ?_
  refine a_sSv (As := [.int i, .int 69]) C E eJ1_charAt_3b067_3 wJ1_9 ⟨Nat.le_of_ble_eq_true rfl, Nat.le_of_ble_eq_true rfl, rfl, rfl⟩ ⟨Nat.zero_le _, Nat.zero_le _⟩ rfl rfl (kS_chk h0 h1) (Nat.le_of_ble_eq_true rfl) ?_
  refine a_aload_n C eJ1_charAt_3b067_6 rfl ?_
  refine a_iload_n C eJ1_charAt_3b067_7 rfl ?_
  refine a_bald C E eJ1_charAt_3b067_8 hi ?_
  refine a_sipush C eJ1_charAt_3b067_9 (255 : Int32) c_sipush_255 ?_
  refine a_iand C eJ1_charAt_3b067_12 ?_
  refine a_i2c C eJ1_charAt_3b067_13 _ (ch_nar _ h2).1 ?_
  exact R _ _ _ eJ1_charAt_3b067_14 ⟨_, rfl, (ch_nar _ h2).2⟩
theorem kS_charAt {i : Int32} (hi : ib i 69) : CiS MJ0_charAt_5068e [.ref 5000, .int i] (chS i.toNatClampNeg) := by
  obtain ⟨h0, h1, h2⟩ := ib_lt hi
  refine CiS.start rfl rfl (Nat.le_of_ble_eq_true rfl) ?_
  intro X ad SH σ fv C E R
  replace C : Cx X cJ0_charAt_5068e 2 RJ0 (some .char) { frames := 3, cells := 0, slots := 0, locals := 64 } := C
  replace R : Ri X cJ0_charAt_5068e (some .char) ad SH (chS i.toNatClampNeg, σ) := R
  show AW X 0 0 ad SH σ 0 [some (.ref 5000), some (.int i)] []
  refine a_aload_n C eJ0_charAt_5068e_0 rfl ?_
  refine a_sVi (As := []) C E eJ0_charAt_5068e_1 wJ0_492 rfl ⟨Nat.le_of_ble_eq_true rfl, Nat.le_of_ble_eq_true rfl, rfl, rfl⟩ ⟨Nat.zero_le _, Nat.zero_le _⟩ rfl rfl kS_latin (Nat.le_of_ble_eq_true rfl) ?_
  refine a_if_eq C eJ0_charAt_5068e_4 (fun hc => absurd hc (by decide)) (fun hc => ?_)
  refine a_aload_n C eJ0_charAt_5068e_7 rfl ?_
  refine a_bytes C E eJ0_charAt_5068e_8 wf_9 ?_
  refine a_iload_n C eJ0_charAt_5068e_11 rfl ?_
  refine a_sSi (As := [.ref 5001, .int i]) C E eJ0_charAt_5068e_12 wJ0_495 ⟨Nat.le_of_ble_eq_true rfl, Nat.le_of_ble_eq_true rfl, rfl, rfl⟩ ⟨Nat.zero_le _, Nat.zero_le _⟩ rfl rfl (kS_ch1 hi) (Nat.le_of_ble_eq_true rfl) ?_
  exact R _ _ _ eJ0_charAt_5068e_15 ⟨_, rfl, (ch_nar _ h2).2⟩
