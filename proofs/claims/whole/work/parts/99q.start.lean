/-! THE START: both sides as their constructors leave them -/
theorem setc_cell {σ : Sg} {c k : Nat} {f : Nat → Int32} (h : k ≠ c) : setc σ c f k = σ k := by
  unfold setc
  rw [if_neg h]
theorem setc_same {σ : Sg} {c : Nat} {f : Nat → Int32} : setc σ c f c = f := by
  unfold setc
  rw [if_pos rfl]
theorem fr_setc {σ : Sg} {c : Nat} {f : Nat → Int32} : fr [(c, none)] σ (setc σ c f) := fun k i h1 _ => by
  rw [setc_cell (fun q => h1 (by rw [q]; exact List.mem_cons_self))]
theorem iL {n w c c' j a : Nat} {σ : Sg} (hj : j < 69) (hw : w < 13) (hc : c < 33554432) (a1 : 97 ≤ a) (a2 : a ≤ 122) (ch : chS j = nI a) (e : c * 32 + (a - 96) = c') : LX4_init_82 (n + 1) (nI w) (nI c) (nI j) σ = LX4_init_82 n (nI w) (nI c') (nI (j + 1)) σ := by
  rw [LX4_init_82, show (69 : Int32) = nI 69 from rfl, if_neg (by rw [nI_lei] <;> omega), show (13 : Int32) = nI 13 from rfl, if_neg (by rw [nI_lei] <;> omega), if_pos ((ib_nI (by omega)).mpr (by omega)), nI_cl (show j < 2147483648 by omega), ch, lt_def, lt_def, if_neg (show ¬ nI a = 32 from nI_ne (b := 32) (by omega) (by omega) (by omega)), wl_ok hc a1 a2, b1s]
  show lt _ _ = _
  rw [lt_def, nI_1, e]
theorem iB {n w c j : Nat} {σ : Sg} (hj : j < 69) (hw : w < 13) (ch : chS j = nI 32) : LX4_init_82 (n + 1) (nI w) (nI c) (nI j) σ = LX4_init_82 n (nI (w + 1)) (nI 0) (nI (j + 1)) (up σ 19 w (nI c)) := by
  rw [LX4_init_82, show (69 : Int32) = nI 69 from rfl, if_neg (by rw [nI_lei] <;> omega), show (13 : Int32) = nI 13 from rfl, if_neg (by rw [nI_lei] <;> omega), if_pos ((ib_nI (by omega)).mpr (by omega)), nI_cl (show j < 2147483648 by omega), ch, lt_def, lt_def, if_pos (show nI 32 = 32 from rfl), if_pos ((ib_nI (by omega)).mpr (by omega)), nI_cl (show w < 2147483648 by omega), lt_def, lt_def, nI_1]
  show lt _ _ = _
  rw [lt_def, nI_1]
  rfl
theorem init_words (σ : Sg) : ∃ τ, LX4_init_82 FUEL (0 : Int32) (0 : Int32) (0 : Int32) σ = some τ ∧ KW τ ∧ fr [(19, none)] σ τ := by
  obtain ⟨N, hN⟩ : ∃ N, FUEL = N + 80 := ⟨999920, rfl⟩
  obtain ⟨τ, hτ⟩ : ∃ τ, τ = up (up (up (up (up (up (up (up (up (up (up (up (up (σ) 19 0 (nI 132915)) 19 1 (nI 4375028)) 19 2 (nI 21582955)) 19 3 (nI 6611108)) 19 4 (nI 435589)) 19 5 (nI 277892)) 19 6 (nI 409204)) 19 7 (nI 631280)) 19 8 (nI 52)) 19 9 (nI 20190598)) 19 10 (nI 20593771)) 19 11 (nI 20099475)) 19 12 (nI 611944) := ⟨_, rfl⟩
  refine ⟨τ, ?_, fun j hj => ?_, ?_⟩
  · rw [hN, show (0 : Int32) = nI 0 from rfl]
    rw [iL (j := 0) (w := 0) (c := 0) (c' := 4) (a := 100) (by omega) (by omega) (by omega) (by omega) (by omega) (by decide) rfl]
    rw [iL (j := 1) (w := 0) (c := 4) (c' := 129) (a := 97) (by omega) (by omega) (by omega) (by omega) (by omega) (by decide) rfl]
    rw [iL (j := 2) (w := 0) (c := 129) (c' := 4153) (a := 121) (by omega) (by omega) (by omega) (by omega) (by omega) (by decide) rfl]
    rw [iL (j := 3) (w := 0) (c := 4153) (c' := 132915) (a := 115) (by omega) (by omega) (by omega) (by omega) (by omega) (by decide) rfl]
    rw [iB (j := 4) (w := 0) (c := 132915) (by omega) (by omega) (by decide)]
    rw [iL (j := 5) (w := 1) (c := 0) (c' := 4) (a := 100) (by omega) (by omega) (by omega) (by omega) (by omega) (by decide) rfl]
    rw [iL (j := 6) (w := 1) (c := 4) (c' := 133) (a := 101) (by omega) (by omega) (by omega) (by omega) (by omega) (by decide) rfl]
    rw [iL (j := 7) (w := 1) (c := 133) (c' := 4272) (a := 112) (by omega) (by omega) (by omega) (by omega) (by omega) (by decide) rfl]
    rw [iL (j := 8) (w := 1) (c := 4272) (c' := 136719) (a := 111) (by omega) (by omega) (by omega) (by omega) (by omega) (by decide) rfl]
    rw [iL (j := 9) (w := 1) (c := 136719) (c' := 4375028) (a := 116) (by omega) (by omega) (by omega) (by omega) (by omega) (by decide) rfl]
    rw [iB (j := 10) (w := 1) (c := 4375028) (by omega) (by omega) (by decide)]
    rw [iL (j := 11) (w := 2) (c := 0) (c' := 20) (a := 116) (by omega) (by omega) (by omega) (by omega) (by omega) (by decide) rfl]
    rw [iL (j := 12) (w := 2) (c := 20) (c' := 658) (a := 114) (by omega) (by omega) (by omega) (by omega) (by omega) (by decide) rfl]
    rw [iL (j := 13) (w := 2) (c := 658) (c' := 21077) (a := 117) (by omega) (by omega) (by omega) (by omega) (by omega) (by decide) rfl]
    rw [iL (j := 14) (w := 2) (c := 21077) (c' := 674467) (a := 99) (by omega) (by omega) (by omega) (by omega) (by omega) (by decide) rfl]
    rw [iL (j := 15) (w := 2) (c := 674467) (c' := 21582955) (a := 107) (by omega) (by omega) (by omega) (by omega) (by omega) (by decide) rfl]
    rw [iB (j := 16) (w := 2) (c := 21582955) (by omega) (by omega) (by decide)]
    rw [iL (j := 17) (w := 3) (c := 0) (c' := 6) (a := 102) (by omega) (by omega) (by omega) (by omega) (by omega) (by decide) rfl]
    rw [iL (j := 18) (w := 3) (c := 6) (c' := 201) (a := 105) (by omega) (by omega) (by omega) (by omega) (by omega) (by decide) rfl]
    rw [iL (j := 19) (w := 3) (c := 201) (c' := 6456) (a := 120) (by omega) (by omega) (by omega) (by omega) (by omega) (by decide) rfl]
    rw [iL (j := 20) (w := 3) (c := 6456) (c' := 206597) (a := 101) (by omega) (by omega) (by omega) (by omega) (by omega) (by decide) rfl]
    rw [iL (j := 21) (w := 3) (c := 206597) (c' := 6611108) (a := 100) (by omega) (by omega) (by omega) (by omega) (by omega) (by decide) rfl]
    rw [iB (j := 22) (w := 3) (c := 6611108) (by omega) (by omega) (by decide)]
    rw [iL (j := 23) (w := 4) (c := 0) (c' := 13) (a := 109) (by omega) (by omega) (by omega) (by omega) (by omega) (by decide) rfl]
    rw [iL (j := 24) (w := 4) (c := 13) (c' := 425) (a := 105) (by omega) (by omega) (by omega) (by omega) (by omega) (by decide) rfl]
    rw [iL (j := 25) (w := 4) (c := 425) (c' := 13612) (a := 108) (by omega) (by omega) (by omega) (by omega) (by omega) (by decide) rfl]
    rw [iL (j := 26) (w := 4) (c := 13612) (c' := 435589) (a := 101) (by omega) (by omega) (by omega) (by omega) (by omega) (by decide) rfl]
    rw [iB (j := 27) (w := 4) (c := 435589) (by omega) (by omega) (by decide)]
    rw [iL (j := 28) (w := 5) (c := 0) (c' := 8) (a := 104) (by omega) (by omega) (by omega) (by omega) (by omega) (by decide) rfl]
    rw [iL (j := 29) (w := 5) (c := 8) (c' := 271) (a := 111) (by omega) (by omega) (by omega) (by omega) (by omega) (by decide) rfl]
    rw [iL (j := 30) (w := 5) (c := 271) (c' := 8684) (a := 108) (by omega) (by omega) (by omega) (by omega) (by omega) (by decide) rfl]
    rw [iL (j := 31) (w := 5) (c := 8684) (c' := 277892) (a := 100) (by omega) (by omega) (by omega) (by omega) (by omega) (by decide) rfl]
    rw [iB (j := 32) (w := 5) (c := 277892) (by omega) (by omega) (by decide)]
    rw [iL (j := 33) (w := 6) (c := 0) (c' := 12) (a := 108) (by omega) (by omega) (by omega) (by omega) (by omega) (by decide) rfl]
    rw [iL (j := 34) (w := 6) (c := 12) (c' := 399) (a := 111) (by omega) (by omega) (by omega) (by omega) (by omega) (by decide) rfl]
    rw [iL (j := 35) (w := 6) (c := 399) (c' := 12787) (a := 115) (by omega) (by omega) (by omega) (by omega) (by omega) (by decide) rfl]
    rw [iL (j := 36) (w := 6) (c := 12787) (c' := 409204) (a := 116) (by omega) (by omega) (by omega) (by omega) (by omega) (by decide) rfl]
    rw [iB (j := 37) (w := 6) (c := 409204) (by omega) (by omega) (by decide)]
    rw [iL (j := 38) (w := 7) (c := 0) (c' := 19) (a := 115) (by omega) (by omega) (by omega) (by omega) (by omega) (by decide) rfl]
    rw [iL (j := 39) (w := 7) (c := 19) (c' := 616) (a := 104) (by omega) (by omega) (by omega) (by omega) (by omega) (by decide) rfl]
    rw [iL (j := 40) (w := 7) (c := 616) (c' := 19727) (a := 111) (by omega) (by omega) (by omega) (by omega) (by omega) (by decide) rfl]
    rw [iL (j := 41) (w := 7) (c := 19727) (c' := 631280) (a := 112) (by omega) (by omega) (by omega) (by omega) (by omega) (by decide) rfl]
    rw [iB (j := 42) (w := 7) (c := 631280) (by omega) (by omega) (by decide)]
    rw [iL (j := 43) (w := 8) (c := 0) (c' := 1) (a := 97) (by omega) (by omega) (by omega) (by omega) (by omega) (by decide) rfl]
    rw [iL (j := 44) (w := 8) (c := 1) (c' := 52) (a := 116) (by omega) (by omega) (by omega) (by omega) (by omega) (by decide) rfl]
    rw [iB (j := 45) (w := 8) (c := 52) (by omega) (by omega) (by decide)]
    rw [iL (j := 46) (w := 9) (c := 0) (c' := 19) (a := 115) (by omega) (by omega) (by omega) (by omega) (by omega) (by decide) rfl]
    rw [iL (j := 47) (w := 9) (c := 19) (c' := 616) (a := 104) (by omega) (by omega) (by omega) (by omega) (by omega) (by decide) rfl]
    rw [iL (j := 48) (w := 9) (c := 616) (c' := 19717) (a := 101) (by omega) (by omega) (by omega) (by omega) (by omega) (by decide) rfl]
    rw [iL (j := 49) (w := 9) (c := 19717) (c' := 630956) (a := 108) (by omega) (by omega) (by omega) (by omega) (by omega) (by decide) rfl]
    rw [iL (j := 50) (w := 9) (c := 630956) (c' := 20190598) (a := 102) (by omega) (by omega) (by omega) (by omega) (by omega) (by decide) rfl]
    rw [iB (j := 51) (w := 9) (c := 20190598) (by omega) (by omega) (by decide)]
    rw [iL (j := 52) (w := 10) (c := 0) (c' := 19) (a := 115) (by omega) (by omega) (by omega) (by omega) (by omega) (by decide) rfl]
    rw [iL (j := 53) (w := 10) (c := 19) (c' := 628) (a := 116) (by omega) (by omega) (by omega) (by omega) (by omega) (by decide) rfl]
    rw [iL (j := 54) (w := 10) (c := 628) (c' := 20111) (a := 111) (by omega) (by omega) (by omega) (by omega) (by omega) (by decide) rfl]
    rw [iL (j := 55) (w := 10) (c := 20111) (c' := 643555) (a := 99) (by omega) (by omega) (by omega) (by omega) (by omega) (by decide) rfl]
    rw [iL (j := 56) (w := 10) (c := 643555) (c' := 20593771) (a := 107) (by omega) (by omega) (by omega) (by omega) (by omega) (by decide) rfl]
    rw [iB (j := 57) (w := 10) (c := 20593771) (by omega) (by omega) (by decide)]
    rw [iL (j := 58) (w := 11) (c := 0) (c' := 19) (a := 115) (by omega) (by omega) (by omega) (by omega) (by omega) (by decide) rfl]
    rw [iL (j := 59) (w := 11) (c := 19) (c' := 613) (a := 101) (by omega) (by omega) (by omega) (by omega) (by omega) (by decide) rfl]
    rw [iL (j := 60) (w := 11) (c := 613) (c' := 19628) (a := 108) (by omega) (by omega) (by omega) (by omega) (by omega) (by decide) rfl]
    rw [iL (j := 61) (w := 11) (c := 19628) (c' := 628108) (a := 108) (by omega) (by omega) (by omega) (by omega) (by omega) (by decide) rfl]
    rw [iL (j := 62) (w := 11) (c := 628108) (c' := 20099475) (a := 115) (by omega) (by omega) (by omega) (by omega) (by omega) (by decide) rfl]
    rw [iB (j := 63) (w := 11) (c := 20099475) (by omega) (by omega) (by decide)]
    rw [iL (j := 64) (w := 12) (c := 0) (c' := 18) (a := 114) (by omega) (by omega) (by omega) (by omega) (by omega) (by decide) rfl]
    rw [iL (j := 65) (w := 12) (c := 18) (c' := 597) (a := 117) (by omega) (by omega) (by omega) (by omega) (by omega) (by decide) rfl]
    rw [iL (j := 66) (w := 12) (c := 597) (c' := 19123) (a := 115) (by omega) (by omega) (by omega) (by omega) (by omega) (by decide) rfl]
    rw [iL (j := 67) (w := 12) (c := 19123) (c' := 611944) (a := 104) (by omega) (by omega) (by omega) (by omega) (by omega) (by decide) rfl]
    rw [iB (j := 68) (w := 12) (c := 611944) (by omega) (by omega) (by decide)]
    rw [LX4_init_82, if_pos (by decide), hτ]
  · have : j = 0 ∨ j = 1 ∨ j = 2 ∨ j = 3 ∨ j = 4 ∨ j = 5 ∨ j = 6 ∨ j = 7 ∨ j = 8 ∨ j = 9 ∨ j = 10 ∨ j = 11 ∨ j = 12 := by omega
    rcases this with rfl | rfl | rfl | rfl | rfl | rfl | rfl | rfl | rfl | rfl | rfl | rfl | rfl
    · rw [hτ, up_slot (by omega), up_slot (by omega), up_slot (by omega), up_slot (by omega), up_slot (by omega), up_slot (by omega), up_slot (by omega), up_slot (by omega), up_slot (by omega), up_slot (by omega), up_slot (by omega), up_slot (by omega), up_same]
      rfl
    · rw [hτ, up_slot (by omega), up_slot (by omega), up_slot (by omega), up_slot (by omega), up_slot (by omega), up_slot (by omega), up_slot (by omega), up_slot (by omega), up_slot (by omega), up_slot (by omega), up_slot (by omega), up_same]
      rfl
    · rw [hτ, up_slot (by omega), up_slot (by omega), up_slot (by omega), up_slot (by omega), up_slot (by omega), up_slot (by omega), up_slot (by omega), up_slot (by omega), up_slot (by omega), up_slot (by omega), up_same]
      rfl
    · rw [hτ, up_slot (by omega), up_slot (by omega), up_slot (by omega), up_slot (by omega), up_slot (by omega), up_slot (by omega), up_slot (by omega), up_slot (by omega), up_slot (by omega), up_same]
      rfl
    · rw [hτ, up_slot (by omega), up_slot (by omega), up_slot (by omega), up_slot (by omega), up_slot (by omega), up_slot (by omega), up_slot (by omega), up_slot (by omega), up_same]
      rfl
    · rw [hτ, up_slot (by omega), up_slot (by omega), up_slot (by omega), up_slot (by omega), up_slot (by omega), up_slot (by omega), up_slot (by omega), up_same]
      rfl
    · rw [hτ, up_slot (by omega), up_slot (by omega), up_slot (by omega), up_slot (by omega), up_slot (by omega), up_slot (by omega), up_same]
      rfl
    · rw [hτ, up_slot (by omega), up_slot (by omega), up_slot (by omega), up_slot (by omega), up_slot (by omega), up_same]
      rfl
    · rw [hτ, up_slot (by omega), up_slot (by omega), up_slot (by omega), up_slot (by omega), up_same]
      rfl
    · rw [hτ, up_slot (by omega), up_slot (by omega), up_slot (by omega), up_same]
      rfl
    · rw [hτ, up_slot (by omega), up_slot (by omega), up_same]
      rfl
    · rw [hτ, up_slot (by omega), up_same]
      rfl
    · rw [hτ, up_same]
      rfl
  · rw [hτ]
    exact ((((((((((((fr_up.tr fr_up).tr fr_up).tr fr_up).tr fr_up).tr fr_up).tr fr_up).tr fr_up).tr fr_up).tr fr_up).tr fr_up).tr fr_up).tr fr_up)
theorem c_forget2 (σ : Sg) : ∃ τ, XX7_forget 2 σ = some τ ∧ TC dr0 τ := by
  obtain ⟨P, hP⟩ : ∃ P, P = up (up (up (up (up (up (up (up (up (up σ 2 0 (7 : Int32)) 2 1 (60 : Int32)) 2 2 (10 : Int32)) 2 3 (1 : Int32)) 2 4 (1 : Int32)) 2 5 (20 : Int32)) 2 6 (0 : Int32)) 2 7 (0 : Int32)) (2 + 1) 6 (0 : Int32)) (2 + 2) 6 (0 : Int32) := ⟨_, rfl⟩
  obtain ⟨τ, e1, e2, e3⟩ := c_fill0 (a := 2 + 5) (N := 84) (by omega) (0 : Int32) P
  have k2 : τ 2 = P 2 := e3.cell (k := 2) rfl
  have k3 : τ 3 = P 3 := e3.cell (k := 3) rfl
  have k4 : τ 4 = P 4 := e3.cell (k := 4) rfl
  refine ⟨τ, ?_, ?_⟩
  · unfold XX7_forget
    rw [lt_def, lt_def, lt_def, lt_def, lt_def, lt_def, lt_def, lt_def, lt_def, lt_def, ← hP, e1, b1s]
  · refine ⟨?_, ?_, ?_, ?_, ?_, ?_, ?_, ?_, fun s hs => absurd hs (Nat.not_lt_zero s), ?_, ?_, fun s d hs => absurd hs (Nat.not_lt_zero s), fun k hk => absurd hk (Nat.not_lt_zero k)⟩
    · rw [k2, hP]
      rfl
    · rw [k2, hP]
      rfl
    · rw [k2, hP]
      rfl
    · rw [k2, hP]
      rfl
    · rw [k2, hP]
      rfl
    · rw [k2, hP]
      rfl
    · rw [k2, hP]
      rfl
    · rw [k2, hP]
      rfl
    · rw [k3, hP]
      rfl
    · rw [k4, hP]
      rfl
theorem i25 (σ : Sg) : ∃ τ, XX8_init_25 σ = some τ ∧ fr [(26, none), (27, none), (28, none)] σ τ := by
  refine ⟨setc (setc (setc (σ) 26 zro) 27 zro) 28 zro, rfl, (((fr_setc.mono (by simp)).tr (fr_setc.mono (by simp))).tr (fr_setc.mono (by simp)))⟩
theorem i29 (σ : Sg) : ∃ τ, XX2_init_29 σ = some τ ∧ fr [(30, none), (31, none), (32, none), (33, none), (34, none)] σ τ ∧ τ 31 = zro ∧ τ 32 = zro ∧ τ 33 = zro := by
  refine ⟨setc (setc (setc (setc (setc (σ) 30 zro) 31 zro) 32 zro) 33 zro) 34 zro, rfl, (((((fr_setc.mono (by simp)).tr (fr_setc.mono (by simp))).tr (fr_setc.mono (by simp))).tr (fr_setc.mono (by simp))).tr (fr_setc.mono (by simp))), by rw [setc_cell (by omega), setc_cell (by omega), setc_cell (by omega), setc_same], by rw [setc_cell (by omega), setc_cell (by omega), setc_same], by rw [setc_cell (by omega), setc_same]⟩
theorem i35 (σ : Sg) : ∃ τ, XX6_init_35 σ = some τ ∧ fr [(36, none), (37, none)] σ τ := by
  refine ⟨setc (setc (σ) 36 zro) 37 zro, rfl, ((fr_setc.mono (by simp)).tr (fr_setc.mono (by simp)))⟩
theorem i38 (σ : Sg) : ∃ τ, XX5_init_38 σ = some τ ∧ fr [(39, none), (40, none), (41, none), (42, none), (43, none), (44, none), (45, none)] σ τ := by
  refine ⟨setc (setc (setc (setc (setc (setc (setc (σ) 39 zro) 40 zro) 41 zro) 42 zro) 43 zro) 44 zro) 45 zro, rfl, (((((((fr_setc.mono (by simp)).tr (fr_setc.mono (by simp))).tr (fr_setc.mono (by simp))).tr (fr_setc.mono (by simp))).tr (fr_setc.mono (by simp))).tr (fr_setc.mono (by simp))).tr (fr_setc.mono (by simp)))⟩
theorem i46 (σ : Sg) : ∃ τ, XX5_init_46 σ = some τ ∧ fr [(47, none), (48, none), (49, none), (50, none), (51, none), (52, none), (53, none)] σ τ := by
  refine ⟨setc (setc (setc (setc (setc (setc (setc (σ) 47 zro) 48 zro) 49 zro) 50 zro) 51 zro) 52 zro) 53 zro, rfl, (((((((fr_setc.mono (by simp)).tr (fr_setc.mono (by simp))).tr (fr_setc.mono (by simp))).tr (fr_setc.mono (by simp))).tr (fr_setc.mono (by simp))).tr (fr_setc.mono (by simp))).tr (fr_setc.mono (by simp)))⟩
theorem i55 (σ : Sg) : ∃ τ, XX1_init_55 σ = some τ ∧ fr [(56, none), (57, none), (58, none), (59, none), (60, none)] σ τ := by
  refine ⟨setc (setc (setc (setc (setc (σ) 56 zro) 57 zro) 58 zro) 59 zro) 60 zro, rfl, (((((fr_setc.mono (by simp)).tr (fr_setc.mono (by simp))).tr (fr_setc.mono (by simp))).tr (fr_setc.mono (by simp))).tr (fr_setc.mono (by simp)))⟩
theorem i61 (σ : Sg) : ∃ τ, XX0_init_61 σ = some τ ∧ fr [(61, none), (62, none)] σ τ := ⟨setc (up σ 61 0 (0 : Int32)) 62 zro, rfl, (fr_up.mono (by simp)).tr (fr_setc.mono (by simp))⟩
theorem i2 (σ : Sg) : ∃ τ, XX7_init_2 σ = some τ ∧ TC dr0 τ ∧ (∀ k, k < 2 → τ k = σ k) := by
  obtain ⟨ρ, hρ⟩ : ∃ ρ, ρ = setc (setc (setc (setc (setc (setc (setc σ 3 zro) 4 zro) 5 zro) 6 zro) 7 zro) 8 zro) 9 zro := ⟨_, rfl⟩
  obtain ⟨τ, e1, e2⟩ := c_forget2 ρ
  refine ⟨τ, ?_, e2, fun k hk => ?_⟩
  · unfold XX7_init_2
    rw [lt_def, lt_def, lt_def, lt_def, lt_def, lt_def, lt_def, ← hρ, e1, b1s]
  · rw [(frX7_forget e1).cell (k := k) (by simp; omega), hρ, setc_cell (by omega), setc_cell (by omega), setc_cell (by omega), setc_cell (by omega), setc_cell (by omega), setc_cell (by omega), setc_cell (by omega)]
theorem i10 (σ : Sg) : ∃ τ, XX4_init_10 σ = some τ ∧ KW τ ∧ τ 10 1 = 0 ∧ τ 10 2 = -1 ∧ (∀ k, k < 10 → τ k = σ k) := by
  obtain ⟨ρ, hρ⟩ : ∃ ρ, ρ = setc (setc (setc (setc (setc (setc (setc (setc σ 11 zro) 12 zro) 13 zro) 14 zro) 15 zro) 16 zro) 17 zro) 18 zro := ⟨_, rfl⟩
  obtain ⟨μ, e1, e2⟩ := c_forget ρ
  have F := frX7_forget e1
  have e11 : XX7_init_11 (setc σ 11 zro) = some μ := by
    unfold XX7_init_11
    rw [lt_def, lt_def, lt_def, lt_def, lt_def, lt_def, lt_def, ← hρ, e1, b1s]
  obtain ⟨ν, hν⟩ : ∃ ν, ν = setc (setc (setc (setc (setc (setc (up (up μ 10 1 (0 : Int32)) 10 2 (-1 : Int32)) 19 zro) 20 zro) 21 zro) 22 zro) 23 zro) 24 zro := ⟨_, rfl⟩
  obtain ⟨τ, g1, g2, g3⟩ := init_words ν
  have n10 : ν 10 = up (up μ 10 1 (0 : Int32)) 10 2 (-1 : Int32) 10 := by
    rw [hν, setc_cell (by omega), setc_cell (by omega), setc_cell (by omega), setc_cell (by omega), setc_cell (by omega), setc_cell (by omega)]
  refine ⟨τ, ?_, g2, ?_, ?_, fun k hk => ?_⟩
  · unfold XX4_init_10
    rw [lt_def, e11, b1s, lt_def, lt_def, lt_def, lt_def, lt_def, lt_def, lt_def, lt_def, ← hν, g1]
  · rw [g3.cell (k := 10) rfl, n10, up_slot (by omega), up_same]
  · rw [g3.cell (k := 10) rfl, n10, up_same]
  · rw [g3.cell (k := k) (by simp; omega), hν, setc_cell (by omega), setc_cell (by omega), setc_cell (by omega), setc_cell (by omega), setc_cell (by omega), setc_cell (by omega), up_cell (by omega), up_cell (by omega), F.cell (k := k) (by simp; omega), hρ, setc_cell (by omega), setc_cell (by omega), setc_cell (by omega), setc_cell (by omega), setc_cell (by omega), setc_cell (by omega), setc_cell (by omega), setc_cell (by omega)]
theorem start9 : ∃ τ, XX9_init_0 (setc σ00 0 zro) = some τ ∧ CI dr0 τ := by
  obtain ⟨A, hA⟩ : ∃ A, A = setc (up (setc (setc σ00 0 zro) 1 zro) 0 1 (0 : Int32)) 2 zro := ⟨_, rfl⟩
  obtain ⟨B, b1', b2', b3'⟩ := i2 A
  obtain ⟨C, c1, c2, c3, c4, c5⟩ := i10 (setc B 10 zro)
  obtain ⟨E, e1, e2⟩ := i25 (setc C 25 zro)
  obtain ⟨G, g1, g2, g31, g32, g33⟩ := i29 (setc E 29 zro)
  obtain ⟨H, h1, h2⟩ := i35 (setc G 35 zro)
  obtain ⟨I, i1, i2'⟩ := i38 (setc H 38 zro)
  obtain ⟨J, j1, j2⟩ := i46 (setc I 46 zro)
  obtain ⟨K, k1, k2⟩ := i55 (setc (setc J 54 zro) 55 zro)
  obtain ⟨M, m1, m2⟩ := i61 (setc K 61 zro)
  obtain ⟨Z, hZ⟩ : ∃ Z, Z = setc M 63 zro := ⟨_, rfl⟩
  have up' : ∀ k, 34 ≤ k ∨ k ≤ 34 → k < 35 → Z k = G k := fun k _ hk => by
    rw [hZ, setc_cell (by omega), m2.cell (k := k) (by simp; omega), setc_cell (by omega), k2.cell (k := k) (by simp; omega), setc_cell (by omega), setc_cell (by omega), j2.cell (k := k) (by simp; omega), setc_cell (by omega), i2'.cell (k := k) (by simp; omega), setc_cell (by omega), h2.cell (k := k) (by simp; omega), setc_cell (by omega)]
  have lo : ∀ k, k < 25 → Z k = C k := fun k hk => by
    rw [up' k (by omega) (by omega), g2.cell (k := k) (by simp; omega), setc_cell (by omega), e2.cell (k := k) (by simp; omega), setc_cell (by omega)]
  have l2 : ∀ k, k < 10 → Z k = B k := fun k hk => by
    rw [lo k (by omega), c5 k hk, setc_cell (by omega)]
  have t : TC dr0 Z := b2'.off (fun k q1 q2 => l2 k (by omega))
  obtain ⟨τ, y1, y2, y3, y4, y5, y6⟩ := c_anew WD.start.1 t (fun s => rfl) (by rw [up' 31 (by omega) (by omega), g31]; rfl) (by rw [up' 32 (by omega) (by omega), g32]; rfl) (by rw [up' 33 (by omega) (by omega), g33]; rfl)
  have Y := frX9_beginAnew y1
  refine ⟨τ, ?_, y2, y3, y4, y5, ⟨y6, fun a s h => absurd h (Nat.not_lt_zero a)⟩, ?_, fun i hi => absurd hi (Nat.not_lt_zero i), ?_, ?_, fun j hj => ?_⟩
  · unfold XX9_init_0
    rw [lt_def, lt_def, lt_def, ← hA, b1', b1s, lt_def, c1, b1s, lt_def, e1, b1s, lt_def, g1, b1s, lt_def, h1, b1s, lt_def, i1, b1s, lt_def, j1, b1s, lt_def]
    unfold XX3_init_54
    rw [b1s, lt_def, k1, b1s, lt_def, m1, b1s, lt_def, ← hZ, y1, b1s]
  · rw [Y.cell (k := 0) rfl, l2 0 (by omega), b3' 0 (by omega), hA, setc_cell (by omega), up_same]
    rfl
  · rw [Y.cell (k := 10) rfl, lo 10 (by omega), c3]
    rfl
  · rw [Y.cell (k := 10) rfl, lo 10 (by omega), c4]
    rfl
  · rw [Y.cell (k := 19) rfl, lo 19 (by omega)]
    exact c2 j hj
theorem start10 {σ : Sg} (hc : CI dr0 σ) : ∃ τ, XX10_init_64 (setc σ 64 zro) = some τ ∧ CI dr0 τ ∧ RA dr0 τ := by
  obtain ⟨A, hA⟩ : ∃ A, A = up (up (up (up (up (up (up (up (up (up (up (up (up (up (up (up (up (up (up (up (setc (setc σ 64 zro) 65 zro) 65 0 (7 : Int32)) 65 1 (0 : Int32)) 65 2 (0 : Int32)) 65 3 (60 : Int32)) 65 4 (10 : Int32)) 65 5 (1 : Int32)) 65 6 (1 : Int32)) 65 7 (20 : Int32)) 65 8 (0 : Int32)) 65 9 (0 : Int32)) 65 10 (7 : Int32)) 65 11 (0 : Int32)) 65 12 (0 : Int32)) 65 13 (60 : Int32)) 65 14 (10 : Int32)) 65 15 (1 : Int32)) 65 16 (1 : Int32)) 65 17 (20 : Int32)) 65 18 (0 : Int32)) 65 19 (0 : Int32) := ⟨_, rfl⟩
  obtain ⟨B, hB⟩ : ∃ B, B = up (setc (setc (setc (setc (setc (setc (setc (setc (setc (setc (setc (A) 66 zro) 67 zro) 68 zro) 69 zro) 70 zro) 71 zro) 72 zro) 73 zro) 74 zro) 75 zro) 76 zro) 64 21 (-1 : Int32) := ⟨_, rfl⟩
  obtain ⟨τ, hτ⟩ : ∃ τ, τ = setc (setc (setc (setc (setc (setc (setc (setc (setc (setc (setc (setc (setc (setc (setc (B) 77 zro) 78 zro) 79 zro) 80 zro) 81 zro) 82 zro) 83 zro) 84 zro) 85 zro) 86 zro) 87 zro) 88 zro) 89 zro) 90 zro) 91 zro := ⟨_, rfl⟩
  have t1 : ∀ k, k < 77 → τ k = B k := fun k hk => by
    rw [hτ, setc_cell (by omega), setc_cell (by omega), setc_cell (by omega), setc_cell (by omega), setc_cell (by omega), setc_cell (by omega), setc_cell (by omega), setc_cell (by omega), setc_cell (by omega), setc_cell (by omega), setc_cell (by omega), setc_cell (by omega), setc_cell (by omega), setc_cell (by omega), setc_cell (by omega)]
  have t2 : ∀ k, k < 66 → k ≠ 64 → B k = A k := fun k hk h4 => by
    rw [hB, up_cell (by omega), setc_cell (by omega), setc_cell (by omega), setc_cell (by omega), setc_cell (by omega), setc_cell (by omega), setc_cell (by omega), setc_cell (by omega), setc_cell (by omega), setc_cell (by omega), setc_cell (by omega), setc_cell (by omega)]
  have t3 : ∀ k, k < 64 → A k = σ k := fun k hk => by
    rw [hA, up_cell (by omega), up_cell (by omega), up_cell (by omega), up_cell (by omega), up_cell (by omega), up_cell (by omega), up_cell (by omega), up_cell (by omega), up_cell (by omega), up_cell (by omega), up_cell (by omega), up_cell (by omega), up_cell (by omega), up_cell (by omega), up_cell (by omega), up_cell (by omega), up_cell (by omega), up_cell (by omega), up_cell (by omega), up_cell (by omega), setc_cell (by omega), setc_cell (by omega)]
  have low : ∀ k, k < 64 → τ k = σ k := fun k hk => by
    rw [t1 k (by omega), t2 k (by omega) (by omega), t3 k hk]
  have a64 : A 64 = zro := by
    rw [hA, up_cell (by omega), up_cell (by omega), up_cell (by omega), up_cell (by omega), up_cell (by omega), up_cell (by omega), up_cell (by omega), up_cell (by omega), up_cell (by omega), up_cell (by omega), up_cell (by omega), up_cell (by omega), up_cell (by omega), up_cell (by omega), up_cell (by omega), up_cell (by omega), up_cell (by omega), up_cell (by omega), up_cell (by omega), up_cell (by omega), setc_cell (by omega), setc_same]
  have b64 : ∀ i, i ≠ 21 → τ 64 i = 0 := fun i hi => by
    rw [t1 64 (by omega), hB, up_slot hi, setc_cell (by omega), setc_cell (by omega), setc_cell (by omega), setc_cell (by omega), setc_cell (by omega), setc_cell (by omega), setc_cell (by omega), setc_cell (by omega), setc_cell (by omega), setc_cell (by omega), setc_cell (by omega), a64]
    rfl
  have b21 : τ 64 21 = -1 := by
    rw [t1 64 (by omega), hB, up_same]
  have v0 : τ 65 0 = nI (dr0 0 0) := by
    rw [t1 65 (by omega), t2 65 (by omega) (by omega), hA, up_slot (by omega), up_slot (by omega), up_slot (by omega), up_slot (by omega), up_slot (by omega), up_slot (by omega), up_slot (by omega), up_slot (by omega), up_slot (by omega), up_slot (by omega), up_slot (by omega), up_slot (by omega), up_slot (by omega), up_slot (by omega), up_slot (by omega), up_slot (by omega), up_slot (by omega), up_slot (by omega), up_slot (by omega), up_same]
    rfl
  have v1 : τ 65 1 = nI (dr0 0 1) := by
    rw [t1 65 (by omega), t2 65 (by omega) (by omega), hA, up_slot (by omega), up_slot (by omega), up_slot (by omega), up_slot (by omega), up_slot (by omega), up_slot (by omega), up_slot (by omega), up_slot (by omega), up_slot (by omega), up_slot (by omega), up_slot (by omega), up_slot (by omega), up_slot (by omega), up_slot (by omega), up_slot (by omega), up_slot (by omega), up_slot (by omega), up_slot (by omega), up_same]
    rfl
  have v2 : τ 65 2 = nI (dr0 0 2) := by
    rw [t1 65 (by omega), t2 65 (by omega) (by omega), hA, up_slot (by omega), up_slot (by omega), up_slot (by omega), up_slot (by omega), up_slot (by omega), up_slot (by omega), up_slot (by omega), up_slot (by omega), up_slot (by omega), up_slot (by omega), up_slot (by omega), up_slot (by omega), up_slot (by omega), up_slot (by omega), up_slot (by omega), up_slot (by omega), up_slot (by omega), up_same]
    rfl
  have v3 : τ 65 3 = nI (dr0 0 3) := by
    rw [t1 65 (by omega), t2 65 (by omega) (by omega), hA, up_slot (by omega), up_slot (by omega), up_slot (by omega), up_slot (by omega), up_slot (by omega), up_slot (by omega), up_slot (by omega), up_slot (by omega), up_slot (by omega), up_slot (by omega), up_slot (by omega), up_slot (by omega), up_slot (by omega), up_slot (by omega), up_slot (by omega), up_slot (by omega), up_same]
    rfl
  have v4 : τ 65 4 = nI (dr0 0 4) := by
    rw [t1 65 (by omega), t2 65 (by omega) (by omega), hA, up_slot (by omega), up_slot (by omega), up_slot (by omega), up_slot (by omega), up_slot (by omega), up_slot (by omega), up_slot (by omega), up_slot (by omega), up_slot (by omega), up_slot (by omega), up_slot (by omega), up_slot (by omega), up_slot (by omega), up_slot (by omega), up_slot (by omega), up_same]
    rfl
  have v5 : τ 65 5 = nI (dr0 0 5) := by
    rw [t1 65 (by omega), t2 65 (by omega) (by omega), hA, up_slot (by omega), up_slot (by omega), up_slot (by omega), up_slot (by omega), up_slot (by omega), up_slot (by omega), up_slot (by omega), up_slot (by omega), up_slot (by omega), up_slot (by omega), up_slot (by omega), up_slot (by omega), up_slot (by omega), up_slot (by omega), up_same]
    rfl
  have v6 : τ 65 6 = nI (dr0 0 6) := by
    rw [t1 65 (by omega), t2 65 (by omega) (by omega), hA, up_slot (by omega), up_slot (by omega), up_slot (by omega), up_slot (by omega), up_slot (by omega), up_slot (by omega), up_slot (by omega), up_slot (by omega), up_slot (by omega), up_slot (by omega), up_slot (by omega), up_slot (by omega), up_slot (by omega), up_same]
    rfl
  have v7 : τ 65 7 = nI (dr0 0 7) := by
    rw [t1 65 (by omega), t2 65 (by omega) (by omega), hA, up_slot (by omega), up_slot (by omega), up_slot (by omega), up_slot (by omega), up_slot (by omega), up_slot (by omega), up_slot (by omega), up_slot (by omega), up_slot (by omega), up_slot (by omega), up_slot (by omega), up_slot (by omega), up_same]
    rfl
  have v8 : τ 65 8 = nI (dr0 0 8) := by
    rw [t1 65 (by omega), t2 65 (by omega) (by omega), hA, up_slot (by omega), up_slot (by omega), up_slot (by omega), up_slot (by omega), up_slot (by omega), up_slot (by omega), up_slot (by omega), up_slot (by omega), up_slot (by omega), up_slot (by omega), up_slot (by omega), up_same]
    rfl
  have v9 : τ 65 9 = nI (dr0 0 9) := by
    rw [t1 65 (by omega), t2 65 (by omega) (by omega), hA, up_slot (by omega), up_slot (by omega), up_slot (by omega), up_slot (by omega), up_slot (by omega), up_slot (by omega), up_slot (by omega), up_slot (by omega), up_slot (by omega), up_slot (by omega), up_same]
    rfl
  have v78 : τ 78 = zro := by
    rw [hτ, setc_cell (by omega), setc_cell (by omega), setc_cell (by omega), setc_cell (by omega), setc_cell (by omega), setc_cell (by omega), setc_cell (by omega), setc_cell (by omega), setc_cell (by omega), setc_cell (by omega), setc_cell (by omega), setc_cell (by omega), setc_cell (by omega), setc_same]
  have v77 : τ 77 = zro := by
    rw [hτ, setc_cell (by omega), setc_cell (by omega), setc_cell (by omega), setc_cell (by omega), setc_cell (by omega), setc_cell (by omega), setc_cell (by omega), setc_cell (by omega), setc_cell (by omega), setc_cell (by omega), setc_cell (by omega), setc_cell (by omega), setc_cell (by omega), setc_cell (by omega), setc_same]
  have F : fr [(64, none), (65, none), (66, none), (67, none), (68, none), (69, none), (70, none), (71, none), (72, none), (73, none), (74, none), (75, none), (76, none), (77, none), (78, none), (79, none), (80, none), (81, none), (82, none), (83, none), (84, none), (85, none), (86, none), (87, none), (88, none), (89, none), (90, none), (91, none)] σ τ := by
    intro k i hk _
    have hk2 : k < 64 ∨ 91 < k := by
      simp at hk
      omega
    rcases hk2 with q | q
    · rw [low k q]
    · rw [hτ, setc_cell (by omega), setc_cell (by omega), setc_cell (by omega), setc_cell (by omega), setc_cell (by omega), setc_cell (by omega), setc_cell (by omega), setc_cell (by omega), setc_cell (by omega), setc_cell (by omega), setc_cell (by omega), setc_cell (by omega), setc_cell (by omega), setc_cell (by omega), setc_cell (by omega), hB, up_cell (by omega), setc_cell (by omega), setc_cell (by omega), setc_cell (by omega), setc_cell (by omega), setc_cell (by omega), setc_cell (by omega), setc_cell (by omega), setc_cell (by omega), setc_cell (by omega), setc_cell (by omega), setc_cell (by omega), hA, up_cell (by omega), up_cell (by omega), up_cell (by omega), up_cell (by omega), up_cell (by omega), up_cell (by omega), up_cell (by omega), up_cell (by omega), up_cell (by omega), up_cell (by omega), up_cell (by omega), up_cell (by omega), up_cell (by omega), up_cell (by omega), up_cell (by omega), up_cell (by omega), up_cell (by omega), up_cell (by omega), up_cell (by omega), up_cell (by omega), setc_cell (by omega), setc_cell (by omega)]
  refine ⟨τ, ?_, hc.far F rfl, ⟨?_, ?_⟩⟩
  · unfold XX10_init_64
    rw [lt_def, lt_def, lt_def, lt_def, lt_def, lt_def, lt_def, lt_def, lt_def, lt_def, lt_def, lt_def, lt_def, lt_def, lt_def, lt_def, lt_def, lt_def, lt_def, lt_def, lt_def, ← hA, lt_def, lt_def, lt_def, lt_def, lt_def, lt_def, lt_def, lt_def, lt_def, lt_def, lt_def, lt_def, ← hB, lt_def, lt_def, lt_def, lt_def, lt_def, lt_def, lt_def, lt_def, lt_def, lt_def, lt_def, lt_def, lt_def, lt_def, lt_def, ← hτ]
  · refine ⟨fun i hi => ?_, fun s hs => absurd hs (Nat.not_lt_zero s), fun s hs => by rw [v78]; rfl, fun s hs => absurd hs (Nat.not_lt_zero s), fun k hk => absurd hk (Nat.not_lt_zero k), by rw [b64 39 (by omega)]; rfl, fun a s ha => absurd ha (Nat.not_lt_zero a), by rw [b64 14 (by omega)]; rfl, fun i hi => absurd hi (Nat.not_lt_zero i), by rw [b64 20 (by omega)]; rfl, by rw [b21]; rfl⟩
    have : i = 0 ∨ i = 1 ∨ i = 2 ∨ i = 3 ∨ i = 4 ∨ i = 5 ∨ i = 6 ∨ i = 7 ∨ i = 8 ∨ i = 9 := by omega
    rcases this with rfl | rfl | rfl | rfl | rfl | rfl | rfl | rfl | rfl | rfl
    · exact v0
    · exact v1
    · exact v2
    · exact v3
    · exact v4
    · exact v5
    · exact v6
    · exact v7
    · exact v8
    · exact v9
  · intro set a h1 h2
    have s0 : set = 0 := by
      have : set < 2 ^ 0 := h1
      omega
    have a6 : a = 6 := by
      rcases h2 with q | q
      · exact absurd q (Nat.not_lt_zero a)
      · exact q
    rw [s0, a6, v77]
    decide
