/-! ShelfDrivesModel.stocks(I)I -/
def LX10_stocks_4 (p1 : Int32) (σ : Sg) : Nat → Int32 → Int32 → Option Int32
  | 0, _, _ => none
  | n + 1, x2_1, x3_2 => b1 (XX10_days σ) (fun (r_3 : Int32) => if r_3 ≤ x3_2 then (some x2_1) else (if ib (((14 : Int32) * p1) + x3_2) 84 then lt (x2_1 + (σ 81 (((14 : Int32) * p1) + x3_2).toNatClampNeg)) (fun (x2_5 : Int32) => lt (x3_2 + (1 : Int32)) (fun (x3_6 : Int32) => LX10_stocks_4 p1 σ n x2_5 x3_6)) else none))
def XX10_stocks (p1 : Int32) (σ : Sg) : Option Int32 := LX10_stocks_4 p1 σ FUEL (0 : Int32) (0 : Int32)
theorem lX10_stocks_4 {X : CT} {ad : Nat → Nat} {rr : Int32} {p1 : Int32} {σ : Sg}  (C : Cx X cX10_stocks 4 RX10 (some .int) { frames := 1, cells := 0, slots := 0, locals := 20 }) (R : Ri X cX10_stocks (some .int) ad (SHc ++ SHm) (rr, σ))  : ∀ (n : Nat) (x2_1 : Int32) (x3_2 : Int32), LX10_stocks_4 p1 σ n x2_1 x3_2 = some rr → AW X 0 0 ad (SHc ++ SHm) σ 4 [some (.ref 64), some (.int p1), some (.int x2_1), some (.int x3_2)] [] := by
  intro n
  induction n with
  | zero =>
    intro x2_1 x3_2 h
    rw [LX10_stocks_4] at h
    cases h
  | succ n ih =>
    intro x2_1 x3_2 h
    rw [LX10_stocks_4] at h
    refine a_iload_n C eX10_stocks_4 rfl ?_
    refine a_aload_n C eX10_stocks_5 rfl ?_
    obtain ⟨r_3, hq, h⟩ := b1_e h
    refine a_cVi0 C eX10_stocks_6 wX10_106 ⟨Nat.le_of_ble_eq_true rfl, Nat.le_of_ble_eq_true rfl, rfl, rfl⟩ rfl sh_64 rfl (kX10_days hq) (Nat.le_of_ble_eq_true rfl) ?_
    refine a_icmp_ge C eX10_stocks_9 (fun hc => ?_) (fun hc => ?_)
    · replace h := it hc h
      refine a_iload_n C eX10_stocks_32 rfl ?_
      exact rt_p R eX10_stocks_33 h nb_int
    · replace h := ie hc h
      refine a_iload_n C eX10_stocks_12 rfl ?_
      refine a_aload_n C eX10_stocks_13 rfl ?_
      refine a_getR C eX10_stocks_14 fX10_62 sh_64 rfl ?_
      refine a_bipush C eX10_stocks_17 (14 : Int32) c_bipush_14 ?_
      refine a_iload_n C eX10_stocks_19 rfl ?_
      refine a_imul C eX10_stocks_20 ?_
      refine a_iload_n C eX10_stocks_21 rfl ?_
      refine a_iadd C eX10_stocks_22 ?_
      obtain ⟨hb_4, h⟩ := gd h
      refine a_iald C eX10_stocks_23 sh_81 hb_4 ?_
      refine a_iadd C eX10_stocks_24 ?_
      refine a_lt h (fun x2_5 h => ?_)
      refine a_ist_n C eX10_stocks_25 (Nat.le_of_ble_eq_true rfl) [some (.ref 64), some (.int p1), some (.int x2_5), some (.int x3_2)] rfl ?_
      refine a_inc C eX10_stocks_26 rfl c_iconst_1 h (fun z => [some (.ref 64), some (.int p1), some (.int x2_5), some (.int z)]) (fun _ => rfl) (fun x3_6 h => ?_)
      refine a_goto C eX10_stocks_29 ?_
      exact a_less (lle_same (lle_same (lle_same (lle_same lle_nil)))) (ih _ _ h)
theorem kX10_stocks {p1 : Int32} {σ : Sg} {rr : Int32}  (h : XX10_stocks p1 σ = some rr) : Ci MX10_stocks [.ref 64, .int p1] (SHc ++ SHm) σ (rr, σ) := by
  refine Ci.start rfl rfl (Nat.le_of_ble_eq_true rfl) ?_
  intro X ad C R
  replace C : Cx X cX10_stocks 4 RX10 (some .int) { frames := 1, cells := 0, slots := 0, locals := 20 } := C
  replace R : Ri X cX10_stocks (some .int) ad (SHc ++ SHm) (rr, σ) := R
  show AW X 0 0 ad (SHc ++ SHm) σ 0 [some (.ref 64), some (.int p1), none, none] []
  rw [XX10_stocks] at h
  refine a_iconst C eX10_stocks_0 (0 : Int32) c_iconst_0 ?_
  refine a_ist_n C eX10_stocks_1 (Nat.le_of_ble_eq_true rfl) [some (.ref 64), some (.int p1), some (.int (0 : Int32)), none] rfl ?_
  refine a_iconst C eX10_stocks_2 (0 : Int32) c_iconst_0 ?_
  refine a_ist_n C eX10_stocks_3 (Nat.le_of_ble_eq_true rfl) [some (.ref 64), some (.int p1), some (.int (0 : Int32)), some (.int (0 : Int32))] rfl ?_
  exact a_less (lle_same (lle_same (lle_same (lle_same lle_nil)))) (lX10_stocks_4  C R  _ _ _ h)
/-! ShelfDrivesModel.allStocks()I -/
def LX10_allStocks_4 (σ : Sg) (k26_2 : Int32 → Option Int32) : Nat → Int32 → Int32 → Option Int32
  | 0, _, _ => none
  | n + 1, x1_4, x2_5 => b1 (XX10_shops σ) (fun (r_6 : Int32) => if r_6 ≤ x2_5 then (k26_2 x1_4) else (b1 (XX10_stocks x2_5 σ) (fun (r_7 : Int32) => lt (x1_4 + r_7) (fun (x1_8 : Int32) => lt (x2_5 + (1 : Int32)) (fun (x2_9 : Int32) => LX10_allStocks_4 σ k26_2 n x1_8 x2_9)))))
def XX10_allStocks (σ : Sg) : Option Int32 := lt (fun (x1_1 : Int32) => b1 (XX10_number (6 : Int32) σ) (fun (r_3 : Int32) => some (r_3 * x1_1))) (fun (k26_2 : Int32 → Option Int32) => LX10_allStocks_4 σ k26_2 FUEL (0 : Int32) (0 : Int32))
theorem lX10_allStocks_4 {X : CT} {ad : Nat → Nat} {rr : Int32} {σ : Sg} {k26_2 : Int32 → Option Int32}  (C : Cx X cX10_allStocks 3 RX10 (some .int) { frames := 2, cells := 0, slots := 0, locals := 43 }) (R : Ri X cX10_allStocks (some .int) ad (SHc ++ SHm) (rr, σ)) (hk26_2 : ∀ (x1_1 : Int32), k26_2 x1_1 = some rr → AW X 0 0 ad (SHc ++ SHm) σ 26 [some (.ref 64), some (.int x1_1), none] []) : ∀ (n : Nat) (x1_4 : Int32) (x2_5 : Int32), LX10_allStocks_4 σ k26_2 n x1_4 x2_5 = some rr → AW X 0 0 ad (SHc ++ SHm) σ 4 [some (.ref 64), some (.int x1_4), some (.int x2_5)] [] := by
  intro n
  induction n with
  | zero =>
    intro x1_4 x2_5 h
    rw [LX10_allStocks_4] at h
    cases h
  | succ n ih =>
    intro x1_4 x2_5 h
    rw [LX10_allStocks_4] at h
    refine a_iload_n C eX10_allStocks_4 rfl ?_
    refine a_aload_n C eX10_allStocks_5 rfl ?_
    obtain ⟨r_6, hq, h⟩ := b1_e h
    refine a_cVi0 C eX10_allStocks_6 wX10_98 ⟨Nat.le_of_ble_eq_true rfl, Nat.le_of_ble_eq_true rfl, rfl, rfl⟩ rfl sh_64 rfl (kX10_shops hq) (Nat.le_of_ble_eq_true rfl) ?_
    refine a_icmp_ge C eX10_allStocks_9 (fun hc => ?_) (fun hc => ?_)
    · replace h := it hc h
      exact a_less (lle_same (lle_same (lle_drop lle_nil))) (hk26_2 _ h)
    · replace h := ie hc h
      refine a_iload_n C eX10_allStocks_12 rfl ?_
      refine a_aload_n C eX10_allStocks_13 rfl ?_
      refine a_iload_n C eX10_allStocks_14 rfl ?_
      obtain ⟨r_7, hq, h⟩ := b1_e h
      refine a_cVi1 C eX10_allStocks_15 wX10_308 ⟨Nat.le_of_ble_eq_true rfl, Nat.le_of_ble_eq_true rfl, rfl, rfl⟩ rfl sh_64 rfl (kX10_stocks hq) (Nat.le_of_ble_eq_true rfl) ?_
      refine a_iadd C eX10_allStocks_18 ?_
      refine a_lt h (fun x1_8 h => ?_)
      refine a_ist_n C eX10_allStocks_19 (Nat.le_of_ble_eq_true rfl) [some (.ref 64), some (.int x1_8), some (.int x2_5)] rfl ?_
      refine a_inc C eX10_allStocks_20 rfl c_iconst_1 h (fun z => [some (.ref 64), some (.int x1_8), some (.int z)]) (fun _ => rfl) (fun x2_9 h => ?_)
      refine a_goto C eX10_allStocks_23 ?_
      exact a_less (lle_same (lle_same (lle_same lle_nil))) (ih _ _ h)
theorem kX10_allStocks {σ : Sg} {rr : Int32}  (h : XX10_allStocks σ = some rr) : Ci MX10_allStocks [.ref 64] (SHc ++ SHm) σ (rr, σ) := by
  refine Ci.start rfl rfl (Nat.le_of_ble_eq_true rfl) ?_
  intro X ad C R
  replace C : Cx X cX10_allStocks 3 RX10 (some .int) { frames := 2, cells := 0, slots := 0, locals := 43 } := C
  replace R : Ri X cX10_allStocks (some .int) ad (SHc ++ SHm) (rr, σ) := R
  show AW X 0 0 ad (SHc ++ SHm) σ 0 [some (.ref 64), none, none] []
  rw [XX10_allStocks] at h
  refine a_iconst C eX10_allStocks_0 (0 : Int32) c_iconst_0 ?_
  refine a_ist_n C eX10_allStocks_1 (Nat.le_of_ble_eq_true rfl) [some (.ref 64), some (.int (0 : Int32)), none] rfl ?_
  refine a_iconst C eX10_allStocks_2 (0 : Int32) c_iconst_0 ?_
  refine a_ist_n C eX10_allStocks_3 (Nat.le_of_ble_eq_true rfl) [some (.ref 64), some (.int (0 : Int32)), some (.int (0 : Int32))] rfl ?_
  refine jn (fun (kk : Int32 → Option Int32) => ∀ (x1_1 : Int32), kk x1_1 = some rr → AW X 0 0 ad (SHc ++ SHm) σ 26 [some (.ref 64), some (.int x1_1), none] []) h ?_ (fun k26_2 hk26_2 h => ?_)
  · intro x1_1 h
    refine a_aload_n C eX10_allStocks_26 rfl ?_
    refine a_bipush C eX10_allStocks_27 (6 : Int32) c_bipush_6 ?_
    obtain ⟨r_3, hq, h⟩ := b1_e h
    refine a_cVi1 C eX10_allStocks_29 wX10_224 ⟨Nat.le_of_ble_eq_true rfl, Nat.le_of_ble_eq_true rfl, rfl, rfl⟩ rfl sh_64 rfl (kX10_number hq) (Nat.le_of_ble_eq_true rfl) ?_
    refine a_iload_n C eX10_allStocks_32 rfl ?_
    refine a_imul C eX10_allStocks_33 ?_
    exact rt_p R eX10_allStocks_34 h nb_int
  exact a_less (lle_same (lle_same (lle_same lle_nil))) (lX10_allStocks_4  C R hk26_2 _ _ _ h)
/-! ShelfDrivesModel.allLost()I -/
def LX10_allLost_4 (σ : Sg) : Nat → Int32 → Int32 → Option Int32
  | 0, _, _ => none
  | n + 1, x1_1, x2_2 => b1 (XX10_shops σ) (fun (r_3 : Int32) => if r_3 ≤ x2_2 then (some x1_1) else (b1 (XX10_lostBy x2_2 σ) (fun (r_4 : Int32) => lt (x1_1 + r_4) (fun (x1_5 : Int32) => lt (x2_2 + (1 : Int32)) (fun (x2_6 : Int32) => LX10_allLost_4 σ n x1_5 x2_6)))))
def XX10_allLost (σ : Sg) : Option Int32 := LX10_allLost_4 σ FUEL (0 : Int32) (0 : Int32)
theorem lX10_allLost_4 {X : CT} {ad : Nat → Nat} {rr : Int32} {σ : Sg}  (C : Cx X cX10_allLost 3 RX10 (some .int) { frames := 2, cells := 0, slots := 0, locals := 43 }) (R : Ri X cX10_allLost (some .int) ad (SHc ++ SHm) (rr, σ))  : ∀ (n : Nat) (x1_1 : Int32) (x2_2 : Int32), LX10_allLost_4 σ n x1_1 x2_2 = some rr → AW X 0 0 ad (SHc ++ SHm) σ 4 [some (.ref 64), some (.int x1_1), some (.int x2_2)] [] := by
  intro n
  induction n with
  | zero =>
    intro x1_1 x2_2 h
    rw [LX10_allLost_4] at h
    cases h
  | succ n ih =>
    intro x1_1 x2_2 h
    rw [LX10_allLost_4] at h
    refine a_iload_n C eX10_allLost_4 rfl ?_
    refine a_aload_n C eX10_allLost_5 rfl ?_
    obtain ⟨r_3, hq, h⟩ := b1_e h
    refine a_cVi0 C eX10_allLost_6 wX10_98 ⟨Nat.le_of_ble_eq_true rfl, Nat.le_of_ble_eq_true rfl, rfl, rfl⟩ rfl sh_64 rfl (kX10_shops hq) (Nat.le_of_ble_eq_true rfl) ?_
    refine a_icmp_ge C eX10_allLost_9 (fun hc => ?_) (fun hc => ?_)
    · replace h := it hc h
      refine a_iload_n C eX10_allLost_26 rfl ?_
      exact rt_p R eX10_allLost_27 h nb_int
    · replace h := ie hc h
      refine a_iload_n C eX10_allLost_12 rfl ?_
      refine a_aload_n C eX10_allLost_13 rfl ?_
      refine a_iload_n C eX10_allLost_14 rfl ?_
      obtain ⟨r_4, hq, h⟩ := b1_e h
      refine a_cVi1 C eX10_allLost_15 wX10_268 ⟨Nat.le_of_ble_eq_true rfl, Nat.le_of_ble_eq_true rfl, rfl, rfl⟩ rfl sh_64 rfl (kX10_lostBy hq) (Nat.le_of_ble_eq_true rfl) ?_
      refine a_iadd C eX10_allLost_18 ?_
      refine a_lt h (fun x1_5 h => ?_)
      refine a_ist_n C eX10_allLost_19 (Nat.le_of_ble_eq_true rfl) [some (.ref 64), some (.int x1_5), some (.int x2_2)] rfl ?_
      refine a_inc C eX10_allLost_20 rfl c_iconst_1 h (fun z => [some (.ref 64), some (.int x1_5), some (.int z)]) (fun _ => rfl) (fun x2_6 h => ?_)
      refine a_goto C eX10_allLost_23 ?_
      exact a_less (lle_same (lle_same (lle_same lle_nil))) (ih _ _ h)
theorem kX10_allLost {σ : Sg} {rr : Int32}  (h : XX10_allLost σ = some rr) : Ci MX10_allLost [.ref 64] (SHc ++ SHm) σ (rr, σ) := by
  refine Ci.start rfl rfl (Nat.le_of_ble_eq_true rfl) ?_
  intro X ad C R
  replace C : Cx X cX10_allLost 3 RX10 (some .int) { frames := 2, cells := 0, slots := 0, locals := 43 } := C
  replace R : Ri X cX10_allLost (some .int) ad (SHc ++ SHm) (rr, σ) := R
  show AW X 0 0 ad (SHc ++ SHm) σ 0 [some (.ref 64), none, none] []
  rw [XX10_allLost] at h
  refine a_iconst C eX10_allLost_0 (0 : Int32) c_iconst_0 ?_
  refine a_ist_n C eX10_allLost_1 (Nat.le_of_ble_eq_true rfl) [some (.ref 64), some (.int (0 : Int32)), none] rfl ?_
  refine a_iconst C eX10_allLost_2 (0 : Int32) c_iconst_0 ?_
  refine a_ist_n C eX10_allLost_3 (Nat.le_of_ble_eq_true rfl) [some (.ref 64), some (.int (0 : Int32)), some (.int (0 : Int32))] rfl ?_
  exact a_less (lle_same (lle_same (lle_same lle_nil))) (lX10_allLost_4  C R  _ _ _ h)
/-! ShelfDrivesModel.costNow()I -/
def XX10_costNow (σ : Sg) : Option (Int32 × Sg) := b1 (XX10_runAll σ) (fun (σ_1 : Sg) => b1 (XX10_number (3 : Int32) σ_1) (fun (r_2 : Int32) => b2 (XX10_allRounds r_2 σ_1) (fun (r_3 : Int32) (σ_4 : Sg) => b1 (XX10_allStocks σ_4) (fun (r_5 : Int32) => b1 (XX10_number (7 : Int32) σ_4) (fun (r_6 : Int32) => b1 (XX10_allLost σ_4) (fun (r_7 : Int32) => some ((r_3 + r_5) + (r_6 * r_7), σ_4)))))))
theorem kX10_costNow {σ : Sg} {rr : (Int32 × Sg)}  (h : XX10_costNow σ = some rr) : Ci MX10_costNow [.ref 64] (SHc ++ SHm) σ rr := by
  refine Ci.start rfl rfl (Nat.le_of_ble_eq_true rfl) ?_
  intro X ad C R
  replace C : Cx X cX10_costNow 1 RX10 (some .int) { frames := 6, cells := 0, slots := 0, locals := 140 } := C
  replace R : Ri X cX10_costNow (some .int) ad (SHc ++ SHm) rr := R
  show AW X 0 0 ad (SHc ++ SHm) σ 0 [some (.ref 64)] []
  rw [XX10_costNow] at h
  refine a_aload_n C eX10_costNow_0 rfl ?_
  obtain ⟨σ_1, hq, h⟩ := b1_e h
  refine a_cVv0 C eX10_costNow_1 wX10_253 ⟨Nat.le_of_ble_eq_true rfl, Nat.le_of_ble_eq_true rfl, rfl, rfl⟩ rfl sh_64 rfl (kX10_runAll hq) (Nat.le_of_ble_eq_true rfl) ?_
  refine a_aload_n C eX10_costNow_4 rfl ?_
  refine a_aload_n C eX10_costNow_5 rfl ?_
  refine a_iconst C eX10_costNow_6 (3 : Int32) c_iconst_3 ?_
  obtain ⟨r_2, hq, h⟩ := b1_e h
  refine a_cVi1 C eX10_costNow_7 wX10_224 ⟨Nat.le_of_ble_eq_true rfl, Nat.le_of_ble_eq_true rfl, rfl, rfl⟩ rfl sh_64 rfl (kX10_number hq) (Nat.le_of_ble_eq_true rfl) ?_
  obtain ⟨r_3, σ_4, hq, h⟩ := b2_e h
  refine a_cVi1 C eX10_costNow_10 wX10_311 ⟨Nat.le_of_ble_eq_true rfl, Nat.le_of_ble_eq_true rfl, rfl, rfl⟩ rfl sh_64 rfl (kX10_allRounds hq) (Nat.le_of_ble_eq_true rfl) ?_
  refine a_aload_n C eX10_costNow_13 rfl ?_
  obtain ⟨r_5, hq, h⟩ := b1_e h
  refine a_cVi0 C eX10_costNow_14 wX10_314 ⟨Nat.le_of_ble_eq_true rfl, Nat.le_of_ble_eq_true rfl, rfl, rfl⟩ rfl sh_64 rfl (kX10_allStocks hq) (Nat.le_of_ble_eq_true rfl) ?_
  refine a_iadd C eX10_costNow_17 ?_
  refine a_aload_n C eX10_costNow_18 rfl ?_
  refine a_bipush C eX10_costNow_19 (7 : Int32) c_bipush_7 ?_
  obtain ⟨r_6, hq, h⟩ := b1_e h
  refine a_cVi1 C eX10_costNow_21 wX10_224 ⟨Nat.le_of_ble_eq_true rfl, Nat.le_of_ble_eq_true rfl, rfl, rfl⟩ rfl sh_64 rfl (kX10_number hq) (Nat.le_of_ble_eq_true rfl) ?_
  refine a_aload_n C eX10_costNow_24 rfl ?_
  obtain ⟨r_7, hq, h⟩ := b1_e h
  refine a_cVi0 C eX10_costNow_25 wX10_317 ⟨Nat.le_of_ble_eq_true rfl, Nat.le_of_ble_eq_true rfl, rfl, rfl⟩ rfl sh_64 rfl (kX10_allLost hq) (Nat.le_of_ble_eq_true rfl) ?_
  refine a_imul C eX10_costNow_28 ?_
  refine a_iadd C eX10_costNow_29 ?_
  exact rt_i R eX10_costNow_30 h nb_int
/-! ShelfDrivesModel.cost(I)I -/
def XX10_cost (p1 : Int32) (σ : Sg) : Option (Int32 × Sg) := lt (up σ 64 0 (0 : Int32)) (fun (σ_1 : Sg) => b1 (XX10_in p1 (0 : Int32) (3 : Int32)) (fun (r_2 : Int32) => if r_2 = 0 then (some ((-1 : Int32), σ_1)) else (b1 (XX10_layAsked (100 : Int32) σ_1) (fun (σ_3 : Sg) => b2 (XX10_costNow σ_3) (fun (r_4 : Int32) (σ_5 : Sg) => if p1 = 0 then (some (r_4, σ_5)) else (if p1 = (1 : Int32) then (b1 (XX10_number (3 : Int32) σ_5) (fun (r_9 : Int32) => b2 (XX10_allRounds r_9 σ_5) (fun (r_10 : Int32) (σ_11 : Sg) => some (r_10, σ_11)))) else (if p1 = (2 : Int32) then (b1 (XX10_allStocks σ_5) (fun (r_8 : Int32) => some (r_8, σ_5))) else (b1 (XX10_number (7 : Int32) σ_5) (fun (r_6 : Int32) => b1 (XX10_allLost σ_5) (fun (r_7 : Int32) => some (r_6 * r_7, σ_5)))))))))))
theorem kX10_cost {p1 : Int32} {σ : Sg} {rr : (Int32 × Sg)}  (h : XX10_cost p1 σ = some rr) : Ci MX10_cost [.ref 64, .int p1] (SHc ++ SHm) σ rr := by
  refine Ci.start rfl rfl (Nat.le_of_ble_eq_true rfl) ?_
  intro X ad C R
  replace C : Cx X cX10_cost 3 RX10 (some .int) { frames := 7, cells := 0, slots := 0, locals := 160 } := C
  replace R : Ri X cX10_cost (some .int) ad (SHc ++ SHm) rr := R
  show AW X 0 0 ad (SHc ++ SHm) σ 0 [some (.ref 64), some (.int p1), none] []
  rw [XX10_cost] at h
  refine a_aload_n C eX10_cost_0 rfl ?_
  refine a_iconst C eX10_cost_1 (0 : Int32) c_iconst_0 ?_
  refine a_putIL C eX10_cost_2 fX10_95 ftyX10 rfl rfl sh_64 rfl h (fun σ_1 h => ?_)
  refine a_iload_n C eX10_cost_5 rfl ?_
  refine a_iconst C eX10_cost_6 (0 : Int32) c_iconst_0 ?_
  refine a_iconst C eX10_cost_7 (3 : Int32) c_iconst_3 ?_
  obtain ⟨r_2, hq, h⟩ := b1_e h
  refine a_cSi3 C eX10_cost_8 wX10_102 ⟨Nat.le_of_ble_eq_true rfl, Nat.le_of_ble_eq_true rfl, rfl, rfl⟩ rfl (kX10_in hq) (Nat.le_of_ble_eq_true rfl) ?_
  refine a_if_ne C eX10_cost_11 (fun hc => ?_) (fun hc => ?_)
  · replace h := ie hc h
    refine a_aload_n C eX10_cost_16 rfl ?_
    refine a_bipush C eX10_cost_17 (100 : Int32) c_bipush_100 ?_
    obtain ⟨σ_3, hq, h⟩ := b1_e h
    refine a_cVv1 C eX10_cost_19 wX10_250 ⟨Nat.le_of_ble_eq_true rfl, Nat.le_of_ble_eq_true rfl, rfl, rfl⟩ rfl sh_64 rfl (kX10_layAsked hq) (Nat.le_of_ble_eq_true rfl) ?_
    refine a_aload_n C eX10_cost_22 rfl ?_
    obtain ⟨r_4, σ_5, hq, h⟩ := b2_e h
    refine a_cVi0 C eX10_cost_23 wX10_320 ⟨Nat.le_of_ble_eq_true rfl, Nat.le_of_ble_eq_true rfl, rfl, rfl⟩ rfl sh_64 rfl (kX10_costNow hq) (Nat.le_of_ble_eq_true rfl) ?_
    refine a_ist_n C eX10_cost_26 (Nat.le_of_ble_eq_true rfl) [some (.ref 64), some (.int p1), some (.int r_4)] rfl ?_
    refine a_iload_n C eX10_cost_27 rfl ?_
    refine a_if_ne C eX10_cost_28 (fun hc => ?_) (fun hc => ?_)
    · replace h := ie hc h
      refine a_iload_n C eX10_cost_35 rfl ?_
      refine a_iconst C eX10_cost_36 (1 : Int32) c_iconst_1 ?_
      refine a_icmp_ne C eX10_cost_37 (fun hc => ?_) (fun hc => ?_)
      · replace h := ie hc h
        refine a_iload_n C eX10_cost_52 rfl ?_
        refine a_iconst C eX10_cost_53 (2 : Int32) c_iconst_2 ?_
        refine a_icmp_ne C eX10_cost_54 (fun hc => ?_) (fun hc => ?_)
        · replace h := ie hc h
          refine a_aload_n C eX10_cost_64 rfl ?_
          refine a_bipush C eX10_cost_65 (7 : Int32) c_bipush_7 ?_
          obtain ⟨r_6, hq, h⟩ := b1_e h
          refine a_cVi1 C eX10_cost_67 wX10_224 ⟨Nat.le_of_ble_eq_true rfl, Nat.le_of_ble_eq_true rfl, rfl, rfl⟩ rfl sh_64 rfl (kX10_number hq) (Nat.le_of_ble_eq_true rfl) ?_
          refine a_aload_n C eX10_cost_70 rfl ?_
          obtain ⟨r_7, hq, h⟩ := b1_e h
          refine a_cVi0 C eX10_cost_71 wX10_317 ⟨Nat.le_of_ble_eq_true rfl, Nat.le_of_ble_eq_true rfl, rfl, rfl⟩ rfl sh_64 rfl (kX10_allLost hq) (Nat.le_of_ble_eq_true rfl) ?_
          refine a_imul C eX10_cost_74 ?_
          exact rt_i R eX10_cost_75 h nb_int
        · replace h := it hc h
          refine a_aload_n C eX10_cost_57 rfl ?_
          obtain ⟨r_8, hq, h⟩ := b1_e h
          refine a_cVi0 C eX10_cost_58 wX10_314 ⟨Nat.le_of_ble_eq_true rfl, Nat.le_of_ble_eq_true rfl, rfl, rfl⟩ rfl sh_64 rfl (kX10_allStocks hq) (Nat.le_of_ble_eq_true rfl) ?_
          refine a_goto C eX10_cost_61 ?_
          exact rt_i R eX10_cost_75 h nb_int
      · replace h := it hc h
        refine a_aload_n C eX10_cost_40 rfl ?_
        refine a_aload_n C eX10_cost_41 rfl ?_
        refine a_iconst C eX10_cost_42 (3 : Int32) c_iconst_3 ?_
        obtain ⟨r_9, hq, h⟩ := b1_e h
        refine a_cVi1 C eX10_cost_43 wX10_224 ⟨Nat.le_of_ble_eq_true rfl, Nat.le_of_ble_eq_true rfl, rfl, rfl⟩ rfl sh_64 rfl (kX10_number hq) (Nat.le_of_ble_eq_true rfl) ?_
        obtain ⟨r_10, σ_11, hq, h⟩ := b2_e h
        refine a_cVi1 C eX10_cost_46 wX10_311 ⟨Nat.le_of_ble_eq_true rfl, Nat.le_of_ble_eq_true rfl, rfl, rfl⟩ rfl sh_64 rfl (kX10_allRounds hq) (Nat.le_of_ble_eq_true rfl) ?_
        refine a_goto C eX10_cost_49 ?_
        exact rt_i R eX10_cost_75 h nb_int
    · replace h := it hc h
      refine a_iload_n C eX10_cost_31 rfl ?_
      refine a_goto C eX10_cost_32 ?_
      exact rt_i R eX10_cost_75 h nb_int
  · replace h := it hc h
    refine a_iconst C eX10_cost_14 (-1 : Int32) c_iconst_m1 ?_
    exact rt_i R eX10_cost_15 h nb_int
/-! ShelfDrivesModel.costOf(I)I -/
def XX10_costOf (p1 : Int32) (σ : Sg) : Option (Int32 × Sg) := lt (up σ 64 0 (0 : Int32)) (fun (σ_1 : Sg) => b1 (XX10_isDay p1 σ_1) (fun (r_2 : Int32) => if r_2 = 0 then (some ((-1 : Int32), σ_1)) else (b1 (XX10_layRun σ_1) (fun (σ_3 : Sg) => b1 (XX10_number (3 : Int32) σ_3) (fun (r_4 : Int32) => b2 (XX10_roundsCost p1 r_4 σ_3) (fun (r_5 : Int32) (σ_6 : Sg) => some (r_5, σ_6)))))))
theorem kX10_costOf {p1 : Int32} {σ : Sg} {rr : (Int32 × Sg)}  (h : XX10_costOf p1 σ = some rr) : Ci MX10_costOf [.ref 64, .int p1] (SHc ++ SHm) σ rr := by
  refine Ci.start rfl rfl (Nat.le_of_ble_eq_true rfl) ?_
  intro X ad C R
  replace C : Cx X cX10_costOf 2 RX10 (some .int) { frames := 5, cells := 0, slots := 0, locals := 116 } := C
  replace R : Ri X cX10_costOf (some .int) ad (SHc ++ SHm) rr := R
  show AW X 0 0 ad (SHc ++ SHm) σ 0 [some (.ref 64), some (.int p1)] []
  rw [XX10_costOf] at h
  refine a_aload_n C eX10_costOf_0 rfl ?_
  refine a_iconst C eX10_costOf_1 (0 : Int32) c_iconst_0 ?_
  refine a_putIL C eX10_costOf_2 fX10_95 ftyX10 rfl rfl sh_64 rfl h (fun σ_1 h => ?_)
  refine a_aload_n C eX10_costOf_5 rfl ?_
  refine a_iload_n C eX10_costOf_6 rfl ?_
  obtain ⟨r_2, hq, h⟩ := b1_e h
  refine a_cVi1 C eX10_costOf_7 wX10_256 ⟨Nat.le_of_ble_eq_true rfl, Nat.le_of_ble_eq_true rfl, rfl, rfl⟩ rfl sh_64 rfl (kX10_isDay hq) (Nat.le_of_ble_eq_true rfl) ?_
  refine a_if_ne C eX10_costOf_10 (fun hc => ?_) (fun hc => ?_)
  · replace h := ie hc h
    refine a_aload_n C eX10_costOf_15 rfl ?_
    obtain ⟨σ_3, hq, h⟩ := b1_e h
    refine a_cVv0 C eX10_costOf_16 wX10_262 ⟨Nat.le_of_ble_eq_true rfl, Nat.le_of_ble_eq_true rfl, rfl, rfl⟩ rfl sh_64 rfl (kX10_layRun hq) (Nat.le_of_ble_eq_true rfl) ?_
    refine a_aload_n C eX10_costOf_19 rfl ?_
    refine a_iload_n C eX10_costOf_20 rfl ?_
    refine a_aload_n C eX10_costOf_21 rfl ?_
    refine a_iconst C eX10_costOf_22 (3 : Int32) c_iconst_3 ?_
    obtain ⟨r_4, hq, h⟩ := b1_e h
    refine a_cVi1 C eX10_costOf_23 wX10_224 ⟨Nat.le_of_ble_eq_true rfl, Nat.le_of_ble_eq_true rfl, rfl, rfl⟩ rfl sh_64 rfl (kX10_number hq) (Nat.le_of_ble_eq_true rfl) ?_
    obtain ⟨r_5, σ_6, hq, h⟩ := b2_e h
    refine a_cVi2 C eX10_costOf_26 wX10_305 ⟨Nat.le_of_ble_eq_true rfl, Nat.le_of_ble_eq_true rfl, rfl, rfl⟩ rfl sh_64 rfl (kX10_roundsCost hq) (Nat.le_of_ble_eq_true rfl) ?_
    exact rt_i R eX10_costOf_29 h nb_int
  · replace h := it hc h
    refine a_iconst C eX10_costOf_13 (-1 : Int32) c_iconst_m1 ?_
    exact rt_i R eX10_costOf_14 h nb_int
/-! ShelfDrivesModel.worth(II)I -/
def XX10_worth (p1 : Int32) (p2 : Int32) (σ : Sg) : Option (Int32 × Sg) := lt (up σ 64 0 (0 : Int32)) (fun (σ_1 : Sg) => b1 (XX10_isAt p1 p2 σ_1) (fun (r_2 : Int32) => if r_2 = 0 then (some ((-1000000 : Int32), σ_1)) else (b1 (XX10_layAsked (100 : Int32) σ_1) (fun (σ_3 : Sg) => b2 (XX10_costNow σ_3) (fun (r_4 : Int32) (σ_5 : Sg) => if ib p1 6 then lt (up σ_5 78 p1.toNatClampNeg ((σ_5 78 p1.toNatClampNeg) ^^^ ((1 : Int32) <<< (p2 &&& 31)))) (fun (σ_7 : Sg) => b2 (XX10_costNow σ_7) (fun (r_8 : Int32) (σ_9 : Sg) => lt (up σ_9 78 p1.toNatClampNeg ((σ_9 78 p1.toNatClampNeg) ^^^ ((1 : Int32) <<< (p2 &&& 31)))) (fun (σ_10 : Sg) => some (r_4 - r_8, σ_10)))) else none)))))
theorem kX10_worth {p1 : Int32} {p2 : Int32} {σ : Sg} {rr : (Int32 × Sg)}  (h : XX10_worth p1 p2 σ = some rr) : Ci MX10_worth [.ref 64, .int p1, .int p2] (SHc ++ SHm) σ rr := by
  refine Ci.start rfl rfl (Nat.le_of_ble_eq_true rfl) ?_
  intro X ad C R
  replace C : Cx X cX10_worth 5 RX10 (some .int) { frames := 7, cells := 0, slots := 0, locals := 160 } := C
  replace R : Ri X cX10_worth (some .int) ad (SHc ++ SHm) rr := R
  show AW X 0 0 ad (SHc ++ SHm) σ 0 [some (.ref 64), some (.int p1), some (.int p2), none, none] []
  rw [XX10_worth] at h
  refine a_aload_n C eX10_worth_0 rfl ?_
  refine a_iconst C eX10_worth_1 (0 : Int32) c_iconst_0 ?_
  refine a_putIL C eX10_worth_2 fX10_95 ftyX10 rfl rfl sh_64 rfl h (fun σ_1 h => ?_)
  refine a_aload_n C eX10_worth_5 rfl ?_
  refine a_iload_n C eX10_worth_6 rfl ?_
  refine a_iload_n C eX10_worth_7 rfl ?_
  obtain ⟨r_2, hq, h⟩ := b1_e h
  refine a_cVi2 C eX10_worth_8 wX10_259 ⟨Nat.le_of_ble_eq_true rfl, Nat.le_of_ble_eq_true rfl, rfl, rfl⟩ rfl sh_64 rfl (kX10_isAt hq) (Nat.le_of_ble_eq_true rfl) ?_
  refine a_if_ne C eX10_worth_11 (fun hc => ?_) (fun hc => ?_)
  · replace h := ie hc h
    refine a_aload_n C eX10_worth_17 rfl ?_
    refine a_bipush C eX10_worth_18 (100 : Int32) c_bipush_100 ?_
    obtain ⟨σ_3, hq, h⟩ := b1_e h
    refine a_cVv1 C eX10_worth_20 wX10_250 ⟨Nat.le_of_ble_eq_true rfl, Nat.le_of_ble_eq_true rfl, rfl, rfl⟩ rfl sh_64 rfl (kX10_layAsked hq) (Nat.le_of_ble_eq_true rfl) ?_
    refine a_aload_n C eX10_worth_23 rfl ?_
    obtain ⟨r_4, σ_5, hq, h⟩ := b2_e h
    refine a_cVi0 C eX10_worth_24 wX10_320 ⟨Nat.le_of_ble_eq_true rfl, Nat.le_of_ble_eq_true rfl, rfl, rfl⟩ rfl sh_64 rfl (kX10_costNow hq) (Nat.le_of_ble_eq_true rfl) ?_
    refine a_ist_n C eX10_worth_27 (Nat.le_of_ble_eq_true rfl) [some (.ref 64), some (.int p1), some (.int p2), some (.int r_4), none] rfl ?_
    refine a_aload_n C eX10_worth_28 rfl ?_
    refine a_getR C eX10_worth_29 fX10_53 sh_64 rfl ?_
    refine a_iload_n C eX10_worth_32 rfl ?_
    refine a_dup2 C eX10_worth_33 rfl rfl ?_
    obtain ⟨hb_6, h⟩ := gd h
    refine a_iald C eX10_worth_34 sh_78 hb_6 ?_
    refine a_iconst C eX10_worth_35 (1 : Int32) c_iconst_1 ?_
    refine a_iload_n C eX10_worth_36 rfl ?_
    refine a_ishl C eX10_worth_37 ?_
    refine a_ixor C eX10_worth_38 ?_
    refine a_iastL C eX10_worth_39 sh_78 hb_6 h (fun σ_7 h => ?_)
    refine a_aload_n C eX10_worth_40 rfl ?_
    obtain ⟨r_8, σ_9, hq, h⟩ := b2_e h
    refine a_cVi0 C eX10_worth_41 wX10_320 ⟨Nat.le_of_ble_eq_true rfl, Nat.le_of_ble_eq_true rfl, rfl, rfl⟩ rfl sh_64 rfl (kX10_costNow hq) (Nat.le_of_ble_eq_true rfl) ?_
    refine a_ist C eX10_worth_44 (Nat.le_of_ble_eq_true rfl) [some (.ref 64), some (.int p1), some (.int p2), some (.int r_4), some (.int r_8)] rfl ?_
    refine a_aload_n C eX10_worth_46 rfl ?_
    refine a_getR C eX10_worth_47 fX10_53 sh_64 rfl ?_
    refine a_iload_n C eX10_worth_50 rfl ?_
    refine a_dup2 C eX10_worth_51 rfl rfl ?_
    refine a_iald C eX10_worth_52 sh_78 hb_6 ?_
    refine a_iconst C eX10_worth_53 (1 : Int32) c_iconst_1 ?_
    refine a_iload_n C eX10_worth_54 rfl ?_
    refine a_ishl C eX10_worth_55 ?_
    refine a_ixor C eX10_worth_56 ?_
    refine a_iastL C eX10_worth_57 sh_78 hb_6 h (fun σ_10 h => ?_)
    refine a_iload_n C eX10_worth_58 rfl ?_
    refine a_iload C eX10_worth_59 rfl ?_
    refine a_isub C eX10_worth_61 ?_
    exact rt_i R eX10_worth_62 h nb_int
  · replace h := it hc h
    refine a_ldc C eX10_worth_14 (-1000000 : Int32) wkX10_236 ?_
    exact rt_i R eX10_worth_16 h nb_int
/-! ShelfDrivesModel.truck(I)I -/
def LX10_truck_18 (p1 : Int32) : Nat → Int32 → Sg → Option (Int32 × Sg)
  | 0, _, _ => none
  | n + 1, x2_3, σ_4 => if (99 : Int32) < x2_3 then (some ((-1 : Int32), σ_4)) else (b2 (XX10_allRounds x2_3 σ_4) (fun (r_5 : Int32) (σ_6 : Sg) => lt (lt (x2_3 + (1 : Int32)) (fun (x2_8 : Int32) => LX10_truck_18 p1 n x2_8 σ_6)) (fun (k58_7 : Option (Int32 × Sg)) => if r_5 < 0 then (k58_7) else (b1 (XX10_allStocks σ_6) (fun (r_9 : Int32) => b1 (XX10_number (7 : Int32) σ_6) (fun (r_10 : Int32) => b1 (XX10_allLost σ_6) (fun (r_11 : Int32) => if p1 < ((r_5 + r_9) + (r_10 * r_11)) then (k58_7) else (some (x2_3, σ_6)))))))))
def XX10_truck (p1 : Int32) (σ : Sg) : Option (Int32 × Sg) := lt (up σ 64 0 (0 : Int32)) (fun (σ_1 : Sg) => if 0 ≤ p1 then (b1 (XX10_layRun σ_1) (fun (σ_2 : Sg) => LX10_truck_18 p1 FUEL (1 : Int32) σ_2)) else (some ((-2 : Int32), σ_1)))
theorem lX10_truck_18 {X : CT} {ad : Nat → Nat} {rr : (Int32 × Sg)} {p1 : Int32}  (C : Cx X cX10_truck 4 RX10 (some .int) { frames := 6, cells := 0, slots := 0, locals := 140 }) (R : Ri X cX10_truck (some .int) ad (SHc ++ SHm) rr)  : ∀ (n : Nat) (x2_3 : Int32) (σ_4 : Sg), LX10_truck_18 p1 n x2_3 σ_4 = some rr → AW X 0 0 ad (SHc ++ SHm) σ_4 18 [some (.ref 64), some (.int p1), some (.int x2_3), none] [] := by
  intro n
  induction n with
  | zero =>
    intro x2_3 σ_4 h
    rw [LX10_truck_18] at h
    cases h
  | succ n ih =>
    intro x2_3 σ_4 h
    rw [LX10_truck_18] at h
    refine a_iload_n C eX10_truck_18 rfl ?_
    refine a_bipush C eX10_truck_19 (99 : Int32) c_bipush_99 ?_
    refine a_icmp_gt C eX10_truck_21 (fun hc => ?_) (fun hc => ?_)
    · replace h := it hc h
      refine a_iconst C eX10_truck_64 (-1 : Int32) c_iconst_m1 ?_
      exact rt_i R eX10_truck_65 h nb_int
    · replace h := ie hc h
      refine a_aload_n C eX10_truck_24 rfl ?_
      refine a_iload_n C eX10_truck_25 rfl ?_
      obtain ⟨r_5, σ_6, hq, h⟩ := b2_e h
      refine a_cVi1 C eX10_truck_26 wX10_311 ⟨Nat.le_of_ble_eq_true rfl, Nat.le_of_ble_eq_true rfl, rfl, rfl⟩ rfl sh_64 rfl (kX10_allRounds hq) (Nat.le_of_ble_eq_true rfl) ?_
      refine a_ist_n C eX10_truck_29 (Nat.le_of_ble_eq_true rfl) [some (.ref 64), some (.int p1), some (.int x2_3), some (.int r_5)] rfl ?_
      refine a_iload_n C eX10_truck_30 rfl ?_
      refine jn (fun (kk : Option (Int32 × Sg)) => kk = some rr → AW X 0 0 ad (SHc ++ SHm) σ_6 58 [some (.ref 64), some (.int p1), some (.int x2_3), none] []) h ?_ (fun k58_7 hk58_7 h => ?_)
      · intro h
        refine a_inc C eX10_truck_58 rfl c_iconst_1 h (fun z => [some (.ref 64), some (.int p1), some (.int z), none]) (fun _ => rfl) (fun x2_8 h => ?_)
        refine a_goto C eX10_truck_61 ?_
        exact a_less (lle_same (lle_same (lle_same (lle_same lle_nil)))) (ih _ _ h)
      refine a_if_lt C eX10_truck_31 (fun hc => ?_) (fun hc => ?_)
      · replace h := it hc h
        exact a_less (lle_same (lle_same (lle_same (lle_drop lle_nil)))) (hk58_7 h)
      · replace h := ie hc h
        refine a_iload_n C eX10_truck_34 rfl ?_
        refine a_aload_n C eX10_truck_35 rfl ?_
        obtain ⟨r_9, hq, h⟩ := b1_e h
        refine a_cVi0 C eX10_truck_36 wX10_314 ⟨Nat.le_of_ble_eq_true rfl, Nat.le_of_ble_eq_true rfl, rfl, rfl⟩ rfl sh_64 rfl (kX10_allStocks hq) (Nat.le_of_ble_eq_true rfl) ?_
        refine a_iadd C eX10_truck_39 ?_
        refine a_aload_n C eX10_truck_40 rfl ?_
        refine a_bipush C eX10_truck_41 (7 : Int32) c_bipush_7 ?_
        obtain ⟨r_10, hq, h⟩ := b1_e h
        refine a_cVi1 C eX10_truck_43 wX10_224 ⟨Nat.le_of_ble_eq_true rfl, Nat.le_of_ble_eq_true rfl, rfl, rfl⟩ rfl sh_64 rfl (kX10_number hq) (Nat.le_of_ble_eq_true rfl) ?_
        refine a_aload_n C eX10_truck_46 rfl ?_
        obtain ⟨r_11, hq, h⟩ := b1_e h
        refine a_cVi0 C eX10_truck_47 wX10_317 ⟨Nat.le_of_ble_eq_true rfl, Nat.le_of_ble_eq_true rfl, rfl, rfl⟩ rfl sh_64 rfl (kX10_allLost hq) (Nat.le_of_ble_eq_true rfl) ?_
        refine a_imul C eX10_truck_50 ?_
        refine a_iadd C eX10_truck_51 ?_
        refine a_iload_n C eX10_truck_52 rfl ?_
        refine a_icmp_gt C eX10_truck_53 (fun hc => ?_) (fun hc => ?_)
        · replace h := it hc h
          exact a_less (lle_same (lle_same (lle_same (lle_drop lle_nil)))) (hk58_7 h)
        · replace h := ie hc h
          refine a_iload_n C eX10_truck_56 rfl ?_
          exact rt_i R eX10_truck_57 h nb_int
theorem kX10_truck {p1 : Int32} {σ : Sg} {rr : (Int32 × Sg)}  (h : XX10_truck p1 σ = some rr) : Ci MX10_truck [.ref 64, .int p1] (SHc ++ SHm) σ rr := by
  refine Ci.start rfl rfl (Nat.le_of_ble_eq_true rfl) ?_
  intro X ad C R
  replace C : Cx X cX10_truck 4 RX10 (some .int) { frames := 6, cells := 0, slots := 0, locals := 140 } := C
  replace R : Ri X cX10_truck (some .int) ad (SHc ++ SHm) rr := R
  show AW X 0 0 ad (SHc ++ SHm) σ 0 [some (.ref 64), some (.int p1), none, none] []
  rw [XX10_truck] at h
  refine a_aload_n C eX10_truck_0 rfl ?_
  refine a_iconst C eX10_truck_1 (0 : Int32) c_iconst_0 ?_
  refine a_putIL C eX10_truck_2 fX10_95 ftyX10 rfl rfl sh_64 rfl h (fun σ_1 h => ?_)
  refine a_iload_n C eX10_truck_5 rfl ?_
  refine a_if_ge C eX10_truck_6 (fun hc => ?_) (fun hc => ?_)
  · replace h := it hc h
    refine a_aload_n C eX10_truck_12 rfl ?_
    obtain ⟨σ_2, hq, h⟩ := b1_e h
    refine a_cVv0 C eX10_truck_13 wX10_262 ⟨Nat.le_of_ble_eq_true rfl, Nat.le_of_ble_eq_true rfl, rfl, rfl⟩ rfl sh_64 rfl (kX10_layRun hq) (Nat.le_of_ble_eq_true rfl) ?_
    refine a_iconst C eX10_truck_16 (1 : Int32) c_iconst_1 ?_
    refine a_ist_n C eX10_truck_17 (Nat.le_of_ble_eq_true rfl) [some (.ref 64), some (.int p1), some (.int (1 : Int32)), none] rfl ?_
    exact a_less (lle_same (lle_same (lle_same (lle_same lle_nil)))) (lX10_truck_18  C R  _ _ _ h)
  · replace h := ie hc h
    refine a_bipush C eX10_truck_9 (-2 : Int32) c_bipush_m2 ?_
    exact rt_i R eX10_truck_11 h nb_int
/-! ShelfDrivesModel.reach()I -/
def LX10_reach_9 : Nat → Int32 → Sg → Option (Int32 × Sg)
  | 0, _, _ => none
  | n + 1, x1_2, σ_3 => if x1_2 < 0 then (some ((-1 : Int32), σ_3)) else (b1 (XX10_layAsked x1_2 σ_3) (fun (σ_4 : Sg) => b1 (XX10_runAll σ_4) (fun (σ_5 : Sg) => b1 (XX10_allLost σ_5) (fun (r_6 : Int32) => if r_6 = 0 then (some (x1_2, σ_5)) else (lt (x1_2 + (-1 : Int32)) (fun (x1_7 : Int32) => LX10_reach_9 n x1_7 σ_5))))))
def XX10_reach (σ : Sg) : Option (Int32 × Sg) := lt (up σ 64 0 (0 : Int32)) (fun (σ_1 : Sg) => LX10_reach_9 FUEL (300 : Int32) σ_1)
theorem lX10_reach_9 {X : CT} {ad : Nat → Nat} {rr : (Int32 × Sg)}   (C : Cx X cX10_reach 2 RX10 (some .int) { frames := 3, cells := 0, slots := 0, locals := 68 }) (R : Ri X cX10_reach (some .int) ad (SHc ++ SHm) rr)  : ∀ (n : Nat) (x1_2 : Int32) (σ_3 : Sg), LX10_reach_9 n x1_2 σ_3 = some rr → AW X 0 0 ad (SHc ++ SHm) σ_3 9 [some (.ref 64), some (.int x1_2)] [] := by
  intro n
  induction n with
  | zero =>
    intro x1_2 σ_3 h
    rw [LX10_reach_9] at h
    cases h
  | succ n ih =>
    intro x1_2 σ_3 h
    rw [LX10_reach_9] at h
    refine a_iload_n C eX10_reach_9 rfl ?_
    refine a_if_lt C eX10_reach_10 (fun hc => ?_) (fun hc => ?_)
    · replace h := it hc h
      refine a_iconst C eX10_reach_37 (-1 : Int32) c_iconst_m1 ?_
      exact rt_i R eX10_reach_38 h nb_int
    · replace h := ie hc h
      refine a_aload_n C eX10_reach_13 rfl ?_
      refine a_iload_n C eX10_reach_14 rfl ?_
      obtain ⟨σ_4, hq, h⟩ := b1_e h
      refine a_cVv1 C eX10_reach_15 wX10_250 ⟨Nat.le_of_ble_eq_true rfl, Nat.le_of_ble_eq_true rfl, rfl, rfl⟩ rfl sh_64 rfl (kX10_layAsked hq) (Nat.le_of_ble_eq_true rfl) ?_
      refine a_aload_n C eX10_reach_18 rfl ?_
      obtain ⟨σ_5, hq, h⟩ := b1_e h
      refine a_cVv0 C eX10_reach_19 wX10_253 ⟨Nat.le_of_ble_eq_true rfl, Nat.le_of_ble_eq_true rfl, rfl, rfl⟩ rfl sh_64 rfl (kX10_runAll hq) (Nat.le_of_ble_eq_true rfl) ?_
      refine a_aload_n C eX10_reach_22 rfl ?_
      obtain ⟨r_6, hq, h⟩ := b1_e h
      refine a_cVi0 C eX10_reach_23 wX10_317 ⟨Nat.le_of_ble_eq_true rfl, Nat.le_of_ble_eq_true rfl, rfl, rfl⟩ rfl sh_64 rfl (kX10_allLost hq) (Nat.le_of_ble_eq_true rfl) ?_
      refine a_if_ne C eX10_reach_26 (fun hc => ?_) (fun hc => ?_)
      · replace h := ie hc h
        refine a_inc C eX10_reach_31 rfl c_iconst_m1 h (fun z => [some (.ref 64), some (.int z)]) (fun _ => rfl) (fun x1_7 h => ?_)
        refine a_goto C eX10_reach_34 ?_
        exact a_less (lle_same (lle_same lle_nil)) (ih _ _ h)
      · replace h := it hc h
        refine a_iload_n C eX10_reach_29 rfl ?_
        exact rt_i R eX10_reach_30 h nb_int
theorem kX10_reach {σ : Sg} {rr : (Int32 × Sg)}  (h : XX10_reach σ = some rr) : Ci MX10_reach [.ref 64] (SHc ++ SHm) σ rr := by
  refine Ci.start rfl rfl (Nat.le_of_ble_eq_true rfl) ?_
  intro X ad C R
  replace C : Cx X cX10_reach 2 RX10 (some .int) { frames := 3, cells := 0, slots := 0, locals := 68 } := C
  replace R : Ri X cX10_reach (some .int) ad (SHc ++ SHm) rr := R
  show AW X 0 0 ad (SHc ++ SHm) σ 0 [some (.ref 64), none] []
  rw [XX10_reach] at h
  refine a_aload_n C eX10_reach_0 rfl ?_
  refine a_iconst C eX10_reach_1 (0 : Int32) c_iconst_0 ?_
  refine a_putIL C eX10_reach_2 fX10_95 ftyX10 rfl rfl sh_64 rfl h (fun σ_1 h => ?_)
  refine a_sipush C eX10_reach_5 (300 : Int32) c_sipush_300 ?_
  refine a_ist_n C eX10_reach_8 (Nat.le_of_ble_eq_true rfl) [some (.ref 64), some (.int (300 : Int32))] rfl ?_
  exact a_less (lle_same (lle_same lle_nil)) (lX10_reach_9  C R  _ _ _ h)
/-! ShelfDrivesModel.scaled(I)I -/
def XX10_scaled (p1 : Int32) (σ : Sg) : Option (Int32 × Sg) := lt (up σ 64 0 (0 : Int32)) (fun (σ_1 : Sg) => b1 (XX10_in p1 (0 : Int32) (300 : Int32)) (fun (r_2 : Int32) => if r_2 = 0 then (some ((-1 : Int32), σ_1)) else (b1 (XX10_layAsked p1 σ_1) (fun (σ_3 : Sg) => b2 (XX10_costNow σ_3) (fun (r_4 : Int32) (σ_5 : Sg) => some (r_4, σ_5))))))
theorem kX10_scaled {p1 : Int32} {σ : Sg} {rr : (Int32 × Sg)}  (h : XX10_scaled p1 σ = some rr) : Ci MX10_scaled [.ref 64, .int p1] (SHc ++ SHm) σ rr := by
  refine Ci.start rfl rfl (Nat.le_of_ble_eq_true rfl) ?_
  intro X ad C R
  replace C : Cx X cX10_scaled 2 RX10 (some .int) { frames := 7, cells := 0, slots := 0, locals := 160 } := C
  replace R : Ri X cX10_scaled (some .int) ad (SHc ++ SHm) rr := R
  show AW X 0 0 ad (SHc ++ SHm) σ 0 [some (.ref 64), some (.int p1)] []
  rw [XX10_scaled] at h
  refine a_aload_n C eX10_scaled_0 rfl ?_
  refine a_iconst C eX10_scaled_1 (0 : Int32) c_iconst_0 ?_
  refine a_putIL C eX10_scaled_2 fX10_95 ftyX10 rfl rfl sh_64 rfl h (fun σ_1 h => ?_)
  refine a_iload_n C eX10_scaled_5 rfl ?_
  refine a_iconst C eX10_scaled_6 (0 : Int32) c_iconst_0 ?_
  refine a_sipush C eX10_scaled_7 (300 : Int32) c_sipush_300 ?_
  obtain ⟨r_2, hq, h⟩ := b1_e h
  refine a_cSi3 C eX10_scaled_10 wX10_102 ⟨Nat.le_of_ble_eq_true rfl, Nat.le_of_ble_eq_true rfl, rfl, rfl⟩ rfl (kX10_in hq) (Nat.le_of_ble_eq_true rfl) ?_
  refine a_if_ne C eX10_scaled_13 (fun hc => ?_) (fun hc => ?_)
  · replace h := ie hc h
    refine a_aload_n C eX10_scaled_18 rfl ?_
    refine a_iload_n C eX10_scaled_19 rfl ?_
    obtain ⟨σ_3, hq, h⟩ := b1_e h
    refine a_cVv1 C eX10_scaled_20 wX10_250 ⟨Nat.le_of_ble_eq_true rfl, Nat.le_of_ble_eq_true rfl, rfl, rfl⟩ rfl sh_64 rfl (kX10_layAsked hq) (Nat.le_of_ble_eq_true rfl) ?_
    refine a_aload_n C eX10_scaled_23 rfl ?_
    obtain ⟨r_4, σ_5, hq, h⟩ := b2_e h
    refine a_cVi0 C eX10_scaled_24 wX10_320 ⟨Nat.le_of_ble_eq_true rfl, Nat.le_of_ble_eq_true rfl, rfl, rfl⟩ rfl sh_64 rfl (kX10_costNow hq) (Nat.le_of_ble_eq_true rfl) ?_
    exact rt_i R eX10_scaled_27 h nb_int
  · replace h := it hc h
    refine a_iconst C eX10_scaled_16 (-1 : Int32) c_iconst_m1 ?_
    exact rt_i R eX10_scaled_17 h nb_int
/-! ShelfDrivesModel.soloCost(II)I -/
def LX10_soloCost_35 (p1 : Int32) (σ_1 : Sg) : Nat → Int32 → Int32 → Option (Int32 × Sg)
  | 0, _, _ => none
  | n + 1, x3_7, x4_8 => b1 (XX10_days σ_1) (fun (r_9 : Int32) => if r_9 ≤ x4_8 then (some (x3_7, σ_1)) else (if ib (((14 : Int32) * p1) + x4_8) 84 then lt (fun (s_11 : Int32) => lt (x3_7 + s_11) (fun (x3_13 : Int32) => lt (x4_8 + (1 : Int32)) (fun (x4_14 : Int32) => LX10_soloCost_35 p1 σ_1 n x3_13 x4_14))) (fun (k71_12 : Int32 → Option (Int32 × Sg)) => if (σ_1 80 (((14 : Int32) * p1) + x4_8).toNatClampNeg) ≤ 0 then (k71_12 (0 : Int32)) else (b1 (XX10_costOfSet ((1 : Int32) <<< (p1 &&& 31)) σ_1) (fun (r_15 : Int32) => k71_12 r_15))) else none))
def XX10_soloCost (p1 : Int32) (p2 : Int32) (σ : Sg) : Option (Int32 × Sg) := b1 (XX10_runShop p1 p2 σ) (fun (σ_1 : Sg) => b1 (XX10_number (6 : Int32) σ_1) (fun (r_2 : Int32) => b1 (XX10_stocks p1 σ_1) (fun (r_3 : Int32) => b1 (XX10_number (7 : Int32) σ_1) (fun (r_4 : Int32) => b1 (XX10_lostBy p1 σ_1) (fun (r_5 : Int32) => lt ((r_2 * r_3) + (r_4 * r_5)) (fun (x3_6 : Int32) => LX10_soloCost_35 p1 σ_1 FUEL x3_6 (0 : Int32)))))))
theorem lX10_soloCost_35 {X : CT} {ad : Nat → Nat} {rr : (Int32 × Sg)} {p1 : Int32} {σ_1 : Sg}  (C : Cx X cX10_soloCost 5 RX10 (some .int) { frames := 2, cells := 0, slots := 0, locals := 47 }) (R : Ri X cX10_soloCost (some .int) ad (SHc ++ SHm) rr)  : ∀ (n : Nat) (x3_7 : Int32) (x4_8 : Int32), LX10_soloCost_35 p1 σ_1 n x3_7 x4_8 = some rr → AW X 0 0 ad (SHc ++ SHm) σ_1 35 [some (.ref 64), some (.int p1), none, some (.int x3_7), some (.int x4_8)] [] := by
  intro n
  induction n with
  | zero =>
    intro x3_7 x4_8 h
    rw [LX10_soloCost_35] at h
    cases h
  | succ n ih =>
    intro x3_7 x4_8 h
    rw [LX10_soloCost_35] at h
    refine a_iload C eX10_soloCost_35 rfl ?_
    refine a_aload_n C eX10_soloCost_37 rfl ?_
    obtain ⟨r_9, hq, h⟩ := b1_e h
    refine a_cVi0 C eX10_soloCost_38 wX10_106 ⟨Nat.le_of_ble_eq_true rfl, Nat.le_of_ble_eq_true rfl, rfl, rfl⟩ rfl sh_64 rfl (kX10_days hq) (Nat.le_of_ble_eq_true rfl) ?_
    refine a_icmp_ge C eX10_soloCost_41 (fun hc => ?_) (fun hc => ?_)
    · replace h := it hc h
      refine a_iload_n C eX10_soloCost_79 rfl ?_
      exact rt_i R eX10_soloCost_80 h nb_int
    · replace h := ie hc h
      refine a_iload_n C eX10_soloCost_44 rfl ?_
      refine a_aload_n C eX10_soloCost_45 rfl ?_
      refine a_getR C eX10_soloCost_46 fX10_59 sh_64 rfl ?_
      refine a_bipush C eX10_soloCost_49 (14 : Int32) c_bipush_14 ?_
      refine a_iload_n C eX10_soloCost_51 rfl ?_
      refine a_imul C eX10_soloCost_52 ?_
      refine a_iload C eX10_soloCost_53 rfl ?_
      refine a_iadd C eX10_soloCost_55 ?_
      obtain ⟨hb_10, h⟩ := gd h
      refine a_iald C eX10_soloCost_56 sh_80 hb_10 ?_
      refine jn (fun (kk : Int32 → Option (Int32 × Sg)) => ∀ (s_11 : Int32), kk s_11 = some rr → AW X 0 0 ad (SHc ++ SHm) σ_1 71 [some (.ref 64), some (.int p1), none, none, some (.int x4_8)] [.int s_11, .int x3_7]) h ?_ (fun k71_12 hk71_12 h => ?_)
      · intro s_11 h
        refine a_iadd C eX10_soloCost_71 ?_
        refine a_lt h (fun x3_13 h => ?_)
        refine a_ist_n C eX10_soloCost_72 (Nat.le_of_ble_eq_true rfl) [some (.ref 64), some (.int p1), none, some (.int x3_13), some (.int x4_8)] rfl ?_
        refine a_inc C eX10_soloCost_73 rfl c_iconst_1 h (fun z => [some (.ref 64), some (.int p1), none, some (.int x3_13), some (.int z)]) (fun _ => rfl) (fun x4_14 h => ?_)
        refine a_goto C eX10_soloCost_76 ?_
        exact a_less (lle_same (lle_same (lle_same (lle_same (lle_same lle_nil))))) (ih _ _ h)
      refine a_if_le C eX10_soloCost_57 (fun hc => ?_) (fun hc => ?_)
      · replace h := it hc h
        refine a_iconst C eX10_soloCost_70 (0 : Int32) c_iconst_0 ?_
        exact a_less (lle_same (lle_same (lle_same (lle_drop (lle_same lle_nil))))) (hk71_12 _ h)
      · replace h := ie hc h
        refine a_aload_n C eX10_soloCost_60 rfl ?_
        refine a_iconst C eX10_soloCost_61 (1 : Int32) c_iconst_1 ?_
        refine a_iload_n C eX10_soloCost_62 rfl ?_
        refine a_ishl C eX10_soloCost_63 ?_
        obtain ⟨r_15, hq, h⟩ := b1_e h
        refine a_cVi1 C eX10_soloCost_64 wX10_237 ⟨Nat.le_of_ble_eq_true rfl, Nat.le_of_ble_eq_true rfl, rfl, rfl⟩ rfl sh_64 rfl (kX10_costOfSet hq) (Nat.le_of_ble_eq_true rfl) ?_
        refine a_goto C eX10_soloCost_67 ?_
        exact a_less (lle_same (lle_same (lle_same (lle_drop (lle_same lle_nil))))) (hk71_12 _ h)
theorem kX10_soloCost {p1 : Int32} {p2 : Int32} {σ : Sg} {rr : (Int32 × Sg)}  (h : XX10_soloCost p1 p2 σ = some rr) : Ci MX10_soloCost [.ref 64, .int p1, .int p2] (SHc ++ SHm) σ rr := by
  refine Ci.start rfl rfl (Nat.le_of_ble_eq_true rfl) ?_
  intro X ad C R
  replace C : Cx X cX10_soloCost 5 RX10 (some .int) { frames := 2, cells := 0, slots := 0, locals := 47 } := C
  replace R : Ri X cX10_soloCost (some .int) ad (SHc ++ SHm) rr := R
  show AW X 0 0 ad (SHc ++ SHm) σ 0 [some (.ref 64), some (.int p1), some (.int p2), none, none] []
  rw [XX10_soloCost] at h
  refine a_aload_n C eX10_soloCost_0 rfl ?_
  refine a_iload_n C eX10_soloCost_1 rfl ?_
  refine a_iload_n C eX10_soloCost_2 rfl ?_
  obtain ⟨σ_1, hq, h⟩ := b1_e h
  refine a_cVv2 C eX10_soloCost_3 wX10_246 ⟨Nat.le_of_ble_eq_true rfl, Nat.le_of_ble_eq_true rfl, rfl, rfl⟩ rfl sh_64 rfl (kX10_runShop hq) (Nat.le_of_ble_eq_true rfl) ?_
  refine a_aload_n C eX10_soloCost_6 rfl ?_
  refine a_bipush C eX10_soloCost_7 (6 : Int32) c_bipush_6 ?_
  obtain ⟨r_2, hq, h⟩ := b1_e h
  refine a_cVi1 C eX10_soloCost_9 wX10_224 ⟨Nat.le_of_ble_eq_true rfl, Nat.le_of_ble_eq_true rfl, rfl, rfl⟩ rfl sh_64 rfl (kX10_number hq) (Nat.le_of_ble_eq_true rfl) ?_
  refine a_aload_n C eX10_soloCost_12 rfl ?_
  refine a_iload_n C eX10_soloCost_13 rfl ?_
  obtain ⟨r_3, hq, h⟩ := b1_e h
  refine a_cVi1 C eX10_soloCost_14 wX10_308 ⟨Nat.le_of_ble_eq_true rfl, Nat.le_of_ble_eq_true rfl, rfl, rfl⟩ rfl sh_64 rfl (kX10_stocks hq) (Nat.le_of_ble_eq_true rfl) ?_
  refine a_imul C eX10_soloCost_17 ?_
  refine a_aload_n C eX10_soloCost_18 rfl ?_
  refine a_bipush C eX10_soloCost_19 (7 : Int32) c_bipush_7 ?_
  obtain ⟨r_4, hq, h⟩ := b1_e h
  refine a_cVi1 C eX10_soloCost_21 wX10_224 ⟨Nat.le_of_ble_eq_true rfl, Nat.le_of_ble_eq_true rfl, rfl, rfl⟩ rfl sh_64 rfl (kX10_number hq) (Nat.le_of_ble_eq_true rfl) ?_
  refine a_aload_n C eX10_soloCost_24 rfl ?_
  refine a_iload_n C eX10_soloCost_25 rfl ?_
  obtain ⟨r_5, hq, h⟩ := b1_e h
  refine a_cVi1 C eX10_soloCost_26 wX10_268 ⟨Nat.le_of_ble_eq_true rfl, Nat.le_of_ble_eq_true rfl, rfl, rfl⟩ rfl sh_64 rfl (kX10_lostBy hq) (Nat.le_of_ble_eq_true rfl) ?_
  refine a_imul C eX10_soloCost_29 ?_
  refine a_iadd C eX10_soloCost_30 ?_
  refine a_lt h (fun x3_6 h => ?_)
  refine a_ist_n C eX10_soloCost_31 (Nat.le_of_ble_eq_true rfl) [some (.ref 64), some (.int p1), some (.int p2), some (.int x3_6), none] rfl ?_
  refine a_iconst C eX10_soloCost_32 (0 : Int32) c_iconst_0 ?_
  refine a_ist C eX10_soloCost_33 (Nat.le_of_ble_eq_true rfl) [some (.ref 64), some (.int p1), some (.int p2), some (.int x3_6), some (.int (0 : Int32))] rfl ?_
  exact a_less (lle_same (lle_same (lle_drop (lle_same (lle_same lle_nil))))) (lX10_soloCost_35  C R  _ _ _ h)
/-! ShelfDrivesModel.alone(II)I -/
def LX10_alone_38 (p1 : Int32) (k112_8 : Int32 → Int32 → Sg → Option (Int32 × Sg)) : Nat → Int32 → Int32 → Int32 → Sg → Option (Int32 × Sg)
  | 0, _, _, _, _ => none
  | n + 1, x3_10, x4_11, x5_12, σ_13 => b1 (XX10_days σ_13) (fun (r_14 : Int32) => if ((1 : Int32) <<< (r_14 &&& 31)) ≤ x5_12 then (k112_8 x3_10 x4_11 σ_13) else (b2 (XX10_soloCost p1 x5_12 σ_13) (fun (r_15 : Int32) (σ_16 : Sg) => b1 (XX10_lostBy p1 σ_16) (fun (r_17 : Int32) => lt (fun (x3_18 : Int32) (x4_19 : Int32) => lt (x5_12 + (1 : Int32)) (fun (x5_21 : Int32) => LX10_alone_38 p1 k112_8 n x3_18 x4_19 x5_21 σ_16)) (fun (k106_20 : Int32 → Int32 → Option (Int32 × Sg)) => if r_17 ≤ 0 then (lt (k106_20 x5_12 r_15) (fun (k99_22 : Option (Int32 × Sg)) => if x3_10 < 0 then (k99_22) else (if r_15 < x4_11 then (k99_22) else (if r_15 = x4_11 then (b1 (XX10_bits x5_12) (fun (r_23 : Int32) => b1 (XX10_bits x3_10) (fun (r_24 : Int32) => if r_24 ≤ r_23 then (k106_20 x3_10 x4_11) else (k99_22)))) else (k106_20 x3_10 x4_11))))) else (k106_20 x3_10 x4_11))))))
def XX10_alone (p1 : Int32) (p2 : Int32) (σ : Sg) : Option (Int32 × Sg) := lt (up σ 64 0 (0 : Int32)) (fun (σ_1 : Sg) => b1 (XX10_isShop p1 σ_1) (fun (r_2 : Int32) => if r_2 = 0 then (some ((-1 : Int32), σ_1)) else (b1 (XX10_in p2 (0 : Int32) (1 : Int32)) (fun (r_3 : Int32) => if r_3 = 0 then (some ((-1 : Int32), σ_1)) else (b1 (XX10_layAsked (100 : Int32) σ_1) (fun (σ_4 : Sg) => lt (fun (x3_5 : Int32) (x4_6 : Int32) (σ_7 : Sg) => lt (some (x3_5, σ_7)) (fun (k120_9 : Option (Int32 × Sg)) => if x3_5 < 0 then (k120_9) else (if p2 = 0 then (k120_9) else (some (x4_6, σ_7))))) (fun (k112_8 : Int32 → Int32 → Sg → Option (Int32 × Sg)) => LX10_alone_38 p1 k112_8 FUEL (-1 : Int32) (0 : Int32) (0 : Int32) σ_4)))))))
theorem lX10_alone_38 {X : CT} {ad : Nat → Nat} {rr : (Int32 × Sg)} {p1 : Int32} {p2 : Int32} {k112_8 : Int32 → Int32 → Sg → Option (Int32 × Sg)}  (C : Cx X cX10_alone 7 RX10 (some .int) { frames := 3, cells := 0, slots := 0, locals := 71 }) (R : Ri X cX10_alone (some .int) ad (SHc ++ SHm) rr) (hk112_8 : ∀ (x3_5 : Int32) (x4_6 : Int32) (σ_7 : Sg), k112_8 x3_5 x4_6 σ_7 = some rr → AW X 0 0 ad (SHc ++ SHm) σ_7 112 [none, none, some (.int p2), some (.int x3_5), some (.int x4_6), none, none] []) : ∀ (n : Nat) (x3_10 : Int32) (x4_11 : Int32) (x5_12 : Int32) (σ_13 : Sg), LX10_alone_38 p1 k112_8 n x3_10 x4_11 x5_12 σ_13 = some rr → AW X 0 0 ad (SHc ++ SHm) σ_13 38 [some (.ref 64), some (.int p1), some (.int p2), some (.int x3_10), some (.int x4_11), some (.int x5_12), none] [] := by
  intro n
  induction n with
  | zero =>
    intro x3_10 x4_11 x5_12 σ_13 h
    rw [LX10_alone_38] at h
    cases h
  | succ n ih =>
    intro x3_10 x4_11 x5_12 σ_13 h
    rw [LX10_alone_38] at h
    refine a_iload C eX10_alone_38 rfl ?_
    refine a_iconst C eX10_alone_40 (1 : Int32) c_iconst_1 ?_
    refine a_aload_n C eX10_alone_41 rfl ?_
    obtain ⟨r_14, hq, h⟩ := b1_e h
    refine a_cVi0 C eX10_alone_42 wX10_106 ⟨Nat.le_of_ble_eq_true rfl, Nat.le_of_ble_eq_true rfl, rfl, rfl⟩ rfl sh_64 rfl (kX10_days hq) (Nat.le_of_ble_eq_true rfl) ?_
    refine a_ishl C eX10_alone_45 ?_
    refine a_icmp_ge C eX10_alone_46 (fun hc => ?_) (fun hc => ?_)
    · replace h := it hc h
      exact a_less (lle_drop (lle_drop (lle_same (lle_same (lle_same (lle_drop (lle_same lle_nil))))))) (hk112_8 _ _ _ h)
    · replace h := ie hc h
      refine a_aload_n C eX10_alone_49 rfl ?_
      refine a_iload_n C eX10_alone_50 rfl ?_
      refine a_iload C eX10_alone_51 rfl ?_
      obtain ⟨r_15, σ_16, hq, h⟩ := b2_e h
      refine a_cVi2 C eX10_alone_53 wX10_323 ⟨Nat.le_of_ble_eq_true rfl, Nat.le_of_ble_eq_true rfl, rfl, rfl⟩ rfl sh_64 rfl (kX10_soloCost hq) (Nat.le_of_ble_eq_true rfl) ?_
      refine a_ist C eX10_alone_56 (Nat.le_of_ble_eq_true rfl) [some (.ref 64), some (.int p1), some (.int p2), some (.int x3_10), some (.int x4_11), some (.int x5_12), some (.int r_15)] rfl ?_
      refine a_aload_n C eX10_alone_58 rfl ?_
      refine a_iload_n C eX10_alone_59 rfl ?_
      obtain ⟨r_17, hq, h⟩ := b1_e h
      refine a_cVi1 C eX10_alone_60 wX10_268 ⟨Nat.le_of_ble_eq_true rfl, Nat.le_of_ble_eq_true rfl, rfl, rfl⟩ rfl sh_64 rfl (kX10_lostBy hq) (Nat.le_of_ble_eq_true rfl) ?_
      refine jn (fun (kk : Int32 → Int32 → Option (Int32 × Sg)) => ∀ (x3_18 : Int32) (x4_19 : Int32), kk x3_18 x4_19 = some rr → AW X 0 0 ad (SHc ++ SHm) σ_16 106 [some (.ref 64), some (.int p1), some (.int p2), some (.int x3_18), some (.int x4_19), some (.int x5_12), none] []) h ?_ (fun k106_20 hk106_20 h => ?_)
      · intro x3_18 x4_19 h
        refine a_inc C eX10_alone_106 rfl c_iconst_1 h (fun z => [some (.ref 64), some (.int p1), some (.int p2), some (.int x3_18), some (.int x4_19), some (.int z), none]) (fun _ => rfl) (fun x5_21 h => ?_)
        refine a_goto C eX10_alone_109 ?_
        exact a_less (lle_same (lle_same (lle_same (lle_same (lle_same (lle_same (lle_same lle_nil))))))) (ih _ _ _ _ h)
      refine a_if_le C eX10_alone_63 (fun hc => ?_) (fun hc => ?_)
      · replace h := it hc h
        refine a_iload_n C eX10_alone_69 rfl ?_
        refine jn (fun (kk : Option (Int32 × Sg)) => kk = some rr → AW X 0 0 ad (SHc ++ SHm) σ_16 99 [some (.ref 64), some (.int p1), some (.int p2), none, none, some (.int x5_12), some (.int r_15)] []) h ?_ (fun k99_22 hk99_22 h => ?_)
        · intro h
          refine a_iload C eX10_alone_99 rfl ?_
          refine a_ist_n C eX10_alone_101 (Nat.le_of_ble_eq_true rfl) [some (.ref 64), some (.int p1), some (.int p2), some (.int x5_12), none, some (.int x5_12), some (.int r_15)] rfl ?_
          refine a_iload C eX10_alone_102 rfl ?_
          refine a_ist C eX10_alone_104 (Nat.le_of_ble_eq_true rfl) [some (.ref 64), some (.int p1), some (.int p2), some (.int x5_12), some (.int r_15), some (.int x5_12), some (.int r_15)] rfl ?_
          exact a_less (lle_same (lle_same (lle_same (lle_same (lle_same (lle_same (lle_drop lle_nil))))))) (hk106_20 _ _ h)
        refine a_if_lt C eX10_alone_70 (fun hc => ?_) (fun hc => ?_)
        · replace h := it hc h
          exact a_less (lle_same (lle_same (lle_same (lle_drop (lle_drop (lle_same (lle_same lle_nil))))))) (hk99_22 h)
        · replace h := ie hc h
          refine a_iload C eX10_alone_73 rfl ?_
          refine a_iload C eX10_alone_75 rfl ?_
          refine a_icmp_lt C eX10_alone_77 (fun hc => ?_) (fun hc => ?_)
          · replace h := it hc h
            exact a_less (lle_same (lle_same (lle_same (lle_drop (lle_drop (lle_same (lle_same lle_nil))))))) (hk99_22 h)
          · replace h := ie hc h
            refine a_iload C eX10_alone_80 rfl ?_
            refine a_iload C eX10_alone_82 rfl ?_
            refine a_icmp_ne C eX10_alone_84 (fun hc => ?_) (fun hc => ?_)
            · replace h := ie hc h
              exact a_less (lle_same (lle_same (lle_same (lle_same (lle_same (lle_same (lle_drop lle_nil))))))) (hk106_20 _ _ h)
            · replace h := it hc h
              refine a_iload C eX10_alone_87 rfl ?_
              obtain ⟨r_23, hq, h⟩ := b1_e h
              refine a_cSi1 C eX10_alone_89 wX10_290 ⟨Nat.le_of_ble_eq_true rfl, Nat.le_of_ble_eq_true rfl, rfl, rfl⟩ rfl (kX10_bits hq) (Nat.le_of_ble_eq_true rfl) ?_
              refine a_iload_n C eX10_alone_92 rfl ?_
              obtain ⟨r_24, hq, h⟩ := b1_e h
              refine a_cSi1 C eX10_alone_93 wX10_290 ⟨Nat.le_of_ble_eq_true rfl, Nat.le_of_ble_eq_true rfl, rfl, rfl⟩ rfl (kX10_bits hq) (Nat.le_of_ble_eq_true rfl) ?_
              refine a_icmp_ge C eX10_alone_96 (fun hc => ?_) (fun hc => ?_)
              · replace h := it hc h
                exact a_less (lle_same (lle_same (lle_same (lle_same (lle_same (lle_same (lle_drop lle_nil))))))) (hk106_20 _ _ h)
              · replace h := ie hc h
                exact a_less (lle_same (lle_same (lle_same (lle_drop (lle_drop (lle_same (lle_same lle_nil))))))) (hk99_22 h)
      · replace h := ie hc h
        refine a_goto C eX10_alone_66 ?_
        exact a_less (lle_same (lle_same (lle_same (lle_same (lle_same (lle_same (lle_drop lle_nil))))))) (hk106_20 _ _ h)
theorem kX10_alone {p1 : Int32} {p2 : Int32} {σ : Sg} {rr : (Int32 × Sg)}  (h : XX10_alone p1 p2 σ = some rr) : Ci MX10_alone [.ref 64, .int p1, .int p2] (SHc ++ SHm) σ rr := by
  refine Ci.start rfl rfl (Nat.le_of_ble_eq_true rfl) ?_
  intro X ad C R
  replace C : Cx X cX10_alone 7 RX10 (some .int) { frames := 3, cells := 0, slots := 0, locals := 71 } := C
  replace R : Ri X cX10_alone (some .int) ad (SHc ++ SHm) rr := R
  show AW X 0 0 ad (SHc ++ SHm) σ 0 [some (.ref 64), some (.int p1), some (.int p2), none, none, none, none] []
  rw [XX10_alone] at h
  refine a_aload_n C eX10_alone_0 rfl ?_
  refine a_iconst C eX10_alone_1 (0 : Int32) c_iconst_0 ?_
  refine a_putIL C eX10_alone_2 fX10_95 ftyX10 rfl rfl sh_64 rfl h (fun σ_1 h => ?_)
  refine a_aload_n C eX10_alone_5 rfl ?_
  refine a_iload_n C eX10_alone_6 rfl ?_
  obtain ⟨r_2, hq, h⟩ := b1_e h
  refine a_cVi1 C eX10_alone_7 wX10_233 ⟨Nat.le_of_ble_eq_true rfl, Nat.le_of_ble_eq_true rfl, rfl, rfl⟩ rfl sh_64 rfl (kX10_isShop hq) (Nat.le_of_ble_eq_true rfl) ?_
  refine a_if_eq C eX10_alone_10 (fun hc => ?_) (fun hc => ?_)
  · replace h := it hc h
    refine a_iconst C eX10_alone_22 (-1 : Int32) c_iconst_m1 ?_
    exact rt_i R eX10_alone_23 h nb_int
  · replace h := ie hc h
    refine a_iload_n C eX10_alone_13 rfl ?_
    refine a_iconst C eX10_alone_14 (0 : Int32) c_iconst_0 ?_
    refine a_iconst C eX10_alone_15 (1 : Int32) c_iconst_1 ?_
    obtain ⟨r_3, hq, h⟩ := b1_e h
    refine a_cSi3 C eX10_alone_16 wX10_102 ⟨Nat.le_of_ble_eq_true rfl, Nat.le_of_ble_eq_true rfl, rfl, rfl⟩ rfl (kX10_in hq) (Nat.le_of_ble_eq_true rfl) ?_
    refine a_if_ne C eX10_alone_19 (fun hc => ?_) (fun hc => ?_)
    · replace h := ie hc h
      refine a_aload_n C eX10_alone_24 rfl ?_
      refine a_bipush C eX10_alone_25 (100 : Int32) c_bipush_100 ?_
      obtain ⟨σ_4, hq, h⟩ := b1_e h
      refine a_cVv1 C eX10_alone_27 wX10_250 ⟨Nat.le_of_ble_eq_true rfl, Nat.le_of_ble_eq_true rfl, rfl, rfl⟩ rfl sh_64 rfl (kX10_layAsked hq) (Nat.le_of_ble_eq_true rfl) ?_
      refine a_iconst C eX10_alone_30 (-1 : Int32) c_iconst_m1 ?_
      refine a_ist_n C eX10_alone_31 (Nat.le_of_ble_eq_true rfl) [some (.ref 64), some (.int p1), some (.int p2), some (.int (-1 : Int32)), none, none, none] rfl ?_
      refine a_iconst C eX10_alone_32 (0 : Int32) c_iconst_0 ?_
      refine a_ist C eX10_alone_33 (Nat.le_of_ble_eq_true rfl) [some (.ref 64), some (.int p1), some (.int p2), some (.int (-1 : Int32)), some (.int (0 : Int32)), none, none] rfl ?_
      refine a_iconst C eX10_alone_35 (0 : Int32) c_iconst_0 ?_
      refine a_ist C eX10_alone_36 (Nat.le_of_ble_eq_true rfl) [some (.ref 64), some (.int p1), some (.int p2), some (.int (-1 : Int32)), some (.int (0 : Int32)), some (.int (0 : Int32)), none] rfl ?_
      refine jn (fun (kk : Int32 → Int32 → Sg → Option (Int32 × Sg)) => ∀ (x3_5 : Int32) (x4_6 : Int32) (σ_7 : Sg), kk x3_5 x4_6 σ_7 = some rr → AW X 0 0 ad (SHc ++ SHm) σ_7 112 [none, none, some (.int p2), some (.int x3_5), some (.int x4_6), none, none] []) h ?_ (fun k112_8 hk112_8 h => ?_)
      · intro x3_5 x4_6 σ_7 h
        refine a_iload_n C eX10_alone_112 rfl ?_
        refine jn (fun (kk : Option (Int32 × Sg)) => kk = some rr → AW X 0 0 ad (SHc ++ SHm) σ_7 120 [none, none, none, some (.int x3_5), none, none, none] []) h ?_ (fun k120_9 hk120_9 h => ?_)
        · intro h
          refine a_iload_n C eX10_alone_120 rfl ?_
          refine a_goto C eX10_alone_121 ?_
          exact rt_i R eX10_alone_126 h nb_int
        refine a_if_lt C eX10_alone_113 (fun hc => ?_) (fun hc => ?_)
        · replace h := it hc h
          exact a_less (lle_same (lle_same (lle_drop (lle_same (lle_drop (lle_same (lle_same lle_nil))))))) (hk120_9 h)
        · replace h := ie hc h
          refine a_iload_n C eX10_alone_116 rfl ?_
          refine a_if_ne C eX10_alone_117 (fun hc => ?_) (fun hc => ?_)
          · replace h := ie hc h
            refine a_iload C eX10_alone_124 rfl ?_
            exact rt_i R eX10_alone_126 h nb_int
          · replace h := it hc h
            exact a_less (lle_same (lle_same (lle_drop (lle_same (lle_drop (lle_same (lle_same lle_nil))))))) (hk120_9 h)
      exact a_less (lle_same (lle_same (lle_same (lle_same (lle_same (lle_same (lle_same lle_nil))))))) (lX10_alone_38  C R hk112_8 _ _ _ _ _ h)
    · replace h := it hc h
      refine a_iconst C eX10_alone_22 (-1 : Int32) c_iconst_m1 ?_
      exact rt_i R eX10_alone_23 h nb_int
/-! ShelfDrivesModel.everySet(II)I -/
def LX10_everySet_5 (p1 : Int32) (σ : Sg) : Nat → Int32 → Int32 → Option Int32
  | 0, _, _ => none
  | n + 1, x3_1, x4_2 => b1 (XX10_days σ) (fun (r_3 : Int32) => if r_3 ≤ x4_2 then (some x3_1) else (lt (x3_1 ||| ((1 : Int32) <<< (x4_2 &&& 31))) (fun (x3_4 : Int32) => lt (x4_2 + p1) (fun (x4_5 : Int32) => LX10_everySet_5 p1 σ n x3_4 x4_5))))
def XX10_everySet (p1 : Int32) (p2 : Int32) (σ : Sg) : Option Int32 := LX10_everySet_5 p1 σ FUEL (0 : Int32) p2
theorem lX10_everySet_5 {X : CT} {ad : Nat → Nat} {rr : Int32} {p1 : Int32} {σ : Sg}  (C : Cx X cX10_everySet 5 RX10 (some .int) { frames := 1, cells := 0, slots := 0, locals := 20 }) (R : Ri X cX10_everySet (some .int) ad (SHc ++ SHm) (rr, σ))  : ∀ (n : Nat) (x3_1 : Int32) (x4_2 : Int32), LX10_everySet_5 p1 σ n x3_1 x4_2 = some rr → AW X 0 0 ad (SHc ++ SHm) σ 5 [some (.ref 64), some (.int p1), none, some (.int x3_1), some (.int x4_2)] [] := by
  intro n
  induction n with
  | zero =>
    intro x3_1 x4_2 h
    rw [LX10_everySet_5] at h
    cases h
  | succ n ih =>
    intro x3_1 x4_2 h
    rw [LX10_everySet_5] at h
    refine a_iload C eX10_everySet_5 rfl ?_
    refine a_aload_n C eX10_everySet_7 rfl ?_
    obtain ⟨r_3, hq, h⟩ := b1_e h
    refine a_cVi0 C eX10_everySet_8 wX10_106 ⟨Nat.le_of_ble_eq_true rfl, Nat.le_of_ble_eq_true rfl, rfl, rfl⟩ rfl sh_64 rfl (kX10_days hq) (Nat.le_of_ble_eq_true rfl) ?_
    refine a_icmp_ge C eX10_everySet_11 (fun hc => ?_) (fun hc => ?_)
    · replace h := it hc h
      refine a_iload_n C eX10_everySet_30 rfl ?_
      exact rt_p R eX10_everySet_31 h nb_int
    · replace h := ie hc h
      refine a_iload_n C eX10_everySet_14 rfl ?_
      refine a_iconst C eX10_everySet_15 (1 : Int32) c_iconst_1 ?_
      refine a_iload C eX10_everySet_16 rfl ?_
      refine a_ishl C eX10_everySet_18 ?_
      refine a_ior C eX10_everySet_19 ?_
      refine a_lt h (fun x3_4 h => ?_)
      refine a_ist_n C eX10_everySet_20 (Nat.le_of_ble_eq_true rfl) [some (.ref 64), some (.int p1), none, some (.int x3_4), some (.int x4_2)] rfl ?_
      refine a_iload C eX10_everySet_21 rfl ?_
      refine a_iload_n C eX10_everySet_23 rfl ?_
      refine a_iadd C eX10_everySet_24 ?_
      refine a_lt h (fun x4_5 h => ?_)
      refine a_ist C eX10_everySet_25 (Nat.le_of_ble_eq_true rfl) [some (.ref 64), some (.int p1), none, some (.int x3_4), some (.int x4_5)] rfl ?_
      refine a_goto C eX10_everySet_27 ?_
      exact a_less (lle_same (lle_same (lle_same (lle_same (lle_same lle_nil))))) (ih _ _ h)
theorem kX10_everySet {p1 : Int32} {p2 : Int32} {σ : Sg} {rr : Int32}  (h : XX10_everySet p1 p2 σ = some rr) : Ci MX10_everySet [.ref 64, .int p1, .int p2] (SHc ++ SHm) σ (rr, σ) := by
  refine Ci.start rfl rfl (Nat.le_of_ble_eq_true rfl) ?_
  intro X ad C R
  replace C : Cx X cX10_everySet 5 RX10 (some .int) { frames := 1, cells := 0, slots := 0, locals := 20 } := C
  replace R : Ri X cX10_everySet (some .int) ad (SHc ++ SHm) (rr, σ) := R
  show AW X 0 0 ad (SHc ++ SHm) σ 0 [some (.ref 64), some (.int p1), some (.int p2), none, none] []
  rw [XX10_everySet] at h
  refine a_iconst C eX10_everySet_0 (0 : Int32) c_iconst_0 ?_
  refine a_ist_n C eX10_everySet_1 (Nat.le_of_ble_eq_true rfl) [some (.ref 64), some (.int p1), some (.int p2), some (.int (0 : Int32)), none] rfl ?_
  refine a_iload_n C eX10_everySet_2 rfl ?_
  refine a_ist C eX10_everySet_3 (Nat.le_of_ble_eq_true rfl) [some (.ref 64), some (.int p1), some (.int p2), some (.int (0 : Int32)), some (.int p2)] rfl ?_
  exact a_less (lle_same (lle_same (lle_drop (lle_same (lle_same lle_nil))))) (lX10_everySet_5  C R  _ _ _ h)
/-! ShelfDrivesModel.every(II)I -/
def LX10_every_50 (p1 : Int32) (x6_13 : Int32) (k101_19 : Int32 → Int32 → Int32 → Sg → Option (Int32 × Sg)) : Nat → Int32 → Int32 → Int32 → Int32 → Sg → Option (Int32 × Sg)
  | 0, _, _, _, _, _ => none
  | n + 1, x3_21, x4_22, x5_23, x7_24, σ_25 => if x6_13 ≤ x7_24 then (k101_19 x3_21 x4_22 x5_23 σ_25) else (b1 (XX10_everySet x6_13 x7_24 σ_25) (fun (r_26 : Int32) => b2 (XX10_soloCost p1 r_26 σ_25) (fun (r_27 : Int32) (σ_28 : Sg) => lt (fun (x3_29 : Int32) (x4_30 : Int32) (x5_31 : Int32) => lt (x7_24 + (1 : Int32)) (fun (x7_33 : Int32) => LX10_every_50 p1 x6_13 k101_19 n x3_29 x4_30 x5_31 x7_33 σ_28)) (fun (k95_32 : Int32 → Int32 → Int32 → Option (Int32 × Sg)) => lt (k95_32 x6_13 x7_24 r_27) (fun (k84_34 : Option (Int32 × Sg)) => if x5_23 < 0 then (k84_34) else (if x5_23 ≤ r_27 then (k95_32 x3_21 x4_22 x5_23) else (k84_34)))))))
def LX10_every_42 (p1 : Int32) (k107_9 : Int32 → Int32 → Int32 → Sg → Option (Int32 × Sg)) : Nat → Int32 → Int32 → Int32 → Int32 → Sg → Option (Int32 × Sg)
  | 0, _, _, _, _, _ => none
  | n + 1, x3_10, x4_11, x5_12, x6_13, σ_14 => if x6_13 ≤ 0 then (k107_9 x3_10 x4_11 x5_12 σ_14) else (lt (fun (x3_15 : Int32) (x4_16 : Int32) (x5_17 : Int32) (σ_18 : Sg) => lt (x6_13 + (-1 : Int32)) (fun (x6_20 : Int32) => LX10_every_42 p1 k107_9 n x3_15 x4_16 x5_17 x6_20 σ_18)) (fun (k101_19 : Int32 → Int32 → Int32 → Sg → Option (Int32 × Sg)) => LX10_every_50 p1 x6_13 k101_19 FUEL x3_10 x4_11 x5_12 (0 : Int32) σ_14))
def XX10_every (p1 : Int32) (p2 : Int32) (σ : Sg) : Option (Int32 × Sg) := lt (up σ 64 0 (0 : Int32)) (fun (σ_1 : Sg) => b1 (XX10_isShop p1 σ_1) (fun (r_2 : Int32) => if r_2 = 0 then (some ((-1 : Int32), σ_1)) else (b1 (XX10_in p2 (0 : Int32) (2 : Int32)) (fun (r_3 : Int32) => if r_3 = 0 then (some ((-1 : Int32), σ_1)) else (b1 (XX10_layAsked (100 : Int32) σ_1) (fun (σ_4 : Sg) => lt (fun (x3_5 : Int32) (x4_6 : Int32) (x5_7 : Int32) (σ_8 : Sg) => if p2 = 0 then (some (x3_5, σ_8)) else (if p2 = (1 : Int32) then (some (x4_6, σ_8)) else (some (x5_7, σ_8)))) (fun (k107_9 : Int32 → Int32 → Int32 → Sg → Option (Int32 × Sg)) => LX10_every_42 p1 k107_9 FUEL (0 : Int32) (0 : Int32) (-1 : Int32) (7 : Int32) σ_4)))))))
theorem lX10_every_50 {X : CT} {ad : Nat → Nat} {rr : (Int32 × Sg)} {p1 : Int32} {p2 : Int32} {x6_13 : Int32} {k101_19 : Int32 → Int32 → Int32 → Sg → Option (Int32 × Sg)}  (C : Cx X cX10_every 9 RX10 (some .int) { frames := 3, cells := 0, slots := 0, locals := 71 }) (R : Ri X cX10_every (some .int) ad (SHc ++ SHm) rr) (hk101_19 : ∀ (x3_15 : Int32) (x4_16 : Int32) (x5_17 : Int32) (σ_18 : Sg), k101_19 x3_15 x4_16 x5_17 σ_18 = some rr → AW X 0 0 ad (SHc ++ SHm) σ_18 101 [some (.ref 64), some (.int p1), some (.int p2), some (.int x3_15), some (.int x4_16), some (.int x5_17), some (.int x6_13), none, none] []) : ∀ (n : Nat) (x3_21 : Int32) (x4_22 : Int32) (x5_23 : Int32) (x7_24 : Int32) (σ_25 : Sg), LX10_every_50 p1 x6_13 k101_19 n x3_21 x4_22 x5_23 x7_24 σ_25 = some rr → AW X 0 0 ad (SHc ++ SHm) σ_25 50 [some (.ref 64), some (.int p1), some (.int p2), some (.int x3_21), some (.int x4_22), some (.int x5_23), some (.int x6_13), some (.int x7_24), none] [] := by
  intro n
  induction n with
  | zero =>
    intro x3_21 x4_22 x5_23 x7_24 σ_25 h
    rw [LX10_every_50] at h
    cases h
  | succ n ih =>
    intro x3_21 x4_22 x5_23 x7_24 σ_25 h
    rw [LX10_every_50] at h
    refine a_iload C eX10_every_50 rfl ?_
    refine a_iload C eX10_every_52 rfl ?_
    refine a_icmp_ge C eX10_every_54 (fun hc => ?_) (fun hc => ?_)
    · replace h := it hc h
      exact a_less (lle_same (lle_same (lle_same (lle_same (lle_same (lle_same (lle_same (lle_drop (lle_same lle_nil))))))))) (hk101_19 _ _ _ _ h)
    · replace h := ie hc h
      refine a_aload_n C eX10_every_57 rfl ?_
      refine a_iload_n C eX10_every_58 rfl ?_
      refine a_aload_n C eX10_every_59 rfl ?_
      refine a_iload C eX10_every_60 rfl ?_
      refine a_iload C eX10_every_62 rfl ?_
      obtain ⟨r_26, hq, h⟩ := b1_e h
      refine a_cVi2 C eX10_every_64 wX10_326 ⟨Nat.le_of_ble_eq_true rfl, Nat.le_of_ble_eq_true rfl, rfl, rfl⟩ rfl sh_64 rfl (kX10_everySet hq) (Nat.le_of_ble_eq_true rfl) ?_
      obtain ⟨r_27, σ_28, hq, h⟩ := b2_e h
      refine a_cVi2 C eX10_every_67 wX10_323 ⟨Nat.le_of_ble_eq_true rfl, Nat.le_of_ble_eq_true rfl, rfl, rfl⟩ rfl sh_64 rfl (kX10_soloCost hq) (Nat.le_of_ble_eq_true rfl) ?_
      refine a_ist C eX10_every_70 (Nat.le_of_ble_eq_true rfl) [some (.ref 64), some (.int p1), some (.int p2), some (.int x3_21), some (.int x4_22), some (.int x5_23), some (.int x6_13), some (.int x7_24), some (.int r_27)] rfl ?_
      refine a_iload C eX10_every_72 rfl ?_
      refine jn (fun (kk : Int32 → Int32 → Int32 → Option (Int32 × Sg)) => ∀ (x3_29 : Int32) (x4_30 : Int32) (x5_31 : Int32), kk x3_29 x4_30 x5_31 = some rr → AW X 0 0 ad (SHc ++ SHm) σ_28 95 [some (.ref 64), some (.int p1), some (.int p2), some (.int x3_29), some (.int x4_30), some (.int x5_31), some (.int x6_13), some (.int x7_24), none] []) h ?_ (fun k95_32 hk95_32 h => ?_)
      · intro x3_29 x4_30 x5_31 h
        refine a_inc C eX10_every_95 rfl c_iconst_1 h (fun z => [some (.ref 64), some (.int p1), some (.int p2), some (.int x3_29), some (.int x4_30), some (.int x5_31), some (.int x6_13), some (.int z), none]) (fun _ => rfl) (fun x7_33 h => ?_)
        refine a_goto C eX10_every_98 ?_
        exact a_less (lle_same (lle_same (lle_same (lle_same (lle_same (lle_same (lle_same (lle_same (lle_same lle_nil))))))))) (ih _ _ _ _ _ h)
      refine jn (fun (kk : Option (Int32 × Sg)) => kk = some rr → AW X 0 0 ad (SHc ++ SHm) σ_28 84 [some (.ref 64), some (.int p1), some (.int p2), none, none, none, some (.int x6_13), some (.int x7_24), some (.int r_27)] []) h ?_ (fun k84_34 hk84_34 h => ?_)
      · intro h
        refine a_iload C eX10_every_84 rfl ?_
        refine a_ist C eX10_every_86 (Nat.le_of_ble_eq_true rfl) [some (.ref 64), some (.int p1), some (.int p2), none, none, some (.int r_27), some (.int x6_13), some (.int x7_24), some (.int r_27)] rfl ?_
        refine a_iload C eX10_every_88 rfl ?_
        refine a_ist_n C eX10_every_90 (Nat.le_of_ble_eq_true rfl) [some (.ref 64), some (.int p1), some (.int p2), some (.int x6_13), none, some (.int r_27), some (.int x6_13), some (.int x7_24), some (.int r_27)] rfl ?_
        refine a_iload C eX10_every_91 rfl ?_
        refine a_ist C eX10_every_93 (Nat.le_of_ble_eq_true rfl) [some (.ref 64), some (.int p1), some (.int p2), some (.int x6_13), some (.int x7_24), some (.int r_27), some (.int x6_13), some (.int x7_24), some (.int r_27)] rfl ?_
        exact a_less (lle_same (lle_same (lle_same (lle_same (lle_same (lle_same (lle_same (lle_same (lle_drop lle_nil))))))))) (hk95_32 _ _ _ h)
      refine a_if_lt C eX10_every_74 (fun hc => ?_) (fun hc => ?_)
      · replace h := it hc h
        exact a_less (lle_same (lle_same (lle_same (lle_drop (lle_drop (lle_drop (lle_same (lle_same (lle_same lle_nil))))))))) (hk84_34 h)
      · replace h := ie hc h
        refine a_iload C eX10_every_77 rfl ?_
        refine a_iload C eX10_every_79 rfl ?_
        refine a_icmp_ge C eX10_every_81 (fun hc => ?_) (fun hc => ?_)
        · replace h := it hc h
          exact a_less (lle_same (lle_same (lle_same (lle_same (lle_same (lle_same (lle_same (lle_same (lle_drop lle_nil))))))))) (hk95_32 _ _ _ h)
        · replace h := ie hc h
          exact a_less (lle_same (lle_same (lle_same (lle_drop (lle_drop (lle_drop (lle_same (lle_same (lle_same lle_nil))))))))) (hk84_34 h)
theorem lX10_every_42 {X : CT} {ad : Nat → Nat} {rr : (Int32 × Sg)} {p1 : Int32} {p2 : Int32} {k107_9 : Int32 → Int32 → Int32 → Sg → Option (Int32 × Sg)}  (C : Cx X cX10_every 9 RX10 (some .int) { frames := 3, cells := 0, slots := 0, locals := 71 }) (R : Ri X cX10_every (some .int) ad (SHc ++ SHm) rr) (hk107_9 : ∀ (x3_5 : Int32) (x4_6 : Int32) (x5_7 : Int32) (σ_8 : Sg), k107_9 x3_5 x4_6 x5_7 σ_8 = some rr → AW X 0 0 ad (SHc ++ SHm) σ_8 107 [none, none, some (.int p2), some (.int x3_5), some (.int x4_6), some (.int x5_7), none, none, none] []) : ∀ (n : Nat) (x3_10 : Int32) (x4_11 : Int32) (x5_12 : Int32) (x6_13 : Int32) (σ_14 : Sg), LX10_every_42 p1 k107_9 n x3_10 x4_11 x5_12 x6_13 σ_14 = some rr → AW X 0 0 ad (SHc ++ SHm) σ_14 42 [some (.ref 64), some (.int p1), some (.int p2), some (.int x3_10), some (.int x4_11), some (.int x5_12), some (.int x6_13), none, none] [] := by
  intro n
  induction n with
  | zero =>
    intro x3_10 x4_11 x5_12 x6_13 σ_14 h
    rw [LX10_every_42] at h
    cases h
  | succ n ih =>
    intro x3_10 x4_11 x5_12 x6_13 σ_14 h
    rw [LX10_every_42] at h
    refine a_iload C eX10_every_42 rfl ?_
    refine a_if_le C eX10_every_44 (fun hc => ?_) (fun hc => ?_)
    · replace h := it hc h
      exact a_less (lle_drop (lle_drop (lle_same (lle_same (lle_same (lle_same (lle_drop (lle_same (lle_same lle_nil))))))))) (hk107_9 _ _ _ _ h)
    · replace h := ie hc h
      refine a_iconst C eX10_every_47 (0 : Int32) c_iconst_0 ?_
      refine a_ist C eX10_every_48 (Nat.le_of_ble_eq_true rfl) [some (.ref 64), some (.int p1), some (.int p2), some (.int x3_10), some (.int x4_11), some (.int x5_12), some (.int x6_13), some (.int (0 : Int32)), none] rfl ?_
      refine jn (fun (kk : Int32 → Int32 → Int32 → Sg → Option (Int32 × Sg)) => ∀ (x3_15 : Int32) (x4_16 : Int32) (x5_17 : Int32) (σ_18 : Sg), kk x3_15 x4_16 x5_17 σ_18 = some rr → AW X 0 0 ad (SHc ++ SHm) σ_18 101 [some (.ref 64), some (.int p1), some (.int p2), some (.int x3_15), some (.int x4_16), some (.int x5_17), some (.int x6_13), none, none] []) h ?_ (fun k101_19 hk101_19 h => ?_)
      · intro x3_15 x4_16 x5_17 σ_18 h
        refine a_inc C eX10_every_101 rfl c_iconst_m1 h (fun z => [some (.ref 64), some (.int p1), some (.int p2), some (.int x3_15), some (.int x4_16), some (.int x5_17), some (.int z), none, none]) (fun _ => rfl) (fun x6_20 h => ?_)
        refine a_goto C eX10_every_104 ?_
        exact a_less (lle_same (lle_same (lle_same (lle_same (lle_same (lle_same (lle_same (lle_same (lle_same lle_nil))))))))) (ih _ _ _ _ _ h)
      exact a_less (lle_same (lle_same (lle_same (lle_same (lle_same (lle_same (lle_same (lle_same (lle_same lle_nil))))))))) (lX10_every_50  C R hk101_19 _ _ _ _ _ _ h)
theorem kX10_every {p1 : Int32} {p2 : Int32} {σ : Sg} {rr : (Int32 × Sg)}  (h : XX10_every p1 p2 σ = some rr) : Ci MX10_every [.ref 64, .int p1, .int p2] (SHc ++ SHm) σ rr := by
  refine Ci.start rfl rfl (Nat.le_of_ble_eq_true rfl) ?_
  intro X ad C R
  replace C : Cx X cX10_every 9 RX10 (some .int) { frames := 3, cells := 0, slots := 0, locals := 71 } := C
  replace R : Ri X cX10_every (some .int) ad (SHc ++ SHm) rr := R
  show AW X 0 0 ad (SHc ++ SHm) σ 0 [some (.ref 64), some (.int p1), some (.int p2), none, none, none, none, none, none] []
  rw [XX10_every] at h
  refine a_aload_n C eX10_every_0 rfl ?_
  refine a_iconst C eX10_every_1 (0 : Int32) c_iconst_0 ?_
  refine a_putIL C eX10_every_2 fX10_95 ftyX10 rfl rfl sh_64 rfl h (fun σ_1 h => ?_)
  refine a_aload_n C eX10_every_5 rfl ?_
  refine a_iload_n C eX10_every_6 rfl ?_
  obtain ⟨r_2, hq, h⟩ := b1_e h
  refine a_cVi1 C eX10_every_7 wX10_233 ⟨Nat.le_of_ble_eq_true rfl, Nat.le_of_ble_eq_true rfl, rfl, rfl⟩ rfl sh_64 rfl (kX10_isShop hq) (Nat.le_of_ble_eq_true rfl) ?_
  refine a_if_eq C eX10_every_10 (fun hc => ?_) (fun hc => ?_)
  · replace h := it hc h
    refine a_iconst C eX10_every_22 (-1 : Int32) c_iconst_m1 ?_
    exact rt_i R eX10_every_23 h nb_int
  · replace h := ie hc h
    refine a_iload_n C eX10_every_13 rfl ?_
    refine a_iconst C eX10_every_14 (0 : Int32) c_iconst_0 ?_
    refine a_iconst C eX10_every_15 (2 : Int32) c_iconst_2 ?_
    obtain ⟨r_3, hq, h⟩ := b1_e h
    refine a_cSi3 C eX10_every_16 wX10_102 ⟨Nat.le_of_ble_eq_true rfl, Nat.le_of_ble_eq_true rfl, rfl, rfl⟩ rfl (kX10_in hq) (Nat.le_of_ble_eq_true rfl) ?_
    refine a_if_ne C eX10_every_19 (fun hc => ?_) (fun hc => ?_)
    · replace h := ie hc h
      refine a_aload_n C eX10_every_24 rfl ?_
      refine a_bipush C eX10_every_25 (100 : Int32) c_bipush_100 ?_
      obtain ⟨σ_4, hq, h⟩ := b1_e h
      refine a_cVv1 C eX10_every_27 wX10_250 ⟨Nat.le_of_ble_eq_true rfl, Nat.le_of_ble_eq_true rfl, rfl, rfl⟩ rfl sh_64 rfl (kX10_layAsked hq) (Nat.le_of_ble_eq_true rfl) ?_
      refine a_iconst C eX10_every_30 (0 : Int32) c_iconst_0 ?_
      refine a_ist_n C eX10_every_31 (Nat.le_of_ble_eq_true rfl) [some (.ref 64), some (.int p1), some (.int p2), some (.int (0 : Int32)), none, none, none, none, none] rfl ?_
      refine a_iconst C eX10_every_32 (0 : Int32) c_iconst_0 ?_
      refine a_ist C eX10_every_33 (Nat.le_of_ble_eq_true rfl) [some (.ref 64), some (.int p1), some (.int p2), some (.int (0 : Int32)), some (.int (0 : Int32)), none, none, none, none] rfl ?_
      refine a_iconst C eX10_every_35 (-1 : Int32) c_iconst_m1 ?_
      refine a_ist C eX10_every_36 (Nat.le_of_ble_eq_true rfl) [some (.ref 64), some (.int p1), some (.int p2), some (.int (0 : Int32)), some (.int (0 : Int32)), some (.int (-1 : Int32)), none, none, none] rfl ?_
      refine a_bipush C eX10_every_38 (7 : Int32) c_bipush_7 ?_
      refine a_ist C eX10_every_40 (Nat.le_of_ble_eq_true rfl) [some (.ref 64), some (.int p1), some (.int p2), some (.int (0 : Int32)), some (.int (0 : Int32)), some (.int (-1 : Int32)), some (.int (7 : Int32)), none, none] rfl ?_
      refine jn (fun (kk : Int32 → Int32 → Int32 → Sg → Option (Int32 × Sg)) => ∀ (x3_5 : Int32) (x4_6 : Int32) (x5_7 : Int32) (σ_8 : Sg), kk x3_5 x4_6 x5_7 σ_8 = some rr → AW X 0 0 ad (SHc ++ SHm) σ_8 107 [none, none, some (.int p2), some (.int x3_5), some (.int x4_6), some (.int x5_7), none, none, none] []) h ?_ (fun k107_9 hk107_9 h => ?_)
      · intro x3_5 x4_6 x5_7 σ_8 h
        refine a_iload_n C eX10_every_107 rfl ?_
        refine a_if_ne C eX10_every_108 (fun hc => ?_) (fun hc => ?_)
        · replace h := ie hc h
          refine a_iload_n C eX10_every_115 rfl ?_
          refine a_iconst C eX10_every_116 (1 : Int32) c_iconst_1 ?_
          refine a_icmp_ne C eX10_every_117 (fun hc => ?_) (fun hc => ?_)
          · replace h := ie hc h
            refine a_iload C eX10_every_125 rfl ?_
            exact rt_i R eX10_every_127 h nb_int
          · replace h := it hc h
            refine a_iload C eX10_every_120 rfl ?_
            refine a_goto C eX10_every_122 ?_
            exact rt_i R eX10_every_127 h nb_int
        · replace h := it hc h
          refine a_iload_n C eX10_every_111 rfl ?_
          refine a_goto C eX10_every_112 ?_
          exact rt_i R eX10_every_127 h nb_int
      exact a_less (lle_same (lle_same (lle_same (lle_same (lle_same (lle_same (lle_same (lle_same (lle_same lle_nil))))))))) (lX10_every_42  C R hk107_9 _ _ _ _ _ _ h)
    · replace h := it hc h
      refine a_iconst C eX10_every_22 (-1 : Int32) c_iconst_m1 ?_
      exact rt_i R eX10_every_23 h nb_int
/-! ShelfDrivesModel.layBetween()V -/
def LX10_layBetween_239 : Nat → Int32 → Sg → Option Sg
  | 0, _, _ => none
  | n + 1, x1_5, σ_6 => b1 (XX10_shops σ_6) (fun (r_7 : Int32) => if r_7 ≤ x1_5 then (some σ_6) else (if ib x1_5 6 then lt (up σ_6 78 x1_5.toNatClampNeg (σ_6 90 x1_5.toNatClampNeg)) (fun (σ_9 : Sg) => lt (x1_5 + (1 : Int32)) (fun (x1_10 : Int32) => LX10_layBetween_239 n x1_10 σ_9)) else none))
def LX10_layBetween_149 (x2_18 : Int32) (x4_34 : Int32) (σ_26 : Sg) (k205_39 : Int32 → Option Sg) : Nat → Int32 → Int32 → Option Sg
  | 0, _, _ => none
  | n + 1, x3_41, x5_42 => if x2_18 ≤ x5_42 then (k205_39 x3_41) else (b1 (XX10_number (6 : Int32) σ_26) (fun (r_43 : Int32) => if ib (((14 : Int32) * x4_34) + x5_42) 84 then b1 (XX10_number (7 : Int32) σ_26) (fun (r_45 : Int32) => lt (x3_41 + ((r_43 * (σ_26 81 (((14 : Int32) * x4_34) + x5_42).toNatClampNeg)) + (r_45 * (σ_26 82 (((14 : Int32) * x4_34) + x5_42).toNatClampNeg)))) (fun (x3_46 : Int32) => lt (x5_42 + (1 : Int32)) (fun (x5_47 : Int32) => LX10_layBetween_149 x2_18 x4_34 σ_26 k205_39 n x3_46 x5_47))) else none))
def LX10_layBetween_129 (x1_11 : Int32) (x2_18 : Int32) (σ_26 : Sg) (k211_29 : Int32 → Option Sg) : Nat → Int32 → Int32 → Option Sg
  | 0, _, _ => none
  | n + 1, x3_33, x4_34 => b1 (XX10_shops σ_26) (fun (r_35 : Int32) => if r_35 ≤ x4_34 then (k211_29 x3_33) else (lt (fun (s_36 : Int32) => lt (fun (x3_38 : Int32) => lt (x4_34 + (1 : Int32)) (fun (x4_40 : Int32) => LX10_layBetween_129 x1_11 x2_18 σ_26 k211_29 n x3_38 x4_40)) (fun (k205_39 : Int32 → Option Sg) => LX10_layBetween_149 x2_18 x4_34 σ_26 k205_39 FUEL x3_33 s_36)) (fun (k147_37 : Int32 → Option Sg) => if 0 ≤ x1_11 then (k147_37 x1_11) else (k147_37 (0 : Int32)))))
def LX10_layBetween_52 (x1_11 : Int32) (x2_18 : Int32) (k99_22 : Sg → Option Sg) : Nat → Int32 → Sg → Option Sg
  | 0, _, _ => none
  | n + 1, x3_51, σ_52 => b1 (XX10_shops σ_52) (fun (r_53 : Int32) => if r_53 ≤ x3_51 then (k99_22 σ_52) else (lt (fun (s_54 : Int32) => b1 (XX10_days σ_52) (fun (r_56 : Int32) => lt (fun (s_57 : Int32) => if ib x3_51 6 then lt (up σ_52 78 x3_51.toNatClampNeg (s_54 ||| s_57)) (fun (σ_59 : Sg) => lt (x3_51 + (1 : Int32)) (fun (x3_61 : Int32) => LX10_layBetween_52 x1_11 x2_18 k99_22 n x3_61 σ_59)) else none) (fun (k91_58 : Int32 → Option Sg) => if r_56 ≤ x2_18 then (k91_58 (0 : Int32)) else (k91_58 ((1 : Int32) <<< (x2_18 &&& 31)))))) (fun (k76_55 : Int32 → Option Sg) => if 0 ≤ x1_11 then (k76_55 ((1 : Int32) <<< (x1_11 &&& 31))) else (k76_55 (0 : Int32)))))
def LX10_layBetween_42 (x1_11 : Int32) (k231_16 : Sg → Option Sg) : Nat → Int32 → Sg → Option Sg
  | 0, _, _ => none
  | n + 1, x2_18, σ_19 => b1 (XX10_days σ_19) (fun (r_20 : Int32) => if r_20 < x2_18 then (k231_16 σ_19) else (lt (fun (σ_21 : Sg) => b1 (XX10_runAll σ_21) (fun (σ_23 : Sg) => b1 (XX10_days σ_23) (fun (r_24 : Int32) => lt (fun (s_25 : Int32) (σ_26 : Sg) => lt (fun (x3_28 : Int32) => if ib (((16 : Int32) * (x1_11 + (1 : Int32))) + x2_18) 256 then lt (up σ_26 88 (((16 : Int32) * (x1_11 + (1 : Int32))) + x2_18).toNatClampNeg x3_28) (fun (σ_30 : Sg) => lt (x2_18 + (1 : Int32)) (fun (x2_32 : Int32) => LX10_layBetween_42 x1_11 k231_16 n x2_32 σ_30)) else none) (fun (k211_29 : Int32 → Option Sg) => LX10_layBetween_129 x1_11 x2_18 σ_26 k211_29 FUEL s_25 (0 : Int32))) (fun (k125_27 : Int32 → Sg → Option Sg) => if r_24 ≤ x2_18 then (k125_27 (0 : Int32) σ_23) else (b1 (XX10_number (3 : Int32) σ_23) (fun (r_48 : Int32) => b2 (XX10_roundsCost x2_18 r_48 σ_23) (fun (r_49 : Int32) (σ_50 : Sg) => k125_27 r_49 σ_50))))))) (fun (k99_22 : Sg → Option Sg) => LX10_layBetween_52 x1_11 x2_18 k99_22 FUEL (0 : Int32) σ_19)))
def LX10_layBetween_30 (k237_4 : Sg → Option Sg) : Nat → Int32 → Sg → Option Sg
  | 0, _, _ => none
  | n + 1, x1_11, σ_12 => b1 (XX10_days σ_12) (fun (r_13 : Int32) => if r_13 ≤ x1_11 then (k237_4 σ_12) else (lt (x1_11 + (1 : Int32)) (fun (x2_14 : Int32) => lt (fun (σ_15 : Sg) => lt (x1_11 + (1 : Int32)) (fun (x1_17 : Int32) => LX10_layBetween_30 k237_4 n x1_17 σ_15)) (fun (k231_16 : Sg → Option Sg) => LX10_layBetween_42 x1_11 k231_16 FUEL x2_14 σ_12))))
def LX10_layBetween_2 (k28_2 : Sg → Option Sg) : Nat → Int32 → Sg → Option Sg
  | 0, _, _ => none
  | n + 1, x1_62, σ_63 => b1 (XX10_shops σ_63) (fun (r_64 : Int32) => if r_64 ≤ x1_62 then (k28_2 σ_63) else (if ib x1_62 6 then lt (up σ_63 90 x1_62.toNatClampNeg (σ_63 78 x1_62.toNatClampNeg)) (fun (σ_66 : Sg) => lt (x1_62 + (1 : Int32)) (fun (x1_67 : Int32) => LX10_layBetween_2 k28_2 n x1_67 σ_66)) else none))
def XX10_layBetween (σ : Sg) : Option Sg := lt (fun (σ_1 : Sg) => lt (fun (σ_3 : Sg) => LX10_layBetween_239 FUEL (0 : Int32) σ_3) (fun (k237_4 : Sg → Option Sg) => LX10_layBetween_30 k237_4 FUEL (-1 : Int32) σ_1)) (fun (k28_2 : Sg → Option Sg) => LX10_layBetween_2 k28_2 FUEL (0 : Int32) σ)
theorem lX10_layBetween_239 {X : CT} {ad : Nat → Nat} {rr : Sg}   (C : Cx X cX10_layBetween 6 RX10 none { frames := 5, cells := 0, slots := 0, locals := 116 }) (R : Rv X cX10_layBetween ad (SHc ++ SHm) rr)  : ∀ (n : Nat) (x1_5 : Int32) (σ_6 : Sg), LX10_layBetween_239 n x1_5 σ_6 = some rr → AW X 0 0 ad (SHc ++ SHm) σ_6 239 [some (.ref 64), some (.int x1_5), none, none, none, none] [] := by
  intro n
  induction n with
  | zero =>
    intro x1_5 σ_6 h
    rw [LX10_layBetween_239] at h
    cases h
  | succ n ih =>
    intro x1_5 σ_6 h
    rw [LX10_layBetween_239] at h
    refine a_iload_n C eX10_layBetween_239 rfl ?_
    refine a_aload_n C eX10_layBetween_240 rfl ?_
    obtain ⟨r_7, hq, h⟩ := b1_e h
    refine a_cVi0 C eX10_layBetween_241 wX10_98 ⟨Nat.le_of_ble_eq_true rfl, Nat.le_of_ble_eq_true rfl, rfl, rfl⟩ rfl sh_64 rfl (kX10_shops hq) (Nat.le_of_ble_eq_true rfl) ?_
    refine a_icmp_ge C eX10_layBetween_244 (fun hc => ?_) (fun hc => ?_)
    · replace h := it hc h
      exact rt_v R eX10_layBetween_265 h
    · replace h := ie hc h
      refine a_aload_n C eX10_layBetween_247 rfl ?_
      refine a_getR C eX10_layBetween_248 fX10_53 sh_64 rfl ?_
      refine a_iload_n C eX10_layBetween_251 rfl ?_
      refine a_aload_n C eX10_layBetween_252 rfl ?_
      refine a_getR C eX10_layBetween_253 fX10_89 sh_64 rfl ?_
      refine a_iload_n C eX10_layBetween_256 rfl ?_
      obtain ⟨hb_8, h⟩ := gd h
      refine a_iald C eX10_layBetween_257 sh_90 hb_8 ?_
      refine a_iastL C eX10_layBetween_258 sh_78 hb_8 h (fun σ_9 h => ?_)
      refine a_inc C eX10_layBetween_259 rfl c_iconst_1 h (fun z => [some (.ref 64), some (.int z), none, none, none, none]) (fun _ => rfl) (fun x1_10 h => ?_)
      refine a_goto C eX10_layBetween_262 ?_
      exact a_less (lle_same (lle_same (lle_same (lle_same (lle_same (lle_same lle_nil)))))) (ih _ _ h)
theorem lX10_layBetween_149 {X : CT} {ad : Nat → Nat} {rr : Sg} {x1_11 : Int32} {x2_18 : Int32} {x4_34 : Int32} {σ_26 : Sg} {k205_39 : Int32 → Option Sg}  (C : Cx X cX10_layBetween 6 RX10 none { frames := 5, cells := 0, slots := 0, locals := 116 }) (R : Rv X cX10_layBetween ad (SHc ++ SHm) rr) (hk205_39 : ∀ (x3_38 : Int32), k205_39 x3_38 = some rr → AW X 0 0 ad (SHc ++ SHm) σ_26 205 [some (.ref 64), some (.int x1_11), some (.int x2_18), some (.int x3_38), some (.int x4_34), none] []) : ∀ (n : Nat) (x3_41 : Int32) (x5_42 : Int32), LX10_layBetween_149 x2_18 x4_34 σ_26 k205_39 n x3_41 x5_42 = some rr → AW X 0 0 ad (SHc ++ SHm) σ_26 149 [some (.ref 64), some (.int x1_11), some (.int x2_18), some (.int x3_41), some (.int x4_34), some (.int x5_42)] [] := by
  intro n
  induction n with
  | zero =>
    intro x3_41 x5_42 h
    rw [LX10_layBetween_149] at h
    cases h
  | succ n ih =>
    intro x3_41 x5_42 h
    rw [LX10_layBetween_149] at h
    refine a_iload C eX10_layBetween_149 rfl ?_
    refine a_iload_n C eX10_layBetween_151 rfl ?_
    refine a_icmp_ge C eX10_layBetween_152 (fun hc => ?_) (fun hc => ?_)
    · replace h := it hc h
      exact a_less (lle_same (lle_same (lle_same (lle_same (lle_same (lle_drop lle_nil)))))) (hk205_39 _ h)
    · replace h := ie hc h
      refine a_iload_n C eX10_layBetween_155 rfl ?_
      refine a_aload_n C eX10_layBetween_156 rfl ?_
      refine a_bipush C eX10_layBetween_157 (6 : Int32) c_bipush_6 ?_
      obtain ⟨r_43, hq, h⟩ := b1_e h
      refine a_cVi1 C eX10_layBetween_159 wX10_224 ⟨Nat.le_of_ble_eq_true rfl, Nat.le_of_ble_eq_true rfl, rfl, rfl⟩ rfl sh_64 rfl (kX10_number hq) (Nat.le_of_ble_eq_true rfl) ?_
      refine a_aload_n C eX10_layBetween_162 rfl ?_
      refine a_getR C eX10_layBetween_163 fX10_62 sh_64 rfl ?_
      refine a_bipush C eX10_layBetween_166 (14 : Int32) c_bipush_14 ?_
      refine a_iload C eX10_layBetween_168 rfl ?_
      refine a_imul C eX10_layBetween_170 ?_
      refine a_iload C eX10_layBetween_171 rfl ?_
      refine a_iadd C eX10_layBetween_173 ?_
      obtain ⟨hb_44, h⟩ := gd h
      refine a_iald C eX10_layBetween_174 sh_81 hb_44 ?_
      refine a_imul C eX10_layBetween_175 ?_
      refine a_aload_n C eX10_layBetween_176 rfl ?_
      refine a_bipush C eX10_layBetween_177 (7 : Int32) c_bipush_7 ?_
      obtain ⟨r_45, hq, h⟩ := b1_e h
      refine a_cVi1 C eX10_layBetween_179 wX10_224 ⟨Nat.le_of_ble_eq_true rfl, Nat.le_of_ble_eq_true rfl, rfl, rfl⟩ rfl sh_64 rfl (kX10_number hq) (Nat.le_of_ble_eq_true rfl) ?_
      refine a_aload_n C eX10_layBetween_182 rfl ?_
      refine a_getR C eX10_layBetween_183 fX10_65 sh_64 rfl ?_
      refine a_bipush C eX10_layBetween_186 (14 : Int32) c_bipush_14 ?_
      refine a_iload C eX10_layBetween_188 rfl ?_
      refine a_imul C eX10_layBetween_190 ?_
      refine a_iload C eX10_layBetween_191 rfl ?_
      refine a_iadd C eX10_layBetween_193 ?_
      refine a_iald C eX10_layBetween_194 sh_82 hb_44 ?_
      refine a_imul C eX10_layBetween_195 ?_
      refine a_iadd C eX10_layBetween_196 ?_
      refine a_iadd C eX10_layBetween_197 ?_
      refine a_lt h (fun x3_46 h => ?_)
      refine a_ist_n C eX10_layBetween_198 (Nat.le_of_ble_eq_true rfl) [some (.ref 64), some (.int x1_11), some (.int x2_18), some (.int x3_46), some (.int x4_34), some (.int x5_42)] rfl ?_
      refine a_inc C eX10_layBetween_199 rfl c_iconst_1 h (fun z => [some (.ref 64), some (.int x1_11), some (.int x2_18), some (.int x3_46), some (.int x4_34), some (.int z)]) (fun _ => rfl) (fun x5_47 h => ?_)
      refine a_goto C eX10_layBetween_202 ?_
      exact a_less (lle_same (lle_same (lle_same (lle_same (lle_same (lle_same lle_nil)))))) (ih _ _ h)
theorem lX10_layBetween_129 {X : CT} {ad : Nat → Nat} {rr : Sg} {x1_11 : Int32} {x2_18 : Int32} {σ_26 : Sg} {k211_29 : Int32 → Option Sg}  (C : Cx X cX10_layBetween 6 RX10 none { frames := 5, cells := 0, slots := 0, locals := 116 }) (R : Rv X cX10_layBetween ad (SHc ++ SHm) rr) (hk211_29 : ∀ (x3_28 : Int32), k211_29 x3_28 = some rr → AW X 0 0 ad (SHc ++ SHm) σ_26 211 [some (.ref 64), some (.int x1_11), some (.int x2_18), some (.int x3_28), none, none] []) : ∀ (n : Nat) (x3_33 : Int32) (x4_34 : Int32), LX10_layBetween_129 x1_11 x2_18 σ_26 k211_29 n x3_33 x4_34 = some rr → AW X 0 0 ad (SHc ++ SHm) σ_26 129 [some (.ref 64), some (.int x1_11), some (.int x2_18), some (.int x3_33), some (.int x4_34), none] [] := by
  intro n
  induction n with
  | zero =>
    intro x3_33 x4_34 h
    rw [LX10_layBetween_129] at h
    cases h
  | succ n ih =>
    intro x3_33 x4_34 h
    rw [LX10_layBetween_129] at h
    refine a_iload C eX10_layBetween_129 rfl ?_
    refine a_aload_n C eX10_layBetween_131 rfl ?_
    obtain ⟨r_35, hq, h⟩ := b1_e h
    refine a_cVi0 C eX10_layBetween_132 wX10_98 ⟨Nat.le_of_ble_eq_true rfl, Nat.le_of_ble_eq_true rfl, rfl, rfl⟩ rfl sh_64 rfl (kX10_shops hq) (Nat.le_of_ble_eq_true rfl) ?_
    refine a_icmp_ge C eX10_layBetween_135 (fun hc => ?_) (fun hc => ?_)
    · replace h := it hc h
      exact a_less (lle_same (lle_same (lle_same (lle_same (lle_drop (lle_same lle_nil)))))) (hk211_29 _ h)
    · replace h := ie hc h
      refine a_iload_n C eX10_layBetween_138 rfl ?_
      refine jn (fun (kk : Int32 → Option Sg) => ∀ (s_36 : Int32), kk s_36 = some rr → AW X 0 0 ad (SHc ++ SHm) σ_26 147 [some (.ref 64), some (.int x1_11), some (.int x2_18), some (.int x3_33), some (.int x4_34), none] [.int s_36]) h ?_ (fun k147_37 hk147_37 h => ?_)
      · intro s_36 h
        refine a_ist C eX10_layBetween_147 (Nat.le_of_ble_eq_true rfl) [some (.ref 64), some (.int x1_11), some (.int x2_18), some (.int x3_33), some (.int x4_34), some (.int s_36)] rfl ?_
        refine jn (fun (kk : Int32 → Option Sg) => ∀ (x3_38 : Int32), kk x3_38 = some rr → AW X 0 0 ad (SHc ++ SHm) σ_26 205 [some (.ref 64), some (.int x1_11), some (.int x2_18), some (.int x3_38), some (.int x4_34), none] []) h ?_ (fun k205_39 hk205_39 h => ?_)
        · intro x3_38 h
          refine a_inc C eX10_layBetween_205 rfl c_iconst_1 h (fun z => [some (.ref 64), some (.int x1_11), some (.int x2_18), some (.int x3_38), some (.int z), none]) (fun _ => rfl) (fun x4_40 h => ?_)
          refine a_goto C eX10_layBetween_208 ?_
          exact a_less (lle_same (lle_same (lle_same (lle_same (lle_same (lle_same lle_nil)))))) (ih _ _ h)
        exact a_less (lle_same (lle_same (lle_same (lle_same (lle_same (lle_same lle_nil)))))) (lX10_layBetween_149  C R hk205_39 _ _ _ h)
      refine a_if_ge C eX10_layBetween_139 (fun hc => ?_) (fun hc => ?_)
      · replace h := it hc h
        refine a_iload_n C eX10_layBetween_146 rfl ?_
        exact a_less (lle_same (lle_same (lle_same (lle_same (lle_same (lle_same lle_nil)))))) (hk147_37 _ h)
      · replace h := ie hc h
        refine a_iconst C eX10_layBetween_142 (0 : Int32) c_iconst_0 ?_
        refine a_goto C eX10_layBetween_143 ?_
        exact a_less (lle_same (lle_same (lle_same (lle_same (lle_same (lle_same lle_nil)))))) (hk147_37 _ h)
theorem lX10_layBetween_52 {X : CT} {ad : Nat → Nat} {rr : Sg} {x1_11 : Int32} {x2_18 : Int32} {k99_22 : Sg → Option Sg}  (C : Cx X cX10_layBetween 6 RX10 none { frames := 5, cells := 0, slots := 0, locals := 116 }) (R : Rv X cX10_layBetween ad (SHc ++ SHm) rr) (hk99_22 : ∀ (σ_21 : Sg), k99_22 σ_21 = some rr → AW X 0 0 ad (SHc ++ SHm) σ_21 99 [some (.ref 64), some (.int x1_11), some (.int x2_18), none, none, none] []) : ∀ (n : Nat) (x3_51 : Int32) (σ_52 : Sg), LX10_layBetween_52 x1_11 x2_18 k99_22 n x3_51 σ_52 = some rr → AW X 0 0 ad (SHc ++ SHm) σ_52 52 [some (.ref 64), some (.int x1_11), some (.int x2_18), some (.int x3_51), none, none] [] := by
  intro n
  induction n with
  | zero =>
    intro x3_51 σ_52 h
    rw [LX10_layBetween_52] at h
    cases h
  | succ n ih =>
    intro x3_51 σ_52 h
    rw [LX10_layBetween_52] at h
    refine a_iload_n C eX10_layBetween_52 rfl ?_
    refine a_aload_n C eX10_layBetween_53 rfl ?_
    obtain ⟨r_53, hq, h⟩ := b1_e h
    refine a_cVi0 C eX10_layBetween_54 wX10_98 ⟨Nat.le_of_ble_eq_true rfl, Nat.le_of_ble_eq_true rfl, rfl, rfl⟩ rfl sh_64 rfl (kX10_shops hq) (Nat.le_of_ble_eq_true rfl) ?_
    refine a_icmp_ge C eX10_layBetween_57 (fun hc => ?_) (fun hc => ?_)
    · replace h := it hc h
      exact a_less (lle_same (lle_same (lle_same (lle_drop (lle_same (lle_same lle_nil)))))) (hk99_22 _ h)
    · replace h := ie hc h
      refine a_aload_n C eX10_layBetween_60 rfl ?_
      refine a_getR C eX10_layBetween_61 fX10_53 sh_64 rfl ?_
      refine a_iload_n C eX10_layBetween_64 rfl ?_
      refine a_iload_n C eX10_layBetween_65 rfl ?_
      refine jn (fun (kk : Int32 → Option Sg) => ∀ (s_54 : Int32), kk s_54 = some rr → AW X 0 0 ad (SHc ++ SHm) σ_52 76 [some (.ref 64), some (.int x1_11), some (.int x2_18), some (.int x3_51), none, none] [.int s_54, .int x3_51, .ref 78]) h ?_ (fun k76_55 hk76_55 h => ?_)
      · intro s_54 h
        refine a_iload_n C eX10_layBetween_76 rfl ?_
        refine a_aload_n C eX10_layBetween_77 rfl ?_
        obtain ⟨r_56, hq, h⟩ := b1_e h
        refine a_cVi0 C eX10_layBetween_78 wX10_106 ⟨Nat.le_of_ble_eq_true rfl, Nat.le_of_ble_eq_true rfl, rfl, rfl⟩ rfl sh_64 rfl (kX10_days hq) (Nat.le_of_ble_eq_true rfl) ?_
        refine jn (fun (kk : Int32 → Option Sg) => ∀ (s_57 : Int32), kk s_57 = some rr → AW X 0 0 ad (SHc ++ SHm) σ_52 91 [some (.ref 64), some (.int x1_11), some (.int x2_18), some (.int x3_51), none, none] [.int s_57, .int s_54, .int x3_51, .ref 78]) h ?_ (fun k91_58 hk91_58 h => ?_)
        · intro s_57 h
          refine a_ior C eX10_layBetween_91 ?_
          obtain ⟨hb_60, h⟩ := gd h
          refine a_iastL C eX10_layBetween_92 sh_78 hb_60 h (fun σ_59 h => ?_)
          refine a_inc C eX10_layBetween_93 rfl c_iconst_1 h (fun z => [some (.ref 64), some (.int x1_11), some (.int x2_18), some (.int z), none, none]) (fun _ => rfl) (fun x3_61 h => ?_)
          refine a_goto C eX10_layBetween_96 ?_
          exact a_less (lle_same (lle_same (lle_same (lle_same (lle_same (lle_same lle_nil)))))) (ih _ _ h)
        refine a_icmp_ge C eX10_layBetween_81 (fun hc => ?_) (fun hc => ?_)
        · replace h := it hc h
          refine a_iconst C eX10_layBetween_90 (0 : Int32) c_iconst_0 ?_
          exact a_less (lle_same (lle_same (lle_same (lle_same (lle_same (lle_same lle_nil)))))) (hk91_58 _ h)
        · replace h := ie hc h
          refine a_iconst C eX10_layBetween_84 (1 : Int32) c_iconst_1 ?_
          refine a_iload_n C eX10_layBetween_85 rfl ?_
          refine a_ishl C eX10_layBetween_86 ?_
          refine a_goto C eX10_layBetween_87 ?_
          exact a_less (lle_same (lle_same (lle_same (lle_same (lle_same (lle_same lle_nil)))))) (hk91_58 _ h)
      refine a_if_ge C eX10_layBetween_66 (fun hc => ?_) (fun hc => ?_)
      · replace h := it hc h
        refine a_iconst C eX10_layBetween_73 (1 : Int32) c_iconst_1 ?_
        refine a_iload_n C eX10_layBetween_74 rfl ?_
        refine a_ishl C eX10_layBetween_75 ?_
        exact a_less (lle_same (lle_same (lle_same (lle_same (lle_same (lle_same lle_nil)))))) (hk76_55 _ h)
      · replace h := ie hc h
        refine a_iconst C eX10_layBetween_69 (0 : Int32) c_iconst_0 ?_
        refine a_goto C eX10_layBetween_70 ?_
        exact a_less (lle_same (lle_same (lle_same (lle_same (lle_same (lle_same lle_nil)))))) (hk76_55 _ h)
theorem lX10_layBetween_42 {X : CT} {ad : Nat → Nat} {rr : Sg} {x1_11 : Int32} {k231_16 : Sg → Option Sg}  (C : Cx X cX10_layBetween 6 RX10 none { frames := 5, cells := 0, slots := 0, locals := 116 }) (R : Rv X cX10_layBetween ad (SHc ++ SHm) rr) (hk231_16 : ∀ (σ_15 : Sg), k231_16 σ_15 = some rr → AW X 0 0 ad (SHc ++ SHm) σ_15 231 [some (.ref 64), some (.int x1_11), none, none, none, none] []) : ∀ (n : Nat) (x2_18 : Int32) (σ_19 : Sg), LX10_layBetween_42 x1_11 k231_16 n x2_18 σ_19 = some rr → AW X 0 0 ad (SHc ++ SHm) σ_19 42 [some (.ref 64), some (.int x1_11), some (.int x2_18), none, none, none] [] := by
  intro n
  induction n with
  | zero =>
    intro x2_18 σ_19 h
    rw [LX10_layBetween_42] at h
    cases h
  | succ n ih =>
    intro x2_18 σ_19 h
    rw [LX10_layBetween_42] at h
    refine a_iload_n C eX10_layBetween_42 rfl ?_
    refine a_aload_n C eX10_layBetween_43 rfl ?_
    obtain ⟨r_20, hq, h⟩ := b1_e h
    refine a_cVi0 C eX10_layBetween_44 wX10_106 ⟨Nat.le_of_ble_eq_true rfl, Nat.le_of_ble_eq_true rfl, rfl, rfl⟩ rfl sh_64 rfl (kX10_days hq) (Nat.le_of_ble_eq_true rfl) ?_
    refine a_icmp_gt C eX10_layBetween_47 (fun hc => ?_) (fun hc => ?_)
    · replace h := it hc h
      exact a_less (lle_same (lle_same (lle_drop (lle_same (lle_same (lle_same lle_nil)))))) (hk231_16 _ h)
    · replace h := ie hc h
      refine a_iconst C eX10_layBetween_50 (0 : Int32) c_iconst_0 ?_
      refine a_ist_n C eX10_layBetween_51 (Nat.le_of_ble_eq_true rfl) [some (.ref 64), some (.int x1_11), some (.int x2_18), some (.int (0 : Int32)), none, none] rfl ?_
      refine jn (fun (kk : Sg → Option Sg) => ∀ (σ_21 : Sg), kk σ_21 = some rr → AW X 0 0 ad (SHc ++ SHm) σ_21 99 [some (.ref 64), some (.int x1_11), some (.int x2_18), none, none, none] []) h ?_ (fun k99_22 hk99_22 h => ?_)
      · intro σ_21 h
        refine a_aload_n C eX10_layBetween_99 rfl ?_
        obtain ⟨σ_23, hq, h⟩ := b1_e h
        refine a_cVv0 C eX10_layBetween_100 wX10_253 ⟨Nat.le_of_ble_eq_true rfl, Nat.le_of_ble_eq_true rfl, rfl, rfl⟩ rfl sh_64 rfl (kX10_runAll hq) (Nat.le_of_ble_eq_true rfl) ?_
        refine a_iload_n C eX10_layBetween_103 rfl ?_
        refine a_aload_n C eX10_layBetween_104 rfl ?_
        obtain ⟨r_24, hq, h⟩ := b1_e h
        refine a_cVi0 C eX10_layBetween_105 wX10_106 ⟨Nat.le_of_ble_eq_true rfl, Nat.le_of_ble_eq_true rfl, rfl, rfl⟩ rfl sh_64 rfl (kX10_days hq) (Nat.le_of_ble_eq_true rfl) ?_
        refine jn (fun (kk : Int32 → Sg → Option Sg) => ∀ (s_25 : Int32) (σ_26 : Sg), kk s_25 σ_26 = some rr → AW X 0 0 ad (SHc ++ SHm) σ_26 125 [some (.ref 64), some (.int x1_11), some (.int x2_18), none, none, none] [.int s_25]) h ?_ (fun k125_27 hk125_27 h => ?_)
        · intro s_25 σ_26 h
          refine a_ist_n C eX10_layBetween_125 (Nat.le_of_ble_eq_true rfl) [some (.ref 64), some (.int x1_11), some (.int x2_18), some (.int s_25), none, none] rfl ?_
          refine a_iconst C eX10_layBetween_126 (0 : Int32) c_iconst_0 ?_
          refine a_ist C eX10_layBetween_127 (Nat.le_of_ble_eq_true rfl) [some (.ref 64), some (.int x1_11), some (.int x2_18), some (.int s_25), some (.int (0 : Int32)), none] rfl ?_
          refine jn (fun (kk : Int32 → Option Sg) => ∀ (x3_28 : Int32), kk x3_28 = some rr → AW X 0 0 ad (SHc ++ SHm) σ_26 211 [some (.ref 64), some (.int x1_11), some (.int x2_18), some (.int x3_28), none, none] []) h ?_ (fun k211_29 hk211_29 h => ?_)
          · intro x3_28 h
            refine a_aload_n C eX10_layBetween_211 rfl ?_
            refine a_getR C eX10_layBetween_212 fX10_83 sh_64 rfl ?_
            refine a_bipush C eX10_layBetween_215 (16 : Int32) c_bipush_16 ?_
            refine a_iload_n C eX10_layBetween_217 rfl ?_
            refine a_iconst C eX10_layBetween_218 (1 : Int32) c_iconst_1 ?_
            refine a_iadd C eX10_layBetween_219 ?_
            refine a_imul C eX10_layBetween_220 ?_
            refine a_iload_n C eX10_layBetween_221 rfl ?_
            refine a_iadd C eX10_layBetween_222 ?_
            refine a_iload_n C eX10_layBetween_223 rfl ?_
            obtain ⟨hb_31, h⟩ := gd h
            refine a_iastL C eX10_layBetween_224 sh_88 hb_31 h (fun σ_30 h => ?_)
            refine a_inc C eX10_layBetween_225 rfl c_iconst_1 h (fun z => [some (.ref 64), some (.int x1_11), some (.int z), some (.int x3_28), none, none]) (fun _ => rfl) (fun x2_32 h => ?_)
            refine a_goto C eX10_layBetween_228 ?_
            exact a_less (lle_same (lle_same (lle_same (lle_drop (lle_same (lle_same lle_nil)))))) (ih _ _ h)
          exact a_less (lle_same (lle_same (lle_same (lle_same (lle_same (lle_same lle_nil)))))) (lX10_layBetween_129  C R hk211_29 _ _ _ h)
        refine a_icmp_ge C eX10_layBetween_108 (fun hc => ?_) (fun hc => ?_)
        · replace h := it hc h
          refine a_iconst C eX10_layBetween_124 (0 : Int32) c_iconst_0 ?_
          exact a_less (lle_same (lle_same (lle_same (lle_same (lle_same (lle_same lle_nil)))))) (hk125_27 _ _ h)
        · replace h := ie hc h
          refine a_aload_n C eX10_layBetween_111 rfl ?_
          refine a_iload_n C eX10_layBetween_112 rfl ?_
          refine a_aload_n C eX10_layBetween_113 rfl ?_
          refine a_iconst C eX10_layBetween_114 (3 : Int32) c_iconst_3 ?_
          obtain ⟨r_48, hq, h⟩ := b1_e h
          refine a_cVi1 C eX10_layBetween_115 wX10_224 ⟨Nat.le_of_ble_eq_true rfl, Nat.le_of_ble_eq_true rfl, rfl, rfl⟩ rfl sh_64 rfl (kX10_number hq) (Nat.le_of_ble_eq_true rfl) ?_
          obtain ⟨r_49, σ_50, hq, h⟩ := b2_e h
          refine a_cVi2 C eX10_layBetween_118 wX10_305 ⟨Nat.le_of_ble_eq_true rfl, Nat.le_of_ble_eq_true rfl, rfl, rfl⟩ rfl sh_64 rfl (kX10_roundsCost hq) (Nat.le_of_ble_eq_true rfl) ?_
          refine a_goto C eX10_layBetween_121 ?_
          exact a_less (lle_same (lle_same (lle_same (lle_same (lle_same (lle_same lle_nil)))))) (hk125_27 _ _ h)
      exact a_less (lle_same (lle_same (lle_same (lle_same (lle_same (lle_same lle_nil)))))) (lX10_layBetween_52  C R hk99_22 _ _ _ h)
theorem lX10_layBetween_30 {X : CT} {ad : Nat → Nat} {rr : Sg} {k237_4 : Sg → Option Sg}  (C : Cx X cX10_layBetween 6 RX10 none { frames := 5, cells := 0, slots := 0, locals := 116 }) (R : Rv X cX10_layBetween ad (SHc ++ SHm) rr) (hk237_4 : ∀ (σ_3 : Sg), k237_4 σ_3 = some rr → AW X 0 0 ad (SHc ++ SHm) σ_3 237 [some (.ref 64), none, none, none, none, none] []) : ∀ (n : Nat) (x1_11 : Int32) (σ_12 : Sg), LX10_layBetween_30 k237_4 n x1_11 σ_12 = some rr → AW X 0 0 ad (SHc ++ SHm) σ_12 30 [some (.ref 64), some (.int x1_11), none, none, none, none] [] := by
  intro n
  induction n with
  | zero =>
    intro x1_11 σ_12 h
    rw [LX10_layBetween_30] at h
    cases h
  | succ n ih =>
    intro x1_11 σ_12 h
    rw [LX10_layBetween_30] at h
    refine a_iload_n C eX10_layBetween_30 rfl ?_
    refine a_aload_n C eX10_layBetween_31 rfl ?_
    obtain ⟨r_13, hq, h⟩ := b1_e h
    refine a_cVi0 C eX10_layBetween_32 wX10_106 ⟨Nat.le_of_ble_eq_true rfl, Nat.le_of_ble_eq_true rfl, rfl, rfl⟩ rfl sh_64 rfl (kX10_days hq) (Nat.le_of_ble_eq_true rfl) ?_
    refine a_icmp_ge C eX10_layBetween_35 (fun hc => ?_) (fun hc => ?_)
    · replace h := it hc h
      exact a_less (lle_same (lle_drop (lle_same (lle_same (lle_same (lle_same lle_nil)))))) (hk237_4 _ h)
    · replace h := ie hc h
      refine a_iload_n C eX10_layBetween_38 rfl ?_
      refine a_iconst C eX10_layBetween_39 (1 : Int32) c_iconst_1 ?_
      refine a_iadd C eX10_layBetween_40 ?_
      refine a_lt h (fun x2_14 h => ?_)
      refine a_ist_n C eX10_layBetween_41 (Nat.le_of_ble_eq_true rfl) [some (.ref 64), some (.int x1_11), some (.int x2_14), none, none, none] rfl ?_
      refine jn (fun (kk : Sg → Option Sg) => ∀ (σ_15 : Sg), kk σ_15 = some rr → AW X 0 0 ad (SHc ++ SHm) σ_15 231 [some (.ref 64), some (.int x1_11), none, none, none, none] []) h ?_ (fun k231_16 hk231_16 h => ?_)
      · intro σ_15 h
        refine a_inc C eX10_layBetween_231 rfl c_iconst_1 h (fun z => [some (.ref 64), some (.int z), none, none, none, none]) (fun _ => rfl) (fun x1_17 h => ?_)
        refine a_goto C eX10_layBetween_234 ?_
        exact a_less (lle_same (lle_same (lle_same (lle_same (lle_same (lle_same lle_nil)))))) (ih _ _ h)
      exact a_less (lle_same (lle_same (lle_same (lle_same (lle_same (lle_same lle_nil)))))) (lX10_layBetween_42  C R hk231_16 _ _ _ h)
theorem lX10_layBetween_2 {X : CT} {ad : Nat → Nat} {rr : Sg} {k28_2 : Sg → Option Sg}  (C : Cx X cX10_layBetween 6 RX10 none { frames := 5, cells := 0, slots := 0, locals := 116 }) (R : Rv X cX10_layBetween ad (SHc ++ SHm) rr) (hk28_2 : ∀ (σ_1 : Sg), k28_2 σ_1 = some rr → AW X 0 0 ad (SHc ++ SHm) σ_1 28 [some (.ref 64), none, none, none, none, none] []) : ∀ (n : Nat) (x1_62 : Int32) (σ_63 : Sg), LX10_layBetween_2 k28_2 n x1_62 σ_63 = some rr → AW X 0 0 ad (SHc ++ SHm) σ_63 2 [some (.ref 64), some (.int x1_62), none, none, none, none] [] := by
  intro n
  induction n with
  | zero =>
    intro x1_62 σ_63 h
    rw [LX10_layBetween_2] at h
    cases h
  | succ n ih =>
    intro x1_62 σ_63 h
    rw [LX10_layBetween_2] at h
    refine a_iload_n C eX10_layBetween_2 rfl ?_
    refine a_aload_n C eX10_layBetween_3 rfl ?_
    obtain ⟨r_64, hq, h⟩ := b1_e h
    refine a_cVi0 C eX10_layBetween_4 wX10_98 ⟨Nat.le_of_ble_eq_true rfl, Nat.le_of_ble_eq_true rfl, rfl, rfl⟩ rfl sh_64 rfl (kX10_shops hq) (Nat.le_of_ble_eq_true rfl) ?_
    refine a_icmp_ge C eX10_layBetween_7 (fun hc => ?_) (fun hc => ?_)
    · replace h := it hc h
      exact a_less (lle_same (lle_drop (lle_same (lle_same (lle_same (lle_same lle_nil)))))) (hk28_2 _ h)
    · replace h := ie hc h
      refine a_aload_n C eX10_layBetween_10 rfl ?_
      refine a_getR C eX10_layBetween_11 fX10_89 sh_64 rfl ?_
      refine a_iload_n C eX10_layBetween_14 rfl ?_
      refine a_aload_n C eX10_layBetween_15 rfl ?_
      refine a_getR C eX10_layBetween_16 fX10_53 sh_64 rfl ?_
      refine a_iload_n C eX10_layBetween_19 rfl ?_
      obtain ⟨hb_65, h⟩ := gd h
      refine a_iald C eX10_layBetween_20 sh_78 hb_65 ?_
      refine a_iastL C eX10_layBetween_21 sh_90 hb_65 h (fun σ_66 h => ?_)
      refine a_inc C eX10_layBetween_22 rfl c_iconst_1 h (fun z => [some (.ref 64), some (.int z), none, none, none, none]) (fun _ => rfl) (fun x1_67 h => ?_)
      refine a_goto C eX10_layBetween_25 ?_
      exact a_less (lle_same (lle_same (lle_same (lle_same (lle_same (lle_same lle_nil)))))) (ih _ _ h)
theorem kX10_layBetween {σ : Sg} {rr : Sg}  (h : XX10_layBetween σ = some rr) : Cv MX10_layBetween [.ref 64] (SHc ++ SHm) σ rr := by
  refine Cv.start rfl rfl (Nat.le_of_ble_eq_true rfl) rfl ?_
  intro X ad C R
  replace C : Cx X cX10_layBetween 6 RX10 none { frames := 5, cells := 0, slots := 0, locals := 116 } := C
  replace R : Rv X cX10_layBetween ad (SHc ++ SHm) rr := R
  show AW X 0 0 ad (SHc ++ SHm) σ 0 [some (.ref 64), none, none, none, none, none] []
  rw [XX10_layBetween] at h
  refine a_iconst C eX10_layBetween_0 (0 : Int32) c_iconst_0 ?_
  refine a_ist_n C eX10_layBetween_1 (Nat.le_of_ble_eq_true rfl) [some (.ref 64), some (.int (0 : Int32)), none, none, none, none] rfl ?_
  refine jn (fun (kk : Sg → Option Sg) => ∀ (σ_1 : Sg), kk σ_1 = some rr → AW X 0 0 ad (SHc ++ SHm) σ_1 28 [some (.ref 64), none, none, none, none, none] []) h ?_ (fun k28_2 hk28_2 h => ?_)
  · intro σ_1 h
    refine a_iconst C eX10_layBetween_28 (-1 : Int32) c_iconst_m1 ?_
    refine a_ist_n C eX10_layBetween_29 (Nat.le_of_ble_eq_true rfl) [some (.ref 64), some (.int (-1 : Int32)), none, none, none, none] rfl ?_
    refine jn (fun (kk : Sg → Option Sg) => ∀ (σ_3 : Sg), kk σ_3 = some rr → AW X 0 0 ad (SHc ++ SHm) σ_3 237 [some (.ref 64), none, none, none, none, none] []) h ?_ (fun k237_4 hk237_4 h => ?_)
    · intro σ_3 h
      refine a_iconst C eX10_layBetween_237 (0 : Int32) c_iconst_0 ?_
      refine a_ist_n C eX10_layBetween_238 (Nat.le_of_ble_eq_true rfl) [some (.ref 64), some (.int (0 : Int32)), none, none, none, none] rfl ?_
      exact a_less (lle_same (lle_same (lle_same (lle_same (lle_same (lle_same lle_nil)))))) (lX10_layBetween_239  C R  _ _ _ h)
    exact a_less (lle_same (lle_same (lle_same (lle_same (lle_same (lle_same lle_nil)))))) (lX10_layBetween_30  C R hk237_4 _ _ _ h)
  exact a_less (lle_same (lle_same (lle_same (lle_same (lle_same (lle_same lle_nil)))))) (lX10_layBetween_2  C R hk28_2 _ _ _ h)
/-! ShelfDrivesModel.costBy(I)I -/
def LX10_costBy_7 (p1 : Int32) (σ : Sg) (k51_3 : Int32 → Int32 → Option Int32) : Nat → Int32 → Int32 → Int32 → Option Int32
  | 0, _, _, _ => none
  | n + 1, x2_6, x3_7, x4_8 => b1 (XX10_days σ) (fun (r_9 : Int32) => if r_9 ≤ x4_8 then (k51_3 x2_6 x3_7) else (b1 (XX10_isOf p1 x4_8) (fun (r_10 : Int32) => lt (fun (x2_11 : Int32) (x3_12 : Int32) => lt (x4_8 + (1 : Int32)) (fun (x4_14 : Int32) => LX10_costBy_7 p1 σ k51_3 n x2_11 x3_12 x4_14)) (fun (k45_13 : Int32 → Int32 → Option Int32) => if r_10 = 0 then (k45_13 x2_6 x3_7) else (if ib (((16 : Int32) * (x2_6 + (1 : Int32))) + x4_8) 256 then lt (x3_7 + (σ 88 (((16 : Int32) * (x2_6 + (1 : Int32))) + x4_8).toNatClampNeg)) (fun (x3_16 : Int32) => k45_13 x4_8 x3_16) else none)))))
def XX10_costBy (p1 : Int32) (σ : Sg) : Option Int32 := lt (fun (x2_1 : Int32) (x3_2 : Int32) => b1 (XX10_days σ) (fun (r_4 : Int32) => if ib (((16 : Int32) * (x2_1 + (1 : Int32))) + r_4) 256 then some (x3_2 + (σ 88 (((16 : Int32) * (x2_1 + (1 : Int32))) + r_4).toNatClampNeg)) else none)) (fun (k51_3 : Int32 → Int32 → Option Int32) => LX10_costBy_7 p1 σ k51_3 FUEL (-1 : Int32) (0 : Int32) (0 : Int32))
theorem lX10_costBy_7 {X : CT} {ad : Nat → Nat} {rr : Int32} {p1 : Int32} {σ : Sg} {k51_3 : Int32 → Int32 → Option Int32}  (C : Cx X cX10_costBy 5 RX10 (some .int) { frames := 1, cells := 0, slots := 0, locals := 21 }) (R : Ri X cX10_costBy (some .int) ad (SHc ++ SHm) (rr, σ)) (hk51_3 : ∀ (x2_1 : Int32) (x3_2 : Int32), k51_3 x2_1 x3_2 = some rr → AW X 0 0 ad (SHc ++ SHm) σ 51 [some (.ref 64), none, some (.int x2_1), some (.int x3_2), none] []) : ∀ (n : Nat) (x2_6 : Int32) (x3_7 : Int32) (x4_8 : Int32), LX10_costBy_7 p1 σ k51_3 n x2_6 x3_7 x4_8 = some rr → AW X 0 0 ad (SHc ++ SHm) σ 7 [some (.ref 64), some (.int p1), some (.int x2_6), some (.int x3_7), some (.int x4_8)] [] := by
  intro n
  induction n with
  | zero =>
    intro x2_6 x3_7 x4_8 h
    rw [LX10_costBy_7] at h
    cases h
  | succ n ih =>
    intro x2_6 x3_7 x4_8 h
    rw [LX10_costBy_7] at h
    refine a_iload C eX10_costBy_7 rfl ?_
    refine a_aload_n C eX10_costBy_9 rfl ?_
    obtain ⟨r_9, hq, h⟩ := b1_e h
    refine a_cVi0 C eX10_costBy_10 wX10_106 ⟨Nat.le_of_ble_eq_true rfl, Nat.le_of_ble_eq_true rfl, rfl, rfl⟩ rfl sh_64 rfl (kX10_days hq) (Nat.le_of_ble_eq_true rfl) ?_
    refine a_icmp_ge C eX10_costBy_13 (fun hc => ?_) (fun hc => ?_)
    · replace h := it hc h
      exact a_less (lle_same (lle_drop (lle_same (lle_same (lle_drop lle_nil))))) (hk51_3 _ _ h)
    · replace h := ie hc h
      refine a_iload_n C eX10_costBy_16 rfl ?_
      refine a_iload C eX10_costBy_17 rfl ?_
      obtain ⟨r_10, hq, h⟩ := b1_e h
      refine a_cSi2 C eX10_costBy_19 wX10_176 ⟨Nat.le_of_ble_eq_true rfl, Nat.le_of_ble_eq_true rfl, rfl, rfl⟩ rfl (kX10_isOf hq) (Nat.le_of_ble_eq_true rfl) ?_
      refine jn (fun (kk : Int32 → Int32 → Option Int32) => ∀ (x2_11 : Int32) (x3_12 : Int32), kk x2_11 x3_12 = some rr → AW X 0 0 ad (SHc ++ SHm) σ 45 [some (.ref 64), some (.int p1), some (.int x2_11), some (.int x3_12), some (.int x4_8)] []) h ?_ (fun k45_13 hk45_13 h => ?_)
      · intro x2_11 x3_12 h
        refine a_inc C eX10_costBy_45 rfl c_iconst_1 h (fun z => [some (.ref 64), some (.int p1), some (.int x2_11), some (.int x3_12), some (.int z)]) (fun _ => rfl) (fun x4_14 h => ?_)
        refine a_goto C eX10_costBy_48 ?_
        exact a_less (lle_same (lle_same (lle_same (lle_same (lle_same lle_nil))))) (ih _ _ _ h)
      refine a_if_eq C eX10_costBy_22 (fun hc => ?_) (fun hc => ?_)
      · replace h := it hc h
        exact a_less (lle_same (lle_same (lle_same (lle_same (lle_same lle_nil))))) (hk45_13 _ _ h)
      · replace h := ie hc h
        refine a_iload_n C eX10_costBy_25 rfl ?_
        refine a_aload_n C eX10_costBy_26 rfl ?_
        refine a_getR C eX10_costBy_27 fX10_83 sh_64 rfl ?_
        refine a_bipush C eX10_costBy_30 (16 : Int32) c_bipush_16 ?_
        refine a_iload_n C eX10_costBy_32 rfl ?_
        refine a_iconst C eX10_costBy_33 (1 : Int32) c_iconst_1 ?_
        refine a_iadd C eX10_costBy_34 ?_
        refine a_imul C eX10_costBy_35 ?_
        refine a_iload C eX10_costBy_36 rfl ?_
        refine a_iadd C eX10_costBy_38 ?_
        obtain ⟨hb_15, h⟩ := gd h
        refine a_iald C eX10_costBy_39 sh_88 hb_15 ?_
        refine a_iadd C eX10_costBy_40 ?_
        refine a_lt h (fun x3_16 h => ?_)
        refine a_ist_n C eX10_costBy_41 (Nat.le_of_ble_eq_true rfl) [some (.ref 64), some (.int p1), some (.int x2_6), some (.int x3_16), some (.int x4_8)] rfl ?_
        refine a_iload C eX10_costBy_42 rfl ?_
        refine a_ist_n C eX10_costBy_44 (Nat.le_of_ble_eq_true rfl) [some (.ref 64), some (.int p1), some (.int x4_8), some (.int x3_16), some (.int x4_8)] rfl ?_
        exact a_less (lle_same (lle_same (lle_same (lle_same (lle_same lle_nil))))) (hk45_13 _ _ h)
theorem kX10_costBy {p1 : Int32} {σ : Sg} {rr : Int32}  (h : XX10_costBy p1 σ = some rr) : Ci MX10_costBy [.ref 64, .int p1] (SHc ++ SHm) σ (rr, σ) := by
  refine Ci.start rfl rfl (Nat.le_of_ble_eq_true rfl) ?_
  intro X ad C R
  replace C : Cx X cX10_costBy 5 RX10 (some .int) { frames := 1, cells := 0, slots := 0, locals := 21 } := C
  replace R : Ri X cX10_costBy (some .int) ad (SHc ++ SHm) (rr, σ) := R
  show AW X 0 0 ad (SHc ++ SHm) σ 0 [some (.ref 64), some (.int p1), none, none, none] []
  rw [XX10_costBy] at h
  refine a_iconst C eX10_costBy_0 (-1 : Int32) c_iconst_m1 ?_
  refine a_ist_n C eX10_costBy_1 (Nat.le_of_ble_eq_true rfl) [some (.ref 64), some (.int p1), some (.int (-1 : Int32)), none, none] rfl ?_
  refine a_iconst C eX10_costBy_2 (0 : Int32) c_iconst_0 ?_
  refine a_ist_n C eX10_costBy_3 (Nat.le_of_ble_eq_true rfl) [some (.ref 64), some (.int p1), some (.int (-1 : Int32)), some (.int (0 : Int32)), none] rfl ?_
  refine a_iconst C eX10_costBy_4 (0 : Int32) c_iconst_0 ?_
  refine a_ist C eX10_costBy_5 (Nat.le_of_ble_eq_true rfl) [some (.ref 64), some (.int p1), some (.int (-1 : Int32)), some (.int (0 : Int32)), some (.int (0 : Int32))] rfl ?_
  refine jn (fun (kk : Int32 → Int32 → Option Int32) => ∀ (x2_1 : Int32) (x3_2 : Int32), kk x2_1 x3_2 = some rr → AW X 0 0 ad (SHc ++ SHm) σ 51 [some (.ref 64), none, some (.int x2_1), some (.int x3_2), none] []) h ?_ (fun k51_3 hk51_3 h => ?_)
  · intro x2_1 x3_2 h
    refine a_iload_n C eX10_costBy_51 rfl ?_
    refine a_aload_n C eX10_costBy_52 rfl ?_
    refine a_getR C eX10_costBy_53 fX10_83 sh_64 rfl ?_
    refine a_bipush C eX10_costBy_56 (16 : Int32) c_bipush_16 ?_
    refine a_iload_n C eX10_costBy_58 rfl ?_
    refine a_iconst C eX10_costBy_59 (1 : Int32) c_iconst_1 ?_
    refine a_iadd C eX10_costBy_60 ?_
    refine a_imul C eX10_costBy_61 ?_
    refine a_aload_n C eX10_costBy_62 rfl ?_
    obtain ⟨r_4, hq, h⟩ := b1_e h
    refine a_cVi0 C eX10_costBy_63 wX10_106 ⟨Nat.le_of_ble_eq_true rfl, Nat.le_of_ble_eq_true rfl, rfl, rfl⟩ rfl sh_64 rfl (kX10_days hq) (Nat.le_of_ble_eq_true rfl) ?_
    refine a_iadd C eX10_costBy_66 ?_
    obtain ⟨hb_5, h⟩ := gd h
    refine a_iald C eX10_costBy_67 sh_88 hb_5 ?_
    refine a_iadd C eX10_costBy_68 ?_
    exact rt_p R eX10_costBy_69 h nb_int
  exact a_less (lle_same (lle_same (lle_same (lle_same (lle_same lle_nil))))) (lX10_costBy_7  C R hk51_3 _ _ _ _ h)
