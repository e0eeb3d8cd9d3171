/-! CALLS: shop, end, feed -/
theorem op_shop {V : Vw} {σ : Sg} (h : Inv V σ) (x y : Int32) : pureOK σ (XX9_shop x y σ) (XX10_shop x y σ) := by
  obtain ⟨hw, ⟨ht, hn, hc, -, -, -⟩, hr⟩ := id h
  have s6 := hw.s6
  have d14 := hw.d14
  have hr1 : RM V (up σ 64 0 0) := hr.1.th
  have key : ∃ r τ, XX9_shop x y σ = some r ∧ XX10_shop x y σ = some (r, τ) := by
    unfold XX9_shop XX10_shop
    rw [lt_def, c_hasShop ht s6, m_isShop (hr1.1 8 (by omega)) (by omega)]
    by_cases hx : ib x (V 0 8)
    · obtain ⟨s, hs, rfl⟩ := ib_of hx (by omega)
      rw [if_pos hx]
      simp only [b1, XX10_days]
      rw [if_neg (show ¬ (1 : Int32) = 0 by decide), if_neg (show ¬ (1 : Int32) = 0 by decide), hr1.1 0 (by omega), m_in, c_hasDay ht d14]
      simp only []
      have i7 : ib (nI s) 7 := (ib_nI (by omega)).mpr (by omega)
      have i6 : ib (nI s) 6 := (ib_nI (by omega)).mpr (by omega)
      have i12 : ib (nI s) 12 := (ib_nI (by omega)).mpr (by omega)
      have ic : (nI s).toNatClampNeg = s := nI_cl (by omega)
      have far : XX10_far (nI s) (6 : Int32) (up σ 64 0 0) = some (nI (faV V s 6)) := m_far hw hr1 (Or.inl hs : pl V s) (Or.inr rfl : pl V 6)
      have btw : XX8_between (nI s) (6 : Int32) σ = some (nI (faV V s 6)) := by
        rw [show (6 : Int32) = nI 6 from rfl, c_between (by omega) (by omega), hc.2.1 s 6 (Or.inl hs) (Or.inr rfl)]
      simp only [if_pos i7, if_pos i6, if_pos i12, ic]
      rw [far, btw]
      obtain ⟨c3, c4, c5, c6⟩ := ht.2.2.2.2.2.2.2.2.1 s hs
      obtain ⟨m6, m7, m8, m9⟩ := hr1.2.1 s hs
      have v1 : σ 39 s = nI (V 5 s) := hn.1 s (by omega)
      rw [c3, c4, c5, c6, v1, m6, m7, m8, m9, hr1.2.2.1 s (by omega)]
      simp only [b1]
      by_cases y10 : y < 10
      · rw [if_pos y10, if_pos y10, if_pos rfl]
        refine both_if (fun _ => ⟨_, _, rfl, rfl⟩) (fun _ => ?_)
        refine both_if (fun _ => ⟨_, _, rfl, rfl⟩) (fun _ => ?_)
        refine both_if (fun _ => ⟨_, _, rfl, rfl⟩) (fun _ => ?_)
        refine both_if (fun _ => ⟨_, _, rfl, rfl⟩) (fun _ => ?_)
        refine both_if (fun _ => ⟨_, _, rfl, rfl⟩) (fun _ => ?_)
        refine both_if (fun _ => ⟨_, _, rfl, rfl⟩) (fun _ => ?_)
        exact ⟨_, _, rfl, rfl⟩
      · have y0 : ¬ y < 0 := fun q => y10 (Int32.lt_iff_toInt_lt.mpr (by
          have := Int32.lt_iff_toInt_lt.mp q
          rw [Int32.toInt_zero] at this
          show y.toInt < 10
          omega))
        obtain ⟨t, ht31, rfl⟩ := nI_of y0
        have t10 : 10 ≤ t := by
          rcases Nat.lt_or_ge t 10 with q | q
          · exact absurd ((nI_lti (b := 10) (by omega) (by omega)).mpr q) y10
          · exact q
        rw [if_neg y10, if_neg y10]
        have e : nI t - (10 : Int32) = nI (t - 10) := by rw [nI_lit, pk_sub t10]
        have e9 : (9 : Int32) + nI (V 0 0) = nI (9 + V 0 0) := by rw [nI_lit, nI_add]
        rw [e, e9]
        by_cases c : t - 10 < V 0 0
        · rw [if_pos ((ib_nI (by omega)).mpr c), if_neg (show ¬ (1 : Int32) = 0 by decide), c_cellOf, if_neg (show ¬ nI (9 + V 0 0) < nI t by rw [nI_lti] <;> omega), if_neg (show ¬ (1 : Int32) = 0 by decide), m_askedOf hw hr1 hs c]
          simp only [b1]
          rw [if_pos ((ib_nI (by omega)).mpr (by omega)), nI_cl (by omega), ht.2.2.2.2.2.2.2.2.2.2.2.1 s (t - 10) hs c]
          exact ⟨_, _, rfl, rfl⟩
        · rw [if_neg (fun q => c ((ib_nI (by omega)).mp q)), if_pos rfl, if_pos (show nI (9 + V 0 0) < nI t by rw [nI_lti] <;> omega), if_pos rfl]
          have ne : ∀ k : Nat, k < 10 → ¬ nI t = nI k := fun k hk => nI_ne (by omega) (by omega) (by omega)
          rw [if_neg (show ¬ nI t = 0 from ne 0 (by omega)), if_neg (show ¬ nI t = 1 from ne 1 (by omega)), if_neg (show ¬ nI t = 2 from ne 2 (by omega)), if_neg (show ¬ nI t = 3 from ne 3 (by omega)), if_neg (show ¬ nI t = 4 from ne 4 (by omega)), if_neg (show ¬ nI t = 5 from ne 5 (by omega))]
          exact ⟨_, _, rfl, rfl⟩
    · rw [if_neg hx]
      exact ⟨_, _, rfl, rfl⟩
  obtain ⟨r, τ, h1, h2⟩ := key
  exact ⟨r, τ, h1, h2, V, h.look (frX10_shop h2) rfl rfl⟩
/-- a view with one row changed -/
def put (V : Vw) (i : Nat) (f : Nat → Nat) : Vw := fun j => if j = i then f else V j
def tpV (V : Vw) (g : Nat → Nat) (n : Nat) : Vw := put (put V 11 g) 12 (fun _ => n)
theorem tp_sw (V : Vw) (g : Nat → Nat) (n : Nat) : sW V (tpV V g n) := ⟨rfl, rfl, rfl, rfl, rfl⟩
theorem prV_sw {V V' : Vw} (h : sW V V') (h3 : V' 0 3 = V 0 3) : prV V' = prV V := by
  funext f
  unfold prV cdV dpV
  rw [PT_sw h, h3, h.2.2.1]
theorem WF.tape {V : Vw} (h : WF V) {g : Nat → Nat} {n : Nat} (hn : n ≤ 800) (hg : ∀ i, i < n → g i < 256) : WF (tpV V g n) := by
  obtain ⟨a1, a2, a3, a4, a5, a6, a7, a8, a9, a10, a11, a12, a13, a14, a15, a16, a17, a18, a19, a20, a21, -, -⟩ := h
  exact ⟨a1, a2, a3, a4, a5, a6, a7, a8, a9, a10, a11, a12, a13, a14, a15, a16, a17, a18, a19, a20, a21, hn, hg⟩
theorem WC.sw {V V' : Vw} {σ : Sg} (h : WC V σ) (hs : sW V V') : WC V' σ := by
  unfold WC FC pl faV at h ⊢
  rw [ah_sw hs, hs.2.2.1, hs.2.2.2.1, hs.2.2.2.2]
  exact h
theorem PC.sw {V V' : Vw} {σ : Sg} (h : PC V σ) (hs : sW V V') : PC V' σ := by
  unfold PC at h ⊢
  rw [rp_sw hs, hs.2.2.1]
  exact h
theorem AHM.sw {V V' : Vw} {σ : Sg} (h : AHM V σ) (hs : sW V V') : AHM V' σ := by
  unfold AHM pl at h ⊢
  rw [ah_sw hs, hs.2.2.1]
  exact h
theorem CI.tape {V : Vw} {σ τ : Sg} (h : CI V σ) {g : Nat → Nat} {n : Nat} (hf : fr [(0, some 1), (1, none)] σ τ) (h0 : τ 0 1 = nI n) (h1 : ∀ i, i < n → τ 1 i = nI (g i)) : CI (tpV V g n) τ := by
  obtain ⟨ht, hn, hc, hp, ha, hx⟩ := h
  have hs := tp_sw V g n
  have hn2 := hn.frm hf rfl
  refine ⟨(ht.off (fun k k1 k2 => hf.cell (by simp; omega)) : TC V τ), ?_, ?_, ?_, ?_, ?_⟩
  · rw [prV_sw hs rfl]
    exact hn2
  · refine WC.sw ?_ hs
    unfold WC FC at hc ⊢
    rw [hf.cell (k := 25) rfl, hf.cell (k := 27) rfl, hf.cell (k := 28) rfl]
    exact hc
  · exact (hp.off hf (fun k k1 k2 => by simp; omega)).sw hs
  · show AC V τ
    unfold AC at ha ⊢
    rw [hf.cell (k := 61) rfl, hf.cell (k := 62) rfl]
    exact ha
  · refine ⟨h0, h1, ?_⟩
    show τ 10 1 = nI (V 13 0) ∧ τ 10 2 = nI (V 13 1) - 1 ∧ (∀ j, j < 13 → τ 19 j = nI (kwL.getD j 0))
    rw [hf.cell (k := 10) rfl, hf.cell (k := 19) rfl]
    exact hx.2.2
theorem RA.tape {V : Vw} {σ τ : Sg} (h : RA V σ) {g : Nat → Nat} {n : Nat} (hf : fr [(64, some 0), (64, some 14), (76, none)] σ τ) (h0 : τ 64 14 = nI n) (h1 : ∀ i, i < n → τ 76 i = nI (g i)) : RA (tpV V g n) τ := by
  obtain ⟨hm, hA⟩ := h
  have hs := tp_sw V g n
  refine ⟨?_, ?_⟩
  · obtain ⟨b1, b2, b3, b4, b5, b6, b7, -, -, b10, b11⟩ := hm
    have c64 : ∀ i, i ≠ 0 → i ≠ 14 → τ 64 i = σ 64 i := fun i n0 n1 => hf 64 i (by simp) (by simp [n0, n1])
    have c : ∀ k, k ≠ 64 → k ≠ 76 → τ k = σ k := fun k k1 k2 => hf.cell (by simp; omega)
    rw [← c 65 (by omega) (by omega)] at b1
    rw [← c 66 (by omega) (by omega), ← c 67 (by omega) (by omega), ← c 68 (by omega) (by omega), ← c 69 (by omega) (by omega)] at b2
    rw [← c 78 (by omega) (by omega)] at b3
    rw [← c 70 (by omega) (by omega), ← c 71 (by omega) (by omega)] at b4
    rw [← c 72 (by omega) (by omega), ← c 73 (by omega) (by omega), ← c 74 (by omega) (by omega)] at b5
    rw [← c64 39 (by omega) (by omega)] at b6
    rw [← c 91 (by omega) (by omega)] at b7
    rw [← c64 20 (by omega) (by omega)] at b10
    rw [← c64 21 (by omega) (by omega)] at b11
    exact ⟨b1, b2, b3, b4, b5, b6, b7, h0, h1, b10, b11⟩
  · refine AHM.sw ?_ hs
    unfold AHM at hA ⊢
    rw [hf.cell (k := 77) rfl]
    exact hA
theorem op_end {V : Vw} {σ : Sg} (h : Inv V σ) (x : Int32) : stOK (XX9_end x σ) (XX10_end x) := by
  obtain ⟨hw, hc, hr⟩ := id h
  have hx := hc.2.2.2.2.2
  have n800 : V 12 0 ≤ 800 := hw.2.2.2.2.2.2.2.2.2.2.2.2.2.2.2.2.2.2.2.2.2.1
  have hb := hw.2.2.2.2.2.2.2.2.2.2.2.2.2.2.2.2.2.2.2.2.2.2
  by_cases c : ¬ x < 0 ∧ x ≤ nI (V 12 0)
  · obtain ⟨n, hn, rfl⟩ := nI_of c.1
    have hle := (nI_lei hn (by omega)).mp c.2
    have e1 : XX9_end (nI n) σ = some (nI n, up σ 0 1 (nI n)) := by
      unfold XX9_end
      rw [hx.1, if_neg c.1, if_pos c.2]
      rfl
    have r14 : (up (up σ 0 1 (nI n)) 64 0 0) 64 14 = nI (V 12 0) := by
      rw [up_slot (by omega), up_cell (by omega)]
      exact hr.1.2.2.2.2.2.2.2.1
    have e2 : XX10_end (nI n) (up σ 0 1 (nI n)) = some (nI n, up (up (up σ 0 1 (nI n)) 64 0 0) 64 14 (nI n)) := by
      unfold XX10_end
      rw [lt_def, r14, m_in, if_neg c.1, if_neg (show ¬ nI (V 12 0) < nI n by rw [nI_lti] <;> omega)]
      simp only [b1]
      rw [if_neg (show ¬ (1 : Int32) = 0 by decide)]
      rfl
    have f1 : fr [(0, some 1)] σ (up σ 0 1 (nI n)) := fr_upf
    have f2 := frX10_end e2
    refine ⟨_, _, _, e1, e2, tpV V (V 11) n, hw.tape (by omega) (fun i hi => hb i (by omega)), ?_, ?_⟩
    · exact (hc.tape (g := V 11) (n := n) (f1.mono (by simp)) up_same (fun i hi => by rw [up_cell (by omega)]; exact hx.2.1 i (by omega))).far f2 rfl
    · refine (hr.near f1 rfl).tape (f2.mono (by simp)) up_same (fun i hi => ?_)
      rw [up_cell (by omega), up_cell (by omega), up_cell (by omega)]
      exact hr.1.2.2.2.2.2.2.2.2.1 i (by omega)
  · have e1 : XX9_end x σ = some (-1, σ) := by
      unfold XX9_end
      rw [hx.1]
      by_cases q : x < 0
      · rw [if_pos q]
      · rw [if_neg q, if_neg (fun z => c ⟨q, z⟩)]
    have r14 : (up σ 64 0 0) 64 14 = nI (V 12 0) := hr.1.th.2.2.2.2.2.2.2.1
    have e2 : XX10_end x σ = some (-1, up σ 64 0 0) := by
      unfold XX10_end
      rw [lt_def, r14, m_in]
      by_cases q : x < 0
      · rw [if_pos q]
        rfl
      · rw [if_neg q, if_pos (by
          rw [Int32.lt_iff_toInt_lt]
          rcases Int.lt_or_le (nI (V 12 0)).toInt x.toInt with z | z
          · exact z
          · exact absurd ⟨q, Int32.le_iff_toInt_le.mpr z⟩ c)]
        rfl
    exact ⟨_, _, _, e1, e2, V, h.look (fr_upf (a := 64) (i := 0)) rfl rfl⟩
/-- a byte of a number -/
def byN (p : Int32) (k : Nat) : Nat := p.toBitVec.toNat / 2 ^ k % 256
theorem ush_by (p : Int32) : ∀ k, k = 0 ∨ k = 8 ∨ k = 16 ∨ k = 24 → ush p (nI k) &&& 255 = nI (byN p k) ∧ p >>> (nI k &&& 31) &&& 255 = nI (byN p k) := by
  have e : ∀ (k : Nat), k ≤ 24 → (p.toBitVec >>> k) &&& 255#32 = BitVec.ofNat 32 (byN p k) := fun k hk => by
    apply BitVec.eq_of_toNat_eq
    unfold byN
    have h1 : (255#32 : BitVec 32).toNat = 2 ^ 8 - 1 := by decide
    rw [BitVec.toNat_and, BitVec.toNat_ushiftRight, h1, Nat.and_two_pow_sub_one_eq_mod, BitVec.toNat_ofNat, Nat.shiftRight_eq_div_pow]
    have : p.toBitVec.toNat / 2 ^ k % 256 < 256 := Nat.mod_lt _ (by omega)
    omega
  have e2 : ∀ (k : Nat), k ≤ 24 → (p.toBitVec.sshiftRight k) &&& 255#32 = (p.toBitVec >>> k) &&& 255#32 := fun k hk => by
    apply BitVec.eq_of_getLsbD_eq
    intro i hi
    rw [BitVec.getLsbD_and, BitVec.getLsbD_and]
    by_cases q : i < 8
    · congr 1
      rw [BitVec.getLsbD_sshiftRight, BitVec.getLsbD_ushiftRight]
      have h1 : k + i < 32 := by omega
      simp [h1]
      omega
    · have : (255#32 : BitVec 32).getLsbD i = false := by
        have hh : ∀ i, i < 32 → ¬ i < 8 → (255#32 : BitVec 32).getLsbD i = false := by decide
        exact hh i hi q
      rw [this, Bool.and_false, Bool.and_false]
  intro k hk
  have hk24 : k ≤ 24 := by omega
  constructor
  · apply Int32.toBitVec_inj.mp
    have h1 : (ush p (nI k)).toBitVec = p.toBitVec >>> k := by
      unfold ush
      show p.toBitVec >>> ((((nI k).toUInt32 &&& Int32.toUInt32 31).toBitVec) % 32) = _
      rw [BitVec.ushiftRight_eq']
      have : (((nI k).toUInt32 &&& Int32.toUInt32 31).toBitVec % 32).toNat = k := by
        have hh : ∀ n, n < 32 → (((nI n).toUInt32 &&& Int32.toUInt32 31).toBitVec % 32).toNat = n := by decide +kernel
        exact hh k (by omega)
      rw [this]
    show (ush p (nI k)).toBitVec &&& 255#32 = BitVec.ofNat 32 (byN p k)
    rw [h1, e k hk24]
  · apply Int32.toBitVec_inj.mp
    have h1 : (p >>> (nI k &&& 31)).toBitVec = p.toBitVec.sshiftRight k := by
      show p.toBitVec.sshiftRight' ((nI k &&& 31).toBitVec.smod 32) = _
      unfold BitVec.sshiftRight'
      rw [sh_cnt k (by omega)]
    show (p >>> (nI k &&& 31)).toBitVec &&& 255#32 = BitVec.ofNat 32 (byN p k)
    rw [h1, e2 k hk24, e k hk24]
theorem byN_lt (p : Int32) (k : Nat) : byN p k < 256 := Nat.mod_lt _ (by omega)
theorem c_put (p : Int32) : ∀ j n m σ, j < 4 → j + 1 < m → n + j < 800 → σ 0 1 = nI n → ∃ τ, LX9_putNumber_3 p m (nI (8 * j)) σ = some τ ∧ τ 0 1 = nI (n + j + 1) ∧ (∀ i, i < n → τ 1 i = σ 1 i) ∧ (∀ i, i ≤ j → τ 1 (n + i) = nI (byN p (8 * (j - i)))) ∧ fr [(0, some 1), (1, none)] σ τ := by
  intro j
  induction j with
  | zero =>
    intro n m σ hj hm hn h0
    obtain ⟨m, rfl⟩ : ∃ q, m = q + 2 := ⟨m - 2, by omega⟩
    refine ⟨up (up σ 1 n (nI (byN p 0))) 0 1 (nI (n + 1)), ?_, up_same, fun i hi => ?_, fun i hi => ?_, (fr_up.mono (by simp)).tr (fr_upf.mono (by simp))⟩
    · rw [LX9_putNumber_3, if_neg (show ¬ nI (8 * 0) < 0 by decide), h0, if_pos ((ib_nI (by omega)).mpr (by omega)), nI_cl (by omega), (ush_by p (8 * 0) (by omega)).1]
      simp only [lt]
      rw [up_cell (show (0 : Nat) ≠ 1 by omega), h0, nI_1, LX9_putNumber_3, if_pos (by decide)]
    · rw [up_cell (by omega), up_slot (by omega)]
    · have : i = 0 := by omega
      subst this
      rw [up_cell (by omega)]
      exact up_same
  | succ j ih =>
    intro n m σ hj hm hn h0
    obtain ⟨m, rfl⟩ : ∃ q, m = q + 1 := ⟨m - 1, by omega⟩
    obtain ⟨σ1, hσ1⟩ : ∃ σ1, σ1 = up (up σ 1 n (nI (byN p (8 * (j + 1))))) 0 1 (nI (n + 1)) := ⟨_, rfl⟩
    have hf : fr [(0, some 1), (1, none)] σ σ1 := by
      rw [hσ1]
      exact (fr_up.mono (by simp)).tr (fr_upf.mono (by simp))
    obtain ⟨τ, h1, h2, h3, h4, h5⟩ := ih (n + 1) m σ1 (by omega) (by omega) (by omega) (by rw [hσ1]; exact up_same)
    refine ⟨τ, ?_, by rw [h2]; congr 1; omega, fun i hi => ?_, fun i hi => ?_, hf.tr h5⟩
    · have e8 : nI (8 * (j + 1)) + (-8 : Int32) = nI (8 * j) := by
        have hh : ∀ j, j < 3 → nI (8 * (j + 1)) + (-8 : Int32) = nI (8 * j) := by decide
        exact hh j (by omega)
      rw [LX9_putNumber_3, if_neg (nI_pos (by omega)), h0, if_pos ((ib_nI (by omega)).mpr (by omega)), nI_cl (by omega), (ush_by p (8 * (j + 1)) (by omega)).1]
      simp only [lt]
      rw [up_cell (show (0 : Nat) ≠ 1 by omega), h0, nI_1, e8, ← hσ1]
      exact h1
    · rw [h3 i (by omega), hσ1, up_cell (by omega), up_slot (by omega)]
    · by_cases q : i = 0
      · subst q
        rw [h3 (n + 0) (by omega), hσ1, up_cell (by omega)]
        exact up_same
      · have := h4 (i - 1) (by omega)
        rw [show n + 1 + (i - 1) = n + i by omega, show j - (i - 1) = j + 1 - i by omega] at this
        exact this
theorem m_put (p : Int32) : ∀ j n m σ, j < 4 → j + 1 < m → n + j < 800 → σ 64 14 = nI n → ∃ τ, LX10_four_3 p m (nI (8 * j)) σ = some τ ∧ τ 64 14 = nI (n + j + 1) ∧ (∀ i, i < n → τ 76 i = σ 76 i) ∧ (∀ i, i ≤ j → τ 76 (n + i) = nI (byN p (8 * (j - i)))) ∧ fr [(64, some 14), (76, none)] σ τ := by
  intro j
  induction j with
  | zero =>
    intro n m σ hj hm hn h0
    obtain ⟨m, rfl⟩ : ∃ q, m = q + 2 := ⟨m - 2, by omega⟩
    refine ⟨up (up σ 76 n (nI (byN p 0))) 64 14 (nI (n + 1)), ?_, up_same, fun i hi => ?_, fun i hi => ?_, (fr_up.mono (by simp)).tr (fr_upf.mono (by simp))⟩
    · rw [LX10_four_3, if_neg (show ¬ nI (8 * 0) < 0 by decide), h0, if_pos ((ib_nI (by omega)).mpr (by omega)), nI_cl (by omega), (ush_by p (8 * 0) (by omega)).2]
      simp only [lt]
      rw [up_cell (show (64 : Nat) ≠ 76 by omega), h0, nI_1, LX10_four_3, if_pos (by decide)]
    · rw [up_cell (by omega), up_slot (by omega)]
    · have : i = 0 := by omega
      subst this
      rw [up_cell (by omega)]
      exact up_same
  | succ j ih =>
    intro n m σ hj hm hn h0
    obtain ⟨m, rfl⟩ : ∃ q, m = q + 1 := ⟨m - 1, by omega⟩
    obtain ⟨σ1, hσ1⟩ : ∃ σ1, σ1 = up (up σ 76 n (nI (byN p (8 * (j + 1))))) 64 14 (nI (n + 1)) := ⟨_, rfl⟩
    have hf : fr [(64, some 14), (76, none)] σ σ1 := by
      rw [hσ1]
      exact (fr_up.mono (by simp)).tr (fr_upf.mono (by simp))
    obtain ⟨τ, h1, h2, h3, h4, h5⟩ := ih (n + 1) m σ1 (by omega) (by omega) (by omega) (by rw [hσ1]; exact up_same)
    refine ⟨τ, ?_, by rw [h2]; congr 1; omega, fun i hi => ?_, fun i hi => ?_, hf.tr h5⟩
    · have e8 : nI (8 * (j + 1)) + (-8 : Int32) = nI (8 * j) := by
        have hh : ∀ j, j < 3 → nI (8 * (j + 1)) + (-8 : Int32) = nI (8 * j) := by decide
        exact hh j (by omega)
      rw [LX10_four_3, if_neg (nI_pos (by omega)), h0, if_pos ((ib_nI (by omega)).mpr (by omega)), nI_cl (by omega), (ush_by p (8 * (j + 1)) (by omega)).2]
      simp only [lt]
      rw [up_cell (show (64 : Nat) ≠ 76 by omega), h0, nI_1, e8, ← hσ1]
      exact h1
    · rw [h3 i (by omega), hσ1, up_cell (by omega), up_slot (by omega)]
    · by_cases q : i = 0
      · subst q
        rw [h3 (n + 0) (by omega), hσ1, up_cell (by omega)]
        exact up_same
      · have := h4 (i - 1) (by omega)
        rw [show n + 1 + (i - 1) = n + i by omega, show j - (i - 1) = j + 1 - i by omega] at this
        exact this
/-- four bytes more on a row -/
def app4 (g : Nat → Nat) (n : Nat) (p : Int32) : Nat → Nat := fun i => if i < n then g i else byN p (8 * (3 - (i - n)))
theorem c_four {p : Int32} {σ : Sg} {g : Nat → Nat} {n : Nat} (hn : n + 4 ≤ 800) (h0 : σ 0 1 = nI n) (h1 : ∀ i, i < n → σ 1 i = nI (g i)) : ∃ τ, XX9_putNumber p σ = some τ ∧ τ 0 1 = nI (n + 4) ∧ (∀ i, i < n + 4 → τ 1 i = nI (app4 g n p i)) ∧ fr [(0, some 1), (1, none)] σ τ := by
  obtain ⟨τ, h2, h3, h4, h5, h6⟩ := c_put p 3 n FUEL σ (by omega) (by unfold FUEL; omega) (by omega) h0
  refine ⟨τ, h2, h3, fun i hi => ?_, h6⟩
  unfold app4
  by_cases q : i < n
  · rw [if_pos q, h4 i q]
    exact h1 i q
  · rw [if_neg q]
    have := h5 (i - n) (by omega)
    rw [show n + (i - n) = i by omega] at this
    exact this
theorem m_four {p : Int32} {σ : Sg} {g : Nat → Nat} {n : Nat} (hn : n + 4 ≤ 800) (h0 : σ 64 14 = nI n) (h1 : ∀ i, i < n → σ 76 i = nI (g i)) : ∃ τ, XX10_four p σ = some τ ∧ τ 64 14 = nI (n + 4) ∧ (∀ i, i < n + 4 → τ 76 i = nI (app4 g n p i)) ∧ fr [(64, some 14), (76, none)] σ τ := by
  obtain ⟨τ, h2, h3, h4, h5, h6⟩ := m_put p 3 n FUEL σ (by omega) (by unfold FUEL; omega) (by omega) h0
  refine ⟨τ, h2, h3, fun i hi => ?_, h6⟩
  unfold app4
  by_cases q : i < n
  · rw [if_pos q, h4 i q]
    exact h1 i q
  · rw [if_neg q]
    have := h5 (i - n) (by omega)
    rw [show n + (i - n) = i by omega] at this
    exact this
theorem app4_lt {g : Nat → Nat} {n : Nat} {p : Int32} (h : ∀ i, i < n → g i < 256) : ∀ i, i < n + 4 → app4 g n p i < 256 := fun i _ => by
  unfold app4
  split
  · rename_i q
    exact h i q
  · exact byN_lt _ _
theorem op_feed {V : Vw} {σ : Sg} (h : Inv V σ) (a b c d e : Int32) : stOK (XX9_feed a b c d e σ) (XX10_feed a b c d e) := by
  obtain ⟨hw, hc, hr⟩ := id h
  have hx := hc.2.2.2.2.2
  have n800 : V 12 0 ≤ 800 := hw.2.2.2.2.2.2.2.2.2.2.2.2.2.2.2.2.2.2.2.2.2.1
  have hb := hw.2.2.2.2.2.2.2.2.2.2.2.2.2.2.2.2.2.2.2.2.2.2
  have e20 : nI (V 12 0) + (20 : Int32) = nI (V 12 0 + 20) := by rw [nI_lit, nI_add]
  by_cases q : V 12 0 + 20 ≤ 800
  · obtain ⟨s1, a1, a2, a3, a4⟩ := c_four (p := a) (by omega) hx.1 hx.2.1
    obtain ⟨s2, b1', b2', b3', b4'⟩ := c_four (p := b) (by omega) a2 a3
    obtain ⟨s3, c1, c2, c3, c4⟩ := c_four (p := c) (by omega) b2' b3'
    obtain ⟨s4, d1, d2, d3, d4⟩ := c_four (p := d) (by omega) c2 c3
    obtain ⟨s5, f1, f2, f3, f4⟩ := c_four (p := e) (by omega) d2 d3
    have E1 : XX9_feed a b c d e σ = some (nI (V 12 0 + 20), s5) := by
      unfold XX9_feed
      rw [hx.1, e20, if_pos (show nI (V 12 0 + 20) ≤ (800 : Int32) from (nI_lei (b := 800) (by omega) (by omega)).mpr q), a1]
      simp only [b1]
      rw [b1']
      simp only []
      rw [c1]
      simp only []
      rw [d1]
      simp only []
      rw [f1]
      simp only []
      rw [f2]
    have F := frX9_feed E1
    have hr5 : RA V s5 := hr.near F rfl
    have hm := hr5.1.th (v := 0)
    obtain ⟨t1, A1, A2, A3, A4⟩ := m_four (p := a) (g := V 11) (by omega) hm.2.2.2.2.2.2.2.1 hm.2.2.2.2.2.2.2.2.1
    obtain ⟨t2, B1, B2, B3, B4⟩ := m_four (p := b) (by omega) A2 A3
    obtain ⟨t3, C1, C2, C3, C4⟩ := m_four (p := c) (by omega) B2 B3
    obtain ⟨t4, D1, D2, D3, D4⟩ := m_four (p := d) (by omega) C2 C3
    obtain ⟨t5, G1, G2, G3, G4⟩ := m_four (p := e) (by omega) D2 D3
    have E2 : XX10_feed a b c d e s5 = some (nI (V 12 0 + 20), t5) := by
      unfold XX10_feed
      rw [lt_def, hm.2.2.2.2.2.2.2.1, e20, if_pos (show nI (V 12 0 + 20) ≤ (800 : Int32) from (nI_lei (b := 800) (by omega) (by omega)).mpr q), A1]
      simp only [b1]
      rw [B1]
      simp only []
      rw [C1]
      simp only []
      rw [D1]
      simp only []
      rw [G1]
      simp only []
      rw [G2]
    have F2 := frX10_feed E2
    refine ⟨_, _, _, E1, E2, tpV V _ (V 12 0 + 20), hw.tape (by omega) (app4_lt (app4_lt (app4_lt (app4_lt (app4_lt hb))))), ?_, hr5.tape F2 G2 G3⟩
    exact (hc.tape F f2 f3).far F2 rfl
  · have E1 : XX9_feed a b c d e σ = some (-1, σ) := by
      unfold XX9_feed
      rw [hx.1, e20, if_neg (show ¬ nI (V 12 0 + 20) ≤ (800 : Int32) from fun z => q ((nI_lei (b := 800) (by omega) (by omega)).mp z))]
    have E2 : XX10_feed a b c d e σ = some (-1, up σ 64 0 0) := by
      unfold XX10_feed
      rw [lt_def, hr.1.th.2.2.2.2.2.2.2.1, e20, if_neg (show ¬ nI (V 12 0 + 20) ≤ (800 : Int32) from fun z => q ((nI_lei (b := 800) (by omega) (by omega)).mp z))]
    exact ⟨_, _, _, E1, E2, V, h.look (fr_upf (a := 64) (i := 0)) rfl rfl⟩
