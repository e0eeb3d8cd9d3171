/-! NUMBERS: Int32 by Nat -/
theorem nI_lit (n : Nat) : (OfNat.ofNat n : Int32) = nI n := by
  have h : nI n = (OfNat.ofNat n : Int32) := rfl
  exact h.symm
theorem ib_nI {a n : Nat} (ha : a < 2147483648) : ib (nI a) n ↔ a < n := by
  unfold ib
  rw [nI_clamp ha]
  constructor
  · intro h
    exact Nat.not_le.mp fun q => h (Or.inr q)
  · intro h q
    rcases q with q | q
    · exact nI_pos ha q
    · omega
theorem ib_of {x : Int32} {n : Nat} (h : ib x n) (hn : n < 2147483648) : ∃ j, j < n ∧ x = nI j := vp_in_of h hn
theorem nI_cl {n : Nat} (h : n < 2147483648) : (nI n).toNatClampNeg = n := nI_clamp h
theorem nI_lei {a b : Nat} (ha : a < 2147483648) (hb : b < 2147483648) : nI a ≤ nI b ↔ a ≤ b := nI_leI ha hb
theorem nI_lti {a b : Nat} (ha : a < 2147483648) (hb : b < 2147483648) : nI a < nI b ↔ a < b := nI_ltI ha hb
theorem nI_eqi {a b : Nat} (ha : a < 2147483648) (hb : b < 2147483648) : nI a = nI b ↔ a = b := nI_eq ha hb
theorem nI_z : (0 : Int32) = nI 0 := rfl
theorem nx_and (a b : Nat) : nI a &&& nI b = nI (a &&& b) := by
  apply Int32.toBitVec_inj.mp
  show BitVec.ofNat 32 a &&& BitVec.ofNat 32 b = BitVec.ofNat 32 (a &&& b)
  apply BitVec.eq_of_getLsbD_eq
  intro i hi
  simp [BitVec.getLsbD_ofNat, hi]
theorem nx_or (a b : Nat) : nI a ||| nI b = nI (a ||| b) := by
  apply Int32.toBitVec_inj.mp
  show BitVec.ofNat 32 a ||| BitVec.ofNat 32 b = BitVec.ofNat 32 (a ||| b)
  apply BitVec.eq_of_getLsbD_eq
  intro i hi
  simp [BitVec.getLsbD_ofNat, hi]
theorem nx_xor (a b : Nat) : nI a ^^^ nI b = nI (a ^^^ b) := by
  apply Int32.toBitVec_inj.mp
  show BitVec.ofNat 32 a ^^^ BitVec.ofNat 32 b = BitVec.ofNat 32 (a ^^^ b)
  apply BitVec.eq_of_getLsbD_eq
  intro i hi
  simp [BitVec.getLsbD_ofNat, hi]
theorem sh_cnt : ∀ n, n < 32 → ((nI n &&& 31).toBitVec.smod 32).toNat = n := by decide +kernel
theorem nx_shr {n k : Nat} (hn : n < 2147483648) (hk : k < 32) : nI n >>> (nI k &&& nI 31) = nI (n >>> k) := by
  show nI n >>> (nI k &&& 31) = _
  rw [pk_shrN hn _ k (sh_cnt k hk), Nat.shiftRight_eq_div_pow]
theorem nx_shl {n k : Nat} (hk : k < 32) (h : n <<< k < 4294967296) : nI n <<< (nI k &&& nI 31) = nI (n <<< k) := by
  show nI n <<< (nI k &&& 31) = _
  rw [Nat.shiftLeft_eq] at h ⊢
  exact pk_shlN _ k (sh_cnt k hk) h
theorem nx_1shl {k : Nat} (hk : k < 31) : nI 1 <<< (nI k &&& nI 31) = nI (2 ^ k) := by
  have h1 : 2 ^ k < 2 ^ 31 := Nat.pow_lt_pow_right (by omega) hk
  rw [nx_shl (by omega) (by rw [Nat.shiftLeft_eq]; omega), Nat.shiftLeft_eq, Nat.one_mul]
theorem tb_and (n k : Nat) : (n >>> k) &&& 1 = if n.testBit k then 1 else 0 := by
  rw [Nat.testBit]
  have h : (n >>> k) &&& 1 = 0 ∨ (n >>> k) &&& 1 = 1 := by
    have := Nat.and_one_is_mod (n >>> k)
    omega
  rw [Nat.and_comm 1]
  rcases h with h | h <;> rw [h] <;> rfl
/-- the bit of a set: 1 or 0 -/
def bq (b : Bool) : Nat := if b then 1 else 0
theorem nx_bit {n k : Nat} (hn : n < 2147483648) (hk : k < 32) : nI n >>> (nI k &&& nI 31) &&& nI 1 = nI (bq (n.testBit k)) := by
  rw [nx_shr hn hk, nx_and, tb_and]
  rfl
/-- the sum of the first n -/
def sumN (f : Nat → Nat) : Nat → Nat
  | 0 => 0
  | n + 1 => sumN f n + f n
theorem sumN_ext {f g : Nat → Nat} : ∀ {n : Nat}, (∀ i, i < n → f i = g i) → sumN f n = sumN g n
  | 0, _ => rfl
  | n + 1, h => by
    show sumN f n + f n = sumN g n + g n
    rw [sumN_ext (fun i hi => h i (by omega)), h n (by omega)]
theorem sumN_le {f : Nat → Nat} {c : Nat} : ∀ {n : Nat}, (∀ i, i < n → f i ≤ c) → sumN f n ≤ n * c
  | 0, _ => Nat.zero_le _
  | n + 1, h => by
    show sumN f n + f n ≤ (n + 1) * c
    have h1 := sumN_le (f := f) (c := c) (n := n) (fun i hi => h i (by omega))
    have h2 := h n (by omega)
    rw [Nat.add_mul]
    omega
theorem sumN_mono {f : Nat → Nat} {a : Nat} : ∀ {b : Nat}, a ≤ b → sumN f a ≤ sumN f b
  | 0, h => by rw [Nat.le_zero.mp h]; exact Nat.le_refl _
  | b + 1, h => by
    rcases Nat.lt_or_ge a (b + 1) with q | q
    · exact Nat.le_trans (sumN_mono (f := f) (b := b) (by omega)) (Nat.le_add_right _ _)
    · rw [show a = b + 1 by omega]; exact Nat.le_refl _
theorem sumN_get {f : Nat → Nat} {i n : Nat} (h : i < n) : f i ≤ sumN f n := by
  have h1 := sumN_mono (f := f) (a := i + 1) (b := n) h
  exact Nat.le_trans (Nat.le_add_left _ _) h1
theorem sumN_zero {f : Nat → Nat} : ∀ {n : Nat}, sumN f n = 0 ↔ ∀ i, i < n → f i = 0
  | 0 => ⟨fun _ i hi => absurd hi (by omega), fun _ => rfl⟩
  | n + 1 => by
    show sumN f n + f n = 0 ↔ _
    have h1 := sumN_zero (f := f) (n := n)
    constructor
    · intro h i hi
      rcases Nat.lt_or_ge i n with q | q
      · exact h1.mp (by omega) i q
      · rw [show i = n by omega]; omega
    · intro h
      rw [h1.mpr (fun i hi => h i (by omega)), h n (by omega)]
/-- reading over writing -/
theorem nI_ne {a b : Nat} (ha : a < 2147483648) (hb : b < 2147483648) (h : a ≠ b) : ¬ nI a = nI b := fun q => h ((nI_eqi ha hb).mp q)
theorem up_same {σ : Sg} {k i : Nat} {v : Int32} : up σ k i v k i = v := by simp [up, upd]
theorem up_cell {σ : Sg} {k i k' : Nat} {v : Int32} (h : k' ≠ k) : up σ k i v k' = σ k' := by simp [up, h]
theorem up_slot {σ : Sg} {k i i' : Nat} {v : Int32} (h : i' ≠ i) : up σ k i v k i' = σ k i' := by simp [up, upd, h]
theorem up_at {σ : Sg} {k i k' i' : Nat} {v : Int32} : up σ k i v k' i' = if k' = k ∧ i' = i then v else σ k' i' := by
  unfold up upd
  by_cases h : k' = k
  · subst h
    by_cases h2 : i' = i
    · simp [h2]
    · simp [h2]
  · simp [h]
