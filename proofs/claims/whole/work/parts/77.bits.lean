/-! BITS of sets of at most 14 -/
def lowJ : Nat → Nat → Nat
  | 0, _ => 0
  | n + 1, c => if c % 2 = 1 then 0 else lowJ n (c / 2) + 1
theorem tb_half (c e : Nat) : c.testBit (e + 1) = (c / 2).testBit e := by
  rw [Nat.testBit_succ]
theorem low_lt : ∀ (n c : Nat), c < 2 ^ n → c ≠ 0 → lowJ n c < n ∧ ∀ e, e < lowJ n c → c.testBit e = false
  | 0, c, h, h0 => by
    simp at h
    exact absurd h h0
  | n + 1, c, h, h0 => by
    unfold lowJ
    by_cases q : c % 2 = 1
    · rw [if_pos q]
      exact ⟨by omega, fun e he => absurd he (by omega)⟩
    · rw [if_neg q]
      have h2 : c / 2 < 2 ^ n := by
        rw [Nat.pow_succ] at h
        omega
      obtain ⟨a1, a2⟩ := low_lt n (c / 2) h2 (by omega)
      refine ⟨by omega, fun e he => ?_⟩
      cases e with
      | zero =>
        rw [Nat.testBit_zero]
        simp
        omega
      | succ e =>
        rw [tb_half]
        exact a2 e (by omega)
theorem low_and2 : ∀ a, a < 128 → ∀ b, b < 128 → 128 * a + b ≠ 0 → nI (128 * a + b) &&& -nI (128 * a + b) = nI (2 ^ lowJ 14 (128 * a + b)) := by decide +kernel
theorem low_and (c : Nat) (h : c < 16384) (h0 : c ≠ 0) : nI c &&& -nI c = nI (2 ^ lowJ 14 c) := by
  have e : 128 * (c / 128) + c % 128 = c := Nat.div_add_mod c 128
  have := low_and2 (c / 128) (by omega) (c % 128) (by omega) (by omega)
  rwa [e] at this
theorem low_cnt : ∀ j, j < 14 → XJ6_bitCount_0f7a4 (nI (2 ^ j) - 1) = some (nI j) := by decide +kernel
theorem c_low {c : Nat} (h : c < 16384) (h0 : c ≠ 0) : XJ6_bitCount_0f7a4 ((nI c &&& -nI c) - 1) = some (nI (lowJ 14 c)) := by
  rw [low_and c h h0]
  exact low_cnt _ (low_lt 14 c h h0).1
def pcN : Nat → Nat → Nat
  | 0, _ => 0
  | n + 1, c => c % 2 + pcN n (c / 2)
theorem pc_cnt2 : ∀ a, a < 128 → ∀ b, b < 128 → XJ6_bitCount_0f7a4 (nI (128 * a + b)) = some (nI (pcN 14 (128 * a + b))) := by decide +kernel
theorem pc_cnt (v : Nat) (h : v < 16384) : XJ6_bitCount_0f7a4 (nI v) = some (nI (pcN 14 v)) := by
  have e : 128 * (v / 128) + v % 128 = v := Nat.div_add_mod v 128
  have := pc_cnt2 (v / 128) (by omega) (v % 128) (by omega)
  rwa [e] at this
theorem sumN_shift {f : Nat → Nat} : ∀ (n : Nat), sumN f (n + 1) = f 0 + sumN (fun i => f (i + 1)) n
  | 0 => by show 0 + f 0 = f 0 + 0; omega
  | n + 1 => by
    show sumN f (n + 1) + f (n + 1) = f 0 + (sumN (fun i => f (i + 1)) n + f (n + 1))
    rw [sumN_shift n]
    omega
theorem pcN_cnt : ∀ (n v : Nat), pcN n v = cntB v n
  | 0, _ => rfl
  | n + 1, v => by
    unfold cntB
    rw [sumN_shift]
    show v % 2 + pcN n (v / 2) = _
    rw [pcN_cnt n (v / 2)]
    unfold cntB
    have e1 : bq (v.testBit 0) = v % 2 := by
      rw [Nat.testBit_zero]
      unfold bq
      have : v % 2 = 0 ∨ v % 2 = 1 := by omega
      rcases this with h | h <;> simp [h]
    rw [e1]
    congr 1
    exact sumN_ext (fun i _ => by rw [tb_half])
theorem c_cnt {v : Nat} (h : v < 16384) : XJ6_bitCount_0f7a4 (nI v) = some (nI (cntB v 14)) := by rw [pc_cnt v h, pcN_cnt]
