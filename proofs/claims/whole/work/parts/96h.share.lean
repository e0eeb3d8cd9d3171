/-! CALLS: share -/
def fac : Nat → Nat
  | 0 => 1
  | n + 1 => fac n * (n + 1)
theorem c_fac_loop {k : Nat} (hk : k < 100) : ∀ m i n, i + m = k → m < n → LX2_factorial_4 (nI k) n (nI (fac i)) (nI (i + 1)) = some (nI (fac k)) ∧ LX10_orders_4 (nI k) n (nI (fac i)) (nI (i + 1)) = some (nI (fac k)) := by
  intro m
  induction m with
  | zero =>
    intro i n hi hn
    obtain ⟨n, rfl⟩ : ∃ q, n = q + 1 := ⟨n - 1, by omega⟩
    have hi : i = k := by omega
    subst hi
    rw [LX2_factorial_4, LX10_orders_4, if_pos (by rw [nI_lti] <;> omega), if_pos (by rw [nI_lti] <;> omega)]
    exact ⟨rfl, rfl⟩
  | succ m ih =>
    intro i n hi hn
    obtain ⟨n, rfl⟩ : ∃ q, n = q + 1 := ⟨n - 1, by omega⟩
    have k1 := ih (i + 1) n (by omega) (by omega)
    rw [LX2_factorial_4, LX10_orders_4, if_neg (by rw [nI_lti] <;> omega), if_neg (by rw [nI_lti] <;> omega), lt_def, lt_def, lt_def, lt_def, pk_mul, nI_1]
    exact k1
theorem c_fac {k : Nat} (hk : k < 100) : XX2_factorial (nI k) = some (nI (fac k)) ∧ XX10_orders (nI k) = some (nI (fac k)) := by
  by_cases k0 : k = 0
  · subst k0
    unfold XX2_factorial XX10_orders
    rw [show FUEL = 999999 + 1 from rfl, LX2_factorial_4, LX10_orders_4, if_pos (show nI 0 < 2 by decide), if_pos (show nI 0 < 2 by decide)]
    exact ⟨rfl, rfl⟩
  · exact c_fac_loop hk (k - 1) 1 FUEL (by omega) (by unfold FUEL; omega)
theorem gcd_step (a b : Nat) : Nat.gcd a b = Nat.gcd b (a % b) := by
  rw [Nat.gcd_comm, Nat.gcd_rec, Nat.gcd_comm]
theorem m_gcd : ∀ n a b, a < 2147483648 → b < 2147483648 → b < n → LX10_common_13 n (nI a) (nI b) = some (nI (Nat.gcd a b)) := by
  intro n
  induction n with
  | zero =>
    intro a b _ _ h
    omega
  | succ n ih =>
    intro a b ha hb hn
    rw [LX10_common_13]
    by_cases q : b = 0
    · rw [q, if_pos (show nI 0 = 0 from rfl), Nat.gcd_zero_right]
    · have ml := Nat.mod_lt a (show 0 < b by omega)
      rw [if_neg (nI_n0 q hb), if_pos (nI_n0 q hb), pk_rem ha (by omega) hb, lt_def, ih b (a % b) hb (by omega) (by omega), ← gcd_step]
theorem c_gcd (K : Int32 → Option Int32) : ∀ j a b i n, a < 2147483648 → b < 2147483648 → b < 2 ^ j → i + 2 * j ≤ 99 → 2 * j < n → LX9_greatestDivisor_13 K n (nI a) (nI b) (nI i) = K (nI (Nat.gcd a b)) := by
  intro j
  induction j with
  | zero =>
    intro a b i n ha hb hj hi hn
    obtain ⟨n, rfl⟩ : ∃ q, n = q + 1 := ⟨n - 1, by omega⟩
    have : b = 0 := by omega
    rw [LX9_greatestDivisor_13, show (100 : Int32) = nI 100 from rfl, if_neg (by rw [nI_lei] <;> omega), this, if_pos (show nI 0 = 0 from rfl), Nat.gcd_zero_right]
  | succ j ih =>
    intro a b i n ha hb hj hi hn
    obtain ⟨n, rfl⟩ : ∃ q, n = q + 1 := ⟨n - 1, by omega⟩
    rw [LX9_greatestDivisor_13, show (100 : Int32) = nI 100 from rfl, if_neg (by rw [nI_lei] <;> omega)]
    by_cases q : b = 0
    · rw [q, if_pos (show nI 0 = 0 from rfl), Nat.gcd_zero_right]
    · have ml := Nat.mod_lt a (show 0 < b by omega)
      rw [if_neg (nI_n0 q hb), if_pos (nI_n0 q hb), pk_rem ha (by omega) hb, lt_def, lt_def, nI_1]
      obtain ⟨n, rfl⟩ : ∃ q, n = q + 1 := ⟨n - 1, by omega⟩
      rw [LX9_greatestDivisor_13, show (100 : Int32) = nI 100 from rfl, if_neg (by rw [nI_lei] <;> omega), gcd_step]
      by_cases z : a % b = 0
      · rw [z, if_pos (show nI 0 = 0 from rfl), Nat.gcd_zero_right]
      · have m2 := Nat.mod_lt b (show 0 < a % b by omega)
        have dv := Nat.div_add_mod b (a % b)
        have d1 : 1 ≤ b / (a % b) := Nat.div_pos (by omega) (by omega)
        have d2 : (a % b) * 1 ≤ (a % b) * (b / (a % b)) := Nat.mul_le_mul_left _ d1
        have pw : 2 ^ (j + 1) = 2 * 2 ^ j := by rw [Nat.pow_succ]; omega
        rw [if_neg (nI_n0 z (by omega)), if_pos (nI_n0 z (by omega)), pk_rem hb (by omega) (by omega), lt_def, lt_def, nI_1, ih (a % b) (b % (a % b)) (i + 1 + 1) n (by omega) (by omega) (by omega) (by omega) (by omega), ← gcd_step]
/-- what a set costs, parted -/
def pcD (V : Vw) (ld : Nat → Nat) (q : Nat) : Nat := match PT V (V 0 3) ld q with
  | some r => r.1
  | none => 0
def tmS (V : Vw) (ld : Nat → Nat) (oth s q : Nat) : Int32 := if q &&& oth = q then nI (fac (cntB q 14)) * nI (fac (cntB oth 14 - cntB q 14)) * (nI (pcD V ld (q ||| 2 ^ s)) - nI (pcD V ld q)) else 0
theorem cnt_sub : ∀ oth, oth < 64 → ∀ q, q < 64 → q &&& oth = q → cntB q 14 ≤ cntB oth 14 := by decide +kernel
theorem sb_one : ∀ set, set < 64 → ∀ s, s < 6 → set.testBit s = true → (nI set &&& (nI (2 ^ s) ^^^ (-1 : Int32))) = nI (set ^^^ 2 ^ s) ∧ cntB (set ^^^ 2 ^ s) 14 + 1 = cntB set 14 ∧ set ^^^ 2 ^ s < set ∧ cntB (set ^^^ 2 ^ s) 14 ≤ 5 := by decide +kernel
def sbB (set s q : Nat) : Bool := !(set.testBit s) || (decide (q &&& (set ^^^ 2 ^ s) = q) == (decide (q &&& set = q) && !(q.testBit s)))
theorem sb_two0 : ∀ set, set < 64 → ∀ s, s < 6 → ∀ q, q < 64 → sbB set s q = true := by decide +kernel
theorem sb_two (set : Nat) (h1 : set < 64) (s : Nat) (h2 : s < 6) (hb : set.testBit s = true) (q : Nat) (h3 : q < 64) : (q &&& (set ^^^ 2 ^ s) = q ↔ (q &&& set = q ∧ q.testBit s = false)) := by
  have h := sb_two0 set h1 s h2 q h3
  unfold sbB at h
  rw [hb, Bool.not_true, Bool.false_or, beq_iff_eq] at h
  rw [← decide_eq_true_iff (p := q &&& (set ^^^ 2 ^ s) = q), h, Bool.and_eq_true, decide_eq_true_iff, Bool.not_eq_true']
theorem mul_sub_i (a b c d : Int32) : a * b * (c - d) = a * b * c - a * b * d := by grind
theorem sb_three {q oth set s : Nat} (h1 : q &&& set = q) (hs : set.testBit s = true) : (q ||| 2 ^ s) &&& set = q ||| 2 ^ s := by
  apply Nat.eq_of_testBit_eq
  intro i
  rw [Nat.testBit_and, Nat.testBit_or, Nat.testBit_two_pow]
  by_cases z : s = i
  · subst z
    simp [hs]
  · simp [z]
    have := congrArg (fun n => n.testBit i) h1
    simp only [Nat.testBit_and] at this
    intro hq
    rw [hq] at this
    simpa using this
theorem c_share_loop {V : Vw} (hw : WF V) {ld : Nat → Nat} {σ : Sg} {set s : Nat} (hs : s < V 0 8) (hset : set < 2 ^ V 0 8) (hb : set.testBit s = true) (hq : ∀ q, q < set + 1 → q &&& set = q → cPC V (V 0 3) ld q σ) : ∀ m q n, q + m = (set ^^^ 2 ^ s) + 1 → m < n → LX2_shareSum_22 (nI s) (nI (set ^^^ 2 ^ s)) (nI (cntB (set ^^^ 2 ^ s) 14)) σ n (sumI (tmS V ld (set ^^^ 2 ^ s) s) q) (nI q) = some (sumI (tmS V ld (set ^^^ 2 ^ s) s) ((set ^^^ 2 ^ s) + 1)) := by
  have s6 := hw.s6
  have p6 := p64 s6
  have o1 := sb_one set (by omega) s (by omega) hb
  have pcs : ∀ q, q &&& set = q → σ 32 q = nI (pcD V ld q) := fun q h1 => by
    have ql : q ≤ set := by rw [← h1]; exact Nat.and_le_right
    obtain ⟨-, r, z1, z2, -⟩ := hq q (by omega) h1
    unfold pcD
    rw [z1]
    exact z2
  intro m
  induction m with
  | zero =>
    intro q n hm hn
    obtain ⟨n, rfl⟩ : ∃ q, n = q + 1 := ⟨n - 1, by omega⟩
    rw [LX2_shareSum_22, if_pos (by rw [nI_lti] <;> omega), show q = (set ^^^ 2 ^ s) + 1 by omega]
  | succ m ih =>
    intro q n hm hn
    obtain ⟨n, rfl⟩ : ∃ q, n = q + 1 := ⟨n - 1, by omega⟩
    have k1 := ih (q + 1) n (by omega) (by omega)
    have es : sumI (tmS V ld (set ^^^ 2 ^ s) s) (q + 1) = sumI (tmS V ld (set ^^^ 2 ^ s) s) q + tmS V ld (set ^^^ 2 ^ s) s q := rfl
    rw [es] at k1
    have al : q &&& (set ^^^ 2 ^ s) ≤ q := Nat.and_le_left
    rw [LX2_shareSum_22, if_neg (by rw [nI_lti] <;> omega), nx_and]
    simp only [lt]
    rw [nI_1]
    by_cases z : q &&& (set ^^^ 2 ^ s) = q
    · have et : tmS V ld (set ^^^ 2 ^ s) s q = nI (fac (cntB q 14)) * nI (fac (cntB (set ^^^ 2 ^ s) 14 - cntB q 14)) * (nI (pcD V ld (q ||| 2 ^ s)) - nI (pcD V ld q)) := if_pos z
      have ct := cnt_sub (set ^^^ 2 ^ s) (by omega) q (by omega) z
      have qs := ((sb_two set (by omega) s (by omega) hb q (by omega)).mp z).1
      have qo := sb_three (oth := 0) qs hb
      have ol : q ||| 2 ^ s ≤ set := by rw [← qo]; exact Nat.and_le_right
      have sh1 : (1 : Int32) <<< (nI s &&& 31) = nI (2 ^ s) := nx_1shl (by omega)
      rw [et] at k1
      rw [if_pos (show nI (q &&& (set ^^^ 2 ^ s)) = nI q by rw [z]), c_cnt (by omega), b1s, (c_fac (by omega)).1, b1s, pk_sub ct, (c_fac (by omega)).1, b1s, sh1, nx_or, if_pos ((ib_nI (by omega)).mpr (by omega)), if_pos ((ib_nI (by omega)).mpr (by omega)), nI_cl (by omega), nI_cl (by omega), pcs q qs, pcs _ qo]
      exact k1
    · have et : tmS V ld (set ^^^ 2 ^ s) s q = 0 := if_neg z
      rw [et, Int32.add_zero] at k1
      rw [if_neg (nI_ne (by omega) (by omega) z)]
      exact k1
theorem m_share_loop {V : Vw} (hw : WF V) {ld : Nat → Nat} {σ : Sg} {set s : Nat} (hs : s < V 0 8) (hset : set < 2 ^ V 0 8) (hb : set.testBit s = true) (hfit : ∀ s, s < V 0 8 → ld s ≤ V 0 3) (hq : ∀ q, q ≤ set → q &&& set = q → cPM V (V 0 3) ld q σ) (K : Int32 → Option (Int32 × Sg)) : ∀ m q n, q + m = set + 1 → m < n → LX10_share_72 (nI s) (nI set) (nI (cntB set 14)) σ K n (sumI (tmS V ld (set ^^^ 2 ^ s) s) q) (nI q) = K (sumI (tmS V ld (set ^^^ 2 ^ s) s) (set + 1)) := by
  have s6 := hw.s6
  have p6 := p64 s6
  have o1 := sb_one set (by omega) s (by omega) hb
  have pcs : ∀ q, q &&& set = q → σ 83 q = nI (pcD V ld q) := fun q h1 => by
    have ql : q ≤ set := by rw [← h1]; exact Nat.and_le_right
    obtain ⟨r, hr⟩ := PT_ex hw (cap := V 0 3) (ld := ld) q (by omega) (fun t ht => hfit t (bit_lt (n := V 0 8) (by omega) ht))
    have := ((hq q ql h1).m83.2 r hr).1
    unfold pcD
    rw [hr]
    exact this
  intro m
  induction m with
  | zero =>
    intro q n hm hn
    obtain ⟨n, rfl⟩ : ∃ q, n = q + 1 := ⟨n - 1, by omega⟩
    rw [LX10_share_72, if_pos (by rw [nI_lti] <;> omega), show q = set + 1 by omega]
  | succ m ih =>
    intro q n hm hn
    obtain ⟨n, rfl⟩ : ∃ q, n = q + 1 := ⟨n - 1, by omega⟩
    have k1 := ih (q + 1) n (by omega) (by omega)
    have es : sumI (tmS V ld (set ^^^ 2 ^ s) s) (q + 1) = sumI (tmS V ld (set ^^^ 2 ^ s) s) q + tmS V ld (set ^^^ 2 ^ s) s q := rfl
    rw [es] at k1
    have b2 := sb_two set (by omega) s (by omega) hb q (by omega)
    rw [LX10_share_72, if_neg (by rw [nI_lti] <;> omega), m_isOf (by omega) (by omega)]
    simp only [lt]
    rw [nI_1]
    by_cases z0 : q &&& set = q
    · rw [if_pos ((sb_iff set (by omega) q (by omega)).mpr z0), b1s]
      cases zb : q.testBit s with
      | false =>
        have z : q &&& (set ^^^ 2 ^ s) = q := b2.mpr ⟨z0, zb⟩
        have et : tmS V ld (set ^^^ 2 ^ s) s q = nI (fac (cntB q 14)) * nI (fac (cntB (set ^^^ 2 ^ s) 14 - cntB q 14)) * (nI (pcD V ld (q ||| 2 ^ s)) - nI (pcD V ld q)) := if_pos z
        have ct := cnt_sub (set ^^^ 2 ^ s) (by omega) q (by omega) z
        have qo := sb_three (oth := 0) z0 hb
        have ol : q ||| 2 ^ s ≤ set := by rw [← qo]; exact Nat.and_le_right
        have sh1 : (1 : Int32) <<< (nI s &&& 31) = nI (2 ^ s) := nx_1shl (by omega)
        rw [et] at k1
        rw [if_pos (show nI (bq false) = 0 by decide), m_bits (by omega), b1s, (c_fac (by omega)).2, b1s, pk_sub (by omega), show nI (cntB set 14 - cntB q 14) - 1 = nI (cntB set 14 - cntB q 14 - 1) from pk_sub (b := 1) (by omega), show cntB set 14 - cntB q 14 - 1 = cntB (set ^^^ 2 ^ s) 14 - cntB q 14 by omega, (c_fac (by omega)).2, b1s, sh1, nx_or, if_pos ((ib_nI (by omega)).mpr (by omega)), if_pos ((ib_nI (by omega)).mpr (by omega)), nI_cl (by omega), nI_cl (by omega), pcs q z0, pcs _ qo]
        exact k1
      | true =>
        have et : tmS V ld (set ^^^ 2 ^ s) s q = 0 := if_neg (fun z => by
          have := (b2.mp z).2
          rw [zb] at this
          cases this)
        rw [et, Int32.add_zero] at k1
        rw [if_neg (show ¬ nI (bq true) = 0 by decide)]
        exact k1
    · have et : tmS V ld (set ^^^ 2 ^ s) s q = 0 := if_neg (fun z => z0 (b2.mp z).1)
      rw [et, Int32.add_zero] at k1
      rw [if_neg (fun z => z0 ((sb_iff set (by omega) q (by omega)).mp z))]
      exact k1
theorem sumI_ztail {f : Nat → Int32} {a : Nat} : ∀ m, (∀ i, a ≤ i → f i = 0) → sumI f (a + m) = sumI f a
  | 0, _ => rfl
  | m + 1, h => by
    show sumI f (a + m) + f (a + m) = _
    rw [sumI_ztail m h, h (a + m) (by omega), Int32.add_zero]
theorem fac_two : ∀ k, k < 6 → ∀ c, c ≤ k → fac c * fac (k - c) ≤ 120 := by decide +kernel
/-- the sum, as a difference of two that are small -/
theorem share_diff {V : Vw} (hw : WF V) {ld : Nat → Nat} {set s : Nat} (hs : s < V 0 8) (hset : set < 2 ^ V 0 8) (hb : set.testBit s = true) : ∃ P Q, P < 1073741824 ∧ Q < 1073741824 ∧ sumI (tmS V ld (set ^^^ 2 ^ s) s) (set + 1) = nI P - nI Q := by
  have s6 := hw.s6
  have p6 := p64 s6
  have o1 := sb_one set (by omega) s (by omega) hb
  have pl : ∀ q, q < 2 ^ V 0 8 → pcD V ld q ≤ 24000 := fun q hq => by
    unfold pcD
    cases h : PT V (V 0 3) ld q with
    | none => exact Nat.zero_le _
    | some r =>
      have h1 := (PT_bd hw q r hq h).1
      have h2 := cnt6 q
      have h3 : 4000 * cntB q 6 ≤ 4000 * 6 := Nat.mul_le_mul_left _ h2
      show r.1 ≤ 24000
      omega
  let f : Nat → Nat → Nat := fun w q => if q &&& (set ^^^ 2 ^ s) = q then fac (cntB q 14) * fac (cntB (set ^^^ 2 ^ s) 14 - cntB q 14) * pcD V ld (q ||| w) else 0
  have fl : ∀ w, w &&& set = w → ∀ q, q < set + 1 → f w q ≤ 2880000 := fun w hw2 q hq => by
    show (if q &&& (set ^^^ 2 ^ s) = q then fac (cntB q 14) * fac (cntB (set ^^^ 2 ^ s) 14 - cntB q 14) * pcD V ld (q ||| w) else 0) ≤ 2880000
    split
    · rename_i z
      have ct := cnt_sub (set ^^^ 2 ^ s) (by omega) q (by omega) z
      have ft := fac_two (cntB (set ^^^ 2 ^ s) 14) (by omega) (cntB q 14) ct
      have wl : w < 2 ^ V 0 8 := and_lt2 hw2 hset
      have pq := pl (q ||| w) (Nat.or_lt_two_pow (by omega) wl)
      have := Nat.mul_le_mul ft pq
      omega
    · omega
  have pw : 2 ^ s &&& set = 2 ^ s := by
    have := sb_three (q := 0) (oth := 0) (set := set) (s := s) (Nat.zero_and _) hb
    rw [Nat.zero_or] at this
    exact this
  have sl : ∀ w, w &&& set = w → sumN (f w) (set + 1) < 1073741824 := fun w hw2 => by
    have h1 : sumN (f w) (set + 1) ≤ (set + 1) * 2880000 := sumN_le (fl w hw2)
    have h2 : (set + 1) * 2880000 ≤ 64 * 2880000 := Nat.mul_le_mul_right _ (by omega)
    omega
  refine ⟨sumN (f (2 ^ s)) (set + 1), sumN (f 0) (set + 1), sl _ pw, sl _ (Nat.zero_and _), ?_⟩
  rw [← sumI_sub]
  refine sumI_ext (fun q hq => ?_)
  show (if q &&& (set ^^^ 2 ^ s) = q then nI (fac (cntB q 14)) * nI (fac (cntB (set ^^^ 2 ^ s) 14 - cntB q 14)) * (nI (pcD V ld (q ||| 2 ^ s)) - nI (pcD V ld q)) else 0) = nI (if q &&& (set ^^^ 2 ^ s) = q then fac (cntB q 14) * fac (cntB (set ^^^ 2 ^ s) 14 - cntB q 14) * pcD V ld (q ||| 2 ^ s) else 0) - nI (if q &&& (set ^^^ 2 ^ s) = q then fac (cntB q 14) * fac (cntB (set ^^^ 2 ^ s) 14 - cntB q 14) * pcD V ld (q ||| 0) else 0)
  split
  · rw [Nat.or_zero, ← pk_mul, ← pk_mul, ← pk_mul, ← pk_mul]
    exact mul_sub_i _ _ _ _
  · decide
theorem gcd_both {P Q B : Nat} (hP : P < 1073741824) (hQ : Q < 1073741824) (hB : B < 1024) (hB0 : 0 < B) : ∃ g, 0 < g ∧ g < 1024 ∧ XX9_greatestDivisor (nI P - nI Q) (nI B) = some (nI g) ∧ XX10_common (nI P - nI Q) (nI B) = some (nI g) := by
  obtain ⟨a, ha, e1, e2⟩ : ∃ a, a < 2147483648 ∧ (if 0 ≤ nI P - nI Q then nI P - nI Q else 0 - (nI P - nI Q)) = nI a ∧ (¬ 0 ≤ nI P - nI Q → -(nI P - nI Q) = nI a) := by
    by_cases q : Q ≤ P
    · have z := (sub_le0 hP hQ).mpr q
      exact ⟨P - Q, by omega, by rw [if_pos z, pk_sub q], fun y => absurd z y⟩
    · have z : ¬ 0 ≤ nI P - nI Q := fun y => q ((sub_le0 hP hQ).mp y)
      have e : nI Q - nI P = nI (Q - P) := pk_sub (by omega)
      refine ⟨Q - P, by omega, ?_, fun _ => ?_⟩
      · rw [if_neg z, ← e]
        grind
      · rw [← e]
        grind
  have gp : 0 < Nat.gcd a B := Nat.gcd_pos_of_pos_right a hB0
  have gl : Nat.gcd a B ≤ B := Nat.gcd_le_right a hB0
  refine ⟨Nat.gcd a B, gp, by omega, ?_, ?_⟩
  · unfold XX9_greatestDivisor
    rw [lt_def, lt_def, lt_def, e1, if_pos (nI_pos' (by omega))]
    refine Eq.trans (c_gcd _ 10 a B 0 FUEL ha (by omega) (by omega) (by omega) (by unfold FUEL; omega)) ?_
    show some (if (1 : Int32) < nI (Nat.gcd a B) then nI (Nat.gcd a B) else 1) = _
    by_cases q : Nat.gcd a B = 1
    · rw [q]
      rfl
    · rw [if_pos (show (1 : Int32) < nI (Nat.gcd a B) from (nI_lti (a := 1) (by omega) (by omega)).mpr (by omega))]
  · unfold XX10_common
    rw [lt_def]
    by_cases z : 0 ≤ nI P - nI Q
    · rw [if_pos z] at e1
      rw [if_pos z, e1]
      exact m_gcd FUEL a B ha (by omega) (by unfold FUEL; omega)
    · rw [if_neg z, e2 z]
      exact m_gcd FUEL a B ha (by omega) (by unfold FUEL; omega)
theorem fac_lt : ∀ n, n < 7 → 0 < fac n ∧ fac n < 1024 := by decide +kernel
theorem op_share {V : Vw} {σ : Sg} (h : Inv V σ) (x y z : Int32) : stOK (XX9_share x y z σ) (XX10_share x y z) := by
  obtain ⟨hw, hc, hr⟩ := id h
  have d14 := hw.d14
  have s6 := hw.s6
  have p6 := p64 s6
  have refuse : ∀ r, XX9_share x y z σ = some (r, σ) → XX10_share x y z σ = some (r, up σ 64 0 0) → stOK (XX9_share x y z σ) (XX10_share x y z) := fun r e1 e2 => ⟨_, _, _, e1, e2, V, h.look (fr_upf (a := 64) (i := 0)) rfl rfl⟩
  have hrt : RA V (up σ 64 0 0) := hr.th
  by_cases hx : ib x (V 0 8) ∧ ib y (V 0 0)
  · by_cases y0 : z < 0
    · refine refuse (-1) ?_ ?_
      · unfold XX9_share
        rw [c_hasCell hc.1 s6 d14, if_pos hx, b1s, if_neg (show ¬ (1 : Int32) = 0 by decide), if_pos y0]
      · unfold XX10_share
        rw [lt_def, m_isAt (hrt.1.1 8 (by omega)) (by omega) (hrt.1.1 0 (by omega)) (by omega), if_pos hx, b1s, if_neg (show ¬ (1 : Int32) = 0 by decide), m_in, if_pos y0, b1s, if_pos rfl]
    by_cases y1 : 1 < z
    · refine refuse (-1) ?_ ?_
      · unfold XX9_share
        rw [c_hasCell hc.1 s6 d14, if_pos hx, b1s, if_neg (show ¬ (1 : Int32) = 0 by decide), if_neg y0, if_neg (lt_irr y1)]
      · unfold XX10_share
        rw [lt_def, m_isAt (hrt.1.1 8 (by omega)) (by omega) (hrt.1.1 0 (by omega)) (by omega), if_pos hx, b1s, if_neg (show ¬ (1 : Int32) = 0 by decide), m_in, if_neg y0, if_pos y1, b1s, if_pos rfl]
    obtain ⟨s, hs, rfl⟩ := ib_of hx.1 (by omega)
    obtain ⟨d, hd, rfl⟩ := ib_of hx.2 (by omega)
    have al : alD V d < 2 ^ V 0 8 := allS_lt _ _
    have ll := lda_lt hw (d := d) hs
    obtain ⟨σ1, r, a0, a1, a2, a3, a4⟩ := c_partDay hw hc hd
    have F1 := frX9_partDay a1
    have hr1 : RA V (up σ1 64 0 0) := (hr.near F1 rfl).th
    have i6 : ib (nI s) 6 := (ib_nI (by omega)).mpr (by omega)
    have bb : (alD V d).testBit s = decide (0 < lda V d s) := by
      show (allS (lda V d) (V 0 8)).testBit s = _
      rw [allS_bit]
      simp [hs]
    obtain ⟨τ1, τ2, τ, g1, g2, g3, g4, g5, g6, g7⟩ := m_partDay hw hr1 hd
    have hrτ2 : RA V τ2 := (hr1.off (frX10_layRun g1) rfl).off (frX10_layLoads g2) rfl
    by_cases q : lda V d s = 0
    · have e1 : XX9_share (nI s) (nI d) z σ = some (z, σ1) := by
        unfold XX9_share
        rw [c_hasCell hc.1 s6 d14, if_pos hx, b1s, if_neg (show ¬ (1 : Int32) = 0 by decide), if_neg y0, if_pos (nlt_le y1), a1, b2s, if_pos i6, nI_cl (by omega), a4 s hs, q, if_pos (show nI 0 = 0 from rfl)]
      have e2 : XX10_share (nI s) (nI d) z σ1 = some (z, τ2) := by
        unfold XX10_share
        rw [lt_def, m_isAt (hr1.1.1 8 (by omega)) (by omega) (hr1.1.1 0 (by omega)) (by omega), if_pos hx, b1s, if_neg (show ¬ (1 : Int32) = 0 by decide), m_in, if_neg y0, if_neg y1, b1s, if_neg (show ¬ (1 : Int32) = 0 by decide), g1, b1s, g2, b2s, m_isOf (by omega) (by omega), b1s, bb, if_pos (by rw [q]; decide)]
      exact ⟨_, _, _, e1, e2, V, hw, a3.far (frX10_share e2) rfl, hrτ2⟩
    · have b1' : (alD V d).testBit s = true := by
        rw [bb]
        simp
        omega
      have o1 := sb_one (alD V d) (by omega) s (by omega) b1'
      obtain ⟨P, Q, hP, hQ, hPQ⟩ := share_diff hw (ld := lda V d) hs al b1'
      have tail : sumI (tmS V (lda V d) (alD V d ^^^ 2 ^ s) s) (alD V d + 1) = sumI (tmS V (lda V d) (alD V d ^^^ 2 ^ s) s) ((alD V d ^^^ 2 ^ s) + 1) := by
        have := sumI_ztail (f := tmS V (lda V d) (alD V d ^^^ 2 ^ s) s) (a := (alD V d ^^^ 2 ^ s) + 1) (alD V d - (alD V d ^^^ 2 ^ s)) (fun i hi => if_neg (fun w => by
          have : i ≤ alD V d ^^^ 2 ^ s := by rw [← w]; exact Nat.and_le_right
          omega))
        rw [show (alD V d ^^^ 2 ^ s) + 1 + (alD V d - (alD V d ^^^ 2 ^ s)) = alD V d + 1 by omega] at this
        exact this
      have c14 : cntB (alD V d) 14 < 7 := by omega
      have fl := fac_lt _ c14
      obtain ⟨g, gp, gl, gc, gm⟩ := gcd_both hP hQ fl.2 fl.1
      have sh1 : (1 : Int32) <<< (nI s &&& 31) = nI (2 ^ s) := nx_1shl (by omega)
      have ss : XX2_shareSum (nI s) σ1 = some (nI P - nI Q) := by
        unfold XX2_shareSum
        rw [lt_def, a2.1, sh1, o1.1, c_cnt (by omega), b1s]
        refine Eq.trans (c_share_loop hw hs al b1' a2.2.2.2 ((alD V d ^^^ 2 ^ s) + 1) 0 FUEL (by omega) (by unfold FUEL; omega)) ?_
        rw [← tail, hPQ]
      have so : XX2_orders σ1 = some (nI (fac (cntB (alD V d) 14))) := by
        unfold XX2_orders
        rw [a2.1, c_cnt (by omega), b1s, (c_fac (by omega)).1, b1s]
      have gn : ¬ nI g = 0 := nI_n0 (by omega) (by omega)
      have e1 : XX9_share (nI s) (nI d) z σ = some (if z = 0 then (nI P - nI Q) / nI g else nI (fac (cntB (alD V d) 14)) / nI g, σ1) := by
        unfold XX9_share
        rw [c_hasCell hc.1 s6 d14, if_pos hx, b1s, if_neg (show ¬ (1 : Int32) = 0 by decide), if_neg y0, if_pos (nlt_le y1), a1, b2s, if_pos i6, nI_cl (by omega), a4 s hs, if_neg (nI_n0 q (by omega)), ss, b1s, so, b1s, gc, b1s, if_pos gn, if_pos gn]
        split <;> rfl
      have e2 : XX10_share (nI s) (nI d) z σ1 = some (if z = 0 then (nI P - nI Q) / nI g else nI (fac (cntB (alD V d) 14)) / nI g, τ) := by
        unfold XX10_share
        rw [lt_def, m_isAt (hr1.1.1 8 (by omega)) (by omega) (hr1.1.1 0 (by omega)) (by omega), if_pos hx, b1s, if_neg (show ¬ (1 : Int32) = 0 by decide), m_in, if_neg y0, if_neg y1, b1s, if_neg (show ¬ (1 : Int32) = 0 by decide), g1, b1s, g2, b2s, m_isOf (by omega) (by omega), b1s, b1', if_neg (show ¬ nI (bq true) = 0 by decide), g3, b1s, g4, b2s, m_bits (by omega), b1s, lt_def]
        refine Eq.trans (m_share_loop hw hs al b1' (fun s hs => lda_le hw hs) g7 _ (alD V d + 1) 0 FUEL (by omega) (by unfold FUEL; omega)) ?_
        rw [hPQ, (c_fac (by omega)).2, b1s, gm, b1s, if_pos gn, if_pos gn]
        split <;> rfl
      exact ⟨_, _, _, e1, e2, V, hw, a3.far (frX10_share e2) rfl, g5⟩
  · refine refuse (-1) ?_ ?_
    · unfold XX9_share
      rw [c_hasCell hc.1 s6 d14, if_neg hx]
      rfl
    · unfold XX10_share
      rw [lt_def, m_isAt (hrt.1.1 8 (by omega)) (by omega) (hrt.1.1 0 (by omega)) (by omega), if_neg hx]
      rfl
