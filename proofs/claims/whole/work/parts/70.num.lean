/-! NUMBERS: Int32 by Nat -/
theorem nI_lit (n : Nat) : (OfNat.ofNat n : Int32) = nI n := rfl
theorem ib_nI {a n : Nat} (ha : a < 2147483648) : ib (nI a) n ↔ a < n := by
  unfold ib
  rw [nI_clamp ha]
  constructor
  · intro h
    exact Nat.not_le.mp fun q => h (Or.inr q)
  · intro h q
    rcases q with q | q
    · exact nI_pos ha q
    · omega
theorem nI_cl {n : Nat} (h : n < 2147483648) : (nI n).toNatClampNeg = n := nI_clamp h
theorem nI_lei {a b : Nat} (ha : a < 2147483648) (hb : b < 2147483648) : nI a ≤ nI b ↔ a ≤ b := nI_leI ha hb
theorem nI_lti {a b : Nat} (ha : a < 2147483648) (hb : b < 2147483648) : nI a < nI b ↔ a < b := nI_ltI ha hb
theorem nI_eqi {a b : Nat} (ha : a < 2147483648) (hb : b < 2147483648) : nI a = nI b ↔ a = b := nI_eq ha hb
/-- the sum of the first n -/
def sumN (f : Nat → Nat) : Nat → Nat
  | 0 => 0
  | n + 1 => sumN f n + f n
theorem sumOf_loop {a s D : Nat} {σ : Sg} {f : Nat → Nat} (hs : s < 6) (hD : σ 2 0 = nI D) (hD2 : D ≤ 14) (hf : ∀ d, d < D → σ a (s * 14 + d) = nI (f d)) : ∀ m d n, d + m = D → m < n → LX5_sumOf_5 a (nI s) σ n (nI (sumN f d)) (nI d) = some (nI (sumN f D)) := by
  intro m
  induction m with
  | zero =>
    intro d n hd hn
    obtain ⟨n, rfl⟩ : ∃ k, n = k + 1 := ⟨n - 1, by omega⟩
    have hd : d = D := by omega
    subst hd
    rw [LX5_sumOf_5, hD, if_pos (by rw [nI_lei] <;> omega)]
  | succ m ih =>
    intro d n hd hn
    obtain ⟨n, rfl⟩ : ∃ k, n = k + 1 := ⟨n - 1, by omega⟩
    rw [LX5_sumOf_5, hD, if_neg (by rw [nI_lei] <;> omega)]
    have h1 := hf d (by omega)
    simp (disch := omega) only [XX9_cellOf, b1, lt, nI_lit, pk_mul, nI_add, ib_nI, nI_cl, h1]
    rw [if_pos (by omega)]
    exact ih (d + 1) n (by omega) (by omega)
