/-! TEXT: a shop's line: names, what it sells -/
def fdN (f : Nat → Nat) (v : Nat) : Nat → Nat → Option Nat
  | 0, _ => none
  | m + 1, j => if f j = v then some j else fdN f v m (j + 1)
def fnI (o : Option Nat) : Int32 := match o with
  | none => -1
  | some s => nI s
theorem fdN_lt {f : Nat → Nat} {v s : Nat} : ∀ m j, fdN f v m j = some s → s < j + m
  | 0, j, h => by cases h
  | m + 1, j, h => by
    have e : fdN f v (m + 1) j = if f j = v then some j else fdN f v m (j + 1) := rfl
    rw [e] at h
    by_cases q : f j = v
    · rw [if_pos q] at h
      have := Option.some.inj h
      omega
    · rw [if_neg q] at h
      have := fdN_lt m (j + 1) h
      omega
theorem c_namedI {D : Vw} {σ : Sg} {v : Nat} (h8 : D 0 8 ≤ 6) (h6 : σ 11 6 = nI (D 0 8)) (hn : ∀ s, s < D 0 8 → σ 23 s = nI (D 14 s)) (hb : ∀ s, s < D 0 8 → D 14 s < 2147483648) (hv : v < 2147483648) : ∀ m j n, j + m = D 0 8 → m < n → LX4_shopNamed_2 (nI v) σ n (nI j) = some (fnI (fdN (D 14) v m j)) := by
  intro m
  induction m with
  | zero =>
    intro j n hj hn2
    obtain ⟨n, rfl⟩ : ∃ q, n = q + 1 := ⟨n - 1, by omega⟩
    rw [LX4_shopNamed_2, h6, if_pos ((nI_lei (by omega) (by omega)).mpr (by omega))]
    rfl
  | succ m ih =>
    intro j n hj hn2
    obtain ⟨n, rfl⟩ : ∃ q, n = q + 1 := ⟨n - 1, by omega⟩
    have k1 := ih (j + 1) n (by omega) (by omega)
    rw [LX4_shopNamed_2, h6, if_neg (by rw [nI_lei] <;> omega), if_pos ((ib_nI (by omega)).mpr (by omega)), nI_cl (by omega), hn j (by omega), lt_def, nI_1, k1]
    show _ = some (fnI (if D 14 j = v then some j else fdN (D 14) v m (j + 1)))
    by_cases q : D 14 j = v
    · rw [if_pos q, if_pos (show nI (D 14 j) = nI v by rw [q])]
      rfl
    · rw [if_neg q, if_neg (nI_ne (hb j (by omega)) hv q)]
theorem m_calledI {D : Vw} {σ : Sg} {v : Nat} (h8 : D 0 8 ≤ 6) (h6 : σ 65 18 = nI (D 0 8)) (hn : ∀ s, s < D 0 8 → σ 75 s = nI (D 14 s)) (hb : ∀ s, s < D 0 8 → D 14 s < 2147483648) (hv : v < 2147483648) (h19 : σ 64 19 = nI v) : ∀ m j n, j + m = D 0 8 → m < n → LX10_called_2 σ n (nI j) = some (fnI (fdN (D 14) v m j)) := by
  intro m
  induction m with
  | zero =>
    intro j n hj hn2
    obtain ⟨n, rfl⟩ : ∃ q, n = q + 1 := ⟨n - 1, by omega⟩
    rw [LX10_called_2, h6, if_pos ((nI_lei (by omega) (by omega)).mpr (by omega))]
    rfl
  | succ m ih =>
    intro j n hj hn2
    obtain ⟨n, rfl⟩ : ∃ q, n = q + 1 := ⟨n - 1, by omega⟩
    have k1 := ih (j + 1) n (by omega) (by omega)
    rw [LX10_called_2, h6, if_neg (by rw [nI_lei] <;> omega), if_pos ((ib_nI (by omega)).mpr (by omega)), nI_cl (by omega), hn j (by omega), h19, lt_def, nI_1, k1]
    show _ = some (fnI (if D 14 j = v then some j else fdN (D 14) v m (j + 1)))
    by_cases q : D 14 j = v
    · rw [if_pos q, if_pos (show nI (D 14 j) = nI v by rw [q])]
      rfl
    · rw [if_neg q, if_neg (nI_ne (hb j (by omega)) hv q)]
theorem named_both {D : Vw} {σ σ' : Sg} {v : Nat} (hw : WD D) (hc : CD D σ) (hm : MD D σ') (hv : v < 2147483648) (h19 : σ' 64 19 = nI v) : XX4_shopNamed (nI v) σ = some (fnI (fdN (D 14) v (D 0 8) 0)) ∧ XX10_called σ' = some (fnI (fdN (D 14) v (D 0 8) 0)) := by
  have s6 := hw.1.s6
  refine ⟨?_, ?_⟩
  · unfold XX4_shopNamed
    exact c_namedI s6 hc.1.2.2.2.2.2.2.1 hc.2.1 hw.2.2.2.2.2.2.1 hv (D 0 8) 0 FUEL (by omega) (by unfold FUEL; omega)
  · unfold XX10_called
    exact m_calledI s6 (hm.1 8 (by omega)) hm.2.2.2.2.1 hw.2.2.2.2.2.2.1 hv h19 (D 0 8) 0 FUEL (by omega) (by unfold FUEL; omega)
/-- writes beside the shops that stand -/
theorem CD.beside {D : Vw} {σ : Sg} (h : CD D σ) {c i : Nat} {v : Int32} (hc : ((c = 12 ∨ c = 13 ∨ c = 14 ∨ c = 15 ∨ c = 23) ∧ i = D 0 8 ∧ D 0 8 < 6) ∨ c = 24) : CD D (up σ c i v) := by
  obtain ⟨⟨t0, t1, t2, t3, t4, t5, t6, t7, t8, t9, t10, t11, t12⟩, h2, h3⟩ := h
  have key : ∀ c' j, ¬ (c' = c ∧ j = i) → up σ c i v c' j = σ c' j := fun c' j q => by
    rw [up_at, if_neg q]
  exact ⟨⟨(key 11 0 (by omega)).trans t0, (key 11 1 (by omega)).trans t1, (key 11 2 (by omega)).trans t2, (key 11 3 (by omega)).trans t3, (key 11 4 (by omega)).trans t4, (key 11 5 (by omega)).trans t5, (key 11 6 (by omega)).trans t6, (key 11 7 (by omega)).trans t7, fun s hs => ⟨(key 12 s (by omega)).trans (t8 s hs).1, (key 13 s (by omega)).trans (t8 s hs).2.1, (key 14 s (by omega)).trans (t8 s hs).2.2.1, (key 15 s (by omega)).trans (t8 s hs).2.2.2⟩, (key 12 6 (by omega)).trans t9, (key 13 6 (by omega)).trans t10, fun s d hs hd => (key 16 _ (by omega)).trans (t11 s d hs hd), fun k hk => ⟨(key 17 k (by omega)).trans (t12 k hk).1, (key 18 k (by omega)).trans (t12 k hk).2⟩⟩, fun s hs => (key 23 s (by omega)).trans (h2 s hs), (key 10 12 (by omega)).trans h3⟩
theorem MD.beside {D : Vw} {σ : Sg} (h : MD D σ) {c i : Nat} {v : Int32} (hc : ((c = 66 ∨ c = 67 ∨ c = 68 ∨ c = 69 ∨ c = 70) ∧ i = 6 + D 0 8) ∨ (c = 71 ∧ 42 + 7 * D 0 8 ≤ i) ∨ (c = 75 ∧ i = D 0 8)) : MD D (up σ c i v) := by
  obtain ⟨h1, h2, h3, h4, h5, h6⟩ := h
  have key : ∀ c' j, ¬ (c' = c ∧ j = i) → up σ c i v c' j = σ c' j := fun c' j q => by
    rw [up_at, if_neg q]
  refine ⟨fun j hj => (key 65 _ (by omega)).trans (h1 j hj), fun s hs => ⟨(key 66 _ (by omega)).trans (h2 s hs).1, (key 67 _ (by omega)).trans (h2 s hs).2.1, (key 68 _ (by omega)).trans (h2 s hs).2.2.1, (key 69 _ (by omega)).trans (h2 s hs).2.2.2⟩, fun s hs => ?_, fun k hk => ?_, fun s hs => (key 75 s (by omega)).trans (h5 s hs), (key 64 12 (by omega)).trans h6⟩
  · obtain ⟨n, n1, n2, n3, n4⟩ := h3 s hs
    refine ⟨n, n1, n2, (key 70 _ (by omega)).trans n3, fun d hd => ?_⟩
    have := Nat.mod_lt d (show n > 0 by omega)
    exact (key 71 _ (by omega)).trans (n4 d hd)
  · obtain ⟨s, d, a1, a2, a3, a4, a5, a6⟩ := h4 k hk
    exact ⟨s, d, a1, a2, a3, (key 72 _ (by omega)).trans a4, (key 73 _ (by omega)).trans a5, (key 74 _ (by omega)).trans a6⟩
/-- values that a state holds -/
def Hd (l : List (Nat × Nat × Nat)) (σ : Sg) : Prop := ∀ q ∈ l, σ q.1 q.2.1 = nI q.2.2
theorem Hd.fr {l : List (Nat × Nat × Nat)} {σ τ : Sg} (h : Hd l σ) {F : List (Nat × Option Nat)} (hf : fr F σ τ) (hl : l.all (fun q => F.all (fun x => x.1 != q.1)) = true) : Hd l τ := fun q hq => by
  have h1 := List.all_eq_true.mp hl q hq
  rw [hf.cell h1]
  exact h q hq
theorem Hd.up {l : List (Nat × Nat × Nat)} {σ : Sg} (h : Hd l σ) (c i v : Nat) (hl : l.all (fun q => q.1 != c) = true) : Hd ((c, i, v) :: l) (up σ c i (nI v)) := fun q hq => by
  rcases List.mem_cons.mp hq with e | e
  · rw [e]
    exact up_same
  · have h1 := List.all_eq_true.mp hl q e
    rw [up_cell (by simpa using h1)]
    exact h q e
/-- the draft with one shop more -/
def shD (D : Vw) (nm x y h i c : Nat) (f : Nat → Nat) : Vw := put (put (put (put (put (put (put D 0 (updN (D 0) 8 (D 0 8 + 1))) 1 (updN (D 1) (D 0 8) x)) 2 (updN (D 2) (D 0 8) y)) 3 (updN (D 3) (D 0 8) h)) 4 (updN (D 4) (D 0 8) i)) 6 (fun k => if 14 * D 0 8 ≤ k ∧ k < 14 * D 0 8 + 14 then f ((k - 14 * D 0 8) % c) else D 6 k)) 14 (updN (D 14) (D 0 8) nm)
theorem sh6_old {D : Vw} {nm x y h i c : Nat} {f : Nat → Nat} {s d : Nat} (hs : s < D 0 8) (hd : d < 14) : shD D nm x y h i c f 6 (14 * s + d) = D 6 (14 * s + d) := by
  show (if 14 * D 0 8 ≤ 14 * s + d ∧ 14 * s + d < 14 * D 0 8 + 14 then f ((14 * s + d - 14 * D 0 8) % c) else D 6 (14 * s + d)) = _
  rw [if_neg (by omega)]
theorem sh6_new {D : Vw} {nm x y h i c : Nat} {f : Nat → Nat} {d : Nat} (hd : d < 14) : shD D nm x y h i c f 6 (14 * D 0 8 + d) = f (d % c) := by
  show (if 14 * D 0 8 ≤ 14 * D 0 8 + d ∧ 14 * D 0 8 + d < 14 * D 0 8 + 14 then f ((14 * D 0 8 + d - 14 * D 0 8) % c) else D 6 (14 * D 0 8 + d)) = _
  rw [if_pos (by omega), show 14 * D 0 8 + d - 14 * D 0 8 = d by omega]
theorem aq_old {D : Vw} {nm x y h i c : Nat} {f : Nat → Nat} {s d : Nat} (hs : s < D 0 8) (hd : d < 14) : aq (shD D nm x y h i c f) s d = aq D s d := by
  show shD D nm x y h i c f 6 (14 * s + d) + sumN (fun k => if D 7 k = 14 * s + d then D 8 k else 0) (D 0 9) = _
  rw [sh6_old hs hd]
  rfl
theorem aq_new {D : Vw} (hw : WF D) {nm x y h i c : Nat} {f : Nat → Nat} {d : Nat} (hd : d < 14) : aq (shD D nm x y h i c f) (D 0 8) d = f (d % c) := by
  have d14 := hw.d14
  show shD D nm x y h i c f 6 (14 * D 0 8 + d) + sumN (fun k => if D 7 k = 14 * D 0 8 + d then D 8 k else 0) (D 0 9) = _
  rw [sh6_new hd, sumN_zero.mpr (fun k hk => ?_), Nat.add_zero]
  obtain ⟨⟨s, e, h1, h2, h3⟩, -⟩ := hw.ru k hk
  show (if D 7 k = 14 * D 0 8 + d then D 8 k else 0) = 0
  rw [if_neg (by omega)]
theorem WD.sh {D : Vw} (hw : WD D) {nm x y h i c : Nat} {f : Nat → Nat} (s6 : D 0 8 < 6) (hn : nm < 2147483648) (hx : x ≤ 30) (hy : y ≤ 30) (h1 : 1 ≤ h) (h2 : h ≤ D 0 3) (hi : i ≤ h) (c1 : 1 ≤ c) (hf : ∀ j, j < c → f j ≤ 30) : WD (shD D nm x y h i c f) := by
  obtain ⟨w1, w2, w3, w4, w5, w6, w7, w8, w9, w10⟩ := hw
  have d14 := w1.d14
  obtain ⟨n1, n2, n3, n4, n5, n6, n7, n8, n9, n10⟩ := w1.nb
  have e16 : shD D nm x y h i c f 1 6 = D 1 6 := by
    show updN (D 1) (D 0 8) x 6 = D 1 6
    unfold updN
    rw [if_neg (by omega)]
  have e26 : shD D nm x y h i c f 2 6 = D 2 6 := by
    show updN (D 2) (D 0 8) y 6 = D 2 6
    unfold updN
    rw [if_neg (by omega)]
  refine ⟨⟨n1, n2, n3, n4, n5, n6, (show D 0 8 + 1 ≤ 6 by omega), w1.r12, by rw [e16]; exact n7, by rw [e26]; exact n8, by rw [e16]; exact n9, by rw [e26]; exact n10, fun s hs => ?_, fun s => ?_, fun s _ => w6 s, fun s d hs hd => ?_, fun k hk => ?_, (show D 10 0 ≤ 12 by omega), fun a s ha => absurd (show a < D 10 0 from ha) (by omega), fun a ha => absurd (show a < D 10 0 from ha) (by omega), fun a b _ hb => absurd (show b < D 10 0 from hb) (by omega), (show D 12 0 ≤ 800 by omega), fun j hj => absurd (show j < D 12 0 from hj) (by omega)⟩, w2, w3, w4, w5, w6, fun s hs => ?_, w8, w9, w10⟩
  · have hs' : s < D 0 8 + 1 := hs
    show updN (D 1) (D 0 8) x s ≤ 30 ∧ updN (D 2) (D 0 8) y s ≤ 30 ∧ 1 ≤ updN (D 3) (D 0 8) h s ∧ updN (D 3) (D 0 8) h s ≤ D 0 3 ∧ updN (D 4) (D 0 8) i s ≤ updN (D 3) (D 0 8) h s
    unfold updN
    by_cases q : s = D 0 8
    · rw [if_pos q, if_pos q, if_pos q, if_pos q]
      exact ⟨hx, hy, h1, h2, hi⟩
    · rw [if_neg q, if_neg q, if_neg q, if_neg q]
      exact w1.sh (by omega)
  · show D 5 s < 2 ^ D 0 0
    rw [w6]
    exact Nat.two_pow_pos _
  · have hs' : s < D 0 8 + 1 := hs
    have hd' : d < D 0 0 := hd
    by_cases q : s = D 0 8
    · rw [q, sh6_new (by omega)]
      exact hf _ (Nat.mod_lt _ (by omega))
    · rw [sh6_old (by omega) (by omega)]
      exact w1.2.2.2.2.2.2.2.2.2.2.2.2.2.2.2.1 s d (by omega) hd'
  · obtain ⟨⟨s, d, a1, a2, a3⟩, a4, a5⟩ := w1.ru k hk
    exact ⟨⟨s, d, (show s < D 0 8 + 1 by omega), a2, a3⟩, a4, a5⟩
  · have hs' : s < D 0 8 + 1 := hs
    show updN (D 14) (D 0 8) nm s < 2147483648
    unfold updN
    by_cases q : s = D 0 8
    · rw [if_pos q]
      exact hn
    · rw [if_neg q]
      exact w7 s (by omega)
theorem sold_fill {S c : Nat} (hS : S < 6) (c1 : 1 ≤ c) (c7 : c ≤ 7) (K : Sg → Option (Int32 × Sg)) {N : Nat} (hN : N ≤ 14) : ∀ m d n σ, d + m = N → m < n → σ 11 0 = nI N → ∃ τ, LX4_readSold_78 (nI S) (nI c) K n (nI d) σ = K τ ∧ (∀ e, d ≤ e → e < N → τ 16 (14 * S + e) = σ 24 (e % c)) ∧ (∀ j, j < 14 * S + d → τ 16 j = σ 16 j) ∧ fr [(16, none)] σ τ := by
  intro m
  induction m with
  | zero =>
    intro d n σ hd hn h0
    obtain ⟨n, rfl⟩ : ∃ q, n = q + 1 := ⟨n - 1, by omega⟩
    refine ⟨σ, ?_, fun e e1 e2 => absurd e2 (by omega), fun _ _ => rfl, fr.rf⟩
    rw [LX4_readSold_78, h0, if_pos ((nI_lei (by omega) (by omega)).mpr (by omega))]
  | succ m ih =>
    intro d n σ hd hn h0
    obtain ⟨n, rfl⟩ : ∃ q, n = q + 1 := ⟨n - 1, by omega⟩
    have ml := Nat.mod_lt d (show c > 0 by omega)
    obtain ⟨τ, k1, k2, k3, k4⟩ := ih (d + 1) n (up σ 16 (14 * S + d) (σ 24 (d % c))) (by omega) (by omega) (by rw [up_cell (by omega)]; exact h0)
    refine ⟨τ, ?_, fun e e1 e2 => ?_, fun j hj => ?_, fr.tr fr_up k4⟩
    · rw [LX4_readSold_78, h0, if_neg (by rw [nI_lei] <;> omega), c_cellOf, b1s, if_pos (nI_n0 (by omega) (by omega)), pk_rem (by omega) (by omega) (by omega), if_pos ((ib_nI (by omega)).mpr (by omega)), if_pos ((ib_nI (by omega)).mpr (by omega)), nI_cl (by omega), nI_cl (by omega), lt_def, lt_def, nI_1]
      exact k1
    · by_cases q : e = d
      · rw [q, k3 _ (by omega), up_same]
      · rw [k2 e (by omega) e2, up_cell (by omega)]
    · rw [k3 j (by omega), up_slot (by omega)]
