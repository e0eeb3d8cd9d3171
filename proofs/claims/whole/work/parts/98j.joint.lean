/-! CALLS: joint, the reference -/
abbrev Ga (V : Vw) : Nat := 2 ^ V 0 8 - 1
theorem Ga_bit {V : Vw} {s : Nat} (hs : s < V 0 8) : (Ga V).testBit s = true := by
  show (2 ^ V 0 8 - 1).testBit s = true
  rw [Nat.testBit_two_pow_sub_one, decide_eq_true hs]
theorem Ga_lt {V : Vw} (hw : WF V) : Ga V < 64 := by
  have := p64 hw.s6
  have := Nat.two_pow_pos (V 0 8)
  show 2 ^ V 0 8 - 1 < 64
  omega
theorem sumN_swap {a : Nat → Nat → Nat} {m : Nat} : ∀ n, sumN (fun s => sumN (a s) m) n = sumN (fun i => sumN (fun s => a s i) n) m
  | 0 => by
    have : ∀ k, sumN (fun i => sumN (fun s => a s i) 0) k = 0 := fun k => by
      induction k with
      | zero => rfl
      | succ k ih =>
        show sumN _ k + 0 = 0
        rw [ih]
    rw [this]
    rfl
  | n + 1 => by
    show sumN (fun s => sumN (a s) m) n + sumN (a n) m = _
    rw [sumN_swap n]
    have : ∀ k, sumN (fun i => sumN (fun s => a s i) n) k + sumN (a n) k = sumN (fun i => sumN (fun s => a s i) (n + 1)) k := fun k => by
      induction k with
      | zero => rfl
      | succ k ih =>
        show sumN (fun i => sumN (fun s => a s i) n) k + sumN (fun s => a s k) n + (sumN (a n) k + a n k) = sumN (fun i => sumN (fun s => a s i) (n + 1)) k + (sumN (fun s => a s k) n + a n k)
        rw [← ih]
        omega
    exact this m
theorem sumN_lin {f g : Nat → Nat} {a b : Nat} : ∀ n, sumN (fun s => a * f s + b * g s) n = a * sumN f n + b * sumN g n
  | 0 => by
    show 0 = a * 0 + b * 0
    rw [Nat.mul_zero, Nat.mul_zero]
  | n + 1 => by
    show sumN (fun s => a * f s + b * g s) n + (a * f n + b * g n) = a * (sumN f n + f n) + b * (sumN g n + g n)
    rw [sumN_lin n, Nat.mul_add, Nat.mul_add]
    omega
/-- what one shop costs on a day of a stretch -/
def dyF (V : Vw) (f s e : Nat) : Nat := V 0 6 * sk V f s (e + 1) + V 0 7 * msF V f s e
theorem rn_all {V : Vw} {f e : Nat} : rnF V (Ga V) f e = sumN (fun s => dyF V f s e) (V 0 8) := by
  have h1 : gnF V (Ga V) f e = sumN (fun s => msF V f s e) (V 0 8) := all_full (V 0 8) (Nat.le_refl _)
  have h2 : ldS (fun s => sk V f s (e + 1)) (Ga V) (V 0 8) = sumN (fun s => sk V f s (e + 1)) (V 0 8) := all_full (V 0 8) (Nat.le_refl _)
  have h3 : sumN (fun s => dyF V f s e) (V 0 8) = V 0 6 * sumN (fun s => sk V f s (e + 1)) (V 0 8) + V 0 7 * sumN (fun s => msF V f s e) (V 0 8) := sumN_lin (V 0 8)
  rw [h3]
  unfold rnF
  rw [h1, h2]
  omega
theorem rsm_all {V : Vw} {f t : Nat} : sumN (fun s => sumN (fun i => dyF V f s (f - 1 + i)) (t - (f - 1))) (V 0 8) = rsm V (Ga V) f t := by
  rw [sumN_swap]
  unfold rsm
  exact sumN_ext (fun i _ => rn_all.symm)
/-- visits on the two days -/
def vb (V : Vw) (f t : Nat) : Nat := wf f ||| (if t < V 0 0 then 2 ^ t else 0)
def hbF (V : Vw) (f t : Nat) : FN := fun s => if s < V 0 8 then vb V f t else 0
theorem wf_lt {V : Vw} {f : Nat} (hf : f ≤ V 0 0) : wf f < 2 ^ V 0 0 := by
  unfold wf
  split
  · exact Nat.two_pow_pos _
  · exact Nat.pow_lt_pow_right (by omega) (by omega)
theorem vb_lt {V : Vw} {f t : Nat} (hf : f ≤ V 0 0) : vb V f t < 2 ^ V 0 0 := by
  refine Nat.or_lt_two_pow (wf_lt hf) ?_
  split
  · exact Nat.pow_lt_pow_right (by omega) (by assumption)
  · exact Nat.two_pow_pos _
theorem hbF_ok {V : Vw} {f t : Nat} (hf : f ≤ V 0 0) : vOK V (hbF V f t) := by
  refine ⟨fun s => ?_, fun s hs => if_neg (by omega)⟩
  unfold hbF
  split
  · exact vb_lt hf
  · exact Nat.two_pow_pos _
theorem vb_low {V : Vw} {f t j : Nat} (hj : j < t) : (vb V f t).testBit j = (wf f).testBit j := by
  unfold vb
  rw [Nat.testBit_or]
  by_cases q : t < V 0 0
  · rw [if_pos q, Nat.testBit_two_pow, decide_eq_false (by omega), Bool.or_false]
  · rw [if_neg q, Nat.zero_testBit, Bool.or_false]
theorem vb_at {V : Vw} {f t : Nat} (ht : t < V 0 0) : (vb V f t).testBit t = true := by
  unfold vb
  rw [Nat.testBit_or, if_pos ht, Nat.testBit_two_pow, decide_eq_true rfl, Bool.or_true]
theorem stk_vb {V : Vw} {f t s e : Nat} (he : e ≤ t) : stk (V 4 s) (V 3 s) (vb V f t) (aq V s) e = sk V f s e := stk_congr (fun j hj => vb_low (by omega)) (fun _ _ => rfl)
theorem rm_vb {V : Vw} {f t s e : Nat} (he : e < t) : rmiss (V 4 s) (V 3 s) (vb V f t) (aq V s) e = msF V f s e := by
  unfold rmiss msF
  rw [vb_low he, stk_vb (by omega)]
  rfl
theorem ld_vb {V : Vw} {f t s : Nat} (ht : t < V 0 0) : rload (V 4 s) (V 3 s) (vb V f t) (aq V s) t = V 3 s - sk V f s t := by
  unfold rload
  rw [vb_at ht, if_pos rfl, stk_vb (Nat.le_refl _)]
/-- a stretch -/
def btV (V : Vw) (f t : Nat) : Nat := (if t < V 0 0 then vpF V (Ga V) f t else 0) + rsm V (Ga V) f t
theorem mb_in {V : Vw} (hw : WF V) {f t s : Nat} {h : FN} (hs : s < V 0 8) (ht : t ≤ V 0 0) {σ : Sg} (hr : RA (vsV V h) σ) (h81 : ∀ e, e < t → σ 81 (14 * s + e) = nI (stk (V 4 s) (V 3 s) (vb V f t) (aq V s) (e + 1))) (h82 : ∀ e, e < t → σ 82 (14 * s + e) = nI (rmiss (V 4 s) (V 3 s) (vb V f t) (aq V s) e)) (B : Nat) (K : Int32 → Option Sg) : ∀ m i n, f - 1 + i + m = t → m < n → LX10_layBetween_149 (nI t) (nI s) σ K n (nI (B + sumN (fun i => dyF V f s (f - 1 + i)) i)) (nI (f - 1 + i)) = K (nI (B + sumN (fun i => dyF V f s (f - 1 + i)) (t - (f - 1)))) := by
  have s6 := hw.s6
  have d14 := hw.d14
  have n6 : XX10_number (6 : Int32) σ = some (nI (V 0 6)) := num_at hr.1 (i := 6) (by omega)
  have n7 : XX10_number (7 : Int32) σ = some (nI (V 0 7)) := num_at hr.1 (i := 7) (by omega)
  intro m
  induction m with
  | zero =>
    intro i n hi hn
    obtain ⟨n, rfl⟩ : ∃ q, n = q + 1 := ⟨n - 1, by omega⟩
    rw [LX10_layBetween_149, if_pos (by rw [nI_lei] <;> omega), show t - (f - 1) = i by omega]
  | succ m ih =>
    intro i n hi hn
    obtain ⟨n, rfl⟩ : ∃ q, n = q + 1 := ⟨n - 1, by omega⟩
    have k1 := ih (i + 1) n (by omega) (by omega)
    have es : sumN (fun i => dyF V f s (f - 1 + i)) (i + 1) = sumN (fun i => dyF V f s (f - 1 + i)) i + dyF V f s (f - 1 + i) := rfl
    rw [es, ← Nat.add_assoc, ← Nat.add_assoc] at k1
    have e1 := h81 (f - 1 + i) (by omega)
    have e2 := h82 (f - 1 + i) (by omega)
    rw [stk_vb (by omega)] at e1
    rw [rm_vb (by omega)] at e2
    rw [LX10_layBetween_149, if_neg (by rw [nI_lei] <;> omega), n6, b1s, show (14 : Int32) = nI 14 from rfl, pk_mul, nI_add, if_pos ((ib_nI (by omega)).mpr (by omega)), n7, b1s, nI_cl (by omega), e1, e2, pk_mul, pk_mul, nI_add, nI_add, lt_def, lt_def, nI_1]
    exact k1
theorem mb_out {V : Vw} (hw : WF V) {f t : Nat} {h : FN} (ht : t ≤ V 0 0) (hft : f ≤ t + 1) (hf14 : f ≤ 14) {x : Int32} (hx : (f = 0 ∧ x = -1) ∨ (0 < f ∧ x = nI (f - 1))) {σ : Sg} (hr : RA (vsV V h) σ) (hrow : ∀ s e, s < V 0 8 → e < t → σ 81 (14 * s + e) = nI (stk (V 4 s) (V 3 s) (vb V f t) (aq V s) (e + 1)) ∧ σ 82 (14 * s + e) = nI (rmiss (V 4 s) (V 3 s) (vb V f t) (aq V s) e)) (B : Nat) (K : Int32 → Option Sg) : ∀ m s n, s + m = V 0 8 → m < n → LX10_layBetween_129 x (nI t) σ K n (nI (B + sumN (fun s => sumN (fun i => dyF V f s (f - 1 + i)) (t - (f - 1))) s)) (nI s) = K (nI (B + rsm V (Ga V) f t)) := by
  have s6 := hw.s6
  have d14 := hw.d14
  have e8 : σ 65 8 = nI (V 0 8) := hr.1.1 8 (by omega)
  intro m
  induction m with
  | zero =>
    intro s n hs hn
    obtain ⟨n, rfl⟩ : ∃ q, n = q + 1 := ⟨n - 1, by omega⟩
    have hs : s = V 0 8 := by omega
    subst hs
    rw [LX10_layBetween_129]
    unfold XX10_shops
    rw [b1s, e8, if_pos (by rw [nI_lei] <;> omega), rsm_all]
  | succ m ih =>
    intro s n hs hn
    obtain ⟨n, rfl⟩ : ∃ q, n = q + 1 := ⟨n - 1, by omega⟩
    have k1 := ih (s + 1) n (by omega) (by omega)
    have es : sumN (fun s => sumN (fun i => dyF V f s (f - 1 + i)) (t - (f - 1))) (s + 1) = sumN (fun s => sumN (fun i => dyF V f s (f - 1 + i)) (t - (f - 1))) s + sumN (fun i => dyF V f s (f - 1 + i)) (t - (f - 1)) := rfl
    rw [es, ← Nat.add_assoc] at k1
    have c := mb_in hw (f := f) (t := t) (s := s) (by omega) ht hr (fun e he => (hrow s e (by omega) he).1) (fun e he => (hrow s e (by omega) he).2) (B + sumN (fun s => sumN (fun i => dyF V f s (f - 1 + i)) (t - (f - 1))) s) (fun (x3_38 : Int32) => lt (nI s + (1 : Int32)) (fun (x4_40 : Int32) => LX10_layBetween_129 x (nI t) σ K n x3_38 x4_40)) (t - (f - 1)) 0 FUEL (by omega) (by unfold FUEL; omega)
    rw [show f - 1 + 0 = f - 1 by omega] at c
    have c' : LX10_layBetween_149 (nI t) (nI s) σ (fun (x3_38 : Int32) => lt (nI s + (1 : Int32)) (fun (x4_40 : Int32) => LX10_layBetween_129 x (nI t) σ K n x3_38 x4_40)) FUEL (nI (B + sumN (fun s => sumN (fun i => dyF V f s (f - 1 + i)) (t - (f - 1))) s)) (nI (f - 1)) = _ := c
    rw [LX10_layBetween_129]
    unfold XX10_shops
    rw [b1s, e8, if_neg (by rw [nI_lei] <;> omega), lt_def]
    rcases hx with ⟨q1, q2⟩ | ⟨q1, q2⟩
    · rw [q2, if_neg (show ¬ (0 : Int32) ≤ -1 by decide)]
      show lt _ _ = _
      rw [lt_def, show (0 : Int32) = nI (f - 1) by rw [q1]; rfl, ← q2]
      refine Eq.trans c' ?_
      rw [lt_def, nI_1]
      exact k1
    · subst q2
      rw [if_pos (nI_pos' (by omega))]
      show lt _ _ = _
      rw [lt_def]
      refine Eq.trans c' ?_
      rw [lt_def, nI_1]
      exact k1
theorem mb_set {V : Vw} (hw : WF V) {f t : Nat} (hf : f ≤ V 0 0) (ht : t ≤ V 0 0) {x : Int32} (hx : (f = 0 ∧ x = -1) ∨ (0 < f ∧ x = nI (f - 1))) (K : Sg → Option Sg) : ∀ m s n σ h, s + m = V 0 8 → m < n → vOK V h → (∀ u, u < s → h u = hbF V f t u) → MS V h σ → ∃ τ, LX10_layBetween_52 x (nI t) K n (nI s) σ = K τ ∧ MS V (hbF V f t) τ ∧ fr [(78, none)] σ τ := by
  have s6 := hw.s6
  have d14 := hw.d14
  intro m
  induction m with
  | zero =>
    intro s n σ h hs hn ok h1 hσ
    obtain ⟨n, rfl⟩ : ∃ q, n = q + 1 := ⟨n - 1, by omega⟩
    have hs : s = V 0 8 := by omega
    subst hs
    have e8 : σ 65 8 = nI (V 0 8) := hσ.1.1.1 8 (by omega)
    have eh : h = hbF V f t := by
      funext u
      by_cases q : u < V 0 8
      · exact h1 u q
      · rw [ok.2 u (by omega), (hbF_ok hf).2 u (by omega)]
    rw [eh] at hσ
    refine ⟨σ, ?_, hσ, fr.rf⟩
    rw [LX10_layBetween_52]
    unfold XX10_shops
    rw [b1s, e8, if_pos (by rw [nI_lei] <;> omega)]
  | succ m ih =>
    intro s n σ h hs hn ok h1 hσ
    obtain ⟨n, rfl⟩ : ∃ q, n = q + 1 := ⟨n - 1, by omega⟩
    have e8 : σ 65 8 = nI (V 0 8) := hσ.1.1.1 8 (by omega)
    have e0 : σ 65 0 = nI (V 0 0) := hσ.1.1.1 0 (by omega)
    have hs8 : s < V 0 8 := by omega
    have eh : hbF V f t s = vb V f t := if_pos hs8
    have f1 : fr [(78, none)] σ (up σ 78 s (nI (vb V f t))) := fr_up
    obtain ⟨τ, k1, k2, k3⟩ := ih (s + 1) n (up σ 78 s (nI (vb V f t))) (updN h s (vb V f t)) (by omega) (by omega) (ok.upd hs8 (vb_lt hf)) (fun u hu => by
      unfold updN
      by_cases q : u = s
      · rw [if_pos q, q, eh]
      · rw [if_neg q]
        exact h1 u (by omega)) ⟨m_set1 hσ.1 (by omega), fun u e hu he => by rw [f1.cell (k := 79) rfl]; exact hσ.2 u e hu he⟩
    refine ⟨τ, ?_, k2, f1.tr k3⟩
    have i6 : ib (nI s) 6 := (ib_nI (by omega)).mpr (by omega)
    have tail : ∀ y z : Int32, y = nI (wf f) → z = nI (if t < V 0 0 then 2 ^ t else 0) → (if ib (nI s) 6 then lt (up σ 78 (nI s).toNatClampNeg (y ||| z)) (fun (σ_59 : Sg) => lt (nI s + (1 : Int32)) (fun (x3_61 : Int32) => LX10_layBetween_52 x (nI t) K n x3_61 σ_59)) else none) = K τ := fun y z hy hz => by
      rw [if_pos i6, nI_cl (by omega), hy, hz, nx_or, lt_def, lt_def, nI_1]
      exact k1
    have mid : ∀ y : Int32, y = nI (wf f) → b1 (XX10_days σ) (fun (r_56 : Int32) => lt (fun (s_57 : Int32) => if ib (nI s) 6 then lt (up σ 78 (nI s).toNatClampNeg (y ||| s_57)) (fun (σ_59 : Sg) => lt (nI s + (1 : Int32)) (fun (x3_61 : Int32) => LX10_layBetween_52 x (nI t) K n x3_61 σ_59)) else none) (fun (k91_58 : Int32 → Option Sg) => if r_56 ≤ nI t then (k91_58 (0 : Int32)) else (k91_58 ((1 : Int32) <<< (nI t &&& 31))))) = K τ := fun y hy => by
      unfold XX10_days
      rw [b1s, e0, lt_def]
      by_cases q : t < V 0 0
      · rw [if_neg (by rw [nI_lei] <;> omega)]
        refine tail y _ hy ?_
        rw [if_pos q]
        exact nx_1shl (by omega)
      · rw [if_pos (by rw [nI_lei] <;> omega)]
        refine tail y _ hy ?_
        rw [if_neg q]
        rfl
    rw [LX10_layBetween_52]
    unfold XX10_shops
    rw [b1s, e8, if_neg (by rw [nI_lei] <;> omega), lt_def]
    rcases hx with ⟨q1, q2⟩ | ⟨q1, q2⟩
    · rw [q2, if_neg (show ¬ (0 : Int32) ≤ -1 by decide), ← q2]
      refine mid _ ?_
      rw [q1]
      rfl
    · rw [q2, if_pos (nI_pos' (by omega)), ← q2]
      refine mid _ ?_
      unfold wf
      rw [q2, if_neg (by omega)]
      exact nx_1shl (by omega)
theorem cd_lc {V : Vw} {f t : Nat} (h : ∀ s, s < V 0 8 → rload (V 4 s) (V 3 s) (vb V f t) (aq V s) t = V 3 s - sk V f s t) : cdV V (V 0 3) (fun s => rload (V 4 s) (V 3 s) (vb V f t) (aq V s) t) = vpF V (Ga V) f t := by
  unfold vpF
  refine cd_ld (fun s hs => ?_)
  show rload (V 4 s) (V 3 s) (vb V f t) (aq V s) t = lcF V (Ga V) f t s
  unfold lcF
  rw [h s hs, Ga_bit hs, if_pos rfl]
theorem mb_to {V : Vw} (hw : WF V) {f : Nat} (hf : f ≤ V 0 0) {x : Int32} (hx : (f = 0 ∧ x = -1) ∨ (0 < f ∧ x = nI (f - 1))) (K : Sg → Option Sg) : ∀ m t n σ h, t + m = V 0 0 + 1 → f ≤ t → m < n → vOK V h → MS V h σ → (∀ u, f ≤ u → u < t → σ 88 (16 * f + u) = nI (btV V f u)) → ∃ τ g, LX10_layBetween_42 x K n (nI t) σ = K τ ∧ vOK V g ∧ MS V g τ ∧ (∀ u, f ≤ u → u ≤ V 0 0 → τ 88 (16 * f + u) = nI (btV V f u)) ∧ (∀ i, (i < 16 * f ∨ 16 * f + 16 ≤ i) → τ 88 i = σ 88 i) ∧ τ 90 = σ 90 := by
  have s6 := hw.s6
  have d14 := hw.d14
  have t99 := hw.t99
  have x1 : x + (1 : Int32) = nI f := by
    rcases hx with ⟨q1, q2⟩ | ⟨q1, q2⟩
    · rw [q2, q1]
      decide
    · rw [q2, nI_1, show f - 1 + 1 = f by omega]
  intro m
  induction m with
  | zero =>
    intro t n σ h ht hft hn ok hσ h88
    obtain ⟨n, rfl⟩ : ∃ q, n = q + 1 := ⟨n - 1, by omega⟩
    have e0 : σ 65 0 = nI (V 0 0) := hσ.1.1.1 0 (by omega)
    refine ⟨σ, h, ?_, ok, hσ, fun u a b => h88 u a (by omega), fun _ _ => rfl, rfl⟩
    rw [LX10_layBetween_42]
    unfold XX10_days
    rw [b1s, e0, if_pos (by rw [nI_lti] <;> omega)]
  | succ m ih =>
    intro t n σ h ht hft hn ok hσ h88
    obtain ⟨n, rfl⟩ : ∃ q, n = q + 1 := ⟨n - 1, by omega⟩
    have e0 : σ 65 0 = nI (V 0 0) := hσ.1.1.1 0 (by omega)
    obtain ⟨KK, hKK⟩ : ∃ KK : Sg → Option Sg, KK = (fun (σ_21 : Sg) => b1 (XX10_runAll σ_21) (fun (σ_23 : Sg) => b1 (XX10_days σ_23) (fun (r_24 : Int32) => lt (fun (s_25 : Int32) (σ_26 : Sg) => lt (fun (x3_28 : Int32) => if ib (((16 : Int32) * (x + (1 : Int32))) + nI t) 256 then lt (up σ_26 88 (((16 : Int32) * (x + (1 : Int32))) + nI t).toNatClampNeg x3_28) (fun (σ_30 : Sg) => lt (nI t + (1 : Int32)) (fun (x2_32 : Int32) => LX10_layBetween_42 x K n x2_32 σ_30)) else none) (fun (k211_29 : Int32 → Option Sg) => LX10_layBetween_129 x (nI t) σ_26 k211_29 FUEL s_25 (0 : Int32))) (fun (k125_27 : Int32 → Sg → Option Sg) => if r_24 ≤ nI t then (k125_27 (0 : Int32) σ_23) else (b1 (XX10_number (3 : Int32) σ_23) (fun (r_48 : Int32) => b2 (XX10_roundsCost (nI t) r_48 σ_23) (fun (r_49 : Int32) (σ_50 : Sg) => k125_27 r_49 σ_50))))))) := ⟨_, rfl⟩
    obtain ⟨σ1, a1, a2, a3⟩ := mb_set hw (t := t) hf (by omega) hx KK (V 0 8) 0 FUEL σ h (by omega) (by unfold FUEL; omega) ok (fun u hu => absurd hu (by omega)) hσ
    have okb := hbF_ok (V := V) (t := t) hf
    have hw1 : WF (vsV V (hbF V f t)) := hw.vis okb.1 okb.2
    obtain ⟨σ2, b1', b2', b3', b4'⟩ := m_runAll hw1 (ask := aq V) a2.1.1 (hla hw1) a2.2
    have hr2 : RA (vsV V (hbF V f t)) σ2 := a2.1.off b4' rfl
    have ha2 : askM V (aq V) σ2 := fun u e hu he => by rw [b4'.cell (k := 79) rfl]; exact a2.2 u e hu he
    have e2 : σ2 65 0 = nI (V 0 0) := hr2.1.1 0 (by omega)
    have rows : ∀ s e, s < V 0 8 → e < V 0 0 → σ2 80 (14 * s + e) = nI (rload (V 4 s) (V 3 s) (vb V f t) (aq V s) e) ∧ σ2 81 (14 * s + e) = nI (stk (V 4 s) (V 3 s) (vb V f t) (aq V s) (e + 1)) ∧ σ2 82 (14 * s + e) = nI (rmiss (V 4 s) (V 3 s) (vb V f t) (aq V s) e) := fun s e hs he => by
      have := b3' s e hs he
      have ev : vsV V (hbF V f t) 5 s = vb V f t := if_pos hs
      unfold rowM at this
      rw [ev] at this
      exact this
    -- what the rounds cost
    have mid : ∃ B σ3, B = (if t < V 0 0 then vpF V (Ga V) f t else 0) ∧ RA (vsV V (hbF V f t)) σ3 ∧ fr qS σ2 σ3 ∧ ∀ (k : Int32 → Sg → Option Sg), (if nI (V 0 0) ≤ nI t then (k (0 : Int32) σ2) else (b1 (XX10_number (3 : Int32) σ2) (fun (r_48 : Int32) => b2 (XX10_roundsCost (nI t) r_48 σ2) (fun (r_49 : Int32) (σ_50 : Sg) => k r_49 σ_50)))) = k (nI B) σ3 := by
      by_cases q : t < V 0 0
      · have n3 : XX10_number (3 : Int32) σ2 = some (nI (V 0 3)) := num_at hr2.1 (i := 3) (by omega)
        have ldl : ∀ s, s < V 0 8 → rload (V 4 s) (V 3 s) (vb V f t) (aq V s) t ≤ V 0 3 := fun s hs => by
          have h1 : rload (V 4 s) (V 3 s) (vb V f t) (aq V s) t ≤ V 3 s := rload_le
          have := (hw.sh hs).2.2.2.1
          omega
        obtain ⟨σ3, c1, c2, c3⟩ := m_roundsCost hw1 (cap := V 0 3) (by omega) (d := t) (ld := fun s => rload (V 4 s) (V 3 s) (vb V f t) (aq V s) t) q (fun s hs => by have := ldl s hs; omega) hr2 (fun s hs => (rows s t hs q).1)
        have ec : iP (dpV (vsV V (hbF V f t)) (V 0 3) (fun s => rload (V 4 s) (V 3 s) (vb V f t) (aq V s) t)) = nI (vpF V (Ga V) f t) := by
          rw [iP_cd hw1 ldl, cd_sw (vs_sw V _), cd_lc (fun s _ => ld_vb q)]
        rw [ec] at c1
        refine ⟨vpF V (Ga V) f t, σ3, (if_pos q).symm, c2, c3, fun k => ?_⟩
        rw [if_neg (by rw [nI_lei] <;> omega), n3, b1s, c1, b2s]
      · exact ⟨0, σ2, (if_neg q).symm, hr2, fr.rf, fun k => by rw [if_pos (by rw [nI_lei] <;> omega)]; rfl⟩
    obtain ⟨B, σ3, hB, hr3, F3, hmid⟩ := mid
    have rows3 : ∀ s e, s < V 0 8 → e < t → σ3 81 (14 * s + e) = nI (stk (V 4 s) (V 3 s) (vb V f t) (aq V s) (e + 1)) ∧ σ3 82 (14 * s + e) = nI (rmiss (V 4 s) (V 3 s) (vb V f t) (aq V s) e) := fun s e hs he => by
      rw [F3.cell (k := 81) rfl, F3.cell (k := 82) rfl]
      exact (rows s e hs (by omega)).2
    have out := mb_out hw (f := f) (t := t) (by omega) (by omega) (by omega) hx hr3 rows3 B (fun (x3_28 : Int32) => if ib (((16 : Int32) * (x + (1 : Int32))) + nI t) 256 then lt (up σ3 88 (((16 : Int32) * (x + (1 : Int32))) + nI t).toNatClampNeg x3_28) (fun (σ_30 : Sg) => lt (nI t + (1 : Int32)) (fun (x2_32 : Int32) => LX10_layBetween_42 x K n x2_32 σ_30)) else none) (V 0 8) 0 FUEL (by omega) (by unfold FUEL; omega)
    have out' : LX10_layBetween_129 x (nI t) σ3 (fun (x3_28 : Int32) => if ib (((16 : Int32) * (x + (1 : Int32))) + nI t) 256 then lt (up σ3 88 (((16 : Int32) * (x + (1 : Int32))) + nI t).toNatClampNeg x3_28) (fun (σ_30 : Sg) => lt (nI t + (1 : Int32)) (fun (x2_32 : Int32) => LX10_layBetween_42 x K n x2_32 σ_30)) else none) FUEL (nI B) (0 : Int32) = _ := out
    have ebt : B + rsm V (Ga V) f t = btV V f t := by
      unfold btV
      rw [hB]
    rw [ebt] at out'
    have f4 : fr [(88, none)] σ3 (up σ3 88 (16 * f + t) (nI (btV V f t))) := fr_up
    have ms4 : MS V (hbF V f t) (up σ3 88 (16 * f + t) (nI (btV V f t))) := ⟨hr3.off f4 rfl, fun u e hu he => by rw [f4.cell (k := 79) rfl, F3.cell (k := 79) rfl]; exact ha2 u e hu he⟩
    have c88 : σ3 88 = σ 88 := by rw [F3.cell (k := 88) rfl, b4'.cell (k := 88) rfl, a3.cell (k := 88) rfl]
    have c90 : σ3 90 = σ 90 := by rw [F3.cell (k := 90) rfl, b4'.cell (k := 90) rfl, a3.cell (k := 90) rfl]
    obtain ⟨τ, g, k1, k2, k3, k4, k5, k6⟩ := ih (t + 1) n (up σ3 88 (16 * f + t) (nI (btV V f t))) (hbF V f t) (by omega) (by omega) (by omega) okb ms4 (fun u a b => by
      by_cases q : u = t
      · rw [q, up_same]
      · rw [up_slot (by omega), c88]
        exact h88 u a (by omega))
    refine ⟨τ, g, ?_, k2, k3, k4, fun i hi => by rw [k5 i hi, up_slot (by omega), c88], by rw [k6, f4.cell (k := 90) rfl, c90]⟩
    rw [LX10_layBetween_42]
    unfold XX10_days
    rw [b1s, e0, if_neg (by rw [nI_lti] <;> omega), lt_def]
    unfold XX10_days at hKK
    have a1' : LX10_layBetween_52 x (nI t) KK FUEL (0 : Int32) σ = KK σ1 := a1
    rw [← hKK, a1', hKK]
    show b1 (XX10_runAll σ1) _ = _
    rw [b1', b1s, b1s, e2, lt_def]
    refine Eq.trans (hmid _) ?_
    show lt _ _ = _
    rw [lt_def]
    refine Eq.trans out' ?_
    rw [x1, show (16 : Int32) = nI 16 from rfl, pk_mul, nI_add, if_pos ((ib_nI (by omega)).mpr (by omega)), nI_cl (by omega), lt_def, lt_def, nI_1]
    exact k1
