/-! ACTS: what was ahead is kept -/
def acV (V : Vw) (g : Nat → Nat) (n : Nat) : Vw := put (put V 9 g) 10 (fun _ => n)
theorem ac_sw (V : Vw) (g : Nat → Nat) (n : Nat) : sW V (acV V g n) := ⟨rfl, rfl, rfl, rfl, rfl⟩
theorem WF.acts {V : Vw} (h : WF V) {g : Nat → Nat} {n : Nat} (hn : n ≤ 12) (h1 : ∀ a s, a < n → s < 6 → g (7 * a + s) < 2 ^ V 0 0 ∧ (V 0 8 ≤ s → g (7 * a + s) = 0)) (h2 : ∀ a, a < n → g (7 * a + 6) ≤ V 0 9) (h3 : ∀ a b, a ≤ b → b < n → g (7 * a + 6) ≤ g (7 * b + 6)) : WF (acV V g n) := by
  obtain ⟨a1, a2, a3, a4, a5, a6, a7, a8, a9, a10, a11, a12, a13, a14, a15, a16, a17, -, -, -, -, a22, a23⟩ := h
  exact ⟨a1, a2, a3, a4, a5, a6, a7, a8, a9, a10, a11, a12, a13, a14, a15, a16, a17, hn, h1, h2, h3, a22, a23⟩
theorem WF.ac {V : Vw} (h : WF V) : V 10 0 ≤ 12 ∧ (∀ a s, a < V 10 0 → s < 6 → V 9 (7 * a + s) < 2 ^ V 0 0 ∧ (V 0 8 ≤ s → V 9 (7 * a + s) = 0)) ∧ (∀ a, a < V 10 0 → V 9 (7 * a + 6) ≤ V 0 9) ∧ (∀ a b, a ≤ b → b < V 10 0 → V 9 (7 * a + 6) ≤ V 9 (7 * b + 6)) := by
  obtain ⟨a1, a2, a3, a4, a5, a6, a7, a8, a9, a10, a11, a12, a13, a14, a15, a16, a17, a18, a19, a20, a21, a22, a23⟩ := h
  exact ⟨a18, a19, a20, a21⟩
theorem CI.acts {V : Vw} {σ τ : Sg} (h : CI V σ) {g : Nat → Nat} {n : Nat} (hf : fr [(61, some 0), (62, none)] σ τ) (h0 : τ 61 0 = nI n) (h1 : ∀ a s, a < n → s < 7 → τ 62 (7 * a + s) = nI (g (7 * a + s))) : CI (acV V g n) τ := by
  obtain ⟨ht, hn, hc, hp, ha, hx⟩ := h
  have hs := ac_sw V g n
  have hn2 := hn.frm hf rfl
  refine ⟨(ht.off (fun k k1 k2 => hf.cell (by simp; omega)) : TC V τ), ?_, ?_, ?_, ⟨h0, h1⟩, ?_⟩
  · rw [prV_sw hs rfl]
    exact hn2
  · refine WC.sw ?_ hs
    unfold WC FC at hc ⊢
    rw [hf.cell (k := 25) rfl, hf.cell (k := 27) rfl, hf.cell (k := 28) rfl]
    exact hc
  · exact (hp.off hf (fun k k1 k2 => by simp; omega)).sw hs
  · show XC V τ
    unfold XC at hx ⊢
    rw [hf.cell (k := 0) rfl, hf.cell (k := 1) rfl, hf.cell (k := 10) rfl, hf.cell (k := 19) rfl]
    exact hx
theorem RA.acts {V : Vw} {σ τ : Sg} (h : RA V σ) {g : Nat → Nat} {n : Nat} (hf : fr [(64, some 39), (91, none)] σ τ) (h0 : τ 64 39 = nI n) (h1 : ∀ a s, a < n → s < 7 → τ 91 (7 * a + s) = nI (g (7 * a + s))) : RA (acV V g n) τ := by
  obtain ⟨hm, hA⟩ := h
  have hs := ac_sw V g n
  refine ⟨?_, ?_⟩
  · obtain ⟨b1, b2, b3, b4, b5, -, -, b8, b9, b10, b11⟩ := hm
    have c64 : ∀ i, i ≠ 39 → τ 64 i = σ 64 i := fun i n0 => hf 64 i (by simp) (by simp [n0])
    have c : ∀ k, k ≠ 64 → k ≠ 91 → τ k = σ k := fun k k1 k2 => hf.cell (by simp; omega)
    rw [← c 65 (by omega) (by omega)] at b1
    rw [← c 66 (by omega) (by omega), ← c 67 (by omega) (by omega), ← c 68 (by omega) (by omega), ← c 69 (by omega) (by omega)] at b2
    rw [← c 78 (by omega) (by omega)] at b3
    rw [← c 70 (by omega) (by omega), ← c 71 (by omega) (by omega)] at b4
    rw [← c 72 (by omega) (by omega), ← c 73 (by omega) (by omega), ← c 74 (by omega) (by omega)] at b5
    rw [← c64 14 (by omega)] at b8
    rw [← c 76 (by omega) (by omega)] at b9
    rw [← c64 20 (by omega)] at b10
    rw [← c64 21 (by omega)] at b11
    exact ⟨b1, b2, b3, b4, b5, h0, h1, b8, b9, b10, b11⟩
  · refine AHM.sw ?_ hs
    unfold AHM at hA ⊢
    rw [hf.cell (k := 77) rfl]
    exact hA
def kpB (V : Vw) : Nat := if V 10 0 = 12 then 11 else V 10 0
def kpG (V : Vw) (i : Nat) : Nat := if i < 7 * kpB V then (if V 10 0 = 12 then V 9 (i + 7) else V 9 i) else if i - 7 * kpB V < 6 then V 5 (i - 7 * kpB V) else V 0 9
/-- the view with one act more -/
def kpV (V : Vw) : Vw := acV V (kpG V) (kpB V + 1)
theorem kpB_le {V : Vw} (hw : WF V) : kpB V ≤ 11 := by
  have := hw.ac.1
  unfold kpB
  split <;> omega
theorem WF.keep {V : Vw} (hw : WF V) : WF (kpV V) := by
  obtain ⟨c1, c2, c3, c4⟩ := hw.ac
  have hB := kpB_le hw
  have gl : ∀ a s, a < kpB V → s < 7 → kpG V (7 * a + s) = if V 10 0 = 12 then V 9 (7 * (a + 1) + s) else V 9 (7 * a + s) := fun a s ha hs => by
    unfold kpG
    rw [if_pos (by omega), show 7 * a + s + 7 = 7 * (a + 1) + s by omega]
  have gh : ∀ s, s < 7 → kpG V (7 * kpB V + s) = if s < 6 then V 5 s else V 0 9 := fun s hs => by
    unfold kpG
    rw [if_neg (by omega), show 7 * kpB V + s - 7 * kpB V = s by omega]
  have r6 : ∀ a, a ≤ kpB V → kpG V (7 * a + 6) ≤ V 0 9 := fun a ha => by
    by_cases q : a < kpB V
    · rw [gl a 6 q (by omega)]
      by_cases z : V 10 0 = 12
      · have : kpB V = 11 := if_pos z
        rw [if_pos z]
        exact c3 (a + 1) (by omega)
      · have : kpB V = V 10 0 := if_neg z
        rw [if_neg z]
        exact c3 a (by omega)
    · rw [show a = kpB V by omega, gh 6 (by omega), if_neg (by omega)]
      exact Nat.le_refl _
  refine hw.acts (by omega) (fun a s ha hs => ?_) (fun a ha => r6 a (by omega)) (fun a b hab hb => ?_)
  · by_cases q : a < kpB V
    · rw [gl a s q (by omega)]
      by_cases z : V 10 0 = 12
      · have : kpB V = 11 := if_pos z
        rw [if_pos z]
        exact c2 (a + 1) s (by omega) hs
      · have : kpB V = V 10 0 := if_neg z
        rw [if_neg z]
        exact c2 a s (by omega) hs
    · rw [show a = kpB V by omega, gh s (by omega), if_pos hs]
      exact ⟨hw.v5.1 s, hw.v5.2 s⟩
  · by_cases q : b < kpB V
    · rw [gl a 6 (by omega) (by omega), gl b 6 q (by omega)]
      by_cases z : V 10 0 = 12
      · have : kpB V = 11 := if_pos z
        rw [if_pos z, if_pos z]
        exact c4 (a + 1) (b + 1) (by omega) (by omega)
      · have : kpB V = V 10 0 := if_neg z
        rw [if_neg z, if_neg z]
        exact c4 a b hab (by omega)
    · rw [show b = kpB V by omega, gh 6 (by omega), if_neg (by omega)]
      exact r6 a (by omega)
theorem cpy_gen {σ : Sg} {a b x y n k i : Nat} : cpy σ a b x y n k i = if k = b then (if y ≤ i ∧ i < y + n then σ a (x + (i - y)) else σ b i) else σ k i := by
  unfold cpy setc va_cpy
  by_cases q : k = b
  · rw [if_pos q, if_pos q]
  · rw [if_neg q, if_neg q]
theorem c_keep2 {p : Int32} {σ : Sg} {B : Nat} (hB : B ≤ 11) (h61 : σ 61 0 = nI B) : ∃ τ, (if ¬ (0 : Int32) < 0 ∧ ¬ ((σ 61 0) * (7 : Int32)) < 0 ∧ ¬ (6 : Int32) < 0 ∧ (0 : Int32).toNatClampNeg + (6 : Int32).toNatClampNeg ≤ 6 ∧ ((σ 61 0) * (7 : Int32)).toNatClampNeg + (6 : Int32).toNatClampNeg ≤ 84 then lt (cpy σ 39 62 (0 : Int32).toNatClampNeg ((σ 61 0) * (7 : Int32)).toNatClampNeg (6 : Int32).toNatClampNeg) (fun (σ_3 : Sg) => if ib (((σ_3 61 0) * (7 : Int32)) + (6 : Int32)) 84 then lt (up σ_3 62 (((σ_3 61 0) * (7 : Int32)) + (6 : Int32)).toNatClampNeg p) (fun (σ_5 : Sg) => lt (up σ_5 61 0 ((σ_5 61 0) + (1 : Int32))) (fun (σ_7 : Sg) => some σ_7)) else none) else none) = some τ ∧ τ 61 0 = nI (B + 1) ∧ (∀ i, i < 7 * B → τ 62 i = σ 62 i) ∧ (∀ s, s < 6 → τ 62 (7 * B + s) = σ 39 s) ∧ τ 62 (7 * B + 6) = p ∧ fr [(61, some 0), (62, none)] σ τ := by
  have e7 : nI B * (7 : Int32) = nI (7 * B) := by rw [show (7 : Int32) = nI 7 from rfl, pk_mul, Nat.mul_comm]
  have e6 : (6 : Int32).toNatClampNeg = 6 := by decide
  have e0 : (0 : Int32).toNatClampNeg = 0 := by decide
  have c1 : cpy σ 39 62 0 (7 * B) 6 61 0 = nI B := by rw [cpy_cell (by omega), h61]
  refine ⟨up (up (cpy σ 39 62 0 (7 * B) 6) 62 (7 * B + 6) p) 61 0 (nI (B + 1)), ?_, up_same, fun i hi => ?_, fun s hs => ?_, ?_, ?_⟩
  · rw [h61, e7, if_pos ⟨by decide, nI_pos (by omega), by decide, by decide, by rw [nI_cl (by omega), e6]; omega⟩, e0, e6, nI_cl (by omega), lt_def, c1, e7, show (6 : Int32) = nI 6 from rfl, nI_add, if_pos ((ib_nI (by omega)).mpr (by omega)), nI_cl (by omega), lt_def, up_cell (show 61 ≠ 62 by omega), c1, nI_1, lt_def]
  · rw [up_cell (by omega), up_slot (by omega), cpy_gen, if_pos rfl, if_neg (by omega)]
  · rw [up_cell (by omega), up_slot (by omega), cpy_gen, if_pos rfl, if_pos (by omega), show 0 + (7 * B + s - 7 * B) = s by omega]
  · rw [up_cell (by omega), up_same]
  · exact fr.tr (fr.tr (fr_cpy.mono (by simp)) (fr_up.mono (by simp))) (fr_upf.mono (by simp))
theorem c_keep {V : Vw} (hw : WF V) {σ : Sg} (hc : CI V σ) : ∃ τ, XX9_keepAct σ = some τ ∧ CI (kpV V) τ := by
  obtain ⟨w1, -⟩ := hw.ac
  have hB := kpB_le hw
  have ha := hc.2.2.2.2.1
  have rush : σ 2 7 = nI (V 0 9) := hc.1.2.2.2.2.2.2.2.1
  obtain ⟨σ1, q1, q2, q3, q4⟩ : ∃ σ1, (∀ p, XX0_keep p σ = (if ¬ (0 : Int32) < 0 ∧ ¬ ((σ1 61 0) * (7 : Int32)) < 0 ∧ ¬ (6 : Int32) < 0 ∧ (0 : Int32).toNatClampNeg + (6 : Int32).toNatClampNeg ≤ 6 ∧ ((σ1 61 0) * (7 : Int32)).toNatClampNeg + (6 : Int32).toNatClampNeg ≤ 84 then lt (cpy σ1 39 62 (0 : Int32).toNatClampNeg ((σ1 61 0) * (7 : Int32)).toNatClampNeg (6 : Int32).toNatClampNeg) (fun (σ_3 : Sg) => if ib (((σ_3 61 0) * (7 : Int32)) + (6 : Int32)) 84 then lt (up σ_3 62 (((σ_3 61 0) * (7 : Int32)) + (6 : Int32)).toNatClampNeg p) (fun (σ_5 : Sg) => lt (up σ_5 61 0 ((σ_5 61 0) + (1 : Int32))) (fun (σ_7 : Sg) => some σ_7)) else none) else none)) ∧ σ1 61 0 = nI (kpB V) ∧ (∀ a s, a < kpB V → s < 7 → σ1 62 (7 * a + s) = nI (kpG V (7 * a + s))) ∧ fr [(61, some 0), (62, none)] σ σ1 := by
    by_cases z : V 10 0 = 12
    · have eB : kpB V = 11 := if_pos z
      have e7 : (7 : Int32).toNatClampNeg = 7 := by decide
      have e0 : (0 : Int32).toNatClampNeg = 0 := by decide
      have e77 : (77 : Int32).toNatClampNeg = 77 := by decide
      have c1 : cpy σ 62 62 7 0 77 61 0 = nI 12 := by rw [cpy_cell (by omega), ha.1, z]
      refine ⟨up (cpy σ 62 62 7 0 77) 61 0 (nI 11), fun p => ?_, by rw [up_same, eB], fun a s h1 h2 => ?_, fr.tr (fr_cpy.mono (by simp)) (fr_upf.mono (by simp))⟩
      · unfold XX0_keep
        rw [lt_def, ha.1, z, if_pos (show nI 12 = 12 from rfl), e7, e0, e77, lt_def, c1, lt_def, show nI 12 - (1 : Int32) = nI 11 from rfl]
      · rw [up_cell (by omega), cpy_gen, if_pos rfl, if_pos (by omega), show 7 + (7 * a + s - 0) = 7 * (a + 1) + s by omega, ha.2 (a + 1) s (by omega) h2]
        unfold kpG
        rw [if_pos (by omega), if_pos z, show 7 * a + s + 7 = 7 * (a + 1) + s by omega]
    · have eB : kpB V = V 10 0 := if_neg z
      refine ⟨σ, fun p => ?_, by rw [eB]; exact ha.1, fun a s h1 h2 => ?_, fr.rf⟩
      · unfold XX0_keep
        rw [lt_def, if_neg (show ¬ σ 61 0 = 12 by rw [ha.1]; exact nI_ne (b := 12) (by omega) (by omega) z)]
      · unfold kpG
        rw [if_pos (by omega), if_neg z]
        exact ha.2 a s (by omega) h2
  obtain ⟨τ, k1, k2, k3, k4, k5, k6⟩ := c_keep2 (p := nI (V 0 9)) hB q2
  have f := q4.tr k6
  refine ⟨τ, ?_, hc.acts f k2 (fun a s h1 h2 => ?_)⟩
  · unfold XX9_keepAct
    rw [rush, q1, k1, b1s]
  · by_cases q : a < kpB V
    · rw [k3 _ (by omega)]
      exact q3 a s q h2
    · rw [show a = kpB V by omega]
      have eg : kpG V (7 * kpB V + s) = if s < 6 then V 5 s else V 0 9 := by
        unfold kpG
        rw [if_neg (by omega), show 7 * kpB V + s - 7 * kpB V = s by omega]
      rw [eg]
      by_cases z : s < 6
      · rw [if_pos z, k4 s z, q4.cell (k := 39) rfl]
        exact hc.2.1.1 s z
      · rw [if_neg z, show s = 6 by omega, k5]
theorem mk_shift (K : Sg → Option Sg) : ∀ m k n σ, k + m = 84 → 7 ≤ k → m < n → ∃ τ, LX10_keep_12 K n (nI k) σ = K τ ∧ (∀ i, k - 7 ≤ i → i < 77 → τ 91 i = σ 91 (i + 7)) ∧ (∀ i, i < k - 7 → τ 91 i = σ 91 i) ∧ fr [(91, none)] σ τ := by
  intro m
  induction m with
  | zero =>
    intro k n σ hk h7 hn
    obtain ⟨n, rfl⟩ : ∃ q, n = q + 1 := ⟨n - 1, by omega⟩
    refine ⟨σ, ?_, fun i h1 h2 => absurd h2 (by omega), fun i _ => rfl, fr.rf⟩
    rw [LX10_keep_12, show (84 : Int32) = nI 84 from rfl, if_pos (by rw [nI_lei] <;> omega)]
  | succ m ih =>
    intro k n σ hk h7 hn
    obtain ⟨n, rfl⟩ : ∃ q, n = q + 1 := ⟨n - 1, by omega⟩
    obtain ⟨τ, k1, k2, k3, k4⟩ := ih (k + 1) n (up σ 91 (k - 7) (σ 91 k)) (by omega) (by omega) (by omega)
    refine ⟨τ, ?_, fun i h1 h2 => ?_, fun i h1 => ?_, fr.tr fr_up k4⟩
    · rw [LX10_keep_12, show (84 : Int32) = nI 84 from rfl, if_neg (by rw [nI_lei] <;> omega), if_pos ((ib_nI (by omega)).mpr (by omega)), show nI k - (7 : Int32) = nI (k - 7) from pk_sub (b := 7) h7, if_pos ((ib_nI (by omega)).mpr (by omega)), nI_cl (by omega), nI_cl (by omega), lt_def, lt_def, nI_1]
      exact k1
    · by_cases q : i = k - 7
      · rw [k3 i (by omega), q, up_same, show k - 7 + 7 = k by omega]
      · rw [k2 i (by omega) h2, up_slot (by omega)]
    · rw [k3 i (by omega), up_slot (by omega)]
theorem mk_row {B : Nat} (hB : B ≤ 11) (K : Sg → Option Sg) : ∀ m s n σ, s + m = 6 → m < n → σ 64 39 = nI B → ∃ τ, LX10_keep_51 K n (nI s) σ = K τ ∧ (∀ t, s ≤ t → t < 6 → τ 91 (7 * B + t) = σ 78 t) ∧ (∀ i, (i < 7 * B + s ∨ 7 * B + 6 ≤ i) → τ 91 i = σ 91 i) ∧ fr [(91, none)] σ τ := by
  intro m
  induction m with
  | zero =>
    intro s n σ hs hn h64
    obtain ⟨n, rfl⟩ : ∃ q, n = q + 1 := ⟨n - 1, by omega⟩
    refine ⟨σ, ?_, fun t h1 h2 => absurd h2 (by omega), fun i _ => rfl, fr.rf⟩
    rw [LX10_keep_51, show (6 : Int32) = nI 6 from rfl, if_pos (by rw [nI_lei] <;> omega)]
  | succ m ih =>
    intro s n σ hs hn h64
    obtain ⟨n, rfl⟩ : ∃ q, n = q + 1 := ⟨n - 1, by omega⟩
    have f1 : fr [(91, none)] σ (up σ 91 (7 * B + s) (σ 78 s)) := fr_up
    obtain ⟨τ, k1, k2, k3, k4⟩ := ih (s + 1) n (up σ 91 (7 * B + s) (σ 78 s)) (by omega) (by omega) (by rw [f1.cell (k := 64) rfl]; exact h64)
    refine ⟨τ, ?_, fun t h1 h2 => ?_, fun i h1 => ?_, f1.tr k4⟩
    · rw [LX10_keep_51, show (6 : Int32) = nI 6 from rfl, if_neg (by rw [nI_lei] <;> omega), if_pos ((ib_nI (by omega)).mpr (by omega)), h64, show (7 : Int32) = nI 7 from rfl, pk_mul, nI_add, if_pos ((ib_nI (by omega)).mpr (by omega)), nI_cl (by omega), nI_cl (by omega), lt_def, lt_def, nI_1]
      exact k1
    · by_cases q : t = s
      · rw [q, k3 _ (by omega), up_same]
      · rw [k2 t (by omega) h2, up_cell (by omega)]
    · rw [k3 i (by omega), up_slot (by omega)]
theorem m_keep {V : Vw} (hw : WF V) {σ : Sg} (hr : RA V σ) : ∃ τ, XX10_keep σ = some τ ∧ RA (kpV V) τ := by
  obtain ⟨w1, -⟩ := hw.ac
  have hB := kpB_le hw
  have b6 := hr.1.2.2.2.2.2.1
  have b7 := hr.1.2.2.2.2.2.2.1
  obtain ⟨K, hK⟩ : ∃ K : Sg → Option Sg, K = (fun (σ_1 : Sg) => lt (fun (σ_3 : Sg) => b1 (XX10_number (9 : Int32) σ_3) (fun (r_5 : Int32) => if ib (((7 : Int32) * (σ_3 64 39)) + (6 : Int32)) 84 then lt (up σ_3 91 (((7 : Int32) * (σ_3 64 39)) + (6 : Int32)).toNatClampNeg r_5) (fun (σ_6 : Sg) => lt (up σ_6 64 39 ((σ_6 64 39) + (1 : Int32))) (fun (σ_8 : Sg) => some σ_8)) else none)) (fun (k83_4 : Sg → Option Sg) => LX10_keep_51 k83_4 FUEL (0 : Int32) σ_1)) := ⟨_, rfl⟩
  obtain ⟨σ1, q1, q2, q3, q4⟩ : ∃ σ1, XX10_keep σ = K σ1 ∧ σ1 64 39 = nI (kpB V) ∧ (∀ a s, a < kpB V → s < 7 → σ1 91 (7 * a + s) = nI (kpG V (7 * a + s))) ∧ fr [(64, some 39), (91, none)] σ σ1 := by
    by_cases z : V 10 0 = 12
    · have eB : kpB V = 11 := if_pos z
      obtain ⟨σ0, k1, k2, -, k4⟩ := mk_shift (fun (σ_15 : Sg) => lt (up σ_15 64 39 ((σ_15 64 39) - (1 : Int32))) (fun (σ_17 : Sg) => K σ_17)) 77 7 FUEL σ (by omega) (by omega) (by unfold FUEL; omega)
      have s0 : σ0 64 39 = nI 12 := by rw [k4.cell (k := 64) rfl, b6, z]
      refine ⟨up σ0 64 39 (nI 11), ?_, by rw [up_same, eB], fun a s h1 h2 => ?_, fr.tr (k4.mono (by simp)) (fr_upf.mono (by simp))⟩
      · unfold XX10_keep
        rw [lt_def, b6, z, if_pos (show nI 12 = 12 from rfl), lt_def, ← hK]
        refine Eq.trans k1 ?_
        rw [lt_def, s0, show nI 12 - (1 : Int32) = nI 11 from rfl]
      · rw [up_cell (by omega), k2 _ (by omega) (by omega), show 7 * a + s + 7 = 7 * (a + 1) + s by omega, b7 (a + 1) s (by omega) h2]
        unfold kpG
        rw [if_pos (by omega), if_pos z, show 7 * a + s + 7 = 7 * (a + 1) + s by omega]
    · have eB : kpB V = V 10 0 := if_neg z
      refine ⟨σ, ?_, by rw [eB]; exact b6, fun a s h1 h2 => ?_, fr.rf⟩
      · unfold XX10_keep
        rw [lt_def, b6, if_neg (show ¬ nI (V 10 0) = 12 from nI_ne (b := 12) (by omega) (by omega) z), ← hK]
      · unfold kpG
        rw [if_pos (by omega), if_neg z]
        exact b7 a s (by omega) h2
  have r1 : σ1 65 9 = nI (V 0 9) := by rw [q4.cell (k := 65) rfl]; exact hr.1.1 9 (by omega)
  obtain ⟨σ2, k1, k2, k3, k4⟩ := mk_row hB (fun (σ_3 : Sg) => b1 (XX10_number (9 : Int32) σ_3) (fun (r_5 : Int32) => if ib (((7 : Int32) * (σ_3 64 39)) + (6 : Int32)) 84 then lt (up σ_3 91 (((7 : Int32) * (σ_3 64 39)) + (6 : Int32)).toNatClampNeg r_5) (fun (σ_6 : Sg) => lt (up σ_6 64 39 ((σ_6 64 39) + (1 : Int32))) (fun (σ_8 : Sg) => some σ_8)) else none)) 6 0 FUEL σ1 (by omega) (by unfold FUEL; omega) q2
  have s64 : σ2 64 39 = nI (kpB V) := by rw [k4.cell (k := 64) rfl]; exact q2
  have n9 : XX10_number (9 : Int32) σ2 = some (nI (V 0 9)) := by
    unfold XX10_number
    rw [if_pos (by decide), show (9 : Int32).toNatClampNeg = 9 by decide, k4.cell (k := 65) rfl, r1]
  have f : fr [(64, some 39), (91, none)] σ (up (up σ2 91 (7 * kpB V + 6) (nI (V 0 9))) 64 39 (nI (kpB V + 1))) := q4.tr (fr.tr (k4.mono (by simp)) (fr.tr (fr_up.mono (by simp)) (fr_upf.mono (by simp))))
  refine ⟨up (up σ2 91 (7 * kpB V + 6) (nI (V 0 9))) 64 39 (nI (kpB V + 1)), ?_, hr.acts f up_same (fun a s h1 h2 => ?_)⟩
  · rw [q1, hK]
    show lt _ _ = _
    rw [lt_def]
    refine Eq.trans k1 ?_
    rw [n9, b1s, s64, show (7 : Int32) = nI 7 from rfl, pk_mul, show (6 : Int32) = nI 6 from rfl, nI_add, if_pos ((ib_nI (by omega)).mpr (by omega)), nI_cl (by omega), lt_def, up_cell (show 64 ≠ 91 by omega), s64, nI_1, lt_def]
  · rw [up_cell (by omega)]
    by_cases q : a < kpB V
    · rw [up_slot (by omega), k3 _ (by omega)]
      exact q3 a s q h2
    · rw [show a = kpB V by omega]
      have eg : kpG V (7 * kpB V + s) = if s < 6 then V 5 s else V 0 9 := by
        unfold kpG
        rw [if_neg (by omega), show 7 * kpB V + s - 7 * kpB V = s by omega]
      rw [eg]
      by_cases z : s < 6
      · rw [if_pos z, up_slot (by omega), k2 s (by omega) z, q4.cell (k := 78) rfl]
        exact hr.1.2.2.1 s z
      · rw [if_neg z, show s = 6 by omega, up_same]
