/-! TEXT: the class's scan of the whole tape -/
/-- the class's kind of the token at a place -/
def ck (g : Nat → Nat) (L p : Nat) : Nat := if tkK g L p = 0 then 16 else if tkK g L p = 1 then wk (tkV g L p) else if tkK g L p = 2 then 14 else if tkK g L p = 3 then 15 else 17
def ps (g : Nat → Nat) (L : Nat) : Nat → Nat
  | 0 => en cB g L 0
  | k + 1 => en cB g L (tkB g L (ps g L k))
abbrev stq (g : Nat → Nat) (L p : Nat) : Prop := tkK g L p = 0 ∨ tkK g L p = 4
theorem tkK_le (g : Nat → Nat) (L p : Nat) : tkK g L p ≤ 4 := by
  unfold tkK
  split
  · omega
  · split
    · split <;> omega
    · split
      · split <;> omega
      · split <;> omega
theorem ck_0 {g : Nat → Nat} {L p : Nat} : ck g L p = 16 ↔ tkK g L p = 0 := by
  have h := tkK_le g L p
  have w := wk_le (tkV g L p)
  unfold ck
  split
  · omega
  · split
    · omega
    · split
      · omega
      · split <;> omega
theorem ck_1 {g : Nat → Nat} {L p : Nat} : ck g L p ≤ 13 ↔ tkK g L p = 1 := by
  have h := tkK_le g L p
  have w := wk_le (tkV g L p)
  unfold ck
  split
  · omega
  · split
    · omega
    · split
      · omega
      · split <;> omega
theorem ck_2 {g : Nat → Nat} {L p : Nat} : ck g L p = 14 ↔ tkK g L p = 2 := by
  have h := tkK_le g L p
  have w := wk_le (tkV g L p)
  unfold ck
  split
  · omega
  · split
    · omega
    · split
      · omega
      · split <;> omega
theorem ck_3 {g : Nat → Nat} {L p : Nat} : ck g L p = 15 ↔ tkK g L p = 3 := by
  have h := tkK_le g L p
  have w := wk_le (tkV g L p)
  unfold ck
  split
  · omega
  · split
    · omega
    · split
      · omega
      · split <;> omega
theorem ck_4 {g : Nat → Nat} {L p : Nat} : ck g L p = 17 ↔ tkK g L p = 4 := by
  have h := tkK_le g L p
  have w := wk_le (tkV g L p)
  unfold ck
  split
  · omega
  · split
    · omega
    · split
      · omega
      · split <;> omega
theorem ck_le (g : Nat → Nat) (L p : Nat) : ck g L p ≤ 17 := by
  have w := wk_le (tkV g L p)
  unfold ck
  split
  · omega
  · split
    · omega
    · split
      · omega
      · split <;> omega
theorem ck_w {g : Nat → Nat} {L p : Nat} (h : tkK g L p = 1) : ck g L p = wk (tkV g L p) := by
  unfold ck
  rw [if_neg (by omega), if_pos h]
theorem tkV_lt {g : Nat → Nat} {L p : Nat} (h : tkK g L p = 1 ∨ tkK g L p = 2) : tkV g L p < 1073741825 := by
  unfold tkK at h
  unfold tkV
  by_cases q : L ≤ p
  · rw [if_pos q] at h
    omega
  rw [if_neg q] at h
  by_cases c1 : cL (g p) = true
  · rw [if_pos c1] at h ⊢
    by_cases y : en cL g L p - p ≤ 6
    · exact wc_lt6 y
    · rw [if_neg y] at h
      omega
  rw [if_neg c1] at h ⊢
  by_cases c2 : cD (g p) = true
  · rw [if_pos c2] at h
    by_cases y : en cD g L p - p ≤ 2 ∧ ¬ (en cD g L p < L ∧ cL (g (en cD g L p)) = true)
    · have := nv_lt2 y.1
      omega
    · rw [if_neg y] at h
      omega
  · rw [if_neg c2] at h
    by_cases y : g p = 59
    · rw [if_pos y] at h
      omega
    · rw [if_neg y] at h
      omega
theorem tkB_gt {g : Nat → Nat} {L p : Nat} (hp : p < L) : p < tkB g L p ∧ tkB g L p ≤ L := by
  unfold tkB
  rw [if_neg (by omega)]
  by_cases c1 : cL (g p) = true
  · rw [if_pos c1, en_go hp c1]
    have h1 := en_ge (p := cL) (g := g) (L := L) (L - (p + 1)) (p + 1) rfl
    have h2 := en_le (p := cL) (g := g) (L := L) (L - (p + 1)) (p + 1) rfl (by omega)
    omega
  rw [if_neg c1]
  by_cases c2 : cD (g p) = true
  · rw [if_pos c2, en_go hp c2]
    have h1 := en_ge (p := cD) (g := g) (L := L) (L - (p + 1)) (p + 1) rfl
    have h2 := en_le (p := cD) (g := g) (L := L) (L - (p + 1)) (p + 1) rfl (by omega)
    omega
  rw [if_neg c2]
  omega
theorem nst_lt {g : Nat → Nat} {L p : Nat} (h : ¬ stq g L p) : p < L := by
  by_cases q : L ≤ p
  · exfalso
    refine h (Or.inl ?_)
    unfold tkK
    rw [if_pos q]
  · omega
def scM (p1 : Int32) (k150_11 : Int32 → Sg → Option Sg) (x3_5 : Int32) (σ_7 : Sg) : Option Sg := if x3_5 < p1 then (if ib x3_5 800 then if (σ_7 1 x3_5.toNatClampNeg) = (59 : Int32) then (if ib (σ_7 10 7) 801 then lt (up σ_7 20 (σ_7 10 7).toNatClampNeg (15 : Int32)) (fun (σ_24 : Sg) => lt (x3_5 + (1 : Int32)) (fun (x3_26 : Int32) => k150_11 x3_26 σ_24)) else none) else (b1 (XX4_isLetter (σ_7 1 x3_5.toNatClampNeg)) (fun (r_16 : Int32) => if r_16 = 0 then (b1 (XX4_isDigit (σ_7 1 x3_5.toNatClampNeg)) (fun (r_17 : Int32) => if r_17 = 0 then (if ib (σ_7 10 7) 801 then lt (up σ_7 20 (σ_7 10 7).toNatClampNeg (17 : Int32)) (fun (σ_18 : Sg) => k150_11 x3_5 σ_18) else none) else (b2 (XX4_scanNumber x3_5 p1 σ_7) (fun (r_20 : Int32) (σ_21 : Sg) => k150_11 r_20 σ_21)))) else (b2 (XX4_scanWord x3_5 p1 σ_7) (fun (r_22 : Int32) (σ_23 : Sg) => k150_11 r_22 σ_23)))) else none) else (if ib (σ_7 10 7) 801 then lt (up σ_7 20 (σ_7 10 7).toNatClampNeg (16 : Int32)) (fun (σ_27 : Sg) => k150_11 x3_5 σ_27) else none)
def scK (p1 : Int32) (n : Nat) (x4_3 : Int32) (x3_9 : Int32) (σ_10 : Sg) : Option Sg := lt (up σ_10 10 7 ((σ_10 10 7) + (1 : Int32))) (fun (σ_12 : Sg) => if ib ((σ_12 10 7) - (1 : Int32)) 801 then if (σ_12 20 ((σ_12 10 7) - (1 : Int32)).toNatClampNeg) = (16 : Int32) then (some σ_12) else (if (σ_12 20 ((σ_12 10 7) - (1 : Int32)).toNatClampNeg) = (17 : Int32) then (some σ_12) else (lt (x4_3 + (1 : Int32)) (fun (x4_14 : Int32) => LX4_scanAll_10 p1 n x3_9 x4_14 σ_12))) else none)
def scB (p1 : Int32) (n : Nat) (x4_3 : Int32) (σ_4 : Sg) (x3_5 : Int32) : Option Sg := if ib (σ_4 10 7) 801 then scM p1 (scK p1 n x4_3) x3_5 (up σ_4 21 (σ_4 10 7).toNatClampNeg x3_5) else none
theorem scan_eq (p1 : Int32) (n : Nat) (x3 x4 : Int32) (σ : Sg) : LX4_scanAll_10 p1 (n + 1) x3 x4 σ = if (800 : Int32) < x4 then (some σ) else LX4_scanAll_18 p1 σ (scB p1 n x4 σ) FUEL x3 := by
  rw [LX4_scanAll_10, lt_def]
  rfl
theorem scM_ok {g : Nat → Nat} {L p k : Nat} {σ : Sg} (h : TP g L 1 σ) (hk : KW σ) (h7 : σ 10 7 = nI k) (k8 : k ≤ 800) (hp : p ≤ L) (K : Int32 → Sg → Option Sg) : ∃ τ x, scM (nI L) K (nI p) σ = K x τ ∧ τ 20 k = nI (ck g L p) ∧ (tkK g L p = 1 ∨ tkK g L p = 2 → τ 22 k = nI (tkV g L p)) ∧ (¬ stq g L p → x = nI (tkB g L p)) ∧ (∀ c j, ¬ (c = 20 ∧ j = k) → ¬ (c = 22 ∧ j = k) → τ c j = σ c j) := by
  have hL := h.1
  have i8 : ib (nI k) 801 := (ib_nI (by omega)).mpr (by omega)
  have one : ∀ (s : Int32) (c j : Nat), ¬ (c = 20 ∧ j = k) → ¬ (c = 22 ∧ j = k) → up σ 20 k s c j = σ c j := fun s c j h1 h2 => by
    rw [up_at, if_neg h1]
  unfold scM
  rw [h7]
  by_cases q : L ≤ p
  · have hK : tkK g L p = 0 := by
      unfold tkK
      rw [if_pos q]
    refine ⟨up σ 20 k (nI 16), nI p, ?_, by rw [up_same, ck_0.mpr hK], fun z => by omega, fun z => absurd (Or.inl hK) z, one _⟩
    rw [if_neg (show ¬ nI p < nI L by rw [nI_lti (by omega) (by omega)]; omega), if_pos i8, nI_cl (show k < 2147483648 by omega), lt_def]
    rfl
  have hg := h.2.1 p (by omega)
  rw [if_pos (show nI p < nI L from (nI_lti (by omega) (by omega)).mpr (by omega)), if_pos (show ib (nI p) 800 from (ib_nI (by omega)).mpr (by omega)), nI_cl (show p < 2147483648 by omega), h.2.2 p (by omega)]
  by_cases z : g p = 59
  · have c1 : ¬ cL (g p) = true := by
      rw [z]
      decide
    have c2 : ¬ cD (g p) = true := by
      rw [z]
      decide
    have hK : tkK g L p = 3 := by
      unfold tkK
      rw [if_neg q, if_neg c1, if_neg c2, if_pos z]
    refine ⟨up σ 20 k (nI 15), nI (p + 1), ?_, by rw [up_same, ck_3.mpr hK], fun z => by omega, fun _ => ?_, one _⟩
    · rw [if_pos (show nI (g p) = 59 by rw [z]; rfl), if_pos i8, nI_cl (show k < 2147483648 by omega), lt_def, lt_def, nI_1]
      rfl
    · unfold tkB
      rw [if_neg q, if_neg c1, if_neg c2]
  rw [if_neg (show ¬ nI (g p) = 59 from nI_ne (b := 59) (by omega) (by omega) z), c_isL hg, b1s]
  cases c1 : cL (g p) with
  | true =>
    rw [if_neg (show ¬ nI (bq true) = 0 by decide)]
    obtain ⟨τ, a1, a2, a3, a4⟩ := c_word h hk h7 k8 (p := p) (by omega)
    rw [a1, b2s]
    refine ⟨τ, _, rfl, ?_, fun y => ?_, fun y => ?_, a4⟩
    · rw [a2]
      unfold ck tkK tkV
      rw [if_neg q, if_pos c1, if_pos c1]
      by_cases y : en cL g L p - p ≤ 6
      · rw [if_pos y, if_pos y, if_neg (by decide), if_pos rfl]
      · rw [if_neg y, if_neg y, if_neg (by decide), if_neg (by decide), if_neg (by decide), if_neg (by decide)]
    · unfold tkV
      rw [if_pos c1]
      refine a3 ?_
      unfold tkK at y
      rw [if_neg q, if_pos c1] at y
      by_cases w : en cL g L p - p ≤ 6
      · exact w
      · rw [if_neg w] at y
        omega
    · unfold tkB
      rw [if_neg q, if_pos c1]
  | false =>
    have c1' : ¬ cL (g p) = true := by
      rw [c1]
      decide
    rw [if_pos (show nI (bq false) = 0 by decide), c_isD hg, b1s]
    cases c2 : cD (g p) with
    | true =>
      rw [if_neg (show ¬ nI (bq true) = 0 by decide)]
      obtain ⟨τ, a1, a2, a3, a4⟩ := c_num h h7 k8 (p := p) (by omega)
      rw [a1, b2s]
      refine ⟨τ, _, rfl, ?_, fun y => ?_, fun y => ?_, a4⟩
      · rw [a2]
        unfold ck tkK
        rw [if_neg q, if_neg c1', if_pos c2]
        by_cases y : en cD g L p - p ≤ 2 ∧ ¬ (en cD g L p < L ∧ cL (g (en cD g L p)) = true)
        · rw [if_pos y, if_pos y, if_neg (by decide), if_neg (by decide), if_pos rfl]
        · rw [if_neg y, if_neg y, if_neg (by decide), if_neg (by decide), if_neg (by decide), if_neg (by decide)]
      · unfold tkV
        rw [if_neg c1']
        refine a3 ?_
        unfold tkK at y
        rw [if_neg q, if_neg c1', if_pos c2] at y
        by_cases w : en cD g L p - p ≤ 2 ∧ ¬ (en cD g L p < L ∧ cL (g (en cD g L p)) = true)
        · exact w.1
        · rw [if_neg w] at y
          omega
      · unfold tkB
        rw [if_neg q, if_neg c1', if_pos c2]
    | false =>
      have c2' : ¬ cD (g p) = true := by
        rw [c2]
        decide
      have hK : tkK g L p = 4 := by
        unfold tkK
        rw [if_neg q, if_neg c1', if_neg c2', if_neg z]
      rw [if_pos (show nI (bq false) = 0 by decide), if_pos i8, nI_cl (show k < 2147483648 by omega), lt_def]
      exact ⟨up σ 20 k (nI 17), nI p, rfl, by rw [up_same, ck_4.mpr hK], fun z => by omega, fun z => absurd (Or.inr hK) z, one _⟩
def tokC (g : Nat → Nat) (L j : Nat) (σ : Sg) : Prop := σ 20 j = nI (ck g L (ps g L j)) ∧ σ 21 j = nI (ps g L j) ∧ (tkK g L (ps g L j) = 1 ∨ tkK g L (ps g L j) = 2 → σ 22 j = nI (tkV g L (ps g L j)))
theorem c_scan1 {g : Nat → Nat} {L b k n : Nat} {σ : Sg} (h : TP g L 1 σ) (hk : KW σ) (h7 : σ 10 7 = nI k) (hb : b ≤ L) (k8 : k ≤ b) (hp : ps g L k = en cB g L b) : ∃ τ x, LX4_scanAll_10 (nI L) (n + 1) (nI b) (nI k) σ = (if stq g L (ps g L k) then some τ else LX4_scanAll_10 (nI L) n x (nI (k + 1)) τ) ∧ tokC g L k τ ∧ τ 10 7 = nI (k + 1) ∧ (¬ stq g L (ps g L k) → x = nI (tkB g L (ps g L k))) ∧ (∀ c j, ¬ (c = 10 ∧ j = 7) → ¬ (c = 20 ∧ j = k) → ¬ (c = 21 ∧ j = k) → ¬ (c = 22 ∧ j = k) → τ c j = σ c j) := by
  have hL := h.1
  have i8 : ib (nI k) 801 := (ib_nI (by omega)).mpr (by omega)
  have ple : ps g L k ≤ L := by
    rw [hp]
    exact en_le (L - b) b rfl hb
  obtain ⟨p, hpp⟩ : ∃ p, p = ps g L k := ⟨_, rfl⟩
  rw [← hpp] at ple hp
  obtain ⟨σ7, hσ7⟩ : ∃ σ7, σ7 = up σ 21 k (nI p) := ⟨_, rfl⟩
  have t7 : TP g L 1 σ7 := h.off (by rw [hσ7, up_cell (by omega)])
  have a7 : σ7 10 7 = nI k := by
    rw [hσ7, up_cell (by omega)]
    exact h7
  obtain ⟨τ0, x, e1, e2, e3, e4, e5⟩ := scM_ok t7 (hk.off (by rw [hσ7, up_cell (by omega)])) a7 (by omega) ple (scK (nI L) n (nI k))
  have b7 : τ0 10 7 = nI k := by
    rw [e5 10 7 (by omega) (by omega)]
    exact a7
  have kk : (nI (k + 1) - (1 : Int32)) = nI k := by
    rw [show (1 : Int32) = nI 1 from rfl, nI_sb (by omega), show k + 1 - 1 = k by omega]
  obtain ⟨τ, hτ⟩ : ∃ τ, τ = up τ0 10 7 (nI (k + 1)) := ⟨_, rfl⟩
  have d7 : τ 10 7 = nI (k + 1) := by
    rw [hτ, up_same]
  have d20 : τ 20 k = nI (ck g L p) := by
    rw [hτ, up_cell (by omega)]
    exact e2
  refine ⟨τ, x, ?_, ?_, d7, ?_, ?_⟩
  · have cl := ck_le g L p
    rw [scan_eq, if_neg (show ¬ (800 : Int32) < nI k by rw [show (800 : Int32) = nI 800 from rfl, nI_lti (by omega) (by omega)]; omega), c_brun h (scB (nI L) n (nI k) σ) (L - b) b FUEL rfl hb (by unfold FUEL; omega), ← hp]
    unfold scB
    rw [h7, if_pos i8, nI_cl (by omega), ← hσ7, e1]
    unfold scK
    rw [b7, nI_1, ← hτ, lt_def, d7, kk, if_pos i8, nI_cl (by omega), d20, ← hpp, lt_def]
    by_cases s0 : tkK g L p = 0
    · rw [if_pos (show nI (ck g L p) = 16 by rw [ck_0.mpr s0]; rfl), if_pos (Or.inl s0)]
    rw [if_neg (show ¬ nI (ck g L p) = 16 from nI_ne (b := 16) (by omega) (by omega) (fun z => s0 (ck_0.mp z)))]
    by_cases s4 : tkK g L p = 4
    · rw [if_pos (show nI (ck g L p) = 17 by rw [ck_4.mpr s4]; rfl), if_pos (Or.inr s4)]
    · rw [if_neg (show ¬ nI (ck g L p) = 17 from nI_ne (b := 17) (by omega) (by omega) (fun z => s4 (ck_4.mp z))), if_neg (fun z => z.elim s0 s4)]
  · unfold tokC
    rw [← hpp]
    refine ⟨d20, ?_, fun z => ?_⟩
    · rw [hτ, up_cell (by omega), e5 21 k (by omega) (by omega), hσ7, up_same]
    · rw [hτ, up_cell (by omega)]
      exact e3 z
  · rw [← hpp]
    exact e4
  · intro c j n1 n2 n3 n4
    rw [hτ, up_at, if_neg n1, e5 c j n2 n4, hσ7, up_at, if_neg n3]
theorem c_scan {g : Nat → Nat} {L : Nat} : ∀ m b k n σ, L - b ≤ m → m < n → b ≤ L → k ≤ b → TP g L 1 σ → KW σ → σ 10 7 = nI k → ps g L k = en cB g L b → ∃ τ T, LX4_scanAll_10 (nI L) n (nI b) (nI k) σ = some τ ∧ k ≤ T ∧ T ≤ 800 ∧ τ 10 7 = nI (T + 1) ∧ (∀ j, k ≤ j → j ≤ T → tokC g L j τ) ∧ (∀ j, k ≤ j → j < T → ¬ stq g L (ps g L j)) ∧ stq g L (ps g L T) ∧ (∀ c j, j < k → c ≠ 10 → τ c j = σ c j) := by
  intro m
  induction m with
  | zero =>
    intro b k n σ hm hn hb hk h hw h7 hp
    have hL := h.1
    obtain ⟨n, rfl⟩ : ∃ q, n = q + 1 := ⟨n - 1, by omega⟩
    obtain ⟨τ, x, e1, e2, e3, e4, e5⟩ := c_scan1 (n := n) h hw h7 hb hk hp
    have st : stq g L (ps g L k) := by
      refine Or.inl ?_
      unfold tkK
      rw [if_pos (by rw [hp]; exact Nat.le_trans (by omega) (en_ge (L - b) b rfl))]
    rw [if_pos st] at e1
    refine ⟨τ, k, e1, Nat.le_refl _, by omega, e3, fun j j1 j2 => ?_, fun j j1 j2 => absurd j1 (by omega), st, fun c j j1 c1 => e5 c j (by omega) (by omega) (by omega) (by omega)⟩
    rw [show j = k by omega]
    exact e2
  | succ m ih =>
    intro b k n σ hm hn hb hk h hw h7 hp
    have hL := h.1
    obtain ⟨n, rfl⟩ : ∃ q, n = q + 1 := ⟨n - 1, by omega⟩
    obtain ⟨τ, x, e1, e2, e3, e4, e5⟩ := c_scan1 (n := n) h hw h7 hb hk hp
    by_cases st : stq g L (ps g L k)
    · rw [if_pos st] at e1
      refine ⟨τ, k, e1, Nat.le_refl _, by omega, e3, fun j j1 j2 => ?_, fun j j1 j2 => absurd j1 (by omega), st, fun c j j1 c1 => e5 c j (by omega) (by omega) (by omega) (by omega)⟩
      rw [show j = k by omega]
      exact e2
    · rw [if_neg st, e4 st] at e1
      have pl := nst_lt st
      have tb := tkB_gt (g := g) pl
      have pg : b ≤ ps g L k := by
        rw [hp]
        exact en_ge (L - b) b rfl
      obtain ⟨τ2, T, f1, f2, f3, f4, f5, f6, f7, f8⟩ := ih (tkB g L (ps g L k)) (k + 1) n τ (by omega) (by omega) tb.2 (by omega) (h.off (funext fun i => e5 1 i (by omega) (by omega) (by omega) (by omega))) (hw.off (funext fun i => e5 19 i (by omega) (by omega) (by omega) (by omega))) e3 rfl
      refine ⟨τ2, T, by rw [e1, f1], by omega, f3, f4, fun j j1 j2 => ?_, fun j j1 j2 => ?_, f7, fun c j j1 c1 => ?_⟩
      · by_cases z : j = k
        · rw [z]
          unfold tokC at e2 ⊢
          rw [f8 20 k (by omega) (by omega), f8 21 k (by omega) (by omega), f8 22 k (by omega) (by omega)]
          exact e2
        · exact f5 j (by omega) j2
      · by_cases z : j = k
        · rw [z]
          exact st
        · exact f6 j (by omega) j2
      · rw [f8 c j (by omega) c1]
        exact e5 c j (by omega) (by omega) (by omega) (by omega)
/-- the class's tokens, up to the one at which it stops -/
def SC (g : Nat → Nat) (L T : Nat) (σ : Sg) : Prop := T ≤ 800 ∧ σ 10 7 = nI (T + 1) ∧ (∀ j, j ≤ T → tokC g L j σ) ∧ (∀ j, j < T → ¬ stq g L (ps g L j)) ∧ stq g L (ps g L T)
theorem SC.off {g : Nat → Nat} {L T : Nat} {σ τ : Sg} (h : SC g L T σ) (e7 : τ 10 7 = σ 10 7) (e0 : τ 20 = σ 20) (e1 : τ 21 = σ 21) (e2 : τ 22 = σ 22) : SC g L T τ := by
  unfold SC tokC at h ⊢
  rw [e7, e0, e1, e2]
  exact h
theorem c_scanAll {g : Nat → Nat} {L : Nat} {σ : Sg} (h : TP g L 1 σ) (hw : KW σ) : ∃ τ T, XX4_scanAll (nI L) σ = some τ ∧ SC g L T τ := by
  have hL := h.1
  obtain ⟨τ, T, f1, f2, f3, f4, f5, f6, f7, f8⟩ := c_scan (g := g) (L := L) (L - 0) 0 0 FUEL (up σ 10 7 (nI 0)) (by omega) (by unfold FUEL; omega) (by omega) (by omega) (h.off (up_cell (by omega))) (hw.off (up_cell (by omega))) up_same rfl
  refine ⟨τ, T, ?_, f3, f4, fun j hj => f5 j (by omega) hj, fun j hj => f6 j (by omega) hj, f7⟩
  unfold XX4_scanAll
  rw [lt_def]
  exact f1
