/-! TEXT: the class's tokens -/
theorem en_all {p : Nat → Bool} {g : Nat → Nat} {L : Nat} : ∀ m i, L - i = m → ∀ t, i ≤ t → t < en p g L i → p (g t) = true
  | 0, i, h, t, h1, h2 => by
    rw [en_end (by omega)] at h2
    omega
  | m + 1, i, h, t, h1, h2 => by
    cases q : p (g i) with
    | false =>
      rw [en_no q] at h2
      omega
    | true =>
      by_cases z : t = i
      · rw [z]
        exact q
      · rw [en_go (by omega) q] at h2
        exact en_all m (i + 1) (by omega) t (by omega) h2
def wkI (v : Nat) : Nat → Nat → Nat
  | 0, j => j
  | m + 1, j => if kwL.getD j 0 = v then j else wkI v m (j + 1)
def wk (v : Nat) : Nat := wkI v 13 0
theorem wkI_le {v : Nat} : ∀ m j, j ≤ wkI v m j ∧ wkI v m j ≤ j + m
  | 0, j => ⟨Nat.le_refl _, Nat.le_refl _⟩
  | m + 1, j => by
    have h := wkI_le (v := v) m (j + 1)
    show j ≤ (if kwL.getD j 0 = v then j else wkI v m (j + 1)) ∧ (if kwL.getD j 0 = v then j else wkI v m (j + 1)) ≤ j + (m + 1)
    by_cases q : kwL.getD j 0 = v
    · rw [if_pos q]
      omega
    · rw [if_neg q]
      omega
theorem wkI_get {v : Nat} : ∀ m j, wkI v m j < j + m → kwL.getD (wkI v m j) 0 = v
  | 0, j, h => absurd h (Nat.lt_irrefl _)
  | m + 1, j, h => by
    have e : wkI v (m + 1) j = if kwL.getD j 0 = v then j else wkI v m (j + 1) := rfl
    by_cases q : kwL.getD j 0 = v
    · rw [e, if_pos q]
      exact q
    · rw [e, if_neg q] at h ⊢
      exact wkI_get m (j + 1) (by omega)
theorem wk_le (v : Nat) : wk v ≤ 13 := by
  have := (wkI_le (v := v) 13 0).2
  unfold wk
  omega
theorem kw_wk : ∀ j, j < 13 → wk (kwL.getD j 0) = j := by decide +kernel
theorem kwL_lt : ∀ j, j < 13 → kwL.getD j 0 < 2147483648 := by decide +kernel
theorem wk_iff {v j : Nat} (hj : j < 13) : wk v = j ↔ v = kwL.getD j 0 := by
  constructor
  · intro h
    have h2 := wkI_get (v := v) 13 0 (by
      have : wkI v 13 0 = j := h
      omega)
    have h3 : wkI v 13 0 = j := h
    rw [h3] at h2
    exact h2.symm
  · intro h
    rw [h]
    exact kw_wk j hj
def KW (σ : Sg) : Prop := ∀ j, j < 13 → σ 19 j = nI (kwL.getD j 0)
theorem c_kindI {v : Nat} (hv : v < 2147483648) {σ : Sg} (h : KW σ) : ∀ m j n, j + m = 13 → m < n → LX4_kindOfWord_2 (nI v) σ n (nI j) = some (nI (wkI v m j)) := by
  intro m
  induction m with
  | zero =>
    intro j n hj hn
    obtain ⟨n, rfl⟩ : ∃ q, n = q + 1 := ⟨n - 1, by omega⟩
    have e : j = 13 := by omega
    subst e
    rw [LX4_kindOfWord_2, if_pos (by decide)]
    rfl
  | succ m ih =>
    intro j n hj hn
    obtain ⟨n, rfl⟩ : ∃ q, n = q + 1 := ⟨n - 1, by omega⟩
    have k1 := ih (j + 1) n (by omega) (by omega)
    have kl := kwL_lt j (by omega)
    rw [LX4_kindOfWord_2, show (13 : Int32) = nI 13 from rfl, if_neg (by rw [nI_lei] <;> omega), if_pos ((ib_nI (by omega)).mpr (by omega)), nI_cl (by omega), h j (by omega), lt_def, nI_1, k1]
    show _ = some (nI (if kwL.getD j 0 = v then j else wkI v m (j + 1)))
    by_cases q : kwL.getD j 0 = v
    · rw [if_pos q, if_pos (show nI (kwL.getD j 0) = nI v by rw [q])]
    · rw [if_neg q, if_neg (nI_ne kl hv q)]
theorem c_kind {v : Nat} (hv : v < 2147483648) {σ : Sg} (h : KW σ) : XX4_kindOfWord (nI v) σ = some (nI (wk v)) := by
  unfold XX4_kindOfWord
  exact c_kindI hv h 13 0 FUEL (by omega) (by unfold FUEL; omega)
theorem KW.off {σ τ : Sg} (h : KW σ) (e : τ 19 = σ 19) : KW τ := fun j hj => by
  rw [e]
  exact h j hj
def swK (p1 : Int32) (σ : Sg) (x4_1 : Int32) (x5_2 : Int32) : Option (Int32 × Sg) := if ib (σ 10 7) 801 then lt (up σ 22 (σ 10 7).toNatClampNeg x5_2) (fun (σ_4 : Sg) => lt (fun (s_6 : Int32) => if ib (σ_4 10 7) 801 then lt (up σ_4 20 (σ_4 10 7).toNatClampNeg s_6) (fun (σ_8 : Sg) => some (x4_1, σ_8)) else none) (fun (k78_7 : Int32 → Option (Int32 × Sg)) => if (x4_1 - p1) ≤ (6 : Int32) then (b1 (XX4_kindOfWord x5_2 σ_4) (fun (r_10 : Int32) => k78_7 r_10)) else (k78_7 (17 : Int32)))) else none
theorem scanWord_eq (p1 p2 : Int32) (σ : Sg) : XX4_scanWord p1 p2 σ = LX4_scanWord_6 p2 σ (swK p1 σ) FUEL p1 (0 : Int32) := by
  unfold XX4_scanWord
  rw [lt_def]
  rfl
theorem wc_lt6 {g : Nat → Nat} {L p : Nat} (h : en cL g L p - p ≤ 6) : wc g p (en cL g L p - p) < 1073741825 := by
  have h1 := wc_lt (g := g) (i := p) (en cL g L p - p) (fun t ht => en_all (L - p) p rfl (p + t) (by omega) (by omega))
  have h2 : 32 ^ (en cL g L p - p) ≤ 32 ^ 6 := Nat.pow_le_pow_right (by omega) h
  omega
theorem nv_lt2 {g : Nat → Nat} {L p : Nat} (h : en cD g L p - p ≤ 2) : nv g p (en cD g L p - p) < 100 := by
  have h1 := nv_lt (g := g) (i := p) (en cD g L p - p) (fun t ht => en_all (L - p) p rfl (p + t) (by omega) (by omega))
  have h2 : 10 ^ (en cD g L p - p) ≤ 10 ^ 2 := Nat.pow_le_pow_right (by omega) h
  omega
theorem c_word {g : Nat → Nat} {L p k : Nat} {σ : Sg} (h : TP g L 1 σ) (hk : KW σ) (h7 : σ 10 7 = nI k) (k8 : k ≤ 800) (hp : p < L) : ∃ τ, XX4_scanWord (nI p) (nI L) σ = some (nI (en cL g L p), τ) ∧ τ 20 k = nI (if en cL g L p - p ≤ 6 then wk (wc g p (en cL g L p - p)) else 17) ∧ (en cL g L p - p ≤ 6 → τ 22 k = nI (wc g p (en cL g L p - p))) ∧ (∀ c j, ¬ (c = 20 ∧ j = k) → ¬ (c = 22 ∧ j = k) → τ c j = σ c j) := by
  have hL := h.1
  have ge := en_ge (p := cL) (g := g) (L := L) (L - p) p rfl
  have le := en_le (p := cL) (g := g) (L := L) (L - p) p rfl (by omega)
  obtain ⟨w, k1, k2⟩ := c_wrun h p (swK (nI p) σ) (L - p) p FUEL 0 rfl (by omega) (by unfold FUEL; omega) (Nat.le_refl _) (fun _ => by rw [Nat.sub_self]; rfl) (fun t ht => absurd ht (by omega))
  obtain ⟨σ4, hσ4⟩ : ∃ σ4, σ4 = up σ 22 k w := ⟨_, rfl⟩
  have a7 : σ4 10 7 = nI k := by
    rw [hσ4, up_cell (by omega)]
    exact h7
  have fin : ∀ (s : Int32) (c j : Nat), ¬ (c = 20 ∧ j = k) → ¬ (c = 22 ∧ j = k) → up σ4 20 k s c j = σ c j := fun s c j h1 h2 => by
    rw [hσ4, up_at, if_neg h1, up_at, if_neg h2]
  have i8 : ib (nI k) 801 := (ib_nI (by omega)).mpr (by omega)
  have a22 : ∀ s : Int32, up σ4 20 k s 22 k = w := fun s => by
    rw [up_cell (by omega), hσ4, up_same]
  have hk4 : KW σ4 := hk.off (by rw [hσ4, up_cell (by omega)])
  by_cases y : en cL g L p - p ≤ 6
  · have hw := k2 y
    have wl := wc_lt6 y
    refine ⟨up σ4 20 k (nI (wk (wc g p (en cL g L p - p)))), ?_, by rw [up_same, if_pos y], fun _ => by rw [a22]; exact hw, fin _⟩
    rw [scanWord_eq, k1]
    unfold swK
    rw [h7, if_pos i8, nI_cl (by omega), lt_def, ← hσ4, lt_def, nI_sb ge, show (6 : Int32) = nI 6 from rfl, if_pos ((nI_lei (by omega) (by omega)).mpr y), hw, c_kind (by omega) hk4, b1s, a7]
    show (if ib (nI k) 801 then _ else _) = _
    rw [if_pos i8, nI_cl (by omega), lt_def]
  · refine ⟨up σ4 20 k (nI 17), ?_, by rw [up_same, if_neg y], fun z => absurd z y, fin _⟩
    rw [scanWord_eq, k1]
    unfold swK
    rw [h7, if_pos i8, nI_cl (by omega), lt_def, ← hσ4, lt_def, nI_sb ge, show (6 : Int32) = nI 6 from rfl, if_neg (fun z => y ((nI_lei (by omega) (by omega)).mp z)), a7]
    show (if ib (nI k) 801 then _ else _) = _
    rw [if_pos i8, nI_cl (by omega), lt_def]
    rfl
def snW (σ : Sg) (x4_1 x5_2 s_4 : Int32) : Option (Int32 × Sg) := if ib (σ 10 7) 801 then lt (up σ 22 (σ 10 7).toNatClampNeg x5_2) (fun (σ_6 : Sg) => lt (fun (s_8 : Int32) => if ib (σ_6 10 7) 801 then lt (up σ_6 20 (σ_6 10 7).toNatClampNeg s_8) (fun (σ_10 : Sg) => some (x4_1, σ_10)) else none) (fun (k105_9 : Int32 → Option (Int32 × Sg)) => if s_4 = 0 then (k105_9 (14 : Int32)) else (k105_9 (17 : Int32)))) else none
def snK (p1 p2 : Int32) (σ : Sg) (x4_1 x5_2 : Int32) : Option (Int32 × Sg) := if (2 : Int32) < (x4_1 - p1) then snW σ x4_1 x5_2 (1 : Int32) else if p2 ≤ x4_1 then snW σ x4_1 x5_2 (0 : Int32) else (if ib x4_1 800 then b1 (XX4_isLetter (σ 1 x4_1.toNatClampNeg)) (fun (r_15 : Int32) => if r_15 = 0 then snW σ x4_1 x5_2 (0 : Int32) else snW σ x4_1 x5_2 (1 : Int32)) else none)
theorem scanNumber_eq (p1 p2 : Int32) (σ : Sg) : XX4_scanNumber p1 p2 σ = LX4_scanNumber_6 p2 σ (snK p1 p2 σ) FUEL p1 (0 : Int32) := by
  unfold XX4_scanNumber
  rw [lt_def]
  rfl
theorem snW_ok {k : Nat} {σ : Sg} (h7 : σ 10 7 = nI k) (k8 : k ≤ 800) (x w s : Int32) : snW σ x w s = some (x, up (up σ 22 k w) 20 k (if s = 0 then nI 14 else nI 17)) := by
  have i8 : ib (nI k) 801 := (ib_nI (by omega)).mpr (by omega)
  have a7 : up σ 22 k w 10 7 = nI k := by
    rw [up_cell (by omega)]
    exact h7
  unfold snW
  rw [h7, if_pos i8, nI_cl (by omega), lt_def, lt_def, a7]
  by_cases q : s = 0
  · rw [if_pos q, if_pos q]
    show (if ib (nI k) 801 then _ else _) = _
    rw [if_pos i8, nI_cl (by omega), lt_def]
    rfl
  · rw [if_neg q, if_neg q]
    show (if ib (nI k) 801 then _ else _) = _
    rw [if_pos i8, nI_cl (by omega), lt_def]
    rfl
theorem c_num {g : Nat → Nat} {L p k : Nat} {σ : Sg} (h : TP g L 1 σ) (h7 : σ 10 7 = nI k) (k8 : k ≤ 800) (hp : p < L) : ∃ τ, XX4_scanNumber (nI p) (nI L) σ = some (nI (en cD g L p), τ) ∧ τ 20 k = nI (if en cD g L p - p ≤ 2 ∧ ¬ (en cD g L p < L ∧ cL (g (en cD g L p)) = true) then 14 else 17) ∧ (en cD g L p - p ≤ 2 → τ 22 k = nI (nv g p (en cD g L p - p))) ∧ (∀ c j, ¬ (c = 20 ∧ j = k) → ¬ (c = 22 ∧ j = k) → τ c j = σ c j) := by
  have hL := h.1
  have ge := en_ge (p := cD) (g := g) (L := L) (L - p) p rfl
  have le := en_le (p := cD) (g := g) (L := L) (L - p) p rfl (by omega)
  obtain ⟨w, k1, k2⟩ := c_nrun h p (snK (nI p) (nI L) σ) (L - p) p FUEL 0 rfl (by omega) (by unfold FUEL; omega) (Nat.le_refl _) (fun _ => by rw [Nat.sub_self]; rfl) (fun t ht => absurd ht (by omega))
  have fin : ∀ (s : Int32) (c j : Nat), ¬ (c = 20 ∧ j = k) → ¬ (c = 22 ∧ j = k) → up (up σ 22 k w) 20 k s c j = σ c j := fun s c j h1 h2 => by
    rw [up_at, if_neg h1, up_at, if_neg h2]
  have a22 : ∀ s : Int32, up (up σ 22 k w) 20 k s 22 k = w := fun s => by
    rw [up_cell (by omega), up_same]
  have good : ∀ s v : Nat, (if nI s = 0 then nI 14 else nI 17) = nI v → snK (nI p) (nI L) σ (nI (en cD g L p)) w = snW σ (nI (en cD g L p)) w (nI s) → v = (if en cD g L p - p ≤ 2 ∧ ¬ (en cD g L p < L ∧ cL (g (en cD g L p)) = true) then 14 else 17) → ∃ τ, XX4_scanNumber (nI p) (nI L) σ = some (nI (en cD g L p), τ) ∧ τ 20 k = nI (if en cD g L p - p ≤ 2 ∧ ¬ (en cD g L p < L ∧ cL (g (en cD g L p)) = true) then 14 else 17) ∧ (en cD g L p - p ≤ 2 → τ 22 k = nI (nv g p (en cD g L p - p))) ∧ (∀ c j, ¬ (c = 20 ∧ j = k) → ¬ (c = 22 ∧ j = k) → τ c j = σ c j) := fun s v e1 e2 e3 => by
    refine ⟨up (up σ 22 k w) 20 k (nI v), ?_, ?_, fun z => by rw [a22]; exact k2 z, fin _⟩
    · rw [scanNumber_eq, k1, e2, snW_ok h7 k8, e1]
    · rw [up_same, e3]
  by_cases y : en cD g L p - p ≤ 2
  · have n2 : ¬ (2 : Int32) < nI (en cD g L p) - nI p := by
      rw [nI_sb ge, show (2 : Int32) = nI 2 from rfl, nI_lti (by omega) (by omega)]
      omega
    by_cases z : L ≤ en cD g L p
    · refine good 0 14 rfl ?_ ?_
      · unfold snK
        rw [if_neg n2, if_pos ((nI_lei (by omega) (by omega)).mpr z)]
        rfl
      · rw [if_pos ⟨y, fun x => by omega⟩]
    · have hg := h.2.1 (en cD g L p) (by omega)
      have e0 : snK (nI p) (nI L) σ (nI (en cD g L p)) w = if nI (bq (cL (g (en cD g L p)))) = 0 then snW σ (nI (en cD g L p)) w (0 : Int32) else snW σ (nI (en cD g L p)) w (1 : Int32) := by
        unfold snK
        rw [if_neg n2, if_neg (fun x => z ((nI_lei (by omega) (by omega)).mp x)), if_pos ((ib_nI (by omega)).mpr (by omega)), nI_cl (by omega), h.2.2 _ (by omega), c_isL hg, b1s]
      by_cases q : cL (g (en cD g L p)) = true
      · refine good 1 17 rfl ?_ ?_
        · rw [e0, q, if_neg (by decide)]
          rfl
        · rw [if_neg (fun x => x.2 ⟨by omega, q⟩)]
      · refine good 0 14 rfl ?_ ?_
        · rw [e0, (Bool.not_eq_true _).mp q, if_pos (by decide)]
          rfl
        · rw [if_pos ⟨y, fun x => q x.2⟩]
  · refine good 1 17 rfl ?_ ?_
    · unfold snK
      rw [nI_sb ge, show (2 : Int32) = nI 2 from rfl, if_pos ((nI_lti (by omega) (by omega)).mpr (by omega))]
      rfl
    · rw [if_neg (fun x => y x.1)]
