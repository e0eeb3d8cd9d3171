/-! TEXT: the class's tokens -/
theorem en_all {p : Nat → Bool} {g : Nat → Nat} {L : Nat} : ∀ m i, L - i = m → ∀ t, i ≤ t → t < en p g L i → p (g t) = true
  | 0, i, h, t, h1, h2 => by
    rw [en_end (by omega)] at h2
    omega
  | m + 1, i, h, t, h1, h2 => by
    cases q : p (g i) with
    | false =>
      rw [en_no q] at h2
      omega
    | true =>
      by_cases z : t = i
      · rw [z]
        exact q
      · rw [en_go (by omega) q] at h2
        exact en_all m (i + 1) (by omega) t (by omega) h2
def wkI (v : Nat) : Nat → Nat → Nat
  | 0, j => j
  | m + 1, j => if kwL.getD j 0 = v then j else wkI v m (j + 1)
def wk (v : Nat) : Nat := wkI v 13 0
theorem wkI_le {v : Nat} : ∀ m j, j ≤ wkI v m j ∧ wkI v m j ≤ j + m
  | 0, j => ⟨Nat.le_refl _, Nat.le_refl _⟩
  | m + 1, j => by
    have h := wkI_le (v := v) m (j + 1)
    show j ≤ (if kwL.getD j 0 = v then j else wkI v m (j + 1)) ∧ (if kwL.getD j 0 = v then j else wkI v m (j + 1)) ≤ j + (m + 1)
    by_cases q : kwL.getD j 0 = v
    · rw [if_pos q]
      omega
    · rw [if_neg q]
      omega
theorem wkI_get {v : Nat} : ∀ m j, wkI v m j < j + m → kwL.getD (wkI v m j) 0 = v
  | 0, j, h => absurd h (Nat.lt_irrefl _)
  | m + 1, j, h => by
    have e : wkI v (m + 1) j = if kwL.getD j 0 = v then j else wkI v m (j + 1) := rfl
    by_cases q : kwL.getD j 0 = v
    · rw [e, if_pos q]
      exact q
    · rw [e, if_neg q] at h ⊢
      exact wkI_get m (j + 1) (by omega)
theorem wk_le (v : Nat) : wk v ≤ 13 := by
  have := (wkI_le (v := v) 13 0).2
  unfold wk
  omega
theorem kw_wk : ∀ j, j < 13 → wk (kwL.getD j 0) = j := by decide +kernel
theorem kwL_lt : ∀ j, j < 13 → kwL.getD j 0 < 2147483648 := by decide +kernel
theorem wk_iff {v j : Nat} (hj : j < 13) : wk v = j ↔ v = kwL.getD j 0 := by
  constructor
  · intro h
    have h2 := wkI_get (v := v) 13 0 (by
      have : wkI v 13 0 = j := h
      omega)
    have h3 : wkI v 13 0 = j := h
    rw [h3] at h2
    exact h2.symm
  · intro h
    rw [h]
    exact kw_wk j hj
def KW (σ : Sg) : Prop := ∀ j, j < 13 → σ 19 j = nI (kwL.getD j 0)
theorem c_kindI {v : Nat} (hv : v < 2147483648) {σ : Sg} (h : KW σ) : ∀ m j n, j + m = 13 → m < n → LX4_kindOfWord_2 (nI v) σ n (nI j) = some (nI (wkI v m j)) := by
  intro m
  induction m with
  | zero =>
    intro j n hj hn
    obtain ⟨n, rfl⟩ : ∃ q, n = q + 1 := ⟨n - 1, by omega⟩
    have e : j = 13 := by omega
    subst e
    rw [LX4_kindOfWord_2, if_pos (by decide)]
    rfl
  | succ m ih =>
    intro j n hj hn
    obtain ⟨n, rfl⟩ : ∃ q, n = q + 1 := ⟨n - 1, by omega⟩
    have k1 := ih (j + 1) n (by omega) (by omega)
    have kl := kwL_lt j (by omega)
    rw [LX4_kindOfWord_2, show (13 : Int32) = nI 13 from rfl, if_neg (by rw [nI_lei] <;> omega), if_pos ((ib_nI (by omega)).mpr (by omega)), nI_cl (by omega), h j (by omega), lt_def, nI_1, k1]
    show _ = some (nI (if kwL.getD j 0 = v then j else wkI v m (j + 1)))
    by_cases q : kwL.getD j 0 = v
    · rw [if_pos q, if_pos (show nI (kwL.getD j 0) = nI v by rw [q])]
    · rw [if_neg q, if_neg (nI_ne kl hv q)]
theorem c_kind {v : Nat} (hv : v < 2147483648) {σ : Sg} (h : KW σ) : XX4_kindOfWord (nI v) σ = some (nI (wk v)) := by
  unfold XX4_kindOfWord
  exact c_kindI hv h 13 0 FUEL (by omega) (by unfold FUEL; omega)
theorem KW.off {σ τ : Sg} (h : KW σ) (e : τ 19 = σ 19) : KW τ := fun j hj => by
  rw [e]
  exact h j hj
def swK (p1 : Int32) (σ : Sg) (x4_1 : Int32) (x5_2 : Int32) : Option (Int32 × Sg) := if ib (σ 10 7) 801 then lt (up σ 22 (σ 10 7).toNatClampNeg x5_2) (fun (σ_4 : Sg) => lt (fun (s_6 : Int32) => if ib (σ_4 10 7) 801 then lt (up σ_4 20 (σ_4 10 7).toNatClampNeg s_6) (fun (σ_8 : Sg) => some (x4_1, σ_8)) else none) (fun (k78_7 : Int32 → Option (Int32 × Sg)) => if (x4_1 - p1) ≤ (6 : Int32) then (b1 (XX4_kindOfWord x5_2 σ_4) (fun (r_10 : Int32) => k78_7 r_10)) else (k78_7 (17 : Int32)))) else none
theorem scanWord_eq (p1 p2 : Int32) (σ : Sg) : XX4_scanWord p1 p2 σ = LX4_scanWord_6 p2 σ (swK p1 σ) FUEL p1 (0 : Int32) := rfl
theorem wc_lt6 {g : Nat → Nat} {L p : Nat} (h : en cL g L p - p ≤ 6) : wc g p (en cL g L p - p) < 1073741825 := by
  have h1 := wc_lt (g := g) (i := p) (en cL g L p - p) (fun t ht => en_all (L - p) p rfl (p + t) (by omega) (by omega))
  have h2 : 32 ^ (en cL g L p - p) ≤ 32 ^ 6 := Nat.pow_le_pow_right (by omega) h
  omega
theorem nv_lt2 {g : Nat → Nat} {L p : Nat} (h : en cD g L p - p ≤ 2) : nv g p (en cD g L p - p) < 100 := by
  have h1 := nv_lt (g := g) (i := p) (en cD g L p - p) (fun t ht => en_all (L - p) p rfl (p + t) (by omega) (by omega))
  have h2 : 10 ^ (en cD g L p - p) ≤ 10 ^ 2 := Nat.pow_le_pow_right (by omega) h
  omega
theorem c_word {g : Nat → Nat} {L p k : Nat} {σ : Sg} (h : TP g L 1 σ) (hk : KW σ) (h7 : σ 10 7 = nI k) (k8 : k ≤ 800) (hp : p < L) : ∃ τ, XX4_scanWord (nI p) (nI L) σ = some (nI (en cL g L p), τ) ∧ τ 20 k = nI (if en cL g L p - p ≤ 6 then wk (wc g p (en cL g L p - p)) else 17) ∧ (en cL g L p - p ≤ 6 → τ 22 k = nI (wc g p (en cL g L p - p))) ∧ (∀ c j, ¬ (c = 20 ∧ j = k) → ¬ (c = 22 ∧ j = k) → τ c j = σ c j) := by
  have hL := h.1
  have ge := en_ge (p := cL) (g := g) (L := L) (L - p) p rfl
  have le := en_le (p := cL) (g := g) (L := L) (L - p) p rfl (by omega)
  obtain ⟨w, k1, k2⟩ := c_wrun h p (swK (nI p) σ) (L - p) p FUEL 0 rfl (by omega) (by unfold FUEL; omega) (Nat.le_refl _) (fun _ => by rw [Nat.sub_self]; rfl) (fun t ht => absurd ht (by omega))
  obtain ⟨σ4, hσ4⟩ : ∃ σ4, σ4 = up σ 22 k w := ⟨_, rfl⟩
  have a7 : σ4 10 7 = nI k := by
    rw [hσ4, up_cell (by omega)]
    exact h7
  have fin : ∀ (s : Int32) (c j : Nat), ¬ (c = 20 ∧ j = k) → ¬ (c = 22 ∧ j = k) → up σ4 20 k s c j = σ c j := fun s c j h1 h2 => by
    rw [hσ4, up_at, if_neg h1, up_at, if_neg h2]
  have i8 : ib (nI k) 801 := (ib_nI (by omega)).mpr (by omega)
  have a22 : ∀ s : Int32, up σ4 20 k s 22 k = w := fun s => by
    rw [up_cell (by omega), hσ4, up_same]
  have hk4 : KW σ4 := hk.off (by rw [hσ4, up_cell (by omega)])
  by_cases y : en cL g L p - p ≤ 6
  · have hw := k2 y
    have wl := wc_lt6 y
    refine ⟨up σ4 20 k (nI (wk (wc g p (en cL g L p - p)))), ?_, by rw [up_same, if_pos y], fun _ => by rw [a22]; exact hw, fin _⟩
    rw [scanWord_eq, k1]
    unfold swK
    rw [h7, if_pos i8, nI_cl (by omega), lt_def, ← hσ4, lt_def, nI_sb ge, show (6 : Int32) = nI 6 from rfl, if_pos ((nI_lei (by omega) (by omega)).mpr y), hw, c_kind (by omega) hk4, b1s, a7, if_pos i8, nI_cl (by omega), lt_def]
  · refine ⟨up σ4 20 k (nI 17), ?_, by rw [up_same, if_neg y], fun z => absurd z y, fin _⟩
    rw [scanWord_eq, k1]
    unfold swK
    rw [h7, if_pos i8, nI_cl (by omega), lt_def, ← hσ4, lt_def, nI_sb ge, show (6 : Int32) = nI 6 from rfl, if_neg (fun z => y ((nI_lei (by omega) (by omega)).mp z)), a7, if_pos i8, nI_cl (by omega), lt_def]
    rfl
def snW (σ : Sg) (x4_1 x5_2 s_4 : Int32) : Option (Int32 × Sg) := if ib (σ 10 7) 801 then lt (up σ 22 (σ 10 7).toNatClampNeg x5_2) (fun (σ_6 : Sg) => lt (fun (s_8 : Int32) => if ib (σ_6 10 7) 801 then lt (up σ_6 20 (σ_6 10 7).toNatClampNeg s_8) (fun (σ_10 : Sg) => some (x4_1, σ_10)) else none) (fun (k105_9 : Int32 → Option (Int32 × Sg)) => if s_4 = 0 then (k105_9 (14 : Int32)) else (k105_9 (17 : Int32)))) else none
def snK (p1 p2 : Int32) (σ : Sg) (x4_1 x5_2 : Int32) : Option (Int32 × Sg) := if (2 : Int32) < (x4_1 - p1) then snW σ x4_1 x5_2 (1 : Int32) else if p2 ≤ x4_1 then snW σ x4_1 x5_2 (0 : Int32) else (if ib x4_1 800 then b1 (XX4_isLetter (σ 1 x4_1.toNatClampNeg)) (fun (r_15 : Int32) => if r_15 = 0 then snW σ x4_1 x5_2 (0 : Int32) else snW σ x4_1 x5_2 (1 : Int32)) else none)
theorem scanNumber_eq (p1 p2 : Int32) (σ : Sg) : XX4_scanNumber p1 p2 σ = LX4_scanNumber_6 p2 σ (snK p1 p2 σ) FUEL p1 (0 : Int32) := rfl
theorem snW_ok {k : Nat} {σ : Sg} (h7 : σ 10 7 = nI k) (k8 : k ≤ 800) (x w s : Int32) : snW σ x w s = some (x, up (up σ 22 k w) 20 k (if s = 0 then nI 14 else nI 17)) := by
  have i8 : ib (nI k) 801 := (ib_nI (by omega)).mpr (by omega)
  have a7 : up σ 22 k w 10 7 = nI k := by
    rw [up_cell (by omega)]
    exact h7
  unfold snW
  rw [h7, if_pos i8, nI_cl (by omega), lt_def, lt_def, a7, if_pos i8, nI_cl (by omega), lt_def]
  by_cases q : s = 0
  · rw [if_pos q, if_pos q]
    rfl
  · rw [if_neg q, if_neg q, if_pos i8]
    rfl
theorem c_num {g : Nat → Nat} {L p k : Nat} {σ : Sg} (h : TP g L 1 σ) (h7 : σ 10 7 = nI k) (k8 : k ≤ 800) (hp : p < L) : ∃ τ, XX4_scanNumber (nI p) (nI L) σ = some (nI (en cD g L p), τ) ∧ τ 20 k = nI (if en cD g L p - p ≤ 2 ∧ ¬ (en cD g L p < L ∧ cL (g (en cD g L p)) = true) then 14 else 17) ∧ (en cD g L p - p ≤ 2 → τ 22 k = nI (nv g p (en cD g L p - p))) ∧ (∀ c j, ¬ (c = 20 ∧ j = k) → ¬ (c = 22 ∧ j = k) → τ c j = σ c j) := by
  have hL := h.1
  have ge := en_ge (p := cD) (g := g) (L := L) (L - p) p rfl
  have le := en_le (p := cD) (g := g) (L := L) (L - p) p rfl (by omega)
  obtain ⟨w, k1, k2⟩ := c_nrun h p (snK (nI p) (nI L) σ) (L - p) p FUEL 0 rfl (by omega) (by unfold FUEL; omega) (Nat.le_refl _) (fun _ => by rw [Nat.sub_self]; rfl) (fun t ht => absurd ht (by omega))
  have fin : ∀ (s : Int32) (c j : Nat), ¬ (c = 20 ∧ j = k) → ¬ (c = 22 ∧ j = k) → up (up σ 22 k w) 20 k s c j = σ c j := fun s c j h1 h2 => by
    rw [up_at, if_neg h1, up_at, if_neg h2]
  have a22 : ∀ s : Int32, up (up σ 22 k w) 20 k s 22 k = w := fun s => by
    rw [up_cell (by omega), up_same]
  have good : ∀ s v : Nat, (if nI s = 0 then nI 14 else nI 17) = nI v → snK (nI p) (nI L) σ (nI (en cD g L p)) w = snW σ (nI (en cD g L p)) w (nI s) → v = (if en cD g L p - p ≤ 2 ∧ ¬ (en cD g L p < L ∧ cL (g (en cD g L p)) = true) then 14 else 17) → ∃ τ, XX4_scanNumber (nI p) (nI L) σ = some (nI (en cD g L p), τ) ∧ τ 20 k = nI (if en cD g L p - p ≤ 2 ∧ ¬ (en cD g L p < L ∧ cL (g (en cD g L p)) = true) then 14 else 17) ∧ (en cD g L p - p ≤ 2 → τ 22 k = nI (nv g p (en cD g L p - p))) ∧ (∀ c j, ¬ (c = 20 ∧ j = k) → ¬ (c = 22 ∧ j = k) → τ c j = σ c j) := fun s v e1 e2 e3 => by
    refine ⟨up (up σ 22 k w) 20 k (nI v), ?_, ?_, fun z => by rw [a22]; exact k2 z, fin _⟩
    · rw [scanNumber_eq, k1, e2, snW_ok h7 k8, e1]
    · rw [up_same, e3]
  by_cases y : en cD g L p - p ≤ 2
  · have n2 : ¬ (2 : Int32) < nI (en cD g L p) - nI p := by
      rw [nI_sb ge, show (2 : Int32) = nI 2 from rfl, nI_lti (by omega) (by omega)]
      omega
    by_cases z : L ≤ en cD g L p
    · refine good 0 14 rfl ?_ ?_
      · unfold snK
        rw [if_neg n2, if_pos ((nI_lei (by omega) (by omega)).mpr z)]
        rfl
      · rw [if_pos ⟨y, fun x => by omega⟩]
    · have hg := h.2.1 (en cD g L p) (by omega)
      have e0 : snK (nI p) (nI L) σ (nI (en cD g L p)) w = if nI (bq (cL (g (en cD g L p)))) = 0 then snW σ (nI (en cD g L p)) w (0 : Int32) else snW σ (nI (en cD g L p)) w (1 : Int32) := by
        unfold snK
        rw [if_neg n2, if_neg (fun x => z ((nI_lei (by omega) (by omega)).mp x)), if_pos ((ib_nI (by omega)).mpr (by omega)), nI_cl (by omega), h.2.2 _ (by omega), c_isL hg, b1s]
      cases q : cL (g (en cD g L p)) with
      | false =>
        refine good 0 14 rfl ?_ ?_
        · rw [e0, q, if_pos (by decide)]
          rfl
        · rw [if_pos ⟨y, fun x => by rw [q] at x; exact absurd x.2 (by decide)⟩]
      | true =>
        refine good 1 17 rfl ?_ ?_
        · rw [e0, q, if_neg (by decide)]
          rfl
        · rw [if_neg (fun x => x.2 ⟨by omega, q⟩)]
  · refine good 1 17 rfl ?_ ?_
    · unfold snK
      rw [nI_sb ge, show (2 : Int32) = nI 2 from rfl, if_pos ((nI_lti (by omega) (by omega)).mpr (by omega))]
      rfl
    · rw [if_neg (fun x => y x.1)]
/-! TEXT: the class's scan of the whole tape -/
/-- the class's kind of the token at a place -/
def ck (g : Nat → Nat) (L p : Nat) : Nat := if tkK g L p = 0 then 16 else if tkK g L p = 1 then wk (tkV g L p) else if tkK g L p = 2 then 14 else if tkK g L p = 3 then 15 else 17
def ps (g : Nat → Nat) (L : Nat) : Nat → Nat
  | 0 => en cB g L 0
  | k + 1 => en cB g L (tkB g L (ps g L k))
abbrev stp (g : Nat → Nat) (L p : Nat) : Prop := tkK g L p = 0 ∨ tkK g L p = 4
theorem tkK_le (g : Nat → Nat) (L p : Nat) : tkK g L p ≤ 4 := by
  unfold tkK
  split
  · omega
  · split
    · split <;> omega
    · split
      · split <;> omega
      · split <;> omega
theorem ck_0 {g : Nat → Nat} {L p : Nat} : ck g L p = 16 ↔ tkK g L p = 0 := by
  have h := tkK_le g L p
  have w := wk_le (tkV g L p)
  unfold ck
  split
  · omega
  · split
    · omega
    · split
      · omega
      · split <;> omega
theorem ck_1 {g : Nat → Nat} {L p : Nat} : ck g L p ≤ 13 ↔ tkK g L p = 1 := by
  have h := tkK_le g L p
  have w := wk_le (tkV g L p)
  unfold ck
  split
  · omega
  · split
    · omega
    · split
      · omega
      · split <;> omega
theorem ck_2 {g : Nat → Nat} {L p : Nat} : ck g L p = 14 ↔ tkK g L p = 2 := by
  have h := tkK_le g L p
  have w := wk_le (tkV g L p)
  unfold ck
  split
  · omega
  · split
    · omega
    · split
      · omega
      · split <;> omega
theorem ck_3 {g : Nat → Nat} {L p : Nat} : ck g L p = 15 ↔ tkK g L p = 3 := by
  have h := tkK_le g L p
  have w := wk_le (tkV g L p)
  unfold ck
  split
  · omega
  · split
    · omega
    · split
      · omega
      · split <;> omega
theorem ck_4 {g : Nat → Nat} {L p : Nat} : ck g L p = 17 ↔ tkK g L p = 4 := by
  have h := tkK_le g L p
  have w := wk_le (tkV g L p)
  unfold ck
  split
  · omega
  · split
    · omega
    · split
      · omega
      · split <;> omega
theorem ck_le (g : Nat → Nat) (L p : Nat) : ck g L p ≤ 17 := by
  have w := wk_le (tkV g L p)
  unfold ck
  split
  · omega
  · split
    · omega
    · split
      · omega
      · split <;> omega
theorem ck_w {g : Nat → Nat} {L p : Nat} (h : tkK g L p = 1) : ck g L p = wk (tkV g L p) := by
  unfold ck
  rw [if_neg (by omega), if_pos h]
theorem tkV_lt {g : Nat → Nat} {L p : Nat} (h : tkK g L p = 1 ∨ tkK g L p = 2) : tkV g L p < 1073741825 := by
  unfold tkK at h
  unfold tkV
  by_cases q : L ≤ p
  · rw [if_pos q] at h
    omega
  rw [if_neg q] at h
  by_cases c1 : cL (g p) = true
  · rw [if_pos c1] at h ⊢
    by_cases y : en cL g L p - p ≤ 6
    · exact wc_lt6 y
    · rw [if_neg y] at h
      omega
  rw [if_neg c1] at h ⊢
  by_cases c2 : cD (g p) = true
  · rw [if_pos c2] at h
    by_cases y : en cD g L p - p ≤ 2 ∧ ¬ (en cD g L p < L ∧ cL (g (en cD g L p)) = true)
    · have := nv_lt2 y.1
      omega
    · rw [if_neg y] at h
      omega
  · rw [if_neg c2] at h
    by_cases y : g p = 59
    · rw [if_pos y] at h
      omega
    · rw [if_neg y] at h
      omega
theorem tkB_gt {g : Nat → Nat} {L p : Nat} (hp : p < L) : p < tkB g L p ∧ tkB g L p ≤ L := by
  unfold tkB
  rw [if_neg (by omega)]
  by_cases c1 : cL (g p) = true
  · rw [if_pos c1, en_go hp c1]
    have h1 := en_ge (p := cL) (g := g) (L := L) (L - (p + 1)) (p + 1) rfl
    have h2 := en_le (p := cL) (g := g) (L := L) (L - (p + 1)) (p + 1) rfl (by omega)
    omega
  rw [if_neg c1]
  by_cases c2 : cD (g p) = true
  · rw [if_pos c2, en_go hp c2]
    have h1 := en_ge (p := cD) (g := g) (L := L) (L - (p + 1)) (p + 1) rfl
    have h2 := en_le (p := cD) (g := g) (L := L) (L - (p + 1)) (p + 1) rfl (by omega)
    omega
  rw [if_neg c2]
  omega
theorem nst_lt {g : Nat → Nat} {L p : Nat} (h : ¬ stp g L p) : p < L := by
  by_cases q : L ≤ p
  · exfalso
    apply h
    unfold tkK
    rw [if_pos q]
    exact Or.inl rfl
  · omega
def scM (p1 : Int32) (k150_11 : Int32 → Sg → Option Sg) (x3_5 : Int32) (σ_7 : Sg) : Option Sg := if x3_5 < p1 then (if ib x3_5 800 then if (σ_7 1 x3_5.toNatClampNeg) = (59 : Int32) then (if ib (σ_7 10 7) 801 then lt (up σ_7 20 (σ_7 10 7).toNatClampNeg (15 : Int32)) (fun (σ_24 : Sg) => lt (x3_5 + (1 : Int32)) (fun (x3_26 : Int32) => k150_11 x3_26 σ_24)) else none) else (b1 (XX4_isLetter (σ_7 1 x3_5.toNatClampNeg)) (fun (r_16 : Int32) => if r_16 = 0 then (b1 (XX4_isDigit (σ_7 1 x3_5.toNatClampNeg)) (fun (r_17 : Int32) => if r_17 = 0 then (if ib (σ_7 10 7) 801 then lt (up σ_7 20 (σ_7 10 7).toNatClampNeg (17 : Int32)) (fun (σ_18 : Sg) => k150_11 x3_5 σ_18) else none) else (b2 (XX4_scanNumber x3_5 p1 σ_7) (fun (r_20 : Int32) (σ_21 : Sg) => k150_11 r_20 σ_21)))) else (b2 (XX4_scanWord x3_5 p1 σ_7) (fun (r_22 : Int32) (σ_23 : Sg) => k150_11 r_22 σ_23)))) else none) else (if ib (σ_7 10 7) 801 then lt (up σ_7 20 (σ_7 10 7).toNatClampNeg (16 : Int32)) (fun (σ_27 : Sg) => k150_11 x3_5 σ_27) else none)
def scK (p1 : Int32) (n : Nat) (x4_3 : Int32) (x3_9 : Int32) (σ_10 : Sg) : Option Sg := lt (up σ_10 10 7 ((σ_10 10 7) + (1 : Int32))) (fun (σ_12 : Sg) => if ib ((σ_12 10 7) - (1 : Int32)) 801 then if (σ_12 20 ((σ_12 10 7) - (1 : Int32)).toNatClampNeg) = (16 : Int32) then (some σ_12) else (if (σ_12 20 ((σ_12 10 7) - (1 : Int32)).toNatClampNeg) = (17 : Int32) then (some σ_12) else (lt (x4_3 + (1 : Int32)) (fun (x4_14 : Int32) => LX4_scanAll_10 p1 n x3_9 x4_14 σ_12))) else none)
def scB (p1 : Int32) (n : Nat) (x4_3 : Int32) (σ_4 : Sg) (x3_5 : Int32) : Option Sg := if ib (σ_4 10 7) 801 then scM p1 (scK p1 n x4_3) x3_5 (up σ_4 21 (σ_4 10 7).toNatClampNeg x3_5) else none
theorem scan_eq (p1 : Int32) (n : Nat) (x3 x4 : Int32) (σ : Sg) : LX4_scanAll_10 p1 (n + 1) x3 x4 σ = if (800 : Int32) < x4 then (some σ) else LX4_scanAll_18 p1 σ (scB p1 n x4 σ) FUEL x3 := by
  rw [LX4_scanAll_10]
  rfl
theorem scM_ok {g : Nat → Nat} {L p k : Nat} {σ : Sg} (h : TP g L 1 σ) (hk : KW σ) (h7 : σ 10 7 = nI k) (k8 : k ≤ 800) (hp : p ≤ L) (K : Int32 → Sg → Option Sg) : ∃ τ x, scM (nI L) K (nI p) σ = K x τ ∧ τ 20 k = nI (ck g L p) ∧ (tkK g L p = 1 ∨ tkK g L p = 2 → τ 22 k = nI (tkV g L p)) ∧ (¬ stp g L p → x = nI (tkB g L p)) ∧ (∀ c j, ¬ (c = 20 ∧ j = k) → ¬ (c = 22 ∧ j = k) → τ c j = σ c j) := by
  have hL := h.1
  have i8 : ib (nI k) 801 := (ib_nI (by omega)).mpr (by omega)
  have one : ∀ (s : Int32) (c j : Nat), ¬ (c = 20 ∧ j = k) → ¬ (c = 22 ∧ j = k) → up σ 20 k s c j = σ c j := fun s c j h1 h2 => by
    rw [up_at, if_neg h1]
  unfold scM
  rw [h7, nI_cl (show k < 2147483648 by omega)]
  by_cases q : L ≤ p
  · have hK : tkK g L p = 0 := by
      unfold tkK
      rw [if_pos q]
    refine ⟨up σ 20 k (nI 16), nI p, ?_, by rw [up_same, ck_0.mpr hK], fun z => by omega, fun z => absurd (Or.inl hK) z, one _⟩
    rw [if_neg (show ¬ nI p < nI L by rw [nI_lti (by omega) (by omega)]; omega), if_pos i8, lt_def]
    rfl
  have hg := h.2.1 p (by omega)
  rw [if_pos (show nI p < nI L from (nI_lti (by omega) (by omega)).mpr (by omega)), if_pos (show ib (nI p) 800 from (ib_nI (by omega)).mpr (by omega)), nI_cl (show p < 2147483648 by omega), h.2.2 p (by omega)]
  by_cases z : g p = 59
  · have c1 : ¬ cL (g p) = true := by
      rw [z]
      decide
    have c2 : ¬ cD (g p) = true := by
      rw [z]
      decide
    have hK : tkK g L p = 3 := by
      unfold tkK
      rw [if_neg q, if_neg c1, if_neg c2, if_pos z]
    refine ⟨up σ 20 k (nI 15), nI (p + 1), ?_, by rw [up_same, ck_3.mpr hK], fun z => by omega, fun _ => ?_, one _⟩
    · rw [if_pos (show nI (g p) = 59 by rw [z]; rfl), if_pos i8, lt_def, lt_def, nI_1]
      rfl
    · unfold tkB
      rw [if_neg q, if_neg c1, if_neg c2]
  rw [if_neg (show ¬ nI (g p) = 59 from nI_ne (b := 59) (by omega) (by omega) z), c_isL hg, b1s]
  cases c1 : cL (g p) with
  | true =>
    rw [if_neg (show ¬ nI (bq true) = 0 by decide)]
    obtain ⟨τ, a1, a2, a3, a4⟩ := c_word h hk h7 k8 (p := p) (by omega)
    rw [a1, b2s]
    refine ⟨τ, _, rfl, ?_, fun y => ?_, fun y => ?_, a4⟩
    · rw [a2]
      unfold ck tkK tkV
      rw [if_neg q, if_pos c1, if_pos c1]
      by_cases y : en cL g L p - p ≤ 6
      · rw [if_pos y, if_pos y, if_neg (by decide), if_pos rfl]
      · rw [if_neg y, if_neg y, if_neg (by decide), if_neg (by decide), if_neg (by decide), if_neg (by decide)]
    · unfold tkV
      rw [if_pos c1]
      refine a3 ?_
      unfold tkK at y
      rw [if_neg q, if_pos c1] at y
      by_cases w : en cL g L p - p ≤ 6
      · exact w
      · rw [if_neg w] at y
        omega
    · unfold tkB
      rw [if_neg q, if_pos c1]
  | false =>
    have c1' : ¬ cL (g p) = true := by
      rw [c1]
      decide
    rw [if_pos (show nI (bq false) = 0 by decide), c_isD hg, b1s]
    cases c2 : cD (g p) with
    | true =>
      rw [if_neg (show ¬ nI (bq true) = 0 by decide)]
      obtain ⟨τ, a1, a2, a3, a4⟩ := c_num h h7 k8 (p := p) (by omega)
      rw [a1, b2s]
      refine ⟨τ, _, rfl, ?_, fun y => ?_, fun y => ?_, a4⟩
      · rw [a2]
        unfold ck tkK
        rw [if_neg q, if_neg c1', if_pos c2]
        by_cases y : en cD g L p - p ≤ 2 ∧ ¬ (en cD g L p < L ∧ cL (g (en cD g L p)) = true)
        · rw [if_pos y, if_pos y, if_neg (by decide), if_neg (by decide), if_pos rfl]
        · rw [if_neg y, if_neg y, if_neg (by decide), if_neg (by decide), if_neg (by decide), if_neg (by decide)]
      · unfold tkV
        rw [if_neg c1']
        refine a3 ?_
        unfold tkK at y
        rw [if_neg q, if_neg c1', if_pos c2] at y
        by_cases w : en cD g L p - p ≤ 2 ∧ ¬ (en cD g L p < L ∧ cL (g (en cD g L p)) = true)
        · exact w.1
        · rw [if_neg w] at y
          omega
      · unfold tkB
        rw [if_neg q, if_neg c1', if_pos c2]
    | false =>
      have c2' : ¬ cD (g p) = true := by
        rw [c2]
        decide
      have hK : tkK g L p = 4 := by
        unfold tkK
        rw [if_neg q, if_neg c1', if_neg c2', if_neg z]
      rw [if_pos (show nI (bq false) = 0 by decide), if_pos i8, lt_def]
      exact ⟨up σ 20 k (nI 17), nI p, rfl, by rw [up_same, ck_4.mpr hK], fun z => by omega, fun z => absurd (Or.inr hK) z, one _⟩
def tokC (g : Nat → Nat) (L j : Nat) (σ : Sg) : Prop := σ 20 j = nI (ck g L (ps g L j)) ∧ σ 21 j = nI (ps g L j) ∧ (tkK g L (ps g L j) = 1 ∨ tkK g L (ps g L j) = 2 → σ 22 j = nI (tkV g L (ps g L j)))
theorem c_scan1 {g : Nat → Nat} {L b k n : Nat} {σ : Sg} (h : TP g L 1 σ) (hk : KW σ) (h7 : σ 10 7 = nI k) (hb : b ≤ L) (k8 : k ≤ b) (hp : ps g L k = en cB g L b) : ∃ τ x, LX4_scanAll_10 (nI L) (n + 1) (nI b) (nI k) σ = (if stp g L (ps g L k) then some τ else LX4_scanAll_10 (nI L) n x (nI (k + 1)) τ) ∧ tokC g L k τ ∧ τ 10 7 = nI (k + 1) ∧ (¬ stp g L (ps g L k) → x = nI (tkB g L (ps g L k))) ∧ (∀ c j, ¬ (c = 10 ∧ j = 7) → ¬ (c = 20 ∧ j = k) → ¬ (c = 21 ∧ j = k) → ¬ (c = 22 ∧ j = k) → τ c j = σ c j) := by
  have hL := h.1
  have i8 : ib (nI k) 801 := (ib_nI (by omega)).mpr (by omega)
  have ple : ps g L k ≤ L := by
    rw [hp]
    exact en_le (L - b) b rfl hb
  obtain ⟨p, hpp⟩ : ∃ p, p = ps g L k := ⟨_, rfl⟩
  rw [← hpp] at ple hp
  obtain ⟨σ7, hσ7⟩ : ∃ σ7, σ7 = up σ 21 k (nI p) := ⟨_, rfl⟩
  have t7 : TP g L 1 σ7 := h.off (by rw [hσ7, up_cell (by omega)])
  have a7 : σ7 10 7 = nI k := by
    rw [hσ7, up_cell (by omega)]
    exact h7
  obtain ⟨τ0, x, e1, e2, e3, e4, e5⟩ := scM_ok t7 (hk.off (by rw [hσ7, up_cell (by omega)])) a7 (by omega) ple (scK (nI L) n (nI k))
  have b7 : τ0 10 7 = nI k := by
    rw [e5 10 7 (by omega) (by omega)]
    exact a7
  have kk : (nI (k + 1) - (1 : Int32)) = nI k := by
    rw [show (1 : Int32) = nI 1 from rfl, nI_sb (by omega), show k + 1 - 1 = k by omega]
  obtain ⟨τ, hτ⟩ : ∃ τ, τ = up τ0 10 7 (nI (k + 1)) := ⟨_, rfl⟩
  have d7 : τ 10 7 = nI (k + 1) := by
    rw [hτ, up_same]
  have d20 : τ 20 k = nI (ck g L p) := by
    rw [hτ, up_cell (by omega)]
    exact e2
  refine ⟨τ, x, ?_, ?_, d7, ?_, ?_⟩
  · have cl := ck_le g L p
    rw [scan_eq, if_neg (show ¬ (800 : Int32) < nI k by rw [show (800 : Int32) = nI 800 from rfl, nI_lti (by omega) (by omega)]; omega), c_brun h (scB (nI L) n (nI k) σ) (L - b) b FUEL rfl hb (by unfold FUEL; omega), ← hp]
    unfold scB
    rw [h7, if_pos i8, nI_cl (by omega), ← hσ7, e1]
    unfold scK
    rw [b7, nI_1, ← hτ, lt_def, d7, kk, if_pos i8, nI_cl (by omega), d20, ← hpp, lt_def, nI_1]
    by_cases s0 : tkK g L p = 0
    · rw [if_pos (show nI (ck g L p) = 16 by rw [ck_0.mpr s0]; rfl), if_pos (Or.inl s0)]
    rw [if_neg (show ¬ nI (ck g L p) = 16 from nI_ne (b := 16) (by omega) (by omega) (fun z => s0 (ck_0.mp z)))]
    by_cases s4 : tkK g L p = 4
    · rw [if_pos (show nI (ck g L p) = 17 by rw [ck_4.mpr s4]; rfl), if_pos (Or.inr s4)]
    · rw [if_neg (show ¬ nI (ck g L p) = 17 from nI_ne (b := 17) (by omega) (by omega) (fun z => s4 (ck_4.mp z))), if_neg (fun z => z.elim s0 s4)]
  · unfold tokC
    rw [← hpp]
    refine ⟨d20, ?_, fun z => ?_⟩
    · rw [hτ, up_cell (by omega), e5 21 k (by omega) (by omega), hσ7, up_same]
    · rw [hτ, up_cell (by omega)]
      exact e3 z
  · rw [← hpp]
    exact e4
  · intro c j n1 n2 n3 n4
    rw [hτ, up_at, if_neg n1, e5 c j n2 n4, hσ7, up_at, if_neg n3]
theorem c_scan {g : Nat → Nat} {L : Nat} : ∀ m b k n σ, L - b ≤ m → m < n → b ≤ L → k ≤ b → TP g L 1 σ → KW σ → σ 10 7 = nI k → ps g L k = en cB g L b → ∃ τ T, LX4_scanAll_10 (nI L) n (nI b) (nI k) σ = some τ ∧ k ≤ T ∧ T ≤ 800 ∧ τ 10 7 = nI (T + 1) ∧ (∀ j, k ≤ j → j ≤ T → tokC g L j τ) ∧ (∀ j, k ≤ j → j < T → ¬ stp g L (ps g L j)) ∧ stp g L (ps g L T) ∧ (∀ c j, j < k → c ≠ 10 → τ c j = σ c j) := by
  intro m
  induction m with
  | zero =>
    intro b k n σ hm hn hb hk h hw h7 hp
    have hL := h.1
    obtain ⟨n, rfl⟩ : ∃ q, n = q + 1 := ⟨n - 1, by omega⟩
    obtain ⟨τ, x, e1, e2, e3, e4, e5⟩ := c_scan1 (n := n) h hw h7 hb hk hp
    have st : stp g L (ps g L k) := by
      refine Or.inl ?_
      unfold tkK
      rw [if_pos (by rw [hp]; exact Nat.le_trans (by omega) (en_ge (L - b) b rfl))]
    rw [if_pos st] at e1
    refine ⟨τ, k, e1, Nat.le_refl _, by omega, e3, fun j j1 j2 => ?_, fun j j1 j2 => absurd j1 (by omega), st, fun c j j1 c1 => e5 c j (by omega) (by omega) (by omega) (by omega)⟩
    rw [show j = k by omega]
    exact e2
  | succ m ih =>
    intro b k n σ hm hn hb hk h hw h7 hp
    have hL := h.1
    obtain ⟨n, rfl⟩ : ∃ q, n = q + 1 := ⟨n - 1, by omega⟩
    obtain ⟨τ, x, e1, e2, e3, e4, e5⟩ := c_scan1 (n := n) h hw h7 hb hk hp
    by_cases st : stp g L (ps g L k)
    · rw [if_pos st] at e1
      refine ⟨τ, k, e1, Nat.le_refl _, by omega, e3, fun j j1 j2 => ?_, fun j j1 j2 => absurd j1 (by omega), st, fun c j j1 c1 => e5 c j (by omega) (by omega) (by omega) (by omega)⟩
      rw [show j = k by omega]
      exact e2
    · rw [if_neg st, e4 st] at e1
      have pl := nst_lt st
      have tb := tkB_gt pl
      have pg : b ≤ ps g L k := by
        rw [hp]
        exact en_ge (L - b) b rfl
      obtain ⟨τ2, T, f1, f2, f3, f4, f5, f6, f7, f8⟩ := ih (tkB g L (ps g L k)) (k + 1) n τ (by omega) (by omega) tb.2 (by omega) (h.off (funext fun i => e5 1 i (by omega) (by omega) (by omega) (by omega))) (hw.off (funext fun i => e5 19 i (by omega) (by omega) (by omega) (by omega))) e3 rfl
      refine ⟨τ2, T, by rw [e1, f1], by omega, f3, f4, fun j j1 j2 => ?_, fun j j1 j2 => ?_, f7, fun c j j1 c1 => ?_⟩
      · by_cases z : j = k
        · rw [z]
          unfold tokC at e2 ⊢
          rw [f8 20 k (by omega) (by omega), f8 21 k (by omega) (by omega), f8 22 k (by omega) (by omega)]
          exact e2
        · exact f5 j (by omega) j2
      · by_cases z : j = k
        · rw [z]
          exact st
        · exact f6 j (by omega) j2
      · rw [f8 c j (by omega) c1]
        exact e5 c j (by omega) (by omega) (by omega) (by omega)
/-- the class's tokens, up to the one at which it stops -/
def SC (g : Nat → Nat) (L T : Nat) (σ : Sg) : Prop := T ≤ 800 ∧ σ 10 7 = nI (T + 1) ∧ (∀ j, j ≤ T → tokC g L j σ) ∧ (∀ j, j < T → ¬ stp g L (ps g L j)) ∧ stp g L (ps g L T)
theorem SC.off {g : Nat → Nat} {L T : Nat} {σ τ : Sg} (h : SC g L T σ) (e7 : τ 10 7 = σ 10 7) (e0 : τ 20 = σ 20) (e1 : τ 21 = σ 21) (e2 : τ 22 = σ 22) : SC g L T τ := by
  unfold SC tokC at h ⊢
  rw [e7, e0, e1, e2]
  exact h
theorem c_scanAll {g : Nat → Nat} {L : Nat} {σ : Sg} (h : TP g L 1 σ) (hw : KW σ) : ∃ τ T, XX4_scanAll (nI L) σ = some τ ∧ SC g L T τ := by
  have hL := h.1
  obtain ⟨τ, T, f1, f2, f3, f4, f5, f6, f7, f8⟩ := c_scan (g := g) (L := L) (L - 0) 0 0 FUEL (up σ 10 7 (nI 0)) (by omega) (by unfold FUEL; omega) (by omega) (by omega) (h.off (up_cell (by omega))) (hw.off (up_cell (by omega))) up_same rfl
  refine ⟨τ, T, ?_, f3, f4, fun j hj => f5 j (by omega) hj, fun j hj => f6 j (by omega) hj, f7⟩
  unfold XX4_scanAll
  rw [lt_def]
  exact f1
/-! TEXT: both sides' drafts, token by token -/
def CD (D : Vw) (σ : Sg) : Prop := TC D (fun k => σ (k + 9)) ∧ (∀ s, s < D 0 8 → σ 23 s = nI (D 14 s)) ∧ σ 10 12 = nI (D 15 0)
def MD (D : Vw) (σ : Sg) : Prop := (∀ i, i < 10 → σ 65 (10 + i) = nI (D 0 i)) ∧ (∀ s, s < D 0 8 → σ 66 (6 + s) = nI (D 1 s) ∧ σ 67 (6 + s) = nI (D 2 s) ∧ σ 68 (6 + s) = nI (D 3 s) ∧ σ 69 (6 + s) = nI (D 4 s))
  ∧ (∀ s, s < D 0 8 → ∃ n, 1 ≤ n ∧ n ≤ 7 ∧ σ 70 (6 + s) = nI n ∧ ∀ d, d < D 0 0 → σ 71 (42 + 7 * s + d % n) = nI (D 6 (14 * s + d)))
  ∧ (∀ k, k < D 0 9 → ∃ s d, s < D 0 8 ∧ d < D 0 0 ∧ D 7 k = 14 * s + d ∧ σ 72 (12 + k) = nI s ∧ σ 73 (12 + k) = nI d ∧ σ 74 (12 + k) = nI (D 8 k))
  ∧ (∀ s, s < D 0 8 → σ 75 s = nI (D 14 s)) ∧ σ 64 12 = nI (D 15 1)
/-- what the reference's reading leaves as it was -/
def lvd (c i : Nat) : Prop := (c = 64 ∧ (i = 14 ∨ i = 39)) ∨ (c = 65 ∧ i < 10) ∨ (66 ≤ c ∧ c ≤ 70 ∧ i < 6) ∨ (c = 71 ∧ i < 42) ∨ (72 ≤ c ∧ c ≤ 74 ∧ i < 12) ∨ 76 ≤ c
def Lv (σ0 σ : Sg) : Prop := ∀ c i, lvd c i → σ c i = σ0 c i
theorem Lv.up {σ0 σ : Sg} {c i : Nat} {v : Int32} (h : Lv σ0 σ) (n : ¬ lvd c i) : Lv σ0 (up σ c i v) := fun c' i' h' => by
  rw [up_at, if_neg (fun z => n (by rw [← z.1, ← z.2]; exact h'))]
  exact h c' i' h'
abbrev mF : List (Nat × Option Nat) := [(64, some 12), (64, some 16), (64, some 17), (64, some 18), (64, some 19), (64, some 22), (64, some 23)]
abbrev mG : List (Nat × Option Nat) := [(64, some 16), (64, some 17), (64, some 18), (64, some 19), (64, some 22), (64, some 23)]
abbrev cF : List (Nat × Option Nat) := [(10, some 1), (10, some 2), (10, some 8), (10, some 9), (10, some 10), (10, some 11)]
theorem Lv.fr {σ0 σ τ : Sg} (h : Lv σ0 σ) (hf : fr mF σ τ) : Lv σ0 τ := fun c i h' => by
  rw [hf c i (fun q => by simp at q) (fun q => by
    unfold lvd at h'
    simp at q
    omega)]
  exact h c i h'
theorem MD.fr {D : Vw} {σ τ : Sg} (h : MD D σ) (hf : fr mG σ τ) : MD D τ := by
  unfold MD at h ⊢
  rw [hf.cell (k := 65) rfl, hf.cell (k := 66) rfl, hf.cell (k := 67) rfl, hf.cell (k := 68) rfl, hf.cell (k := 69) rfl, hf.cell (k := 70) rfl, hf.cell (k := 71) rfl, hf.cell (k := 72) rfl, hf.cell (k := 73) rfl, hf.cell (k := 74) rfl, hf.cell (k := 75) rfl, hf.slot (k := 64) (i := 12) rfl]
  exact h
theorem CD.fr {D : Vw} {σ τ : Sg} (h : CD D σ) (hf : fr cF σ τ) : CD D τ := by
  obtain ⟨h1, h2, h3⟩ := h
  refine ⟨h1.off (fun k k1 k2 => funext fun i => hf (k + 9) i (fun q => by simp at q) (fun q => by
    simp at q
    omega)), ?_, ?_⟩
  · rw [hf.cell (k := 23) rfl]
    exact h2
  · rw [hf.slot (k := 10) (i := 12) rfl]
    exact h3
theorem SC.fr {g : Nat → Nat} {L T : Nat} {σ τ : Sg} (h : SC g L T σ) (hf : fr cF σ τ) : SC g L T τ := h.off (hf.slot (k := 10) (i := 7) rfl) (hf.cell (k := 20) rfl) (hf.cell (k := 21) rfl) (hf.cell (k := 22) rfl)
/-- the class ahead of token k; the class at token k; the reference at token k -/
def CS (g : Nat → Nat) (L T : Nat) (D : Vw) (k : Nat) (σ : Sg) : Prop := SC g L T σ ∧ CD D σ ∧ k ≤ T ∧ σ 10 8 = nI k ∧ σ 10 1 = 0 ∧ σ 10 2 = -1
def CT (g : Nat → Nat) (L T : Nat) (D : Vw) (k : Nat) (σ : Sg) : Prop := SC g L T σ ∧ CD D σ ∧ k ≤ T ∧ σ 10 8 = nI (k + 1) ∧ σ 10 1 = 0 ∧ σ 10 2 = -1 ∧ σ 10 9 = nI (ck g L (ps g L k)) ∧ σ 10 10 = nI (ps g L k) ∧ (tkK g L (ps g L k) = 1 ∨ tkK g L (ps g L k) = 2 → σ 10 11 = nI (tkV g L (ps g L k)))
def MS (g : Nat → Nat) (L : Nat) (σ0 : Sg) (D : Vw) (k : Nat) (σ : Sg) : Prop := TP g L 76 σ ∧ σ 64 15 = nI L ∧ σ 64 22 = 0 ∧ TKs g L (ps g L k) σ ∧ MD D σ ∧ Lv σ0 σ
theorem CT.go {g : Nat → Nat} {L T : Nat} {D : Vw} {k : Nat} {σ : Sg} (h : CT g L T D k σ) (n : ¬ stp g L (ps g L k)) : CS g L T D (k + 1) σ := by
  obtain ⟨h1, h2, h3, h4, h5, h6, -⟩ := h
  refine ⟨h1, h2, ?_, h4, h5, h6⟩
  by_cases q : k = T
  · rw [q] at n
    exact absurd h1.2.2.2.2 n
  · omega
theorem ps_le (g : Nat → Nat) (L : Nat) : ∀ k, ps g L k ≤ L
  | 0 => en_le (L - 0) 0 rfl (by omega)
  | k + 1 => by
    have h := ps_le g L k
    refine en_le (L - tkB g L (ps g L k)) _ rfl ?_
    by_cases q : ps g L k < L
    · exact (tkB_gt q).2
    · unfold tkB
      rw [if_pos (by omega)]
      exact h
theorem tkB_le {g : Nat → Nat} {L p : Nat} (h : p ≤ L) : tkB g L p ≤ L := by
  by_cases q : p < L
  · exact (tkB_gt q).2
  · unfold tkB
    rw [if_pos (by omega)]
    exact h
theorem c_step {g : Nat → Nat} {L T : Nat} {D : Vw} {k : Nat} {σ : Sg} (h : CS g L T D k σ) : ∃ τ, XX4_step σ = some τ ∧ CT g L T D k τ := by
  obtain ⟨h1, h2, h3, h4, h5, h6⟩ := h
  have hT := h1.1
  obtain ⟨t1, t2, t3⟩ := h1.2.2.1 k h3
  have e1 : σ 10 7 - (1 : Int32) = nI T := by
    rw [h1.2.1, show (1 : Int32) = nI 1 from rfl, nI_sb (by omega), show T + 1 - 1 = T by omega]
  obtain ⟨τ, hτ⟩ : ∃ τ, XX4_step σ = some τ ∧ τ 10 8 = nI (k + 1) ∧ τ 10 9 = σ 20 k ∧ τ 10 10 = σ 21 k ∧ τ 10 11 = σ 22 k := by
    refine ⟨up (up (up (up σ 10 9 (σ 20 k)) 10 10 (σ 21 k)) 10 11 (σ 22 k)) 10 8 (nI (k + 1)), ?_, up_same, ?_, ?_, ?_⟩
    · unfold XX4_step
      rw [e1, h4, if_neg (show ¬ nI T < nI k by rw [nI_lti (by omega) (by omega)]; omega), lt_def, if_pos ((ib_nI (by omega)).mpr (by omega)), nI_cl (by omega), lt_def, lt_def, up_cell (show 21 ≠ 10 by omega), lt_def, up_cell (show 22 ≠ 10 by omega), up_cell (show 22 ≠ 10 by omega), lt_def, nI_1]
    · rw [up_slot (by omega), up_slot (by omega), up_slot (by omega), up_same]
    · rw [up_slot (by omega), up_slot (by omega), up_same]
    · rw [up_slot (by omega), up_same]
  obtain ⟨e, a8, a9, a10, a11⟩ := hτ
  have f : fr cF σ τ := (frX4_step e).mono (by simp)
  refine ⟨τ, e, h1.fr f, h2.fr f, h3, a8, ?_, ?_, by rw [a9, t1], by rw [a10, t2], fun z => by rw [a11]; exact t3 z⟩
  · rw [(frX4_step e).slot (k := 10) (i := 1) rfl]
    exact h5
  · rw [(frX4_step e).slot (k := 10) (i := 2) rfl]
    exact h6
theorem c_refuse {c p w : Nat} {σ : Sg} (h9 : σ 10 9 = nI c) (hc : c ≤ 17) (h10 : σ 10 10 = nI p) : ∃ τ, XX4_refuse (nI w) σ = some (0, τ) ∧ τ 10 1 = nI (if c = 17 then 1 else w) ∧ τ 10 2 = nI p := by
  refine ⟨up (up σ 10 1 (nI (if c = 17 then 1 else w))) 10 2 (nI p), ?_, ?_, up_same⟩
  · unfold XX4_refuse
    rw [lt_def, h9]
    by_cases q : c = 17
    · rw [if_pos q, if_pos (show nI c = 17 by rw [q]; rfl), lt_def, lt_def, up_slot (show 10 ≠ 1 by omega), h10]
      rfl
    · rw [if_neg q, if_neg (show ¬ nI c = 17 from nI_ne (b := 17) (by omega) (by omega) q), lt_def, lt_def, up_slot (show 10 ≠ 1 by omega), h10]
  · rw [up_slot (by omega), up_same]
theorem m_fails {K p w : Nat} {σ : Sg} (h22 : σ 64 22 = 0) (h18 : σ 64 18 = nI K) (hK : K ≤ 4) (h16 : σ 64 16 = nI p) : ∃ τ, XX10_fails (nI w) σ = some τ ∧ τ 64 22 = nI (if K = 4 then 1 else w) ∧ τ 64 23 = nI p := by
  refine ⟨up (up σ 64 22 (nI (if K = 4 then 1 else w))) 64 23 (nI p), ?_, ?_, up_same⟩
  · unfold XX10_fails
    rw [if_pos h22, lt_def, h18]
    by_cases q : K = 4
    · rw [if_pos q, if_pos (show nI K = 4 by rw [q]; rfl), lt_def, lt_def, up_slot (show 16 ≠ 22 by omega), h16]
      rfl
    · rw [if_neg q, if_neg (show ¬ nI K = 4 from nI_ne (b := 4) (by omega) (by omega) q), lt_def, lt_def, up_slot (show 16 ≠ 22 by omega), h16]
  · rw [up_slot (by omega), up_same]
/-- the same fault on both sides -/
def FF (σ0 τ τ' : Sg) : Prop := ∃ w p, 1 ≤ w ∧ w ≤ 5 ∧ p ≤ 800 ∧ τ 10 1 = nI w ∧ τ 10 2 = nI p ∧ τ' 64 22 = nI w ∧ τ' 64 23 = nI p ∧ Lv σ0 τ'
/-- a faulty reference that goes on keeps its fault -/
def Kp (σ0 σ : Sg) (Y : Option Sg) : Prop := ∃ τ, Y = some τ ∧ τ 64 22 = σ 64 22 ∧ τ 64 23 = σ 64 23 ∧ Lv σ0 τ
theorem FF.bad {σ0 τ τ' : Sg} (h : FF σ0 τ τ') : ¬ τ' 64 22 = 0 := by
  obtain ⟨w, p, h1, h2, h3, h4, h5, h6, -⟩ := h
  rw [h6]
  exact nI_n0 (by omega) (by omega)
theorem FF.lv {σ0 τ τ' : Sg} (h : FF σ0 τ τ') : Lv σ0 τ' := by
  obtain ⟨w, p, h1, h2, h3, h4, h5, h6, h7, h8⟩ := h
  exact h8
theorem FF.kp {σ0 τ τ' : Sg} {Y : Option Sg} (h : FF σ0 τ τ') (k : Kp σ0 τ' Y) : ∃ τ2, Y = some τ2 ∧ FF σ0 τ τ2 := by
  obtain ⟨w, p, h1, h2, h3, h4, h5, h6, h7, h8⟩ := h
  obtain ⟨τ2, k1, k2, k3, k4⟩ := k
  exact ⟨τ2, k1, w, p, h1, h2, h3, h4, h5, by rw [k2]; exact h6, by rw [k3]; exact h7, k4⟩
theorem Kp.same {σ0 σ : Sg} (h : Lv σ0 σ) : Kp σ0 σ (some σ) := ⟨σ, rfl, rfl, rfl, h⟩
theorem Kp.of {σ0 σ σ2 : Sg} {Y : Option Sg} (h : Kp σ0 σ2 Y) (e2 : σ2 64 22 = σ 64 22) (e3 : σ2 64 23 = σ 64 23) : Kp σ0 σ Y := by
  obtain ⟨τ, k1, k2, k3, k4⟩ := h
  exact ⟨τ, k1, by rw [k2, e2], by rw [k3, e3], k4⟩
theorem Kp.up {σ0 σ : Sg} {c i : Nat} {v : Int32} {Y : Option Sg} (h : Kp σ0 (up σ c i v) Y) (hc : c ≠ 64) : Kp σ0 σ Y := h.of (by rw [up_cell (Ne.symm hc)]) (by rw [up_cell (Ne.symm hc)])
theorem b_good {σ : Sg} (h : ¬ σ 64 22 = 0) : XX10_isGood σ = some 0 := by
  unfold XX10_isGood
  rw [if_neg h]
theorem g_good {σ : Sg} (h : σ 64 22 = 0) : XX10_isGood σ = some 1 := by
  unfold XX10_isGood
  rw [if_pos h]
theorem b_goOn {σ : Sg} (h : ¬ σ 64 22 = 0) : XX10_goOn σ = some σ := by
  unfold XX10_goOn
  rw [b_good h, b1s, if_pos rfl]
theorem b_fails {σ : Sg} (h : ¬ σ 64 22 = 0) (w : Int32) : XX10_fails w σ = some σ := by
  unfold XX10_fails
  rw [if_neg h]
theorem b_keyword {σ : Sg} (h : ¬ σ 64 22 = 0) (w : Int32) : XX10_keyword w σ = some σ := by
  unfold XX10_keyword
  rw [b_good h, b1s, lt_def, if_pos rfl, b_goOn h, b1s]
def rnK (σ_2 : Sg) : Option (Int32 × Sg) := b1 (XX10_goOn σ_2) (fun (σ_5 : Sg) => b1 (XX10_isGood σ_5) (fun (r_6 : Int32) => if r_6 = 0 then (some ((0 : Int32), σ_5)) else (some (σ_2 64 19, σ_5))))
theorem rnK_bad {σ : Sg} (h : ¬ σ 64 22 = 0) : rnK σ = some (0, σ) := by
  unfold rnK
  rw [b_goOn h, b1s, b_good h, b1s, if_pos rfl]
theorem b_readNumber {σ : Sg} (h : ¬ σ 64 22 = 0) (a b : Int32) : XX10_readNumber a b σ = some (0, σ) := by
  unfold XX10_readNumber
  rw [b_good h, b1s, lt_def, lt_def, b1s, if_pos rfl, if_pos rfl]
  exact rnK_bad h
theorem readNumber_eq {σ : Sg} (h : σ 64 22 = 0) (a b : Int32) : XX10_readNumber a b σ = if (σ 64 18) = (2 : Int32) then (b1 (XX10_in (σ 64 19) a b) (fun (r_9 : Int32) => if r_9 = 0 then (b1 (XX10_fails (4 : Int32) σ) (fun (σ_10 : Sg) => rnK σ_10)) else (rnK σ))) else (b1 (XX10_fails (2 : Int32) σ) (fun (σ_11 : Sg) => rnK σ_11)) := by
  unfold XX10_readNumber
  rw [g_good h, b1s, lt_def, lt_def, b1s, if_neg (show ¬ (1 : Int32) = 0 by decide), if_neg (show ¬ (1 : Int32) = 0 by decide)]
  rfl
theorem b_reads {σ : Sg} (h : ¬ σ 64 22 = 0) {i : Nat} (hi : i < 10) (a b : Int32) : XX10_reads (nI i) a b σ = some (up σ 65 (10 + i) 0) := by
  unfold XX10_reads
  rw [b_readNumber h, b2s, show (10 : Int32) = nI 10 from rfl, nI_add, if_pos ((ib_nI (by omega)).mpr (by omega)), nI_cl (by omega), lt_def]
theorem m_go {g : Nat → Nat} {L : Nat} {σ0 : Sg} {D : Vw} {k : Nat} {σ : Sg} (h : MS g L σ0 D k σ) : ∃ τ, XX10_goOn σ = some τ ∧ MS g L σ0 D (k + 1) τ := by
  obtain ⟨h1, h2, h3, h4, h5, h6⟩ := h
  obtain ⟨τ, e1, e2, e3⟩ := m_goOn h1 h2 h3 h4.2.1 (tkB_le (ps_le g L k))
  refine ⟨τ, e1, h1.off (e3.cell (k := 76) rfl), ?_, ?_, e2, h5.fr (e3.mono (by simp)), h6.fr (e3.mono (by simp))⟩
  · rw [e3.slot (k := 64) (i := 15) rfl]
    exact h2
  · rw [e3.slot (k := 64) (i := 22) rfl]
    exact h3
theorem ff_both {g : Nat → Nat} {L T : Nat} {σ0 : Sg} {D D2 : Vw} {k : Nat} {σ σ' : Sg} (hc : CT g L T D k σ) (hm : MS g L σ0 D2 k σ') {w : Nat} (w1 : 1 ≤ w) (w5 : w ≤ 5) {a : Int32} (ha : a = nI w) : ∃ τ τ', XX4_refuse a σ = some (0, τ) ∧ XX10_fails a σ' = some τ' ∧ FF σ0 τ τ' := by
  obtain ⟨-, -, -, -, -, -, c9, c10, -⟩ := hc
  obtain ⟨m1, -, m22, ⟨m16, -, m18, -⟩, -, m6⟩ := hm
  have pl := ps_le g L k
  have hL := m1.1
  obtain ⟨τ, e1, e2, e3⟩ := c_refuse (w := w) c9 (ck_le g L _) c10
  obtain ⟨τ', f1, f2, f3⟩ := m_fails (w := w) m22 m18 (tkK_le g L _) m16
  rw [ha]
  refine ⟨τ, τ', e1, f1, (if ck g L (ps g L k) = 17 then 1 else w), ps g L k, ?_, ?_, by omega, e2, e3, ?_, f3, m6.fr ((frX10_fails f1).mono (by simp))⟩
  · split <;> omega
  · split <;> omega
  · rw [f2]
    by_cases q : tkK g L (ps g L k) = 4
    · rw [if_pos q, if_pos (ck_4.mpr q)]
    · rw [if_neg q, if_neg (fun z => q (ck_4.mp z))]
/-- a run of the class's beside one of the reference's -/
def Sim (σ0 : Sg) (Q : Sg → Sg → Prop) (X : Option (Int32 × Sg)) (Y : Option Sg) : Prop := (∃ τ τ', X = some (1, τ) ∧ Y = some τ' ∧ Q τ τ') ∨ (∃ τ τ', X = some (0, τ) ∧ Y = some τ' ∧ FF σ0 τ τ')
theorem Sim.bd {σ0 : Sg} {Q : Sg → Sg → Prop} {X : Option (Int32 × Sg)} {Y : Option Sg} {τ τ' : Sg} (e : X = some (0, τ)) (h : FF σ0 τ τ') (k : Kp σ0 τ' Y) : Sim σ0 Q X Y := by
  obtain ⟨τ2, k1, k2⟩ := h.kp k
  exact Or.inr ⟨τ, τ2, e, k1, k2⟩
theorem Sim.w {σ0 : Sg} {Q : Sg → Sg → Prop} {X : Option (Int32 × Sg)} {Y : Option Sg} (h : Sim σ0 Q X Y) : Sim σ0 Q (b2 X (fun (r_4 : Int32) (σ_5 : Sg) => if r_4 = 0 ∨ r_4 = 1 then some (r_4, σ_5) else none)) Y := by
  rcases h with ⟨τ, τ', e, f, q⟩ | ⟨τ, τ', e, f, q⟩
  · refine Or.inl ⟨τ, τ', ?_, f, q⟩
    rw [e, b2s, if_pos (Or.inr rfl)]
  · refine Or.inr ⟨τ, τ', ?_, f, q⟩
    rw [e, b2s, if_pos (Or.inl rfl)]
theorem Sim.w0 {σ0 : Sg} {Q : Sg → Sg → Prop} {X : Option (Int32 × Sg)} {Y : Option Sg} (h : Sim σ0 Q X Y) : Sim σ0 Q (b2 X (fun (r_4 : Int32) (σ_5 : Sg) => if r_4 = 0 then some ((0 : Int32), σ_5) else some ((1 : Int32), σ_5))) Y := by
  rcases h with ⟨τ, τ', e, f, q⟩ | ⟨τ, τ', e, f, q⟩
  · refine Or.inl ⟨τ, τ', ?_, f, q⟩
    rw [e, b2s, if_neg (show ¬ (1 : Int32) = 0 by decide)]
  · refine Or.inr ⟨τ, τ', ?_, f, q⟩
    rw [e, b2s, if_pos rfl]
theorem Sim.mono {σ0 : Sg} {Q Q2 : Sg → Sg → Prop} {X : Option (Int32 × Sg)} {Y : Option Sg} (h : Sim σ0 Q X Y) (m : ∀ τ τ', Q τ τ' → Q2 τ τ') : Sim σ0 Q2 X Y := by
  rcases h with ⟨τ, τ', e, f, q⟩ | ⟨τ, τ', e, f, q⟩
  · exact Or.inl ⟨τ, τ', e, f, m _ _ q⟩
  · exact Or.inr ⟨τ, τ', e, f, q⟩
/-- a number on both sides -/
theorem isn_both {g : Nat → Nat} {L T : Nat} {σ0 : Sg} {D : Vw} {k : Nat} {σ σ' : Sg} (hc : CT g L T D k σ) (hm : MS g L σ0 D k σ') {lo hi : Nat} (l9 : lo < 2147483648) (h9 : hi < 2147483648) {a b : Int32} (ha : a = nI lo) (hb : b = nI hi) : (∃ v τ', ck g L (ps g L k) = 14 ∧ lo ≤ v ∧ v ≤ hi ∧ XX4_isNumber a b σ = some (1, σ) ∧ XX10_readNumber a b σ' = some (nI v, τ') ∧ CS g L T D (k + 1) σ ∧ σ 10 11 = nI v ∧ MS g L σ0 D (k + 1) τ') ∨ (∃ τ τ', XX4_isNumber a b σ = some (0, τ) ∧ XX10_readNumber a b σ' = some (0, τ') ∧ FF σ0 τ τ') := by
  obtain ⟨-, -, -, -, -, -, c9, c10, c11⟩ := id hc
  obtain ⟨m1, -, m22, ⟨m16, -, m18, m19⟩, -, m6⟩ := id hm
  have cl := ck_le g L (ps g L k)
  by_cases q : ck g L (ps g L k) = 14
  · have hK := ck_2.mp q
    have vl := tkV_lt (Or.inr hK)
    have d11 := c11 (Or.inr hK)
    have d19 := m19 (Or.inr hK)
    have ns : ¬ stp g L (ps g L k) := fun z => by omega
    by_cases r : lo ≤ tkV g L (ps g L k) ∧ tkV g L (ps g L k) ≤ hi
    · obtain ⟨τ', e1, e2⟩ := m_go hm
      refine Or.inl ⟨tkV g L (ps g L k), τ', q, r.1, r.2, ?_, ?_, hc.go ns, d11, e2⟩
      · unfold XX4_isNumber
        rw [c9, q, if_pos rfl, lt_def, lt_def, d11, ha, hb, if_neg (show ¬ nI (tkV g L (ps g L k)) < nI lo by rw [nI_lti (by omega) l9]; omega), if_pos ((nI_lei (by omega) h9).mpr r.2)]
      · rw [readNumber_eq m22, m18, hK, if_pos rfl, d19, m_in, ha, hb, if_neg (show ¬ nI (tkV g L (ps g L k)) < nI lo by rw [nI_lti (by omega) l9]; omega), if_neg (show ¬ nI hi < nI (tkV g L (ps g L k)) by rw [nI_lti h9 (by omega)]; omega), b1s, if_neg (show ¬ (1 : Int32) = 0 by decide)]
        unfold rnK
        rw [e1, b1s, g_good e2.2.2.1, b1s, if_neg (show ¬ (1 : Int32) = 0 by decide), d19]
    · obtain ⟨τ, τ', e1, e2, e3⟩ := ff_both hc hm (w := 4) (by omega) (by omega) (a := (4 : Int32)) rfl
      refine Or.inr ⟨τ, τ', ?_, ?_, e3⟩
      · unfold XX4_isNumber
        rw [c9, q, if_pos rfl, lt_def, lt_def, d11, ha, hb, e1, b2s, if_pos rfl]
        by_cases y : nI (tkV g L (ps g L k)) < nI lo
        · rw [if_pos y]
        · rw [if_neg y, if_neg (fun z => r ⟨n_nlt (by omega) l9 y, (nI_lei (by omega) h9).mp z⟩)]
      · rw [readNumber_eq m22, m18, hK, if_pos rfl, d19, m_in, ha, hb, e2]
        have e0 : (if nI (tkV g L (ps g L k)) < nI lo then (0 : Int32) else if nI hi < nI (tkV g L (ps g L k)) then 0 else 1) = 0 := by
          by_cases y : nI (tkV g L (ps g L k)) < nI lo
          · rw [if_pos y]
          · rw [if_neg y, if_pos ((nI_lti h9 (by omega)).mpr (by
              have := n_nlt (by omega) l9 y
              omega))]
        rw [e0, b1s, if_pos rfl, b1s]
        exact rnK_bad e3.bad
  · obtain ⟨τ, τ', e1, e2, e3⟩ := ff_both hc hm (w := 2) (by omega) (by omega) (a := (2 : Int32)) rfl
    refine Or.inr ⟨τ, τ', ?_, ?_, e3⟩
    · unfold XX4_isNumber
      rw [c9, if_neg (show ¬ nI (ck g L (ps g L k)) = 14 from nI_ne (b := 14) (by omega) (by omega) q), e1, b2s, if_pos (Or.inl rfl)]
    · rw [readNumber_eq m22, m18, if_neg (show ¬ nI (tkK g L (ps g L k)) = 2 from nI_ne (b := 2) (by have := tkK_le g L (ps g L k); omega) (by omega) (fun z => q (ck_2.mpr z))), e2, b1s]
      exact rnK_bad e3.bad
theorem num_both {g : Nat → Nat} {L T : Nat} {σ0 : Sg} {D : Vw} {k : Nat} {σ σ' : Sg} (hc : CS g L T D k σ) (hm : MS g L σ0 D k σ') {lo hi : Nat} (l9 : lo < 2147483648) (h9 : hi < 2147483648) {a b : Int32} (ha : a = nI lo) (hb : b = nI hi) : (∃ v τ τ', lo ≤ v ∧ v ≤ hi ∧ XX4_wantNumber a b σ = some (1, τ) ∧ XX10_readNumber a b σ' = some (nI v, τ') ∧ CS g L T D (k + 1) τ ∧ τ 10 11 = nI v ∧ MS g L σ0 D (k + 1) τ') ∨ (∃ τ τ', XX4_wantNumber a b σ = some (0, τ) ∧ XX10_readNumber a b σ' = some (0, τ') ∧ FF σ0 τ τ') := by
  obtain ⟨σ1, s1, s2⟩ := c_step hc
  rcases isn_both s2 hm l9 h9 ha hb with ⟨v, τ', -, v1, v2, e1, e2, e3, e4, e5⟩ | ⟨τ, τ', e1, e2, e3⟩
  · refine Or.inl ⟨v, σ1, τ', v1, v2, ?_, e2, e3, e4, e5⟩
    unfold XX4_wantNumber
    rw [s1, b1s, e1, b2s, if_pos (Or.inr rfl)]
  · refine Or.inr ⟨τ, τ', ?_, e2, e3⟩
    unfold XX4_wantNumber
    rw [s1, b1s, e1, b2s, if_pos (Or.inl rfl)]
theorem reads_both {g : Nat → Nat} {L T : Nat} {σ0 : Sg} {D : Vw} {k : Nat} {σ σ' : Sg} (hc : CS g L T D k σ) (hm : MS g L σ0 D k σ') {lo hi i : Nat} (l9 : lo < 2147483648) (h9 : hi < 2147483648) (hi9 : i < 10) {a b c : Int32} (ha : a = nI lo) (hb : b = nI hi) (hci : c = nI i) : (∃ v τ τ', lo ≤ v ∧ v ≤ hi ∧ XX4_wantNumber a b σ = some (1, τ) ∧ XX10_reads c a b σ' = some (up τ' 65 (10 + i) (nI v)) ∧ CS g L T D (k + 1) τ ∧ τ 10 11 = nI v ∧ MS g L σ0 D (k + 1) τ') ∨ (∃ τ τ', XX4_wantNumber a b σ = some (0, τ) ∧ XX10_reads c a b σ' = some τ' ∧ FF σ0 τ τ') := by
  rcases num_both hc hm l9 h9 ha hb with ⟨v, τ, τ', v1, v2, e1, e2, e3, e4, e5⟩ | ⟨τ, τ', e1, e2, e3⟩
  · refine Or.inl ⟨v, τ, τ', v1, v2, e1, ?_, e3, e4, e5⟩
    unfold XX10_reads
    rw [e2, b2s, hci, show (10 : Int32) = nI 10 from rfl, nI_add, if_pos ((ib_nI (by omega)).mpr (by omega)), nI_cl (by omega), lt_def]
  · have kp : Kp σ0 τ' (some (up τ' 65 (10 + i) 0)) := Kp.up (Kp.same (e3.lv.up (by unfold lvd; omega))) (by omega)
    obtain ⟨τ2, f1, f2⟩ := e3.kp kp
    refine Or.inr ⟨τ, τ2, e1, ?_, f2⟩
    unfold XX10_reads
    rw [e2, b2s, hci, show (10 : Int32) = nI 10 from rfl, nI_add, if_pos ((ib_nI (by omega)).mpr (by omega)), nI_cl (by omega), lt_def]
    exact f1
