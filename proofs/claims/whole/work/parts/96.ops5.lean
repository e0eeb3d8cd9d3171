/-! CALLS: waits, bears -/
theorem b1s {α ρ : Type} (a : α) (f : α → Option ρ) : b1 (some a) f = f a := rfl
theorem b2s {ρ : Type} (r : Int32) (σ : Sg) (f : Int32 → Sg → Option ρ) : b2 (some (r, σ)) f = f r σ := rfl
theorem lt_irr {x y : Int32} (h : x < y) : ¬ y ≤ x := fun q => by
  have h1 := Int32.lt_iff_toInt_lt.mp h
  have h2 := Int32.le_iff_toInt_le.mp q
  omega
theorem nlt_le {x y : Int32} (h : ¬ x < y) : y ≤ x := Int32.le_iff_toInt_le.mpr (by
  have h1 : ¬ x.toInt < y.toInt := fun q => h (Int32.lt_iff_toInt_lt.mpr q)
  omega)
theorem nle_lt {x y : Int32} (h : ¬ y ≤ x) : x < y := Int32.lt_iff_toInt_lt.mpr (by
  have h1 : ¬ y.toInt ≤ x.toInt := fun q => h (Int32.le_iff_toInt_le.mpr q)
  omega)
theorem n_nlt {a b : Nat} (ha : a < 2147483648) (hb : b < 2147483648) (h : ¬ nI a < nI b) : b ≤ a := by
  have h1 : ¬ a < b := fun q => h ((nI_lti ha hb).mpr q)
  omega
theorem nI_g0 {n : Nat} (h0 : 0 < n) (h : n < 2147483648) : 0 < nI n := (nI_lti (a := 0) (by omega) h).mpr h0
theorem nI_n0 {n : Nat} (h0 : n ≠ 0) (h : n < 2147483648) : ¬ nI n = 0 := nI_ne (b := 0) h (by omega) h0
theorem sub_le0 {t a : Nat} (ht : t < 1073741824) (ha : a < 1073741824) : (0 ≤ nI t - nI a) ↔ a ≤ t := by
  constructor
  · intro h
    by_cases q : a ≤ t
    · exact q
    · have := pk_sneg (a := t) (b := a) ha (by omega)
      have h1 := Int32.lt_iff_toInt_lt.mp this
      have h2 := Int32.le_iff_toInt_le.mp h
      omega
  · intro h
    rw [pk_sub h]
    exact nI_pos' (by omega)
theorem stk_lt {V : Vw} (hw : WF V) {s v d : Nat} {A : Nat → Nat} (hs : s < V 0 8) : stk (V 4 s) (V 3 s) v A d < 1000 := by
  have h1 := (hw.sh hs).2.2.2.1
  have h2 := (hw.sh hs).2.2.2.2
  have h3 := hw.t99
  have := stk_le (vis := v) (ask := A) h2 d
  omega
theorem lasts_loop {V : Vw} (hw : WF V) {σ : Sg} (ht : TC V σ) {k s v : Nat} (hs : s < V 0 8) {A : Nat → Nat} (hla : ∀ d, d < V 0 0 → A d < 1000000) (hA : ∀ d, d < V 0 0 → σ (k + 2) (14 * s + d) = nI (A d)) : ∀ m e n, e + m = V 0 0 → m < n → (∀ j, e ≤ j → v.testBit j = false) → LX5_lastsUntil_16 k (nI s) σ n (nI (stk (V 4 s) (V 3 s) v A e)) (nI e) = some (fstD (fun j => decide (0 < rmiss (V 4 s) (V 3 s) v A j)) m e) := by
  have s6 := hw.s6
  have d14 := hw.d14
  intro m
  induction m with
  | zero =>
    intro e n he hn hv
    obtain ⟨n, rfl⟩ : ∃ q, n = q + 1 := ⟨n - 1, by omega⟩
    have he : e = V 0 0 := by omega
    subst he
    rw [LX5_lastsUntil_16, ht.1, if_pos (by rw [nI_lei] <;> omega)]
    rfl
  | succ m ih =>
    intro e n he hn hv
    obtain ⟨n, rfl⟩ : ∃ q, n = q + 1 := ⟨n - 1, by omega⟩
    have hl := hla e (by omega)
    have hk := stk_lt hw (v := v) (d := e) (A := A) hs
    have vb := hv e (Nat.le_refl _)
    have er : rmiss (V 4 s) (V 3 s) v A e = A e - stk (V 4 s) (V 3 s) v A e := by
      unfold rmiss
      rw [if_neg (by rw [vb]; decide)]
    have es : stk (V 4 s) (V 3 s) v A (e + 1) = stk (V 4 s) (V 3 s) v A e - A e := by
      show (if v.testBit e then V 3 s else stk (V 4 s) (V 3 s) v A e) - A e = _
      rw [if_neg (by rw [vb]; decide)]
    have k1 := ih (e + 1) n (by omega) (by omega) (fun j hj => hv j (by omega))
    rw [LX5_lastsUntil_16, ht.1, if_neg (by rw [nI_lei] <;> omega), c_cellOf]
    simp only [b1]
    rw [if_pos ((ib_nI (by omega)).mpr (by omega)), nI_cl (by omega), hA e (by omega)]
    simp only [lt]
    show _ = some (if decide (0 < rmiss (V 4 s) (V 3 s) v A e) = true then nI e else fstD _ m (e + 1))
    rw [er]
    by_cases q : A e ≤ stk (V 4 s) (V 3 s) v A e
    · rw [if_pos ((sub_le0 (by omega) (by omega)).mpr q), pk_sub q, if_neg (by simp; omega), ← es, nI_1]
      exact k1
    · rw [if_neg (fun z => q ((sub_le0 (by omega) (by omega)).mp z)), if_pos (by simp; omega)]
theorem mask_bit (v d j : Nat) : (v &&& (2 ^ (d + 1) - 1)).testBit j = (v.testBit j && decide (j < d + 1)) := by
  rw [Nat.testBit_and, Nat.testBit_two_pow_sub_one]
theorem sh2 : ∀ d, d < 14 → (2 : Int32) <<< (nI d &&& 31) - 1 = nI (2 ^ (d + 1) - 1) := by decide +kernel
theorem op_waits {V : Vw} {σ : Sg} (h : Inv V σ) (x y : Int32) : pureOK σ (XX9_waits x y σ) (XX10_waits x y σ) := by
  obtain ⟨hw, hc, hr⟩ := id h
  have s6 := hw.s6
  have d14 := hw.d14
  have hr1 : RM V (up σ 64 0 0) := hr.1.th
  by_cases hx : ib x (V 0 8) ∧ ib y (V 0 0)
  · obtain ⟨s, hs, rfl⟩ := ib_of hx.1 (by omega)
    obtain ⟨d, hd, rfl⟩ := ib_of hx.2 (by omega)
    have hla : ∀ e, e < V 0 0 → aq V s e < 1000000 := fun e he => by have := aq_le hw hs he; omega
    obtain ⟨v, hv⟩ : ∃ v, v = V 5 s &&& (2 ^ (d + 1) - 1) := ⟨_, rfl⟩
    have vl : v < 2147483648 := by
      have h1 : v ≤ V 5 s := by rw [hv]; exact Nat.and_le_left
      have := vis_lt hw s
      omega
    have vh : ∀ j, d + 1 ≤ j → v.testBit j = false := fun j hj => by
      rw [hv, mask_bit]
      simp
      intro _
      omega
    have vlo : ∀ j, j < d + 1 → (V 5 s).testBit j = v.testBit j := fun j hj => by
      rw [hv, mask_bit]
      simp [hj]
    have es : stk (V 4 s) (V 3 s) (V 5 s) (aq V s) (d + 1) = stk (V 4 s) (V 3 s) v (aq V s) (d + 1) := stk_congr vlo (fun _ _ => rfl)
    have e1 : XX9_waits (nI s) (nI d) σ = some (fstD (fun j => decide (0 < rmiss (V 4 s) (V 3 s) v (aq V s) j)) (V 0 0 - (d + 1)) (d + 1)) := by
      unfold XX9_waits XX5_lastsUntil
      have q1 : σ (38 + 4) (14 * s + d) = nI (stk (V 4 s) (V 3 s) v (aq V s) (d + 1)) := by rw [(hc.2.1.2.2.1 s d hs hd).2.1, es]
      rw [c_hasCell hc.1 s6 d14, if_pos hx]
      simp only [b1]
      rw [if_neg (show ¬ (1 : Int32) = 0 by decide), c_cellOf]
      simp only []
      rw [if_pos ((ib_nI (by omega)).mpr (by omega)), nI_cl (by omega), q1]
      simp only [lt]
      rw [nI_1, lasts_loop hw hc.1 hs hla (fun e he => hc.2.1.2.1 s e hs he) (V 0 0 - (d + 1)) (d + 1) FUEL (by omega) (by unfold FUEL; omega) vh]
    obtain ⟨τ1, g1, g2, g3⟩ := m_layAsked hw hr1 (pct := 100) (by omega)
    rw [ask100] at g3
    obtain ⟨τ2, k1, k2, k3, -⟩ := m_runShop hw g2 hs vl hla (fun e he => g3 s e hs he)
    have fl := m_firstLost hw k2 hs (f := rmiss (V 4 s) (V 3 s) v (aq V s)) (fun e he => by
      have h1 : rmiss (V 4 s) (V 3 s) v (aq V s) e ≤ aq V s e := rmiss_le
      have := hla e he
      omega) (fun e he => (k3 e he).2.2) (a := d + 1) (by omega)
    have e2 : XX10_waits (nI s) (nI d) σ = some (fstD (fun j => decide (0 < rmiss (V 4 s) (V 3 s) v (aq V s) j)) (V 0 0 - (d + 1)) (d + 1), τ2) := by
      unfold XX10_waits
      rw [lt_def, m_isAt (hr1.1 8 (by omega)) (by omega) (hr1.1 0 (by omega)) (by omega), if_pos hx]
      simp only [b1]
      rw [if_neg (show ¬ (1 : Int32) = 0 by decide), show (100 : Int32) = nI 100 from rfl, g1]
      simp only []
      rw [if_pos ((ib_nI (by omega)).mpr (by omega)), nI_cl (by omega), g2.2.2.1 s (by omega), sh2 d (by omega), nx_and, ← hv, k1]
      simp only []
      rw [nI_1, fl]
    exact ⟨_, _, e1, e2, V, h.look (frX10_waits e2) rfl rfl⟩
  · have e1 : XX9_waits x y σ = some (-1) := by
      unfold XX9_waits
      rw [c_hasCell hc.1 s6 d14, if_neg hx]
      rfl
    have e2 : XX10_waits x y σ = some (-1, up σ 64 0 0) := by
      unfold XX10_waits
      rw [lt_def, m_isAt (hr1.1 8 (by omega)) (by omega) (hr1.1 0 (by omega)) (by omega), if_neg hx]
      rfl
    exact ⟨_, _, e1, e2, V, h.look (fr_upf (a := 64) (i := 0)) rfl rfl⟩
/-! bears -/
def spF (v : Nat) (E : Nat → Nat) : Nat → Nat → Nat → Nat
  | 0, _, x => x
  | m + 1, e, x => if v.testBit e then x else spF v E m (e + 1) (min x (E e))
theorem spF_le {v : Nat} {E : Nat → Nat} : ∀ m e x, spF v E m e x ≤ x
  | 0, _, _ => Nat.le_refl _
  | m + 1, e, x => by
    show (if v.testBit e then x else spF v E m (e + 1) (min x (E e))) ≤ x
    split
    · exact Nat.le_refl _
    · have := spF_le (v := v) (E := E) m (e + 1) (min x (E e))
      omega
/-- so much more on a day -/
def askP (A : Nat → Nat) (d k : Nat) : Nat → Nat := fun e => if e = d then A e + k else A e
theorem stk_same {fi sh v : Nat} {A B : Nat → Nat} {e : Nat} (h0 : stk fi sh v A e = stk fi sh v B e) (h : ∀ j, e ≤ j → A j = B j) : ∀ m, stk fi sh v A (e + m) = stk fi sh v B (e + m)
  | 0 => h0
  | m + 1 => by
    show (if v.testBit (e + m) then sh else stk fi sh v A (e + m)) - A (e + m) = (if v.testBit (e + m) then sh else stk fi sh v B (e + m)) - B (e + m)
    rw [stk_same h0 h m, h (e + m) (by omega)]
theorem bears_tail {fi sh v d k D : Nat} {A : Nat → Nat} (h0 : ∀ e, e < D → rmiss fi sh v A e = 0) : ∀ m e x, e + m = D → d < e → k ≤ x → k ≤ stk fi sh v A e → stk fi sh v (askP A d k) e = stk fi sh v A e - k → ((∀ j, e ≤ j → j < D → rmiss fi sh v (askP A d k) j = 0) ↔ k ≤ spF v (fun e => stk fi sh v A (e + 1)) m e x)
  | 0, e, x, he, hd, hx, hk, hs => ⟨fun _ => hx, fun _ j h1 h2 => absurd h2 (by omega)⟩
  | m + 1, e, x, he, hd, hx, hk, hs => by
    have ea : ∀ j, e ≤ j → askP A d k j = A j := fun j hj => if_neg (by omega)
    have m0 := h0 e (by omega)
    have m1 : rmiss fi sh v (askP A d k) e = A e - (if v.testBit e then sh else stk fi sh v A e - k) := by
      unfold rmiss
      rw [ea e (Nat.le_refl _), hs]
    have s1 : stk fi sh v (askP A d k) (e + 1) = (if v.testBit e then sh else stk fi sh v A e - k) - A e := by
      show (if v.testBit e then sh else stk fi sh v (askP A d k) e) - askP A d k e = _
      rw [ea e (Nat.le_refl _), hs]
    have s0 : stk fi sh v A (e + 1) = (if v.testBit e then sh else stk fi sh v A e) - A e := rfl
    unfold rmiss at m0
    show _ ↔ k ≤ (if v.testBit e then x else spF v (fun e => stk fi sh v A (e + 1)) m (e + 1) (min x (stk fi sh v A (e + 1))))
    by_cases q : v.testBit e = true
    · rw [if_pos q] at m0 m1 s1 s0
      rw [if_pos q]
      refine ⟨fun _ => hx, fun _ j h1 h2 => ?_⟩
      by_cases j0 : j = e
      · rw [j0, m1]
        exact m0
      · have w := stk_same (fi := fi) (sh := sh) (v := v) (A := askP A d k) (B := A) (e := e + 1) (by rw [s1, s0]) (fun i hi => ea i (by omega)) (j - (e + 1))
        rw [show e + 1 + (j - (e + 1)) = j by omega] at w
        have := h0 j h2
        unfold rmiss at this ⊢
        rw [ea j h1, w]
        exact this
    · rw [if_neg q] at m0 m1 s1 s0
      rw [if_neg q]
      by_cases z : k ≤ stk fi sh v A (e + 1)
      · have ih := bears_tail (d := d) (k := k) h0 m (e + 1) (min x (stk fi sh v A (e + 1))) (by omega) (by omega) (by omega) z (by rw [s1]; omega)
        rw [← ih]
        constructor
        · intro h j h1 h2
          exact h j (by omega) h2
        · intro h j h1 h2
          by_cases j0 : j = e
          · rw [j0, m1]
            omega
          · exact h j (by omega) h2
      · have := spF_le (v := v) (E := fun e => stk fi sh v A (e + 1)) m (e + 1) (min x (stk fi sh v A (e + 1)))
        constructor
        · intro h
          have := h e (Nat.le_refl _) (by omega)
          rw [m1] at this
          omega
        · intro h
          omega
/-- how much more can be asked for -/
def spB (fi sh v : Nat) (A : Nat → Nat) (D d : Nat) : Nat := spF v (fun e => stk fi sh v A (e + 1)) (D - (d + 1)) (d + 1) (min 99 (stk fi sh v A (d + 1)))
theorem bears_iff {fi sh v d k D : Nat} {A : Nat → Nat} (h0 : ∀ e, e < D → rmiss fi sh v A e = 0) (hd : d < D) (hk : k ≤ 99) : (∀ j, j < D → rmiss fi sh v (askP A d k) j = 0) ↔ k ≤ spB fi sh v A D d := by
  have el : ∀ j, j < d → askP A d k j = A j := fun j hj => if_neg (by omega)
  have ed : askP A d k d = A d + k := if_pos rfl
  have sd : ∀ e, e ≤ d → stk fi sh v (askP A d k) e = stk fi sh v A e := fun e he => stk_congr (fun _ _ => rfl) (fun j hj => el j (by omega))
  have m0 := h0 d hd
  have m1 : rmiss fi sh v (askP A d k) d = A d + k - (if v.testBit d then sh else stk fi sh v A d) := by
    unfold rmiss
    rw [ed, sd d (Nat.le_refl _)]
  have s1 : stk fi sh v (askP A d k) (d + 1) = (if v.testBit d then sh else stk fi sh v A d) - (A d + k) := by
    show (if v.testBit d then sh else stk fi sh v (askP A d k) d) - askP A d k d = _
    rw [ed, sd d (Nat.le_refl _)]
  have s0 : stk fi sh v A (d + 1) = (if v.testBit d then sh else stk fi sh v A d) - A d := rfl
  unfold rmiss at m0
  have lo := spF_le (v := v) (E := fun e => stk fi sh v A (e + 1)) (D - (d + 1)) (d + 1) (min 99 (stk fi sh v A (d + 1)))
  unfold spB
  by_cases z : k ≤ stk fi sh v A (d + 1)
  · have t := bears_tail (d := d) (k := k) h0 (D - (d + 1)) (d + 1) (min 99 (stk fi sh v A (d + 1))) (by omega) (by omega) (by omega) z (by rw [s1]; omega)
    rw [← t]
    constructor
    · intro h j _ h2
      exact h j h2
    · intro h j hj
      rcases Nat.lt_trichotomy j d with q | q | q
      · have := h0 j hj
        unfold rmiss at this ⊢
        rw [el j q, sd j (by omega)]
        exact this
      · rw [q, m1]
        omega
      · exact h j (by omega) hj
  · constructor
    · intro h
      have := h d hd
      rw [m1] at this
      omega
    · intro h
      omega
theorem spare_loop {V : Vw} (hw : WF V) {σ : Sg} (ht : TC V σ) {k s v d : Nat} (hs : s < V 0 8) {E : Nat → Nat} (hv : v < 2147483648) (hV : σ (k + 1) s = nI v) (hle : ∀ e, e < V 0 0 → E e < 1000000) (hE : ∀ e, e < V 0 0 → σ (k + 4) (14 * s + e) = nI (E e)) (hd : d < V 0 0) : ∀ m e n x, e + m = V 0 0 → m < n → d < e → x < 1000000 → LX5_spareFrom_6 k (nI s) (nI d) σ n (nI x) (nI e) = some (nI (spF v E m e x)) := by
  have s6 := hw.s6
  have d14 := hw.d14
  intro m
  induction m with
  | zero =>
    intro e n x he hn hde hx
    obtain ⟨n, rfl⟩ : ∃ q, n = q + 1 := ⟨n - 1, by omega⟩
    have he : e = V 0 0 := by omega
    subst he
    rw [LX5_spareFrom_6, ht.1, if_pos (by rw [nI_lei] <;> omega)]
    rfl
  | succ m ih =>
    intro e n x he hn hde hx
    obtain ⟨n, rfl⟩ : ∃ q, n = q + 1 := ⟨n - 1, by omega⟩
    have hl := hle e (by omega)
    rw [LX5_spareFrom_6, ht.1, if_neg (by rw [nI_lei] <;> omega), c_cellOf, c_isVisited hV (by omega) hv (by omega)]
    simp only [b1, lt]
    rw [if_neg (by rw [nI_lei] <;> omega), if_pos ((ib_nI (by omega)).mpr (by omega)), nI_cl (by omega), hE e (by omega), min_nI (by omega) (by omega), nI_1]
    show _ = some (nI (if v.testBit e then x else spF v E m (e + 1) (min x (E e))))
    cases hb : v.testBit e with
    | true =>
      rw [if_neg (show ¬ nI (bq true) = 0 by decide), if_pos rfl]
    | false =>
      rw [if_pos (show nI (bq false) = 0 by decide), if_neg (by decide)]
      exact ih (e + 1) n (min x (E e)) (by omega) (by omega) (by omega) (by omega)
theorem c_spare {V : Vw} (hw : WF V) {σ : Sg} (ht : TC V σ) {k s v d : Nat} (hs : s < V 0 8) {E : Nat → Nat} (hv : v < 2147483648) (hV : σ (k + 1) s = nI v) (hle : ∀ e, e < V 0 0 → E e < 1000000) (hE : ∀ e, e < V 0 0 → σ (k + 4) (14 * s + e) = nI (E e)) (hd : d < V 0 0) : XX5_spareFrom k (nI s) (nI d) σ = some (nI (spF v E (V 0 0 - (d + 1)) (d + 1) (min 99 (E d)))) := by
  have s6 := hw.s6
  have d14 := hw.d14
  have hl := hle d hd
  unfold XX5_spareFrom
  rw [show FUEL = 999999 + 1 from rfl, LX5_spareFrom_6, ht.1, if_neg (by rw [nI_lei] <;> omega), c_cellOf]
  simp only [b1, lt]
  rw [if_pos (by rw [nI_lei] <;> omega), if_pos ((ib_nI (by omega)).mpr (by omega)), nI_cl (by omega), hE d hd, show (99 : Int32) = nI 99 from rfl, min_nI (by omega) (by omega), nI_1]
  exact spare_loop hw ht hs hv hV hle hE hd (V 0 0 - (d + 1)) (d + 1) 999999 (min 99 (E d)) (by omega) (by omega) (by omega) (by omega)
theorem fstD_none {p : Nat → Bool} {D : Nat} (hD : D < 1000) : ∀ m a, a + m = D → (fstD p m a = -1 ↔ ∀ j, a ≤ j → j < D → p j = false)
  | 0, a, h => ⟨fun _ j h1 h2 => absurd h2 (by omega), fun _ => rfl⟩
  | m + 1, a, h => by
    show (if p a then nI a else fstD p m (a + 1)) = -1 ↔ _
    cases hp : p a with
    | true =>
      rw [if_pos rfl]
      constructor
      · intro q
        exact absurd (nI_pos (n := a) (by omega)) (by rw [q]; decide)
      · intro q
        have := q a (Nat.le_refl _) (by omega)
        rw [hp] at this
        cases this
    | false =>
      rw [if_neg (by decide), fstD_none hD m (a + 1) (by omega)]
      constructor
      · intro q j h1 h2
        by_cases e : j = a
        · rw [e]
          exact hp
        · exact q j (by omega) h2
      · intro q j h1 h2
        exact q j (by omega) h2
theorem bears_loop {V : Vw} (hw : WF V) {s d : Nat} (hs : s < V 0 8) (hd : d < V 0 0) (h0 : ∀ e, e < V 0 0 → rmiss (V 4 s) (V 3 s) (V 5 s) (aq V s) e = 0) : ∀ m k n σ, k + m = spB (V 4 s) (V 3 s) (V 5 s) (aq V s) (V 0 0) d + 1 → m < n → RM V σ → (∀ e, e < V 0 0 → σ 79 (14 * s + e) = nI (askP (aq V s) d k e)) → (∀ e, e < V 0 0 → rowM V s (V 5 s) (askP (aq V s) d k) e σ) → ∃ τ, LX10_bears_22 (nI s) (nI d) n (nI k - 1) σ = some (nI (spB (V 4 s) (V 3 s) (V 5 s) (aq V s) (V 0 0) d), τ) := by
  have s6 := hw.s6
  have d14 := hw.d14
  have sp99 : spB (V 4 s) (V 3 s) (V 5 s) (aq V s) (V 0 0) d ≤ 99 := by
    have := spF_le (v := V 5 s) (E := fun e => stk (V 4 s) (V 3 s) (V 5 s) (aq V s) (e + 1)) (V 0 0 - (d + 1)) (d + 1) (min 99 (stk (V 4 s) (V 3 s) (V 5 s) (aq V s) (d + 1)))
    unfold spB
    omega
  have al : ∀ k, k ≤ 100 → ∀ e, e < V 0 0 → askP (aq V s) d k e < 10000 := fun k hk e he => by
    have := aq_le hw hs he
    unfold askP
    split <;> omega
  intro m
  induction m with
  | zero =>
    intro k n σ hk hn hr ha hu
    obtain ⟨n, rfl⟩ : ∃ q, n = q + 1 := ⟨n - 1, by omega⟩
    have lb := m_lostBy hw hr hs (f := rmiss (V 4 s) (V 3 s) (V 5 s) (askP (aq V s) d k)) (fun e he => (hu e he).2.2)
    refine ⟨σ, ?_⟩
    rw [LX10_bears_22, show nI k - 1 = nI (k - 1) from pk_sub (b := 1) (by omega), show k - 1 = spB (V 4 s) (V 3 s) (V 5 s) (aq V s) (V 0 0) d by omega]
    simp only [nI_lit]
    by_cases q : spB (V 4 s) (V 3 s) (V 5 s) (aq V s) (V 0 0) d = 99
    · rw [if_pos (by rw [nI_lei] <;> omega)]
    · rw [if_neg (by rw [nI_lei] <;> omega), lb]
      simp only [b1]
      rw [if_neg]
      intro z
      have bd : sumN (rmiss (V 4 s) (V 3 s) (V 5 s) (askP (aq V s) d k)) (V 0 0) ≤ V 0 0 * 10000 := sumN_le (fun e he => by
        have h1 : rmiss (V 4 s) (V 3 s) (V 5 s) (askP (aq V s) d k) e ≤ askP (aq V s) d k e := rmiss_le
        have := al k (by omega) e he
        omega)
      have z1 : sumN (rmiss (V 4 s) (V 3 s) (V 5 s) (askP (aq V s) d k)) (V 0 0) = 0 := (nI_eqi (by omega) (by omega)).mp z
      have := (bears_iff h0 hd (by omega)).mp (sumN_zero.mp z1)
      omega
  | succ m ih =>
    intro k n σ hk hn hr ha hu
    obtain ⟨n, rfl⟩ : ∃ q, n = q + 1 := ⟨n - 1, by omega⟩
    have lb := m_lostBy hw hr hs (f := rmiss (V 4 s) (V 3 s) (V 5 s) (askP (aq V s) d k)) (fun e he => (hu e he).2.2)
    have z1 : sumN (rmiss (V 4 s) (V 3 s) (V 5 s) (askP (aq V s) d k)) (V 0 0) = 0 := sumN_zero.mpr ((bears_iff h0 hd (by omega)).mpr (by omega))
    rw [z1] at lb
    have nk : nI k - 1 + 1 = nI (k + 1) - 1 := by
      rw [nI_pred]
      exact Int32.sub_add_cancel _ _
    have n99 : ¬ (99 : Int32) ≤ nI k - 1 := by
      by_cases k0 : k = 0
      · rw [k0]
        decide
      · rw [show nI k - 1 = nI (k - 1) from pk_sub (b := 1) (by omega)]
        exact fun q => absurd ((nI_lei (a := 99) (by omega) (by omega)).mp q) (by omega)
    obtain ⟨σ1, hσ1⟩ : ∃ σ1, σ1 = up σ 79 (14 * s + d) (nI (askP (aq V s) d (k + 1) d)) := ⟨_, rfl⟩
    have f1 : fr [(79, none)] σ σ1 := by rw [hσ1]; exact fr_up
    have r1 : RM V σ1 := hr.off f1 rfl
    have ed : askP (aq V s) d k d + 1 = askP (aq V s) d (k + 1) d := by
      unfold askP
      rw [if_pos rfl, if_pos rfl]
      omega
    have a1 : ∀ e, e < V 0 0 → σ1 79 (14 * s + e) = nI (askP (aq V s) d (k + 1) e) := fun e he => by
      rw [hσ1]
      by_cases q : e = d
      · rw [q, up_same]
      · rw [up_slot (by omega), ha e he]
        unfold askP
        rw [if_neg q, if_neg q]
    obtain ⟨σ2, c1, c2, c3, -, c5⟩ := m_runShop hw r1 hs (vis_lt hw s) (fun e he => by have := al (k + 1) (by omega) e he; omega) a1
    obtain ⟨τ, g⟩ := ih (k + 1) n σ2 (by omega) (by omega) c2 (fun e he => by rw [c5.cell (k := 79) rfl]; exact a1 e he) c3
    refine ⟨τ, ?_⟩
    rw [LX10_bears_22, if_neg n99, lb, b1s, if_pos (show nI 0 = 0 from rfl), lt_def, lt_def, nk, show (14 : Int32) = nI 14 from rfl, pk_mul, nI_add, if_pos ((ib_nI (by omega)).mpr (by omega)), nI_cl (by omega), lt_def, ha d hd, nI_1, ed, ← hσ1, if_pos ((ib_nI (by omega)).mpr (by omega)), nI_cl (by omega), r1.2.2.1 s (by omega), c1, b1s]
    exact g
theorem op_bears {V : Vw} {σ : Sg} (h : Inv V σ) (x y : Int32) : pureOK σ (XX9_bears x y σ) (XX10_bears x y σ) := by
  obtain ⟨hw, hc, hr⟩ := id h
  have s6 := hw.s6
  have d14 := hw.d14
  have hr1 : RM V (up σ 64 0 0) := hr.1.th
  by_cases hx : ib x (V 0 8) ∧ ib y (V 0 0)
  · obtain ⟨s, hs, rfl⟩ := ib_of hx.1 (by omega)
    obtain ⟨d, hd, rfl⟩ := ib_of hx.2 (by omega)
    have fm := c_firstMissed hw hc.1 hs (k := 38) (fun e he => ms_lt hw hs he) (fun e he => (hc.2.1.2.2.1 s e hs he).2.2)
    obtain ⟨τ1, g1, g2, g3, g4⟩ := m_layRun hw hr1
    have key : ∃ r τ, XX9_bears (nI s) (nI d) σ = some r ∧ XX10_bears (nI s) (nI d) σ = some (r, τ) := by
      unfold XX9_bears XX10_bears
      rw [c_hasCell hc.1 s6 d14, if_pos hx, lt_def, m_isAt (hr1.1 8 (by omega)) (by omega) (hr1.1 0 (by omega)) (by omega), if_pos hx]
      simp only [b1]
      rw [if_neg (show ¬ (1 : Int32) = 0 by decide), if_neg (show ¬ (1 : Int32) = 0 by decide), fm, g1]
      simp only []
      by_cases q : ∀ e, e < V 0 0 → msV V s e = 0
      · rw [if_pos ((fstD_none (D := V 0 0) (by omega) (V 0 0) 0 (by omega)).mpr (fun j _ h2 => by rw [q j h2]; rfl))]
        rw [c_spare hw hc.1 hs (vis_lt hw s) (hc.2.1.1 s (by omega)) (E := fun e => stk (V 4 s) (V 3 s) (V 5 s) (aq V s) (e + 1)) (fun e _ => by have := stk_lt hw (v := V 5 s) (A := aq V s) (d := e + 1) hs; omega) (fun e he => (hc.2.1.2.2.1 s e hs he).2.1) hd]
        have ea : askP (aq V s) d 0 = aq V s := by
          funext e
          unfold askP
          split <;> rfl
        obtain ⟨τ, k1⟩ := bears_loop hw hs hd (fun e he => q e he) (spB (V 4 s) (V 3 s) (V 5 s) (aq V s) (V 0 0) d + 1) 0 FUEL τ1 (by omega) (by
          have := spF_le (v := V 5 s) (E := fun e => stk (V 4 s) (V 3 s) (V 5 s) (aq V s) (e + 1)) (V 0 0 - (d + 1)) (d + 1) (min 99 (stk (V 4 s) (V 3 s) (V 5 s) (aq V s) (d + 1)))
          unfold spB FUEL
          omega) g2 (fun e he => by rw [ea]; exact g3 s e hs he) (fun e he => by rw [ea]; exact g4 s e hs he)
        exact ⟨_, _, rfl, k1⟩
      · have n1 : ¬ fstD (fun e => decide (0 < msV V s e)) (V 0 0) 0 = -1 := fun z => q (fun e he => by
          have := (fstD_none (D := V 0 0) (by omega) (V 0 0) 0 (by omega)).mp z e (Nat.zero_le _) he
          simp at this
          exact this)
        rw [if_neg n1, show FUEL = 999999 + 1 from rfl, LX10_bears_22, m_lostBy hw g2 hs (f := msV V s) (fun e he => (g4 s e hs he).2.2), if_neg (show ¬ (99 : Int32) ≤ -1 by decide)]
        simp only [b1]
        have bd : sumN (msV V s) (V 0 0) ≤ V 0 0 * 1000000 := sumN_le (fun e he => by have := ms_lt hw hs he; omega)
        rw [if_neg (show ¬ nI (sumN (msV V s) (V 0 0)) = 0 from fun z => q (sumN_zero.mp ((nI_eqi (b := 0) (by omega) (by omega)).mp z)))]
        exact ⟨_, _, rfl, rfl⟩
    obtain ⟨r, τ, e1, e2⟩ := key
    exact ⟨r, τ, e1, e2, V, h.look (frX10_bears e2) rfl rfl⟩
  · have e1 : XX9_bears x y σ = some (-1) := by
      unfold XX9_bears
      rw [c_hasCell hc.1 s6 d14, if_neg hx]
      rfl
    have e2 : XX10_bears x y σ = some (-1, up σ 64 0 0) := by
      unfold XX10_bears
      rw [lt_def, m_isAt (hr1.1 8 (by omega)) (by omega) (hr1.1 0 (by omega)) (by omega), if_neg hx]
      rfl
    exact ⟨_, _, e1, e2, V, h.look (fr_upf (a := 64) (i := 0)) rfl rfl⟩
