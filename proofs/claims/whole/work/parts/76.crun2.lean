/-! THE CLASS: runFrom -/
def sumI (f : Nat → Int32) : Nat → Int32
  | 0 => 0
  | n + 1 => sumI f n + f n
theorem sumI_ext {f g : Nat → Int32} : ∀ {n : Nat}, (∀ i, i < n → f i = g i) → sumI f n = sumI g n
  | 0, _ => rfl
  | n + 1, h => by
    show sumI f n + f n = sumI g n + g n
    rw [sumI_ext (fun i hi => h i (by omega)), h n (by omega)]
theorem sumI_upd {f g : Nat → Int32} {j : Nat} : ∀ {n : Nat}, j < n → (∀ i, i < n → i ≠ j → g i = f i) → sumI g n = sumI f n + (g j - f j)
  | 0, h, _ => absurd h (by omega)
  | n + 1, h, hg => by
    show sumI g n + g n = sumI f n + f n + (g j - f j)
    by_cases q : j = n
    · subst q
      rw [sumI_ext (g := f) (fun i hi => hg i (by omega) (by omega))]
      grind
    · rw [sumI_upd (f := f) (g := g) (j := j) (n := n) (by omega) (fun i hi hj => hg i (by omega) hj), hg n (by omega) (by omega)]
      grind
theorem sumI_nI {f : Nat → Nat} : ∀ {n : Nat}, sumI (fun i => nI (f i)) n = nI (sumN f n)
  | 0 => rfl
  | n + 1 => by
    show sumI (fun i => nI (f i)) n + nI (f n) = nI (sumN f n + f n)
    rw [sumI_nI, nI_add]
def tot2 (f : Nat → Int32) (S D : Nat) : Int32 := sumI (fun s => sumI (fun d => f (14 * s + d)) D) S
theorem tot2_upd {f g : Nat → Int32} {s d S D : Nat} (hs : s < S) (hd : d < D) (hD : D ≤ 14) (hg : ∀ i, i ≠ 14 * s + d → g i = f i) : tot2 g S D = tot2 f S D + (g (14 * s + d) - f (14 * s + d)) := by
  have h1 := sumI_upd (f := fun d => f (14 * s + d)) (g := fun d => g (14 * s + d)) (j := d) (n := D) hd (fun i hi hij => hg _ (by omega))
  have h2 := sumI_upd (f := fun s => sumI (fun d => f (14 * s + d)) D) (g := fun s => sumI (fun d => g (14 * s + d)) D) (j := s) (n := S) hs (fun i hi hij => sumI_ext (fun e he => hg _ (by omega)))
  unfold tot2
  rw [h2]
  show _ + (sumI (fun d => g (14 * s + d)) D - sumI (fun d => f (14 * s + d)) D) = _
  rw [h1]
  grind
/-- the town's cells -/
def TC (V : Vw) (σ : Sg) : Prop := σ 2 0 = nI (V 0 0) ∧ σ 2 1 = nI (V 0 3) ∧ σ 2 2 = nI (V 0 4) ∧ σ 2 3 = nI (V 0 5) ∧ σ 2 4 = nI (V 0 6) ∧ σ 2 5 = nI (V 0 7) ∧ σ 2 6 = nI (V 0 8) ∧ σ 2 7 = nI (V 0 9)
  ∧ (∀ s, s < V 0 8 → σ 3 s = nI (V 1 s) ∧ σ 4 s = nI (V 2 s) ∧ σ 5 s = nI (V 3 s) ∧ σ 6 s = nI (V 4 s)) ∧ σ 3 6 = nI (V 1 6) ∧ σ 4 6 = nI (V 2 6)
  ∧ (∀ s d, s < V 0 8 → d < V 0 0 → σ 7 (14 * s + d) = nI (aq V s d)) ∧ (∀ k, k < V 0 9 → σ 8 k = nI (V 7 k) ∧ σ 9 k = nI (V 8 k))
theorem TC.off {V : Vw} {σ τ : Sg} (h : TC V σ) (hf : ∀ k, 2 ≤ k → k ≤ 9 → τ k = σ k) : TC V τ := by
  unfold TC at h ⊢
  rw [hf 2 (by omega) (by omega), hf 3 (by omega) (by omega), hf 4 (by omega) (by omega), hf 5 (by omega) (by omega), hf 6 (by omega) (by omega), hf 7 (by omega) (by omega), hf 8 (by omega) (by omega), hf 9 (by omega) (by omega)]
  exact h
/-- what of a run holds also while it is changed: the sums, the days' prices, no loads beside -/
def WK (V : Vw) (pr : (Nat → Int32) → Int32) (k : Nat) (σ : Sg) : Prop := σ k 5 = tot2 (σ (k + 5)) (V 0 8) (V 0 0) ∧ σ k 6 = tot2 (σ (k + 4)) (V 0 8) (V 0 0) ∧ (∀ e, e < V 0 0 → σ (k + 6) e = -1 ∨ σ (k + 6) e = pr (fun s => σ (k + 3) (14 * s + e))) ∧ (∀ s d, s < 6 → d < 14 → ¬ (s < V 0 8 ∧ d < V 0 0) → σ (k + 3) (14 * s + d) = 0)
/-- the rows of a shop's run -/
def rowC (V : Vw) (k s vis : Nat) (ask : Nat → Nat) (d : Nat) (σ : Sg) : Prop := σ (k + 3) (14 * s + d) = nI (rload (V 4 s) (V 3 s) vis ask d) ∧ σ (k + 4) (14 * s + d) = nI (stk (V 4 s) (V 3 s) vis ask (d + 1)) ∧ σ (k + 5) (14 * s + d) = nI (rmiss (V 4 s) (V 3 s) vis ask d)
/-- rows that follow each other, from a stock on -/
def LCs (sh v : Nat) (A L E M : Nat → Nat) (e : Nat) : Prop := L e = (if v.testBit e then sh - E (e - 1) else 0) ∧ E e = (if v.testBit e then sh else E (e - 1)) - A e ∧ M e = A e - (if v.testBit e then sh else E (e - 1))
theorem LCs_run {fi sh v : Nat} {A L E M : Nat → Nat} {d D : Nat} (h0 : E d = stk fi sh v A (d + 1)) (h : ∀ e, d < e → e < D → LCs sh v A L E M e) : ∀ e, d < e → e < D → L e = rload fi sh v A e ∧ E e = stk fi sh v A (e + 1) ∧ M e = rmiss fi sh v A e := by
  have key : ∀ m e, e = d + 1 + m → e < D → L e = rload fi sh v A e ∧ E e = stk fi sh v A (e + 1) ∧ M e = rmiss fi sh v A e := by
    intro m
    induction m with
    | zero =>
      intro e he hD
      obtain ⟨h1, h2, h3⟩ := h e (by omega) hD
      have e1 : e - 1 = d := by omega
      rw [e1, h0] at h1 h2 h3
      have e2 : d + 1 = e := by omega
      rw [e2] at h1 h2 h3
      exact ⟨h1, h2, h3⟩
    | succ m ih =>
      intro e he hD
      obtain ⟨h1, h2, h3⟩ := h e (by omega) hD
      have q := (ih (e - 1) (by omega) (by omega)).2.1
      have e2 : e - 1 + 1 = e := by omega
      rw [e2] at q
      rw [q] at h1 h2 h3
      exact ⟨h1, h2, h3⟩
  intro e h1 h2
  exact key (e - d - 1) e (by omega) h2
theorem runFrom_loop {V : Vw} (hw : WF V) {pr : (Nat → Int32) → Int32} (hpr : ∀ f g : Nat → Int32, (∀ s, s < 6 → f s = g s) → pr f = pr g) {k s v : Nat} {A L0 E0 M0 : Nat → Nat} {c : Int32} (hk : 10 ≤ k) (hs : s < V 0 8) (hv : v < 2147483648) (hla : ∀ d, d < V 0 0 → A d < 1000000) (hle : ∀ d, d < V 0 0 → E0 d < 1000000)
    (EC : ∀ e, e < V 0 0 → ush c (nI (e + 1)) = 0 → ∀ e', e < e' → e' < V 0 0 → LCs (V 3 s) v A L0 E0 M0 e') : ∀ m d n σ, d + m = V 0 0 → m < n → TC V σ → WK V pr k σ → σ (k + 1) s = nI v → (∀ e, e < V 0 0 → σ (k + 2) (14 * s + e) = nI (A e)) → (∀ e, e < d → rowC V k s v A e σ) → (∀ e, d ≤ e → e < V 0 0 → σ (k + 3) (14 * s + e) = nI (L0 e) ∧ σ (k + 4) (14 * s + e) = nI (E0 e) ∧ σ (k + 5) (14 * s + e) = nI (M0 e)) →
    ∃ τ, LX5_runFrom_11 k (nI s) c n (nI (stk (V 4 s) (V 3 s) v A d)) (nI d) σ = some τ ∧ WK V pr k τ ∧ (∀ e, e < V 0 0 → rowC V k s v A e τ) ∧ (∀ i, (i < 14 * s ∨ 14 * s + 14 ≤ i) → τ (k + 3) i = σ (k + 3) i ∧ τ (k + 4) i = σ (k + 4) i ∧ τ (k + 5) i = σ (k + 5) i) ∧ fr (runS k) σ τ := by
  have w0 := hw.1.2
  have w8 : V 0 8 ≤ 6 := hw.2.2.2.2.2.2.1
  have wt : V 0 3 ≤ 99 := hw.2.1.2
  obtain ⟨-, -, s1, s2, s3⟩ := hw.2.2.2.2.2.2.2.2.2.2.2.2.1 s hs
  intro m
  induction m with
  | zero =>
    intro d n σ hd hn ht hwk hvis hask hnew hold
    obtain ⟨n, rfl⟩ : ∃ q, n = q + 1 := ⟨n - 1, by omega⟩
    have hd : d = V 0 0 := by omega
    subst hd
    refine ⟨σ, ?_, hwk, hnew, fun _ _ => ⟨rfl, rfl, rfl⟩, fr.rf⟩
    rw [LX5_runFrom_11, ht.1, if_pos (by rw [nI_lei] <;> omega)]
  | succ m ih =>
    intro d n σ hd hn ht hwk hvis hask hnew hold
    obtain ⟨n, rfl⟩ : ∃ q, n = q + 1 := ⟨n - 1, by omega⟩
    have hp := stk_le (vis := v) (ask := A) s3 d
    obtain ⟨τ0, st, t3, t4, t5, tm, tl, t6, hf⟩ := runFrom_step (n := n) (c := c) hk ht.1 w0 (show s < 6 by omega) hv (ht.2.2.2.2.2.2.2.2.1 s hs).2.2.1 (by omega) hp hvis (hask d (by omega)) (hla d (by omega)) (show d < V 0 0 by omega)
    have ht0 : TC V τ0 := ht.off (fun j j1 j2 => hf.cell (by simp; omega))
    have hvis0 : τ0 (k + 1) s = nI v := by rw [hf.cell (k := k + 1) (by simp)]; exact hvis
    have hask0 : ∀ e, e < V 0 0 → τ0 (k + 2) (14 * s + e) = nI (A e) := fun e he => by rw [hf.cell (k := k + 2) (by simp)]; exact hask e he
    have hwk0 : WK V pr k τ0 := by
      obtain ⟨q1, q2, q3, q4⟩ := hwk
      refine ⟨?_, ?_, ?_, ?_⟩
      · rw [tm, q1, tot2_upd (f := σ (k + 5)) (g := τ0 (k + 5)) hs (show d < V 0 0 by omega) w0 (fun i hi => by rw [t5, if_neg hi]), t5, if_pos rfl]
      · rw [tl, q2, tot2_upd (f := σ (k + 4)) (g := τ0 (k + 4)) hs (show d < V 0 0 by omega) w0 (fun i hi => by rw [t4, if_neg hi]), t4, if_pos rfl]
      · intro e he
        rw [t6]
        by_cases r : e = d ∧ ¬ nI (if v.testBit d then V 3 s - stk (V 4 s) (V 3 s) v A d else 0) = σ (k + 3) (14 * s + d)
        · rw [if_pos r]
          exact Or.inl rfl
        · rw [if_neg r]
          rcases q3 e he with z | z
          · exact Or.inl z
          · refine Or.inr (z.trans (hpr _ _ (fun t _ => ?_)))
            rw [t3]
            by_cases r2 : 14 * t + e = 14 * s + d
            · rw [if_pos r2, r2]
              have e1 : e = d := by omega
              exact (Classical.not_not.mp (fun z2 => r ⟨e1, z2⟩)).symm
            · rw [if_neg r2]
      · intro t e ht1 he1 hte
        rw [t3, if_neg (by intro z; exact hte ⟨by omega, by omega⟩)]
        exact q4 t e ht1 he1 hte
    have hrow : rowC V k s v A d τ0 := ⟨by rw [t3, if_pos rfl]; rfl, by rw [t4, if_pos rfl]; rfl, by rw [t5, if_pos rfl]; rfl⟩
    have hnew0 : ∀ e, e < d + 1 → rowC V k s v A e τ0 := fun e he => by
      by_cases r : e = d
      · rw [r]; exact hrow
      · obtain ⟨z1, z2, z3⟩ := hnew e (by omega)
        exact ⟨by rw [t3, if_neg (by omega)]; exact z1, by rw [t4, if_neg (by omega)]; exact z2, by rw [t5, if_neg (by omega)]; exact z3⟩
    have hold0 : ∀ e, d + 1 ≤ e → e < V 0 0 → τ0 (k + 3) (14 * s + e) = nI (L0 e) ∧ τ0 (k + 4) (14 * s + e) = nI (E0 e) ∧ τ0 (k + 5) (14 * s + e) = nI (M0 e) := fun e h1 h2 => by
      rw [t3, t4, t5, if_neg (by omega), if_neg (by omega), if_neg (by omega)]
      exact hold e (by omega) h2
    have hout : ∀ i, (i < 14 * s ∨ 14 * s + 14 ≤ i) → τ0 (k + 3) i = σ (k + 3) i ∧ τ0 (k + 4) i = σ (k + 4) i ∧ τ0 (k + 5) i = σ (k + 5) i := fun i hi => by
      rw [t3, t4, t5, if_neg (by omega), if_neg (by omega), if_neg (by omega)]
      exact ⟨rfl, rfl, rfl⟩
    by_cases ex : nI ((if v.testBit d then V 3 s else stk (V 4 s) (V 3 s) v A d) - A d) = σ (k + 4) (14 * s + d) ∧ ush c (nI (d + 1)) = 0
    · rw [if_pos ex] at st
      refine ⟨τ0, st, hwk0, fun e he => ?_, hout, hf⟩
      by_cases r : e ≤ d
      · exact hnew0 e (by omega)
      · have e0 : E0 d = stk (V 4 s) (V 3 s) v A (d + 1) := by
          have z := ex.1
          rw [(hold d (Nat.le_refl d) (by omega)).2.1] at z
          have z2 := stk_le (vis := v) (ask := A) s3 (d + 1)
          have z3 : (if v.testBit d then V 3 s else stk (V 4 s) (V 3 s) v A d) - A d = stk (V 4 s) (V 3 s) v A (d + 1) := rfl
          rw [z3] at z
          exact ((nI_eqi (by omega) (by have := hle d (by omega); omega)).mp z).symm
        obtain ⟨z1, z2, z3⟩ := LCs_run e0 (fun e' h1 h2 => EC d (by omega) ex.2 e' h1 h2) e (by omega) he
        obtain ⟨y1, y2, y3⟩ := hold0 e (by omega) he
        exact ⟨by rw [y1, z1], by rw [y2, z2], by rw [y3, z3]⟩
    · rw [if_neg ex] at st
      obtain ⟨τ, g1, g2, g3, g4, g5⟩ := ih (d + 1) n τ0 (by omega) (by omega) ht0 hwk0 hvis0 hask0 hnew0 hold0
      refine ⟨τ, st.trans g1, g2, g3, fun i hi => ?_, hf.tr g5⟩
      obtain ⟨z1, z2, z3⟩ := g4 i hi
      obtain ⟨y1, y2, y3⟩ := hout i hi
      exact ⟨z1.trans y1, z2.trans y2, z3.trans y3⟩
