/-! THE CLASS: askPercent, takeOver, dropVisits, counts -/
/-- rows of small numbers, whatever they are -/
def RW (V : Vw) (k : Nat) (σ : Sg) : Prop := ∃ L E M : Nat → Nat → Nat, ∀ s d, s < V 0 8 → d < V 0 0 → E s d < 1000000 ∧ σ (k + 3) (14 * s + d) = nI (L s d) ∧ σ (k + 4) (14 * s + d) = nI (E s d) ∧ σ (k + 5) (14 * s + d) = nI (M s d)
theorem RN.rw {V : Vw} (hw : WF V) {pr : (Nat → Int32) → Int32} {k : Nat} {vis : Nat → Nat} {ask : Nat → Nat → Nat} {σ : Sg} (h : RN V pr k vis ask σ) : RW V k σ := by
  have wt : V 0 3 ≤ 99 := hw.2.1.2
  refine ⟨fun s d => rload (V 4 s) (V 3 s) (vis s) (ask s) d, fun s d => stk (V 4 s) (V 3 s) (vis s) (ask s) (d + 1), fun s d => rmiss (V 4 s) (V 3 s) (vis s) (ask s) d, fun s d hs hd => ?_⟩
  obtain ⟨-, -, s1, s2, s3⟩ := hw.2.2.2.2.2.2.2.2.2.2.2.2.1 s hs
  have := stk_le (vis := vis s) (ask := ask s) s3 (d + 1)
  obtain ⟨y1, y2, y3⟩ := h.2.2.1 s d hs hd
  exact ⟨by show stk _ _ _ _ _ < 1000000; omega, y1, y2, y3⟩
theorem askP_fill {k pct : Nat} (hp : pct ≤ 300) (hk : 10 ≤ k) (K : Sg → Option Sg) : ∀ m i n σ, i + m = 84 → m < n → ∃ τ, LX5_askPercent_2 k (nI pct) K n (nI i) σ = K τ ∧ (∀ c a, i ≤ c → c < 84 → a ≤ 100000 → σ 7 c = nI a → τ (k + 2) c = nI (a * pct / 100)) ∧ (∀ c, c < i → τ (k + 2) c = σ (k + 2) c) ∧ fr [(k + 2, none)] σ τ := by
  intro m
  induction m with
  | zero =>
    intro i n σ hi hn
    obtain ⟨n, rfl⟩ : ∃ q, n = q + 1 := ⟨n - 1, by omega⟩
    refine ⟨σ, ?_, fun c a h1 h2 => absurd h2 (by omega), fun _ _ => rfl, fr.rf⟩
    rw [LX5_askPercent_2]
    simp only [nI_lit]
    rw [if_pos (by rw [nI_lei] <;> omega)]
  | succ m ih =>
    intro i n σ hi hn
    obtain ⟨n, rfl⟩ : ∃ q, n = q + 1 := ⟨n - 1, by omega⟩
    obtain ⟨v, hv⟩ : ∃ v, v = σ 7 i * nI pct / nI 100 := ⟨_, rfl⟩
    have hf : fr [(k + 2, none)] σ (up σ (k + 2) i v) := fr_up
    obtain ⟨τ, h1, h2, h3, h4⟩ := ih (i + 1) n (up σ (k + 2) i v) (by omega) (by omega)
    refine ⟨τ, ?_, fun c a g1 g2 g3 g4 => ?_, fun c hc => ?_, hf.tr h4⟩
    · rw [LX5_askPercent_2]
      simp only [nI_lit]
      rw [if_neg (by rw [nI_lei] <;> omega), if_pos ((ib_nI (by omega)).mpr (by omega)), nI_cl (by omega)]
      simp only [lt]
      rw [nI_add, ← hv]
      exact h1
    · by_cases q : c = i
      · subst q
        rw [h3 c (by omega), up_same, hv, g4, pk_mul]
        have : a * pct ≤ 100000 * 300 := Nat.mul_le_mul g3 hp
        exact pk_div (by omega) (by omega) (by omega)
      · exact h2 c a (by omega) g2 g3 (by rw [up_cell (by omega)]; exact g4)
    · rw [h3 c (by omega), up_slot (by omega)]
theorem ushm1 : ∀ j, j < 15 → ¬ ush (-1) (nI j) = 0 := by decide +kernel
theorem askP_run {V : Vw} (hw : WF V) {pr : (Nat → Int32) → Int32} (hpr : prC pr) {k : Nat} {vis : Nat → Nat} {ask : Nat → Nat → Nat} (hk : 10 ≤ k) (hvs : ∀ s, s < 6 → vis s < 2147483648) (hla : ∀ s d, s < V 0 8 → d < V 0 0 → ask s d < 1000000) : ∀ m s n σ, s + m = V 0 8 → m < n → TC V σ → WK V pr k σ → RW V k σ → (∀ s, s < 6 → σ (k + 1) s = nI (vis s)) → (∀ s d, s < V 0 8 → d < V 0 0 → σ (k + 2) (14 * s + d) = nI (ask s d)) → (∀ t d, t < s → d < V 0 0 → rowC V k t (vis t) (ask t) d σ) → ∃ τ, LX5_askPercent_36 k n (nI s) σ = some τ ∧ RN V pr k vis ask τ ∧ fr (runS k) σ τ := by
  have w0 := hw.1.2
  have w1 := hw.1.1
  have w8 : V 0 8 ≤ 6 := hw.2.2.2.2.2.2.1
  intro m
  induction m with
  | zero =>
    intro s n σ hs hn ht hwk hrw hvis hask hrow
    obtain ⟨n, rfl⟩ : ∃ q, n = q + 1 := ⟨n - 1, by omega⟩
    have hs : s = V 0 8 := by omega
    subst hs
    refine ⟨σ, ?_, ⟨hvis, hask, hrow, hwk⟩, fr.rf⟩
    rw [LX5_askPercent_36, ht.2.2.2.2.2.2.1, if_pos (by rw [nI_lei] <;> omega)]
  | succ m ih =>
    intro s n σ hs hn ht hwk hrw hvis hask hrow
    obtain ⟨n, rfl⟩ : ∃ q, n = q + 1 := ⟨n - 1, by omega⟩
    obtain ⟨L, E, M, hLEM⟩ := hrw
    obtain ⟨τ, g1, g2, g3, g4, g5⟩ := c_runFrom hw hpr (k := k) (s := s) (v := vis s) (f := 0) (A := ask s) (L0 := L s) (E0 := E s) (M0 := M s) (c := -1) (σ := σ) hk (by omega) (by omega) (hvs s (by omega)) (fun d hd => hla s d (by omega) hd) (fun d hd => (hLEM s d (by omega) hd).1) (fun e he hu => absurd hu (ushm1 (e + 1) (by omega))) ht hwk (hvis s (by omega)) (fun e he => hask s e (by omega) he) (fun e he => absurd he (by omega)) (fun e _ h2 => (hLEM s e (by omega) h2).2)
    have hrow2 : ∀ t d, t < s + 1 → d < V 0 0 → rowC V k t (vis t) (ask t) d τ := fun t d h1 h2 => by
      by_cases q : t = s
      · rw [q]; exact g3 d h2
      · obtain ⟨y1, y2, y3⟩ := g4 (14 * t + d) (by omega)
        unfold rowC
        rw [y1, y2, y3]
        exact hrow t d (by omega) h2
    have hrw2 : RW V k τ := by
      have wt : V 0 3 ≤ 99 := hw.2.1.2
      refine ⟨fun t d => if t = s then rload (V 4 s) (V 3 s) (vis s) (ask s) d else L t d, fun t d => if t = s then stk (V 4 s) (V 3 s) (vis s) (ask s) (d + 1) else E t d, fun t d => if t = s then rmiss (V 4 s) (V 3 s) (vis s) (ask s) d else M t d, fun t d h1 h2 => ?_⟩
      by_cases q : t = s
      · subst q
        obtain ⟨-, -, s1, s2, s3⟩ := hw.2.2.2.2.2.2.2.2.2.2.2.2.1 t h1
        have := stk_le (vis := vis t) (ask := ask t) s3 (d + 1)
        obtain ⟨y1, y2, y3⟩ := g3 d h2
        simp only [if_true]
        exact ⟨by omega, y1, y2, y3⟩
      · obtain ⟨y1, y2, y3⟩ := g4 (14 * t + d) (by omega)
        simp only [if_neg q]
        rw [y1, y2, y3]
        exact hLEM t d h1 h2
    obtain ⟨ρ, k1, k2, k3⟩ := ih (s + 1) n τ (by omega) (by omega) (ht.off (fun j j1 j2 => g5.cell (by simp; omega))) g2 hrw2 (fun t h1 => by rw [g5.cell (k := k + 1) (by simp)]; exact hvis t h1) (fun t d h1 h2 => by rw [g5.cell (k := k + 2) (by simp)]; exact hask t d h1 h2) hrow2
    refine ⟨ρ, ?_, k2, g5.tr k3⟩
    rw [LX5_askPercent_36, ht.2.2.2.2.2.2.1, if_neg (by rw [nI_lei] <;> omega)]
    have e0 : (0 : Int32) = nI 0 := rfl
    rw [e0, g1]
    simp only [b1, lt]
    rw [nI_1]
    exact k1
theorem WK.off {V : Vw} {pr : (Nat → Int32) → Int32} {k : Nat} {σ τ : Sg} (h : WK V pr k σ) (e5 : τ k 5 = σ k 5) (e6 : τ k 6 = σ k 6) (c3 : τ (k + 3) = σ (k + 3)) (c4 : τ (k + 4) = σ (k + 4)) (c5 : τ (k + 5) = σ (k + 5)) (c6 : τ (k + 6) = σ (k + 6)) : WK V pr k τ := by
  unfold WK at h ⊢
  rw [e5, e6, c3, c4, c5, c6]
  exact h
theorem c_askPercent {V : Vw} (hw : WF V) {pr : (Nat → Int32) → Int32} (hpr : prC pr) {k pct : Nat} {vis : Nat → Nat} {σ : Sg} (hk : 10 ≤ k) (hp : pct ≤ 300) (hvs : ∀ s, s < 6 → vis s < 2147483648) (ht : TC V σ) (hwk : WK V pr k σ) (hrw : RW V k σ) (hvis : ∀ s, s < 6 → σ (k + 1) s = nI (vis s)) : ∃ τ, XX5_askPercent k (nI pct) σ = some τ ∧ RN V pr k vis (fun s d => aq V s d * pct / 100) τ ∧ fr ((k + 2, none) :: runS k) σ τ := by
  have w0 := hw.1.2
  have w8 : V 0 8 ≤ 6 := hw.2.2.2.2.2.2.1
  obtain ⟨σ1, h1, h2, h3, h4⟩ := askP_fill hp hk (fun σ_1 => LX5_askPercent_36 k FUEL (0 : Int32) σ_1) 84 0 FUEL σ (by omega) (by unfold FUEL; omega)
  have c3 : σ1 (k + 3) = σ (k + 3) := h4.cell (by simp)
  have c4 : σ1 (k + 4) = σ (k + 4) := h4.cell (by simp)
  have c5 : σ1 (k + 5) = σ (k + 5) := h4.cell (by simp)
  have c6 : σ1 (k + 6) = σ (k + 6) := h4.cell (by simp)
  have ck : σ1 k = σ k := h4.cell (by simp)
  obtain ⟨τ, g1, g2, g3⟩ := askP_run hw hpr (k := k) (vis := vis) (ask := fun s d => aq V s d * pct / 100) hk hvs (fun s d hs hd => by
      have := aq_le hw hs hd
      have : aq V s d * pct ≤ 750 * 300 := Nat.mul_le_mul this hp
      show aq V s d * pct / 100 < 1000000
      omega) (V 0 8) 0 FUEL σ1 (by omega) (by unfold FUEL; omega) (ht.off (fun j j1 j2 => h4.cell (by simp; omega))) (hwk.off (by rw [ck]) (by rw [ck]) c3 c4 c5 c6) (by
      obtain ⟨L, E, M, q⟩ := hrw
      exact ⟨L, E, M, fun s d hs hd => by rw [c3, c4, c5]; exact q s d hs hd⟩) (fun s hs => by rw [h4.cell (k := k + 1) (by simp)]; exact hvis s hs) (fun s d hs hd => by
      have := aq_le hw hs hd
      exact h2 (14 * s + d) (aq V s d) (by omega) (by omega) (by omega) (ht.2.2.2.2.2.2.2.2.2.2.2.1 s d hs hd)) (fun t d h => absurd h (by omega))
  refine ⟨τ, ?_, g2, (h4.mono (by simp)).tr (g3.mono (by simp))⟩
  unfold XX5_askPercent
  rw [lt_def]
  have e0 : (0 : Int32) = nI 0 := rfl
  rw [← e0] at h1 g1
  exact h1.trans g1
/-- copies of whole rows -/
theorem cpy_at {σ : Sg} {a b n k i : Nat} : cpy σ a b 0 0 n k i = if k = b ∧ i < n then σ a i else σ k i := by
  unfold cpy setc va_cpy
  by_cases h : k = b
  · subst h
    rw [if_pos rfl]
    by_cases q : i < n
    · rw [if_pos (by omega), if_pos ⟨rfl, q⟩, show 0 + (i - 0) = i by omega]
    · rw [if_neg (by omega), if_neg (fun z => q z.2)]
  · rw [if_neg h, if_neg (fun z => h z.1)]
theorem fr_cpy {σ : Sg} {a b x y n : Nat} : fr [(b, none)] σ (cpy σ a b x y n) := fun k j hk _ => by
  unfold cpy setc
  rw [if_neg (fun q => hk (by rw [q]; exact List.mem_cons_self))]
