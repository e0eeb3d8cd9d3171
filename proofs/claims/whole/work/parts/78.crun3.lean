/-! THE CLASS: visits change, what is asked for changes -/
def RN (V : Vw) (pr : (Nat → Int32) → Int32) (k : Nat) (vis : Nat → Nat) (ask : Nat → Nat → Nat) (σ : Sg) : Prop := (∀ s, s < 6 → σ (k + 1) s = nI (vis s)) ∧ (∀ s d, s < V 0 8 → d < V 0 0 → σ (k + 2) (14 * s + d) = nI (ask s d)) ∧ (∀ s d, s < V 0 8 → d < V 0 0 → rowC V k s (vis s) (ask s) d σ) ∧ WK V pr k σ
def prC (pr : (Nat → Int32) → Int32) : Prop := ∀ f g : Nat → Int32, (∀ s, s < 6 → f s = g s) → pr f = pr g
def updN (f : Nat → Nat) (s v : Nat) : Nat → Nat := fun t => if t = s then v else f t
theorem stk_congr {fi sh v v' : Nat} {A A' : Nat → Nat} : ∀ {d : Nat}, (∀ e, e < d → v.testBit e = v'.testBit e) → (∀ e, e < d → A e = A' e) → stk fi sh v A d = stk fi sh v' A' d
  | 0, _, _ => rfl
  | d + 1, h1, h2 => by
    show (if v.testBit d then sh else stk fi sh v A d) - A d = (if v'.testBit d then sh else stk fi sh v' A' d) - A' d
    rw [h1 d (by omega), h2 d (by omega), stk_congr (d := d) (fun e he => h1 e (by omega)) (fun e he => h2 e (by omega))]
theorem rowC_congr {V : Vw} {k s v v' d : Nat} {A : Nat → Nat} {σ : Sg} (h : rowC V k s v A d σ) (hb : ∀ e, e ≤ d → v.testBit e = v'.testBit e) : rowC V k s v' A d σ := by
  obtain ⟨h1, h2, h3⟩ := h
  have e1 := stk_congr (fi := V 4 s) (sh := V 3 s) (A := A) (A' := A) (d := d) (fun e he => hb e (by omega)) (fun _ _ => rfl)
  have e2 := stk_congr (fi := V 4 s) (sh := V 3 s) (A := A) (A' := A) (d := d + 1) (fun e he => hb e (by omega)) (fun _ _ => rfl)
  refine ⟨?_, by rw [h2, e2], ?_⟩
  · rw [h1]
    unfold rload
    rw [e1, hb d (Nat.le_refl d)]
  · rw [h3]
    unfold rmiss
    rw [e1, hb d (Nat.le_refl d)]
theorem c_morning {V : Vw} {k s d : Nat} {σ : Sg} (ht : TC V σ) (hs : s < V 0 8) (h8 : V 0 8 ≤ 6) (hd : d < V 0 0) (h0 : V 0 0 ≤ 14) : XX5_morning k (nI s) (nI d) σ = some (if d = 0 then nI (V 4 s) else σ (k + 4) (14 * s + (d - 1))) := by
  unfold XX5_morning
  simp only [nI_lit]
  by_cases q : d = 0
  · rw [if_pos q, if_pos (by rw [q]), if_pos ((ib_nI (by omega)).mpr (by omega)), nI_cl (by omega), (ht.2.2.2.2.2.2.2.2.1 s hs).2.2.2]
  · rw [if_neg q, if_neg (nI_ne (by omega) (by omega) q), pk_sub (by omega), c_cellOf]
    simp only [b1]
    rw [if_pos ((ib_nI (by omega)).mpr (by omega)), nI_cl (by omega)]
theorem fr.slot {S : List (Nat × Option Nat)} {σ τ : Sg} (h : fr S σ τ) {k i : Nat} (hk : S.all (fun q => q.1 != k || (q.2 != none && q.2 != some i)) = true) : τ k i = σ k i := by
  have h1 := List.all_eq_true.mp hk
  refine h k i (fun q => ?_) (fun q => ?_)
  · simpa using h1 _ q
  · simpa using h1 _ q
theorem c_runFrom {V : Vw} (hw : WF V) {pr : (Nat → Int32) → Int32} (hpr : prC pr) {k s v f : Nat} {A L0 E0 M0 : Nat → Nat} {c : Int32} {σ : Sg} (hk : 10 ≤ k) (hs : s < V 0 8) (hf : f < V 0 0) (hv : v < 2147483648) (hla : ∀ d, d < V 0 0 → A d < 1000000) (hle : ∀ d, d < V 0 0 → E0 d < 1000000)
    (EC : ∀ e, e < V 0 0 → ush c (nI (e + 1)) = 0 → ∀ e', e < e' → e' < V 0 0 → LCs (V 3 s) v A L0 E0 M0 e') (ht : TC V σ) (hwk : WK V pr k σ) (hvis : σ (k + 1) s = nI v) (hask : ∀ e, e < V 0 0 → σ (k + 2) (14 * s + e) = nI (A e)) (hnew : ∀ e, e < f → rowC V k s v A e σ) (hold : ∀ e, f ≤ e → e < V 0 0 → σ (k + 3) (14 * s + e) = nI (L0 e) ∧ σ (k + 4) (14 * s + e) = nI (E0 e) ∧ σ (k + 5) (14 * s + e) = nI (M0 e)) :
    ∃ τ, XX5_runFrom k (nI s) (nI f) c σ = some τ ∧ WK V pr k τ ∧ (∀ e, e < V 0 0 → rowC V k s v A e τ) ∧ (∀ i, (i < 14 * s ∨ 14 * s + 14 ≤ i) → τ (k + 3) i = σ (k + 3) i ∧ τ (k + 4) i = σ (k + 4) i ∧ τ (k + 5) i = σ (k + 5) i) ∧ fr (runS k) σ τ := by
  have w0 := hw.1.2
  have w8 : V 0 8 ≤ 6 := hw.2.2.2.2.2.2.1
  obtain ⟨τ, h1, h2⟩ := runFrom_loop hw hpr hk hs hv hla hle EC (V 0 0 - f) f FUEL σ (by omega) (by unfold FUEL; omega) ht hwk hvis hask hnew hold
  refine ⟨τ, ?_, h2⟩
  unfold XX5_runFrom
  rw [c_morning ht hs w8 hf w0]
  simp only [b1]
  have e : (if f = 0 then nI (V 4 s) else σ (k + 4) (14 * s + (f - 1))) = nI (stk (V 4 s) (V 3 s) v A f) := by
    by_cases q : f = 0
    · rw [if_pos q, q]
      rfl
    · rw [if_neg q, (hnew (f - 1) (by omega)).2.1, show f - 1 + 1 = f by omega]
  rw [e]
  exact h1
theorem c_setVisits {V : Vw} (hw : WF V) {pr : (Nat → Int32) → Int32} (hpr : prC pr) {k s b : Nat} {vis : Nat → Nat} {ask : Nat → Nat → Nat} {σ : Sg} (hk : 10 ≤ k) (hs : s < V 0 8) (hb : b < 2 ^ V 0 0) (hvs : vis s < 2 ^ V 0 0) (hla : ∀ s d, s < V 0 8 → d < V 0 0 → ask s d < 1000000) (ht : TC V σ) (hr : RN V pr k vis ask σ) :
    ∃ τ, XX5_setVisits k (nI s) (nI b) σ = some τ ∧ RN V pr k (updN vis s b) ask τ ∧ fr ((k + 1, none) :: runS k) σ τ := by
  have w0 := hw.1.2
  have w8 : V 0 8 ≤ 6 := hw.2.2.2.2.2.2.1
  have wt : V 0 3 ≤ 99 := hw.2.1.2
  obtain ⟨-, -, s1, s2, s3⟩ := hw.2.2.2.2.2.2.2.2.2.2.2.2.1 s hs
  have p14 : 2 ^ V 0 0 ≤ 2 ^ 14 := Nat.pow_le_pow_right (by omega) w0
  obtain ⟨r1, r2, r3, r4⟩ := hr
  have hx : vis s ^^^ b < 2 ^ V 0 0 := Nat.xor_lt_two_pow hvs hb
  unfold XX5_setVisits
  rw [if_pos ((ib_nI (by omega)).mpr (by omega)), nI_cl (by omega), r1 s (by omega), nx_xor]
  simp only [lt, nI_lit]
  by_cases q : vis s ^^^ b = 0
  · have eb : vis s = b := by
      have h1 : (vis s ^^^ b) ^^^ b = 0 ^^^ b := by rw [q]
      rw [Nat.xor_assoc, Nat.xor_self, Nat.xor_zero, Nat.zero_xor] at h1
      exact h1
    rw [q, if_pos rfl]
    refine ⟨σ, rfl, ?_, fr.rf⟩
    have eu : updN vis s b = vis := by
      funext t
      unfold updN
      by_cases z : t = s
      · rw [if_pos z, z, eb]
      · rw [if_neg z]
    rw [eu]
    exact ⟨r1, r2, r3, r4⟩
  · rw [if_neg (nI_ne (by omega) (by omega) q)]
    have hl := low_lt 14 (vis s ^^^ b) (by omega) q
    have hlow : lowJ 14 (vis s ^^^ b) < V 0 0 := by
      rcases Nat.lt_or_ge (lowJ 14 (vis s ^^^ b)) (V 0 0) with z | z
      · exact z
      · exfalso
        apply q
        apply Nat.eq_of_testBit_eq
        intro i
        rw [Nat.zero_testBit]
        rcases Nat.lt_or_ge i (V 0 0) with y | y
        · exact hl.2 i (by omega)
        · exact Nat.testBit_lt_two_pow (Nat.lt_of_lt_of_le hx (Nat.pow_le_pow_right (by omega) y))
    have e1 := c_low (c := vis s ^^^ b) (by omega) q
    rw [nI_lit] at e1
    rw [e1]
    simp only [b1]
    have f0 : fr [(k + 1, none)] σ (up σ (k + 1) s (nI b)) := fr_up
    obtain ⟨σ1, hσ1⟩ : ∃ σ1, σ1 = up σ (k + 1) s (nI b) := ⟨_, rfl⟩
    rw [← hσ1] at f0 ⊢
    have c3 : σ1 (k + 3) = σ (k + 3) := f0.cell (by simp)
    have c4 : σ1 (k + 4) = σ (k + 4) := f0.cell (by simp)
    have c5 : σ1 (k + 5) = σ (k + 5) := f0.cell (by simp)
    have c6 : σ1 (k + 6) = σ (k + 6) := f0.cell (by simp)
    have c2 : σ1 (k + 2) = σ (k + 2) := f0.cell (by simp)
    have ck : σ1 k = σ k := f0.cell (by simp)
    have bits : ∀ e, (vis s ^^^ b).testBit e = false → (vis s).testBit e = b.testBit e := fun e he => by
      rw [Nat.testBit_xor] at he
      cases h1 : (vis s).testBit e <;> cases h2 : b.testBit e <;> simp [h1, h2] at he ⊢
    have rc : ∀ t e, t < V 0 8 → e < V 0 0 → rowC V k t (vis t) (ask t) e σ1 := fun t e h1 h2 => by
      unfold rowC
      rw [c3, c4, c5]
      exact r3 t e h1 h2
    obtain ⟨τ, g1, g2, g3, g4, g5⟩ := c_runFrom hw hpr (k := k) (s := s) (v := b) (f := lowJ 14 (vis s ^^^ b)) (A := ask s) (L0 := rload (V 4 s) (V 3 s) (vis s) (ask s)) (E0 := fun e => stk (V 4 s) (V 3 s) (vis s) (ask s) (e + 1)) (M0 := rmiss (V 4 s) (V 3 s) (vis s) (ask s)) (c := nI (vis s ^^^ b)) (σ := σ1) hk hs hlow (by omega) (fun d hd => hla s d hs hd) (fun d hd => by
        have := stk_le (vis := vis s) (ask := ask s) s3 (d + 1)
        show stk (V 4 s) (V 3 s) (vis s) (ask s) (d + 1) < 1000000
        omega)
      (fun e he hu e' h1 h2 => by
        rw [ush_nI (by omega) (by omega)] at hu
        have z0 : (vis s ^^^ b) >>> (e + 1) = 0 := by
          have z1 : (vis s ^^^ b) >>> (e + 1) ≤ vis s ^^^ b := by
            rw [Nat.shiftRight_eq_div_pow]
            exact Nat.div_le_self _ _
          exact (nI_eqi (b := 0) (by omega) (by omega)).mp hu
        have z2 : (vis s).testBit e' = b.testBit e' := bits e' (by
          have z3 : (vis s ^^^ b).testBit (e + 1 + (e' - e - 1)) = ((vis s ^^^ b) >>> (e + 1)).testBit (e' - e - 1) := (Nat.testBit_shiftRight ..).symm
          rw [z0, Nat.zero_testBit, show e + 1 + (e' - e - 1) = e' by omega] at z3
          exact z3)
        have z4 : e' - 1 + 1 = e' := by omega
        unfold LCs
        rw [← z2]
        dsimp only
        rw [z4]
        exact ⟨rfl, rfl, rfl⟩)
      (ht.off (fun j j1 j2 => f0.cell (by simp; omega)))
      (by
        obtain ⟨q1, q2, q3, q4⟩ := r4
        unfold WK
        rw [ck, c3, c4, c5, c6]
        exact ⟨q1, q2, q3, q4⟩)
      (by rw [hσ1, up_same])
      (fun e he => by rw [c2]; exact r2 s e hs he)
      (fun e he => rowC_congr (rc s e hs (by omega)) (fun e' he' => bits e' (hl.2 e' (by omega))))
      (fun e h1 h2 => by
        obtain ⟨y1, y2, y3⟩ := rc s e hs h2
        exact ⟨y1, y2, y3⟩)
    refine ⟨τ, ?_, ⟨?_, ?_, ?_, g2⟩, (f0.mono (by simp)).tr (g5.mono (by simp))⟩
    · rw [g1]
    · intro t ht6
      rw [g5.cell (k := k + 1) (by simp)]
      unfold updN
      by_cases z : t = s
      · rw [if_pos z, z, hσ1, up_same]
      · rw [if_neg z, hσ1, up_slot z]
        exact r1 t ht6
    · intro t e h1 h2
      rw [g5.cell (k := k + 2) (by simp), c2]
      exact r2 t e h1 h2
    · intro t e h1 h2
      unfold updN
      by_cases z : t = s
      · rw [if_pos z, z]
        exact g3 e h2
      · rw [if_neg z]
        obtain ⟨y1, y2, y3⟩ := g4 (14 * t + e) (by omega)
        unfold rowC
        rw [y1, y2, y3]
        exact rc t e h1 h2
