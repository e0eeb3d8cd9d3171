/-! THE CLASS: what a run costs -/
theorem ldS_congr {ld ld' : Nat → Nat} {set n : Nat} (h : ∀ s, s < n → ld s = ld' s) : ldS ld set n = ldS ld' set n := sumN_ext (fun i hi => by
  show (if set.testBit i then ld i else 0) = (if set.testBit i then ld' i else 0)
  rw [h i hi])
theorem allS_congr {ld ld' : Nat → Nat} : ∀ {n : Nat}, (∀ s, s < n → ld s = ld' s) → allS ld n = allS ld' n
  | 0, _ => rfl
  | n + 1, h => by
    show allS ld n ||| (if 0 < ld n then 2 ^ n else 0) = allS ld' n ||| (if 0 < ld' n then 2 ^ n else 0)
    rw [allS_congr (n := n) (fun s hs => h s (by omega)), h n (by omega)]
theorem bP_ld {V : Vw} {cap : Nat} {ld ld' : Nat → Nat} (h : ∀ s, s < V 0 8 → ld s = ld' s) {T : Nat → Option PR} {set : Nat} : ∀ n, bP V cap ld T set n = bP V cap ld' T set n
  | 0 => rfl
  | n + 1 => by
    show stp V cap ld T set (bP V cap ld T set n) n = stp V cap ld' T set (bP V cap ld' T set n) n
    rw [bP_ld h n]
    unfold stp
    rw [ldS_congr h]
theorem pT_ld {V : Vw} {cap : Nat} {ld ld' : Nat → Nat} (h : ∀ s, s < V 0 8 → ld s = ld' s) : ∀ k, pT V cap ld k = pT V cap ld' k
  | 0 => rfl
  | k + 1 => by
    funext set
    show (if set = k then (if k = 0 then some (0, 0, 0) else bP V cap ld (pT V cap ld k) k (k + 1)) else pT V cap ld k set) = (if set = k then (if k = 0 then some (0, 0, 0) else bP V cap ld' (pT V cap ld' k) k (k + 1)) else pT V cap ld' k set)
    rw [pT_ld h k, bP_ld h]
theorem PT_ld {V : Vw} {cap : Nat} {ld ld' : Nat → Nat} (h : ∀ s, s < V 0 8 → ld s = ld' s) : PT V cap ld = PT V cap ld' := by
  funext set
  unfold PT
  rw [pT_ld h]
theorem dp_ld {V : Vw} {cap : Nat} {ld ld' : Nat → Nat} (h : ∀ s, s < V 0 8 → ld s = ld' s) : dpV V cap ld = dpV V cap ld' := by
  unfold dpV
  rw [PT_ld h, allS_congr h]
theorem cd_ld {V : Vw} {cap : Nat} {ld ld' : Nat → Nat} (h : ∀ s, s < V 0 8 → ld s = ld' s) : cdV V cap ld = cdV V cap ld' := by
  unfold cdV
  rw [dp_ld h]
theorem cd_le {V : Vw} (hw : WF V) {cap : Nat} {ld : Nat → Nat} : cdV V cap ld ≤ 24000 := by
  unfold cdV
  cases h : dpV V cap ld with
  | none => exact Nat.zero_le _
  | some r => exact (dp_bd hw h).1
/-- the price of a day's loads, as the class's cells have them -/
def prV (V : Vw) (f : Nat → Int32) : Int32 := nI (cdV V (V 0 3) (fun s => if s < 6 then (f s).toNatClampNeg else 0))
theorem prV_C (V : Vw) : prC (prV V) := fun f g h => by
  unfold prV
  have : (fun s => if s < 6 then (f s).toNatClampNeg else 0) = (fun s => if s < 6 then (g s).toNatClampNeg else 0) := by
    funext s
    by_cases q : s < 6
    · rw [if_pos q, if_pos q, h s q]
    · rw [if_neg q, if_neg q]
  rw [this]
theorem prV_nI {V : Vw} (hw : WF V) {f : Nat → Int32} {ld : Nat → Nat} (hl : ∀ s, s < V 0 8 → f s = nI (ld s) ∧ ld s < 1000000) : prV V f = nI (cdV V (V 0 3) ld) := by
  have s6 := hw.s6
  unfold prV
  rw [cd_ld (ld' := ld)]
  intro s hs
  rw [if_pos (by omega), (hl s hs).1, nI_cl (by have := (hl s hs).2; omega)]
theorem c_pickLoads {k a d : Nat} (hd : d < 14) (hka : a ≠ k + 3) {σ : Sg} : ∃ τ, XX5_pickLoads k a (nI d) σ = some τ ∧ (∀ s, s < 6 → τ a s = σ (k + 3) (14 * s + d)) ∧ fr [(a, none)] σ τ := by
  have key : ∀ m s n σ, s + m = 6 → m < n → ∃ τ, LX5_pickLoads_2 k a (nI d) n (nI s) σ = some τ ∧ (∀ t, t < s → τ a t = σ a t) ∧ (∀ t, s ≤ t → t < 6 → τ a t = σ (k + 3) (14 * t + d)) ∧ fr [(a, none)] σ τ := by
    intro m
    induction m with
    | zero =>
      intro s n σ hs hn
      obtain ⟨n, rfl⟩ : ∃ q, n = q + 1 := ⟨n - 1, by omega⟩
      refine ⟨σ, ?_, fun _ _ => rfl, fun t h1 h2 => absurd h1 (by omega), fr.rf⟩
      rw [LX5_pickLoads_2]
      simp only [nI_lit]
      rw [if_pos (by rw [nI_lei] <;> omega)]
    | succ m ih =>
      intro s n σ hs hn
      obtain ⟨n, rfl⟩ : ∃ q, n = q + 1 := ⟨n - 1, by omega⟩
      have hf : fr [(a, none)] σ (up σ a s (σ (k + 3) (14 * s + d))) := fr_up
      obtain ⟨τ, h1, h2, h3, h4⟩ := ih (s + 1) n (up σ a s (σ (k + 3) (14 * s + d))) (by omega) (by omega)
      refine ⟨τ, ?_, fun t h => ?_, fun t g1 g2 => ?_, hf.tr h4⟩
      · rw [LX5_pickLoads_2, c_cellOf]
        simp only [nI_lit]
        rw [if_neg (by rw [nI_lei] <;> omega)]
        simp only [b1]
        rw [if_pos ((ib_nI (by omega)).mpr (by omega)), if_pos ((ib_nI (by omega)).mpr (by omega)), nI_cl (by omega), nI_cl (by omega), lt_def, lt_def, nI_add]
        exact h1
      · rw [h2 t (by omega), up_slot (by omega)]
      · by_cases e : t = s
        · subst e
          rw [h2 t (by omega), up_same]
        · rw [h3 t (by omega) g2, up_cell (by omega)]
  obtain ⟨τ, h1, h2, h3, h4⟩ := key 6 0 FUEL σ (by omega) (by unfold FUEL; omega)
  exact ⟨τ, h1, fun s hs => h3 s (by omega) hs, h4⟩
theorem PC.off {V : Vw} {σ τ : Sg} (h : PC V σ) {S : List (Nat × Option Nat)} (hf : fr S σ τ) (hS : ∀ k, 30 ≤ k → k ≤ 33 → S.all (fun q => q.1 != k) = true) : PC V τ := h.zero (hf.cell (hS 30 (by omega) (by omega))) (by rw [hf.cell (hS 31 (by omega) (by omega))]) (by rw [hf.cell (hS 32 (by omega) (by omega))]) (by rw [hf.cell (hS 33 (by omega) (by omega))])
abbrev wS (k : Nat) : List (Nat × Option Nat) := (k + 6, none) :: (k + 7, none) :: gS
theorem RN.off {V : Vw} {pr : (Nat → Int32) → Int32} {k : Nat} {vis : Nat → Nat} {ask : Nat → Nat → Nat} {σ τ : Sg} (h : RN V pr k vis ask σ) (e5 : τ k 5 = σ k 5) (e6 : τ k 6 = σ k 6) (c1 : τ (k + 1) = σ (k + 1)) (c2 : τ (k + 2) = σ (k + 2)) (c3 : τ (k + 3) = σ (k + 3)) (c4 : τ (k + 4) = σ (k + 4)) (c5 : τ (k + 5) = σ (k + 5)) (c6 : τ (k + 6) = σ (k + 6)) : RN V pr k vis ask τ := by
  unfold RN WK rowC at h ⊢
  rw [e5, e6, c1, c2, c3, c4, c5, c6]
  exact h
theorem c_priceOn {V : Vw} (hw : WF V) {k d : Nat} (hk : 38 ≤ k) {vis : Nat → Nat} {ask : Nat → Nat → Nat} {σ : Sg} (ht : TC V σ) (hp : PC V σ) (hr : RN V (prV V) k vis ask σ) (hd : d < V 0 0) : ∃ τ, XX5_priceOn k (nI d) σ = some (nI (cdV V (V 0 3) (ldD V vis ask d)), τ) ∧ RN V (prV V) k vis ask τ ∧ PC V τ ∧ fr (wS k) σ τ := by
  have s6 := hw.s6
  have d14 := hw.d14
  have t99 := hw.t99
  have hl : ∀ s, s < V 0 8 → σ (k + 3) (14 * s + d) = nI (ldD V vis ask d s) := fun s hs => (hr.2.2.1 s d hs hd).1
  have hb : ∀ s, s < V 0 8 → ldD V vis ask d s ≤ V 0 3 := fun s hs => ldD_le hw hs
  have ep : prV V (fun s => σ (k + 3) (14 * s + d)) = nI (cdV V (V 0 3) (ldD V vis ask d)) := prV_nI hw (fun s hs => ⟨hl s hs, by have := hb s hs; omega⟩)
  have i1 : ib (nI d) 14 := (ib_nI (by omega)).mpr (by omega)
  have i2 : (nI d).toNatClampNeg = d := nI_cl (by omega)
  have cl := cd_le hw (cap := V 0 3) (ld := ldD V vis ask d)
  unfold XX5_priceOn
  simp only [if_pos i1, i2, lt]
  by_cases c : σ (k + 6) d = -1
  · rw [if_pos c]
    obtain ⟨σ1, h1, h2, h3⟩ := c_pickLoads (k := k) (a := k + 7) (d := d) (by omega) (by omega) (σ := σ)
    have ht1 : TC V σ1 := ht.off (fun j j1 j2 => h3.cell (by simp; omega))
    have hp1 : PC V σ1 := hp.off h3 (fun j j1 j2 => by simp; omega)
    obtain ⟨σ2, g1, g2, g3⟩ := c_priceOf hw (a := k + 7) (by omega) (cap := V 0 3) (by omega) (ld := ldD V vis ask d) (fun s hs => by have := hb s hs; omega) hb ht1 hp1 (fun s hs => by rw [h2 s (by omega)]; exact hl s hs)
    rw [h1]
    simp only [b1]
    rw [ht1.2.1, g1]
    simp only [b2]
    have f2 : fr (wS k) σ σ2 := (h3.mono (by simp)).tr (g3.mono (by simp))
    have f3 : fr (wS k) σ (up σ2 (k + 6) d (nI (cdV V (V 0 3) (ldD V vis ask d)))) := f2.tr (fr_up.mono (by simp))
    have cc : ∀ j, j ≤ 5 → (up σ2 (k + 6) d (nI (cdV V (V 0 3) (ldD V vis ask d)))) (k + j) = σ (k + j) := fun j hj => f3.cell (by simp; omega)
    have c6 : σ2 (k + 6) = σ (k + 6) := by rw [g3.cell (by simp; omega), h3.cell (by simp)]
    refine ⟨_, by rw [up_same], ?_, g2.off (fr_up (a := k + 6)) (fun j j1 j2 => by simp; omega), f3⟩
    obtain ⟨r1, r2, r3, w1, w2, w3, w4⟩ := hr
    unfold RN WK rowC
    rw [cc 1 (by omega), cc 2 (by omega), cc 3 (by omega), cc 4 (by omega), cc 5 (by omega), show up σ2 (k + 6) d (nI (cdV V (V 0 3) (ldD V vis ask d))) k = σ k from cc 0 (by omega)]
    refine ⟨r1, r2, r3, w1, w2, fun e he => ?_, w4⟩
    by_cases q : e = d
    · subst q
      rw [up_same, ep]
      exact Or.inr rfl
    · rw [up_slot q, c6]
      exact w3 e he
  · rw [if_neg c]
    refine ⟨σ, ?_, hr, hp, fr.rf⟩
    rcases hr.2.2.2.2.2.1 d hd with z | z
    · exact absurd z c
    · rw [z, ep]
theorem tot_nI {f : Nat → Int32} {g : Nat → Nat → Nat} {S D : Nat} (h : ∀ s d, s < S → d < D → f (14 * s + d) = nI (g s d)) : tot2 f S D = nI (sumN (fun s => sumN (g s) D) S) := by
  unfold tot2
  rw [sumI_ext (g := fun s => nI (sumN (g s) D)) (fun s hs => by rw [sumI_ext (g := fun d => nI (g s d)) (fun d hd => h s d hs hd), sumI_nI]), sumI_nI]
theorem RN.t5 {V : Vw} {pr : (Nat → Int32) → Int32} {k : Nat} {vis : Nat → Nat} {ask : Nat → Nat → Nat} {σ : Sg} (h : RN V pr k vis ask σ) : σ k 5 = nI (msT V vis ask) := by
  rw [h.2.2.2.1]
  exact tot_nI (fun s d hs hd => (h.2.2.1 s d hs hd).2.2)
theorem RN.t6 {V : Vw} {pr : (Nat → Int32) → Int32} {k : Nat} {vis : Nat → Nat} {ask : Nat → Nat → Nat} {σ : Sg} (h : RN V pr k vis ask σ) : σ k 6 = nI (stT V vis ask) := by
  rw [h.2.2.2.2.1]
  exact tot_nI (fun s d hs hd => (h.2.2.1 s d hs hd).2.1)
theorem c_wholeCost {V : Vw} (hw : WF V) {k : Nat} (hk : 38 ≤ k) {vis : Nat → Nat} {ask : Nat → Nat → Nat} {σ : Sg} (ht : TC V σ) (hp : PC V σ) (hr : RN V (prV V) k vis ask σ) : ∃ τ, XX5_wholeCost k σ = some (nI (cosT V vis ask), τ) ∧ RN V (prV V) k vis ask τ ∧ PC V τ ∧ fr (wS k) σ τ := by
  have d14 := hw.d14
  have key : ∀ (b : Nat) m d n σ, d + m = V 0 0 → m < n → TC V σ → PC V σ → RN V (prV V) k vis ask σ → ∃ τ, LX5_wholeCost_28 k n (nI (b + sumN (fun d => cdV V (V 0 3) (ldD V vis ask d)) d)) (nI d) σ = some (nI (b + rcT V vis ask), τ) ∧ RN V (prV V) k vis ask τ ∧ PC V τ ∧ fr (wS k) σ τ := by
    intro b m
    induction m with
    | zero =>
      intro d n σ hd hn ht hp hr
      obtain ⟨n, rfl⟩ : ∃ q, n = q + 1 := ⟨n - 1, by omega⟩
      have hd : d = V 0 0 := by omega
      subst hd
      refine ⟨σ, ?_, hr, hp, fr.rf⟩
      rw [LX5_wholeCost_28, ht.1, if_pos (by rw [nI_lei] <;> omega)]
      rfl
    | succ m ih =>
      intro d n σ hd hn ht hp hr
      obtain ⟨n, rfl⟩ : ∃ q, n = q + 1 := ⟨n - 1, by omega⟩
      obtain ⟨σ1, h1, h2, h3, h4⟩ := c_priceOn hw hk ht hp hr (show d < V 0 0 by omega)
      obtain ⟨τ, g1, g2, g3, g4⟩ := ih (d + 1) n σ1 (by omega) (by omega) (ht.off (fun j j1 j2 => h4.cell (by simp; omega))) h3 h2
      refine ⟨τ, ?_, g2, g3, h4.tr g4⟩
      rw [LX5_wholeCost_28, ht.1, if_neg (by rw [nI_lei] <;> omega), h1]
      simp only [b2, lt]
      rw [nI_add, nI_1, Nat.add_assoc]
      exact g1
  obtain ⟨τ, g1, g2, g3, g4⟩ := key (V 0 6 * stT V vis ask + V 0 7 * msT V vis ask) (V 0 0) 0 FUEL σ (by omega) (by unfold FUEL; omega) ht hp hr
  refine ⟨τ, ?_, g2, g3, g4⟩
  unfold XX5_wholeCost
  rw [lt_def, ht.2.2.2.2.1, ht.2.2.2.2.2.1, hr.t5, hr.t6, pk_mul, pk_mul, nI_add]
  refine g1.trans ?_
  have : V 0 6 * stT V vis ask + V 0 7 * msT V vis ask + rcT V vis ask = cosT V vis ask := by
    unfold cosT
    omega
  rw [this]
