/-! THE REFERENCE: what all costs -/
/-- the same places and prices -/
def sW (V V' : Vw) : Prop := V' 0 4 = V 0 4 ∧ V' 0 5 = V 0 5 ∧ V' 0 8 = V 0 8 ∧ V' 1 = V 1 ∧ V' 2 = V 2
theorem wbA_sw {V V' : Vw} (h : sW V V') {T : Nat → Nat → Nat} {set a : Nat} : ∀ n, wbA V' T set a n = wbA V T set a n
  | 0 => rfl
  | n + 1 => by
    show (if set.testBit n then min (wbA V' T set a n) (faV V' a n + T (set ^^^ 2 ^ n) n) else wbA V' T set a n) = (if set.testBit n then min (wbA V T set a n) (faV V a n + T (set ^^^ 2 ^ n) n) else wbA V T set a n)
    rw [wbA_sw h n]
    unfold faV
    rw [h.2.2.2.1, h.2.2.2.2]
theorem wT_sw {V V' : Vw} (h : sW V V') : ∀ k, wT V' k = wT V k
  | 0 => rfl
  | k + 1 => by
    funext set a
    show (if set = k then (if k = 0 then faV V' a 6 else wbA V' (wT V' k) k a (V' 0 8)) else wT V' k set a) = (if set = k then (if k = 0 then faV V a 6 else wbA V (wT V k) k a (V 0 8)) else wT V k set a)
    rw [wT_sw h k, wbA_sw h, h.2.2.1]
    unfold faV
    rw [h.2.2.2.1, h.2.2.2.2]
theorem ah_sw {V V' : Vw} (h : sW V V') : ah V' = ah V := by
  funext set a
  unfold ah
  rw [wT_sw h]
theorem rp_sw {V V' : Vw} (h : sW V V') : rpV V' = rpV V := by
  funext set
  unfold rpV
  rw [h.1, h.2.1, ah_sw h]
theorem cos_sw {V V' : Vw} (h : sW V V') : cosV V' = cosV V := by
  funext set
  unfold cosV
  rw [rp_sw h]
theorem bP_sw {V V' : Vw} (h : sW V V') {cap : Nat} {ld : Nat → Nat} {T : Nat → Option PR} {set : Nat} : ∀ n, bP V' cap ld T set n = bP V cap ld T set n
  | 0 => rfl
  | n + 1 => by
    show stp V' cap ld T set (bP V' cap ld T set n) n = stp V cap ld T set (bP V cap ld T set n) n
    rw [bP_sw h n]
    unfold stp
    rw [h.2.2.1, rp_sw h]
theorem pT_sw {V V' : Vw} (h : sW V V') {cap : Nat} {ld : Nat → Nat} : ∀ k, pT V' cap ld k = pT V cap ld k
  | 0 => rfl
  | k + 1 => by
    funext set
    show (if set = k then (if k = 0 then some (0, 0, 0) else bP V' cap ld (pT V' cap ld k) k (k + 1)) else pT V' cap ld k set) = (if set = k then (if k = 0 then some (0, 0, 0) else bP V cap ld (pT V cap ld k) k (k + 1)) else pT V cap ld k set)
    rw [pT_sw h k, bP_sw h]
theorem PT_sw {V V' : Vw} (h : sW V V') : PT V' = PT V := by
  funext cap ld set
  unfold PT
  rw [pT_sw h]
/-- the reference's cells and its ways -/
def RA (V : Vw) (σ : Sg) : Prop := RM V σ ∧ AHM V σ
theorem RA.off {V : Vw} {σ τ : Sg} (h : RA V σ) {S : List (Nat × Option Nat)} (hf : fr S σ τ) (hS : S.all (fun q => !tchM q && q.1 != 77) = true) : RA V τ := by
  have h1 := List.all_eq_true.mp hS
  refine ⟨h.1.off hf (List.all_eq_true.mpr (fun x hx => by have := h1 x hx; rw [Bool.and_eq_true] at this; exact this.1)), fun a b h2 h3 => ?_⟩
  rw [hf.cell (k := 77) (List.all_eq_true.mpr (fun x hx => by have := h1 x hx; rw [Bool.and_eq_true] at this; exact this.2))]
  exact h.2 a b h2 h3
theorem m_layPart {V : Vw} (hw : WF V) {cap : Nat} (hc : cap < 1000000) {ld : Nat → Nat} (hld : ∀ s, s < V 0 8 → ld s < 1000000) {set : Nat} (hs : set < 2 ^ V 0 8) {σ : Sg} (hr : RA V σ) (hl : LDM V ld σ) (hq : ∀ q, q < set → q &&& set = q → cPM V cap ld q σ) : ∃ τ, XX10_layPart (nI set) (nI cap) σ = some τ ∧ cPM V cap ld set τ ∧ (∀ q, q ≠ set → τ 83 q = σ 83 q ∧ τ 84 q = σ 84 q ∧ τ 85 q = σ 85 q) ∧ fr pS σ τ := by
  have p6 := p64 hw.s6
  unfold XX10_layPart
  by_cases z : set = 0
  · subst z
    refine ⟨up (up σ 83 0 0) 84 0 0, ?_, ?_, fun q h => ⟨by rw [up_cell (by omega), up_slot h], by rw [up_slot h, up_cell (by omega)], by rw [up_cell (by omega), up_cell (by omega)]⟩, (fr_up.mono (by simp)).tr (fr_up.mono (by simp))⟩
    · simp only [lt]
      rw [if_pos (show nI 0 = 0 from rfl), if_pos ((ib_nI (by omega)).mpr (by omega)), nI_cl (by omega)]
      obtain ⟨n, hn⟩ : ∃ n, FUEL = n + 1 := ⟨999999, rfl⟩
      rw [hn, LX10_layPart_30, if_pos (by decide)]
    · unfold cPM
      rw [if_pos rfl]
      exact ⟨by rw [up_cell (by omega), up_same]; rfl, by rw [up_same]; rfl⟩
  · simp only [lt]
    rw [if_neg (show ¬ nI set = 0 from nI_ne (b := 0) (by omega) (by omega) z), if_pos ((ib_nI (by omega)).mpr (by omega)), nI_cl (by omega), low_and set (by omega) z]
    have f0 : fr pS σ (up (up σ 83 set (-1)) 84 set 0) := (fr_up.mono (by simp)).tr (fr_up.mono (by simp))
    have o : ∀ q, q ≠ set → (up (up σ 83 set (-1)) 84 set 0) 83 q = σ 83 q ∧ (up (up σ 83 set (-1)) 84 set 0) 84 q = σ 84 q ∧ (up (up σ 83 set (-1)) 84 set 0) 85 q = σ 85 q := fun q h => ⟨by rw [up_cell (by omega), up_slot h], by rw [up_slot h, up_cell (by omega)], by rw [up_cell (by omega), up_cell (by omega)]⟩
    obtain ⟨τ, h1, h2, h3, h4⟩ := layPart_loop hw hc hld hs z set 1 FUEL _ (by omega) (by unfold FUEL; omega) (hr.1.off f0 rfl) (hr.off f0 rfl).2 (fun s h1 => by rw [f0.cell (k := 86) rfl]; exact hl s h1) (fun q h1 h2 => (hq q h1 h2).off (o q (by omega)).1 (o q (by omega)).2.1 (o q (by omega)).2.2) (by
      have e : bP V cap ld (PT V cap ld) set 1 = none := by
        show stp V cap ld (PT V cap ld) set none 0 = none
        unfold stp
        rw [if_neg]
        unfold vp
        simp
      rw [e]
      show (up (up σ 83 set (-1)) 84 set 0) 83 set = -1
      rw [up_cell (by omega), up_same])
    refine ⟨τ, h1, ?_, fun q h => ⟨(h3 q h).1.trans (o q h).1, (h3 q h).2.1.trans (o q h).2.1, (h3 q h).2.2.trans (o q h).2.2⟩, f0.tr h4⟩
    unfold cPM
    rw [if_neg z]
    exact h2
theorem sub_tr {a b c : Nat} (h1 : a &&& b = a) (h2 : b &&& c = b) : a &&& c = a := by
  rw [← h1, Nat.and_assoc, h2]
def iP : Option PR → Int32
  | none => -1
  | some r => nI r.1
theorem m_layParts {V : Vw} (hw : WF V) {cap : Nat} (hc : cap < 1000000) {ld : Nat → Nat} (hld : ∀ s, s < V 0 8 → ld s < 1000000) {all : Nat} (hs : all < 2 ^ V 0 8) {σ : Sg} (hr : RA V σ) (hl : LDM V ld σ) : ∃ τ, XX10_layParts (nI all) (nI cap) σ = some (iP (PT V cap ld all), τ) ∧ RA V τ ∧ LDM V ld τ ∧ (∀ q, q ≤ all → q &&& all = q → cPM V cap ld q τ) ∧ fr pS σ τ := by
  have p6 := p64 hw.s6
  have key : ∀ (K : Sg → Option (Int32 × Sg)) m p n σ, p + m = all + 1 → m < n → RA V σ → LDM V ld σ → (∀ q, q < p → q &&& all = q → cPM V cap ld q σ) → ∃ τ, LX10_layParts_2 (nI all) (nI cap) K n (nI p) σ = K τ ∧ RA V τ ∧ LDM V ld τ ∧ (∀ q, q ≤ all → q &&& all = q → cPM V cap ld q τ) ∧ fr pS σ τ := by
    intro K m
    induction m with
    | zero =>
      intro p n σ hp hn hr hl hA
      obtain ⟨n, rfl⟩ : ∃ q, n = q + 1 := ⟨n - 1, by omega⟩
      refine ⟨σ, ?_, hr, hl, fun q h1 h2 => hA q (by omega) h2, fr.rf⟩
      rw [LX10_layParts_2, if_pos (by rw [nI_lti] <;> omega)]
    | succ m ih =>
      intro p n σ hp hn hr hl hA
      obtain ⟨n, rfl⟩ : ∃ q, n = q + 1 := ⟨n - 1, by omega⟩
      rw [LX10_layParts_2, if_neg (by rw [nI_lti] <;> omega)]
      simp only [lt]
      rw [nI_1]
      by_cases c : p &&& all = p
      · rw [if_pos ((sb_iff all (by omega) p (by omega)).mpr c)]
        obtain ⟨τ, h1, h2, h3, h4⟩ := m_layPart hw hc hld (show p < 2 ^ V 0 8 by omega) hr hl (fun q g1 g2 => hA q g1 (sub_tr g2 c))
        obtain ⟨ρ, k1, k2, k3, k4, k5⟩ := ih (p + 1) n τ (by omega) (by omega) (hr.off h4 rfl) (fun s g => by rw [h4.cell (k := 86) rfl]; exact hl s g) (fun q g1 g2 => by
          by_cases e : q = p
          · rw [e]; exact h2
          · exact (hA q (by omega) g2).off (h3 q e).1 (h3 q e).2.1 (h3 q e).2.2)
        rw [h1]
        exact ⟨ρ, k1, k2, k3, k4, h4.tr k5⟩
      · rw [if_neg (fun z => c ((sb_iff all (by omega) p (by omega)).mp z))]
        exact ih (p + 1) n σ (by omega) (by omega) hr hl (fun q g1 g2 => hA q (by
          rcases Nat.lt_or_ge q p with e | e
          · exact e
          · exfalso
            apply c
            rw [show p = q by omega]
            exact g2) g2)
  obtain ⟨τ, h1, h2, h3, h4, h5⟩ := key (fun σ_1 => if ib (nI all) 64 then some (σ_1 83 (nI all).toNatClampNeg, σ_1) else none) (all + 1) 0 FUEL σ (by omega) (by unfold FUEL; omega) hr hl (fun q h => absurd h (by omega))
  refine ⟨τ, ?_, h2, h3, h4, h5⟩
  unfold XX10_layParts
  rw [lt_def]
  refine h1.trans ?_
  rw [if_pos ((ib_nI (by omega)).mpr (by omega)), nI_cl (by omega)]
  obtain ⟨n1, n2⟩ := (h4 all (Nat.le_refl _) (Nat.and_self _)).m83
  cases hP : PT V cap ld all with
  | none =>
    rw [n1 hP]
    rfl
  | some r =>
    rw [(n2 r hP).1]
    rfl
/-- the parting of a day's loads -/
def dpV (V : Vw) (cap : Nat) (ld : Nat → Nat) : Option PR := PT V cap ld (allS ld (V 0 8))
abbrev qS : List (Nat × Option Nat) := [(83, none), (84, none), (85, none), (86, none)]
theorem m_roundsCost {V : Vw} (hw : WF V) {cap : Nat} (hc : cap < 1000000) {ld : Nat → Nat} {d : Nat} (hd : d < V 0 0) (hld : ∀ s, s < V 0 8 → ld s < 1000000) {σ : Sg} (hr : RA V σ) (h80 : ∀ s, s < V 0 8 → σ 80 (14 * s + d) = nI (ld s)) : ∃ τ, XX10_roundsCost (nI d) (nI cap) σ = some (iP (dpV V cap ld), τ) ∧ RA V τ ∧ fr qS σ τ := by
  obtain ⟨σ1, h1, h2, h3, h4⟩ := m_layLoads hw hd hld hr.1 h80
  obtain ⟨σ2, g1, g2, g3, g4, g5⟩ := m_layParts hw hc hld (allS_lt ld (V 0 8)) (hr.off h4 rfl) h3
  refine ⟨σ2, ?_, g2, (h4.mono (by simp)).tr (g5.mono (by simp))⟩
  unfold XX10_roundsCost
  rw [h1]
  simp only [b2]
  rw [g1]
  rfl
/-- what the rounds of the first days cost; none if one load is too great -/
def arS (V : Vw) (cap : Nat) (L : Nat → Nat → Nat) : Nat → Option Nat
  | 0 => some 0
  | d + 1 => match arS V cap L d, dpV V cap (L d) with
    | some a, some r => some (a + r.1)
    | _, _ => none
def iA : Option Nat → Int32
  | none => -1
  | some a => nI a
theorem dp_bd {V : Vw} (hw : WF V) {cap : Nat} {ld : Nat → Nat} {r : PR} (h : dpV V cap ld = some r) : r.1 ≤ 24000 ∧ r.2.1 ≤ 6 := by
  have h1 := PT_bd hw _ r (allS_lt ld (V 0 8)) h
  have h2 := cnt6 (allS ld (V 0 8))
  omega
theorem arS_none {V : Vw} {cap : Nat} {L : Nat → Nat → Nat} {d : Nat} (h : arS V cap L d = none) : ∀ m, arS V cap L (d + m) = none
  | 0 => h
  | m + 1 => by
    show (match arS V cap L (d + m), dpV V cap (L (d + m)) with
    | some a, some r => some (a + r.1)
    | _, _ => none) = none
    rw [arS_none h m]
theorem m_allRounds {V : Vw} (hw : WF V) {cap : Nat} (hc : cap < 1000000) {L : Nat → Nat → Nat} (hL : ∀ d s, s < V 0 8 → L d s < 1000000) {σ : Sg} (hr : RA V σ) (h80 : ∀ s d, s < V 0 8 → d < V 0 0 → σ 80 (14 * s + d) = nI (L d s)) : ∃ τ, XX10_allRounds (nI cap) σ = some (iA (arS V cap L (V 0 0)), τ) ∧ RA V τ ∧ fr qS σ τ := by
  have d14 := hw.d14
  have key : ∀ m d n σ a, d + m = V 0 0 → m < n → arS V cap L d = some a → RA V σ → (∀ s d, s < V 0 8 → d < V 0 0 → σ 80 (14 * s + d) = nI (L d s)) → ∃ τ, LX10_allRounds_4 (nI cap) n (nI a) (nI d) σ = some (iA (arS V cap L (V 0 0)), τ) ∧ RA V τ ∧ fr qS σ τ := by
    intro m
    induction m with
    | zero =>
      intro d n σ a hd hn ha hr h80
      obtain ⟨n, rfl⟩ : ∃ q, n = q + 1 := ⟨n - 1, by omega⟩
      have hd : d = V 0 0 := by omega
      subst hd
      refine ⟨σ, ?_, hr, fr.rf⟩
      rw [LX10_allRounds_4, ha]
      simp only [XX10_days, b1]
      rw [hr.1.1 0 (by omega), if_pos (by rw [nI_lei] <;> omega)]
      rfl
    | succ m ih =>
      intro d n σ a hd hn ha hr h80
      obtain ⟨n, rfl⟩ : ∃ q, n = q + 1 := ⟨n - 1, by omega⟩
      rw [LX10_allRounds_4]
      simp only [XX10_days, b1]
      rw [hr.1.1 0 (by omega), if_neg (by rw [nI_lei] <;> omega)]
      obtain ⟨τ, h1, h2, h3⟩ := m_roundsCost hw hc (show d < V 0 0 by omega) (hL d) hr (fun s hs => h80 s d hs (by omega))
      rw [h1]
      simp only [b2]
      have es : arS V cap L (d + 1) = (match arS V cap L d, dpV V cap (L d) with
        | some a, some r => some (a + r.1)
        | _, _ => none) := rfl
      cases hP : dpV V cap (L d) with
      | none =>
        rw [ha, hP] at es
        have := arS_none es m
        rw [show d + 1 + m = V 0 0 by omega] at this
        rw [this]
        exact ⟨τ, by rw [if_neg (by decide)]; rfl, h2, h3⟩
      | some r =>
        rw [ha, hP] at es
        obtain ⟨ρ, g1, g2, g3⟩ := ih (d + 1) n τ (a + r.1) (by omega) (by omega) es h2 (fun s e h5 h6 => by rw [h3.cell (k := 80) rfl]; exact h80 s e h5 h6)
        have bd := dp_bd hw hP
        have ge : (0 : Int32) ≤ nI r.1 := (nI_lei (a := 0) (by omega) (by omega)).mpr (Nat.zero_le _)
        refine ⟨ρ, ?_, g2, h3.tr g3⟩
        show (if (0 : Int32) ≤ nI r.1 then _ else _) = _
        rw [if_pos ge]
        simp only [lt, iP]
        rw [nI_add, nI_1]
        exact g1
  exact key (V 0 0) 0 FUEL σ 0 (by omega) (by unfold FUEL; omega) rfl hr h80
theorem m_allStocks {V : Vw} (hw : WF V) {σ : Sg} (hr : RM V σ) {f : Nat → Nat → Nat} (hf : ∀ s d, s < V 0 8 → d < V 0 0 → σ 81 (14 * s + d) = nI (f s d)) : XX10_allStocks σ = some (nI (V 0 6 * sumN (fun s => sumN (f s) (V 0 0)) (V 0 8))) := by
  have s6 := hw.s6
  have key : ∀ (K : Int32 → Option Int32) m s n, s + m = V 0 8 → m < n → LX10_allStocks_4 σ K n (nI (sumN (fun s => sumN (f s) (V 0 0)) s)) (nI s) = K (nI (sumN (fun s => sumN (f s) (V 0 0)) (V 0 8))) := by
    intro K m
    induction m with
    | zero =>
      intro s n hd hn
      obtain ⟨n, rfl⟩ : ∃ q, n = q + 1 := ⟨n - 1, by omega⟩
      have hd : s = V 0 8 := by omega
      subst hd
      rw [LX10_allStocks_4]
      simp only [XX10_shops, b1]
      rw [hr.1 8 (by omega), if_pos (by rw [nI_lei] <;> omega)]
    | succ m ih =>
      intro s n hd hn
      obtain ⟨n, rfl⟩ : ∃ q, n = q + 1 := ⟨n - 1, by omega⟩
      rw [LX10_allStocks_4]
      simp only [XX10_shops, b1]
      rw [hr.1 8 (by omega), if_neg (by rw [nI_lei] <;> omega), m_stocks hw hr (by omega) (fun d hd => hf s d (by omega) hd)]
      simp only [lt]
      rw [nI_add, nI_1]
      exact ih (s + 1) n (by omega) (by omega)
  unfold XX10_allStocks
  rw [lt_def]
  refine (key _ (V 0 8) 0 FUEL (by omega) (by unfold FUEL; omega)).trans ?_
  simp only [XX10_number, nI_lit]
  rw [if_pos ((ib_nI (by omega)).mpr (by omega)), nI_cl (by omega), hr.1 6 (by omega)]
  simp only [b1]
  rw [pk_mul]
theorem m_allLost {V : Vw} (hw : WF V) {σ : Sg} (hr : RM V σ) {f : Nat → Nat → Nat} (hf : ∀ s d, s < V 0 8 → d < V 0 0 → σ 82 (14 * s + d) = nI (f s d)) : XX10_allLost σ = some (nI (sumN (fun s => sumN (f s) (V 0 0)) (V 0 8))) := by
  have s6 := hw.s6
  have key : ∀ m s n, s + m = V 0 8 → m < n → LX10_allLost_4 σ n (nI (sumN (fun s => sumN (f s) (V 0 0)) s)) (nI s) = some (nI (sumN (fun s => sumN (f s) (V 0 0)) (V 0 8))) := by
    intro m
    induction m with
    | zero =>
      intro s n hd hn
      obtain ⟨n, rfl⟩ : ∃ q, n = q + 1 := ⟨n - 1, by omega⟩
      have hd : s = V 0 8 := by omega
      subst hd
      rw [LX10_allLost_4]
      simp only [XX10_shops, b1]
      rw [hr.1 8 (by omega), if_pos (by rw [nI_lei] <;> omega)]
    | succ m ih =>
      intro s n hd hn
      obtain ⟨n, rfl⟩ : ∃ q, n = q + 1 := ⟨n - 1, by omega⟩
      rw [LX10_allLost_4]
      simp only [XX10_shops, b1]
      rw [hr.1 8 (by omega), if_neg (by rw [nI_lei] <;> omega), m_lostBy hw hr (by omega) (fun d hd => hf s d (by omega) hd)]
      simp only [lt]
      rw [nI_add, nI_1]
      exact ih (s + 1) n (by omega) (by omega)
  exact key (V 0 8) 0 FUEL (by omega) (by unfold FUEL; omega)
/-- of a plan and what is asked for: loads of a day, all stocks, all that is lost, what all costs -/
def ldD (V : Vw) (vis : Nat → Nat) (ask : Nat → Nat → Nat) (d s : Nat) : Nat := rload (V 4 s) (V 3 s) (vis s) (ask s) d
def stT (V : Vw) (vis : Nat → Nat) (ask : Nat → Nat → Nat) : Nat := sumN (fun s => sumN (fun d => stk (V 4 s) (V 3 s) (vis s) (ask s) (d + 1)) (V 0 0)) (V 0 8)
def msT (V : Vw) (vis : Nat → Nat) (ask : Nat → Nat → Nat) : Nat := sumN (fun s => sumN (fun d => rmiss (V 4 s) (V 3 s) (vis s) (ask s) d) (V 0 0)) (V 0 8)
/-- of a day's loads -/
def cdV (V : Vw) (cap : Nat) (ld : Nat → Nat) : Nat := match dpV V cap ld with
  | none => 0
  | some r => r.1
def rcT (V : Vw) (vis : Nat → Nat) (ask : Nat → Nat → Nat) : Nat := sumN (fun d => cdV V (V 0 3) (ldD V vis ask d)) (V 0 0)
def cosT (V : Vw) (vis : Nat → Nat) (ask : Nat → Nat → Nat) : Nat := rcT V vis ask + V 0 6 * stT V vis ask + V 0 7 * msT V vis ask
theorem ldD_le {V : Vw} (hw : WF V) {vis : Nat → Nat} {ask : Nat → Nat → Nat} {d s : Nat} (hs : s < V 0 8) : ldD V vis ask d s ≤ V 0 3 := by
  have h1 : ldD V vis ask d s ≤ V 3 s := rload_le
  have := (hw.sh hs).2.2.2.1
  omega
theorem dp_ex {V : Vw} (hw : WF V) {cap : Nat} {ld : Nat → Nat} (h : ∀ s, s < V 0 8 → ld s ≤ cap) : ∃ r, dpV V cap ld = some r := PT_ex hw _ (allS_lt ld (V 0 8)) (fun s hs => h s (bit_lt (allS_lt ld (V 0 8)) hs))
theorem arS_sum {V : Vw} (hw : WF V) {cap : Nat} {L : Nat → Nat → Nat} (h : ∀ d s, s < V 0 8 → L d s ≤ cap) : ∀ d, arS V cap L d = some (sumN (fun d => cdV V cap (L d)) d)
  | 0 => rfl
  | d + 1 => by
    show (match arS V cap L d, dpV V cap (L d) with
        | some a, some r => some (a + r.1)
        | _, _ => none) = some (sumN (fun d => cdV V cap (L d)) d + cdV V cap (L d))
    obtain ⟨r, hr⟩ := dp_ex hw (h d)
    rw [arS_sum hw h d, hr]
    unfold cdV
    rw [hr]
theorem m_costNow {V : Vw} (hw : WF V) {ask : Nat → Nat → Nat} (hla : ∀ s d, s < V 0 8 → d < V 0 0 → ask s d < 1000000) {σ : Sg} (hr : RA V σ) (ha : askM V ask σ) : ∃ τ, XX10_costNow σ = some (nI (cosT V (V 5) ask), τ) ∧ RA V τ ∧ askM V ask τ ∧ runM V (V 5) ask τ := by
  have t99 := hw.t99
  obtain ⟨σ1, h1, h2, h3, h4⟩ := m_runAll hw hr.1 hla ha
  have hr1 : RA V σ1 := hr.off h4 rfl
  obtain ⟨σ2, g1, g2, g3⟩ := m_allRounds hw (cap := V 0 3) (by omega) (L := ldD V (V 5) ask) (fun d s hs => by have := ldD_le hw (vis := V 5) (ask := ask) (d := d) hs; omega) hr1 (fun s d hs hd => (h3 s d hs hd).1)
  have hu : runM V (V 5) ask σ2 := fun s d hs hd => by
    unfold rowM
    rw [g3.cell (k := 80) rfl, g3.cell (k := 81) rfl, g3.cell (k := 82) rfl]
    exact h3 s d hs hd
  refine ⟨σ2, ?_, g2, fun s d hs hd => by rw [g3.cell (k := 79) rfl, h4.cell (k := 79) rfl]; exact ha s d hs hd, hu⟩
  have n3 : XX10_number (3 : Int32) σ1 = some (nI (V 0 3)) := by rw [← hr1.1.1 3 (by omega)]; rfl
  have n7 : XX10_number (7 : Int32) σ2 = some (nI (V 0 7)) := by rw [← g2.1.1 7 (by omega)]; rfl
  unfold XX10_costNow
  rw [h1]
  simp only [b1]
  rw [n3]
  simp only []
  rw [g1, arS_sum hw (fun d s hs => ldD_le hw hs)]
  simp only [b2]
  rw [m_allStocks hw g2.1 (fun s d hs hd => (hu s d hs hd).2.1), n7, m_allLost hw g2.1 (fun s d hs hd => (hu s d hs hd).2.2)]
  simp only [iA]
  rw [pk_mul, nI_add, nI_add]
  rfl
