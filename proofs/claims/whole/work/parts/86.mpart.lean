/-! THE REFERENCE: partings -/
theorem m_milesOf {V : Vw} (hw : WF V) {σ : Sg} (hA : AHM V σ) {set : Nat} (hs : set < 2 ^ V 0 8) : XX10_milesOf (nI set) σ = some (nI (ah V set 6)) := by
  have p6 := p64 hw.s6
  unfold XX10_milesOf
  simp only [nI_lit]
  rw [nI_add, if_pos ((ib_nI (by omega)).mpr (by omega)), nI_cl (by omega), ← hA set 6 hs (Or.inr rfl)]
/-- what a set costs; the empty one nothing -/
def cosV (V : Vw) (set : Nat) : Nat := if set = 0 then 0 else rpV V set
theorem m_costOfSet {V : Vw} (hw : WF V) {σ : Sg} (hr : RM V σ) (hA : AHM V σ) {set : Nat} (hs : set < 2 ^ V 0 8) : XX10_costOfSet (nI set) σ = some (nI (cosV V set)) := by
  have p6 := p64 hw.s6
  unfold XX10_costOfSet cosV
  by_cases z : set = 0
  · subst z
    rfl
  · rw [if_neg (show ¬ nI set = 0 from nI_ne (b := 0) (by omega) (by omega) z), if_neg z, m_milesOf hw hA hs]
    simp only [XX10_number, nI_lit]
    rw [if_pos ((ib_nI (by omega)).mpr (by omega)), if_pos ((ib_nI (by omega)).mpr (by omega)), nI_cl (by omega), nI_cl (by omega), hr.1 4 (by omega), hr.1 5 (by omega)]
    simp only [b1]
    rw [pk_mul, nI_add]
    rfl
def LDM (V : Vw) (ld : Nat → Nat) (σ : Sg) : Prop := ∀ s, s < V 0 8 → σ 86 s = nI (ld s)
theorem m_loadsOf {V : Vw} (hw : WF V) {σ : Sg} (hr : RM V σ) {ld : Nat → Nat} (hl : LDM V ld σ) {set : Nat} (hs : set < 2147483648) : XX10_loadsOf (nI set) σ = some (nI (ldS ld set (V 0 8))) := by
  have s6 := hw.s6
  have key : ∀ m s n, s + m = V 0 8 → m < n → LX10_loadsOf_4 (nI set) σ n (nI (ldS ld set s)) (nI s) = some (nI (ldS ld set (V 0 8))) := by
    intro m
    induction m with
    | zero =>
      intro s n hd hn
      obtain ⟨n, rfl⟩ : ∃ q, n = q + 1 := ⟨n - 1, by omega⟩
      have hd : s = V 0 8 := by omega
      subst hd
      rw [LX10_loadsOf_4]
      simp only [XX10_shops, b1]
      rw [hr.1 8 (by omega), if_pos (by rw [nI_lei] <;> omega)]
    | succ m ih =>
      intro s n hd hn
      obtain ⟨n, rfl⟩ : ∃ q, n = q + 1 := ⟨n - 1, by omega⟩
      have k1 := ih (s + 1) n (by omega) (by omega)
      have e : ldS ld set (s + 1) = ldS ld set s + (if set.testBit s then ld s else 0) := rfl
      rw [e] at k1
      rw [LX10_loadsOf_4]
      simp only [XX10_shops, b1]
      rw [hr.1 8 (by omega), if_neg (by rw [nI_lei] <;> omega), m_isOf hs (by omega)]
      simp only [lt, nI_lit, bq0]
      cases hq : set.testBit s with
      | false =>
        rw [hq] at k1
        rw [if_pos rfl, nI_add, nI_add]
        exact k1
      | true =>
        rw [hq] at k1
        rw [if_neg (by decide), if_pos ((ib_nI (by omega)).mpr (by omega)), nI_cl (by omega), hl s (by omega), nI_add, nI_add]
        exact k1
  exact key (V 0 8) 0 FUEL (by omega) (by unfold FUEL; omega)
/-- the shops with a load -/
def allS (ld : Nat → Nat) : Nat → Nat
  | 0 => 0
  | k + 1 => allS ld k ||| (if 0 < ld k then 2 ^ k else 0)
theorem allS_lt (ld : Nat → Nat) : ∀ n, allS ld n < 2 ^ n
  | 0 => by
    show 0 < 2 ^ 0
    decide
  | n + 1 => by
    have h1 := allS_lt ld n
    have h2 : 2 ^ n < 2 ^ (n + 1) := Nat.pow_lt_pow_right (by omega) (by omega)
    show allS ld n ||| (if 0 < ld n then 2 ^ n else 0) < 2 ^ (n + 1)
    refine Nat.or_lt_two_pow (by omega) ?_
    split <;> omega
theorem allS_bit (ld : Nat → Nat) (s : Nat) : ∀ n, (allS ld n).testBit s = (decide (s < n) && decide (0 < ld s))
  | 0 => by
    show (0 : Nat).testBit s = _
    rw [Nat.zero_testBit]
    simp
  | n + 1 => by
    show (allS ld n ||| (if 0 < ld n then 2 ^ n else 0)).testBit s = _
    rw [Nat.testBit_or, allS_bit ld s n]
    by_cases q : s = n
    · subst q
      by_cases z : 0 < ld s
      · rw [if_pos z]
        simp [z]
      · rw [if_neg z]
        simp [z]
    · have e : (if 0 < ld n then 2 ^ n else 0).testBit s = false := by
        split
        · rw [Nat.testBit_two_pow]
          simp
          omega
        · exact Nat.zero_testBit s
      rw [e, Bool.or_false]
      congr 1
      simp
      omega
theorem m_layLoads {V : Vw} (hw : WF V) {ld : Nat → Nat} {d : Nat} (hd : d < V 0 0) (hld : ∀ s, s < V 0 8 → ld s < 1000000) {σ : Sg} (hr : RM V σ) (h80 : ∀ s, s < V 0 8 → σ 80 (14 * s + d) = nI (ld s)) : ∃ τ, XX10_layLoads (nI d) σ = some (nI (allS ld (V 0 8)), τ) ∧ RM V τ ∧ LDM V ld τ ∧ fr [(86, none)] σ τ := by
  have s6 := hw.s6
  have d14 := hw.d14
  have key : ∀ m s n σ, s + m = V 0 8 → m < n → RM V σ → (∀ s, s < V 0 8 → σ 80 (14 * s + d) = nI (ld s)) → (∀ t, t < s → σ 86 t = nI (ld t)) → ∃ τ, LX10_layLoads_4 (nI d) n (nI (allS ld s)) (nI s) σ = some (nI (allS ld (V 0 8)), τ) ∧ RM V τ ∧ LDM V ld τ ∧ fr [(86, none)] σ τ := by
    intro m
    induction m with
    | zero =>
      intro s n σ hs hn hr h80 hA
      obtain ⟨n, rfl⟩ : ∃ q, n = q + 1 := ⟨n - 1, by omega⟩
      have hs : s = V 0 8 := by omega
      subst hs
      refine ⟨σ, ?_, hr, hA, fr.rf⟩
      rw [LX10_layLoads_4]
      simp only [XX10_shops, b1]
      rw [hr.1 8 (by omega), if_pos (by rw [nI_lei] <;> omega)]
    | succ m ih =>
      intro s n σ hs hn hr h80 hA
      obtain ⟨n, rfl⟩ : ∃ q, n = q + 1 := ⟨n - 1, by omega⟩
      have hf : fr [(86, none)] σ (up σ 86 s (nI (ld s))) := fr_up
      have hl := hld s (by omega)
      obtain ⟨τ, h1, h2, h3, h4⟩ := ih (s + 1) n (up σ 86 s (nI (ld s))) (by omega) (by omega) (hr.off hf rfl) (fun t ht => by rw [hf.cell (k := 80) rfl]; exact h80 t ht) (fun t ht => by
        by_cases q : t = s
        · subst q
          exact up_same
        · rw [up_slot q]
          exact hA t (by omega))
      refine ⟨τ, ?_, h2, h3, hf.tr h4⟩
      rw [LX10_layLoads_4]
      simp only [XX10_shops, b1, nI_lit]
      rw [hr.1 8 (by omega), if_neg (by rw [nI_lei] <;> omega), pk_mul, nI_add, if_pos ((ib_nI (by omega)).mpr (by omega)), if_pos ((ib_nI (by omega)).mpr (by omega)), nI_cl (by omega), nI_cl (by omega), h80 s (by omega)]
      simp only [lt]
      rw [up_same]
      have e : allS ld (s + 1) = allS ld s ||| (if 0 < ld s then 2 ^ s else 0) := rfl
      rw [e] at h1
      by_cases q : 0 < ld s
      · rw [if_pos q] at h1
        rw [if_neg (by rw [nI_lei] <;> omega), nx_1shl (by omega), nx_or, nI_add]
        exact h1
      · rw [if_neg q] at h1
        rw [if_pos (by rw [nI_lei] <;> omega), nx_or, nI_add]
        exact h1
  exact key (V 0 8) 0 FUEL σ (by omega) (by unfold FUEL; omega) hr h80 (fun t ht => absurd ht (by omega))
theorem sb_iff : ∀ set, set < 64 → ∀ p, p < 64 → ((nI p &&& (nI set ^^^ (-1 : Int32))) = 0 ↔ p &&& set = p) := by decide +kernel
theorem sb_diff : ∀ set, set < 64 → ∀ p, p < 64 → p &&& set = p → nI set &&& (nI p ^^^ (-1 : Int32)) = nI (set ^^^ p) := by decide +kernel
theorem sb_low : ∀ p, p < 64 → ∀ j, j < 6 → ((nI p &&& nI (2 ^ j)) = 0 ↔ p.testBit j = false) := by decide +kernel
def accM (acc : Option PR) (set : Nat) (σ : Sg) : Prop := match acc with
  | none => σ 83 set = -1
  | some r => σ 83 set = nI r.1 ∧ σ 84 set = nI r.2.1 ∧ σ 85 set = nI r.2.2
def cPM (V : Vw) (cap : Nat) (ld : Nat → Nat) (q : Nat) (σ : Sg) : Prop := if q = 0 then σ 83 0 = nI 0 ∧ σ 84 0 = nI 0 else accM (PT V cap ld q) q σ
theorem cPM.m83 {V : Vw} {cap : Nat} {ld : Nat → Nat} {q : Nat} {σ : Sg} (h : cPM V cap ld q σ) : (PT V cap ld q = none → σ 83 q = -1) ∧ (∀ r, PT V cap ld q = some r → σ 83 q = nI r.1 ∧ σ 84 q = nI r.2.1) := by
  unfold cPM at h
  by_cases z : q = 0
  · subst z
    rw [if_pos rfl] at h
    rw [PT_zero]
    exact ⟨fun q => (by cases q), fun r hr => (by cases hr; exact h)⟩
  · rw [if_neg z] at h
    cases hP : PT V cap ld q with
    | none =>
      rw [hP] at h
      exact ⟨fun _ => h, fun r hr => (by cases hr)⟩
    | some r =>
      rw [hP] at h
      exact ⟨fun q => (by cases q), fun r hr => (by cases hr; exact ⟨h.1, h.2.1⟩)⟩
theorem cPM.off {V : Vw} {cap : Nat} {ld : Nat → Nat} {q : Nat} {σ τ : Sg} (h : cPM V cap ld q σ) (e1 : τ 83 q = σ 83 q) (e2 : τ 84 q = σ 84 q) (e3 : τ 85 q = σ 85 q) : cPM V cap ld q τ := by
  unfold cPM at h ⊢
  by_cases z : q = 0
  · subst z
    rw [if_pos rfl] at h ⊢
    rw [e1, e2]
    exact h
  · rw [if_neg z] at h ⊢
    unfold accM at h ⊢
    rw [e1, e2, e3]
    exact h
abbrev pS : List (Nat × Option Nat) := [(83, none), (84, none), (85, none)]
theorem layPart_loop {V : Vw} (hw : WF V) {cap : Nat} (hc : cap < 1000000) {ld : Nat → Nat} (hld : ∀ s, s < V 0 8 → ld s < 1000000) {set : Nat} (hs : set < 2 ^ V 0 8) (h0 : set ≠ 0) : ∀ m p n σ, p + m = set + 1 → m < n → RM V σ → AHM V σ → LDM V ld σ → (∀ q, q < set → q &&& set = q → cPM V cap ld q σ) → accM (bP V cap ld (PT V cap ld) set p) set σ → ∃ τ, LX10_layPart_30 (nI set) (nI cap) (nI (2 ^ lowJ 14 set)) n (nI p) σ = some τ ∧ accM (PT V cap ld set) set τ ∧ (∀ q, q ≠ set → τ 83 q = σ 83 q ∧ τ 84 q = σ 84 q ∧ τ 85 q = σ 85 q) ∧ fr pS σ τ := by
  have s6 := hw.s6
  have p6 := p64 s6
  obtain ⟨-, l6, -⟩ := low_fact set (by omega) h0
  intro m
  induction m with
  | zero =>
    intro p n σ hp hn hr hA hl hq ha
    obtain ⟨n, rfl⟩ : ∃ q, n = q + 1 := ⟨n - 1, by omega⟩
    have hp : p = set + 1 := by omega
    subst hp
    refine ⟨σ, ?_, by rw [PT_pos (by omega) h0]; exact ha, fun _ _ => ⟨rfl, rfl, rfl⟩, fr.rf⟩
    rw [LX10_layPart_30, if_pos (by rw [nI_lti] <;> omega)]
  | succ m ih =>
    intro p n σ hp hn hr hA hl hq ha
    obtain ⟨n, rfl⟩ : ∃ q, n = q + 1 := ⟨n - 1, by omega⟩
    have ih := ih (p + 1) n
    rw [LX10_layPart_30, if_neg (by rw [nI_lti] <;> omega)]
    simp only [lt]
    rw [nI_1]
    have eb : bP V cap ld (PT V cap ld) set (p + 1) = stp V cap ld (PT V cap ld) set (bP V cap ld (PT V cap ld) set p) p := rfl
    -- nothing changes
    have stay : bP V cap ld (PT V cap ld) set (p + 1) = bP V cap ld (PT V cap ld) set p → ∃ τ, LX10_layPart_30 (nI set) (nI cap) (nI (2 ^ lowJ 14 set)) n (nI (p + 1)) σ = some τ ∧ accM (PT V cap ld set) set τ ∧ (∀ q, q ≠ set → τ 83 q = σ 83 q ∧ τ 84 q = σ 84 q ∧ τ 85 q = σ 85 q) ∧ fr pS σ τ := fun z => ih σ (by omega) (by omega) hr hA hl hq (by rw [z]; exact ha)
    by_cases c1 : p &&& set = p
    · rw [if_pos ((sb_iff set (by omega) p (by omega)).mpr c1)]
      by_cases c2 : p.testBit (lowJ 14 set) = false
      · rw [if_pos ((sb_low p (by omega) _ l6).mpr c2)]
        refine stay ?_
        rw [eb]
        unfold stp
        rw [if_neg]
        unfold vp
        rw [c2]
        simp
      · rw [if_neg (fun z => c2 ((sb_low p (by omega) _ l6).mp z)), m_loadsOf hw hr hl (by omega)]
        simp only [b1]
        have hvp : vp set p = true := by
          unfold vp
          rw [Bool.and_eq_true, decide_eq_true_eq]
          exact ⟨c1, by simpa using c2⟩
        have hL : ldS ld p (V 0 8) ≤ V 0 8 * 1000000 := sumN_le (fun i hi => by
          have := hld i hi
          show (if p.testBit i then ld i else 0) ≤ 1000000
          split <;> omega)
        have hL2 : V 0 8 * 1000000 ≤ 6 * 1000000 := Nat.mul_le_mul_right _ s6
        by_cases c3 : cap < ldS ld p (V 0 8)
        · rw [if_pos (by rw [nI_lti] <;> omega)]
          refine stay ?_
          rw [eb]
          unfold stp
          rw [if_neg (by omega)]
        · rw [if_neg (by rw [nI_lti] <;> omega), sb_diff set (by omega) p (by omega) c1]
          obtain ⟨⟨f1, f2, f3, f4⟩, f5, f6, f7⟩ := vp_facts set (by omega) p (by omega) hvp
          have es : stp V cap ld (PT V cap ld) set (bP V cap ld (PT V cap ld) set p) p = (match PT V cap ld (set ^^^ p) with
            | none => bP V cap ld (PT V cap ld) set p
            | some r => bet (bP V cap ld (PT V cap ld) set p) (rpV V p + r.1, r.2.1 + 1, p)) := by
            rw [stp, if_pos ⟨hvp, by omega⟩]
            cases PT V cap ld (set ^^^ p) <;> rfl
          rw [if_pos ((ib_nI (by omega)).mpr (by omega)), nI_cl (by omega), m_costOfSet hw hr hA (by omega)]
          obtain ⟨n1, n2⟩ := (hq (set ^^^ p) f3 f5).m83
          cases hP : PT V cap ld (set ^^^ p) with
          | none =>
            rw [n1 hP, if_neg (by decide)]
            refine stay ?_
            rw [eb, es, hP]
          | some r =>
            obtain ⟨e1, e2⟩ := n2 r hP
            obtain ⟨b1', b2', b3'⟩ := PT_bd hw _ r (by omega) hP
            have cn := cnt6 (set ^^^ p)
            have cp : cosV V p = rpV V p := by unfold cosV; rw [if_neg f1]
            have rp := rp_le hw (set := p) (by omega)
            rw [hP] at es
            have ge : (0 : Int32) ≤ nI r.1 := (nI_lei (a := 0) (by omega) (by omega)).mpr (Nat.zero_le _)
            rw [e1, if_pos ge, cp]
            simp only []
            rw [nI_add, if_pos ((ib_nI (by omega)).mpr (by omega)), nI_cl (by omega)]
            have e10 : ¬ (1 : Int32) = 0 := by decide
            simp only [if_neg e10, if_true, up_cell (show (84 : Nat) ≠ 83 by omega), e2]
            rw [nI_1]
            obtain ⟨τ0, hτ⟩ : ∃ τ0, τ0 = up (up (up σ 83 set (nI (rpV V p + r.1))) 84 set (nI (r.2.1 + 1))) 85 set (nI p) := ⟨_, rfl⟩
            rw [← hτ]
            have hf : fr pS σ τ0 := by
              rw [hτ]
              exact ((fr_up.mono (by simp)).tr (fr_up.mono (by simp))).tr (fr_up.mono (by simp))
            have go : bP V cap ld (PT V cap ld) set (p + 1) = some (rpV V p + r.1, r.2.1 + 1, p) → ∃ τ, LX10_layPart_30 (nI set) (nI cap) (nI (2 ^ lowJ 14 set)) n (nI (p + 1)) τ0 = some τ ∧ accM (PT V cap ld set) set τ ∧ (∀ q, q ≠ set → τ 83 q = σ 83 q ∧ τ 84 q = σ 84 q ∧ τ 85 q = σ 85 q) ∧ fr pS σ τ := fun z => by
              have o : ∀ q, q ≠ set → τ0 83 q = σ 83 q ∧ τ0 84 q = σ 84 q ∧ τ0 85 q = σ 85 q := fun q hq => by
                rw [hτ]
                exact ⟨by rw [up_cell (by omega), up_cell (by omega), up_slot hq], by rw [up_cell (by omega), up_slot hq, up_cell (by omega)], by rw [up_slot hq, up_cell (by omega), up_cell (by omega)]⟩
              obtain ⟨τ, g1, g2, g3, g4⟩ := ih τ0 (by omega) (by omega) (hr.off hf rfl) (fun a b h1 h2 => by rw [hf.cell (k := 77) rfl]; exact hA a b h1 h2) (fun s h1 => by rw [hf.cell (k := 86) rfl]; exact hl s h1) (fun q h1 h2 => (hq q h1 h2).off (o q (by omega)).1 (o q (by omega)).2.1 (o q (by omega)).2.2) (by
                rw [z]
                show τ0 83 set = nI (rpV V p + r.1) ∧ τ0 84 set = nI (r.2.1 + 1) ∧ τ0 85 set = nI p
                rw [hτ]
                exact ⟨by rw [up_cell (by omega), up_cell (by omega), up_same], by rw [up_cell (by omega), up_same], by rw [up_same]⟩)
              exact ⟨τ, g1, g2, fun q h1 => ⟨(g3 q h1).1.trans (o q h1).1, (g3 q h1).2.1.trans (o q h1).2.1, (g3 q h1).2.2.trans (o q h1).2.2⟩, hf.tr g4⟩
            cases hb : bP V cap ld (PT V cap ld) set p with
            | none =>
              rw [hb] at ha es
              have a1 : σ 83 set = -1 := ha
              rw [a1, if_pos (by decide)]
              exact go (by rw [eb, hb, es]; rfl)
            | some y =>
              rw [hb] at ha es
              obtain ⟨a1, a2, a3⟩ : σ 83 set = nI y.1 ∧ σ 84 set = nI y.2.1 ∧ σ 85 set = nI y.2.2 := ha
              obtain ⟨p', q1, q2, q3, q', q4, q5⟩ := bP_mem hb
              obtain ⟨⟨f1', f2', f3', f4'⟩, -⟩ := vp_facts set (by omega) p' (by omega) q2
              obtain ⟨c1', c2', c3'⟩ := PT_bd hw _ q' (by omega) q4
              have cn' := cnt6 (set ^^^ p')
              have rp' := rp_le hw (set := p') (by omega)
              have y1 : y.1 < 1000000 := by rw [q5]; show rpV V p' + q'.1 < _; omega
              have y2 : y.2.1 < 1000000 := by rw [q5]; show q'.2.1 + 1 < _; omega
              rw [a1, a2, if_neg (nI_pos (by omega))]
              by_cases d1 : rpV V p + r.1 < y.1
              · rw [if_pos (by rw [nI_lti] <;> omega)]
                exact go (by rw [eb, hb, es]; simp only [bet]; rw [if_pos (Or.inl d1)])
              · rw [if_neg (by rw [nI_lti] <;> omega)]
                by_cases d2 : rpV V p + r.1 = y.1
                · rw [if_pos (by rw [d2])]
                  by_cases d3 : y.2.1 ≤ r.2.1 + 1
                  · rw [if_pos (by rw [nI_lei] <;> omega)]
                    exact stay (by rw [eb, hb, es]; simp only [bet]; rw [if_neg (by omega)])
                  · rw [if_neg (by rw [nI_lei] <;> omega)]
                    exact go (by rw [eb, hb, es]; simp only [bet]; rw [if_pos (Or.inr ⟨d2, by omega⟩)])
                · rw [if_neg (by rw [nI_eqi] <;> omega)]
                  exact stay (by rw [eb, hb, es]; simp only [bet]; rw [if_neg (by omega)])
    · rw [if_neg (fun z => c1 ((sb_iff set (by omega) p (by omega)).mp z))]
      refine stay ?_
      rw [eb]
      unfold stp
      rw [if_neg]
      unfold vp
      simp [c1]
