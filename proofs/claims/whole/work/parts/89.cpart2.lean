/-! THE CLASS: partings of a day, prices -/
theorem ldS_zero {ld : Nat → Nat} : ∀ n, ldS ld 0 n = 0
  | 0 => rfl
  | n + 1 => by
    show ldS ld 0 n + (if (0 : Nat).testBit n then ld n else 0) = 0
    rw [ldS_zero n, Nat.zero_testBit]
    rfl
/-- what holds while the table is made -/
def PI (V : Vw) (cap : Nat) (ld : Nat → Nat) (all k : Nat) (σ : Sg) : Prop := σ 29 6 = nI all ∧ PC V σ ∧ (∀ s, s < V 0 8 → σ 31 (2 ^ s) = nI (ld s)) ∧ (∀ q, q < k → q &&& all = q → cPC V cap ld q σ)
theorem c_partSet {V : Vw} (hw : WF V) {cap : Nat} (hc : cap < 1000000) {ld : Nat → Nat} (hld : ∀ s, s < V 0 8 → ld s < 1000000) (hfit : ∀ s, s < V 0 8 → ld s ≤ cap) {all set : Nat} (hall : all < 2 ^ V 0 8) (h0 : set ≠ 0) (hs : set ≤ all) {σ : Sg} (h : PI V cap ld all set σ) : ∃ τ, XX2_partSet (nI set) (nI cap) σ = some τ ∧ PI V cap ld all (set + 1) τ ∧ fr rS σ τ := by
  have s6 := hw.s6
  have p6 := p64 s6
  obtain ⟨h29, hp, h31, hq⟩ := h
  unfold XX2_partSet
  rw [h29, nx_and]
  by_cases c : set &&& all = set
  · obtain ⟨q1, q2, q3, q4⟩ := lo_3 set (by omega) h0
    obtain ⟨l1, l2, l3⟩ := low_fact set (by omega) h0
    have l8 : lowJ 14 set < V 0 8 := bit_lt (show set < 2 ^ V 0 8 by omega) l3
    have pw := pow64 l8 s6
    rw [c, if_pos rfl, low_and set (by omega) h0]
    simp only [lt]
    rw [nx_xor]
    have i1 : ib (nI (2 ^ lowJ 14 set)) 64 := (ib_nI (by omega)).mpr (by omega)
    have i2 : (nI (2 ^ lowJ 14 set)).toNatClampNeg = 2 ^ lowJ 14 set := nI_cl (by omega)
    have i3 : ib (nI set) 64 := (ib_nI (by omega)).mpr (by omega)
    have i4 : (nI set).toNatClampNeg = set := nI_cl (by omega)
    have i5 : ib (nI (set ^^^ 2 ^ lowJ 14 set)) 64 := (ib_nI (by omega)).mpr (by omega)
    have i6 : (nI (set ^^^ 2 ^ lowJ 14 set)).toNatClampNeg = set ^^^ 2 ^ lowJ 14 set := nI_cl (by omega)
    simp only [if_pos i1, i2, if_pos i3, i4, if_pos i5, i6]
    have es : σ 31 (2 ^ lowJ 14 set) + σ 31 (set ^^^ 2 ^ lowJ 14 set) = nI (ldS ld set (V 0 8)) := by
      rw [h31 _ l8, (hq _ q3 (sub_tr q4 c)).1, nI_add]
      have := ldS_or (ld := ld) q2 (V 0 8)
      rw [q1, ldS_one, if_pos l8] at this
      rw [this]
    rw [es]
    obtain ⟨τ0, hτ⟩ : ∃ τ0, τ0 = up (up (up σ 31 set (nI (ldS ld set (V 0 8)))) 34 set (nI set)) 33 set 1 := ⟨_, rfl⟩
    rw [← hτ]
    have hf : fr rS σ τ0 := by
      rw [hτ]
      exact ((fr_up.mono (by simp)).tr (fr_up.mono (by simp))).tr (fr_up.mono (by simp))
    have t31 : τ0 31 set = nI (ldS ld set (V 0 8)) := by rw [hτ, up_cell (by omega), up_cell (by omega), up_same]
    have t30 : τ0 30 set = nI (rpV V set) := by rw [hf.cell (k := 30) rfl]; exact hp.1 set (by omega)
    rw [t31, t30]
    have hL : ldS ld set (V 0 8) ≤ V 0 8 * 1000000 := sumN_le (fun i hi => by
      have := hld i hi
      show (if set.testBit i then ld i else 0) ≤ 1000000
      split <;> omega)
    have hL2 : V 0 8 * 1000000 ≤ 6 * 1000000 := Nat.mul_le_mul_right _ s6
    have z10 : ¬ (1 : Int32) = 0 := by decide
    simp only [if_neg z10, if_true]
    -- how it ends
    have fin : ∀ τ, (∃ r, PT V cap ld set = some r ∧ τ 32 set = nI r.1 ∧ τ 33 set = nI r.2.1 ∧ τ 34 set = nI r.2.2) → τ 31 = τ0 31 → (∀ q, q ≠ set → τ 32 q = σ 32 q ∧ τ 33 q = σ 33 q ∧ τ 34 q = σ 34 q) → fr rS σ τ → PI V cap ld all (set + 1) τ := fun τ hr e31 ho hfr => by
      have t0 : ∀ q, q ≠ set → τ 31 q = σ 31 q := fun q hne => by rw [e31, hτ, up_cell (by omega), up_cell (by omega), up_slot hne]
      refine ⟨?_, ⟨fun q h => ?_, ?_, ?_, ?_⟩, fun s h => ?_, fun q h1 h2 => ?_⟩
      · rw [hfr.cell (k := 29) rfl]
        exact h29
      · rw [hfr.cell (k := 30) rfl]
        exact hp.1 q h
      · rw [t0 0 (by omega)]
        exact hp.2.1
      · rw [(ho 0 (by omega)).1]
        exact hp.2.2.1
      · rw [(ho 0 (by omega)).2.1]
        exact hp.2.2.2
      · by_cases e : 2 ^ s = set
        · rw [e, e31, t31, ← e, ldS_one, if_pos h]
        · rw [t0 _ e]
          exact h31 s h
      · by_cases e : q = set
        · subst e
          obtain ⟨r, r1, r2, r3, r4⟩ := hr
          exact ⟨by rw [e31, t31], r, r1, r2, r3, fun _ => r4⟩
        · exact (hq q (by omega) h2).off ⟨t0 q e, ho q e⟩
    by_cases fits : ldS ld set (V 0 8) ≤ cap
    · rw [if_neg (by rw [nI_lti] <;> omega)]
      have f1 : fr rS τ0 (up τ0 32 set (nI (rpV V set))) := fr_up.mono (by simp)
      refine ⟨_, rfl, fin _ ⟨_, PT_fit hw set (by omega) h0 fits, up_same, ?_, ?_⟩ (up_cell (by omega)) (fun q hne => ?_) (hf.tr f1), hf.tr f1⟩
      · rw [up_cell (by omega), hτ, up_same]
        rfl
      · rw [up_cell (by omega), hτ, up_cell (by omega), up_same]
      · rw [up_slot hne, up_cell (by omega), up_cell (by omega), hτ]
        exact ⟨by rw [up_cell (by omega), up_cell (by omega), up_cell (by omega)], by rw [up_slot hne, up_cell (by omega), up_cell (by omega)], by rw [up_cell (by omega), up_slot hne, up_cell (by omega)]⟩
    · rw [if_pos (by rw [nI_lti] <;> omega)]
      have f1 : fr rS τ0 (up τ0 32 set 1000000000) := fr_up.mono (by simp)
      obtain ⟨σ1, hσ1⟩ : ∃ σ1, σ1 = up τ0 32 set 1000000000 := ⟨_, rfl⟩
      rw [← hσ1] at f1 ⊢
      have o3 : ∀ q, q ≠ set → σ1 31 q = σ 31 q ∧ σ1 32 q = σ 32 q ∧ σ1 33 q = σ 33 q ∧ σ1 34 q = σ 34 q := fun q hne => by
        rw [hσ1, hτ]
        exact ⟨by rw [up_cell (by omega), up_cell (by omega), up_cell (by omega), up_slot hne], by rw [up_slot hne, up_cell (by omega), up_cell (by omega), up_cell (by omega)], by rw [up_cell (by omega), up_slot hne, up_cell (by omega), up_cell (by omega)], by rw [up_cell (by omega), up_cell (by omega), up_slot hne, up_cell (by omega)]⟩
      obtain ⟨τ, g1, g2, g3, g4⟩ := partSet_loop hw hc hld (show set < 2 ^ V 0 8 by omega) h0 (by omega) (set ^^^ 2 ^ lowJ 14 set) (set ^^^ 2 ^ lowJ 14 set) FUEL σ1 (Nat.le_refl _) (by unfold FUEL; omega) (Nat.le_refl _) (Nat.and_self _) ⟨fun q h => by rw [f1.cell (k := 30) rfl, hf.cell (k := 30) rfl]; exact hp.1 q h, by rw [(o3 0 (by omega)).1]; exact hp.2.1, by rw [(o3 0 (by omega)).2.1]; exact hp.2.2.1, by rw [(o3 0 (by omega)).2.2.1]; exact hp.2.2.2⟩ (fun q h1 h2 => (hq q h1 (sub_tr h2 c)).off (o3 q (by omega))) (by
        rw [q1, Nat.sub_self]
        show σ1 32 set = nI 1000000000 ∧ σ1 33 set = nI 1 ∧ σ1 34 set = nI set
        rw [hσ1, hτ]
        exact ⟨by rw [up_same]; rfl, by rw [up_cell (by omega), up_same]; rfl, by rw [up_cell (by omega), up_cell (by omega), up_same]⟩)
      refine ⟨τ, g1, fin τ ?_ ?_ (fun q hne => ?_) ((hf.tr f1).tr (g4.mono (by simp))), (hf.tr f1).tr (g4.mono (by simp))⟩
      · obtain ⟨r, hr⟩ := PT_ex hw (cap := cap) (ld := ld) set (by omega) (fun s hb => hfit s (bit_lt (show set < 2 ^ V 0 8 by omega) hb))
        rw [hr] at g2
        exact ⟨r, hr, g2⟩
      · rw [g4.cell (k := 31) rfl, hσ1, up_cell (by omega)]
      · obtain ⟨y1, y2, y3⟩ := g3 q hne
        obtain ⟨w0, w1, w2, w3⟩ := o3 q hne
        exact ⟨y1.trans w1, y2.trans w2, y3.trans w3⟩
  · have : ¬ nI (set &&& all) = nI set := nI_ne (by have := Nat.and_le_left (n := set) (m := all); omega) (by omega) c
    rw [if_neg this]
    refine ⟨σ, rfl, ⟨h29, hp, h31, fun q h1 h2 => hq q ?_ h2⟩, fr.rf⟩
    rcases Nat.lt_or_ge q set with e | e
    · exact e
    · exfalso
      apply c
      rw [show set = q by omega]
      exact h2
theorem parts_loop {V : Vw} (hw : WF V) {cap : Nat} (hc : cap < 1000000) {ld : Nat → Nat} (hld : ∀ s, s < V 0 8 → ld s < 1000000) (hfit : ∀ s, s < V 0 8 → ld s ≤ cap) {all : Nat} (hall : all < 2 ^ V 0 8) (K : Sg → Option (Int32 × Sg)) : ∀ m set n σ, set + m = all + 1 → m < n → set ≠ 0 → PI V cap ld all set σ → ∃ τ, LX2_priceOf_35 (nI cap) K n (nI set) σ = K τ ∧ LX2_part_8 (nI cap) K n (nI set) σ = K τ ∧ PI V cap ld all (all + 1) τ ∧ fr rS σ τ := by
  have p6 := p64 hw.s6
  intro m
  induction m with
  | zero =>
    intro set n σ hs hn h0 h
    obtain ⟨n, rfl⟩ : ∃ q, n = q + 1 := ⟨n - 1, by omega⟩
    refine ⟨σ, ?_, ?_, by rw [show all + 1 = set by omega]; exact h, fr.rf⟩
    · rw [LX2_priceOf_35, h.1, if_pos (by rw [nI_lti] <;> omega)]
    · rw [LX2_part_8, h.1, if_pos (by rw [nI_lti] <;> omega)]
  | succ m ih =>
    intro set n σ hs hn h0 h
    obtain ⟨n, rfl⟩ : ∃ q, n = q + 1 := ⟨n - 1, by omega⟩
    obtain ⟨τ, h1, h2, h3⟩ := c_partSet hw hc hld hfit hall h0 (show set ≤ all by omega) h
    obtain ⟨ρ, g1, g2, g3, g4⟩ := ih (set + 1) n τ (by omega) (by omega) (by omega) h2
    refine ⟨ρ, ?_, ?_, g3, h3.tr g4⟩
    · rw [LX2_priceOf_35, h.1, if_neg (by rw [nI_lti] <;> omega), h1]
      simp only [b1, lt]
      rw [nI_1]
      exact g1
    · rw [LX2_part_8, h.1, if_neg (by rw [nI_lti] <;> omega), h1]
      simp only [b1, lt]
      rw [nI_1]
      exact g2
theorem PI_start {V : Vw} {cap : Nat} {ld : Nat → Nat} {all : Nat} {σ : Sg} (h29 : σ 29 6 = nI all) (hp : PC V σ) (h31 : ∀ s, s < V 0 8 → σ 31 (2 ^ s) = nI (ld s)) : PI V cap ld all 1 σ := ⟨h29, hp, h31, fun q h1 _ => by
  have : q = 0 := by omega
  subst this
  exact ⟨by rw [ldS_zero]; exact hp.2.1, _, PT_zero, hp.2.2.1, hp.2.2.2, fun q => absurd rfl q⟩⟩
theorem allS_sum {ld : Nat → Nat} {m : Nat} : ∀ n, n ≤ m → ldS ld (allS ld m) n = sumN ld n
  | 0, _ => rfl
  | n + 1, h => by
    show ldS ld (allS ld m) n + (if (allS ld m).testBit n then ld n else 0) = sumN ld n + ld n
    rw [allS_sum n (by omega), allS_bit]
    by_cases q : 0 < ld n
    · simp [q]
      omega
    · simp [q]
      omega
abbrev gS : List (Nat × Option Nat) := [(29, some 6), (31, none), (32, none), (33, none), (34, none)]
theorem PC.zero {V : Vw} {σ τ : Sg} (h : PC V σ) (e30 : τ 30 = σ 30) (e1 : τ 31 0 = σ 31 0) (e2 : τ 32 0 = σ 32 0) (e3 : τ 33 0 = σ 33 0) : PC V τ := by
  unfold PC at h ⊢
  rw [e30, e1, e2, e3]
  exact h
theorem c_priceOf {V : Vw} (hw : WF V) {a : Nat} (ha : 35 ≤ a) {cap : Nat} (hc : cap < 1000000) {ld : Nat → Nat} (hld : ∀ s, s < V 0 8 → ld s < 1000000) (hfit : ∀ s, s < V 0 8 → ld s ≤ cap) {σ : Sg} (ht : TC V σ) (hp : PC V σ) (hl : ∀ s, s < V 0 8 → σ a s = nI (ld s)) : ∃ τ, XX2_priceOf a (nI cap) σ = some (nI (cdV V cap ld), τ) ∧ PC V τ ∧ fr gS σ τ := by
  have s6 := hw.s6
  have p6 := p64 s6
  have hall := allS_lt ld (V 0 8)
  obtain ⟨σ1, h1, h2, h3, h4, h5⟩ := c_gather hw ha hld ht hl
  have hp1 : PC V σ1 := hp.zero (h5.cell (by simp)) h4 (by rw [h5.cell (k := 32) (by simp)]) (by rw [h5.cell (k := 33) (by simp)])
  have hL : sumN ld (V 0 8) ≤ V 0 8 * 1000000 := sumN_le (fun i hi => by have := hld i hi; omega)
  have hL2 : V 0 8 * 1000000 ≤ 6 * 1000000 := Nat.mul_le_mul_right _ s6
  unfold XX2_priceOf
  rw [h1]
  simp only [b2]
  have i1 : ib (nI (allS ld (V 0 8))) 64 := (ib_nI (by omega)).mpr (by omega)
  have i2 : (nI (allS ld (V 0 8))).toNatClampNeg = allS ld (V 0 8) := nI_cl (by omega)
  by_cases c : sumN ld (V 0 8) ≤ cap
  · rw [if_neg (by rw [nI_lti] <;> omega), h2]
    have ls := allS_sum (ld := ld) (m := V 0 8) (V 0 8) (Nat.le_refl _)
    by_cases z : allS ld (V 0 8) = 0
    · rw [z, if_pos (show nI 0 = 0 from rfl)]
      refine ⟨σ1, ?_, hp1, h5.mono (by simp)⟩
      have : cdV V cap ld = 0 := by
        unfold cdV dpV
        rw [z, PT_zero]
      rw [this]
      rfl
    · rw [if_neg (show ¬ nI (allS ld (V 0 8)) = 0 from nI_ne (b := 0) (by omega) (by omega) z), if_pos i1, i2, hp1.1 _ hall]
      refine ⟨σ1, ?_, hp1, h5.mono (by simp)⟩
      have : cdV V cap ld = rpV V (allS ld (V 0 8)) := by
        unfold cdV dpV
        rw [PT_fit hw _ hall z (by omega)]
      rw [this]
  · rw [if_pos (by rw [nI_lti] <;> omega), lt_def]
    obtain ⟨τ, g1, g2, g3, g4⟩ := parts_loop hw hc hld hfit hall (fun (σ_3 : Sg) => if ib (σ_3 29 6) 64 then some (σ_3 32 (σ_3 29 6).toNatClampNeg, σ_3) else none) (allS ld (V 0 8)) 1 FUEL σ1 (by omega) (by unfold FUEL; omega) (by omega) (PI_start h2 hp1 h3)
    refine ⟨τ, ?_, g3.2.1, (h5.mono (by simp)).tr (g4.mono (by simp))⟩
    refine g1.trans ?_
    obtain ⟨-, r, r1, r2, -⟩ := g3.2.2.2 (allS ld (V 0 8)) (by omega) (Nat.and_self _)
    rw [g3.1, if_pos i1, i2, r2]
    have : cdV V cap ld = r.1 := by
      unfold cdV dpV
      rw [r1]
    rw [this]
theorem c_part {V : Vw} (hw : WF V) {cap : Nat} (hc : cap < 1000000) {ld : Nat → Nat} (hld : ∀ s, s < V 0 8 → ld s < 1000000) (hfit : ∀ s, s < V 0 8 → ld s ≤ cap) {σ : Sg} (ht : TC V σ) (hp : PC V σ) (hl : ∀ s, s < V 0 8 → σ 63 s = nI (ld s)) : ∃ τ r, dpV V cap ld = some r ∧ XX2_part (nI cap) σ = some (nI r.2.1, τ) ∧ PI V cap ld (allS ld (V 0 8)) (allS ld (V 0 8) + 1) τ ∧ fr gS σ τ := by
  have s6 := hw.s6
  have p6 := p64 s6
  have hall := allS_lt ld (V 0 8)
  obtain ⟨σ1, h1, h2, h3, h4, h5⟩ := c_gather hw (show 35 ≤ 63 by omega) hld ht hl
  have hp1 : PC V σ1 := hp.zero (h5.cell (by simp)) h4 (by rw [h5.cell (k := 32) (by simp)]) (by rw [h5.cell (k := 33) (by simp)])
  obtain ⟨τ, g1, g2, g3, g4⟩ := parts_loop hw hc hld hfit hall (fun (σ_3 : Sg) => if ib (σ_3 29 6) 64 then some (σ_3 33 (σ_3 29 6).toNatClampNeg, σ_3) else none) (allS ld (V 0 8)) 1 FUEL σ1 (by omega) (by unfold FUEL; omega) (by omega) (PI_start h2 hp1 h3)
  obtain ⟨-, r, r1, r2, r3, -⟩ := g3.2.2.2 (allS ld (V 0 8)) (by omega) (Nat.and_self _)
  refine ⟨τ, r, r1, ?_, g3, (h5.mono (by simp)).tr (g4.mono (by simp))⟩
  unfold XX2_part
  rw [h1]
  simp only [b2]
  rw [lt_def]
  refine g2.trans ?_
  rw [g3.1, if_pos ((ib_nI (by omega)).mpr (by omega)), nI_cl (by omega), r3]
