/-! PARTINGS: the least parting of a set, by sets -/
def rpV (V : Vw) (set : Nat) : Nat := V 0 4 + V 0 5 * ah V set 6
abbrev PR : Type := Nat × Nat × Nat
def ldS (ld : Nat → Nat) (set : Nat) : Nat → Nat := sumN (fun s => if set.testBit s then ld s else 0)
def vp (set p : Nat) : Bool := decide (p &&& set = p) && p.testBit (lowJ 14 set)
def bet : Option PR → PR → Option PR
  | none, x => some x
  | some y, x => if x.1 < y.1 ∨ (x.1 = y.1 ∧ x.2.1 < y.2.1) then some x else some y
def stp (V : Vw) (cap : Nat) (ld : Nat → Nat) (T : Nat → Option PR) (set : Nat) (acc : Option PR) (p : Nat) : Option PR := if vp set p = true ∧ ldS ld p (V 0 8) ≤ cap then (match T (set ^^^ p) with
  | none => acc
  | some r => bet acc (rpV V p + r.1, r.2.1 + 1, p)) else acc
def bP (V : Vw) (cap : Nat) (ld : Nat → Nat) (T : Nat → Option PR) (set : Nat) : Nat → Option PR
  | 0 => none
  | p + 1 => stp V cap ld T set (bP V cap ld T set p) p
def pT (V : Vw) (cap : Nat) (ld : Nat → Nat) : Nat → Nat → Option PR
  | 0, _ => none
  | k + 1, set => if set = k then (if k = 0 then some (0, 0, 0) else bP V cap ld (pT V cap ld k) k (k + 1)) else pT V cap ld k set
def PT (V : Vw) (cap : Nat) (ld : Nat → Nat) (set : Nat) : Option PR := pT V cap ld (set + 1) set
theorem pT_ge {V : Vw} {cap : Nat} {ld : Nat → Nat} : ∀ {k set : Nat}, set < k → pT V cap ld k set = PT V cap ld set
  | 0, _, h => absurd h (by omega)
  | k + 1, set, h => by
    by_cases q : set = k
    · rw [q]; rfl
    · show (if set = k then (if k = 0 then some (0, 0, 0) else bP V cap ld (pT V cap ld k) k (k + 1)) else pT V cap ld k set) = _
      rw [if_neg q]
      exact pT_ge (by omega)
theorem vp_f1 : ∀ set, set < 64 → ∀ p, p < 64 → vp set p = true → p ≠ 0 ∧ set ^^^ p < set := by decide +kernel
theorem vp_f2 : ∀ set, set < 64 → ∀ p, p < 64 → vp set p = true → cntB (set ^^^ p) 6 + 1 ≤ cntB set 6 := by decide +kernel
theorem vp_f3 : ∀ set, set < 64 → ∀ p, p < 64 → vp set p = true → (set ^^^ p) &&& set = set ^^^ p := by decide +kernel
theorem vp_f4 : ∀ set, set < 64 → ∀ p, p < 64 → vp set p = true → (set ^^^ p) &&& p = 0 ∧ p ||| (set ^^^ p) = set := by decide +kernel
theorem vp_le {set p : Nat} (h : vp set p = true) : p ≤ set := by
  unfold vp at h
  rw [Bool.and_eq_true, decide_eq_true_eq] at h
  rw [← h.1]
  exact Nat.and_le_right
theorem vp_facts (set : Nat) (hs : set < 64) (p : Nat) (hp : p < 64) (h : vp set p = true) : (p ≠ 0 ∧ p ≤ set ∧ set ^^^ p < set ∧ cntB (set ^^^ p) 6 + 1 ≤ cntB set 6) ∧ (set ^^^ p) &&& set = set ^^^ p ∧ (set ^^^ p) &&& p = 0 ∧ p ||| (set ^^^ p) = set := ⟨⟨(vp_f1 set hs p hp h).1, vp_le h, (vp_f1 set hs p hp h).2, vp_f2 set hs p hp h⟩, vp_f3 set hs p hp h, vp_f4 set hs p hp h⟩
theorem bP_congr {V : Vw} {cap : Nat} {ld : Nat → Nat} {T T' : Nat → Option PR} {set : Nat} (h : ∀ p, vp set p = true → T (set ^^^ p) = T' (set ^^^ p)) : ∀ n, bP V cap ld T set n = bP V cap ld T' set n
  | 0 => rfl
  | n + 1 => by
    show stp V cap ld T set (bP V cap ld T set n) n = stp V cap ld T' set (bP V cap ld T' set n) n
    rw [bP_congr h n]
    unfold stp
    by_cases q : vp set n = true ∧ ldS ld n (V 0 8) ≤ cap
    · rw [if_pos q, if_pos q, h n q.1]
    · rw [if_neg q, if_neg q]
theorem PT_zero {V : Vw} {cap : Nat} {ld : Nat → Nat} : PT V cap ld 0 = some (0, 0, 0) := rfl
theorem PT_pos {V : Vw} {cap : Nat} {ld : Nat → Nat} {set : Nat} (hs : set < 64) (h0 : set ≠ 0) : PT V cap ld set = bP V cap ld (PT V cap ld) set (set + 1) := by
  show (if set = set then (if set = 0 then some (0, 0, 0) else bP V cap ld (pT V cap ld set) set (set + 1)) else pT V cap ld set set) = _
  rw [if_pos rfl, if_neg h0]
  exact bP_congr (fun p hp => pT_ge (vp_facts set hs p (by have := vp_le hp; omega) hp).1.2.2.1) _
theorem bP_mem {V : Vw} {cap : Nat} {ld : Nat → Nat} {T : Nat → Option PR} {set : Nat} {r : PR} : ∀ {n : Nat}, bP V cap ld T set n = some r → ∃ p, p < n ∧ vp set p = true ∧ ldS ld p (V 0 8) ≤ cap ∧ ∃ q, T (set ^^^ p) = some q ∧ r = (rpV V p + q.1, q.2.1 + 1, p)
  | 0, h => by cases h
  | n + 1, h => by
    have h : stp V cap ld T set (bP V cap ld T set n) n = some r := h
    have up : bP V cap ld T set n = some r → ∃ p, p < n + 1 ∧ vp set p = true ∧ ldS ld p (V 0 8) ≤ cap ∧ ∃ q, T (set ^^^ p) = some q ∧ r = (rpV V p + q.1, q.2.1 + 1, p) := fun z => by
      obtain ⟨p, h1, h2⟩ := bP_mem z
      exact ⟨p, by omega, h2⟩
    unfold stp at h
    by_cases q : vp set n = true ∧ ldS ld n (V 0 8) ≤ cap
    · rw [if_pos q] at h
      cases hT : T (set ^^^ n) with
      | none => rw [hT] at h; exact up h
      | some x =>
        rw [hT] at h
        have new : r = (rpV V n + x.1, x.2.1 + 1, n) → ∃ p, p < n + 1 ∧ vp set p = true ∧ ldS ld p (V 0 8) ≤ cap ∧ ∃ q, T (set ^^^ p) = some q ∧ r = (rpV V p + q.1, q.2.1 + 1, p) := fun z => ⟨n, by omega, q.1, q.2, x, hT, z⟩
        cases hb : bP V cap ld T set n with
        | none =>
          rw [hb] at h
          exact new (Option.some.inj h).symm
        | some y =>
          rw [hb] at h
          simp only [bet] at h
          split at h
          · exact new (Option.some.inj h).symm
          · exact up (by rw [hb]; exact h)
    · rw [if_neg q] at h
      exact up h
/-- no worse than that -/
def nw (r : PR) (c m : Nat) : Prop := r.1 < c ∨ (r.1 = c ∧ r.2.1 ≤ m)
theorem bet_nw {acc : Option PR} {x : PR} : ∃ r, bet acc x = some r ∧ nw r x.1 x.2.1 ∧ (∀ y, acc = some y → nw r y.1 y.2.1) := by
  cases acc with
  | none => exact ⟨x, rfl, Or.inr ⟨rfl, Nat.le_refl _⟩, fun y h => by cases h⟩
  | some y =>
    by_cases q : x.1 < y.1 ∨ (x.1 = y.1 ∧ x.2.1 < y.2.1)
    · refine ⟨x, by simp only [bet]; rw [if_pos q], Or.inr ⟨rfl, Nat.le_refl _⟩, fun z hz => ?_⟩
      cases hz
      unfold nw
      omega
    · refine ⟨y, by simp only [bet]; rw [if_neg q], ?_, fun z hz => ?_⟩
      · unfold nw
        omega
      · cases hz
        exact Or.inr ⟨rfl, Nat.le_refl _⟩
theorem nw_tr {r y : PR} {c m : Nat} (h1 : nw r y.1 y.2.1) (h2 : nw y c m) : nw r c m := by
  unfold nw at *
  omega
theorem stp_keep {V : Vw} {cap : Nat} {ld : Nat → Nat} {T : Nat → Option PR} {set p : Nat} {acc : Option PR} {y : PR} (h : acc = some y) : ∃ r, stp V cap ld T set acc p = some r ∧ nw r y.1 y.2.1 := by
  unfold stp
  by_cases q : vp set p = true ∧ ldS ld p (V 0 8) ≤ cap
  · rw [if_pos q]
    cases hT : T (set ^^^ p) with
    | none => exact ⟨y, h, Or.inr ⟨rfl, Nat.le_refl _⟩⟩
    | some x =>
      obtain ⟨r, h1, h2, h3⟩ := bet_nw (acc := acc) (x := (rpV V p + x.1, x.2.1 + 1, p))
      exact ⟨r, h1, h3 y h⟩
  · rw [if_neg q]
    exact ⟨y, h, Or.inr ⟨rfl, Nat.le_refl _⟩⟩
theorem bP_le {V : Vw} {cap : Nat} {ld : Nat → Nat} {T : Nat → Option PR} {set p : Nat} {q : PR} (h1 : vp set p = true) (h2 : ldS ld p (V 0 8) ≤ cap) (h3 : T (set ^^^ p) = some q) : ∀ {n : Nat}, p < n → ∃ r, bP V cap ld T set n = some r ∧ nw r (rpV V p + q.1) (q.2.1 + 1)
  | 0, h => absurd h (by omega)
  | n + 1, h => by
    show ∃ r, stp V cap ld T set (bP V cap ld T set n) n = some r ∧ nw r (rpV V p + q.1) (q.2.1 + 1)
    by_cases e : p = n
    · subst e
      obtain ⟨r, g1, g2, g3⟩ := bet_nw (acc := bP V cap ld T set p) (x := (rpV V p + q.1, q.2.1 + 1, p))
      refine ⟨r, ?_, g2⟩
      unfold stp
      rw [if_pos ⟨h1, h2⟩, h3]
      exact g1
    · obtain ⟨y, y1, y2⟩ := bP_le (V := V) (cap := cap) (ld := ld) h1 h2 h3 (n := n) (by omega)
      obtain ⟨r, g1, g2⟩ := stp_keep (V := V) (cap := cap) (ld := ld) (T := T) (set := set) (p := n) y1
      exact ⟨r, g1, nw_tr g2 y2⟩
theorem rp_le {V : Vw} (h : WF V) {set : Nat} (hs : set < 2 ^ V 0 8) : rpV V set ≤ 4000 := by
  have h1 := ah_le h hs (Or.inr rfl : pl V 6)
  have h2 := h.fx
  have h3 : V 0 5 * ah V set 6 ≤ 9 * 420 := Nat.mul_le_mul h.mi h1
  unfold rpV
  omega
theorem PT_mem {V : Vw} {cap : Nat} {ld : Nat → Nat} {set : Nat} {r : PR} (hs : set < 64) (h0 : set ≠ 0) (h : PT V cap ld set = some r) : ∃ p, p ≤ set ∧ vp set p = true ∧ ldS ld p (V 0 8) ≤ cap ∧ ∃ q, PT V cap ld (set ^^^ p) = some q ∧ r = (rpV V p + q.1, q.2.1 + 1, p) := by
  rw [PT_pos hs h0] at h
  obtain ⟨p, h1, h2⟩ := bP_mem h
  exact ⟨p, by omega, h2⟩
theorem PT_le {V : Vw} {cap : Nat} {ld : Nat → Nat} {set p : Nat} {q : PR} (hs : set < 64) (h0 : set ≠ 0) (h1 : vp set p = true) (h2 : ldS ld p (V 0 8) ≤ cap) (h3 : PT V cap ld (set ^^^ p) = some q) : ∃ r, PT V cap ld set = some r ∧ nw r (rpV V p + q.1) (q.2.1 + 1) := by
  rw [PT_pos hs h0]
  exact bP_le h1 h2 h3 (by have := vp_le h1; omega)
theorem PT_bd {V : Vw} (h : WF V) {cap : Nat} {ld : Nat → Nat} : ∀ (set : Nat) (r : PR), set < 2 ^ V 0 8 → PT V cap ld set = some r → r.1 ≤ 4000 * cntB set 6 ∧ r.2.1 ≤ cntB set 6 ∧ (set ≠ 0 → 1 ≤ r.2.1 ∧ vp set r.2.2 = true) := by
  have p6 := p64 h.s6
  intro set
  induction set using Nat.strongRecOn with
  | ind set ih =>
    intro r hs hr
    by_cases h0 : set = 0
    · subst h0
      rw [PT_zero] at hr
      cases hr
      exact ⟨Nat.zero_le _, Nat.zero_le _, fun q => absurd rfl q⟩
    · obtain ⟨p, p1, p2, p3, q, q1, q2⟩ := PT_mem (by omega) h0 hr
      obtain ⟨⟨f1, f2, f3, f4⟩, f5⟩ := vp_facts set (by omega) p (by omega) p2
      obtain ⟨b1, b2, b3⟩ := ih (set ^^^ p) f3 q (by omega) q1
      have := rp_le h (set := p) (by omega)
      subst q2
      refine ⟨?_, ?_, fun _ => ⟨Nat.le_add_left _ _, p2⟩⟩
      · show rpV V p + q.1 ≤ _
        omega
      · show q.2.1 + 1 ≤ _
        omega
theorem ldS_one {ld : Nat → Nat} {j : Nat} : ∀ n, ldS ld (2 ^ j) n = if j < n then ld j else 0
  | 0 => rfl
  | n + 1 => by
    show ldS ld (2 ^ j) n + (if (2 ^ j).testBit n then ld n else 0) = _
    rw [ldS_one n, Nat.testBit_two_pow]
    by_cases q : j = n
    · subst q
      simp
    · simp only [q, decide_false, Bool.false_eq_true, if_false, Nat.add_zero]
      by_cases z : j < n
      · rw [if_pos z, if_pos (by omega)]
      · rw [if_neg z, if_neg (by omega)]
theorem ldS_mono {ld : Nat → Nat} {a b : Nat} (h : ∀ i, a.testBit i = true → b.testBit i = true) : ∀ n, ldS ld a n ≤ ldS ld b n
  | 0 => Nat.le_refl _
  | n + 1 => by
    show ldS ld a n + (if a.testBit n then ld n else 0) ≤ ldS ld b n + (if b.testBit n then ld n else 0)
    have := ldS_mono (ld := ld) h n
    by_cases q : a.testBit n = true
    · rw [if_pos q, if_pos (h n q)]
      omega
    · rw [if_neg q]
      omega
theorem sub_bit {a b i : Nat} (h : a &&& b = a) (hi : a.testBit i = true) : b.testBit i = true := by
  have := congrArg (fun n => n.testBit i) h
  simp only [Nat.testBit_and, hi, Bool.true_and] at this
  exact this
theorem ldS_get {ld : Nat → Nat} {set s n : Nat} (hb : set.testBit s = true) (hs : s < n) : ld s ≤ ldS ld set n := by
  have := sumN_get (f := fun s => if set.testBit s then ld s else 0) hs
  simp only [hb, if_true] at this
  exact this
theorem low_fact : ∀ set, set < 64 → set ≠ 0 → vp set (2 ^ lowJ 14 set) = true ∧ lowJ 14 set < 6 ∧ set.testBit (lowJ 14 set) = true := by decide +kernel
/-- where each shop fits there is a parting -/
theorem PT_ex {V : Vw} (h : WF V) {cap : Nat} {ld : Nat → Nat} : ∀ (set : Nat), set < 2 ^ V 0 8 → (∀ s, set.testBit s = true → ld s ≤ cap) → ∃ r, PT V cap ld set = some r := by
  have p6 := p64 h.s6
  intro set
  induction set using Nat.strongRecOn with
  | ind set ih =>
    intro hs hl
    by_cases h0 : set = 0
    · subst h0
      exact ⟨_, PT_zero⟩
    · obtain ⟨l1, l2, l3⟩ := low_fact set (by omega) h0
      have hle := vp_le l1
      obtain ⟨⟨f1, f2, f3, f4⟩, f5, f6, f7⟩ := vp_facts set (by omega) _ (by omega) l1
      obtain ⟨q, hq⟩ := ih _ f3 (by omega) (fun s z => hl s (sub_bit f5 z))
      obtain ⟨r, h1, h2⟩ := PT_le (V := V) (cap := cap) (ld := ld) (by omega) h0 l1 (by
        rw [ldS_one]
        split
        · exact hl _ l3
        · omega) hq
      exact ⟨r, h1⟩
theorem PT_none {V : Vw} (h : WF V) {cap : Nat} {ld : Nat → Nat} {s : Nat} (hc : cap < ld s) : ∀ (set : Nat), set < 2 ^ V 0 8 → set.testBit s = true → PT V cap ld set = none := by
  have p6 := p64 h.s6
  intro set
  induction set using Nat.strongRecOn with
  | ind set ih =>
    intro hs hb
    have h0 : set ≠ 0 := by
      intro q
      rw [q, Nat.zero_testBit] at hb
      cases hb
    cases hP : PT V cap ld set with
    | none => rfl
    | some r =>
      exfalso
      obtain ⟨p, p1, p2, p3, q, q1, q2⟩ := PT_mem (by omega) h0 hP
      obtain ⟨⟨f1, f2, f3, f4⟩, f5, f6, f7⟩ := vp_facts set (by omega) p (by omega) p2
      cases hp : p.testBit s with
      | true =>
        have := ldS_get (ld := ld) hp (bit_lt hs hb)
        omega
      | false =>
        have : (set ^^^ p).testBit s = true := by rw [Nat.testBit_xor, hb, hp]; rfl
        rw [ih _ f3 (by omega) this] at q1
        cases q1
theorem vp_self : ∀ set, set < 64 → set ≠ 0 → vp set set = true := by decide +kernel
/-- what fits goes on one round -/
theorem PT_fit {V : Vw} (h : WF V) {cap : Nat} {ld : Nat → Nat} : ∀ (set : Nat), set < 2 ^ V 0 8 → set ≠ 0 → ldS ld set (V 0 8) ≤ cap → PT V cap ld set = some (rpV V set, 1, set) := by
  have p6 := p64 h.s6
  intro set
  induction set using Nat.strongRecOn with
  | ind set ih =>
    intro hs h0 hl
    rw [PT_pos (by omega) h0]
    show stp V cap ld (PT V cap ld) set (bP V cap ld (PT V cap ld) set set) set = _
    unfold stp
    rw [if_pos ⟨vp_self set (by omega) h0, hl⟩, Nat.xor_self, PT_zero]
    show bet (bP V cap ld (PT V cap ld) set set) (rpV V set + 0, 0 + 1, set) = _
    cases hb : bP V cap ld (PT V cap ld) set set with
    | none => rfl
    | some y =>
      obtain ⟨p, p1, p2, p3, q, q1, q2⟩ := bP_mem hb
      obtain ⟨⟨f1, f2, f3, f4⟩, f5, f6, f7⟩ := vp_facts set (by omega) p (by omega) p2
      have hx : set ^^^ p ≠ 0 := fun z => by
        rw [z, Nat.or_zero] at f7
        omega
      rw [ih _ f3 (by omega) hx (Nat.le_trans (ldS_mono (fun i hi => sub_bit f5 hi) _) hl)] at q1
      cases q1
      have t := ah_two h _ p (set ^^^ p) 6 rfl (by omega) (by omega) (by rw [Nat.and_comm]; exact f6) (Or.inr rfl)
      rw [f7] at t
      have t2 : V 0 5 * ah V set 6 ≤ V 0 5 * ah V p 6 + V 0 5 * ah V (set ^^^ p) 6 := by
        rw [← Nat.mul_add]
        exact Nat.mul_le_mul_left _ t
      subst q2
      simp only [bet]
      rw [if_pos]
      · rfl
      show rpV V set + 0 < rpV V p + rpV V (set ^^^ p) ∨ (rpV V set + 0 = rpV V p + rpV V (set ^^^ p) ∧ 0 + 1 < 1 + 1)
      unfold rpV
      omega
/-- with a bigger truck it never costs more -/
theorem PT_mono {V : Vw} (h : WF V) {cap cap' : Nat} {ld : Nat → Nat} (hc : cap ≤ cap') : ∀ (set : Nat) (r : PR), set < 2 ^ V 0 8 → PT V cap ld set = some r → ∃ r', PT V cap' ld set = some r' ∧ r'.1 ≤ r.1 := by
  have p6 := p64 h.s6
  intro set
  induction set using Nat.strongRecOn with
  | ind set ih =>
    intro r hs hr
    by_cases h0 : set = 0
    · subst h0
      rw [PT_zero] at hr
      cases hr
      exact ⟨_, PT_zero, Nat.le_refl _⟩
    · obtain ⟨p, p1, p2, p3, q, q1, q2⟩ := PT_mem (by omega) h0 hr
      obtain ⟨⟨f1, f2, f3, f4⟩, f5, f6, f7⟩ := vp_facts set (by omega) p (by omega) p2
      obtain ⟨q', g1, g2⟩ := ih _ f3 q (by omega) q1
      obtain ⟨r', h1, h2⟩ := PT_le (by omega) h0 p2 (Nat.le_trans p3 hc) g1
      refine ⟨r', h1, ?_⟩
      unfold nw at h2
      subst q2
      show r'.1 ≤ rpV V p + q.1
      omega
