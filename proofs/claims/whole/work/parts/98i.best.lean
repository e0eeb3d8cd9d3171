/-! CALLS: alone, joint: the table's last row is the best set of days -/
def rsm (V : Vw) (G f e : Nat) : Nat := sumN (fun i => rnF V G f (f - 1 + i)) (e - (f - 1))
theorem rsm_s {V : Vw} {G f e : Nat} (h : f ≤ e + 1) : rsm V G f (e + 1) = rsm V G f e + rnF V G f e := by
  unfold rsm
  rw [show e + 1 - (f - 1) = e - (f - 1) + 1 by omega]
  show sumN _ (e - (f - 1)) + rnF V G f (f - 1 + (e - (f - 1))) = _
  rw [show f - 1 + (e - (f - 1)) = e by omega]
theorem rsm_0 {V : Vw} {G f : Nat} : rsm V G f (f - 1) = 0 := by
  unfold rsm
  rw [Nat.sub_self]
  rfl
def okF (V : Vw) (G : Nat) (ml : Bool) (f e : Nat) : Prop := ml = true ∨ ∀ j, f - 1 ≤ j → j < e → gnF V G f j = 0
def sc (V : Vw) (G v : Nat) : Nat → Nat × Nat
  | 0 => (0, 0)
  | d + 1 => if v.testBit d then ((sc V G v d).1 + (rsm V G (sc V G v d).2 d + vpF V G (sc V G v d).2 d), d + 1) else sc V G v d
def okS (V : Vw) (G : Nat) (ml : Bool) (v : Nat) : Nat → Prop
  | 0 => True
  | d + 1 => okS V G ml v d ∧ (v.testBit d = true → okF V G ml (sc V G v d).2 d)
theorem sc_t {V : Vw} {G v d : Nat} (h : v.testBit d = true) : sc V G v (d + 1) = ((sc V G v d).1 + (rsm V G (sc V G v d).2 d + vpF V G (sc V G v d).2 d), d + 1) := by
  show (if v.testBit d then _ else _) = _
  rw [if_pos h]
theorem sc_f {V : Vw} {G v d : Nat} (h : v.testBit d = false) : sc V G v (d + 1) = sc V G v d := by
  show (if v.testBit d then _ else _) = _
  rw [if_neg (by rw [h]; decide)]
theorem sc_le {V : Vw} {G v : Nat} : ∀ d, (sc V G v d).2 ≤ d
  | 0 => Nat.le_refl _
  | d + 1 => by
    cases h : v.testBit d with
    | true =>
      rw [sc_t h]
      exact Nat.le_refl _
    | false =>
      rw [sc_f h]
      have := sc_le (V := V) (G := G) (v := v) d
      omega
theorem sc_bits {V : Vw} {G v w : Nat} {ml : Bool} : ∀ d, (∀ j, j < d → v.testBit j = w.testBit j) → sc V G v d = sc V G w d ∧ (okS V G ml v d ↔ okS V G ml w d)
  | 0, _ => ⟨rfl, Iff.rfl⟩
  | d + 1, h => by
    obtain ⟨h1, h2⟩ := sc_bits (V := V) (G := G) (v := v) (w := w) (ml := ml) d (fun j hj => h j (by omega))
    have hb := h d (by omega)
    refine ⟨?_, ?_⟩
    · cases hv : v.testBit d with
      | true =>
        rw [sc_t hv, sc_t (by rw [← hb]; exact hv), h1]
      | false =>
        rw [sc_f hv, sc_f (by rw [← hb]; exact hv), h1]
    · show (okS V G ml v d ∧ (v.testBit d = true → okF V G ml (sc V G v d).2 d)) ↔ (okS V G ml w d ∧ (w.testBit d = true → okF V G ml (sc V G w d).2 d))
      rw [h1, h2, hb]
theorem sc_hi {V : Vw} {G v f : Nat} {ml : Bool} : ∀ m, (∀ j, f ≤ j → j < f + m → v.testBit j = false) → sc V G v (f + m) = sc V G v f ∧ (okS V G ml v (f + m) ↔ okS V G ml v f)
  | 0, _ => ⟨rfl, Iff.rfl⟩
  | m + 1, h => by
    obtain ⟨h1, h2⟩ := sc_hi (V := V) (G := G) (v := v) (f := f) (ml := ml) m (fun j a b => h j a (by omega))
    have hb := h (f + m) (by omega) (by omega)
    refine ⟨?_, ?_⟩
    · rw [← h1]
      exact sc_f hb
    · show (okS V G ml v (f + m) ∧ (v.testBit (f + m) = true → _)) ↔ _
      rw [h2]
      constructor
      · intro q
        exact q.1
      · intro q
        exact ⟨q, fun z => by rw [hb] at z; cases z⟩
theorem sc_last {V : Vw} {G v : Nat} : ∀ d, (0 < (sc V G v d).2 → v.testBit ((sc V G v d).2 - 1) = true) ∧ (∀ j, (sc V G v d).2 ≤ j → j < d → v.testBit j = false)
  | 0 => ⟨fun h => absurd h (Nat.lt_irrefl _), fun j _ h => absurd h (by omega)⟩
  | d + 1 => by
    obtain ⟨h1, h2⟩ := sc_last (V := V) (G := G) (v := v) d
    cases h : v.testBit d with
    | true =>
      rw [sc_t h]
      exact ⟨fun _ => h, fun j a b => absurd a (by show ¬ d + 1 ≤ j; omega)⟩
    | false =>
      rw [sc_f h]
      refine ⟨h1, fun j a b => ?_⟩
      by_cases q : j = d
      · rw [q]
        exact h
      · exact h2 j a (by omega)
/-- the place that a set ends with -/
def lpS (f w : Nat) : Prop := w < 2 ^ f ∧ (0 < f → w.testBit (f - 1) = true)
theorem lt_bits {w n : Nat} (h : ∀ j, n ≤ j → w.testBit j = false) : w < 2 ^ n := Nat.lt_pow_two_of_testBit w h
theorem lpS_sc {V : Vw} {G f w : Nat} (h : lpS f w) : (sc V G w f).2 = f := by
  cases f with
  | zero => rfl
  | succ g =>
    have hb : w.testBit g = true := h.2 (by omega)
    rw [sc_t hb]
theorem lpS_of {V : Vw} {G w d : Nat} (hw : w < 2 ^ d) : lpS (sc V G w d).2 w := by
  obtain ⟨h1, h2⟩ := sc_last (V := V) (G := G) (v := w) d
  refine ⟨lt_bits (fun j hj => ?_), h1⟩
  by_cases q : j < d
  · exact h2 j hj q
  · exact tb_high hw (by omega)
theorem lpS_hi {f w j : Nat} (h : lpS f w) (hj : f ≤ j) : w.testBit j = false := tb_high h.1 hj
theorem or_add {w e : Nat} (h : w < 2 ^ e) : w ||| 2 ^ e = w + 2 ^ e := by
  have := Nat.two_pow_add_eq_or_of_lt h 1
  rw [Nat.mul_one] at this
  rw [Nat.or_comm, ← this, Nat.add_comm]
theorem or_bit {w e j : Nat} : (w ||| 2 ^ e).testBit j = (w.testBit j || decide (e = j)) := by
  rw [Nat.testBit_or, Nat.testBit_two_pow]
theorem cnt_or {w e : Nat} (h : w.testBit e = false) : ∀ n, cntB (w ||| 2 ^ e) n = cntB w n + (if e < n then 1 else 0)
  | 0 => rfl
  | n + 1 => by
    have ih := cnt_or h n
    show cntB (w ||| 2 ^ e) n + bq ((w ||| 2 ^ e).testBit n) = cntB w n + bq (w.testBit n) + _
    rw [ih, or_bit]
    by_cases q : e = n
    · subst q
      rw [h, decide_eq_true rfl, if_neg (by omega), if_pos (by omega)]
      show cntB w e + 0 + 1 = cntB w e + 0 + 1
      rfl
    · rw [decide_eq_false q, Bool.or_false]
      by_cases z : e < n
      · rw [if_pos z, if_pos (by omega)]
        omega
      · rw [if_neg z, if_neg (by omega)]
        omega
/-- one visit more -/
theorem ext_ok {V : Vw} {G k e w : Nat} {ml : Bool} (h : lpS k w) (hk : k ≤ e) : lpS (e + 1) (w ||| 2 ^ e) ∧ sc V G (w ||| 2 ^ e) (e + 1) = ((sc V G w k).1 + (rsm V G k e + vpF V G k e), e + 1) ∧ (okS V G ml (w ||| 2 ^ e) (e + 1) ↔ okS V G ml w k ∧ okF V G ml k e) ∧ (sc V G (w ||| 2 ^ e) e).2 = k ∧ w < 2 ^ e := by
  have we : w < 2 ^ e := Nat.lt_of_lt_of_le h.1 (Nat.pow_le_pow_right (by omega) hk)
  have hb : (w ||| 2 ^ e).testBit e = true := by
    rw [or_bit, decide_eq_true rfl, Bool.or_true]
  obtain ⟨s1, s2⟩ := sc_bits (V := V) (G := G) (v := w ||| 2 ^ e) (w := w) (ml := ml) e (fun j hj => by rw [or_bit, decide_eq_false (by omega), Bool.or_false])
  obtain ⟨t1, t2⟩ := sc_hi (V := V) (G := G) (v := w) (f := k) (ml := ml) (e - k) (fun j a _ => lpS_hi h a)
  rw [show k + (e - k) = e by omega] at t1 t2
  have e2 : (sc V G (w ||| 2 ^ e) e).2 = k := by rw [s1, t1, lpS_sc h]
  refine ⟨⟨Nat.or_lt_two_pow (Nat.lt_of_lt_of_le we (Nat.pow_le_pow_right (by omega) (by omega))) (Nat.pow_lt_pow_right (by omega) (by omega)), fun _ => hb⟩, ?_, ?_, e2, we⟩
  · rw [sc_t hb, e2, s1, t1]
  · show (okS V G ml (w ||| 2 ^ e) e ∧ ((w ||| 2 ^ e).testBit e = true → okF V G ml (sc V G (w ||| 2 ^ e) e).2 e)) ↔ _
    rw [s2, t2, e2]
    constructor
    · intro q
      exact ⟨q.1, q.2 hb⟩
    · intro q
      exact ⟨q.1, fun _ => q.2⟩
theorem ext_inv {V : Vw} {G e w : Nat} (h : lpS (e + 1) w) : ∃ w', w = w' ||| 2 ^ e ∧ lpS (sc V G w e).2 w' ∧ (sc V G w e).2 ≤ e := by
  have hb : w.testBit e = true := h.2 (by omega)
  have hx : ∀ j, (w ^^^ 2 ^ e).testBit j = (w.testBit j && decide (¬ e = j)) := fun j => by
    rw [Nat.testBit_xor, Nat.testBit_two_pow]
    by_cases q : e = j
    · subst q
      rw [hb, decide_eq_true rfl]
      simp
    · simp [q]
  have wl : w ^^^ 2 ^ e < 2 ^ e := lt_bits (fun j hj => by
    rw [hx]
    by_cases q : e = j
    · simp [q]
    · rw [tb_high h.1 (by omega)]
      rfl)
  refine ⟨w ^^^ 2 ^ e, ?_, ?_, sc_le e⟩
  · apply Nat.eq_of_testBit_eq
    intro j
    rw [or_bit, hx]
    by_cases q : e = j
    · subst q
      rw [hb]
      simp
    · simp [q]
  · have := (sc_bits (V := V) (G := G) (v := w ^^^ 2 ^ e) (w := w) (ml := true) e (fun j hj => by rw [hx]; simp; intro _; omega)).1
    rw [← this]
    exact lpS_of wl
/-- sets that come to a place by way of one ahead of k, and what they cost -/
def Sp (V : Vw) (G : Nat) (ml : Bool) (k p w : Nat) : Prop := if p = V 0 0 + 1 then (w < 2 ^ V 0 0 ∧ okS V G ml w (V 0 0) ∧ okF V G ml (sc V G w (V 0 0)).2 (V 0 0) ∧ (sc V G w (V 0 0)).2 < k) else (lpS p w ∧ okS V G ml w p ∧ (p = 0 ∨ (sc V G w (p - 1)).2 < k))
def Cq (V : Vw) (G p w : Nat) : Nat := if p = V 0 0 + 1 then (sc V G w (V 0 0)).1 + rsm V G (sc V G w (V 0 0)).2 (V 0 0) else (sc V G w p).1
def RT (C : Nat → Nat) (S : Nat → Prop) (o : Option TR) : Prop := match o with
  | none => ∀ w, ¬ S w
  | some a => bst C S a.2.2 ∧ a.1 = C a.2.2 ∧ a.2.1 = cntB a.2.2 14
theorem RT_of3 {C : Nat → Nat} {S N : Nat → Prop} {o : Option TR} {x : TR} (h : RT C S o) (hx : RT C N (some x)) : RT C (fun w => S w ∨ N w) (of3 o x) := by
  obtain ⟨x1, x2, x3⟩ : bst C N x.2.2 ∧ x.1 = C x.2.2 ∧ x.2.1 = cntB x.2.2 14 := hx
  cases o with
  | none =>
    have h' : ∀ w, ¬ S w := h
    exact ⟨⟨Or.inr x1.1, fun q hq => by
      rcases hq with hq | hq
      · exact absurd hq (h' q)
      · exact x1.2 q hq⟩, x2, x3⟩
  | some a =>
    obtain ⟨a1, a2, a3⟩ : bst C S a.2.2 ∧ a.1 = C a.2.2 ∧ a.2.1 = cntB a.2.2 14 := h
    show RT C (fun w => S w ∨ N w) (if x.1 < a.1 ∨ (x.1 = a.1 ∧ (x.2.1 < a.2.1 ∨ (x.2.1 = a.2.1 ∧ x.2.2 < a.2.2))) then some x else some a)
    by_cases q : x.1 < a.1 ∨ (x.1 = a.1 ∧ (x.2.1 < a.2.1 ∨ (x.2.1 = a.2.1 ∧ x.2.2 < a.2.2)))
    · have l : lk C x.2.2 a.2.2 := by
        rw [x2, a2, x3, a3] at q
        exact q
      rw [if_pos q]
      refine ⟨⟨Or.inr x1.1, fun w hw => ?_⟩, x2, x3⟩
      rcases hw with hw | hw
      · rcases a1.2 w hw with z | z
        · exact Or.inr (by rw [z]; exact l)
        · exact Or.inr (lk_tr l z)
      · exact x1.2 w hw
    · have l : ¬ lk C x.2.2 a.2.2 := fun z => by
        rw [x2, a2, x3, a3] at q
        exact q z
      rw [if_neg q]
      refine ⟨⟨Or.inl a1.1, fun w hw => ?_⟩, a2, a3⟩
      rcases hw with hw | hw
      · exact a1.2 w hw
      · rcases lk_tot l with z | z
        · rcases x1.2 w hw with y | y
          · exact Or.inl (by rw [y, z])
          · exact Or.inr (by rw [← z]; exact y)
        · rcases x1.2 w hw with y | y
          · exact Or.inr (by rw [y]; exact z)
          · exact Or.inr (lk_tr z y)
theorem RT_eq {C : Nat → Nat} {S S' : Nat → Prop} {o : Option TR} (h : RT C S o) (e : ∀ w, S w ↔ S' w) : RT C S' o := by
  have : S = S' := funext fun w => propext (e w)
  rw [← this]
  exact h
/-- the sets that come from k -/
def Np (V : Vw) (G : Nat) (ml : Bool) (k p w : Nat) : Prop := if p = V 0 0 + 1 then (lpS k w ∧ okS V G ml w k ∧ okF V G ml k (V 0 0)) else (∃ w', w = w' ||| 2 ^ (p - 1) ∧ lpS k w' ∧ okS V G ml w' k ∧ okF V G ml k (p - 1))
theorem Sp_step {V : Vw} {G k p : Nat} {ml : Bool} (hk : k ≤ V 0 0) (hp : k < p) (hpd : p ≤ V 0 0 + 1) (w : Nat) : (Sp V G ml k p w ∨ Np V G ml k p w) ↔ Sp V G ml (k + 1) p w := by
  unfold Sp Np
  by_cases q : p = V 0 0 + 1
  · rw [if_pos q, if_pos q, if_pos q]
    constructor
    · rintro (⟨h1, h2, h3, h4⟩ | ⟨h1, h2, h3⟩)
      · exact ⟨h1, h2, h3, by omega⟩
      · obtain ⟨t1, t2⟩ := sc_hi (V := V) (G := G) (v := w) (f := k) (ml := ml) (V 0 0 - k) (fun j a _ => lpS_hi h1 a)
        rw [show k + (V 0 0 - k) = V 0 0 by omega] at t1 t2
        have e : (sc V G w (V 0 0)).2 = k := by rw [t1, lpS_sc h1]
        exact ⟨Nat.lt_of_lt_of_le h1.1 (Nat.pow_le_pow_right (by omega) hk), t2.mpr h2, by rw [e]; exact h3, by omega⟩
    · rintro ⟨h1, h2, h3, h4⟩
      by_cases z : (sc V G w (V 0 0)).2 < k
      · exact Or.inl ⟨h1, h2, h3, z⟩
      · have e : (sc V G w (V 0 0)).2 = k := by omega
        have lp := lpS_of (V := V) (G := G) h1
        rw [e] at lp
        obtain ⟨t1, t2⟩ := sc_hi (V := V) (G := G) (v := w) (f := k) (ml := ml) (V 0 0 - k) (fun j a _ => lpS_hi lp a)
        rw [show k + (V 0 0 - k) = V 0 0 by omega] at t1 t2
        exact Or.inr ⟨lp, t2.mp h2, by rw [← e]; exact h3⟩
  · rw [if_neg q, if_neg q, if_neg q]
    obtain ⟨e, rfl⟩ : ∃ e, p = e + 1 := ⟨p - 1, by omega⟩
    rw [show e + 1 - 1 = e by omega]
    constructor
    · rintro (⟨h1, h2, h3⟩ | ⟨w', rfl, h1, h2, h3⟩)
      · refine ⟨h1, h2, Or.inr ?_⟩
        rcases h3 with h3 | h3
        · omega
        · omega
      · obtain ⟨x1, x2, x3, x4, x5⟩ := ext_ok (V := V) (G := G) (ml := ml) h1 (show k ≤ e by omega)
        exact ⟨x1, x3.mpr ⟨h2, h3⟩, Or.inr (by omega)⟩
    · rintro ⟨h1, h2, h3⟩
      have h3' : (sc V G w e).2 < k + 1 := by
        rcases h3 with h3 | h3
        · omega
        · exact h3
      by_cases z : (sc V G w e).2 < k
      · exact Or.inl ⟨h1, h2, Or.inr z⟩
      · have ek : (sc V G w e).2 = k := by omega
        obtain ⟨w', hw, y1, y2⟩ := ext_inv (V := V) (G := G) h1
        rw [ek] at y1
        subst hw
        obtain ⟨x1, x2, x3, x4, x5⟩ := ext_ok (V := V) (G := G) (ml := ml) y1 (show k ≤ e by omega)
        have := x3.mp h2
        exact Or.inr ⟨w', rfl, y1, this.1, this.2⟩
theorem Sp_low {V : Vw} {G k p : Nat} {ml : Bool} (hk : k ≤ V 0 0) (hp : p ≤ k) (w : Nat) : Sp V G ml k p w ↔ Sp V G ml (k + 1) p w := by
  unfold Sp
  rw [if_neg (by omega), if_neg (by omega)]
  by_cases q : p = 0
  · constructor
    · rintro ⟨h1, h2, -⟩
      exact ⟨h1, h2, Or.inl q⟩
    · rintro ⟨h1, h2, -⟩
      exact ⟨h1, h2, Or.inl q⟩
  · have := sc_le (V := V) (G := G) (v := w) (p - 1)
    constructor
    · rintro ⟨h1, h2, -⟩
      exact ⟨h1, h2, Or.inr (by omega)⟩
    · rintro ⟨h1, h2, -⟩
      exact ⟨h1, h2, Or.inr (by omega)⟩
/-- the best of a place, one visit on -/
theorem Np_best {V : Vw} {G k p : Nat} {ml : Bool} {a : TR} (hd : V 0 0 ≤ 14) (hk : k ≤ V 0 0) (hp : k < p) (hpd : p ≤ V 0 0 + 1) (ha : RT (Cq V G k) (Sp V G ml k k) (some a)) (hok : okF V G ml k (p - 1)) : RT (Cq V G p) (Np V G ml k p) (some (if p = V 0 0 + 1 then (a.1 + rsm V G k (p - 1), a.2.1, a.2.2) else (a.1 + rsm V G k (p - 1) + vpF V G k (p - 1), a.2.1 + 1, a.2.2 ||| 2 ^ (p - 1)))) := by
  obtain ⟨⟨a1, a2⟩, a3, a4⟩ : bst (Cq V G k) (Sp V G ml k k) a.2.2 ∧ a.1 = Cq V G k a.2.2 ∧ a.2.1 = cntB a.2.2 14 := ha
  have nk : ¬ k = V 0 0 + 1 := by omega
  have ck : ∀ w, Cq V G k w = (sc V G w k).1 := fun w => if_neg nk
  have sk' : ∀ w, Sp V G ml k k w ↔ lpS k w ∧ okS V G ml w k := fun w => by
    unfold Sp
    rw [if_neg nk]
    constructor
    · rintro ⟨h1, h2, -⟩
      exact ⟨h1, h2⟩
    · rintro ⟨h1, h2⟩
      refine ⟨h1, h2, ?_⟩
      by_cases z : k = 0
      · exact Or.inl z
      · have := sc_le (V := V) (G := G) (v := w) (k - 1)
        exact Or.inr (by omega)
  have la := (sk' _).mp a1
  by_cases q : p = V 0 0 + 1
  · rw [if_pos q]
    have cp : ∀ w, lpS k w → Cq V G p w = (sc V G w k).1 + rsm V G k (V 0 0) := fun w hw => by
      unfold Cq
      rw [if_pos q]
      obtain ⟨t1, -⟩ := sc_hi (V := V) (G := G) (v := w) (f := k) (ml := ml) (V 0 0 - k) (fun j a _ => lpS_hi hw a)
      rw [show k + (V 0 0 - k) = V 0 0 by omega] at t1
      rw [t1, lpS_sc hw]
    have ep : p - 1 = V 0 0 := by omega
    rw [ep] at hok ⊢
    have np : ∀ w, Np V G ml k p w ↔ lpS k w ∧ okS V G ml w k ∧ okF V G ml k (V 0 0) := fun w => by
      unfold Np
      rw [if_pos q]
    refine ⟨⟨(np _).mpr ⟨la.1, la.2, hok⟩, fun w hw => ?_⟩, ?_, a4⟩
    · have hw' := (np w).mp hw
      rcases a2 w ((sk' w).mpr ⟨hw'.1, hw'.2.1⟩) with z | z
      · exact Or.inl z
      · refine Or.inr ?_
        unfold lk at z ⊢
        show Cq V G p a.2.2 < Cq V G p w ∨ (Cq V G p a.2.2 = Cq V G p w ∧ (cntB a.2.2 14 < cntB w 14 ∨ (cntB a.2.2 14 = cntB w 14 ∧ a.2.2 < w)))
        rw [cp _ la.1, cp _ hw'.1]
        rw [ck, ck] at z
        omega
    · show a.1 + rsm V G k (V 0 0) = Cq V G p a.2.2
      rw [cp _ la.1, a3, ck]
  · rw [if_neg q]
    obtain ⟨e, rfl⟩ : ∃ e, p = e + 1 := ⟨p - 1, by omega⟩
    rw [show e + 1 - 1 = e by omega] at hok ⊢
    have he : e < V 0 0 := by omega
    have cp : ∀ w, lpS k w → Cq V G (e + 1) (w ||| 2 ^ e) = (sc V G w k).1 + (rsm V G k e + vpF V G k e) := fun w hw => by
      unfold Cq
      rw [if_neg q, (ext_ok (V := V) (G := G) (ml := ml) hw (show k ≤ e by omega)).2.1]
    have cn : ∀ w, lpS k w → cntB (w ||| 2 ^ e) 14 = cntB w 14 + 1 := fun w hw => by
      rw [cnt_or (lpS_hi hw (by omega)), if_pos (by omega)]
    have oa : ∀ w, lpS k w → w ||| 2 ^ e = w + 2 ^ e := fun w hw => or_add (Nat.lt_of_lt_of_le hw.1 (Nat.pow_le_pow_right (by omega) (by omega)))
    have np : ∀ w, Np V G ml k (e + 1) w ↔ ∃ w', w = w' ||| 2 ^ e ∧ lpS k w' ∧ okS V G ml w' k ∧ okF V G ml k e := fun w => by
      unfold Np
      rw [if_neg q, show e + 1 - 1 = e by omega]
    refine ⟨⟨(np _).mpr ⟨a.2.2, rfl, la.1, la.2, hok⟩, fun w hw => ?_⟩, ?_, ?_⟩
    · obtain ⟨w', rfl, h1, h2, -⟩ := (np w).mp hw
      rcases a2 w' ((sk' w').mpr ⟨h1, h2⟩) with z | z
      · exact Or.inl (by rw [z])
      · refine Or.inr ?_
        unfold lk at z ⊢
        show Cq V G (e + 1) (a.2.2 ||| 2 ^ e) < _ ∨ (Cq V G (e + 1) (a.2.2 ||| 2 ^ e) = _ ∧ (cntB (a.2.2 ||| 2 ^ e) 14 < _ ∨ (cntB (a.2.2 ||| 2 ^ e) 14 = _ ∧ a.2.2 ||| 2 ^ e < _)))
        rw [cp _ la.1, cp _ h1, cn _ la.1, cn _ h1, oa _ la.1, oa _ h1]
        rw [ck, ck] at z
        omega
    · show a.1 + rsm V G k e + vpF V G k e = Cq V G (e + 1) (a.2.2 ||| 2 ^ e)
      rw [cp _ la.1, a3, ck]
      omega
    · show a.2.1 + 1 = cntB (a.2.2 ||| 2 ^ e) 14
      rw [cn _ la.1, a4]
theorem okF_stop {V : Vw} {G k e p : Nat} {ml : Bool} (hm : ml = false) (hg : gnF V G k e ≠ 0) (h1 : k - 1 ≤ e) (h2 : e < p) : ¬ okF V G ml k p := fun h => by
  rcases h with h | h
  · rw [hm] at h
    cases h
  · exact hg (h e h1 h2)
theorem Np_none {V : Vw} {G k p : Nat} {ml : Bool} (h : ¬ okF V G ml k (p - 1)) (hp : p = V 0 0 + 1 → p - 1 = V 0 0) (w : Nat) : ¬ Np V G ml k p w := fun hn => by
  unfold Np at hn
  by_cases q : p = V 0 0 + 1
  · rw [if_pos q] at hn
    rw [hp q] at h
    exact h hn.2.2
  · rw [if_neg q] at hn
    obtain ⟨w', -, -, -, h4⟩ := hn
    exact h h4
theorem goT_ok {V : Vw} {G k : Nat} {ml : Bool} {a : TR} (hd : V 0 0 ≤ 14) (hk : k ≤ V 0 0) (ha : RT (Cq V G k) (Sp V G ml k k) (some a)) : ∀ m e so T, e + m = V 0 0 → k ≤ e + 1 → so = a.1 + rsm V G k e → okF V G ml k e → (∀ p, p ≤ e → p ≤ V 0 0 + 1 → RT (Cq V G p) (Sp V G ml (k + 1) p) (T p)) → (∀ p, e < p → p ≤ V 0 0 + 1 → RT (Cq V G p) (Sp V G ml k p) (T p)) → ∀ p, p ≤ V 0 0 + 1 → RT (Cq V G p) (Sp V G ml (k + 1) p) (goT V G ml k a m e so T p) := by
  intro m
  induction m with
  | zero =>
    intro e so T he hke hso hok h1 h2 p hp
    show RT _ _ (upT T (V 0 0 + 1) (of3 (T (V 0 0 + 1)) (so, a.2.1, a.2.2)) p)
    unfold upT
    by_cases q : p = V 0 0 + 1
    · rw [if_pos q, q]
      have nb := Np_best (p := V 0 0 + 1) hd hk (by omega) (Nat.le_refl _) ha (by rw [show V 0 0 + 1 - 1 = V 0 0 by omega, show V 0 0 = e by omega]; exact hok)
      rw [if_pos rfl, show V 0 0 + 1 - 1 = e by omega, ← hso] at nb
      exact RT_eq (RT_of3 (h2 (V 0 0 + 1) (by omega) (Nat.le_refl _)) nb) (fun w => Sp_step hk (by omega) (Nat.le_refl _) w)
    · rw [if_neg q]
      exact h1 p (by omega) hp
  | succ m ih =>
    intro e so T he hke hso hok h1 h2 p hp
    obtain ⟨T1, hT1⟩ : ∃ T1, T1 = (if e < k then T else upT T (e + 1) (of3 (T (e + 1)) (so + vpF V G k e, a.2.1 + 1, a.2.2 ||| 2 ^ e))) := ⟨_, rfl⟩
    have eg : goT V G ml k a (m + 1) e so T = if ml = false ∧ gnF V G k e ≠ 0 then T1 else goT V G ml k a m (e + 1) (so + rnF V G k e) T1 := by
      rw [hT1]
      rfl
    have h1' : ∀ p, p ≤ e + 1 → p ≤ V 0 0 + 1 → RT (Cq V G p) (Sp V G ml (k + 1) p) (T1 p) := fun p hp1 hp2 => by
      rw [hT1]
      by_cases q : e < k
      · rw [if_pos q]
        by_cases z : p ≤ e
        · exact h1 p z hp2
        · exact RT_eq (h2 p (by omega) hp2) (fun w => Sp_low hk (by omega) w)
      · rw [if_neg q]
        unfold upT
        by_cases z : p = e + 1
        · rw [if_pos z, z]
          have nb := Np_best (p := e + 1) hd hk (by omega) (by omega) ha (by rw [show e + 1 - 1 = e by omega]; exact hok)
          rw [if_neg (by omega), show e + 1 - 1 = e by omega, ← hso] at nb
          exact RT_eq (RT_of3 (h2 (e + 1) (by omega) (by omega)) nb) (fun w => Sp_step hk (by omega) (by omega) w)
        · rw [if_neg z]
          exact h1 p (by omega) hp2
    have h2' : ∀ p, e + 1 < p → p ≤ V 0 0 + 1 → RT (Cq V G p) (Sp V G ml k p) (T1 p) := fun p hp1 hp2 => by
      rw [hT1]
      by_cases q : e < k
      · rw [if_pos q]
        exact h2 p (by omega) hp2
      · rw [if_neg q]
        unfold upT
        rw [if_neg (by omega)]
        exact h2 p (by omega) hp2
    rw [eg]
    by_cases q : ml = false ∧ gnF V G k e ≠ 0
    · rw [if_pos q]
      by_cases z : p ≤ e + 1
      · exact h1' p z hp
      · refine RT_eq (h2' p (by omega) hp) (fun w => ?_)
        rw [← Sp_step hk (by omega) hp w]
        constructor
        · intro y
          exact Or.inl y
        · rintro (y | y)
          · exact y
          · exact absurd y (Np_none (okF_stop q.1 q.2 (by omega) (by omega)) (fun y => by omega) w)
    · rw [if_neg q]
      refine ih (e + 1) (so + rnF V G k e) T1 (by omega) (by omega) (by rw [rsm_s hke, hso]; omega) ?_ h1' h2' p hp
      by_cases hm : ml = true
      · exact Or.inl hm
      · have hm' : ml = false := by simpa using hm
        have g0 : gnF V G k e = 0 := by
          by_cases z : gnF V G k e = 0
          · exact z
          · exact absurd ⟨hm', z⟩ q
        rcases hok with y | y
        · exact absurd y hm
        · exact Or.inr (fun j a b => by
            by_cases z : j = e
            · rw [z]
              exact g0
            · exact y j a (by omega))
theorem fdT_ok {V : Vw} {G : Nat} {ml : Bool} (hd : V 0 0 ≤ 14) : ∀ k, k ≤ V 0 0 + 1 → ∀ p, p ≤ V 0 0 + 1 → RT (Cq V G p) (Sp V G ml k p) (fdT V G ml k p)
  | 0, _, p, hp => by
    show RT _ _ (if p = 0 then some (0, 0, 0) else none)
    by_cases q : p = 0
    · rw [if_pos q, q]
      have s0 : ∀ w, Sp V G ml 0 0 w ↔ w = 0 := fun w => by
        unfold Sp
        rw [if_neg (by omega)]
        constructor
        · rintro ⟨h, -⟩
          have := h.1
          rw [Nat.pow_zero] at this
          omega
        · intro h
          rw [h]
          exact ⟨⟨Nat.one_pos, fun z => absurd z (Nat.lt_irrefl _)⟩, trivial, Or.inl rfl⟩
      refine ⟨⟨(s0 0).mpr rfl, fun w hw => Or.inl ((s0 w).mp hw)⟩, ?_, ?_⟩
      · show 0 = Cq V G 0 0
        unfold Cq
        rw [if_neg (by omega)]
        rfl
      · show 0 = cntB 0 14
        decide
    · rw [if_neg q]
      intro w hw
      unfold Sp at hw
      by_cases z : p = V 0 0 + 1
      · rw [if_pos z] at hw
        exact absurd hw.2.2.2 (by omega)
      · rw [if_neg z] at hw
        rcases hw.2.2 with y | y
        · exact q y
        · omega
  | k + 1, hk, p, hp => by
    have ih := fdT_ok (V := V) (G := G) (ml := ml) hd k (by omega)
    show RT _ _ (stT1 V G ml k (fdT V G ml k) p)
    have ik := ih k (by omega)
    cases hT : fdT V G ml k k with
    | none =>
      have es : stT1 V G ml k (fdT V G ml k) = fdT V G ml k := by
        unfold stT1
        rw [hT]
      rw [hT] at ik
      rw [es]
      by_cases q : p ≤ k
      · exact RT_eq (ih p hp) (fun w => Sp_low (by omega) q w)
      · refine RT_eq (ih p hp) (fun w => ?_)
        rw [← Sp_step (by omega) (by omega) hp w]
        constructor
        · intro y
          exact Or.inl y
        · rintro (y | y)
          · exact y
          · exfalso
            have lpk : ∃ w', lpS k w' ∧ okS V G ml w' k := by
              unfold Np at y
              by_cases z : p = V 0 0 + 1
              · rw [if_pos z] at y
                exact ⟨w, y.1, y.2.1⟩
              · rw [if_neg z] at y
                obtain ⟨w', -, y1, y2, -⟩ := y
                exact ⟨w', y1, y2⟩
            obtain ⟨w', y1, y2⟩ := lpk
            refine ik w' ?_
            unfold Sp
            rw [if_neg (by omega)]
            refine ⟨y1, y2, ?_⟩
            by_cases z : k = 0
            · exact Or.inl z
            · have := sc_le (V := V) (G := G) (v := w') (k - 1)
              exact Or.inr (by omega)
    | some a =>
      have es : stT1 V G ml k (fdT V G ml k) = goT V G ml k a (V 0 0 - (k - 1)) (k - 1) a.1 (fdT V G ml k) := by
        unfold stT1
        rw [hT]
      rw [hT] at ik
      rw [es]
      refine goT_ok hd (by omega) ik (V 0 0 - (k - 1)) (k - 1) a.1 (fdT V G ml k) (by omega) (by omega) (by rw [rsm_0]; rfl) (Or.inr (fun j h1 h2 => absurd h2 (by omega))) (fun p hp1 hp2 => ?_) (fun p _ hp2 => ih p hp2) p hp
      exact RT_eq (ih p hp2) (fun w => Sp_low (by omega) (by omega) w)
/-- what a set of days costs, and whether it may be -/
def tcV (V : Vw) (G v : Nat) : Nat := (sc V G v (V 0 0)).1 + rsm V G (sc V G v (V 0 0)).2 (V 0 0)
def FS (V : Vw) (G : Nat) (ml : Bool) (v : Nat) : Prop := v < 2 ^ V 0 0 ∧ okS V G ml v (V 0 0) ∧ okF V G ml (sc V G v (V 0 0)).2 (V 0 0)
theorem fdT_end {V : Vw} {G : Nat} {ml : Bool} (hd : V 0 0 ≤ 14) : RT (tcV V G) (FS V G ml) (fdT V G ml (V 0 0 + 1) (V 0 0 + 1)) := by
  have h := fdT_ok (V := V) (G := G) (ml := ml) hd (V 0 0 + 1) (Nat.le_refl _) (V 0 0 + 1) (Nat.le_refl _)
  have ec : Cq V G (V 0 0 + 1) = tcV V G := by
    funext w
    unfold Cq tcV
    rw [if_pos rfl]
  rw [ec] at h
  refine RT_eq h (fun w => ?_)
  unfold Sp FS
  rw [if_pos rfl]
  have := sc_le (V := V) (G := G) (v := w) (V 0 0)
  constructor
  · rintro ⟨h1, h2, h3, -⟩
    exact ⟨h1, h2, h3⟩
  · rintro ⟨h1, h2, h3⟩
    exact ⟨h1, h2, h3, by omega⟩
