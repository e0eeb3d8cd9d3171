/-! THE CLASS: partings -/
def PC (V : Vw) (σ : Sg) : Prop := (∀ set, set < 2 ^ V 0 8 → σ 30 set = nI (rpV V set)) ∧ σ 31 0 = nI 0 ∧ σ 32 0 = nI 0 ∧ σ 33 0 = nI 0
theorem c_pmeasure {V : Vw} (hw : WF V) {σ : Sg} (ht : TC V σ) (hc : WC V σ) : ∃ τ, XX2_measure σ = some τ ∧ (∀ set, set < 2 ^ V 0 8 → τ 30 set = nI (rpV V set)) ∧ fr [(30, none)] σ τ := by
  have s6 := hw.s6
  have p6 := p64 s6
  have key : ∀ m set n σ, set + m = 2 ^ V 0 8 → m < n → TC V σ → WC V σ → (∀ q, q < set → σ 30 q = nI (rpV V q)) → ∃ τ, LX2_measure_2 n (nI set) σ = some τ ∧ (∀ set, set < 2 ^ V 0 8 → τ 30 set = nI (rpV V set)) ∧ fr [(30, none)] σ τ := by
    intro m
    induction m with
    | zero =>
      intro set n σ hs hn ht hc hA
      obtain ⟨n, rfl⟩ : ∃ q, n = q + 1 := ⟨n - 1, by omega⟩
      have hs : set = 2 ^ V 0 8 := by omega
      subst hs
      refine ⟨σ, ?_, hA, fr.rf⟩
      rw [LX2_measure_2, ht.2.2.2.2.2.2.1]
      simp only [nI_lit]
      rw [nx_1shl (by omega), if_pos (by rw [nI_lei] <;> omega)]
    | succ m ih =>
      intro set n σ hs hn ht hc hA
      obtain ⟨n, rfl⟩ : ∃ q, n = q + 1 := ⟨n - 1, by omega⟩
      have hf : fr [(30, none)] σ (up σ 30 set (nI (rpV V set))) := fr_up
      obtain ⟨τ, h1, h2, h3⟩ := ih (set + 1) n (up σ 30 set (nI (rpV V set))) (by omega) (by omega) (ht.off (fun j j1 j2 => hf.cell (by simp; omega))) (by
        unfold WC FC
        rw [hf.cell (k := 25) rfl, hf.cell (k := 27) rfl, hf.cell (k := 28) rfl]
        exact hc) (fun q hq => by
        by_cases e : q = set
        · subst e
          exact up_same
        · rw [up_slot e]
          exact hA q (by omega))
      refine ⟨τ, ?_, h2, hf.tr h3⟩
      rw [LX2_measure_2, ht.2.2.2.2.2.2.1]
      simp only [nI_lit]
      rw [nx_1shl (by omega), if_neg (by rw [nI_lei] <;> omega), c_milesTo (by omega), hc.2.2 set 6 (by omega) (Or.inr rfl), ht.2.2.1, ht.2.2.2.1]
      simp only [b1]
      rw [if_pos ((ib_nI (by omega)).mpr (by omega)), nI_cl (by omega), pk_mul, nI_add, lt_def, lt_def, nI_add]
      exact h1
  exact key (2 ^ V 0 8) 0 FUEL σ (by omega) (by unfold FUEL; omega) ht hc (fun q hq => absurd hq (by omega))
theorem pow64 {s n : Nat} (h : s < n) (hn : n ≤ 6) : 2 ^ s < 64 := by
  have : 2 ^ s < 2 ^ n := Nat.pow_lt_pow_right (by omega) h
  have := p64 hn
  omega
theorem c_gather {V : Vw} (hw : WF V) {a : Nat} (ha : 35 ≤ a) {ld : Nat → Nat} (hld : ∀ s, s < V 0 8 → ld s < 1000000) {σ : Sg} (ht : TC V σ) (hl : ∀ s, s < V 0 8 → σ a s = nI (ld s)) : ∃ τ, XX2_gather a σ = some (nI (sumN ld (V 0 8)), τ) ∧ τ 29 6 = nI (allS ld (V 0 8)) ∧ (∀ s, s < V 0 8 → τ 31 (2 ^ s) = nI (ld s)) ∧ τ 31 0 = σ 31 0 ∧ fr [(29, some 6), (31, none)] σ τ := by
  have s6 := hw.s6
  have key : ∀ m s n σ, s + m = V 0 8 → m < n → TC V σ → (∀ s, s < V 0 8 → σ a s = nI (ld s)) → σ 29 6 = nI (allS ld s) → (∀ t, t < s → σ 31 (2 ^ t) = nI (ld t)) → ∃ τ, LX2_gather_9 a n (nI (sumN ld s)) (nI s) σ = some (nI (sumN ld (V 0 8)), τ) ∧ τ 29 6 = nI (allS ld (V 0 8)) ∧ (∀ s, s < V 0 8 → τ 31 (2 ^ s) = nI (ld s)) ∧ τ 31 0 = σ 31 0 ∧ fr [(29, some 6), (31, none)] σ τ := by
    intro m
    induction m with
    | zero =>
      intro s n σ hs hn ht hl h29 h31
      obtain ⟨n, rfl⟩ : ∃ q, n = q + 1 := ⟨n - 1, by omega⟩
      have hs : s = V 0 8 := by omega
      subst hs
      refine ⟨σ, ?_, h29, h31, rfl, fr.rf⟩
      rw [LX2_gather_9, ht.2.2.2.2.2.2.1, if_pos (by rw [nI_lei] <;> omega)]
    | succ m ih =>
      intro s n σ hs hn ht hl h29 h31
      obtain ⟨n, rfl⟩ : ∃ q, n = q + 1 := ⟨n - 1, by omega⟩
      obtain ⟨τ0, hτ⟩ : ∃ τ0, τ0 = up (up σ 29 6 (nI (allS ld (s + 1)))) 31 (2 ^ s) (nI (ld s)) := ⟨_, rfl⟩
      have hf : fr [(29, some 6), (31, none)] σ τ0 := by
        rw [hτ]
        exact (fr_upf.mono (by simp)).tr (fr_up.mono (by simp))
      have ca : τ0 a = σ a := hf.cell (by simp; omega)
      have hls := hld s (by omega)
      have pw := pow64 (show s < V 0 8 by omega) s6
      obtain ⟨τ, h1, h2, h3, h4, h5⟩ := ih (s + 1) n τ0 (by omega) (by omega) (ht.off (fun j j1 j2 => hf.cell (by simp; omega))) (fun t h => by rw [ca]; exact hl t h) (by rw [hτ, up_cell (by omega), up_same]) (fun t h => by
        rw [hτ]
        by_cases e : t = s
        · subst e
          exact up_same
        · have : 2 ^ t < 2 ^ s := Nat.pow_lt_pow_right (by omega) (by omega)
          rw [up_slot (by omega), up_cell (by omega)]
          exact h31 t (by omega))
      refine ⟨τ, ?_, h2, h3, ?_, hf.tr h5⟩
      · rw [LX2_gather_9, ht.2.2.2.2.2.2.1, if_neg (by rw [nI_lei] <;> omega), if_pos ((ib_nI (by omega)).mpr (by omega)), nI_cl (by omega), hl s (by omega), h29]
        simp only [lt, nI_lit]
        have i1 : ib (nI (2 ^ s)) 64 := (ib_nI (by omega)).mpr (by omega)
        have i2 : (nI (2 ^ s)).toNatClampNeg = 2 ^ s := nI_cl (by omega)
        rw [nx_1shl (by omega)]
        simp only [if_pos i1, i2]
        have ea : ∀ x, up σ 29 6 x a s = nI (ld s) := fun x => by rw [up_cell (by omega)]; exact hl s (by omega)
        have eb : ∀ x y, up (up σ 29 6 x) 31 (2 ^ s) y a s = nI (ld s) := fun x y => by rw [up_cell (by omega), up_cell (by omega)]; exact hl s (by omega)
        simp only [ea, eb, nx_or, nI_add]
        have e : allS ld (s + 1) = allS ld s ||| (if 0 < ld s then 2 ^ s else 0) := rfl
        rw [hτ, e] at h1
        by_cases q : 0 < ld s
        · rw [if_pos q] at h1
          rw [if_neg (by rw [nI_lei] <;> omega)]
          exact h1
        · rw [if_neg q] at h1
          rw [if_pos (by rw [nI_lei] <;> omega)]
          exact h1
      · have : (0 : Nat) ≠ 2 ^ s := by have := Nat.two_pow_pos s; omega
        rw [h4, hτ, up_slot this, up_cell (by omega)]
  have f0 : fr [(29, some 6)] σ (up σ 29 6 0) := fr_upf
  obtain ⟨τ, h1, h2, h3, h4, h5⟩ := key (V 0 8) 0 FUEL (up σ 29 6 0) (by omega) (by unfold FUEL; omega) (ht.off (fun j j1 j2 => by rw [up_cell (by omega)])) (fun s h => by rw [up_cell (by omega)]; exact hl s h) up_same (fun t h => absurd h (by omega))
  refine ⟨τ, h1, h2, h3, ?_, (f0.mono (by simp)).tr h5⟩
  rw [h4, up_cell (by omega)]
def cPC (V : Vw) (cap : Nat) (ld : Nat → Nat) (q : Nat) (σ : Sg) : Prop := σ 31 q = nI (ldS ld q (V 0 8)) ∧ ∃ r, PT V cap ld q = some r ∧ σ 32 q = nI r.1 ∧ σ 33 q = nI r.2.1 ∧ (q ≠ 0 → σ 34 q = nI r.2.2)
theorem cPC.off {V : Vw} {cap : Nat} {ld : Nat → Nat} {q : Nat} {σ τ : Sg} (h : cPC V cap ld q σ) (e : τ 31 q = σ 31 q ∧ τ 32 q = σ 32 q ∧ τ 33 q = σ 33 q ∧ τ 34 q = σ 34 q) : cPC V cap ld q τ := by
  unfold cPC at h ⊢
  rw [e.1, e.2.1, e.2.2.1, e.2.2.2]
  exact h
def accC (acc : Option PR) (set : Nat) (σ : Sg) : Prop := match acc with
  | none => σ 32 set = nI 1000000000 ∧ σ 33 set = nI 1 ∧ σ 34 set = nI set
  | some r => σ 32 set = nI r.1 ∧ σ 33 set = nI r.2.1 ∧ σ 34 set = nI r.2.2
theorem bP_skip {V : Vw} {cap : Nat} {ld : Nat → Nat} {T : Nat → Option PR} {set a : Nat} : ∀ m, (∀ p, a ≤ p → p < a + m → vp set p = false) → bP V cap ld T set (a + m) = bP V cap ld T set a
  | 0, _ => rfl
  | m + 1, h => by
    show stp V cap ld T set (bP V cap ld T set (a + m)) (a + m) = _
    rw [bP_skip m (fun p h1 h2 => h p h1 (by omega))]
    unfold stp
    rw [if_neg]
    intro q
    rw [h (a + m) (by omega) (by omega)] at q
    cases q.1
def cnP (V : Vw) (cap : Nat) (ld : Nat → Nat) (T : Nat → Option PR) (set p : Nat) : Option PR := if vp set p = true ∧ ldS ld p (V 0 8) ≤ cap then (match T (set ^^^ p) with
  | none => none
  | some r => some (rpV V p + r.1, r.2.1 + 1, p)) else none
/-- the better of two, the first of like ones -/
def mgP : Option PR → Option PR → Option PR
  | none, x => x
  | some y, none => some y
  | some y, some x => if x.1 < y.1 ∨ (x.1 = y.1 ∧ x.2.1 < y.2.1) then some x else some y
theorem mgP_pos {x y : PR} (h : x.1 < y.1 ∨ (x.1 = y.1 ∧ x.2.1 < y.2.1)) : mgP (some y) (some x) = some x := if_pos h
theorem mgP_neg {x y : PR} (h : ¬ (x.1 < y.1 ∨ (x.1 = y.1 ∧ x.2.1 < y.2.1))) : mgP (some y) (some x) = some y := if_neg h
theorem mgP_none : ∀ a : Option PR, mgP a none = a
  | none => rfl
  | some _ => rfl
theorem mgP_assoc : ∀ a b c : Option PR, mgP (mgP a b) c = mgP a (mgP b c)
  | none, _, _ => rfl
  | some _, none, _ => rfl
  | some y, some x, none => by rw [mgP_none, mgP_none]
  | some y, some x, some w => by
    by_cases h1 : x.1 < y.1 ∨ (x.1 = y.1 ∧ x.2.1 < y.2.1)
    · rw [mgP_pos h1]
      by_cases h2 : w.1 < x.1 ∨ (w.1 = x.1 ∧ w.2.1 < x.2.1)
      · rw [mgP_pos h2, mgP_pos (show w.1 < y.1 ∨ (w.1 = y.1 ∧ w.2.1 < y.2.1) by omega)]
      · rw [mgP_neg h2, mgP_pos h1]
    · rw [mgP_neg h1]
      by_cases h2 : w.1 < x.1 ∨ (w.1 = x.1 ∧ w.2.1 < x.2.1)
      · rw [mgP_pos h2]
      · rw [mgP_neg h2, mgP_neg h1, mgP_neg (show ¬ (w.1 < y.1 ∨ (w.1 = y.1 ∧ w.2.1 < y.2.1)) by omega)]
theorem mgP_or {r : PR} : ∀ {a b : Option PR}, mgP a b = some r → a = some r ∨ b = some r
  | none, _, h => Or.inr h
  | some _, none, h => Or.inl h
  | some y, some x, h => by
    by_cases h1 : x.1 < y.1 ∨ (x.1 = y.1 ∧ x.2.1 < y.2.1)
    · rw [mgP_pos h1] at h
      exact Or.inr h
    · rw [mgP_neg h1] at h
      exact Or.inl h
theorem stp_mgP {V : Vw} {cap : Nat} {ld : Nat → Nat} {T : Nat → Option PR} {set p : Nat} (acc : Option PR) : stp V cap ld T set acc p = mgP acc (cnP V cap ld T set p) := by
  unfold stp cnP
  by_cases q : vp set p = true ∧ ldS ld p (V 0 8) ≤ cap
  · rw [if_pos q, if_pos q]
    cases T (set ^^^ p) with
    | none => exact (mgP_none acc).symm
    | some r =>
      cases acc with
      | none => rfl
      | some y => rfl
  · rw [if_neg q, if_neg q]
    exact (mgP_none acc).symm
/-- the best of the parts a .. a + m - 1 -/
def uPq (V : Vw) (cap : Nat) (ld : Nat → Nat) (T : Nat → Option PR) (set : Nat) : Nat → Nat → Option PR
  | 0, _ => none
  | m + 1, a => mgP (cnP V cap ld T set a) (uPq V cap ld T set m (a + 1))
theorem bP_uPq {V : Vw} {cap : Nat} {ld : Nat → Nat} {T : Nat → Option PR} {set : Nat} : ∀ m a, bP V cap ld T set (a + m) = mgP (bP V cap ld T set a) (uPq V cap ld T set m a)
  | 0, a => (mgP_none _).symm
  | m + 1, a => by
    rw [show a + (m + 1) = (a + 1) + m by omega, bP_uPq m (a + 1)]
    show mgP (stp V cap ld T set (bP V cap ld T set a) a) (uPq V cap ld T set m (a + 1)) = mgP (bP V cap ld T set a) (mgP (cnP V cap ld T set a) (uPq V cap ld T set m (a + 1)))
    rw [stp_mgP, mgP_assoc]
theorem cnP_none {V : Vw} {cap : Nat} {ld : Nat → Nat} {T : Nat → Option PR} {set p : Nat} (h : vp set p = false) : cnP V cap ld T set p = none := by
  unfold cnP
  rw [if_neg]
  intro q
  rw [h] at q
  cases q.1
theorem uPq_skip {V : Vw} {cap : Nat} {ld : Nat → Nat} {T : Nat → Option PR} {set : Nat} : ∀ m a k, (∀ p, a ≤ p → p < a + m → vp set p = false) → uPq V cap ld T set (m + k) a = uPq V cap ld T set k (a + m)
  | 0, a, k, _ => by rw [Nat.zero_add]; rfl
  | m + 1, a, k, h => by
    rw [show m + 1 + k = (m + k) + 1 by omega, show a + (m + 1) = (a + 1) + m by omega]
    show mgP (cnP V cap ld T set a) (uPq V cap ld T set (m + k) (a + 1)) = _
    rw [cnP_none (h a (by omega) (by omega)), uPq_skip m (a + 1) k (fun p h1 h2 => h p (by omega) (by omega))]
    rfl
theorem uPq_mem {V : Vw} {cap : Nat} {ld : Nat → Nat} {T : Nat → Option PR} {set : Nat} {r : PR} : ∀ m a, uPq V cap ld T set m a = some r → ∃ p, p < a + m ∧ vp set p = true ∧ ldS ld p (V 0 8) ≤ cap ∧ ∃ q, T (set ^^^ p) = some q ∧ r = (rpV V p + q.1, q.2.1 + 1, p)
  | 0, _, h => by cases h
  | m + 1, a, h => by
    rcases mgP_or (show mgP (cnP V cap ld T set a) (uPq V cap ld T set m (a + 1)) = some r from h) with g | g
    · unfold cnP at g
      by_cases q : vp set a = true ∧ ldS ld a (V 0 8) ≤ cap
      · rw [if_pos q] at g
        cases hT : T (set ^^^ a) with
        | none =>
          rw [hT] at g
          cases g
        | some x =>
          rw [hT] at g
          exact ⟨a, by omega, q.1, q.2, x, hT, (Option.some.inj g).symm⟩
      · rw [if_neg q] at g
        cases g
    · obtain ⟨p, h1, h2⟩ := uPq_mem m (a + 1) g
      exact ⟨p, by omega, h2⟩
theorem prv_nI : ∀ o, o < 64 → ∀ e, e < 64 → 0 < e → (nI e - 1) &&& nI o = nI ((e - 1) &&& o) := by decide +kernel
theorem prv_1 {o e : Nat} (h : 0 < e) : ((e - 1) &&& o) &&& o = (e - 1) &&& o ∧ (e - 1) &&& o < e := by
  refine ⟨by rw [Nat.and_assoc, Nat.and_self], ?_⟩
  have := Nat.and_le_left (n := e - 1) (m := o)
  omega
def prvB (o e : Nat) : Bool := !(e &&& o == e) || (List.range 64).all (fun q => !(q &&& o == q) || !(decide (q < e)) || decide (q ≤ (e - 1) &&& o))
theorem prv_3 : ∀ o, o < 64 → ∀ e, e < 64 → prvB o e = true := by decide +kernel
theorem prv_2 (o : Nat) (ho : o < 64) (e : Nat) (he : e < 64) (h1 : e &&& o = e) (q : Nat) (hq : q < 64) (h2 : q &&& o = q) (h3 : q < e) : q ≤ (e - 1) &&& o := by
  have h := prv_3 o ho e he
  unfold prvB at h
  simp only [h1, beq_self_eq_true, Bool.not_true, Bool.false_or] at h
  have := List.all_eq_true.mp h q (List.mem_range.mpr hq)
  simpa [h2, h3] using this
theorem lo_1 : ∀ set, set < 64 → set ≠ 0 → ∀ e, e < 64 → e &&& (set ^^^ 2 ^ lowJ 14 set) = e → 2 ^ lowJ 14 set ||| e = 2 ^ lowJ 14 set + e ∧ vp set (2 ^ lowJ 14 set ||| e) = true := by decide +kernel
theorem lo_2 : ∀ set, set < 64 → set ≠ 0 → ∀ p, p < 64 → vp set p = true → (p ^^^ 2 ^ lowJ 14 set) &&& (set ^^^ 2 ^ lowJ 14 set) = p ^^^ 2 ^ lowJ 14 set ∧ p = 2 ^ lowJ 14 set + (p ^^^ 2 ^ lowJ 14 set) := by decide +kernel
theorem lo_3 : ∀ set, set < 64 → set ≠ 0 → 2 ^ lowJ 14 set ||| (set ^^^ 2 ^ lowJ 14 set) = set ∧ 2 ^ lowJ 14 set &&& (set ^^^ 2 ^ lowJ 14 set) = 0 ∧ set ^^^ 2 ^ lowJ 14 set < set ∧ (set ^^^ 2 ^ lowJ 14 set) &&& set = set ^^^ 2 ^ lowJ 14 set := by decide +kernel
theorem ldS_or {ld : Nat → Nat} {a b : Nat} (h : a &&& b = 0) : ∀ n, ldS ld (a ||| b) n = ldS ld a n + ldS ld b n
  | 0 => rfl
  | n + 1 => by
    show ldS ld (a ||| b) n + (if (a ||| b).testBit n then ld n else 0) = (ldS ld a n + (if a.testBit n then ld n else 0)) + (ldS ld b n + (if b.testBit n then ld n else 0))
    rw [ldS_or h n, Nat.testBit_or]
    have := congrArg (fun x => x.testBit n) h
    simp only [Nat.testBit_and, Nat.zero_testBit] at this
    cases h1 : a.testBit n <;> cases h2 : b.testBit n <;> simp [h1, h2] at this ⊢ <;> omega
abbrev rS : List (Nat × Option Nat) := [(31, none), (32, none), (33, none), (34, none)]
theorem partSet_loop {V : Vw} (hw : WF V) {cap : Nat} (hc : cap < 1000000) {ld : Nat → Nat} (hld : ∀ s, s < V 0 8 → ld s < 1000000) {set : Nat} (hs : set < 2 ^ V 0 8) (h0 : set ≠ 0) (hbig : cap < ldS ld set (V 0 8)) : ∀ m e n σ, e ≤ m → m < n → e ≤ set ^^^ 2 ^ lowJ 14 set → e &&& (set ^^^ 2 ^ lowJ 14 set) = e → PC V σ → (∀ q, q < set → q &&& set = q → cPC V cap ld q σ) → accC (uPq V cap ld (PT V cap ld) set (set - (2 ^ lowJ 14 set ||| e)) (2 ^ lowJ 14 set ||| e)) set σ → ∃ τ, LX2_partSet_104 (nI set) (nI cap) (nI (2 ^ lowJ 14 set)) (nI (set ^^^ 2 ^ lowJ 14 set)) n (nI e) σ = some τ ∧ accC (PT V cap ld set) set τ ∧ (∀ q, q ≠ set → τ 32 q = σ 32 q ∧ τ 33 q = σ 33 q ∧ τ 34 q = σ 34 q) ∧ fr [(32, none), (33, none), (34, none)] σ τ := by
  have s6 := hw.s6
  have p6 := p64 s6
  obtain ⟨q1, q2, q3, q4⟩ := lo_3 set (by omega) h0
  obtain ⟨o, ho⟩ : ∃ o, o = set ^^^ 2 ^ lowJ 14 set := ⟨_, rfl⟩
  obtain ⟨lw, hlw⟩ : ∃ lw, lw = 2 ^ lowJ 14 set := ⟨_, rfl⟩
  have L1 := lo_1 set (by omega) h0
  have L2 := lo_2 set (by omega) h0
  rw [← ho] at q1 q2 q3 q4 ⊢
  rw [← ho] at L1 L2
  rw [← hlw] at q1 q2 L1 L2 ⊢
  have top : lw + o = set := by
    have := (L1 o (by omega) (Nat.and_self o)).1
    rw [q1] at this
    omega
  intro m
  induction m with
  | zero =>
    intro e n σ hm hn he hsub hp hq ha
    obtain ⟨n, rfl⟩ : ∃ q, n = q + 1 := ⟨n - 1, by omega⟩
    have ee : e = 0 := by omega
    subst ee
    rw [Nat.or_zero] at ha
    refine ⟨σ, ?_, ?_, fun _ _ => ⟨rfl, rfl, rfl⟩, fr.rf⟩
    · rw [LX2_partSet_104, if_pos (show nI 0 ≤ (0 : Int32) from (nI_lei (a := 0) (b := 0) (by omega) (by omega)).mpr (by omega))]
    · have e2 : PT V cap ld set = bP V cap ld (PT V cap ld) set set := by
        rw [PT_pos (by omega) h0]
        show stp V cap ld (PT V cap ld) set (bP V cap ld (PT V cap ld) set set) set = _
        unfold stp
        rw [if_neg (by omega)]
      have e3 : bP V cap ld (PT V cap ld) set lw = none := by
        have := bP_skip (V := V) (cap := cap) (ld := ld) (T := PT V cap ld) (set := set) (a := 0) lw (fun p _ hp => by
          cases hv : vp set p with
          | false => rfl
          | true =>
            have hv2 := vp_le hv
            have := (L2 p (by omega) hv).2
            omega)
        rw [Nat.zero_add] at this
        rw [this]
        rfl
      have e4 := bP_uPq (V := V) (cap := cap) (ld := ld) (T := PT V cap ld) (set := set) (set - lw) lw
      rw [show lw + (set - lw) = set by omega, e3] at e4
      rw [e2, e4]
      exact ha
  | succ m ih =>
    intro e n σ hm hn he hsub hp hq ha
    obtain ⟨n, rfl⟩ : ∃ q, n = q + 1 := ⟨n - 1, by omega⟩
    by_cases ee : e = 0
    · exact ih e (n + 1) σ (by omega) (by omega) he hsub hp hq ha
    · have e0 : 0 < e := by omega
      obtain ⟨e', he'⟩ : ∃ e', e' = (e - 1) &&& o := ⟨_, rfl⟩
      obtain ⟨z1, z2⟩ := prv_1 (o := o) e0
      have zn := prv_nI o (by omega) e (by omega) e0
      have zl := prv_2 o (by omega) e (by omega) hsub
      rw [← he'] at z1 z2 zn zl
      obtain ⟨a1, a2⟩ := L1 e' (by omega) z1
      obtain ⟨a3, a4⟩ := L1 e (by omega) hsub
      obtain ⟨p, hp0⟩ : ∃ p, p = lw ||| e' := ⟨_, rfl⟩
      rw [← hp0] at a1 a2
      have hpl := vp_le a2
      obtain ⟨⟨f1, f2, f3, f4⟩, f5, f6, f7⟩ := vp_facts set (by omega) p (by omega) a2
      obtain ⟨A, hA⟩ : ∃ A, A = uPq V cap ld (PT V cap ld) set (set - (lw ||| e)) (lw ||| e) := ⟨_, rfl⟩
      have sk : uPq V cap ld (PT V cap ld) set (set - (lw ||| e')) (lw ||| e') = mgP (cnP V cap ld (PT V cap ld) set p) A := by
        have := uPq_skip (V := V) (cap := cap) (ld := ld) (T := PT V cap ld) (set := set) (e - e' - 1) (p + 1) (set - (lw ||| e)) (fun p' h1 h2 => by
          cases hv : vp set p' with
          | false => rfl
          | true =>
            exfalso
            have hv2 := vp_le hv
            obtain ⟨y1, y2⟩ := L2 p' (by omega) hv
            have := zl (p' ^^^ lw) (by omega) y1 (by omega)
            omega)
        rw [show p + 1 + (e - e' - 1) = lw ||| e by omega, ← hA] at this
        rw [← hp0, show set - p = ((e - e' - 1) + (set - (lw ||| e))) + 1 by omega]
        show mgP (cnP V cap ld (PT V cap ld) set p) (uPq V cap ld (PT V cap ld) set ((e - e' - 1) + (set - (lw ||| e))) (p + 1)) = _
        rw [this]
      rw [← hA] at ha
      rw [LX2_partSet_104, if_neg (show ¬ nI e ≤ (0 : Int32) from fun q => absurd ((nI_lei (a := e) (b := 0) (by omega) (by omega)).mp q) (by omega))]
      simp only [lt]
      rw [zn, nx_or, ← hp0, nx_xor]
      rw [if_pos ((ib_nI (by omega)).mpr (by omega)), nI_cl (by omega)]
      have stay : mgP (cnP V cap ld (PT V cap ld) set p) A = A → ∃ τ, LX2_partSet_104 (nI set) (nI cap) (nI lw) (nI o) n (nI e') σ = some τ ∧ accC (PT V cap ld set) set τ ∧ (∀ q, q ≠ set → τ 32 q = σ 32 q ∧ τ 33 q = σ 33 q ∧ τ 34 q = σ 34 q) ∧ fr [(32, none), (33, none), (34, none)] σ τ := fun z => ih e' n σ (by omega) (by omega) (by omega) z1 hp hq (by rw [sk, z]; exact ha)
      obtain ⟨c31, -⟩ := hq p (by omega) (by
        unfold vp at a2
        rw [Bool.and_eq_true, decide_eq_true_eq] at a2
        exact a2.1)
      have hL : ldS ld p (V 0 8) ≤ V 0 8 * 1000000 := sumN_le (fun i hi => by
        have := hld i hi
        show (if p.testBit i then ld i else 0) ≤ 1000000
        split <;> omega)
      have hL2 : V 0 8 * 1000000 ≤ 6 * 1000000 := Nat.mul_le_mul_right _ s6
      rw [c31]
      by_cases c3 : ldS ld p (V 0 8) ≤ cap
      · have i1 : ib (nI (set ^^^ p)) 64 := (ib_nI (by omega)).mpr (by omega)
        have i2 : (nI (set ^^^ p)).toNatClampNeg = set ^^^ p := nI_cl (by omega)
        have i3 : ib (nI set) 64 := (ib_nI (by omega)).mpr (by omega)
        have i4 : (nI set).toNatClampNeg = set := nI_cl (by omega)
        rw [if_pos (by rw [nI_lei] <;> omega)]
        simp only [if_pos i1, i2, if_pos i3, i4]
        obtain ⟨-, r, hP, e1, e2, -⟩ := hq (set ^^^ p) f3 f5
        obtain ⟨b1', b2', b3'⟩ := PT_bd hw _ r (by omega) hP
        have cn := cnt6 (set ^^^ p)
        have rp := rp_le hw (set := p) (by omega)
        have es : cnP V cap ld (PT V cap ld) set p = some (rpV V p + r.1, r.2.1 + 1, p) := by
          rw [cnP, if_pos ⟨a2, c3⟩, hP]
        rw [e1, hp.1 p (by omega), nI_add]
        simp only [up_cell (show (33 : Nat) ≠ 32 by omega), e2]
        have e11 : (1 : Int32) + nI r.2.1 = nI (r.2.1 + 1) := by rw [nI_lit, nI_add, Nat.add_comm]
        rw [e11]
        obtain ⟨τ0, hτ⟩ : ∃ τ0, τ0 = up (up (up σ 32 set (nI (rpV V p + r.1))) 33 set (nI (r.2.1 + 1))) 34 set (nI p) := ⟨_, rfl⟩
        rw [← hτ]
        have hf : fr [(32, none), (33, none), (34, none)] σ τ0 := by
          rw [hτ]
          exact ((fr_up.mono (by simp)).tr (fr_up.mono (by simp))).tr (fr_up.mono (by simp))
        have o3 : ∀ q, q ≠ set → τ0 32 q = σ 32 q ∧ τ0 33 q = σ 33 q ∧ τ0 34 q = σ 34 q := fun q hq => by
          rw [hτ]
          exact ⟨by rw [up_cell (by omega), up_cell (by omega), up_slot hq], by rw [up_cell (by omega), up_slot hq, up_cell (by omega)], by rw [up_slot hq, up_cell (by omega), up_cell (by omega)]⟩
        have go : mgP (cnP V cap ld (PT V cap ld) set p) A = some (rpV V p + r.1, r.2.1 + 1, p) → ∃ τ, LX2_partSet_104 (nI set) (nI cap) (nI lw) (nI o) n (nI e') τ0 = some τ ∧ accC (PT V cap ld set) set τ ∧ (∀ q, q ≠ set → τ 32 q = σ 32 q ∧ τ 33 q = σ 33 q ∧ τ 34 q = σ 34 q) ∧ fr [(32, none), (33, none), (34, none)] σ τ := fun z => by
          have hz : ∀ q, q < set → q &&& set = q → cPC V cap ld q τ0 := fun q h1 h2 => (hq q h1 h2).off ⟨by rw [hf.cell (k := 31) rfl], o3 q (by omega)⟩
          obtain ⟨τ, g1, g2, g3, g4⟩ := ih e' n τ0 (by omega) (by omega) (by omega) z1 ⟨fun q h => by rw [hf.cell (k := 30) rfl]; exact hp.1 q h, by rw [hf.cell (k := 31) rfl]; exact hp.2.1, by rw [(o3 0 (by omega)).1]; exact hp.2.2.1, by rw [(o3 0 (by omega)).2.1]; exact hp.2.2.2⟩ hz (by
            rw [sk, z]
            show τ0 32 set = nI (rpV V p + r.1) ∧ τ0 33 set = nI (r.2.1 + 1) ∧ τ0 34 set = nI p
            rw [hτ]
            exact ⟨by rw [up_cell (by omega), up_cell (by omega), up_same], by rw [up_cell (by omega), up_same], by rw [up_same]⟩)
          exact ⟨τ, g1, g2, fun q h1 => ⟨(g3 q h1).1.trans (o3 q h1).1, (g3 q h1).2.1.trans (o3 q h1).2.1, (g3 q h1).2.2.trans (o3 q h1).2.2⟩, hf.tr g4⟩
        rw [es] at go stay
        cases hb : A with
        | none =>
          rw [hb] at ha go
          obtain ⟨a1, a2, a3⟩ : σ 32 set = nI 1000000000 ∧ σ 33 set = nI 1 ∧ σ 34 set = nI set := ha
          rw [a1, if_pos (by rw [nI_lti] <;> omega)]
          exact go rfl
        | some y =>
          rw [hb] at ha go stay
          rw [hb] at hA
          obtain ⟨a1, a2, a3⟩ : σ 32 set = nI y.1 ∧ σ 33 set = nI y.2.1 ∧ σ 34 set = nI y.2.2 := ha
          obtain ⟨p', q1, q2, q3, q', q4, q5⟩ := uPq_mem _ _ hA.symm
          have q6 := vp_le q2
          obtain ⟨⟨f1', f2', f3', f4'⟩, -⟩ := vp_facts set (by omega) p' (by omega) q2
          obtain ⟨c1', c2', c3'⟩ := PT_bd hw _ q' (by omega) q4
          have cn' := cnt6 (set ^^^ p')
          have rp' := rp_le hw (set := p') (by omega)
          have y1 : y.1 < 1000000 := by rw [q5]; show rpV V p' + q'.1 < _; omega
          have y2 : y.2.1 < 1000000 := by rw [q5]; show q'.2.1 + 1 < _; omega
          rw [a1, a2]
          by_cases d1 : rpV V p + r.1 < y.1
          · rw [if_pos (by rw [nI_lti] <;> omega)]
            exact go (mgP_neg (by show ¬ (y.1 < rpV V p + r.1 ∨ (y.1 = rpV V p + r.1 ∧ y.2.1 < r.2.1 + 1)); omega))
          · rw [if_neg (by rw [nI_lti] <;> omega)]
            by_cases d2 : rpV V p + r.1 = y.1
            · rw [if_pos (by rw [d2])]
              by_cases d3 : y.2.1 < r.2.1 + 1
              · rw [if_pos (by rw [nI_lti] <;> omega)]
                exact stay (mgP_pos (show y.1 < rpV V p + r.1 ∨ (y.1 = rpV V p + r.1 ∧ y.2.1 < r.2.1 + 1) by omega))
              · rw [if_neg (by rw [nI_lti] <;> omega)]
                exact go (mgP_neg (by show ¬ (y.1 < rpV V p + r.1 ∨ (y.1 = rpV V p + r.1 ∧ y.2.1 < r.2.1 + 1)); omega))
            · rw [if_neg (by rw [nI_eqi] <;> omega)]
              exact stay (mgP_pos (show y.1 < rpV V p + r.1 ∨ (y.1 = rpV V p + r.1 ∧ y.2.1 < r.2.1 + 1) by omega))
      · rw [if_neg (by rw [nI_lei] <;> omega)]
        refine stay ?_
        unfold cnP
        rw [if_neg (by omega)]
        rfl
