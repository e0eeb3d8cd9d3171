/-! WAYS: the least way, by sets -/
theorem WF.d1 {V : Vw} (h : WF V) : 1 ≤ V 0 0 := h.1.1
theorem WF.d14 {V : Vw} (h : WF V) : V 0 0 ≤ 14 := h.1.2
theorem WF.t1 {V : Vw} (h : WF V) : 1 ≤ V 0 3 := h.2.1.1
theorem WF.t99 {V : Vw} (h : WF V) : V 0 3 ≤ 99 := h.2.1.2
theorem WF.fx {V : Vw} (h : WF V) : V 0 4 ≤ 99 := h.2.2.1
theorem WF.mi {V : Vw} (h : WF V) : V 0 5 ≤ 9 := h.2.2.2.1
theorem WF.ho {V : Vw} (h : WF V) : V 0 6 ≤ 9 := h.2.2.2.2.1
theorem WF.lo {V : Vw} (h : WF V) : V 0 7 ≤ 99 := h.2.2.2.2.2.1
theorem WF.s6 {V : Vw} (h : WF V) : V 0 8 ≤ 6 := h.2.2.2.2.2.2.1
theorem WF.r12 {V : Vw} (h : WF V) : V 0 9 ≤ 12 := h.2.2.2.2.2.2.2.1
theorem WF.dx {V : Vw} (h : WF V) : V 0 1 = V 1 6 := h.2.2.2.2.2.2.2.2.1
theorem WF.dy {V : Vw} (h : WF V) : V 0 2 = V 2 6 := h.2.2.2.2.2.2.2.2.2.1
theorem WF.x6 {V : Vw} (h : WF V) : V 1 6 ≤ 30 := h.2.2.2.2.2.2.2.2.2.2.1
theorem WF.y6 {V : Vw} (h : WF V) : V 2 6 ≤ 30 := h.2.2.2.2.2.2.2.2.2.2.2.1
theorem WF.sh {V : Vw} (h : WF V) {s : Nat} (hs : s < V 0 8) : V 1 s ≤ 30 ∧ V 2 s ≤ 30 ∧ 1 ≤ V 3 s ∧ V 3 s ≤ V 0 3 ∧ V 4 s ≤ V 3 s := h.2.2.2.2.2.2.2.2.2.2.2.2.1 s hs
/-- a place that is there -/
def pl (V : Vw) (a : Nat) : Prop := a < V 0 8 ∨ a = 6
theorem WF.plx {V : Vw} (h : WF V) {a : Nat} (ha : pl V a) : V 1 a ≤ 30 ∧ V 2 a ≤ 30 := by
  rcases ha with ha | ha
  · exact ⟨(h.sh ha).1, (h.sh ha).2.1⟩
  · rw [ha]; exact ⟨h.x6, h.y6⟩
def faV (V : Vw) (a b : Nat) : Nat := ((V 1 a - V 1 b) + (V 1 b - V 1 a)) + ((V 2 a - V 2 b) + (V 2 b - V 2 a))
theorem faV_tri (V : Vw) (a b c : Nat) : faV V a c ≤ faV V a b + faV V b c := by
  unfold faV
  omega
theorem faV_le {V : Vw} (h : WF V) {a b : Nat} (ha : pl V a) (hb : pl V b) : faV V a b ≤ 60 := by
  have h1 := h.plx ha
  have h2 := h.plx hb
  unfold faV
  omega
abbrev INF : Nat := 1000000000
def wbA (V : Vw) (T : Nat → Nat → Nat) (set a : Nat) : Nat → Nat
  | 0 => INF
  | k + 1 => if set.testBit k then min (wbA V T set a k) (faV V a k + T (set ^^^ 2 ^ k) k) else wbA V T set a k
def wT (V : Vw) : Nat → Nat → Nat → Nat
  | 0, _, _ => 0
  | k + 1, set, a => if set = k then (if k = 0 then faV V a 6 else wbA V (wT V k) k a (V 0 8)) else wT V k set a
def ah (V : Vw) (set a : Nat) : Nat := wT V (set + 1) set a
theorem wT_ge {V : Vw} : ∀ {k set a : Nat}, set < k → wT V k set a = ah V set a
  | 0, _, _, h => absurd h (by omega)
  | k + 1, set, a, h => by
    by_cases q : set = k
    · rw [q]; rfl
    · show (if set = k then (if k = 0 then faV V a 6 else wbA V (wT V k) k a (V 0 8)) else wT V k set a) = _
      rw [if_neg q]
      exact wT_ge (by omega)
theorem xb_lt : ∀ set, set < 64 → ∀ b, b < 6 → set.testBit b = true → set ^^^ 2 ^ b < set ∧ (set ^^^ 2 ^ b).testBit b = false ∧ cntB (set ^^^ 2 ^ b) 6 + 1 = cntB set 6 := by decide +kernel
theorem wbA_congr {V : Vw} {T T' : Nat → Nat → Nat} {set a : Nat} : ∀ {n : Nat}, (∀ b, b < n → set.testBit b = true → T (set ^^^ 2 ^ b) b = T' (set ^^^ 2 ^ b) b) → wbA V T set a n = wbA V T' set a n
  | 0, _ => rfl
  | n + 1, h => by
    show (if set.testBit n then min (wbA V T set a n) (faV V a n + T (set ^^^ 2 ^ n) n) else wbA V T set a n) = (if set.testBit n then min (wbA V T' set a n) (faV V a n + T' (set ^^^ 2 ^ n) n) else wbA V T' set a n)
    rw [wbA_congr (T := T) (T' := T') (n := n) (fun b hb => h b (by omega))]
    by_cases q : set.testBit n = true
    · rw [if_pos q, if_pos q, h n (by omega) q]
    · rw [if_neg q, if_neg q]
theorem ah_zero (V : Vw) (a : Nat) : ah V 0 a = faV V a 6 := rfl
theorem ah_pos {V : Vw} (h : WF V) {set a : Nat} (hs : set < 64) (h0 : set ≠ 0) : ah V set a = wbA V (ah V) set a (V 0 8) := by
  show (if set = set then (if set = 0 then faV V a 6 else wbA V (wT V set) set a (V 0 8)) else wT V set set a) = _
  rw [if_pos rfl, if_neg h0]
  have := h.s6
  exact wbA_congr (fun b hb q => wT_ge (xb_lt set hs b (by omega) q).1)
theorem wbA_le {V : Vw} {T : Nat → Nat → Nat} {set a b : Nat} (hb : set.testBit b = true) : ∀ {n : Nat}, b < n → wbA V T set a n ≤ faV V a b + T (set ^^^ 2 ^ b) b
  | 0, h => absurd h (by omega)
  | n + 1, h => by
    show (if set.testBit n then min (wbA V T set a n) (faV V a n + T (set ^^^ 2 ^ n) n) else wbA V T set a n) ≤ _
    by_cases q : b = n
    · subst q
      rw [if_pos hb]
      exact Nat.min_le_right _ _
    · have := wbA_le (V := V) (T := T) (a := a) hb (n := n) (by omega)
      split
      · exact Nat.le_trans (Nat.min_le_left _ _) this
      · exact this
theorem wbA_mem {V : Vw} {T : Nat → Nat → Nat} {set a : Nat} : ∀ {n : Nat}, wbA V T set a n = INF ∨ ∃ b, b < n ∧ set.testBit b = true ∧ wbA V T set a n = faV V a b + T (set ^^^ 2 ^ b) b
  | 0 => Or.inl rfl
  | n + 1 => by
    show (if set.testBit n then min (wbA V T set a n) (faV V a n + T (set ^^^ 2 ^ n) n) else wbA V T set a n) = INF ∨ ∃ b, b < n + 1 ∧ set.testBit b = true ∧ (if set.testBit n then min (wbA V T set a n) (faV V a n + T (set ^^^ 2 ^ n) n) else wbA V T set a n) = faV V a b + T (set ^^^ 2 ^ b) b
    by_cases q : set.testBit n = true
    · rw [if_pos q]
      rcases Nat.le_total (wbA V T set a n) (faV V a n + T (set ^^^ 2 ^ n) n) with z | z
      · rw [Nat.min_eq_left z]
        rcases wbA_mem (V := V) (T := T) (set := set) (a := a) (n := n) with y | ⟨b, h1, h2, h3⟩
        · exact Or.inl y
        · exact Or.inr ⟨b, by omega, h2, h3⟩
      · rw [Nat.min_eq_right z]
        exact Or.inr ⟨n, by omega, q, rfl⟩
    · rw [if_neg q]
      rcases wbA_mem (V := V) (T := T) (set := set) (a := a) (n := n) with y | ⟨b, h1, h2, h3⟩
      · exact Or.inl y
      · exact Or.inr ⟨b, by omega, h2, h3⟩
theorem ex_bit {set n : Nat} (h : set < 2 ^ n) (h0 : set ≠ 0) : ∃ b, b < n ∧ set.testBit b = true := by
  apply Classical.byContradiction
  intro q
  apply h0
  apply Nat.eq_of_testBit_eq
  intro i
  rw [Nat.zero_testBit]
  rcases Nat.lt_or_ge i n with y | y
  · cases hb : set.testBit i with
    | false => rfl
    | true => exact absurd ⟨i, y, hb⟩ q
  · exact Nat.testBit_lt_two_pow (Nat.lt_of_lt_of_le h (Nat.pow_le_pow_right (by omega) y))
theorem bit_lt {set n b : Nat} (h : set < 2 ^ n) (hb : set.testBit b = true) : b < n := by
  rcases Nat.lt_or_ge b n with y | y
  · exact y
  · rw [Nat.testBit_lt_two_pow (Nat.lt_of_lt_of_le h (Nat.pow_le_pow_right (by omega) y))] at hb
    cases hb
theorem p64 {n : Nat} (h : n ≤ 6) : 2 ^ n ≤ 64 := by
  have : 2 ^ n ≤ 2 ^ 6 := Nat.pow_le_pow_right (by omega) h
  omega
theorem cnt6 (v : Nat) : cntB v 6 ≤ 6 := cntB_le v 6
/-- the best next shop; all are small -/
theorem ah_best {V : Vw} (h : WF V) : ∀ (c set a : Nat), cntB set 6 = c → set < 2 ^ V 0 8 → pl V a → ah V set a ≤ 60 * (c + 1) ∧ (set ≠ 0 → ∃ b, b < V 0 8 ∧ set.testBit b = true ∧ ah V set a = faV V a b + ah V (set ^^^ 2 ^ b) b) := by
  have s6 := h.s6
  have p6 := p64 s6
  intro c
  induction c with
  | zero =>
    intro set a hc hs ha
    have h0 : set = 0 := by
      apply Classical.byContradiction
      intro q
      obtain ⟨b, b1, b2⟩ := ex_bit hs q
      have := (xb_lt set (by omega) b (by omega) b2).2.2
      omega
    subst h0
    refine ⟨?_, fun q => absurd rfl q⟩
    rw [ah_zero]
    exact faV_le h ha (Or.inr rfl)
  | succ c ih =>
    intro set a hc hs ha
    have h0 : set ≠ 0 := by
      intro q
      subst q
      have : cntB 0 6 = 0 := by decide
      omega
    have hx : ∀ b, b < V 0 8 → set.testBit b = true → faV V a b + ah V (set ^^^ 2 ^ b) b ≤ 60 * (c + 2) := fun b h1 h2 => by
      have z := xb_lt set (by omega) b (by omega) h2
      have y := (ih (set ^^^ 2 ^ b) b (by omega) (by omega) (Or.inl h1)).1
      have := faV_le h ha (Or.inl h1 : pl V b)
      omega
    obtain ⟨b, b1, b2⟩ := ex_bit hs h0
    have e := ah_pos h (a := a) (show set < 64 by omega) h0
    have l1 := wbA_le (V := V) (T := ah V) (a := a) b2 b1
    have l2 := hx b b1 b2
    have c6 := cnt6 set
    rw [← e] at l1
    refine ⟨by omega, fun _ => ?_⟩
    rcases wbA_mem (V := V) (T := ah V) (set := set) (a := a) (n := V 0 8) with y | ⟨d, d1, d2, d3⟩
    · rw [← e] at y
      exfalso
      unfold INF at y
      omega
    · rw [← e] at d3
      exact ⟨d, d1, d2, d3⟩
theorem ah_le {V : Vw} (h : WF V) {set a : Nat} (hs : set < 2 ^ V 0 8) (ha : pl V a) : ah V set a ≤ 420 := by
  have := (ah_best h _ set a rfl hs ha).1
  have := cnt6 set
  omega
theorem ah_by {V : Vw} (h : WF V) {set a b : Nat} (hs : set < 2 ^ V 0 8) (hb : set.testBit b = true) : ah V set a ≤ faV V a b + ah V (set ^^^ 2 ^ b) b := by
  have s6 := h.s6
  have p6 := p64 s6
  have h0 : set ≠ 0 := by
    intro q
    rw [q, Nat.zero_testBit] at hb
    cases hb
  rw [ah_pos h (by omega) h0]
  exact wbA_le hb (bit_lt hs hb)
theorem or_xor {A B b : Nat} (hd : A &&& B = 0) (hb : A.testBit b = true) : (A ||| B) ^^^ 2 ^ b = (A ^^^ 2 ^ b) ||| B ∧ (A ^^^ 2 ^ b) &&& B = 0 ∧ (A ||| B).testBit b = true := by
  have hd2 : ∀ i, (A.testBit i && B.testBit i) = false := fun i => by
    have := congrArg (fun n => n.testBit i) hd
    simpa [Nat.testBit_and] using this
  have hB : B.testBit b = false := by
    have := hd2 b
    rw [hb] at this
    simpa using this
  refine ⟨Nat.eq_of_testBit_eq fun i => ?_, Nat.eq_of_testBit_eq fun i => ?_, ?_⟩
  · simp only [Nat.testBit_xor, Nat.testBit_or, Nat.testBit_two_pow]
    by_cases q : b = i
    · subst q
      simp [hb, hB]
    · simp [q]
  · simp only [Nat.testBit_xor, Nat.testBit_and, Nat.testBit_two_pow, Nat.zero_testBit]
    by_cases q : b = i
    · subst q
      simp [hb, hB]
    · simp [q]
      simpa using hd2 i
  · simp [hb]
/-- two ways are never shorter than one -/
theorem ah_two {V : Vw} (h : WF V) : ∀ (c A B a : Nat), cntB A 6 = c → A < 2 ^ V 0 8 → B < 2 ^ V 0 8 → A &&& B = 0 → pl V a → ah V (A ||| B) a ≤ ah V A a + ah V B 6 := by
  have s6 := h.s6
  have p6 := p64 s6
  intro c
  induction c with
  | zero =>
    intro A B a hc hA hB hd ha
    have h0 : A = 0 := by
      apply Classical.byContradiction
      intro q
      obtain ⟨b, b1, b2⟩ := ex_bit hA q
      have := (xb_lt A (by omega) b (by omega) b2).2.2
      omega
    subst h0
    rw [Nat.zero_or, ah_zero]
    by_cases q : B = 0
    · subst q
      rw [ah_zero]
      omega
    · obtain ⟨b, b1, b2, b3⟩ := (ah_best h _ B 6 rfl hB (Or.inr rfl)).2 q
      have := ah_by h (a := a) hB b2
      have := faV_tri V a 6 b
      omega
  | succ c ih =>
    intro A B a hc hA hB hd ha
    have h0 : A ≠ 0 := by
      intro q
      subst q
      have : cntB 0 6 = 0 := by decide
      omega
    obtain ⟨b, b1, b2, b3⟩ := (ah_best h _ A a rfl hA ha).2 h0
    have z := xb_lt A (by omega) b (by omega) b2
    obtain ⟨o1, o2, o3⟩ := or_xor hd b2
    have y := ih (A ^^^ 2 ^ b) B b (by omega) (by omega) hB o2 (Or.inl b1)
    have l := ah_by h (set := A ||| B) (a := a) (Nat.or_lt_two_pow hA hB) o3
    rw [o1] at l
    omega
