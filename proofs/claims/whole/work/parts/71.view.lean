/-! THE VIEW: what both sides' cells stand for -/
/-- V 0: days, x, y, truck, fixed, mile, hold, lost, shops, rushes; V 1, V 2: places (6: the depot); V 3: shelves; V 4: first stocks; V 5: visits; V 6: sold by 14 * shop + day; V 7: rushes' cells; V 8: rushes' more; V 9: acts by 7 * act + shop (6: rushes); V 10 0: acts; V 11: tape; V 12 0: bytes; V 13: fault, its place and 1 -/
abbrev Vw : Type := Nat → Nat → Nat
/-- what is asked for, of a shop on a day -/
def aq (V : Vw) (s d : Nat) : Nat := V 6 (14 * s + d) + sumN (fun k => if V 7 k = 14 * s + d then V 8 k else 0) (V 0 9)
/-- the stock in the morning of a day -/
def stk (fi sh vis : Nat) (ask : Nat → Nat) : Nat → Nat
  | 0 => fi
  | d + 1 => (if vis.testBit d then sh else stk fi sh vis ask d) - ask d
def rload (fi sh vis : Nat) (ask : Nat → Nat) (d : Nat) : Nat := if vis.testBit d then sh - stk fi sh vis ask d else 0
def rmiss (fi sh vis : Nat) (ask : Nat → Nat) (d : Nat) : Nat := ask d - (if vis.testBit d then sh else stk fi sh vis ask d)
theorem stk_le {fi sh vis : Nat} {ask : Nat → Nat} (h : fi ≤ sh) : ∀ d, stk fi sh vis ask d ≤ sh
  | 0 => h
  | d + 1 => by
    show (if vis.testBit d then sh else stk fi sh vis ask d) - ask d ≤ sh
    have := stk_le (vis := vis) (ask := ask) h d
    split <;> omega
/-- what holds of every view that comes up -/
def WF (V : Vw) : Prop := (1 ≤ V 0 0 ∧ V 0 0 ≤ 14) ∧ (1 ≤ V 0 3 ∧ V 0 3 ≤ 99) ∧ V 0 4 ≤ 99 ∧ V 0 5 ≤ 9 ∧ V 0 6 ≤ 9 ∧ V 0 7 ≤ 99 ∧ V 0 8 ≤ 6 ∧ V 0 9 ≤ 12 ∧ V 0 1 = V 1 6 ∧ V 0 2 = V 2 6 ∧ V 1 6 ≤ 30 ∧ V 2 6 ≤ 30
  ∧ (∀ s, s < V 0 8 → V 1 s ≤ 30 ∧ V 2 s ≤ 30 ∧ 1 ≤ V 3 s ∧ V 3 s ≤ V 0 3 ∧ V 4 s ≤ V 3 s)
  ∧ (∀ s, V 5 s < 2 ^ V 0 0) ∧ (∀ s, V 0 8 ≤ s → V 5 s = 0)
  ∧ (∀ s d, s < V 0 8 → d < V 0 0 → V 6 (14 * s + d) ≤ 30)
  ∧ (∀ k, k < V 0 9 → (∃ s d, s < V 0 8 ∧ d < V 0 0 ∧ V 7 k = 14 * s + d) ∧ 1 ≤ V 8 k ∧ V 8 k ≤ 60)
  ∧ V 10 0 ≤ 12 ∧ (∀ a s, a < V 10 0 → s < 6 → V 9 (7 * a + s) < 2 ^ V 0 0 ∧ (V 0 8 ≤ s → V 9 (7 * a + s) = 0))
  ∧ (∀ a, a < V 10 0 → V 9 (7 * a + 6) ≤ V 0 9) ∧ (∀ a b, a ≤ b → b < V 10 0 → V 9 (7 * a + 6) ≤ V 9 (7 * b + 6))
  ∧ V 12 0 ≤ 800 ∧ (∀ i, i < V 12 0 → V 11 i < 256)
theorem aq_le {V : Vw} (h : WF V) {s d : Nat} (hs : s < V 0 8) (hd : d < V 0 0) : aq V s d ≤ 750 := by
  obtain ⟨-, -, -, -, -, -, -, h9, -, -, -, -, -, -, -, h6, h7, -⟩ := h
  have h1 := h6 s d hs hd
  have h2 : sumN (fun k => if V 7 k = 14 * s + d then V 8 k else 0) (V 0 9) ≤ V 0 9 * 60 := sumN_le (fun i hi => by
    have := (h7 i hi).2.2
    show (if V 7 i = 14 * s + d then V 8 i else 0) ≤ 60
    split <;> omega)
  unfold aq
  have h3 : V 0 9 * 60 ≤ 12 * 60 := Nat.mul_le_mul_right _ h9
  omega
/-- the reference's cells that stand for a view -/
def RM (V : Vw) (σ : Sg) : Prop := (∀ i, i < 10 → σ 65 i = nI (V 0 i)) ∧ (∀ s, s < V 0 8 → σ 66 s = nI (V 1 s) ∧ σ 67 s = nI (V 2 s) ∧ σ 68 s = nI (V 3 s) ∧ σ 69 s = nI (V 4 s))
  ∧ (∀ s, s < 6 → σ 78 s = nI (V 5 s))
  ∧ (∀ s, s < V 0 8 → ∃ n, 1 ≤ n ∧ n ≤ 7 ∧ σ 70 s = nI n ∧ ∀ d, d < V 0 0 → σ 71 (7 * s + d % n) = nI (V 6 (14 * s + d)))
  ∧ (∀ k, k < V 0 9 → ∃ s d, s < V 0 8 ∧ d < V 0 0 ∧ V 7 k = 14 * s + d ∧ σ 72 k = nI s ∧ σ 73 k = nI d ∧ σ 74 k = nI (V 8 k))
  ∧ σ 64 39 = nI (V 10 0) ∧ (∀ a s, a < V 10 0 → s < 7 → σ 91 (7 * a + s) = nI (V 9 (7 * a + s)))
  ∧ σ 64 14 = nI (V 12 0) ∧ (∀ i, i < V 12 0 → σ 76 i = nI (V 11 i)) ∧ σ 64 20 = nI (V 13 0) ∧ σ 64 21 = nI (V 13 1) - 1
/-- may a write touch the view -/
def tchM (q : Nat × Option Nat) : Bool := match q with
  | (64, some i) => i == 14 || i == 20 || i == 21 || i == 39
  | (k, _) => k == 64 || k == 65 || k == 66 || k == 67 || k == 68 || k == 69 || k == 70 || k == 71 || k == 72 || k == 73 || k == 74 || k == 76 || k == 78 || k == 91
theorem fr.cell {S : List (Nat × Option Nat)} {σ τ : Sg} (h : fr S σ τ) {k : Nat} (hk : S.all (fun q => q.1 != k) = true) : τ k = σ k := by
  have h1 := List.all_eq_true.mp hk
  funext i
  exact h k i (fun q => by simpa using h1 _ q) (fun q => by simpa using h1 _ q)
theorem RM.off {V : Vw} {σ τ : Sg} (h : RM V σ) {S : List (Nat × Option Nat)} (hf : fr S σ τ) (hS : S.all (fun q => !tchM q) = true) : RM V τ := by
  have hn := List.all_eq_true.mp hS
  have e : ∀ k i, tchM (k, none) = true → tchM (k, some i) = true → τ k i = σ k i := fun k i h1 h2 => hf k i (fun q => by
    have := hn _ q
    rw [h1] at this
    cases this) (fun q => by
    have := hn _ q
    rw [h2] at this
    cases this)
  have c : ∀ k, (∀ i, tchM (k, some i) = true) → tchM (k, none) = true → τ k = σ k := fun k h1 h2 => funext fun i => e k i h2 (h1 i)
  unfold RM at h ⊢
  rw [e 64 39 rfl rfl, e 64 14 rfl rfl, e 64 20 rfl rfl, e 64 21 rfl rfl, c 65 (fun _ => rfl) rfl, c 66 (fun _ => rfl) rfl, c 67 (fun _ => rfl) rfl, c 68 (fun _ => rfl) rfl, c 69 (fun _ => rfl) rfl, c 70 (fun _ => rfl) rfl, c 71 (fun _ => rfl) rfl, c 72 (fun _ => rfl) rfl, c 73 (fun _ => rfl) rfl, c 74 (fun _ => rfl) rfl, c 76 (fun _ => rfl) rfl, c 78 (fun _ => rfl) rfl, c 91 (fun _ => rfl) rfl]
  exact h
