/-! BOTH SIDES TOGETHER -/
def kwL : List Nat := [132915, 4375028, 21582955, 6611108, 435589, 277892, 409204, 631280, 52, 20190598, 20593771, 20099475, 611944]
def AC (V : Vw) (σ : Sg) : Prop := σ 61 0 = nI (V 10 0) ∧ (∀ a s, a < V 10 0 → s < 7 → σ 62 (7 * a + s) = nI (V 9 (7 * a + s)))
def XC (V : Vw) (σ : Sg) : Prop := σ 0 1 = nI (V 12 0) ∧ (∀ i, i < V 12 0 → σ 1 i = nI (V 11 i)) ∧ σ 10 1 = nI (V 13 0) ∧ σ 10 2 = nI (V 13 1) - 1 ∧ (∀ j, j < 13 → σ 19 j = nI (kwL.getD j 0))
/-- the class's cells that stand for a view -/
def CI (V : Vw) (σ : Sg) : Prop := TC V σ ∧ RN V (prV V) 38 (V 5) (aq V) σ ∧ WC V σ ∧ PC V σ ∧ AC V σ ∧ XC V σ
def Inv (V : Vw) (σ : Sg) : Prop := WF V ∧ CI V σ ∧ RA V σ
def InvE (σ : Sg) : Prop := ∃ V, Inv V σ
/-- may a write touch what stands beside the run and the partings -/
def tchC (q : Nat × Option Nat) : Bool := match q with
  | (0, some i) => i == 1
  | (10, some i) => i == 1 || i == 2
  | (25, some i) => i == 3
  | (61, some i) => i == 0
  | (k, _) => decide (k ≤ 10) || k == 19 || k == 25 || k == 27 || k == 28 || k == 61 || k == 62
theorem CI.off {V : Vw} {σ τ : Sg} (h : CI V σ) {S : List (Nat × Option Nat)} (hf : fr S σ τ) (hS : S.all (fun q => !tchC q) = true) (hr : RN V (prV V) 38 (V 5) (aq V) τ) (hp : PC V τ) : CI V τ := by
  have hn := List.all_eq_true.mp hS
  have e : ∀ k i, tchC (k, none) = true → tchC (k, some i) = true → τ k i = σ k i := fun k i h1 h2 => hf k i (fun q => by
    have := hn _ q
    rw [h1] at this
    cases this) (fun q => by
    have := hn _ q
    rw [h2] at this
    cases this)
  have c : ∀ k, (∀ i, tchC (k, some i) = true) → tchC (k, none) = true → τ k = σ k := fun k h1 h2 => funext fun i => e k i h2 (h1 i)
  obtain ⟨h1, h2, h3, h4, h5, h6⟩ := h
  refine ⟨h1.off (fun k k1 k2 => ?_), hr, ?_, hp, ?_, ?_⟩
  · have : k = 2 ∨ k = 3 ∨ k = 4 ∨ k = 5 ∨ k = 6 ∨ k = 7 ∨ k = 8 ∨ k = 9 := by omega
    rcases this with rfl | rfl | rfl | rfl | rfl | rfl | rfl | rfl <;> exact c _ (fun _ => rfl) rfl
  · unfold WC FC
    rw [e 25 3 rfl rfl, c 27 (fun _ => rfl) rfl, c 28 (fun _ => rfl) rfl]
    exact h3
  · unfold AC
    rw [e 61 0 rfl rfl, c 62 (fun _ => rfl) rfl]
    exact h5
  · unfold XC
    rw [e 0 1 rfl rfl, c 1 (fun _ => rfl) rfl, e 10 1 rfl rfl, e 10 2 rfl rfl, c 19 (fun _ => rfl) rfl]
    exact h6
theorem RN.frm {V : Vw} {pr : (Nat → Int32) → Int32} {k : Nat} {vis : Nat → Nat} {ask : Nat → Nat → Nat} {σ τ : Sg} (h : RN V pr k vis ask σ) {S : List (Nat × Option Nat)} (hf : fr S σ τ) (hS : S.all (fun q => decide (q.1 < k) || decide (k + 6 < q.1)) = true) : RN V pr k vis ask τ := by
  have hn := List.all_eq_true.mp hS
  have c : ∀ j, j ≤ 6 → τ (k + j) = σ (k + j) := fun j hj => hf.cell (List.all_eq_true.mpr (fun x hx => by
    have := hn x hx
    rw [Bool.or_eq_true, decide_eq_true_eq, decide_eq_true_eq] at this
    simp
    omega))
  have c0 : τ k = σ k := c 0 (by omega)
  exact h.off (by rw [c0]) (by rw [c0]) (c 1 (by omega)) (c 2 (by omega)) (c 3 (by omega)) (c 4 (by omega)) (c 5 (by omega)) (c 6 (by omega))
/-- a write of the reference's leaves the class -/
theorem CI.far {V : Vw} {σ τ : Sg} (h : CI V σ) {S : List (Nat × Option Nat)} (hf : fr S σ τ) (hS : S.all (fun q => decide (64 ≤ q.1)) = true) : CI V τ := by
  have hn := List.all_eq_true.mp hS
  have lo : ∀ q ∈ S, 64 ≤ q.1 := fun q hq => by simpa using hn q hq
  refine h.off hf (List.all_eq_true.mpr (fun q hq => ?_)) (h.2.1.frm hf (List.all_eq_true.mpr (fun q hq => ?_))) (h.2.2.2.1.off hf (fun k _ k2 => List.all_eq_true.mpr (fun q hq => ?_)))
  · have := lo q hq
    unfold tchC
    split
    · simp at this
    · simp at this
    · simp at this
    · simp at this
    · simp at this ⊢
      omega
  · have := lo q hq
    simp
    omega
  · have := lo q hq
    simp
    omega
/-- a write of the class's leaves the reference -/
theorem RA.near {V : Vw} {σ τ : Sg} (h : RA V σ) {S : List (Nat × Option Nat)} (hf : fr S σ τ) (hS : S.all (fun q => decide (q.1 < 64)) = true) : RA V τ := by
  have hn := List.all_eq_true.mp hS
  refine h.off hf (List.all_eq_true.mpr (fun q hq => ?_))
  have : q.1 < 64 := by simpa using hn q hq
  obtain ⟨k, o⟩ := q
  cases o with
  | none =>
    simp [tchM] at this ⊢
    omega
  | some i =>
    have h64 : k ≠ 64 := by
      have : k < 64 := this
      omega
    have h2 : tchM (k, some i) = (k == 64 || k == 65 || k == 66 || k == 67 || k == 68 || k == 69 || k == 70 || k == 71 || k == 72 || k == 73 || k == 74 || k == 76 || k == 78 || k == 91) := by
      unfold tchM
      split
      · rename_i heq
        cases heq
        exact absurd rfl h64
      · rename_i heq
        cases heq
        rfl
    rw [h2]
    simp at this ⊢
    omega
theorem Inv.look {V : Vw} {σ τ : Sg} (h : Inv V σ) {S : List (Nat × Option Nat)} (hf : fr S σ τ) (hS : S.all (fun q => decide (64 ≤ q.1)) = true) (hM : S.all (fun q => !tchM q && q.1 != 77) = true) : Inv V τ := ⟨h.1, h.2.1.far hf hS, h.2.2.off hf hM⟩
/-- a call that only looks, of the class's -/
abbrev pureOK (σ : Sg) (X : Option Int32) (Y : Option (Int32 × Sg)) : Prop := ∃ r τ, X = some r ∧ Y = some (r, τ) ∧ InvE τ
abbrev stOK (X : Option (Int32 × Sg)) (Y : Sg → Option (Int32 × Sg)) : Prop := ∃ r σ1 τ, X = some (r, σ1) ∧ Y σ1 = some (r, τ) ∧ InvE τ
theorem op_load {V : Vw} {σ : Sg} (h : Inv V σ) (x y : Int32) : pureOK σ (XX9_load x y σ) (XX10_load x y σ) := by
  obtain ⟨τ, h1, h2⟩ := m_load h.1 h.2.2.1 x y
  exact ⟨_, τ, c_load h.1 h.2.1.1 h.2.1.2.1 x y, h1, V, h.look (frX10_load h1) rfl rfl⟩
theorem op_stock {V : Vw} {σ : Sg} (h : Inv V σ) (x y : Int32) : pureOK σ (XX9_stock x y σ) (XX10_stock x y σ) := by
  obtain ⟨τ, h1, h2⟩ := m_stock h.1 h.2.2.1 x y
  exact ⟨_, τ, c_stock h.1 h.2.1.1 h.2.1.2.1 x y, h1, V, h.look (frX10_stock h1) rfl rfl⟩
theorem op_lost {V : Vw} {σ : Sg} (h : Inv V σ) (x y : Int32) : pureOK σ (XX9_lost x y σ) (XX10_lost x y σ) := by
  obtain ⟨τ, h1, h2⟩ := m_lost h.1 h.2.2.1 x y
  exact ⟨_, τ, c_lost h.1 h.2.1.1 h.2.1.2.1 x y, h1, V, h.look (frX10_lost h1) rfl rfl⟩
theorem op_of {V : Vw} {σ : Sg} (h : Inv V σ) (x y : Int32) : pureOK σ (XX9_of x y σ) (XX10_of x y σ) := by
  obtain ⟨τ, h1, h2⟩ := m_of h.1 h.2.2.1 x y
  exact ⟨_, τ, c_of h.1 h.2.1.1 h.2.1.2.1 x y, h1, V, h.look (frX10_of h1) rfl rfl⟩
theorem op_empty {V : Vw} {σ : Sg} (h : Inv V σ) (x : Int32) : pureOK σ (XX9_empty x σ) (XX10_empty x σ) := by
  obtain ⟨τ, h1, h2⟩ := m_empty h.1 h.2.2.1 x
  exact ⟨_, τ, c_empty h.1 h.2.1.1 h.2.1.2.1 x, h1, V, h.look (frX10_empty h1) rfl rfl⟩
theorem op_fault {V : Vw} {σ : Sg} (h : Inv V σ) (x : Int32) : pureOK σ (XX9_fault x σ) (XX10_fault x σ) := by
  have hx := h.2.1.2.2.2.2.2
  have hr1 : RM V (up σ 64 0 0) := h.2.2.1.th
  have key : ∃ r τ, XX9_fault x σ = some r ∧ XX10_fault x σ = some (r, τ) := by
    unfold XX9_fault XX10_fault
    rw [lt_def, hx.2.2.1, hx.2.2.2.1, hr1.2.2.2.2.2.2.2.2.2.1, hr1.2.2.2.2.2.2.2.2.2.2]
    by_cases q : x = 0
    · rw [if_pos q, if_pos q]
      exact ⟨_, _, rfl, rfl⟩
    · rw [if_neg q, if_neg q]
      by_cases q1 : x = 1
      · rw [if_pos q1, if_pos q1]
        exact ⟨_, _, rfl, rfl⟩
      · rw [if_neg q1, if_neg q1]
        exact ⟨_, _, rfl, rfl⟩
  obtain ⟨r, τ, h1, h2⟩ := key
  exact ⟨r, τ, h1, h2, V, h.look (frX10_fault h2) rfl rfl⟩
theorem num_at {V : Vw} {σ : Sg} (h : RM V σ) {i : Nat} (hi : i < 10) : XX10_number (nI i) σ = some (nI (V 0 i)) := by
  unfold XX10_number
  rw [if_pos ((ib_nI (by omega)).mpr (by omega)), nI_cl (by omega), h.1 i hi]
theorem both_if {c : Prop} [Decidable c] {a a' : Option Int32} {b b' : Option (Int32 × Sg)} (h1 : c → ∃ r τ, a = some r ∧ b = some (r, τ)) (h2 : ¬ c → ∃ r τ, a' = some r ∧ b' = some (r, τ)) : ∃ r τ, (if c then a else a') = some r ∧ (if c then b else b') = some (r, τ) := by
  by_cases q : c
  · rw [if_pos q, if_pos q]
    exact h1 q
  · rw [if_neg q, if_neg q]
    exact h2 q
theorem op_about {V : Vw} {σ : Sg} (h : Inv V σ) (x : Int32) : pureOK σ (XX9_about x σ) (XX10_about x σ) := by
  obtain ⟨hw, ⟨ht, -, -, -, ha, hx⟩, hr⟩ := id h
  have hr1 : RM V (up σ 64 0 0) := hr.1.th
  have n : ∀ i : Nat, i < 10 → XX10_number (nI i) (up σ 64 0 0) = some (nI (V 0 i)) := fun i hi => num_at hr1 hi
  obtain ⟨t0, t1, t2, t3, t4, t5, t6, t7, -, tx, ty, -⟩ := ht
  have key : ∃ r τ, XX9_about x σ = some r ∧ XX10_about x σ = some (r, τ) := by
    unfold XX9_about XX10_about
    rw [lt_def, t0, t1, t2, t3, t4, t5, t6, t7, tx, ty, ha.1, hx.1, hr1.2.2.2.2.2.1, hr1.2.2.2.2.2.2.2.1]
    have e3 := n 3 (by omega)
    have e4 := n 4 (by omega)
    have e5 := n 5 (by omega)
    have e6 := n 6 (by omega)
    have e7 := n 7 (by omega)
    have e9 := n 9 (by omega)
    have e1 := n 1 (by omega)
    have e2 := n 2 (by omega)
    rw [← nI_lit] at e1 e2 e3 e4 e5 e6 e7 e9
    rw [e1, e2, e3, e4, e5, e6, e7, e9, hw.dx, hw.dy]
    simp only [XX10_shops, XX10_days, b1]
    rw [hr1.1 8 (by omega), hr1.1 0 (by omega)]
    refine both_if (fun _ => ⟨_, _, rfl, rfl⟩) (fun _ => ?_)
    refine both_if (fun _ => ⟨_, _, rfl, rfl⟩) (fun _ => ?_)
    refine both_if (fun _ => ⟨_, _, rfl, rfl⟩) (fun _ => ?_)
    refine both_if (fun _ => ⟨_, _, rfl, rfl⟩) (fun _ => ?_)
    refine both_if (fun _ => ⟨_, _, rfl, rfl⟩) (fun _ => ?_)
    refine both_if (fun _ => ⟨_, _, rfl, rfl⟩) (fun _ => ?_)
    refine both_if (fun _ => ⟨_, _, rfl, rfl⟩) (fun _ => ?_)
    refine both_if (fun _ => ⟨_, _, rfl, rfl⟩) (fun _ => ?_)
    refine both_if (fun _ => ⟨_, _, rfl, rfl⟩) (fun _ => ?_)
    refine both_if (fun _ => ⟨_, _, rfl, rfl⟩) (fun _ => ?_)
    refine both_if (fun _ => ⟨_, _, rfl, rfl⟩) (fun _ => ?_)
    refine both_if (fun _ => ⟨_, _, rfl, rfl⟩) (fun _ => ?_)
    exact ⟨_, _, rfl, rfl⟩
  obtain ⟨r, τ, h1, h2⟩ := key
  exact ⟨r, τ, h1, h2, V, h.look (frX10_about h2) rfl rfl⟩
