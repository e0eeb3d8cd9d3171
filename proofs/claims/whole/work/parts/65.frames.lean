/-! FRAMES: which cells a function may change -/
def fr (S : List (Nat × Option Nat)) (σ τ : Sg) : Prop := ∀ k i, (k, none) ∉ S → (k, some i) ∉ S → τ k i = σ k i
theorem fr.rf {S : List (Nat × Option Nat)} {σ : Sg} : fr S σ σ := fun _ _ _ _ => rfl
theorem fr.tr {S : List (Nat × Option Nat)} {σ τ ρ : Sg} (h1 : fr S σ τ) (h2 : fr S τ ρ) : fr S σ ρ := fun k i hk hi => (h2 k i hk hi).trans (h1 k i hk hi)
theorem fr.mono {S S' : List (Nat × Option Nat)} {σ τ : Sg} (h : fr S σ τ) (hs : ∀ x ∈ S, x ∈ S') : fr S' σ τ := fun k i hk hi => h k i (fun q => hk (hs _ q)) (fun q => hi (hs _ q))
theorem lt_ex {α ρ : Type} {e : α} {f : α → Option ρ} {r : ρ} (h : lt e f = some r) : ∃ x, f x = some r := ⟨_, h⟩
theorem fr_up {σ : Sg} {a i : Nat} {v : Int32} : fr [(a, none)] σ (up σ a i v) := fun k j hk _ => by
  unfold up
  rw [if_neg (fun q => hk (by rw [q]; exact List.mem_cons_self))]
theorem fr_upf {σ : Sg} {a i : Nat} {v : Int32} : fr [(a, some i)] σ (up σ a i v) := fun k j _ hj => by
  unfold up
  by_cases hk : k = a
  · rw [if_pos hk, hk]
    unfold upd
    rw [if_neg (fun q => hj (by rw [q, hk]; exact List.mem_cons_self))]
  · rw [if_neg hk]
theorem lt_up {ρ : Type} {σ : Sg} {a i : Nat} {v : Int32} {f : Sg → Option ρ} {r : ρ} (h : lt (up σ a i v) f = some r) : ∃ τ, fr [(a, none)] σ τ ∧ f τ = some r := ⟨_, fr_up, h⟩
theorem lt_upf {ρ : Type} {σ : Sg} {a i : Nat} {v : Int32} {f : Sg → Option ρ} {r : ρ} (h : lt (up σ a i v) f = some r) : ∃ τ, fr [(a, some i)] σ τ ∧ f τ = some r := ⟨_, fr_upf, h⟩
theorem lt_cpy {ρ : Type} {σ : Sg} {a b x y z : Nat} {f : Sg → Option ρ} {r : ρ} (h : lt (cpy σ a b x y z) f = some r) : ∃ τ, fr [(b, none)] σ τ ∧ f τ = some r := ⟨_, fun k j hk _ => by
  unfold cpy setc
  rw [if_neg (fun q => hk (by rw [q]; exact List.mem_cons_self))], h⟩
theorem it_or {α : Type} {c : Prop} [Decidable c] {a b r : α} (h : (if c then a else b) = r) : (c ∧ a = r) ∨ (¬ c ∧ b = r) := by
  by_cases hc : c
  · exact Or.inl ⟨hc, it hc h⟩
  · exact Or.inr ⟨hc, ie hc h⟩
theorem ie_or {α : Type} {c : Prop} [Decidable c] {a b r : α} (h : (if c then a else b) = r) : (¬ c ∧ b = r) ∨ (c ∧ a = r) := (it_or h).symm
theorem frX0_forget {σ : Sg} {rr : Sg} (h : XX0_forget σ = some rr) : fr [(61, some 0)] σ rr := by
  have C := trivial
  have R := trivial
  have F : fr [(61, some 0)] σ σ := fr.rf
  rw [XX0_forget] at h
  obtain ⟨σ_1, f1, h⟩ := lt_upf h
  replace F := F.tr (f1.mono (by simp))
  cases h
  exact F
theorem frX0_keep {p1 : Int32} {σ : Sg} {rr : Sg} (h : XX0_keep p1 σ = some rr) : fr [(61, some 0), (62, none)] σ rr := by
  have C := trivial
  have R := trivial
  have F : fr [(61, some 0), (62, none)] σ σ := fr.rf
  rw [XX0_keep] at h
  refine jn (fun (kk : Sg → Option Sg) => ∀ (σ_1 : Sg), kk σ_1 = some rr → fr [(61, some 0), (62, none)] σ_1 rr) h ?_ (fun k35_2 hk35_2 h => ?_)
  · intro σ_1 h
    have F : fr [(61, some 0), (62, none)] σ_1 σ_1 := fr.rf
    obtain ⟨hg_4, h⟩ := gd h
    obtain ⟨σ_3, f1, h⟩ := lt_cpy h
    replace F := F.tr (f1.mono (by simp))
    obtain ⟨hb_6, h⟩ := gd h
    obtain ⟨σ_5, f1, h⟩ := lt_up h
    replace F := F.tr (f1.mono (by simp))
    obtain ⟨σ_7, f1, h⟩ := lt_upf h
    replace F := F.tr (f1.mono (by simp))
    cases h
    exact F
  rcases ie_or h with ⟨hc, h⟩ | ⟨hc, h⟩
  · skip
    exact F.tr (hk35_2 _ h)
  · skip
    obtain ⟨σ_8, f1, h⟩ := lt_cpy h
    replace F := F.tr (f1.mono (by simp))
    obtain ⟨σ_9, f1, h⟩ := lt_upf h
    replace F := F.tr (f1.mono (by simp))
    exact F.tr (hk35_2 _ h)
theorem frX0_takeBack {σ : Sg} {rr : (Int32 × Sg)} (h : XX0_takeBack σ = some rr) : fr [(61, some 0)] σ rr.2 := by
  have C := trivial
  have R := trivial
  have F : fr [(61, some 0)] σ σ := fr.rf
  rw [XX0_takeBack] at h
  rcases ie_or h with ⟨hc, h⟩ | ⟨hc, h⟩
  · skip
    obtain ⟨σ_1, f1, h⟩ := lt_upf h
    replace F := F.tr (f1.mono (by simp))
    cases h
    exact F
  · skip
    cases h
    exact F
theorem flJ7_fill_53178_5 {rr : Sg} {a : Nat} {n0 : Nat} {p1 : Int32} {x3_1 : Int32}  (C : True) (R : True)  : ∀ (n : Nat) (x2_2 : Int32) (σ_3 : Sg), LJ7_fill_53178_5 a n0 p1 x3_1 n x2_2 σ_3 = some rr → fr [(a, none)] σ_3 rr := by
  intro n
  induction n with
  | zero =>
    intro x2_2 σ_3 h
    rw [LJ7_fill_53178_5] at h
    cases h
  | succ n ih =>
    intro x2_2 σ_3 h
    rw [LJ7_fill_53178_5] at h
    have F : fr [(a, none)] σ_3 σ_3 := fr.rf
    rcases it_or h with ⟨hc, h⟩ | ⟨hc, h⟩
    · skip
      cases h
      exact F
    · skip
      obtain ⟨hb_5, h⟩ := gd h
      obtain ⟨σ_4, f1, h⟩ := lt_up h
      replace F := F.tr (f1.mono (by simp))
      obtain ⟨x2_6, h⟩ := lt_ex h
      exact F.tr (ih _ _ h)
theorem frJ7_fill_53178 {a : Nat} {n0 : Nat} {p1 : Int32} {σ : Sg} {rr : Sg} (h : XJ7_fill_53178 a n0 p1 σ = some rr) : fr [(a, none)] σ rr := by
  have C := trivial
  have R := trivial
  have F : fr [(a, none)] σ σ := fr.rf
  rw [XJ7_fill_53178] at h
  obtain ⟨x3_1, h⟩ := lt_ex h
  exact F.tr (flJ7_fill_53178_5  C R  _ _ _ h)
theorem flX2_gather_9 {rr : (Int32 × Sg)} {a : Nat}  (C : True) (R : True)  : ∀ (n : Nat) (x2_2 : Int32) (x3_3 : Int32) (σ_4 : Sg), LX2_gather_9 a n x2_2 x3_3 σ_4 = some rr → fr [(29, some 6), (31, none)] σ_4 rr.2 := by
  intro n
  induction n with
  | zero =>
    intro x2_2 x3_3 σ_4 h
    rw [LX2_gather_9] at h
    cases h
  | succ n ih =>
    intro x2_2 x3_3 σ_4 h
    rw [LX2_gather_9] at h
    have F : fr [(29, some 6), (31, none)] σ_4 σ_4 := fr.rf
    rcases it_or h with ⟨hc, h⟩ | ⟨hc, h⟩
    · skip
      cases h
      exact F
    · skip
      obtain ⟨hb_5, h⟩ := gd h
      refine jn (fun (kk : Int32 → Option (Int32 × Sg)) => ∀ (s_6 : Int32), kk s_6 = some rr → fr [(29, some 6), (31, none)] σ_4 rr.2) h ?_ (fun k38_7 hk38_7 h => ?_)
      · intro s_6 h
        have F : fr [(29, some 6), (31, none)] σ_4 σ_4 := fr.rf
        obtain ⟨σ_8, f1, h⟩ := lt_upf h
        replace F := F.tr (f1.mono (by simp))
        obtain ⟨hb_10, h⟩ := gd h
        obtain ⟨σ_9, f1, h⟩ := lt_up h
        replace F := F.tr (f1.mono (by simp))
        obtain ⟨x2_11, h⟩ := lt_ex h
        obtain ⟨x3_12, h⟩ := lt_ex h
        exact F.tr (ih _ _ _ h)
      rcases it_or h with ⟨hc, h⟩ | ⟨hc, h⟩
      · skip
        exact F.tr (hk38_7 _ h)
      · skip
        exact F.tr (hk38_7 _ h)
theorem frX2_gather {a : Nat} {σ : Sg} {rr : (Int32 × Sg)} (h : XX2_gather a σ = some rr) : fr [(29, some 6), (31, none)] σ rr.2 := by
  have C := trivial
  have R := trivial
  have F : fr [(29, some 6), (31, none)] σ σ := fr.rf
  rw [XX2_gather] at h
  obtain ⟨σ_1, f1, h⟩ := lt_upf h
  replace F := F.tr (f1.mono (by simp))
  exact F.tr (flX2_gather_9  C R  _ _ _ _ h)
theorem flX2_partSet_104 {rr : Sg} {p1 : Int32} {p2 : Int32} {x3_1 : Int32} {x4_2 : Int32}  (C : True) (R : True)  : ∀ (n : Nat) (x6_14 : Int32) (σ_15 : Sg), LX2_partSet_104 p1 p2 x3_1 x4_2 n x6_14 σ_15 = some rr → fr [(31, none), (32, none), (33, none), (34, none)] σ_15 rr := by
  intro n
  induction n with
  | zero =>
    intro x6_14 σ_15 h
    rw [LX2_partSet_104] at h
    cases h
  | succ n ih =>
    intro x6_14 σ_15 h
    rw [LX2_partSet_104] at h
    have F : fr [(31, none), (32, none), (33, none), (34, none)] σ_15 σ_15 := fr.rf
    rcases it_or h with ⟨hc, h⟩ | ⟨hc, h⟩
    · skip
      cases h
      exact F
    · skip
      obtain ⟨x6_16, h⟩ := lt_ex h
      obtain ⟨x7_17, h⟩ := lt_ex h
      obtain ⟨x8_18, h⟩ := lt_ex h
      obtain ⟨hb_19, h⟩ := gd h
      rcases it_or h with ⟨hc, h⟩ | ⟨hc, h⟩
      · skip
        obtain ⟨hb_20, h⟩ := gd h
        obtain ⟨x9_21, h⟩ := lt_ex h
        obtain ⟨hb_22, h⟩ := gd h
        refine jn (fun (kk : Option Sg) => kk = some rr → fr [(31, none), (32, none), (33, none), (34, none)] σ_15 rr) h ?_ (fun k201_23 hk201_23 h => ?_)
        · intro h
          have F : fr [(31, none), (32, none), (33, none), (34, none)] σ_15 σ_15 := fr.rf
          obtain ⟨σ_24, f1, h⟩ := lt_up h
          replace F := F.tr (f1.mono (by simp))
          obtain ⟨σ_25, f1, h⟩ := lt_up h
          replace F := F.tr (f1.mono (by simp))
          obtain ⟨σ_26, f1, h⟩ := lt_up h
          replace F := F.tr (f1.mono (by simp))
          exact F.tr (ih _ _ h)
        rcases it_or h with ⟨hc, h⟩ | ⟨hc, h⟩
        · skip
          exact F.tr (hk201_23 h)
        · skip
          rcases ie_or h with ⟨hc, h⟩ | ⟨hc, h⟩
          · skip
            exact F.tr (ih _ _ h)
          · skip
            rcases it_or h with ⟨hc, h⟩ | ⟨hc, h⟩
            · skip
              exact F.tr (ih _ _ h)
            · skip
              exact F.tr (hk201_23 h)
      · skip
        exact F.tr (ih _ _ h)
theorem frX2_partSet {p1 : Int32} {p2 : Int32} {σ : Sg} {rr : Sg} (h : XX2_partSet p1 p2 σ = some rr) : fr [(31, none), (32, none), (33, none), (34, none)] σ rr := by
  have C := trivial
  have R := trivial
  have F : fr [(31, none), (32, none), (33, none), (34, none)] σ σ := fr.rf
  rw [XX2_partSet] at h
  rcases it_or h with ⟨hc, h⟩ | ⟨hc, h⟩
  · skip
    obtain ⟨x3_1, h⟩ := lt_ex h
    obtain ⟨x4_2, h⟩ := lt_ex h
    obtain ⟨hb_3, h⟩ := gd h
    obtain ⟨hb_4, h⟩ := gd h
    obtain ⟨hb_6, h⟩ := gd h
    obtain ⟨σ_5, f1, h⟩ := lt_up h
    replace F := F.tr (f1.mono (by simp))
    obtain ⟨σ_7, f1, h⟩ := lt_up h
    replace F := F.tr (f1.mono (by simp))
    obtain ⟨σ_8, f1, h⟩ := lt_up h
    replace F := F.tr (f1.mono (by simp))
    refine jn (fun (kk : Int32 → Option Sg) => ∀ (s_9 : Int32), kk s_9 = some rr → fr [(31, none), (32, none), (33, none), (34, none)] σ_8 rr) h ?_ (fun k70_10 hk70_10 h => ?_)
    · intro s_9 h
      have F : fr [(31, none), (32, none), (33, none), (34, none)] σ_8 σ_8 := fr.rf
      refine jn (fun (kk : Int32 → Option Sg) => ∀ (s_11 : Int32), kk s_11 = some rr → fr [(31, none), (32, none), (33, none), (34, none)] σ_8 rr) h ?_ (fun k93_12 hk93_12 h => ?_)
      · intro s_11 h
        have F : fr [(31, none), (32, none), (33, none), (34, none)] σ_8 σ_8 := fr.rf
        obtain ⟨σ_13, f1, h⟩ := lt_up h
        replace F := F.tr (f1.mono (by simp))
        rcases it_or h with ⟨hc, h⟩ | ⟨hc, h⟩
        · skip
          exact F.tr (flX2_partSet_104  C R  _ _ _ h)
        · skip
          cases h
          exact F
      rcases it_or h with ⟨hc, h⟩ | ⟨hc, h⟩
      · skip
        exact F.tr (hk93_12 _ h)
      · skip
        exact F.tr (hk93_12 _ h)
    rcases it_or h with ⟨hc, h⟩ | ⟨hc, h⟩
    · skip
      exact F.tr (hk70_10 _ h)
    · skip
      exact F.tr (hk70_10 _ h)
  · skip
    cases h
    exact F
theorem flX2_priceOf_35 {rr : (Int32 × Sg)} {p1 : Int32} {k57_4 : Sg → Option (Int32 × Sg)}  (C : True) (R : True) (hk57_4 : ∀ (σ_3 : Sg), k57_4 σ_3 = some rr → fr [(29, some 6), (31, none), (32, none), (33, none), (34, none)] σ_3 rr.2) : ∀ (n : Nat) (x4_6 : Int32) (σ_7 : Sg), LX2_priceOf_35 p1 k57_4 n x4_6 σ_7 = some rr → fr [(29, some 6), (31, none), (32, none), (33, none), (34, none)] σ_7 rr.2 := by
  intro n
  induction n with
  | zero =>
    intro x4_6 σ_7 h
    rw [LX2_priceOf_35] at h
    cases h
  | succ n ih =>
    intro x4_6 σ_7 h
    rw [LX2_priceOf_35] at h
    have F : fr [(29, some 6), (31, none), (32, none), (33, none), (34, none)] σ_7 σ_7 := fr.rf
    rcases it_or h with ⟨hc, h⟩ | ⟨hc, h⟩
    · skip
      exact F.tr (hk57_4 _ h)
    · skip
      obtain ⟨σ_8, hq, h⟩ := b1_e h
      replace F := F.tr ((frX2_partSet hq).mono (by simp))
      obtain ⟨x4_9, h⟩ := lt_ex h
      exact F.tr (ih _ _ h)
theorem frX2_priceOf {a : Nat} {p1 : Int32} {σ : Sg} {rr : (Int32 × Sg)} (h : XX2_priceOf a p1 σ = some rr) : fr [(29, some 6), (31, none), (32, none), (33, none), (34, none)] σ rr.2 := by
  have C := trivial
  have R := trivial
  have F : fr [(29, some 6), (31, none), (32, none), (33, none), (34, none)] σ σ := fr.rf
  rw [XX2_priceOf] at h
  obtain ⟨r_1, σ_2, hq, h⟩ := b2_e h
  replace F := F.tr ((frX2_gather hq).mono (by simp))
  rcases it_or h with ⟨hc, h⟩ | ⟨hc, h⟩
  · skip
    refine jn (fun (kk : Sg → Option (Int32 × Sg)) => ∀ (σ_3 : Sg), kk σ_3 = some rr → fr [(29, some 6), (31, none), (32, none), (33, none), (34, none)] σ_3 rr.2) h ?_ (fun k57_4 hk57_4 h => ?_)
    · intro σ_3 h
      have F : fr [(29, some 6), (31, none), (32, none), (33, none), (34, none)] σ_3 σ_3 := fr.rf
      obtain ⟨hb_5, h⟩ := gd h
      cases h
      exact F
    exact F.tr (flX2_priceOf_35  C R hk57_4 _ _ _ h)
  · skip
    rcases ie_or h with ⟨hc, h⟩ | ⟨hc, h⟩
    · skip
      obtain ⟨hb_10, h⟩ := gd h
      cases h
      exact F
    · skip
      cases h
      exact F
theorem flX1_visitPrice_2 {rr : (Int32 × Sg)} {p1 : Int32} {k54_2 : Sg → Option (Int32 × Sg)}  (C : True) (R : True) (hk54_2 : ∀ (σ_1 : Sg), k54_2 σ_1 = some rr → fr [(29, some 6), (31, none), (32, none), (33, none), (34, none), (60, none)] σ_1 rr.2) : ∀ (n : Nat) (x2_5 : Int32) (σ_6 : Sg), LX1_visitPrice_2 p1 k54_2 n x2_5 σ_6 = some rr → fr [(29, some 6), (31, none), (32, none), (33, none), (34, none), (60, none)] σ_6 rr.2 := by
  intro n
  induction n with
  | zero =>
    intro x2_5 σ_6 h
    rw [LX1_visitPrice_2] at h
    cases h
  | succ n ih =>
    intro x2_5 σ_6 h
    rw [LX1_visitPrice_2] at h
    have F : fr [(29, some 6), (31, none), (32, none), (33, none), (34, none), (60, none)] σ_6 σ_6 := fr.rf
    rcases it_or h with ⟨hc, h⟩ | ⟨hc, h⟩
    · skip
      exact F.tr (hk54_2 _ h)
    · skip
      refine jn (fun (kk : Int32 → Option (Int32 × Sg)) => ∀ (s_7 : Int32), kk s_7 = some rr → fr [(29, some 6), (31, none), (32, none), (33, none), (34, none), (60, none)] σ_6 rr.2) h ?_ (fun k47_8 hk47_8 h => ?_)
      · intro s_7 h
        have F : fr [(29, some 6), (31, none), (32, none), (33, none), (34, none), (60, none)] σ_6 σ_6 := fr.rf
        obtain ⟨hb_10, h⟩ := gd h
        obtain ⟨σ_9, f1, h⟩ := lt_up h
        replace F := F.tr (f1.mono (by simp))
        obtain ⟨x2_11, h⟩ := lt_ex h
        exact F.tr (ih _ _ h)
      rcases ie_or h with ⟨hc, h⟩ | ⟨hc, h⟩
      · skip
        exact F.tr (hk47_8 _ h)
      · skip
        obtain ⟨hb_12, h⟩ := gd h
        exact F.tr (hk47_8 _ h)
theorem frX1_visitPrice {p1 : Int32} {σ : Sg} {rr : (Int32 × Sg)} (h : XX1_visitPrice p1 σ = some rr) : fr [(29, some 6), (31, none), (32, none), (33, none), (34, none), (60, none)] σ rr.2 := by
  have C := trivial
  have R := trivial
  have F : fr [(29, some 6), (31, none), (32, none), (33, none), (34, none), (60, none)] σ σ := fr.rf
  rw [XX1_visitPrice] at h
  refine jn (fun (kk : Sg → Option (Int32 × Sg)) => ∀ (σ_1 : Sg), kk σ_1 = some rr → fr [(29, some 6), (31, none), (32, none), (33, none), (34, none), (60, none)] σ_1 rr.2) h ?_ (fun k54_2 hk54_2 h => ?_)
  · intro σ_1 h
    have F : fr [(29, some 6), (31, none), (32, none), (33, none), (34, none), (60, none)] σ_1 σ_1 := fr.rf
    obtain ⟨r_3, σ_4, hq, h⟩ := b2_e h
    replace F := F.tr ((frX2_priceOf hq).mono (by simp))
    cases h
    exact F
  exact F.tr (flX1_visitPrice_2  C R hk54_2 _ _ _ h)
theorem frX1_offer {p1 : Int32} {p2 : Int32} {p3 : Int32} {p4 : Int32} {σ : Sg} {rr : Sg} (h : XX1_offer p1 p2 p3 p4 σ = some rr) : fr [(56, none), (57, none), (58, none)] σ rr := by
  have C := trivial
  have R := trivial
  have F : fr [(56, none), (57, none), (58, none)] σ σ := fr.rf
  rw [XX1_offer] at h
  obtain ⟨hb_1, h⟩ := gd h
  obtain ⟨r_2, hq, h⟩ := b1_e h
  obtain ⟨x5_3, h⟩ := lt_ex h
  obtain ⟨x6_4, h⟩ := lt_ex h
  obtain ⟨hb_5, h⟩ := gd h
  refine jn (fun (kk : Int32 → Option Sg) => ∀ (s_6 : Int32), kk s_6 = some rr → fr [(56, none), (57, none), (58, none)] σ rr) h ?_ (fun k83_7 hk83_7 h => ?_)
  · intro s_6 h
    have F : fr [(56, none), (57, none), (58, none)] σ σ := fr.rf
    rcases it_or h with ⟨hc, h⟩ | ⟨hc, h⟩
    · skip
      cases h
      exact F
    · skip
      obtain ⟨σ_8, f1, h⟩ := lt_up h
      replace F := F.tr (f1.mono (by simp))
      obtain ⟨σ_9, f1, h⟩ := lt_up h
      replace F := F.tr (f1.mono (by simp))
      obtain ⟨σ_10, f1, h⟩ := lt_up h
      replace F := F.tr (f1.mono (by simp))
      cases h
      exact F
  refine jn (fun (kk : Option Sg) => kk = some rr → fr [(56, none), (57, none), (58, none)] σ rr) h ?_ (fun k78_11 hk78_11 h => ?_)
  · intro h
    have F : fr [(56, none), (57, none), (58, none)] σ σ := fr.rf
    exact F.tr (hk83_7 _ h)
  rcases it_or h with ⟨hc, h⟩ | ⟨hc, h⟩
  · skip
    exact F.tr (hk78_11 h)
  · skip
    refine jn (fun (kk : Option Sg) => kk = some rr → fr [(56, none), (57, none), (58, none)] σ rr) h ?_ (fun k82_12 hk82_12 h => ?_)
    · intro h
      have F : fr [(56, none), (57, none), (58, none)] σ σ := fr.rf
      exact F.tr (hk83_7 _ h)
    rcases ie_or h with ⟨hc, h⟩ | ⟨hc, h⟩
    · skip
      exact F.tr (hk82_12 h)
    · skip
      rcases it_or h with ⟨hc, h⟩ | ⟨hc, h⟩
      · skip
        exact F.tr (hk78_11 h)
      · skip
        rcases ie_or h with ⟨hc, h⟩ | ⟨hc, h⟩
        · skip
          exact F.tr (hk82_12 h)
        · skip
          rcases it_or h with ⟨hc, h⟩ | ⟨hc, h⟩
          · skip
            exact F.tr (hk82_12 h)
          · skip
            exact F.tr (hk78_11 h)
theorem flX1_sellDay_5 {rr : (Int32 × Sg)} {p1 : Int32} {p2 : Int32}  (C : True) (R : True)  : ∀ (n : Nat) (x3_1 : Int32) (x4_2 : Int32) (σ_3 : Sg), LX1_sellDay_5 p1 p2 n x3_1 x4_2 σ_3 = some rr → fr [(59, none)] σ_3 rr.2 := by
  intro n
  induction n with
  | zero =>
    intro x3_1 x4_2 σ_3 h
    rw [LX1_sellDay_5] at h
    cases h
  | succ n ih =>
    intro x3_1 x4_2 σ_3 h
    rw [LX1_sellDay_5] at h
    have F : fr [(59, none)] σ_3 σ_3 := fr.rf
    rcases it_or h with ⟨hc, h⟩ | ⟨hc, h⟩
    · skip
      cases h
      exact F
    · skip
      refine jn (fun (kk : Int32 → Sg → Option (Int32 × Sg)) => ∀ (x3_4 : Int32) (σ_5 : Sg), kk x3_4 σ_5 = some rr → fr [(59, none)] σ_5 rr.2) h ?_ (fun k85_6 hk85_6 h => ?_)
      · intro x3_4 σ_5 h
        have F : fr [(59, none)] σ_5 σ_5 := fr.rf
        obtain ⟨x4_7, h⟩ := lt_ex h
        exact F.tr (ih _ _ _ h)
      rcases ie_or h with ⟨hc, h⟩ | ⟨hc, h⟩
      · skip
        exact F.tr (hk85_6 _ _ h)
      · skip
        obtain ⟨hb_8, h⟩ := gd h
        obtain ⟨r_9, hq, h⟩ := b1_e h
        obtain ⟨hb_10, h⟩ := gd h
        obtain ⟨x5_11, h⟩ := lt_ex h
        obtain ⟨σ_12, f1, h⟩ := lt_up h
        replace F := F.tr (f1.mono (by simp))
        obtain ⟨r_13, hq, h⟩ := b1_e h
        obtain ⟨hb_14, h⟩ := gd h
        obtain ⟨x3_15, h⟩ := lt_ex h
        exact F.tr (hk85_6 _ _ h)
theorem frX1_sellDay {p1 : Int32} {p2 : Int32} {σ : Sg} {rr : (Int32 × Sg)} (h : XX1_sellDay p1 p2 σ = some rr) : fr [(59, none)] σ rr.2 := by
  have C := trivial
  have R := trivial
  have F : fr [(59, none)] σ σ := fr.rf
  rw [XX1_sellDay] at h
  exact F.tr (flX1_sellDay_5  C R  _ _ _ _ h)
theorem flX1_goOn_72 {rr : Sg} {p1 : Int32} {p2 : Int32} {p3 : Int32} {k165_8 : Int32 → Sg → Option Sg}  (C : True) (R : True) (hk165_8 : ∀ (x4_6 : Int32) (σ_7 : Sg), k165_8 x4_6 σ_7 = some rr → fr [(29, some 6), (31, none), (32, none), (33, none), (34, none), (56, none), (57, none), (58, none), (59, none), (60, none)] σ_7 rr) : ∀ (n : Nat) (x4_10 : Int32) (x5_11 : Int32) (σ_12 : Sg), LX1_goOn_72 p1 p2 p3 k165_8 n x4_10 x5_11 σ_12 = some rr → fr [(29, some 6), (31, none), (32, none), (33, none), (34, none), (56, none), (57, none), (58, none), (59, none), (60, none)] σ_12 rr := by
  intro n
  induction n with
  | zero =>
    intro x4_10 x5_11 σ_12 h
    rw [LX1_goOn_72] at h
    cases h
  | succ n ih =>
    intro x4_10 x5_11 σ_12 h
    rw [LX1_goOn_72] at h
    have F : fr [(29, some 6), (31, none), (32, none), (33, none), (34, none), (56, none), (57, none), (58, none), (59, none), (60, none)] σ_12 σ_12 := fr.rf
    rcases it_or h with ⟨hc, h⟩ | ⟨hc, h⟩
    · skip
      exact F.tr (hk165_8 _ _ h)
    · skip
      refine jn (fun (kk : Sg → Option Sg) => ∀ (σ_13 : Sg), kk σ_13 = some rr → fr [(29, some 6), (31, none), (32, none), (33, none), (34, none), (56, none), (57, none), (58, none), (59, none), (60, none)] σ_13 rr) h ?_ (fun k111_14 hk111_14 h => ?_)
      · intro σ_13 h
        have F : fr [(29, some 6), (31, none), (32, none), (33, none), (34, none), (56, none), (57, none), (58, none), (59, none), (60, none)] σ_13 σ_13 := fr.rf
        obtain ⟨r_15, σ_16, hq, h⟩ := b2_e h
        replace F := F.tr ((frX1_sellDay hq).mono (by simp))
        refine jn (fun (kk : Option Sg) => kk = some rr → fr [(29, some 6), (31, none), (32, none), (33, none), (34, none), (56, none), (57, none), (58, none), (59, none), (60, none)] σ_16 rr) h ?_ (fun k130_17 hk130_17 h => ?_)
        · intro h
          have F : fr [(29, some 6), (31, none), (32, none), (33, none), (34, none), (56, none), (57, none), (58, none), (59, none), (60, none)] σ_16 σ_16 := fr.rf
          obtain ⟨r_18, hq, h⟩ := b1_e h
          obtain ⟨x4_19, h⟩ := lt_ex h
          obtain ⟨x5_20, h⟩ := lt_ex h
          exact F.tr (ih _ _ _ h)
        rcases it_or h with ⟨hc, h⟩ | ⟨hc, h⟩
        · skip
          exact F.tr (hk130_17 h)
        · skip
          rcases ie_or h with ⟨hc, h⟩ | ⟨hc, h⟩
          · skip
            exact F.tr (hk130_17 h)
          · skip
            cases h
            exact F
      rcases it_or h with ⟨hc, h⟩ | ⟨hc, h⟩
      · skip
        exact F.tr (hk111_14 _ h)
      · skip
        obtain ⟨r_21, σ_22, hq, h⟩ := b2_e h
        replace F := F.tr ((frX1_visitPrice hq).mono (by simp))
        obtain ⟨σ_23, hq, h⟩ := b1_e h
        replace F := F.tr ((frX1_offer hq).mono (by simp))
        exact F.tr (hk111_14 _ h)
theorem flX1_goOn_11 {rr : Sg} {p1 : Int32} {k63_4 : Sg → Option Sg}  (C : True) (R : True) (hk63_4 : ∀ (σ_3 : Sg), k63_4 σ_3 = some rr → fr [(29, some 6), (31, none), (32, none), (33, none), (34, none), (56, none), (57, none), (58, none), (59, none), (60, none)] σ_3 rr) : ∀ (n : Nat) (x5_24 : Int32) (σ_25 : Sg), LX1_goOn_11 p1 k63_4 n x5_24 σ_25 = some rr → fr [(29, some 6), (31, none), (32, none), (33, none), (34, none), (56, none), (57, none), (58, none), (59, none), (60, none)] σ_25 rr := by
  intro n
  induction n with
  | zero =>
    intro x5_24 σ_25 h
    rw [LX1_goOn_11] at h
    cases h
  | succ n ih =>
    intro x5_24 σ_25 h
    rw [LX1_goOn_11] at h
    have F : fr [(29, some 6), (31, none), (32, none), (33, none), (34, none), (56, none), (57, none), (58, none), (59, none), (60, none)] σ_25 σ_25 := fr.rf
    rcases it_or h with ⟨hc, h⟩ | ⟨hc, h⟩
    · skip
      exact F.tr (hk63_4 _ h)
    · skip
      refine jn (fun (kk : Int32 → Option Sg) => ∀ (s_26 : Int32), kk s_26 = some rr → fr [(29, some 6), (31, none), (32, none), (33, none), (34, none), (56, none), (57, none), (58, none), (59, none), (60, none)] σ_25 rr) h ?_ (fun k56_27 hk56_27 h => ?_)
      · intro s_26 h
        have F : fr [(29, some 6), (31, none), (32, none), (33, none), (34, none), (56, none), (57, none), (58, none), (59, none), (60, none)] σ_25 σ_25 := fr.rf
        obtain ⟨hb_29, h⟩ := gd h
        obtain ⟨σ_28, f1, h⟩ := lt_up h
        replace F := F.tr (f1.mono (by simp))
        obtain ⟨x5_30, h⟩ := lt_ex h
        exact F.tr (ih _ _ h)
      rcases ie_or h with ⟨hc, h⟩ | ⟨hc, h⟩
      · skip
        obtain ⟨hb_31, h⟩ := gd h
        exact F.tr (hk56_27 _ h)
      · skip
        obtain ⟨hb_32, h⟩ := gd h
        exact F.tr (hk56_27 _ h)
theorem frX1_goOn {p1 : Int32} {p2 : Int32} {p3 : Int32} {σ : Sg} {rr : Sg} (h : XX1_goOn p1 p2 p3 σ = some rr) : fr [(29, some 6), (31, none), (32, none), (33, none), (34, none), (56, none), (57, none), (58, none), (59, none), (60, none)] σ rr := by
  have C := trivial
  have R := trivial
  have F : fr [(29, some 6), (31, none), (32, none), (33, none), (34, none), (56, none), (57, none), (58, none), (59, none), (60, none)] σ σ := fr.rf
  rw [XX1_goOn] at h
  obtain ⟨hb_1, h⟩ := gd h
  obtain ⟨x4_2, h⟩ := lt_ex h
  refine jn (fun (kk : Sg → Option Sg) => ∀ (σ_3 : Sg), kk σ_3 = some rr → fr [(29, some 6), (31, none), (32, none), (33, none), (34, none), (56, none), (57, none), (58, none), (59, none), (60, none)] σ_3 rr) h ?_ (fun k63_4 hk63_4 h => ?_)
  · intro σ_3 h
    have F : fr [(29, some 6), (31, none), (32, none), (33, none), (34, none), (56, none), (57, none), (58, none), (59, none), (60, none)] σ_3 σ_3 := fr.rf
    obtain ⟨x5_5, h⟩ := lt_ex h
    refine jn (fun (kk : Int32 → Sg → Option Sg) => ∀ (x4_6 : Int32) (σ_7 : Sg), kk x4_6 σ_7 = some rr → fr [(29, some 6), (31, none), (32, none), (33, none), (34, none), (56, none), (57, none), (58, none), (59, none), (60, none)] σ_7 rr) h ?_ (fun k165_8 hk165_8 h => ?_)
    · intro x4_6 σ_7 h
      have F : fr [(29, some 6), (31, none), (32, none), (33, none), (34, none), (56, none), (57, none), (58, none), (59, none), (60, none)] σ_7 σ_7 := fr.rf
      obtain ⟨σ_9, hq, h⟩ := b1_e h
      replace F := F.tr ((frX1_offer hq).mono (by simp))
      cases h
      exact F
    exact F.tr (flX1_goOn_72  C R hk165_8 _ _ _ _ h)
  exact F.tr (flX1_goOn_11  C R hk63_4 _ _ _ h)
theorem flX1_findDays_40 {rr : (Int32 × Sg)} {p1 : Int32} {p2 : Int32} {k75_7 : Sg → Option (Int32 × Sg)}  (C : True) (R : True) (hk75_7 : ∀ (σ_6 : Sg), k75_7 σ_6 = some rr → fr [(29, some 6), (31, none), (32, none), (33, none), (34, none), (56, none), (57, none), (58, none), (59, none), (60, none)] σ_6 rr.2) : ∀ (n : Nat) (x3_9 : Int32) (σ_10 : Sg), LX1_findDays_40 p1 p2 k75_7 n x3_9 σ_10 = some rr → fr [(29, some 6), (31, none), (32, none), (33, none), (34, none), (56, none), (57, none), (58, none), (59, none), (60, none)] σ_10 rr.2 := by
  intro n
  induction n with
  | zero =>
    intro x3_9 σ_10 h
    rw [LX1_findDays_40] at h
    cases h
  | succ n ih =>
    intro x3_9 σ_10 h
    rw [LX1_findDays_40] at h
    have F : fr [(29, some 6), (31, none), (32, none), (33, none), (34, none), (56, none), (57, none), (58, none), (59, none), (60, none)] σ_10 σ_10 := fr.rf
    rcases it_or h with ⟨hc, h⟩ | ⟨hc, h⟩
    · skip
      exact F.tr (hk75_7 _ h)
    · skip
      obtain ⟨hb_11, h⟩ := gd h
      refine jn (fun (kk : Sg → Option (Int32 × Sg)) => ∀ (σ_12 : Sg), kk σ_12 = some rr → fr [(29, some 6), (31, none), (32, none), (33, none), (34, none), (56, none), (57, none), (58, none), (59, none), (60, none)] σ_12 rr.2) h ?_ (fun k69_13 hk69_13 h => ?_)
      · intro σ_12 h
        have F : fr [(29, some 6), (31, none), (32, none), (33, none), (34, none), (56, none), (57, none), (58, none), (59, none), (60, none)] σ_12 σ_12 := fr.rf
        obtain ⟨x3_14, h⟩ := lt_ex h
        exact F.tr (ih _ _ h)
      rcases it_or h with ⟨hc, h⟩ | ⟨hc, h⟩
      · skip
        exact F.tr (hk69_13 _ h)
      · skip
        obtain ⟨σ_15, hq, h⟩ := b1_e h
        replace F := F.tr ((frX1_goOn hq).mono (by simp))
        exact F.tr (hk69_13 _ h)
theorem frX1_findDays {p1 : Int32} {p2 : Int32} {σ : Sg} {rr : (Int32 × Sg)} (h : XX1_findDays p1 p2 σ = some rr) : fr [(29, some 6), (31, none), (32, none), (33, none), (34, none), (56, none), (57, none), (58, none), (59, none), (60, none)] σ rr.2 := by
  have C := trivial
  have R := trivial
  have F : fr [(29, some 6), (31, none), (32, none), (33, none), (34, none), (56, none), (57, none), (58, none), (59, none), (60, none)] σ σ := fr.rf
  rw [XX1_findDays] at h
  obtain ⟨σ_1, hq, h⟩ := b1_e h
  replace F := F.tr ((frJ7_fill_53178 hq).mono (by simp))
  obtain ⟨σ_2, hq, h⟩ := b1_e h
  replace F := F.tr ((frJ7_fill_53178 hq).mono (by simp))
  obtain ⟨σ_3, f1, h⟩ := lt_up h
  replace F := F.tr (f1.mono (by simp))
  obtain ⟨σ_4, f1, h⟩ := lt_up h
  replace F := F.tr (f1.mono (by simp))
  obtain ⟨σ_5, f1, h⟩ := lt_up h
  replace F := F.tr (f1.mono (by simp))
  refine jn (fun (kk : Sg → Option (Int32 × Sg)) => ∀ (σ_6 : Sg), kk σ_6 = some rr → fr [(29, some 6), (31, none), (32, none), (33, none), (34, none), (56, none), (57, none), (58, none), (59, none), (60, none)] σ_6 rr.2) h ?_ (fun k75_7 hk75_7 h => ?_)
  · intro σ_6 h
    have F : fr [(29, some 6), (31, none), (32, none), (33, none), (34, none), (56, none), (57, none), (58, none), (59, none), (60, none)] σ_6 σ_6 := fr.rf
    obtain ⟨hb_8, h⟩ := gd h
    rcases it_or h with ⟨hc, h⟩ | ⟨hc, h⟩
    · skip
      cases h
      exact F
    · skip
      cases h
      exact F
  exact F.tr (flX1_findDays_40  C R hk75_7 _ _ _ h)
theorem flX2_measure_2 {rr : Sg}   (C : True) (R : True)  : ∀ (n : Nat) (x2_1 : Int32) (σ_2 : Sg), LX2_measure_2 n x2_1 σ_2 = some rr → fr [(30, none)] σ_2 rr := by
  intro n
  induction n with
  | zero =>
    intro x2_1 σ_2 h
    rw [LX2_measure_2] at h
    cases h
  | succ n ih =>
    intro x2_1 σ_2 h
    rw [LX2_measure_2] at h
    have F : fr [(30, none)] σ_2 σ_2 := fr.rf
    rcases it_or h with ⟨hc, h⟩ | ⟨hc, h⟩
    · skip
      cases h
      exact F
    · skip
      obtain ⟨r_3, hq, h⟩ := b1_e h
      obtain ⟨hb_5, h⟩ := gd h
      obtain ⟨σ_4, f1, h⟩ := lt_up h
      replace F := F.tr (f1.mono (by simp))
      obtain ⟨x2_6, h⟩ := lt_ex h
      exact F.tr (ih _ _ h)
theorem frX2_measure {σ : Sg} {rr : Sg} (h : XX2_measure σ = some rr) : fr [(30, none)] σ rr := by
  have C := trivial
  have R := trivial
  have F : fr [(30, none)] σ σ := fr.rf
  rw [XX2_measure] at h
  exact F.tr (flX2_measure_2  C R  _ _ _ h)
theorem flX2_part_8 {rr : (Int32 × Sg)} {p1 : Int32} {k28_4 : Sg → Option (Int32 × Sg)}  (C : True) (R : True) (hk28_4 : ∀ (σ_3 : Sg), k28_4 σ_3 = some rr → fr [(29, some 6), (31, none), (32, none), (33, none), (34, none)] σ_3 rr.2) : ∀ (n : Nat) (x3_6 : Int32) (σ_7 : Sg), LX2_part_8 p1 k28_4 n x3_6 σ_7 = some rr → fr [(29, some 6), (31, none), (32, none), (33, none), (34, none)] σ_7 rr.2 := by
  intro n
  induction n with
  | zero =>
    intro x3_6 σ_7 h
    rw [LX2_part_8] at h
    cases h
  | succ n ih =>
    intro x3_6 σ_7 h
    rw [LX2_part_8] at h
    have F : fr [(29, some 6), (31, none), (32, none), (33, none), (34, none)] σ_7 σ_7 := fr.rf
    rcases it_or h with ⟨hc, h⟩ | ⟨hc, h⟩
    · skip
      exact F.tr (hk28_4 _ h)
    · skip
      obtain ⟨σ_8, hq, h⟩ := b1_e h
      replace F := F.tr ((frX2_partSet hq).mono (by simp))
      obtain ⟨x3_9, h⟩ := lt_ex h
      exact F.tr (ih _ _ h)
theorem frX2_part {p1 : Int32} {σ : Sg} {rr : (Int32 × Sg)} (h : XX2_part p1 σ = some rr) : fr [(29, some 6), (31, none), (32, none), (33, none), (34, none)] σ rr.2 := by
  have C := trivial
  have R := trivial
  have F : fr [(29, some 6), (31, none), (32, none), (33, none), (34, none)] σ σ := fr.rf
  rw [XX2_part] at h
  obtain ⟨r_1, σ_2, hq, h⟩ := b2_e h
  replace F := F.tr ((frX2_gather hq).mono (by simp))
  refine jn (fun (kk : Sg → Option (Int32 × Sg)) => ∀ (σ_3 : Sg), kk σ_3 = some rr → fr [(29, some 6), (31, none), (32, none), (33, none), (34, none)] σ_3 rr.2) h ?_ (fun k28_4 hk28_4 h => ?_)
  · intro σ_3 h
    have F : fr [(29, some 6), (31, none), (32, none), (33, none), (34, none)] σ_3 σ_3 := fr.rf
    obtain ⟨hb_5, h⟩ := gd h
    cases h
    exact F
  exact F.tr (flX2_part_8  C R hk28_4 _ _ _ h)
theorem flX5_runFrom_11 {rr : Sg} {k : Nat} {p1 : Int32} {p3 : Int32}  (C : True) (R : True)  : ∀ (n : Nat) (x4_2 : Int32) (x5_3 : Int32) (σ_4 : Sg), LX5_runFrom_11 k p1 p3 n x4_2 x5_3 σ_4 = some rr → fr [((k + 3), none), ((k + 4), none), ((k + 5), none), ((k + 6), none), (k, some 5), (k, some 6)] σ_4 rr := by
  intro n
  induction n with
  | zero =>
    intro x4_2 x5_3 σ_4 h
    rw [LX5_runFrom_11] at h
    cases h
  | succ n ih =>
    intro x4_2 x5_3 σ_4 h
    rw [LX5_runFrom_11] at h
    have F : fr [((k + 3), none), ((k + 4), none), ((k + 5), none), ((k + 6), none), (k, some 5), (k, some 6)] σ_4 σ_4 := fr.rf
    rcases it_or h with ⟨hc, h⟩ | ⟨hc, h⟩
    · skip
      cases h
      exact F
    · skip
      obtain ⟨r_5, hq, h⟩ := b1_e h
      obtain ⟨r_6, hq, h⟩ := b1_e h
      refine jn (fun (kk : Int32 → Option Sg) => ∀ (s_7 : Int32), kk s_7 = some rr → fr [((k + 3), none), ((k + 4), none), ((k + 5), none), ((k + 6), none), (k, some 5), (k, some 6)] σ_4 rr) h ?_ (fun k57_8 hk57_8 h => ?_)
      · intro s_7 h
        have F : fr [((k + 3), none), ((k + 4), none), ((k + 5), none), ((k + 6), none), (k, some 5), (k, some 6)] σ_4 σ_4 := fr.rf
        obtain ⟨hb_9, h⟩ := gd h
        refine jn (fun (kk : Sg → Option Sg) => ∀ (σ_10 : Sg), kk σ_10 = some rr → fr [((k + 3), none), ((k + 4), none), ((k + 5), none), ((k + 6), none), (k, some 5), (k, some 6)] σ_10 rr) h ?_ (fun k88_11 hk88_11 h => ?_)
        · intro σ_10 h
          have F : fr [((k + 3), none), ((k + 4), none), ((k + 5), none), ((k + 6), none), (k, some 5), (k, some 6)] σ_10 σ_10 := fr.rf
          obtain ⟨x4_12, h⟩ := lt_ex h
          obtain ⟨x8_13, h⟩ := lt_ex h
          obtain ⟨x4_14, h⟩ := lt_ex h
          obtain ⟨σ_15, f1, h⟩ := lt_upf h
          replace F := F.tr (f1.mono (by simp))
          obtain ⟨σ_16, f1, h⟩ := lt_up h
          replace F := F.tr (f1.mono (by simp))
          obtain ⟨x9_17, h⟩ := lt_ex h
          obtain ⟨σ_18, f1, h⟩ := lt_upf h
          replace F := F.tr (f1.mono (by simp))
          obtain ⟨σ_19, f1, h⟩ := lt_up h
          replace F := F.tr (f1.mono (by simp))
          refine jn (fun (kk : Option Sg) => kk = some rr → fr [((k + 3), none), ((k + 4), none), ((k + 5), none), ((k + 6), none), (k, some 5), (k, some 6)] σ_19 rr) h ?_ (fun k209_20 hk209_20 h => ?_)
          · intro h
            have F : fr [((k + 3), none), ((k + 4), none), ((k + 5), none), ((k + 6), none), (k, some 5), (k, some 6)] σ_19 σ_19 := fr.rf
            obtain ⟨x5_21, h⟩ := lt_ex h
            exact F.tr (ih _ _ _ h)
          rcases ie_or h with ⟨hc, h⟩ | ⟨hc, h⟩
          · skip
            exact F.tr (hk209_20 h)
          · skip
            rcases ie_or h with ⟨hc, h⟩ | ⟨hc, h⟩
            · skip
              exact F.tr (hk209_20 h)
            · skip
              cases h
              exact F
        rcases it_or h with ⟨hc, h⟩ | ⟨hc, h⟩
        · skip
          exact F.tr (hk88_11 _ h)
        · skip
          obtain ⟨σ_22, f1, h⟩ := lt_up h
          replace F := F.tr (f1.mono (by simp))
          obtain ⟨hb_24, h⟩ := gd h
          obtain ⟨σ_23, f1, h⟩ := lt_up h
          replace F := F.tr (f1.mono (by simp))
          exact F.tr (hk88_11 _ h)
      rcases it_or h with ⟨hc, h⟩ | ⟨hc, h⟩
      · skip
        exact F.tr (hk57_8 _ h)
      · skip
        obtain ⟨hb_25, h⟩ := gd h
        exact F.tr (hk57_8 _ h)
theorem frX5_runFrom {k : Nat} {p1 : Int32} {p2 : Int32} {p3 : Int32} {σ : Sg} {rr : Sg} (h : XX5_runFrom k p1 p2 p3 σ = some rr) : fr [((k + 3), none), ((k + 4), none), ((k + 5), none), ((k + 6), none), (k, some 5), (k, some 6)] σ rr := by
  have C := trivial
  have R := trivial
  have F : fr [((k + 3), none), ((k + 4), none), ((k + 5), none), ((k + 6), none), (k, some 5), (k, some 6)] σ σ := fr.rf
  rw [XX5_runFrom] at h
  obtain ⟨r_1, hq, h⟩ := b1_e h
  exact F.tr (flX5_runFrom_11  C R  _ _ _ _ h)
theorem frX5_setVisits {k : Nat} {p1 : Int32} {p2 : Int32} {σ : Sg} {rr : Sg} (h : XX5_setVisits k p1 p2 σ = some rr) : fr [((k + 1), none), ((k + 3), none), ((k + 4), none), ((k + 5), none), ((k + 6), none), (k, some 5), (k, some 6)] σ rr := by
  have C := trivial
  have R := trivial
  have F : fr [((k + 1), none), ((k + 3), none), ((k + 4), none), ((k + 5), none), ((k + 6), none), (k, some 5), (k, some 6)] σ σ := fr.rf
  rw [XX5_setVisits] at h
  obtain ⟨hb_1, h⟩ := gd h
  obtain ⟨x3_2, h⟩ := lt_ex h
  rcases it_or h with ⟨hc, h⟩ | ⟨hc, h⟩
  · skip
    cases h
    exact F
  · skip
    obtain ⟨σ_3, f1, h⟩ := lt_up h
    replace F := F.tr (f1.mono (by simp))
    obtain ⟨r_4, hq, h⟩ := b1_e h
    obtain ⟨σ_5, hq, h⟩ := b1_e h
    replace F := F.tr ((frX5_runFrom hq).mono (by simp))
    cases h
    exact F
theorem flX5_dropVisits_2 {rr : Sg} {k : Nat}  (C : True) (R : True)  : ∀ (n : Nat) (x1_1 : Int32) (σ_2 : Sg), LX5_dropVisits_2 k n x1_1 σ_2 = some rr → fr [((k + 1), none), ((k + 3), none), ((k + 4), none), ((k + 5), none), ((k + 6), none), (k, some 5), (k, some 6)] σ_2 rr := by
  intro n
  induction n with
  | zero =>
    intro x1_1 σ_2 h
    rw [LX5_dropVisits_2] at h
    cases h
  | succ n ih =>
    intro x1_1 σ_2 h
    rw [LX5_dropVisits_2] at h
    have F : fr [((k + 1), none), ((k + 3), none), ((k + 4), none), ((k + 5), none), ((k + 6), none), (k, some 5), (k, some 6)] σ_2 σ_2 := fr.rf
    rcases it_or h with ⟨hc, h⟩ | ⟨hc, h⟩
    · skip
      cases h
      exact F
    · skip
      obtain ⟨σ_3, hq, h⟩ := b1_e h
      replace F := F.tr ((frX5_setVisits hq).mono (by simp))
      obtain ⟨x1_4, h⟩ := lt_ex h
      exact F.tr (ih _ _ h)
theorem frX5_dropVisits {k : Nat} {σ : Sg} {rr : Sg} (h : XX5_dropVisits k σ = some rr) : fr [((k + 1), none), ((k + 3), none), ((k + 4), none), ((k + 5), none), ((k + 6), none), (k, some 5), (k, some 6)] σ rr := by
  have C := trivial
  have R := trivial
  have F : fr [((k + 1), none), ((k + 3), none), ((k + 4), none), ((k + 5), none), ((k + 6), none), (k, some 5), (k, some 6)] σ σ := fr.rf
  rw [XX5_dropVisits] at h
  exact F.tr (flX5_dropVisits_2  C R  _ _ _ h)
theorem flX3_visitShort_38 {rr : Sg} {x4_1 : Int32} {x5_2 : Int32} {σ_3 : Sg} {k68_5 : Int32 → Option Sg}  (C : True) (R : True) (hk68_5 : ∀ (x6_4 : Int32), k68_5 x6_4 = some rr → fr [(38, some 5), (38, some 6), (39, none), (41, none), (42, none), (43, none), (44, none)] σ_3 rr) : ∀ (n : Nat) (x6_12 : Int32) (x7_13 : Int32), LX3_visitShort_38 x4_1 x5_2 σ_3 k68_5 n x6_12 x7_13 = some rr → fr [(38, some 5), (38, some 6), (39, none), (41, none), (42, none), (43, none), (44, none)] σ_3 rr := by
  intro n
  induction n with
  | zero =>
    intro x6_12 x7_13 h
    rw [LX3_visitShort_38] at h
    cases h
  | succ n ih =>
    intro x6_12 x7_13 h
    rw [LX3_visitShort_38] at h
    have F : fr [(38, some 5), (38, some 6), (39, none), (41, none), (42, none), (43, none), (44, none)] σ_3 σ_3 := fr.rf
    rcases it_or h with ⟨hc, h⟩ | ⟨hc, h⟩
    · skip
      exact F.tr (hk68_5 _ h)
    · skip
      obtain ⟨r_14, hq, h⟩ := b1_e h
      obtain ⟨hb_15, h⟩ := gd h
      obtain ⟨x6_16, h⟩ := lt_ex h
      obtain ⟨x7_17, h⟩ := lt_ex h
      exact F.tr (ih _ _ h)
theorem flX3_visitShort_20 {rr : Sg} {p1 : Int32} {x4_1 : Int32}  (C : True) (R : True)  : ∀ (n : Nat) (x5_2 : Int32) (σ_3 : Sg), LX3_visitShort_20 p1 x4_1 n x5_2 σ_3 = some rr → fr [(38, some 5), (38, some 6), (39, none), (41, none), (42, none), (43, none), (44, none)] σ_3 rr := by
  intro n
  induction n with
  | zero =>
    intro x5_2 σ_3 h
    rw [LX3_visitShort_20] at h
    cases h
  | succ n ih =>
    intro x5_2 σ_3 h
    rw [LX3_visitShort_20] at h
    have F : fr [(38, some 5), (38, some 6), (39, none), (41, none), (42, none), (43, none), (44, none)] σ_3 σ_3 := fr.rf
    rcases it_or h with ⟨hc, h⟩ | ⟨hc, h⟩
    · skip
      cases h
      exact F
    · skip
      refine jn (fun (kk : Int32 → Option Sg) => ∀ (x6_4 : Int32), kk x6_4 = some rr → fr [(38, some 5), (38, some 6), (39, none), (41, none), (42, none), (43, none), (44, none)] σ_3 rr) h ?_ (fun k68_5 hk68_5 h => ?_)
      · intro x6_4 h
        have F : fr [(38, some 5), (38, some 6), (39, none), (41, none), (42, none), (43, none), (44, none)] σ_3 σ_3 := fr.rf
        obtain ⟨r_6, hq, h⟩ := b1_e h
        refine jn (fun (kk : Sg → Option Sg) => ∀ (σ_7 : Sg), kk σ_7 = some rr → fr [(38, some 5), (38, some 6), (39, none), (41, none), (42, none), (43, none), (44, none)] σ_7 rr) h ?_ (fun k97_8 hk97_8 h => ?_)
        · intro σ_7 h
          have F : fr [(38, some 5), (38, some 6), (39, none), (41, none), (42, none), (43, none), (44, none)] σ_7 σ_7 := fr.rf
          obtain ⟨x5_9, h⟩ := lt_ex h
          exact F.tr (ih _ _ h)
        rcases it_or h with ⟨hc, h⟩ | ⟨hc, h⟩
        · skip
          exact F.tr (hk97_8 _ h)
        · skip
          obtain ⟨hb_10, h⟩ := gd h
          obtain ⟨σ_11, hq, h⟩ := b1_e h
          replace F := F.tr ((frX5_setVisits hq).mono (by simp))
          exact F.tr (hk97_8 _ h)
      exact F.tr (flX3_visitShort_38  C R hk68_5 _ _ _ h)
theorem frX3_visitShort {p1 : Int32} {p2 : Int32} {σ : Sg} {rr : Sg} (h : XX3_visitShort p1 p2 σ = some rr) : fr [(38, some 5), (38, some 6), (39, none), (41, none), (42, none), (43, none), (44, none)] σ rr := by
  have C := trivial
  have R := trivial
  have F : fr [(38, some 5), (38, some 6), (39, none), (41, none), (42, none), (43, none), (44, none)] σ σ := fr.rf
  rw [XX3_visitShort] at h
  obtain ⟨x4_1, h⟩ := lt_ex h
  exact F.tr (flX3_visitShort_20  C R  _ _ _ h)
theorem flX3_visitByRule_6 {rr : Sg} {p1 : Int32}  (C : True) (R : True)  : ∀ (n : Nat) (x3_2 : Int32) (σ_3 : Sg), LX3_visitByRule_6 p1 n x3_2 σ_3 = some rr → fr [(38, some 5), (38, some 6), (39, none), (41, none), (42, none), (43, none), (44, none)] σ_3 rr := by
  intro n
  induction n with
  | zero =>
    intro x3_2 σ_3 h
    rw [LX3_visitByRule_6] at h
    cases h
  | succ n ih =>
    intro x3_2 σ_3 h
    rw [LX3_visitByRule_6] at h
    have F : fr [(38, some 5), (38, some 6), (39, none), (41, none), (42, none), (43, none), (44, none)] σ_3 σ_3 := fr.rf
    rcases it_or h with ⟨hc, h⟩ | ⟨hc, h⟩
    · skip
      cases h
      exact F
    · skip
      obtain ⟨r_4, hq, h⟩ := b1_e h
      refine jn (fun (kk : Sg → Option Sg) => ∀ (σ_5 : Sg), kk σ_5 = some rr → fr [(38, some 5), (38, some 6), (39, none), (41, none), (42, none), (43, none), (44, none)] σ_5 rr) h ?_ (fun k33_6 hk33_6 h => ?_)
      · intro σ_5 h
        have F : fr [(38, some 5), (38, some 6), (39, none), (41, none), (42, none), (43, none), (44, none)] σ_5 σ_5 := fr.rf
        obtain ⟨x3_7, h⟩ := lt_ex h
        exact F.tr (ih _ _ h)
      rcases it_or h with ⟨hc, h⟩ | ⟨hc, h⟩
      · skip
        exact F.tr (hk33_6 _ h)
      · skip
        obtain ⟨σ_8, hq, h⟩ := b1_e h
        replace F := F.tr ((frX3_visitShort hq).mono (by simp))
        exact F.tr (hk33_6 _ h)
theorem frX3_visitByRule {p1 : Int32} {σ : Sg} {rr : Sg} (h : XX3_visitByRule p1 σ = some rr) : fr [(38, some 5), (38, some 6), (39, none), (41, none), (42, none), (43, none), (44, none)] σ rr := by
  have C := trivial
  have R := trivial
  have F : fr [(38, some 5), (38, some 6), (39, none), (41, none), (42, none), (43, none), (44, none)] σ σ := fr.rf
  rw [XX3_visitByRule] at h
  obtain ⟨σ_1, hq, h⟩ := b1_e h
  replace F := F.tr ((frX5_dropVisits hq).mono (by simp))
  exact F.tr (flX3_visitByRule_6  C R  _ _ _ h)
theorem flX5_pickLoads_2 {rr : Sg} {k : Nat} {a : Nat} {p1 : Int32}  (C : True) (R : True)  : ∀ (n : Nat) (x3_1 : Int32) (σ_2 : Sg), LX5_pickLoads_2 k a p1 n x3_1 σ_2 = some rr → fr [(a, none)] σ_2 rr := by
  intro n
  induction n with
  | zero =>
    intro x3_1 σ_2 h
    rw [LX5_pickLoads_2] at h
    cases h
  | succ n ih =>
    intro x3_1 σ_2 h
    rw [LX5_pickLoads_2] at h
    have F : fr [(a, none)] σ_2 σ_2 := fr.rf
    rcases it_or h with ⟨hc, h⟩ | ⟨hc, h⟩
    · skip
      cases h
      exact F
    · skip
      obtain ⟨r_3, hq, h⟩ := b1_e h
      obtain ⟨hb_4, h⟩ := gd h
      obtain ⟨hb_6, h⟩ := gd h
      obtain ⟨σ_5, f1, h⟩ := lt_up h
      replace F := F.tr (f1.mono (by simp))
      obtain ⟨x3_7, h⟩ := lt_ex h
      exact F.tr (ih _ _ h)
theorem frX5_pickLoads {k : Nat} {a : Nat} {p1 : Int32} {σ : Sg} {rr : Sg} (h : XX5_pickLoads k a p1 σ = some rr) : fr [(a, none)] σ rr := by
  have C := trivial
  have R := trivial
  have F : fr [(a, none)] σ σ := fr.rf
  rw [XX5_pickLoads] at h
  exact F.tr (flX5_pickLoads_2  C R  _ _ _ h)
theorem frX5_priceOn {k : Nat} {p1 : Int32} {σ : Sg} {rr : (Int32 × Sg)} (h : XX5_priceOn k p1 σ = some rr) : fr [(29, some 6), (31, none), (32, none), (33, none), (34, none), ((k + 6), none), ((k + 7), none)] σ rr.2 := by
  have C := trivial
  have R := trivial
  have F : fr [(29, some 6), (31, none), (32, none), (33, none), (34, none), ((k + 6), none), ((k + 7), none)] σ σ := fr.rf
  rw [XX5_priceOn] at h
  obtain ⟨hb_1, h⟩ := gd h
  refine jn (fun (kk : Sg → Option (Int32 × Sg)) => ∀ (σ_2 : Sg), kk σ_2 = some rr → fr [(29, some 6), (31, none), (32, none), (33, none), (34, none), ((k + 6), none), ((k + 7), none)] σ_2 rr.2) h ?_ (fun k43_3 hk43_3 h => ?_)
  · intro σ_2 h
    have F : fr [(29, some 6), (31, none), (32, none), (33, none), (34, none), ((k + 6), none), ((k + 7), none)] σ_2 σ_2 := fr.rf
    cases h
    exact F
  rcases ie_or h with ⟨hc, h⟩ | ⟨hc, h⟩
  · skip
    exact F.tr (hk43_3 _ h)
  · skip
    obtain ⟨σ_4, hq, h⟩ := b1_e h
    replace F := F.tr ((frX5_pickLoads hq).mono (by simp))
    obtain ⟨r_5, σ_6, hq, h⟩ := b2_e h
    replace F := F.tr ((frX2_priceOf hq).mono (by simp))
    obtain ⟨σ_7, f1, h⟩ := lt_up h
    replace F := F.tr (f1.mono (by simp))
    exact F.tr (hk43_3 _ h)
theorem flX5_wholeCost_28 {rr : (Int32 × Sg)} {k : Nat}  (C : True) (R : True)  : ∀ (n : Nat) (x1_2 : Int32) (x2_3 : Int32) (σ_4 : Sg), LX5_wholeCost_28 k n x1_2 x2_3 σ_4 = some rr → fr [(29, some 6), (31, none), (32, none), (33, none), (34, none), ((k + 6), none), ((k + 7), none)] σ_4 rr.2 := by
  intro n
  induction n with
  | zero =>
    intro x1_2 x2_3 σ_4 h
    rw [LX5_wholeCost_28] at h
    cases h
  | succ n ih =>
    intro x1_2 x2_3 σ_4 h
    rw [LX5_wholeCost_28] at h
    have F : fr [(29, some 6), (31, none), (32, none), (33, none), (34, none), ((k + 6), none), ((k + 7), none)] σ_4 σ_4 := fr.rf
    rcases it_or h with ⟨hc, h⟩ | ⟨hc, h⟩
    · skip
      cases h
      exact F
    · skip
      obtain ⟨r_5, σ_6, hq, h⟩ := b2_e h
      replace F := F.tr ((frX5_priceOn hq).mono (by simp))
      obtain ⟨x1_7, h⟩ := lt_ex h
      obtain ⟨x2_8, h⟩ := lt_ex h
      exact F.tr (ih _ _ _ h)
theorem frX5_wholeCost {k : Nat} {σ : Sg} {rr : (Int32 × Sg)} (h : XX5_wholeCost k σ = some rr) : fr [(29, some 6), (31, none), (32, none), (33, none), (34, none), ((k + 6), none), ((k + 7), none)] σ rr.2 := by
  have C := trivial
  have R := trivial
  have F : fr [(29, some 6), (31, none), (32, none), (33, none), (34, none), ((k + 6), none), ((k + 7), none)] σ σ := fr.rf
  rw [XX5_wholeCost] at h
  obtain ⟨x1_1, h⟩ := lt_ex h
  exact F.tr (flX5_wholeCost_28  C R  _ _ _ _ h)
theorem frX3_turnIfLess {p1 : Int32} {p2 : Int32} {p3 : Int32} {σ : Sg} {rr : (Int32 × Sg)} (h : XX3_turnIfLess p1 p2 p3 σ = some rr) : fr [(29, some 6), (31, none), (32, none), (33, none), (34, none), (46, some 5), (46, some 6), (47, none), (49, none), (50, none), (51, none), (52, none), (53, none)] σ rr.2 := by
  have C := trivial
  have R := trivial
  have F : fr [(29, some 6), (31, none), (32, none), (33, none), (34, none), (46, some 5), (46, some 6), (47, none), (49, none), (50, none), (51, none), (52, none), (53, none)] σ σ := fr.rf
  rw [XX3_turnIfLess] at h
  obtain ⟨hb_1, h⟩ := gd h
  obtain ⟨x5_2, h⟩ := lt_ex h
  obtain ⟨σ_3, hq, h⟩ := b1_e h
  replace F := F.tr ((frX5_setVisits hq).mono (by simp))
  obtain ⟨r_4, σ_5, hq, h⟩ := b2_e h
  replace F := F.tr ((frX5_wholeCost hq).mono (by simp))
  rcases it_or h with ⟨hc, h⟩ | ⟨hc, h⟩
  · skip
    obtain ⟨σ_6, hq, h⟩ := b1_e h
    replace F := F.tr ((frX5_setVisits hq).mono (by simp))
    cases h
    exact F
  · skip
    cases h
    exact F
theorem flX3_moveOne_39 {rr : (Int32 × Sg)} {r_1 : Int32} {x3_3 : Int32} {x4_8 : Int32} {k107_12 : Sg → Option (Int32 × Sg)}  (C : True) (R : True) (hk107_12 : ∀ (σ_11 : Sg), k107_12 σ_11 = some rr → fr [(29, some 6), (31, none), (32, none), (33, none), (34, none), (46, some 5), (46, some 6), (47, none), (49, none), (50, none), (51, none), (52, none), (53, none)] σ_11 rr.2) : ∀ (n : Nat) (x5_14 : Int32) (σ_15 : Sg), LX3_moveOne_39 r_1 x3_3 x4_8 k107_12 n x5_14 σ_15 = some rr → fr [(29, some 6), (31, none), (32, none), (33, none), (34, none), (46, some 5), (46, some 6), (47, none), (49, none), (50, none), (51, none), (52, none), (53, none)] σ_15 rr.2 := by
  intro n
  induction n with
  | zero =>
    intro x5_14 σ_15 h
    rw [LX3_moveOne_39] at h
    cases h
  | succ n ih =>
    intro x5_14 σ_15 h
    rw [LX3_moveOne_39] at h
    have F : fr [(29, some 6), (31, none), (32, none), (33, none), (34, none), (46, some 5), (46, some 6), (47, none), (49, none), (50, none), (51, none), (52, none), (53, none)] σ_15 σ_15 := fr.rf
    rcases it_or h with ⟨hc, h⟩ | ⟨hc, h⟩
    · skip
      exact F.tr (hk107_12 _ h)
    · skip
      obtain ⟨r_16, hq, h⟩ := b1_e h
      refine jn (fun (kk : Sg → Option (Int32 × Sg)) => ∀ (σ_17 : Sg), kk σ_17 = some rr → fr [(29, some 6), (31, none), (32, none), (33, none), (34, none), (46, some 5), (46, some 6), (47, none), (49, none), (50, none), (51, none), (52, none), (53, none)] σ_17 rr.2) h ?_ (fun k101_18 hk101_18 h => ?_)
      · intro σ_17 h
        have F : fr [(29, some 6), (31, none), (32, none), (33, none), (34, none), (46, some 5), (46, some 6), (47, none), (49, none), (50, none), (51, none), (52, none), (53, none)] σ_17 σ_17 := fr.rf
        obtain ⟨x5_19, h⟩ := lt_ex h
        exact F.tr (ih _ _ h)
      rcases it_or h with ⟨hc, h⟩ | ⟨hc, h⟩
      · skip
        exact F.tr (hk101_18 _ h)
      · skip
        obtain ⟨r_20, hq, h⟩ := b1_e h
        rcases it_or h with ⟨hc, h⟩ | ⟨hc, h⟩
        · skip
          exact F.tr (hk101_18 _ h)
        · skip
          obtain ⟨r_21, hq, h⟩ := b1_e h
          rcases ie_or h with ⟨hc, h⟩ | ⟨hc, h⟩
          · skip
            exact F.tr (hk101_18 _ h)
          · skip
            obtain ⟨r_22, σ_23, hq, h⟩ := b2_e h
            replace F := F.tr ((frX3_turnIfLess hq).mono (by simp))
            rcases it_or h with ⟨hc, h⟩ | ⟨hc, h⟩
            · skip
              exact F.tr (hk101_18 _ h)
            · skip
              cases h
              exact F
theorem flX3_moveOne_21 {rr : (Int32 × Sg)} {r_1 : Int32} {x3_3 : Int32} {k113_6 : Sg → Option (Int32 × Sg)}  (C : True) (R : True) (hk113_6 : ∀ (σ_5 : Sg), k113_6 σ_5 = some rr → fr [(29, some 6), (31, none), (32, none), (33, none), (34, none), (46, some 5), (46, some 6), (47, none), (49, none), (50, none), (51, none), (52, none), (53, none)] σ_5 rr.2) : ∀ (n : Nat) (x4_8 : Int32) (σ_9 : Sg), LX3_moveOne_21 r_1 x3_3 k113_6 n x4_8 σ_9 = some rr → fr [(29, some 6), (31, none), (32, none), (33, none), (34, none), (46, some 5), (46, some 6), (47, none), (49, none), (50, none), (51, none), (52, none), (53, none)] σ_9 rr.2 := by
  intro n
  induction n with
  | zero =>
    intro x4_8 σ_9 h
    rw [LX3_moveOne_21] at h
    cases h
  | succ n ih =>
    intro x4_8 σ_9 h
    rw [LX3_moveOne_21] at h
    have F : fr [(29, some 6), (31, none), (32, none), (33, none), (34, none), (46, some 5), (46, some 6), (47, none), (49, none), (50, none), (51, none), (52, none), (53, none)] σ_9 σ_9 := fr.rf
    rcases it_or h with ⟨hc, h⟩ | ⟨hc, h⟩
    · skip
      exact F.tr (hk113_6 _ h)
    · skip
      obtain ⟨x5_10, h⟩ := lt_ex h
      refine jn (fun (kk : Sg → Option (Int32 × Sg)) => ∀ (σ_11 : Sg), kk σ_11 = some rr → fr [(29, some 6), (31, none), (32, none), (33, none), (34, none), (46, some 5), (46, some 6), (47, none), (49, none), (50, none), (51, none), (52, none), (53, none)] σ_11 rr.2) h ?_ (fun k107_12 hk107_12 h => ?_)
      · intro σ_11 h
        have F : fr [(29, some 6), (31, none), (32, none), (33, none), (34, none), (46, some 5), (46, some 6), (47, none), (49, none), (50, none), (51, none), (52, none), (53, none)] σ_11 σ_11 := fr.rf
        obtain ⟨x4_13, h⟩ := lt_ex h
        exact F.tr (ih _ _ h)
      exact F.tr (flX3_moveOne_39  C R hk107_12 _ _ _ h)
theorem flX3_moveOne_7 {rr : (Int32 × Sg)} {r_1 : Int32}  (C : True) (R : True)  : ∀ (n : Nat) (x3_3 : Int32) (σ_4 : Sg), LX3_moveOne_7 r_1 n x3_3 σ_4 = some rr → fr [(29, some 6), (31, none), (32, none), (33, none), (34, none), (46, some 5), (46, some 6), (47, none), (49, none), (50, none), (51, none), (52, none), (53, none)] σ_4 rr.2 := by
  intro n
  induction n with
  | zero =>
    intro x3_3 σ_4 h
    rw [LX3_moveOne_7] at h
    cases h
  | succ n ih =>
    intro x3_3 σ_4 h
    rw [LX3_moveOne_7] at h
    have F : fr [(29, some 6), (31, none), (32, none), (33, none), (34, none), (46, some 5), (46, some 6), (47, none), (49, none), (50, none), (51, none), (52, none), (53, none)] σ_4 σ_4 := fr.rf
    rcases it_or h with ⟨hc, h⟩ | ⟨hc, h⟩
    · skip
      cases h
      exact F
    · skip
      refine jn (fun (kk : Sg → Option (Int32 × Sg)) => ∀ (σ_5 : Sg), kk σ_5 = some rr → fr [(29, some 6), (31, none), (32, none), (33, none), (34, none), (46, some 5), (46, some 6), (47, none), (49, none), (50, none), (51, none), (52, none), (53, none)] σ_5 rr.2) h ?_ (fun k113_6 hk113_6 h => ?_)
      · intro σ_5 h
        have F : fr [(29, some 6), (31, none), (32, none), (33, none), (34, none), (46, some 5), (46, some 6), (47, none), (49, none), (50, none), (51, none), (52, none), (53, none)] σ_5 σ_5 := fr.rf
        obtain ⟨x3_7, h⟩ := lt_ex h
        exact F.tr (ih _ _ h)
      exact F.tr (flX3_moveOne_21  C R hk113_6 _ _ _ h)
theorem frX3_moveOne {σ : Sg} {rr : (Int32 × Sg)} (h : XX3_moveOne σ = some rr) : fr [(29, some 6), (31, none), (32, none), (33, none), (34, none), (46, some 5), (46, some 6), (47, none), (49, none), (50, none), (51, none), (52, none), (53, none)] σ rr.2 := by
  have C := trivial
  have R := trivial
  have F : fr [(29, some 6), (31, none), (32, none), (33, none), (34, none), (46, some 5), (46, some 6), (47, none), (49, none), (50, none), (51, none), (52, none), (53, none)] σ σ := fr.rf
  rw [XX3_moveOne] at h
  obtain ⟨r_1, σ_2, hq, h⟩ := b2_e h
  replace F := F.tr ((frX5_wholeCost hq).mono (by simp))
  exact F.tr (flX3_moveOne_7  C R  _ _ _ h)
theorem flX3_turnOne_21 {rr : (Int32 × Sg)} {r_1 : Int32} {x3_3 : Int32} {k55_6 : Sg → Option (Int32 × Sg)}  (C : True) (R : True) (hk55_6 : ∀ (σ_5 : Sg), k55_6 σ_5 = some rr → fr [(29, some 6), (31, none), (32, none), (33, none), (34, none), (46, some 5), (46, some 6), (47, none), (49, none), (50, none), (51, none), (52, none), (53, none)] σ_5 rr.2) : ∀ (n : Nat) (x4_8 : Int32) (σ_9 : Sg), LX3_turnOne_21 r_1 x3_3 k55_6 n x4_8 σ_9 = some rr → fr [(29, some 6), (31, none), (32, none), (33, none), (34, none), (46, some 5), (46, some 6), (47, none), (49, none), (50, none), (51, none), (52, none), (53, none)] σ_9 rr.2 := by
  intro n
  induction n with
  | zero =>
    intro x4_8 σ_9 h
    rw [LX3_turnOne_21] at h
    cases h
  | succ n ih =>
    intro x4_8 σ_9 h
    rw [LX3_turnOne_21] at h
    have F : fr [(29, some 6), (31, none), (32, none), (33, none), (34, none), (46, some 5), (46, some 6), (47, none), (49, none), (50, none), (51, none), (52, none), (53, none)] σ_9 σ_9 := fr.rf
    rcases it_or h with ⟨hc, h⟩ | ⟨hc, h⟩
    · skip
      exact F.tr (hk55_6 _ h)
    · skip
      obtain ⟨r_10, σ_11, hq, h⟩ := b2_e h
      replace F := F.tr ((frX3_turnIfLess hq).mono (by simp))
      rcases it_or h with ⟨hc, h⟩ | ⟨hc, h⟩
      · skip
        obtain ⟨x4_12, h⟩ := lt_ex h
        exact F.tr (ih _ _ h)
      · skip
        cases h
        exact F
theorem flX3_turnOne_7 {rr : (Int32 × Sg)} {r_1 : Int32}  (C : True) (R : True)  : ∀ (n : Nat) (x3_3 : Int32) (σ_4 : Sg), LX3_turnOne_7 r_1 n x3_3 σ_4 = some rr → fr [(29, some 6), (31, none), (32, none), (33, none), (34, none), (46, some 5), (46, some 6), (47, none), (49, none), (50, none), (51, none), (52, none), (53, none)] σ_4 rr.2 := by
  intro n
  induction n with
  | zero =>
    intro x3_3 σ_4 h
    rw [LX3_turnOne_7] at h
    cases h
  | succ n ih =>
    intro x3_3 σ_4 h
    rw [LX3_turnOne_7] at h
    have F : fr [(29, some 6), (31, none), (32, none), (33, none), (34, none), (46, some 5), (46, some 6), (47, none), (49, none), (50, none), (51, none), (52, none), (53, none)] σ_4 σ_4 := fr.rf
    rcases it_or h with ⟨hc, h⟩ | ⟨hc, h⟩
    · skip
      cases h
      exact F
    · skip
      refine jn (fun (kk : Sg → Option (Int32 × Sg)) => ∀ (σ_5 : Sg), kk σ_5 = some rr → fr [(29, some 6), (31, none), (32, none), (33, none), (34, none), (46, some 5), (46, some 6), (47, none), (49, none), (50, none), (51, none), (52, none), (53, none)] σ_5 rr.2) h ?_ (fun k55_6 hk55_6 h => ?_)
      · intro σ_5 h
        have F : fr [(29, some 6), (31, none), (32, none), (33, none), (34, none), (46, some 5), (46, some 6), (47, none), (49, none), (50, none), (51, none), (52, none), (53, none)] σ_5 σ_5 := fr.rf
        obtain ⟨x3_7, h⟩ := lt_ex h
        exact F.tr (ih _ _ h)
      exact F.tr (flX3_turnOne_21  C R hk55_6 _ _ _ h)
theorem frX3_turnOne {σ : Sg} {rr : (Int32 × Sg)} (h : XX3_turnOne σ = some rr) : fr [(29, some 6), (31, none), (32, none), (33, none), (34, none), (46, some 5), (46, some 6), (47, none), (49, none), (50, none), (51, none), (52, none), (53, none)] σ rr.2 := by
  have C := trivial
  have R := trivial
  have F : fr [(29, some 6), (31, none), (32, none), (33, none), (34, none), (46, some 5), (46, some 6), (47, none), (49, none), (50, none), (51, none), (52, none), (53, none)] σ σ := fr.rf
  rw [XX3_turnOne] at h
  obtain ⟨r_1, σ_2, hq, h⟩ := b2_e h
  replace F := F.tr ((frX5_wholeCost hq).mono (by simp))
  exact F.tr (flX3_turnOne_7  C R  _ _ _ h)
theorem flX3_setPlan_5 {rr : Sg}   (C : True) (R : True)  : ∀ (n : Nat) (x3_1 : Int32) (x4_2 : Int32) (σ_3 : Sg), LX3_setPlan_5 n x3_1 x4_2 σ_3 = some rr → fr [(38, some 5), (38, some 6), (39, none), (41, none), (42, none), (43, none), (44, none)] σ_3 rr := by
  intro n
  induction n with
  | zero =>
    intro x3_1 x4_2 σ_3 h
    rw [LX3_setPlan_5] at h
    cases h
  | succ n ih =>
    intro x3_1 x4_2 σ_3 h
    rw [LX3_setPlan_5] at h
    have F : fr [(38, some 5), (38, some 6), (39, none), (41, none), (42, none), (43, none), (44, none)] σ_3 σ_3 := fr.rf
    rcases it_or h with ⟨hc, h⟩ | ⟨hc, h⟩
    · skip
      cases h
      exact F
    · skip
      obtain ⟨σ_4, hq, h⟩ := b1_e h
      replace F := F.tr ((frX5_setVisits hq).mono (by simp))
      obtain ⟨x3_5, h⟩ := lt_ex h
      obtain ⟨x4_6, h⟩ := lt_ex h
      exact F.tr (ih _ _ _ h)
theorem frX3_setPlan {p1 : Int32} {σ : Sg} {rr : Sg} (h : XX3_setPlan p1 σ = some rr) : fr [(38, some 5), (38, some 6), (39, none), (41, none), (42, none), (43, none), (44, none)] σ rr := by
  have C := trivial
  have R := trivial
  have F : fr [(38, some 5), (38, some 6), (39, none), (41, none), (42, none), (43, none), (44, none)] σ σ := fr.rf
  rw [XX3_setPlan] at h
  exact F.tr (flX3_setPlan_5  C R  _ _ _ _ h)
theorem flX3_takeLeastPlan_35 {rr : Sg} {x2_1 : Int32} {k94_5 : Int32 → Sg → Option Sg}  (C : True) (R : True) (hk94_5 : ∀ (x4_3 : Int32) (σ_4 : Sg), k94_5 x4_3 σ_4 = some rr → fr [(29, some 6), (31, none), (32, none), (33, none), (34, none), (38, some 5), (38, some 6), (39, none), (41, none), (42, none), (43, none), (44, none), (45, none)] σ_4 rr) : ∀ (n : Nat) (x3_7 : Int32) (x4_8 : Int32) (x5_9 : Int32) (x6_10 : Int32) (σ_11 : Sg), LX3_takeLeastPlan_35 x2_1 k94_5 n x3_7 x4_8 x5_9 x6_10 σ_11 = some rr → fr [(29, some 6), (31, none), (32, none), (33, none), (34, none), (38, some 5), (38, some 6), (39, none), (41, none), (42, none), (43, none), (44, none), (45, none)] σ_11 rr := by
  intro n
  induction n with
  | zero =>
    intro x3_7 x4_8 x5_9 x6_10 σ_11 h
    rw [LX3_takeLeastPlan_35] at h
    cases h
  | succ n ih =>
    intro x3_7 x4_8 x5_9 x6_10 σ_11 h
    rw [LX3_takeLeastPlan_35] at h
    have F : fr [(29, some 6), (31, none), (32, none), (33, none), (34, none), (38, some 5), (38, some 6), (39, none), (41, none), (42, none), (43, none), (44, none), (45, none)] σ_11 σ_11 := fr.rf
    rcases it_or h with ⟨hc, h⟩ | ⟨hc, h⟩
    · skip
      exact F.tr (hk94_5 _ _ h)
    · skip
      obtain ⟨σ_12, hq, h⟩ := b1_e h
      replace F := F.tr ((frX3_setPlan hq).mono (by simp))
      obtain ⟨r_13, σ_14, hq, h⟩ := b2_e h
      replace F := F.tr ((frX5_wholeCost hq).mono (by simp))
      refine jn (fun (kk : Int32 → Int32 → Option Sg) => ∀ (x4_15 : Int32) (x5_16 : Int32), kk x4_15 x5_16 = some rr → fr [(29, some 6), (31, none), (32, none), (33, none), (34, none), (38, some 5), (38, some 6), (39, none), (41, none), (42, none), (43, none), (44, none), (45, none)] σ_14 rr) h ?_ (fun k82_17 hk82_17 h => ?_)
      · intro x4_15 x5_16 h
        have F : fr [(29, some 6), (31, none), (32, none), (33, none), (34, none), (38, some 5), (38, some 6), (39, none), (41, none), (42, none), (43, none), (44, none), (45, none)] σ_14 σ_14 := fr.rf
        obtain ⟨r_18, hq, h⟩ := b1_e h
        obtain ⟨x6_19, h⟩ := lt_ex h
        exact F.tr (ih _ _ _ _ _ h)
      refine jn (fun (kk : Option Sg) => kk = some rr → fr [(29, some 6), (31, none), (32, none), (33, none), (34, none), (38, some 5), (38, some 6), (39, none), (41, none), (42, none), (43, none), (44, none), (45, none)] σ_14 rr) h ?_ (fun k75_20 hk75_20 h => ?_)
      · intro h
        have F : fr [(29, some 6), (31, none), (32, none), (33, none), (34, none), (38, some 5), (38, some 6), (39, none), (41, none), (42, none), (43, none), (44, none), (45, none)] σ_14 σ_14 := fr.rf
        exact F.tr (hk82_17 _ _ h)
      rcases it_or h with ⟨hc, h⟩ | ⟨hc, h⟩
      · skip
        exact F.tr (hk75_20 h)
      · skip
        rcases ie_or h with ⟨hc, h⟩ | ⟨hc, h⟩
        · skip
          exact F.tr (hk82_17 _ _ h)
        · skip
          obtain ⟨r_21, hq, h⟩ := b1_e h
          rcases it_or h with ⟨hc, h⟩ | ⟨hc, h⟩
          · skip
            exact F.tr (hk82_17 _ _ h)
          · skip
            exact F.tr (hk75_20 h)
theorem frX3_takeLeastPlan {σ : Sg} {rr : Sg} (h : XX3_takeLeastPlan σ = some rr) : fr [(29, some 6), (31, none), (32, none), (33, none), (34, none), (38, some 5), (38, some 6), (39, none), (41, none), (42, none), (43, none), (44, none), (45, none)] σ rr := by
  have C := trivial
  have R := trivial
  have F : fr [(29, some 6), (31, none), (32, none), (33, none), (34, none), (38, some 5), (38, some 6), (39, none), (41, none), (42, none), (43, none), (44, none), (45, none)] σ σ := fr.rf
  rw [XX3_takeLeastPlan] at h
  obtain ⟨x2_1, h⟩ := lt_ex h
  obtain ⟨x6_2, h⟩ := lt_ex h
  refine jn (fun (kk : Int32 → Sg → Option Sg) => ∀ (x4_3 : Int32) (σ_4 : Sg), kk x4_3 σ_4 = some rr → fr [(29, some 6), (31, none), (32, none), (33, none), (34, none), (38, some 5), (38, some 6), (39, none), (41, none), (42, none), (43, none), (44, none), (45, none)] σ_4 rr) h ?_ (fun k94_5 hk94_5 h => ?_)
  · intro x4_3 σ_4 h
    have F : fr [(29, some 6), (31, none), (32, none), (33, none), (34, none), (38, some 5), (38, some 6), (39, none), (41, none), (42, none), (43, none), (44, none), (45, none)] σ_4 σ_4 := fr.rf
    obtain ⟨σ_6, hq, h⟩ := b1_e h
    replace F := F.tr ((frX3_setPlan hq).mono (by simp))
    cases h
    exact F
  exact F.tr (flX3_takeLeastPlan_35  C R hk94_5 _ _ _ _ _ _ h)
theorem flX3_findEvery_17 {rr : Sg} {p1 : Int32} {x3_2 : Int32} {k74_5 : Sg → Option Sg}  (C : True) (R : True) (hk74_5 : ∀ (σ_4 : Sg), k74_5 σ_4 = some rr → fr [(46, some 5), (46, some 6), (47, none), (49, none), (50, none), (51, none), (52, none), (54, some 0), (54, some 1), (54, some 2)] σ_4 rr) : ∀ (n : Nat) (x4_7 : Int32) (σ_8 : Sg), LX3_findEvery_17 p1 x3_2 k74_5 n x4_7 σ_8 = some rr → fr [(46, some 5), (46, some 6), (47, none), (49, none), (50, none), (51, none), (52, none), (54, some 0), (54, some 1), (54, some 2)] σ_8 rr := by
  intro n
  induction n with
  | zero =>
    intro x4_7 σ_8 h
    rw [LX3_findEvery_17] at h
    cases h
  | succ n ih =>
    intro x4_7 σ_8 h
    rw [LX3_findEvery_17] at h
    have F : fr [(46, some 5), (46, some 6), (47, none), (49, none), (50, none), (51, none), (52, none), (54, some 0), (54, some 1), (54, some 2)] σ_8 σ_8 := fr.rf
    rcases it_or h with ⟨hc, h⟩ | ⟨hc, h⟩
    · skip
      exact F.tr (hk74_5 _ h)
    · skip
      obtain ⟨r_9, hq, h⟩ := b1_e h
      obtain ⟨σ_10, hq, h⟩ := b1_e h
      replace F := F.tr ((frX5_setVisits hq).mono (by simp))
      obtain ⟨r_11, hq, h⟩ := b1_e h
      refine jn (fun (kk : Sg → Option Sg) => ∀ (σ_12 : Sg), kk σ_12 = some rr → fr [(46, some 5), (46, some 6), (47, none), (49, none), (50, none), (51, none), (52, none), (54, some 0), (54, some 1), (54, some 2)] σ_12 rr) h ?_ (fun k68_13 hk68_13 h => ?_)
      · intro σ_12 h
        have F : fr [(46, some 5), (46, some 6), (47, none), (49, none), (50, none), (51, none), (52, none), (54, some 0), (54, some 1), (54, some 2)] σ_12 σ_12 := fr.rf
        obtain ⟨x4_14, h⟩ := lt_ex h
        exact F.tr (ih _ _ h)
      rcases it_or h with ⟨hc, h⟩ | ⟨hc, h⟩
      · skip
        exact F.tr (hk68_13 _ h)
      · skip
        obtain ⟨σ_15, f1, h⟩ := lt_upf h
        replace F := F.tr (f1.mono (by simp))
        obtain ⟨σ_16, f1, h⟩ := lt_upf h
        replace F := F.tr (f1.mono (by simp))
        obtain ⟨σ_17, f1, h⟩ := lt_upf h
        replace F := F.tr (f1.mono (by simp))
        exact F.tr (hk68_13 _ h)
theorem flX3_findEvery_9 {rr : Sg} {p1 : Int32}  (C : True) (R : True)  : ∀ (n : Nat) (x3_2 : Int32) (σ_3 : Sg), LX3_findEvery_9 p1 n x3_2 σ_3 = some rr → fr [(46, some 5), (46, some 6), (47, none), (49, none), (50, none), (51, none), (52, none), (54, some 0), (54, some 1), (54, some 2)] σ_3 rr := by
  intro n
  induction n with
  | zero =>
    intro x3_2 σ_3 h
    rw [LX3_findEvery_9] at h
    cases h
  | succ n ih =>
    intro x3_2 σ_3 h
    rw [LX3_findEvery_9] at h
    have F : fr [(46, some 5), (46, some 6), (47, none), (49, none), (50, none), (51, none), (52, none), (54, some 0), (54, some 1), (54, some 2)] σ_3 σ_3 := fr.rf
    rcases it_or h with ⟨hc, h⟩ | ⟨hc, h⟩
    · skip
      cases h
      exact F
    · skip
      refine jn (fun (kk : Sg → Option Sg) => ∀ (σ_4 : Sg), kk σ_4 = some rr → fr [(46, some 5), (46, some 6), (47, none), (49, none), (50, none), (51, none), (52, none), (54, some 0), (54, some 1), (54, some 2)] σ_4 rr) h ?_ (fun k74_5 hk74_5 h => ?_)
      · intro σ_4 h
        have F : fr [(46, some 5), (46, some 6), (47, none), (49, none), (50, none), (51, none), (52, none), (54, some 0), (54, some 1), (54, some 2)] σ_4 σ_4 := fr.rf
        obtain ⟨x3_6, h⟩ := lt_ex h
        exact F.tr (ih _ _ h)
      exact F.tr (flX3_findEvery_17  C R hk74_5 _ _ _ h)
theorem frX3_findEvery {p1 : Int32} {σ : Sg} {rr : Sg} (h : XX3_findEvery p1 σ = some rr) : fr [(46, some 5), (46, some 6), (47, none), (49, none), (50, none), (51, none), (52, none), (54, some 0), (54, some 1), (54, some 2)] σ rr := by
  have C := trivial
  have R := trivial
  have F : fr [(46, some 5), (46, some 6), (47, none), (49, none), (50, none), (51, none), (52, none), (54, some 0), (54, some 1), (54, some 2)] σ σ := fr.rf
  rw [XX3_findEvery] at h
  obtain ⟨σ_1, f1, h⟩ := lt_upf h
  replace F := F.tr (f1.mono (by simp))
  exact F.tr (flX3_findEvery_9  C R  _ _ _ h)
theorem flX4_scanWord_6 {rr : (Int32 × Sg)} {p2 : Int32} {σ : Sg} {k39_3 : Int32 → Int32 → Option (Int32 × Sg)}  (C : True) (R : True) (hk39_3 : ∀ (x4_1 : Int32) (x5_2 : Int32), k39_3 x4_1 x5_2 = some rr → fr [(20, none), (22, none)] σ rr.2) : ∀ (n : Nat) (x4_11 : Int32) (x5_12 : Int32), LX4_scanWord_6 p2 σ k39_3 n x4_11 x5_12 = some rr → fr [(20, none), (22, none)] σ rr.2 := by
  intro n
  induction n with
  | zero =>
    intro x4_11 x5_12 h
    rw [LX4_scanWord_6] at h
    cases h
  | succ n ih =>
    intro x4_11 x5_12 h
    rw [LX4_scanWord_6] at h
    have F : fr [(20, none), (22, none)] σ σ := fr.rf
    rcases it_or h with ⟨hc, h⟩ | ⟨hc, h⟩
    · skip
      exact F.tr (hk39_3 _ _ h)
    · skip
      obtain ⟨hb_13, h⟩ := gd h
      obtain ⟨r_14, hq, h⟩ := b1_e h
      rcases it_or h with ⟨hc, h⟩ | ⟨hc, h⟩
      · skip
        exact F.tr (hk39_3 _ _ h)
      · skip
        obtain ⟨r_15, hq, h⟩ := b1_e h
        obtain ⟨x4_16, h⟩ := lt_ex h
        exact F.tr (ih _ _ h)
theorem frX4_scanWord {p1 : Int32} {p2 : Int32} {σ : Sg} {rr : (Int32 × Sg)} (h : XX4_scanWord p1 p2 σ = some rr) : fr [(20, none), (22, none)] σ rr.2 := by
  have C := trivial
  have R := trivial
  have F : fr [(20, none), (22, none)] σ σ := fr.rf
  rw [XX4_scanWord] at h
  refine jn (fun (kk : Int32 → Int32 → Option (Int32 × Sg)) => ∀ (x4_1 : Int32) (x5_2 : Int32), kk x4_1 x5_2 = some rr → fr [(20, none), (22, none)] σ rr.2) h ?_ (fun k39_3 hk39_3 h => ?_)
  · intro x4_1 x5_2 h
    have F : fr [(20, none), (22, none)] σ σ := fr.rf
    obtain ⟨hb_5, h⟩ := gd h
    obtain ⟨σ_4, f1, h⟩ := lt_up h
    replace F := F.tr (f1.mono (by simp))
    refine jn (fun (kk : Int32 → Option (Int32 × Sg)) => ∀ (s_6 : Int32), kk s_6 = some rr → fr [(20, none), (22, none)] σ_4 rr.2) h ?_ (fun k78_7 hk78_7 h => ?_)
    · intro s_6 h
      have F : fr [(20, none), (22, none)] σ_4 σ_4 := fr.rf
      obtain ⟨hb_9, h⟩ := gd h
      obtain ⟨σ_8, f1, h⟩ := lt_up h
      replace F := F.tr (f1.mono (by simp))
      cases h
      exact F
    rcases it_or h with ⟨hc, h⟩ | ⟨hc, h⟩
    · skip
      obtain ⟨r_10, hq, h⟩ := b1_e h
      exact F.tr (hk78_7 _ h)
    · skip
      exact F.tr (hk78_7 _ h)
  exact F.tr (flX4_scanWord_6  C R hk39_3 _ _ _ h)
theorem flX4_scanNumber_6 {rr : (Int32 × Sg)} {p2 : Int32} {σ : Sg} {k43_3 : Int32 → Int32 → Option (Int32 × Sg)}  (C : True) (R : True) (hk43_3 : ∀ (x4_1 : Int32) (x5_2 : Int32), k43_3 x4_1 x5_2 = some rr → fr [(20, none), (22, none)] σ rr.2) : ∀ (n : Nat) (x4_16 : Int32) (x5_17 : Int32), LX4_scanNumber_6 p2 σ k43_3 n x4_16 x5_17 = some rr → fr [(20, none), (22, none)] σ rr.2 := by
  intro n
  induction n with
  | zero =>
    intro x4_16 x5_17 h
    rw [LX4_scanNumber_6] at h
    cases h
  | succ n ih =>
    intro x4_16 x5_17 h
    rw [LX4_scanNumber_6] at h
    have F : fr [(20, none), (22, none)] σ σ := fr.rf
    rcases it_or h with ⟨hc, h⟩ | ⟨hc, h⟩
    · skip
      exact F.tr (hk43_3 _ _ h)
    · skip
      obtain ⟨hb_18, h⟩ := gd h
      obtain ⟨r_19, hq, h⟩ := b1_e h
      rcases it_or h with ⟨hc, h⟩ | ⟨hc, h⟩
      · skip
        exact F.tr (hk43_3 _ _ h)
      · skip
        obtain ⟨x5_20, h⟩ := lt_ex h
        obtain ⟨x4_21, h⟩ := lt_ex h
        exact F.tr (ih _ _ h)
theorem frX4_scanNumber {p1 : Int32} {p2 : Int32} {σ : Sg} {rr : (Int32 × Sg)} (h : XX4_scanNumber p1 p2 σ = some rr) : fr [(20, none), (22, none)] σ rr.2 := by
  have C := trivial
  have R := trivial
  have F : fr [(20, none), (22, none)] σ σ := fr.rf
  rw [XX4_scanNumber] at h
  refine jn (fun (kk : Int32 → Int32 → Option (Int32 × Sg)) => ∀ (x4_1 : Int32) (x5_2 : Int32), kk x4_1 x5_2 = some rr → fr [(20, none), (22, none)] σ rr.2) h ?_ (fun k43_3 hk43_3 h => ?_)
  · intro x4_1 x5_2 h
    have F : fr [(20, none), (22, none)] σ σ := fr.rf
    refine jn (fun (kk : Int32 → Option (Int32 × Sg)) => ∀ (s_4 : Int32), kk s_4 = some rr → fr [(20, none), (22, none)] σ rr.2) h ?_ (fun k72_5 hk72_5 h => ?_)
    · intro s_4 h
      have F : fr [(20, none), (22, none)] σ σ := fr.rf
      obtain ⟨hb_7, h⟩ := gd h
      obtain ⟨σ_6, f1, h⟩ := lt_up h
      replace F := F.tr (f1.mono (by simp))
      refine jn (fun (kk : Int32 → Option (Int32 × Sg)) => ∀ (s_8 : Int32), kk s_8 = some rr → fr [(20, none), (22, none)] σ_6 rr.2) h ?_ (fun k105_9 hk105_9 h => ?_)
      · intro s_8 h
        have F : fr [(20, none), (22, none)] σ_6 σ_6 := fr.rf
        obtain ⟨hb_11, h⟩ := gd h
        obtain ⟨σ_10, f1, h⟩ := lt_up h
        replace F := F.tr (f1.mono (by simp))
        cases h
        exact F
      rcases it_or h with ⟨hc, h⟩ | ⟨hc, h⟩
      · skip
        exact F.tr (hk105_9 _ h)
      · skip
        exact F.tr (hk105_9 _ h)
    refine jn (fun (kk : Option (Int32 × Sg)) => kk = some rr → fr [(20, none), (22, none)] σ rr.2) h ?_ (fun k67_12 hk67_12 h => ?_)
    · intro h
      have F : fr [(20, none), (22, none)] σ σ := fr.rf
      exact F.tr (hk72_5 _ h)
    rcases it_or h with ⟨hc, h⟩ | ⟨hc, h⟩
    · skip
      exact F.tr (hk67_12 h)
    · skip
      refine jn (fun (kk : Option (Int32 × Sg)) => kk = some rr → fr [(20, none), (22, none)] σ rr.2) h ?_ (fun k71_13 hk71_13 h => ?_)
      · intro h
        have F : fr [(20, none), (22, none)] σ σ := fr.rf
        exact F.tr (hk72_5 _ h)
      rcases it_or h with ⟨hc, h⟩ | ⟨hc, h⟩
      · skip
        exact F.tr (hk71_13 h)
      · skip
        obtain ⟨hb_14, h⟩ := gd h
        obtain ⟨r_15, hq, h⟩ := b1_e h
        rcases it_or h with ⟨hc, h⟩ | ⟨hc, h⟩
        · skip
          exact F.tr (hk71_13 h)
        · skip
          exact F.tr (hk67_12 h)
  exact F.tr (flX4_scanNumber_6  C R hk43_3 _ _ _ h)
theorem flX4_scanAll_18 {rr : Sg} {p1 : Int32} {σ_4 : Sg} {k45_6 : Int32 → Option Sg}  (C : True) (R : True) (hk45_6 : ∀ (x3_5 : Int32), k45_6 x3_5 = some rr → fr [(10, some 7), (20, none), (21, none), (22, none)] σ_4 rr) : ∀ (n : Nat) (x3_29 : Int32), LX4_scanAll_18 p1 σ_4 k45_6 n x3_29 = some rr → fr [(10, some 7), (20, none), (21, none), (22, none)] σ_4 rr := by
  intro n
  induction n with
  | zero =>
    intro x3_29 h
    rw [LX4_scanAll_18] at h
    cases h
  | succ n ih =>
    intro x3_29 h
    rw [LX4_scanAll_18] at h
    have F : fr [(10, some 7), (20, none), (21, none), (22, none)] σ_4 σ_4 := fr.rf
    rcases it_or h with ⟨hc, h⟩ | ⟨hc, h⟩
    · skip
      exact F.tr (hk45_6 _ h)
    · skip
      obtain ⟨hb_30, h⟩ := gd h
      refine jn (fun (kk : Option Sg) => kk = some rr → fr [(10, some 7), (20, none), (21, none), (22, none)] σ_4 rr) h ?_ (fun k39_31 hk39_31 h => ?_)
      · intro h
        have F : fr [(10, some 7), (20, none), (21, none), (22, none)] σ_4 σ_4 := fr.rf
        obtain ⟨x3_32, h⟩ := lt_ex h
        exact F.tr (ih _ h)
      rcases it_or h with ⟨hc, h⟩ | ⟨hc, h⟩
      · skip
        exact F.tr (hk39_31 h)
      · skip
        rcases ie_or h with ⟨hc, h⟩ | ⟨hc, h⟩
        · skip
          exact F.tr (hk45_6 _ h)
        · skip
          exact F.tr (hk39_31 h)
theorem flX4_scanAll_10 {rr : Sg} {p1 : Int32}  (C : True) (R : True)  : ∀ (n : Nat) (x3_2 : Int32) (x4_3 : Int32) (σ_4 : Sg), LX4_scanAll_10 p1 n x3_2 x4_3 σ_4 = some rr → fr [(10, some 7), (20, none), (21, none), (22, none)] σ_4 rr := by
  intro n
  induction n with
  | zero =>
    intro x3_2 x4_3 σ_4 h
    rw [LX4_scanAll_10] at h
    cases h
  | succ n ih =>
    intro x3_2 x4_3 σ_4 h
    rw [LX4_scanAll_10] at h
    have F : fr [(10, some 7), (20, none), (21, none), (22, none)] σ_4 σ_4 := fr.rf
    rcases it_or h with ⟨hc, h⟩ | ⟨hc, h⟩
    · skip
      cases h
      exact F
    · skip
      refine jn (fun (kk : Int32 → Option Sg) => ∀ (x3_5 : Int32), kk x3_5 = some rr → fr [(10, some 7), (20, none), (21, none), (22, none)] σ_4 rr) h ?_ (fun k45_6 hk45_6 h => ?_)
      · intro x3_5 h
        have F : fr [(10, some 7), (20, none), (21, none), (22, none)] σ_4 σ_4 := fr.rf
        obtain ⟨hb_8, h⟩ := gd h
        obtain ⟨σ_7, f1, h⟩ := lt_up h
        replace F := F.tr (f1.mono (by simp))
        refine jn (fun (kk : Int32 → Sg → Option Sg) => ∀ (x3_9 : Int32) (σ_10 : Sg), kk x3_9 σ_10 = some rr → fr [(10, some 7), (20, none), (21, none), (22, none)] σ_10 rr) h ?_ (fun k150_11 hk150_11 h => ?_)
        · intro x3_9 σ_10 h
          have F : fr [(10, some 7), (20, none), (21, none), (22, none)] σ_10 σ_10 := fr.rf
          obtain ⟨σ_12, f1, h⟩ := lt_upf h
          replace F := F.tr (f1.mono (by simp))
          obtain ⟨hb_13, h⟩ := gd h
          rcases it_or h with ⟨hc, h⟩ | ⟨hc, h⟩
          · skip
            cases h
            exact F
          · skip
            rcases ie_or h with ⟨hc, h⟩ | ⟨hc, h⟩
            · skip
              obtain ⟨x4_14, h⟩ := lt_ex h
              exact F.tr (ih _ _ _ h)
            · skip
              cases h
              exact F
        rcases it_or h with ⟨hc, h⟩ | ⟨hc, h⟩
        · skip
          obtain ⟨hb_15, h⟩ := gd h
          rcases ie_or h with ⟨hc, h⟩ | ⟨hc, h⟩
          · skip
            obtain ⟨r_16, hq, h⟩ := b1_e h
            rcases it_or h with ⟨hc, h⟩ | ⟨hc, h⟩
            · skip
              obtain ⟨r_17, hq, h⟩ := b1_e h
              rcases it_or h with ⟨hc, h⟩ | ⟨hc, h⟩
              · skip
                obtain ⟨hb_19, h⟩ := gd h
                obtain ⟨σ_18, f1, h⟩ := lt_up h
                replace F := F.tr (f1.mono (by simp))
                exact F.tr (hk150_11 _ _ h)
              · skip
                obtain ⟨r_20, σ_21, hq, h⟩ := b2_e h
                replace F := F.tr ((frX4_scanNumber hq).mono (by simp))
                exact F.tr (hk150_11 _ _ h)
            · skip
              obtain ⟨r_22, σ_23, hq, h⟩ := b2_e h
              replace F := F.tr ((frX4_scanWord hq).mono (by simp))
              exact F.tr (hk150_11 _ _ h)
          · skip
            obtain ⟨hb_25, h⟩ := gd h
            obtain ⟨σ_24, f1, h⟩ := lt_up h
            replace F := F.tr (f1.mono (by simp))
            obtain ⟨x3_26, h⟩ := lt_ex h
            exact F.tr (hk150_11 _ _ h)
        · skip
          obtain ⟨hb_28, h⟩ := gd h
          obtain ⟨σ_27, f1, h⟩ := lt_up h
          replace F := F.tr (f1.mono (by simp))
          exact F.tr (hk150_11 _ _ h)
      exact F.tr (flX4_scanAll_18  C R hk45_6 _ _ h)
theorem frX4_scanAll {p1 : Int32} {σ : Sg} {rr : Sg} (h : XX4_scanAll p1 σ = some rr) : fr [(10, some 7), (20, none), (21, none), (22, none)] σ rr := by
  have C := trivial
  have R := trivial
  have F : fr [(10, some 7), (20, none), (21, none), (22, none)] σ σ := fr.rf
  rw [XX4_scanAll] at h
  obtain ⟨σ_1, f1, h⟩ := lt_upf h
  replace F := F.tr (f1.mono (by simp))
  exact F.tr (flX4_scanAll_10  C R  _ _ _ _ h)
theorem frX7_forget {k : Nat} {σ : Sg} {rr : Sg} (h : XX7_forget k σ = some rr) : fr [((k + 1), none), ((k + 2), none), ((k + 5), none), (k, some 0), (k, some 1), (k, some 2), (k, some 3), (k, some 4), (k, some 5), (k, some 6), (k, some 7)] σ rr := by
  have C := trivial
  have R := trivial
  have F : fr [((k + 1), none), ((k + 2), none), ((k + 5), none), (k, some 0), (k, some 1), (k, some 2), (k, some 3), (k, some 4), (k, some 5), (k, some 6), (k, some 7)] σ σ := fr.rf
  rw [XX7_forget] at h
  obtain ⟨σ_1, f1, h⟩ := lt_upf h
  replace F := F.tr (f1.mono (by simp))
  obtain ⟨σ_2, f1, h⟩ := lt_upf h
  replace F := F.tr (f1.mono (by simp))
  obtain ⟨σ_3, f1, h⟩ := lt_upf h
  replace F := F.tr (f1.mono (by simp))
  obtain ⟨σ_4, f1, h⟩ := lt_upf h
  replace F := F.tr (f1.mono (by simp))
  obtain ⟨σ_5, f1, h⟩ := lt_upf h
  replace F := F.tr (f1.mono (by simp))
  obtain ⟨σ_6, f1, h⟩ := lt_upf h
  replace F := F.tr (f1.mono (by simp))
  obtain ⟨σ_7, f1, h⟩ := lt_upf h
  replace F := F.tr (f1.mono (by simp))
  obtain ⟨σ_8, f1, h⟩ := lt_upf h
  replace F := F.tr (f1.mono (by simp))
  obtain ⟨σ_9, f1, h⟩ := lt_up h
  replace F := F.tr (f1.mono (by simp))
  obtain ⟨σ_10, f1, h⟩ := lt_up h
  replace F := F.tr (f1.mono (by simp))
  obtain ⟨σ_11, hq, h⟩ := b1_e h
  replace F := F.tr ((frJ7_fill_53178 hq).mono (by simp))
  cases h
  exact F
theorem frX4_step {σ : Sg} {rr : Sg} (h : XX4_step σ = some rr) : fr [(10, some 8), (10, some 9), (10, some 10), (10, some 11)] σ rr := by
  have C := trivial
  have R := trivial
  have F : fr [(10, some 8), (10, some 9), (10, some 10), (10, some 11)] σ σ := fr.rf
  rw [XX4_step] at h
  obtain ⟨x1_1, h⟩ := lt_ex h
  obtain ⟨hb_2, h⟩ := gd h
  obtain ⟨σ_3, f1, h⟩ := lt_upf h
  replace F := F.tr (f1.mono (by simp))
  obtain ⟨σ_4, f1, h⟩ := lt_upf h
  replace F := F.tr (f1.mono (by simp))
  obtain ⟨σ_5, f1, h⟩ := lt_upf h
  replace F := F.tr (f1.mono (by simp))
  obtain ⟨σ_6, f1, h⟩ := lt_upf h
  replace F := F.tr (f1.mono (by simp))
  cases h
  exact F
theorem frX4_refuse {p1 : Int32} {σ : Sg} {rr : (Int32 × Sg)} (h : XX4_refuse p1 σ = some rr) : fr [(10, some 1), (10, some 2)] σ rr.2 := by
  have C := trivial
  have R := trivial
  have F : fr [(10, some 1), (10, some 2)] σ σ := fr.rf
  rw [XX4_refuse] at h
  refine jn (fun (kk : Int32 → Option (Int32 × Sg)) => ∀ (s_1 : Int32), kk s_1 = some rr → fr [(10, some 1), (10, some 2)] σ rr.2) h ?_ (fun k15_2 hk15_2 h => ?_)
  · intro s_1 h
    have F : fr [(10, some 1), (10, some 2)] σ σ := fr.rf
    obtain ⟨σ_3, f1, h⟩ := lt_upf h
    replace F := F.tr (f1.mono (by simp))
    obtain ⟨σ_4, f1, h⟩ := lt_upf h
    replace F := F.tr (f1.mono (by simp))
    cases h
    exact F
  rcases ie_or h with ⟨hc, h⟩ | ⟨hc, h⟩
  · skip
    exact F.tr (hk15_2 _ h)
  · skip
    exact F.tr (hk15_2 _ h)
theorem frX4_isOnce {σ : Sg} {rr : (Int32 × Sg)} (h : XX4_isOnce σ = some rr) : fr [(10, some 1), (10, some 2), (10, some 12)] σ rr.2 := by
  have C := trivial
  have R := trivial
  have F : fr [(10, some 1), (10, some 2), (10, some 12)] σ σ := fr.rf
  rw [XX4_isOnce] at h
  obtain ⟨x1_1, h⟩ := lt_ex h
  refine jn (fun (kk : Option (Int32 × Sg)) => kk = some rr → fr [(10, some 1), (10, some 2), (10, some 12)] σ rr.2) h ?_ (fun k26_2 hk26_2 h => ?_)
  · intro h
    have F : fr [(10, some 1), (10, some 2), (10, some 12)] σ σ := fr.rf
    obtain ⟨r_3, σ_4, hq, h⟩ := b2_e h
    replace F := F.tr ((frX4_refuse hq).mono (by simp))
    obtain ⟨hn_5, h⟩ := gd h
    cases h
    exact F
  rcases ie_or h with ⟨hc, h⟩ | ⟨hc, h⟩
  · skip
    exact F.tr (hk26_2 h)
  · skip
    rcases it_or h with ⟨hc, h⟩ | ⟨hc, h⟩
    · skip
      obtain ⟨σ_6, f1, h⟩ := lt_upf h
      replace F := F.tr (f1.mono (by simp))
      cases h
      exact F
    · skip
      exact F.tr (hk26_2 h)
theorem frX4_isNumber {p1 : Int32} {p2 : Int32} {σ : Sg} {rr : (Int32 × Sg)} (h : XX4_isNumber p1 p2 σ = some rr) : fr [(10, some 1), (10, some 2)] σ rr.2 := by
  have C := trivial
  have R := trivial
  have F : fr [(10, some 1), (10, some 2)] σ σ := fr.rf
  rw [XX4_isNumber] at h
  rcases it_or h with ⟨hc, h⟩ | ⟨hc, h⟩
  · skip
    refine jn (fun (kk : Sg → Option (Int32 × Sg)) => ∀ (σ_1 : Sg), kk σ_1 = some rr → fr [(10, some 1), (10, some 2)] σ_1 rr.2) h ?_ (fun k39_2 hk39_2 h => ?_)
    · intro σ_1 h
      have F : fr [(10, some 1), (10, some 2)] σ_1 σ_1 := fr.rf
      cases h
      exact F
    refine jn (fun (kk : Option (Int32 × Sg)) => kk = some rr → fr [(10, some 1), (10, some 2)] σ rr.2) h ?_ (fun k31_3 hk31_3 h => ?_)
    · intro h
      have F : fr [(10, some 1), (10, some 2)] σ σ := fr.rf
      obtain ⟨r_4, σ_5, hq, h⟩ := b2_e h
      replace F := F.tr ((frX4_refuse hq).mono (by simp))
      rcases it_or h with ⟨hc, h⟩ | ⟨hc, h⟩
      · skip
        cases h
        exact F
      · skip
        exact F.tr (hk39_2 _ h)
    rcases it_or h with ⟨hc, h⟩ | ⟨hc, h⟩
    · skip
      exact F.tr (hk31_3 h)
    · skip
      rcases it_or h with ⟨hc, h⟩ | ⟨hc, h⟩
      · skip
        exact F.tr (hk39_2 _ h)
      · skip
        exact F.tr (hk31_3 h)
  · skip
    obtain ⟨r_6, σ_7, hq, h⟩ := b2_e h
    replace F := F.tr ((frX4_refuse hq).mono (by simp))
    obtain ⟨hn_8, h⟩ := gd h
    cases h
    exact F
theorem frX4_wantNumber {p1 : Int32} {p2 : Int32} {σ : Sg} {rr : (Int32 × Sg)} (h : XX4_wantNumber p1 p2 σ = some rr) : fr [(10, some 1), (10, some 2), (10, some 8), (10, some 9), (10, some 10), (10, some 11)] σ rr.2 := by
  have C := trivial
  have R := trivial
  have F : fr [(10, some 1), (10, some 2), (10, some 8), (10, some 9), (10, some 10), (10, some 11)] σ σ := fr.rf
  rw [XX4_wantNumber] at h
  obtain ⟨σ_1, hq, h⟩ := b1_e h
  replace F := F.tr ((frX4_step hq).mono (by simp))
  obtain ⟨r_2, σ_3, hq, h⟩ := b2_e h
  replace F := F.tr ((frX4_isNumber hq).mono (by simp))
  obtain ⟨hn_4, h⟩ := gd h
  cases h
  exact F
theorem frX4_want {p1 : Int32} {σ : Sg} {rr : (Int32 × Sg)} (h : XX4_want p1 σ = some rr) : fr [(10, some 1), (10, some 2), (10, some 8), (10, some 9), (10, some 10), (10, some 11)] σ rr.2 := by
  have C := trivial
  have R := trivial
  have F : fr [(10, some 1), (10, some 2), (10, some 8), (10, some 9), (10, some 10), (10, some 11)] σ σ := fr.rf
  rw [XX4_want] at h
  obtain ⟨σ_1, hq, h⟩ := b1_e h
  replace F := F.tr ((frX4_step hq).mono (by simp))
  refine jn (fun (kk : Sg → Option (Int32 × Sg)) => ∀ (σ_2 : Sg), kk σ_2 = some rr → fr [(10, some 1), (10, some 2), (10, some 8), (10, some 9), (10, some 10), (10, some 11)] σ_2 rr.2) h ?_ (fun k20_3 hk20_3 h => ?_)
  · intro σ_2 h
    have F : fr [(10, some 1), (10, some 2), (10, some 8), (10, some 9), (10, some 10), (10, some 11)] σ_2 σ_2 := fr.rf
    cases h
    exact F
  rcases it_or h with ⟨hc, h⟩ | ⟨hc, h⟩
  · skip
    exact F.tr (hk20_3 _ h)
  · skip
    obtain ⟨r_4, σ_5, hq, h⟩ := b2_e h
    replace F := F.tr ((frX4_refuse hq).mono (by simp))
    rcases it_or h with ⟨hc, h⟩ | ⟨hc, h⟩
    · skip
      cases h
      exact F
    · skip
      exact F.tr (hk20_3 _ h)
theorem frX4_readDays {σ : Sg} {rr : (Int32 × Sg)} (h : XX4_readDays σ = some rr) : fr [(10, some 1), (10, some 2), (10, some 8), (10, some 9), (10, some 10), (10, some 11), (11, some 0)] σ rr.2 := by
  have C := trivial
  have R := trivial
  have F : fr [(10, some 1), (10, some 2), (10, some 8), (10, some 9), (10, some 10), (10, some 11), (11, some 0)] σ σ := fr.rf
  rw [XX4_readDays] at h
  obtain ⟨r_1, σ_2, hq, h⟩ := b2_e h
  replace F := F.tr ((frX4_wantNumber hq).mono (by simp))
  rcases ie_or h with ⟨hc, h⟩ | ⟨hc, h⟩
  · skip
    obtain ⟨σ_3, f1, h⟩ := lt_upf h
    replace F := F.tr (f1.mono (by simp))
    obtain ⟨r_4, σ_5, hq, h⟩ := b2_e h
    replace F := F.tr ((frX4_want hq).mono (by simp))
    obtain ⟨hn_6, h⟩ := gd h
    cases h
    exact F
  · skip
    cases h
    exact F
theorem frX4_readDepot {σ : Sg} {rr : (Int32 × Sg)} (h : XX4_readDepot σ = some rr) : fr [(10, some 1), (10, some 2), (10, some 8), (10, some 9), (10, some 10), (10, some 11), (12, none), (13, none)] σ rr.2 := by
  have C := trivial
  have R := trivial
  have F : fr [(10, some 1), (10, some 2), (10, some 8), (10, some 9), (10, some 10), (10, some 11), (12, none), (13, none)] σ σ := fr.rf
  rw [XX4_readDepot] at h
  obtain ⟨r_1, σ_2, hq, h⟩ := b2_e h
  replace F := F.tr ((frX4_wantNumber hq).mono (by simp))
  rcases ie_or h with ⟨hc, h⟩ | ⟨hc, h⟩
  · skip
    obtain ⟨σ_3, f1, h⟩ := lt_up h
    replace F := F.tr (f1.mono (by simp))
    obtain ⟨r_4, σ_5, hq, h⟩ := b2_e h
    replace F := F.tr ((frX4_wantNumber hq).mono (by simp))
    rcases ie_or h with ⟨hc, h⟩ | ⟨hc, h⟩
    · skip
      obtain ⟨σ_6, f1, h⟩ := lt_up h
      replace F := F.tr (f1.mono (by simp))
      obtain ⟨r_7, σ_8, hq, h⟩ := b2_e h
      replace F := F.tr ((frX4_want hq).mono (by simp))
      obtain ⟨hn_9, h⟩ := gd h
      cases h
      exact F
    · skip
      cases h
      exact F
  · skip
    cases h
    exact F
theorem frX4_readTruck {σ : Sg} {rr : (Int32 × Sg)} (h : XX4_readTruck σ = some rr) : fr [(10, some 1), (10, some 2), (10, some 8), (10, some 9), (10, some 10), (10, some 11), (11, some 1), (11, some 2), (11, some 3)] σ rr.2 := by
  have C := trivial
  have R := trivial
  have F : fr [(10, some 1), (10, some 2), (10, some 8), (10, some 9), (10, some 10), (10, some 11), (11, some 1), (11, some 2), (11, some 3)] σ σ := fr.rf
  rw [XX4_readTruck] at h
  obtain ⟨r_1, σ_2, hq, h⟩ := b2_e h
  replace F := F.tr ((frX4_wantNumber hq).mono (by simp))
  rcases ie_or h with ⟨hc, h⟩ | ⟨hc, h⟩
  · skip
    obtain ⟨σ_3, f1, h⟩ := lt_upf h
    replace F := F.tr (f1.mono (by simp))
    obtain ⟨σ_4, hq, h⟩ := b1_e h
    replace F := F.tr ((frX4_step hq).mono (by simp))
    refine jn (fun (kk : Sg → Option (Int32 × Sg)) => ∀ (σ_5 : Sg), kk σ_5 = some rr → fr [(10, some 1), (10, some 2), (10, some 8), (10, some 9), (10, some 10), (10, some 11), (11, some 1), (11, some 2), (11, some 3)] σ_5 rr.2) h ?_ (fun k62_6 hk62_6 h => ?_)
    · intro σ_5 h
      have F : fr [(10, some 1), (10, some 2), (10, some 8), (10, some 9), (10, some 10), (10, some 11), (11, some 1), (11, some 2), (11, some 3)] σ_5 σ_5 := fr.rf
      refine jn (fun (kk : Sg → Option (Int32 × Sg)) => ∀ (σ_7 : Sg), kk σ_7 = some rr → fr [(10, some 1), (10, some 2), (10, some 8), (10, some 9), (10, some 10), (10, some 11), (11, some 1), (11, some 2), (11, some 3)] σ_7 rr.2) h ?_ (fun k97_8 hk97_8 h => ?_)
      · intro σ_7 h
        have F : fr [(10, some 1), (10, some 2), (10, some 8), (10, some 9), (10, some 10), (10, some 11), (11, some 1), (11, some 2), (11, some 3)] σ_7 σ_7 := fr.rf
        refine jn (fun (kk : Sg → Option (Int32 × Sg)) => ∀ (σ_9 : Sg), kk σ_9 = some rr → fr [(10, some 1), (10, some 2), (10, some 8), (10, some 9), (10, some 10), (10, some 11), (11, some 1), (11, some 2), (11, some 3)] σ_9 rr.2) h ?_ (fun k114_10 hk114_10 h => ?_)
        · intro σ_9 h
          have F : fr [(10, some 1), (10, some 2), (10, some 8), (10, some 9), (10, some 10), (10, some 11), (11, some 1), (11, some 2), (11, some 3)] σ_9 σ_9 := fr.rf
          cases h
          exact F
        rcases it_or h with ⟨hc, h⟩ | ⟨hc, h⟩
        · skip
          exact F.tr (hk114_10 _ h)
        · skip
          obtain ⟨r_11, σ_12, hq, h⟩ := b2_e h
          replace F := F.tr ((frX4_refuse hq).mono (by simp))
          rcases it_or h with ⟨hc, h⟩ | ⟨hc, h⟩
          · skip
            cases h
            exact F
          · skip
            exact F.tr (hk114_10 _ h)
      rcases ie_or h with ⟨hc, h⟩ | ⟨hc, h⟩
      · skip
        exact F.tr (hk97_8 _ h)
      · skip
        obtain ⟨r_13, σ_14, hq, h⟩ := b2_e h
        replace F := F.tr ((frX4_wantNumber hq).mono (by simp))
        rcases ie_or h with ⟨hc, h⟩ | ⟨hc, h⟩
        · skip
          obtain ⟨σ_15, f1, h⟩ := lt_upf h
          replace F := F.tr (f1.mono (by simp))
          obtain ⟨σ_16, hq, h⟩ := b1_e h
          replace F := F.tr ((frX4_step hq).mono (by simp))
          exact F.tr (hk97_8 _ h)
        · skip
          cases h
          exact F
    rcases ie_or h with ⟨hc, h⟩ | ⟨hc, h⟩
    · skip
      exact F.tr (hk62_6 _ h)
    · skip
      obtain ⟨r_17, σ_18, hq, h⟩ := b2_e h
      replace F := F.tr ((frX4_wantNumber hq).mono (by simp))
      rcases ie_or h with ⟨hc, h⟩ | ⟨hc, h⟩
      · skip
        obtain ⟨σ_19, f1, h⟩ := lt_upf h
        replace F := F.tr (f1.mono (by simp))
        obtain ⟨σ_20, hq, h⟩ := b1_e h
        replace F := F.tr ((frX4_step hq).mono (by simp))
        exact F.tr (hk62_6 _ h)
      · skip
        cases h
        exact F
  · skip
    cases h
    exact F
theorem frX4_readHold {σ : Sg} {rr : (Int32 × Sg)} (h : XX4_readHold σ = some rr) : fr [(10, some 1), (10, some 2), (10, some 8), (10, some 9), (10, some 10), (10, some 11), (11, some 4)] σ rr.2 := by
  have C := trivial
  have R := trivial
  have F : fr [(10, some 1), (10, some 2), (10, some 8), (10, some 9), (10, some 10), (10, some 11), (11, some 4)] σ σ := fr.rf
  rw [XX4_readHold] at h
  obtain ⟨r_1, σ_2, hq, h⟩ := b2_e h
  replace F := F.tr ((frX4_wantNumber hq).mono (by simp))
  rcases ie_or h with ⟨hc, h⟩ | ⟨hc, h⟩
  · skip
    obtain ⟨σ_3, f1, h⟩ := lt_upf h
    replace F := F.tr (f1.mono (by simp))
    obtain ⟨r_4, σ_5, hq, h⟩ := b2_e h
    replace F := F.tr ((frX4_want hq).mono (by simp))
    obtain ⟨hn_6, h⟩ := gd h
    cases h
    exact F
  · skip
    cases h
    exact F
theorem frX4_readLost {σ : Sg} {rr : (Int32 × Sg)} (h : XX4_readLost σ = some rr) : fr [(10, some 1), (10, some 2), (10, some 8), (10, some 9), (10, some 10), (10, some 11), (11, some 5)] σ rr.2 := by
  have C := trivial
  have R := trivial
  have F : fr [(10, some 1), (10, some 2), (10, some 8), (10, some 9), (10, some 10), (10, some 11), (11, some 5)] σ σ := fr.rf
  rw [XX4_readLost] at h
  obtain ⟨r_1, σ_2, hq, h⟩ := b2_e h
  replace F := F.tr ((frX4_wantNumber hq).mono (by simp))
  rcases ie_or h with ⟨hc, h⟩ | ⟨hc, h⟩
  · skip
    obtain ⟨σ_3, f1, h⟩ := lt_upf h
    replace F := F.tr (f1.mono (by simp))
    obtain ⟨r_4, σ_5, hq, h⟩ := b2_e h
    replace F := F.tr ((frX4_want hq).mono (by simp))
    obtain ⟨hn_6, h⟩ := gd h
    cases h
    exact F
  · skip
    cases h
    exact F
theorem flX4_readSold_78 {rr : (Int32 × Sg)} {p1 : Int32} {x2_2 : Int32} {k116_10 : Sg → Option (Int32 × Sg)}  (C : True) (R : True) (hk116_10 : ∀ (σ_9 : Sg), k116_10 σ_9 = some rr → fr [(10, some 1), (10, some 2), (10, some 8), (10, some 9), (10, some 10), (10, some 11), (11, some 6), (16, none), (24, none)] σ_9 rr.2) : ∀ (n : Nat) (x3_12 : Int32) (σ_13 : Sg), LX4_readSold_78 p1 x2_2 k116_10 n x3_12 σ_13 = some rr → fr [(10, some 1), (10, some 2), (10, some 8), (10, some 9), (10, some 10), (10, some 11), (11, some 6), (16, none), (24, none)] σ_13 rr.2 := by
  intro n
  induction n with
  | zero =>
    intro x3_12 σ_13 h
    rw [LX4_readSold_78] at h
    cases h
  | succ n ih =>
    intro x3_12 σ_13 h
    rw [LX4_readSold_78] at h
    have F : fr [(10, some 1), (10, some 2), (10, some 8), (10, some 9), (10, some 10), (10, some 11), (11, some 6), (16, none), (24, none)] σ_13 σ_13 := fr.rf
    rcases it_or h with ⟨hc, h⟩ | ⟨hc, h⟩
    · skip
      exact F.tr (hk116_10 _ h)
    · skip
      obtain ⟨r_14, hq, h⟩ := b1_e h
      obtain ⟨hz_15, h⟩ := gd h
      obtain ⟨hb_16, h⟩ := gd h
      obtain ⟨hb_18, h⟩ := gd h
      obtain ⟨σ_17, f1, h⟩ := lt_up h
      replace F := F.tr (f1.mono (by simp))
      obtain ⟨x3_19, h⟩ := lt_ex h
      exact F.tr (ih _ _ h)
theorem flX4_readSold_6 {rr : (Int32 × Sg)} {k57_4 : Int32 → Sg → Option (Int32 × Sg)}  (C : True) (R : True) (hk57_4 : ∀ (x2_2 : Int32) (σ_3 : Sg), k57_4 x2_2 σ_3 = some rr → fr [(10, some 1), (10, some 2), (10, some 8), (10, some 9), (10, some 10), (10, some 11), (11, some 6), (16, none), (24, none)] σ_3 rr.2) : ∀ (n : Nat) (x2_20 : Int32) (σ_21 : Sg), LX4_readSold_6 k57_4 n x2_20 σ_21 = some rr → fr [(10, some 1), (10, some 2), (10, some 8), (10, some 9), (10, some 10), (10, some 11), (11, some 6), (16, none), (24, none)] σ_21 rr.2 := by
  intro n
  induction n with
  | zero =>
    intro x2_20 σ_21 h
    rw [LX4_readSold_6] at h
    cases h
  | succ n ih =>
    intro x2_20 σ_21 h
    rw [LX4_readSold_6] at h
    have F : fr [(10, some 1), (10, some 2), (10, some 8), (10, some 9), (10, some 10), (10, some 11), (11, some 6), (16, none), (24, none)] σ_21 σ_21 := fr.rf
    rcases it_or h with ⟨hc, h⟩ | ⟨hc, h⟩
    · skip
      exact F.tr (hk57_4 _ _ h)
    · skip
      refine jn (fun (kk : Option (Int32 × Sg)) => kk = some rr → fr [(10, some 1), (10, some 2), (10, some 8), (10, some 9), (10, some 10), (10, some 11), (11, some 6), (16, none), (24, none)] σ_21 rr.2) h ?_ (fun k25_22 hk25_22 h => ?_)
      · intro h
        have F : fr [(10, some 1), (10, some 2), (10, some 8), (10, some 9), (10, some 10), (10, some 11), (11, some 6), (16, none), (24, none)] σ_21 σ_21 := fr.rf
        obtain ⟨r_23, σ_24, hq, h⟩ := b2_e h
        replace F := F.tr ((frX4_isNumber hq).mono (by simp))
        rcases ie_or h with ⟨hc, h⟩ | ⟨hc, h⟩
        · skip
          obtain ⟨hb_26, h⟩ := gd h
          obtain ⟨σ_25, f1, h⟩ := lt_up h
          replace F := F.tr (f1.mono (by simp))
          obtain ⟨x2_27, h⟩ := lt_ex h
          obtain ⟨σ_28, hq, h⟩ := b1_e h
          replace F := F.tr ((frX4_step hq).mono (by simp))
          exact F.tr (ih _ _ h)
        · skip
          cases h
          exact F
      rcases ie_or h with ⟨hc, h⟩ | ⟨hc, h⟩
      · skip
        exact F.tr (hk25_22 h)
      · skip
        rcases ie_or h with ⟨hc, h⟩ | ⟨hc, h⟩
        · skip
          exact F.tr (hk57_4 _ _ h)
        · skip
          exact F.tr (hk25_22 h)
theorem frX4_readSold {p1 : Int32} {σ : Sg} {rr : (Int32 × Sg)} (h : XX4_readSold p1 σ = some rr) : fr [(10, some 1), (10, some 2), (10, some 8), (10, some 9), (10, some 10), (10, some 11), (11, some 6), (16, none), (24, none)] σ rr.2 := by
  have C := trivial
  have R := trivial
  have F : fr [(10, some 1), (10, some 2), (10, some 8), (10, some 9), (10, some 10), (10, some 11), (11, some 6), (16, none), (24, none)] σ σ := fr.rf
  rw [XX4_readSold] at h
  obtain ⟨σ_1, hq, h⟩ := b1_e h
  replace F := F.tr ((frX4_step hq).mono (by simp))
  refine jn (fun (kk : Int32 → Sg → Option (Int32 × Sg)) => ∀ (x2_2 : Int32) (σ_3 : Sg), kk x2_2 σ_3 = some rr → fr [(10, some 1), (10, some 2), (10, some 8), (10, some 9), (10, some 10), (10, some 11), (11, some 6), (16, none), (24, none)] σ_3 rr.2) h ?_ (fun k57_4 hk57_4 h => ?_)
  · intro x2_2 σ_3 h
    have F : fr [(10, some 1), (10, some 2), (10, some 8), (10, some 9), (10, some 10), (10, some 11), (11, some 6), (16, none), (24, none)] σ_3 σ_3 := fr.rf
    refine jn (fun (kk : Option (Int32 × Sg)) => kk = some rr → fr [(10, some 1), (10, some 2), (10, some 8), (10, some 9), (10, some 10), (10, some 11), (11, some 6), (16, none), (24, none)] σ_3 rr.2) h ?_ (fun k70_5 hk70_5 h => ?_)
    · intro h
      have F : fr [(10, some 1), (10, some 2), (10, some 8), (10, some 9), (10, some 10), (10, some 11), (11, some 6), (16, none), (24, none)] σ_3 σ_3 := fr.rf
      obtain ⟨r_6, σ_7, hq, h⟩ := b2_e h
      replace F := F.tr ((frX4_refuse hq).mono (by simp))
      obtain ⟨hn_8, h⟩ := gd h
      cases h
      exact F
    rcases ie_or h with ⟨hc, h⟩ | ⟨hc, h⟩
    · skip
      exact F.tr (hk70_5 h)
    · skip
      rcases ie_or h with ⟨hc, h⟩ | ⟨hc, h⟩
      · skip
        refine jn (fun (kk : Sg → Option (Int32 × Sg)) => ∀ (σ_9 : Sg), kk σ_9 = some rr → fr [(10, some 1), (10, some 2), (10, some 8), (10, some 9), (10, some 10), (10, some 11), (11, some 6), (16, none), (24, none)] σ_9 rr.2) h ?_ (fun k116_10 hk116_10 h => ?_)
        · intro σ_9 h
          have F : fr [(10, some 1), (10, some 2), (10, some 8), (10, some 9), (10, some 10), (10, some 11), (11, some 6), (16, none), (24, none)] σ_9 σ_9 := fr.rf
          obtain ⟨σ_11, f1, h⟩ := lt_upf h
          replace F := F.tr (f1.mono (by simp))
          cases h
          exact F
        exact F.tr (flX4_readSold_78  C R hk116_10 _ _ _ h)
      · skip
        exact F.tr (hk70_5 h)
  exact F.tr (flX4_readSold_6  C R hk57_4 _ _ _ h)
theorem frX4_readShop {σ : Sg} {rr : (Int32 × Sg)} (h : XX4_readShop σ = some rr) : fr [(10, some 1), (10, some 2), (10, some 8), (10, some 9), (10, some 10), (10, some 11), (11, some 6), (12, none), (13, none), (14, none), (15, none), (16, none), (23, none), (24, none)] σ rr.2 := by
  have C := trivial
  have R := trivial
  have F : fr [(10, some 1), (10, some 2), (10, some 8), (10, some 9), (10, some 10), (10, some 11), (11, some 6), (12, none), (13, none), (14, none), (15, none), (16, none), (23, none), (24, none)] σ σ := fr.rf
  rw [XX4_readShop] at h
  obtain ⟨x1_1, h⟩ := lt_ex h
  rcases it_or h with ⟨hc, h⟩ | ⟨hc, h⟩
  · skip
    obtain ⟨r_2, σ_3, hq, h⟩ := b2_e h
    replace F := F.tr ((frX4_want hq).mono (by simp))
    rcases ie_or h with ⟨hc, h⟩ | ⟨hc, h⟩
    · skip
      obtain ⟨r_4, hq, h⟩ := b1_e h
      rcases it_or h with ⟨hc, h⟩ | ⟨hc, h⟩
      · skip
        obtain ⟨hb_6, h⟩ := gd h
        obtain ⟨σ_5, f1, h⟩ := lt_up h
        replace F := F.tr (f1.mono (by simp))
        obtain ⟨r_7, σ_8, hq, h⟩ := b2_e h
        replace F := F.tr ((frX4_want hq).mono (by simp))
        rcases it_or h with ⟨hc, h⟩ | ⟨hc, h⟩
        · skip
          cases h
          exact F
        · skip
          obtain ⟨r_9, σ_10, hq, h⟩ := b2_e h
          replace F := F.tr ((frX4_wantNumber hq).mono (by simp))
          rcases ie_or h with ⟨hc, h⟩ | ⟨hc, h⟩
          · skip
            obtain ⟨hb_12, h⟩ := gd h
            obtain ⟨σ_11, f1, h⟩ := lt_up h
            replace F := F.tr (f1.mono (by simp))
            obtain ⟨r_13, σ_14, hq, h⟩ := b2_e h
            replace F := F.tr ((frX4_wantNumber hq).mono (by simp))
            rcases ie_or h with ⟨hc, h⟩ | ⟨hc, h⟩
            · skip
              obtain ⟨σ_15, f1, h⟩ := lt_up h
              replace F := F.tr (f1.mono (by simp))
              obtain ⟨r_16, σ_17, hq, h⟩ := b2_e h
              replace F := F.tr ((frX4_want hq).mono (by simp))
              rcases it_or h with ⟨hc, h⟩ | ⟨hc, h⟩
              · skip
                cases h
                exact F
              · skip
                obtain ⟨r_18, σ_19, hq, h⟩ := b2_e h
                replace F := F.tr ((frX4_wantNumber hq).mono (by simp))
                rcases ie_or h with ⟨hc, h⟩ | ⟨hc, h⟩
                · skip
                  obtain ⟨σ_20, f1, h⟩ := lt_up h
                  replace F := F.tr (f1.mono (by simp))
                  obtain ⟨r_21, σ_22, hq, h⟩ := b2_e h
                  replace F := F.tr ((frX4_want hq).mono (by simp))
                  rcases it_or h with ⟨hc, h⟩ | ⟨hc, h⟩
                  · skip
                    cases h
                    exact F
                  · skip
                    obtain ⟨r_23, σ_24, hq, h⟩ := b2_e h
                    replace F := F.tr ((frX4_wantNumber hq).mono (by simp))
                    rcases ie_or h with ⟨hc, h⟩ | ⟨hc, h⟩
                    · skip
                      obtain ⟨σ_25, f1, h⟩ := lt_up h
                      replace F := F.tr (f1.mono (by simp))
                      obtain ⟨r_26, σ_27, hq, h⟩ := b2_e h
                      replace F := F.tr ((frX4_want hq).mono (by simp))
                      refine jn (fun (kk : Sg → Option (Int32 × Sg)) => ∀ (σ_28 : Sg), kk σ_28 = some rr → fr [(10, some 1), (10, some 2), (10, some 8), (10, some 9), (10, some 10), (10, some 11), (11, some 6), (12, none), (13, none), (14, none), (15, none), (16, none), (23, none), (24, none)] σ_28 rr.2) h ?_ (fun k219_29 hk219_29 h => ?_)
                      · intro σ_28 h
                        have F : fr [(10, some 1), (10, some 2), (10, some 8), (10, some 9), (10, some 10), (10, some 11), (11, some 6), (12, none), (13, none), (14, none), (15, none), (16, none), (23, none), (24, none)] σ_28 σ_28 := fr.rf
                        cases h
                        exact F
                      rcases it_or h with ⟨hc, h⟩ | ⟨hc, h⟩
                      · skip
                        exact F.tr (hk219_29 _ h)
                      · skip
                        obtain ⟨r_30, σ_31, hq, h⟩ := b2_e h
                        replace F := F.tr ((frX4_readSold hq).mono (by simp))
                        rcases it_or h with ⟨hc, h⟩ | ⟨hc, h⟩
                        · skip
                          exact F.tr (hk219_29 _ h)
                        · skip
                          cases h
                          exact F
                    · skip
                      cases h
                      exact F
                · skip
                  cases h
                  exact F
            · skip
              cases h
              exact F
          · skip
            cases h
            exact F
      · skip
        obtain ⟨r_32, σ_33, hq, h⟩ := b2_e h
        replace F := F.tr ((frX4_refuse hq).mono (by simp))
        obtain ⟨hn_34, h⟩ := gd h
        cases h
        exact F
    · skip
      cases h
      exact F
  · skip
    obtain ⟨r_35, σ_36, hq, h⟩ := b2_e h
    replace F := F.tr ((frX4_refuse hq).mono (by simp))
    obtain ⟨hn_37, h⟩ := gd h
    cases h
    exact F
theorem frX7_addRush {k : Nat} {p1 : Int32} {p2 : Int32} {p3 : Int32} {σ : Sg} {rr : Sg} (h : XX7_addRush k p1 p2 p3 σ = some rr) : fr [((k + 5), none), ((k + 6), none), ((k + 7), none), (k, some 7)] σ rr := by
  have C := trivial
  have R := trivial
  have F : fr [((k + 5), none), ((k + 6), none), ((k + 7), none), (k, some 7)] σ σ := fr.rf
  rw [XX7_addRush] at h
  rcases it_or h with ⟨hc, h⟩ | ⟨hc, h⟩
  · skip
    obtain ⟨r_1, hq, h⟩ := b1_e h
    obtain ⟨hb_3, h⟩ := gd h
    obtain ⟨σ_2, f1, h⟩ := lt_up h
    replace F := F.tr (f1.mono (by simp))
    obtain ⟨hb_5, h⟩ := gd h
    obtain ⟨σ_4, f1, h⟩ := lt_up h
    replace F := F.tr (f1.mono (by simp))
    obtain ⟨hb_6, h⟩ := gd h
    obtain ⟨d_7, h⟩ := lt_ex h
    obtain ⟨hb_8, h⟩ := gd h
    obtain ⟨σ_9, f1, h⟩ := lt_up h
    replace F := F.tr (f1.mono (by simp))
    obtain ⟨σ_10, f1, h⟩ := lt_upf h
    replace F := F.tr (f1.mono (by simp))
    cases h
    exact F
  · skip
    cases h
    exact F
theorem frX4_readRush {σ : Sg} {rr : (Int32 × Sg)} (h : XX4_readRush σ = some rr) : fr [(10, some 1), (10, some 2), (10, some 8), (10, some 9), (10, some 10), (10, some 11), (11, some 7), (16, none), (17, none), (18, none)] σ rr.2 := by
  have C := trivial
  have R := trivial
  have F : fr [(10, some 1), (10, some 2), (10, some 8), (10, some 9), (10, some 10), (10, some 11), (11, some 7), (16, none), (17, none), (18, none)] σ σ := fr.rf
  rw [XX4_readRush] at h
  rcases it_or h with ⟨hc, h⟩ | ⟨hc, h⟩
  · skip
    obtain ⟨r_1, σ_2, hq, h⟩ := b2_e h
    replace F := F.tr ((frX4_want hq).mono (by simp))
    rcases ie_or h with ⟨hc, h⟩ | ⟨hc, h⟩
    · skip
      obtain ⟨r_3, hq, h⟩ := b1_e h
      rcases ie_or h with ⟨hc, h⟩ | ⟨hc, h⟩
      · skip
        obtain ⟨r_4, σ_5, hq, h⟩ := b2_e h
        replace F := F.tr ((frX4_wantNumber hq).mono (by simp))
        rcases ie_or h with ⟨hc, h⟩ | ⟨hc, h⟩
        · skip
          obtain ⟨x2_6, h⟩ := lt_ex h
          obtain ⟨r_7, σ_8, hq, h⟩ := b2_e h
          replace F := F.tr ((frX4_wantNumber hq).mono (by simp))
          rcases ie_or h with ⟨hc, h⟩ | ⟨hc, h⟩
          · skip
            obtain ⟨σ_9, hq, h⟩ := b1_e h
            replace F := F.tr ((frX7_addRush hq).mono (by simp))
            obtain ⟨r_10, σ_11, hq, h⟩ := b2_e h
            replace F := F.tr ((frX4_want hq).mono (by simp))
            obtain ⟨hn_12, h⟩ := gd h
            cases h
            exact F
          · skip
            cases h
            exact F
        · skip
          cases h
          exact F
      · skip
        obtain ⟨r_13, σ_14, hq, h⟩ := b2_e h
        replace F := F.tr ((frX4_refuse hq).mono (by simp))
        obtain ⟨hn_15, h⟩ := gd h
        cases h
        exact F
    · skip
      cases h
      exact F
  · skip
    obtain ⟨r_16, σ_17, hq, h⟩ := b2_e h
    replace F := F.tr ((frX4_refuse hq).mono (by simp))
    obtain ⟨hn_18, h⟩ := gd h
    cases h
    exact F
theorem frX4_readLine {σ : Sg} {rr : (Int32 × Sg)} (h : XX4_readLine σ = some rr) : fr [(10, some 1), (10, some 2), (10, some 8), (10, some 9), (10, some 10), (10, some 11), (10, some 12), (11, some 0), (11, some 1), (11, some 2), (11, some 3), (11, some 4), (11, some 5), (11, some 6), (11, some 7), (12, none), (13, none), (14, none), (15, none), (16, none), (17, none), (18, none), (23, none), (24, none)] σ rr.2 := by
  have C := trivial
  have R := trivial
  have F : fr [(10, some 1), (10, some 2), (10, some 8), (10, some 9), (10, some 10), (10, some 11), (10, some 12), (11, some 0), (11, some 1), (11, some 2), (11, some 3), (11, some 4), (11, some 5), (11, some 6), (11, some 7), (12, none), (13, none), (14, none), (15, none), (16, none), (17, none), (18, none), (23, none), (24, none)] σ σ := fr.rf
  rw [XX4_readLine] at h
  obtain ⟨w_1, h⟩ := lt_ex h
  by_cases hs_8 : w_1 = (0 : Int32)
  · replace h := it hs_8 h
    obtain ⟨r_2, σ_3, hq, h⟩ := b2_e h
    replace F := F.tr ((frX4_isOnce hq).mono (by simp))
    refine jn (fun (kk : Sg → Option (Int32 × Sg)) => ∀ (σ_4 : Sg), kk σ_4 = some rr → fr [(10, some 1), (10, some 2), (10, some 8), (10, some 9), (10, some 10), (10, some 11), (10, some 12), (11, some 0), (11, some 1), (11, some 2), (11, some 3), (11, some 4), (11, some 5), (11, some 6), (11, some 7), (12, none), (13, none), (14, none), (15, none), (16, none), (17, none), (18, none), (23, none), (24, none)] σ_4 rr.2) h ?_ (fun k90_5 hk90_5 h => ?_)
    · intro σ_4 h
      have F : fr [(10, some 1), (10, some 2), (10, some 8), (10, some 9), (10, some 10), (10, some 11), (10, some 12), (11, some 0), (11, some 1), (11, some 2), (11, some 3), (11, some 4), (11, some 5), (11, some 6), (11, some 7), (12, none), (13, none), (14, none), (15, none), (16, none), (17, none), (18, none), (23, none), (24, none)] σ_4 σ_4 := fr.rf
      cases h
      exact F
    rcases it_or h with ⟨hc, h⟩ | ⟨hc, h⟩
    · skip
      exact F.tr (hk90_5 _ h)
    · skip
      obtain ⟨r_6, σ_7, hq, h⟩ := b2_e h
      replace F := F.tr ((frX4_readDays hq).mono (by simp))
      rcases it_or h with ⟨hc, h⟩ | ⟨hc, h⟩
      · skip
        exact F.tr (hk90_5 _ h)
      · skip
        cases h
        exact F
  replace h := ie hs_8 h
  by_cases hs_15 : w_1 = (1 : Int32)
  · replace h := it hs_15 h
    obtain ⟨r_9, σ_10, hq, h⟩ := b2_e h
    replace F := F.tr ((frX4_isOnce hq).mono (by simp))
    refine jn (fun (kk : Sg → Option (Int32 × Sg)) => ∀ (σ_11 : Sg), kk σ_11 = some rr → fr [(10, some 1), (10, some 2), (10, some 8), (10, some 9), (10, some 10), (10, some 11), (10, some 12), (11, some 0), (11, some 1), (11, some 2), (11, some 3), (11, some 4), (11, some 5), (11, some 6), (11, some 7), (12, none), (13, none), (14, none), (15, none), (16, none), (17, none), (18, none), (23, none), (24, none)] σ_11 rr.2) h ?_ (fun k110_12 hk110_12 h => ?_)
    · intro σ_11 h
      have F : fr [(10, some 1), (10, some 2), (10, some 8), (10, some 9), (10, some 10), (10, some 11), (10, some 12), (11, some 0), (11, some 1), (11, some 2), (11, some 3), (11, some 4), (11, some 5), (11, some 6), (11, some 7), (12, none), (13, none), (14, none), (15, none), (16, none), (17, none), (18, none), (23, none), (24, none)] σ_11 σ_11 := fr.rf
      cases h
      exact F
    rcases it_or h with ⟨hc, h⟩ | ⟨hc, h⟩
    · skip
      exact F.tr (hk110_12 _ h)
    · skip
      obtain ⟨r_13, σ_14, hq, h⟩ := b2_e h
      replace F := F.tr ((frX4_readDepot hq).mono (by simp))
      rcases it_or h with ⟨hc, h⟩ | ⟨hc, h⟩
      · skip
        exact F.tr (hk110_12 _ h)
      · skip
        cases h
        exact F
  replace h := ie hs_15 h
  by_cases hs_22 : w_1 = (2 : Int32)
  · replace h := it hs_22 h
    obtain ⟨r_16, σ_17, hq, h⟩ := b2_e h
    replace F := F.tr ((frX4_isOnce hq).mono (by simp))
    refine jn (fun (kk : Sg → Option (Int32 × Sg)) => ∀ (σ_18 : Sg), kk σ_18 = some rr → fr [(10, some 1), (10, some 2), (10, some 8), (10, some 9), (10, some 10), (10, some 11), (10, some 12), (11, some 0), (11, some 1), (11, some 2), (11, some 3), (11, some 4), (11, some 5), (11, some 6), (11, some 7), (12, none), (13, none), (14, none), (15, none), (16, none), (17, none), (18, none), (23, none), (24, none)] σ_18 rr.2) h ?_ (fun k130_19 hk130_19 h => ?_)
    · intro σ_18 h
      have F : fr [(10, some 1), (10, some 2), (10, some 8), (10, some 9), (10, some 10), (10, some 11), (10, some 12), (11, some 0), (11, some 1), (11, some 2), (11, some 3), (11, some 4), (11, some 5), (11, some 6), (11, some 7), (12, none), (13, none), (14, none), (15, none), (16, none), (17, none), (18, none), (23, none), (24, none)] σ_18 σ_18 := fr.rf
      cases h
      exact F
    rcases it_or h with ⟨hc, h⟩ | ⟨hc, h⟩
    · skip
      exact F.tr (hk130_19 _ h)
    · skip
      obtain ⟨r_20, σ_21, hq, h⟩ := b2_e h
      replace F := F.tr ((frX4_readTruck hq).mono (by simp))
      rcases it_or h with ⟨hc, h⟩ | ⟨hc, h⟩
      · skip
        exact F.tr (hk130_19 _ h)
      · skip
        cases h
        exact F
  replace h := ie hs_22 h
  by_cases hs_26 : w_1 = (3 : Int32)
  · replace h := it hs_26 h
    obtain ⟨r_23, σ_24, hq, h⟩ := b2_e h
    replace F := F.tr ((frX4_refuse hq).mono (by simp))
    obtain ⟨hn_25, h⟩ := gd h
    cases h
    exact F
  replace h := ie hs_26 h
  by_cases hs_30 : w_1 = (4 : Int32)
  · replace h := it hs_30 h
    obtain ⟨r_27, σ_28, hq, h⟩ := b2_e h
    replace F := F.tr ((frX4_refuse hq).mono (by simp))
    obtain ⟨hn_29, h⟩ := gd h
    cases h
    exact F
  replace h := ie hs_30 h
  by_cases hs_37 : w_1 = (5 : Int32)
  · replace h := it hs_37 h
    obtain ⟨r_31, σ_32, hq, h⟩ := b2_e h
    replace F := F.tr ((frX4_isOnce hq).mono (by simp))
    refine jn (fun (kk : Sg → Option (Int32 × Sg)) => ∀ (σ_33 : Sg), kk σ_33 = some rr → fr [(10, some 1), (10, some 2), (10, some 8), (10, some 9), (10, some 10), (10, some 11), (10, some 12), (11, some 0), (11, some 1), (11, some 2), (11, some 3), (11, some 4), (11, some 5), (11, some 6), (11, some 7), (12, none), (13, none), (14, none), (15, none), (16, none), (17, none), (18, none), (23, none), (24, none)] σ_33 rr.2) h ?_ (fun k150_34 hk150_34 h => ?_)
    · intro σ_33 h
      have F : fr [(10, some 1), (10, some 2), (10, some 8), (10, some 9), (10, some 10), (10, some 11), (10, some 12), (11, some 0), (11, some 1), (11, some 2), (11, some 3), (11, some 4), (11, some 5), (11, some 6), (11, some 7), (12, none), (13, none), (14, none), (15, none), (16, none), (17, none), (18, none), (23, none), (24, none)] σ_33 σ_33 := fr.rf
      cases h
      exact F
    rcases it_or h with ⟨hc, h⟩ | ⟨hc, h⟩
    · skip
      exact F.tr (hk150_34 _ h)
    · skip
      obtain ⟨r_35, σ_36, hq, h⟩ := b2_e h
      replace F := F.tr ((frX4_readHold hq).mono (by simp))
      rcases it_or h with ⟨hc, h⟩ | ⟨hc, h⟩
      · skip
        exact F.tr (hk150_34 _ h)
      · skip
        cases h
        exact F
  replace h := ie hs_37 h
  by_cases hs_44 : w_1 = (6 : Int32)
  · replace h := it hs_44 h
    obtain ⟨r_38, σ_39, hq, h⟩ := b2_e h
    replace F := F.tr ((frX4_isOnce hq).mono (by simp))
    refine jn (fun (kk : Sg → Option (Int32 × Sg)) => ∀ (σ_40 : Sg), kk σ_40 = some rr → fr [(10, some 1), (10, some 2), (10, some 8), (10, some 9), (10, some 10), (10, some 11), (10, some 12), (11, some 0), (11, some 1), (11, some 2), (11, some 3), (11, some 4), (11, some 5), (11, some 6), (11, some 7), (12, none), (13, none), (14, none), (15, none), (16, none), (17, none), (18, none), (23, none), (24, none)] σ_40 rr.2) h ?_ (fun k170_41 hk170_41 h => ?_)
    · intro σ_40 h
      have F : fr [(10, some 1), (10, some 2), (10, some 8), (10, some 9), (10, some 10), (10, some 11), (10, some 12), (11, some 0), (11, some 1), (11, some 2), (11, some 3), (11, some 4), (11, some 5), (11, some 6), (11, some 7), (12, none), (13, none), (14, none), (15, none), (16, none), (17, none), (18, none), (23, none), (24, none)] σ_40 σ_40 := fr.rf
      cases h
      exact F
    rcases it_or h with ⟨hc, h⟩ | ⟨hc, h⟩
    · skip
      exact F.tr (hk170_41 _ h)
    · skip
      obtain ⟨r_42, σ_43, hq, h⟩ := b2_e h
      replace F := F.tr ((frX4_readLost hq).mono (by simp))
      rcases it_or h with ⟨hc, h⟩ | ⟨hc, h⟩
      · skip
        exact F.tr (hk170_41 _ h)
      · skip
        cases h
        exact F
  replace h := ie hs_44 h
  by_cases hs_48 : w_1 = (7 : Int32)
  · replace h := it hs_48 h
    obtain ⟨r_45, σ_46, hq, h⟩ := b2_e h
    replace F := F.tr ((frX4_readShop hq).mono (by simp))
    obtain ⟨hn_47, h⟩ := gd h
    cases h
    exact F
  replace h := ie hs_48 h
  by_cases hs_52 : w_1 = (8 : Int32)
  · replace h := it hs_52 h
    obtain ⟨r_49, σ_50, hq, h⟩ := b2_e h
    replace F := F.tr ((frX4_refuse hq).mono (by simp))
    obtain ⟨hn_51, h⟩ := gd h
    cases h
    exact F
  replace h := ie hs_52 h
  by_cases hs_56 : w_1 = (9 : Int32)
  · replace h := it hs_56 h
    obtain ⟨r_53, σ_54, hq, h⟩ := b2_e h
    replace F := F.tr ((frX4_refuse hq).mono (by simp))
    obtain ⟨hn_55, h⟩ := gd h
    cases h
    exact F
  replace h := ie hs_56 h
  by_cases hs_60 : w_1 = (10 : Int32)
  · replace h := it hs_60 h
    obtain ⟨r_57, σ_58, hq, h⟩ := b2_e h
    replace F := F.tr ((frX4_refuse hq).mono (by simp))
    obtain ⟨hn_59, h⟩ := gd h
    cases h
    exact F
  replace h := ie hs_60 h
  by_cases hs_64 : w_1 = (11 : Int32)
  · replace h := it hs_64 h
    obtain ⟨r_61, σ_62, hq, h⟩ := b2_e h
    replace F := F.tr ((frX4_refuse hq).mono (by simp))
    obtain ⟨hn_63, h⟩ := gd h
    cases h
    exact F
  replace h := ie hs_64 h
  by_cases hs_68 : w_1 = (12 : Int32)
  · replace h := it hs_68 h
    obtain ⟨r_65, σ_66, hq, h⟩ := b2_e h
    replace F := F.tr ((frX4_readRush hq).mono (by simp))
    obtain ⟨hn_67, h⟩ := gd h
    cases h
    exact F
  replace h := ie hs_68 h
  obtain ⟨r_69, σ_70, hq, h⟩ := b2_e h
  replace F := F.tr ((frX4_refuse hq).mono (by simp))
  obtain ⟨hn_71, h⟩ := gd h
  cases h
  exact F
theorem flX4_readAll_35 {rr : (Int32 × Sg)} {k72_8 : Sg → Option (Int32 × Sg)}  (C : True) (R : True) (hk72_8 : ∀ (σ_7 : Sg), k72_8 σ_7 = some rr → fr [(10, some 1), (10, some 2), (10, some 7), (10, some 8), (10, some 9), (10, some 10), (10, some 11), (10, some 12), (11, some 0), (11, some 1), (11, some 2), (11, some 3), (11, some 4), (11, some 5), (11, some 6), (11, some 7), (12, none), (13, none), (14, none), (15, none), (16, none), (17, none), (18, none), (20, none), (21, none), (22, none), (23, none), (24, none)] σ_7 rr.2) : ∀ (n : Nat) (x3_12 : Int32) (σ_13 : Sg), LX4_readAll_35 k72_8 n x3_12 σ_13 = some rr → fr [(10, some 1), (10, some 2), (10, some 7), (10, some 8), (10, some 9), (10, some 10), (10, some 11), (10, some 12), (11, some 0), (11, some 1), (11, some 2), (11, some 3), (11, some 4), (11, some 5), (11, some 6), (11, some 7), (12, none), (13, none), (14, none), (15, none), (16, none), (17, none), (18, none), (20, none), (21, none), (22, none), (23, none), (24, none)] σ_13 rr.2 := by
  intro n
  induction n with
  | zero =>
    intro x3_12 σ_13 h
    rw [LX4_readAll_35] at h
    cases h
  | succ n ih =>
    intro x3_12 σ_13 h
    rw [LX4_readAll_35] at h
    have F : fr [(10, some 1), (10, some 2), (10, some 7), (10, some 8), (10, some 9), (10, some 10), (10, some 11), (10, some 12), (11, some 0), (11, some 1), (11, some 2), (11, some 3), (11, some 4), (11, some 5), (11, some 6), (11, some 7), (12, none), (13, none), (14, none), (15, none), (16, none), (17, none), (18, none), (20, none), (21, none), (22, none), (23, none), (24, none)] σ_13 σ_13 := fr.rf
    rcases it_or h with ⟨hc, h⟩ | ⟨hc, h⟩
    · skip
      exact F.tr (hk72_8 _ h)
    · skip
      obtain ⟨σ_14, hq, h⟩ := b1_e h
      replace F := F.tr ((frX4_step hq).mono (by simp))
      rcases ie_or h with ⟨hc, h⟩ | ⟨hc, h⟩
      · skip
        obtain ⟨r_15, σ_16, hq, h⟩ := b2_e h
        replace F := F.tr ((frX4_readLine hq).mono (by simp))
        rcases ie_or h with ⟨hc, h⟩ | ⟨hc, h⟩
        · skip
          obtain ⟨x3_17, h⟩ := lt_ex h
          exact F.tr (ih _ _ h)
        · skip
          cases h
          exact F
      · skip
        cases h
        exact F
theorem frX4_readAll {p1 : Int32} {σ : Sg} {rr : (Int32 × Sg)} (h : XX4_readAll p1 σ = some rr) : fr [(10, some 1), (10, some 2), (10, some 7), (10, some 8), (10, some 9), (10, some 10), (10, some 11), (10, some 12), (11, some 0), (11, some 1), (11, some 2), (11, some 3), (11, some 4), (11, some 5), (11, some 6), (11, some 7), (12, none), (13, none), (14, none), (15, none), (16, none), (17, none), (18, none), (20, none), (21, none), (22, none), (23, none), (24, none)] σ rr.2 := by
  have C := trivial
  have R := trivial
  have F : fr [(10, some 1), (10, some 2), (10, some 7), (10, some 8), (10, some 9), (10, some 10), (10, some 11), (10, some 12), (11, some 0), (11, some 1), (11, some 2), (11, some 3), (11, some 4), (11, some 5), (11, some 6), (11, some 7), (12, none), (13, none), (14, none), (15, none), (16, none), (17, none), (18, none), (20, none), (21, none), (22, none), (23, none), (24, none)] σ σ := fr.rf
  rw [XX4_readAll] at h
  obtain ⟨σ_1, hq, h⟩ := b1_e h
  replace F := F.tr ((frX4_scanAll hq).mono (by simp))
  obtain ⟨σ_2, hq, h⟩ := b1_e h
  replace F := F.tr ((frX7_forget hq).mono (by simp))
  obtain ⟨σ_3, f1, h⟩ := lt_upf h
  replace F := F.tr (f1.mono (by simp))
  obtain ⟨σ_4, f1, h⟩ := lt_upf h
  replace F := F.tr (f1.mono (by simp))
  obtain ⟨σ_5, f1, h⟩ := lt_upf h
  replace F := F.tr (f1.mono (by simp))
  obtain ⟨σ_6, f1, h⟩ := lt_upf h
  replace F := F.tr (f1.mono (by simp))
  refine jn (fun (kk : Sg → Option (Int32 × Sg)) => ∀ (σ_7 : Sg), kk σ_7 = some rr → fr [(10, some 1), (10, some 2), (10, some 7), (10, some 8), (10, some 9), (10, some 10), (10, some 11), (10, some 12), (11, some 0), (11, some 1), (11, some 2), (11, some 3), (11, some 4), (11, some 5), (11, some 6), (11, some 7), (12, none), (13, none), (14, none), (15, none), (16, none), (17, none), (18, none), (20, none), (21, none), (22, none), (23, none), (24, none)] σ_7 rr.2) h ?_ (fun k72_8 hk72_8 h => ?_)
  · intro σ_7 h
    have F : fr [(10, some 1), (10, some 2), (10, some 7), (10, some 8), (10, some 9), (10, some 10), (10, some 11), (10, some 12), (11, some 0), (11, some 1), (11, some 2), (11, some 3), (11, some 4), (11, some 5), (11, some 6), (11, some 7), (12, none), (13, none), (14, none), (15, none), (16, none), (17, none), (18, none), (20, none), (21, none), (22, none), (23, none), (24, none)] σ_7 σ_7 := fr.rf
    obtain ⟨r_9, σ_10, hq, h⟩ := b2_e h
    replace F := F.tr ((frX4_refuse hq).mono (by simp))
    obtain ⟨hn_11, h⟩ := gd h
    cases h
    exact F
  exact F.tr (flX4_readAll_35  C R hk72_8 _ _ _ h)
theorem frX5_forget {k : Nat} {σ : Sg} {rr : Sg} (h : XX5_forget k σ = some rr) : fr [((k + 1), none), ((k + 3), none), ((k + 4), none), ((k + 5), none), ((k + 6), none), (k, some 5), (k, some 6)] σ rr := by
  have C := trivial
  have R := trivial
  have F : fr [((k + 1), none), ((k + 3), none), ((k + 4), none), ((k + 5), none), ((k + 6), none), (k, some 5), (k, some 6)] σ σ := fr.rf
  rw [XX5_forget] at h
  obtain ⟨σ_1, hq, h⟩ := b1_e h
  replace F := F.tr ((frJ7_fill_53178 hq).mono (by simp))
  obtain ⟨σ_2, hq, h⟩ := b1_e h
  replace F := F.tr ((frJ7_fill_53178 hq).mono (by simp))
  obtain ⟨σ_3, hq, h⟩ := b1_e h
  replace F := F.tr ((frJ7_fill_53178 hq).mono (by simp))
  obtain ⟨σ_4, hq, h⟩ := b1_e h
  replace F := F.tr ((frJ7_fill_53178 hq).mono (by simp))
  obtain ⟨σ_5, hq, h⟩ := b1_e h
  replace F := F.tr ((frJ7_fill_53178 hq).mono (by simp))
  obtain ⟨σ_6, f1, h⟩ := lt_upf h
  replace F := F.tr (f1.mono (by simp))
  obtain ⟨σ_7, f1, h⟩ := lt_upf h
  replace F := F.tr (f1.mono (by simp))
  cases h
  exact F
theorem frX5_takeOver {k : Nat} {j : Nat} {σ : Sg} {rr : Sg} (h : XX5_takeOver k j σ = some rr) : fr [((k + 1), none), ((k + 2), none), ((k + 3), none), ((k + 4), none), ((k + 5), none), ((k + 6), none), (k, some 5), (k, some 6)] σ rr := by
  have C := trivial
  have R := trivial
  have F : fr [((k + 1), none), ((k + 2), none), ((k + 3), none), ((k + 4), none), ((k + 5), none), ((k + 6), none), (k, some 5), (k, some 6)] σ σ := fr.rf
  rw [XX5_takeOver] at h
  obtain ⟨σ_1, f1, h⟩ := lt_cpy h
  replace F := F.tr (f1.mono (by simp))
  obtain ⟨σ_2, f1, h⟩ := lt_cpy h
  replace F := F.tr (f1.mono (by simp))
  obtain ⟨σ_3, f1, h⟩ := lt_cpy h
  replace F := F.tr (f1.mono (by simp))
  obtain ⟨σ_4, f1, h⟩ := lt_cpy h
  replace F := F.tr (f1.mono (by simp))
  obtain ⟨σ_5, f1, h⟩ := lt_cpy h
  replace F := F.tr (f1.mono (by simp))
  obtain ⟨σ_6, f1, h⟩ := lt_cpy h
  replace F := F.tr (f1.mono (by simp))
  obtain ⟨σ_7, f1, h⟩ := lt_upf h
  replace F := F.tr (f1.mono (by simp))
  obtain ⟨σ_8, f1, h⟩ := lt_upf h
  replace F := F.tr (f1.mono (by simp))
  cases h
  exact F
theorem flX5_askPercent_36 {rr : Sg} {k : Nat}  (C : True) (R : True)  : ∀ (n : Nat) (x2_3 : Int32) (σ_4 : Sg), LX5_askPercent_36 k n x2_3 σ_4 = some rr → fr [((k + 2), none), ((k + 3), none), ((k + 4), none), ((k + 5), none), ((k + 6), none), (k, some 5), (k, some 6)] σ_4 rr := by
  intro n
  induction n with
  | zero =>
    intro x2_3 σ_4 h
    rw [LX5_askPercent_36] at h
    cases h
  | succ n ih =>
    intro x2_3 σ_4 h
    rw [LX5_askPercent_36] at h
    have F : fr [((k + 2), none), ((k + 3), none), ((k + 4), none), ((k + 5), none), ((k + 6), none), (k, some 5), (k, some 6)] σ_4 σ_4 := fr.rf
    rcases it_or h with ⟨hc, h⟩ | ⟨hc, h⟩
    · skip
      cases h
      exact F
    · skip
      obtain ⟨σ_5, hq, h⟩ := b1_e h
      replace F := F.tr ((frX5_runFrom hq).mono (by simp))
      obtain ⟨x2_6, h⟩ := lt_ex h
      exact F.tr (ih _ _ h)
theorem flX5_askPercent_2 {rr : Sg} {k : Nat} {p1 : Int32} {k34_2 : Sg → Option Sg}  (C : True) (R : True) (hk34_2 : ∀ (σ_1 : Sg), k34_2 σ_1 = some rr → fr [((k + 2), none), ((k + 3), none), ((k + 4), none), ((k + 5), none), ((k + 6), none), (k, some 5), (k, some 6)] σ_1 rr) : ∀ (n : Nat) (x2_7 : Int32) (σ_8 : Sg), LX5_askPercent_2 k p1 k34_2 n x2_7 σ_8 = some rr → fr [((k + 2), none), ((k + 3), none), ((k + 4), none), ((k + 5), none), ((k + 6), none), (k, some 5), (k, some 6)] σ_8 rr := by
  intro n
  induction n with
  | zero =>
    intro x2_7 σ_8 h
    rw [LX5_askPercent_2] at h
    cases h
  | succ n ih =>
    intro x2_7 σ_8 h
    rw [LX5_askPercent_2] at h
    have F : fr [((k + 2), none), ((k + 3), none), ((k + 4), none), ((k + 5), none), ((k + 6), none), (k, some 5), (k, some 6)] σ_8 σ_8 := fr.rf
    rcases it_or h with ⟨hc, h⟩ | ⟨hc, h⟩
    · skip
      exact F.tr (hk34_2 _ h)
    · skip
      obtain ⟨hb_9, h⟩ := gd h
      obtain ⟨σ_10, f1, h⟩ := lt_up h
      replace F := F.tr (f1.mono (by simp))
      obtain ⟨x2_11, h⟩ := lt_ex h
      exact F.tr (ih _ _ h)
theorem frX5_askPercent {k : Nat} {p1 : Int32} {σ : Sg} {rr : Sg} (h : XX5_askPercent k p1 σ = some rr) : fr [((k + 2), none), ((k + 3), none), ((k + 4), none), ((k + 5), none), ((k + 6), none), (k, some 5), (k, some 6)] σ rr := by
  have C := trivial
  have R := trivial
  have F : fr [((k + 2), none), ((k + 3), none), ((k + 4), none), ((k + 5), none), ((k + 6), none), (k, some 5), (k, some 6)] σ σ := fr.rf
  rw [XX5_askPercent] at h
  refine jn (fun (kk : Sg → Option Sg) => ∀ (σ_1 : Sg), kk σ_1 = some rr → fr [((k + 2), none), ((k + 3), none), ((k + 4), none), ((k + 5), none), ((k + 6), none), (k, some 5), (k, some 6)] σ_1 rr) h ?_ (fun k34_2 hk34_2 h => ?_)
  · intro σ_1 h
    have F : fr [((k + 2), none), ((k + 3), none), ((k + 4), none), ((k + 5), none), ((k + 6), none), (k, some 5), (k, some 6)] σ_1 σ_1 := fr.rf
    exact F.tr (flX5_askPercent_36  C R  _ _ _ h)
  exact F.tr (flX5_askPercent_2  C R hk34_2 _ _ _ h)
theorem flX5_roundsCostWith_4 {rr : (Int32 × Sg)} {k : Nat} {p1 : Int32}  (C : True) (R : True)  : ∀ (n : Nat) (x2_1 : Int32) (x3_2 : Int32) (σ_3 : Sg), LX5_roundsCostWith_4 k p1 n x2_1 x3_2 σ_3 = some rr → fr [(29, some 6), (31, none), (32, none), (33, none), (34, none), ((k + 7), none)] σ_3 rr.2 := by
  intro n
  induction n with
  | zero =>
    intro x2_1 x3_2 σ_3 h
    rw [LX5_roundsCostWith_4] at h
    cases h
  | succ n ih =>
    intro x2_1 x3_2 σ_3 h
    rw [LX5_roundsCostWith_4] at h
    have F : fr [(29, some 6), (31, none), (32, none), (33, none), (34, none), ((k + 7), none)] σ_3 σ_3 := fr.rf
    rcases it_or h with ⟨hc, h⟩ | ⟨hc, h⟩
    · skip
      cases h
      exact F
    · skip
      obtain ⟨σ_4, hq, h⟩ := b1_e h
      replace F := F.tr ((frX5_pickLoads hq).mono (by simp))
      obtain ⟨r_5, σ_6, hq, h⟩ := b2_e h
      replace F := F.tr ((frX2_priceOf hq).mono (by simp))
      obtain ⟨x2_7, h⟩ := lt_ex h
      obtain ⟨x3_8, h⟩ := lt_ex h
      exact F.tr (ih _ _ _ h)
theorem frX5_roundsCostWith {k : Nat} {p1 : Int32} {σ : Sg} {rr : (Int32 × Sg)} (h : XX5_roundsCostWith k p1 σ = some rr) : fr [(29, some 6), (31, none), (32, none), (33, none), (34, none), ((k + 7), none)] σ rr.2 := by
  have C := trivial
  have R := trivial
  have F : fr [(29, some 6), (31, none), (32, none), (33, none), (34, none), ((k + 7), none)] σ σ := fr.rf
  rw [XX5_roundsCostWith] at h
  exact F.tr (flX5_roundsCostWith_4  C R  _ _ _ _ h)
theorem frX5_roundsCost {k : Nat} {σ : Sg} {rr : (Int32 × Sg)} (h : XX5_roundsCost k σ = some rr) : fr [(29, some 6), (31, none), (32, none), (33, none), (34, none), ((k + 6), none), ((k + 7), none)] σ rr.2 := by
  have C := trivial
  have R := trivial
  have F : fr [(29, some 6), (31, none), (32, none), (33, none), (34, none), ((k + 6), none), ((k + 7), none)] σ σ := fr.rf
  rw [XX5_roundsCost] at h
  obtain ⟨r_1, σ_2, hq, h⟩ := b2_e h
  replace F := F.tr ((frX5_wholeCost hq).mono (by simp))
  obtain ⟨r_3, hq, h⟩ := b1_e h
  obtain ⟨r_4, hq, h⟩ := b1_e h
  cases h
  exact F
theorem flX6_removeRound_12 {rr : Sg}   (C : True) (R : True)  : ∀ (n : Nat) (x2_2 : Int32) (σ_3 : Sg), LX6_removeRound_12 n x2_2 σ_3 = some rr → fr [(35, some 0), (36, none), (37, none)] σ_3 rr := by
  intro n
  induction n with
  | zero =>
    intro x2_2 σ_3 h
    rw [LX6_removeRound_12] at h
    cases h
  | succ n ih =>
    intro x2_2 σ_3 h
    rw [LX6_removeRound_12] at h
    have F : fr [(35, some 0), (36, none), (37, none)] σ_3 σ_3 := fr.rf
    rcases it_or h with ⟨hc, h⟩ | ⟨hc, h⟩
    · skip
      cases h
      exact F
    · skip
      obtain ⟨hb_4, h⟩ := gd h
      obtain ⟨hb_6, h⟩ := gd h
      obtain ⟨σ_5, f1, h⟩ := lt_up h
      replace F := F.tr (f1.mono (by simp))
      obtain ⟨σ_7, f1, h⟩ := lt_up h
      replace F := F.tr (f1.mono (by simp))
      obtain ⟨x2_8, h⟩ := lt_ex h
      exact F.tr (ih _ _ h)
theorem frX6_removeRound {p1 : Int32} {σ : Sg} {rr : Sg} (h : XX6_removeRound p1 σ = some rr) : fr [(35, some 0), (36, none), (37, none)] σ rr := by
  have C := trivial
  have R := trivial
  have F : fr [(35, some 0), (36, none), (37, none)] σ σ := fr.rf
  rw [XX6_removeRound] at h
  obtain ⟨σ_1, f1, h⟩ := lt_upf h
  replace F := F.tr (f1.mono (by simp))
  exact F.tr (flX6_removeRound_12  C R  _ _ _ h)
theorem flX6_mergeBest_24 {rr : (Int32 × Sg)} {x4_15 : Int32} {σ : Sg} {k102_20 : Int32 → Int32 → Int32 → Option (Int32 × Sg)}  (C : True) (R : True) (hk102_20 : ∀ (x1_17 : Int32) (x2_18 : Int32) (x3_19 : Int32), k102_20 x1_17 x2_18 x3_19 = some rr → fr [(35, some 0), (36, none), (37, none)] σ rr.2) : ∀ (n : Nat) (x1_22 : Int32) (x2_23 : Int32) (x3_24 : Int32) (x5_25 : Int32), LX6_mergeBest_24 x4_15 σ k102_20 n x1_22 x2_23 x3_24 x5_25 = some rr → fr [(35, some 0), (36, none), (37, none)] σ rr.2 := by
  intro n
  induction n with
  | zero =>
    intro x1_22 x2_23 x3_24 x5_25 h
    rw [LX6_mergeBest_24] at h
    cases h
  | succ n ih =>
    intro x1_22 x2_23 x3_24 x5_25 h
    rw [LX6_mergeBest_24] at h
    have F : fr [(35, some 0), (36, none), (37, none)] σ σ := fr.rf
    rcases it_or h with ⟨hc, h⟩ | ⟨hc, h⟩
    · skip
      exact F.tr (hk102_20 _ _ _ h)
    · skip
      obtain ⟨hb_26, h⟩ := gd h
      obtain ⟨hb_27, h⟩ := gd h
      obtain ⟨r_28, hq, h⟩ := b1_e h
      refine jn (fun (kk : Int32 → Int32 → Int32 → Option (Int32 × Sg)) => ∀ (x1_29 : Int32) (x2_30 : Int32) (x3_31 : Int32), kk x1_29 x2_30 x3_31 = some rr → fr [(35, some 0), (36, none), (37, none)] σ rr.2) h ?_ (fun k96_32 hk96_32 h => ?_)
      · intro x1_29 x2_30 x3_31 h
        have F : fr [(35, some 0), (36, none), (37, none)] σ σ := fr.rf
        obtain ⟨x5_33, h⟩ := lt_ex h
        exact F.tr (ih _ _ _ _ h)
      rcases it_or h with ⟨hc, h⟩ | ⟨hc, h⟩
      · skip
        exact F.tr (hk96_32 _ _ _ h)
      · skip
        rcases it_or h with ⟨hc, h⟩ | ⟨hc, h⟩
        · skip
          exact F.tr (hk96_32 _ _ _ h)
        · skip
          exact F.tr (hk96_32 _ _ _ h)
theorem flX6_mergeBest_9 {rr : (Int32 × Sg)} {σ : Sg} {k108_4 : Int32 → Int32 → Int32 → Option (Int32 × Sg)}  (C : True) (R : True) (hk108_4 : ∀ (x1_1 : Int32) (x2_2 : Int32) (x3_3 : Int32), k108_4 x1_1 x2_2 x3_3 = some rr → fr [(35, some 0), (36, none), (37, none)] σ rr.2) : ∀ (n : Nat) (x1_12 : Int32) (x2_13 : Int32) (x3_14 : Int32) (x4_15 : Int32), LX6_mergeBest_9 σ k108_4 n x1_12 x2_13 x3_14 x4_15 = some rr → fr [(35, some 0), (36, none), (37, none)] σ rr.2 := by
  intro n
  induction n with
  | zero =>
    intro x1_12 x2_13 x3_14 x4_15 h
    rw [LX6_mergeBest_9] at h
    cases h
  | succ n ih =>
    intro x1_12 x2_13 x3_14 x4_15 h
    rw [LX6_mergeBest_9] at h
    have F : fr [(35, some 0), (36, none), (37, none)] σ σ := fr.rf
    rcases it_or h with ⟨hc, h⟩ | ⟨hc, h⟩
    · skip
      exact F.tr (hk108_4 _ _ _ h)
    · skip
      obtain ⟨x5_16, h⟩ := lt_ex h
      refine jn (fun (kk : Int32 → Int32 → Int32 → Option (Int32 × Sg)) => ∀ (x1_17 : Int32) (x2_18 : Int32) (x3_19 : Int32), kk x1_17 x2_18 x3_19 = some rr → fr [(35, some 0), (36, none), (37, none)] σ rr.2) h ?_ (fun k102_20 hk102_20 h => ?_)
      · intro x1_17 x2_18 x3_19 h
        have F : fr [(35, some 0), (36, none), (37, none)] σ σ := fr.rf
        obtain ⟨x4_21, h⟩ := lt_ex h
        exact F.tr (ih _ _ _ _ h)
      exact F.tr (flX6_mergeBest_24  C R hk102_20 _ _ _ _ _ h)
theorem frX6_mergeBest {σ : Sg} {rr : (Int32 × Sg)} (h : XX6_mergeBest σ = some rr) : fr [(35, some 0), (36, none), (37, none)] σ rr.2 := by
  have C := trivial
  have R := trivial
  have F : fr [(35, some 0), (36, none), (37, none)] σ σ := fr.rf
  rw [XX6_mergeBest] at h
  refine jn (fun (kk : Int32 → Int32 → Int32 → Option (Int32 × Sg)) => ∀ (x1_1 : Int32) (x2_2 : Int32) (x3_3 : Int32), kk x1_1 x2_2 x3_3 = some rr → fr [(35, some 0), (36, none), (37, none)] σ rr.2) h ?_ (fun k108_4 hk108_4 h => ?_)
  · intro x1_1 x2_2 x3_3 h
    have F : fr [(35, some 0), (36, none), (37, none)] σ σ := fr.rf
    refine jn (fun (kk : Sg → Option (Int32 × Sg)) => ∀ (σ_5 : Sg), kk σ_5 = some rr → fr [(35, some 0), (36, none), (37, none)] σ_5 rr.2) h ?_ (fun k147_6 hk147_6 h => ?_)
    · intro σ_5 h
      have F : fr [(35, some 0), (36, none), (37, none)] σ_5 σ_5 := fr.rf
      rcases it_or h with ⟨hc, h⟩ | ⟨hc, h⟩
      · skip
        cases h
        exact F
      · skip
        cases h
        exact F
    rcases it_or h with ⟨hc, h⟩ | ⟨hc, h⟩
    · skip
      exact F.tr (hk147_6 _ h)
    · skip
      obtain ⟨hb_7, h⟩ := gd h
      obtain ⟨hb_8, h⟩ := gd h
      obtain ⟨σ_9, f1, h⟩ := lt_up h
      replace F := F.tr (f1.mono (by simp))
      obtain ⟨σ_10, f1, h⟩ := lt_up h
      replace F := F.tr (f1.mono (by simp))
      obtain ⟨σ_11, hq, h⟩ := b1_e h
      replace F := F.tr ((frX6_removeRound hq).mono (by simp))
      exact F.tr (hk147_6 _ h)
  exact F.tr (flX6_mergeBest_9  C R hk108_4 _ _ _ _ _ h)
theorem flX6_mergeAll_66 {rr : Sg}   (C : True) (R : True)  : ∀ (n : Nat) (x2_4 : Int32) (σ_5 : Sg), LX6_mergeAll_66 n x2_4 σ_5 = some rr → fr [(35, some 0), (36, none), (37, none)] σ_5 rr := by
  intro n
  induction n with
  | zero =>
    intro x2_4 σ_5 h
    rw [LX6_mergeAll_66] at h
    cases h
  | succ n ih =>
    intro x2_4 σ_5 h
    rw [LX6_mergeAll_66] at h
    have F : fr [(35, some 0), (36, none), (37, none)] σ_5 σ_5 := fr.rf
    rcases it_or h with ⟨hc, h⟩ | ⟨hc, h⟩
    · skip
      cases h
      exact F
    · skip
      obtain ⟨r_6, σ_7, hq, h⟩ := b2_e h
      replace F := F.tr ((frX6_mergeBest hq).mono (by simp))
      rcases ie_or h with ⟨hc, h⟩ | ⟨hc, h⟩
      · skip
        obtain ⟨x2_8, h⟩ := lt_ex h
        exact F.tr (ih _ _ h)
      · skip
        cases h
        exact F
theorem flX6_mergeAll_7 {rr : Sg} {k64_3 : Sg → Option Sg}  (C : True) (R : True) (hk64_3 : ∀ (σ_2 : Sg), k64_3 σ_2 = some rr → fr [(35, some 0), (36, none), (37, none)] σ_2 rr) : ∀ (n : Nat) (x2_9 : Int32) (σ_10 : Sg), LX6_mergeAll_7 k64_3 n x2_9 σ_10 = some rr → fr [(35, some 0), (36, none), (37, none)] σ_10 rr := by
  intro n
  induction n with
  | zero =>
    intro x2_9 σ_10 h
    rw [LX6_mergeAll_7] at h
    cases h
  | succ n ih =>
    intro x2_9 σ_10 h
    rw [LX6_mergeAll_7] at h
    have F : fr [(35, some 0), (36, none), (37, none)] σ_10 σ_10 := fr.rf
    rcases it_or h with ⟨hc, h⟩ | ⟨hc, h⟩
    · skip
      exact F.tr (hk64_3 _ h)
    · skip
      obtain ⟨hb_11, h⟩ := gd h
      refine jn (fun (kk : Sg → Option Sg) => ∀ (σ_12 : Sg), kk σ_12 = some rr → fr [(35, some 0), (36, none), (37, none)] σ_12 rr) h ?_ (fun k58_13 hk58_13 h => ?_)
      · intro σ_12 h
        have F : fr [(35, some 0), (36, none), (37, none)] σ_12 σ_12 := fr.rf
        obtain ⟨x2_14, h⟩ := lt_ex h
        exact F.tr (ih _ _ h)
      rcases it_or h with ⟨hc, h⟩ | ⟨hc, h⟩
      · skip
        exact F.tr (hk58_13 _ h)
      · skip
        obtain ⟨hb_16, h⟩ := gd h
        obtain ⟨σ_15, f1, h⟩ := lt_up h
        replace F := F.tr (f1.mono (by simp))
        obtain ⟨hb_18, h⟩ := gd h
        obtain ⟨σ_17, f1, h⟩ := lt_up h
        replace F := F.tr (f1.mono (by simp))
        obtain ⟨σ_19, f1, h⟩ := lt_upf h
        replace F := F.tr (f1.mono (by simp))
        exact F.tr (hk58_13 _ h)
theorem frX6_mergeAll {σ : Sg} {rr : Sg} (h : XX6_mergeAll σ = some rr) : fr [(35, some 0), (36, none), (37, none)] σ rr := by
  have C := trivial
  have R := trivial
  have F : fr [(35, some 0), (36, none), (37, none)] σ σ := fr.rf
  rw [XX6_mergeAll] at h
  obtain ⟨σ_1, f1, h⟩ := lt_upf h
  replace F := F.tr (f1.mono (by simp))
  refine jn (fun (kk : Sg → Option Sg) => ∀ (σ_2 : Sg), kk σ_2 = some rr → fr [(35, some 0), (36, none), (37, none)] σ_2 rr) h ?_ (fun k64_3 hk64_3 h => ?_)
  · intro σ_2 h
    have F : fr [(35, some 0), (36, none), (37, none)] σ_2 σ_2 := fr.rf
    exact F.tr (flX6_mergeAll_66  C R  _ _ _ h)
  exact F.tr (flX6_mergeAll_7  C R hk64_3 _ _ _ h)
theorem frX7_takeOver {σ : Sg} {rr : Sg} (h : XX7_takeOver σ = some rr) : fr [(2, some 0), (2, some 1), (2, some 2), (2, some 3), (2, some 4), (2, some 5), (2, some 6), (2, some 7), (3, none), (4, none), (5, none), (6, none), (7, none), (8, none), (9, none)] σ rr := by
  have C := trivial
  have R := trivial
  have F : fr [(2, some 0), (2, some 1), (2, some 2), (2, some 3), (2, some 4), (2, some 5), (2, some 6), (2, some 7), (3, none), (4, none), (5, none), (6, none), (7, none), (8, none), (9, none)] σ σ := fr.rf
  rw [XX7_takeOver] at h
  obtain ⟨σ_1, f1, h⟩ := lt_upf h
  replace F := F.tr (f1.mono (by simp))
  obtain ⟨σ_2, f1, h⟩ := lt_upf h
  replace F := F.tr (f1.mono (by simp))
  obtain ⟨σ_3, f1, h⟩ := lt_upf h
  replace F := F.tr (f1.mono (by simp))
  obtain ⟨σ_4, f1, h⟩ := lt_upf h
  replace F := F.tr (f1.mono (by simp))
  obtain ⟨σ_5, f1, h⟩ := lt_upf h
  replace F := F.tr (f1.mono (by simp))
  obtain ⟨σ_6, f1, h⟩ := lt_upf h
  replace F := F.tr (f1.mono (by simp))
  obtain ⟨σ_7, f1, h⟩ := lt_upf h
  replace F := F.tr (f1.mono (by simp))
  obtain ⟨σ_8, f1, h⟩ := lt_upf h
  replace F := F.tr (f1.mono (by simp))
  obtain ⟨σ_9, f1, h⟩ := lt_cpy h
  replace F := F.tr (f1.mono (by simp))
  obtain ⟨σ_10, f1, h⟩ := lt_cpy h
  replace F := F.tr (f1.mono (by simp))
  obtain ⟨σ_11, f1, h⟩ := lt_cpy h
  replace F := F.tr (f1.mono (by simp))
  obtain ⟨σ_12, f1, h⟩ := lt_cpy h
  replace F := F.tr (f1.mono (by simp))
  obtain ⟨σ_13, f1, h⟩ := lt_cpy h
  replace F := F.tr (f1.mono (by simp))
  obtain ⟨σ_14, f1, h⟩ := lt_cpy h
  replace F := F.tr (f1.mono (by simp))
  obtain ⟨σ_15, f1, h⟩ := lt_cpy h
  replace F := F.tr (f1.mono (by simp))
  cases h
  exact F
theorem flX7_keepRushes_0 {rr : Sg} {p1 : Int32}  (C : True) (R : True)  : ∀ (n : Nat) (σ_1 : Sg), LX7_keepRushes_0 p1 n σ_1 = some rr → fr [(2, some 7), (7, none)] σ_1 rr := by
  intro n
  induction n with
  | zero =>
    intro σ_1 h
    rw [LX7_keepRushes_0] at h
    cases h
  | succ n ih =>
    intro σ_1 h
    rw [LX7_keepRushes_0] at h
    have F : fr [(2, some 7), (7, none)] σ_1 σ_1 := fr.rf
    rcases it_or h with ⟨hc, h⟩ | ⟨hc, h⟩
    · skip
      cases h
      exact F
    · skip
      rcases it_or h with ⟨hc, h⟩ | ⟨hc, h⟩
      · skip
        cases h
        exact F
      · skip
        obtain ⟨σ_2, f1, h⟩ := lt_upf h
        replace F := F.tr (f1.mono (by simp))
        obtain ⟨hb_3, h⟩ := gd h
        obtain ⟨d_4, h⟩ := lt_ex h
        obtain ⟨hb_5, h⟩ := gd h
        obtain ⟨σ_6, f1, h⟩ := lt_up h
        replace F := F.tr (f1.mono (by simp))
        exact F.tr (ih _ h)
theorem frX7_keepRushes {p1 : Int32} {σ : Sg} {rr : Sg} (h : XX7_keepRushes p1 σ = some rr) : fr [(2, some 7), (7, none)] σ rr := by
  have C := trivial
  have R := trivial
  have F : fr [(2, some 7), (7, none)] σ σ := fr.rf
  rw [XX7_keepRushes] at h
  exact F.tr (flX7_keepRushes_0  C R  _ _ h)
theorem flX8_measure_94 {rr : Sg} {x2_4 : Int32} {k123_7 : Sg → Option Sg}  (C : True) (R : True) (hk123_7 : ∀ (σ_6 : Sg), k123_7 σ_6 = some rr → fr [(25, some 3), (27, none), (28, none)] σ_6 rr) : ∀ (n : Nat) (x3_9 : Int32) (σ_10 : Sg), LX8_measure_94 x2_4 k123_7 n x3_9 σ_10 = some rr → fr [(25, some 3), (27, none), (28, none)] σ_10 rr := by
  intro n
  induction n with
  | zero =>
    intro x3_9 σ_10 h
    rw [LX8_measure_94] at h
    cases h
  | succ n ih =>
    intro x3_9 σ_10 h
    rw [LX8_measure_94] at h
    have F : fr [(25, some 3), (27, none), (28, none)] σ_10 σ_10 := fr.rf
    rcases it_or h with ⟨hc, h⟩ | ⟨hc, h⟩
    · skip
      exact F.tr (hk123_7 _ h)
    · skip
      obtain ⟨r_11, hq, h⟩ := b1_e h
      obtain ⟨hb_13, h⟩ := gd h
      obtain ⟨σ_12, f1, h⟩ := lt_up h
      replace F := F.tr (f1.mono (by simp))
      obtain ⟨x3_14, h⟩ := lt_ex h
      exact F.tr (ih _ _ h)
theorem flX8_measure_82 {rr : Sg}   (C : True) (R : True)  : ∀ (n : Nat) (x2_4 : Int32) (σ_5 : Sg), LX8_measure_82 n x2_4 σ_5 = some rr → fr [(25, some 3), (27, none), (28, none)] σ_5 rr := by
  intro n
  induction n with
  | zero =>
    intro x2_4 σ_5 h
    rw [LX8_measure_82] at h
    cases h
  | succ n ih =>
    intro x2_4 σ_5 h
    rw [LX8_measure_82] at h
    have F : fr [(25, some 3), (27, none), (28, none)] σ_5 σ_5 := fr.rf
    rcases it_or h with ⟨hc, h⟩ | ⟨hc, h⟩
    · skip
      cases h
      exact F
    · skip
      refine jn (fun (kk : Sg → Option Sg) => ∀ (σ_6 : Sg), kk σ_6 = some rr → fr [(25, some 3), (27, none), (28, none)] σ_6 rr) h ?_ (fun k123_7 hk123_7 h => ?_)
      · intro σ_6 h
        have F : fr [(25, some 3), (27, none), (28, none)] σ_6 σ_6 := fr.rf
        obtain ⟨x2_8, h⟩ := lt_ex h
        exact F.tr (ih _ _ h)
      exact F.tr (flX8_measure_94  C R hk123_7 _ _ _ h)
theorem flX8_measure_18 {rr : Sg} {x2_15 : Int32} {k74_18 : Sg → Option Sg}  (C : True) (R : True) (hk74_18 : ∀ (σ_17 : Sg), k74_18 σ_17 = some rr → fr [(25, some 3), (27, none), (28, none)] σ_17 rr) : ∀ (n : Nat) (x3_20 : Int32) (σ_21 : Sg), LX8_measure_18 x2_15 k74_18 n x3_20 σ_21 = some rr → fr [(25, some 3), (27, none), (28, none)] σ_21 rr := by
  intro n
  induction n with
  | zero =>
    intro x3_20 σ_21 h
    rw [LX8_measure_18] at h
    cases h
  | succ n ih =>
    intro x3_20 σ_21 h
    rw [LX8_measure_18] at h
    have F : fr [(25, some 3), (27, none), (28, none)] σ_21 σ_21 := fr.rf
    rcases it_or h with ⟨hc, h⟩ | ⟨hc, h⟩
    · skip
      exact F.tr (hk74_18 _ h)
    · skip
      obtain ⟨hb_22, h⟩ := gd h
      obtain ⟨hb_23, h⟩ := gd h
      obtain ⟨hb_25, h⟩ := gd h
      obtain ⟨σ_24, f1, h⟩ := lt_up h
      replace F := F.tr (f1.mono (by simp))
      obtain ⟨x3_26, h⟩ := lt_ex h
      exact F.tr (ih _ _ h)
theorem flX8_measure_10 {rr : Sg} {k80_3 : Sg → Option Sg}  (C : True) (R : True) (hk80_3 : ∀ (σ_2 : Sg), k80_3 σ_2 = some rr → fr [(25, some 3), (27, none), (28, none)] σ_2 rr) : ∀ (n : Nat) (x2_15 : Int32) (σ_16 : Sg), LX8_measure_10 k80_3 n x2_15 σ_16 = some rr → fr [(25, some 3), (27, none), (28, none)] σ_16 rr := by
  intro n
  induction n with
  | zero =>
    intro x2_15 σ_16 h
    rw [LX8_measure_10] at h
    cases h
  | succ n ih =>
    intro x2_15 σ_16 h
    rw [LX8_measure_10] at h
    have F : fr [(25, some 3), (27, none), (28, none)] σ_16 σ_16 := fr.rf
    rcases it_or h with ⟨hc, h⟩ | ⟨hc, h⟩
    · skip
      exact F.tr (hk80_3 _ h)
    · skip
      refine jn (fun (kk : Sg → Option Sg) => ∀ (σ_17 : Sg), kk σ_17 = some rr → fr [(25, some 3), (27, none), (28, none)] σ_17 rr) h ?_ (fun k74_18 hk74_18 h => ?_)
      · intro σ_17 h
        have F : fr [(25, some 3), (27, none), (28, none)] σ_17 σ_17 := fr.rf
        obtain ⟨x2_19, h⟩ := lt_ex h
        exact F.tr (ih _ _ h)
      exact F.tr (flX8_measure_18  C R hk74_18 _ _ _ h)
theorem frX8_measure {σ : Sg} {rr : Sg} (h : XX8_measure σ = some rr) : fr [(25, some 3), (27, none), (28, none)] σ rr := by
  have C := trivial
  have R := trivial
  have F : fr [(25, some 3), (27, none), (28, none)] σ σ := fr.rf
  rw [XX8_measure] at h
  obtain ⟨σ_1, f1, h⟩ := lt_upf h
  replace F := F.tr (f1.mono (by simp))
  refine jn (fun (kk : Sg → Option Sg) => ∀ (σ_2 : Sg), kk σ_2 = some rr → fr [(25, some 3), (27, none), (28, none)] σ_2 rr) h ?_ (fun k80_3 hk80_3 h => ?_)
  · intro σ_2 h
    have F : fr [(25, some 3), (27, none), (28, none)] σ_2 σ_2 := fr.rf
    exact F.tr (flX8_measure_82  C R  _ _ _ h)
  exact F.tr (flX8_measure_10  C R hk80_3 _ _ _ h)
theorem flX8_trace_8 {rr : (Int32 × Sg)}   (C : True) (R : True)  : ∀ (n : Nat) (x2_1 : Int32) (x3_2 : Int32) (x4_3 : Int32) (σ_4 : Sg), LX8_trace_8 n x2_1 x3_2 x4_3 σ_4 = some rr → fr [(26, none)] σ_4 rr.2 := by
  intro n
  induction n with
  | zero =>
    intro x2_1 x3_2 x4_3 σ_4 h
    rw [LX8_trace_8] at h
    cases h
  | succ n ih =>
    intro x2_1 x3_2 x4_3 σ_4 h
    rw [LX8_trace_8] at h
    have F : fr [(26, none)] σ_4 σ_4 := fr.rf
    rcases it_or h with ⟨hc, h⟩ | ⟨hc, h⟩
    · skip
      cases h
      exact F
    · skip
      rcases it_or h with ⟨hc, h⟩ | ⟨hc, h⟩
      · skip
        cases h
        exact F
      · skip
        obtain ⟨r_5, hq, h⟩ := b1_e h
        obtain ⟨hb_7, h⟩ := gd h
        obtain ⟨σ_6, f1, h⟩ := lt_up h
        replace F := F.tr (f1.mono (by simp))
        obtain ⟨x4_8, h⟩ := lt_ex h
        obtain ⟨x3_9, h⟩ := lt_ex h
        exact F.tr (ih _ _ _ _ h)
theorem frX8_trace {p1 : Int32} {σ : Sg} {rr : (Int32 × Sg)} (h : XX8_trace p1 σ = some rr) : fr [(26, none)] σ rr.2 := by
  have C := trivial
  have R := trivial
  have F : fr [(26, none)] σ σ := fr.rf
  rw [XX8_trace] at h
  exact F.tr (flX8_trace_8  C R  _ _ _ _ _ h)
theorem flX9_putNumber_3 {rr : Sg} {p1 : Int32}  (C : True) (R : True)  : ∀ (n : Nat) (x2_1 : Int32) (σ_2 : Sg), LX9_putNumber_3 p1 n x2_1 σ_2 = some rr → fr [(0, some 1), (1, none)] σ_2 rr := by
  intro n
  induction n with
  | zero =>
    intro x2_1 σ_2 h
    rw [LX9_putNumber_3] at h
    cases h
  | succ n ih =>
    intro x2_1 σ_2 h
    rw [LX9_putNumber_3] at h
    have F : fr [(0, some 1), (1, none)] σ_2 σ_2 := fr.rf
    rcases it_or h with ⟨hc, h⟩ | ⟨hc, h⟩
    · skip
      cases h
      exact F
    · skip
      obtain ⟨hb_4, h⟩ := gd h
      obtain ⟨σ_3, f1, h⟩ := lt_up h
      replace F := F.tr (f1.mono (by simp))
      obtain ⟨σ_5, f1, h⟩ := lt_upf h
      replace F := F.tr (f1.mono (by simp))
      obtain ⟨x2_6, h⟩ := lt_ex h
      exact F.tr (ih _ _ h)
theorem frX9_putNumber {p1 : Int32} {σ : Sg} {rr : Sg} (h : XX9_putNumber p1 σ = some rr) : fr [(0, some 1), (1, none)] σ rr := by
  have C := trivial
  have R := trivial
  have F : fr [(0, some 1), (1, none)] σ σ := fr.rf
  rw [XX9_putNumber] at h
  exact F.tr (flX9_putNumber_3  C R  _ _ _ h)
theorem frX9_feed {p1 : Int32} {p2 : Int32} {p3 : Int32} {p4 : Int32} {p5 : Int32} {σ : Sg} {rr : (Int32 × Sg)} (h : XX9_feed p1 p2 p3 p4 p5 σ = some rr) : fr [(0, some 1), (1, none)] σ rr.2 := by
  have C := trivial
  have R := trivial
  have F : fr [(0, some 1), (1, none)] σ σ := fr.rf
  rw [XX9_feed] at h
  rcases it_or h with ⟨hc, h⟩ | ⟨hc, h⟩
  · skip
    obtain ⟨σ_1, hq, h⟩ := b1_e h
    replace F := F.tr ((frX9_putNumber hq).mono (by simp))
    obtain ⟨σ_2, hq, h⟩ := b1_e h
    replace F := F.tr ((frX9_putNumber hq).mono (by simp))
    obtain ⟨σ_3, hq, h⟩ := b1_e h
    replace F := F.tr ((frX9_putNumber hq).mono (by simp))
    obtain ⟨σ_4, hq, h⟩ := b1_e h
    replace F := F.tr ((frX9_putNumber hq).mono (by simp))
    obtain ⟨σ_5, hq, h⟩ := b1_e h
    replace F := F.tr ((frX9_putNumber hq).mono (by simp))
    cases h
    exact F
  · skip
    cases h
    exact F
theorem frX9_end {p1 : Int32} {σ : Sg} {rr : (Int32 × Sg)} (h : XX9_end p1 σ = some rr) : fr [(0, some 1)] σ rr.2 := by
  have C := trivial
  have R := trivial
  have F : fr [(0, some 1)] σ σ := fr.rf
  rw [XX9_end] at h
  rcases it_or h with ⟨hc, h⟩ | ⟨hc, h⟩
  · skip
    cases h
    exact F
  · skip
    rcases it_or h with ⟨hc, h⟩ | ⟨hc, h⟩
    · skip
      obtain ⟨σ_1, f1, h⟩ := lt_upf h
      replace F := F.tr (f1.mono (by simp))
      cases h
      exact F
    · skip
      cases h
      exact F
theorem frX9_beginAnew {σ : Sg} {rr : Sg} (h : XX9_beginAnew σ = some rr) : fr [(25, some 3), (27, none), (28, none), (30, none), (38, some 5), (38, some 6), (39, none), (40, none), (41, none), (42, none), (43, none), (44, none), (61, some 0)] σ rr := by
  have C := trivial
  have R := trivial
  have F : fr [(25, some 3), (27, none), (28, none), (30, none), (38, some 5), (38, some 6), (39, none), (40, none), (41, none), (42, none), (43, none), (44, none), (61, some 0)] σ σ := fr.rf
  rw [XX9_beginAnew] at h
  obtain ⟨σ_1, hq, h⟩ := b1_e h
  replace F := F.tr ((frX8_measure hq).mono (by simp))
  obtain ⟨σ_2, hq, h⟩ := b1_e h
  replace F := F.tr ((frX2_measure hq).mono (by simp))
  obtain ⟨σ_3, hq, h⟩ := b1_e h
  replace F := F.tr ((frX5_forget hq).mono (by simp))
  obtain ⟨σ_4, hq, h⟩ := b1_e h
  replace F := F.tr ((frX5_askPercent hq).mono (by simp))
  obtain ⟨σ_5, hq, h⟩ := b1_e h
  replace F := F.tr ((frX0_forget hq).mono (by simp))
  cases h
  exact F
theorem frX9_text {σ : Sg} {rr : (Int32 × Sg)} (h : XX9_text σ = some rr) : fr [(0, some 1), (2, some 0), (2, some 1), (2, some 2), (2, some 3), (2, some 4), (2, some 5), (2, some 6), (2, some 7), (3, none), (4, none), (5, none), (6, none), (7, none), (8, none), (9, none), (10, some 1), (10, some 2), (10, some 7), (10, some 8), (10, some 9), (10, some 10), (10, some 11), (10, some 12), (11, some 0), (11, some 1), (11, some 2), (11, some 3), (11, some 4), (11, some 5), (11, some 6), (11, some 7), (12, none), (13, none), (14, none), (15, none), (16, none), (17, none), (18, none), (20, none), (21, none), (22, none), (23, none), (24, none), (25, some 3), (27, none), (28, none), (30, none), (38, some 5), (38, some 6), (39, none), (40, none), (41, none), (42, none), (43, none), (44, none), (61, some 0)] σ rr.2 := by
  have C := trivial
  have R := trivial
  have F : fr [(0, some 1), (2, some 0), (2, some 1), (2, some 2), (2, some 3), (2, some 4), (2, some 5), (2, some 6), (2, some 7), (3, none), (4, none), (5, none), (6, none), (7, none), (8, none), (9, none), (10, some 1), (10, some 2), (10, some 7), (10, some 8), (10, some 9), (10, some 10), (10, some 11), (10, some 12), (11, some 0), (11, some 1), (11, some 2), (11, some 3), (11, some 4), (11, some 5), (11, some 6), (11, some 7), (12, none), (13, none), (14, none), (15, none), (16, none), (17, none), (18, none), (20, none), (21, none), (22, none), (23, none), (24, none), (25, some 3), (27, none), (28, none), (30, none), (38, some 5), (38, some 6), (39, none), (40, none), (41, none), (42, none), (43, none), (44, none), (61, some 0)] σ σ := fr.rf
  rw [XX9_text] at h
  obtain ⟨r_1, σ_2, hq, h⟩ := b2_e h
  replace F := F.tr ((frX4_readAll hq).mono (by simp))
  obtain ⟨σ_3, f1, h⟩ := lt_upf h
  replace F := F.tr (f1.mono (by simp))
  rcases ie_or h with ⟨hc, h⟩ | ⟨hc, h⟩
  · skip
    obtain ⟨σ_4, hq, h⟩ := b1_e h
    replace F := F.tr ((frX7_takeOver hq).mono (by simp))
    obtain ⟨σ_5, hq, h⟩ := b1_e h
    replace F := F.tr ((frX9_beginAnew hq).mono (by simp))
    cases h
    exact F
  · skip
    cases h
    exact F
theorem frX9_partDay {p1 : Int32} {σ : Sg} {rr : (Int32 × Sg)} (h : XX9_partDay p1 σ = some rr) : fr [(29, some 6), (31, none), (32, none), (33, none), (34, none), (63, none)] σ rr.2 := by
  have C := trivial
  have R := trivial
  have F : fr [(29, some 6), (31, none), (32, none), (33, none), (34, none), (63, none)] σ σ := fr.rf
  rw [XX9_partDay] at h
  obtain ⟨σ_1, hq, h⟩ := b1_e h
  replace F := F.tr ((frX5_pickLoads hq).mono (by simp))
  obtain ⟨r_2, σ_3, hq, h⟩ := b2_e h
  replace F := F.tr ((frX2_part hq).mono (by simp))
  cases h
  exact F
theorem frX9_rounds {p1 : Int32} {σ : Sg} {rr : (Int32 × Sg)} (h : XX9_rounds p1 σ = some rr) : fr [(29, some 6), (31, none), (32, none), (33, none), (34, none), (63, none)] σ rr.2 := by
  have C := trivial
  have R := trivial
  have F : fr [(29, some 6), (31, none), (32, none), (33, none), (34, none), (63, none)] σ σ := fr.rf
  rw [XX9_rounds] at h
  obtain ⟨r_1, hq, h⟩ := b1_e h
  rcases it_or h with ⟨hc, h⟩ | ⟨hc, h⟩
  · skip
    cases h
    exact F
  · skip
    obtain ⟨r_2, σ_3, hq, h⟩ := b2_e h
    replace F := F.tr ((frX9_partDay hq).mono (by simp))
    cases h
    exact F
theorem frX9_roundSet {p1 : Int32} {p2 : Int32} {σ : Sg} {rr : (Int32 × Sg)} (h : XX9_roundSet p1 p2 σ = some rr) : fr [(29, some 6), (31, none), (32, none), (33, none), (34, none), (63, none)] σ rr.2 := by
  have C := trivial
  have R := trivial
  have F : fr [(29, some 6), (31, none), (32, none), (33, none), (34, none), (63, none)] σ σ := fr.rf
  rw [XX9_roundSet] at h
  obtain ⟨r_1, hq, h⟩ := b1_e h
  rcases it_or h with ⟨hc, h⟩ | ⟨hc, h⟩
  · skip
    cases h
    exact F
  · skip
    rcases it_or h with ⟨hc, h⟩ | ⟨hc, h⟩
    · skip
      cases h
      exact F
    · skip
      obtain ⟨r_2, σ_3, hq, h⟩ := b2_e h
      replace F := F.tr ((frX9_partDay hq).mono (by simp))
      rcases it_or h with ⟨hc, h⟩ | ⟨hc, h⟩
      · skip
        obtain ⟨r_4, hq, h⟩ := b1_e h
        cases h
        exact F
      · skip
        cases h
        exact F
theorem frX9_round {p1 : Int32} {p2 : Int32} {p3 : Int32} {σ : Sg} {rr : (Int32 × Sg)} (h : XX9_round p1 p2 p3 σ = some rr) : fr [(26, none), (29, some 6), (31, none), (32, none), (33, none), (34, none), (63, none)] σ rr.2 := by
  have C := trivial
  have R := trivial
  have F : fr [(26, none), (29, some 6), (31, none), (32, none), (33, none), (34, none), (63, none)] σ σ := fr.rf
  rw [XX9_round] at h
  obtain ⟨r_1, σ_2, hq, h⟩ := b2_e h
  replace F := F.tr ((frX9_roundSet hq).mono (by simp))
  rcases ie_or h with ⟨hc, h⟩ | ⟨hc, h⟩
  · skip
    rcases it_or h with ⟨hc, h⟩ | ⟨hc, h⟩
    · skip
      by_cases hs_3 : p3 = (0 : Int32)
      · replace h := it hs_3 h
        cases h
        exact F
      replace h := ie hs_3 h
      by_cases hs_5 : p3 = (1 : Int32)
      · replace h := it hs_5 h
        obtain ⟨r_4, hq, h⟩ := b1_e h
        cases h
        exact F
      replace h := ie hs_5 h
      by_cases hs_7 : p3 = (2 : Int32)
      · replace h := it hs_7 h
        obtain ⟨r_6, hq, h⟩ := b1_e h
        cases h
        exact F
      replace h := ie hs_7 h
      by_cases hs_9 : p3 = (3 : Int32)
      · replace h := it hs_9 h
        obtain ⟨r_8, hq, h⟩ := b1_e h
        cases h
        exact F
      replace h := ie hs_9 h
      cases h
      exact F
    · skip
      obtain ⟨r_10, σ_11, hq, h⟩ := b2_e h
      replace F := F.tr ((frX8_trace hq).mono (by simp))
      rcases it_or h with ⟨hc, h⟩ | ⟨hc, h⟩
      · skip
        cases h
        exact F
      · skip
        obtain ⟨hb_12, h⟩ := gd h
        cases h
        exact F
  · skip
    cases h
    exact F
theorem flX9_aboard_53 {rr : (Int32 × Sg)} {p3 : Int32} {σ_4 : Sg}  (C : True) (R : True)  : ∀ (n : Nat) (x6_6 : Int32) (x7_7 : Int32), LX9_aboard_53 p3 σ_4 n x6_6 x7_7 = some rr → fr [(26, none), (29, some 6), (31, none), (32, none), (33, none), (34, none), (63, none)] σ_4 rr.2 := by
  intro n
  induction n with
  | zero =>
    intro x6_6 x7_7 h
    rw [LX9_aboard_53] at h
    cases h
  | succ n ih =>
    intro x6_6 x7_7 h
    rw [LX9_aboard_53] at h
    have F : fr [(26, none), (29, some 6), (31, none), (32, none), (33, none), (34, none), (63, none)] σ_4 σ_4 := fr.rf
    rcases it_or h with ⟨hc, h⟩ | ⟨hc, h⟩
    · skip
      cases h
      exact F
    · skip
      obtain ⟨hb_8, h⟩ := gd h
      obtain ⟨hb_9, h⟩ := gd h
      obtain ⟨x6_10, h⟩ := lt_ex h
      obtain ⟨x7_11, h⟩ := lt_ex h
      exact F.tr (ih _ _ h)
theorem frX9_aboard {p1 : Int32} {p2 : Int32} {p3 : Int32} {σ : Sg} {rr : (Int32 × Sg)} (h : XX9_aboard p1 p2 p3 σ = some rr) : fr [(26, none), (29, some 6), (31, none), (32, none), (33, none), (34, none), (63, none)] σ rr.2 := by
  have C := trivial
  have R := trivial
  have F : fr [(26, none), (29, some 6), (31, none), (32, none), (33, none), (34, none), (63, none)] σ σ := fr.rf
  rw [XX9_aboard] at h
  obtain ⟨r_1, σ_2, hq, h⟩ := b2_e h
  replace F := F.tr ((frX9_roundSet hq).mono (by simp))
  rcases it_or h with ⟨hc, h⟩ | ⟨hc, h⟩
  · skip
    cases h
    exact F
  · skip
    rcases it_or h with ⟨hc, h⟩ | ⟨hc, h⟩
    · skip
      obtain ⟨r_3, σ_4, hq, h⟩ := b2_e h
      replace F := F.tr ((frX8_trace hq).mono (by simp))
      rcases it_or h with ⟨hc, h⟩ | ⟨hc, h⟩
      · skip
        obtain ⟨r_5, hq, h⟩ := b1_e h
        exact F.tr (flX9_aboard_53  C R  _ _ _ h)
      · skip
        cases h
        exact F
    · skip
      cases h
      exact F
theorem frX9_savings {p1 : Int32} {p2 : Int32} {σ : Sg} {rr : (Int32 × Sg)} (h : XX9_savings p1 p2 σ = some rr) : fr [(35, some 0), (36, none), (37, none), (63, none)] σ rr.2 := by
  have C := trivial
  have R := trivial
  have F : fr [(35, some 0), (36, none), (37, none), (63, none)] σ σ := fr.rf
  rw [XX9_savings] at h
  obtain ⟨r_1, hq, h⟩ := b1_e h
  rcases it_or h with ⟨hc, h⟩ | ⟨hc, h⟩
  · skip
    cases h
    exact F
  · skip
    rcases it_or h with ⟨hc, h⟩ | ⟨hc, h⟩
    · skip
      cases h
      exact F
    · skip
      rcases it_or h with ⟨hc, h⟩ | ⟨hc, h⟩
      · skip
        obtain ⟨σ_2, hq, h⟩ := b1_e h
        replace F := F.tr ((frX5_pickLoads hq).mono (by simp))
        obtain ⟨σ_3, hq, h⟩ := b1_e h
        replace F := F.tr ((frX6_mergeAll hq).mono (by simp))
        rcases ie_or h with ⟨hc, h⟩ | ⟨hc, h⟩
        · skip
          cases h
          exact F
        · skip
          obtain ⟨r_4, hq, h⟩ := b1_e h
          cases h
          exact F
      · skip
        cases h
        exact F
theorem frX9_share {p1 : Int32} {p2 : Int32} {p3 : Int32} {σ : Sg} {rr : (Int32 × Sg)} (h : XX9_share p1 p2 p3 σ = some rr) : fr [(29, some 6), (31, none), (32, none), (33, none), (34, none), (63, none)] σ rr.2 := by
  have C := trivial
  have R := trivial
  have F : fr [(29, some 6), (31, none), (32, none), (33, none), (34, none), (63, none)] σ σ := fr.rf
  rw [XX9_share] at h
  obtain ⟨r_1, hq, h⟩ := b1_e h
  rcases it_or h with ⟨hc, h⟩ | ⟨hc, h⟩
  · skip
    cases h
    exact F
  · skip
    rcases it_or h with ⟨hc, h⟩ | ⟨hc, h⟩
    · skip
      cases h
      exact F
    · skip
      rcases it_or h with ⟨hc, h⟩ | ⟨hc, h⟩
      · skip
        obtain ⟨r_2, σ_3, hq, h⟩ := b2_e h
        replace F := F.tr ((frX9_partDay hq).mono (by simp))
        obtain ⟨hb_4, h⟩ := gd h
        rcases ie_or h with ⟨hc, h⟩ | ⟨hc, h⟩
        · skip
          obtain ⟨r_5, hq, h⟩ := b1_e h
          obtain ⟨r_6, hq, h⟩ := b1_e h
          obtain ⟨r_7, hq, h⟩ := b1_e h
          rcases ie_or h with ⟨hc, h⟩ | ⟨hc, h⟩
          · skip
            obtain ⟨hz_8, h⟩ := gd h
            cases h
            exact F
          · skip
            obtain ⟨hz_9, h⟩ := gd h
            cases h
            exact F
        · skip
          cases h
          exact F
      · skip
        cases h
        exact F
theorem frX9_cost {p1 : Int32} {σ : Sg} {rr : (Int32 × Sg)} (h : XX9_cost p1 σ = some rr) : fr [(29, some 6), (31, none), (32, none), (33, none), (34, none), (44, none), (45, none)] σ rr.2 := by
  have C := trivial
  have R := trivial
  have F : fr [(29, some 6), (31, none), (32, none), (33, none), (34, none), (44, none), (45, none)] σ σ := fr.rf
  rw [XX9_cost] at h
  by_cases hs_3 : p1 = (0 : Int32)
  · replace h := it hs_3 h
    obtain ⟨r_1, σ_2, hq, h⟩ := b2_e h
    replace F := F.tr ((frX5_wholeCost hq).mono (by simp))
    cases h
    exact F
  replace h := ie hs_3 h
  by_cases hs_6 : p1 = (1 : Int32)
  · replace h := it hs_6 h
    obtain ⟨r_4, σ_5, hq, h⟩ := b2_e h
    replace F := F.tr ((frX5_roundsCost hq).mono (by simp))
    cases h
    exact F
  replace h := ie hs_6 h
  by_cases hs_8 : p1 = (2 : Int32)
  · replace h := it hs_8 h
    obtain ⟨r_7, hq, h⟩ := b1_e h
    cases h
    exact F
  replace h := ie hs_8 h
  by_cases hs_10 : p1 = (3 : Int32)
  · replace h := it hs_10 h
    obtain ⟨r_9, hq, h⟩ := b1_e h
    cases h
    exact F
  replace h := ie hs_10 h
  cases h
  exact F
theorem frX9_costOf {p1 : Int32} {σ : Sg} {rr : (Int32 × Sg)} (h : XX9_costOf p1 σ = some rr) : fr [(29, some 6), (31, none), (32, none), (33, none), (34, none), (44, none), (45, none)] σ rr.2 := by
  have C := trivial
  have R := trivial
  have F : fr [(29, some 6), (31, none), (32, none), (33, none), (34, none), (44, none), (45, none)] σ σ := fr.rf
  rw [XX9_costOf] at h
  obtain ⟨r_1, hq, h⟩ := b1_e h
  rcases it_or h with ⟨hc, h⟩ | ⟨hc, h⟩
  · skip
    cases h
    exact F
  · skip
    obtain ⟨r_2, σ_3, hq, h⟩ := b2_e h
    replace F := F.tr ((frX5_priceOn hq).mono (by simp))
    cases h
    exact F
theorem frX9_worth {p1 : Int32} {p2 : Int32} {σ : Sg} {rr : (Int32 × Sg)} (h : XX9_worth p1 p2 σ = some rr) : fr [(29, some 6), (31, none), (32, none), (33, none), (34, none), (44, none), (45, none), (46, some 5), (46, some 6), (47, none), (48, none), (49, none), (50, none), (51, none), (52, none), (53, none)] σ rr.2 := by
  have C := trivial
  have R := trivial
  have F : fr [(29, some 6), (31, none), (32, none), (33, none), (34, none), (44, none), (45, none), (46, some 5), (46, some 6), (47, none), (48, none), (49, none), (50, none), (51, none), (52, none), (53, none)] σ σ := fr.rf
  rw [XX9_worth] at h
  obtain ⟨r_1, hq, h⟩ := b1_e h
  rcases ie_or h with ⟨hc, h⟩ | ⟨hc, h⟩
  · skip
    obtain ⟨σ_2, hq, h⟩ := b1_e h
    replace F := F.tr ((frX5_takeOver hq).mono (by simp))
    obtain ⟨hb_3, h⟩ := gd h
    obtain ⟨σ_4, hq, h⟩ := b1_e h
    replace F := F.tr ((frX5_setVisits hq).mono (by simp))
    obtain ⟨r_5, σ_6, hq, h⟩ := b2_e h
    replace F := F.tr ((frX5_wholeCost hq).mono (by simp))
    obtain ⟨r_7, σ_8, hq, h⟩ := b2_e h
    replace F := F.tr ((frX5_wholeCost hq).mono (by simp))
    cases h
    exact F
  · skip
    cases h
    exact F
theorem flX9_leastTruck_9 {rr : (Int32 × Sg)} {p2 : Int32}  (C : True) (R : True)  : ∀ (n : Nat) (x3_1 : Int32) (x4_2 : Int32) (x5_3 : Int32) (σ_4 : Sg), LX9_leastTruck_9 p2 n x3_1 x4_2 x5_3 σ_4 = some rr → fr [(29, some 6), (31, none), (32, none), (33, none), (34, none), (45, none)] σ_4 rr.2 := by
  intro n
  induction n with
  | zero =>
    intro x3_1 x4_2 x5_3 σ_4 h
    rw [LX9_leastTruck_9] at h
    cases h
  | succ n ih =>
    intro x3_1 x4_2 x5_3 σ_4 h
    rw [LX9_leastTruck_9] at h
    have F : fr [(29, some 6), (31, none), (32, none), (33, none), (34, none), (45, none)] σ_4 σ_4 := fr.rf
    rcases it_or h with ⟨hc, h⟩ | ⟨hc, h⟩
    · skip
      cases h
      exact F
    · skip
      rcases it_or h with ⟨hc, h⟩ | ⟨hc, h⟩
      · skip
        cases h
        exact F
      · skip
        obtain ⟨x6_5, h⟩ := lt_ex h
        obtain ⟨r_6, σ_7, hq, h⟩ := b2_e h
        replace F := F.tr ((frX5_roundsCostWith hq).mono (by simp))
        refine jn (fun (kk : Int32 → Int32 → Option (Int32 × Sg)) => ∀ (x3_8 : Int32) (x4_9 : Int32), kk x3_8 x4_9 = some rr → fr [(29, some 6), (31, none), (32, none), (33, none), (34, none), (45, none)] σ_7 rr.2) h ?_ (fun k55_10 hk55_10 h => ?_)
        · intro x3_8 x4_9 h
          have F : fr [(29, some 6), (31, none), (32, none), (33, none), (34, none), (45, none)] σ_7 σ_7 := fr.rf
          obtain ⟨x5_11, h⟩ := lt_ex h
          exact F.tr (ih _ _ _ _ h)
        rcases it_or h with ⟨hc, h⟩ | ⟨hc, h⟩
        · skip
          obtain ⟨x3_12, h⟩ := lt_ex h
          exact F.tr (hk55_10 _ _ h)
        · skip
          exact F.tr (hk55_10 _ _ h)
theorem frX9_leastTruck {p1 : Int32} {p2 : Int32} {σ : Sg} {rr : (Int32 × Sg)} (h : XX9_leastTruck p1 p2 σ = some rr) : fr [(29, some 6), (31, none), (32, none), (33, none), (34, none), (45, none)] σ rr.2 := by
  have C := trivial
  have R := trivial
  have F : fr [(29, some 6), (31, none), (32, none), (33, none), (34, none), (45, none)] σ σ := fr.rf
  rw [XX9_leastTruck] at h
  exact F.tr (flX9_leastTruck_9  C R  _ _ _ _ _ h)
theorem frX9_truck {p1 : Int32} {σ : Sg} {rr : (Int32 × Sg)} (h : XX9_truck p1 σ = some rr) : fr [(29, some 6), (31, none), (32, none), (33, none), (34, none), (45, none)] σ rr.2 := by
  have C := trivial
  have R := trivial
  have F : fr [(29, some 6), (31, none), (32, none), (33, none), (34, none), (45, none)] σ σ := fr.rf
  rw [XX9_truck] at h
  rcases it_or h with ⟨hc, h⟩ | ⟨hc, h⟩
  · skip
    obtain ⟨r_1, hq, h⟩ := b1_e h
    obtain ⟨r_2, hq, h⟩ := b1_e h
    obtain ⟨x2_3, h⟩ := lt_ex h
    obtain ⟨r_4, σ_5, hq, h⟩ := b2_e h
    replace F := F.tr ((frX5_roundsCostWith hq).mono (by simp))
    rcases it_or h with ⟨hc, h⟩ | ⟨hc, h⟩
    · skip
      obtain ⟨r_6, hq, h⟩ := b1_e h
      obtain ⟨r_7, σ_8, hq, h⟩ := b2_e h
      replace F := F.tr ((frX9_leastTruck hq).mono (by simp))
      cases h
      exact F
    · skip
      cases h
      exact F
  · skip
    cases h
    exact F
theorem frX9_losesAt {p1 : Int32} {σ : Sg} {rr : (Int32 × Sg)} (h : XX9_losesAt p1 σ = some rr) : fr [(46, some 5), (46, some 6), (48, none), (49, none), (50, none), (51, none), (52, none)] σ rr.2 := by
  have C := trivial
  have R := trivial
  have F : fr [(46, some 5), (46, some 6), (48, none), (49, none), (50, none), (51, none), (52, none)] σ σ := fr.rf
  rw [XX9_losesAt] at h
  obtain ⟨σ_1, hq, h⟩ := b1_e h
  replace F := F.tr ((frX5_askPercent hq).mono (by simp))
  rcases it_or h with ⟨hc, h⟩ | ⟨hc, h⟩
  · skip
    cases h
    exact F
  · skip
    cases h
    exact F
theorem flX9_greatestPercent_8 {rr : (Int32 × Sg)}   (C : True) (R : True)  : ∀ (n : Nat) (x1_1 : Int32) (x2_2 : Int32) (x3_3 : Int32) (σ_4 : Sg), LX9_greatestPercent_8 n x1_1 x2_2 x3_3 σ_4 = some rr → fr [(46, some 5), (46, some 6), (48, none), (49, none), (50, none), (51, none), (52, none)] σ_4 rr.2 := by
  intro n
  induction n with
  | zero =>
    intro x1_1 x2_2 x3_3 σ_4 h
    rw [LX9_greatestPercent_8] at h
    cases h
  | succ n ih =>
    intro x1_1 x2_2 x3_3 σ_4 h
    rw [LX9_greatestPercent_8] at h
    have F : fr [(46, some 5), (46, some 6), (48, none), (49, none), (50, none), (51, none), (52, none)] σ_4 σ_4 := fr.rf
    rcases it_or h with ⟨hc, h⟩ | ⟨hc, h⟩
    · skip
      cases h
      exact F
    · skip
      rcases it_or h with ⟨hc, h⟩ | ⟨hc, h⟩
      · skip
        cases h
        exact F
      · skip
        obtain ⟨x4_5, h⟩ := lt_ex h
        obtain ⟨r_6, σ_7, hq, h⟩ := b2_e h
        replace F := F.tr ((frX9_losesAt hq).mono (by simp))
        refine jn (fun (kk : Int32 → Int32 → Option (Int32 × Sg)) => ∀ (x1_8 : Int32) (x2_9 : Int32), kk x1_8 x2_9 = some rr → fr [(46, some 5), (46, some 6), (48, none), (49, none), (50, none), (51, none), (52, none)] σ_7 rr.2) h ?_ (fun k49_10 hk49_10 h => ?_)
        · intro x1_8 x2_9 h
          have F : fr [(46, some 5), (46, some 6), (48, none), (49, none), (50, none), (51, none), (52, none)] σ_7 σ_7 := fr.rf
          obtain ⟨x3_11, h⟩ := lt_ex h
          exact F.tr (ih _ _ _ _ h)
        rcases it_or h with ⟨hc, h⟩ | ⟨hc, h⟩
        · skip
          exact F.tr (hk49_10 _ _ h)
        · skip
          obtain ⟨x2_12, h⟩ := lt_ex h
          exact F.tr (hk49_10 _ _ h)
theorem frX9_greatestPercent {σ : Sg} {rr : (Int32 × Sg)} (h : XX9_greatestPercent σ = some rr) : fr [(46, some 5), (46, some 6), (48, none), (49, none), (50, none), (51, none), (52, none)] σ rr.2 := by
  have C := trivial
  have R := trivial
  have F : fr [(46, some 5), (46, some 6), (48, none), (49, none), (50, none), (51, none), (52, none)] σ σ := fr.rf
  rw [XX9_greatestPercent] at h
  exact F.tr (flX9_greatestPercent_8  C R  _ _ _ _ _ h)
theorem frX9_reach {σ : Sg} {rr : (Int32 × Sg)} (h : XX9_reach σ = some rr) : fr [(46, some 5), (46, some 6), (47, none), (48, none), (49, none), (50, none), (51, none), (52, none)] σ rr.2 := by
  have C := trivial
  have R := trivial
  have F : fr [(46, some 5), (46, some 6), (47, none), (48, none), (49, none), (50, none), (51, none), (52, none)] σ σ := fr.rf
  rw [XX9_reach] at h
  obtain ⟨σ_1, hq, h⟩ := b1_e h
  replace F := F.tr ((frX5_takeOver hq).mono (by simp))
  obtain ⟨r_2, σ_3, hq, h⟩ := b2_e h
  replace F := F.tr ((frX9_losesAt hq).mono (by simp))
  rcases it_or h with ⟨hc, h⟩ | ⟨hc, h⟩
  · skip
    obtain ⟨r_4, σ_5, hq, h⟩ := b2_e h
    replace F := F.tr ((frX9_greatestPercent hq).mono (by simp))
    cases h
    exact F
  · skip
    cases h
    exact F
theorem frX9_scaled {p1 : Int32} {σ : Sg} {rr : (Int32 × Sg)} (h : XX9_scaled p1 σ = some rr) : fr [(29, some 6), (31, none), (32, none), (33, none), (34, none), (46, some 5), (46, some 6), (47, none), (48, none), (49, none), (50, none), (51, none), (52, none), (53, none)] σ rr.2 := by
  have C := trivial
  have R := trivial
  have F : fr [(29, some 6), (31, none), (32, none), (33, none), (34, none), (46, some 5), (46, some 6), (47, none), (48, none), (49, none), (50, none), (51, none), (52, none), (53, none)] σ σ := fr.rf
  rw [XX9_scaled] at h
  rcases it_or h with ⟨hc, h⟩ | ⟨hc, h⟩
  · skip
    cases h
    exact F
  · skip
    rcases it_or h with ⟨hc, h⟩ | ⟨hc, h⟩
    · skip
      obtain ⟨σ_1, hq, h⟩ := b1_e h
      replace F := F.tr ((frX5_takeOver hq).mono (by simp))
      obtain ⟨σ_2, hq, h⟩ := b1_e h
      replace F := F.tr ((frX5_askPercent hq).mono (by simp))
      obtain ⟨r_3, σ_4, hq, h⟩ := b2_e h
      replace F := F.tr ((frX5_wholeCost hq).mono (by simp))
      cases h
      exact F
    · skip
      cases h
      exact F
theorem frX9_alone {p1 : Int32} {p2 : Int32} {σ : Sg} {rr : (Int32 × Sg)} (h : XX9_alone p1 p2 σ = some rr) : fr [(29, some 6), (31, none), (32, none), (33, none), (34, none), (56, none), (57, none), (58, none), (59, none), (60, none)] σ rr.2 := by
  have C := trivial
  have R := trivial
  have F : fr [(29, some 6), (31, none), (32, none), (33, none), (34, none), (56, none), (57, none), (58, none), (59, none), (60, none)] σ σ := fr.rf
  rw [XX9_alone] at h
  obtain ⟨r_1, hq, h⟩ := b1_e h
  rcases it_or h with ⟨hc, h⟩ | ⟨hc, h⟩
  · skip
    cases h
    exact F
  · skip
    rcases it_or h with ⟨hc, h⟩ | ⟨hc, h⟩
    · skip
      cases h
      exact F
    · skip
      rcases it_or h with ⟨hc, h⟩ | ⟨hc, h⟩
      · skip
        obtain ⟨r_2, σ_3, hq, h⟩ := b2_e h
        replace F := F.tr ((frX1_findDays hq).mono (by simp))
        rcases ie_or h with ⟨hc, h⟩ | ⟨hc, h⟩
        · skip
          rcases ie_or h with ⟨hc, h⟩ | ⟨hc, h⟩
          · skip
            obtain ⟨r_4, hq, h⟩ := b1_e h
            cases h
            exact F
          · skip
            obtain ⟨r_5, hq, h⟩ := b1_e h
            cases h
            exact F
        · skip
          cases h
          exact F
      · skip
        cases h
        exact F
theorem frX9_every {p1 : Int32} {p2 : Int32} {σ : Sg} {rr : (Int32 × Sg)} (h : XX9_every p1 p2 σ = some rr) : fr [(46, some 5), (46, some 6), (47, none), (48, none), (49, none), (50, none), (51, none), (52, none), (54, some 0), (54, some 1), (54, some 2)] σ rr.2 := by
  have C := trivial
  have R := trivial
  have F : fr [(46, some 5), (46, some 6), (47, none), (48, none), (49, none), (50, none), (51, none), (52, none), (54, some 0), (54, some 1), (54, some 2)] σ σ := fr.rf
  rw [XX9_every] at h
  obtain ⟨r_1, hq, h⟩ := b1_e h
  rcases it_or h with ⟨hc, h⟩ | ⟨hc, h⟩
  · skip
    cases h
    exact F
  · skip
    rcases it_or h with ⟨hc, h⟩ | ⟨hc, h⟩
    · skip
      cases h
      exact F
    · skip
      rcases it_or h with ⟨hc, h⟩ | ⟨hc, h⟩
      · skip
        obtain ⟨σ_2, hq, h⟩ := b1_e h
        replace F := F.tr ((frX5_takeOver hq).mono (by simp))
        obtain ⟨σ_3, hq, h⟩ := b1_e h
        replace F := F.tr ((frX3_findEvery hq).mono (by simp))
        by_cases hs_4 : p2 = (0 : Int32)
        · replace h := it hs_4 h
          cases h
          exact F
        replace h := ie hs_4 h
        by_cases hs_5 : p2 = (1 : Int32)
        · replace h := it hs_5 h
          cases h
          exact F
        replace h := ie hs_5 h
        cases h
        exact F
      · skip
        cases h
        exact F
theorem frX9_joint {p1 : Int32} {σ : Sg} {rr : (Int32 × Sg)} (h : XX9_joint p1 σ = some rr) : fr [(29, some 6), (31, none), (32, none), (33, none), (34, none), (56, none), (57, none), (58, none), (59, none), (60, none)] σ rr.2 := by
  have C := trivial
  have R := trivial
  have F : fr [(29, some 6), (31, none), (32, none), (33, none), (34, none), (56, none), (57, none), (58, none), (59, none), (60, none)] σ σ := fr.rf
  rw [XX9_joint] at h
  rcases it_or h with ⟨hc, h⟩ | ⟨hc, h⟩
  · skip
    cases h
    exact F
  · skip
    rcases it_or h with ⟨hc, h⟩ | ⟨hc, h⟩
    · skip
      obtain ⟨r_1, σ_2, hq, h⟩ := b2_e h
      replace F := F.tr ((frX1_findDays hq).mono (by simp))
      rcases ie_or h with ⟨hc, h⟩ | ⟨hc, h⟩
      · skip
        rcases ie_or h with ⟨hc, h⟩ | ⟨hc, h⟩
        · skip
          obtain ⟨r_3, hq, h⟩ := b1_e h
          cases h
          exact F
        · skip
          obtain ⟨r_4, hq, h⟩ := b1_e h
          cases h
          exact F
      · skip
        cases h
        exact F
    · skip
      cases h
      exact F
theorem frX9_keepAct {σ : Sg} {rr : Sg} (h : XX9_keepAct σ = some rr) : fr [(61, some 0), (62, none)] σ rr := by
  have C := trivial
  have R := trivial
  have F : fr [(61, some 0), (62, none)] σ σ := fr.rf
  rw [XX9_keepAct] at h
  obtain ⟨σ_1, hq, h⟩ := b1_e h
  replace F := F.tr ((frX0_keep hq).mono (by simp))
  cases h
  exact F
theorem frX9_visit {p1 : Int32} {p2 : Int32} {σ : Sg} {rr : (Int32 × Sg)} (h : XX9_visit p1 p2 σ = some rr) : fr [(38, some 5), (38, some 6), (39, none), (41, none), (42, none), (43, none), (44, none), (61, some 0), (62, none)] σ rr.2 := by
  have C := trivial
  have R := trivial
  have F : fr [(38, some 5), (38, some 6), (39, none), (41, none), (42, none), (43, none), (44, none), (61, some 0), (62, none)] σ σ := fr.rf
  rw [XX9_visit] at h
  obtain ⟨r_1, hq, h⟩ := b1_e h
  rcases ie_or h with ⟨hc, h⟩ | ⟨hc, h⟩
  · skip
    obtain ⟨σ_2, hq, h⟩ := b1_e h
    replace F := F.tr ((frX9_keepAct hq).mono (by simp))
    obtain ⟨hb_3, h⟩ := gd h
    obtain ⟨σ_4, hq, h⟩ := b1_e h
    replace F := F.tr ((frX5_setVisits hq).mono (by simp))
    cases h
    exact F
  · skip
    cases h
    exact F
theorem frX9_rule {p1 : Int32} {σ : Sg} {rr : (Int32 × Sg)} (h : XX9_rule p1 σ = some rr) : fr [(38, some 5), (38, some 6), (39, none), (41, none), (42, none), (43, none), (44, none), (61, some 0), (62, none)] σ rr.2 := by
  have C := trivial
  have R := trivial
  have F : fr [(38, some 5), (38, some 6), (39, none), (41, none), (42, none), (43, none), (44, none), (61, some 0), (62, none)] σ σ := fr.rf
  rw [XX9_rule] at h
  rcases it_or h with ⟨hc, h⟩ | ⟨hc, h⟩
  · skip
    cases h
    exact F
  · skip
    rcases it_or h with ⟨hc, h⟩ | ⟨hc, h⟩
    · skip
      obtain ⟨σ_1, hq, h⟩ := b1_e h
      replace F := F.tr ((frX9_keepAct hq).mono (by simp))
      obtain ⟨σ_2, hq, h⟩ := b1_e h
      replace F := F.tr ((frX3_visitByRule hq).mono (by simp))
      obtain ⟨r_3, hq, h⟩ := b1_e h
      cases h
      exact F
    · skip
      cases h
      exact F
theorem frX9_adoptTrial {p1 : Int32} {σ : Sg} {rr : Sg} (h : XX9_adoptTrial p1 σ = some rr) : fr [(38, some 5), (38, some 6), (39, none), (40, none), (41, none), (42, none), (43, none), (44, none), (61, some 0), (62, none)] σ rr := by
  have C := trivial
  have R := trivial
  have F : fr [(38, some 5), (38, some 6), (39, none), (40, none), (41, none), (42, none), (43, none), (44, none), (61, some 0), (62, none)] σ σ := fr.rf
  rw [XX9_adoptTrial] at h
  rcases it_or h with ⟨hc, h⟩ | ⟨hc, h⟩
  · skip
    cases h
    exact F
  · skip
    obtain ⟨σ_1, hq, h⟩ := b1_e h
    replace F := F.tr ((frX9_keepAct hq).mono (by simp))
    obtain ⟨σ_2, hq, h⟩ := b1_e h
    replace F := F.tr ((frX5_takeOver hq).mono (by simp))
    cases h
    exact F
theorem flX9_better_26 {rr : (Int32 × Sg)} {p1 : Int32} {k51_4 : Int32 → Sg → Option (Int32 × Sg)}  (C : True) (R : True) (hk51_4 : ∀ (x2_2 : Int32) (σ_3 : Sg), k51_4 x2_2 σ_3 = some rr → fr [(29, some 6), (31, none), (32, none), (33, none), (34, none), (38, some 5), (38, some 6), (39, none), (40, none), (41, none), (42, none), (43, none), (44, none), (46, some 5), (46, some 6), (47, none), (48, none), (49, none), (50, none), (51, none), (52, none), (53, none), (61, some 0), (62, none)] σ_3 rr.2) : ∀ (n : Nat) (x2_6 : Int32) (σ_7 : Sg), LX9_better_26 p1 k51_4 n x2_6 σ_7 = some rr → fr [(29, some 6), (31, none), (32, none), (33, none), (34, none), (38, some 5), (38, some 6), (39, none), (40, none), (41, none), (42, none), (43, none), (44, none), (46, some 5), (46, some 6), (47, none), (48, none), (49, none), (50, none), (51, none), (52, none), (53, none), (61, some 0), (62, none)] σ_7 rr.2 := by
  intro n
  induction n with
  | zero =>
    intro x2_6 σ_7 h
    rw [LX9_better_26] at h
    cases h
  | succ n ih =>
    intro x2_6 σ_7 h
    rw [LX9_better_26] at h
    have F : fr [(29, some 6), (31, none), (32, none), (33, none), (34, none), (38, some 5), (38, some 6), (39, none), (40, none), (41, none), (42, none), (43, none), (44, none), (46, some 5), (46, some 6), (47, none), (48, none), (49, none), (50, none), (51, none), (52, none), (53, none), (61, some 0), (62, none)] σ_7 σ_7 := fr.rf
    rcases it_or h with ⟨hc, h⟩ | ⟨hc, h⟩
    · skip
      exact F.tr (hk51_4 _ _ h)
    · skip
      obtain ⟨r_8, σ_9, hq, h⟩ := b2_e h
      replace F := F.tr ((frX3_moveOne hq).mono (by simp))
      rcases it_or h with ⟨hc, h⟩ | ⟨hc, h⟩
      · skip
        exact F.tr (hk51_4 _ _ h)
      · skip
        obtain ⟨x2_10, h⟩ := lt_ex h
        exact F.tr (ih _ _ h)
theorem frX9_better {p1 : Int32} {σ : Sg} {rr : (Int32 × Sg)} (h : XX9_better p1 σ = some rr) : fr [(29, some 6), (31, none), (32, none), (33, none), (34, none), (38, some 5), (38, some 6), (39, none), (40, none), (41, none), (42, none), (43, none), (44, none), (46, some 5), (46, some 6), (47, none), (48, none), (49, none), (50, none), (51, none), (52, none), (53, none), (61, some 0), (62, none)] σ rr.2 := by
  have C := trivial
  have R := trivial
  have F : fr [(29, some 6), (31, none), (32, none), (33, none), (34, none), (38, some 5), (38, some 6), (39, none), (40, none), (41, none), (42, none), (43, none), (44, none), (46, some 5), (46, some 6), (47, none), (48, none), (49, none), (50, none), (51, none), (52, none), (53, none), (61, some 0), (62, none)] σ σ := fr.rf
  rw [XX9_better] at h
  rcases it_or h with ⟨hc, h⟩ | ⟨hc, h⟩
  · skip
    cases h
    exact F
  · skip
    rcases it_or h with ⟨hc, h⟩ | ⟨hc, h⟩
    · skip
      obtain ⟨σ_1, hq, h⟩ := b1_e h
      replace F := F.tr ((frX5_takeOver hq).mono (by simp))
      refine jn (fun (kk : Int32 → Sg → Option (Int32 × Sg)) => ∀ (x2_2 : Int32) (σ_3 : Sg), kk x2_2 σ_3 = some rr → fr [(29, some 6), (31, none), (32, none), (33, none), (34, none), (38, some 5), (38, some 6), (39, none), (40, none), (41, none), (42, none), (43, none), (44, none), (46, some 5), (46, some 6), (47, none), (48, none), (49, none), (50, none), (51, none), (52, none), (53, none), (61, some 0), (62, none)] σ_3 rr.2) h ?_ (fun k51_4 hk51_4 h => ?_)
      · intro x2_2 σ_3 h
        have F : fr [(29, some 6), (31, none), (32, none), (33, none), (34, none), (38, some 5), (38, some 6), (39, none), (40, none), (41, none), (42, none), (43, none), (44, none), (46, some 5), (46, some 6), (47, none), (48, none), (49, none), (50, none), (51, none), (52, none), (53, none), (61, some 0), (62, none)] σ_3 σ_3 := fr.rf
        obtain ⟨σ_5, hq, h⟩ := b1_e h
        replace F := F.tr ((frX9_adoptTrial hq).mono (by simp))
        cases h
        exact F
      exact F.tr (flX9_better_26  C R hk51_4 _ _ _ h)
    · skip
      cases h
      exact F
theorem flX9_tune_26 {rr : (Int32 × Sg)} {p1 : Int32} {k51_4 : Int32 → Sg → Option (Int32 × Sg)}  (C : True) (R : True) (hk51_4 : ∀ (x2_2 : Int32) (σ_3 : Sg), k51_4 x2_2 σ_3 = some rr → fr [(29, some 6), (31, none), (32, none), (33, none), (34, none), (38, some 5), (38, some 6), (39, none), (40, none), (41, none), (42, none), (43, none), (44, none), (46, some 5), (46, some 6), (47, none), (48, none), (49, none), (50, none), (51, none), (52, none), (53, none), (61, some 0), (62, none)] σ_3 rr.2) : ∀ (n : Nat) (x2_6 : Int32) (σ_7 : Sg), LX9_tune_26 p1 k51_4 n x2_6 σ_7 = some rr → fr [(29, some 6), (31, none), (32, none), (33, none), (34, none), (38, some 5), (38, some 6), (39, none), (40, none), (41, none), (42, none), (43, none), (44, none), (46, some 5), (46, some 6), (47, none), (48, none), (49, none), (50, none), (51, none), (52, none), (53, none), (61, some 0), (62, none)] σ_7 rr.2 := by
  intro n
  induction n with
  | zero =>
    intro x2_6 σ_7 h
    rw [LX9_tune_26] at h
    cases h
  | succ n ih =>
    intro x2_6 σ_7 h
    rw [LX9_tune_26] at h
    have F : fr [(29, some 6), (31, none), (32, none), (33, none), (34, none), (38, some 5), (38, some 6), (39, none), (40, none), (41, none), (42, none), (43, none), (44, none), (46, some 5), (46, some 6), (47, none), (48, none), (49, none), (50, none), (51, none), (52, none), (53, none), (61, some 0), (62, none)] σ_7 σ_7 := fr.rf
    rcases it_or h with ⟨hc, h⟩ | ⟨hc, h⟩
    · skip
      exact F.tr (hk51_4 _ _ h)
    · skip
      obtain ⟨r_8, σ_9, hq, h⟩ := b2_e h
      replace F := F.tr ((frX3_turnOne hq).mono (by simp))
      rcases it_or h with ⟨hc, h⟩ | ⟨hc, h⟩
      · skip
        exact F.tr (hk51_4 _ _ h)
      · skip
        obtain ⟨x2_10, h⟩ := lt_ex h
        exact F.tr (ih _ _ h)
theorem frX9_tune {p1 : Int32} {σ : Sg} {rr : (Int32 × Sg)} (h : XX9_tune p1 σ = some rr) : fr [(29, some 6), (31, none), (32, none), (33, none), (34, none), (38, some 5), (38, some 6), (39, none), (40, none), (41, none), (42, none), (43, none), (44, none), (46, some 5), (46, some 6), (47, none), (48, none), (49, none), (50, none), (51, none), (52, none), (53, none), (61, some 0), (62, none)] σ rr.2 := by
  have C := trivial
  have R := trivial
  have F : fr [(29, some 6), (31, none), (32, none), (33, none), (34, none), (38, some 5), (38, some 6), (39, none), (40, none), (41, none), (42, none), (43, none), (44, none), (46, some 5), (46, some 6), (47, none), (48, none), (49, none), (50, none), (51, none), (52, none), (53, none), (61, some 0), (62, none)] σ σ := fr.rf
  rw [XX9_tune] at h
  rcases it_or h with ⟨hc, h⟩ | ⟨hc, h⟩
  · skip
    cases h
    exact F
  · skip
    rcases it_or h with ⟨hc, h⟩ | ⟨hc, h⟩
    · skip
      obtain ⟨σ_1, hq, h⟩ := b1_e h
      replace F := F.tr ((frX5_takeOver hq).mono (by simp))
      refine jn (fun (kk : Int32 → Sg → Option (Int32 × Sg)) => ∀ (x2_2 : Int32) (σ_3 : Sg), kk x2_2 σ_3 = some rr → fr [(29, some 6), (31, none), (32, none), (33, none), (34, none), (38, some 5), (38, some 6), (39, none), (40, none), (41, none), (42, none), (43, none), (44, none), (46, some 5), (46, some 6), (47, none), (48, none), (49, none), (50, none), (51, none), (52, none), (53, none), (61, some 0), (62, none)] σ_3 rr.2) h ?_ (fun k51_4 hk51_4 h => ?_)
      · intro x2_2 σ_3 h
        have F : fr [(29, some 6), (31, none), (32, none), (33, none), (34, none), (38, some 5), (38, some 6), (39, none), (40, none), (41, none), (42, none), (43, none), (44, none), (46, some 5), (46, some 6), (47, none), (48, none), (49, none), (50, none), (51, none), (52, none), (53, none), (61, some 0), (62, none)] σ_3 σ_3 := fr.rf
        obtain ⟨σ_5, hq, h⟩ := b1_e h
        replace F := F.tr ((frX9_adoptTrial hq).mono (by simp))
        cases h
        exact F
      exact F.tr (flX9_tune_26  C R hk51_4 _ _ _ h)
    · skip
      cases h
      exact F
theorem frX9_least {σ : Sg} {rr : (Int32 × Sg)} (h : XX9_least σ = some rr) : fr [(29, some 6), (31, none), (32, none), (33, none), (34, none), (38, some 5), (38, some 6), (39, none), (41, none), (42, none), (43, none), (44, none), (45, none), (61, some 0), (62, none)] σ rr.2 := by
  have C := trivial
  have R := trivial
  have F : fr [(29, some 6), (31, none), (32, none), (33, none), (34, none), (38, some 5), (38, some 6), (39, none), (41, none), (42, none), (43, none), (44, none), (45, none), (61, some 0), (62, none)] σ σ := fr.rf
  rw [XX9_least] at h
  rcases it_or h with ⟨hc, h⟩ | ⟨hc, h⟩
  · skip
    obtain ⟨σ_1, hq, h⟩ := b1_e h
    replace F := F.tr ((frX9_keepAct hq).mono (by simp))
    obtain ⟨σ_2, hq, h⟩ := b1_e h
    replace F := F.tr ((frX3_takeLeastPlan hq).mono (by simp))
    obtain ⟨r_3, σ_4, hq, h⟩ := b2_e h
    replace F := F.tr ((frX5_wholeCost hq).mono (by simp))
    cases h
    exact F
  · skip
    cases h
    exact F
theorem frX9_clear {σ : Sg} {rr : (Int32 × Sg)} (h : XX9_clear σ = some rr) : fr [(38, some 5), (38, some 6), (39, none), (41, none), (42, none), (43, none), (44, none), (61, some 0), (62, none)] σ rr.2 := by
  have C := trivial
  have R := trivial
  have F : fr [(38, some 5), (38, some 6), (39, none), (41, none), (42, none), (43, none), (44, none), (61, some 0), (62, none)] σ σ := fr.rf
  rw [XX9_clear] at h
  obtain ⟨r_1, hq, h⟩ := b1_e h
  rcases it_or h with ⟨hc, h⟩ | ⟨hc, h⟩
  · skip
    cases h
    exact F
  · skip
    obtain ⟨σ_2, hq, h⟩ := b1_e h
    replace F := F.tr ((frX9_keepAct hq).mono (by simp))
    obtain ⟨σ_3, hq, h⟩ := b1_e h
    replace F := F.tr ((frX5_dropVisits hq).mono (by simp))
    cases h
    exact F
theorem frX9_rush {p1 : Int32} {p2 : Int32} {p3 : Int32} {σ : Sg} {rr : (Int32 × Sg)} (h : XX9_rush p1 p2 p3 σ = some rr) : fr [(2, some 7), (7, none), (8, none), (9, none), (38, some 5), (38, some 6), (40, none), (41, none), (42, none), (43, none), (44, none), (61, some 0), (62, none)] σ rr.2 := by
  have C := trivial
  have R := trivial
  have F : fr [(2, some 7), (7, none), (8, none), (9, none), (38, some 5), (38, some 6), (40, none), (41, none), (42, none), (43, none), (44, none), (61, some 0), (62, none)] σ σ := fr.rf
  rw [XX9_rush] at h
  obtain ⟨r_1, hq, h⟩ := b1_e h
  rcases it_or h with ⟨hc, h⟩ | ⟨hc, h⟩
  · skip
    cases h
    exact F
  · skip
    rcases it_or h with ⟨hc, h⟩ | ⟨hc, h⟩
    · skip
      cases h
      exact F
    · skip
      rcases it_or h with ⟨hc, h⟩ | ⟨hc, h⟩
      · skip
        cases h
        exact F
      · skip
        rcases it_or h with ⟨hc, h⟩ | ⟨hc, h⟩
        · skip
          obtain ⟨σ_2, hq, h⟩ := b1_e h
          replace F := F.tr ((frX9_keepAct hq).mono (by simp))
          obtain ⟨σ_3, hq, h⟩ := b1_e h
          replace F := F.tr ((frX7_addRush hq).mono (by simp))
          obtain ⟨σ_4, hq, h⟩ := b1_e h
          replace F := F.tr ((frX5_askPercent hq).mono (by simp))
          cases h
          exact F
        · skip
          cases h
          exact F
theorem flX9_undo_28 {rr : (Int32 × Sg)} {k61_6 : Sg → Option (Int32 × Sg)}  (C : True) (R : True) (hk61_6 : ∀ (σ_5 : Sg), k61_6 σ_5 = some rr → fr [(2, some 7), (7, none), (38, some 5), (38, some 6), (39, none), (40, none), (41, none), (42, none), (43, none), (44, none), (61, some 0)] σ_5 rr.2) : ∀ (n : Nat) (x1_8 : Int32) (σ_9 : Sg), LX9_undo_28 k61_6 n x1_8 σ_9 = some rr → fr [(2, some 7), (7, none), (38, some 5), (38, some 6), (39, none), (40, none), (41, none), (42, none), (43, none), (44, none), (61, some 0)] σ_9 rr.2 := by
  intro n
  induction n with
  | zero =>
    intro x1_8 σ_9 h
    rw [LX9_undo_28] at h
    cases h
  | succ n ih =>
    intro x1_8 σ_9 h
    rw [LX9_undo_28] at h
    have F : fr [(2, some 7), (7, none), (38, some 5), (38, some 6), (39, none), (40, none), (41, none), (42, none), (43, none), (44, none), (61, some 0)] σ_9 σ_9 := fr.rf
    rcases it_or h with ⟨hc, h⟩ | ⟨hc, h⟩
    · skip
      exact F.tr (hk61_6 _ h)
    · skip
      obtain ⟨r_10, hq, h⟩ := b1_e h
      obtain ⟨σ_11, hq, h⟩ := b1_e h
      replace F := F.tr ((frX5_setVisits hq).mono (by simp))
      obtain ⟨x1_12, h⟩ := lt_ex h
      exact F.tr (ih _ _ h)
theorem frX9_undo {σ : Sg} {rr : (Int32 × Sg)} (h : XX9_undo σ = some rr) : fr [(2, some 7), (7, none), (38, some 5), (38, some 6), (39, none), (40, none), (41, none), (42, none), (43, none), (44, none), (61, some 0)] σ rr.2 := by
  have C := trivial
  have R := trivial
  have F : fr [(2, some 7), (7, none), (38, some 5), (38, some 6), (39, none), (40, none), (41, none), (42, none), (43, none), (44, none), (61, some 0)] σ σ := fr.rf
  rw [XX9_undo] at h
  obtain ⟨r_1, σ_2, hq, h⟩ := b2_e h
  replace F := F.tr ((frX0_takeBack hq).mono (by simp))
  rcases ie_or h with ⟨hc, h⟩ | ⟨hc, h⟩
  · skip
    obtain ⟨r_3, hq, h⟩ := b1_e h
    obtain ⟨σ_4, hq, h⟩ := b1_e h
    replace F := F.tr ((frX7_keepRushes hq).mono (by simp))
    refine jn (fun (kk : Sg → Option (Int32 × Sg)) => ∀ (σ_5 : Sg), kk σ_5 = some rr → fr [(2, some 7), (7, none), (38, some 5), (38, some 6), (39, none), (40, none), (41, none), (42, none), (43, none), (44, none), (61, some 0)] σ_5 rr.2) h ?_ (fun k61_6 hk61_6 h => ?_)
    · intro σ_5 h
      have F : fr [(2, some 7), (7, none), (38, some 5), (38, some 6), (39, none), (40, none), (41, none), (42, none), (43, none), (44, none), (61, some 0)] σ_5 σ_5 := fr.rf
      obtain ⟨σ_7, hq, h⟩ := b1_e h
      replace F := F.tr ((frX5_askPercent hq).mono (by simp))
      cases h
      exact F
    exact F.tr (flX9_undo_28  C R hk61_6 _ _ _ h)
  · skip
    cases h
    exact F
theorem flX10_four_3 {rr : Sg} {p1 : Int32}  (C : True) (R : True)  : ∀ (n : Nat) (x2_1 : Int32) (σ_2 : Sg), LX10_four_3 p1 n x2_1 σ_2 = some rr → fr [(64, some 14), (76, none)] σ_2 rr := by
  intro n
  induction n with
  | zero =>
    intro x2_1 σ_2 h
    rw [LX10_four_3] at h
    cases h
  | succ n ih =>
    intro x2_1 σ_2 h
    rw [LX10_four_3] at h
    have F : fr [(64, some 14), (76, none)] σ_2 σ_2 := fr.rf
    rcases it_or h with ⟨hc, h⟩ | ⟨hc, h⟩
    · skip
      cases h
      exact F
    · skip
      obtain ⟨hb_4, h⟩ := gd h
      obtain ⟨σ_3, f1, h⟩ := lt_up h
      replace F := F.tr (f1.mono (by simp))
      obtain ⟨σ_5, f1, h⟩ := lt_upf h
      replace F := F.tr (f1.mono (by simp))
      obtain ⟨x2_6, h⟩ := lt_ex h
      exact F.tr (ih _ _ h)
theorem frX10_four {p1 : Int32} {σ : Sg} {rr : Sg} (h : XX10_four p1 σ = some rr) : fr [(64, some 14), (76, none)] σ rr := by
  have C := trivial
  have R := trivial
  have F : fr [(64, some 14), (76, none)] σ σ := fr.rf
  rw [XX10_four] at h
  exact F.tr (flX10_four_3  C R  _ _ _ h)
theorem frX10_feed {p1 : Int32} {p2 : Int32} {p3 : Int32} {p4 : Int32} {p5 : Int32} {σ : Sg} {rr : (Int32 × Sg)} (h : XX10_feed p1 p2 p3 p4 p5 σ = some rr) : fr [(64, some 0), (64, some 14), (76, none)] σ rr.2 := by
  have C := trivial
  have R := trivial
  have F : fr [(64, some 0), (64, some 14), (76, none)] σ σ := fr.rf
  rw [XX10_feed] at h
  obtain ⟨σ_1, f1, h⟩ := lt_upf h
  replace F := F.tr (f1.mono (by simp))
  rcases it_or h with ⟨hc, h⟩ | ⟨hc, h⟩
  · skip
    obtain ⟨σ_2, hq, h⟩ := b1_e h
    replace F := F.tr ((frX10_four hq).mono (by simp))
    obtain ⟨σ_3, hq, h⟩ := b1_e h
    replace F := F.tr ((frX10_four hq).mono (by simp))
    obtain ⟨σ_4, hq, h⟩ := b1_e h
    replace F := F.tr ((frX10_four hq).mono (by simp))
    obtain ⟨σ_5, hq, h⟩ := b1_e h
    replace F := F.tr ((frX10_four hq).mono (by simp))
    obtain ⟨σ_6, hq, h⟩ := b1_e h
    replace F := F.tr ((frX10_four hq).mono (by simp))
    cases h
    exact F
  · skip
    cases h
    exact F
theorem frX10_end {p1 : Int32} {σ : Sg} {rr : (Int32 × Sg)} (h : XX10_end p1 σ = some rr) : fr [(64, some 0), (64, some 14)] σ rr.2 := by
  have C := trivial
  have R := trivial
  have F : fr [(64, some 0), (64, some 14)] σ σ := fr.rf
  rw [XX10_end] at h
  obtain ⟨σ_1, f1, h⟩ := lt_upf h
  replace F := F.tr (f1.mono (by simp))
  obtain ⟨r_2, hq, h⟩ := b1_e h
  rcases ie_or h with ⟨hc, h⟩ | ⟨hc, h⟩
  · skip
    obtain ⟨σ_3, f1, h⟩ := lt_upf h
    replace F := F.tr (f1.mono (by simp))
    cases h
    exact F
  · skip
    cases h
    exact F
theorem frX10_fails {p1 : Int32} {σ : Sg} {rr : Sg} (h : XX10_fails p1 σ = some rr) : fr [(64, some 22), (64, some 23)] σ rr := by
  have C := trivial
  have R := trivial
  have F : fr [(64, some 22), (64, some 23)] σ σ := fr.rf
  rw [XX10_fails] at h
  rcases ie_or h with ⟨hc, h⟩ | ⟨hc, h⟩
  · skip
    cases h
    exact F
  · skip
    refine jn (fun (kk : Int32 → Option Sg) => ∀ (s_1 : Int32), kk s_1 = some rr → fr [(64, some 22), (64, some 23)] σ rr) h ?_ (fun k21_2 hk21_2 h => ?_)
    · intro s_1 h
      have F : fr [(64, some 22), (64, some 23)] σ σ := fr.rf
      obtain ⟨σ_3, f1, h⟩ := lt_upf h
      replace F := F.tr (f1.mono (by simp))
      obtain ⟨σ_4, f1, h⟩ := lt_upf h
      replace F := F.tr (f1.mono (by simp))
      cases h
      exact F
    rcases ie_or h with ⟨hc, h⟩ | ⟨hc, h⟩
    · skip
      exact F.tr (hk21_2 _ h)
    · skip
      exact F.tr (hk21_2 _ h)
theorem flX10_goOn_193 {rr : Sg} {k260_14 : Sg → Option Sg}  (C : True) (R : True) (hk260_14 : ∀ (σ_13 : Sg), k260_14 σ_13 = some rr → fr [(64, some 16), (64, some 17), (64, some 18), (64, some 19)] σ_13 rr) : ∀ (n : Nat) (σ_21 : Sg), LX10_goOn_193 k260_14 n σ_21 = some rr → fr [(64, some 16), (64, some 17), (64, some 18), (64, some 19)] σ_21 rr := by
  intro n
  induction n with
  | zero =>
    intro σ_21 h
    rw [LX10_goOn_193] at h
    cases h
  | succ n ih =>
    intro σ_21 h
    rw [LX10_goOn_193] at h
    have F : fr [(64, some 16), (64, some 17), (64, some 18), (64, some 19)] σ_21 σ_21 := fr.rf
    obtain ⟨r_22, hq, h⟩ := b1_e h
    obtain ⟨r_23, hq, h⟩ := b1_e h
    rcases it_or h with ⟨hc, h⟩ | ⟨hc, h⟩
    · skip
      exact F.tr (hk260_14 _ h)
    · skip
      refine jn (fun (kk : Int32 → Option Sg) => ∀ (s_24 : Int32), kk s_24 = some rr → fr [(64, some 16), (64, some 17), (64, some 18), (64, some 19)] σ_21 rr) h ?_ (fun k244_25 hk244_25 h => ?_)
      · intro s_24 h
        have F : fr [(64, some 16), (64, some 17), (64, some 18), (64, some 19)] σ_21 σ_21 := fr.rf
        obtain ⟨σ_26, f1, h⟩ := lt_upf h
        replace F := F.tr (f1.mono (by simp))
        obtain ⟨σ_27, f1, h⟩ := lt_upf h
        replace F := F.tr (f1.mono (by simp))
        exact F.tr (ih _ h)
      rcases it_or h with ⟨hc, h⟩ | ⟨hc, h⟩
      · skip
        obtain ⟨r_28, hq, h⟩ := b1_e h
        exact F.tr (hk244_25 _ h)
      · skip
        exact F.tr (hk244_25 _ h)
theorem flX10_goOn_89 {rr : Sg} {k160_30 : Sg → Option Sg}  (C : True) (R : True) (hk160_30 : ∀ (σ_29 : Sg), k160_30 σ_29 = some rr → fr [(64, some 16), (64, some 17), (64, some 18), (64, some 19)] σ_29 rr) : ∀ (n : Nat) (σ_34 : Sg), LX10_goOn_89 k160_30 n σ_34 = some rr → fr [(64, some 16), (64, some 17), (64, some 18), (64, some 19)] σ_34 rr := by
  intro n
  induction n with
  | zero =>
    intro σ_34 h
    rw [LX10_goOn_89] at h
    cases h
  | succ n ih =>
    intro σ_34 h
    rw [LX10_goOn_89] at h
    have F : fr [(64, some 16), (64, some 17), (64, some 18), (64, some 19)] σ_34 σ_34 := fr.rf
    obtain ⟨r_35, hq, h⟩ := b1_e h
    obtain ⟨r_36, hq, h⟩ := b1_e h
    rcases it_or h with ⟨hc, h⟩ | ⟨hc, h⟩
    · skip
      exact F.tr (hk160_30 _ h)
    · skip
      refine jn (fun (kk : Int32 → Option Sg) => ∀ (s_37 : Int32), kk s_37 = some rr → fr [(64, some 16), (64, some 17), (64, some 18), (64, some 19)] σ_34 rr) h ?_ (fun k144_38 hk144_38 h => ?_)
      · intro s_37 h
        have F : fr [(64, some 16), (64, some 17), (64, some 18), (64, some 19)] σ_34 σ_34 := fr.rf
        obtain ⟨σ_39, f1, h⟩ := lt_upf h
        replace F := F.tr (f1.mono (by simp))
        obtain ⟨σ_40, f1, h⟩ := lt_upf h
        replace F := F.tr (f1.mono (by simp))
        exact F.tr (ih _ h)
      rcases it_or h with ⟨hc, h⟩ | ⟨hc, h⟩
      · skip
        exact F.tr (hk144_38 _ h)
      · skip
        obtain ⟨r_41, hq, h⟩ := b1_e h
        exact F.tr (hk144_38 _ h)
theorem flX10_goOn_8 {rr : Sg} {k47_3 : Sg → Option Sg}  (C : True) (R : True) (hk47_3 : ∀ (σ_2 : Sg), k47_3 σ_2 = some rr → fr [(64, some 16), (64, some 17), (64, some 18), (64, some 19)] σ_2 rr) : ∀ (n : Nat) (σ_43 : Sg), LX10_goOn_8 k47_3 n σ_43 = some rr → fr [(64, some 16), (64, some 17), (64, some 18), (64, some 19)] σ_43 rr := by
  intro n
  induction n with
  | zero =>
    intro σ_43 h
    rw [LX10_goOn_8] at h
    cases h
  | succ n ih =>
    intro σ_43 h
    rw [LX10_goOn_8] at h
    have F : fr [(64, some 16), (64, some 17), (64, some 18), (64, some 19)] σ_43 σ_43 := fr.rf
    obtain ⟨r_44, hq, h⟩ := b1_e h
    refine jn (fun (kk : Option Sg) => kk = some rr → fr [(64, some 16), (64, some 17), (64, some 18), (64, some 19)] σ_43 rr) h ?_ (fun k34_45 hk34_45 h => ?_)
    · intro h
      have F : fr [(64, some 16), (64, some 17), (64, some 18), (64, some 19)] σ_43 σ_43 := fr.rf
      obtain ⟨σ_46, f1, h⟩ := lt_upf h
      replace F := F.tr (f1.mono (by simp))
      exact F.tr (ih _ h)
    rcases it_or h with ⟨hc, h⟩ | ⟨hc, h⟩
    · skip
      exact F.tr (hk34_45 h)
    · skip
      obtain ⟨r_47, hq, h⟩ := b1_e h
      rcases ie_or h with ⟨hc, h⟩ | ⟨hc, h⟩
      · skip
        exact F.tr (hk47_3 _ h)
      · skip
        exact F.tr (hk34_45 h)
theorem frX10_goOn {σ : Sg} {rr : Sg} (h : XX10_goOn σ = some rr) : fr [(64, some 16), (64, some 17), (64, some 18), (64, some 19)] σ rr := by
  have C := trivial
  have R := trivial
  have F : fr [(64, some 16), (64, some 17), (64, some 18), (64, some 19)] σ σ := fr.rf
  rw [XX10_goOn] at h
  obtain ⟨r_1, hq, h⟩ := b1_e h
  rcases ie_or h with ⟨hc, h⟩ | ⟨hc, h⟩
  · skip
    refine jn (fun (kk : Sg → Option Sg) => ∀ (σ_2 : Sg), kk σ_2 = some rr → fr [(64, some 16), (64, some 17), (64, some 18), (64, some 19)] σ_2 rr) h ?_ (fun k47_3 hk47_3 h => ?_)
    · intro σ_2 h
      have F : fr [(64, some 16), (64, some 17), (64, some 18), (64, some 19)] σ_2 σ_2 := fr.rf
      obtain ⟨σ_4, f1, h⟩ := lt_upf h
      replace F := F.tr (f1.mono (by simp))
      obtain ⟨r_5, hq, h⟩ := b1_e h
      obtain ⟨σ_6, f1, h⟩ := lt_upf h
      replace F := F.tr (f1.mono (by simp))
      rcases ie_or h with ⟨hc, h⟩ | ⟨hc, h⟩
      · skip
        obtain ⟨r_7, hq, h⟩ := b1_e h
        rcases it_or h with ⟨hc, h⟩ | ⟨hc, h⟩
        · skip
          obtain ⟨r_8, hq, h⟩ := b1_e h
          rcases it_or h with ⟨hc, h⟩ | ⟨hc, h⟩
          · skip
            obtain ⟨σ_9, f1, h⟩ := lt_upf h
            replace F := F.tr (f1.mono (by simp))
            refine jn (fun (kk : Int32 → Option Sg) => ∀ (s_10 : Int32), kk s_10 = some rr → fr [(64, some 16), (64, some 17), (64, some 18), (64, some 19)] σ_9 rr) h ?_ (fun k321_11 hk321_11 h => ?_)
            · intro s_10 h
              have F : fr [(64, some 16), (64, some 17), (64, some 18), (64, some 19)] σ_9 σ_9 := fr.rf
              obtain ⟨σ_12, f1, h⟩ := lt_upf h
              replace F := F.tr (f1.mono (by simp))
              cases h
              exact F
            rcases ie_or h with ⟨hc, h⟩ | ⟨hc, h⟩
            · skip
              exact F.tr (hk321_11 _ h)
            · skip
              exact F.tr (hk321_11 _ h)
          · skip
            refine jn (fun (kk : Sg → Option Sg) => ∀ (σ_13 : Sg), kk σ_13 = some rr → fr [(64, some 16), (64, some 17), (64, some 18), (64, some 19)] σ_13 rr) h ?_ (fun k260_14 hk260_14 h => ?_)
            · intro σ_13 h
              have F : fr [(64, some 16), (64, some 17), (64, some 18), (64, some 19)] σ_13 σ_13 := fr.rf
              refine jn (fun (kk : Int32 → Option Sg) => ∀ (s_15 : Int32), kk s_15 = some rr → fr [(64, some 16), (64, some 17), (64, some 18), (64, some 19)] σ_13 rr) h ?_ (fun k293_16 hk293_16 h => ?_)
              · intro s_15 h
                have F : fr [(64, some 16), (64, some 17), (64, some 18), (64, some 19)] σ_13 σ_13 := fr.rf
                obtain ⟨σ_17, f1, h⟩ := lt_upf h
                replace F := F.tr (f1.mono (by simp))
                cases h
                exact F
              refine jn (fun (kk : Option Sg) => kk = some rr → fr [(64, some 16), (64, some 17), (64, some 18), (64, some 19)] σ_13 rr) h ?_ (fun k288_18 hk288_18 h => ?_)
              · intro h
                have F : fr [(64, some 16), (64, some 17), (64, some 18), (64, some 19)] σ_13 σ_13 := fr.rf
                exact F.tr (hk293_16 _ h)
              rcases it_or h with ⟨hc, h⟩ | ⟨hc, h⟩
              · skip
                exact F.tr (hk288_18 h)
              · skip
                obtain ⟨r_19, hq, h⟩ := b1_e h
                obtain ⟨r_20, hq, h⟩ := b1_e h
                rcases it_or h with ⟨hc, h⟩ | ⟨hc, h⟩
                · skip
                  exact F.tr (hk293_16 _ h)
                · skip
                  exact F.tr (hk288_18 h)
            exact F.tr (flX10_goOn_193  C R hk260_14 _ _ h)
        · skip
          refine jn (fun (kk : Sg → Option Sg) => ∀ (σ_29 : Sg), kk σ_29 = some rr → fr [(64, some 16), (64, some 17), (64, some 18), (64, some 19)] σ_29 rr) h ?_ (fun k160_30 hk160_30 h => ?_)
          · intro σ_29 h
            have F : fr [(64, some 16), (64, some 17), (64, some 18), (64, some 19)] σ_29 σ_29 := fr.rf
            refine jn (fun (kk : Int32 → Option Sg) => ∀ (s_31 : Int32), kk s_31 = some rr → fr [(64, some 16), (64, some 17), (64, some 18), (64, some 19)] σ_29 rr) h ?_ (fun k180_32 hk180_32 h => ?_)
            · intro s_31 h
              have F : fr [(64, some 16), (64, some 17), (64, some 18), (64, some 19)] σ_29 σ_29 := fr.rf
              obtain ⟨σ_33, f1, h⟩ := lt_upf h
              replace F := F.tr (f1.mono (by simp))
              cases h
              exact F
            rcases it_or h with ⟨hc, h⟩ | ⟨hc, h⟩
            · skip
              exact F.tr (hk180_32 _ h)
            · skip
              exact F.tr (hk180_32 _ h)
          exact F.tr (flX10_goOn_89  C R hk160_30 _ _ h)
      · skip
        obtain ⟨σ_42, f1, h⟩ := lt_upf h
        replace F := F.tr (f1.mono (by simp))
        cases h
        exact F
    exact F.tr (flX10_goOn_8  C R hk47_3 _ _ h)
  · skip
    cases h
    exact F
theorem frX10_readNumber {p1 : Int32} {p2 : Int32} {σ : Sg} {rr : (Int32 × Sg)} (h : XX10_readNumber p1 p2 σ = some rr) : fr [(64, some 16), (64, some 17), (64, some 18), (64, some 19), (64, some 22), (64, some 23)] σ rr.2 := by
  have C := trivial
  have R := trivial
  have F : fr [(64, some 16), (64, some 17), (64, some 18), (64, some 19), (64, some 22), (64, some 23)] σ σ := fr.rf
  rw [XX10_readNumber] at h
  obtain ⟨r_1, hq, h⟩ := b1_e h
  refine jn (fun (kk : Sg → Option (Int32 × Sg)) => ∀ (σ_2 : Sg), kk σ_2 = some rr → fr [(64, some 16), (64, some 17), (64, some 18), (64, some 19), (64, some 22), (64, some 23)] σ_2 rr.2) h ?_ (fun k47_3 hk47_3 h => ?_)
  · intro σ_2 h
    have F : fr [(64, some 16), (64, some 17), (64, some 18), (64, some 19), (64, some 22), (64, some 23)] σ_2 σ_2 := fr.rf
    obtain ⟨x3_4, h⟩ := lt_ex h
    obtain ⟨σ_5, hq, h⟩ := b1_e h
    replace F := F.tr ((frX10_goOn hq).mono (by simp))
    obtain ⟨r_6, hq, h⟩ := b1_e h
    rcases it_or h with ⟨hc, h⟩ | ⟨hc, h⟩
    · skip
      cases h
      exact F
    · skip
      cases h
      exact F
  refine jn (fun (kk : Option (Int32 × Sg)) => kk = some rr → fr [(64, some 16), (64, some 17), (64, some 18), (64, some 19), (64, some 22), (64, some 23)] σ rr.2) h ?_ (fun k23_7 hk23_7 h => ?_)
  · intro h
    have F : fr [(64, some 16), (64, some 17), (64, some 18), (64, some 19), (64, some 22), (64, some 23)] σ σ := fr.rf
    obtain ⟨r_8, hq, h⟩ := b1_e h
    rcases it_or h with ⟨hc, h⟩ | ⟨hc, h⟩
    · skip
      exact F.tr (hk47_3 _ h)
    · skip
      obtain ⟨r_9, hq, h⟩ := b1_e h
      rcases ie_or h with ⟨hc, h⟩ | ⟨hc, h⟩
      · skip
        exact F.tr (hk47_3 _ h)
      · skip
        obtain ⟨σ_10, hq, h⟩ := b1_e h
        replace F := F.tr ((frX10_fails hq).mono (by simp))
        exact F.tr (hk47_3 _ h)
  rcases it_or h with ⟨hc, h⟩ | ⟨hc, h⟩
  · skip
    exact F.tr (hk23_7 h)
  · skip
    rcases it_or h with ⟨hc, h⟩ | ⟨hc, h⟩
    · skip
      exact F.tr (hk23_7 h)
    · skip
      obtain ⟨σ_11, hq, h⟩ := b1_e h
      replace F := F.tr ((frX10_fails hq).mono (by simp))
      exact F.tr (hk47_3 _ h)
theorem frX10_keyword {p1 : Int32} {σ : Sg} {rr : Sg} (h : XX10_keyword p1 σ = some rr) : fr [(64, some 16), (64, some 17), (64, some 18), (64, some 19), (64, some 22), (64, some 23)] σ rr := by
  have C := trivial
  have R := trivial
  have F : fr [(64, some 16), (64, some 17), (64, some 18), (64, some 19), (64, some 22), (64, some 23)] σ σ := fr.rf
  rw [XX10_keyword] at h
  obtain ⟨r_1, hq, h⟩ := b1_e h
  refine jn (fun (kk : Sg → Option Sg) => ∀ (σ_2 : Sg), kk σ_2 = some rr → fr [(64, some 16), (64, some 17), (64, some 18), (64, some 19), (64, some 22), (64, some 23)] σ_2 rr) h ?_ (fun k20_3 hk20_3 h => ?_)
  · intro σ_2 h
    have F : fr [(64, some 16), (64, some 17), (64, some 18), (64, some 19), (64, some 22), (64, some 23)] σ_2 σ_2 := fr.rf
    obtain ⟨σ_4, hq, h⟩ := b1_e h
    replace F := F.tr ((frX10_goOn hq).mono (by simp))
    cases h
    exact F
  rcases it_or h with ⟨hc, h⟩ | ⟨hc, h⟩
  · skip
    exact F.tr (hk20_3 _ h)
  · skip
    obtain ⟨r_5, hq, h⟩ := b1_e h
    rcases ie_or h with ⟨hc, h⟩ | ⟨hc, h⟩
    · skip
      exact F.tr (hk20_3 _ h)
    · skip
      obtain ⟨σ_6, hq, h⟩ := b1_e h
      replace F := F.tr ((frX10_fails hq).mono (by simp))
      exact F.tr (hk20_3 _ h)
theorem frX10_begins {p1 : Int32} {σ : Sg} {rr : (Int32 × Sg)} (h : XX10_begins p1 σ = some rr) : fr [(64, some 12), (64, some 16), (64, some 17), (64, some 18), (64, some 19), (64, some 22), (64, some 23)] σ rr.2 := by
  have C := trivial
  have R := trivial
  have F : fr [(64, some 12), (64, some 16), (64, some 17), (64, some 18), (64, some 19), (64, some 22), (64, some 23)] σ σ := fr.rf
  rw [XX10_begins] at h
  obtain ⟨r_1, hq, h⟩ := b1_e h
  refine jn (fun (kk : Sg → Option (Int32 × Sg)) => ∀ (σ_2 : Sg), kk σ_2 = some rr → fr [(64, some 12), (64, some 16), (64, some 17), (64, some 18), (64, some 19), (64, some 22), (64, some 23)] σ_2 rr.2) h ?_ (fun k26_3 hk26_3 h => ?_)
  · intro σ_2 h
    have F : fr [(64, some 12), (64, some 16), (64, some 17), (64, some 18), (64, some 19), (64, some 22), (64, some 23)] σ_2 σ_2 := fr.rf
    obtain ⟨σ_4, f1, h⟩ := lt_upf h
    replace F := F.tr (f1.mono (by simp))
    obtain ⟨σ_5, hq, h⟩ := b1_e h
    replace F := F.tr ((frX10_goOn hq).mono (by simp))
    obtain ⟨r_6, hq, h⟩ := b1_e h
    obtain ⟨hn_7, h⟩ := gd h
    cases h
    exact F
  refine jn (fun (kk : Option (Int32 × Sg)) => kk = some rr → fr [(64, some 12), (64, some 16), (64, some 17), (64, some 18), (64, some 19), (64, some 22), (64, some 23)] σ rr.2) h ?_ (fun k21_8 hk21_8 h => ?_)
  · intro h
    have F : fr [(64, some 12), (64, some 16), (64, some 17), (64, some 18), (64, some 19), (64, some 22), (64, some 23)] σ σ := fr.rf
    obtain ⟨σ_9, hq, h⟩ := b1_e h
    replace F := F.tr ((frX10_fails hq).mono (by simp))
    exact F.tr (hk26_3 _ h)
  rcases ie_or h with ⟨hc, h⟩ | ⟨hc, h⟩
  · skip
    exact F.tr (hk21_8 h)
  · skip
    rcases it_or h with ⟨hc, h⟩ | ⟨hc, h⟩
    · skip
      exact F.tr (hk26_3 _ h)
    · skip
      exact F.tr (hk21_8 h)
theorem frX10_reads {p1 : Int32} {p2 : Int32} {p3 : Int32} {σ : Sg} {rr : Sg} (h : XX10_reads p1 p2 p3 σ = some rr) : fr [(64, some 16), (64, some 17), (64, some 18), (64, some 19), (64, some 22), (64, some 23), (65, none)] σ rr := by
  have C := trivial
  have R := trivial
  have F : fr [(64, some 16), (64, some 17), (64, some 18), (64, some 19), (64, some 22), (64, some 23), (65, none)] σ σ := fr.rf
  rw [XX10_reads] at h
  obtain ⟨r_1, σ_2, hq, h⟩ := b2_e h
  replace F := F.tr ((frX10_readNumber hq).mono (by simp))
  obtain ⟨hb_4, h⟩ := gd h
  obtain ⟨σ_3, f1, h⟩ := lt_up h
  replace F := F.tr (f1.mono (by simp))
  cases h
  exact F
theorem frX10_readTruck {σ : Sg} {rr : Sg} (h : XX10_readTruck σ = some rr) : fr [(64, some 12), (64, some 16), (64, some 17), (64, some 18), (64, some 19), (64, some 22), (64, some 23), (65, none)] σ rr := by
  have C := trivial
  have R := trivial
  have F : fr [(64, some 12), (64, some 16), (64, some 17), (64, some 18), (64, some 19), (64, some 22), (64, some 23), (65, none)] σ σ := fr.rf
  rw [XX10_readTruck] at h
  obtain ⟨r_1, σ_2, hq, h⟩ := b2_e h
  replace F := F.tr ((frX10_begins hq).mono (by simp))
  rcases ie_or h with ⟨hc, h⟩ | ⟨hc, h⟩
  · skip
    obtain ⟨σ_3, hq, h⟩ := b1_e h
    replace F := F.tr ((frX10_reads hq).mono (by simp))
    obtain ⟨r_4, hq, h⟩ := b1_e h
    refine jn (fun (kk : Sg → Option Sg) => ∀ (σ_5 : Sg), kk σ_5 = some rr → fr [(64, some 12), (64, some 16), (64, some 17), (64, some 18), (64, some 19), (64, some 22), (64, some 23), (65, none)] σ_5 rr) h ?_ (fun k45_6 hk45_6 h => ?_)
    · intro σ_5 h
      have F : fr [(64, some 12), (64, some 16), (64, some 17), (64, some 18), (64, some 19), (64, some 22), (64, some 23), (65, none)] σ_5 σ_5 := fr.rf
      obtain ⟨r_7, hq, h⟩ := b1_e h
      rcases it_or h with ⟨hc, h⟩ | ⟨hc, h⟩
      · skip
        cases h
        exact F
      · skip
        obtain ⟨r_8, hq, h⟩ := b1_e h
        rcases it_or h with ⟨hc, h⟩ | ⟨hc, h⟩
        · skip
          cases h
          exact F
        · skip
          obtain ⟨σ_9, hq, h⟩ := b1_e h
          replace F := F.tr ((frX10_goOn hq).mono (by simp))
          obtain ⟨σ_10, hq, h⟩ := b1_e h
          replace F := F.tr ((frX10_reads hq).mono (by simp))
          cases h
          exact F
    rcases it_or h with ⟨hc, h⟩ | ⟨hc, h⟩
    · skip
      exact F.tr (hk45_6 _ h)
    · skip
      obtain ⟨r_11, hq, h⟩ := b1_e h
      rcases it_or h with ⟨hc, h⟩ | ⟨hc, h⟩
      · skip
        exact F.tr (hk45_6 _ h)
      · skip
        obtain ⟨σ_12, hq, h⟩ := b1_e h
        replace F := F.tr ((frX10_goOn hq).mono (by simp))
        obtain ⟨σ_13, hq, h⟩ := b1_e h
        replace F := F.tr ((frX10_reads hq).mono (by simp))
        exact F.tr (hk45_6 _ h)
  · skip
    cases h
    exact F
theorem flX10_readShop_182 {rr : Sg} {x1_1 : Int32} {k234_31 : Int32 → Sg → Option Sg}  (C : True) (R : True) (hk234_31 : ∀ (x3_29 : Int32) (σ_30 : Sg), k234_31 x3_29 σ_30 = some rr → fr [(64, some 16), (64, some 17), (64, some 18), (64, some 19), (64, some 22), (64, some 23), (65, none), (66, none), (67, none), (68, none), (69, none), (70, none), (71, none), (75, none)] σ_30 rr) : ∀ (n : Nat) (x3_34 : Int32) (σ_35 : Sg), LX10_readShop_182 x1_1 k234_31 n x3_34 σ_35 = some rr → fr [(64, some 16), (64, some 17), (64, some 18), (64, some 19), (64, some 22), (64, some 23), (65, none), (66, none), (67, none), (68, none), (69, none), (70, none), (71, none), (75, none)] σ_35 rr := by
  intro n
  induction n with
  | zero =>
    intro x3_34 σ_35 h
    rw [LX10_readShop_182] at h
    cases h
  | succ n ih =>
    intro x3_34 σ_35 h
    rw [LX10_readShop_182] at h
    have F : fr [(64, some 16), (64, some 17), (64, some 18), (64, some 19), (64, some 22), (64, some 23), (65, none), (66, none), (67, none), (68, none), (69, none), (70, none), (71, none), (75, none)] σ_35 σ_35 := fr.rf
    obtain ⟨r_36, hq, h⟩ := b1_e h
    rcases it_or h with ⟨hc, h⟩ | ⟨hc, h⟩
    · skip
      exact F.tr (hk234_31 _ _ h)
    · skip
      refine jn (fun (kk : Option Sg) => kk = some rr → fr [(64, some 16), (64, some 17), (64, some 18), (64, some 19), (64, some 22), (64, some 23), (65, none), (66, none), (67, none), (68, none), (69, none), (70, none), (71, none), (75, none)] σ_35 rr) h ?_ (fun k207_37 hk207_37 h => ?_)
      · intro h
        have F : fr [(64, some 16), (64, some 17), (64, some 18), (64, some 19), (64, some 22), (64, some 23), (65, none), (66, none), (67, none), (68, none), (69, none), (70, none), (71, none), (75, none)] σ_35 σ_35 := fr.rf
        obtain ⟨r_38, σ_39, hq, h⟩ := b2_e h
        replace F := F.tr ((frX10_readNumber hq).mono (by simp))
        obtain ⟨hb_41, h⟩ := gd h
        obtain ⟨σ_40, f1, h⟩ := lt_up h
        replace F := F.tr (f1.mono (by simp))
        obtain ⟨x3_42, h⟩ := lt_ex h
        exact F.tr (ih _ _ h)
      rcases it_or h with ⟨hc, h⟩ | ⟨hc, h⟩
      · skip
        exact F.tr (hk207_37 h)
      · skip
        rcases ie_or h with ⟨hc, h⟩ | ⟨hc, h⟩
        · skip
          exact F.tr (hk234_31 _ _ h)
        · skip
          rcases it_or h with ⟨hc, h⟩ | ⟨hc, h⟩
          · skip
            exact F.tr (hk234_31 _ _ h)
          · skip
            exact F.tr (hk207_37 h)
theorem frX10_readShop {σ : Sg} {rr : Sg} (h : XX10_readShop σ = some rr) : fr [(64, some 16), (64, some 17), (64, some 18), (64, some 19), (64, some 22), (64, some 23), (65, none), (66, none), (67, none), (68, none), (69, none), (70, none), (71, none), (75, none)] σ rr := by
  have C := trivial
  have R := trivial
  have F : fr [(64, some 16), (64, some 17), (64, some 18), (64, some 19), (64, some 22), (64, some 23), (65, none), (66, none), (67, none), (68, none), (69, none), (70, none), (71, none), (75, none)] σ σ := fr.rf
  rw [XX10_readShop] at h
  obtain ⟨x1_1, h⟩ := lt_ex h
  refine jn (fun (kk : Sg → Option Sg) => ∀ (σ_2 : Sg), kk σ_2 = some rr → fr [(64, some 16), (64, some 17), (64, some 18), (64, some 19), (64, some 22), (64, some 23), (65, none), (66, none), (67, none), (68, none), (69, none), (70, none), (71, none), (75, none)] σ_2 rr) h ?_ (fun k19_3 hk19_3 h => ?_)
  · intro σ_2 h
    have F : fr [(64, some 16), (64, some 17), (64, some 18), (64, some 19), (64, some 22), (64, some 23), (65, none), (66, none), (67, none), (68, none), (69, none), (70, none), (71, none), (75, none)] σ_2 σ_2 := fr.rf
    obtain ⟨σ_4, hq, h⟩ := b1_e h
    replace F := F.tr ((frX10_goOn hq).mono (by simp))
    obtain ⟨r_5, hq, h⟩ := b1_e h
    refine jn (fun (kk : Sg → Option Sg) => ∀ (σ_6 : Sg), kk σ_6 = some rr → fr [(64, some 16), (64, some 17), (64, some 18), (64, some 19), (64, some 22), (64, some 23), (65, none), (66, none), (67, none), (68, none), (69, none), (70, none), (71, none), (75, none)] σ_6 rr) h ?_ (fun k64_7 hk64_7 h => ?_)
    · intro σ_6 h
      have F : fr [(64, some 16), (64, some 17), (64, some 18), (64, some 19), (64, some 22), (64, some 23), (65, none), (66, none), (67, none), (68, none), (69, none), (70, none), (71, none), (75, none)] σ_6 σ_6 := fr.rf
      obtain ⟨r_8, hq, h⟩ := b1_e h
      rcases ie_or h with ⟨hc, h⟩ | ⟨hc, h⟩
      · skip
        obtain ⟨hb_10, h⟩ := gd h
        obtain ⟨σ_9, f1, h⟩ := lt_up h
        replace F := F.tr (f1.mono (by simp))
        obtain ⟨σ_11, hq, h⟩ := b1_e h
        replace F := F.tr ((frX10_goOn hq).mono (by simp))
        obtain ⟨σ_12, hq, h⟩ := b1_e h
        replace F := F.tr ((frX10_keyword hq).mono (by simp))
        obtain ⟨r_13, σ_14, hq, h⟩ := b2_e h
        replace F := F.tr ((frX10_readNumber hq).mono (by simp))
        obtain ⟨hb_16, h⟩ := gd h
        obtain ⟨σ_15, f1, h⟩ := lt_up h
        replace F := F.tr (f1.mono (by simp))
        obtain ⟨r_17, σ_18, hq, h⟩ := b2_e h
        replace F := F.tr ((frX10_readNumber hq).mono (by simp))
        obtain ⟨σ_19, f1, h⟩ := lt_up h
        replace F := F.tr (f1.mono (by simp))
        obtain ⟨σ_20, hq, h⟩ := b1_e h
        replace F := F.tr ((frX10_keyword hq).mono (by simp))
        obtain ⟨r_21, σ_22, hq, h⟩ := b2_e h
        replace F := F.tr ((frX10_readNumber hq).mono (by simp))
        obtain ⟨σ_23, f1, h⟩ := lt_up h
        replace F := F.tr (f1.mono (by simp))
        obtain ⟨σ_24, hq, h⟩ := b1_e h
        replace F := F.tr ((frX10_keyword hq).mono (by simp))
        obtain ⟨r_25, σ_26, hq, h⟩ := b2_e h
        replace F := F.tr ((frX10_readNumber hq).mono (by simp))
        obtain ⟨σ_27, f1, h⟩ := lt_up h
        replace F := F.tr (f1.mono (by simp))
        obtain ⟨σ_28, hq, h⟩ := b1_e h
        replace F := F.tr ((frX10_keyword hq).mono (by simp))
        refine jn (fun (kk : Int32 → Sg → Option Sg) => ∀ (x3_29 : Int32) (σ_30 : Sg), kk x3_29 σ_30 = some rr → fr [(64, some 16), (64, some 17), (64, some 18), (64, some 19), (64, some 22), (64, some 23), (65, none), (66, none), (67, none), (68, none), (69, none), (70, none), (71, none), (75, none)] σ_30 rr) h ?_ (fun k234_31 hk234_31 h => ?_)
        · intro x3_29 σ_30 h
          have F : fr [(64, some 16), (64, some 17), (64, some 18), (64, some 19), (64, some 22), (64, some 23), (65, none), (66, none), (67, none), (68, none), (69, none), (70, none), (71, none), (75, none)] σ_30 σ_30 := fr.rf
          obtain ⟨σ_32, f1, h⟩ := lt_up h
          replace F := F.tr (f1.mono (by simp))
          obtain ⟨σ_33, f1, h⟩ := lt_up h
          replace F := F.tr (f1.mono (by simp))
          cases h
          exact F
        exact F.tr (flX10_readShop_182  C R hk234_31 _ _ _ h)
      · skip
        cases h
        exact F
    refine jn (fun (kk : Option Sg) => kk = some rr → fr [(64, some 16), (64, some 17), (64, some 18), (64, some 19), (64, some 22), (64, some 23), (65, none), (66, none), (67, none), (68, none), (69, none), (70, none), (71, none), (75, none)] σ_4 rr) h ?_ (fun k45_43 hk45_43 h => ?_)
    · intro h
      have F : fr [(64, some 16), (64, some 17), (64, some 18), (64, some 19), (64, some 22), (64, some 23), (65, none), (66, none), (67, none), (68, none), (69, none), (70, none), (71, none), (75, none)] σ_4 σ_4 := fr.rf
      obtain ⟨r_44, hq, h⟩ := b1_e h
      rcases it_or h with ⟨hc, h⟩ | ⟨hc, h⟩
      · skip
        exact F.tr (hk64_7 _ h)
      · skip
        obtain ⟨r_45, hq, h⟩ := b1_e h
        rcases it_or h with ⟨hc, h⟩ | ⟨hc, h⟩
        · skip
          exact F.tr (hk64_7 _ h)
        · skip
          obtain ⟨σ_46, hq, h⟩ := b1_e h
          replace F := F.tr ((frX10_fails hq).mono (by simp))
          exact F.tr (hk64_7 _ h)
    rcases it_or h with ⟨hc, h⟩ | ⟨hc, h⟩
    · skip
      exact F.tr (hk45_43 h)
    · skip
      obtain ⟨r_47, hq, h⟩ := b1_e h
      rcases ie_or h with ⟨hc, h⟩ | ⟨hc, h⟩
      · skip
        exact F.tr (hk45_43 h)
      · skip
        obtain ⟨σ_48, hq, h⟩ := b1_e h
        replace F := F.tr ((frX10_fails hq).mono (by simp))
        exact F.tr (hk64_7 _ h)
  rcases ie_or h with ⟨hc, h⟩ | ⟨hc, h⟩
  · skip
    exact F.tr (hk19_3 _ h)
  · skip
    obtain ⟨σ_49, hq, h⟩ := b1_e h
    replace F := F.tr ((frX10_fails hq).mono (by simp))
    exact F.tr (hk19_3 _ h)
theorem frX10_readRush {σ : Sg} {rr : Sg} (h : XX10_readRush σ = some rr) : fr [(64, some 16), (64, some 17), (64, some 18), (64, some 19), (64, some 22), (64, some 23), (65, none), (72, none), (73, none), (74, none)] σ rr := by
  have C := trivial
  have R := trivial
  have F : fr [(64, some 16), (64, some 17), (64, some 18), (64, some 19), (64, some 22), (64, some 23), (65, none), (72, none), (73, none), (74, none)] σ σ := fr.rf
  rw [XX10_readRush] at h
  obtain ⟨x1_1, h⟩ := lt_ex h
  refine jn (fun (kk : Sg → Option Sg) => ∀ (σ_2 : Sg), kk σ_2 = some rr → fr [(64, some 16), (64, some 17), (64, some 18), (64, some 19), (64, some 22), (64, some 23), (65, none), (72, none), (73, none), (74, none)] σ_2 rr) h ?_ (fun k19_3 hk19_3 h => ?_)
  · intro σ_2 h
    have F : fr [(64, some 16), (64, some 17), (64, some 18), (64, some 19), (64, some 22), (64, some 23), (65, none), (72, none), (73, none), (74, none)] σ_2 σ_2 := fr.rf
    obtain ⟨σ_4, hq, h⟩ := b1_e h
    replace F := F.tr ((frX10_goOn hq).mono (by simp))
    obtain ⟨r_5, hq, h⟩ := b1_e h
    refine jn (fun (kk : Int32 → Option Sg) => ∀ (s_6 : Int32), kk s_6 = some rr → fr [(64, some 16), (64, some 17), (64, some 18), (64, some 19), (64, some 22), (64, some 23), (65, none), (72, none), (73, none), (74, none)] σ_4 rr) h ?_ (fun k45_7 hk45_7 h => ?_)
    · intro s_6 h
      have F : fr [(64, some 16), (64, some 17), (64, some 18), (64, some 19), (64, some 22), (64, some 23), (65, none), (72, none), (73, none), (74, none)] σ_4 σ_4 := fr.rf
      obtain ⟨r_8, hq, h⟩ := b1_e h
      refine jn (fun (kk : Sg → Option Sg) => ∀ (σ_9 : Sg), kk σ_9 = some rr → fr [(64, some 16), (64, some 17), (64, some 18), (64, some 19), (64, some 22), (64, some 23), (65, none), (72, none), (73, none), (74, none)] σ_9 rr) h ?_ (fun k73_10 hk73_10 h => ?_)
      · intro σ_9 h
        have F : fr [(64, some 16), (64, some 17), (64, some 18), (64, some 19), (64, some 22), (64, some 23), (65, none), (72, none), (73, none), (74, none)] σ_9 σ_9 := fr.rf
        obtain ⟨σ_11, hq, h⟩ := b1_e h
        replace F := F.tr ((frX10_goOn hq).mono (by simp))
        obtain ⟨r_12, σ_13, hq, h⟩ := b2_e h
        replace F := F.tr ((frX10_readNumber hq).mono (by simp))
        obtain ⟨r_14, σ_15, hq, h⟩ := b2_e h
        replace F := F.tr ((frX10_readNumber hq).mono (by simp))
        obtain ⟨r_16, hq, h⟩ := b1_e h
        rcases ie_or h with ⟨hc, h⟩ | ⟨hc, h⟩
        · skip
          obtain ⟨hb_18, h⟩ := gd h
          obtain ⟨σ_17, f1, h⟩ := lt_up h
          replace F := F.tr (f1.mono (by simp))
          obtain ⟨σ_19, f1, h⟩ := lt_up h
          replace F := F.tr (f1.mono (by simp))
          obtain ⟨σ_20, f1, h⟩ := lt_up h
          replace F := F.tr (f1.mono (by simp))
          obtain ⟨σ_21, f1, h⟩ := lt_up h
          replace F := F.tr (f1.mono (by simp))
          cases h
          exact F
        · skip
          cases h
          exact F
      rcases it_or h with ⟨hc, h⟩ | ⟨hc, h⟩
      · skip
        exact F.tr (hk73_10 _ h)
      · skip
        rcases it_or h with ⟨hc, h⟩ | ⟨hc, h⟩
        · skip
          exact F.tr (hk73_10 _ h)
        · skip
          obtain ⟨r_22, hq, h⟩ := b1_e h
          refine jn (fun (kk : Int32 → Option Sg) => ∀ (s_23 : Int32), kk s_23 = some rr → fr [(64, some 16), (64, some 17), (64, some 18), (64, some 19), (64, some 22), (64, some 23), (65, none), (72, none), (73, none), (74, none)] σ_4 rr) h ?_ (fun k70_24 hk70_24 h => ?_)
          · intro s_23 h
            have F : fr [(64, some 16), (64, some 17), (64, some 18), (64, some 19), (64, some 22), (64, some 23), (65, none), (72, none), (73, none), (74, none)] σ_4 σ_4 := fr.rf
            obtain ⟨σ_25, hq, h⟩ := b1_e h
            replace F := F.tr ((frX10_fails hq).mono (by simp))
            exact F.tr (hk73_10 _ h)
          rcases it_or h with ⟨hc, h⟩ | ⟨hc, h⟩
          · skip
            exact F.tr (hk70_24 _ h)
          · skip
            exact F.tr (hk70_24 _ h)
    refine jn (fun (kk : Option Sg) => kk = some rr → fr [(64, some 16), (64, some 17), (64, some 18), (64, some 19), (64, some 22), (64, some 23), (65, none), (72, none), (73, none), (74, none)] σ_4 rr) h ?_ (fun k44_26 hk44_26 h => ?_)
    · intro h
      have F : fr [(64, some 16), (64, some 17), (64, some 18), (64, some 19), (64, some 22), (64, some 23), (65, none), (72, none), (73, none), (74, none)] σ_4 σ_4 := fr.rf
      exact F.tr (hk45_7 _ h)
    rcases it_or h with ⟨hc, h⟩ | ⟨hc, h⟩
    · skip
      exact F.tr (hk44_26 h)
    · skip
      obtain ⟨r_27, hq, h⟩ := b1_e h
      rcases it_or h with ⟨hc, h⟩ | ⟨hc, h⟩
      · skip
        exact F.tr (hk44_26 h)
      · skip
        obtain ⟨r_28, hq, h⟩ := b1_e h
        exact F.tr (hk45_7 _ h)
  rcases ie_or h with ⟨hc, h⟩ | ⟨hc, h⟩
  · skip
    exact F.tr (hk19_3 _ h)
  · skip
    obtain ⟨σ_29, hq, h⟩ := b1_e h
    replace F := F.tr ((frX10_fails hq).mono (by simp))
    exact F.tr (hk19_3 _ h)
theorem frX10_readLine {σ : Sg} {rr : Sg} (h : XX10_readLine σ = some rr) : fr [(64, some 12), (64, some 16), (64, some 17), (64, some 18), (64, some 19), (64, some 22), (64, some 23), (65, none), (66, none), (67, none), (68, none), (69, none), (70, none), (71, none), (72, none), (73, none), (74, none), (75, none)] σ rr := by
  have C := trivial
  have R := trivial
  have F : fr [(64, some 12), (64, some 16), (64, some 17), (64, some 18), (64, some 19), (64, some 22), (64, some 23), (65, none), (66, none), (67, none), (68, none), (69, none), (70, none), (71, none), (72, none), (73, none), (74, none), (75, none)] σ σ := fr.rf
  rw [XX10_readLine] at h
  obtain ⟨r_1, hq, h⟩ := b1_e h
  refine jn (fun (kk : Sg → Option Sg) => ∀ (σ_2 : Sg), kk σ_2 = some rr → fr [(64, some 12), (64, some 16), (64, some 17), (64, some 18), (64, some 19), (64, some 22), (64, some 23), (65, none), (66, none), (67, none), (68, none), (69, none), (70, none), (71, none), (72, none), (73, none), (74, none), (75, none)] σ_2 rr) h ?_ (fun k175_3 hk175_3 h => ?_)
  · intro σ_2 h
    have F : fr [(64, some 12), (64, some 16), (64, some 17), (64, some 18), (64, some 19), (64, some 22), (64, some 23), (65, none), (66, none), (67, none), (68, none), (69, none), (70, none), (71, none), (72, none), (73, none), (74, none), (75, none)] σ_2 σ_2 := fr.rf
    obtain ⟨r_4, hq, h⟩ := b1_e h
    refine jn (fun (kk : Sg → Option Sg) => ∀ (σ_5 : Sg), kk σ_5 = some rr → fr [(64, some 12), (64, some 16), (64, some 17), (64, some 18), (64, some 19), (64, some 22), (64, some 23), (65, none), (66, none), (67, none), (68, none), (69, none), (70, none), (71, none), (72, none), (73, none), (74, none), (75, none)] σ_5 rr) h ?_ (fun k195_6 hk195_6 h => ?_)
    · intro σ_5 h
      have F : fr [(64, some 12), (64, some 16), (64, some 17), (64, some 18), (64, some 19), (64, some 22), (64, some 23), (65, none), (66, none), (67, none), (68, none), (69, none), (70, none), (71, none), (72, none), (73, none), (74, none), (75, none)] σ_5 σ_5 := fr.rf
      obtain ⟨σ_7, hq, h⟩ := b1_e h
      replace F := F.tr ((frX10_goOn hq).mono (by simp))
      cases h
      exact F
    rcases it_or h with ⟨hc, h⟩ | ⟨hc, h⟩
    · skip
      exact F.tr (hk195_6 _ h)
    · skip
      rcases it_or h with ⟨hc, h⟩ | ⟨hc, h⟩
      · skip
        exact F.tr (hk195_6 _ h)
      · skip
        obtain ⟨σ_8, hq, h⟩ := b1_e h
        replace F := F.tr ((frX10_fails hq).mono (by simp))
        exact F.tr (hk195_6 _ h)
  rcases it_or h with ⟨hc, h⟩ | ⟨hc, h⟩
  · skip
    obtain ⟨r_9, hq, h⟩ := b1_e h
    rcases it_or h with ⟨hc, h⟩ | ⟨hc, h⟩
    · skip
      obtain ⟨r_10, hq, h⟩ := b1_e h
      rcases it_or h with ⟨hc, h⟩ | ⟨hc, h⟩
      · skip
        obtain ⟨r_11, hq, h⟩ := b1_e h
        rcases it_or h with ⟨hc, h⟩ | ⟨hc, h⟩
        · skip
          obtain ⟨r_12, hq, h⟩ := b1_e h
          rcases it_or h with ⟨hc, h⟩ | ⟨hc, h⟩
          · skip
            obtain ⟨r_13, hq, h⟩ := b1_e h
            rcases it_or h with ⟨hc, h⟩ | ⟨hc, h⟩
            · skip
              obtain ⟨r_14, hq, h⟩ := b1_e h
              rcases it_or h with ⟨hc, h⟩ | ⟨hc, h⟩
              · skip
                obtain ⟨σ_15, hq, h⟩ := b1_e h
                replace F := F.tr ((frX10_fails hq).mono (by simp))
                exact F.tr (hk175_3 _ h)
              · skip
                obtain ⟨σ_16, hq, h⟩ := b1_e h
                replace F := F.tr ((frX10_readRush hq).mono (by simp))
                exact F.tr (hk175_3 _ h)
            · skip
              obtain ⟨σ_17, hq, h⟩ := b1_e h
              replace F := F.tr ((frX10_readShop hq).mono (by simp))
              exact F.tr (hk175_3 _ h)
          · skip
            obtain ⟨r_18, σ_19, hq, h⟩ := b2_e h
            replace F := F.tr ((frX10_begins hq).mono (by simp))
            rcases it_or h with ⟨hc, h⟩ | ⟨hc, h⟩
            · skip
              exact F.tr (hk175_3 _ h)
            · skip
              obtain ⟨σ_20, hq, h⟩ := b1_e h
              replace F := F.tr ((frX10_reads hq).mono (by simp))
              exact F.tr (hk175_3 _ h)
        · skip
          obtain ⟨r_21, σ_22, hq, h⟩ := b2_e h
          replace F := F.tr ((frX10_begins hq).mono (by simp))
          rcases it_or h with ⟨hc, h⟩ | ⟨hc, h⟩
          · skip
            exact F.tr (hk175_3 _ h)
          · skip
            obtain ⟨σ_23, hq, h⟩ := b1_e h
            replace F := F.tr ((frX10_reads hq).mono (by simp))
            exact F.tr (hk175_3 _ h)
      · skip
        obtain ⟨σ_24, hq, h⟩ := b1_e h
        replace F := F.tr ((frX10_readTruck hq).mono (by simp))
        exact F.tr (hk175_3 _ h)
    · skip
      obtain ⟨r_25, σ_26, hq, h⟩ := b2_e h
      replace F := F.tr ((frX10_begins hq).mono (by simp))
      rcases it_or h with ⟨hc, h⟩ | ⟨hc, h⟩
      · skip
        exact F.tr (hk175_3 _ h)
      · skip
        obtain ⟨σ_27, hq, h⟩ := b1_e h
        replace F := F.tr ((frX10_reads hq).mono (by simp))
        obtain ⟨σ_28, hq, h⟩ := b1_e h
        replace F := F.tr ((frX10_reads hq).mono (by simp))
        exact F.tr (hk175_3 _ h)
  · skip
    obtain ⟨r_29, σ_30, hq, h⟩ := b2_e h
    replace F := F.tr ((frX10_begins hq).mono (by simp))
    rcases it_or h with ⟨hc, h⟩ | ⟨hc, h⟩
    · skip
      exact F.tr (hk175_3 _ h)
    · skip
      obtain ⟨σ_31, hq, h⟩ := b1_e h
      replace F := F.tr ((frX10_reads hq).mono (by simp))
      exact F.tr (hk175_3 _ h)
theorem flX10_layWays_56 {rr : Sg} {x1_1 : Int32} {x2_7 : Int32} {σ_8 : Sg} {k133_16 : Int32 → Option Sg}  (C : True) (R : True) (hk133_16 : ∀ (x3_15 : Int32), k133_16 x3_15 = some rr → fr [(77, none)] σ_8 rr) : ∀ (n : Nat) (x3_19 : Int32) (x4_20 : Int32), LX10_layWays_56 x1_1 x2_7 σ_8 k133_16 n x3_19 x4_20 = some rr → fr [(77, none)] σ_8 rr := by
  intro n
  induction n with
  | zero =>
    intro x3_19 x4_20 h
    rw [LX10_layWays_56] at h
    cases h
  | succ n ih =>
    intro x3_19 x4_20 h
    rw [LX10_layWays_56] at h
    have F : fr [(77, none)] σ_8 σ_8 := fr.rf
    obtain ⟨r_21, hq, h⟩ := b1_e h
    rcases it_or h with ⟨hc, h⟩ | ⟨hc, h⟩
    · skip
      exact F.tr (hk133_16 _ h)
    · skip
      obtain ⟨r_22, hq, h⟩ := b1_e h
      refine jn (fun (kk : Int32 → Option Sg) => ∀ (s_23 : Int32), kk s_23 = some rr → fr [(77, none)] σ_8 rr) h ?_ (fun k103_24 hk103_24 h => ?_)
      · intro s_23 h
        have F : fr [(77, none)] σ_8 σ_8 := fr.rf
        refine jn (fun (kk : Int32 → Option Sg) => ∀ (s_25 : Int32), kk s_25 = some rr → fr [(77, none)] σ_8 rr) h ?_ (fun k126_26 hk126_26 h => ?_)
        · intro s_25 h
          have F : fr [(77, none)] σ_8 σ_8 := fr.rf
          obtain ⟨x4_27, h⟩ := lt_ex h
          exact F.tr (ih _ _ h)
        refine jn (fun (kk : Option Sg) => kk = some rr → fr [(77, none)] σ_8 rr) h ?_ (fun k120_28 hk120_28 h => ?_)
        · intro h
          have F : fr [(77, none)] σ_8 σ_8 := fr.rf
          exact F.tr (hk126_26 _ h)
        rcases it_or h with ⟨hc, h⟩ | ⟨hc, h⟩
        · skip
          exact F.tr (hk120_28 h)
        · skip
          refine jn (fun (kk : Option Sg) => kk = some rr → fr [(77, none)] σ_8 rr) h ?_ (fun k124_29 hk124_29 h => ?_)
          · intro h
            have F : fr [(77, none)] σ_8 σ_8 := fr.rf
            exact F.tr (hk126_26 _ h)
          rcases it_or h with ⟨hc, h⟩ | ⟨hc, h⟩
          · skip
            exact F.tr (hk124_29 h)
          · skip
            rcases it_or h with ⟨hc, h⟩ | ⟨hc, h⟩
            · skip
              exact F.tr (hk124_29 h)
            · skip
              exact F.tr (hk120_28 h)
      rcases it_or h with ⟨hc, h⟩ | ⟨hc, h⟩
      · skip
        exact F.tr (hk103_24 _ h)
      · skip
        obtain ⟨r_30, hq, h⟩ := b1_e h
        obtain ⟨hb_31, h⟩ := gd h
        exact F.tr (hk103_24 _ h)
theorem flX10_layWays_14 {rr : Sg} {x1_1 : Int32} {k151_5 : Sg → Option Sg}  (C : True) (R : True) (hk151_5 : ∀ (σ_4 : Sg), k151_5 σ_4 = some rr → fr [(77, none)] σ_4 rr) : ∀ (n : Nat) (x2_7 : Int32) (σ_8 : Sg), LX10_layWays_14 x1_1 k151_5 n x2_7 σ_8 = some rr → fr [(77, none)] σ_8 rr := by
  intro n
  induction n with
  | zero =>
    intro x2_7 σ_8 h
    rw [LX10_layWays_14] at h
    cases h
  | succ n ih =>
    intro x2_7 σ_8 h
    rw [LX10_layWays_14] at h
    have F : fr [(77, none)] σ_8 σ_8 := fr.rf
    rcases it_or h with ⟨hc, h⟩ | ⟨hc, h⟩
    · skip
      exact F.tr (hk151_5 _ h)
    · skip
      refine jn (fun (kk : Sg → Option Sg) => ∀ (σ_9 : Sg), kk σ_9 = some rr → fr [(77, none)] σ_9 rr) h ?_ (fun k145_10 hk145_10 h => ?_)
      · intro σ_9 h
        have F : fr [(77, none)] σ_9 σ_9 := fr.rf
        obtain ⟨x2_11, h⟩ := lt_ex h
        exact F.tr (ih _ _ h)
      refine jn (fun (kk : Option Sg) => kk = some rr → fr [(77, none)] σ_8 rr) h ?_ (fun k37_12 hk37_12 h => ?_)
      · intro h
        have F : fr [(77, none)] σ_8 σ_8 := fr.rf
        refine jn (fun (kk : Int32 → Option Sg) => ∀ (s_13 : Int32), kk s_13 = some rr → fr [(77, none)] σ_8 rr) h ?_ (fun k52_14 hk52_14 h => ?_)
        · intro s_13 h
          have F : fr [(77, none)] σ_8 σ_8 := fr.rf
          refine jn (fun (kk : Int32 → Option Sg) => ∀ (x3_15 : Int32), kk x3_15 = some rr → fr [(77, none)] σ_8 rr) h ?_ (fun k133_16 hk133_16 h => ?_)
          · intro x3_15 h
            have F : fr [(77, none)] σ_8 σ_8 := fr.rf
            obtain ⟨hb_18, h⟩ := gd h
            obtain ⟨σ_17, f1, h⟩ := lt_up h
            replace F := F.tr (f1.mono (by simp))
            exact F.tr (hk145_10 _ h)
          exact F.tr (flX10_layWays_56  C R hk133_16 _ _ _ h)
        rcases ie_or h with ⟨hc, h⟩ | ⟨hc, h⟩
        · skip
          exact F.tr (hk52_14 _ h)
        · skip
          obtain ⟨r_32, hq, h⟩ := b1_e h
          exact F.tr (hk52_14 _ h)
      rcases it_or h with ⟨hc, h⟩ | ⟨hc, h⟩
      · skip
        exact F.tr (hk37_12 h)
      · skip
        obtain ⟨r_33, hq, h⟩ := b1_e h
        rcases it_or h with ⟨hc, h⟩ | ⟨hc, h⟩
        · skip
          exact F.tr (hk37_12 h)
        · skip
          exact F.tr (hk145_10 _ h)
theorem flX10_layWays_2 {rr : Sg}   (C : True) (R : True)  : ∀ (n : Nat) (x1_1 : Int32) (σ_2 : Sg), LX10_layWays_2 n x1_1 σ_2 = some rr → fr [(77, none)] σ_2 rr := by
  intro n
  induction n with
  | zero =>
    intro x1_1 σ_2 h
    rw [LX10_layWays_2] at h
    cases h
  | succ n ih =>
    intro x1_1 σ_2 h
    rw [LX10_layWays_2] at h
    have F : fr [(77, none)] σ_2 σ_2 := fr.rf
    obtain ⟨r_3, hq, h⟩ := b1_e h
    rcases it_or h with ⟨hc, h⟩ | ⟨hc, h⟩
    · skip
      cases h
      exact F
    · skip
      refine jn (fun (kk : Sg → Option Sg) => ∀ (σ_4 : Sg), kk σ_4 = some rr → fr [(77, none)] σ_4 rr) h ?_ (fun k151_5 hk151_5 h => ?_)
      · intro σ_4 h
        have F : fr [(77, none)] σ_4 σ_4 := fr.rf
        obtain ⟨x1_6, h⟩ := lt_ex h
        exact F.tr (ih _ _ h)
      exact F.tr (flX10_layWays_14  C R hk151_5 _ _ _ h)
theorem frX10_layWays {σ : Sg} {rr : Sg} (h : XX10_layWays σ = some rr) : fr [(77, none)] σ rr := by
  have C := trivial
  have R := trivial
  have F : fr [(77, none)] σ σ := fr.rf
  rw [XX10_layWays] at h
  exact F.tr (flX10_layWays_2  C R  _ _ _ h)
theorem flX10_stands_156 {rr : Sg} {k213_8 : Sg → Option Sg}  (C : True) (R : True) (hk213_8 : ∀ (σ_7 : Sg), k213_8 σ_7 = some rr → fr [(64, some 39), (65, none), (66, none), (67, none), (68, none), (69, none), (70, none), (71, none), (72, none), (73, none), (74, none), (77, none), (78, none)] σ_7 rr) : ∀ (n : Nat) (x1_11 : Int32) (σ_12 : Sg), LX10_stands_156 k213_8 n x1_11 σ_12 = some rr → fr [(64, some 39), (65, none), (66, none), (67, none), (68, none), (69, none), (70, none), (71, none), (72, none), (73, none), (74, none), (77, none), (78, none)] σ_12 rr := by
  intro n
  induction n with
  | zero =>
    intro x1_11 σ_12 h
    rw [LX10_stands_156] at h
    cases h
  | succ n ih =>
    intro x1_11 σ_12 h
    rw [LX10_stands_156] at h
    have F : fr [(64, some 39), (65, none), (66, none), (67, none), (68, none), (69, none), (70, none), (71, none), (72, none), (73, none), (74, none), (77, none), (78, none)] σ_12 σ_12 := fr.rf
    rcases it_or h with ⟨hc, h⟩ | ⟨hc, h⟩
    · skip
      exact F.tr (hk213_8 _ h)
    · skip
      obtain ⟨hb_13, h⟩ := gd h
      obtain ⟨hb_15, h⟩ := gd h
      obtain ⟨σ_14, f1, h⟩ := lt_up h
      replace F := F.tr (f1.mono (by simp))
      obtain ⟨σ_16, f1, h⟩ := lt_up h
      replace F := F.tr (f1.mono (by simp))
      obtain ⟨σ_17, f1, h⟩ := lt_up h
      replace F := F.tr (f1.mono (by simp))
      obtain ⟨x1_18, h⟩ := lt_ex h
      exact F.tr (ih _ _ h)
theorem flX10_stands_127 {rr : Sg} {k154_6 : Sg → Option Sg}  (C : True) (R : True) (hk154_6 : ∀ (σ_5 : Sg), k154_6 σ_5 = some rr → fr [(64, some 39), (65, none), (66, none), (67, none), (68, none), (69, none), (70, none), (71, none), (72, none), (73, none), (74, none), (77, none), (78, none)] σ_5 rr) : ∀ (n : Nat) (x1_19 : Int32) (σ_20 : Sg), LX10_stands_127 k154_6 n x1_19 σ_20 = some rr → fr [(64, some 39), (65, none), (66, none), (67, none), (68, none), (69, none), (70, none), (71, none), (72, none), (73, none), (74, none), (77, none), (78, none)] σ_20 rr := by
  intro n
  induction n with
  | zero =>
    intro x1_19 σ_20 h
    rw [LX10_stands_127] at h
    cases h
  | succ n ih =>
    intro x1_19 σ_20 h
    rw [LX10_stands_127] at h
    have F : fr [(64, some 39), (65, none), (66, none), (67, none), (68, none), (69, none), (70, none), (71, none), (72, none), (73, none), (74, none), (77, none), (78, none)] σ_20 σ_20 := fr.rf
    rcases it_or h with ⟨hc, h⟩ | ⟨hc, h⟩
    · skip
      exact F.tr (hk154_6 _ h)
    · skip
      obtain ⟨hb_21, h⟩ := gd h
      obtain ⟨hb_23, h⟩ := gd h
      obtain ⟨σ_22, f1, h⟩ := lt_up h
      replace F := F.tr (f1.mono (by simp))
      obtain ⟨x1_24, h⟩ := lt_ex h
      exact F.tr (ih _ _ h)
theorem flX10_stands_31 {rr : Sg} {k125_4 : Sg → Option Sg}  (C : True) (R : True) (hk125_4 : ∀ (σ_3 : Sg), k125_4 σ_3 = some rr → fr [(64, some 39), (65, none), (66, none), (67, none), (68, none), (69, none), (70, none), (71, none), (72, none), (73, none), (74, none), (77, none), (78, none)] σ_3 rr) : ∀ (n : Nat) (x1_25 : Int32) (σ_26 : Sg), LX10_stands_31 k125_4 n x1_25 σ_26 = some rr → fr [(64, some 39), (65, none), (66, none), (67, none), (68, none), (69, none), (70, none), (71, none), (72, none), (73, none), (74, none), (77, none), (78, none)] σ_26 rr := by
  intro n
  induction n with
  | zero =>
    intro x1_25 σ_26 h
    rw [LX10_stands_31] at h
    cases h
  | succ n ih =>
    intro x1_25 σ_26 h
    rw [LX10_stands_31] at h
    have F : fr [(64, some 39), (65, none), (66, none), (67, none), (68, none), (69, none), (70, none), (71, none), (72, none), (73, none), (74, none), (77, none), (78, none)] σ_26 σ_26 := fr.rf
    rcases it_or h with ⟨hc, h⟩ | ⟨hc, h⟩
    · skip
      exact F.tr (hk125_4 _ h)
    · skip
      obtain ⟨hb_27, h⟩ := gd h
      obtain ⟨hb_29, h⟩ := gd h
      obtain ⟨σ_28, f1, h⟩ := lt_up h
      replace F := F.tr (f1.mono (by simp))
      obtain ⟨σ_30, f1, h⟩ := lt_up h
      replace F := F.tr (f1.mono (by simp))
      obtain ⟨σ_31, f1, h⟩ := lt_up h
      replace F := F.tr (f1.mono (by simp))
      obtain ⟨σ_32, f1, h⟩ := lt_up h
      replace F := F.tr (f1.mono (by simp))
      obtain ⟨σ_33, f1, h⟩ := lt_up h
      replace F := F.tr (f1.mono (by simp))
      obtain ⟨hb_35, h⟩ := gd h
      obtain ⟨σ_34, f1, h⟩ := lt_up h
      replace F := F.tr (f1.mono (by simp))
      obtain ⟨x1_36, h⟩ := lt_ex h
      exact F.tr (ih _ _ h)
theorem flX10_stands_2 {rr : Sg} {k29_2 : Sg → Option Sg}  (C : True) (R : True) (hk29_2 : ∀ (σ_1 : Sg), k29_2 σ_1 = some rr → fr [(64, some 39), (65, none), (66, none), (67, none), (68, none), (69, none), (70, none), (71, none), (72, none), (73, none), (74, none), (77, none), (78, none)] σ_1 rr) : ∀ (n : Nat) (x1_37 : Int32) (σ_38 : Sg), LX10_stands_2 k29_2 n x1_37 σ_38 = some rr → fr [(64, some 39), (65, none), (66, none), (67, none), (68, none), (69, none), (70, none), (71, none), (72, none), (73, none), (74, none), (77, none), (78, none)] σ_38 rr := by
  intro n
  induction n with
  | zero =>
    intro x1_37 σ_38 h
    rw [LX10_stands_2] at h
    cases h
  | succ n ih =>
    intro x1_37 σ_38 h
    rw [LX10_stands_2] at h
    have F : fr [(64, some 39), (65, none), (66, none), (67, none), (68, none), (69, none), (70, none), (71, none), (72, none), (73, none), (74, none), (77, none), (78, none)] σ_38 σ_38 := fr.rf
    rcases it_or h with ⟨hc, h⟩ | ⟨hc, h⟩
    · skip
      exact F.tr (hk29_2 _ h)
    · skip
      obtain ⟨hb_39, h⟩ := gd h
      obtain ⟨hb_41, h⟩ := gd h
      obtain ⟨σ_40, f1, h⟩ := lt_up h
      replace F := F.tr (f1.mono (by simp))
      obtain ⟨x1_42, h⟩ := lt_ex h
      exact F.tr (ih _ _ h)
theorem frX10_stands {σ : Sg} {rr : Sg} (h : XX10_stands σ = some rr) : fr [(64, some 39), (65, none), (66, none), (67, none), (68, none), (69, none), (70, none), (71, none), (72, none), (73, none), (74, none), (77, none), (78, none)] σ rr := by
  have C := trivial
  have R := trivial
  have F : fr [(64, some 39), (65, none), (66, none), (67, none), (68, none), (69, none), (70, none), (71, none), (72, none), (73, none), (74, none), (77, none), (78, none)] σ σ := fr.rf
  rw [XX10_stands] at h
  refine jn (fun (kk : Sg → Option Sg) => ∀ (σ_1 : Sg), kk σ_1 = some rr → fr [(64, some 39), (65, none), (66, none), (67, none), (68, none), (69, none), (70, none), (71, none), (72, none), (73, none), (74, none), (77, none), (78, none)] σ_1 rr) h ?_ (fun k29_2 hk29_2 h => ?_)
  · intro σ_1 h
    have F : fr [(64, some 39), (65, none), (66, none), (67, none), (68, none), (69, none), (70, none), (71, none), (72, none), (73, none), (74, none), (77, none), (78, none)] σ_1 σ_1 := fr.rf
    refine jn (fun (kk : Sg → Option Sg) => ∀ (σ_3 : Sg), kk σ_3 = some rr → fr [(64, some 39), (65, none), (66, none), (67, none), (68, none), (69, none), (70, none), (71, none), (72, none), (73, none), (74, none), (77, none), (78, none)] σ_3 rr) h ?_ (fun k125_4 hk125_4 h => ?_)
    · intro σ_3 h
      have F : fr [(64, some 39), (65, none), (66, none), (67, none), (68, none), (69, none), (70, none), (71, none), (72, none), (73, none), (74, none), (77, none), (78, none)] σ_3 σ_3 := fr.rf
      refine jn (fun (kk : Sg → Option Sg) => ∀ (σ_5 : Sg), kk σ_5 = some rr → fr [(64, some 39), (65, none), (66, none), (67, none), (68, none), (69, none), (70, none), (71, none), (72, none), (73, none), (74, none), (77, none), (78, none)] σ_5 rr) h ?_ (fun k154_6 hk154_6 h => ?_)
      · intro σ_5 h
        have F : fr [(64, some 39), (65, none), (66, none), (67, none), (68, none), (69, none), (70, none), (71, none), (72, none), (73, none), (74, none), (77, none), (78, none)] σ_5 σ_5 := fr.rf
        refine jn (fun (kk : Sg → Option Sg) => ∀ (σ_7 : Sg), kk σ_7 = some rr → fr [(64, some 39), (65, none), (66, none), (67, none), (68, none), (69, none), (70, none), (71, none), (72, none), (73, none), (74, none), (77, none), (78, none)] σ_7 rr) h ?_ (fun k213_8 hk213_8 h => ?_)
        · intro σ_7 h
          have F : fr [(64, some 39), (65, none), (66, none), (67, none), (68, none), (69, none), (70, none), (71, none), (72, none), (73, none), (74, none), (77, none), (78, none)] σ_7 σ_7 := fr.rf
          obtain ⟨σ_9, f1, h⟩ := lt_upf h
          replace F := F.tr (f1.mono (by simp))
          obtain ⟨σ_10, hq, h⟩ := b1_e h
          replace F := F.tr ((frX10_layWays hq).mono (by simp))
          cases h
          exact F
        exact F.tr (flX10_stands_156  C R hk213_8 _ _ _ h)
      exact F.tr (flX10_stands_127  C R hk154_6 _ _ _ h)
    exact F.tr (flX10_stands_31  C R hk125_4 _ _ _ h)
  exact F.tr (flX10_stands_2  C R hk29_2 _ _ _ h)
theorem flX10_text_121 {rr : (Int32 × Sg)} {k142_19 : Sg → Option (Int32 × Sg)}  (C : True) (R : True) (hk142_19 : ∀ (σ_18 : Sg), k142_19 σ_18 = some rr → fr [(64, some 0), (64, some 12), (64, some 14), (64, some 15), (64, some 16), (64, some 17), (64, some 18), (64, some 19), (64, some 20), (64, some 21), (64, some 22), (64, some 23), (64, some 39), (65, none), (66, none), (67, none), (68, none), (69, none), (70, none), (71, none), (72, none), (73, none), (74, none), (75, none), (77, none), (78, none)] σ_18 rr.2) : ∀ (n : Nat) (σ_28 : Sg), LX10_text_121 k142_19 n σ_28 = some rr → fr [(64, some 0), (64, some 12), (64, some 14), (64, some 15), (64, some 16), (64, some 17), (64, some 18), (64, some 19), (64, some 20), (64, some 21), (64, some 22), (64, some 23), (64, some 39), (65, none), (66, none), (67, none), (68, none), (69, none), (70, none), (71, none), (72, none), (73, none), (74, none), (75, none), (77, none), (78, none)] σ_28 rr.2 := by
  intro n
  induction n with
  | zero =>
    intro σ_28 h
    rw [LX10_text_121] at h
    cases h
  | succ n ih =>
    intro σ_28 h
    rw [LX10_text_121] at h
    have F : fr [(64, some 0), (64, some 12), (64, some 14), (64, some 15), (64, some 16), (64, some 17), (64, some 18), (64, some 19), (64, some 20), (64, some 21), (64, some 22), (64, some 23), (64, some 39), (65, none), (66, none), (67, none), (68, none), (69, none), (70, none), (71, none), (72, none), (73, none), (74, none), (75, none), (77, none), (78, none)] σ_28 σ_28 := fr.rf
    obtain ⟨r_29, hq, h⟩ := b1_e h
    rcases it_or h with ⟨hc, h⟩ | ⟨hc, h⟩
    · skip
      exact F.tr (hk142_19 _ h)
    · skip
      rcases it_or h with ⟨hc, h⟩ | ⟨hc, h⟩
      · skip
        exact F.tr (hk142_19 _ h)
      · skip
        obtain ⟨σ_30, hq, h⟩ := b1_e h
        replace F := F.tr ((frX10_readLine hq).mono (by simp))
        exact F.tr (ih _ h)
theorem frX10_text {σ : Sg} {rr : (Int32 × Sg)} (h : XX10_text σ = some rr) : fr [(64, some 0), (64, some 12), (64, some 14), (64, some 15), (64, some 16), (64, some 17), (64, some 18), (64, some 19), (64, some 20), (64, some 21), (64, some 22), (64, some 23), (64, some 39), (65, none), (66, none), (67, none), (68, none), (69, none), (70, none), (71, none), (72, none), (73, none), (74, none), (75, none), (77, none), (78, none)] σ rr.2 := by
  have C := trivial
  have R := trivial
  have F : fr [(64, some 0), (64, some 12), (64, some 14), (64, some 15), (64, some 16), (64, some 17), (64, some 18), (64, some 19), (64, some 20), (64, some 21), (64, some 22), (64, some 23), (64, some 39), (65, none), (66, none), (67, none), (68, none), (69, none), (70, none), (71, none), (72, none), (73, none), (74, none), (75, none), (77, none), (78, none)] σ σ := fr.rf
  rw [XX10_text] at h
  obtain ⟨σ_1, f1, h⟩ := lt_upf h
  replace F := F.tr (f1.mono (by simp))
  obtain ⟨σ_2, f1, h⟩ := lt_upf h
  replace F := F.tr (f1.mono (by simp))
  obtain ⟨σ_3, f1, h⟩ := lt_upf h
  replace F := F.tr (f1.mono (by simp))
  obtain ⟨σ_4, f1, h⟩ := lt_upf h
  replace F := F.tr (f1.mono (by simp))
  obtain ⟨σ_5, f1, h⟩ := lt_upf h
  replace F := F.tr (f1.mono (by simp))
  obtain ⟨σ_6, f1, h⟩ := lt_upf h
  replace F := F.tr (f1.mono (by simp))
  obtain ⟨σ_7, f1, h⟩ := lt_up h
  replace F := F.tr (f1.mono (by simp))
  obtain ⟨σ_8, f1, h⟩ := lt_up h
  replace F := F.tr (f1.mono (by simp))
  obtain ⟨σ_9, f1, h⟩ := lt_up h
  replace F := F.tr (f1.mono (by simp))
  obtain ⟨σ_10, f1, h⟩ := lt_up h
  replace F := F.tr (f1.mono (by simp))
  obtain ⟨σ_11, f1, h⟩ := lt_up h
  replace F := F.tr (f1.mono (by simp))
  obtain ⟨σ_12, f1, h⟩ := lt_up h
  replace F := F.tr (f1.mono (by simp))
  obtain ⟨σ_13, f1, h⟩ := lt_up h
  replace F := F.tr (f1.mono (by simp))
  obtain ⟨σ_14, f1, h⟩ := lt_up h
  replace F := F.tr (f1.mono (by simp))
  obtain ⟨σ_15, f1, h⟩ := lt_up h
  replace F := F.tr (f1.mono (by simp))
  obtain ⟨σ_16, f1, h⟩ := lt_up h
  replace F := F.tr (f1.mono (by simp))
  obtain ⟨σ_17, hq, h⟩ := b1_e h
  replace F := F.tr ((frX10_goOn hq).mono (by simp))
  refine jn (fun (kk : Sg → Option (Int32 × Sg)) => ∀ (σ_18 : Sg), kk σ_18 = some rr → fr [(64, some 0), (64, some 12), (64, some 14), (64, some 15), (64, some 16), (64, some 17), (64, some 18), (64, some 19), (64, some 20), (64, some 21), (64, some 22), (64, some 23), (64, some 39), (65, none), (66, none), (67, none), (68, none), (69, none), (70, none), (71, none), (72, none), (73, none), (74, none), (75, none), (77, none), (78, none)] σ_18 rr.2) h ?_ (fun k142_19 hk142_19 h => ?_)
  · intro σ_18 h
    have F : fr [(64, some 0), (64, some 12), (64, some 14), (64, some 15), (64, some 16), (64, some 17), (64, some 18), (64, some 19), (64, some 20), (64, some 21), (64, some 22), (64, some 23), (64, some 39), (65, none), (66, none), (67, none), (68, none), (69, none), (70, none), (71, none), (72, none), (73, none), (74, none), (75, none), (77, none), (78, none)] σ_18 σ_18 := fr.rf
    obtain ⟨σ_20, f1, h⟩ := lt_upf h
    replace F := F.tr (f1.mono (by simp))
    obtain ⟨r_21, hq, h⟩ := b1_e h
    refine jn (fun (kk : Int32 → Option (Int32 × Sg)) => ∀ (s_22 : Int32), kk s_22 = some rr → fr [(64, some 0), (64, some 12), (64, some 14), (64, some 15), (64, some 16), (64, some 17), (64, some 18), (64, some 19), (64, some 20), (64, some 21), (64, some 22), (64, some 23), (64, some 39), (65, none), (66, none), (67, none), (68, none), (69, none), (70, none), (71, none), (72, none), (73, none), (74, none), (75, none), (77, none), (78, none)] σ_20 rr.2) h ?_ (fun k166_23 hk166_23 h => ?_)
    · intro s_22 h
      have F : fr [(64, some 0), (64, some 12), (64, some 14), (64, some 15), (64, some 16), (64, some 17), (64, some 18), (64, some 19), (64, some 20), (64, some 21), (64, some 22), (64, some 23), (64, some 39), (65, none), (66, none), (67, none), (68, none), (69, none), (70, none), (71, none), (72, none), (73, none), (74, none), (75, none), (77, none), (78, none)] σ_20 σ_20 := fr.rf
      obtain ⟨σ_24, f1, h⟩ := lt_upf h
      replace F := F.tr (f1.mono (by simp))
      obtain ⟨r_25, hq, h⟩ := b1_e h
      rcases ie_or h with ⟨hc, h⟩ | ⟨hc, h⟩
      · skip
        obtain ⟨σ_26, hq, h⟩ := b1_e h
        replace F := F.tr ((frX10_stands hq).mono (by simp))
        obtain ⟨r_27, hq, h⟩ := b1_e h
        cases h
        exact F
      · skip
        cases h
        exact F
    rcases it_or h with ⟨hc, h⟩ | ⟨hc, h⟩
    · skip
      exact F.tr (hk166_23 _ h)
    · skip
      exact F.tr (hk166_23 _ h)
  exact F.tr (flX10_text_121  C R hk142_19 _ _ h)
theorem frX10_fault {p1 : Int32} {σ : Sg} {rr : (Int32 × Sg)} (h : XX10_fault p1 σ = some rr) : fr [(64, some 0)] σ rr.2 := by
  have C := trivial
  have R := trivial
  have F : fr [(64, some 0)] σ σ := fr.rf
  rw [XX10_fault] at h
  obtain ⟨σ_1, f1, h⟩ := lt_upf h
  replace F := F.tr (f1.mono (by simp))
  rcases ie_or h with ⟨hc, h⟩ | ⟨hc, h⟩
  · skip
    rcases ie_or h with ⟨hc, h⟩ | ⟨hc, h⟩
    · skip
      cases h
      exact F
    · skip
      cases h
      exact F
  · skip
    cases h
    exact F
theorem frX10_about {p1 : Int32} {σ : Sg} {rr : (Int32 × Sg)} (h : XX10_about p1 σ = some rr) : fr [(64, some 0)] σ rr.2 := by
  have C := trivial
  have R := trivial
  have F : fr [(64, some 0)] σ σ := fr.rf
  rw [XX10_about] at h
  obtain ⟨σ_1, f1, h⟩ := lt_upf h
  replace F := F.tr (f1.mono (by simp))
  by_cases hs_3 : p1 = (0 : Int32)
  · replace h := it hs_3 h
    obtain ⟨r_2, hq, h⟩ := b1_e h
    cases h
    exact F
  replace h := ie hs_3 h
  by_cases hs_5 : p1 = (1 : Int32)
  · replace h := it hs_5 h
    obtain ⟨r_4, hq, h⟩ := b1_e h
    cases h
    exact F
  replace h := ie hs_5 h
  by_cases hs_7 : p1 = (2 : Int32)
  · replace h := it hs_7 h
    obtain ⟨r_6, hq, h⟩ := b1_e h
    cases h
    exact F
  replace h := ie hs_7 h
  by_cases hs_9 : p1 = (3 : Int32)
  · replace h := it hs_9 h
    obtain ⟨r_8, hq, h⟩ := b1_e h
    cases h
    exact F
  replace h := ie hs_9 h
  by_cases hs_11 : p1 = (4 : Int32)
  · replace h := it hs_11 h
    obtain ⟨r_10, hq, h⟩ := b1_e h
    cases h
    exact F
  replace h := ie hs_11 h
  by_cases hs_13 : p1 = (5 : Int32)
  · replace h := it hs_13 h
    obtain ⟨r_12, hq, h⟩ := b1_e h
    cases h
    exact F
  replace h := ie hs_13 h
  by_cases hs_15 : p1 = (6 : Int32)
  · replace h := it hs_15 h
    obtain ⟨r_14, hq, h⟩ := b1_e h
    cases h
    exact F
  replace h := ie hs_15 h
  by_cases hs_17 : p1 = (7 : Int32)
  · replace h := it hs_17 h
    obtain ⟨r_16, hq, h⟩ := b1_e h
    cases h
    exact F
  replace h := ie hs_17 h
  by_cases hs_18 : p1 = (8 : Int32)
  · replace h := it hs_18 h
    cases h
    exact F
  replace h := ie hs_18 h
  by_cases hs_19 : p1 = (9 : Int32)
  · replace h := it hs_19 h
    cases h
    exact F
  replace h := ie hs_19 h
  by_cases hs_21 : p1 = (10 : Int32)
  · replace h := it hs_21 h
    obtain ⟨r_20, hq, h⟩ := b1_e h
    cases h
    exact F
  replace h := ie hs_21 h
  by_cases hs_23 : p1 = (11 : Int32)
  · replace h := it hs_23 h
    obtain ⟨r_22, hq, h⟩ := b1_e h
    cases h
    exact F
  replace h := ie hs_23 h
  cases h
  exact F
theorem frX10_miles {p1 : Int32} {σ : Sg} {rr : (Int32 × Sg)} (h : XX10_miles p1 σ = some rr) : fr [(64, some 0)] σ rr.2 := by
  have C := trivial
  have R := trivial
  have F : fr [(64, some 0)] σ σ := fr.rf
  rw [XX10_miles] at h
  obtain ⟨σ_1, f1, h⟩ := lt_upf h
  replace F := F.tr (f1.mono (by simp))
  obtain ⟨r_2, hq, h⟩ := b1_e h
  obtain ⟨r_3, hq, h⟩ := b1_e h
  rcases it_or h with ⟨hc, h⟩ | ⟨hc, h⟩
  · skip
    cases h
    exact F
  · skip
    obtain ⟨r_4, hq, h⟩ := b1_e h
    cases h
    exact F
theorem frX10_together {p1 : Int32} {p2 : Int32} {σ : Sg} {rr : (Int32 × Sg)} (h : XX10_together p1 p2 σ = some rr) : fr [(64, some 0)] σ rr.2 := by
  have C := trivial
  have R := trivial
  have F : fr [(64, some 0)] σ σ := fr.rf
  rw [XX10_together] at h
  obtain ⟨σ_1, f1, h⟩ := lt_upf h
  replace F := F.tr (f1.mono (by simp))
  obtain ⟨r_2, hq, h⟩ := b1_e h
  rcases it_or h with ⟨hc, h⟩ | ⟨hc, h⟩
  · skip
    cases h
    exact F
  · skip
    obtain ⟨r_3, hq, h⟩ := b1_e h
    rcases it_or h with ⟨hc, h⟩ | ⟨hc, h⟩
    · skip
      cases h
      exact F
    · skip
      rcases ie_or h with ⟨hc, h⟩ | ⟨hc, h⟩
      · skip
        obtain ⟨r_4, hq, h⟩ := b1_e h
        obtain ⟨r_5, hq, h⟩ := b1_e h
        obtain ⟨r_6, hq, h⟩ := b1_e h
        cases h
        exact F
      · skip
        cases h
        exact F
theorem flX10_layAsked_12 {rr : Sg} {p1 : Int32} {x2_1 : Int32} {k48_5 : Sg → Option Sg}  (C : True) (R : True) (hk48_5 : ∀ (σ_4 : Sg), k48_5 σ_4 = some rr → fr [(79, none)] σ_4 rr) : ∀ (n : Nat) (x3_7 : Int32) (σ_8 : Sg), LX10_layAsked_12 p1 x2_1 k48_5 n x3_7 σ_8 = some rr → fr [(79, none)] σ_8 rr := by
  intro n
  induction n with
  | zero =>
    intro x3_7 σ_8 h
    rw [LX10_layAsked_12] at h
    cases h
  | succ n ih =>
    intro x3_7 σ_8 h
    rw [LX10_layAsked_12] at h
    have F : fr [(79, none)] σ_8 σ_8 := fr.rf
    obtain ⟨r_9, hq, h⟩ := b1_e h
    rcases it_or h with ⟨hc, h⟩ | ⟨hc, h⟩
    · skip
      exact F.tr (hk48_5 _ h)
    · skip
      obtain ⟨r_10, hq, h⟩ := b1_e h
      obtain ⟨hb_12, h⟩ := gd h
      obtain ⟨σ_11, f1, h⟩ := lt_up h
      replace F := F.tr (f1.mono (by simp))
      obtain ⟨x3_13, h⟩ := lt_ex h
      exact F.tr (ih _ _ h)
theorem flX10_layAsked_2 {rr : Sg} {p1 : Int32}  (C : True) (R : True)  : ∀ (n : Nat) (x2_1 : Int32) (σ_2 : Sg), LX10_layAsked_2 p1 n x2_1 σ_2 = some rr → fr [(79, none)] σ_2 rr := by
  intro n
  induction n with
  | zero =>
    intro x2_1 σ_2 h
    rw [LX10_layAsked_2] at h
    cases h
  | succ n ih =>
    intro x2_1 σ_2 h
    rw [LX10_layAsked_2] at h
    have F : fr [(79, none)] σ_2 σ_2 := fr.rf
    obtain ⟨r_3, hq, h⟩ := b1_e h
    rcases it_or h with ⟨hc, h⟩ | ⟨hc, h⟩
    · skip
      cases h
      exact F
    · skip
      refine jn (fun (kk : Sg → Option Sg) => ∀ (σ_4 : Sg), kk σ_4 = some rr → fr [(79, none)] σ_4 rr) h ?_ (fun k48_5 hk48_5 h => ?_)
      · intro σ_4 h
        have F : fr [(79, none)] σ_4 σ_4 := fr.rf
        obtain ⟨x2_6, h⟩ := lt_ex h
        exact F.tr (ih _ _ h)
      exact F.tr (flX10_layAsked_12  C R hk48_5 _ _ _ h)
theorem frX10_layAsked {p1 : Int32} {σ : Sg} {rr : Sg} (h : XX10_layAsked p1 σ = some rr) : fr [(79, none)] σ rr := by
  have C := trivial
  have R := trivial
  have F : fr [(79, none)] σ σ := fr.rf
  rw [XX10_layAsked] at h
  exact F.tr (flX10_layAsked_2  C R  _ _ _ h)
theorem flX10_runShop_10 {rr : Sg} {p1 : Int32} {p2 : Int32}  (C : True) (R : True)  : ∀ (n : Nat) (x3_3 : Int32) (x4_4 : Int32) (σ_5 : Sg), LX10_runShop_10 p1 p2 n x3_3 x4_4 σ_5 = some rr → fr [(80, none), (81, none), (82, none)] σ_5 rr := by
  intro n
  induction n with
  | zero =>
    intro x3_3 x4_4 σ_5 h
    rw [LX10_runShop_10] at h
    cases h
  | succ n ih =>
    intro x3_3 x4_4 σ_5 h
    rw [LX10_runShop_10] at h
    have F : fr [(80, none), (81, none), (82, none)] σ_5 σ_5 := fr.rf
    obtain ⟨r_6, hq, h⟩ := b1_e h
    rcases it_or h with ⟨hc, h⟩ | ⟨hc, h⟩
    · skip
      cases h
      exact F
    · skip
      obtain ⟨x5_7, h⟩ := lt_ex h
      obtain ⟨r_8, hq, h⟩ := b1_e h
      refine jn (fun (kk : Int32 → Option Sg) => ∀ (s_9 : Int32), kk s_9 = some rr → fr [(80, none), (81, none), (82, none)] σ_5 rr) h ?_ (fun k55_10 hk55_10 h => ?_)
      · intro s_9 h
        have F : fr [(80, none), (81, none), (82, none)] σ_5 σ_5 := fr.rf
        obtain ⟨hb_12, h⟩ := gd h
        obtain ⟨σ_11, f1, h⟩ := lt_up h
        replace F := F.tr (f1.mono (by simp))
        obtain ⟨x3_13, h⟩ := lt_ex h
        obtain ⟨r_14, hq, h⟩ := b1_e h
        obtain ⟨σ_15, f1, h⟩ := lt_up h
        replace F := F.tr (f1.mono (by simp))
        obtain ⟨x3_16, h⟩ := lt_ex h
        obtain ⟨σ_17, f1, h⟩ := lt_up h
        replace F := F.tr (f1.mono (by simp))
        obtain ⟨x4_18, h⟩ := lt_ex h
        exact F.tr (ih _ _ _ h)
      rcases it_or h with ⟨hc, h⟩ | ⟨hc, h⟩
      · skip
        exact F.tr (hk55_10 _ h)
      · skip
        obtain ⟨hb_19, h⟩ := gd h
        exact F.tr (hk55_10 _ h)
theorem frX10_runShop {p1 : Int32} {p2 : Int32} {σ : Sg} {rr : Sg} (h : XX10_runShop p1 p2 σ = some rr) : fr [(80, none), (81, none), (82, none)] σ rr := by
  have C := trivial
  have R := trivial
  have F : fr [(80, none), (81, none), (82, none)] σ σ := fr.rf
  rw [XX10_runShop] at h
  obtain ⟨hb_1, h⟩ := gd h
  obtain ⟨x3_2, h⟩ := lt_ex h
  exact F.tr (flX10_runShop_10  C R  _ _ _ _ h)
theorem flX10_runAll_2 {rr : Sg}   (C : True) (R : True)  : ∀ (n : Nat) (x1_1 : Int32) (σ_2 : Sg), LX10_runAll_2 n x1_1 σ_2 = some rr → fr [(80, none), (81, none), (82, none)] σ_2 rr := by
  intro n
  induction n with
  | zero =>
    intro x1_1 σ_2 h
    rw [LX10_runAll_2] at h
    cases h
  | succ n ih =>
    intro x1_1 σ_2 h
    rw [LX10_runAll_2] at h
    have F : fr [(80, none), (81, none), (82, none)] σ_2 σ_2 := fr.rf
    obtain ⟨r_3, hq, h⟩ := b1_e h
    rcases it_or h with ⟨hc, h⟩ | ⟨hc, h⟩
    · skip
      cases h
      exact F
    · skip
      obtain ⟨hb_4, h⟩ := gd h
      obtain ⟨σ_5, hq, h⟩ := b1_e h
      replace F := F.tr ((frX10_runShop hq).mono (by simp))
      obtain ⟨x1_6, h⟩ := lt_ex h
      exact F.tr (ih _ _ h)
theorem frX10_runAll {σ : Sg} {rr : Sg} (h : XX10_runAll σ = some rr) : fr [(80, none), (81, none), (82, none)] σ rr := by
  have C := trivial
  have R := trivial
  have F : fr [(80, none), (81, none), (82, none)] σ σ := fr.rf
  rw [XX10_runAll] at h
  exact F.tr (flX10_runAll_2  C R  _ _ _ h)
theorem frX10_layRun {σ : Sg} {rr : Sg} (h : XX10_layRun σ = some rr) : fr [(79, none), (80, none), (81, none), (82, none)] σ rr := by
  have C := trivial
  have R := trivial
  have F : fr [(79, none), (80, none), (81, none), (82, none)] σ σ := fr.rf
  rw [XX10_layRun] at h
  obtain ⟨σ_1, hq, h⟩ := b1_e h
  replace F := F.tr ((frX10_layAsked hq).mono (by simp))
  obtain ⟨σ_2, hq, h⟩ := b1_e h
  replace F := F.tr ((frX10_runAll hq).mono (by simp))
  cases h
  exact F
theorem frX10_shop {p1 : Int32} {p2 : Int32} {σ : Sg} {rr : (Int32 × Sg)} (h : XX10_shop p1 p2 σ = some rr) : fr [(64, some 0)] σ rr.2 := by
  have C := trivial
  have R := trivial
  have F : fr [(64, some 0)] σ σ := fr.rf
  rw [XX10_shop] at h
  obtain ⟨σ_1, f1, h⟩ := lt_upf h
  replace F := F.tr (f1.mono (by simp))
  obtain ⟨r_2, hq, h⟩ := b1_e h
  rcases ie_or h with ⟨hc, h⟩ | ⟨hc, h⟩
  · skip
    obtain ⟨r_3, hq, h⟩ := b1_e h
    obtain ⟨r_4, hq, h⟩ := b1_e h
    rcases it_or h with ⟨hc, h⟩ | ⟨hc, h⟩
    · skip
      by_cases hs_6 : p2 = (0 : Int32)
      · replace h := it hs_6 h
        obtain ⟨hb_5, h⟩ := gd h
        cases h
        exact F
      replace h := ie hs_6 h
      by_cases hs_8 : p2 = (1 : Int32)
      · replace h := it hs_8 h
        obtain ⟨hb_7, h⟩ := gd h
        cases h
        exact F
      replace h := ie hs_8 h
      by_cases hs_10 : p2 = (2 : Int32)
      · replace h := it hs_10 h
        obtain ⟨hb_9, h⟩ := gd h
        cases h
        exact F
      replace h := ie hs_10 h
      by_cases hs_12 : p2 = (3 : Int32)
      · replace h := it hs_12 h
        obtain ⟨hb_11, h⟩ := gd h
        cases h
        exact F
      replace h := ie hs_12 h
      by_cases hs_14 : p2 = (4 : Int32)
      · replace h := it hs_14 h
        obtain ⟨hb_13, h⟩ := gd h
        cases h
        exact F
      replace h := ie hs_14 h
      by_cases hs_16 : p2 = (5 : Int32)
      · replace h := it hs_16 h
        obtain ⟨r_15, hq, h⟩ := b1_e h
        cases h
        exact F
      replace h := ie hs_16 h
      cases h
      exact F
    · skip
      obtain ⟨r_17, hq, h⟩ := b1_e h
      cases h
      exact F
  · skip
    cases h
    exact F
theorem frX10_load {p1 : Int32} {p2 : Int32} {σ : Sg} {rr : (Int32 × Sg)} (h : XX10_load p1 p2 σ = some rr) : fr [(64, some 0), (79, none), (80, none), (81, none), (82, none)] σ rr.2 := by
  have C := trivial
  have R := trivial
  have F : fr [(64, some 0), (79, none), (80, none), (81, none), (82, none)] σ σ := fr.rf
  rw [XX10_load] at h
  obtain ⟨σ_1, f1, h⟩ := lt_upf h
  replace F := F.tr (f1.mono (by simp))
  obtain ⟨r_2, hq, h⟩ := b1_e h
  rcases ie_or h with ⟨hc, h⟩ | ⟨hc, h⟩
  · skip
    obtain ⟨σ_3, hq, h⟩ := b1_e h
    replace F := F.tr ((frX10_layRun hq).mono (by simp))
    obtain ⟨hb_4, h⟩ := gd h
    cases h
    exact F
  · skip
    cases h
    exact F
theorem frX10_stock {p1 : Int32} {p2 : Int32} {σ : Sg} {rr : (Int32 × Sg)} (h : XX10_stock p1 p2 σ = some rr) : fr [(64, some 0), (79, none), (80, none), (81, none), (82, none)] σ rr.2 := by
  have C := trivial
  have R := trivial
  have F : fr [(64, some 0), (79, none), (80, none), (81, none), (82, none)] σ σ := fr.rf
  rw [XX10_stock] at h
  obtain ⟨σ_1, f1, h⟩ := lt_upf h
  replace F := F.tr (f1.mono (by simp))
  obtain ⟨r_2, hq, h⟩ := b1_e h
  rcases ie_or h with ⟨hc, h⟩ | ⟨hc, h⟩
  · skip
    obtain ⟨σ_3, hq, h⟩ := b1_e h
    replace F := F.tr ((frX10_layRun hq).mono (by simp))
    obtain ⟨hb_4, h⟩ := gd h
    cases h
    exact F
  · skip
    cases h
    exact F
theorem frX10_lost {p1 : Int32} {p2 : Int32} {σ : Sg} {rr : (Int32 × Sg)} (h : XX10_lost p1 p2 σ = some rr) : fr [(64, some 0), (79, none), (80, none), (81, none), (82, none)] σ rr.2 := by
  have C := trivial
  have R := trivial
  have F : fr [(64, some 0), (79, none), (80, none), (81, none), (82, none)] σ σ := fr.rf
  rw [XX10_lost] at h
  obtain ⟨σ_1, f1, h⟩ := lt_upf h
  replace F := F.tr (f1.mono (by simp))
  obtain ⟨r_2, hq, h⟩ := b1_e h
  rcases ie_or h with ⟨hc, h⟩ | ⟨hc, h⟩
  · skip
    obtain ⟨σ_3, hq, h⟩ := b1_e h
    replace F := F.tr ((frX10_layRun hq).mono (by simp))
    obtain ⟨hb_4, h⟩ := gd h
    cases h
    exact F
  · skip
    cases h
    exact F
theorem flX10_of_33 {rr : (Int32 × Sg)} {p1 : Int32} {p2 : Int32} {σ_4 : Sg}  (C : True) (R : True)  : ∀ (n : Nat) (x3_5 : Int32) (x4_6 : Int32), LX10_of_33 p1 p2 σ_4 n x3_5 x4_6 = some rr → fr [(64, some 0), (79, none), (80, none), (81, none), (82, none)] σ_4 rr.2 := by
  intro n
  induction n with
  | zero =>
    intro x3_5 x4_6 h
    rw [LX10_of_33] at h
    cases h
  | succ n ih =>
    intro x3_5 x4_6 h
    rw [LX10_of_33] at h
    have F : fr [(64, some 0), (79, none), (80, none), (81, none), (82, none)] σ_4 σ_4 := fr.rf
    obtain ⟨r_7, hq, h⟩ := b1_e h
    rcases it_or h with ⟨hc, h⟩ | ⟨hc, h⟩
    · skip
      cases h
      exact F
    · skip
      obtain ⟨x5_8, h⟩ := lt_ex h
      obtain ⟨hb_9, h⟩ := gd h
      obtain ⟨r_10, hq, h⟩ := b1_e h
      refine jn (fun (kk : Int32 → Option (Int32 × Sg)) => ∀ (s_11 : Int32), kk s_11 = some rr → fr [(64, some 0), (79, none), (80, none), (81, none), (82, none)] σ_4 rr.2) h ?_ (fun k80_12 hk80_12 h => ?_)
      · intro s_11 h
        have F : fr [(64, some 0), (79, none), (80, none), (81, none), (82, none)] σ_4 σ_4 := fr.rf
        refine jn (fun (kk : Int32 → Option (Int32 × Sg)) => ∀ (s_13 : Int32), kk s_13 = some rr → fr [(64, some 0), (79, none), (80, none), (81, none), (82, none)] σ_4 rr.2) h ?_ (fun k137_14 hk137_14 h => ?_)
        · intro s_13 h
          have F : fr [(64, some 0), (79, none), (80, none), (81, none), (82, none)] σ_4 σ_4 := fr.rf
          obtain ⟨x3_15, h⟩ := lt_ex h
          obtain ⟨x4_16, h⟩ := lt_ex h
          exact F.tr (ih _ _ h)
        rcases ie_or h with ⟨hc, h⟩ | ⟨hc, h⟩
        · skip
          rcases ie_or h with ⟨hc, h⟩ | ⟨hc, h⟩
          · skip
            rcases ie_or h with ⟨hc, h⟩ | ⟨hc, h⟩
            · skip
              exact F.tr (hk137_14 _ h)
            · skip
              obtain ⟨hb_17, h⟩ := gd h
              exact F.tr (hk137_14 _ h)
          · skip
            obtain ⟨hb_18, h⟩ := gd h
            exact F.tr (hk137_14 _ h)
        · skip
          obtain ⟨hb_19, h⟩ := gd h
          exact F.tr (hk137_14 _ h)
      refine jn (fun (kk : Option (Int32 × Sg)) => kk = some rr → fr [(64, some 0), (79, none), (80, none), (81, none), (82, none)] σ_4 rr.2) h ?_ (fun k79_20 hk79_20 h => ?_)
      · intro h
        have F : fr [(64, some 0), (79, none), (80, none), (81, none), (82, none)] σ_4 σ_4 := fr.rf
        exact F.tr (hk80_12 _ h)
      rcases it_or h with ⟨hc, h⟩ | ⟨hc, h⟩
      · skip
        exact F.tr (hk79_20 h)
      · skip
        obtain ⟨hb_21, h⟩ := gd h
        rcases ie_or h with ⟨hc, h⟩ | ⟨hc, h⟩
        · skip
          exact F.tr (hk79_20 h)
        · skip
          exact F.tr (hk80_12 _ h)
theorem frX10_of {p1 : Int32} {p2 : Int32} {σ : Sg} {rr : (Int32 × Sg)} (h : XX10_of p1 p2 σ = some rr) : fr [(64, some 0), (79, none), (80, none), (81, none), (82, none)] σ rr.2 := by
  have C := trivial
  have R := trivial
  have F : fr [(64, some 0), (79, none), (80, none), (81, none), (82, none)] σ σ := fr.rf
  rw [XX10_of] at h
  obtain ⟨σ_1, f1, h⟩ := lt_upf h
  replace F := F.tr (f1.mono (by simp))
  obtain ⟨r_2, hq, h⟩ := b1_e h
  rcases it_or h with ⟨hc, h⟩ | ⟨hc, h⟩
  · skip
    cases h
    exact F
  · skip
    obtain ⟨r_3, hq, h⟩ := b1_e h
    rcases ie_or h with ⟨hc, h⟩ | ⟨hc, h⟩
    · skip
      obtain ⟨σ_4, hq, h⟩ := b1_e h
      replace F := F.tr ((frX10_layRun hq).mono (by simp))
      exact F.tr (flX10_of_33  C R  _ _ _ h)
    · skip
      cases h
      exact F
theorem frX10_empty {p1 : Int32} {σ : Sg} {rr : (Int32 × Sg)} (h : XX10_empty p1 σ = some rr) : fr [(64, some 0), (79, none), (80, none), (81, none), (82, none)] σ rr.2 := by
  have C := trivial
  have R := trivial
  have F : fr [(64, some 0), (79, none), (80, none), (81, none), (82, none)] σ σ := fr.rf
  rw [XX10_empty] at h
  obtain ⟨σ_1, f1, h⟩ := lt_upf h
  replace F := F.tr (f1.mono (by simp))
  obtain ⟨r_2, hq, h⟩ := b1_e h
  rcases ie_or h with ⟨hc, h⟩ | ⟨hc, h⟩
  · skip
    obtain ⟨σ_3, hq, h⟩ := b1_e h
    replace F := F.tr ((frX10_layRun hq).mono (by simp))
    obtain ⟨r_4, hq, h⟩ := b1_e h
    cases h
    exact F
  · skip
    cases h
    exact F
theorem flX10_bears_22 {rr : (Int32 × Sg)} {p1 : Int32} {p2 : Int32}  (C : True) (R : True)  : ∀ (n : Nat) (x3_4 : Int32) (σ_5 : Sg), LX10_bears_22 p1 p2 n x3_4 σ_5 = some rr → fr [(64, some 0), (79, none), (80, none), (81, none), (82, none)] σ_5 rr.2 := by
  intro n
  induction n with
  | zero =>
    intro x3_4 σ_5 h
    rw [LX10_bears_22] at h
    cases h
  | succ n ih =>
    intro x3_4 σ_5 h
    rw [LX10_bears_22] at h
    have F : fr [(64, some 0), (79, none), (80, none), (81, none), (82, none)] σ_5 σ_5 := fr.rf
    rcases it_or h with ⟨hc, h⟩ | ⟨hc, h⟩
    · skip
      cases h
      exact F
    · skip
      obtain ⟨r_6, hq, h⟩ := b1_e h
      rcases ie_or h with ⟨hc, h⟩ | ⟨hc, h⟩
      · skip
        cases h
        exact F
      · skip
        obtain ⟨x3_7, h⟩ := lt_ex h
        obtain ⟨d_8, h⟩ := lt_ex h
        obtain ⟨hb_9, h⟩ := gd h
        obtain ⟨σ_10, f1, h⟩ := lt_up h
        replace F := F.tr (f1.mono (by simp))
        obtain ⟨hb_11, h⟩ := gd h
        obtain ⟨σ_12, hq, h⟩ := b1_e h
        replace F := F.tr ((frX10_runShop hq).mono (by simp))
        exact F.tr (ih _ _ h)
theorem frX10_bears {p1 : Int32} {p2 : Int32} {σ : Sg} {rr : (Int32 × Sg)} (h : XX10_bears p1 p2 σ = some rr) : fr [(64, some 0), (79, none), (80, none), (81, none), (82, none)] σ rr.2 := by
  have C := trivial
  have R := trivial
  have F : fr [(64, some 0), (79, none), (80, none), (81, none), (82, none)] σ σ := fr.rf
  rw [XX10_bears] at h
  obtain ⟨σ_1, f1, h⟩ := lt_upf h
  replace F := F.tr (f1.mono (by simp))
  obtain ⟨r_2, hq, h⟩ := b1_e h
  rcases ie_or h with ⟨hc, h⟩ | ⟨hc, h⟩
  · skip
    obtain ⟨σ_3, hq, h⟩ := b1_e h
    replace F := F.tr ((frX10_layRun hq).mono (by simp))
    exact F.tr (flX10_bears_22  C R  _ _ _ h)
  · skip
    cases h
    exact F
theorem frX10_waits {p1 : Int32} {p2 : Int32} {σ : Sg} {rr : (Int32 × Sg)} (h : XX10_waits p1 p2 σ = some rr) : fr [(64, some 0), (79, none), (80, none), (81, none), (82, none)] σ rr.2 := by
  have C := trivial
  have R := trivial
  have F : fr [(64, some 0), (79, none), (80, none), (81, none), (82, none)] σ σ := fr.rf
  rw [XX10_waits] at h
  obtain ⟨σ_1, f1, h⟩ := lt_upf h
  replace F := F.tr (f1.mono (by simp))
  obtain ⟨r_2, hq, h⟩ := b1_e h
  rcases ie_or h with ⟨hc, h⟩ | ⟨hc, h⟩
  · skip
    obtain ⟨σ_3, hq, h⟩ := b1_e h
    replace F := F.tr ((frX10_layAsked hq).mono (by simp))
    obtain ⟨hb_4, h⟩ := gd h
    obtain ⟨σ_5, hq, h⟩ := b1_e h
    replace F := F.tr ((frX10_runShop hq).mono (by simp))
    obtain ⟨r_6, hq, h⟩ := b1_e h
    cases h
    exact F
  · skip
    cases h
    exact F
theorem flX10_lostByDraws_26 {rr : (Int32 × Sg)} {p2 : Int32} {x5_4 : Int32} {k103_9 : Int32 → Sg → Option (Int32 × Sg)}  (C : True) (R : True) (hk103_9 : ∀ (x3_7 : Int32) (σ_8 : Sg), k103_9 x3_7 σ_8 = some rr → fr [(79, none), (80, none), (81, none), (82, none)] σ_8 rr.2) : ∀ (n : Nat) (x3_15 : Int32) (x6_16 : Int32) (σ_17 : Sg), LX10_lostByDraws_26 p2 x5_4 k103_9 n x3_15 x6_16 σ_17 = some rr → fr [(79, none), (80, none), (81, none), (82, none)] σ_17 rr.2 := by
  intro n
  induction n with
  | zero =>
    intro x3_15 x6_16 σ_17 h
    rw [LX10_lostByDraws_26] at h
    cases h
  | succ n ih =>
    intro x3_15 x6_16 σ_17 h
    rw [LX10_lostByDraws_26] at h
    have F : fr [(79, none), (80, none), (81, none), (82, none)] σ_17 σ_17 := fr.rf
    obtain ⟨r_18, hq, h⟩ := b1_e h
    rcases it_or h with ⟨hc, h⟩ | ⟨hc, h⟩
    · skip
      exact F.tr (hk103_9 _ _ h)
    · skip
      obtain ⟨x3_19, h⟩ := lt_ex h
      obtain ⟨hb_20, h⟩ := gd h
      obtain ⟨hz_21, h⟩ := gd h
      obtain ⟨x7_22, h⟩ := lt_ex h
      refine jn (fun (kk : Int32 → Option (Int32 × Sg)) => ∀ (s_23 : Int32), kk s_23 = some rr → fr [(79, none), (80, none), (81, none), (82, none)] σ_17 rr.2) h ?_ (fun k96_24 hk96_24 h => ?_)
      · intro s_23 h
        have F : fr [(79, none), (80, none), (81, none), (82, none)] σ_17 σ_17 := fr.rf
        obtain ⟨σ_25, f1, h⟩ := lt_up h
        replace F := F.tr (f1.mono (by simp))
        obtain ⟨x6_26, h⟩ := lt_ex h
        exact F.tr (ih _ _ _ h)
      rcases it_or h with ⟨hc, h⟩ | ⟨hc, h⟩
      · skip
        exact F.tr (hk96_24 _ h)
      · skip
        exact F.tr (hk96_24 _ h)
theorem flX10_lostByDraws_14 {rr : (Int32 × Sg)} {p2 : Int32}  (C : True) (R : True)  : ∀ (n : Nat) (x3_2 : Int32) (x4_3 : Int32) (x5_4 : Int32) (σ_5 : Sg), LX10_lostByDraws_14 p2 n x3_2 x4_3 x5_4 σ_5 = some rr → fr [(79, none), (80, none), (81, none), (82, none)] σ_5 rr.2 := by
  intro n
  induction n with
  | zero =>
    intro x3_2 x4_3 x5_4 σ_5 h
    rw [LX10_lostByDraws_14] at h
    cases h
  | succ n ih =>
    intro x3_2 x4_3 x5_4 σ_5 h
    rw [LX10_lostByDraws_14] at h
    have F : fr [(79, none), (80, none), (81, none), (82, none)] σ_5 σ_5 := fr.rf
    obtain ⟨r_6, hq, h⟩ := b1_e h
    rcases it_or h with ⟨hc, h⟩ | ⟨hc, h⟩
    · skip
      cases h
      exact F
    · skip
      refine jn (fun (kk : Int32 → Sg → Option (Int32 × Sg)) => ∀ (x3_7 : Int32) (σ_8 : Sg), kk x3_7 σ_8 = some rr → fr [(79, none), (80, none), (81, none), (82, none)] σ_8 rr.2) h ?_ (fun k103_9 hk103_9 h => ?_)
      · intro x3_7 σ_8 h
        have F : fr [(79, none), (80, none), (81, none), (82, none)] σ_8 σ_8 := fr.rf
        obtain ⟨hb_10, h⟩ := gd h
        obtain ⟨σ_11, hq, h⟩ := b1_e h
        replace F := F.tr ((frX10_runShop hq).mono (by simp))
        obtain ⟨r_12, hq, h⟩ := b1_e h
        obtain ⟨x4_13, h⟩ := lt_ex h
        obtain ⟨x5_14, h⟩ := lt_ex h
        exact F.tr (ih _ _ _ _ h)
      exact F.tr (flX10_lostByDraws_26  C R hk103_9 _ _ _ _ h)
theorem frX10_lostByDraws {p1 : Int32} {p2 : Int32} {σ : Sg} {rr : (Int32 × Sg)} (h : XX10_lostByDraws p1 p2 σ = some rr) : fr [(79, none), (80, none), (81, none), (82, none)] σ rr.2 := by
  have C := trivial
  have R := trivial
  have F : fr [(79, none), (80, none), (81, none), (82, none)] σ σ := fr.rf
  rw [XX10_lostByDraws] at h
  obtain ⟨σ_1, hq, h⟩ := b1_e h
  replace F := F.tr ((frX10_layAsked hq).mono (by simp))
  exact F.tr (flX10_lostByDraws_14  C R  _ _ _ _ _ h)
theorem flX10_chance_46 {rr : (Int32 × Sg)} {p1 : Int32} {p2 : Int32} {p3 : Int32} {k91_8 : Int32 → Int32 → Sg → Option (Int32 × Sg)}  (C : True) (R : True) (hk91_8 : ∀ (x5_5 : Int32) (x6_6 : Int32) (σ_7 : Sg), k91_8 x5_5 x6_6 σ_7 = some rr → fr [(64, some 0), (79, none), (80, none), (81, none), (82, none)] σ_7 rr.2) : ∀ (n : Nat) (x5_9 : Int32) (x6_10 : Int32) (x7_11 : Int32) (σ_12 : Sg), LX10_chance_46 p1 p2 p3 k91_8 n x5_9 x6_10 x7_11 σ_12 = some rr → fr [(64, some 0), (79, none), (80, none), (81, none), (82, none)] σ_12 rr.2 := by
  intro n
  induction n with
  | zero =>
    intro x5_9 x6_10 x7_11 σ_12 h
    rw [LX10_chance_46] at h
    cases h
  | succ n ih =>
    intro x5_9 x6_10 x7_11 σ_12 h
    rw [LX10_chance_46] at h
    have F : fr [(64, some 0), (79, none), (80, none), (81, none), (82, none)] σ_12 σ_12 := fr.rf
    rcases it_or h with ⟨hc, h⟩ | ⟨hc, h⟩
    · skip
      exact F.tr (hk91_8 _ _ _ h)
    · skip
      obtain ⟨r_13, σ_14, hq, h⟩ := b2_e h
      replace F := F.tr ((frX10_lostByDraws hq).mono (by simp))
      refine jn (fun (kk : Int32 → Option (Int32 × Sg)) => ∀ (s_15 : Int32), kk s_15 = some rr → fr [(64, some 0), (79, none), (80, none), (81, none), (82, none)] σ_14 rr.2) h ?_ (fun k75_16 hk75_16 h => ?_)
      · intro s_15 h
        have F : fr [(64, some 0), (79, none), (80, none), (81, none), (82, none)] σ_14 σ_14 := fr.rf
        obtain ⟨x5_17, h⟩ := lt_ex h
        obtain ⟨x6_18, h⟩ := lt_ex h
        obtain ⟨x7_19, h⟩ := lt_ex h
        exact F.tr (ih _ _ _ _ h)
      rcases it_or h with ⟨hc, h⟩ | ⟨hc, h⟩
      · skip
        exact F.tr (hk75_16 _ h)
      · skip
        exact F.tr (hk75_16 _ h)
theorem frX10_chance {p1 : Int32} {p2 : Int32} {p3 : Int32} {p4 : Int32} {σ : Sg} {rr : (Int32 × Sg)} (h : XX10_chance p1 p2 p3 p4 σ = some rr) : fr [(64, some 0), (79, none), (80, none), (81, none), (82, none)] σ rr.2 := by
  have C := trivial
  have R := trivial
  have F : fr [(64, some 0), (79, none), (80, none), (81, none), (82, none)] σ σ := fr.rf
  rw [XX10_chance] at h
  obtain ⟨σ_1, f1, h⟩ := lt_upf h
  replace F := F.tr (f1.mono (by simp))
  obtain ⟨r_2, hq, h⟩ := b1_e h
  rcases it_or h with ⟨hc, h⟩ | ⟨hc, h⟩
  · skip
    cases h
    exact F
  · skip
    obtain ⟨r_3, hq, h⟩ := b1_e h
    rcases it_or h with ⟨hc, h⟩ | ⟨hc, h⟩
    · skip
      cases h
      exact F
    · skip
      obtain ⟨r_4, hq, h⟩ := b1_e h
      rcases ie_or h with ⟨hc, h⟩ | ⟨hc, h⟩
      · skip
        refine jn (fun (kk : Int32 → Int32 → Sg → Option (Int32 × Sg)) => ∀ (x5_5 : Int32) (x6_6 : Int32) (σ_7 : Sg), kk x5_5 x6_6 σ_7 = some rr → fr [(64, some 0), (79, none), (80, none), (81, none), (82, none)] σ_7 rr.2) h ?_ (fun k91_8 hk91_8 h => ?_)
        · intro x5_5 x6_6 σ_7 h
          have F : fr [(64, some 0), (79, none), (80, none), (81, none), (82, none)] σ_7 σ_7 := fr.rf
          rcases ie_or h with ⟨hc, h⟩ | ⟨hc, h⟩
          · skip
            cases h
            exact F
          · skip
            cases h
            exact F
        exact F.tr (flX10_chance_46  C R hk91_8 _ _ _ _ _ h)
      · skip
        cases h
        exact F
theorem flX10_layLoads_4 {rr : (Int32 × Sg)} {p1 : Int32}  (C : True) (R : True)  : ∀ (n : Nat) (x2_1 : Int32) (x3_2 : Int32) (σ_3 : Sg), LX10_layLoads_4 p1 n x2_1 x3_2 σ_3 = some rr → fr [(86, none)] σ_3 rr.2 := by
  intro n
  induction n with
  | zero =>
    intro x2_1 x3_2 σ_3 h
    rw [LX10_layLoads_4] at h
    cases h
  | succ n ih =>
    intro x2_1 x3_2 σ_3 h
    rw [LX10_layLoads_4] at h
    have F : fr [(86, none)] σ_3 σ_3 := fr.rf
    obtain ⟨r_4, hq, h⟩ := b1_e h
    rcases it_or h with ⟨hc, h⟩ | ⟨hc, h⟩
    · skip
      cases h
      exact F
    · skip
      obtain ⟨hb_5, h⟩ := gd h
      obtain ⟨hb_7, h⟩ := gd h
      obtain ⟨σ_6, f1, h⟩ := lt_up h
      replace F := F.tr (f1.mono (by simp))
      refine jn (fun (kk : Int32 → Option (Int32 × Sg)) => ∀ (s_8 : Int32), kk s_8 = some rr → fr [(86, none)] σ_6 rr.2) h ?_ (fun k46_9 hk46_9 h => ?_)
      · intro s_8 h
        have F : fr [(86, none)] σ_6 σ_6 := fr.rf
        obtain ⟨x2_10, h⟩ := lt_ex h
        obtain ⟨x3_11, h⟩ := lt_ex h
        exact F.tr (ih _ _ _ h)
      rcases it_or h with ⟨hc, h⟩ | ⟨hc, h⟩
      · skip
        exact F.tr (hk46_9 _ h)
      · skip
        exact F.tr (hk46_9 _ h)
theorem frX10_layLoads {p1 : Int32} {σ : Sg} {rr : (Int32 × Sg)} (h : XX10_layLoads p1 σ = some rr) : fr [(86, none)] σ rr.2 := by
  have C := trivial
  have R := trivial
  have F : fr [(86, none)] σ σ := fr.rf
  rw [XX10_layLoads] at h
  exact F.tr (flX10_layLoads_4  C R  _ _ _ _ h)
theorem flX10_layPart_30 {rr : Sg} {p1 : Int32} {p2 : Int32} {x3_6 : Int32}  (C : True) (R : True)  : ∀ (n : Nat) (x4_7 : Int32) (σ_8 : Sg), LX10_layPart_30 p1 p2 x3_6 n x4_7 σ_8 = some rr → fr [(83, none), (84, none), (85, none)] σ_8 rr := by
  intro n
  induction n with
  | zero =>
    intro x4_7 σ_8 h
    rw [LX10_layPart_30] at h
    cases h
  | succ n ih =>
    intro x4_7 σ_8 h
    rw [LX10_layPart_30] at h
    have F : fr [(83, none), (84, none), (85, none)] σ_8 σ_8 := fr.rf
    rcases it_or h with ⟨hc, h⟩ | ⟨hc, h⟩
    · skip
      cases h
      exact F
    · skip
      obtain ⟨x5_9, h⟩ := lt_ex h
      refine jn (fun (kk : Sg → Option Sg) => ∀ (σ_10 : Sg), kk σ_10 = some rr → fr [(83, none), (84, none), (85, none)] σ_10 rr) h ?_ (fun k191_11 hk191_11 h => ?_)
      · intro σ_10 h
        have F : fr [(83, none), (84, none), (85, none)] σ_10 σ_10 := fr.rf
        obtain ⟨x4_12, h⟩ := lt_ex h
        exact F.tr (ih _ _ h)
      rcases ie_or h with ⟨hc, h⟩ | ⟨hc, h⟩
      · skip
        exact F.tr (hk191_11 _ h)
      · skip
        rcases it_or h with ⟨hc, h⟩ | ⟨hc, h⟩
        · skip
          exact F.tr (hk191_11 _ h)
        · skip
          obtain ⟨r_13, hq, h⟩ := b1_e h
          rcases it_or h with ⟨hc, h⟩ | ⟨hc, h⟩
          · skip
            exact F.tr (hk191_11 _ h)
          · skip
            obtain ⟨hb_14, h⟩ := gd h
            rcases it_or h with ⟨hc, h⟩ | ⟨hc, h⟩
            · skip
              obtain ⟨r_15, hq, h⟩ := b1_e h
              obtain ⟨x6_16, h⟩ := lt_ex h
              obtain ⟨hb_17, h⟩ := gd h
              refine jn (fun (kk : Int32 → Option Sg) => ∀ (s_18 : Int32), kk s_18 = some rr → fr [(83, none), (84, none), (85, none)] σ_8 rr) h ?_ (fun k153_19 hk153_19 h => ?_)
              · intro s_18 h
                have F : fr [(83, none), (84, none), (85, none)] σ_8 σ_8 := fr.rf
                rcases it_or h with ⟨hc, h⟩ | ⟨hc, h⟩
                · skip
                  exact F.tr (hk191_11 _ h)
                · skip
                  obtain ⟨σ_20, f1, h⟩ := lt_up h
                  replace F := F.tr (f1.mono (by simp))
                  obtain ⟨σ_21, f1, h⟩ := lt_up h
                  replace F := F.tr (f1.mono (by simp))
                  obtain ⟨σ_22, f1, h⟩ := lt_up h
                  replace F := F.tr (f1.mono (by simp))
                  exact F.tr (hk191_11 _ h)
              refine jn (fun (kk : Option Sg) => kk = some rr → fr [(83, none), (84, none), (85, none)] σ_8 rr) h ?_ (fun k148_23 hk148_23 h => ?_)
              · intro h
                have F : fr [(83, none), (84, none), (85, none)] σ_8 σ_8 := fr.rf
                exact F.tr (hk153_19 _ h)
              rcases it_or h with ⟨hc, h⟩ | ⟨hc, h⟩
              · skip
                exact F.tr (hk148_23 h)
              · skip
                rcases it_or h with ⟨hc, h⟩ | ⟨hc, h⟩
                · skip
                  exact F.tr (hk148_23 h)
                · skip
                  refine jn (fun (kk : Option Sg) => kk = some rr → fr [(83, none), (84, none), (85, none)] σ_8 rr) h ?_ (fun k152_24 hk152_24 h => ?_)
                  · intro h
                    have F : fr [(83, none), (84, none), (85, none)] σ_8 σ_8 := fr.rf
                    exact F.tr (hk153_19 _ h)
                  rcases ie_or h with ⟨hc, h⟩ | ⟨hc, h⟩
                  · skip
                    exact F.tr (hk152_24 h)
                  · skip
                    rcases it_or h with ⟨hc, h⟩ | ⟨hc, h⟩
                    · skip
                      exact F.tr (hk152_24 h)
                    · skip
                      exact F.tr (hk148_23 h)
            · skip
              exact F.tr (hk191_11 _ h)
theorem frX10_layPart {p1 : Int32} {p2 : Int32} {σ : Sg} {rr : Sg} (h : XX10_layPart p1 p2 σ = some rr) : fr [(83, none), (84, none), (85, none)] σ rr := by
  have C := trivial
  have R := trivial
  have F : fr [(83, none), (84, none), (85, none)] σ σ := fr.rf
  rw [XX10_layPart] at h
  refine jn (fun (kk : Int32 → Option Sg) => ∀ (s_1 : Int32), kk s_1 = some rr → fr [(83, none), (84, none), (85, none)] σ rr) h ?_ (fun k14_2 hk14_2 h => ?_)
  · intro s_1 h
    have F : fr [(83, none), (84, none), (85, none)] σ σ := fr.rf
    obtain ⟨hb_4, h⟩ := gd h
    obtain ⟨σ_3, f1, h⟩ := lt_up h
    replace F := F.tr (f1.mono (by simp))
    obtain ⟨σ_5, f1, h⟩ := lt_up h
    replace F := F.tr (f1.mono (by simp))
    obtain ⟨x3_6, h⟩ := lt_ex h
    exact F.tr (flX10_layPart_30  C R  _ _ _ h)
  rcases ie_or h with ⟨hc, h⟩ | ⟨hc, h⟩
  · skip
    exact F.tr (hk14_2 _ h)
  · skip
    exact F.tr (hk14_2 _ h)
theorem flX10_layParts_2 {rr : (Int32 × Sg)} {p1 : Int32} {p2 : Int32} {k27_2 : Sg → Option (Int32 × Sg)}  (C : True) (R : True) (hk27_2 : ∀ (σ_1 : Sg), k27_2 σ_1 = some rr → fr [(83, none), (84, none), (85, none)] σ_1 rr.2) : ∀ (n : Nat) (x3_4 : Int32) (σ_5 : Sg), LX10_layParts_2 p1 p2 k27_2 n x3_4 σ_5 = some rr → fr [(83, none), (84, none), (85, none)] σ_5 rr.2 := by
  intro n
  induction n with
  | zero =>
    intro x3_4 σ_5 h
    rw [LX10_layParts_2] at h
    cases h
  | succ n ih =>
    intro x3_4 σ_5 h
    rw [LX10_layParts_2] at h
    have F : fr [(83, none), (84, none), (85, none)] σ_5 σ_5 := fr.rf
    rcases it_or h with ⟨hc, h⟩ | ⟨hc, h⟩
    · skip
      exact F.tr (hk27_2 _ h)
    · skip
      refine jn (fun (kk : Sg → Option (Int32 × Sg)) => ∀ (σ_6 : Sg), kk σ_6 = some rr → fr [(83, none), (84, none), (85, none)] σ_6 rr.2) h ?_ (fun k21_7 hk21_7 h => ?_)
      · intro σ_6 h
        have F : fr [(83, none), (84, none), (85, none)] σ_6 σ_6 := fr.rf
        obtain ⟨x3_8, h⟩ := lt_ex h
        exact F.tr (ih _ _ h)
      rcases ie_or h with ⟨hc, h⟩ | ⟨hc, h⟩
      · skip
        exact F.tr (hk21_7 _ h)
      · skip
        obtain ⟨σ_9, hq, h⟩ := b1_e h
        replace F := F.tr ((frX10_layPart hq).mono (by simp))
        exact F.tr (hk21_7 _ h)
theorem frX10_layParts {p1 : Int32} {p2 : Int32} {σ : Sg} {rr : (Int32 × Sg)} (h : XX10_layParts p1 p2 σ = some rr) : fr [(83, none), (84, none), (85, none)] σ rr.2 := by
  have C := trivial
  have R := trivial
  have F : fr [(83, none), (84, none), (85, none)] σ σ := fr.rf
  rw [XX10_layParts] at h
  refine jn (fun (kk : Sg → Option (Int32 × Sg)) => ∀ (σ_1 : Sg), kk σ_1 = some rr → fr [(83, none), (84, none), (85, none)] σ_1 rr.2) h ?_ (fun k27_2 hk27_2 h => ?_)
  · intro σ_1 h
    have F : fr [(83, none), (84, none), (85, none)] σ_1 σ_1 := fr.rf
    obtain ⟨hb_3, h⟩ := gd h
    cases h
    exact F
  exact F.tr (flX10_layParts_2  C R hk27_2 _ _ _ h)
theorem frX10_roundsCost {p1 : Int32} {p2 : Int32} {σ : Sg} {rr : (Int32 × Sg)} (h : XX10_roundsCost p1 p2 σ = some rr) : fr [(83, none), (84, none), (85, none), (86, none)] σ rr.2 := by
  have C := trivial
  have R := trivial
  have F : fr [(83, none), (84, none), (85, none), (86, none)] σ σ := fr.rf
  rw [XX10_roundsCost] at h
  obtain ⟨r_1, σ_2, hq, h⟩ := b2_e h
  replace F := F.tr ((frX10_layLoads hq).mono (by simp))
  obtain ⟨r_3, σ_4, hq, h⟩ := b2_e h
  replace F := F.tr ((frX10_layParts hq).mono (by simp))
  cases h
  exact F
theorem frX10_rounds {p1 : Int32} {σ : Sg} {rr : (Int32 × Sg)} (h : XX10_rounds p1 σ = some rr) : fr [(64, some 0), (79, none), (80, none), (81, none), (82, none), (83, none), (84, none), (85, none), (86, none)] σ rr.2 := by
  have C := trivial
  have R := trivial
  have F : fr [(64, some 0), (79, none), (80, none), (81, none), (82, none), (83, none), (84, none), (85, none), (86, none)] σ σ := fr.rf
  rw [XX10_rounds] at h
  obtain ⟨σ_1, f1, h⟩ := lt_upf h
  replace F := F.tr (f1.mono (by simp))
  obtain ⟨r_2, hq, h⟩ := b1_e h
  rcases ie_or h with ⟨hc, h⟩ | ⟨hc, h⟩
  · skip
    obtain ⟨σ_3, hq, h⟩ := b1_e h
    replace F := F.tr ((frX10_layRun hq).mono (by simp))
    obtain ⟨r_4, σ_5, hq, h⟩ := b2_e h
    replace F := F.tr ((frX10_layLoads hq).mono (by simp))
    obtain ⟨r_6, hq, h⟩ := b1_e h
    obtain ⟨r_7, σ_8, hq, h⟩ := b2_e h
    replace F := F.tr ((frX10_layParts hq).mono (by simp))
    obtain ⟨hb_9, h⟩ := gd h
    cases h
    exact F
  · skip
    cases h
    exact F
theorem flX10_roundOf_38 {rr : (Int32 × Sg)} {p2 : Int32} {σ_7 : Sg} {k65_9 : Int32 → Option (Int32 × Sg)}  (C : True) (R : True) (hk65_9 : ∀ (x3_8 : Int32), k65_9 x3_8 = some rr → fr [(79, none), (80, none), (81, none), (82, none), (83, none), (84, none), (85, none), (86, none)] σ_7 rr.2) : ∀ (n : Nat) (x3_11 : Int32) (x4_12 : Int32), LX10_roundOf_38 p2 σ_7 k65_9 n x3_11 x4_12 = some rr → fr [(79, none), (80, none), (81, none), (82, none), (83, none), (84, none), (85, none), (86, none)] σ_7 rr.2 := by
  intro n
  induction n with
  | zero =>
    intro x3_11 x4_12 h
    rw [LX10_roundOf_38] at h
    cases h
  | succ n ih =>
    intro x3_11 x4_12 h
    rw [LX10_roundOf_38] at h
    have F : fr [(79, none), (80, none), (81, none), (82, none), (83, none), (84, none), (85, none), (86, none)] σ_7 σ_7 := fr.rf
    rcases it_or h with ⟨hc, h⟩ | ⟨hc, h⟩
    · skip
      exact F.tr (hk65_9 _ h)
    · skip
      rcases it_or h with ⟨hc, h⟩ | ⟨hc, h⟩
      · skip
        exact F.tr (hk65_9 _ h)
      · skip
        obtain ⟨hb_13, h⟩ := gd h
        obtain ⟨x3_14, h⟩ := lt_ex h
        obtain ⟨x4_15, h⟩ := lt_ex h
        exact F.tr (ih _ _ h)
theorem frX10_roundOf {p1 : Int32} {p2 : Int32} {σ : Sg} {rr : (Int32 × Sg)} (h : XX10_roundOf p1 p2 σ = some rr) : fr [(79, none), (80, none), (81, none), (82, none), (83, none), (84, none), (85, none), (86, none)] σ rr.2 := by
  have C := trivial
  have R := trivial
  have F : fr [(79, none), (80, none), (81, none), (82, none), (83, none), (84, none), (85, none), (86, none)] σ σ := fr.rf
  rw [XX10_roundOf] at h
  obtain ⟨r_1, hq, h⟩ := b1_e h
  rcases it_or h with ⟨hc, h⟩ | ⟨hc, h⟩
  · skip
    cases h
    exact F
  · skip
    rcases it_or h with ⟨hc, h⟩ | ⟨hc, h⟩
    · skip
      obtain ⟨σ_2, hq, h⟩ := b1_e h
      replace F := F.tr ((frX10_layRun hq).mono (by simp))
      obtain ⟨r_3, σ_4, hq, h⟩ := b2_e h
      replace F := F.tr ((frX10_layLoads hq).mono (by simp))
      obtain ⟨r_5, hq, h⟩ := b1_e h
      obtain ⟨r_6, σ_7, hq, h⟩ := b2_e h
      replace F := F.tr ((frX10_layParts hq).mono (by simp))
      refine jn (fun (kk : Int32 → Option (Int32 × Sg)) => ∀ (x3_8 : Int32), kk x3_8 = some rr → fr [(79, none), (80, none), (81, none), (82, none), (83, none), (84, none), (85, none), (86, none)] σ_7 rr.2) h ?_ (fun k65_9 hk65_9 h => ?_)
      · intro x3_8 h
        have F : fr [(79, none), (80, none), (81, none), (82, none), (83, none), (84, none), (85, none), (86, none)] σ_7 σ_7 := fr.rf
        rcases ie_or h with ⟨hc, h⟩ | ⟨hc, h⟩
        · skip
          obtain ⟨hb_10, h⟩ := gd h
          cases h
          exact F
        · skip
          cases h
          exact F
      exact F.tr (flX10_roundOf_38  C R hk65_9 _ _ _ h)
    · skip
      cases h
      exact F
theorem frX10_round {p1 : Int32} {p2 : Int32} {p3 : Int32} {σ : Sg} {rr : (Int32 × Sg)} (h : XX10_round p1 p2 p3 σ = some rr) : fr [(64, some 0), (79, none), (80, none), (81, none), (82, none), (83, none), (84, none), (85, none), (86, none)] σ rr.2 := by
  have C := trivial
  have R := trivial
  have F : fr [(64, some 0), (79, none), (80, none), (81, none), (82, none), (83, none), (84, none), (85, none), (86, none)] σ σ := fr.rf
  rw [XX10_round] at h
  obtain ⟨σ_1, f1, h⟩ := lt_upf h
  replace F := F.tr (f1.mono (by simp))
  obtain ⟨r_2, σ_3, hq, h⟩ := b2_e h
  replace F := F.tr ((frX10_roundOf hq).mono (by simp))
  rcases ie_or h with ⟨hc, h⟩ | ⟨hc, h⟩
  · skip
    obtain ⟨r_4, hq, h⟩ := b1_e h
    obtain ⟨r_5, hq, h⟩ := b1_e h
    rcases it_or h with ⟨hc, h⟩ | ⟨hc, h⟩
    · skip
      by_cases hs_6 : p3 = (0 : Int32)
      · replace h := it hs_6 h
        cases h
        exact F
      replace h := ie hs_6 h
      by_cases hs_8 : p3 = (1 : Int32)
      · replace h := it hs_8 h
        obtain ⟨r_7, hq, h⟩ := b1_e h
        cases h
        exact F
      replace h := ie hs_8 h
      by_cases hs_10 : p3 = (2 : Int32)
      · replace h := it hs_10 h
        obtain ⟨r_9, hq, h⟩ := b1_e h
        cases h
        exact F
      replace h := ie hs_10 h
      by_cases hs_12 : p3 = (3 : Int32)
      · replace h := it hs_12 h
        obtain ⟨r_11, hq, h⟩ := b1_e h
        cases h
        exact F
      replace h := ie hs_12 h
      cases h
      exact F
    · skip
      obtain ⟨r_13, hq, h⟩ := b1_e h
      cases h
      exact F
  · skip
    cases h
    exact F
theorem flX10_aboard_46 {rr : (Int32 × Sg)} {p3 : Int32} {r_2 : Int32} {σ_3 : Sg}  (C : True) (R : True)  : ∀ (n : Nat) (x5_7 : Int32) (x6_8 : Int32), LX10_aboard_46 p3 r_2 σ_3 n x5_7 x6_8 = some rr → fr [(64, some 0), (79, none), (80, none), (81, none), (82, none), (83, none), (84, none), (85, none), (86, none)] σ_3 rr.2 := by
  intro n
  induction n with
  | zero =>
    intro x5_7 x6_8 h
    rw [LX10_aboard_46] at h
    cases h
  | succ n ih =>
    intro x5_7 x6_8 h
    rw [LX10_aboard_46] at h
    have F : fr [(64, some 0), (79, none), (80, none), (81, none), (82, none), (83, none), (84, none), (85, none), (86, none)] σ_3 σ_3 := fr.rf
    rcases it_or h with ⟨hc, h⟩ | ⟨hc, h⟩
    · skip
      cases h
      exact F
    · skip
      obtain ⟨r_9, hq, h⟩ := b1_e h
      obtain ⟨hb_10, h⟩ := gd h
      obtain ⟨x5_11, h⟩ := lt_ex h
      obtain ⟨x6_12, h⟩ := lt_ex h
      exact F.tr (ih _ _ h)
theorem frX10_aboard {p1 : Int32} {p2 : Int32} {p3 : Int32} {σ : Sg} {rr : (Int32 × Sg)} (h : XX10_aboard p1 p2 p3 σ = some rr) : fr [(64, some 0), (79, none), (80, none), (81, none), (82, none), (83, none), (84, none), (85, none), (86, none)] σ rr.2 := by
  have C := trivial
  have R := trivial
  have F : fr [(64, some 0), (79, none), (80, none), (81, none), (82, none), (83, none), (84, none), (85, none), (86, none)] σ σ := fr.rf
  rw [XX10_aboard] at h
  obtain ⟨σ_1, f1, h⟩ := lt_upf h
  replace F := F.tr (f1.mono (by simp))
  obtain ⟨r_2, σ_3, hq, h⟩ := b2_e h
  replace F := F.tr ((frX10_roundOf hq).mono (by simp))
  rcases it_or h with ⟨hc, h⟩ | ⟨hc, h⟩
  · skip
    cases h
    exact F
  · skip
    obtain ⟨r_4, hq, h⟩ := b1_e h
    obtain ⟨r_5, hq, h⟩ := b1_e h
    rcases ie_or h with ⟨hc, h⟩ | ⟨hc, h⟩
    · skip
      obtain ⟨r_6, hq, h⟩ := b1_e h
      exact F.tr (flX10_aboard_46  C R  _ _ _ h)
    · skip
      cases h
      exact F
theorem flX10_joins_25 {rr : (Int32 × Sg)} {p1 : Int32} {x5_13 : Int32} {σ : Sg} {k147_19 : Int32 → Int32 → Int32 → Option (Int32 × Sg)}  (C : True) (R : True) (hk147_19 : ∀ (x2_16 : Int32) (x3_17 : Int32) (x4_18 : Int32), k147_19 x2_16 x3_17 x4_18 = some rr → fr [(87, none)] σ rr.2) : ∀ (n : Nat) (x2_21 : Int32) (x3_22 : Int32) (x4_23 : Int32) (x6_24 : Int32), LX10_joins_25 p1 x5_13 σ k147_19 n x2_21 x3_22 x4_23 x6_24 = some rr → fr [(87, none)] σ rr.2 := by
  intro n
  induction n with
  | zero =>
    intro x2_21 x3_22 x4_23 x6_24 h
    rw [LX10_joins_25] at h
    cases h
  | succ n ih =>
    intro x2_21 x3_22 x4_23 x6_24 h
    rw [LX10_joins_25] at h
    have F : fr [(87, none)] σ σ := fr.rf
    obtain ⟨r_25, hq, h⟩ := b1_e h
    rcases it_or h with ⟨hc, h⟩ | ⟨hc, h⟩
    · skip
      exact F.tr (hk147_19 _ _ _ h)
    · skip
      obtain ⟨hb_26, h⟩ := gd h
      refine jn (fun (kk : Int32 → Int32 → Int32 → Option (Int32 × Sg)) => ∀ (x2_27 : Int32) (x3_28 : Int32) (x4_29 : Int32), kk x2_27 x3_28 x4_29 = some rr → fr [(87, none)] σ rr.2) h ?_ (fun k141_30 hk141_30 h => ?_)
      · intro x2_27 x3_28 x4_29 h
        have F : fr [(87, none)] σ σ := fr.rf
        obtain ⟨x6_31, h⟩ := lt_ex h
        exact F.tr (ih _ _ _ _ h)
      rcases it_or h with ⟨hc, h⟩ | ⟨hc, h⟩
      · skip
        exact F.tr (hk141_30 _ _ _ h)
      · skip
        obtain ⟨hb_32, h⟩ := gd h
        rcases it_or h with ⟨hc, h⟩ | ⟨hc, h⟩
        · skip
          exact F.tr (hk141_30 _ _ _ h)
        · skip
          obtain ⟨r_33, hq, h⟩ := b1_e h
          rcases it_or h with ⟨hc, h⟩ | ⟨hc, h⟩
          · skip
            obtain ⟨r_34, hq, h⟩ := b1_e h
            obtain ⟨r_35, hq, h⟩ := b1_e h
            obtain ⟨r_36, hq, h⟩ := b1_e h
            obtain ⟨x7_37, h⟩ := lt_ex h
            rcases it_or h with ⟨hc, h⟩ | ⟨hc, h⟩
            · skip
              exact F.tr (hk141_30 _ _ _ h)
            · skip
              exact F.tr (hk141_30 _ _ _ h)
          · skip
            exact F.tr (hk141_30 _ _ _ h)
theorem flX10_joins_10 {rr : (Int32 × Sg)} {p1 : Int32} {σ : Sg} {k153_3 : Int32 → Int32 → Option (Int32 × Sg)}  (C : True) (R : True) (hk153_3 : ∀ (x3_1 : Int32) (x4_2 : Int32), k153_3 x3_1 x4_2 = some rr → fr [(87, none)] σ rr.2) : ∀ (n : Nat) (x2_10 : Int32) (x3_11 : Int32) (x4_12 : Int32) (x5_13 : Int32), LX10_joins_10 p1 σ k153_3 n x2_10 x3_11 x4_12 x5_13 = some rr → fr [(87, none)] σ rr.2 := by
  intro n
  induction n with
  | zero =>
    intro x2_10 x3_11 x4_12 x5_13 h
    rw [LX10_joins_10] at h
    cases h
  | succ n ih =>
    intro x2_10 x3_11 x4_12 x5_13 h
    rw [LX10_joins_10] at h
    have F : fr [(87, none)] σ σ := fr.rf
    obtain ⟨r_14, hq, h⟩ := b1_e h
    rcases it_or h with ⟨hc, h⟩ | ⟨hc, h⟩
    · skip
      exact F.tr (hk153_3 _ _ h)
    · skip
      obtain ⟨x6_15, h⟩ := lt_ex h
      refine jn (fun (kk : Int32 → Int32 → Int32 → Option (Int32 × Sg)) => ∀ (x2_16 : Int32) (x3_17 : Int32) (x4_18 : Int32), kk x2_16 x3_17 x4_18 = some rr → fr [(87, none)] σ rr.2) h ?_ (fun k147_19 hk147_19 h => ?_)
      · intro x2_16 x3_17 x4_18 h
        have F : fr [(87, none)] σ σ := fr.rf
        obtain ⟨x5_20, h⟩ := lt_ex h
        exact F.tr (ih _ _ _ _ h)
      exact F.tr (flX10_joins_25  C R hk147_19 _ _ _ _ _ h)
theorem frX10_joins {p1 : Int32} {σ : Sg} {rr : (Int32 × Sg)} (h : XX10_joins p1 σ = some rr) : fr [(87, none)] σ rr.2 := by
  have C := trivial
  have R := trivial
  have F : fr [(87, none)] σ σ := fr.rf
  rw [XX10_joins] at h
  refine jn (fun (kk : Int32 → Int32 → Option (Int32 × Sg)) => ∀ (x3_1 : Int32) (x4_2 : Int32), kk x3_1 x4_2 = some rr → fr [(87, none)] σ rr.2) h ?_ (fun k153_3 hk153_3 h => ?_)
  · intro x3_1 x4_2 h
    have F : fr [(87, none)] σ σ := fr.rf
    refine jn (fun (kk : Sg → Option (Int32 × Sg)) => ∀ (σ_4 : Sg), kk σ_4 = some rr → fr [(87, none)] σ_4 rr.2) h ?_ (fun k181_5 hk181_5 h => ?_)
    · intro σ_4 h
      have F : fr [(87, none)] σ_4 σ_4 := fr.rf
      rcases it_or h with ⟨hc, h⟩ | ⟨hc, h⟩
      · skip
        cases h
        exact F
      · skip
        cases h
        exact F
    rcases it_or h with ⟨hc, h⟩ | ⟨hc, h⟩
    · skip
      exact F.tr (hk181_5 _ h)
    · skip
      obtain ⟨hb_6, h⟩ := gd h
      obtain ⟨hb_7, h⟩ := gd h
      obtain ⟨σ_8, f1, h⟩ := lt_up h
      replace F := F.tr (f1.mono (by simp))
      obtain ⟨σ_9, f1, h⟩ := lt_up h
      replace F := F.tr (f1.mono (by simp))
      exact F.tr (hk181_5 _ h)
  exact F.tr (flX10_joins_10  C R hk153_3 _ _ _ _ _ h)
theorem flX10_savings_105 {rr : (Int32 × Sg)} {σ_9 : Sg} {k154_13 : Int32 → Int32 → Option (Int32 × Sg)}  (C : True) (R : True) (hk154_13 : ∀ (x5_11 : Int32) (x6_12 : Int32), k154_13 x5_11 x6_12 = some rr → fr [(64, some 0), (79, none), (80, none), (81, none), (82, none), (86, none), (87, none)] σ_9 rr.2) : ∀ (n : Nat) (x5_14 : Int32) (x6_15 : Int32) (x7_16 : Int32), LX10_savings_105 σ_9 k154_13 n x5_14 x6_15 x7_16 = some rr → fr [(64, some 0), (79, none), (80, none), (81, none), (82, none), (86, none), (87, none)] σ_9 rr.2 := by
  intro n
  induction n with
  | zero =>
    intro x5_14 x6_15 x7_16 h
    rw [LX10_savings_105] at h
    cases h
  | succ n ih =>
    intro x5_14 x6_15 x7_16 h
    rw [LX10_savings_105] at h
    have F : fr [(64, some 0), (79, none), (80, none), (81, none), (82, none), (86, none), (87, none)] σ_9 σ_9 := fr.rf
    rcases it_or h with ⟨hc, h⟩ | ⟨hc, h⟩
    · skip
      exact F.tr (hk154_13 _ _ h)
    · skip
      obtain ⟨hb_17, h⟩ := gd h
      refine jn (fun (kk : Int32 → Option (Int32 × Sg)) => ∀ (s_18 : Int32), kk s_18 = some rr → fr [(64, some 0), (79, none), (80, none), (81, none), (82, none), (86, none), (87, none)] σ_9 rr.2) h ?_ (fun k129_19 hk129_19 h => ?_)
      · intro s_18 h
        have F : fr [(64, some 0), (79, none), (80, none), (81, none), (82, none), (86, none), (87, none)] σ_9 σ_9 := fr.rf
        obtain ⟨x5_20, h⟩ := lt_ex h
        obtain ⟨r_21, hq, h⟩ := b1_e h
        obtain ⟨x6_22, h⟩ := lt_ex h
        obtain ⟨x7_23, h⟩ := lt_ex h
        exact F.tr (ih _ _ _ h)
      rcases ie_or h with ⟨hc, h⟩ | ⟨hc, h⟩
      · skip
        exact F.tr (hk129_19 _ h)
      · skip
        exact F.tr (hk129_19 _ h)
theorem flX10_savings_77 {rr : (Int32 × Sg)} {k96_10 : Sg → Option (Int32 × Sg)}  (C : True) (R : True) (hk96_10 : ∀ (σ_9 : Sg), k96_10 σ_9 = some rr → fr [(64, some 0), (79, none), (80, none), (81, none), (82, none), (86, none), (87, none)] σ_9 rr.2) : ∀ (n : Nat) (x4_24 : Int32) (σ_25 : Sg), LX10_savings_77 k96_10 n x4_24 σ_25 = some rr → fr [(64, some 0), (79, none), (80, none), (81, none), (82, none), (86, none), (87, none)] σ_25 rr.2 := by
  intro n
  induction n with
  | zero =>
    intro x4_24 σ_25 h
    rw [LX10_savings_77] at h
    cases h
  | succ n ih =>
    intro x4_24 σ_25 h
    rw [LX10_savings_77] at h
    have F : fr [(64, some 0), (79, none), (80, none), (81, none), (82, none), (86, none), (87, none)] σ_25 σ_25 := fr.rf
    rcases it_or h with ⟨hc, h⟩ | ⟨hc, h⟩
    · skip
      exact F.tr (hk96_10 _ h)
    · skip
      obtain ⟨r_26, hq, h⟩ := b1_e h
      obtain ⟨r_27, σ_28, hq, h⟩ := b2_e h
      replace F := F.tr ((frX10_joins hq).mono (by simp))
      exact F.tr (ih _ _ h)
theorem flX10_savings_37 {rr : (Int32 × Sg)} {r_5 : Int32} {k74_8 : Sg → Option (Int32 × Sg)}  (C : True) (R : True) (hk74_8 : ∀ (σ_7 : Sg), k74_8 σ_7 = some rr → fr [(64, some 0), (79, none), (80, none), (81, none), (82, none), (86, none), (87, none)] σ_7 rr.2) : ∀ (n : Nat) (x4_29 : Int32) (σ_30 : Sg), LX10_savings_37 r_5 k74_8 n x4_29 σ_30 = some rr → fr [(64, some 0), (79, none), (80, none), (81, none), (82, none), (86, none), (87, none)] σ_30 rr.2 := by
  intro n
  induction n with
  | zero =>
    intro x4_29 σ_30 h
    rw [LX10_savings_37] at h
    cases h
  | succ n ih =>
    intro x4_29 σ_30 h
    rw [LX10_savings_37] at h
    have F : fr [(64, some 0), (79, none), (80, none), (81, none), (82, none), (86, none), (87, none)] σ_30 σ_30 := fr.rf
    rcases it_or h with ⟨hc, h⟩ | ⟨hc, h⟩
    · skip
      exact F.tr (hk74_8 _ h)
    · skip
      obtain ⟨r_31, hq, h⟩ := b1_e h
      refine jn (fun (kk : Int32 → Option (Int32 × Sg)) => ∀ (s_32 : Int32), kk s_32 = some rr → fr [(64, some 0), (79, none), (80, none), (81, none), (82, none), (86, none), (87, none)] σ_30 rr.2) h ?_ (fun k67_33 hk67_33 h => ?_)
      · intro s_32 h
        have F : fr [(64, some 0), (79, none), (80, none), (81, none), (82, none), (86, none), (87, none)] σ_30 σ_30 := fr.rf
        obtain ⟨hb_35, h⟩ := gd h
        obtain ⟨σ_34, f1, h⟩ := lt_up h
        replace F := F.tr (f1.mono (by simp))
        obtain ⟨x4_36, h⟩ := lt_ex h
        exact F.tr (ih _ _ h)
      rcases it_or h with ⟨hc, h⟩ | ⟨hc, h⟩
      · skip
        exact F.tr (hk67_33 _ h)
      · skip
        exact F.tr (hk67_33 _ h)
theorem frX10_savings {p1 : Int32} {p2 : Int32} {σ : Sg} {rr : (Int32 × Sg)} (h : XX10_savings p1 p2 σ = some rr) : fr [(64, some 0), (79, none), (80, none), (81, none), (82, none), (86, none), (87, none)] σ rr.2 := by
  have C := trivial
  have R := trivial
  have F : fr [(64, some 0), (79, none), (80, none), (81, none), (82, none), (86, none), (87, none)] σ σ := fr.rf
  rw [XX10_savings] at h
  obtain ⟨σ_1, f1, h⟩ := lt_upf h
  replace F := F.tr (f1.mono (by simp))
  obtain ⟨r_2, hq, h⟩ := b1_e h
  rcases it_or h with ⟨hc, h⟩ | ⟨hc, h⟩
  · skip
    cases h
    exact F
  · skip
    obtain ⟨r_3, hq, h⟩ := b1_e h
    rcases ie_or h with ⟨hc, h⟩ | ⟨hc, h⟩
    · skip
      obtain ⟨σ_4, hq, h⟩ := b1_e h
      replace F := F.tr ((frX10_layRun hq).mono (by simp))
      obtain ⟨r_5, σ_6, hq, h⟩ := b2_e h
      replace F := F.tr ((frX10_layLoads hq).mono (by simp))
      refine jn (fun (kk : Sg → Option (Int32 × Sg)) => ∀ (σ_7 : Sg), kk σ_7 = some rr → fr [(64, some 0), (79, none), (80, none), (81, none), (82, none), (86, none), (87, none)] σ_7 rr.2) h ?_ (fun k74_8 hk74_8 h => ?_)
      · intro σ_7 h
        have F : fr [(64, some 0), (79, none), (80, none), (81, none), (82, none), (86, none), (87, none)] σ_7 σ_7 := fr.rf
        refine jn (fun (kk : Sg → Option (Int32 × Sg)) => ∀ (σ_9 : Sg), kk σ_9 = some rr → fr [(64, some 0), (79, none), (80, none), (81, none), (82, none), (86, none), (87, none)] σ_9 rr.2) h ?_ (fun k96_10 hk96_10 h => ?_)
        · intro σ_9 h
          have F : fr [(64, some 0), (79, none), (80, none), (81, none), (82, none), (86, none), (87, none)] σ_9 σ_9 := fr.rf
          refine jn (fun (kk : Int32 → Int32 → Option (Int32 × Sg)) => ∀ (x5_11 : Int32) (x6_12 : Int32), kk x5_11 x6_12 = some rr → fr [(64, some 0), (79, none), (80, none), (81, none), (82, none), (86, none), (87, none)] σ_9 rr.2) h ?_ (fun k154_13 hk154_13 h => ?_)
          · intro x5_11 x6_12 h
            have F : fr [(64, some 0), (79, none), (80, none), (81, none), (82, none), (86, none), (87, none)] σ_9 σ_9 := fr.rf
            rcases ie_or h with ⟨hc, h⟩ | ⟨hc, h⟩
            · skip
              cases h
              exact F
            · skip
              cases h
              exact F
          exact F.tr (flX10_savings_105  C R hk154_13 _ _ _ _ h)
        exact F.tr (flX10_savings_77  C R hk96_10 _ _ _ h)
      exact F.tr (flX10_savings_37  C R hk74_8 _ _ _ h)
    · skip
      cases h
      exact F
theorem flX10_share_72 {rr : (Int32 × Sg)} {p1 : Int32} {r_5 : Int32} {r_11 : Int32} {σ_10 : Sg} {k152_13 : Int32 → Option (Int32 × Sg)}  (C : True) (R : True) (hk152_13 : ∀ (x6_12 : Int32), k152_13 x6_12 = some rr → fr [(64, some 0), (79, none), (80, none), (81, none), (82, none), (83, none), (84, none), (85, none), (86, none)] σ_10 rr.2) : ∀ (n : Nat) (x6_18 : Int32) (x7_19 : Int32), LX10_share_72 p1 r_5 r_11 σ_10 k152_13 n x6_18 x7_19 = some rr → fr [(64, some 0), (79, none), (80, none), (81, none), (82, none), (83, none), (84, none), (85, none), (86, none)] σ_10 rr.2 := by
  intro n
  induction n with
  | zero =>
    intro x6_18 x7_19 h
    rw [LX10_share_72] at h
    cases h
  | succ n ih =>
    intro x6_18 x7_19 h
    rw [LX10_share_72] at h
    have F : fr [(64, some 0), (79, none), (80, none), (81, none), (82, none), (83, none), (84, none), (85, none), (86, none)] σ_10 σ_10 := fr.rf
    rcases it_or h with ⟨hc, h⟩ | ⟨hc, h⟩
    · skip
      exact F.tr (hk152_13 _ h)
    · skip
      refine jn (fun (kk : Int32 → Option (Int32 × Sg)) => ∀ (x6_20 : Int32), kk x6_20 = some rr → fr [(64, some 0), (79, none), (80, none), (81, none), (82, none), (83, none), (84, none), (85, none), (86, none)] σ_10 rr.2) h ?_ (fun k146_21 hk146_21 h => ?_)
      · intro x6_20 h
        have F : fr [(64, some 0), (79, none), (80, none), (81, none), (82, none), (83, none), (84, none), (85, none), (86, none)] σ_10 σ_10 := fr.rf
        obtain ⟨x7_22, h⟩ := lt_ex h
        exact F.tr (ih _ _ h)
      rcases ie_or h with ⟨hc, h⟩ | ⟨hc, h⟩
      · skip
        exact F.tr (hk146_21 _ h)
      · skip
        obtain ⟨r_23, hq, h⟩ := b1_e h
        rcases ie_or h with ⟨hc, h⟩ | ⟨hc, h⟩
        · skip
          exact F.tr (hk146_21 _ h)
        · skip
          obtain ⟨r_24, hq, h⟩ := b1_e h
          obtain ⟨r_25, hq, h⟩ := b1_e h
          obtain ⟨r_26, hq, h⟩ := b1_e h
          obtain ⟨hb_27, h⟩ := gd h
          obtain ⟨hb_28, h⟩ := gd h
          obtain ⟨x6_29, h⟩ := lt_ex h
          exact F.tr (hk146_21 _ h)
theorem frX10_share {p1 : Int32} {p2 : Int32} {p3 : Int32} {σ : Sg} {rr : (Int32 × Sg)} (h : XX10_share p1 p2 p3 σ = some rr) : fr [(64, some 0), (79, none), (80, none), (81, none), (82, none), (83, none), (84, none), (85, none), (86, none)] σ rr.2 := by
  have C := trivial
  have R := trivial
  have F : fr [(64, some 0), (79, none), (80, none), (81, none), (82, none), (83, none), (84, none), (85, none), (86, none)] σ σ := fr.rf
  rw [XX10_share] at h
  obtain ⟨σ_1, f1, h⟩ := lt_upf h
  replace F := F.tr (f1.mono (by simp))
  obtain ⟨r_2, hq, h⟩ := b1_e h
  rcases it_or h with ⟨hc, h⟩ | ⟨hc, h⟩
  · skip
    cases h
    exact F
  · skip
    obtain ⟨r_3, hq, h⟩ := b1_e h
    rcases ie_or h with ⟨hc, h⟩ | ⟨hc, h⟩
    · skip
      obtain ⟨σ_4, hq, h⟩ := b1_e h
      replace F := F.tr ((frX10_layRun hq).mono (by simp))
      obtain ⟨r_5, σ_6, hq, h⟩ := b2_e h
      replace F := F.tr ((frX10_layLoads hq).mono (by simp))
      obtain ⟨r_7, hq, h⟩ := b1_e h
      rcases ie_or h with ⟨hc, h⟩ | ⟨hc, h⟩
      · skip
        obtain ⟨r_8, hq, h⟩ := b1_e h
        obtain ⟨r_9, σ_10, hq, h⟩ := b2_e h
        replace F := F.tr ((frX10_layParts hq).mono (by simp))
        obtain ⟨r_11, hq, h⟩ := b1_e h
        refine jn (fun (kk : Int32 → Option (Int32 × Sg)) => ∀ (x6_12 : Int32), kk x6_12 = some rr → fr [(64, some 0), (79, none), (80, none), (81, none), (82, none), (83, none), (84, none), (85, none), (86, none)] σ_10 rr.2) h ?_ (fun k152_13 hk152_13 h => ?_)
        · intro x6_12 h
          have F : fr [(64, some 0), (79, none), (80, none), (81, none), (82, none), (83, none), (84, none), (85, none), (86, none)] σ_10 σ_10 := fr.rf
          obtain ⟨r_14, hq, h⟩ := b1_e h
          obtain ⟨r_15, hq, h⟩ := b1_e h
          rcases ie_or h with ⟨hc, h⟩ | ⟨hc, h⟩
          · skip
            obtain ⟨hz_16, h⟩ := gd h
            cases h
            exact F
          · skip
            obtain ⟨hz_17, h⟩ := gd h
            cases h
            exact F
        exact F.tr (flX10_share_72  C R hk152_13 _ _ _ h)
      · skip
        cases h
        exact F
    · skip
      cases h
      exact F
theorem flX10_peak_27 {rr : (Int32 × Sg)} {k75_7 : Int32 → Int32 → Sg → Option (Int32 × Sg)}  (C : True) (R : True) (hk75_7 : ∀ (x2_4 : Int32) (x3_5 : Int32) (σ_6 : Sg), k75_7 x2_4 x3_5 σ_6 = some rr → fr [(64, some 0), (79, none), (80, none), (81, none), (82, none), (86, none)] σ_6 rr.2) : ∀ (n : Nat) (x2_8 : Int32) (x3_9 : Int32) (x4_10 : Int32) (σ_11 : Sg), LX10_peak_27 k75_7 n x2_8 x3_9 x4_10 σ_11 = some rr → fr [(64, some 0), (79, none), (80, none), (81, none), (82, none), (86, none)] σ_11 rr.2 := by
  intro n
  induction n with
  | zero =>
    intro x2_8 x3_9 x4_10 σ_11 h
    rw [LX10_peak_27] at h
    cases h
  | succ n ih =>
    intro x2_8 x3_9 x4_10 σ_11 h
    rw [LX10_peak_27] at h
    have F : fr [(64, some 0), (79, none), (80, none), (81, none), (82, none), (86, none)] σ_11 σ_11 := fr.rf
    obtain ⟨r_12, hq, h⟩ := b1_e h
    rcases it_or h with ⟨hc, h⟩ | ⟨hc, h⟩
    · skip
      exact F.tr (hk75_7 _ _ _ h)
    · skip
      obtain ⟨r_13, σ_14, hq, h⟩ := b2_e h
      replace F := F.tr ((frX10_layLoads hq).mono (by simp))
      obtain ⟨r_15, hq, h⟩ := b1_e h
      obtain ⟨r_16, hq, h⟩ := b1_e h
      refine jn (fun (kk : Int32 → Int32 → Option (Int32 × Sg)) => ∀ (x2_17 : Int32) (x3_18 : Int32), kk x2_17 x3_18 = some rr → fr [(64, some 0), (79, none), (80, none), (81, none), (82, none), (86, none)] σ_14 rr.2) h ?_ (fun k69_19 hk69_19 h => ?_)
      · intro x2_17 x3_18 h
        have F : fr [(64, some 0), (79, none), (80, none), (81, none), (82, none), (86, none)] σ_14 σ_14 := fr.rf
        obtain ⟨x4_20, h⟩ := lt_ex h
        exact F.tr (ih _ _ _ _ h)
      rcases it_or h with ⟨hc, h⟩ | ⟨hc, h⟩
      · skip
        exact F.tr (hk69_19 _ _ h)
      · skip
        exact F.tr (hk69_19 _ _ h)
theorem frX10_peak {p1 : Int32} {σ : Sg} {rr : (Int32 × Sg)} (h : XX10_peak p1 σ = some rr) : fr [(64, some 0), (79, none), (80, none), (81, none), (82, none), (86, none)] σ rr.2 := by
  have C := trivial
  have R := trivial
  have F : fr [(64, some 0), (79, none), (80, none), (81, none), (82, none), (86, none)] σ σ := fr.rf
  rw [XX10_peak] at h
  obtain ⟨σ_1, f1, h⟩ := lt_upf h
  replace F := F.tr (f1.mono (by simp))
  obtain ⟨r_2, hq, h⟩ := b1_e h
  rcases ie_or h with ⟨hc, h⟩ | ⟨hc, h⟩
  · skip
    obtain ⟨σ_3, hq, h⟩ := b1_e h
    replace F := F.tr ((frX10_layRun hq).mono (by simp))
    refine jn (fun (kk : Int32 → Int32 → Sg → Option (Int32 × Sg)) => ∀ (x2_4 : Int32) (x3_5 : Int32) (σ_6 : Sg), kk x2_4 x3_5 σ_6 = some rr → fr [(64, some 0), (79, none), (80, none), (81, none), (82, none), (86, none)] σ_6 rr.2) h ?_ (fun k75_7 hk75_7 h => ?_)
    · intro x2_4 x3_5 σ_6 h
      have F : fr [(64, some 0), (79, none), (80, none), (81, none), (82, none), (86, none)] σ_6 σ_6 := fr.rf
      rcases ie_or h with ⟨hc, h⟩ | ⟨hc, h⟩
      · skip
        cases h
        exact F
      · skip
        cases h
        exact F
    exact F.tr (flX10_peak_27  C R hk75_7 _ _ _ _ _ h)
  · skip
    cases h
    exact F
theorem flX10_allRounds_4 {rr : (Int32 × Sg)} {p1 : Int32}  (C : True) (R : True)  : ∀ (n : Nat) (x2_1 : Int32) (x3_2 : Int32) (σ_3 : Sg), LX10_allRounds_4 p1 n x2_1 x3_2 σ_3 = some rr → fr [(83, none), (84, none), (85, none), (86, none)] σ_3 rr.2 := by
  intro n
  induction n with
  | zero =>
    intro x2_1 x3_2 σ_3 h
    rw [LX10_allRounds_4] at h
    cases h
  | succ n ih =>
    intro x2_1 x3_2 σ_3 h
    rw [LX10_allRounds_4] at h
    have F : fr [(83, none), (84, none), (85, none), (86, none)] σ_3 σ_3 := fr.rf
    obtain ⟨r_4, hq, h⟩ := b1_e h
    rcases it_or h with ⟨hc, h⟩ | ⟨hc, h⟩
    · skip
      cases h
      exact F
    · skip
      obtain ⟨r_5, σ_6, hq, h⟩ := b2_e h
      replace F := F.tr ((frX10_roundsCost hq).mono (by simp))
      rcases it_or h with ⟨hc, h⟩ | ⟨hc, h⟩
      · skip
        obtain ⟨x2_7, h⟩ := lt_ex h
        obtain ⟨x3_8, h⟩ := lt_ex h
        exact F.tr (ih _ _ _ h)
      · skip
        cases h
        exact F
theorem frX10_allRounds {p1 : Int32} {σ : Sg} {rr : (Int32 × Sg)} (h : XX10_allRounds p1 σ = some rr) : fr [(83, none), (84, none), (85, none), (86, none)] σ rr.2 := by
  have C := trivial
  have R := trivial
  have F : fr [(83, none), (84, none), (85, none), (86, none)] σ σ := fr.rf
  rw [XX10_allRounds] at h
  exact F.tr (flX10_allRounds_4  C R  _ _ _ _ h)
theorem frX10_costNow {σ : Sg} {rr : (Int32 × Sg)} (h : XX10_costNow σ = some rr) : fr [(80, none), (81, none), (82, none), (83, none), (84, none), (85, none), (86, none)] σ rr.2 := by
  have C := trivial
  have R := trivial
  have F : fr [(80, none), (81, none), (82, none), (83, none), (84, none), (85, none), (86, none)] σ σ := fr.rf
  rw [XX10_costNow] at h
  obtain ⟨σ_1, hq, h⟩ := b1_e h
  replace F := F.tr ((frX10_runAll hq).mono (by simp))
  obtain ⟨r_2, hq, h⟩ := b1_e h
  obtain ⟨r_3, σ_4, hq, h⟩ := b2_e h
  replace F := F.tr ((frX10_allRounds hq).mono (by simp))
  obtain ⟨r_5, hq, h⟩ := b1_e h
  obtain ⟨r_6, hq, h⟩ := b1_e h
  obtain ⟨r_7, hq, h⟩ := b1_e h
  cases h
  exact F
theorem frX10_cost {p1 : Int32} {σ : Sg} {rr : (Int32 × Sg)} (h : XX10_cost p1 σ = some rr) : fr [(64, some 0), (79, none), (80, none), (81, none), (82, none), (83, none), (84, none), (85, none), (86, none)] σ rr.2 := by
  have C := trivial
  have R := trivial
  have F : fr [(64, some 0), (79, none), (80, none), (81, none), (82, none), (83, none), (84, none), (85, none), (86, none)] σ σ := fr.rf
  rw [XX10_cost] at h
  obtain ⟨σ_1, f1, h⟩ := lt_upf h
  replace F := F.tr (f1.mono (by simp))
  obtain ⟨r_2, hq, h⟩ := b1_e h
  rcases ie_or h with ⟨hc, h⟩ | ⟨hc, h⟩
  · skip
    obtain ⟨σ_3, hq, h⟩ := b1_e h
    replace F := F.tr ((frX10_layAsked hq).mono (by simp))
    obtain ⟨r_4, σ_5, hq, h⟩ := b2_e h
    replace F := F.tr ((frX10_costNow hq).mono (by simp))
    rcases ie_or h with ⟨hc, h⟩ | ⟨hc, h⟩
    · skip
      rcases ie_or h with ⟨hc, h⟩ | ⟨hc, h⟩
      · skip
        rcases ie_or h with ⟨hc, h⟩ | ⟨hc, h⟩
        · skip
          obtain ⟨r_6, hq, h⟩ := b1_e h
          obtain ⟨r_7, hq, h⟩ := b1_e h
          cases h
          exact F
        · skip
          obtain ⟨r_8, hq, h⟩ := b1_e h
          cases h
          exact F
      · skip
        obtain ⟨r_9, hq, h⟩ := b1_e h
        obtain ⟨r_10, σ_11, hq, h⟩ := b2_e h
        replace F := F.tr ((frX10_allRounds hq).mono (by simp))
        cases h
        exact F
    · skip
      cases h
      exact F
  · skip
    cases h
    exact F
theorem frX10_costOf {p1 : Int32} {σ : Sg} {rr : (Int32 × Sg)} (h : XX10_costOf p1 σ = some rr) : fr [(64, some 0), (79, none), (80, none), (81, none), (82, none), (83, none), (84, none), (85, none), (86, none)] σ rr.2 := by
  have C := trivial
  have R := trivial
  have F : fr [(64, some 0), (79, none), (80, none), (81, none), (82, none), (83, none), (84, none), (85, none), (86, none)] σ σ := fr.rf
  rw [XX10_costOf] at h
  obtain ⟨σ_1, f1, h⟩ := lt_upf h
  replace F := F.tr (f1.mono (by simp))
  obtain ⟨r_2, hq, h⟩ := b1_e h
  rcases ie_or h with ⟨hc, h⟩ | ⟨hc, h⟩
  · skip
    obtain ⟨σ_3, hq, h⟩ := b1_e h
    replace F := F.tr ((frX10_layRun hq).mono (by simp))
    obtain ⟨r_4, hq, h⟩ := b1_e h
    obtain ⟨r_5, σ_6, hq, h⟩ := b2_e h
    replace F := F.tr ((frX10_roundsCost hq).mono (by simp))
    cases h
    exact F
  · skip
    cases h
    exact F
theorem frX10_worth {p1 : Int32} {p2 : Int32} {σ : Sg} {rr : (Int32 × Sg)} (h : XX10_worth p1 p2 σ = some rr) : fr [(64, some 0), (78, none), (79, none), (80, none), (81, none), (82, none), (83, none), (84, none), (85, none), (86, none)] σ rr.2 := by
  have C := trivial
  have R := trivial
  have F : fr [(64, some 0), (78, none), (79, none), (80, none), (81, none), (82, none), (83, none), (84, none), (85, none), (86, none)] σ σ := fr.rf
  rw [XX10_worth] at h
  obtain ⟨σ_1, f1, h⟩ := lt_upf h
  replace F := F.tr (f1.mono (by simp))
  obtain ⟨r_2, hq, h⟩ := b1_e h
  rcases ie_or h with ⟨hc, h⟩ | ⟨hc, h⟩
  · skip
    obtain ⟨σ_3, hq, h⟩ := b1_e h
    replace F := F.tr ((frX10_layAsked hq).mono (by simp))
    obtain ⟨r_4, σ_5, hq, h⟩ := b2_e h
    replace F := F.tr ((frX10_costNow hq).mono (by simp))
    obtain ⟨hb_6, h⟩ := gd h
    obtain ⟨σ_7, f1, h⟩ := lt_up h
    replace F := F.tr (f1.mono (by simp))
    obtain ⟨r_8, σ_9, hq, h⟩ := b2_e h
    replace F := F.tr ((frX10_costNow hq).mono (by simp))
    obtain ⟨σ_10, f1, h⟩ := lt_up h
    replace F := F.tr (f1.mono (by simp))
    cases h
    exact F
  · skip
    cases h
    exact F
theorem flX10_truck_18 {rr : (Int32 × Sg)} {p1 : Int32}  (C : True) (R : True)  : ∀ (n : Nat) (x2_3 : Int32) (σ_4 : Sg), LX10_truck_18 p1 n x2_3 σ_4 = some rr → fr [(64, some 0), (79, none), (80, none), (81, none), (82, none), (83, none), (84, none), (85, none), (86, none)] σ_4 rr.2 := by
  intro n
  induction n with
  | zero =>
    intro x2_3 σ_4 h
    rw [LX10_truck_18] at h
    cases h
  | succ n ih =>
    intro x2_3 σ_4 h
    rw [LX10_truck_18] at h
    have F : fr [(64, some 0), (79, none), (80, none), (81, none), (82, none), (83, none), (84, none), (85, none), (86, none)] σ_4 σ_4 := fr.rf
    rcases it_or h with ⟨hc, h⟩ | ⟨hc, h⟩
    · skip
      cases h
      exact F
    · skip
      obtain ⟨r_5, σ_6, hq, h⟩ := b2_e h
      replace F := F.tr ((frX10_allRounds hq).mono (by simp))
      refine jn (fun (kk : Option (Int32 × Sg)) => kk = some rr → fr [(64, some 0), (79, none), (80, none), (81, none), (82, none), (83, none), (84, none), (85, none), (86, none)] σ_6 rr.2) h ?_ (fun k58_7 hk58_7 h => ?_)
      · intro h
        have F : fr [(64, some 0), (79, none), (80, none), (81, none), (82, none), (83, none), (84, none), (85, none), (86, none)] σ_6 σ_6 := fr.rf
        obtain ⟨x2_8, h⟩ := lt_ex h
        exact F.tr (ih _ _ h)
      rcases it_or h with ⟨hc, h⟩ | ⟨hc, h⟩
      · skip
        exact F.tr (hk58_7 h)
      · skip
        obtain ⟨r_9, hq, h⟩ := b1_e h
        obtain ⟨r_10, hq, h⟩ := b1_e h
        obtain ⟨r_11, hq, h⟩ := b1_e h
        rcases it_or h with ⟨hc, h⟩ | ⟨hc, h⟩
        · skip
          exact F.tr (hk58_7 h)
        · skip
          cases h
          exact F
theorem frX10_truck {p1 : Int32} {σ : Sg} {rr : (Int32 × Sg)} (h : XX10_truck p1 σ = some rr) : fr [(64, some 0), (79, none), (80, none), (81, none), (82, none), (83, none), (84, none), (85, none), (86, none)] σ rr.2 := by
  have C := trivial
  have R := trivial
  have F : fr [(64, some 0), (79, none), (80, none), (81, none), (82, none), (83, none), (84, none), (85, none), (86, none)] σ σ := fr.rf
  rw [XX10_truck] at h
  obtain ⟨σ_1, f1, h⟩ := lt_upf h
  replace F := F.tr (f1.mono (by simp))
  rcases it_or h with ⟨hc, h⟩ | ⟨hc, h⟩
  · skip
    obtain ⟨σ_2, hq, h⟩ := b1_e h
    replace F := F.tr ((frX10_layRun hq).mono (by simp))
    exact F.tr (flX10_truck_18  C R  _ _ _ h)
  · skip
    cases h
    exact F
theorem flX10_reach_9 {rr : (Int32 × Sg)}   (C : True) (R : True)  : ∀ (n : Nat) (x1_2 : Int32) (σ_3 : Sg), LX10_reach_9 n x1_2 σ_3 = some rr → fr [(64, some 0), (79, none), (80, none), (81, none), (82, none)] σ_3 rr.2 := by
  intro n
  induction n with
  | zero =>
    intro x1_2 σ_3 h
    rw [LX10_reach_9] at h
    cases h
  | succ n ih =>
    intro x1_2 σ_3 h
    rw [LX10_reach_9] at h
    have F : fr [(64, some 0), (79, none), (80, none), (81, none), (82, none)] σ_3 σ_3 := fr.rf
    rcases it_or h with ⟨hc, h⟩ | ⟨hc, h⟩
    · skip
      cases h
      exact F
    · skip
      obtain ⟨σ_4, hq, h⟩ := b1_e h
      replace F := F.tr ((frX10_layAsked hq).mono (by simp))
      obtain ⟨σ_5, hq, h⟩ := b1_e h
      replace F := F.tr ((frX10_runAll hq).mono (by simp))
      obtain ⟨r_6, hq, h⟩ := b1_e h
      rcases ie_or h with ⟨hc, h⟩ | ⟨hc, h⟩
      · skip
        obtain ⟨x1_7, h⟩ := lt_ex h
        exact F.tr (ih _ _ h)
      · skip
        cases h
        exact F
theorem frX10_reach {σ : Sg} {rr : (Int32 × Sg)} (h : XX10_reach σ = some rr) : fr [(64, some 0), (79, none), (80, none), (81, none), (82, none)] σ rr.2 := by
  have C := trivial
  have R := trivial
  have F : fr [(64, some 0), (79, none), (80, none), (81, none), (82, none)] σ σ := fr.rf
  rw [XX10_reach] at h
  obtain ⟨σ_1, f1, h⟩ := lt_upf h
  replace F := F.tr (f1.mono (by simp))
  exact F.tr (flX10_reach_9  C R  _ _ _ h)
theorem frX10_scaled {p1 : Int32} {σ : Sg} {rr : (Int32 × Sg)} (h : XX10_scaled p1 σ = some rr) : fr [(64, some 0), (79, none), (80, none), (81, none), (82, none), (83, none), (84, none), (85, none), (86, none)] σ rr.2 := by
  have C := trivial
  have R := trivial
  have F : fr [(64, some 0), (79, none), (80, none), (81, none), (82, none), (83, none), (84, none), (85, none), (86, none)] σ σ := fr.rf
  rw [XX10_scaled] at h
  obtain ⟨σ_1, f1, h⟩ := lt_upf h
  replace F := F.tr (f1.mono (by simp))
  obtain ⟨r_2, hq, h⟩ := b1_e h
  rcases ie_or h with ⟨hc, h⟩ | ⟨hc, h⟩
  · skip
    obtain ⟨σ_3, hq, h⟩ := b1_e h
    replace F := F.tr ((frX10_layAsked hq).mono (by simp))
    obtain ⟨r_4, σ_5, hq, h⟩ := b2_e h
    replace F := F.tr ((frX10_costNow hq).mono (by simp))
    cases h
    exact F
  · skip
    cases h
    exact F
theorem flX10_soloCost_35 {rr : (Int32 × Sg)} {p1 : Int32} {σ_1 : Sg}  (C : True) (R : True)  : ∀ (n : Nat) (x3_7 : Int32) (x4_8 : Int32), LX10_soloCost_35 p1 σ_1 n x3_7 x4_8 = some rr → fr [(80, none), (81, none), (82, none)] σ_1 rr.2 := by
  intro n
  induction n with
  | zero =>
    intro x3_7 x4_8 h
    rw [LX10_soloCost_35] at h
    cases h
  | succ n ih =>
    intro x3_7 x4_8 h
    rw [LX10_soloCost_35] at h
    have F : fr [(80, none), (81, none), (82, none)] σ_1 σ_1 := fr.rf
    obtain ⟨r_9, hq, h⟩ := b1_e h
    rcases it_or h with ⟨hc, h⟩ | ⟨hc, h⟩
    · skip
      cases h
      exact F
    · skip
      obtain ⟨hb_10, h⟩ := gd h
      refine jn (fun (kk : Int32 → Option (Int32 × Sg)) => ∀ (s_11 : Int32), kk s_11 = some rr → fr [(80, none), (81, none), (82, none)] σ_1 rr.2) h ?_ (fun k71_12 hk71_12 h => ?_)
      · intro s_11 h
        have F : fr [(80, none), (81, none), (82, none)] σ_1 σ_1 := fr.rf
        obtain ⟨x3_13, h⟩ := lt_ex h
        obtain ⟨x4_14, h⟩ := lt_ex h
        exact F.tr (ih _ _ h)
      rcases it_or h with ⟨hc, h⟩ | ⟨hc, h⟩
      · skip
        exact F.tr (hk71_12 _ h)
      · skip
        obtain ⟨r_15, hq, h⟩ := b1_e h
        exact F.tr (hk71_12 _ h)
theorem frX10_soloCost {p1 : Int32} {p2 : Int32} {σ : Sg} {rr : (Int32 × Sg)} (h : XX10_soloCost p1 p2 σ = some rr) : fr [(80, none), (81, none), (82, none)] σ rr.2 := by
  have C := trivial
  have R := trivial
  have F : fr [(80, none), (81, none), (82, none)] σ σ := fr.rf
  rw [XX10_soloCost] at h
  obtain ⟨σ_1, hq, h⟩ := b1_e h
  replace F := F.tr ((frX10_runShop hq).mono (by simp))
  obtain ⟨r_2, hq, h⟩ := b1_e h
  obtain ⟨r_3, hq, h⟩ := b1_e h
  obtain ⟨r_4, hq, h⟩ := b1_e h
  obtain ⟨r_5, hq, h⟩ := b1_e h
  obtain ⟨x3_6, h⟩ := lt_ex h
  exact F.tr (flX10_soloCost_35  C R  _ _ _ h)
theorem flX10_alone_38 {rr : (Int32 × Sg)} {p1 : Int32} {k112_8 : Int32 → Int32 → Sg → Option (Int32 × Sg)}  (C : True) (R : True) (hk112_8 : ∀ (x3_5 : Int32) (x4_6 : Int32) (σ_7 : Sg), k112_8 x3_5 x4_6 σ_7 = some rr → fr [(64, some 0), (79, none), (80, none), (81, none), (82, none)] σ_7 rr.2) : ∀ (n : Nat) (x3_10 : Int32) (x4_11 : Int32) (x5_12 : Int32) (σ_13 : Sg), LX10_alone_38 p1 k112_8 n x3_10 x4_11 x5_12 σ_13 = some rr → fr [(64, some 0), (79, none), (80, none), (81, none), (82, none)] σ_13 rr.2 := by
  intro n
  induction n with
  | zero =>
    intro x3_10 x4_11 x5_12 σ_13 h
    rw [LX10_alone_38] at h
    cases h
  | succ n ih =>
    intro x3_10 x4_11 x5_12 σ_13 h
    rw [LX10_alone_38] at h
    have F : fr [(64, some 0), (79, none), (80, none), (81, none), (82, none)] σ_13 σ_13 := fr.rf
    obtain ⟨r_14, hq, h⟩ := b1_e h
    rcases it_or h with ⟨hc, h⟩ | ⟨hc, h⟩
    · skip
      exact F.tr (hk112_8 _ _ _ h)
    · skip
      obtain ⟨r_15, σ_16, hq, h⟩ := b2_e h
      replace F := F.tr ((frX10_soloCost hq).mono (by simp))
      obtain ⟨r_17, hq, h⟩ := b1_e h
      refine jn (fun (kk : Int32 → Int32 → Option (Int32 × Sg)) => ∀ (x3_18 : Int32) (x4_19 : Int32), kk x3_18 x4_19 = some rr → fr [(64, some 0), (79, none), (80, none), (81, none), (82, none)] σ_16 rr.2) h ?_ (fun k106_20 hk106_20 h => ?_)
      · intro x3_18 x4_19 h
        have F : fr [(64, some 0), (79, none), (80, none), (81, none), (82, none)] σ_16 σ_16 := fr.rf
        obtain ⟨x5_21, h⟩ := lt_ex h
        exact F.tr (ih _ _ _ _ h)
      rcases it_or h with ⟨hc, h⟩ | ⟨hc, h⟩
      · skip
        refine jn (fun (kk : Option (Int32 × Sg)) => kk = some rr → fr [(64, some 0), (79, none), (80, none), (81, none), (82, none)] σ_16 rr.2) h ?_ (fun k99_22 hk99_22 h => ?_)
        · intro h
          have F : fr [(64, some 0), (79, none), (80, none), (81, none), (82, none)] σ_16 σ_16 := fr.rf
          exact F.tr (hk106_20 _ _ h)
        rcases it_or h with ⟨hc, h⟩ | ⟨hc, h⟩
        · skip
          exact F.tr (hk99_22 h)
        · skip
          rcases it_or h with ⟨hc, h⟩ | ⟨hc, h⟩
          · skip
            exact F.tr (hk99_22 h)
          · skip
            rcases ie_or h with ⟨hc, h⟩ | ⟨hc, h⟩
            · skip
              exact F.tr (hk106_20 _ _ h)
            · skip
              obtain ⟨r_23, hq, h⟩ := b1_e h
              obtain ⟨r_24, hq, h⟩ := b1_e h
              rcases it_or h with ⟨hc, h⟩ | ⟨hc, h⟩
              · skip
                exact F.tr (hk106_20 _ _ h)
              · skip
                exact F.tr (hk99_22 h)
      · skip
        exact F.tr (hk106_20 _ _ h)
theorem frX10_alone {p1 : Int32} {p2 : Int32} {σ : Sg} {rr : (Int32 × Sg)} (h : XX10_alone p1 p2 σ = some rr) : fr [(64, some 0), (79, none), (80, none), (81, none), (82, none)] σ rr.2 := by
  have C := trivial
  have R := trivial
  have F : fr [(64, some 0), (79, none), (80, none), (81, none), (82, none)] σ σ := fr.rf
  rw [XX10_alone] at h
  obtain ⟨σ_1, f1, h⟩ := lt_upf h
  replace F := F.tr (f1.mono (by simp))
  obtain ⟨r_2, hq, h⟩ := b1_e h
  rcases it_or h with ⟨hc, h⟩ | ⟨hc, h⟩
  · skip
    cases h
    exact F
  · skip
    obtain ⟨r_3, hq, h⟩ := b1_e h
    rcases ie_or h with ⟨hc, h⟩ | ⟨hc, h⟩
    · skip
      obtain ⟨σ_4, hq, h⟩ := b1_e h
      replace F := F.tr ((frX10_layAsked hq).mono (by simp))
      refine jn (fun (kk : Int32 → Int32 → Sg → Option (Int32 × Sg)) => ∀ (x3_5 : Int32) (x4_6 : Int32) (σ_7 : Sg), kk x3_5 x4_6 σ_7 = some rr → fr [(64, some 0), (79, none), (80, none), (81, none), (82, none)] σ_7 rr.2) h ?_ (fun k112_8 hk112_8 h => ?_)
      · intro x3_5 x4_6 σ_7 h
        have F : fr [(64, some 0), (79, none), (80, none), (81, none), (82, none)] σ_7 σ_7 := fr.rf
        refine jn (fun (kk : Option (Int32 × Sg)) => kk = some rr → fr [(64, some 0), (79, none), (80, none), (81, none), (82, none)] σ_7 rr.2) h ?_ (fun k120_9 hk120_9 h => ?_)
        · intro h
          have F : fr [(64, some 0), (79, none), (80, none), (81, none), (82, none)] σ_7 σ_7 := fr.rf
          cases h
          exact F
        rcases it_or h with ⟨hc, h⟩ | ⟨hc, h⟩
        · skip
          exact F.tr (hk120_9 h)
        · skip
          rcases ie_or h with ⟨hc, h⟩ | ⟨hc, h⟩
          · skip
            cases h
            exact F
          · skip
            exact F.tr (hk120_9 h)
      exact F.tr (flX10_alone_38  C R hk112_8 _ _ _ _ _ h)
    · skip
      cases h
      exact F
theorem flX10_every_50 {rr : (Int32 × Sg)} {p1 : Int32} {x6_13 : Int32} {k101_19 : Int32 → Int32 → Int32 → Sg → Option (Int32 × Sg)}  (C : True) (R : True) (hk101_19 : ∀ (x3_15 : Int32) (x4_16 : Int32) (x5_17 : Int32) (σ_18 : Sg), k101_19 x3_15 x4_16 x5_17 σ_18 = some rr → fr [(64, some 0), (79, none), (80, none), (81, none), (82, none)] σ_18 rr.2) : ∀ (n : Nat) (x3_21 : Int32) (x4_22 : Int32) (x5_23 : Int32) (x7_24 : Int32) (σ_25 : Sg), LX10_every_50 p1 x6_13 k101_19 n x3_21 x4_22 x5_23 x7_24 σ_25 = some rr → fr [(64, some 0), (79, none), (80, none), (81, none), (82, none)] σ_25 rr.2 := by
  intro n
  induction n with
  | zero =>
    intro x3_21 x4_22 x5_23 x7_24 σ_25 h
    rw [LX10_every_50] at h
    cases h
  | succ n ih =>
    intro x3_21 x4_22 x5_23 x7_24 σ_25 h
    rw [LX10_every_50] at h
    have F : fr [(64, some 0), (79, none), (80, none), (81, none), (82, none)] σ_25 σ_25 := fr.rf
    rcases it_or h with ⟨hc, h⟩ | ⟨hc, h⟩
    · skip
      exact F.tr (hk101_19 _ _ _ _ h)
    · skip
      obtain ⟨r_26, hq, h⟩ := b1_e h
      obtain ⟨r_27, σ_28, hq, h⟩ := b2_e h
      replace F := F.tr ((frX10_soloCost hq).mono (by simp))
      refine jn (fun (kk : Int32 → Int32 → Int32 → Option (Int32 × Sg)) => ∀ (x3_29 : Int32) (x4_30 : Int32) (x5_31 : Int32), kk x3_29 x4_30 x5_31 = some rr → fr [(64, some 0), (79, none), (80, none), (81, none), (82, none)] σ_28 rr.2) h ?_ (fun k95_32 hk95_32 h => ?_)
      · intro x3_29 x4_30 x5_31 h
        have F : fr [(64, some 0), (79, none), (80, none), (81, none), (82, none)] σ_28 σ_28 := fr.rf
        obtain ⟨x7_33, h⟩ := lt_ex h
        exact F.tr (ih _ _ _ _ _ h)
      refine jn (fun (kk : Option (Int32 × Sg)) => kk = some rr → fr [(64, some 0), (79, none), (80, none), (81, none), (82, none)] σ_28 rr.2) h ?_ (fun k84_34 hk84_34 h => ?_)
      · intro h
        have F : fr [(64, some 0), (79, none), (80, none), (81, none), (82, none)] σ_28 σ_28 := fr.rf
        exact F.tr (hk95_32 _ _ _ h)
      rcases it_or h with ⟨hc, h⟩ | ⟨hc, h⟩
      · skip
        exact F.tr (hk84_34 h)
      · skip
        rcases it_or h with ⟨hc, h⟩ | ⟨hc, h⟩
        · skip
          exact F.tr (hk95_32 _ _ _ h)
        · skip
          exact F.tr (hk84_34 h)
theorem flX10_every_42 {rr : (Int32 × Sg)} {p1 : Int32} {k107_9 : Int32 → Int32 → Int32 → Sg → Option (Int32 × Sg)}  (C : True) (R : True) (hk107_9 : ∀ (x3_5 : Int32) (x4_6 : Int32) (x5_7 : Int32) (σ_8 : Sg), k107_9 x3_5 x4_6 x5_7 σ_8 = some rr → fr [(64, some 0), (79, none), (80, none), (81, none), (82, none)] σ_8 rr.2) : ∀ (n : Nat) (x3_10 : Int32) (x4_11 : Int32) (x5_12 : Int32) (x6_13 : Int32) (σ_14 : Sg), LX10_every_42 p1 k107_9 n x3_10 x4_11 x5_12 x6_13 σ_14 = some rr → fr [(64, some 0), (79, none), (80, none), (81, none), (82, none)] σ_14 rr.2 := by
  intro n
  induction n with
  | zero =>
    intro x3_10 x4_11 x5_12 x6_13 σ_14 h
    rw [LX10_every_42] at h
    cases h
  | succ n ih =>
    intro x3_10 x4_11 x5_12 x6_13 σ_14 h
    rw [LX10_every_42] at h
    have F : fr [(64, some 0), (79, none), (80, none), (81, none), (82, none)] σ_14 σ_14 := fr.rf
    rcases it_or h with ⟨hc, h⟩ | ⟨hc, h⟩
    · skip
      exact F.tr (hk107_9 _ _ _ _ h)
    · skip
      refine jn (fun (kk : Int32 → Int32 → Int32 → Sg → Option (Int32 × Sg)) => ∀ (x3_15 : Int32) (x4_16 : Int32) (x5_17 : Int32) (σ_18 : Sg), kk x3_15 x4_16 x5_17 σ_18 = some rr → fr [(64, some 0), (79, none), (80, none), (81, none), (82, none)] σ_18 rr.2) h ?_ (fun k101_19 hk101_19 h => ?_)
      · intro x3_15 x4_16 x5_17 σ_18 h
        have F : fr [(64, some 0), (79, none), (80, none), (81, none), (82, none)] σ_18 σ_18 := fr.rf
        obtain ⟨x6_20, h⟩ := lt_ex h
        exact F.tr (ih _ _ _ _ _ h)
      exact F.tr (flX10_every_50  C R hk101_19 _ _ _ _ _ _ h)
theorem frX10_every {p1 : Int32} {p2 : Int32} {σ : Sg} {rr : (Int32 × Sg)} (h : XX10_every p1 p2 σ = some rr) : fr [(64, some 0), (79, none), (80, none), (81, none), (82, none)] σ rr.2 := by
  have C := trivial
  have R := trivial
  have F : fr [(64, some 0), (79, none), (80, none), (81, none), (82, none)] σ σ := fr.rf
  rw [XX10_every] at h
  obtain ⟨σ_1, f1, h⟩ := lt_upf h
  replace F := F.tr (f1.mono (by simp))
  obtain ⟨r_2, hq, h⟩ := b1_e h
  rcases it_or h with ⟨hc, h⟩ | ⟨hc, h⟩
  · skip
    cases h
    exact F
  · skip
    obtain ⟨r_3, hq, h⟩ := b1_e h
    rcases ie_or h with ⟨hc, h⟩ | ⟨hc, h⟩
    · skip
      obtain ⟨σ_4, hq, h⟩ := b1_e h
      replace F := F.tr ((frX10_layAsked hq).mono (by simp))
      refine jn (fun (kk : Int32 → Int32 → Int32 → Sg → Option (Int32 × Sg)) => ∀ (x3_5 : Int32) (x4_6 : Int32) (x5_7 : Int32) (σ_8 : Sg), kk x3_5 x4_6 x5_7 σ_8 = some rr → fr [(64, some 0), (79, none), (80, none), (81, none), (82, none)] σ_8 rr.2) h ?_ (fun k107_9 hk107_9 h => ?_)
      · intro x3_5 x4_6 x5_7 σ_8 h
        have F : fr [(64, some 0), (79, none), (80, none), (81, none), (82, none)] σ_8 σ_8 := fr.rf
        rcases ie_or h with ⟨hc, h⟩ | ⟨hc, h⟩
        · skip
          rcases ie_or h with ⟨hc, h⟩ | ⟨hc, h⟩
          · skip
            cases h
            exact F
          · skip
            cases h
            exact F
        · skip
          cases h
          exact F
      exact F.tr (flX10_every_42  C R hk107_9 _ _ _ _ _ _ h)
    · skip
      cases h
      exact F
theorem flX10_layBetween_239 {rr : Sg}   (C : True) (R : True)  : ∀ (n : Nat) (x1_5 : Int32) (σ_6 : Sg), LX10_layBetween_239 n x1_5 σ_6 = some rr → fr [(78, none), (80, none), (81, none), (82, none), (83, none), (84, none), (85, none), (86, none), (88, none), (90, none)] σ_6 rr := by
  intro n
  induction n with
  | zero =>
    intro x1_5 σ_6 h
    rw [LX10_layBetween_239] at h
    cases h
  | succ n ih =>
    intro x1_5 σ_6 h
    rw [LX10_layBetween_239] at h
    have F : fr [(78, none), (80, none), (81, none), (82, none), (83, none), (84, none), (85, none), (86, none), (88, none), (90, none)] σ_6 σ_6 := fr.rf
    obtain ⟨r_7, hq, h⟩ := b1_e h
    rcases it_or h with ⟨hc, h⟩ | ⟨hc, h⟩
    · skip
      cases h
      exact F
    · skip
      obtain ⟨hb_8, h⟩ := gd h
      obtain ⟨σ_9, f1, h⟩ := lt_up h
      replace F := F.tr (f1.mono (by simp))
      obtain ⟨x1_10, h⟩ := lt_ex h
      exact F.tr (ih _ _ h)
theorem flX10_layBetween_149 {rr : Sg} {x2_18 : Int32} {x4_34 : Int32} {σ_26 : Sg} {k205_39 : Int32 → Option Sg}  (C : True) (R : True) (hk205_39 : ∀ (x3_38 : Int32), k205_39 x3_38 = some rr → fr [(78, none), (80, none), (81, none), (82, none), (83, none), (84, none), (85, none), (86, none), (88, none), (90, none)] σ_26 rr) : ∀ (n : Nat) (x3_41 : Int32) (x5_42 : Int32), LX10_layBetween_149 x2_18 x4_34 σ_26 k205_39 n x3_41 x5_42 = some rr → fr [(78, none), (80, none), (81, none), (82, none), (83, none), (84, none), (85, none), (86, none), (88, none), (90, none)] σ_26 rr := by
  intro n
  induction n with
  | zero =>
    intro x3_41 x5_42 h
    rw [LX10_layBetween_149] at h
    cases h
  | succ n ih =>
    intro x3_41 x5_42 h
    rw [LX10_layBetween_149] at h
    have F : fr [(78, none), (80, none), (81, none), (82, none), (83, none), (84, none), (85, none), (86, none), (88, none), (90, none)] σ_26 σ_26 := fr.rf
    rcases it_or h with ⟨hc, h⟩ | ⟨hc, h⟩
    · skip
      exact F.tr (hk205_39 _ h)
    · skip
      obtain ⟨r_43, hq, h⟩ := b1_e h
      obtain ⟨hb_44, h⟩ := gd h
      obtain ⟨r_45, hq, h⟩ := b1_e h
      obtain ⟨x3_46, h⟩ := lt_ex h
      obtain ⟨x5_47, h⟩ := lt_ex h
      exact F.tr (ih _ _ h)
theorem flX10_layBetween_129 {rr : Sg} {x1_11 : Int32} {x2_18 : Int32} {σ_26 : Sg} {k211_29 : Int32 → Option Sg}  (C : True) (R : True) (hk211_29 : ∀ (x3_28 : Int32), k211_29 x3_28 = some rr → fr [(78, none), (80, none), (81, none), (82, none), (83, none), (84, none), (85, none), (86, none), (88, none), (90, none)] σ_26 rr) : ∀ (n : Nat) (x3_33 : Int32) (x4_34 : Int32), LX10_layBetween_129 x1_11 x2_18 σ_26 k211_29 n x3_33 x4_34 = some rr → fr [(78, none), (80, none), (81, none), (82, none), (83, none), (84, none), (85, none), (86, none), (88, none), (90, none)] σ_26 rr := by
  intro n
  induction n with
  | zero =>
    intro x3_33 x4_34 h
    rw [LX10_layBetween_129] at h
    cases h
  | succ n ih =>
    intro x3_33 x4_34 h
    rw [LX10_layBetween_129] at h
    have F : fr [(78, none), (80, none), (81, none), (82, none), (83, none), (84, none), (85, none), (86, none), (88, none), (90, none)] σ_26 σ_26 := fr.rf
    obtain ⟨r_35, hq, h⟩ := b1_e h
    rcases it_or h with ⟨hc, h⟩ | ⟨hc, h⟩
    · skip
      exact F.tr (hk211_29 _ h)
    · skip
      refine jn (fun (kk : Int32 → Option Sg) => ∀ (s_36 : Int32), kk s_36 = some rr → fr [(78, none), (80, none), (81, none), (82, none), (83, none), (84, none), (85, none), (86, none), (88, none), (90, none)] σ_26 rr) h ?_ (fun k147_37 hk147_37 h => ?_)
      · intro s_36 h
        have F : fr [(78, none), (80, none), (81, none), (82, none), (83, none), (84, none), (85, none), (86, none), (88, none), (90, none)] σ_26 σ_26 := fr.rf
        refine jn (fun (kk : Int32 → Option Sg) => ∀ (x3_38 : Int32), kk x3_38 = some rr → fr [(78, none), (80, none), (81, none), (82, none), (83, none), (84, none), (85, none), (86, none), (88, none), (90, none)] σ_26 rr) h ?_ (fun k205_39 hk205_39 h => ?_)
        · intro x3_38 h
          have F : fr [(78, none), (80, none), (81, none), (82, none), (83, none), (84, none), (85, none), (86, none), (88, none), (90, none)] σ_26 σ_26 := fr.rf
          obtain ⟨x4_40, h⟩ := lt_ex h
          exact F.tr (ih _ _ h)
        exact F.tr (flX10_layBetween_149  C R hk205_39 _ _ _ h)
      rcases it_or h with ⟨hc, h⟩ | ⟨hc, h⟩
      · skip
        exact F.tr (hk147_37 _ h)
      · skip
        exact F.tr (hk147_37 _ h)
theorem flX10_layBetween_52 {rr : Sg} {x1_11 : Int32} {x2_18 : Int32} {k99_22 : Sg → Option Sg}  (C : True) (R : True) (hk99_22 : ∀ (σ_21 : Sg), k99_22 σ_21 = some rr → fr [(78, none), (80, none), (81, none), (82, none), (83, none), (84, none), (85, none), (86, none), (88, none), (90, none)] σ_21 rr) : ∀ (n : Nat) (x3_51 : Int32) (σ_52 : Sg), LX10_layBetween_52 x1_11 x2_18 k99_22 n x3_51 σ_52 = some rr → fr [(78, none), (80, none), (81, none), (82, none), (83, none), (84, none), (85, none), (86, none), (88, none), (90, none)] σ_52 rr := by
  intro n
  induction n with
  | zero =>
    intro x3_51 σ_52 h
    rw [LX10_layBetween_52] at h
    cases h
  | succ n ih =>
    intro x3_51 σ_52 h
    rw [LX10_layBetween_52] at h
    have F : fr [(78, none), (80, none), (81, none), (82, none), (83, none), (84, none), (85, none), (86, none), (88, none), (90, none)] σ_52 σ_52 := fr.rf
    obtain ⟨r_53, hq, h⟩ := b1_e h
    rcases it_or h with ⟨hc, h⟩ | ⟨hc, h⟩
    · skip
      exact F.tr (hk99_22 _ h)
    · skip
      refine jn (fun (kk : Int32 → Option Sg) => ∀ (s_54 : Int32), kk s_54 = some rr → fr [(78, none), (80, none), (81, none), (82, none), (83, none), (84, none), (85, none), (86, none), (88, none), (90, none)] σ_52 rr) h ?_ (fun k76_55 hk76_55 h => ?_)
      · intro s_54 h
        have F : fr [(78, none), (80, none), (81, none), (82, none), (83, none), (84, none), (85, none), (86, none), (88, none), (90, none)] σ_52 σ_52 := fr.rf
        obtain ⟨r_56, hq, h⟩ := b1_e h
        refine jn (fun (kk : Int32 → Option Sg) => ∀ (s_57 : Int32), kk s_57 = some rr → fr [(78, none), (80, none), (81, none), (82, none), (83, none), (84, none), (85, none), (86, none), (88, none), (90, none)] σ_52 rr) h ?_ (fun k91_58 hk91_58 h => ?_)
        · intro s_57 h
          have F : fr [(78, none), (80, none), (81, none), (82, none), (83, none), (84, none), (85, none), (86, none), (88, none), (90, none)] σ_52 σ_52 := fr.rf
          obtain ⟨hb_60, h⟩ := gd h
          obtain ⟨σ_59, f1, h⟩ := lt_up h
          replace F := F.tr (f1.mono (by simp))
          obtain ⟨x3_61, h⟩ := lt_ex h
          exact F.tr (ih _ _ h)
        rcases it_or h with ⟨hc, h⟩ | ⟨hc, h⟩
        · skip
          exact F.tr (hk91_58 _ h)
        · skip
          exact F.tr (hk91_58 _ h)
      rcases it_or h with ⟨hc, h⟩ | ⟨hc, h⟩
      · skip
        exact F.tr (hk76_55 _ h)
      · skip
        exact F.tr (hk76_55 _ h)
theorem flX10_layBetween_42 {rr : Sg} {x1_11 : Int32} {k231_16 : Sg → Option Sg}  (C : True) (R : True) (hk231_16 : ∀ (σ_15 : Sg), k231_16 σ_15 = some rr → fr [(78, none), (80, none), (81, none), (82, none), (83, none), (84, none), (85, none), (86, none), (88, none), (90, none)] σ_15 rr) : ∀ (n : Nat) (x2_18 : Int32) (σ_19 : Sg), LX10_layBetween_42 x1_11 k231_16 n x2_18 σ_19 = some rr → fr [(78, none), (80, none), (81, none), (82, none), (83, none), (84, none), (85, none), (86, none), (88, none), (90, none)] σ_19 rr := by
  intro n
  induction n with
  | zero =>
    intro x2_18 σ_19 h
    rw [LX10_layBetween_42] at h
    cases h
  | succ n ih =>
    intro x2_18 σ_19 h
    rw [LX10_layBetween_42] at h
    have F : fr [(78, none), (80, none), (81, none), (82, none), (83, none), (84, none), (85, none), (86, none), (88, none), (90, none)] σ_19 σ_19 := fr.rf
    obtain ⟨r_20, hq, h⟩ := b1_e h
    rcases it_or h with ⟨hc, h⟩ | ⟨hc, h⟩
    · skip
      exact F.tr (hk231_16 _ h)
    · skip
      refine jn (fun (kk : Sg → Option Sg) => ∀ (σ_21 : Sg), kk σ_21 = some rr → fr [(78, none), (80, none), (81, none), (82, none), (83, none), (84, none), (85, none), (86, none), (88, none), (90, none)] σ_21 rr) h ?_ (fun k99_22 hk99_22 h => ?_)
      · intro σ_21 h
        have F : fr [(78, none), (80, none), (81, none), (82, none), (83, none), (84, none), (85, none), (86, none), (88, none), (90, none)] σ_21 σ_21 := fr.rf
        obtain ⟨σ_23, hq, h⟩ := b1_e h
        replace F := F.tr ((frX10_runAll hq).mono (by simp))
        obtain ⟨r_24, hq, h⟩ := b1_e h
        refine jn (fun (kk : Int32 → Sg → Option Sg) => ∀ (s_25 : Int32) (σ_26 : Sg), kk s_25 σ_26 = some rr → fr [(78, none), (80, none), (81, none), (82, none), (83, none), (84, none), (85, none), (86, none), (88, none), (90, none)] σ_26 rr) h ?_ (fun k125_27 hk125_27 h => ?_)
        · intro s_25 σ_26 h
          have F : fr [(78, none), (80, none), (81, none), (82, none), (83, none), (84, none), (85, none), (86, none), (88, none), (90, none)] σ_26 σ_26 := fr.rf
          refine jn (fun (kk : Int32 → Option Sg) => ∀ (x3_28 : Int32), kk x3_28 = some rr → fr [(78, none), (80, none), (81, none), (82, none), (83, none), (84, none), (85, none), (86, none), (88, none), (90, none)] σ_26 rr) h ?_ (fun k211_29 hk211_29 h => ?_)
          · intro x3_28 h
            have F : fr [(78, none), (80, none), (81, none), (82, none), (83, none), (84, none), (85, none), (86, none), (88, none), (90, none)] σ_26 σ_26 := fr.rf
            obtain ⟨hb_31, h⟩ := gd h
            obtain ⟨σ_30, f1, h⟩ := lt_up h
            replace F := F.tr (f1.mono (by simp))
            obtain ⟨x2_32, h⟩ := lt_ex h
            exact F.tr (ih _ _ h)
          exact F.tr (flX10_layBetween_129  C R hk211_29 _ _ _ h)
        rcases it_or h with ⟨hc, h⟩ | ⟨hc, h⟩
        · skip
          exact F.tr (hk125_27 _ _ h)
        · skip
          obtain ⟨r_48, hq, h⟩ := b1_e h
          obtain ⟨r_49, σ_50, hq, h⟩ := b2_e h
          replace F := F.tr ((frX10_roundsCost hq).mono (by simp))
          exact F.tr (hk125_27 _ _ h)
      exact F.tr (flX10_layBetween_52  C R hk99_22 _ _ _ h)
theorem flX10_layBetween_30 {rr : Sg} {k237_4 : Sg → Option Sg}  (C : True) (R : True) (hk237_4 : ∀ (σ_3 : Sg), k237_4 σ_3 = some rr → fr [(78, none), (80, none), (81, none), (82, none), (83, none), (84, none), (85, none), (86, none), (88, none), (90, none)] σ_3 rr) : ∀ (n : Nat) (x1_11 : Int32) (σ_12 : Sg), LX10_layBetween_30 k237_4 n x1_11 σ_12 = some rr → fr [(78, none), (80, none), (81, none), (82, none), (83, none), (84, none), (85, none), (86, none), (88, none), (90, none)] σ_12 rr := by
  intro n
  induction n with
  | zero =>
    intro x1_11 σ_12 h
    rw [LX10_layBetween_30] at h
    cases h
  | succ n ih =>
    intro x1_11 σ_12 h
    rw [LX10_layBetween_30] at h
    have F : fr [(78, none), (80, none), (81, none), (82, none), (83, none), (84, none), (85, none), (86, none), (88, none), (90, none)] σ_12 σ_12 := fr.rf
    obtain ⟨r_13, hq, h⟩ := b1_e h
    rcases it_or h with ⟨hc, h⟩ | ⟨hc, h⟩
    · skip
      exact F.tr (hk237_4 _ h)
    · skip
      obtain ⟨x2_14, h⟩ := lt_ex h
      refine jn (fun (kk : Sg → Option Sg) => ∀ (σ_15 : Sg), kk σ_15 = some rr → fr [(78, none), (80, none), (81, none), (82, none), (83, none), (84, none), (85, none), (86, none), (88, none), (90, none)] σ_15 rr) h ?_ (fun k231_16 hk231_16 h => ?_)
      · intro σ_15 h
        have F : fr [(78, none), (80, none), (81, none), (82, none), (83, none), (84, none), (85, none), (86, none), (88, none), (90, none)] σ_15 σ_15 := fr.rf
        obtain ⟨x1_17, h⟩ := lt_ex h
        exact F.tr (ih _ _ h)
      exact F.tr (flX10_layBetween_42  C R hk231_16 _ _ _ h)
theorem flX10_layBetween_2 {rr : Sg} {k28_2 : Sg → Option Sg}  (C : True) (R : True) (hk28_2 : ∀ (σ_1 : Sg), k28_2 σ_1 = some rr → fr [(78, none), (80, none), (81, none), (82, none), (83, none), (84, none), (85, none), (86, none), (88, none), (90, none)] σ_1 rr) : ∀ (n : Nat) (x1_62 : Int32) (σ_63 : Sg), LX10_layBetween_2 k28_2 n x1_62 σ_63 = some rr → fr [(78, none), (80, none), (81, none), (82, none), (83, none), (84, none), (85, none), (86, none), (88, none), (90, none)] σ_63 rr := by
  intro n
  induction n with
  | zero =>
    intro x1_62 σ_63 h
    rw [LX10_layBetween_2] at h
    cases h
  | succ n ih =>
    intro x1_62 σ_63 h
    rw [LX10_layBetween_2] at h
    have F : fr [(78, none), (80, none), (81, none), (82, none), (83, none), (84, none), (85, none), (86, none), (88, none), (90, none)] σ_63 σ_63 := fr.rf
    obtain ⟨r_64, hq, h⟩ := b1_e h
    rcases it_or h with ⟨hc, h⟩ | ⟨hc, h⟩
    · skip
      exact F.tr (hk28_2 _ h)
    · skip
      obtain ⟨hb_65, h⟩ := gd h
      obtain ⟨σ_66, f1, h⟩ := lt_up h
      replace F := F.tr (f1.mono (by simp))
      obtain ⟨x1_67, h⟩ := lt_ex h
      exact F.tr (ih _ _ h)
theorem frX10_layBetween {σ : Sg} {rr : Sg} (h : XX10_layBetween σ = some rr) : fr [(78, none), (80, none), (81, none), (82, none), (83, none), (84, none), (85, none), (86, none), (88, none), (90, none)] σ rr := by
  have C := trivial
  have R := trivial
  have F : fr [(78, none), (80, none), (81, none), (82, none), (83, none), (84, none), (85, none), (86, none), (88, none), (90, none)] σ σ := fr.rf
  rw [XX10_layBetween] at h
  refine jn (fun (kk : Sg → Option Sg) => ∀ (σ_1 : Sg), kk σ_1 = some rr → fr [(78, none), (80, none), (81, none), (82, none), (83, none), (84, none), (85, none), (86, none), (88, none), (90, none)] σ_1 rr) h ?_ (fun k28_2 hk28_2 h => ?_)
  · intro σ_1 h
    have F : fr [(78, none), (80, none), (81, none), (82, none), (83, none), (84, none), (85, none), (86, none), (88, none), (90, none)] σ_1 σ_1 := fr.rf
    refine jn (fun (kk : Sg → Option Sg) => ∀ (σ_3 : Sg), kk σ_3 = some rr → fr [(78, none), (80, none), (81, none), (82, none), (83, none), (84, none), (85, none), (86, none), (88, none), (90, none)] σ_3 rr) h ?_ (fun k237_4 hk237_4 h => ?_)
    · intro σ_3 h
      have F : fr [(78, none), (80, none), (81, none), (82, none), (83, none), (84, none), (85, none), (86, none), (88, none), (90, none)] σ_3 σ_3 := fr.rf
      exact F.tr (flX10_layBetween_239  C R  _ _ _ h)
    exact F.tr (flX10_layBetween_30  C R hk237_4 _ _ _ h)
  exact F.tr (flX10_layBetween_2  C R hk28_2 _ _ _ h)
theorem flX10_joint_37 {rr : (Int32 × Sg)} {σ_4 : Sg} {k92_8 : Int32 → Int32 → Option (Int32 × Sg)}  (C : True) (R : True) (hk92_8 : ∀ (x2_6 : Int32) (x3_7 : Int32), k92_8 x2_6 x3_7 = some rr → fr [(64, some 0), (78, none), (79, none), (80, none), (81, none), (82, none), (83, none), (84, none), (85, none), (86, none), (88, none), (90, none)] σ_4 rr.2) : ∀ (n : Nat) (x2_9 : Int32) (x3_10 : Int32) (x4_11 : Int32), LX10_joint_37 σ_4 k92_8 n x2_9 x3_10 x4_11 = some rr → fr [(64, some 0), (78, none), (79, none), (80, none), (81, none), (82, none), (83, none), (84, none), (85, none), (86, none), (88, none), (90, none)] σ_4 rr.2 := by
  intro n
  induction n with
  | zero =>
    intro x2_9 x3_10 x4_11 h
    rw [LX10_joint_37] at h
    cases h
  | succ n ih =>
    intro x2_9 x3_10 x4_11 h
    rw [LX10_joint_37] at h
    have F : fr [(64, some 0), (78, none), (79, none), (80, none), (81, none), (82, none), (83, none), (84, none), (85, none), (86, none), (88, none), (90, none)] σ_4 σ_4 := fr.rf
    obtain ⟨r_12, hq, h⟩ := b1_e h
    rcases it_or h with ⟨hc, h⟩ | ⟨hc, h⟩
    · skip
      exact F.tr (hk92_8 _ _ h)
    · skip
      obtain ⟨r_13, hq, h⟩ := b1_e h
      refine jn (fun (kk : Int32 → Int32 → Option (Int32 × Sg)) => ∀ (x2_14 : Int32) (x3_15 : Int32), kk x2_14 x3_15 = some rr → fr [(64, some 0), (78, none), (79, none), (80, none), (81, none), (82, none), (83, none), (84, none), (85, none), (86, none), (88, none), (90, none)] σ_4 rr.2) h ?_ (fun k86_16 hk86_16 h => ?_)
      · intro x2_14 x3_15 h
        have F : fr [(64, some 0), (78, none), (79, none), (80, none), (81, none), (82, none), (83, none), (84, none), (85, none), (86, none), (88, none), (90, none)] σ_4 σ_4 := fr.rf
        obtain ⟨x4_17, h⟩ := lt_ex h
        exact F.tr (ih _ _ _ h)
      refine jn (fun (kk : Option (Int32 × Sg)) => kk = some rr → fr [(64, some 0), (78, none), (79, none), (80, none), (81, none), (82, none), (83, none), (84, none), (85, none), (86, none), (88, none), (90, none)] σ_4 rr.2) h ?_ (fun k80_18 hk80_18 h => ?_)
      · intro h
        have F : fr [(64, some 0), (78, none), (79, none), (80, none), (81, none), (82, none), (83, none), (84, none), (85, none), (86, none), (88, none), (90, none)] σ_4 σ_4 := fr.rf
        exact F.tr (hk86_16 _ _ h)
      rcases it_or h with ⟨hc, h⟩ | ⟨hc, h⟩
      · skip
        exact F.tr (hk80_18 h)
      · skip
        rcases ie_or h with ⟨hc, h⟩ | ⟨hc, h⟩
        · skip
          exact F.tr (hk86_16 _ _ h)
        · skip
          obtain ⟨r_19, hq, h⟩ := b1_e h
          obtain ⟨r_20, hq, h⟩ := b1_e h
          rcases it_or h with ⟨hc, h⟩ | ⟨hc, h⟩
          · skip
            exact F.tr (hk86_16 _ _ h)
          · skip
            exact F.tr (hk80_18 h)
theorem frX10_joint {p1 : Int32} {σ : Sg} {rr : (Int32 × Sg)} (h : XX10_joint p1 σ = some rr) : fr [(64, some 0), (78, none), (79, none), (80, none), (81, none), (82, none), (83, none), (84, none), (85, none), (86, none), (88, none), (90, none)] σ rr.2 := by
  have C := trivial
  have R := trivial
  have F : fr [(64, some 0), (78, none), (79, none), (80, none), (81, none), (82, none), (83, none), (84, none), (85, none), (86, none), (88, none), (90, none)] σ σ := fr.rf
  rw [XX10_joint] at h
  obtain ⟨σ_1, f1, h⟩ := lt_upf h
  replace F := F.tr (f1.mono (by simp))
  obtain ⟨r_2, hq, h⟩ := b1_e h
  rcases ie_or h with ⟨hc, h⟩ | ⟨hc, h⟩
  · skip
    obtain ⟨σ_3, hq, h⟩ := b1_e h
    replace F := F.tr ((frX10_layAsked hq).mono (by simp))
    obtain ⟨σ_4, hq, h⟩ := b1_e h
    replace F := F.tr ((frX10_layBetween hq).mono (by simp))
    obtain ⟨r_5, hq, h⟩ := b1_e h
    refine jn (fun (kk : Int32 → Int32 → Option (Int32 × Sg)) => ∀ (x2_6 : Int32) (x3_7 : Int32), kk x2_6 x3_7 = some rr → fr [(64, some 0), (78, none), (79, none), (80, none), (81, none), (82, none), (83, none), (84, none), (85, none), (86, none), (88, none), (90, none)] σ_4 rr.2) h ?_ (fun k92_8 hk92_8 h => ?_)
    · intro x2_6 x3_7 h
      have F : fr [(64, some 0), (78, none), (79, none), (80, none), (81, none), (82, none), (83, none), (84, none), (85, none), (86, none), (88, none), (90, none)] σ_4 σ_4 := fr.rf
      rcases ie_or h with ⟨hc, h⟩ | ⟨hc, h⟩
      · skip
        cases h
        exact F
      · skip
        cases h
        exact F
    exact F.tr (flX10_joint_37  C R hk92_8 _ _ _ _ h)
  · skip
    cases h
    exact F
theorem flX10_keep_51 {rr : Sg} {k83_4 : Sg → Option Sg}  (C : True) (R : True) (hk83_4 : ∀ (σ_3 : Sg), k83_4 σ_3 = some rr → fr [(64, some 39), (91, none)] σ_3 rr) : ∀ (n : Nat) (x1_9 : Int32) (σ_10 : Sg), LX10_keep_51 k83_4 n x1_9 σ_10 = some rr → fr [(64, some 39), (91, none)] σ_10 rr := by
  intro n
  induction n with
  | zero =>
    intro x1_9 σ_10 h
    rw [LX10_keep_51] at h
    cases h
  | succ n ih =>
    intro x1_9 σ_10 h
    rw [LX10_keep_51] at h
    have F : fr [(64, some 39), (91, none)] σ_10 σ_10 := fr.rf
    rcases it_or h with ⟨hc, h⟩ | ⟨hc, h⟩
    · skip
      exact F.tr (hk83_4 _ h)
    · skip
      obtain ⟨hb_11, h⟩ := gd h
      obtain ⟨hb_13, h⟩ := gd h
      obtain ⟨σ_12, f1, h⟩ := lt_up h
      replace F := F.tr (f1.mono (by simp))
      obtain ⟨x1_14, h⟩ := lt_ex h
      exact F.tr (ih _ _ h)
theorem flX10_keep_12 {rr : Sg} {k39_16 : Sg → Option Sg}  (C : True) (R : True) (hk39_16 : ∀ (σ_15 : Sg), k39_16 σ_15 = some rr → fr [(64, some 39), (91, none)] σ_15 rr) : ∀ (n : Nat) (x1_18 : Int32) (σ_19 : Sg), LX10_keep_12 k39_16 n x1_18 σ_19 = some rr → fr [(64, some 39), (91, none)] σ_19 rr := by
  intro n
  induction n with
  | zero =>
    intro x1_18 σ_19 h
    rw [LX10_keep_12] at h
    cases h
  | succ n ih =>
    intro x1_18 σ_19 h
    rw [LX10_keep_12] at h
    have F : fr [(64, some 39), (91, none)] σ_19 σ_19 := fr.rf
    rcases it_or h with ⟨hc, h⟩ | ⟨hc, h⟩
    · skip
      exact F.tr (hk39_16 _ h)
    · skip
      obtain ⟨hb_20, h⟩ := gd h
      obtain ⟨hb_22, h⟩ := gd h
      obtain ⟨σ_21, f1, h⟩ := lt_up h
      replace F := F.tr (f1.mono (by simp))
      obtain ⟨x1_23, h⟩ := lt_ex h
      exact F.tr (ih _ _ h)
theorem frX10_keep {σ : Sg} {rr : Sg} (h : XX10_keep σ = some rr) : fr [(64, some 39), (91, none)] σ rr := by
  have C := trivial
  have R := trivial
  have F : fr [(64, some 39), (91, none)] σ σ := fr.rf
  rw [XX10_keep] at h
  refine jn (fun (kk : Sg → Option Sg) => ∀ (σ_1 : Sg), kk σ_1 = some rr → fr [(64, some 39), (91, none)] σ_1 rr) h ?_ (fun k49_2 hk49_2 h => ?_)
  · intro σ_1 h
    have F : fr [(64, some 39), (91, none)] σ_1 σ_1 := fr.rf
    refine jn (fun (kk : Sg → Option Sg) => ∀ (σ_3 : Sg), kk σ_3 = some rr → fr [(64, some 39), (91, none)] σ_3 rr) h ?_ (fun k83_4 hk83_4 h => ?_)
    · intro σ_3 h
      have F : fr [(64, some 39), (91, none)] σ_3 σ_3 := fr.rf
      obtain ⟨r_5, hq, h⟩ := b1_e h
      obtain ⟨hb_7, h⟩ := gd h
      obtain ⟨σ_6, f1, h⟩ := lt_up h
      replace F := F.tr (f1.mono (by simp))
      obtain ⟨σ_8, f1, h⟩ := lt_upf h
      replace F := F.tr (f1.mono (by simp))
      cases h
      exact F
    exact F.tr (flX10_keep_51  C R hk83_4 _ _ _ h)
  rcases ie_or h with ⟨hc, h⟩ | ⟨hc, h⟩
  · skip
    exact F.tr (hk49_2 _ h)
  · skip
    refine jn (fun (kk : Sg → Option Sg) => ∀ (σ_15 : Sg), kk σ_15 = some rr → fr [(64, some 39), (91, none)] σ_15 rr) h ?_ (fun k39_16 hk39_16 h => ?_)
    · intro σ_15 h
      have F : fr [(64, some 39), (91, none)] σ_15 σ_15 := fr.rf
      obtain ⟨σ_17, f1, h⟩ := lt_upf h
      replace F := F.tr (f1.mono (by simp))
      exact F.tr (hk49_2 _ h)
    exact F.tr (flX10_keep_12  C R hk39_16 _ _ _ h)
theorem flX10_puts_2 {rr : Sg} {k34_2 : Sg → Option Sg}  (C : True) (R : True) (hk34_2 : ∀ (σ_1 : Sg), k34_2 σ_1 = some rr → fr [(65, none), (78, none)] σ_1 rr) : ∀ (n : Nat) (x1_5 : Int32) (σ_6 : Sg), LX10_puts_2 k34_2 n x1_5 σ_6 = some rr → fr [(65, none), (78, none)] σ_6 rr := by
  intro n
  induction n with
  | zero =>
    intro x1_5 σ_6 h
    rw [LX10_puts_2] at h
    cases h
  | succ n ih =>
    intro x1_5 σ_6 h
    rw [LX10_puts_2] at h
    have F : fr [(65, none), (78, none)] σ_6 σ_6 := fr.rf
    rcases it_or h with ⟨hc, h⟩ | ⟨hc, h⟩
    · skip
      exact F.tr (hk34_2 _ h)
    · skip
      obtain ⟨hb_7, h⟩ := gd h
      obtain ⟨hb_9, h⟩ := gd h
      obtain ⟨σ_8, f1, h⟩ := lt_up h
      replace F := F.tr (f1.mono (by simp))
      obtain ⟨x1_10, h⟩ := lt_ex h
      exact F.tr (ih _ _ h)
theorem frX10_puts {σ : Sg} {rr : Sg} (h : XX10_puts σ = some rr) : fr [(65, none), (78, none)] σ rr := by
  have C := trivial
  have R := trivial
  have F : fr [(65, none), (78, none)] σ σ := fr.rf
  rw [XX10_puts] at h
  refine jn (fun (kk : Sg → Option Sg) => ∀ (σ_1 : Sg), kk σ_1 = some rr → fr [(65, none), (78, none)] σ_1 rr) h ?_ (fun k34_2 hk34_2 h => ?_)
  · intro σ_1 h
    have F : fr [(65, none), (78, none)] σ_1 σ_1 := fr.rf
    obtain ⟨hb_3, h⟩ := gd h
    obtain ⟨σ_4, f1, h⟩ := lt_up h
    replace F := F.tr (f1.mono (by simp))
    cases h
    exact F
  exact F.tr (flX10_puts_2  C R hk34_2 _ _ _ h)
theorem frX10_undo {σ : Sg} {rr : (Int32 × Sg)} (h : XX10_undo σ = some rr) : fr [(64, some 0), (64, some 39), (65, none), (78, none)] σ rr.2 := by
  have C := trivial
  have R := trivial
  have F : fr [(64, some 0), (64, some 39), (65, none), (78, none)] σ σ := fr.rf
  rw [XX10_undo] at h
  obtain ⟨σ_1, f1, h⟩ := lt_upf h
  replace F := F.tr (f1.mono (by simp))
  rcases ie_or h with ⟨hc, h⟩ | ⟨hc, h⟩
  · skip
    obtain ⟨σ_2, f1, h⟩ := lt_upf h
    replace F := F.tr (f1.mono (by simp))
    obtain ⟨σ_3, hq, h⟩ := b1_e h
    replace F := F.tr ((frX10_puts hq).mono (by simp))
    cases h
    exact F
  · skip
    cases h
    exact F
theorem frX10_visit {p1 : Int32} {p2 : Int32} {σ : Sg} {rr : (Int32 × Sg)} (h : XX10_visit p1 p2 σ = some rr) : fr [(64, some 0), (64, some 39), (78, none), (91, none)] σ rr.2 := by
  have C := trivial
  have R := trivial
  have F : fr [(64, some 0), (64, some 39), (78, none), (91, none)] σ σ := fr.rf
  rw [XX10_visit] at h
  obtain ⟨σ_1, f1, h⟩ := lt_upf h
  replace F := F.tr (f1.mono (by simp))
  obtain ⟨r_2, hq, h⟩ := b1_e h
  rcases ie_or h with ⟨hc, h⟩ | ⟨hc, h⟩
  · skip
    obtain ⟨σ_3, hq, h⟩ := b1_e h
    replace F := F.tr ((frX10_keep hq).mono (by simp))
    obtain ⟨hb_4, h⟩ := gd h
    obtain ⟨σ_5, f1, h⟩ := lt_up h
    replace F := F.tr (f1.mono (by simp))
    cases h
    exact F
  · skip
    cases h
    exact F
theorem flX10_rule_117 {rr : (Int32 × Sg)} {p1 : Int32} {x2_10 : Int32} {x3_14 : Int32} {k171_17 : Sg → Option (Int32 × Sg)}  (C : True) (R : True) (hk171_17 : ∀ (σ_16 : Sg), k171_17 σ_16 = some rr → fr [(64, some 0), (64, some 39), (78, none), (79, none), (80, none), (81, none), (82, none), (91, none)] σ_16 rr.2) : ∀ (n : Nat) (x4_19 : Int32) (σ_20 : Sg), LX10_rule_117 p1 x2_10 x3_14 k171_17 n x4_19 σ_20 = some rr → fr [(64, some 0), (64, some 39), (78, none), (79, none), (80, none), (81, none), (82, none), (91, none)] σ_20 rr.2 := by
  intro n
  induction n with
  | zero =>
    intro x4_19 σ_20 h
    rw [LX10_rule_117] at h
    cases h
  | succ n ih =>
    intro x4_19 σ_20 h
    rw [LX10_rule_117] at h
    have F : fr [(64, some 0), (64, some 39), (78, none), (79, none), (80, none), (81, none), (82, none), (91, none)] σ_20 σ_20 := fr.rf
    obtain ⟨r_21, hq, h⟩ := b1_e h
    rcases it_or h with ⟨hc, h⟩ | ⟨hc, h⟩
    · skip
      exact F.tr (hk171_17 _ h)
    · skip
      rcases it_or h with ⟨hc, h⟩ | ⟨hc, h⟩
      · skip
        exact F.tr (hk171_17 _ h)
      · skip
        obtain ⟨hb_22, h⟩ := gd h
        obtain ⟨r_23, hq, h⟩ := b1_e h
        obtain ⟨r_24, hq, h⟩ := b1_e h
        refine jn (fun (kk : Int32 → Option (Int32 × Sg)) => ∀ (s_25 : Int32), kk s_25 = some rr → fr [(64, some 0), (64, some 39), (78, none), (79, none), (80, none), (81, none), (82, none), (91, none)] σ_20 rr.2) h ?_ (fun k163_26 hk163_26 h => ?_)
        · intro s_25 h
          have F : fr [(64, some 0), (64, some 39), (78, none), (79, none), (80, none), (81, none), (82, none), (91, none)] σ_20 σ_20 := fr.rf
          obtain ⟨σ_27, f1, h⟩ := lt_up h
          replace F := F.tr (f1.mono (by simp))
          obtain ⟨x4_28, h⟩ := lt_ex h
          exact F.tr (ih _ _ h)
        rcases it_or h with ⟨hc, h⟩ | ⟨hc, h⟩
        · skip
          exact F.tr (hk163_26 _ h)
        · skip
          exact F.tr (hk163_26 _ h)
theorem flX10_rule_69 {rr : (Int32 × Sg)} {x2_10 : Int32} {σ_13 : Sg} {k114_15 : Int32 → Option (Int32 × Sg)}  (C : True) (R : True) (hk114_15 : ∀ (x3_14 : Int32), k114_15 x3_14 = some rr → fr [(64, some 0), (64, some 39), (78, none), (79, none), (80, none), (81, none), (82, none), (91, none)] σ_13 rr.2) : ∀ (n : Nat) (x3_29 : Int32) (x4_30 : Int32), LX10_rule_69 x2_10 σ_13 k114_15 n x3_29 x4_30 = some rr → fr [(64, some 0), (64, some 39), (78, none), (79, none), (80, none), (81, none), (82, none), (91, none)] σ_13 rr.2 := by
  intro n
  induction n with
  | zero =>
    intro x3_29 x4_30 h
    rw [LX10_rule_69] at h
    cases h
  | succ n ih =>
    intro x3_29 x4_30 h
    rw [LX10_rule_69] at h
    have F : fr [(64, some 0), (64, some 39), (78, none), (79, none), (80, none), (81, none), (82, none), (91, none)] σ_13 σ_13 := fr.rf
    obtain ⟨r_31, hq, h⟩ := b1_e h
    rcases it_or h with ⟨hc, h⟩ | ⟨hc, h⟩
    · skip
      exact F.tr (hk114_15 _ h)
    · skip
      obtain ⟨r_32, hq, h⟩ := b1_e h
      obtain ⟨hb_33, h⟩ := gd h
      refine jn (fun (kk : Int32 → Option (Int32 × Sg)) => ∀ (s_34 : Int32), kk s_34 = some rr → fr [(64, some 0), (64, some 39), (78, none), (79, none), (80, none), (81, none), (82, none), (91, none)] σ_13 rr.2) h ?_ (fun k106_35 hk106_35 h => ?_)
      · intro s_34 h
        have F : fr [(64, some 0), (64, some 39), (78, none), (79, none), (80, none), (81, none), (82, none), (91, none)] σ_13 σ_13 := fr.rf
        obtain ⟨x3_36, h⟩ := lt_ex h
        obtain ⟨x4_37, h⟩ := lt_ex h
        exact F.tr (ih _ _ h)
      rcases it_or h with ⟨hc, h⟩ | ⟨hc, h⟩
      · skip
        exact F.tr (hk106_35 _ h)
      · skip
        exact F.tr (hk106_35 _ h)
theorem flX10_rule_52 {rr : (Int32 × Sg)} {p1 : Int32} {k177_8 : Sg → Option (Int32 × Sg)}  (C : True) (R : True) (hk177_8 : ∀ (σ_7 : Sg), k177_8 σ_7 = some rr → fr [(64, some 0), (64, some 39), (78, none), (79, none), (80, none), (81, none), (82, none), (91, none)] σ_7 rr.2) : ∀ (n : Nat) (x2_10 : Int32) (σ_11 : Sg), LX10_rule_52 p1 k177_8 n x2_10 σ_11 = some rr → fr [(64, some 0), (64, some 39), (78, none), (79, none), (80, none), (81, none), (82, none), (91, none)] σ_11 rr.2 := by
  intro n
  induction n with
  | zero =>
    intro x2_10 σ_11 h
    rw [LX10_rule_52] at h
    cases h
  | succ n ih =>
    intro x2_10 σ_11 h
    rw [LX10_rule_52] at h
    have F : fr [(64, some 0), (64, some 39), (78, none), (79, none), (80, none), (81, none), (82, none), (91, none)] σ_11 σ_11 := fr.rf
    obtain ⟨r_12, hq, h⟩ := b1_e h
    rcases it_or h with ⟨hc, h⟩ | ⟨hc, h⟩
    · skip
      exact F.tr (hk177_8 _ h)
    · skip
      obtain ⟨σ_13, hq, h⟩ := b1_e h
      replace F := F.tr ((frX10_runAll hq).mono (by simp))
      refine jn (fun (kk : Int32 → Option (Int32 × Sg)) => ∀ (x3_14 : Int32), kk x3_14 = some rr → fr [(64, some 0), (64, some 39), (78, none), (79, none), (80, none), (81, none), (82, none), (91, none)] σ_13 rr.2) h ?_ (fun k114_15 hk114_15 h => ?_)
      · intro x3_14 h
        have F : fr [(64, some 0), (64, some 39), (78, none), (79, none), (80, none), (81, none), (82, none), (91, none)] σ_13 σ_13 := fr.rf
        refine jn (fun (kk : Sg → Option (Int32 × Sg)) => ∀ (σ_16 : Sg), kk σ_16 = some rr → fr [(64, some 0), (64, some 39), (78, none), (79, none), (80, none), (81, none), (82, none), (91, none)] σ_16 rr.2) h ?_ (fun k171_17 hk171_17 h => ?_)
        · intro σ_16 h
          have F : fr [(64, some 0), (64, some 39), (78, none), (79, none), (80, none), (81, none), (82, none), (91, none)] σ_16 σ_16 := fr.rf
          obtain ⟨x2_18, h⟩ := lt_ex h
          exact F.tr (ih _ _ h)
        exact F.tr (flX10_rule_117  C R hk171_17 _ _ _ h)
      exact F.tr (flX10_rule_69  C R hk114_15 _ _ _ h)
theorem flX10_rule_29 {rr : (Int32 × Sg)} {k50_6 : Sg → Option (Int32 × Sg)}  (C : True) (R : True) (hk50_6 : ∀ (σ_5 : Sg), k50_6 σ_5 = some rr → fr [(64, some 0), (64, some 39), (78, none), (79, none), (80, none), (81, none), (82, none), (91, none)] σ_5 rr.2) : ∀ (n : Nat) (x2_38 : Int32) (σ_39 : Sg), LX10_rule_29 k50_6 n x2_38 σ_39 = some rr → fr [(64, some 0), (64, some 39), (78, none), (79, none), (80, none), (81, none), (82, none), (91, none)] σ_39 rr.2 := by
  intro n
  induction n with
  | zero =>
    intro x2_38 σ_39 h
    rw [LX10_rule_29] at h
    cases h
  | succ n ih =>
    intro x2_38 σ_39 h
    rw [LX10_rule_29] at h
    have F : fr [(64, some 0), (64, some 39), (78, none), (79, none), (80, none), (81, none), (82, none), (91, none)] σ_39 σ_39 := fr.rf
    obtain ⟨r_40, hq, h⟩ := b1_e h
    rcases it_or h with ⟨hc, h⟩ | ⟨hc, h⟩
    · skip
      exact F.tr (hk50_6 _ h)
    · skip
      obtain ⟨hb_42, h⟩ := gd h
      obtain ⟨σ_41, f1, h⟩ := lt_up h
      replace F := F.tr (f1.mono (by simp))
      obtain ⟨x2_43, h⟩ := lt_ex h
      exact F.tr (ih _ _ h)
theorem frX10_rule {p1 : Int32} {σ : Sg} {rr : (Int32 × Sg)} (h : XX10_rule p1 σ = some rr) : fr [(64, some 0), (64, some 39), (78, none), (79, none), (80, none), (81, none), (82, none), (91, none)] σ rr.2 := by
  have C := trivial
  have R := trivial
  have F : fr [(64, some 0), (64, some 39), (78, none), (79, none), (80, none), (81, none), (82, none), (91, none)] σ σ := fr.rf
  rw [XX10_rule] at h
  obtain ⟨σ_1, f1, h⟩ := lt_upf h
  replace F := F.tr (f1.mono (by simp))
  obtain ⟨r_2, hq, h⟩ := b1_e h
  rcases ie_or h with ⟨hc, h⟩ | ⟨hc, h⟩
  · skip
    obtain ⟨σ_3, hq, h⟩ := b1_e h
    replace F := F.tr ((frX10_keep hq).mono (by simp))
    obtain ⟨σ_4, hq, h⟩ := b1_e h
    replace F := F.tr ((frX10_layAsked hq).mono (by simp))
    refine jn (fun (kk : Sg → Option (Int32 × Sg)) => ∀ (σ_5 : Sg), kk σ_5 = some rr → fr [(64, some 0), (64, some 39), (78, none), (79, none), (80, none), (81, none), (82, none), (91, none)] σ_5 rr.2) h ?_ (fun k50_6 hk50_6 h => ?_)
    · intro σ_5 h
      have F : fr [(64, some 0), (64, some 39), (78, none), (79, none), (80, none), (81, none), (82, none), (91, none)] σ_5 σ_5 := fr.rf
      refine jn (fun (kk : Sg → Option (Int32 × Sg)) => ∀ (σ_7 : Sg), kk σ_7 = some rr → fr [(64, some 0), (64, some 39), (78, none), (79, none), (80, none), (81, none), (82, none), (91, none)] σ_7 rr.2) h ?_ (fun k177_8 hk177_8 h => ?_)
      · intro σ_7 h
        have F : fr [(64, some 0), (64, some 39), (78, none), (79, none), (80, none), (81, none), (82, none), (91, none)] σ_7 σ_7 := fr.rf
        obtain ⟨r_9, hq, h⟩ := b1_e h
        cases h
        exact F
      exact F.tr (flX10_rule_52  C R hk177_8 _ _ _ h)
    exact F.tr (flX10_rule_29  C R hk50_6 _ _ _ h)
  · skip
    cases h
    exact F
theorem frX10_helps {p1 : Int32} {p2 : Int32} {p3 : Int32} {σ : Sg} {rr : (Int32 × Sg)} (h : XX10_helps p1 p2 p3 σ = some rr) : fr [(78, none), (80, none), (81, none), (82, none), (83, none), (84, none), (85, none), (86, none)] σ rr.2 := by
  have C := trivial
  have R := trivial
  have F : fr [(78, none), (80, none), (81, none), (82, none), (83, none), (84, none), (85, none), (86, none)] σ σ := fr.rf
  rw [XX10_helps] at h
  obtain ⟨hb_1, h⟩ := gd h
  obtain ⟨σ_2, f1, h⟩ := lt_up h
  replace F := F.tr (f1.mono (by simp))
  obtain ⟨r_3, σ_4, hq, h⟩ := b2_e h
  replace F := F.tr ((frX10_costNow hq).mono (by simp))
  rcases it_or h with ⟨hc, h⟩ | ⟨hc, h⟩
  · skip
    obtain ⟨σ_5, f1, h⟩ := lt_up h
    replace F := F.tr (f1.mono (by simp))
    cases h
    exact F
  · skip
    cases h
    exact F
theorem flX10_moves_25 {rr : (Int32 × Sg)} {p1 : Int32} {x2_1 : Int32} {x3_7 : Int32} {k94_12 : Sg → Option (Int32 × Sg)}  (C : True) (R : True) (hk94_12 : ∀ (σ_11 : Sg), k94_12 σ_11 = some rr → fr [(78, none), (80, none), (81, none), (82, none), (83, none), (84, none), (85, none), (86, none)] σ_11 rr.2) : ∀ (n : Nat) (x4_14 : Int32) (σ_15 : Sg), LX10_moves_25 p1 x2_1 x3_7 k94_12 n x4_14 σ_15 = some rr → fr [(78, none), (80, none), (81, none), (82, none), (83, none), (84, none), (85, none), (86, none)] σ_15 rr.2 := by
  intro n
  induction n with
  | zero =>
    intro x4_14 σ_15 h
    rw [LX10_moves_25] at h
    cases h
  | succ n ih =>
    intro x4_14 σ_15 h
    rw [LX10_moves_25] at h
    have F : fr [(78, none), (80, none), (81, none), (82, none), (83, none), (84, none), (85, none), (86, none)] σ_15 σ_15 := fr.rf
    rcases it_or h with ⟨hc, h⟩ | ⟨hc, h⟩
    · skip
      exact F.tr (hk94_12 _ h)
    · skip
      obtain ⟨hb_16, h⟩ := gd h
      obtain ⟨r_17, hq, h⟩ := b1_e h
      refine jn (fun (kk : Sg → Option (Int32 × Sg)) => ∀ (σ_18 : Sg), kk σ_18 = some rr → fr [(78, none), (80, none), (81, none), (82, none), (83, none), (84, none), (85, none), (86, none)] σ_18 rr.2) h ?_ (fun k88_19 hk88_19 h => ?_)
      · intro σ_18 h
        have F : fr [(78, none), (80, none), (81, none), (82, none), (83, none), (84, none), (85, none), (86, none)] σ_18 σ_18 := fr.rf
        obtain ⟨x4_20, h⟩ := lt_ex h
        exact F.tr (ih _ _ h)
      rcases it_or h with ⟨hc, h⟩ | ⟨hc, h⟩
      · skip
        exact F.tr (hk88_19 _ h)
      · skip
        obtain ⟨r_21, hq, h⟩ := b1_e h
        rcases it_or h with ⟨hc, h⟩ | ⟨hc, h⟩
        · skip
          exact F.tr (hk88_19 _ h)
        · skip
          obtain ⟨r_22, hq, h⟩ := b1_e h
          rcases ie_or h with ⟨hc, h⟩ | ⟨hc, h⟩
          · skip
            exact F.tr (hk88_19 _ h)
          · skip
            obtain ⟨r_23, σ_24, hq, h⟩ := b2_e h
            replace F := F.tr ((frX10_helps hq).mono (by simp))
            rcases it_or h with ⟨hc, h⟩ | ⟨hc, h⟩
            · skip
              exact F.tr (hk88_19 _ h)
            · skip
              cases h
              exact F
theorem flX10_moves_12 {rr : (Int32 × Sg)} {p1 : Int32} {x2_1 : Int32} {k100_5 : Sg → Option (Int32 × Sg)}  (C : True) (R : True) (hk100_5 : ∀ (σ_4 : Sg), k100_5 σ_4 = some rr → fr [(78, none), (80, none), (81, none), (82, none), (83, none), (84, none), (85, none), (86, none)] σ_4 rr.2) : ∀ (n : Nat) (x3_7 : Int32) (σ_8 : Sg), LX10_moves_12 p1 x2_1 k100_5 n x3_7 σ_8 = some rr → fr [(78, none), (80, none), (81, none), (82, none), (83, none), (84, none), (85, none), (86, none)] σ_8 rr.2 := by
  intro n
  induction n with
  | zero =>
    intro x3_7 σ_8 h
    rw [LX10_moves_12] at h
    cases h
  | succ n ih =>
    intro x3_7 σ_8 h
    rw [LX10_moves_12] at h
    have F : fr [(78, none), (80, none), (81, none), (82, none), (83, none), (84, none), (85, none), (86, none)] σ_8 σ_8 := fr.rf
    obtain ⟨r_9, hq, h⟩ := b1_e h
    rcases it_or h with ⟨hc, h⟩ | ⟨hc, h⟩
    · skip
      exact F.tr (hk100_5 _ h)
    · skip
      obtain ⟨x4_10, h⟩ := lt_ex h
      refine jn (fun (kk : Sg → Option (Int32 × Sg)) => ∀ (σ_11 : Sg), kk σ_11 = some rr → fr [(78, none), (80, none), (81, none), (82, none), (83, none), (84, none), (85, none), (86, none)] σ_11 rr.2) h ?_ (fun k94_12 hk94_12 h => ?_)
      · intro σ_11 h
        have F : fr [(78, none), (80, none), (81, none), (82, none), (83, none), (84, none), (85, none), (86, none)] σ_11 σ_11 := fr.rf
        obtain ⟨x3_13, h⟩ := lt_ex h
        exact F.tr (ih _ _ h)
      exact F.tr (flX10_moves_25  C R hk94_12 _ _ _ h)
theorem flX10_moves_2 {rr : (Int32 × Sg)} {p1 : Int32}  (C : True) (R : True)  : ∀ (n : Nat) (x2_1 : Int32) (σ_2 : Sg), LX10_moves_2 p1 n x2_1 σ_2 = some rr → fr [(78, none), (80, none), (81, none), (82, none), (83, none), (84, none), (85, none), (86, none)] σ_2 rr.2 := by
  intro n
  induction n with
  | zero =>
    intro x2_1 σ_2 h
    rw [LX10_moves_2] at h
    cases h
  | succ n ih =>
    intro x2_1 σ_2 h
    rw [LX10_moves_2] at h
    have F : fr [(78, none), (80, none), (81, none), (82, none), (83, none), (84, none), (85, none), (86, none)] σ_2 σ_2 := fr.rf
    obtain ⟨r_3, hq, h⟩ := b1_e h
    rcases it_or h with ⟨hc, h⟩ | ⟨hc, h⟩
    · skip
      cases h
      exact F
    · skip
      refine jn (fun (kk : Sg → Option (Int32 × Sg)) => ∀ (σ_4 : Sg), kk σ_4 = some rr → fr [(78, none), (80, none), (81, none), (82, none), (83, none), (84, none), (85, none), (86, none)] σ_4 rr.2) h ?_ (fun k100_5 hk100_5 h => ?_)
      · intro σ_4 h
        have F : fr [(78, none), (80, none), (81, none), (82, none), (83, none), (84, none), (85, none), (86, none)] σ_4 σ_4 := fr.rf
        obtain ⟨x2_6, h⟩ := lt_ex h
        exact F.tr (ih _ _ h)
      exact F.tr (flX10_moves_12  C R hk100_5 _ _ _ h)
theorem frX10_moves {p1 : Int32} {σ : Sg} {rr : (Int32 × Sg)} (h : XX10_moves p1 σ = some rr) : fr [(78, none), (80, none), (81, none), (82, none), (83, none), (84, none), (85, none), (86, none)] σ rr.2 := by
  have C := trivial
  have R := trivial
  have F : fr [(78, none), (80, none), (81, none), (82, none), (83, none), (84, none), (85, none), (86, none)] σ σ := fr.rf
  rw [XX10_moves] at h
  exact F.tr (flX10_moves_2  C R  _ _ _ h)
theorem flX10_tunes_12 {rr : (Int32 × Sg)} {p1 : Int32} {x2_1 : Int32} {k40_5 : Sg → Option (Int32 × Sg)}  (C : True) (R : True) (hk40_5 : ∀ (σ_4 : Sg), k40_5 σ_4 = some rr → fr [(78, none), (80, none), (81, none), (82, none), (83, none), (84, none), (85, none), (86, none)] σ_4 rr.2) : ∀ (n : Nat) (x3_7 : Int32) (σ_8 : Sg), LX10_tunes_12 p1 x2_1 k40_5 n x3_7 σ_8 = some rr → fr [(78, none), (80, none), (81, none), (82, none), (83, none), (84, none), (85, none), (86, none)] σ_8 rr.2 := by
  intro n
  induction n with
  | zero =>
    intro x3_7 σ_8 h
    rw [LX10_tunes_12] at h
    cases h
  | succ n ih =>
    intro x3_7 σ_8 h
    rw [LX10_tunes_12] at h
    have F : fr [(78, none), (80, none), (81, none), (82, none), (83, none), (84, none), (85, none), (86, none)] σ_8 σ_8 := fr.rf
    obtain ⟨r_9, hq, h⟩ := b1_e h
    rcases it_or h with ⟨hc, h⟩ | ⟨hc, h⟩
    · skip
      exact F.tr (hk40_5 _ h)
    · skip
      obtain ⟨r_10, σ_11, hq, h⟩ := b2_e h
      replace F := F.tr ((frX10_helps hq).mono (by simp))
      rcases it_or h with ⟨hc, h⟩ | ⟨hc, h⟩
      · skip
        obtain ⟨x3_12, h⟩ := lt_ex h
        exact F.tr (ih _ _ h)
      · skip
        cases h
        exact F
theorem flX10_tunes_2 {rr : (Int32 × Sg)} {p1 : Int32}  (C : True) (R : True)  : ∀ (n : Nat) (x2_1 : Int32) (σ_2 : Sg), LX10_tunes_2 p1 n x2_1 σ_2 = some rr → fr [(78, none), (80, none), (81, none), (82, none), (83, none), (84, none), (85, none), (86, none)] σ_2 rr.2 := by
  intro n
  induction n with
  | zero =>
    intro x2_1 σ_2 h
    rw [LX10_tunes_2] at h
    cases h
  | succ n ih =>
    intro x2_1 σ_2 h
    rw [LX10_tunes_2] at h
    have F : fr [(78, none), (80, none), (81, none), (82, none), (83, none), (84, none), (85, none), (86, none)] σ_2 σ_2 := fr.rf
    obtain ⟨r_3, hq, h⟩ := b1_e h
    rcases it_or h with ⟨hc, h⟩ | ⟨hc, h⟩
    · skip
      cases h
      exact F
    · skip
      refine jn (fun (kk : Sg → Option (Int32 × Sg)) => ∀ (σ_4 : Sg), kk σ_4 = some rr → fr [(78, none), (80, none), (81, none), (82, none), (83, none), (84, none), (85, none), (86, none)] σ_4 rr.2) h ?_ (fun k40_5 hk40_5 h => ?_)
      · intro σ_4 h
        have F : fr [(78, none), (80, none), (81, none), (82, none), (83, none), (84, none), (85, none), (86, none)] σ_4 σ_4 := fr.rf
        obtain ⟨x2_6, h⟩ := lt_ex h
        exact F.tr (ih _ _ h)
      exact F.tr (flX10_tunes_12  C R hk40_5 _ _ _ h)
theorem frX10_tunes {p1 : Int32} {σ : Sg} {rr : (Int32 × Sg)} (h : XX10_tunes p1 σ = some rr) : fr [(78, none), (80, none), (81, none), (82, none), (83, none), (84, none), (85, none), (86, none)] σ rr.2 := by
  have C := trivial
  have R := trivial
  have F : fr [(78, none), (80, none), (81, none), (82, none), (83, none), (84, none), (85, none), (86, none)] σ σ := fr.rf
  rw [XX10_tunes] at h
  exact F.tr (flX10_tunes_2  C R  _ _ _ h)
theorem flX10_betters_27 {rr : (Int32 × Sg)} {p1 : Int32} {p2 : Int32}  (C : True) (R : True)  : ∀ (n : Nat) (x3_4 : Int32) (x4_5 : Int32) (σ_6 : Sg), LX10_betters_27 p1 p2 n x3_4 x4_5 σ_6 = some rr → fr [(64, some 39), (78, none), (79, none), (80, none), (81, none), (82, none), (83, none), (84, none), (85, none), (86, none), (91, none)] σ_6 rr.2 := by
  intro n
  induction n with
  | zero =>
    intro x3_4 x4_5 σ_6 h
    rw [LX10_betters_27] at h
    cases h
  | succ n ih =>
    intro x3_4 x4_5 σ_6 h
    rw [LX10_betters_27] at h
    have F : fr [(64, some 39), (78, none), (79, none), (80, none), (81, none), (82, none), (83, none), (84, none), (85, none), (86, none), (91, none)] σ_6 σ_6 := fr.rf
    rcases it_or h with ⟨hc, h⟩ | ⟨hc, h⟩
    · skip
      cases h
      exact F
    · skip
      rcases it_or h with ⟨hc, h⟩ | ⟨hc, h⟩
      · skip
        cases h
        exact F
      · skip
        obtain ⟨r_7, σ_8, hq, h⟩ := b2_e h
        replace F := F.tr ((frX10_costNow hq).mono (by simp))
        refine jn (fun (kk : Int32 → Sg → Option (Int32 × Sg)) => ∀ (s_9 : Int32) (σ_10 : Sg), kk s_9 σ_10 = some rr → fr [(64, some 39), (78, none), (79, none), (80, none), (81, none), (82, none), (83, none), (84, none), (85, none), (86, none), (91, none)] σ_10 rr.2) h ?_ (fun k62_11 hk62_11 h => ?_)
        · intro s_9 σ_10 h
          have F : fr [(64, some 39), (78, none), (79, none), (80, none), (81, none), (82, none), (83, none), (84, none), (85, none), (86, none), (91, none)] σ_10 σ_10 := fr.rf
          refine jn (fun (kk : Int32 → Option (Int32 × Sg)) => ∀ (s_12 : Int32), kk s_12 = some rr → fr [(64, some 39), (78, none), (79, none), (80, none), (81, none), (82, none), (83, none), (84, none), (85, none), (86, none), (91, none)] σ_10 rr.2) h ?_ (fun k75_13 hk75_13 h => ?_)
          · intro s_12 h
            have F : fr [(64, some 39), (78, none), (79, none), (80, none), (81, none), (82, none), (83, none), (84, none), (85, none), (86, none), (91, none)] σ_10 σ_10 := fr.rf
            obtain ⟨x3_14, h⟩ := lt_ex h
            exact F.tr (ih _ _ _ h)
          rcases it_or h with ⟨hc, h⟩ | ⟨hc, h⟩
          · skip
            exact F.tr (hk75_13 _ h)
          · skip
            exact F.tr (hk75_13 _ h)
        rcases it_or h with ⟨hc, h⟩ | ⟨hc, h⟩
        · skip
          obtain ⟨r_15, σ_16, hq, h⟩ := b2_e h
          replace F := F.tr ((frX10_tunes hq).mono (by simp))
          exact F.tr (hk62_11 _ _ h)
        · skip
          obtain ⟨r_17, σ_18, hq, h⟩ := b2_e h
          replace F := F.tr ((frX10_moves hq).mono (by simp))
          exact F.tr (hk62_11 _ _ h)
theorem frX10_betters {p1 : Int32} {p2 : Int32} {σ : Sg} {rr : (Int32 × Sg)} (h : XX10_betters p1 p2 σ = some rr) : fr [(64, some 39), (78, none), (79, none), (80, none), (81, none), (82, none), (83, none), (84, none), (85, none), (86, none), (91, none)] σ rr.2 := by
  have C := trivial
  have R := trivial
  have F : fr [(64, some 39), (78, none), (79, none), (80, none), (81, none), (82, none), (83, none), (84, none), (85, none), (86, none), (91, none)] σ σ := fr.rf
  rw [XX10_betters] at h
  obtain ⟨r_1, hq, h⟩ := b1_e h
  rcases ie_or h with ⟨hc, h⟩ | ⟨hc, h⟩
  · skip
    obtain ⟨σ_2, hq, h⟩ := b1_e h
    replace F := F.tr ((frX10_layAsked hq).mono (by simp))
    obtain ⟨σ_3, hq, h⟩ := b1_e h
    replace F := F.tr ((frX10_keep hq).mono (by simp))
    exact F.tr (flX10_betters_27  C R  _ _ _ _ h)
  · skip
    cases h
    exact F
theorem flX10_wouldChange_58 {rr : (Int32 × Sg)} {s_6 : Int32}  (C : True) (R : True)  : ∀ (n : Nat) (x4_9 : Int32) (σ_10 : Sg), LX10_wouldChange_58 s_6 n x4_9 σ_10 = some rr → fr [(78, none), (79, none), (80, none), (81, none), (82, none), (83, none), (84, none), (85, none), (86, none), (90, none)] σ_10 rr.2 := by
  intro n
  induction n with
  | zero =>
    intro x4_9 σ_10 h
    rw [LX10_wouldChange_58] at h
    cases h
  | succ n ih =>
    intro x4_9 σ_10 h
    rw [LX10_wouldChange_58] at h
    have F : fr [(78, none), (79, none), (80, none), (81, none), (82, none), (83, none), (84, none), (85, none), (86, none), (90, none)] σ_10 σ_10 := fr.rf
    rcases it_or h with ⟨hc, h⟩ | ⟨hc, h⟩
    · skip
      obtain ⟨hn_11, h⟩ := gd h
      cases h
      exact F
    · skip
      obtain ⟨hb_12, h⟩ := gd h
      obtain ⟨σ_13, f1, h⟩ := lt_up h
      replace F := F.tr (f1.mono (by simp))
      obtain ⟨x4_14, h⟩ := lt_ex h
      exact F.tr (ih _ _ h)
theorem flX10_wouldChange_2 {rr : (Int32 × Sg)} {k26_2 : Sg → Option (Int32 × Sg)}  (C : True) (R : True) (hk26_2 : ∀ (σ_1 : Sg), k26_2 σ_1 = some rr → fr [(78, none), (79, none), (80, none), (81, none), (82, none), (83, none), (84, none), (85, none), (86, none), (90, none)] σ_1 rr.2) : ∀ (n : Nat) (x2_19 : Int32) (σ_20 : Sg), LX10_wouldChange_2 k26_2 n x2_19 σ_20 = some rr → fr [(78, none), (79, none), (80, none), (81, none), (82, none), (83, none), (84, none), (85, none), (86, none), (90, none)] σ_20 rr.2 := by
  intro n
  induction n with
  | zero =>
    intro x2_19 σ_20 h
    rw [LX10_wouldChange_2] at h
    cases h
  | succ n ih =>
    intro x2_19 σ_20 h
    rw [LX10_wouldChange_2] at h
    have F : fr [(78, none), (79, none), (80, none), (81, none), (82, none), (83, none), (84, none), (85, none), (86, none), (90, none)] σ_20 σ_20 := fr.rf
    rcases it_or h with ⟨hc, h⟩ | ⟨hc, h⟩
    · skip
      exact F.tr (hk26_2 _ h)
    · skip
      obtain ⟨hb_21, h⟩ := gd h
      obtain ⟨σ_22, f1, h⟩ := lt_up h
      replace F := F.tr (f1.mono (by simp))
      obtain ⟨x2_23, h⟩ := lt_ex h
      exact F.tr (ih _ _ h)
theorem frX10_wouldChange {p1 : Int32} {σ : Sg} {rr : (Int32 × Sg)} (h : XX10_wouldChange p1 σ = some rr) : fr [(78, none), (79, none), (80, none), (81, none), (82, none), (83, none), (84, none), (85, none), (86, none), (90, none)] σ rr.2 := by
  have C := trivial
  have R := trivial
  have F : fr [(78, none), (79, none), (80, none), (81, none), (82, none), (83, none), (84, none), (85, none), (86, none), (90, none)] σ σ := fr.rf
  rw [XX10_wouldChange] at h
  refine jn (fun (kk : Sg → Option (Int32 × Sg)) => ∀ (σ_1 : Sg), kk σ_1 = some rr → fr [(78, none), (79, none), (80, none), (81, none), (82, none), (83, none), (84, none), (85, none), (86, none), (90, none)] σ_1 rr.2) h ?_ (fun k26_2 hk26_2 h => ?_)
  · intro σ_1 h
    have F : fr [(78, none), (79, none), (80, none), (81, none), (82, none), (83, none), (84, none), (85, none), (86, none), (90, none)] σ_1 σ_1 := fr.rf
    obtain ⟨σ_3, hq, h⟩ := b1_e h
    replace F := F.tr ((frX10_layAsked hq).mono (by simp))
    obtain ⟨r_4, σ_5, hq, h⟩ := b2_e h
    replace F := F.tr ((frX10_costNow hq).mono (by simp))
    refine jn (fun (kk : Int32 → Sg → Option (Int32 × Sg)) => ∀ (s_6 : Int32) (σ_7 : Sg), kk s_6 σ_7 = some rr → fr [(78, none), (79, none), (80, none), (81, none), (82, none), (83, none), (84, none), (85, none), (86, none), (90, none)] σ_7 rr.2) h ?_ (fun k54_8 hk54_8 h => ?_)
    · intro s_6 σ_7 h
      have F : fr [(78, none), (79, none), (80, none), (81, none), (82, none), (83, none), (84, none), (85, none), (86, none), (90, none)] σ_7 σ_7 := fr.rf
      exact F.tr (flX10_wouldChange_58  C R  _ _ _ h)
    rcases it_or h with ⟨hc, h⟩ | ⟨hc, h⟩
    · skip
      obtain ⟨r_15, σ_16, hq, h⟩ := b2_e h
      replace F := F.tr ((frX10_tunes hq).mono (by simp))
      exact F.tr (hk54_8 _ _ h)
    · skip
      obtain ⟨r_17, σ_18, hq, h⟩ := b2_e h
      replace F := F.tr ((frX10_moves hq).mono (by simp))
      exact F.tr (hk54_8 _ _ h)
  exact F.tr (flX10_wouldChange_2  C R hk26_2 _ _ _ h)
theorem frX10_better {p1 : Int32} {σ : Sg} {rr : (Int32 × Sg)} (h : XX10_better p1 σ = some rr) : fr [(64, some 0), (64, some 39), (78, none), (79, none), (80, none), (81, none), (82, none), (83, none), (84, none), (85, none), (86, none), (90, none), (91, none)] σ rr.2 := by
  have C := trivial
  have R := trivial
  have F : fr [(64, some 0), (64, some 39), (78, none), (79, none), (80, none), (81, none), (82, none), (83, none), (84, none), (85, none), (86, none), (90, none), (91, none)] σ σ := fr.rf
  rw [XX10_better] at h
  obtain ⟨σ_1, f1, h⟩ := lt_upf h
  replace F := F.tr (f1.mono (by simp))
  obtain ⟨r_2, hq, h⟩ := b1_e h
  refine jn (fun (kk : Sg → Option (Int32 × Sg)) => ∀ (σ_3 : Sg), kk σ_3 = some rr → fr [(64, some 0), (64, some 39), (78, none), (79, none), (80, none), (81, none), (82, none), (83, none), (84, none), (85, none), (86, none), (90, none), (91, none)] σ_3 rr.2) h ?_ (fun k23_4 hk23_4 h => ?_)
  · intro σ_3 h
    have F : fr [(64, some 0), (64, some 39), (78, none), (79, none), (80, none), (81, none), (82, none), (83, none), (84, none), (85, none), (86, none), (90, none), (91, none)] σ_3 σ_3 := fr.rf
    obtain ⟨r_5, hq, h⟩ := b1_e h
    rcases it_or h with ⟨hc, h⟩ | ⟨hc, h⟩
    · skip
      cases h
      exact F
    · skip
      cases h
      exact F
  rcases it_or h with ⟨hc, h⟩ | ⟨hc, h⟩
  · skip
    exact F.tr (hk23_4 _ h)
  · skip
    obtain ⟨r_6, σ_7, hq, h⟩ := b2_e h
    replace F := F.tr ((frX10_wouldChange hq).mono (by simp))
    rcases ie_or h with ⟨hc, h⟩ | ⟨hc, h⟩
    · skip
      obtain ⟨r_8, σ_9, hq, h⟩ := b2_e h
      replace F := F.tr ((frX10_betters hq).mono (by simp))
      cases h
      exact F
    · skip
      exact F.tr (hk23_4 _ h)
theorem frX10_tune {p1 : Int32} {σ : Sg} {rr : (Int32 × Sg)} (h : XX10_tune p1 σ = some rr) : fr [(64, some 0), (64, some 39), (78, none), (79, none), (80, none), (81, none), (82, none), (83, none), (84, none), (85, none), (86, none), (90, none), (91, none)] σ rr.2 := by
  have C := trivial
  have R := trivial
  have F : fr [(64, some 0), (64, some 39), (78, none), (79, none), (80, none), (81, none), (82, none), (83, none), (84, none), (85, none), (86, none), (90, none), (91, none)] σ σ := fr.rf
  rw [XX10_tune] at h
  obtain ⟨σ_1, f1, h⟩ := lt_upf h
  replace F := F.tr (f1.mono (by simp))
  obtain ⟨r_2, hq, h⟩ := b1_e h
  refine jn (fun (kk : Sg → Option (Int32 × Sg)) => ∀ (σ_3 : Sg), kk σ_3 = some rr → fr [(64, some 0), (64, some 39), (78, none), (79, none), (80, none), (81, none), (82, none), (83, none), (84, none), (85, none), (86, none), (90, none), (91, none)] σ_3 rr.2) h ?_ (fun k23_4 hk23_4 h => ?_)
  · intro σ_3 h
    have F : fr [(64, some 0), (64, some 39), (78, none), (79, none), (80, none), (81, none), (82, none), (83, none), (84, none), (85, none), (86, none), (90, none), (91, none)] σ_3 σ_3 := fr.rf
    obtain ⟨r_5, hq, h⟩ := b1_e h
    rcases it_or h with ⟨hc, h⟩ | ⟨hc, h⟩
    · skip
      cases h
      exact F
    · skip
      cases h
      exact F
  rcases it_or h with ⟨hc, h⟩ | ⟨hc, h⟩
  · skip
    exact F.tr (hk23_4 _ h)
  · skip
    obtain ⟨r_6, σ_7, hq, h⟩ := b2_e h
    replace F := F.tr ((frX10_wouldChange hq).mono (by simp))
    rcases ie_or h with ⟨hc, h⟩ | ⟨hc, h⟩
    · skip
      obtain ⟨r_8, σ_9, hq, h⟩ := b2_e h
      replace F := F.tr ((frX10_betters hq).mono (by simp))
      cases h
      exact F
    · skip
      exact F.tr (hk23_4 _ h)
theorem flX10_plan_2 {rr : Sg} {p1 : Int32}  (C : True) (R : True)  : ∀ (n : Nat) (x2_1 : Int32) (σ_2 : Sg), LX10_plan_2 p1 n x2_1 σ_2 = some rr → fr [(78, none)] σ_2 rr := by
  intro n
  induction n with
  | zero =>
    intro x2_1 σ_2 h
    rw [LX10_plan_2] at h
    cases h
  | succ n ih =>
    intro x2_1 σ_2 h
    rw [LX10_plan_2] at h
    have F : fr [(78, none)] σ_2 σ_2 := fr.rf
    obtain ⟨r_3, hq, h⟩ := b1_e h
    rcases it_or h with ⟨hc, h⟩ | ⟨hc, h⟩
    · skip
      cases h
      exact F
    · skip
      obtain ⟨r_4, hq, h⟩ := b1_e h
      obtain ⟨r_5, hq, h⟩ := b1_e h
      obtain ⟨hb_7, h⟩ := gd h
      obtain ⟨σ_6, f1, h⟩ := lt_up h
      replace F := F.tr (f1.mono (by simp))
      obtain ⟨x2_8, h⟩ := lt_ex h
      exact F.tr (ih _ _ h)
theorem frX10_plan {p1 : Int32} {σ : Sg} {rr : Sg} (h : XX10_plan p1 σ = some rr) : fr [(78, none)] σ rr := by
  have C := trivial
  have R := trivial
  have F : fr [(78, none)] σ σ := fr.rf
  rw [XX10_plan] at h
  exact F.tr (flX10_plan_2  C R  _ _ _ h)
theorem flX10_least_37 {rr : (Int32 × Sg)} {k101_9 : Int32 → Int32 → Sg → Option (Int32 × Sg)}  (C : True) (R : True) (hk101_9 : ∀ (x1_6 : Int32) (x2_7 : Int32) (σ_8 : Sg), k101_9 x1_6 x2_7 σ_8 = some rr → fr [(64, some 0), (64, some 39), (78, none), (79, none), (80, none), (81, none), (82, none), (83, none), (84, none), (85, none), (86, none), (91, none)] σ_8 rr.2) : ∀ (n : Nat) (x1_11 : Int32) (x2_12 : Int32) (x3_13 : Int32) (σ_14 : Sg), LX10_least_37 k101_9 n x1_11 x2_12 x3_13 σ_14 = some rr → fr [(64, some 0), (64, some 39), (78, none), (79, none), (80, none), (81, none), (82, none), (83, none), (84, none), (85, none), (86, none), (91, none)] σ_14 rr.2 := by
  intro n
  induction n with
  | zero =>
    intro x1_11 x2_12 x3_13 σ_14 h
    rw [LX10_least_37] at h
    cases h
  | succ n ih =>
    intro x1_11 x2_12 x3_13 σ_14 h
    rw [LX10_least_37] at h
    have F : fr [(64, some 0), (64, some 39), (78, none), (79, none), (80, none), (81, none), (82, none), (83, none), (84, none), (85, none), (86, none), (91, none)] σ_14 σ_14 := fr.rf
    obtain ⟨r_15, hq, h⟩ := b1_e h
    obtain ⟨r_16, hq, h⟩ := b1_e h
    rcases it_or h with ⟨hc, h⟩ | ⟨hc, h⟩
    · skip
      exact F.tr (hk101_9 _ _ _ h)
    · skip
      obtain ⟨σ_17, hq, h⟩ := b1_e h
      replace F := F.tr ((frX10_plan hq).mono (by simp))
      obtain ⟨r_18, σ_19, hq, h⟩ := b2_e h
      replace F := F.tr ((frX10_costNow hq).mono (by simp))
      refine jn (fun (kk : Int32 → Int32 → Option (Int32 × Sg)) => ∀ (x1_20 : Int32) (x2_21 : Int32), kk x1_20 x2_21 = some rr → fr [(64, some 0), (64, some 39), (78, none), (79, none), (80, none), (81, none), (82, none), (83, none), (84, none), (85, none), (86, none), (91, none)] σ_19 rr.2) h ?_ (fun k95_22 hk95_22 h => ?_)
      · intro x1_20 x2_21 h
        have F : fr [(64, some 0), (64, some 39), (78, none), (79, none), (80, none), (81, none), (82, none), (83, none), (84, none), (85, none), (86, none), (91, none)] σ_19 σ_19 := fr.rf
        obtain ⟨x3_23, h⟩ := lt_ex h
        exact F.tr (ih _ _ _ _ h)
      refine jn (fun (kk : Option (Int32 × Sg)) => kk = some rr → fr [(64, some 0), (64, some 39), (78, none), (79, none), (80, none), (81, none), (82, none), (83, none), (84, none), (85, none), (86, none), (91, none)] σ_19 rr.2) h ?_ (fun k90_24 hk90_24 h => ?_)
      · intro h
        have F : fr [(64, some 0), (64, some 39), (78, none), (79, none), (80, none), (81, none), (82, none), (83, none), (84, none), (85, none), (86, none), (91, none)] σ_19 σ_19 := fr.rf
        exact F.tr (hk95_22 _ _ h)
      rcases it_or h with ⟨hc, h⟩ | ⟨hc, h⟩
      · skip
        exact F.tr (hk90_24 h)
      · skip
        rcases it_or h with ⟨hc, h⟩ | ⟨hc, h⟩
        · skip
          exact F.tr (hk90_24 h)
        · skip
          rcases ie_or h with ⟨hc, h⟩ | ⟨hc, h⟩
          · skip
            exact F.tr (hk95_22 _ _ h)
          · skip
            obtain ⟨r_25, hq, h⟩ := b1_e h
            obtain ⟨r_26, hq, h⟩ := b1_e h
            rcases it_or h with ⟨hc, h⟩ | ⟨hc, h⟩
            · skip
              exact F.tr (hk95_22 _ _ h)
            · skip
              exact F.tr (hk90_24 h)
theorem frX10_least {σ : Sg} {rr : (Int32 × Sg)} (h : XX10_least σ = some rr) : fr [(64, some 0), (64, some 39), (78, none), (79, none), (80, none), (81, none), (82, none), (83, none), (84, none), (85, none), (86, none), (91, none)] σ rr.2 := by
  have C := trivial
  have R := trivial
  have F : fr [(64, some 0), (64, some 39), (78, none), (79, none), (80, none), (81, none), (82, none), (83, none), (84, none), (85, none), (86, none), (91, none)] σ σ := fr.rf
  rw [XX10_least] at h
  obtain ⟨σ_1, f1, h⟩ := lt_upf h
  replace F := F.tr (f1.mono (by simp))
  obtain ⟨r_2, hq, h⟩ := b1_e h
  obtain ⟨r_3, hq, h⟩ := b1_e h
  rcases it_or h with ⟨hc, h⟩ | ⟨hc, h⟩
  · skip
    obtain ⟨σ_4, hq, h⟩ := b1_e h
    replace F := F.tr ((frX10_keep hq).mono (by simp))
    obtain ⟨σ_5, hq, h⟩ := b1_e h
    replace F := F.tr ((frX10_layAsked hq).mono (by simp))
    refine jn (fun (kk : Int32 → Int32 → Sg → Option (Int32 × Sg)) => ∀ (x1_6 : Int32) (x2_7 : Int32) (σ_8 : Sg), kk x1_6 x2_7 σ_8 = some rr → fr [(64, some 0), (64, some 39), (78, none), (79, none), (80, none), (81, none), (82, none), (83, none), (84, none), (85, none), (86, none), (91, none)] σ_8 rr.2) h ?_ (fun k101_9 hk101_9 h => ?_)
    · intro x1_6 x2_7 σ_8 h
      have F : fr [(64, some 0), (64, some 39), (78, none), (79, none), (80, none), (81, none), (82, none), (83, none), (84, none), (85, none), (86, none), (91, none)] σ_8 σ_8 := fr.rf
      obtain ⟨σ_10, hq, h⟩ := b1_e h
      replace F := F.tr ((frX10_plan hq).mono (by simp))
      cases h
      exact F
    exact F.tr (flX10_least_37  C R hk101_9 _ _ _ _ _ h)
  · skip
    cases h
    exact F
theorem flX10_clear_22 {rr : (Int32 × Sg)} {r_2 : Int32}  (C : True) (R : True)  : ∀ (n : Nat) (x2_4 : Int32) (σ_5 : Sg), LX10_clear_22 r_2 n x2_4 σ_5 = some rr → fr [(64, some 0), (64, some 39), (78, none), (91, none)] σ_5 rr.2 := by
  intro n
  induction n with
  | zero =>
    intro x2_4 σ_5 h
    rw [LX10_clear_22] at h
    cases h
  | succ n ih =>
    intro x2_4 σ_5 h
    rw [LX10_clear_22] at h
    have F : fr [(64, some 0), (64, some 39), (78, none), (91, none)] σ_5 σ_5 := fr.rf
    obtain ⟨r_6, hq, h⟩ := b1_e h
    rcases it_or h with ⟨hc, h⟩ | ⟨hc, h⟩
    · skip
      cases h
      exact F
    · skip
      obtain ⟨hb_8, h⟩ := gd h
      obtain ⟨σ_7, f1, h⟩ := lt_up h
      replace F := F.tr (f1.mono (by simp))
      obtain ⟨x2_9, h⟩ := lt_ex h
      exact F.tr (ih _ _ h)
theorem frX10_clear {σ : Sg} {rr : (Int32 × Sg)} (h : XX10_clear σ = some rr) : fr [(64, some 0), (64, some 39), (78, none), (91, none)] σ rr.2 := by
  have C := trivial
  have R := trivial
  have F : fr [(64, some 0), (64, some 39), (78, none), (91, none)] σ σ := fr.rf
  rw [XX10_clear] at h
  obtain ⟨σ_1, f1, h⟩ := lt_upf h
  replace F := F.tr (f1.mono (by simp))
  obtain ⟨r_2, hq, h⟩ := b1_e h
  rcases ie_or h with ⟨hc, h⟩ | ⟨hc, h⟩
  · skip
    obtain ⟨σ_3, hq, h⟩ := b1_e h
    replace F := F.tr ((frX10_keep hq).mono (by simp))
    exact F.tr (flX10_clear_22  C R  _ _ _ h)
  · skip
    cases h
    exact F
theorem frX10_rush {p1 : Int32} {p2 : Int32} {p3 : Int32} {σ : Sg} {rr : (Int32 × Sg)} (h : XX10_rush p1 p2 p3 σ = some rr) : fr [(64, some 0), (64, some 39), (65, none), (72, none), (73, none), (74, none), (91, none)] σ rr.2 := by
  have C := trivial
  have R := trivial
  have F : fr [(64, some 0), (64, some 39), (65, none), (72, none), (73, none), (74, none), (91, none)] σ σ := fr.rf
  rw [XX10_rush] at h
  obtain ⟨σ_1, f1, h⟩ := lt_upf h
  replace F := F.tr (f1.mono (by simp))
  obtain ⟨r_2, hq, h⟩ := b1_e h
  obtain ⟨r_3, hq, h⟩ := b1_e h
  rcases it_or h with ⟨hc, h⟩ | ⟨hc, h⟩
  · skip
    cases h
    exact F
  · skip
    obtain ⟨r_4, hq, h⟩ := b1_e h
    rcases it_or h with ⟨hc, h⟩ | ⟨hc, h⟩
    · skip
      cases h
      exact F
    · skip
      rcases ie_or h with ⟨hc, h⟩ | ⟨hc, h⟩
      · skip
        obtain ⟨σ_5, hq, h⟩ := b1_e h
        replace F := F.tr ((frX10_keep hq).mono (by simp))
        obtain ⟨hb_7, h⟩ := gd h
        obtain ⟨σ_6, f1, h⟩ := lt_up h
        replace F := F.tr (f1.mono (by simp))
        obtain ⟨σ_8, f1, h⟩ := lt_up h
        replace F := F.tr (f1.mono (by simp))
        obtain ⟨σ_9, f1, h⟩ := lt_up h
        replace F := F.tr (f1.mono (by simp))
        obtain ⟨σ_10, f1, h⟩ := lt_up h
        replace F := F.tr (f1.mono (by simp))
        cases h
        exact F
      · skip
        cases h
        exact F
