/-! CALLS: alone, joint: the class -/
def wf (f : Nat) : Nat := if f = 0 then 0 else 2 ^ (f - 1)
/-- of a stretch behind a visit (place f: on day f - 1; 0: the start): the stock of a morning, what is lost -/
def sk (V : Vw) (f s e : Nat) : Nat := stk (V 4 s) (V 3 s) (wf f) (aq V s) e
def msF (V : Vw) (f s e : Nat) : Nat := rmiss (V 4 s) (V 3 s) (wf f) (aq V s) e
def gnF (V : Vw) (G f e : Nat) : Nat := ldS (fun s => msF V f s e) G (V 0 8)
def rnF (V : Vw) (G f e : Nat) : Nat := V 0 7 * gnF V G f e + V 0 6 * ldS (fun s => sk V f s (e + 1)) G (V 0 8)
def lcF (V : Vw) (G f e s : Nat) : Nat := if G.testBit s then V 3 s - sk V f s e else 0
def vpF (V : Vw) (G f e : Nat) : Nat := cdV V (V 0 3) (lcF V G f e)
/-- what is there on a day, behind a visit of it -/
def thF (V : Vw) (f s e : Nat) : Nat := if e < f then V 3 s else sk V f s e
theorem wf_bit {f e : Nat} : (wf f).testBit e = decide (f = e + 1) := by
  unfold wf
  by_cases q : f = 0
  · rw [if_pos q, Nat.zero_testBit, decide_eq_false (by omega)]
  · rw [if_neg q, Nat.testBit_two_pow]
    by_cases z : f = e + 1
    · rw [decide_eq_true z, decide_eq_true (by omega)]
    · rw [decide_eq_false z, decide_eq_false (by omega)]
theorem th_eq {V : Vw} {f s e : Nat} (he : f ≤ e + 1) : (if (wf f).testBit e then V 3 s else sk V f s e) = thF V f s e := by
  unfold thF
  rw [wf_bit]
  by_cases q : f = e + 1
  · rw [decide_eq_true q, if_pos rfl, if_pos (by omega)]
  · rw [decide_eq_false q, if_neg (by decide), if_neg (by omega)]
theorem th_next {V : Vw} {f s e : Nat} (he : f ≤ e + 1) : thF V f s (e + 1) = thF V f s e - aq V s e ∧ msF V f s e = aq V s e - thF V f s e ∧ sk V f s (e + 1) = thF V f s e - aq V s e := by
  have h1 : sk V f s (e + 1) = thF V f s e - aq V s e := by
    rw [← th_eq he]
    rfl
  have h2 : msF V f s e = aq V s e - thF V f s e := by
    rw [← th_eq he]
    rfl
  refine ⟨?_, h2, h1⟩
  rw [← h1]
  unfold thF
  rw [if_neg (by omega)]
theorem th_le {V : Vw} (hw : WF V) {f s e : Nat} (hs : s < V 0 8) : thF V f s e ≤ V 3 s := by
  unfold thF
  split
  · exact Nat.le_refl _
  · exact stk_le (hw.sh hs).2.2.2.2 e
abbrev TR : Type := Nat × Nat × Nat
abbrev TT : Type := Nat → Option TR
def tls (a b : TR) : Prop := a.1 < b.1 ∨ (a.1 = b.1 ∧ (a.2.1 < b.2.1 ∨ (a.2.1 = b.2.1 ∧ a.2.2 < b.2.2)))
def of3 (o : Option TR) (a : TR) : Option TR := match o with
  | none => some a
  | some b => if a.1 < b.1 ∨ (a.1 = b.1 ∧ (a.2.1 < b.2.1 ∨ (a.2.1 = b.2.1 ∧ a.2.2 < b.2.2))) then some a else some b
def upT (T : TT) (p : Nat) (o : Option TR) : TT := fun q => if q = p then o else T q
def goT (V : Vw) (G : Nat) (ml : Bool) (f : Nat) (a : TR) : Nat → Nat → Nat → TT → TT
  | 0, _, so, T => upT T (V 0 0 + 1) (of3 (T (V 0 0 + 1)) (so, a.2.1, a.2.2))
  | m + 1, e, so, T => if ml = false ∧ gnF V G f e ≠ 0 then (if e < f then T else upT T (e + 1) (of3 (T (e + 1)) (so + vpF V G f e, a.2.1 + 1, a.2.2 ||| 2 ^ e))) else goT V G ml f a m (e + 1) (so + rnF V G f e) (if e < f then T else upT T (e + 1) (of3 (T (e + 1)) (so + vpF V G f e, a.2.1 + 1, a.2.2 ||| 2 ^ e)))
def stT1 (V : Vw) (G : Nat) (ml : Bool) (f : Nat) (T : TT) : TT := match T f with
  | none => T
  | some a => goT V G ml f a (V 0 0 - (f - 1)) (f - 1) a.1 T
def fdT (V : Vw) (G : Nat) (ml : Bool) : Nat → TT
  | 0 => fun q => if q = 0 then some (0, 0, 0) else none
  | f + 1 => stT1 V G ml f (fdT V G ml f)
/-- the class's rows hold a table of places -/
def pRow (o : Option TR) (p : Nat) (σ : Sg) : Prop := match o with
  | none => σ 56 p = 1000000000
  | some a => σ 56 p = nI a.1 ∧ σ 57 p = nI a.2.1 ∧ σ 58 p = nI a.2.2
def gRow (o : Option TR) : Prop := ∀ a, o = some a → a.1 < 100000000 ∧ a.2.1 ≤ 14 ∧ a.2.2 < 16384
def TS (T : TT) (σ : Sg) : Prop := ∀ p, p < 16 → pRow (T p) p σ
theorem TS.off {T : TT} {σ τ : Sg} (h : TS T σ) (e1 : τ 56 = σ 56) (e2 : τ 57 = σ 57) (e3 : τ 58 = σ 58) : TS T τ := fun p hp => by
  have := h p hp
  unfold pRow at this ⊢
  rw [e1, e2, e3]
  exact this
theorem cnt_pow : ∀ d, d < 14 → cntB (2 ^ d) 14 = 1 := by decide +kernel
theorem c_offer {T : TT} {σ : Sg} (hT : TS T σ) {p f c b k : Nat} {a : TR} (hp : p < 16) (hf : f < 16) (hpf : p ≠ f) (ha : T f = some a) (hg : gRow (some a)) (hgp : gRow (T p)) (hc : c < 100000000) (hb : b < 16384) (hk : cntB b 14 = k) (hn : a.2.1 + k ≤ 14) (hw2 : a.2.2 ||| b < 16384) : ∃ τ, XX1_offer (nI p) (nI f) (nI c) (nI b) σ = some τ ∧ TS (upT T p (of3 (T p) (c, a.2.1 + k, a.2.2 ||| b))) τ ∧ fr [(56, none), (57, none), (58, none)] σ τ := by
  have hf' := hT f hf
  rw [ha] at hf'
  obtain ⟨-, f57, f58⟩ : σ 56 f = nI a.1 ∧ σ 57 f = nI a.2.1 ∧ σ 58 f = nI a.2.2 := hf'
  have hp' := hT p hp
  obtain ⟨τ, hτ⟩ : ∃ τ, τ = up (up (up σ 56 p (nI c)) 57 p (nI (a.2.1 + k))) 58 p (nI (a.2.2 ||| b)) := ⟨_, rfl⟩
  have F : fr [(56, none), (57, none), (58, none)] σ τ := by
    rw [hτ]
    exact fr.tr (fr.tr (fr_up.mono (by simp)) (fr_up.mono (by simp))) (fr_up.mono (by simp))
  have new : TS (upT T p (some (c, a.2.1 + k, a.2.2 ||| b))) τ := fun q hq => by
    unfold upT
    by_cases z : q = p
    · rw [if_pos z, z, hτ]
      exact ⟨by rw [up_cell (by omega), up_cell (by omega), up_same], by rw [up_cell (by omega), up_same], up_same⟩
    · rw [if_neg z]
      have := hT q hq
      unfold pRow at this ⊢
      rw [show τ 56 q = σ 56 q by rw [hτ, up_cell (by omega), up_cell (by omega), up_slot z], show τ 57 q = σ 57 q by rw [hτ, up_cell (by omega), up_slot z, up_cell (by omega)], show τ 58 q = σ 58 q by rw [hτ, up_slot z, up_cell (by omega), up_cell (by omega)]]
      exact this
  have old : ∀ o, T p = o → TS (upT T p o) σ := fun o ho q hq => by
    unfold upT
    by_cases z : q = p
    · rw [if_pos z, z, ← ho]
      exact hT p hp
    · rw [if_neg z]
      exact hT q hq
  have ip : ib (nI p) 16 := (ib_nI (by omega)).mpr hp
  have ifx : ib (nI f) 16 := (ib_nI (by omega)).mpr hf
  have cp : (nI p).toNatClampNeg = p := nI_cl (by omega)
  have cf : (nI f).toNatClampNeg = f := nI_cl (by omega)
  have E : XX1_offer (nI p) (nI f) (nI c) (nI b) σ = (if nI c < σ 56 p then some τ else if nI c = σ 56 p then (if nI (a.2.1 + k) < σ 57 p then some τ else if nI (a.2.1 + k) = σ 57 p then (if σ 58 p ≤ nI (a.2.2 ||| b) then some σ else some τ) else some σ) else some σ) := by
    unfold XX1_offer
    rw [if_pos ifx, c_cnt hb, b1s, hk, cf, f57, f58, nI_add, nx_or, lt_def, lt_def, if_pos ip, cp, lt_def, lt_def, lt_def]
    show (if nI c < σ 56 p then (if (1 : Int32) = 0 then _ else _) else if nI c = σ 56 p then (if nI (a.2.1 + k) < σ 57 p then (if (1 : Int32) = 0 then _ else _) else if nI (a.2.1 + k) = σ 57 p then (if σ 58 p ≤ nI (a.2.2 ||| b) then (if (0 : Int32) = 0 then _ else _) else (if (1 : Int32) = 0 then _ else _)) else (if (0 : Int32) = 0 then _ else _)) else (if (0 : Int32) = 0 then _ else _)) = _
    rw [if_neg (show ¬ (1 : Int32) = 0 by decide), if_pos (show (0 : Int32) = 0 from rfl), lt_def, lt_def, ← hτ]
  rw [E]
  cases hTp : T p with
  | none =>
    rw [hTp] at hp'
    have h56 : σ 56 p = 1000000000 := hp'
    refine ⟨τ, ?_, new, F⟩
    rw [h56, if_pos (show nI c < 1000000000 from (nI_lti (b := 1000000000) (by omega) (by omega)).mpr (by omega))]
  | some q =>
    rw [hTp] at hp' hgp
    obtain ⟨p56, p57, p58⟩ : σ 56 p = nI q.1 ∧ σ 57 p = nI q.2.1 ∧ σ 58 p = nI q.2.2 := hp'
    obtain ⟨g1, g2, g3⟩ := hgp q rfl
    obtain ⟨g4, g5, g6⟩ := hg a rfl
    rw [p56, p57, p58]
    have e : of3 (some q) (c, a.2.1 + k, a.2.2 ||| b) = if c < q.1 ∨ (c = q.1 ∧ (a.2.1 + k < q.2.1 ∨ (a.2.1 + k = q.2.1 ∧ a.2.2 ||| b < q.2.2))) then some (c, a.2.1 + k, a.2.2 ||| b) else some q := rfl
    rw [e]
    by_cases z1 : c < q.1
    · rw [if_pos (by rw [nI_lti] <;> omega), if_pos (Or.inl z1)]
      exact ⟨τ, rfl, new, F⟩
    rw [if_neg (by rw [nI_lti] <;> omega)]
    by_cases z2 : c = q.1
    · rw [if_pos (show nI c = nI q.1 by rw [z2])]
      by_cases z3 : a.2.1 + k < q.2.1
      · rw [if_pos (by rw [nI_lti] <;> omega), if_pos (Or.inr ⟨z2, Or.inl z3⟩)]
        exact ⟨τ, rfl, new, F⟩
      rw [if_neg (by rw [nI_lti] <;> omega)]
      by_cases z4 : a.2.1 + k = q.2.1
      · rw [if_pos (show nI (a.2.1 + k) = nI q.2.1 by rw [z4])]
        by_cases z5 : a.2.2 ||| b < q.2.2
        · rw [if_neg (by rw [nI_lei] <;> omega), if_pos (Or.inr ⟨z2, Or.inr ⟨z4, z5⟩⟩)]
          exact ⟨τ, rfl, new, F⟩
        · rw [if_pos (by rw [nI_lei] <;> omega), if_neg (fun y => by omega)]
          exact ⟨σ, rfl, old _ hTp, fr.rf⟩
      · rw [if_neg (nI_ne (by omega) (by omega) z4), if_neg (fun y => by omega)]
        exact ⟨σ, rfl, old _ hTp, fr.rf⟩
    · rw [if_neg (nI_ne (by omega) (by omega) z2), if_neg (fun y => by omega)]
      exact ⟨σ, rfl, old _ hTp, fr.rf⟩
/-! the loops of a stretch -/
def TH (V : Vw) (G f e : Nat) (σ : Sg) : Prop := ∀ s, s < V 0 8 → G.testBit s = true → σ 59 s = nI (thF V f s e)
theorem g_bit {G s : Nat} (hG : G < 64) (hs : s < 6) : nI G >>> (nI s &&& 31) &&& (1 : Int32) = nI (bq (G.testBit s)) := nx_bit (by omega) (by omega)
theorem c_vp {V : Vw} (hw : WF V) {G f e : Nat} (hG : G < 64) (hfe : f ≤ e) {σ : Sg} (hc : CI V σ) (ht : TH V G f e σ) : ∃ τ, XX1_visitPrice (nI G) σ = some (nI (vpF V G f e), τ) ∧ CI V τ ∧ fr ((60, none) :: gS) σ τ := by
  have s6 := hw.s6
  have t99 := hw.t99
  have key : ∀ (K : Sg → Option (Int32 × Sg)) m s n σ, s + m = V 0 8 → m < n → CI V σ → TH V G f e σ → (∀ t, t < s → σ 60 t = nI (lcF V G f e t)) → ∃ τ, LX1_visitPrice_2 (nI G) K n (nI s) σ = K τ ∧ CI V τ ∧ (∀ t, t < V 0 8 → τ 60 t = nI (lcF V G f e t)) ∧ fr [(60, none)] σ τ := by
    intro K m
    induction m with
    | zero =>
      intro s n σ hs hn hc ht h0
      obtain ⟨n, rfl⟩ : ∃ q, n = q + 1 := ⟨n - 1, by omega⟩
      have hs : s = V 0 8 := by omega
      subst hs
      refine ⟨σ, ?_, hc, h0, fr.rf⟩
      rw [LX1_visitPrice_2, hc.1.2.2.2.2.2.2.1, if_pos (by rw [nI_lei] <;> omega)]
    | succ m ih =>
      intro s n σ hs hn hc ht h0
      obtain ⟨n, rfl⟩ : ∃ q, n = q + 1 := ⟨n - 1, by omega⟩
      have hs8 : s < V 0 8 := by omega
      have f1 : fr [(60, none)] σ (up σ 60 s (nI (lcF V G f e s))) := fr_up
      obtain ⟨τ, k1, k2, k3, k4⟩ := ih (s + 1) n (up σ 60 s (nI (lcF V G f e s))) (by omega) (by omega) (hc.off f1 rfl (hc.2.1.frm f1 rfl) (hc.2.2.2.1.off f1 (fun k k1 k2 => by simp; omega))) (fun t ht1 ht2 => by rw [f1.cell (k := 59) rfl]; exact ht t ht1 ht2) (fun t ht1 => by
        by_cases q : t = s
        · rw [q, up_same]
        · rw [up_slot q]
          exact h0 t (by omega))
      refine ⟨τ, ?_, k2, k3, f1.tr k4⟩
      have s5 : σ 5 s = nI (V 3 s) := (hc.1.2.2.2.2.2.2.2.2.1 s hs8).2.2.1
      have i6 : ib (nI s) 6 := (ib_nI (by omega)).mpr (by omega)
      rw [LX1_visitPrice_2, hc.1.2.2.2.2.2.2.1, if_neg (by rw [nI_lei] <;> omega), g_bit hG (by omega)]
      simp only [lt]
      cases hb : G.testBit s with
      | true =>
        have el : lcF V G f e s = V 3 s - thF V f s e := by
          unfold lcF thF
          rw [if_pos hb, if_neg (by omega)]
        rw [el] at k1
        rw [if_pos (show nI (bq true) = 1 by decide), if_pos i6, if_pos i6, nI_cl (by omega), s5, ht s hs8 hb, pk_sub (th_le hw hs8), nI_1]
        exact k1
      | false =>
        have el : lcF V G f e s = 0 := by
          unfold lcF
          rw [if_neg (by rw [hb]; decide)]
        rw [el] at k1
        rw [if_neg (show ¬ nI (bq false) = 1 by decide), if_pos i6, nI_cl (by omega), nI_1]
        exact k1
  obtain ⟨σ1, a1, a2, a3, a4⟩ := key (fun (σ_1 : Sg) => b2 (XX2_priceOf 60 (σ_1 2 1) σ_1) (fun (r_3 : Int32) (σ_4 : Sg) => some (r_3, σ_4))) (V 0 8) 0 FUEL σ (by omega) (by unfold FUEL; omega) hc ht (fun t h => absurd h (by omega))
  have ll : ∀ s, s < V 0 8 → lcF V G f e s ≤ V 0 3 := fun s hs => by
    have := (hw.sh hs).2.2.2.1
    unfold lcF
    split <;> omega
  obtain ⟨τ, b1', b2', b3'⟩ := c_priceOf hw (a := 60) (by omega) (cap := V 0 3) (by omega) (ld := lcF V G f e) (fun s hs => by have := ll s hs; omega) ll a2.1 a2.2.2.2.1 a3
  refine ⟨τ, ?_, a2.off b3' rfl (a2.2.1.frm b3' rfl) b2', fr.tr (a4.mono (by simp)) (b3'.mono (by simp))⟩
  unfold XX1_visitPrice
  rw [lt_def]
  refine Eq.trans a1 ?_
  have e21 : σ1 2 1 = nI (V 0 3) := a2.1.2.1
  rw [e21, b1', b2s]
  rfl
theorem c_sell {V : Vw} (hw : WF V) {G f e : Nat} (hG : G < 64) (hfe : f ≤ e + 1) (he : e < V 0 0) {σ : Sg} (hc : CI V σ) (ht : TH V G f e σ) : ∃ τ, XX1_sellDay (nI e) (nI G) σ = some (nI (gnF V G f e), τ) ∧ CI V τ ∧ TH V G f (e + 1) τ ∧ fr [(59, none)] σ τ := by
  have s6 := hw.s6
  have d14 := hw.d14
  have t99 := hw.t99
  have key : ∀ m s n σ, s + m = V 0 8 → m < n → CI V σ → (∀ t, t < s → G.testBit t = true → σ 59 t = nI (thF V f t (e + 1))) → (∀ t, s ≤ t → t < V 0 8 → G.testBit t = true → σ 59 t = nI (thF V f t e)) → ∃ τ, LX1_sellDay_5 (nI e) (nI G) n (nI (ldS (fun s => msF V f s e) G s)) (nI s) σ = some (nI (gnF V G f e), τ) ∧ CI V τ ∧ TH V G f (e + 1) τ ∧ fr [(59, none)] σ τ := by
    intro m
    induction m with
    | zero =>
      intro s n σ hs hn hc h0 h1
      obtain ⟨n, rfl⟩ : ∃ q, n = q + 1 := ⟨n - 1, by omega⟩
      have hs : s = V 0 8 := by omega
      subst hs
      refine ⟨σ, ?_, hc, fun t a b => h0 t a b, fr.rf⟩
      rw [LX1_sellDay_5, hc.1.2.2.2.2.2.2.1, if_pos (by rw [nI_lei] <;> omega)]
      rfl
    | succ m ih =>
      intro s n σ hs hn hc h0 h1
      obtain ⟨n, rfl⟩ : ∃ q, n = q + 1 := ⟨n - 1, by omega⟩
      have hs8 : s < V 0 8 := by omega
      have i6 : ib (nI s) 6 := (ib_nI (by omega)).mpr (by omega)
      have es : ldS (fun s => msF V f s e) G (s + 1) = ldS (fun s => msF V f s e) G s + (if G.testBit s then msF V f s e else 0) := rfl
      rw [LX1_sellDay_5, hc.1.2.2.2.2.2.2.1, if_neg (by rw [nI_lei] <;> omega), g_bit hG (by omega)]
      simp only [lt]
      rw [nI_1]
      cases hb : G.testBit s with
      | true =>
        rw [hb, if_pos rfl] at es
        obtain ⟨n1, n2, n3⟩ := th_next (V := V) (s := s) hfe
        have tl := th_le hw (f := f) (e := e) hs8
        have sl := (hw.sh hs8).2.2.2.1
        have al := aq_le hw hs8 he
        have a7 : σ 7 (14 * s + e) = nI (aq V s e) := hc.1.2.2.2.2.2.2.2.2.2.2.2.1 s e hs8 he
        have f1 : fr [(59, none)] σ (up σ 59 s (nI (thF V f s (e + 1)))) := fr_up
        obtain ⟨τ, k1, k2, k3, k4⟩ := ih (s + 1) n (up σ 59 s (nI (thF V f s (e + 1)))) (by omega) (by omega) (hc.off f1 rfl (hc.2.1.frm f1 rfl) (hc.2.2.2.1.off f1 (fun k k1 k2 => by simp; omega))) (fun t a b => by
          by_cases q : t = s
          · rw [q, up_same]
          · rw [up_slot q]
            exact h0 t (by omega) b) (fun t a b c => by
          rw [up_slot (by omega)]
          exact h1 t (by omega) b c)
        refine ⟨τ, ?_, k2, k3, f1.tr k4⟩
        rw [es, n2] at k1
        have em : nI (thF V f s e) - nI (min (thF V f s e) (aq V s e)) = nI (thF V f s (e + 1)) := by
          rw [pk_sub (by omega), n1, show thF V f s e - min (thF V f s e) (aq V s e) = thF V f s e - aq V s e by omega]
        have eg : nI (aq V s e) - nI (min (thF V f s e) (aq V s e)) = nI (aq V s e - thF V f s e) := by
          rw [pk_sub (by omega), show aq V s e - min (thF V f s e) (aq V s e) = aq V s e - thF V f s e by omega]
        rw [if_pos (show nI (bq true) = 1 by decide), if_pos i6, c_cellOf, b1s, if_pos ((ib_nI (by omega)).mpr (by omega)), b1s, if_pos ((ib_nI (by omega)).mpr (by omega)), nI_cl (by omega), nI_cl (by omega), a7, h1 s (Nat.le_refl _) hs8 hb, min_nI (by omega) (by omega), em, up_cell (show 7 ≠ 59 by omega), a7, eg, nI_add]
        exact k1
      | false =>
        rw [hb, if_neg (by decide), Nat.add_zero] at es
        obtain ⟨τ, k1, k2, k3, k4⟩ := ih (s + 1) n σ (by omega) (by omega) hc (fun t a b => by
          by_cases q : t = s
          · rw [q, hb] at b
            cases b
          · exact h0 t (by omega) b) (fun t a b c => h1 t (by omega) b c)
        refine ⟨τ, ?_, k2, k3, k4⟩
        rw [es] at k1
        rw [if_neg (show ¬ nI (bq false) = 1 by decide)]
        exact k1
  exact key (V 0 8) 0 FUEL σ (by omega) (by unfold FUEL; omega) hc (fun t h => absurd h (by omega)) (fun t _ b c => ht t b c)
theorem c_stockOf {V : Vw} (hw : WF V) {G f e : Nat} (hG : G < 64) (hfe : f ≤ e + 1) {σ : Sg} (hc : CI V σ) (ht : TH V G f (e + 1) σ) : XX1_stockOf (nI G) σ = some (nI (ldS (fun s => sk V f s (e + 1)) G (V 0 8))) := by
  have s6 := hw.s6
  have key : ∀ m s n, s + m = V 0 8 → m < n → LX1_stockOf_4 (nI G) σ n (nI (ldS (fun s => sk V f s (e + 1)) G s)) (nI s) = some (nI (ldS (fun s => sk V f s (e + 1)) G (V 0 8))) := by
    intro m
    induction m with
    | zero =>
      intro s n hs hn
      obtain ⟨n, rfl⟩ : ∃ q, n = q + 1 := ⟨n - 1, by omega⟩
      have hs : s = V 0 8 := by omega
      subst hs
      rw [LX1_stockOf_4, hc.1.2.2.2.2.2.2.1, if_pos (by rw [nI_lei] <;> omega)]
    | succ m ih =>
      intro s n hs hn
      obtain ⟨n, rfl⟩ : ∃ q, n = q + 1 := ⟨n - 1, by omega⟩
      have hs8 : s < V 0 8 := by omega
      have i6 : ib (nI s) 6 := (ib_nI (by omega)).mpr (by omega)
      have k1 := ih (s + 1) n (by omega) (by omega)
      have es : ldS (fun s => sk V f s (e + 1)) G (s + 1) = ldS (fun s => sk V f s (e + 1)) G s + (if G.testBit s then sk V f s (e + 1) else 0) := rfl
      rw [es] at k1
      rw [LX1_stockOf_4, hc.1.2.2.2.2.2.2.1, if_neg (by rw [nI_lei] <;> omega), g_bit hG (by omega)]
      simp only [lt]
      rw [nI_1]
      cases hb : G.testBit s with
      | true =>
        rw [hb, if_pos rfl] at k1
        have e1 : thF V f s (e + 1) = sk V f s (e + 1) := if_neg (by omega)
        rw [if_pos (show nI (bq true) = 1 by decide), if_pos i6, nI_cl (by omega), ht s hs8 hb, e1, nI_add]
        exact k1
      | false =>
        rw [hb, if_neg (by decide)] at k1
        rw [if_neg (show ¬ nI (bq false) = 1 by decide), show (0 : Int32) = nI 0 from rfl, nI_add]
        exact k1
  exact key (V 0 8) 0 FUEL (by omega) (by unfold FUEL; omega)
