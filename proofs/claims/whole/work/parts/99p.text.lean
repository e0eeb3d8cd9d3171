/-! TEXT: the class takes the draft over; the call -/
theorem c_take {D : Vw} (hw : WF D) {σ : Sg} (h : CD D σ) : ∃ τ, XX7_takeOver σ = some τ ∧ TC D τ := by
  have s6 := hw.s6
  have r12 := hw.r12
  have d14 := hw.d14
  obtain ⟨⟨t0, t1, t2, t3, t4, t5, t6, t7, t8, t9, t10, t11, t12⟩, h2, h3⟩ := h
  obtain ⟨U, hU⟩ : ∃ U, U = up (up (up (up (up (up (up (up σ 2 0 (σ 11 0)) 2 1 (σ 11 1)) 2 2 (σ 11 2)) 2 3 (σ 11 3)) 2 4 (σ 11 4)) 2 5 (σ 11 5)) 2 6 (σ 11 6)) 2 7 (σ 11 7) := ⟨_, rfl⟩
  have uc : ∀ k, k ≠ 2 → U k = σ k := fun k hk => by
    rw [hU, up_cell hk, up_cell hk, up_cell hk, up_cell hk, up_cell hk, up_cell hk, up_cell hk, up_cell hk]
  have u0 : U 2 0 = σ 11 0 := by rw [hU, up_slot (by omega), up_slot (by omega), up_slot (by omega), up_slot (by omega), up_slot (by omega), up_slot (by omega), up_slot (by omega), up_same]
  have u1 : U 2 1 = σ 11 1 := by rw [hU, up_slot (by omega), up_slot (by omega), up_slot (by omega), up_slot (by omega), up_slot (by omega), up_slot (by omega), up_same]
  have u2 : U 2 2 = σ 11 2 := by rw [hU, up_slot (by omega), up_slot (by omega), up_slot (by omega), up_slot (by omega), up_slot (by omega), up_same]
  have u3 : U 2 3 = σ 11 3 := by rw [hU, up_slot (by omega), up_slot (by omega), up_slot (by omega), up_slot (by omega), up_same]
  have u4 : U 2 4 = σ 11 4 := by rw [hU, up_slot (by omega), up_slot (by omega), up_slot (by omega), up_same]
  have u5 : U 2 5 = σ 11 5 := by rw [hU, up_slot (by omega), up_slot (by omega), up_same]
  have u6 : U 2 6 = σ 11 6 := by rw [hU, up_slot (by omega), up_same]
  have u7 : U 2 7 = σ 11 7 := by rw [hU, up_same]
  obtain ⟨τ, hτ⟩ : ∃ τ, τ = cpy (cpy (cpy (cpy (cpy (cpy (cpy U 12 3 0 0 7) 13 4 0 0 7) 14 5 0 0 6) 15 6 0 0 6) 16 7 0 0 84) 17 8 0 0 12) 18 9 0 0 12 := ⟨_, rfl⟩
  have v2 : τ 2 = U 2 := by
    rw [hτ, cpy_cell (by omega), cpy_cell (by omega), cpy_cell (by omega), cpy_cell (by omega), cpy_cell (by omega), cpy_cell (by omega), cpy_cell (by omega)]
  have v3 : ∀ i, i < 7 → τ 3 i = σ 12 i := fun i hi => by
    rw [hτ, cpy_cell (by omega), cpy_cell (by omega), cpy_cell (by omega), cpy_cell (by omega), cpy_cell (by omega), cpy_cell (by omega), cpy_at, if_pos ⟨rfl, hi⟩, uc 12 (by omega)]
  have v4 : ∀ i, i < 7 → τ 4 i = σ 13 i := fun i hi => by
    rw [hτ, cpy_cell (by omega), cpy_cell (by omega), cpy_cell (by omega), cpy_cell (by omega), cpy_cell (by omega), cpy_at, if_pos ⟨rfl, hi⟩, cpy_cell (by omega), uc 13 (by omega)]
  have v5 : ∀ i, i < 6 → τ 5 i = σ 14 i := fun i hi => by
    rw [hτ, cpy_cell (by omega), cpy_cell (by omega), cpy_cell (by omega), cpy_cell (by omega), cpy_at, if_pos ⟨rfl, hi⟩, cpy_cell (by omega), cpy_cell (by omega), uc 14 (by omega)]
  have v6 : ∀ i, i < 6 → τ 6 i = σ 15 i := fun i hi => by
    rw [hτ, cpy_cell (by omega), cpy_cell (by omega), cpy_cell (by omega), cpy_at, if_pos ⟨rfl, hi⟩, cpy_cell (by omega), cpy_cell (by omega), cpy_cell (by omega), uc 15 (by omega)]
  have v7 : ∀ i, i < 84 → τ 7 i = σ 16 i := fun i hi => by
    rw [hτ, cpy_cell (by omega), cpy_cell (by omega), cpy_at, if_pos ⟨rfl, hi⟩, cpy_cell (by omega), cpy_cell (by omega), cpy_cell (by omega), cpy_cell (by omega), uc 16 (by omega)]
  have v8 : ∀ i, i < 12 → τ 8 i = σ 17 i := fun i hi => by
    rw [hτ, cpy_cell (by omega), cpy_at, if_pos ⟨rfl, hi⟩, cpy_cell (by omega), cpy_cell (by omega), cpy_cell (by omega), cpy_cell (by omega), cpy_cell (by omega), uc 17 (by omega)]
  have v9 : ∀ i, i < 12 → τ 9 i = σ 18 i := fun i hi => by
    rw [hτ, cpy_at, if_pos ⟨rfl, hi⟩, cpy_cell (by omega), cpy_cell (by omega), cpy_cell (by omega), cpy_cell (by omega), cpy_cell (by omega), cpy_cell (by omega), uc 18 (by omega)]
  refine ⟨τ, ?_, ?_⟩
  · unfold XX7_takeOver
    have n0 : (0 : Int32).toNatClampNeg = 0 := by decide
    have n6 : (6 : Int32).toNatClampNeg = 6 := by decide
    have n7 : (7 : Int32).toNatClampNeg = 7 := by decide
    have n12 : (12 : Int32).toNatClampNeg = 12 := by decide
    have n84 : (84 : Int32).toNatClampNeg = 84 := by decide
    rw [n0, n6, n7, n12, n84]
    have w : ∀ (ζ : Sg) (i j : Nat) (v : Int32), up ζ 2 i v 11 j = ζ 11 j := fun ζ i j v => by rw [up_cell (by omega)]
    rw [lt_def, lt_def, w, lt_def, w, w, lt_def, w, w, w, lt_def, w, w, w, w, lt_def, w, w, w, w, w, lt_def, w, w, w, w, w, w, lt_def, w, w, w, w, w, w, w, ← hU, lt_def, lt_def, lt_def, lt_def, lt_def, lt_def, lt_def, ← hτ]
  · refine ⟨by rw [v2, u0]; exact t0, by rw [v2, u1]; exact t1, by rw [v2, u2]; exact t2, by rw [v2, u3]; exact t3, by rw [v2, u4]; exact t4, by rw [v2, u5]; exact t5, by rw [v2, u6]; exact t6, by rw [v2, u7]; exact t7, fun s hs => ?_, by rw [v3 6 (by omega)]; exact t9, by rw [v4 6 (by omega)]; exact t10, fun s d hs hd => by rw [v7 _ (by omega)]; exact t11 s d hs hd, fun k hk => ?_⟩
    · rw [v3 s (by omega), v4 s (by omega), v5 s (by omega), v6 s (by omega)]
      exact t8 s hs
    · rw [v8 k (by omega), v9 k (by omega)]
      exact t12 k hk
theorem tot0 {f : Nat → Int32} {S N : Nat} (hS : S ≤ 6) (hN : N ≤ 14) (h : ∀ j, j < 84 → f j = 0) : tot2 f S N = 0 := by
  rw [tot_nI (g := fun _ _ => 0) (fun s d hs hd => by rw [h _ (by omega)]; rfl), sumN_zero.mpr (fun s _ => sumN_zero.mpr (fun _ _ => rfl))]
  rfl
theorem c_anew {D : Vw} (hw : WF D) {σ : Sg} (ht : TC D σ) (v5 : ∀ s, D 5 s = 0) (p31 : σ 31 0 = nI 0) (p32 : σ 32 0 = nI 0) (p33 : σ 33 0 = nI 0) : ∃ τ, XX9_beginAnew σ = some τ ∧ TC D τ ∧ RN D (prV D) 38 (D 5) (aq D) τ ∧ WC D τ ∧ PC D τ ∧ τ 61 0 = nI 0 := by
  have s6 := hw.s6
  have d14 := hw.d14
  obtain ⟨σ1, a1, a2, a3⟩ := c_measure hw ht
  have t1 : TC D σ1 := ht.off (fun k k1 k2 => a3.cell (by simp; omega))
  obtain ⟨σ2, b1', b2', b3'⟩ := c_pmeasure hw t1 a2
  have t2 : TC D σ2 := t1.off (fun k k1 k2 => b3'.cell (by simp; omega))
  obtain ⟨f1, g1, g2, g3⟩ := c_fill0 (a := 38 + 1) (N := 6) (by omega) (0 : Int32) σ2
  obtain ⟨f2, i1, i2, i3⟩ := c_fill0 (a := 38 + 3) (N := 84) (by omega) (0 : Int32) f1
  obtain ⟨f3, j1, j2, j3⟩ := c_fill0 (a := 38 + 4) (N := 84) (by omega) (0 : Int32) f2
  obtain ⟨f4, l1, l2, l3⟩ := c_fill0 (a := 38 + 5) (N := 84) (by omega) (0 : Int32) f3
  obtain ⟨f5, m1, m2, m3⟩ := c_fill0 (a := 38 + 6) (N := 14) (by omega) (-1 : Int32) f4
  obtain ⟨σ3, hσ3⟩ : ∃ σ3, σ3 = up (up f5 38 5 (0 : Int32)) 38 6 (0 : Int32) := ⟨_, rfl⟩
  have e3 : XX5_forget 38 σ2 = some σ3 := by
    unfold XX5_forget
    rw [g1, b1s, i1, b1s, j1, b1s, l1, b1s, m1, b1s, lt_def, lt_def, hσ3]
  have F3 := frX5_forget e3
  have t3 : TC D σ3 := t2.off (fun k k1 k2 => F3.cell (by simp; omega))
  have z39 : ∀ s, s < 6 → σ3 39 s = 0 := fun s hs => by
    rw [hσ3, up_cell (by omega), up_cell (by omega), m3.cell (k := 39) rfl, l3.cell (k := 39) rfl, j3.cell (k := 39) rfl, i3.cell (k := 39) rfl]
    exact g2 s hs
  have z41 : ∀ s, s < 84 → σ3 41 s = 0 := fun s hs => by
    rw [hσ3, up_cell (by omega), up_cell (by omega), m3.cell (k := 41) rfl, l3.cell (k := 41) rfl, j3.cell (k := 41) rfl]
    exact i2 s hs
  have z42 : ∀ s, s < 84 → σ3 42 s = 0 := fun s hs => by
    rw [hσ3, up_cell (by omega), up_cell (by omega), m3.cell (k := 42) rfl, l3.cell (k := 42) rfl]
    exact j2 s hs
  have z43 : ∀ s, s < 84 → σ3 43 s = 0 := fun s hs => by
    rw [hσ3, up_cell (by omega), up_cell (by omega), m3.cell (k := 43) rfl]
    exact l2 s hs
  have z44 : ∀ s, s < 14 → σ3 44 s = -1 := fun s hs => by
    rw [hσ3, up_cell (by omega), up_cell (by omega)]
    exact m2 s hs
  have wk : WK D (prV D) 38 σ3 := by
    refine ⟨?_, ?_, fun e he => Or.inl (z44 e (by omega)), fun s d hs hd _ => z41 _ (by omega)⟩
    · show σ3 38 5 = tot2 (σ3 43) (D 0 8) (D 0 0)
      rw [tot0 s6 d14 z43, hσ3, up_slot (by omega), up_same]
    · show σ3 38 6 = tot2 (σ3 42) (D 0 8) (D 0 0)
      rw [tot0 s6 d14 z42, hσ3, up_same]
  have rw' : RW D 38 σ3 := ⟨fun _ _ => 0, fun _ _ => 0, fun _ _ => 0, fun s d hs hd => ⟨(show (0 : Nat) < 1000000 by omega), z41 _ (by omega), z42 _ (by omega), z43 _ (by omega)⟩⟩
  obtain ⟨σ4, c1, c2, c3⟩ := c_askAnew (V := D) (ask := aq D) hw (pr := prV D) (vis := D 5) (prV_C _) t3 wk rw' (fun s hs => by rw [z39 s hs, v5]; rfl) (fun s => vis_lt hw s)
  have t4 : TC D σ4 := t3.off (fun k k1 k2 => c3.cell (by simp; omega))
  have G : fr [(61, some 0)] σ4 (up σ4 61 0 (0 : Int32)) := fr_upf
  have W3 : WC D σ3 := by
    unfold WC FC at a2 ⊢
    rw [F3.cell (k := 25) rfl, F3.cell (k := 27) rfl, F3.cell (k := 28) rfl, b3'.cell (k := 25) rfl, b3'.cell (k := 27) rfl, b3'.cell (k := 28) rfl]
    exact a2
  have W4 : WC D σ4 := by
    unfold WC FC at W3 ⊢
    rw [c3.cell (k := 25) rfl, c3.cell (k := 27) rfl, c3.cell (k := 28) rfl]
    exact W3
  have P4 : PC D σ4 := by
    refine ⟨fun set hs => ?_, ?_, ?_, ?_⟩
    · rw [c3.cell (k := 30) rfl, F3.cell (k := 30) rfl]
      exact b2' set hs
    · rw [c3.cell (k := 31) rfl, F3.cell (k := 31) rfl, b3'.cell (k := 31) rfl, a3.cell (k := 31) rfl]
      exact p31
    · rw [c3.cell (k := 32) rfl, F3.cell (k := 32) rfl, b3'.cell (k := 32) rfl, a3.cell (k := 32) rfl]
      exact p32
    · rw [c3.cell (k := 33) rfl, F3.cell (k := 33) rfl, b3'.cell (k := 33) rfl, a3.cell (k := 33) rfl]
      exact p33
  refine ⟨up σ4 61 0 (0 : Int32), ?_, t4.off (fun k k1 k2 => up_cell (by omega)), c2.frm G rfl, ?_, ?_, up_same⟩
  · unfold XX9_beginAnew
    rw [a1, b1s, b1', b1s, e3, b1s, c1, b1s]
    unfold XX0_forget
    rw [lt_def, b1s]
  · unfold WC FC at W4 ⊢
    rw [up_cell (by omega), up_cell (by omega), up_cell (by omega)]
    exact W4
  · unfold PC at P4 ⊢
    rw [up_cell (by omega), up_cell (by omega), up_cell (by omega), up_cell (by omega)]
    exact P4
/-- a text with a fault: the tape is gone, all else stands -/
def nfV (V : Vw) (w p : Nat) : Vw := put (tpV V (fun _ => 0) 0) 13 (fun i => if i = 0 then w else p + 1)
theorem nf_sw (V : Vw) (w p : Nat) : sW V (nfV V w p) := ⟨rfl, rfl, rfl, rfl, rfl⟩
theorem WF.nf {V : Vw} (h : WF V) (w p : Nat) : WF (nfV V w p) := h.tape (g := fun _ => 0) (n := 0) (by omega) (fun i hi => absurd hi (by omega))
theorem pl1 (p : Nat) : nI p = nI (p + 1) - 1 := by
  rw [show (1 : Int32) = nI 1 from rfl, nI_sb (by omega), show p + 1 - 1 = p by omega]
theorem text_no {V : Vw} {σ τ : Sg} (hc : CI V σ) (e : XX4_readAll (σ 0 1) σ = some (0, τ)) {w p : Nat} (h1 : τ 10 1 = nI w) (h2 : τ 10 2 = nI p) : XX9_text σ = some (-1, up τ 0 1 (0 : Int32)) ∧ CI (nfV V w p) (up τ 0 1 (0 : Int32)) := by
  have hs := nf_sw V w p
  have E : XX9_text σ = some (-1, up τ 0 1 (0 : Int32)) := by
    unfold XX9_text
    rw [e, b2s, lt_def, if_pos rfl]
  have F := (frX4_readAll e)
  have c : ∀ k, k ≠ 0 → k ≠ 10 → ¬ (11 ≤ k ∧ k ≤ 24 ∧ k ≠ 19) → up τ 0 1 (0 : Int32) k = σ k := fun k k0 k1 k2 => by
    rw [up_cell k0]
    exact F.cell (by simp; omega)
  obtain ⟨ht, hn, hw, hp, ha, hx⟩ := hc
  refine ⟨E, (ht.off (fun k k1 k2 => c k (by omega) (by omega) (by omega)) : TC V _), ?_, ?_, ?_, ?_, ?_⟩
  · rw [prV_sw hs rfl]
    exact hn.off (by rw [c 38 (by omega) (by omega) (by omega)]) (by rw [c 38 (by omega) (by omega) (by omega)]) (c 39 (by omega) (by omega) (by omega)) (c 40 (by omega) (by omega) (by omega)) (c 41 (by omega) (by omega) (by omega)) (c 42 (by omega) (by omega) (by omega)) (c 43 (by omega) (by omega) (by omega)) (c 44 (by omega) (by omega) (by omega))
  · refine WC.sw ?_ hs
    unfold WC FC at hw ⊢
    rw [c 25 (by omega) (by omega) (by omega), c 27 (by omega) (by omega) (by omega), c 28 (by omega) (by omega) (by omega)]
    exact hw
  · refine PC.sw ?_ hs
    unfold PC at hp ⊢
    rw [c 30 (by omega) (by omega) (by omega), c 31 (by omega) (by omega) (by omega), c 32 (by omega) (by omega) (by omega), c 33 (by omega) (by omega) (by omega)]
    exact hp
  · show AC V _
    unfold AC at ha ⊢
    rw [c 61 (by omega) (by omega) (by omega), c 62 (by omega) (by omega) (by omega)]
    exact ha
  · refine ⟨up_same, fun i hi => absurd hi (Nat.not_lt_zero i), ?_, ?_, fun j hj => ?_⟩
    · rw [up_cell (by omega)]
      exact h1
    · rw [up_cell (by omega), h2]
      exact pl1 p
    · rw [c 19 (by omega) (by omega) (by omega)]
      exact hx.2.2.2.2 j hj
theorem text_ok {V D : Vw} {σ τ : Sg} (hc : CI V σ) (e : XX4_readAll (σ 0 1) σ = some (1, τ)) (hw : WD D) (hd : CD D τ) (h1 : τ 10 1 = 0) (h2 : τ 10 2 = -1) : ∃ σ1, XX9_text σ = some (nI (D 0 8), σ1) ∧ CI D σ1 := by
  obtain ⟨w1, w2, w3, w4, w5, w6, -⟩ := hw
  have F := (frX4_readAll e)
  obtain ⟨ht, hn, hww, hp, ha, hx⟩ := hc
  have hd' : CD D (up τ 0 1 (0 : Int32)) := by
    obtain ⟨d1, d2, d3⟩ := hd
    refine ⟨d1.off (fun k k1 k2 => up_cell (by omega)), ?_, ?_⟩
    · rw [up_cell (by omega)]
      exact d2
    · rw [up_cell (by omega)]
      exact d3
  obtain ⟨σ2, a1, a2⟩ := c_take w1 hd'
  have G := frX7_takeOver a1
  have k : ∀ c, 31 ≤ c → c ≤ 33 → σ2 c = σ c := fun c c1 c2 => by
    rw [G.cell (k := c) (by simp; omega), up_cell (by omega)]
    exact F.cell (by simp; omega)
  obtain ⟨σ3, b1', b2', b3', b4', b5', b6'⟩ := c_anew w1 a2 w6 (by rw [k 31 (by omega) (by omega)]; exact hp.2.1) (by rw [k 32 (by omega) (by omega)]; exact hp.2.2.1) (by rw [k 33 (by omega) (by omega)]; exact hp.2.2.2)
  have H := frX9_beginAnew b1'
  have t6 : σ3 2 6 = nI (D 0 8) := b2'.2.2.2.2.2.2.1
  have q10 : ∀ i, σ3 10 i = τ 10 i := fun i => by
    rw [H.cell (k := 10) rfl, G.cell (k := 10) rfl, up_cell (by omega)]
  refine ⟨σ3, ?_, b2', b3', b4', b5', ⟨by rw [w2]; exact b6', fun a s h => absurd h (by omega)⟩, ?_, fun i hi => absurd hi (by omega), ?_, ?_, fun j hj => ?_⟩
  · unfold XX9_text
    rw [e, b2s, lt_def, if_neg (show ¬ (1 : Int32) = 0 by decide), a1, b1s, b1', b1s, t6]
  · rw [H.cell (k := 0) rfl, G.cell (k := 0) rfl, up_same, w3]
    rfl
  · rw [q10, h1, w4]
    rfl
  · rw [q10, h2, w5]
    rfl
  · rw [H.cell (k := 19) rfl, G.cell (k := 19) rfl, up_cell (by omega)]
    have := F.cell (k := 19) rfl
    rw [show τ 19 = σ 19 from this]
    exact hx.2.2.2.2 j hj
theorem ref_ok {D : Vw} {σ0 τ : Sg} (hw : WD D) (hm : MD D τ) (h22 : τ 64 22 = 0) (lv : Lv σ0 τ) (z14 : σ0 64 14 = 0) : ∃ τ2, txK τ = some (nI (D 0 8), τ2) ∧ RA D τ2 := by
  obtain ⟨w1, w2, w3, w4, w5, w6, -⟩ := hw
  obtain ⟨ρ, hρ⟩ : ∃ ρ, ρ = up (up τ 64 20 (0 : Int32)) 64 21 (-1 : Int32) := ⟨_, rfl⟩
  have g20 : up τ 64 20 (0 : Int32) 64 22 = 0 := by
    rw [up_slot (by omega)]
    exact h22
  have g21 : ρ 64 22 = 0 := by
    rw [hρ, up_slot (by omega), up_slot (by omega)]
    exact h22
  have l14 : τ 64 14 = 0 := by
    rw [lv 64 14 (Or.inl ⟨rfl, Or.inl rfl⟩)]
    exact z14
  have c : ∀ k, k ≠ 64 → ρ k = τ k := fun k hk => by
    rw [hρ, up_cell hk, up_cell hk]
  have md : MD D ρ := by
    unfold MD at hm ⊢
    rw [c 65 (by omega), c 66 (by omega), c 67 (by omega), c 68 (by omega), c 69 (by omega), c 70 (by omega), c 71 (by omega), c 72 (by omega), c 73 (by omega), c 74 (by omega), c 75 (by omega), show ρ 64 12 = τ 64 12 by rw [hρ, up_slot (by omega), up_slot (by omega)]]
    exact hm
  obtain ⟨τ2, s1, s2⟩ := m_stands w1 md (by rw [hρ, up_slot (by omega), up_slot (by omega), l14, w3]; rfl) (by rw [hρ, up_slot (by omega), up_same, w4]; rfl) (by rw [hρ, up_same, w5]; rfl) w6 w2 w3
  refine ⟨τ2, ?_, s2⟩
  have t8 : τ2 65 8 = nI (D 0 8) := s2.1.1 8 (by omega)
  unfold txK
  rw [h22, lt_def, g_good g20, b1s, lt_def, if_neg (show ¬ (1 : Int32) = 0 by decide)]
  show lt _ _ = _
  rw [lt_def, ← hρ, g_good g21, b1s, if_neg (show ¬ (1 : Int32) = 0 by decide), s1, b1s]
  unfold XX10_shops
  rw [b1s, t8]
theorem ref_no {V : Vw} (hw : WF V) {σ σ0 τ : Sg} (hr : RA V σ) {w p : Nat} (w1 : 1 ≤ w) (w5 : w ≤ 5) (h22 : τ 64 22 = nI w) (h23 : τ 64 23 = nI p) (lv : Lv σ0 τ) (z14 : σ0 64 14 = 0) (un : ∀ c i, lvd c i → ¬ (c = 64 ∧ i = 14) → σ0 c i = σ c i) : ∃ τ2, txK τ = some (-1, τ2) ∧ RA (nfV V w p) τ2 := by
  have s6 := hw.s6
  have r12 := hw.r12
  have bad : ¬ nI w = 0 := nI_n0 (by omega) (by omega)
  obtain ⟨ρ, hρ⟩ : ∃ ρ, ρ = up (up τ 64 20 (nI w)) 64 21 (nI p) := ⟨_, rfl⟩
  have g20 : ¬ up τ 64 20 (nI w) 64 22 = 0 := by
    rw [up_slot (by omega), h22]
    exact bad
  have g21 : ¬ ρ 64 22 = 0 := by
    rw [hρ, up_slot (by omega), up_slot (by omega), h22]
    exact bad
  have g23 : up τ 64 20 (nI w) 64 23 = nI p := by
    rw [up_slot (by omega)]
    exact h23
  have key : ∀ c i, lvd c i → ¬ (c = 64 ∧ i = 14) → ρ c i = σ c i := fun c i hl hn => by
    rw [hρ, up_at, if_neg (by unfold lvd at hl; omega), up_at, if_neg (by unfold lvd at hl; omega), lv c i hl, un c i hl hn]
  refine ⟨ρ, ?_, ?_, ?_⟩
  · unfold txK
    rw [h22, lt_def, b_good g20, b1s, lt_def, if_pos rfl, g23]
    show lt _ _ = _
    rw [lt_def, ← hρ, b_good g21, b1s, if_pos rfl]
  · obtain ⟨⟨r1, r2, r3, r4, r5, r6, r7, -, -, -, -⟩, -⟩ := hr
    refine ⟨fun i hi => ?_, fun s hs => ?_, fun s hs => ?_, fun s hs => ?_, fun k hk => ?_, ?_, fun a s ha hs => ?_, ?_, fun i hi => absurd hi (Nat.not_lt_zero i), ?_, ?_⟩
    · rw [key 65 i (by unfold lvd; omega) (by omega)]
      exact r1 i hi
    · have hs' : s < V 0 8 := hs
      rw [key 66 s (by unfold lvd; omega) (by omega), key 67 s (by unfold lvd; omega) (by omega), key 68 s (by unfold lvd; omega) (by omega), key 69 s (by unfold lvd; omega) (by omega)]
      exact r2 s hs
    · rw [key 78 s (by unfold lvd; omega) (by omega)]
      exact r3 s hs
    · have hs' : s < V 0 8 := hs
      obtain ⟨n, n1, n2, n3, n4⟩ := r4 s hs
      refine ⟨n, n1, n2, by rw [key 70 s (by unfold lvd; omega) (by omega)]; exact n3, fun d hd => ?_⟩
      have ml := Nat.mod_lt d (show n > 0 by omega)
      rw [key 71 _ (by unfold lvd; omega) (by omega)]
      exact n4 d hd
    · have hk' : k < V 0 9 := hk
      obtain ⟨s, d, q1, q2, q3, q4, q5, q6⟩ := r5 k hk
      exact ⟨s, d, q1, q2, q3, by rw [key 72 k (by unfold lvd; omega) (by omega)]; exact q4, by rw [key 73 k (by unfold lvd; omega) (by omega)]; exact q5, by rw [key 74 k (by unfold lvd; omega) (by omega)]; exact q6⟩
    · rw [key 64 39 (by unfold lvd; omega) (by omega)]
      exact r6
    · rw [key 91 _ (by unfold lvd; omega) (by omega)]
      exact r7 a s ha hs
    · rw [hρ, up_slot (by omega), up_slot (by omega), lv 64 14 (Or.inl ⟨rfl, Or.inl rfl⟩), z14]
      rfl
    · rw [hρ, up_slot (by omega), up_same]
      rfl
    · rw [hρ, up_same]
      exact pl1 p
  · refine AHM.sw ?_ (nf_sw V w p)
    have hA := hr.2
    unfold AHM at hA ⊢
    intro set a h1 h2
    rw [key 77 _ (by unfold lvd; omega) (by omega)]
    exact hA set a h1 h2
theorem op_text {V : Vw} {σ : Sg} (h : Inv V σ) : stOK (XX9_text σ) XX10_text := by
  obtain ⟨hw, hc, hr⟩ := id h
  have hx := hc.2.2.2.2.2
  have n800 : V 12 0 ≤ 800 := hw.2.2.2.2.2.2.2.2.2.2.2.2.2.2.2.2.2.2.2.2.2.1
  have hb := hw.2.2.2.2.2.2.2.2.2.2.2.2.2.2.2.2.2.2.2.2.2.2
  have tp : TP (V 11) (V 12 0) 1 σ := ⟨n800, hb, hx.2.1⟩
  obtain ⟨τc, T, r1, C0⟩ := c_begin tp hx.2.2.2.2
  have e0 : XX4_readAll (σ 0 1) σ = LX4_readAll_35 raK FUEL (nI 0) τc := by
    rw [hx.1]
    exact r1
  have T8 := C0.1.1
  have joint : ∀ ρ, RA V ρ → (∃ D τ, XX4_readAll (σ 0 1) σ = some (1, τ) ∧ WD D ∧ CD D τ ∧ τ 10 1 = 0 ∧ τ 10 2 = -1 ∧ ∃ τ2, XX10_text ρ = some (nI (D 0 8), τ2) ∧ RA D τ2) ∨ (∃ τ w p, XX4_readAll (σ 0 1) σ = some (0, τ) ∧ τ 10 1 = nI w ∧ τ 10 2 = nI p ∧ ∃ τ2, XX10_text ρ = some (-1, τ2) ∧ RA (nfV V w p) τ2) := fun ρ hρ => by
    obtain ⟨σ0, τ0, m1, M0, z14, un⟩ := m_begin hw hρ.1
    rcases sim_all raK txK (T + 1) 0 0 FUEL FUEL dr0 τc τ0 (by omega) (by unfold FUEL; omega) (by unfold FUEL; omega) (by omega) WD.start C0 M0 with ⟨D, τ, τ', e1, e2, w1, c1, c2, c3, d1, d2, d3⟩ | ⟨τ, τ', e1, e2, e3⟩
    · obtain ⟨τ2, t1, t2⟩ := ref_ok w1 d1 d2 d3 z14
      exact Or.inl ⟨D, τ, by rw [e0, e1], w1, c1, c2, c3, τ2, by rw [m1, e2, t1], t2⟩
    · obtain ⟨w, p, a1, a2, a3, a4, a5, a6, a7, a8⟩ := e3
      obtain ⟨τ2, t1, t2⟩ := ref_no (p := p) hw hρ a1 a2 a6 a7 a8 z14 un
      exact Or.inr ⟨τ, w, p, by rw [e0, e1], a4, a5, τ2, by rw [m1, e2, t1], t2⟩
  rcases joint σ hr with ⟨D, τ, e1, w1, c1, c2, c3, -⟩ | ⟨τ, w, p, e1, h1, h2, -⟩
  · obtain ⟨σ1, x1, x2⟩ := text_ok hc e1 w1 c1 c2 c3
    rcases joint σ1 (hr.near (frX9_text x1) rfl) with ⟨D2, τ', e1', w1', c1', c2', c3', τ2, t1, t2⟩ | ⟨τ', w, p, e1', -⟩
    · obtain ⟨σ2, y1, y2⟩ := text_ok hc e1' w1' c1' c2' c3'
      rw [x1] at y1
      obtain ⟨z1, z2⟩ := Prod.mk.inj (Option.some.inj y1)
      subst z2
      exact ⟨nI (D 0 8), σ1, τ2, x1, by rw [t1, z1], D2, w1'.1, y2.far (frX10_text t1) rfl, t2⟩
    · rw [e1] at e1'
      exact absurd (Prod.mk.inj (Option.some.inj e1')).1 (by decide)
  · obtain ⟨x1, x2⟩ := text_no hc e1 h1 h2
    rcases joint (up τ 0 1 (0 : Int32)) (hr.near (frX9_text x1) rfl) with ⟨D2, τ', e1', -⟩ | ⟨τ', w', p', e1', h1', h2', τ2, t1, t2⟩
    · rw [e1] at e1'
      exact absurd (Prod.mk.inj (Option.some.inj e1')).1 (by decide)
    · obtain ⟨y1, y2⟩ := text_no hc e1' h1' h2'
      rw [e1] at e1'
      obtain ⟨-, z2⟩ := Prod.mk.inj (Option.some.inj e1')
      subst z2
      exact ⟨-1, _, τ2, x1, t1, nfV V w' p', hw.nf _ _, y2.far (frX10_text t1) rfl, t2⟩
