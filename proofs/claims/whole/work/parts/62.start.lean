/-! FROM THE LAW'S ENTRY: what a pure run of the law says of the machine -/
def σ00 : Sg := fun _ _ => 0
/-- the law, as a function of its script -/
def XL_law (Ln : Nat) (xs : Nat → Int32) : Option Int32 := lt (setc σ00 0 zro) (fun (σ1 : Sg) => b1 (XX9_init_0 σ1) (fun (σ2 : Sg) => lt (setc σ2 64 zro) (fun (σ3 : Sg) => b1 (XX10_init_64 σ3) (fun (σ4 : Sg) => LL_law_18 Ln xs FUEL (0 : Int32) σ4))))
theorem fl_str : ∀ j, j < 69 → Cond.eq (.elem (.field (.string "ShelfDrives$Reader" 44) "java/lang/String" "value" "[B") (.int (Int32.ofNat j))) (.int (chS j)) ∈ flatC (Jvm.Cond.and given_1 narrow_1) := by decide +kernel
set_option maxRecDepth 20000 in
theorem str_start {s : State} {b : Nat} (hts : ∀ w ∈ lw_tbl, w.before #[Value.ref b] s = true) (hgv : (Jvm.Cond.and given_1 narrow_1).before #[Value.ref b] s = true) : ∃ (aK aV aF : Nat) (fv : Value), ∀ ad : Nat → Nat, ad 5000 = aK → ad 5001 = aV → ad 5002 = aF → StrE (fun q : Nat => s.heap.size ≤ q) ad fv s := by
  have hs := flat_of_before _ hgv
  have hA : ∀ a : Nat, a < s.heap.size → ¬ (fun q : Nat => s.heap.size ≤ q) a := fun a h => Nat.not_le.mpr h
  obtain ⟨adK, adV, hS, hev⟩ := vk_Sof (args := #[Value.ref b]) (s := s) (N := 1) (tm := fun _ => Term.string "ShelfDrives$Reader" 44) (len := [69]) (byt := [strB]) (A := fun q : Nat => s.heap.size ≤ q)
    (fun i hi => by rw [show i = 0 by omega]; decide)
    (fun i hi => hs _ (by decide +kernel))
    (fun i hi => hs _ (by decide +kernel))
    (fun i hi => hs _ (by decide +kernel))
    (fun i hi => by rw [show i = 0 by omega]; exact hs _ (by decide +kernel))
    (fun i hi j hj => by
      rw [show i = 0 by omega] at hj ⊢
      exact hs _ (fl_str j hj))
    (fun i j hi hj hij => absurd (show i = j by omega) hij)
    hA
  obtain ⟨h1, h2, h3, h4⟩ := hS.1 0 (by decide)
  have hz1 : va_Z "java/lang/String" "COMPACT_STRINGS" "Z" (.int 1) (fun q : Nat => s.heap.size ≤ q) s s.heap := va_Zof (args := #[Value.ref b]) (hts _ (List.mem_of_getElem? (i := 269) (by decide +kernel))) (hts (.initialized "java/lang/String") (List.mem_of_getElem? (i := 116) (by decide +kernel))) (va_eqt (hs (Cond.eq (.static "java/lang/String" "COMPACT_STRINGS" "Z") (.int 1)) (by decide +kernel))) hA
  have hz2 : va_Zq "jdk/internal/util/Preconditions" "SIOOBE_FORMATTER" "Ljava/util/function/BiFunction;" (fun q : Nat => s.heap.size ≤ q) s s.heap := va_Zqof (args := #[Value.ref b]) (hts _ (List.mem_of_getElem? (i := 285) (by decide +kernel))) (hts (.initialized "jdk/internal/util/Preconditions") (List.mem_of_getElem? (i := 118) (by decide +kernel))) (hs _ (by decide +kernel)) hA
  have hr : vk_R "ShelfDrives$Reader" 44 strT (adK 0) s := vk_R.of (A := #[Value.ref b]) (hts _ (List.mem_of_getElem? (i := 259) (by decide +kernel))) (hev 0 (by decide))
  rcases hz2 with hz2 | ⟨t, hz2⟩
  · refine ⟨adK 0, adV 0, 0, .null, fun ad e1 e2 e3 => ?_⟩
    unfold StrE
    rw [e1, e2]
    exact ⟨h1, h2, h3, h4, hz1, hz2, hr, Or.inl rfl⟩
  · refine ⟨adK 0, adV 0, t, .ref 5002, fun ad e1 e2 e3 => ?_⟩
    unfold StrE
    rw [e1, e2]
    refine ⟨h1, h2, h3, h4, hz1, ?_, hr, Or.inr rfl⟩
    show va_Z _ _ _ (.ref (ad 5002)) _ _ _
    rw [e3]
    exact hz2
set_option maxHeartbeats 4000000 in
set_option maxRecDepth 20000 in
theorem known_start {s : State} {args : Array Value} (hTB : ∀ w ∈ TB, w.before args s = true) : ∃ (D : va_G) (cA : ClassId), va_K D vwCl [(cA, .int)] s := by
  obtain ⟨c0, iS0, hKn0⟩ := u_known (C := RX0) (T := TX0) (N := 2) (n := 2) hTB iwX0 (hTB (.instantiable RX0 2) (in_TB 531 (by decide +kernel) (by decide +kernel)))
  obtain ⟨c1, iS1, hKn1⟩ := u_known (C := RX1) (T := TX1) (N := 7) (n := 7) hTB iwX1 (hTB (.instantiable RX1 7) (in_TB 503 (by decide +kernel) (by decide +kernel)))
  obtain ⟨c2, iS2, hKn2⟩ := u_known (C := RX2) (T := TX2) (N := 7) (n := 7) hTB iwX2 (hTB (.instantiable RX2 7) (in_TB 382 (by decide +kernel) (by decide +kernel)))
  obtain ⟨c3, iS3, hKn3⟩ := u_known (C := RX3) (T := TX3) (N := 4) (n := 4) hTB iwX3 (hTB (.instantiable RX3 4) (in_TB 481 (by decide +kernel) (by decide +kernel)))
  obtain ⟨c4, iS4, hKn4⟩ := u_known (C := RX4) (T := TX4) (N := 15) (n := 15) hTB iwX4 (hTB (.instantiable RX4 15) (in_TB 252 (by decide +kernel) (by decide +kernel)))
  obtain ⟨c5, iS5, hKn5⟩ := u_known (C := RX5) (T := TX5) (N := 11) (n := 11) hTB iwX5 (hTB (.instantiable RX5 11) (in_TB 433 (by decide +kernel) (by decide +kernel)))
  obtain ⟨c6, iS6, hKn6⟩ := u_known (C := RX6) (T := TX6) (N := 5) (n := 5) hTB iwX6 (hTB (.instantiable RX6 5) (in_TB 410 (by decide +kernel) (by decide +kernel)))
  obtain ⟨c7, iS7, hKn7⟩ := u_known (C := RX7) (T := TX7) (N := 15) (n := 15) hTB iwX7 (hTB (.instantiable RX7 15) (in_TB 140 (by decide +kernel) (by decide +kernel)))
  obtain ⟨c8, iS8, hKn8⟩ := u_known (C := RX8) (T := TX8) (N := 4) (n := 4) hTB iwX8 (hTB (.instantiable RX8 4) (in_TB 362 (by decide +kernel) (by decide +kernel)))
  obtain ⟨c9, iS9, hKn9⟩ := u_known (C := RX9) (T := TX9) (N := 13) (n := 13) hTB iwX9 (hTB (.instantiable RX9 13) (in_TB 132 (by decide +kernel) (by decide +kernel)))
  obtain ⟨c10, iS10, hKn10⟩ := u_known (C := RX10) (T := TX10) (N := 40) (n := 40) hTB iwX10 (hTB (.instantiable RX10 40) (in_TB 1256 (by decide +kernel) (by decide +kernel)))
  obtain ⟨cA, kA, comp, h1, h2, h3⟩ := Cond.arrayClass_spec (hTB _ wArr)
  refine ⟨(fun k => if k = 0 then c0 else if k = 1 then c1 else if k = 2 then c2 else if k = 3 then c3 else if k = 4 then c4 else if k = 5 then c5 else if k = 6 then c6 else if k = 7 then c7 else if k = 8 then c8 else if k = 9 then c9 else c10, fun k => if k = 0 then iS0 else if k = 1 then iS1 else if k = 2 then iS2 else if k = 3 then iS3 else if k = 4 then iS4 else if k = 5 then iS5 else if k = 6 then iS6 else if k = 7 then iS7 else if k = 8 then iS8 else if k = 9 then iS9 else iS10), cA, ?_, ?_⟩
  · intro k q hq
    match k, hq with
    | 0, hq => cases hq; exact hKn0
    | 1, hq => cases hq; exact hKn1
    | 2, hq => cases hq; exact hKn2
    | 3, hq => cases hq; exact hKn3
    | 4, hq => cases hq; exact hKn4
    | 5, hq => cases hq; exact hKn5
    | 6, hq => cases hq; exact hKn6
    | 7, hq => cases hq; exact hKn7
    | 8, hq => cases hq; exact hKn8
    | 9, hq => cases hq; exact hKn9
    | 10, hq => cases hq; exact hKn10
    | k + 11, hq => simp [vwCl] at hq
  · intro k q hq
    match k, hq with
    | 0, hq =>
      cases hq
      exact ⟨fun n z => ⟨fun k h => (by cases h), kA, h2, comp, h3⟩, h1⟩
    | k + 1, hq => simp at hq
set_option maxHeartbeats 4000000 in
set_option maxRecDepth 20000 in
/-- the law's walk, if its pure run answers 1 -/
theorem whole_of {p : Program} {e : Env} {s : State} {m : MethodId} {below : List Frame} {meth : Method} {c : Code} (l : Launch) {b L : Nat} {xs : Nat → Int32} (C0 : lw_At p s m meth c b L xs) (h : XL_law L xs = some 1) : W p l e room_1 s m #[Value.ref b] below meth c s.heap [] 0 0 (lw_Z below #[Value.ref b] s) (entryFrame m ([Value.ref b] : List Value).toArray 4) := by
  obtain ⟨hx, hb, hr, hml, hown, hts, hX, hbl, hlocks, hgv⟩ := C0
  have hTB : ∀ w ∈ TB, w.before #[Value.ref b] s = true := fun w hw => hts w (List.mem_filter.mp hw).1
  obtain ⟨D, cA, hK⟩ := known_start hTB
  obtain ⟨aK, aV, aF, fv, hE0⟩ := str_start hts hgv
  obtain ⟨ad, had⟩ : ∃ ad : Nat → Nat, ad = fun k => if k = 999 then b else if k = 5000 then aK else if k = 5001 then aV else aF := ⟨_, rfl⟩
  have e0 : ad 999 = b := by rw [had]; rfl
  have hE := hE0 ad (by rw [had]; rfl) (by rw [had]; rfl) (by rw [had]; rfl)
  have hNw : NWs s := fun w hw => by
    obtain ⟨a, i, x, y, e1⟩ := nest_form w hw
    have h1 := hts w (nest_in w hw)
    subst e1
    exact va_Nw.of rfl h1
  obtain ⟨X, hXe⟩ : ∃ X : CT, X = (p, l, e, room_1, s, m, #[Value.ref b], below, meth, c, D, cA, (fun q : Nat => s.heap.size ≤ q), lw_Z below #[Value.ref b] s) := ⟨_, rfl⟩
  have C : Cx X cL_law 4 RL (some .boolean) room_1 := by
    rw [hXe]
    exact ⟨hx, hb, hml, hown, hTB, hK, fun q h => h, hlocks, hr, rfl, hNw⟩
  have E : StrX X ad fv := by
    rw [hXe]
    exact hE
  have hS : Scr X ad L xs := by
    rw [hXe]
    show va_X (ad 999) L xs s s.heap ∧ ad 999 < s.heap.size ∧ ¬ s.heap.size ≤ ad 999
    rw [e0]
    exact ⟨hX, hbl, Nat.not_le.mpr hbl⟩
  have hR : ∀ u : Nat → Nat, RLw X u 1 := fun u pc nx ls σ d => by
    rw [hXe]
    intro H locs lsA hr1 hl
    exact va_forget (fun q hq => hr1.2.2.2.2 q hq) (lw_ret hx hb hr hlocks d.1)
  have key : AW X 0 0 ad (Sk 0 []) σ00 0 [some (.ref 999), none, none, none] [] := by
    rw [XL_law] at h
    refine a_nw C eL_law_0 wNL_7 [some none, none, some none, some none, some none, some none, some none, some none, some none, some none, some none, some none, some none] (fun j hj => by rcases (show j = 0 ∨ j = 1 ∨ j = 2 ∨ j = 3 ∨ j = 4 ∨ j = 5 ∨ j = 6 ∨ j = 7 ∨ j = 8 ∨ j = 9 ∨ j = 10 ∨ j = 11 ∨ j = 12 by omega) with rfl | rfl | rfl | rfl | rfl | rfl | rfl | rfl | rfl | rfl | rfl | rfl | rfl <;> rfl) (Sk 1 [(0, .inr (9, [some none, none, some none, some none, some none, some none, some none, some none, some none, some none, some none, some none, some none]))]) (by decide +kernel) rfl rfl 1 13 rfl rfl (by decide +kernel) h (fun σ1 h u1 hu1 => ?_)
    replace E := StrX.agr E hu1 (Nat.le_of_ble_eq_true rfl)
    replace hS := Scr.agr hS hu1 (Nat.le_of_ble_eq_true rfl)
    refine a_dup C eL_law_3 rfl ?_
    obtain ⟨σ2, hq, h⟩ := b1_e h
    refine a_cKS C E eL_law_4 wIL_9 ⟨by decide +kernel, by decide +kernel, by decide +kernel, by decide +kernel⟩ rfl (kX9_init_0 hq) (Nat.le_of_ble_eq_true rfl) 1 64 64 5315 (by decide +kernel) (by decide +kernel) (by decide +kernel) (by decide +kernel) rfl rfl (fun u2 hu2 => ?_)
    replace hS := Scr.agr hS hu2 (Nat.le_of_ble_eq_true rfl)
    refine a_ast_n C eL_law_7 (Nat.le_of_ble_eq_true rfl) [some (.ref 999), some (.ref 0), none, none] rfl ?_
    refine a_nw C eL_law_8 wNL_10 [none, some none, some none, some none, some none, some none, some none, some none, some none, some none, some none, some none, none, some none, none, none, none, none, none, none, none, none, none, none, some none, some none, some none, some none, some none, some none, some none, some none, some none, some none, some none, some none, some none, some none, some none, none] (fun j hj => by rcases (show j = 0 ∨ j = 1 ∨ j = 2 ∨ j = 3 ∨ j = 4 ∨ j = 5 ∨ j = 6 ∨ j = 7 ∨ j = 8 ∨ j = 9 ∨ j = 10 ∨ j = 11 ∨ j = 12 ∨ j = 13 ∨ j = 14 ∨ j = 15 ∨ j = 16 ∨ j = 17 ∨ j = 18 ∨ j = 19 ∨ j = 20 ∨ j = 21 ∨ j = 22 ∨ j = 23 ∨ j = 24 ∨ j = 25 ∨ j = 26 ∨ j = 27 ∨ j = 28 ∨ j = 29 ∨ j = 30 ∨ j = 31 ∨ j = 32 ∨ j = 33 ∨ j = 34 ∨ j = 35 ∨ j = 36 ∨ j = 37 ∨ j = 38 ∨ j = 39 by omega) with rfl | rfl | rfl | rfl | rfl | rfl | rfl | rfl | rfl | rfl | rfl | rfl | rfl | rfl | rfl | rfl | rfl | rfl | rfl | rfl | rfl | rfl | rfl | rfl | rfl | rfl | rfl | rfl | rfl | rfl | rfl | rfl | rfl | rfl | rfl | rfl | rfl | rfl | rfl | rfl <;> rfl) (Sk 65 [(64, .inr (10, [none, some none, some none, some none, some none, some none, some none, some none, some none, some none, some none, some none, none, some none, none, none, none, none, none, none, none, none, none, none, some none, some none, some none, some none, some none, some none, some none, some none, some none, some none, some none, some none, some none, some none, some none, none]))]) (by decide +kernel) rfl rfl 65 5355 rfl rfl (by decide +kernel) h (fun σ3 h u3 hu3 => ?_)
    replace hS := Scr.agr hS hu3 (Nat.le_of_ble_eq_true rfl)
    refine a_dup C eL_law_11 rfl ?_
    obtain ⟨σ4, hq2, h⟩ := b1_e h
    refine a_cK0 C eL_law_12 wIL_12 ⟨by decide +kernel, by decide +kernel, by decide +kernel, by decide +kernel⟩ rfl (kX10_init_64 hq2) (Nat.le_of_ble_eq_true rfl) 65 92 92 7821 (by decide +kernel) (by decide +kernel) (by decide +kernel) (by decide +kernel) rfl rfl (fun u4 hu4 => ?_)
    replace hS := Scr.agr hS hu4 (Nat.le_of_ble_eq_true rfl)
    refine a_ast_n C eL_law_15 (Nat.le_of_ble_eq_true rfl) [some (.ref 999), some (.ref 0), some (.ref 64), none] rfl ?_
    refine a_iconst C eL_law_16 (0 : Int32) c_iconst_0 ?_
    refine a_ist_n C eL_law_17 (Nat.le_of_ble_eq_true rfl) [some (.ref 999), some (.ref 0), some (.ref 64), some (.int (0 : Int32))] rfl ?_
    exact lL_law_18 hS C (hR u4) _ _ _ h
  rw [lg_entry_eq]
  rw [hXe] at key
  have hl := lr_entry (ad := ad) (av := [.ref 999]) (nL := 4) (fun v hv => by rw [List.mem_singleton.mp hv]; rfl) (Nat.le_of_ble_eq_true rfl)
  have ea : ([Value.ref 999] : List Value).map (cv ad) = [Value.ref b] := by
    show [Value.ref (ad 999)] = _
    rw [e0]
  rw [ea] at hl
  refine key s.heap [] _ ⟨?_, ?_, va_S.rf⟩ hl
  · exact fun k q hq => by simp [Sk, wld] at hq
  · exact ⟨fun i j p q hq => by simp [Sk, wld] at hq, fun k q hq => by simp [Sk, wld] at hq⟩
