theorem wl_364 : (Jvm.Cond.laysStatic "HoleFair$Grid" "STEP_X" "[I") ∈ lw_tbl := wc_2 (List.mem_of_getElem? (i := 124) (by decide +kernel))
theorem wl_366 : (Jvm.Cond.laysStatic "HoleFair$Grid" "STEP_Y" "[I") ∈ lw_tbl := wc_2 (List.mem_of_getElem? (i := 126) (by decide +kernel))
theorem wl_919 : (Jvm.Cond.laysStatic "HoleFair$Grid" "SIDE_X" "[I") ∈ lw_tbl := wc_4 (List.mem_of_getElem? (i := 199) (by decide +kernel))
theorem wl_921 : (Jvm.Cond.laysStatic "HoleFair$Grid" "SIDE_Y" "[I") ∈ lw_tbl := wc_4 (List.mem_of_getElem? (i := 201) (by decide +kernel))
theorem wl_445 : (Jvm.Cond.stringRef "HoleFair$LawReader" (87 : Nat) "inhxymkspdwq") ∈ lw_tbl := wc_2 (List.mem_of_getElem? (i := 205) (by decide +kernel))
theorem wl_459 : (Jvm.Cond.laysStatic "java/lang/String" "COMPACT_STRINGS" "Z") ∈ lw_tbl := wc_2 (List.mem_of_getElem? (i := 219) (by decide +kernel))
set_option maxRecDepth 100000 in
theorem ax_STEP_X {s : State} {b : Nat} {A : Nat → Prop} (hts : ∀ w ∈ lw_tbl, w.before #[Value.ref b] s = true) (hs : ∀ c ∈ flatC (Jvm.Cond.and given_1 narrow_1), c.before #[Value.ref b] s = true) (hA : ∀ a : Nat, a < s.heap.size → ¬ A a) : aX1 A s "STEP_X" 8 gSX := by
  obtain ⟨t, h1, h2⟩ := va_Tof (tm := (Term.static "HoleFair$Grid" "STEP_X" "[I")) (ty := .int) (N := 8) (f := fun j => .int (gSX j)) (A := A) (by decide) (hs _ (by decide +kernel)) (va_eqt (hs (Cond.eq (.length (Term.static "HoleFair$Grid" "STEP_X" "[I")) (.int 8)) (by decide +kernel))) (fun j hj => va_eqt (hs _ ((by decide +kernel : ∀ j, j < 8 → Cond.eq (.elem (Term.static "HoleFair$Grid" "STEP_X" "[I") (.int (Int32.ofNat j))) (.int (gSX j)) ∈ flatC (Jvm.Cond.and given_1 narrow_1)) j hj))) hA
  exact ⟨t, va_Zof (hts _ wl_364) (hts _ wd_12) h1 hA, h2⟩
set_option maxRecDepth 100000 in
theorem ax_STEP_Y {s : State} {b : Nat} {A : Nat → Prop} (hts : ∀ w ∈ lw_tbl, w.before #[Value.ref b] s = true) (hs : ∀ c ∈ flatC (Jvm.Cond.and given_1 narrow_1), c.before #[Value.ref b] s = true) (hA : ∀ a : Nat, a < s.heap.size → ¬ A a) : aX1 A s "STEP_Y" 8 gSY := by
  obtain ⟨t, h1, h2⟩ := va_Tof (tm := (Term.static "HoleFair$Grid" "STEP_Y" "[I")) (ty := .int) (N := 8) (f := fun j => .int (gSY j)) (A := A) (by decide) (hs _ (by decide +kernel)) (va_eqt (hs (Cond.eq (.length (Term.static "HoleFair$Grid" "STEP_Y" "[I")) (.int 8)) (by decide +kernel))) (fun j hj => va_eqt (hs _ ((by decide +kernel : ∀ j, j < 8 → Cond.eq (.elem (Term.static "HoleFair$Grid" "STEP_Y" "[I") (.int (Int32.ofNat j))) (.int (gSY j)) ∈ flatC (Jvm.Cond.and given_1 narrow_1)) j hj))) hA
  exact ⟨t, va_Zof (hts _ wl_366) (hts _ wd_12) h1 hA, h2⟩
set_option maxRecDepth 100000 in
theorem ax_SIDE_X {s : State} {b : Nat} {A : Nat → Prop} (hts : ∀ w ∈ lw_tbl, w.before #[Value.ref b] s = true) (hs : ∀ c ∈ flatC (Jvm.Cond.and given_1 narrow_1), c.before #[Value.ref b] s = true) (hA : ∀ a : Nat, a < s.heap.size → ¬ A a) : aX1 A s "SIDE_X" 4 gDX := by
  obtain ⟨t, h1, h2⟩ := va_Tof (tm := (Term.static "HoleFair$Grid" "SIDE_X" "[I")) (ty := .int) (N := 4) (f := fun j => .int (gDX j)) (A := A) (by decide) (hs _ (by decide +kernel)) (va_eqt (hs (Cond.eq (.length (Term.static "HoleFair$Grid" "SIDE_X" "[I")) (.int 4)) (by decide +kernel))) (fun j hj => va_eqt (hs _ ((by decide +kernel : ∀ j, j < 4 → Cond.eq (.elem (Term.static "HoleFair$Grid" "SIDE_X" "[I") (.int (Int32.ofNat j))) (.int (gDX j)) ∈ flatC (Jvm.Cond.and given_1 narrow_1)) j hj))) hA
  exact ⟨t, va_Zof (hts _ wl_919) (hts _ wd_12) h1 hA, h2⟩
set_option maxRecDepth 100000 in
theorem ax_SIDE_Y {s : State} {b : Nat} {A : Nat → Prop} (hts : ∀ w ∈ lw_tbl, w.before #[Value.ref b] s = true) (hs : ∀ c ∈ flatC (Jvm.Cond.and given_1 narrow_1), c.before #[Value.ref b] s = true) (hA : ∀ a : Nat, a < s.heap.size → ¬ A a) : aX1 A s "SIDE_Y" 4 gDY := by
  obtain ⟨t, h1, h2⟩ := va_Tof (tm := (Term.static "HoleFair$Grid" "SIDE_Y" "[I")) (ty := .int) (N := 4) (f := fun j => .int (gDY j)) (A := A) (by decide) (hs _ (by decide +kernel)) (va_eqt (hs (Cond.eq (.length (Term.static "HoleFair$Grid" "SIDE_Y" "[I")) (.int 4)) (by decide +kernel))) (fun j hj => va_eqt (hs _ ((by decide +kernel : ∀ j, j < 4 → Cond.eq (.elem (Term.static "HoleFair$Grid" "SIDE_Y" "[I") (.int (Int32.ofNat j))) (.int (gDY j)) ∈ flatC (Jvm.Cond.and given_1 narrow_1)) j hj))) hA
  exact ⟨t, va_Zof (hts _ wl_921) (hts _ wd_12) h1 hA, h2⟩
set_option maxRecDepth 100000 in
theorem ax_str {s : State} {b : Nat} {A : Nat → Prop} (hts : ∀ w ∈ lw_tbl, w.before #[Value.ref b] s = true) (hs : ∀ c ∈ flatC (Jvm.Cond.and given_1 narrow_1), c.before #[Value.ref b] s = true) (hA : ∀ a : Nat, a < s.heap.size → ¬ A a) : aXs A s := by
  obtain ⟨adK, adV, h1, h2⟩ := vk_Sof (args := #[Value.ref b]) (s := s) (N := 1) (tm := fun _ => Term.string "HoleFair$LawReader" 87) (len := [12]) (byt := [[105, 110, 104, 120, 121, 109, 107, 115, 112, 100, 119, 113]]) (A := A) (by decide) (fun i hi => hs _ (by decide +kernel)) (fun i hi => hs _ (by decide +kernel)) (fun i hi => hs _ (by decide +kernel)) (fun i hi => hs _ ((by decide +kernel : ∀ i, i < 1 → Cond.eq (.length (.field (Term.string "HoleFair$LawReader" 87) "java/lang/String" "value" "[B")) (.int (Int32.ofNat (([12] : List Nat).getD i 0))) ∈ flatC (Jvm.Cond.and given_1 narrow_1)) i hi)) (fun i hi j hj => hs _ ((by decide +kernel : ∀ i, i < 1 → ∀ j, j < ([12] : List Nat).getD i 0 → Cond.eq (.elem (.field (Term.string "HoleFair$LawReader" 87) "java/lang/String" "value" "[B") (.int (Int32.ofNat j))) (.int ((([[105, 110, 104, 120, 121, 109, 107, 115, 112, 100, 119, 113]] : List (List Int32)).getD i []).getD j 0)) ∈ flatC (Jvm.Cond.and given_1 narrow_1)) i hi j hj)) (fun i j hi hj hne => absurd (show i = j by omega) hne) hA
  exact ⟨adK, adV, vk_R.of (hts _ wl_445) (h2 0 (by omega)), h1, va_Zof (hts _ wl_459) (hts _ wd_13) (va_eqi (hs (Cond.eq (.static "java/lang/String" "COMPACT_STRINGS" "Z") (.int 1)) (by decide +kernel))) hA⟩
theorem aX_start {s : State} {b : Nat} {A : Nat → Prop} (hts : ∀ w ∈ lw_tbl, w.before #[Value.ref b] s = true) (hgv : (Jvm.Cond.and given_1 narrow_1).before #[Value.ref b] s = true) (hA : ∀ a : Nat, a < s.heap.size → ¬ A a) : aX A s := by
  have hs := flat_of_before _ hgv
  exact ⟨ax_STEP_X hts hs hA, ax_STEP_Y hts hs hA, ax_SIDE_X hts hs hA, ax_SIDE_Y hts hs hA, ax_str hts hs hA⟩
theorem lArr {s : State} {args : Array Value} {ty : FieldType} (h : (Cond.arrayClass ty).before args s = true) : ∃ c : ClassId, ArrOfT s c ty ∧ s.vm.findClass ("[" ++ ty.toString) = some c := by
  obtain ⟨c, k, comp, h1, h2, h3⟩ := Cond.arrayClass_spec h
  exact ⟨c, fun n z => ⟨fun k h => (by cases h), k, h2, comp, h3⟩, h1⟩
theorem nWs_aWs {n : Nat} {K : aK} {G : aG} {h : aH} (hh : ∀ k, k < n → ∀ (o : Nat × List Bool), K k = .inl o → ∀ j, j < o.2.length → (o.2[j]?).getD false = true → gR h k j ≠ nMark) : nWs n K G h = aWs (n, K) G h := by
  unfold nWs aWs
  apply List.map_congr_left
  intro k hk
  have hk := List.mem_range.mp hk
  have e : nE G K h k = aE G K h k := by
    simp only [nE, aE]
    cases hK : K k with
    | inl o =>
      have e : nFs G.2.1 h k o.2 = aFs G.2.1 h k o.2 := by
        unfold nFs aFs
        apply List.map_congr_left
        intro j hj
        have hj := List.mem_range.mp hj
        unfold nV aV
        by_cases c : (o.2[j]?).getD false = true
        · rw [if_pos c, if_pos c, if_neg (hh k hk o hK j hj c)]
        · rw [if_neg c, if_neg c]
      simp only [e]
    | inr q => rfl
  rw [e]
def nChk (n : Nat) (K : aK) (h : aH) : Bool := (List.range n).all (fun k => match K k with
  | .inl o => (List.range o.2.length).all (fun j => !((o.2[j]?).getD false) || !(decide (gR h k j = nMark)))
  | .inr _ => true)
theorem nChk_ok {n : Nat} {K : aK} {h : aH} (hc : nChk n K h = true) : ∀ k, k < n → ∀ (o : Nat × List Bool), K k = .inl o → ∀ j, j < o.2.length → (o.2[j]?).getD false = true → gR h k j ≠ nMark := by
  intro k hk o ho j hj hb hm
  have h1 := List.all_eq_true.mp hc k (List.mem_range.mpr hk)
  rw [ho] at h1
  have h2 := List.all_eq_true.mp h1 j (List.mem_range.mpr hj)
  rw [hb, hm] at h2
  simp at h2
theorem nChk_C : nChk 78 KX10 (hX10 hB) = true := by decide +kernel
theorem nChk_M : nChk 47 KX11 (hX11 hB) = true := by decide +kernel

set_option maxHeartbeats 4000000 in
set_option maxRecDepth 100000 in
theorem whole_of {Inv : aH → aH → Prop} (h0 : Inv (hX10 hB) (hX11 hB)) (s_ice : st_ice Inv (78, KX10) (47, KX11)) (s_feed : st_feed Inv (78, KX10) (47, KX11)) (s_law : st_law Inv (78, KX10) (47, KX11)) (s_cut : st_cut Inv (78, KX10) (47, KX11)) (s_shut : st_shut Inv (78, KX10) (47, KX11)) (s_group : st_group Inv (78, KX10) (47, KX11)) (s_settle : st_settle Inv (78, KX10) (47, KX11)) (s_minutes : st_minutes Inv (78, KX10) (47, KX11)) (s_run : st_run Inv (78, KX10) (47, KX11)) (s_square : st_square Inv (78, KX10) (47, KX11)) (s_holeIs : st_holeIs Inv (78, KX10) (47, KX11)) (s_groupIs : st_groupIs Inv (78, KX10) (47, KX11)) (s_draws : st_draws Inv (78, KX10) (47, KX11)) (s_sound : st_sound Inv (78, KX10) (47, KX11)) (s_places : st_places Inv (78, KX10) (47, KX11)) (s_closing : st_closing Inv (78, KX10) (47, KX11)) (s_rescue : st_rescue Inv (78, KX10) (47, KX11)) (s_began : st_began Inv (78, KX10) (47, KX11)) (s_fee : st_fee Inv (78, KX10) (47, KX11)) (s_row : st_row Inv (78, KX10) (47, KX11)) (s_seed : st_seed Inv (78, KX10) (47, KX11)) (s_draw : st_draw Inv (78, KX10) (47, KX11)) (s_keep : st_keep Inv (78, KX10) (47, KX11)) (s_undo : st_undo Inv (78, KX10) (47, KX11)) (s_check : st_check Inv (78, KX10) (47, KX11)) (s_count : st_count Inv (78, KX10) (47, KX11)) {p : Program} {e : Env} {s : State} {m : MethodId} {below : List Frame} {meth : Method} {c : Code} (l : Launch) {b L : Nat} {xs : Nat → Int32} (hL : L ≤ 3584) (C0 : lw_At p s m meth c b L xs) : W p l e room_1 s m #[Value.ref b] below meth c s.heap [] 0 0 (lw_Z below #[Value.ref b] s) (entryFrame m ([Value.ref b] : List Value).toArray 4) := by
  obtain ⟨hx, hb, hr, hml, hown, hts, hX, hbl, hlocks, hgv⟩ := id C0
  have hA : ∀ q : Nat, s.heap.size ≤ q → (fun q : Nat => s.heap.size ≤ q) q := fun _ h => h
  obtain ⟨c0, iS0, hKn0⟩ := u_known (C := RX0) (T := TX0) (N := 7) (n := 7) hts (fun w hw => (List.mem_filter.mp (iw_X0 w hw)).1) (hts (.instantiable RX0 7) wd_252)
  obtain ⟨c1, iS1, hKn1⟩ := u_known (C := RX2) (T := TX2) (N := 15) (n := 15) hts (fun w hw => (List.mem_filter.mp (iw_X2 w hw)).1) (hts (.instantiable RX2 15) wd_30)
  obtain ⟨c2, iS2, hKn2⟩ := u_known (C := RX3) (T := TX3) (N := 10) (n := 10) hts (fun w hw => (List.mem_filter.mp (iw_X3 w hw)).1) (hts (.instantiable RX3 10) wd_162)
  obtain ⟨c3, iS3, hKn3⟩ := u_known (C := RX4) (T := TX4) (N := 5) (n := 5) hts (fun w hw => (List.mem_filter.mp (iw_X4 w hw)).1) (hts (.instantiable RX4 5) wd_208)
  obtain ⟨c4, iS4, hKn4⟩ := u_known (C := RX5) (T := TX5) (N := 2) (n := 2) hts (fun w hw => (List.mem_filter.mp (iw_X5 w hw)).1) (hts (.instantiable RX5 2) wd_156)
  obtain ⟨c5, iS5, hKn5⟩ := u_known (C := RX6) (T := TX6) (N := 5) (n := 5) hts (fun w hw => (List.mem_filter.mp (iw_X6 w hw)).1) (hts (.instantiable RX6 5) wd_280)
  obtain ⟨c6, iS6, hKn6⟩ := u_known (C := RX7) (T := TX7) (N := 4) (n := 4) hts (fun w hw => (List.mem_filter.mp (iw_X7 w hw)).1) (hts (.instantiable RX7 4) wd_232)
  obtain ⟨c7, iS7, hKn7⟩ := u_known (C := RX8) (T := TX8) (N := 2) (n := 2) hts (fun w hw => (List.mem_filter.mp (iw_X8 w hw)).1) (hts (.instantiable RX8 2) wd_117)
  obtain ⟨c8, iS8, hKn8⟩ := u_known (C := RX9) (T := TX9) (N := 3) (n := 3) hts (fun w hw => (List.mem_filter.mp (iw_X9 w hw)).1) (hts (.instantiable RX9 3) wd_133)
  obtain ⟨c9, iS9, hKn9⟩ := u_known (C := RX10) (T := TX10) (N := 11) (n := 11) hts (fun w hw => (List.mem_filter.mp (iw_X10 w hw)).1) (hts (.instantiable RX10 11) wd_22)
  obtain ⟨c10, iS10, hKn10⟩ := u_known (C := RX11) (T := TX11) (N := 70) (n := 70) hts (fun w hw => (List.mem_filter.mp (iw_X11 w hw)).1) (hts (.instantiable RX11 70) wd_1031)
  obtain ⟨dC, dI, hKc⟩ : ∃ (dC : Nat → ClassId) (dI : Nat → Nat → Nat), ∀ (k : Nat) (q : vw_C), vwCl[k]? = some q → u_Kn s q.1 q.2.1 q.2.2 (dC k) (dI k) := by
    refine ⟨fun k => if k = 0 then c0 else if k = 1 then c1 else if k = 2 then c2 else if k = 3 then c3 else if k = 4 then c4 else if k = 5 then c5 else if k = 6 then c6 else if k = 7 then c7 else if k = 8 then c8 else if k = 9 then c9 else c10, fun k => if k = 0 then iS0 else if k = 1 then iS1 else if k = 2 then iS2 else if k = 3 then iS3 else if k = 4 then iS4 else if k = 5 then iS5 else if k = 6 then iS6 else if k = 7 then iS7 else if k = 8 then iS8 else if k = 9 then iS9 else iS10, ?_⟩
    intro k q hq
    match k, hq with
    | 0, hq => cases hq; exact hKn0
    | 1, hq => cases hq; exact hKn1
    | 2, hq => cases hq; exact hKn2
    | 3, hq => cases hq; exact hKn3
    | 4, hq => cases hq; exact hKn4
    | 5, hq => cases hq; exact hKn5
    | 6, hq => cases hq; exact hKn6
    | 7, hq => cases hq; exact hKn7
    | 8, hq => cases hq; exact hKn8
    | 9, hq => cases hq; exact hKn9
    | 10, hq => cases hq; exact hKn10
    | k + 11, hq => simp [vwCl] at hq
  obtain ⟨a0, ar0, af0⟩ := lArr (hts _ wd_115)
  obtain ⟨a1, ar1, af1⟩ := lArr (hts _ wd_250)
  obtain ⟨a2, ar2, af2⟩ := lArr (hts _ wd_552)
  obtain ⟨cA, e0, e1, e2⟩ : ∃ cA : Nat → ClassId, cA 0 = a0 ∧ cA 1 = a1 ∧ cA 2 = a2 := ⟨fun k => if k = 0 then a0 else if k = 1 then a1 else a2, rfl, rfl, rfl⟩
  have hK : ∀ ad : Nat → Nat, va_K (dC, dI) vwCl (aTy ((dC, dI), ad, cA)) s := fun ad => ⟨hKc, fun k q hq => by
    match k, hq with
    | 0, hq => cases hq; show ArrOfT s (cA 0) .int ∧ va_RA s (cA 0) .int; rw [e0]; exact ⟨ar0, af0⟩
    | 1, hq => cases hq; show ArrOfT s (cA 1) .boolean ∧ va_RA s (cA 1) .boolean; rw [e1]; exact ⟨ar1, af1⟩
    | 2, hq => cases hq; show ArrOfT s (cA 2) .byte ∧ va_RA s (cA 2) .byte; rw [e2]; exact ⟨ar2, af2⟩
    | k + 3, hq => simp [aTy] at hq⟩
  have hN : nNest s := fun a i x o hm => va_Nw.of rfl (hts _ hm)
  have hS : va_S (fun q : Nat => s.heap.size ≤ q) s.heap s.heap [] := va_S.rf
  have hP : va_P (dC, dI) vwCl [] s.heap := fun k q h => by simp at h
  have hD : va_D (fun q : Nat => s.heap.size ≤ q) [] := ⟨fun i j p q h => by simp at h, fun k q h => by simp at h⟩
  have hl := lv_entry ([.ref b]) (n := 4) (Nat.le_of_ble_eq_true rfl)
  rw [lg_entry_eq]
  generalize (lg_sl ([.ref b]) ++ List.replicate (4 - (lg_sl ([.ref b])).length) Slot.unset).toArray = ls at hl ⊢
  have hl : lv_has ls 4 [(0, .ref b)] := hl
  -- new HoleFair()
  refine va_new (ci := 9) (fs := nFs (fun _ => 0) hB 0 flX10) (C := RX10) (T := TX10) (N := 11) hx hb hts (fun w hw => (List.mem_filter.mp (iw_X10 w hw)).1) tyX10 tyX10_ok hown (hts _ wd_21) (hts (.instantiable RX10 11) wd_22) (hts (.initialized RX10) wd_1) (hK (fun _ => 0)) hP hD hS hA rfl (by decide) (Nat.le_of_ble_eq_true rfl) (Nat.le_of_ble_eq_true rfl) dL_law_0 (fun q0 H hP hD hS => ?_)
  refine lv_dup hx hb dL_law_3 rfl ?_
  have hP : va_P (dC, dI) vwCl (nWs 1 KX10 ((dC, dI), (fun _ => q0), cA) hB) H := hP
  have hD : va_D (fun q : Nat => s.heap.size ≤ q) (nWs 1 KX10 ((dC, dI), (fun _ => q0), cA) hB) := hD
  have hsub : ∀ q, nA (fun _ => q0) 1 H.size q → s.heap.size ≤ q := fun q hq => by
    rcases hq with ⟨j, hj, e⟩ | hq
    · rw [e]; exact hD.2 j _ (nWs_get (G := ((dC, dI), (fun _ => q0), cA)) hj)
    · exact Nat.le_trans hS.1 hq
  refine va_callv (va_runI (As := []) (rest := [.ref q0]) ⟨hx, hb, hml, hown, hts⟩ (nm_X10 (l := l) (K := KX10) (D := (dC, dI)) (cA := cA) (fun _ _ => rfl) hB (nOk_B 1) (fun _ => q0) H.size) ⟨callB_of 0 hts (aW0_goodL mf_X10_init) rfl rfl rfl (hts _ mf_X10_init.2.1) (hts _ wd_23) mf_X10_init.2.2.1 ⟨Nat.le_of_ble_eq_true rfl, Nat.le_of_ble_eq_true rfl⟩, rfl, hts _ wd_24⟩ ⟨nBlind, fun U hU hW => ⟨rfl, by rw [hU], by rw [hU]; exact hP, va_K.moved hW.alike (hK _), hD.weaken (fun _ _ _ _ => trivial), nNest_warm hW hN⟩⟩ rfl rfl hl.1 rfl (lv_room (Nat.le_of_ble_eq_true rfl)) dL_law_4 ⟨Nat.le_of_ble_eq_true rfl, Nat.le_of_ble_eq_true rfl⟩) hS (fun q _ h => hsub q h) hsub (fun adC t H1 locs ht hvm hp hB1 hz1 hk1 hS => ?_)
  obtain ⟨hPC, hDC⟩ := hB1
  rw [ht] at hPC
  rw [nWs_aWs (nChk_ok nChk_C)] at hPC hDC
  have eC : adC 0 = q0 := hp 0 (by decide)
  rw [← eC]
  have hDC2 : va_D (fun q : Nat => s.heap.size ≤ q) (aWs (78, KX10) ((dC, dI), adC, cA) (hX10 hB)) := hDC.weaken (fun _ _ _ h => hsub _ h)
  refine lv_astore_n (lv' := [(1, .ref (adC 0)), (0, .ref b)]) hx hb dL_law_7 rfl hl (by decide) rfl (fun ls hl => ?_)
  -- new HoleFairModel()
  refine va_new (ci := 10) (fs := nFs (fun _ => 0) hB 0 flX11) (C := RX11) (T := TX11) (N := 70) hx hb hts (fun w hw => (List.mem_filter.mp (iw_X11 w hw)).1) tyX11 tyX11_ok hown (hts _ wd_1030) (hts (.instantiable RX11 70) wd_1031) (hts (.initialized RX11) wd_11) (hK (fun _ => 0)) hPC hDC2 hS hA rfl (by decide) (Nat.le_of_ble_eq_true rfl) (Nat.le_of_ble_eq_true rfl) dL_law_8 (fun q1 H hPb hDb hS => ?_)
  refine lv_dup hx hb dL_law_11 rfl ?_
  have hlenC : (aWs (78, KX10) ((dC, dI), adC, cA) (hX10 hB)).length = 78 := by simp [aWs]
  have hP1 : va_P (dC, dI) vwCl (nWs 1 KX11 ((dC, dI), (fun _ => q1), cA) hB) H := fun k q hk => by
    have hk' := nWs_lt hk
    have hk0 : k = 0 := by omega
    subst hk0
    refine hPb 78 q ?_
    rw [List.getElem?_append_right (by rw [hlenC]; omega), hlenC]
    exact hk
  have hPC : va_P (dC, dI) vwCl (aWs (78, KX10) ((dC, dI), adC, cA) (hX10 hB)) H := fun k q hk => hPb k q (by
    rw [List.getElem?_append_left (List.getElem?_eq_some_iff.mp hk).1]; exact hk)
  have hq1 : ∀ i, i < 78 → adC i ≠ q1 := fun i hi e => by
    have h1 : (aWs (78, KX10) ((dC, dI), adC, cA) (hX10 hB) ++ [(q1, .inr (10, nFs (fun _ => 0) hB 0 flX11))])[i]? = some (adC i, aE ((dC, dI), adC, cA) KX10 (hX10 hB) i) := by
      rw [List.getElem?_append_left (by rw [hlenC]; exact hi)]
      exact aWs_get (S := (78, KX10)) (G := ((dC, dI), adC, cA)) hi
    have h2 : (aWs (78, KX10) ((dC, dI), adC, cA) (hX10 hB) ++ [(q1, .inr (10, nFs (fun _ => 0) hB 0 flX11))])[78]? = some (q1, .inr (10, nFs (fun _ => 0) hB 0 flX11)) := by
      rw [List.getElem?_append_right (by rw [hlenC]; omega), hlenC]
      rfl
    have := hDb.1 i 78 _ _ h1 h2 e
    omega
  have hq1s : s.heap.size ≤ q1 := hDb.2 78 (q1, .inr (10, nFs (fun _ => 0) hB 0 flX11)) (by
    rw [List.getElem?_append_right (by rw [hlenC]; omega), hlenC]
    rfl)
  have hD1 : va_D (fun _ => True) (nWs 1 KX11 ((dC, dI), (fun _ => q1), cA) hB) := ⟨fun i j x y hi hj _ => by
    have h1 := nWs_lt hi
    have h2 := nWs_lt hj
    omega, fun _ _ _ => trivial⟩
  have hsub1 : ∀ q, nA (fun _ => q1) 1 H.size q → s.heap.size ≤ q := fun q hq => by
    rcases hq with ⟨j, hj, e⟩ | hq
    · rw [e]; exact hq1s
    · exact Nat.le_trans hS.1 hq
  have hClt : ∀ i, i < 78 → adC i < H.size := fun i hi => (hPC i _ (aWs_get (S := (78, KX10)) (G := ((dC, dI), adC, cA)) hi)).lt
  refine va_callv (va_runI (As := []) (rest := [.ref q1]) ⟨hx, hb, hml, hown, hts⟩ (nm_X11 (l := l) (K := KX11) (D := (dC, dI)) (cA := cA) (fun _ _ => rfl) hB (nOk_B 1) (fun _ => q1) H.size) ⟨callB_of 0 hts (aW0_goodL mf_X11_init) rfl rfl rfl (hts _ mf_X11_init.2.1) (hts _ wd_1032) mf_X11_init.2.2.1 ⟨Nat.le_of_ble_eq_true rfl, Nat.le_of_ble_eq_true rfl⟩, rfl, hts _ wd_1033⟩ ⟨nBlind, fun U hU hW => ⟨rfl, by rw [hU], by rw [hU]; exact hP1, va_K.moved hW.alike (hK _), hD1, nNest_warm hW hN⟩⟩ rfl rfl hl.1 rfl (lv_room (Nat.le_of_ble_eq_true rfl)) dL_law_12 ⟨Nat.le_of_ble_eq_true rfl, Nat.le_of_ble_eq_true rfl⟩) hS (fun q _ h => hsub1 q h) hsub1 (fun adM t H1 locs ht hvm hp hB1 hz1 hk1 hS => ?_)
  obtain ⟨hPM, hDM⟩ := hB1
  rw [ht] at hPM
  rw [nWs_aWs (nChk_ok nChk_M)] at hPM hDM
  have eM : adM 0 = q1 := hp 0 (by decide)
  have hadM : ∀ j, j < 47 → adM j = q1 ∨ H.size ≤ adM j := fun j hj => by
    have := hDM.2 j _ (aWs_get (S := (47, KX11)) (G := ((dC, dI), adM, cA)) hj)
    rcases this with ⟨i, hi, e⟩ | h
    · exact Or.inl e
    · exact Or.inr h
  have hPC : va_P (dC, dI) vwCl (aWs (78, KX10) ((dC, dI), adC, cA) (hX10 hB)) H1 := by
    refine hPC.kept (fun k q hq => ?_)
    have hk' : k < 78 := by
      have := (List.getElem?_eq_some_iff.mp hq).1
      rw [hlenC] at this
      exact this
    rw [aWs_get (S := (78, KX10)) (G := ((dC, dI), adC, cA)) hk'] at hq
    cases hq
    refine hk1 _ (hClt k hk') (fun z => ?_)
    rcases z with ⟨i, hi, e⟩ | z
    · exact hq1 k hk' e
    · have := hClt k hk'
      have z : H.size ≤ adC k := z
      omega
  rw [← eM]
  refine lv_astore_n (lv' := [(2, .ref (adM 0)), (1, .ref (adC 0)), (0, .ref b)]) hx hb dL_law_15 rfl hl (by decide) rfl (fun ls hl => ?_)
  refine lv_iconst (v := 0) hx hb dL_law_16 (by decide) ?_
  refine lv_istore_n (lv' := [(3, .int 0), (2, .ref (adM 0)), (1, .ref (adC 0)), (0, .ref b)]) hx hb dL_law_17 rfl hl (by decide) rfl (fun ls hl => ?_)
  have hlowC : ∀ i, i < 78 → s.heap.size ≤ adC i := fun i hi => hDC2.2 i _ (aWs_get (S := (78, KX10)) (G := ((dC, dI), adC, cA)) hi)
  have hlowM : ∀ i, i < 47 → s.heap.size ≤ adM i := fun i hi => hsub1 _ (hDM.2 i _ (aWs_get (S := (47, KX11)) (G := ((dC, dI), adM, cA)) hi))
  have hself : ∀ (S : aS) (G : aG) (h : aH) (A : Nat → Prop), va_D A (aWs S G h) → va_D (aA S G) (aWs S G h) := fun S G h A hd => ⟨hd.1, fun k q hk => by
    have hk' : k < S.1 := by
      have := (List.getElem?_eq_some_iff.mp hk).1
      simpa [aWs] using this
    rw [aWs_get hk'] at hk
    cases hk
    exact ⟨k, hk', rfl⟩⟩
  exact law_loop (l := l) (SC := (78, KX10)) (SM := (47, KX11)) (D := (dC, dI)) (cA := cA) (adC := adC) (adM := adM) (b := b) (L := L) (xs := xs) (cN := 125) (sN := 17038) (Inv := Inv) (by decide) (by decide) ⟨by decide, rfl⟩ ⟨by decide, rfl⟩ s_ice s_feed s_law s_cut s_shut s_group s_settle s_minutes s_run s_square s_holeIs s_groupIs s_draws s_sound s_places s_closing s_rescue s_began s_fee s_row s_seed s_draw s_keep s_undo s_check s_count hL (L + 1) 0 (by omega) (by omega) (hX10 hB) (hX11 hB) h0 p e s m below meth c H1 locs ls C0 ⟨hK _, aX_start hts hgv (fun a ha z => by obtain ⟨i, hi, e⟩ := z; have := hlowC i hi; simp at e; omega), aX_start hts hgv (fun a ha z => by obtain ⟨i, hi, e⟩ := z; have := hlowM i hi; simp at e; omega), hlowC, hlowM, fun i j hi hj e => by
    rcases hadM j hj with h | h
    · exact hq1 i hi (e.trans h)
    · have := hClt i hi
      omega⟩ ⟨hPC, hself _ _ _ _ hDC2, hPM, hself _ _ _ _ hDM, hS⟩ (lv_sub hl [3, 2, 1, 0] rfl)

