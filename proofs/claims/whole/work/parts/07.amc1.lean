set_option maxHeartbeats 4000000 in
set_option maxRecDepth 100000 in
theorem am_X1_xOf {l : Launch} {S : aS} {G : aG} (d : Nat) {a0 : Int32} {h : aH} {Q : Int32 → aH → Prop} (H : f_X1_xOf S a0 h Q) : AMi l S G d M_X1_xOf [.int a0] h Q := by
  unfold f_X1_xOf at H
  refine am_of mf_X1_xOf (Nat.le_of_ble_eq_true rfl) (lv0 := [(0, .int a0)]) rfl ?_
  refine aw_iload_n dX1_xOf_0 rfl 0 rfl ?_
  refine aw_bipush (v := 15) dX1_xOf_1 (by decide) ?_
  refine aw_iand dX1_xOf_3 ?_
  exact aw_iret rfl H dX1_xOf_4
set_option maxHeartbeats 4000000 in
set_option maxRecDepth 100000 in
theorem am_X1_yOf {l : Launch} {S : aS} {G : aG} (d : Nat) {a0 : Int32} {h : aH} {Q : Int32 → aH → Prop} (H : f_X1_yOf S a0 h Q) : AMi l S G d M_X1_yOf [.int a0] h Q := by
  unfold f_X1_yOf at H
  refine am_of mf_X1_yOf (Nat.le_of_ble_eq_true rfl) (lv0 := [(0, .int a0)]) rfl ?_
  refine aw_iload_n dX1_yOf_0 rfl 0 rfl ?_
  refine aw_iconst (v := 4) dX1_yOf_1 (by decide) ?_
  refine aw_ishr dX1_yOf_2 ?_
  exact aw_iret rfl H dX1_yOf_3
set_option maxHeartbeats 4000000 in
set_option maxRecDepth 100000 in
theorem am_X1_has {l : Launch} {S : aS} {G : aG} (d : Nat) {a0 : Int32} {a1 : Int32} {h : aH} {Q : Int32 → aH → Prop} (H : f_X1_has S a0 a1 h Q) : AMi l S G d M_X1_has [.int a0, .int a1] h Q := by
  unfold f_X1_has at H
  refine am_of mf_X1_has (Nat.le_of_ble_eq_true rfl) (lv0 := [(0, .int a0), (1, .int a1)]) rfl ?_
  refine aw_iload_n dX1_has_0 rfl 0 rfl ?_
  refine aw_if_lt (tgt := 24) dX1_has_1 (by decide) (fun c1 => ?_) (fun c1 => ?_)
  · replace H := a_pos c1 H
    refine aw_iconst (v := 0) dX1_has_24 (by decide) ?_
    exact aw_zret rfl rfl H dX1_has_25
  · replace H := a_neg c1 H
    refine aw_iload_n dX1_has_4 rfl 0 rfl ?_
    refine aw_bipush (v := 16) dX1_has_5 (by decide) ?_
    refine aw_icmp_ge (tgt := 24) dX1_has_7 (by decide) (fun c2 => ?_) (fun c2 => ?_)
    · replace H := a_pos c2 H
      refine aw_iconst (v := 0) dX1_has_24 (by decide) ?_
      exact aw_zret rfl rfl H dX1_has_25
    · replace H := a_neg c2 H
      refine aw_iload_n dX1_has_10 rfl 1 rfl ?_
      refine aw_if_lt (tgt := 24) dX1_has_11 (by decide) (fun c3 => ?_) (fun c3 => ?_)
      · replace H := a_pos c3 H
        refine aw_iconst (v := 0) dX1_has_24 (by decide) ?_
        exact aw_zret rfl rfl H dX1_has_25
      · replace H := a_neg c3 H
        refine aw_iload_n dX1_has_14 rfl 1 rfl ?_
        refine aw_bipush (v := 16) dX1_has_15 (by decide) ?_
        refine aw_icmp_ge (tgt := 24) dX1_has_17 (by decide) (fun c4 => ?_) (fun c4 => ?_)
        · replace H := a_pos c4 H
          refine aw_iconst (v := 0) dX1_has_24 (by decide) ?_
          exact aw_zret rfl rfl H dX1_has_25
        · replace H := a_neg c4 H
          refine aw_iconst (v := 1) dX1_has_20 (by decide) ?_
          refine aw_goto (tgt := 25) dX1_has_21 (by decide) ?_
          exact aw_zret rfl rfl H dX1_has_25
set_option maxHeartbeats 4000000 in
set_option maxRecDepth 100000 in
theorem am_X1_at {l : Launch} {S : aS} {G : aG} (d : Nat) {a0 : Int32} {a1 : Int32} {h : aH} {Q : Int32 → aH → Prop} (H : f_X1_at S a0 a1 h Q) : AMi l S G d M_X1_at [.int a0, .int a1] h Q := by
  unfold f_X1_at at H
  refine am_of mf_X1_at (Nat.le_of_ble_eq_true rfl) (lv0 := [(0, .int a0), (1, .int a1)]) rfl ?_
  refine aw_bipush (v := 16) dX1_at_0 (by decide) ?_
  refine aw_iload_n dX1_at_2 rfl 1 rfl ?_
  refine aw_imul dX1_at_3 ?_
  refine aw_iload_n dX1_at_4 rfl 0 rfl ?_
  refine aw_iadd dX1_at_5 ?_
  exact aw_iret rfl H dX1_at_6
set_option maxHeartbeats 4000000 in
set_option maxRecDepth 100000 in
theorem am_X1_beside {l : Launch} {S : aS} {G : aG} (d : Nat) {a0 : Int32} {a1 : Int32} {a2 : Int32} {h : aH} {Q : Int32 → aH → Prop} (H : f_X1_beside S a0 a1 a2 h Q) : AMi l S G (d + 1) M_X1_beside [.int a0, .int a1, .int a2] h Q := by
  unfold f_X1_beside at H
  refine am_of mf_X1_beside (Nat.le_of_ble_eq_true rfl) (lv0 := [(0, .int a0), (1, .int a1), (2, .int a2)]) rfl ?_
  refine aw_iload_n dX1_beside_0 rfl 0 rfl ?_
  refine aw_callS_i (As := [.int a0]) (rest := []) (am_X1_xOf d H) mf_X1_xOf wd_370 wd_371 rfl rfl (Nat.le_of_ble_eq_true rfl) dX1_beside_1 (fun r2 h1 H => ?_)
  refine aw_iload_n dX1_beside_4 rfl 1 rfl ?_
  refine aw_iadd dX1_beside_5 ?_
  refine aw_name (fun x3_3 e_x3_3 => ?_)
  replace H := H x3_3 e_x3_3
  refine aw_istore_n (lv' := [(3, .int x3_3), (0, .int a0), (1, .int a1), (2, .int a2)]) dX1_beside_6 rfl (by decide) rfl ?_
  refine aw_iload_n dX1_beside_7 rfl 1 rfl ?_
  refine aw_callS_i (As := [.int a0]) (rest := []) (am_X1_yOf d H) mf_X1_yOf wd_373 wd_374 rfl rfl (Nat.le_of_ble_eq_true rfl) dX1_beside_8 (fun r5 h4 H => ?_)
  refine aw_iload_n dX1_beside_11 rfl 3 rfl ?_
  refine aw_iadd dX1_beside_12 ?_
  refine aw_name (fun x4_6 e_x4_6 => ?_)
  replace H := H x4_6 e_x4_6
  refine aw_istore (lv' := [(4, .int x4_6), (3, .int x3_3), (0, .int a0), (1, .int a1), (2, .int a2)]) dX1_beside_13 (by decide) rfl ?_
  refine aw_iload_n dX1_beside_15 rfl 1 rfl ?_
  refine aw_iload dX1_beside_16 0 rfl ?_
  refine aw_callS_i (As := [.int x3_3, .int x4_6]) (rest := []) (am_X1_has d H) mf_X1_has wd_376 wd_340 rfl rfl (Nat.le_of_ble_eq_true rfl) dX1_beside_18 (fun r8 h7 H => ?_)
  refine aw_if_eq (tgt := 33) dX1_beside_21 (by decide) (fun c9 => ?_) (fun c9 => ?_)
  · replace H := a_pos c9 H
    refine aw_iconst (v := (-1)) dX1_beside_33 (by decide) ?_
    exact aw_iret rfl H dX1_beside_34
  · replace H := a_neg c9 H
    refine aw_iload_n dX1_beside_24 rfl 1 rfl ?_
    refine aw_iload dX1_beside_25 0 rfl ?_
    refine aw_callS_i (As := [.int x3_3, .int x4_6]) (rest := []) (am_X1_at d H) mf_X1_at wd_377 wd_346 rfl rfl (Nat.le_of_ble_eq_true rfl) dX1_beside_27 (fun r11 h10 H => ?_)
    refine aw_goto (tgt := 34) dX1_beside_30 (by decide) ?_
    exact aw_iret rfl H dX1_beside_34
set_option maxHeartbeats 4000000 in
set_option maxRecDepth 100000 in
theorem am_X1_neighbour {l : Launch} {S : aS} {G : aG} (d : Nat) {a0 : Int32} {a1 : Int32} {h : aH} {Q : Int32 → aH → Prop} (H : f_X1_neighbour S a0 a1 h Q) : AMi l S G (d + 2) M_X1_neighbour [.int a0, .int a1] h Q := by
  unfold f_X1_neighbour at H
  refine am_of mf_X1_neighbour (Nat.le_of_ble_eq_true rfl) (lv0 := [(0, .int a0), (1, .int a1)]) rfl ?_
  refine aw_iload_n dX1_neighbour_0 rfl 0 rfl ?_
  obtain ⟨z1, H⟩ := H
  refine aw_gsld (f := "STEP_X") (N := 8) (v := gSX) (fun X => X.1) dX1_neighbour_1 wd_363 dX1_neighbour_4 rfl 1 rfl dX1_neighbour_5 z1 ?_
  refine aw_name (fun v2 e_v2 => ?_)
  replace H := H v2 e_v2
  obtain ⟨z3, H⟩ := H
  refine aw_gsld (f := "STEP_Y") (N := 8) (v := gSY) (fun X => X.2.1) dX1_neighbour_6 wd_365 dX1_neighbour_9 rfl 1 rfl dX1_neighbour_10 z3 ?_
  refine aw_name (fun v4 e_v4 => ?_)
  replace H := H v4 e_v4
  refine aw_callS_i (As := [.int a0, .int v2, .int v4]) (rest := []) (am_X1_beside d H) mf_X1_beside wd_367 wd_368 rfl rfl (Nat.le_of_ble_eq_true rfl) dX1_neighbour_11 (fun r6 h5 H => ?_)
  exact aw_iret rfl H dX1_neighbour_14
set_option maxHeartbeats 4000000 in
set_option maxRecDepth 100000 in
theorem am_X1_hasSquare {l : Launch} {S : aS} {G : aG} (d : Nat) {a0 : Int32} {h : aH} {Q : Int32 → aH → Prop} (H : f_X1_hasSquare S a0 h Q) : AMi l S G d M_X1_hasSquare [.int a0] h Q := by
  unfold f_X1_hasSquare at H
  refine am_of mf_X1_hasSquare (Nat.le_of_ble_eq_true rfl) (lv0 := [(0, .int a0)]) rfl ?_
  refine aw_iload_n dX1_hasSquare_0 rfl 0 rfl ?_
  refine aw_if_lt (tgt := 15) dX1_hasSquare_1 (by decide) (fun c1 => ?_) (fun c1 => ?_)
  · replace H := a_pos c1 H
    refine aw_iconst (v := 0) dX1_hasSquare_15 (by decide) ?_
    exact aw_zret rfl rfl H dX1_hasSquare_16
  · replace H := a_neg c1 H
    refine aw_iload_n dX1_hasSquare_4 rfl 0 rfl ?_
    refine aw_sipush (v := 256) dX1_hasSquare_5 (by decide) ?_
    refine aw_icmp_ge (tgt := 15) dX1_hasSquare_8 (by decide) (fun c2 => ?_) (fun c2 => ?_)
    · replace H := a_pos c2 H
      refine aw_iconst (v := 0) dX1_hasSquare_15 (by decide) ?_
      exact aw_zret rfl rfl H dX1_hasSquare_16
    · replace H := a_neg c2 H
      refine aw_iconst (v := 1) dX1_hasSquare_11 (by decide) ?_
      refine aw_goto (tgt := 16) dX1_hasSquare_12 (by decide) ?_
      exact aw_zret rfl rfl H dX1_hasSquare_16
set_option maxHeartbeats 4000000 in
set_option maxRecDepth 100000 in
theorem am_X2_isFirm {l : Launch} {S : aS} {G : aG} (d : Nat) {k : Nat} {a1 : Int32} {h : aH} {Q : Int32 → aH → Prop} (o_k : aObj S k 1 flX2) (H : f_X2_isFirm S k a1 h Q) : AMi l S G (d + 1) M_X2_isFirm [.ref (G.2.1 k), .int a1] h Q := by
  unfold f_X2_isFirm at H
  refine am_of mf_X2_isFirm (Nat.le_of_ble_eq_true rfl) (lv0 := [(0, .ref (G.2.1 k)), (1, .int a1)]) rfl ?_
  refine aw_iload_n dX2_isFirm_0 rfl 1 rfl ?_
  refine aw_callS_i (As := [.int a1]) (rest := []) (am_X1_hasSquare d H) mf_X1_hasSquare wd_565 wd_566 rfl rfl (Nat.le_of_ble_eq_true rfl) dX2_isFirm_1 (fun r2 h1 H => ?_)
  refine aw_if_eq (tgt := 21) dX2_isFirm_4 (by decide) (fun c3 => ?_) (fun c3 => ?_)
  · replace H := a_pos c3 H
    refine aw_iconst (v := 0) dX2_isFirm_21 (by decide) ?_
    exact aw_zret rfl rfl H dX2_isFirm_22
  · replace H := a_neg c3 H
    refine aw_aload_n dX2_isFirm_7 rfl 0 rfl ?_
    refine aw_getR cf_X2 1 (by decide) rfl wd_39 o_k dX2_isFirm_8 ?_
    refine aw_iload_n dX2_isFirm_11 rfl 1 rfl ?_
    obtain ⟨z4, H⟩ := H
    refine aw_iaload z4 dX2_isFirm_12 ?_
    refine aw_name (fun v5 e_v5 => ?_)
    replace H := H v5 e_v5
    refine aw_iconst (v := (-1)) dX2_isFirm_13 (by decide) ?_
    refine aw_icmp_ne (tgt := 21) dX2_isFirm_14 (by decide) (fun c6 => ?_) (fun c6 => ?_)
    · replace H := a_pos c6 H
      refine aw_iconst (v := 0) dX2_isFirm_21 (by decide) ?_
      exact aw_zret rfl rfl H dX2_isFirm_22
    · replace H := a_neg2 c6 H
      refine aw_iconst (v := 1) dX2_isFirm_17 (by decide) ?_
      refine aw_goto (tgt := 22) dX2_isFirm_18 (by decide) ?_
      exact aw_zret rfl rfl H dX2_isFirm_22
set_option maxHeartbeats 4000000 in
set_option maxRecDepth 100000 in
theorem am_X2_hasHole {l : Launch} {S : aS} {G : aG} (d : Nat) {k : Nat} {a1 : Int32} {h : aH} {Q : Int32 → aH → Prop} (o_k : aObj S k 1 flX2) (H : f_X2_hasHole S k a1 h Q) : AMi l S G d M_X2_hasHole [.ref (G.2.1 k), .int a1] h Q := by
  unfold f_X2_hasHole at H
  refine am_of mf_X2_hasHole (Nat.le_of_ble_eq_true rfl) (lv0 := [(0, .ref (G.2.1 k)), (1, .int a1)]) rfl ?_
  refine aw_iload_n dX2_hasHole_0 rfl 1 rfl ?_
  refine aw_if_lt (tgt := 16) dX2_hasHole_1 (by decide) (fun c1 => ?_) (fun c1 => ?_)
  · replace H := a_pos c1 H
    refine aw_iconst (v := 0) dX2_hasHole_16 (by decide) ?_
    exact aw_zret rfl rfl H dX2_hasHole_17
  · replace H := a_neg c1 H
    refine aw_iload_n dX2_hasHole_4 rfl 1 rfl ?_
    refine aw_aload_n dX2_hasHole_5 rfl 0 rfl ?_
    refine aw_getI cf_X2 9 (by decide) rfl wd_64 o_k dX2_hasHole_6 ?_
    refine aw_name (fun v2 e_v2 => ?_)
    replace H := H v2 e_v2
    refine aw_icmp_ge (tgt := 16) dX2_hasHole_9 (by decide) (fun c3 => ?_) (fun c3 => ?_)
    · replace H := a_pos c3 H
      refine aw_iconst (v := 0) dX2_hasHole_16 (by decide) ?_
      exact aw_zret rfl rfl H dX2_hasHole_17
    · replace H := a_neg c3 H
      refine aw_iconst (v := 1) dX2_hasHole_12 (by decide) ?_
      refine aw_goto (tgt := 17) dX2_hasHole_13 (by decide) ?_
      exact aw_zret rfl rfl H dX2_hasHole_17
set_option maxHeartbeats 4000000 in
set_option maxRecDepth 100000 in
theorem am_X2_kindAt {l : Launch} {S : aS} {G : aG} (d : Nat) {k : Nat} {a1 : Int32} {h : aH} {Q : Int32 → aH → Prop} (o_k : aObj S k 1 flX2) (H : f_X2_kindAt S k a1 h Q) : AMi l S G (d + 1) M_X2_kindAt [.ref (G.2.1 k), .int a1] h Q := by
  unfold f_X2_kindAt at H
  refine am_of mf_X2_kindAt (Nat.le_of_ble_eq_true rfl) (lv0 := [(0, .ref (G.2.1 k)), (1, .int a1)]) rfl ?_
  refine aw_aload_n dX2_kindAt_0 rfl 0 rfl ?_
  refine aw_getR cf_X2 1 (by decide) rfl wd_39 o_k dX2_kindAt_1 ?_
  refine aw_iload_n dX2_kindAt_4 rfl 1 rfl ?_
  obtain ⟨z1, H⟩ := H
  refine aw_iaload z1 dX2_kindAt_5 ?_
  refine aw_name (fun v2 e_v2 => ?_)
  replace H := H v2 e_v2
  refine aw_istore_n (lv' := [(2, .int v2), (0, .ref (G.2.1 k)), (1, .int a1)]) dX2_kindAt_6 rfl (by decide) rfl ?_
  refine aw_aload_n dX2_kindAt_7 rfl 1 rfl ?_
  refine aw_iload_n dX2_kindAt_8 rfl 0 rfl ?_
  refine aw_callV_i (As := [.int v2]) (rest := []) (am_X2_hasHole d o_k H) mf_X2_hasHole wd_621 wd_622 wd_623 cf_X2 o_k rfl rfl (Nat.le_of_ble_eq_true rfl) dX2_kindAt_9 (fun r4 h3 H => ?_)
  refine aw_if_eq (tgt := 24) dX2_kindAt_12 (by decide) (fun c5 => ?_) (fun c5 => ?_)
  · replace H := a_pos c5 H
    refine aw_bipush (v := 9) dX2_kindAt_24 (by decide) ?_
    exact aw_iret rfl H dX2_kindAt_26
  · replace H := a_neg c5 H
    refine aw_aload_n dX2_kindAt_15 rfl 1 rfl ?_
    refine aw_getR cf_X2 5 (by decide) rfl wd_51 o_k dX2_kindAt_16 ?_
    refine aw_iload_n dX2_kindAt_19 rfl 0 rfl ?_
    obtain ⟨z6, H⟩ := H
    refine aw_iaload z6 dX2_kindAt_20 ?_
    refine aw_name (fun v7 e_v7 => ?_)
    replace H := H v7 e_v7
    refine aw_goto (tgt := 26) dX2_kindAt_21 (by decide) ?_
    exact aw_iret rfl H dX2_kindAt_26
set_option maxHeartbeats 4000000 in
set_option maxRecDepth 100000 in
theorem fm_X3_lookAt_78 {l : Launch} {S : aS} {G : aG} (d : Nat) {k : Nat} {a1 : Nat} {a2 : Int32} {a3 : Int32} {Q : aH → Prop} (o_k : aObj S k 2 flX3) (o_a1 : aObj S a1 1 flX2) : ∀ (n : Nat) (x4 : Int32) (h : aH), f_X3_lookAt_78 S k a1 a2 a3 Q n x4 h → AW l S G (d + 1) M_X3_lookAt (va_Qv Q (aPo S G) (aA S G)) 78 [(0, .ref (G.2.1 k)), (1, .ref (G.2.1 a1)), (2, .int a2), (3, .int a3), (4, .int x4)] [] h := by
  intro n
  induction n with
  | zero => intro x4 h H; exact False.elim H
  | succ n ih =>
    intro x4 h H
    unfold f_X3_lookAt_78 at H
    refine aw_iload dX3_lookAt_78 4 rfl ?_
    refine aw_bipush (v := 12) dX3_lookAt_80 (by decide) ?_
    refine aw_icmp_ge (tgt := 99) dX3_lookAt_82 (by decide) (fun c1 => ?_) (fun c1 => ?_)
    · replace H := a_pos c1 H
      exact aw_vret rfl H dX3_lookAt_99
    · replace H := a_neg c1 H
      refine aw_aload_n dX3_lookAt_85 rfl 0 rfl ?_
      refine aw_getR cf_X3 7 (by decide) rfl wd_175 o_k dX3_lookAt_86 ?_
      refine aw_iload dX3_lookAt_89 4 rfl ?_
      refine aw_iconst (v := 0) dX3_lookAt_91 (by decide) ?_
      obtain ⟨z2, H⟩ := H
      refine aw_iastore z2 dX3_lookAt_92 ?_
      refine aw_nameH (fun h3 e_h3 => ?_)
      replace H := H h3 e_h3
      obtain ⟨x4_4, e_x4_4⟩ : ∃ y : Int32, y = x4 + 1 := ⟨_, rfl⟩
      replace H := H x4_4 e_x4_4
      refine aw_iinc (v := x4_4) (lv' := [(4, .int x4_4), (0, .ref (G.2.1 k)), (1, .ref (G.2.1 a1)), (2, .int a2), (3, .int a3)]) dX3_lookAt_93 (n0 := 4) rfl (by rw [e_x4_4]; rfl) (by decide) rfl ?_
      refine aw_goto (tgt := 78) dX3_lookAt_96 (by decide) ?_
      refine aw_sub (lv' := [(0, .ref (G.2.1 k)), (1, .ref (G.2.1 a1)), (2, .int a2), (3, .int a3), (4, .int x4_4)]) [1, 2, 3, 4, 0] rfl ?_
      exact ih _ _ H
set_option maxHeartbeats 4000000 in
set_option maxRecDepth 100000 in
theorem am_X3_lookAt {l : Launch} {S : aS} {G : aG} (d : Nat) {k : Nat} {a1 : Nat} {a2 : Int32} {a3 : Int32} {h : aH} {Q : aH → Prop} (o_k : aObj S k 2 flX3) (o_a1 : aObj S a1 1 flX2) (H : f_X3_lookAt S k a1 a2 a3 h Q) : AMv l S G (d + 1) M_X3_lookAt [.ref (G.2.1 k), .ref (G.2.1 a1), .int a2, .int a3] h Q := by
  unfold f_X3_lookAt at H
  refine am_of mf_X3_lookAt (Nat.le_of_ble_eq_true rfl) (lv0 := [(0, .ref (G.2.1 k)), (1, .ref (G.2.1 a1)), (2, .int a2), (3, .int a3)]) rfl ?_
  refine aw_aload_n dX3_lookAt_0 rfl 0 rfl ?_
  refine aw_getR cf_X3 7 (by decide) rfl wd_175 o_k dX3_lookAt_1 ?_
  refine aw_iconst (v := 0) dX3_lookAt_4 (by decide) ?_
  refine aw_aload_n dX3_lookAt_5 rfl 1 rfl ?_
  refine aw_getR cf_X2 0 (by decide) rfl wd_38 o_a1 dX3_lookAt_6 ?_
  refine aw_iload_n dX3_lookAt_9 rfl 2 rfl ?_
  obtain ⟨z5, H⟩ := H
  refine aw_iaload z5 dX3_lookAt_10 ?_
  refine aw_name (fun v6 e_v6 => ?_)
  replace H := H v6 e_v6
  obtain ⟨z7, H⟩ := H
  refine aw_iastore z7 dX3_lookAt_11 ?_
  refine aw_nameH (fun h8 e_h8 => ?_)
  replace H := H h8 e_h8
  refine aw_aload_n dX3_lookAt_12 rfl 0 rfl ?_
  refine aw_getR cf_X3 7 (by decide) rfl wd_175 o_k dX3_lookAt_13 ?_
  refine aw_iconst (v := 1) dX3_lookAt_16 (by decide) ?_
  refine aw_aload_n dX3_lookAt_17 rfl 1 rfl ?_
  refine aw_getR cf_X2 2 (by decide) rfl wd_41 o_a1 dX3_lookAt_18 ?_
  refine aw_iload_n dX3_lookAt_21 rfl 2 rfl ?_
  obtain ⟨z9, H⟩ := H
  refine aw_iaload z9 dX3_lookAt_22 ?_
  refine aw_name (fun v10 e_v10 => ?_)
  replace H := H v10 e_v10
  obtain ⟨z11, H⟩ := H
  refine aw_iastore z11 dX3_lookAt_23 ?_
  refine aw_nameH (fun h12 e_h12 => ?_)
  replace H := H h12 e_h12
  refine aw_aload_n dX3_lookAt_24 rfl 0 rfl ?_
  refine aw_getR cf_X3 7 (by decide) rfl wd_175 o_k dX3_lookAt_25 ?_
  refine aw_iconst (v := 2) dX3_lookAt_28 (by decide) ?_
  refine aw_aload_n dX3_lookAt_29 rfl 1 rfl ?_
  refine aw_getR cf_X2 3 (by decide) rfl wd_44 o_a1 dX3_lookAt_30 ?_
  refine aw_iload_n dX3_lookAt_33 rfl 2 rfl ?_
  obtain ⟨z13, H⟩ := H
  refine aw_iaload z13 dX3_lookAt_34 ?_
  refine aw_name (fun v14 e_v14 => ?_)
  replace H := H v14 e_v14
  obtain ⟨z15, H⟩ := H
  refine aw_iastore z15 dX3_lookAt_35 ?_
  refine aw_nameH (fun h16 e_h16 => ?_)
  replace H := H h16 e_h16
  refine aw_aload_n dX3_lookAt_36 rfl 0 rfl ?_
  refine aw_getR cf_X3 7 (by decide) rfl wd_175 o_k dX3_lookAt_37 ?_
  refine aw_iconst (v := 3) dX3_lookAt_40 (by decide) ?_
  refine aw_iload_n dX3_lookAt_41 rfl 2 rfl ?_
  refine aw_callS_i (As := [.int a2]) (rest := [.int 3, .ref (G.2.1 (gR h16 k 7))]) (am_X1_xOf d H) mf_X1_xOf wd_580 wd_371 rfl rfl (Nat.le_of_ble_eq_true rfl) dX3_lookAt_42 (fun r18 h17 H => ?_)
  obtain ⟨z19, H⟩ := H
  refine aw_iastore z19 dX3_lookAt_45 ?_
  refine aw_nameH (fun h20 e_h20 => ?_)
  replace H := H h20 e_h20
  refine aw_aload_n dX3_lookAt_46 rfl 0 rfl ?_
  refine aw_getR cf_X3 7 (by decide) rfl wd_175 o_k dX3_lookAt_47 ?_
  refine aw_iconst (v := 4) dX3_lookAt_50 (by decide) ?_
  refine aw_iload_n dX3_lookAt_51 rfl 2 rfl ?_
  refine aw_callS_i (As := [.int a2]) (rest := [.int 4, .ref (G.2.1 (gR h20 k 7))]) (am_X1_yOf d H) mf_X1_yOf wd_581 wd_374 rfl rfl (Nat.le_of_ble_eq_true rfl) dX3_lookAt_52 (fun r22 h21 H => ?_)
  obtain ⟨z23, H⟩ := H
  refine aw_iastore z23 dX3_lookAt_55 ?_
  refine aw_nameH (fun h24 e_h24 => ?_)
  replace H := H h24 e_h24
  refine aw_aload_n dX3_lookAt_56 rfl 0 rfl ?_
  refine aw_getR cf_X3 7 (by decide) rfl wd_175 o_k dX3_lookAt_57 ?_
  refine aw_iconst (v := 5) dX3_lookAt_60 (by decide) ?_
  refine aw_aload_n dX3_lookAt_61 rfl 1 rfl ?_
  refine aw_getI cf_X2 13 (by decide) rfl wd_80 o_a1 dX3_lookAt_62 ?_
  refine aw_name (fun v25 e_v25 => ?_)
  replace H := H v25 e_v25
  obtain ⟨z26, H⟩ := H
  refine aw_iastore z26 dX3_lookAt_65 ?_
  refine aw_nameH (fun h27 e_h27 => ?_)
  replace H := H h27 e_h27
  refine aw_aload_n dX3_lookAt_66 rfl 0 rfl ?_
  refine aw_getR cf_X3 7 (by decide) rfl wd_175 o_k dX3_lookAt_67 ?_
  refine aw_bipush (v := 6) dX3_lookAt_70 (by decide) ?_
  refine aw_iload_n dX3_lookAt_72 rfl 3 rfl ?_
  obtain ⟨z28, H⟩ := H
  refine aw_iastore z28 dX3_lookAt_73 ?_
  refine aw_nameH (fun h29 e_h29 => ?_)
  replace H := H h29 e_h29
  refine aw_bipush (v := 7) dX3_lookAt_74 (by decide) ?_
  refine aw_istore (lv' := [(4, .int 7), (0, .ref (G.2.1 k)), (1, .ref (G.2.1 a1)), (2, .int a2), (3, .int a3)]) dX3_lookAt_76 (by decide) rfl ?_
  refine aw_sub (lv' := [(0, .ref (G.2.1 k)), (1, .ref (G.2.1 a1)), (2, .int a2), (3, .int a3), (4, .int 7)]) [1, 2, 3, 4, 0] rfl ?_
  obtain ⟨n1, H⟩ := H
  exact fm_X3_lookAt_78 d o_k o_a1 n1 _ _ H
set_option maxHeartbeats 4000000 in
set_option maxRecDepth 100000 in
theorem am_X3_lookLater {l : Launch} {S : aS} {G : aG} (d : Nat) {k : Nat} {a1 : Int32} {a2 : Int32} {h : aH} {Q : aH → Prop} (o_k : aObj S k 2 flX3) (H : f_X3_lookLater S k a1 a2 h Q) : AMv l S G d M_X3_lookLater [.ref (G.2.1 k), .int a1, .int a2] h Q := by
  unfold f_X3_lookLater at H
  refine am_of mf_X3_lookLater (Nat.le_of_ble_eq_true rfl) (lv0 := [(0, .ref (G.2.1 k)), (1, .int a1), (2, .int a2)]) rfl ?_
  refine aw_aload_n dX3_lookLater_0 rfl 0 rfl ?_
  refine aw_getR cf_X3 7 (by decide) rfl wd_175 o_k dX3_lookLater_1 ?_
  refine aw_iconst (v := 0) dX3_lookLater_4 (by decide) ?_
  refine aw_iload_n dX3_lookLater_5 rfl 1 rfl ?_
  obtain ⟨z1, H⟩ := H
  refine aw_iastore z1 dX3_lookLater_6 ?_
  refine aw_nameH (fun h2 e_h2 => ?_)
  replace H := H h2 e_h2
  refine aw_aload_n dX3_lookLater_7 rfl 0 rfl ?_
  refine aw_getR cf_X3 7 (by decide) rfl wd_175 o_k dX3_lookLater_8 ?_
  refine aw_iconst (v := 5) dX3_lookLater_11 (by decide) ?_
  refine aw_iload_n dX3_lookLater_12 rfl 2 rfl ?_
  obtain ⟨z3, H⟩ := H
  refine aw_iastore z3 dX3_lookLater_13 ?_
  refine aw_nameH (fun h4 e_h4 => ?_)
  replace H := H h4 e_h4
  exact aw_vret rfl H dX3_lookLater_14
set_option maxHeartbeats 4000000 in
set_option maxRecDepth 100000 in
theorem am_X3_valueOf {l : Launch} {S : aS} {G : aG} (d : Nat) {k : Nat} {a1 : Int32} {h : aH} {Q : Int32 → aH → Prop} (o_k : aObj S k 2 flX3) (H : f_X3_valueOf S k a1 h Q) : AMi l S G d M_X3_valueOf [.ref (G.2.1 k), .int a1] h Q := by
  unfold f_X3_valueOf at H
  refine am_of mf_X3_valueOf (Nat.le_of_ble_eq_true rfl) (lv0 := [(0, .ref (G.2.1 k)), (1, .int a1)]) rfl ?_
  refine aw_iload_n dX3_valueOf_0 rfl 1 rfl ?_
  refine aw_if_lt (tgt := 22) dX3_valueOf_1 (by decide) (fun c1 => ?_) (fun c1 => ?_)
  · replace H := a_pos c1 H
    refine aw_iconst (v := 0) dX3_valueOf_22 (by decide) ?_
    exact aw_iret rfl H dX3_valueOf_23
  · replace H := a_neg c1 H
    refine aw_iload_n dX3_valueOf_4 rfl 1 rfl ?_
    refine aw_aload_n dX3_valueOf_5 rfl 0 rfl ?_
    refine aw_getR cf_X3 7 (by decide) rfl wd_175 o_k dX3_valueOf_6 ?_
    obtain ⟨n2, z3, z4, H⟩ := H
    refine aw_alen z3 z4 dX3_valueOf_9 ?_
    refine aw_name (fun v5 e_v5 => ?_)
    replace H := H v5 e_v5
    refine aw_icmp_ge (tgt := 22) dX3_valueOf_10 (by decide) (fun c6 => ?_) (fun c6 => ?_)
    · replace H := a_pos c6 H
      refine aw_iconst (v := 0) dX3_valueOf_22 (by decide) ?_
      exact aw_iret rfl H dX3_valueOf_23
    · replace H := a_neg c6 H
      refine aw_aload_n dX3_valueOf_13 rfl 0 rfl ?_
      refine aw_getR cf_X3 7 (by decide) rfl wd_175 o_k dX3_valueOf_14 ?_
      refine aw_iload_n dX3_valueOf_17 rfl 1 rfl ?_
      obtain ⟨z7, H⟩ := H
      refine aw_iaload z7 dX3_valueOf_18 ?_
      refine aw_name (fun v8 e_v8 => ?_)
      replace H := H v8 e_v8
      refine aw_goto (tgt := 23) dX3_valueOf_19 (by decide) ?_
      exact aw_iret rfl H dX3_valueOf_23
set_option maxHeartbeats 4000000 in
set_option maxRecDepth 100000 in
theorem am_X3_join {l : Launch} {S : aS} {G : aG} (d : Nat) {k : Nat} {a1 : Int32} {a2 : Int32} {a3 : Int32} {h : aH} {Q : Int32 → aH → Prop} (o_k : aObj S k 2 flX3) (H : f_X3_join S k a1 a2 a3 h Q) : AMi l S G d M_X3_join [.ref (G.2.1 k), .int a1, .int a2, .int a3] h Q := by
  unfold f_X3_join at H
  refine am_of mf_X3_join (Nat.le_of_ble_eq_true rfl) (lv0 := [(0, .ref (G.2.1 k)), (1, .int a1), (2, .int a2), (3, .int a3)]) rfl ?_
  refine aw_iload_n dX3_join_0 rfl 1 rfl ?_
  by_cases c1_0 : a1 = 42
  · replace H := a_pos c1_0 H
    refine aw_lookup (off := 67) (tgt := 68) dX3_join_1 (by decide) (by rw [c1_0]; decide) (by decide) ?_
    refine aw_iload_n dX3_join_68 rfl 2 rfl ?_
    refine aw_iload_n dX3_join_69 rfl 3 rfl ?_
    refine aw_imul dX3_join_70 ?_
    exact aw_iret rfl H dX3_join_71
  · replace H := a_neg c1_0 H
    by_cases c1_1 : a1 = 43
    · replace H := a_pos c1_1 H
      refine aw_lookup (off := 59) (tgt := 60) dX3_join_1 (by decide) (by rw [c1_1]; decide) (by decide) ?_
      refine aw_iload_n dX3_join_60 rfl 2 rfl ?_
      refine aw_iload_n dX3_join_61 rfl 3 rfl ?_
      refine aw_iadd dX3_join_62 ?_
      exact aw_iret rfl H dX3_join_63
    · replace H := a_neg c1_1 H
      by_cases c1_2 : a1 = 45
      · replace H := a_pos c1_2 H
        refine aw_lookup (off := 63) (tgt := 64) dX3_join_1 (by decide) (by rw [c1_2]; decide) (by decide) ?_
        refine aw_iload_n dX3_join_64 rfl 2 rfl ?_
        refine aw_iload_n dX3_join_65 rfl 3 rfl ?_
        refine aw_isub dX3_join_66 ?_
        exact aw_iret rfl H dX3_join_67
      · replace H := a_neg c1_2 H
        by_cases c1_3 : a1 = 60
        · replace H := a_pos c1_3 H
          refine aw_lookup (off := 71) (tgt := 72) dX3_join_1 (by decide) (by rw [c1_3]; decide) (by decide) ?_
          refine aw_iload_n dX3_join_72 rfl 2 rfl ?_
          refine aw_iload_n dX3_join_73 rfl 3 rfl ?_
          refine aw_icmp_ge (tgt := 81) dX3_join_74 (by decide) (fun c2 => ?_) (fun c2 => ?_)
          · replace H := a_pos c2 H
            refine aw_iconst (v := 0) dX3_join_81 (by decide) ?_
            exact aw_iret rfl H dX3_join_82
          · replace H := a_neg c2 H
            refine aw_iconst (v := 1) dX3_join_77 (by decide) ?_
            refine aw_goto (tgt := 82) dX3_join_78 (by decide) ?_
            exact aw_iret rfl H dX3_join_82
        · replace H := a_neg c1_3 H
          by_cases c1_4 : a1 = 61
          · replace H := a_pos c1_4 H
            refine aw_lookup (off := 93) (tgt := 94) dX3_join_1 (by decide) (by rw [c1_4]; decide) (by decide) ?_
            refine aw_iload_n dX3_join_94 rfl 2 rfl ?_
            refine aw_iload_n dX3_join_95 rfl 3 rfl ?_
            refine aw_icmp_ne (tgt := 103) dX3_join_96 (by decide) (fun c3 => ?_) (fun c3 => ?_)
            · replace H := a_pos c3 H
              refine aw_iconst (v := 0) dX3_join_103 (by decide) ?_
              exact aw_iret rfl H dX3_join_104
            · replace H := a_neg2 c3 H
              refine aw_iconst (v := 1) dX3_join_99 (by decide) ?_
              refine aw_goto (tgt := 104) dX3_join_100 (by decide) ?_
              exact aw_iret rfl H dX3_join_104
          · replace H := a_neg c1_4 H
            by_cases c1_5 : a1 = 62
            · replace H := a_pos c1_5 H
              refine aw_lookup (off := 82) (tgt := 83) dX3_join_1 (by decide) (by rw [c1_5]; decide) (by decide) ?_
              refine aw_iload_n dX3_join_83 rfl 2 rfl ?_
              refine aw_iload_n dX3_join_84 rfl 3 rfl ?_
              refine aw_icmp_le (tgt := 92) dX3_join_85 (by decide) (fun c4 => ?_) (fun c4 => ?_)
              · replace H := a_pos c4 H
                refine aw_iconst (v := 0) dX3_join_92 (by decide) ?_
                exact aw_iret rfl H dX3_join_93
              · replace H := a_neg c4 H
                refine aw_iconst (v := 1) dX3_join_88 (by decide) ?_
                refine aw_goto (tgt := 93) dX3_join_89 (by decide) ?_
                exact aw_iret rfl H dX3_join_93
            · replace H := a_neg c1_5 H
              have t0 := a_ne (n := 42) (v := 42) (by decide) c1_0
              have t1 := a_ne (n := 43) (v := 43) (by decide) c1_1
              have t2 := a_ne (n := 45) (v := 45) (by decide) c1_2
              have t3 := a_ne (n := 60) (v := 60) (by decide) c1_3
              have t4 := a_ne (n := 61) (v := 61) (by decide) c1_4
              have t5 := a_ne (n := 62) (v := 62) (by decide) c1_5
              refine aw_lookup (off := 104) (tgt := 105) dX3_join_1 (by decide) (by simp [Op.lookupswitch.offset, t0, t1, t2, t3, t4, t5, Ne.symm t0, Ne.symm t1, Ne.symm t2, Ne.symm t3, Ne.symm t4, Ne.symm t5]) (by decide) ?_
              refine aw_iload_n dX3_join_105 rfl 3 rfl ?_
              refine aw_if_ne (tgt := 116) dX3_join_106 (by decide) (fun c5 => ?_) (fun c5 => ?_)
              · replace H := a_pos c5 H
                refine aw_iload_n dX3_join_116 rfl 1 rfl ?_
                refine aw_bipush (v := 47) dX3_join_117 (by decide) ?_
                refine aw_icmp_ne (tgt := 128) dX3_join_119 (by decide) (fun c6 => ?_) (fun c6 => ?_)
                · replace H := a_pos c6 H
                  refine aw_iload_n dX3_join_128 rfl 2 rfl ?_
                  refine aw_iload_n dX3_join_129 rfl 3 rfl ?_
                  obtain ⟨z7, H⟩ := H
                  refine aw_irem dX3_join_130 z7 ?_
                  exact aw_iret rfl H dX3_join_131
                · replace H := a_neg2 c6 H
                  refine aw_iload_n dX3_join_122 rfl 2 rfl ?_
                  refine aw_iload_n dX3_join_123 rfl 3 rfl ?_
                  obtain ⟨z8, H⟩ := H
                  refine aw_idiv dX3_join_124 z8 ?_
                  refine aw_goto (tgt := 131) dX3_join_125 (by decide) ?_
                  exact aw_iret rfl H dX3_join_131
              · replace H := a_neg2 c5 H
                refine aw_aload_n dX3_join_109 rfl 0 rfl ?_
                refine aw_iconst (v := 1) dX3_join_110 (by decide) ?_
                refine aw_putI cf_X3 9 (by decide) rfl wd_177 rfl (by decide) (by decide) o_k dX3_join_111 ?_
                refine aw_nameH (fun h9 e_h9 => ?_)
                replace H := H h9 e_h9
                refine aw_iconst (v := 0) dX3_join_114 (by decide) ?_
                exact aw_iret rfl H dX3_join_115
set_option maxHeartbeats 4000000 in
set_option maxRecDepth 100000 in
theorem fm_X3_reckon_72 {l : Launch} {S : aS} {G : aG} (d : Nat) {k : Nat} {a1 : Int32} {Q : Int32 → aH → Prop} (o_k : aObj S k 2 flX3) {K12 : Int32 → Int32 → Int32 → aH → Prop} (hK12 : ∀ (x2 : Int32) (x3 : Int32) (x4 : Int32) (h : aH), K12 x2 x3 x4 h → AW l S G (d + 1) M_X3_reckon (va_Qi Q (aPo S G) (aA S G)) 12 [(0, .ref (G.2.1 k)), (1, .int a1), (2, .int x2), (3, .int x3), (4, .int x4)] [] h) (x2 : Int32) (x3 : Int32) (x4 : Int32) (x5 : Int32) (x6 : Int32) (h : aH) (H : f_X3_reckon_72 S k a1 Q K12 x2 x3 x4 x5 x6 h) : AW l S G (d + 1) M_X3_reckon (va_Qi Q (aPo S G) (aA S G)) 72 [(0, .ref (G.2.1 k)), (1, .int a1), (2, .int x2), (3, .int x3), (4, .int x4), (5, .int x5), (6, .int x6)] [] h := by
  unfold f_X3_reckon_72 at H
  refine aw_iload_n dX3_reckon_72 rfl 2 rfl ?_
  refine aw_bipush (v := 64) dX3_reckon_73 (by decide) ?_
  refine aw_icmp_lt (tgt := 85) dX3_reckon_75 (by decide) (fun c1 => ?_) (fun c1 => ?_)
  · replace H := a_pos c1 H
    refine aw_aload_n dX3_reckon_85 rfl 0 rfl ?_
    refine aw_getR cf_X3 8 (by decide) rfl wd_176 o_k dX3_reckon_86 ?_
    refine aw_iload_n dX3_reckon_89 rfl 2 rfl ?_
    refine aw_iload dX3_reckon_90 5 rfl ?_
    refine aw_iconst (v := 1) dX3_reckon_92 (by decide) ?_
    refine aw_icmp_ne (tgt := 101) dX3_reckon_93 (by decide) (fun c2 => ?_) (fun c2 => ?_)
    · replace H := a_pos c2 H
      refine aw_aload_n dX3_reckon_101 rfl 0 rfl ?_
      refine aw_iload dX3_reckon_102 6 rfl ?_
      refine aw_callV_i (As := [.int x6]) (rest := [.int x2, .ref (G.2.1 (gR h k 8))]) (am_X3_valueOf d o_k H) mf_X3_valueOf wd_590 wd_592 ws_1_13 cf_X3 o_k rfl rfl (Nat.le_of_ble_eq_true rfl) dX3_reckon_104 (fun r4 h3 H => ?_)
      obtain ⟨z5, H⟩ := H
      refine aw_iastore z5 dX3_reckon_107 ?_
      refine aw_nameH (fun h6 e_h6 => ?_)
      replace H := H h6 e_h6
      obtain ⟨x2_7, e_x2_7⟩ : ∃ y : Int32, y = x2 + 1 := ⟨_, rfl⟩
      replace H := H x2_7 e_x2_7
      refine aw_iinc (v := x2_7) (lv' := [(2, .int x2_7), (0, .ref (G.2.1 k)), (1, .int a1), (3, .int x3), (4, .int x4), (5, .int x5), (6, .int x6)]) dX3_reckon_108 (n0 := 2) rfl (by rw [e_x2_7]; rfl) (by decide) rfl ?_
      refine aw_goto (tgt := 253) dX3_reckon_111 (by decide) ?_
      obtain ⟨x4_8, e_x4_8⟩ : ∃ y : Int32, y = x4 + 1 := ⟨_, rfl⟩
      replace H := H x4_8 e_x4_8
      refine aw_iinc (v := x4_8) (lv' := [(4, .int x4_8), (2, .int x2_7), (0, .ref (G.2.1 k)), (1, .int a1), (3, .int x3), (5, .int x5), (6, .int x6)]) dX3_reckon_253 (n0 := 4) rfl (by rw [e_x4_8]; rfl) (by decide) rfl ?_
      refine aw_goto (tgt := 12) dX3_reckon_256 (by decide) ?_
      refine aw_sub (lv' := [(0, .ref (G.2.1 k)), (1, .int a1), (2, .int x2_7), (3, .int x3), (4, .int x4_8)]) [2, 3, 1, 4, 0] rfl ?_
      exact hK12 _ _ _ _ H
    · replace H := a_neg2 c2 H
      refine aw_iload dX3_reckon_96 6 rfl ?_
      refine aw_goto (tgt := 107) dX3_reckon_98 (by decide) ?_
      obtain ⟨z9, H⟩ := H
      refine aw_iastore z9 dX3_reckon_107 ?_
      refine aw_nameH (fun h10 e_h10 => ?_)
      replace H := H h10 e_h10
      obtain ⟨x2_11, e_x2_11⟩ : ∃ y : Int32, y = x2 + 1 := ⟨_, rfl⟩
      replace H := H x2_11 e_x2_11
      refine aw_iinc (v := x2_11) (lv' := [(2, .int x2_11), (0, .ref (G.2.1 k)), (1, .int a1), (3, .int x3), (4, .int x4), (5, .int x5), (6, .int x6)]) dX3_reckon_108 (n0 := 2) rfl (by rw [e_x2_11]; rfl) (by decide) rfl ?_
      refine aw_goto (tgt := 253) dX3_reckon_111 (by decide) ?_
      obtain ⟨x4_12, e_x4_12⟩ : ∃ y : Int32, y = x4 + 1 := ⟨_, rfl⟩
      replace H := H x4_12 e_x4_12
      refine aw_iinc (v := x4_12) (lv' := [(4, .int x4_12), (2, .int x2_11), (0, .ref (G.2.1 k)), (1, .int a1), (3, .int x3), (5, .int x5), (6, .int x6)]) dX3_reckon_253 (n0 := 4) rfl (by rw [e_x4_12]; rfl) (by decide) rfl ?_
      refine aw_goto (tgt := 12) dX3_reckon_256 (by decide) ?_
      refine aw_sub (lv' := [(0, .ref (G.2.1 k)), (1, .int a1), (2, .int x2_11), (3, .int x3), (4, .int x4_12)]) [2, 3, 1, 4, 0] rfl ?_
      exact hK12 _ _ _ _ H
  · replace H := a_neg c1 H
    refine aw_aload_n dX3_reckon_78 rfl 0 rfl ?_
    refine aw_iconst (v := 1) dX3_reckon_79 (by decide) ?_
    refine aw_putI cf_X3 9 (by decide) rfl wd_177 rfl (by decide) (by decide) o_k dX3_reckon_80 ?_
    refine aw_nameH (fun h13 e_h13 => ?_)
    replace H := H h13 e_h13
    refine aw_iconst (v := 0) dX3_reckon_83 (by decide) ?_
    exact aw_iret rfl H dX3_reckon_84
set_option maxHeartbeats 4000000 in
set_option maxRecDepth 100000 in
theorem fm_X3_reckon_176 {l : Launch} {S : aS} {G : aG} (d : Nat) {k : Nat} {a1 : Int32} {Q : Int32 → aH → Prop} (o_k : aObj S k 2 flX3) {K12 : Int32 → Int32 → Int32 → aH → Prop} (hK12 : ∀ (x2 : Int32) (x3 : Int32) (x4 : Int32) (h : aH), K12 x2 x3 x4 h → AW l S G (d + 1) M_X3_reckon (va_Qi Q (aPo S G) (aA S G)) 12 [(0, .ref (G.2.1 k)), (1, .int a1), (2, .int x2), (3, .int x3), (4, .int x4)] [] h) (x2 : Int32) (x3 : Int32) (x4 : Int32) (x5 : Int32) (x6 : Int32) (s0 : Int32) (h : aH) (H : f_X3_reckon_176 S k a1 Q K12 x2 x3 x4 x5 x6 s0 h) : AW l S G (d + 1) M_X3_reckon (va_Qi Q (aPo S G) (aA S G)) 176 [(0, .ref (G.2.1 k)), (1, .int a1), (2, .int x2), (3, .int x3), (4, .int x4), (5, .int x5), (6, .int x6)] [.int s0] h := by
  unfold f_X3_reckon_176 at H
  refine aw_istore (lv' := [(7, .int s0), (0, .ref (G.2.1 k)), (1, .int a1), (2, .int x2), (3, .int x3), (4, .int x4), (5, .int x5), (6, .int x6)]) dX3_reckon_176 (by decide) rfl ?_
  refine aw_iload dX3_reckon_178 0 rfl ?_
  refine aw_iload dX3_reckon_180 6 rfl ?_
  refine aw_iconst (v := 5) dX3_reckon_182 (by decide) ?_
  refine aw_icmp_ne (tgt := 190) dX3_reckon_183 (by decide) (fun c14 => ?_) (fun c14 => ?_)
  · replace H := a_pos c14 H
    refine aw_iconst (v := 0) dX3_reckon_190 (by decide) ?_
    refine aw_icmp_ne (tgt := 200) dX3_reckon_191 (by decide) (fun c15 => ?_) (fun c15 => ?_)
    · replace H := a_pos c15 H
      obtain ⟨x2_16, e_x2_16⟩ : ∃ y : Int32, y = x2 + (-1) := ⟨_, rfl⟩
      replace H := H x2_16 e_x2_16
      refine aw_iinc (v := x2_16) (lv' := [(2, .int x2_16), (7, .int s0), (0, .ref (G.2.1 k)), (1, .int a1), (3, .int x3), (4, .int x4), (5, .int x5), (6, .int x6)]) dX3_reckon_200 (n0 := 3) rfl (by rw [e_x2_16]; rfl) (by decide) rfl ?_
      refine aw_goto (tgt := 253) dX3_reckon_203 (by decide) ?_
      obtain ⟨x4_17, e_x4_17⟩ : ∃ y : Int32, y = x4 + 1 := ⟨_, rfl⟩
      replace H := H x4_17 e_x4_17
      refine aw_iinc (v := x4_17) (lv' := [(4, .int x4_17), (2, .int x2_16), (7, .int s0), (0, .ref (G.2.1 k)), (1, .int a1), (3, .int x3), (5, .int x5), (6, .int x6)]) dX3_reckon_253 (n0 := 5) rfl (by rw [e_x4_17]; rfl) (by decide) rfl ?_
      refine aw_goto (tgt := 12) dX3_reckon_256 (by decide) ?_
      refine aw_sub (lv' := [(0, .ref (G.2.1 k)), (1, .int a1), (2, .int x2_16), (3, .int x3), (4, .int x4_17)]) [3, 4, 1, 5, 0] rfl ?_
      exact hK12 _ _ _ _ H
    · replace H := a_neg2 c15 H
      refine aw_iload dX3_reckon_194 7 rfl ?_
      refine aw_istore_n (lv' := [(3, .int x6), (7, .int s0), (0, .ref (G.2.1 k)), (1, .int a1), (2, .int x2), (4, .int x4), (5, .int x5), (6, .int x6)]) dX3_reckon_196 rfl (by decide) rfl ?_
      refine aw_goto (tgt := 203) dX3_reckon_197 (by decide) ?_
      refine aw_goto (tgt := 253) dX3_reckon_203 (by decide) ?_
      obtain ⟨x4_18, e_x4_18⟩ : ∃ y : Int32, y = x4 + 1 := ⟨_, rfl⟩
      replace H := H x4_18 e_x4_18
      refine aw_iinc (v := x4_18) (lv' := [(4, .int x4_18), (3, .int x6), (7, .int s0), (0, .ref (G.2.1 k)), (1, .int a1), (2, .int x2), (5, .int x5), (6, .int x6)]) dX3_reckon_253 (n0 := 5) rfl (by rw [e_x4_18]; rfl) (by decide) rfl ?_
      refine aw_goto (tgt := 12) dX3_reckon_256 (by decide) ?_
      refine aw_sub (lv' := [(0, .ref (G.2.1 k)), (1, .int a1), (2, .int x2), (3, .int x6), (4, .int x4_18)]) [3, 4, 5, 1, 0] rfl ?_
      exact hK12 _ _ _ _ H
  · replace H := a_neg2 c14 H
    refine aw_iconst (v := 1) dX3_reckon_186 (by decide) ?_
    refine aw_goto (tgt := 191) dX3_reckon_187 (by decide) ?_
    refine aw_icmp_ne (tgt := 200) dX3_reckon_191 (by decide) (fun c19 => ?_) (fun c19 => ?_)
    · replace H := a_pos c19 H
      obtain ⟨x2_20, e_x2_20⟩ : ∃ y : Int32, y = x2 + (-1) := ⟨_, rfl⟩
      replace H := H x2_20 e_x2_20
      refine aw_iinc (v := x2_20) (lv' := [(2, .int x2_20), (7, .int s0), (0, .ref (G.2.1 k)), (1, .int a1), (3, .int x3), (4, .int x4), (5, .int x5), (6, .int x6)]) dX3_reckon_200 (n0 := 3) rfl (by rw [e_x2_20]; rfl) (by decide) rfl ?_
      refine aw_goto (tgt := 253) dX3_reckon_203 (by decide) ?_
      obtain ⟨x4_21, e_x4_21⟩ : ∃ y : Int32, y = x4 + 1 := ⟨_, rfl⟩
      replace H := H x4_21 e_x4_21
      refine aw_iinc (v := x4_21) (lv' := [(4, .int x4_21), (2, .int x2_20), (7, .int s0), (0, .ref (G.2.1 k)), (1, .int a1), (3, .int x3), (5, .int x5), (6, .int x6)]) dX3_reckon_253 (n0 := 5) rfl (by rw [e_x4_21]; rfl) (by decide) rfl ?_
      refine aw_goto (tgt := 12) dX3_reckon_256 (by decide) ?_
      refine aw_sub (lv' := [(0, .ref (G.2.1 k)), (1, .int a1), (2, .int x2_20), (3, .int x3), (4, .int x4_21)]) [3, 4, 1, 5, 0] rfl ?_
      exact hK12 _ _ _ _ H
    · replace H := a_neg2 c19 H
      refine aw_iload dX3_reckon_194 7 rfl ?_
      refine aw_istore_n (lv' := [(3, .int x6), (7, .int s0), (0, .ref (G.2.1 k)), (1, .int a1), (2, .int x2), (4, .int x4), (5, .int x5), (6, .int x6)]) dX3_reckon_196 rfl (by decide) rfl ?_
      refine aw_goto (tgt := 203) dX3_reckon_197 (by decide) ?_
      refine aw_goto (tgt := 253) dX3_reckon_203 (by decide) ?_
      obtain ⟨x4_22, e_x4_22⟩ : ∃ y : Int32, y = x4 + 1 := ⟨_, rfl⟩
      replace H := H x4_22 e_x4_22
      refine aw_iinc (v := x4_22) (lv' := [(4, .int x4_22), (3, .int x6), (7, .int s0), (0, .ref (G.2.1 k)), (1, .int a1), (2, .int x2), (5, .int x5), (6, .int x6)]) dX3_reckon_253 (n0 := 5) rfl (by rw [e_x4_22]; rfl) (by decide) rfl ?_
      refine aw_goto (tgt := 12) dX3_reckon_256 (by decide) ?_
      refine aw_sub (lv' := [(0, .ref (G.2.1 k)), (1, .int a1), (2, .int x2), (3, .int x6), (4, .int x4_22)]) [3, 4, 5, 1, 0] rfl ?_
      exact hK12 _ _ _ _ H
set_option maxHeartbeats 4000000 in
set_option maxRecDepth 100000 in
theorem fm_X3_reckon_12 {l : Launch} {S : aS} {G : aG} (d : Nat) {k : Nat} {a1 : Int32} {Q : Int32 → aH → Prop} (o_k : aObj S k 2 flX3) : ∀ (n : Nat) (x2 : Int32) (x3 : Int32) (x4 : Int32) (h : aH), f_X3_reckon_12 S k a1 Q n x2 x3 x4 h → AW l S G (d + 1) M_X3_reckon (va_Qi Q (aPo S G) (aA S G)) 12 [(0, .ref (G.2.1 k)), (1, .int a1), (2, .int x2), (3, .int x3), (4, .int x4)] [] h := by
  intro n
  induction n with
  | zero => intro x2 x3 x4 h H; exact False.elim H
  | succ n ih =>
    intro x2 x3 x4 h H
    unfold f_X3_reckon_12 at H
    refine aw_iload dX3_reckon_12 4 rfl ?_
    refine aw_sipush (v := 200) dX3_reckon_14 (by decide) ?_
    refine aw_icmp_ge (tgt := 259) dX3_reckon_17 (by decide) (fun c23 => ?_) (fun c23 => ?_)
    · replace H := a_pos c23 H
      refine aw_aload_n dX3_reckon_259 rfl 0 rfl ?_
      refine aw_getR cf_X3 8 (by decide) rfl wd_176 o_k dX3_reckon_260 ?_
      refine aw_iconst (v := 0) dX3_reckon_263 (by decide) ?_
      obtain ⟨z24, H⟩ := H
      refine aw_iaload z24 dX3_reckon_264 ?_
      refine aw_name (fun v25 e_v25 => ?_)
      replace H := H v25 e_v25
      exact aw_iret rfl H dX3_reckon_265
    · replace H := a_neg c23 H
      refine aw_iload_n dX3_reckon_20 rfl 3 rfl ?_
      refine aw_if_lt (tgt := 259) dX3_reckon_21 (by decide) (fun c26 => ?_) (fun c26 => ?_)
      · replace H := a_pos c26 H
        refine aw_aload_n dX3_reckon_259 rfl 0 rfl ?_
        refine aw_getR cf_X3 8 (by decide) rfl wd_176 o_k dX3_reckon_260 ?_
        refine aw_iconst (v := 0) dX3_reckon_263 (by decide) ?_
        obtain ⟨z27, H⟩ := H
        refine aw_iaload z27 dX3_reckon_264 ?_
        refine aw_name (fun v28 e_v28 => ?_)
        replace H := H v28 e_v28
        exact aw_iret rfl H dX3_reckon_265
      · replace H := a_neg c26 H
        refine aw_iload_n dX3_reckon_24 rfl 3 rfl ?_
        refine aw_aload_n dX3_reckon_25 rfl 0 rfl ?_
        refine aw_getI cf_X3 2 (by decide) rfl wd_169 o_k dX3_reckon_26 ?_
        refine aw_name (fun v29 e_v29 => ?_)
        replace H := H v29 e_v29
        refine aw_icmp_ge (tgt := 259) dX3_reckon_29 (by decide) (fun c30 => ?_) (fun c30 => ?_)
        · replace H := a_pos c30 H
          refine aw_aload_n dX3_reckon_259 rfl 0 rfl ?_
          refine aw_getR cf_X3 8 (by decide) rfl wd_176 o_k dX3_reckon_260 ?_
          refine aw_iconst (v := 0) dX3_reckon_263 (by decide) ?_
          obtain ⟨z31, H⟩ := H
          refine aw_iaload z31 dX3_reckon_264 ?_
          refine aw_name (fun v32 e_v32 => ?_)
          replace H := H v32 e_v32
          exact aw_iret rfl H dX3_reckon_265
        · replace H := a_neg c30 H
          refine aw_aload_n dX3_reckon_32 rfl 0 rfl ?_
          refine aw_getR cf_X3 0 (by decide) rfl wd_167 o_k dX3_reckon_33 ?_
          refine aw_iload_n dX3_reckon_36 rfl 3 rfl ?_
          obtain ⟨z33, H⟩ := H
          refine aw_iaload z33 dX3_reckon_37 ?_
          refine aw_name (fun v34 e_v34 => ?_)
          replace H := H v34 e_v34
          refine aw_if_eq (tgt := 259) dX3_reckon_38 (by decide) (fun c35 => ?_) (fun c35 => ?_)
          · replace H := a_pos c35 H
            refine aw_aload_n dX3_reckon_259 rfl 0 rfl ?_
            refine aw_getR cf_X3 8 (by decide) rfl wd_176 o_k dX3_reckon_260 ?_
            refine aw_iconst (v := 0) dX3_reckon_263 (by decide) ?_
            obtain ⟨z36, H⟩ := H
            refine aw_iaload z36 dX3_reckon_264 ?_
            refine aw_name (fun v37 e_v37 => ?_)
            replace H := H v37 e_v37
            exact aw_iret rfl H dX3_reckon_265
          · replace H := a_neg c35 H
            refine aw_aload_n dX3_reckon_41 rfl 0 rfl ?_
            refine aw_getR cf_X3 0 (by decide) rfl wd_167 o_k dX3_reckon_42 ?_
            refine aw_iload_n dX3_reckon_45 rfl 3 rfl ?_
            obtain ⟨z38, H⟩ := H
            refine aw_iaload z38 dX3_reckon_46 ?_
            refine aw_name (fun v39 e_v39 => ?_)
            replace H := H v39 e_v39
            refine aw_istore (lv' := [(5, .int v39), (0, .ref (G.2.1 k)), (1, .int a1), (2, .int x2), (3, .int x3), (4, .int x4)]) dX3_reckon_47 (by decide) rfl ?_
            refine aw_aload_n dX3_reckon_49 rfl 1 rfl ?_
            refine aw_getR cf_X3 1 (by decide) rfl wd_168 o_k dX3_reckon_50 ?_
            refine aw_iload_n dX3_reckon_53 rfl 4 rfl ?_
            obtain ⟨z40, H⟩ := H
            refine aw_iaload z40 dX3_reckon_54 ?_
            refine aw_name (fun v41 e_v41 => ?_)
            replace H := H v41 e_v41
            refine aw_istore (lv' := [(6, .int v41), (5, .int v39), (0, .ref (G.2.1 k)), (1, .int a1), (2, .int x2), (3, .int x3), (4, .int x4)]) dX3_reckon_55 (by decide) rfl ?_
            obtain ⟨x3_42, e_x3_42⟩ : ∃ y : Int32, y = x3 + 1 := ⟨_, rfl⟩
            replace H := H x3_42 e_x3_42
            refine aw_iinc (v := x3_42) (lv' := [(3, .int x3_42), (6, .int v41), (5, .int v39), (0, .ref (G.2.1 k)), (1, .int a1), (2, .int x2), (4, .int x4)]) dX3_reckon_57 (n0 := 5) rfl (by rw [e_x3_42]; rfl) (by decide) rfl ?_
            refine aw_iload dX3_reckon_60 2 rfl ?_
            refine aw_iconst (v := 1) dX3_reckon_62 (by decide) ?_
            refine aw_icmp_eq (tgt := 72) dX3_reckon_63 (by decide) (fun c43 => ?_) (fun c43 => ?_)
            · replace H := a_pos c43 H
              refine aw_sub (lv' := [(0, .ref (G.2.1 k)), (1, .int a1), (2, .int x2), (3, .int x3_42), (4, .int x4), (5, .int v39), (6, .int v41)]) [3, 4, 5, 0, 6, 2, 1] rfl ?_
              exact fm_X3_reckon_72 d o_k ih _ _ _ _ _ _ H
            · replace H := a_neg c43 H
              refine aw_iload dX3_reckon_66 2 rfl ?_
              refine aw_iconst (v := 2) dX3_reckon_68 (by decide) ?_
              refine aw_icmp_ne (tgt := 114) dX3_reckon_69 (by decide) (fun c44 => ?_) (fun c44 => ?_)
              · replace H := a_pos c44 H
                refine aw_iload_n dX3_reckon_114 rfl 5 rfl ?_
                refine aw_iconst (v := 1) dX3_reckon_115 (by decide) ?_
                refine aw_icmp_ge (tgt := 121) dX3_reckon_116 (by decide) (fun c45 => ?_) (fun c45 => ?_)
                · replace H := a_pos c45 H
                  refine aw_iload dX3_reckon_121 2 rfl ?_
                  refine aw_iconst (v := 3) dX3_reckon_123 (by decide) ?_
                  refine aw_icmp_ne (tgt := 148) dX3_reckon_124 (by decide) (fun c46 => ?_) (fun c46 => ?_)
                  · replace H := a_pos c46 H
                    refine aw_iload dX3_reckon_148 2 rfl ?_
                    refine aw_iconst (v := 5) dX3_reckon_150 (by decide) ?_
                    refine aw_icmp_eq (tgt := 160) dX3_reckon_151 (by decide) (fun c47 => ?_) (fun c47 => ?_)
                    · replace H := a_pos c47 H
                      refine aw_aload_n dX3_reckon_160 rfl 3 rfl ?_
                      refine aw_getR cf_X3 8 (by decide) rfl wd_176 o_k dX3_reckon_161 ?_
                      refine aw_iload_n dX3_reckon_164 rfl 5 rfl ?_
                      refine aw_iconst (v := 1) dX3_reckon_165 (by decide) ?_
                      refine aw_isub dX3_reckon_166 ?_
                      obtain ⟨z48, H⟩ := H
                      refine aw_iaload z48 dX3_reckon_167 ?_
                      refine aw_name (fun v49 e_v49 => ?_)
                      replace H := H v49 e_v49
                      refine aw_if_eq (tgt := 175) dX3_reckon_168 (by decide) (fun c50 => ?_) (fun c50 => ?_)
                      · replace H := a_pos c50 H
                        refine aw_iconst (v := 0) dX3_reckon_175 (by decide) ?_
                        refine aw_sub (lv' := [(0, .ref (G.2.1 k)), (1, .int a1), (2, .int x2), (3, .int x3_42), (4, .int x4), (5, .int v39), (6, .int v41)]) [3, 4, 5, 0, 6, 2, 1] rfl ?_
                        exact fm_X3_reckon_176 d o_k ih _ _ _ _ _ _ _ H
                      · replace H := a_neg c50 H
                        refine aw_iconst (v := 1) dX3_reckon_171 (by decide) ?_
                        refine aw_goto (tgt := 176) dX3_reckon_172 (by decide) ?_
                        refine aw_sub (lv' := [(0, .ref (G.2.1 k)), (1, .int a1), (2, .int x2), (3, .int x3_42), (4, .int x4), (5, .int v39), (6, .int v41)]) [3, 4, 5, 0, 6, 2, 1] rfl ?_
                        exact fm_X3_reckon_176 d o_k ih _ _ _ _ _ _ _ H
                    · replace H := a_neg c47 H
                      refine aw_iload dX3_reckon_154 2 rfl ?_
                      refine aw_iconst (v := 4) dX3_reckon_156 (by decide) ?_
                      refine aw_icmp_ne (tgt := 206) dX3_reckon_157 (by decide) (fun c51 => ?_) (fun c51 => ?_)
                      · replace H := a_pos c51 H
                        refine aw_iload_n dX3_reckon_206 rfl 5 rfl ?_
                        refine aw_iconst (v := 2) dX3_reckon_207 (by decide) ?_
                        refine aw_icmp_ge (tgt := 213) dX3_reckon_208 (by decide) (fun c52 => ?_) (fun c52 => ?_)
                        · replace H := a_pos c52 H
                          obtain ⟨x2_53, e_x2_53⟩ : ∃ y : Int32, y = x2 + (-1) := ⟨_, rfl⟩
                          replace H := H x2_53 e_x2_53
                          refine aw_iinc (v := x2_53) (lv' := [(2, .int x2_53), (3, .int x3_42), (6, .int v41), (5, .int v39), (0, .ref (G.2.1 k)), (1, .int a1), (4, .int x4)]) dX3_reckon_213 (n0 := 5) rfl (by rw [e_x2_53]; rfl) (by decide) rfl ?_
                          refine aw_aload_n dX3_reckon_216 rfl 4 rfl ?_
                          refine aw_getR cf_X3 8 (by decide) rfl wd_176 o_k dX3_reckon_217 ?_
                          refine aw_iload_n dX3_reckon_220 rfl 0 rfl ?_
                          refine aw_iconst (v := 1) dX3_reckon_221 (by decide) ?_
                          refine aw_isub dX3_reckon_222 ?_
                          refine aw_aload_n dX3_reckon_223 rfl 4 rfl ?_
                          refine aw_iload dX3_reckon_224 3 rfl ?_
                          refine aw_aload_n dX3_reckon_226 rfl 4 rfl ?_
                          refine aw_getR cf_X3 8 (by decide) rfl wd_176 o_k dX3_reckon_227 ?_
                          refine aw_iload_n dX3_reckon_230 rfl 0 rfl ?_
                          refine aw_iconst (v := 1) dX3_reckon_231 (by decide) ?_
                          refine aw_isub dX3_reckon_232 ?_
                          obtain ⟨z54, H⟩ := H
                          refine aw_iaload z54 dX3_reckon_233 ?_
                          refine aw_name (fun v55 e_v55 => ?_)
                          replace H := H v55 e_v55
                          refine aw_aload_n dX3_reckon_234 rfl 4 rfl ?_
                          refine aw_getR cf_X3 8 (by decide) rfl wd_176 o_k dX3_reckon_235 ?_
                          refine aw_iload_n dX3_reckon_238 rfl 0 rfl ?_
                          obtain ⟨z56, H⟩ := H
                          refine aw_iaload z56 dX3_reckon_239 ?_
                          refine aw_name (fun v57 e_v57 => ?_)
                          replace H := H v57 e_v57
                          refine aw_callV_i (As := [.int v39, .int v55, .int v57]) (rest := [.int (x2_53 - 1), .ref (G.2.1 (gR h k 8))]) (am_X3_join d o_k H) mf_X3_join wd_594 wd_596 ws_1_14 cf_X3 o_k rfl rfl (Nat.le_of_ble_eq_true rfl) dX3_reckon_240 (fun r59 h58 H => ?_)
                          obtain ⟨z60, H⟩ := H
                          refine aw_iastore z60 dX3_reckon_243 ?_
                          refine aw_nameH (fun h61 e_h61 => ?_)
                          replace H := H h61 e_h61
                          refine aw_aload_n dX3_reckon_244 rfl 4 rfl ?_
                          refine aw_getI cf_X3 9 (by decide) rfl wd_177 o_k dX3_reckon_245 ?_
                          refine aw_name (fun v62 e_v62 => ?_)
                          replace H := H v62 e_v62
                          refine aw_if_eq (tgt := 253) dX3_reckon_248 (by decide) (fun c63 => ?_) (fun c63 => ?_)
                          · replace H := a_pos c63 H
                            obtain ⟨x4_64, e_x4_64⟩ : ∃ y : Int32, y = x4 + 1 := ⟨_, rfl⟩
                            replace H := H x4_64 e_x4_64
                            refine aw_iinc (v := x4_64) (lv' := [(4, .int x4_64), (2, .int x2_53), (3, .int x3_42), (6, .int v41), (5, .int v39), (0, .ref (G.2.1 k)), (1, .int a1)]) dX3_reckon_253 (n0 := 6) rfl (by rw [e_x4_64]; rfl) (by decide) rfl ?_
                            refine aw_goto (tgt := 12) dX3_reckon_256 (by decide) ?_
                            refine aw_sub (lv' := [(0, .ref (G.2.1 k)), (1, .int a1), (2, .int x2_53), (3, .int x3_42), (4, .int x4_64)]) [5, 6, 1, 2, 0] rfl ?_
                            exact ih _ _ _ _ H
                          · replace H := a_neg c63 H
                            refine aw_iconst (v := 0) dX3_reckon_251 (by decide) ?_
                            exact aw_iret rfl H dX3_reckon_252
                        · replace H := a_neg c52 H
                          refine aw_iconst (v := 0) dX3_reckon_211 (by decide) ?_
                          exact aw_iret rfl H dX3_reckon_212
                      · replace H := a_neg2 c51 H
                        refine aw_aload_n dX3_reckon_160 rfl 3 rfl ?_
                        refine aw_getR cf_X3 8 (by decide) rfl wd_176 o_k dX3_reckon_161 ?_
                        refine aw_iload_n dX3_reckon_164 rfl 5 rfl ?_
                        refine aw_iconst (v := 1) dX3_reckon_165 (by decide) ?_
                        refine aw_isub dX3_reckon_166 ?_
                        obtain ⟨z65, H⟩ := H
                        refine aw_iaload z65 dX3_reckon_167 ?_
                        refine aw_name (fun v66 e_v66 => ?_)
                        replace H := H v66 e_v66
                        refine aw_if_eq (tgt := 175) dX3_reckon_168 (by decide) (fun c67 => ?_) (fun c67 => ?_)
                        · replace H := a_pos c67 H
                          refine aw_iconst (v := 0) dX3_reckon_175 (by decide) ?_
                          refine aw_sub (lv' := [(0, .ref (G.2.1 k)), (1, .int a1), (2, .int x2), (3, .int x3_42), (4, .int x4), (5, .int v39), (6, .int v41)]) [3, 4, 5, 0, 6, 2, 1] rfl ?_
                          exact fm_X3_reckon_176 d o_k ih _ _ _ _ _ _ _ H
                        · replace H := a_neg c67 H
                          refine aw_iconst (v := 1) dX3_reckon_171 (by decide) ?_
                          refine aw_goto (tgt := 176) dX3_reckon_172 (by decide) ?_
                          refine aw_sub (lv' := [(0, .ref (G.2.1 k)), (1, .int a1), (2, .int x2), (3, .int x3_42), (4, .int x4), (5, .int v39), (6, .int v41)]) [3, 4, 5, 0, 6, 2, 1] rfl ?_
                          exact fm_X3_reckon_176 d o_k ih _ _ _ _ _ _ _ H
                  · replace H := a_neg2 c46 H
                    refine aw_aload_n dX3_reckon_127 rfl 3 rfl ?_
                    refine aw_getR cf_X3 8 (by decide) rfl wd_176 o_k dX3_reckon_128 ?_
                    refine aw_iload_n dX3_reckon_131 rfl 5 rfl ?_
                    refine aw_iconst (v := 1) dX3_reckon_132 (by decide) ?_
                    refine aw_isub dX3_reckon_133 ?_
                    refine aw_iconst (v := 1) dX3_reckon_134 (by decide) ?_
                    refine aw_aload_n dX3_reckon_135 rfl 3 rfl ?_
                    refine aw_getR cf_X3 8 (by decide) rfl wd_176 o_k dX3_reckon_136 ?_
                    refine aw_iload_n dX3_reckon_139 rfl 5 rfl ?_
                    refine aw_iconst (v := 1) dX3_reckon_140 (by decide) ?_
                    refine aw_isub dX3_reckon_141 ?_
                    obtain ⟨z68, H⟩ := H
                    refine aw_iaload z68 dX3_reckon_142 ?_
                    refine aw_name (fun v69 e_v69 => ?_)
                    replace H := H v69 e_v69
                    refine aw_isub dX3_reckon_143 ?_
                    obtain ⟨z70, H⟩ := H
                    refine aw_iastore z70 dX3_reckon_144 ?_
                    refine aw_nameH (fun h71 e_h71 => ?_)
                    replace H := H h71 e_h71
                    refine aw_goto (tgt := 253) dX3_reckon_145 (by decide) ?_
                    obtain ⟨x4_72, e_x4_72⟩ : ∃ y : Int32, y = x4 + 1 := ⟨_, rfl⟩
                    replace H := H x4_72 e_x4_72
                    refine aw_iinc (v := x4_72) (lv' := [(4, .int x4_72), (3, .int x3_42), (6, .int v41), (5, .int v39), (0, .ref (G.2.1 k)), (1, .int a1), (2, .int x2)]) dX3_reckon_253 (n0 := 6) rfl (by rw [e_x4_72]; rfl) (by decide) rfl ?_
                    refine aw_goto (tgt := 12) dX3_reckon_256 (by decide) ?_
                    refine aw_sub (lv' := [(0, .ref (G.2.1 k)), (1, .int a1), (2, .int x2), (3, .int x3_42), (4, .int x4_72)]) [4, 5, 6, 1, 0] rfl ?_
                    exact ih _ _ _ _ H
                · replace H := a_neg c45 H
                  refine aw_iconst (v := 0) dX3_reckon_119 (by decide) ?_
                  exact aw_iret rfl H dX3_reckon_120
              · replace H := a_neg2 c44 H
                refine aw_sub (lv' := [(0, .ref (G.2.1 k)), (1, .int a1), (2, .int x2), (3, .int x3_42), (4, .int x4), (5, .int v39), (6, .int v41)]) [3, 4, 5, 0, 6, 2, 1] rfl ?_
                exact fm_X3_reckon_72 d o_k ih _ _ _ _ _ _ H
set_option maxHeartbeats 4000000 in
set_option maxRecDepth 100000 in
theorem am_X3_reckon {l : Launch} {S : aS} {G : aG} (d : Nat) {k : Nat} {a1 : Int32} {h : aH} {Q : Int32 → aH → Prop} (o_k : aObj S k 2 flX3) (H : f_X3_reckon S k a1 h Q) : AMi l S G (d + 1) M_X3_reckon [.ref (G.2.1 k), .int a1] h Q := by
  unfold f_X3_reckon at H
  refine am_of mf_X3_reckon (Nat.le_of_ble_eq_true rfl) (lv0 := [(0, .ref (G.2.1 k)), (1, .int a1)]) rfl ?_
  refine aw_aload_n dX3_reckon_0 rfl 0 rfl ?_
  refine aw_iconst (v := 0) dX3_reckon_1 (by decide) ?_
  refine aw_putI cf_X3 9 (by decide) rfl wd_177 rfl (by decide) (by decide) o_k dX3_reckon_2 ?_
  refine aw_nameH (fun h73 e_h73 => ?_)
  replace H := H h73 e_h73
  refine aw_iconst (v := 0) dX3_reckon_5 (by decide) ?_
  refine aw_istore_n (lv' := [(2, .int 0), (0, .ref (G.2.1 k)), (1, .int a1)]) dX3_reckon_6 rfl (by decide) rfl ?_
  refine aw_iload_n dX3_reckon_7 rfl 2 rfl ?_
  refine aw_istore_n (lv' := [(3, .int a1), (2, .int 0), (0, .ref (G.2.1 k)), (1, .int a1)]) dX3_reckon_8 rfl (by decide) rfl ?_
  refine aw_iconst (v := 0) dX3_reckon_9 (by decide) ?_
  refine aw_istore (lv' := [(4, .int 0), (3, .int a1), (2, .int 0), (0, .ref (G.2.1 k)), (1, .int a1)]) dX3_reckon_10 (by decide) rfl ?_
  refine aw_sub (lv' := [(0, .ref (G.2.1 k)), (1, .int a1), (2, .int 0), (3, .int a1), (4, .int 0)]) [3, 4, 2, 1, 0] rfl ?_
  obtain ⟨n1, H⟩ := H
  exact fm_X3_reckon_12 d o_k n1 _ _ _ _ H
set_option maxHeartbeats 4000000 in
set_option maxRecDepth 100000 in
theorem fm_X3_says_2 {l : Launch} {S : aS} {G : aG} (d : Nat) {k : Nat} {a1 : Int32} {a2 : Int32} {Q : Int32 → aH → Prop} (o_k : aObj S k 2 flX3) : ∀ (n : Nat) (x3 : Int32) (h : aH), f_X3_says_2 S k a1 a2 Q n x3 h → AW l S G (d + 2) M_X3_says (va_Qi Q (aPo S G) (aA S G)) 2 [(0, .ref (G.2.1 k)), (1, .int a1), (2, .int a2), (3, .int x3)] [] h := by
  intro n
  induction n with
  | zero => intro x3 h H; exact False.elim H
  | succ n ih =>
    intro x3 h H
    unfold f_X3_says_2 at H
    refine aw_iload_n dX3_says_2 rfl 3 rfl ?_
    refine aw_aload_n dX3_says_3 rfl 0 rfl ?_
    refine aw_getI cf_X3 6 (by decide) rfl wd_173 o_k dX3_says_4 ?_
    refine aw_name (fun v1 e_v1 => ?_)
    replace H := H v1 e_v1
    refine aw_icmp_ge (tgt := 80) dX3_says_7 (by decide) (fun c2 => ?_) (fun c2 => ?_)
    · replace H := a_pos c2 H
      refine aw_iconst (v := 0) dX3_says_80 (by decide) ?_
      exact aw_iret rfl H dX3_says_81
    · replace H := a_neg c2 H
      refine aw_aload_n dX3_says_10 rfl 0 rfl ?_
      refine aw_getR cf_X3 3 (by decide) rfl wd_170 o_k dX3_says_11 ?_
      refine aw_iload_n dX3_says_14 rfl 3 rfl ?_
      obtain ⟨z3, H⟩ := H
      refine aw_iaload z3 dX3_says_15 ?_
      refine aw_name (fun v4 e_v4 => ?_)
      replace H := H v4 e_v4
      refine aw_iload_n dX3_says_16 rfl 1 rfl ?_
      refine aw_icmp_ne (tgt := 74) dX3_says_17 (by decide) (fun c5 => ?_) (fun c5 => ?_)
      · replace H := a_pos c5 H
        obtain ⟨x3_6, e_x3_6⟩ : ∃ y : Int32, y = x3 + 1 := ⟨_, rfl⟩
        replace H := H x3_6 e_x3_6
        refine aw_iinc (v := x3_6) (lv' := [(3, .int x3_6), (0, .ref (G.2.1 k)), (1, .int a1), (2, .int a2)]) dX3_says_74 (n0 := 3) rfl (by rw [e_x3_6]; rfl) (by decide) rfl ?_
        refine aw_goto (tgt := 2) dX3_says_77 (by decide) ?_
        refine aw_sub (lv' := [(0, .ref (G.2.1 k)), (1, .int a1), (2, .int a2), (3, .int x3_6)]) [1, 2, 3, 0] rfl ?_
        exact ih _ _ H
      · replace H := a_neg2 c5 H
        refine aw_aload_n dX3_says_20 rfl 0 rfl ?_
        refine aw_aload_n dX3_says_21 rfl 0 rfl ?_
        refine aw_getR cf_X3 5 (by decide) rfl wd_172 o_k dX3_says_22 ?_
        refine aw_iload_n dX3_says_25 rfl 3 rfl ?_
        obtain ⟨z7, H⟩ := H
        refine aw_iaload z7 dX3_says_26 ?_
        refine aw_name (fun v8 e_v8 => ?_)
        replace H := H v8 e_v8
        refine aw_callV_i (As := [.int v8]) (rest := []) (am_X3_reckon d o_k H) mf_X3_reckon wd_586 wd_588 ws_1_12 cf_X3 o_k rfl rfl (Nat.le_of_ble_eq_true rfl) dX3_says_27 (fun r10 h9 H => ?_)
        refine aw_if_eq (tgt := 74) dX3_says_30 (by decide) (fun c11 => ?_) (fun c11 => ?_)
        · replace H := a_pos c11 H
          obtain ⟨x3_12, e_x3_12⟩ : ∃ y : Int32, y = x3 + 1 := ⟨_, rfl⟩
          replace H := H x3_12 e_x3_12
          refine aw_iinc (v := x3_12) (lv' := [(3, .int x3_12), (0, .ref (G.2.1 k)), (1, .int a1), (2, .int a2)]) dX3_says_74 (n0 := 3) rfl (by rw [e_x3_12]; rfl) (by decide) rfl ?_
          refine aw_goto (tgt := 2) dX3_says_77 (by decide) ?_
          refine aw_sub (lv' := [(0, .ref (G.2.1 k)), (1, .int a1), (2, .int a2), (3, .int x3_12)]) [1, 2, 3, 0] rfl ?_
          exact ih _ _ H
        · replace H := a_neg c11 H
          refine aw_aload_n dX3_says_33 rfl 0 rfl ?_
          refine aw_getI cf_X3 9 (by decide) rfl wd_177 o_k dX3_says_34 ?_
          refine aw_name (fun v13 e_v13 => ?_)
          replace H := H v13 e_v13
          refine aw_if_ne (tgt := 74) dX3_says_37 (by decide) (fun c14 => ?_) (fun c14 => ?_)
          · replace H := a_pos c14 H
            obtain ⟨x3_15, e_x3_15⟩ : ∃ y : Int32, y = x3 + 1 := ⟨_, rfl⟩
            replace H := H x3_15 e_x3_15
            refine aw_iinc (v := x3_15) (lv' := [(3, .int x3_15), (0, .ref (G.2.1 k)), (1, .int a1), (2, .int a2)]) dX3_says_74 (n0 := 3) rfl (by rw [e_x3_15]; rfl) (by decide) rfl ?_
            refine aw_goto (tgt := 2) dX3_says_77 (by decide) ?_
            refine aw_sub (lv' := [(0, .ref (G.2.1 k)), (1, .int a1), (2, .int a2), (3, .int x3_15)]) [1, 2, 3, 0] rfl ?_
            exact ih _ _ H
          · replace H := a_neg2 c14 H
            refine aw_aload_n dX3_says_40 rfl 0 rfl ?_
            refine aw_aload_n dX3_says_41 rfl 0 rfl ?_
            refine aw_getR cf_X3 4 (by decide) rfl wd_171 o_k dX3_says_42 ?_
            refine aw_iload_n dX3_says_45 rfl 3 rfl ?_
            obtain ⟨z16, H⟩ := H
            refine aw_iaload z16 dX3_says_46 ?_
            refine aw_name (fun v17 e_v17 => ?_)
            replace H := H v17 e_v17
            refine aw_callV_i (As := [.int v17]) (rest := []) (am_X3_reckon d o_k H) mf_X3_reckon wd_586 wd_588 ws_1_12 cf_X3 o_k rfl rfl (Nat.le_of_ble_eq_true rfl) dX3_says_47 (fun r19 h18 H => ?_)
            refine aw_istore (lv' := [(4, .int r19), (0, .ref (G.2.1 k)), (1, .int a1), (2, .int a2), (3, .int x3)]) dX3_says_50 (by decide) rfl ?_
            refine aw_aload_n dX3_says_52 rfl 1 rfl ?_
            refine aw_getI cf_X3 9 (by decide) rfl wd_177 o_k dX3_says_53 ?_
            refine aw_name (fun v20 e_v20 => ?_)
            replace H := H v20 e_v20
            refine aw_if_eq (tgt := 63) dX3_says_56 (by decide) (fun c21 => ?_) (fun c21 => ?_)
            · replace H := a_pos c21 H
              refine aw_iconst (v := 0) dX3_says_63 (by decide) ?_
              refine aw_iload_n dX3_says_64 rfl 3 rfl ?_
              refine aw_iload dX3_says_65 0 rfl ?_
              refine aw_mmin wd_598 wd_478 wd_15 wd_479 (Nat.le_of_ble_eq_true rfl) dX3_says_67 ?_
              refine aw_name (fun v22 e_v22 => ?_)
              replace H := H v22 e_v22
              refine aw_mmax wd_599 wd_475 wd_15 wd_476 (Nat.le_of_ble_eq_true rfl) dX3_says_70 ?_
              refine aw_name (fun v23 e_v23 => ?_)
              replace H := H v23 e_v23
              exact aw_iret rfl H dX3_says_73
            · replace H := a_neg c21 H
              refine aw_iconst (v := 0) dX3_says_59 (by decide) ?_
              refine aw_goto (tgt := 73) dX3_says_60 (by decide) ?_
              exact aw_iret rfl H dX3_says_73
set_option maxHeartbeats 4000000 in
set_option maxRecDepth 100000 in
theorem am_X3_says {l : Launch} {S : aS} {G : aG} (d : Nat) {k : Nat} {a1 : Int32} {a2 : Int32} {h : aH} {Q : Int32 → aH → Prop} (o_k : aObj S k 2 flX3) (H : f_X3_says S k a1 a2 h Q) : AMi l S G (d + 2) M_X3_says [.ref (G.2.1 k), .int a1, .int a2] h Q := by
  unfold f_X3_says at H
  refine am_of mf_X3_says (Nat.le_of_ble_eq_true rfl) (lv0 := [(0, .ref (G.2.1 k)), (1, .int a1), (2, .int a2)]) rfl ?_
  refine aw_iconst (v := 0) dX3_says_0 (by decide) ?_
  refine aw_istore_n (lv' := [(3, .int 0), (0, .ref (G.2.1 k)), (1, .int a1), (2, .int a2)]) dX3_says_1 rfl (by decide) rfl ?_
  refine aw_sub (lv' := [(0, .ref (G.2.1 k)), (1, .int a1), (2, .int a2), (3, .int 0)]) [1, 2, 3, 0] rfl ?_
  obtain ⟨n1, H⟩ := H
  exact fm_X3_says_2 d o_k n1 _ _ H
set_option maxHeartbeats 4000000 in
set_option maxRecDepth 100000 in
theorem fm_X5_bearingTime_25 {l : Launch} {S : aS} {G : aG} (d : Nat) {k : Nat} {a1 : Nat} {a2 : Int32} {a3 : Int32} {a4 : Int32} {Q : Int32 → aH → Prop} (o_k : aObj S k 4 flX5) (o_a1 : aObj S a1 1 flX2) : ∀ (n : Nat) (x5 : Int32) (x6 : Int32) (h : aH), f_X5_bearingTime_25 S k a1 a2 a3 a4 Q n x5 x6 h → AW l S G (d + 3) M_X5_bearingTime (va_Qi Q (aPo S G) (aA S G)) 25 [(0, .ref (G.2.1 k)), (1, .ref (G.2.1 a1)), (2, .int a2), (3, .int a3), (4, .int a4), (5, .int x5), (6, .int x6)] [] h := by
  intro n
  induction n with
  | zero => intro x5 x6 h H; exact False.elim H
  | succ n ih =>
    intro x5 x6 h H
    unfold f_X5_bearingTime_25 at H
    refine aw_iload dX5_bearingTime_25 6 rfl ?_
    refine aw_iload dX5_bearingTime_27 4 rfl ?_
    refine aw_icmp_ge (tgt := 93) dX5_bearingTime_29 (by decide) (fun c1 => ?_) (fun c1 => ?_)
    · replace H := a_pos c1 H
      refine aw_iload dX5_bearingTime_93 4 rfl ?_
      exact aw_iret rfl H dX5_bearingTime_95
    · replace H := a_neg c1 H
      refine aw_aload_n dX5_bearingTime_32 rfl 0 rfl ?_
      refine aw_getR cf_X5 0 (by decide) rfl wd_199 o_k dX5_bearingTime_33 ?_
      refine aw_iload dX5_bearingTime_36 5 rfl ?_
      refine aw_aload_n dX5_bearingTime_38 rfl 1 rfl ?_
      refine aw_getI cf_X2 13 (by decide) rfl wd_79 o_a1 dX5_bearingTime_39 ?_
      refine aw_name (fun v2 e_v2 => ?_)
      replace H := H v2 e_v2
      refine aw_iload dX5_bearingTime_42 6 rfl ?_
      refine aw_iadd dX5_bearingTime_44 ?_
      obtain ⟨o3, H⟩ := H
      refine aw_callV_v (As := [.int x5, .int (v2 + x6)]) (rest := []) (am_X3_lookLater (d + 2) o3 H) mf_X3_lookLater wd_793 wd_794 wd_795 cf_X3 o3 rfl rfl (Nat.le_of_ble_eq_true rfl) dX5_bearingTime_45 (fun h4 H => ?_)
      refine aw_aload_n dX5_bearingTime_48 rfl 0 rfl ?_
      refine aw_getR cf_X5 0 (by decide) rfl wd_199 o_k dX5_bearingTime_49 ?_
      refine aw_bipush (v := 98) dX5_bearingTime_52 (by decide) ?_
      refine aw_sipush (v := 9999) dX5_bearingTime_54 (by decide) ?_
      obtain ⟨o5, H⟩ := H
      refine aw_callV_i (As := [.int 98, .int 9999]) (rest := []) (am_X3_says d o5 H) mf_X3_says wd_582 wd_583 wd_584 cf_X3 o5 rfl rfl (Nat.le_of_ble_eq_true rfl) dX5_bearingTime_57 (fun r7 h6 H => ?_)
      refine aw_iload_n dX5_bearingTime_60 rfl 3 rfl ?_
      refine aw_icmp_ge (tgt := 67) dX5_bearingTime_61 (by decide) (fun c8 => ?_) (fun c8 => ?_)
      · replace H := a_pos c8 H
        refine aw_iconst (v := 0) dX5_bearingTime_67 (by decide) ?_
        refine aw_iload dX5_bearingTime_68 5 rfl ?_
        refine aw_aload_n dX5_bearingTime_70 rfl 0 rfl ?_
        refine aw_getR cf_X5 0 (by decide) rfl wd_199 o_k dX5_bearingTime_71 ?_
        refine aw_bipush (v := 116) dX5_bearingTime_74 (by decide) ?_
        refine aw_bipush (v := 9) dX5_bearingTime_76 (by decide) ?_
        obtain ⟨o9, H⟩ := H
        refine aw_callV_i (As := [.int 116, .int 9]) (rest := [.int x5, .int 0]) (am_X3_says d o9 H) mf_X3_says wd_582 wd_583 wd_584 cf_X3 o9 rfl rfl (Nat.le_of_ble_eq_true rfl) dX5_bearingTime_78 (fun r11 h10 H => ?_)
        refine aw_isub dX5_bearingTime_81 ?_
        refine aw_mmax wd_689 wd_475 wd_15 wd_476 (Nat.le_of_ble_eq_true rfl) dX5_bearingTime_82 ?_
        refine aw_name (fun v12 e_v12 => ?_)
        replace H := H v12 e_v12
        refine aw_istore (lv' := [(5, .int v12), (0, .ref (G.2.1 k)), (1, .ref (G.2.1 a1)), (2, .int a2), (3, .int a3), (4, .int a4), (6, .int x6)]) dX5_bearingTime_85 (by decide) rfl ?_
        obtain ⟨x6_13, e_x6_13⟩ : ∃ y : Int32, y = x6 + 1 := ⟨_, rfl⟩
        replace H := H x6_13 e_x6_13
        refine aw_iinc (v := x6_13) (lv' := [(6, .int x6_13), (5, .int v12), (0, .ref (G.2.1 k)), (1, .ref (G.2.1 a1)), (2, .int a2), (3, .int a3), (4, .int a4)]) dX5_bearingTime_87 (n0 := 6) rfl (by rw [e_x6_13]; rfl) (by decide) rfl ?_
        refine aw_goto (tgt := 25) dX5_bearingTime_90 (by decide) ?_
        refine aw_sub (lv' := [(0, .ref (G.2.1 k)), (1, .ref (G.2.1 a1)), (2, .int a2), (3, .int a3), (4, .int a4), (5, .int v12), (6, .int x6_13)]) [2, 3, 4, 5, 6, 1, 0] rfl ?_
        exact ih _ _ _ H
      · replace H := a_neg c8 H
        refine aw_iload dX5_bearingTime_64 6 rfl ?_
        exact aw_iret rfl H dX5_bearingTime_66
set_option maxHeartbeats 4000000 in
set_option maxRecDepth 100000 in
theorem am_X5_bearingTime {l : Launch} {S : aS} {G : aG} (d : Nat) {k : Nat} {a1 : Nat} {a2 : Int32} {a3 : Int32} {a4 : Int32} {h : aH} {Q : Int32 → aH → Prop} (o_k : aObj S k 4 flX5) (o_a1 : aObj S a1 1 flX2) (H : f_X5_bearingTime S k a1 a2 a3 a4 h Q) : AMi l S G (d + 3) M_X5_bearingTime [.ref (G.2.1 k), .ref (G.2.1 a1), .int a2, .int a3, .int a4] h Q := by
  unfold f_X5_bearingTime at H
  refine am_of mf_X5_bearingTime (Nat.le_of_ble_eq_true rfl) (lv0 := [(0, .ref (G.2.1 k)), (1, .ref (G.2.1 a1)), (2, .int a2), (3, .int a3), (4, .int a4)]) rfl ?_
  refine aw_aload_n dX5_bearingTime_0 rfl 0 rfl ?_
  refine aw_getR cf_X5 0 (by decide) rfl wd_199 o_k dX5_bearingTime_1 ?_
  refine aw_aload_n dX5_bearingTime_4 rfl 1 rfl ?_
  refine aw_iload_n dX5_bearingTime_5 rfl 2 rfl ?_
  refine aw_aload_n dX5_bearingTime_6 rfl 1 rfl ?_
  refine aw_iload_n dX5_bearingTime_7 rfl 2 rfl ?_
  refine aw_callV_i (As := [.int a2]) (rest := [.int a2, .ref (G.2.1 a1), .ref (G.2.1 (gR h k 0))]) (am_X2_kindAt (d + 1) o_a1 H) mf_X2_kindAt wd_660 wd_661 wd_662 cf_X2 o_a1 rfl rfl (Nat.le_of_ble_eq_true rfl) dX5_bearingTime_8 (fun r15 h14 H => ?_)
  obtain ⟨o16, H⟩ := H
  refine aw_callV_v (As := [.ref (G.2.1 a1), .int a2, .int r15]) (rest := []) (am_X3_lookAt (d + 1) o16 o_a1 H) mf_X3_lookAt wd_576 wd_577 wd_578 cf_X3 o16 rfl rfl (Nat.le_of_ble_eq_true rfl) dX5_bearingTime_11 (fun h17 H => ?_)
  refine aw_aload_n dX5_bearingTime_14 rfl 1 rfl ?_
  refine aw_getR cf_X2 0 (by decide) rfl wd_37 o_a1 dX5_bearingTime_15 ?_
  refine aw_iload_n dX5_bearingTime_18 rfl 2 rfl ?_
  obtain ⟨z18, H⟩ := H
  refine aw_iaload z18 dX5_bearingTime_19 ?_
  refine aw_name (fun v19 e_v19 => ?_)
  replace H := H v19 e_v19
  refine aw_istore (lv' := [(5, .int v19), (0, .ref (G.2.1 k)), (1, .ref (G.2.1 a1)), (2, .int a2), (3, .int a3), (4, .int a4)]) dX5_bearingTime_20 (by decide) rfl ?_
  refine aw_iconst (v := 0) dX5_bearingTime_22 (by decide) ?_
  refine aw_istore (lv' := [(6, .int 0), (5, .int v19), (0, .ref (G.2.1 k)), (1, .ref (G.2.1 a1)), (2, .int a2), (3, .int a3), (4, .int a4)]) dX5_bearingTime_23 (by decide) rfl ?_
  refine aw_sub (lv' := [(0, .ref (G.2.1 k)), (1, .ref (G.2.1 a1)), (2, .int a2), (3, .int a3), (4, .int a4), (5, .int v19), (6, .int 0)]) [2, 3, 4, 5, 6, 1, 0] rfl ?_
  obtain ⟨n1, H⟩ := H
  exact fm_X5_bearingTime_25 d o_k o_a1 n1 _ _ _ H
set_option maxHeartbeats 4000000 in
set_option maxRecDepth 100000 in
theorem fm_X5_soundTime_7 {l : Launch} {S : aS} {G : aG} (d : Nat) {k : Nat} {a1 : Nat} {a2 : Int32} {a3 : Int32} {Q : Int32 → aH → Prop} (o_k : aObj S k 4 flX5) (o_a1 : aObj S a1 1 flX2) : ∀ (n : Nat) (x4 : Int32) (x5 : Int32) (h : aH), f_X5_soundTime_7 S k a1 a2 a3 Q n x4 x5 h → AW l S G (d + 4) M_X5_soundTime (va_Qi Q (aPo S G) (aA S G)) 7 [(0, .ref (G.2.1 k)), (1, .ref (G.2.1 a1)), (2, .int a2), (3, .int a3), (4, .int x4), (5, .int x5)] [] h := by
  intro n
  induction n with
  | zero => intro x4 x5 h H; exact False.elim H
  | succ n ih =>
    intro x4 x5 h H
    unfold f_X5_soundTime_7 at H
    refine aw_iload dX5_soundTime_7 5 rfl ?_
    refine aw_bipush (v := 8) dX5_soundTime_9 (by decide) ?_
    refine aw_icmp_ge (tgt := 60) dX5_soundTime_11 (by decide) (fun c1 => ?_) (fun c1 => ?_)
    · replace H := a_pos c1 H
      refine aw_iload dX5_soundTime_60 4 rfl ?_
      exact aw_iret rfl H dX5_soundTime_62
    · replace H := a_neg c1 H
      refine aw_aload_n dX5_soundTime_14 rfl 1 rfl ?_
      refine aw_getR cf_X2 4 (by decide) rfl wd_48 o_a1 dX5_soundTime_15 ?_
      refine aw_iload_n dX5_soundTime_18 rfl 2 rfl ?_
      obtain ⟨z2, H⟩ := H
      refine aw_iaload z2 dX5_soundTime_19 ?_
      refine aw_name (fun v3 e_v3 => ?_)
      replace H := H v3 e_v3
      refine aw_iload dX5_soundTime_20 5 rfl ?_
      refine aw_callS_i (As := [.int v3, .int x5]) (rest := []) (am_X1_neighbour (d + 1) H) mf_X1_neighbour wd_788 wd_361 rfl rfl (Nat.le_of_ble_eq_true rfl) dX5_soundTime_22 (fun r5 h4 H => ?_)
      refine aw_istore (lv' := [(6, .int r5), (0, .ref (G.2.1 k)), (1, .ref (G.2.1 a1)), (2, .int a2), (3, .int a3), (4, .int x4), (5, .int x5)]) dX5_soundTime_25 (by decide) rfl ?_
      refine aw_iload dX5_soundTime_27 0 rfl ?_
      refine aw_iconst (v := (-1)) dX5_soundTime_29 (by decide) ?_
      refine aw_icmp_eq (tgt := 54) dX5_soundTime_30 (by decide) (fun c6 => ?_) (fun c6 => ?_)
      · replace H := a_pos c6 H
        obtain ⟨x5_7, e_x5_7⟩ : ∃ y : Int32, y = x5 + 1 := ⟨_, rfl⟩
        replace H := H x5_7 e_x5_7
        refine aw_iinc (v := x5_7) (lv' := [(5, .int x5_7), (6, .int r5), (0, .ref (G.2.1 k)), (1, .ref (G.2.1 a1)), (2, .int a2), (3, .int a3), (4, .int x4)]) dX5_soundTime_54 (n0 := 6) rfl (by rw [e_x5_7]; rfl) (by decide) rfl ?_
        refine aw_goto (tgt := 7) dX5_soundTime_57 (by decide) ?_
        refine aw_sub (lv' := [(0, .ref (G.2.1 k)), (1, .ref (G.2.1 a1)), (2, .int a2), (3, .int a3), (4, .int x4), (5, .int x5_7)]) [2, 3, 4, 5, 6, 0] rfl ?_
        exact ih _ _ _ H
      · replace H := a_neg c6 H
        refine aw_aload_n dX5_soundTime_33 rfl 2 rfl ?_
        refine aw_iload dX5_soundTime_34 0 rfl ?_
        refine aw_callV_i (As := [.int r5]) (rest := []) (am_X2_isFirm (d + 2) o_a1 H) mf_X2_isFirm wd_650 wd_562 wd_563 cf_X2 o_a1 rfl rfl (Nat.le_of_ble_eq_true rfl) dX5_soundTime_36 (fun r9 h8 H => ?_)
        refine aw_if_eq (tgt := 54) dX5_soundTime_39 (by decide) (fun c10 => ?_) (fun c10 => ?_)
        · replace H := a_pos c10 H
          obtain ⟨x5_11, e_x5_11⟩ : ∃ y : Int32, y = x5 + 1 := ⟨_, rfl⟩
          replace H := H x5_11 e_x5_11
          refine aw_iinc (v := x5_11) (lv' := [(5, .int x5_11), (6, .int r5), (0, .ref (G.2.1 k)), (1, .ref (G.2.1 a1)), (2, .int a2), (3, .int a3), (4, .int x4)]) dX5_soundTime_54 (n0 := 6) rfl (by rw [e_x5_11]; rfl) (by decide) rfl ?_
          refine aw_goto (tgt := 7) dX5_soundTime_57 (by decide) ?_
          refine aw_sub (lv' := [(0, .ref (G.2.1 k)), (1, .ref (G.2.1 a1)), (2, .int a2), (3, .int a3), (4, .int x4), (5, .int x5_11)]) [2, 3, 4, 5, 6, 0] rfl ?_
          exact ih _ _ _ H
        · replace H := a_neg c10 H
          refine aw_aload_n dX5_soundTime_42 rfl 1 rfl ?_
          refine aw_aload_n dX5_soundTime_43 rfl 2 rfl ?_
          refine aw_iload dX5_soundTime_44 0 rfl ?_
          refine aw_iload_n dX5_soundTime_46 rfl 4 rfl ?_
          refine aw_iload dX5_soundTime_47 5 rfl ?_
          refine aw_callV_i (As := [.ref (G.2.1 a1), .int r5, .int a3, .int x4]) (rest := []) (am_X5_bearingTime d o_k o_a1 H) mf_X5_bearingTime wd_789 wd_791 ws_2_4 cf_X5 o_k rfl rfl (Nat.le_of_ble_eq_true rfl) dX5_soundTime_49 (fun r13 h12 H => ?_)
          refine aw_istore (lv' := [(4, .int r13), (6, .int r5), (0, .ref (G.2.1 k)), (1, .ref (G.2.1 a1)), (2, .int a2), (3, .int a3), (5, .int x5)]) dX5_soundTime_52 (by decide) rfl ?_
          obtain ⟨x5_14, e_x5_14⟩ : ∃ y : Int32, y = x5 + 1 := ⟨_, rfl⟩
          replace H := H x5_14 e_x5_14
          refine aw_iinc (v := x5_14) (lv' := [(5, .int x5_14), (4, .int r13), (6, .int r5), (0, .ref (G.2.1 k)), (1, .ref (G.2.1 a1)), (2, .int a2), (3, .int a3)]) dX5_soundTime_54 (n0 := 6) rfl (by rw [e_x5_14]; rfl) (by decide) rfl ?_
          refine aw_goto (tgt := 7) dX5_soundTime_57 (by decide) ?_
          refine aw_sub (lv' := [(0, .ref (G.2.1 k)), (1, .ref (G.2.1 a1)), (2, .int a2), (3, .int a3), (4, .int r13), (5, .int x5_14)]) [3, 4, 5, 6, 1, 0] rfl ?_
          exact ih _ _ _ H
set_option maxHeartbeats 4000000 in
set_option maxRecDepth 100000 in
theorem am_X5_soundTime {l : Launch} {S : aS} {G : aG} (d : Nat) {k : Nat} {a1 : Nat} {a2 : Int32} {a3 : Int32} {h : aH} {Q : Int32 → aH → Prop} (o_k : aObj S k 4 flX5) (o_a1 : aObj S a1 1 flX2) (H : f_X5_soundTime S k a1 a2 a3 h Q) : AMi l S G (d + 4) M_X5_soundTime [.ref (G.2.1 k), .ref (G.2.1 a1), .int a2, .int a3] h Q := by
  unfold f_X5_soundTime at H
  refine am_of mf_X5_soundTime (Nat.le_of_ble_eq_true rfl) (lv0 := [(0, .ref (G.2.1 k)), (1, .ref (G.2.1 a1)), (2, .int a2), (3, .int a3)]) rfl ?_
  refine aw_bipush (v := 60) dX5_soundTime_0 (by decide) ?_
  refine aw_istore (lv' := [(4, .int 60), (0, .ref (G.2.1 k)), (1, .ref (G.2.1 a1)), (2, .int a2), (3, .int a3)]) dX5_soundTime_2 (by decide) rfl ?_
  refine aw_iconst (v := 0) dX5_soundTime_4 (by decide) ?_
  refine aw_istore (lv' := [(5, .int 0), (4, .int 60), (0, .ref (G.2.1 k)), (1, .ref (G.2.1 a1)), (2, .int a2), (3, .int a3)]) dX5_soundTime_5 (by decide) rfl ?_
  refine aw_sub (lv' := [(0, .ref (G.2.1 k)), (1, .ref (G.2.1 a1)), (2, .int a2), (3, .int a3), (4, .int 60), (5, .int 0)]) [2, 3, 4, 5, 1, 0] rfl ?_
  obtain ⟨n1, H⟩ := H
  exact fm_X5_soundTime_7 d o_k o_a1 n1 _ _ _ H
set_option maxHeartbeats 4000000 in
set_option maxRecDepth 100000 in
theorem fm_X0_list_8 {l : Launch} {S : aS} {G : aG} (d : Nat) {k : Nat} {a1 : Nat} {a2 : Nat} {a3 : Int32} {a4 : Int32} {Q : aH → Prop} (o_k : aObj S k 0 flX0) (o_a1 : aObj S a1 1 flX2) (o_a2 : aObj S a2 4 flX5) : ∀ (n : Nat) (x5 : Int32) (h : aH), f_X0_list_8 S k a1 a2 a3 a4 Q n x5 h → AW l S G (d + 5) M_X0_list (va_Qv Q (aPo S G) (aA S G)) 8 [(0, .ref (G.2.1 k)), (1, .ref (G.2.1 a1)), (2, .ref (G.2.1 a2)), (3, .int a3), (4, .int a4), (5, .int x5)] [] h := by
  intro n
  induction n with
  | zero => intro x5 h H; exact False.elim H
  | succ n ih =>
    intro x5 h H
    unfold f_X0_list_8 at H
    refine aw_iload dX0_list_8 5 rfl ?_
    refine aw_bipush (v := 12) dX0_list_10 (by decide) ?_
    refine aw_icmp_ge (tgt := 117) dX0_list_12 (by decide) (fun c1 => ?_) (fun c1 => ?_)
    · replace H := a_pos c1 H
      exact aw_vret rfl H dX0_list_117
    · replace H := a_neg c1 H
      refine aw_aload_n dX0_list_15 rfl 0 rfl ?_
      refine aw_getI cf_X0 4 (by decide) rfl wd_261 o_k dX0_list_16 ?_
      refine aw_name (fun v2 e_v2 => ?_)
      replace H := H v2 e_v2
      refine aw_bipush (v := 8) dX0_list_19 (by decide) ?_
      refine aw_icmp_ge (tgt := 117) dX0_list_21 (by decide) (fun c3 => ?_) (fun c3 => ?_)
      · replace H := a_pos c3 H
        exact aw_vret rfl H dX0_list_117
      · replace H := a_neg c3 H
        refine aw_iload_n dX0_list_24 rfl 3 rfl ?_
        refine aw_iload dX0_list_25 5 rfl ?_
        refine aw_ishr dX0_list_27 ?_
        refine aw_iconst (v := 1) dX0_list_28 (by decide) ?_
        refine aw_iand dX0_list_29 ?_
        refine aw_if_eq (tgt := 111) dX0_list_30 (by decide) (fun c4 => ?_) (fun c4 => ?_)
        · replace H := a_pos c4 H
          obtain ⟨x5_5, e_x5_5⟩ : ∃ y : Int32, y = x5 + 1 := ⟨_, rfl⟩
          replace H := H x5_5 e_x5_5
          refine aw_iinc (v := x5_5) (lv' := [(5, .int x5_5), (0, .ref (G.2.1 k)), (1, .ref (G.2.1 a1)), (2, .ref (G.2.1 a2)), (3, .int a3), (4, .int a4)]) dX0_list_111 (n0 := 5) rfl (by rw [e_x5_5]; rfl) (by decide) rfl ?_
          refine aw_goto (tgt := 8) dX0_list_114 (by decide) ?_
          refine aw_sub (lv' := [(0, .ref (G.2.1 k)), (1, .ref (G.2.1 a1)), (2, .ref (G.2.1 a2)), (3, .int a3), (4, .int a4), (5, .int x5_5)]) [1, 2, 3, 4, 5, 0] rfl ?_
          exact ih _ _ H
        · replace H := a_neg c4 H
          refine aw_aload_n dX0_list_33 rfl 0 rfl ?_
          refine aw_getR cf_X0 0 (by decide) rfl wd_257 o_k dX0_list_34 ?_
          refine aw_aload_n dX0_list_37 rfl 0 rfl ?_
          refine aw_getI cf_X0 4 (by decide) rfl wd_261 o_k dX0_list_38 ?_
          refine aw_name (fun v6 e_v6 => ?_)
          replace H := H v6 e_v6
          refine aw_iload dX0_list_41 5 rfl ?_
          obtain ⟨z7, H⟩ := H
          refine aw_iastore z7 dX0_list_43 ?_
          refine aw_nameH (fun h8 e_h8 => ?_)
          replace H := H h8 e_h8
          refine aw_aload_n dX0_list_44 rfl 0 rfl ?_
          refine aw_getR cf_X0 1 (by decide) rfl wd_258 o_k dX0_list_45 ?_
          refine aw_aload_n dX0_list_48 rfl 0 rfl ?_
          refine aw_getI cf_X0 4 (by decide) rfl wd_261 o_k dX0_list_49 ?_
          refine aw_name (fun v9 e_v9 => ?_)
          replace H := H v9 e_v9
          refine aw_iconst (v := 1) dX0_list_52 (by decide) ?_
          refine aw_aload_n dX0_list_53 rfl 1 rfl ?_
          refine aw_getR cf_X2 5 (by decide) rfl wd_52 o_a1 dX0_list_54 ?_
          refine aw_iload dX0_list_57 5 rfl ?_
          obtain ⟨z10, H⟩ := H
          refine aw_iaload z10 dX0_list_59 ?_
          refine aw_name (fun v11 e_v11 => ?_)
          replace H := H v11 e_v11
          refine aw_iadd dX0_list_60 ?_
          obtain ⟨z12, H⟩ := H
          refine aw_iastore z12 dX0_list_61 ?_
          refine aw_nameH (fun h13 e_h13 => ?_)
          replace H := H h13 e_h13
          refine aw_aload_n dX0_list_62 rfl 0 rfl ?_
          refine aw_getR cf_X0 2 (by decide) rfl wd_259 o_k dX0_list_63 ?_
          refine aw_aload_n dX0_list_66 rfl 0 rfl ?_
          refine aw_getI cf_X0 4 (by decide) rfl wd_261 o_k dX0_list_67 ?_
          refine aw_name (fun v14 e_v14 => ?_)
          replace H := H v14 e_v14
          refine aw_aload_n dX0_list_70 rfl 2 rfl ?_
          refine aw_aload_n dX0_list_71 rfl 1 rfl ?_
          refine aw_iload dX0_list_72 5 rfl ?_
          refine aw_iload dX0_list_74 4 rfl ?_
          refine aw_callV_i (As := [.ref (G.2.1 a1), .int x5, .int a4]) (rest := [.int v14, .ref (G.2.1 (gR h13 k 2))]) (am_X5_soundTime d o_a2 o_a1 H) mf_X5_soundTime wd_876 wd_785 wd_786 cf_X5 o_a2 rfl rfl (Nat.le_of_ble_eq_true rfl) dX0_list_76 (fun r16 h15 H => ?_)
          obtain ⟨z17, H⟩ := H
          refine aw_iastore z17 dX0_list_79 ?_
          refine aw_nameH (fun h18 e_h18 => ?_)
          replace H := H h18 e_h18
          refine aw_aload_n dX0_list_80 rfl 0 rfl ?_
          refine aw_getR cf_X0 3 (by decide) rfl wd_260 o_k dX0_list_81 ?_
          refine aw_aload_n dX0_list_84 rfl 0 rfl ?_
          refine aw_getI cf_X0 4 (by decide) rfl wd_261 o_k dX0_list_85 ?_
          refine aw_name (fun v19 e_v19 => ?_)
          replace H := H v19 e_v19
          refine aw_bipush (v := 10) dX0_list_88 (by decide) ?_
          refine aw_iconst (v := 5) dX0_list_90 (by decide) ?_
          refine aw_aload_n dX0_list_91 rfl 1 rfl ?_
          refine aw_getR cf_X2 6 (by decide) rfl wd_56 o_a1 dX0_list_92 ?_
          refine aw_iload dX0_list_95 5 rfl ?_
          obtain ⟨z20, H⟩ := H
          refine aw_iaload z20 dX0_list_97 ?_
          refine aw_name (fun v21 e_v21 => ?_)
          replace H := H v21 e_v21
          refine aw_imul dX0_list_98 ?_
          refine aw_iadd dX0_list_99 ?_
          obtain ⟨z22, H⟩ := H
          refine aw_iastore z22 dX0_list_100 ?_
          refine aw_nameH (fun h23 e_h23 => ?_)
          replace H := H h23 e_h23
          refine aw_aload_n dX0_list_101 rfl 0 rfl ?_
          refine aw_dup dX0_list_102 rfl ?_
          refine aw_getI cf_X0 4 (by decide) rfl wd_261 o_k dX0_list_103 ?_
          refine aw_name (fun v24 e_v24 => ?_)
          replace H := H v24 e_v24
          refine aw_iconst (v := 1) dX0_list_106 (by decide) ?_
          refine aw_iadd dX0_list_107 ?_
          refine aw_putI cf_X0 4 (by decide) rfl wd_261 rfl rfl rfl o_k dX0_list_108 ?_
          refine aw_nameH (fun h25 e_h25 => ?_)
          replace H := H h25 e_h25
          obtain ⟨x5_26, e_x5_26⟩ : ∃ y : Int32, y = x5 + 1 := ⟨_, rfl⟩
          replace H := H x5_26 e_x5_26
          refine aw_iinc (v := x5_26) (lv' := [(5, .int x5_26), (0, .ref (G.2.1 k)), (1, .ref (G.2.1 a1)), (2, .ref (G.2.1 a2)), (3, .int a3), (4, .int a4)]) dX0_list_111 (n0 := 5) rfl (by rw [e_x5_26]; rfl) (by decide) rfl ?_
          refine aw_goto (tgt := 8) dX0_list_114 (by decide) ?_
          refine aw_sub (lv' := [(0, .ref (G.2.1 k)), (1, .ref (G.2.1 a1)), (2, .ref (G.2.1 a2)), (3, .int a3), (4, .int a4), (5, .int x5_26)]) [1, 2, 3, 4, 5, 0] rfl ?_
          exact ih _ _ H
set_option maxHeartbeats 4000000 in
set_option maxRecDepth 100000 in
theorem am_X0_list {l : Launch} {S : aS} {G : aG} (d : Nat) {k : Nat} {a1 : Nat} {a2 : Nat} {a3 : Int32} {a4 : Int32} {h : aH} {Q : aH → Prop} (o_k : aObj S k 0 flX0) (o_a1 : aObj S a1 1 flX2) (o_a2 : aObj S a2 4 flX5) (H : f_X0_list S k a1 a2 a3 a4 h Q) : AMv l S G (d + 5) M_X0_list [.ref (G.2.1 k), .ref (G.2.1 a1), .ref (G.2.1 a2), .int a3, .int a4] h Q := by
  unfold f_X0_list at H
  refine am_of mf_X0_list (Nat.le_of_ble_eq_true rfl) (lv0 := [(0, .ref (G.2.1 k)), (1, .ref (G.2.1 a1)), (2, .ref (G.2.1 a2)), (3, .int a3), (4, .int a4)]) rfl ?_
  refine aw_aload_n dX0_list_0 rfl 0 rfl ?_
  refine aw_iconst (v := 0) dX0_list_1 (by decide) ?_
  refine aw_putI cf_X0 4 (by decide) rfl wd_261 rfl rfl rfl o_k dX0_list_2 ?_
  refine aw_nameH (fun h27 e_h27 => ?_)
  replace H := H h27 e_h27
  refine aw_iconst (v := 0) dX0_list_5 (by decide) ?_
  refine aw_istore (lv' := [(5, .int 0), (0, .ref (G.2.1 k)), (1, .ref (G.2.1 a1)), (2, .ref (G.2.1 a2)), (3, .int a3), (4, .int a4)]) dX0_list_6 (by decide) rfl ?_
  refine aw_sub (lv' := [(0, .ref (G.2.1 k)), (1, .ref (G.2.1 a1)), (2, .ref (G.2.1 a2)), (3, .int a3), (4, .int a4), (5, .int 0)]) [1, 2, 3, 4, 5, 0] rfl ?_
  obtain ⟨n1, H⟩ := H
  exact fm_X0_list_8 d o_k o_a1 o_a2 n1 _ _ H
set_option maxHeartbeats 4000000 in
set_option maxRecDepth 100000 in
theorem fm_X0_costOf_27 {l : Launch} {S : aS} {G : aG} (d : Nat) {k : Nat} {a1 : Int32} {a2 : Int32} {Q : Int32 → aH → Prop} (o_k : aObj S k 0 flX0) (s0 : Int32) (h : aH) (H : f_X0_costOf_27 S k a1 a2 Q s0 h) : AW l S G d M_X0_costOf (va_Qi Q (aPo S G) (aA S G)) 27 [(0, .ref (G.2.1 k)), (1, .int a1), (2, .int a2)] [.int s0] h := by
  unfold f_X0_costOf_27 at H
  refine aw_istore_n (lv' := [(3, .int s0), (0, .ref (G.2.1 k)), (1, .int a1), (2, .int a2)]) dX0_costOf_27 rfl (by decide) rfl ?_
  refine aw_aload_n dX0_costOf_28 rfl 1 rfl ?_
  refine aw_getR cf_X0 6 (by decide) rfl wd_263 o_k dX0_costOf_29 ?_
  refine aw_iload_n dX0_costOf_32 rfl 3 rfl ?_
  refine aw_iconst (v := 1) dX0_costOf_33 (by decide) ?_
  refine aw_iload_n dX0_costOf_34 rfl 2 rfl ?_
  refine aw_ishl dX0_costOf_35 ?_
  refine aw_ior dX0_costOf_36 ?_
  obtain ⟨z1, H⟩ := H
  refine aw_iaload z1 dX0_costOf_37 ?_
  refine aw_name (fun v2 e_v2 => ?_)
  replace H := H v2 e_v2
  refine aw_iload_n dX0_costOf_38 rfl 0 rfl ?_
  refine aw_if_eq (tgt := 51) dX0_costOf_39 (by decide) (fun c3 => ?_) (fun c3 => ?_)
  · replace H := a_pos c3 H
    refine aw_iconst (v := 0) dX0_costOf_51 (by decide) ?_
    refine aw_iadd dX0_costOf_52 ?_
    exact aw_iret rfl H dX0_costOf_53
  · replace H := a_neg c3 H
    refine aw_aload_n dX0_costOf_42 rfl 1 rfl ?_
    refine aw_getR cf_X0 3 (by decide) rfl wd_260 o_k dX0_costOf_43 ?_
    refine aw_iload_n dX0_costOf_46 rfl 2 rfl ?_
    obtain ⟨z4, H⟩ := H
    refine aw_iaload z4 dX0_costOf_47 ?_
    refine aw_name (fun v5 e_v5 => ?_)
    replace H := H v5 e_v5
    refine aw_goto (tgt := 52) dX0_costOf_48 (by decide) ?_
    refine aw_iadd dX0_costOf_52 ?_
    exact aw_iret rfl H dX0_costOf_53
set_option maxHeartbeats 4000000 in
set_option maxRecDepth 100000 in
theorem am_X0_costOf {l : Launch} {S : aS} {G : aG} (d : Nat) {k : Nat} {a1 : Int32} {a2 : Int32} {h : aH} {Q : Int32 → aH → Prop} (o_k : aObj S k 0 flX0) (H : f_X0_costOf S k a1 a2 h Q) : AMi l S G d M_X0_costOf [.ref (G.2.1 k), .int a1, .int a2] h Q := by
  unfold f_X0_costOf at H
  refine am_of mf_X0_costOf (Nat.le_of_ble_eq_true rfl) (lv0 := [(0, .ref (G.2.1 k)), (1, .int a1), (2, .int a2)]) rfl ?_
  refine aw_aload_n dX0_costOf_0 rfl 0 rfl ?_
  refine aw_getR cf_X0 5 (by decide) rfl wd_262 o_k dX0_costOf_1 ?_
  refine aw_iload_n dX0_costOf_4 rfl 2 rfl ?_
  obtain ⟨z6, H⟩ := H
  refine aw_iaload z6 dX0_costOf_5 ?_
  refine aw_name (fun v7 e_v7 => ?_)
  replace H := H v7 e_v7
  refine aw_aload_n dX0_costOf_6 rfl 0 rfl ?_
  refine aw_getR cf_X0 1 (by decide) rfl wd_258 o_k dX0_costOf_7 ?_
  refine aw_iload_n dX0_costOf_10 rfl 1 rfl ?_
  obtain ⟨z8, H⟩ := H
  refine aw_iaload z8 dX0_costOf_11 ?_
  refine aw_name (fun v9 e_v9 => ?_)
  replace H := H v9 e_v9
  refine aw_iadd dX0_costOf_12 ?_
  refine aw_aload_n dX0_costOf_13 rfl 0 rfl ?_
  refine aw_getR cf_X0 2 (by decide) rfl wd_259 o_k dX0_costOf_14 ?_
  refine aw_iload_n dX0_costOf_17 rfl 1 rfl ?_
  obtain ⟨z10, H⟩ := H
  refine aw_iaload z10 dX0_costOf_18 ?_
  refine aw_name (fun v11 e_v11 => ?_)
  replace H := H v11 e_v11
  refine aw_icmp_le (tgt := 26) dX0_costOf_19 (by decide) (fun c12 => ?_) (fun c12 => ?_)
  · replace H := a_pos c12 H
    refine aw_iconst (v := 0) dX0_costOf_26 (by decide) ?_
    exact fm_X0_costOf_27 d o_k _ _ H
  · replace H := a_neg c12 H
    refine aw_iconst (v := 1) dX0_costOf_22 (by decide) ?_
    refine aw_goto (tgt := 27) dX0_costOf_23 (by decide) ?_
    exact fm_X0_costOf_27 d o_k _ _ H
