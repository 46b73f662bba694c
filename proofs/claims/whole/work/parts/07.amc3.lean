set_option maxHeartbeats 4000000 in
set_option maxRecDepth 100000 in
theorem fm_X2_breakAt_26 {l : Launch} {S : aS} {G : aG} (d : Nat) {k : Nat} {a1 : Int32} {Q : aH → Prop} (o_k : aObj S k 1 flX2) : ∀ (n : Nat) (x2 : Int32) (h : aH), f_X2_breakAt_26 S k a1 Q n x2 h → AW l S G (d + 4) M_X2_breakAt (va_Qv Q (aPo S G) (aA S G)) 26 [(0, .ref (G.2.1 k)), (1, .int a1), (2, .int x2)] [] h := by
  intro n
  induction n with
  | zero => intro x2 h H; exact False.elim H
  | succ n ih =>
    intro x2 h H
    unfold f_X2_breakAt_26 at H
    refine aw_iload_n dX2_breakAt_26 rfl 2 rfl ?_
    refine aw_aload_n dX2_breakAt_27 rfl 0 rfl ?_
    refine aw_getI cf_X2 12 (by decide) rfl wd_75 o_k dX2_breakAt_28 ?_
    refine aw_name (fun v1 e_v1 => ?_)
    replace H := H v1 e_v1
    refine aw_icmp_ge (tgt := 58) dX2_breakAt_31 (by decide) (fun c2 => ?_) (fun c2 => ?_)
    · replace H := a_pos c2 H
      exact aw_vret rfl H dX2_breakAt_58
    · replace H := a_neg c2 H
      refine aw_aload_n dX2_breakAt_34 rfl 0 rfl ?_
      refine aw_getR cf_X2 10 (by decide) rfl wd_68 o_k dX2_breakAt_35 ?_
      refine aw_iload_n dX2_breakAt_38 rfl 2 rfl ?_
      obtain ⟨z3, H⟩ := H
      refine aw_iaload z3 dX2_breakAt_39 ?_
      refine aw_name (fun v4 e_v4 => ?_)
      replace H := H v4 e_v4
      refine aw_iload_n dX2_breakAt_40 rfl 1 rfl ?_
      refine aw_icmp_ne (tgt := 52) dX2_breakAt_41 (by decide) (fun c5 => ?_) (fun c5 => ?_)
      · replace H := a_pos c5 H
        obtain ⟨x2_6, e_x2_6⟩ : ∃ y : Int32, y = x2 + 1 := ⟨_, rfl⟩
        replace H := H x2_6 e_x2_6
        refine aw_iinc (v := x2_6) (lv' := [(2, .int x2_6), (0, .ref (G.2.1 k)), (1, .int a1)]) dX2_breakAt_52 (n0 := 2) rfl (by rw [e_x2_6]; rfl) (by decide) rfl ?_
        refine aw_goto (tgt := 26) dX2_breakAt_55 (by decide) ?_
        refine aw_sub (lv' := [(0, .ref (G.2.1 k)), (1, .int a1), (2, .int x2_6)]) [1, 2, 0] rfl ?_
        exact ih _ _ H
      · replace H := a_neg2 c5 H
        refine aw_aload_n dX2_breakAt_44 rfl 0 rfl ?_
        refine aw_getR cf_X2 10 (by decide) rfl wd_68 o_k dX2_breakAt_45 ?_
        refine aw_iload_n dX2_breakAt_48 rfl 2 rfl ?_
        refine aw_bipush (v := (-2)) dX2_breakAt_49 (by decide) ?_
        obtain ⟨z7, H⟩ := H
        refine aw_iastore z7 dX2_breakAt_51 ?_
        refine aw_nameH (fun h8 e_h8 => ?_)
        replace H := H h8 e_h8
        obtain ⟨x2_9, e_x2_9⟩ : ∃ y : Int32, y = x2 + 1 := ⟨_, rfl⟩
        replace H := H x2_9 e_x2_9
        refine aw_iinc (v := x2_9) (lv' := [(2, .int x2_9), (0, .ref (G.2.1 k)), (1, .int a1)]) dX2_breakAt_52 (n0 := 2) rfl (by rw [e_x2_9]; rfl) (by decide) rfl ?_
        refine aw_goto (tgt := 26) dX2_breakAt_55 (by decide) ?_
        refine aw_sub (lv' := [(0, .ref (G.2.1 k)), (1, .int a1), (2, .int x2_9)]) [1, 2, 0] rfl ?_
        exact ih _ _ H
set_option maxHeartbeats 4000000 in
set_option maxRecDepth 100000 in
theorem am_X2_breakAt {l : Launch} {S : aS} {G : aG} (d : Nat) {k : Nat} {a1 : Int32} {h : aH} {Q : aH → Prop} (o_k : aObj S k 1 flX2) (H : f_X2_breakAt S k a1 h Q) : AMv l S G (d + 4) M_X2_breakAt [.ref (G.2.1 k), .int a1] h Q := by
  unfold f_X2_breakAt at H
  refine am_of mf_X2_breakAt (Nat.le_of_ble_eq_true rfl) (lv0 := [(0, .ref (G.2.1 k)), (1, .int a1)]) rfl ?_
  refine aw_aload_n dX2_breakAt_0 rfl 0 rfl ?_
  refine aw_iload_n dX2_breakAt_1 rfl 1 rfl ?_
  refine aw_callV_i (As := [.int a1]) (rest := []) (am_X2_isFirm (d + 2) o_k H) mf_X2_isFirm wd_561 wd_562 wd_563 cf_X2 o_k rfl rfl (Nat.le_of_ble_eq_true rfl) dX2_breakAt_2 (fun r11 h10 H => ?_)
  refine aw_if_ne (tgt := 9) dX2_breakAt_5 (by decide) (fun c12 => ?_) (fun c12 => ?_)
  · replace H := a_pos c12 H
    refine aw_aload_n dX2_breakAt_9 rfl 0 rfl ?_
    refine aw_getR cf_X2 1 (by decide) rfl wd_39 o_k dX2_breakAt_10 ?_
    refine aw_iload_n dX2_breakAt_13 rfl 1 rfl ?_
    refine aw_bipush (v := (-2)) dX2_breakAt_14 (by decide) ?_
    obtain ⟨z13, H⟩ := H
    refine aw_iastore z13 dX2_breakAt_16 ?_
    refine aw_nameH (fun h14 e_h14 => ?_)
    replace H := H h14 e_h14
    refine aw_aload_n dX2_breakAt_17 rfl 0 rfl ?_
    refine aw_iload_n dX2_breakAt_18 rfl 1 rfl ?_
    refine aw_iconst (v := 1) dX2_breakAt_19 (by decide) ?_
    refine aw_iconst (v := 0) dX2_breakAt_20 (by decide) ?_
    refine aw_callV_v (As := [.int a1, .int 1, .int 0]) (rest := []) (am_X2_spread d o_k H) mf_X2_spread wd_356 wd_358 ws_1_0 cf_X2 o_k rfl rfl (Nat.le_of_ble_eq_true rfl) dX2_breakAt_21 (fun h15 H => ?_)
    refine aw_iconst (v := 0) dX2_breakAt_24 (by decide) ?_
    refine aw_istore_n (lv' := [(2, .int 0), (0, .ref (G.2.1 k)), (1, .int a1)]) dX2_breakAt_25 rfl (by decide) rfl ?_
    refine aw_sub (lv' := [(0, .ref (G.2.1 k)), (1, .int a1), (2, .int 0)]) [1, 2, 0] rfl ?_
    obtain ⟨n1, H⟩ := H
    exact fm_X2_breakAt_26 d o_k n1 _ _ H
  · replace H := a_neg2 c12 H
    exact aw_vret rfl H dX2_breakAt_8
set_option maxHeartbeats 4000000 in
set_option maxRecDepth 100000 in
theorem am_X2_mend {l : Launch} {S : aS} {G : aG} (d : Nat) {k : Nat} {a1 : Int32} {h : aH} {Q : aH → Prop} (o_k : aObj S k 1 flX2) (H : f_X2_mend S k a1 h Q) : AMv l S G (d + 4) M_X2_mend [.ref (G.2.1 k), .int a1] h Q := by
  unfold f_X2_mend at H
  refine am_of mf_X2_mend (Nat.le_of_ble_eq_true rfl) (lv0 := [(0, .ref (G.2.1 k)), (1, .int a1)]) rfl ?_
  refine aw_aload_n dX2_mend_0 rfl 0 rfl ?_
  refine aw_iload_n dX2_mend_1 rfl 1 rfl ?_
  refine aw_callV_i (As := [.int a1]) (rest := []) (am_X2_isBroken (d + 3) o_k H) mf_X2_isBroken wd_352 wd_353 wd_354 cf_X2 o_k rfl rfl (Nat.le_of_ble_eq_true rfl) dX2_mend_2 (fun r2 h1 H => ?_)
  refine aw_if_eq (tgt := 22) dX2_mend_5 (by decide) (fun c3 => ?_) (fun c3 => ?_)
  · replace H := a_pos c3 H
    exact aw_vret rfl H dX2_mend_22
  · replace H := a_neg c3 H
    refine aw_aload_n dX2_mend_8 rfl 0 rfl ?_
    refine aw_getR cf_X2 1 (by decide) rfl wd_39 o_k dX2_mend_9 ?_
    refine aw_iload_n dX2_mend_12 rfl 1 rfl ?_
    refine aw_iconst (v := (-1)) dX2_mend_13 (by decide) ?_
    obtain ⟨z4, H⟩ := H
    refine aw_iastore z4 dX2_mend_14 ?_
    refine aw_nameH (fun h5 e_h5 => ?_)
    replace H := H h5 e_h5
    refine aw_aload_n dX2_mend_15 rfl 0 rfl ?_
    refine aw_iload_n dX2_mend_16 rfl 1 rfl ?_
    refine aw_iconst (v := (-1)) dX2_mend_17 (by decide) ?_
    refine aw_iconst (v := 0) dX2_mend_18 (by decide) ?_
    refine aw_callV_v (As := [.int a1, .int (-1), .int 0]) (rest := []) (am_X2_spread d o_k H) mf_X2_spread wd_356 wd_358 ws_1_0 cf_X2 o_k rfl rfl (Nat.le_of_ble_eq_true rfl) dX2_mend_19 (fun h6 H => ?_)
    exact aw_vret rfl H dX2_mend_22
set_option maxHeartbeats 4000000 in
set_option maxRecDepth 100000 in
theorem fm_X2_raise_7 {l : Launch} {S : aS} {G : aG} (d : Nat) {k : Nat} {a1 : Int32} {a2 : Nat} {Q : aH → Prop} (o_k : aObj S k 1 flX2) (o_a2 : aObj S a2 1 flX2) : ∀ (n : Nat) (x3 : Int32) (h : aH), f_X2_raise_7 S k a1 a2 Q n x3 h → AW l S G (d + 5) M_X2_raise (va_Qv Q (aPo S G) (aA S G)) 7 [(0, .ref (G.2.1 k)), (1, .int a1), (2, .ref (G.2.1 a2)), (3, .int x3)] [] h := by
  intro n
  induction n with
  | zero => intro x3 h H; exact False.elim H
  | succ n ih =>
    intro x3 h H
    unfold f_X2_raise_7 at H
    refine aw_iload_n dX2_raise_7 rfl 3 rfl ?_
    refine aw_aload_n dX2_raise_8 rfl 0 rfl ?_
    refine aw_getI cf_X2 12 (by decide) rfl wd_75 o_k dX2_raise_9 ?_
    refine aw_name (fun v1 e_v1 => ?_)
    replace H := H v1 e_v1
    refine aw_icmp_ge (tgt := 54) dX2_raise_12 (by decide) (fun c2 => ?_) (fun c2 => ?_)
    · replace H := a_pos c2 H
      exact aw_vret rfl H dX2_raise_54
    · replace H := a_neg c2 H
      refine aw_aload_n dX2_raise_15 rfl 0 rfl ?_
      refine aw_getR cf_X2 10 (by decide) rfl wd_68 o_k dX2_raise_16 ?_
      refine aw_iload_n dX2_raise_19 rfl 3 rfl ?_
      refine aw_aload_n dX2_raise_20 rfl 2 rfl ?_
      refine aw_getR cf_X2 10 (by decide) rfl wd_68 o_a2 dX2_raise_21 ?_
      refine aw_iload_n dX2_raise_24 rfl 3 rfl ?_
      obtain ⟨z3, H⟩ := H
      refine aw_iaload z3 dX2_raise_25 ?_
      refine aw_name (fun v4 e_v4 => ?_)
      replace H := H v4 e_v4
      obtain ⟨z5, H⟩ := H
      refine aw_iastore z5 dX2_raise_26 ?_
      refine aw_nameH (fun h6 e_h6 => ?_)
      replace H := H h6 e_h6
      refine aw_aload_n dX2_raise_27 rfl 0 rfl ?_
      refine aw_getR cf_X2 10 (by decide) rfl wd_68 o_k dX2_raise_28 ?_
      refine aw_iload_n dX2_raise_31 rfl 3 rfl ?_
      obtain ⟨z7, H⟩ := H
      refine aw_iaload z7 dX2_raise_32 ?_
      refine aw_name (fun v8 e_v8 => ?_)
      replace H := H v8 e_v8
      refine aw_bipush (v := (-2)) dX2_raise_33 (by decide) ?_
      refine aw_icmp_eq (tgt := 48) dX2_raise_35 (by decide) (fun c9 => ?_) (fun c9 => ?_)
      · replace H := a_pos c9 H
        obtain ⟨x3_10, e_x3_10⟩ : ∃ y : Int32, y = x3 + 1 := ⟨_, rfl⟩
        replace H := H x3_10 e_x3_10
        refine aw_iinc (v := x3_10) (lv' := [(3, .int x3_10), (0, .ref (G.2.1 k)), (1, .int a1), (2, .ref (G.2.1 a2))]) dX2_raise_48 (n0 := 3) rfl (by rw [e_x3_10]; rfl) (by decide) rfl ?_
        refine aw_goto (tgt := 7) dX2_raise_51 (by decide) ?_
        refine aw_sub (lv' := [(0, .ref (G.2.1 k)), (1, .int a1), (2, .ref (G.2.1 a2)), (3, .int x3_10)]) [1, 2, 3, 0] rfl ?_
        exact ih _ _ H
      · replace H := a_neg c9 H
        refine aw_aload_n dX2_raise_38 rfl 0 rfl ?_
        refine aw_aload_n dX2_raise_39 rfl 0 rfl ?_
        refine aw_getR cf_X2 10 (by decide) rfl wd_68 o_k dX2_raise_40 ?_
        refine aw_iload_n dX2_raise_43 rfl 3 rfl ?_
        obtain ⟨z11, H⟩ := H
        refine aw_iaload z11 dX2_raise_44 ?_
        refine aw_name (fun v12 e_v12 => ?_)
        replace H := H v12 e_v12
        refine aw_callV_v (As := [.int v12]) (rest := []) (am_X2_mend d o_k H) mf_X2_mend wd_969 wd_349 wd_350 cf_X2 o_k rfl rfl (Nat.le_of_ble_eq_true rfl) dX2_raise_45 (fun h13 H => ?_)
        obtain ⟨x3_14, e_x3_14⟩ : ∃ y : Int32, y = x3 + 1 := ⟨_, rfl⟩
        replace H := H x3_14 e_x3_14
        refine aw_iinc (v := x3_14) (lv' := [(3, .int x3_14), (0, .ref (G.2.1 k)), (1, .int a1), (2, .ref (G.2.1 a2))]) dX2_raise_48 (n0 := 3) rfl (by rw [e_x3_14]; rfl) (by decide) rfl ?_
        refine aw_goto (tgt := 7) dX2_raise_51 (by decide) ?_
        refine aw_sub (lv' := [(0, .ref (G.2.1 k)), (1, .int a1), (2, .ref (G.2.1 a2)), (3, .int x3_14)]) [1, 2, 3, 0] rfl ?_
        exact ih _ _ H
set_option maxHeartbeats 4000000 in
set_option maxRecDepth 100000 in
theorem am_X2_raise {l : Launch} {S : aS} {G : aG} (d : Nat) {k : Nat} {a1 : Int32} {a2 : Nat} {h : aH} {Q : aH → Prop} (o_k : aObj S k 1 flX2) (o_a2 : aObj S a2 1 flX2) (H : f_X2_raise S k a1 a2 h Q) : AMv l S G (d + 5) M_X2_raise [.ref (G.2.1 k), .int a1, .ref (G.2.1 a2)] h Q := by
  unfold f_X2_raise at H
  refine am_of mf_X2_raise (Nat.le_of_ble_eq_true rfl) (lv0 := [(0, .ref (G.2.1 k)), (1, .int a1), (2, .ref (G.2.1 a2))]) rfl ?_
  refine aw_aload_n dX2_raise_0 rfl 0 rfl ?_
  refine aw_iload_n dX2_raise_1 rfl 1 rfl ?_
  refine aw_callV_v (As := [.int a1]) (rest := []) (am_X2_mend d o_k H) mf_X2_mend wd_969 wd_349 wd_350 cf_X2 o_k rfl rfl (Nat.le_of_ble_eq_true rfl) dX2_raise_2 (fun h15 H => ?_)
  refine aw_iconst (v := 0) dX2_raise_5 (by decide) ?_
  refine aw_istore_n (lv' := [(3, .int 0), (0, .ref (G.2.1 k)), (1, .int a1), (2, .ref (G.2.1 a2))]) dX2_raise_6 rfl (by decide) rfl ?_
  refine aw_sub (lv' := [(0, .ref (G.2.1 k)), (1, .int a1), (2, .ref (G.2.1 a2)), (3, .int 0)]) [1, 2, 3, 0] rfl ?_
  obtain ⟨n1, H⟩ := H
  exact fm_X2_raise_7 d o_k o_a2 n1 _ _ H
set_option maxHeartbeats 4000000 in
set_option maxRecDepth 100000 in
theorem am_X2_isHole {l : Launch} {S : aS} {G : aG} (d : Nat) {k : Nat} {a1 : Int32} {a2 : Int32} {a3 : Int32} {h : aH} {Q : Int32 → aH → Prop} (o_k : aObj S k 1 flX2) (H : f_X2_isHole S k a1 a2 a3 h Q) : AMi l S G (d + 2) M_X2_isHole [.ref (G.2.1 k), .int a1, .int a2, .int a3] h Q := by
  unfold f_X2_isHole at H
  refine am_of mf_X2_isHole (Nat.le_of_ble_eq_true rfl) (lv0 := [(0, .ref (G.2.1 k)), (1, .int a1), (2, .int a2), (3, .int a3)]) rfl ?_
  refine aw_iload_n dX2_isHole_0 rfl 1 rfl ?_
  refine aw_iload_n dX2_isHole_1 rfl 2 rfl ?_
  refine aw_iload_n dX2_isHole_2 rfl 3 rfl ?_
  refine aw_callS_i (As := [.int a1, .int a2, .int a3]) (rest := []) (am_X1_beside d H) mf_X1_beside wd_608 wd_368 rfl rfl (Nat.le_of_ble_eq_true rfl) dX2_isHole_3 (fun r2 h1 H => ?_)
  refine aw_istore (lv' := [(4, .int r2), (0, .ref (G.2.1 k)), (1, .int a1), (2, .int a2), (3, .int a3)]) dX2_isHole_6 (by decide) rfl ?_
  refine aw_iload dX2_isHole_8 0 rfl ?_
  refine aw_iconst (v := (-1)) dX2_isHole_10 (by decide) ?_
  refine aw_icmp_eq (tgt := 28) dX2_isHole_11 (by decide) (fun c3 => ?_) (fun c3 => ?_)
  · replace H := a_pos c3 H
    refine aw_iconst (v := 0) dX2_isHole_28 (by decide) ?_
    exact aw_zret rfl rfl H dX2_isHole_29
  · replace H := a_neg c3 H
    refine aw_aload_n dX2_isHole_14 rfl 1 rfl ?_
    refine aw_getR cf_X2 1 (by decide) rfl wd_39 o_k dX2_isHole_15 ?_
    refine aw_iload dX2_isHole_18 0 rfl ?_
    obtain ⟨z4, H⟩ := H
    refine aw_iaload z4 dX2_isHole_20 ?_
    refine aw_name (fun v5 e_v5 => ?_)
    replace H := H v5 e_v5
    refine aw_if_lt (tgt := 28) dX2_isHole_21 (by decide) (fun c6 => ?_) (fun c6 => ?_)
    · replace H := a_pos c6 H
      refine aw_iconst (v := 0) dX2_isHole_28 (by decide) ?_
      exact aw_zret rfl rfl H dX2_isHole_29
    · replace H := a_neg c6 H
      refine aw_iconst (v := 1) dX2_isHole_24 (by decide) ?_
      refine aw_goto (tgt := 29) dX2_isHole_25 (by decide) ?_
      exact aw_zret rfl rfl H dX2_isHole_29
set_option maxHeartbeats 4000000 in
set_option maxRecDepth 100000 in
theorem fm_X2_makesRow_29 {l : Launch} {S : aS} {G : aG} (d : Nat) {k : Nat} {a1 : Int32} {Q : Int32 → aH → Prop} (o_k : aObj S k 1 flX2) {K11 : Int32 → Int32 → aH → Prop} (hK11 : ∀ (x2 : Int32) (x3 : Int32) (h : aH), K11 x2 x3 h → AW l S G (d + 3) M_X2_makesRow (va_Qi Q (aPo S G) (aA S G)) 11 [(0, .ref (G.2.1 k)), (1, .int a1), (2, .int x2), (3, .int x3)] [] h) (x2 : Int32) (x3 : Int32) (s0 : Int32) (h : aH) (H : f_X2_makesRow_29 S k a1 Q K11 x2 x3 s0 h) : AW l S G (d + 3) M_X2_makesRow (va_Qi Q (aPo S G) (aA S G)) 29 [(0, .ref (G.2.1 k)), (1, .int a1), (2, .int x2), (3, .int x3)] [.int s0] h := by
  unfold f_X2_makesRow_29 at H
  refine aw_istore (lv' := [(4, .int s0), (0, .ref (G.2.1 k)), (1, .int a1), (2, .int x2), (3, .int x3)]) dX2_makesRow_29 (by decide) rfl ?_
  refine aw_iload dX2_makesRow_31 0 rfl ?_
  refine aw_if_eq (tgt := 74) dX2_makesRow_33 (by decide) (fun c1 => ?_) (fun c1 => ?_)
  · replace H := a_pos c1 H
    obtain ⟨x3_2, e_x3_2⟩ : ∃ y : Int32, y = x3 + 1 := ⟨_, rfl⟩
    replace H := H x3_2 e_x3_2
    refine aw_iinc (v := x3_2) (lv' := [(3, .int x3_2), (4, .int s0), (0, .ref (G.2.1 k)), (1, .int a1), (2, .int x2)]) dX2_makesRow_74 (n0 := 4) rfl (by rw [e_x3_2]; rfl) (by decide) rfl ?_
    refine aw_goto (tgt := 11) dX2_makesRow_77 (by decide) ?_
    refine aw_sub (lv' := [(0, .ref (G.2.1 k)), (1, .int a1), (2, .int x2), (3, .int x3_2)]) [2, 3, 4, 0] rfl ?_
    exact hK11 _ _ _ H
  · replace H := a_neg c1 H
    refine aw_aload_n dX2_makesRow_36 rfl 1 rfl ?_
    refine aw_iload_n dX2_makesRow_37 rfl 2 rfl ?_
    refine aw_iload_n dX2_makesRow_38 rfl 3 rfl ?_
    refine aw_iload_n dX2_makesRow_39 rfl 4 rfl ?_
    refine aw_callV_i (As := [.int a1, .int x2, .int x3]) (rest := []) (am_X2_isHole d o_k H) mf_X2_isHole wd_604 wd_606 ws_1_15 cf_X2 o_k rfl rfl (Nat.le_of_ble_eq_true rfl) dX2_makesRow_40 (fun r4 h3 H => ?_)
    refine aw_if_eq (tgt := 74) dX2_makesRow_43 (by decide) (fun c5 => ?_) (fun c5 => ?_)
    · replace H := a_pos c5 H
      obtain ⟨x3_6, e_x3_6⟩ : ∃ y : Int32, y = x3 + 1 := ⟨_, rfl⟩
      replace H := H x3_6 e_x3_6
      refine aw_iinc (v := x3_6) (lv' := [(3, .int x3_6), (4, .int s0), (0, .ref (G.2.1 k)), (1, .int a1), (2, .int x2)]) dX2_makesRow_74 (n0 := 4) rfl (by rw [e_x3_6]; rfl) (by decide) rfl ?_
      refine aw_goto (tgt := 11) dX2_makesRow_77 (by decide) ?_
      refine aw_sub (lv' := [(0, .ref (G.2.1 k)), (1, .int a1), (2, .int x2), (3, .int x3_6)]) [2, 3, 4, 0] rfl ?_
      exact hK11 _ _ _ H
    · replace H := a_neg c5 H
      refine aw_aload_n dX2_makesRow_46 rfl 1 rfl ?_
      refine aw_iload_n dX2_makesRow_47 rfl 2 rfl ?_
      refine aw_iconst (v := 2) dX2_makesRow_48 (by decide) ?_
      refine aw_iload_n dX2_makesRow_49 rfl 3 rfl ?_
      refine aw_imul dX2_makesRow_50 ?_
      refine aw_iconst (v := 2) dX2_makesRow_51 (by decide) ?_
      refine aw_iload_n dX2_makesRow_52 rfl 4 rfl ?_
      refine aw_imul dX2_makesRow_53 ?_
      refine aw_callV_i (As := [.int a1, .int (2 * x2), .int (2 * x3)]) (rest := []) (am_X2_isHole d o_k H) mf_X2_isHole wd_604 wd_606 ws_1_15 cf_X2 o_k rfl rfl (Nat.le_of_ble_eq_true rfl) dX2_makesRow_54 (fun r8 h7 H => ?_)
      refine aw_if_ne (tgt := 72) dX2_makesRow_57 (by decide) (fun c9 => ?_) (fun c9 => ?_)
      · replace H := a_pos c9 H
        refine aw_iconst (v := 1) dX2_makesRow_72 (by decide) ?_
        exact aw_zret rfl rfl H dX2_makesRow_73
      · replace H := a_neg2 c9 H
        refine aw_aload_n dX2_makesRow_60 rfl 1 rfl ?_
        refine aw_iload_n dX2_makesRow_61 rfl 2 rfl ?_
        refine aw_iload_n dX2_makesRow_62 rfl 3 rfl ?_
        refine aw_ineg dX2_makesRow_63 ?_
        refine aw_iload_n dX2_makesRow_64 rfl 4 rfl ?_
        refine aw_ineg dX2_makesRow_65 ?_
        refine aw_callV_i (As := [.int a1, .int (-x2), .int (-x3)]) (rest := []) (am_X2_isHole d o_k H) mf_X2_isHole wd_604 wd_606 ws_1_15 cf_X2 o_k rfl rfl (Nat.le_of_ble_eq_true rfl) dX2_makesRow_66 (fun r11 h10 H => ?_)
        refine aw_if_eq (tgt := 74) dX2_makesRow_69 (by decide) (fun c12 => ?_) (fun c12 => ?_)
        · replace H := a_pos c12 H
          obtain ⟨x3_13, e_x3_13⟩ : ∃ y : Int32, y = x3 + 1 := ⟨_, rfl⟩
          replace H := H x3_13 e_x3_13
          refine aw_iinc (v := x3_13) (lv' := [(3, .int x3_13), (4, .int s0), (0, .ref (G.2.1 k)), (1, .int a1), (2, .int x2)]) dX2_makesRow_74 (n0 := 4) rfl (by rw [e_x3_13]; rfl) (by decide) rfl ?_
          refine aw_goto (tgt := 11) dX2_makesRow_77 (by decide) ?_
          refine aw_sub (lv' := [(0, .ref (G.2.1 k)), (1, .int a1), (2, .int x2), (3, .int x3_13)]) [2, 3, 4, 0] rfl ?_
          exact hK11 _ _ _ H
        · replace H := a_neg c12 H
          refine aw_iconst (v := 1) dX2_makesRow_72 (by decide) ?_
          exact aw_zret rfl rfl H dX2_makesRow_73
set_option maxHeartbeats 4000000 in
set_option maxRecDepth 100000 in
theorem fm_X2_makesRow_11 {l : Launch} {S : aS} {G : aG} (d : Nat) {k : Nat} {a1 : Int32} {Q : Int32 → aH → Prop} (o_k : aObj S k 1 flX2) {K3 : Int32 → aH → Prop} (hK3 : ∀ (x2 : Int32) (h : aH), K3 x2 h → AW l S G (d + 3) M_X2_makesRow (va_Qi Q (aPo S G) (aA S G)) 3 [(0, .ref (G.2.1 k)), (1, .int a1), (2, .int x2)] [] h) : ∀ (n : Nat) (x2 : Int32) (x3 : Int32) (h : aH), f_X2_makesRow_11 S k a1 Q K3 n x2 x3 h → AW l S G (d + 3) M_X2_makesRow (va_Qi Q (aPo S G) (aA S G)) 11 [(0, .ref (G.2.1 k)), (1, .int a1), (2, .int x2), (3, .int x3)] [] h := by
  intro n
  induction n with
  | zero => intro x2 x3 h H; exact False.elim H
  | succ n ih =>
    intro x2 x3 h H
    unfold f_X2_makesRow_11 at H
    refine aw_iload_n dX2_makesRow_11 rfl 3 rfl ?_
    refine aw_iconst (v := 3) dX2_makesRow_12 (by decide) ?_
    refine aw_icmp_gt (tgt := 80) dX2_makesRow_13 (by decide) (fun c14 => ?_) (fun c14 => ?_)
    · replace H := a_pos c14 H
      obtain ⟨x2_15, e_x2_15⟩ : ∃ y : Int32, y = x2 + 1 := ⟨_, rfl⟩
      replace H := H x2_15 e_x2_15
      refine aw_iinc (v := x2_15) (lv' := [(2, .int x2_15), (0, .ref (G.2.1 k)), (1, .int a1), (3, .int x3)]) dX2_makesRow_80 (n0 := 2) rfl (by rw [e_x2_15]; rfl) (by decide) rfl ?_
      refine aw_goto (tgt := 3) dX2_makesRow_83 (by decide) ?_
      refine aw_sub (lv' := [(0, .ref (G.2.1 k)), (1, .int a1), (2, .int x2_15)]) [1, 2, 0] rfl ?_
      exact hK3 _ _ H
    · replace H := a_neg c14 H
      refine aw_iload_n dX2_makesRow_16 rfl 2 rfl ?_
      refine aw_if_ne (tgt := 24) dX2_makesRow_17 (by decide) (fun c16 => ?_) (fun c16 => ?_)
      · replace H := a_pos c16 H
        refine aw_iconst (v := 1) dX2_makesRow_24 (by decide) ?_
        refine aw_goto (tgt := 29) dX2_makesRow_25 (by decide) ?_
        exact fm_X2_makesRow_29 d o_k ih _ _ _ _ H
      · replace H := a_neg2 c16 H
        refine aw_iload_n dX2_makesRow_20 rfl 3 rfl ?_
        refine aw_if_eq (tgt := 28) dX2_makesRow_21 (by decide) (fun c17 => ?_) (fun c17 => ?_)
        · replace H := a_pos c17 H
          refine aw_iconst (v := 0) dX2_makesRow_28 (by decide) ?_
          exact fm_X2_makesRow_29 d o_k ih _ _ _ _ H
        · replace H := a_neg c17 H
          refine aw_iconst (v := 1) dX2_makesRow_24 (by decide) ?_
          refine aw_goto (tgt := 29) dX2_makesRow_25 (by decide) ?_
          exact fm_X2_makesRow_29 d o_k ih _ _ _ _ H
set_option maxHeartbeats 4000000 in
set_option maxRecDepth 100000 in
theorem fm_X2_makesRow_3 {l : Launch} {S : aS} {G : aG} (d : Nat) {k : Nat} {a1 : Int32} {Q : Int32 → aH → Prop} (o_k : aObj S k 1 flX2) : ∀ (n : Nat) (x2 : Int32) (h : aH), f_X2_makesRow_3 S k a1 Q n x2 h → AW l S G (d + 3) M_X2_makesRow (va_Qi Q (aPo S G) (aA S G)) 3 [(0, .ref (G.2.1 k)), (1, .int a1), (2, .int x2)] [] h := by
  intro n
  induction n with
  | zero => intro x2 h H; exact False.elim H
  | succ n ih =>
    intro x2 h H
    unfold f_X2_makesRow_3 at H
    refine aw_iload_n dX2_makesRow_3 rfl 2 rfl ?_
    refine aw_iconst (v := 3) dX2_makesRow_4 (by decide) ?_
    refine aw_icmp_gt (tgt := 86) dX2_makesRow_5 (by decide) (fun c18 => ?_) (fun c18 => ?_)
    · replace H := a_pos c18 H
      refine aw_iconst (v := 0) dX2_makesRow_86 (by decide) ?_
      exact aw_zret rfl rfl H dX2_makesRow_87
    · replace H := a_neg c18 H
      refine aw_bipush (v := (-3)) dX2_makesRow_8 (by decide) ?_
      refine aw_istore_n (lv' := [(3, .int (-3)), (0, .ref (G.2.1 k)), (1, .int a1), (2, .int x2)]) dX2_makesRow_10 rfl (by decide) rfl ?_
      refine aw_sub (lv' := [(0, .ref (G.2.1 k)), (1, .int a1), (2, .int x2), (3, .int (-3))]) [1, 2, 3, 0] rfl ?_
      obtain ⟨n1, H⟩ := H
      exact fm_X2_makesRow_11 d o_k ih n1 _ _ _ H
set_option maxHeartbeats 4000000 in
set_option maxRecDepth 100000 in
theorem am_X2_makesRow {l : Launch} {S : aS} {G : aG} (d : Nat) {k : Nat} {a1 : Int32} {h : aH} {Q : Int32 → aH → Prop} (o_k : aObj S k 1 flX2) (H : f_X2_makesRow S k a1 h Q) : AMi l S G (d + 3) M_X2_makesRow [.ref (G.2.1 k), .int a1] h Q := by
  unfold f_X2_makesRow at H
  refine am_of mf_X2_makesRow (Nat.le_of_ble_eq_true rfl) (lv0 := [(0, .ref (G.2.1 k)), (1, .int a1)]) rfl ?_
  refine aw_bipush (v := (-3)) dX2_makesRow_0 (by decide) ?_
  refine aw_istore_n (lv' := [(2, .int (-3)), (0, .ref (G.2.1 k)), (1, .int a1)]) dX2_makesRow_2 rfl (by decide) rfl ?_
  refine aw_sub (lv' := [(0, .ref (G.2.1 k)), (1, .int a1), (2, .int (-3))]) [1, 2, 0] rfl ?_
  obtain ⟨n1, H⟩ := H
  exact fm_X2_makesRow_3 d o_k n1 _ _ H
set_option maxHeartbeats 4000000 in
set_option maxRecDepth 100000 in
theorem fm_X2_isBesideHole_2 {l : Launch} {S : aS} {G : aG} (d : Nat) {k : Nat} {a1 : Int32} {Q : Int32 → aH → Prop} (o_k : aObj S k 1 flX2) : ∀ (n : Nat) (x2 : Int32) (h : aH), f_X2_isBesideHole_2 S k a1 Q n x2 h → AW l S G (d + 3) M_X2_isBesideHole (va_Qi Q (aPo S G) (aA S G)) 2 [(0, .ref (G.2.1 k)), (1, .int a1), (2, .int x2)] [] h := by
  intro n
  induction n with
  | zero => intro x2 h H; exact False.elim H
  | succ n ih =>
    intro x2 h H
    unfold f_X2_isBesideHole_2 at H
    refine aw_iload_n dX2_isBesideHole_2 rfl 2 rfl ?_
    refine aw_bipush (v := 8) dX2_isBesideHole_3 (by decide) ?_
    refine aw_icmp_ge (tgt := 36) dX2_isBesideHole_5 (by decide) (fun c1 => ?_) (fun c1 => ?_)
    · replace H := a_pos c1 H
      refine aw_iconst (v := 0) dX2_isBesideHole_36 (by decide) ?_
      exact aw_zret rfl rfl H dX2_isBesideHole_37
    · replace H := a_neg c1 H
      refine aw_iload_n dX2_isBesideHole_8 rfl 1 rfl ?_
      refine aw_iload_n dX2_isBesideHole_9 rfl 2 rfl ?_
      refine aw_callS_i (As := [.int a1, .int x2]) (rest := []) (am_X1_neighbour d H) mf_X1_neighbour wd_360 wd_361 rfl rfl (Nat.le_of_ble_eq_true rfl) dX2_isBesideHole_10 (fun r3 h2 H => ?_)
      refine aw_istore_n (lv' := [(3, .int r3), (0, .ref (G.2.1 k)), (1, .int a1), (2, .int x2)]) dX2_isBesideHole_13 rfl (by decide) rfl ?_
      refine aw_iload_n dX2_isBesideHole_14 rfl 0 rfl ?_
      refine aw_iconst (v := (-1)) dX2_isBesideHole_15 (by decide) ?_
      refine aw_icmp_eq (tgt := 30) dX2_isBesideHole_16 (by decide) (fun c4 => ?_) (fun c4 => ?_)
      · replace H := a_pos c4 H
        obtain ⟨x2_5, e_x2_5⟩ : ∃ y : Int32, y = x2 + 1 := ⟨_, rfl⟩
        replace H := H x2_5 e_x2_5
        refine aw_iinc (v := x2_5) (lv' := [(2, .int x2_5), (3, .int r3), (0, .ref (G.2.1 k)), (1, .int a1)]) dX2_isBesideHole_30 (n0 := 3) rfl (by rw [e_x2_5]; rfl) (by decide) rfl ?_
        refine aw_goto (tgt := 2) dX2_isBesideHole_33 (by decide) ?_
        refine aw_sub (lv' := [(0, .ref (G.2.1 k)), (1, .int a1), (2, .int x2_5)]) [2, 3, 0] rfl ?_
        exact ih _ _ H
      · replace H := a_neg c4 H
        refine aw_aload_n dX2_isBesideHole_19 rfl 1 rfl ?_
        refine aw_getR cf_X2 1 (by decide) rfl wd_39 o_k dX2_isBesideHole_20 ?_
        refine aw_iload_n dX2_isBesideHole_23 rfl 0 rfl ?_
        obtain ⟨z6, H⟩ := H
        refine aw_iaload z6 dX2_isBesideHole_24 ?_
        refine aw_name (fun v7 e_v7 => ?_)
        replace H := H v7 e_v7
        refine aw_if_lt (tgt := 30) dX2_isBesideHole_25 (by decide) (fun c8 => ?_) (fun c8 => ?_)
        · replace H := a_pos c8 H
          obtain ⟨x2_9, e_x2_9⟩ : ∃ y : Int32, y = x2 + 1 := ⟨_, rfl⟩
          replace H := H x2_9 e_x2_9
          refine aw_iinc (v := x2_9) (lv' := [(2, .int x2_9), (3, .int r3), (0, .ref (G.2.1 k)), (1, .int a1)]) dX2_isBesideHole_30 (n0 := 3) rfl (by rw [e_x2_9]; rfl) (by decide) rfl ?_
          refine aw_goto (tgt := 2) dX2_isBesideHole_33 (by decide) ?_
          refine aw_sub (lv' := [(0, .ref (G.2.1 k)), (1, .int a1), (2, .int x2_9)]) [2, 3, 0] rfl ?_
          exact ih _ _ H
        · replace H := a_neg c8 H
          refine aw_iconst (v := 1) dX2_isBesideHole_28 (by decide) ?_
          exact aw_zret rfl rfl H dX2_isBesideHole_29
set_option maxHeartbeats 4000000 in
set_option maxRecDepth 100000 in
theorem am_X2_isBesideHole {l : Launch} {S : aS} {G : aG} (d : Nat) {k : Nat} {a1 : Int32} {h : aH} {Q : Int32 → aH → Prop} (o_k : aObj S k 1 flX2) (H : f_X2_isBesideHole S k a1 h Q) : AMi l S G (d + 3) M_X2_isBesideHole [.ref (G.2.1 k), .int a1] h Q := by
  unfold f_X2_isBesideHole at H
  refine am_of mf_X2_isBesideHole (Nat.le_of_ble_eq_true rfl) (lv0 := [(0, .ref (G.2.1 k)), (1, .int a1)]) rfl ?_
  refine aw_iconst (v := 0) dX2_isBesideHole_0 (by decide) ?_
  refine aw_istore_n (lv' := [(2, .int 0), (0, .ref (G.2.1 k)), (1, .int a1)]) dX2_isBesideHole_1 rfl (by decide) rfl ?_
  refine aw_sub (lv' := [(0, .ref (G.2.1 k)), (1, .int a1), (2, .int 0)]) [1, 2, 0] rfl ?_
  obtain ⟨n1, H⟩ := H
  exact fm_X2_isBesideHole_2 d o_k n1 _ _ H
set_option maxHeartbeats 4000000 in
set_option maxRecDepth 100000 in
theorem am_X2_stepGroup {l : Launch} {S : aS} {G : aG} (d : Nat) {k : Nat} {a1 : Int32} {a2 : Int32} {a3 : Int32} {h : aH} {Q : Int32 → aH → Prop} (o_k : aObj S k 1 flX2) (H : f_X2_stepGroup S k a1 a2 a3 h Q) : AMi l S G (d + 2) M_X2_stepGroup [.ref (G.2.1 k), .int a1, .int a2, .int a3] h Q := by
  unfold f_X2_stepGroup at H
  refine am_of mf_X2_stepGroup (Nat.le_of_ble_eq_true rfl) (lv0 := [(0, .ref (G.2.1 k)), (1, .int a1), (2, .int a2), (3, .int a3)]) rfl ?_
  refine aw_aload_n dX2_stepGroup_0 rfl 0 rfl ?_
  refine aw_getR cf_X2 10 (by decide) rfl wd_68 o_k dX2_stepGroup_1 ?_
  refine aw_iload_n dX2_stepGroup_4 rfl 1 rfl ?_
  obtain ⟨z1, H⟩ := H
  refine aw_iaload z1 dX2_stepGroup_5 ?_
  refine aw_name (fun v2 e_v2 => ?_)
  replace H := H v2 e_v2
  refine aw_iload_n dX2_stepGroup_6 rfl 2 rfl ?_
  refine aw_iload_n dX2_stepGroup_7 rfl 3 rfl ?_
  refine aw_callS_i (As := [.int v2, .int a2, .int a3]) (rest := []) (am_X1_beside d H) mf_X1_beside wd_608 wd_368 rfl rfl (Nat.le_of_ble_eq_true rfl) dX2_stepGroup_8 (fun r4 h3 H => ?_)
  refine aw_istore (lv' := [(4, .int r4), (0, .ref (G.2.1 k)), (1, .int a1), (2, .int a2), (3, .int a3)]) dX2_stepGroup_11 (by decide) rfl ?_
  refine aw_iload dX2_stepGroup_13 0 rfl ?_
  refine aw_iconst (v := (-1)) dX2_stepGroup_15 (by decide) ?_
  refine aw_icmp_eq (tgt := 28) dX2_stepGroup_16 (by decide) (fun c5 => ?_) (fun c5 => ?_)
  · replace H := a_pos c5 H
    refine aw_iconst (v := 0) dX2_stepGroup_28 (by decide) ?_
    exact aw_zret rfl rfl H dX2_stepGroup_29
  · replace H := a_neg c5 H
    refine aw_aload_n dX2_stepGroup_19 rfl 1 rfl ?_
    refine aw_iload dX2_stepGroup_20 0 rfl ?_
    refine aw_callV_i (As := [.int r4]) (rest := []) (am_X2_isFirm d o_k H) mf_X2_isFirm wd_561 wd_562 wd_563 cf_X2 o_k rfl rfl (Nat.le_of_ble_eq_true rfl) dX2_stepGroup_22 (fun r7 h6 H => ?_)
    refine aw_if_ne (tgt := 30) dX2_stepGroup_25 (by decide) (fun c8 => ?_) (fun c8 => ?_)
    · replace H := a_pos c8 H
      refine aw_aload_n dX2_stepGroup_30 rfl 1 rfl ?_
      refine aw_getR cf_X2 10 (by decide) rfl wd_68 o_k dX2_stepGroup_31 ?_
      refine aw_iload_n dX2_stepGroup_34 rfl 2 rfl ?_
      refine aw_iload dX2_stepGroup_35 0 rfl ?_
      obtain ⟨z9, H⟩ := H
      refine aw_iastore z9 dX2_stepGroup_37 ?_
      refine aw_nameH (fun h10 e_h10 => ?_)
      replace H := H h10 e_h10
      refine aw_iconst (v := 1) dX2_stepGroup_38 (by decide) ?_
      exact aw_zret rfl rfl H dX2_stepGroup_39
    · replace H := a_neg2 c8 H
      refine aw_iconst (v := 0) dX2_stepGroup_28 (by decide) ?_
      exact aw_zret rfl rfl H dX2_stepGroup_29
set_option maxHeartbeats 4000000 in
set_option maxRecDepth 100000 in
theorem am_X2_drift {l : Launch} {S : aS} {G : aG} (d : Nat) {k : Nat} {h : aH} {Q : aH → Prop} (o_k : aObj S k 1 flX2) (H : f_X2_drift S k h Q) : AMv l S G (d + 3) M_X2_drift [.ref (G.2.1 k)] h Q := by
  unfold f_X2_drift at H
  refine am_of mf_X2_drift (Nat.le_of_ble_eq_true rfl) (lv0 := [(0, .ref (G.2.1 k))]) rfl ?_
  refine aw_aload_n dX2_drift_0 rfl 0 rfl ?_
  refine aw_sipush (v := 25173) dX2_drift_1 (by decide) ?_
  refine aw_aload_n dX2_drift_4 rfl 0 rfl ?_
  refine aw_getI cf_X2 14 (by decide) rfl wd_82 o_k dX2_drift_5 ?_
  refine aw_name (fun v1 e_v1 => ?_)
  replace H := H v1 e_v1
  refine aw_imul dX2_drift_8 ?_
  refine aw_sipush (v := 13849) dX2_drift_9 (by decide) ?_
  refine aw_iadd dX2_drift_12 ?_
  refine aw_ldc (v := 65535) dX2_drift_13 wd_996 ?_
  refine aw_iand dX2_drift_15 ?_
  refine aw_putI cf_X2 14 (by decide) rfl wd_82 rfl rfl rfl o_k dX2_drift_16 ?_
  refine aw_nameH (fun h2 e_h2 => ?_)
  replace H := H h2 e_h2
  refine aw_aload_n dX2_drift_19 rfl 0 rfl ?_
  refine aw_getI cf_X2 14 (by decide) rfl wd_82 o_k dX2_drift_20 ?_
  refine aw_name (fun v3 e_v3 => ?_)
  replace H := H v3 e_v3
  refine aw_bipush (v := 7) dX2_drift_23 (by decide) ?_
  refine aw_iand dX2_drift_25 ?_
  refine aw_name (fun x1_4 e_x1_4 => ?_)
  replace H := H x1_4 e_x1_4
  refine aw_istore_n (lv' := [(1, .int x1_4), (0, .ref (G.2.1 k))]) dX2_drift_26 rfl (by decide) rfl ?_
  refine aw_aload_n dX2_drift_27 rfl 1 rfl ?_
  refine aw_iload_n dX2_drift_28 rfl 0 rfl ?_
  refine aw_callV_i (As := [.int x1_4]) (rest := []) (am_X2_isAfloat (d + 1) o_k H) mf_X2_isAfloat wd_997 wd_691 wd_692 cf_X2 o_k rfl rfl (Nat.le_of_ble_eq_true rfl) dX2_drift_29 (fun r6 h5 H => ?_)
  refine aw_if_ne (tgt := 36) dX2_drift_32 (by decide) (fun c7 => ?_) (fun c7 => ?_)
  · replace H := a_pos c7 H
    refine aw_aload_n dX2_drift_36 rfl 1 rfl ?_
    refine aw_getI cf_X2 14 (by decide) rfl wd_82 o_k dX2_drift_37 ?_
    refine aw_name (fun v8 e_v8 => ?_)
    replace H := H v8 e_v8
    refine aw_iconst (v := 3) dX2_drift_40 (by decide) ?_
    refine aw_ishr dX2_drift_41 ?_
    refine aw_iconst (v := 3) dX2_drift_42 (by decide) ?_
    refine aw_iand dX2_drift_43 ?_
    refine aw_name (fun v9 e_v9 => ?_)
    replace H := H v9 e_v9
    by_cases c10_0 : v9 = 0
    · replace H := a_pos c10_0 H
      refine aw_tableIn (off := 28) (tgt := 72) dX2_drift_44 (by rw [c10_0]; decide) (by rw [c10_0]; decide) (by rw [c10_0]; decide) (by decide) ?_
      refine aw_aload_n dX2_drift_72 rfl 1 rfl ?_
      refine aw_iload_n dX2_drift_73 rfl 0 rfl ?_
      refine aw_iconst (v := 0) dX2_drift_74 (by decide) ?_
      refine aw_iconst (v := 1) dX2_drift_75 (by decide) ?_
      refine aw_callV_i (As := [.int x1_4, .int 0, .int 1]) (rest := []) (am_X2_stepGroup d o_k H) mf_X2_stepGroup wd_998 wd_734 wd_735 cf_X2 o_k rfl rfl (Nat.le_of_ble_eq_true rfl) dX2_drift_76 (fun r12 h11 H => ?_)
      refine aw_pop dX2_drift_79 rfl ?_
      refine aw_goto (tgt := 113) dX2_drift_80 (by decide) ?_
      exact aw_vret rfl H dX2_drift_113
    · replace H := a_neg c10_0 H
      by_cases c10_1 : v9 = 1
      · replace H := a_pos c10_1 H
        refine aw_tableIn (off := 39) (tgt := 83) dX2_drift_44 (by rw [c10_1]; decide) (by rw [c10_1]; decide) (by rw [c10_1]; decide) (by decide) ?_
        refine aw_aload_n dX2_drift_83 rfl 1 rfl ?_
        refine aw_iload_n dX2_drift_84 rfl 0 rfl ?_
        refine aw_iconst (v := 1) dX2_drift_85 (by decide) ?_
        refine aw_iconst (v := 0) dX2_drift_86 (by decide) ?_
        refine aw_callV_i (As := [.int x1_4, .int 1, .int 0]) (rest := []) (am_X2_stepGroup d o_k H) mf_X2_stepGroup wd_998 wd_734 wd_735 cf_X2 o_k rfl rfl (Nat.le_of_ble_eq_true rfl) dX2_drift_87 (fun r14 h13 H => ?_)
        refine aw_pop dX2_drift_90 rfl ?_
        refine aw_goto (tgt := 113) dX2_drift_91 (by decide) ?_
        exact aw_vret rfl H dX2_drift_113
      · replace H := a_neg c10_1 H
        by_cases c10_2 : v9 = 2
        · replace H := a_pos c10_2 H
          refine aw_tableIn (off := 50) (tgt := 94) dX2_drift_44 (by rw [c10_2]; decide) (by rw [c10_2]; decide) (by rw [c10_2]; decide) (by decide) ?_
          refine aw_aload_n dX2_drift_94 rfl 1 rfl ?_
          refine aw_iload_n dX2_drift_95 rfl 0 rfl ?_
          refine aw_iconst (v := 0) dX2_drift_96 (by decide) ?_
          refine aw_iconst (v := (-1)) dX2_drift_97 (by decide) ?_
          refine aw_callV_i (As := [.int x1_4, .int 0, .int (-1)]) (rest := []) (am_X2_stepGroup d o_k H) mf_X2_stepGroup wd_998 wd_734 wd_735 cf_X2 o_k rfl rfl (Nat.le_of_ble_eq_true rfl) dX2_drift_98 (fun r16 h15 H => ?_)
          refine aw_pop dX2_drift_101 rfl ?_
          refine aw_goto (tgt := 113) dX2_drift_102 (by decide) ?_
          exact aw_vret rfl H dX2_drift_113
        · replace H := a_neg c10_2 H
          have t0 := a_ne (n := 0) (v := 0) (by decide) c10_0
          have t1 := a_ne (n := 1) (v := 1) (by decide) c10_1
          have t2 := a_ne (n := 2) (v := 2) (by decide) c10_2
          refine aw_tableOut (tgt := 105) dX2_drift_44 (by omega) (by decide) ?_
          refine aw_aload_n dX2_drift_105 rfl 1 rfl ?_
          refine aw_iload_n dX2_drift_106 rfl 0 rfl ?_
          refine aw_iconst (v := (-1)) dX2_drift_107 (by decide) ?_
          refine aw_iconst (v := 0) dX2_drift_108 (by decide) ?_
          refine aw_callV_i (As := [.int x1_4, .int (-1), .int 0]) (rest := []) (am_X2_stepGroup d o_k H) mf_X2_stepGroup wd_998 wd_734 wd_735 cf_X2 o_k rfl rfl (Nat.le_of_ble_eq_true rfl) dX2_drift_109 (fun r18 h17 H => ?_)
          refine aw_pop dX2_drift_112 rfl ?_
          exact aw_vret rfl H dX2_drift_113
  · replace H := a_neg2 c7 H
    exact aw_vret rfl H dX2_drift_35
set_option maxHeartbeats 4000000 in
set_option maxRecDepth 100000 in
theorem am_X3_clear {l : Launch} {S : aS} {G : aG} (d : Nat) {k : Nat} {h : aH} {Q : aH → Prop} (o_k : aObj S k 2 flX3) (H : f_X3_clear S k h Q) : AMv l S G d M_X3_clear [.ref (G.2.1 k)] h Q := by
  unfold f_X3_clear at H
  refine am_of mf_X3_clear (Nat.le_of_ble_eq_true rfl) (lv0 := [(0, .ref (G.2.1 k))]) rfl ?_
  refine aw_aload_n dX3_clear_0 rfl 0 rfl ?_
  refine aw_iconst (v := 0) dX3_clear_1 (by decide) ?_
  refine aw_putI cf_X3 2 (by decide) rfl wd_169 rfl rfl rfl o_k dX3_clear_2 ?_
  refine aw_nameH (fun h1 e_h1 => ?_)
  replace H := H h1 e_h1
  refine aw_aload_n dX3_clear_5 rfl 0 rfl ?_
  refine aw_iconst (v := 0) dX3_clear_6 (by decide) ?_
  refine aw_putI cf_X3 6 (by decide) rfl wd_173 rfl rfl rfl o_k dX3_clear_7 ?_
  refine aw_nameH (fun h2 e_h2 => ?_)
  replace H := H h2 e_h2
  exact aw_vret rfl H dX3_clear_10
set_option maxHeartbeats 4000000 in
set_option maxRecDepth 100000 in
theorem am_X3_beginClause {l : Launch} {S : aS} {G : aG} (d : Nat) {k : Nat} {a1 : Int32} {h : aH} {Q : aH → Prop} (o_k : aObj S k 2 flX3) (H : f_X3_beginClause S k a1 h Q) : AMv l S G d M_X3_beginClause [.ref (G.2.1 k), .int a1] h Q := by
  unfold f_X3_beginClause at H
  refine am_of mf_X3_beginClause (Nat.le_of_ble_eq_true rfl) (lv0 := [(0, .ref (G.2.1 k)), (1, .int a1)]) rfl ?_
  refine aw_aload_n dX3_beginClause_0 rfl 0 rfl ?_
  refine aw_getI cf_X3 6 (by decide) rfl wd_173 o_k dX3_beginClause_1 ?_
  refine aw_name (fun v1 e_v1 => ?_)
  replace H := H v1 e_v1
  refine aw_bipush (v := 14) dX3_beginClause_4 (by decide) ?_
  refine aw_icmp_ge (tgt := 42) dX3_beginClause_6 (by decide) (fun c2 => ?_) (fun c2 => ?_)
  · replace H := a_pos c2 H
    exact aw_vret rfl H dX3_beginClause_42
  · replace H := a_neg c2 H
    refine aw_aload_n dX3_beginClause_9 rfl 0 rfl ?_
    refine aw_getR cf_X3 3 (by decide) rfl wd_170 o_k dX3_beginClause_10 ?_
    refine aw_aload_n dX3_beginClause_13 rfl 0 rfl ?_
    refine aw_getI cf_X3 6 (by decide) rfl wd_173 o_k dX3_beginClause_14 ?_
    refine aw_name (fun v3 e_v3 => ?_)
    replace H := H v3 e_v3
    refine aw_iload_n dX3_beginClause_17 rfl 1 rfl ?_
    obtain ⟨z4, H⟩ := H
    refine aw_iastore z4 dX3_beginClause_18 ?_
    refine aw_nameH (fun h5 e_h5 => ?_)
    replace H := H h5 e_h5
    refine aw_aload_n dX3_beginClause_19 rfl 0 rfl ?_
    refine aw_getR cf_X3 4 (by decide) rfl wd_171 o_k dX3_beginClause_20 ?_
    refine aw_aload_n dX3_beginClause_23 rfl 0 rfl ?_
    refine aw_getI cf_X3 6 (by decide) rfl wd_173 o_k dX3_beginClause_24 ?_
    refine aw_name (fun v6 e_v6 => ?_)
    replace H := H v6 e_v6
    refine aw_aload_n dX3_beginClause_27 rfl 0 rfl ?_
    refine aw_getI cf_X3 2 (by decide) rfl wd_169 o_k dX3_beginClause_28 ?_
    refine aw_name (fun v7 e_v7 => ?_)
    replace H := H v7 e_v7
    obtain ⟨z8, H⟩ := H
    refine aw_iastore z8 dX3_beginClause_31 ?_
    refine aw_nameH (fun h9 e_h9 => ?_)
    replace H := H h9 e_h9
    refine aw_aload_n dX3_beginClause_32 rfl 0 rfl ?_
    refine aw_dup dX3_beginClause_33 rfl ?_
    refine aw_getI cf_X3 6 (by decide) rfl wd_173 o_k dX3_beginClause_34 ?_
    refine aw_name (fun v10 e_v10 => ?_)
    replace H := H v10 e_v10
    refine aw_iconst (v := 1) dX3_beginClause_37 (by decide) ?_
    refine aw_iadd dX3_beginClause_38 ?_
    refine aw_putI cf_X3 6 (by decide) rfl wd_173 rfl rfl rfl o_k dX3_beginClause_39 ?_
    refine aw_nameH (fun h11 e_h11 => ?_)
    replace H := H h11 e_h11
    exact aw_vret rfl H dX3_beginClause_42
set_option maxHeartbeats 4000000 in
set_option maxRecDepth 100000 in
theorem am_X3_beginCondition {l : Launch} {S : aS} {G : aG} (d : Nat) {k : Nat} {h : aH} {Q : aH → Prop} (o_k : aObj S k 2 flX3) (H : f_X3_beginCondition S k h Q) : AMv l S G d M_X3_beginCondition [.ref (G.2.1 k)] h Q := by
  unfold f_X3_beginCondition at H
  refine am_of mf_X3_beginCondition (Nat.le_of_ble_eq_true rfl) (lv0 := [(0, .ref (G.2.1 k))]) rfl ?_
  refine aw_aload_n dX3_beginCondition_0 rfl 0 rfl ?_
  refine aw_getI cf_X3 6 (by decide) rfl wd_173 o_k dX3_beginCondition_1 ?_
  refine aw_name (fun v1 e_v1 => ?_)
  replace H := H v1 e_v1
  refine aw_if_le (tgt := 22) dX3_beginCondition_4 (by decide) (fun c2 => ?_) (fun c2 => ?_)
  · replace H := a_pos c2 H
    exact aw_vret rfl H dX3_beginCondition_22
  · replace H := a_neg c2 H
    refine aw_aload_n dX3_beginCondition_7 rfl 0 rfl ?_
    refine aw_getR cf_X3 5 (by decide) rfl wd_172 o_k dX3_beginCondition_8 ?_
    refine aw_aload_n dX3_beginCondition_11 rfl 0 rfl ?_
    refine aw_getI cf_X3 6 (by decide) rfl wd_173 o_k dX3_beginCondition_12 ?_
    refine aw_name (fun v3 e_v3 => ?_)
    replace H := H v3 e_v3
    refine aw_iconst (v := 1) dX3_beginCondition_15 (by decide) ?_
    refine aw_isub dX3_beginCondition_16 ?_
    refine aw_aload_n dX3_beginCondition_17 rfl 0 rfl ?_
    refine aw_getI cf_X3 2 (by decide) rfl wd_169 o_k dX3_beginCondition_18 ?_
    refine aw_name (fun v4 e_v4 => ?_)
    replace H := H v4 e_v4
    obtain ⟨z5, H⟩ := H
    refine aw_iastore z5 dX3_beginCondition_21 ?_
    refine aw_nameH (fun h6 e_h6 => ?_)
    replace H := H h6 e_h6
    exact aw_vret rfl H dX3_beginCondition_22
set_option maxHeartbeats 4000000 in
set_option maxRecDepth 100000 in
theorem am_X3_put {l : Launch} {S : aS} {G : aG} (d : Nat) {k : Nat} {a1 : Int32} {a2 : Int32} {h : aH} {Q : Int32 → aH → Prop} (o_k : aObj S k 2 flX3) (H : f_X3_put S k a1 a2 h Q) : AMi l S G d M_X3_put [.ref (G.2.1 k), .int a1, .int a2] h Q := by
  unfold f_X3_put at H
  refine am_of mf_X3_put (Nat.le_of_ble_eq_true rfl) (lv0 := [(0, .ref (G.2.1 k)), (1, .int a1), (2, .int a2)]) rfl ?_
  refine aw_aload_n dX3_put_0 rfl 0 rfl ?_
  refine aw_getI cf_X3 2 (by decide) rfl wd_169 o_k dX3_put_1 ?_
  refine aw_name (fun v1 e_v1 => ?_)
  replace H := H v1 e_v1
  refine aw_sipush (v := 200) dX3_put_4 (by decide) ?_
  refine aw_icmp_lt (tgt := 12) dX3_put_7 (by decide) (fun c2 => ?_) (fun c2 => ?_)
  · replace H := a_pos c2 H
    refine aw_aload_n dX3_put_12 rfl 0 rfl ?_
    refine aw_getR cf_X3 0 (by decide) rfl wd_167 o_k dX3_put_13 ?_
    refine aw_aload_n dX3_put_16 rfl 0 rfl ?_
    refine aw_getI cf_X3 2 (by decide) rfl wd_169 o_k dX3_put_17 ?_
    refine aw_name (fun v3 e_v3 => ?_)
    replace H := H v3 e_v3
    refine aw_iload_n dX3_put_20 rfl 1 rfl ?_
    obtain ⟨z4, H⟩ := H
    refine aw_iastore z4 dX3_put_21 ?_
    refine aw_nameH (fun h5 e_h5 => ?_)
    replace H := H h5 e_h5
    refine aw_aload_n dX3_put_22 rfl 0 rfl ?_
    refine aw_getR cf_X3 1 (by decide) rfl wd_168 o_k dX3_put_23 ?_
    refine aw_aload_n dX3_put_26 rfl 0 rfl ?_
    refine aw_getI cf_X3 2 (by decide) rfl wd_169 o_k dX3_put_27 ?_
    refine aw_name (fun v6 e_v6 => ?_)
    replace H := H v6 e_v6
    refine aw_iload_n dX3_put_30 rfl 2 rfl ?_
    obtain ⟨z7, H⟩ := H
    refine aw_iastore z7 dX3_put_31 ?_
    refine aw_nameH (fun h8 e_h8 => ?_)
    replace H := H h8 e_h8
    refine aw_aload_n dX3_put_32 rfl 0 rfl ?_
    refine aw_dup dX3_put_33 rfl ?_
    refine aw_getI cf_X3 2 (by decide) rfl wd_169 o_k dX3_put_34 ?_
    refine aw_name (fun v9 e_v9 => ?_)
    replace H := H v9 e_v9
    refine aw_iconst (v := 1) dX3_put_37 (by decide) ?_
    refine aw_iadd dX3_put_38 ?_
    refine aw_putI cf_X3 2 (by decide) rfl wd_169 rfl rfl rfl o_k dX3_put_39 ?_
    refine aw_nameH (fun h10 e_h10 => ?_)
    replace H := H h10 e_h10
    refine aw_aload_n dX3_put_42 rfl 0 rfl ?_
    refine aw_getI cf_X3 2 (by decide) rfl wd_169 o_k dX3_put_43 ?_
    refine aw_name (fun v11 e_v11 => ?_)
    replace H := H v11 e_v11
    refine aw_iconst (v := 1) dX3_put_46 (by decide) ?_
    refine aw_isub dX3_put_47 ?_
    exact aw_iret rfl H dX3_put_48
  · replace H := a_neg c2 H
    refine aw_iconst (v := (-1)) dX3_put_10 (by decide) ?_
    exact aw_iret rfl H dX3_put_11
set_option maxHeartbeats 4000000 in
set_option maxRecDepth 100000 in
theorem fm_X3_landHere_4 {l : Launch} {S : aS} {G : aG} (d : Nat) {k : Nat} {a1 : Int32} {Q : aH → Prop} (o_k : aObj S k 2 flX3) : ∀ (n : Nat) (x2 : Int32) (x3 : Int32) (h : aH), f_X3_landHere_4 S k a1 Q n x2 x3 h → AW l S G d M_X3_landHere (va_Qv Q (aPo S G) (aA S G)) 4 [(0, .ref (G.2.1 k)), (1, .int a1), (2, .int x2), (3, .int x3)] [] h := by
  intro n
  induction n with
  | zero => intro x2 x3 h H; exact False.elim H
  | succ n ih =>
    intro x2 x3 h H
    unfold f_X3_landHere_4 at H
    refine aw_iload_n dX3_landHere_4 rfl 3 rfl ?_
    refine aw_sipush (v := 200) dX3_landHere_5 (by decide) ?_
    refine aw_icmp_ge (tgt := 50) dX3_landHere_8 (by decide) (fun c1 => ?_) (fun c1 => ?_)
    · replace H := a_pos c1 H
      exact aw_vret rfl H dX3_landHere_50
    · replace H := a_neg c1 H
      refine aw_iload_n dX3_landHere_11 rfl 2 rfl ?_
      refine aw_if_lt (tgt := 50) dX3_landHere_12 (by decide) (fun c2 => ?_) (fun c2 => ?_)
      · replace H := a_pos c2 H
        exact aw_vret rfl H dX3_landHere_50
      · replace H := a_neg c2 H
        refine aw_iload_n dX3_landHere_15 rfl 2 rfl ?_
        refine aw_aload_n dX3_landHere_16 rfl 0 rfl ?_
        refine aw_getI cf_X3 2 (by decide) rfl wd_169 o_k dX3_landHere_17 ?_
        refine aw_name (fun v3 e_v3 => ?_)
        replace H := H v3 e_v3
        refine aw_icmp_ge (tgt := 50) dX3_landHere_20 (by decide) (fun c4 => ?_) (fun c4 => ?_)
        · replace H := a_pos c4 H
          exact aw_vret rfl H dX3_landHere_50
        · replace H := a_neg c4 H
          refine aw_aload_n dX3_landHere_23 rfl 0 rfl ?_
          refine aw_getR cf_X3 1 (by decide) rfl wd_168 o_k dX3_landHere_24 ?_
          refine aw_iload_n dX3_landHere_27 rfl 2 rfl ?_
          obtain ⟨z5, H⟩ := H
          refine aw_iaload z5 dX3_landHere_28 ?_
          refine aw_name (fun v6 e_v6 => ?_)
          replace H := H v6 e_v6
          refine aw_istore (lv' := [(4, .int v6), (0, .ref (G.2.1 k)), (1, .int a1), (2, .int x2), (3, .int x3)]) dX3_landHere_29 (by decide) rfl ?_
          refine aw_aload_n dX3_landHere_31 rfl 1 rfl ?_
          refine aw_getR cf_X3 1 (by decide) rfl wd_168 o_k dX3_landHere_32 ?_
          refine aw_iload_n dX3_landHere_35 rfl 3 rfl ?_
          refine aw_aload_n dX3_landHere_36 rfl 1 rfl ?_
          refine aw_getI cf_X3 2 (by decide) rfl wd_169 o_k dX3_landHere_37 ?_
          refine aw_name (fun v7 e_v7 => ?_)
          replace H := H v7 e_v7
          obtain ⟨z8, H⟩ := H
          refine aw_iastore z8 dX3_landHere_40 ?_
          refine aw_nameH (fun h9 e_h9 => ?_)
          replace H := H h9 e_h9
          refine aw_iload dX3_landHere_41 0 rfl ?_
          refine aw_istore_n (lv' := [(2, .int v6), (4, .int v6), (0, .ref (G.2.1 k)), (1, .int a1), (3, .int x3)]) dX3_landHere_43 rfl (by decide) rfl ?_
          obtain ⟨x3_10, e_x3_10⟩ : ∃ y : Int32, y = x3 + 1 := ⟨_, rfl⟩
          replace H := H x3_10 e_x3_10
          refine aw_iinc (v := x3_10) (lv' := [(3, .int x3_10), (2, .int v6), (4, .int v6), (0, .ref (G.2.1 k)), (1, .int a1)]) dX3_landHere_44 (n0 := 4) rfl (by rw [e_x3_10]; rfl) (by decide) rfl ?_
          refine aw_goto (tgt := 4) dX3_landHere_47 (by decide) ?_
          refine aw_sub (lv' := [(0, .ref (G.2.1 k)), (1, .int a1), (2, .int v6), (3, .int x3_10)]) [3, 4, 1, 0] rfl ?_
          exact ih _ _ _ H
set_option maxHeartbeats 4000000 in
set_option maxRecDepth 100000 in
theorem am_X3_landHere {l : Launch} {S : aS} {G : aG} (d : Nat) {k : Nat} {a1 : Int32} {h : aH} {Q : aH → Prop} (o_k : aObj S k 2 flX3) (H : f_X3_landHere S k a1 h Q) : AMv l S G d M_X3_landHere [.ref (G.2.1 k), .int a1] h Q := by
  unfold f_X3_landHere at H
  refine am_of mf_X3_landHere (Nat.le_of_ble_eq_true rfl) (lv0 := [(0, .ref (G.2.1 k)), (1, .int a1)]) rfl ?_
  refine aw_iload_n dX3_landHere_0 rfl 1 rfl ?_
  refine aw_istore_n (lv' := [(2, .int a1), (0, .ref (G.2.1 k)), (1, .int a1)]) dX3_landHere_1 rfl (by decide) rfl ?_
  refine aw_iconst (v := 0) dX3_landHere_2 (by decide) ?_
  refine aw_istore_n (lv' := [(3, .int 0), (2, .int a1), (0, .ref (G.2.1 k)), (1, .int a1)]) dX3_landHere_3 rfl (by decide) rfl ?_
  refine aw_sub (lv' := [(0, .ref (G.2.1 k)), (1, .int a1), (2, .int a1), (3, .int 0)]) [2, 3, 1, 0] rfl ?_
  obtain ⟨n1, H⟩ := H
  exact fm_X3_landHere_4 d o_k n1 _ _ _ H
set_option maxHeartbeats 4000000 in
set_option maxRecDepth 100000 in
theorem fm_X3_has_2 {l : Launch} {S : aS} {G : aG} (d : Nat) {k : Nat} {a1 : Int32} {Q : Int32 → aH → Prop} (o_k : aObj S k 2 flX3) : ∀ (n : Nat) (x2 : Int32) (h : aH), f_X3_has_2 S k a1 Q n x2 h → AW l S G d M_X3_has (va_Qi Q (aPo S G) (aA S G)) 2 [(0, .ref (G.2.1 k)), (1, .int a1), (2, .int x2)] [] h := by
  intro n
  induction n with
  | zero => intro x2 h H; exact False.elim H
  | succ n ih =>
    intro x2 h H
    unfold f_X3_has_2 at H
    refine aw_iload_n dX3_has_2 rfl 2 rfl ?_
    refine aw_aload_n dX3_has_3 rfl 0 rfl ?_
    refine aw_getI cf_X3 6 (by decide) rfl wd_173 o_k dX3_has_4 ?_
    refine aw_name (fun v1 e_v1 => ?_)
    replace H := H v1 e_v1
    refine aw_icmp_ge (tgt := 28) dX3_has_7 (by decide) (fun c2 => ?_) (fun c2 => ?_)
    · replace H := a_pos c2 H
      refine aw_iconst (v := 0) dX3_has_28 (by decide) ?_
      exact aw_zret rfl rfl H dX3_has_29
    · replace H := a_neg c2 H
      refine aw_aload_n dX3_has_10 rfl 0 rfl ?_
      refine aw_getR cf_X3 3 (by decide) rfl wd_170 o_k dX3_has_11 ?_
      refine aw_iload_n dX3_has_14 rfl 2 rfl ?_
      obtain ⟨z3, H⟩ := H
      refine aw_iaload z3 dX3_has_15 ?_
      refine aw_name (fun v4 e_v4 => ?_)
      replace H := H v4 e_v4
      refine aw_iload_n dX3_has_16 rfl 1 rfl ?_
      refine aw_icmp_ne (tgt := 22) dX3_has_17 (by decide) (fun c5 => ?_) (fun c5 => ?_)
      · replace H := a_pos c5 H
        obtain ⟨x2_6, e_x2_6⟩ : ∃ y : Int32, y = x2 + 1 := ⟨_, rfl⟩
        replace H := H x2_6 e_x2_6
        refine aw_iinc (v := x2_6) (lv' := [(2, .int x2_6), (0, .ref (G.2.1 k)), (1, .int a1)]) dX3_has_22 (n0 := 2) rfl (by rw [e_x2_6]; rfl) (by decide) rfl ?_
        refine aw_goto (tgt := 2) dX3_has_25 (by decide) ?_
        refine aw_sub (lv' := [(0, .ref (G.2.1 k)), (1, .int a1), (2, .int x2_6)]) [1, 2, 0] rfl ?_
        exact ih _ _ H
      · replace H := a_neg2 c5 H
        refine aw_iconst (v := 1) dX3_has_20 (by decide) ?_
        exact aw_zret rfl rfl H dX3_has_21
set_option maxHeartbeats 4000000 in
set_option maxRecDepth 100000 in
theorem am_X3_has {l : Launch} {S : aS} {G : aG} (d : Nat) {k : Nat} {a1 : Int32} {h : aH} {Q : Int32 → aH → Prop} (o_k : aObj S k 2 flX3) (H : f_X3_has S k a1 h Q) : AMi l S G d M_X3_has [.ref (G.2.1 k), .int a1] h Q := by
  unfold f_X3_has at H
  refine am_of mf_X3_has (Nat.le_of_ble_eq_true rfl) (lv0 := [(0, .ref (G.2.1 k)), (1, .int a1)]) rfl ?_
  refine aw_iconst (v := 0) dX3_has_0 (by decide) ?_
  refine aw_istore_n (lv' := [(2, .int 0), (0, .ref (G.2.1 k)), (1, .int a1)]) dX3_has_1 rfl (by decide) rfl ?_
  refine aw_sub (lv' := [(0, .ref (G.2.1 k)), (1, .int a1), (2, .int 0)]) [1, 2, 0] rfl ?_
  obtain ⟨n1, H⟩ := H
  exact fm_X3_has_2 d o_k n1 _ _ H
set_option maxHeartbeats 4000000 in
set_option maxRecDepth 100000 in
theorem am_X3_lookFrom {l : Launch} {S : aS} {G : aG} (d : Nat) {k : Nat} {a1 : Nat} {a2 : Int32} {a3 : Int32} {h : aH} {Q : aH → Prop} (o_k : aObj S k 2 flX3) (o_a1 : aObj S a1 1 flX2) (H : f_X3_lookFrom S k a1 a2 a3 h Q) : AMv l S G (d + 3) M_X3_lookFrom [.ref (G.2.1 k), .ref (G.2.1 a1), .int a2, .int a3] h Q := by
  unfold f_X3_lookFrom at H
  refine am_of mf_X3_lookFrom (Nat.le_of_ble_eq_true rfl) (lv0 := [(0, .ref (G.2.1 k)), (1, .ref (G.2.1 a1)), (2, .int a2), (3, .int a3)]) rfl ?_
  refine aw_aload_n dX3_lookFrom_0 rfl 1 rfl ?_
  refine aw_getR cf_X2 4 (by decide) rfl wd_49 o_a1 dX3_lookFrom_1 ?_
  refine aw_iload_n dX3_lookFrom_4 rfl 2 rfl ?_
  obtain ⟨z1, H⟩ := H
  refine aw_iaload z1 dX3_lookFrom_5 ?_
  refine aw_name (fun v2 e_v2 => ?_)
  replace H := H v2 e_v2
  refine aw_istore (lv' := [(4, .int v2), (0, .ref (G.2.1 k)), (1, .ref (G.2.1 a1)), (2, .int a2), (3, .int a3)]) dX3_lookFrom_6 (by decide) rfl ?_
  refine aw_aload_n dX3_lookFrom_8 rfl 1 rfl ?_
  refine aw_aload_n dX3_lookFrom_9 rfl 2 rfl ?_
  refine aw_iload dX3_lookFrom_10 0 rfl ?_
  refine aw_aload_n dX3_lookFrom_12 rfl 2 rfl ?_
  refine aw_getR cf_X2 5 (by decide) rfl wd_53 o_a1 dX3_lookFrom_13 ?_
  refine aw_iload_n dX3_lookFrom_16 rfl 3 rfl ?_
  obtain ⟨z3, H⟩ := H
  refine aw_iaload z3 dX3_lookFrom_17 ?_
  refine aw_name (fun v4 e_v4 => ?_)
  replace H := H v4 e_v4
  refine aw_callV_v (As := [.ref (G.2.1 a1), .int v2, .int v4]) (rest := []) (am_X3_lookAt (d + 1) o_k o_a1 H) mf_X3_lookAt wd_711 wd_577 wd_578 cf_X3 o_k rfl rfl (Nat.le_of_ble_eq_true rfl) dX3_lookFrom_18 (fun h5 H => ?_)
  refine aw_aload_n dX3_lookFrom_21 rfl 1 rfl ?_
  refine aw_getR cf_X3 7 (by decide) rfl wd_175 o_k dX3_lookFrom_22 ?_
  refine aw_bipush (v := 7) dX3_lookFrom_25 (by decide) ?_
  refine aw_aload_n dX3_lookFrom_27 rfl 2 rfl ?_
  refine aw_getR cf_X2 7 (by decide) rfl wd_59 o_a1 dX3_lookFrom_28 ?_
  refine aw_iload_n dX3_lookFrom_31 rfl 3 rfl ?_
  obtain ⟨z6, H⟩ := H
  refine aw_iaload z6 dX3_lookFrom_32 ?_
  refine aw_name (fun v7 e_v7 => ?_)
  replace H := H v7 e_v7
  obtain ⟨z8, H⟩ := H
  refine aw_iastore z8 dX3_lookFrom_33 ?_
  refine aw_nameH (fun h9 e_h9 => ?_)
  replace H := H h9 e_h9
  refine aw_aload_n dX3_lookFrom_34 rfl 1 rfl ?_
  refine aw_getR cf_X3 7 (by decide) rfl wd_175 o_k dX3_lookFrom_35 ?_
  refine aw_bipush (v := 8) dX3_lookFrom_38 (by decide) ?_
  refine aw_aload_n dX3_lookFrom_40 rfl 2 rfl ?_
  refine aw_getR cf_X2 8 (by decide) rfl wd_62 o_a1 dX3_lookFrom_41 ?_
  refine aw_iload_n dX3_lookFrom_44 rfl 3 rfl ?_
  obtain ⟨z10, H⟩ := H
  refine aw_iaload z10 dX3_lookFrom_45 ?_
  refine aw_name (fun v11 e_v11 => ?_)
  replace H := H v11 e_v11
  obtain ⟨z12, H⟩ := H
  refine aw_iastore z12 dX3_lookFrom_46 ?_
  refine aw_nameH (fun h13 e_h13 => ?_)
  replace H := H h13 e_h13
  refine aw_aload_n dX3_lookFrom_47 rfl 1 rfl ?_
  refine aw_getR cf_X3 7 (by decide) rfl wd_175 o_k dX3_lookFrom_48 ?_
  refine aw_bipush (v := 9) dX3_lookFrom_51 (by decide) ?_
  refine aw_iload dX3_lookFrom_53 0 rfl ?_
  refine aw_aload_n dX3_lookFrom_55 rfl 2 rfl ?_
  refine aw_getR cf_X2 10 (by decide) rfl wd_70 o_a1 dX3_lookFrom_56 ?_
  refine aw_iload_n dX3_lookFrom_59 rfl 4 rfl ?_
  obtain ⟨z14, H⟩ := H
  refine aw_iaload z14 dX3_lookFrom_60 ?_
  refine aw_name (fun v15 e_v15 => ?_)
  replace H := H v15 e_v15
  refine aw_callS_i (As := [.int v2, .int v15]) (rest := [.int 9, .ref (G.2.1 (gR h13 k 7))]) (am_X1_way (d + 1) H) mf_X1_way wd_712 wd_713 rfl rfl (Nat.le_of_ble_eq_true rfl) dX3_lookFrom_61 (fun r17 h16 H => ?_)
  obtain ⟨z18, H⟩ := H
  refine aw_iastore z18 dX3_lookFrom_64 ?_
  refine aw_nameH (fun h19 e_h19 => ?_)
  replace H := H h19 e_h19
  refine aw_aload_n dX3_lookFrom_65 rfl 1 rfl ?_
  refine aw_getR cf_X3 7 (by decide) rfl wd_175 o_k dX3_lookFrom_66 ?_
  refine aw_bipush (v := 10) dX3_lookFrom_69 (by decide) ?_
  refine aw_aload_n dX3_lookFrom_71 rfl 2 rfl ?_
  refine aw_getR cf_X2 11 (by decide) rfl wd_73 o_a1 dX3_lookFrom_72 ?_
  refine aw_iload_n dX3_lookFrom_75 rfl 4 rfl ?_
  obtain ⟨z20, H⟩ := H
  refine aw_iaload z20 dX3_lookFrom_76 ?_
  refine aw_name (fun v21 e_v21 => ?_)
  replace H := H v21 e_v21
  obtain ⟨z22, H⟩ := H
  refine aw_iastore z22 dX3_lookFrom_77 ?_
  refine aw_nameH (fun h23 e_h23 => ?_)
  replace H := H h23 e_h23
  refine aw_aload_n dX3_lookFrom_78 rfl 1 rfl ?_
  refine aw_getR cf_X3 7 (by decide) rfl wd_175 o_k dX3_lookFrom_79 ?_
  refine aw_bipush (v := 11) dX3_lookFrom_82 (by decide) ?_
  refine aw_aload_n dX3_lookFrom_84 rfl 2 rfl ?_
  refine aw_iload dX3_lookFrom_85 0 rfl ?_
  refine aw_callV_i (As := [.int v2]) (rest := [.int 11, .ref (G.2.1 (gR h23 k 7))]) (am_X2_groupsNear d o_a1 H) mf_X2_groupsNear wd_718 wd_719 wd_720 cf_X2 o_a1 rfl rfl (Nat.le_of_ble_eq_true rfl) dX3_lookFrom_87 (fun r25 h24 H => ?_)
  obtain ⟨z26, H⟩ := H
  refine aw_iastore z26 dX3_lookFrom_90 ?_
  refine aw_nameH (fun h27 e_h27 => ?_)
  replace H := H h27 e_h27
  exact aw_vret rfl H dX3_lookFrom_91
set_option maxHeartbeats 4000000 in
set_option maxRecDepth 100000 in
theorem am_X4_handOver {l : Launch} {S : aS} {G : aG} (d : Nat) {k : Nat} {a1 : Nat} {h : aH} {Q : Nat → aH → Prop} (o_k : aObj S k 3 flX4) (o_a1 : aObj S a1 2 flX3) (H : f_X4_handOver S k a1 h Q) : AMr l S G d M_X4_handOver [.ref (G.2.1 k), .ref (G.2.1 a1)] h Q := by
  unfold f_X4_handOver at H
  refine am_of mf_X4_handOver (Nat.le_of_ble_eq_true rfl) (lv0 := [(0, .ref (G.2.1 k)), (1, .ref (G.2.1 a1))]) rfl ?_
  refine aw_aload_n dX4_handOver_0 rfl 0 rfl ?_
  refine aw_getR cf_X4 1 (by decide) rfl wd_216 o_k dX4_handOver_1 ?_
  refine aw_astore_n (lv' := [(2, .ref (G.2.1 (gR h k 1))), (0, .ref (G.2.1 k)), (1, .ref (G.2.1 a1))]) dX4_handOver_4 rfl (by decide) rfl ?_
  refine aw_aload_n dX4_handOver_5 rfl 1 rfl ?_
  refine aw_aload_n dX4_handOver_6 rfl 2 rfl ?_
  refine aw_putR cf_X4 1 (by decide) rfl wd_216 rfl rfl rfl o_k dX4_handOver_7 ?_
  refine aw_nameH (fun h1 e_h1 => ?_)
  replace H := H h1 e_h1
  refine aw_aload_n dX4_handOver_10 rfl 0 rfl ?_
  exact aw_aret rfl H dX4_handOver_11
set_option maxHeartbeats 4000000 in
set_option maxRecDepth 100000 in
theorem am_X4_next {l : Launch} {S : aS} {G : aG} (d : Nat) {k : Nat} {h : aH} {Q : Int32 → aH → Prop} (o_k : aObj S k 3 flX4) (H : f_X4_next S k h Q) : AMi l S G d M_X4_next [.ref (G.2.1 k)] h Q := by
  unfold f_X4_next at H
  refine am_of mf_X4_next (Nat.le_of_ble_eq_true rfl) (lv0 := [(0, .ref (G.2.1 k))]) rfl ?_
  refine aw_aload_n dX4_next_0 rfl 0 rfl ?_
  refine aw_getI cf_X4 3 (by decide) rfl wd_218 o_k dX4_next_1 ?_
  refine aw_name (fun v1 e_v1 => ?_)
  replace H := H v1 e_v1
  refine aw_if_lt (tgt := 48) dX4_next_4 (by decide) (fun c2 => ?_) (fun c2 => ?_)
  · replace H := a_pos c2 H
    refine aw_iconst (v := (-1)) dX4_next_48 (by decide) ?_
    exact aw_iret rfl H dX4_next_49
  · replace H := a_neg c2 H
    refine aw_aload_n dX4_next_7 rfl 0 rfl ?_
    refine aw_getI cf_X4 3 (by decide) rfl wd_218 o_k dX4_next_8 ?_
    refine aw_name (fun v3 e_v3 => ?_)
    replace H := H v3 e_v3
    refine aw_aload_n dX4_next_11 rfl 0 rfl ?_
    refine aw_getI cf_X4 2 (by decide) rfl wd_217 o_k dX4_next_12 ?_
    refine aw_name (fun v4 e_v4 => ?_)
    replace H := H v4 e_v4
    refine aw_icmp_ge (tgt := 48) dX4_next_15 (by decide) (fun c5 => ?_) (fun c5 => ?_)
    · replace H := a_pos c5 H
      refine aw_iconst (v := (-1)) dX4_next_48 (by decide) ?_
      exact aw_iret rfl H dX4_next_49
    · replace H := a_neg c5 H
      refine aw_aload_n dX4_next_18 rfl 0 rfl ?_
      refine aw_getI cf_X4 3 (by decide) rfl wd_218 o_k dX4_next_19 ?_
      refine aw_name (fun v6 e_v6 => ?_)
      replace H := H v6 e_v6
      refine aw_aload_n dX4_next_22 rfl 0 rfl ?_
      refine aw_getR cf_X4 0 (by decide) rfl wd_215 o_k dX4_next_23 ?_
      obtain ⟨o7, H⟩ := H
      refine aw_getR cf_X8 0 (by decide) rfl wd_123 o7 dX4_next_26 ?_
      obtain ⟨n8, z9, z10, H⟩ := H
      refine aw_alen z9 z10 dX4_next_29 ?_
      refine aw_name (fun v11 e_v11 => ?_)
      replace H := H v11 e_v11
      refine aw_icmp_ge (tgt := 48) dX4_next_30 (by decide) (fun c12 => ?_) (fun c12 => ?_)
      · replace H := a_pos c12 H
        refine aw_iconst (v := (-1)) dX4_next_48 (by decide) ?_
        exact aw_iret rfl H dX4_next_49
      · replace H := a_neg c12 H
        refine aw_aload_n dX4_next_33 rfl 0 rfl ?_
        refine aw_getR cf_X4 0 (by decide) rfl wd_215 o_k dX4_next_34 ?_
        refine aw_getR cf_X8 0 (by decide) rfl wd_123 o7 dX4_next_37 ?_
        refine aw_aload_n dX4_next_40 rfl 0 rfl ?_
        refine aw_getI cf_X4 3 (by decide) rfl wd_218 o_k dX4_next_41 ?_
        refine aw_name (fun v13 e_v13 => ?_)
        replace H := H v13 e_v13
        obtain ⟨z14, H⟩ := H
        refine aw_iaload z14 dX4_next_44 ?_
        refine aw_name (fun v15 e_v15 => ?_)
        replace H := H v15 e_v15
        refine aw_goto (tgt := 49) dX4_next_45 (by decide) ?_
        exact aw_iret rfl H dX4_next_49
set_option maxHeartbeats 4000000 in
set_option maxRecDepth 100000 in
theorem am_X4_blame {l : Launch} {S : aS} {G : aG} (d : Nat) {k : Nat} {a1 : Int32} {h : aH} {Q : aH → Prop} (o_k : aObj S k 3 flX4) (H : f_X4_blame S k a1 h Q) : AMv l S G d M_X4_blame [.ref (G.2.1 k), .int a1] h Q := by
  unfold f_X4_blame at H
  refine am_of mf_X4_blame (Nat.le_of_ble_eq_true rfl) (lv0 := [(0, .ref (G.2.1 k)), (1, .int a1)]) rfl ?_
  refine aw_aload_n dX4_blame_0 rfl 0 rfl ?_
  refine aw_getI cf_X4 4 (by decide) rfl wd_219 o_k dX4_blame_1 ?_
  refine aw_name (fun v1 e_v1 => ?_)
  replace H := H v1 e_v1
  refine aw_if_ne (tgt := 21) dX4_blame_4 (by decide) (fun c2 => ?_) (fun c2 => ?_)
  · replace H := a_pos c2 H
    exact aw_vret rfl H dX4_blame_21
  · replace H := a_neg2 c2 H
    refine aw_aload_n dX4_blame_7 rfl 0 rfl ?_
    refine aw_sipush (v := (-1000)) dX4_blame_8 (by decide) ?_
    refine aw_iload_n dX4_blame_11 rfl 1 rfl ?_
    refine aw_imul dX4_blame_12 ?_
    refine aw_aload_n dX4_blame_13 rfl 0 rfl ?_
    refine aw_getI cf_X4 3 (by decide) rfl wd_218 o_k dX4_blame_14 ?_
    refine aw_name (fun v3 e_v3 => ?_)
    replace H := H v3 e_v3
    refine aw_isub dX4_blame_17 ?_
    refine aw_putI cf_X4 4 (by decide) rfl wd_219 rfl rfl rfl o_k dX4_blame_18 ?_
    refine aw_nameH (fun h4 e_h4 => ?_)
    replace H := H h4 e_h4
    exact aw_vret rfl H dX4_blame_21
set_option maxHeartbeats 4000000 in
set_option maxRecDepth 100000 in
theorem fm_X4_letterOfClause_37 {l : Launch} {S : aS} {G : aG} (d : Nat) {k : Nat} {a1 : Int32} {Q : aH → Prop} (o_k : aObj S k 3 flX4) (x2 : Int32) (h : aH) (H : f_X4_letterOfClause_37 S k a1 Q x2 h) : AW l S G (d + 1) M_X4_letterOfClause (va_Qv Q (aPo S G) (aA S G)) 37 [(0, .ref (G.2.1 k)), (1, .int a1), (2, .int x2)] [] h := by
  unfold f_X4_letterOfClause_37 at H
  refine aw_iload_n dX4_letterOfClause_37 rfl 1 rfl ?_
  refine aw_bipush (v := 14) dX4_letterOfClause_38 (by decide) ?_
  refine aw_icmp_lt (tgt := 48) dX4_letterOfClause_40 (by decide) (fun c1 => ?_) (fun c1 => ?_)
  · replace H := a_pos c1 H
    refine aw_aload_n dX4_letterOfClause_48 rfl 0 rfl ?_
    refine aw_getI cf_X4 4 (by decide) rfl wd_219 o_k dX4_letterOfClause_49 ?_
    refine aw_name (fun v2 e_v2 => ?_)
    replace H := H v2 e_v2
    refine aw_if_ne (tgt := 73) dX4_letterOfClause_52 (by decide) (fun c3 => ?_) (fun c3 => ?_)
    · replace H := a_pos c3 H
      exact aw_vret rfl H dX4_letterOfClause_73
    · replace H := a_neg2 c3 H
      refine aw_aload_n dX4_letterOfClause_55 rfl 0 rfl ?_
      refine aw_dup dX4_letterOfClause_56 rfl ?_
      refine aw_getI cf_X4 3 (by decide) rfl wd_218 o_k dX4_letterOfClause_57 ?_
      refine aw_name (fun v4 e_v4 => ?_)
      replace H := H v4 e_v4
      refine aw_iconst (v := 1) dX4_letterOfClause_60 (by decide) ?_
      refine aw_iadd dX4_letterOfClause_61 ?_
      refine aw_putI cf_X4 3 (by decide) rfl wd_218 rfl rfl rfl o_k dX4_letterOfClause_62 ?_
      refine aw_nameH (fun h5 e_h5 => ?_)
      replace H := H h5 e_h5
      refine aw_aload_n dX4_letterOfClause_65 rfl 0 rfl ?_
      refine aw_getR cf_X4 1 (by decide) rfl wd_216 o_k dX4_letterOfClause_66 ?_
      refine aw_iload_n dX4_letterOfClause_69 rfl 2 rfl ?_
      obtain ⟨o6, H⟩ := H
      refine aw_callV_v (As := [.int x2]) (rest := []) (am_X3_beginClause d o6 H) mf_X3_beginClause wd_410 wd_411 wd_412 cf_X3 o6 rfl rfl (Nat.le_of_ble_eq_true rfl) dX4_letterOfClause_70 (fun h7 H => ?_)
      exact aw_vret rfl H dX4_letterOfClause_73
  · replace H := a_neg c1 H
    refine aw_aload_n dX4_letterOfClause_43 rfl 0 rfl ?_
    refine aw_iconst (v := 4) dX4_letterOfClause_44 (by decide) ?_
    refine aw_callV_v (As := [.int 4]) (rest := []) (am_X4_blame d o_k H) mf_X4_blame wd_406 wd_408 ws_1_3 cf_X4 o_k rfl rfl (Nat.le_of_ble_eq_true rfl) dX4_letterOfClause_45 (fun h8 H => ?_)
    refine aw_aload_n dX4_letterOfClause_48 rfl 0 rfl ?_
    refine aw_getI cf_X4 4 (by decide) rfl wd_219 o_k dX4_letterOfClause_49 ?_
    refine aw_name (fun v9 e_v9 => ?_)
    replace H := H v9 e_v9
    refine aw_if_ne (tgt := 73) dX4_letterOfClause_52 (by decide) (fun c10 => ?_) (fun c10 => ?_)
    · replace H := a_pos c10 H
      exact aw_vret rfl H dX4_letterOfClause_73
    · replace H := a_neg2 c10 H
      refine aw_aload_n dX4_letterOfClause_55 rfl 0 rfl ?_
      refine aw_dup dX4_letterOfClause_56 rfl ?_
      refine aw_getI cf_X4 3 (by decide) rfl wd_218 o_k dX4_letterOfClause_57 ?_
      refine aw_name (fun v11 e_v11 => ?_)
      replace H := H v11 e_v11
      refine aw_iconst (v := 1) dX4_letterOfClause_60 (by decide) ?_
      refine aw_iadd dX4_letterOfClause_61 ?_
      refine aw_putI cf_X4 3 (by decide) rfl wd_218 rfl rfl rfl o_k dX4_letterOfClause_62 ?_
      refine aw_nameH (fun h12 e_h12 => ?_)
      replace H := H h12 e_h12
      refine aw_aload_n dX4_letterOfClause_65 rfl 0 rfl ?_
      refine aw_getR cf_X4 1 (by decide) rfl wd_216 o_k dX4_letterOfClause_66 ?_
      refine aw_iload_n dX4_letterOfClause_69 rfl 2 rfl ?_
      obtain ⟨o13, H⟩ := H
      refine aw_callV_v (As := [.int x2]) (rest := []) (am_X3_beginClause d o13 H) mf_X3_beginClause wd_410 wd_411 wd_412 cf_X3 o13 rfl rfl (Nat.le_of_ble_eq_true rfl) dX4_letterOfClause_70 (fun h14 H => ?_)
      exact aw_vret rfl H dX4_letterOfClause_73
set_option maxHeartbeats 4000000 in
set_option maxRecDepth 100000 in
theorem am_X4_letterOfClause {l : Launch} {S : aS} {G : aG} (d : Nat) {k : Nat} {a1 : Int32} {h : aH} {Q : aH → Prop} (o_k : aObj S k 3 flX4) (H : f_X4_letterOfClause S k a1 h Q) : AMv l S G (d + 1) M_X4_letterOfClause [.ref (G.2.1 k), .int a1] h Q := by
  unfold f_X4_letterOfClause at H
  refine am_of mf_X4_letterOfClause (Nat.le_of_ble_eq_true rfl) (lv0 := [(0, .ref (G.2.1 k)), (1, .int a1)]) rfl ?_
  refine aw_aload_n dX4_letterOfClause_0 rfl 0 rfl ?_
  refine aw_callV_i (As := []) (rest := []) (am_X4_next d o_k H) mf_X4_next wd_402 wd_404 ws_1_2 cf_X4 o_k rfl rfl (Nat.le_of_ble_eq_true rfl) dX4_letterOfClause_1 (fun r16 h15 H => ?_)
  refine aw_istore_n (lv' := [(2, .int r16), (0, .ref (G.2.1 k)), (1, .int a1)]) dX4_letterOfClause_4 rfl (by decide) rfl ?_
  refine aw_iload_n dX4_letterOfClause_5 rfl 0 rfl ?_
  refine aw_bipush (v := 98) dX4_letterOfClause_6 (by decide) ?_
  refine aw_icmp_eq (tgt := 37) dX4_letterOfClause_8 (by decide) (fun c17 => ?_) (fun c17 => ?_)
  · replace H := a_pos c17 H
    refine aw_sub (lv' := [(0, .ref (G.2.1 k)), (1, .int a1), (2, .int r16)]) [1, 2, 0] rfl ?_
    exact fm_X4_letterOfClause_37 d o_k _ _ H
  · replace H := a_neg c17 H
    refine aw_iload_n dX4_letterOfClause_11 rfl 0 rfl ?_
    refine aw_bipush (v := 116) dX4_letterOfClause_12 (by decide) ?_
    refine aw_icmp_eq (tgt := 37) dX4_letterOfClause_14 (by decide) (fun c18 => ?_) (fun c18 => ?_)
    · replace H := a_pos c18 H
      refine aw_sub (lv' := [(0, .ref (G.2.1 k)), (1, .int a1), (2, .int r16)]) [1, 2, 0] rfl ?_
      exact fm_X4_letterOfClause_37 d o_k _ _ H
    · replace H := a_neg c18 H
      refine aw_iload_n dX4_letterOfClause_17 rfl 0 rfl ?_
      refine aw_bipush (v := 99) dX4_letterOfClause_18 (by decide) ?_
      refine aw_icmp_eq (tgt := 37) dX4_letterOfClause_20 (by decide) (fun c19 => ?_) (fun c19 => ?_)
      · replace H := a_pos c19 H
        refine aw_sub (lv' := [(0, .ref (G.2.1 k)), (1, .int a1), (2, .int r16)]) [1, 2, 0] rfl ?_
        exact fm_X4_letterOfClause_37 d o_k _ _ H
      · replace H := a_neg c19 H
        refine aw_iload_n dX4_letterOfClause_23 rfl 0 rfl ?_
        refine aw_bipush (v := 103) dX4_letterOfClause_24 (by decide) ?_
        refine aw_icmp_eq (tgt := 37) dX4_letterOfClause_26 (by decide) (fun c20 => ?_) (fun c20 => ?_)
        · replace H := a_pos c20 H
          refine aw_sub (lv' := [(0, .ref (G.2.1 k)), (1, .int a1), (2, .int r16)]) [1, 2, 0] rfl ?_
          exact fm_X4_letterOfClause_37 d o_k _ _ H
        · replace H := a_neg c20 H
          refine aw_aload_n dX4_letterOfClause_29 rfl 1 rfl ?_
          refine aw_iconst (v := 1) dX4_letterOfClause_30 (by decide) ?_
          refine aw_callV_v (As := [.int 1]) (rest := []) (am_X4_blame d o_k H) mf_X4_blame wd_406 wd_408 ws_1_3 cf_X4 o_k rfl rfl (Nat.le_of_ble_eq_true rfl) dX4_letterOfClause_31 (fun h21 H => ?_)
          refine aw_goto (tgt := 48) dX4_letterOfClause_34 (by decide) ?_
          refine aw_aload_n dX4_letterOfClause_48 rfl 1 rfl ?_
          refine aw_getI cf_X4 4 (by decide) rfl wd_219 o_k dX4_letterOfClause_49 ?_
          refine aw_name (fun v22 e_v22 => ?_)
          replace H := H v22 e_v22
          refine aw_if_ne (tgt := 73) dX4_letterOfClause_52 (by decide) (fun c23 => ?_) (fun c23 => ?_)
          · replace H := a_pos c23 H
            exact aw_vret rfl H dX4_letterOfClause_73
          · replace H := a_neg2 c23 H
            refine aw_aload_n dX4_letterOfClause_55 rfl 1 rfl ?_
            refine aw_dup dX4_letterOfClause_56 rfl ?_
            refine aw_getI cf_X4 3 (by decide) rfl wd_218 o_k dX4_letterOfClause_57 ?_
            refine aw_name (fun v24 e_v24 => ?_)
            replace H := H v24 e_v24
            refine aw_iconst (v := 1) dX4_letterOfClause_60 (by decide) ?_
            refine aw_iadd dX4_letterOfClause_61 ?_
            refine aw_putI cf_X4 3 (by decide) rfl wd_218 rfl rfl rfl o_k dX4_letterOfClause_62 ?_
            refine aw_nameH (fun h25 e_h25 => ?_)
            replace H := H h25 e_h25
            refine aw_aload_n dX4_letterOfClause_65 rfl 1 rfl ?_
            refine aw_getR cf_X4 1 (by decide) rfl wd_216 o_k dX4_letterOfClause_66 ?_
            refine aw_iload_n dX4_letterOfClause_69 rfl 0 rfl ?_
            obtain ⟨o26, H⟩ := H
            refine aw_callV_v (As := [.int r16]) (rest := []) (am_X3_beginClause d o26 H) mf_X3_beginClause wd_410 wd_411 wd_412 cf_X3 o26 rfl rfl (Nat.le_of_ble_eq_true rfl) dX4_letterOfClause_70 (fun h27 H => ?_)
            exact aw_vret rfl H dX4_letterOfClause_73
set_option maxHeartbeats 4000000 in
set_option maxRecDepth 100000 in
theorem am_X4_take {l : Launch} {S : aS} {G : aG} (d : Nat) {k : Nat} {a1 : Int32} {h : aH} {Q : aH → Prop} (o_k : aObj S k 3 flX4) (H : f_X4_take S k a1 h Q) : AMv l S G (d + 1) M_X4_take [.ref (G.2.1 k), .int a1] h Q := by
  unfold f_X4_take at H
  refine am_of mf_X4_take (Nat.le_of_ble_eq_true rfl) (lv0 := [(0, .ref (G.2.1 k)), (1, .int a1)]) rfl ?_
  refine aw_aload_n dX4_take_0 rfl 0 rfl ?_
  refine aw_callV_i (As := []) (rest := []) (am_X4_next d o_k H) mf_X4_next wd_402 wd_404 ws_1_2 cf_X4 o_k rfl rfl (Nat.le_of_ble_eq_true rfl) dX4_take_1 (fun r2 h1 H => ?_)
  refine aw_iload_n dX4_take_4 rfl 1 rfl ?_
  refine aw_icmp_eq (tgt := 13) dX4_take_5 (by decide) (fun c3 => ?_) (fun c3 => ?_)
  · replace H := a_pos c3 H
    refine aw_aload_n dX4_take_13 rfl 0 rfl ?_
    refine aw_getI cf_X4 4 (by decide) rfl wd_219 o_k dX4_take_14 ?_
    refine aw_name (fun v4 e_v4 => ?_)
    replace H := H v4 e_v4
    refine aw_if_ne (tgt := 30) dX4_take_17 (by decide) (fun c5 => ?_) (fun c5 => ?_)
    · replace H := a_pos c5 H
      exact aw_vret rfl H dX4_take_30
    · replace H := a_neg2 c5 H
      refine aw_aload_n dX4_take_20 rfl 0 rfl ?_
      refine aw_dup dX4_take_21 rfl ?_
      refine aw_getI cf_X4 3 (by decide) rfl wd_218 o_k dX4_take_22 ?_
      refine aw_name (fun v6 e_v6 => ?_)
      replace H := H v6 e_v6
      refine aw_iconst (v := 1) dX4_take_25 (by decide) ?_
      refine aw_iadd dX4_take_26 ?_
      refine aw_putI cf_X4 3 (by decide) rfl wd_218 rfl rfl rfl o_k dX4_take_27 ?_
      refine aw_nameH (fun h7 e_h7 => ?_)
      replace H := H h7 e_h7
      exact aw_vret rfl H dX4_take_30
  · replace H := a_neg c3 H
    refine aw_aload_n dX4_take_8 rfl 0 rfl ?_
    refine aw_iconst (v := 1) dX4_take_9 (by decide) ?_
    refine aw_callV_v (As := [.int 1]) (rest := []) (am_X4_blame d o_k H) mf_X4_blame wd_406 wd_408 ws_1_3 cf_X4 o_k rfl rfl (Nat.le_of_ble_eq_true rfl) dX4_take_10 (fun h8 H => ?_)
    refine aw_aload_n dX4_take_13 rfl 0 rfl ?_
    refine aw_getI cf_X4 4 (by decide) rfl wd_219 o_k dX4_take_14 ?_
    refine aw_name (fun v9 e_v9 => ?_)
    replace H := H v9 e_v9
    refine aw_if_ne (tgt := 30) dX4_take_17 (by decide) (fun c10 => ?_) (fun c10 => ?_)
    · replace H := a_pos c10 H
      exact aw_vret rfl H dX4_take_30
    · replace H := a_neg2 c10 H
      refine aw_aload_n dX4_take_20 rfl 0 rfl ?_
      refine aw_dup dX4_take_21 rfl ?_
      refine aw_getI cf_X4 3 (by decide) rfl wd_218 o_k dX4_take_22 ?_
      refine aw_name (fun v11 e_v11 => ?_)
      replace H := H v11 e_v11
      refine aw_iconst (v := 1) dX4_take_25 (by decide) ?_
      refine aw_iadd dX4_take_26 ?_
      refine aw_putI cf_X4 3 (by decide) rfl wd_218 rfl rfl rfl o_k dX4_take_27 ?_
      refine aw_nameH (fun h12 e_h12 => ?_)
      replace H := H h12 e_h12
      exact aw_vret rfl H dX4_take_30
set_option maxHeartbeats 4000000 in
set_option maxRecDepth 100000 in
theorem fm_X4_read_26 {l : Launch} {S : aS} {G : aG} (d : Nat) {k : Nat} {a1 : Int32} {Q : Int32 → aH → Prop} {F_X4_expression : Nat → Int32 → aH → (aH → Prop) → Prop} {F_X4_condition : Nat → Int32 → aH → (aH → Prop) → Prop} (hF_X4_expression : ∀ {k : Nat} {a1 : Int32} {h : aH} {Q : aH → Prop}, aObj S k 3 flX4 → F_X4_expression k a1 h Q → AMv l S G (d + 1) M_X4_expression [.ref (G.2.1 k), .int a1] h Q) (hF_X4_condition : ∀ {k : Nat} {a1 : Int32} {h : aH} {Q : aH → Prop}, aObj S k 3 flX4 → F_X4_condition k a1 h Q → AMv l S G (d + 1) M_X4_condition [.ref (G.2.1 k), .int a1] h Q) (o_k : aObj S k 3 flX4) : ∀ (n : Nat) (x2 : Int32) (x3 : Int32) (h : aH), f_X4_read_26 F_X4_expression F_X4_condition S k a1 Q n x2 x3 h → AW l S G (d + 2) M_X4_read (va_Qi Q (aPo S G) (aA S G)) 26 [(0, .ref (G.2.1 k)), (1, .int a1), (2, .int x2), (3, .int x3)] [] h := by
  intro n
  induction n with
  | zero => intro x2 x3 h H; exact False.elim H
  | succ n ih =>
    intro x2 x3 h H
    unfold f_X4_read_26 at H
    refine aw_iload_n dX4_read_26 rfl 3 rfl ?_
    refine aw_bipush (v := 14) dX4_read_27 (by decide) ?_
    refine aw_icmp_gt (tgt := 130) dX4_read_29 (by decide) (fun c1 => ?_) (fun c1 => ?_)
    · replace H := a_pos c1 H
      refine aw_aload_n dX4_read_130 rfl 0 rfl ?_
      refine aw_getI cf_X4 4 (by decide) rfl wd_219 o_k dX4_read_131 ?_
      refine aw_name (fun v2 e_v2 => ?_)
      replace H := H v2 e_v2
      exact aw_iret rfl H dX4_read_134
    · replace H := a_neg c1 H
      refine aw_iload_n dX4_read_32 rfl 2 rfl ?_
      refine aw_if_eq (tgt := 130) dX4_read_33 (by decide) (fun c3 => ?_) (fun c3 => ?_)
      · replace H := a_pos c3 H
        refine aw_aload_n dX4_read_130 rfl 0 rfl ?_
        refine aw_getI cf_X4 4 (by decide) rfl wd_219 o_k dX4_read_131 ?_
        refine aw_name (fun v4 e_v4 => ?_)
        replace H := H v4 e_v4
        exact aw_iret rfl H dX4_read_134
      · replace H := a_neg c3 H
        refine aw_aload_n dX4_read_36 rfl 0 rfl ?_
        refine aw_iload_n dX4_read_37 rfl 3 rfl ?_
        refine aw_callV_v (As := [.int x3]) (rest := []) (am_X4_letterOfClause d o_k H) mf_X4_letterOfClause wd_398 wd_400 ws_1_1 cf_X4 o_k rfl rfl (Nat.le_of_ble_eq_true rfl) dX4_read_38 (fun h5 H => ?_)
        refine aw_aload_n dX4_read_41 rfl 0 rfl ?_
        refine aw_iconst (v := 0) dX4_read_42 (by decide) ?_
        refine aw_callV_v (As := [.int 0]) (rest := []) (hF_X4_expression o_k H) mf_X4_expression wd_414 wd_416 ws_1_4 cf_X4 o_k rfl rfl (Nat.le_of_ble_eq_true rfl) dX4_read_43 (fun h6 H => ?_)
        refine aw_aload_n dX4_read_46 rfl 0 rfl ?_
        refine aw_bipush (v := 40) dX4_read_47 (by decide) ?_
        refine aw_callV_v (As := [.int 40]) (rest := []) (am_X4_take d o_k H) mf_X4_take wd_437 wd_439 ws_1_8 cf_X4 o_k rfl rfl (Nat.le_of_ble_eq_true rfl) dX4_read_49 (fun h7 H => ?_)
        refine aw_aload_n dX4_read_52 rfl 0 rfl ?_
        refine aw_getR cf_X4 1 (by decide) rfl wd_216 o_k dX4_read_53 ?_
        refine aw_iconst (v := 0) dX4_read_56 (by decide) ?_
        refine aw_iconst (v := 0) dX4_read_57 (by decide) ?_
        obtain ⟨o8, H⟩ := H
        refine aw_callV_i (As := [.int 0, .int 0]) (rest := []) (am_X3_put (d + 1) o8 H) mf_X3_put wd_429 wd_430 wd_431 cf_X3 o8 rfl rfl (Nat.le_of_ble_eq_true rfl) dX4_read_58 (fun r10 h9 H => ?_)
        refine aw_pop dX4_read_61 rfl ?_
        refine aw_aload_n dX4_read_62 rfl 0 rfl ?_
        refine aw_getR cf_X4 1 (by decide) rfl wd_216 o_k dX4_read_63 ?_
        obtain ⟨o11, H⟩ := H
        refine aw_callV_v (As := []) (rest := []) (am_X3_beginCondition (d + 1) o11 H) mf_X3_beginCondition wd_532 wd_533 wd_534 cf_X3 o11 rfl rfl (Nat.le_of_ble_eq_true rfl) dX4_read_66 (fun h12 H => ?_)
        refine aw_aload_n dX4_read_69 rfl 0 rfl ?_
        refine aw_iconst (v := 1) dX4_read_70 (by decide) ?_
        refine aw_callV_v (As := [.int 1]) (rest := []) (hF_X4_condition o_k H) mf_X4_condition wd_536 wd_538 ws_1_10 cf_X4 o_k rfl rfl (Nat.le_of_ble_eq_true rfl) dX4_read_71 (fun h13 H => ?_)
        refine aw_aload_n dX4_read_74 rfl 0 rfl ?_
        refine aw_bipush (v := 41) dX4_read_75 (by decide) ?_
        refine aw_callV_v (As := [.int 41]) (rest := []) (am_X4_take d o_k H) mf_X4_take wd_437 wd_439 ws_1_8 cf_X4 o_k rfl rfl (Nat.le_of_ble_eq_true rfl) dX4_read_77 (fun h14 H => ?_)
        refine aw_aload_n dX4_read_80 rfl 0 rfl ?_
        refine aw_getR cf_X4 1 (by decide) rfl wd_216 o_k dX4_read_81 ?_
        refine aw_iconst (v := 0) dX4_read_84 (by decide) ?_
        refine aw_iconst (v := 0) dX4_read_85 (by decide) ?_
        obtain ⟨o15, H⟩ := H
        refine aw_callV_i (As := [.int 0, .int 0]) (rest := []) (am_X3_put (d + 1) o15 H) mf_X3_put wd_429 wd_430 wd_431 cf_X3 o15 rfl rfl (Nat.le_of_ble_eq_true rfl) dX4_read_86 (fun r17 h16 H => ?_)
        refine aw_pop dX4_read_89 rfl ?_
        refine aw_aload_n dX4_read_90 rfl 0 rfl ?_
        refine aw_getI cf_X4 4 (by decide) rfl wd_219 o_k dX4_read_91 ?_
        refine aw_name (fun v18 e_v18 => ?_)
        replace H := H v18 e_v18
        refine aw_if_ne (tgt := 112) dX4_read_94 (by decide) (fun c19 => ?_) (fun c19 => ?_)
        · replace H := a_pos c19 H
          refine aw_iconst (v := 0) dX4_read_112 (by decide) ?_
          refine aw_istore_n (lv' := [(2, .int 0), (0, .ref (G.2.1 k)), (1, .int a1), (3, .int x3)]) dX4_read_113 rfl (by decide) rfl ?_
          refine aw_iload_n dX4_read_114 rfl 0 rfl ?_
          refine aw_if_eq (tgt := 124) dX4_read_115 (by decide) (fun c20 => ?_) (fun c20 => ?_)
          · replace H := a_pos c20 H
            obtain ⟨x3_21, e_x3_21⟩ : ∃ y : Int32, y = x3 + 1 := ⟨_, rfl⟩
            replace H := H x3_21 e_x3_21
            refine aw_iinc (v := x3_21) (lv' := [(3, .int x3_21), (2, .int 0), (0, .ref (G.2.1 k)), (1, .int a1)]) dX4_read_124 (n0 := 3) rfl (by rw [e_x3_21]; rfl) (by decide) rfl ?_
            refine aw_goto (tgt := 26) dX4_read_127 (by decide) ?_
            refine aw_sub (lv' := [(0, .ref (G.2.1 k)), (1, .int a1), (2, .int 0), (3, .int x3_21)]) [2, 3, 1, 0] rfl ?_
            exact ih _ _ _ H
          · replace H := a_neg c20 H
            refine aw_aload_n dX4_read_118 rfl 1 rfl ?_
            refine aw_bipush (v := 59) dX4_read_119 (by decide) ?_
            refine aw_callV_v (As := [.int 59]) (rest := []) (am_X4_take d o_k H) mf_X4_take wd_437 wd_439 ws_1_8 cf_X4 o_k rfl rfl (Nat.le_of_ble_eq_true rfl) dX4_read_121 (fun h22 H => ?_)
            obtain ⟨x3_23, e_x3_23⟩ : ∃ y : Int32, y = x3 + 1 := ⟨_, rfl⟩
            replace H := H x3_23 e_x3_23
            refine aw_iinc (v := x3_23) (lv' := [(3, .int x3_23), (2, .int 0), (0, .ref (G.2.1 k)), (1, .int a1)]) dX4_read_124 (n0 := 3) rfl (by rw [e_x3_23]; rfl) (by decide) rfl ?_
            refine aw_goto (tgt := 26) dX4_read_127 (by decide) ?_
            refine aw_sub (lv' := [(0, .ref (G.2.1 k)), (1, .int a1), (2, .int 0), (3, .int x3_23)]) [2, 3, 1, 0] rfl ?_
            exact ih _ _ _ H
        · replace H := a_neg2 c19 H
          refine aw_aload_n dX4_read_97 rfl 0 rfl ?_
          refine aw_getI cf_X4 3 (by decide) rfl wd_218 o_k dX4_read_98 ?_
          refine aw_name (fun v24 e_v24 => ?_)
          replace H := H v24 e_v24
          refine aw_aload_n dX4_read_101 rfl 0 rfl ?_
          refine aw_getI cf_X4 2 (by decide) rfl wd_217 o_k dX4_read_102 ?_
          refine aw_name (fun v25 e_v25 => ?_)
          replace H := H v25 e_v25
          refine aw_icmp_ge (tgt := 112) dX4_read_105 (by decide) (fun c26 => ?_) (fun c26 => ?_)
          · replace H := a_pos c26 H
            refine aw_iconst (v := 0) dX4_read_112 (by decide) ?_
            refine aw_istore_n (lv' := [(2, .int 0), (0, .ref (G.2.1 k)), (1, .int a1), (3, .int x3)]) dX4_read_113 rfl (by decide) rfl ?_
            refine aw_iload_n dX4_read_114 rfl 0 rfl ?_
            refine aw_if_eq (tgt := 124) dX4_read_115 (by decide) (fun c27 => ?_) (fun c27 => ?_)
            · replace H := a_pos c27 H
              obtain ⟨x3_28, e_x3_28⟩ : ∃ y : Int32, y = x3 + 1 := ⟨_, rfl⟩
              replace H := H x3_28 e_x3_28
              refine aw_iinc (v := x3_28) (lv' := [(3, .int x3_28), (2, .int 0), (0, .ref (G.2.1 k)), (1, .int a1)]) dX4_read_124 (n0 := 3) rfl (by rw [e_x3_28]; rfl) (by decide) rfl ?_
              refine aw_goto (tgt := 26) dX4_read_127 (by decide) ?_
              refine aw_sub (lv' := [(0, .ref (G.2.1 k)), (1, .int a1), (2, .int 0), (3, .int x3_28)]) [2, 3, 1, 0] rfl ?_
              exact ih _ _ _ H
            · replace H := a_neg c27 H
              refine aw_aload_n dX4_read_118 rfl 1 rfl ?_
              refine aw_bipush (v := 59) dX4_read_119 (by decide) ?_
              refine aw_callV_v (As := [.int 59]) (rest := []) (am_X4_take d o_k H) mf_X4_take wd_437 wd_439 ws_1_8 cf_X4 o_k rfl rfl (Nat.le_of_ble_eq_true rfl) dX4_read_121 (fun h29 H => ?_)
              obtain ⟨x3_30, e_x3_30⟩ : ∃ y : Int32, y = x3 + 1 := ⟨_, rfl⟩
              replace H := H x3_30 e_x3_30
              refine aw_iinc (v := x3_30) (lv' := [(3, .int x3_30), (2, .int 0), (0, .ref (G.2.1 k)), (1, .int a1)]) dX4_read_124 (n0 := 3) rfl (by rw [e_x3_30]; rfl) (by decide) rfl ?_
              refine aw_goto (tgt := 26) dX4_read_127 (by decide) ?_
              refine aw_sub (lv' := [(0, .ref (G.2.1 k)), (1, .int a1), (2, .int 0), (3, .int x3_30)]) [2, 3, 1, 0] rfl ?_
              exact ih _ _ _ H
          · replace H := a_neg c26 H
            refine aw_iconst (v := 1) dX4_read_108 (by decide) ?_
            refine aw_goto (tgt := 113) dX4_read_109 (by decide) ?_
            refine aw_istore_n (lv' := [(2, .int 1), (0, .ref (G.2.1 k)), (1, .int a1), (3, .int x3)]) dX4_read_113 rfl (by decide) rfl ?_
            refine aw_iload_n dX4_read_114 rfl 0 rfl ?_
            refine aw_if_eq (tgt := 124) dX4_read_115 (by decide) (fun c31 => ?_) (fun c31 => ?_)
            · replace H := a_pos c31 H
              obtain ⟨x3_32, e_x3_32⟩ : ∃ y : Int32, y = x3 + 1 := ⟨_, rfl⟩
              replace H := H x3_32 e_x3_32
              refine aw_iinc (v := x3_32) (lv' := [(3, .int x3_32), (2, .int 1), (0, .ref (G.2.1 k)), (1, .int a1)]) dX4_read_124 (n0 := 3) rfl (by rw [e_x3_32]; rfl) (by decide) rfl ?_
              refine aw_goto (tgt := 26) dX4_read_127 (by decide) ?_
              refine aw_sub (lv' := [(0, .ref (G.2.1 k)), (1, .int a1), (2, .int 1), (3, .int x3_32)]) [2, 3, 1, 0] rfl ?_
              exact ih _ _ _ H
            · replace H := a_neg c31 H
              refine aw_aload_n dX4_read_118 rfl 1 rfl ?_
              refine aw_bipush (v := 59) dX4_read_119 (by decide) ?_
              refine aw_callV_v (As := [.int 59]) (rest := []) (am_X4_take d o_k H) mf_X4_take wd_437 wd_439 ws_1_8 cf_X4 o_k rfl rfl (Nat.le_of_ble_eq_true rfl) dX4_read_121 (fun h33 H => ?_)
              obtain ⟨x3_34, e_x3_34⟩ : ∃ y : Int32, y = x3 + 1 := ⟨_, rfl⟩
              replace H := H x3_34 e_x3_34
              refine aw_iinc (v := x3_34) (lv' := [(3, .int x3_34), (2, .int 1), (0, .ref (G.2.1 k)), (1, .int a1)]) dX4_read_124 (n0 := 3) rfl (by rw [e_x3_34]; rfl) (by decide) rfl ?_
              refine aw_goto (tgt := 26) dX4_read_127 (by decide) ?_
              refine aw_sub (lv' := [(0, .ref (G.2.1 k)), (1, .int a1), (2, .int 1), (3, .int x3_34)]) [2, 3, 1, 0] rfl ?_
              exact ih _ _ _ H
set_option maxHeartbeats 4000000 in
set_option maxRecDepth 100000 in
theorem am_X4_read {l : Launch} {S : aS} {G : aG} (d : Nat) {k : Nat} {a1 : Int32} {h : aH} {Q : Int32 → aH → Prop} {F_X4_expression : Nat → Int32 → aH → (aH → Prop) → Prop} {F_X4_condition : Nat → Int32 → aH → (aH → Prop) → Prop} (hF_X4_expression : ∀ {k : Nat} {a1 : Int32} {h : aH} {Q : aH → Prop}, aObj S k 3 flX4 → F_X4_expression k a1 h Q → AMv l S G (d + 1) M_X4_expression [.ref (G.2.1 k), .int a1] h Q) (hF_X4_condition : ∀ {k : Nat} {a1 : Int32} {h : aH} {Q : aH → Prop}, aObj S k 3 flX4 → F_X4_condition k a1 h Q → AMv l S G (d + 1) M_X4_condition [.ref (G.2.1 k), .int a1] h Q) (o_k : aObj S k 3 flX4) (H : f_X4_read F_X4_expression F_X4_condition S k a1 h Q) : AMi l S G (d + 2) M_X4_read [.ref (G.2.1 k), .int a1] h Q := by
  unfold f_X4_read at H
  refine am_of mf_X4_read (Nat.le_of_ble_eq_true rfl) (lv0 := [(0, .ref (G.2.1 k)), (1, .int a1)]) rfl ?_
  refine aw_aload_n dX4_read_0 rfl 0 rfl ?_
  refine aw_iload_n dX4_read_1 rfl 1 rfl ?_
  refine aw_putI cf_X4 2 (by decide) rfl wd_217 rfl rfl rfl o_k dX4_read_2 ?_
  refine aw_nameH (fun h35 e_h35 => ?_)
  replace H := H h35 e_h35
  refine aw_aload_n dX4_read_5 rfl 0 rfl ?_
  refine aw_iconst (v := 0) dX4_read_6 (by decide) ?_
  refine aw_putI cf_X4 3 (by decide) rfl wd_218 rfl rfl rfl o_k dX4_read_7 ?_
  refine aw_nameH (fun h36 e_h36 => ?_)
  replace H := H h36 e_h36
  refine aw_aload_n dX4_read_10 rfl 0 rfl ?_
  refine aw_iconst (v := 0) dX4_read_11 (by decide) ?_
  refine aw_putI cf_X4 4 (by decide) rfl wd_219 rfl rfl rfl o_k dX4_read_12 ?_
  refine aw_nameH (fun h37 e_h37 => ?_)
  replace H := H h37 e_h37
  refine aw_aload_n dX4_read_15 rfl 0 rfl ?_
  refine aw_getR cf_X4 1 (by decide) rfl wd_216 o_k dX4_read_16 ?_
  obtain ⟨o38, H⟩ := H
  refine aw_callV_v (As := []) (rest := []) (am_X3_clear (d + 1) o38 H) mf_X3_clear wd_394 wd_395 wd_396 cf_X3 o38 rfl rfl (Nat.le_of_ble_eq_true rfl) dX4_read_19 (fun h39 H => ?_)
  refine aw_iconst (v := 1) dX4_read_22 (by decide) ?_
  refine aw_istore_n (lv' := [(2, .int 1), (0, .ref (G.2.1 k)), (1, .int a1)]) dX4_read_23 rfl (by decide) rfl ?_
  refine aw_iconst (v := 0) dX4_read_24 (by decide) ?_
  refine aw_istore_n (lv' := [(3, .int 0), (2, .int 1), (0, .ref (G.2.1 k)), (1, .int a1)]) dX4_read_25 rfl (by decide) rfl ?_
  refine aw_sub (lv' := [(0, .ref (G.2.1 k)), (1, .int a1), (2, .int 1), (3, .int 0)]) [2, 3, 1, 0] rfl ?_
  obtain ⟨n1, H⟩ := H
  exact fm_X4_read_26 d hF_X4_expression hF_X4_condition o_k n1 _ _ _ H
set_option maxHeartbeats 4000000 in
set_option maxRecDepth 100000 in
theorem fm_X4_condition_12 {l : Launch} {S : aS} {G : aG} (d : Nat) {k : Nat} {a1 : Int32} {Q : aH → Prop} {F_X4_piece : Nat → Int32 → aH → (aH → Prop) → Prop} (hF_X4_piece : ∀ {k : Nat} {a1 : Int32} {h : aH} {Q : aH → Prop}, aObj S k 3 flX4 → F_X4_piece k a1 h Q → AMv l S G d M_X4_piece [.ref (G.2.1 k), .int a1] h Q) (o_k : aObj S k 3 flX4) : ∀ (n : Nat) (x2 : Int32) (x3 : Int32) (x4 : Int32) (h : aH), f_X4_condition_12 F_X4_piece S k a1 Q n x2 x3 x4 h → AW l S G (d + 1) M_X4_condition (va_Qv Q (aPo S G) (aA S G)) 12 [(0, .ref (G.2.1 k)), (1, .int a1), (2, .int x2), (3, .int x3), (4, .int x4)] [] h := by
  intro n
  induction n with
  | zero => intro x2 x3 x4 h H; exact False.elim H
  | succ n ih =>
    intro x2 x3 x4 h H
    unfold f_X4_condition_12 at H
    refine aw_iload dX4_condition_12 4 rfl ?_
    refine aw_aload_n dX4_condition_14 rfl 0 rfl ?_
    refine aw_getI cf_X4 2 (by decide) rfl wd_217 o_k dX4_condition_15 ?_
    refine aw_name (fun v1 e_v1 => ?_)
    replace H := H v1 e_v1
    refine aw_icmp_ge (tgt := 102) dX4_condition_18 (by decide) (fun c2 => ?_) (fun c2 => ?_)
    · replace H := a_pos c2 H
      refine aw_aload_n dX4_condition_102 rfl 0 rfl ?_
      refine aw_getR cf_X4 1 (by decide) rfl wd_216 o_k dX4_condition_103 ?_
      refine aw_iload_n dX4_condition_106 rfl 2 rfl ?_
      obtain ⟨o3, H⟩ := H
      refine aw_callV_v (As := [.int x2]) (rest := []) (am_X3_landHere d o3 H) mf_X3_landHere wd_544 wd_545 wd_546 cf_X3 o3 rfl rfl (Nat.le_of_ble_eq_true rfl) dX4_condition_107 (fun h4 H => ?_)
      refine aw_aload_n dX4_condition_110 rfl 0 rfl ?_
      refine aw_getR cf_X4 1 (by decide) rfl wd_216 o_k dX4_condition_111 ?_
      refine aw_iload_n dX4_condition_114 rfl 3 rfl ?_
      obtain ⟨o5, H⟩ := H
      refine aw_callV_v (As := [.int x3]) (rest := []) (am_X3_landHere d o5 H) mf_X3_landHere wd_544 wd_545 wd_546 cf_X3 o5 rfl rfl (Nat.le_of_ble_eq_true rfl) dX4_condition_115 (fun h6 H => ?_)
      exact aw_vret rfl H dX4_condition_118
    · replace H := a_neg c2 H
      refine aw_aload_n dX4_condition_21 rfl 0 rfl ?_
      refine aw_getI cf_X4 4 (by decide) rfl wd_219 o_k dX4_condition_22 ?_
      refine aw_name (fun v7 e_v7 => ?_)
      replace H := H v7 e_v7
      refine aw_if_ne (tgt := 102) dX4_condition_25 (by decide) (fun c8 => ?_) (fun c8 => ?_)
      · replace H := a_pos c8 H
        refine aw_aload_n dX4_condition_102 rfl 0 rfl ?_
        refine aw_getR cf_X4 1 (by decide) rfl wd_216 o_k dX4_condition_103 ?_
        refine aw_iload_n dX4_condition_106 rfl 2 rfl ?_
        obtain ⟨o9, H⟩ := H
        refine aw_callV_v (As := [.int x2]) (rest := []) (am_X3_landHere d o9 H) mf_X3_landHere wd_544 wd_545 wd_546 cf_X3 o9 rfl rfl (Nat.le_of_ble_eq_true rfl) dX4_condition_107 (fun h10 H => ?_)
        refine aw_aload_n dX4_condition_110 rfl 0 rfl ?_
        refine aw_getR cf_X4 1 (by decide) rfl wd_216 o_k dX4_condition_111 ?_
        refine aw_iload_n dX4_condition_114 rfl 3 rfl ?_
        obtain ⟨o11, H⟩ := H
        refine aw_callV_v (As := [.int x3]) (rest := []) (am_X3_landHere d o11 H) mf_X3_landHere wd_544 wd_545 wd_546 cf_X3 o11 rfl rfl (Nat.le_of_ble_eq_true rfl) dX4_condition_115 (fun h12 H => ?_)
        exact aw_vret rfl H dX4_condition_118
      · replace H := a_neg2 c8 H
        refine aw_aload_n dX4_condition_28 rfl 0 rfl ?_
        refine aw_callV_i (As := []) (rest := []) (am_X4_next d o_k H) mf_X4_next wd_402 wd_404 ws_1_2 cf_X4 o_k rfl rfl (Nat.le_of_ble_eq_true rfl) dX4_condition_29 (fun r14 h13 H => ?_)
        refine aw_istore (lv' := [(5, .int r14), (0, .ref (G.2.1 k)), (1, .int a1), (2, .int x2), (3, .int x3), (4, .int x4)]) dX4_condition_32 (by decide) rfl ?_
        refine aw_iload dX4_condition_34 0 rfl ?_
        refine aw_bipush (v := 38) dX4_condition_36 (by decide) ?_
        refine aw_icmp_ne (tgt := 54) dX4_condition_38 (by decide) (fun c15 => ?_) (fun c15 => ?_)
        · replace H := a_pos c15 H
          refine aw_iload dX4_condition_54 0 rfl ?_
          refine aw_bipush (v := 124) dX4_condition_56 (by decide) ?_
          refine aw_icmp_ne (tgt := 102) dX4_condition_58 (by decide) (fun c16 => ?_) (fun c16 => ?_)
          · replace H := a_pos c16 H
            refine aw_aload_n dX4_condition_102 rfl 1 rfl ?_
            refine aw_getR cf_X4 1 (by decide) rfl wd_216 o_k dX4_condition_103 ?_
            refine aw_iload_n dX4_condition_106 rfl 3 rfl ?_
            obtain ⟨o17, H⟩ := H
            refine aw_callV_v (As := [.int x2]) (rest := []) (am_X3_landHere d o17 H) mf_X3_landHere wd_544 wd_545 wd_546 cf_X3 o17 rfl rfl (Nat.le_of_ble_eq_true rfl) dX4_condition_107 (fun h18 H => ?_)
            refine aw_aload_n dX4_condition_110 rfl 1 rfl ?_
            refine aw_getR cf_X4 1 (by decide) rfl wd_216 o_k dX4_condition_111 ?_
            refine aw_iload_n dX4_condition_114 rfl 4 rfl ?_
            obtain ⟨o19, H⟩ := H
            refine aw_callV_v (As := [.int x3]) (rest := []) (am_X3_landHere d o19 H) mf_X3_landHere wd_544 wd_545 wd_546 cf_X3 o19 rfl rfl (Nat.le_of_ble_eq_true rfl) dX4_condition_115 (fun h20 H => ?_)
            exact aw_vret rfl H dX4_condition_118
          · replace H := a_neg2 c16 H
            refine aw_aload_n dX4_condition_61 rfl 1 rfl ?_
            refine aw_getR cf_X4 1 (by decide) rfl wd_216 o_k dX4_condition_62 ?_
            refine aw_iload_n dX4_condition_65 rfl 3 rfl ?_
            obtain ⟨o21, H⟩ := H
            refine aw_callV_v (As := [.int x2]) (rest := []) (am_X3_landHere d o21 H) mf_X3_landHere wd_544 wd_545 wd_546 cf_X3 o21 rfl rfl (Nat.le_of_ble_eq_true rfl) dX4_condition_66 (fun h22 H => ?_)
            refine aw_iconst (v := (-1)) dX4_condition_69 (by decide) ?_
            refine aw_istore_n (lv' := [(2, .int (-1)), (5, .int r14), (0, .ref (G.2.1 k)), (1, .int a1), (3, .int x3), (4, .int x4)]) dX4_condition_70 rfl (by decide) rfl ?_
            refine aw_aload_n dX4_condition_71 rfl 2 rfl ?_
            refine aw_getR cf_X4 1 (by decide) rfl wd_216 o_k dX4_condition_72 ?_
            refine aw_iconst (v := 5) dX4_condition_75 (by decide) ?_
            refine aw_iload_n dX4_condition_76 rfl 4 rfl ?_
            obtain ⟨o23, H⟩ := H
            refine aw_callV_i (As := [.int 5, .int x3]) (rest := []) (am_X3_put d o23 H) mf_X3_put wd_429 wd_430 wd_431 cf_X3 o23 rfl rfl (Nat.le_of_ble_eq_true rfl) dX4_condition_77 (fun r25 h24 H => ?_)
            refine aw_istore_n (lv' := [(3, .int r25), (2, .int (-1)), (5, .int r14), (0, .ref (G.2.1 k)), (1, .int a1), (4, .int x4)]) dX4_condition_80 rfl (by decide) rfl ?_
            refine aw_aload_n dX4_condition_81 rfl 3 rfl ?_
            refine aw_dup dX4_condition_82 rfl ?_
            refine aw_getI cf_X4 3 (by decide) rfl wd_218 o_k dX4_condition_83 ?_
            refine aw_name (fun v26 e_v26 => ?_)
            replace H := H v26 e_v26
            refine aw_iconst (v := 1) dX4_condition_86 (by decide) ?_
            refine aw_iadd dX4_condition_87 ?_
            refine aw_putI cf_X4 3 (by decide) rfl wd_218 rfl rfl rfl o_k dX4_condition_88 ?_
            refine aw_nameH (fun h27 e_h27 => ?_)
            replace H := H h27 e_h27
            refine aw_aload_n dX4_condition_91 rfl 3 rfl ?_
            refine aw_iload_n dX4_condition_92 rfl 4 rfl ?_
            refine aw_callV_v (As := [.int a1]) (rest := []) (hF_X4_piece o_k H) mf_X4_piece wd_540 wd_542 ws_1_11 cf_X4 o_k rfl rfl (Nat.le_of_ble_eq_true rfl) dX4_condition_93 (fun h28 H => ?_)
            obtain ⟨x4_29, e_x4_29⟩ : ∃ y : Int32, y = x4 + 1 := ⟨_, rfl⟩
            replace H := H x4_29 e_x4_29
            refine aw_iinc (v := x4_29) (lv' := [(4, .int x4_29), (3, .int r25), (2, .int (-1)), (5, .int r14), (0, .ref (G.2.1 k)), (1, .int a1)]) dX4_condition_96 (n0 := 5) rfl (by rw [e_x4_29]; rfl) (by decide) rfl ?_
            refine aw_goto (tgt := 12) dX4_condition_99 (by decide) ?_
            refine aw_sub (lv' := [(0, .ref (G.2.1 k)), (1, .int a1), (2, .int (-1)), (3, .int r25), (4, .int x4_29)]) [4, 5, 2, 1, 0] rfl ?_
            exact ih _ _ _ _ H
        · replace H := a_neg2 c15 H
          refine aw_aload_n dX4_condition_41 rfl 1 rfl ?_
          refine aw_getR cf_X4 1 (by decide) rfl wd_216 o_k dX4_condition_42 ?_
          refine aw_iconst (v := 4) dX4_condition_45 (by decide) ?_
          refine aw_iload_n dX4_condition_46 rfl 3 rfl ?_
          obtain ⟨o30, H⟩ := H
          refine aw_callV_i (As := [.int 4, .int x2]) (rest := []) (am_X3_put d o30 H) mf_X3_put wd_429 wd_430 wd_431 cf_X3 o30 rfl rfl (Nat.le_of_ble_eq_true rfl) dX4_condition_47 (fun r32 h31 H => ?_)
          refine aw_istore_n (lv' := [(2, .int r32), (5, .int r14), (0, .ref (G.2.1 k)), (1, .int a1), (3, .int x3), (4, .int x4)]) dX4_condition_50 rfl (by decide) rfl ?_
          refine aw_goto (tgt := 81) dX4_condition_51 (by decide) ?_
          refine aw_aload_n dX4_condition_81 rfl 2 rfl ?_
          refine aw_dup dX4_condition_82 rfl ?_
          refine aw_getI cf_X4 3 (by decide) rfl wd_218 o_k dX4_condition_83 ?_
          refine aw_name (fun v33 e_v33 => ?_)
          replace H := H v33 e_v33
          refine aw_iconst (v := 1) dX4_condition_86 (by decide) ?_
          refine aw_iadd dX4_condition_87 ?_
          refine aw_putI cf_X4 3 (by decide) rfl wd_218 rfl rfl rfl o_k dX4_condition_88 ?_
          refine aw_nameH (fun h34 e_h34 => ?_)
          replace H := H h34 e_h34
          refine aw_aload_n dX4_condition_91 rfl 2 rfl ?_
          refine aw_iload_n dX4_condition_92 rfl 3 rfl ?_
          refine aw_callV_v (As := [.int a1]) (rest := []) (hF_X4_piece o_k H) mf_X4_piece wd_540 wd_542 ws_1_11 cf_X4 o_k rfl rfl (Nat.le_of_ble_eq_true rfl) dX4_condition_93 (fun h35 H => ?_)
          obtain ⟨x4_36, e_x4_36⟩ : ∃ y : Int32, y = x4 + 1 := ⟨_, rfl⟩
          replace H := H x4_36 e_x4_36
          refine aw_iinc (v := x4_36) (lv' := [(4, .int x4_36), (2, .int r32), (5, .int r14), (0, .ref (G.2.1 k)), (1, .int a1), (3, .int x3)]) dX4_condition_96 (n0 := 5) rfl (by rw [e_x4_36]; rfl) (by decide) rfl ?_
          refine aw_goto (tgt := 12) dX4_condition_99 (by decide) ?_
          refine aw_sub (lv' := [(0, .ref (G.2.1 k)), (1, .int a1), (2, .int r32), (3, .int x3), (4, .int x4_36)]) [3, 4, 1, 5, 0] rfl ?_
          exact ih _ _ _ _ H
set_option maxHeartbeats 4000000 in
set_option maxRecDepth 100000 in
theorem am_X4_condition {l : Launch} {S : aS} {G : aG} (d : Nat) {k : Nat} {a1 : Int32} {h : aH} {Q : aH → Prop} {F_X4_piece : Nat → Int32 → aH → (aH → Prop) → Prop} (hF_X4_piece : ∀ {k : Nat} {a1 : Int32} {h : aH} {Q : aH → Prop}, aObj S k 3 flX4 → F_X4_piece k a1 h Q → AMv l S G d M_X4_piece [.ref (G.2.1 k), .int a1] h Q) (o_k : aObj S k 3 flX4) (H : f_X4_condition F_X4_piece S k a1 h Q) : AMv l S G (d + 1) M_X4_condition [.ref (G.2.1 k), .int a1] h Q := by
  unfold f_X4_condition at H
  refine am_of mf_X4_condition (Nat.le_of_ble_eq_true rfl) (lv0 := [(0, .ref (G.2.1 k)), (1, .int a1)]) rfl ?_
  refine aw_iconst (v := (-1)) dX4_condition_0 (by decide) ?_
  refine aw_istore_n (lv' := [(2, .int (-1)), (0, .ref (G.2.1 k)), (1, .int a1)]) dX4_condition_1 rfl (by decide) rfl ?_
  refine aw_iconst (v := (-1)) dX4_condition_2 (by decide) ?_
  refine aw_istore_n (lv' := [(3, .int (-1)), (2, .int (-1)), (0, .ref (G.2.1 k)), (1, .int a1)]) dX4_condition_3 rfl (by decide) rfl ?_
  refine aw_aload_n dX4_condition_4 rfl 2 rfl ?_
  refine aw_iload_n dX4_condition_5 rfl 3 rfl ?_
  refine aw_callV_v (As := [.int a1]) (rest := []) (hF_X4_piece o_k H) mf_X4_piece wd_540 wd_542 ws_1_11 cf_X4 o_k rfl rfl (Nat.le_of_ble_eq_true rfl) dX4_condition_6 (fun h37 H => ?_)
  refine aw_iconst (v := 0) dX4_condition_9 (by decide) ?_
  refine aw_istore (lv' := [(4, .int 0), (3, .int (-1)), (2, .int (-1)), (0, .ref (G.2.1 k)), (1, .int a1)]) dX4_condition_10 (by decide) rfl ?_
  refine aw_sub (lv' := [(0, .ref (G.2.1 k)), (1, .int a1), (2, .int (-1)), (3, .int (-1)), (4, .int 0)]) [3, 4, 2, 1, 0] rfl ?_
  obtain ⟨n1, H⟩ := H
  exact fm_X4_condition_12 d hF_X4_piece o_k n1 _ _ _ _ H
set_option maxHeartbeats 4000000 in
set_option maxRecDepth 100000 in
theorem am_X4_enter {l : Launch} {S : aS} {G : aG} (d : Nat) {k : Nat} {a1 : Int32} {h : aH} {Q : Int32 → aH → Prop} (o_k : aObj S k 3 flX4) (H : f_X4_enter S k a1 h Q) : AMi l S G (d + 1) M_X4_enter [.ref (G.2.1 k), .int a1] h Q := by
  unfold f_X4_enter at H
  refine am_of mf_X4_enter (Nat.le_of_ble_eq_true rfl) (lv0 := [(0, .ref (G.2.1 k)), (1, .int a1)]) rfl ?_
  refine aw_iload_n dX4_enter_0 rfl 1 rfl ?_
  refine aw_bipush (v := 6) dX4_enter_1 (by decide) ?_
  refine aw_icmp_lt (tgt := 13) dX4_enter_3 (by decide) (fun c1 => ?_) (fun c1 => ?_)
  · replace H := a_pos c1 H
    refine aw_aload_n dX4_enter_13 rfl 0 rfl ?_
    refine aw_dup dX4_enter_14 rfl ?_
    refine aw_getI cf_X4 3 (by decide) rfl wd_218 o_k dX4_enter_15 ?_
    refine aw_name (fun v2 e_v2 => ?_)
    replace H := H v2 e_v2
    refine aw_iconst (v := 1) dX4_enter_18 (by decide) ?_
    refine aw_iadd dX4_enter_19 ?_
    refine aw_putI cf_X4 3 (by decide) rfl wd_218 rfl rfl rfl o_k dX4_enter_20 ?_
    refine aw_nameH (fun h3 e_h3 => ?_)
    replace H := H h3 e_h3
    refine aw_iconst (v := 1) dX4_enter_23 (by decide) ?_
    exact aw_zret rfl rfl H dX4_enter_24
  · replace H := a_neg c1 H
    refine aw_aload_n dX4_enter_6 rfl 0 rfl ?_
    refine aw_iconst (v := 5) dX4_enter_7 (by decide) ?_
    refine aw_callV_v (As := [.int 5]) (rest := []) (am_X4_blame d o_k H) mf_X4_blame wd_406 wd_408 ws_1_3 cf_X4 o_k rfl rfl (Nat.le_of_ble_eq_true rfl) dX4_enter_8 (fun h4 H => ?_)
    refine aw_iconst (v := 0) dX4_enter_11 (by decide) ?_
    exact aw_zret rfl rfl H dX4_enter_12
