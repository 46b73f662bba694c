set_option maxHeartbeats 4000000 in
set_option maxRecDepth 100000 in
theorem am_X11_lies {l : Launch} {S : aS} {G : aG} (d : Nat) {a0 : Int64} {a2 : Int64} {a4 : Int64} {h : aH} {Q : Int32 → aH → Prop} (H : f_X11_lies S a0 a2 a4 h Q) : AMi l S G d M_X11_lies [.long a0, .long a2, .long a4] h Q := by
  unfold f_X11_lies at H
  refine am_of mf_X11_lies (Nat.le_of_ble_eq_true rfl) (lv0 := [(0, .long a0), (2, .long a2), (4, .long a4)]) rfl ?_
  refine aw_lload_n dX11_lies_0 rfl 0 rfl ?_
  refine aw_lload_n dX11_lies_1 rfl 1 rfl ?_
  refine aw_lcmp dX11_lies_2 ?_
  refine aw_if_lt (tgt := 17) dX11_lies_3 (by decide) (fun c1 => ?_) (fun c1 => ?_)
  · replace H := a_pos c1 H
    refine aw_iconst (v := 0) dX11_lies_17 (by decide) ?_
    exact aw_zret rfl rfl H dX11_lies_18
  · replace H := a_neg c1 H
    refine aw_lload_n dX11_lies_6 rfl 0 rfl ?_
    refine aw_lload dX11_lies_7 2 rfl ?_
    refine aw_lcmp dX11_lies_9 ?_
    refine aw_if_gt (tgt := 17) dX11_lies_10 (by decide) (fun c2 => ?_) (fun c2 => ?_)
    · replace H := a_pos c2 H
      refine aw_iconst (v := 0) dX11_lies_17 (by decide) ?_
      exact aw_zret rfl rfl H dX11_lies_18
    · replace H := a_neg c2 H
      refine aw_iconst (v := 1) dX11_lies_13 (by decide) ?_
      refine aw_goto (tgt := 18) dX11_lies_14 (by decide) ?_
      exact aw_zret rfl rfl H dX11_lies_18
set_option maxHeartbeats 4000000 in
set_option maxRecDepth 100000 in
theorem am_X11_has {l : Launch} {S : aS} {G : aG} (d : Nat) {a0 : Int32} {a1 : Int32} {h : aH} {Q : Int32 → aH → Prop} (H : f_X11_has S a0 a1 h Q) : AMi l S G d M_X11_has [.int a0, .int a1] h Q := by
  unfold f_X11_has at H
  refine am_of mf_X11_has (Nat.le_of_ble_eq_true rfl) (lv0 := [(0, .int a0), (1, .int a1)]) rfl ?_
  refine aw_iload_n dX11_has_0 rfl 0 rfl ?_
  refine aw_iload_n dX11_has_1 rfl 1 rfl ?_
  refine aw_ishr dX11_has_2 ?_
  refine aw_iconst (v := 1) dX11_has_3 (by decide) ?_
  refine aw_iand dX11_has_4 ?_
  refine aw_iconst (v := 1) dX11_has_5 (by decide) ?_
  refine aw_icmp_ne (tgt := 13) dX11_has_6 (by decide) (fun c1 => ?_) (fun c1 => ?_)
  · replace H := a_pos c1 H
    refine aw_iconst (v := 0) dX11_has_13 (by decide) ?_
    exact aw_zret rfl rfl H dX11_has_14
  · replace H := a_neg2 c1 H
    refine aw_iconst (v := 1) dX11_has_9 (by decide) ?_
    refine aw_goto (tgt := 14) dX11_has_10 (by decide) ?_
    exact aw_zret rfl rfl H dX11_has_14
set_option maxHeartbeats 4000000 in
set_option maxRecDepth 100000 in
theorem fm_X11_sizeOf_4 {l : Launch} {S : aS} {G : aG} (d : Nat) {a0 : Int32} {Q : Int32 → aH → Prop} : ∀ (n : Nat) (x1 : Int32) (x2 : Int32) (h : aH), f_X11_sizeOf_4 S a0 Q n x1 x2 h → AW l S G d M_X11_sizeOf (va_Qi Q (aPo S G) (aA S G)) 4 [(0, .int a0), (1, .int x1), (2, .int x2)] [] h := by
  intro n
  induction n with
  | zero => intro x1 x2 h H; exact False.elim H
  | succ n ih =>
    intro x1 x2 h H
    unfold f_X11_sizeOf_4 at H
    refine aw_iload_n dX11_sizeOf_4 rfl 2 rfl ?_
    refine aw_if_eq (tgt := 20) dX11_sizeOf_5 (by decide) (fun c1 => ?_) (fun c1 => ?_)
    · replace H := a_pos c1 H
      refine aw_iload_n dX11_sizeOf_20 rfl 1 rfl ?_
      exact aw_iret rfl H dX11_sizeOf_21
    · replace H := a_neg c1 H
      obtain ⟨x1_2, e_x1_2⟩ : ∃ y : Int32, y = x1 + 1 := ⟨_, rfl⟩
      replace H := H x1_2 e_x1_2
      refine aw_iinc (v := x1_2) (lv' := [(1, .int x1_2), (0, .int a0), (2, .int x2)]) dX11_sizeOf_8 (n0 := 1) rfl (by rw [e_x1_2]; rfl) (by decide) rfl ?_
      refine aw_iload_n dX11_sizeOf_11 rfl 2 rfl ?_
      refine aw_iload_n dX11_sizeOf_12 rfl 2 rfl ?_
      refine aw_iconst (v := 1) dX11_sizeOf_13 (by decide) ?_
      refine aw_isub dX11_sizeOf_14 ?_
      refine aw_iand dX11_sizeOf_15 ?_
      refine aw_name (fun x2_3 e_x2_3 => ?_)
      replace H := H x2_3 e_x2_3
      refine aw_istore_n (lv' := [(2, .int x2_3), (1, .int x1_2), (0, .int a0)]) dX11_sizeOf_16 rfl (by decide) rfl ?_
      refine aw_goto (tgt := 4) dX11_sizeOf_17 (by decide) ?_
      refine aw_sub (lv' := [(0, .int a0), (1, .int x1_2), (2, .int x2_3)]) [2, 1, 0] rfl ?_
      exact ih _ _ _ H
set_option maxHeartbeats 4000000 in
set_option maxRecDepth 100000 in
theorem am_X11_sizeOf {l : Launch} {S : aS} {G : aG} (d : Nat) {a0 : Int32} {h : aH} {Q : Int32 → aH → Prop} (H : f_X11_sizeOf S a0 h Q) : AMi l S G d M_X11_sizeOf [.int a0] h Q := by
  unfold f_X11_sizeOf at H
  refine am_of mf_X11_sizeOf (Nat.le_of_ble_eq_true rfl) (lv0 := [(0, .int a0)]) rfl ?_
  refine aw_iconst (v := 0) dX11_sizeOf_0 (by decide) ?_
  refine aw_istore_n (lv' := [(1, .int 0), (0, .int a0)]) dX11_sizeOf_1 rfl (by decide) rfl ?_
  refine aw_iload_n dX11_sizeOf_2 rfl 1 rfl ?_
  refine aw_istore_n (lv' := [(2, .int a0), (1, .int 0), (0, .int a0)]) dX11_sizeOf_3 rfl (by decide) rfl ?_
  refine aw_sub (lv' := [(0, .int a0), (1, .int 0), (2, .int a0)]) [2, 1, 0] rfl ?_
  obtain ⟨n1, H⟩ := H
  exact fm_X11_sizeOf_4 d n1 _ _ _ H
set_option maxHeartbeats 4000000 in
set_option maxRecDepth 100000 in
theorem am_X11_isSide {l : Launch} {S : aS} {G : aG} (d : Nat) {a0 : Int32} {h : aH} {Q : Int32 → aH → Prop} (H : f_X11_isSide S a0 h Q) : AMi l S G (d + 1) M_X11_isSide [.int a0] h Q := by
  unfold f_X11_isSide at H
  refine am_of mf_X11_isSide (Nat.le_of_ble_eq_true rfl) (lv0 := [(0, .int a0)]) rfl ?_
  refine aw_iload_n dX11_isSide_0 rfl 0 rfl ?_
  refine aw_i2l dX11_isSide_1 ?_
  refine aw_lconst (v := 0) dX11_isSide_2 (by decide) ?_
  refine aw_ldc2 (v := 15) dX11_isSide_3 wd_1257 ?_
  refine aw_callS_i (As := [.long (a0).toInt64, .long 0, .long 15]) (rest := []) (am_X11_lies d H) mf_X11_lies wd_1258 wd_1259 rfl rfl (Nat.le_of_ble_eq_true rfl) dX11_isSide_6 (fun r2 h1 H => ?_)
  exact aw_zret rfl H.1.1 H.2 dX11_isSide_9
set_option maxHeartbeats 4000000 in
set_option maxRecDepth 100000 in
theorem am_X11_isSquare {l : Launch} {S : aS} {G : aG} (d : Nat) {a0 : Int32} {a1 : Int32} {h : aH} {Q : Int32 → aH → Prop} (H : f_X11_isSquare S a0 a1 h Q) : AMi l S G (d + 2) M_X11_isSquare [.int a0, .int a1] h Q := by
  unfold f_X11_isSquare at H
  refine am_of mf_X11_isSquare (Nat.le_of_ble_eq_true rfl) (lv0 := [(0, .int a0), (1, .int a1)]) rfl ?_
  refine aw_iload_n dX11_isSquare_0 rfl 0 rfl ?_
  refine aw_callS_i (As := [.int a0]) (rest := []) (am_X11_isSide d H) mf_X11_isSide wd_1254 wd_1255 rfl rfl (Nat.le_of_ble_eq_true rfl) dX11_isSquare_1 (fun r2 h1 H => ?_)
  refine aw_if_eq (tgt := 18) dX11_isSquare_4 (by decide) (fun c3 => ?_) (fun c3 => ?_)
  · replace H := a_pos c3 H
    refine aw_iconst (v := 0) dX11_isSquare_18 (by decide) ?_
    exact aw_zret rfl rfl H dX11_isSquare_19
  · replace H := a_neg c3 H
    refine aw_iload_n dX11_isSquare_7 rfl 1 rfl ?_
    refine aw_callS_i (As := [.int a1]) (rest := []) (am_X11_isSide d H) mf_X11_isSide wd_1254 wd_1255 rfl rfl (Nat.le_of_ble_eq_true rfl) dX11_isSquare_8 (fun r5 h4 H => ?_)
    refine aw_if_eq (tgt := 18) dX11_isSquare_11 (by decide) (fun c6 => ?_) (fun c6 => ?_)
    · replace H := a_pos c6 H
      refine aw_iconst (v := 0) dX11_isSquare_18 (by decide) ?_
      exact aw_zret rfl rfl H dX11_isSquare_19
    · replace H := a_neg c6 H
      refine aw_iconst (v := 1) dX11_isSquare_14 (by decide) ?_
      refine aw_goto (tgt := 19) dX11_isSquare_15 (by decide) ?_
      exact aw_zret rfl rfl H dX11_isSquare_19
set_option maxHeartbeats 4000000 in
set_option maxRecDepth 100000 in
theorem am_X11_isHole {l : Launch} {S : aS} {G : aG} (d : Nat) {k : Nat} {a1 : Int32} {h : aH} {Q : Int32 → aH → Prop} (o_k : aObj S k 10 flX11) (H : f_X11_isHole S k a1 h Q) : AMi l S G (d + 1) M_X11_isHole [.ref (G.2.1 k), .int a1] h Q := by
  unfold f_X11_isHole at H
  refine am_of mf_X11_isHole (Nat.le_of_ble_eq_true rfl) (lv0 := [(0, .ref (G.2.1 k)), (1, .int a1)]) rfl ?_
  refine aw_iload_n dX11_isHole_0 rfl 1 rfl ?_
  refine aw_i2l dX11_isHole_1 ?_
  refine aw_lconst (v := 0) dX11_isHole_2 (by decide) ?_
  refine aw_aload_n dX11_isHole_3 rfl 0 rfl ?_
  refine aw_getI cf_X11 2 (by decide) rfl wd_1038 o_k dX11_isHole_4 ?_
  refine aw_name (fun v1 e_v1 => ?_)
  replace H := H v1 e_v1
  refine aw_iconst (v := 1) dX11_isHole_7 (by decide) ?_
  refine aw_isub dX11_isHole_8 ?_
  refine aw_i2l dX11_isHole_9 ?_
  refine aw_callS_i (As := [.long (a1).toInt64, .long 0, .long ((v1 - 1)).toInt64]) (rest := []) (am_X11_lies d H) mf_X11_lies wd_1258 wd_1259 rfl rfl (Nat.le_of_ble_eq_true rfl) dX11_isHole_10 (fun r3 h2 H => ?_)
  exact aw_zret rfl H.1.1 H.2 dX11_isHole_13
set_option maxHeartbeats 4000000 in
set_option maxRecDepth 100000 in
theorem am_X11_isOpen {l : Launch} {S : aS} {G : aG} (d : Nat) {k : Nat} {a1 : Int32} {h : aH} {Q : Int32 → aH → Prop} (o_k : aObj S k 10 flX11) (H : f_X11_isOpen S k a1 h Q) : AMi l S G (d + 2) M_X11_isOpen [.ref (G.2.1 k), .int a1] h Q := by
  unfold f_X11_isOpen at H
  refine am_of mf_X11_isOpen (Nat.le_of_ble_eq_true rfl) (lv0 := [(0, .ref (G.2.1 k)), (1, .int a1)]) rfl ?_
  refine aw_aload_n dX11_isOpen_0 rfl 0 rfl ?_
  refine aw_iload_n dX11_isOpen_1 rfl 1 rfl ?_
  refine aw_callV_i (As := [.int a1]) (rest := []) (am_X11_isHole d o_k H) mf_X11_isHole wd_1450 wd_1452 ws_5_3 cf_X11 o_k rfl rfl (Nat.le_of_ble_eq_true rfl) dX11_isOpen_2 (fun r2 h1 H => ?_)
  refine aw_if_eq (tgt := 27) dX11_isOpen_5 (by decide) (fun c3 => ?_) (fun c3 => ?_)
  · replace H := a_pos c3 H
    refine aw_iconst (v := 0) dX11_isOpen_27 (by decide) ?_
    exact aw_zret rfl rfl H dX11_isOpen_28
  · replace H := a_neg c3 H
    refine aw_aload_n dX11_isOpen_8 rfl 0 rfl ?_
    refine aw_getR cf_X11 8 (by decide) rfl wd_1044 o_k dX11_isOpen_9 ?_
    refine aw_aload_n dX11_isOpen_12 rfl 0 rfl ?_
    refine aw_getR cf_X11 9 (by decide) rfl wd_1045 o_k dX11_isOpen_13 ?_
    refine aw_iload_n dX11_isOpen_16 rfl 1 rfl ?_
    obtain ⟨z4, H⟩ := H
    refine aw_iaload z4 dX11_isOpen_17 ?_
    refine aw_name (fun v5 e_v5 => ?_)
    replace H := H v5 e_v5
    obtain ⟨z6, H⟩ := H
    refine aw_iaload z6 dX11_isOpen_18 ?_
    refine aw_name (fun v7 e_v7 => ?_)
    replace H := H v7 e_v7
    refine aw_iload_n dX11_isOpen_19 rfl 1 rfl ?_
    refine aw_icmp_ne (tgt := 27) dX11_isOpen_20 (by decide) (fun c8 => ?_) (fun c8 => ?_)
    · replace H := a_pos c8 H
      refine aw_iconst (v := 0) dX11_isOpen_27 (by decide) ?_
      exact aw_zret rfl rfl H dX11_isOpen_28
    · replace H := a_neg2 c8 H
      refine aw_iconst (v := 1) dX11_isOpen_23 (by decide) ?_
      refine aw_goto (tgt := 28) dX11_isOpen_24 (by decide) ?_
      exact aw_zret rfl rfl H dX11_isOpen_28
set_option maxHeartbeats 4000000 in
set_option maxRecDepth 100000 in
theorem am_X11_isGroup {l : Launch} {S : aS} {G : aG} (d : Nat) {k : Nat} {a1 : Int32} {h : aH} {Q : Int32 → aH → Prop} (o_k : aObj S k 10 flX11) (H : f_X11_isGroup S k a1 h Q) : AMi l S G (d + 1) M_X11_isGroup [.ref (G.2.1 k), .int a1] h Q := by
  unfold f_X11_isGroup at H
  refine am_of mf_X11_isGroup (Nat.le_of_ble_eq_true rfl) (lv0 := [(0, .ref (G.2.1 k)), (1, .int a1)]) rfl ?_
  refine aw_iload_n dX11_isGroup_0 rfl 1 rfl ?_
  refine aw_i2l dX11_isGroup_1 ?_
  refine aw_lconst (v := 0) dX11_isGroup_2 (by decide) ?_
  refine aw_aload_n dX11_isGroup_3 rfl 0 rfl ?_
  refine aw_getI cf_X11 3 (by decide) rfl wd_1039 o_k dX11_isGroup_4 ?_
  refine aw_name (fun v1 e_v1 => ?_)
  replace H := H v1 e_v1
  refine aw_iconst (v := 1) dX11_isGroup_7 (by decide) ?_
  refine aw_isub dX11_isGroup_8 ?_
  refine aw_i2l dX11_isGroup_9 ?_
  refine aw_callS_i (As := [.long (a1).toInt64, .long 0, .long ((v1 - 1)).toInt64]) (rest := []) (am_X11_lies d H) mf_X11_lies wd_1258 wd_1259 rfl rfl (Nat.le_of_ble_eq_true rfl) dX11_isGroup_10 (fun r3 h2 H => ?_)
  exact aw_zret rfl H.1.1 H.2 dX11_isGroup_13
set_option maxHeartbeats 4000000 in
set_option maxRecDepth 100000 in
theorem am_X11_isIce {l : Launch} {S : aS} {G : aG} (d : Nat) {k : Nat} {a1 : Int32} {h : aH} {Q : Int32 → aH → Prop} (o_k : aObj S k 10 flX11) (H : f_X11_isIce S k a1 h Q) : AMi l S G d M_X11_isIce [.ref (G.2.1 k), .int a1] h Q := by
  unfold f_X11_isIce at H
  refine am_of mf_X11_isIce (Nat.le_of_ble_eq_true rfl) (lv0 := [(0, .ref (G.2.1 k)), (1, .int a1)]) rfl ?_
  refine aw_aload_n dX11_isIce_0 rfl 0 rfl ?_
  refine aw_getR cf_X11 7 (by decide) rfl wd_1043 o_k dX11_isIce_1 ?_
  refine aw_iload_n dX11_isIce_4 rfl 1 rfl ?_
  obtain ⟨z1, H⟩ := H
  refine aw_zaload z1 dX11_isIce_5 ?_
  refine aw_name (fun v2 e_v2 => ?_)
  replace H := H v2 e_v2
  refine aw_if_ne (tgt := 23) dX11_isIce_6 (by decide) (fun c3 => ?_) (fun c3 => ?_)
  · replace H := a_pos c3 H
    refine aw_iconst (v := 0) dX11_isIce_23 (by decide) ?_
    exact aw_zret rfl rfl H dX11_isIce_24
  · replace H := a_neg2 c3 H
    refine aw_aload_n dX11_isIce_9 rfl 0 rfl ?_
    refine aw_getR cf_X11 8 (by decide) rfl wd_1044 o_k dX11_isIce_10 ?_
    refine aw_iload_n dX11_isIce_13 rfl 1 rfl ?_
    obtain ⟨z4, H⟩ := H
    refine aw_iaload z4 dX11_isIce_14 ?_
    refine aw_name (fun v5 e_v5 => ?_)
    replace H := H v5 e_v5
    refine aw_iconst (v := (-1)) dX11_isIce_15 (by decide) ?_
    refine aw_icmp_ne (tgt := 23) dX11_isIce_16 (by decide) (fun c6 => ?_) (fun c6 => ?_)
    · replace H := a_pos c6 H
      refine aw_iconst (v := 0) dX11_isIce_23 (by decide) ?_
      exact aw_zret rfl rfl H dX11_isIce_24
    · replace H := a_neg2 c6 H
      refine aw_iconst (v := 1) dX11_isIce_19 (by decide) ?_
      refine aw_goto (tgt := 24) dX11_isIce_20 (by decide) ?_
      exact aw_zret rfl rfl H dX11_isIce_24
set_option maxHeartbeats 4000000 in
set_option maxRecDepth 100000 in
theorem am_X11_size {l : Launch} {S : aS} {G : aG} (d : Nat) {a0 : Int32} {h : aH} {Q : Int32 → aH → Prop} (H : f_X11_size S a0 h Q) : AMi l S G d M_X11_size [.int a0] h Q := by
  unfold f_X11_size at H
  refine am_of mf_X11_size (Nat.le_of_ble_eq_true rfl) (lv0 := [(0, .int a0)]) rfl ?_
  refine aw_iload_n dX11_size_0 rfl 0 rfl ?_
  refine aw_if_ge (tgt := 9) dX11_size_1 (by decide) (fun c1 => ?_) (fun c1 => ?_)
  · replace H := a_pos c1 H
    refine aw_iload_n dX11_size_9 rfl 0 rfl ?_
    exact aw_iret rfl H dX11_size_10
  · replace H := a_neg c1 H
    refine aw_iload_n dX11_size_4 rfl 0 rfl ?_
    refine aw_ineg dX11_size_5 ?_
    refine aw_goto (tgt := 10) dX11_size_6 (by decide) ?_
    exact aw_iret rfl H dX11_size_10
set_option maxHeartbeats 4000000 in
set_option maxRecDepth 100000 in
theorem am_X11_wayOf {l : Launch} {S : aS} {G : aG} (d : Nat) {a0 : Int32} {a1 : Int32} {h : aH} {Q : Int32 → aH → Prop} (H : f_X11_wayOf S a0 a1 h Q) : AMi l S G (d + 1) M_X11_wayOf [.int a0, .int a1] h Q := by
  unfold f_X11_wayOf at H
  refine am_of mf_X11_wayOf (Nat.le_of_ble_eq_true rfl) (lv0 := [(0, .int a0), (1, .int a1)]) rfl ?_
  refine aw_iload_n dX11_wayOf_0 rfl 0 rfl ?_
  refine aw_bipush (v := 16) dX11_wayOf_1 (by decide) ?_
  refine aw_irem dX11_wayOf_3 (by decide) ?_
  refine aw_iload_n dX11_wayOf_4 rfl 1 rfl ?_
  refine aw_bipush (v := 16) dX11_wayOf_5 (by decide) ?_
  refine aw_irem dX11_wayOf_7 (by decide) ?_
  refine aw_isub dX11_wayOf_8 ?_
  refine aw_callS_i (As := [.int ((a0 - a0 / 16 * 16) - (a1 - a1 / 16 * 16))]) (rest := []) (am_X11_size d H) mf_X11_size wd_1427 wd_1428 rfl rfl (Nat.le_of_ble_eq_true rfl) dX11_wayOf_9 (fun r2 h1 H => ?_)
  refine aw_iload_n dX11_wayOf_12 rfl 0 rfl ?_
  refine aw_bipush (v := 16) dX11_wayOf_13 (by decide) ?_
  refine aw_idiv dX11_wayOf_15 (by decide) ?_
  refine aw_iload_n dX11_wayOf_16 rfl 1 rfl ?_
  refine aw_bipush (v := 16) dX11_wayOf_17 (by decide) ?_
  refine aw_idiv dX11_wayOf_19 (by decide) ?_
  refine aw_isub dX11_wayOf_20 ?_
  refine aw_callS_i (As := [.int ((a0 / 16) - (a1 / 16))]) (rest := [.int r2]) (am_X11_size d H) mf_X11_size wd_1427 wd_1428 rfl rfl (Nat.le_of_ble_eq_true rfl) dX11_wayOf_21 (fun r4 h3 H => ?_)
  refine aw_iadd dX11_wayOf_24 ?_
  exact aw_iret rfl H dX11_wayOf_25
set_option maxHeartbeats 4000000 in
set_option maxRecDepth 100000 in
theorem am_X11_aside {l : Launch} {S : aS} {G : aG} (d : Nat) {a0 : Int32} {a1 : Int32} {a2 : Int32} {h : aH} {Q : Int32 → aH → Prop} (H : f_X11_aside S a0 a1 a2 h Q) : AMi l S G (d + 3) M_X11_aside [.int a0, .int a1, .int a2] h Q := by
  unfold f_X11_aside at H
  refine am_of mf_X11_aside (Nat.le_of_ble_eq_true rfl) (lv0 := [(0, .int a0), (1, .int a1), (2, .int a2)]) rfl ?_
  refine aw_iload_n dX11_aside_0 rfl 0 rfl ?_
  refine aw_bipush (v := 16) dX11_aside_1 (by decide) ?_
  refine aw_irem dX11_aside_3 (by decide) ?_
  refine aw_iload_n dX11_aside_4 rfl 1 rfl ?_
  refine aw_iadd dX11_aside_5 ?_
  refine aw_iload_n dX11_aside_6 rfl 0 rfl ?_
  refine aw_bipush (v := 16) dX11_aside_7 (by decide) ?_
  refine aw_idiv dX11_aside_9 (by decide) ?_
  refine aw_iload_n dX11_aside_10 rfl 2 rfl ?_
  refine aw_iadd dX11_aside_11 ?_
  refine aw_callS_i (As := [.int ((a0 - a0 / 16 * 16) + a1), .int ((a0 / 16) + a2)]) (rest := []) (am_X11_isSquare d H) mf_X11_isSquare wd_1251 wd_1252 rfl rfl (Nat.le_of_ble_eq_true rfl) dX11_aside_12 (fun r2 h1 H => ?_)
  refine aw_if_eq (tgt := 29) dX11_aside_15 (by decide) (fun c3 => ?_) (fun c3 => ?_)
  · replace H := a_pos c3 H
    refine aw_iconst (v := (-1)) dX11_aside_29 (by decide) ?_
    exact aw_iret rfl H dX11_aside_30
  · replace H := a_neg c3 H
    refine aw_iload_n dX11_aside_18 rfl 0 rfl ?_
    refine aw_bipush (v := 16) dX11_aside_19 (by decide) ?_
    refine aw_iload_n dX11_aside_21 rfl 2 rfl ?_
    refine aw_imul dX11_aside_22 ?_
    refine aw_iadd dX11_aside_23 ?_
    refine aw_iload_n dX11_aside_24 rfl 1 rfl ?_
    refine aw_iadd dX11_aside_25 ?_
    refine aw_goto (tgt := 30) dX11_aside_26 (by decide) ?_
    exact aw_iret rfl H dX11_aside_30
set_option maxHeartbeats 4000000 in
set_option maxRecDepth 100000 in
theorem am_X11_areNear {l : Launch} {S : aS} {G : aG} (d : Nat) {a0 : Int32} {a1 : Int32} {h : aH} {Q : Int32 → aH → Prop} (H : f_X11_areNear S a0 a1 h Q) : AMi l S G (d + 1) M_X11_areNear [.int a0, .int a1] h Q := by
  unfold f_X11_areNear at H
  refine am_of mf_X11_areNear (Nat.le_of_ble_eq_true rfl) (lv0 := [(0, .int a0), (1, .int a1)]) rfl ?_
  refine aw_iload_n dX11_areNear_0 rfl 0 rfl ?_
  refine aw_iload_n dX11_areNear_1 rfl 1 rfl ?_
  refine aw_icmp_eq (tgt := 41) dX11_areNear_2 (by decide) (fun c1 => ?_) (fun c1 => ?_)
  · replace H := a_pos c1 H
    refine aw_iconst (v := 0) dX11_areNear_41 (by decide) ?_
    exact aw_zret rfl rfl H dX11_areNear_42
  · replace H := a_neg c1 H
    refine aw_iload_n dX11_areNear_5 rfl 0 rfl ?_
    refine aw_bipush (v := 16) dX11_areNear_6 (by decide) ?_
    refine aw_irem dX11_areNear_8 (by decide) ?_
    refine aw_iload_n dX11_areNear_9 rfl 1 rfl ?_
    refine aw_bipush (v := 16) dX11_areNear_10 (by decide) ?_
    refine aw_irem dX11_areNear_12 (by decide) ?_
    refine aw_isub dX11_areNear_13 ?_
    refine aw_callS_i (As := [.int ((a0 - a0 / 16 * 16) - (a1 - a1 / 16 * 16))]) (rest := []) (am_X11_size d H) mf_X11_size wd_1427 wd_1428 rfl rfl (Nat.le_of_ble_eq_true rfl) dX11_areNear_14 (fun r3 h2 H => ?_)
    refine aw_iconst (v := 2) dX11_areNear_17 (by decide) ?_
    refine aw_icmp_ge (tgt := 41) dX11_areNear_18 (by decide) (fun c4 => ?_) (fun c4 => ?_)
    · replace H := a_pos c4 H
      refine aw_iconst (v := 0) dX11_areNear_41 (by decide) ?_
      exact aw_zret rfl rfl H dX11_areNear_42
    · replace H := a_neg c4 H
      refine aw_iload_n dX11_areNear_21 rfl 0 rfl ?_
      refine aw_bipush (v := 16) dX11_areNear_22 (by decide) ?_
      refine aw_idiv dX11_areNear_24 (by decide) ?_
      refine aw_iload_n dX11_areNear_25 rfl 1 rfl ?_
      refine aw_bipush (v := 16) dX11_areNear_26 (by decide) ?_
      refine aw_idiv dX11_areNear_28 (by decide) ?_
      refine aw_isub dX11_areNear_29 ?_
      refine aw_callS_i (As := [.int ((a0 / 16) - (a1 / 16))]) (rest := []) (am_X11_size d H) mf_X11_size wd_1427 wd_1428 rfl rfl (Nat.le_of_ble_eq_true rfl) dX11_areNear_30 (fun r6 h5 H => ?_)
      refine aw_iconst (v := 2) dX11_areNear_33 (by decide) ?_
      refine aw_icmp_ge (tgt := 41) dX11_areNear_34 (by decide) (fun c7 => ?_) (fun c7 => ?_)
      · replace H := a_pos c7 H
        refine aw_iconst (v := 0) dX11_areNear_41 (by decide) ?_
        exact aw_zret rfl rfl H dX11_areNear_42
      · replace H := a_neg c7 H
        refine aw_iconst (v := 1) dX11_areNear_37 (by decide) ?_
        refine aw_goto (tgt := 42) dX11_areNear_38 (by decide) ?_
        exact aw_zret rfl rfl H dX11_areNear_42
set_option maxHeartbeats 4000000 in
set_option maxRecDepth 100000 in
theorem fm_X11_gapsOf_12 {l : Launch} {S : aS} {G : aG} (d : Nat) {k : Nat} {a1 : Int32} {Q : Int32 → aH → Prop} (o_k : aObj S k 10 flX11) {K4 : Int32 → Int32 → aH → Prop} (hK4 : ∀ (x2 : Int32) (x3 : Int32) (h : aH), K4 x2 x3 h → AW l S G (d + 4) M_X11_gapsOf (va_Qi Q (aPo S G) (aA S G)) 4 [(0, .ref (G.2.1 k)), (1, .int a1), (2, .int x2), (3, .int x3)] [] h) : ∀ (n : Nat) (x2 : Int32) (x3 : Int32) (x4 : Int32) (h : aH), f_X11_gapsOf_12 S k a1 Q K4 n x2 x3 x4 h → AW l S G (d + 4) M_X11_gapsOf (va_Qi Q (aPo S G) (aA S G)) 12 [(0, .ref (G.2.1 k)), (1, .int a1), (2, .int x2), (3, .int x3), (4, .int x4)] [] h := by
  intro n
  induction n with
  | zero => intro x2 x3 x4 h H; exact False.elim H
  | succ n ih =>
    intro x2 x3 x4 h H
    unfold f_X11_gapsOf_12 at H
    refine aw_iload dX11_gapsOf_12 4 rfl ?_
    refine aw_iconst (v := 2) dX11_gapsOf_14 (by decide) ?_
    refine aw_icmp_ge (tgt := 62) dX11_gapsOf_15 (by decide) (fun c1 => ?_) (fun c1 => ?_)
    · replace H := a_pos c1 H
      obtain ⟨x3_2, e_x3_2⟩ : ∃ y : Int32, y = x3 + 1 := ⟨_, rfl⟩
      replace H := H x3_2 e_x3_2
      refine aw_iinc (v := x3_2) (lv' := [(3, .int x3_2), (0, .ref (G.2.1 k)), (1, .int a1), (2, .int x2), (4, .int x4)]) dX11_gapsOf_62 (n0 := 3) rfl (by rw [e_x3_2]; rfl) (by decide) rfl ?_
      refine aw_goto (tgt := 4) dX11_gapsOf_65 (by decide) ?_
      refine aw_sub (lv' := [(0, .ref (G.2.1 k)), (1, .int a1), (2, .int x2), (3, .int x3_2)]) [1, 2, 3, 0] rfl ?_
      exact hK4 _ _ _ H
    · replace H := a_neg c1 H
      refine aw_iload_n dX11_gapsOf_18 rfl 1 rfl ?_
      refine aw_iload dX11_gapsOf_19 4 rfl ?_
      refine aw_iload_n dX11_gapsOf_21 rfl 3 rfl ?_
      refine aw_callS_i (As := [.int a1, .int x4, .int x3]) (rest := []) (am_X11_aside d H) mf_X11_aside wd_1413 wd_1414 rfl rfl (Nat.le_of_ble_eq_true rfl) dX11_gapsOf_22 (fun r4 h3 H => ?_)
      refine aw_istore (lv' := [(5, .int r4), (0, .ref (G.2.1 k)), (1, .int a1), (2, .int x2), (3, .int x3), (4, .int x4)]) dX11_gapsOf_25 (by decide) rfl ?_
      refine aw_iload_n dX11_gapsOf_27 rfl 3 rfl ?_
      refine aw_iload dX11_gapsOf_28 0 rfl ?_
      refine aw_iconst (v := (-1)) dX11_gapsOf_30 (by decide) ?_
      refine aw_icmp_eq (tgt := 53) dX11_gapsOf_31 (by decide) (fun c5 => ?_) (fun c5 => ?_)
      · replace H := a_pos c5 H
        refine aw_iconst (v := 0) dX11_gapsOf_53 (by decide) ?_
        refine aw_iadd dX11_gapsOf_54 ?_
        refine aw_name (fun x2_6 e_x2_6 => ?_)
        replace H := H x2_6 e_x2_6
        refine aw_istore_n (lv' := [(2, .int x2_6), (5, .int r4), (0, .ref (G.2.1 k)), (1, .int a1), (3, .int x3), (4, .int x4)]) dX11_gapsOf_55 rfl (by decide) rfl ?_
        obtain ⟨x4_7, e_x4_7⟩ : ∃ y : Int32, y = x4 + 1 := ⟨_, rfl⟩
        replace H := H x4_7 e_x4_7
        refine aw_iinc (v := x4_7) (lv' := [(4, .int x4_7), (2, .int x2_6), (5, .int r4), (0, .ref (G.2.1 k)), (1, .int a1), (3, .int x3)]) dX11_gapsOf_56 (n0 := 5) rfl (by rw [e_x4_7]; rfl) (by decide) rfl ?_
        refine aw_goto (tgt := 12) dX11_gapsOf_59 (by decide) ?_
        refine aw_sub (lv' := [(0, .ref (G.2.1 k)), (1, .int a1), (2, .int x2_6), (3, .int x3), (4, .int x4_7)]) [3, 4, 1, 5, 0] rfl ?_
        exact ih _ _ _ _ H
      · replace H := a_neg c5 H
        refine aw_iload dX11_gapsOf_34 0 rfl ?_
        refine aw_iload_n dX11_gapsOf_36 rfl 2 rfl ?_
        refine aw_icmp_eq (tgt := 53) dX11_gapsOf_37 (by decide) (fun c8 => ?_) (fun c8 => ?_)
        · replace H := a_pos c8 H
          refine aw_iconst (v := 0) dX11_gapsOf_53 (by decide) ?_
          refine aw_iadd dX11_gapsOf_54 ?_
          refine aw_name (fun x2_9 e_x2_9 => ?_)
          replace H := H x2_9 e_x2_9
          refine aw_istore_n (lv' := [(2, .int x2_9), (5, .int r4), (0, .ref (G.2.1 k)), (1, .int a1), (3, .int x3), (4, .int x4)]) dX11_gapsOf_55 rfl (by decide) rfl ?_
          obtain ⟨x4_10, e_x4_10⟩ : ∃ y : Int32, y = x4 + 1 := ⟨_, rfl⟩
          replace H := H x4_10 e_x4_10
          refine aw_iinc (v := x4_10) (lv' := [(4, .int x4_10), (2, .int x2_9), (5, .int r4), (0, .ref (G.2.1 k)), (1, .int a1), (3, .int x3)]) dX11_gapsOf_56 (n0 := 5) rfl (by rw [e_x4_10]; rfl) (by decide) rfl ?_
          refine aw_goto (tgt := 12) dX11_gapsOf_59 (by decide) ?_
          refine aw_sub (lv' := [(0, .ref (G.2.1 k)), (1, .int a1), (2, .int x2_9), (3, .int x3), (4, .int x4_10)]) [3, 4, 1, 5, 0] rfl ?_
          exact ih _ _ _ _ H
        · replace H := a_neg c8 H
          refine aw_aload_n dX11_gapsOf_40 rfl 1 rfl ?_
          refine aw_iload dX11_gapsOf_41 0 rfl ?_
          refine aw_callV_i (As := [.int r4]) (rest := [.int x2]) (am_X11_isIce (d + 3) o_k H) mf_X11_isIce wd_1374 wd_1376 ws_4_4 cf_X11 o_k rfl rfl (Nat.le_of_ble_eq_true rfl) dX11_gapsOf_43 (fun r12 h11 H => ?_)
          refine aw_if_ne (tgt := 53) dX11_gapsOf_46 (by decide) (fun c13 => ?_) (fun c13 => ?_)
          · replace H := a_pos c13 H
            refine aw_iconst (v := 0) dX11_gapsOf_53 (by decide) ?_
            refine aw_iadd dX11_gapsOf_54 ?_
            refine aw_name (fun x2_14 e_x2_14 => ?_)
            replace H := H x2_14 e_x2_14
            refine aw_istore_n (lv' := [(2, .int x2_14), (5, .int r4), (0, .ref (G.2.1 k)), (1, .int a1), (3, .int x3), (4, .int x4)]) dX11_gapsOf_55 rfl (by decide) rfl ?_
            obtain ⟨x4_15, e_x4_15⟩ : ∃ y : Int32, y = x4 + 1 := ⟨_, rfl⟩
            replace H := H x4_15 e_x4_15
            refine aw_iinc (v := x4_15) (lv' := [(4, .int x4_15), (2, .int x2_14), (5, .int r4), (0, .ref (G.2.1 k)), (1, .int a1), (3, .int x3)]) dX11_gapsOf_56 (n0 := 5) rfl (by rw [e_x4_15]; rfl) (by decide) rfl ?_
            refine aw_goto (tgt := 12) dX11_gapsOf_59 (by decide) ?_
            refine aw_sub (lv' := [(0, .ref (G.2.1 k)), (1, .int a1), (2, .int x2_14), (3, .int x3), (4, .int x4_15)]) [3, 4, 1, 5, 0] rfl ?_
            exact ih _ _ _ _ H
          · replace H := a_neg2 c13 H
            refine aw_iconst (v := 1) dX11_gapsOf_49 (by decide) ?_
            refine aw_goto (tgt := 54) dX11_gapsOf_50 (by decide) ?_
            refine aw_iadd dX11_gapsOf_54 ?_
            refine aw_name (fun x2_16 e_x2_16 => ?_)
            replace H := H x2_16 e_x2_16
            refine aw_istore_n (lv' := [(2, .int x2_16), (5, .int r4), (0, .ref (G.2.1 k)), (1, .int a1), (3, .int x3), (4, .int x4)]) dX11_gapsOf_55 rfl (by decide) rfl ?_
            obtain ⟨x4_17, e_x4_17⟩ : ∃ y : Int32, y = x4 + 1 := ⟨_, rfl⟩
            replace H := H x4_17 e_x4_17
            refine aw_iinc (v := x4_17) (lv' := [(4, .int x4_17), (2, .int x2_16), (5, .int r4), (0, .ref (G.2.1 k)), (1, .int a1), (3, .int x3)]) dX11_gapsOf_56 (n0 := 5) rfl (by rw [e_x4_17]; rfl) (by decide) rfl ?_
            refine aw_goto (tgt := 12) dX11_gapsOf_59 (by decide) ?_
            refine aw_sub (lv' := [(0, .ref (G.2.1 k)), (1, .int a1), (2, .int x2_16), (3, .int x3), (4, .int x4_17)]) [3, 4, 1, 5, 0] rfl ?_
            exact ih _ _ _ _ H
set_option maxHeartbeats 4000000 in
set_option maxRecDepth 100000 in
theorem fm_X11_gapsOf_4 {l : Launch} {S : aS} {G : aG} (d : Nat) {k : Nat} {a1 : Int32} {Q : Int32 → aH → Prop} (o_k : aObj S k 10 flX11) : ∀ (n : Nat) (x2 : Int32) (x3 : Int32) (h : aH), f_X11_gapsOf_4 S k a1 Q n x2 x3 h → AW l S G (d + 4) M_X11_gapsOf (va_Qi Q (aPo S G) (aA S G)) 4 [(0, .ref (G.2.1 k)), (1, .int a1), (2, .int x2), (3, .int x3)] [] h := by
  intro n
  induction n with
  | zero => intro x2 x3 h H; exact False.elim H
  | succ n ih =>
    intro x2 x3 h H
    unfold f_X11_gapsOf_4 at H
    refine aw_iload_n dX11_gapsOf_4 rfl 3 rfl ?_
    refine aw_iconst (v := 2) dX11_gapsOf_5 (by decide) ?_
    refine aw_icmp_ge (tgt := 68) dX11_gapsOf_6 (by decide) (fun c18 => ?_) (fun c18 => ?_)
    · replace H := a_pos c18 H
      refine aw_iload_n dX11_gapsOf_68 rfl 2 rfl ?_
      exact aw_iret rfl H dX11_gapsOf_69
    · replace H := a_neg c18 H
      refine aw_iconst (v := (-1)) dX11_gapsOf_9 (by decide) ?_
      refine aw_istore (lv' := [(4, .int (-1)), (0, .ref (G.2.1 k)), (1, .int a1), (2, .int x2), (3, .int x3)]) dX11_gapsOf_10 (by decide) rfl ?_
      refine aw_sub (lv' := [(0, .ref (G.2.1 k)), (1, .int a1), (2, .int x2), (3, .int x3), (4, .int (-1))]) [1, 2, 3, 4, 0] rfl ?_
      obtain ⟨n1, H⟩ := H
      exact fm_X11_gapsOf_12 d o_k ih n1 _ _ _ _ H
set_option maxHeartbeats 4000000 in
set_option maxRecDepth 100000 in
theorem am_X11_gapsOf {l : Launch} {S : aS} {G : aG} (d : Nat) {k : Nat} {a1 : Int32} {h : aH} {Q : Int32 → aH → Prop} (o_k : aObj S k 10 flX11) (H : f_X11_gapsOf S k a1 h Q) : AMi l S G (d + 4) M_X11_gapsOf [.ref (G.2.1 k), .int a1] h Q := by
  unfold f_X11_gapsOf at H
  refine am_of mf_X11_gapsOf (Nat.le_of_ble_eq_true rfl) (lv0 := [(0, .ref (G.2.1 k)), (1, .int a1)]) rfl ?_
  refine aw_iconst (v := 0) dX11_gapsOf_0 (by decide) ?_
  refine aw_istore_n (lv' := [(2, .int 0), (0, .ref (G.2.1 k)), (1, .int a1)]) dX11_gapsOf_1 rfl (by decide) rfl ?_
  refine aw_iconst (v := (-1)) dX11_gapsOf_2 (by decide) ?_
  refine aw_istore_n (lv' := [(3, .int (-1)), (2, .int 0), (0, .ref (G.2.1 k)), (1, .int a1)]) dX11_gapsOf_3 rfl (by decide) rfl ?_
  refine aw_sub (lv' := [(0, .ref (G.2.1 k)), (1, .int a1), (2, .int 0), (3, .int (-1))]) [2, 3, 1, 0] rfl ?_
  obtain ⟨n1, H⟩ := H
  exact fm_X11_gapsOf_4 d o_k n1 _ _ _ H
set_option maxHeartbeats 4000000 in
set_option maxRecDepth 100000 in
theorem fm_X11_warmthOf_12 {l : Launch} {S : aS} {G : aG} (d : Nat) {k : Nat} {a1 : Int32} {Q : Int32 → aH → Prop} (o_k : aObj S k 10 flX11) {K4 : Int32 → Int32 → aH → Prop} (hK4 : ∀ (x2 : Int32) (x3 : Int32) (h : aH), K4 x2 x3 h → AW l S G (d + 4) M_X11_warmthOf (va_Qi Q (aPo S G) (aA S G)) 4 [(0, .ref (G.2.1 k)), (1, .int a1), (2, .int x2), (3, .int x3)] [] h) : ∀ (n : Nat) (x2 : Int32) (x3 : Int32) (x4 : Int32) (h : aH), f_X11_warmthOf_12 S k a1 Q K4 n x2 x3 x4 h → AW l S G (d + 4) M_X11_warmthOf (va_Qi Q (aPo S G) (aA S G)) 12 [(0, .ref (G.2.1 k)), (1, .int a1), (2, .int x2), (3, .int x3), (4, .int x4)] [] h := by
  intro n
  induction n with
  | zero => intro x2 x3 x4 h H; exact False.elim H
  | succ n ih =>
    intro x2 x3 x4 h H
    unfold f_X11_warmthOf_12 at H
    refine aw_iload dX11_warmthOf_12 4 rfl ?_
    refine aw_iconst (v := 2) dX11_warmthOf_14 (by decide) ?_
    refine aw_icmp_ge (tgt := 69) dX11_warmthOf_15 (by decide) (fun c1 => ?_) (fun c1 => ?_)
    · replace H := a_pos c1 H
      obtain ⟨x3_2, e_x3_2⟩ : ∃ y : Int32, y = x3 + 1 := ⟨_, rfl⟩
      replace H := H x3_2 e_x3_2
      refine aw_iinc (v := x3_2) (lv' := [(3, .int x3_2), (0, .ref (G.2.1 k)), (1, .int a1), (2, .int x2), (4, .int x4)]) dX11_warmthOf_69 (n0 := 3) rfl (by rw [e_x3_2]; rfl) (by decide) rfl ?_
      refine aw_goto (tgt := 4) dX11_warmthOf_72 (by decide) ?_
      refine aw_sub (lv' := [(0, .ref (G.2.1 k)), (1, .int a1), (2, .int x2), (3, .int x3_2)]) [1, 2, 3, 0] rfl ?_
      exact hK4 _ _ _ H
    · replace H := a_neg c1 H
      refine aw_iload_n dX11_warmthOf_18 rfl 1 rfl ?_
      refine aw_iload dX11_warmthOf_19 4 rfl ?_
      refine aw_iload_n dX11_warmthOf_21 rfl 3 rfl ?_
      refine aw_callS_i (As := [.int a1, .int x4, .int x3]) (rest := []) (am_X11_aside d H) mf_X11_aside wd_1413 wd_1414 rfl rfl (Nat.le_of_ble_eq_true rfl) dX11_warmthOf_22 (fun r4 h3 H => ?_)
      refine aw_istore (lv' := [(5, .int r4), (0, .ref (G.2.1 k)), (1, .int a1), (2, .int x2), (3, .int x3), (4, .int x4)]) dX11_warmthOf_25 (by decide) rfl ?_
      refine aw_iload_n dX11_warmthOf_27 rfl 3 rfl ?_
      refine aw_iload dX11_warmthOf_28 0 rfl ?_
      refine aw_iconst (v := (-1)) dX11_warmthOf_30 (by decide) ?_
      refine aw_icmp_eq (tgt := 60) dX11_warmthOf_31 (by decide) (fun c5 => ?_) (fun c5 => ?_)
      · replace H := a_pos c5 H
        refine aw_iconst (v := 0) dX11_warmthOf_60 (by decide) ?_
        refine aw_iadd dX11_warmthOf_61 ?_
        refine aw_name (fun x2_6 e_x2_6 => ?_)
        replace H := H x2_6 e_x2_6
        refine aw_istore_n (lv' := [(2, .int x2_6), (5, .int r4), (0, .ref (G.2.1 k)), (1, .int a1), (3, .int x3), (4, .int x4)]) dX11_warmthOf_62 rfl (by decide) rfl ?_
        obtain ⟨x4_7, e_x4_7⟩ : ∃ y : Int32, y = x4 + 1 := ⟨_, rfl⟩
        replace H := H x4_7 e_x4_7
        refine aw_iinc (v := x4_7) (lv' := [(4, .int x4_7), (2, .int x2_6), (5, .int r4), (0, .ref (G.2.1 k)), (1, .int a1), (3, .int x3)]) dX11_warmthOf_63 (n0 := 5) rfl (by rw [e_x4_7]; rfl) (by decide) rfl ?_
        refine aw_goto (tgt := 12) dX11_warmthOf_66 (by decide) ?_
        refine aw_sub (lv' := [(0, .ref (G.2.1 k)), (1, .int a1), (2, .int x2_6), (3, .int x3), (4, .int x4_7)]) [3, 4, 1, 5, 0] rfl ?_
        exact ih _ _ _ _ H
      · replace H := a_neg c5 H
        refine aw_aload_n dX11_warmthOf_34 rfl 1 rfl ?_
        refine aw_getR cf_X11 8 (by decide) rfl wd_1044 o_k dX11_warmthOf_35 ?_
        refine aw_iload dX11_warmthOf_38 0 rfl ?_
        obtain ⟨z8, H⟩ := H
        refine aw_iaload z8 dX11_warmthOf_40 ?_
        refine aw_name (fun v9 e_v9 => ?_)
        replace H := H v9 e_v9
        refine aw_iconst (v := (-1)) dX11_warmthOf_41 (by decide) ?_
        refine aw_icmp_eq (tgt := 60) dX11_warmthOf_42 (by decide) (fun c10 => ?_) (fun c10 => ?_)
        · replace H := a_pos c10 H
          refine aw_iconst (v := 0) dX11_warmthOf_60 (by decide) ?_
          refine aw_iadd dX11_warmthOf_61 ?_
          refine aw_name (fun x2_11 e_x2_11 => ?_)
          replace H := H x2_11 e_x2_11
          refine aw_istore_n (lv' := [(2, .int x2_11), (5, .int r4), (0, .ref (G.2.1 k)), (1, .int a1), (3, .int x3), (4, .int x4)]) dX11_warmthOf_62 rfl (by decide) rfl ?_
          obtain ⟨x4_12, e_x4_12⟩ : ∃ y : Int32, y = x4 + 1 := ⟨_, rfl⟩
          replace H := H x4_12 e_x4_12
          refine aw_iinc (v := x4_12) (lv' := [(4, .int x4_12), (2, .int x2_11), (5, .int r4), (0, .ref (G.2.1 k)), (1, .int a1), (3, .int x3)]) dX11_warmthOf_63 (n0 := 5) rfl (by rw [e_x4_12]; rfl) (by decide) rfl ?_
          refine aw_goto (tgt := 12) dX11_warmthOf_66 (by decide) ?_
          refine aw_sub (lv' := [(0, .ref (G.2.1 k)), (1, .int a1), (2, .int x2_11), (3, .int x3), (4, .int x4_12)]) [3, 4, 1, 5, 0] rfl ?_
          exact ih _ _ _ _ H
        · replace H := a_neg c10 H
          refine aw_aload_n dX11_warmthOf_45 rfl 1 rfl ?_
          refine aw_getR cf_X11 11 (by decide) rfl wd_1047 o_k dX11_warmthOf_46 ?_
          refine aw_aload_n dX11_warmthOf_49 rfl 1 rfl ?_
          refine aw_getR cf_X11 8 (by decide) rfl wd_1044 o_k dX11_warmthOf_50 ?_
          refine aw_iload dX11_warmthOf_53 0 rfl ?_
          obtain ⟨z13, H⟩ := H
          refine aw_iaload z13 dX11_warmthOf_55 ?_
          refine aw_name (fun v14 e_v14 => ?_)
          replace H := H v14 e_v14
          obtain ⟨z15, H⟩ := H
          refine aw_iaload z15 dX11_warmthOf_56 ?_
          refine aw_name (fun v16 e_v16 => ?_)
          replace H := H v16 e_v16
          refine aw_goto (tgt := 61) dX11_warmthOf_57 (by decide) ?_
          refine aw_iadd dX11_warmthOf_61 ?_
          refine aw_name (fun x2_17 e_x2_17 => ?_)
          replace H := H x2_17 e_x2_17
          refine aw_istore_n (lv' := [(2, .int x2_17), (5, .int r4), (0, .ref (G.2.1 k)), (1, .int a1), (3, .int x3), (4, .int x4)]) dX11_warmthOf_62 rfl (by decide) rfl ?_
          obtain ⟨x4_18, e_x4_18⟩ : ∃ y : Int32, y = x4 + 1 := ⟨_, rfl⟩
          replace H := H x4_18 e_x4_18
          refine aw_iinc (v := x4_18) (lv' := [(4, .int x4_18), (2, .int x2_17), (5, .int r4), (0, .ref (G.2.1 k)), (1, .int a1), (3, .int x3)]) dX11_warmthOf_63 (n0 := 5) rfl (by rw [e_x4_18]; rfl) (by decide) rfl ?_
          refine aw_goto (tgt := 12) dX11_warmthOf_66 (by decide) ?_
          refine aw_sub (lv' := [(0, .ref (G.2.1 k)), (1, .int a1), (2, .int x2_17), (3, .int x3), (4, .int x4_18)]) [3, 4, 1, 5, 0] rfl ?_
          exact ih _ _ _ _ H
set_option maxHeartbeats 4000000 in
set_option maxRecDepth 100000 in
theorem fm_X11_warmthOf_4 {l : Launch} {S : aS} {G : aG} (d : Nat) {k : Nat} {a1 : Int32} {Q : Int32 → aH → Prop} (o_k : aObj S k 10 flX11) : ∀ (n : Nat) (x2 : Int32) (x3 : Int32) (h : aH), f_X11_warmthOf_4 S k a1 Q n x2 x3 h → AW l S G (d + 4) M_X11_warmthOf (va_Qi Q (aPo S G) (aA S G)) 4 [(0, .ref (G.2.1 k)), (1, .int a1), (2, .int x2), (3, .int x3)] [] h := by
  intro n
  induction n with
  | zero => intro x2 x3 h H; exact False.elim H
  | succ n ih =>
    intro x2 x3 h H
    unfold f_X11_warmthOf_4 at H
    refine aw_iload_n dX11_warmthOf_4 rfl 3 rfl ?_
    refine aw_iconst (v := 2) dX11_warmthOf_5 (by decide) ?_
    refine aw_icmp_ge (tgt := 75) dX11_warmthOf_6 (by decide) (fun c19 => ?_) (fun c19 => ?_)
    · replace H := a_pos c19 H
      refine aw_iload_n dX11_warmthOf_75 rfl 2 rfl ?_
      exact aw_iret rfl H dX11_warmthOf_76
    · replace H := a_neg c19 H
      refine aw_iconst (v := (-1)) dX11_warmthOf_9 (by decide) ?_
      refine aw_istore (lv' := [(4, .int (-1)), (0, .ref (G.2.1 k)), (1, .int a1), (2, .int x2), (3, .int x3)]) dX11_warmthOf_10 (by decide) rfl ?_
      refine aw_sub (lv' := [(0, .ref (G.2.1 k)), (1, .int a1), (2, .int x2), (3, .int x3), (4, .int (-1))]) [1, 2, 3, 4, 0] rfl ?_
      obtain ⟨n1, H⟩ := H
      exact fm_X11_warmthOf_12 d o_k ih n1 _ _ _ _ H
set_option maxHeartbeats 4000000 in
set_option maxRecDepth 100000 in
theorem am_X11_warmthOf {l : Launch} {S : aS} {G : aG} (d : Nat) {k : Nat} {a1 : Int32} {h : aH} {Q : Int32 → aH → Prop} (o_k : aObj S k 10 flX11) (H : f_X11_warmthOf S k a1 h Q) : AMi l S G (d + 4) M_X11_warmthOf [.ref (G.2.1 k), .int a1] h Q := by
  unfold f_X11_warmthOf at H
  refine am_of mf_X11_warmthOf (Nat.le_of_ble_eq_true rfl) (lv0 := [(0, .ref (G.2.1 k)), (1, .int a1)]) rfl ?_
  refine aw_iconst (v := 0) dX11_warmthOf_0 (by decide) ?_
  refine aw_istore_n (lv' := [(2, .int 0), (0, .ref (G.2.1 k)), (1, .int a1)]) dX11_warmthOf_1 rfl (by decide) rfl ?_
  refine aw_iconst (v := (-1)) dX11_warmthOf_2 (by decide) ?_
  refine aw_istore_n (lv' := [(3, .int (-1)), (2, .int 0), (0, .ref (G.2.1 k)), (1, .int a1)]) dX11_warmthOf_3 rfl (by decide) rfl ?_
  refine aw_sub (lv' := [(0, .ref (G.2.1 k)), (1, .int a1), (2, .int 0), (3, .int (-1))]) [2, 3, 1, 0] rfl ?_
  obtain ⟨n1, H⟩ := H
  exact fm_X11_warmthOf_4 d o_k n1 _ _ _ H
set_option maxHeartbeats 4000000 in
set_option maxRecDepth 100000 in
theorem fm_X11_carriedOn_4 {l : Launch} {S : aS} {G : aG} (d : Nat) {k : Nat} {a1 : Int32} {Q : Int32 → aH → Prop} (o_k : aObj S k 10 flX11) : ∀ (n : Nat) (x2 : Int32) (x3 : Int32) (h : aH), f_X11_carriedOn_4 S k a1 Q n x2 x3 h → AW l S G d M_X11_carriedOn (va_Qi Q (aPo S G) (aA S G)) 4 [(0, .ref (G.2.1 k)), (1, .int a1), (2, .int x2), (3, .int x3)] [] h := by
  intro n
  induction n with
  | zero => intro x2 x3 h H; exact False.elim H
  | succ n ih =>
    intro x2 x3 h H
    unfold f_X11_carriedOn_4 at H
    refine aw_iload_n dX11_carriedOn_4 rfl 3 rfl ?_
    refine aw_aload_n dX11_carriedOn_5 rfl 0 rfl ?_
    refine aw_getI cf_X11 3 (by decide) rfl wd_1039 o_k dX11_carriedOn_6 ?_
    refine aw_name (fun v1 e_v1 => ?_)
    replace H := H v1 e_v1
    refine aw_icmp_ge (tgt := 41) dX11_carriedOn_9 (by decide) (fun c2 => ?_) (fun c2 => ?_)
    · replace H := a_pos c2 H
      refine aw_iload_n dX11_carriedOn_41 rfl 2 rfl ?_
      exact aw_iret rfl H dX11_carriedOn_42
    · replace H := a_neg c2 H
      refine aw_iload_n dX11_carriedOn_12 rfl 2 rfl ?_
      refine aw_aload_n dX11_carriedOn_13 rfl 0 rfl ?_
      refine aw_getR cf_X11 14 (by decide) rfl wd_1050 o_k dX11_carriedOn_14 ?_
      refine aw_iload_n dX11_carriedOn_17 rfl 3 rfl ?_
      obtain ⟨z3, H⟩ := H
      refine aw_iaload z3 dX11_carriedOn_18 ?_
      refine aw_name (fun v4 e_v4 => ?_)
      replace H := H v4 e_v4
      refine aw_iload_n dX11_carriedOn_19 rfl 1 rfl ?_
      refine aw_icmp_ne (tgt := 32) dX11_carriedOn_20 (by decide) (fun c5 => ?_) (fun c5 => ?_)
      · replace H := a_pos c5 H
        refine aw_iconst (v := 0) dX11_carriedOn_32 (by decide) ?_
        refine aw_iadd dX11_carriedOn_33 ?_
        refine aw_name (fun x2_6 e_x2_6 => ?_)
        replace H := H x2_6 e_x2_6
        refine aw_istore_n (lv' := [(2, .int x2_6), (0, .ref (G.2.1 k)), (1, .int a1), (3, .int x3)]) dX11_carriedOn_34 rfl (by decide) rfl ?_
        obtain ⟨x3_7, e_x3_7⟩ : ∃ y : Int32, y = x3 + 1 := ⟨_, rfl⟩
        replace H := H x3_7 e_x3_7
        refine aw_iinc (v := x3_7) (lv' := [(3, .int x3_7), (2, .int x2_6), (0, .ref (G.2.1 k)), (1, .int a1)]) dX11_carriedOn_35 (n0 := 3) rfl (by rw [e_x3_7]; rfl) (by decide) rfl ?_
        refine aw_goto (tgt := 4) dX11_carriedOn_38 (by decide) ?_
        refine aw_sub (lv' := [(0, .ref (G.2.1 k)), (1, .int a1), (2, .int x2_6), (3, .int x3_7)]) [2, 3, 1, 0] rfl ?_
        exact ih _ _ _ H
      · replace H := a_neg2 c5 H
        refine aw_aload_n dX11_carriedOn_23 rfl 0 rfl ?_
        refine aw_getR cf_X11 15 (by decide) rfl wd_1051 o_k dX11_carriedOn_24 ?_
        refine aw_iload_n dX11_carriedOn_27 rfl 3 rfl ?_
        obtain ⟨z8, H⟩ := H
        refine aw_iaload z8 dX11_carriedOn_28 ?_
        refine aw_name (fun v9 e_v9 => ?_)
        replace H := H v9 e_v9
        refine aw_goto (tgt := 33) dX11_carriedOn_29 (by decide) ?_
        refine aw_iadd dX11_carriedOn_33 ?_
        refine aw_name (fun x2_10 e_x2_10 => ?_)
        replace H := H x2_10 e_x2_10
        refine aw_istore_n (lv' := [(2, .int x2_10), (0, .ref (G.2.1 k)), (1, .int a1), (3, .int x3)]) dX11_carriedOn_34 rfl (by decide) rfl ?_
        obtain ⟨x3_11, e_x3_11⟩ : ∃ y : Int32, y = x3 + 1 := ⟨_, rfl⟩
        replace H := H x3_11 e_x3_11
        refine aw_iinc (v := x3_11) (lv' := [(3, .int x3_11), (2, .int x2_10), (0, .ref (G.2.1 k)), (1, .int a1)]) dX11_carriedOn_35 (n0 := 3) rfl (by rw [e_x3_11]; rfl) (by decide) rfl ?_
        refine aw_goto (tgt := 4) dX11_carriedOn_38 (by decide) ?_
        refine aw_sub (lv' := [(0, .ref (G.2.1 k)), (1, .int a1), (2, .int x2_10), (3, .int x3_11)]) [2, 3, 1, 0] rfl ?_
        exact ih _ _ _ H
set_option maxHeartbeats 4000000 in
set_option maxRecDepth 100000 in
theorem am_X11_carriedOn {l : Launch} {S : aS} {G : aG} (d : Nat) {k : Nat} {a1 : Int32} {h : aH} {Q : Int32 → aH → Prop} (o_k : aObj S k 10 flX11) (H : f_X11_carriedOn S k a1 h Q) : AMi l S G d M_X11_carriedOn [.ref (G.2.1 k), .int a1] h Q := by
  unfold f_X11_carriedOn at H
  refine am_of mf_X11_carriedOn (Nat.le_of_ble_eq_true rfl) (lv0 := [(0, .ref (G.2.1 k)), (1, .int a1)]) rfl ?_
  refine aw_iconst (v := 0) dX11_carriedOn_0 (by decide) ?_
  refine aw_istore_n (lv' := [(2, .int 0), (0, .ref (G.2.1 k)), (1, .int a1)]) dX11_carriedOn_1 rfl (by decide) rfl ?_
  refine aw_iconst (v := 0) dX11_carriedOn_2 (by decide) ?_
  refine aw_istore_n (lv' := [(3, .int 0), (2, .int 0), (0, .ref (G.2.1 k)), (1, .int a1)]) dX11_carriedOn_3 rfl (by decide) rfl ?_
  refine aw_sub (lv' := [(0, .ref (G.2.1 k)), (1, .int a1), (2, .int 0), (3, .int 0)]) [2, 3, 1, 0] rfl ?_
  obtain ⟨n1, H⟩ := H
  exact fm_X11_carriedOn_4 d o_k n1 _ _ _ H
set_option maxHeartbeats 4000000 in
set_option maxRecDepth 100000 in
theorem fm_X11_standsOn_2 {l : Launch} {S : aS} {G : aG} (d : Nat) {k : Nat} {a1 : Int32} {Q : Int32 → aH → Prop} (o_k : aObj S k 10 flX11) : ∀ (n : Nat) (x2 : Int32) (h : aH), f_X11_standsOn_2 S k a1 Q n x2 h → AW l S G d M_X11_standsOn (va_Qi Q (aPo S G) (aA S G)) 2 [(0, .ref (G.2.1 k)), (1, .int a1), (2, .int x2)] [] h := by
  intro n
  induction n with
  | zero => intro x2 h H; exact False.elim H
  | succ n ih =>
    intro x2 h H
    unfold f_X11_standsOn_2 at H
    refine aw_iload_n dX11_standsOn_2 rfl 2 rfl ?_
    refine aw_aload_n dX11_standsOn_3 rfl 0 rfl ?_
    refine aw_getI cf_X11 3 (by decide) rfl wd_1039 o_k dX11_standsOn_4 ?_
    refine aw_name (fun v1 e_v1 => ?_)
    replace H := H v1 e_v1
    refine aw_icmp_ge (tgt := 28) dX11_standsOn_7 (by decide) (fun c2 => ?_) (fun c2 => ?_)
    · replace H := a_pos c2 H
      refine aw_iconst (v := 0) dX11_standsOn_28 (by decide) ?_
      exact aw_zret rfl rfl H dX11_standsOn_29
    · replace H := a_neg c2 H
      refine aw_aload_n dX11_standsOn_10 rfl 0 rfl ?_
      refine aw_getR cf_X11 14 (by decide) rfl wd_1050 o_k dX11_standsOn_11 ?_
      refine aw_iload_n dX11_standsOn_14 rfl 2 rfl ?_
      obtain ⟨z3, H⟩ := H
      refine aw_iaload z3 dX11_standsOn_15 ?_
      refine aw_name (fun v4 e_v4 => ?_)
      replace H := H v4 e_v4
      refine aw_iload_n dX11_standsOn_16 rfl 1 rfl ?_
      refine aw_icmp_ne (tgt := 22) dX11_standsOn_17 (by decide) (fun c5 => ?_) (fun c5 => ?_)
      · replace H := a_pos c5 H
        obtain ⟨x2_6, e_x2_6⟩ : ∃ y : Int32, y = x2 + 1 := ⟨_, rfl⟩
        replace H := H x2_6 e_x2_6
        refine aw_iinc (v := x2_6) (lv' := [(2, .int x2_6), (0, .ref (G.2.1 k)), (1, .int a1)]) dX11_standsOn_22 (n0 := 2) rfl (by rw [e_x2_6]; rfl) (by decide) rfl ?_
        refine aw_goto (tgt := 2) dX11_standsOn_25 (by decide) ?_
        refine aw_sub (lv' := [(0, .ref (G.2.1 k)), (1, .int a1), (2, .int x2_6)]) [1, 2, 0] rfl ?_
        exact ih _ _ H
      · replace H := a_neg2 c5 H
        refine aw_iconst (v := 1) dX11_standsOn_20 (by decide) ?_
        exact aw_zret rfl rfl H dX11_standsOn_21
set_option maxHeartbeats 4000000 in
set_option maxRecDepth 100000 in
theorem am_X11_standsOn {l : Launch} {S : aS} {G : aG} (d : Nat) {k : Nat} {a1 : Int32} {h : aH} {Q : Int32 → aH → Prop} (o_k : aObj S k 10 flX11) (H : f_X11_standsOn S k a1 h Q) : AMi l S G d M_X11_standsOn [.ref (G.2.1 k), .int a1] h Q := by
  unfold f_X11_standsOn at H
  refine am_of mf_X11_standsOn (Nat.le_of_ble_eq_true rfl) (lv0 := [(0, .ref (G.2.1 k)), (1, .int a1)]) rfl ?_
  refine aw_iconst (v := 0) dX11_standsOn_0 (by decide) ?_
  refine aw_istore_n (lv' := [(2, .int 0), (0, .ref (G.2.1 k)), (1, .int a1)]) dX11_standsOn_1 rfl (by decide) rfl ?_
  refine aw_sub (lv' := [(0, .ref (G.2.1 k)), (1, .int a1), (2, .int 0)]) [1, 2, 0] rfl ?_
  obtain ⟨n1, H⟩ := H
  exact fm_X11_standsOn_2 d o_k n1 _ _ H
set_option maxHeartbeats 4000000 in
set_option maxRecDepth 100000 in
theorem am_X11_ice {l : Launch} {S : aS} {G : aG} (d : Nat) {k : Nat} {a1 : Int32} {a2 : Int32} {a3 : Int32} {h : aH} {Q : Int32 → aH → Prop} (o_k : aObj S k 10 flX11) (H : f_X11_ice S k a1 a2 a3 h Q) : AMi l S G (d + 3) M_X11_ice [.ref (G.2.1 k), .int a1, .int a2, .int a3] h Q := by
  unfold f_X11_ice at H
  refine am_of mf_X11_ice (Nat.le_of_ble_eq_true rfl) (lv0 := [(0, .ref (G.2.1 k)), (1, .int a1), (2, .int a2), (3, .int a3)]) rfl ?_
  refine aw_iload_n dX11_ice_0 rfl 1 rfl ?_
  refine aw_iload_n dX11_ice_1 rfl 2 rfl ?_
  refine aw_callS_i (As := [.int a1, .int a2]) (rest := []) (am_X11_isSquare d H) mf_X11_isSquare wd_1251 wd_1252 rfl rfl (Nat.le_of_ble_eq_true rfl) dX11_ice_2 (fun r2 h1 H => ?_)
  refine aw_if_eq (tgt := 20) dX11_ice_5 (by decide) (fun c3 => ?_) (fun c3 => ?_)
  · replace H := a_pos c3 H
    refine aw_iconst (v := 0) dX11_ice_20 (by decide) ?_
    exact aw_zret rfl rfl H dX11_ice_21
  · replace H := a_neg c3 H
    refine aw_iload_n dX11_ice_8 rfl 3 rfl ?_
    refine aw_i2l dX11_ice_9 ?_
    refine aw_lconst (v := 0) dX11_ice_10 (by decide) ?_
    refine aw_ldc2 (v := 99) dX11_ice_11 wd_1261 ?_
    refine aw_callS_i (As := [.long (a3).toInt64, .long 0, .long 99]) (rest := []) (am_X11_lies (d + 2) H) mf_X11_lies wd_1258 wd_1259 rfl rfl (Nat.le_of_ble_eq_true rfl) dX11_ice_14 (fun r5 h4 H => ?_)
    refine aw_if_ne (tgt := 22) dX11_ice_17 (by decide) (fun c6 => ?_) (fun c6 => ?_)
    · replace H := a_pos c6 H
      refine aw_aload_n dX11_ice_22 rfl 0 rfl ?_
      refine aw_getR cf_X11 6 (by decide) rfl wd_1042 o_k dX11_ice_23 ?_
      refine aw_bipush (v := 16) dX11_ice_26 (by decide) ?_
      refine aw_iload_n dX11_ice_28 rfl 2 rfl ?_
      refine aw_imul dX11_ice_29 ?_
      refine aw_iload_n dX11_ice_30 rfl 1 rfl ?_
      refine aw_iadd dX11_ice_31 ?_
      refine aw_iload_n dX11_ice_32 rfl 3 rfl ?_
      obtain ⟨z7, H⟩ := H
      refine aw_iastore z7 dX11_ice_33 ?_
      refine aw_nameH (fun h8 e_h8 => ?_)
      replace H := H h8 e_h8
      refine aw_aload_n dX11_ice_34 rfl 0 rfl ?_
      refine aw_getR cf_X11 7 (by decide) rfl wd_1043 o_k dX11_ice_35 ?_
      refine aw_bipush (v := 16) dX11_ice_38 (by decide) ?_
      refine aw_iload_n dX11_ice_40 rfl 2 rfl ?_
      refine aw_imul dX11_ice_41 ?_
      refine aw_iload_n dX11_ice_42 rfl 1 rfl ?_
      refine aw_iadd dX11_ice_43 ?_
      refine aw_iconst (v := 0) dX11_ice_44 (by decide) ?_
      obtain ⟨z9, H⟩ := H
      refine aw_zastore z9 (by decide) dX11_ice_45 ?_
      refine aw_nameH (fun h10 e_h10 => ?_)
      replace H := H h10 e_h10
      refine aw_iconst (v := 1) dX11_ice_46 (by decide) ?_
      exact aw_zret rfl rfl H dX11_ice_47
    · replace H := a_neg2 c6 H
      refine aw_iconst (v := 0) dX11_ice_20 (by decide) ?_
      exact aw_zret rfl rfl H dX11_ice_21
set_option maxHeartbeats 4000000 in
set_option maxRecDepth 100000 in
theorem fm_X11_push_3 {l : Launch} {S : aS} {G : aG} (d : Nat) {k : Nat} {a1 : Int32} {Q : aH → Prop} (o_k : aObj S k 10 flX11) : ∀ (n : Nat) (x2 : Int32) (h : aH), f_X11_push_3 S k a1 Q n x2 h → AW l S G d M_X11_push (va_Qv Q (aPo S G) (aA S G)) 3 [(0, .ref (G.2.1 k)), (1, .int a1), (2, .int x2)] [] h := by
  intro n
  induction n with
  | zero => intro x2 h H; exact False.elim H
  | succ n ih =>
    intro x2 h H
    unfold f_X11_push_3 at H
    refine aw_iload_n dX11_push_3 rfl 2 rfl ?_
    refine aw_if_lt (tgt := 36) dX11_push_4 (by decide) (fun c1 => ?_) (fun c1 => ?_)
    · replace H := a_pos c1 H
      exact aw_vret rfl H dX11_push_36
    · replace H := a_neg c1 H
      refine aw_aload_n dX11_push_7 rfl 0 rfl ?_
      refine aw_getR cf_X11 0 (by decide) rfl wd_1036 o_k dX11_push_8 ?_
      refine aw_aload_n dX11_push_11 rfl 0 rfl ?_
      refine aw_getI cf_X11 1 (by decide) rfl wd_1037 o_k dX11_push_12 ?_
      refine aw_name (fun v2 e_v2 => ?_)
      replace H := H v2 e_v2
      refine aw_iload_n dX11_push_15 rfl 1 rfl ?_
      refine aw_iload_n dX11_push_16 rfl 2 rfl ?_
      refine aw_ishr dX11_push_17 ?_
      refine aw_i2b dX11_push_18 ?_
      obtain ⟨z3, H⟩ := H
      obtain ⟨z5, H⟩ := H
      refine aw_bastore z3 z5 dX11_push_19 ?_
      refine aw_nameH (fun h4 e_h4 => ?_)
      replace H := H h4 e_h4
      refine aw_aload_n dX11_push_20 rfl 0 rfl ?_
      refine aw_dup dX11_push_21 rfl ?_
      refine aw_getI cf_X11 1 (by decide) rfl wd_1037 o_k dX11_push_22 ?_
      refine aw_name (fun v6 e_v6 => ?_)
      replace H := H v6 e_v6
      refine aw_iconst (v := 1) dX11_push_25 (by decide) ?_
      refine aw_iadd dX11_push_26 ?_
      refine aw_putI cf_X11 1 (by decide) rfl wd_1037 rfl rfl rfl o_k dX11_push_27 ?_
      refine aw_nameH (fun h7 e_h7 => ?_)
      replace H := H h7 e_h7
      obtain ⟨x2_8, e_x2_8⟩ : ∃ y : Int32, y = x2 + (-8) := ⟨_, rfl⟩
      replace H := H x2_8 e_x2_8
      refine aw_iinc (v := x2_8) (lv' := [(2, .int x2_8), (0, .ref (G.2.1 k)), (1, .int a1)]) dX11_push_30 (n0 := 2) rfl (by rw [e_x2_8]; rfl) (by decide) rfl ?_
      refine aw_goto (tgt := 3) dX11_push_33 (by decide) ?_
      refine aw_sub (lv' := [(0, .ref (G.2.1 k)), (1, .int a1), (2, .int x2_8)]) [1, 2, 0] rfl ?_
      exact ih _ _ H
set_option maxHeartbeats 4000000 in
set_option maxRecDepth 100000 in
theorem am_X11_push {l : Launch} {S : aS} {G : aG} (d : Nat) {k : Nat} {a1 : Int32} {h : aH} {Q : aH → Prop} (o_k : aObj S k 10 flX11) (H : f_X11_push S k a1 h Q) : AMv l S G d M_X11_push [.ref (G.2.1 k), .int a1] h Q := by
  unfold f_X11_push at H
  refine am_of mf_X11_push (Nat.le_of_ble_eq_true rfl) (lv0 := [(0, .ref (G.2.1 k)), (1, .int a1)]) rfl ?_
  refine aw_bipush (v := 24) dX11_push_0 (by decide) ?_
  refine aw_istore_n (lv' := [(2, .int 24), (0, .ref (G.2.1 k)), (1, .int a1)]) dX11_push_2 rfl (by decide) rfl ?_
  refine aw_sub (lv' := [(0, .ref (G.2.1 k)), (1, .int a1), (2, .int 24)]) [1, 2, 0] rfl ?_
  obtain ⟨n1, H⟩ := H
  exact fm_X11_push_3 d o_k n1 _ _ H
set_option maxHeartbeats 4000000 in
set_option maxRecDepth 100000 in
theorem am_X11_feed {l : Launch} {S : aS} {G : aG} (d : Nat) {k : Nat} {a1 : Int32} {a2 : Int32} {a3 : Int32} {a4 : Int32} {a5 : Int32} {h : aH} {Q : Int32 → aH → Prop} (o_k : aObj S k 10 flX11) (H : f_X11_feed S k a1 a2 a3 a4 a5 h Q) : AMi l S G (d + 1) M_X11_feed [.ref (G.2.1 k), .int a1, .int a2, .int a3, .int a4, .int a5] h Q := by
  unfold f_X11_feed at H
  refine am_of mf_X11_feed (Nat.le_of_ble_eq_true rfl) (lv0 := [(0, .ref (G.2.1 k)), (1, .int a1), (2, .int a2), (3, .int a3), (4, .int a4), (5, .int a5)]) rfl ?_
  refine aw_aload_n dX11_feed_0 rfl 0 rfl ?_
  refine aw_getI cf_X11 1 (by decide) rfl wd_1037 o_k dX11_feed_1 ?_
  refine aw_name (fun v1 e_v1 => ?_)
  replace H := H v1 e_v1
  refine aw_bipush (v := 20) dX11_feed_4 (by decide) ?_
  refine aw_iadd dX11_feed_6 ?_
  refine aw_sipush (v := 220) dX11_feed_7 (by decide) ?_
  refine aw_icmp_le (tgt := 15) dX11_feed_10 (by decide) (fun c2 => ?_) (fun c2 => ?_)
  · replace H := a_pos c2 H
    refine aw_aload_n dX11_feed_15 rfl 0 rfl ?_
    refine aw_iload_n dX11_feed_16 rfl 1 rfl ?_
    refine aw_callV_v (As := [.int a1]) (rest := []) (am_X11_push d o_k H) mf_X11_push wd_1266 wd_1268 ws_3_0 cf_X11 o_k rfl rfl (Nat.le_of_ble_eq_true rfl) dX11_feed_17 (fun h3 H => ?_)
    refine aw_aload_n dX11_feed_20 rfl 0 rfl ?_
    refine aw_iload_n dX11_feed_21 rfl 2 rfl ?_
    refine aw_callV_v (As := [.int a2]) (rest := []) (am_X11_push d o_k H) mf_X11_push wd_1266 wd_1268 ws_3_0 cf_X11 o_k rfl rfl (Nat.le_of_ble_eq_true rfl) dX11_feed_22 (fun h4 H => ?_)
    refine aw_aload_n dX11_feed_25 rfl 0 rfl ?_
    refine aw_iload_n dX11_feed_26 rfl 3 rfl ?_
    refine aw_callV_v (As := [.int a3]) (rest := []) (am_X11_push d o_k H) mf_X11_push wd_1266 wd_1268 ws_3_0 cf_X11 o_k rfl rfl (Nat.le_of_ble_eq_true rfl) dX11_feed_27 (fun h5 H => ?_)
    refine aw_aload_n dX11_feed_30 rfl 0 rfl ?_
    refine aw_iload dX11_feed_31 4 rfl ?_
    refine aw_callV_v (As := [.int a4]) (rest := []) (am_X11_push d o_k H) mf_X11_push wd_1266 wd_1268 ws_3_0 cf_X11 o_k rfl rfl (Nat.le_of_ble_eq_true rfl) dX11_feed_33 (fun h6 H => ?_)
    refine aw_aload_n dX11_feed_36 rfl 0 rfl ?_
    refine aw_iload dX11_feed_37 5 rfl ?_
    refine aw_callV_v (As := [.int a5]) (rest := []) (am_X11_push d o_k H) mf_X11_push wd_1266 wd_1268 ws_3_0 cf_X11 o_k rfl rfl (Nat.le_of_ble_eq_true rfl) dX11_feed_39 (fun h7 H => ?_)
    refine aw_aload_n dX11_feed_42 rfl 0 rfl ?_
    refine aw_getI cf_X11 1 (by decide) rfl wd_1037 o_k dX11_feed_43 ?_
    refine aw_name (fun v8 e_v8 => ?_)
    replace H := H v8 e_v8
    exact aw_iret rfl H dX11_feed_46
  · replace H := a_neg c2 H
    refine aw_iconst (v := (-1)) dX11_feed_13 (by decide) ?_
    exact aw_iret rfl H dX11_feed_14
set_option maxHeartbeats 4000000 in
set_option maxRecDepth 100000 in
theorem am_X11_byteAt {l : Launch} {S : aS} {G : aG} (d : Nat) {k : Nat} {a1 : Int32} {h : aH} {Q : Int32 → aH → Prop} (o_k : aObj S k 10 flX11) (H : f_X11_byteAt S k a1 h Q) : AMi l S G d M_X11_byteAt [.ref (G.2.1 k), .int a1] h Q := by
  unfold f_X11_byteAt at H
  refine am_of mf_X11_byteAt (Nat.le_of_ble_eq_true rfl) (lv0 := [(0, .ref (G.2.1 k)), (1, .int a1)]) rfl ?_
  refine aw_aload_n dX11_byteAt_0 rfl 0 rfl ?_
  refine aw_getR cf_X11 0 (by decide) rfl wd_1036 o_k dX11_byteAt_1 ?_
  refine aw_iload_n dX11_byteAt_4 rfl 1 rfl ?_
  obtain ⟨z1, H⟩ := H
  refine aw_baload z1 dX11_byteAt_5 ?_
  refine aw_name (fun v2 e_v2 => ?_)
  replace H := H v2 e_v2
  refine aw_sipush (v := 255) dX11_byteAt_6 (by decide) ?_
  refine aw_iand dX11_byteAt_9 ?_
  exact aw_iret rfl H dX11_byteAt_10
set_option maxHeartbeats 4000000 in
set_option maxRecDepth 100000 in
theorem am_X11_here {l : Launch} {S : aS} {G : aG} (d : Nat) {k : Nat} {h : aH} {Q : Int32 → aH → Prop} (o_k : aObj S k 10 flX11) (H : f_X11_here S k h Q) : AMi l S G d M_X11_here [.ref (G.2.1 k)] h Q := by
  unfold f_X11_here at H
  refine am_of mf_X11_here (Nat.le_of_ble_eq_true rfl) (lv0 := [(0, .ref (G.2.1 k))]) rfl ?_
  refine aw_aload_n dX11_here_0 rfl 0 rfl ?_
  refine aw_getI cf_X11 29 (by decide) rfl wd_1065 o_k dX11_here_1 ?_
  refine aw_name (fun v1 e_v1 => ?_)
  replace H := H v1 e_v1
  refine aw_aload_n dX11_here_4 rfl 0 rfl ?_
  refine aw_getI cf_X11 30 (by decide) rfl wd_1066 o_k dX11_here_5 ?_
  refine aw_name (fun v2 e_v2 => ?_)
  replace H := H v2 e_v2
  refine aw_icmp_ge (tgt := 27) dX11_here_8 (by decide) (fun c3 => ?_) (fun c3 => ?_)
  · replace H := a_pos c3 H
    refine aw_iconst (v := 0) dX11_here_27 (by decide) ?_
    exact aw_iret rfl H dX11_here_28
  · replace H := a_neg c3 H
    refine aw_aload_n dX11_here_11 rfl 0 rfl ?_
    refine aw_getR cf_X11 0 (by decide) rfl wd_1036 o_k dX11_here_12 ?_
    refine aw_aload_n dX11_here_15 rfl 0 rfl ?_
    refine aw_getI cf_X11 29 (by decide) rfl wd_1065 o_k dX11_here_16 ?_
    refine aw_name (fun v4 e_v4 => ?_)
    replace H := H v4 e_v4
    obtain ⟨z5, H⟩ := H
    refine aw_baload z5 dX11_here_19 ?_
    refine aw_name (fun v6 e_v6 => ?_)
    replace H := H v6 e_v6
    refine aw_sipush (v := 255) dX11_here_20 (by decide) ?_
    refine aw_iand dX11_here_23 ?_
    refine aw_goto (tgt := 28) dX11_here_24 (by decide) ?_
    exact aw_iret rfl H dX11_here_28
set_option maxHeartbeats 4000000 in
set_option maxRecDepth 100000 in
theorem am_X11_wrongs {l : Launch} {S : aS} {G : aG} (d : Nat) {k : Nat} {a1 : Int32} {a2 : Int32} {h : aH} {Q : aH → Prop} (o_k : aObj S k 10 flX11) (H : f_X11_wrongs S k a1 a2 h Q) : AMv l S G d M_X11_wrongs [.ref (G.2.1 k), .int a1, .int a2] h Q := by
  unfold f_X11_wrongs at H
  refine am_of mf_X11_wrongs (Nat.le_of_ble_eq_true rfl) (lv0 := [(0, .ref (G.2.1 k)), (1, .int a1), (2, .int a2)]) rfl ?_
  refine aw_aload_n dX11_wrongs_0 rfl 0 rfl ?_
  refine aw_aload_n dX11_wrongs_1 rfl 0 rfl ?_
  refine aw_getI cf_X11 31 (by decide) rfl wd_1067 o_k dX11_wrongs_2 ?_
  refine aw_name (fun v1 e_v1 => ?_)
  replace H := H v1 e_v1
  refine aw_if_ge (tgt := 15) dX11_wrongs_5 (by decide) (fun c2 => ?_) (fun c2 => ?_)
  · replace H := a_pos c2 H
    refine aw_sipush (v := (-1000)) dX11_wrongs_15 (by decide) ?_
    refine aw_iload_n dX11_wrongs_18 rfl 1 rfl ?_
    refine aw_imul dX11_wrongs_19 ?_
    refine aw_iload_n dX11_wrongs_20 rfl 2 rfl ?_
    refine aw_isub dX11_wrongs_21 ?_
    refine aw_putI cf_X11 31 (by decide) rfl wd_1067 rfl rfl rfl o_k dX11_wrongs_22 ?_
    refine aw_nameH (fun h3 e_h3 => ?_)
    replace H := H h3 e_h3
    exact aw_vret rfl H dX11_wrongs_25
  · replace H := a_neg c2 H
    refine aw_aload_n dX11_wrongs_8 rfl 0 rfl ?_
    refine aw_getI cf_X11 31 (by decide) rfl wd_1067 o_k dX11_wrongs_9 ?_
    refine aw_name (fun v4 e_v4 => ?_)
    replace H := H v4 e_v4
    refine aw_goto (tgt := 22) dX11_wrongs_12 (by decide) ?_
    refine aw_putI cf_X11 31 (by decide) rfl wd_1067 rfl rfl rfl o_k dX11_wrongs_22 ?_
    refine aw_nameH (fun h5 e_h5 => ?_)
    replace H := H h5 e_h5
    exact aw_vret rfl H dX11_wrongs_25
set_option maxHeartbeats 4000000 in
set_option maxRecDepth 100000 in
theorem am_X11_isGood {l : Launch} {S : aS} {G : aG} (d : Nat) {k : Nat} {h : aH} {Q : Int32 → aH → Prop} (o_k : aObj S k 10 flX11) (H : f_X11_isGood S k h Q) : AMi l S G d M_X11_isGood [.ref (G.2.1 k)] h Q := by
  unfold f_X11_isGood at H
  refine am_of mf_X11_isGood (Nat.le_of_ble_eq_true rfl) (lv0 := [(0, .ref (G.2.1 k))]) rfl ?_
  refine aw_aload_n dX11_isGood_0 rfl 0 rfl ?_
  refine aw_getI cf_X11 31 (by decide) rfl wd_1067 o_k dX11_isGood_1 ?_
  refine aw_name (fun v1 e_v1 => ?_)
  replace H := H v1 e_v1
  refine aw_if_ne (tgt := 11) dX11_isGood_4 (by decide) (fun c2 => ?_) (fun c2 => ?_)
  · replace H := a_pos c2 H
    refine aw_iconst (v := 0) dX11_isGood_11 (by decide) ?_
    exact aw_zret rfl rfl H dX11_isGood_12
  · replace H := a_neg2 c2 H
    refine aw_iconst (v := 1) dX11_isGood_7 (by decide) ?_
    refine aw_goto (tgt := 12) dX11_isGood_8 (by decide) ?_
    exact aw_zret rfl rfl H dX11_isGood_12
set_option maxHeartbeats 4000000 in
set_option maxRecDepth 100000 in
theorem am_X11_emit {l : Launch} {S : aS} {G : aG} (d : Nat) {k : Nat} {a1 : Int32} {a2 : Int32} {h : aH} {Q : aH → Prop} (o_k : aObj S k 10 flX11) (H : f_X11_emit S k a1 a2 h Q) : AMv l S G (d + 1) M_X11_emit [.ref (G.2.1 k), .int a1, .int a2] h Q := by
  unfold f_X11_emit at H
  refine am_of mf_X11_emit (Nat.le_of_ble_eq_true rfl) (lv0 := [(0, .ref (G.2.1 k)), (1, .int a1), (2, .int a2)]) rfl ?_
  refine aw_aload_n dX11_emit_0 rfl 0 rfl ?_
  refine aw_callV_i (As := []) (rest := []) (am_X11_isGood d o_k H) mf_X11_isGood wd_1275 wd_1277 ws_3_1 cf_X11 o_k rfl rfl (Nat.le_of_ble_eq_true rfl) dX11_emit_1 (fun r2 h1 H => ?_)
  refine aw_if_ne (tgt := 8) dX11_emit_4 (by decide) (fun c3 => ?_) (fun c3 => ?_)
  · replace H := a_pos c3 H
    refine aw_aload_n dX11_emit_8 rfl 0 rfl ?_
    refine aw_getR cf_X11 27 (by decide) rfl wd_1063 o_k dX11_emit_9 ?_
    refine aw_aload_n dX11_emit_12 rfl 0 rfl ?_
    refine aw_getI cf_X11 33 (by decide) rfl wd_1069 o_k dX11_emit_13 ?_
    refine aw_name (fun v4 e_v4 => ?_)
    replace H := H v4 e_v4
    refine aw_iload_n dX11_emit_16 rfl 1 rfl ?_
    obtain ⟨z5, H⟩ := H
    refine aw_iastore z5 dX11_emit_17 ?_
    refine aw_nameH (fun h6 e_h6 => ?_)
    replace H := H h6 e_h6
    refine aw_aload_n dX11_emit_18 rfl 0 rfl ?_
    refine aw_getR cf_X11 28 (by decide) rfl wd_1064 o_k dX11_emit_19 ?_
    refine aw_aload_n dX11_emit_22 rfl 0 rfl ?_
    refine aw_getI cf_X11 33 (by decide) rfl wd_1069 o_k dX11_emit_23 ?_
    refine aw_name (fun v7 e_v7 => ?_)
    replace H := H v7 e_v7
    refine aw_iload_n dX11_emit_26 rfl 2 rfl ?_
    obtain ⟨z8, H⟩ := H
    refine aw_iastore z8 dX11_emit_27 ?_
    refine aw_nameH (fun h9 e_h9 => ?_)
    replace H := H h9 e_h9
    refine aw_aload_n dX11_emit_28 rfl 0 rfl ?_
    refine aw_dup dX11_emit_29 rfl ?_
    refine aw_getI cf_X11 33 (by decide) rfl wd_1069 o_k dX11_emit_30 ?_
    refine aw_name (fun v10 e_v10 => ?_)
    replace H := H v10 e_v10
    refine aw_iconst (v := 1) dX11_emit_33 (by decide) ?_
    refine aw_iadd dX11_emit_34 ?_
    refine aw_putI cf_X11 33 (by decide) rfl wd_1069 rfl rfl rfl o_k dX11_emit_35 ?_
    refine aw_nameH (fun h11 e_h11 => ?_)
    replace H := H h11 e_h11
    exact aw_vret rfl H dX11_emit_38
  · replace H := a_neg2 c3 H
    exact aw_vret rfl H dX11_emit_7
set_option maxHeartbeats 4000000 in
set_option maxRecDepth 100000 in
theorem am_X11_top {l : Launch} {S : aS} {G : aG} (d : Nat) {k : Nat} {h : aH} {Q : Int32 → aH → Prop} (o_k : aObj S k 10 flX11) (H : f_X11_top S k h Q) : AMi l S G d M_X11_top [.ref (G.2.1 k)] h Q := by
  unfold f_X11_top at H
  refine am_of mf_X11_top (Nat.le_of_ble_eq_true rfl) (lv0 := [(0, .ref (G.2.1 k))]) rfl ?_
  refine aw_aload_n dX11_top_0 rfl 0 rfl ?_
  refine aw_getI cf_X11 35 (by decide) rfl wd_1071 o_k dX11_top_1 ?_
  refine aw_name (fun v1 e_v1 => ?_)
  replace H := H v1 e_v1
  refine aw_if_le (tgt := 21) dX11_top_4 (by decide) (fun c2 => ?_) (fun c2 => ?_)
  · replace H := a_pos c2 H
    refine aw_iconst (v := 0) dX11_top_21 (by decide) ?_
    exact aw_iret rfl H dX11_top_22
  · replace H := a_neg c2 H
    refine aw_aload_n dX11_top_7 rfl 0 rfl ?_
    refine aw_getR cf_X11 38 (by decide) rfl wd_1074 o_k dX11_top_8 ?_
    refine aw_aload_n dX11_top_11 rfl 0 rfl ?_
    refine aw_getI cf_X11 35 (by decide) rfl wd_1071 o_k dX11_top_12 ?_
    refine aw_name (fun v3 e_v3 => ?_)
    replace H := H v3 e_v3
    refine aw_iconst (v := 1) dX11_top_15 (by decide) ?_
    refine aw_isub dX11_top_16 ?_
    obtain ⟨z4, H⟩ := H
    refine aw_iaload z4 dX11_top_17 ?_
    refine aw_name (fun v5 e_v5 => ?_)
    replace H := H v5 e_v5
    refine aw_goto (tgt := 22) dX11_top_18 (by decide) ?_
    exact aw_iret rfl H dX11_top_22
set_option maxHeartbeats 4000000 in
set_option maxRecDepth 100000 in
theorem am_X11_puts {l : Launch} {S : aS} {G : aG} (d : Nat) {k : Nat} {a1 : Int32} {h : aH} {Q : aH → Prop} (o_k : aObj S k 10 flX11) (H : f_X11_puts S k a1 h Q) : AMv l S G d M_X11_puts [.ref (G.2.1 k), .int a1] h Q := by
  unfold f_X11_puts at H
  refine am_of mf_X11_puts (Nat.le_of_ble_eq_true rfl) (lv0 := [(0, .ref (G.2.1 k)), (1, .int a1)]) rfl ?_
  refine aw_aload_n dX11_puts_0 rfl 0 rfl ?_
  refine aw_getR cf_X11 38 (by decide) rfl wd_1074 o_k dX11_puts_1 ?_
  refine aw_aload_n dX11_puts_4 rfl 0 rfl ?_
  refine aw_getI cf_X11 35 (by decide) rfl wd_1071 o_k dX11_puts_5 ?_
  refine aw_name (fun v1 e_v1 => ?_)
  replace H := H v1 e_v1
  refine aw_iload_n dX11_puts_8 rfl 1 rfl ?_
  obtain ⟨z2, H⟩ := H
  refine aw_iastore z2 dX11_puts_9 ?_
  refine aw_nameH (fun h3 e_h3 => ?_)
  replace H := H h3 e_h3
  refine aw_aload_n dX11_puts_10 rfl 0 rfl ?_
  refine aw_dup dX11_puts_11 rfl ?_
  refine aw_getI cf_X11 35 (by decide) rfl wd_1071 o_k dX11_puts_12 ?_
  refine aw_name (fun v4 e_v4 => ?_)
  replace H := H v4 e_v4
  refine aw_iconst (v := 1) dX11_puts_15 (by decide) ?_
  refine aw_iadd dX11_puts_16 ?_
  refine aw_putI cf_X11 35 (by decide) rfl wd_1071 rfl rfl rfl o_k dX11_puts_17 ?_
  refine aw_nameH (fun h5 e_h5 => ?_)
  replace H := H h5 e_h5
  refine aw_aload_n dX11_puts_20 rfl 0 rfl ?_
  refine aw_dup dX11_puts_21 rfl ?_
  refine aw_getI cf_X11 29 (by decide) rfl wd_1065 o_k dX11_puts_22 ?_
  refine aw_name (fun v6 e_v6 => ?_)
  replace H := H v6 e_v6
  refine aw_iconst (v := 1) dX11_puts_25 (by decide) ?_
  refine aw_iadd dX11_puts_26 ?_
  refine aw_putI cf_X11 29 (by decide) rfl wd_1065 rfl rfl rfl o_k dX11_puts_27 ?_
  refine aw_nameH (fun h7 e_h7 => ?_)
  replace H := H h7 e_h7
  exact aw_vret rfl H dX11_puts_30
set_option maxHeartbeats 4000000 in
set_option maxRecDepth 100000 in
theorem am_X11_opens {l : Launch} {S : aS} {G : aG} (d : Nat) {k : Nat} {h : aH} {Q : aH → Prop} (o_k : aObj S k 10 flX11) (H : f_X11_opens S k h Q) : AMv l S G (d + 1) M_X11_opens [.ref (G.2.1 k)] h Q := by
  unfold f_X11_opens at H
  refine am_of mf_X11_opens (Nat.le_of_ble_eq_true rfl) (lv0 := [(0, .ref (G.2.1 k))]) rfl ?_
  refine aw_aload_n dX11_opens_0 rfl 0 rfl ?_
  refine aw_getI cf_X11 34 (by decide) rfl wd_1070 o_k dX11_opens_1 ?_
  refine aw_name (fun v1 e_v1 => ?_)
  replace H := H v1 e_v1
  refine aw_bipush (v := 6) dX11_opens_4 (by decide) ?_
  refine aw_icmp_ne (tgt := 18) dX11_opens_6 (by decide) (fun c2 => ?_) (fun c2 => ?_)
  · replace H := a_pos c2 H
    refine aw_aload_n dX11_opens_18 rfl 0 rfl ?_
    refine aw_dup dX11_opens_19 rfl ?_
    refine aw_getI cf_X11 34 (by decide) rfl wd_1070 o_k dX11_opens_20 ?_
    refine aw_name (fun v3 e_v3 => ?_)
    replace H := H v3 e_v3
    refine aw_iconst (v := 1) dX11_opens_23 (by decide) ?_
    refine aw_iadd dX11_opens_24 ?_
    refine aw_putI cf_X11 34 (by decide) rfl wd_1070 rfl rfl rfl o_k dX11_opens_25 ?_
    refine aw_nameH (fun h4 e_h4 => ?_)
    replace H := H h4 e_h4
    refine aw_aload_n dX11_opens_28 rfl 0 rfl ?_
    refine aw_aload_n dX11_opens_29 rfl 0 rfl ?_
    refine aw_callV_i (As := []) (rest := [.ref (G.2.1 k)]) (am_X11_here d o_k H) mf_X11_here wd_1283 wd_1285 ws_3_3 cf_X11 o_k rfl rfl (Nat.le_of_ble_eq_true rfl) dX11_opens_30 (fun r6 h5 H => ?_)
    refine aw_callV_v (As := [.int r6]) (rest := []) (am_X11_puts d o_k H) mf_X11_puts wd_1303 wd_1305 ws_3_8 cf_X11 o_k rfl rfl (Nat.le_of_ble_eq_true rfl) dX11_opens_33 (fun h7 H => ?_)
    exact aw_vret rfl H dX11_opens_36
  · replace H := a_neg2 c2 H
    refine aw_aload_n dX11_opens_9 rfl 0 rfl ?_
    refine aw_iconst (v := 5) dX11_opens_10 (by decide) ?_
    refine aw_aload_n dX11_opens_11 rfl 0 rfl ?_
    refine aw_getI cf_X11 29 (by decide) rfl wd_1065 o_k dX11_opens_12 ?_
    refine aw_name (fun v8 e_v8 => ?_)
    replace H := H v8 e_v8
    refine aw_callV_v (As := [.int 5, .int v8]) (rest := []) (am_X11_wrongs d o_k H) mf_X11_wrongs wd_1287 wd_1289 ws_3_4 cf_X11 o_k rfl rfl (Nat.le_of_ble_eq_true rfl) dX11_opens_15 (fun h9 H => ?_)
    refine aw_aload_n dX11_opens_18 rfl 0 rfl ?_
    refine aw_dup dX11_opens_19 rfl ?_
    refine aw_getI cf_X11 34 (by decide) rfl wd_1070 o_k dX11_opens_20 ?_
    refine aw_name (fun v10 e_v10 => ?_)
    replace H := H v10 e_v10
    refine aw_iconst (v := 1) dX11_opens_23 (by decide) ?_
    refine aw_iadd dX11_opens_24 ?_
    refine aw_putI cf_X11 34 (by decide) rfl wd_1070 rfl rfl rfl o_k dX11_opens_25 ?_
    refine aw_nameH (fun h11 e_h11 => ?_)
    replace H := H h11 e_h11
    refine aw_aload_n dX11_opens_28 rfl 0 rfl ?_
    refine aw_aload_n dX11_opens_29 rfl 0 rfl ?_
    refine aw_callV_i (As := []) (rest := [.ref (G.2.1 k)]) (am_X11_here d o_k H) mf_X11_here wd_1283 wd_1285 ws_3_3 cf_X11 o_k rfl rfl (Nat.le_of_ble_eq_true rfl) dX11_opens_30 (fun r13 h12 H => ?_)
    refine aw_callV_v (As := [.int r13]) (rest := []) (am_X11_puts d o_k H) mf_X11_puts wd_1303 wd_1305 ws_3_8 cf_X11 o_k rfl rfl (Nat.le_of_ble_eq_true rfl) dX11_opens_33 (fun h14 H => ?_)
    exact aw_vret rfl H dX11_opens_36
set_option maxHeartbeats 4000000 in
set_option maxRecDepth 100000 in
theorem am_X11_seesDigit {l : Launch} {S : aS} {G : aG} (d : Nat) {k : Nat} {h : aH} {Q : Int32 → aH → Prop} (o_k : aObj S k 10 flX11) (H : f_X11_seesDigit S k h Q) : AMi l S G (d + 1) M_X11_seesDigit [.ref (G.2.1 k)] h Q := by
  unfold f_X11_seesDigit at H
  refine am_of mf_X11_seesDigit (Nat.le_of_ble_eq_true rfl) (lv0 := [(0, .ref (G.2.1 k))]) rfl ?_
  refine aw_aload_n dX11_seesDigit_0 rfl 0 rfl ?_
  refine aw_callV_i (As := []) (rest := []) (am_X11_here d o_k H) mf_X11_here wd_1283 wd_1285 ws_3_3 cf_X11 o_k rfl rfl (Nat.le_of_ble_eq_true rfl) dX11_seesDigit_1 (fun r2 h1 H => ?_)
  refine aw_i2l dX11_seesDigit_4 ?_
  refine aw_ldc2 (v := 48) dX11_seesDigit_5 wd_1311 ?_
  refine aw_ldc2 (v := 57) dX11_seesDigit_8 wd_1312 ?_
  refine aw_callS_i (As := [.long (r2).toInt64, .long 48, .long 57]) (rest := []) (am_X11_lies d H) mf_X11_lies wd_1258 wd_1259 rfl rfl (Nat.le_of_ble_eq_true rfl) dX11_seesDigit_11 (fun r4 h3 H => ?_)
  exact aw_zret rfl H.1.1 H.2 dX11_seesDigit_14
set_option maxHeartbeats 4000000 in
set_option maxRecDepth 100000 in
theorem fm_X11_reads_7 {l : Launch} {S : aS} {G : aG} (d : Nat) {k : Nat} {Q : Int32 → aH → Prop} (o_k : aObj S k 10 flX11) : ∀ (n : Nat) (x1 : Int32) (x2 : Int32) (h : aH), f_X11_reads_7 S k Q n x1 x2 h → AW l S G (d + 2) M_X11_reads (va_Qi Q (aPo S G) (aA S G)) 7 [(0, .ref (G.2.1 k)), (1, .int x1), (2, .int x2)] [] h := by
  intro n
  induction n with
  | zero => intro x1 x2 h H; exact False.elim H
  | succ n ih =>
    intro x1 x2 h H
    unfold f_X11_reads_7 at H
    refine aw_aload_n dX11_reads_7 rfl 0 rfl ?_
    refine aw_callV_i (As := []) (rest := []) (am_X11_isGood (d + 1) o_k H) mf_X11_isGood wd_1275 wd_1277 ws_3_1 cf_X11 o_k rfl rfl (Nat.le_of_ble_eq_true rfl) dX11_reads_8 (fun r2 h1 H => ?_)
    refine aw_if_eq (tgt := 66) dX11_reads_11 (by decide) (fun c3 => ?_) (fun c3 => ?_)
    · replace H := a_pos c3 H
      refine aw_iload_n dX11_reads_66 rfl 2 rfl ?_
      exact aw_iret rfl H dX11_reads_67
    · replace H := a_neg c3 H
      refine aw_aload_n dX11_reads_14 rfl 0 rfl ?_
      refine aw_callV_i (As := []) (rest := []) (am_X11_seesDigit d o_k H) mf_X11_seesDigit wd_1307 wd_1309 ws_3_9 cf_X11 o_k rfl rfl (Nat.le_of_ble_eq_true rfl) dX11_reads_15 (fun r5 h4 H => ?_)
      refine aw_if_eq (tgt := 66) dX11_reads_18 (by decide) (fun c6 => ?_) (fun c6 => ?_)
      · replace H := a_pos c6 H
        refine aw_iload_n dX11_reads_66 rfl 2 rfl ?_
        exact aw_iret rfl H dX11_reads_67
      · replace H := a_neg c6 H
        refine aw_aload_n dX11_reads_21 rfl 0 rfl ?_
        refine aw_getI cf_X11 29 (by decide) rfl wd_1065 o_k dX11_reads_22 ?_
        refine aw_name (fun v7 e_v7 => ?_)
        replace H := H v7 e_v7
        refine aw_iload_n dX11_reads_25 rfl 1 rfl ?_
        refine aw_iconst (v := 5) dX11_reads_26 (by decide) ?_
        refine aw_iadd dX11_reads_27 ?_
        refine aw_icmp_ne (tgt := 40) dX11_reads_28 (by decide) (fun c8 => ?_) (fun c8 => ?_)
        · replace H := a_pos c8 H
          refine aw_bipush (v := 10) dX11_reads_40 (by decide) ?_
          refine aw_iload_n dX11_reads_42 rfl 2 rfl ?_
          refine aw_imul dX11_reads_43 ?_
          refine aw_aload_n dX11_reads_44 rfl 0 rfl ?_
          refine aw_callV_i (As := []) (rest := [.int (10 * x2)]) (am_X11_here (d + 1) o_k H) mf_X11_here wd_1283 wd_1285 ws_3_3 cf_X11 o_k rfl rfl (Nat.le_of_ble_eq_true rfl) dX11_reads_45 (fun r10 h9 H => ?_)
          refine aw_iadd dX11_reads_48 ?_
          refine aw_bipush (v := 48) dX11_reads_49 (by decide) ?_
          refine aw_isub dX11_reads_51 ?_
          refine aw_name (fun x2_11 e_x2_11 => ?_)
          replace H := H x2_11 e_x2_11
          refine aw_istore_n (lv' := [(2, .int x2_11), (0, .ref (G.2.1 k)), (1, .int x1)]) dX11_reads_52 rfl (by decide) rfl ?_
          refine aw_aload_n dX11_reads_53 rfl 1 rfl ?_
          refine aw_dup dX11_reads_54 rfl ?_
          refine aw_getI cf_X11 29 (by decide) rfl wd_1065 o_k dX11_reads_55 ?_
          refine aw_name (fun v12 e_v12 => ?_)
          replace H := H v12 e_v12
          refine aw_iconst (v := 1) dX11_reads_58 (by decide) ?_
          refine aw_iadd dX11_reads_59 ?_
          refine aw_putI cf_X11 29 (by decide) rfl wd_1065 rfl rfl rfl o_k dX11_reads_60 ?_
          refine aw_nameH (fun h13 e_h13 => ?_)
          replace H := H h13 e_h13
          refine aw_goto (tgt := 7) dX11_reads_63 (by decide) ?_
          refine aw_sub (lv' := [(0, .ref (G.2.1 k)), (1, .int x1), (2, .int x2_11)]) [1, 2, 0] rfl ?_
          exact ih _ _ _ H
        · replace H := a_neg2 c8 H
          refine aw_aload_n dX11_reads_31 rfl 0 rfl ?_
          refine aw_iconst (v := 2) dX11_reads_32 (by decide) ?_
          refine aw_aload_n dX11_reads_33 rfl 0 rfl ?_
          refine aw_getI cf_X11 29 (by decide) rfl wd_1065 o_k dX11_reads_34 ?_
          refine aw_name (fun v14 e_v14 => ?_)
          replace H := H v14 e_v14
          refine aw_callV_v (As := [.int 2, .int v14]) (rest := []) (am_X11_wrongs (d + 1) o_k H) mf_X11_wrongs wd_1287 wd_1289 ws_3_4 cf_X11 o_k rfl rfl (Nat.le_of_ble_eq_true rfl) dX11_reads_37 (fun h15 H => ?_)
          refine aw_bipush (v := 10) dX11_reads_40 (by decide) ?_
          refine aw_iload_n dX11_reads_42 rfl 2 rfl ?_
          refine aw_imul dX11_reads_43 ?_
          refine aw_aload_n dX11_reads_44 rfl 0 rfl ?_
          refine aw_callV_i (As := []) (rest := [.int (10 * x2)]) (am_X11_here (d + 1) o_k H) mf_X11_here wd_1283 wd_1285 ws_3_3 cf_X11 o_k rfl rfl (Nat.le_of_ble_eq_true rfl) dX11_reads_45 (fun r17 h16 H => ?_)
          refine aw_iadd dX11_reads_48 ?_
          refine aw_bipush (v := 48) dX11_reads_49 (by decide) ?_
          refine aw_isub dX11_reads_51 ?_
          refine aw_name (fun x2_18 e_x2_18 => ?_)
          replace H := H x2_18 e_x2_18
          refine aw_istore_n (lv' := [(2, .int x2_18), (0, .ref (G.2.1 k)), (1, .int x1)]) dX11_reads_52 rfl (by decide) rfl ?_
          refine aw_aload_n dX11_reads_53 rfl 1 rfl ?_
          refine aw_dup dX11_reads_54 rfl ?_
          refine aw_getI cf_X11 29 (by decide) rfl wd_1065 o_k dX11_reads_55 ?_
          refine aw_name (fun v19 e_v19 => ?_)
          replace H := H v19 e_v19
          refine aw_iconst (v := 1) dX11_reads_58 (by decide) ?_
          refine aw_iadd dX11_reads_59 ?_
          refine aw_putI cf_X11 29 (by decide) rfl wd_1065 rfl rfl rfl o_k dX11_reads_60 ?_
          refine aw_nameH (fun h20 e_h20 => ?_)
          replace H := H h20 e_h20
          refine aw_goto (tgt := 7) dX11_reads_63 (by decide) ?_
          refine aw_sub (lv' := [(0, .ref (G.2.1 k)), (1, .int x1), (2, .int x2_18)]) [1, 2, 0] rfl ?_
          exact ih _ _ _ H
set_option maxHeartbeats 4000000 in
set_option maxRecDepth 100000 in
theorem am_X11_reads {l : Launch} {S : aS} {G : aG} (d : Nat) {k : Nat} {h : aH} {Q : Int32 → aH → Prop} (o_k : aObj S k 10 flX11) (H : f_X11_reads S k h Q) : AMi l S G (d + 2) M_X11_reads [.ref (G.2.1 k)] h Q := by
  unfold f_X11_reads at H
  refine am_of mf_X11_reads (Nat.le_of_ble_eq_true rfl) (lv0 := [(0, .ref (G.2.1 k))]) rfl ?_
  refine aw_aload_n dX11_reads_0 rfl 0 rfl ?_
  refine aw_getI cf_X11 29 (by decide) rfl wd_1065 o_k dX11_reads_1 ?_
  refine aw_name (fun v21 e_v21 => ?_)
  replace H := H v21 e_v21
  refine aw_istore_n (lv' := [(1, .int v21), (0, .ref (G.2.1 k))]) dX11_reads_4 rfl (by decide) rfl ?_
  refine aw_iconst (v := 0) dX11_reads_5 (by decide) ?_
  refine aw_istore_n (lv' := [(2, .int 0), (1, .int v21), (0, .ref (G.2.1 k))]) dX11_reads_6 rfl (by decide) rfl ?_
  refine aw_sub (lv' := [(0, .ref (G.2.1 k)), (1, .int v21), (2, .int 0)]) [2, 1, 0] rfl ?_
  obtain ⟨n1, H⟩ := H
  exact fm_X11_reads_7 d o_k n1 _ _ _ H
set_option maxHeartbeats 4000000 in
set_option maxRecDepth 100000 in
theorem am_X11_isTimes {l : Launch} {S : aS} {G : aG} (d : Nat) {a0 : Int32} {h : aH} {Q : Int32 → aH → Prop} (H : f_X11_isTimes S a0 h Q) : AMi l S G d M_X11_isTimes [.int a0] h Q := by
  unfold f_X11_isTimes at H
  refine am_of mf_X11_isTimes (Nat.le_of_ble_eq_true rfl) (lv0 := [(0, .int a0)]) rfl ?_
  refine aw_iload_n dX11_isTimes_0 rfl 0 rfl ?_
  refine aw_bipush (v := 42) dX11_isTimes_1 (by decide) ?_
  refine aw_icmp_eq (tgt := 18) dX11_isTimes_3 (by decide) (fun c1 => ?_) (fun c1 => ?_)
  · replace H := a_pos c1 H
    refine aw_iconst (v := 1) dX11_isTimes_18 (by decide) ?_
    refine aw_goto (tgt := 23) dX11_isTimes_19 (by decide) ?_
    exact aw_zret rfl rfl H dX11_isTimes_23
  · replace H := a_neg c1 H
    refine aw_iload_n dX11_isTimes_6 rfl 0 rfl ?_
    refine aw_bipush (v := 47) dX11_isTimes_7 (by decide) ?_
    refine aw_icmp_eq (tgt := 18) dX11_isTimes_9 (by decide) (fun c2 => ?_) (fun c2 => ?_)
    · replace H := a_pos c2 H
      refine aw_iconst (v := 1) dX11_isTimes_18 (by decide) ?_
      refine aw_goto (tgt := 23) dX11_isTimes_19 (by decide) ?_
      exact aw_zret rfl rfl H dX11_isTimes_23
    · replace H := a_neg c2 H
      refine aw_iload_n dX11_isTimes_12 rfl 0 rfl ?_
      refine aw_bipush (v := 37) dX11_isTimes_13 (by decide) ?_
      refine aw_icmp_ne (tgt := 22) dX11_isTimes_15 (by decide) (fun c3 => ?_) (fun c3 => ?_)
      · replace H := a_pos c3 H
        refine aw_iconst (v := 0) dX11_isTimes_22 (by decide) ?_
        exact aw_zret rfl rfl H dX11_isTimes_23
      · replace H := a_neg2 c3 H
        refine aw_iconst (v := 1) dX11_isTimes_18 (by decide) ?_
        refine aw_goto (tgt := 23) dX11_isTimes_19 (by decide) ?_
        exact aw_zret rfl rfl H dX11_isTimes_23
set_option maxHeartbeats 4000000 in
set_option maxRecDepth 100000 in
theorem am_X11_isPlus {l : Launch} {S : aS} {G : aG} (d : Nat) {a0 : Int32} {h : aH} {Q : Int32 → aH → Prop} (H : f_X11_isPlus S a0 h Q) : AMi l S G d M_X11_isPlus [.int a0] h Q := by
  unfold f_X11_isPlus at H
  refine am_of mf_X11_isPlus (Nat.le_of_ble_eq_true rfl) (lv0 := [(0, .int a0)]) rfl ?_
  refine aw_iload_n dX11_isPlus_0 rfl 0 rfl ?_
  refine aw_bipush (v := 43) dX11_isPlus_1 (by decide) ?_
  refine aw_icmp_eq (tgt := 12) dX11_isPlus_3 (by decide) (fun c1 => ?_) (fun c1 => ?_)
  · replace H := a_pos c1 H
    refine aw_iconst (v := 1) dX11_isPlus_12 (by decide) ?_
    refine aw_goto (tgt := 17) dX11_isPlus_13 (by decide) ?_
    exact aw_zret rfl rfl H dX11_isPlus_17
  · replace H := a_neg c1 H
    refine aw_iload_n dX11_isPlus_6 rfl 0 rfl ?_
    refine aw_bipush (v := 45) dX11_isPlus_7 (by decide) ?_
    refine aw_icmp_ne (tgt := 16) dX11_isPlus_9 (by decide) (fun c2 => ?_) (fun c2 => ?_)
    · replace H := a_pos c2 H
      refine aw_iconst (v := 0) dX11_isPlus_16 (by decide) ?_
      exact aw_zret rfl rfl H dX11_isPlus_17
    · replace H := a_neg2 c2 H
      refine aw_iconst (v := 1) dX11_isPlus_12 (by decide) ?_
      refine aw_goto (tgt := 17) dX11_isPlus_13 (by decide) ?_
      exact aw_zret rfl rfl H dX11_isPlus_17
set_option maxHeartbeats 4000000 in
set_option maxRecDepth 100000 in
theorem am_X11_isSign {l : Launch} {S : aS} {G : aG} (d : Nat) {a0 : Int32} {h : aH} {Q : Int32 → aH → Prop} (H : f_X11_isSign S a0 h Q) : AMi l S G d M_X11_isSign [.int a0] h Q := by
  unfold f_X11_isSign at H
  refine am_of mf_X11_isSign (Nat.le_of_ble_eq_true rfl) (lv0 := [(0, .int a0)]) rfl ?_
  refine aw_iload_n dX11_isSign_0 rfl 0 rfl ?_
  refine aw_bipush (v := 60) dX11_isSign_1 (by decide) ?_
  refine aw_icmp_eq (tgt := 18) dX11_isSign_3 (by decide) (fun c1 => ?_) (fun c1 => ?_)
  · replace H := a_pos c1 H
    refine aw_iconst (v := 1) dX11_isSign_18 (by decide) ?_
    refine aw_goto (tgt := 23) dX11_isSign_19 (by decide) ?_
    exact aw_zret rfl rfl H dX11_isSign_23
  · replace H := a_neg c1 H
    refine aw_iload_n dX11_isSign_6 rfl 0 rfl ?_
    refine aw_bipush (v := 62) dX11_isSign_7 (by decide) ?_
    refine aw_icmp_eq (tgt := 18) dX11_isSign_9 (by decide) (fun c2 => ?_) (fun c2 => ?_)
    · replace H := a_pos c2 H
      refine aw_iconst (v := 1) dX11_isSign_18 (by decide) ?_
      refine aw_goto (tgt := 23) dX11_isSign_19 (by decide) ?_
      exact aw_zret rfl rfl H dX11_isSign_23
    · replace H := a_neg c2 H
      refine aw_iload_n dX11_isSign_12 rfl 0 rfl ?_
      refine aw_bipush (v := 61) dX11_isSign_13 (by decide) ?_
      refine aw_icmp_ne (tgt := 22) dX11_isSign_15 (by decide) (fun c3 => ?_) (fun c3 => ?_)
      · replace H := a_pos c3 H
        refine aw_iconst (v := 0) dX11_isSign_22 (by decide) ?_
        exact aw_zret rfl rfl H dX11_isSign_23
      · replace H := a_neg2 c3 H
        refine aw_iconst (v := 1) dX11_isSign_18 (by decide) ?_
        refine aw_goto (tgt := 23) dX11_isSign_19 (by decide) ?_
        exact aw_zret rfl rfl H dX11_isSign_23
set_option maxHeartbeats 4000000 in
set_option maxRecDepth 100000 in
theorem am_X11_isValue {l : Launch} {S : aS} {G : aG} (d : Nat) {a0 : Int32} {h : aH} {Q : Int32 → aH → Prop} (H : f_X11_isValue S a0 h Q) : AMi l S G d M_X11_isValue [.int a0] h Q := by
  unfold f_X11_isValue at H
  refine am_of mf_X11_isValue (Nat.le_of_ble_eq_true rfl) (lv0 := [(0, .int a0)]) rfl ?_
  refine aw_iload_n dX11_isValue_0 rfl 0 rfl ?_
  refine aw_bipush (v := 105) dX11_isValue_1 (by decide) ?_
  refine aw_icmp_eq (tgt := 72) dX11_isValue_3 (by decide) (fun c1 => ?_) (fun c1 => ?_)
  · replace H := a_pos c1 H
    refine aw_iconst (v := 1) dX11_isValue_72 (by decide) ?_
    refine aw_goto (tgt := 77) dX11_isValue_73 (by decide) ?_
    exact aw_zret rfl rfl H dX11_isValue_77
  · replace H := a_neg c1 H
    refine aw_iload_n dX11_isValue_6 rfl 0 rfl ?_
    refine aw_bipush (v := 110) dX11_isValue_7 (by decide) ?_
    refine aw_icmp_eq (tgt := 72) dX11_isValue_9 (by decide) (fun c2 => ?_) (fun c2 => ?_)
    · replace H := a_pos c2 H
      refine aw_iconst (v := 1) dX11_isValue_72 (by decide) ?_
      refine aw_goto (tgt := 77) dX11_isValue_73 (by decide) ?_
      exact aw_zret rfl rfl H dX11_isValue_77
    · replace H := a_neg c2 H
      refine aw_iload_n dX11_isValue_12 rfl 0 rfl ?_
      refine aw_bipush (v := 104) dX11_isValue_13 (by decide) ?_
      refine aw_icmp_eq (tgt := 72) dX11_isValue_15 (by decide) (fun c3 => ?_) (fun c3 => ?_)
      · replace H := a_pos c3 H
        refine aw_iconst (v := 1) dX11_isValue_72 (by decide) ?_
        refine aw_goto (tgt := 77) dX11_isValue_73 (by decide) ?_
        exact aw_zret rfl rfl H dX11_isValue_77
      · replace H := a_neg c3 H
        refine aw_iload_n dX11_isValue_18 rfl 0 rfl ?_
        refine aw_bipush (v := 120) dX11_isValue_19 (by decide) ?_
        refine aw_icmp_eq (tgt := 72) dX11_isValue_21 (by decide) (fun c4 => ?_) (fun c4 => ?_)
        · replace H := a_pos c4 H
          refine aw_iconst (v := 1) dX11_isValue_72 (by decide) ?_
          refine aw_goto (tgt := 77) dX11_isValue_73 (by decide) ?_
          exact aw_zret rfl rfl H dX11_isValue_77
        · replace H := a_neg c4 H
          refine aw_iload_n dX11_isValue_24 rfl 0 rfl ?_
          refine aw_bipush (v := 121) dX11_isValue_25 (by decide) ?_
          refine aw_icmp_eq (tgt := 72) dX11_isValue_27 (by decide) (fun c5 => ?_) (fun c5 => ?_)
          · replace H := a_pos c5 H
            refine aw_iconst (v := 1) dX11_isValue_72 (by decide) ?_
            refine aw_goto (tgt := 77) dX11_isValue_73 (by decide) ?_
            exact aw_zret rfl rfl H dX11_isValue_77
          · replace H := a_neg c5 H
            refine aw_iload_n dX11_isValue_30 rfl 0 rfl ?_
            refine aw_bipush (v := 109) dX11_isValue_31 (by decide) ?_
            refine aw_icmp_eq (tgt := 72) dX11_isValue_33 (by decide) (fun c6 => ?_) (fun c6 => ?_)
            · replace H := a_pos c6 H
              refine aw_iconst (v := 1) dX11_isValue_72 (by decide) ?_
              refine aw_goto (tgt := 77) dX11_isValue_73 (by decide) ?_
              exact aw_zret rfl rfl H dX11_isValue_77
            · replace H := a_neg c6 H
              refine aw_iload_n dX11_isValue_36 rfl 0 rfl ?_
              refine aw_bipush (v := 107) dX11_isValue_37 (by decide) ?_
              refine aw_icmp_eq (tgt := 72) dX11_isValue_39 (by decide) (fun c7 => ?_) (fun c7 => ?_)
              · replace H := a_pos c7 H
                refine aw_iconst (v := 1) dX11_isValue_72 (by decide) ?_
                refine aw_goto (tgt := 77) dX11_isValue_73 (by decide) ?_
                exact aw_zret rfl rfl H dX11_isValue_77
              · replace H := a_neg c7 H
                refine aw_iload_n dX11_isValue_42 rfl 0 rfl ?_
                refine aw_bipush (v := 115) dX11_isValue_43 (by decide) ?_
                refine aw_icmp_eq (tgt := 72) dX11_isValue_45 (by decide) (fun c8 => ?_) (fun c8 => ?_)
                · replace H := a_pos c8 H
                  refine aw_iconst (v := 1) dX11_isValue_72 (by decide) ?_
                  refine aw_goto (tgt := 77) dX11_isValue_73 (by decide) ?_
                  exact aw_zret rfl rfl H dX11_isValue_77
                · replace H := a_neg c8 H
                  refine aw_iload_n dX11_isValue_48 rfl 0 rfl ?_
                  refine aw_bipush (v := 112) dX11_isValue_49 (by decide) ?_
                  refine aw_icmp_eq (tgt := 72) dX11_isValue_51 (by decide) (fun c9 => ?_) (fun c9 => ?_)
                  · replace H := a_pos c9 H
                    refine aw_iconst (v := 1) dX11_isValue_72 (by decide) ?_
                    refine aw_goto (tgt := 77) dX11_isValue_73 (by decide) ?_
                    exact aw_zret rfl rfl H dX11_isValue_77
                  · replace H := a_neg c9 H
                    refine aw_iload_n dX11_isValue_54 rfl 0 rfl ?_
                    refine aw_bipush (v := 100) dX11_isValue_55 (by decide) ?_
                    refine aw_icmp_eq (tgt := 72) dX11_isValue_57 (by decide) (fun c10 => ?_) (fun c10 => ?_)
                    · replace H := a_pos c10 H
                      refine aw_iconst (v := 1) dX11_isValue_72 (by decide) ?_
                      refine aw_goto (tgt := 77) dX11_isValue_73 (by decide) ?_
                      exact aw_zret rfl rfl H dX11_isValue_77
                    · replace H := a_neg c10 H
                      refine aw_iload_n dX11_isValue_60 rfl 0 rfl ?_
                      refine aw_bipush (v := 119) dX11_isValue_61 (by decide) ?_
                      refine aw_icmp_eq (tgt := 72) dX11_isValue_63 (by decide) (fun c11 => ?_) (fun c11 => ?_)
                      · replace H := a_pos c11 H
                        refine aw_iconst (v := 1) dX11_isValue_72 (by decide) ?_
                        refine aw_goto (tgt := 77) dX11_isValue_73 (by decide) ?_
                        exact aw_zret rfl rfl H dX11_isValue_77
                      · replace H := a_neg c11 H
                        refine aw_iload_n dX11_isValue_66 rfl 0 rfl ?_
                        refine aw_bipush (v := 113) dX11_isValue_67 (by decide) ?_
                        refine aw_icmp_ne (tgt := 76) dX11_isValue_69 (by decide) (fun c12 => ?_) (fun c12 => ?_)
                        · replace H := a_pos c12 H
                          refine aw_iconst (v := 0) dX11_isValue_76 (by decide) ?_
                          exact aw_zret rfl rfl H dX11_isValue_77
                        · replace H := a_neg2 c12 H
                          refine aw_iconst (v := 1) dX11_isValue_72 (by decide) ?_
                          refine aw_goto (tgt := 77) dX11_isValue_73 (by decide) ?_
                          exact aw_zret rfl rfl H dX11_isValue_77
set_option maxHeartbeats 4000000 in
set_option maxRecDepth 100000 in
theorem fm_X11_sums_0 {l : Launch} {S : aS} {G : aG} (d : Nat) {k : Nat} {a1 : Int32} {Q : aH → Prop} (o_k : aObj S k 10 flX11) : ∀ (n : Nat)  (h : aH), f_X11_sums_0 S k a1 Q n  h → AW l S G (d + 2) M_X11_sums (va_Qv Q (aPo S G) (aA S G)) 0 [(0, .ref (G.2.1 k)), (1, .int a1)] [] h := by
  intro n
  induction n with
  | zero => intro h H; exact False.elim H
  | succ n ih =>
    intro h H
    unfold f_X11_sums_0 at H
    refine aw_aload_n dX11_sums_0 rfl 0 rfl ?_
    refine aw_callV_i (As := []) (rest := []) (am_X11_top (d + 1) o_k H) mf_X11_top wd_1338 wd_1340 ws_3_14 cf_X11 o_k rfl rfl (Nat.le_of_ble_eq_true rfl) dX11_sums_1 (fun r2 h1 H => ?_)
    refine aw_callS_i (As := [.int r2]) (rest := []) (am_X11_isTimes (d + 1) H) mf_X11_isTimes wd_1328 wd_1329 rfl rfl (Nat.le_of_ble_eq_true rfl) dX11_sums_4 (fun r4 h3 H => ?_)
    refine aw_if_ne (tgt := 24) dX11_sums_7 (by decide) (fun c5 => ?_) (fun c5 => ?_)
    · replace H := a_pos c5 H
      refine aw_aload_n dX11_sums_24 rfl 0 rfl ?_
      refine aw_aload_n dX11_sums_25 rfl 0 rfl ?_
      refine aw_callV_i (As := []) (rest := [.ref (G.2.1 k)]) (am_X11_top (d + 1) o_k H) mf_X11_top wd_1338 wd_1340 ws_3_14 cf_X11 o_k rfl rfl (Nat.le_of_ble_eq_true rfl) dX11_sums_26 (fun r7 h6 H => ?_)
      refine aw_iconst (v := 0) dX11_sums_29 (by decide) ?_
      refine aw_callV_v (As := [.int r7, .int 0]) (rest := []) (am_X11_emit d o_k H) mf_X11_emit wd_1317 wd_1319 ws_3_11 cf_X11 o_k rfl rfl (Nat.le_of_ble_eq_true rfl) dX11_sums_30 (fun h8 H => ?_)
      refine aw_aload_n dX11_sums_33 rfl 0 rfl ?_
      refine aw_dup dX11_sums_34 rfl ?_
      refine aw_getI cf_X11 35 (by decide) rfl wd_1071 o_k dX11_sums_35 ?_
      refine aw_name (fun v9 e_v9 => ?_)
      replace H := H v9 e_v9
      refine aw_iconst (v := 1) dX11_sums_38 (by decide) ?_
      refine aw_isub dX11_sums_39 ?_
      refine aw_putI cf_X11 35 (by decide) rfl wd_1071 rfl rfl rfl o_k dX11_sums_40 ?_
      refine aw_nameH (fun h10 e_h10 => ?_)
      replace H := H h10 e_h10
      refine aw_goto (tgt := 0) dX11_sums_43 (by decide) ?_
      exact ih _ H
    · replace H := a_neg2 c5 H
      refine aw_iload_n dX11_sums_10 rfl 1 rfl ?_
      refine aw_if_eq (tgt := 46) dX11_sums_11 (by decide) (fun c11 => ?_) (fun c11 => ?_)
      · replace H := a_pos c11 H
        exact aw_vret rfl H dX11_sums_46
      · replace H := a_neg c11 H
        refine aw_aload_n dX11_sums_14 rfl 0 rfl ?_
        refine aw_callV_i (As := []) (rest := []) (am_X11_top (d + 1) o_k H) mf_X11_top wd_1338 wd_1340 ws_3_14 cf_X11 o_k rfl rfl (Nat.le_of_ble_eq_true rfl) dX11_sums_15 (fun r13 h12 H => ?_)
        refine aw_callS_i (As := [.int r13]) (rest := []) (am_X11_isPlus (d + 1) H) mf_X11_isPlus wd_1331 wd_1332 rfl rfl (Nat.le_of_ble_eq_true rfl) dX11_sums_18 (fun r15 h14 H => ?_)
        refine aw_if_eq (tgt := 46) dX11_sums_21 (by decide) (fun c16 => ?_) (fun c16 => ?_)
        · replace H := a_pos c16 H
          exact aw_vret rfl H dX11_sums_46
        · replace H := a_neg c16 H
          refine aw_aload_n dX11_sums_24 rfl 0 rfl ?_
          refine aw_aload_n dX11_sums_25 rfl 0 rfl ?_
          refine aw_callV_i (As := []) (rest := [.ref (G.2.1 k)]) (am_X11_top (d + 1) o_k H) mf_X11_top wd_1338 wd_1340 ws_3_14 cf_X11 o_k rfl rfl (Nat.le_of_ble_eq_true rfl) dX11_sums_26 (fun r18 h17 H => ?_)
          refine aw_iconst (v := 0) dX11_sums_29 (by decide) ?_
          refine aw_callV_v (As := [.int r18, .int 0]) (rest := []) (am_X11_emit d o_k H) mf_X11_emit wd_1317 wd_1319 ws_3_11 cf_X11 o_k rfl rfl (Nat.le_of_ble_eq_true rfl) dX11_sums_30 (fun h19 H => ?_)
          refine aw_aload_n dX11_sums_33 rfl 0 rfl ?_
          refine aw_dup dX11_sums_34 rfl ?_
          refine aw_getI cf_X11 35 (by decide) rfl wd_1071 o_k dX11_sums_35 ?_
          refine aw_name (fun v20 e_v20 => ?_)
          replace H := H v20 e_v20
          refine aw_iconst (v := 1) dX11_sums_38 (by decide) ?_
          refine aw_isub dX11_sums_39 ?_
          refine aw_putI cf_X11 35 (by decide) rfl wd_1071 rfl rfl rfl o_k dX11_sums_40 ?_
          refine aw_nameH (fun h21 e_h21 => ?_)
          replace H := H h21 e_h21
          refine aw_goto (tgt := 0) dX11_sums_43 (by decide) ?_
          exact ih _ H
set_option maxHeartbeats 4000000 in
set_option maxRecDepth 100000 in
theorem am_X11_sums {l : Launch} {S : aS} {G : aG} (d : Nat) {k : Nat} {a1 : Int32} {h : aH} {Q : aH → Prop} (o_k : aObj S k 10 flX11) (H : f_X11_sums S k a1 h Q) : AMv l S G (d + 2) M_X11_sums [.ref (G.2.1 k), .int a1] h Q := by
  unfold f_X11_sums at H
  refine am_of mf_X11_sums (Nat.le_of_ble_eq_true rfl) (lv0 := [(0, .ref (G.2.1 k)), (1, .int a1)]) rfl ?_
  obtain ⟨n1, H⟩ := H
  exact fm_X11_sums_0 d o_k n1 _ H
set_option maxHeartbeats 4000000 in
set_option maxRecDepth 100000 in
theorem fm_X11_joins_0 {l : Launch} {S : aS} {G : aG} (d : Nat) {k : Nat} {a1 : Int32} {Q : aH → Prop} (o_k : aObj S k 10 flX11) : ∀ (n : Nat)  (h : aH), f_X11_joins_0 S k a1 Q n  h → AW l S G (d + 2) M_X11_joins (va_Qv Q (aPo S G) (aA S G)) 0 [(0, .ref (G.2.1 k)), (1, .int a1)] [] h := by
  intro n
  induction n with
  | zero => intro h H; exact False.elim H
  | succ n ih =>
    intro h H
    unfold f_X11_joins_0 at H
    refine aw_aload_n dX11_joins_0 rfl 0 rfl ?_
    refine aw_callV_i (As := []) (rest := []) (am_X11_top (d + 1) o_k H) mf_X11_top wd_1338 wd_1340 ws_3_14 cf_X11 o_k rfl rfl (Nat.le_of_ble_eq_true rfl) dX11_joins_1 (fun r2 h1 H => ?_)
    refine aw_bipush (v := 38) dX11_joins_4 (by decide) ?_
    refine aw_icmp_eq (tgt := 22) dX11_joins_6 (by decide) (fun c3 => ?_) (fun c3 => ?_)
    · replace H := a_pos c3 H
      refine aw_aload_n dX11_joins_22 rfl 0 rfl ?_
      refine aw_aload_n dX11_joins_23 rfl 0 rfl ?_
      refine aw_callV_i (As := []) (rest := [.ref (G.2.1 k)]) (am_X11_top (d + 1) o_k H) mf_X11_top wd_1338 wd_1340 ws_3_14 cf_X11 o_k rfl rfl (Nat.le_of_ble_eq_true rfl) dX11_joins_24 (fun r5 h4 H => ?_)
      refine aw_iconst (v := 0) dX11_joins_27 (by decide) ?_
      refine aw_callV_v (As := [.int r5, .int 0]) (rest := []) (am_X11_emit d o_k H) mf_X11_emit wd_1317 wd_1319 ws_3_11 cf_X11 o_k rfl rfl (Nat.le_of_ble_eq_true rfl) dX11_joins_28 (fun h6 H => ?_)
      refine aw_aload_n dX11_joins_31 rfl 0 rfl ?_
      refine aw_dup dX11_joins_32 rfl ?_
      refine aw_getI cf_X11 35 (by decide) rfl wd_1071 o_k dX11_joins_33 ?_
      refine aw_name (fun v7 e_v7 => ?_)
      replace H := H v7 e_v7
      refine aw_iconst (v := 1) dX11_joins_36 (by decide) ?_
      refine aw_isub dX11_joins_37 ?_
      refine aw_putI cf_X11 35 (by decide) rfl wd_1071 rfl rfl rfl o_k dX11_joins_38 ?_
      refine aw_nameH (fun h8 e_h8 => ?_)
      replace H := H h8 e_h8
      refine aw_goto (tgt := 0) dX11_joins_41 (by decide) ?_
      exact ih _ H
    · replace H := a_neg c3 H
      refine aw_iload_n dX11_joins_9 rfl 1 rfl ?_
      refine aw_if_eq (tgt := 44) dX11_joins_10 (by decide) (fun c9 => ?_) (fun c9 => ?_)
      · replace H := a_pos c9 H
        exact aw_vret rfl H dX11_joins_44
      · replace H := a_neg c9 H
        refine aw_aload_n dX11_joins_13 rfl 0 rfl ?_
        refine aw_callV_i (As := []) (rest := []) (am_X11_top (d + 1) o_k H) mf_X11_top wd_1338 wd_1340 ws_3_14 cf_X11 o_k rfl rfl (Nat.le_of_ble_eq_true rfl) dX11_joins_14 (fun r11 h10 H => ?_)
        refine aw_bipush (v := 124) dX11_joins_17 (by decide) ?_
        refine aw_icmp_ne (tgt := 44) dX11_joins_19 (by decide) (fun c12 => ?_) (fun c12 => ?_)
        · replace H := a_pos c12 H
          exact aw_vret rfl H dX11_joins_44
        · replace H := a_neg2 c12 H
          refine aw_aload_n dX11_joins_22 rfl 0 rfl ?_
          refine aw_aload_n dX11_joins_23 rfl 0 rfl ?_
          refine aw_callV_i (As := []) (rest := [.ref (G.2.1 k)]) (am_X11_top (d + 1) o_k H) mf_X11_top wd_1338 wd_1340 ws_3_14 cf_X11 o_k rfl rfl (Nat.le_of_ble_eq_true rfl) dX11_joins_24 (fun r14 h13 H => ?_)
          refine aw_iconst (v := 0) dX11_joins_27 (by decide) ?_
          refine aw_callV_v (As := [.int r14, .int 0]) (rest := []) (am_X11_emit d o_k H) mf_X11_emit wd_1317 wd_1319 ws_3_11 cf_X11 o_k rfl rfl (Nat.le_of_ble_eq_true rfl) dX11_joins_28 (fun h15 H => ?_)
          refine aw_aload_n dX11_joins_31 rfl 0 rfl ?_
          refine aw_dup dX11_joins_32 rfl ?_
          refine aw_getI cf_X11 35 (by decide) rfl wd_1071 o_k dX11_joins_33 ?_
          refine aw_name (fun v16 e_v16 => ?_)
          replace H := H v16 e_v16
          refine aw_iconst (v := 1) dX11_joins_36 (by decide) ?_
          refine aw_isub dX11_joins_37 ?_
          refine aw_putI cf_X11 35 (by decide) rfl wd_1071 rfl rfl rfl o_k dX11_joins_38 ?_
          refine aw_nameH (fun h17 e_h17 => ?_)
          replace H := H h17 e_h17
          refine aw_goto (tgt := 0) dX11_joins_41 (by decide) ?_
          exact ih _ H
set_option maxHeartbeats 4000000 in
set_option maxRecDepth 100000 in
theorem am_X11_joins {l : Launch} {S : aS} {G : aG} (d : Nat) {k : Nat} {a1 : Int32} {h : aH} {Q : aH → Prop} (o_k : aObj S k 10 flX11) (H : f_X11_joins S k a1 h Q) : AMv l S G (d + 2) M_X11_joins [.ref (G.2.1 k), .int a1] h Q := by
  unfold f_X11_joins at H
  refine am_of mf_X11_joins (Nat.le_of_ble_eq_true rfl) (lv0 := [(0, .ref (G.2.1 k)), (1, .int a1)]) rfl ?_
  obtain ⟨n1, H⟩ := H
  exact fm_X11_joins_0 d o_k n1 _ H
