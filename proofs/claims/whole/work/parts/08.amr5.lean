set_option maxHeartbeats 4000000 in
set_option maxRecDepth 100000 in
theorem am_X11_holeIs {l : Launch} {S : aS} {G : aG} (d : Nat) {k : Nat} {a1 : Int32} {a2 : Int32} {h : aH} {Q : Int32 → aH → Prop} (o_k : aObj S k 10 flX11) (H : f_X11_holeIs S k a1 a2 h Q) : AMi l S G (d + 3) M_X11_holeIs [.ref (G.2.1 k), .int a1, .int a2] h Q := by
  unfold f_X11_holeIs at H
  refine am_of mf_X11_holeIs (Nat.le_of_ble_eq_true rfl) (lv0 := [(0, .ref (G.2.1 k)), (1, .int a1), (2, .int a2)]) rfl ?_
  refine aw_aload_n dX11_holeIs_0 rfl 0 rfl ?_
  refine aw_iload_n dX11_holeIs_1 rfl 1 rfl ?_
  refine aw_callV_i (As := [.int a1]) (rest := []) (am_X11_isHole (d + 1) o_k H) mf_X11_isHole wd_1450 wd_1452 ws_5_3 cf_X11 o_k rfl rfl (Nat.le_of_ble_eq_true rfl) dX11_holeIs_2 (fun r2 h1 H => ?_)
  refine aw_if_ne (tgt := 10) dX11_holeIs_5 (by decide) (fun c3 => ?_) (fun c3 => ?_)
  · replace H := a_pos c3 H
    refine aw_iload_n dX11_holeIs_10 rfl 2 rfl ?_
    by_cases c4_0 : a2 = 0
    · replace H := a_pos c4_0 H
      refine aw_tableIn (off := 37) (tgt := 48) dX11_holeIs_11 (by rw [c4_0]; decide) (by rw [c4_0]; decide) (by rw [c4_0]; decide) (by decide) ?_
      refine aw_aload_n dX11_holeIs_48 rfl 0 rfl ?_
      refine aw_getR cf_X11 9 (by decide) rfl wd_1045 o_k dX11_holeIs_49 ?_
      refine aw_iload_n dX11_holeIs_52 rfl 1 rfl ?_
      obtain ⟨z5, H⟩ := H
      refine aw_iaload z5 dX11_holeIs_53 ?_
      refine aw_name (fun v6 e_v6 => ?_)
      replace H := H v6 e_v6
      exact aw_iret rfl H dX11_holeIs_54
    · replace H := a_neg c4_0 H
      by_cases c4_1 : a2 = 1
      · replace H := a_pos c4_1 H
        refine aw_tableIn (off := 44) (tgt := 55) dX11_holeIs_11 (by rw [c4_1]; decide) (by rw [c4_1]; decide) (by rw [c4_1]; decide) (by decide) ?_
        refine aw_aload_n dX11_holeIs_55 rfl 0 rfl ?_
        refine aw_iload_n dX11_holeIs_56 rfl 1 rfl ?_
        refine aw_callV_i (As := [.int a1]) (rest := []) (am_X11_isOpen d o_k H) mf_X11_isOpen wd_1446 wd_1448 ws_5_2 cf_X11 o_k rfl rfl (Nat.le_of_ble_eq_true rfl) dX11_holeIs_57 (fun r8 h7 H => ?_)
        refine aw_if_eq (tgt := 67) dX11_holeIs_60 (by decide) (fun c9 => ?_) (fun c9 => ?_)
        · replace H := a_pos c9 H
          refine aw_iconst (v := 0) dX11_holeIs_67 (by decide) ?_
          exact aw_iret rfl H dX11_holeIs_68
        · replace H := a_neg c9 H
          refine aw_iconst (v := 1) dX11_holeIs_63 (by decide) ?_
          refine aw_goto (tgt := 68) dX11_holeIs_64 (by decide) ?_
          exact aw_iret rfl H dX11_holeIs_68
      · replace H := a_neg c4_1 H
        by_cases c4_2 : a2 = 2
        · replace H := a_pos c4_2 H
          refine aw_tableIn (off := 58) (tgt := 69) dX11_holeIs_11 (by rw [c4_2]; decide) (by rw [c4_2]; decide) (by rw [c4_2]; decide) (by decide) ?_
          refine aw_aload_n dX11_holeIs_69 rfl 0 rfl ?_
          refine aw_getR cf_X11 10 (by decide) rfl wd_1046 o_k dX11_holeIs_70 ?_
          refine aw_iload_n dX11_holeIs_73 rfl 1 rfl ?_
          obtain ⟨z10, H⟩ := H
          refine aw_iaload z10 dX11_holeIs_74 ?_
          refine aw_name (fun v11 e_v11 => ?_)
          replace H := H v11 e_v11
          exact aw_iret rfl H dX11_holeIs_75
        · replace H := a_neg c4_2 H
          by_cases c4_3 : a2 = 3
          · replace H := a_pos c4_3 H
            refine aw_tableIn (off := 65) (tgt := 76) dX11_holeIs_11 (by rw [c4_3]; decide) (by rw [c4_3]; decide) (by rw [c4_3]; decide) (by decide) ?_
            refine aw_aload_n dX11_holeIs_76 rfl 0 rfl ?_
            refine aw_getR cf_X11 11 (by decide) rfl wd_1047 o_k dX11_holeIs_77 ?_
            refine aw_iload_n dX11_holeIs_80 rfl 1 rfl ?_
            obtain ⟨z12, H⟩ := H
            refine aw_iaload z12 dX11_holeIs_81 ?_
            refine aw_name (fun v13 e_v13 => ?_)
            replace H := H v13 e_v13
            exact aw_iret rfl H dX11_holeIs_82
          · replace H := a_neg c4_3 H
            by_cases c4_4 : a2 = 4
            · replace H := a_pos c4_4 H
              refine aw_tableIn (off := 72) (tgt := 83) dX11_holeIs_11 (by rw [c4_4]; decide) (by rw [c4_4]; decide) (by rw [c4_4]; decide) (by decide) ?_
              refine aw_aload_n dX11_holeIs_83 rfl 0 rfl ?_
              refine aw_getR cf_X11 12 (by decide) rfl wd_1048 o_k dX11_holeIs_84 ?_
              refine aw_iload_n dX11_holeIs_87 rfl 1 rfl ?_
              obtain ⟨z14, H⟩ := H
              refine aw_iaload z14 dX11_holeIs_88 ?_
              refine aw_name (fun v15 e_v15 => ?_)
              replace H := H v15 e_v15
              exact aw_iret rfl H dX11_holeIs_89
            · replace H := a_neg c4_4 H
              by_cases c4_5 : a2 = 5
              · replace H := a_pos c4_5 H
                refine aw_tableIn (off := 79) (tgt := 90) dX11_holeIs_11 (by rw [c4_5]; decide) (by rw [c4_5]; decide) (by rw [c4_5]; decide) (by decide) ?_
                refine aw_aload_n dX11_holeIs_90 rfl 0 rfl ?_
                refine aw_getR cf_X11 13 (by decide) rfl wd_1049 o_k dX11_holeIs_91 ?_
                refine aw_iload_n dX11_holeIs_94 rfl 1 rfl ?_
                obtain ⟨z16, H⟩ := H
                refine aw_iaload z16 dX11_holeIs_95 ?_
                refine aw_name (fun v17 e_v17 => ?_)
                replace H := H v17 e_v17
                exact aw_iret rfl H dX11_holeIs_96
              · replace H := a_neg c4_5 H
                have t0 := a_ne (n := 0) (v := 0) (by decide) c4_0
                have t1 := a_ne (n := 1) (v := 1) (by decide) c4_1
                have t2 := a_ne (n := 2) (v := 2) (by decide) c4_2
                have t3 := a_ne (n := 3) (v := 3) (by decide) c4_3
                have t4 := a_ne (n := 4) (v := 4) (by decide) c4_4
                have t5 := a_ne (n := 5) (v := 5) (by decide) c4_5
                refine aw_tableOut (tgt := 97) dX11_holeIs_11 (by omega) (by decide) ?_
                refine aw_iconst (v := (-1)) dX11_holeIs_97 (by decide) ?_
                exact aw_iret rfl H dX11_holeIs_98
  · replace H := a_neg2 c3 H
    refine aw_iconst (v := (-1)) dX11_holeIs_8 (by decide) ?_
    exact aw_iret rfl H dX11_holeIs_9
set_option maxHeartbeats 4000000 in
set_option maxRecDepth 100000 in
theorem am_X11_groupIs {l : Launch} {S : aS} {G : aG} (d : Nat) {k : Nat} {a1 : Int32} {a2 : Int32} {h : aH} {Q : Int32 → aH → Prop} (o_k : aObj S k 10 flX11) (H : f_X11_groupIs S k a1 a2 h Q) : AMi l S G (d + 10) M_X11_groupIs [.ref (G.2.1 k), .int a1, .int a2] h Q := by
  unfold f_X11_groupIs at H
  refine am_of mf_X11_groupIs (Nat.le_of_ble_eq_true rfl) (lv0 := [(0, .ref (G.2.1 k)), (1, .int a1), (2, .int a2)]) rfl ?_
  refine aw_aload_n dX11_groupIs_0 rfl 0 rfl ?_
  refine aw_iload_n dX11_groupIs_1 rfl 1 rfl ?_
  refine aw_callV_i (As := [.int a1]) (rest := []) (am_X11_isGroup (d + 8) o_k H) mf_X11_isGroup wd_1547 wd_1549 ws_6_2 cf_X11 o_k rfl rfl (Nat.le_of_ble_eq_true rfl) dX11_groupIs_2 (fun r2 h1 H => ?_)
  refine aw_if_ne (tgt := 10) dX11_groupIs_5 (by decide) (fun c3 => ?_) (fun c3 => ?_)
  · replace H := a_pos c3 H
    refine aw_iload_n dX11_groupIs_10 rfl 2 rfl ?_
    refine aw_if_ne (tgt := 23) dX11_groupIs_11 (by decide) (fun c4 => ?_) (fun c4 => ?_)
    · replace H := a_pos c4 H
      refine aw_iload_n dX11_groupIs_23 rfl 2 rfl ?_
      refine aw_iconst (v := 1) dX11_groupIs_24 (by decide) ?_
      refine aw_icmp_ne (tgt := 37) dX11_groupIs_25 (by decide) (fun c5 => ?_) (fun c5 => ?_)
      · replace H := a_pos c5 H
        refine aw_iload_n dX11_groupIs_37 rfl 2 rfl ?_
        refine aw_iconst (v := 2) dX11_groupIs_38 (by decide) ?_
        refine aw_icmp_ne (tgt := 50) dX11_groupIs_39 (by decide) (fun c6 => ?_) (fun c6 => ?_)
        · replace H := a_pos c6 H
          refine aw_iconst (v := (-1)) dX11_groupIs_50 (by decide) ?_
          exact aw_iret rfl H dX11_groupIs_51
        · replace H := a_neg2 c6 H
          refine aw_aload_n dX11_groupIs_42 rfl 0 rfl ?_
          refine aw_iload_n dX11_groupIs_43 rfl 1 rfl ?_
          refine aw_callV_i (As := [.int a1]) (rest := []) (am_X11_drawnTo d o_k H) mf_X11_drawnTo wd_1506 wd_1508 ws_5_13 cf_X11 o_k rfl rfl (Nat.le_of_ble_eq_true rfl) dX11_groupIs_44 (fun r8 h7 H => ?_)
          refine aw_goto (tgt := 51) dX11_groupIs_47 (by decide) ?_
          exact aw_iret rfl H dX11_groupIs_51
      · replace H := a_neg2 c5 H
        refine aw_aload_n dX11_groupIs_28 rfl 0 rfl ?_
        refine aw_getR cf_X11 15 (by decide) rfl wd_1051 o_k dX11_groupIs_29 ?_
        refine aw_iload_n dX11_groupIs_32 rfl 1 rfl ?_
        obtain ⟨z9, H⟩ := H
        refine aw_iaload z9 dX11_groupIs_33 ?_
        refine aw_name (fun v10 e_v10 => ?_)
        replace H := H v10 e_v10
        refine aw_goto (tgt := 51) dX11_groupIs_34 (by decide) ?_
        exact aw_iret rfl H dX11_groupIs_51
    · replace H := a_neg2 c4 H
      refine aw_aload_n dX11_groupIs_14 rfl 0 rfl ?_
      refine aw_getR cf_X11 14 (by decide) rfl wd_1050 o_k dX11_groupIs_15 ?_
      refine aw_iload_n dX11_groupIs_18 rfl 1 rfl ?_
      obtain ⟨z11, H⟩ := H
      refine aw_iaload z11 dX11_groupIs_19 ?_
      refine aw_name (fun v12 e_v12 => ?_)
      replace H := H v12 e_v12
      refine aw_goto (tgt := 51) dX11_groupIs_20 (by decide) ?_
      exact aw_iret rfl H dX11_groupIs_51
  · replace H := a_neg2 c3 H
    refine aw_iconst (v := (-1)) dX11_groupIs_8 (by decide) ?_
    exact aw_iret rfl H dX11_groupIs_9
set_option maxHeartbeats 4000000 in
set_option maxRecDepth 100000 in
theorem am_X11_draws {l : Launch} {S : aS} {G : aG} (d : Nat) {k : Nat} {a1 : Int32} {a2 : Int32} {h : aH} {Q : Int32 → aH → Prop} (o_k : aObj S k 10 flX11) (H : f_X11_draws S k a1 a2 h Q) : AMi l S G (d + 9) M_X11_draws [.ref (G.2.1 k), .int a1, .int a2] h Q := by
  unfold f_X11_draws at H
  refine am_of mf_X11_draws (Nat.le_of_ble_eq_true rfl) (lv0 := [(0, .ref (G.2.1 k)), (1, .int a1), (2, .int a2)]) rfl ?_
  refine aw_aload_n dX11_draws_0 rfl 0 rfl ?_
  refine aw_iload_n dX11_draws_1 rfl 1 rfl ?_
  refine aw_callV_i (As := [.int a1]) (rest := []) (am_X11_isOpen (d + 6) o_k H) mf_X11_isOpen wd_1446 wd_1448 ws_5_2 cf_X11 o_k rfl rfl (Nat.le_of_ble_eq_true rfl) dX11_draws_2 (fun r2 h1 H => ?_)
  refine aw_if_eq (tgt := 36) dX11_draws_5 (by decide) (fun c3 => ?_) (fun c3 => ?_)
  · replace H := a_pos c3 H
    refine aw_iconst (v := (-1)) dX11_draws_36 (by decide) ?_
    exact aw_iret rfl H dX11_draws_37
  · replace H := a_neg c3 H
    refine aw_aload_n dX11_draws_8 rfl 0 rfl ?_
    refine aw_iload_n dX11_draws_9 rfl 2 rfl ?_
    refine aw_callV_i (As := [.int a2]) (rest := []) (am_X11_isGroup (d + 7) o_k H) mf_X11_isGroup wd_1547 wd_1549 ws_6_2 cf_X11 o_k rfl rfl (Nat.le_of_ble_eq_true rfl) dX11_draws_10 (fun r5 h4 H => ?_)
    refine aw_if_eq (tgt := 36) dX11_draws_13 (by decide) (fun c6 => ?_) (fun c6 => ?_)
    · replace H := a_pos c6 H
      refine aw_iconst (v := (-1)) dX11_draws_36 (by decide) ?_
      exact aw_iret rfl H dX11_draws_37
    · replace H := a_neg c6 H
      refine aw_aload_n dX11_draws_16 rfl 0 rfl ?_
      refine aw_getR cf_X11 14 (by decide) rfl wd_1050 o_k dX11_draws_17 ?_
      refine aw_iload_n dX11_draws_20 rfl 2 rfl ?_
      obtain ⟨z7, H⟩ := H
      refine aw_iaload z7 dX11_draws_21 ?_
      refine aw_name (fun v8 e_v8 => ?_)
      replace H := H v8 e_v8
      refine aw_bipush (v := (-2)) dX11_draws_22 (by decide) ?_
      refine aw_icmp_eq (tgt := 36) dX11_draws_24 (by decide) (fun c9 => ?_) (fun c9 => ?_)
      · replace H := a_pos c9 H
        refine aw_iconst (v := (-1)) dX11_draws_36 (by decide) ?_
        exact aw_iret rfl H dX11_draws_37
      · replace H := a_neg c9 H
        refine aw_aload_n dX11_draws_27 rfl 0 rfl ?_
        refine aw_iload_n dX11_draws_28 rfl 1 rfl ?_
        refine aw_iload_n dX11_draws_29 rfl 2 rfl ?_
        refine aw_callV_i (As := [.int a1, .int a2]) (rest := []) (am_X11_drawOf d o_k H) mf_X11_drawOf wd_1510 wd_1512 ws_5_14 cf_X11 o_k rfl rfl (Nat.le_of_ble_eq_true rfl) dX11_draws_30 (fun r11 h10 H => ?_)
        refine aw_goto (tgt := 37) dX11_draws_33 (by decide) ?_
        exact aw_iret rfl H dX11_draws_37
set_option maxHeartbeats 4000000 in
set_option maxRecDepth 100000 in
theorem am_X11_isLoad {l : Launch} {S : aS} {G : aG} (d : Nat) {a0 : Int32} {h : aH} {Q : Int32 → aH → Prop} (H : f_X11_isLoad S a0 h Q) : AMi l S G (d + 1) M_X11_isLoad [.int a0] h Q := by
  unfold f_X11_isLoad at H
  refine am_of mf_X11_isLoad (Nat.le_of_ble_eq_true rfl) (lv0 := [(0, .int a0)]) rfl ?_
  refine aw_iload_n dX11_isLoad_0 rfl 0 rfl ?_
  refine aw_i2l dX11_isLoad_1 ?_
  refine aw_lconst (v := 0) dX11_isLoad_2 (by decide) ?_
  refine aw_ldc2 (v := 9999) dX11_isLoad_3 wd_1562 ?_
  refine aw_callS_i (As := [.long (a0).toInt64, .long 0, .long 9999]) (rest := []) (am_X11_lies d H) mf_X11_lies wd_1258 wd_1259 rfl rfl (Nat.le_of_ble_eq_true rfl) dX11_isLoad_6 (fun r2 h1 H => ?_)
  exact aw_zret rfl H.1.1 H.2 dX11_isLoad_9
set_option maxHeartbeats 4000000 in
set_option maxRecDepth 100000 in
theorem fm_X11_isSound_10 {l : Launch} {S : aS} {G : aG} (d : Nat) {k : Nat} {a1 : Int32} {a2 : Int32} {Q : Int32 → aH → Prop} (o_k : aObj S k 10 flX11) {K2 : Int32 → aH → Prop} (hK2 : ∀ (x3 : Int32) (h : aH), K2 x3 h → AW l S G (d + 10) M_X11_isSound (va_Qi Q (aPo S G) (aA S G)) 2 [(0, .ref (G.2.1 k)), (1, .int a1), (2, .int a2), (3, .int x3)] [] h) : ∀ (n : Nat) (x3 : Int32) (x4 : Int32) (h : aH), f_X11_isSound_10 S k a1 a2 Q K2 n x3 x4 h → AW l S G (d + 10) M_X11_isSound (va_Qi Q (aPo S G) (aA S G)) 10 [(0, .ref (G.2.1 k)), (1, .int a1), (2, .int a2), (3, .int x3), (4, .int x4)] [] h := by
  intro n
  induction n with
  | zero => intro x3 x4 h H; exact False.elim H
  | succ n ih =>
    intro x3 x4 h H
    unfold f_X11_isSound_10 at H
    refine aw_iload dX11_isSound_10 4 rfl ?_
    refine aw_iconst (v := 2) dX11_isSound_12 (by decide) ?_
    refine aw_icmp_ge (tgt := 63) dX11_isSound_13 (by decide) (fun c1 => ?_) (fun c1 => ?_)
    · replace H := a_pos c1 H
      obtain ⟨x3_2, e_x3_2⟩ : ∃ y : Int32, y = x3 + 1 := ⟨_, rfl⟩
      replace H := H x3_2 e_x3_2
      refine aw_iinc (v := x3_2) (lv' := [(3, .int x3_2), (0, .ref (G.2.1 k)), (1, .int a1), (2, .int a2), (4, .int x4)]) dX11_isSound_63 (n0 := 3) rfl (by rw [e_x3_2]; rfl) (by decide) rfl ?_
      refine aw_goto (tgt := 2) dX11_isSound_66 (by decide) ?_
      refine aw_sub (lv' := [(0, .ref (G.2.1 k)), (1, .int a1), (2, .int a2), (3, .int x3_2)]) [1, 2, 3, 0] rfl ?_
      exact hK2 _ _ H
    · replace H := a_neg c1 H
      refine aw_aload_n dX11_isSound_16 rfl 0 rfl ?_
      refine aw_getR cf_X11 9 (by decide) rfl wd_1045 o_k dX11_isSound_17 ?_
      refine aw_iload_n dX11_isSound_20 rfl 1 rfl ?_
      obtain ⟨z3, H⟩ := H
      refine aw_iaload z3 dX11_isSound_21 ?_
      refine aw_name (fun v4 e_v4 => ?_)
      replace H := H v4 e_v4
      refine aw_iload dX11_isSound_22 4 rfl ?_
      refine aw_iload_n dX11_isSound_24 rfl 3 rfl ?_
      refine aw_callS_i (As := [.int v4, .int x4, .int x3]) (rest := []) (am_X11_aside (d + 6) H) mf_X11_aside wd_1413 wd_1414 rfl rfl (Nat.le_of_ble_eq_true rfl) dX11_isSound_25 (fun r6 h5 H => ?_)
      refine aw_istore (lv' := [(5, .int r6), (0, .ref (G.2.1 k)), (1, .int a1), (2, .int a2), (3, .int x3), (4, .int x4)]) dX11_isSound_28 (by decide) rfl ?_
      refine aw_iload dX11_isSound_30 0 rfl ?_
      refine aw_iconst (v := (-1)) dX11_isSound_32 (by decide) ?_
      refine aw_icmp_eq (tgt := 57) dX11_isSound_33 (by decide) (fun c7 => ?_) (fun c7 => ?_)
      · replace H := a_pos c7 H
        obtain ⟨x4_8, e_x4_8⟩ : ∃ y : Int32, y = x4 + 1 := ⟨_, rfl⟩
        replace H := H x4_8 e_x4_8
        refine aw_iinc (v := x4_8) (lv' := [(4, .int x4_8), (5, .int r6), (0, .ref (G.2.1 k)), (1, .int a1), (2, .int a2), (3, .int x3)]) dX11_isSound_57 (n0 := 5) rfl (by rw [e_x4_8]; rfl) (by decide) rfl ?_
        refine aw_goto (tgt := 10) dX11_isSound_60 (by decide) ?_
        refine aw_sub (lv' := [(0, .ref (G.2.1 k)), (1, .int a1), (2, .int a2), (3, .int x3), (4, .int x4_8)]) [2, 3, 4, 5, 0] rfl ?_
        exact ih _ _ _ H
      · replace H := a_neg c7 H
        refine aw_aload_n dX11_isSound_36 rfl 1 rfl ?_
        refine aw_iload dX11_isSound_37 0 rfl ?_
        refine aw_callV_i (As := [.int r6]) (rest := []) (am_X11_isIce (d + 9) o_k H) mf_X11_isIce wd_1374 wd_1376 ws_4_4 cf_X11 o_k rfl rfl (Nat.le_of_ble_eq_true rfl) dX11_isSound_39 (fun r10 h9 H => ?_)
        refine aw_if_eq (tgt := 57) dX11_isSound_42 (by decide) (fun c11 => ?_) (fun c11 => ?_)
        · replace H := a_pos c11 H
          obtain ⟨x4_12, e_x4_12⟩ : ∃ y : Int32, y = x4 + 1 := ⟨_, rfl⟩
          replace H := H x4_12 e_x4_12
          refine aw_iinc (v := x4_12) (lv' := [(4, .int x4_12), (5, .int r6), (0, .ref (G.2.1 k)), (1, .int a1), (2, .int a2), (3, .int x3)]) dX11_isSound_57 (n0 := 5) rfl (by rw [e_x4_12]; rfl) (by decide) rfl ?_
          refine aw_goto (tgt := 10) dX11_isSound_60 (by decide) ?_
          refine aw_sub (lv' := [(0, .ref (G.2.1 k)), (1, .int a1), (2, .int a2), (3, .int x3), (4, .int x4_12)]) [2, 3, 4, 5, 0] rfl ?_
          exact ih _ _ _ H
        · replace H := a_neg c11 H
          refine aw_aload_n dX11_isSound_45 rfl 1 rfl ?_
          refine aw_iload dX11_isSound_46 0 rfl ?_
          refine aw_callV_i (As := [.int r6]) (rest := []) (am_X11_bears d o_k H) mf_X11_bears wd_1470 wd_1472 ws_5_6 cf_X11 o_k rfl rfl (Nat.le_of_ble_eq_true rfl) dX11_isSound_48 (fun r14 h13 H => ?_)
          refine aw_iload_n dX11_isSound_51 rfl 3 rfl ?_
          refine aw_icmp_ge (tgt := 57) dX11_isSound_52 (by decide) (fun c15 => ?_) (fun c15 => ?_)
          · replace H := a_pos c15 H
            obtain ⟨x4_16, e_x4_16⟩ : ∃ y : Int32, y = x4 + 1 := ⟨_, rfl⟩
            replace H := H x4_16 e_x4_16
            refine aw_iinc (v := x4_16) (lv' := [(4, .int x4_16), (5, .int r6), (0, .ref (G.2.1 k)), (1, .int a1), (2, .int a2), (3, .int x3)]) dX11_isSound_57 (n0 := 5) rfl (by rw [e_x4_16]; rfl) (by decide) rfl ?_
            refine aw_goto (tgt := 10) dX11_isSound_60 (by decide) ?_
            refine aw_sub (lv' := [(0, .ref (G.2.1 k)), (1, .int a1), (2, .int a2), (3, .int x3), (4, .int x4_16)]) [2, 3, 4, 5, 0] rfl ?_
            exact ih _ _ _ H
          · replace H := a_neg c15 H
            refine aw_iconst (v := 0) dX11_isSound_55 (by decide) ?_
            exact aw_zret rfl rfl H dX11_isSound_56
set_option maxHeartbeats 4000000 in
set_option maxRecDepth 100000 in
theorem fm_X11_isSound_2 {l : Launch} {S : aS} {G : aG} (d : Nat) {k : Nat} {a1 : Int32} {a2 : Int32} {Q : Int32 → aH → Prop} (o_k : aObj S k 10 flX11) : ∀ (n : Nat) (x3 : Int32) (h : aH), f_X11_isSound_2 S k a1 a2 Q n x3 h → AW l S G (d + 10) M_X11_isSound (va_Qi Q (aPo S G) (aA S G)) 2 [(0, .ref (G.2.1 k)), (1, .int a1), (2, .int a2), (3, .int x3)] [] h := by
  intro n
  induction n with
  | zero => intro x3 h H; exact False.elim H
  | succ n ih =>
    intro x3 h H
    unfold f_X11_isSound_2 at H
    refine aw_iload_n dX11_isSound_2 rfl 3 rfl ?_
    refine aw_iconst (v := 2) dX11_isSound_3 (by decide) ?_
    refine aw_icmp_ge (tgt := 69) dX11_isSound_4 (by decide) (fun c17 => ?_) (fun c17 => ?_)
    · replace H := a_pos c17 H
      refine aw_iconst (v := 1) dX11_isSound_69 (by decide) ?_
      exact aw_zret rfl rfl H dX11_isSound_70
    · replace H := a_neg c17 H
      refine aw_iconst (v := (-1)) dX11_isSound_7 (by decide) ?_
      refine aw_istore (lv' := [(4, .int (-1)), (0, .ref (G.2.1 k)), (1, .int a1), (2, .int a2), (3, .int x3)]) dX11_isSound_8 (by decide) rfl ?_
      refine aw_sub (lv' := [(0, .ref (G.2.1 k)), (1, .int a1), (2, .int a2), (3, .int x3), (4, .int (-1))]) [1, 2, 3, 4, 0] rfl ?_
      obtain ⟨n1, H⟩ := H
      exact fm_X11_isSound_10 d o_k ih n1 _ _ _ H
set_option maxHeartbeats 4000000 in
set_option maxRecDepth 100000 in
theorem am_X11_isSound {l : Launch} {S : aS} {G : aG} (d : Nat) {k : Nat} {a1 : Int32} {a2 : Int32} {h : aH} {Q : Int32 → aH → Prop} (o_k : aObj S k 10 flX11) (H : f_X11_isSound S k a1 a2 h Q) : AMi l S G (d + 10) M_X11_isSound [.ref (G.2.1 k), .int a1, .int a2] h Q := by
  unfold f_X11_isSound at H
  refine am_of mf_X11_isSound (Nat.le_of_ble_eq_true rfl) (lv0 := [(0, .ref (G.2.1 k)), (1, .int a1), (2, .int a2)]) rfl ?_
  refine aw_iconst (v := (-1)) dX11_isSound_0 (by decide) ?_
  refine aw_istore_n (lv' := [(3, .int (-1)), (0, .ref (G.2.1 k)), (1, .int a1), (2, .int a2)]) dX11_isSound_1 rfl (by decide) rfl ?_
  refine aw_sub (lv' := [(0, .ref (G.2.1 k)), (1, .int a1), (2, .int a2), (3, .int (-1))]) [1, 2, 3, 0] rfl ?_
  obtain ⟨n1, H⟩ := H
  exact fm_X11_isSound_2 d o_k n1 _ _ H
set_option maxHeartbeats 4000000 in
set_option maxRecDepth 100000 in
theorem fm_X11_soundFor_7 {l : Launch} {S : aS} {G : aG} (d : Nat) {k : Nat} {a1 : Int32} {a2 : Int32} {Q : Int32 → aH → Prop} (o_k : aObj S k 10 flX11) : ∀ (n : Nat) (x3 : Int32) (h : aH), f_X11_soundFor_7 S k a1 a2 Q n x3 h → AW l S G (d + 11) M_X11_soundFor (va_Qi Q (aPo S G) (aA S G)) 7 [(0, .ref (G.2.1 k)), (1, .int a1), (2, .int a2), (3, .int x3)] [] h := by
  intro n
  induction n with
  | zero => intro x3 h H; exact False.elim H
  | succ n ih =>
    intro x3 h H
    unfold f_X11_soundFor_7 at H
    refine aw_iload_n dX11_soundFor_7 rfl 3 rfl ?_
    refine aw_bipush (v := 60) dX11_soundFor_8 (by decide) ?_
    refine aw_icmp_ge (tgt := 42) dX11_soundFor_10 (by decide) (fun c1 => ?_) (fun c1 => ?_)
    · replace H := a_pos c1 H
      refine aw_aload_n dX11_soundFor_42 rfl 0 rfl ?_
      refine aw_iconst (v := 0) dX11_soundFor_43 (by decide) ?_
      refine aw_callV_v (As := [.int 0]) (rest := []) (am_X11_putsBack (d + 10) o_k H) mf_X11_putsBack wd_1530 wd_1532 ws_6_1 cf_X11 o_k rfl rfl (Nat.le_of_ble_eq_true rfl) dX11_soundFor_44 (fun h2 H => ?_)
      refine aw_iload_n dX11_soundFor_47 rfl 3 rfl ?_
      exact aw_iret rfl H dX11_soundFor_48
    · replace H := a_neg c1 H
      refine aw_aload_n dX11_soundFor_13 rfl 0 rfl ?_
      refine aw_iload_n dX11_soundFor_14 rfl 1 rfl ?_
      refine aw_iload_n dX11_soundFor_15 rfl 2 rfl ?_
      refine aw_callV_i (As := [.int a1, .int a2]) (rest := []) (am_X11_isSound d o_k H) mf_X11_isSound wd_1567 wd_1569 ws_6_4 cf_X11 o_k rfl rfl (Nat.le_of_ble_eq_true rfl) dX11_soundFor_16 (fun r4 h3 H => ?_)
      refine aw_if_eq (tgt := 42) dX11_soundFor_19 (by decide) (fun c5 => ?_) (fun c5 => ?_)
      · replace H := a_pos c5 H
        refine aw_aload_n dX11_soundFor_42 rfl 0 rfl ?_
        refine aw_iconst (v := 0) dX11_soundFor_43 (by decide) ?_
        refine aw_callV_v (As := [.int 0]) (rest := []) (am_X11_putsBack (d + 10) o_k H) mf_X11_putsBack wd_1530 wd_1532 ws_6_1 cf_X11 o_k rfl rfl (Nat.le_of_ble_eq_true rfl) dX11_soundFor_44 (fun h6 H => ?_)
        refine aw_iload_n dX11_soundFor_47 rfl 3 rfl ?_
        exact aw_iret rfl H dX11_soundFor_48
      · replace H := a_neg c5 H
        refine aw_aload_n dX11_soundFor_22 rfl 0 rfl ?_
        refine aw_callV_v (As := []) (rest := []) (am_X11_thawsAll (d + 1) o_k H) mf_X11_thawsAll wd_1498 wd_1500 ws_5_11 cf_X11 o_k rfl rfl (Nat.le_of_ble_eq_true rfl) dX11_soundFor_23 (fun h7 H => ?_)
        refine aw_aload_n dX11_soundFor_26 rfl 0 rfl ?_
        refine aw_dup dX11_soundFor_27 rfl ?_
        refine aw_getI cf_X11 4 (by decide) rfl wd_1040 o_k dX11_soundFor_28 ?_
        refine aw_name (fun v8 e_v8 => ?_)
        replace H := H v8 e_v8
        refine aw_iconst (v := 1) dX11_soundFor_31 (by decide) ?_
        refine aw_iadd dX11_soundFor_32 ?_
        refine aw_putI cf_X11 4 (by decide) rfl wd_1040 rfl rfl rfl o_k dX11_soundFor_33 ?_
        refine aw_nameH (fun h9 e_h9 => ?_)
        replace H := H h9 e_h9
        obtain ⟨x3_10, e_x3_10⟩ : ∃ y : Int32, y = x3 + 1 := ⟨_, rfl⟩
        replace H := H x3_10 e_x3_10
        refine aw_iinc (v := x3_10) (lv' := [(3, .int x3_10), (0, .ref (G.2.1 k)), (1, .int a1), (2, .int a2)]) dX11_soundFor_36 (n0 := 3) rfl (by rw [e_x3_10]; rfl) (by decide) rfl ?_
        refine aw_goto (tgt := 7) dX11_soundFor_39 (by decide) ?_
        refine aw_sub (lv' := [(0, .ref (G.2.1 k)), (1, .int a1), (2, .int a2), (3, .int x3_10)]) [1, 2, 3, 0] rfl ?_
        exact ih _ _ H
set_option maxHeartbeats 4000000 in
set_option maxRecDepth 100000 in
theorem am_X11_soundFor {l : Launch} {S : aS} {G : aG} (d : Nat) {k : Nat} {a1 : Int32} {a2 : Int32} {h : aH} {Q : Int32 → aH → Prop} (o_k : aObj S k 10 flX11) (H : f_X11_soundFor S k a1 a2 h Q) : AMi l S G (d + 11) M_X11_soundFor [.ref (G.2.1 k), .int a1, .int a2] h Q := by
  unfold f_X11_soundFor at H
  refine am_of mf_X11_soundFor (Nat.le_of_ble_eq_true rfl) (lv0 := [(0, .ref (G.2.1 k)), (1, .int a1), (2, .int a2)]) rfl ?_
  refine aw_aload_n dX11_soundFor_0 rfl 0 rfl ?_
  refine aw_iconst (v := 0) dX11_soundFor_1 (by decide) ?_
  refine aw_callV_v (As := [.int 0]) (rest := []) (am_X11_setsAside (d + 10) o_k H) mf_X11_setsAside wd_1522 wd_1524 ws_5_15 cf_X11 o_k rfl rfl (Nat.le_of_ble_eq_true rfl) dX11_soundFor_2 (fun h11 H => ?_)
  refine aw_iconst (v := 0) dX11_soundFor_5 (by decide) ?_
  refine aw_istore_n (lv' := [(3, .int 0), (0, .ref (G.2.1 k)), (1, .int a1), (2, .int a2)]) dX11_soundFor_6 rfl (by decide) rfl ?_
  refine aw_sub (lv' := [(0, .ref (G.2.1 k)), (1, .int a1), (2, .int a2), (3, .int 0)]) [1, 2, 3, 0] rfl ?_
  obtain ⟨n1, H⟩ := H
  exact fm_X11_soundFor_7 d o_k n1 _ _ H
set_option maxHeartbeats 4000000 in
set_option maxRecDepth 100000 in
theorem am_X11_sound {l : Launch} {S : aS} {G : aG} (d : Nat) {k : Nat} {a1 : Int32} {a2 : Int32} {h : aH} {Q : Int32 → aH → Prop} (o_k : aObj S k 10 flX11) (H : f_X11_sound S k a1 a2 h Q) : AMi l S G (d + 12) M_X11_sound [.ref (G.2.1 k), .int a1, .int a2] h Q := by
  unfold f_X11_sound at H
  refine am_of mf_X11_sound (Nat.le_of_ble_eq_true rfl) (lv0 := [(0, .ref (G.2.1 k)), (1, .int a1), (2, .int a2)]) rfl ?_
  refine aw_aload_n dX11_sound_0 rfl 0 rfl ?_
  refine aw_iload_n dX11_sound_1 rfl 1 rfl ?_
  refine aw_callV_i (As := [.int a1]) (rest := []) (am_X11_isOpen (d + 9) o_k H) mf_X11_isOpen wd_1446 wd_1448 ws_5_2 cf_X11 o_k rfl rfl (Nat.le_of_ble_eq_true rfl) dX11_sound_2 (fun r2 h1 H => ?_)
  refine aw_if_eq (tgt := 24) dX11_sound_5 (by decide) (fun c3 => ?_) (fun c3 => ?_)
  · replace H := a_pos c3 H
    refine aw_iconst (v := (-1)) dX11_sound_24 (by decide) ?_
    exact aw_iret rfl H dX11_sound_25
  · replace H := a_neg c3 H
    refine aw_iload_n dX11_sound_8 rfl 2 rfl ?_
    refine aw_callS_i (As := [.int a2]) (rest := []) (am_X11_isLoad (d + 10) H) mf_X11_isLoad wd_1559 wd_1560 rfl rfl (Nat.le_of_ble_eq_true rfl) dX11_sound_9 (fun r5 h4 H => ?_)
    refine aw_if_eq (tgt := 24) dX11_sound_12 (by decide) (fun c6 => ?_) (fun c6 => ?_)
    · replace H := a_pos c6 H
      refine aw_iconst (v := (-1)) dX11_sound_24 (by decide) ?_
      exact aw_iret rfl H dX11_sound_25
    · replace H := a_neg c6 H
      refine aw_aload_n dX11_sound_15 rfl 0 rfl ?_
      refine aw_iload_n dX11_sound_16 rfl 1 rfl ?_
      refine aw_iload_n dX11_sound_17 rfl 2 rfl ?_
      refine aw_callV_i (As := [.int a1, .int a2]) (rest := []) (am_X11_soundFor d o_k H) mf_X11_soundFor wd_1563 wd_1565 ws_6_3 cf_X11 o_k rfl rfl (Nat.le_of_ble_eq_true rfl) dX11_sound_18 (fun r8 h7 H => ?_)
      refine aw_goto (tgt := 25) dX11_sound_21 (by decide) ?_
      exact aw_iret rfl H dX11_sound_25
set_option maxHeartbeats 4000000 in
set_option maxRecDepth 100000 in
theorem fm_X11_isTwice_12 {l : Launch} {S : aS} {G : aG} (d : Nat) {k : Nat} {Q : Int32 → aH → Prop} (o_k : aObj S k 10 flX11) {K2 : Int32 → aH → Prop} (hK2 : ∀ (x1 : Int32) (h : aH), K2 x1 h → AW l S G d M_X11_isTwice (va_Qi Q (aPo S G) (aA S G)) 2 [(0, .ref (G.2.1 k)), (1, .int x1)] [] h) : ∀ (n : Nat) (x1 : Int32) (x2 : Int32) (h : aH), f_X11_isTwice_12 S k Q K2 n x1 x2 h → AW l S G d M_X11_isTwice (va_Qi Q (aPo S G) (aA S G)) 12 [(0, .ref (G.2.1 k)), (1, .int x1), (2, .int x2)] [] h := by
  intro n
  induction n with
  | zero => intro x1 x2 h H; exact False.elim H
  | succ n ih =>
    intro x1 x2 h H
    unfold f_X11_isTwice_12 at H
    refine aw_iload_n dX11_isTwice_12 rfl 2 rfl ?_
    refine aw_iload_n dX11_isTwice_13 rfl 1 rfl ?_
    refine aw_icmp_ge (tgt := 40) dX11_isTwice_14 (by decide) (fun c1 => ?_) (fun c1 => ?_)
    · replace H := a_pos c1 H
      obtain ⟨x1_2, e_x1_2⟩ : ∃ y : Int32, y = x1 + 1 := ⟨_, rfl⟩
      replace H := H x1_2 e_x1_2
      refine aw_iinc (v := x1_2) (lv' := [(1, .int x1_2), (0, .ref (G.2.1 k)), (2, .int x2)]) dX11_isTwice_40 (n0 := 1) rfl (by rw [e_x1_2]; rfl) (by decide) rfl ?_
      refine aw_goto (tgt := 2) dX11_isTwice_43 (by decide) ?_
      refine aw_sub (lv' := [(0, .ref (G.2.1 k)), (1, .int x1_2)]) [1, 0] rfl ?_
      exact hK2 _ _ H
    · replace H := a_neg c1 H
      refine aw_aload_n dX11_isTwice_17 rfl 0 rfl ?_
      refine aw_getR cf_X11 52 (by decide) rfl wd_1088 o_k dX11_isTwice_18 ?_
      refine aw_iload_n dX11_isTwice_21 rfl 2 rfl ?_
      obtain ⟨z3, H⟩ := H
      refine aw_iaload z3 dX11_isTwice_22 ?_
      refine aw_name (fun v4 e_v4 => ?_)
      replace H := H v4 e_v4
      refine aw_aload_n dX11_isTwice_23 rfl 0 rfl ?_
      refine aw_getR cf_X11 52 (by decide) rfl wd_1088 o_k dX11_isTwice_24 ?_
      refine aw_iload_n dX11_isTwice_27 rfl 1 rfl ?_
      obtain ⟨z5, H⟩ := H
      refine aw_iaload z5 dX11_isTwice_28 ?_
      refine aw_name (fun v6 e_v6 => ?_)
      replace H := H v6 e_v6
      refine aw_icmp_ne (tgt := 34) dX11_isTwice_29 (by decide) (fun c7 => ?_) (fun c7 => ?_)
      · replace H := a_pos c7 H
        obtain ⟨x2_8, e_x2_8⟩ : ∃ y : Int32, y = x2 + 1 := ⟨_, rfl⟩
        replace H := H x2_8 e_x2_8
        refine aw_iinc (v := x2_8) (lv' := [(2, .int x2_8), (0, .ref (G.2.1 k)), (1, .int x1)]) dX11_isTwice_34 (n0 := 2) rfl (by rw [e_x2_8]; rfl) (by decide) rfl ?_
        refine aw_goto (tgt := 12) dX11_isTwice_37 (by decide) ?_
        refine aw_sub (lv' := [(0, .ref (G.2.1 k)), (1, .int x1), (2, .int x2_8)]) [1, 2, 0] rfl ?_
        exact ih _ _ _ H
      · replace H := a_neg2 c7 H
        refine aw_iconst (v := 1) dX11_isTwice_32 (by decide) ?_
        exact aw_zret rfl rfl H dX11_isTwice_33
set_option maxHeartbeats 4000000 in
set_option maxRecDepth 100000 in
theorem fm_X11_isTwice_2 {l : Launch} {S : aS} {G : aG} (d : Nat) {k : Nat} {Q : Int32 → aH → Prop} (o_k : aObj S k 10 flX11) : ∀ (n : Nat) (x1 : Int32) (h : aH), f_X11_isTwice_2 S k Q n x1 h → AW l S G d M_X11_isTwice (va_Qi Q (aPo S G) (aA S G)) 2 [(0, .ref (G.2.1 k)), (1, .int x1)] [] h := by
  intro n
  induction n with
  | zero => intro x1 h H; exact False.elim H
  | succ n ih =>
    intro x1 h H
    unfold f_X11_isTwice_2 at H
    refine aw_iload_n dX11_isTwice_2 rfl 1 rfl ?_
    refine aw_aload_n dX11_isTwice_3 rfl 0 rfl ?_
    refine aw_getI cf_X11 54 (by decide) rfl wd_1090 o_k dX11_isTwice_4 ?_
    refine aw_name (fun v9 e_v9 => ?_)
    replace H := H v9 e_v9
    refine aw_icmp_ge (tgt := 46) dX11_isTwice_7 (by decide) (fun c10 => ?_) (fun c10 => ?_)
    · replace H := a_pos c10 H
      refine aw_iconst (v := 0) dX11_isTwice_46 (by decide) ?_
      exact aw_zret rfl rfl H dX11_isTwice_47
    · replace H := a_neg c10 H
      refine aw_iconst (v := 0) dX11_isTwice_10 (by decide) ?_
      refine aw_istore_n (lv' := [(2, .int 0), (0, .ref (G.2.1 k)), (1, .int x1)]) dX11_isTwice_11 rfl (by decide) rfl ?_
      refine aw_sub (lv' := [(0, .ref (G.2.1 k)), (1, .int x1), (2, .int 0)]) [1, 2, 0] rfl ?_
      obtain ⟨n1, H⟩ := H
      exact fm_X11_isTwice_12 d o_k ih n1 _ _ _ H
set_option maxHeartbeats 4000000 in
set_option maxRecDepth 100000 in
theorem am_X11_isTwice {l : Launch} {S : aS} {G : aG} (d : Nat) {k : Nat} {h : aH} {Q : Int32 → aH → Prop} (o_k : aObj S k 10 flX11) (H : f_X11_isTwice S k h Q) : AMi l S G d M_X11_isTwice [.ref (G.2.1 k)] h Q := by
  unfold f_X11_isTwice at H
  refine am_of mf_X11_isTwice (Nat.le_of_ble_eq_true rfl) (lv0 := [(0, .ref (G.2.1 k))]) rfl ?_
  refine aw_iconst (v := 0) dX11_isTwice_0 (by decide) ?_
  refine aw_istore_n (lv' := [(1, .int 0), (0, .ref (G.2.1 k))]) dX11_isTwice_1 rfl (by decide) rfl ?_
  refine aw_sub (lv' := [(0, .ref (G.2.1 k)), (1, .int 0)]) [1, 0] rfl ?_
  obtain ⟨n1, H⟩ := H
  exact fm_X11_isTwice_2 d o_k n1 _ _ H
set_option maxHeartbeats 4000000 in
set_option maxRecDepth 100000 in
theorem fm_X11_takesTwos_12 {l : Launch} {S : aS} {G : aG} (d : Nat) {k : Nat} {a1 : Int32} {Q : Int32 → aH → Prop} (o_k : aObj S k 10 flX11) : ∀ (n : Nat) (x2 : Int32) (h : aH), f_X11_takesTwos_12 S k a1 Q n x2 h → AW l S G (d + 1) M_X11_takesTwos (va_Qi Q (aPo S G) (aA S G)) 12 [(0, .ref (G.2.1 k)), (1, .int a1), (2, .int x2)] [] h := by
  intro n
  induction n with
  | zero => intro x2 h H; exact False.elim H
  | succ n ih =>
    intro x2 h H
    unfold f_X11_takesTwos_12 at H
    refine aw_iload_n dX11_takesTwos_12 rfl 2 rfl ?_
    refine aw_iload_n dX11_takesTwos_13 rfl 1 rfl ?_
    refine aw_icmp_ge (tgt := 51) dX11_takesTwos_14 (by decide) (fun c1 => ?_) (fun c1 => ?_)
    · replace H := a_pos c1 H
      refine aw_aload_n dX11_takesTwos_51 rfl 0 rfl ?_
      refine aw_callV_i (As := []) (rest := []) (am_X11_isTwice d o_k H) mf_X11_isTwice wd_1583 wd_1585 ws_6_7 cf_X11 o_k rfl rfl (Nat.le_of_ble_eq_true rfl) dX11_takesTwos_52 (fun r3 h2 H => ?_)
      exact aw_zret rfl H.1.1 H.2 dX11_takesTwos_55
    · replace H := a_neg c1 H
      refine aw_aload_n dX11_takesTwos_17 rfl 0 rfl ?_
      refine aw_getR cf_X11 52 (by decide) rfl wd_1088 o_k dX11_takesTwos_18 ?_
      refine aw_iload_n dX11_takesTwos_21 rfl 2 rfl ?_
      refine aw_aload_n dX11_takesTwos_22 rfl 0 rfl ?_
      refine aw_iconst (v := 2) dX11_takesTwos_23 (by decide) ?_
      refine aw_iload_n dX11_takesTwos_24 rfl 2 rfl ?_
      refine aw_imul dX11_takesTwos_25 ?_
      refine aw_callV_i (As := [.int (2 * x2)]) (rest := [.int x2, .ref (G.2.1 (gR h k 52))]) (am_X11_byteAt d o_k H) mf_X11_byteAt wd_1579 wd_1581 ws_6_6 cf_X11 o_k rfl rfl (Nat.le_of_ble_eq_true rfl) dX11_takesTwos_26 (fun r6 h5 H => ?_)
      obtain ⟨z7, H⟩ := H
      refine aw_iastore z7 dX11_takesTwos_29 ?_
      refine aw_nameH (fun h8 e_h8 => ?_)
      replace H := H h8 e_h8
      refine aw_aload_n dX11_takesTwos_30 rfl 0 rfl ?_
      refine aw_getR cf_X11 53 (by decide) rfl wd_1089 o_k dX11_takesTwos_31 ?_
      refine aw_iload_n dX11_takesTwos_34 rfl 2 rfl ?_
      refine aw_aload_n dX11_takesTwos_35 rfl 0 rfl ?_
      refine aw_iconst (v := 2) dX11_takesTwos_36 (by decide) ?_
      refine aw_iload_n dX11_takesTwos_37 rfl 2 rfl ?_
      refine aw_imul dX11_takesTwos_38 ?_
      refine aw_iconst (v := 1) dX11_takesTwos_39 (by decide) ?_
      refine aw_iadd dX11_takesTwos_40 ?_
      refine aw_callV_i (As := [.int ((2 * x2) + 1)]) (rest := [.int x2, .ref (G.2.1 (gR h8 k 53))]) (am_X11_byteAt d o_k H) mf_X11_byteAt wd_1579 wd_1581 ws_6_6 cf_X11 o_k rfl rfl (Nat.le_of_ble_eq_true rfl) dX11_takesTwos_41 (fun r10 h9 H => ?_)
      obtain ⟨z11, H⟩ := H
      refine aw_iastore z11 dX11_takesTwos_44 ?_
      refine aw_nameH (fun h12 e_h12 => ?_)
      replace H := H h12 e_h12
      obtain ⟨x2_13, e_x2_13⟩ : ∃ y : Int32, y = x2 + 1 := ⟨_, rfl⟩
      replace H := H x2_13 e_x2_13
      refine aw_iinc (v := x2_13) (lv' := [(2, .int x2_13), (0, .ref (G.2.1 k)), (1, .int a1)]) dX11_takesTwos_45 (n0 := 2) rfl (by rw [e_x2_13]; rfl) (by decide) rfl ?_
      refine aw_goto (tgt := 12) dX11_takesTwos_48 (by decide) ?_
      refine aw_sub (lv' := [(0, .ref (G.2.1 k)), (1, .int a1), (2, .int x2_13)]) [1, 2, 0] rfl ?_
      exact ih _ _ H
set_option maxHeartbeats 4000000 in
set_option maxRecDepth 100000 in
theorem am_X11_takesTwos {l : Launch} {S : aS} {G : aG} (d : Nat) {k : Nat} {a1 : Int32} {h : aH} {Q : Int32 → aH → Prop} (o_k : aObj S k 10 flX11) (H : f_X11_takesTwos S k a1 h Q) : AMi l S G (d + 1) M_X11_takesTwos [.ref (G.2.1 k), .int a1] h Q := by
  unfold f_X11_takesTwos at H
  refine am_of mf_X11_takesTwos (Nat.le_of_ble_eq_true rfl) (lv0 := [(0, .ref (G.2.1 k)), (1, .int a1)]) rfl ?_
  refine aw_aload_n dX11_takesTwos_0 rfl 0 rfl ?_
  refine aw_iconst (v := 0) dX11_takesTwos_1 (by decide) ?_
  refine aw_putI cf_X11 1 (by decide) rfl wd_1037 rfl rfl rfl o_k dX11_takesTwos_2 ?_
  refine aw_nameH (fun h14 e_h14 => ?_)
  replace H := H h14 e_h14
  refine aw_aload_n dX11_takesTwos_5 rfl 0 rfl ?_
  refine aw_iload_n dX11_takesTwos_6 rfl 1 rfl ?_
  refine aw_putI cf_X11 54 (by decide) rfl wd_1090 rfl rfl rfl o_k dX11_takesTwos_7 ?_
  refine aw_nameH (fun h15 e_h15 => ?_)
  replace H := H h15 e_h15
  refine aw_iconst (v := 0) dX11_takesTwos_10 (by decide) ?_
  refine aw_istore_n (lv' := [(2, .int 0), (0, .ref (G.2.1 k)), (1, .int a1)]) dX11_takesTwos_11 rfl (by decide) rfl ?_
  refine aw_sub (lv' := [(0, .ref (G.2.1 k)), (1, .int a1), (2, .int 0)]) [1, 2, 0] rfl ?_
  obtain ⟨n1, H⟩ := H
  exact fm_X11_takesTwos_12 d o_k n1 _ _ H
set_option maxHeartbeats 4000000 in
set_option maxRecDepth 100000 in
theorem fm_X11_isFineAlone_29 {l : Launch} {S : aS} {G : aG} (d : Nat) {k : Nat} {a1 : Int32} {Q : Int32 → aH → Prop} (o_k : aObj S k 10 flX11) : ∀ (n : Nat) (x2 : Int32) (h : aH), f_X11_isFineAlone_29 S k a1 Q n x2 h → AW l S G (d + 10) M_X11_isFineAlone (va_Qi Q (aPo S G) (aA S G)) 29 [(0, .ref (G.2.1 k)), (1, .int a1), (2, .int x2)] [] h := by
  intro n
  induction n with
  | zero => intro x2 h H; exact False.elim H
  | succ n ih =>
    intro x2 h H
    unfold f_X11_isFineAlone_29 at H
    refine aw_iload_n dX11_isFineAlone_29 rfl 2 rfl ?_
    refine aw_aload_n dX11_isFineAlone_30 rfl 0 rfl ?_
    refine aw_getI cf_X11 2 (by decide) rfl wd_1038 o_k dX11_isFineAlone_31 ?_
    refine aw_name (fun v1 e_v1 => ?_)
    replace H := H v1 e_v1
    refine aw_icmp_ge (tgt := 66) dX11_isFineAlone_34 (by decide) (fun c2 => ?_) (fun c2 => ?_)
    · replace H := a_pos c2 H
      refine aw_iconst (v := 1) dX11_isFineAlone_66 (by decide) ?_
      exact aw_zret rfl rfl H dX11_isFineAlone_67
    · replace H := a_neg c2 H
      refine aw_aload_n dX11_isFineAlone_37 rfl 0 rfl ?_
      refine aw_iload_n dX11_isFineAlone_38 rfl 2 rfl ?_
      refine aw_callV_i (As := [.int x2]) (rest := []) (am_X11_isOpen (d + 7) o_k H) mf_X11_isOpen wd_1446 wd_1448 ws_5_2 cf_X11 o_k rfl rfl (Nat.le_of_ble_eq_true rfl) dX11_isFineAlone_39 (fun r4 h3 H => ?_)
      refine aw_if_eq (tgt := 60) dX11_isFineAlone_42 (by decide) (fun c5 => ?_) (fun c5 => ?_)
      · replace H := a_pos c5 H
        obtain ⟨x2_6, e_x2_6⟩ : ∃ y : Int32, y = x2 + 1 := ⟨_, rfl⟩
        replace H := H x2_6 e_x2_6
        refine aw_iinc (v := x2_6) (lv' := [(2, .int x2_6), (0, .ref (G.2.1 k)), (1, .int a1)]) dX11_isFineAlone_60 (n0 := 2) rfl (by rw [e_x2_6]; rfl) (by decide) rfl ?_
        refine aw_goto (tgt := 29) dX11_isFineAlone_63 (by decide) ?_
        refine aw_sub (lv' := [(0, .ref (G.2.1 k)), (1, .int a1), (2, .int x2_6)]) [1, 2, 0] rfl ?_
        exact ih _ _ H
      · replace H := a_neg c5 H
        refine aw_aload_n dX11_isFineAlone_45 rfl 0 rfl ?_
        refine aw_getR cf_X11 9 (by decide) rfl wd_1045 o_k dX11_isFineAlone_46 ?_
        refine aw_iload_n dX11_isFineAlone_49 rfl 2 rfl ?_
        obtain ⟨z7, H⟩ := H
        refine aw_iaload z7 dX11_isFineAlone_50 ?_
        refine aw_name (fun v8 e_v8 => ?_)
        replace H := H v8 e_v8
        refine aw_iload_n dX11_isFineAlone_51 rfl 1 rfl ?_
        refine aw_callS_i (As := [.int v8, .int a1]) (rest := []) (am_X11_areNear (d + 8) H) mf_X11_areNear wd_1591 wd_1592 rfl rfl (Nat.le_of_ble_eq_true rfl) dX11_isFineAlone_52 (fun r10 h9 H => ?_)
        refine aw_if_eq (tgt := 60) dX11_isFineAlone_55 (by decide) (fun c11 => ?_) (fun c11 => ?_)
        · replace H := a_pos c11 H
          obtain ⟨x2_12, e_x2_12⟩ : ∃ y : Int32, y = x2 + 1 := ⟨_, rfl⟩
          replace H := H x2_12 e_x2_12
          refine aw_iinc (v := x2_12) (lv' := [(2, .int x2_12), (0, .ref (G.2.1 k)), (1, .int a1)]) dX11_isFineAlone_60 (n0 := 2) rfl (by rw [e_x2_12]; rfl) (by decide) rfl ?_
          refine aw_goto (tgt := 29) dX11_isFineAlone_63 (by decide) ?_
          refine aw_sub (lv' := [(0, .ref (G.2.1 k)), (1, .int a1), (2, .int x2_12)]) [1, 2, 0] rfl ?_
          exact ih _ _ H
        · replace H := a_neg c11 H
          refine aw_iconst (v := 0) dX11_isFineAlone_58 (by decide) ?_
          exact aw_zret rfl rfl H dX11_isFineAlone_59
set_option maxHeartbeats 4000000 in
set_option maxRecDepth 100000 in
theorem am_X11_isFineAlone {l : Launch} {S : aS} {G : aG} (d : Nat) {k : Nat} {a1 : Int32} {h : aH} {Q : Int32 → aH → Prop} (o_k : aObj S k 10 flX11) (H : f_X11_isFineAlone S k a1 h Q) : AMi l S G (d + 10) M_X11_isFineAlone [.ref (G.2.1 k), .int a1] h Q := by
  unfold f_X11_isFineAlone at H
  refine am_of mf_X11_isFineAlone (Nat.le_of_ble_eq_true rfl) (lv0 := [(0, .ref (G.2.1 k)), (1, .int a1)]) rfl ?_
  refine aw_aload_n dX11_isFineAlone_0 rfl 0 rfl ?_
  refine aw_iload_n dX11_isFineAlone_1 rfl 1 rfl ?_
  refine aw_callV_i (As := [.int a1]) (rest := []) (am_X11_isIce (d + 9) o_k H) mf_X11_isIce wd_1374 wd_1376 ws_4_4 cf_X11 o_k rfl rfl (Nat.le_of_ble_eq_true rfl) dX11_isFineAlone_2 (fun r14 h13 H => ?_)
  refine aw_if_eq (tgt := 25) dX11_isFineAlone_5 (by decide) (fun c15 => ?_) (fun c15 => ?_)
  · replace H := a_pos c15 H
    refine aw_iconst (v := 0) dX11_isFineAlone_25 (by decide) ?_
    exact aw_zret rfl rfl H dX11_isFineAlone_26
  · replace H := a_neg c15 H
    refine aw_aload_n dX11_isFineAlone_8 rfl 0 rfl ?_
    refine aw_iload_n dX11_isFineAlone_9 rfl 1 rfl ?_
    refine aw_callV_i (As := [.int a1]) (rest := []) (am_X11_standsOn (d + 9) o_k H) mf_X11_standsOn wd_1378 wd_1380 ws_4_5 cf_X11 o_k rfl rfl (Nat.le_of_ble_eq_true rfl) dX11_isFineAlone_10 (fun r17 h16 H => ?_)
    refine aw_if_ne (tgt := 25) dX11_isFineAlone_13 (by decide) (fun c18 => ?_) (fun c18 => ?_)
    · replace H := a_pos c18 H
      refine aw_iconst (v := 0) dX11_isFineAlone_25 (by decide) ?_
      exact aw_zret rfl rfl H dX11_isFineAlone_26
    · replace H := a_neg2 c18 H
      refine aw_aload_n dX11_isFineAlone_16 rfl 0 rfl ?_
      refine aw_iload_n dX11_isFineAlone_17 rfl 1 rfl ?_
      refine aw_iconst (v := 0) dX11_isFineAlone_18 (by decide) ?_
      refine aw_callV_i (As := [.int a1, .int 0]) (rest := []) (am_X11_mayCut d o_k H) mf_X11_mayCut wd_1382 wd_1384 ws_4_6 cf_X11 o_k rfl rfl (Nat.le_of_ble_eq_true rfl) dX11_isFineAlone_19 (fun r20 h19 H => ?_)
      refine aw_if_ne (tgt := 27) dX11_isFineAlone_22 (by decide) (fun c21 => ?_) (fun c21 => ?_)
      · replace H := a_pos c21 H
        refine aw_iconst (v := 0) dX11_isFineAlone_27 (by decide) ?_
        refine aw_istore_n (lv' := [(2, .int 0), (0, .ref (G.2.1 k)), (1, .int a1)]) dX11_isFineAlone_28 rfl (by decide) rfl ?_
        refine aw_sub (lv' := [(0, .ref (G.2.1 k)), (1, .int a1), (2, .int 0)]) [1, 2, 0] rfl ?_
        obtain ⟨n1, H⟩ := H
        exact fm_X11_isFineAlone_29 d o_k n1 _ _ H
      · replace H := a_neg2 c21 H
        refine aw_iconst (v := 0) dX11_isFineAlone_25 (by decide) ?_
        exact aw_zret rfl rfl H dX11_isFineAlone_26
set_option maxHeartbeats 4000000 in
set_option maxRecDepth 100000 in
theorem am_X11_isThen {l : Launch} {S : aS} {G : aG} (d : Nat) {k : Nat} {a1 : Int32} {h : aH} {Q : Int32 → aH → Prop} (o_k : aObj S k 10 flX11) (H : f_X11_isThen S k a1 h Q) : AMi l S G d M_X11_isThen [.ref (G.2.1 k), .int a1] h Q := by
  unfold f_X11_isThen at H
  refine am_of mf_X11_isThen (Nat.le_of_ble_eq_true rfl) (lv0 := [(0, .ref (G.2.1 k)), (1, .int a1)]) rfl ?_
  refine aw_iload_n dX11_isThen_0 rfl 1 rfl ?_
  refine aw_iconst (v := (-1)) dX11_isThen_1 (by decide) ?_
  refine aw_icmp_eq (tgt := 18) dX11_isThen_2 (by decide) (fun c1 => ?_) (fun c1 => ?_)
  · replace H := a_pos c1 H
    refine aw_iconst (v := 0) dX11_isThen_18 (by decide) ?_
    exact aw_zret rfl rfl H dX11_isThen_19
  · replace H := a_neg c1 H
    refine aw_aload_n dX11_isThen_5 rfl 0 rfl ?_
    refine aw_getR cf_X11 55 (by decide) rfl wd_1091 o_k dX11_isThen_6 ?_
    refine aw_iload_n dX11_isThen_9 rfl 1 rfl ?_
    obtain ⟨z2, H⟩ := H
    refine aw_zaload z2 dX11_isThen_10 ?_
    refine aw_name (fun v3 e_v3 => ?_)
    replace H := H v3 e_v3
    refine aw_if_eq (tgt := 18) dX11_isThen_11 (by decide) (fun c4 => ?_) (fun c4 => ?_)
    · replace H := a_pos c4 H
      refine aw_iconst (v := 0) dX11_isThen_18 (by decide) ?_
      exact aw_zret rfl rfl H dX11_isThen_19
    · replace H := a_neg c4 H
      refine aw_iconst (v := 1) dX11_isThen_14 (by decide) ?_
      refine aw_goto (tgt := 19) dX11_isThen_15 (by decide) ?_
      exact aw_zret rfl rfl H dX11_isThen_19
set_option maxHeartbeats 4000000 in
set_option maxRecDepth 100000 in
theorem fm_X11_hasNewRow_58 {l : Launch} {S : aS} {G : aG} (d : Nat) {k : Nat} {a1 : Int32} {Q : Int32 → aH → Prop} (o_k : aObj S k 10 flX11) {K42 : Int32 → Int32 → Int32 → Int32 → aH → Prop} (hK42 : ∀ (x2 : Int32) (x3 : Int32) (x4 : Int32) (x5 : Int32) (h : aH), K42 x2 x3 x4 x5 h → AW l S G (d + 4) M_X11_hasNewRow (va_Qi Q (aPo S G) (aA S G)) 42 [(0, .ref (G.2.1 k)), (1, .int a1), (2, .int x2), (3, .int x3), (4, .int x4), (5, .int x5)] [] h) (x2 : Int32) (x3 : Int32) (x4 : Int32) (x5 : Int32) (h : aH) (H : f_X11_hasNewRow_58 S k a1 Q K42 x2 x3 x4 x5 h) : AW l S G (d + 4) M_X11_hasNewRow (va_Qi Q (aPo S G) (aA S G)) 58 [(0, .ref (G.2.1 k)), (1, .int a1), (2, .int x2), (3, .int x3), (4, .int x4), (5, .int x5)] [] h := by
  unfold f_X11_hasNewRow_58 at H
  refine aw_aload_n dX11_hasNewRow_58 rfl 0 rfl ?_
  refine aw_iload_n dX11_hasNewRow_59 rfl 3 rfl ?_
  refine aw_iload dX11_hasNewRow_60 4 rfl ?_
  refine aw_iload dX11_hasNewRow_62 5 rfl ?_
  refine aw_callS_i (As := [.int x3, .int x4, .int x5]) (rest := [.ref (G.2.1 k)]) (am_X11_aside d H) mf_X11_aside wd_1413 wd_1414 rfl rfl (Nat.le_of_ble_eq_true rfl) dX11_hasNewRow_64 (fun r2 h1 H => ?_)
  refine aw_callV_i (As := [.int r2]) (rest := []) (am_X11_isThen (d + 3) o_k H) mf_X11_isThen wd_1612 wd_1614 ws_6_12 cf_X11 o_k rfl rfl (Nat.le_of_ble_eq_true rfl) dX11_hasNewRow_67 (fun r4 h3 H => ?_)
  refine aw_if_ne (tgt := 76) dX11_hasNewRow_70 (by decide) (fun c5 => ?_) (fun c5 => ?_)
  · replace H := a_pos c5 H
    refine aw_aload_n dX11_hasNewRow_76 rfl 0 rfl ?_
    refine aw_iload_n dX11_hasNewRow_77 rfl 3 rfl ?_
    refine aw_iconst (v := 2) dX11_hasNewRow_78 (by decide) ?_
    refine aw_iload dX11_hasNewRow_79 4 rfl ?_
    refine aw_imul dX11_hasNewRow_81 ?_
    refine aw_iconst (v := 2) dX11_hasNewRow_82 (by decide) ?_
    refine aw_iload dX11_hasNewRow_83 5 rfl ?_
    refine aw_imul dX11_hasNewRow_85 ?_
    refine aw_callS_i (As := [.int x3, .int (2 * x4), .int (2 * x5)]) (rest := [.ref (G.2.1 k)]) (am_X11_aside d H) mf_X11_aside wd_1413 wd_1414 rfl rfl (Nat.le_of_ble_eq_true rfl) dX11_hasNewRow_86 (fun r7 h6 H => ?_)
    refine aw_callV_i (As := [.int r7]) (rest := []) (am_X11_isThen (d + 3) o_k H) mf_X11_isThen wd_1612 wd_1614 ws_6_12 cf_X11 o_k rfl rfl (Nat.le_of_ble_eq_true rfl) dX11_hasNewRow_89 (fun r9 h8 H => ?_)
    refine aw_if_ne (tgt := 112) dX11_hasNewRow_92 (by decide) (fun c10 => ?_) (fun c10 => ?_)
    · replace H := a_pos c10 H
      refine aw_iconst (v := 1) dX11_hasNewRow_112 (by decide) ?_
      exact aw_zret rfl rfl H dX11_hasNewRow_113
    · replace H := a_neg2 c10 H
      refine aw_aload_n dX11_hasNewRow_95 rfl 0 rfl ?_
      refine aw_iload_n dX11_hasNewRow_96 rfl 3 rfl ?_
      refine aw_iload dX11_hasNewRow_97 4 rfl ?_
      refine aw_ineg dX11_hasNewRow_99 ?_
      refine aw_iload dX11_hasNewRow_100 5 rfl ?_
      refine aw_ineg dX11_hasNewRow_102 ?_
      refine aw_callS_i (As := [.int x3, .int (-x4), .int (-x5)]) (rest := [.ref (G.2.1 k)]) (am_X11_aside d H) mf_X11_aside wd_1413 wd_1414 rfl rfl (Nat.le_of_ble_eq_true rfl) dX11_hasNewRow_103 (fun r12 h11 H => ?_)
      refine aw_callV_i (As := [.int r12]) (rest := []) (am_X11_isThen (d + 3) o_k H) mf_X11_isThen wd_1612 wd_1614 ws_6_12 cf_X11 o_k rfl rfl (Nat.le_of_ble_eq_true rfl) dX11_hasNewRow_106 (fun r14 h13 H => ?_)
      refine aw_if_eq (tgt := 114) dX11_hasNewRow_109 (by decide) (fun c15 => ?_) (fun c15 => ?_)
      · replace H := a_pos c15 H
        obtain ⟨x5_16, e_x5_16⟩ : ∃ y : Int32, y = x5 + 1 := ⟨_, rfl⟩
        replace H := H x5_16 e_x5_16
        refine aw_iinc (v := x5_16) (lv' := [(5, .int x5_16), (0, .ref (G.2.1 k)), (1, .int a1), (2, .int x2), (3, .int x3), (4, .int x4)]) dX11_hasNewRow_114 (n0 := 5) rfl (by rw [e_x5_16]; rfl) (by decide) rfl ?_
        refine aw_goto (tgt := 42) dX11_hasNewRow_117 (by decide) ?_
        refine aw_sub (lv' := [(0, .ref (G.2.1 k)), (1, .int a1), (2, .int x2), (3, .int x3), (4, .int x4), (5, .int x5_16)]) [1, 2, 3, 4, 5, 0] rfl ?_
        exact hK42 _ _ _ _ _ H
      · replace H := a_neg c15 H
        refine aw_iconst (v := 1) dX11_hasNewRow_112 (by decide) ?_
        exact aw_zret rfl rfl H dX11_hasNewRow_113
  · replace H := a_neg2 c5 H
    refine aw_goto (tgt := 114) dX11_hasNewRow_73 (by decide) ?_
    obtain ⟨x5_17, e_x5_17⟩ : ∃ y : Int32, y = x5 + 1 := ⟨_, rfl⟩
    replace H := H x5_17 e_x5_17
    refine aw_iinc (v := x5_17) (lv' := [(5, .int x5_17), (0, .ref (G.2.1 k)), (1, .int a1), (2, .int x2), (3, .int x3), (4, .int x4)]) dX11_hasNewRow_114 (n0 := 5) rfl (by rw [e_x5_17]; rfl) (by decide) rfl ?_
    refine aw_goto (tgt := 42) dX11_hasNewRow_117 (by decide) ?_
    refine aw_sub (lv' := [(0, .ref (G.2.1 k)), (1, .int a1), (2, .int x2), (3, .int x3), (4, .int x4), (5, .int x5_17)]) [1, 2, 3, 4, 5, 0] rfl ?_
    exact hK42 _ _ _ _ _ H
set_option maxHeartbeats 4000000 in
set_option maxRecDepth 100000 in
theorem fm_X11_hasNewRow_42 {l : Launch} {S : aS} {G : aG} (d : Nat) {k : Nat} {a1 : Int32} {Q : Int32 → aH → Prop} (o_k : aObj S k 10 flX11) {K32 : Int32 → Int32 → Int32 → aH → Prop} (hK32 : ∀ (x2 : Int32) (x3 : Int32) (x4 : Int32) (h : aH), K32 x2 x3 x4 h → AW l S G (d + 4) M_X11_hasNewRow (va_Qi Q (aPo S G) (aA S G)) 32 [(0, .ref (G.2.1 k)), (1, .int a1), (2, .int x2), (3, .int x3), (4, .int x4)] [] h) : ∀ (n : Nat) (x2 : Int32) (x3 : Int32) (x4 : Int32) (x5 : Int32) (h : aH), f_X11_hasNewRow_42 S k a1 Q K32 n x2 x3 x4 x5 h → AW l S G (d + 4) M_X11_hasNewRow (va_Qi Q (aPo S G) (aA S G)) 42 [(0, .ref (G.2.1 k)), (1, .int a1), (2, .int x2), (3, .int x3), (4, .int x4), (5, .int x5)] [] h := by
  intro n
  induction n with
  | zero => intro x2 x3 x4 x5 h H; exact False.elim H
  | succ n ih =>
    intro x2 x3 x4 x5 h H
    unfold f_X11_hasNewRow_42 at H
    refine aw_iload dX11_hasNewRow_42 5 rfl ?_
    refine aw_iconst (v := 4) dX11_hasNewRow_44 (by decide) ?_
    refine aw_icmp_ge (tgt := 120) dX11_hasNewRow_45 (by decide) (fun c18 => ?_) (fun c18 => ?_)
    · replace H := a_pos c18 H
      obtain ⟨x4_19, e_x4_19⟩ : ∃ y : Int32, y = x4 + 1 := ⟨_, rfl⟩
      replace H := H x4_19 e_x4_19
      refine aw_iinc (v := x4_19) (lv' := [(4, .int x4_19), (0, .ref (G.2.1 k)), (1, .int a1), (2, .int x2), (3, .int x3), (5, .int x5)]) dX11_hasNewRow_120 (n0 := 4) rfl (by rw [e_x4_19]; rfl) (by decide) rfl ?_
      refine aw_goto (tgt := 32) dX11_hasNewRow_123 (by decide) ?_
      refine aw_sub (lv' := [(0, .ref (G.2.1 k)), (1, .int a1), (2, .int x2), (3, .int x3), (4, .int x4_19)]) [1, 2, 3, 4, 0] rfl ?_
      exact hK32 _ _ _ _ H
    · replace H := a_neg c18 H
      refine aw_iload dX11_hasNewRow_48 4 rfl ?_
      refine aw_if_ne (tgt := 58) dX11_hasNewRow_50 (by decide) (fun c20 => ?_) (fun c20 => ?_)
      · replace H := a_pos c20 H
        exact fm_X11_hasNewRow_58 d o_k ih _ _ _ _ _ H
      · replace H := a_neg2 c20 H
        refine aw_iload dX11_hasNewRow_53 5 rfl ?_
        refine aw_if_eq (tgt := 114) dX11_hasNewRow_55 (by decide) (fun c21 => ?_) (fun c21 => ?_)
        · replace H := a_pos c21 H
          obtain ⟨x5_22, e_x5_22⟩ : ∃ y : Int32, y = x5 + 1 := ⟨_, rfl⟩
          replace H := H x5_22 e_x5_22
          refine aw_iinc (v := x5_22) (lv' := [(5, .int x5_22), (0, .ref (G.2.1 k)), (1, .int a1), (2, .int x2), (3, .int x3), (4, .int x4)]) dX11_hasNewRow_114 (n0 := 5) rfl (by rw [e_x5_22]; rfl) (by decide) rfl ?_
          refine aw_goto (tgt := 42) dX11_hasNewRow_117 (by decide) ?_
          refine aw_sub (lv' := [(0, .ref (G.2.1 k)), (1, .int a1), (2, .int x2), (3, .int x3), (4, .int x4), (5, .int x5_22)]) [1, 2, 3, 4, 5, 0] rfl ?_
          exact ih _ _ _ _ _ H
        · replace H := a_neg c21 H
          exact fm_X11_hasNewRow_58 d o_k ih _ _ _ _ _ H
set_option maxHeartbeats 4000000 in
set_option maxRecDepth 100000 in
theorem fm_X11_hasNewRow_32 {l : Launch} {S : aS} {G : aG} (d : Nat) {k : Nat} {a1 : Int32} {Q : Int32 → aH → Prop} (o_k : aObj S k 10 flX11) {K2 : Int32 → aH → Prop} (hK2 : ∀ (x2 : Int32) (h : aH), K2 x2 h → AW l S G (d + 4) M_X11_hasNewRow (va_Qi Q (aPo S G) (aA S G)) 2 [(0, .ref (G.2.1 k)), (1, .int a1), (2, .int x2)] [] h) : ∀ (n : Nat) (x2 : Int32) (x3 : Int32) (x4 : Int32) (h : aH), f_X11_hasNewRow_32 S k a1 Q K2 n x2 x3 x4 h → AW l S G (d + 4) M_X11_hasNewRow (va_Qi Q (aPo S G) (aA S G)) 32 [(0, .ref (G.2.1 k)), (1, .int a1), (2, .int x2), (3, .int x3), (4, .int x4)] [] h := by
  intro n
  induction n with
  | zero => intro x2 x3 x4 h H; exact False.elim H
  | succ n ih =>
    intro x2 x3 x4 h H
    unfold f_X11_hasNewRow_32 at H
    refine aw_iload dX11_hasNewRow_32 4 rfl ?_
    refine aw_iconst (v := 4) dX11_hasNewRow_34 (by decide) ?_
    refine aw_icmp_ge (tgt := 126) dX11_hasNewRow_35 (by decide) (fun c23 => ?_) (fun c23 => ?_)
    · replace H := a_pos c23 H
      obtain ⟨x2_24, e_x2_24⟩ : ∃ y : Int32, y = x2 + 1 := ⟨_, rfl⟩
      replace H := H x2_24 e_x2_24
      refine aw_iinc (v := x2_24) (lv' := [(2, .int x2_24), (0, .ref (G.2.1 k)), (1, .int a1), (3, .int x3), (4, .int x4)]) dX11_hasNewRow_126 (n0 := 2) rfl (by rw [e_x2_24]; rfl) (by decide) rfl ?_
      refine aw_goto (tgt := 2) dX11_hasNewRow_129 (by decide) ?_
      refine aw_sub (lv' := [(0, .ref (G.2.1 k)), (1, .int a1), (2, .int x2_24)]) [1, 2, 0] rfl ?_
      exact hK2 _ _ H
    · replace H := a_neg c23 H
      refine aw_bipush (v := (-3)) dX11_hasNewRow_38 (by decide) ?_
      refine aw_istore (lv' := [(5, .int (-3)), (0, .ref (G.2.1 k)), (1, .int a1), (2, .int x2), (3, .int x3), (4, .int x4)]) dX11_hasNewRow_40 (by decide) rfl ?_
      refine aw_sub (lv' := [(0, .ref (G.2.1 k)), (1, .int a1), (2, .int x2), (3, .int x3), (4, .int x4), (5, .int (-3))]) [1, 2, 3, 4, 5, 0] rfl ?_
      obtain ⟨n1, H⟩ := H
      exact fm_X11_hasNewRow_42 d o_k ih n1 _ _ _ _ _ H
set_option maxHeartbeats 4000000 in
set_option maxRecDepth 100000 in
theorem fm_X11_hasNewRow_2 {l : Launch} {S : aS} {G : aG} (d : Nat) {k : Nat} {a1 : Int32} {Q : Int32 → aH → Prop} (o_k : aObj S k 10 flX11) : ∀ (n : Nat) (x2 : Int32) (h : aH), f_X11_hasNewRow_2 S k a1 Q n x2 h → AW l S G (d + 4) M_X11_hasNewRow (va_Qi Q (aPo S G) (aA S G)) 2 [(0, .ref (G.2.1 k)), (1, .int a1), (2, .int x2)] [] h := by
  intro n
  induction n with
  | zero => intro x2 h H; exact False.elim H
  | succ n ih =>
    intro x2 h H
    unfold f_X11_hasNewRow_2 at H
    refine aw_iload_n dX11_hasNewRow_2 rfl 2 rfl ?_
    refine aw_aload_n dX11_hasNewRow_3 rfl 0 rfl ?_
    refine aw_getI cf_X11 54 (by decide) rfl wd_1090 o_k dX11_hasNewRow_4 ?_
    refine aw_name (fun v25 e_v25 => ?_)
    replace H := H v25 e_v25
    refine aw_icmp_ge (tgt := 132) dX11_hasNewRow_7 (by decide) (fun c26 => ?_) (fun c26 => ?_)
    · replace H := a_pos c26 H
      refine aw_iconst (v := 0) dX11_hasNewRow_132 (by decide) ?_
      exact aw_zret rfl rfl H dX11_hasNewRow_133
    · replace H := a_neg c26 H
      refine aw_iload_n dX11_hasNewRow_10 rfl 1 rfl ?_
      refine aw_iload_n dX11_hasNewRow_11 rfl 2 rfl ?_
      refine aw_callS_i (As := [.int a1, .int x2]) (rest := []) (am_X11_has (d + 3) H) mf_X11_has wd_1598 wd_1599 rfl rfl (Nat.le_of_ble_eq_true rfl) dX11_hasNewRow_12 (fun r28 h27 H => ?_)
      refine aw_if_ne (tgt := 21) dX11_hasNewRow_15 (by decide) (fun c29 => ?_) (fun c29 => ?_)
      · replace H := a_pos c29 H
        refine aw_aload_n dX11_hasNewRow_21 rfl 0 rfl ?_
        refine aw_getR cf_X11 52 (by decide) rfl wd_1088 o_k dX11_hasNewRow_22 ?_
        refine aw_iload_n dX11_hasNewRow_25 rfl 2 rfl ?_
        obtain ⟨z30, H⟩ := H
        refine aw_iaload z30 dX11_hasNewRow_26 ?_
        refine aw_name (fun v31 e_v31 => ?_)
        replace H := H v31 e_v31
        refine aw_istore_n (lv' := [(3, .int v31), (0, .ref (G.2.1 k)), (1, .int a1), (2, .int x2)]) dX11_hasNewRow_27 rfl (by decide) rfl ?_
        refine aw_bipush (v := (-3)) dX11_hasNewRow_28 (by decide) ?_
        refine aw_istore (lv' := [(4, .int (-3)), (3, .int v31), (0, .ref (G.2.1 k)), (1, .int a1), (2, .int x2)]) dX11_hasNewRow_30 (by decide) rfl ?_
        refine aw_sub (lv' := [(0, .ref (G.2.1 k)), (1, .int a1), (2, .int x2), (3, .int v31), (4, .int (-3))]) [2, 3, 4, 1, 0] rfl ?_
        obtain ⟨n1, H⟩ := H
        exact fm_X11_hasNewRow_32 d o_k ih n1 _ _ _ _ H
      · replace H := a_neg2 c29 H
        refine aw_goto (tgt := 126) dX11_hasNewRow_18 (by decide) ?_
        obtain ⟨x2_32, e_x2_32⟩ : ∃ y : Int32, y = x2 + 1 := ⟨_, rfl⟩
        replace H := H x2_32 e_x2_32
        refine aw_iinc (v := x2_32) (lv' := [(2, .int x2_32), (0, .ref (G.2.1 k)), (1, .int a1)]) dX11_hasNewRow_126 (n0 := 2) rfl (by rw [e_x2_32]; rfl) (by decide) rfl ?_
        refine aw_goto (tgt := 2) dX11_hasNewRow_129 (by decide) ?_
        refine aw_sub (lv' := [(0, .ref (G.2.1 k)), (1, .int a1), (2, .int x2_32)]) [1, 2, 0] rfl ?_
        exact ih _ _ H
set_option maxHeartbeats 4000000 in
set_option maxRecDepth 100000 in
theorem am_X11_hasNewRow {l : Launch} {S : aS} {G : aG} (d : Nat) {k : Nat} {a1 : Int32} {h : aH} {Q : Int32 → aH → Prop} (o_k : aObj S k 10 flX11) (H : f_X11_hasNewRow S k a1 h Q) : AMi l S G (d + 4) M_X11_hasNewRow [.ref (G.2.1 k), .int a1] h Q := by
  unfold f_X11_hasNewRow at H
  refine am_of mf_X11_hasNewRow (Nat.le_of_ble_eq_true rfl) (lv0 := [(0, .ref (G.2.1 k)), (1, .int a1)]) rfl ?_
  refine aw_iconst (v := 0) dX11_hasNewRow_0 (by decide) ?_
  refine aw_istore_n (lv' := [(2, .int 0), (0, .ref (G.2.1 k)), (1, .int a1)]) dX11_hasNewRow_1 rfl (by decide) rfl ?_
  refine aw_sub (lv' := [(0, .ref (G.2.1 k)), (1, .int a1), (2, .int 0)]) [1, 2, 0] rfl ?_
  obtain ⟨n1, H⟩ := H
  exact fm_X11_hasNewRow_2 d o_k n1 _ _ H
set_option maxHeartbeats 4000000 in
set_option maxRecDepth 100000 in
theorem fm_X11_isFine_23 {l : Launch} {S : aS} {G : aG} (d : Nat) {k : Nat} {a1 : Int32} {a2 : Int32} {Q : Int32 → aH → Prop} (o_k : aObj S k 10 flX11) {K12 : Int32 → aH → Prop} (hK12 : ∀ (x3 : Int32) (h : aH), K12 x3 h → AW l S G (d + 5) M_X11_isFine (va_Qi Q (aPo S G) (aA S G)) 12 [(0, .ref (G.2.1 k)), (1, .int a1), (2, .int a2), (3, .int x3)] [] h) : ∀ (n : Nat) (x3 : Int32) (x4 : Int32) (h : aH), f_X11_isFine_23 S k a1 a2 Q K12 n x3 x4 h → AW l S G (d + 5) M_X11_isFine (va_Qi Q (aPo S G) (aA S G)) 23 [(0, .ref (G.2.1 k)), (1, .int a1), (2, .int a2), (3, .int x3), (4, .int x4)] [] h := by
  intro n
  induction n with
  | zero => intro x3 x4 h H; exact False.elim H
  | succ n ih =>
    intro x3 x4 h H
    unfold f_X11_isFine_23 at H
    refine aw_iload dX11_isFine_23 4 rfl ?_
    refine aw_iload_n dX11_isFine_25 rfl 3 rfl ?_
    refine aw_icmp_ge (tgt := 73) dX11_isFine_26 (by decide) (fun c1 => ?_) (fun c1 => ?_)
    · replace H := a_pos c1 H
      obtain ⟨x3_2, e_x3_2⟩ : ∃ y : Int32, y = x3 + 1 := ⟨_, rfl⟩
      replace H := H x3_2 e_x3_2
      refine aw_iinc (v := x3_2) (lv' := [(3, .int x3_2), (0, .ref (G.2.1 k)), (1, .int a1), (2, .int a2), (4, .int x4)]) dX11_isFine_73 (n0 := 3) rfl (by rw [e_x3_2]; rfl) (by decide) rfl ?_
      refine aw_goto (tgt := 12) dX11_isFine_76 (by decide) ?_
      refine aw_sub (lv' := [(0, .ref (G.2.1 k)), (1, .int a1), (2, .int a2), (3, .int x3_2)]) [1, 2, 3, 0] rfl ?_
      exact hK12 _ _ H
    · replace H := a_neg c1 H
      refine aw_iload_n dX11_isFine_29 rfl 1 rfl ?_
      refine aw_iload_n dX11_isFine_30 rfl 3 rfl ?_
      refine aw_callS_i (As := [.int a1, .int x3]) (rest := []) (am_X11_has (d + 4) H) mf_X11_has wd_1598 wd_1599 rfl rfl (Nat.le_of_ble_eq_true rfl) dX11_isFine_31 (fun r4 h3 H => ?_)
      refine aw_if_eq (tgt := 67) dX11_isFine_34 (by decide) (fun c5 => ?_) (fun c5 => ?_)
      · replace H := a_pos c5 H
        obtain ⟨x4_6, e_x4_6⟩ : ∃ y : Int32, y = x4 + 1 := ⟨_, rfl⟩
        replace H := H x4_6 e_x4_6
        refine aw_iinc (v := x4_6) (lv' := [(4, .int x4_6), (0, .ref (G.2.1 k)), (1, .int a1), (2, .int a2), (3, .int x3)]) dX11_isFine_67 (n0 := 4) rfl (by rw [e_x4_6]; rfl) (by decide) rfl ?_
        refine aw_goto (tgt := 23) dX11_isFine_70 (by decide) ?_
        refine aw_sub (lv' := [(0, .ref (G.2.1 k)), (1, .int a1), (2, .int a2), (3, .int x3), (4, .int x4_6)]) [1, 2, 3, 4, 0] rfl ?_
        exact ih _ _ _ H
      · replace H := a_neg c5 H
        refine aw_iload_n dX11_isFine_37 rfl 1 rfl ?_
        refine aw_iload dX11_isFine_38 4 rfl ?_
        refine aw_callS_i (As := [.int a1, .int x4]) (rest := []) (am_X11_has (d + 4) H) mf_X11_has wd_1598 wd_1599 rfl rfl (Nat.le_of_ble_eq_true rfl) dX11_isFine_40 (fun r8 h7 H => ?_)
        refine aw_if_eq (tgt := 67) dX11_isFine_43 (by decide) (fun c9 => ?_) (fun c9 => ?_)
        · replace H := a_pos c9 H
          obtain ⟨x4_10, e_x4_10⟩ : ∃ y : Int32, y = x4 + 1 := ⟨_, rfl⟩
          replace H := H x4_10 e_x4_10
          refine aw_iinc (v := x4_10) (lv' := [(4, .int x4_10), (0, .ref (G.2.1 k)), (1, .int a1), (2, .int a2), (3, .int x3)]) dX11_isFine_67 (n0 := 4) rfl (by rw [e_x4_10]; rfl) (by decide) rfl ?_
          refine aw_goto (tgt := 23) dX11_isFine_70 (by decide) ?_
          refine aw_sub (lv' := [(0, .ref (G.2.1 k)), (1, .int a1), (2, .int a2), (3, .int x3), (4, .int x4_10)]) [1, 2, 3, 4, 0] rfl ?_
          exact ih _ _ _ H
        · replace H := a_neg c9 H
          refine aw_aload_n dX11_isFine_46 rfl 0 rfl ?_
          refine aw_getR cf_X11 52 (by decide) rfl wd_1088 o_k dX11_isFine_47 ?_
          refine aw_iload_n dX11_isFine_50 rfl 3 rfl ?_
          obtain ⟨z11, H⟩ := H
          refine aw_iaload z11 dX11_isFine_51 ?_
          refine aw_name (fun v12 e_v12 => ?_)
          replace H := H v12 e_v12
          refine aw_aload_n dX11_isFine_52 rfl 0 rfl ?_
          refine aw_getR cf_X11 52 (by decide) rfl wd_1088 o_k dX11_isFine_53 ?_
          refine aw_iload dX11_isFine_56 4 rfl ?_
          obtain ⟨z13, H⟩ := H
          refine aw_iaload z13 dX11_isFine_58 ?_
          refine aw_name (fun v14 e_v14 => ?_)
          replace H := H v14 e_v14
          refine aw_callS_i (As := [.int v12, .int v14]) (rest := []) (am_X11_areNear (d + 3) H) mf_X11_areNear wd_1591 wd_1592 rfl rfl (Nat.le_of_ble_eq_true rfl) dX11_isFine_59 (fun r16 h15 H => ?_)
          refine aw_if_eq (tgt := 67) dX11_isFine_62 (by decide) (fun c17 => ?_) (fun c17 => ?_)
          · replace H := a_pos c17 H
            obtain ⟨x4_18, e_x4_18⟩ : ∃ y : Int32, y = x4 + 1 := ⟨_, rfl⟩
            replace H := H x4_18 e_x4_18
            refine aw_iinc (v := x4_18) (lv' := [(4, .int x4_18), (0, .ref (G.2.1 k)), (1, .int a1), (2, .int a2), (3, .int x3)]) dX11_isFine_67 (n0 := 4) rfl (by rw [e_x4_18]; rfl) (by decide) rfl ?_
            refine aw_goto (tgt := 23) dX11_isFine_70 (by decide) ?_
            refine aw_sub (lv' := [(0, .ref (G.2.1 k)), (1, .int a1), (2, .int a2), (3, .int x3), (4, .int x4_18)]) [1, 2, 3, 4, 0] rfl ?_
            exact ih _ _ _ H
          · replace H := a_neg c17 H
            refine aw_iconst (v := 0) dX11_isFine_65 (by decide) ?_
            exact aw_zret rfl rfl H dX11_isFine_66
set_option maxHeartbeats 4000000 in
set_option maxRecDepth 100000 in
theorem fm_X11_isFine_117 {l : Launch} {S : aS} {G : aG} (d : Nat) {k : Nat} {a1 : Int32} {a2 : Int32} {Q : Int32 → aH → Prop} (o_k : aObj S k 10 flX11) : ∀ (n : Nat) (x3 : Int32) (h : aH), f_X11_isFine_117 S k a1 a2 Q n x3 h → AW l S G (d + 5) M_X11_isFine (va_Qi Q (aPo S G) (aA S G)) 117 [(0, .ref (G.2.1 k)), (1, .int a1), (2, .int a2), (3, .int x3)] [] h := by
  intro n
  induction n with
  | zero => intro x3 h H; exact False.elim H
  | succ n ih =>
    intro x3 h H
    unfold f_X11_isFine_117 at H
    refine aw_iload_n dX11_isFine_117 rfl 3 rfl ?_
    refine aw_aload_n dX11_isFine_118 rfl 0 rfl ?_
    refine aw_getI cf_X11 54 (by decide) rfl wd_1090 o_k dX11_isFine_119 ?_
    refine aw_name (fun v19 e_v19 => ?_)
    replace H := H v19 e_v19
    refine aw_icmp_ge (tgt := 151) dX11_isFine_122 (by decide) (fun c20 => ?_) (fun c20 => ?_)
    · replace H := a_pos c20 H
      refine aw_aload_n dX11_isFine_151 rfl 0 rfl ?_
      refine aw_iload_n dX11_isFine_152 rfl 1 rfl ?_
      refine aw_callV_i (As := [.int a1]) (rest := []) (am_X11_hasNewRow d o_k H) mf_X11_hasNewRow wd_1608 wd_1610 ws_6_11 cf_X11 o_k rfl rfl (Nat.le_of_ble_eq_true rfl) dX11_isFine_153 (fun r22 h21 H => ?_)
      refine aw_if_ne (tgt := 163) dX11_isFine_156 (by decide) (fun c23 => ?_) (fun c23 => ?_)
      · replace H := a_pos c23 H
        refine aw_iconst (v := 0) dX11_isFine_163 (by decide) ?_
        exact aw_zret rfl rfl H dX11_isFine_164
      · replace H := a_neg2 c23 H
        refine aw_iconst (v := 1) dX11_isFine_159 (by decide) ?_
        refine aw_goto (tgt := 164) dX11_isFine_160 (by decide) ?_
        exact aw_zret rfl rfl H dX11_isFine_164
    · replace H := a_neg c20 H
      refine aw_iload_n dX11_isFine_125 rfl 1 rfl ?_
      refine aw_iload_n dX11_isFine_126 rfl 3 rfl ?_
      refine aw_callS_i (As := [.int a1, .int x3]) (rest := []) (am_X11_has (d + 4) H) mf_X11_has wd_1598 wd_1599 rfl rfl (Nat.le_of_ble_eq_true rfl) dX11_isFine_127 (fun r25 h24 H => ?_)
      refine aw_if_eq (tgt := 145) dX11_isFine_130 (by decide) (fun c26 => ?_) (fun c26 => ?_)
      · replace H := a_pos c26 H
        obtain ⟨x3_27, e_x3_27⟩ : ∃ y : Int32, y = x3 + 1 := ⟨_, rfl⟩
        replace H := H x3_27 e_x3_27
        refine aw_iinc (v := x3_27) (lv' := [(3, .int x3_27), (0, .ref (G.2.1 k)), (1, .int a1), (2, .int a2)]) dX11_isFine_145 (n0 := 3) rfl (by rw [e_x3_27]; rfl) (by decide) rfl ?_
        refine aw_goto (tgt := 117) dX11_isFine_148 (by decide) ?_
        refine aw_sub (lv' := [(0, .ref (G.2.1 k)), (1, .int a1), (2, .int a2), (3, .int x3_27)]) [1, 2, 3, 0] rfl ?_
        exact ih _ _ H
      · replace H := a_neg c26 H
        refine aw_aload_n dX11_isFine_133 rfl 0 rfl ?_
        refine aw_getR cf_X11 55 (by decide) rfl wd_1091 o_k dX11_isFine_134 ?_
        refine aw_aload_n dX11_isFine_137 rfl 0 rfl ?_
        refine aw_getR cf_X11 52 (by decide) rfl wd_1088 o_k dX11_isFine_138 ?_
        refine aw_iload_n dX11_isFine_141 rfl 3 rfl ?_
        obtain ⟨z28, H⟩ := H
        refine aw_iaload z28 dX11_isFine_142 ?_
        refine aw_name (fun v29 e_v29 => ?_)
        replace H := H v29 e_v29
        refine aw_iconst (v := 1) dX11_isFine_143 (by decide) ?_
        obtain ⟨z30, H⟩ := H
        refine aw_zastore z30 (by decide) dX11_isFine_144 ?_
        refine aw_nameH (fun h31 e_h31 => ?_)
        replace H := H h31 e_h31
        obtain ⟨x3_32, e_x3_32⟩ : ∃ y : Int32, y = x3 + 1 := ⟨_, rfl⟩
        replace H := H x3_32 e_x3_32
        refine aw_iinc (v := x3_32) (lv' := [(3, .int x3_32), (0, .ref (G.2.1 k)), (1, .int a1), (2, .int a2)]) dX11_isFine_145 (n0 := 3) rfl (by rw [e_x3_32]; rfl) (by decide) rfl ?_
        refine aw_goto (tgt := 117) dX11_isFine_148 (by decide) ?_
        refine aw_sub (lv' := [(0, .ref (G.2.1 k)), (1, .int a1), (2, .int a2), (3, .int x3_32)]) [1, 2, 3, 0] rfl ?_
        exact ih _ _ H
set_option maxHeartbeats 4000000 in
set_option maxRecDepth 100000 in
theorem fm_X11_isFine_81 {l : Launch} {S : aS} {G : aG} (d : Nat) {k : Nat} {a1 : Int32} {a2 : Int32} {Q : Int32 → aH → Prop} (o_k : aObj S k 10 flX11) : ∀ (n : Nat) (x3 : Int32) (h : aH), f_X11_isFine_81 S k a1 a2 Q n x3 h → AW l S G (d + 5) M_X11_isFine (va_Qi Q (aPo S G) (aA S G)) 81 [(0, .ref (G.2.1 k)), (1, .int a1), (2, .int a2), (3, .int x3)] [] h := by
  intro n
  induction n with
  | zero => intro x3 h H; exact False.elim H
  | succ n ih =>
    intro x3 h H
    unfold f_X11_isFine_81 at H
    refine aw_iload_n dX11_isFine_81 rfl 3 rfl ?_
    refine aw_sipush (v := 256) dX11_isFine_82 (by decide) ?_
    refine aw_icmp_ge (tgt := 115) dX11_isFine_85 (by decide) (fun c33 => ?_) (fun c33 => ?_)
    · replace H := a_pos c33 H
      refine aw_iconst (v := 0) dX11_isFine_115 (by decide) ?_
      refine aw_istore_n (lv' := [(3, .int 0), (0, .ref (G.2.1 k)), (1, .int a1), (2, .int a2)]) dX11_isFine_116 rfl (by decide) rfl ?_
      refine aw_sub (lv' := [(0, .ref (G.2.1 k)), (1, .int a1), (2, .int a2), (3, .int 0)]) [1, 2, 3, 0] rfl ?_
      obtain ⟨n1, H⟩ := H
      exact fm_X11_isFine_117 d o_k n1 _ _ H
    · replace H := a_neg c33 H
      refine aw_aload_n dX11_isFine_88 rfl 0 rfl ?_
      refine aw_getR cf_X11 55 (by decide) rfl wd_1091 o_k dX11_isFine_89 ?_
      refine aw_iload_n dX11_isFine_92 rfl 3 rfl ?_
      refine aw_aload_n dX11_isFine_93 rfl 0 rfl ?_
      refine aw_getR cf_X11 8 (by decide) rfl wd_1044 o_k dX11_isFine_94 ?_
      refine aw_iload_n dX11_isFine_97 rfl 3 rfl ?_
      obtain ⟨z34, H⟩ := H
      refine aw_iaload z34 dX11_isFine_98 ?_
      refine aw_name (fun v35 e_v35 => ?_)
      replace H := H v35 e_v35
      refine aw_iconst (v := (-1)) dX11_isFine_99 (by decide) ?_
      refine aw_icmp_eq (tgt := 107) dX11_isFine_100 (by decide) (fun c36 => ?_) (fun c36 => ?_)
      · replace H := a_pos c36 H
        refine aw_iconst (v := 0) dX11_isFine_107 (by decide) ?_
        obtain ⟨z37, H⟩ := H
        refine aw_zastore z37 (by decide) dX11_isFine_108 ?_
        refine aw_nameH (fun h38 e_h38 => ?_)
        replace H := H h38 e_h38
        obtain ⟨x3_39, e_x3_39⟩ : ∃ y : Int32, y = x3 + 1 := ⟨_, rfl⟩
        replace H := H x3_39 e_x3_39
        refine aw_iinc (v := x3_39) (lv' := [(3, .int x3_39), (0, .ref (G.2.1 k)), (1, .int a1), (2, .int a2)]) dX11_isFine_109 (n0 := 3) rfl (by rw [e_x3_39]; rfl) (by decide) rfl ?_
        refine aw_goto (tgt := 81) dX11_isFine_112 (by decide) ?_
        refine aw_sub (lv' := [(0, .ref (G.2.1 k)), (1, .int a1), (2, .int a2), (3, .int x3_39)]) [1, 2, 3, 0] rfl ?_
        exact ih _ _ H
      · replace H := a_neg c36 H
        refine aw_iconst (v := 1) dX11_isFine_103 (by decide) ?_
        refine aw_goto (tgt := 108) dX11_isFine_104 (by decide) ?_
        obtain ⟨z40, H⟩ := H
        refine aw_zastore z40 (by decide) dX11_isFine_108 ?_
        refine aw_nameH (fun h41 e_h41 => ?_)
        replace H := H h41 e_h41
        obtain ⟨x3_42, e_x3_42⟩ : ∃ y : Int32, y = x3 + 1 := ⟨_, rfl⟩
        replace H := H x3_42 e_x3_42
        refine aw_iinc (v := x3_42) (lv' := [(3, .int x3_42), (0, .ref (G.2.1 k)), (1, .int a1), (2, .int a2)]) dX11_isFine_109 (n0 := 3) rfl (by rw [e_x3_42]; rfl) (by decide) rfl ?_
        refine aw_goto (tgt := 81) dX11_isFine_112 (by decide) ?_
        refine aw_sub (lv' := [(0, .ref (G.2.1 k)), (1, .int a1), (2, .int a2), (3, .int x3_42)]) [1, 2, 3, 0] rfl ?_
        exact ih _ _ H
set_option maxHeartbeats 4000000 in
set_option maxRecDepth 100000 in
theorem fm_X11_isFine_12 {l : Launch} {S : aS} {G : aG} (d : Nat) {k : Nat} {a1 : Int32} {a2 : Int32} {Q : Int32 → aH → Prop} (o_k : aObj S k 10 flX11) : ∀ (n : Nat) (x3 : Int32) (h : aH), f_X11_isFine_12 S k a1 a2 Q n x3 h → AW l S G (d + 5) M_X11_isFine (va_Qi Q (aPo S G) (aA S G)) 12 [(0, .ref (G.2.1 k)), (1, .int a1), (2, .int a2), (3, .int x3)] [] h := by
  intro n
  induction n with
  | zero => intro x3 h H; exact False.elim H
  | succ n ih =>
    intro x3 h H
    unfold f_X11_isFine_12 at H
    refine aw_iload_n dX11_isFine_12 rfl 3 rfl ?_
    refine aw_aload_n dX11_isFine_13 rfl 0 rfl ?_
    refine aw_getI cf_X11 54 (by decide) rfl wd_1090 o_k dX11_isFine_14 ?_
    refine aw_name (fun v43 e_v43 => ?_)
    replace H := H v43 e_v43
    refine aw_icmp_ge (tgt := 79) dX11_isFine_17 (by decide) (fun c44 => ?_) (fun c44 => ?_)
    · replace H := a_pos c44 H
      refine aw_iconst (v := 0) dX11_isFine_79 (by decide) ?_
      refine aw_istore_n (lv' := [(3, .int 0), (0, .ref (G.2.1 k)), (1, .int a1), (2, .int a2)]) dX11_isFine_80 rfl (by decide) rfl ?_
      refine aw_sub (lv' := [(0, .ref (G.2.1 k)), (1, .int a1), (2, .int a2), (3, .int 0)]) [1, 2, 3, 0] rfl ?_
      obtain ⟨n1, H⟩ := H
      exact fm_X11_isFine_81 d o_k n1 _ _ H
    · replace H := a_neg c44 H
      refine aw_iconst (v := 0) dX11_isFine_20 (by decide) ?_
      refine aw_istore (lv' := [(4, .int 0), (0, .ref (G.2.1 k)), (1, .int a1), (2, .int a2), (3, .int x3)]) dX11_isFine_21 (by decide) rfl ?_
      refine aw_sub (lv' := [(0, .ref (G.2.1 k)), (1, .int a1), (2, .int a2), (3, .int x3), (4, .int 0)]) [1, 2, 3, 4, 0] rfl ?_
      obtain ⟨n1, H⟩ := H
      exact fm_X11_isFine_23 d o_k ih n1 _ _ _ H
set_option maxHeartbeats 4000000 in
set_option maxRecDepth 100000 in
theorem am_X11_isFine {l : Launch} {S : aS} {G : aG} (d : Nat) {k : Nat} {a1 : Int32} {a2 : Int32} {h : aH} {Q : Int32 → aH → Prop} (o_k : aObj S k 10 flX11) (H : f_X11_isFine S k a1 a2 h Q) : AMi l S G (d + 5) M_X11_isFine [.ref (G.2.1 k), .int a1, .int a2] h Q := by
  unfold f_X11_isFine at H
  refine am_of mf_X11_isFine (Nat.le_of_ble_eq_true rfl) (lv0 := [(0, .ref (G.2.1 k)), (1, .int a1), (2, .int a2)]) rfl ?_
  refine aw_iload_n dX11_isFine_0 rfl 1 rfl ?_
  refine aw_iload_n dX11_isFine_1 rfl 2 rfl ?_
  refine aw_iconst (v := (-1)) dX11_isFine_2 (by decide) ?_
  refine aw_ixor dX11_isFine_3 ?_
  refine aw_iand dX11_isFine_4 ?_
  refine aw_if_eq (tgt := 10) dX11_isFine_5 (by decide) (fun c45 => ?_) (fun c45 => ?_)
  · replace H := a_pos c45 H
    refine aw_iconst (v := 0) dX11_isFine_10 (by decide) ?_
    refine aw_istore_n (lv' := [(3, .int 0), (0, .ref (G.2.1 k)), (1, .int a1), (2, .int a2)]) dX11_isFine_11 rfl (by decide) rfl ?_
    refine aw_sub (lv' := [(0, .ref (G.2.1 k)), (1, .int a1), (2, .int a2), (3, .int 0)]) [1, 2, 3, 0] rfl ?_
    obtain ⟨n1, H⟩ := H
    exact fm_X11_isFine_12 d o_k n1 _ _ H
  · replace H := a_neg c45 H
    refine aw_iconst (v := 0) dX11_isFine_8 (by decide) ?_
    exact aw_zret rfl rfl H dX11_isFine_9
set_option maxHeartbeats 4000000 in
set_option maxRecDepth 100000 in
theorem fm_X11_worthOf_4 {l : Launch} {S : aS} {G : aG} (d : Nat) {k : Nat} {a1 : Int32} {Q : Int32 → aH → Prop} (o_k : aObj S k 10 flX11) : ∀ (n : Nat) (x2 : Int32) (x3 : Int32) (h : aH), f_X11_worthOf_4 S k a1 Q n x2 x3 h → AW l S G (d + 1) M_X11_worthOf (va_Qi Q (aPo S G) (aA S G)) 4 [(0, .ref (G.2.1 k)), (1, .int a1), (2, .int x2), (3, .int x3)] [] h := by
  intro n
  induction n with
  | zero => intro x2 x3 h H; exact False.elim H
  | succ n ih =>
    intro x2 x3 h H
    unfold f_X11_worthOf_4 at H
    refine aw_iload_n dX11_worthOf_4 rfl 3 rfl ?_
    refine aw_aload_n dX11_worthOf_5 rfl 0 rfl ?_
    refine aw_getI cf_X11 54 (by decide) rfl wd_1090 o_k dX11_worthOf_6 ?_
    refine aw_name (fun v1 e_v1 => ?_)
    replace H := H v1 e_v1
    refine aw_icmp_ge (tgt := 39) dX11_worthOf_9 (by decide) (fun c2 => ?_) (fun c2 => ?_)
    · replace H := a_pos c2 H
      refine aw_iload_n dX11_worthOf_39 rfl 2 rfl ?_
      exact aw_iret rfl H dX11_worthOf_40
    · replace H := a_neg c2 H
      refine aw_iload_n dX11_worthOf_12 rfl 2 rfl ?_
      refine aw_iload_n dX11_worthOf_13 rfl 1 rfl ?_
      refine aw_iload_n dX11_worthOf_14 rfl 3 rfl ?_
      refine aw_callS_i (As := [.int a1, .int x3]) (rest := [.int x2]) (am_X11_has d H) mf_X11_has wd_1598 wd_1599 rfl rfl (Nat.le_of_ble_eq_true rfl) dX11_worthOf_15 (fun r4 h3 H => ?_)
      refine aw_if_eq (tgt := 30) dX11_worthOf_18 (by decide) (fun c5 => ?_) (fun c5 => ?_)
      · replace H := a_pos c5 H
        refine aw_iconst (v := 0) dX11_worthOf_30 (by decide) ?_
        refine aw_iadd dX11_worthOf_31 ?_
        refine aw_name (fun x2_6 e_x2_6 => ?_)
        replace H := H x2_6 e_x2_6
        refine aw_istore_n (lv' := [(2, .int x2_6), (0, .ref (G.2.1 k)), (1, .int a1), (3, .int x3)]) dX11_worthOf_32 rfl (by decide) rfl ?_
        obtain ⟨x3_7, e_x3_7⟩ : ∃ y : Int32, y = x3 + 1 := ⟨_, rfl⟩
        replace H := H x3_7 e_x3_7
        refine aw_iinc (v := x3_7) (lv' := [(3, .int x3_7), (2, .int x2_6), (0, .ref (G.2.1 k)), (1, .int a1)]) dX11_worthOf_33 (n0 := 3) rfl (by rw [e_x3_7]; rfl) (by decide) rfl ?_
        refine aw_goto (tgt := 4) dX11_worthOf_36 (by decide) ?_
        refine aw_sub (lv' := [(0, .ref (G.2.1 k)), (1, .int a1), (2, .int x2_6), (3, .int x3_7)]) [2, 3, 1, 0] rfl ?_
        exact ih _ _ _ H
      · replace H := a_neg c5 H
        refine aw_aload_n dX11_worthOf_21 rfl 0 rfl ?_
        refine aw_getR cf_X11 53 (by decide) rfl wd_1089 o_k dX11_worthOf_22 ?_
        refine aw_iload_n dX11_worthOf_25 rfl 3 rfl ?_
        obtain ⟨z8, H⟩ := H
        refine aw_iaload z8 dX11_worthOf_26 ?_
        refine aw_name (fun v9 e_v9 => ?_)
        replace H := H v9 e_v9
        refine aw_goto (tgt := 31) dX11_worthOf_27 (by decide) ?_
        refine aw_iadd dX11_worthOf_31 ?_
        refine aw_name (fun x2_10 e_x2_10 => ?_)
        replace H := H x2_10 e_x2_10
        refine aw_istore_n (lv' := [(2, .int x2_10), (0, .ref (G.2.1 k)), (1, .int a1), (3, .int x3)]) dX11_worthOf_32 rfl (by decide) rfl ?_
        obtain ⟨x3_11, e_x3_11⟩ : ∃ y : Int32, y = x3 + 1 := ⟨_, rfl⟩
        replace H := H x3_11 e_x3_11
        refine aw_iinc (v := x3_11) (lv' := [(3, .int x3_11), (2, .int x2_10), (0, .ref (G.2.1 k)), (1, .int a1)]) dX11_worthOf_33 (n0 := 3) rfl (by rw [e_x3_11]; rfl) (by decide) rfl ?_
        refine aw_goto (tgt := 4) dX11_worthOf_36 (by decide) ?_
        refine aw_sub (lv' := [(0, .ref (G.2.1 k)), (1, .int a1), (2, .int x2_10), (3, .int x3_11)]) [2, 3, 1, 0] rfl ?_
        exact ih _ _ _ H
set_option maxHeartbeats 4000000 in
set_option maxRecDepth 100000 in
theorem am_X11_worthOf {l : Launch} {S : aS} {G : aG} (d : Nat) {k : Nat} {a1 : Int32} {h : aH} {Q : Int32 → aH → Prop} (o_k : aObj S k 10 flX11) (H : f_X11_worthOf S k a1 h Q) : AMi l S G (d + 1) M_X11_worthOf [.ref (G.2.1 k), .int a1] h Q := by
  unfold f_X11_worthOf at H
  refine am_of mf_X11_worthOf (Nat.le_of_ble_eq_true rfl) (lv0 := [(0, .ref (G.2.1 k)), (1, .int a1)]) rfl ?_
  refine aw_iconst (v := 0) dX11_worthOf_0 (by decide) ?_
  refine aw_istore_n (lv' := [(2, .int 0), (0, .ref (G.2.1 k)), (1, .int a1)]) dX11_worthOf_1 rfl (by decide) rfl ?_
  refine aw_iconst (v := 0) dX11_worthOf_2 (by decide) ?_
  refine aw_istore_n (lv' := [(3, .int 0), (2, .int 0), (0, .ref (G.2.1 k)), (1, .int a1)]) dX11_worthOf_3 rfl (by decide) rfl ?_
  refine aw_sub (lv' := [(0, .ref (G.2.1 k)), (1, .int a1), (2, .int 0), (3, .int 0)]) [2, 3, 1, 0] rfl ?_
  obtain ⟨n1, H⟩ := H
  exact fm_X11_worthOf_4 d o_k n1 _ _ _ H
set_option maxHeartbeats 4000000 in
set_option maxRecDepth 100000 in
theorem fm_X11_places_94 {l : Launch} {S : aS} {G : aG} (d : Nat) {k : Nat} {a1 : Int32} {a2 : Int32} {Q : Int32 → aH → Prop} (o_k : aObj S k 10 flX11) : ∀ (n : Nat) (x3 : Int32) (x4 : Int32) (x5 : Int32) (h : aH), f_X11_places_94 S k a1 a2 Q n x3 x4 x5 h → AW l S G (d + 11) M_X11_places (va_Qi Q (aPo S G) (aA S G)) 94 [(0, .ref (G.2.1 k)), (1, .int a1), (2, .int a2), (3, .int x3), (4, .int x4), (5, .int x5)] [] h := by
  intro n
  induction n with
  | zero => intro x3 x4 x5 h H; exact False.elim H
  | succ n ih =>
    intro x3 x4 x5 h H
    unfold f_X11_places_94 at H
    refine aw_iload dX11_places_94 5 rfl ?_
    refine aw_iconst (v := 1) dX11_places_96 (by decide) ?_
    refine aw_iload_n dX11_places_97 rfl 1 rfl ?_
    refine aw_ishl dX11_places_98 ?_
    refine aw_icmp_ge (tgt := 163) dX11_places_99 (by decide) (fun c1 => ?_) (fun c1 => ?_)
    · replace H := a_pos c1 H
      refine aw_iload_n dX11_places_163 rfl 2 rfl ?_
      refine aw_iconst (v := (-1)) dX11_places_164 (by decide) ?_
      refine aw_icmp_ne (tgt := 177) dX11_places_165 (by decide) (fun c2 => ?_) (fun c2 => ?_)
      · replace H := a_pos c2 H
        refine aw_iload dX11_places_177 4 rfl ?_
        exact aw_iret rfl H dX11_places_179
      · replace H := a_neg2 c2 H
        refine aw_aload_n dX11_places_168 rfl 0 rfl ?_
        refine aw_iload dX11_places_169 4 rfl ?_
        refine aw_callV_i (As := [.int x4]) (rest := []) (am_X11_worthOf (d + 9) o_k H) mf_X11_worthOf wd_1594 wd_1596 ws_6_9 cf_X11 o_k rfl rfl (Nat.le_of_ble_eq_true rfl) dX11_places_171 (fun r4 h3 H => ?_)
        refine aw_goto (tgt := 179) dX11_places_174 (by decide) ?_
        exact aw_iret rfl H dX11_places_179
    · replace H := a_neg c1 H
      refine aw_aload_n dX11_places_102 rfl 0 rfl ?_
      refine aw_iload dX11_places_103 5 rfl ?_
      refine aw_callV_i (As := [.int x5]) (rest := []) (am_X11_worthOf (d + 9) o_k H) mf_X11_worthOf wd_1594 wd_1596 ws_6_9 cf_X11 o_k rfl rfl (Nat.le_of_ble_eq_true rfl) dX11_places_105 (fun r6 h5 H => ?_)
      refine aw_aload_n dX11_places_108 rfl 0 rfl ?_
      refine aw_iload dX11_places_109 4 rfl ?_
      refine aw_callV_i (As := [.int x4]) (rest := [.int r6]) (am_X11_worthOf (d + 9) o_k H) mf_X11_worthOf wd_1594 wd_1596 ws_6_9 cf_X11 o_k rfl rfl (Nat.le_of_ble_eq_true rfl) dX11_places_111 (fun r8 h7 H => ?_)
      refine aw_isub dX11_places_114 ?_
      refine aw_name (fun x6_9 e_x6_9 => ?_)
      replace H := H x6_9 e_x6_9
      refine aw_istore (lv' := [(6, .int x6_9), (0, .ref (G.2.1 k)), (1, .int a1), (2, .int a2), (3, .int x3), (4, .int x4), (5, .int x5)]) dX11_places_115 (by decide) rfl ?_
      refine aw_iload dX11_places_117 0 rfl ?_
      refine aw_if_lt (tgt := 157) dX11_places_119 (by decide) (fun c10 => ?_) (fun c10 => ?_)
      · replace H := a_pos c10 H
        obtain ⟨x5_11, e_x5_11⟩ : ∃ y : Int32, y = x5 + 1 := ⟨_, rfl⟩
        replace H := H x5_11 e_x5_11
        refine aw_iinc (v := x5_11) (lv' := [(5, .int x5_11), (6, .int x6_9), (0, .ref (G.2.1 k)), (1, .int a1), (2, .int a2), (3, .int x3), (4, .int x4)]) dX11_places_157 (n0 := 6) rfl (by rw [e_x5_11]; rfl) (by decide) rfl ?_
        refine aw_goto (tgt := 94) dX11_places_160 (by decide) ?_
        refine aw_sub (lv' := [(0, .ref (G.2.1 k)), (1, .int a1), (2, .int a2), (3, .int x3), (4, .int x4), (5, .int x5_11)]) [2, 3, 4, 5, 6, 0] rfl ?_
        exact ih _ _ _ _ H
      · replace H := a_neg c10 H
        refine aw_iload dX11_places_122 0 rfl ?_
        refine aw_if_ne (tgt := 140) dX11_places_124 (by decide) (fun c12 => ?_) (fun c12 => ?_)
        · replace H := a_pos c12 H
          refine aw_aload_n dX11_places_140 rfl 1 rfl ?_
          refine aw_iload dX11_places_141 6 rfl ?_
          refine aw_iload_n dX11_places_143 rfl 4 rfl ?_
          refine aw_callV_i (As := [.int x5, .int x3]) (rest := []) (am_X11_isFine (d + 5) o_k H) mf_X11_isFine wd_1604 wd_1606 ws_6_10 cf_X11 o_k rfl rfl (Nat.le_of_ble_eq_true rfl) dX11_places_144 (fun r14 h13 H => ?_)
          refine aw_if_ne (tgt := 153) dX11_places_147 (by decide) (fun c15 => ?_) (fun c15 => ?_)
          · replace H := a_pos c15 H
            refine aw_iload dX11_places_153 6 rfl ?_
            refine aw_istore (lv' := [(4, .int x5), (6, .int x6_9), (0, .ref (G.2.1 k)), (1, .int a1), (2, .int a2), (3, .int x3), (5, .int x5)]) dX11_places_155 (by decide) rfl ?_
            obtain ⟨x5_16, e_x5_16⟩ : ∃ y : Int32, y = x5 + 1 := ⟨_, rfl⟩
            replace H := H x5_16 e_x5_16
            refine aw_iinc (v := x5_16) (lv' := [(5, .int x5_16), (4, .int x5), (6, .int x6_9), (0, .ref (G.2.1 k)), (1, .int a1), (2, .int a2), (3, .int x3)]) dX11_places_157 (n0 := 6) rfl (by rw [e_x5_16]; rfl) (by decide) rfl ?_
            refine aw_goto (tgt := 94) dX11_places_160 (by decide) ?_
            refine aw_sub (lv' := [(0, .ref (G.2.1 k)), (1, .int a1), (2, .int a2), (3, .int x3), (4, .int x5), (5, .int x5_16)]) [3, 4, 5, 6, 1, 0] rfl ?_
            exact ih _ _ _ _ H
          · replace H := a_neg2 c15 H
            refine aw_goto (tgt := 157) dX11_places_150 (by decide) ?_
            obtain ⟨x5_17, e_x5_17⟩ : ∃ y : Int32, y = x5 + 1 := ⟨_, rfl⟩
            replace H := H x5_17 e_x5_17
            refine aw_iinc (v := x5_17) (lv' := [(5, .int x5_17), (6, .int x6_9), (0, .ref (G.2.1 k)), (1, .int a1), (2, .int a2), (3, .int x3), (4, .int x4)]) dX11_places_157 (n0 := 6) rfl (by rw [e_x5_17]; rfl) (by decide) rfl ?_
            refine aw_goto (tgt := 94) dX11_places_160 (by decide) ?_
            refine aw_sub (lv' := [(0, .ref (G.2.1 k)), (1, .int a1), (2, .int a2), (3, .int x3), (4, .int x4), (5, .int x5_17)]) [2, 3, 4, 5, 6, 0] rfl ?_
            exact ih _ _ _ _ H
        · replace H := a_neg2 c12 H
          refine aw_iload dX11_places_127 6 rfl ?_
          refine aw_callS_i (As := [.int x5]) (rest := []) (am_X11_sizeOf (d + 10) H) mf_X11_sizeOf wd_1601 wd_1602 rfl rfl (Nat.le_of_ble_eq_true rfl) dX11_places_129 (fun r19 h18 H => ?_)
          refine aw_iload dX11_places_132 5 rfl ?_
          refine aw_callS_i (As := [.int x4]) (rest := [.int r19]) (am_X11_sizeOf (d + 10) H) mf_X11_sizeOf wd_1601 wd_1602 rfl rfl (Nat.le_of_ble_eq_true rfl) dX11_places_134 (fun r21 h20 H => ?_)
          refine aw_icmp_ge (tgt := 157) dX11_places_137 (by decide) (fun c22 => ?_) (fun c22 => ?_)
          · replace H := a_pos c22 H
            obtain ⟨x5_23, e_x5_23⟩ : ∃ y : Int32, y = x5 + 1 := ⟨_, rfl⟩
            replace H := H x5_23 e_x5_23
            refine aw_iinc (v := x5_23) (lv' := [(5, .int x5_23), (6, .int x6_9), (0, .ref (G.2.1 k)), (1, .int a1), (2, .int a2), (3, .int x3), (4, .int x4)]) dX11_places_157 (n0 := 6) rfl (by rw [e_x5_23]; rfl) (by decide) rfl ?_
            refine aw_goto (tgt := 94) dX11_places_160 (by decide) ?_
            refine aw_sub (lv' := [(0, .ref (G.2.1 k)), (1, .int a1), (2, .int a2), (3, .int x3), (4, .int x4), (5, .int x5_23)]) [2, 3, 4, 5, 6, 0] rfl ?_
            exact ih _ _ _ _ H
          · replace H := a_neg c22 H
            refine aw_aload_n dX11_places_140 rfl 1 rfl ?_
            refine aw_iload dX11_places_141 6 rfl ?_
            refine aw_iload_n dX11_places_143 rfl 4 rfl ?_
            refine aw_callV_i (As := [.int x5, .int x3]) (rest := []) (am_X11_isFine (d + 5) o_k H) mf_X11_isFine wd_1604 wd_1606 ws_6_10 cf_X11 o_k rfl rfl (Nat.le_of_ble_eq_true rfl) dX11_places_144 (fun r25 h24 H => ?_)
            refine aw_if_ne (tgt := 153) dX11_places_147 (by decide) (fun c26 => ?_) (fun c26 => ?_)
            · replace H := a_pos c26 H
              refine aw_iload dX11_places_153 6 rfl ?_
              refine aw_istore (lv' := [(4, .int x5), (6, .int x6_9), (0, .ref (G.2.1 k)), (1, .int a1), (2, .int a2), (3, .int x3), (5, .int x5)]) dX11_places_155 (by decide) rfl ?_
              obtain ⟨x5_27, e_x5_27⟩ : ∃ y : Int32, y = x5 + 1 := ⟨_, rfl⟩
              replace H := H x5_27 e_x5_27
              refine aw_iinc (v := x5_27) (lv' := [(5, .int x5_27), (4, .int x5), (6, .int x6_9), (0, .ref (G.2.1 k)), (1, .int a1), (2, .int a2), (3, .int x3)]) dX11_places_157 (n0 := 6) rfl (by rw [e_x5_27]; rfl) (by decide) rfl ?_
              refine aw_goto (tgt := 94) dX11_places_160 (by decide) ?_
              refine aw_sub (lv' := [(0, .ref (G.2.1 k)), (1, .int a1), (2, .int a2), (3, .int x3), (4, .int x5), (5, .int x5_27)]) [3, 4, 5, 6, 1, 0] rfl ?_
              exact ih _ _ _ _ H
            · replace H := a_neg2 c26 H
              refine aw_goto (tgt := 157) dX11_places_150 (by decide) ?_
              obtain ⟨x5_28, e_x5_28⟩ : ∃ y : Int32, y = x5 + 1 := ⟨_, rfl⟩
              replace H := H x5_28 e_x5_28
              refine aw_iinc (v := x5_28) (lv' := [(5, .int x5_28), (6, .int x6_9), (0, .ref (G.2.1 k)), (1, .int a1), (2, .int a2), (3, .int x3), (4, .int x4)]) dX11_places_157 (n0 := 6) rfl (by rw [e_x5_28]; rfl) (by decide) rfl ?_
              refine aw_goto (tgt := 94) dX11_places_160 (by decide) ?_
              refine aw_sub (lv' := [(0, .ref (G.2.1 k)), (1, .int a1), (2, .int a2), (3, .int x3), (4, .int x4), (5, .int x5_28)]) [2, 3, 4, 5, 6, 0] rfl ?_
              exact ih _ _ _ _ H
set_option maxHeartbeats 4000000 in
set_option maxRecDepth 100000 in
theorem fm_X11_places_51 {l : Launch} {S : aS} {G : aG} (d : Nat) {k : Nat} {a1 : Int32} {a2 : Int32} {Q : Int32 → aH → Prop} (o_k : aObj S k 10 flX11) : ∀ (n : Nat) (x3 : Int32) (x4 : Int32) (h : aH), f_X11_places_51 S k a1 a2 Q n x3 x4 h → AW l S G (d + 11) M_X11_places (va_Qi Q (aPo S G) (aA S G)) 51 [(0, .ref (G.2.1 k)), (1, .int a1), (2, .int a2), (3, .int x3), (4, .int x4)] [] h := by
  intro n
  induction n with
  | zero => intro x3 x4 h H; exact False.elim H
  | succ n ih =>
    intro x3 x4 h H
    unfold f_X11_places_51 at H
    refine aw_iload dX11_places_51 4 rfl ?_
    refine aw_iload_n dX11_places_53 rfl 1 rfl ?_
    refine aw_icmp_ge (tgt := 88) dX11_places_54 (by decide) (fun c29 => ?_) (fun c29 => ?_)
    · replace H := a_pos c29 H
      refine aw_iconst (v := 0) dX11_places_88 (by decide) ?_
      refine aw_istore (lv' := [(4, .int 0), (0, .ref (G.2.1 k)), (1, .int a1), (2, .int a2), (3, .int x3)]) dX11_places_89 (by decide) rfl ?_
      refine aw_iconst (v := 1) dX11_places_91 (by decide) ?_
      refine aw_istore (lv' := [(5, .int 1), (4, .int 0), (0, .ref (G.2.1 k)), (1, .int a1), (2, .int a2), (3, .int x3)]) dX11_places_92 (by decide) rfl ?_
      refine aw_sub (lv' := [(0, .ref (G.2.1 k)), (1, .int a1), (2, .int a2), (3, .int x3), (4, .int 0), (5, .int 1)]) [2, 3, 4, 5, 1, 0] rfl ?_
      obtain ⟨n1, H⟩ := H
      exact fm_X11_places_94 d o_k n1 _ _ _ _ H
    · replace H := a_neg c29 H
      refine aw_iload_n dX11_places_57 rfl 3 rfl ?_
      refine aw_aload_n dX11_places_58 rfl 0 rfl ?_
      refine aw_aload_n dX11_places_59 rfl 0 rfl ?_
      refine aw_getR cf_X11 52 (by decide) rfl wd_1088 o_k dX11_places_60 ?_
      refine aw_iload dX11_places_63 4 rfl ?_
      obtain ⟨z30, H⟩ := H
      refine aw_iaload z30 dX11_places_65 ?_
      refine aw_name (fun v31 e_v31 => ?_)
      replace H := H v31 e_v31
      refine aw_callV_i (As := [.int v31]) (rest := [.int x3]) (am_X11_isFineAlone d o_k H) mf_X11_isFineAlone wd_1587 wd_1589 ws_6_8 cf_X11 o_k rfl rfl (Nat.le_of_ble_eq_true rfl) dX11_places_66 (fun r33 h32 H => ?_)
      refine aw_if_eq (tgt := 79) dX11_places_69 (by decide) (fun c34 => ?_) (fun c34 => ?_)
      · replace H := a_pos c34 H
        refine aw_iconst (v := 0) dX11_places_79 (by decide) ?_
        refine aw_ior dX11_places_80 ?_
        refine aw_name (fun x3_35 e_x3_35 => ?_)
        replace H := H x3_35 e_x3_35
        refine aw_istore_n (lv' := [(3, .int x3_35), (0, .ref (G.2.1 k)), (1, .int a1), (2, .int a2), (4, .int x4)]) dX11_places_81 rfl (by decide) rfl ?_
        obtain ⟨x4_36, e_x4_36⟩ : ∃ y : Int32, y = x4 + 1 := ⟨_, rfl⟩
        replace H := H x4_36 e_x4_36
        refine aw_iinc (v := x4_36) (lv' := [(4, .int x4_36), (3, .int x3_35), (0, .ref (G.2.1 k)), (1, .int a1), (2, .int a2)]) dX11_places_82 (n0 := 4) rfl (by rw [e_x4_36]; rfl) (by decide) rfl ?_
        refine aw_goto (tgt := 51) dX11_places_85 (by decide) ?_
        refine aw_sub (lv' := [(0, .ref (G.2.1 k)), (1, .int a1), (2, .int a2), (3, .int x3_35), (4, .int x4_36)]) [2, 3, 4, 1, 0] rfl ?_
        exact ih _ _ _ H
      · replace H := a_neg c34 H
        refine aw_iconst (v := 1) dX11_places_72 (by decide) ?_
        refine aw_iload dX11_places_73 4 rfl ?_
        refine aw_ishl dX11_places_75 ?_
        refine aw_goto (tgt := 80) dX11_places_76 (by decide) ?_
        refine aw_ior dX11_places_80 ?_
        refine aw_name (fun x3_37 e_x3_37 => ?_)
        replace H := H x3_37 e_x3_37
        refine aw_istore_n (lv' := [(3, .int x3_37), (0, .ref (G.2.1 k)), (1, .int a1), (2, .int a2), (4, .int x4)]) dX11_places_81 rfl (by decide) rfl ?_
        obtain ⟨x4_38, e_x4_38⟩ : ∃ y : Int32, y = x4 + 1 := ⟨_, rfl⟩
        replace H := H x4_38 e_x4_38
        refine aw_iinc (v := x4_38) (lv' := [(4, .int x4_38), (3, .int x3_37), (0, .ref (G.2.1 k)), (1, .int a1), (2, .int a2)]) dX11_places_82 (n0 := 4) rfl (by rw [e_x4_38]; rfl) (by decide) rfl ?_
        refine aw_goto (tgt := 51) dX11_places_85 (by decide) ?_
        refine aw_sub (lv' := [(0, .ref (G.2.1 k)), (1, .int a1), (2, .int a2), (3, .int x3_37), (4, .int x4_38)]) [2, 3, 4, 1, 0] rfl ?_
        exact ih _ _ _ H
set_option maxHeartbeats 4000000 in
set_option maxRecDepth 100000 in
theorem fm_X11_places_22 {l : Launch} {S : aS} {G : aG} (d : Nat) {k : Nat} {a1 : Int32} {a2 : Int32} {Q : Int32 → aH → Prop} (o_k : aObj S k 10 flX11)  (h : aH) (H : f_X11_places_22 S k a1 a2 Q  h) : AW l S G (d + 11) M_X11_places (va_Qi Q (aPo S G) (aA S G)) 22 [(0, .ref (G.2.1 k)), (1, .int a1), (2, .int a2)] [] h := by
  unfold f_X11_places_22 at H
  refine aw_iconst (v := 2) dX11_places_22 (by decide) ?_
  refine aw_iload_n dX11_places_23 rfl 1 rfl ?_
  refine aw_imul dX11_places_24 ?_
  refine aw_aload_n dX11_places_25 rfl 0 rfl ?_
  refine aw_getI cf_X11 1 (by decide) rfl wd_1037 o_k dX11_places_26 ?_
  refine aw_name (fun v39 e_v39 => ?_)
  replace H := H v39 e_v39
  refine aw_icmp_le (tgt := 35) dX11_places_29 (by decide) (fun c40 => ?_) (fun c40 => ?_)
  · replace H := a_pos c40 H
    refine aw_aload_n dX11_places_35 rfl 0 rfl ?_
    refine aw_iload_n dX11_places_36 rfl 1 rfl ?_
    refine aw_callV_i (As := [.int a1]) (rest := []) (am_X11_takesTwos (d + 9) o_k H) mf_X11_takesTwos wd_1575 wd_1577 ws_6_5 cf_X11 o_k rfl rfl (Nat.le_of_ble_eq_true rfl) dX11_places_37 (fun r42 h41 H => ?_)
    refine aw_if_eq (tgt := 46) dX11_places_40 (by decide) (fun c43 => ?_) (fun c43 => ?_)
    · replace H := a_pos c43 H
      refine aw_iconst (v := 0) dX11_places_46 (by decide) ?_
      refine aw_istore_n (lv' := [(3, .int 0), (0, .ref (G.2.1 k)), (1, .int a1), (2, .int a2)]) dX11_places_47 rfl (by decide) rfl ?_
      refine aw_iconst (v := 0) dX11_places_48 (by decide) ?_
      refine aw_istore (lv' := [(4, .int 0), (3, .int 0), (0, .ref (G.2.1 k)), (1, .int a1), (2, .int a2)]) dX11_places_49 (by decide) rfl ?_
      refine aw_sub (lv' := [(0, .ref (G.2.1 k)), (1, .int a1), (2, .int a2), (3, .int 0), (4, .int 0)]) [2, 3, 4, 1, 0] rfl ?_
      obtain ⟨n1, H⟩ := H
      exact fm_X11_places_51 d o_k n1 _ _ _ H
    · replace H := a_neg c43 H
      refine aw_bipush (v := (-2)) dX11_places_43 (by decide) ?_
      exact aw_iret rfl H dX11_places_45
  · replace H := a_neg c40 H
    refine aw_bipush (v := (-3)) dX11_places_32 (by decide) ?_
    exact aw_iret rfl H dX11_places_34
set_option maxHeartbeats 4000000 in
set_option maxRecDepth 100000 in
theorem am_X11_places {l : Launch} {S : aS} {G : aG} (d : Nat) {k : Nat} {a1 : Int32} {a2 : Int32} {h : aH} {Q : Int32 → aH → Prop} (o_k : aObj S k 10 flX11) (H : f_X11_places S k a1 a2 h Q) : AMi l S G (d + 11) M_X11_places [.ref (G.2.1 k), .int a1, .int a2] h Q := by
  unfold f_X11_places at H
  refine am_of mf_X11_places (Nat.le_of_ble_eq_true rfl) (lv0 := [(0, .ref (G.2.1 k)), (1, .int a1), (2, .int a2)]) rfl ?_
  refine aw_iload_n dX11_places_0 rfl 1 rfl ?_
  refine aw_i2l dX11_places_1 ?_
  refine aw_lconst (v := 1) dX11_places_2 (by decide) ?_
  refine aw_ldc2 (v := 10) dX11_places_3 wd_1521 ?_
  refine aw_callS_i (As := [.long (a1).toInt64, .long 1, .long 10]) (rest := []) (am_X11_lies (d + 10) H) mf_X11_lies wd_1258 wd_1259 rfl rfl (Nat.le_of_ble_eq_true rfl) dX11_places_6 (fun r45 h44 H => ?_)
  refine aw_if_eq (tgt := 32) dX11_places_9 (by decide) (fun c46 => ?_) (fun c46 => ?_)
  · replace H := a_pos c46 H
    refine aw_bipush (v := (-3)) dX11_places_32 (by decide) ?_
    exact aw_iret rfl H dX11_places_34
  · replace H := a_neg c46 H
    refine aw_iload_n dX11_places_12 rfl 2 rfl ?_
    refine aw_iconst (v := (-1)) dX11_places_13 (by decide) ?_
    refine aw_icmp_eq (tgt := 22) dX11_places_14 (by decide) (fun c47 => ?_) (fun c47 => ?_)
    · replace H := a_pos c47 H
      exact fm_X11_places_22 d o_k _ H
    · replace H := a_neg c47 H
      refine aw_iload_n dX11_places_17 rfl 2 rfl ?_
      refine aw_iconst (v := 1) dX11_places_18 (by decide) ?_
      refine aw_icmp_ne (tgt := 32) dX11_places_19 (by decide) (fun c48 => ?_) (fun c48 => ?_)
      · replace H := a_pos c48 H
        refine aw_bipush (v := (-3)) dX11_places_32 (by decide) ?_
        exact aw_iret rfl H dX11_places_34
      · replace H := a_neg2 c48 H
        exact fm_X11_places_22 d o_k _ H
set_option maxHeartbeats 4000000 in
set_option maxRecDepth 100000 in
theorem fm_X11_timeOf_4 {l : Launch} {S : aS} {G : aG} (d : Nat) {k : Nat} {a1 : Int32} {Q : Int32 → aH → Prop} (o_k : aObj S k 10 flX11) : ∀ (n : Nat) (x2 : Int32) (x3 : Int32) (h : aH), f_X11_timeOf_4 S k a1 Q n x2 x3 h → AW l S G (d + 1) M_X11_timeOf (va_Qi Q (aPo S G) (aA S G)) 4 [(0, .ref (G.2.1 k)), (1, .int a1), (2, .int x2), (3, .int x3)] [] h := by
  intro n
  induction n with
  | zero => intro x2 x3 h H; exact False.elim H
  | succ n ih =>
    intro x2 x3 h H
    unfold f_X11_timeOf_4 at H
    refine aw_iload_n dX11_timeOf_4 rfl 3 rfl ?_
    refine aw_aload_n dX11_timeOf_5 rfl 0 rfl ?_
    refine aw_getI cf_X11 2 (by decide) rfl wd_1038 o_k dX11_timeOf_6 ?_
    refine aw_name (fun v1 e_v1 => ?_)
    replace H := H v1 e_v1
    refine aw_icmp_ge (tgt := 41) dX11_timeOf_9 (by decide) (fun c2 => ?_) (fun c2 => ?_)
    · replace H := a_pos c2 H
      refine aw_iload_n dX11_timeOf_41 rfl 2 rfl ?_
      exact aw_iret rfl H dX11_timeOf_42
    · replace H := a_neg c2 H
      refine aw_iload_n dX11_timeOf_12 rfl 2 rfl ?_
      refine aw_iload_n dX11_timeOf_13 rfl 1 rfl ?_
      refine aw_iload_n dX11_timeOf_14 rfl 3 rfl ?_
      refine aw_callS_i (As := [.int a1, .int x3]) (rest := [.int x2]) (am_X11_has d H) mf_X11_has wd_1598 wd_1599 rfl rfl (Nat.le_of_ble_eq_true rfl) dX11_timeOf_15 (fun r4 h3 H => ?_)
      refine aw_if_eq (tgt := 32) dX11_timeOf_18 (by decide) (fun c5 => ?_) (fun c5 => ?_)
      · replace H := a_pos c5 H
        refine aw_iconst (v := 0) dX11_timeOf_32 (by decide) ?_
        refine aw_iadd dX11_timeOf_33 ?_
        refine aw_name (fun x2_6 e_x2_6 => ?_)
        replace H := H x2_6 e_x2_6
        refine aw_istore_n (lv' := [(2, .int x2_6), (0, .ref (G.2.1 k)), (1, .int a1), (3, .int x3)]) dX11_timeOf_34 rfl (by decide) rfl ?_
        obtain ⟨x3_7, e_x3_7⟩ : ∃ y : Int32, y = x3 + 1 := ⟨_, rfl⟩
        replace H := H x3_7 e_x3_7
        refine aw_iinc (v := x3_7) (lv' := [(3, .int x3_7), (2, .int x2_6), (0, .ref (G.2.1 k)), (1, .int a1)]) dX11_timeOf_35 (n0 := 3) rfl (by rw [e_x3_7]; rfl) (by decide) rfl ?_
        refine aw_goto (tgt := 4) dX11_timeOf_38 (by decide) ?_
        refine aw_sub (lv' := [(0, .ref (G.2.1 k)), (1, .int a1), (2, .int x2_6), (3, .int x3_7)]) [2, 3, 1, 0] rfl ?_
        exact ih _ _ _ H
      · replace H := a_neg c5 H
        refine aw_iconst (v := 1) dX11_timeOf_21 (by decide) ?_
        refine aw_aload_n dX11_timeOf_22 rfl 0 rfl ?_
        refine aw_getR cf_X11 10 (by decide) rfl wd_1046 o_k dX11_timeOf_23 ?_
        refine aw_iload_n dX11_timeOf_26 rfl 3 rfl ?_
        obtain ⟨z8, H⟩ := H
        refine aw_iaload z8 dX11_timeOf_27 ?_
        refine aw_name (fun v9 e_v9 => ?_)
        replace H := H v9 e_v9
        refine aw_iadd dX11_timeOf_28 ?_
        refine aw_goto (tgt := 33) dX11_timeOf_29 (by decide) ?_
        refine aw_iadd dX11_timeOf_33 ?_
        refine aw_name (fun x2_10 e_x2_10 => ?_)
        replace H := H x2_10 e_x2_10
        refine aw_istore_n (lv' := [(2, .int x2_10), (0, .ref (G.2.1 k)), (1, .int a1), (3, .int x3)]) dX11_timeOf_34 rfl (by decide) rfl ?_
        obtain ⟨x3_11, e_x3_11⟩ : ∃ y : Int32, y = x3 + 1 := ⟨_, rfl⟩
        replace H := H x3_11 e_x3_11
        refine aw_iinc (v := x3_11) (lv' := [(3, .int x3_11), (2, .int x2_10), (0, .ref (G.2.1 k)), (1, .int a1)]) dX11_timeOf_35 (n0 := 3) rfl (by rw [e_x3_11]; rfl) (by decide) rfl ?_
        refine aw_goto (tgt := 4) dX11_timeOf_38 (by decide) ?_
        refine aw_sub (lv' := [(0, .ref (G.2.1 k)), (1, .int a1), (2, .int x2_10), (3, .int x3_11)]) [2, 3, 1, 0] rfl ?_
        exact ih _ _ _ H
set_option maxHeartbeats 4000000 in
set_option maxRecDepth 100000 in
theorem am_X11_timeOf {l : Launch} {S : aS} {G : aG} (d : Nat) {k : Nat} {a1 : Int32} {h : aH} {Q : Int32 → aH → Prop} (o_k : aObj S k 10 flX11) (H : f_X11_timeOf S k a1 h Q) : AMi l S G (d + 1) M_X11_timeOf [.ref (G.2.1 k), .int a1] h Q := by
  unfold f_X11_timeOf at H
  refine am_of mf_X11_timeOf (Nat.le_of_ble_eq_true rfl) (lv0 := [(0, .ref (G.2.1 k)), (1, .int a1)]) rfl ?_
  refine aw_iconst (v := 0) dX11_timeOf_0 (by decide) ?_
  refine aw_istore_n (lv' := [(2, .int 0), (0, .ref (G.2.1 k)), (1, .int a1)]) dX11_timeOf_1 rfl (by decide) rfl ?_
  refine aw_iconst (v := 0) dX11_timeOf_2 (by decide) ?_
  refine aw_istore_n (lv' := [(3, .int 0), (2, .int 0), (0, .ref (G.2.1 k)), (1, .int a1)]) dX11_timeOf_3 rfl (by decide) rfl ?_
  refine aw_sub (lv' := [(0, .ref (G.2.1 k)), (1, .int a1), (2, .int 0), (3, .int 0)]) [2, 3, 1, 0] rfl ?_
  obtain ⟨n1, H⟩ := H
  exact fm_X11_timeOf_4 d o_k n1 _ _ _ H
set_option maxHeartbeats 4000000 in
set_option maxRecDepth 100000 in
theorem fm_X11_costBy_23 {l : Launch} {S : aS} {G : aG} (d : Nat) {k : Nat} {a1 : Int32} {a2 : Int32} {Q : Int32 → aH → Prop} (o_k : aObj S k 10 flX11) (s0 : Int32) (h : aH) (H : f_X11_costBy_23 S k a1 a2 Q s0 h) : AW l S G (d + 2) M_X11_costBy (va_Qi Q (aPo S G) (aA S G)) 23 [(0, .ref (G.2.1 k)), (1, .int a1), (2, .int a2)] [.int s0] h := by
  unfold f_X11_costBy_23 at H
  refine aw_istore_n (lv' := [(3, .int s0), (0, .ref (G.2.1 k)), (1, .int a1), (2, .int a2)]) dX11_costBy_23 rfl (by decide) rfl ?_
  refine aw_iload_n dX11_costBy_24 rfl 0 rfl ?_
  refine aw_if_eq (tgt := 42) dX11_costBy_25 (by decide) (fun c1 => ?_) (fun c1 => ?_)
  · replace H := a_pos c1 H
    refine aw_iconst (v := 0) dX11_costBy_42 (by decide) ?_
    refine aw_aload_n dX11_costBy_43 rfl 1 rfl ?_
    refine aw_getR cf_X11 57 (by decide) rfl wd_1093 o_k dX11_costBy_44 ?_
    refine aw_iload_n dX11_costBy_47 rfl 2 rfl ?_
    refine aw_iconst (v := 1) dX11_costBy_48 (by decide) ?_
    refine aw_iload_n dX11_costBy_49 rfl 3 rfl ?_
    refine aw_ishl dX11_costBy_50 ?_
    refine aw_ior dX11_costBy_51 ?_
    obtain ⟨z2, H⟩ := H
    refine aw_iaload z2 dX11_costBy_52 ?_
    refine aw_name (fun v3 e_v3 => ?_)
    replace H := H v3 e_v3
    refine aw_iadd dX11_costBy_53 ?_
    exact aw_iret rfl H dX11_costBy_54
  · replace H := a_neg c1 H
    refine aw_bipush (v := 10) dX11_costBy_28 (by decide) ?_
    refine aw_iconst (v := 5) dX11_costBy_30 (by decide) ?_
    refine aw_aload_n dX11_costBy_31 rfl 1 rfl ?_
    refine aw_getR cf_X11 11 (by decide) rfl wd_1047 o_k dX11_costBy_32 ?_
    refine aw_iload_n dX11_costBy_35 rfl 3 rfl ?_
    obtain ⟨z4, H⟩ := H
    refine aw_iaload z4 dX11_costBy_36 ?_
    refine aw_name (fun v5 e_v5 => ?_)
    replace H := H v5 e_v5
    refine aw_imul dX11_costBy_37 ?_
    refine aw_iadd dX11_costBy_38 ?_
    refine aw_goto (tgt := 43) dX11_costBy_39 (by decide) ?_
    refine aw_aload_n dX11_costBy_43 rfl 1 rfl ?_
    refine aw_getR cf_X11 57 (by decide) rfl wd_1093 o_k dX11_costBy_44 ?_
    refine aw_iload_n dX11_costBy_47 rfl 2 rfl ?_
    refine aw_iconst (v := 1) dX11_costBy_48 (by decide) ?_
    refine aw_iload_n dX11_costBy_49 rfl 3 rfl ?_
    refine aw_ishl dX11_costBy_50 ?_
    refine aw_ior dX11_costBy_51 ?_
    obtain ⟨z6, H⟩ := H
    refine aw_iaload z6 dX11_costBy_52 ?_
    refine aw_name (fun v7 e_v7 => ?_)
    replace H := H v7 e_v7
    refine aw_iadd dX11_costBy_53 ?_
    exact aw_iret rfl H dX11_costBy_54
set_option maxHeartbeats 4000000 in
set_option maxRecDepth 100000 in
theorem am_X11_costBy {l : Launch} {S : aS} {G : aG} (d : Nat) {k : Nat} {a1 : Int32} {a2 : Int32} {h : aH} {Q : Int32 → aH → Prop} (o_k : aObj S k 10 flX11) (H : f_X11_costBy S k a1 a2 h Q) : AMi l S G (d + 2) M_X11_costBy [.ref (G.2.1 k), .int a1, .int a2] h Q := by
  unfold f_X11_costBy at H
  refine am_of mf_X11_costBy (Nat.le_of_ble_eq_true rfl) (lv0 := [(0, .ref (G.2.1 k)), (1, .int a1), (2, .int a2)]) rfl ?_
  refine aw_aload_n dX11_costBy_0 rfl 0 rfl ?_
  refine aw_iload_n dX11_costBy_1 rfl 1 rfl ?_
  refine aw_iconst (v := 1) dX11_costBy_2 (by decide) ?_
  refine aw_iload_n dX11_costBy_3 rfl 2 rfl ?_
  refine aw_ishl dX11_costBy_4 ?_
  refine aw_ior dX11_costBy_5 ?_
  refine aw_callV_i (As := [.int (a1 ||| (1 <<< (a2 &&& 31)))]) (rest := []) (am_X11_timeOf d o_k H) mf_X11_timeOf wd_1626 wd_1628 ws_6_14 cf_X11 o_k rfl rfl (Nat.le_of_ble_eq_true rfl) dX11_costBy_6 (fun r9 h8 H => ?_)
  refine aw_aload_n dX11_costBy_9 rfl 0 rfl ?_
  refine aw_getR cf_X11 56 (by decide) rfl wd_1092 o_k dX11_costBy_10 ?_
  refine aw_iload_n dX11_costBy_13 rfl 2 rfl ?_
  obtain ⟨z10, H⟩ := H
  refine aw_iaload z10 dX11_costBy_14 ?_
  refine aw_name (fun v11 e_v11 => ?_)
  replace H := H v11 e_v11
  refine aw_icmp_le (tgt := 22) dX11_costBy_15 (by decide) (fun c12 => ?_) (fun c12 => ?_)
  · replace H := a_pos c12 H
    refine aw_iconst (v := 0) dX11_costBy_22 (by decide) ?_
    exact fm_X11_costBy_23 d o_k _ _ H
  · replace H := a_neg c12 H
    refine aw_iconst (v := 1) dX11_costBy_18 (by decide) ?_
    refine aw_goto (tgt := 23) dX11_costBy_19 (by decide) ?_
    exact fm_X11_costBy_23 d o_k _ _ H
