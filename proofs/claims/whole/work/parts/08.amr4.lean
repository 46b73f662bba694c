set_option maxHeartbeats 4000000 in
set_option maxRecDepth 100000 in
theorem am_X11_group {l : Launch} {S : aS} {G : aG} (d : Nat) {k : Nat} {a1 : Int32} {a2 : Int32} {a3 : Int32} {h : aH} {Q : Int32 → aH → Prop} (o_k : aObj S k 10 flX11) (H : f_X11_group S k a1 a2 a3 h Q) : AMi l S G (d + 3) M_X11_group [.ref (G.2.1 k), .int a1, .int a2, .int a3] h Q := by
  unfold f_X11_group at H
  refine am_of mf_X11_group (Nat.le_of_ble_eq_true rfl) (lv0 := [(0, .ref (G.2.1 k)), (1, .int a1), (2, .int a2), (3, .int a3)]) rfl ?_
  refine aw_iload_n dX11_group_0 rfl 1 rfl ?_
  refine aw_iload_n dX11_group_1 rfl 2 rfl ?_
  refine aw_callS_i (As := [.int a1, .int a2]) (rest := []) (am_X11_isSquare d H) mf_X11_isSquare wd_1251 wd_1252 rfl rfl (Nat.le_of_ble_eq_true rfl) dX11_group_2 (fun r2 h1 H => ?_)
  refine aw_if_eq (tgt := 42) dX11_group_5 (by decide) (fun c3 => ?_) (fun c3 => ?_)
  · replace H := a_pos c3 H
    refine aw_iconst (v := (-1)) dX11_group_42 (by decide) ?_
    exact aw_iret rfl H dX11_group_43
  · replace H := a_neg c3 H
    refine aw_iload_n dX11_group_8 rfl 3 rfl ?_
    refine aw_i2l dX11_group_9 ?_
    refine aw_lconst (v := 1) dX11_group_10 (by decide) ?_
    refine aw_ldc2 (v := 99) dX11_group_11 wd_1261 ?_
    refine aw_callS_i (As := [.long (a3).toInt64, .long 1, .long 99]) (rest := []) (am_X11_lies (d + 2) H) mf_X11_lies wd_1258 wd_1259 rfl rfl (Nat.le_of_ble_eq_true rfl) dX11_group_14 (fun r5 h4 H => ?_)
    refine aw_if_eq (tgt := 42) dX11_group_17 (by decide) (fun c6 => ?_) (fun c6 => ?_)
    · replace H := a_pos c6 H
      refine aw_iconst (v := (-1)) dX11_group_42 (by decide) ?_
      exact aw_iret rfl H dX11_group_43
    · replace H := a_neg c6 H
      refine aw_aload_n dX11_group_20 rfl 0 rfl ?_
      refine aw_getI cf_X11 3 (by decide) rfl wd_1039 o_k dX11_group_21 ?_
      refine aw_name (fun v7 e_v7 => ?_)
      replace H := H v7 e_v7
      refine aw_bipush (v := 8) dX11_group_24 (by decide) ?_
      refine aw_icmp_eq (tgt := 42) dX11_group_26 (by decide) (fun c8 => ?_) (fun c8 => ?_)
      · replace H := a_pos c8 H
        refine aw_iconst (v := (-1)) dX11_group_42 (by decide) ?_
        exact aw_iret rfl H dX11_group_43
      · replace H := a_neg c8 H
        refine aw_aload_n dX11_group_29 rfl 0 rfl ?_
        refine aw_bipush (v := 16) dX11_group_30 (by decide) ?_
        refine aw_iload_n dX11_group_32 rfl 2 rfl ?_
        refine aw_imul dX11_group_33 ?_
        refine aw_iload_n dX11_group_34 rfl 1 rfl ?_
        refine aw_iadd dX11_group_35 ?_
        refine aw_callV_i (As := [.int ((16 * a2) + a1)]) (rest := []) (am_X11_isIce (d + 2) o_k H) mf_X11_isIce wd_1374 wd_1376 ws_4_4 cf_X11 o_k rfl rfl (Nat.le_of_ble_eq_true rfl) dX11_group_36 (fun r10 h9 H => ?_)
        refine aw_if_ne (tgt := 44) dX11_group_39 (by decide) (fun c11 => ?_) (fun c11 => ?_)
        · replace H := a_pos c11 H
          refine aw_aload_n dX11_group_44 rfl 0 rfl ?_
          refine aw_getR cf_X11 14 (by decide) rfl wd_1050 o_k dX11_group_45 ?_
          refine aw_aload_n dX11_group_48 rfl 0 rfl ?_
          refine aw_getI cf_X11 3 (by decide) rfl wd_1039 o_k dX11_group_49 ?_
          refine aw_name (fun v12 e_v12 => ?_)
          replace H := H v12 e_v12
          refine aw_bipush (v := 16) dX11_group_52 (by decide) ?_
          refine aw_iload_n dX11_group_54 rfl 2 rfl ?_
          refine aw_imul dX11_group_55 ?_
          refine aw_iload_n dX11_group_56 rfl 1 rfl ?_
          refine aw_iadd dX11_group_57 ?_
          obtain ⟨z13, H⟩ := H
          refine aw_iastore z13 dX11_group_58 ?_
          refine aw_nameH (fun h14 e_h14 => ?_)
          replace H := H h14 e_h14
          refine aw_aload_n dX11_group_59 rfl 0 rfl ?_
          refine aw_getR cf_X11 15 (by decide) rfl wd_1051 o_k dX11_group_60 ?_
          refine aw_aload_n dX11_group_63 rfl 0 rfl ?_
          refine aw_getI cf_X11 3 (by decide) rfl wd_1039 o_k dX11_group_64 ?_
          refine aw_name (fun v15 e_v15 => ?_)
          replace H := H v15 e_v15
          refine aw_iload_n dX11_group_67 rfl 3 rfl ?_
          obtain ⟨z16, H⟩ := H
          refine aw_iastore z16 dX11_group_68 ?_
          refine aw_nameH (fun h17 e_h17 => ?_)
          replace H := H h17 e_h17
          refine aw_aload_n dX11_group_69 rfl 0 rfl ?_
          refine aw_dup dX11_group_70 rfl ?_
          refine aw_getI cf_X11 3 (by decide) rfl wd_1039 o_k dX11_group_71 ?_
          refine aw_name (fun v18 e_v18 => ?_)
          replace H := H v18 e_v18
          refine aw_iconst (v := 1) dX11_group_74 (by decide) ?_
          refine aw_iadd dX11_group_75 ?_
          refine aw_putI cf_X11 3 (by decide) rfl wd_1039 rfl rfl rfl o_k dX11_group_76 ?_
          refine aw_nameH (fun h19 e_h19 => ?_)
          replace H := H h19 e_h19
          refine aw_aload_n dX11_group_79 rfl 0 rfl ?_
          refine aw_getI cf_X11 3 (by decide) rfl wd_1039 o_k dX11_group_80 ?_
          refine aw_name (fun v20 e_v20 => ?_)
          replace H := H v20 e_v20
          refine aw_iconst (v := 1) dX11_group_83 (by decide) ?_
          refine aw_isub dX11_group_84 ?_
          exact aw_iret rfl H dX11_group_85
        · replace H := a_neg2 c11 H
          refine aw_iconst (v := (-1)) dX11_group_42 (by decide) ?_
          exact aw_iret rfl H dX11_group_43
set_option maxHeartbeats 4000000 in
set_option maxRecDepth 100000 in
theorem fm_X11_drownedMany_4 {l : Launch} {S : aS} {G : aG} (d : Nat) {k : Nat} {Q : Int32 → aH → Prop} (o_k : aObj S k 10 flX11) : ∀ (n : Nat) (x1 : Int32) (x2 : Int32) (h : aH), f_X11_drownedMany_4 S k Q n x1 x2 h → AW l S G d M_X11_drownedMany (va_Qi Q (aPo S G) (aA S G)) 4 [(0, .ref (G.2.1 k)), (1, .int x1), (2, .int x2)] [] h := by
  intro n
  induction n with
  | zero => intro x1 x2 h H; exact False.elim H
  | succ n ih =>
    intro x1 x2 h H
    unfold f_X11_drownedMany_4 at H
    refine aw_iload_n dX11_drownedMany_4 rfl 2 rfl ?_
    refine aw_aload_n dX11_drownedMany_5 rfl 0 rfl ?_
    refine aw_getI cf_X11 3 (by decide) rfl wd_1039 o_k dX11_drownedMany_6 ?_
    refine aw_name (fun v1 e_v1 => ?_)
    replace H := H v1 e_v1
    refine aw_icmp_ge (tgt := 37) dX11_drownedMany_9 (by decide) (fun c2 => ?_) (fun c2 => ?_)
    · replace H := a_pos c2 H
      refine aw_iload_n dX11_drownedMany_37 rfl 1 rfl ?_
      exact aw_iret rfl H dX11_drownedMany_38
    · replace H := a_neg c2 H
      refine aw_iload_n dX11_drownedMany_12 rfl 1 rfl ?_
      refine aw_aload_n dX11_drownedMany_13 rfl 0 rfl ?_
      refine aw_getR cf_X11 14 (by decide) rfl wd_1050 o_k dX11_drownedMany_14 ?_
      refine aw_iload_n dX11_drownedMany_17 rfl 2 rfl ?_
      obtain ⟨z3, H⟩ := H
      refine aw_iaload z3 dX11_drownedMany_18 ?_
      refine aw_name (fun v4 e_v4 => ?_)
      replace H := H v4 e_v4
      refine aw_bipush (v := (-2)) dX11_drownedMany_19 (by decide) ?_
      refine aw_icmp_ne (tgt := 28) dX11_drownedMany_21 (by decide) (fun c5 => ?_) (fun c5 => ?_)
      · replace H := a_pos c5 H
        refine aw_iconst (v := 0) dX11_drownedMany_28 (by decide) ?_
        refine aw_iadd dX11_drownedMany_29 ?_
        refine aw_name (fun x1_6 e_x1_6 => ?_)
        replace H := H x1_6 e_x1_6
        refine aw_istore_n (lv' := [(1, .int x1_6), (0, .ref (G.2.1 k)), (2, .int x2)]) dX11_drownedMany_30 rfl (by decide) rfl ?_
        obtain ⟨x2_7, e_x2_7⟩ : ∃ y : Int32, y = x2 + 1 := ⟨_, rfl⟩
        replace H := H x2_7 e_x2_7
        refine aw_iinc (v := x2_7) (lv' := [(2, .int x2_7), (1, .int x1_6), (0, .ref (G.2.1 k))]) dX11_drownedMany_31 (n0 := 2) rfl (by rw [e_x2_7]; rfl) (by decide) rfl ?_
        refine aw_goto (tgt := 4) dX11_drownedMany_34 (by decide) ?_
        refine aw_sub (lv' := [(0, .ref (G.2.1 k)), (1, .int x1_6), (2, .int x2_7)]) [2, 1, 0] rfl ?_
        exact ih _ _ _ H
      · replace H := a_neg2 c5 H
        refine aw_iconst (v := 1) dX11_drownedMany_24 (by decide) ?_
        refine aw_goto (tgt := 29) dX11_drownedMany_25 (by decide) ?_
        refine aw_iadd dX11_drownedMany_29 ?_
        refine aw_name (fun x1_8 e_x1_8 => ?_)
        replace H := H x1_8 e_x1_8
        refine aw_istore_n (lv' := [(1, .int x1_8), (0, .ref (G.2.1 k)), (2, .int x2)]) dX11_drownedMany_30 rfl (by decide) rfl ?_
        obtain ⟨x2_9, e_x2_9⟩ : ∃ y : Int32, y = x2 + 1 := ⟨_, rfl⟩
        replace H := H x2_9 e_x2_9
        refine aw_iinc (v := x2_9) (lv' := [(2, .int x2_9), (1, .int x1_8), (0, .ref (G.2.1 k))]) dX11_drownedMany_31 (n0 := 2) rfl (by rw [e_x2_9]; rfl) (by decide) rfl ?_
        refine aw_goto (tgt := 4) dX11_drownedMany_34 (by decide) ?_
        refine aw_sub (lv' := [(0, .ref (G.2.1 k)), (1, .int x1_8), (2, .int x2_9)]) [2, 1, 0] rfl ?_
        exact ih _ _ _ H
set_option maxHeartbeats 4000000 in
set_option maxRecDepth 100000 in
theorem am_X11_drownedMany {l : Launch} {S : aS} {G : aG} (d : Nat) {k : Nat} {h : aH} {Q : Int32 → aH → Prop} (o_k : aObj S k 10 flX11) (H : f_X11_drownedMany S k h Q) : AMi l S G d M_X11_drownedMany [.ref (G.2.1 k)] h Q := by
  unfold f_X11_drownedMany at H
  refine am_of mf_X11_drownedMany (Nat.le_of_ble_eq_true rfl) (lv0 := [(0, .ref (G.2.1 k))]) rfl ?_
  refine aw_iconst (v := 0) dX11_drownedMany_0 (by decide) ?_
  refine aw_istore_n (lv' := [(1, .int 0), (0, .ref (G.2.1 k))]) dX11_drownedMany_1 rfl (by decide) rfl ?_
  refine aw_iconst (v := 0) dX11_drownedMany_2 (by decide) ?_
  refine aw_istore_n (lv' := [(2, .int 0), (1, .int 0), (0, .ref (G.2.1 k))]) dX11_drownedMany_3 rfl (by decide) rfl ?_
  refine aw_sub (lv' := [(0, .ref (G.2.1 k)), (1, .int 0), (2, .int 0)]) [2, 1, 0] rfl ?_
  obtain ⟨n1, H⟩ := H
  exact fm_X11_drownedMany_4 d o_k n1 _ _ _ H
set_option maxHeartbeats 4000000 in
set_option maxRecDepth 100000 in
theorem fm_X11_breaks_9 {l : Launch} {S : aS} {G : aG} (d : Nat) {k : Nat} {a1 : Int32} {Q : aH → Prop} (o_k : aObj S k 10 flX11) : ∀ (n : Nat) (x2 : Int32) (h : aH), f_X11_breaks_9 S k a1 Q n x2 h → AW l S G d M_X11_breaks (va_Qv Q (aPo S G) (aA S G)) 9 [(0, .ref (G.2.1 k)), (1, .int a1), (2, .int x2)] [] h := by
  intro n
  induction n with
  | zero => intro x2 h H; exact False.elim H
  | succ n ih =>
    intro x2 h H
    unfold f_X11_breaks_9 at H
    refine aw_iload_n dX11_breaks_9 rfl 2 rfl ?_
    refine aw_aload_n dX11_breaks_10 rfl 0 rfl ?_
    refine aw_getI cf_X11 3 (by decide) rfl wd_1039 o_k dX11_breaks_11 ?_
    refine aw_name (fun v1 e_v1 => ?_)
    replace H := H v1 e_v1
    refine aw_icmp_ge (tgt := 41) dX11_breaks_14 (by decide) (fun c2 => ?_) (fun c2 => ?_)
    · replace H := a_pos c2 H
      exact aw_vret rfl H dX11_breaks_41
    · replace H := a_neg c2 H
      refine aw_aload_n dX11_breaks_17 rfl 0 rfl ?_
      refine aw_getR cf_X11 14 (by decide) rfl wd_1050 o_k dX11_breaks_18 ?_
      refine aw_iload_n dX11_breaks_21 rfl 2 rfl ?_
      obtain ⟨z3, H⟩ := H
      refine aw_iaload z3 dX11_breaks_22 ?_
      refine aw_name (fun v4 e_v4 => ?_)
      replace H := H v4 e_v4
      refine aw_iload_n dX11_breaks_23 rfl 1 rfl ?_
      refine aw_icmp_ne (tgt := 35) dX11_breaks_24 (by decide) (fun c5 => ?_) (fun c5 => ?_)
      · replace H := a_pos c5 H
        obtain ⟨x2_6, e_x2_6⟩ : ∃ y : Int32, y = x2 + 1 := ⟨_, rfl⟩
        replace H := H x2_6 e_x2_6
        refine aw_iinc (v := x2_6) (lv' := [(2, .int x2_6), (0, .ref (G.2.1 k)), (1, .int a1)]) dX11_breaks_35 (n0 := 2) rfl (by rw [e_x2_6]; rfl) (by decide) rfl ?_
        refine aw_goto (tgt := 9) dX11_breaks_38 (by decide) ?_
        refine aw_sub (lv' := [(0, .ref (G.2.1 k)), (1, .int a1), (2, .int x2_6)]) [1, 2, 0] rfl ?_
        exact ih _ _ H
      · replace H := a_neg2 c5 H
        refine aw_aload_n dX11_breaks_27 rfl 0 rfl ?_
        refine aw_getR cf_X11 14 (by decide) rfl wd_1050 o_k dX11_breaks_28 ?_
        refine aw_iload_n dX11_breaks_31 rfl 2 rfl ?_
        refine aw_bipush (v := (-2)) dX11_breaks_32 (by decide) ?_
        obtain ⟨z7, H⟩ := H
        refine aw_iastore z7 dX11_breaks_34 ?_
        refine aw_nameH (fun h8 e_h8 => ?_)
        replace H := H h8 e_h8
        obtain ⟨x2_9, e_x2_9⟩ : ∃ y : Int32, y = x2 + 1 := ⟨_, rfl⟩
        replace H := H x2_9 e_x2_9
        refine aw_iinc (v := x2_9) (lv' := [(2, .int x2_9), (0, .ref (G.2.1 k)), (1, .int a1)]) dX11_breaks_35 (n0 := 2) rfl (by rw [e_x2_9]; rfl) (by decide) rfl ?_
        refine aw_goto (tgt := 9) dX11_breaks_38 (by decide) ?_
        refine aw_sub (lv' := [(0, .ref (G.2.1 k)), (1, .int a1), (2, .int x2_9)]) [1, 2, 0] rfl ?_
        exact ih _ _ H
set_option maxHeartbeats 4000000 in
set_option maxRecDepth 100000 in
theorem am_X11_breaks {l : Launch} {S : aS} {G : aG} (d : Nat) {k : Nat} {a1 : Int32} {h : aH} {Q : aH → Prop} (o_k : aObj S k 10 flX11) (H : f_X11_breaks S k a1 h Q) : AMv l S G d M_X11_breaks [.ref (G.2.1 k), .int a1] h Q := by
  unfold f_X11_breaks at H
  refine am_of mf_X11_breaks (Nat.le_of_ble_eq_true rfl) (lv0 := [(0, .ref (G.2.1 k)), (1, .int a1)]) rfl ?_
  refine aw_aload_n dX11_breaks_0 rfl 0 rfl ?_
  refine aw_getR cf_X11 7 (by decide) rfl wd_1043 o_k dX11_breaks_1 ?_
  refine aw_iload_n dX11_breaks_4 rfl 1 rfl ?_
  refine aw_iconst (v := 1) dX11_breaks_5 (by decide) ?_
  obtain ⟨z10, H⟩ := H
  refine aw_zastore z10 (by decide) dX11_breaks_6 ?_
  refine aw_nameH (fun h11 e_h11 => ?_)
  replace H := H h11 e_h11
  refine aw_iconst (v := 0) dX11_breaks_7 (by decide) ?_
  refine aw_istore_n (lv' := [(2, .int 0), (0, .ref (G.2.1 k)), (1, .int a1)]) dX11_breaks_8 rfl (by decide) rfl ?_
  refine aw_sub (lv' := [(0, .ref (G.2.1 k)), (1, .int a1), (2, .int 0)]) [1, 2, 0] rfl ?_
  obtain ⟨n1, H⟩ := H
  exact fm_X11_breaks_9 d o_k n1 _ _ H
set_option maxHeartbeats 4000000 in
set_option maxRecDepth 100000 in
theorem fm_X11_settles_81 {l : Launch} {S : aS} {G : aG} (d : Nat) {k : Nat} {Q : Int32 → aH → Prop} (o_k : aObj S k 10 flX11) {K4 : Int32 → Int32 → aH → Prop} (hK4 : ∀ (x1 : Int32) (x2 : Int32) (h : aH), K4 x1 x2 h → AW l S G (d + 10) M_X11_settles (va_Qi Q (aPo S G) (aA S G)) 4 [(0, .ref (G.2.1 k)), (1, .int x1), (2, .int x2)] [] h) : ∀ (n : Nat) (x1 : Int32) (x2 : Int32) (x3 : Int32) (h : aH), f_X11_settles_81 S k Q K4 n x1 x2 x3 h → AW l S G (d + 10) M_X11_settles (va_Qi Q (aPo S G) (aA S G)) 81 [(0, .ref (G.2.1 k)), (1, .int x1), (2, .int x2), (3, .int x3)] [] h := by
  intro n
  induction n with
  | zero => intro x1 x2 x3 h H; exact False.elim H
  | succ n ih =>
    intro x1 x2 x3 h H
    unfold f_X11_settles_81 at H
    refine aw_iload_n dX11_settles_81 rfl 3 rfl ?_
    refine aw_iload_n dX11_settles_82 rfl 2 rfl ?_
    refine aw_icmp_ge (tgt := 124) dX11_settles_83 (by decide) (fun c1 => ?_) (fun c1 => ?_)
    · replace H := a_pos c1 H
      refine aw_goto (tgt := 4) dX11_settles_124 (by decide) ?_
      refine aw_sub (lv' := [(0, .ref (G.2.1 k)), (1, .int x1), (2, .int x2)]) [0, 1, 2] rfl ?_
      exact hK4 _ _ _ H
    · replace H := a_neg c1 H
      refine aw_iload_n dX11_settles_86 rfl 1 rfl ?_
      refine aw_aload_n dX11_settles_87 rfl 0 rfl ?_
      refine aw_getR cf_X11 7 (by decide) rfl wd_1043 o_k dX11_settles_88 ?_
      refine aw_aload_n dX11_settles_91 rfl 0 rfl ?_
      refine aw_getR cf_X11 45 (by decide) rfl wd_1081 o_k dX11_settles_92 ?_
      refine aw_iload_n dX11_settles_95 rfl 3 rfl ?_
      obtain ⟨z2, H⟩ := H
      refine aw_iaload z2 dX11_settles_96 ?_
      refine aw_name (fun v3 e_v3 => ?_)
      replace H := H v3 e_v3
      obtain ⟨z4, H⟩ := H
      refine aw_zaload z4 dX11_settles_97 ?_
      refine aw_name (fun v5 e_v5 => ?_)
      replace H := H v5 e_v5
      refine aw_if_eq (tgt := 105) dX11_settles_98 (by decide) (fun c6 => ?_) (fun c6 => ?_)
      · replace H := a_pos c6 H
        refine aw_iconst (v := 1) dX11_settles_105 (by decide) ?_
        refine aw_iadd dX11_settles_106 ?_
        refine aw_name (fun x1_7 e_x1_7 => ?_)
        replace H := H x1_7 e_x1_7
        refine aw_istore_n (lv' := [(1, .int x1_7), (0, .ref (G.2.1 k)), (2, .int x2), (3, .int x3)]) dX11_settles_107 rfl (by decide) rfl ?_
        refine aw_aload_n dX11_settles_108 rfl 1 rfl ?_
        refine aw_aload_n dX11_settles_109 rfl 1 rfl ?_
        refine aw_getR cf_X11 45 (by decide) rfl wd_1081 o_k dX11_settles_110 ?_
        refine aw_iload_n dX11_settles_113 rfl 3 rfl ?_
        obtain ⟨z8, H⟩ := H
        refine aw_iaload z8 dX11_settles_114 ?_
        refine aw_name (fun v9 e_v9 => ?_)
        replace H := H v9 e_v9
        refine aw_callV_v (As := [.int v9]) (rest := []) (am_X11_breaks (d + 9) o_k H) mf_X11_breaks wd_1478 wd_1480 ws_5_8 cf_X11 o_k rfl rfl (Nat.le_of_ble_eq_true rfl) dX11_settles_115 (fun h10 H => ?_)
        obtain ⟨x3_11, e_x3_11⟩ : ∃ y : Int32, y = x3 + 1 := ⟨_, rfl⟩
        replace H := H x3_11 e_x3_11
        refine aw_iinc (v := x3_11) (lv' := [(3, .int x3_11), (1, .int x1_7), (0, .ref (G.2.1 k)), (2, .int x2)]) dX11_settles_118 (n0 := 3) rfl (by rw [e_x3_11]; rfl) (by decide) rfl ?_
        refine aw_goto (tgt := 81) dX11_settles_121 (by decide) ?_
        refine aw_sub (lv' := [(0, .ref (G.2.1 k)), (1, .int x1_7), (2, .int x2), (3, .int x3_11)]) [2, 1, 3, 0] rfl ?_
        exact ih _ _ _ _ H
      · replace H := a_neg c6 H
        refine aw_iconst (v := 0) dX11_settles_101 (by decide) ?_
        refine aw_goto (tgt := 106) dX11_settles_102 (by decide) ?_
        refine aw_iadd dX11_settles_106 ?_
        refine aw_name (fun x1_12 e_x1_12 => ?_)
        replace H := H x1_12 e_x1_12
        refine aw_istore_n (lv' := [(1, .int x1_12), (0, .ref (G.2.1 k)), (2, .int x2), (3, .int x3)]) dX11_settles_107 rfl (by decide) rfl ?_
        refine aw_aload_n dX11_settles_108 rfl 1 rfl ?_
        refine aw_aload_n dX11_settles_109 rfl 1 rfl ?_
        refine aw_getR cf_X11 45 (by decide) rfl wd_1081 o_k dX11_settles_110 ?_
        refine aw_iload_n dX11_settles_113 rfl 3 rfl ?_
        obtain ⟨z13, H⟩ := H
        refine aw_iaload z13 dX11_settles_114 ?_
        refine aw_name (fun v14 e_v14 => ?_)
        replace H := H v14 e_v14
        refine aw_callV_v (As := [.int v14]) (rest := []) (am_X11_breaks (d + 9) o_k H) mf_X11_breaks wd_1478 wd_1480 ws_5_8 cf_X11 o_k rfl rfl (Nat.le_of_ble_eq_true rfl) dX11_settles_115 (fun h15 H => ?_)
        obtain ⟨x3_16, e_x3_16⟩ : ∃ y : Int32, y = x3 + 1 := ⟨_, rfl⟩
        replace H := H x3_16 e_x3_16
        refine aw_iinc (v := x3_16) (lv' := [(3, .int x3_16), (1, .int x1_12), (0, .ref (G.2.1 k)), (2, .int x2)]) dX11_settles_118 (n0 := 3) rfl (by rw [e_x3_16]; rfl) (by decide) rfl ?_
        refine aw_goto (tgt := 81) dX11_settles_121 (by decide) ?_
        refine aw_sub (lv' := [(0, .ref (G.2.1 k)), (1, .int x1_12), (2, .int x2), (3, .int x3_16)]) [2, 1, 3, 0] rfl ?_
        exact ih _ _ _ _ H
set_option maxHeartbeats 4000000 in
set_option maxRecDepth 100000 in
theorem fm_X11_settles_12 {l : Launch} {S : aS} {G : aG} (d : Nat) {k : Nat} {Q : Int32 → aH → Prop} (o_k : aObj S k 10 flX11) {K4 : Int32 → Int32 → aH → Prop} (hK4 : ∀ (x1 : Int32) (x2 : Int32) (h : aH), K4 x1 x2 h → AW l S G (d + 10) M_X11_settles (va_Qi Q (aPo S G) (aA S G)) 4 [(0, .ref (G.2.1 k)), (1, .int x1), (2, .int x2)] [] h) : ∀ (n : Nat) (x1 : Int32) (x2 : Int32) (x3 : Int32) (h : aH), f_X11_settles_12 S k Q K4 n x1 x2 x3 h → AW l S G (d + 10) M_X11_settles (va_Qi Q (aPo S G) (aA S G)) 12 [(0, .ref (G.2.1 k)), (1, .int x1), (2, .int x2), (3, .int x3)] [] h := by
  intro n
  induction n with
  | zero => intro x1 x2 x3 h H; exact False.elim H
  | succ n ih =>
    intro x1 x2 x3 h H
    unfold f_X11_settles_12 at H
    refine aw_iload_n dX11_settles_12 rfl 3 rfl ?_
    refine aw_aload_n dX11_settles_13 rfl 0 rfl ?_
    refine aw_getI cf_X11 3 (by decide) rfl wd_1039 o_k dX11_settles_14 ?_
    refine aw_name (fun v17 e_v17 => ?_)
    replace H := H v17 e_v17
    refine aw_icmp_ge (tgt := 79) dX11_settles_17 (by decide) (fun c18 => ?_) (fun c18 => ?_)
    · replace H := a_pos c18 H
      refine aw_iconst (v := 0) dX11_settles_79 (by decide) ?_
      refine aw_istore_n (lv' := [(3, .int 0), (0, .ref (G.2.1 k)), (1, .int x1), (2, .int x2)]) dX11_settles_80 rfl (by decide) rfl ?_
      refine aw_sub (lv' := [(0, .ref (G.2.1 k)), (1, .int x1), (2, .int x2), (3, .int 0)]) [1, 2, 3, 0] rfl ?_
      obtain ⟨n1, H⟩ := H
      exact fm_X11_settles_81 d o_k hK4 n1 _ _ _ _ H
    · replace H := a_neg c18 H
      refine aw_aload_n dX11_settles_20 rfl 0 rfl ?_
      refine aw_getR cf_X11 14 (by decide) rfl wd_1050 o_k dX11_settles_21 ?_
      refine aw_iload_n dX11_settles_24 rfl 3 rfl ?_
      obtain ⟨z19, H⟩ := H
      refine aw_iaload z19 dX11_settles_25 ?_
      refine aw_name (fun v20 e_v20 => ?_)
      replace H := H v20 e_v20
      refine aw_istore (lv' := [(4, .int v20), (0, .ref (G.2.1 k)), (1, .int x1), (2, .int x2), (3, .int x3)]) dX11_settles_26 (by decide) rfl ?_
      refine aw_iload dX11_settles_28 0 rfl ?_
      refine aw_bipush (v := (-2)) dX11_settles_30 (by decide) ?_
      refine aw_icmp_eq (tgt := 73) dX11_settles_32 (by decide) (fun c21 => ?_) (fun c21 => ?_)
      · replace H := a_pos c21 H
        obtain ⟨x3_22, e_x3_22⟩ : ∃ y : Int32, y = x3 + 1 := ⟨_, rfl⟩
        replace H := H x3_22 e_x3_22
        refine aw_iinc (v := x3_22) (lv' := [(3, .int x3_22), (4, .int v20), (0, .ref (G.2.1 k)), (1, .int x1), (2, .int x2)]) dX11_settles_73 (n0 := 4) rfl (by rw [e_x3_22]; rfl) (by decide) rfl ?_
        refine aw_goto (tgt := 12) dX11_settles_76 (by decide) ?_
        refine aw_sub (lv' := [(0, .ref (G.2.1 k)), (1, .int x1), (2, .int x2), (3, .int x3_22)]) [2, 3, 4, 0] rfl ?_
        exact ih _ _ _ _ H
      · replace H := a_neg c21 H
        refine aw_aload_n dX11_settles_35 rfl 1 rfl ?_
        refine aw_iload dX11_settles_36 0 rfl ?_
        refine aw_callV_i (As := [.int v20]) (rest := []) (am_X11_isIce (d + 9) o_k H) mf_X11_isIce wd_1374 wd_1376 ws_4_4 cf_X11 o_k rfl rfl (Nat.le_of_ble_eq_true rfl) dX11_settles_38 (fun r24 h23 H => ?_)
        refine aw_if_eq (tgt := 73) dX11_settles_41 (by decide) (fun c25 => ?_) (fun c25 => ?_)
        · replace H := a_pos c25 H
          obtain ⟨x3_26, e_x3_26⟩ : ∃ y : Int32, y = x3 + 1 := ⟨_, rfl⟩
          replace H := H x3_26 e_x3_26
          refine aw_iinc (v := x3_26) (lv' := [(3, .int x3_26), (4, .int v20), (0, .ref (G.2.1 k)), (1, .int x1), (2, .int x2)]) dX11_settles_73 (n0 := 4) rfl (by rw [e_x3_26]; rfl) (by decide) rfl ?_
          refine aw_goto (tgt := 12) dX11_settles_76 (by decide) ?_
          refine aw_sub (lv' := [(0, .ref (G.2.1 k)), (1, .int x1), (2, .int x2), (3, .int x3_26)]) [2, 3, 4, 0] rfl ?_
          exact ih _ _ _ _ H
        · replace H := a_neg c25 H
          refine aw_aload_n dX11_settles_44 rfl 1 rfl ?_
          refine aw_iload dX11_settles_45 0 rfl ?_
          refine aw_callV_i (As := [.int v20]) (rest := []) (am_X11_carriedOn (d + 9) o_k H) mf_X11_carriedOn wd_1466 wd_1468 ws_5_5 cf_X11 o_k rfl rfl (Nat.le_of_ble_eq_true rfl) dX11_settles_47 (fun r28 h27 H => ?_)
          refine aw_aload_n dX11_settles_50 rfl 1 rfl ?_
          refine aw_iload dX11_settles_51 0 rfl ?_
          refine aw_callV_i (As := [.int v20]) (rest := [.int r28]) (am_X11_bears d o_k H) mf_X11_bears wd_1470 wd_1472 ws_5_6 cf_X11 o_k rfl rfl (Nat.le_of_ble_eq_true rfl) dX11_settles_53 (fun r30 h29 H => ?_)
          refine aw_icmp_gt (tgt := 62) dX11_settles_56 (by decide) (fun c31 => ?_) (fun c31 => ?_)
          · replace H := a_pos c31 H
            refine aw_aload_n dX11_settles_62 rfl 1 rfl ?_
            refine aw_getR cf_X11 45 (by decide) rfl wd_1081 o_k dX11_settles_63 ?_
            refine aw_iload_n dX11_settles_66 rfl 3 rfl ?_
            refine aw_iload dX11_settles_67 0 rfl ?_
            obtain ⟨z32, H⟩ := H
            refine aw_iastore z32 dX11_settles_69 ?_
            refine aw_nameH (fun h33 e_h33 => ?_)
            replace H := H h33 e_h33
            obtain ⟨x2_34, e_x2_34⟩ : ∃ y : Int32, y = x2 + 1 := ⟨_, rfl⟩
            replace H := H x2_34 e_x2_34
            refine aw_iinc (v := x2_34) (lv' := [(2, .int x2_34), (4, .int v20), (0, .ref (G.2.1 k)), (1, .int x1), (3, .int x3)]) dX11_settles_70 (n0 := 3) rfl (by rw [e_x2_34]; rfl) (by decide) rfl ?_
            obtain ⟨x3_35, e_x3_35⟩ : ∃ y : Int32, y = x3 + 1 := ⟨_, rfl⟩
            replace H := H x3_35 e_x3_35
            refine aw_iinc (v := x3_35) (lv' := [(3, .int x3_35), (2, .int x2_34), (4, .int v20), (0, .ref (G.2.1 k)), (1, .int x1)]) dX11_settles_73 (n0 := 4) rfl (by rw [e_x3_35]; rfl) (by decide) rfl ?_
            refine aw_goto (tgt := 12) dX11_settles_76 (by decide) ?_
            refine aw_sub (lv' := [(0, .ref (G.2.1 k)), (1, .int x1), (2, .int x2_34), (3, .int x3_35)]) [3, 4, 1, 0] rfl ?_
            exact ih _ _ _ _ H
          · replace H := a_neg c31 H
            refine aw_goto (tgt := 73) dX11_settles_59 (by decide) ?_
            obtain ⟨x3_36, e_x3_36⟩ : ∃ y : Int32, y = x3 + 1 := ⟨_, rfl⟩
            replace H := H x3_36 e_x3_36
            refine aw_iinc (v := x3_36) (lv' := [(3, .int x3_36), (4, .int v20), (0, .ref (G.2.1 k)), (1, .int x1), (2, .int x2)]) dX11_settles_73 (n0 := 4) rfl (by rw [e_x3_36]; rfl) (by decide) rfl ?_
            refine aw_goto (tgt := 12) dX11_settles_76 (by decide) ?_
            refine aw_sub (lv' := [(0, .ref (G.2.1 k)), (1, .int x1), (2, .int x2), (3, .int x3_36)]) [2, 3, 4, 0] rfl ?_
            exact ih _ _ _ _ H
set_option maxHeartbeats 4000000 in
set_option maxRecDepth 100000 in
theorem fm_X11_settles_4 {l : Launch} {S : aS} {G : aG} (d : Nat) {k : Nat} {Q : Int32 → aH → Prop} (o_k : aObj S k 10 flX11) : ∀ (n : Nat) (x1 : Int32) (x2 : Int32) (h : aH), f_X11_settles_4 S k Q n x1 x2 h → AW l S G (d + 10) M_X11_settles (va_Qi Q (aPo S G) (aA S G)) 4 [(0, .ref (G.2.1 k)), (1, .int x1), (2, .int x2)] [] h := by
  intro n
  induction n with
  | zero => intro x1 x2 h H; exact False.elim H
  | succ n ih =>
    intro x1 x2 h H
    unfold f_X11_settles_4 at H
    refine aw_iload_n dX11_settles_4 rfl 2 rfl ?_
    refine aw_if_le (tgt := 127) dX11_settles_5 (by decide) (fun c37 => ?_) (fun c37 => ?_)
    · replace H := a_pos c37 H
      refine aw_iload_n dX11_settles_127 rfl 1 rfl ?_
      exact aw_iret rfl H dX11_settles_128
    · replace H := a_neg c37 H
      refine aw_iconst (v := 0) dX11_settles_8 (by decide) ?_
      refine aw_istore_n (lv' := [(2, .int 0), (0, .ref (G.2.1 k)), (1, .int x1)]) dX11_settles_9 rfl (by decide) rfl ?_
      refine aw_iconst (v := 0) dX11_settles_10 (by decide) ?_
      refine aw_istore_n (lv' := [(3, .int 0), (2, .int 0), (0, .ref (G.2.1 k)), (1, .int x1)]) dX11_settles_11 rfl (by decide) rfl ?_
      refine aw_sub (lv' := [(0, .ref (G.2.1 k)), (1, .int x1), (2, .int 0), (3, .int 0)]) [2, 3, 1, 0] rfl ?_
      obtain ⟨n1, H⟩ := H
      exact fm_X11_settles_12 d o_k ih n1 _ _ _ _ H
set_option maxHeartbeats 4000000 in
set_option maxRecDepth 100000 in
theorem am_X11_settles {l : Launch} {S : aS} {G : aG} (d : Nat) {k : Nat} {h : aH} {Q : Int32 → aH → Prop} (o_k : aObj S k 10 flX11) (H : f_X11_settles S k h Q) : AMi l S G (d + 10) M_X11_settles [.ref (G.2.1 k)] h Q := by
  unfold f_X11_settles at H
  refine am_of mf_X11_settles (Nat.le_of_ble_eq_true rfl) (lv0 := [(0, .ref (G.2.1 k))]) rfl ?_
  refine aw_iconst (v := 0) dX11_settles_0 (by decide) ?_
  refine aw_istore_n (lv' := [(1, .int 0), (0, .ref (G.2.1 k))]) dX11_settles_1 rfl (by decide) rfl ?_
  refine aw_iconst (v := 1) dX11_settles_2 (by decide) ?_
  refine aw_istore_n (lv' := [(2, .int 1), (1, .int 0), (0, .ref (G.2.1 k))]) dX11_settles_3 rfl (by decide) rfl ?_
  refine aw_sub (lv' := [(0, .ref (G.2.1 k)), (1, .int 0), (2, .int 1)]) [2, 1, 0] rfl ?_
  obtain ⟨n1, H⟩ := H
  exact fm_X11_settles_4 d o_k n1 _ _ _ H
set_option maxHeartbeats 4000000 in
set_option maxRecDepth 100000 in
theorem am_X11_settle {l : Launch} {S : aS} {G : aG} (d : Nat) {k : Nat} {h : aH} {Q : Int32 → aH → Prop} (o_k : aObj S k 10 flX11) (H : f_X11_settle S k h Q) : AMi l S G (d + 11) M_X11_settle [.ref (G.2.1 k)] h Q := by
  unfold f_X11_settle at H
  refine am_of mf_X11_settle (Nat.le_of_ble_eq_true rfl) (lv0 := [(0, .ref (G.2.1 k))]) rfl ?_
  refine aw_aload_n dX11_settle_0 rfl 0 rfl ?_
  refine aw_callV_i (As := []) (rest := []) (am_X11_settles d o_k H) mf_X11_settles wd_1462 wd_1464 ws_5_4 cf_X11 o_k rfl rfl (Nat.le_of_ble_eq_true rfl) dX11_settle_1 (fun r2 h1 H => ?_)
  exact aw_iret rfl H dX11_settle_4
set_option maxHeartbeats 4000000 in
set_option maxRecDepth 100000 in
theorem fm_X11_thawsAll_50 {l : Launch} {S : aS} {G : aG} (d : Nat) {k : Nat} {Q : aH → Prop} (o_k : aObj S k 10 flX11) : ∀ (n : Nat) (x1 : Int32) (h : aH), f_X11_thawsAll_50 S k Q n x1 h → AW l S G (d + 9) M_X11_thawsAll (va_Qv Q (aPo S G) (aA S G)) 50 [(0, .ref (G.2.1 k)), (1, .int x1)] [] h := by
  intro n
  induction n with
  | zero => intro x1 h H; exact False.elim H
  | succ n ih =>
    intro x1 h H
    unfold f_X11_thawsAll_50 at H
    refine aw_iload_n dX11_thawsAll_50 rfl 1 rfl ?_
    refine aw_sipush (v := 256) dX11_thawsAll_51 (by decide) ?_
    refine aw_icmp_ge (tgt := 101) dX11_thawsAll_54 (by decide) (fun c1 => ?_) (fun c1 => ?_)
    · replace H := a_pos c1 H
      exact aw_vret rfl H dX11_thawsAll_101
    · replace H := a_neg c1 H
      refine aw_aload_n dX11_thawsAll_57 rfl 0 rfl ?_
      refine aw_getR cf_X11 6 (by decide) rfl wd_1042 o_k dX11_thawsAll_58 ?_
      refine aw_iload_n dX11_thawsAll_61 rfl 1 rfl ?_
      refine aw_aload_n dX11_thawsAll_62 rfl 0 rfl ?_
      refine aw_getR cf_X11 6 (by decide) rfl wd_1042 o_k dX11_thawsAll_63 ?_
      refine aw_iload_n dX11_thawsAll_66 rfl 1 rfl ?_
      obtain ⟨z2, H⟩ := H
      refine aw_iaload z2 dX11_thawsAll_67 ?_
      refine aw_name (fun v3 e_v3 => ?_)
      replace H := H v3 e_v3
      refine aw_aload_n dX11_thawsAll_68 rfl 0 rfl ?_
      refine aw_getR cf_X11 46 (by decide) rfl wd_1082 o_k dX11_thawsAll_69 ?_
      refine aw_iload_n dX11_thawsAll_72 rfl 1 rfl ?_
      obtain ⟨z4, H⟩ := H
      refine aw_iaload z4 dX11_thawsAll_73 ?_
      refine aw_name (fun v5 e_v5 => ?_)
      replace H := H v5 e_v5
      refine aw_icmp_ge (tgt := 81) dX11_thawsAll_74 (by decide) (fun c6 => ?_) (fun c6 => ?_)
      · replace H := a_pos c6 H
        refine aw_aload_n dX11_thawsAll_81 rfl 0 rfl ?_
        refine aw_getR cf_X11 6 (by decide) rfl wd_1042 o_k dX11_thawsAll_82 ?_
        refine aw_iload_n dX11_thawsAll_85 rfl 1 rfl ?_
        obtain ⟨z7, H⟩ := H
        refine aw_iaload z7 dX11_thawsAll_86 ?_
        refine aw_name (fun v8 e_v8 => ?_)
        replace H := H v8 e_v8
        refine aw_aload_n dX11_thawsAll_87 rfl 0 rfl ?_
        refine aw_getR cf_X11 46 (by decide) rfl wd_1082 o_k dX11_thawsAll_88 ?_
        refine aw_iload_n dX11_thawsAll_91 rfl 1 rfl ?_
        obtain ⟨z9, H⟩ := H
        refine aw_iaload z9 dX11_thawsAll_92 ?_
        refine aw_name (fun v10 e_v10 => ?_)
        replace H := H v10 e_v10
        refine aw_isub dX11_thawsAll_93 ?_
        obtain ⟨z11, H⟩ := H
        refine aw_iastore z11 dX11_thawsAll_94 ?_
        refine aw_nameH (fun h12 e_h12 => ?_)
        replace H := H h12 e_h12
        obtain ⟨x1_13, e_x1_13⟩ : ∃ y : Int32, y = x1 + 1 := ⟨_, rfl⟩
        replace H := H x1_13 e_x1_13
        refine aw_iinc (v := x1_13) (lv' := [(1, .int x1_13), (0, .ref (G.2.1 k))]) dX11_thawsAll_95 (n0 := 1) rfl (by rw [e_x1_13]; rfl) (by decide) rfl ?_
        refine aw_goto (tgt := 50) dX11_thawsAll_98 (by decide) ?_
        refine aw_sub (lv' := [(0, .ref (G.2.1 k)), (1, .int x1_13)]) [1, 0] rfl ?_
        exact ih _ _ H
      · replace H := a_neg c6 H
        refine aw_iconst (v := 0) dX11_thawsAll_77 (by decide) ?_
        refine aw_goto (tgt := 94) dX11_thawsAll_78 (by decide) ?_
        obtain ⟨z14, H⟩ := H
        refine aw_iastore z14 dX11_thawsAll_94 ?_
        refine aw_nameH (fun h15 e_h15 => ?_)
        replace H := H h15 e_h15
        obtain ⟨x1_16, e_x1_16⟩ : ∃ y : Int32, y = x1 + 1 := ⟨_, rfl⟩
        replace H := H x1_16 e_x1_16
        refine aw_iinc (v := x1_16) (lv' := [(1, .int x1_16), (0, .ref (G.2.1 k))]) dX11_thawsAll_95 (n0 := 1) rfl (by rw [e_x1_16]; rfl) (by decide) rfl ?_
        refine aw_goto (tgt := 50) dX11_thawsAll_98 (by decide) ?_
        refine aw_sub (lv' := [(0, .ref (G.2.1 k)), (1, .int x1_16)]) [1, 0] rfl ?_
        exact ih _ _ H
set_option maxHeartbeats 4000000 in
set_option maxRecDepth 100000 in
theorem fm_X11_thawsAll_2 {l : Launch} {S : aS} {G : aG} (d : Nat) {k : Nat} {Q : aH → Prop} (o_k : aObj S k 10 flX11) : ∀ (n : Nat) (x1 : Int32) (h : aH), f_X11_thawsAll_2 S k Q n x1 h → AW l S G (d + 9) M_X11_thawsAll (va_Qv Q (aPo S G) (aA S G)) 2 [(0, .ref (G.2.1 k)), (1, .int x1)] [] h := by
  intro n
  induction n with
  | zero => intro x1 h H; exact False.elim H
  | succ n ih =>
    intro x1 h H
    unfold f_X11_thawsAll_2 at H
    refine aw_iload_n dX11_thawsAll_2 rfl 1 rfl ?_
    refine aw_sipush (v := 256) dX11_thawsAll_3 (by decide) ?_
    refine aw_icmp_ge (tgt := 48) dX11_thawsAll_6 (by decide) (fun c17 => ?_) (fun c17 => ?_)
    · replace H := a_pos c17 H
      refine aw_iconst (v := 0) dX11_thawsAll_48 (by decide) ?_
      refine aw_istore_n (lv' := [(1, .int 0), (0, .ref (G.2.1 k))]) dX11_thawsAll_49 rfl (by decide) rfl ?_
      refine aw_sub (lv' := [(0, .ref (G.2.1 k)), (1, .int 0)]) [1, 0] rfl ?_
      obtain ⟨n1, H⟩ := H
      exact fm_X11_thawsAll_50 d o_k n1 _ _ H
    · replace H := a_neg c17 H
      refine aw_aload_n dX11_thawsAll_9 rfl 0 rfl ?_
      refine aw_getR cf_X11 46 (by decide) rfl wd_1082 o_k dX11_thawsAll_10 ?_
      refine aw_iload_n dX11_thawsAll_13 rfl 1 rfl ?_
      refine aw_aload_n dX11_thawsAll_14 rfl 0 rfl ?_
      refine aw_getR cf_X11 7 (by decide) rfl wd_1043 o_k dX11_thawsAll_15 ?_
      refine aw_iload_n dX11_thawsAll_18 rfl 1 rfl ?_
      obtain ⟨z18, H⟩ := H
      refine aw_zaload z18 dX11_thawsAll_19 ?_
      refine aw_name (fun v19 e_v19 => ?_)
      replace H := H v19 e_v19
      refine aw_if_eq (tgt := 27) dX11_thawsAll_20 (by decide) (fun c20 => ?_) (fun c20 => ?_)
      · replace H := a_pos c20 H
        refine aw_aload_n dX11_thawsAll_27 rfl 0 rfl ?_
        refine aw_bipush (v := 116) dX11_thawsAll_28 (by decide) ?_
        refine aw_iload_n dX11_thawsAll_30 rfl 1 rfl ?_
        refine aw_aload_n dX11_thawsAll_31 rfl 0 rfl ?_
        refine aw_iload_n dX11_thawsAll_32 rfl 1 rfl ?_
        refine aw_callV_i (As := [.int x1]) (rest := [.int x1, .int 116, .ref (G.2.1 k), .int x1, .ref (G.2.1 (gR h k 46))]) (am_X11_kindOn (d + 8) o_k H) mf_X11_kindOn wd_1474 wd_1476 ws_5_7 cf_X11 o_k rfl rfl (Nat.le_of_ble_eq_true rfl) dX11_thawsAll_33 (fun r22 h21 H => ?_)
        refine aw_bipush (v := 9) dX11_thawsAll_36 (by decide) ?_
        refine aw_callV_i (As := [.int 116, .int x1, .int r22, .int 9]) (rest := [.int x1, .ref (G.2.1 (gR h k 46))]) (am_X11_bySquare d o_k H) mf_X11_bySquare wd_1386 wd_1388 ws_4_7 cf_X11 o_k rfl rfl (Nat.le_of_ble_eq_true rfl) dX11_thawsAll_38 (fun r24 h23 H => ?_)
        obtain ⟨z25, H⟩ := H
        refine aw_iastore z25 dX11_thawsAll_41 ?_
        refine aw_nameH (fun h26 e_h26 => ?_)
        replace H := H h26 e_h26
        obtain ⟨x1_27, e_x1_27⟩ : ∃ y : Int32, y = x1 + 1 := ⟨_, rfl⟩
        replace H := H x1_27 e_x1_27
        refine aw_iinc (v := x1_27) (lv' := [(1, .int x1_27), (0, .ref (G.2.1 k))]) dX11_thawsAll_42 (n0 := 1) rfl (by rw [e_x1_27]; rfl) (by decide) rfl ?_
        refine aw_goto (tgt := 2) dX11_thawsAll_45 (by decide) ?_
        refine aw_sub (lv' := [(0, .ref (G.2.1 k)), (1, .int x1_27)]) [1, 0] rfl ?_
        exact ih _ _ H
      · replace H := a_neg c20 H
        refine aw_iconst (v := 0) dX11_thawsAll_23 (by decide) ?_
        refine aw_goto (tgt := 41) dX11_thawsAll_24 (by decide) ?_
        obtain ⟨z28, H⟩ := H
        refine aw_iastore z28 dX11_thawsAll_41 ?_
        refine aw_nameH (fun h29 e_h29 => ?_)
        replace H := H h29 e_h29
        obtain ⟨x1_30, e_x1_30⟩ : ∃ y : Int32, y = x1 + 1 := ⟨_, rfl⟩
        replace H := H x1_30 e_x1_30
        refine aw_iinc (v := x1_30) (lv' := [(1, .int x1_30), (0, .ref (G.2.1 k))]) dX11_thawsAll_42 (n0 := 1) rfl (by rw [e_x1_30]; rfl) (by decide) rfl ?_
        refine aw_goto (tgt := 2) dX11_thawsAll_45 (by decide) ?_
        refine aw_sub (lv' := [(0, .ref (G.2.1 k)), (1, .int x1_30)]) [1, 0] rfl ?_
        exact ih _ _ H
set_option maxHeartbeats 4000000 in
set_option maxRecDepth 100000 in
theorem am_X11_thawsAll {l : Launch} {S : aS} {G : aG} (d : Nat) {k : Nat} {h : aH} {Q : aH → Prop} (o_k : aObj S k 10 flX11) (H : f_X11_thawsAll S k h Q) : AMv l S G (d + 9) M_X11_thawsAll [.ref (G.2.1 k)] h Q := by
  unfold f_X11_thawsAll at H
  refine am_of mf_X11_thawsAll (Nat.le_of_ble_eq_true rfl) (lv0 := [(0, .ref (G.2.1 k))]) rfl ?_
  refine aw_iconst (v := 0) dX11_thawsAll_0 (by decide) ?_
  refine aw_istore_n (lv' := [(1, .int 0), (0, .ref (G.2.1 k))]) dX11_thawsAll_1 rfl (by decide) rfl ?_
  refine aw_sub (lv' := [(0, .ref (G.2.1 k)), (1, .int 0)]) [1, 0] rfl ?_
  obtain ⟨n1, H⟩ := H
  exact fm_X11_thawsAll_2 d o_k n1 _ _ H
set_option maxHeartbeats 4000000 in
set_option maxRecDepth 100000 in
theorem fm_X11_drawnTo_20 {l : Launch} {S : aS} {G : aG} (d : Nat) {k : Nat} {a1 : Int32} {Q : Int32 → aH → Prop} (o_k : aObj S k 10 flX11) : ∀ (n : Nat) (x2 : Int32) (x3 : Int32) (x4 : Int32) (h : aH), f_X11_drawnTo_20 S k a1 Q n x2 x3 x4 h → AW l S G (d + 9) M_X11_drawnTo (va_Qi Q (aPo S G) (aA S G)) 20 [(0, .ref (G.2.1 k)), (1, .int a1), (2, .int x2), (3, .int x3), (4, .int x4)] [] h := by
  intro n
  induction n with
  | zero => intro x2 x3 x4 h H; exact False.elim H
  | succ n ih =>
    intro x2 x3 x4 h H
    unfold f_X11_drawnTo_20 at H
    refine aw_iload dX11_drawnTo_20 4 rfl ?_
    refine aw_aload_n dX11_drawnTo_22 rfl 0 rfl ?_
    refine aw_getI cf_X11 2 (by decide) rfl wd_1038 o_k dX11_drawnTo_23 ?_
    refine aw_name (fun v1 e_v1 => ?_)
    replace H := H v1 e_v1
    refine aw_icmp_ge (tgt := 71) dX11_drawnTo_26 (by decide) (fun c2 => ?_) (fun c2 => ?_)
    · replace H := a_pos c2 H
      refine aw_iload_n dX11_drawnTo_71 rfl 2 rfl ?_
      exact aw_iret rfl H dX11_drawnTo_72
    · replace H := a_neg c2 H
      refine aw_aload_n dX11_drawnTo_29 rfl 0 rfl ?_
      refine aw_iload dX11_drawnTo_30 4 rfl ?_
      refine aw_callV_i (As := [.int x4]) (rest := []) (am_X11_isOpen (d + 6) o_k H) mf_X11_isOpen wd_1446 wd_1448 ws_5_2 cf_X11 o_k rfl rfl (Nat.le_of_ble_eq_true rfl) dX11_drawnTo_32 (fun r4 h3 H => ?_)
      refine aw_if_ne (tgt := 41) dX11_drawnTo_35 (by decide) (fun c5 => ?_) (fun c5 => ?_)
      · replace H := a_pos c5 H
        refine aw_aload_n dX11_drawnTo_41 rfl 0 rfl ?_
        refine aw_iload dX11_drawnTo_42 4 rfl ?_
        refine aw_iload_n dX11_drawnTo_44 rfl 1 rfl ?_
        refine aw_callV_i (As := [.int x4, .int a1]) (rest := []) (am_X11_drawOf d o_k H) mf_X11_drawOf wd_1510 wd_1512 ws_5_14 cf_X11 o_k rfl rfl (Nat.le_of_ble_eq_true rfl) dX11_drawnTo_45 (fun r7 h6 H => ?_)
        refine aw_istore (lv' := [(5, .int r7), (0, .ref (G.2.1 k)), (1, .int a1), (2, .int x2), (3, .int x3), (4, .int x4)]) dX11_drawnTo_48 (by decide) rfl ?_
        refine aw_iload dX11_drawnTo_50 0 rfl ?_
        refine aw_iload_n dX11_drawnTo_52 rfl 4 rfl ?_
        refine aw_icmp_gt (tgt := 59) dX11_drawnTo_53 (by decide) (fun c8 => ?_) (fun c8 => ?_)
        · replace H := a_pos c8 H
          refine aw_iload dX11_drawnTo_59 5 rfl ?_
          refine aw_istore_n (lv' := [(2, .int x4), (5, .int r7), (0, .ref (G.2.1 k)), (1, .int a1), (3, .int x3), (4, .int x4)]) dX11_drawnTo_61 rfl (by decide) rfl ?_
          refine aw_iload dX11_drawnTo_62 1 rfl ?_
          refine aw_istore_n (lv' := [(3, .int r7), (2, .int x4), (5, .int r7), (0, .ref (G.2.1 k)), (1, .int a1), (4, .int x4)]) dX11_drawnTo_64 rfl (by decide) rfl ?_
          obtain ⟨x4_9, e_x4_9⟩ : ∃ y : Int32, y = x4 + 1 := ⟨_, rfl⟩
          replace H := H x4_9 e_x4_9
          refine aw_iinc (v := x4_9) (lv' := [(4, .int x4_9), (3, .int r7), (2, .int x4), (5, .int r7), (0, .ref (G.2.1 k)), (1, .int a1)]) dX11_drawnTo_65 (n0 := 5) rfl (by rw [e_x4_9]; rfl) (by decide) rfl ?_
          refine aw_goto (tgt := 20) dX11_drawnTo_68 (by decide) ?_
          refine aw_sub (lv' := [(0, .ref (G.2.1 k)), (1, .int a1), (2, .int x4), (3, .int r7), (4, .int x4_9)]) [4, 5, 2, 1, 0] rfl ?_
          exact ih _ _ _ _ H
        · replace H := a_neg c8 H
          refine aw_goto (tgt := 65) dX11_drawnTo_56 (by decide) ?_
          obtain ⟨x4_10, e_x4_10⟩ : ∃ y : Int32, y = x4 + 1 := ⟨_, rfl⟩
          replace H := H x4_10 e_x4_10
          refine aw_iinc (v := x4_10) (lv' := [(4, .int x4_10), (5, .int r7), (0, .ref (G.2.1 k)), (1, .int a1), (2, .int x2), (3, .int x3)]) dX11_drawnTo_65 (n0 := 5) rfl (by rw [e_x4_10]; rfl) (by decide) rfl ?_
          refine aw_goto (tgt := 20) dX11_drawnTo_68 (by decide) ?_
          refine aw_sub (lv' := [(0, .ref (G.2.1 k)), (1, .int a1), (2, .int x2), (3, .int x3), (4, .int x4_10)]) [2, 3, 4, 5, 0] rfl ?_
          exact ih _ _ _ _ H
      · replace H := a_neg2 c5 H
        refine aw_goto (tgt := 65) dX11_drawnTo_38 (by decide) ?_
        obtain ⟨x4_11, e_x4_11⟩ : ∃ y : Int32, y = x4 + 1 := ⟨_, rfl⟩
        replace H := H x4_11 e_x4_11
        refine aw_iinc (v := x4_11) (lv' := [(4, .int x4_11), (0, .ref (G.2.1 k)), (1, .int a1), (2, .int x2), (3, .int x3)]) dX11_drawnTo_65 (n0 := 4) rfl (by rw [e_x4_11]; rfl) (by decide) rfl ?_
        refine aw_goto (tgt := 20) dX11_drawnTo_68 (by decide) ?_
        refine aw_sub (lv' := [(0, .ref (G.2.1 k)), (1, .int a1), (2, .int x2), (3, .int x3), (4, .int x4_11)]) [1, 2, 3, 4, 0] rfl ?_
        exact ih _ _ _ _ H
set_option maxHeartbeats 4000000 in
set_option maxRecDepth 100000 in
theorem am_X11_drawnTo {l : Launch} {S : aS} {G : aG} (d : Nat) {k : Nat} {a1 : Int32} {h : aH} {Q : Int32 → aH → Prop} (o_k : aObj S k 10 flX11) (H : f_X11_drawnTo S k a1 h Q) : AMi l S G (d + 9) M_X11_drawnTo [.ref (G.2.1 k), .int a1] h Q := by
  unfold f_X11_drawnTo at H
  refine am_of mf_X11_drawnTo (Nat.le_of_ble_eq_true rfl) (lv0 := [(0, .ref (G.2.1 k)), (1, .int a1)]) rfl ?_
  refine aw_aload_n dX11_drawnTo_0 rfl 0 rfl ?_
  refine aw_getR cf_X11 14 (by decide) rfl wd_1050 o_k dX11_drawnTo_1 ?_
  refine aw_iload_n dX11_drawnTo_4 rfl 1 rfl ?_
  obtain ⟨z12, H⟩ := H
  refine aw_iaload z12 dX11_drawnTo_5 ?_
  refine aw_name (fun v13 e_v13 => ?_)
  replace H := H v13 e_v13
  refine aw_bipush (v := (-2)) dX11_drawnTo_6 (by decide) ?_
  refine aw_icmp_ne (tgt := 13) dX11_drawnTo_8 (by decide) (fun c14 => ?_) (fun c14 => ?_)
  · replace H := a_pos c14 H
    refine aw_iconst (v := (-1)) dX11_drawnTo_13 (by decide) ?_
    refine aw_istore_n (lv' := [(2, .int (-1)), (0, .ref (G.2.1 k)), (1, .int a1)]) dX11_drawnTo_14 rfl (by decide) rfl ?_
    refine aw_iconst (v := 0) dX11_drawnTo_15 (by decide) ?_
    refine aw_istore_n (lv' := [(3, .int 0), (2, .int (-1)), (0, .ref (G.2.1 k)), (1, .int a1)]) dX11_drawnTo_16 rfl (by decide) rfl ?_
    refine aw_iconst (v := 0) dX11_drawnTo_17 (by decide) ?_
    refine aw_istore (lv' := [(4, .int 0), (3, .int 0), (2, .int (-1)), (0, .ref (G.2.1 k)), (1, .int a1)]) dX11_drawnTo_18 (by decide) rfl ?_
    refine aw_sub (lv' := [(0, .ref (G.2.1 k)), (1, .int a1), (2, .int (-1)), (3, .int 0), (4, .int 0)]) [3, 4, 2, 1, 0] rfl ?_
    obtain ⟨n1, H⟩ := H
    exact fm_X11_drawnTo_20 d o_k n1 _ _ _ _ H
  · replace H := a_neg2 c14 H
    refine aw_iconst (v := (-1)) dX11_drawnTo_11 (by decide) ?_
    exact aw_iret rfl H dX11_drawnTo_12
set_option maxHeartbeats 4000000 in
set_option maxRecDepth 100000 in
theorem am_X11_signOf {l : Launch} {S : aS} {G : aG} (d : Nat) {a0 : Int32} {h : aH} {Q : Int32 → aH → Prop} (H : f_X11_signOf S a0 h Q) : AMi l S G d M_X11_signOf [.int a0] h Q := by
  unfold f_X11_signOf at H
  refine am_of mf_X11_signOf (Nat.le_of_ble_eq_true rfl) (lv0 := [(0, .int a0)]) rfl ?_
  refine aw_iload_n dX11_signOf_0 rfl 0 rfl ?_
  refine aw_if_ge (tgt := 8) dX11_signOf_1 (by decide) (fun c1 => ?_) (fun c1 => ?_)
  · replace H := a_pos c1 H
    refine aw_iload_n dX11_signOf_8 rfl 0 rfl ?_
    refine aw_if_le (tgt := 16) dX11_signOf_9 (by decide) (fun c2 => ?_) (fun c2 => ?_)
    · replace H := a_pos c2 H
      refine aw_iconst (v := 0) dX11_signOf_16 (by decide) ?_
      exact aw_iret rfl H dX11_signOf_17
    · replace H := a_neg c2 H
      refine aw_iconst (v := 1) dX11_signOf_12 (by decide) ?_
      refine aw_goto (tgt := 17) dX11_signOf_13 (by decide) ?_
      exact aw_iret rfl H dX11_signOf_17
  · replace H := a_neg c1 H
    refine aw_iconst (v := (-1)) dX11_signOf_4 (by decide) ?_
    refine aw_goto (tgt := 17) dX11_signOf_5 (by decide) ?_
    exact aw_iret rfl H dX11_signOf_17
set_option maxHeartbeats 4000000 in
set_option maxRecDepth 100000 in
theorem fm_X11_goes_105 {l : Launch} {S : aS} {G : aG} (d : Nat) {k : Nat} {a1 : Int32} {Q : aH → Prop} (o_k : aObj S k 10 flX11) (x3 : Int32) (x5 : Int32) (h : aH) (H : f_X11_goes_105 S k a1 Q x3 x5 h) : AW l S G (d + 10) M_X11_goes (va_Qv Q (aPo S G) (aA S G)) 105 [(0, .ref (G.2.1 k)), (1, .int a1), (3, .int x3), (5, .int x5)] [] h := by
  unfold f_X11_goes_105 at H
  refine aw_iload dX11_goes_105 3 rfl ?_
  refine aw_if_eq (tgt := 137) dX11_goes_107 (by decide) (fun c1 => ?_) (fun c1 => ?_)
  · replace H := a_pos c1 H
    exact aw_vret rfl H dX11_goes_137
  · replace H := a_neg c1 H
    refine aw_aload_n dX11_goes_110 rfl 0 rfl ?_
    refine aw_iload_n dX11_goes_111 rfl 2 rfl ?_
    refine aw_bipush (v := 16) dX11_goes_112 (by decide) ?_
    refine aw_iload dX11_goes_114 3 rfl ?_
    refine aw_imul dX11_goes_116 ?_
    refine aw_iadd dX11_goes_117 ?_
    refine aw_callV_i (As := [.int (x3 + (16 * x5))]) (rest := []) (am_X11_isIce (d + 9) o_k H) mf_X11_isIce wd_1374 wd_1376 ws_4_4 cf_X11 o_k rfl rfl (Nat.le_of_ble_eq_true rfl) dX11_goes_118 (fun r3 h2 H => ?_)
    refine aw_if_eq (tgt := 137) dX11_goes_121 (by decide) (fun c4 => ?_) (fun c4 => ?_)
    · replace H := a_pos c4 H
      exact aw_vret rfl H dX11_goes_137
    · replace H := a_neg c4 H
      refine aw_aload_n dX11_goes_124 rfl 0 rfl ?_
      refine aw_getR cf_X11 14 (by decide) rfl wd_1050 o_k dX11_goes_125 ?_
      refine aw_iload_n dX11_goes_128 rfl 1 rfl ?_
      refine aw_iload_n dX11_goes_129 rfl 2 rfl ?_
      refine aw_bipush (v := 16) dX11_goes_130 (by decide) ?_
      refine aw_iload dX11_goes_132 3 rfl ?_
      refine aw_imul dX11_goes_134 ?_
      refine aw_iadd dX11_goes_135 ?_
      obtain ⟨z5, H⟩ := H
      refine aw_iastore z5 dX11_goes_136 ?_
      refine aw_nameH (fun h6 e_h6 => ?_)
      replace H := H h6 e_h6
      exact aw_vret rfl H dX11_goes_137
set_option maxHeartbeats 4000000 in
set_option maxRecDepth 100000 in
theorem am_X11_goes {l : Launch} {S : aS} {G : aG} (d : Nat) {k : Nat} {a1 : Int32} {h : aH} {Q : aH → Prop} (o_k : aObj S k 10 flX11) (H : f_X11_goes S k a1 h Q) : AMv l S G (d + 10) M_X11_goes [.ref (G.2.1 k), .int a1] h Q := by
  unfold f_X11_goes at H
  refine am_of mf_X11_goes (Nat.le_of_ble_eq_true rfl) (lv0 := [(0, .ref (G.2.1 k)), (1, .int a1)]) rfl ?_
  refine aw_aload_n dX11_goes_0 rfl 0 rfl ?_
  refine aw_iload_n dX11_goes_1 rfl 1 rfl ?_
  refine aw_callV_i (As := [.int a1]) (rest := []) (am_X11_drawnTo d o_k H) mf_X11_drawnTo wd_1506 wd_1508 ws_5_13 cf_X11 o_k rfl rfl (Nat.le_of_ble_eq_true rfl) dX11_goes_2 (fun r8 h7 H => ?_)
  refine aw_istore_n (lv' := [(2, .int r8), (0, .ref (G.2.1 k)), (1, .int a1)]) dX11_goes_5 rfl (by decide) rfl ?_
  refine aw_iload_n dX11_goes_6 rfl 0 rfl ?_
  refine aw_iconst (v := (-1)) dX11_goes_7 (by decide) ?_
  refine aw_icmp_eq (tgt := 30) dX11_goes_8 (by decide) (fun c9 => ?_) (fun c9 => ?_)
  · replace H := a_pos c9 H
    exact aw_vret rfl H dX11_goes_30
  · replace H := a_neg c9 H
    refine aw_aload_n dX11_goes_11 rfl 1 rfl ?_
    refine aw_getR cf_X11 14 (by decide) rfl wd_1050 o_k dX11_goes_12 ?_
    refine aw_iload_n dX11_goes_15 rfl 2 rfl ?_
    obtain ⟨z10, H⟩ := H
    refine aw_iaload z10 dX11_goes_16 ?_
    refine aw_name (fun v11 e_v11 => ?_)
    replace H := H v11 e_v11
    refine aw_aload_n dX11_goes_17 rfl 1 rfl ?_
    refine aw_getR cf_X11 9 (by decide) rfl wd_1045 o_k dX11_goes_18 ?_
    refine aw_iload_n dX11_goes_21 rfl 0 rfl ?_
    obtain ⟨z12, H⟩ := H
    refine aw_iaload z12 dX11_goes_22 ?_
    refine aw_name (fun v13 e_v13 => ?_)
    replace H := H v13 e_v13
    refine aw_callS_i (As := [.int v11, .int v13]) (rest := []) (am_X11_wayOf (d + 8) H) mf_X11_wayOf wd_1424 wd_1425 rfl rfl (Nat.le_of_ble_eq_true rfl) dX11_goes_23 (fun r15 h14 H => ?_)
    refine aw_iconst (v := 2) dX11_goes_26 (by decide) ?_
    refine aw_icmp_ge (tgt := 31) dX11_goes_27 (by decide) (fun c16 => ?_) (fun c16 => ?_)
    · replace H := a_pos c16 H
      refine aw_aload_n dX11_goes_31 rfl 1 rfl ?_
      refine aw_getR cf_X11 14 (by decide) rfl wd_1050 o_k dX11_goes_32 ?_
      refine aw_iload_n dX11_goes_35 rfl 2 rfl ?_
      obtain ⟨z17, H⟩ := H
      refine aw_iaload z17 dX11_goes_36 ?_
      refine aw_name (fun v18 e_v18 => ?_)
      replace H := H v18 e_v18
      refine aw_istore_n (lv' := [(3, .int v18), (2, .int r8), (0, .ref (G.2.1 k)), (1, .int a1)]) dX11_goes_37 rfl (by decide) rfl ?_
      refine aw_aload_n dX11_goes_38 rfl 2 rfl ?_
      refine aw_getR cf_X11 9 (by decide) rfl wd_1045 o_k dX11_goes_39 ?_
      refine aw_iload_n dX11_goes_42 rfl 1 rfl ?_
      obtain ⟨z19, H⟩ := H
      refine aw_iaload z19 dX11_goes_43 ?_
      refine aw_name (fun v20 e_v20 => ?_)
      replace H := H v20 e_v20
      refine aw_bipush (v := 16) dX11_goes_44 (by decide) ?_
      refine aw_irem dX11_goes_46 (by decide) ?_
      refine aw_iload_n dX11_goes_47 rfl 0 rfl ?_
      refine aw_bipush (v := 16) dX11_goes_48 (by decide) ?_
      refine aw_irem dX11_goes_50 (by decide) ?_
      refine aw_isub dX11_goes_51 ?_
      refine aw_callS_i (As := [.int ((v20 - v20 / 16 * 16) - (v18 - v18 / 16 * 16))]) (rest := []) (am_X11_signOf (d + 9) H) mf_X11_signOf wd_1514 wd_1515 rfl rfl (Nat.le_of_ble_eq_true rfl) dX11_goes_52 (fun r22 h21 H => ?_)
      refine aw_istore (lv' := [(4, .int r22), (3, .int v18), (2, .int r8), (0, .ref (G.2.1 k)), (1, .int a1)]) dX11_goes_55 (by decide) rfl ?_
      refine aw_aload_n dX11_goes_57 rfl 3 rfl ?_
      refine aw_getR cf_X11 9 (by decide) rfl wd_1045 o_k dX11_goes_58 ?_
      refine aw_iload_n dX11_goes_61 rfl 2 rfl ?_
      obtain ⟨z23, H⟩ := H
      refine aw_iaload z23 dX11_goes_62 ?_
      refine aw_name (fun v24 e_v24 => ?_)
      replace H := H v24 e_v24
      refine aw_bipush (v := 16) dX11_goes_63 (by decide) ?_
      refine aw_idiv dX11_goes_65 (by decide) ?_
      refine aw_iload_n dX11_goes_66 rfl 1 rfl ?_
      refine aw_bipush (v := 16) dX11_goes_67 (by decide) ?_
      refine aw_idiv dX11_goes_69 (by decide) ?_
      refine aw_isub dX11_goes_70 ?_
      refine aw_callS_i (As := [.int ((v24 / 16) - (v18 / 16))]) (rest := []) (am_X11_signOf (d + 9) H) mf_X11_signOf wd_1514 wd_1515 rfl rfl (Nat.le_of_ble_eq_true rfl) dX11_goes_71 (fun r26 h25 H => ?_)
      refine aw_istore (lv' := [(5, .int r26), (4, .int r22), (3, .int v18), (2, .int r8), (0, .ref (G.2.1 k)), (1, .int a1)]) dX11_goes_74 (by decide) rfl ?_
      refine aw_iload dX11_goes_76 1 rfl ?_
      refine aw_if_eq (tgt := 105) dX11_goes_78 (by decide) (fun c27 => ?_) (fun c27 => ?_)
      · replace H := a_pos c27 H
        refine aw_sub (lv' := [(0, .ref (G.2.1 k)), (1, .int a1), (3, .int v18), (5, .int r26)]) [4, 5, 2, 0] rfl ?_
        exact fm_X11_goes_105 d o_k _ _ _ H
      · replace H := a_neg c27 H
        refine aw_aload_n dX11_goes_81 rfl 4 rfl ?_
        refine aw_iload_n dX11_goes_82 rfl 2 rfl ?_
        refine aw_iload dX11_goes_83 1 rfl ?_
        refine aw_iadd dX11_goes_85 ?_
        refine aw_callV_i (As := [.int (v18 + r22)]) (rest := []) (am_X11_isIce (d + 9) o_k H) mf_X11_isIce wd_1374 wd_1376 ws_4_4 cf_X11 o_k rfl rfl (Nat.le_of_ble_eq_true rfl) dX11_goes_86 (fun r29 h28 H => ?_)
        refine aw_if_eq (tgt := 105) dX11_goes_89 (by decide) (fun c30 => ?_) (fun c30 => ?_)
        · replace H := a_pos c30 H
          refine aw_sub (lv' := [(0, .ref (G.2.1 k)), (1, .int a1), (3, .int v18), (5, .int r26)]) [4, 5, 2, 0] rfl ?_
          exact fm_X11_goes_105 d o_k _ _ _ H
        · replace H := a_neg c30 H
          refine aw_aload_n dX11_goes_92 rfl 4 rfl ?_
          refine aw_getR cf_X11 14 (by decide) rfl wd_1050 o_k dX11_goes_93 ?_
          refine aw_iload_n dX11_goes_96 rfl 5 rfl ?_
          refine aw_iload_n dX11_goes_97 rfl 2 rfl ?_
          refine aw_iload dX11_goes_98 1 rfl ?_
          refine aw_iadd dX11_goes_100 ?_
          obtain ⟨z31, H⟩ := H
          refine aw_iastore z31 dX11_goes_101 ?_
          refine aw_nameH (fun h32 e_h32 => ?_)
          replace H := H h32 e_h32
          refine aw_goto (tgt := 137) dX11_goes_102 (by decide) ?_
          exact aw_vret rfl H dX11_goes_137
    · replace H := a_neg c16 H
      exact aw_vret rfl H dX11_goes_30
set_option maxHeartbeats 4000000 in
set_option maxRecDepth 100000 in
theorem fm_X11_minuteOne_6 {l : Launch} {S : aS} {G : aG} (d : Nat) {k : Nat} {Q : aH → Prop} (o_k : aObj S k 10 flX11) : ∀ (n : Nat) (x1 : Int32) (h : aH), f_X11_minuteOne_6 S k Q n x1 h → AW l S G (d + 11) M_X11_minuteOne (va_Qv Q (aPo S G) (aA S G)) 6 [(0, .ref (G.2.1 k)), (1, .int x1)] [] h := by
  intro n
  induction n with
  | zero => intro x1 h H; exact False.elim H
  | succ n ih =>
    intro x1 h H
    unfold f_X11_minuteOne_6 at H
    refine aw_iload_n dX11_minuteOne_6 rfl 1 rfl ?_
    refine aw_aload_n dX11_minuteOne_7 rfl 0 rfl ?_
    refine aw_getI cf_X11 3 (by decide) rfl wd_1039 o_k dX11_minuteOne_8 ?_
    refine aw_name (fun v1 e_v1 => ?_)
    replace H := H v1 e_v1
    refine aw_icmp_ge (tgt := 25) dX11_minuteOne_11 (by decide) (fun c2 => ?_) (fun c2 => ?_)
    · replace H := a_pos c2 H
      refine aw_aload_n dX11_minuteOne_25 rfl 0 rfl ?_
      refine aw_callV_i (As := []) (rest := []) (am_X11_settles d o_k H) mf_X11_settles wd_1462 wd_1464 ws_5_4 cf_X11 o_k rfl rfl (Nat.le_of_ble_eq_true rfl) dX11_minuteOne_26 (fun r4 h3 H => ?_)
      refine aw_istore_n (lv' := [(1, .int r4), (0, .ref (G.2.1 k))]) dX11_minuteOne_29 rfl (by decide) rfl ?_
      refine aw_aload_n dX11_minuteOne_30 rfl 1 rfl ?_
      refine aw_dup dX11_minuteOne_31 rfl ?_
      refine aw_getI cf_X11 4 (by decide) rfl wd_1040 o_k dX11_minuteOne_32 ?_
      refine aw_name (fun v5 e_v5 => ?_)
      replace H := H v5 e_v5
      refine aw_iconst (v := 1) dX11_minuteOne_35 (by decide) ?_
      refine aw_iadd dX11_minuteOne_36 ?_
      refine aw_putI cf_X11 4 (by decide) rfl wd_1040 rfl rfl rfl o_k dX11_minuteOne_37 ?_
      refine aw_nameH (fun h6 e_h6 => ?_)
      replace H := H h6 e_h6
      exact aw_vret rfl H dX11_minuteOne_40
    · replace H := a_neg c2 H
      refine aw_aload_n dX11_minuteOne_14 rfl 0 rfl ?_
      refine aw_iload_n dX11_minuteOne_15 rfl 1 rfl ?_
      refine aw_callV_v (As := [.int x1]) (rest := []) (am_X11_goes d o_k H) mf_X11_goes wd_1502 wd_1504 ws_5_12 cf_X11 o_k rfl rfl (Nat.le_of_ble_eq_true rfl) dX11_minuteOne_16 (fun h7 H => ?_)
      obtain ⟨x1_8, e_x1_8⟩ : ∃ y : Int32, y = x1 + 1 := ⟨_, rfl⟩
      replace H := H x1_8 e_x1_8
      refine aw_iinc (v := x1_8) (lv' := [(1, .int x1_8), (0, .ref (G.2.1 k))]) dX11_minuteOne_19 (n0 := 1) rfl (by rw [e_x1_8]; rfl) (by decide) rfl ?_
      refine aw_goto (tgt := 6) dX11_minuteOne_22 (by decide) ?_
      refine aw_sub (lv' := [(0, .ref (G.2.1 k)), (1, .int x1_8)]) [1, 0] rfl ?_
      exact ih _ _ H
set_option maxHeartbeats 4000000 in
set_option maxRecDepth 100000 in
theorem am_X11_minuteOne {l : Launch} {S : aS} {G : aG} (d : Nat) {k : Nat} {h : aH} {Q : aH → Prop} (o_k : aObj S k 10 flX11) (H : f_X11_minuteOne S k h Q) : AMv l S G (d + 11) M_X11_minuteOne [.ref (G.2.1 k)] h Q := by
  unfold f_X11_minuteOne at H
  refine am_of mf_X11_minuteOne (Nat.le_of_ble_eq_true rfl) (lv0 := [(0, .ref (G.2.1 k))]) rfl ?_
  refine aw_aload_n dX11_minuteOne_0 rfl 0 rfl ?_
  refine aw_callV_v (As := []) (rest := []) (am_X11_thawsAll (d + 1) o_k H) mf_X11_thawsAll wd_1498 wd_1500 ws_5_11 cf_X11 o_k rfl rfl (Nat.le_of_ble_eq_true rfl) dX11_minuteOne_1 (fun h9 H => ?_)
  refine aw_iconst (v := 0) dX11_minuteOne_4 (by decide) ?_
  refine aw_istore_n (lv' := [(1, .int 0), (0, .ref (G.2.1 k))]) dX11_minuteOne_5 rfl (by decide) rfl ?_
  refine aw_sub (lv' := [(0, .ref (G.2.1 k)), (1, .int 0)]) [1, 0] rfl ?_
  obtain ⟨n1, H⟩ := H
  exact fm_X11_minuteOne_6 d o_k n1 _ _ H
set_option maxHeartbeats 4000000 in
set_option maxRecDepth 100000 in
theorem am_X11_isHour {l : Launch} {S : aS} {G : aG} (d : Nat) {a0 : Int32} {h : aH} {Q : Int32 → aH → Prop} (H : f_X11_isHour S a0 h Q) : AMi l S G (d + 1) M_X11_isHour [.int a0] h Q := by
  unfold f_X11_isHour at H
  refine am_of mf_X11_isHour (Nat.le_of_ble_eq_true rfl) (lv0 := [(0, .int a0)]) rfl ?_
  refine aw_iload_n dX11_isHour_0 rfl 0 rfl ?_
  refine aw_i2l dX11_isHour_1 ?_
  refine aw_lconst (v := 1) dX11_isHour_2 (by decide) ?_
  refine aw_ldc2 (v := 60) dX11_isHour_3 wd_1489 ?_
  refine aw_callS_i (As := [.long (a0).toInt64, .long 1, .long 60]) (rest := []) (am_X11_lies d H) mf_X11_lies wd_1258 wd_1259 rfl rfl (Nat.le_of_ble_eq_true rfl) dX11_isHour_6 (fun r2 h1 H => ?_)
  exact aw_zret rfl H.1.1 H.2 dX11_isHour_9
set_option maxHeartbeats 4000000 in
set_option maxRecDepth 100000 in
theorem fm_X11_minutes_16 {l : Launch} {S : aS} {G : aG} (d : Nat) {k : Nat} {a1 : Int32} {Q : Int32 → aH → Prop} (o_k : aObj S k 10 flX11) : ∀ (n : Nat) (x2 : Int32) (x3 : Int32) (h : aH), f_X11_minutes_16 S k a1 Q n x2 x3 h → AW l S G (d + 12) M_X11_minutes (va_Qi Q (aPo S G) (aA S G)) 16 [(0, .ref (G.2.1 k)), (1, .int a1), (2, .int x2), (3, .int x3)] [] h := by
  intro n
  induction n with
  | zero => intro x2 x3 h H; exact False.elim H
  | succ n ih =>
    intro x2 x3 h H
    unfold f_X11_minutes_16 at H
    refine aw_iload_n dX11_minutes_16 rfl 3 rfl ?_
    refine aw_iload_n dX11_minutes_17 rfl 1 rfl ?_
    refine aw_icmp_ge (tgt := 31) dX11_minutes_18 (by decide) (fun c1 => ?_) (fun c1 => ?_)
    · replace H := a_pos c1 H
      refine aw_aload_n dX11_minutes_31 rfl 0 rfl ?_
      refine aw_callV_i (As := []) (rest := []) (am_X11_drownedMany (d + 11) o_k H) mf_X11_drownedMany wd_1490 wd_1492 ws_5_9 cf_X11 o_k rfl rfl (Nat.le_of_ble_eq_true rfl) dX11_minutes_32 (fun r3 h2 H => ?_)
      refine aw_iload_n dX11_minutes_35 rfl 2 rfl ?_
      refine aw_isub dX11_minutes_36 ?_
      exact aw_iret rfl H dX11_minutes_37
    · replace H := a_neg c1 H
      refine aw_aload_n dX11_minutes_21 rfl 0 rfl ?_
      refine aw_callV_v (As := []) (rest := []) (am_X11_minuteOne d o_k H) mf_X11_minuteOne wd_1494 wd_1496 ws_5_10 cf_X11 o_k rfl rfl (Nat.le_of_ble_eq_true rfl) dX11_minutes_22 (fun h4 H => ?_)
      obtain ⟨x3_5, e_x3_5⟩ : ∃ y : Int32, y = x3 + 1 := ⟨_, rfl⟩
      replace H := H x3_5 e_x3_5
      refine aw_iinc (v := x3_5) (lv' := [(3, .int x3_5), (0, .ref (G.2.1 k)), (1, .int a1), (2, .int x2)]) dX11_minutes_25 (n0 := 3) rfl (by rw [e_x3_5]; rfl) (by decide) rfl ?_
      refine aw_goto (tgt := 16) dX11_minutes_28 (by decide) ?_
      refine aw_sub (lv' := [(0, .ref (G.2.1 k)), (1, .int a1), (2, .int x2), (3, .int x3_5)]) [1, 2, 3, 0] rfl ?_
      exact ih _ _ _ H
set_option maxHeartbeats 4000000 in
set_option maxRecDepth 100000 in
theorem am_X11_minutes {l : Launch} {S : aS} {G : aG} (d : Nat) {k : Nat} {a1 : Int32} {h : aH} {Q : Int32 → aH → Prop} (o_k : aObj S k 10 flX11) (H : f_X11_minutes S k a1 h Q) : AMi l S G (d + 12) M_X11_minutes [.ref (G.2.1 k), .int a1] h Q := by
  unfold f_X11_minutes at H
  refine am_of mf_X11_minutes (Nat.le_of_ble_eq_true rfl) (lv0 := [(0, .ref (G.2.1 k)), (1, .int a1)]) rfl ?_
  refine aw_iload_n dX11_minutes_0 rfl 1 rfl ?_
  refine aw_callS_i (As := [.int a1]) (rest := []) (am_X11_isHour (d + 10) H) mf_X11_isHour wd_1486 wd_1487 rfl rfl (Nat.le_of_ble_eq_true rfl) dX11_minutes_1 (fun r7 h6 H => ?_)
  refine aw_if_ne (tgt := 9) dX11_minutes_4 (by decide) (fun c8 => ?_) (fun c8 => ?_)
  · replace H := a_pos c8 H
    refine aw_aload_n dX11_minutes_9 rfl 0 rfl ?_
    refine aw_callV_i (As := []) (rest := []) (am_X11_drownedMany (d + 11) o_k H) mf_X11_drownedMany wd_1490 wd_1492 ws_5_9 cf_X11 o_k rfl rfl (Nat.le_of_ble_eq_true rfl) dX11_minutes_10 (fun r10 h9 H => ?_)
    refine aw_istore_n (lv' := [(2, .int r10), (0, .ref (G.2.1 k)), (1, .int a1)]) dX11_minutes_13 rfl (by decide) rfl ?_
    refine aw_iconst (v := 0) dX11_minutes_14 (by decide) ?_
    refine aw_istore_n (lv' := [(3, .int 0), (2, .int r10), (0, .ref (G.2.1 k)), (1, .int a1)]) dX11_minutes_15 rfl (by decide) rfl ?_
    refine aw_sub (lv' := [(0, .ref (G.2.1 k)), (1, .int a1), (2, .int r10), (3, .int 0)]) [2, 3, 1, 0] rfl ?_
    obtain ⟨n1, H⟩ := H
    exact fm_X11_minutes_16 d o_k n1 _ _ _ H
  · replace H := a_neg2 c8 H
    refine aw_iconst (v := (-1)) dX11_minutes_7 (by decide) ?_
    exact aw_iret rfl H dX11_minutes_8
set_option maxHeartbeats 4000000 in
set_option maxRecDepth 100000 in
theorem fm_X11_setsAside_71 {l : Launch} {S : aS} {G : aG} (d : Nat) {k : Nat} {a1 : Int32} {Q : aH → Prop} (o_k : aObj S k 10 flX11) : ∀ (n : Nat) (x2 : Int32) (h : aH), f_X11_setsAside_71 S k a1 Q n x2 h → AW l S G d M_X11_setsAside (va_Qv Q (aPo S G) (aA S G)) 71 [(0, .ref (G.2.1 k)), (1, .int a1), (2, .int x2)] [] h := by
  intro n
  induction n with
  | zero => intro x2 h H; exact False.elim H
  | succ n ih =>
    intro x2 h H
    unfold f_X11_setsAside_71 at H
    refine aw_iload_n dX11_setsAside_71 rfl 2 rfl ?_
    refine aw_bipush (v := 8) dX11_setsAside_72 (by decide) ?_
    refine aw_icmp_ge (tgt := 100) dX11_setsAside_74 (by decide) (fun c1 => ?_) (fun c1 => ?_)
    · replace H := a_pos c1 H
      refine aw_aload_n dX11_setsAside_100 rfl 0 rfl ?_
      refine aw_getR cf_X11 51 (by decide) rfl wd_1087 o_k dX11_setsAside_101 ?_
      refine aw_iload_n dX11_setsAside_104 rfl 1 rfl ?_
      refine aw_aload_n dX11_setsAside_105 rfl 0 rfl ?_
      refine aw_getI cf_X11 4 (by decide) rfl wd_1040 o_k dX11_setsAside_106 ?_
      refine aw_name (fun v2 e_v2 => ?_)
      replace H := H v2 e_v2
      obtain ⟨z3, H⟩ := H
      refine aw_iastore z3 dX11_setsAside_109 ?_
      refine aw_nameH (fun h4 e_h4 => ?_)
      replace H := H h4 e_h4
      exact aw_vret rfl H dX11_setsAside_110
    · replace H := a_neg c1 H
      refine aw_aload_n dX11_setsAside_77 rfl 0 rfl ?_
      refine aw_getR cf_X11 50 (by decide) rfl wd_1086 o_k dX11_setsAside_78 ?_
      refine aw_bipush (v := 8) dX11_setsAside_81 (by decide) ?_
      refine aw_iload_n dX11_setsAside_83 rfl 1 rfl ?_
      refine aw_imul dX11_setsAside_84 ?_
      refine aw_iload_n dX11_setsAside_85 rfl 2 rfl ?_
      refine aw_iadd dX11_setsAside_86 ?_
      refine aw_aload_n dX11_setsAside_87 rfl 0 rfl ?_
      refine aw_getR cf_X11 14 (by decide) rfl wd_1050 o_k dX11_setsAside_88 ?_
      refine aw_iload_n dX11_setsAside_91 rfl 2 rfl ?_
      obtain ⟨z5, H⟩ := H
      refine aw_iaload z5 dX11_setsAside_92 ?_
      refine aw_name (fun v6 e_v6 => ?_)
      replace H := H v6 e_v6
      obtain ⟨z7, H⟩ := H
      refine aw_iastore z7 dX11_setsAside_93 ?_
      refine aw_nameH (fun h8 e_h8 => ?_)
      replace H := H h8 e_h8
      obtain ⟨x2_9, e_x2_9⟩ : ∃ y : Int32, y = x2 + 1 := ⟨_, rfl⟩
      replace H := H x2_9 e_x2_9
      refine aw_iinc (v := x2_9) (lv' := [(2, .int x2_9), (0, .ref (G.2.1 k)), (1, .int a1)]) dX11_setsAside_94 (n0 := 2) rfl (by rw [e_x2_9]; rfl) (by decide) rfl ?_
      refine aw_goto (tgt := 71) dX11_setsAside_97 (by decide) ?_
      refine aw_sub (lv' := [(0, .ref (G.2.1 k)), (1, .int a1), (2, .int x2_9)]) [1, 2, 0] rfl ?_
      exact ih _ _ H
set_option maxHeartbeats 4000000 in
set_option maxRecDepth 100000 in
theorem fm_X11_setsAside_2 {l : Launch} {S : aS} {G : aG} (d : Nat) {k : Nat} {a1 : Int32} {Q : aH → Prop} (o_k : aObj S k 10 flX11) : ∀ (n : Nat) (x2 : Int32) (h : aH), f_X11_setsAside_2 S k a1 Q n x2 h → AW l S G d M_X11_setsAside (va_Qv Q (aPo S G) (aA S G)) 2 [(0, .ref (G.2.1 k)), (1, .int a1), (2, .int x2)] [] h := by
  intro n
  induction n with
  | zero => intro x2 h H; exact False.elim H
  | succ n ih =>
    intro x2 h H
    unfold f_X11_setsAside_2 at H
    refine aw_iload_n dX11_setsAside_2 rfl 2 rfl ?_
    refine aw_sipush (v := 256) dX11_setsAside_3 (by decide) ?_
    refine aw_icmp_ge (tgt := 69) dX11_setsAside_6 (by decide) (fun c10 => ?_) (fun c10 => ?_)
    · replace H := a_pos c10 H
      refine aw_iconst (v := 0) dX11_setsAside_69 (by decide) ?_
      refine aw_istore_n (lv' := [(2, .int 0), (0, .ref (G.2.1 k)), (1, .int a1)]) dX11_setsAside_70 rfl (by decide) rfl ?_
      refine aw_sub (lv' := [(0, .ref (G.2.1 k)), (1, .int a1), (2, .int 0)]) [1, 2, 0] rfl ?_
      obtain ⟨n1, H⟩ := H
      exact fm_X11_setsAside_71 d o_k n1 _ _ H
    · replace H := a_neg c10 H
      refine aw_aload_n dX11_setsAside_9 rfl 0 rfl ?_
      refine aw_getR cf_X11 47 (by decide) rfl wd_1083 o_k dX11_setsAside_10 ?_
      refine aw_sipush (v := 256) dX11_setsAside_13 (by decide) ?_
      refine aw_iload_n dX11_setsAside_16 rfl 1 rfl ?_
      refine aw_imul dX11_setsAside_17 ?_
      refine aw_iload_n dX11_setsAside_18 rfl 2 rfl ?_
      refine aw_iadd dX11_setsAside_19 ?_
      refine aw_aload_n dX11_setsAside_20 rfl 0 rfl ?_
      refine aw_getR cf_X11 6 (by decide) rfl wd_1042 o_k dX11_setsAside_21 ?_
      refine aw_iload_n dX11_setsAside_24 rfl 2 rfl ?_
      obtain ⟨z11, H⟩ := H
      refine aw_iaload z11 dX11_setsAside_25 ?_
      refine aw_name (fun v12 e_v12 => ?_)
      replace H := H v12 e_v12
      obtain ⟨z13, H⟩ := H
      refine aw_iastore z13 dX11_setsAside_26 ?_
      refine aw_nameH (fun h14 e_h14 => ?_)
      replace H := H h14 e_h14
      refine aw_aload_n dX11_setsAside_27 rfl 0 rfl ?_
      refine aw_getR cf_X11 48 (by decide) rfl wd_1084 o_k dX11_setsAside_28 ?_
      refine aw_sipush (v := 256) dX11_setsAside_31 (by decide) ?_
      refine aw_iload_n dX11_setsAside_34 rfl 1 rfl ?_
      refine aw_imul dX11_setsAside_35 ?_
      refine aw_iload_n dX11_setsAside_36 rfl 2 rfl ?_
      refine aw_iadd dX11_setsAside_37 ?_
      refine aw_aload_n dX11_setsAside_38 rfl 0 rfl ?_
      refine aw_getR cf_X11 7 (by decide) rfl wd_1043 o_k dX11_setsAside_39 ?_
      refine aw_iload_n dX11_setsAside_42 rfl 2 rfl ?_
      obtain ⟨z15, H⟩ := H
      refine aw_zaload z15 dX11_setsAside_43 ?_
      refine aw_name (fun v16 e_v16 => ?_)
      replace H := H v16 e_v16
      obtain ⟨z17, H⟩ := H
      obtain ⟨z19, H⟩ := H
      refine aw_zastore z17 z19.2.2 dX11_setsAside_44 ?_
      refine aw_nameH (fun h18 e_h18 => ?_)
      replace H := H h18 e_h18
      refine aw_aload_n dX11_setsAside_45 rfl 0 rfl ?_
      refine aw_getR cf_X11 49 (by decide) rfl wd_1085 o_k dX11_setsAside_46 ?_
      refine aw_sipush (v := 256) dX11_setsAside_49 (by decide) ?_
      refine aw_iload_n dX11_setsAside_52 rfl 1 rfl ?_
      refine aw_imul dX11_setsAside_53 ?_
      refine aw_iload_n dX11_setsAside_54 rfl 2 rfl ?_
      refine aw_iadd dX11_setsAside_55 ?_
      refine aw_aload_n dX11_setsAside_56 rfl 0 rfl ?_
      refine aw_getR cf_X11 8 (by decide) rfl wd_1044 o_k dX11_setsAside_57 ?_
      refine aw_iload_n dX11_setsAside_60 rfl 2 rfl ?_
      obtain ⟨z20, H⟩ := H
      refine aw_iaload z20 dX11_setsAside_61 ?_
      refine aw_name (fun v21 e_v21 => ?_)
      replace H := H v21 e_v21
      obtain ⟨z22, H⟩ := H
      refine aw_iastore z22 dX11_setsAside_62 ?_
      refine aw_nameH (fun h23 e_h23 => ?_)
      replace H := H h23 e_h23
      obtain ⟨x2_24, e_x2_24⟩ : ∃ y : Int32, y = x2 + 1 := ⟨_, rfl⟩
      replace H := H x2_24 e_x2_24
      refine aw_iinc (v := x2_24) (lv' := [(2, .int x2_24), (0, .ref (G.2.1 k)), (1, .int a1)]) dX11_setsAside_63 (n0 := 2) rfl (by rw [e_x2_24]; rfl) (by decide) rfl ?_
      refine aw_goto (tgt := 2) dX11_setsAside_66 (by decide) ?_
      refine aw_sub (lv' := [(0, .ref (G.2.1 k)), (1, .int a1), (2, .int x2_24)]) [1, 2, 0] rfl ?_
      exact ih _ _ H
set_option maxHeartbeats 4000000 in
set_option maxRecDepth 100000 in
theorem am_X11_setsAside {l : Launch} {S : aS} {G : aG} (d : Nat) {k : Nat} {a1 : Int32} {h : aH} {Q : aH → Prop} (o_k : aObj S k 10 flX11) (H : f_X11_setsAside S k a1 h Q) : AMv l S G d M_X11_setsAside [.ref (G.2.1 k), .int a1] h Q := by
  unfold f_X11_setsAside at H
  refine am_of mf_X11_setsAside (Nat.le_of_ble_eq_true rfl) (lv0 := [(0, .ref (G.2.1 k)), (1, .int a1)]) rfl ?_
  refine aw_iconst (v := 0) dX11_setsAside_0 (by decide) ?_
  refine aw_istore_n (lv' := [(2, .int 0), (0, .ref (G.2.1 k)), (1, .int a1)]) dX11_setsAside_1 rfl (by decide) rfl ?_
  refine aw_sub (lv' := [(0, .ref (G.2.1 k)), (1, .int a1), (2, .int 0)]) [1, 2, 0] rfl ?_
  obtain ⟨n1, H⟩ := H
  exact fm_X11_setsAside_2 d o_k n1 _ _ H
set_option maxHeartbeats 4000000 in
set_option maxRecDepth 100000 in
theorem fm_X11_putsBack_71 {l : Launch} {S : aS} {G : aG} (d : Nat) {k : Nat} {a1 : Int32} {Q : aH → Prop} (o_k : aObj S k 10 flX11) : ∀ (n : Nat) (x2 : Int32) (h : aH), f_X11_putsBack_71 S k a1 Q n x2 h → AW l S G d M_X11_putsBack (va_Qv Q (aPo S G) (aA S G)) 71 [(0, .ref (G.2.1 k)), (1, .int a1), (2, .int x2)] [] h := by
  intro n
  induction n with
  | zero => intro x2 h H; exact False.elim H
  | succ n ih =>
    intro x2 h H
    unfold f_X11_putsBack_71 at H
    refine aw_iload_n dX11_putsBack_71 rfl 2 rfl ?_
    refine aw_bipush (v := 8) dX11_putsBack_72 (by decide) ?_
    refine aw_icmp_ge (tgt := 100) dX11_putsBack_74 (by decide) (fun c1 => ?_) (fun c1 => ?_)
    · replace H := a_pos c1 H
      refine aw_aload_n dX11_putsBack_100 rfl 0 rfl ?_
      refine aw_aload_n dX11_putsBack_101 rfl 0 rfl ?_
      refine aw_getR cf_X11 51 (by decide) rfl wd_1087 o_k dX11_putsBack_102 ?_
      refine aw_iload_n dX11_putsBack_105 rfl 1 rfl ?_
      obtain ⟨z2, H⟩ := H
      refine aw_iaload z2 dX11_putsBack_106 ?_
      refine aw_name (fun v3 e_v3 => ?_)
      replace H := H v3 e_v3
      refine aw_putI cf_X11 4 (by decide) rfl wd_1040 rfl rfl rfl o_k dX11_putsBack_107 ?_
      refine aw_nameH (fun h4 e_h4 => ?_)
      replace H := H h4 e_h4
      exact aw_vret rfl H dX11_putsBack_110
    · replace H := a_neg c1 H
      refine aw_aload_n dX11_putsBack_77 rfl 0 rfl ?_
      refine aw_getR cf_X11 14 (by decide) rfl wd_1050 o_k dX11_putsBack_78 ?_
      refine aw_iload_n dX11_putsBack_81 rfl 2 rfl ?_
      refine aw_aload_n dX11_putsBack_82 rfl 0 rfl ?_
      refine aw_getR cf_X11 50 (by decide) rfl wd_1086 o_k dX11_putsBack_83 ?_
      refine aw_bipush (v := 8) dX11_putsBack_86 (by decide) ?_
      refine aw_iload_n dX11_putsBack_88 rfl 1 rfl ?_
      refine aw_imul dX11_putsBack_89 ?_
      refine aw_iload_n dX11_putsBack_90 rfl 2 rfl ?_
      refine aw_iadd dX11_putsBack_91 ?_
      obtain ⟨z5, H⟩ := H
      refine aw_iaload z5 dX11_putsBack_92 ?_
      refine aw_name (fun v6 e_v6 => ?_)
      replace H := H v6 e_v6
      obtain ⟨z7, H⟩ := H
      refine aw_iastore z7 dX11_putsBack_93 ?_
      refine aw_nameH (fun h8 e_h8 => ?_)
      replace H := H h8 e_h8
      obtain ⟨x2_9, e_x2_9⟩ : ∃ y : Int32, y = x2 + 1 := ⟨_, rfl⟩
      replace H := H x2_9 e_x2_9
      refine aw_iinc (v := x2_9) (lv' := [(2, .int x2_9), (0, .ref (G.2.1 k)), (1, .int a1)]) dX11_putsBack_94 (n0 := 2) rfl (by rw [e_x2_9]; rfl) (by decide) rfl ?_
      refine aw_goto (tgt := 71) dX11_putsBack_97 (by decide) ?_
      refine aw_sub (lv' := [(0, .ref (G.2.1 k)), (1, .int a1), (2, .int x2_9)]) [1, 2, 0] rfl ?_
      exact ih _ _ H
set_option maxHeartbeats 4000000 in
set_option maxRecDepth 100000 in
theorem fm_X11_putsBack_2 {l : Launch} {S : aS} {G : aG} (d : Nat) {k : Nat} {a1 : Int32} {Q : aH → Prop} (o_k : aObj S k 10 flX11) : ∀ (n : Nat) (x2 : Int32) (h : aH), f_X11_putsBack_2 S k a1 Q n x2 h → AW l S G d M_X11_putsBack (va_Qv Q (aPo S G) (aA S G)) 2 [(0, .ref (G.2.1 k)), (1, .int a1), (2, .int x2)] [] h := by
  intro n
  induction n with
  | zero => intro x2 h H; exact False.elim H
  | succ n ih =>
    intro x2 h H
    unfold f_X11_putsBack_2 at H
    refine aw_iload_n dX11_putsBack_2 rfl 2 rfl ?_
    refine aw_sipush (v := 256) dX11_putsBack_3 (by decide) ?_
    refine aw_icmp_ge (tgt := 69) dX11_putsBack_6 (by decide) (fun c10 => ?_) (fun c10 => ?_)
    · replace H := a_pos c10 H
      refine aw_iconst (v := 0) dX11_putsBack_69 (by decide) ?_
      refine aw_istore_n (lv' := [(2, .int 0), (0, .ref (G.2.1 k)), (1, .int a1)]) dX11_putsBack_70 rfl (by decide) rfl ?_
      refine aw_sub (lv' := [(0, .ref (G.2.1 k)), (1, .int a1), (2, .int 0)]) [1, 2, 0] rfl ?_
      obtain ⟨n1, H⟩ := H
      exact fm_X11_putsBack_71 d o_k n1 _ _ H
    · replace H := a_neg c10 H
      refine aw_aload_n dX11_putsBack_9 rfl 0 rfl ?_
      refine aw_getR cf_X11 6 (by decide) rfl wd_1042 o_k dX11_putsBack_10 ?_
      refine aw_iload_n dX11_putsBack_13 rfl 2 rfl ?_
      refine aw_aload_n dX11_putsBack_14 rfl 0 rfl ?_
      refine aw_getR cf_X11 47 (by decide) rfl wd_1083 o_k dX11_putsBack_15 ?_
      refine aw_sipush (v := 256) dX11_putsBack_18 (by decide) ?_
      refine aw_iload_n dX11_putsBack_21 rfl 1 rfl ?_
      refine aw_imul dX11_putsBack_22 ?_
      refine aw_iload_n dX11_putsBack_23 rfl 2 rfl ?_
      refine aw_iadd dX11_putsBack_24 ?_
      obtain ⟨z11, H⟩ := H
      refine aw_iaload z11 dX11_putsBack_25 ?_
      refine aw_name (fun v12 e_v12 => ?_)
      replace H := H v12 e_v12
      obtain ⟨z13, H⟩ := H
      refine aw_iastore z13 dX11_putsBack_26 ?_
      refine aw_nameH (fun h14 e_h14 => ?_)
      replace H := H h14 e_h14
      refine aw_aload_n dX11_putsBack_27 rfl 0 rfl ?_
      refine aw_getR cf_X11 7 (by decide) rfl wd_1043 o_k dX11_putsBack_28 ?_
      refine aw_iload_n dX11_putsBack_31 rfl 2 rfl ?_
      refine aw_aload_n dX11_putsBack_32 rfl 0 rfl ?_
      refine aw_getR cf_X11 48 (by decide) rfl wd_1084 o_k dX11_putsBack_33 ?_
      refine aw_sipush (v := 256) dX11_putsBack_36 (by decide) ?_
      refine aw_iload_n dX11_putsBack_39 rfl 1 rfl ?_
      refine aw_imul dX11_putsBack_40 ?_
      refine aw_iload_n dX11_putsBack_41 rfl 2 rfl ?_
      refine aw_iadd dX11_putsBack_42 ?_
      obtain ⟨z15, H⟩ := H
      refine aw_zaload z15 dX11_putsBack_43 ?_
      refine aw_name (fun v16 e_v16 => ?_)
      replace H := H v16 e_v16
      obtain ⟨z17, H⟩ := H
      obtain ⟨z19, H⟩ := H
      refine aw_zastore z17 z19.2.2 dX11_putsBack_44 ?_
      refine aw_nameH (fun h18 e_h18 => ?_)
      replace H := H h18 e_h18
      refine aw_aload_n dX11_putsBack_45 rfl 0 rfl ?_
      refine aw_getR cf_X11 8 (by decide) rfl wd_1044 o_k dX11_putsBack_46 ?_
      refine aw_iload_n dX11_putsBack_49 rfl 2 rfl ?_
      refine aw_aload_n dX11_putsBack_50 rfl 0 rfl ?_
      refine aw_getR cf_X11 49 (by decide) rfl wd_1085 o_k dX11_putsBack_51 ?_
      refine aw_sipush (v := 256) dX11_putsBack_54 (by decide) ?_
      refine aw_iload_n dX11_putsBack_57 rfl 1 rfl ?_
      refine aw_imul dX11_putsBack_58 ?_
      refine aw_iload_n dX11_putsBack_59 rfl 2 rfl ?_
      refine aw_iadd dX11_putsBack_60 ?_
      obtain ⟨z20, H⟩ := H
      refine aw_iaload z20 dX11_putsBack_61 ?_
      refine aw_name (fun v21 e_v21 => ?_)
      replace H := H v21 e_v21
      obtain ⟨z22, H⟩ := H
      refine aw_iastore z22 dX11_putsBack_62 ?_
      refine aw_nameH (fun h23 e_h23 => ?_)
      replace H := H h23 e_h23
      obtain ⟨x2_24, e_x2_24⟩ : ∃ y : Int32, y = x2 + 1 := ⟨_, rfl⟩
      replace H := H x2_24 e_x2_24
      refine aw_iinc (v := x2_24) (lv' := [(2, .int x2_24), (0, .ref (G.2.1 k)), (1, .int a1)]) dX11_putsBack_63 (n0 := 2) rfl (by rw [e_x2_24]; rfl) (by decide) rfl ?_
      refine aw_goto (tgt := 2) dX11_putsBack_66 (by decide) ?_
      refine aw_sub (lv' := [(0, .ref (G.2.1 k)), (1, .int a1), (2, .int x2_24)]) [1, 2, 0] rfl ?_
      exact ih _ _ H
set_option maxHeartbeats 4000000 in
set_option maxRecDepth 100000 in
theorem am_X11_putsBack {l : Launch} {S : aS} {G : aG} (d : Nat) {k : Nat} {a1 : Int32} {h : aH} {Q : aH → Prop} (o_k : aObj S k 10 flX11) (H : f_X11_putsBack S k a1 h Q) : AMv l S G d M_X11_putsBack [.ref (G.2.1 k), .int a1] h Q := by
  unfold f_X11_putsBack at H
  refine am_of mf_X11_putsBack (Nat.le_of_ble_eq_true rfl) (lv0 := [(0, .ref (G.2.1 k)), (1, .int a1)]) rfl ?_
  refine aw_iconst (v := 0) dX11_putsBack_0 (by decide) ?_
  refine aw_istore_n (lv' := [(2, .int 0), (0, .ref (G.2.1 k)), (1, .int a1)]) dX11_putsBack_1 rfl (by decide) rfl ?_
  refine aw_sub (lv' := [(0, .ref (G.2.1 k)), (1, .int a1), (2, .int 0)]) [1, 2, 0] rfl ?_
  obtain ⟨n1, H⟩ := H
  exact fm_X11_putsBack_2 d o_k n1 _ _ H
set_option maxHeartbeats 4000000 in
set_option maxRecDepth 100000 in
theorem fm_X11_brokenMany_4 {l : Launch} {S : aS} {G : aG} (d : Nat) {k : Nat} {Q : Int32 → aH → Prop} (o_k : aObj S k 10 flX11) : ∀ (n : Nat) (x1 : Int32) (x2 : Int32) (h : aH), f_X11_brokenMany_4 S k Q n x1 x2 h → AW l S G d M_X11_brokenMany (va_Qi Q (aPo S G) (aA S G)) 4 [(0, .ref (G.2.1 k)), (1, .int x1), (2, .int x2)] [] h := by
  intro n
  induction n with
  | zero => intro x1 x2 h H; exact False.elim H
  | succ n ih =>
    intro x1 x2 h H
    unfold f_X11_brokenMany_4 at H
    refine aw_iload_n dX11_brokenMany_4 rfl 2 rfl ?_
    refine aw_sipush (v := 256) dX11_brokenMany_5 (by decide) ?_
    refine aw_icmp_ge (tgt := 34) dX11_brokenMany_8 (by decide) (fun c1 => ?_) (fun c1 => ?_)
    · replace H := a_pos c1 H
      refine aw_iload_n dX11_brokenMany_34 rfl 1 rfl ?_
      exact aw_iret rfl H dX11_brokenMany_35
    · replace H := a_neg c1 H
      refine aw_iload_n dX11_brokenMany_11 rfl 1 rfl ?_
      refine aw_aload_n dX11_brokenMany_12 rfl 0 rfl ?_
      refine aw_getR cf_X11 7 (by decide) rfl wd_1043 o_k dX11_brokenMany_13 ?_
      refine aw_iload_n dX11_brokenMany_16 rfl 2 rfl ?_
      obtain ⟨z2, H⟩ := H
      refine aw_zaload z2 dX11_brokenMany_17 ?_
      refine aw_name (fun v3 e_v3 => ?_)
      replace H := H v3 e_v3
      refine aw_if_eq (tgt := 25) dX11_brokenMany_18 (by decide) (fun c4 => ?_) (fun c4 => ?_)
      · replace H := a_pos c4 H
        refine aw_iconst (v := 0) dX11_brokenMany_25 (by decide) ?_
        refine aw_iadd dX11_brokenMany_26 ?_
        refine aw_name (fun x1_5 e_x1_5 => ?_)
        replace H := H x1_5 e_x1_5
        refine aw_istore_n (lv' := [(1, .int x1_5), (0, .ref (G.2.1 k)), (2, .int x2)]) dX11_brokenMany_27 rfl (by decide) rfl ?_
        obtain ⟨x2_6, e_x2_6⟩ : ∃ y : Int32, y = x2 + 1 := ⟨_, rfl⟩
        replace H := H x2_6 e_x2_6
        refine aw_iinc (v := x2_6) (lv' := [(2, .int x2_6), (1, .int x1_5), (0, .ref (G.2.1 k))]) dX11_brokenMany_28 (n0 := 2) rfl (by rw [e_x2_6]; rfl) (by decide) rfl ?_
        refine aw_goto (tgt := 4) dX11_brokenMany_31 (by decide) ?_
        refine aw_sub (lv' := [(0, .ref (G.2.1 k)), (1, .int x1_5), (2, .int x2_6)]) [2, 1, 0] rfl ?_
        exact ih _ _ _ H
      · replace H := a_neg c4 H
        refine aw_iconst (v := 1) dX11_brokenMany_21 (by decide) ?_
        refine aw_goto (tgt := 26) dX11_brokenMany_22 (by decide) ?_
        refine aw_iadd dX11_brokenMany_26 ?_
        refine aw_name (fun x1_7 e_x1_7 => ?_)
        replace H := H x1_7 e_x1_7
        refine aw_istore_n (lv' := [(1, .int x1_7), (0, .ref (G.2.1 k)), (2, .int x2)]) dX11_brokenMany_27 rfl (by decide) rfl ?_
        obtain ⟨x2_8, e_x2_8⟩ : ∃ y : Int32, y = x2 + 1 := ⟨_, rfl⟩
        replace H := H x2_8 e_x2_8
        refine aw_iinc (v := x2_8) (lv' := [(2, .int x2_8), (1, .int x1_7), (0, .ref (G.2.1 k))]) dX11_brokenMany_28 (n0 := 2) rfl (by rw [e_x2_8]; rfl) (by decide) rfl ?_
        refine aw_goto (tgt := 4) dX11_brokenMany_31 (by decide) ?_
        refine aw_sub (lv' := [(0, .ref (G.2.1 k)), (1, .int x1_7), (2, .int x2_8)]) [2, 1, 0] rfl ?_
        exact ih _ _ _ H
set_option maxHeartbeats 4000000 in
set_option maxRecDepth 100000 in
theorem am_X11_brokenMany {l : Launch} {S : aS} {G : aG} (d : Nat) {k : Nat} {h : aH} {Q : Int32 → aH → Prop} (o_k : aObj S k 10 flX11) (H : f_X11_brokenMany S k h Q) : AMi l S G d M_X11_brokenMany [.ref (G.2.1 k)] h Q := by
  unfold f_X11_brokenMany at H
  refine am_of mf_X11_brokenMany (Nat.le_of_ble_eq_true rfl) (lv0 := [(0, .ref (G.2.1 k))]) rfl ?_
  refine aw_iconst (v := 0) dX11_brokenMany_0 (by decide) ?_
  refine aw_istore_n (lv' := [(1, .int 0), (0, .ref (G.2.1 k))]) dX11_brokenMany_1 rfl (by decide) rfl ?_
  refine aw_iconst (v := 0) dX11_brokenMany_2 (by decide) ?_
  refine aw_istore_n (lv' := [(2, .int 0), (1, .int 0), (0, .ref (G.2.1 k))]) dX11_brokenMany_3 rfl (by decide) rfl ?_
  refine aw_sub (lv' := [(0, .ref (G.2.1 k)), (1, .int 0), (2, .int 0)]) [2, 1, 0] rfl ?_
  obtain ⟨n1, H⟩ := H
  exact fm_X11_brokenMany_4 d o_k n1 _ _ _ H
set_option maxHeartbeats 4000000 in
set_option maxRecDepth 100000 in
theorem fm_X11_run_51 {l : Launch} {S : aS} {G : aG} (d : Nat) {k : Nat} {a1 : Int32} {a2 : Int32} {Q : Int32 → aH → Prop} (o_k : aObj S k 10 flX11) : ∀ (n : Nat) (x3 : Int32) (x4 : Int32) (h : aH), f_X11_run_51 S k a1 a2 Q n x3 x4 h → AW l S G (d + 12) M_X11_run (va_Qi Q (aPo S G) (aA S G)) 51 [(0, .ref (G.2.1 k)), (1, .int a1), (2, .int a2), (3, .int x3), (4, .int x4)] [] h := by
  intro n
  induction n with
  | zero => intro x3 x4 h H; exact False.elim H
  | succ n ih =>
    intro x3 x4 h H
    unfold f_X11_run_51 at H
    refine aw_iload dX11_run_51 4 rfl ?_
    refine aw_iload_n dX11_run_53 rfl 1 rfl ?_
    refine aw_icmp_ge (tgt := 67) dX11_run_54 (by decide) (fun c1 => ?_) (fun c1 => ?_)
    · replace H := a_pos c1 H
      refine aw_iload_n dX11_run_67 rfl 2 rfl ?_
      refine aw_if_ne (tgt := 80) dX11_run_68 (by decide) (fun c2 => ?_) (fun c2 => ?_)
      · replace H := a_pos c2 H
        refine aw_iload_n dX11_run_80 rfl 2 rfl ?_
        refine aw_iconst (v := 1) dX11_run_81 (by decide) ?_
        refine aw_icmp_ne (tgt := 92) dX11_run_82 (by decide) (fun c3 => ?_) (fun c3 => ?_)
        · replace H := a_pos c3 H
          refine aw_aload_n dX11_run_92 rfl 0 rfl ?_
          refine aw_getR cf_X11 14 (by decide) rfl wd_1050 o_k dX11_run_93 ?_
          refine aw_iload_n dX11_run_96 rfl 2 rfl ?_
          refine aw_bipush (v := 10) dX11_run_97 (by decide) ?_
          refine aw_isub dX11_run_99 ?_
          obtain ⟨z4, H⟩ := H
          refine aw_iaload z4 dX11_run_100 ?_
          refine aw_name (fun v5 e_v5 => ?_)
          replace H := H v5 e_v5
          refine aw_istore (lv' := [(4, .int v5), (0, .ref (G.2.1 k)), (1, .int a1), (2, .int a2), (3, .int x3)]) dX11_run_101 (by decide) rfl ?_
          refine aw_aload_n dX11_run_103 rfl 1 rfl ?_
          refine aw_iconst (v := 0) dX11_run_104 (by decide) ?_
          refine aw_callV_v (As := [.int 0]) (rest := []) (am_X11_putsBack (d + 11) o_k H) mf_X11_putsBack wd_1530 wd_1532 ws_6_1 cf_X11 o_k rfl rfl (Nat.le_of_ble_eq_true rfl) dX11_run_105 (fun h6 H => ?_)
          refine aw_iload dX11_run_108 0 rfl ?_
          exact aw_iret rfl H dX11_run_110
        · replace H := a_neg2 c3 H
          refine aw_aload_n dX11_run_85 rfl 0 rfl ?_
          refine aw_callV_i (As := []) (rest := []) (am_X11_brokenMany (d + 11) o_k H) mf_X11_brokenMany wd_1526 wd_1528 ws_6_0 cf_X11 o_k rfl rfl (Nat.le_of_ble_eq_true rfl) dX11_run_86 (fun r8 h7 H => ?_)
          refine aw_goto (tgt := 101) dX11_run_89 (by decide) ?_
          refine aw_istore (lv' := [(4, .int r8), (0, .ref (G.2.1 k)), (1, .int a1), (2, .int a2), (3, .int x3)]) dX11_run_101 (by decide) rfl ?_
          refine aw_aload_n dX11_run_103 rfl 1 rfl ?_
          refine aw_iconst (v := 0) dX11_run_104 (by decide) ?_
          refine aw_callV_v (As := [.int 0]) (rest := []) (am_X11_putsBack (d + 11) o_k H) mf_X11_putsBack wd_1530 wd_1532 ws_6_1 cf_X11 o_k rfl rfl (Nat.le_of_ble_eq_true rfl) dX11_run_105 (fun h9 H => ?_)
          refine aw_iload dX11_run_108 0 rfl ?_
          exact aw_iret rfl H dX11_run_110
      · replace H := a_neg2 c2 H
        refine aw_aload_n dX11_run_71 rfl 0 rfl ?_
        refine aw_callV_i (As := []) (rest := []) (am_X11_drownedMany (d + 11) o_k H) mf_X11_drownedMany wd_1490 wd_1492 ws_5_9 cf_X11 o_k rfl rfl (Nat.le_of_ble_eq_true rfl) dX11_run_72 (fun r11 h10 H => ?_)
        refine aw_iload_n dX11_run_75 rfl 3 rfl ?_
        refine aw_isub dX11_run_76 ?_
        refine aw_goto (tgt := 101) dX11_run_77 (by decide) ?_
        refine aw_name (fun x4_12 e_x4_12 => ?_)
        replace H := H x4_12 e_x4_12
        refine aw_istore (lv' := [(4, .int x4_12), (0, .ref (G.2.1 k)), (1, .int a1), (2, .int a2), (3, .int x3)]) dX11_run_101 (by decide) rfl ?_
        refine aw_aload_n dX11_run_103 rfl 1 rfl ?_
        refine aw_iconst (v := 0) dX11_run_104 (by decide) ?_
        refine aw_callV_v (As := [.int 0]) (rest := []) (am_X11_putsBack (d + 11) o_k H) mf_X11_putsBack wd_1530 wd_1532 ws_6_1 cf_X11 o_k rfl rfl (Nat.le_of_ble_eq_true rfl) dX11_run_105 (fun h13 H => ?_)
        refine aw_iload dX11_run_108 0 rfl ?_
        exact aw_iret rfl H dX11_run_110
    · replace H := a_neg c1 H
      refine aw_aload_n dX11_run_57 rfl 0 rfl ?_
      refine aw_callV_v (As := []) (rest := []) (am_X11_minuteOne d o_k H) mf_X11_minuteOne wd_1494 wd_1496 ws_5_10 cf_X11 o_k rfl rfl (Nat.le_of_ble_eq_true rfl) dX11_run_58 (fun h14 H => ?_)
      obtain ⟨x4_15, e_x4_15⟩ : ∃ y : Int32, y = x4 + 1 := ⟨_, rfl⟩
      replace H := H x4_15 e_x4_15
      refine aw_iinc (v := x4_15) (lv' := [(4, .int x4_15), (0, .ref (G.2.1 k)), (1, .int a1), (2, .int a2), (3, .int x3)]) dX11_run_61 (n0 := 4) rfl (by rw [e_x4_15]; rfl) (by decide) rfl ?_
      refine aw_goto (tgt := 51) dX11_run_64 (by decide) ?_
      refine aw_sub (lv' := [(0, .ref (G.2.1 k)), (1, .int a1), (2, .int a2), (3, .int x3), (4, .int x4_15)]) [1, 2, 3, 4, 0] rfl ?_
      exact ih _ _ _ H
set_option maxHeartbeats 4000000 in
set_option maxRecDepth 100000 in
theorem am_X11_run {l : Launch} {S : aS} {G : aG} (d : Nat) {k : Nat} {a1 : Int32} {a2 : Int32} {h : aH} {Q : Int32 → aH → Prop} (o_k : aObj S k 10 flX11) (H : f_X11_run S k a1 a2 h Q) : AMi l S G (d + 12) M_X11_run [.ref (G.2.1 k), .int a1, .int a2] h Q := by
  unfold f_X11_run at H
  refine am_of mf_X11_run (Nat.le_of_ble_eq_true rfl) (lv0 := [(0, .ref (G.2.1 k)), (1, .int a1), (2, .int a2)]) rfl ?_
  refine aw_iload_n dX11_run_0 rfl 1 rfl ?_
  refine aw_callS_i (As := [.int a1]) (rest := []) (am_X11_isHour (d + 10) H) mf_X11_isHour wd_1486 wd_1487 rfl rfl (Nat.le_of_ble_eq_true rfl) dX11_run_1 (fun r17 h16 H => ?_)
  refine aw_if_eq (tgt := 36) dX11_run_4 (by decide) (fun c18 => ?_) (fun c18 => ?_)
  · replace H := a_pos c18 H
    refine aw_iconst (v := (-1)) dX11_run_36 (by decide) ?_
    exact aw_iret rfl H dX11_run_37
  · replace H := a_neg c18 H
    refine aw_iload_n dX11_run_7 rfl 2 rfl ?_
    refine aw_i2l dX11_run_8 ?_
    refine aw_lconst (v := 0) dX11_run_9 (by decide) ?_
    refine aw_lconst (v := 1) dX11_run_10 (by decide) ?_
    refine aw_callS_i (As := [.long (a2).toInt64, .long 0, .long 1]) (rest := []) (am_X11_lies (d + 11) H) mf_X11_lies wd_1258 wd_1259 rfl rfl (Nat.le_of_ble_eq_true rfl) dX11_run_11 (fun r20 h19 H => ?_)
    refine aw_if_ne (tgt := 38) dX11_run_14 (by decide) (fun c21 => ?_) (fun c21 => ?_)
    · replace H := a_pos c21 H
      refine aw_aload_n dX11_run_38 rfl 0 rfl ?_
      refine aw_iconst (v := 0) dX11_run_39 (by decide) ?_
      refine aw_callV_v (As := [.int 0]) (rest := []) (am_X11_setsAside (d + 11) o_k H) mf_X11_setsAside wd_1522 wd_1524 ws_5_15 cf_X11 o_k rfl rfl (Nat.le_of_ble_eq_true rfl) dX11_run_40 (fun h22 H => ?_)
      refine aw_aload_n dX11_run_43 rfl 0 rfl ?_
      refine aw_callV_i (As := []) (rest := []) (am_X11_drownedMany (d + 11) o_k H) mf_X11_drownedMany wd_1490 wd_1492 ws_5_9 cf_X11 o_k rfl rfl (Nat.le_of_ble_eq_true rfl) dX11_run_44 (fun r24 h23 H => ?_)
      refine aw_istore_n (lv' := [(3, .int r24), (0, .ref (G.2.1 k)), (1, .int a1), (2, .int a2)]) dX11_run_47 rfl (by decide) rfl ?_
      refine aw_iconst (v := 0) dX11_run_48 (by decide) ?_
      refine aw_istore (lv' := [(4, .int 0), (3, .int r24), (0, .ref (G.2.1 k)), (1, .int a1), (2, .int a2)]) dX11_run_49 (by decide) rfl ?_
      refine aw_sub (lv' := [(0, .ref (G.2.1 k)), (1, .int a1), (2, .int a2), (3, .int r24), (4, .int 0)]) [2, 3, 4, 1, 0] rfl ?_
      obtain ⟨n1, H⟩ := H
      exact fm_X11_run_51 d o_k n1 _ _ _ H
    · replace H := a_neg2 c21 H
      refine aw_iload_n dX11_run_17 rfl 2 rfl ?_
      refine aw_i2l dX11_run_18 ?_
      refine aw_ldc2 (v := 10) dX11_run_19 wd_1521 ?_
      refine aw_bipush (v := 9) dX11_run_22 (by decide) ?_
      refine aw_aload_n dX11_run_24 rfl 0 rfl ?_
      refine aw_getI cf_X11 3 (by decide) rfl wd_1039 o_k dX11_run_25 ?_
      refine aw_name (fun v25 e_v25 => ?_)
      replace H := H v25 e_v25
      refine aw_iadd dX11_run_28 ?_
      refine aw_i2l dX11_run_29 ?_
      refine aw_callS_i (As := [.long (a2).toInt64, .long 10, .long ((9 + v25)).toInt64]) (rest := []) (am_X11_lies (d + 11) H) mf_X11_lies wd_1258 wd_1259 rfl rfl (Nat.le_of_ble_eq_true rfl) dX11_run_30 (fun r27 h26 H => ?_)
      refine aw_if_ne (tgt := 38) dX11_run_33 (by decide) (fun c28 => ?_) (fun c28 => ?_)
      · replace H := a_pos c28 H
        refine aw_aload_n dX11_run_38 rfl 0 rfl ?_
        refine aw_iconst (v := 0) dX11_run_39 (by decide) ?_
        refine aw_callV_v (As := [.int 0]) (rest := []) (am_X11_setsAside (d + 11) o_k H) mf_X11_setsAside wd_1522 wd_1524 ws_5_15 cf_X11 o_k rfl rfl (Nat.le_of_ble_eq_true rfl) dX11_run_40 (fun h29 H => ?_)
        refine aw_aload_n dX11_run_43 rfl 0 rfl ?_
        refine aw_callV_i (As := []) (rest := []) (am_X11_drownedMany (d + 11) o_k H) mf_X11_drownedMany wd_1490 wd_1492 ws_5_9 cf_X11 o_k rfl rfl (Nat.le_of_ble_eq_true rfl) dX11_run_44 (fun r31 h30 H => ?_)
        refine aw_istore_n (lv' := [(3, .int r31), (0, .ref (G.2.1 k)), (1, .int a1), (2, .int a2)]) dX11_run_47 rfl (by decide) rfl ?_
        refine aw_iconst (v := 0) dX11_run_48 (by decide) ?_
        refine aw_istore (lv' := [(4, .int 0), (3, .int r31), (0, .ref (G.2.1 k)), (1, .int a1), (2, .int a2)]) dX11_run_49 (by decide) rfl ?_
        refine aw_sub (lv' := [(0, .ref (G.2.1 k)), (1, .int a1), (2, .int a2), (3, .int r31), (4, .int 0)]) [2, 3, 4, 1, 0] rfl ?_
        obtain ⟨n1, H⟩ := H
        exact fm_X11_run_51 d o_k n1 _ _ _ H
      · replace H := a_neg2 c28 H
        refine aw_iconst (v := (-1)) dX11_run_36 (by decide) ?_
        exact aw_iret rfl H dX11_run_37
set_option maxHeartbeats 4000000 in
set_option maxRecDepth 100000 in
theorem am_X11_square {l : Launch} {S : aS} {G : aG} (d : Nat) {k : Nat} {a1 : Int32} {a2 : Int32} {a3 : Int32} {h : aH} {Q : Int32 → aH → Prop} (o_k : aObj S k 10 flX11) (H : f_X11_square S k a1 a2 a3 h Q) : AMi l S G (d + 10) M_X11_square [.ref (G.2.1 k), .int a1, .int a2, .int a3] h Q := by
  unfold f_X11_square at H
  refine am_of mf_X11_square (Nat.le_of_ble_eq_true rfl) (lv0 := [(0, .ref (G.2.1 k)), (1, .int a1), (2, .int a2), (3, .int a3)]) rfl ?_
  refine aw_iload_n dX11_square_0 rfl 1 rfl ?_
  refine aw_iload_n dX11_square_1 rfl 2 rfl ?_
  refine aw_callS_i (As := [.int a1, .int a2]) (rest := []) (am_X11_isSquare (d + 7) H) mf_X11_isSquare wd_1251 wd_1252 rfl rfl (Nat.le_of_ble_eq_true rfl) dX11_square_2 (fun r2 h1 H => ?_)
  refine aw_if_eq (tgt := 20) dX11_square_5 (by decide) (fun c3 => ?_) (fun c3 => ?_)
  · replace H := a_pos c3 H
    refine aw_iconst (v := (-1)) dX11_square_20 (by decide) ?_
    exact aw_iret rfl H dX11_square_21
  · replace H := a_neg c3 H
    refine aw_iload_n dX11_square_8 rfl 3 rfl ?_
    refine aw_i2l dX11_square_9 ?_
    refine aw_lconst (v := 0) dX11_square_10 (by decide) ?_
    refine aw_ldc2 (v := 5) dX11_square_11 wd_1538 ?_
    refine aw_callS_i (As := [.long (a3).toInt64, .long 0, .long 5]) (rest := []) (am_X11_lies (d + 9) H) mf_X11_lies wd_1258 wd_1259 rfl rfl (Nat.le_of_ble_eq_true rfl) dX11_square_14 (fun r5 h4 H => ?_)
    refine aw_if_ne (tgt := 22) dX11_square_17 (by decide) (fun c6 => ?_) (fun c6 => ?_)
    · replace H := a_pos c6 H
      refine aw_bipush (v := 16) dX11_square_22 (by decide) ?_
      refine aw_iload_n dX11_square_24 rfl 2 rfl ?_
      refine aw_imul dX11_square_25 ?_
      refine aw_iload_n dX11_square_26 rfl 1 rfl ?_
      refine aw_iadd dX11_square_27 ?_
      refine aw_name (fun x4_7 e_x4_7 => ?_)
      replace H := H x4_7 e_x4_7
      refine aw_istore (lv' := [(4, .int x4_7), (0, .ref (G.2.1 k)), (1, .int a1), (2, .int a2), (3, .int a3)]) dX11_square_28 (by decide) rfl ?_
      refine aw_iload_n dX11_square_30 rfl 4 rfl ?_
      by_cases c8_0 : a3 = 0
      · replace H := a_pos c8_0 H
        refine aw_tableIn (off := 33) (tgt := 64) dX11_square_31 (by rw [c8_0]; decide) (by rw [c8_0]; decide) (by rw [c8_0]; decide) (by decide) ?_
        refine aw_aload_n dX11_square_64 rfl 1 rfl ?_
        refine aw_getR cf_X11 6 (by decide) rfl wd_1042 o_k dX11_square_65 ?_
        refine aw_iload dX11_square_68 0 rfl ?_
        obtain ⟨z9, H⟩ := H
        refine aw_iaload z9 dX11_square_70 ?_
        refine aw_name (fun v10 e_v10 => ?_)
        replace H := H v10 e_v10
        exact aw_iret rfl H dX11_square_71
      · replace H := a_neg c8_0 H
        by_cases c8_1 : a3 = 1
        · replace H := a_pos c8_1 H
          refine aw_tableIn (off := 41) (tgt := 72) dX11_square_31 (by rw [c8_1]; decide) (by rw [c8_1]; decide) (by rw [c8_1]; decide) (by decide) ?_
          refine aw_aload_n dX11_square_72 rfl 1 rfl ?_
          refine aw_getR cf_X11 7 (by decide) rfl wd_1043 o_k dX11_square_73 ?_
          refine aw_iload dX11_square_76 0 rfl ?_
          obtain ⟨z11, H⟩ := H
          refine aw_zaload z11 dX11_square_78 ?_
          refine aw_name (fun v12 e_v12 => ?_)
          replace H := H v12 e_v12
          refine aw_if_eq (tgt := 86) dX11_square_79 (by decide) (fun c13 => ?_) (fun c13 => ?_)
          · replace H := a_pos c13 H
            refine aw_aload_n dX11_square_86 rfl 1 rfl ?_
            refine aw_getR cf_X11 8 (by decide) rfl wd_1044 o_k dX11_square_87 ?_
            refine aw_iload dX11_square_90 0 rfl ?_
            obtain ⟨z14, H⟩ := H
            refine aw_iaload z14 dX11_square_92 ?_
            refine aw_name (fun v15 e_v15 => ?_)
            replace H := H v15 e_v15
            refine aw_iconst (v := (-1)) dX11_square_93 (by decide) ?_
            refine aw_icmp_eq (tgt := 101) dX11_square_94 (by decide) (fun c16 => ?_) (fun c16 => ?_)
            · replace H := a_pos c16 H
              refine aw_iconst (v := 0) dX11_square_101 (by decide) ?_
              exact aw_iret rfl H dX11_square_102
            · replace H := a_neg c16 H
              refine aw_iconst (v := 2) dX11_square_97 (by decide) ?_
              refine aw_goto (tgt := 102) dX11_square_98 (by decide) ?_
              exact aw_iret rfl H dX11_square_102
          · replace H := a_neg c13 H
            refine aw_iconst (v := 1) dX11_square_82 (by decide) ?_
            refine aw_goto (tgt := 102) dX11_square_83 (by decide) ?_
            exact aw_iret rfl H dX11_square_102
        · replace H := a_neg c8_1 H
          by_cases c8_2 : a3 = 2
          · replace H := a_pos c8_2 H
            refine aw_tableIn (off := 72) (tgt := 103) dX11_square_31 (by rw [c8_2]; decide) (by rw [c8_2]; decide) (by rw [c8_2]; decide) (by decide) ?_
            refine aw_aload_n dX11_square_103 rfl 1 rfl ?_
            refine aw_iload dX11_square_104 0 rfl ?_
            refine aw_callV_i (As := [.int x4_7]) (rest := []) (am_X11_bears d o_k H) mf_X11_bears wd_1470 wd_1472 ws_5_6 cf_X11 o_k rfl rfl (Nat.le_of_ble_eq_true rfl) dX11_square_106 (fun r18 h17 H => ?_)
            exact aw_iret rfl H dX11_square_109
          · replace H := a_neg c8_2 H
            by_cases c8_3 : a3 = 3
            · replace H := a_pos c8_3 H
              refine aw_tableIn (off := 79) (tgt := 110) dX11_square_31 (by rw [c8_3]; decide) (by rw [c8_3]; decide) (by rw [c8_3]; decide) (by decide) ?_
              refine aw_aload_n dX11_square_110 rfl 1 rfl ?_
              refine aw_iload dX11_square_111 0 rfl ?_
              refine aw_callV_i (As := [.int x4_7]) (rest := []) (am_X11_carriedOn (d + 9) o_k H) mf_X11_carriedOn wd_1466 wd_1468 ws_5_5 cf_X11 o_k rfl rfl (Nat.le_of_ble_eq_true rfl) dX11_square_113 (fun r20 h19 H => ?_)
              exact aw_iret rfl H dX11_square_116
            · replace H := a_neg c8_3 H
              by_cases c8_4 : a3 = 4
              · replace H := a_pos c8_4 H
                refine aw_tableIn (off := 86) (tgt := 117) dX11_square_31 (by rw [c8_4]; decide) (by rw [c8_4]; decide) (by rw [c8_4]; decide) (by decide) ?_
                refine aw_aload_n dX11_square_117 rfl 1 rfl ?_
                refine aw_iload dX11_square_118 0 rfl ?_
                refine aw_callV_i (As := [.int x4_7]) (rest := []) (am_X11_gapsOf (d + 5) o_k H) mf_X11_gapsOf wd_1409 wd_1411 ws_4_12 cf_X11 o_k rfl rfl (Nat.le_of_ble_eq_true rfl) dX11_square_120 (fun r22 h21 H => ?_)
                exact aw_iret rfl H dX11_square_123
              · replace H := a_neg c8_4 H
                have t0 := a_ne (n := 0) (v := 0) (by decide) c8_0
                have t1 := a_ne (n := 1) (v := 1) (by decide) c8_1
                have t2 := a_ne (n := 2) (v := 2) (by decide) c8_2
                have t3 := a_ne (n := 3) (v := 3) (by decide) c8_3
                have t4 := a_ne (n := 4) (v := 4) (by decide) c8_4
                refine aw_tableOut (tgt := 124) dX11_square_31 (by omega) (by decide) ?_
                refine aw_aload_n dX11_square_124 rfl 1 rfl ?_
                refine aw_iload dX11_square_125 0 rfl ?_
                refine aw_callV_i (As := [.int x4_7]) (rest := []) (am_X11_warmthOf (d + 5) o_k H) mf_X11_warmthOf wd_1416 wd_1418 ws_4_13 cf_X11 o_k rfl rfl (Nat.le_of_ble_eq_true rfl) dX11_square_127 (fun r24 h23 H => ?_)
                exact aw_iret rfl H dX11_square_130
    · replace H := a_neg2 c6 H
      refine aw_iconst (v := (-1)) dX11_square_20 (by decide) ?_
      exact aw_iret rfl H dX11_square_21
