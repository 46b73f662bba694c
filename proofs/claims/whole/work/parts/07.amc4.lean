set_option maxHeartbeats 4000000 in
set_option maxRecDepth 100000 in
theorem fm_X4_piece_110 {l : Launch} {S : aS} {G : aG} (d : Nat) {k : Nat} {a1 : Int32} {Q : aH → Prop} {F_X4_piece : Nat → Int32 → aH → (aH → Prop) → Prop} {F_X4_condition : Nat → Int32 → aH → (aH → Prop) → Prop} {F_X4_expression : Nat → Int32 → aH → (aH → Prop) → Prop} (hF_X4_piece : ∀ {k : Nat} {a1 : Int32} {h : aH} {Q : aH → Prop}, aObj S k 3 flX4 → F_X4_piece k a1 h Q → AMv l S G (d + 1) M_X4_piece [.ref (G.2.1 k), .int a1] h Q) (hF_X4_condition : ∀ {k : Nat} {a1 : Int32} {h : aH} {Q : aH → Prop}, aObj S k 3 flX4 → F_X4_condition k a1 h Q → AMv l S G (d + 1) M_X4_condition [.ref (G.2.1 k), .int a1] h Q) (hF_X4_expression : ∀ {k : Nat} {a1 : Int32} {h : aH} {Q : aH → Prop}, aObj S k 3 flX4 → F_X4_expression k a1 h Q → AMv l S G (d + 1) M_X4_expression [.ref (G.2.1 k), .int a1] h Q) (o_k : aObj S k 3 flX4) (x3 : Int32) (h : aH) (H : f_X4_piece_110 F_X4_piece F_X4_condition F_X4_expression S k a1 Q x3 h) : AW l S G (d + 2) M_X4_piece (va_Qv Q (aPo S G) (aA S G)) 110 [(0, .ref (G.2.1 k)), (1, .int a1), (3, .int x3)] [] h := by
  unfold f_X4_piece_110 at H
  refine aw_aload_n dX4_piece_110 rfl 0 rfl ?_
  refine aw_getI cf_X4 4 (by decide) rfl wd_219 o_k dX4_piece_111 ?_
  refine aw_name (fun v1 e_v1 => ?_)
  replace H := H v1 e_v1
  refine aw_if_ne (tgt := 142) dX4_piece_114 (by decide) (fun c2 => ?_) (fun c2 => ?_)
  · replace H := a_pos c2 H
    exact aw_vret rfl H dX4_piece_142
  · replace H := a_neg2 c2 H
    refine aw_aload_n dX4_piece_117 rfl 0 rfl ?_
    refine aw_dup dX4_piece_118 rfl ?_
    refine aw_getI cf_X4 3 (by decide) rfl wd_218 o_k dX4_piece_119 ?_
    refine aw_name (fun v3 e_v3 => ?_)
    replace H := H v3 e_v3
    refine aw_iconst (v := 1) dX4_piece_122 (by decide) ?_
    refine aw_iadd dX4_piece_123 ?_
    refine aw_putI cf_X4 3 (by decide) rfl wd_218 rfl rfl rfl o_k dX4_piece_124 ?_
    refine aw_nameH (fun h4 e_h4 => ?_)
    replace H := H h4 e_h4
    refine aw_aload_n dX4_piece_127 rfl 0 rfl ?_
    refine aw_iload_n dX4_piece_128 rfl 1 rfl ?_
    refine aw_callV_v (As := [.int a1]) (rest := []) (hF_X4_expression o_k H) mf_X4_expression wd_414 wd_416 ws_1_4 cf_X4 o_k rfl rfl (Nat.le_of_ble_eq_true rfl) dX4_piece_129 (fun h5 H => ?_)
    refine aw_aload_n dX4_piece_132 rfl 0 rfl ?_
    refine aw_getR cf_X4 1 (by decide) rfl wd_216 o_k dX4_piece_133 ?_
    refine aw_iload_n dX4_piece_136 rfl 2 rfl ?_
    refine aw_iconst (v := 0) dX4_piece_137 (by decide) ?_
    obtain ⟨o6, H⟩ := H
    refine aw_callV_i (As := [.int x3, .int 0]) (rest := []) (am_X3_put (d + 1) o6 H) mf_X3_put wd_429 wd_430 wd_431 cf_X3 o6 rfl rfl (Nat.le_of_ble_eq_true rfl) dX4_piece_138 (fun r8 h7 H => ?_)
    refine aw_pop dX4_piece_141 rfl ?_
    exact aw_vret rfl H dX4_piece_142
set_option maxHeartbeats 4000000 in
set_option maxRecDepth 100000 in
theorem fm_X4_piece_77 {l : Launch} {S : aS} {G : aG} (d : Nat) {k : Nat} {a1 : Int32} {Q : aH → Prop} {F_X4_piece : Nat → Int32 → aH → (aH → Prop) → Prop} {F_X4_condition : Nat → Int32 → aH → (aH → Prop) → Prop} {F_X4_expression : Nat → Int32 → aH → (aH → Prop) → Prop} (hF_X4_piece : ∀ {k : Nat} {a1 : Int32} {h : aH} {Q : aH → Prop}, aObj S k 3 flX4 → F_X4_piece k a1 h Q → AMv l S G (d + 1) M_X4_piece [.ref (G.2.1 k), .int a1] h Q) (hF_X4_condition : ∀ {k : Nat} {a1 : Int32} {h : aH} {Q : aH → Prop}, aObj S k 3 flX4 → F_X4_condition k a1 h Q → AMv l S G (d + 1) M_X4_condition [.ref (G.2.1 k), .int a1] h Q) (hF_X4_expression : ∀ {k : Nat} {a1 : Int32} {h : aH} {Q : aH → Prop}, aObj S k 3 flX4 → F_X4_expression k a1 h Q → AMv l S G (d + 1) M_X4_expression [.ref (G.2.1 k), .int a1] h Q) (o_k : aObj S k 3 flX4)  (h : aH) (H : f_X4_piece_77 F_X4_piece F_X4_condition F_X4_expression S k a1 Q  h) : AW l S G (d + 2) M_X4_piece (va_Qv Q (aPo S G) (aA S G)) 77 [(0, .ref (G.2.1 k)), (1, .int a1)] [] h := by
  unfold f_X4_piece_77 at H
  refine aw_aload_n dX4_piece_77 rfl 0 rfl ?_
  refine aw_iload_n dX4_piece_78 rfl 1 rfl ?_
  refine aw_callV_v (As := [.int a1]) (rest := []) (hF_X4_expression o_k H) mf_X4_expression wd_414 wd_416 ws_1_4 cf_X4 o_k rfl rfl (Nat.le_of_ble_eq_true rfl) dX4_piece_79 (fun h9 H => ?_)
  refine aw_aload_n dX4_piece_82 rfl 0 rfl ?_
  refine aw_callV_i (As := []) (rest := []) (am_X4_next (d + 1) o_k H) mf_X4_next wd_402 wd_404 ws_1_2 cf_X4 o_k rfl rfl (Nat.le_of_ble_eq_true rfl) dX4_piece_83 (fun r11 h10 H => ?_)
  refine aw_istore_n (lv' := [(3, .int r11), (0, .ref (G.2.1 k)), (1, .int a1)]) dX4_piece_86 rfl (by decide) rfl ?_
  refine aw_iload_n dX4_piece_87 rfl 0 rfl ?_
  refine aw_bipush (v := 60) dX4_piece_88 (by decide) ?_
  refine aw_icmp_eq (tgt := 110) dX4_piece_90 (by decide) (fun c12 => ?_) (fun c12 => ?_)
  · replace H := a_pos c12 H
    refine aw_sub (lv' := [(0, .ref (G.2.1 k)), (1, .int a1), (3, .int r11)]) [1, 2, 0] rfl ?_
    exact fm_X4_piece_110 d hF_X4_piece hF_X4_condition hF_X4_expression o_k _ _ H
  · replace H := a_neg c12 H
    refine aw_iload_n dX4_piece_93 rfl 0 rfl ?_
    refine aw_bipush (v := 62) dX4_piece_94 (by decide) ?_
    refine aw_icmp_eq (tgt := 110) dX4_piece_96 (by decide) (fun c13 => ?_) (fun c13 => ?_)
    · replace H := a_pos c13 H
      refine aw_sub (lv' := [(0, .ref (G.2.1 k)), (1, .int a1), (3, .int r11)]) [1, 2, 0] rfl ?_
      exact fm_X4_piece_110 d hF_X4_piece hF_X4_condition hF_X4_expression o_k _ _ H
    · replace H := a_neg c13 H
      refine aw_iload_n dX4_piece_99 rfl 0 rfl ?_
      refine aw_bipush (v := 61) dX4_piece_100 (by decide) ?_
      refine aw_icmp_eq (tgt := 110) dX4_piece_102 (by decide) (fun c14 => ?_) (fun c14 => ?_)
      · replace H := a_pos c14 H
        refine aw_sub (lv' := [(0, .ref (G.2.1 k)), (1, .int a1), (3, .int r11)]) [1, 2, 0] rfl ?_
        exact fm_X4_piece_110 d hF_X4_piece hF_X4_condition hF_X4_expression o_k _ _ H
      · replace H := a_neg c14 H
        refine aw_aload_n dX4_piece_105 rfl 1 rfl ?_
        refine aw_iconst (v := 1) dX4_piece_106 (by decide) ?_
        refine aw_callV_v (As := [.int 1]) (rest := []) (am_X4_blame (d + 1) o_k H) mf_X4_blame wd_406 wd_408 ws_1_3 cf_X4 o_k rfl rfl (Nat.le_of_ble_eq_true rfl) dX4_piece_107 (fun h15 H => ?_)
        refine aw_sub (lv' := [(0, .ref (G.2.1 k)), (1, .int a1), (3, .int r11)]) [1, 2, 0] rfl ?_
        exact fm_X4_piece_110 d hF_X4_piece hF_X4_condition hF_X4_expression o_k _ _ H
set_option maxHeartbeats 4000000 in
set_option maxRecDepth 100000 in
theorem fm_X4_piece_47 {l : Launch} {S : aS} {G : aG} (d : Nat) {k : Nat} {a1 : Int32} {Q : aH → Prop} {F_X4_piece : Nat → Int32 → aH → (aH → Prop) → Prop} {F_X4_condition : Nat → Int32 → aH → (aH → Prop) → Prop} {F_X4_expression : Nat → Int32 → aH → (aH → Prop) → Prop} (hF_X4_piece : ∀ {k : Nat} {a1 : Int32} {h : aH} {Q : aH → Prop}, aObj S k 3 flX4 → F_X4_piece k a1 h Q → AMv l S G (d + 1) M_X4_piece [.ref (G.2.1 k), .int a1] h Q) (hF_X4_condition : ∀ {k : Nat} {a1 : Int32} {h : aH} {Q : aH → Prop}, aObj S k 3 flX4 → F_X4_condition k a1 h Q → AMv l S G (d + 1) M_X4_condition [.ref (G.2.1 k), .int a1] h Q) (hF_X4_expression : ∀ {k : Nat} {a1 : Int32} {h : aH} {Q : aH → Prop}, aObj S k 3 flX4 → F_X4_expression k a1 h Q → AMv l S G (d + 1) M_X4_expression [.ref (G.2.1 k), .int a1] h Q) (o_k : aObj S k 3 flX4) (x2 : Int32) (h : aH) (H : f_X4_piece_47 F_X4_piece F_X4_condition F_X4_expression S k a1 Q x2 h) : AW l S G (d + 2) M_X4_piece (va_Qv Q (aPo S G) (aA S G)) 47 [(0, .ref (G.2.1 k)), (1, .int a1), (2, .int x2)] [] h := by
  unfold f_X4_piece_47 at H
  refine aw_iload_n dX4_piece_47 rfl 2 rfl ?_
  refine aw_bipush (v := 40) dX4_piece_48 (by decide) ?_
  refine aw_icmp_ne (tgt := 77) dX4_piece_50 (by decide) (fun c16 => ?_) (fun c16 => ?_)
  · replace H := a_pos c16 H
    refine aw_sub (lv' := [(0, .ref (G.2.1 k)), (1, .int a1)]) [0, 1] rfl ?_
    exact fm_X4_piece_77 d hF_X4_piece hF_X4_condition hF_X4_expression o_k _ H
  · replace H := a_neg2 c16 H
    refine aw_aload_n dX4_piece_53 rfl 0 rfl ?_
    refine aw_iload_n dX4_piece_54 rfl 1 rfl ?_
    refine aw_callV_i (As := [.int a1]) (rest := []) (am_X4_enter d o_k H) mf_X4_enter wd_433 wd_435 ws_1_7 cf_X4 o_k rfl rfl (Nat.le_of_ble_eq_true rfl) dX4_piece_55 (fun r18 h17 H => ?_)
    refine aw_if_eq (tgt := 77) dX4_piece_58 (by decide) (fun c19 => ?_) (fun c19 => ?_)
    · replace H := a_pos c19 H
      refine aw_sub (lv' := [(0, .ref (G.2.1 k)), (1, .int a1)]) [0, 1] rfl ?_
      exact fm_X4_piece_77 d hF_X4_piece hF_X4_condition hF_X4_expression o_k _ H
    · replace H := a_neg c19 H
      refine aw_aload_n dX4_piece_61 rfl 0 rfl ?_
      refine aw_iload_n dX4_piece_62 rfl 1 rfl ?_
      refine aw_iconst (v := 1) dX4_piece_63 (by decide) ?_
      refine aw_iadd dX4_piece_64 ?_
      refine aw_callV_v (As := [.int (a1 + 1)]) (rest := []) (hF_X4_condition o_k H) mf_X4_condition wd_536 wd_538 ws_1_10 cf_X4 o_k rfl rfl (Nat.le_of_ble_eq_true rfl) dX4_piece_65 (fun h20 H => ?_)
      refine aw_aload_n dX4_piece_68 rfl 0 rfl ?_
      refine aw_bipush (v := 41) dX4_piece_69 (by decide) ?_
      refine aw_callV_v (As := [.int 41]) (rest := []) (am_X4_take d o_k H) mf_X4_take wd_437 wd_439 ws_1_8 cf_X4 o_k rfl rfl (Nat.le_of_ble_eq_true rfl) dX4_piece_71 (fun h21 H => ?_)
      refine aw_goto (tgt := 142) dX4_piece_74 (by decide) ?_
      exact aw_vret rfl H dX4_piece_142
set_option maxHeartbeats 4000000 in
set_option maxRecDepth 100000 in
theorem am_X4_piece {l : Launch} {S : aS} {G : aG} (d : Nat) {k : Nat} {a1 : Int32} {h : aH} {Q : aH → Prop} {F_X4_piece : Nat → Int32 → aH → (aH → Prop) → Prop} {F_X4_condition : Nat → Int32 → aH → (aH → Prop) → Prop} {F_X4_expression : Nat → Int32 → aH → (aH → Prop) → Prop} (hF_X4_piece : ∀ {k : Nat} {a1 : Int32} {h : aH} {Q : aH → Prop}, aObj S k 3 flX4 → F_X4_piece k a1 h Q → AMv l S G (d + 1) M_X4_piece [.ref (G.2.1 k), .int a1] h Q) (hF_X4_condition : ∀ {k : Nat} {a1 : Int32} {h : aH} {Q : aH → Prop}, aObj S k 3 flX4 → F_X4_condition k a1 h Q → AMv l S G (d + 1) M_X4_condition [.ref (G.2.1 k), .int a1] h Q) (hF_X4_expression : ∀ {k : Nat} {a1 : Int32} {h : aH} {Q : aH → Prop}, aObj S k 3 flX4 → F_X4_expression k a1 h Q → AMv l S G (d + 1) M_X4_expression [.ref (G.2.1 k), .int a1] h Q) (o_k : aObj S k 3 flX4) (H : f_X4_piece F_X4_piece F_X4_condition F_X4_expression S k a1 h Q) : AMv l S G (d + 2) M_X4_piece [.ref (G.2.1 k), .int a1] h Q := by
  unfold f_X4_piece at H
  refine am_of mf_X4_piece (Nat.le_of_ble_eq_true rfl) (lv0 := [(0, .ref (G.2.1 k)), (1, .int a1)]) rfl ?_
  refine aw_aload_n dX4_piece_0 rfl 0 rfl ?_
  refine aw_getI cf_X4 4 (by decide) rfl wd_219 o_k dX4_piece_1 ?_
  refine aw_name (fun v22 e_v22 => ?_)
  replace H := H v22 e_v22
  refine aw_if_eq (tgt := 8) dX4_piece_4 (by decide) (fun c23 => ?_) (fun c23 => ?_)
  · replace H := a_pos c23 H
    refine aw_aload_n dX4_piece_8 rfl 0 rfl ?_
    refine aw_callV_i (As := []) (rest := []) (am_X4_next (d + 1) o_k H) mf_X4_next wd_402 wd_404 ws_1_2 cf_X4 o_k rfl rfl (Nat.le_of_ble_eq_true rfl) dX4_piece_9 (fun r25 h24 H => ?_)
    refine aw_istore_n (lv' := [(2, .int r25), (0, .ref (G.2.1 k)), (1, .int a1)]) dX4_piece_12 rfl (by decide) rfl ?_
    refine aw_iload_n dX4_piece_13 rfl 0 rfl ?_
    refine aw_bipush (v := 33) dX4_piece_14 (by decide) ?_
    refine aw_icmp_ne (tgt := 47) dX4_piece_16 (by decide) (fun c26 => ?_) (fun c26 => ?_)
    · replace H := a_pos c26 H
      refine aw_sub (lv' := [(0, .ref (G.2.1 k)), (1, .int a1), (2, .int r25)]) [1, 2, 0] rfl ?_
      exact fm_X4_piece_47 d hF_X4_piece hF_X4_condition hF_X4_expression o_k _ _ H
    · replace H := a_neg2 c26 H
      refine aw_aload_n dX4_piece_19 rfl 1 rfl ?_
      refine aw_iload_n dX4_piece_20 rfl 2 rfl ?_
      refine aw_callV_i (As := [.int a1]) (rest := []) (am_X4_enter d o_k H) mf_X4_enter wd_433 wd_435 ws_1_7 cf_X4 o_k rfl rfl (Nat.le_of_ble_eq_true rfl) dX4_piece_21 (fun r28 h27 H => ?_)
      refine aw_if_eq (tgt := 47) dX4_piece_24 (by decide) (fun c29 => ?_) (fun c29 => ?_)
      · replace H := a_pos c29 H
        refine aw_sub (lv' := [(0, .ref (G.2.1 k)), (1, .int a1), (2, .int r25)]) [1, 2, 0] rfl ?_
        exact fm_X4_piece_47 d hF_X4_piece hF_X4_condition hF_X4_expression o_k _ _ H
      · replace H := a_neg c29 H
        refine aw_aload_n dX4_piece_27 rfl 1 rfl ?_
        refine aw_iload_n dX4_piece_28 rfl 2 rfl ?_
        refine aw_iconst (v := 1) dX4_piece_29 (by decide) ?_
        refine aw_iadd dX4_piece_30 ?_
        refine aw_callV_v (As := [.int (a1 + 1)]) (rest := []) (hF_X4_piece o_k H) mf_X4_piece wd_540 wd_542 ws_1_11 cf_X4 o_k rfl rfl (Nat.le_of_ble_eq_true rfl) dX4_piece_31 (fun h30 H => ?_)
        refine aw_aload_n dX4_piece_34 rfl 1 rfl ?_
        refine aw_getR cf_X4 1 (by decide) rfl wd_216 o_k dX4_piece_35 ?_
        refine aw_iconst (v := 3) dX4_piece_38 (by decide) ?_
        refine aw_iconst (v := 0) dX4_piece_39 (by decide) ?_
        obtain ⟨o31, H⟩ := H
        refine aw_callV_i (As := [.int 3, .int 0]) (rest := []) (am_X3_put (d + 1) o31 H) mf_X3_put wd_429 wd_430 wd_431 cf_X3 o31 rfl rfl (Nat.le_of_ble_eq_true rfl) dX4_piece_40 (fun r33 h32 H => ?_)
        refine aw_pop dX4_piece_43 rfl ?_
        refine aw_goto (tgt := 142) dX4_piece_44 (by decide) ?_
        exact aw_vret rfl H dX4_piece_142
  · replace H := a_neg c23 H
    exact aw_vret rfl H dX4_piece_7
set_option maxHeartbeats 4000000 in
set_option maxRecDepth 100000 in
theorem fm_X4_expression_44 {l : Launch} {S : aS} {G : aG} (d : Nat) {k : Nat} {a1 : Int32} {Q : aH → Prop} {F_X4_factor : Nat → Int32 → aH → (aH → Prop) → Prop} (hF_X4_factor : ∀ {k : Nat} {a1 : Int32} {h : aH} {Q : aH → Prop}, aObj S k 3 flX4 → F_X4_factor k a1 h Q → AMv l S G d M_X4_factor [.ref (G.2.1 k), .int a1] h Q) (o_k : aObj S k 3 flX4) {K9 : Int32 → Int32 → aH → Prop} (hK9 : ∀ (x2 : Int32) (x3 : Int32) (h : aH), K9 x2 x3 h → AW l S G (d + 1) M_X4_expression (va_Qv Q (aPo S G) (aA S G)) 9 [(0, .ref (G.2.1 k)), (1, .int a1), (2, .int x2), (3, .int x3)] [] h) (x2 : Int32) (x3 : Int32) (x4 : Int32) (h : aH) (H : f_X4_expression_44 F_X4_factor S k a1 Q K9 x2 x3 x4 h) : AW l S G (d + 1) M_X4_expression (va_Qv Q (aPo S G) (aA S G)) 44 [(0, .ref (G.2.1 k)), (1, .int a1), (2, .int x2), (3, .int x3), (4, .int x4)] [] h := by
  unfold f_X4_expression_44 at H
  refine aw_iload_n dX4_expression_44 rfl 2 rfl ?_
  refine aw_iconst (v := (-1)) dX4_expression_45 (by decide) ?_
  refine aw_icmp_eq (tgt := 59) dX4_expression_46 (by decide) (fun c1 => ?_) (fun c1 => ?_)
  · replace H := a_pos c1 H
    refine aw_iload dX4_expression_59 4 rfl ?_
    refine aw_istore_n (lv' := [(2, .int x4), (0, .ref (G.2.1 k)), (1, .int a1), (3, .int x3), (4, .int x4)]) dX4_expression_61 rfl (by decide) rfl ?_
    refine aw_aload_n dX4_expression_62 rfl 1 rfl ?_
    refine aw_dup dX4_expression_63 rfl ?_
    refine aw_getI cf_X4 3 (by decide) rfl wd_218 o_k dX4_expression_64 ?_
    refine aw_name (fun v2 e_v2 => ?_)
    replace H := H v2 e_v2
    refine aw_iconst (v := 1) dX4_expression_67 (by decide) ?_
    refine aw_iadd dX4_expression_68 ?_
    refine aw_putI cf_X4 3 (by decide) rfl wd_218 rfl rfl rfl o_k dX4_expression_69 ?_
    refine aw_nameH (fun h3 e_h3 => ?_)
    replace H := H h3 e_h3
    refine aw_aload_n dX4_expression_72 rfl 1 rfl ?_
    refine aw_iload_n dX4_expression_73 rfl 2 rfl ?_
    refine aw_callV_v (As := [.int a1]) (rest := []) (hF_X4_factor o_k H) mf_X4_factor wd_418 wd_420 ws_1_5 cf_X4 o_k rfl rfl (Nat.le_of_ble_eq_true rfl) dX4_expression_74 (fun h4 H => ?_)
    refine aw_goto (tgt := 127) dX4_expression_77 (by decide) ?_
    obtain ⟨x3_5, e_x3_5⟩ : ∃ y : Int32, y = x3 + 1 := ⟨_, rfl⟩
    replace H := H x3_5 e_x3_5
    refine aw_iinc (v := x3_5) (lv' := [(3, .int x3_5), (2, .int x4), (0, .ref (G.2.1 k)), (1, .int a1), (4, .int x4)]) dX4_expression_127 (n0 := 3) rfl (by rw [e_x3_5]; rfl) (by decide) rfl ?_
    refine aw_goto (tgt := 9) dX4_expression_130 (by decide) ?_
    refine aw_sub (lv' := [(0, .ref (G.2.1 k)), (1, .int a1), (2, .int x4), (3, .int x3_5)]) [2, 3, 1, 0] rfl ?_
    exact hK9 _ _ _ H
  · replace H := a_neg c1 H
    refine aw_aload_n dX4_expression_49 rfl 0 rfl ?_
    refine aw_getR cf_X4 1 (by decide) rfl wd_216 o_k dX4_expression_50 ?_
    refine aw_iload_n dX4_expression_53 rfl 2 rfl ?_
    refine aw_iconst (v := 0) dX4_expression_54 (by decide) ?_
    obtain ⟨o6, H⟩ := H
    refine aw_callV_i (As := [.int x2, .int 0]) (rest := []) (am_X3_put d o6 H) mf_X3_put wd_429 wd_430 wd_431 cf_X3 o6 rfl rfl (Nat.le_of_ble_eq_true rfl) dX4_expression_55 (fun r8 h7 H => ?_)
    refine aw_pop dX4_expression_58 rfl ?_
    refine aw_iload dX4_expression_59 4 rfl ?_
    refine aw_istore_n (lv' := [(2, .int x4), (0, .ref (G.2.1 k)), (1, .int a1), (3, .int x3), (4, .int x4)]) dX4_expression_61 rfl (by decide) rfl ?_
    refine aw_aload_n dX4_expression_62 rfl 1 rfl ?_
    refine aw_dup dX4_expression_63 rfl ?_
    refine aw_getI cf_X4 3 (by decide) rfl wd_218 o_k dX4_expression_64 ?_
    refine aw_name (fun v9 e_v9 => ?_)
    replace H := H v9 e_v9
    refine aw_iconst (v := 1) dX4_expression_67 (by decide) ?_
    refine aw_iadd dX4_expression_68 ?_
    refine aw_putI cf_X4 3 (by decide) rfl wd_218 rfl rfl rfl o_k dX4_expression_69 ?_
    refine aw_nameH (fun h10 e_h10 => ?_)
    replace H := H h10 e_h10
    refine aw_aload_n dX4_expression_72 rfl 1 rfl ?_
    refine aw_iload_n dX4_expression_73 rfl 2 rfl ?_
    refine aw_callV_v (As := [.int a1]) (rest := []) (hF_X4_factor o_k H) mf_X4_factor wd_418 wd_420 ws_1_5 cf_X4 o_k rfl rfl (Nat.le_of_ble_eq_true rfl) dX4_expression_74 (fun h11 H => ?_)
    refine aw_goto (tgt := 127) dX4_expression_77 (by decide) ?_
    obtain ⟨x3_12, e_x3_12⟩ : ∃ y : Int32, y = x3 + 1 := ⟨_, rfl⟩
    replace H := H x3_12 e_x3_12
    refine aw_iinc (v := x3_12) (lv' := [(3, .int x3_12), (2, .int x4), (0, .ref (G.2.1 k)), (1, .int a1), (4, .int x4)]) dX4_expression_127 (n0 := 3) rfl (by rw [e_x3_12]; rfl) (by decide) rfl ?_
    refine aw_goto (tgt := 9) dX4_expression_130 (by decide) ?_
    refine aw_sub (lv' := [(0, .ref (G.2.1 k)), (1, .int a1), (2, .int x4), (3, .int x3_12)]) [2, 3, 1, 0] rfl ?_
    exact hK9 _ _ _ H
set_option maxHeartbeats 4000000 in
set_option maxRecDepth 100000 in
theorem fm_X4_expression_101 {l : Launch} {S : aS} {G : aG} (d : Nat) {k : Nat} {a1 : Int32} {Q : aH → Prop} {F_X4_factor : Nat → Int32 → aH → (aH → Prop) → Prop} (hF_X4_factor : ∀ {k : Nat} {a1 : Int32} {h : aH} {Q : aH → Prop}, aObj S k 3 flX4 → F_X4_factor k a1 h Q → AMv l S G d M_X4_factor [.ref (G.2.1 k), .int a1] h Q) (o_k : aObj S k 3 flX4) {K9 : Int32 → Int32 → aH → Prop} (hK9 : ∀ (x2 : Int32) (x3 : Int32) (h : aH), K9 x2 x3 h → AW l S G (d + 1) M_X4_expression (va_Qv Q (aPo S G) (aA S G)) 9 [(0, .ref (G.2.1 k)), (1, .int a1), (2, .int x2), (3, .int x3)] [] h) (x2 : Int32) (x3 : Int32) (x4 : Int32) (h : aH) (H : f_X4_expression_101 F_X4_factor S k a1 Q K9 x2 x3 x4 h) : AW l S G (d + 1) M_X4_expression (va_Qv Q (aPo S G) (aA S G)) 101 [(0, .ref (G.2.1 k)), (1, .int a1), (2, .int x2), (3, .int x3), (4, .int x4)] [] h := by
  unfold f_X4_expression_101 at H
  refine aw_aload_n dX4_expression_101 rfl 0 rfl ?_
  refine aw_dup dX4_expression_102 rfl ?_
  refine aw_getI cf_X4 3 (by decide) rfl wd_218 o_k dX4_expression_103 ?_
  refine aw_name (fun v13 e_v13 => ?_)
  replace H := H v13 e_v13
  refine aw_iconst (v := 1) dX4_expression_106 (by decide) ?_
  refine aw_iadd dX4_expression_107 ?_
  refine aw_putI cf_X4 3 (by decide) rfl wd_218 rfl rfl rfl o_k dX4_expression_108 ?_
  refine aw_nameH (fun h14 e_h14 => ?_)
  replace H := H h14 e_h14
  refine aw_aload_n dX4_expression_111 rfl 0 rfl ?_
  refine aw_iload_n dX4_expression_112 rfl 1 rfl ?_
  refine aw_callV_v (As := [.int a1]) (rest := []) (hF_X4_factor o_k H) mf_X4_factor wd_418 wd_420 ws_1_5 cf_X4 o_k rfl rfl (Nat.le_of_ble_eq_true rfl) dX4_expression_113 (fun h15 H => ?_)
  refine aw_aload_n dX4_expression_116 rfl 0 rfl ?_
  refine aw_getR cf_X4 1 (by decide) rfl wd_216 o_k dX4_expression_117 ?_
  refine aw_iload dX4_expression_120 4 rfl ?_
  refine aw_iconst (v := 0) dX4_expression_122 (by decide) ?_
  obtain ⟨o16, H⟩ := H
  refine aw_callV_i (As := [.int x4, .int 0]) (rest := []) (am_X3_put d o16 H) mf_X3_put wd_429 wd_430 wd_431 cf_X3 o16 rfl rfl (Nat.le_of_ble_eq_true rfl) dX4_expression_123 (fun r18 h17 H => ?_)
  refine aw_pop dX4_expression_126 rfl ?_
  obtain ⟨x3_19, e_x3_19⟩ : ∃ y : Int32, y = x3 + 1 := ⟨_, rfl⟩
  replace H := H x3_19 e_x3_19
  refine aw_iinc (v := x3_19) (lv' := [(3, .int x3_19), (0, .ref (G.2.1 k)), (1, .int a1), (2, .int x2), (4, .int x4)]) dX4_expression_127 (n0 := 3) rfl (by rw [e_x3_19]; rfl) (by decide) rfl ?_
  refine aw_goto (tgt := 9) dX4_expression_130 (by decide) ?_
  refine aw_sub (lv' := [(0, .ref (G.2.1 k)), (1, .int a1), (2, .int x2), (3, .int x3_19)]) [1, 2, 3, 0] rfl ?_
  exact hK9 _ _ _ H
set_option maxHeartbeats 4000000 in
set_option maxRecDepth 100000 in
theorem fm_X4_expression_9 {l : Launch} {S : aS} {G : aG} (d : Nat) {k : Nat} {a1 : Int32} {Q : aH → Prop} {F_X4_factor : Nat → Int32 → aH → (aH → Prop) → Prop} (hF_X4_factor : ∀ {k : Nat} {a1 : Int32} {h : aH} {Q : aH → Prop}, aObj S k 3 flX4 → F_X4_factor k a1 h Q → AMv l S G d M_X4_factor [.ref (G.2.1 k), .int a1] h Q) (o_k : aObj S k 3 flX4) : ∀ (n : Nat) (x2 : Int32) (x3 : Int32) (h : aH), f_X4_expression_9 F_X4_factor S k a1 Q n x2 x3 h → AW l S G (d + 1) M_X4_expression (va_Qv Q (aPo S G) (aA S G)) 9 [(0, .ref (G.2.1 k)), (1, .int a1), (2, .int x2), (3, .int x3)] [] h := by
  intro n
  induction n with
  | zero => intro x2 x3 h H; exact False.elim H
  | succ n ih =>
    intro x2 x3 h H
    unfold f_X4_expression_9 at H
    refine aw_iload_n dX4_expression_9 rfl 3 rfl ?_
    refine aw_aload_n dX4_expression_10 rfl 0 rfl ?_
    refine aw_getI cf_X4 2 (by decide) rfl wd_217 o_k dX4_expression_11 ?_
    refine aw_name (fun v20 e_v20 => ?_)
    replace H := H v20 e_v20
    refine aw_icmp_ge (tgt := 133) dX4_expression_14 (by decide) (fun c21 => ?_) (fun c21 => ?_)
    · replace H := a_pos c21 H
      refine aw_iload_n dX4_expression_133 rfl 2 rfl ?_
      refine aw_iconst (v := (-1)) dX4_expression_134 (by decide) ?_
      refine aw_icmp_eq (tgt := 148) dX4_expression_135 (by decide) (fun c22 => ?_) (fun c22 => ?_)
      · replace H := a_pos c22 H
        exact aw_vret rfl H dX4_expression_148
      · replace H := a_neg c22 H
        refine aw_aload_n dX4_expression_138 rfl 0 rfl ?_
        refine aw_getR cf_X4 1 (by decide) rfl wd_216 o_k dX4_expression_139 ?_
        refine aw_iload_n dX4_expression_142 rfl 2 rfl ?_
        refine aw_iconst (v := 0) dX4_expression_143 (by decide) ?_
        obtain ⟨o23, H⟩ := H
        refine aw_callV_i (As := [.int x2, .int 0]) (rest := []) (am_X3_put d o23 H) mf_X3_put wd_429 wd_430 wd_431 cf_X3 o23 rfl rfl (Nat.le_of_ble_eq_true rfl) dX4_expression_144 (fun r25 h24 H => ?_)
        refine aw_pop dX4_expression_147 rfl ?_
        exact aw_vret rfl H dX4_expression_148
    · replace H := a_neg c21 H
      refine aw_aload_n dX4_expression_17 rfl 0 rfl ?_
      refine aw_getI cf_X4 4 (by decide) rfl wd_219 o_k dX4_expression_18 ?_
      refine aw_name (fun v26 e_v26 => ?_)
      replace H := H v26 e_v26
      refine aw_if_ne (tgt := 133) dX4_expression_21 (by decide) (fun c27 => ?_) (fun c27 => ?_)
      · replace H := a_pos c27 H
        refine aw_iload_n dX4_expression_133 rfl 2 rfl ?_
        refine aw_iconst (v := (-1)) dX4_expression_134 (by decide) ?_
        refine aw_icmp_eq (tgt := 148) dX4_expression_135 (by decide) (fun c28 => ?_) (fun c28 => ?_)
        · replace H := a_pos c28 H
          exact aw_vret rfl H dX4_expression_148
        · replace H := a_neg c28 H
          refine aw_aload_n dX4_expression_138 rfl 0 rfl ?_
          refine aw_getR cf_X4 1 (by decide) rfl wd_216 o_k dX4_expression_139 ?_
          refine aw_iload_n dX4_expression_142 rfl 2 rfl ?_
          refine aw_iconst (v := 0) dX4_expression_143 (by decide) ?_
          obtain ⟨o29, H⟩ := H
          refine aw_callV_i (As := [.int x2, .int 0]) (rest := []) (am_X3_put d o29 H) mf_X3_put wd_429 wd_430 wd_431 cf_X3 o29 rfl rfl (Nat.le_of_ble_eq_true rfl) dX4_expression_144 (fun r31 h30 H => ?_)
          refine aw_pop dX4_expression_147 rfl ?_
          exact aw_vret rfl H dX4_expression_148
      · replace H := a_neg2 c27 H
        refine aw_aload_n dX4_expression_24 rfl 0 rfl ?_
        refine aw_callV_i (As := []) (rest := []) (am_X4_next d o_k H) mf_X4_next wd_402 wd_404 ws_1_2 cf_X4 o_k rfl rfl (Nat.le_of_ble_eq_true rfl) dX4_expression_25 (fun r33 h32 H => ?_)
        refine aw_istore (lv' := [(4, .int r33), (0, .ref (G.2.1 k)), (1, .int a1), (2, .int x2), (3, .int x3)]) dX4_expression_28 (by decide) rfl ?_
        refine aw_iload dX4_expression_30 0 rfl ?_
        refine aw_bipush (v := 43) dX4_expression_32 (by decide) ?_
        refine aw_icmp_eq (tgt := 44) dX4_expression_34 (by decide) (fun c34 => ?_) (fun c34 => ?_)
        · replace H := a_pos c34 H
          refine aw_sub (lv' := [(0, .ref (G.2.1 k)), (1, .int a1), (2, .int x2), (3, .int x3), (4, .int r33)]) [1, 2, 3, 4, 0] rfl ?_
          exact fm_X4_expression_44 d hF_X4_factor o_k ih _ _ _ _ H
        · replace H := a_neg c34 H
          refine aw_iload dX4_expression_37 0 rfl ?_
          refine aw_bipush (v := 45) dX4_expression_39 (by decide) ?_
          refine aw_icmp_ne (tgt := 80) dX4_expression_41 (by decide) (fun c35 => ?_) (fun c35 => ?_)
          · replace H := a_pos c35 H
            refine aw_iload dX4_expression_80 0 rfl ?_
            refine aw_bipush (v := 42) dX4_expression_82 (by decide) ?_
            refine aw_icmp_eq (tgt := 101) dX4_expression_84 (by decide) (fun c36 => ?_) (fun c36 => ?_)
            · replace H := a_pos c36 H
              refine aw_sub (lv' := [(0, .ref (G.2.1 k)), (1, .int a1), (2, .int x2), (3, .int x3), (4, .int r33)]) [1, 2, 3, 4, 0] rfl ?_
              exact fm_X4_expression_101 d hF_X4_factor o_k ih _ _ _ _ H
            · replace H := a_neg c36 H
              refine aw_iload dX4_expression_87 0 rfl ?_
              refine aw_bipush (v := 47) dX4_expression_89 (by decide) ?_
              refine aw_icmp_eq (tgt := 101) dX4_expression_91 (by decide) (fun c37 => ?_) (fun c37 => ?_)
              · replace H := a_pos c37 H
                refine aw_sub (lv' := [(0, .ref (G.2.1 k)), (1, .int a1), (2, .int x2), (3, .int x3), (4, .int r33)]) [1, 2, 3, 4, 0] rfl ?_
                exact fm_X4_expression_101 d hF_X4_factor o_k ih _ _ _ _ H
              · replace H := a_neg c37 H
                refine aw_iload dX4_expression_94 0 rfl ?_
                refine aw_bipush (v := 37) dX4_expression_96 (by decide) ?_
                refine aw_icmp_ne (tgt := 133) dX4_expression_98 (by decide) (fun c38 => ?_) (fun c38 => ?_)
                · replace H := a_pos c38 H
                  refine aw_iload_n dX4_expression_133 rfl 3 rfl ?_
                  refine aw_iconst (v := (-1)) dX4_expression_134 (by decide) ?_
                  refine aw_icmp_eq (tgt := 148) dX4_expression_135 (by decide) (fun c39 => ?_) (fun c39 => ?_)
                  · replace H := a_pos c39 H
                    exact aw_vret rfl H dX4_expression_148
                  · replace H := a_neg c39 H
                    refine aw_aload_n dX4_expression_138 rfl 1 rfl ?_
                    refine aw_getR cf_X4 1 (by decide) rfl wd_216 o_k dX4_expression_139 ?_
                    refine aw_iload_n dX4_expression_142 rfl 3 rfl ?_
                    refine aw_iconst (v := 0) dX4_expression_143 (by decide) ?_
                    obtain ⟨o40, H⟩ := H
                    refine aw_callV_i (As := [.int x2, .int 0]) (rest := []) (am_X3_put d o40 H) mf_X3_put wd_429 wd_430 wd_431 cf_X3 o40 rfl rfl (Nat.le_of_ble_eq_true rfl) dX4_expression_144 (fun r42 h41 H => ?_)
                    refine aw_pop dX4_expression_147 rfl ?_
                    exact aw_vret rfl H dX4_expression_148
                · replace H := a_neg2 c38 H
                  refine aw_sub (lv' := [(0, .ref (G.2.1 k)), (1, .int a1), (2, .int x2), (3, .int x3), (4, .int r33)]) [1, 2, 3, 4, 0] rfl ?_
                  exact fm_X4_expression_101 d hF_X4_factor o_k ih _ _ _ _ H
          · replace H := a_neg2 c35 H
            refine aw_sub (lv' := [(0, .ref (G.2.1 k)), (1, .int a1), (2, .int x2), (3, .int x3), (4, .int r33)]) [1, 2, 3, 4, 0] rfl ?_
            exact fm_X4_expression_44 d hF_X4_factor o_k ih _ _ _ _ H
set_option maxHeartbeats 4000000 in
set_option maxRecDepth 100000 in
theorem am_X4_expression {l : Launch} {S : aS} {G : aG} (d : Nat) {k : Nat} {a1 : Int32} {h : aH} {Q : aH → Prop} {F_X4_factor : Nat → Int32 → aH → (aH → Prop) → Prop} (hF_X4_factor : ∀ {k : Nat} {a1 : Int32} {h : aH} {Q : aH → Prop}, aObj S k 3 flX4 → F_X4_factor k a1 h Q → AMv l S G d M_X4_factor [.ref (G.2.1 k), .int a1] h Q) (o_k : aObj S k 3 flX4) (H : f_X4_expression F_X4_factor S k a1 h Q) : AMv l S G (d + 1) M_X4_expression [.ref (G.2.1 k), .int a1] h Q := by
  unfold f_X4_expression at H
  refine am_of mf_X4_expression (Nat.le_of_ble_eq_true rfl) (lv0 := [(0, .ref (G.2.1 k)), (1, .int a1)]) rfl ?_
  refine aw_iconst (v := (-1)) dX4_expression_0 (by decide) ?_
  refine aw_istore_n (lv' := [(2, .int (-1)), (0, .ref (G.2.1 k)), (1, .int a1)]) dX4_expression_1 rfl (by decide) rfl ?_
  refine aw_aload_n dX4_expression_2 rfl 1 rfl ?_
  refine aw_iload_n dX4_expression_3 rfl 2 rfl ?_
  refine aw_callV_v (As := [.int a1]) (rest := []) (hF_X4_factor o_k H) mf_X4_factor wd_418 wd_420 ws_1_5 cf_X4 o_k rfl rfl (Nat.le_of_ble_eq_true rfl) dX4_expression_4 (fun h43 H => ?_)
  refine aw_iconst (v := 0) dX4_expression_7 (by decide) ?_
  refine aw_istore_n (lv' := [(3, .int 0), (2, .int (-1)), (0, .ref (G.2.1 k)), (1, .int a1)]) dX4_expression_8 rfl (by decide) rfl ?_
  refine aw_sub (lv' := [(0, .ref (G.2.1 k)), (1, .int a1), (2, .int (-1)), (3, .int 0)]) [2, 3, 1, 0] rfl ?_
  obtain ⟨n1, H⟩ := H
  exact fm_X4_expression_9 d hF_X4_factor o_k n1 _ _ _ H
set_option maxHeartbeats 4000000 in
set_option maxRecDepth 100000 in
theorem am_X4_isDigit {l : Launch} {S : aS} {G : aG} (d : Nat) {a0 : Int32} {h : aH} {Q : Int32 → aH → Prop} (H : f_X4_isDigit S a0 h Q) : AMi l S G d M_X4_isDigit [.int a0] h Q := by
  unfold f_X4_isDigit at H
  refine am_of mf_X4_isDigit (Nat.le_of_ble_eq_true rfl) (lv0 := [(0, .int a0)]) rfl ?_
  refine aw_iload_n dX4_isDigit_0 rfl 0 rfl ?_
  refine aw_bipush (v := 48) dX4_isDigit_1 (by decide) ?_
  refine aw_icmp_lt (tgt := 16) dX4_isDigit_3 (by decide) (fun c1 => ?_) (fun c1 => ?_)
  · replace H := a_pos c1 H
    refine aw_iconst (v := 0) dX4_isDigit_16 (by decide) ?_
    exact aw_zret rfl rfl H dX4_isDigit_17
  · replace H := a_neg c1 H
    refine aw_iload_n dX4_isDigit_6 rfl 0 rfl ?_
    refine aw_bipush (v := 57) dX4_isDigit_7 (by decide) ?_
    refine aw_icmp_gt (tgt := 16) dX4_isDigit_9 (by decide) (fun c2 => ?_) (fun c2 => ?_)
    · replace H := a_pos c2 H
      refine aw_iconst (v := 0) dX4_isDigit_16 (by decide) ?_
      exact aw_zret rfl rfl H dX4_isDigit_17
    · replace H := a_neg c2 H
      refine aw_iconst (v := 1) dX4_isDigit_12 (by decide) ?_
      refine aw_goto (tgt := 17) dX4_isDigit_13 (by decide) ?_
      exact aw_zret rfl rfl H dX4_isDigit_17
set_option maxHeartbeats 4000000 in
set_option maxRecDepth 100000 in
theorem fm_X4_number_48 {l : Launch} {S : aS} {G : aG} (d : Nat) {k : Nat} {Q : aH → Prop} (o_k : aObj S k 3 flX4) (x1 : Int32) (h : aH) (H : f_X4_number_48 S k Q x1 h) : AW l S G (d + 1) M_X4_number (va_Qv Q (aPo S G) (aA S G)) 48 [(0, .ref (G.2.1 k)), (1, .int x1)] [] h := by
  unfold f_X4_number_48 at H
  refine aw_aload_n dX4_number_48 rfl 0 rfl ?_
  refine aw_callV_i (As := []) (rest := []) (am_X4_next d o_k H) mf_X4_next wd_402 wd_404 ws_1_2 cf_X4 o_k rfl rfl (Nat.le_of_ble_eq_true rfl) dX4_number_49 (fun r2 h1 H => ?_)
  refine aw_callS_i (As := [.int r2]) (rest := []) (am_X4_isDigit d H) mf_X4_isDigit wd_422 wd_423 rfl rfl (Nat.le_of_ble_eq_true rfl) dX4_number_52 (fun r4 h3 H => ?_)
  refine aw_if_eq (tgt := 63) dX4_number_55 (by decide) (fun c5 => ?_) (fun c5 => ?_)
  · replace H := a_pos c5 H
    refine aw_aload_n dX4_number_63 rfl 0 rfl ?_
    refine aw_getR cf_X4 1 (by decide) rfl wd_216 o_k dX4_number_64 ?_
    refine aw_iconst (v := 1) dX4_number_67 (by decide) ?_
    refine aw_iload_n dX4_number_68 rfl 1 rfl ?_
    obtain ⟨o6, H⟩ := H
    refine aw_callV_i (As := [.int 1, .int x1]) (rest := []) (am_X3_put d o6 H) mf_X3_put wd_429 wd_430 wd_431 cf_X3 o6 rfl rfl (Nat.le_of_ble_eq_true rfl) dX4_number_69 (fun r8 h7 H => ?_)
    refine aw_pop dX4_number_72 rfl ?_
    exact aw_vret rfl H dX4_number_73
  · replace H := a_neg c5 H
    refine aw_aload_n dX4_number_58 rfl 0 rfl ?_
    refine aw_iconst (v := 2) dX4_number_59 (by decide) ?_
    refine aw_callV_v (As := [.int 2]) (rest := []) (am_X4_blame d o_k H) mf_X4_blame wd_406 wd_408 ws_1_3 cf_X4 o_k rfl rfl (Nat.le_of_ble_eq_true rfl) dX4_number_60 (fun h9 H => ?_)
    refine aw_aload_n dX4_number_63 rfl 0 rfl ?_
    refine aw_getR cf_X4 1 (by decide) rfl wd_216 o_k dX4_number_64 ?_
    refine aw_iconst (v := 1) dX4_number_67 (by decide) ?_
    refine aw_iload_n dX4_number_68 rfl 1 rfl ?_
    obtain ⟨o10, H⟩ := H
    refine aw_callV_i (As := [.int 1, .int x1]) (rest := []) (am_X3_put d o10 H) mf_X3_put wd_429 wd_430 wd_431 cf_X3 o10 rfl rfl (Nat.le_of_ble_eq_true rfl) dX4_number_69 (fun r12 h11 H => ?_)
    refine aw_pop dX4_number_72 rfl ?_
    exact aw_vret rfl H dX4_number_73
set_option maxHeartbeats 4000000 in
set_option maxRecDepth 100000 in
theorem fm_X4_number_4 {l : Launch} {S : aS} {G : aG} (d : Nat) {k : Nat} {Q : aH → Prop} (o_k : aObj S k 3 flX4) : ∀ (n : Nat) (x1 : Int32) (x2 : Int32) (h : aH), f_X4_number_4 S k Q n x1 x2 h → AW l S G (d + 1) M_X4_number (va_Qv Q (aPo S G) (aA S G)) 4 [(0, .ref (G.2.1 k)), (1, .int x1), (2, .int x2)] [] h := by
  intro n
  induction n with
  | zero => intro x1 x2 h H; exact False.elim H
  | succ n ih =>
    intro x1 x2 h H
    unfold f_X4_number_4 at H
    refine aw_iload_n dX4_number_4 rfl 2 rfl ?_
    refine aw_iconst (v := 5) dX4_number_5 (by decide) ?_
    refine aw_icmp_ge (tgt := 48) dX4_number_6 (by decide) (fun c13 => ?_) (fun c13 => ?_)
    · replace H := a_pos c13 H
      refine aw_sub (lv' := [(0, .ref (G.2.1 k)), (1, .int x1)]) [0, 1] rfl ?_
      exact fm_X4_number_48 d o_k _ _ H
    · replace H := a_neg c13 H
      refine aw_aload_n dX4_number_9 rfl 0 rfl ?_
      refine aw_callV_i (As := []) (rest := []) (am_X4_next d o_k H) mf_X4_next wd_402 wd_404 ws_1_2 cf_X4 o_k rfl rfl (Nat.le_of_ble_eq_true rfl) dX4_number_10 (fun r15 h14 H => ?_)
      refine aw_callS_i (As := [.int r15]) (rest := []) (am_X4_isDigit d H) mf_X4_isDigit wd_422 wd_423 rfl rfl (Nat.le_of_ble_eq_true rfl) dX4_number_13 (fun r17 h16 H => ?_)
      refine aw_if_eq (tgt := 48) dX4_number_16 (by decide) (fun c18 => ?_) (fun c18 => ?_)
      · replace H := a_pos c18 H
        refine aw_sub (lv' := [(0, .ref (G.2.1 k)), (1, .int x1)]) [0, 1] rfl ?_
        exact fm_X4_number_48 d o_k _ _ H
      · replace H := a_neg c18 H
        refine aw_bipush (v := 10) dX4_number_19 (by decide) ?_
        refine aw_iload_n dX4_number_21 rfl 1 rfl ?_
        refine aw_imul dX4_number_22 ?_
        refine aw_aload_n dX4_number_23 rfl 0 rfl ?_
        refine aw_callV_i (As := []) (rest := [.int (10 * x1)]) (am_X4_next d o_k H) mf_X4_next wd_402 wd_404 ws_1_2 cf_X4 o_k rfl rfl (Nat.le_of_ble_eq_true rfl) dX4_number_24 (fun r20 h19 H => ?_)
        refine aw_iadd dX4_number_27 ?_
        refine aw_bipush (v := 48) dX4_number_28 (by decide) ?_
        refine aw_isub dX4_number_30 ?_
        refine aw_name (fun x1_21 e_x1_21 => ?_)
        replace H := H x1_21 e_x1_21
        refine aw_istore_n (lv' := [(1, .int x1_21), (0, .ref (G.2.1 k)), (2, .int x2)]) dX4_number_31 rfl (by decide) rfl ?_
        refine aw_aload_n dX4_number_32 rfl 1 rfl ?_
        refine aw_dup dX4_number_33 rfl ?_
        refine aw_getI cf_X4 3 (by decide) rfl wd_218 o_k dX4_number_34 ?_
        refine aw_name (fun v22 e_v22 => ?_)
        replace H := H v22 e_v22
        refine aw_iconst (v := 1) dX4_number_37 (by decide) ?_
        refine aw_iadd dX4_number_38 ?_
        refine aw_putI cf_X4 3 (by decide) rfl wd_218 rfl rfl rfl o_k dX4_number_39 ?_
        refine aw_nameH (fun h23 e_h23 => ?_)
        replace H := H h23 e_h23
        obtain ⟨x2_24, e_x2_24⟩ : ∃ y : Int32, y = x2 + 1 := ⟨_, rfl⟩
        replace H := H x2_24 e_x2_24
        refine aw_iinc (v := x2_24) (lv' := [(2, .int x2_24), (1, .int x1_21), (0, .ref (G.2.1 k))]) dX4_number_42 (n0 := 2) rfl (by rw [e_x2_24]; rfl) (by decide) rfl ?_
        refine aw_goto (tgt := 4) dX4_number_45 (by decide) ?_
        refine aw_sub (lv' := [(0, .ref (G.2.1 k)), (1, .int x1_21), (2, .int x2_24)]) [2, 1, 0] rfl ?_
        exact ih _ _ _ H
set_option maxHeartbeats 4000000 in
set_option maxRecDepth 100000 in
theorem am_X4_number {l : Launch} {S : aS} {G : aG} (d : Nat) {k : Nat} {h : aH} {Q : aH → Prop} (o_k : aObj S k 3 flX4) (H : f_X4_number S k h Q) : AMv l S G (d + 1) M_X4_number [.ref (G.2.1 k)] h Q := by
  unfold f_X4_number at H
  refine am_of mf_X4_number (Nat.le_of_ble_eq_true rfl) (lv0 := [(0, .ref (G.2.1 k))]) rfl ?_
  refine aw_iconst (v := 0) dX4_number_0 (by decide) ?_
  refine aw_istore_n (lv' := [(1, .int 0), (0, .ref (G.2.1 k))]) dX4_number_1 rfl (by decide) rfl ?_
  refine aw_iconst (v := 0) dX4_number_2 (by decide) ?_
  refine aw_istore_n (lv' := [(2, .int 0), (1, .int 0), (0, .ref (G.2.1 k))]) dX4_number_3 rfl (by decide) rfl ?_
  refine aw_sub (lv' := [(0, .ref (G.2.1 k)), (1, .int 0), (2, .int 0)]) [2, 1, 0] rfl ?_
  obtain ⟨n1, H⟩ := H
  exact fm_X4_number_4 d o_k n1 _ _ _ H
set_option maxHeartbeats 4000000 in
set_option maxRecDepth 100000 in
theorem fm_X4_letter_15 {l : Launch} {S : aS} {G : aG} (d : Nat) {k : Nat} {a1 : Int32} {Q : aH → Prop} (o_k : aObj S k 3 flX4) (s0 : Int32) (h : aH) (H : f_X4_letter_15 S k a1 Q s0 h) : AW l S G (d + 8) M_X4_letter (va_Qv Q (aPo S G) (aA S G)) 15 [(0, .ref (G.2.1 k)), (1, .int a1)] [.int s0] h := by
  unfold f_X4_letter_15 at H
  refine aw_istore_n (lv' := [(2, .int s0), (0, .ref (G.2.1 k)), (1, .int a1)]) dX4_letter_15 rfl (by decide) rfl ?_
  refine aw_iload_n dX4_letter_16 rfl 0 rfl ?_
  refine aw_iconst (v := (-1)) dX4_letter_17 (by decide) ?_
  refine aw_icmp_ne (tgt := 27) dX4_letter_18 (by decide) (fun c1 => ?_) (fun c1 => ?_)
  · replace H := a_pos c1 H
    refine aw_aload_n dX4_letter_27 rfl 1 rfl ?_
    refine aw_getR cf_X4 1 (by decide) rfl wd_216 o_k dX4_letter_28 ?_
    refine aw_iconst (v := 2) dX4_letter_31 (by decide) ?_
    refine aw_iload_n dX4_letter_32 rfl 0 rfl ?_
    obtain ⟨o2, H⟩ := H
    refine aw_callV_i (As := [.int 2, .int s0]) (rest := []) (am_X3_put (d + 7) o2 H) mf_X3_put wd_429 wd_430 wd_431 cf_X3 o2 rfl rfl (Nat.le_of_ble_eq_true rfl) dX4_letter_33 (fun r4 h3 H => ?_)
    refine aw_pop dX4_letter_36 rfl ?_
    refine aw_aload_n dX4_letter_37 rfl 1 rfl ?_
    refine aw_dup dX4_letter_38 rfl ?_
    refine aw_getI cf_X4 3 (by decide) rfl wd_218 o_k dX4_letter_39 ?_
    refine aw_name (fun v5 e_v5 => ?_)
    replace H := H v5 e_v5
    refine aw_iconst (v := 1) dX4_letter_42 (by decide) ?_
    refine aw_iadd dX4_letter_43 ?_
    refine aw_putI cf_X4 3 (by decide) rfl wd_218 rfl rfl rfl o_k dX4_letter_44 ?_
    refine aw_nameH (fun h6 e_h6 => ?_)
    replace H := H h6 e_h6
    exact aw_vret rfl H dX4_letter_47
  · replace H := a_neg2 c1 H
    refine aw_aload_n dX4_letter_21 rfl 1 rfl ?_
    refine aw_iconst (v := 1) dX4_letter_22 (by decide) ?_
    refine aw_callV_v (As := [.int 1]) (rest := []) (am_X4_blame (d + 7) o_k H) mf_X4_blame wd_406 wd_408 ws_1_3 cf_X4 o_k rfl rfl (Nat.le_of_ble_eq_true rfl) dX4_letter_23 (fun h7 H => ?_)
    exact aw_vret rfl H dX4_letter_26
set_option maxHeartbeats 4000000 in
set_option maxRecDepth 100000 in
theorem am_X4_letter {l : Launch} {S : aS} {G : aG} (d : Nat) {k : Nat} {a1 : Int32} {h : aH} {Q : aH → Prop} (o_k : aObj S k 3 flX4) (H : f_X4_letter S k a1 h Q) : AMv l S G (d + 8) M_X4_letter [.ref (G.2.1 k), .int a1] h Q := by
  unfold f_X4_letter at H
  refine am_of mf_X4_letter (Nat.le_of_ble_eq_true rfl) (lv0 := [(0, .ref (G.2.1 k)), (1, .int a1)]) rfl ?_
  refine aw_iload_n dX4_letter_0 rfl 1 rfl ?_
  refine aw_if_ge (tgt := 8) dX4_letter_1 (by decide) (fun c8 => ?_) (fun c8 => ?_)
  · replace H := a_pos c8 H
    refine aw_letters 1 rfl ?_
    refine aw_name (fun v9 e_v9 => ?_)
    replace H := H v9 e_v9
    exact fm_X4_letter_15 d o_k _ _ H
  · replace H := a_neg c8 H
    refine aw_iconst (v := (-1)) dX4_letter_4 (by decide) ?_
    refine aw_goto (tgt := 15) dX4_letter_5 (by decide) ?_
    exact fm_X4_letter_15 d o_k _ _ H
set_option maxHeartbeats 4000000 in
set_option maxRecDepth 100000 in
theorem am_X4_factor {l : Launch} {S : aS} {G : aG} (d : Nat) {k : Nat} {a1 : Int32} {h : aH} {Q : aH → Prop} {F_X4_expression : Nat → Int32 → aH → (aH → Prop) → Prop} (hF_X4_expression : ∀ {k : Nat} {a1 : Int32} {h : aH} {Q : aH → Prop}, aObj S k 3 flX4 → F_X4_expression k a1 h Q → AMv l S G (d + 8) M_X4_expression [.ref (G.2.1 k), .int a1] h Q) (o_k : aObj S k 3 flX4) (H : f_X4_factor F_X4_expression S k a1 h Q) : AMv l S G (d + 9) M_X4_factor [.ref (G.2.1 k), .int a1] h Q := by
  unfold f_X4_factor at H
  refine am_of mf_X4_factor (Nat.le_of_ble_eq_true rfl) (lv0 := [(0, .ref (G.2.1 k)), (1, .int a1)]) rfl ?_
  refine aw_aload_n dX4_factor_0 rfl 0 rfl ?_
  refine aw_getI cf_X4 4 (by decide) rfl wd_219 o_k dX4_factor_1 ?_
  refine aw_name (fun v1 e_v1 => ?_)
  replace H := H v1 e_v1
  refine aw_if_eq (tgt := 8) dX4_factor_4 (by decide) (fun c2 => ?_) (fun c2 => ?_)
  · replace H := a_pos c2 H
    refine aw_aload_n dX4_factor_8 rfl 0 rfl ?_
    refine aw_callV_i (As := []) (rest := []) (am_X4_next (d + 8) o_k H) mf_X4_next wd_402 wd_404 ws_1_2 cf_X4 o_k rfl rfl (Nat.le_of_ble_eq_true rfl) dX4_factor_9 (fun r4 h3 H => ?_)
    refine aw_istore_n (lv' := [(2, .int r4), (0, .ref (G.2.1 k)), (1, .int a1)]) dX4_factor_12 rfl (by decide) rfl ?_
    refine aw_iload_n dX4_factor_13 rfl 0 rfl ?_
    refine aw_callS_i (As := [.int r4]) (rest := []) (am_X4_isDigit (d + 8) H) mf_X4_isDigit wd_422 wd_423 rfl rfl (Nat.le_of_ble_eq_true rfl) dX4_factor_14 (fun r6 h5 H => ?_)
    refine aw_if_eq (tgt := 27) dX4_factor_17 (by decide) (fun c7 => ?_) (fun c7 => ?_)
    · replace H := a_pos c7 H
      refine aw_iload_n dX4_factor_27 rfl 0 rfl ?_
      refine aw_bipush (v := 91) dX4_factor_28 (by decide) ?_
      refine aw_icmp_ne (tgt := 57) dX4_factor_30 (by decide) (fun c8 => ?_) (fun c8 => ?_)
      · replace H := a_pos c8 H
        refine aw_aload_n dX4_factor_57 rfl 1 rfl ?_
        refine aw_getI cf_X4 4 (by decide) rfl wd_219 o_k dX4_factor_58 ?_
        refine aw_name (fun v9 e_v9 => ?_)
        replace H := H v9 e_v9
        refine aw_if_ne (tgt := 69) dX4_factor_61 (by decide) (fun c10 => ?_) (fun c10 => ?_)
        · replace H := a_pos c10 H
          exact aw_vret rfl H dX4_factor_69
        · replace H := a_neg2 c10 H
          refine aw_aload_n dX4_factor_64 rfl 1 rfl ?_
          refine aw_iload_n dX4_factor_65 rfl 0 rfl ?_
          refine aw_callV_v (As := [.int r4]) (rest := []) (am_X4_letter d o_k H) mf_X4_letter wd_441 wd_443 ws_1_9 cf_X4 o_k rfl rfl (Nat.le_of_ble_eq_true rfl) dX4_factor_66 (fun h11 H => ?_)
          exact aw_vret rfl H dX4_factor_69
      · replace H := a_neg2 c8 H
        refine aw_aload_n dX4_factor_33 rfl 1 rfl ?_
        refine aw_iload_n dX4_factor_34 rfl 2 rfl ?_
        refine aw_callV_i (As := [.int a1]) (rest := []) (am_X4_enter (d + 7) o_k H) mf_X4_enter wd_433 wd_435 ws_1_7 cf_X4 o_k rfl rfl (Nat.le_of_ble_eq_true rfl) dX4_factor_35 (fun r13 h12 H => ?_)
        refine aw_if_eq (tgt := 57) dX4_factor_38 (by decide) (fun c14 => ?_) (fun c14 => ?_)
        · replace H := a_pos c14 H
          refine aw_aload_n dX4_factor_57 rfl 1 rfl ?_
          refine aw_getI cf_X4 4 (by decide) rfl wd_219 o_k dX4_factor_58 ?_
          refine aw_name (fun v15 e_v15 => ?_)
          replace H := H v15 e_v15
          refine aw_if_ne (tgt := 69) dX4_factor_61 (by decide) (fun c16 => ?_) (fun c16 => ?_)
          · replace H := a_pos c16 H
            exact aw_vret rfl H dX4_factor_69
          · replace H := a_neg2 c16 H
            refine aw_aload_n dX4_factor_64 rfl 1 rfl ?_
            refine aw_iload_n dX4_factor_65 rfl 0 rfl ?_
            refine aw_callV_v (As := [.int r4]) (rest := []) (am_X4_letter d o_k H) mf_X4_letter wd_441 wd_443 ws_1_9 cf_X4 o_k rfl rfl (Nat.le_of_ble_eq_true rfl) dX4_factor_66 (fun h17 H => ?_)
            exact aw_vret rfl H dX4_factor_69
        · replace H := a_neg c14 H
          refine aw_aload_n dX4_factor_41 rfl 1 rfl ?_
          refine aw_iload_n dX4_factor_42 rfl 2 rfl ?_
          refine aw_iconst (v := 1) dX4_factor_43 (by decide) ?_
          refine aw_iadd dX4_factor_44 ?_
          refine aw_callV_v (As := [.int (a1 + 1)]) (rest := []) (hF_X4_expression o_k H) mf_X4_expression wd_414 wd_416 ws_1_4 cf_X4 o_k rfl rfl (Nat.le_of_ble_eq_true rfl) dX4_factor_45 (fun h18 H => ?_)
          refine aw_aload_n dX4_factor_48 rfl 1 rfl ?_
          refine aw_bipush (v := 93) dX4_factor_49 (by decide) ?_
          refine aw_callV_v (As := [.int 93]) (rest := []) (am_X4_take (d + 7) o_k H) mf_X4_take wd_437 wd_439 ws_1_8 cf_X4 o_k rfl rfl (Nat.le_of_ble_eq_true rfl) dX4_factor_51 (fun h19 H => ?_)
          refine aw_goto (tgt := 69) dX4_factor_54 (by decide) ?_
          exact aw_vret rfl H dX4_factor_69
    · replace H := a_neg c7 H
      refine aw_aload_n dX4_factor_20 rfl 1 rfl ?_
      refine aw_callV_v (As := []) (rest := []) (am_X4_number (d + 7) o_k H) mf_X4_number wd_425 wd_427 ws_1_6 cf_X4 o_k rfl rfl (Nat.le_of_ble_eq_true rfl) dX4_factor_21 (fun h20 H => ?_)
      refine aw_goto (tgt := 69) dX4_factor_24 (by decide) ?_
      exact aw_vret rfl H dX4_factor_69
  · replace H := a_neg c2 H
    exact aw_vret rfl H dX4_factor_7
set_option maxHeartbeats 4000000 in
set_option maxRecDepth 100000 in
theorem am_X5_bears {l : Launch} {S : aS} {G : aG} (d : Nat) {k : Nat} {a1 : Nat} {a2 : Int32} {h : aH} {Q : Int32 → aH → Prop} (o_k : aObj S k 4 flX5) (o_a1 : aObj S a1 1 flX2) (H : f_X5_bears S k a1 a2 h Q) : AMi l S G (d + 3) M_X5_bears [.ref (G.2.1 k), .ref (G.2.1 a1), .int a2] h Q := by
  unfold f_X5_bears at H
  refine am_of mf_X5_bears (Nat.le_of_ble_eq_true rfl) (lv0 := [(0, .ref (G.2.1 k)), (1, .ref (G.2.1 a1)), (2, .int a2)]) rfl ?_
  refine aw_aload_n dX5_bears_0 rfl 0 rfl ?_
  refine aw_getR cf_X5 0 (by decide) rfl wd_199 o_k dX5_bears_1 ?_
  refine aw_aload_n dX5_bears_4 rfl 1 rfl ?_
  refine aw_iload_n dX5_bears_5 rfl 2 rfl ?_
  refine aw_aload_n dX5_bears_6 rfl 1 rfl ?_
  refine aw_iload_n dX5_bears_7 rfl 2 rfl ?_
  refine aw_callV_i (As := [.int a2]) (rest := [.int a2, .ref (G.2.1 a1), .ref (G.2.1 (gR h k 0))]) (am_X2_kindAt (d + 1) o_a1 H) mf_X2_kindAt wd_660 wd_661 wd_662 cf_X2 o_a1 rfl rfl (Nat.le_of_ble_eq_true rfl) dX5_bears_8 (fun r2 h1 H => ?_)
  obtain ⟨o3, H⟩ := H
  refine aw_callV_v (As := [.ref (G.2.1 a1), .int a2, .int r2]) (rest := []) (am_X3_lookAt (d + 1) o3 o_a1 H) mf_X3_lookAt wd_576 wd_577 wd_578 cf_X3 o3 rfl rfl (Nat.le_of_ble_eq_true rfl) dX5_bears_11 (fun h4 H => ?_)
  refine aw_aload_n dX5_bears_14 rfl 0 rfl ?_
  refine aw_getR cf_X5 0 (by decide) rfl wd_199 o_k dX5_bears_15 ?_
  refine aw_bipush (v := 98) dX5_bears_18 (by decide) ?_
  refine aw_sipush (v := 9999) dX5_bears_20 (by decide) ?_
  obtain ⟨o5, H⟩ := H
  refine aw_callV_i (As := [.int 98, .int 9999]) (rest := []) (am_X3_says d o5 H) mf_X3_says wd_582 wd_583 wd_584 cf_X3 o5 rfl rfl (Nat.le_of_ble_eq_true rfl) dX5_bears_23 (fun r7 h6 H => ?_)
  exact aw_iret rfl H dX5_bears_26
set_option maxHeartbeats 4000000 in
set_option maxRecDepth 100000 in
theorem am_X5_allows {l : Launch} {S : aS} {G : aG} (d : Nat) {k : Nat} {a1 : Nat} {a2 : Int32} {a3 : Int32} {h : aH} {Q : Int32 → aH → Prop} (o_k : aObj S k 4 flX5) (o_a1 : aObj S a1 1 flX2) (H : f_X5_allows S k a1 a2 a3 h Q) : AMi l S G (d + 3) M_X5_allows [.ref (G.2.1 k), .ref (G.2.1 a1), .int a2, .int a3] h Q := by
  unfold f_X5_allows at H
  refine am_of mf_X5_allows (Nat.le_of_ble_eq_true rfl) (lv0 := [(0, .ref (G.2.1 k)), (1, .ref (G.2.1 a1)), (2, .int a2), (3, .int a3)]) rfl ?_
  refine aw_aload_n dX5_allows_0 rfl 0 rfl ?_
  refine aw_getR cf_X5 0 (by decide) rfl wd_199 o_k dX5_allows_1 ?_
  refine aw_aload_n dX5_allows_4 rfl 1 rfl ?_
  refine aw_iload_n dX5_allows_5 rfl 2 rfl ?_
  refine aw_iload_n dX5_allows_6 rfl 3 rfl ?_
  obtain ⟨o1, H⟩ := H
  refine aw_callV_v (As := [.ref (G.2.1 a1), .int a2, .int a3]) (rest := []) (am_X3_lookAt (d + 1) o1 o_a1 H) mf_X3_lookAt wd_576 wd_577 wd_578 cf_X3 o1 rfl rfl (Nat.le_of_ble_eq_true rfl) dX5_allows_7 (fun h2 H => ?_)
  refine aw_aload_n dX5_allows_10 rfl 0 rfl ?_
  refine aw_getR cf_X5 0 (by decide) rfl wd_199 o_k dX5_allows_11 ?_
  refine aw_bipush (v := 99) dX5_allows_14 (by decide) ?_
  refine aw_iconst (v := 1) dX5_allows_16 (by decide) ?_
  obtain ⟨o3, H⟩ := H
  refine aw_callV_i (As := [.int 99, .int 1]) (rest := []) (am_X3_says d o3 H) mf_X3_says wd_582 wd_583 wd_584 cf_X3 o3 rfl rfl (Nat.le_of_ble_eq_true rfl) dX5_allows_17 (fun r5 h4 H => ?_)
  refine aw_if_le (tgt := 27) dX5_allows_20 (by decide) (fun c6 => ?_) (fun c6 => ?_)
  · replace H := a_pos c6 H
    refine aw_iconst (v := 0) dX5_allows_27 (by decide) ?_
    exact aw_zret rfl rfl H dX5_allows_28
  · replace H := a_neg c6 H
    refine aw_iconst (v := 1) dX5_allows_23 (by decide) ?_
    refine aw_goto (tgt := 28) dX5_allows_24 (by decide) ?_
    exact aw_zret rfl rfl H dX5_allows_28
set_option maxHeartbeats 4000000 in
set_option maxRecDepth 100000 in
theorem am_X5_pull {l : Launch} {S : aS} {G : aG} (d : Nat) {k : Nat} {a1 : Nat} {a2 : Int32} {a3 : Int32} {h : aH} {Q : Int32 → aH → Prop} (o_k : aObj S k 4 flX5) (o_a1 : aObj S a1 1 flX2) (H : f_X5_pull S k a1 a2 a3 h Q) : AMi l S G (d + 4) M_X5_pull [.ref (G.2.1 k), .ref (G.2.1 a1), .int a2, .int a3] h Q := by
  unfold f_X5_pull at H
  refine am_of mf_X5_pull (Nat.le_of_ble_eq_true rfl) (lv0 := [(0, .ref (G.2.1 k)), (1, .ref (G.2.1 a1)), (2, .int a2), (3, .int a3)]) rfl ?_
  refine aw_aload_n dX5_pull_0 rfl 0 rfl ?_
  refine aw_getR cf_X5 0 (by decide) rfl wd_199 o_k dX5_pull_1 ?_
  refine aw_aload_n dX5_pull_4 rfl 1 rfl ?_
  refine aw_iload_n dX5_pull_5 rfl 2 rfl ?_
  refine aw_iload_n dX5_pull_6 rfl 3 rfl ?_
  obtain ⟨o1, H⟩ := H
  refine aw_callV_v (As := [.ref (G.2.1 a1), .int a2, .int a3]) (rest := []) (am_X3_lookFrom d o1 o_a1 H) mf_X3_lookFrom wd_707 wd_708 wd_709 cf_X3 o1 rfl rfl (Nat.le_of_ble_eq_true rfl) dX5_pull_7 (fun h2 H => ?_)
  refine aw_aload_n dX5_pull_10 rfl 0 rfl ?_
  refine aw_getR cf_X5 0 (by decide) rfl wd_199 o_k dX5_pull_11 ?_
  refine aw_bipush (v := 103) dX5_pull_14 (by decide) ?_
  refine aw_sipush (v := 999) dX5_pull_16 (by decide) ?_
  obtain ⟨o3, H⟩ := H
  refine aw_callV_i (As := [.int 103, .int 999]) (rest := []) (am_X3_says (d + 1) o3 H) mf_X3_says wd_582 wd_583 wd_584 cf_X3 o3 rfl rfl (Nat.le_of_ble_eq_true rfl) dX5_pull_19 (fun r5 h4 H => ?_)
  exact aw_iret rfl H dX5_pull_22
set_option maxHeartbeats 4000000 in
set_option maxRecDepth 100000 in
theorem fm_X5_strongest_8 {l : Launch} {S : aS} {G : aG} (d : Nat) {k : Nat} {a1 : Nat} {a2 : Int32} {Q : Int32 → aH → Prop} (o_k : aObj S k 4 flX5) (o_a1 : aObj S a1 1 flX2) : ∀ (n : Nat) (x3 : Int32) (x4 : Int32) (x5 : Int32) (h : aH), f_X5_strongest_8 S k a1 a2 Q n x3 x4 x5 h → AW l S G (d + 5) M_X5_strongest (va_Qi Q (aPo S G) (aA S G)) 8 [(0, .ref (G.2.1 k)), (1, .ref (G.2.1 a1)), (2, .int a2), (3, .int x3), (4, .int x4), (5, .int x5)] [] h := by
  intro n
  induction n with
  | zero => intro x3 x4 x5 h H; exact False.elim H
  | succ n ih =>
    intro x3 x4 x5 h H
    unfold f_X5_strongest_8 at H
    refine aw_iload dX5_strongest_8 5 rfl ?_
    refine aw_aload_n dX5_strongest_10 rfl 1 rfl ?_
    refine aw_getI cf_X2 9 (by decide) rfl wd_66 o_a1 dX5_strongest_11 ?_
    refine aw_name (fun v1 e_v1 => ?_)
    replace H := H v1 e_v1
    refine aw_icmp_ge (tgt := 60) dX5_strongest_14 (by decide) (fun c2 => ?_) (fun c2 => ?_)
    · replace H := a_pos c2 H
      refine aw_iload_n dX5_strongest_60 rfl 3 rfl ?_
      exact aw_iret rfl H dX5_strongest_61
    · replace H := a_neg c2 H
      refine aw_aload_n dX5_strongest_17 rfl 1 rfl ?_
      refine aw_iload dX5_strongest_18 5 rfl ?_
      refine aw_callV_i (As := [.int x5]) (rest := []) (am_X2_isOpen (d + 3) o_a1 H) mf_X2_isOpen wd_702 wd_618 wd_619 cf_X2 o_a1 rfl rfl (Nat.le_of_ble_eq_true rfl) dX5_strongest_20 (fun r4 h3 H => ?_)
      refine aw_if_eq (tgt := 37) dX5_strongest_23 (by decide) (fun c5 => ?_) (fun c5 => ?_)
      · replace H := a_pos c5 H
        refine aw_iconst (v := 0) dX5_strongest_37 (by decide) ?_
        refine aw_istore (lv' := [(6, .int 0), (0, .ref (G.2.1 k)), (1, .ref (G.2.1 a1)), (2, .int a2), (3, .int x3), (4, .int x4), (5, .int x5)]) dX5_strongest_38 (by decide) rfl ?_
        refine aw_iload dX5_strongest_40 0 rfl ?_
        refine aw_iload dX5_strongest_42 5 rfl ?_
        refine aw_icmp_le (tgt := 54) dX5_strongest_44 (by decide) (fun c6 => ?_) (fun c6 => ?_)
        · replace H := a_pos c6 H
          obtain ⟨x5_7, e_x5_7⟩ : ∃ y : Int32, y = x5 + 1 := ⟨_, rfl⟩
          replace H := H x5_7 e_x5_7
          refine aw_iinc (v := x5_7) (lv' := [(5, .int x5_7), (6, .int 0), (0, .ref (G.2.1 k)), (1, .ref (G.2.1 a1)), (2, .int a2), (3, .int x3), (4, .int x4)]) dX5_strongest_54 (n0 := 6) rfl (by rw [e_x5_7]; rfl) (by decide) rfl ?_
          refine aw_goto (tgt := 8) dX5_strongest_57 (by decide) ?_
          refine aw_sub (lv' := [(0, .ref (G.2.1 k)), (1, .ref (G.2.1 a1)), (2, .int a2), (3, .int x3), (4, .int x4), (5, .int x5_7)]) [2, 3, 4, 5, 6, 0] rfl ?_
          exact ih _ _ _ _ H
        · replace H := a_neg c6 H
          refine aw_iload dX5_strongest_47 0 rfl ?_
          refine aw_istore (lv' := [(4, .int 0), (6, .int 0), (0, .ref (G.2.1 k)), (1, .ref (G.2.1 a1)), (2, .int a2), (3, .int x3), (5, .int x5)]) dX5_strongest_49 (by decide) rfl ?_
          refine aw_iload dX5_strongest_51 6 rfl ?_
          refine aw_istore_n (lv' := [(3, .int x5), (4, .int 0), (6, .int 0), (0, .ref (G.2.1 k)), (1, .ref (G.2.1 a1)), (2, .int a2), (5, .int x5)]) dX5_strongest_53 rfl (by decide) rfl ?_
          obtain ⟨x5_8, e_x5_8⟩ : ∃ y : Int32, y = x5 + 1 := ⟨_, rfl⟩
          replace H := H x5_8 e_x5_8
          refine aw_iinc (v := x5_8) (lv' := [(5, .int x5_8), (3, .int x5), (4, .int 0), (6, .int 0), (0, .ref (G.2.1 k)), (1, .ref (G.2.1 a1)), (2, .int a2)]) dX5_strongest_54 (n0 := 6) rfl (by rw [e_x5_8]; rfl) (by decide) rfl ?_
          refine aw_goto (tgt := 8) dX5_strongest_57 (by decide) ?_
          refine aw_sub (lv' := [(0, .ref (G.2.1 k)), (1, .ref (G.2.1 a1)), (2, .int a2), (3, .int x5), (4, .int 0), (5, .int x5_8)]) [4, 5, 6, 1, 2, 0] rfl ?_
          exact ih _ _ _ _ H
      · replace H := a_neg c5 H
        refine aw_aload_n dX5_strongest_26 rfl 0 rfl ?_
        refine aw_aload_n dX5_strongest_27 rfl 1 rfl ?_
        refine aw_iload dX5_strongest_28 5 rfl ?_
        refine aw_iload_n dX5_strongest_30 rfl 2 rfl ?_
        refine aw_callV_i (As := [.ref (G.2.1 a1), .int x5, .int a2]) (rest := []) (am_X5_pull d o_k o_a1 H) mf_X5_pull wd_703 wd_704 wd_705 cf_X5 o_k rfl rfl (Nat.le_of_ble_eq_true rfl) dX5_strongest_31 (fun r10 h9 H => ?_)
        refine aw_goto (tgt := 38) dX5_strongest_34 (by decide) ?_
        refine aw_istore (lv' := [(6, .int r10), (0, .ref (G.2.1 k)), (1, .ref (G.2.1 a1)), (2, .int a2), (3, .int x3), (4, .int x4), (5, .int x5)]) dX5_strongest_38 (by decide) rfl ?_
        refine aw_iload dX5_strongest_40 0 rfl ?_
        refine aw_iload dX5_strongest_42 5 rfl ?_
        refine aw_icmp_le (tgt := 54) dX5_strongest_44 (by decide) (fun c11 => ?_) (fun c11 => ?_)
        · replace H := a_pos c11 H
          obtain ⟨x5_12, e_x5_12⟩ : ∃ y : Int32, y = x5 + 1 := ⟨_, rfl⟩
          replace H := H x5_12 e_x5_12
          refine aw_iinc (v := x5_12) (lv' := [(5, .int x5_12), (6, .int r10), (0, .ref (G.2.1 k)), (1, .ref (G.2.1 a1)), (2, .int a2), (3, .int x3), (4, .int x4)]) dX5_strongest_54 (n0 := 6) rfl (by rw [e_x5_12]; rfl) (by decide) rfl ?_
          refine aw_goto (tgt := 8) dX5_strongest_57 (by decide) ?_
          refine aw_sub (lv' := [(0, .ref (G.2.1 k)), (1, .ref (G.2.1 a1)), (2, .int a2), (3, .int x3), (4, .int x4), (5, .int x5_12)]) [2, 3, 4, 5, 6, 0] rfl ?_
          exact ih _ _ _ _ H
        · replace H := a_neg c11 H
          refine aw_iload dX5_strongest_47 0 rfl ?_
          refine aw_istore (lv' := [(4, .int r10), (6, .int r10), (0, .ref (G.2.1 k)), (1, .ref (G.2.1 a1)), (2, .int a2), (3, .int x3), (5, .int x5)]) dX5_strongest_49 (by decide) rfl ?_
          refine aw_iload dX5_strongest_51 6 rfl ?_
          refine aw_istore_n (lv' := [(3, .int x5), (4, .int r10), (6, .int r10), (0, .ref (G.2.1 k)), (1, .ref (G.2.1 a1)), (2, .int a2), (5, .int x5)]) dX5_strongest_53 rfl (by decide) rfl ?_
          obtain ⟨x5_13, e_x5_13⟩ : ∃ y : Int32, y = x5 + 1 := ⟨_, rfl⟩
          replace H := H x5_13 e_x5_13
          refine aw_iinc (v := x5_13) (lv' := [(5, .int x5_13), (3, .int x5), (4, .int r10), (6, .int r10), (0, .ref (G.2.1 k)), (1, .ref (G.2.1 a1)), (2, .int a2)]) dX5_strongest_54 (n0 := 6) rfl (by rw [e_x5_13]; rfl) (by decide) rfl ?_
          refine aw_goto (tgt := 8) dX5_strongest_57 (by decide) ?_
          refine aw_sub (lv' := [(0, .ref (G.2.1 k)), (1, .ref (G.2.1 a1)), (2, .int a2), (3, .int x5), (4, .int r10), (5, .int x5_13)]) [4, 5, 6, 1, 2, 0] rfl ?_
          exact ih _ _ _ _ H
set_option maxHeartbeats 4000000 in
set_option maxRecDepth 100000 in
theorem am_X5_strongest {l : Launch} {S : aS} {G : aG} (d : Nat) {k : Nat} {a1 : Nat} {a2 : Int32} {h : aH} {Q : Int32 → aH → Prop} (o_k : aObj S k 4 flX5) (o_a1 : aObj S a1 1 flX2) (H : f_X5_strongest S k a1 a2 h Q) : AMi l S G (d + 5) M_X5_strongest [.ref (G.2.1 k), .ref (G.2.1 a1), .int a2] h Q := by
  unfold f_X5_strongest at H
  refine am_of mf_X5_strongest (Nat.le_of_ble_eq_true rfl) (lv0 := [(0, .ref (G.2.1 k)), (1, .ref (G.2.1 a1)), (2, .int a2)]) rfl ?_
  refine aw_iconst (v := (-1)) dX5_strongest_0 (by decide) ?_
  refine aw_istore_n (lv' := [(3, .int (-1)), (0, .ref (G.2.1 k)), (1, .ref (G.2.1 a1)), (2, .int a2)]) dX5_strongest_1 rfl (by decide) rfl ?_
  refine aw_iconst (v := 0) dX5_strongest_2 (by decide) ?_
  refine aw_istore (lv' := [(4, .int 0), (3, .int (-1)), (0, .ref (G.2.1 k)), (1, .ref (G.2.1 a1)), (2, .int a2)]) dX5_strongest_3 (by decide) rfl ?_
  refine aw_iconst (v := 0) dX5_strongest_5 (by decide) ?_
  refine aw_istore (lv' := [(5, .int 0), (4, .int 0), (3, .int (-1)), (0, .ref (G.2.1 k)), (1, .ref (G.2.1 a1)), (2, .int a2)]) dX5_strongest_6 (by decide) rfl ?_
  refine aw_sub (lv' := [(0, .ref (G.2.1 k)), (1, .ref (G.2.1 a1)), (2, .int a2), (3, .int (-1)), (4, .int 0), (5, .int 0)]) [3, 4, 5, 2, 1, 0] rfl ?_
  obtain ⟨n1, H⟩ := H
  exact fm_X5_strongest_8 d o_k o_a1 n1 _ _ _ _ H
set_option maxHeartbeats 4000000 in
set_option maxRecDepth 100000 in
theorem fm_X5_thaw_15 {l : Launch} {S : aS} {G : aG} (d : Nat) {k : Nat} {a1 : Nat} {Q : aH → Prop} (o_k : aObj S k 4 flX5) (o_a1 : aObj S a1 1 flX2) : ∀ (n : Nat) (x2 : Int32) (h : aH), f_X5_thaw_15 S k a1 Q n x2 h → AW l S G (d + 3) M_X5_thaw (va_Qv Q (aPo S G) (aA S G)) 15 [(0, .ref (G.2.1 k)), (1, .ref (G.2.1 a1)), (2, .int x2)] [] h := by
  intro n
  induction n with
  | zero => intro x2 h H; exact False.elim H
  | succ n ih =>
    intro x2 h H
    unfold f_X5_thaw_15 at H
    refine aw_iload_n dX5_thaw_15 rfl 2 rfl ?_
    refine aw_sipush (v := 256) dX5_thaw_16 (by decide) ?_
    refine aw_icmp_ge (tgt := 87) dX5_thaw_19 (by decide) (fun c1 => ?_) (fun c1 => ?_)
    · replace H := a_pos c1 H
      exact aw_vret rfl H dX5_thaw_87
    · replace H := a_neg c1 H
      refine aw_aload_n dX5_thaw_22 rfl 1 rfl ?_
      refine aw_getR cf_X2 0 (by decide) rfl wd_37 o_a1 dX5_thaw_23 ?_
      refine aw_iload_n dX5_thaw_26 rfl 2 rfl ?_
      obtain ⟨z2, H⟩ := H
      refine aw_iaload z2 dX5_thaw_27 ?_
      refine aw_name (fun v3 e_v3 => ?_)
      replace H := H v3 e_v3
      refine aw_if_le (tgt := 81) dX5_thaw_28 (by decide) (fun c4 => ?_) (fun c4 => ?_)
      · replace H := a_pos c4 H
        obtain ⟨x2_5, e_x2_5⟩ : ∃ y : Int32, y = x2 + 1 := ⟨_, rfl⟩
        replace H := H x2_5 e_x2_5
        refine aw_iinc (v := x2_5) (lv' := [(2, .int x2_5), (0, .ref (G.2.1 k)), (1, .ref (G.2.1 a1))]) dX5_thaw_81 (n0 := 2) rfl (by rw [e_x2_5]; rfl) (by decide) rfl ?_
        refine aw_goto (tgt := 15) dX5_thaw_84 (by decide) ?_
        refine aw_sub (lv' := [(0, .ref (G.2.1 k)), (1, .ref (G.2.1 a1)), (2, .int x2_5)]) [1, 2, 0] rfl ?_
        exact ih _ _ H
      · replace H := a_neg c4 H
        refine aw_aload_n dX5_thaw_31 rfl 1 rfl ?_
        refine aw_iload_n dX5_thaw_32 rfl 2 rfl ?_
        refine aw_callV_i (As := [.int x2]) (rest := []) (am_X2_isBroken (d + 2) o_a1 H) mf_X2_isBroken wd_688 wd_353 wd_354 cf_X2 o_a1 rfl rfl (Nat.le_of_ble_eq_true rfl) dX5_thaw_33 (fun r7 h6 H => ?_)
        refine aw_if_ne (tgt := 81) dX5_thaw_36 (by decide) (fun c8 => ?_) (fun c8 => ?_)
        · replace H := a_pos c8 H
          obtain ⟨x2_9, e_x2_9⟩ : ∃ y : Int32, y = x2 + 1 := ⟨_, rfl⟩
          replace H := H x2_9 e_x2_9
          refine aw_iinc (v := x2_9) (lv' := [(2, .int x2_9), (0, .ref (G.2.1 k)), (1, .ref (G.2.1 a1))]) dX5_thaw_81 (n0 := 2) rfl (by rw [e_x2_9]; rfl) (by decide) rfl ?_
          refine aw_goto (tgt := 15) dX5_thaw_84 (by decide) ?_
          refine aw_sub (lv' := [(0, .ref (G.2.1 k)), (1, .ref (G.2.1 a1)), (2, .int x2_9)]) [1, 2, 0] rfl ?_
          exact ih _ _ H
        · replace H := a_neg2 c8 H
          refine aw_aload_n dX5_thaw_39 rfl 0 rfl ?_
          refine aw_getR cf_X5 0 (by decide) rfl wd_199 o_k dX5_thaw_40 ?_
          refine aw_aload_n dX5_thaw_43 rfl 1 rfl ?_
          refine aw_iload_n dX5_thaw_44 rfl 2 rfl ?_
          refine aw_aload_n dX5_thaw_45 rfl 1 rfl ?_
          refine aw_iload_n dX5_thaw_46 rfl 2 rfl ?_
          refine aw_callV_i (As := [.int x2]) (rest := [.int x2, .ref (G.2.1 a1), .ref (G.2.1 (gR h6 k 0))]) (am_X2_kindAt (d + 1) o_a1 H) mf_X2_kindAt wd_660 wd_661 wd_662 cf_X2 o_a1 rfl rfl (Nat.le_of_ble_eq_true rfl) dX5_thaw_47 (fun r11 h10 H => ?_)
          obtain ⟨o12, H⟩ := H
          refine aw_callV_v (As := [.ref (G.2.1 a1), .int x2, .int r11]) (rest := []) (am_X3_lookAt (d + 1) o12 o_a1 H) mf_X3_lookAt wd_576 wd_577 wd_578 cf_X3 o12 rfl rfl (Nat.le_of_ble_eq_true rfl) dX5_thaw_50 (fun h13 H => ?_)
          refine aw_aload_n dX5_thaw_53 rfl 1 rfl ?_
          refine aw_getR cf_X2 0 (by decide) rfl wd_37 o_a1 dX5_thaw_54 ?_
          refine aw_iload_n dX5_thaw_57 rfl 2 rfl ?_
          refine aw_iconst (v := 0) dX5_thaw_58 (by decide) ?_
          refine aw_aload_n dX5_thaw_59 rfl 1 rfl ?_
          refine aw_getR cf_X2 0 (by decide) rfl wd_37 o_a1 dX5_thaw_60 ?_
          refine aw_iload_n dX5_thaw_63 rfl 2 rfl ?_
          obtain ⟨z14, H⟩ := H
          refine aw_iaload z14 dX5_thaw_64 ?_
          refine aw_name (fun v15 e_v15 => ?_)
          replace H := H v15 e_v15
          refine aw_aload_n dX5_thaw_65 rfl 0 rfl ?_
          refine aw_getR cf_X5 0 (by decide) rfl wd_199 o_k dX5_thaw_66 ?_
          refine aw_bipush (v := 116) dX5_thaw_69 (by decide) ?_
          refine aw_bipush (v := 9) dX5_thaw_71 (by decide) ?_
          obtain ⟨o16, H⟩ := H
          refine aw_callV_i (As := [.int 116, .int 9]) (rest := [.int v15, .int 0, .int x2, .ref (G.2.1 (gR h13 a1 0))]) (am_X3_says d o16 H) mf_X3_says wd_582 wd_583 wd_584 cf_X3 o16 rfl rfl (Nat.le_of_ble_eq_true rfl) dX5_thaw_73 (fun r18 h17 H => ?_)
          refine aw_isub dX5_thaw_76 ?_
          refine aw_mmax wd_689 wd_475 wd_15 wd_476 (Nat.le_of_ble_eq_true rfl) dX5_thaw_77 ?_
          refine aw_name (fun v19 e_v19 => ?_)
          replace H := H v19 e_v19
          obtain ⟨z20, H⟩ := H
          refine aw_iastore z20 dX5_thaw_80 ?_
          refine aw_nameH (fun h21 e_h21 => ?_)
          replace H := H h21 e_h21
          obtain ⟨x2_22, e_x2_22⟩ : ∃ y : Int32, y = x2 + 1 := ⟨_, rfl⟩
          replace H := H x2_22 e_x2_22
          refine aw_iinc (v := x2_22) (lv' := [(2, .int x2_22), (0, .ref (G.2.1 k)), (1, .ref (G.2.1 a1))]) dX5_thaw_81 (n0 := 2) rfl (by rw [e_x2_22]; rfl) (by decide) rfl ?_
          refine aw_goto (tgt := 15) dX5_thaw_84 (by decide) ?_
          refine aw_sub (lv' := [(0, .ref (G.2.1 k)), (1, .ref (G.2.1 a1)), (2, .int x2_22)]) [1, 2, 0] rfl ?_
          exact ih _ _ H
set_option maxHeartbeats 4000000 in
set_option maxRecDepth 100000 in
theorem am_X5_thaw {l : Launch} {S : aS} {G : aG} (d : Nat) {k : Nat} {a1 : Nat} {h : aH} {Q : aH → Prop} (o_k : aObj S k 4 flX5) (o_a1 : aObj S a1 1 flX2) (H : f_X5_thaw S k a1 h Q) : AMv l S G (d + 3) M_X5_thaw [.ref (G.2.1 k), .ref (G.2.1 a1)] h Q := by
  unfold f_X5_thaw at H
  refine am_of mf_X5_thaw (Nat.le_of_ble_eq_true rfl) (lv0 := [(0, .ref (G.2.1 k)), (1, .ref (G.2.1 a1))]) rfl ?_
  refine aw_aload_n dX5_thaw_0 rfl 0 rfl ?_
  refine aw_getR cf_X5 0 (by decide) rfl wd_199 o_k dX5_thaw_1 ?_
  refine aw_bipush (v := 116) dX5_thaw_4 (by decide) ?_
  obtain ⟨o23, H⟩ := H
  refine aw_callV_i (As := [.int 116]) (rest := []) (am_X3_has (d + 2) o23 H) mf_X3_has wd_684 wd_685 wd_686 cf_X3 o23 rfl rfl (Nat.le_of_ble_eq_true rfl) dX5_thaw_6 (fun r25 h24 H => ?_)
  refine aw_if_ne (tgt := 13) dX5_thaw_9 (by decide) (fun c26 => ?_) (fun c26 => ?_)
  · replace H := a_pos c26 H
    refine aw_iconst (v := 0) dX5_thaw_13 (by decide) ?_
    refine aw_istore_n (lv' := [(2, .int 0), (0, .ref (G.2.1 k)), (1, .ref (G.2.1 a1))]) dX5_thaw_14 rfl (by decide) rfl ?_
    refine aw_sub (lv' := [(0, .ref (G.2.1 k)), (1, .ref (G.2.1 a1)), (2, .int 0)]) [1, 2, 0] rfl ?_
    obtain ⟨n1, H⟩ := H
    exact fm_X5_thaw_15 d o_k o_a1 n1 _ _ H
  · replace H := a_neg2 c26 H
    exact aw_vret rfl H dX5_thaw_12
set_option maxHeartbeats 4000000 in
set_option maxRecDepth 100000 in
theorem am_J6_compare_7cf53 {l : Launch} {S : aS} {G : aG} (d : Nat) {a0 : Int32} {a1 : Int32} {h : aH} {Q : Int32 → aH → Prop} (H : f_J6_compare_7cf53 S a0 a1 h Q) : AMi l S G d M_J6_compare_7cf53 [.int a0, .int a1] h Q := by
  unfold f_J6_compare_7cf53 at H
  refine am_of mf_J6_compare_7cf53 (Nat.le_of_ble_eq_true rfl) (lv0 := [(0, .int a0), (1, .int a1)]) rfl ?_
  refine aw_iload_n dJ6_compare_7cf53_0 rfl 0 rfl ?_
  refine aw_iload_n dJ6_compare_7cf53_1 rfl 1 rfl ?_
  refine aw_icmp_ge (tgt := 9) dJ6_compare_7cf53_2 (by decide) (fun c1 => ?_) (fun c1 => ?_)
  · replace H := a_pos c1 H
    refine aw_iload_n dJ6_compare_7cf53_9 rfl 0 rfl ?_
    refine aw_iload_n dJ6_compare_7cf53_10 rfl 1 rfl ?_
    refine aw_icmp_ne (tgt := 18) dJ6_compare_7cf53_11 (by decide) (fun c2 => ?_) (fun c2 => ?_)
    · replace H := a_pos c2 H
      refine aw_iconst (v := 1) dJ6_compare_7cf53_18 (by decide) ?_
      exact aw_iret rfl H dJ6_compare_7cf53_19
    · replace H := a_neg2 c2 H
      refine aw_iconst (v := 0) dJ6_compare_7cf53_14 (by decide) ?_
      refine aw_goto (tgt := 19) dJ6_compare_7cf53_15 (by decide) ?_
      exact aw_iret rfl H dJ6_compare_7cf53_19
  · replace H := a_neg c1 H
    refine aw_iconst (v := (-1)) dJ6_compare_7cf53_5 (by decide) ?_
    refine aw_goto (tgt := 19) dJ6_compare_7cf53_6 (by decide) ?_
    exact aw_iret rfl H dJ6_compare_7cf53_19
set_option maxHeartbeats 4000000 in
set_option maxRecDepth 100000 in
theorem am_X5_walk {l : Launch} {S : aS} {G : aG} (d : Nat) {k : Nat} {a1 : Nat} {a2 : Int32} {a3 : Int32} {h : aH} {Q : aH → Prop} (o_k : aObj S k 4 flX5) (o_a1 : aObj S a1 1 flX2) (H : f_X5_walk S k a1 a2 a3 h Q) : AMv l S G (d + 3) M_X5_walk [.ref (G.2.1 k), .ref (G.2.1 a1), .int a2, .int a3] h Q := by
  unfold f_X5_walk at H
  refine am_of mf_X5_walk (Nat.le_of_ble_eq_true rfl) (lv0 := [(0, .ref (G.2.1 k)), (1, .ref (G.2.1 a1)), (2, .int a2), (3, .int a3)]) rfl ?_
  refine aw_iload_n dX5_walk_0 rfl 3 rfl ?_
  refine aw_iconst (v := (-1)) dX5_walk_1 (by decide) ?_
  refine aw_icmp_ne (tgt := 6) dX5_walk_2 (by decide) (fun c1 => ?_) (fun c1 => ?_)
  · replace H := a_pos c1 H
    refine aw_aload_n dX5_walk_6 rfl 1 rfl ?_
    refine aw_getR cf_X2 10 (by decide) rfl wd_69 o_a1 dX5_walk_7 ?_
    refine aw_iload_n dX5_walk_10 rfl 2 rfl ?_
    obtain ⟨z2, H⟩ := H
    refine aw_iaload z2 dX5_walk_11 ?_
    refine aw_name (fun v3 e_v3 => ?_)
    replace H := H v3 e_v3
    refine aw_istore (lv' := [(4, .int v3), (0, .ref (G.2.1 k)), (1, .ref (G.2.1 a1)), (2, .int a2), (3, .int a3)]) dX5_walk_12 (by decide) rfl ?_
    refine aw_aload_n dX5_walk_14 rfl 2 rfl ?_
    refine aw_getR cf_X2 4 (by decide) rfl wd_48 o_a1 dX5_walk_15 ?_
    refine aw_iload_n dX5_walk_18 rfl 4 rfl ?_
    obtain ⟨z4, H⟩ := H
    refine aw_iaload z4 dX5_walk_19 ?_
    refine aw_name (fun v5 e_v5 => ?_)
    replace H := H v5 e_v5
    refine aw_istore (lv' := [(5, .int v5), (4, .int v3), (0, .ref (G.2.1 k)), (1, .ref (G.2.1 a1)), (2, .int a2), (3, .int a3)]) dX5_walk_20 (by decide) rfl ?_
    refine aw_iload dX5_walk_22 1 rfl ?_
    refine aw_iload dX5_walk_24 0 rfl ?_
    refine aw_callS_i (As := [.int v3, .int v5]) (rest := []) (am_X1_way (d + 1) H) mf_X1_way wd_727 wd_713 rfl rfl (Nat.le_of_ble_eq_true rfl) dX5_walk_26 (fun r7 h6 H => ?_)
    refine aw_iconst (v := 1) dX5_walk_29 (by decide) ?_
    refine aw_icmp_gt (tgt := 34) dX5_walk_30 (by decide) (fun c8 => ?_) (fun c8 => ?_)
    · replace H := a_pos c8 H
      refine aw_iload dX5_walk_34 0 rfl ?_
      refine aw_callS_i (As := [.int v5]) (rest := []) (am_X1_xOf (d + 2) H) mf_X1_xOf wd_728 wd_371 rfl rfl (Nat.le_of_ble_eq_true rfl) dX5_walk_36 (fun r10 h9 H => ?_)
      refine aw_iload dX5_walk_39 1 rfl ?_
      refine aw_callS_i (As := [.int v3]) (rest := [.int r10]) (am_X1_xOf (d + 2) H) mf_X1_xOf wd_728 wd_371 rfl rfl (Nat.le_of_ble_eq_true rfl) dX5_walk_41 (fun r12 h11 H => ?_)
      refine aw_callS_i (As := [.int r10, .int r12]) (rest := []) (am_J6_compare_7cf53 (d + 2) H) mf_J6_compare_7cf53 wd_729 wd_730 rfl rfl (Nat.le_of_ble_eq_true rfl) dX5_walk_44 (fun r14 h13 H => ?_)
      refine aw_istore (lv' := [(6, .int r14), (5, .int v5), (4, .int v3), (0, .ref (G.2.1 k)), (1, .ref (G.2.1 a1)), (2, .int a2), (3, .int a3)]) dX5_walk_47 (by decide) rfl ?_
      refine aw_iload dX5_walk_49 1 rfl ?_
      refine aw_callS_i (As := [.int v5]) (rest := []) (am_X1_yOf (d + 2) H) mf_X1_yOf wd_732 wd_374 rfl rfl (Nat.le_of_ble_eq_true rfl) dX5_walk_51 (fun r16 h15 H => ?_)
      refine aw_iload dX5_walk_54 2 rfl ?_
      refine aw_callS_i (As := [.int v3]) (rest := [.int r16]) (am_X1_yOf (d + 2) H) mf_X1_yOf wd_732 wd_374 rfl rfl (Nat.le_of_ble_eq_true rfl) dX5_walk_56 (fun r18 h17 H => ?_)
      refine aw_callS_i (As := [.int r16, .int r18]) (rest := []) (am_J6_compare_7cf53 (d + 2) H) mf_J6_compare_7cf53 wd_729 wd_730 rfl rfl (Nat.le_of_ble_eq_true rfl) dX5_walk_59 (fun r20 h19 H => ?_)
      refine aw_istore (lv' := [(7, .int r20), (6, .int r14), (5, .int v5), (4, .int v3), (0, .ref (G.2.1 k)), (1, .ref (G.2.1 a1)), (2, .int a2), (3, .int a3)]) dX5_walk_62 (by decide) rfl ?_
      refine aw_iload dX5_walk_64 1 rfl ?_
      refine aw_if_eq (tgt := 84) dX5_walk_66 (by decide) (fun c21 => ?_) (fun c21 => ?_)
      · replace H := a_pos c21 H
        refine aw_iconst (v := 0) dX5_walk_84 (by decide) ?_
        refine aw_istore (lv' := [(8, .int 0), (7, .int r20), (6, .int r14), (5, .int v5), (4, .int v3), (0, .ref (G.2.1 k)), (1, .ref (G.2.1 a1)), (2, .int a2), (3, .int a3)]) dX5_walk_85 (by decide) rfl ?_
        refine aw_iload dX5_walk_87 0 rfl ?_
        refine aw_if_ne (tgt := 106) dX5_walk_89 (by decide) (fun c22 => ?_) (fun c22 => ?_)
        · replace H := a_pos c22 H
          exact aw_vret rfl H dX5_walk_106
        · replace H := a_neg2 c22 H
          refine aw_iload dX5_walk_92 1 rfl ?_
          refine aw_if_eq (tgt := 106) dX5_walk_94 (by decide) (fun c23 => ?_) (fun c23 => ?_)
          · replace H := a_pos c23 H
            exact aw_vret rfl H dX5_walk_106
          · replace H := a_neg c23 H
            refine aw_aload_n dX5_walk_97 rfl 6 rfl ?_
            refine aw_iload_n dX5_walk_98 rfl 7 rfl ?_
            refine aw_iconst (v := 0) dX5_walk_99 (by decide) ?_
            refine aw_iload dX5_walk_100 1 rfl ?_
            refine aw_callV_i (As := [.int a2, .int 0, .int r20]) (rest := []) (am_X2_stepGroup d o_a1 H) mf_X2_stepGroup wd_733 wd_734 wd_735 cf_X2 o_a1 rfl rfl (Nat.le_of_ble_eq_true rfl) dX5_walk_102 (fun r25 h24 H => ?_)
            refine aw_pop dX5_walk_105 rfl ?_
            exact aw_vret rfl H dX5_walk_106
      · replace H := a_neg c21 H
        refine aw_aload_n dX5_walk_69 rfl 5 rfl ?_
        refine aw_iload_n dX5_walk_70 rfl 6 rfl ?_
        refine aw_iload dX5_walk_71 1 rfl ?_
        refine aw_iconst (v := 0) dX5_walk_73 (by decide) ?_
        refine aw_callV_i (As := [.int a2, .int r14, .int 0]) (rest := []) (am_X2_stepGroup d o_a1 H) mf_X2_stepGroup wd_733 wd_734 wd_735 cf_X2 o_a1 rfl rfl (Nat.le_of_ble_eq_true rfl) dX5_walk_74 (fun r27 h26 H => ?_)
        refine aw_if_eq (tgt := 84) dX5_walk_77 (by decide) (fun c28 => ?_) (fun c28 => ?_)
        · replace H := a_pos c28 H
          refine aw_iconst (v := 0) dX5_walk_84 (by decide) ?_
          refine aw_istore (lv' := [(8, .int 0), (7, .int r20), (6, .int r14), (5, .int v5), (4, .int v3), (0, .ref (G.2.1 k)), (1, .ref (G.2.1 a1)), (2, .int a2), (3, .int a3)]) dX5_walk_85 (by decide) rfl ?_
          refine aw_iload dX5_walk_87 0 rfl ?_
          refine aw_if_ne (tgt := 106) dX5_walk_89 (by decide) (fun c29 => ?_) (fun c29 => ?_)
          · replace H := a_pos c29 H
            exact aw_vret rfl H dX5_walk_106
          · replace H := a_neg2 c29 H
            refine aw_iload dX5_walk_92 1 rfl ?_
            refine aw_if_eq (tgt := 106) dX5_walk_94 (by decide) (fun c30 => ?_) (fun c30 => ?_)
            · replace H := a_pos c30 H
              exact aw_vret rfl H dX5_walk_106
            · replace H := a_neg c30 H
              refine aw_aload_n dX5_walk_97 rfl 6 rfl ?_
              refine aw_iload_n dX5_walk_98 rfl 7 rfl ?_
              refine aw_iconst (v := 0) dX5_walk_99 (by decide) ?_
              refine aw_iload dX5_walk_100 1 rfl ?_
              refine aw_callV_i (As := [.int a2, .int 0, .int r20]) (rest := []) (am_X2_stepGroup d o_a1 H) mf_X2_stepGroup wd_733 wd_734 wd_735 cf_X2 o_a1 rfl rfl (Nat.le_of_ble_eq_true rfl) dX5_walk_102 (fun r32 h31 H => ?_)
              refine aw_pop dX5_walk_105 rfl ?_
              exact aw_vret rfl H dX5_walk_106
        · replace H := a_neg c28 H
          refine aw_iconst (v := 1) dX5_walk_80 (by decide) ?_
          refine aw_goto (tgt := 85) dX5_walk_81 (by decide) ?_
          refine aw_istore (lv' := [(8, .int 1), (7, .int r20), (6, .int r14), (5, .int v5), (4, .int v3), (0, .ref (G.2.1 k)), (1, .ref (G.2.1 a1)), (2, .int a2), (3, .int a3)]) dX5_walk_85 (by decide) rfl ?_
          refine aw_iload dX5_walk_87 0 rfl ?_
          refine aw_if_ne (tgt := 106) dX5_walk_89 (by decide) (fun c33 => ?_) (fun c33 => ?_)
          · replace H := a_pos c33 H
            exact aw_vret rfl H dX5_walk_106
          · replace H := a_neg2 c33 H
            refine aw_iload dX5_walk_92 1 rfl ?_
            refine aw_if_eq (tgt := 106) dX5_walk_94 (by decide) (fun c34 => ?_) (fun c34 => ?_)
            · replace H := a_pos c34 H
              exact aw_vret rfl H dX5_walk_106
            · replace H := a_neg c34 H
              refine aw_aload_n dX5_walk_97 rfl 6 rfl ?_
              refine aw_iload_n dX5_walk_98 rfl 7 rfl ?_
              refine aw_iconst (v := 0) dX5_walk_99 (by decide) ?_
              refine aw_iload dX5_walk_100 1 rfl ?_
              refine aw_callV_i (As := [.int a2, .int 0, .int r20]) (rest := []) (am_X2_stepGroup d o_a1 H) mf_X2_stepGroup wd_733 wd_734 wd_735 cf_X2 o_a1 rfl rfl (Nat.le_of_ble_eq_true rfl) dX5_walk_102 (fun r36 h35 H => ?_)
              refine aw_pop dX5_walk_105 rfl ?_
              exact aw_vret rfl H dX5_walk_106
    · replace H := a_neg c8 H
      exact aw_vret rfl H dX5_walk_33
  · replace H := a_neg2 c1 H
    exact aw_vret rfl H dX5_walk_5
set_option maxHeartbeats 4000000 in
set_option maxRecDepth 100000 in
theorem fm_X5_isListed_2 {l : Launch} {S : aS} {G : aG} (d : Nat) {k : Nat} {a1 : Int32} {a2 : Int32} {Q : Int32 → aH → Prop} (o_k : aObj S k 4 flX5) : ∀ (n : Nat) (x3 : Int32) (h : aH), f_X5_isListed_2 S k a1 a2 Q n x3 h → AW l S G d M_X5_isListed (va_Qi Q (aPo S G) (aA S G)) 2 [(0, .ref (G.2.1 k)), (1, .int a1), (2, .int a2), (3, .int x3)] [] h := by
  intro n
  induction n with
  | zero => intro x3 h H; exact False.elim H
  | succ n ih =>
    intro x3 h H
    unfold f_X5_isListed_2 at H
    refine aw_iload_n dX5_isListed_2 rfl 3 rfl ?_
    refine aw_iload_n dX5_isListed_3 rfl 2 rfl ?_
    refine aw_icmp_ge (tgt := 25) dX5_isListed_4 (by decide) (fun c1 => ?_) (fun c1 => ?_)
    · replace H := a_pos c1 H
      refine aw_iconst (v := 0) dX5_isListed_25 (by decide) ?_
      exact aw_zret rfl rfl H dX5_isListed_26
    · replace H := a_neg c1 H
      refine aw_aload_n dX5_isListed_7 rfl 0 rfl ?_
      refine aw_getR cf_X5 1 (by decide) rfl wd_201 o_k dX5_isListed_8 ?_
      refine aw_iload_n dX5_isListed_11 rfl 3 rfl ?_
      obtain ⟨z2, H⟩ := H
      refine aw_iaload z2 dX5_isListed_12 ?_
      refine aw_name (fun v3 e_v3 => ?_)
      replace H := H v3 e_v3
      refine aw_iload_n dX5_isListed_13 rfl 1 rfl ?_
      refine aw_icmp_ne (tgt := 19) dX5_isListed_14 (by decide) (fun c4 => ?_) (fun c4 => ?_)
      · replace H := a_pos c4 H
        obtain ⟨x3_5, e_x3_5⟩ : ∃ y : Int32, y = x3 + 1 := ⟨_, rfl⟩
        replace H := H x3_5 e_x3_5
        refine aw_iinc (v := x3_5) (lv' := [(3, .int x3_5), (0, .ref (G.2.1 k)), (1, .int a1), (2, .int a2)]) dX5_isListed_19 (n0 := 3) rfl (by rw [e_x3_5]; rfl) (by decide) rfl ?_
        refine aw_goto (tgt := 2) dX5_isListed_22 (by decide) ?_
        refine aw_sub (lv' := [(0, .ref (G.2.1 k)), (1, .int a1), (2, .int a2), (3, .int x3_5)]) [1, 2, 3, 0] rfl ?_
        exact ih _ _ H
      · replace H := a_neg2 c4 H
        refine aw_iconst (v := 1) dX5_isListed_17 (by decide) ?_
        exact aw_zret rfl rfl H dX5_isListed_18
set_option maxHeartbeats 4000000 in
set_option maxRecDepth 100000 in
theorem am_X5_isListed {l : Launch} {S : aS} {G : aG} (d : Nat) {k : Nat} {a1 : Int32} {a2 : Int32} {h : aH} {Q : Int32 → aH → Prop} (o_k : aObj S k 4 flX5) (H : f_X5_isListed S k a1 a2 h Q) : AMi l S G d M_X5_isListed [.ref (G.2.1 k), .int a1, .int a2] h Q := by
  unfold f_X5_isListed at H
  refine am_of mf_X5_isListed (Nat.le_of_ble_eq_true rfl) (lv0 := [(0, .ref (G.2.1 k)), (1, .int a1), (2, .int a2)]) rfl ?_
  refine aw_iconst (v := 0) dX5_isListed_0 (by decide) ?_
  refine aw_istore_n (lv' := [(3, .int 0), (0, .ref (G.2.1 k)), (1, .int a1), (2, .int a2)]) dX5_isListed_1 rfl (by decide) rfl ?_
  refine aw_sub (lv' := [(0, .ref (G.2.1 k)), (1, .int a1), (2, .int a2), (3, .int 0)]) [1, 2, 3, 0] rfl ?_
  obtain ⟨n1, H⟩ := H
  exact fm_X5_isListed_2 d o_k n1 _ _ H
set_option maxHeartbeats 4000000 in
set_option maxRecDepth 100000 in
theorem fm_X5_findOverloaded_4 {l : Launch} {S : aS} {G : aG} (d : Nat) {k : Nat} {a1 : Nat} {Q : Int32 → aH → Prop} (o_k : aObj S k 4 flX5) (o_a1 : aObj S a1 1 flX2) : ∀ (n : Nat) (x2 : Int32) (x3 : Int32) (h : aH), f_X5_findOverloaded_4 S k a1 Q n x2 x3 h → AW l S G (d + 4) M_X5_findOverloaded (va_Qi Q (aPo S G) (aA S G)) 4 [(0, .ref (G.2.1 k)), (1, .ref (G.2.1 a1)), (2, .int x2), (3, .int x3)] [] h := by
  intro n
  induction n with
  | zero => intro x2 x3 h H; exact False.elim H
  | succ n ih =>
    intro x2 x3 h H
    unfold f_X5_findOverloaded_4 at H
    refine aw_iload_n dX5_findOverloaded_4 rfl 3 rfl ?_
    refine aw_aload_n dX5_findOverloaded_5 rfl 1 rfl ?_
    refine aw_getI cf_X2 12 (by decide) rfl wd_76 o_a1 dX5_findOverloaded_6 ?_
    refine aw_name (fun v1 e_v1 => ?_)
    replace H := H v1 e_v1
    refine aw_icmp_ge (tgt := 72) dX5_findOverloaded_9 (by decide) (fun c2 => ?_) (fun c2 => ?_)
    · replace H := a_pos c2 H
      refine aw_iload_n dX5_findOverloaded_72 rfl 2 rfl ?_
      exact aw_iret rfl H dX5_findOverloaded_73
    · replace H := a_neg c2 H
      refine aw_aload_n dX5_findOverloaded_12 rfl 1 rfl ?_
      refine aw_getR cf_X2 10 (by decide) rfl wd_69 o_a1 dX5_findOverloaded_13 ?_
      refine aw_iload_n dX5_findOverloaded_16 rfl 3 rfl ?_
      obtain ⟨z3, H⟩ := H
      refine aw_iaload z3 dX5_findOverloaded_17 ?_
      refine aw_name (fun v4 e_v4 => ?_)
      replace H := H v4 e_v4
      refine aw_istore (lv' := [(4, .int v4), (0, .ref (G.2.1 k)), (1, .ref (G.2.1 a1)), (2, .int x2), (3, .int x3)]) dX5_findOverloaded_18 (by decide) rfl ?_
      refine aw_aload_n dX5_findOverloaded_20 rfl 2 rfl ?_
      refine aw_iload dX5_findOverloaded_21 0 rfl ?_
      refine aw_callV_i (As := [.int v4]) (rest := []) (am_X2_isFirm (d + 2) o_a1 H) mf_X2_isFirm wd_650 wd_562 wd_563 cf_X2 o_a1 rfl rfl (Nat.le_of_ble_eq_true rfl) dX5_findOverloaded_23 (fun r6 h5 H => ?_)
      refine aw_if_eq (tgt := 66) dX5_findOverloaded_26 (by decide) (fun c7 => ?_) (fun c7 => ?_)
      · replace H := a_pos c7 H
        obtain ⟨x3_8, e_x3_8⟩ : ∃ y : Int32, y = x3 + 1 := ⟨_, rfl⟩
        replace H := H x3_8 e_x3_8
        refine aw_iinc (v := x3_8) (lv' := [(3, .int x3_8), (4, .int v4), (0, .ref (G.2.1 k)), (1, .ref (G.2.1 a1)), (2, .int x2)]) dX5_findOverloaded_66 (n0 := 4) rfl (by rw [e_x3_8]; rfl) (by decide) rfl ?_
        refine aw_goto (tgt := 4) dX5_findOverloaded_69 (by decide) ?_
        refine aw_sub (lv' := [(0, .ref (G.2.1 k)), (1, .ref (G.2.1 a1)), (2, .int x2), (3, .int x3_8)]) [2, 3, 4, 0] rfl ?_
        exact ih _ _ _ H
      · replace H := a_neg c7 H
        refine aw_aload_n dX5_findOverloaded_29 rfl 1 rfl ?_
        refine aw_iload dX5_findOverloaded_30 0 rfl ?_
        refine aw_iload_n dX5_findOverloaded_32 rfl 3 rfl ?_
        refine aw_callV_i (As := [.int v4, .int x2]) (rest := []) (am_X5_isListed (d + 3) o_k H) mf_X5_isListed wd_651 wd_653 ws_2_1 cf_X5 o_k rfl rfl (Nat.le_of_ble_eq_true rfl) dX5_findOverloaded_33 (fun r10 h9 H => ?_)
        refine aw_if_ne (tgt := 66) dX5_findOverloaded_36 (by decide) (fun c11 => ?_) (fun c11 => ?_)
        · replace H := a_pos c11 H
          obtain ⟨x3_12, e_x3_12⟩ : ∃ y : Int32, y = x3 + 1 := ⟨_, rfl⟩
          replace H := H x3_12 e_x3_12
          refine aw_iinc (v := x3_12) (lv' := [(3, .int x3_12), (4, .int v4), (0, .ref (G.2.1 k)), (1, .ref (G.2.1 a1)), (2, .int x2)]) dX5_findOverloaded_66 (n0 := 4) rfl (by rw [e_x3_12]; rfl) (by decide) rfl ?_
          refine aw_goto (tgt := 4) dX5_findOverloaded_69 (by decide) ?_
          refine aw_sub (lv' := [(0, .ref (G.2.1 k)), (1, .ref (G.2.1 a1)), (2, .int x2), (3, .int x3_12)]) [2, 3, 4, 0] rfl ?_
          exact ih _ _ _ H
        · replace H := a_neg2 c11 H
          refine aw_aload_n dX5_findOverloaded_39 rfl 2 rfl ?_
          refine aw_iload dX5_findOverloaded_40 0 rfl ?_
          refine aw_callV_i (As := [.int v4]) (rest := []) (am_X2_carried (d + 3) o_a1 H) mf_X2_carried wd_655 wd_569 wd_570 cf_X2 o_a1 rfl rfl (Nat.le_of_ble_eq_true rfl) dX5_findOverloaded_42 (fun r14 h13 H => ?_)
          refine aw_aload_n dX5_findOverloaded_45 rfl 1 rfl ?_
          refine aw_aload_n dX5_findOverloaded_46 rfl 2 rfl ?_
          refine aw_iload dX5_findOverloaded_47 0 rfl ?_
          refine aw_callV_i (As := [.ref (G.2.1 a1), .int v4]) (rest := [.int r14]) (am_X5_bears d o_k o_a1 H) mf_X5_bears wd_656 wd_657 wd_658 cf_X5 o_k rfl rfl (Nat.le_of_ble_eq_true rfl) dX5_findOverloaded_49 (fun r16 h15 H => ?_)
          refine aw_icmp_le (tgt := 66) dX5_findOverloaded_52 (by decide) (fun c17 => ?_) (fun c17 => ?_)
          · replace H := a_pos c17 H
            obtain ⟨x3_18, e_x3_18⟩ : ∃ y : Int32, y = x3 + 1 := ⟨_, rfl⟩
            replace H := H x3_18 e_x3_18
            refine aw_iinc (v := x3_18) (lv' := [(3, .int x3_18), (4, .int v4), (0, .ref (G.2.1 k)), (1, .ref (G.2.1 a1)), (2, .int x2)]) dX5_findOverloaded_66 (n0 := 4) rfl (by rw [e_x3_18]; rfl) (by decide) rfl ?_
            refine aw_goto (tgt := 4) dX5_findOverloaded_69 (by decide) ?_
            refine aw_sub (lv' := [(0, .ref (G.2.1 k)), (1, .ref (G.2.1 a1)), (2, .int x2), (3, .int x3_18)]) [2, 3, 4, 0] rfl ?_
            exact ih _ _ _ H
          · replace H := a_neg c17 H
            refine aw_aload_n dX5_findOverloaded_55 rfl 1 rfl ?_
            refine aw_getR cf_X5 1 (by decide) rfl wd_201 o_k dX5_findOverloaded_56 ?_
            refine aw_iload_n dX5_findOverloaded_59 rfl 3 rfl ?_
            refine aw_iload dX5_findOverloaded_60 0 rfl ?_
            obtain ⟨z19, H⟩ := H
            refine aw_iastore z19 dX5_findOverloaded_62 ?_
            refine aw_nameH (fun h20 e_h20 => ?_)
            replace H := H h20 e_h20
            obtain ⟨x2_21, e_x2_21⟩ : ∃ y : Int32, y = x2 + 1 := ⟨_, rfl⟩
            replace H := H x2_21 e_x2_21
            refine aw_iinc (v := x2_21) (lv' := [(2, .int x2_21), (4, .int v4), (0, .ref (G.2.1 k)), (1, .ref (G.2.1 a1)), (3, .int x3)]) dX5_findOverloaded_63 (n0 := 3) rfl (by rw [e_x2_21]; rfl) (by decide) rfl ?_
            obtain ⟨x3_22, e_x3_22⟩ : ∃ y : Int32, y = x3 + 1 := ⟨_, rfl⟩
            replace H := H x3_22 e_x3_22
            refine aw_iinc (v := x3_22) (lv' := [(3, .int x3_22), (2, .int x2_21), (4, .int v4), (0, .ref (G.2.1 k)), (1, .ref (G.2.1 a1))]) dX5_findOverloaded_66 (n0 := 4) rfl (by rw [e_x3_22]; rfl) (by decide) rfl ?_
            refine aw_goto (tgt := 4) dX5_findOverloaded_69 (by decide) ?_
            refine aw_sub (lv' := [(0, .ref (G.2.1 k)), (1, .ref (G.2.1 a1)), (2, .int x2_21), (3, .int x3_22)]) [3, 4, 1, 0] rfl ?_
            exact ih _ _ _ H
set_option maxHeartbeats 4000000 in
set_option maxRecDepth 100000 in
theorem am_X5_findOverloaded {l : Launch} {S : aS} {G : aG} (d : Nat) {k : Nat} {a1 : Nat} {h : aH} {Q : Int32 → aH → Prop} (o_k : aObj S k 4 flX5) (o_a1 : aObj S a1 1 flX2) (H : f_X5_findOverloaded S k a1 h Q) : AMi l S G (d + 4) M_X5_findOverloaded [.ref (G.2.1 k), .ref (G.2.1 a1)] h Q := by
  unfold f_X5_findOverloaded at H
  refine am_of mf_X5_findOverloaded (Nat.le_of_ble_eq_true rfl) (lv0 := [(0, .ref (G.2.1 k)), (1, .ref (G.2.1 a1))]) rfl ?_
  refine aw_iconst (v := 0) dX5_findOverloaded_0 (by decide) ?_
  refine aw_istore_n (lv' := [(2, .int 0), (0, .ref (G.2.1 k)), (1, .ref (G.2.1 a1))]) dX5_findOverloaded_1 rfl (by decide) rfl ?_
  refine aw_iconst (v := 0) dX5_findOverloaded_2 (by decide) ?_
  refine aw_istore_n (lv' := [(3, .int 0), (2, .int 0), (0, .ref (G.2.1 k)), (1, .ref (G.2.1 a1))]) dX5_findOverloaded_3 rfl (by decide) rfl ?_
  refine aw_sub (lv' := [(0, .ref (G.2.1 k)), (1, .ref (G.2.1 a1)), (2, .int 0), (3, .int 0)]) [2, 3, 1, 0] rfl ?_
  obtain ⟨n1, H⟩ := H
  exact fm_X5_findOverloaded_4 d o_k o_a1 n1 _ _ _ H
set_option maxHeartbeats 4000000 in
set_option maxRecDepth 100000 in
theorem fm_X5_settleAll_28 {l : Launch} {S : aS} {G : aG} (d : Nat) {k : Nat} {a1 : Nat} {Q : Int32 → aH → Prop} (o_k : aObj S k 4 flX5) (o_a1 : aObj S a1 1 flX2) {K4 : Int32 → Int32 → aH → Prop} (hK4 : ∀ (x2 : Int32) (x3 : Int32) (h : aH), K4 x2 x3 h → AW l S G (d + 5) M_X5_settleAll (va_Qi Q (aPo S G) (aA S G)) 4 [(0, .ref (G.2.1 k)), (1, .ref (G.2.1 a1)), (2, .int x2), (3, .int x3)] [] h) : ∀ (n : Nat) (x2 : Int32) (x3 : Int32) (x4 : Int32) (x5 : Int32) (h : aH), f_X5_settleAll_28 S k a1 Q K4 n x2 x3 x4 x5 h → AW l S G (d + 5) M_X5_settleAll (va_Qi Q (aPo S G) (aA S G)) 28 [(0, .ref (G.2.1 k)), (1, .ref (G.2.1 a1)), (2, .int x2), (3, .int x3), (4, .int x4), (5, .int x5)] [] h := by
  intro n
  induction n with
  | zero => intro x2 x3 x4 x5 h H; exact False.elim H
  | succ n ih =>
    intro x2 x3 x4 x5 h H
    unfold f_X5_settleAll_28 at H
    refine aw_iload dX5_settleAll_28 5 rfl ?_
    refine aw_iload dX5_settleAll_30 4 rfl ?_
    refine aw_icmp_ge (tgt := 52) dX5_settleAll_32 (by decide) (fun c1 => ?_) (fun c1 => ?_)
    · replace H := a_pos c1 H
      refine aw_iload_n dX5_settleAll_52 rfl 2 rfl ?_
      refine aw_iload dX5_settleAll_53 4 rfl ?_
      refine aw_iadd dX5_settleAll_55 ?_
      refine aw_name (fun x2_2 e_x2_2 => ?_)
      replace H := H x2_2 e_x2_2
      refine aw_istore_n (lv' := [(2, .int x2_2), (0, .ref (G.2.1 k)), (1, .ref (G.2.1 a1)), (3, .int x3), (4, .int x4), (5, .int x5)]) dX5_settleAll_56 rfl (by decide) rfl ?_
      obtain ⟨x3_3, e_x3_3⟩ : ∃ y : Int32, y = x3 + 1 := ⟨_, rfl⟩
      replace H := H x3_3 e_x3_3
      refine aw_iinc (v := x3_3) (lv' := [(3, .int x3_3), (2, .int x2_2), (0, .ref (G.2.1 k)), (1, .ref (G.2.1 a1)), (4, .int x4), (5, .int x5)]) dX5_settleAll_57 (n0 := 3) rfl (by rw [e_x3_3]; rfl) (by decide) rfl ?_
      refine aw_goto (tgt := 4) dX5_settleAll_60 (by decide) ?_
      refine aw_sub (lv' := [(0, .ref (G.2.1 k)), (1, .ref (G.2.1 a1)), (2, .int x2_2), (3, .int x3_3)]) [2, 3, 1, 0] rfl ?_
      exact hK4 _ _ _ H
    · replace H := a_neg c1 H
      refine aw_aload_n dX5_settleAll_35 rfl 1 rfl ?_
      refine aw_aload_n dX5_settleAll_36 rfl 0 rfl ?_
      refine aw_getR cf_X5 1 (by decide) rfl wd_201 o_k dX5_settleAll_37 ?_
      refine aw_iload dX5_settleAll_40 5 rfl ?_
      obtain ⟨z4, H⟩ := H
      refine aw_iaload z4 dX5_settleAll_42 ?_
      refine aw_name (fun v5 e_v5 => ?_)
      replace H := H v5 e_v5
      refine aw_callV_v (As := [.int v5]) (rest := []) (am_X2_breakAt d o_a1 H) mf_X2_breakAt wd_664 wd_665 wd_666 cf_X2 o_a1 rfl rfl (Nat.le_of_ble_eq_true rfl) dX5_settleAll_43 (fun h6 H => ?_)
      obtain ⟨x5_7, e_x5_7⟩ : ∃ y : Int32, y = x5 + 1 := ⟨_, rfl⟩
      replace H := H x5_7 e_x5_7
      refine aw_iinc (v := x5_7) (lv' := [(5, .int x5_7), (0, .ref (G.2.1 k)), (1, .ref (G.2.1 a1)), (2, .int x2), (3, .int x3), (4, .int x4)]) dX5_settleAll_46 (n0 := 5) rfl (by rw [e_x5_7]; rfl) (by decide) rfl ?_
      refine aw_goto (tgt := 28) dX5_settleAll_49 (by decide) ?_
      refine aw_sub (lv' := [(0, .ref (G.2.1 k)), (1, .ref (G.2.1 a1)), (2, .int x2), (3, .int x3), (4, .int x4), (5, .int x5_7)]) [1, 2, 3, 4, 5, 0] rfl ?_
      exact ih _ _ _ _ _ H
set_option maxHeartbeats 4000000 in
set_option maxRecDepth 100000 in
theorem fm_X5_settleAll_4 {l : Launch} {S : aS} {G : aG} (d : Nat) {k : Nat} {a1 : Nat} {Q : Int32 → aH → Prop} (o_k : aObj S k 4 flX5) (o_a1 : aObj S a1 1 flX2) : ∀ (n : Nat) (x2 : Int32) (x3 : Int32) (h : aH), f_X5_settleAll_4 S k a1 Q n x2 x3 h → AW l S G (d + 5) M_X5_settleAll (va_Qi Q (aPo S G) (aA S G)) 4 [(0, .ref (G.2.1 k)), (1, .ref (G.2.1 a1)), (2, .int x2), (3, .int x3)] [] h := by
  intro n
  induction n with
  | zero => intro x2 x3 h H; exact False.elim H
  | succ n ih =>
    intro x2 x3 h H
    unfold f_X5_settleAll_4 at H
    refine aw_iload_n dX5_settleAll_4 rfl 3 rfl ?_
    refine aw_bipush (v := 8) dX5_settleAll_5 (by decide) ?_
    refine aw_icmp_ge (tgt := 63) dX5_settleAll_7 (by decide) (fun c8 => ?_) (fun c8 => ?_)
    · replace H := a_pos c8 H
      refine aw_iload_n dX5_settleAll_63 rfl 2 rfl ?_
      exact aw_iret rfl H dX5_settleAll_64
    · replace H := a_neg c8 H
      refine aw_aload_n dX5_settleAll_10 rfl 0 rfl ?_
      refine aw_aload_n dX5_settleAll_11 rfl 1 rfl ?_
      refine aw_callV_i (As := [.ref (G.2.1 a1)]) (rest := []) (am_X5_findOverloaded d o_k o_a1 H) mf_X5_findOverloaded wd_646 wd_648 ws_2_0 cf_X5 o_k rfl rfl (Nat.le_of_ble_eq_true rfl) dX5_settleAll_12 (fun r10 h9 H => ?_)
      refine aw_istore (lv' := [(4, .int r10), (0, .ref (G.2.1 k)), (1, .ref (G.2.1 a1)), (2, .int x2), (3, .int x3)]) dX5_settleAll_15 (by decide) rfl ?_
      refine aw_iload dX5_settleAll_17 0 rfl ?_
      refine aw_if_ne (tgt := 25) dX5_settleAll_19 (by decide) (fun c11 => ?_) (fun c11 => ?_)
      · replace H := a_pos c11 H
        refine aw_iconst (v := 0) dX5_settleAll_25 (by decide) ?_
        refine aw_istore (lv' := [(5, .int 0), (4, .int r10), (0, .ref (G.2.1 k)), (1, .ref (G.2.1 a1)), (2, .int x2), (3, .int x3)]) dX5_settleAll_26 (by decide) rfl ?_
        refine aw_sub (lv' := [(0, .ref (G.2.1 k)), (1, .ref (G.2.1 a1)), (2, .int x2), (3, .int x3), (4, .int r10), (5, .int 0)]) [2, 3, 4, 5, 1, 0] rfl ?_
        obtain ⟨n1, H⟩ := H
        exact fm_X5_settleAll_28 d o_k o_a1 ih n1 _ _ _ _ _ H
      · replace H := a_neg2 c11 H
        refine aw_goto (tgt := 63) dX5_settleAll_22 (by decide) ?_
        refine aw_iload_n dX5_settleAll_63 rfl 3 rfl ?_
        exact aw_iret rfl H dX5_settleAll_64
set_option maxHeartbeats 4000000 in
set_option maxRecDepth 100000 in
theorem am_X5_settleAll {l : Launch} {S : aS} {G : aG} (d : Nat) {k : Nat} {a1 : Nat} {h : aH} {Q : Int32 → aH → Prop} (o_k : aObj S k 4 flX5) (o_a1 : aObj S a1 1 flX2) (H : f_X5_settleAll S k a1 h Q) : AMi l S G (d + 5) M_X5_settleAll [.ref (G.2.1 k), .ref (G.2.1 a1)] h Q := by
  unfold f_X5_settleAll at H
  refine am_of mf_X5_settleAll (Nat.le_of_ble_eq_true rfl) (lv0 := [(0, .ref (G.2.1 k)), (1, .ref (G.2.1 a1))]) rfl ?_
  refine aw_iconst (v := 0) dX5_settleAll_0 (by decide) ?_
  refine aw_istore_n (lv' := [(2, .int 0), (0, .ref (G.2.1 k)), (1, .ref (G.2.1 a1))]) dX5_settleAll_1 rfl (by decide) rfl ?_
  refine aw_iconst (v := 0) dX5_settleAll_2 (by decide) ?_
  refine aw_istore_n (lv' := [(3, .int 0), (2, .int 0), (0, .ref (G.2.1 k)), (1, .ref (G.2.1 a1))]) dX5_settleAll_3 rfl (by decide) rfl ?_
  refine aw_sub (lv' := [(0, .ref (G.2.1 k)), (1, .ref (G.2.1 a1)), (2, .int 0), (3, .int 0)]) [2, 3, 1, 0] rfl ?_
  obtain ⟨n1, H⟩ := H
  exact fm_X5_settleAll_4 d o_k o_a1 n1 _ _ _ H
set_option maxHeartbeats 4000000 in
set_option maxRecDepth 100000 in
theorem fm_X5_pass_22 {l : Launch} {S : aS} {G : aG} (d : Nat) {k : Nat} {a1 : Nat} {a2 : Int32} {Q : Int32 → aH → Prop} (o_k : aObj S k 4 flX5) (o_a1 : aObj S a1 1 flX2) {K8 : Int32 → Int32 → aH → Prop} (hK8 : ∀ (x3 : Int32) (x4 : Int32) (h : aH), K8 x3 x4 h → AW l S G (d + 6) M_X5_pass (va_Qi Q (aPo S G) (aA S G)) 8 [(0, .ref (G.2.1 k)), (1, .ref (G.2.1 a1)), (2, .int a2), (3, .int x3), (4, .int x4)] [] h) : ∀ (n : Nat) (x3 : Int32) (x4 : Int32) (x5 : Int32) (h : aH), f_X5_pass_22 S k a1 a2 Q K8 n x3 x4 x5 h → AW l S G (d + 6) M_X5_pass (va_Qi Q (aPo S G) (aA S G)) 22 [(0, .ref (G.2.1 k)), (1, .ref (G.2.1 a1)), (2, .int a2), (3, .int x3), (4, .int x4), (5, .int x5)] [] h := by
  intro n
  induction n with
  | zero => intro x3 x4 x5 h H; exact False.elim H
  | succ n ih =>
    intro x3 x4 x5 h H
    unfold f_X5_pass_22 at H
    refine aw_iload dX5_pass_22 5 rfl ?_
    refine aw_aload_n dX5_pass_24 rfl 1 rfl ?_
    refine aw_getI cf_X2 12 (by decide) rfl wd_76 o_a1 dX5_pass_25 ?_
    refine aw_name (fun v1 e_v1 => ?_)
    replace H := H v1 e_v1
    refine aw_icmp_ge (tgt := 64) dX5_pass_28 (by decide) (fun c2 => ?_) (fun c2 => ?_)
    · replace H := a_pos c2 H
      refine aw_aload_n dX5_pass_64 rfl 0 rfl ?_
      refine aw_aload_n dX5_pass_65 rfl 1 rfl ?_
      refine aw_callV_i (As := [.ref (G.2.1 a1)]) (rest := []) (am_X5_settleAll d o_k o_a1 H) mf_X5_settleAll wd_737 wd_643 wd_644 cf_X5 o_k rfl rfl (Nat.le_of_ble_eq_true rfl) dX5_pass_66 (fun r4 h3 H => ?_)
      refine aw_pop dX5_pass_69 rfl ?_
      refine aw_aload_n dX5_pass_70 rfl 1 rfl ?_
      refine aw_dup dX5_pass_71 rfl ?_
      refine aw_getI cf_X2 13 (by decide) rfl wd_79 o_a1 dX5_pass_72 ?_
      refine aw_name (fun v5 e_v5 => ?_)
      replace H := H v5 e_v5
      refine aw_iconst (v := 1) dX5_pass_75 (by decide) ?_
      refine aw_iadd dX5_pass_76 ?_
      refine aw_putI cf_X2 13 (by decide) rfl wd_79 rfl rfl rfl o_a1 dX5_pass_77 ?_
      refine aw_nameH (fun h6 e_h6 => ?_)
      replace H := H h6 e_h6
      obtain ⟨x4_7, e_x4_7⟩ : ∃ y : Int32, y = x4 + 1 := ⟨_, rfl⟩
      replace H := H x4_7 e_x4_7
      refine aw_iinc (v := x4_7) (lv' := [(4, .int x4_7), (0, .ref (G.2.1 k)), (1, .ref (G.2.1 a1)), (2, .int a2), (3, .int x3), (5, .int x5)]) dX5_pass_80 (n0 := 4) rfl (by rw [e_x4_7]; rfl) (by decide) rfl ?_
      refine aw_goto (tgt := 8) dX5_pass_83 (by decide) ?_
      refine aw_sub (lv' := [(0, .ref (G.2.1 k)), (1, .ref (G.2.1 a1)), (2, .int a2), (3, .int x3), (4, .int x4_7)]) [1, 2, 3, 4, 0] rfl ?_
      exact hK8 _ _ _ H
    · replace H := a_neg c2 H
      refine aw_aload_n dX5_pass_31 rfl 0 rfl ?_
      refine aw_aload_n dX5_pass_32 rfl 1 rfl ?_
      refine aw_iload dX5_pass_33 5 rfl ?_
      refine aw_aload_n dX5_pass_35 rfl 1 rfl ?_
      refine aw_iload dX5_pass_36 5 rfl ?_
      refine aw_callV_i (As := [.int x5]) (rest := [.int x5, .ref (G.2.1 a1), .ref (G.2.1 k)]) (am_X2_isAfloat (d + 4) o_a1 H) mf_X2_isAfloat wd_690 wd_691 wd_692 cf_X2 o_a1 rfl rfl (Nat.le_of_ble_eq_true rfl) dX5_pass_38 (fun r9 h8 H => ?_)
      refine aw_if_eq (tgt := 54) dX5_pass_41 (by decide) (fun c10 => ?_) (fun c10 => ?_)
      · replace H := a_pos c10 H
        refine aw_iconst (v := (-1)) dX5_pass_54 (by decide) ?_
        refine aw_callV_v (As := [.ref (G.2.1 a1), .int x5, .int (-1)]) (rest := []) (am_X5_walk (d + 2) o_k o_a1 H) mf_X5_walk wd_723 wd_725 ws_2_3 cf_X5 o_k rfl rfl (Nat.le_of_ble_eq_true rfl) dX5_pass_55 (fun h11 H => ?_)
        obtain ⟨x5_12, e_x5_12⟩ : ∃ y : Int32, y = x5 + 1 := ⟨_, rfl⟩
        replace H := H x5_12 e_x5_12
        refine aw_iinc (v := x5_12) (lv' := [(5, .int x5_12), (0, .ref (G.2.1 k)), (1, .ref (G.2.1 a1)), (2, .int a2), (3, .int x3), (4, .int x4)]) dX5_pass_58 (n0 := 5) rfl (by rw [e_x5_12]; rfl) (by decide) rfl ?_
        refine aw_goto (tgt := 22) dX5_pass_61 (by decide) ?_
        refine aw_sub (lv' := [(0, .ref (G.2.1 k)), (1, .ref (G.2.1 a1)), (2, .int a2), (3, .int x3), (4, .int x4), (5, .int x5_12)]) [1, 2, 3, 4, 5, 0] rfl ?_
        exact ih _ _ _ _ H
      · replace H := a_neg c10 H
        refine aw_aload_n dX5_pass_44 rfl 0 rfl ?_
        refine aw_aload_n dX5_pass_45 rfl 1 rfl ?_
        refine aw_iload dX5_pass_46 5 rfl ?_
        refine aw_callV_i (As := [.ref (G.2.1 a1), .int x5]) (rest := [.int x5, .ref (G.2.1 a1), .ref (G.2.1 k)]) (am_X5_strongest d o_k o_a1 H) mf_X5_strongest wd_698 wd_699 wd_700 cf_X5 o_k rfl rfl (Nat.le_of_ble_eq_true rfl) dX5_pass_48 (fun r14 h13 H => ?_)
        refine aw_goto (tgt := 55) dX5_pass_51 (by decide) ?_
        refine aw_callV_v (As := [.ref (G.2.1 a1), .int x5, .int r14]) (rest := []) (am_X5_walk (d + 2) o_k o_a1 H) mf_X5_walk wd_723 wd_725 ws_2_3 cf_X5 o_k rfl rfl (Nat.le_of_ble_eq_true rfl) dX5_pass_55 (fun h15 H => ?_)
        obtain ⟨x5_16, e_x5_16⟩ : ∃ y : Int32, y = x5 + 1 := ⟨_, rfl⟩
        replace H := H x5_16 e_x5_16
        refine aw_iinc (v := x5_16) (lv' := [(5, .int x5_16), (0, .ref (G.2.1 k)), (1, .ref (G.2.1 a1)), (2, .int a2), (3, .int x3), (4, .int x4)]) dX5_pass_58 (n0 := 5) rfl (by rw [e_x5_16]; rfl) (by decide) rfl ?_
        refine aw_goto (tgt := 22) dX5_pass_61 (by decide) ?_
        refine aw_sub (lv' := [(0, .ref (G.2.1 k)), (1, .ref (G.2.1 a1)), (2, .int a2), (3, .int x3), (4, .int x4), (5, .int x5_16)]) [1, 2, 3, 4, 5, 0] rfl ?_
        exact ih _ _ _ _ H
set_option maxHeartbeats 4000000 in
set_option maxRecDepth 100000 in
theorem fm_X5_pass_8 {l : Launch} {S : aS} {G : aG} (d : Nat) {k : Nat} {a1 : Nat} {a2 : Int32} {Q : Int32 → aH → Prop} (o_k : aObj S k 4 flX5) (o_a1 : aObj S a1 1 flX2) : ∀ (n : Nat) (x3 : Int32) (x4 : Int32) (h : aH), f_X5_pass_8 S k a1 a2 Q n x3 x4 h → AW l S G (d + 6) M_X5_pass (va_Qi Q (aPo S G) (aA S G)) 8 [(0, .ref (G.2.1 k)), (1, .ref (G.2.1 a1)), (2, .int a2), (3, .int x3), (4, .int x4)] [] h := by
  intro n
  induction n with
  | zero => intro x3 x4 h H; exact False.elim H
  | succ n ih =>
    intro x3 x4 h H
    unfold f_X5_pass_8 at H
    refine aw_iload dX5_pass_8 4 rfl ?_
    refine aw_iload_n dX5_pass_10 rfl 2 rfl ?_
    refine aw_icmp_ge (tgt := 86) dX5_pass_11 (by decide) (fun c17 => ?_) (fun c17 => ?_)
    · replace H := a_pos c17 H
      refine aw_aload_n dX5_pass_86 rfl 1 rfl ?_
      refine aw_callV_i (As := []) (rest := []) (am_X2_drownedTotal (d + 5) o_a1 H) mf_X2_drownedTotal wd_676 wd_677 wd_678 cf_X2 o_a1 rfl rfl (Nat.le_of_ble_eq_true rfl) dX5_pass_87 (fun r19 h18 H => ?_)
      refine aw_iload_n dX5_pass_90 rfl 3 rfl ?_
      refine aw_isub dX5_pass_91 ?_
      exact aw_iret rfl H dX5_pass_92
    · replace H := a_neg c17 H
      refine aw_aload_n dX5_pass_14 rfl 0 rfl ?_
      refine aw_aload_n dX5_pass_15 rfl 1 rfl ?_
      refine aw_callV_v (As := [.ref (G.2.1 a1)]) (rest := []) (am_X5_thaw (d + 2) o_k o_a1 H) mf_X5_thaw wd_680 wd_682 ws_2_2 cf_X5 o_k rfl rfl (Nat.le_of_ble_eq_true rfl) dX5_pass_16 (fun h20 H => ?_)
      refine aw_iconst (v := 0) dX5_pass_19 (by decide) ?_
      refine aw_istore (lv' := [(5, .int 0), (0, .ref (G.2.1 k)), (1, .ref (G.2.1 a1)), (2, .int a2), (3, .int x3), (4, .int x4)]) dX5_pass_20 (by decide) rfl ?_
      refine aw_sub (lv' := [(0, .ref (G.2.1 k)), (1, .ref (G.2.1 a1)), (2, .int a2), (3, .int x3), (4, .int x4), (5, .int 0)]) [1, 2, 3, 4, 5, 0] rfl ?_
      obtain ⟨n1, H⟩ := H
      exact fm_X5_pass_22 d o_k o_a1 ih n1 _ _ _ _ H
set_option maxHeartbeats 4000000 in
set_option maxRecDepth 100000 in
theorem am_X5_pass {l : Launch} {S : aS} {G : aG} (d : Nat) {k : Nat} {a1 : Nat} {a2 : Int32} {h : aH} {Q : Int32 → aH → Prop} (o_k : aObj S k 4 flX5) (o_a1 : aObj S a1 1 flX2) (H : f_X5_pass S k a1 a2 h Q) : AMi l S G (d + 6) M_X5_pass [.ref (G.2.1 k), .ref (G.2.1 a1), .int a2] h Q := by
  unfold f_X5_pass at H
  refine am_of mf_X5_pass (Nat.le_of_ble_eq_true rfl) (lv0 := [(0, .ref (G.2.1 k)), (1, .ref (G.2.1 a1)), (2, .int a2)]) rfl ?_
  refine aw_aload_n dX5_pass_0 rfl 1 rfl ?_
  refine aw_callV_i (As := []) (rest := []) (am_X2_drownedTotal (d + 5) o_a1 H) mf_X2_drownedTotal wd_676 wd_677 wd_678 cf_X2 o_a1 rfl rfl (Nat.le_of_ble_eq_true rfl) dX5_pass_1 (fun r22 h21 H => ?_)
  refine aw_istore_n (lv' := [(3, .int r22), (0, .ref (G.2.1 k)), (1, .ref (G.2.1 a1)), (2, .int a2)]) dX5_pass_4 rfl (by decide) rfl ?_
  refine aw_iconst (v := 0) dX5_pass_5 (by decide) ?_
  refine aw_istore (lv' := [(4, .int 0), (3, .int r22), (0, .ref (G.2.1 k)), (1, .ref (G.2.1 a1)), (2, .int a2)]) dX5_pass_6 (by decide) rfl ?_
  refine aw_sub (lv' := [(0, .ref (G.2.1 k)), (1, .ref (G.2.1 a1)), (2, .int a2), (3, .int r22), (4, .int 0)]) [2, 3, 4, 1, 0] rfl ?_
  obtain ⟨n1, H⟩ := H
  exact fm_X5_pass_8 d o_k o_a1 n1 _ _ _ H
set_option maxHeartbeats 4000000 in
set_option maxRecDepth 100000 in
theorem fm_X9_allBroken_2 {l : Launch} {S : aS} {G : aG} (d : Nat) {k : Nat} {a1 : Nat} {Q : Int32 → aH → Prop} (o_k : aObj S k 8 flX9) (o_a1 : aObj S a1 1 flX2) : ∀ (n : Nat) (x2 : Int32) (h : aH), f_X9_allBroken_2 S k a1 Q n x2 h → AW l S G (d + 1) M_X9_allBroken (va_Qi Q (aPo S G) (aA S G)) 2 [(0, .ref (G.2.1 k)), (1, .ref (G.2.1 a1)), (2, .int x2)] [] h := by
  intro n
  induction n with
  | zero => intro x2 h H; exact False.elim H
  | succ n ih =>
    intro x2 h H
    unfold f_X9_allBroken_2 at H
    refine aw_iload_n dX9_allBroken_2 rfl 2 rfl ?_
    refine aw_aload_n dX9_allBroken_3 rfl 0 rfl ?_
    refine aw_getI cf_X9 2 (by decide) rfl wd_144 o_k dX9_allBroken_4 ?_
    refine aw_name (fun v1 e_v1 => ?_)
    replace H := H v1 e_v1
    refine aw_icmp_ge (tgt := 31) dX9_allBroken_7 (by decide) (fun c2 => ?_) (fun c2 => ?_)
    · replace H := a_pos c2 H
      refine aw_iconst (v := 1) dX9_allBroken_31 (by decide) ?_
      exact aw_zret rfl rfl H dX9_allBroken_32
    · replace H := a_neg c2 H
      refine aw_aload_n dX9_allBroken_10 rfl 1 rfl ?_
      refine aw_aload_n dX9_allBroken_11 rfl 0 rfl ?_
      refine aw_getR cf_X9 0 (by decide) rfl wd_138 o_k dX9_allBroken_12 ?_
      refine aw_iload_n dX9_allBroken_15 rfl 2 rfl ?_
      obtain ⟨z3, H⟩ := H
      refine aw_iaload z3 dX9_allBroken_16 ?_
      refine aw_name (fun v4 e_v4 => ?_)
      replace H := H v4 e_v4
      refine aw_callV_i (As := [.int v4]) (rest := []) (am_X2_isBroken d o_a1 H) mf_X2_isBroken wd_963 wd_353 wd_354 cf_X2 o_a1 rfl rfl (Nat.le_of_ble_eq_true rfl) dX9_allBroken_17 (fun r6 h5 H => ?_)
      refine aw_if_ne (tgt := 25) dX9_allBroken_20 (by decide) (fun c7 => ?_) (fun c7 => ?_)
      · replace H := a_pos c7 H
        obtain ⟨x2_8, e_x2_8⟩ : ∃ y : Int32, y = x2 + 1 := ⟨_, rfl⟩
        replace H := H x2_8 e_x2_8
        refine aw_iinc (v := x2_8) (lv' := [(2, .int x2_8), (0, .ref (G.2.1 k)), (1, .ref (G.2.1 a1))]) dX9_allBroken_25 (n0 := 2) rfl (by rw [e_x2_8]; rfl) (by decide) rfl ?_
        refine aw_goto (tgt := 2) dX9_allBroken_28 (by decide) ?_
        refine aw_sub (lv' := [(0, .ref (G.2.1 k)), (1, .ref (G.2.1 a1)), (2, .int x2_8)]) [1, 2, 0] rfl ?_
        exact ih _ _ H
      · replace H := a_neg2 c7 H
        refine aw_iconst (v := 0) dX9_allBroken_23 (by decide) ?_
        exact aw_zret rfl rfl H dX9_allBroken_24
set_option maxHeartbeats 4000000 in
set_option maxRecDepth 100000 in
theorem am_X9_allBroken {l : Launch} {S : aS} {G : aG} (d : Nat) {k : Nat} {a1 : Nat} {h : aH} {Q : Int32 → aH → Prop} (o_k : aObj S k 8 flX9) (o_a1 : aObj S a1 1 flX2) (H : f_X9_allBroken S k a1 h Q) : AMi l S G (d + 1) M_X9_allBroken [.ref (G.2.1 k), .ref (G.2.1 a1)] h Q := by
  unfold f_X9_allBroken at H
  refine am_of mf_X9_allBroken (Nat.le_of_ble_eq_true rfl) (lv0 := [(0, .ref (G.2.1 k)), (1, .ref (G.2.1 a1))]) rfl ?_
  refine aw_iconst (v := 0) dX9_allBroken_0 (by decide) ?_
  refine aw_istore_n (lv' := [(2, .int 0), (0, .ref (G.2.1 k)), (1, .ref (G.2.1 a1))]) dX9_allBroken_1 rfl (by decide) rfl ?_
  refine aw_sub (lv' := [(0, .ref (G.2.1 k)), (1, .ref (G.2.1 a1)), (2, .int 0)]) [1, 2, 0] rfl ?_
  obtain ⟨n1, H⟩ := H
  exact fm_X9_allBroken_2 d o_k o_a1 n1 _ _ H
set_option maxHeartbeats 4000000 in
set_option maxRecDepth 100000 in
theorem am_X5_fellsJust {l : Launch} {S : aS} {G : aG} (d : Nat) {k : Nat} {a1 : Nat} {a2 : Int32} {a3 : Nat} {h : aH} {Q : Int32 → aH → Prop} (o_k : aObj S k 4 flX5) (o_a1 : aObj S a1 1 flX2) (o_a3 : aObj S a3 8 flX9) (H : f_X5_fellsJust S k a1 a2 a3 h Q) : AMi l S G (d + 6) M_X5_fellsJust [.ref (G.2.1 k), .ref (G.2.1 a1), .int a2, .ref (G.2.1 a3)] h Q := by
  unfold f_X5_fellsJust at H
  refine am_of mf_X5_fellsJust (Nat.le_of_ble_eq_true rfl) (lv0 := [(0, .ref (G.2.1 k)), (1, .ref (G.2.1 a1)), (2, .int a2), (3, .ref (G.2.1 a3))]) rfl ?_
  refine aw_aload_n dX5_fellsJust_0 rfl 1 rfl ?_
  refine aw_iload_n dX5_fellsJust_1 rfl 2 rfl ?_
  refine aw_callV_v (As := [.int a2]) (rest := []) (am_X2_breakAt (d + 1) o_a1 H) mf_X2_breakAt wd_664 wd_665 wd_666 cf_X2 o_a1 rfl rfl (Nat.le_of_ble_eq_true rfl) dX5_fellsJust_2 (fun h1 H => ?_)
  refine aw_iconst (v := 1) dX5_fellsJust_5 (by decide) ?_
  refine aw_aload_n dX5_fellsJust_6 rfl 0 rfl ?_
  refine aw_aload_n dX5_fellsJust_7 rfl 1 rfl ?_
  refine aw_callV_i (As := [.ref (G.2.1 a1)]) (rest := [.int 1]) (am_X5_settleAll d o_k o_a1 H) mf_X5_settleAll wd_737 wd_643 wd_644 cf_X5 o_k rfl rfl (Nat.le_of_ble_eq_true rfl) dX5_fellsJust_8 (fun r3 h2 H => ?_)
  refine aw_iadd dX5_fellsJust_11 ?_
  refine aw_name (fun x4_4 e_x4_4 => ?_)
  replace H := H x4_4 e_x4_4
  refine aw_istore (lv' := [(4, .int x4_4), (0, .ref (G.2.1 k)), (1, .ref (G.2.1 a1)), (2, .int a2), (3, .ref (G.2.1 a3))]) dX5_fellsJust_12 (by decide) rfl ?_
  refine aw_iload dX5_fellsJust_14 0 rfl ?_
  refine aw_aload_n dX5_fellsJust_16 rfl 4 rfl ?_
  refine aw_getI cf_X9 2 (by decide) rfl wd_146 o_a3 dX5_fellsJust_17 ?_
  refine aw_name (fun v5 e_v5 => ?_)
  replace H := H v5 e_v5
  refine aw_icmp_ne (tgt := 35) dX5_fellsJust_20 (by decide) (fun c6 => ?_) (fun c6 => ?_)
  · replace H := a_pos c6 H
    refine aw_iconst (v := 0) dX5_fellsJust_35 (by decide) ?_
    exact aw_zret rfl rfl H dX5_fellsJust_36
  · replace H := a_neg2 c6 H
    refine aw_aload_n dX5_fellsJust_23 rfl 4 rfl ?_
    refine aw_aload_n dX5_fellsJust_24 rfl 2 rfl ?_
    refine aw_callV_i (As := [.ref (G.2.1 a1)]) (rest := []) (am_X9_allBroken (d + 4) o_a3 o_a1 H) mf_X9_allBroken wd_959 wd_960 wd_961 cf_X9 o_a3 rfl rfl (Nat.le_of_ble_eq_true rfl) dX5_fellsJust_25 (fun r8 h7 H => ?_)
    refine aw_if_eq (tgt := 35) dX5_fellsJust_28 (by decide) (fun c9 => ?_) (fun c9 => ?_)
    · replace H := a_pos c9 H
      refine aw_iconst (v := 0) dX5_fellsJust_35 (by decide) ?_
      exact aw_zret rfl rfl H dX5_fellsJust_36
    · replace H := a_neg c9 H
      refine aw_iconst (v := 1) dX5_fellsJust_31 (by decide) ?_
      refine aw_goto (tgt := 36) dX5_fellsJust_32 (by decide) ?_
      exact aw_zret rfl rfl H dX5_fellsJust_36
set_option maxHeartbeats 4000000 in
set_option maxRecDepth 100000 in
theorem am_X6_planksAt {l : Launch} {S : aS} {G : aG} (d : Nat) {a0 : Nat} {a1 : Nat} {a2 : Int32} {a3 : Int32} {h : aH} {Q : Int32 → aH → Prop} (o_a0 : aObj S a0 1 flX2) (o_a1 : aObj S a1 4 flX5) (H : f_X6_planksAt S a0 a1 a2 a3 h Q) : AMi l S G (d + 4) M_X6_planksAt [.ref (G.2.1 a0), .ref (G.2.1 a1), .int a2, .int a3] h Q := by
  unfold f_X6_planksAt at H
  refine am_of mf_X6_planksAt (Nat.le_of_ble_eq_true rfl) (lv0 := [(0, .ref (G.2.1 a0)), (1, .ref (G.2.1 a1)), (2, .int a2), (3, .int a3)]) rfl ?_
  refine aw_aload_n dX6_planksAt_0 rfl 0 rfl ?_
  refine aw_iload_n dX6_planksAt_1 rfl 2 rfl ?_
  refine aw_callV_i (As := [.int a2]) (rest := []) (am_X2_isFirm (d + 2) o_a0 H) mf_X2_isFirm wd_907 wd_562 wd_563 cf_X2 o_a0 rfl rfl (Nat.le_of_ble_eq_true rfl) dX6_planksAt_2 (fun r2 h1 H => ?_)
  refine aw_if_ne (tgt := 10) dX6_planksAt_5 (by decide) (fun c3 => ?_) (fun c3 => ?_)
  · replace H := a_pos c3 H
    refine aw_aload_n dX6_planksAt_10 rfl 1 rfl ?_
    refine aw_aload_n dX6_planksAt_11 rfl 0 rfl ?_
    refine aw_iload_n dX6_planksAt_12 rfl 2 rfl ?_
    refine aw_callV_i (As := [.ref (G.2.1 a0), .int a2]) (rest := []) (am_X5_bears d o_a1 o_a0 H) mf_X5_bears wd_908 wd_657 wd_658 cf_X5 o_a1 rfl rfl (Nat.le_of_ble_eq_true rfl) dX6_planksAt_13 (fun r5 h4 H => ?_)
    refine aw_istore (lv' := [(4, .int r5), (0, .ref (G.2.1 a0)), (1, .ref (G.2.1 a1)), (2, .int a2), (3, .int a3)]) dX6_planksAt_16 (by decide) rfl ?_
    refine aw_iload dX6_planksAt_18 0 rfl ?_
    refine aw_iload_n dX6_planksAt_20 rfl 4 rfl ?_
    refine aw_icmp_lt (tgt := 26) dX6_planksAt_21 (by decide) (fun c6 => ?_) (fun c6 => ?_)
    · replace H := a_pos c6 H
      refine aw_iload dX6_planksAt_26 0 rfl ?_
      refine aw_bipush (v := 100) dX6_planksAt_28 (by decide) ?_
      refine aw_iadd dX6_planksAt_30 ?_
      refine aw_iload_n dX6_planksAt_31 rfl 4 rfl ?_
      refine aw_icmp_lt (tgt := 39) dX6_planksAt_32 (by decide) (fun c7 => ?_) (fun c7 => ?_)
      · replace H := a_pos c7 H
        refine aw_iconst (v := (-1)) dX6_planksAt_39 (by decide) ?_
        exact aw_iret rfl H dX6_planksAt_40
      · replace H := a_neg c7 H
        refine aw_iconst (v := 1) dX6_planksAt_35 (by decide) ?_
        refine aw_goto (tgt := 40) dX6_planksAt_36 (by decide) ?_
        exact aw_iret rfl H dX6_planksAt_40
    · replace H := a_neg c6 H
      refine aw_iconst (v := 0) dX6_planksAt_24 (by decide) ?_
      exact aw_iret rfl H dX6_planksAt_25
  · replace H := a_neg2 c3 H
    refine aw_iconst (v := (-1)) dX6_planksAt_8 (by decide) ?_
    exact aw_iret rfl H dX6_planksAt_9
set_option maxHeartbeats 4000000 in
set_option maxRecDepth 100000 in
theorem am_X6_isBettered {l : Launch} {S : aS} {G : aG} (d : Nat) {k : Nat} {a1 : Int32} {a2 : Int32} {h : aH} {Q : Int32 → aH → Prop} (o_k : aObj S k 5 flX6) (H : f_X6_isBettered S k a1 a2 h Q) : AMi l S G d M_X6_isBettered [.ref (G.2.1 k), .int a1, .int a2] h Q := by
  unfold f_X6_isBettered at H
  refine am_of mf_X6_isBettered (Nat.le_of_ble_eq_true rfl) (lv0 := [(0, .ref (G.2.1 k)), (1, .int a1), (2, .int a2)]) rfl ?_
  refine aw_aload_n dX6_isBettered_0 rfl 0 rfl ?_
  refine aw_getR cf_X6 0 (by decide) rfl wd_285 o_k dX6_isBettered_1 ?_
  refine aw_iload_n dX6_isBettered_4 rfl 1 rfl ?_
  obtain ⟨z1, H⟩ := H
  refine aw_iaload z1 dX6_isBettered_5 ?_
  refine aw_name (fun v2 e_v2 => ?_)
  replace H := H v2 e_v2
  refine aw_iconst (v := (-1)) dX6_isBettered_6 (by decide) ?_
  refine aw_icmp_eq (tgt := 31) dX6_isBettered_7 (by decide) (fun c3 => ?_) (fun c3 => ?_)
  · replace H := a_pos c3 H
    refine aw_iconst (v := 0) dX6_isBettered_31 (by decide) ?_
    exact aw_zret rfl rfl H dX6_isBettered_32
  · replace H := a_neg c3 H
    refine aw_iload_n dX6_isBettered_10 rfl 2 rfl ?_
    refine aw_aload_n dX6_isBettered_11 rfl 0 rfl ?_
    refine aw_getR cf_X6 0 (by decide) rfl wd_285 o_k dX6_isBettered_12 ?_
    refine aw_iload_n dX6_isBettered_15 rfl 1 rfl ?_
    obtain ⟨z4, H⟩ := H
    refine aw_iaload z4 dX6_isBettered_16 ?_
    refine aw_name (fun v5 e_v5 => ?_)
    replace H := H v5 e_v5
    refine aw_sipush (v := 1024) dX6_isBettered_17 (by decide) ?_
    refine aw_imul dX6_isBettered_20 ?_
    refine aw_iadd dX6_isBettered_21 ?_
    refine aw_aload_n dX6_isBettered_22 rfl 0 rfl ?_
    refine aw_getR cf_X6 1 (by decide) rfl wd_286 o_k dX6_isBettered_23 ?_
    refine aw_iload_n dX6_isBettered_26 rfl 1 rfl ?_
    obtain ⟨z6, H⟩ := H
    refine aw_iaload z6 dX6_isBettered_27 ?_
    refine aw_name (fun v7 e_v7 => ?_)
    replace H := H v7 e_v7
    refine aw_icmp_lt (tgt := 33) dX6_isBettered_28 (by decide) (fun c8 => ?_) (fun c8 => ?_)
    · replace H := a_pos c8 H
      refine aw_aload_n dX6_isBettered_33 rfl 0 rfl ?_
      refine aw_getR cf_X6 1 (by decide) rfl wd_286 o_k dX6_isBettered_34 ?_
      refine aw_iload_n dX6_isBettered_37 rfl 1 rfl ?_
      refine aw_iload_n dX6_isBettered_38 rfl 2 rfl ?_
      refine aw_aload_n dX6_isBettered_39 rfl 0 rfl ?_
      refine aw_getR cf_X6 0 (by decide) rfl wd_285 o_k dX6_isBettered_40 ?_
      refine aw_iload_n dX6_isBettered_43 rfl 1 rfl ?_
      obtain ⟨z9, H⟩ := H
      refine aw_iaload z9 dX6_isBettered_44 ?_
      refine aw_name (fun v10 e_v10 => ?_)
      replace H := H v10 e_v10
      refine aw_sipush (v := 1024) dX6_isBettered_45 (by decide) ?_
      refine aw_imul dX6_isBettered_48 ?_
      refine aw_iadd dX6_isBettered_49 ?_
      obtain ⟨z11, H⟩ := H
      refine aw_iastore z11 dX6_isBettered_50 ?_
      refine aw_nameH (fun h12 e_h12 => ?_)
      replace H := H h12 e_h12
      refine aw_iconst (v := 1) dX6_isBettered_51 (by decide) ?_
      exact aw_zret rfl rfl H dX6_isBettered_52
    · replace H := a_neg c8 H
      refine aw_iconst (v := 0) dX6_isBettered_31 (by decide) ?_
      exact aw_zret rfl rfl H dX6_isBettered_32
