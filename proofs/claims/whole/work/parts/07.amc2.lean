set_option maxHeartbeats 4000000 in
set_option maxRecDepth 100000 in
theorem fm_X0_solve_41 {l : Launch} {S : aS} {G : aG} (d : Nat) {k : Nat} {a1 : Nat} {a2 : Nat} {a3 : Int32} {a4 : Int32} {Q : aH → Prop} (o_k : aObj S k 0 flX0) (o_a1 : aObj S a1 1 flX2) (o_a2 : aObj S a2 4 flX5) {K29 : Int32 → Int32 → aH → Prop} (hK29 : ∀ (x5 : Int32) (x6 : Int32) (h : aH), K29 x5 x6 h → AW l S G (d + 6) M_X0_solve (va_Qv Q (aPo S G) (aA S G)) 29 [(0, .ref (G.2.1 k)), (1, .ref (G.2.1 a1)), (2, .ref (G.2.1 a2)), (3, .int a3), (4, .int a4), (5, .int x5), (6, .int x6)] [] h) : ∀ (n : Nat) (x5 : Int32) (x6 : Int32) (x7 : Int32) (h : aH), f_X0_solve_41 S k a1 a2 a3 a4 Q K29 n x5 x6 x7 h → AW l S G (d + 6) M_X0_solve (va_Qv Q (aPo S G) (aA S G)) 41 [(0, .ref (G.2.1 k)), (1, .ref (G.2.1 a1)), (2, .ref (G.2.1 a2)), (3, .int a3), (4, .int a4), (5, .int x5), (6, .int x6), (7, .int x7)] [] h := by
  intro n
  induction n with
  | zero => intro x5 x6 x7 h H; exact False.elim H
  | succ n ih =>
    intro x5 x6 x7 h H
    unfold f_X0_solve_41 at H
    refine aw_iload dX0_solve_41 7 rfl ?_
    refine aw_iconst (v := 1) dX0_solve_43 (by decide) ?_
    refine aw_iload dX0_solve_44 6 rfl ?_
    refine aw_ishl dX0_solve_46 ?_
    refine aw_icmp_ge (tgt := 83) dX0_solve_47 (by decide) (fun c1 => ?_) (fun c1 => ?_)
    · replace H := a_pos c1 H
      obtain ⟨x6_2, e_x6_2⟩ : ∃ y : Int32, y = x6 + 1 := ⟨_, rfl⟩
      replace H := H x6_2 e_x6_2
      refine aw_iinc (v := x6_2) (lv' := [(6, .int x6_2), (0, .ref (G.2.1 k)), (1, .ref (G.2.1 a1)), (2, .ref (G.2.1 a2)), (3, .int a3), (4, .int a4), (5, .int x5), (7, .int x7)]) dX0_solve_83 (n0 := 6) rfl (by rw [e_x6_2]; rfl) (by decide) rfl ?_
      refine aw_goto (tgt := 29) dX0_solve_86 (by decide) ?_
      refine aw_sub (lv' := [(0, .ref (G.2.1 k)), (1, .ref (G.2.1 a1)), (2, .ref (G.2.1 a2)), (3, .int a3), (4, .int a4), (5, .int x5), (6, .int x6_2)]) [1, 2, 3, 4, 5, 6, 0] rfl ?_
      exact hK29 _ _ _ H
    · replace H := a_neg c1 H
      refine aw_aload_n dX0_solve_50 rfl 0 rfl ?_
      refine aw_getR cf_X0 5 (by decide) rfl wd_262 o_k dX0_solve_51 ?_
      refine aw_iload dX0_solve_54 7 rfl ?_
      refine aw_iconst (v := 1) dX0_solve_56 (by decide) ?_
      refine aw_iload dX0_solve_57 6 rfl ?_
      refine aw_ishl dX0_solve_59 ?_
      refine aw_ior dX0_solve_60 ?_
      refine aw_aload_n dX0_solve_61 rfl 0 rfl ?_
      refine aw_getR cf_X0 5 (by decide) rfl wd_262 o_k dX0_solve_62 ?_
      refine aw_iload dX0_solve_65 7 rfl ?_
      obtain ⟨z3, H⟩ := H
      refine aw_iaload z3 dX0_solve_67 ?_
      refine aw_name (fun v4 e_v4 => ?_)
      replace H := H v4 e_v4
      refine aw_aload_n dX0_solve_68 rfl 0 rfl ?_
      refine aw_getR cf_X0 1 (by decide) rfl wd_258 o_k dX0_solve_69 ?_
      refine aw_iload dX0_solve_72 6 rfl ?_
      obtain ⟨z5, H⟩ := H
      refine aw_iaload z5 dX0_solve_74 ?_
      refine aw_name (fun v6 e_v6 => ?_)
      replace H := H v6 e_v6
      refine aw_iadd dX0_solve_75 ?_
      obtain ⟨z7, H⟩ := H
      refine aw_iastore z7 dX0_solve_76 ?_
      refine aw_nameH (fun h8 e_h8 => ?_)
      replace H := H h8 e_h8
      obtain ⟨x7_9, e_x7_9⟩ : ∃ y : Int32, y = x7 + 1 := ⟨_, rfl⟩
      replace H := H x7_9 e_x7_9
      refine aw_iinc (v := x7_9) (lv' := [(7, .int x7_9), (0, .ref (G.2.1 k)), (1, .ref (G.2.1 a1)), (2, .ref (G.2.1 a2)), (3, .int a3), (4, .int a4), (5, .int x5), (6, .int x6)]) dX0_solve_77 (n0 := 7) rfl (by rw [e_x7_9]; rfl) (by decide) rfl ?_
      refine aw_goto (tgt := 41) dX0_solve_80 (by decide) ?_
      refine aw_sub (lv' := [(0, .ref (G.2.1 k)), (1, .ref (G.2.1 a1)), (2, .ref (G.2.1 a2)), (3, .int a3), (4, .int a4), (5, .int x5), (6, .int x6), (7, .int x7_9)]) [1, 2, 3, 4, 5, 6, 7, 0] rfl ?_
      exact ih _ _ _ _ H
set_option maxHeartbeats 4000000 in
set_option maxRecDepth 100000 in
theorem fm_X0_solve_120 {l : Launch} {S : aS} {G : aG} (d : Nat) {k : Nat} {a1 : Nat} {a2 : Nat} {a3 : Int32} {a4 : Int32} {Q : aH → Prop} (o_k : aObj S k 0 flX0) (o_a1 : aObj S a1 1 flX2) (o_a2 : aObj S a2 4 flX5) {K103 : Int32 → aH → Prop} (hK103 : ∀ (x6 : Int32) (h : aH), K103 x6 h → AW l S G (d + 6) M_X0_solve (va_Qv Q (aPo S G) (aA S G)) 103 [(0, .ref (G.2.1 k)), (1, .ref (G.2.1 a1)), (2, .ref (G.2.1 a2)), (3, .int a3), (4, .int a4), (6, .int x6)] [] h) : ∀ (n : Nat) (x6 : Int32) (x7 : Int32) (h : aH), f_X0_solve_120 S k a1 a2 a3 a4 Q K103 n x6 x7 h → AW l S G (d + 6) M_X0_solve (va_Qv Q (aPo S G) (aA S G)) 120 [(0, .ref (G.2.1 k)), (1, .ref (G.2.1 a1)), (2, .ref (G.2.1 a2)), (3, .int a3), (4, .int a4), (6, .int x6), (7, .int x7)] [] h := by
  intro n
  induction n with
  | zero => intro x6 x7 h H; exact False.elim H
  | succ n ih =>
    intro x6 x7 h H
    unfold f_X0_solve_120 at H
    refine aw_iload dX0_solve_120 6 rfl ?_
    refine aw_aload_n dX0_solve_122 rfl 0 rfl ?_
    refine aw_getI cf_X0 4 (by decide) rfl wd_261 o_k dX0_solve_123 ?_
    refine aw_name (fun v10 e_v10 => ?_)
    replace H := H v10 e_v10
    refine aw_icmp_ge (tgt := 170) dX0_solve_126 (by decide) (fun c11 => ?_) (fun c11 => ?_)
    · replace H := a_pos c11 H
      obtain ⟨x6_12, e_x6_12⟩ : ∃ y : Int32, y = x6 + (-1) := ⟨_, rfl⟩
      replace H := H x6_12 e_x6_12
      refine aw_iinc (v := x6_12) (lv' := [(6, .int x6_12), (0, .ref (G.2.1 k)), (1, .ref (G.2.1 a1)), (2, .ref (G.2.1 a2)), (3, .int a3), (4, .int a4), (7, .int x7)]) dX0_solve_170 (n0 := 5) rfl (by rw [e_x6_12]; rfl) (by decide) rfl ?_
      refine aw_goto (tgt := 103) dX0_solve_173 (by decide) ?_
      refine aw_sub (lv' := [(0, .ref (G.2.1 k)), (1, .ref (G.2.1 a1)), (2, .ref (G.2.1 a2)), (3, .int a3), (4, .int a4), (6, .int x6_12)]) [1, 2, 3, 4, 5, 0] rfl ?_
      exact hK103 _ _ H
    · replace H := a_neg c11 H
      refine aw_iload dX0_solve_129 5 rfl ?_
      refine aw_iload dX0_solve_131 6 rfl ?_
      refine aw_ishr dX0_solve_133 ?_
      refine aw_iconst (v := 1) dX0_solve_134 (by decide) ?_
      refine aw_iand dX0_solve_135 ?_
      refine aw_if_ne (tgt := 164) dX0_solve_136 (by decide) (fun c13 => ?_) (fun c13 => ?_)
      · replace H := a_pos c13 H
        obtain ⟨x7_14, e_x7_14⟩ : ∃ y : Int32, y = x7 + 1 := ⟨_, rfl⟩
        replace H := H x7_14 e_x7_14
        refine aw_iinc (v := x7_14) (lv' := [(7, .int x7_14), (0, .ref (G.2.1 k)), (1, .ref (G.2.1 a1)), (2, .ref (G.2.1 a2)), (3, .int a3), (4, .int a4), (6, .int x6)]) dX0_solve_164 (n0 := 6) rfl (by rw [e_x7_14]; rfl) (by decide) rfl ?_
        refine aw_goto (tgt := 120) dX0_solve_167 (by decide) ?_
        refine aw_sub (lv' := [(0, .ref (G.2.1 k)), (1, .ref (G.2.1 a1)), (2, .ref (G.2.1 a2)), (3, .int a3), (4, .int a4), (6, .int x6), (7, .int x7_14)]) [1, 2, 3, 4, 5, 6, 0] rfl ?_
        exact ih _ _ _ H
      · replace H := a_neg2 c13 H
        refine aw_aload_n dX0_solve_139 rfl 0 rfl ?_
        refine aw_getR cf_X0 6 (by decide) rfl wd_263 o_k dX0_solve_140 ?_
        refine aw_iload dX0_solve_143 5 rfl ?_
        refine aw_aload_n dX0_solve_145 rfl 0 rfl ?_
        refine aw_getR cf_X0 6 (by decide) rfl wd_263 o_k dX0_solve_146 ?_
        refine aw_iload dX0_solve_149 5 rfl ?_
        obtain ⟨z15, H⟩ := H
        refine aw_iaload z15 dX0_solve_151 ?_
        refine aw_name (fun v16 e_v16 => ?_)
        replace H := H v16 e_v16
        refine aw_aload_n dX0_solve_152 rfl 0 rfl ?_
        refine aw_iload dX0_solve_153 6 rfl ?_
        refine aw_iload dX0_solve_155 5 rfl ?_
        refine aw_callV_i (As := [.int x7, .int x6]) (rest := [.int v16, .int x6, .ref (G.2.1 (gR h k 6))]) (am_X0_costOf (d + 5) o_k H) mf_X0_costOf wd_878 wd_880 ws_2_9 cf_X0 o_k rfl rfl (Nat.le_of_ble_eq_true rfl) dX0_solve_157 (fun r18 h17 H => ?_)
        refine aw_mmin wd_882 wd_478 wd_15 wd_479 (Nat.le_of_ble_eq_true rfl) dX0_solve_160 ?_
        refine aw_name (fun v19 e_v19 => ?_)
        replace H := H v19 e_v19
        obtain ⟨z20, H⟩ := H
        refine aw_iastore z20 dX0_solve_163 ?_
        refine aw_nameH (fun h21 e_h21 => ?_)
        replace H := H h21 e_h21
        obtain ⟨x7_22, e_x7_22⟩ : ∃ y : Int32, y = x7 + 1 := ⟨_, rfl⟩
        replace H := H x7_22 e_x7_22
        refine aw_iinc (v := x7_22) (lv' := [(7, .int x7_22), (0, .ref (G.2.1 k)), (1, .ref (G.2.1 a1)), (2, .ref (G.2.1 a2)), (3, .int a3), (4, .int a4), (6, .int x6)]) dX0_solve_164 (n0 := 6) rfl (by rw [e_x7_22]; rfl) (by decide) rfl ?_
        refine aw_goto (tgt := 120) dX0_solve_167 (by decide) ?_
        refine aw_sub (lv' := [(0, .ref (G.2.1 k)), (1, .ref (G.2.1 a1)), (2, .ref (G.2.1 a2)), (3, .int a3), (4, .int a4), (6, .int x6), (7, .int x7_22)]) [1, 2, 3, 4, 5, 6, 0] rfl ?_
        exact ih _ _ _ H
set_option maxHeartbeats 4000000 in
set_option maxRecDepth 100000 in
theorem fm_X0_solve_103 {l : Launch} {S : aS} {G : aG} (d : Nat) {k : Nat} {a1 : Nat} {a2 : Nat} {a3 : Int32} {a4 : Int32} {Q : aH → Prop} (o_k : aObj S k 0 flX0) (o_a1 : aObj S a1 1 flX2) (o_a2 : aObj S a2 4 flX5) : ∀ (n : Nat) (x6 : Int32) (h : aH), f_X0_solve_103 S k a1 a2 a3 a4 Q n x6 h → AW l S G (d + 6) M_X0_solve (va_Qv Q (aPo S G) (aA S G)) 103 [(0, .ref (G.2.1 k)), (1, .ref (G.2.1 a1)), (2, .ref (G.2.1 a2)), (3, .int a3), (4, .int a4), (6, .int x6)] [] h := by
  intro n
  induction n with
  | zero => intro x6 h H; exact False.elim H
  | succ n ih =>
    intro x6 h H
    unfold f_X0_solve_103 at H
    refine aw_iload dX0_solve_103 5 rfl ?_
    refine aw_if_lt (tgt := 176) dX0_solve_105 (by decide) (fun c23 => ?_) (fun c23 => ?_)
    · replace H := a_pos c23 H
      exact aw_vret rfl H dX0_solve_176
    · replace H := a_neg c23 H
      refine aw_aload_n dX0_solve_108 rfl 0 rfl ?_
      refine aw_getR cf_X0 6 (by decide) rfl wd_263 o_k dX0_solve_109 ?_
      refine aw_iload dX0_solve_112 5 rfl ?_
      refine aw_ldc (v := 1073741824) dX0_solve_114 wd_877 ?_
      obtain ⟨z24, H⟩ := H
      refine aw_iastore z24 dX0_solve_116 ?_
      refine aw_nameH (fun h25 e_h25 => ?_)
      replace H := H h25 e_h25
      refine aw_iconst (v := 0) dX0_solve_117 (by decide) ?_
      refine aw_istore (lv' := [(7, .int 0), (0, .ref (G.2.1 k)), (1, .ref (G.2.1 a1)), (2, .ref (G.2.1 a2)), (3, .int a3), (4, .int a4), (6, .int x6)]) dX0_solve_118 (by decide) rfl ?_
      refine aw_sub (lv' := [(0, .ref (G.2.1 k)), (1, .ref (G.2.1 a1)), (2, .ref (G.2.1 a2)), (3, .int a3), (4, .int a4), (6, .int x6), (7, .int 0)]) [1, 2, 3, 4, 5, 6, 0] rfl ?_
      obtain ⟨n1, H⟩ := H
      exact fm_X0_solve_120 d o_k o_a1 o_a2 ih n1 _ _ _ H
set_option maxHeartbeats 4000000 in
set_option maxRecDepth 100000 in
theorem fm_X0_solve_29 {l : Launch} {S : aS} {G : aG} (d : Nat) {k : Nat} {a1 : Nat} {a2 : Nat} {a3 : Int32} {a4 : Int32} {Q : aH → Prop} (o_k : aObj S k 0 flX0) (o_a1 : aObj S a1 1 flX2) (o_a2 : aObj S a2 4 flX5) : ∀ (n : Nat) (x5 : Int32) (x6 : Int32) (h : aH), f_X0_solve_29 S k a1 a2 a3 a4 Q n x5 x6 h → AW l S G (d + 6) M_X0_solve (va_Qv Q (aPo S G) (aA S G)) 29 [(0, .ref (G.2.1 k)), (1, .ref (G.2.1 a1)), (2, .ref (G.2.1 a2)), (3, .int a3), (4, .int a4), (5, .int x5), (6, .int x6)] [] h := by
  intro n
  induction n with
  | zero => intro x5 x6 h H; exact False.elim H
  | succ n ih =>
    intro x5 x6 h H
    unfold f_X0_solve_29 at H
    refine aw_iload dX0_solve_29 6 rfl ?_
    refine aw_aload_n dX0_solve_31 rfl 0 rfl ?_
    refine aw_getI cf_X0 4 (by decide) rfl wd_261 o_k dX0_solve_32 ?_
    refine aw_name (fun v26 e_v26 => ?_)
    replace H := H v26 e_v26
    refine aw_icmp_ge (tgt := 89) dX0_solve_35 (by decide) (fun c27 => ?_) (fun c27 => ?_)
    · replace H := a_pos c27 H
      refine aw_aload_n dX0_solve_89 rfl 0 rfl ?_
      refine aw_getR cf_X0 6 (by decide) rfl wd_263 o_k dX0_solve_90 ?_
      refine aw_iload dX0_solve_93 5 rfl ?_
      refine aw_iconst (v := 0) dX0_solve_95 (by decide) ?_
      obtain ⟨z28, H⟩ := H
      refine aw_iastore z28 dX0_solve_96 ?_
      refine aw_nameH (fun h29 e_h29 => ?_)
      replace H := H h29 e_h29
      refine aw_iload dX0_solve_97 5 rfl ?_
      refine aw_iconst (v := 1) dX0_solve_99 (by decide) ?_
      refine aw_isub dX0_solve_100 ?_
      refine aw_name (fun x6_30 e_x6_30 => ?_)
      replace H := H x6_30 e_x6_30
      refine aw_istore (lv' := [(6, .int x6_30), (0, .ref (G.2.1 k)), (1, .ref (G.2.1 a1)), (2, .ref (G.2.1 a2)), (3, .int a3), (4, .int a4), (5, .int x5)]) dX0_solve_101 (by decide) rfl ?_
      refine aw_sub (lv' := [(0, .ref (G.2.1 k)), (1, .ref (G.2.1 a1)), (2, .ref (G.2.1 a2)), (3, .int a3), (4, .int a4), (6, .int x6_30)]) [1, 2, 3, 4, 5, 0] rfl ?_
      obtain ⟨n1, H⟩ := H
      exact fm_X0_solve_103 d o_k o_a1 o_a2 n1 _ _ H
    · replace H := a_neg c27 H
      refine aw_iconst (v := 0) dX0_solve_38 (by decide) ?_
      refine aw_istore (lv' := [(7, .int 0), (0, .ref (G.2.1 k)), (1, .ref (G.2.1 a1)), (2, .ref (G.2.1 a2)), (3, .int a3), (4, .int a4), (5, .int x5), (6, .int x6)]) dX0_solve_39 (by decide) rfl ?_
      refine aw_sub (lv' := [(0, .ref (G.2.1 k)), (1, .ref (G.2.1 a1)), (2, .ref (G.2.1 a2)), (3, .int a3), (4, .int a4), (5, .int x5), (6, .int x6), (7, .int 0)]) [1, 2, 3, 4, 5, 6, 7, 0] rfl ?_
      obtain ⟨n1, H⟩ := H
      exact fm_X0_solve_41 d o_k o_a1 o_a2 ih n1 _ _ _ _ H
set_option maxHeartbeats 4000000 in
set_option maxRecDepth 100000 in
theorem am_X0_solve {l : Launch} {S : aS} {G : aG} (d : Nat) {k : Nat} {a1 : Nat} {a2 : Nat} {a3 : Int32} {a4 : Int32} {h : aH} {Q : aH → Prop} (o_k : aObj S k 0 flX0) (o_a1 : aObj S a1 1 flX2) (o_a2 : aObj S a2 4 flX5) (H : f_X0_solve S k a1 a2 a3 a4 h Q) : AMv l S G (d + 6) M_X0_solve [.ref (G.2.1 k), .ref (G.2.1 a1), .ref (G.2.1 a2), .int a3, .int a4] h Q := by
  unfold f_X0_solve at H
  refine am_of mf_X0_solve (Nat.le_of_ble_eq_true rfl) (lv0 := [(0, .ref (G.2.1 k)), (1, .ref (G.2.1 a1)), (2, .ref (G.2.1 a2)), (3, .int a3), (4, .int a4)]) rfl ?_
  refine aw_aload_n dX0_solve_0 rfl 0 rfl ?_
  refine aw_aload_n dX0_solve_1 rfl 1 rfl ?_
  refine aw_aload_n dX0_solve_2 rfl 2 rfl ?_
  refine aw_iload_n dX0_solve_3 rfl 3 rfl ?_
  refine aw_iload dX0_solve_4 4 rfl ?_
  refine aw_callV_v (As := [.ref (G.2.1 a1), .ref (G.2.1 a2), .int a3, .int a4]) (rest := []) (am_X0_list d o_k o_a1 o_a2 H) mf_X0_list wd_872 wd_874 ws_2_8 cf_X0 o_k rfl rfl (Nat.le_of_ble_eq_true rfl) dX0_solve_6 (fun h31 H => ?_)
  refine aw_iconst (v := 1) dX0_solve_9 (by decide) ?_
  refine aw_aload_n dX0_solve_10 rfl 0 rfl ?_
  refine aw_getI cf_X0 4 (by decide) rfl wd_261 o_k dX0_solve_11 ?_
  refine aw_name (fun v32 e_v32 => ?_)
  replace H := H v32 e_v32
  refine aw_ishl dX0_solve_14 ?_
  refine aw_iconst (v := 1) dX0_solve_15 (by decide) ?_
  refine aw_isub dX0_solve_16 ?_
  refine aw_name (fun x5_33 e_x5_33 => ?_)
  replace H := H x5_33 e_x5_33
  refine aw_istore (lv' := [(5, .int x5_33), (0, .ref (G.2.1 k)), (1, .ref (G.2.1 a1)), (2, .ref (G.2.1 a2)), (3, .int a3), (4, .int a4)]) dX0_solve_17 (by decide) rfl ?_
  refine aw_aload_n dX0_solve_19 rfl 1 rfl ?_
  refine aw_getR cf_X0 5 (by decide) rfl wd_262 o_k dX0_solve_20 ?_
  refine aw_iconst (v := 0) dX0_solve_23 (by decide) ?_
  refine aw_iconst (v := 0) dX0_solve_24 (by decide) ?_
  obtain ⟨z34, H⟩ := H
  refine aw_iastore z34 dX0_solve_25 ?_
  refine aw_nameH (fun h35 e_h35 => ?_)
  replace H := H h35 e_h35
  refine aw_iconst (v := 0) dX0_solve_26 (by decide) ?_
  refine aw_istore (lv' := [(6, .int 0), (5, .int x5_33), (0, .ref (G.2.1 k)), (1, .ref (G.2.1 a1)), (2, .ref (G.2.1 a2)), (3, .int a3), (4, .int a4)]) dX0_solve_27 (by decide) rfl ?_
  refine aw_sub (lv' := [(0, .ref (G.2.1 k)), (1, .ref (G.2.1 a1)), (2, .ref (G.2.1 a2)), (3, .int a3), (4, .int a4), (5, .int x5_33), (6, .int 0)]) [2, 3, 4, 5, 6, 1, 0] rfl ?_
  obtain ⟨n1, H⟩ := H
  exact fm_X0_solve_29 d o_k o_a1 o_a2 n1 _ _ _ H
set_option maxHeartbeats 4000000 in
set_option maxRecDepth 100000 in
theorem am_X0_cost {l : Launch} {S : aS} {G : aG} (d : Nat) {k : Nat} {h : aH} {Q : Int32 → aH → Prop} (o_k : aObj S k 0 flX0) (H : f_X0_cost S k h Q) : AMi l S G d M_X0_cost [.ref (G.2.1 k)] h Q := by
  unfold f_X0_cost at H
  refine am_of mf_X0_cost (Nat.le_of_ble_eq_true rfl) (lv0 := [(0, .ref (G.2.1 k))]) rfl ?_
  refine aw_aload_n dX0_cost_0 rfl 0 rfl ?_
  refine aw_getR cf_X0 6 (by decide) rfl wd_263 o_k dX0_cost_1 ?_
  refine aw_iconst (v := 0) dX0_cost_4 (by decide) ?_
  obtain ⟨z1, H⟩ := H
  refine aw_iaload z1 dX0_cost_5 ?_
  refine aw_name (fun v2 e_v2 => ?_)
  replace H := H v2 e_v2
  exact aw_iret rfl H dX0_cost_6
set_option maxHeartbeats 4000000 in
set_option maxRecDepth 100000 in
theorem fm_X0_nextBehind_2 {l : Launch} {S : aS} {G : aG} (d : Nat) {k : Nat} {a1 : Int32} {Q : Int32 → aH → Prop} (o_k : aObj S k 0 flX0) : ∀ (n : Nat) (x2 : Int32) (h : aH), f_X0_nextBehind_2 S k a1 Q n x2 h → AW l S G (d + 1) M_X0_nextBehind (va_Qi Q (aPo S G) (aA S G)) 2 [(0, .ref (G.2.1 k)), (1, .int a1), (2, .int x2)] [] h := by
  intro n
  induction n with
  | zero => intro x2 h H; exact False.elim H
  | succ n ih =>
    intro x2 h H
    unfold f_X0_nextBehind_2 at H
    refine aw_iload_n dX0_nextBehind_2 rfl 2 rfl ?_
    refine aw_aload_n dX0_nextBehind_3 rfl 0 rfl ?_
    refine aw_getI cf_X0 4 (by decide) rfl wd_261 o_k dX0_nextBehind_4 ?_
    refine aw_name (fun v1 e_v1 => ?_)
    replace H := H v1 e_v1
    refine aw_icmp_ge (tgt := 41) dX0_nextBehind_7 (by decide) (fun c2 => ?_) (fun c2 => ?_)
    · replace H := a_pos c2 H
      refine aw_iconst (v := 0) dX0_nextBehind_41 (by decide) ?_
      exact aw_iret rfl H dX0_nextBehind_42
    · replace H := a_neg c2 H
      refine aw_iload_n dX0_nextBehind_10 rfl 1 rfl ?_
      refine aw_iload_n dX0_nextBehind_11 rfl 2 rfl ?_
      refine aw_ishr dX0_nextBehind_12 ?_
      refine aw_iconst (v := 1) dX0_nextBehind_13 (by decide) ?_
      refine aw_iand dX0_nextBehind_14 ?_
      refine aw_if_ne (tgt := 35) dX0_nextBehind_15 (by decide) (fun c3 => ?_) (fun c3 => ?_)
      · replace H := a_pos c3 H
        obtain ⟨x2_4, e_x2_4⟩ : ∃ y : Int32, y = x2 + 1 := ⟨_, rfl⟩
        replace H := H x2_4 e_x2_4
        refine aw_iinc (v := x2_4) (lv' := [(2, .int x2_4), (0, .ref (G.2.1 k)), (1, .int a1)]) dX0_nextBehind_35 (n0 := 2) rfl (by rw [e_x2_4]; rfl) (by decide) rfl ?_
        refine aw_goto (tgt := 2) dX0_nextBehind_38 (by decide) ?_
        refine aw_sub (lv' := [(0, .ref (G.2.1 k)), (1, .int a1), (2, .int x2_4)]) [1, 2, 0] rfl ?_
        exact ih _ _ H
      · replace H := a_neg2 c3 H
        refine aw_aload_n dX0_nextBehind_18 rfl 0 rfl ?_
        refine aw_iload_n dX0_nextBehind_19 rfl 2 rfl ?_
        refine aw_iload_n dX0_nextBehind_20 rfl 1 rfl ?_
        refine aw_callV_i (As := [.int x2, .int a1]) (rest := []) (am_X0_costOf d o_k H) mf_X0_costOf wd_878 wd_880 ws_2_9 cf_X0 o_k rfl rfl (Nat.le_of_ble_eq_true rfl) dX0_nextBehind_21 (fun r6 h5 H => ?_)
        refine aw_aload_n dX0_nextBehind_24 rfl 0 rfl ?_
        refine aw_getR cf_X0 6 (by decide) rfl wd_263 o_k dX0_nextBehind_25 ?_
        refine aw_iload_n dX0_nextBehind_28 rfl 1 rfl ?_
        obtain ⟨z7, H⟩ := H
        refine aw_iaload z7 dX0_nextBehind_29 ?_
        refine aw_name (fun v8 e_v8 => ?_)
        replace H := H v8 e_v8
        refine aw_icmp_ne (tgt := 35) dX0_nextBehind_30 (by decide) (fun c9 => ?_) (fun c9 => ?_)
        · replace H := a_pos c9 H
          obtain ⟨x2_10, e_x2_10⟩ : ∃ y : Int32, y = x2 + 1 := ⟨_, rfl⟩
          replace H := H x2_10 e_x2_10
          refine aw_iinc (v := x2_10) (lv' := [(2, .int x2_10), (0, .ref (G.2.1 k)), (1, .int a1)]) dX0_nextBehind_35 (n0 := 2) rfl (by rw [e_x2_10]; rfl) (by decide) rfl ?_
          refine aw_goto (tgt := 2) dX0_nextBehind_38 (by decide) ?_
          refine aw_sub (lv' := [(0, .ref (G.2.1 k)), (1, .int a1), (2, .int x2_10)]) [1, 2, 0] rfl ?_
          exact ih _ _ H
        · replace H := a_neg2 c9 H
          refine aw_iload_n dX0_nextBehind_33 rfl 2 rfl ?_
          exact aw_iret rfl H dX0_nextBehind_34
set_option maxHeartbeats 4000000 in
set_option maxRecDepth 100000 in
theorem am_X0_nextBehind {l : Launch} {S : aS} {G : aG} (d : Nat) {k : Nat} {a1 : Int32} {h : aH} {Q : Int32 → aH → Prop} (o_k : aObj S k 0 flX0) (H : f_X0_nextBehind S k a1 h Q) : AMi l S G (d + 1) M_X0_nextBehind [.ref (G.2.1 k), .int a1] h Q := by
  unfold f_X0_nextBehind at H
  refine am_of mf_X0_nextBehind (Nat.le_of_ble_eq_true rfl) (lv0 := [(0, .ref (G.2.1 k)), (1, .int a1)]) rfl ?_
  refine aw_iconst (v := 0) dX0_nextBehind_0 (by decide) ?_
  refine aw_istore_n (lv' := [(2, .int 0), (0, .ref (G.2.1 k)), (1, .int a1)]) dX0_nextBehind_1 rfl (by decide) rfl ?_
  refine aw_sub (lv' := [(0, .ref (G.2.1 k)), (1, .int a1), (2, .int 0)]) [1, 2, 0] rfl ?_
  obtain ⟨n1, H⟩ := H
  exact fm_X0_nextBehind_2 d o_k n1 _ _ H
set_option maxHeartbeats 4000000 in
set_option maxRecDepth 100000 in
theorem fm_X0_holeAt_7 {l : Launch} {S : aS} {G : aG} (d : Nat) {k : Nat} {a1 : Int32} {Q : Int32 → aH → Prop} (o_k : aObj S k 0 flX0) : ∀ (n : Nat) (x2 : Int32) (x3 : Int32) (x4 : Int32) (h : aH), f_X0_holeAt_7 S k a1 Q n x2 x3 x4 h → AW l S G (d + 2) M_X0_holeAt (va_Qi Q (aPo S G) (aA S G)) 7 [(0, .ref (G.2.1 k)), (1, .int a1), (2, .int x2), (3, .int x3), (4, .int x4)] [] h := by
  intro n
  induction n with
  | zero => intro x2 x3 x4 h H; exact False.elim H
  | succ n ih =>
    intro x2 x3 x4 h H
    unfold f_X0_holeAt_7 at H
    refine aw_iload dX0_holeAt_7 4 rfl ?_
    refine aw_iload_n dX0_holeAt_9 rfl 1 rfl ?_
    refine aw_icmp_gt (tgt := 50) dX0_holeAt_10 (by decide) (fun c1 => ?_) (fun c1 => ?_)
    · replace H := a_pos c1 H
      refine aw_iload_n dX0_holeAt_50 rfl 3 rfl ?_
      exact aw_iret rfl H dX0_holeAt_51
    · replace H := a_neg c1 H
      refine aw_iload dX0_holeAt_13 4 rfl ?_
      refine aw_aload_n dX0_holeAt_15 rfl 0 rfl ?_
      refine aw_getI cf_X0 4 (by decide) rfl wd_261 o_k dX0_holeAt_16 ?_
      refine aw_name (fun v2 e_v2 => ?_)
      replace H := H v2 e_v2
      refine aw_icmp_ge (tgt := 50) dX0_holeAt_19 (by decide) (fun c3 => ?_) (fun c3 => ?_)
      · replace H := a_pos c3 H
        refine aw_iload_n dX0_holeAt_50 rfl 3 rfl ?_
        exact aw_iret rfl H dX0_holeAt_51
      · replace H := a_neg c3 H
        refine aw_aload_n dX0_holeAt_22 rfl 0 rfl ?_
        refine aw_iload_n dX0_holeAt_23 rfl 2 rfl ?_
        refine aw_callV_i (As := [.int x2]) (rest := []) (am_X0_nextBehind d o_k H) mf_X0_nextBehind wd_891 wd_893 ws_2_10 cf_X0 o_k rfl rfl (Nat.le_of_ble_eq_true rfl) dX0_holeAt_24 (fun r5 h4 H => ?_)
        refine aw_istore (lv' := [(5, .int r5), (0, .ref (G.2.1 k)), (1, .int a1), (2, .int x2), (3, .int x3), (4, .int x4)]) dX0_holeAt_27 (by decide) rfl ?_
        refine aw_iload_n dX0_holeAt_29 rfl 3 rfl ?_
        refine aw_iconst (v := 1) dX0_holeAt_30 (by decide) ?_
        refine aw_iload dX0_holeAt_31 0 rfl ?_
        refine aw_ishl dX0_holeAt_33 ?_
        refine aw_ior dX0_holeAt_34 ?_
        refine aw_name (fun x2_6 e_x2_6 => ?_)
        replace H := H x2_6 e_x2_6
        refine aw_istore_n (lv' := [(2, .int x2_6), (5, .int r5), (0, .ref (G.2.1 k)), (1, .int a1), (3, .int x3), (4, .int x4)]) dX0_holeAt_35 rfl (by decide) rfl ?_
        refine aw_aload_n dX0_holeAt_36 rfl 2 rfl ?_
        refine aw_getR cf_X0 0 (by decide) rfl wd_257 o_k dX0_holeAt_37 ?_
        refine aw_iload dX0_holeAt_40 1 rfl ?_
        obtain ⟨z7, H⟩ := H
        refine aw_iaload z7 dX0_holeAt_42 ?_
        refine aw_name (fun v8 e_v8 => ?_)
        replace H := H v8 e_v8
        refine aw_istore_n (lv' := [(3, .int v8), (2, .int x2_6), (5, .int r5), (0, .ref (G.2.1 k)), (1, .int a1), (4, .int x4)]) dX0_holeAt_43 rfl (by decide) rfl ?_
        obtain ⟨x4_9, e_x4_9⟩ : ∃ y : Int32, y = x4 + 1 := ⟨_, rfl⟩
        replace H := H x4_9 e_x4_9
        refine aw_iinc (v := x4_9) (lv' := [(4, .int x4_9), (3, .int v8), (2, .int x2_6), (5, .int r5), (0, .ref (G.2.1 k)), (1, .int a1)]) dX0_holeAt_44 (n0 := 5) rfl (by rw [e_x4_9]; rfl) (by decide) rfl ?_
        refine aw_goto (tgt := 7) dX0_holeAt_47 (by decide) ?_
        refine aw_sub (lv' := [(0, .ref (G.2.1 k)), (1, .int a1), (2, .int x2_6), (3, .int v8), (4, .int x4_9)]) [4, 5, 2, 1, 0] rfl ?_
        exact ih _ _ _ _ H
set_option maxHeartbeats 4000000 in
set_option maxRecDepth 100000 in
theorem am_X0_holeAt {l : Launch} {S : aS} {G : aG} (d : Nat) {k : Nat} {a1 : Int32} {h : aH} {Q : Int32 → aH → Prop} (o_k : aObj S k 0 flX0) (H : f_X0_holeAt S k a1 h Q) : AMi l S G (d + 2) M_X0_holeAt [.ref (G.2.1 k), .int a1] h Q := by
  unfold f_X0_holeAt at H
  refine am_of mf_X0_holeAt (Nat.le_of_ble_eq_true rfl) (lv0 := [(0, .ref (G.2.1 k)), (1, .int a1)]) rfl ?_
  refine aw_iconst (v := 0) dX0_holeAt_0 (by decide) ?_
  refine aw_istore_n (lv' := [(2, .int 0), (0, .ref (G.2.1 k)), (1, .int a1)]) dX0_holeAt_1 rfl (by decide) rfl ?_
  refine aw_iconst (v := (-1)) dX0_holeAt_2 (by decide) ?_
  refine aw_istore_n (lv' := [(3, .int (-1)), (2, .int 0), (0, .ref (G.2.1 k)), (1, .int a1)]) dX0_holeAt_3 rfl (by decide) rfl ?_
  refine aw_iconst (v := 0) dX0_holeAt_4 (by decide) ?_
  refine aw_istore (lv' := [(4, .int 0), (3, .int (-1)), (2, .int 0), (0, .ref (G.2.1 k)), (1, .int a1)]) dX0_holeAt_5 (by decide) rfl ?_
  refine aw_sub (lv' := [(0, .ref (G.2.1 k)), (1, .int a1), (2, .int 0), (3, .int (-1)), (4, .int 0)]) [3, 4, 2, 1, 0] rfl ?_
  obtain ⟨n1, H⟩ := H
  exact fm_X0_holeAt_7 d o_k n1 _ _ _ _ H
set_option maxHeartbeats 4000000 in
set_option maxRecDepth 100000 in
theorem am_X1_side {l : Launch} {S : aS} {G : aG} (d : Nat) {a0 : Int32} {a1 : Int32} {h : aH} {Q : Int32 → aH → Prop} (H : f_X1_side S a0 a1 h Q) : AMi l S G (d + 2) M_X1_side [.int a0, .int a1] h Q := by
  unfold f_X1_side at H
  refine am_of mf_X1_side (Nat.le_of_ble_eq_true rfl) (lv0 := [(0, .int a0), (1, .int a1)]) rfl ?_
  refine aw_iload_n dX1_side_0 rfl 0 rfl ?_
  obtain ⟨z1, H⟩ := H
  refine aw_gsld (f := "SIDE_X") (N := 4) (v := gDX) (fun X => X.2.2.1) dX1_side_1 wd_918 dX1_side_4 rfl 1 rfl dX1_side_5 z1 ?_
  refine aw_name (fun v2 e_v2 => ?_)
  replace H := H v2 e_v2
  obtain ⟨z3, H⟩ := H
  refine aw_gsld (f := "SIDE_Y") (N := 4) (v := gDY) (fun X => X.2.2.2.1) dX1_side_6 wd_920 dX1_side_9 rfl 1 rfl dX1_side_10 z3 ?_
  refine aw_name (fun v4 e_v4 => ?_)
  replace H := H v4 e_v4
  refine aw_callS_i (As := [.int a0, .int v2, .int v4]) (rest := []) (am_X1_beside d H) mf_X1_beside wd_367 wd_368 rfl rfl (Nat.le_of_ble_eq_true rfl) dX1_side_11 (fun r6 h5 H => ?_)
  exact aw_iret rfl H dX1_side_14
set_option maxHeartbeats 4000000 in
set_option maxRecDepth 100000 in
theorem am_X1_way {l : Launch} {S : aS} {G : aG} (d : Nat) {a0 : Int32} {a1 : Int32} {h : aH} {Q : Int32 → aH → Prop} (H : f_X1_way S a0 a1 h Q) : AMi l S G (d + 1) M_X1_way [.int a0, .int a1] h Q := by
  unfold f_X1_way at H
  refine am_of mf_X1_way (Nat.le_of_ble_eq_true rfl) (lv0 := [(0, .int a0), (1, .int a1)]) rfl ?_
  refine aw_iload_n dX1_way_0 rfl 0 rfl ?_
  refine aw_callS_i (As := [.int a0]) (rest := []) (am_X1_xOf d H) mf_X1_xOf wd_370 wd_371 rfl rfl (Nat.le_of_ble_eq_true rfl) dX1_way_1 (fun r2 h1 H => ?_)
  refine aw_iload_n dX1_way_4 rfl 1 rfl ?_
  refine aw_callS_i (As := [.int a1]) (rest := [.int r2]) (am_X1_xOf d H) mf_X1_xOf wd_370 wd_371 rfl rfl (Nat.le_of_ble_eq_true rfl) dX1_way_5 (fun r4 h3 H => ?_)
  refine aw_isub dX1_way_8 ?_
  refine aw_mabs wd_715 wd_716 wd_15 wd_717 (Nat.le_of_ble_eq_true rfl) dX1_way_9 ?_
  refine aw_name (fun v5 e_v5 => ?_)
  replace H := H v5 e_v5
  refine aw_iload_n dX1_way_12 rfl 0 rfl ?_
  refine aw_callS_i (As := [.int a0]) (rest := [.int v5]) (am_X1_yOf d H) mf_X1_yOf wd_373 wd_374 rfl rfl (Nat.le_of_ble_eq_true rfl) dX1_way_13 (fun r7 h6 H => ?_)
  refine aw_iload_n dX1_way_16 rfl 1 rfl ?_
  refine aw_callS_i (As := [.int a1]) (rest := [.int r7, .int v5]) (am_X1_yOf d H) mf_X1_yOf wd_373 wd_374 rfl rfl (Nat.le_of_ble_eq_true rfl) dX1_way_17 (fun r9 h8 H => ?_)
  refine aw_isub dX1_way_20 ?_
  refine aw_mabs wd_715 wd_716 wd_15 wd_717 (Nat.le_of_ble_eq_true rfl) dX1_way_21 ?_
  refine aw_name (fun v10 e_v10 => ?_)
  replace H := H v10 e_v10
  refine aw_iadd dX1_way_24 ?_
  exact aw_iret rfl H dX1_way_25
set_option maxHeartbeats 4000000 in
set_option maxRecDepth 100000 in
theorem am_X1_touch {l : Launch} {S : aS} {G : aG} (d : Nat) {a0 : Int32} {a1 : Int32} {h : aH} {Q : Int32 → aH → Prop} (H : f_X1_touch S a0 a1 h Q) : AMi l S G (d + 1) M_X1_touch [.int a0, .int a1] h Q := by
  unfold f_X1_touch at H
  refine am_of mf_X1_touch (Nat.le_of_ble_eq_true rfl) (lv0 := [(0, .int a0), (1, .int a1)]) rfl ?_
  refine aw_iload_n dX1_touch_0 rfl 0 rfl ?_
  refine aw_iload_n dX1_touch_1 rfl 1 rfl ?_
  refine aw_icmp_eq (tgt := 41) dX1_touch_2 (by decide) (fun c1 => ?_) (fun c1 => ?_)
  · replace H := a_pos c1 H
    refine aw_iconst (v := 0) dX1_touch_41 (by decide) ?_
    exact aw_zret rfl rfl H dX1_touch_42
  · replace H := a_neg c1 H
    refine aw_iload_n dX1_touch_5 rfl 0 rfl ?_
    refine aw_callS_i (As := [.int a0]) (rest := []) (am_X1_xOf d H) mf_X1_xOf wd_370 wd_371 rfl rfl (Nat.le_of_ble_eq_true rfl) dX1_touch_6 (fun r3 h2 H => ?_)
    refine aw_iload_n dX1_touch_9 rfl 1 rfl ?_
    refine aw_callS_i (As := [.int a1]) (rest := [.int r3]) (am_X1_xOf d H) mf_X1_xOf wd_370 wd_371 rfl rfl (Nat.le_of_ble_eq_true rfl) dX1_touch_10 (fun r5 h4 H => ?_)
    refine aw_isub dX1_touch_13 ?_
    refine aw_mabs wd_715 wd_716 wd_15 wd_717 (Nat.le_of_ble_eq_true rfl) dX1_touch_14 ?_
    refine aw_name (fun v6 e_v6 => ?_)
    replace H := H v6 e_v6
    refine aw_iconst (v := 1) dX1_touch_17 (by decide) ?_
    refine aw_icmp_gt (tgt := 41) dX1_touch_18 (by decide) (fun c7 => ?_) (fun c7 => ?_)
    · replace H := a_pos c7 H
      refine aw_iconst (v := 0) dX1_touch_41 (by decide) ?_
      exact aw_zret rfl rfl H dX1_touch_42
    · replace H := a_neg c7 H
      refine aw_iload_n dX1_touch_21 rfl 0 rfl ?_
      refine aw_callS_i (As := [.int a0]) (rest := []) (am_X1_yOf d H) mf_X1_yOf wd_373 wd_374 rfl rfl (Nat.le_of_ble_eq_true rfl) dX1_touch_22 (fun r9 h8 H => ?_)
      refine aw_iload_n dX1_touch_25 rfl 1 rfl ?_
      refine aw_callS_i (As := [.int a1]) (rest := [.int r9]) (am_X1_yOf d H) mf_X1_yOf wd_373 wd_374 rfl rfl (Nat.le_of_ble_eq_true rfl) dX1_touch_26 (fun r11 h10 H => ?_)
      refine aw_isub dX1_touch_29 ?_
      refine aw_mabs wd_715 wd_716 wd_15 wd_717 (Nat.le_of_ble_eq_true rfl) dX1_touch_30 ?_
      refine aw_name (fun v12 e_v12 => ?_)
      replace H := H v12 e_v12
      refine aw_iconst (v := 1) dX1_touch_33 (by decide) ?_
      refine aw_icmp_gt (tgt := 41) dX1_touch_34 (by decide) (fun c13 => ?_) (fun c13 => ?_)
      · replace H := a_pos c13 H
        refine aw_iconst (v := 0) dX1_touch_41 (by decide) ?_
        exact aw_zret rfl rfl H dX1_touch_42
      · replace H := a_neg c13 H
        refine aw_iconst (v := 1) dX1_touch_37 (by decide) ?_
        refine aw_goto (tgt := 42) dX1_touch_38 (by decide) ?_
        exact aw_zret rfl rfl H dX1_touch_42
set_option maxHeartbeats 4000000 in
set_option maxRecDepth 100000 in
theorem am_X1_isMiddle {l : Launch} {S : aS} {G : aG} (d : Nat) {a0 : Int32} {a1 : Int32} {a2 : Int32} {h : aH} {Q : Int32 → aH → Prop} (H : f_X1_isMiddle S a0 a1 a2 h Q) : AMi l S G (d + 1) M_X1_isMiddle [.int a0, .int a1, .int a2] h Q := by
  unfold f_X1_isMiddle at H
  refine am_of mf_X1_isMiddle (Nat.le_of_ble_eq_true rfl) (lv0 := [(0, .int a0), (1, .int a1), (2, .int a2)]) rfl ?_
  refine aw_iload_n dX1_isMiddle_0 rfl 1 rfl ?_
  refine aw_callS_i (As := [.int a1]) (rest := []) (am_X1_xOf d H) mf_X1_xOf wd_370 wd_371 rfl rfl (Nat.le_of_ble_eq_true rfl) dX1_isMiddle_1 (fun r2 h1 H => ?_)
  refine aw_iload_n dX1_isMiddle_4 rfl 0 rfl ?_
  refine aw_callS_i (As := [.int a0]) (rest := [.int r2]) (am_X1_xOf d H) mf_X1_xOf wd_370 wd_371 rfl rfl (Nat.le_of_ble_eq_true rfl) dX1_isMiddle_5 (fun r4 h3 H => ?_)
  refine aw_isub dX1_isMiddle_8 ?_
  refine aw_name (fun x3_5 e_x3_5 => ?_)
  replace H := H x3_5 e_x3_5
  refine aw_istore_n (lv' := [(3, .int x3_5), (0, .int a0), (1, .int a1), (2, .int a2)]) dX1_isMiddle_9 rfl (by decide) rfl ?_
  refine aw_iload_n dX1_isMiddle_10 rfl 2 rfl ?_
  refine aw_callS_i (As := [.int a1]) (rest := []) (am_X1_yOf d H) mf_X1_yOf wd_373 wd_374 rfl rfl (Nat.le_of_ble_eq_true rfl) dX1_isMiddle_11 (fun r7 h6 H => ?_)
  refine aw_iload_n dX1_isMiddle_14 rfl 1 rfl ?_
  refine aw_callS_i (As := [.int a0]) (rest := [.int r7]) (am_X1_yOf d H) mf_X1_yOf wd_373 wd_374 rfl rfl (Nat.le_of_ble_eq_true rfl) dX1_isMiddle_15 (fun r9 h8 H => ?_)
  refine aw_isub dX1_isMiddle_18 ?_
  refine aw_name (fun x4_10 e_x4_10 => ?_)
  replace H := H x4_10 e_x4_10
  refine aw_istore (lv' := [(4, .int x4_10), (3, .int x3_5), (0, .int a0), (1, .int a1), (2, .int a2)]) dX1_isMiddle_19 (by decide) rfl ?_
  refine aw_iload_n dX1_isMiddle_21 rfl 1 rfl ?_
  refine aw_mabs wd_715 wd_716 wd_15 wd_717 (Nat.le_of_ble_eq_true rfl) dX1_isMiddle_22 ?_
  refine aw_name (fun v11 e_v11 => ?_)
  replace H := H v11 e_v11
  refine aw_iconst (v := 3) dX1_isMiddle_25 (by decide) ?_
  refine aw_icmp_gt (tgt := 69) dX1_isMiddle_26 (by decide) (fun c12 => ?_) (fun c12 => ?_)
  · replace H := a_pos c12 H
    refine aw_iconst (v := 0) dX1_isMiddle_69 (by decide) ?_
    exact aw_zret rfl rfl H dX1_isMiddle_70
  · replace H := a_neg c12 H
    refine aw_iload dX1_isMiddle_29 0 rfl ?_
    refine aw_mabs wd_715 wd_716 wd_15 wd_717 (Nat.le_of_ble_eq_true rfl) dX1_isMiddle_31 ?_
    refine aw_name (fun v13 e_v13 => ?_)
    replace H := H v13 e_v13
    refine aw_iconst (v := 3) dX1_isMiddle_34 (by decide) ?_
    refine aw_icmp_gt (tgt := 69) dX1_isMiddle_35 (by decide) (fun c14 => ?_) (fun c14 => ?_)
    · replace H := a_pos c14 H
      refine aw_iconst (v := 0) dX1_isMiddle_69 (by decide) ?_
      exact aw_zret rfl rfl H dX1_isMiddle_70
    · replace H := a_neg c14 H
      refine aw_iload_n dX1_isMiddle_38 rfl 4 rfl ?_
      refine aw_callS_i (As := [.int a2]) (rest := []) (am_X1_xOf d H) mf_X1_xOf wd_370 wd_371 rfl rfl (Nat.le_of_ble_eq_true rfl) dX1_isMiddle_39 (fun r16 h15 H => ?_)
      refine aw_iload_n dX1_isMiddle_42 rfl 3 rfl ?_
      refine aw_callS_i (As := [.int a1]) (rest := [.int r16]) (am_X1_xOf d H) mf_X1_xOf wd_370 wd_371 rfl rfl (Nat.le_of_ble_eq_true rfl) dX1_isMiddle_43 (fun r18 h17 H => ?_)
      refine aw_isub dX1_isMiddle_46 ?_
      refine aw_iload_n dX1_isMiddle_47 rfl 1 rfl ?_
      refine aw_icmp_ne (tgt := 69) dX1_isMiddle_48 (by decide) (fun c19 => ?_) (fun c19 => ?_)
      · replace H := a_pos c19 H
        refine aw_iconst (v := 0) dX1_isMiddle_69 (by decide) ?_
        exact aw_zret rfl rfl H dX1_isMiddle_70
      · replace H := a_neg2 c19 H
        refine aw_iload_n dX1_isMiddle_51 rfl 4 rfl ?_
        refine aw_callS_i (As := [.int a2]) (rest := []) (am_X1_yOf d H) mf_X1_yOf wd_373 wd_374 rfl rfl (Nat.le_of_ble_eq_true rfl) dX1_isMiddle_52 (fun r21 h20 H => ?_)
        refine aw_iload_n dX1_isMiddle_55 rfl 3 rfl ?_
        refine aw_callS_i (As := [.int a1]) (rest := [.int r21]) (am_X1_yOf d H) mf_X1_yOf wd_373 wd_374 rfl rfl (Nat.le_of_ble_eq_true rfl) dX1_isMiddle_56 (fun r23 h22 H => ?_)
        refine aw_isub dX1_isMiddle_59 ?_
        refine aw_iload dX1_isMiddle_60 0 rfl ?_
        refine aw_icmp_ne (tgt := 69) dX1_isMiddle_62 (by decide) (fun c24 => ?_) (fun c24 => ?_)
        · replace H := a_pos c24 H
          refine aw_iconst (v := 0) dX1_isMiddle_69 (by decide) ?_
          exact aw_zret rfl rfl H dX1_isMiddle_70
        · replace H := a_neg2 c24 H
          refine aw_iconst (v := 1) dX1_isMiddle_65 (by decide) ?_
          refine aw_goto (tgt := 70) dX1_isMiddle_66 (by decide) ?_
          exact aw_zret rfl rfl H dX1_isMiddle_70
set_option maxHeartbeats 4000000 in
set_option maxRecDepth 100000 in
theorem am_X1_inRow {l : Launch} {S : aS} {G : aG} (d : Nat) {a0 : Int32} {a1 : Int32} {a2 : Int32} {h : aH} {Q : Int32 → aH → Prop} (H : f_X1_inRow S a0 a1 a2 h Q) : AMi l S G (d + 2) M_X1_inRow [.int a0, .int a1, .int a2] h Q := by
  unfold f_X1_inRow at H
  refine am_of mf_X1_inRow (Nat.le_of_ble_eq_true rfl) (lv0 := [(0, .int a0), (1, .int a1), (2, .int a2)]) rfl ?_
  refine aw_iload_n dX1_inRow_0 rfl 0 rfl ?_
  refine aw_iload_n dX1_inRow_1 rfl 1 rfl ?_
  refine aw_iload_n dX1_inRow_2 rfl 2 rfl ?_
  refine aw_callS_i (As := [.int a0, .int a1, .int a2]) (rest := []) (am_X1_isMiddle d H) mf_X1_isMiddle wd_837 wd_838 rfl rfl (Nat.le_of_ble_eq_true rfl) dX1_inRow_3 (fun r2 h1 H => ?_)
  refine aw_if_ne (tgt := 27) dX1_inRow_6 (by decide) (fun c3 => ?_) (fun c3 => ?_)
  · replace H := a_pos c3 H
    refine aw_iconst (v := 1) dX1_inRow_27 (by decide) ?_
    refine aw_goto (tgt := 32) dX1_inRow_28 (by decide) ?_
    exact aw_zret rfl rfl H dX1_inRow_32
  · replace H := a_neg2 c3 H
    refine aw_iload_n dX1_inRow_9 rfl 1 rfl ?_
    refine aw_iload_n dX1_inRow_10 rfl 0 rfl ?_
    refine aw_iload_n dX1_inRow_11 rfl 2 rfl ?_
    refine aw_callS_i (As := [.int a1, .int a0, .int a2]) (rest := []) (am_X1_isMiddle d H) mf_X1_isMiddle wd_837 wd_838 rfl rfl (Nat.le_of_ble_eq_true rfl) dX1_inRow_12 (fun r5 h4 H => ?_)
    refine aw_if_ne (tgt := 27) dX1_inRow_15 (by decide) (fun c6 => ?_) (fun c6 => ?_)
    · replace H := a_pos c6 H
      refine aw_iconst (v := 1) dX1_inRow_27 (by decide) ?_
      refine aw_goto (tgt := 32) dX1_inRow_28 (by decide) ?_
      exact aw_zret rfl rfl H dX1_inRow_32
    · replace H := a_neg2 c6 H
      refine aw_iload_n dX1_inRow_18 rfl 0 rfl ?_
      refine aw_iload_n dX1_inRow_19 rfl 2 rfl ?_
      refine aw_iload_n dX1_inRow_20 rfl 1 rfl ?_
      refine aw_callS_i (As := [.int a0, .int a2, .int a1]) (rest := []) (am_X1_isMiddle d H) mf_X1_isMiddle wd_837 wd_838 rfl rfl (Nat.le_of_ble_eq_true rfl) dX1_inRow_21 (fun r8 h7 H => ?_)
      refine aw_if_eq (tgt := 31) dX1_inRow_24 (by decide) (fun c9 => ?_) (fun c9 => ?_)
      · replace H := a_pos c9 H
        refine aw_iconst (v := 0) dX1_inRow_31 (by decide) ?_
        exact aw_zret rfl rfl H dX1_inRow_32
      · replace H := a_neg c9 H
        refine aw_iconst (v := 1) dX1_inRow_27 (by decide) ?_
        refine aw_goto (tgt := 32) dX1_inRow_28 (by decide) ?_
        exact aw_zret rfl rfl H dX1_inRow_32
set_option maxHeartbeats 4000000 in
set_option maxRecDepth 100000 in
theorem am_X2_copyFrom {l : Launch} {S : aS} {G : aG} (d : Nat) {k : Nat} {a1 : Nat} {h : aH} {Q : aH → Prop} (o_k : aObj S k 1 flX2) (o_a1 : aObj S a1 1 flX2) (H : f_X2_copyFrom S k a1 h Q) : AMv l S G (d + 1) M_X2_copyFrom [.ref (G.2.1 k), .ref (G.2.1 a1)] h Q := by
  unfold f_X2_copyFrom at H
  refine am_of mf_X2_copyFrom (Nat.le_of_ble_eq_true rfl) (lv0 := [(0, .ref (G.2.1 k)), (1, .ref (G.2.1 a1))]) rfl ?_
  refine aw_aload_n dX2_copyFrom_0 rfl 1 rfl ?_
  refine aw_getR cf_X2 0 (by decide) rfl wd_35 o_a1 dX2_copyFrom_1 ?_
  refine aw_iconst (v := 0) dX2_copyFrom_4 (by decide) ?_
  refine aw_aload_n dX2_copyFrom_5 rfl 0 rfl ?_
  refine aw_getR cf_X2 0 (by decide) rfl wd_35 o_k dX2_copyFrom_6 ?_
  refine aw_iconst (v := 0) dX2_copyFrom_9 (by decide) ?_
  refine aw_sipush (v := 256) dX2_copyFrom_10 (by decide) ?_
  obtain ⟨n1, n2, z3, z4, z5, z6, z7, z8, z9, z10, z11, H⟩ := H
  refine aw_copy wd_747 wd_749 wd_748 wd_20 z3 z4 z5 z6 z7 z8 z9 z10 z11 (Nat.le_of_ble_eq_true rfl) dX2_copyFrom_13 ?_
  refine aw_nameH (fun h12 e_h12 => ?_)
  replace H := H h12 e_h12
  refine aw_aload_n dX2_copyFrom_16 rfl 1 rfl ?_
  refine aw_getR cf_X2 1 (by decide) rfl wd_39 o_a1 dX2_copyFrom_17 ?_
  refine aw_iconst (v := 0) dX2_copyFrom_20 (by decide) ?_
  refine aw_aload_n dX2_copyFrom_21 rfl 0 rfl ?_
  refine aw_getR cf_X2 1 (by decide) rfl wd_39 o_k dX2_copyFrom_22 ?_
  refine aw_iconst (v := 0) dX2_copyFrom_25 (by decide) ?_
  refine aw_sipush (v := 256) dX2_copyFrom_26 (by decide) ?_
  obtain ⟨n13, n14, z15, z16, z17, z18, z19, z20, z21, z22, z23, H⟩ := H
  refine aw_copy wd_747 wd_749 wd_748 wd_20 z15 z16 z17 z18 z19 z20 z21 z22 z23 (Nat.le_of_ble_eq_true rfl) dX2_copyFrom_29 ?_
  refine aw_nameH (fun h24 e_h24 => ?_)
  replace H := H h24 e_h24
  refine aw_aload_n dX2_copyFrom_32 rfl 1 rfl ?_
  refine aw_getR cf_X2 2 (by decide) rfl wd_40 o_a1 dX2_copyFrom_33 ?_
  refine aw_iconst (v := 0) dX2_copyFrom_36 (by decide) ?_
  refine aw_aload_n dX2_copyFrom_37 rfl 0 rfl ?_
  refine aw_getR cf_X2 2 (by decide) rfl wd_40 o_k dX2_copyFrom_38 ?_
  refine aw_iconst (v := 0) dX2_copyFrom_41 (by decide) ?_
  refine aw_sipush (v := 256) dX2_copyFrom_42 (by decide) ?_
  obtain ⟨n25, n26, z27, z28, z29, z30, z31, z32, z33, z34, z35, H⟩ := H
  refine aw_copy wd_747 wd_749 wd_748 wd_20 z27 z28 z29 z30 z31 z32 z33 z34 z35 (Nat.le_of_ble_eq_true rfl) dX2_copyFrom_45 ?_
  refine aw_nameH (fun h36 e_h36 => ?_)
  replace H := H h36 e_h36
  refine aw_aload_n dX2_copyFrom_48 rfl 1 rfl ?_
  refine aw_getR cf_X2 3 (by decide) rfl wd_43 o_a1 dX2_copyFrom_49 ?_
  refine aw_iconst (v := 0) dX2_copyFrom_52 (by decide) ?_
  refine aw_aload_n dX2_copyFrom_53 rfl 0 rfl ?_
  refine aw_getR cf_X2 3 (by decide) rfl wd_43 o_k dX2_copyFrom_54 ?_
  refine aw_iconst (v := 0) dX2_copyFrom_57 (by decide) ?_
  refine aw_sipush (v := 256) dX2_copyFrom_58 (by decide) ?_
  obtain ⟨n37, n38, z39, z40, z41, z42, z43, z44, z45, z46, z47, H⟩ := H
  refine aw_copy wd_747 wd_749 wd_748 wd_20 z39 z40 z41 z42 z43 z44 z45 z46 z47 (Nat.le_of_ble_eq_true rfl) dX2_copyFrom_61 ?_
  refine aw_nameH (fun h48 e_h48 => ?_)
  replace H := H h48 e_h48
  refine aw_aload_n dX2_copyFrom_64 rfl 1 rfl ?_
  refine aw_getR cf_X2 4 (by decide) rfl wd_46 o_a1 dX2_copyFrom_65 ?_
  refine aw_iconst (v := 0) dX2_copyFrom_68 (by decide) ?_
  refine aw_aload_n dX2_copyFrom_69 rfl 0 rfl ?_
  refine aw_getR cf_X2 4 (by decide) rfl wd_46 o_k dX2_copyFrom_70 ?_
  refine aw_iconst (v := 0) dX2_copyFrom_73 (by decide) ?_
  refine aw_bipush (v := 12) dX2_copyFrom_74 (by decide) ?_
  obtain ⟨n49, n50, z51, z52, z53, z54, z55, z56, z57, z58, z59, H⟩ := H
  refine aw_copy wd_747 wd_749 wd_748 wd_20 z51 z52 z53 z54 z55 z56 z57 z58 z59 (Nat.le_of_ble_eq_true rfl) dX2_copyFrom_76 ?_
  refine aw_nameH (fun h60 e_h60 => ?_)
  replace H := H h60 e_h60
  refine aw_aload_n dX2_copyFrom_79 rfl 1 rfl ?_
  refine aw_getR cf_X2 5 (by decide) rfl wd_51 o_a1 dX2_copyFrom_80 ?_
  refine aw_iconst (v := 0) dX2_copyFrom_83 (by decide) ?_
  refine aw_aload_n dX2_copyFrom_84 rfl 0 rfl ?_
  refine aw_getR cf_X2 5 (by decide) rfl wd_51 o_k dX2_copyFrom_85 ?_
  refine aw_iconst (v := 0) dX2_copyFrom_88 (by decide) ?_
  refine aw_bipush (v := 12) dX2_copyFrom_89 (by decide) ?_
  obtain ⟨n61, n62, z63, z64, z65, z66, z67, z68, z69, z70, z71, H⟩ := H
  refine aw_copy wd_747 wd_749 wd_748 wd_20 z63 z64 z65 z66 z67 z68 z69 z70 z71 (Nat.le_of_ble_eq_true rfl) dX2_copyFrom_91 ?_
  refine aw_nameH (fun h72 e_h72 => ?_)
  replace H := H h72 e_h72
  refine aw_aload_n dX2_copyFrom_94 rfl 1 rfl ?_
  refine aw_getR cf_X2 6 (by decide) rfl wd_55 o_a1 dX2_copyFrom_95 ?_
  refine aw_iconst (v := 0) dX2_copyFrom_98 (by decide) ?_
  refine aw_aload_n dX2_copyFrom_99 rfl 0 rfl ?_
  refine aw_getR cf_X2 6 (by decide) rfl wd_55 o_k dX2_copyFrom_100 ?_
  refine aw_iconst (v := 0) dX2_copyFrom_103 (by decide) ?_
  refine aw_bipush (v := 12) dX2_copyFrom_104 (by decide) ?_
  obtain ⟨n73, n74, z75, z76, z77, z78, z79, z80, z81, z82, z83, H⟩ := H
  refine aw_copy wd_747 wd_749 wd_748 wd_20 z75 z76 z77 z78 z79 z80 z81 z82 z83 (Nat.le_of_ble_eq_true rfl) dX2_copyFrom_106 ?_
  refine aw_nameH (fun h84 e_h84 => ?_)
  replace H := H h84 e_h84
  refine aw_aload_n dX2_copyFrom_109 rfl 1 rfl ?_
  refine aw_getR cf_X2 7 (by decide) rfl wd_58 o_a1 dX2_copyFrom_110 ?_
  refine aw_iconst (v := 0) dX2_copyFrom_113 (by decide) ?_
  refine aw_aload_n dX2_copyFrom_114 rfl 0 rfl ?_
  refine aw_getR cf_X2 7 (by decide) rfl wd_58 o_k dX2_copyFrom_115 ?_
  refine aw_iconst (v := 0) dX2_copyFrom_118 (by decide) ?_
  refine aw_bipush (v := 12) dX2_copyFrom_119 (by decide) ?_
  obtain ⟨n85, n86, z87, z88, z89, z90, z91, z92, z93, z94, z95, H⟩ := H
  refine aw_copy wd_747 wd_749 wd_748 wd_20 z87 z88 z89 z90 z91 z92 z93 z94 z95 (Nat.le_of_ble_eq_true rfl) dX2_copyFrom_121 ?_
  refine aw_nameH (fun h96 e_h96 => ?_)
  replace H := H h96 e_h96
  refine aw_aload_n dX2_copyFrom_124 rfl 1 rfl ?_
  refine aw_getR cf_X2 8 (by decide) rfl wd_61 o_a1 dX2_copyFrom_125 ?_
  refine aw_iconst (v := 0) dX2_copyFrom_128 (by decide) ?_
  refine aw_aload_n dX2_copyFrom_129 rfl 0 rfl ?_
  refine aw_getR cf_X2 8 (by decide) rfl wd_61 o_k dX2_copyFrom_130 ?_
  refine aw_iconst (v := 0) dX2_copyFrom_133 (by decide) ?_
  refine aw_bipush (v := 12) dX2_copyFrom_134 (by decide) ?_
  obtain ⟨n97, n98, z99, z100, z101, z102, z103, z104, z105, z106, z107, H⟩ := H
  refine aw_copy wd_747 wd_749 wd_748 wd_20 z99 z100 z101 z102 z103 z104 z105 z106 z107 (Nat.le_of_ble_eq_true rfl) dX2_copyFrom_136 ?_
  refine aw_nameH (fun h108 e_h108 => ?_)
  replace H := H h108 e_h108
  refine aw_aload_n dX2_copyFrom_139 rfl 1 rfl ?_
  refine aw_getR cf_X2 10 (by decide) rfl wd_68 o_a1 dX2_copyFrom_140 ?_
  refine aw_iconst (v := 0) dX2_copyFrom_143 (by decide) ?_
  refine aw_aload_n dX2_copyFrom_144 rfl 0 rfl ?_
  refine aw_getR cf_X2 10 (by decide) rfl wd_68 o_k dX2_copyFrom_145 ?_
  refine aw_iconst (v := 0) dX2_copyFrom_148 (by decide) ?_
  refine aw_bipush (v := 8) dX2_copyFrom_149 (by decide) ?_
  obtain ⟨n109, n110, z111, z112, z113, z114, z115, z116, z117, z118, z119, H⟩ := H
  refine aw_copy wd_747 wd_749 wd_748 wd_20 z111 z112 z113 z114 z115 z116 z117 z118 z119 (Nat.le_of_ble_eq_true rfl) dX2_copyFrom_151 ?_
  refine aw_nameH (fun h120 e_h120 => ?_)
  replace H := H h120 e_h120
  refine aw_aload_n dX2_copyFrom_154 rfl 1 rfl ?_
  refine aw_getR cf_X2 11 (by decide) rfl wd_72 o_a1 dX2_copyFrom_155 ?_
  refine aw_iconst (v := 0) dX2_copyFrom_158 (by decide) ?_
  refine aw_aload_n dX2_copyFrom_159 rfl 0 rfl ?_
  refine aw_getR cf_X2 11 (by decide) rfl wd_72 o_k dX2_copyFrom_160 ?_
  refine aw_iconst (v := 0) dX2_copyFrom_163 (by decide) ?_
  refine aw_bipush (v := 8) dX2_copyFrom_164 (by decide) ?_
  obtain ⟨n121, n122, z123, z124, z125, z126, z127, z128, z129, z130, z131, H⟩ := H
  refine aw_copy wd_747 wd_749 wd_748 wd_20 z123 z124 z125 z126 z127 z128 z129 z130 z131 (Nat.le_of_ble_eq_true rfl) dX2_copyFrom_166 ?_
  refine aw_nameH (fun h132 e_h132 => ?_)
  replace H := H h132 e_h132
  refine aw_aload_n dX2_copyFrom_169 rfl 0 rfl ?_
  refine aw_aload_n dX2_copyFrom_170 rfl 1 rfl ?_
  refine aw_getI cf_X2 9 (by decide) rfl wd_64 o_a1 dX2_copyFrom_171 ?_
  refine aw_name (fun v133 e_v133 => ?_)
  replace H := H v133 e_v133
  refine aw_putI cf_X2 9 (by decide) rfl wd_64 rfl rfl rfl o_k dX2_copyFrom_174 ?_
  refine aw_nameH (fun h134 e_h134 => ?_)
  replace H := H h134 e_h134
  refine aw_aload_n dX2_copyFrom_177 rfl 0 rfl ?_
  refine aw_aload_n dX2_copyFrom_178 rfl 1 rfl ?_
  refine aw_getI cf_X2 12 (by decide) rfl wd_75 o_a1 dX2_copyFrom_179 ?_
  refine aw_name (fun v135 e_v135 => ?_)
  replace H := H v135 e_v135
  refine aw_putI cf_X2 12 (by decide) rfl wd_75 rfl rfl rfl o_k dX2_copyFrom_182 ?_
  refine aw_nameH (fun h136 e_h136 => ?_)
  replace H := H h136 e_h136
  refine aw_aload_n dX2_copyFrom_185 rfl 0 rfl ?_
  refine aw_aload_n dX2_copyFrom_186 rfl 1 rfl ?_
  refine aw_getI cf_X2 13 (by decide) rfl wd_78 o_a1 dX2_copyFrom_187 ?_
  refine aw_name (fun v137 e_v137 => ?_)
  replace H := H v137 e_v137
  refine aw_putI cf_X2 13 (by decide) rfl wd_78 rfl rfl rfl o_k dX2_copyFrom_190 ?_
  refine aw_nameH (fun h138 e_h138 => ?_)
  replace H := H h138 e_h138
  refine aw_aload_n dX2_copyFrom_193 rfl 0 rfl ?_
  refine aw_aload_n dX2_copyFrom_194 rfl 1 rfl ?_
  refine aw_getI cf_X2 14 (by decide) rfl wd_82 o_a1 dX2_copyFrom_195 ?_
  refine aw_name (fun v139 e_v139 => ?_)
  replace H := H v139 e_v139
  refine aw_putI cf_X2 14 (by decide) rfl wd_82 rfl rfl rfl o_k dX2_copyFrom_198 ?_
  refine aw_nameH (fun h140 e_h140 => ?_)
  replace H := H h140 e_h140
  exact aw_vret rfl H dX2_copyFrom_201
set_option maxHeartbeats 4000000 in
set_option maxRecDepth 100000 in
theorem am_X2_isOpen {l : Launch} {S : aS} {G : aG} (d : Nat) {k : Nat} {a1 : Int32} {h : aH} {Q : Int32 → aH → Prop} (o_k : aObj S k 1 flX2) (H : f_X2_isOpen S k a1 h Q) : AMi l S G (d + 1) M_X2_isOpen [.ref (G.2.1 k), .int a1] h Q := by
  unfold f_X2_isOpen at H
  refine am_of mf_X2_isOpen (Nat.le_of_ble_eq_true rfl) (lv0 := [(0, .ref (G.2.1 k)), (1, .int a1)]) rfl ?_
  refine aw_aload_n dX2_isOpen_0 rfl 0 rfl ?_
  refine aw_iload_n dX2_isOpen_1 rfl 1 rfl ?_
  refine aw_callV_i (As := [.int a1]) (rest := []) (am_X2_hasHole d o_k H) mf_X2_hasHole wd_621 wd_622 wd_623 cf_X2 o_k rfl rfl (Nat.le_of_ble_eq_true rfl) dX2_isOpen_2 (fun r2 h1 H => ?_)
  refine aw_if_eq (tgt := 27) dX2_isOpen_5 (by decide) (fun c3 => ?_) (fun c3 => ?_)
  · replace H := a_pos c3 H
    refine aw_iconst (v := 0) dX2_isOpen_27 (by decide) ?_
    exact aw_zret rfl rfl H dX2_isOpen_28
  · replace H := a_neg c3 H
    refine aw_aload_n dX2_isOpen_8 rfl 0 rfl ?_
    refine aw_getR cf_X2 1 (by decide) rfl wd_39 o_k dX2_isOpen_9 ?_
    refine aw_aload_n dX2_isOpen_12 rfl 0 rfl ?_
    refine aw_getR cf_X2 4 (by decide) rfl wd_46 o_k dX2_isOpen_13 ?_
    refine aw_iload_n dX2_isOpen_16 rfl 1 rfl ?_
    obtain ⟨z4, H⟩ := H
    refine aw_iaload z4 dX2_isOpen_17 ?_
    refine aw_name (fun v5 e_v5 => ?_)
    replace H := H v5 e_v5
    obtain ⟨z6, H⟩ := H
    refine aw_iaload z6 dX2_isOpen_18 ?_
    refine aw_name (fun v7 e_v7 => ?_)
    replace H := H v7 e_v7
    refine aw_iload_n dX2_isOpen_19 rfl 1 rfl ?_
    refine aw_icmp_ne (tgt := 27) dX2_isOpen_20 (by decide) (fun c8 => ?_) (fun c8 => ?_)
    · replace H := a_pos c8 H
      refine aw_iconst (v := 0) dX2_isOpen_27 (by decide) ?_
      exact aw_zret rfl rfl H dX2_isOpen_28
    · replace H := a_neg2 c8 H
      refine aw_iconst (v := 1) dX2_isOpen_23 (by decide) ?_
      refine aw_goto (tgt := 28) dX2_isOpen_24 (by decide) ?_
      exact aw_zret rfl rfl H dX2_isOpen_28
set_option maxHeartbeats 4000000 in
set_option maxRecDepth 100000 in
theorem fm_X2_allOpen_2 {l : Launch} {S : aS} {G : aG} (d : Nat) {k : Nat} {a1 : Int32} {Q : Int32 → aH → Prop} (o_k : aObj S k 1 flX2) : ∀ (n : Nat) (x2 : Int32) (h : aH), f_X2_allOpen_2 S k a1 Q n x2 h → AW l S G (d + 2) M_X2_allOpen (va_Qi Q (aPo S G) (aA S G)) 2 [(0, .ref (G.2.1 k)), (1, .int a1), (2, .int x2)] [] h := by
  intro n
  induction n with
  | zero => intro x2 h H; exact False.elim H
  | succ n ih =>
    intro x2 h H
    unfold f_X2_allOpen_2 at H
    refine aw_iload_n dX2_allOpen_2 rfl 2 rfl ?_
    refine aw_bipush (v := 12) dX2_allOpen_3 (by decide) ?_
    refine aw_icmp_ge (tgt := 32) dX2_allOpen_5 (by decide) (fun c1 => ?_) (fun c1 => ?_)
    · replace H := a_pos c1 H
      refine aw_iconst (v := 1) dX2_allOpen_32 (by decide) ?_
      exact aw_zret rfl rfl H dX2_allOpen_33
    · replace H := a_neg c1 H
      refine aw_iload_n dX2_allOpen_8 rfl 1 rfl ?_
      refine aw_iload_n dX2_allOpen_9 rfl 2 rfl ?_
      refine aw_ishr dX2_allOpen_10 ?_
      refine aw_iconst (v := 1) dX2_allOpen_11 (by decide) ?_
      refine aw_iand dX2_allOpen_12 ?_
      refine aw_if_eq (tgt := 26) dX2_allOpen_13 (by decide) (fun c2 => ?_) (fun c2 => ?_)
      · replace H := a_pos c2 H
        obtain ⟨x2_3, e_x2_3⟩ : ∃ y : Int32, y = x2 + 1 := ⟨_, rfl⟩
        replace H := H x2_3 e_x2_3
        refine aw_iinc (v := x2_3) (lv' := [(2, .int x2_3), (0, .ref (G.2.1 k)), (1, .int a1)]) dX2_allOpen_26 (n0 := 2) rfl (by rw [e_x2_3]; rfl) (by decide) rfl ?_
        refine aw_goto (tgt := 2) dX2_allOpen_29 (by decide) ?_
        refine aw_sub (lv' := [(0, .ref (G.2.1 k)), (1, .int a1), (2, .int x2_3)]) [1, 2, 0] rfl ?_
        exact ih _ _ H
      · replace H := a_neg c2 H
        refine aw_aload_n dX2_allOpen_16 rfl 0 rfl ?_
        refine aw_iload_n dX2_allOpen_17 rfl 2 rfl ?_
        refine aw_callV_i (As := [.int x2]) (rest := []) (am_X2_isOpen d o_k H) mf_X2_isOpen wd_867 wd_618 wd_619 cf_X2 o_k rfl rfl (Nat.le_of_ble_eq_true rfl) dX2_allOpen_18 (fun r5 h4 H => ?_)
        refine aw_if_ne (tgt := 26) dX2_allOpen_21 (by decide) (fun c6 => ?_) (fun c6 => ?_)
        · replace H := a_pos c6 H
          obtain ⟨x2_7, e_x2_7⟩ : ∃ y : Int32, y = x2 + 1 := ⟨_, rfl⟩
          replace H := H x2_7 e_x2_7
          refine aw_iinc (v := x2_7) (lv' := [(2, .int x2_7), (0, .ref (G.2.1 k)), (1, .int a1)]) dX2_allOpen_26 (n0 := 2) rfl (by rw [e_x2_7]; rfl) (by decide) rfl ?_
          refine aw_goto (tgt := 2) dX2_allOpen_29 (by decide) ?_
          refine aw_sub (lv' := [(0, .ref (G.2.1 k)), (1, .int a1), (2, .int x2_7)]) [1, 2, 0] rfl ?_
          exact ih _ _ H
        · replace H := a_neg2 c6 H
          refine aw_iconst (v := 0) dX2_allOpen_24 (by decide) ?_
          exact aw_zret rfl rfl H dX2_allOpen_25
set_option maxHeartbeats 4000000 in
set_option maxRecDepth 100000 in
theorem am_X2_allOpen {l : Launch} {S : aS} {G : aG} (d : Nat) {k : Nat} {a1 : Int32} {h : aH} {Q : Int32 → aH → Prop} (o_k : aObj S k 1 flX2) (H : f_X2_allOpen S k a1 h Q) : AMi l S G (d + 2) M_X2_allOpen [.ref (G.2.1 k), .int a1] h Q := by
  unfold f_X2_allOpen at H
  refine am_of mf_X2_allOpen (Nat.le_of_ble_eq_true rfl) (lv0 := [(0, .ref (G.2.1 k)), (1, .int a1)]) rfl ?_
  refine aw_iconst (v := 0) dX2_allOpen_0 (by decide) ?_
  refine aw_istore_n (lv' := [(2, .int 0), (0, .ref (G.2.1 k)), (1, .int a1)]) dX2_allOpen_1 rfl (by decide) rfl ?_
  refine aw_sub (lv' := [(0, .ref (G.2.1 k)), (1, .int a1), (2, .int 0)]) [1, 2, 0] rfl ?_
  obtain ⟨n1, H⟩ := H
  exact fm_X2_allOpen_2 d o_k n1 _ _ H
set_option maxHeartbeats 4000000 in
set_option maxRecDepth 100000 in
theorem am_X2_hasGroup {l : Launch} {S : aS} {G : aG} (d : Nat) {k : Nat} {a1 : Int32} {h : aH} {Q : Int32 → aH → Prop} (o_k : aObj S k 1 flX2) (H : f_X2_hasGroup S k a1 h Q) : AMi l S G d M_X2_hasGroup [.ref (G.2.1 k), .int a1] h Q := by
  unfold f_X2_hasGroup at H
  refine am_of mf_X2_hasGroup (Nat.le_of_ble_eq_true rfl) (lv0 := [(0, .ref (G.2.1 k)), (1, .int a1)]) rfl ?_
  refine aw_iload_n dX2_hasGroup_0 rfl 1 rfl ?_
  refine aw_if_lt (tgt := 16) dX2_hasGroup_1 (by decide) (fun c1 => ?_) (fun c1 => ?_)
  · replace H := a_pos c1 H
    refine aw_iconst (v := 0) dX2_hasGroup_16 (by decide) ?_
    exact aw_zret rfl rfl H dX2_hasGroup_17
  · replace H := a_neg c1 H
    refine aw_iload_n dX2_hasGroup_4 rfl 1 rfl ?_
    refine aw_aload_n dX2_hasGroup_5 rfl 0 rfl ?_
    refine aw_getI cf_X2 12 (by decide) rfl wd_75 o_k dX2_hasGroup_6 ?_
    refine aw_name (fun v2 e_v2 => ?_)
    replace H := H v2 e_v2
    refine aw_icmp_ge (tgt := 16) dX2_hasGroup_9 (by decide) (fun c3 => ?_) (fun c3 => ?_)
    · replace H := a_pos c3 H
      refine aw_iconst (v := 0) dX2_hasGroup_16 (by decide) ?_
      exact aw_zret rfl rfl H dX2_hasGroup_17
    · replace H := a_neg c3 H
      refine aw_iconst (v := 1) dX2_hasGroup_12 (by decide) ?_
      refine aw_goto (tgt := 17) dX2_hasGroup_13 (by decide) ?_
      exact aw_zret rfl rfl H dX2_hasGroup_17
set_option maxHeartbeats 4000000 in
set_option maxRecDepth 100000 in
theorem am_X2_isAfloat {l : Launch} {S : aS} {G : aG} (d : Nat) {k : Nat} {a1 : Int32} {h : aH} {Q : Int32 → aH → Prop} (o_k : aObj S k 1 flX2) (H : f_X2_isAfloat S k a1 h Q) : AMi l S G (d + 1) M_X2_isAfloat [.ref (G.2.1 k), .int a1] h Q := by
  unfold f_X2_isAfloat at H
  refine am_of mf_X2_isAfloat (Nat.le_of_ble_eq_true rfl) (lv0 := [(0, .ref (G.2.1 k)), (1, .int a1)]) rfl ?_
  refine aw_aload_n dX2_isAfloat_0 rfl 0 rfl ?_
  refine aw_iload_n dX2_isAfloat_1 rfl 1 rfl ?_
  refine aw_callV_i (As := [.int a1]) (rest := []) (am_X2_hasGroup d o_k H) mf_X2_hasGroup wd_694 wd_695 wd_696 cf_X2 o_k rfl rfl (Nat.le_of_ble_eq_true rfl) dX2_isAfloat_2 (fun r2 h1 H => ?_)
  refine aw_if_eq (tgt := 23) dX2_isAfloat_5 (by decide) (fun c3 => ?_) (fun c3 => ?_)
  · replace H := a_pos c3 H
    refine aw_iconst (v := 0) dX2_isAfloat_23 (by decide) ?_
    exact aw_zret rfl rfl H dX2_isAfloat_24
  · replace H := a_neg c3 H
    refine aw_aload_n dX2_isAfloat_8 rfl 0 rfl ?_
    refine aw_getR cf_X2 10 (by decide) rfl wd_68 o_k dX2_isAfloat_9 ?_
    refine aw_iload_n dX2_isAfloat_12 rfl 1 rfl ?_
    obtain ⟨z4, H⟩ := H
    refine aw_iaload z4 dX2_isAfloat_13 ?_
    refine aw_name (fun v5 e_v5 => ?_)
    replace H := H v5 e_v5
    refine aw_bipush (v := (-2)) dX2_isAfloat_14 (by decide) ?_
    refine aw_icmp_eq (tgt := 23) dX2_isAfloat_16 (by decide) (fun c6 => ?_) (fun c6 => ?_)
    · replace H := a_pos c6 H
      refine aw_iconst (v := 0) dX2_isAfloat_23 (by decide) ?_
      exact aw_zret rfl rfl H dX2_isAfloat_24
    · replace H := a_neg c6 H
      refine aw_iconst (v := 1) dX2_isAfloat_19 (by decide) ?_
      refine aw_goto (tgt := 24) dX2_isAfloat_20 (by decide) ?_
      exact aw_zret rfl rfl H dX2_isAfloat_24
set_option maxHeartbeats 4000000 in
set_option maxRecDepth 100000 in
theorem am_X2_isBroken {l : Launch} {S : aS} {G : aG} (d : Nat) {k : Nat} {a1 : Int32} {h : aH} {Q : Int32 → aH → Prop} (o_k : aObj S k 1 flX2) (H : f_X2_isBroken S k a1 h Q) : AMi l S G d M_X2_isBroken [.ref (G.2.1 k), .int a1] h Q := by
  unfold f_X2_isBroken at H
  refine am_of mf_X2_isBroken (Nat.le_of_ble_eq_true rfl) (lv0 := [(0, .ref (G.2.1 k)), (1, .int a1)]) rfl ?_
  refine aw_aload_n dX2_isBroken_0 rfl 0 rfl ?_
  refine aw_getR cf_X2 1 (by decide) rfl wd_39 o_k dX2_isBroken_1 ?_
  refine aw_iload_n dX2_isBroken_4 rfl 1 rfl ?_
  obtain ⟨z1, H⟩ := H
  refine aw_iaload z1 dX2_isBroken_5 ?_
  refine aw_name (fun v2 e_v2 => ?_)
  replace H := H v2 e_v2
  refine aw_bipush (v := (-2)) dX2_isBroken_6 (by decide) ?_
  refine aw_icmp_ne (tgt := 15) dX2_isBroken_8 (by decide) (fun c3 => ?_) (fun c3 => ?_)
  · replace H := a_pos c3 H
    refine aw_iconst (v := 0) dX2_isBroken_15 (by decide) ?_
    exact aw_zret rfl rfl H dX2_isBroken_16
  · replace H := a_neg2 c3 H
    refine aw_iconst (v := 1) dX2_isBroken_11 (by decide) ?_
    refine aw_goto (tgt := 16) dX2_isBroken_12 (by decide) ?_
    exact aw_zret rfl rfl H dX2_isBroken_16
set_option maxHeartbeats 4000000 in
set_option maxRecDepth 100000 in
theorem fm_X2_carried_4 {l : Launch} {S : aS} {G : aG} (d : Nat) {k : Nat} {a1 : Int32} {Q : Int32 → aH → Prop} (o_k : aObj S k 1 flX2) : ∀ (n : Nat) (x2 : Int32) (x3 : Int32) (h : aH), f_X2_carried_4 S k a1 Q n x2 x3 h → AW l S G d M_X2_carried (va_Qi Q (aPo S G) (aA S G)) 4 [(0, .ref (G.2.1 k)), (1, .int a1), (2, .int x2), (3, .int x3)] [] h := by
  intro n
  induction n with
  | zero => intro x2 x3 h H; exact False.elim H
  | succ n ih =>
    intro x2 x3 h H
    unfold f_X2_carried_4 at H
    refine aw_iload_n dX2_carried_4 rfl 3 rfl ?_
    refine aw_aload_n dX2_carried_5 rfl 0 rfl ?_
    refine aw_getI cf_X2 12 (by decide) rfl wd_75 o_k dX2_carried_6 ?_
    refine aw_name (fun v1 e_v1 => ?_)
    replace H := H v1 e_v1
    refine aw_icmp_ge (tgt := 37) dX2_carried_9 (by decide) (fun c2 => ?_) (fun c2 => ?_)
    · replace H := a_pos c2 H
      refine aw_iload_n dX2_carried_37 rfl 2 rfl ?_
      exact aw_iret rfl H dX2_carried_38
    · replace H := a_neg c2 H
      refine aw_aload_n dX2_carried_12 rfl 0 rfl ?_
      refine aw_getR cf_X2 10 (by decide) rfl wd_68 o_k dX2_carried_13 ?_
      refine aw_iload_n dX2_carried_16 rfl 3 rfl ?_
      obtain ⟨z3, H⟩ := H
      refine aw_iaload z3 dX2_carried_17 ?_
      refine aw_name (fun v4 e_v4 => ?_)
      replace H := H v4 e_v4
      refine aw_iload_n dX2_carried_18 rfl 1 rfl ?_
      refine aw_icmp_ne (tgt := 31) dX2_carried_19 (by decide) (fun c5 => ?_) (fun c5 => ?_)
      · replace H := a_pos c5 H
        obtain ⟨x3_6, e_x3_6⟩ : ∃ y : Int32, y = x3 + 1 := ⟨_, rfl⟩
        replace H := H x3_6 e_x3_6
        refine aw_iinc (v := x3_6) (lv' := [(3, .int x3_6), (0, .ref (G.2.1 k)), (1, .int a1), (2, .int x2)]) dX2_carried_31 (n0 := 3) rfl (by rw [e_x3_6]; rfl) (by decide) rfl ?_
        refine aw_goto (tgt := 4) dX2_carried_34 (by decide) ?_
        refine aw_sub (lv' := [(0, .ref (G.2.1 k)), (1, .int a1), (2, .int x2), (3, .int x3_6)]) [1, 2, 3, 0] rfl ?_
        exact ih _ _ _ H
      · replace H := a_neg2 c5 H
        refine aw_iload_n dX2_carried_22 rfl 2 rfl ?_
        refine aw_aload_n dX2_carried_23 rfl 0 rfl ?_
        refine aw_getR cf_X2 11 (by decide) rfl wd_72 o_k dX2_carried_24 ?_
        refine aw_iload_n dX2_carried_27 rfl 3 rfl ?_
        obtain ⟨z7, H⟩ := H
        refine aw_iaload z7 dX2_carried_28 ?_
        refine aw_name (fun v8 e_v8 => ?_)
        replace H := H v8 e_v8
        refine aw_iadd dX2_carried_29 ?_
        refine aw_name (fun x2_9 e_x2_9 => ?_)
        replace H := H x2_9 e_x2_9
        refine aw_istore_n (lv' := [(2, .int x2_9), (0, .ref (G.2.1 k)), (1, .int a1), (3, .int x3)]) dX2_carried_30 rfl (by decide) rfl ?_
        obtain ⟨x3_10, e_x3_10⟩ : ∃ y : Int32, y = x3 + 1 := ⟨_, rfl⟩
        replace H := H x3_10 e_x3_10
        refine aw_iinc (v := x3_10) (lv' := [(3, .int x3_10), (2, .int x2_9), (0, .ref (G.2.1 k)), (1, .int a1)]) dX2_carried_31 (n0 := 3) rfl (by rw [e_x3_10]; rfl) (by decide) rfl ?_
        refine aw_goto (tgt := 4) dX2_carried_34 (by decide) ?_
        refine aw_sub (lv' := [(0, .ref (G.2.1 k)), (1, .int a1), (2, .int x2_9), (3, .int x3_10)]) [2, 3, 1, 0] rfl ?_
        exact ih _ _ _ H
set_option maxHeartbeats 4000000 in
set_option maxRecDepth 100000 in
theorem am_X2_carried {l : Launch} {S : aS} {G : aG} (d : Nat) {k : Nat} {a1 : Int32} {h : aH} {Q : Int32 → aH → Prop} (o_k : aObj S k 1 flX2) (H : f_X2_carried S k a1 h Q) : AMi l S G d M_X2_carried [.ref (G.2.1 k), .int a1] h Q := by
  unfold f_X2_carried at H
  refine am_of mf_X2_carried (Nat.le_of_ble_eq_true rfl) (lv0 := [(0, .ref (G.2.1 k)), (1, .int a1)]) rfl ?_
  refine aw_iconst (v := 0) dX2_carried_0 (by decide) ?_
  refine aw_istore_n (lv' := [(2, .int 0), (0, .ref (G.2.1 k)), (1, .int a1)]) dX2_carried_1 rfl (by decide) rfl ?_
  refine aw_iconst (v := 0) dX2_carried_2 (by decide) ?_
  refine aw_istore_n (lv' := [(3, .int 0), (2, .int 0), (0, .ref (G.2.1 k)), (1, .int a1)]) dX2_carried_3 rfl (by decide) rfl ?_
  refine aw_sub (lv' := [(0, .ref (G.2.1 k)), (1, .int a1), (2, .int 0), (3, .int 0)]) [2, 3, 1, 0] rfl ?_
  obtain ⟨n1, H⟩ := H
  exact fm_X2_carried_4 d o_k n1 _ _ _ H
set_option maxHeartbeats 4000000 in
set_option maxRecDepth 100000 in
theorem am_X2_isFree {l : Launch} {S : aS} {G : aG} (d : Nat) {k : Nat} {a1 : Int32} {h : aH} {Q : Int32 → aH → Prop} (o_k : aObj S k 1 flX2) (H : f_X2_isFree S k a1 h Q) : AMi l S G (d + 2) M_X2_isFree [.ref (G.2.1 k), .int a1] h Q := by
  unfold f_X2_isFree at H
  refine am_of mf_X2_isFree (Nat.le_of_ble_eq_true rfl) (lv0 := [(0, .ref (G.2.1 k)), (1, .int a1)]) rfl ?_
  refine aw_aload_n dX2_isFree_0 rfl 0 rfl ?_
  refine aw_iload_n dX2_isFree_1 rfl 1 rfl ?_
  refine aw_callV_i (As := [.int a1]) (rest := []) (am_X2_isFirm d o_k H) mf_X2_isFirm wd_561 wd_562 wd_563 cf_X2 o_k rfl rfl (Nat.le_of_ble_eq_true rfl) dX2_isFree_2 (fun r2 h1 H => ?_)
  refine aw_if_eq (tgt := 20) dX2_isFree_5 (by decide) (fun c3 => ?_) (fun c3 => ?_)
  · replace H := a_pos c3 H
    refine aw_iconst (v := 0) dX2_isFree_20 (by decide) ?_
    exact aw_zret rfl rfl H dX2_isFree_21
  · replace H := a_neg c3 H
    refine aw_aload_n dX2_isFree_8 rfl 0 rfl ?_
    refine aw_iload_n dX2_isFree_9 rfl 1 rfl ?_
    refine aw_callV_i (As := [.int a1]) (rest := []) (am_X2_carried (d + 1) o_k H) mf_X2_carried wd_568 wd_569 wd_570 cf_X2 o_k rfl rfl (Nat.le_of_ble_eq_true rfl) dX2_isFree_10 (fun r5 h4 H => ?_)
    refine aw_if_ne (tgt := 20) dX2_isFree_13 (by decide) (fun c6 => ?_) (fun c6 => ?_)
    · replace H := a_pos c6 H
      refine aw_iconst (v := 0) dX2_isFree_20 (by decide) ?_
      exact aw_zret rfl rfl H dX2_isFree_21
    · replace H := a_neg2 c6 H
      refine aw_iconst (v := 1) dX2_isFree_16 (by decide) ?_
      refine aw_goto (tgt := 21) dX2_isFree_17 (by decide) ?_
      exact aw_zret rfl rfl H dX2_isFree_21
set_option maxHeartbeats 4000000 in
set_option maxRecDepth 100000 in
theorem am_X2_stateOf {l : Launch} {S : aS} {G : aG} (d : Nat) {k : Nat} {a1 : Int32} {h : aH} {Q : Int32 → aH → Prop} (o_k : aObj S k 1 flX2) (H : f_X2_stateOf S k a1 h Q) : AMi l S G (d + 1) M_X2_stateOf [.ref (G.2.1 k), .int a1] h Q := by
  unfold f_X2_stateOf at H
  refine am_of mf_X2_stateOf (Nat.le_of_ble_eq_true rfl) (lv0 := [(0, .ref (G.2.1 k)), (1, .int a1)]) rfl ?_
  refine aw_aload_n dX2_stateOf_0 rfl 0 rfl ?_
  refine aw_iload_n dX2_stateOf_1 rfl 1 rfl ?_
  refine aw_callV_i (As := [.int a1]) (rest := []) (am_X2_isBroken d o_k H) mf_X2_isBroken wd_352 wd_353 wd_354 cf_X2 o_k rfl rfl (Nat.le_of_ble_eq_true rfl) dX2_stateOf_2 (fun r2 h1 H => ?_)
  refine aw_if_eq (tgt := 10) dX2_stateOf_5 (by decide) (fun c3 => ?_) (fun c3 => ?_)
  · replace H := a_pos c3 H
    refine aw_aload_n dX2_stateOf_10 rfl 0 rfl ?_
    refine aw_getR cf_X2 1 (by decide) rfl wd_39 o_k dX2_stateOf_11 ?_
    refine aw_iload_n dX2_stateOf_14 rfl 1 rfl ?_
    obtain ⟨z4, H⟩ := H
    refine aw_iaload z4 dX2_stateOf_15 ?_
    refine aw_name (fun v5 e_v5 => ?_)
    replace H := H v5 e_v5
    refine aw_iconst (v := (-1)) dX2_stateOf_16 (by decide) ?_
    refine aw_icmp_ne (tgt := 24) dX2_stateOf_17 (by decide) (fun c6 => ?_) (fun c6 => ?_)
    · replace H := a_pos c6 H
      refine aw_iconst (v := 2) dX2_stateOf_24 (by decide) ?_
      exact aw_iret rfl H dX2_stateOf_25
    · replace H := a_neg2 c6 H
      refine aw_iconst (v := 0) dX2_stateOf_20 (by decide) ?_
      refine aw_goto (tgt := 25) dX2_stateOf_21 (by decide) ?_
      exact aw_iret rfl H dX2_stateOf_25
  · replace H := a_neg c3 H
    refine aw_iconst (v := 1) dX2_stateOf_8 (by decide) ?_
    exact aw_iret rfl H dX2_stateOf_9
set_option maxHeartbeats 4000000 in
set_option maxRecDepth 100000 in
theorem am_X2_seenAt {l : Launch} {S : aS} {G : aG} (d : Nat) {k : Nat} {a1 : Int32} {h : aH} {Q : Int32 → aH → Prop} (o_k : aObj S k 1 flX2) (H : f_X2_seenAt S k a1 h Q) : AMi l S G (d + 2) M_X2_seenAt [.ref (G.2.1 k), .int a1] h Q := by
  unfold f_X2_seenAt at H
  refine am_of mf_X2_seenAt (Nat.le_of_ble_eq_true rfl) (lv0 := [(0, .ref (G.2.1 k)), (1, .int a1)]) rfl ?_
  refine aw_aload_n dX2_seenAt_0 rfl 0 rfl ?_
  refine aw_iload_n dX2_seenAt_1 rfl 1 rfl ?_
  refine aw_callV_i (As := [.int a1]) (rest := []) (am_X2_stateOf d o_k H) mf_X2_stateOf wd_1024 wd_759 wd_760 cf_X2 o_k rfl rfl (Nat.le_of_ble_eq_true rfl) dX2_seenAt_2 (fun r2 h1 H => ?_)
  refine aw_istore_n (lv' := [(2, .int r2), (0, .ref (G.2.1 k)), (1, .int a1)]) dX2_seenAt_5 rfl (by decide) rfl ?_
  refine aw_iload_n dX2_seenAt_6 rfl 0 rfl ?_
  refine aw_if_ne (tgt := 19) dX2_seenAt_7 (by decide) (fun c3 => ?_) (fun c3 => ?_)
  · replace H := a_pos c3 H
    refine aw_iload_n dX2_seenAt_19 rfl 0 rfl ?_
    refine aw_ineg dX2_seenAt_20 ?_
    exact aw_iret rfl H dX2_seenAt_21
  · replace H := a_neg2 c3 H
    refine aw_aload_n dX2_seenAt_10 rfl 1 rfl ?_
    refine aw_getR cf_X2 0 (by decide) rfl wd_35 o_k dX2_seenAt_11 ?_
    refine aw_iload_n dX2_seenAt_14 rfl 2 rfl ?_
    obtain ⟨z4, H⟩ := H
    refine aw_iaload z4 dX2_seenAt_15 ?_
    refine aw_name (fun v5 e_v5 => ?_)
    replace H := H v5 e_v5
    refine aw_goto (tgt := 21) dX2_seenAt_16 (by decide) ?_
    exact aw_iret rfl H dX2_seenAt_21
set_option maxHeartbeats 4000000 in
set_option maxRecDepth 100000 in
theorem fm_X2_groupsNear_4 {l : Launch} {S : aS} {G : aG} (d : Nat) {k : Nat} {a1 : Int32} {Q : Int32 → aH → Prop} (o_k : aObj S k 1 flX2) : ∀ (n : Nat) (x2 : Int32) (x3 : Int32) (h : aH), f_X2_groupsNear_4 S k a1 Q n x2 x3 h → AW l S G (d + 2) M_X2_groupsNear (va_Qi Q (aPo S G) (aA S G)) 4 [(0, .ref (G.2.1 k)), (1, .int a1), (2, .int x2), (3, .int x3)] [] h := by
  intro n
  induction n with
  | zero => intro x2 x3 h H; exact False.elim H
  | succ n ih =>
    intro x2 x3 h H
    unfold f_X2_groupsNear_4 at H
    refine aw_iload_n dX2_groupsNear_4 rfl 3 rfl ?_
    refine aw_aload_n dX2_groupsNear_5 rfl 0 rfl ?_
    refine aw_getI cf_X2 12 (by decide) rfl wd_75 o_k dX2_groupsNear_6 ?_
    refine aw_name (fun v1 e_v1 => ?_)
    replace H := H v1 e_v1
    refine aw_icmp_ge (tgt := 46) dX2_groupsNear_9 (by decide) (fun c2 => ?_) (fun c2 => ?_)
    · replace H := a_pos c2 H
      refine aw_iload_n dX2_groupsNear_46 rfl 2 rfl ?_
      exact aw_iret rfl H dX2_groupsNear_47
    · replace H := a_neg c2 H
      refine aw_aload_n dX2_groupsNear_12 rfl 0 rfl ?_
      refine aw_getR cf_X2 10 (by decide) rfl wd_68 o_k dX2_groupsNear_13 ?_
      refine aw_iload_n dX2_groupsNear_16 rfl 3 rfl ?_
      obtain ⟨z3, H⟩ := H
      refine aw_iaload z3 dX2_groupsNear_17 ?_
      refine aw_name (fun v4 e_v4 => ?_)
      replace H := H v4 e_v4
      refine aw_bipush (v := (-2)) dX2_groupsNear_18 (by decide) ?_
      refine aw_icmp_eq (tgt := 40) dX2_groupsNear_20 (by decide) (fun c5 => ?_) (fun c5 => ?_)
      · replace H := a_pos c5 H
        obtain ⟨x3_6, e_x3_6⟩ : ∃ y : Int32, y = x3 + 1 := ⟨_, rfl⟩
        replace H := H x3_6 e_x3_6
        refine aw_iinc (v := x3_6) (lv' := [(3, .int x3_6), (0, .ref (G.2.1 k)), (1, .int a1), (2, .int x2)]) dX2_groupsNear_40 (n0 := 3) rfl (by rw [e_x3_6]; rfl) (by decide) rfl ?_
        refine aw_goto (tgt := 4) dX2_groupsNear_43 (by decide) ?_
        refine aw_sub (lv' := [(0, .ref (G.2.1 k)), (1, .int a1), (2, .int x2), (3, .int x3_6)]) [1, 2, 3, 0] rfl ?_
        exact ih _ _ _ H
      · replace H := a_neg c5 H
        refine aw_aload_n dX2_groupsNear_23 rfl 0 rfl ?_
        refine aw_getR cf_X2 10 (by decide) rfl wd_68 o_k dX2_groupsNear_24 ?_
        refine aw_iload_n dX2_groupsNear_27 rfl 3 rfl ?_
        obtain ⟨z7, H⟩ := H
        refine aw_iaload z7 dX2_groupsNear_28 ?_
        refine aw_name (fun v8 e_v8 => ?_)
        replace H := H v8 e_v8
        refine aw_iload_n dX2_groupsNear_29 rfl 1 rfl ?_
        refine aw_callS_i (As := [.int v8, .int a1]) (rest := []) (am_X1_way d H) mf_X1_way wd_722 wd_713 rfl rfl (Nat.le_of_ble_eq_true rfl) dX2_groupsNear_30 (fun r10 h9 H => ?_)
        refine aw_iconst (v := 1) dX2_groupsNear_33 (by decide) ?_
        refine aw_icmp_gt (tgt := 40) dX2_groupsNear_34 (by decide) (fun c11 => ?_) (fun c11 => ?_)
        · replace H := a_pos c11 H
          obtain ⟨x3_12, e_x3_12⟩ : ∃ y : Int32, y = x3 + 1 := ⟨_, rfl⟩
          replace H := H x3_12 e_x3_12
          refine aw_iinc (v := x3_12) (lv' := [(3, .int x3_12), (0, .ref (G.2.1 k)), (1, .int a1), (2, .int x2)]) dX2_groupsNear_40 (n0 := 3) rfl (by rw [e_x3_12]; rfl) (by decide) rfl ?_
          refine aw_goto (tgt := 4) dX2_groupsNear_43 (by decide) ?_
          refine aw_sub (lv' := [(0, .ref (G.2.1 k)), (1, .int a1), (2, .int x2), (3, .int x3_12)]) [1, 2, 3, 0] rfl ?_
          exact ih _ _ _ H
        · replace H := a_neg c11 H
          obtain ⟨x2_13, e_x2_13⟩ : ∃ y : Int32, y = x2 + 1 := ⟨_, rfl⟩
          replace H := H x2_13 e_x2_13
          refine aw_iinc (v := x2_13) (lv' := [(2, .int x2_13), (0, .ref (G.2.1 k)), (1, .int a1), (3, .int x3)]) dX2_groupsNear_37 (n0 := 2) rfl (by rw [e_x2_13]; rfl) (by decide) rfl ?_
          obtain ⟨x3_14, e_x3_14⟩ : ∃ y : Int32, y = x3 + 1 := ⟨_, rfl⟩
          replace H := H x3_14 e_x3_14
          refine aw_iinc (v := x3_14) (lv' := [(3, .int x3_14), (2, .int x2_13), (0, .ref (G.2.1 k)), (1, .int a1)]) dX2_groupsNear_40 (n0 := 3) rfl (by rw [e_x3_14]; rfl) (by decide) rfl ?_
          refine aw_goto (tgt := 4) dX2_groupsNear_43 (by decide) ?_
          refine aw_sub (lv' := [(0, .ref (G.2.1 k)), (1, .int a1), (2, .int x2_13), (3, .int x3_14)]) [2, 3, 1, 0] rfl ?_
          exact ih _ _ _ H
set_option maxHeartbeats 4000000 in
set_option maxRecDepth 100000 in
theorem am_X2_groupsNear {l : Launch} {S : aS} {G : aG} (d : Nat) {k : Nat} {a1 : Int32} {h : aH} {Q : Int32 → aH → Prop} (o_k : aObj S k 1 flX2) (H : f_X2_groupsNear S k a1 h Q) : AMi l S G (d + 2) M_X2_groupsNear [.ref (G.2.1 k), .int a1] h Q := by
  unfold f_X2_groupsNear at H
  refine am_of mf_X2_groupsNear (Nat.le_of_ble_eq_true rfl) (lv0 := [(0, .ref (G.2.1 k)), (1, .int a1)]) rfl ?_
  refine aw_iconst (v := 0) dX2_groupsNear_0 (by decide) ?_
  refine aw_istore_n (lv' := [(2, .int 0), (0, .ref (G.2.1 k)), (1, .int a1)]) dX2_groupsNear_1 rfl (by decide) rfl ?_
  refine aw_iconst (v := 0) dX2_groupsNear_2 (by decide) ?_
  refine aw_istore_n (lv' := [(3, .int 0), (2, .int 0), (0, .ref (G.2.1 k)), (1, .int a1)]) dX2_groupsNear_3 rfl (by decide) rfl ?_
  refine aw_sub (lv' := [(0, .ref (G.2.1 k)), (1, .int a1), (2, .int 0), (3, .int 0)]) [2, 3, 1, 0] rfl ?_
  obtain ⟨n1, H⟩ := H
  exact fm_X2_groupsNear_4 d o_k n1 _ _ _ H
set_option maxHeartbeats 4000000 in
set_option maxRecDepth 100000 in
theorem fm_X2_brokenTotal_4 {l : Launch} {S : aS} {G : aG} (d : Nat) {k : Nat} {Q : Int32 → aH → Prop} (o_k : aObj S k 1 flX2) : ∀ (n : Nat) (x1 : Int32) (x2 : Int32) (h : aH), f_X2_brokenTotal_4 S k Q n x1 x2 h → AW l S G (d + 1) M_X2_brokenTotal (va_Qi Q (aPo S G) (aA S G)) 4 [(0, .ref (G.2.1 k)), (1, .int x1), (2, .int x2)] [] h := by
  intro n
  induction n with
  | zero => intro x1 x2 h H; exact False.elim H
  | succ n ih =>
    intro x1 x2 h H
    unfold f_X2_brokenTotal_4 at H
    refine aw_iload_n dX2_brokenTotal_4 rfl 2 rfl ?_
    refine aw_sipush (v := 256) dX2_brokenTotal_5 (by decide) ?_
    refine aw_icmp_ge (tgt := 33) dX2_brokenTotal_8 (by decide) (fun c1 => ?_) (fun c1 => ?_)
    · replace H := a_pos c1 H
      refine aw_iload_n dX2_brokenTotal_33 rfl 1 rfl ?_
      exact aw_iret rfl H dX2_brokenTotal_34
    · replace H := a_neg c1 H
      refine aw_iload_n dX2_brokenTotal_11 rfl 1 rfl ?_
      refine aw_aload_n dX2_brokenTotal_12 rfl 0 rfl ?_
      refine aw_iload_n dX2_brokenTotal_13 rfl 2 rfl ?_
      refine aw_callV_i (As := [.int x2]) (rest := [.int x1]) (am_X2_isBroken d o_k H) mf_X2_isBroken wd_352 wd_353 wd_354 cf_X2 o_k rfl rfl (Nat.le_of_ble_eq_true rfl) dX2_brokenTotal_14 (fun r3 h2 H => ?_)
      refine aw_if_eq (tgt := 24) dX2_brokenTotal_17 (by decide) (fun c4 => ?_) (fun c4 => ?_)
      · replace H := a_pos c4 H
        refine aw_iconst (v := 0) dX2_brokenTotal_24 (by decide) ?_
        refine aw_iadd dX2_brokenTotal_25 ?_
        refine aw_name (fun x1_5 e_x1_5 => ?_)
        replace H := H x1_5 e_x1_5
        refine aw_istore_n (lv' := [(1, .int x1_5), (0, .ref (G.2.1 k)), (2, .int x2)]) dX2_brokenTotal_26 rfl (by decide) rfl ?_
        obtain ⟨x2_6, e_x2_6⟩ : ∃ y : Int32, y = x2 + 1 := ⟨_, rfl⟩
        replace H := H x2_6 e_x2_6
        refine aw_iinc (v := x2_6) (lv' := [(2, .int x2_6), (1, .int x1_5), (0, .ref (G.2.1 k))]) dX2_brokenTotal_27 (n0 := 2) rfl (by rw [e_x2_6]; rfl) (by decide) rfl ?_
        refine aw_goto (tgt := 4) dX2_brokenTotal_30 (by decide) ?_
        refine aw_sub (lv' := [(0, .ref (G.2.1 k)), (1, .int x1_5), (2, .int x2_6)]) [2, 1, 0] rfl ?_
        exact ih _ _ _ H
      · replace H := a_neg c4 H
        refine aw_iconst (v := 1) dX2_brokenTotal_20 (by decide) ?_
        refine aw_goto (tgt := 25) dX2_brokenTotal_21 (by decide) ?_
        refine aw_iadd dX2_brokenTotal_25 ?_
        refine aw_name (fun x1_7 e_x1_7 => ?_)
        replace H := H x1_7 e_x1_7
        refine aw_istore_n (lv' := [(1, .int x1_7), (0, .ref (G.2.1 k)), (2, .int x2)]) dX2_brokenTotal_26 rfl (by decide) rfl ?_
        obtain ⟨x2_8, e_x2_8⟩ : ∃ y : Int32, y = x2 + 1 := ⟨_, rfl⟩
        replace H := H x2_8 e_x2_8
        refine aw_iinc (v := x2_8) (lv' := [(2, .int x2_8), (1, .int x1_7), (0, .ref (G.2.1 k))]) dX2_brokenTotal_27 (n0 := 2) rfl (by rw [e_x2_8]; rfl) (by decide) rfl ?_
        refine aw_goto (tgt := 4) dX2_brokenTotal_30 (by decide) ?_
        refine aw_sub (lv' := [(0, .ref (G.2.1 k)), (1, .int x1_7), (2, .int x2_8)]) [2, 1, 0] rfl ?_
        exact ih _ _ _ H
set_option maxHeartbeats 4000000 in
set_option maxRecDepth 100000 in
theorem am_X2_brokenTotal {l : Launch} {S : aS} {G : aG} (d : Nat) {k : Nat} {h : aH} {Q : Int32 → aH → Prop} (o_k : aObj S k 1 flX2) (H : f_X2_brokenTotal S k h Q) : AMi l S G (d + 1) M_X2_brokenTotal [.ref (G.2.1 k)] h Q := by
  unfold f_X2_brokenTotal at H
  refine am_of mf_X2_brokenTotal (Nat.le_of_ble_eq_true rfl) (lv0 := [(0, .ref (G.2.1 k))]) rfl ?_
  refine aw_iconst (v := 0) dX2_brokenTotal_0 (by decide) ?_
  refine aw_istore_n (lv' := [(1, .int 0), (0, .ref (G.2.1 k))]) dX2_brokenTotal_1 rfl (by decide) rfl ?_
  refine aw_iconst (v := 0) dX2_brokenTotal_2 (by decide) ?_
  refine aw_istore_n (lv' := [(2, .int 0), (1, .int 0), (0, .ref (G.2.1 k))]) dX2_brokenTotal_3 rfl (by decide) rfl ?_
  refine aw_sub (lv' := [(0, .ref (G.2.1 k)), (1, .int 0), (2, .int 0)]) [2, 1, 0] rfl ?_
  obtain ⟨n1, H⟩ := H
  exact fm_X2_brokenTotal_4 d o_k n1 _ _ _ H
set_option maxHeartbeats 4000000 in
set_option maxRecDepth 100000 in
theorem fm_X2_drownedTotal_4 {l : Launch} {S : aS} {G : aG} (d : Nat) {k : Nat} {Q : Int32 → aH → Prop} (o_k : aObj S k 1 flX2) : ∀ (n : Nat) (x1 : Int32) (x2 : Int32) (h : aH), f_X2_drownedTotal_4 S k Q n x1 x2 h → AW l S G d M_X2_drownedTotal (va_Qi Q (aPo S G) (aA S G)) 4 [(0, .ref (G.2.1 k)), (1, .int x1), (2, .int x2)] [] h := by
  intro n
  induction n with
  | zero => intro x1 x2 h H; exact False.elim H
  | succ n ih =>
    intro x1 x2 h H
    unfold f_X2_drownedTotal_4 at H
    refine aw_iload_n dX2_drownedTotal_4 rfl 2 rfl ?_
    refine aw_aload_n dX2_drownedTotal_5 rfl 0 rfl ?_
    refine aw_getI cf_X2 12 (by decide) rfl wd_75 o_k dX2_drownedTotal_6 ?_
    refine aw_name (fun v1 e_v1 => ?_)
    replace H := H v1 e_v1
    refine aw_icmp_ge (tgt := 37) dX2_drownedTotal_9 (by decide) (fun c2 => ?_) (fun c2 => ?_)
    · replace H := a_pos c2 H
      refine aw_iload_n dX2_drownedTotal_37 rfl 1 rfl ?_
      exact aw_iret rfl H dX2_drownedTotal_38
    · replace H := a_neg c2 H
      refine aw_iload_n dX2_drownedTotal_12 rfl 1 rfl ?_
      refine aw_aload_n dX2_drownedTotal_13 rfl 0 rfl ?_
      refine aw_getR cf_X2 10 (by decide) rfl wd_68 o_k dX2_drownedTotal_14 ?_
      refine aw_iload_n dX2_drownedTotal_17 rfl 2 rfl ?_
      obtain ⟨z3, H⟩ := H
      refine aw_iaload z3 dX2_drownedTotal_18 ?_
      refine aw_name (fun v4 e_v4 => ?_)
      replace H := H v4 e_v4
      refine aw_bipush (v := (-2)) dX2_drownedTotal_19 (by decide) ?_
      refine aw_icmp_ne (tgt := 28) dX2_drownedTotal_21 (by decide) (fun c5 => ?_) (fun c5 => ?_)
      · replace H := a_pos c5 H
        refine aw_iconst (v := 0) dX2_drownedTotal_28 (by decide) ?_
        refine aw_iadd dX2_drownedTotal_29 ?_
        refine aw_name (fun x1_6 e_x1_6 => ?_)
        replace H := H x1_6 e_x1_6
        refine aw_istore_n (lv' := [(1, .int x1_6), (0, .ref (G.2.1 k)), (2, .int x2)]) dX2_drownedTotal_30 rfl (by decide) rfl ?_
        obtain ⟨x2_7, e_x2_7⟩ : ∃ y : Int32, y = x2 + 1 := ⟨_, rfl⟩
        replace H := H x2_7 e_x2_7
        refine aw_iinc (v := x2_7) (lv' := [(2, .int x2_7), (1, .int x1_6), (0, .ref (G.2.1 k))]) dX2_drownedTotal_31 (n0 := 2) rfl (by rw [e_x2_7]; rfl) (by decide) rfl ?_
        refine aw_goto (tgt := 4) dX2_drownedTotal_34 (by decide) ?_
        refine aw_sub (lv' := [(0, .ref (G.2.1 k)), (1, .int x1_6), (2, .int x2_7)]) [2, 1, 0] rfl ?_
        exact ih _ _ _ H
      · replace H := a_neg2 c5 H
        refine aw_iconst (v := 1) dX2_drownedTotal_24 (by decide) ?_
        refine aw_goto (tgt := 29) dX2_drownedTotal_25 (by decide) ?_
        refine aw_iadd dX2_drownedTotal_29 ?_
        refine aw_name (fun x1_8 e_x1_8 => ?_)
        replace H := H x1_8 e_x1_8
        refine aw_istore_n (lv' := [(1, .int x1_8), (0, .ref (G.2.1 k)), (2, .int x2)]) dX2_drownedTotal_30 rfl (by decide) rfl ?_
        obtain ⟨x2_9, e_x2_9⟩ : ∃ y : Int32, y = x2 + 1 := ⟨_, rfl⟩
        replace H := H x2_9 e_x2_9
        refine aw_iinc (v := x2_9) (lv' := [(2, .int x2_9), (1, .int x1_8), (0, .ref (G.2.1 k))]) dX2_drownedTotal_31 (n0 := 2) rfl (by rw [e_x2_9]; rfl) (by decide) rfl ?_
        refine aw_goto (tgt := 4) dX2_drownedTotal_34 (by decide) ?_
        refine aw_sub (lv' := [(0, .ref (G.2.1 k)), (1, .int x1_8), (2, .int x2_9)]) [2, 1, 0] rfl ?_
        exact ih _ _ _ H
set_option maxHeartbeats 4000000 in
set_option maxRecDepth 100000 in
theorem am_X2_drownedTotal {l : Launch} {S : aS} {G : aG} (d : Nat) {k : Nat} {h : aH} {Q : Int32 → aH → Prop} (o_k : aObj S k 1 flX2) (H : f_X2_drownedTotal S k h Q) : AMi l S G d M_X2_drownedTotal [.ref (G.2.1 k)] h Q := by
  unfold f_X2_drownedTotal at H
  refine am_of mf_X2_drownedTotal (Nat.le_of_ble_eq_true rfl) (lv0 := [(0, .ref (G.2.1 k))]) rfl ?_
  refine aw_iconst (v := 0) dX2_drownedTotal_0 (by decide) ?_
  refine aw_istore_n (lv' := [(1, .int 0), (0, .ref (G.2.1 k))]) dX2_drownedTotal_1 rfl (by decide) rfl ?_
  refine aw_iconst (v := 0) dX2_drownedTotal_2 (by decide) ?_
  refine aw_istore_n (lv' := [(2, .int 0), (1, .int 0), (0, .ref (G.2.1 k))]) dX2_drownedTotal_3 rfl (by decide) rfl ?_
  refine aw_sub (lv' := [(0, .ref (G.2.1 k)), (1, .int 0), (2, .int 0)]) [2, 1, 0] rfl ?_
  obtain ⟨n1, H⟩ := H
  exact fm_X2_drownedTotal_4 d o_k n1 _ _ _ H
set_option maxHeartbeats 4000000 in
set_option maxRecDepth 100000 in
theorem fm_X2_spread_13 {l : Launch} {S : aS} {G : aG} (d : Nat) {k : Nat} {a1 : Int32} {a2 : Int32} {a3 : Int32} {Q : aH → Prop} (o_k : aObj S k 1 flX2) : ∀ (n : Nat) (x4 : Int32) (h : aH), f_X2_spread_13 S k a1 a2 a3 Q n x4 h → AW l S G (d + 3) M_X2_spread (va_Qv Q (aPo S G) (aA S G)) 13 [(0, .ref (G.2.1 k)), (1, .int a1), (2, .int a2), (3, .int a3), (4, .int x4)] [] h := by
  intro n
  induction n with
  | zero => intro x4 h H; exact False.elim H
  | succ n ih =>
    intro x4 h H
    unfold f_X2_spread_13 at H
    refine aw_iload dX2_spread_13 4 rfl ?_
    refine aw_bipush (v := 8) dX2_spread_15 (by decide) ?_
    refine aw_icmp_ge (tgt := 62) dX2_spread_17 (by decide) (fun c1 => ?_) (fun c1 => ?_)
    · replace H := a_pos c1 H
      exact aw_vret rfl H dX2_spread_62
    · replace H := a_neg c1 H
      refine aw_iload_n dX2_spread_20 rfl 1 rfl ?_
      refine aw_iload dX2_spread_21 4 rfl ?_
      refine aw_callS_i (As := [.int a1, .int x4]) (rest := []) (am_X1_neighbour d H) mf_X1_neighbour wd_360 wd_361 rfl rfl (Nat.le_of_ble_eq_true rfl) dX2_spread_23 (fun r3 h2 H => ?_)
      refine aw_istore (lv' := [(5, .int r3), (0, .ref (G.2.1 k)), (1, .int a1), (2, .int a2), (3, .int a3), (4, .int x4)]) dX2_spread_26 (by decide) rfl ?_
      refine aw_iload dX2_spread_28 0 rfl ?_
      refine aw_iconst (v := (-1)) dX2_spread_30 (by decide) ?_
      refine aw_icmp_eq (tgt := 56) dX2_spread_31 (by decide) (fun c4 => ?_) (fun c4 => ?_)
      · replace H := a_pos c4 H
        obtain ⟨x4_5, e_x4_5⟩ : ∃ y : Int32, y = x4 + 1 := ⟨_, rfl⟩
        replace H := H x4_5 e_x4_5
        refine aw_iinc (v := x4_5) (lv' := [(4, .int x4_5), (5, .int r3), (0, .ref (G.2.1 k)), (1, .int a1), (2, .int a2), (3, .int a3)]) dX2_spread_56 (n0 := 5) rfl (by rw [e_x4_5]; rfl) (by decide) rfl ?_
        refine aw_goto (tgt := 13) dX2_spread_59 (by decide) ?_
        refine aw_sub (lv' := [(0, .ref (G.2.1 k)), (1, .int a1), (2, .int a2), (3, .int a3), (4, .int x4_5)]) [2, 3, 4, 5, 0] rfl ?_
        exact ih _ _ H
      · replace H := a_neg c4 H
        refine aw_aload_n dX2_spread_34 rfl 1 rfl ?_
        refine aw_getR cf_X2 2 (by decide) rfl wd_40 o_k dX2_spread_35 ?_
        refine aw_iload dX2_spread_38 0 rfl ?_
        refine aw_dup2 dX2_spread_40 rfl rfl ?_
        obtain ⟨z6, H⟩ := H
        refine aw_iaload z6 dX2_spread_41 ?_
        refine aw_name (fun v7 e_v7 => ?_)
        replace H := H v7 e_v7
        refine aw_iload_n dX2_spread_42 rfl 3 rfl ?_
        refine aw_iadd dX2_spread_43 ?_
        obtain ⟨z8, H⟩ := H
        refine aw_iastore z8 dX2_spread_44 ?_
        refine aw_nameH (fun h9 e_h9 => ?_)
        replace H := H h9 e_h9
        refine aw_aload_n dX2_spread_45 rfl 1 rfl ?_
        refine aw_getR cf_X2 3 (by decide) rfl wd_43 o_k dX2_spread_46 ?_
        refine aw_iload dX2_spread_49 0 rfl ?_
        refine aw_dup2 dX2_spread_51 rfl rfl ?_
        obtain ⟨z10, H⟩ := H
        refine aw_iaload z10 dX2_spread_52 ?_
        refine aw_name (fun v11 e_v11 => ?_)
        replace H := H v11 e_v11
        refine aw_iload_n dX2_spread_53 rfl 4 rfl ?_
        refine aw_iadd dX2_spread_54 ?_
        obtain ⟨z12, H⟩ := H
        refine aw_iastore z12 dX2_spread_55 ?_
        refine aw_nameH (fun h13 e_h13 => ?_)
        replace H := H h13 e_h13
        obtain ⟨x4_14, e_x4_14⟩ : ∃ y : Int32, y = x4 + 1 := ⟨_, rfl⟩
        replace H := H x4_14 e_x4_14
        refine aw_iinc (v := x4_14) (lv' := [(4, .int x4_14), (5, .int r3), (0, .ref (G.2.1 k)), (1, .int a1), (2, .int a2), (3, .int a3)]) dX2_spread_56 (n0 := 5) rfl (by rw [e_x4_14]; rfl) (by decide) rfl ?_
        refine aw_goto (tgt := 13) dX2_spread_59 (by decide) ?_
        refine aw_sub (lv' := [(0, .ref (G.2.1 k)), (1, .int a1), (2, .int a2), (3, .int a3), (4, .int x4_14)]) [2, 3, 4, 5, 0] rfl ?_
        exact ih _ _ H
set_option maxHeartbeats 4000000 in
set_option maxRecDepth 100000 in
theorem am_X2_spread {l : Launch} {S : aS} {G : aG} (d : Nat) {k : Nat} {a1 : Int32} {a2 : Int32} {a3 : Int32} {h : aH} {Q : aH → Prop} (o_k : aObj S k 1 flX2) (H : f_X2_spread S k a1 a2 a3 h Q) : AMv l S G (d + 3) M_X2_spread [.ref (G.2.1 k), .int a1, .int a2, .int a3] h Q := by
  unfold f_X2_spread at H
  refine am_of mf_X2_spread (Nat.le_of_ble_eq_true rfl) (lv0 := [(0, .ref (G.2.1 k)), (1, .int a1), (2, .int a2), (3, .int a3)]) rfl ?_
  refine aw_aload_n dX2_spread_0 rfl 0 rfl ?_
  refine aw_getR cf_X2 3 (by decide) rfl wd_43 o_k dX2_spread_1 ?_
  refine aw_iload_n dX2_spread_4 rfl 1 rfl ?_
  refine aw_dup2 dX2_spread_5 rfl rfl ?_
  obtain ⟨z15, H⟩ := H
  refine aw_iaload z15 dX2_spread_6 ?_
  refine aw_name (fun v16 e_v16 => ?_)
  replace H := H v16 e_v16
  refine aw_iload_n dX2_spread_7 rfl 3 rfl ?_
  refine aw_iadd dX2_spread_8 ?_
  obtain ⟨z17, H⟩ := H
  refine aw_iastore z17 dX2_spread_9 ?_
  refine aw_nameH (fun h18 e_h18 => ?_)
  replace H := H h18 e_h18
  refine aw_iconst (v := 0) dX2_spread_10 (by decide) ?_
  refine aw_istore (lv' := [(4, .int 0), (0, .ref (G.2.1 k)), (1, .int a1), (2, .int a2), (3, .int a3)]) dX2_spread_11 (by decide) rfl ?_
  refine aw_sub (lv' := [(0, .ref (G.2.1 k)), (1, .int a1), (2, .int a2), (3, .int a3), (4, .int 0)]) [1, 2, 3, 4, 0] rfl ?_
  obtain ⟨n1, H⟩ := H
  exact fm_X2_spread_13 d o_k n1 _ _ H
set_option maxHeartbeats 4000000 in
set_option maxRecDepth 100000 in
theorem am_X2_openHole {l : Launch} {S : aS} {G : aG} (d : Nat) {k : Nat} {a1 : Int32} {a2 : Int32} {a3 : Int32} {a4 : Int32} {a5 : Int32} {h : aH} {Q : Int32 → aH → Prop} (o_k : aObj S k 1 flX2) (H : f_X2_openHole S k a1 a2 a3 a4 a5 h Q) : AMi l S G (d + 4) M_X2_openHole [.ref (G.2.1 k), .int a1, .int a2, .int a3, .int a4, .int a5] h Q := by
  unfold f_X2_openHole at H
  refine am_of mf_X2_openHole (Nat.le_of_ble_eq_true rfl) (lv0 := [(0, .ref (G.2.1 k)), (1, .int a1), (2, .int a2), (3, .int a3), (4, .int a4), (5, .int a5)]) rfl ?_
  refine aw_aload_n dX2_openHole_0 rfl 0 rfl ?_
  refine aw_getI cf_X2 9 (by decide) rfl wd_64 o_k dX2_openHole_1 ?_
  refine aw_name (fun v1 e_v1 => ?_)
  replace H := H v1 e_v1
  refine aw_bipush (v := 12) dX2_openHole_4 (by decide) ?_
  refine aw_icmp_lt (tgt := 11) dX2_openHole_6 (by decide) (fun c2 => ?_) (fun c2 => ?_)
  · replace H := a_pos c2 H
    refine aw_aload_n dX2_openHole_11 rfl 0 rfl ?_
    refine aw_getI cf_X2 9 (by decide) rfl wd_64 o_k dX2_openHole_12 ?_
    refine aw_name (fun v3 e_v3 => ?_)
    replace H := H v3 e_v3
    refine aw_istore (lv' := [(6, .int v3), (0, .ref (G.2.1 k)), (1, .int a1), (2, .int a2), (3, .int a3), (4, .int a4), (5, .int a5)]) dX2_openHole_15 (by decide) rfl ?_
    refine aw_aload_n dX2_openHole_17 rfl 1 rfl ?_
    refine aw_dup dX2_openHole_18 rfl ?_
    refine aw_getI cf_X2 9 (by decide) rfl wd_64 o_k dX2_openHole_19 ?_
    refine aw_name (fun v4 e_v4 => ?_)
    replace H := H v4 e_v4
    refine aw_iconst (v := 1) dX2_openHole_22 (by decide) ?_
    refine aw_iadd dX2_openHole_23 ?_
    refine aw_putI cf_X2 9 (by decide) rfl wd_64 rfl rfl rfl o_k dX2_openHole_24 ?_
    refine aw_nameH (fun h5 e_h5 => ?_)
    replace H := H h5 e_h5
    refine aw_aload_n dX2_openHole_27 rfl 1 rfl ?_
    refine aw_getR cf_X2 4 (by decide) rfl wd_46 o_k dX2_openHole_28 ?_
    refine aw_iload dX2_openHole_31 0 rfl ?_
    refine aw_iload_n dX2_openHole_33 rfl 2 rfl ?_
    obtain ⟨z6, H⟩ := H
    refine aw_iastore z6 dX2_openHole_34 ?_
    refine aw_nameH (fun h7 e_h7 => ?_)
    replace H := H h7 e_h7
    refine aw_aload_n dX2_openHole_35 rfl 1 rfl ?_
    refine aw_getR cf_X2 5 (by decide) rfl wd_51 o_k dX2_openHole_36 ?_
    refine aw_iload dX2_openHole_39 0 rfl ?_
    refine aw_iload_n dX2_openHole_41 rfl 3 rfl ?_
    obtain ⟨z8, H⟩ := H
    refine aw_iastore z8 dX2_openHole_42 ?_
    refine aw_nameH (fun h9 e_h9 => ?_)
    replace H := H h9 e_h9
    refine aw_aload_n dX2_openHole_43 rfl 1 rfl ?_
    refine aw_getR cf_X2 6 (by decide) rfl wd_55 o_k dX2_openHole_44 ?_
    refine aw_iload dX2_openHole_47 0 rfl ?_
    refine aw_iload_n dX2_openHole_49 rfl 4 rfl ?_
    obtain ⟨z10, H⟩ := H
    refine aw_iastore z10 dX2_openHole_50 ?_
    refine aw_nameH (fun h11 e_h11 => ?_)
    replace H := H h11 e_h11
    refine aw_aload_n dX2_openHole_51 rfl 1 rfl ?_
    refine aw_getR cf_X2 7 (by decide) rfl wd_58 o_k dX2_openHole_52 ?_
    refine aw_iload dX2_openHole_55 0 rfl ?_
    refine aw_iload dX2_openHole_57 5 rfl ?_
    obtain ⟨z12, H⟩ := H
    refine aw_iastore z12 dX2_openHole_59 ?_
    refine aw_nameH (fun h13 e_h13 => ?_)
    replace H := H h13 e_h13
    refine aw_aload_n dX2_openHole_60 rfl 1 rfl ?_
    refine aw_getR cf_X2 8 (by decide) rfl wd_61 o_k dX2_openHole_61 ?_
    refine aw_iload dX2_openHole_64 0 rfl ?_
    refine aw_iload dX2_openHole_66 6 rfl ?_
    obtain ⟨z14, H⟩ := H
    refine aw_iastore z14 dX2_openHole_68 ?_
    refine aw_nameH (fun h15 e_h15 => ?_)
    replace H := H h15 e_h15
    refine aw_aload_n dX2_openHole_69 rfl 1 rfl ?_
    refine aw_getR cf_X2 1 (by decide) rfl wd_39 o_k dX2_openHole_70 ?_
    refine aw_iload_n dX2_openHole_73 rfl 2 rfl ?_
    refine aw_iload dX2_openHole_74 0 rfl ?_
    obtain ⟨z16, H⟩ := H
    refine aw_iastore z16 dX2_openHole_76 ?_
    refine aw_nameH (fun h17 e_h17 => ?_)
    replace H := H h17 e_h17
    refine aw_aload_n dX2_openHole_77 rfl 1 rfl ?_
    refine aw_iload_n dX2_openHole_78 rfl 2 rfl ?_
    refine aw_iconst (v := 1) dX2_openHole_79 (by decide) ?_
    refine aw_iload_n dX2_openHole_80 rfl 4 rfl ?_
    refine aw_callV_v (As := [.int a1, .int 1, .int a3]) (rest := []) (am_X2_spread d o_k H) mf_X2_spread wd_356 wd_358 ws_1_0 cf_X2 o_k rfl rfl (Nat.le_of_ble_eq_true rfl) dX2_openHole_81 (fun h18 H => ?_)
    refine aw_iload dX2_openHole_84 0 rfl ?_
    exact aw_iret rfl H dX2_openHole_86
  · replace H := a_neg c2 H
    refine aw_iconst (v := (-1)) dX2_openHole_9 (by decide) ?_
    exact aw_iret rfl H dX2_openHole_10
set_option maxHeartbeats 4000000 in
set_option maxRecDepth 100000 in
theorem am_X2_closeHole {l : Launch} {S : aS} {G : aG} (d : Nat) {k : Nat} {a1 : Int32} {h : aH} {Q : aH → Prop} (o_k : aObj S k 1 flX2) (H : f_X2_closeHole S k a1 h Q) : AMv l S G (d + 4) M_X2_closeHole [.ref (G.2.1 k), .int a1] h Q := by
  unfold f_X2_closeHole at H
  refine am_of mf_X2_closeHole (Nat.le_of_ble_eq_true rfl) (lv0 := [(0, .ref (G.2.1 k)), (1, .int a1)]) rfl ?_
  refine aw_aload_n dX2_closeHole_0 rfl 0 rfl ?_
  refine aw_getR cf_X2 4 (by decide) rfl wd_46 o_k dX2_closeHole_1 ?_
  refine aw_iload_n dX2_closeHole_4 rfl 1 rfl ?_
  obtain ⟨z1, H⟩ := H
  refine aw_iaload z1 dX2_closeHole_5 ?_
  refine aw_name (fun v2 e_v2 => ?_)
  replace H := H v2 e_v2
  refine aw_istore_n (lv' := [(2, .int v2), (0, .ref (G.2.1 k)), (1, .int a1)]) dX2_closeHole_6 rfl (by decide) rfl ?_
  refine aw_aload_n dX2_closeHole_7 rfl 1 rfl ?_
  refine aw_getR cf_X2 1 (by decide) rfl wd_39 o_k dX2_closeHole_8 ?_
  refine aw_iload_n dX2_closeHole_11 rfl 0 rfl ?_
  refine aw_iconst (v := (-1)) dX2_closeHole_12 (by decide) ?_
  obtain ⟨z3, H⟩ := H
  refine aw_iastore z3 dX2_closeHole_13 ?_
  refine aw_nameH (fun h4 e_h4 => ?_)
  replace H := H h4 e_h4
  refine aw_aload_n dX2_closeHole_14 rfl 1 rfl ?_
  refine aw_iload_n dX2_closeHole_15 rfl 0 rfl ?_
  refine aw_iconst (v := (-1)) dX2_closeHole_16 (by decide) ?_
  refine aw_aload_n dX2_closeHole_17 rfl 1 rfl ?_
  refine aw_getR cf_X2 6 (by decide) rfl wd_55 o_k dX2_closeHole_18 ?_
  refine aw_iload_n dX2_closeHole_21 rfl 2 rfl ?_
  obtain ⟨z5, H⟩ := H
  refine aw_iaload z5 dX2_closeHole_22 ?_
  refine aw_name (fun v6 e_v6 => ?_)
  replace H := H v6 e_v6
  refine aw_ineg dX2_closeHole_23 ?_
  refine aw_callV_v (As := [.int v2, .int (-1), .int (-v6)]) (rest := []) (am_X2_spread d o_k H) mf_X2_spread wd_356 wd_358 ws_1_0 cf_X2 o_k rfl rfl (Nat.le_of_ble_eq_true rfl) dX2_closeHole_24 (fun h7 H => ?_)
  exact aw_vret rfl H dX2_closeHole_27
set_option maxHeartbeats 4000000 in
set_option maxRecDepth 100000 in
theorem am_X2_addGroup {l : Launch} {S : aS} {G : aG} (d : Nat) {k : Nat} {a1 : Int32} {a2 : Int32} {h : aH} {Q : Int32 → aH → Prop} (o_k : aObj S k 1 flX2) (H : f_X2_addGroup S k a1 a2 h Q) : AMi l S G d M_X2_addGroup [.ref (G.2.1 k), .int a1, .int a2] h Q := by
  unfold f_X2_addGroup at H
  refine am_of mf_X2_addGroup (Nat.le_of_ble_eq_true rfl) (lv0 := [(0, .ref (G.2.1 k)), (1, .int a1), (2, .int a2)]) rfl ?_
  refine aw_aload_n dX2_addGroup_0 rfl 0 rfl ?_
  refine aw_getI cf_X2 12 (by decide) rfl wd_75 o_k dX2_addGroup_1 ?_
  refine aw_name (fun v1 e_v1 => ?_)
  replace H := H v1 e_v1
  refine aw_bipush (v := 8) dX2_addGroup_4 (by decide) ?_
  refine aw_icmp_lt (tgt := 11) dX2_addGroup_6 (by decide) (fun c2 => ?_) (fun c2 => ?_)
  · replace H := a_pos c2 H
    refine aw_aload_n dX2_addGroup_11 rfl 0 rfl ?_
    refine aw_getI cf_X2 12 (by decide) rfl wd_75 o_k dX2_addGroup_12 ?_
    refine aw_name (fun v3 e_v3 => ?_)
    replace H := H v3 e_v3
    refine aw_istore_n (lv' := [(3, .int v3), (0, .ref (G.2.1 k)), (1, .int a1), (2, .int a2)]) dX2_addGroup_15 rfl (by decide) rfl ?_
    refine aw_aload_n dX2_addGroup_16 rfl 1 rfl ?_
    refine aw_dup dX2_addGroup_17 rfl ?_
    refine aw_getI cf_X2 12 (by decide) rfl wd_75 o_k dX2_addGroup_18 ?_
    refine aw_name (fun v4 e_v4 => ?_)
    replace H := H v4 e_v4
    refine aw_iconst (v := 1) dX2_addGroup_21 (by decide) ?_
    refine aw_iadd dX2_addGroup_22 ?_
    refine aw_putI cf_X2 12 (by decide) rfl wd_75 rfl rfl rfl o_k dX2_addGroup_23 ?_
    refine aw_nameH (fun h5 e_h5 => ?_)
    replace H := H h5 e_h5
    refine aw_aload_n dX2_addGroup_26 rfl 1 rfl ?_
    refine aw_getR cf_X2 10 (by decide) rfl wd_68 o_k dX2_addGroup_27 ?_
    refine aw_iload_n dX2_addGroup_30 rfl 0 rfl ?_
    refine aw_iload_n dX2_addGroup_31 rfl 2 rfl ?_
    obtain ⟨z6, H⟩ := H
    refine aw_iastore z6 dX2_addGroup_32 ?_
    refine aw_nameH (fun h7 e_h7 => ?_)
    replace H := H h7 e_h7
    refine aw_aload_n dX2_addGroup_33 rfl 1 rfl ?_
    refine aw_getR cf_X2 11 (by decide) rfl wd_72 o_k dX2_addGroup_34 ?_
    refine aw_iload_n dX2_addGroup_37 rfl 0 rfl ?_
    refine aw_iload_n dX2_addGroup_38 rfl 3 rfl ?_
    obtain ⟨z8, H⟩ := H
    refine aw_iastore z8 dX2_addGroup_39 ?_
    refine aw_nameH (fun h9 e_h9 => ?_)
    replace H := H h9 e_h9
    refine aw_iload_n dX2_addGroup_40 rfl 0 rfl ?_
    exact aw_iret rfl H dX2_addGroup_41
  · replace H := a_neg c2 H
    refine aw_iconst (v := (-1)) dX2_addGroup_9 (by decide) ?_
    exact aw_iret rfl H dX2_addGroup_10
