set_option maxHeartbeats 4000000 in
set_option maxRecDepth 100000 in
theorem fm_X6_spreadFrom_62 {l : Launch} {S : aS} {G : aG} (d : Nat) {k : Nat} {a1 : Int32} {Q : aH → Prop} (o_k : aObj S k 5 flX6) {K21 : Int32 → Int32 → Int32 → aH → Prop} (hK21 : ∀ (x2 : Int32) (x3 : Int32) (x4 : Int32) (h : aH), K21 x2 x3 x4 h → AW l S G (d + 3) M_X6_spreadFrom (va_Qv Q (aPo S G) (aA S G)) 21 [(0, .ref (G.2.1 k)), (1, .int a1), (2, .int x2), (3, .int x3), (4, .int x4)] [] h) : ∀ (n : Nat) (x2 : Int32) (x3 : Int32) (x4 : Int32) (x5 : Int32) (x6 : Int32) (h : aH), f_X6_spreadFrom_62 S k a1 Q K21 n x2 x3 x4 x5 x6 h → AW l S G (d + 3) M_X6_spreadFrom (va_Qv Q (aPo S G) (aA S G)) 62 [(0, .ref (G.2.1 k)), (1, .int a1), (2, .int x2), (3, .int x3), (4, .int x4), (5, .int x5), (6, .int x6)] [] h := by
  intro n
  induction n with
  | zero => intro x2 x3 x4 x5 x6 h H; exact False.elim H
  | succ n ih =>
    intro x2 x3 x4 x5 x6 h H
    unfold f_X6_spreadFrom_62 at H
    refine aw_iload dX6_spreadFrom_62 6 rfl ?_
    refine aw_iconst (v := 4) dX6_spreadFrom_64 (by decide) ?_
    refine aw_icmp_ge (tgt := 142) dX6_spreadFrom_65 (by decide) (fun c1 => ?_) (fun c1 => ?_)
    · replace H := a_pos c1 H
      obtain ⟨x4_2, e_x4_2⟩ : ∃ y : Int32, y = x4 + 1 := ⟨_, rfl⟩
      replace H := H x4_2 e_x4_2
      refine aw_iinc (v := x4_2) (lv' := [(4, .int x4_2), (0, .ref (G.2.1 k)), (1, .int a1), (2, .int x2), (3, .int x3), (5, .int x5), (6, .int x6)]) dX6_spreadFrom_142 (n0 := 4) rfl (by rw [e_x4_2]; rfl) (by decide) rfl ?_
      refine aw_goto (tgt := 21) dX6_spreadFrom_145 (by decide) ?_
      refine aw_sub (lv' := [(0, .ref (G.2.1 k)), (1, .int a1), (2, .int x2), (3, .int x3), (4, .int x4_2)]) [1, 2, 3, 4, 0] rfl ?_
      exact hK21 _ _ _ _ H
    · replace H := a_neg c1 H
      refine aw_iload dX6_spreadFrom_68 5 rfl ?_
      refine aw_iload dX6_spreadFrom_70 6 rfl ?_
      refine aw_callS_i (As := [.int x5, .int x6]) (rest := []) (am_X1_side d H) mf_X1_side wd_915 wd_916 rfl rfl (Nat.le_of_ble_eq_true rfl) dX6_spreadFrom_72 (fun r4 h3 H => ?_)
      refine aw_istore (lv' := [(7, .int r4), (0, .ref (G.2.1 k)), (1, .int a1), (2, .int x2), (3, .int x3), (4, .int x4), (5, .int x5), (6, .int x6)]) dX6_spreadFrom_75 (by decide) rfl ?_
      refine aw_iload dX6_spreadFrom_77 0 rfl ?_
      refine aw_iconst (v := (-1)) dX6_spreadFrom_79 (by decide) ?_
      refine aw_icmp_eq (tgt := 136) dX6_spreadFrom_80 (by decide) (fun c5 => ?_) (fun c5 => ?_)
      · replace H := a_pos c5 H
        obtain ⟨x6_6, e_x6_6⟩ : ∃ y : Int32, y = x6 + 1 := ⟨_, rfl⟩
        replace H := H x6_6 e_x6_6
        refine aw_iinc (v := x6_6) (lv' := [(6, .int x6_6), (7, .int r4), (0, .ref (G.2.1 k)), (1, .int a1), (2, .int x2), (3, .int x3), (4, .int x4), (5, .int x5)]) dX6_spreadFrom_136 (n0 := 7) rfl (by rw [e_x6_6]; rfl) (by decide) rfl ?_
        refine aw_goto (tgt := 62) dX6_spreadFrom_139 (by decide) ?_
        refine aw_sub (lv' := [(0, .ref (G.2.1 k)), (1, .int a1), (2, .int x2), (3, .int x3), (4, .int x4), (5, .int x5), (6, .int x6_6)]) [2, 3, 4, 5, 6, 7, 0] rfl ?_
        exact ih _ _ _ _ _ _ H
      · replace H := a_neg c5 H
        refine aw_aload_n dX6_spreadFrom_83 rfl 1 rfl ?_
        refine aw_iload dX6_spreadFrom_84 0 rfl ?_
        refine aw_aload_n dX6_spreadFrom_86 rfl 1 rfl ?_
        refine aw_getR cf_X6 1 (by decide) rfl wd_286 o_k dX6_spreadFrom_87 ?_
        refine aw_iload dX6_spreadFrom_90 6 rfl ?_
        obtain ⟨z7, H⟩ := H
        refine aw_iaload z7 dX6_spreadFrom_92 ?_
        refine aw_name (fun v8 e_v8 => ?_)
        replace H := H v8 e_v8
        refine aw_iconst (v := 1) dX6_spreadFrom_93 (by decide) ?_
        refine aw_iadd dX6_spreadFrom_94 ?_
        refine aw_callV_i (As := [.int r4, .int (v8 + 1)]) (rest := []) (am_X6_isBettered (d + 2) o_k H) mf_X6_isBettered wd_922 wd_924 ws_2_12 cf_X6 o_k rfl rfl (Nat.le_of_ble_eq_true rfl) dX6_spreadFrom_95 (fun r10 h9 H => ?_)
        refine aw_if_eq (tgt := 136) dX6_spreadFrom_98 (by decide) (fun c11 => ?_) (fun c11 => ?_)
        · replace H := a_pos c11 H
          obtain ⟨x6_12, e_x6_12⟩ : ∃ y : Int32, y = x6 + 1 := ⟨_, rfl⟩
          replace H := H x6_12 e_x6_12
          refine aw_iinc (v := x6_12) (lv' := [(6, .int x6_12), (7, .int r4), (0, .ref (G.2.1 k)), (1, .int a1), (2, .int x2), (3, .int x3), (4, .int x4), (5, .int x5)]) dX6_spreadFrom_136 (n0 := 7) rfl (by rw [e_x6_12]; rfl) (by decide) rfl ?_
          refine aw_goto (tgt := 62) dX6_spreadFrom_139 (by decide) ?_
          refine aw_sub (lv' := [(0, .ref (G.2.1 k)), (1, .int a1), (2, .int x2), (3, .int x3), (4, .int x4), (5, .int x5), (6, .int x6_12)]) [2, 3, 4, 5, 6, 7, 0] rfl ?_
          exact ih _ _ _ _ _ _ H
        · replace H := a_neg c11 H
          refine aw_aload_n dX6_spreadFrom_101 rfl 1 rfl ?_
          refine aw_getR cf_X6 3 (by decide) rfl wd_288 o_k dX6_spreadFrom_102 ?_
          refine aw_iload dX6_spreadFrom_105 0 rfl ?_
          obtain ⟨z13, H⟩ := H
          refine aw_zaload z13 dX6_spreadFrom_107 ?_
          refine aw_name (fun v14 e_v14 => ?_)
          replace H := H v14 e_v14
          refine aw_if_ne (tgt := 136) dX6_spreadFrom_108 (by decide) (fun c15 => ?_) (fun c15 => ?_)
          · replace H := a_pos c15 H
            obtain ⟨x6_16, e_x6_16⟩ : ∃ y : Int32, y = x6 + 1 := ⟨_, rfl⟩
            replace H := H x6_16 e_x6_16
            refine aw_iinc (v := x6_16) (lv' := [(6, .int x6_16), (7, .int r4), (0, .ref (G.2.1 k)), (1, .int a1), (2, .int x2), (3, .int x3), (4, .int x4), (5, .int x5)]) dX6_spreadFrom_136 (n0 := 7) rfl (by rw [e_x6_16]; rfl) (by decide) rfl ?_
            refine aw_goto (tgt := 62) dX6_spreadFrom_139 (by decide) ?_
            refine aw_sub (lv' := [(0, .ref (G.2.1 k)), (1, .int a1), (2, .int x2), (3, .int x3), (4, .int x4), (5, .int x5), (6, .int x6_16)]) [2, 3, 4, 5, 6, 7, 0] rfl ?_
            exact ih _ _ _ _ _ _ H
          · replace H := a_neg2 c15 H
            refine aw_aload_n dX6_spreadFrom_111 rfl 1 rfl ?_
            refine aw_getR cf_X6 3 (by decide) rfl wd_288 o_k dX6_spreadFrom_112 ?_
            refine aw_iload dX6_spreadFrom_115 0 rfl ?_
            refine aw_iconst (v := 1) dX6_spreadFrom_117 (by decide) ?_
            obtain ⟨z17, H⟩ := H
            refine aw_zastore z17 (by decide) dX6_spreadFrom_118 ?_
            refine aw_nameH (fun h18 e_h18 => ?_)
            replace H := H h18 e_h18
            refine aw_aload_n dX6_spreadFrom_119 rfl 1 rfl ?_
            refine aw_getR cf_X6 2 (by decide) rfl wd_287 o_k dX6_spreadFrom_120 ?_
            refine aw_iload_n dX6_spreadFrom_123 rfl 3 rfl ?_
            refine aw_iload_n dX6_spreadFrom_124 rfl 4 rfl ?_
            refine aw_iadd dX6_spreadFrom_125 ?_
            refine aw_sipush (v := 256) dX6_spreadFrom_126 (by decide) ?_
            refine aw_irem dX6_spreadFrom_129 (by decide) ?_
            refine aw_iload dX6_spreadFrom_130 0 rfl ?_
            obtain ⟨z19, H⟩ := H
            refine aw_iastore z19 dX6_spreadFrom_132 ?_
            refine aw_nameH (fun h20 e_h20 => ?_)
            replace H := H h20 e_h20
            obtain ⟨x3_21, e_x3_21⟩ : ∃ y : Int32, y = x3 + 1 := ⟨_, rfl⟩
            replace H := H x3_21 e_x3_21
            refine aw_iinc (v := x3_21) (lv' := [(3, .int x3_21), (7, .int r4), (0, .ref (G.2.1 k)), (1, .int a1), (2, .int x2), (4, .int x4), (5, .int x5), (6, .int x6)]) dX6_spreadFrom_133 (n0 := 4) rfl (by rw [e_x3_21]; rfl) (by decide) rfl ?_
            obtain ⟨x6_22, e_x6_22⟩ : ∃ y : Int32, y = x6 + 1 := ⟨_, rfl⟩
            replace H := H x6_22 e_x6_22
            refine aw_iinc (v := x6_22) (lv' := [(6, .int x6_22), (3, .int x3_21), (7, .int r4), (0, .ref (G.2.1 k)), (1, .int a1), (2, .int x2), (4, .int x4), (5, .int x5)]) dX6_spreadFrom_136 (n0 := 7) rfl (by rw [e_x6_22]; rfl) (by decide) rfl ?_
            refine aw_goto (tgt := 62) dX6_spreadFrom_139 (by decide) ?_
            refine aw_sub (lv' := [(0, .ref (G.2.1 k)), (1, .int a1), (2, .int x2), (3, .int x3_21), (4, .int x4), (5, .int x5), (6, .int x6_22)]) [3, 4, 5, 1, 6, 7, 0] rfl ?_
            exact ih _ _ _ _ _ _ H
set_option maxHeartbeats 4000000 in
set_option maxRecDepth 100000 in
theorem fm_X6_spreadFrom_21 {l : Launch} {S : aS} {G : aG} (d : Nat) {k : Nat} {a1 : Int32} {Q : aH → Prop} (o_k : aObj S k 5 flX6) : ∀ (n : Nat) (x2 : Int32) (x3 : Int32) (x4 : Int32) (h : aH), f_X6_spreadFrom_21 S k a1 Q n x2 x3 x4 h → AW l S G (d + 3) M_X6_spreadFrom (va_Qv Q (aPo S G) (aA S G)) 21 [(0, .ref (G.2.1 k)), (1, .int a1), (2, .int x2), (3, .int x3), (4, .int x4)] [] h := by
  intro n
  induction n with
  | zero => intro x2 x3 x4 h H; exact False.elim H
  | succ n ih =>
    intro x2 x3 x4 h H
    unfold f_X6_spreadFrom_21 at H
    refine aw_iload dX6_spreadFrom_21 4 rfl ?_
    refine aw_ldc (v := 65536) dX6_spreadFrom_23 wd_914 ?_
    refine aw_icmp_ge (tgt := 148) dX6_spreadFrom_25 (by decide) (fun c23 => ?_) (fun c23 => ?_)
    · replace H := a_pos c23 H
      exact aw_vret rfl H dX6_spreadFrom_148
    · replace H := a_neg c23 H
      refine aw_iload_n dX6_spreadFrom_28 rfl 3 rfl ?_
      refine aw_if_le (tgt := 148) dX6_spreadFrom_29 (by decide) (fun c24 => ?_) (fun c24 => ?_)
      · replace H := a_pos c24 H
        exact aw_vret rfl H dX6_spreadFrom_148
      · replace H := a_neg c24 H
        refine aw_aload_n dX6_spreadFrom_32 rfl 0 rfl ?_
        refine aw_getR cf_X6 2 (by decide) rfl wd_287 o_k dX6_spreadFrom_33 ?_
        refine aw_iload_n dX6_spreadFrom_36 rfl 2 rfl ?_
        obtain ⟨z25, H⟩ := H
        refine aw_iaload z25 dX6_spreadFrom_37 ?_
        refine aw_name (fun v26 e_v26 => ?_)
        replace H := H v26 e_v26
        refine aw_istore (lv' := [(5, .int v26), (0, .ref (G.2.1 k)), (1, .int a1), (2, .int x2), (3, .int x3), (4, .int x4)]) dX6_spreadFrom_38 (by decide) rfl ?_
        refine aw_iload_n dX6_spreadFrom_40 rfl 3 rfl ?_
        refine aw_iconst (v := 1) dX6_spreadFrom_41 (by decide) ?_
        refine aw_iadd dX6_spreadFrom_42 ?_
        refine aw_sipush (v := 256) dX6_spreadFrom_43 (by decide) ?_
        refine aw_irem dX6_spreadFrom_46 (by decide) ?_
        refine aw_name (fun x2_27 e_x2_27 => ?_)
        replace H := H x2_27 e_x2_27
        refine aw_istore_n (lv' := [(2, .int x2_27), (5, .int v26), (0, .ref (G.2.1 k)), (1, .int a1), (3, .int x3), (4, .int x4)]) dX6_spreadFrom_47 rfl (by decide) rfl ?_
        obtain ⟨x3_28, e_x3_28⟩ : ∃ y : Int32, y = x3 + (-1) := ⟨_, rfl⟩
        replace H := H x3_28 e_x3_28
        refine aw_iinc (v := x3_28) (lv' := [(3, .int x3_28), (2, .int x2_27), (5, .int v26), (0, .ref (G.2.1 k)), (1, .int a1), (4, .int x4)]) dX6_spreadFrom_48 (n0 := 4) rfl (by rw [e_x3_28]; rfl) (by decide) rfl ?_
        refine aw_aload_n dX6_spreadFrom_51 rfl 3 rfl ?_
        refine aw_getR cf_X6 3 (by decide) rfl wd_288 o_k dX6_spreadFrom_52 ?_
        refine aw_iload dX6_spreadFrom_55 2 rfl ?_
        refine aw_iconst (v := 0) dX6_spreadFrom_57 (by decide) ?_
        obtain ⟨z29, H⟩ := H
        refine aw_zastore z29 (by decide) dX6_spreadFrom_58 ?_
        refine aw_nameH (fun h30 e_h30 => ?_)
        replace H := H h30 e_h30
        refine aw_iconst (v := 0) dX6_spreadFrom_59 (by decide) ?_
        refine aw_istore (lv' := [(6, .int 0), (3, .int x3_28), (2, .int x2_27), (5, .int v26), (0, .ref (G.2.1 k)), (1, .int a1), (4, .int x4)]) dX6_spreadFrom_60 (by decide) rfl ?_
        refine aw_sub (lv' := [(0, .ref (G.2.1 k)), (1, .int a1), (2, .int x2_27), (3, .int x3_28), (4, .int x4), (5, .int v26), (6, .int 0)]) [4, 5, 2, 1, 6, 3, 0] rfl ?_
        obtain ⟨n1, H⟩ := H
        exact fm_X6_spreadFrom_62 d o_k ih n1 _ _ _ _ _ _ H
set_option maxHeartbeats 4000000 in
set_option maxRecDepth 100000 in
theorem am_X6_spreadFrom {l : Launch} {S : aS} {G : aG} (d : Nat) {k : Nat} {a1 : Int32} {h : aH} {Q : aH → Prop} (o_k : aObj S k 5 flX6) (H : f_X6_spreadFrom S k a1 h Q) : AMv l S G (d + 3) M_X6_spreadFrom [.ref (G.2.1 k), .int a1] h Q := by
  unfold f_X6_spreadFrom at H
  refine am_of mf_X6_spreadFrom (Nat.le_of_ble_eq_true rfl) (lv0 := [(0, .ref (G.2.1 k)), (1, .int a1)]) rfl ?_
  refine aw_iconst (v := 0) dX6_spreadFrom_0 (by decide) ?_
  refine aw_istore_n (lv' := [(2, .int 0), (0, .ref (G.2.1 k)), (1, .int a1)]) dX6_spreadFrom_1 rfl (by decide) rfl ?_
  refine aw_iconst (v := 1) dX6_spreadFrom_2 (by decide) ?_
  refine aw_istore_n (lv' := [(3, .int 1), (2, .int 0), (0, .ref (G.2.1 k)), (1, .int a1)]) dX6_spreadFrom_3 rfl (by decide) rfl ?_
  refine aw_aload_n dX6_spreadFrom_4 rfl 2 rfl ?_
  refine aw_getR cf_X6 2 (by decide) rfl wd_287 o_k dX6_spreadFrom_5 ?_
  refine aw_iconst (v := 0) dX6_spreadFrom_8 (by decide) ?_
  refine aw_iload_n dX6_spreadFrom_9 rfl 3 rfl ?_
  obtain ⟨z31, H⟩ := H
  refine aw_iastore z31 dX6_spreadFrom_10 ?_
  refine aw_nameH (fun h32 e_h32 => ?_)
  replace H := H h32 e_h32
  refine aw_aload_n dX6_spreadFrom_11 rfl 2 rfl ?_
  refine aw_getR cf_X6 3 (by decide) rfl wd_288 o_k dX6_spreadFrom_12 ?_
  refine aw_iload_n dX6_spreadFrom_15 rfl 3 rfl ?_
  refine aw_iconst (v := 1) dX6_spreadFrom_16 (by decide) ?_
  obtain ⟨z33, H⟩ := H
  refine aw_zastore z33 (by decide) dX6_spreadFrom_17 ?_
  refine aw_nameH (fun h34 e_h34 => ?_)
  replace H := H h34 e_h34
  refine aw_iconst (v := 0) dX6_spreadFrom_18 (by decide) ?_
  refine aw_istore (lv' := [(4, .int 0), (3, .int 1), (2, .int 0), (0, .ref (G.2.1 k)), (1, .int a1)]) dX6_spreadFrom_19 (by decide) rfl ?_
  refine aw_sub (lv' := [(0, .ref (G.2.1 k)), (1, .int a1), (2, .int 0), (3, .int 1), (4, .int 0)]) [3, 4, 2, 1, 0] rfl ?_
  obtain ⟨n1, H⟩ := H
  exact fm_X6_spreadFrom_21 d o_k n1 _ _ _ _ H
set_option maxHeartbeats 4000000 in
set_option maxRecDepth 100000 in
theorem fm_X6_solve_8 {l : Launch} {S : aS} {G : aG} (d : Nat) {k : Nat} {a1 : Nat} {a2 : Nat} {a3 : Int32} {a4 : Int32} {a5 : Int32} {Q : Int32 → aH → Prop} (o_k : aObj S k 5 flX6) (o_a1 : aObj S a1 1 flX2) (o_a2 : aObj S a2 4 flX5) : ∀ (n : Nat) (x6 : Int32) (h : aH), f_X6_solve_8 S k a1 a2 a3 a4 a5 Q n x6 h → AW l S G (d + 5) M_X6_solve (va_Qi Q (aPo S G) (aA S G)) 8 [(0, .ref (G.2.1 k)), (1, .ref (G.2.1 a1)), (2, .ref (G.2.1 a2)), (3, .int a3), (4, .int a4), (5, .int a5), (6, .int x6)] [] h := by
  intro n
  induction n with
  | zero => intro x6 h H; exact False.elim H
  | succ n ih =>
    intro x6 h H
    unfold f_X6_solve_8 at H
    refine aw_iload dX6_solve_8 6 rfl ?_
    refine aw_sipush (v := 256) dX6_solve_10 (by decide) ?_
    refine aw_icmp_ge (tgt := 55) dX6_solve_13 (by decide) (fun c1 => ?_) (fun c1 => ?_)
    · replace H := a_pos c1 H
      refine aw_aload_n dX6_solve_55 rfl 0 rfl ?_
      refine aw_getR cf_X6 0 (by decide) rfl wd_285 o_k dX6_solve_56 ?_
      refine aw_iload_n dX6_solve_59 rfl 3 rfl ?_
      obtain ⟨z2, H⟩ := H
      refine aw_iaload z2 dX6_solve_60 ?_
      refine aw_name (fun v3 e_v3 => ?_)
      replace H := H v3 e_v3
      refine aw_iconst (v := (-1)) dX6_solve_61 (by decide) ?_
      refine aw_icmp_eq (tgt := 76) dX6_solve_62 (by decide) (fun c4 => ?_) (fun c4 => ?_)
      · replace H := a_pos c4 H
        refine aw_iconst (v := 0) dX6_solve_76 (by decide) ?_
        exact aw_zret rfl rfl H dX6_solve_77
      · replace H := a_neg c4 H
        refine aw_aload_n dX6_solve_65 rfl 0 rfl ?_
        refine aw_getR cf_X6 0 (by decide) rfl wd_285 o_k dX6_solve_66 ?_
        refine aw_iload dX6_solve_69 4 rfl ?_
        obtain ⟨z5, H⟩ := H
        refine aw_iaload z5 dX6_solve_71 ?_
        refine aw_name (fun v6 e_v6 => ?_)
        replace H := H v6 e_v6
        refine aw_iconst (v := (-1)) dX6_solve_72 (by decide) ?_
        refine aw_icmp_ne (tgt := 78) dX6_solve_73 (by decide) (fun c7 => ?_) (fun c7 => ?_)
        · replace H := a_pos c7 H
          refine aw_aload_n dX6_solve_78 rfl 0 rfl ?_
          refine aw_getR cf_X6 1 (by decide) rfl wd_286 o_k dX6_solve_79 ?_
          refine aw_iload dX6_solve_82 4 rfl ?_
          refine aw_aload_n dX6_solve_84 rfl 0 rfl ?_
          refine aw_getR cf_X6 0 (by decide) rfl wd_285 o_k dX6_solve_85 ?_
          refine aw_iload dX6_solve_88 4 rfl ?_
          obtain ⟨z8, H⟩ := H
          refine aw_iaload z8 dX6_solve_90 ?_
          refine aw_name (fun v9 e_v9 => ?_)
          replace H := H v9 e_v9
          refine aw_sipush (v := 1024) dX6_solve_91 (by decide) ?_
          refine aw_imul dX6_solve_94 ?_
          obtain ⟨z10, H⟩ := H
          refine aw_iastore z10 dX6_solve_95 ?_
          refine aw_nameH (fun h11 e_h11 => ?_)
          replace H := H h11 e_h11
          refine aw_aload_n dX6_solve_96 rfl 0 rfl ?_
          refine aw_iload dX6_solve_97 4 rfl ?_
          refine aw_callV_v (As := [.int a4]) (rest := []) (am_X6_spreadFrom (d + 1) o_k H) mf_X6_spreadFrom wd_910 wd_912 ws_2_11 cf_X6 o_k rfl rfl (Nat.le_of_ble_eq_true rfl) dX6_solve_99 (fun h12 H => ?_)
          refine aw_aload_n dX6_solve_102 rfl 0 rfl ?_
          refine aw_getR cf_X6 1 (by decide) rfl wd_286 o_k dX6_solve_103 ?_
          refine aw_iload_n dX6_solve_106 rfl 3 rfl ?_
          obtain ⟨z13, H⟩ := H
          refine aw_iaload z13 dX6_solve_107 ?_
          refine aw_name (fun v14 e_v14 => ?_)
          replace H := H v14 e_v14
          refine aw_ldc (v := 1073741824) dX6_solve_108 wd_909 ?_
          refine aw_icmp_eq (tgt := 117) dX6_solve_110 (by decide) (fun c15 => ?_) (fun c15 => ?_)
          · replace H := a_pos c15 H
            refine aw_iconst (v := 0) dX6_solve_117 (by decide) ?_
            exact aw_zret rfl rfl H dX6_solve_118
          · replace H := a_neg c15 H
            refine aw_iconst (v := 1) dX6_solve_113 (by decide) ?_
            refine aw_goto (tgt := 118) dX6_solve_114 (by decide) ?_
            exact aw_zret rfl rfl H dX6_solve_118
        · replace H := a_neg2 c7 H
          refine aw_iconst (v := 0) dX6_solve_76 (by decide) ?_
          exact aw_zret rfl rfl H dX6_solve_77
    · replace H := a_neg c1 H
      refine aw_aload_n dX6_solve_16 rfl 0 rfl ?_
      refine aw_getR cf_X6 0 (by decide) rfl wd_285 o_k dX6_solve_17 ?_
      refine aw_iload dX6_solve_20 6 rfl ?_
      refine aw_aload_n dX6_solve_22 rfl 1 rfl ?_
      refine aw_aload_n dX6_solve_23 rfl 2 rfl ?_
      refine aw_iload dX6_solve_24 6 rfl ?_
      refine aw_iload dX6_solve_26 5 rfl ?_
      refine aw_callS_i (As := [.ref (G.2.1 a1), .ref (G.2.1 a2), .int x6, .int a5]) (rest := [.int x6, .ref (G.2.1 (gR h k 0))]) (am_X6_planksAt d o_a1 o_a2 H) mf_X6_planksAt wd_904 wd_905 rfl rfl (Nat.le_of_ble_eq_true rfl) dX6_solve_28 (fun r17 h16 H => ?_)
      obtain ⟨z18, H⟩ := H
      refine aw_iastore z18 dX6_solve_31 ?_
      refine aw_nameH (fun h19 e_h19 => ?_)
      replace H := H h19 e_h19
      refine aw_aload_n dX6_solve_32 rfl 0 rfl ?_
      refine aw_getR cf_X6 1 (by decide) rfl wd_286 o_k dX6_solve_33 ?_
      refine aw_iload dX6_solve_36 6 rfl ?_
      refine aw_ldc (v := 1073741824) dX6_solve_38 wd_909 ?_
      obtain ⟨z20, H⟩ := H
      refine aw_iastore z20 dX6_solve_40 ?_
      refine aw_nameH (fun h21 e_h21 => ?_)
      replace H := H h21 e_h21
      refine aw_aload_n dX6_solve_41 rfl 0 rfl ?_
      refine aw_getR cf_X6 3 (by decide) rfl wd_288 o_k dX6_solve_42 ?_
      refine aw_iload dX6_solve_45 6 rfl ?_
      refine aw_iconst (v := 0) dX6_solve_47 (by decide) ?_
      obtain ⟨z22, H⟩ := H
      refine aw_zastore z22 (by decide) dX6_solve_48 ?_
      refine aw_nameH (fun h23 e_h23 => ?_)
      replace H := H h23 e_h23
      obtain ⟨x6_24, e_x6_24⟩ : ∃ y : Int32, y = x6 + 1 := ⟨_, rfl⟩
      replace H := H x6_24 e_x6_24
      refine aw_iinc (v := x6_24) (lv' := [(6, .int x6_24), (0, .ref (G.2.1 k)), (1, .ref (G.2.1 a1)), (2, .ref (G.2.1 a2)), (3, .int a3), (4, .int a4), (5, .int a5)]) dX6_solve_49 (n0 := 6) rfl (by rw [e_x6_24]; rfl) (by decide) rfl ?_
      refine aw_goto (tgt := 8) dX6_solve_52 (by decide) ?_
      refine aw_sub (lv' := [(0, .ref (G.2.1 k)), (1, .ref (G.2.1 a1)), (2, .ref (G.2.1 a2)), (3, .int a3), (4, .int a4), (5, .int a5), (6, .int x6_24)]) [1, 2, 3, 4, 5, 6, 0] rfl ?_
      exact ih _ _ H
set_option maxHeartbeats 4000000 in
set_option maxRecDepth 100000 in
theorem am_X6_solve {l : Launch} {S : aS} {G : aG} (d : Nat) {k : Nat} {a1 : Nat} {a2 : Nat} {a3 : Int32} {a4 : Int32} {a5 : Int32} {h : aH} {Q : Int32 → aH → Prop} (o_k : aObj S k 5 flX6) (o_a1 : aObj S a1 1 flX2) (o_a2 : aObj S a2 4 flX5) (H : f_X6_solve S k a1 a2 a3 a4 a5 h Q) : AMi l S G (d + 5) M_X6_solve [.ref (G.2.1 k), .ref (G.2.1 a1), .ref (G.2.1 a2), .int a3, .int a4, .int a5] h Q := by
  unfold f_X6_solve at H
  refine am_of mf_X6_solve (Nat.le_of_ble_eq_true rfl) (lv0 := [(0, .ref (G.2.1 k)), (1, .ref (G.2.1 a1)), (2, .ref (G.2.1 a2)), (3, .int a3), (4, .int a4), (5, .int a5)]) rfl ?_
  refine aw_aload_n dX6_solve_0 rfl 0 rfl ?_
  refine aw_iload_n dX6_solve_1 rfl 3 rfl ?_
  refine aw_putI cf_X6 4 (by decide) rfl wd_289 rfl rfl rfl o_k dX6_solve_2 ?_
  refine aw_nameH (fun h25 e_h25 => ?_)
  replace H := H h25 e_h25
  refine aw_iconst (v := 0) dX6_solve_5 (by decide) ?_
  refine aw_istore (lv' := [(6, .int 0), (0, .ref (G.2.1 k)), (1, .ref (G.2.1 a1)), (2, .ref (G.2.1 a2)), (3, .int a3), (4, .int a4), (5, .int a5)]) dX6_solve_6 (by decide) rfl ?_
  refine aw_sub (lv' := [(0, .ref (G.2.1 k)), (1, .ref (G.2.1 a1)), (2, .ref (G.2.1 a2)), (3, .int a3), (4, .int a4), (5, .int a5), (6, .int 0)]) [1, 2, 3, 4, 5, 6, 0] rfl ?_
  obtain ⟨n1, H⟩ := H
  exact fm_X6_solve_8 d o_k o_a1 o_a2 n1 _ _ H
set_option maxHeartbeats 4000000 in
set_option maxRecDepth 100000 in
theorem am_X6_planks {l : Launch} {S : aS} {G : aG} (d : Nat) {k : Nat} {h : aH} {Q : Int32 → aH → Prop} (o_k : aObj S k 5 flX6) (H : f_X6_planks S k h Q) : AMi l S G d M_X6_planks [.ref (G.2.1 k)] h Q := by
  unfold f_X6_planks at H
  refine am_of mf_X6_planks (Nat.le_of_ble_eq_true rfl) (lv0 := [(0, .ref (G.2.1 k))]) rfl ?_
  refine aw_aload_n dX6_planks_0 rfl 0 rfl ?_
  refine aw_getR cf_X6 1 (by decide) rfl wd_286 o_k dX6_planks_1 ?_
  refine aw_aload_n dX6_planks_4 rfl 0 rfl ?_
  refine aw_getI cf_X6 4 (by decide) rfl wd_289 o_k dX6_planks_5 ?_
  refine aw_name (fun v1 e_v1 => ?_)
  replace H := H v1 e_v1
  obtain ⟨z2, H⟩ := H
  refine aw_iaload z2 dX6_planks_8 ?_
  refine aw_name (fun v3 e_v3 => ?_)
  replace H := H v3 e_v3
  refine aw_sipush (v := 1024) dX6_planks_9 (by decide) ?_
  refine aw_idiv dX6_planks_12 (by decide) ?_
  exact aw_iret rfl H dX6_planks_13
set_option maxHeartbeats 4000000 in
set_option maxRecDepth 100000 in
theorem am_X6_steps {l : Launch} {S : aS} {G : aG} (d : Nat) {k : Nat} {h : aH} {Q : Int32 → aH → Prop} (o_k : aObj S k 5 flX6) (H : f_X6_steps S k h Q) : AMi l S G d M_X6_steps [.ref (G.2.1 k)] h Q := by
  unfold f_X6_steps at H
  refine am_of mf_X6_steps (Nat.le_of_ble_eq_true rfl) (lv0 := [(0, .ref (G.2.1 k))]) rfl ?_
  refine aw_aload_n dX6_steps_0 rfl 0 rfl ?_
  refine aw_getR cf_X6 1 (by decide) rfl wd_286 o_k dX6_steps_1 ?_
  refine aw_aload_n dX6_steps_4 rfl 0 rfl ?_
  refine aw_getI cf_X6 4 (by decide) rfl wd_289 o_k dX6_steps_5 ?_
  refine aw_name (fun v1 e_v1 => ?_)
  replace H := H v1 e_v1
  obtain ⟨z2, H⟩ := H
  refine aw_iaload z2 dX6_steps_8 ?_
  refine aw_name (fun v3 e_v3 => ?_)
  replace H := H v3 e_v3
  refine aw_sipush (v := 1024) dX6_steps_9 (by decide) ?_
  refine aw_irem dX6_steps_12 (by decide) ?_
  exact aw_iret rfl H dX6_steps_13
set_option maxHeartbeats 4000000 in
set_option maxRecDepth 100000 in
theorem fm_X6_nextFrom_22 {l : Launch} {S : aS} {G : aG} (d : Nat) {k : Nat} {a1 : Int32} {Q : Int32 → aH → Prop} (o_k : aObj S k 5 flX6) : ∀ (n : Nat) (x2 : Int32) (x3 : Int32) (h : aH), f_X6_nextFrom_22 S k a1 Q n x2 x3 h → AW l S G (d + 3) M_X6_nextFrom (va_Qi Q (aPo S G) (aA S G)) 22 [(0, .ref (G.2.1 k)), (1, .int a1), (2, .int x2), (3, .int x3)] [] h := by
  intro n
  induction n with
  | zero => intro x2 x3 h H; exact False.elim H
  | succ n ih =>
    intro x2 x3 h H
    unfold f_X6_nextFrom_22 at H
    refine aw_iload_n dX6_nextFrom_22 rfl 3 rfl ?_
    refine aw_iconst (v := 4) dX6_nextFrom_23 (by decide) ?_
    refine aw_icmp_ge (tgt := 60) dX6_nextFrom_24 (by decide) (fun c1 => ?_) (fun c1 => ?_)
    · replace H := a_pos c1 H
      refine aw_iload_n dX6_nextFrom_60 rfl 1 rfl ?_
      exact aw_iret rfl H dX6_nextFrom_61
    · replace H := a_neg c1 H
      refine aw_iload_n dX6_nextFrom_27 rfl 1 rfl ?_
      refine aw_iload_n dX6_nextFrom_28 rfl 3 rfl ?_
      refine aw_callS_i (As := [.int a1, .int x3]) (rest := []) (am_X1_side d H) mf_X1_side wd_915 wd_916 rfl rfl (Nat.le_of_ble_eq_true rfl) dX6_nextFrom_29 (fun r3 h2 H => ?_)
      refine aw_istore (lv' := [(4, .int r3), (0, .ref (G.2.1 k)), (1, .int a1), (2, .int x2), (3, .int x3)]) dX6_nextFrom_32 (by decide) rfl ?_
      refine aw_iload dX6_nextFrom_34 0 rfl ?_
      refine aw_iconst (v := (-1)) dX6_nextFrom_36 (by decide) ?_
      refine aw_icmp_eq (tgt := 54) dX6_nextFrom_37 (by decide) (fun c4 => ?_) (fun c4 => ?_)
      · replace H := a_pos c4 H
        obtain ⟨x3_5, e_x3_5⟩ : ∃ y : Int32, y = x3 + 1 := ⟨_, rfl⟩
        replace H := H x3_5 e_x3_5
        refine aw_iinc (v := x3_5) (lv' := [(3, .int x3_5), (4, .int r3), (0, .ref (G.2.1 k)), (1, .int a1), (2, .int x2)]) dX6_nextFrom_54 (n0 := 4) rfl (by rw [e_x3_5]; rfl) (by decide) rfl ?_
        refine aw_goto (tgt := 22) dX6_nextFrom_57 (by decide) ?_
        refine aw_sub (lv' := [(0, .ref (G.2.1 k)), (1, .int a1), (2, .int x2), (3, .int x3_5)]) [2, 3, 4, 0] rfl ?_
        exact ih _ _ _ H
      · replace H := a_neg c4 H
        refine aw_aload_n dX6_nextFrom_40 rfl 1 rfl ?_
        refine aw_getR cf_X6 1 (by decide) rfl wd_286 o_k dX6_nextFrom_41 ?_
        refine aw_iload dX6_nextFrom_44 0 rfl ?_
        obtain ⟨z6, H⟩ := H
        refine aw_iaload z6 dX6_nextFrom_46 ?_
        refine aw_name (fun v7 e_v7 => ?_)
        replace H := H v7 e_v7
        refine aw_iload_n dX6_nextFrom_47 rfl 3 rfl ?_
        refine aw_icmp_ne (tgt := 54) dX6_nextFrom_48 (by decide) (fun c8 => ?_) (fun c8 => ?_)
        · replace H := a_pos c8 H
          obtain ⟨x3_9, e_x3_9⟩ : ∃ y : Int32, y = x3 + 1 := ⟨_, rfl⟩
          replace H := H x3_9 e_x3_9
          refine aw_iinc (v := x3_9) (lv' := [(3, .int x3_9), (4, .int r3), (0, .ref (G.2.1 k)), (1, .int a1), (2, .int x2)]) dX6_nextFrom_54 (n0 := 4) rfl (by rw [e_x3_9]; rfl) (by decide) rfl ?_
          refine aw_goto (tgt := 22) dX6_nextFrom_57 (by decide) ?_
          refine aw_sub (lv' := [(0, .ref (G.2.1 k)), (1, .int a1), (2, .int x2), (3, .int x3_9)]) [2, 3, 4, 0] rfl ?_
          exact ih _ _ _ H
        · replace H := a_neg2 c8 H
          refine aw_iload dX6_nextFrom_51 0 rfl ?_
          exact aw_iret rfl H dX6_nextFrom_53
set_option maxHeartbeats 4000000 in
set_option maxRecDepth 100000 in
theorem am_X6_nextFrom {l : Launch} {S : aS} {G : aG} (d : Nat) {k : Nat} {a1 : Int32} {h : aH} {Q : Int32 → aH → Prop} (o_k : aObj S k 5 flX6) (H : f_X6_nextFrom S k a1 h Q) : AMi l S G (d + 3) M_X6_nextFrom [.ref (G.2.1 k), .int a1] h Q := by
  unfold f_X6_nextFrom at H
  refine am_of mf_X6_nextFrom (Nat.le_of_ble_eq_true rfl) (lv0 := [(0, .ref (G.2.1 k)), (1, .int a1)]) rfl ?_
  refine aw_aload_n dX6_nextFrom_0 rfl 0 rfl ?_
  refine aw_getR cf_X6 1 (by decide) rfl wd_286 o_k dX6_nextFrom_1 ?_
  refine aw_iload_n dX6_nextFrom_4 rfl 1 rfl ?_
  obtain ⟨z10, H⟩ := H
  refine aw_iaload z10 dX6_nextFrom_5 ?_
  refine aw_name (fun v11 e_v11 => ?_)
  replace H := H v11 e_v11
  refine aw_aload_n dX6_nextFrom_6 rfl 0 rfl ?_
  refine aw_getR cf_X6 0 (by decide) rfl wd_285 o_k dX6_nextFrom_7 ?_
  refine aw_iload_n dX6_nextFrom_10 rfl 1 rfl ?_
  obtain ⟨z12, H⟩ := H
  refine aw_iaload z12 dX6_nextFrom_11 ?_
  refine aw_name (fun v13 e_v13 => ?_)
  replace H := H v13 e_v13
  refine aw_sipush (v := 1024) dX6_nextFrom_12 (by decide) ?_
  refine aw_imul dX6_nextFrom_15 ?_
  refine aw_isub dX6_nextFrom_16 ?_
  refine aw_iconst (v := 1) dX6_nextFrom_17 (by decide) ?_
  refine aw_isub dX6_nextFrom_18 ?_
  refine aw_name (fun x2_14 e_x2_14 => ?_)
  replace H := H x2_14 e_x2_14
  refine aw_istore_n (lv' := [(2, .int x2_14), (0, .ref (G.2.1 k)), (1, .int a1)]) dX6_nextFrom_19 rfl (by decide) rfl ?_
  refine aw_iconst (v := 0) dX6_nextFrom_20 (by decide) ?_
  refine aw_istore_n (lv' := [(3, .int 0), (2, .int x2_14), (0, .ref (G.2.1 k)), (1, .int a1)]) dX6_nextFrom_21 rfl (by decide) rfl ?_
  refine aw_sub (lv' := [(0, .ref (G.2.1 k)), (1, .int a1), (2, .int x2_14), (3, .int 0)]) [2, 3, 1, 0] rfl ?_
  obtain ⟨n1, H⟩ := H
  exact fm_X6_nextFrom_22 d o_k n1 _ _ _ H
set_option maxHeartbeats 4000000 in
set_option maxRecDepth 100000 in
theorem fm_X6_squareAt_7 {l : Launch} {S : aS} {G : aG} (d : Nat) {k : Nat} {a1 : Int32} {Q : Int32 → aH → Prop} (o_k : aObj S k 5 flX6) : ∀ (n : Nat) (x2 : Int32) (x3 : Int32) (h : aH), f_X6_squareAt_7 S k a1 Q n x2 x3 h → AW l S G (d + 4) M_X6_squareAt (va_Qi Q (aPo S G) (aA S G)) 7 [(0, .ref (G.2.1 k)), (1, .int a1), (2, .int x2), (3, .int x3)] [] h := by
  intro n
  induction n with
  | zero => intro x2 x3 h H; exact False.elim H
  | succ n ih =>
    intro x2 x3 h H
    unfold f_X6_squareAt_7 at H
    refine aw_iload_n dX6_squareAt_7 rfl 3 rfl ?_
    refine aw_iload_n dX6_squareAt_8 rfl 1 rfl ?_
    refine aw_icmp_ge (tgt := 31) dX6_squareAt_9 (by decide) (fun c1 => ?_) (fun c1 => ?_)
    · replace H := a_pos c1 H
      refine aw_iload_n dX6_squareAt_31 rfl 2 rfl ?_
      exact aw_iret rfl H dX6_squareAt_32
    · replace H := a_neg c1 H
      refine aw_iload_n dX6_squareAt_12 rfl 3 rfl ?_
      refine aw_sipush (v := 256) dX6_squareAt_13 (by decide) ?_
      refine aw_icmp_ge (tgt := 31) dX6_squareAt_16 (by decide) (fun c2 => ?_) (fun c2 => ?_)
      · replace H := a_pos c2 H
        refine aw_iload_n dX6_squareAt_31 rfl 2 rfl ?_
        exact aw_iret rfl H dX6_squareAt_32
      · replace H := a_neg c2 H
        refine aw_aload_n dX6_squareAt_19 rfl 0 rfl ?_
        refine aw_iload_n dX6_squareAt_20 rfl 2 rfl ?_
        refine aw_callV_i (As := [.int x2]) (rest := []) (am_X6_nextFrom d o_k H) mf_X6_nextFrom wd_938 wd_940 ws_2_13 cf_X6 o_k rfl rfl (Nat.le_of_ble_eq_true rfl) dX6_squareAt_21 (fun r4 h3 H => ?_)
        refine aw_istore_n (lv' := [(2, .int r4), (0, .ref (G.2.1 k)), (1, .int a1), (3, .int x3)]) dX6_squareAt_24 rfl (by decide) rfl ?_
        obtain ⟨x3_5, e_x3_5⟩ : ∃ y : Int32, y = x3 + 1 := ⟨_, rfl⟩
        replace H := H x3_5 e_x3_5
        refine aw_iinc (v := x3_5) (lv' := [(3, .int x3_5), (2, .int r4), (0, .ref (G.2.1 k)), (1, .int a1)]) dX6_squareAt_25 (n0 := 3) rfl (by rw [e_x3_5]; rfl) (by decide) rfl ?_
        refine aw_goto (tgt := 7) dX6_squareAt_28 (by decide) ?_
        refine aw_sub (lv' := [(0, .ref (G.2.1 k)), (1, .int a1), (2, .int r4), (3, .int x3_5)]) [2, 3, 1, 0] rfl ?_
        exact ih _ _ _ H
set_option maxHeartbeats 4000000 in
set_option maxRecDepth 100000 in
theorem am_X6_squareAt {l : Launch} {S : aS} {G : aG} (d : Nat) {k : Nat} {a1 : Int32} {h : aH} {Q : Int32 → aH → Prop} (o_k : aObj S k 5 flX6) (H : f_X6_squareAt S k a1 h Q) : AMi l S G (d + 4) M_X6_squareAt [.ref (G.2.1 k), .int a1] h Q := by
  unfold f_X6_squareAt at H
  refine am_of mf_X6_squareAt (Nat.le_of_ble_eq_true rfl) (lv0 := [(0, .ref (G.2.1 k)), (1, .int a1)]) rfl ?_
  refine aw_aload_n dX6_squareAt_0 rfl 0 rfl ?_
  refine aw_getI cf_X6 4 (by decide) rfl wd_289 o_k dX6_squareAt_1 ?_
  refine aw_name (fun v6 e_v6 => ?_)
  replace H := H v6 e_v6
  refine aw_istore_n (lv' := [(2, .int v6), (0, .ref (G.2.1 k)), (1, .int a1)]) dX6_squareAt_4 rfl (by decide) rfl ?_
  refine aw_iconst (v := 0) dX6_squareAt_5 (by decide) ?_
  refine aw_istore_n (lv' := [(3, .int 0), (2, .int v6), (0, .ref (G.2.1 k)), (1, .int a1)]) dX6_squareAt_6 rfl (by decide) rfl ?_
  refine aw_sub (lv' := [(0, .ref (G.2.1 k)), (1, .int a1), (2, .int v6), (3, .int 0)]) [2, 3, 1, 0] rfl ?_
  obtain ⟨n1, H⟩ := H
  exact fm_X6_squareAt_7 d o_k n1 _ _ _ H
set_option maxHeartbeats 4000000 in
set_option maxRecDepth 100000 in
theorem am_X7_worthOf {l : Launch} {S : aS} {G : aG} (d : Nat) {k : Nat} {a1 : Int32} {h : aH} {Q : Int32 → aH → Prop} (o_k : aObj S k 6 flX7) (H : f_X7_worthOf S k a1 h Q) : AMi l S G d M_X7_worthOf [.ref (G.2.1 k), .int a1] h Q := by
  unfold f_X7_worthOf at H
  refine am_of mf_X7_worthOf (Nat.le_of_ble_eq_true rfl) (lv0 := [(0, .ref (G.2.1 k)), (1, .int a1)]) rfl ?_
  refine aw_iload_n dX7_worthOf_0 rfl 1 rfl ?_
  refine aw_if_lt (tgt := 22) dX7_worthOf_1 (by decide) (fun c1 => ?_) (fun c1 => ?_)
  · replace H := a_pos c1 H
    refine aw_iconst (v := (-1)) dX7_worthOf_22 (by decide) ?_
    exact aw_iret rfl H dX7_worthOf_23
  · replace H := a_neg c1 H
    refine aw_iload_n dX7_worthOf_4 rfl 1 rfl ?_
    refine aw_aload_n dX7_worthOf_5 rfl 0 rfl ?_
    refine aw_getR cf_X7 0 (by decide) rfl wd_237 o_k dX7_worthOf_6 ?_
    obtain ⟨n2, z3, z4, H⟩ := H
    refine aw_alen z3 z4 dX7_worthOf_9 ?_
    refine aw_name (fun v5 e_v5 => ?_)
    replace H := H v5 e_v5
    refine aw_icmp_ge (tgt := 22) dX7_worthOf_10 (by decide) (fun c6 => ?_) (fun c6 => ?_)
    · replace H := a_pos c6 H
      refine aw_iconst (v := (-1)) dX7_worthOf_22 (by decide) ?_
      exact aw_iret rfl H dX7_worthOf_23
    · replace H := a_neg c6 H
      refine aw_aload_n dX7_worthOf_13 rfl 0 rfl ?_
      refine aw_getR cf_X7 0 (by decide) rfl wd_237 o_k dX7_worthOf_14 ?_
      refine aw_iload_n dX7_worthOf_17 rfl 1 rfl ?_
      obtain ⟨z7, H⟩ := H
      refine aw_iaload z7 dX7_worthOf_18 ?_
      refine aw_name (fun v8 e_v8 => ?_)
      replace H := H v8 e_v8
      refine aw_goto (tgt := 23) dX7_worthOf_19 (by decide) ?_
      exact aw_iret rfl H dX7_worthOf_23
set_option maxHeartbeats 4000000 in
set_option maxRecDepth 100000 in
theorem fm_X7_bar_106 {l : Launch} {S : aS} {G : aG} (d : Nat) {k : Nat} {a1 : Nat} {a2 : Nat} {a3 : Int32} {a4 : Int32} {Q : aH → Prop} (o_k : aObj S k 6 flX7) (o_a1 : aObj S a1 1 flX2) (o_a2 : aObj S a2 8 flX9) : ∀ (n : Nat) (x5 : Int32) (x6 : Int32) (x8 : Int32) (x9 : Int32) (h : aH), f_X7_bar_106 S k a1 a2 a3 a4 Q n x5 x6 x8 x9 h → AW l S G (d + 3) M_X7_bar (va_Qv Q (aPo S G) (aA S G)) 106 [(0, .ref (G.2.1 k)), (1, .ref (G.2.1 a1)), (2, .ref (G.2.1 a2)), (3, .int a3), (4, .int a4), (5, .int x5), (6, .int x6), (8, .int x8), (9, .int x9)] [] h := by
  intro n
  induction n with
  | zero => intro x5 x6 x8 x9 h H; exact False.elim H
  | succ n ih =>
    intro x5 x6 x8 x9 h H
    unfold f_X7_bar_106 at H
    refine aw_iload dX7_bar_106 8 rfl ?_
    refine aw_iload dX7_bar_108 4 rfl ?_
    refine aw_icmp_ge (tgt := 145) dX7_bar_110 (by decide) (fun c1 => ?_) (fun c1 => ?_)
    · replace H := a_pos c1 H
      refine aw_aload_n dX7_bar_145 rfl 0 rfl ?_
      refine aw_getR cf_X7 2 (by decide) rfl wd_239 o_k dX7_bar_146 ?_
      refine aw_iload_n dX7_bar_149 rfl 3 rfl ?_
      refine aw_bipush (v := 10) dX7_bar_150 (by decide) ?_
      refine aw_imul dX7_bar_152 ?_
      refine aw_iload dX7_bar_153 4 rfl ?_
      refine aw_iadd dX7_bar_155 ?_
      refine aw_iload dX7_bar_156 7 rfl ?_
      obtain ⟨z2, H⟩ := H
      refine aw_iastore z2 dX7_bar_158 ?_
      refine aw_nameH (fun h3 e_h3 => ?_)
      replace H := H h3 e_h3
      exact aw_vret rfl H dX7_bar_159
    · replace H := a_neg c1 H
      refine aw_iload dX7_bar_113 5 rfl ?_
      refine aw_iload dX7_bar_115 6 rfl ?_
      refine aw_aload_n dX7_bar_117 rfl 2 rfl ?_
      refine aw_getR cf_X9 0 (by decide) rfl wd_139 o_a2 dX7_bar_118 ?_
      refine aw_iload dX7_bar_121 8 rfl ?_
      obtain ⟨z4, H⟩ := H
      refine aw_iaload z4 dX7_bar_123 ?_
      refine aw_name (fun v5 e_v5 => ?_)
      replace H := H v5 e_v5
      refine aw_callS_i (As := [.int x5, .int x6, .int v5]) (rest := []) (am_X1_inRow d H) mf_X1_inRow wd_834 wd_835 rfl rfl (Nat.le_of_ble_eq_true rfl) dX7_bar_124 (fun r7 h6 H => ?_)
      refine aw_if_eq (tgt := 139) dX7_bar_127 (by decide) (fun c8 => ?_) (fun c8 => ?_)
      · replace H := a_pos c8 H
        obtain ⟨x9_9, e_x9_9⟩ : ∃ y : Int32, y = x9 + 1 := ⟨_, rfl⟩
        replace H := H x9_9 e_x9_9
        refine aw_iinc (v := x9_9) (lv' := [(9, .int x9_9), (0, .ref (G.2.1 k)), (1, .ref (G.2.1 a1)), (2, .ref (G.2.1 a2)), (3, .int a3), (4, .int a4), (5, .int x5), (6, .int x6), (8, .int x8)]) dX7_bar_139 (n0 := 8) rfl (by rw [e_x9_9]; rfl) (by decide) rfl ?_
        refine aw_goto (tgt := 106) dX7_bar_142 (by decide) ?_
        refine aw_sub (lv' := [(0, .ref (G.2.1 k)), (1, .ref (G.2.1 a1)), (2, .ref (G.2.1 a2)), (3, .int a3), (4, .int a4), (5, .int x5), (6, .int x6), (8, .int x8), (9, .int x9_9)]) [1, 2, 3, 4, 5, 6, 7, 8, 0] rfl ?_
        exact ih _ _ _ _ _ H
      · replace H := a_neg c8 H
        refine aw_iload dX7_bar_130 7 rfl ?_
        refine aw_iconst (v := 1) dX7_bar_132 (by decide) ?_
        refine aw_iload dX7_bar_133 8 rfl ?_
        refine aw_ishl dX7_bar_135 ?_
        refine aw_ior dX7_bar_136 ?_
        refine aw_name (fun x8_10 e_x8_10 => ?_)
        replace H := H x8_10 e_x8_10
        refine aw_istore (lv' := [(8, .int x8_10), (0, .ref (G.2.1 k)), (1, .ref (G.2.1 a1)), (2, .ref (G.2.1 a2)), (3, .int a3), (4, .int a4), (5, .int x5), (6, .int x6), (9, .int x9)]) dX7_bar_137 (by decide) rfl ?_
        obtain ⟨x9_11, e_x9_11⟩ : ∃ y : Int32, y = x9 + 1 := ⟨_, rfl⟩
        replace H := H x9_11 e_x9_11
        refine aw_iinc (v := x9_11) (lv' := [(9, .int x9_11), (8, .int x8_10), (0, .ref (G.2.1 k)), (1, .ref (G.2.1 a1)), (2, .ref (G.2.1 a2)), (3, .int a3), (4, .int a4), (5, .int x5), (6, .int x6)]) dX7_bar_139 (n0 := 8) rfl (by rw [e_x9_11]; rfl) (by decide) rfl ?_
        refine aw_goto (tgt := 106) dX7_bar_142 (by decide) ?_
        refine aw_sub (lv' := [(0, .ref (G.2.1 k)), (1, .ref (G.2.1 a1)), (2, .ref (G.2.1 a2)), (3, .int a3), (4, .int a4), (5, .int x5), (6, .int x6), (8, .int x8_10), (9, .int x9_11)]) [2, 3, 4, 5, 6, 7, 8, 1, 0] rfl ?_
        exact ih _ _ _ _ _ H
set_option maxHeartbeats 4000000 in
set_option maxRecDepth 100000 in
theorem fm_X7_bar_29 {l : Launch} {S : aS} {G : aG} (d : Nat) {k : Nat} {a1 : Nat} {a2 : Nat} {a3 : Int32} {a4 : Int32} {Q : aH → Prop} (o_k : aObj S k 6 flX7) (o_a1 : aObj S a1 1 flX2) (o_a2 : aObj S a2 8 flX9) : ∀ (n : Nat) (x5 : Int32) (x6 : Int32) (x7 : Int32) (x8 : Int32) (h : aH), f_X7_bar_29 S k a1 a2 a3 a4 Q n x5 x6 x7 x8 h → AW l S G (d + 3) M_X7_bar (va_Qv Q (aPo S G) (aA S G)) 29 [(0, .ref (G.2.1 k)), (1, .ref (G.2.1 a1)), (2, .ref (G.2.1 a2)), (3, .int a3), (4, .int a4), (5, .int x5), (6, .int x6), (7, .int x7), (8, .int x8)] [] h := by
  intro n
  induction n with
  | zero => intro x5 x6 x7 x8 h H; exact False.elim H
  | succ n ih =>
    intro x5 x6 x7 x8 h H
    unfold f_X7_bar_29 at H
    refine aw_iload dX7_bar_29 8 rfl ?_
    refine aw_aload_n dX7_bar_31 rfl 1 rfl ?_
    refine aw_getI cf_X2 9 (by decide) rfl wd_65 o_a1 dX7_bar_32 ?_
    refine aw_name (fun v12 e_v12 => ?_)
    replace H := H v12 e_v12
    refine aw_icmp_ge (tgt := 82) dX7_bar_35 (by decide) (fun c13 => ?_) (fun c13 => ?_)
    · replace H := a_pos c13 H
      refine aw_iload dX7_bar_82 7 rfl ?_
      refine aw_if_eq (tgt := 100) dX7_bar_84 (by decide) (fun c14 => ?_) (fun c14 => ?_)
      · replace H := a_pos c14 H
        refine aw_iconst (v := 0) dX7_bar_100 (by decide) ?_
        refine aw_istore (lv' := [(8, .int 0), (0, .ref (G.2.1 k)), (1, .ref (G.2.1 a1)), (2, .ref (G.2.1 a2)), (3, .int a3), (4, .int a4), (5, .int x5), (6, .int x6), (7, .int x7)]) dX7_bar_101 (by decide) rfl ?_
        refine aw_iconst (v := 0) dX7_bar_103 (by decide) ?_
        refine aw_istore (lv' := [(9, .int 0), (8, .int 0), (0, .ref (G.2.1 k)), (1, .ref (G.2.1 a1)), (2, .ref (G.2.1 a2)), (3, .int a3), (4, .int a4), (5, .int x5), (6, .int x6), (7, .int x7)]) dX7_bar_104 (by decide) rfl ?_
        refine aw_sub (lv' := [(0, .ref (G.2.1 k)), (1, .ref (G.2.1 a1)), (2, .ref (G.2.1 a2)), (3, .int a3), (4, .int a4), (5, .int x5), (6, .int x6), (8, .int 0), (9, .int 0)]) [2, 3, 4, 5, 6, 7, 8, 1, 0] rfl ?_
        obtain ⟨n1, H⟩ := H
        exact fm_X7_bar_106 d o_k o_a1 o_a2 n1 _ _ _ _ _ H
      · replace H := a_neg c14 H
        refine aw_aload_n dX7_bar_87 rfl 0 rfl ?_
        refine aw_getR cf_X7 3 (by decide) rfl wd_240 o_k dX7_bar_88 ?_
        refine aw_iload_n dX7_bar_91 rfl 3 rfl ?_
        refine aw_dup2 dX7_bar_92 rfl rfl ?_
        obtain ⟨z15, H⟩ := H
        refine aw_iaload z15 dX7_bar_93 ?_
        refine aw_name (fun v16 e_v16 => ?_)
        replace H := H v16 e_v16
        refine aw_iconst (v := 1) dX7_bar_94 (by decide) ?_
        refine aw_iload dX7_bar_95 4 rfl ?_
        refine aw_ishl dX7_bar_97 ?_
        refine aw_ior dX7_bar_98 ?_
        obtain ⟨z17, H⟩ := H
        refine aw_iastore z17 dX7_bar_99 ?_
        refine aw_nameH (fun h18 e_h18 => ?_)
        replace H := H h18 e_h18
        refine aw_iconst (v := 0) dX7_bar_100 (by decide) ?_
        refine aw_istore (lv' := [(8, .int 0), (0, .ref (G.2.1 k)), (1, .ref (G.2.1 a1)), (2, .ref (G.2.1 a2)), (3, .int a3), (4, .int a4), (5, .int x5), (6, .int x6), (7, .int x7)]) dX7_bar_101 (by decide) rfl ?_
        refine aw_iconst (v := 0) dX7_bar_103 (by decide) ?_
        refine aw_istore (lv' := [(9, .int 0), (8, .int 0), (0, .ref (G.2.1 k)), (1, .ref (G.2.1 a1)), (2, .ref (G.2.1 a2)), (3, .int a3), (4, .int a4), (5, .int x5), (6, .int x6), (7, .int x7)]) dX7_bar_104 (by decide) rfl ?_
        refine aw_sub (lv' := [(0, .ref (G.2.1 k)), (1, .ref (G.2.1 a1)), (2, .ref (G.2.1 a2)), (3, .int a3), (4, .int a4), (5, .int x5), (6, .int x6), (8, .int 0), (9, .int 0)]) [2, 3, 4, 5, 6, 7, 8, 1, 0] rfl ?_
        obtain ⟨n1, H⟩ := H
        exact fm_X7_bar_106 d o_k o_a1 o_a2 n1 _ _ _ _ _ H
    · replace H := a_neg c13 H
      refine aw_iload dX7_bar_38 7 rfl ?_
      refine aw_if_ne (tgt := 69) dX7_bar_40 (by decide) (fun c19 => ?_) (fun c19 => ?_)
      · replace H := a_pos c19 H
        refine aw_iconst (v := 1) dX7_bar_69 (by decide) ?_
        refine aw_goto (tgt := 74) dX7_bar_70 (by decide) ?_
        refine aw_istore (lv' := [(7, .int 1), (0, .ref (G.2.1 k)), (1, .ref (G.2.1 a1)), (2, .ref (G.2.1 a2)), (3, .int a3), (4, .int a4), (5, .int x5), (6, .int x6), (8, .int x8)]) dX7_bar_74 (by decide) rfl ?_
        obtain ⟨x8_20, e_x8_20⟩ : ∃ y : Int32, y = x8 + 1 := ⟨_, rfl⟩
        replace H := H x8_20 e_x8_20
        refine aw_iinc (v := x8_20) (lv' := [(8, .int x8_20), (7, .int 1), (0, .ref (G.2.1 k)), (1, .ref (G.2.1 a1)), (2, .ref (G.2.1 a2)), (3, .int a3), (4, .int a4), (5, .int x5), (6, .int x6)]) dX7_bar_76 (n0 := 8) rfl (by rw [e_x8_20]; rfl) (by decide) rfl ?_
        refine aw_goto (tgt := 29) dX7_bar_79 (by decide) ?_
        refine aw_sub (lv' := [(0, .ref (G.2.1 k)), (1, .ref (G.2.1 a1)), (2, .ref (G.2.1 a2)), (3, .int a3), (4, .int a4), (5, .int x5), (6, .int x6), (7, .int 1), (8, .int x8_20)]) [2, 3, 4, 5, 6, 7, 8, 1, 0] rfl ?_
        exact ih _ _ _ _ _ H
      · replace H := a_neg2 c19 H
        refine aw_aload_n dX7_bar_43 rfl 1 rfl ?_
        refine aw_iload dX7_bar_44 8 rfl ?_
        refine aw_callV_i (As := [.int x8]) (rest := []) (am_X2_isOpen (d + 1) o_a1 H) mf_X2_isOpen wd_833 wd_618 wd_619 cf_X2 o_a1 rfl rfl (Nat.le_of_ble_eq_true rfl) dX7_bar_46 (fun r22 h21 H => ?_)
        refine aw_if_eq (tgt := 73) dX7_bar_49 (by decide) (fun c23 => ?_) (fun c23 => ?_)
        · replace H := a_pos c23 H
          refine aw_iconst (v := 0) dX7_bar_73 (by decide) ?_
          refine aw_istore (lv' := [(7, .int 0), (0, .ref (G.2.1 k)), (1, .ref (G.2.1 a1)), (2, .ref (G.2.1 a2)), (3, .int a3), (4, .int a4), (5, .int x5), (6, .int x6), (8, .int x8)]) dX7_bar_74 (by decide) rfl ?_
          obtain ⟨x8_24, e_x8_24⟩ : ∃ y : Int32, y = x8 + 1 := ⟨_, rfl⟩
          replace H := H x8_24 e_x8_24
          refine aw_iinc (v := x8_24) (lv' := [(8, .int x8_24), (7, .int 0), (0, .ref (G.2.1 k)), (1, .ref (G.2.1 a1)), (2, .ref (G.2.1 a2)), (3, .int a3), (4, .int a4), (5, .int x5), (6, .int x6)]) dX7_bar_76 (n0 := 8) rfl (by rw [e_x8_24]; rfl) (by decide) rfl ?_
          refine aw_goto (tgt := 29) dX7_bar_79 (by decide) ?_
          refine aw_sub (lv' := [(0, .ref (G.2.1 k)), (1, .ref (G.2.1 a1)), (2, .ref (G.2.1 a2)), (3, .int a3), (4, .int a4), (5, .int x5), (6, .int x6), (7, .int 0), (8, .int x8_24)]) [2, 3, 4, 5, 6, 7, 8, 1, 0] rfl ?_
          exact ih _ _ _ _ _ H
        · replace H := a_neg c23 H
          refine aw_iload dX7_bar_52 5 rfl ?_
          refine aw_iload dX7_bar_54 6 rfl ?_
          refine aw_aload_n dX7_bar_56 rfl 1 rfl ?_
          refine aw_getR cf_X2 4 (by decide) rfl wd_47 o_a1 dX7_bar_57 ?_
          refine aw_iload dX7_bar_60 8 rfl ?_
          obtain ⟨z25, H⟩ := H
          refine aw_iaload z25 dX7_bar_62 ?_
          refine aw_name (fun v26 e_v26 => ?_)
          replace H := H v26 e_v26
          refine aw_callS_i (As := [.int x5, .int x6, .int v26]) (rest := []) (am_X1_inRow d H) mf_X1_inRow wd_834 wd_835 rfl rfl (Nat.le_of_ble_eq_true rfl) dX7_bar_63 (fun r28 h27 H => ?_)
          refine aw_if_eq (tgt := 73) dX7_bar_66 (by decide) (fun c29 => ?_) (fun c29 => ?_)
          · replace H := a_pos c29 H
            refine aw_iconst (v := 0) dX7_bar_73 (by decide) ?_
            refine aw_istore (lv' := [(7, .int 0), (0, .ref (G.2.1 k)), (1, .ref (G.2.1 a1)), (2, .ref (G.2.1 a2)), (3, .int a3), (4, .int a4), (5, .int x5), (6, .int x6), (8, .int x8)]) dX7_bar_74 (by decide) rfl ?_
            obtain ⟨x8_30, e_x8_30⟩ : ∃ y : Int32, y = x8 + 1 := ⟨_, rfl⟩
            replace H := H x8_30 e_x8_30
            refine aw_iinc (v := x8_30) (lv' := [(8, .int x8_30), (7, .int 0), (0, .ref (G.2.1 k)), (1, .ref (G.2.1 a1)), (2, .ref (G.2.1 a2)), (3, .int a3), (4, .int a4), (5, .int x5), (6, .int x6)]) dX7_bar_76 (n0 := 8) rfl (by rw [e_x8_30]; rfl) (by decide) rfl ?_
            refine aw_goto (tgt := 29) dX7_bar_79 (by decide) ?_
            refine aw_sub (lv' := [(0, .ref (G.2.1 k)), (1, .ref (G.2.1 a1)), (2, .ref (G.2.1 a2)), (3, .int a3), (4, .int a4), (5, .int x5), (6, .int x6), (7, .int 0), (8, .int x8_30)]) [2, 3, 4, 5, 6, 7, 8, 1, 0] rfl ?_
            exact ih _ _ _ _ _ H
          · replace H := a_neg c29 H
            refine aw_iconst (v := 1) dX7_bar_69 (by decide) ?_
            refine aw_goto (tgt := 74) dX7_bar_70 (by decide) ?_
            refine aw_istore (lv' := [(7, .int 1), (0, .ref (G.2.1 k)), (1, .ref (G.2.1 a1)), (2, .ref (G.2.1 a2)), (3, .int a3), (4, .int a4), (5, .int x5), (6, .int x6), (8, .int x8)]) dX7_bar_74 (by decide) rfl ?_
            obtain ⟨x8_31, e_x8_31⟩ : ∃ y : Int32, y = x8 + 1 := ⟨_, rfl⟩
            replace H := H x8_31 e_x8_31
            refine aw_iinc (v := x8_31) (lv' := [(8, .int x8_31), (7, .int 1), (0, .ref (G.2.1 k)), (1, .ref (G.2.1 a1)), (2, .ref (G.2.1 a2)), (3, .int a3), (4, .int a4), (5, .int x5), (6, .int x6)]) dX7_bar_76 (n0 := 8) rfl (by rw [e_x8_31]; rfl) (by decide) rfl ?_
            refine aw_goto (tgt := 29) dX7_bar_79 (by decide) ?_
            refine aw_sub (lv' := [(0, .ref (G.2.1 k)), (1, .ref (G.2.1 a1)), (2, .ref (G.2.1 a2)), (3, .int a3), (4, .int a4), (5, .int x5), (6, .int x6), (7, .int 1), (8, .int x8_31)]) [2, 3, 4, 5, 6, 7, 8, 1, 0] rfl ?_
            exact ih _ _ _ _ _ H
set_option maxHeartbeats 4000000 in
set_option maxRecDepth 100000 in
theorem am_X7_bar {l : Launch} {S : aS} {G : aG} (d : Nat) {k : Nat} {a1 : Nat} {a2 : Nat} {a3 : Int32} {a4 : Int32} {h : aH} {Q : aH → Prop} (o_k : aObj S k 6 flX7) (o_a1 : aObj S a1 1 flX2) (o_a2 : aObj S a2 8 flX9) (H : f_X7_bar S k a1 a2 a3 a4 h Q) : AMv l S G (d + 3) M_X7_bar [.ref (G.2.1 k), .ref (G.2.1 a1), .ref (G.2.1 a2), .int a3, .int a4] h Q := by
  unfold f_X7_bar at H
  refine am_of mf_X7_bar (Nat.le_of_ble_eq_true rfl) (lv0 := [(0, .ref (G.2.1 k)), (1, .ref (G.2.1 a1)), (2, .ref (G.2.1 a2)), (3, .int a3), (4, .int a4)]) rfl ?_
  refine aw_aload_n dX7_bar_0 rfl 2 rfl ?_
  refine aw_getR cf_X9 0 (by decide) rfl wd_139 o_a2 dX7_bar_1 ?_
  refine aw_iload_n dX7_bar_4 rfl 3 rfl ?_
  obtain ⟨z32, H⟩ := H
  refine aw_iaload z32 dX7_bar_5 ?_
  refine aw_name (fun v33 e_v33 => ?_)
  replace H := H v33 e_v33
  refine aw_istore (lv' := [(5, .int v33), (0, .ref (G.2.1 k)), (1, .ref (G.2.1 a1)), (2, .ref (G.2.1 a2)), (3, .int a3), (4, .int a4)]) dX7_bar_6 (by decide) rfl ?_
  refine aw_aload_n dX7_bar_8 rfl 3 rfl ?_
  refine aw_getR cf_X9 0 (by decide) rfl wd_139 o_a2 dX7_bar_9 ?_
  refine aw_iload dX7_bar_12 5 rfl ?_
  obtain ⟨z34, H⟩ := H
  refine aw_iaload z34 dX7_bar_14 ?_
  refine aw_name (fun v35 e_v35 => ?_)
  replace H := H v35 e_v35
  refine aw_istore (lv' := [(6, .int v35), (5, .int v33), (0, .ref (G.2.1 k)), (1, .ref (G.2.1 a1)), (2, .ref (G.2.1 a2)), (3, .int a3), (4, .int a4)]) dX7_bar_15 (by decide) rfl ?_
  refine aw_iload dX7_bar_17 1 rfl ?_
  refine aw_iload dX7_bar_19 0 rfl ?_
  refine aw_callS_i (As := [.int v33, .int v35]) (rest := []) (am_X1_touch (d + 1) H) mf_X1_touch wd_830 wd_831 rfl rfl (Nat.le_of_ble_eq_true rfl) dX7_bar_21 (fun r37 h36 H => ?_)
  refine aw_istore (lv' := [(7, .int r37), (6, .int v35), (5, .int v33), (0, .ref (G.2.1 k)), (1, .ref (G.2.1 a1)), (2, .ref (G.2.1 a2)), (3, .int a3), (4, .int a4)]) dX7_bar_24 (by decide) rfl ?_
  refine aw_iconst (v := 0) dX7_bar_26 (by decide) ?_
  refine aw_istore (lv' := [(8, .int 0), (7, .int r37), (6, .int v35), (5, .int v33), (0, .ref (G.2.1 k)), (1, .ref (G.2.1 a1)), (2, .ref (G.2.1 a2)), (3, .int a3), (4, .int a4)]) dX7_bar_27 (by decide) rfl ?_
  refine aw_sub (lv' := [(0, .ref (G.2.1 k)), (1, .ref (G.2.1 a1)), (2, .ref (G.2.1 a2)), (3, .int a3), (4, .int a4), (5, .int v33), (6, .int v35), (7, .int r37), (8, .int 0)]) [4, 5, 6, 7, 8, 3, 2, 1, 0] rfl ?_
  obtain ⟨n1, H⟩ := H
  exact fm_X7_bar_29 d o_k o_a1 o_a2 n1 _ _ _ _ _ H
set_option maxHeartbeats 4000000 in
set_option maxRecDepth 100000 in
theorem fm_X7_isFine_24 {l : Launch} {S : aS} {G : aG} (d : Nat) {k : Nat} {a1 : Int32} {a2 : Int32} {Q : Int32 → aH → Prop} (o_k : aObj S k 6 flX7) : ∀ (n : Nat) (x3 : Int32) (h : aH), f_X7_isFine_24 S k a1 a2 Q n x3 h → AW l S G d M_X7_isFine (va_Qi Q (aPo S G) (aA S G)) 24 [(0, .ref (G.2.1 k)), (1, .int a1), (2, .int a2), (3, .int x3)] [] h := by
  intro n
  induction n with
  | zero => intro x3 h H; exact False.elim H
  | succ n ih =>
    intro x3 h H
    unfold f_X7_isFine_24 at H
    refine aw_iload_n dX7_isFine_24 rfl 3 rfl ?_
    refine aw_iload_n dX7_isFine_25 rfl 1 rfl ?_
    refine aw_icmp_ge (tgt := 61) dX7_isFine_26 (by decide) (fun c1 => ?_) (fun c1 => ?_)
    · replace H := a_pos c1 H
      refine aw_iconst (v := 1) dX7_isFine_61 (by decide) ?_
      exact aw_zret rfl rfl H dX7_isFine_62
    · replace H := a_neg c1 H
      refine aw_iload_n dX7_isFine_29 rfl 2 rfl ?_
      refine aw_iload_n dX7_isFine_30 rfl 3 rfl ?_
      refine aw_ishr dX7_isFine_31 ?_
      refine aw_iconst (v := 1) dX7_isFine_32 (by decide) ?_
      refine aw_iand dX7_isFine_33 ?_
      refine aw_if_eq (tgt := 55) dX7_isFine_34 (by decide) (fun c2 => ?_) (fun c2 => ?_)
      · replace H := a_pos c2 H
        obtain ⟨x3_3, e_x3_3⟩ : ∃ y : Int32, y = x3 + 1 := ⟨_, rfl⟩
        replace H := H x3_3 e_x3_3
        refine aw_iinc (v := x3_3) (lv' := [(3, .int x3_3), (0, .ref (G.2.1 k)), (1, .int a1), (2, .int a2)]) dX7_isFine_55 (n0 := 3) rfl (by rw [e_x3_3]; rfl) (by decide) rfl ?_
        refine aw_goto (tgt := 24) dX7_isFine_58 (by decide) ?_
        refine aw_sub (lv' := [(0, .ref (G.2.1 k)), (1, .int a1), (2, .int a2), (3, .int x3_3)]) [1, 2, 3, 0] rfl ?_
        exact ih _ _ H
      · replace H := a_neg c2 H
        refine aw_aload_n dX7_isFine_37 rfl 0 rfl ?_
        refine aw_getR cf_X7 2 (by decide) rfl wd_239 o_k dX7_isFine_38 ?_
        refine aw_iload_n dX7_isFine_41 rfl 1 rfl ?_
        refine aw_bipush (v := 10) dX7_isFine_42 (by decide) ?_
        refine aw_imul dX7_isFine_44 ?_
        refine aw_iload_n dX7_isFine_45 rfl 3 rfl ?_
        refine aw_iadd dX7_isFine_46 ?_
        obtain ⟨z4, H⟩ := H
        refine aw_iaload z4 dX7_isFine_47 ?_
        refine aw_name (fun v5 e_v5 => ?_)
        replace H := H v5 e_v5
        refine aw_iload_n dX7_isFine_48 rfl 2 rfl ?_
        refine aw_iand dX7_isFine_49 ?_
        refine aw_if_eq (tgt := 55) dX7_isFine_50 (by decide) (fun c6 => ?_) (fun c6 => ?_)
        · replace H := a_pos c6 H
          obtain ⟨x3_7, e_x3_7⟩ : ∃ y : Int32, y = x3 + 1 := ⟨_, rfl⟩
          replace H := H x3_7 e_x3_7
          refine aw_iinc (v := x3_7) (lv' := [(3, .int x3_7), (0, .ref (G.2.1 k)), (1, .int a1), (2, .int a2)]) dX7_isFine_55 (n0 := 3) rfl (by rw [e_x3_7]; rfl) (by decide) rfl ?_
          refine aw_goto (tgt := 24) dX7_isFine_58 (by decide) ?_
          refine aw_sub (lv' := [(0, .ref (G.2.1 k)), (1, .int a1), (2, .int a2), (3, .int x3_7)]) [1, 2, 3, 0] rfl ?_
          exact ih _ _ H
        · replace H := a_neg c6 H
          refine aw_iconst (v := 0) dX7_isFine_53 (by decide) ?_
          exact aw_zret rfl rfl H dX7_isFine_54
set_option maxHeartbeats 4000000 in
set_option maxRecDepth 100000 in
theorem am_X7_isFine {l : Launch} {S : aS} {G : aG} (d : Nat) {k : Nat} {a1 : Int32} {a2 : Int32} {h : aH} {Q : Int32 → aH → Prop} (o_k : aObj S k 6 flX7) (H : f_X7_isFine S k a1 a2 h Q) : AMi l S G d M_X7_isFine [.ref (G.2.1 k), .int a1, .int a2] h Q := by
  unfold f_X7_isFine at H
  refine am_of mf_X7_isFine (Nat.le_of_ble_eq_true rfl) (lv0 := [(0, .ref (G.2.1 k)), (1, .int a1), (2, .int a2)]) rfl ?_
  refine aw_aload_n dX7_isFine_0 rfl 0 rfl ?_
  refine aw_getR cf_X7 1 (by decide) rfl wd_238 o_k dX7_isFine_1 ?_
  refine aw_iload_n dX7_isFine_4 rfl 1 rfl ?_
  obtain ⟨z8, H⟩ := H
  refine aw_zaload z8 dX7_isFine_5 ?_
  refine aw_name (fun v9 e_v9 => ?_)
  replace H := H v9 e_v9
  refine aw_if_eq (tgt := 20) dX7_isFine_6 (by decide) (fun c10 => ?_) (fun c10 => ?_)
  · replace H := a_pos c10 H
    refine aw_iconst (v := 0) dX7_isFine_20 (by decide) ?_
    exact aw_zret rfl rfl H dX7_isFine_21
  · replace H := a_neg c10 H
    refine aw_aload_n dX7_isFine_9 rfl 0 rfl ?_
    refine aw_getR cf_X7 3 (by decide) rfl wd_240 o_k dX7_isFine_10 ?_
    refine aw_iload_n dX7_isFine_13 rfl 1 rfl ?_
    obtain ⟨z11, H⟩ := H
    refine aw_iaload z11 dX7_isFine_14 ?_
    refine aw_name (fun v12 e_v12 => ?_)
    replace H := H v12 e_v12
    refine aw_iload_n dX7_isFine_15 rfl 2 rfl ?_
    refine aw_iand dX7_isFine_16 ?_
    refine aw_if_eq (tgt := 22) dX7_isFine_17 (by decide) (fun c13 => ?_) (fun c13 => ?_)
    · replace H := a_pos c13 H
      refine aw_iconst (v := 0) dX7_isFine_22 (by decide) ?_
      refine aw_istore_n (lv' := [(3, .int 0), (0, .ref (G.2.1 k)), (1, .int a1), (2, .int a2)]) dX7_isFine_23 rfl (by decide) rfl ?_
      refine aw_sub (lv' := [(0, .ref (G.2.1 k)), (1, .int a1), (2, .int a2), (3, .int 0)]) [1, 2, 3, 0] rfl ?_
      obtain ⟨n1, H⟩ := H
      exact fm_X7_isFine_24 d o_k n1 _ _ H
    · replace H := a_neg c13 H
      refine aw_iconst (v := 0) dX7_isFine_20 (by decide) ?_
      exact aw_zret rfl rfl H dX7_isFine_21
set_option maxHeartbeats 4000000 in
set_option maxRecDepth 100000 in
theorem am_J6_bitCount_0f7a4 {l : Launch} {S : aS} {G : aG} (d : Nat) {a0 : Int32} {h : aH} {Q : Int32 → aH → Prop} (H : f_J6_bitCount_0f7a4 S a0 h Q) : AMi l S G d M_J6_bitCount_0f7a4 [.int a0] h Q := by
  unfold f_J6_bitCount_0f7a4 at H
  refine am_of mf_J6_bitCount_0f7a4 (Nat.le_of_ble_eq_true rfl) (lv0 := [(0, .int a0)]) rfl ?_
  refine aw_iload_n dJ6_bitCount_0f7a4_0 rfl 0 rfl ?_
  refine aw_iload_n dJ6_bitCount_0f7a4_1 rfl 0 rfl ?_
  refine aw_iconst (v := 1) dJ6_bitCount_0f7a4_2 (by decide) ?_
  refine aw_iushr dJ6_bitCount_0f7a4_3 ?_
  refine aw_ldcw (v := 1431655765) dJ6_bitCount_0f7a4_4 wd_851 ?_
  refine aw_iand dJ6_bitCount_0f7a4_7 ?_
  refine aw_isub dJ6_bitCount_0f7a4_8 ?_
  refine aw_name (fun x0_1 e_x0_1 => ?_)
  replace H := H x0_1 e_x0_1
  refine aw_istore_n (lv' := [(0, .int x0_1)]) dJ6_bitCount_0f7a4_9 rfl (by decide) rfl ?_
  refine aw_iload_n dJ6_bitCount_0f7a4_10 rfl 0 rfl ?_
  refine aw_ldcw (v := 858993459) dJ6_bitCount_0f7a4_11 wd_852 ?_
  refine aw_iand dJ6_bitCount_0f7a4_14 ?_
  refine aw_iload_n dJ6_bitCount_0f7a4_15 rfl 0 rfl ?_
  refine aw_iconst (v := 2) dJ6_bitCount_0f7a4_16 (by decide) ?_
  refine aw_iushr dJ6_bitCount_0f7a4_17 ?_
  refine aw_ldcw (v := 858993459) dJ6_bitCount_0f7a4_18 wd_852 ?_
  refine aw_iand dJ6_bitCount_0f7a4_21 ?_
  refine aw_iadd dJ6_bitCount_0f7a4_22 ?_
  refine aw_name (fun x0_2 e_x0_2 => ?_)
  replace H := H x0_2 e_x0_2
  refine aw_istore_n (lv' := [(0, .int x0_2)]) dJ6_bitCount_0f7a4_23 rfl (by decide) rfl ?_
  refine aw_iload_n dJ6_bitCount_0f7a4_24 rfl 0 rfl ?_
  refine aw_iload_n dJ6_bitCount_0f7a4_25 rfl 0 rfl ?_
  refine aw_iconst (v := 4) dJ6_bitCount_0f7a4_26 (by decide) ?_
  refine aw_iushr dJ6_bitCount_0f7a4_27 ?_
  refine aw_iadd dJ6_bitCount_0f7a4_28 ?_
  refine aw_ldcw (v := 252645135) dJ6_bitCount_0f7a4_29 wd_853 ?_
  refine aw_iand dJ6_bitCount_0f7a4_32 ?_
  refine aw_name (fun x0_3 e_x0_3 => ?_)
  replace H := H x0_3 e_x0_3
  refine aw_istore_n (lv' := [(0, .int x0_3)]) dJ6_bitCount_0f7a4_33 rfl (by decide) rfl ?_
  refine aw_iload_n dJ6_bitCount_0f7a4_34 rfl 0 rfl ?_
  refine aw_iload_n dJ6_bitCount_0f7a4_35 rfl 0 rfl ?_
  refine aw_bipush (v := 8) dJ6_bitCount_0f7a4_36 (by decide) ?_
  refine aw_iushr dJ6_bitCount_0f7a4_38 ?_
  refine aw_iadd dJ6_bitCount_0f7a4_39 ?_
  refine aw_name (fun x0_4 e_x0_4 => ?_)
  replace H := H x0_4 e_x0_4
  refine aw_istore_n (lv' := [(0, .int x0_4)]) dJ6_bitCount_0f7a4_40 rfl (by decide) rfl ?_
  refine aw_iload_n dJ6_bitCount_0f7a4_41 rfl 0 rfl ?_
  refine aw_iload_n dJ6_bitCount_0f7a4_42 rfl 0 rfl ?_
  refine aw_bipush (v := 16) dJ6_bitCount_0f7a4_43 (by decide) ?_
  refine aw_iushr dJ6_bitCount_0f7a4_45 ?_
  refine aw_iadd dJ6_bitCount_0f7a4_46 ?_
  refine aw_name (fun x0_5 e_x0_5 => ?_)
  replace H := H x0_5 e_x0_5
  refine aw_istore_n (lv' := [(0, .int x0_5)]) dJ6_bitCount_0f7a4_47 rfl (by decide) rfl ?_
  refine aw_iload_n dJ6_bitCount_0f7a4_48 rfl 0 rfl ?_
  refine aw_bipush (v := 63) dJ6_bitCount_0f7a4_49 (by decide) ?_
  refine aw_iand dJ6_bitCount_0f7a4_51 ?_
  exact aw_iret rfl H dJ6_bitCount_0f7a4_52
set_option maxHeartbeats 4000000 in
set_option maxRecDepth 100000 in
theorem am_X7_isBetter {l : Launch} {S : aS} {G : aG} (d : Nat) {k : Nat} {a1 : Int32} {a2 : Int32} {h : aH} {Q : Int32 → aH → Prop} (o_k : aObj S k 6 flX7) (H : f_X7_isBetter S k a1 a2 h Q) : AMi l S G (d + 1) M_X7_isBetter [.ref (G.2.1 k), .int a1, .int a2] h Q := by
  unfold f_X7_isBetter at H
  refine am_of mf_X7_isBetter (Nat.le_of_ble_eq_true rfl) (lv0 := [(0, .ref (G.2.1 k)), (1, .int a1), (2, .int a2)]) rfl ?_
  refine aw_aload_n dX7_isBetter_0 rfl 0 rfl ?_
  refine aw_getR cf_X7 0 (by decide) rfl wd_237 o_k dX7_isBetter_1 ?_
  refine aw_iload_n dX7_isBetter_4 rfl 1 rfl ?_
  obtain ⟨z1, H⟩ := H
  refine aw_iaload z1 dX7_isBetter_5 ?_
  refine aw_name (fun v2 e_v2 => ?_)
  replace H := H v2 e_v2
  refine aw_aload_n dX7_isBetter_6 rfl 0 rfl ?_
  refine aw_getR cf_X7 0 (by decide) rfl wd_237 o_k dX7_isBetter_7 ?_
  refine aw_iload_n dX7_isBetter_10 rfl 2 rfl ?_
  obtain ⟨z3, H⟩ := H
  refine aw_iaload z3 dX7_isBetter_11 ?_
  refine aw_name (fun v4 e_v4 => ?_)
  replace H := H v4 e_v4
  refine aw_icmp_gt (tgt := 41) dX7_isBetter_12 (by decide) (fun c5 => ?_) (fun c5 => ?_)
  · replace H := a_pos c5 H
    refine aw_iconst (v := 1) dX7_isBetter_41 (by decide) ?_
    refine aw_goto (tgt := 46) dX7_isBetter_42 (by decide) ?_
    exact aw_zret rfl rfl H dX7_isBetter_46
  · replace H := a_neg c5 H
    refine aw_aload_n dX7_isBetter_15 rfl 0 rfl ?_
    refine aw_getR cf_X7 0 (by decide) rfl wd_237 o_k dX7_isBetter_16 ?_
    refine aw_iload_n dX7_isBetter_19 rfl 1 rfl ?_
    obtain ⟨z6, H⟩ := H
    refine aw_iaload z6 dX7_isBetter_20 ?_
    refine aw_name (fun v7 e_v7 => ?_)
    replace H := H v7 e_v7
    refine aw_aload_n dX7_isBetter_21 rfl 0 rfl ?_
    refine aw_getR cf_X7 0 (by decide) rfl wd_237 o_k dX7_isBetter_22 ?_
    refine aw_iload_n dX7_isBetter_25 rfl 2 rfl ?_
    obtain ⟨z8, H⟩ := H
    refine aw_iaload z8 dX7_isBetter_26 ?_
    refine aw_name (fun v9 e_v9 => ?_)
    replace H := H v9 e_v9
    refine aw_icmp_ne (tgt := 45) dX7_isBetter_27 (by decide) (fun c10 => ?_) (fun c10 => ?_)
    · replace H := a_pos c10 H
      refine aw_iconst (v := 0) dX7_isBetter_45 (by decide) ?_
      exact aw_zret rfl rfl H dX7_isBetter_46
    · replace H := a_neg2 c10 H
      refine aw_iload_n dX7_isBetter_30 rfl 1 rfl ?_
      refine aw_callS_i (As := [.int a1]) (rest := []) (am_J6_bitCount_0f7a4 d H) mf_J6_bitCount_0f7a4 wd_848 wd_849 rfl rfl (Nat.le_of_ble_eq_true rfl) dX7_isBetter_31 (fun r12 h11 H => ?_)
      refine aw_iload_n dX7_isBetter_34 rfl 2 rfl ?_
      refine aw_callS_i (As := [.int a2]) (rest := [.int r12]) (am_J6_bitCount_0f7a4 d H) mf_J6_bitCount_0f7a4 wd_848 wd_849 rfl rfl (Nat.le_of_ble_eq_true rfl) dX7_isBetter_35 (fun r14 h13 H => ?_)
      refine aw_icmp_ge (tgt := 45) dX7_isBetter_38 (by decide) (fun c15 => ?_) (fun c15 => ?_)
      · replace H := a_pos c15 H
        refine aw_iconst (v := 0) dX7_isBetter_45 (by decide) ?_
        exact aw_zret rfl rfl H dX7_isBetter_46
      · replace H := a_neg c15 H
        refine aw_iconst (v := 1) dX7_isBetter_41 (by decide) ?_
        refine aw_goto (tgt := 46) dX7_isBetter_42 (by decide) ?_
        exact aw_zret rfl rfl H dX7_isBetter_46
set_option maxHeartbeats 4000000 in
set_option maxRecDepth 100000 in
theorem fm_X7_best_91 {l : Launch} {S : aS} {G : aG} (d : Nat) {k : Nat} {a1 : Nat} {a2 : Nat} {a3 : Nat} {Q : Int32 → aH → Prop} (o_k : aObj S k 6 flX7) (o_a1 : aObj S a1 1 flX2) (o_a2 : aObj S a2 4 flX5) (o_a3 : aObj S a3 8 flX9) {K14 : Int32 → Int32 → aH → Prop} (hK14 : ∀ (x4 : Int32) (x5 : Int32) (h : aH), K14 x4 x5 h → AW l S G (d + 4) M_X7_best (va_Qi Q (aPo S G) (aA S G)) 14 [(0, .ref (G.2.1 k)), (1, .ref (G.2.1 a1)), (2, .ref (G.2.1 a2)), (3, .ref (G.2.1 a3)), (4, .int x4), (5, .int x5)] [] h) : ∀ (n : Nat) (x4 : Int32) (x5 : Int32) (x7 : Int32) (h : aH), f_X7_best_91 S k a1 a2 a3 Q K14 n x4 x5 x7 h → AW l S G (d + 4) M_X7_best (va_Qi Q (aPo S G) (aA S G)) 91 [(0, .ref (G.2.1 k)), (1, .ref (G.2.1 a1)), (2, .ref (G.2.1 a2)), (3, .ref (G.2.1 a3)), (4, .int x4), (5, .int x5), (7, .int x7)] [] h := by
  intro n
  induction n with
  | zero => intro x4 x5 x7 h H; exact False.elim H
  | succ n ih =>
    intro x4 x5 x7 h H
    unfold f_X7_best_91 at H
    refine aw_iload dX7_best_91 6 rfl ?_
    refine aw_iload dX7_best_93 5 rfl ?_
    refine aw_icmp_ge (tgt := 114) dX7_best_95 (by decide) (fun c1 => ?_) (fun c1 => ?_)
    · replace H := a_pos c1 H
      obtain ⟨x5_2, e_x5_2⟩ : ∃ y : Int32, y = x5 + 1 := ⟨_, rfl⟩
      replace H := H x5_2 e_x5_2
      refine aw_iinc (v := x5_2) (lv' := [(5, .int x5_2), (0, .ref (G.2.1 k)), (1, .ref (G.2.1 a1)), (2, .ref (G.2.1 a2)), (3, .ref (G.2.1 a3)), (4, .int x4), (7, .int x7)]) dX7_best_114 (n0 := 5) rfl (by rw [e_x5_2]; rfl) (by decide) rfl ?_
      refine aw_goto (tgt := 14) dX7_best_117 (by decide) ?_
      refine aw_sub (lv' := [(0, .ref (G.2.1 k)), (1, .ref (G.2.1 a1)), (2, .ref (G.2.1 a2)), (3, .ref (G.2.1 a3)), (4, .int x4), (5, .int x5_2)]) [1, 2, 3, 4, 5, 0] rfl ?_
      exact hK14 _ _ _ H
    · replace H := a_neg c1 H
      refine aw_aload_n dX7_best_98 rfl 0 rfl ?_
      refine aw_aload_n dX7_best_99 rfl 1 rfl ?_
      refine aw_aload_n dX7_best_100 rfl 3 rfl ?_
      refine aw_iload dX7_best_101 5 rfl ?_
      refine aw_iload dX7_best_103 6 rfl ?_
      refine aw_callV_v (As := [.ref (G.2.1 a1), .ref (G.2.1 a3), .int x5, .int x7]) (rest := []) (am_X7_bar d o_k o_a1 o_a3 H) mf_X7_bar wd_826 wd_828 ws_2_5 cf_X7 o_k rfl rfl (Nat.le_of_ble_eq_true rfl) dX7_best_105 (fun h3 H => ?_)
      obtain ⟨x7_4, e_x7_4⟩ : ∃ y : Int32, y = x7 + 1 := ⟨_, rfl⟩
      replace H := H x7_4 e_x7_4
      refine aw_iinc (v := x7_4) (lv' := [(7, .int x7_4), (0, .ref (G.2.1 k)), (1, .ref (G.2.1 a1)), (2, .ref (G.2.1 a2)), (3, .ref (G.2.1 a3)), (4, .int x4), (5, .int x5)]) dX7_best_108 (n0 := 6) rfl (by rw [e_x7_4]; rfl) (by decide) rfl ?_
      refine aw_goto (tgt := 91) dX7_best_111 (by decide) ?_
      refine aw_sub (lv' := [(0, .ref (G.2.1 k)), (1, .ref (G.2.1 a1)), (2, .ref (G.2.1 a2)), (3, .ref (G.2.1 a3)), (4, .int x4), (5, .int x5), (7, .int x7_4)]) [1, 2, 3, 4, 5, 6, 0] rfl ?_
      exact ih _ _ _ _ H
set_option maxHeartbeats 4000000 in
set_option maxRecDepth 100000 in
theorem fm_X7_best_188 {l : Launch} {S : aS} {G : aG} (d : Nat) {k : Nat} {a1 : Nat} {a2 : Nat} {a3 : Nat} {Q : Int32 → aH → Prop} (o_k : aObj S k 6 flX7) (o_a1 : aObj S a1 1 flX2) (o_a2 : aObj S a2 4 flX5) (o_a3 : aObj S a3 8 flX9) {K143 : Int32 → Int32 → Int32 → Int32 → aH → Prop} (hK143 : ∀ (x4 : Int32) (x5 : Int32) (x6 : Int32) (x7 : Int32) (h : aH), K143 x4 x5 x6 x7 h → AW l S G (d + 4) M_X7_best (va_Qi Q (aPo S G) (aA S G)) 143 [(0, .ref (G.2.1 k)), (1, .ref (G.2.1 a1)), (2, .ref (G.2.1 a2)), (3, .ref (G.2.1 a3)), (4, .int x4), (5, .int x5), (6, .int x6), (7, .int x7)] [] h) (x4 : Int32) (x5 : Int32) (x6 : Int32) (x7 : Int32) (x8 : Int32) (s0 : Int32) (h : aH) (H : f_X7_best_188 S k a1 a2 a3 Q K143 x4 x5 x6 x7 x8 s0 h) : AW l S G (d + 4) M_X7_best (va_Qi Q (aPo S G) (aA S G)) 188 [(0, .ref (G.2.1 k)), (1, .ref (G.2.1 a1)), (2, .ref (G.2.1 a2)), (3, .ref (G.2.1 a3)), (4, .int x4), (5, .int x5), (6, .int x6), (7, .int x7), (8, .int x8)] [.int s0] h := by
  unfold f_X7_best_188 at H
  refine aw_istore (lv' := [(9, .int s0), (0, .ref (G.2.1 k)), (1, .ref (G.2.1 a1)), (2, .ref (G.2.1 a2)), (3, .ref (G.2.1 a3)), (4, .int x4), (5, .int x5), (6, .int x6), (7, .int x7), (8, .int x8)]) dX7_best_188 (by decide) rfl ?_
  refine aw_aload_n dX7_best_190 rfl 1 rfl ?_
  refine aw_getR cf_X7 0 (by decide) rfl wd_237 o_k dX7_best_191 ?_
  refine aw_iload dX7_best_194 9 rfl ?_
  refine aw_iload dX7_best_196 0 rfl ?_
  refine aw_if_eq (tgt := 219) dX7_best_198 (by decide) (fun c5 => ?_) (fun c5 => ?_)
  · replace H := a_pos c5 H
    refine aw_iconst (v := (-1)) dX7_best_219 (by decide) ?_
    obtain ⟨z6, H⟩ := H
    refine aw_iastore z6 dX7_best_220 ?_
    refine aw_nameH (fun h7 e_h7 => ?_)
    replace H := H h7 e_h7
    refine aw_aload_n dX7_best_221 rfl 1 rfl ?_
    refine aw_iload dX7_best_222 9 rfl ?_
    refine aw_iload dX7_best_224 6 rfl ?_
    refine aw_callV_i (As := [.int x8, .int x5]) (rest := []) (am_X7_isBetter (d + 2) o_k H) mf_X7_isBetter wd_844 wd_846 ws_2_7 cf_X7 o_k rfl rfl (Nat.le_of_ble_eq_true rfl) dX7_best_226 (fun r9 h8 H => ?_)
    refine aw_if_eq (tgt := 237) dX7_best_229 (by decide) (fun c10 => ?_) (fun c10 => ?_)
    · replace H := a_pos c10 H
      refine aw_iload dX7_best_237 6 rfl ?_
      refine aw_istore (lv' := [(5, .int x5), (9, .int s0), (0, .ref (G.2.1 k)), (1, .ref (G.2.1 a1)), (2, .ref (G.2.1 a2)), (3, .ref (G.2.1 a3)), (4, .int x4), (6, .int x6), (7, .int x7), (8, .int x8)]) dX7_best_239 (by decide) rfl ?_
      obtain ⟨x7_11, e_x7_11⟩ : ∃ y : Int32, y = x7 + 1 := ⟨_, rfl⟩
      replace H := H x7_11 e_x7_11
      refine aw_iinc (v := x7_11) (lv' := [(7, .int x7_11), (5, .int x5), (9, .int s0), (0, .ref (G.2.1 k)), (1, .ref (G.2.1 a1)), (2, .ref (G.2.1 a2)), (3, .ref (G.2.1 a3)), (4, .int x4), (6, .int x6), (8, .int x8)]) dX7_best_241 (n0 := 8) rfl (by rw [e_x7_11]; rfl) (by decide) rfl ?_
      refine aw_goto (tgt := 143) dX7_best_244 (by decide) ?_
      refine aw_sub (lv' := [(0, .ref (G.2.1 k)), (1, .ref (G.2.1 a1)), (2, .ref (G.2.1 a2)), (3, .ref (G.2.1 a3)), (4, .int x4), (5, .int x5), (6, .int x6), (7, .int x7_11)]) [3, 4, 5, 6, 7, 1, 8, 0] rfl ?_
      exact hK143 _ _ _ _ _ H
    · replace H := a_neg c10 H
      refine aw_iload dX7_best_232 9 rfl ?_
      refine aw_goto (tgt := 239) dX7_best_234 (by decide) ?_
      refine aw_istore (lv' := [(5, .int x8), (9, .int s0), (0, .ref (G.2.1 k)), (1, .ref (G.2.1 a1)), (2, .ref (G.2.1 a2)), (3, .ref (G.2.1 a3)), (4, .int x4), (6, .int x6), (7, .int x7), (8, .int x8)]) dX7_best_239 (by decide) rfl ?_
      obtain ⟨x7_12, e_x7_12⟩ : ∃ y : Int32, y = x7 + 1 := ⟨_, rfl⟩
      replace H := H x7_12 e_x7_12
      refine aw_iinc (v := x7_12) (lv' := [(7, .int x7_12), (5, .int x8), (9, .int s0), (0, .ref (G.2.1 k)), (1, .ref (G.2.1 a1)), (2, .ref (G.2.1 a2)), (3, .ref (G.2.1 a3)), (4, .int x4), (6, .int x6), (8, .int x8)]) dX7_best_241 (n0 := 8) rfl (by rw [e_x7_12]; rfl) (by decide) rfl ?_
      refine aw_goto (tgt := 143) dX7_best_244 (by decide) ?_
      refine aw_sub (lv' := [(0, .ref (G.2.1 k)), (1, .ref (G.2.1 a1)), (2, .ref (G.2.1 a2)), (3, .ref (G.2.1 a3)), (4, .int x4), (5, .int x8), (6, .int x6), (7, .int x7_12)]) [3, 4, 5, 6, 7, 1, 8, 0] rfl ?_
      exact hK143 _ _ _ _ _ H
  · replace H := a_neg c5 H
    refine aw_aload_n dX7_best_201 rfl 1 rfl ?_
    refine aw_getR cf_X7 0 (by decide) rfl wd_237 o_k dX7_best_202 ?_
    refine aw_iload dX7_best_205 8 rfl ?_
    obtain ⟨z13, H⟩ := H
    refine aw_iaload z13 dX7_best_207 ?_
    refine aw_name (fun v14 e_v14 => ?_)
    replace H := H v14 e_v14
    refine aw_aload_n dX7_best_208 rfl 4 rfl ?_
    refine aw_getR cf_X9 1 (by decide) rfl wd_142 o_a3 dX7_best_209 ?_
    refine aw_iload dX7_best_212 7 rfl ?_
    obtain ⟨z15, H⟩ := H
    refine aw_iaload z15 dX7_best_214 ?_
    refine aw_name (fun v16 e_v16 => ?_)
    replace H := H v16 e_v16
    refine aw_iadd dX7_best_215 ?_
    refine aw_goto (tgt := 220) dX7_best_216 (by decide) ?_
    obtain ⟨z17, H⟩ := H
    refine aw_iastore z17 dX7_best_220 ?_
    refine aw_nameH (fun h18 e_h18 => ?_)
    replace H := H h18 e_h18
    refine aw_aload_n dX7_best_221 rfl 1 rfl ?_
    refine aw_iload dX7_best_222 9 rfl ?_
    refine aw_iload dX7_best_224 6 rfl ?_
    refine aw_callV_i (As := [.int x8, .int x5]) (rest := []) (am_X7_isBetter (d + 2) o_k H) mf_X7_isBetter wd_844 wd_846 ws_2_7 cf_X7 o_k rfl rfl (Nat.le_of_ble_eq_true rfl) dX7_best_226 (fun r20 h19 H => ?_)
    refine aw_if_eq (tgt := 237) dX7_best_229 (by decide) (fun c21 => ?_) (fun c21 => ?_)
    · replace H := a_pos c21 H
      refine aw_iload dX7_best_237 6 rfl ?_
      refine aw_istore (lv' := [(5, .int x5), (9, .int s0), (0, .ref (G.2.1 k)), (1, .ref (G.2.1 a1)), (2, .ref (G.2.1 a2)), (3, .ref (G.2.1 a3)), (4, .int x4), (6, .int x6), (7, .int x7), (8, .int x8)]) dX7_best_239 (by decide) rfl ?_
      obtain ⟨x7_22, e_x7_22⟩ : ∃ y : Int32, y = x7 + 1 := ⟨_, rfl⟩
      replace H := H x7_22 e_x7_22
      refine aw_iinc (v := x7_22) (lv' := [(7, .int x7_22), (5, .int x5), (9, .int s0), (0, .ref (G.2.1 k)), (1, .ref (G.2.1 a1)), (2, .ref (G.2.1 a2)), (3, .ref (G.2.1 a3)), (4, .int x4), (6, .int x6), (8, .int x8)]) dX7_best_241 (n0 := 8) rfl (by rw [e_x7_22]; rfl) (by decide) rfl ?_
      refine aw_goto (tgt := 143) dX7_best_244 (by decide) ?_
      refine aw_sub (lv' := [(0, .ref (G.2.1 k)), (1, .ref (G.2.1 a1)), (2, .ref (G.2.1 a2)), (3, .ref (G.2.1 a3)), (4, .int x4), (5, .int x5), (6, .int x6), (7, .int x7_22)]) [3, 4, 5, 6, 7, 1, 8, 0] rfl ?_
      exact hK143 _ _ _ _ _ H
    · replace H := a_neg c21 H
      refine aw_iload dX7_best_232 9 rfl ?_
      refine aw_goto (tgt := 239) dX7_best_234 (by decide) ?_
      refine aw_istore (lv' := [(5, .int x8), (9, .int s0), (0, .ref (G.2.1 k)), (1, .ref (G.2.1 a1)), (2, .ref (G.2.1 a2)), (3, .ref (G.2.1 a3)), (4, .int x4), (6, .int x6), (7, .int x7), (8, .int x8)]) dX7_best_239 (by decide) rfl ?_
      obtain ⟨x7_23, e_x7_23⟩ : ∃ y : Int32, y = x7 + 1 := ⟨_, rfl⟩
      replace H := H x7_23 e_x7_23
      refine aw_iinc (v := x7_23) (lv' := [(7, .int x7_23), (5, .int x8), (9, .int s0), (0, .ref (G.2.1 k)), (1, .ref (G.2.1 a1)), (2, .ref (G.2.1 a2)), (3, .ref (G.2.1 a3)), (4, .int x4), (6, .int x6), (8, .int x8)]) dX7_best_241 (n0 := 8) rfl (by rw [e_x7_23]; rfl) (by decide) rfl ?_
      refine aw_goto (tgt := 143) dX7_best_244 (by decide) ?_
      refine aw_sub (lv' := [(0, .ref (G.2.1 k)), (1, .ref (G.2.1 a1)), (2, .ref (G.2.1 a2)), (3, .ref (G.2.1 a3)), (4, .int x4), (5, .int x8), (6, .int x6), (7, .int x7_23)]) [3, 4, 5, 6, 7, 1, 8, 0] rfl ?_
      exact hK143 _ _ _ _ _ H
set_option maxHeartbeats 4000000 in
set_option maxRecDepth 100000 in
theorem fm_X7_best_143 {l : Launch} {S : aS} {G : aG} (d : Nat) {k : Nat} {a1 : Nat} {a2 : Nat} {a3 : Nat} {Q : Int32 → aH → Prop} (o_k : aObj S k 6 flX7) (o_a1 : aObj S a1 1 flX2) (o_a2 : aObj S a2 4 flX5) (o_a3 : aObj S a3 8 flX9) {K133 : Int32 → Int32 → Int32 → aH → Prop} (hK133 : ∀ (x4 : Int32) (x5 : Int32) (x6 : Int32) (h : aH), K133 x4 x5 x6 h → AW l S G (d + 4) M_X7_best (va_Qi Q (aPo S G) (aA S G)) 133 [(0, .ref (G.2.1 k)), (1, .ref (G.2.1 a1)), (2, .ref (G.2.1 a2)), (3, .ref (G.2.1 a3)), (4, .int x4), (5, .int x5), (6, .int x6)] [] h) : ∀ (n : Nat) (x4 : Int32) (x5 : Int32) (x6 : Int32) (x7 : Int32) (h : aH), f_X7_best_143 S k a1 a2 a3 Q K133 n x4 x5 x6 x7 h → AW l S G (d + 4) M_X7_best (va_Qi Q (aPo S G) (aA S G)) 143 [(0, .ref (G.2.1 k)), (1, .ref (G.2.1 a1)), (2, .ref (G.2.1 a2)), (3, .ref (G.2.1 a3)), (4, .int x4), (5, .int x5), (6, .int x6), (7, .int x7)] [] h := by
  intro n
  induction n with
  | zero => intro x4 x5 x6 x7 h H; exact False.elim H
  | succ n ih =>
    intro x4 x5 x6 x7 h H
    unfold f_X7_best_143 at H
    refine aw_iload dX7_best_143 7 rfl ?_
    refine aw_iconst (v := 1) dX7_best_145 (by decide) ?_
    refine aw_iload dX7_best_146 6 rfl ?_
    refine aw_ishl dX7_best_148 ?_
    refine aw_icmp_ge (tgt := 247) dX7_best_149 (by decide) (fun c24 => ?_) (fun c24 => ?_)
    · replace H := a_pos c24 H
      obtain ⟨x6_25, e_x6_25⟩ : ∃ y : Int32, y = x6 + 1 := ⟨_, rfl⟩
      replace H := H x6_25 e_x6_25
      refine aw_iinc (v := x6_25) (lv' := [(6, .int x6_25), (0, .ref (G.2.1 k)), (1, .ref (G.2.1 a1)), (2, .ref (G.2.1 a2)), (3, .ref (G.2.1 a3)), (4, .int x4), (5, .int x5), (7, .int x7)]) dX7_best_247 (n0 := 6) rfl (by rw [e_x6_25]; rfl) (by decide) rfl ?_
      refine aw_goto (tgt := 133) dX7_best_250 (by decide) ?_
      refine aw_sub (lv' := [(0, .ref (G.2.1 k)), (1, .ref (G.2.1 a1)), (2, .ref (G.2.1 a2)), (3, .ref (G.2.1 a3)), (4, .int x4), (5, .int x5), (6, .int x6_25)]) [1, 2, 3, 4, 5, 6, 0] rfl ?_
      exact hK133 _ _ _ _ H
    · replace H := a_neg c24 H
      refine aw_iload dX7_best_152 7 rfl ?_
      refine aw_iconst (v := 1) dX7_best_154 (by decide) ?_
      refine aw_iload dX7_best_155 6 rfl ?_
      refine aw_ishl dX7_best_157 ?_
      refine aw_ior dX7_best_158 ?_
      refine aw_name (fun x8_26 e_x8_26 => ?_)
      replace H := H x8_26 e_x8_26
      refine aw_istore (lv' := [(8, .int x8_26), (0, .ref (G.2.1 k)), (1, .ref (G.2.1 a1)), (2, .ref (G.2.1 a2)), (3, .ref (G.2.1 a3)), (4, .int x4), (5, .int x5), (6, .int x6), (7, .int x7)]) dX7_best_159 (by decide) rfl ?_
      refine aw_aload_n dX7_best_161 rfl 1 rfl ?_
      refine aw_getR cf_X7 0 (by decide) rfl wd_237 o_k dX7_best_162 ?_
      refine aw_iload dX7_best_165 8 rfl ?_
      obtain ⟨z27, H⟩ := H
      refine aw_iaload z27 dX7_best_167 ?_
      refine aw_name (fun v28 e_v28 => ?_)
      replace H := H v28 e_v28
      refine aw_iconst (v := (-1)) dX7_best_168 (by decide) ?_
      refine aw_icmp_eq (tgt := 187) dX7_best_169 (by decide) (fun c29 => ?_) (fun c29 => ?_)
      · replace H := a_pos c29 H
        refine aw_iconst (v := 0) dX7_best_187 (by decide) ?_
        refine aw_sub (lv' := [(0, .ref (G.2.1 k)), (1, .ref (G.2.1 a1)), (2, .ref (G.2.1 a2)), (3, .ref (G.2.1 a3)), (4, .int x4), (5, .int x5), (6, .int x6), (7, .int x7), (8, .int x8_26)]) [1, 2, 3, 4, 5, 6, 7, 8, 0] rfl ?_
        exact fm_X7_best_188 d o_k o_a1 o_a2 o_a3 ih _ _ _ _ _ _ _ H
      · replace H := a_neg c29 H
        refine aw_aload_n dX7_best_172 rfl 1 rfl ?_
        refine aw_iload dX7_best_173 7 rfl ?_
        refine aw_iload dX7_best_175 8 rfl ?_
        refine aw_callV_i (As := [.int x6, .int x7]) (rest := []) (am_X7_isFine (d + 3) o_k H) mf_X7_isFine wd_840 wd_842 ws_2_6 cf_X7 o_k rfl rfl (Nat.le_of_ble_eq_true rfl) dX7_best_177 (fun r31 h30 H => ?_)
        refine aw_if_eq (tgt := 187) dX7_best_180 (by decide) (fun c32 => ?_) (fun c32 => ?_)
        · replace H := a_pos c32 H
          refine aw_iconst (v := 0) dX7_best_187 (by decide) ?_
          refine aw_sub (lv' := [(0, .ref (G.2.1 k)), (1, .ref (G.2.1 a1)), (2, .ref (G.2.1 a2)), (3, .ref (G.2.1 a3)), (4, .int x4), (5, .int x5), (6, .int x6), (7, .int x7), (8, .int x8_26)]) [1, 2, 3, 4, 5, 6, 7, 8, 0] rfl ?_
          exact fm_X7_best_188 d o_k o_a1 o_a2 o_a3 ih _ _ _ _ _ _ _ H
        · replace H := a_neg c32 H
          refine aw_iconst (v := 1) dX7_best_183 (by decide) ?_
          refine aw_goto (tgt := 188) dX7_best_184 (by decide) ?_
          refine aw_sub (lv' := [(0, .ref (G.2.1 k)), (1, .ref (G.2.1 a1)), (2, .ref (G.2.1 a2)), (3, .ref (G.2.1 a3)), (4, .int x4), (5, .int x5), (6, .int x6), (7, .int x7), (8, .int x8_26)]) [1, 2, 3, 4, 5, 6, 7, 8, 0] rfl ?_
          exact fm_X7_best_188 d o_k o_a1 o_a2 o_a3 ih _ _ _ _ _ _ _ H
set_option maxHeartbeats 4000000 in
set_option maxRecDepth 100000 in
theorem fm_X7_best_133 {l : Launch} {S : aS} {G : aG} (d : Nat) {k : Nat} {a1 : Nat} {a2 : Nat} {a3 : Nat} {Q : Int32 → aH → Prop} (o_k : aObj S k 6 flX7) (o_a1 : aObj S a1 1 flX2) (o_a2 : aObj S a2 4 flX5) (o_a3 : aObj S a3 8 flX9) : ∀ (n : Nat) (x4 : Int32) (x5 : Int32) (x6 : Int32) (h : aH), f_X7_best_133 S k a1 a2 a3 Q n x4 x5 x6 h → AW l S G (d + 4) M_X7_best (va_Qi Q (aPo S G) (aA S G)) 133 [(0, .ref (G.2.1 k)), (1, .ref (G.2.1 a1)), (2, .ref (G.2.1 a2)), (3, .ref (G.2.1 a3)), (4, .int x4), (5, .int x5), (6, .int x6)] [] h := by
  intro n
  induction n with
  | zero => intro x4 x5 x6 h H; exact False.elim H
  | succ n ih =>
    intro x4 x5 x6 h H
    unfold f_X7_best_133 at H
    refine aw_iload dX7_best_133 6 rfl ?_
    refine aw_iload dX7_best_135 4 rfl ?_
    refine aw_icmp_ge (tgt := 253) dX7_best_137 (by decide) (fun c33 => ?_) (fun c33 => ?_)
    · replace H := a_pos c33 H
      refine aw_iload dX7_best_253 5 rfl ?_
      exact aw_iret rfl H dX7_best_255
    · replace H := a_neg c33 H
      refine aw_iconst (v := 0) dX7_best_140 (by decide) ?_
      refine aw_istore (lv' := [(7, .int 0), (0, .ref (G.2.1 k)), (1, .ref (G.2.1 a1)), (2, .ref (G.2.1 a2)), (3, .ref (G.2.1 a3)), (4, .int x4), (5, .int x5), (6, .int x6)]) dX7_best_141 (by decide) rfl ?_
      refine aw_sub (lv' := [(0, .ref (G.2.1 k)), (1, .ref (G.2.1 a1)), (2, .ref (G.2.1 a2)), (3, .ref (G.2.1 a3)), (4, .int x4), (5, .int x5), (6, .int x6), (7, .int 0)]) [1, 2, 3, 4, 5, 6, 7, 0] rfl ?_
      obtain ⟨n1, H⟩ := H
      exact fm_X7_best_143 d o_k o_a1 o_a2 o_a3 ih n1 _ _ _ _ _ H
set_option maxHeartbeats 4000000 in
set_option maxRecDepth 100000 in
theorem fm_X7_best_14 {l : Launch} {S : aS} {G : aG} (d : Nat) {k : Nat} {a1 : Nat} {a2 : Nat} {a3 : Nat} {Q : Int32 → aH → Prop} (o_k : aObj S k 6 flX7) (o_a1 : aObj S a1 1 flX2) (o_a2 : aObj S a2 4 flX5) (o_a3 : aObj S a3 8 flX9) : ∀ (n : Nat) (x4 : Int32) (x5 : Int32) (h : aH), f_X7_best_14 S k a1 a2 a3 Q n x4 x5 h → AW l S G (d + 4) M_X7_best (va_Qi Q (aPo S G) (aA S G)) 14 [(0, .ref (G.2.1 k)), (1, .ref (G.2.1 a1)), (2, .ref (G.2.1 a2)), (3, .ref (G.2.1 a3)), (4, .int x4), (5, .int x5)] [] h := by
  intro n
  induction n with
  | zero => intro x4 x5 h H; exact False.elim H
  | succ n ih =>
    intro x4 x5 h H
    unfold f_X7_best_14 at H
    refine aw_iload dX7_best_14 5 rfl ?_
    refine aw_iload dX7_best_16 4 rfl ?_
    refine aw_icmp_ge (tgt := 120) dX7_best_18 (by decide) (fun c34 => ?_) (fun c34 => ?_)
    · replace H := a_pos c34 H
      refine aw_aload_n dX7_best_120 rfl 0 rfl ?_
      refine aw_getR cf_X7 0 (by decide) rfl wd_237 o_k dX7_best_121 ?_
      refine aw_iconst (v := 0) dX7_best_124 (by decide) ?_
      refine aw_iconst (v := 0) dX7_best_125 (by decide) ?_
      obtain ⟨z35, H⟩ := H
      refine aw_iastore z35 dX7_best_126 ?_
      refine aw_nameH (fun h36 e_h36 => ?_)
      replace H := H h36 e_h36
      refine aw_iconst (v := 0) dX7_best_127 (by decide) ?_
      refine aw_istore (lv' := [(5, .int 0), (0, .ref (G.2.1 k)), (1, .ref (G.2.1 a1)), (2, .ref (G.2.1 a2)), (3, .ref (G.2.1 a3)), (4, .int x4)]) dX7_best_128 (by decide) rfl ?_
      refine aw_iconst (v := 0) dX7_best_130 (by decide) ?_
      refine aw_istore (lv' := [(6, .int 0), (5, .int 0), (0, .ref (G.2.1 k)), (1, .ref (G.2.1 a1)), (2, .ref (G.2.1 a2)), (3, .ref (G.2.1 a3)), (4, .int x4)]) dX7_best_131 (by decide) rfl ?_
      refine aw_sub (lv' := [(0, .ref (G.2.1 k)), (1, .ref (G.2.1 a1)), (2, .ref (G.2.1 a2)), (3, .ref (G.2.1 a3)), (4, .int x4), (5, .int 0), (6, .int 0)]) [2, 3, 4, 5, 6, 1, 0] rfl ?_
      obtain ⟨n1, H⟩ := H
      exact fm_X7_best_133 d o_k o_a1 o_a2 o_a3 n1 _ _ _ _ H
    · replace H := a_neg c34 H
      refine aw_aload_n dX7_best_21 rfl 3 rfl ?_
      refine aw_getR cf_X9 0 (by decide) rfl wd_139 o_a3 dX7_best_22 ?_
      refine aw_iload dX7_best_25 5 rfl ?_
      obtain ⟨z37, H⟩ := H
      refine aw_iaload z37 dX7_best_27 ?_
      refine aw_name (fun v38 e_v38 => ?_)
      replace H := H v38 e_v38
      refine aw_istore (lv' := [(6, .int v38), (0, .ref (G.2.1 k)), (1, .ref (G.2.1 a1)), (2, .ref (G.2.1 a2)), (3, .ref (G.2.1 a3)), (4, .int x4), (5, .int x5)]) dX7_best_28 (by decide) rfl ?_
      refine aw_aload_n dX7_best_30 rfl 1 rfl ?_
      refine aw_getR cf_X7 1 (by decide) rfl wd_238 o_k dX7_best_31 ?_
      refine aw_iload dX7_best_34 6 rfl ?_
      refine aw_aload_n dX7_best_36 rfl 2 rfl ?_
      refine aw_iload dX7_best_37 0 rfl ?_
      refine aw_callV_i (As := [.int v38]) (rest := [.int x5, .ref (G.2.1 (gR h k 1))]) (am_X2_isFree (d + 1) o_a1 H) mf_X2_isFree wd_819 wd_558 wd_559 cf_X2 o_a1 rfl rfl (Nat.le_of_ble_eq_true rfl) dX7_best_39 (fun r40 h39 H => ?_)
      refine aw_if_eq (tgt := 78) dX7_best_42 (by decide) (fun c41 => ?_) (fun c41 => ?_)
      · replace H := a_pos c41 H
        refine aw_iconst (v := 0) dX7_best_78 (by decide) ?_
        obtain ⟨z42, H⟩ := H
        refine aw_zastore z42 (by decide) dX7_best_79 ?_
        refine aw_nameH (fun h43 e_h43 => ?_)
        replace H := H h43 e_h43
        refine aw_aload_n dX7_best_80 rfl 1 rfl ?_
        refine aw_getR cf_X7 3 (by decide) rfl wd_240 o_k dX7_best_81 ?_
        refine aw_iload dX7_best_84 6 rfl ?_
        refine aw_iconst (v := 0) dX7_best_86 (by decide) ?_
        obtain ⟨z44, H⟩ := H
        refine aw_iastore z44 dX7_best_87 ?_
        refine aw_nameH (fun h45 e_h45 => ?_)
        replace H := H h45 e_h45
        refine aw_iconst (v := 0) dX7_best_88 (by decide) ?_
        refine aw_istore (lv' := [(7, .int 0), (6, .int v38), (0, .ref (G.2.1 k)), (1, .ref (G.2.1 a1)), (2, .ref (G.2.1 a2)), (3, .ref (G.2.1 a3)), (4, .int x4), (5, .int x5)]) dX7_best_89 (by decide) rfl ?_
        refine aw_sub (lv' := [(0, .ref (G.2.1 k)), (1, .ref (G.2.1 a1)), (2, .ref (G.2.1 a2)), (3, .ref (G.2.1 a3)), (4, .int x4), (5, .int x5), (7, .int 0)]) [2, 3, 4, 5, 6, 7, 0] rfl ?_
        obtain ⟨n1, H⟩ := H
        exact fm_X7_best_91 d o_k o_a1 o_a2 o_a3 ih n1 _ _ _ _ H
      · replace H := a_neg c41 H
        refine aw_aload_n dX7_best_45 rfl 2 rfl ?_
        refine aw_iload dX7_best_46 0 rfl ?_
        refine aw_callV_i (As := [.int v38]) (rest := [.int x5, .ref (G.2.1 (gR h k 1))]) (am_X2_isBesideHole d o_a1 H) mf_X2_isBesideHole wd_820 wd_821 wd_822 cf_X2 o_a1 rfl rfl (Nat.le_of_ble_eq_true rfl) dX7_best_48 (fun r47 h46 H => ?_)
        refine aw_if_ne (tgt := 78) dX7_best_51 (by decide) (fun c48 => ?_) (fun c48 => ?_)
        · replace H := a_pos c48 H
          refine aw_iconst (v := 0) dX7_best_78 (by decide) ?_
          obtain ⟨z49, H⟩ := H
          refine aw_zastore z49 (by decide) dX7_best_79 ?_
          refine aw_nameH (fun h50 e_h50 => ?_)
          replace H := H h50 e_h50
          refine aw_aload_n dX7_best_80 rfl 1 rfl ?_
          refine aw_getR cf_X7 3 (by decide) rfl wd_240 o_k dX7_best_81 ?_
          refine aw_iload dX7_best_84 6 rfl ?_
          refine aw_iconst (v := 0) dX7_best_86 (by decide) ?_
          obtain ⟨z51, H⟩ := H
          refine aw_iastore z51 dX7_best_87 ?_
          refine aw_nameH (fun h52 e_h52 => ?_)
          replace H := H h52 e_h52
          refine aw_iconst (v := 0) dX7_best_88 (by decide) ?_
          refine aw_istore (lv' := [(7, .int 0), (6, .int v38), (0, .ref (G.2.1 k)), (1, .ref (G.2.1 a1)), (2, .ref (G.2.1 a2)), (3, .ref (G.2.1 a3)), (4, .int x4), (5, .int x5)]) dX7_best_89 (by decide) rfl ?_
          refine aw_sub (lv' := [(0, .ref (G.2.1 k)), (1, .ref (G.2.1 a1)), (2, .ref (G.2.1 a2)), (3, .ref (G.2.1 a3)), (4, .int x4), (5, .int x5), (7, .int 0)]) [2, 3, 4, 5, 6, 7, 0] rfl ?_
          obtain ⟨n1, H⟩ := H
          exact fm_X7_best_91 d o_k o_a1 o_a2 o_a3 ih n1 _ _ _ _ H
        · replace H := a_neg2 c48 H
          refine aw_aload_n dX7_best_54 rfl 2 rfl ?_
          refine aw_iload dX7_best_55 0 rfl ?_
          refine aw_callV_i (As := [.int v38]) (rest := [.int x5, .ref (G.2.1 (gR h k 1))]) (am_X2_makesRow d o_a1 H) mf_X2_makesRow wd_824 wd_601 wd_602 cf_X2 o_a1 rfl rfl (Nat.le_of_ble_eq_true rfl) dX7_best_57 (fun r54 h53 H => ?_)
          refine aw_if_ne (tgt := 78) dX7_best_60 (by decide) (fun c55 => ?_) (fun c55 => ?_)
          · replace H := a_pos c55 H
            refine aw_iconst (v := 0) dX7_best_78 (by decide) ?_
            obtain ⟨z56, H⟩ := H
            refine aw_zastore z56 (by decide) dX7_best_79 ?_
            refine aw_nameH (fun h57 e_h57 => ?_)
            replace H := H h57 e_h57
            refine aw_aload_n dX7_best_80 rfl 1 rfl ?_
            refine aw_getR cf_X7 3 (by decide) rfl wd_240 o_k dX7_best_81 ?_
            refine aw_iload dX7_best_84 6 rfl ?_
            refine aw_iconst (v := 0) dX7_best_86 (by decide) ?_
            obtain ⟨z58, H⟩ := H
            refine aw_iastore z58 dX7_best_87 ?_
            refine aw_nameH (fun h59 e_h59 => ?_)
            replace H := H h59 e_h59
            refine aw_iconst (v := 0) dX7_best_88 (by decide) ?_
            refine aw_istore (lv' := [(7, .int 0), (6, .int v38), (0, .ref (G.2.1 k)), (1, .ref (G.2.1 a1)), (2, .ref (G.2.1 a2)), (3, .ref (G.2.1 a3)), (4, .int x4), (5, .int x5)]) dX7_best_89 (by decide) rfl ?_
            refine aw_sub (lv' := [(0, .ref (G.2.1 k)), (1, .ref (G.2.1 a1)), (2, .ref (G.2.1 a2)), (3, .ref (G.2.1 a3)), (4, .int x4), (5, .int x5), (7, .int 0)]) [2, 3, 4, 5, 6, 7, 0] rfl ?_
            obtain ⟨n1, H⟩ := H
            exact fm_X7_best_91 d o_k o_a1 o_a2 o_a3 ih n1 _ _ _ _ H
          · replace H := a_neg2 c55 H
            refine aw_aload_n dX7_best_63 rfl 3 rfl ?_
            refine aw_aload_n dX7_best_64 rfl 2 rfl ?_
            refine aw_iload dX7_best_65 0 rfl ?_
            refine aw_iconst (v := 0) dX7_best_67 (by decide) ?_
            refine aw_callV_i (As := [.ref (G.2.1 a1), .int v38, .int 0]) (rest := [.int x5, .ref (G.2.1 (gR h k 1))]) (am_X5_allows d o_a2 o_a1 H) mf_X5_allows wd_825 wd_573 wd_574 cf_X5 o_a2 rfl rfl (Nat.le_of_ble_eq_true rfl) dX7_best_68 (fun r61 h60 H => ?_)
            refine aw_if_eq (tgt := 78) dX7_best_71 (by decide) (fun c62 => ?_) (fun c62 => ?_)
            · replace H := a_pos c62 H
              refine aw_iconst (v := 0) dX7_best_78 (by decide) ?_
              obtain ⟨z63, H⟩ := H
              refine aw_zastore z63 (by decide) dX7_best_79 ?_
              refine aw_nameH (fun h64 e_h64 => ?_)
              replace H := H h64 e_h64
              refine aw_aload_n dX7_best_80 rfl 1 rfl ?_
              refine aw_getR cf_X7 3 (by decide) rfl wd_240 o_k dX7_best_81 ?_
              refine aw_iload dX7_best_84 6 rfl ?_
              refine aw_iconst (v := 0) dX7_best_86 (by decide) ?_
              obtain ⟨z65, H⟩ := H
              refine aw_iastore z65 dX7_best_87 ?_
              refine aw_nameH (fun h66 e_h66 => ?_)
              replace H := H h66 e_h66
              refine aw_iconst (v := 0) dX7_best_88 (by decide) ?_
              refine aw_istore (lv' := [(7, .int 0), (6, .int v38), (0, .ref (G.2.1 k)), (1, .ref (G.2.1 a1)), (2, .ref (G.2.1 a2)), (3, .ref (G.2.1 a3)), (4, .int x4), (5, .int x5)]) dX7_best_89 (by decide) rfl ?_
              refine aw_sub (lv' := [(0, .ref (G.2.1 k)), (1, .ref (G.2.1 a1)), (2, .ref (G.2.1 a2)), (3, .ref (G.2.1 a3)), (4, .int x4), (5, .int x5), (7, .int 0)]) [2, 3, 4, 5, 6, 7, 0] rfl ?_
              obtain ⟨n1, H⟩ := H
              exact fm_X7_best_91 d o_k o_a1 o_a2 o_a3 ih n1 _ _ _ _ H
            · replace H := a_neg c62 H
              refine aw_iconst (v := 1) dX7_best_74 (by decide) ?_
              refine aw_goto (tgt := 79) dX7_best_75 (by decide) ?_
              obtain ⟨z67, H⟩ := H
              refine aw_zastore z67 (by decide) dX7_best_79 ?_
              refine aw_nameH (fun h68 e_h68 => ?_)
              replace H := H h68 e_h68
              refine aw_aload_n dX7_best_80 rfl 1 rfl ?_
              refine aw_getR cf_X7 3 (by decide) rfl wd_240 o_k dX7_best_81 ?_
              refine aw_iload dX7_best_84 6 rfl ?_
              refine aw_iconst (v := 0) dX7_best_86 (by decide) ?_
              obtain ⟨z69, H⟩ := H
              refine aw_iastore z69 dX7_best_87 ?_
              refine aw_nameH (fun h70 e_h70 => ?_)
              replace H := H h70 e_h70
              refine aw_iconst (v := 0) dX7_best_88 (by decide) ?_
              refine aw_istore (lv' := [(7, .int 0), (6, .int v38), (0, .ref (G.2.1 k)), (1, .ref (G.2.1 a1)), (2, .ref (G.2.1 a2)), (3, .ref (G.2.1 a3)), (4, .int x4), (5, .int x5)]) dX7_best_89 (by decide) rfl ?_
              refine aw_sub (lv' := [(0, .ref (G.2.1 k)), (1, .ref (G.2.1 a1)), (2, .ref (G.2.1 a2)), (3, .ref (G.2.1 a3)), (4, .int x4), (5, .int x5), (7, .int 0)]) [2, 3, 4, 5, 6, 7, 0] rfl ?_
              obtain ⟨n1, H⟩ := H
              exact fm_X7_best_91 d o_k o_a1 o_a2 o_a3 ih n1 _ _ _ _ H
set_option maxHeartbeats 4000000 in
set_option maxRecDepth 100000 in
theorem am_X7_best {l : Launch} {S : aS} {G : aG} (d : Nat) {k : Nat} {a1 : Nat} {a2 : Nat} {a3 : Nat} {h : aH} {Q : Int32 → aH → Prop} (o_k : aObj S k 6 flX7) (o_a1 : aObj S a1 1 flX2) (o_a2 : aObj S a2 4 flX5) (o_a3 : aObj S a3 8 flX9) (H : f_X7_best S k a1 a2 a3 h Q) : AMi l S G (d + 4) M_X7_best [.ref (G.2.1 k), .ref (G.2.1 a1), .ref (G.2.1 a2), .ref (G.2.1 a3)] h Q := by
  unfold f_X7_best at H
  refine am_of mf_X7_best (Nat.le_of_ble_eq_true rfl) (lv0 := [(0, .ref (G.2.1 k)), (1, .ref (G.2.1 a1)), (2, .ref (G.2.1 a2)), (3, .ref (G.2.1 a3))]) rfl ?_
  refine aw_aload_n dX7_best_0 rfl 3 rfl ?_
  refine aw_getI cf_X9 2 (by decide) rfl wd_145 o_a3 dX7_best_1 ?_
  refine aw_name (fun v71 e_v71 => ?_)
  replace H := H v71 e_v71
  refine aw_bipush (v := 10) dX7_best_4 (by decide) ?_
  refine aw_mmin wd_818 wd_478 wd_15 wd_479 (Nat.le_of_ble_eq_true rfl) dX7_best_6 ?_
  refine aw_name (fun v72 e_v72 => ?_)
  replace H := H v72 e_v72
  refine aw_istore (lv' := [(4, .int v72), (0, .ref (G.2.1 k)), (1, .ref (G.2.1 a1)), (2, .ref (G.2.1 a2)), (3, .ref (G.2.1 a3))]) dX7_best_9 (by decide) rfl ?_
  refine aw_iconst (v := 0) dX7_best_11 (by decide) ?_
  refine aw_istore (lv' := [(5, .int 0), (4, .int v72), (0, .ref (G.2.1 k)), (1, .ref (G.2.1 a1)), (2, .ref (G.2.1 a2)), (3, .ref (G.2.1 a3))]) dX7_best_12 (by decide) rfl ?_
  refine aw_sub (lv' := [(0, .ref (G.2.1 k)), (1, .ref (G.2.1 a1)), (2, .ref (G.2.1 a2)), (3, .ref (G.2.1 a3)), (4, .int v72), (5, .int 0)]) [2, 3, 4, 5, 1, 0] rfl ?_
  obtain ⟨n1, H⟩ := H
  exact fm_X7_best_14 d o_k o_a1 o_a2 o_a3 n1 _ _ _ H
set_option maxHeartbeats 4000000 in
set_option maxRecDepth 100000 in
theorem fm_X8_putInt_16 {l : Launch} {S : aS} {G : aG} (d : Nat) {k : Nat} {a1 : Int32} {Q : aH → Prop} (o_k : aObj S k 7 flX8) : ∀ (n : Nat) (x2 : Int32) (h : aH), f_X8_putInt_16 S k a1 Q n x2 h → AW l S G d M_X8_putInt (va_Qv Q (aPo S G) (aA S G)) 16 [(0, .ref (G.2.1 k)), (1, .int a1), (2, .int x2)] [] h := by
  intro n
  induction n with
  | zero => intro x2 h H; exact False.elim H
  | succ n ih =>
    intro x2 h H
    unfold f_X8_putInt_16 at H
    refine aw_iload_n dX8_putInt_16 rfl 2 rfl ?_
    refine aw_if_lt (tgt := 52) dX8_putInt_17 (by decide) (fun c1 => ?_) (fun c1 => ?_)
    · replace H := a_pos c1 H
      exact aw_vret rfl H dX8_putInt_52
    · replace H := a_neg c1 H
      refine aw_aload_n dX8_putInt_20 rfl 0 rfl ?_
      refine aw_getR cf_X8 0 (by decide) rfl wd_122 o_k dX8_putInt_21 ?_
      refine aw_aload_n dX8_putInt_24 rfl 0 rfl ?_
      refine aw_getI cf_X8 1 (by decide) rfl wd_124 o_k dX8_putInt_25 ?_
      refine aw_name (fun v2 e_v2 => ?_)
      replace H := H v2 e_v2
      refine aw_iload_n dX8_putInt_28 rfl 1 rfl ?_
      refine aw_iload_n dX8_putInt_29 rfl 2 rfl ?_
      refine aw_ishr dX8_putInt_30 ?_
      refine aw_sipush (v := 255) dX8_putInt_31 (by decide) ?_
      refine aw_iand dX8_putInt_34 ?_
      obtain ⟨z3, H⟩ := H
      refine aw_iastore z3 dX8_putInt_35 ?_
      refine aw_nameH (fun h4 e_h4 => ?_)
      replace H := H h4 e_h4
      refine aw_aload_n dX8_putInt_36 rfl 0 rfl ?_
      refine aw_dup dX8_putInt_37 rfl ?_
      refine aw_getI cf_X8 1 (by decide) rfl wd_124 o_k dX8_putInt_38 ?_
      refine aw_name (fun v5 e_v5 => ?_)
      replace H := H v5 e_v5
      refine aw_iconst (v := 1) dX8_putInt_41 (by decide) ?_
      refine aw_iadd dX8_putInt_42 ?_
      refine aw_putI cf_X8 1 (by decide) rfl wd_124 rfl rfl rfl o_k dX8_putInt_43 ?_
      refine aw_nameH (fun h6 e_h6 => ?_)
      replace H := H h6 e_h6
      obtain ⟨x2_7, e_x2_7⟩ : ∃ y : Int32, y = x2 + (-8) := ⟨_, rfl⟩
      replace H := H x2_7 e_x2_7
      refine aw_iinc (v := x2_7) (lv' := [(2, .int x2_7), (0, .ref (G.2.1 k)), (1, .int a1)]) dX8_putInt_46 (n0 := 2) rfl (by rw [e_x2_7]; rfl) (by decide) rfl ?_
      refine aw_goto (tgt := 16) dX8_putInt_49 (by decide) ?_
      refine aw_sub (lv' := [(0, .ref (G.2.1 k)), (1, .int a1), (2, .int x2_7)]) [1, 2, 0] rfl ?_
      exact ih _ _ H
set_option maxHeartbeats 4000000 in
set_option maxRecDepth 100000 in
theorem am_X8_putInt {l : Launch} {S : aS} {G : aG} (d : Nat) {k : Nat} {a1 : Int32} {h : aH} {Q : aH → Prop} (o_k : aObj S k 7 flX8) (H : f_X8_putInt S k a1 h Q) : AMv l S G d M_X8_putInt [.ref (G.2.1 k), .int a1] h Q := by
  unfold f_X8_putInt at H
  refine am_of mf_X8_putInt (Nat.le_of_ble_eq_true rfl) (lv0 := [(0, .ref (G.2.1 k)), (1, .int a1)]) rfl ?_
  refine aw_aload_n dX8_putInt_0 rfl 0 rfl ?_
  refine aw_getI cf_X8 1 (by decide) rfl wd_124 o_k dX8_putInt_1 ?_
  refine aw_name (fun v8 e_v8 => ?_)
  replace H := H v8 e_v8
  refine aw_iconst (v := 4) dX8_putInt_4 (by decide) ?_
  refine aw_iadd dX8_putInt_5 ?_
  refine aw_sipush (v := 220) dX8_putInt_6 (by decide) ?_
  refine aw_icmp_le (tgt := 13) dX8_putInt_9 (by decide) (fun c9 => ?_) (fun c9 => ?_)
  · replace H := a_pos c9 H
    refine aw_bipush (v := 24) dX8_putInt_13 (by decide) ?_
    refine aw_istore_n (lv' := [(2, .int 24), (0, .ref (G.2.1 k)), (1, .int a1)]) dX8_putInt_15 rfl (by decide) rfl ?_
    refine aw_sub (lv' := [(0, .ref (G.2.1 k)), (1, .int a1), (2, .int 24)]) [1, 2, 0] rfl ?_
    obtain ⟨n1, H⟩ := H
    exact fm_X8_putInt_16 d o_k n1 _ _ H
  · replace H := a_neg c9 H
    exact aw_vret rfl H dX8_putInt_12
set_option maxHeartbeats 4000000 in
set_option maxRecDepth 100000 in
theorem am_X8_byteAt {l : Launch} {S : aS} {G : aG} (d : Nat) {k : Nat} {a1 : Int32} {h : aH} {Q : Int32 → aH → Prop} (o_k : aObj S k 7 flX8) (H : f_X8_byteAt S k a1 h Q) : AMi l S G d M_X8_byteAt [.ref (G.2.1 k), .int a1] h Q := by
  unfold f_X8_byteAt at H
  refine am_of mf_X8_byteAt (Nat.le_of_ble_eq_true rfl) (lv0 := [(0, .ref (G.2.1 k)), (1, .int a1)]) rfl ?_
  refine aw_iload_n dX8_byteAt_0 rfl 1 rfl ?_
  refine aw_if_lt (tgt := 20) dX8_byteAt_1 (by decide) (fun c1 => ?_) (fun c1 => ?_)
  · replace H := a_pos c1 H
    refine aw_iconst (v := 0) dX8_byteAt_20 (by decide) ?_
    exact aw_iret rfl H dX8_byteAt_21
  · replace H := a_neg c1 H
    refine aw_iload_n dX8_byteAt_4 rfl 1 rfl ?_
    refine aw_sipush (v := 220) dX8_byteAt_5 (by decide) ?_
    refine aw_icmp_ge (tgt := 20) dX8_byteAt_8 (by decide) (fun c2 => ?_) (fun c2 => ?_)
    · replace H := a_pos c2 H
      refine aw_iconst (v := 0) dX8_byteAt_20 (by decide) ?_
      exact aw_iret rfl H dX8_byteAt_21
    · replace H := a_neg c2 H
      refine aw_aload_n dX8_byteAt_11 rfl 0 rfl ?_
      refine aw_getR cf_X8 0 (by decide) rfl wd_122 o_k dX8_byteAt_12 ?_
      refine aw_iload_n dX8_byteAt_15 rfl 1 rfl ?_
      obtain ⟨z3, H⟩ := H
      refine aw_iaload z3 dX8_byteAt_16 ?_
      refine aw_name (fun v4 e_v4 => ?_)
      replace H := H v4 e_v4
      refine aw_goto (tgt := 21) dX8_byteAt_17 (by decide) ?_
      exact aw_iret rfl H dX8_byteAt_21
set_option maxHeartbeats 4000000 in
set_option maxRecDepth 100000 in
theorem am_X8_intAt {l : Launch} {S : aS} {G : aG} (d : Nat) {k : Nat} {a1 : Int32} {h : aH} {Q : Int32 → aH → Prop} (o_k : aObj S k 7 flX8) (H : f_X8_intAt S k a1 h Q) : AMi l S G (d + 1) M_X8_intAt [.ref (G.2.1 k), .int a1] h Q := by
  unfold f_X8_intAt at H
  refine am_of mf_X8_intAt (Nat.le_of_ble_eq_true rfl) (lv0 := [(0, .ref (G.2.1 k)), (1, .int a1)]) rfl ?_
  refine aw_aload_n dX8_intAt_0 rfl 0 rfl ?_
  refine aw_iload_n dX8_intAt_1 rfl 1 rfl ?_
  refine aw_callV_i (As := [.int a1]) (rest := []) (am_X8_byteAt d o_k H) mf_X8_byteAt wd_1019 wd_807 wd_808 cf_X8 o_k rfl rfl (Nat.le_of_ble_eq_true rfl) dX8_intAt_2 (fun r2 h1 H => ?_)
  refine aw_bipush (v := 24) dX8_intAt_5 (by decide) ?_
  refine aw_ishl dX8_intAt_7 ?_
  refine aw_aload_n dX8_intAt_8 rfl 0 rfl ?_
  refine aw_iload_n dX8_intAt_9 rfl 1 rfl ?_
  refine aw_iconst (v := 1) dX8_intAt_10 (by decide) ?_
  refine aw_iadd dX8_intAt_11 ?_
  refine aw_callV_i (As := [.int (a1 + 1)]) (rest := [.int (r2 <<< (24 &&& 31))]) (am_X8_byteAt d o_k H) mf_X8_byteAt wd_1019 wd_807 wd_808 cf_X8 o_k rfl rfl (Nat.le_of_ble_eq_true rfl) dX8_intAt_12 (fun r4 h3 H => ?_)
  refine aw_bipush (v := 16) dX8_intAt_15 (by decide) ?_
  refine aw_ishl dX8_intAt_17 ?_
  refine aw_ior dX8_intAt_18 ?_
  refine aw_aload_n dX8_intAt_19 rfl 0 rfl ?_
  refine aw_iload_n dX8_intAt_20 rfl 1 rfl ?_
  refine aw_iconst (v := 2) dX8_intAt_21 (by decide) ?_
  refine aw_iadd dX8_intAt_22 ?_
  refine aw_callV_i (As := [.int (a1 + 2)]) (rest := [.int ((r2 <<< (24 &&& 31)) ||| (r4 <<< (16 &&& 31)))]) (am_X8_byteAt d o_k H) mf_X8_byteAt wd_1019 wd_807 wd_808 cf_X8 o_k rfl rfl (Nat.le_of_ble_eq_true rfl) dX8_intAt_23 (fun r6 h5 H => ?_)
  refine aw_bipush (v := 8) dX8_intAt_26 (by decide) ?_
  refine aw_ishl dX8_intAt_28 ?_
  refine aw_ior dX8_intAt_29 ?_
  refine aw_aload_n dX8_intAt_30 rfl 0 rfl ?_
  refine aw_iload_n dX8_intAt_31 rfl 1 rfl ?_
  refine aw_iconst (v := 3) dX8_intAt_32 (by decide) ?_
  refine aw_iadd dX8_intAt_33 ?_
  refine aw_callV_i (As := [.int (a1 + 3)]) (rest := [.int (((r2 <<< (24 &&& 31)) ||| (r4 <<< (16 &&& 31))) ||| (r6 <<< (8 &&& 31)))]) (am_X8_byteAt d o_k H) mf_X8_byteAt wd_1019 wd_807 wd_808 cf_X8 o_k rfl rfl (Nat.le_of_ble_eq_true rfl) dX8_intAt_34 (fun r8 h7 H => ?_)
  refine aw_ior dX8_intAt_37 ?_
  exact aw_iret rfl H dX8_intAt_38
set_option maxHeartbeats 4000000 in
set_option maxRecDepth 100000 in
theorem fm_X9_readSquares_12 {l : Launch} {S : aS} {G : aG} (d : Nat) {k : Nat} {a1 : Nat} {a2 : Int32} {Q : aH → Prop} (o_k : aObj S k 8 flX9) (o_a1 : aObj S a1 7 flX8) : ∀ (n : Nat) (x3 : Int32) (h : aH), f_X9_readSquares_12 S k a1 a2 Q n x3 h → AW l S G (d + 1) M_X9_readSquares (va_Qv Q (aPo S G) (aA S G)) 12 [(0, .ref (G.2.1 k)), (1, .ref (G.2.1 a1)), (2, .int a2), (3, .int x3)] [] h := by
  intro n
  induction n with
  | zero => intro x3 h H; exact False.elim H
  | succ n ih =>
    intro x3 h H
    unfold f_X9_readSquares_12 at H
    refine aw_iload_n dX9_readSquares_12 rfl 3 rfl ?_
    refine aw_aload_n dX9_readSquares_13 rfl 0 rfl ?_
    refine aw_getI cf_X9 2 (by decide) rfl wd_144 o_k dX9_readSquares_14 ?_
    refine aw_name (fun v1 e_v1 => ?_)
    replace H := H v1 e_v1
    refine aw_icmp_ge (tgt := 44) dX9_readSquares_17 (by decide) (fun c2 => ?_) (fun c2 => ?_)
    · replace H := a_pos c2 H
      refine aw_aload_n dX9_readSquares_44 rfl 1 rfl ?_
      refine aw_iconst (v := 0) dX9_readSquares_45 (by decide) ?_
      refine aw_putI cf_X8 1 (by decide) rfl wd_125 rfl rfl rfl o_a1 dX9_readSquares_46 ?_
      refine aw_nameH (fun h3 e_h3 => ?_)
      replace H := H h3 e_h3
      exact aw_vret rfl H dX9_readSquares_49
    · replace H := a_neg c2 H
      refine aw_aload_n dX9_readSquares_20 rfl 0 rfl ?_
      refine aw_getR cf_X9 0 (by decide) rfl wd_138 o_k dX9_readSquares_21 ?_
      refine aw_iload_n dX9_readSquares_24 rfl 3 rfl ?_
      refine aw_aload_n dX9_readSquares_25 rfl 1 rfl ?_
      refine aw_iload_n dX9_readSquares_26 rfl 3 rfl ?_
      refine aw_callV_i (As := [.int x3]) (rest := [.int x3, .ref (G.2.1 (gR h k 0))]) (am_X8_byteAt d o_a1 H) mf_X8_byteAt wd_806 wd_807 wd_808 cf_X8 o_a1 rfl rfl (Nat.le_of_ble_eq_true rfl) dX9_readSquares_27 (fun r5 h4 H => ?_)
      obtain ⟨z6, H⟩ := H
      refine aw_iastore z6 dX9_readSquares_30 ?_
      refine aw_nameH (fun h7 e_h7 => ?_)
      replace H := H h7 e_h7
      refine aw_aload_n dX9_readSquares_31 rfl 0 rfl ?_
      refine aw_getR cf_X9 1 (by decide) rfl wd_141 o_k dX9_readSquares_32 ?_
      refine aw_iload_n dX9_readSquares_35 rfl 3 rfl ?_
      refine aw_iconst (v := 0) dX9_readSquares_36 (by decide) ?_
      obtain ⟨z8, H⟩ := H
      refine aw_iastore z8 dX9_readSquares_37 ?_
      refine aw_nameH (fun h9 e_h9 => ?_)
      replace H := H h9 e_h9
      obtain ⟨x3_10, e_x3_10⟩ : ∃ y : Int32, y = x3 + 1 := ⟨_, rfl⟩
      replace H := H x3_10 e_x3_10
      refine aw_iinc (v := x3_10) (lv' := [(3, .int x3_10), (0, .ref (G.2.1 k)), (1, .ref (G.2.1 a1)), (2, .int a2)]) dX9_readSquares_38 (n0 := 3) rfl (by rw [e_x3_10]; rfl) (by decide) rfl ?_
      refine aw_goto (tgt := 12) dX9_readSquares_41 (by decide) ?_
      refine aw_sub (lv' := [(0, .ref (G.2.1 k)), (1, .ref (G.2.1 a1)), (2, .int a2), (3, .int x3_10)]) [1, 2, 3, 0] rfl ?_
      exact ih _ _ H
set_option maxHeartbeats 4000000 in
set_option maxRecDepth 100000 in
theorem am_X9_readSquares {l : Launch} {S : aS} {G : aG} (d : Nat) {k : Nat} {a1 : Nat} {a2 : Int32} {h : aH} {Q : aH → Prop} (o_k : aObj S k 8 flX9) (o_a1 : aObj S a1 7 flX8) (H : f_X9_readSquares S k a1 a2 h Q) : AMv l S G (d + 1) M_X9_readSquares [.ref (G.2.1 k), .ref (G.2.1 a1), .int a2] h Q := by
  unfold f_X9_readSquares at H
  refine am_of mf_X9_readSquares (Nat.le_of_ble_eq_true rfl) (lv0 := [(0, .ref (G.2.1 k)), (1, .ref (G.2.1 a1)), (2, .int a2)]) rfl ?_
  refine aw_aload_n dX9_readSquares_0 rfl 0 rfl ?_
  refine aw_iload_n dX9_readSquares_1 rfl 2 rfl ?_
  refine aw_bipush (v := 40) dX9_readSquares_2 (by decide) ?_
  refine aw_mmin wd_805 wd_478 wd_15 wd_479 (Nat.le_of_ble_eq_true rfl) dX9_readSquares_4 ?_
  refine aw_name (fun v11 e_v11 => ?_)
  replace H := H v11 e_v11
  refine aw_putI cf_X9 2 (by decide) rfl wd_144 rfl rfl rfl o_k dX9_readSquares_7 ?_
  refine aw_nameH (fun h12 e_h12 => ?_)
  replace H := H h12 e_h12
  refine aw_iconst (v := 0) dX9_readSquares_10 (by decide) ?_
  refine aw_istore_n (lv' := [(3, .int 0), (0, .ref (G.2.1 k)), (1, .ref (G.2.1 a1)), (2, .int a2)]) dX9_readSquares_11 rfl (by decide) rfl ?_
  refine aw_sub (lv' := [(0, .ref (G.2.1 k)), (1, .ref (G.2.1 a1)), (2, .int a2), (3, .int 0)]) [1, 2, 3, 0] rfl ?_
  obtain ⟨n1, H⟩ := H
  exact fm_X9_readSquares_12 d o_k o_a1 n1 _ _ H
