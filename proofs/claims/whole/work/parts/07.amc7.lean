set_option maxHeartbeats 4000000 in
set_option maxRecDepth 100000 in
theorem fm_X10_began_91 {l : Launch} {S : aS} {G : aG} (d : Nat) {k : Nat} {a1 : Int32} {a2 : Int32} {Q : Int32 → aH → Prop} (o_k : aObj S k 9 flX10) : ∀ (n : Nat) (x3 : Int32) (x4 : Int32) (x5 : Int32) (h : aH), f_X10_began_91 S k a1 a2 Q n x3 x4 x5 h → AW l S G (d + 7) M_X10_began (va_Qi Q (aPo S G) (aA S G)) 91 [(0, .ref (G.2.1 k)), (1, .int a1), (2, .int a2), (3, .int x3), (4, .int x4), (5, .int x5)] [] h := by
  intro n
  induction n with
  | zero => intro x3 x4 x5 h H; exact False.elim H
  | succ n ih =>
    intro x3 x4 x5 h H
    unfold f_X10_began_91 at H
    refine aw_iload dX10_began_91 5 rfl ?_
    refine aw_aload_n dX10_began_93 rfl 0 rfl ?_
    refine aw_getR cf_X10 4 (by decide) rfl wd_305 o_k dX10_began_94 ?_
    obtain ⟨o1, H⟩ := H
    refine aw_getI cf_X9 2 (by decide) rfl wd_147 o1 dX10_began_97 ?_
    refine aw_name (fun v2 e_v2 => ?_)
    replace H := H v2 e_v2
    refine aw_icmp_ge (tgt := 177) dX10_began_100 (by decide) (fun c3 => ?_) (fun c3 => ?_)
    · replace H := a_pos c3 H
      refine aw_iload_n dX10_began_177 rfl 2 rfl ?_
      refine aw_if_ne (tgt := 185) dX10_began_178 (by decide) (fun c4 => ?_) (fun c4 => ?_)
      · replace H := a_pos c4 H
        refine aw_iload dX10_began_185 4 rfl ?_
        exact aw_iret rfl H dX10_began_187
      · replace H := a_neg2 c4 H
        refine aw_iload_n dX10_began_181 rfl 3 rfl ?_
        refine aw_goto (tgt := 187) dX10_began_182 (by decide) ?_
        exact aw_iret rfl H dX10_began_187
    · replace H := a_neg c3 H
      refine aw_aload_n dX10_began_103 rfl 0 rfl ?_
      refine aw_getR cf_X10 4 (by decide) rfl wd_305 o_k dX10_began_104 ?_
      refine aw_getR cf_X9 0 (by decide) rfl wd_140 o1 dX10_began_107 ?_
      refine aw_iload dX10_began_110 5 rfl ?_
      obtain ⟨z5, H⟩ := H
      refine aw_iaload z5 dX10_began_112 ?_
      refine aw_name (fun v6 e_v6 => ?_)
      replace H := H v6 e_v6
      refine aw_istore (lv' := [(6, .int v6), (0, .ref (G.2.1 k)), (1, .int a1), (2, .int a2), (3, .int x3), (4, .int x4), (5, .int x5)]) dX10_began_113 (by decide) rfl ?_
      refine aw_aload_n dX10_began_115 rfl 1 rfl ?_
      refine aw_getR cf_X10 5 (by decide) rfl wd_306 o_k dX10_began_116 ?_
      refine aw_aload_n dX10_began_119 rfl 1 rfl ?_
      refine aw_getR cf_X10 2 (by decide) rfl wd_303 o_k dX10_began_120 ?_
      refine aw_iload dX10_began_123 0 rfl ?_
      refine aw_aload_n dX10_began_125 rfl 1 rfl ?_
      refine aw_getR cf_X10 4 (by decide) rfl wd_305 o_k dX10_began_126 ?_
      obtain ⟨o7, H⟩ := H
      obtain ⟨o8, H⟩ := H
      refine aw_callV_i (As := [.ref (G.2.1 (gR h k 2)), .int v6, .ref (G.2.1 (gR h k 4))]) (rest := []) (am_X5_fellsJust d o7 o8 o1 H) mf_X5_fellsJust wd_955 wd_956 wd_957 cf_X5 o7 rfl rfl (Nat.le_of_ble_eq_true rfl) dX10_began_129 (fun r10 h9 H => ?_)
      refine aw_if_eq (tgt := 158) dX10_began_132 (by decide) (fun c11 => ?_) (fun c11 => ?_)
      · replace H := a_pos c11 H
        refine aw_aload_n dX10_began_158 rfl 1 rfl ?_
        refine aw_getR cf_X10 2 (by decide) rfl wd_303 o_k dX10_began_159 ?_
        refine aw_iload dX10_began_162 0 rfl ?_
        refine aw_aload_n dX10_began_164 rfl 1 rfl ?_
        refine aw_getR cf_X10 0 (by decide) rfl wd_301 o_k dX10_began_165 ?_
        obtain ⟨o12, H⟩ := H
        obtain ⟨o13, H⟩ := H
        refine aw_callV_v (As := [.int v6, .ref (G.2.1 (gR h9 k 0))]) (rest := []) (am_X2_raise (d + 1) o12 o13 H) mf_X2_raise wd_965 wd_966 wd_967 cf_X2 o12 rfl rfl (Nat.le_of_ble_eq_true rfl) dX10_began_168 (fun h14 H => ?_)
        obtain ⟨x5_15, e_x5_15⟩ : ∃ y : Int32, y = x5 + 1 := ⟨_, rfl⟩
        replace H := H x5_15 e_x5_15
        refine aw_iinc (v := x5_15) (lv' := [(5, .int x5_15), (6, .int v6), (0, .ref (G.2.1 k)), (1, .int a1), (2, .int a2), (3, .int x3), (4, .int x4)]) dX10_began_171 (n0 := 6) rfl (by rw [e_x5_15]; rfl) (by decide) rfl ?_
        refine aw_goto (tgt := 91) dX10_began_174 (by decide) ?_
        refine aw_sub (lv' := [(0, .ref (G.2.1 k)), (1, .int a1), (2, .int a2), (3, .int x3), (4, .int x4), (5, .int x5_15)]) [2, 3, 4, 5, 6, 0] rfl ?_
        exact ih _ _ _ _ H
      · replace H := a_neg c11 H
        obtain ⟨x3_16, e_x3_16⟩ : ∃ y : Int32, y = x3 + 1 := ⟨_, rfl⟩
        replace H := H x3_16 e_x3_16
        refine aw_iinc (v := x3_16) (lv' := [(3, .int x3_16), (6, .int v6), (0, .ref (G.2.1 k)), (1, .int a1), (2, .int a2), (4, .int x4), (5, .int x5)]) dX10_began_135 (n0 := 4) rfl (by rw [e_x3_16]; rfl) (by decide) rfl ?_
        refine aw_iload dX10_began_138 5 rfl ?_
        refine aw_iconst (v := (-1)) dX10_began_140 (by decide) ?_
        refine aw_icmp_ne (tgt := 149) dX10_began_141 (by decide) (fun c17 => ?_) (fun c17 => ?_)
        · replace H := a_pos c17 H
          refine aw_iload dX10_began_149 5 rfl ?_
          refine aw_iload dX10_began_151 1 rfl ?_
          refine aw_mmin wd_964 wd_478 wd_15 wd_479 (Nat.le_of_ble_eq_true rfl) dX10_began_153 ?_
          refine aw_name (fun v18 e_v18 => ?_)
          replace H := H v18 e_v18
          refine aw_istore (lv' := [(4, .int v18), (3, .int x3_16), (6, .int v6), (0, .ref (G.2.1 k)), (1, .int a1), (2, .int a2), (5, .int x5)]) dX10_began_156 (by decide) rfl ?_
          refine aw_aload_n dX10_began_158 rfl 3 rfl ?_
          refine aw_getR cf_X10 2 (by decide) rfl wd_303 o_k dX10_began_159 ?_
          refine aw_iload dX10_began_162 2 rfl ?_
          refine aw_aload_n dX10_began_164 rfl 3 rfl ?_
          refine aw_getR cf_X10 0 (by decide) rfl wd_301 o_k dX10_began_165 ?_
          obtain ⟨o19, H⟩ := H
          obtain ⟨o20, H⟩ := H
          refine aw_callV_v (As := [.int v6, .ref (G.2.1 (gR h9 k 0))]) (rest := []) (am_X2_raise (d + 1) o19 o20 H) mf_X2_raise wd_965 wd_966 wd_967 cf_X2 o19 rfl rfl (Nat.le_of_ble_eq_true rfl) dX10_began_168 (fun h21 H => ?_)
          obtain ⟨x5_22, e_x5_22⟩ : ∃ y : Int32, y = x5 + 1 := ⟨_, rfl⟩
          replace H := H x5_22 e_x5_22
          refine aw_iinc (v := x5_22) (lv' := [(5, .int x5_22), (4, .int v18), (3, .int x3_16), (6, .int v6), (0, .ref (G.2.1 k)), (1, .int a1), (2, .int a2)]) dX10_began_171 (n0 := 6) rfl (by rw [e_x5_22]; rfl) (by decide) rfl ?_
          refine aw_goto (tgt := 91) dX10_began_174 (by decide) ?_
          refine aw_sub (lv' := [(0, .ref (G.2.1 k)), (1, .int a1), (2, .int a2), (3, .int x3_16), (4, .int v18), (5, .int x5_22)]) [4, 5, 6, 2, 1, 0] rfl ?_
          exact ih _ _ _ _ H
        · replace H := a_neg2 c17 H
          refine aw_iload dX10_began_144 1 rfl ?_
          refine aw_goto (tgt := 156) dX10_began_146 (by decide) ?_
          refine aw_istore (lv' := [(4, .int v6), (3, .int x3_16), (6, .int v6), (0, .ref (G.2.1 k)), (1, .int a1), (2, .int a2), (5, .int x5)]) dX10_began_156 (by decide) rfl ?_
          refine aw_aload_n dX10_began_158 rfl 3 rfl ?_
          refine aw_getR cf_X10 2 (by decide) rfl wd_303 o_k dX10_began_159 ?_
          refine aw_iload dX10_began_162 2 rfl ?_
          refine aw_aload_n dX10_began_164 rfl 3 rfl ?_
          refine aw_getR cf_X10 0 (by decide) rfl wd_301 o_k dX10_began_165 ?_
          obtain ⟨o23, H⟩ := H
          obtain ⟨o24, H⟩ := H
          refine aw_callV_v (As := [.int v6, .ref (G.2.1 (gR h9 k 0))]) (rest := []) (am_X2_raise (d + 1) o23 o24 H) mf_X2_raise wd_965 wd_966 wd_967 cf_X2 o23 rfl rfl (Nat.le_of_ble_eq_true rfl) dX10_began_168 (fun h25 H => ?_)
          obtain ⟨x5_26, e_x5_26⟩ : ∃ y : Int32, y = x5 + 1 := ⟨_, rfl⟩
          replace H := H x5_26 e_x5_26
          refine aw_iinc (v := x5_26) (lv' := [(5, .int x5_26), (4, .int v6), (3, .int x3_16), (6, .int v6), (0, .ref (G.2.1 k)), (1, .int a1), (2, .int a2)]) dX10_began_171 (n0 := 6) rfl (by rw [e_x5_26]; rfl) (by decide) rfl ?_
          refine aw_goto (tgt := 91) dX10_began_174 (by decide) ?_
          refine aw_sub (lv' := [(0, .ref (G.2.1 k)), (1, .int a1), (2, .int a2), (3, .int x3_16), (4, .int v6), (5, .int x5_26)]) [4, 5, 6, 2, 1, 0] rfl ?_
          exact ih _ _ _ _ H
set_option maxHeartbeats 4000000 in
set_option maxRecDepth 100000 in
theorem fm_X10_began_19 {l : Launch} {S : aS} {G : aG} (d : Nat) {k : Nat} {a1 : Int32} {a2 : Int32} {Q : Int32 → aH → Prop} (o_k : aObj S k 9 flX10)  (h : aH) (H : f_X10_began_19 S k a1 a2 Q  h) : AW l S G (d + 7) M_X10_began (va_Qi Q (aPo S G) (aA S G)) 19 [(0, .ref (G.2.1 k)), (1, .int a1), (2, .int a2)] [] h := by
  unfold f_X10_began_19 at H
  refine aw_iload_n dX10_began_19 rfl 1 rfl ?_
  refine aw_aload_n dX10_began_20 rfl 0 rfl ?_
  refine aw_getR cf_X10 3 (by decide) rfl wd_304 o_k dX10_began_21 ?_
  obtain ⟨o27, H⟩ := H
  refine aw_getI cf_X8 1 (by decide) rfl wd_126 o27 dX10_began_24 ?_
  refine aw_name (fun v28 e_v28 => ?_)
  replace H := H v28 e_v28
  refine aw_icmp_le (tgt := 33) dX10_began_27 (by decide) (fun c29 => ?_) (fun c29 => ?_)
  · replace H := a_pos c29 H
    refine aw_aload_n dX10_began_33 rfl 0 rfl ?_
    refine aw_getR cf_X10 4 (by decide) rfl wd_305 o_k dX10_began_34 ?_
    refine aw_aload_n dX10_began_37 rfl 0 rfl ?_
    refine aw_getR cf_X10 3 (by decide) rfl wd_304 o_k dX10_began_38 ?_
    refine aw_iload_n dX10_began_41 rfl 1 rfl ?_
    obtain ⟨o30, H⟩ := H
    refine aw_callV_v (As := [.ref (G.2.1 (gR h k 3)), .int a1]) (rest := []) (am_X9_readSquares (d + 5) o30 o27 H) mf_X9_readSquares wd_946 wd_947 wd_948 cf_X9 o30 rfl rfl (Nat.le_of_ble_eq_true rfl) dX10_began_42 (fun h31 H => ?_)
    refine aw_aload_n dX10_began_45 rfl 0 rfl ?_
    refine aw_getR cf_X10 4 (by decide) rfl wd_305 o_k dX10_began_46 ?_
    obtain ⟨o32, H⟩ := H
    refine aw_callV_i (As := []) (rest := []) (am_X9_hasTwice (d + 6) o32 H) mf_X9_hasTwice wd_810 wd_811 wd_812 cf_X9 o32 rfl rfl (Nat.le_of_ble_eq_true rfl) dX10_began_49 (fun r34 h33 H => ?_)
    refine aw_if_ne (tgt := 69) dX10_began_52 (by decide) (fun c35 => ?_) (fun c35 => ?_)
    · replace H := a_pos c35 H
      refine aw_bipush (v := (-2)) dX10_began_69 (by decide) ?_
      exact aw_iret rfl H dX10_began_71
    · replace H := a_neg2 c35 H
      refine aw_aload_n dX10_began_55 rfl 0 rfl ?_
      refine aw_getR cf_X10 4 (by decide) rfl wd_305 o_k dX10_began_56 ?_
      refine aw_aload_n dX10_began_59 rfl 0 rfl ?_
      refine aw_getR cf_X10 0 (by decide) rfl wd_301 o_k dX10_began_60 ?_
      obtain ⟨o36, H⟩ := H
      obtain ⟨o37, H⟩ := H
      refine aw_callV_i (As := [.ref (G.2.1 (gR h33 k 0))]) (rest := []) (am_X9_allFirm (d + 4) o36 o37 H) mf_X9_allFirm wd_950 wd_951 wd_952 cf_X9 o36 rfl rfl (Nat.le_of_ble_eq_true rfl) dX10_began_63 (fun r39 h38 H => ?_)
      refine aw_if_ne (tgt := 72) dX10_began_66 (by decide) (fun c40 => ?_) (fun c40 => ?_)
      · replace H := a_pos c40 H
        refine aw_aload_n dX10_began_72 rfl 0 rfl ?_
        refine aw_getR cf_X10 2 (by decide) rfl wd_303 o_k dX10_began_73 ?_
        refine aw_aload_n dX10_began_76 rfl 0 rfl ?_
        refine aw_getR cf_X10 0 (by decide) rfl wd_301 o_k dX10_began_77 ?_
        obtain ⟨o41, H⟩ := H
        obtain ⟨o42, H⟩ := H
        refine aw_callV_v (As := [.ref (G.2.1 (gR h38 k 0))]) (rest := []) (am_X2_copyFrom (d + 5) o41 o42 H) mf_X2_copyFrom wd_743 wd_744 wd_745 cf_X2 o41 rfl rfl (Nat.le_of_ble_eq_true rfl) dX10_began_80 (fun h43 H => ?_)
        refine aw_iconst (v := 0) dX10_began_83 (by decide) ?_
        refine aw_istore_n (lv' := [(3, .int 0), (0, .ref (G.2.1 k)), (1, .int a1), (2, .int a2)]) dX10_began_84 rfl (by decide) rfl ?_
        refine aw_iconst (v := (-1)) dX10_began_85 (by decide) ?_
        refine aw_istore (lv' := [(4, .int (-1)), (3, .int 0), (0, .ref (G.2.1 k)), (1, .int a1), (2, .int a2)]) dX10_began_86 (by decide) rfl ?_
        refine aw_iconst (v := 0) dX10_began_88 (by decide) ?_
        refine aw_istore (lv' := [(5, .int 0), (4, .int (-1)), (3, .int 0), (0, .ref (G.2.1 k)), (1, .int a1), (2, .int a2)]) dX10_began_89 (by decide) rfl ?_
        refine aw_sub (lv' := [(0, .ref (G.2.1 k)), (1, .int a1), (2, .int a2), (3, .int 0), (4, .int (-1)), (5, .int 0)]) [3, 4, 5, 2, 1, 0] rfl ?_
        obtain ⟨n1, H⟩ := H
        exact fm_X10_began_91 d o_k n1 _ _ _ _ H
      · replace H := a_neg2 c40 H
        refine aw_bipush (v := (-2)) dX10_began_69 (by decide) ?_
        exact aw_iret rfl H dX10_began_71
  · replace H := a_neg c29 H
    refine aw_bipush (v := (-3)) dX10_began_30 (by decide) ?_
    exact aw_iret rfl H dX10_began_32
set_option maxHeartbeats 4000000 in
set_option maxRecDepth 100000 in
theorem am_X10_began {l : Launch} {S : aS} {G : aG} (d : Nat) {k : Nat} {a1 : Int32} {a2 : Int32} {h : aH} {Q : Int32 → aH → Prop} (o_k : aObj S k 9 flX10) (H : f_X10_began S k a1 a2 h Q) : AMi l S G (d + 7) M_X10_began [.ref (G.2.1 k), .int a1, .int a2] h Q := by
  unfold f_X10_began at H
  refine am_of mf_X10_began (Nat.le_of_ble_eq_true rfl) (lv0 := [(0, .ref (G.2.1 k)), (1, .int a1), (2, .int a2)]) rfl ?_
  refine aw_iload_n dX10_began_0 rfl 1 rfl ?_
  refine aw_iconst (v := 1) dX10_began_1 (by decide) ?_
  refine aw_bipush (v := 40) dX10_began_2 (by decide) ?_
  refine aw_callS_i (As := [.int a1, .int 1, .int 40]) (rest := []) (am_X10_within (d + 6) H) mf_X10_within wd_342 wd_343 rfl rfl (Nat.le_of_ble_eq_true rfl) dX10_began_4 (fun r45 h44 H => ?_)
  refine aw_if_eq (tgt := 30) dX10_began_7 (by decide) (fun c46 => ?_) (fun c46 => ?_)
  · replace H := a_pos c46 H
    refine aw_bipush (v := (-3)) dX10_began_30 (by decide) ?_
    exact aw_iret rfl H dX10_began_32
  · replace H := a_neg c46 H
    refine aw_iload_n dX10_began_10 rfl 2 rfl ?_
    refine aw_if_eq (tgt := 19) dX10_began_11 (by decide) (fun c47 => ?_) (fun c47 => ?_)
    · replace H := a_pos c47 H
      exact fm_X10_began_19 d o_k _ H
    · replace H := a_neg c47 H
      refine aw_iload_n dX10_began_14 rfl 2 rfl ?_
      refine aw_iconst (v := 1) dX10_began_15 (by decide) ?_
      refine aw_icmp_ne (tgt := 30) dX10_began_16 (by decide) (fun c48 => ?_) (fun c48 => ?_)
      · replace H := a_pos c48 H
        refine aw_bipush (v := (-3)) dX10_began_30 (by decide) ?_
        exact aw_iret rfl H dX10_began_32
      · replace H := a_neg2 c48 H
        exact fm_X10_began_19 d o_k _ H
set_option maxHeartbeats 4000000 in
set_option maxRecDepth 100000 in
theorem fm_X10_feeOf_97 {l : Launch} {S : aS} {G : aG} (d : Nat) {k : Nat} {a1 : Int32} {a2 : Int32} {Q : Int32 → aH → Prop} (o_k : aObj S k 9 flX10) {K69 : Int32 → Int32 → Int32 → aH → Prop} (hK69 : ∀ (x3 : Int32) (x4 : Int32) (x5 : Int32) (h : aH), K69 x3 x4 x5 h → AW l S G (d + 4) M_X10_feeOf (va_Qi Q (aPo S G) (aA S G)) 69 [(0, .ref (G.2.1 k)), (1, .int a1), (2, .int a2), (3, .int x3), (4, .int x4), (5, .int x5)] [] h) (x3 : Int32) (x4 : Int32) (x5 : Int32) (s0 : Int32) (h : aH) (H : f_X10_feeOf_97 S k a1 a2 Q K69 x3 x4 x5 s0 h) : AW l S G (d + 4) M_X10_feeOf (va_Qi Q (aPo S G) (aA S G)) 97 [(0, .ref (G.2.1 k)), (1, .int a1), (2, .int a2), (3, .int x3), (4, .int x4), (5, .int x5)] [.int s0] h := by
  unfold f_X10_feeOf_97 at H
  refine aw_istore (lv' := [(6, .int s0), (0, .ref (G.2.1 k)), (1, .int a1), (2, .int a2), (3, .int x3), (4, .int x4), (5, .int x5)]) dX10_feeOf_97 (by decide) rfl ?_
  refine aw_iload dX10_feeOf_99 0 rfl ?_
  refine aw_if_eq (tgt := 150) dX10_feeOf_101 (by decide) (fun c1 => ?_) (fun c1 => ?_)
  · replace H := a_pos c1 H
    obtain ⟨x5_2, e_x5_2⟩ : ∃ y : Int32, y = x5 + 1 := ⟨_, rfl⟩
    replace H := H x5_2 e_x5_2
    refine aw_iinc (v := x5_2) (lv' := [(5, .int x5_2), (6, .int s0), (0, .ref (G.2.1 k)), (1, .int a1), (2, .int a2), (3, .int x3), (4, .int x4)]) dX10_feeOf_150 (n0 := 6) rfl (by rw [e_x5_2]; rfl) (by decide) rfl ?_
    refine aw_goto (tgt := 69) dX10_feeOf_153 (by decide) ?_
    refine aw_sub (lv' := [(0, .ref (G.2.1 k)), (1, .int a1), (2, .int a2), (3, .int x3), (4, .int x4), (5, .int x5_2)]) [2, 3, 4, 5, 6, 0] rfl ?_
    exact hK69 _ _ _ _ H
  · replace H := a_neg c1 H
    refine aw_aload_n dX10_feeOf_104 rfl 1 rfl ?_
    refine aw_getR cf_X10 5 (by decide) rfl wd_306 o_k dX10_feeOf_105 ?_
    refine aw_aload_n dX10_feeOf_108 rfl 1 rfl ?_
    refine aw_getR cf_X10 0 (by decide) rfl wd_301 o_k dX10_feeOf_109 ?_
    refine aw_aload_n dX10_feeOf_112 rfl 1 rfl ?_
    refine aw_getR cf_X10 4 (by decide) rfl wd_305 o_k dX10_feeOf_113 ?_
    obtain ⟨o3, H⟩ := H
    refine aw_getR cf_X9 0 (by decide) rfl wd_140 o3 dX10_feeOf_116 ?_
    refine aw_iload dX10_feeOf_119 6 rfl ?_
    obtain ⟨z4, H⟩ := H
    refine aw_iaload z4 dX10_feeOf_121 ?_
    refine aw_name (fun v5 e_v5 => ?_)
    replace H := H v5 e_v5
    obtain ⟨o6, H⟩ := H
    obtain ⟨o7, H⟩ := H
    refine aw_callV_i (As := [.ref (G.2.1 (gR h k 0)), .int v5]) (rest := []) (am_X5_bears d o6 o7 H) mf_X5_bears wd_762 wd_657 wd_658 cf_X5 o6 rfl rfl (Nat.le_of_ble_eq_true rfl) dX10_feeOf_122 (fun r9 h8 H => ?_)
    refine aw_iload_n dX10_feeOf_125 rfl 2 rfl ?_
    refine aw_icmp_ge (tgt := 150) dX10_feeOf_126 (by decide) (fun c10 => ?_) (fun c10 => ?_)
    · replace H := a_pos c10 H
      obtain ⟨x5_11, e_x5_11⟩ : ∃ y : Int32, y = x5 + 1 := ⟨_, rfl⟩
      replace H := H x5_11 e_x5_11
      refine aw_iinc (v := x5_11) (lv' := [(5, .int x5_11), (6, .int s0), (0, .ref (G.2.1 k)), (1, .int a1), (2, .int a2), (3, .int x3), (4, .int x4)]) dX10_feeOf_150 (n0 := 6) rfl (by rw [e_x5_11]; rfl) (by decide) rfl ?_
      refine aw_goto (tgt := 69) dX10_feeOf_153 (by decide) ?_
      refine aw_sub (lv' := [(0, .ref (G.2.1 k)), (1, .int a1), (2, .int a2), (3, .int x3), (4, .int x4), (5, .int x5_11)]) [2, 3, 4, 5, 6, 0] rfl ?_
      exact hK69 _ _ _ _ H
    · replace H := a_neg c10 H
      refine aw_iload dX10_feeOf_129 5 rfl ?_
      refine aw_iconst (v := 0) dX10_feeOf_131 (by decide) ?_
      refine aw_aload_n dX10_feeOf_132 rfl 1 rfl ?_
      refine aw_getR cf_X10 4 (by decide) rfl wd_305 o_k dX10_feeOf_133 ?_
      obtain ⟨o12, H⟩ := H
      refine aw_getR cf_X9 1 (by decide) rfl wd_143 o12 dX10_feeOf_136 ?_
      refine aw_iload dX10_feeOf_139 6 rfl ?_
      obtain ⟨z13, H⟩ := H
      refine aw_iaload z13 dX10_feeOf_141 ?_
      refine aw_name (fun v14 e_v14 => ?_)
      replace H := H v14 e_v14
      refine aw_iload_n dX10_feeOf_142 rfl 4 rfl ?_
      refine aw_isub dX10_feeOf_143 ?_
      refine aw_mmax wd_978 wd_475 wd_15 wd_476 (Nat.le_of_ble_eq_true rfl) dX10_feeOf_144 ?_
      refine aw_name (fun v15 e_v15 => ?_)
      replace H := H v15 e_v15
      refine aw_iadd dX10_feeOf_147 ?_
      refine aw_name (fun x4_16 e_x4_16 => ?_)
      replace H := H x4_16 e_x4_16
      refine aw_istore (lv' := [(4, .int x4_16), (6, .int s0), (0, .ref (G.2.1 k)), (1, .int a1), (2, .int a2), (3, .int x3), (5, .int x5)]) dX10_feeOf_148 (by decide) rfl ?_
      obtain ⟨x5_17, e_x5_17⟩ : ∃ y : Int32, y = x5 + 1 := ⟨_, rfl⟩
      replace H := H x5_17 e_x5_17
      refine aw_iinc (v := x5_17) (lv' := [(5, .int x5_17), (4, .int x4_16), (6, .int s0), (0, .ref (G.2.1 k)), (1, .int a1), (2, .int a2), (3, .int x3)]) dX10_feeOf_150 (n0 := 6) rfl (by rw [e_x5_17]; rfl) (by decide) rfl ?_
      refine aw_goto (tgt := 69) dX10_feeOf_153 (by decide) ?_
      refine aw_sub (lv' := [(0, .ref (G.2.1 k)), (1, .int a1), (2, .int a2), (3, .int x3), (4, .int x4_16), (5, .int x5_17)]) [3, 4, 5, 6, 1, 0] rfl ?_
      exact hK69 _ _ _ _ H
set_option maxHeartbeats 4000000 in
set_option maxRecDepth 100000 in
theorem fm_X10_feeOf_69 {l : Launch} {S : aS} {G : aG} (d : Nat) {k : Nat} {a1 : Int32} {a2 : Int32} {Q : Int32 → aH → Prop} (o_k : aObj S k 9 flX10) : ∀ (n : Nat) (x3 : Int32) (x4 : Int32) (x5 : Int32) (h : aH), f_X10_feeOf_69 S k a1 a2 Q n x3 x4 x5 h → AW l S G (d + 4) M_X10_feeOf (va_Qi Q (aPo S G) (aA S G)) 69 [(0, .ref (G.2.1 k)), (1, .int a1), (2, .int a2), (3, .int x3), (4, .int x4), (5, .int x5)] [] h := by
  intro n
  induction n with
  | zero => intro x3 x4 x5 h H; exact False.elim H
  | succ n ih =>
    intro x3 x4 x5 h H
    unfold f_X10_feeOf_69 at H
    refine aw_iload dX10_feeOf_69 5 rfl ?_
    refine aw_aload_n dX10_feeOf_71 rfl 0 rfl ?_
    refine aw_getR cf_X10 4 (by decide) rfl wd_305 o_k dX10_feeOf_72 ?_
    obtain ⟨o18, H⟩ := H
    refine aw_getI cf_X9 2 (by decide) rfl wd_147 o18 dX10_feeOf_75 ?_
    refine aw_name (fun v19 e_v19 => ?_)
    replace H := H v19 e_v19
    refine aw_icmp_ge (tgt := 156) dX10_feeOf_78 (by decide) (fun c20 => ?_) (fun c20 => ?_)
    · replace H := a_pos c20 H
      refine aw_iload dX10_feeOf_156 4 rfl ?_
      exact aw_iret rfl H dX10_feeOf_158
    · replace H := a_neg c20 H
      refine aw_iload_n dX10_feeOf_81 rfl 2 rfl ?_
      refine aw_iconst (v := (-1)) dX10_feeOf_82 (by decide) ?_
      refine aw_icmp_eq (tgt := 92) dX10_feeOf_83 (by decide) (fun c21 => ?_) (fun c21 => ?_)
      · replace H := a_pos c21 H
        refine aw_iconst (v := 1) dX10_feeOf_92 (by decide) ?_
        refine aw_goto (tgt := 97) dX10_feeOf_93 (by decide) ?_
        exact fm_X10_feeOf_97 d o_k ih _ _ _ _ _ H
      · replace H := a_neg c21 H
        refine aw_iload_n dX10_feeOf_86 rfl 2 rfl ?_
        refine aw_iload dX10_feeOf_87 5 rfl ?_
        refine aw_icmp_ne (tgt := 96) dX10_feeOf_89 (by decide) (fun c22 => ?_) (fun c22 => ?_)
        · replace H := a_pos c22 H
          refine aw_iconst (v := 0) dX10_feeOf_96 (by decide) ?_
          exact fm_X10_feeOf_97 d o_k ih _ _ _ _ _ H
        · replace H := a_neg2 c22 H
          refine aw_iconst (v := 1) dX10_feeOf_92 (by decide) ?_
          refine aw_goto (tgt := 97) dX10_feeOf_93 (by decide) ?_
          exact fm_X10_feeOf_97 d o_k ih _ _ _ _ _ H
set_option maxHeartbeats 4000000 in
set_option maxRecDepth 100000 in
theorem fm_X10_feeOf_5 {l : Launch} {S : aS} {G : aG} (d : Nat) {k : Nat} {a1 : Int32} {a2 : Int32} {Q : Int32 → aH → Prop} (o_k : aObj S k 9 flX10) : ∀ (n : Nat) (x3 : Int32) (x4 : Int32) (h : aH), f_X10_feeOf_5 S k a1 a2 Q n x3 x4 h → AW l S G (d + 4) M_X10_feeOf (va_Qi Q (aPo S G) (aA S G)) 5 [(0, .ref (G.2.1 k)), (1, .int a1), (2, .int a2), (3, .int x3), (4, .int x4)] [] h := by
  intro n
  induction n with
  | zero => intro x3 x4 h H; exact False.elim H
  | succ n ih =>
    intro x3 x4 h H
    unfold f_X10_feeOf_5 at H
    refine aw_iload dX10_feeOf_5 4 rfl ?_
    refine aw_aload_n dX10_feeOf_7 rfl 0 rfl ?_
    refine aw_getR cf_X10 4 (by decide) rfl wd_305 o_k dX10_feeOf_8 ?_
    obtain ⟨o23, H⟩ := H
    refine aw_getI cf_X9 2 (by decide) rfl wd_147 o23 dX10_feeOf_11 ?_
    refine aw_name (fun v24 e_v24 => ?_)
    replace H := H v24 e_v24
    refine aw_icmp_ge (tgt := 63) dX10_feeOf_14 (by decide) (fun c25 => ?_) (fun c25 => ?_)
    · replace H := a_pos c25 H
      refine aw_iconst (v := 0) dX10_feeOf_63 (by decide) ?_
      refine aw_istore (lv' := [(4, .int 0), (0, .ref (G.2.1 k)), (1, .int a1), (2, .int a2), (3, .int x3)]) dX10_feeOf_64 (by decide) rfl ?_
      refine aw_iconst (v := 0) dX10_feeOf_66 (by decide) ?_
      refine aw_istore (lv' := [(5, .int 0), (4, .int 0), (0, .ref (G.2.1 k)), (1, .int a1), (2, .int a2), (3, .int x3)]) dX10_feeOf_67 (by decide) rfl ?_
      refine aw_sub (lv' := [(0, .ref (G.2.1 k)), (1, .int a1), (2, .int a2), (3, .int x3), (4, .int 0), (5, .int 0)]) [2, 3, 4, 5, 1, 0] rfl ?_
      obtain ⟨n1, H⟩ := H
      exact fm_X10_feeOf_69 d o_k n1 _ _ _ _ H
    · replace H := a_neg c25 H
      refine aw_aload_n dX10_feeOf_17 rfl 0 rfl ?_
      refine aw_getR cf_X10 5 (by decide) rfl wd_306 o_k dX10_feeOf_18 ?_
      refine aw_aload_n dX10_feeOf_21 rfl 0 rfl ?_
      refine aw_getR cf_X10 0 (by decide) rfl wd_301 o_k dX10_feeOf_22 ?_
      refine aw_aload_n dX10_feeOf_25 rfl 0 rfl ?_
      refine aw_getR cf_X10 4 (by decide) rfl wd_305 o_k dX10_feeOf_26 ?_
      refine aw_getR cf_X9 0 (by decide) rfl wd_140 o23 dX10_feeOf_29 ?_
      refine aw_iload dX10_feeOf_32 4 rfl ?_
      obtain ⟨z26, H⟩ := H
      refine aw_iaload z26 dX10_feeOf_34 ?_
      refine aw_name (fun v27 e_v27 => ?_)
      replace H := H v27 e_v27
      obtain ⟨o28, H⟩ := H
      obtain ⟨o29, H⟩ := H
      refine aw_callV_i (As := [.ref (G.2.1 (gR h k 0)), .int v27]) (rest := []) (am_X5_bears d o28 o29 H) mf_X5_bears wd_762 wd_657 wd_658 cf_X5 o28 rfl rfl (Nat.le_of_ble_eq_true rfl) dX10_feeOf_35 (fun r31 h30 H => ?_)
      refine aw_iload_n dX10_feeOf_38 rfl 1 rfl ?_
      refine aw_icmp_lt (tgt := 57) dX10_feeOf_39 (by decide) (fun c32 => ?_) (fun c32 => ?_)
      · replace H := a_pos c32 H
        obtain ⟨x4_33, e_x4_33⟩ : ∃ y : Int32, y = x4 + 1 := ⟨_, rfl⟩
        replace H := H x4_33 e_x4_33
        refine aw_iinc (v := x4_33) (lv' := [(4, .int x4_33), (0, .ref (G.2.1 k)), (1, .int a1), (2, .int a2), (3, .int x3)]) dX10_feeOf_57 (n0 := 4) rfl (by rw [e_x4_33]; rfl) (by decide) rfl ?_
        refine aw_goto (tgt := 5) dX10_feeOf_60 (by decide) ?_
        refine aw_sub (lv' := [(0, .ref (G.2.1 k)), (1, .int a1), (2, .int a2), (3, .int x3), (4, .int x4_33)]) [1, 2, 3, 4, 0] rfl ?_
        exact ih _ _ _ H
      · replace H := a_neg c32 H
        refine aw_iload_n dX10_feeOf_42 rfl 3 rfl ?_
        refine aw_aload_n dX10_feeOf_43 rfl 0 rfl ?_
        refine aw_getR cf_X10 4 (by decide) rfl wd_305 o_k dX10_feeOf_44 ?_
        obtain ⟨o34, H⟩ := H
        refine aw_getR cf_X9 1 (by decide) rfl wd_143 o34 dX10_feeOf_47 ?_
        refine aw_iload dX10_feeOf_50 4 rfl ?_
        obtain ⟨z35, H⟩ := H
        refine aw_iaload z35 dX10_feeOf_52 ?_
        refine aw_name (fun v36 e_v36 => ?_)
        replace H := H v36 e_v36
        refine aw_mmax wd_978 wd_475 wd_15 wd_476 (Nat.le_of_ble_eq_true rfl) dX10_feeOf_53 ?_
        refine aw_name (fun v37 e_v37 => ?_)
        replace H := H v37 e_v37
        refine aw_istore_n (lv' := [(3, .int v37), (0, .ref (G.2.1 k)), (1, .int a1), (2, .int a2), (4, .int x4)]) dX10_feeOf_56 rfl (by decide) rfl ?_
        obtain ⟨x4_38, e_x4_38⟩ : ∃ y : Int32, y = x4 + 1 := ⟨_, rfl⟩
        replace H := H x4_38 e_x4_38
        refine aw_iinc (v := x4_38) (lv' := [(4, .int x4_38), (3, .int v37), (0, .ref (G.2.1 k)), (1, .int a1), (2, .int a2)]) dX10_feeOf_57 (n0 := 4) rfl (by rw [e_x4_38]; rfl) (by decide) rfl ?_
        refine aw_goto (tgt := 5) dX10_feeOf_60 (by decide) ?_
        refine aw_sub (lv' := [(0, .ref (G.2.1 k)), (1, .int a1), (2, .int a2), (3, .int v37), (4, .int x4_38)]) [2, 3, 4, 1, 0] rfl ?_
        exact ih _ _ _ H
set_option maxHeartbeats 4000000 in
set_option maxRecDepth 100000 in
theorem am_X10_feeOf {l : Launch} {S : aS} {G : aG} (d : Nat) {k : Nat} {a1 : Int32} {a2 : Int32} {h : aH} {Q : Int32 → aH → Prop} (o_k : aObj S k 9 flX10) (H : f_X10_feeOf S k a1 a2 h Q) : AMi l S G (d + 4) M_X10_feeOf [.ref (G.2.1 k), .int a1, .int a2] h Q := by
  unfold f_X10_feeOf at H
  refine am_of mf_X10_feeOf (Nat.le_of_ble_eq_true rfl) (lv0 := [(0, .ref (G.2.1 k)), (1, .int a1), (2, .int a2)]) rfl ?_
  refine aw_iconst (v := 0) dX10_feeOf_0 (by decide) ?_
  refine aw_istore_n (lv' := [(3, .int 0), (0, .ref (G.2.1 k)), (1, .int a1), (2, .int a2)]) dX10_feeOf_1 rfl (by decide) rfl ?_
  refine aw_iconst (v := 0) dX10_feeOf_2 (by decide) ?_
  refine aw_istore (lv' := [(4, .int 0), (3, .int 0), (0, .ref (G.2.1 k)), (1, .int a1), (2, .int a2)]) dX10_feeOf_3 (by decide) rfl ?_
  refine aw_sub (lv' := [(0, .ref (G.2.1 k)), (1, .int a1), (2, .int a2), (3, .int 0), (4, .int 0)]) [2, 3, 4, 1, 0] rfl ?_
  obtain ⟨n1, H⟩ := H
  exact fm_X10_feeOf_5 d o_k n1 _ _ _ H
set_option maxHeartbeats 4000000 in
set_option maxRecDepth 100000 in
theorem am_X10_fee {l : Launch} {S : aS} {G : aG} (d : Nat) {k : Nat} {a1 : Int32} {a2 : Int32} {a3 : Int32} {h : aH} {Q : Int32 → aH → Prop} (o_k : aObj S k 9 flX10) (H : f_X10_fee S k a1 a2 a3 h Q) : AMi l S G (d + 5) M_X10_fee [.ref (G.2.1 k), .int a1, .int a2, .int a3] h Q := by
  unfold f_X10_fee at H
  refine am_of mf_X10_fee (Nat.le_of_ble_eq_true rfl) (lv0 := [(0, .ref (G.2.1 k)), (1, .int a1), (2, .int a2), (3, .int a3)]) rfl ?_
  refine aw_iload_n dX10_fee_0 rfl 1 rfl ?_
  refine aw_iconst (v := 1) dX10_fee_1 (by decide) ?_
  refine aw_bipush (v := 10) dX10_fee_2 (by decide) ?_
  refine aw_callS_i (As := [.int a1, .int 1, .int 10]) (rest := []) (am_X10_within (d + 4) H) mf_X10_within wd_342 wd_343 rfl rfl (Nat.le_of_ble_eq_true rfl) dX10_fee_4 (fun r2 h1 H => ?_)
  refine aw_if_eq (tgt := 44) dX10_fee_7 (by decide) (fun c3 => ?_) (fun c3 => ?_)
  · replace H := a_pos c3 H
    refine aw_bipush (v := (-3)) dX10_fee_44 (by decide) ?_
    exact aw_iret rfl H dX10_fee_46
  · replace H := a_neg c3 H
    refine aw_iload_n dX10_fee_10 rfl 2 rfl ?_
    refine aw_iconst (v := 0) dX10_fee_11 (by decide) ?_
    refine aw_sipush (v := 9999) dX10_fee_12 (by decide) ?_
    refine aw_callS_i (As := [.int a2, .int 0, .int 9999]) (rest := []) (am_X10_within (d + 4) H) mf_X10_within wd_342 wd_343 rfl rfl (Nat.le_of_ble_eq_true rfl) dX10_fee_15 (fun r5 h4 H => ?_)
    refine aw_if_eq (tgt := 44) dX10_fee_18 (by decide) (fun c6 => ?_) (fun c6 => ?_)
    · replace H := a_pos c6 H
      refine aw_bipush (v := (-3)) dX10_fee_44 (by decide) ?_
      exact aw_iret rfl H dX10_fee_46
    · replace H := a_neg c6 H
      refine aw_iload_n dX10_fee_21 rfl 3 rfl ?_
      refine aw_iconst (v := (-1)) dX10_fee_22 (by decide) ?_
      refine aw_icmp_lt (tgt := 44) dX10_fee_23 (by decide) (fun c7 => ?_) (fun c7 => ?_)
      · replace H := a_pos c7 H
        refine aw_bipush (v := (-3)) dX10_fee_44 (by decide) ?_
        exact aw_iret rfl H dX10_fee_46
      · replace H := a_neg c7 H
        refine aw_iload_n dX10_fee_26 rfl 3 rfl ?_
        refine aw_iload_n dX10_fee_27 rfl 1 rfl ?_
        refine aw_icmp_ge (tgt := 44) dX10_fee_28 (by decide) (fun c8 => ?_) (fun c8 => ?_)
        · replace H := a_pos c8 H
          refine aw_bipush (v := (-3)) dX10_fee_44 (by decide) ?_
          exact aw_iret rfl H dX10_fee_46
        · replace H := a_neg c8 H
          refine aw_iconst (v := 2) dX10_fee_31 (by decide) ?_
          refine aw_iload_n dX10_fee_32 rfl 1 rfl ?_
          refine aw_imul dX10_fee_33 ?_
          refine aw_aload_n dX10_fee_34 rfl 0 rfl ?_
          refine aw_getR cf_X10 3 (by decide) rfl wd_304 o_k dX10_fee_35 ?_
          obtain ⟨o9, H⟩ := H
          refine aw_getI cf_X8 1 (by decide) rfl wd_126 o9 dX10_fee_38 ?_
          refine aw_name (fun v10 e_v10 => ?_)
          replace H := H v10 e_v10
          refine aw_icmp_le (tgt := 47) dX10_fee_41 (by decide) (fun c11 => ?_) (fun c11 => ?_)
          · replace H := a_pos c11 H
            refine aw_aload_n dX10_fee_47 rfl 0 rfl ?_
            refine aw_getR cf_X10 4 (by decide) rfl wd_305 o_k dX10_fee_48 ?_
            refine aw_aload_n dX10_fee_51 rfl 0 rfl ?_
            refine aw_getR cf_X10 3 (by decide) rfl wd_304 o_k dX10_fee_52 ?_
            refine aw_iload_n dX10_fee_55 rfl 1 rfl ?_
            obtain ⟨o12, H⟩ := H
            refine aw_callV_v (As := [.ref (G.2.1 (gR h4 k 3)), .int a1]) (rest := []) (am_X9_readPairs (d + 3) o12 o9 H) mf_X9_readPairs wd_801 wd_802 wd_803 cf_X9 o12 rfl rfl (Nat.le_of_ble_eq_true rfl) dX10_fee_56 (fun h13 H => ?_)
            refine aw_aload_n dX10_fee_59 rfl 0 rfl ?_
            refine aw_getR cf_X10 4 (by decide) rfl wd_305 o_k dX10_fee_60 ?_
            obtain ⟨o14, H⟩ := H
            refine aw_callV_i (As := []) (rest := []) (am_X9_hasTwice (d + 4) o14 H) mf_X9_hasTwice wd_810 wd_811 wd_812 cf_X9 o14 rfl rfl (Nat.le_of_ble_eq_true rfl) dX10_fee_63 (fun r16 h15 H => ?_)
            refine aw_if_ne (tgt := 83) dX10_fee_66 (by decide) (fun c17 => ?_) (fun c17 => ?_)
            · replace H := a_pos c17 H
              refine aw_bipush (v := (-2)) dX10_fee_83 (by decide) ?_
              exact aw_iret rfl H dX10_fee_85
            · replace H := a_neg2 c17 H
              refine aw_aload_n dX10_fee_69 rfl 0 rfl ?_
              refine aw_getR cf_X10 4 (by decide) rfl wd_305 o_k dX10_fee_70 ?_
              refine aw_aload_n dX10_fee_73 rfl 0 rfl ?_
              refine aw_getR cf_X10 0 (by decide) rfl wd_301 o_k dX10_fee_74 ?_
              obtain ⟨o18, H⟩ := H
              obtain ⟨o19, H⟩ := H
              refine aw_callV_i (As := [.ref (G.2.1 (gR h15 k 0))]) (rest := []) (am_X9_allFirm (d + 2) o18 o19 H) mf_X9_allFirm wd_950 wd_951 wd_952 cf_X9 o18 rfl rfl (Nat.le_of_ble_eq_true rfl) dX10_fee_77 (fun r21 h20 H => ?_)
              refine aw_if_ne (tgt := 86) dX10_fee_80 (by decide) (fun c22 => ?_) (fun c22 => ?_)
              · replace H := a_pos c22 H
                refine aw_aload_n dX10_fee_86 rfl 0 rfl ?_
                refine aw_iload_n dX10_fee_87 rfl 2 rfl ?_
                refine aw_iload_n dX10_fee_88 rfl 3 rfl ?_
                refine aw_callV_i (As := [.int a2, .int a3]) (rest := []) (am_X10_feeOf d o_k H) mf_X10_feeOf wd_974 wd_976 ws_2_14 cf_X10 o_k rfl rfl (Nat.le_of_ble_eq_true rfl) dX10_fee_89 (fun r24 h23 H => ?_)
                exact aw_iret rfl H dX10_fee_92
              · replace H := a_neg2 c22 H
                refine aw_bipush (v := (-2)) dX10_fee_83 (by decide) ?_
                exact aw_iret rfl H dX10_fee_85
          · replace H := a_neg c11 H
            refine aw_bipush (v := (-3)) dX10_fee_44 (by decide) ?_
            exact aw_iret rfl H dX10_fee_46
set_option maxHeartbeats 4000000 in
set_option maxRecDepth 100000 in
theorem am_X10_row {l : Launch} {S : aS} {G : aG} (d : Nat) {k : Nat} {a1 : Int32} {a2 : Int32} {h : aH} {Q : Int32 → aH → Prop} (o_k : aObj S k 9 flX10) (H : f_X10_row S k a1 a2 h Q) : AMi l S G (d + 4) M_X10_row [.ref (G.2.1 k), .int a1, .int a2] h Q := by
  unfold f_X10_row at H
  refine am_of mf_X10_row (Nat.le_of_ble_eq_true rfl) (lv0 := [(0, .ref (G.2.1 k)), (1, .int a1), (2, .int a2)]) rfl ?_
  refine aw_iload_n dX10_row_0 rfl 1 rfl ?_
  refine aw_iload_n dX10_row_1 rfl 2 rfl ?_
  refine aw_callS_i (As := [.int a1, .int a2]) (rest := []) (am_X1_has (d + 3) H) mf_X1_has wd_339 wd_340 rfl rfl (Nat.le_of_ble_eq_true rfl) dX10_row_2 (fun r2 h1 H => ?_)
  refine aw_if_ne (tgt := 10) dX10_row_5 (by decide) (fun c3 => ?_) (fun c3 => ?_)
  · replace H := a_pos c3 H
    refine aw_aload_n dX10_row_10 rfl 0 rfl ?_
    refine aw_getR cf_X10 0 (by decide) rfl wd_301 o_k dX10_row_11 ?_
    refine aw_iload_n dX10_row_14 rfl 1 rfl ?_
    refine aw_iload_n dX10_row_15 rfl 2 rfl ?_
    refine aw_callS_i (As := [.int a1, .int a2]) (rest := [.ref (G.2.1 (gR h1 k 0))]) (am_X1_at (d + 3) H) mf_X1_at wd_345 wd_346 rfl rfl (Nat.le_of_ble_eq_true rfl) dX10_row_16 (fun r5 h4 H => ?_)
    obtain ⟨o6, H⟩ := H
    refine aw_callV_i (As := [.int r5]) (rest := []) (am_X2_makesRow d o6 H) mf_X2_makesRow wd_600 wd_601 wd_602 cf_X2 o6 rfl rfl (Nat.le_of_ble_eq_true rfl) dX10_row_19 (fun r8 h7 H => ?_)
    refine aw_if_eq (tgt := 29) dX10_row_22 (by decide) (fun c9 => ?_) (fun c9 => ?_)
    · replace H := a_pos c9 H
      refine aw_iconst (v := 0) dX10_row_29 (by decide) ?_
      exact aw_iret rfl H dX10_row_30
    · replace H := a_neg c9 H
      refine aw_iconst (v := 1) dX10_row_25 (by decide) ?_
      refine aw_goto (tgt := 30) dX10_row_26 (by decide) ?_
      exact aw_iret rfl H dX10_row_30
  · replace H := a_neg2 c3 H
    refine aw_iconst (v := (-1)) dX10_row_8 (by decide) ?_
    exact aw_iret rfl H dX10_row_9
set_option maxHeartbeats 4000000 in
set_option maxRecDepth 100000 in
theorem am_X10_seed {l : Launch} {S : aS} {G : aG} (d : Nat) {k : Nat} {a1 : Int32} {h : aH} {Q : Int32 → aH → Prop} (o_k : aObj S k 9 flX10) (H : f_X10_seed S k a1 h Q) : AMi l S G (d + 1) M_X10_seed [.ref (G.2.1 k), .int a1] h Q := by
  unfold f_X10_seed at H
  refine am_of mf_X10_seed (Nat.le_of_ble_eq_true rfl) (lv0 := [(0, .ref (G.2.1 k)), (1, .int a1)]) rfl ?_
  refine aw_iload_n dX10_seed_0 rfl 1 rfl ?_
  refine aw_iconst (v := 0) dX10_seed_1 (by decide) ?_
  refine aw_ldcw (v := 65535) dX10_seed_2 wd_987 ?_
  refine aw_callS_i (As := [.int a1, .int 0, .int 65535]) (rest := []) (am_X10_within d H) mf_X10_within wd_342 wd_343 rfl rfl (Nat.le_of_ble_eq_true rfl) dX10_seed_5 (fun r2 h1 H => ?_)
  refine aw_if_ne (tgt := 13) dX10_seed_8 (by decide) (fun c3 => ?_) (fun c3 => ?_)
  · replace H := a_pos c3 H
    refine aw_aload_n dX10_seed_13 rfl 0 rfl ?_
    refine aw_getR cf_X10 0 (by decide) rfl wd_301 o_k dX10_seed_14 ?_
    refine aw_iload_n dX10_seed_17 rfl 1 rfl ?_
    obtain ⟨o4, H⟩ := H
    refine aw_putI cf_X2 14 (by decide) rfl wd_83 rfl rfl rfl o4 dX10_seed_18 ?_
    refine aw_nameH (fun h5 e_h5 => ?_)
    replace H := H h5 e_h5
    refine aw_iconst (v := 1) dX10_seed_21 (by decide) ?_
    exact aw_zret rfl rfl H dX10_seed_22
  · replace H := a_neg2 c3 H
    refine aw_iconst (v := 0) dX10_seed_11 (by decide) ?_
    exact aw_zret rfl rfl H dX10_seed_12
set_option maxHeartbeats 4000000 in
set_option maxRecDepth 100000 in
theorem fm_X10_draw_16 {l : Launch} {S : aS} {G : aG} (d : Nat) {k : Nat} {a1 : Int32} {Q : Int32 → aH → Prop} (o_k : aObj S k 9 flX10) : ∀ (n : Nat) (x2 : Int32) (x3 : Int32) (h : aH), f_X10_draw_16 S k a1 Q n x2 x3 h → AW l S G (d + 7) M_X10_draw (va_Qi Q (aPo S G) (aA S G)) 16 [(0, .ref (G.2.1 k)), (1, .int a1), (2, .int x2), (3, .int x3)] [] h := by
  intro n
  induction n with
  | zero => intro x2 x3 h H; exact False.elim H
  | succ n ih =>
    intro x2 x3 h H
    unfold f_X10_draw_16 at H
    refine aw_iload_n dX10_draw_16 rfl 3 rfl ?_
    refine aw_iload_n dX10_draw_17 rfl 1 rfl ?_
    refine aw_icmp_ge (tgt := 49) dX10_draw_18 (by decide) (fun c1 => ?_) (fun c1 => ?_)
    · replace H := a_pos c1 H
      refine aw_iload_n dX10_draw_49 rfl 2 rfl ?_
      exact aw_iret rfl H dX10_draw_50
    · replace H := a_neg c1 H
      refine aw_aload_n dX10_draw_21 rfl 0 rfl ?_
      refine aw_getR cf_X10 0 (by decide) rfl wd_301 o_k dX10_draw_22 ?_
      obtain ⟨o2, H⟩ := H
      refine aw_callV_v (As := []) (rest := []) (am_X2_drift (d + 3) o2 H) mf_X2_drift wd_992 wd_993 wd_994 cf_X2 o2 rfl rfl (Nat.le_of_ble_eq_true rfl) dX10_draw_25 (fun h3 H => ?_)
      refine aw_iload_n dX10_draw_28 rfl 2 rfl ?_
      refine aw_aload_n dX10_draw_29 rfl 0 rfl ?_
      refine aw_getR cf_X10 5 (by decide) rfl wd_306 o_k dX10_draw_30 ?_
      refine aw_aload_n dX10_draw_33 rfl 0 rfl ?_
      refine aw_getR cf_X10 0 (by decide) rfl wd_301 o_k dX10_draw_34 ?_
      refine aw_iconst (v := 1) dX10_draw_37 (by decide) ?_
      obtain ⟨o4, H⟩ := H
      obtain ⟨o5, H⟩ := H
      refine aw_callV_i (As := [.ref (G.2.1 (gR h3 k 0)), .int 1]) (rest := [.int x2]) (am_X5_pass d o4 o5 H) mf_X5_pass wd_672 wd_673 wd_674 cf_X5 o4 rfl rfl (Nat.le_of_ble_eq_true rfl) dX10_draw_38 (fun r7 h6 H => ?_)
      refine aw_iadd dX10_draw_41 ?_
      refine aw_name (fun x2_8 e_x2_8 => ?_)
      replace H := H x2_8 e_x2_8
      refine aw_istore_n (lv' := [(2, .int x2_8), (0, .ref (G.2.1 k)), (1, .int a1), (3, .int x3)]) dX10_draw_42 rfl (by decide) rfl ?_
      obtain ⟨x3_9, e_x3_9⟩ : ∃ y : Int32, y = x3 + 1 := ⟨_, rfl⟩
      replace H := H x3_9 e_x3_9
      refine aw_iinc (v := x3_9) (lv' := [(3, .int x3_9), (2, .int x2_8), (0, .ref (G.2.1 k)), (1, .int a1)]) dX10_draw_43 (n0 := 3) rfl (by rw [e_x3_9]; rfl) (by decide) rfl ?_
      refine aw_goto (tgt := 16) dX10_draw_46 (by decide) ?_
      refine aw_sub (lv' := [(0, .ref (G.2.1 k)), (1, .int a1), (2, .int x2_8), (3, .int x3_9)]) [2, 3, 1, 0] rfl ?_
      exact ih _ _ _ H
set_option maxHeartbeats 4000000 in
set_option maxRecDepth 100000 in
theorem am_X10_draw {l : Launch} {S : aS} {G : aG} (d : Nat) {k : Nat} {a1 : Int32} {h : aH} {Q : Int32 → aH → Prop} (o_k : aObj S k 9 flX10) (H : f_X10_draw S k a1 h Q) : AMi l S G (d + 7) M_X10_draw [.ref (G.2.1 k), .int a1] h Q := by
  unfold f_X10_draw at H
  refine am_of mf_X10_draw (Nat.le_of_ble_eq_true rfl) (lv0 := [(0, .ref (G.2.1 k)), (1, .int a1)]) rfl ?_
  refine aw_iload_n dX10_draw_0 rfl 1 rfl ?_
  refine aw_iconst (v := 1) dX10_draw_1 (by decide) ?_
  refine aw_bipush (v := 60) dX10_draw_2 (by decide) ?_
  refine aw_callS_i (As := [.int a1, .int 1, .int 60]) (rest := []) (am_X10_within (d + 6) H) mf_X10_within wd_342 wd_343 rfl rfl (Nat.le_of_ble_eq_true rfl) dX10_draw_4 (fun r11 h10 H => ?_)
  refine aw_if_ne (tgt := 12) dX10_draw_7 (by decide) (fun c12 => ?_) (fun c12 => ?_)
  · replace H := a_pos c12 H
    refine aw_iconst (v := 0) dX10_draw_12 (by decide) ?_
    refine aw_istore_n (lv' := [(2, .int 0), (0, .ref (G.2.1 k)), (1, .int a1)]) dX10_draw_13 rfl (by decide) rfl ?_
    refine aw_iconst (v := 0) dX10_draw_14 (by decide) ?_
    refine aw_istore_n (lv' := [(3, .int 0), (2, .int 0), (0, .ref (G.2.1 k)), (1, .int a1)]) dX10_draw_15 rfl (by decide) rfl ?_
    refine aw_sub (lv' := [(0, .ref (G.2.1 k)), (1, .int a1), (2, .int 0), (3, .int 0)]) [2, 3, 1, 0] rfl ?_
    obtain ⟨n1, H⟩ := H
    exact fm_X10_draw_16 d o_k n1 _ _ _ H
  · replace H := a_neg2 c12 H
    refine aw_iconst (v := (-1)) dX10_draw_10 (by decide) ?_
    exact aw_iret rfl H dX10_draw_11
set_option maxHeartbeats 4000000 in
set_option maxRecDepth 100000 in
theorem am_X10_keep {l : Launch} {S : aS} {G : aG} (d : Nat) {k : Nat} {h : aH} {Q : Int32 → aH → Prop} (o_k : aObj S k 9 flX10) (H : f_X10_keep S k h Q) : AMi l S G (d + 2) M_X10_keep [.ref (G.2.1 k)] h Q := by
  unfold f_X10_keep at H
  refine am_of mf_X10_keep (Nat.le_of_ble_eq_true rfl) (lv0 := [(0, .ref (G.2.1 k))]) rfl ?_
  refine aw_aload_n dX10_keep_0 rfl 0 rfl ?_
  refine aw_getR cf_X10 1 (by decide) rfl wd_302 o_k dX10_keep_1 ?_
  refine aw_aload_n dX10_keep_4 rfl 0 rfl ?_
  refine aw_getR cf_X10 0 (by decide) rfl wd_301 o_k dX10_keep_5 ?_
  obtain ⟨o1, H⟩ := H
  obtain ⟨o2, H⟩ := H
  refine aw_callV_v (As := [.ref (G.2.1 (gR h k 0))]) (rest := []) (am_X2_copyFrom d o1 o2 H) mf_X2_copyFrom wd_743 wd_744 wd_745 cf_X2 o1 rfl rfl (Nat.le_of_ble_eq_true rfl) dX10_keep_8 (fun h3 H => ?_)
  refine aw_aload_n dX10_keep_11 rfl 0 rfl ?_
  refine aw_iconst (v := 1) dX10_keep_12 (by decide) ?_
  refine aw_putI cf_X10 10 (by decide) rfl wd_311 rfl (by decide) (by decide) o_k dX10_keep_13 ?_
  refine aw_nameH (fun h4 e_h4 => ?_)
  replace H := H h4 e_h4
  refine aw_aload_n dX10_keep_16 rfl 0 rfl ?_
  refine aw_getR cf_X10 0 (by decide) rfl wd_301 o_k dX10_keep_17 ?_
  obtain ⟨o5, H⟩ := H
  refine aw_callV_i (As := []) (rest := []) (am_X2_brokenTotal d o5 H) mf_X2_brokenTotal wd_750 wd_751 wd_752 cf_X2 o5 rfl rfl (Nat.le_of_ble_eq_true rfl) dX10_keep_20 (fun r7 h6 H => ?_)
  exact aw_iret rfl H dX10_keep_23
set_option maxHeartbeats 4000000 in
set_option maxRecDepth 100000 in
theorem am_X10_undo {l : Launch} {S : aS} {G : aG} (d : Nat) {k : Nat} {h : aH} {Q : Int32 → aH → Prop} (o_k : aObj S k 9 flX10) (H : f_X10_undo S k h Q) : AMi l S G (d + 2) M_X10_undo [.ref (G.2.1 k)] h Q := by
  unfold f_X10_undo at H
  refine am_of mf_X10_undo (Nat.le_of_ble_eq_true rfl) (lv0 := [(0, .ref (G.2.1 k))]) rfl ?_
  refine aw_aload_n dX10_undo_0 rfl 0 rfl ?_
  refine aw_getI cf_X10 10 (by decide) rfl wd_311 o_k dX10_undo_1 ?_
  refine aw_name (fun v1 e_v1 => ?_)
  replace H := H v1 e_v1
  refine aw_if_ne (tgt := 9) dX10_undo_4 (by decide) (fun c2 => ?_) (fun c2 => ?_)
  · replace H := a_pos c2 H
    refine aw_aload_n dX10_undo_9 rfl 0 rfl ?_
    refine aw_getR cf_X10 0 (by decide) rfl wd_301 o_k dX10_undo_10 ?_
    refine aw_aload_n dX10_undo_13 rfl 0 rfl ?_
    refine aw_getR cf_X10 1 (by decide) rfl wd_302 o_k dX10_undo_14 ?_
    obtain ⟨o3, H⟩ := H
    obtain ⟨o4, H⟩ := H
    refine aw_callV_v (As := [.ref (G.2.1 (gR h k 1))]) (rest := []) (am_X2_copyFrom d o3 o4 H) mf_X2_copyFrom wd_743 wd_744 wd_745 cf_X2 o3 rfl rfl (Nat.le_of_ble_eq_true rfl) dX10_undo_17 (fun h5 H => ?_)
    refine aw_iconst (v := 1) dX10_undo_20 (by decide) ?_
    exact aw_zret rfl rfl H dX10_undo_21
  · replace H := a_neg2 c2 H
    refine aw_iconst (v := 0) dX10_undo_7 (by decide) ?_
    exact aw_zret rfl rfl H dX10_undo_8
set_option maxHeartbeats 4000000 in
set_option maxRecDepth 100000 in
theorem fm_X10_firstWrong_2 {l : Launch} {S : aS} {G : aG} (d : Nat) {k : Nat} {a1 : Int32} {a2 : Int32} {Q : Int32 → aH → Prop} (o_k : aObj S k 9 flX10) : ∀ (n : Nat) (x3 : Int32) (h : aH), f_X10_firstWrong_2 S k a1 a2 Q n x3 h → AW l S G (d + 3) M_X10_firstWrong (va_Qi Q (aPo S G) (aA S G)) 2 [(0, .ref (G.2.1 k)), (1, .int a1), (2, .int a2), (3, .int x3)] [] h := by
  intro n
  induction n with
  | zero => intro x3 h H; exact False.elim H
  | succ n ih =>
    intro x3 h H
    unfold f_X10_firstWrong_2 at H
    refine aw_iload_n dX10_firstWrong_2 rfl 3 rfl ?_
    refine aw_iload_n dX10_firstWrong_3 rfl 2 rfl ?_
    refine aw_icmp_ge (tgt := 40) dX10_firstWrong_4 (by decide) (fun c1 => ?_) (fun c1 => ?_)
    · replace H := a_pos c1 H
      refine aw_iconst (v := (-1)) dX10_firstWrong_40 (by decide) ?_
      exact aw_iret rfl H dX10_firstWrong_41
    · replace H := a_neg c1 H
      refine aw_aload_n dX10_firstWrong_7 rfl 0 rfl ?_
      refine aw_getR cf_X10 3 (by decide) rfl wd_304 o_k dX10_firstWrong_8 ?_
      refine aw_iconst (v := 4) dX10_firstWrong_11 (by decide) ?_
      refine aw_iload_n dX10_firstWrong_12 rfl 3 rfl ?_
      refine aw_imul dX10_firstWrong_13 ?_
      obtain ⟨o2, H⟩ := H
      refine aw_callV_i (As := [.int (4 * x3)]) (rest := []) (am_X8_intAt (d + 1) o2 H) mf_X8_intAt wd_1015 wd_1016 wd_1017 cf_X8 o2 rfl rfl (Nat.le_of_ble_eq_true rfl) dX10_firstWrong_14 (fun r4 h3 H => ?_)
      refine aw_aload_n dX10_firstWrong_17 rfl 0 rfl ?_
      refine aw_getR cf_X10 0 (by decide) rfl wd_301 o_k dX10_firstWrong_18 ?_
      refine aw_iload_n dX10_firstWrong_21 rfl 3 rfl ?_
      refine aw_iload_n dX10_firstWrong_22 rfl 1 rfl ?_
      refine aw_callS_i (As := [.int x3, .int a1]) (rest := [.ref (G.2.1 (gR h3 k 0)), .int r4]) (am_X1_at (d + 2) H) mf_X1_at wd_345 wd_346 rfl rfl (Nat.le_of_ble_eq_true rfl) dX10_firstWrong_23 (fun r6 h5 H => ?_)
      obtain ⟨o7, H⟩ := H
      refine aw_callV_i (As := [.int r6]) (rest := [.int r4]) (am_X2_seenAt d o7 H) mf_X2_seenAt wd_1020 wd_1021 wd_1022 cf_X2 o7 rfl rfl (Nat.le_of_ble_eq_true rfl) dX10_firstWrong_26 (fun r9 h8 H => ?_)
      refine aw_icmp_eq (tgt := 34) dX10_firstWrong_29 (by decide) (fun c10 => ?_) (fun c10 => ?_)
      · replace H := a_pos c10 H
        obtain ⟨x3_11, e_x3_11⟩ : ∃ y : Int32, y = x3 + 1 := ⟨_, rfl⟩
        replace H := H x3_11 e_x3_11
        refine aw_iinc (v := x3_11) (lv' := [(3, .int x3_11), (0, .ref (G.2.1 k)), (1, .int a1), (2, .int a2)]) dX10_firstWrong_34 (n0 := 3) rfl (by rw [e_x3_11]; rfl) (by decide) rfl ?_
        refine aw_goto (tgt := 2) dX10_firstWrong_37 (by decide) ?_
        refine aw_sub (lv' := [(0, .ref (G.2.1 k)), (1, .int a1), (2, .int a2), (3, .int x3_11)]) [1, 2, 3, 0] rfl ?_
        exact ih _ _ H
      · replace H := a_neg c10 H
        refine aw_iload_n dX10_firstWrong_32 rfl 3 rfl ?_
        exact aw_iret rfl H dX10_firstWrong_33
set_option maxHeartbeats 4000000 in
set_option maxRecDepth 100000 in
theorem am_X10_firstWrong {l : Launch} {S : aS} {G : aG} (d : Nat) {k : Nat} {a1 : Int32} {a2 : Int32} {h : aH} {Q : Int32 → aH → Prop} (o_k : aObj S k 9 flX10) (H : f_X10_firstWrong S k a1 a2 h Q) : AMi l S G (d + 3) M_X10_firstWrong [.ref (G.2.1 k), .int a1, .int a2] h Q := by
  unfold f_X10_firstWrong at H
  refine am_of mf_X10_firstWrong (Nat.le_of_ble_eq_true rfl) (lv0 := [(0, .ref (G.2.1 k)), (1, .int a1), (2, .int a2)]) rfl ?_
  refine aw_iconst (v := 0) dX10_firstWrong_0 (by decide) ?_
  refine aw_istore_n (lv' := [(3, .int 0), (0, .ref (G.2.1 k)), (1, .int a1), (2, .int a2)]) dX10_firstWrong_1 rfl (by decide) rfl ?_
  refine aw_sub (lv' := [(0, .ref (G.2.1 k)), (1, .int a1), (2, .int a2), (3, .int 0)]) [1, 2, 3, 0] rfl ?_
  obtain ⟨n1, H⟩ := H
  exact fm_X10_firstWrong_2 d o_k n1 _ _ H
set_option maxHeartbeats 4000000 in
set_option maxRecDepth 100000 in
theorem am_X10_check {l : Launch} {S : aS} {G : aG} (d : Nat) {k : Nat} {a1 : Int32} {a2 : Int32} {h : aH} {Q : Int32 → aH → Prop} (o_k : aObj S k 9 flX10) (H : f_X10_check S k a1 a2 h Q) : AMi l S G (d + 4) M_X10_check [.ref (G.2.1 k), .int a1, .int a2] h Q := by
  unfold f_X10_check at H
  refine am_of mf_X10_check (Nat.le_of_ble_eq_true rfl) (lv0 := [(0, .ref (G.2.1 k)), (1, .int a1), (2, .int a2)]) rfl ?_
  refine aw_iload_n dX10_check_0 rfl 1 rfl ?_
  refine aw_iconst (v := 0) dX10_check_1 (by decide) ?_
  refine aw_bipush (v := 15) dX10_check_2 (by decide) ?_
  refine aw_callS_i (As := [.int a1, .int 0, .int 15]) (rest := []) (am_X10_within (d + 3) H) mf_X10_within wd_342 wd_343 rfl rfl (Nat.le_of_ble_eq_true rfl) dX10_check_4 (fun r2 h1 H => ?_)
  refine aw_if_eq (tgt := 33) dX10_check_7 (by decide) (fun c3 => ?_) (fun c3 => ?_)
  · replace H := a_pos c3 H
    refine aw_bipush (v := (-2)) dX10_check_33 (by decide) ?_
    exact aw_iret rfl H dX10_check_35
  · replace H := a_neg c3 H
    refine aw_iload_n dX10_check_10 rfl 2 rfl ?_
    refine aw_iconst (v := 0) dX10_check_11 (by decide) ?_
    refine aw_bipush (v := 16) dX10_check_12 (by decide) ?_
    refine aw_callS_i (As := [.int a2, .int 0, .int 16]) (rest := []) (am_X10_within (d + 3) H) mf_X10_within wd_342 wd_343 rfl rfl (Nat.le_of_ble_eq_true rfl) dX10_check_14 (fun r5 h4 H => ?_)
    refine aw_if_eq (tgt := 33) dX10_check_17 (by decide) (fun c6 => ?_) (fun c6 => ?_)
    · replace H := a_pos c6 H
      refine aw_bipush (v := (-2)) dX10_check_33 (by decide) ?_
      exact aw_iret rfl H dX10_check_35
    · replace H := a_neg c6 H
      refine aw_iconst (v := 4) dX10_check_20 (by decide) ?_
      refine aw_iload_n dX10_check_21 rfl 2 rfl ?_
      refine aw_imul dX10_check_22 ?_
      refine aw_aload_n dX10_check_23 rfl 0 rfl ?_
      refine aw_getR cf_X10 3 (by decide) rfl wd_304 o_k dX10_check_24 ?_
      obtain ⟨o7, H⟩ := H
      refine aw_getI cf_X8 1 (by decide) rfl wd_126 o7 dX10_check_27 ?_
      refine aw_name (fun v8 e_v8 => ?_)
      replace H := H v8 e_v8
      refine aw_icmp_le (tgt := 36) dX10_check_30 (by decide) (fun c9 => ?_) (fun c9 => ?_)
      · replace H := a_pos c9 H
        refine aw_aload_n dX10_check_36 rfl 0 rfl ?_
        refine aw_iload_n dX10_check_37 rfl 1 rfl ?_
        refine aw_iload_n dX10_check_38 rfl 2 rfl ?_
        refine aw_callV_i (As := [.int a1, .int a2]) (rest := []) (am_X10_firstWrong d o_k H) mf_X10_firstWrong wd_1011 wd_1013 ws_2_15 cf_X10 o_k rfl rfl (Nat.le_of_ble_eq_true rfl) dX10_check_39 (fun r11 h10 H => ?_)
        refine aw_istore_n (lv' := [(3, .int r11), (0, .ref (G.2.1 k)), (1, .int a1), (2, .int a2)]) dX10_check_42 rfl (by decide) rfl ?_
        refine aw_aload_n dX10_check_43 rfl 1 rfl ?_
        refine aw_getR cf_X10 3 (by decide) rfl wd_304 o_k dX10_check_44 ?_
        refine aw_iconst (v := 0) dX10_check_47 (by decide) ?_
        obtain ⟨o12, H⟩ := H
        refine aw_putI cf_X8 1 (by decide) rfl wd_126 rfl rfl rfl o12 dX10_check_48 ?_
        refine aw_nameH (fun h13 e_h13 => ?_)
        replace H := H h13 e_h13
        refine aw_iload_n dX10_check_51 rfl 0 rfl ?_
        exact aw_iret rfl H dX10_check_52
      · replace H := a_neg c9 H
        refine aw_bipush (v := (-2)) dX10_check_33 (by decide) ?_
        exact aw_iret rfl H dX10_check_35
set_option maxHeartbeats 4000000 in
set_option maxRecDepth 100000 in
theorem am_X10_count {l : Launch} {S : aS} {G : aG} (d : Nat) {k : Nat} {a1 : Int32} {h : aH} {Q : Int32 → aH → Prop} (o_k : aObj S k 9 flX10) (H : f_X10_count S k a1 h Q) : AMi l S G (d + 2) M_X10_count [.ref (G.2.1 k), .int a1] h Q := by
  unfold f_X10_count at H
  refine am_of mf_X10_count (Nat.le_of_ble_eq_true rfl) (lv0 := [(0, .ref (G.2.1 k)), (1, .int a1)]) rfl ?_
  refine aw_iload_n dX10_count_0 rfl 1 rfl ?_
  by_cases c1_0 : a1 = 0
  · replace H := a_pos c1_0 H
    refine aw_tableIn (off := 47) (tgt := 48) dX10_count_1 (by rw [c1_0]; decide) (by rw [c1_0]; decide) (by rw [c1_0]; decide) (by decide) ?_
    refine aw_aload_n dX10_count_48 rfl 0 rfl ?_
    refine aw_getR cf_X10 0 (by decide) rfl wd_301 o_k dX10_count_49 ?_
    obtain ⟨o2, H⟩ := H
    refine aw_getI cf_X2 13 (by decide) rfl wd_81 o2 dX10_count_52 ?_
    refine aw_name (fun v3 e_v3 => ?_)
    replace H := H v3 e_v3
    exact aw_iret rfl H dX10_count_55
  · replace H := a_neg c1_0 H
    by_cases c1_1 : a1 = 1
    · replace H := a_pos c1_1 H
      refine aw_tableIn (off := 55) (tgt := 56) dX10_count_1 (by rw [c1_1]; decide) (by rw [c1_1]; decide) (by rw [c1_1]; decide) (by decide) ?_
      refine aw_aload_n dX10_count_56 rfl 0 rfl ?_
      refine aw_getR cf_X10 0 (by decide) rfl wd_301 o_k dX10_count_57 ?_
      obtain ⟨o4, H⟩ := H
      refine aw_getI cf_X2 9 (by decide) rfl wd_67 o4 dX10_count_60 ?_
      refine aw_name (fun v5 e_v5 => ?_)
      replace H := H v5 e_v5
      exact aw_iret rfl H dX10_count_63
    · replace H := a_neg c1_1 H
      by_cases c1_2 : a1 = 2
      · replace H := a_pos c1_2 H
        refine aw_tableIn (off := 63) (tgt := 64) dX10_count_1 (by rw [c1_2]; decide) (by rw [c1_2]; decide) (by rw [c1_2]; decide) (by decide) ?_
        refine aw_aload_n dX10_count_64 rfl 0 rfl ?_
        refine aw_getR cf_X10 0 (by decide) rfl wd_301 o_k dX10_count_65 ?_
        obtain ⟨o6, H⟩ := H
        refine aw_getI cf_X2 12 (by decide) rfl wd_77 o6 dX10_count_68 ?_
        refine aw_name (fun v7 e_v7 => ?_)
        replace H := H v7 e_v7
        exact aw_iret rfl H dX10_count_71
      · replace H := a_neg c1_2 H
        by_cases c1_3 : a1 = 3
        · replace H := a_pos c1_3 H
          refine aw_tableIn (off := 71) (tgt := 72) dX10_count_1 (by rw [c1_3]; decide) (by rw [c1_3]; decide) (by rw [c1_3]; decide) (by decide) ?_
          refine aw_aload_n dX10_count_72 rfl 0 rfl ?_
          refine aw_getR cf_X10 5 (by decide) rfl wd_306 o_k dX10_count_73 ?_
          obtain ⟨o8, H⟩ := H
          refine aw_getR cf_X5 0 (by decide) rfl wd_200 o8 dX10_count_76 ?_
          obtain ⟨o9, H⟩ := H
          refine aw_getI cf_X3 6 (by decide) rfl wd_174 o9 dX10_count_79 ?_
          refine aw_name (fun v10 e_v10 => ?_)
          replace H := H v10 e_v10
          exact aw_iret rfl H dX10_count_82
        · replace H := a_neg c1_3 H
          by_cases c1_4 : a1 = 4
          · replace H := a_pos c1_4 H
            refine aw_tableIn (off := 82) (tgt := 83) dX10_count_1 (by rw [c1_4]; decide) (by rw [c1_4]; decide) (by rw [c1_4]; decide) (by decide) ?_
            refine aw_aload_n dX10_count_83 rfl 0 rfl ?_
            refine aw_getR cf_X10 3 (by decide) rfl wd_304 o_k dX10_count_84 ?_
            obtain ⟨o11, H⟩ := H
            refine aw_getI cf_X8 1 (by decide) rfl wd_126 o11 dX10_count_87 ?_
            refine aw_name (fun v12 e_v12 => ?_)
            replace H := H v12 e_v12
            exact aw_iret rfl H dX10_count_90
          · replace H := a_neg c1_4 H
            by_cases c1_5 : a1 = 5
            · replace H := a_pos c1_5 H
              refine aw_tableIn (off := 90) (tgt := 91) dX10_count_1 (by rw [c1_5]; decide) (by rw [c1_5]; decide) (by rw [c1_5]; decide) (by decide) ?_
              refine aw_aload_n dX10_count_91 rfl 0 rfl ?_
              refine aw_getR cf_X10 0 (by decide) rfl wd_301 o_k dX10_count_92 ?_
              obtain ⟨o13, H⟩ := H
              refine aw_getI cf_X2 14 (by decide) rfl wd_83 o13 dX10_count_95 ?_
              refine aw_name (fun v14 e_v14 => ?_)
              replace H := H v14 e_v14
              exact aw_iret rfl H dX10_count_98
            · replace H := a_neg c1_5 H
              by_cases c1_6 : a1 = 6
              · replace H := a_pos c1_6 H
                refine aw_tableIn (off := 98) (tgt := 99) dX10_count_1 (by rw [c1_6]; decide) (by rw [c1_6]; decide) (by rw [c1_6]; decide) (by decide) ?_
                refine aw_aload_n dX10_count_99 rfl 0 rfl ?_
                refine aw_getR cf_X10 0 (by decide) rfl wd_301 o_k dX10_count_100 ?_
                obtain ⟨o15, H⟩ := H
                refine aw_callV_i (As := []) (rest := []) (am_X2_brokenTotal d o15 H) mf_X2_brokenTotal wd_750 wd_751 wd_752 cf_X2 o15 rfl rfl (Nat.le_of_ble_eq_true rfl) dX10_count_103 (fun r17 h16 H => ?_)
                exact aw_iret rfl H dX10_count_106
              · replace H := a_neg c1_6 H
                by_cases c1_7 : a1 = 7
                · replace H := a_pos c1_7 H
                  refine aw_tableIn (off := 106) (tgt := 107) dX10_count_1 (by rw [c1_7]; decide) (by rw [c1_7]; decide) (by rw [c1_7]; decide) (by decide) ?_
                  refine aw_aload_n dX10_count_107 rfl 0 rfl ?_
                  refine aw_getR cf_X10 0 (by decide) rfl wd_301 o_k dX10_count_108 ?_
                  obtain ⟨o18, H⟩ := H
                  refine aw_callV_i (As := []) (rest := []) (am_X2_drownedTotal (d + 1) o18 H) mf_X2_drownedTotal wd_1029 wd_677 wd_678 cf_X2 o18 rfl rfl (Nat.le_of_ble_eq_true rfl) dX10_count_111 (fun r20 h19 H => ?_)
                  exact aw_iret rfl H dX10_count_114
                · replace H := a_neg c1_7 H
                  have t0 := a_ne (n := 0) (v := 0) (by decide) c1_0
                  have t1 := a_ne (n := 1) (v := 1) (by decide) c1_1
                  have t2 := a_ne (n := 2) (v := 2) (by decide) c1_2
                  have t3 := a_ne (n := 3) (v := 3) (by decide) c1_3
                  have t4 := a_ne (n := 4) (v := 4) (by decide) c1_4
                  have t5 := a_ne (n := 5) (v := 5) (by decide) c1_5
                  have t6 := a_ne (n := 6) (v := 6) (by decide) c1_6
                  have t7 := a_ne (n := 7) (v := 7) (by decide) c1_7
                  refine aw_tableOut (tgt := 115) dX10_count_1 (by omega) (by decide) ?_
                  refine aw_iconst (v := (-1)) dX10_count_115 (by decide) ?_
                  exact aw_iret rfl H dX10_count_116
