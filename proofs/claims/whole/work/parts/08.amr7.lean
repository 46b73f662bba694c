set_option maxHeartbeats 4000000 in
set_option maxRecDepth 100000 in
theorem fm_X11_fee_212 {l : Launch} {S : aS} {G : aG} (d : Nat) {k : Nat} {a1 : Int32} {a2 : Int32} {a3 : Int32} {Q : Int32 → aH → Prop} (o_k : aObj S k 10 flX11) {K153 : Int32 → Int32 → Int32 → Int32 → aH → Prop} (hK153 : ∀ (x4 : Int32) (x5 : Int32) (x6 : Int32) (x7 : Int32) (h : aH), K153 x4 x5 x6 x7 h → AW l S G (d + 10) M_X11_fee (va_Qi Q (aPo S G) (aA S G)) 153 [(0, .ref (G.2.1 k)), (1, .int a1), (2, .int a2), (3, .int a3), (4, .int x4), (5, .int x5), (6, .int x6), (7, .int x7)] [] h) (x4 : Int32) (x5 : Int32) (x6 : Int32) (x7 : Int32) (s0 : Int32) (h : aH) (H : f_X11_fee_212 S k a1 a2 a3 Q K153 x4 x5 x6 x7 s0 h) : AW l S G (d + 10) M_X11_fee (va_Qi Q (aPo S G) (aA S G)) 212 [(0, .ref (G.2.1 k)), (1, .int a1), (2, .int a2), (3, .int a3), (4, .int x4), (5, .int x5), (6, .int x6), (7, .int x7)] [.int s0] h := by
  unfold f_X11_fee_212 at H
  refine aw_istore (lv' := [(9, .int s0), (0, .ref (G.2.1 k)), (1, .int a1), (2, .int a2), (3, .int a3), (4, .int x4), (5, .int x5), (6, .int x6), (7, .int x7)]) dX11_fee_212 (by decide) rfl ?_
  refine aw_iload dX11_fee_214 6 rfl ?_
  refine aw_iload dX11_fee_216 0 rfl ?_
  refine aw_iadd dX11_fee_218 ?_
  refine aw_name (fun x5_1 e_x5_1 => ?_)
  replace H := H x5_1 e_x5_1
  refine aw_istore (lv' := [(5, .int x5_1), (9, .int s0), (0, .ref (G.2.1 k)), (1, .int a1), (2, .int a2), (3, .int a3), (4, .int x4), (6, .int x6), (7, .int x7)]) dX11_fee_219 (by decide) rfl ?_
  refine aw_iload dX11_fee_221 8 rfl ?_
  refine aw_iload_n dX11_fee_223 rfl 5 rfl ?_
  refine aw_icmp_ne (tgt := 232) dX11_fee_224 (by decide) (fun c2 => ?_) (fun c2 => ?_)
  · replace H := a_pos c2 H
    refine aw_iload dX11_fee_232 7 rfl ?_
    refine aw_istore (lv' := [(6, .int x6), (5, .int x5_1), (9, .int s0), (0, .ref (G.2.1 k)), (1, .int a1), (2, .int a2), (3, .int a3), (4, .int x4), (7, .int x7)]) dX11_fee_234 (by decide) rfl ?_
    obtain ⟨x7_3, e_x7_3⟩ : ∃ y : Int32, y = x7 + 1 := ⟨_, rfl⟩
    replace H := H x7_3 e_x7_3
    refine aw_iinc (v := x7_3) (lv' := [(7, .int x7_3), (6, .int x6), (5, .int x5_1), (9, .int s0), (0, .ref (G.2.1 k)), (1, .int a1), (2, .int a2), (3, .int a3), (4, .int x4)]) dX11_fee_236 (n0 := 8) rfl (by rw [e_x7_3]; rfl) (by decide) rfl ?_
    refine aw_goto (tgt := 153) dX11_fee_239 (by decide) ?_
    refine aw_sub (lv' := [(0, .ref (G.2.1 k)), (1, .int a1), (2, .int a2), (3, .int a3), (4, .int x4), (5, .int x5_1), (6, .int x6), (7, .int x7_3)]) [4, 5, 6, 7, 8, 2, 1, 0] rfl ?_
    exact hK153 _ _ _ _ _ H
  · replace H := a_neg2 c2 H
    refine aw_iload dX11_fee_227 1 rfl ?_
    refine aw_goto (tgt := 234) dX11_fee_229 (by decide) ?_
    refine aw_istore (lv' := [(6, .int s0), (5, .int x5_1), (9, .int s0), (0, .ref (G.2.1 k)), (1, .int a1), (2, .int a2), (3, .int a3), (4, .int x4), (7, .int x7)]) dX11_fee_234 (by decide) rfl ?_
    obtain ⟨x7_4, e_x7_4⟩ : ∃ y : Int32, y = x7 + 1 := ⟨_, rfl⟩
    replace H := H x7_4 e_x7_4
    refine aw_iinc (v := x7_4) (lv' := [(7, .int x7_4), (6, .int s0), (5, .int x5_1), (9, .int s0), (0, .ref (G.2.1 k)), (1, .int a1), (2, .int a2), (3, .int a3), (4, .int x4)]) dX11_fee_236 (n0 := 8) rfl (by rw [e_x7_4]; rfl) (by decide) rfl ?_
    refine aw_goto (tgt := 153) dX11_fee_239 (by decide) ?_
    refine aw_sub (lv' := [(0, .ref (G.2.1 k)), (1, .int a1), (2, .int a2), (3, .int a3), (4, .int x4), (5, .int x5_1), (6, .int s0), (7, .int x7_4)]) [4, 5, 6, 7, 8, 2, 1, 0] rfl ?_
    exact hK153 _ _ _ _ _ H
set_option maxHeartbeats 4000000 in
set_option maxRecDepth 100000 in
theorem fm_X11_fee_153 {l : Launch} {S : aS} {G : aG} (d : Nat) {k : Nat} {a1 : Int32} {a2 : Int32} {a3 : Int32} {Q : Int32 → aH → Prop} (o_k : aObj S k 10 flX11) : ∀ (n : Nat) (x4 : Int32) (x5 : Int32) (x6 : Int32) (x7 : Int32) (h : aH), f_X11_fee_153 S k a1 a2 a3 Q n x4 x5 x6 x7 h → AW l S G (d + 10) M_X11_fee (va_Qi Q (aPo S G) (aA S G)) 153 [(0, .ref (G.2.1 k)), (1, .int a1), (2, .int a2), (3, .int a3), (4, .int x4), (5, .int x5), (6, .int x6), (7, .int x7)] [] h := by
  intro n
  induction n with
  | zero => intro x4 x5 x6 x7 h H; exact False.elim H
  | succ n ih =>
    intro x4 x5 x6 x7 h H
    unfold f_X11_fee_153 at H
    refine aw_iload dX11_fee_153 7 rfl ?_
    refine aw_iload_n dX11_fee_155 rfl 1 rfl ?_
    refine aw_icmp_ge (tgt := 242) dX11_fee_156 (by decide) (fun c5 => ?_) (fun c5 => ?_)
    · replace H := a_pos c5 H
      refine aw_iload_n dX11_fee_242 rfl 3 rfl ?_
      refine aw_iconst (v := (-1)) dX11_fee_243 (by decide) ?_
      refine aw_icmp_ne (tgt := 252) dX11_fee_244 (by decide) (fun c6 => ?_) (fun c6 => ?_)
      · replace H := a_pos c6 H
        refine aw_iload dX11_fee_252 6 rfl ?_
        exact aw_iret rfl H dX11_fee_254
      · replace H := a_neg2 c6 H
        refine aw_iload dX11_fee_247 5 rfl ?_
        refine aw_goto (tgt := 254) dX11_fee_249 (by decide) ?_
        exact aw_iret rfl H dX11_fee_254
    · replace H := a_neg c5 H
      refine aw_aload_n dX11_fee_159 rfl 0 rfl ?_
      refine aw_aload_n dX11_fee_160 rfl 0 rfl ?_
      refine aw_getR cf_X11 52 (by decide) rfl wd_1088 o_k dX11_fee_161 ?_
      refine aw_iload dX11_fee_164 7 rfl ?_
      obtain ⟨z7, H⟩ := H
      refine aw_iaload z7 dX11_fee_166 ?_
      refine aw_name (fun v8 e_v8 => ?_)
      replace H := H v8 e_v8
      refine aw_callV_i (As := [.int v8]) (rest := []) (am_X11_bears d o_k H) mf_X11_bears wd_1470 wd_1472 ws_5_6 cf_X11 o_k rfl rfl (Nat.le_of_ble_eq_true rfl) dX11_fee_167 (fun r10 h9 H => ?_)
      refine aw_iload_n dX11_fee_170 rfl 2 rfl ?_
      refine aw_icmp_ge (tgt := 186) dX11_fee_171 (by decide) (fun c11 => ?_) (fun c11 => ?_)
      · replace H := a_pos c11 H
        refine aw_iconst (v := 1) dX11_fee_186 (by decide) ?_
        refine aw_goto (tgt := 191) dX11_fee_187 (by decide) ?_
        refine aw_istore (lv' := [(8, .int 1), (0, .ref (G.2.1 k)), (1, .int a1), (2, .int a2), (3, .int a3), (4, .int x4), (5, .int x5), (6, .int x6), (7, .int x7)]) dX11_fee_191 (by decide) rfl ?_
        refine aw_iload dX11_fee_193 0 rfl ?_
        refine aw_if_eq (tgt := 202) dX11_fee_195 (by decide) (fun c12 => ?_) (fun c12 => ?_)
        · replace H := a_pos c12 H
          refine aw_aload_n dX11_fee_202 rfl 1 rfl ?_
          refine aw_getR cf_X11 53 (by decide) rfl wd_1089 o_k dX11_fee_203 ?_
          refine aw_iload dX11_fee_206 8 rfl ?_
          obtain ⟨z13, H⟩ := H
          refine aw_iaload z13 dX11_fee_208 ?_
          refine aw_name (fun v14 e_v14 => ?_)
          replace H := H v14 e_v14
          refine aw_iload dX11_fee_209 5 rfl ?_
          refine aw_isub dX11_fee_211 ?_
          refine aw_sub (lv' := [(0, .ref (G.2.1 k)), (1, .int a1), (2, .int a2), (3, .int a3), (4, .int x4), (5, .int x5), (6, .int x6), (7, .int x7)]) [1, 2, 3, 4, 5, 6, 7, 8] rfl ?_
          exact fm_X11_fee_212 d o_k ih _ _ _ _ _ _ H
        · replace H := a_neg c12 H
          refine aw_iconst (v := 0) dX11_fee_198 (by decide) ?_
          refine aw_goto (tgt := 212) dX11_fee_199 (by decide) ?_
          refine aw_sub (lv' := [(0, .ref (G.2.1 k)), (1, .int a1), (2, .int a2), (3, .int a3), (4, .int x4), (5, .int x5), (6, .int x6), (7, .int x7)]) [1, 2, 3, 4, 5, 6, 7, 8] rfl ?_
          exact fm_X11_fee_212 d o_k ih _ _ _ _ _ _ H
      · replace H := a_neg c11 H
        refine aw_aload_n dX11_fee_174 rfl 0 rfl ?_
        refine aw_getR cf_X11 53 (by decide) rfl wd_1089 o_k dX11_fee_175 ?_
        refine aw_iload dX11_fee_178 7 rfl ?_
        obtain ⟨z15, H⟩ := H
        refine aw_iaload z15 dX11_fee_180 ?_
        refine aw_name (fun v16 e_v16 => ?_)
        replace H := H v16 e_v16
        refine aw_iload dX11_fee_181 4 rfl ?_
        refine aw_icmp_ge (tgt := 190) dX11_fee_183 (by decide) (fun c17 => ?_) (fun c17 => ?_)
        · replace H := a_pos c17 H
          refine aw_iconst (v := 0) dX11_fee_190 (by decide) ?_
          refine aw_istore (lv' := [(8, .int 0), (0, .ref (G.2.1 k)), (1, .int a1), (2, .int a2), (3, .int a3), (4, .int x4), (5, .int x5), (6, .int x6), (7, .int x7)]) dX11_fee_191 (by decide) rfl ?_
          refine aw_iload dX11_fee_193 0 rfl ?_
          refine aw_if_eq (tgt := 202) dX11_fee_195 (by decide) (fun c18 => ?_) (fun c18 => ?_)
          · replace H := a_pos c18 H
            refine aw_aload_n dX11_fee_202 rfl 1 rfl ?_
            refine aw_getR cf_X11 53 (by decide) rfl wd_1089 o_k dX11_fee_203 ?_
            refine aw_iload dX11_fee_206 8 rfl ?_
            obtain ⟨z19, H⟩ := H
            refine aw_iaload z19 dX11_fee_208 ?_
            refine aw_name (fun v20 e_v20 => ?_)
            replace H := H v20 e_v20
            refine aw_iload dX11_fee_209 5 rfl ?_
            refine aw_isub dX11_fee_211 ?_
            refine aw_sub (lv' := [(0, .ref (G.2.1 k)), (1, .int a1), (2, .int a2), (3, .int a3), (4, .int x4), (5, .int x5), (6, .int x6), (7, .int x7)]) [1, 2, 3, 4, 5, 6, 7, 8] rfl ?_
            exact fm_X11_fee_212 d o_k ih _ _ _ _ _ _ H
          · replace H := a_neg c18 H
            refine aw_iconst (v := 0) dX11_fee_198 (by decide) ?_
            refine aw_goto (tgt := 212) dX11_fee_199 (by decide) ?_
            refine aw_sub (lv' := [(0, .ref (G.2.1 k)), (1, .int a1), (2, .int a2), (3, .int a3), (4, .int x4), (5, .int x5), (6, .int x6), (7, .int x7)]) [1, 2, 3, 4, 5, 6, 7, 8] rfl ?_
            exact fm_X11_fee_212 d o_k ih _ _ _ _ _ _ H
        · replace H := a_neg c17 H
          refine aw_iconst (v := 1) dX11_fee_186 (by decide) ?_
          refine aw_goto (tgt := 191) dX11_fee_187 (by decide) ?_
          refine aw_istore (lv' := [(8, .int 1), (0, .ref (G.2.1 k)), (1, .int a1), (2, .int a2), (3, .int a3), (4, .int x4), (5, .int x5), (6, .int x6), (7, .int x7)]) dX11_fee_191 (by decide) rfl ?_
          refine aw_iload dX11_fee_193 0 rfl ?_
          refine aw_if_eq (tgt := 202) dX11_fee_195 (by decide) (fun c21 => ?_) (fun c21 => ?_)
          · replace H := a_pos c21 H
            refine aw_aload_n dX11_fee_202 rfl 1 rfl ?_
            refine aw_getR cf_X11 53 (by decide) rfl wd_1089 o_k dX11_fee_203 ?_
            refine aw_iload dX11_fee_206 8 rfl ?_
            obtain ⟨z22, H⟩ := H
            refine aw_iaload z22 dX11_fee_208 ?_
            refine aw_name (fun v23 e_v23 => ?_)
            replace H := H v23 e_v23
            refine aw_iload dX11_fee_209 5 rfl ?_
            refine aw_isub dX11_fee_211 ?_
            refine aw_sub (lv' := [(0, .ref (G.2.1 k)), (1, .int a1), (2, .int a2), (3, .int a3), (4, .int x4), (5, .int x5), (6, .int x6), (7, .int x7)]) [1, 2, 3, 4, 5, 6, 7, 8] rfl ?_
            exact fm_X11_fee_212 d o_k ih _ _ _ _ _ _ H
          · replace H := a_neg c21 H
            refine aw_iconst (v := 0) dX11_fee_198 (by decide) ?_
            refine aw_goto (tgt := 212) dX11_fee_199 (by decide) ?_
            refine aw_sub (lv' := [(0, .ref (G.2.1 k)), (1, .int a1), (2, .int a2), (3, .int a3), (4, .int x4), (5, .int x5), (6, .int x6), (7, .int x7)]) [1, 2, 3, 4, 5, 6, 7, 8] rfl ?_
            exact fm_X11_fee_212 d o_k ih _ _ _ _ _ _ H
set_option maxHeartbeats 4000000 in
set_option maxRecDepth 100000 in
theorem fm_X11_fee_96 {l : Launch} {S : aS} {G : aG} (d : Nat) {k : Nat} {a1 : Int32} {a2 : Int32} {a3 : Int32} {Q : Int32 → aH → Prop} (o_k : aObj S k 10 flX11) : ∀ (n : Nat) (x4 : Int32) (x5 : Int32) (h : aH), f_X11_fee_96 S k a1 a2 a3 Q n x4 x5 h → AW l S G (d + 10) M_X11_fee (va_Qi Q (aPo S G) (aA S G)) 96 [(0, .ref (G.2.1 k)), (1, .int a1), (2, .int a2), (3, .int a3), (4, .int x4), (5, .int x5)] [] h := by
  intro n
  induction n with
  | zero => intro x4 x5 h H; exact False.elim H
  | succ n ih =>
    intro x4 x5 h H
    unfold f_X11_fee_96 at H
    refine aw_iload dX11_fee_96 5 rfl ?_
    refine aw_iload_n dX11_fee_98 rfl 1 rfl ?_
    refine aw_icmp_ge (tgt := 144) dX11_fee_99 (by decide) (fun c24 => ?_) (fun c24 => ?_)
    · replace H := a_pos c24 H
      refine aw_iconst (v := 0) dX11_fee_144 (by decide) ?_
      refine aw_istore (lv' := [(5, .int 0), (0, .ref (G.2.1 k)), (1, .int a1), (2, .int a2), (3, .int a3), (4, .int x4)]) dX11_fee_145 (by decide) rfl ?_
      refine aw_iconst (v := 0) dX11_fee_147 (by decide) ?_
      refine aw_istore (lv' := [(6, .int 0), (5, .int 0), (0, .ref (G.2.1 k)), (1, .int a1), (2, .int a2), (3, .int a3), (4, .int x4)]) dX11_fee_148 (by decide) rfl ?_
      refine aw_iconst (v := 0) dX11_fee_150 (by decide) ?_
      refine aw_istore (lv' := [(7, .int 0), (6, .int 0), (5, .int 0), (0, .ref (G.2.1 k)), (1, .int a1), (2, .int a2), (3, .int a3), (4, .int x4)]) dX11_fee_151 (by decide) rfl ?_
      refine aw_sub (lv' := [(0, .ref (G.2.1 k)), (1, .int a1), (2, .int a2), (3, .int a3), (4, .int x4), (5, .int 0), (6, .int 0), (7, .int 0)]) [3, 4, 5, 6, 7, 2, 1, 0] rfl ?_
      obtain ⟨n1, H⟩ := H
      exact fm_X11_fee_153 d o_k n1 _ _ _ _ _ H
    · replace H := a_neg c24 H
      refine aw_aload_n dX11_fee_102 rfl 0 rfl ?_
      refine aw_aload_n dX11_fee_103 rfl 0 rfl ?_
      refine aw_getR cf_X11 52 (by decide) rfl wd_1088 o_k dX11_fee_104 ?_
      refine aw_iload dX11_fee_107 5 rfl ?_
      obtain ⟨z25, H⟩ := H
      refine aw_iaload z25 dX11_fee_109 ?_
      refine aw_name (fun v26 e_v26 => ?_)
      replace H := H v26 e_v26
      refine aw_callV_i (As := [.int v26]) (rest := []) (am_X11_bears d o_k H) mf_X11_bears wd_1470 wd_1472 ws_5_6 cf_X11 o_k rfl rfl (Nat.le_of_ble_eq_true rfl) dX11_fee_110 (fun r28 h27 H => ?_)
      refine aw_iload_n dX11_fee_113 rfl 2 rfl ?_
      refine aw_icmp_lt (tgt := 138) dX11_fee_114 (by decide) (fun c29 => ?_) (fun c29 => ?_)
      · replace H := a_pos c29 H
        obtain ⟨x5_30, e_x5_30⟩ : ∃ y : Int32, y = x5 + 1 := ⟨_, rfl⟩
        replace H := H x5_30 e_x5_30
        refine aw_iinc (v := x5_30) (lv' := [(5, .int x5_30), (0, .ref (G.2.1 k)), (1, .int a1), (2, .int a2), (3, .int a3), (4, .int x4)]) dX11_fee_138 (n0 := 5) rfl (by rw [e_x5_30]; rfl) (by decide) rfl ?_
        refine aw_goto (tgt := 96) dX11_fee_141 (by decide) ?_
        refine aw_sub (lv' := [(0, .ref (G.2.1 k)), (1, .int a1), (2, .int a2), (3, .int a3), (4, .int x4), (5, .int x5_30)]) [1, 2, 3, 4, 5, 0] rfl ?_
        exact ih _ _ _ H
      · replace H := a_neg c29 H
        refine aw_aload_n dX11_fee_117 rfl 0 rfl ?_
        refine aw_getR cf_X11 53 (by decide) rfl wd_1089 o_k dX11_fee_118 ?_
        refine aw_iload dX11_fee_121 5 rfl ?_
        obtain ⟨z31, H⟩ := H
        refine aw_iaload z31 dX11_fee_123 ?_
        refine aw_name (fun v32 e_v32 => ?_)
        replace H := H v32 e_v32
        refine aw_iload dX11_fee_124 4 rfl ?_
        refine aw_icmp_le (tgt := 138) dX11_fee_126 (by decide) (fun c33 => ?_) (fun c33 => ?_)
        · replace H := a_pos c33 H
          obtain ⟨x5_34, e_x5_34⟩ : ∃ y : Int32, y = x5 + 1 := ⟨_, rfl⟩
          replace H := H x5_34 e_x5_34
          refine aw_iinc (v := x5_34) (lv' := [(5, .int x5_34), (0, .ref (G.2.1 k)), (1, .int a1), (2, .int a2), (3, .int a3), (4, .int x4)]) dX11_fee_138 (n0 := 5) rfl (by rw [e_x5_34]; rfl) (by decide) rfl ?_
          refine aw_goto (tgt := 96) dX11_fee_141 (by decide) ?_
          refine aw_sub (lv' := [(0, .ref (G.2.1 k)), (1, .int a1), (2, .int a2), (3, .int a3), (4, .int x4), (5, .int x5_34)]) [1, 2, 3, 4, 5, 0] rfl ?_
          exact ih _ _ _ H
        · replace H := a_neg c33 H
          refine aw_aload_n dX11_fee_129 rfl 0 rfl ?_
          refine aw_getR cf_X11 53 (by decide) rfl wd_1089 o_k dX11_fee_130 ?_
          refine aw_iload dX11_fee_133 5 rfl ?_
          obtain ⟨z35, H⟩ := H
          refine aw_iaload z35 dX11_fee_135 ?_
          refine aw_name (fun v36 e_v36 => ?_)
          replace H := H v36 e_v36
          refine aw_istore (lv' := [(4, .int v36), (0, .ref (G.2.1 k)), (1, .int a1), (2, .int a2), (3, .int a3), (5, .int x5)]) dX11_fee_136 (by decide) rfl ?_
          obtain ⟨x5_37, e_x5_37⟩ : ∃ y : Int32, y = x5 + 1 := ⟨_, rfl⟩
          replace H := H x5_37 e_x5_37
          refine aw_iinc (v := x5_37) (lv' := [(5, .int x5_37), (4, .int v36), (0, .ref (G.2.1 k)), (1, .int a1), (2, .int a2), (3, .int a3)]) dX11_fee_138 (n0 := 5) rfl (by rw [e_x5_37]; rfl) (by decide) rfl ?_
          refine aw_goto (tgt := 96) dX11_fee_141 (by decide) ?_
          refine aw_sub (lv' := [(0, .ref (G.2.1 k)), (1, .int a1), (2, .int a2), (3, .int a3), (4, .int v36), (5, .int x5_37)]) [2, 3, 4, 5, 1, 0] rfl ?_
          exact ih _ _ _ H
set_option maxHeartbeats 4000000 in
set_option maxRecDepth 100000 in
theorem fm_X11_fee_61 {l : Launch} {S : aS} {G : aG} (d : Nat) {k : Nat} {a1 : Int32} {a2 : Int32} {a3 : Int32} {Q : Int32 → aH → Prop} (o_k : aObj S k 10 flX11) : ∀ (n : Nat) (x4 : Int32) (h : aH), f_X11_fee_61 S k a1 a2 a3 Q n x4 h → AW l S G (d + 10) M_X11_fee (va_Qi Q (aPo S G) (aA S G)) 61 [(0, .ref (G.2.1 k)), (1, .int a1), (2, .int a2), (3, .int a3), (4, .int x4)] [] h := by
  intro n
  induction n with
  | zero => intro x4 h H; exact False.elim H
  | succ n ih =>
    intro x4 h H
    unfold f_X11_fee_61 at H
    refine aw_iload dX11_fee_61 4 rfl ?_
    refine aw_iload_n dX11_fee_63 rfl 1 rfl ?_
    refine aw_icmp_ge (tgt := 90) dX11_fee_64 (by decide) (fun c38 => ?_) (fun c38 => ?_)
    · replace H := a_pos c38 H
      refine aw_iconst (v := 0) dX11_fee_90 (by decide) ?_
      refine aw_istore (lv' := [(4, .int 0), (0, .ref (G.2.1 k)), (1, .int a1), (2, .int a2), (3, .int a3)]) dX11_fee_91 (by decide) rfl ?_
      refine aw_iconst (v := 0) dX11_fee_93 (by decide) ?_
      refine aw_istore (lv' := [(5, .int 0), (4, .int 0), (0, .ref (G.2.1 k)), (1, .int a1), (2, .int a2), (3, .int a3)]) dX11_fee_94 (by decide) rfl ?_
      refine aw_sub (lv' := [(0, .ref (G.2.1 k)), (1, .int a1), (2, .int a2), (3, .int a3), (4, .int 0), (5, .int 0)]) [2, 3, 4, 5, 1, 0] rfl ?_
      obtain ⟨n1, H⟩ := H
      exact fm_X11_fee_96 d o_k n1 _ _ _ H
    · replace H := a_neg c38 H
      refine aw_aload_n dX11_fee_67 rfl 0 rfl ?_
      refine aw_aload_n dX11_fee_68 rfl 0 rfl ?_
      refine aw_getR cf_X11 52 (by decide) rfl wd_1088 o_k dX11_fee_69 ?_
      refine aw_iload dX11_fee_72 4 rfl ?_
      obtain ⟨z39, H⟩ := H
      refine aw_iaload z39 dX11_fee_74 ?_
      refine aw_name (fun v40 e_v40 => ?_)
      replace H := H v40 e_v40
      refine aw_callV_i (As := [.int v40]) (rest := []) (am_X11_isIce (d + 9) o_k H) mf_X11_isIce wd_1374 wd_1376 ws_4_4 cf_X11 o_k rfl rfl (Nat.le_of_ble_eq_true rfl) dX11_fee_75 (fun r42 h41 H => ?_)
      refine aw_if_ne (tgt := 84) dX11_fee_78 (by decide) (fun c43 => ?_) (fun c43 => ?_)
      · replace H := a_pos c43 H
        obtain ⟨x4_44, e_x4_44⟩ : ∃ y : Int32, y = x4 + 1 := ⟨_, rfl⟩
        replace H := H x4_44 e_x4_44
        refine aw_iinc (v := x4_44) (lv' := [(4, .int x4_44), (0, .ref (G.2.1 k)), (1, .int a1), (2, .int a2), (3, .int a3)]) dX11_fee_84 (n0 := 4) rfl (by rw [e_x4_44]; rfl) (by decide) rfl ?_
        refine aw_goto (tgt := 61) dX11_fee_87 (by decide) ?_
        refine aw_sub (lv' := [(0, .ref (G.2.1 k)), (1, .int a1), (2, .int a2), (3, .int a3), (4, .int x4_44)]) [1, 2, 3, 4, 0] rfl ?_
        exact ih _ _ H
      · replace H := a_neg2 c43 H
        refine aw_bipush (v := (-2)) dX11_fee_81 (by decide) ?_
        exact aw_iret rfl H dX11_fee_83
set_option maxHeartbeats 4000000 in
set_option maxRecDepth 100000 in
theorem am_X11_fee {l : Launch} {S : aS} {G : aG} (d : Nat) {k : Nat} {a1 : Int32} {a2 : Int32} {a3 : Int32} {h : aH} {Q : Int32 → aH → Prop} (o_k : aObj S k 10 flX11) (H : f_X11_fee S k a1 a2 a3 h Q) : AMi l S G (d + 10) M_X11_fee [.ref (G.2.1 k), .int a1, .int a2, .int a3] h Q := by
  unfold f_X11_fee at H
  refine am_of mf_X11_fee (Nat.le_of_ble_eq_true rfl) (lv0 := [(0, .ref (G.2.1 k)), (1, .int a1), (2, .int a2), (3, .int a3)]) rfl ?_
  refine aw_iload_n dX11_fee_0 rfl 1 rfl ?_
  refine aw_i2l dX11_fee_1 ?_
  refine aw_lconst (v := 1) dX11_fee_2 (by decide) ?_
  refine aw_ldc2 (v := 10) dX11_fee_3 wd_1521 ?_
  refine aw_callS_i (As := [.long (a1).toInt64, .long 1, .long 10]) (rest := []) (am_X11_lies (d + 9) H) mf_X11_lies wd_1258 wd_1259 rfl rfl (Nat.le_of_ble_eq_true rfl) dX11_fee_6 (fun r46 h45 H => ?_)
  refine aw_if_eq (tgt := 44) dX11_fee_9 (by decide) (fun c47 => ?_) (fun c47 => ?_)
  · replace H := a_pos c47 H
    refine aw_bipush (v := (-3)) dX11_fee_44 (by decide) ?_
    exact aw_iret rfl H dX11_fee_46
  · replace H := a_neg c47 H
    refine aw_iload_n dX11_fee_12 rfl 2 rfl ?_
    refine aw_callS_i (As := [.int a2]) (rest := []) (am_X11_isLoad (d + 8) H) mf_X11_isLoad wd_1559 wd_1560 rfl rfl (Nat.le_of_ble_eq_true rfl) dX11_fee_13 (fun r49 h48 H => ?_)
    refine aw_if_eq (tgt := 44) dX11_fee_16 (by decide) (fun c50 => ?_) (fun c50 => ?_)
    · replace H := a_pos c50 H
      refine aw_bipush (v := (-3)) dX11_fee_44 (by decide) ?_
      exact aw_iret rfl H dX11_fee_46
    · replace H := a_neg c50 H
      refine aw_iload_n dX11_fee_19 rfl 3 rfl ?_
      refine aw_i2l dX11_fee_20 ?_
      refine aw_ldc2 (v := (-1)) dX11_fee_21 wd_1620 ?_
      refine aw_iload_n dX11_fee_24 rfl 1 rfl ?_
      refine aw_iconst (v := 1) dX11_fee_25 (by decide) ?_
      refine aw_isub dX11_fee_26 ?_
      refine aw_i2l dX11_fee_27 ?_
      refine aw_callS_i (As := [.long (a3).toInt64, .long (-1), .long ((a1 - 1)).toInt64]) (rest := []) (am_X11_lies (d + 9) H) mf_X11_lies wd_1258 wd_1259 rfl rfl (Nat.le_of_ble_eq_true rfl) dX11_fee_28 (fun r52 h51 H => ?_)
      refine aw_if_eq (tgt := 44) dX11_fee_31 (by decide) (fun c53 => ?_) (fun c53 => ?_)
      · replace H := a_pos c53 H
        refine aw_bipush (v := (-3)) dX11_fee_44 (by decide) ?_
        exact aw_iret rfl H dX11_fee_46
      · replace H := a_neg c53 H
        refine aw_iconst (v := 2) dX11_fee_34 (by decide) ?_
        refine aw_iload_n dX11_fee_35 rfl 1 rfl ?_
        refine aw_imul dX11_fee_36 ?_
        refine aw_aload_n dX11_fee_37 rfl 0 rfl ?_
        refine aw_getI cf_X11 1 (by decide) rfl wd_1037 o_k dX11_fee_38 ?_
        refine aw_name (fun v54 e_v54 => ?_)
        replace H := H v54 e_v54
        refine aw_icmp_le (tgt := 47) dX11_fee_41 (by decide) (fun c55 => ?_) (fun c55 => ?_)
        · replace H := a_pos c55 H
          refine aw_aload_n dX11_fee_47 rfl 0 rfl ?_
          refine aw_iload_n dX11_fee_48 rfl 1 rfl ?_
          refine aw_callV_i (As := [.int a1]) (rest := []) (am_X11_takesTwos (d + 8) o_k H) mf_X11_takesTwos wd_1575 wd_1577 ws_6_5 cf_X11 o_k rfl rfl (Nat.le_of_ble_eq_true rfl) dX11_fee_49 (fun r57 h56 H => ?_)
          refine aw_if_eq (tgt := 58) dX11_fee_52 (by decide) (fun c58 => ?_) (fun c58 => ?_)
          · replace H := a_pos c58 H
            refine aw_iconst (v := 0) dX11_fee_58 (by decide) ?_
            refine aw_istore (lv' := [(4, .int 0), (0, .ref (G.2.1 k)), (1, .int a1), (2, .int a2), (3, .int a3)]) dX11_fee_59 (by decide) rfl ?_
            refine aw_sub (lv' := [(0, .ref (G.2.1 k)), (1, .int a1), (2, .int a2), (3, .int a3), (4, .int 0)]) [1, 2, 3, 4, 0] rfl ?_
            obtain ⟨n1, H⟩ := H
            exact fm_X11_fee_61 d o_k n1 _ _ H
          · replace H := a_neg c58 H
            refine aw_bipush (v := (-2)) dX11_fee_55 (by decide) ?_
            exact aw_iret rfl H dX11_fee_57
        · replace H := a_neg c55 H
          refine aw_bipush (v := (-3)) dX11_fee_44 (by decide) ?_
          exact aw_iret rfl H dX11_fee_46
set_option maxHeartbeats 4000000 in
set_option maxRecDepth 100000 in
theorem am_X11_row {l : Launch} {S : aS} {G : aG} (d : Nat) {k : Nat} {a1 : Int32} {a2 : Int32} {h : aH} {Q : Int32 → aH → Prop} (o_k : aObj S k 10 flX11) (H : f_X11_row S k a1 a2 h Q) : AMi l S G (d + 5) M_X11_row [.ref (G.2.1 k), .int a1, .int a2] h Q := by
  unfold f_X11_row at H
  refine am_of mf_X11_row (Nat.le_of_ble_eq_true rfl) (lv0 := [(0, .ref (G.2.1 k)), (1, .int a1), (2, .int a2)]) rfl ?_
  refine aw_iload_n dX11_row_0 rfl 1 rfl ?_
  refine aw_iload_n dX11_row_1 rfl 2 rfl ?_
  refine aw_callS_i (As := [.int a1, .int a2]) (rest := []) (am_X11_isSquare (d + 2) H) mf_X11_isSquare wd_1251 wd_1252 rfl rfl (Nat.le_of_ble_eq_true rfl) dX11_row_2 (fun r2 h1 H => ?_)
  refine aw_if_eq (tgt := 29) dX11_row_5 (by decide) (fun c3 => ?_) (fun c3 => ?_)
  · replace H := a_pos c3 H
    refine aw_iconst (v := (-1)) dX11_row_29 (by decide) ?_
    exact aw_iret rfl H dX11_row_30
  · replace H := a_neg c3 H
    refine aw_aload_n dX11_row_8 rfl 0 rfl ?_
    refine aw_bipush (v := 16) dX11_row_9 (by decide) ?_
    refine aw_iload_n dX11_row_11 rfl 2 rfl ?_
    refine aw_imul dX11_row_12 ?_
    refine aw_iload_n dX11_row_13 rfl 1 rfl ?_
    refine aw_iadd dX11_row_14 ?_
    refine aw_callV_i (As := [.int ((16 * a2) + a1)]) (rest := []) (am_X11_makesRow d o_k H) mf_X11_makesRow wd_1434 wd_1436 ws_5_0 cf_X11 o_k rfl rfl (Nat.le_of_ble_eq_true rfl) dX11_row_15 (fun r5 h4 H => ?_)
    refine aw_if_eq (tgt := 25) dX11_row_18 (by decide) (fun c6 => ?_) (fun c6 => ?_)
    · replace H := a_pos c6 H
      refine aw_iconst (v := 0) dX11_row_25 (by decide) ?_
      refine aw_goto (tgt := 30) dX11_row_26 (by decide) ?_
      exact aw_iret rfl H dX11_row_30
    · replace H := a_neg c6 H
      refine aw_iconst (v := 1) dX11_row_21 (by decide) ?_
      refine aw_goto (tgt := 30) dX11_row_22 (by decide) ?_
      exact aw_iret rfl H dX11_row_30
set_option maxHeartbeats 4000000 in
set_option maxRecDepth 100000 in
theorem am_X11_seed {l : Launch} {S : aS} {G : aG} (d : Nat) {k : Nat} {a1 : Int32} {h : aH} {Q : Int32 → aH → Prop} (o_k : aObj S k 10 flX11) (H : f_X11_seed S k a1 h Q) : AMi l S G (d + 1) M_X11_seed [.ref (G.2.1 k), .int a1] h Q := by
  unfold f_X11_seed at H
  refine am_of mf_X11_seed (Nat.le_of_ble_eq_true rfl) (lv0 := [(0, .ref (G.2.1 k)), (1, .int a1)]) rfl ?_
  refine aw_iload_n dX11_seed_0 rfl 1 rfl ?_
  refine aw_i2l dX11_seed_1 ?_
  refine aw_lconst (v := 0) dX11_seed_2 (by decide) ?_
  refine aw_ldc2 (v := 65535) dX11_seed_3 wd_1667 ?_
  refine aw_callS_i (As := [.long (a1).toInt64, .long 0, .long 65535]) (rest := []) (am_X11_lies d H) mf_X11_lies wd_1258 wd_1259 rfl rfl (Nat.le_of_ble_eq_true rfl) dX11_seed_6 (fun r2 h1 H => ?_)
  refine aw_if_ne (tgt := 14) dX11_seed_9 (by decide) (fun c3 => ?_) (fun c3 => ?_)
  · replace H := a_pos c3 H
    refine aw_aload_n dX11_seed_14 rfl 0 rfl ?_
    refine aw_iload_n dX11_seed_15 rfl 1 rfl ?_
    refine aw_putI cf_X11 5 (by decide) rfl wd_1041 rfl rfl rfl o_k dX11_seed_16 ?_
    refine aw_nameH (fun h4 e_h4 => ?_)
    replace H := H h4 e_h4
    refine aw_iconst (v := 1) dX11_seed_19 (by decide) ?_
    exact aw_zret rfl rfl H dX11_seed_20
  · replace H := a_neg2 c3 H
    refine aw_iconst (v := 0) dX11_seed_12 (by decide) ?_
    exact aw_zret rfl rfl H dX11_seed_13
set_option maxHeartbeats 4000000 in
set_option maxRecDepth 100000 in
theorem fm_X11_wanders_63 {l : Launch} {S : aS} {G : aG} (d : Nat) {k : Nat} {a1 : Int32} {a2 : Int32} {Q : aH → Prop} (o_k : aObj S k 10 flX11) (s0 : Int32) (s1 : Int32) (s2 : Int32) (h : aH) (H : f_X11_wanders_63 S k a1 a2 Q s0 s1 s2 h) : AW l S G (d + 4) M_X11_wanders (va_Qv Q (aPo S G) (aA S G)) 63 [(0, .ref (G.2.1 k)), (1, .int a1), (2, .int a2)] [.int s0, .int s1, .int s2] h := by
  unfold f_X11_wanders_63 at H
  refine aw_callS_i (As := [.int s2, .int s1, .int s0]) (rest := []) (am_X11_aside d H) mf_X11_aside wd_1413 wd_1414 rfl rfl (Nat.le_of_ble_eq_true rfl) dX11_wanders_63 (fun r2 h1 H => ?_)
  refine aw_istore_n (lv' := [(3, .int r2), (0, .ref (G.2.1 k)), (1, .int a1), (2, .int a2)]) dX11_wanders_66 rfl (by decide) rfl ?_
  refine aw_iload_n dX11_wanders_67 rfl 0 rfl ?_
  refine aw_iconst (v := (-1)) dX11_wanders_68 (by decide) ?_
  refine aw_icmp_eq (tgt := 87) dX11_wanders_69 (by decide) (fun c3 => ?_) (fun c3 => ?_)
  · replace H := a_pos c3 H
    exact aw_vret rfl H dX11_wanders_87
  · replace H := a_neg c3 H
    refine aw_aload_n dX11_wanders_72 rfl 1 rfl ?_
    refine aw_iload_n dX11_wanders_73 rfl 0 rfl ?_
    refine aw_callV_i (As := [.int r2]) (rest := []) (am_X11_isIce (d + 3) o_k H) mf_X11_isIce wd_1374 wd_1376 ws_4_4 cf_X11 o_k rfl rfl (Nat.le_of_ble_eq_true rfl) dX11_wanders_74 (fun r5 h4 H => ?_)
    refine aw_if_eq (tgt := 87) dX11_wanders_77 (by decide) (fun c6 => ?_) (fun c6 => ?_)
    · replace H := a_pos c6 H
      exact aw_vret rfl H dX11_wanders_87
    · replace H := a_neg c6 H
      refine aw_aload_n dX11_wanders_80 rfl 1 rfl ?_
      refine aw_getR cf_X11 14 (by decide) rfl wd_1050 o_k dX11_wanders_81 ?_
      refine aw_iload_n dX11_wanders_84 rfl 2 rfl ?_
      refine aw_iload_n dX11_wanders_85 rfl 0 rfl ?_
      obtain ⟨z7, H⟩ := H
      refine aw_iastore z7 dX11_wanders_86 ?_
      refine aw_nameH (fun h8 e_h8 => ?_)
      replace H := H h8 e_h8
      exact aw_vret rfl H dX11_wanders_87
set_option maxHeartbeats 4000000 in
set_option maxRecDepth 100000 in
theorem am_X11_wanders {l : Launch} {S : aS} {G : aG} (d : Nat) {k : Nat} {a1 : Int32} {a2 : Int32} {h : aH} {Q : aH → Prop} (o_k : aObj S k 10 flX11) (H : f_X11_wanders S k a1 a2 h Q) : AMv l S G (d + 4) M_X11_wanders [.ref (G.2.1 k), .int a1, .int a2] h Q := by
  unfold f_X11_wanders at H
  refine am_of mf_X11_wanders (Nat.le_of_ble_eq_true rfl) (lv0 := [(0, .ref (G.2.1 k)), (1, .int a1), (2, .int a2)]) rfl ?_
  refine aw_aload_n dX11_wanders_0 rfl 0 rfl ?_
  refine aw_iload_n dX11_wanders_1 rfl 1 rfl ?_
  refine aw_callV_i (As := [.int a1]) (rest := []) (am_X11_isGroup (d + 2) o_k H) mf_X11_isGroup wd_1547 wd_1549 ws_6_2 cf_X11 o_k rfl rfl (Nat.le_of_ble_eq_true rfl) dX11_wanders_2 (fun r10 h9 H => ?_)
  refine aw_if_eq (tgt := 19) dX11_wanders_5 (by decide) (fun c11 => ?_) (fun c11 => ?_)
  · replace H := a_pos c11 H
    exact aw_vret rfl H dX11_wanders_19
  · replace H := a_neg c11 H
    refine aw_aload_n dX11_wanders_8 rfl 0 rfl ?_
    refine aw_getR cf_X11 14 (by decide) rfl wd_1050 o_k dX11_wanders_9 ?_
    refine aw_iload_n dX11_wanders_12 rfl 1 rfl ?_
    obtain ⟨z12, H⟩ := H
    refine aw_iaload z12 dX11_wanders_13 ?_
    refine aw_name (fun v13 e_v13 => ?_)
    replace H := H v13 e_v13
    refine aw_bipush (v := (-2)) dX11_wanders_14 (by decide) ?_
    refine aw_icmp_ne (tgt := 20) dX11_wanders_16 (by decide) (fun c14 => ?_) (fun c14 => ?_)
    · replace H := a_pos c14 H
      refine aw_aload_n dX11_wanders_20 rfl 0 rfl ?_
      refine aw_getR cf_X11 14 (by decide) rfl wd_1050 o_k dX11_wanders_21 ?_
      refine aw_iload_n dX11_wanders_24 rfl 1 rfl ?_
      obtain ⟨z15, H⟩ := H
      refine aw_iaload z15 dX11_wanders_25 ?_
      refine aw_name (fun v16 e_v16 => ?_)
      replace H := H v16 e_v16
      refine aw_iload_n dX11_wanders_26 rfl 2 rfl ?_
      refine aw_iconst (v := 1) dX11_wanders_27 (by decide) ?_
      refine aw_icmp_ne (tgt := 35) dX11_wanders_28 (by decide) (fun c17 => ?_) (fun c17 => ?_)
      · replace H := a_pos c17 H
        refine aw_iload_n dX11_wanders_35 rfl 2 rfl ?_
        refine aw_iconst (v := 3) dX11_wanders_36 (by decide) ?_
        refine aw_icmp_ne (tgt := 44) dX11_wanders_37 (by decide) (fun c18 => ?_) (fun c18 => ?_)
        · replace H := a_pos c18 H
          refine aw_iconst (v := 0) dX11_wanders_44 (by decide) ?_
          refine aw_iload_n dX11_wanders_45 rfl 2 rfl ?_
          refine aw_if_ne (tgt := 53) dX11_wanders_46 (by decide) (fun c19 => ?_) (fun c19 => ?_)
          · replace H := a_pos c19 H
            refine aw_iload_n dX11_wanders_53 rfl 2 rfl ?_
            refine aw_iconst (v := 2) dX11_wanders_54 (by decide) ?_
            refine aw_icmp_ne (tgt := 62) dX11_wanders_55 (by decide) (fun c20 => ?_) (fun c20 => ?_)
            · replace H := a_pos c20 H
              refine aw_iconst (v := 0) dX11_wanders_62 (by decide) ?_
              exact fm_X11_wanders_63 d o_k _ _ _ _ H
            · replace H := a_neg2 c20 H
              refine aw_iconst (v := (-1)) dX11_wanders_58 (by decide) ?_
              refine aw_goto (tgt := 63) dX11_wanders_59 (by decide) ?_
              exact fm_X11_wanders_63 d o_k _ _ _ _ H
          · replace H := a_neg2 c19 H
            refine aw_iconst (v := 1) dX11_wanders_49 (by decide) ?_
            refine aw_goto (tgt := 63) dX11_wanders_50 (by decide) ?_
            exact fm_X11_wanders_63 d o_k _ _ _ _ H
        · replace H := a_neg2 c18 H
          refine aw_iconst (v := (-1)) dX11_wanders_40 (by decide) ?_
          refine aw_goto (tgt := 45) dX11_wanders_41 (by decide) ?_
          refine aw_iload_n dX11_wanders_45 rfl 2 rfl ?_
          refine aw_if_ne (tgt := 53) dX11_wanders_46 (by decide) (fun c21 => ?_) (fun c21 => ?_)
          · replace H := a_pos c21 H
            refine aw_iload_n dX11_wanders_53 rfl 2 rfl ?_
            refine aw_iconst (v := 2) dX11_wanders_54 (by decide) ?_
            refine aw_icmp_ne (tgt := 62) dX11_wanders_55 (by decide) (fun c22 => ?_) (fun c22 => ?_)
            · replace H := a_pos c22 H
              refine aw_iconst (v := 0) dX11_wanders_62 (by decide) ?_
              exact fm_X11_wanders_63 d o_k _ _ _ _ H
            · replace H := a_neg2 c22 H
              refine aw_iconst (v := (-1)) dX11_wanders_58 (by decide) ?_
              refine aw_goto (tgt := 63) dX11_wanders_59 (by decide) ?_
              exact fm_X11_wanders_63 d o_k _ _ _ _ H
          · replace H := a_neg2 c21 H
            refine aw_iconst (v := 1) dX11_wanders_49 (by decide) ?_
            refine aw_goto (tgt := 63) dX11_wanders_50 (by decide) ?_
            exact fm_X11_wanders_63 d o_k _ _ _ _ H
      · replace H := a_neg2 c17 H
        refine aw_iconst (v := 1) dX11_wanders_31 (by decide) ?_
        refine aw_goto (tgt := 45) dX11_wanders_32 (by decide) ?_
        refine aw_iload_n dX11_wanders_45 rfl 2 rfl ?_
        refine aw_if_ne (tgt := 53) dX11_wanders_46 (by decide) (fun c23 => ?_) (fun c23 => ?_)
        · replace H := a_pos c23 H
          refine aw_iload_n dX11_wanders_53 rfl 2 rfl ?_
          refine aw_iconst (v := 2) dX11_wanders_54 (by decide) ?_
          refine aw_icmp_ne (tgt := 62) dX11_wanders_55 (by decide) (fun c24 => ?_) (fun c24 => ?_)
          · replace H := a_pos c24 H
            refine aw_iconst (v := 0) dX11_wanders_62 (by decide) ?_
            exact fm_X11_wanders_63 d o_k _ _ _ _ H
          · replace H := a_neg2 c24 H
            refine aw_iconst (v := (-1)) dX11_wanders_58 (by decide) ?_
            refine aw_goto (tgt := 63) dX11_wanders_59 (by decide) ?_
            exact fm_X11_wanders_63 d o_k _ _ _ _ H
        · replace H := a_neg2 c23 H
          refine aw_iconst (v := 1) dX11_wanders_49 (by decide) ?_
          refine aw_goto (tgt := 63) dX11_wanders_50 (by decide) ?_
          exact fm_X11_wanders_63 d o_k _ _ _ _ H
    · replace H := a_neg2 c14 H
      exact aw_vret rfl H dX11_wanders_19
set_option maxHeartbeats 4000000 in
set_option maxRecDepth 100000 in
theorem fm_X11_draw_16 {l : Launch} {S : aS} {G : aG} (d : Nat) {k : Nat} {a1 : Int32} {Q : Int32 → aH → Prop} (o_k : aObj S k 10 flX11) : ∀ (n : Nat) (x2 : Int32) (x3 : Int32) (h : aH), f_X11_draw_16 S k a1 Q n x2 x3 h → AW l S G (d + 12) M_X11_draw (va_Qi Q (aPo S G) (aA S G)) 16 [(0, .ref (G.2.1 k)), (1, .int a1), (2, .int x2), (3, .int x3)] [] h := by
  intro n
  induction n with
  | zero => intro x2 x3 h H; exact False.elim H
  | succ n ih =>
    intro x2 x3 h H
    unfold f_X11_draw_16 at H
    refine aw_iload_n dX11_draw_16 rfl 3 rfl ?_
    refine aw_iload_n dX11_draw_17 rfl 1 rfl ?_
    refine aw_icmp_ge (tgt := 71) dX11_draw_18 (by decide) (fun c1 => ?_) (fun c1 => ?_)
    · replace H := a_pos c1 H
      refine aw_aload_n dX11_draw_71 rfl 0 rfl ?_
      refine aw_callV_i (As := []) (rest := []) (am_X11_drownedMany (d + 11) o_k H) mf_X11_drownedMany wd_1490 wd_1492 ws_5_9 cf_X11 o_k rfl rfl (Nat.le_of_ble_eq_true rfl) dX11_draw_72 (fun r3 h2 H => ?_)
      refine aw_iload_n dX11_draw_75 rfl 2 rfl ?_
      refine aw_isub dX11_draw_76 ?_
      exact aw_iret rfl H dX11_draw_77
    · replace H := a_neg c1 H
      refine aw_aload_n dX11_draw_21 rfl 0 rfl ?_
      refine aw_sipush (v := 25173) dX11_draw_22 (by decide) ?_
      refine aw_aload_n dX11_draw_25 rfl 0 rfl ?_
      refine aw_getI cf_X11 5 (by decide) rfl wd_1041 o_k dX11_draw_26 ?_
      refine aw_name (fun v4 e_v4 => ?_)
      replace H := H v4 e_v4
      refine aw_imul dX11_draw_29 ?_
      refine aw_sipush (v := 13849) dX11_draw_30 (by decide) ?_
      refine aw_iadd dX11_draw_33 ?_
      refine aw_ldcw (v := 65536) dX11_draw_34 wd_1672 ?_
      refine aw_irem dX11_draw_37 (by decide) ?_
      refine aw_putI cf_X11 5 (by decide) rfl wd_1041 rfl rfl rfl o_k dX11_draw_38 ?_
      refine aw_nameH (fun h5 e_h5 => ?_)
      replace H := H h5 e_h5
      refine aw_aload_n dX11_draw_41 rfl 0 rfl ?_
      refine aw_aload_n dX11_draw_42 rfl 0 rfl ?_
      refine aw_getI cf_X11 5 (by decide) rfl wd_1041 o_k dX11_draw_43 ?_
      refine aw_name (fun v6 e_v6 => ?_)
      replace H := H v6 e_v6
      refine aw_bipush (v := 8) dX11_draw_46 (by decide) ?_
      refine aw_irem dX11_draw_48 (by decide) ?_
      refine aw_aload_n dX11_draw_49 rfl 0 rfl ?_
      refine aw_getI cf_X11 5 (by decide) rfl wd_1041 o_k dX11_draw_50 ?_
      refine aw_name (fun v7 e_v7 => ?_)
      replace H := H v7 e_v7
      refine aw_bipush (v := 8) dX11_draw_53 (by decide) ?_
      refine aw_idiv dX11_draw_55 (by decide) ?_
      refine aw_iconst (v := 4) dX11_draw_56 (by decide) ?_
      refine aw_irem dX11_draw_57 (by decide) ?_
      refine aw_callV_v (As := [.int (v6 - v6 / 8 * 8), .int ((v7 / 8) - (v7 / 8) / 4 * 4)]) (rest := []) (am_X11_wanders (d + 7) o_k H) mf_X11_wanders wd_1673 wd_1675 ws_7_2 cf_X11 o_k rfl rfl (Nat.le_of_ble_eq_true rfl) dX11_draw_58 (fun h8 H => ?_)
      refine aw_aload_n dX11_draw_61 rfl 0 rfl ?_
      refine aw_callV_v (As := []) (rest := []) (am_X11_minuteOne d o_k H) mf_X11_minuteOne wd_1494 wd_1496 ws_5_10 cf_X11 o_k rfl rfl (Nat.le_of_ble_eq_true rfl) dX11_draw_62 (fun h9 H => ?_)
      obtain ⟨x3_10, e_x3_10⟩ : ∃ y : Int32, y = x3 + 1 := ⟨_, rfl⟩
      replace H := H x3_10 e_x3_10
      refine aw_iinc (v := x3_10) (lv' := [(3, .int x3_10), (0, .ref (G.2.1 k)), (1, .int a1), (2, .int x2)]) dX11_draw_65 (n0 := 3) rfl (by rw [e_x3_10]; rfl) (by decide) rfl ?_
      refine aw_goto (tgt := 16) dX11_draw_68 (by decide) ?_
      refine aw_sub (lv' := [(0, .ref (G.2.1 k)), (1, .int a1), (2, .int x2), (3, .int x3_10)]) [1, 2, 3, 0] rfl ?_
      exact ih _ _ _ H
set_option maxHeartbeats 4000000 in
set_option maxRecDepth 100000 in
theorem am_X11_draw {l : Launch} {S : aS} {G : aG} (d : Nat) {k : Nat} {a1 : Int32} {h : aH} {Q : Int32 → aH → Prop} (o_k : aObj S k 10 flX11) (H : f_X11_draw S k a1 h Q) : AMi l S G (d + 12) M_X11_draw [.ref (G.2.1 k), .int a1] h Q := by
  unfold f_X11_draw at H
  refine am_of mf_X11_draw (Nat.le_of_ble_eq_true rfl) (lv0 := [(0, .ref (G.2.1 k)), (1, .int a1)]) rfl ?_
  refine aw_iload_n dX11_draw_0 rfl 1 rfl ?_
  refine aw_callS_i (As := [.int a1]) (rest := []) (am_X11_isHour (d + 10) H) mf_X11_isHour wd_1486 wd_1487 rfl rfl (Nat.le_of_ble_eq_true rfl) dX11_draw_1 (fun r12 h11 H => ?_)
  refine aw_if_ne (tgt := 9) dX11_draw_4 (by decide) (fun c13 => ?_) (fun c13 => ?_)
  · replace H := a_pos c13 H
    refine aw_aload_n dX11_draw_9 rfl 0 rfl ?_
    refine aw_callV_i (As := []) (rest := []) (am_X11_drownedMany (d + 11) o_k H) mf_X11_drownedMany wd_1490 wd_1492 ws_5_9 cf_X11 o_k rfl rfl (Nat.le_of_ble_eq_true rfl) dX11_draw_10 (fun r15 h14 H => ?_)
    refine aw_istore_n (lv' := [(2, .int r15), (0, .ref (G.2.1 k)), (1, .int a1)]) dX11_draw_13 rfl (by decide) rfl ?_
    refine aw_iconst (v := 0) dX11_draw_14 (by decide) ?_
    refine aw_istore_n (lv' := [(3, .int 0), (2, .int r15), (0, .ref (G.2.1 k)), (1, .int a1)]) dX11_draw_15 rfl (by decide) rfl ?_
    refine aw_sub (lv' := [(0, .ref (G.2.1 k)), (1, .int a1), (2, .int r15), (3, .int 0)]) [2, 3, 1, 0] rfl ?_
    obtain ⟨n1, H⟩ := H
    exact fm_X11_draw_16 d o_k n1 _ _ _ H
  · replace H := a_neg2 c13 H
    refine aw_iconst (v := (-1)) dX11_draw_7 (by decide) ?_
    exact aw_iret rfl H dX11_draw_8
set_option maxHeartbeats 4000000 in
set_option maxRecDepth 100000 in
theorem fm_X11_keep_110 {l : Launch} {S : aS} {G : aG} (d : Nat) {k : Nat} {Q : Int32 → aH → Prop} (o_k : aObj S k 10 flX11) : ∀ (n : Nat) (x1 : Int32) (h : aH), f_X11_keep_110 S k Q n x1 h → AW l S G (d + 1) M_X11_keep (va_Qi Q (aPo S G) (aA S G)) 110 [(0, .ref (G.2.1 k)), (1, .int x1)] [] h := by
  intro n
  induction n with
  | zero => intro x1 h H; exact False.elim H
  | succ n ih =>
    intro x1 h H
    unfold f_X11_keep_110 at H
    refine aw_iload_n dX11_keep_110 rfl 1 rfl ?_
    refine aw_bipush (v := 8) dX11_keep_111 (by decide) ?_
    refine aw_icmp_ge (tgt := 134) dX11_keep_113 (by decide) (fun c1 => ?_) (fun c1 => ?_)
    · replace H := a_pos c1 H
      refine aw_aload_n dX11_keep_134 rfl 0 rfl ?_
      refine aw_callV_i (As := []) (rest := []) (am_X11_brokenMany d o_k H) mf_X11_brokenMany wd_1526 wd_1528 ws_6_0 cf_X11 o_k rfl rfl (Nat.le_of_ble_eq_true rfl) dX11_keep_135 (fun r3 h2 H => ?_)
      exact aw_iret rfl H dX11_keep_138
    · replace H := a_neg c1 H
      refine aw_aload_n dX11_keep_116 rfl 0 rfl ?_
      refine aw_getR cf_X11 69 (by decide) rfl wd_1105 o_k dX11_keep_117 ?_
      refine aw_iload_n dX11_keep_120 rfl 1 rfl ?_
      refine aw_aload_n dX11_keep_121 rfl 0 rfl ?_
      refine aw_getR cf_X11 15 (by decide) rfl wd_1051 o_k dX11_keep_122 ?_
      refine aw_iload_n dX11_keep_125 rfl 1 rfl ?_
      obtain ⟨z4, H⟩ := H
      refine aw_iaload z4 dX11_keep_126 ?_
      refine aw_name (fun v5 e_v5 => ?_)
      replace H := H v5 e_v5
      obtain ⟨z6, H⟩ := H
      refine aw_iastore z6 dX11_keep_127 ?_
      refine aw_nameH (fun h7 e_h7 => ?_)
      replace H := H h7 e_h7
      obtain ⟨x1_8, e_x1_8⟩ : ∃ y : Int32, y = x1 + 1 := ⟨_, rfl⟩
      replace H := H x1_8 e_x1_8
      refine aw_iinc (v := x1_8) (lv' := [(1, .int x1_8), (0, .ref (G.2.1 k))]) dX11_keep_128 (n0 := 1) rfl (by rw [e_x1_8]; rfl) (by decide) rfl ?_
      refine aw_goto (tgt := 110) dX11_keep_131 (by decide) ?_
      refine aw_sub (lv' := [(0, .ref (G.2.1 k)), (1, .int x1_8)]) [1, 0] rfl ?_
      exact ih _ _ H
set_option maxHeartbeats 4000000 in
set_option maxRecDepth 100000 in
theorem fm_X11_keep_36 {l : Launch} {S : aS} {G : aG} (d : Nat) {k : Nat} {Q : Int32 → aH → Prop} (o_k : aObj S k 10 flX11) : ∀ (n : Nat) (x1 : Int32) (h : aH), f_X11_keep_36 S k Q n x1 h → AW l S G (d + 1) M_X11_keep (va_Qi Q (aPo S G) (aA S G)) 36 [(0, .ref (G.2.1 k)), (1, .int x1)] [] h := by
  intro n
  induction n with
  | zero => intro x1 h H; exact False.elim H
  | succ n ih =>
    intro x1 h H
    unfold f_X11_keep_36 at H
    refine aw_iload_n dX11_keep_36 rfl 1 rfl ?_
    refine aw_bipush (v := 12) dX11_keep_37 (by decide) ?_
    refine aw_icmp_ge (tgt := 108) dX11_keep_39 (by decide) (fun c9 => ?_) (fun c9 => ?_)
    · replace H := a_pos c9 H
      refine aw_iconst (v := 0) dX11_keep_108 (by decide) ?_
      refine aw_istore_n (lv' := [(1, .int 0), (0, .ref (G.2.1 k))]) dX11_keep_109 rfl (by decide) rfl ?_
      refine aw_sub (lv' := [(0, .ref (G.2.1 k)), (1, .int 0)]) [1, 0] rfl ?_
      obtain ⟨n1, H⟩ := H
      exact fm_X11_keep_110 d o_k n1 _ _ H
    · replace H := a_neg c9 H
      refine aw_aload_n dX11_keep_42 rfl 0 rfl ?_
      refine aw_getR cf_X11 64 (by decide) rfl wd_1100 o_k dX11_keep_43 ?_
      refine aw_iload_n dX11_keep_46 rfl 1 rfl ?_
      refine aw_aload_n dX11_keep_47 rfl 0 rfl ?_
      refine aw_getR cf_X11 9 (by decide) rfl wd_1045 o_k dX11_keep_48 ?_
      refine aw_iload_n dX11_keep_51 rfl 1 rfl ?_
      obtain ⟨z10, H⟩ := H
      refine aw_iaload z10 dX11_keep_52 ?_
      refine aw_name (fun v11 e_v11 => ?_)
      replace H := H v11 e_v11
      obtain ⟨z12, H⟩ := H
      refine aw_iastore z12 dX11_keep_53 ?_
      refine aw_nameH (fun h13 e_h13 => ?_)
      replace H := H h13 e_h13
      refine aw_aload_n dX11_keep_54 rfl 0 rfl ?_
      refine aw_getR cf_X11 65 (by decide) rfl wd_1101 o_k dX11_keep_55 ?_
      refine aw_iload_n dX11_keep_58 rfl 1 rfl ?_
      refine aw_aload_n dX11_keep_59 rfl 0 rfl ?_
      refine aw_getR cf_X11 10 (by decide) rfl wd_1046 o_k dX11_keep_60 ?_
      refine aw_iload_n dX11_keep_63 rfl 1 rfl ?_
      obtain ⟨z14, H⟩ := H
      refine aw_iaload z14 dX11_keep_64 ?_
      refine aw_name (fun v15 e_v15 => ?_)
      replace H := H v15 e_v15
      obtain ⟨z16, H⟩ := H
      refine aw_iastore z16 dX11_keep_65 ?_
      refine aw_nameH (fun h17 e_h17 => ?_)
      replace H := H h17 e_h17
      refine aw_aload_n dX11_keep_66 rfl 0 rfl ?_
      refine aw_getR cf_X11 66 (by decide) rfl wd_1102 o_k dX11_keep_67 ?_
      refine aw_iload_n dX11_keep_70 rfl 1 rfl ?_
      refine aw_aload_n dX11_keep_71 rfl 0 rfl ?_
      refine aw_getR cf_X11 11 (by decide) rfl wd_1047 o_k dX11_keep_72 ?_
      refine aw_iload_n dX11_keep_75 rfl 1 rfl ?_
      obtain ⟨z18, H⟩ := H
      refine aw_iaload z18 dX11_keep_76 ?_
      refine aw_name (fun v19 e_v19 => ?_)
      replace H := H v19 e_v19
      obtain ⟨z20, H⟩ := H
      refine aw_iastore z20 dX11_keep_77 ?_
      refine aw_nameH (fun h21 e_h21 => ?_)
      replace H := H h21 e_h21
      refine aw_aload_n dX11_keep_78 rfl 0 rfl ?_
      refine aw_getR cf_X11 67 (by decide) rfl wd_1103 o_k dX11_keep_79 ?_
      refine aw_iload_n dX11_keep_82 rfl 1 rfl ?_
      refine aw_aload_n dX11_keep_83 rfl 0 rfl ?_
      refine aw_getR cf_X11 12 (by decide) rfl wd_1048 o_k dX11_keep_84 ?_
      refine aw_iload_n dX11_keep_87 rfl 1 rfl ?_
      obtain ⟨z22, H⟩ := H
      refine aw_iaload z22 dX11_keep_88 ?_
      refine aw_name (fun v23 e_v23 => ?_)
      replace H := H v23 e_v23
      obtain ⟨z24, H⟩ := H
      refine aw_iastore z24 dX11_keep_89 ?_
      refine aw_nameH (fun h25 e_h25 => ?_)
      replace H := H h25 e_h25
      refine aw_aload_n dX11_keep_90 rfl 0 rfl ?_
      refine aw_getR cf_X11 68 (by decide) rfl wd_1104 o_k dX11_keep_91 ?_
      refine aw_iload_n dX11_keep_94 rfl 1 rfl ?_
      refine aw_aload_n dX11_keep_95 rfl 0 rfl ?_
      refine aw_getR cf_X11 13 (by decide) rfl wd_1049 o_k dX11_keep_96 ?_
      refine aw_iload_n dX11_keep_99 rfl 1 rfl ?_
      obtain ⟨z26, H⟩ := H
      refine aw_iaload z26 dX11_keep_100 ?_
      refine aw_name (fun v27 e_v27 => ?_)
      replace H := H v27 e_v27
      obtain ⟨z28, H⟩ := H
      refine aw_iastore z28 dX11_keep_101 ?_
      refine aw_nameH (fun h29 e_h29 => ?_)
      replace H := H h29 e_h29
      obtain ⟨x1_30, e_x1_30⟩ : ∃ y : Int32, y = x1 + 1 := ⟨_, rfl⟩
      replace H := H x1_30 e_x1_30
      refine aw_iinc (v := x1_30) (lv' := [(1, .int x1_30), (0, .ref (G.2.1 k))]) dX11_keep_102 (n0 := 1) rfl (by rw [e_x1_30]; rfl) (by decide) rfl ?_
      refine aw_goto (tgt := 36) dX11_keep_105 (by decide) ?_
      refine aw_sub (lv' := [(0, .ref (G.2.1 k)), (1, .int x1_30)]) [1, 0] rfl ?_
      exact ih _ _ H
set_option maxHeartbeats 4000000 in
set_option maxRecDepth 100000 in
theorem am_X11_keep {l : Launch} {S : aS} {G : aG} (d : Nat) {k : Nat} {h : aH} {Q : Int32 → aH → Prop} (o_k : aObj S k 10 flX11) (H : f_X11_keep S k h Q) : AMi l S G (d + 1) M_X11_keep [.ref (G.2.1 k)] h Q := by
  unfold f_X11_keep at H
  refine am_of mf_X11_keep (Nat.le_of_ble_eq_true rfl) (lv0 := [(0, .ref (G.2.1 k))]) rfl ?_
  refine aw_aload_n dX11_keep_0 rfl 0 rfl ?_
  refine aw_iconst (v := 1) dX11_keep_1 (by decide) ?_
  refine aw_putI cf_X11 60 (by decide) rfl wd_1096 rfl (by decide) (by decide) o_k dX11_keep_2 ?_
  refine aw_nameH (fun h31 e_h31 => ?_)
  replace H := H h31 e_h31
  refine aw_aload_n dX11_keep_5 rfl 0 rfl ?_
  refine aw_iconst (v := 1) dX11_keep_6 (by decide) ?_
  refine aw_callV_v (As := [.int 1]) (rest := []) (am_X11_setsAside d o_k H) mf_X11_setsAside wd_1522 wd_1524 ws_5_15 cf_X11 o_k rfl rfl (Nat.le_of_ble_eq_true rfl) dX11_keep_7 (fun h32 H => ?_)
  refine aw_aload_n dX11_keep_10 rfl 0 rfl ?_
  refine aw_aload_n dX11_keep_11 rfl 0 rfl ?_
  refine aw_getI cf_X11 2 (by decide) rfl wd_1038 o_k dX11_keep_12 ?_
  refine aw_name (fun v33 e_v33 => ?_)
  replace H := H v33 e_v33
  refine aw_putI cf_X11 61 (by decide) rfl wd_1097 rfl rfl rfl o_k dX11_keep_15 ?_
  refine aw_nameH (fun h34 e_h34 => ?_)
  replace H := H h34 e_h34
  refine aw_aload_n dX11_keep_18 rfl 0 rfl ?_
  refine aw_aload_n dX11_keep_19 rfl 0 rfl ?_
  refine aw_getI cf_X11 3 (by decide) rfl wd_1039 o_k dX11_keep_20 ?_
  refine aw_name (fun v35 e_v35 => ?_)
  replace H := H v35 e_v35
  refine aw_putI cf_X11 62 (by decide) rfl wd_1098 rfl rfl rfl o_k dX11_keep_23 ?_
  refine aw_nameH (fun h36 e_h36 => ?_)
  replace H := H h36 e_h36
  refine aw_aload_n dX11_keep_26 rfl 0 rfl ?_
  refine aw_aload_n dX11_keep_27 rfl 0 rfl ?_
  refine aw_getI cf_X11 5 (by decide) rfl wd_1041 o_k dX11_keep_28 ?_
  refine aw_name (fun v37 e_v37 => ?_)
  replace H := H v37 e_v37
  refine aw_putI cf_X11 63 (by decide) rfl wd_1099 rfl rfl rfl o_k dX11_keep_31 ?_
  refine aw_nameH (fun h38 e_h38 => ?_)
  replace H := H h38 e_h38
  refine aw_iconst (v := 0) dX11_keep_34 (by decide) ?_
  refine aw_istore_n (lv' := [(1, .int 0), (0, .ref (G.2.1 k))]) dX11_keep_35 rfl (by decide) rfl ?_
  refine aw_sub (lv' := [(0, .ref (G.2.1 k)), (1, .int 0)]) [1, 0] rfl ?_
  obtain ⟨n1, H⟩ := H
  exact fm_X11_keep_36 d o_k n1 _ _ H
set_option maxHeartbeats 4000000 in
set_option maxRecDepth 100000 in
theorem fm_X11_undo_114 {l : Launch} {S : aS} {G : aG} (d : Nat) {k : Nat} {Q : Int32 → aH → Prop} (o_k : aObj S k 10 flX11) : ∀ (n : Nat) (x1 : Int32) (h : aH), f_X11_undo_114 S k Q n x1 h → AW l S G (d + 1) M_X11_undo (va_Qi Q (aPo S G) (aA S G)) 114 [(0, .ref (G.2.1 k)), (1, .int x1)] [] h := by
  intro n
  induction n with
  | zero => intro x1 h H; exact False.elim H
  | succ n ih =>
    intro x1 h H
    unfold f_X11_undo_114 at H
    refine aw_iload_n dX11_undo_114 rfl 1 rfl ?_
    refine aw_bipush (v := 8) dX11_undo_115 (by decide) ?_
    refine aw_icmp_ge (tgt := 138) dX11_undo_117 (by decide) (fun c1 => ?_) (fun c1 => ?_)
    · replace H := a_pos c1 H
      refine aw_iconst (v := 1) dX11_undo_138 (by decide) ?_
      exact aw_zret rfl rfl H dX11_undo_139
    · replace H := a_neg c1 H
      refine aw_aload_n dX11_undo_120 rfl 0 rfl ?_
      refine aw_getR cf_X11 15 (by decide) rfl wd_1051 o_k dX11_undo_121 ?_
      refine aw_iload_n dX11_undo_124 rfl 1 rfl ?_
      refine aw_aload_n dX11_undo_125 rfl 0 rfl ?_
      refine aw_getR cf_X11 69 (by decide) rfl wd_1105 o_k dX11_undo_126 ?_
      refine aw_iload_n dX11_undo_129 rfl 1 rfl ?_
      obtain ⟨z2, H⟩ := H
      refine aw_iaload z2 dX11_undo_130 ?_
      refine aw_name (fun v3 e_v3 => ?_)
      replace H := H v3 e_v3
      obtain ⟨z4, H⟩ := H
      refine aw_iastore z4 dX11_undo_131 ?_
      refine aw_nameH (fun h5 e_h5 => ?_)
      replace H := H h5 e_h5
      obtain ⟨x1_6, e_x1_6⟩ : ∃ y : Int32, y = x1 + 1 := ⟨_, rfl⟩
      replace H := H x1_6 e_x1_6
      refine aw_iinc (v := x1_6) (lv' := [(1, .int x1_6), (0, .ref (G.2.1 k))]) dX11_undo_132 (n0 := 1) rfl (by rw [e_x1_6]; rfl) (by decide) rfl ?_
      refine aw_goto (tgt := 114) dX11_undo_135 (by decide) ?_
      refine aw_sub (lv' := [(0, .ref (G.2.1 k)), (1, .int x1_6)]) [1, 0] rfl ?_
      exact ih _ _ H
set_option maxHeartbeats 4000000 in
set_option maxRecDepth 100000 in
theorem fm_X11_undo_40 {l : Launch} {S : aS} {G : aG} (d : Nat) {k : Nat} {Q : Int32 → aH → Prop} (o_k : aObj S k 10 flX11) : ∀ (n : Nat) (x1 : Int32) (h : aH), f_X11_undo_40 S k Q n x1 h → AW l S G (d + 1) M_X11_undo (va_Qi Q (aPo S G) (aA S G)) 40 [(0, .ref (G.2.1 k)), (1, .int x1)] [] h := by
  intro n
  induction n with
  | zero => intro x1 h H; exact False.elim H
  | succ n ih =>
    intro x1 h H
    unfold f_X11_undo_40 at H
    refine aw_iload_n dX11_undo_40 rfl 1 rfl ?_
    refine aw_bipush (v := 12) dX11_undo_41 (by decide) ?_
    refine aw_icmp_ge (tgt := 112) dX11_undo_43 (by decide) (fun c7 => ?_) (fun c7 => ?_)
    · replace H := a_pos c7 H
      refine aw_iconst (v := 0) dX11_undo_112 (by decide) ?_
      refine aw_istore_n (lv' := [(1, .int 0), (0, .ref (G.2.1 k))]) dX11_undo_113 rfl (by decide) rfl ?_
      refine aw_sub (lv' := [(0, .ref (G.2.1 k)), (1, .int 0)]) [1, 0] rfl ?_
      obtain ⟨n1, H⟩ := H
      exact fm_X11_undo_114 d o_k n1 _ _ H
    · replace H := a_neg c7 H
      refine aw_aload_n dX11_undo_46 rfl 0 rfl ?_
      refine aw_getR cf_X11 9 (by decide) rfl wd_1045 o_k dX11_undo_47 ?_
      refine aw_iload_n dX11_undo_50 rfl 1 rfl ?_
      refine aw_aload_n dX11_undo_51 rfl 0 rfl ?_
      refine aw_getR cf_X11 64 (by decide) rfl wd_1100 o_k dX11_undo_52 ?_
      refine aw_iload_n dX11_undo_55 rfl 1 rfl ?_
      obtain ⟨z8, H⟩ := H
      refine aw_iaload z8 dX11_undo_56 ?_
      refine aw_name (fun v9 e_v9 => ?_)
      replace H := H v9 e_v9
      obtain ⟨z10, H⟩ := H
      refine aw_iastore z10 dX11_undo_57 ?_
      refine aw_nameH (fun h11 e_h11 => ?_)
      replace H := H h11 e_h11
      refine aw_aload_n dX11_undo_58 rfl 0 rfl ?_
      refine aw_getR cf_X11 10 (by decide) rfl wd_1046 o_k dX11_undo_59 ?_
      refine aw_iload_n dX11_undo_62 rfl 1 rfl ?_
      refine aw_aload_n dX11_undo_63 rfl 0 rfl ?_
      refine aw_getR cf_X11 65 (by decide) rfl wd_1101 o_k dX11_undo_64 ?_
      refine aw_iload_n dX11_undo_67 rfl 1 rfl ?_
      obtain ⟨z12, H⟩ := H
      refine aw_iaload z12 dX11_undo_68 ?_
      refine aw_name (fun v13 e_v13 => ?_)
      replace H := H v13 e_v13
      obtain ⟨z14, H⟩ := H
      refine aw_iastore z14 dX11_undo_69 ?_
      refine aw_nameH (fun h15 e_h15 => ?_)
      replace H := H h15 e_h15
      refine aw_aload_n dX11_undo_70 rfl 0 rfl ?_
      refine aw_getR cf_X11 11 (by decide) rfl wd_1047 o_k dX11_undo_71 ?_
      refine aw_iload_n dX11_undo_74 rfl 1 rfl ?_
      refine aw_aload_n dX11_undo_75 rfl 0 rfl ?_
      refine aw_getR cf_X11 66 (by decide) rfl wd_1102 o_k dX11_undo_76 ?_
      refine aw_iload_n dX11_undo_79 rfl 1 rfl ?_
      obtain ⟨z16, H⟩ := H
      refine aw_iaload z16 dX11_undo_80 ?_
      refine aw_name (fun v17 e_v17 => ?_)
      replace H := H v17 e_v17
      obtain ⟨z18, H⟩ := H
      refine aw_iastore z18 dX11_undo_81 ?_
      refine aw_nameH (fun h19 e_h19 => ?_)
      replace H := H h19 e_h19
      refine aw_aload_n dX11_undo_82 rfl 0 rfl ?_
      refine aw_getR cf_X11 12 (by decide) rfl wd_1048 o_k dX11_undo_83 ?_
      refine aw_iload_n dX11_undo_86 rfl 1 rfl ?_
      refine aw_aload_n dX11_undo_87 rfl 0 rfl ?_
      refine aw_getR cf_X11 67 (by decide) rfl wd_1103 o_k dX11_undo_88 ?_
      refine aw_iload_n dX11_undo_91 rfl 1 rfl ?_
      obtain ⟨z20, H⟩ := H
      refine aw_iaload z20 dX11_undo_92 ?_
      refine aw_name (fun v21 e_v21 => ?_)
      replace H := H v21 e_v21
      obtain ⟨z22, H⟩ := H
      refine aw_iastore z22 dX11_undo_93 ?_
      refine aw_nameH (fun h23 e_h23 => ?_)
      replace H := H h23 e_h23
      refine aw_aload_n dX11_undo_94 rfl 0 rfl ?_
      refine aw_getR cf_X11 13 (by decide) rfl wd_1049 o_k dX11_undo_95 ?_
      refine aw_iload_n dX11_undo_98 rfl 1 rfl ?_
      refine aw_aload_n dX11_undo_99 rfl 0 rfl ?_
      refine aw_getR cf_X11 68 (by decide) rfl wd_1104 o_k dX11_undo_100 ?_
      refine aw_iload_n dX11_undo_103 rfl 1 rfl ?_
      obtain ⟨z24, H⟩ := H
      refine aw_iaload z24 dX11_undo_104 ?_
      refine aw_name (fun v25 e_v25 => ?_)
      replace H := H v25 e_v25
      obtain ⟨z26, H⟩ := H
      refine aw_iastore z26 dX11_undo_105 ?_
      refine aw_nameH (fun h27 e_h27 => ?_)
      replace H := H h27 e_h27
      obtain ⟨x1_28, e_x1_28⟩ : ∃ y : Int32, y = x1 + 1 := ⟨_, rfl⟩
      replace H := H x1_28 e_x1_28
      refine aw_iinc (v := x1_28) (lv' := [(1, .int x1_28), (0, .ref (G.2.1 k))]) dX11_undo_106 (n0 := 1) rfl (by rw [e_x1_28]; rfl) (by decide) rfl ?_
      refine aw_goto (tgt := 40) dX11_undo_109 (by decide) ?_
      refine aw_sub (lv' := [(0, .ref (G.2.1 k)), (1, .int x1_28)]) [1, 0] rfl ?_
      exact ih _ _ H
set_option maxHeartbeats 4000000 in
set_option maxRecDepth 100000 in
theorem am_X11_undo {l : Launch} {S : aS} {G : aG} (d : Nat) {k : Nat} {h : aH} {Q : Int32 → aH → Prop} (o_k : aObj S k 10 flX11) (H : f_X11_undo S k h Q) : AMi l S G (d + 1) M_X11_undo [.ref (G.2.1 k)] h Q := by
  unfold f_X11_undo at H
  refine am_of mf_X11_undo (Nat.le_of_ble_eq_true rfl) (lv0 := [(0, .ref (G.2.1 k))]) rfl ?_
  refine aw_aload_n dX11_undo_0 rfl 0 rfl ?_
  refine aw_getI cf_X11 60 (by decide) rfl wd_1096 o_k dX11_undo_1 ?_
  refine aw_name (fun v29 e_v29 => ?_)
  replace H := H v29 e_v29
  refine aw_if_ne (tgt := 9) dX11_undo_4 (by decide) (fun c30 => ?_) (fun c30 => ?_)
  · replace H := a_pos c30 H
    refine aw_aload_n dX11_undo_9 rfl 0 rfl ?_
    refine aw_iconst (v := 1) dX11_undo_10 (by decide) ?_
    refine aw_callV_v (As := [.int 1]) (rest := []) (am_X11_putsBack d o_k H) mf_X11_putsBack wd_1530 wd_1532 ws_6_1 cf_X11 o_k rfl rfl (Nat.le_of_ble_eq_true rfl) dX11_undo_11 (fun h31 H => ?_)
    refine aw_aload_n dX11_undo_14 rfl 0 rfl ?_
    refine aw_aload_n dX11_undo_15 rfl 0 rfl ?_
    refine aw_getI cf_X11 61 (by decide) rfl wd_1097 o_k dX11_undo_16 ?_
    refine aw_name (fun v32 e_v32 => ?_)
    replace H := H v32 e_v32
    refine aw_putI cf_X11 2 (by decide) rfl wd_1038 rfl rfl rfl o_k dX11_undo_19 ?_
    refine aw_nameH (fun h33 e_h33 => ?_)
    replace H := H h33 e_h33
    refine aw_aload_n dX11_undo_22 rfl 0 rfl ?_
    refine aw_aload_n dX11_undo_23 rfl 0 rfl ?_
    refine aw_getI cf_X11 62 (by decide) rfl wd_1098 o_k dX11_undo_24 ?_
    refine aw_name (fun v34 e_v34 => ?_)
    replace H := H v34 e_v34
    refine aw_putI cf_X11 3 (by decide) rfl wd_1039 rfl rfl rfl o_k dX11_undo_27 ?_
    refine aw_nameH (fun h35 e_h35 => ?_)
    replace H := H h35 e_h35
    refine aw_aload_n dX11_undo_30 rfl 0 rfl ?_
    refine aw_aload_n dX11_undo_31 rfl 0 rfl ?_
    refine aw_getI cf_X11 63 (by decide) rfl wd_1099 o_k dX11_undo_32 ?_
    refine aw_name (fun v36 e_v36 => ?_)
    replace H := H v36 e_v36
    refine aw_putI cf_X11 5 (by decide) rfl wd_1041 rfl rfl rfl o_k dX11_undo_35 ?_
    refine aw_nameH (fun h37 e_h37 => ?_)
    replace H := H h37 e_h37
    refine aw_iconst (v := 0) dX11_undo_38 (by decide) ?_
    refine aw_istore_n (lv' := [(1, .int 0), (0, .ref (G.2.1 k))]) dX11_undo_39 rfl (by decide) rfl ?_
    refine aw_sub (lv' := [(0, .ref (G.2.1 k)), (1, .int 0)]) [1, 0] rfl ?_
    obtain ⟨n1, H⟩ := H
    exact fm_X11_undo_40 d o_k n1 _ _ H
  · replace H := a_neg2 c30 H
    refine aw_iconst (v := 0) dX11_undo_7 (by decide) ?_
    exact aw_zret rfl rfl H dX11_undo_8
set_option maxHeartbeats 4000000 in
set_option maxRecDepth 100000 in
theorem fm_X11_numberAt_4 {l : Launch} {S : aS} {G : aG} (d : Nat) {k : Nat} {a1 : Int32} {Q : Int32 → aH → Prop} (o_k : aObj S k 10 flX11) : ∀ (n : Nat) (x2 : Int32) (x3 : Int32) (h : aH), f_X11_numberAt_4 S k a1 Q n x2 x3 h → AW l S G d M_X11_numberAt (va_Qi Q (aPo S G) (aA S G)) 4 [(0, .ref (G.2.1 k)), (1, .int a1), (2, .int x2), (3, .int x3)] [] h := by
  intro n
  induction n with
  | zero => intro x2 x3 h H; exact False.elim H
  | succ n ih =>
    intro x2 x3 h H
    unfold f_X11_numberAt_4 at H
    refine aw_iload_n dX11_numberAt_4 rfl 3 rfl ?_
    refine aw_iconst (v := 4) dX11_numberAt_5 (by decide) ?_
    refine aw_icmp_ge (tgt := 35) dX11_numberAt_6 (by decide) (fun c1 => ?_) (fun c1 => ?_)
    · replace H := a_pos c1 H
      refine aw_iload_n dX11_numberAt_35 rfl 2 rfl ?_
      exact aw_iret rfl H dX11_numberAt_36
    · replace H := a_neg c1 H
      refine aw_iload_n dX11_numberAt_9 rfl 2 rfl ?_
      refine aw_bipush (v := 8) dX11_numberAt_10 (by decide) ?_
      refine aw_ishl dX11_numberAt_12 ?_
      refine aw_aload_n dX11_numberAt_13 rfl 0 rfl ?_
      refine aw_getR cf_X11 0 (by decide) rfl wd_1036 o_k dX11_numberAt_14 ?_
      refine aw_iconst (v := 4) dX11_numberAt_17 (by decide) ?_
      refine aw_iload_n dX11_numberAt_18 rfl 1 rfl ?_
      refine aw_imul dX11_numberAt_19 ?_
      refine aw_iload_n dX11_numberAt_20 rfl 3 rfl ?_
      refine aw_iadd dX11_numberAt_21 ?_
      obtain ⟨z2, H⟩ := H
      refine aw_baload z2 dX11_numberAt_22 ?_
      refine aw_name (fun v3 e_v3 => ?_)
      replace H := H v3 e_v3
      refine aw_sipush (v := 255) dX11_numberAt_23 (by decide) ?_
      refine aw_iand dX11_numberAt_26 ?_
      refine aw_ior dX11_numberAt_27 ?_
      refine aw_name (fun x2_4 e_x2_4 => ?_)
      replace H := H x2_4 e_x2_4
      refine aw_istore_n (lv' := [(2, .int x2_4), (0, .ref (G.2.1 k)), (1, .int a1), (3, .int x3)]) dX11_numberAt_28 rfl (by decide) rfl ?_
      obtain ⟨x3_5, e_x3_5⟩ : ∃ y : Int32, y = x3 + 1 := ⟨_, rfl⟩
      replace H := H x3_5 e_x3_5
      refine aw_iinc (v := x3_5) (lv' := [(3, .int x3_5), (2, .int x2_4), (0, .ref (G.2.1 k)), (1, .int a1)]) dX11_numberAt_29 (n0 := 3) rfl (by rw [e_x3_5]; rfl) (by decide) rfl ?_
      refine aw_goto (tgt := 4) dX11_numberAt_32 (by decide) ?_
      refine aw_sub (lv' := [(0, .ref (G.2.1 k)), (1, .int a1), (2, .int x2_4), (3, .int x3_5)]) [2, 3, 1, 0] rfl ?_
      exact ih _ _ _ H
set_option maxHeartbeats 4000000 in
set_option maxRecDepth 100000 in
theorem am_X11_numberAt {l : Launch} {S : aS} {G : aG} (d : Nat) {k : Nat} {a1 : Int32} {h : aH} {Q : Int32 → aH → Prop} (o_k : aObj S k 10 flX11) (H : f_X11_numberAt S k a1 h Q) : AMi l S G d M_X11_numberAt [.ref (G.2.1 k), .int a1] h Q := by
  unfold f_X11_numberAt at H
  refine am_of mf_X11_numberAt (Nat.le_of_ble_eq_true rfl) (lv0 := [(0, .ref (G.2.1 k)), (1, .int a1)]) rfl ?_
  refine aw_iconst (v := 0) dX11_numberAt_0 (by decide) ?_
  refine aw_istore_n (lv' := [(2, .int 0), (0, .ref (G.2.1 k)), (1, .int a1)]) dX11_numberAt_1 rfl (by decide) rfl ?_
  refine aw_iconst (v := 0) dX11_numberAt_2 (by decide) ?_
  refine aw_istore_n (lv' := [(3, .int 0), (2, .int 0), (0, .ref (G.2.1 k)), (1, .int a1)]) dX11_numberAt_3 rfl (by decide) rfl ?_
  refine aw_sub (lv' := [(0, .ref (G.2.1 k)), (1, .int a1), (2, .int 0), (3, .int 0)]) [2, 3, 1, 0] rfl ?_
  obtain ⟨n1, H⟩ := H
  exact fm_X11_numberAt_4 d o_k n1 _ _ _ H
set_option maxHeartbeats 4000000 in
set_option maxRecDepth 100000 in
theorem fm_X11_check_39 {l : Launch} {S : aS} {G : aG} (d : Nat) {k : Nat} {a1 : Int32} {a2 : Int32} {Q : Int32 → aH → Prop} (o_k : aObj S k 10 flX11) : ∀ (n : Nat) (x3 : Int32) (h : aH), f_X11_check_39 S k a1 a2 Q n x3 h → AW l S G (d + 2) M_X11_check (va_Qi Q (aPo S G) (aA S G)) 39 [(0, .ref (G.2.1 k)), (1, .int a1), (2, .int a2), (3, .int x3)] [] h := by
  intro n
  induction n with
  | zero => intro x3 h H; exact False.elim H
  | succ n ih =>
    intro x3 h H
    unfold f_X11_check_39 at H
    refine aw_iload_n dX11_check_39 rfl 3 rfl ?_
    refine aw_iload_n dX11_check_40 rfl 2 rfl ?_
    refine aw_icmp_ge (tgt := 105) dX11_check_41 (by decide) (fun c1 => ?_) (fun c1 => ?_)
    · replace H := a_pos c1 H
      refine aw_iconst (v := (-1)) dX11_check_105 (by decide) ?_
      exact aw_iret rfl H dX11_check_106
    · replace H := a_neg c1 H
      refine aw_bipush (v := 16) dX11_check_44 (by decide) ?_
      refine aw_iload_n dX11_check_46 rfl 1 rfl ?_
      refine aw_imul dX11_check_47 ?_
      refine aw_iload_n dX11_check_48 rfl 3 rfl ?_
      refine aw_iadd dX11_check_49 ?_
      refine aw_name (fun x4_2 e_x4_2 => ?_)
      replace H := H x4_2 e_x4_2
      refine aw_istore (lv' := [(4, .int x4_2), (0, .ref (G.2.1 k)), (1, .int a1), (2, .int a2), (3, .int x3)]) dX11_check_50 (by decide) rfl ?_
      refine aw_aload_n dX11_check_52 rfl 1 rfl ?_
      refine aw_iload_n dX11_check_53 rfl 4 rfl ?_
      refine aw_callV_i (As := [.int x3]) (rest := []) (am_X11_numberAt (d + 1) o_k H) mf_X11_numberAt wd_1690 wd_1692 ws_7_3 cf_X11 o_k rfl rfl (Nat.le_of_ble_eq_true rfl) dX11_check_54 (fun r4 h3 H => ?_)
      refine aw_aload_n dX11_check_57 rfl 1 rfl ?_
      refine aw_getR cf_X11 7 (by decide) rfl wd_1043 o_k dX11_check_58 ?_
      refine aw_iload dX11_check_61 0 rfl ?_
      obtain ⟨z5, H⟩ := H
      refine aw_zaload z5 dX11_check_63 ?_
      refine aw_name (fun v6 e_v6 => ?_)
      replace H := H v6 e_v6
      refine aw_if_eq (tgt := 71) dX11_check_64 (by decide) (fun c7 => ?_) (fun c7 => ?_)
      · replace H := a_pos c7 H
        refine aw_aload_n dX11_check_71 rfl 1 rfl ?_
        refine aw_getR cf_X11 8 (by decide) rfl wd_1044 o_k dX11_check_72 ?_
        refine aw_iload dX11_check_75 0 rfl ?_
        obtain ⟨z8, H⟩ := H
        refine aw_iaload z8 dX11_check_77 ?_
        refine aw_name (fun v9 e_v9 => ?_)
        replace H := H v9 e_v9
        refine aw_iconst (v := (-1)) dX11_check_78 (by decide) ?_
        refine aw_icmp_eq (tgt := 87) dX11_check_79 (by decide) (fun c10 => ?_) (fun c10 => ?_)
        · replace H := a_pos c10 H
          refine aw_aload_n dX11_check_87 rfl 1 rfl ?_
          refine aw_getR cf_X11 6 (by decide) rfl wd_1042 o_k dX11_check_88 ?_
          refine aw_iload dX11_check_91 0 rfl ?_
          obtain ⟨z11, H⟩ := H
          refine aw_iaload z11 dX11_check_93 ?_
          refine aw_name (fun v12 e_v12 => ?_)
          replace H := H v12 e_v12
          refine aw_icmp_eq (tgt := 99) dX11_check_94 (by decide) (fun c13 => ?_) (fun c13 => ?_)
          · replace H := a_pos c13 H
            obtain ⟨x3_14, e_x3_14⟩ : ∃ y : Int32, y = x3 + 1 := ⟨_, rfl⟩
            replace H := H x3_14 e_x3_14
            refine aw_iinc (v := x3_14) (lv' := [(3, .int x3_14), (4, .int x4_2), (0, .ref (G.2.1 k)), (1, .int a1), (2, .int a2)]) dX11_check_99 (n0 := 4) rfl (by rw [e_x3_14]; rfl) (by decide) rfl ?_
            refine aw_goto (tgt := 39) dX11_check_102 (by decide) ?_
            refine aw_sub (lv' := [(0, .ref (G.2.1 k)), (1, .int a1), (2, .int a2), (3, .int x3_14)]) [2, 3, 4, 0] rfl ?_
            exact ih _ _ H
          · replace H := a_neg c13 H
            refine aw_iload_n dX11_check_97 rfl 4 rfl ?_
            exact aw_iret rfl H dX11_check_98
        · replace H := a_neg c10 H
          refine aw_bipush (v := (-2)) dX11_check_82 (by decide) ?_
          refine aw_goto (tgt := 94) dX11_check_84 (by decide) ?_
          refine aw_icmp_eq (tgt := 99) dX11_check_94 (by decide) (fun c15 => ?_) (fun c15 => ?_)
          · replace H := a_pos c15 H
            obtain ⟨x3_16, e_x3_16⟩ : ∃ y : Int32, y = x3 + 1 := ⟨_, rfl⟩
            replace H := H x3_16 e_x3_16
            refine aw_iinc (v := x3_16) (lv' := [(3, .int x3_16), (4, .int x4_2), (0, .ref (G.2.1 k)), (1, .int a1), (2, .int a2)]) dX11_check_99 (n0 := 4) rfl (by rw [e_x3_16]; rfl) (by decide) rfl ?_
            refine aw_goto (tgt := 39) dX11_check_102 (by decide) ?_
            refine aw_sub (lv' := [(0, .ref (G.2.1 k)), (1, .int a1), (2, .int a2), (3, .int x3_16)]) [2, 3, 4, 0] rfl ?_
            exact ih _ _ H
          · replace H := a_neg c15 H
            refine aw_iload_n dX11_check_97 rfl 4 rfl ?_
            exact aw_iret rfl H dX11_check_98
      · replace H := a_neg c7 H
        refine aw_iconst (v := (-1)) dX11_check_67 (by decide) ?_
        refine aw_goto (tgt := 94) dX11_check_68 (by decide) ?_
        refine aw_icmp_eq (tgt := 99) dX11_check_94 (by decide) (fun c17 => ?_) (fun c17 => ?_)
        · replace H := a_pos c17 H
          obtain ⟨x3_18, e_x3_18⟩ : ∃ y : Int32, y = x3 + 1 := ⟨_, rfl⟩
          replace H := H x3_18 e_x3_18
          refine aw_iinc (v := x3_18) (lv' := [(3, .int x3_18), (4, .int x4_2), (0, .ref (G.2.1 k)), (1, .int a1), (2, .int a2)]) dX11_check_99 (n0 := 4) rfl (by rw [e_x3_18]; rfl) (by decide) rfl ?_
          refine aw_goto (tgt := 39) dX11_check_102 (by decide) ?_
          refine aw_sub (lv' := [(0, .ref (G.2.1 k)), (1, .int a1), (2, .int a2), (3, .int x3_18)]) [2, 3, 4, 0] rfl ?_
          exact ih _ _ H
        · replace H := a_neg c17 H
          refine aw_iload_n dX11_check_97 rfl 4 rfl ?_
          exact aw_iret rfl H dX11_check_98
set_option maxHeartbeats 4000000 in
set_option maxRecDepth 100000 in
theorem am_X11_check {l : Launch} {S : aS} {G : aG} (d : Nat) {k : Nat} {a1 : Int32} {a2 : Int32} {h : aH} {Q : Int32 → aH → Prop} (o_k : aObj S k 10 flX11) (H : f_X11_check S k a1 a2 h Q) : AMi l S G (d + 2) M_X11_check [.ref (G.2.1 k), .int a1, .int a2] h Q := by
  unfold f_X11_check at H
  refine am_of mf_X11_check (Nat.le_of_ble_eq_true rfl) (lv0 := [(0, .ref (G.2.1 k)), (1, .int a1), (2, .int a2)]) rfl ?_
  refine aw_iload_n dX11_check_0 rfl 1 rfl ?_
  refine aw_callS_i (As := [.int a1]) (rest := []) (am_X11_isSide d H) mf_X11_isSide wd_1254 wd_1255 rfl rfl (Nat.le_of_ble_eq_true rfl) dX11_check_1 (fun r20 h19 H => ?_)
  refine aw_if_eq (tgt := 29) dX11_check_4 (by decide) (fun c21 => ?_) (fun c21 => ?_)
  · replace H := a_pos c21 H
    refine aw_bipush (v := (-2)) dX11_check_29 (by decide) ?_
    exact aw_iret rfl H dX11_check_31
  · replace H := a_neg c21 H
    refine aw_iload_n dX11_check_7 rfl 2 rfl ?_
    refine aw_i2l dX11_check_8 ?_
    refine aw_lconst (v := 0) dX11_check_9 (by decide) ?_
    refine aw_ldc2 (v := 16) dX11_check_10 wd_1689 ?_
    refine aw_callS_i (As := [.long (a2).toInt64, .long 0, .long 16]) (rest := []) (am_X11_lies (d + 1) H) mf_X11_lies wd_1258 wd_1259 rfl rfl (Nat.le_of_ble_eq_true rfl) dX11_check_13 (fun r23 h22 H => ?_)
    refine aw_if_eq (tgt := 29) dX11_check_16 (by decide) (fun c24 => ?_) (fun c24 => ?_)
    · replace H := a_pos c24 H
      refine aw_bipush (v := (-2)) dX11_check_29 (by decide) ?_
      exact aw_iret rfl H dX11_check_31
    · replace H := a_neg c24 H
      refine aw_iload_n dX11_check_19 rfl 2 rfl ?_
      refine aw_aload_n dX11_check_20 rfl 0 rfl ?_
      refine aw_getI cf_X11 1 (by decide) rfl wd_1037 o_k dX11_check_21 ?_
      refine aw_name (fun v25 e_v25 => ?_)
      replace H := H v25 e_v25
      refine aw_iconst (v := 4) dX11_check_24 (by decide) ?_
      refine aw_idiv dX11_check_25 (by decide) ?_
      refine aw_icmp_le (tgt := 32) dX11_check_26 (by decide) (fun c26 => ?_) (fun c26 => ?_)
      · replace H := a_pos c26 H
        refine aw_aload_n dX11_check_32 rfl 0 rfl ?_
        refine aw_iconst (v := 0) dX11_check_33 (by decide) ?_
        refine aw_putI cf_X11 1 (by decide) rfl wd_1037 rfl rfl rfl o_k dX11_check_34 ?_
        refine aw_nameH (fun h27 e_h27 => ?_)
        replace H := H h27 e_h27
        refine aw_iconst (v := 0) dX11_check_37 (by decide) ?_
        refine aw_istore_n (lv' := [(3, .int 0), (0, .ref (G.2.1 k)), (1, .int a1), (2, .int a2)]) dX11_check_38 rfl (by decide) rfl ?_
        refine aw_sub (lv' := [(0, .ref (G.2.1 k)), (1, .int a1), (2, .int a2), (3, .int 0)]) [1, 2, 3, 0] rfl ?_
        obtain ⟨n1, H⟩ := H
        exact fm_X11_check_39 d o_k n1 _ _ H
      · replace H := a_neg c26 H
        refine aw_bipush (v := (-2)) dX11_check_29 (by decide) ?_
        exact aw_iret rfl H dX11_check_31
set_option maxHeartbeats 4000000 in
set_option maxRecDepth 100000 in
theorem am_X11_count {l : Launch} {S : aS} {G : aG} (d : Nat) {k : Nat} {a1 : Int32} {h : aH} {Q : Int32 → aH → Prop} (o_k : aObj S k 10 flX11) (H : f_X11_count S k a1 h Q) : AMi l S G (d + 1) M_X11_count [.ref (G.2.1 k), .int a1] h Q := by
  unfold f_X11_count at H
  refine am_of mf_X11_count (Nat.le_of_ble_eq_true rfl) (lv0 := [(0, .ref (G.2.1 k)), (1, .int a1)]) rfl ?_
  refine aw_iload_n dX11_count_0 rfl 1 rfl ?_
  by_cases c1_0 : a1 = 0
  · replace H := a_pos c1_0 H
    refine aw_tableIn (off := 47) (tgt := 48) dX11_count_1 (by rw [c1_0]; decide) (by rw [c1_0]; decide) (by rw [c1_0]; decide) (by decide) ?_
    refine aw_aload_n dX11_count_48 rfl 0 rfl ?_
    refine aw_getI cf_X11 4 (by decide) rfl wd_1040 o_k dX11_count_49 ?_
    refine aw_name (fun v2 e_v2 => ?_)
    replace H := H v2 e_v2
    exact aw_iret rfl H dX11_count_52
  · replace H := a_neg c1_0 H
    by_cases c1_1 : a1 = 1
    · replace H := a_pos c1_1 H
      refine aw_tableIn (off := 52) (tgt := 53) dX11_count_1 (by rw [c1_1]; decide) (by rw [c1_1]; decide) (by rw [c1_1]; decide) (by decide) ?_
      refine aw_aload_n dX11_count_53 rfl 0 rfl ?_
      refine aw_getI cf_X11 2 (by decide) rfl wd_1038 o_k dX11_count_54 ?_
      refine aw_name (fun v3 e_v3 => ?_)
      replace H := H v3 e_v3
      exact aw_iret rfl H dX11_count_57
    · replace H := a_neg c1_1 H
      by_cases c1_2 : a1 = 2
      · replace H := a_pos c1_2 H
        refine aw_tableIn (off := 57) (tgt := 58) dX11_count_1 (by rw [c1_2]; decide) (by rw [c1_2]; decide) (by rw [c1_2]; decide) (by decide) ?_
        refine aw_aload_n dX11_count_58 rfl 0 rfl ?_
        refine aw_getI cf_X11 3 (by decide) rfl wd_1039 o_k dX11_count_59 ?_
        refine aw_name (fun v4 e_v4 => ?_)
        replace H := H v4 e_v4
        exact aw_iret rfl H dX11_count_62
      · replace H := a_neg c1_2 H
        by_cases c1_3 : a1 = 3
        · replace H := a_pos c1_3 H
          refine aw_tableIn (off := 62) (tgt := 63) dX11_count_1 (by rw [c1_3]; decide) (by rw [c1_3]; decide) (by rw [c1_3]; decide) (by decide) ?_
          refine aw_aload_n dX11_count_63 rfl 0 rfl ?_
          refine aw_getI cf_X11 16 (by decide) rfl wd_1052 o_k dX11_count_64 ?_
          refine aw_name (fun v5 e_v5 => ?_)
          replace H := H v5 e_v5
          exact aw_iret rfl H dX11_count_67
        · replace H := a_neg c1_3 H
          by_cases c1_4 : a1 = 4
          · replace H := a_pos c1_4 H
            refine aw_tableIn (off := 67) (tgt := 68) dX11_count_1 (by rw [c1_4]; decide) (by rw [c1_4]; decide) (by rw [c1_4]; decide) (by decide) ?_
            refine aw_aload_n dX11_count_68 rfl 0 rfl ?_
            refine aw_getI cf_X11 1 (by decide) rfl wd_1037 o_k dX11_count_69 ?_
            refine aw_name (fun v6 e_v6 => ?_)
            replace H := H v6 e_v6
            exact aw_iret rfl H dX11_count_72
          · replace H := a_neg c1_4 H
            by_cases c1_5 : a1 = 5
            · replace H := a_pos c1_5 H
              refine aw_tableIn (off := 72) (tgt := 73) dX11_count_1 (by rw [c1_5]; decide) (by rw [c1_5]; decide) (by rw [c1_5]; decide) (by decide) ?_
              refine aw_aload_n dX11_count_73 rfl 0 rfl ?_
              refine aw_getI cf_X11 5 (by decide) rfl wd_1041 o_k dX11_count_74 ?_
              refine aw_name (fun v7 e_v7 => ?_)
              replace H := H v7 e_v7
              exact aw_iret rfl H dX11_count_77
            · replace H := a_neg c1_5 H
              by_cases c1_6 : a1 = 6
              · replace H := a_pos c1_6 H
                refine aw_tableIn (off := 77) (tgt := 78) dX11_count_1 (by rw [c1_6]; decide) (by rw [c1_6]; decide) (by rw [c1_6]; decide) (by decide) ?_
                refine aw_aload_n dX11_count_78 rfl 0 rfl ?_
                refine aw_callV_i (As := []) (rest := []) (am_X11_brokenMany d o_k H) mf_X11_brokenMany wd_1526 wd_1528 ws_6_0 cf_X11 o_k rfl rfl (Nat.le_of_ble_eq_true rfl) dX11_count_79 (fun r9 h8 H => ?_)
                exact aw_iret rfl H dX11_count_82
              · replace H := a_neg c1_6 H
                by_cases c1_7 : a1 = 7
                · replace H := a_pos c1_7 H
                  refine aw_tableIn (off := 82) (tgt := 83) dX11_count_1 (by rw [c1_7]; decide) (by rw [c1_7]; decide) (by rw [c1_7]; decide) (by decide) ?_
                  refine aw_aload_n dX11_count_83 rfl 0 rfl ?_
                  refine aw_callV_i (As := []) (rest := []) (am_X11_drownedMany d o_k H) mf_X11_drownedMany wd_1490 wd_1492 ws_5_9 cf_X11 o_k rfl rfl (Nat.le_of_ble_eq_true rfl) dX11_count_84 (fun r11 h10 H => ?_)
                  exact aw_iret rfl H dX11_count_87
                · replace H := a_neg c1_7 H
                  have t0 := a_ne (n := 0) (v := 0) (by decide) c1_0
                  have t1 := a_ne (n := 1) (v := 1) (by decide) c1_1
                  have t2 := a_ne (n := 2) (v := 2) (by decide) c1_2
                  have t3 := a_ne (n := 3) (v := 3) (by decide) c1_3
                  have t4 := a_ne (n := 4) (v := 4) (by decide) c1_4
                  have t5 := a_ne (n := 5) (v := 5) (by decide) c1_5
                  have t6 := a_ne (n := 6) (v := 6) (by decide) c1_6
                  have t7 := a_ne (n := 7) (v := 7) (by decide) c1_7
                  refine aw_tableOut (tgt := 88) dX11_count_1 (by omega) (by decide) ?_
                  refine aw_iconst (v := (-1)) dX11_count_88 (by decide) ?_
                  exact aw_iret rfl H dX11_count_89
