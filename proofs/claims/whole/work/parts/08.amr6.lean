set_option maxHeartbeats 4000000 in
set_option maxRecDepth 100000 in
theorem fm_X11_closing_154 {l : Launch} {S : aS} {G : aG} (d : Nat) {k : Nat} {a1 : Int32} {a2 : Int32} {a3 : Int32} {Q : Int32 → aH → Prop} (o_k : aObj S k 10 flX11) {K114 : Int32 → aH → Prop} (hK114 : ∀ (x4 : Int32) (h : aH), K114 x4 h → AW l S G (d + 12) M_X11_closing (va_Qi Q (aPo S G) (aA S G)) 114 [(0, .ref (G.2.1 k)), (1, .int a1), (2, .int a2), (3, .int a3), (4, .int x4)] [] h) : ∀ (n : Nat) (x4 : Int32) (x5 : Int32) (h : aH), f_X11_closing_154 S k a1 a2 a3 Q K114 n x4 x5 h → AW l S G (d + 12) M_X11_closing (va_Qi Q (aPo S G) (aA S G)) 154 [(0, .ref (G.2.1 k)), (1, .int a1), (2, .int a2), (3, .int a3), (4, .int x4), (5, .int x5)] [] h := by
  intro n
  induction n with
  | zero => intro x4 x5 h H; exact False.elim H
  | succ n ih =>
    intro x4 x5 h H
    unfold f_X11_closing_154 at H
    refine aw_iload dX11_closing_154 5 rfl ?_
    refine aw_aload_n dX11_closing_156 rfl 0 rfl ?_
    refine aw_getI cf_X11 2 (by decide) rfl wd_1038 o_k dX11_closing_157 ?_
    refine aw_name (fun v1 e_v1 => ?_)
    replace H := H v1 e_v1
    refine aw_icmp_ge (tgt := 216) dX11_closing_160 (by decide) (fun c2 => ?_) (fun c2 => ?_)
    · replace H := a_pos c2 H
      obtain ⟨x4_3, e_x4_3⟩ : ∃ y : Int32, y = x4 + (-1) := ⟨_, rfl⟩
      replace H := H x4_3 e_x4_3
      refine aw_iinc (v := x4_3) (lv' := [(4, .int x4_3), (0, .ref (G.2.1 k)), (1, .int a1), (2, .int a2), (3, .int a3), (5, .int x5)]) dX11_closing_216 (n0 := 4) rfl (by rw [e_x4_3]; rfl) (by decide) rfl ?_
      refine aw_goto (tgt := 114) dX11_closing_219 (by decide) ?_
      refine aw_sub (lv' := [(0, .ref (G.2.1 k)), (1, .int a1), (2, .int a2), (3, .int a3), (4, .int x4_3)]) [1, 2, 3, 4, 0] rfl ?_
      exact hK114 _ _ H
    · replace H := a_neg c2 H
      refine aw_iload_n dX11_closing_163 rfl 1 rfl ?_
      refine aw_iload dX11_closing_164 4 rfl ?_
      refine aw_iconst (v := (-1)) dX11_closing_166 (by decide) ?_
      refine aw_ixor dX11_closing_167 ?_
      refine aw_iand dX11_closing_168 ?_
      refine aw_iload dX11_closing_169 5 rfl ?_
      refine aw_callS_i (As := [.int (a1 &&& (x4 ^^^ (-1))), .int x5]) (rest := []) (am_X11_has (d + 11) H) mf_X11_has wd_1598 wd_1599 rfl rfl (Nat.le_of_ble_eq_true rfl) dX11_closing_171 (fun r5 h4 H => ?_)
      refine aw_if_eq (tgt := 210) dX11_closing_174 (by decide) (fun c6 => ?_) (fun c6 => ?_)
      · replace H := a_pos c6 H
        obtain ⟨x5_7, e_x5_7⟩ : ∃ y : Int32, y = x5 + 1 := ⟨_, rfl⟩
        replace H := H x5_7 e_x5_7
        refine aw_iinc (v := x5_7) (lv' := [(5, .int x5_7), (0, .ref (G.2.1 k)), (1, .int a1), (2, .int a2), (3, .int a3), (4, .int x4)]) dX11_closing_210 (n0 := 5) rfl (by rw [e_x5_7]; rfl) (by decide) rfl ?_
        refine aw_goto (tgt := 154) dX11_closing_213 (by decide) ?_
        refine aw_sub (lv' := [(0, .ref (G.2.1 k)), (1, .int a1), (2, .int a2), (3, .int a3), (4, .int x4), (5, .int x5_7)]) [1, 2, 3, 4, 5, 0] rfl ?_
        exact ih _ _ _ H
      · replace H := a_neg c6 H
        refine aw_aload_n dX11_closing_177 rfl 0 rfl ?_
        refine aw_iload dX11_closing_178 4 rfl ?_
        refine aw_iload dX11_closing_180 5 rfl ?_
        refine aw_callV_i (As := [.int x4, .int x5]) (rest := []) (am_X11_costBy (d + 9) o_k H) mf_X11_costBy wd_1622 wd_1624 ws_6_13 cf_X11 o_k rfl rfl (Nat.le_of_ble_eq_true rfl) dX11_closing_182 (fun r9 h8 H => ?_)
        refine aw_aload_n dX11_closing_185 rfl 0 rfl ?_
        refine aw_getR cf_X11 57 (by decide) rfl wd_1093 o_k dX11_closing_186 ?_
        refine aw_iload dX11_closing_189 4 rfl ?_
        obtain ⟨z10, H⟩ := H
        refine aw_iaload z10 dX11_closing_191 ?_
        refine aw_name (fun v11 e_v11 => ?_)
        replace H := H v11 e_v11
        refine aw_icmp_ge (tgt := 210) dX11_closing_192 (by decide) (fun c12 => ?_) (fun c12 => ?_)
        · replace H := a_pos c12 H
          obtain ⟨x5_13, e_x5_13⟩ : ∃ y : Int32, y = x5 + 1 := ⟨_, rfl⟩
          replace H := H x5_13 e_x5_13
          refine aw_iinc (v := x5_13) (lv' := [(5, .int x5_13), (0, .ref (G.2.1 k)), (1, .int a1), (2, .int a2), (3, .int a3), (4, .int x4)]) dX11_closing_210 (n0 := 5) rfl (by rw [e_x5_13]; rfl) (by decide) rfl ?_
          refine aw_goto (tgt := 154) dX11_closing_213 (by decide) ?_
          refine aw_sub (lv' := [(0, .ref (G.2.1 k)), (1, .int a1), (2, .int a2), (3, .int a3), (4, .int x4), (5, .int x5_13)]) [1, 2, 3, 4, 5, 0] rfl ?_
          exact ih _ _ _ H
        · replace H := a_neg c12 H
          refine aw_aload_n dX11_closing_195 rfl 0 rfl ?_
          refine aw_getR cf_X11 57 (by decide) rfl wd_1093 o_k dX11_closing_196 ?_
          refine aw_iload dX11_closing_199 4 rfl ?_
          refine aw_aload_n dX11_closing_201 rfl 0 rfl ?_
          refine aw_iload dX11_closing_202 4 rfl ?_
          refine aw_iload dX11_closing_204 5 rfl ?_
          refine aw_callV_i (As := [.int x4, .int x5]) (rest := [.int x4, .ref (G.2.1 (gR h8 k 57))]) (am_X11_costBy (d + 9) o_k H) mf_X11_costBy wd_1622 wd_1624 ws_6_13 cf_X11 o_k rfl rfl (Nat.le_of_ble_eq_true rfl) dX11_closing_206 (fun r15 h14 H => ?_)
          obtain ⟨z16, H⟩ := H
          refine aw_iastore z16 dX11_closing_209 ?_
          refine aw_nameH (fun h17 e_h17 => ?_)
          replace H := H h17 e_h17
          obtain ⟨x5_18, e_x5_18⟩ : ∃ y : Int32, y = x5 + 1 := ⟨_, rfl⟩
          replace H := H x5_18 e_x5_18
          refine aw_iinc (v := x5_18) (lv' := [(5, .int x5_18), (0, .ref (G.2.1 k)), (1, .int a1), (2, .int a2), (3, .int a3), (4, .int x4)]) dX11_closing_210 (n0 := 5) rfl (by rw [e_x5_18]; rfl) (by decide) rfl ?_
          refine aw_goto (tgt := 154) dX11_closing_213 (by decide) ?_
          refine aw_sub (lv' := [(0, .ref (G.2.1 k)), (1, .int a1), (2, .int a2), (3, .int a3), (4, .int x4), (5, .int x5_18)]) [1, 2, 3, 4, 5, 0] rfl ?_
          exact ih _ _ _ H
set_option maxHeartbeats 4000000 in
set_option maxRecDepth 100000 in
theorem fm_X11_closing_252 {l : Launch} {S : aS} {G : aG} (d : Nat) {k : Nat} {a1 : Int32} {a2 : Int32} {a3 : Int32} {Q : Int32 → aH → Prop} (o_k : aObj S k 10 flX11) {K243 : Int32 → Int32 → Int32 → aH → Prop} (hK243 : ∀ (x4 : Int32) (x5 : Int32) (x6 : Int32) (h : aH), K243 x4 x5 x6 h → AW l S G (d + 12) M_X11_closing (va_Qi Q (aPo S G) (aA S G)) 243 [(0, .ref (G.2.1 k)), (1, .int a1), (2, .int a2), (3, .int a3), (4, .int x4), (5, .int x5), (6, .int x6)] [] h) : ∀ (n : Nat) (x4 : Int32) (x5 : Int32) (x6 : Int32) (h : aH), f_X11_closing_252 S k a1 a2 a3 Q K243 n x4 x5 x6 h → AW l S G (d + 12) M_X11_closing (va_Qi Q (aPo S G) (aA S G)) 252 [(0, .ref (G.2.1 k)), (1, .int a1), (2, .int a2), (3, .int a3), (4, .int x4), (5, .int x5), (6, .int x6)] [] h := by
  intro n
  induction n with
  | zero => intro x4 x5 x6 h H; exact False.elim H
  | succ n ih =>
    intro x4 x5 x6 h H
    unfold f_X11_closing_252 at H
    refine aw_iload_n dX11_closing_252 rfl 1 rfl ?_
    refine aw_iload dX11_closing_253 4 rfl ?_
    refine aw_iconst (v := (-1)) dX11_closing_255 (by decide) ?_
    refine aw_ixor dX11_closing_256 ?_
    refine aw_iand dX11_closing_257 ?_
    refine aw_iload dX11_closing_258 5 rfl ?_
    refine aw_callS_i (As := [.int (a1 &&& (x4 ^^^ (-1))), .int x5]) (rest := []) (am_X11_has (d + 11) H) mf_X11_has wd_1598 wd_1599 rfl rfl (Nat.le_of_ble_eq_true rfl) dX11_closing_260 (fun r20 h19 H => ?_)
    refine aw_if_eq (tgt := 284) dX11_closing_263 (by decide) (fun c21 => ?_) (fun c21 => ?_)
    · replace H := a_pos c21 H
      obtain ⟨x5_22, e_x5_22⟩ : ∃ y : Int32, y = x5 + 1 := ⟨_, rfl⟩
      replace H := H x5_22 e_x5_22
      refine aw_iinc (v := x5_22) (lv' := [(5, .int x5_22), (0, .ref (G.2.1 k)), (1, .int a1), (2, .int a2), (3, .int a3), (4, .int x4), (6, .int x6)]) dX11_closing_284 (n0 := 5) rfl (by rw [e_x5_22]; rfl) (by decide) rfl ?_
      refine aw_goto (tgt := 252) dX11_closing_287 (by decide) ?_
      refine aw_sub (lv' := [(0, .ref (G.2.1 k)), (1, .int a1), (2, .int a2), (3, .int a3), (4, .int x4), (5, .int x5_22), (6, .int x6)]) [1, 2, 3, 4, 5, 0, 6] rfl ?_
      exact ih _ _ _ _ H
    · replace H := a_neg c21 H
      refine aw_aload_n dX11_closing_266 rfl 0 rfl ?_
      refine aw_iload dX11_closing_267 4 rfl ?_
      refine aw_iload dX11_closing_269 5 rfl ?_
      refine aw_callV_i (As := [.int x4, .int x5]) (rest := []) (am_X11_costBy (d + 9) o_k H) mf_X11_costBy wd_1622 wd_1624 ws_6_13 cf_X11 o_k rfl rfl (Nat.le_of_ble_eq_true rfl) dX11_closing_271 (fun r24 h23 H => ?_)
      refine aw_aload_n dX11_closing_274 rfl 0 rfl ?_
      refine aw_getR cf_X11 57 (by decide) rfl wd_1093 o_k dX11_closing_275 ?_
      refine aw_iload dX11_closing_278 4 rfl ?_
      obtain ⟨z25, H⟩ := H
      refine aw_iaload z25 dX11_closing_280 ?_
      refine aw_name (fun v26 e_v26 => ?_)
      replace H := H v26 e_v26
      refine aw_icmp_eq (tgt := 290) dX11_closing_281 (by decide) (fun c27 => ?_) (fun c27 => ?_)
      · replace H := a_pos c27 H
        refine aw_iload dX11_closing_290 4 rfl ?_
        refine aw_iconst (v := 1) dX11_closing_292 (by decide) ?_
        refine aw_iload dX11_closing_293 5 rfl ?_
        refine aw_ishl dX11_closing_295 ?_
        refine aw_ior dX11_closing_296 ?_
        refine aw_name (fun x4_28 e_x4_28 => ?_)
        replace H := H x4_28 e_x4_28
        refine aw_istore (lv' := [(4, .int x4_28), (0, .ref (G.2.1 k)), (1, .int a1), (2, .int a2), (3, .int a3), (5, .int x5), (6, .int x6)]) dX11_closing_297 (by decide) rfl ?_
        obtain ⟨x6_29, e_x6_29⟩ : ∃ y : Int32, y = x6 + 1 := ⟨_, rfl⟩
        replace H := H x6_29 e_x6_29
        refine aw_iinc (v := x6_29) (lv' := [(6, .int x6_29), (4, .int x4_28), (0, .ref (G.2.1 k)), (1, .int a1), (2, .int a2), (3, .int a3), (5, .int x5)]) dX11_closing_299 (n0 := 6) rfl (by rw [e_x6_29]; rfl) (by decide) rfl ?_
        refine aw_goto (tgt := 243) dX11_closing_302 (by decide) ?_
        refine aw_sub (lv' := [(0, .ref (G.2.1 k)), (1, .int a1), (2, .int a2), (3, .int a3), (4, .int x4_28), (5, .int x5), (6, .int x6_29)]) [2, 3, 4, 5, 1, 6, 0] rfl ?_
        exact hK243 _ _ _ _ H
      · replace H := a_neg c27 H
        obtain ⟨x5_30, e_x5_30⟩ : ∃ y : Int32, y = x5 + 1 := ⟨_, rfl⟩
        replace H := H x5_30 e_x5_30
        refine aw_iinc (v := x5_30) (lv' := [(5, .int x5_30), (0, .ref (G.2.1 k)), (1, .int a1), (2, .int a2), (3, .int a3), (4, .int x4), (6, .int x6)]) dX11_closing_284 (n0 := 5) rfl (by rw [e_x5_30]; rfl) (by decide) rfl ?_
        refine aw_goto (tgt := 252) dX11_closing_287 (by decide) ?_
        refine aw_sub (lv' := [(0, .ref (G.2.1 k)), (1, .int a1), (2, .int a2), (3, .int a3), (4, .int x4), (5, .int x5_30), (6, .int x6)]) [1, 2, 3, 4, 5, 0, 6] rfl ?_
        exact ih _ _ _ _ H
set_option maxHeartbeats 4000000 in
set_option maxRecDepth 100000 in
theorem fm_X11_closing_243 {l : Launch} {S : aS} {G : aG} (d : Nat) {k : Nat} {a1 : Int32} {a2 : Int32} {a3 : Int32} {Q : Int32 → aH → Prop} (o_k : aObj S k 10 flX11) : ∀ (n : Nat) (x4 : Int32) (x5 : Int32) (x6 : Int32) (h : aH), f_X11_closing_243 S k a1 a2 a3 Q n x4 x5 x6 h → AW l S G (d + 12) M_X11_closing (va_Qi Q (aPo S G) (aA S G)) 243 [(0, .ref (G.2.1 k)), (1, .int a1), (2, .int a2), (3, .int a3), (4, .int x4), (5, .int x5), (6, .int x6)] [] h := by
  intro n
  induction n with
  | zero => intro x4 x5 x6 h H; exact False.elim H
  | succ n ih =>
    intro x4 x5 x6 h H
    unfold f_X11_closing_243 at H
    refine aw_iload dX11_closing_243 6 rfl ?_
    refine aw_iload_n dX11_closing_245 rfl 3 rfl ?_
    refine aw_icmp_gt (tgt := 305) dX11_closing_246 (by decide) (fun c31 => ?_) (fun c31 => ?_)
    · replace H := a_pos c31 H
      refine aw_iload dX11_closing_305 5 rfl ?_
      exact aw_iret rfl H dX11_closing_307
    · replace H := a_neg c31 H
      refine aw_iconst (v := 0) dX11_closing_249 (by decide) ?_
      refine aw_istore (lv' := [(5, .int 0), (0, .ref (G.2.1 k)), (1, .int a1), (2, .int a2), (3, .int a3), (4, .int x4), (6, .int x6)]) dX11_closing_250 (by decide) rfl ?_
      refine aw_sub (lv' := [(0, .ref (G.2.1 k)), (1, .int a1), (2, .int a2), (3, .int a3), (4, .int x4), (5, .int 0), (6, .int x6)]) [1, 2, 3, 4, 5, 0, 6] rfl ?_
      obtain ⟨n1, H⟩ := H
      exact fm_X11_closing_252 d o_k ih n1 _ _ _ _ H
set_option maxHeartbeats 4000000 in
set_option maxRecDepth 100000 in
theorem fm_X11_closing_114 {l : Launch} {S : aS} {G : aG} (d : Nat) {k : Nat} {a1 : Int32} {a2 : Int32} {a3 : Int32} {Q : Int32 → aH → Prop} (o_k : aObj S k 10 flX11) : ∀ (n : Nat) (x4 : Int32) (h : aH), f_X11_closing_114 S k a1 a2 a3 Q n x4 h → AW l S G (d + 12) M_X11_closing (va_Qi Q (aPo S G) (aA S G)) 114 [(0, .ref (G.2.1 k)), (1, .int a1), (2, .int a2), (3, .int a3), (4, .int x4)] [] h := by
  intro n
  induction n with
  | zero => intro x4 h H; exact False.elim H
  | succ n ih =>
    intro x4 h H
    unfold f_X11_closing_114 at H
    refine aw_iload dX11_closing_114 4 rfl ?_
    refine aw_if_lt (tgt := 222) dX11_closing_116 (by decide) (fun c32 => ?_) (fun c32 => ?_)
    · replace H := a_pos c32 H
      refine aw_iload_n dX11_closing_222 rfl 3 rfl ?_
      refine aw_iconst (v := (-1)) dX11_closing_223 (by decide) ?_
      refine aw_icmp_ne (tgt := 234) dX11_closing_224 (by decide) (fun c33 => ?_) (fun c33 => ?_)
      · replace H := a_pos c33 H
        refine aw_iconst (v := 0) dX11_closing_234 (by decide) ?_
        refine aw_istore (lv' := [(4, .int 0), (0, .ref (G.2.1 k)), (1, .int a1), (2, .int a2), (3, .int a3)]) dX11_closing_235 (by decide) rfl ?_
        refine aw_iconst (v := 0) dX11_closing_237 (by decide) ?_
        refine aw_istore (lv' := [(5, .int 0), (4, .int 0), (0, .ref (G.2.1 k)), (1, .int a1), (2, .int a2), (3, .int a3)]) dX11_closing_238 (by decide) rfl ?_
        refine aw_iconst (v := 0) dX11_closing_240 (by decide) ?_
        refine aw_istore (lv' := [(6, .int 0), (5, .int 0), (4, .int 0), (0, .ref (G.2.1 k)), (1, .int a1), (2, .int a2), (3, .int a3)]) dX11_closing_241 (by decide) rfl ?_
        refine aw_sub (lv' := [(0, .ref (G.2.1 k)), (1, .int a1), (2, .int a2), (3, .int a3), (4, .int 0), (5, .int 0), (6, .int 0)]) [3, 4, 5, 6, 2, 1, 0] rfl ?_
        obtain ⟨n1, H⟩ := H
        exact fm_X11_closing_243 d o_k n1 _ _ _ _ H
      · replace H := a_neg2 c33 H
        refine aw_aload_n dX11_closing_227 rfl 0 rfl ?_
        refine aw_getR cf_X11 57 (by decide) rfl wd_1093 o_k dX11_closing_228 ?_
        refine aw_iconst (v := 0) dX11_closing_231 (by decide) ?_
        obtain ⟨z34, H⟩ := H
        refine aw_iaload z34 dX11_closing_232 ?_
        refine aw_name (fun v35 e_v35 => ?_)
        replace H := H v35 e_v35
        exact aw_iret rfl H dX11_closing_233
    · replace H := a_neg c32 H
      refine aw_iload dX11_closing_119 4 rfl ?_
      refine aw_iload_n dX11_closing_121 rfl 1 rfl ?_
      refine aw_iconst (v := (-1)) dX11_closing_122 (by decide) ?_
      refine aw_ixor dX11_closing_123 ?_
      refine aw_iand dX11_closing_124 ?_
      refine aw_if_eq (tgt := 131) dX11_closing_125 (by decide) (fun c36 => ?_) (fun c36 => ?_)
      · replace H := a_pos c36 H
        refine aw_aload_n dX11_closing_131 rfl 0 rfl ?_
        refine aw_getR cf_X11 57 (by decide) rfl wd_1093 o_k dX11_closing_132 ?_
        refine aw_iload dX11_closing_135 4 rfl ?_
        refine aw_iload dX11_closing_137 4 rfl ?_
        refine aw_iload_n dX11_closing_139 rfl 1 rfl ?_
        refine aw_icmp_ne (tgt := 147) dX11_closing_140 (by decide) (fun c37 => ?_) (fun c37 => ?_)
        · replace H := a_pos c37 H
          refine aw_ldcw (v := 1000000000) dX11_closing_147 wd_1621 ?_
          obtain ⟨z38, H⟩ := H
          refine aw_iastore z38 dX11_closing_150 ?_
          refine aw_nameH (fun h39 e_h39 => ?_)
          replace H := H h39 e_h39
          refine aw_iconst (v := 0) dX11_closing_151 (by decide) ?_
          refine aw_istore (lv' := [(5, .int 0), (0, .ref (G.2.1 k)), (1, .int a1), (2, .int a2), (3, .int a3), (4, .int x4)]) dX11_closing_152 (by decide) rfl ?_
          refine aw_sub (lv' := [(0, .ref (G.2.1 k)), (1, .int a1), (2, .int a2), (3, .int a3), (4, .int x4), (5, .int 0)]) [1, 2, 3, 4, 5, 0] rfl ?_
          obtain ⟨n1, H⟩ := H
          exact fm_X11_closing_154 d o_k ih n1 _ _ _ H
        · replace H := a_neg2 c37 H
          refine aw_iconst (v := 0) dX11_closing_143 (by decide) ?_
          refine aw_goto (tgt := 150) dX11_closing_144 (by decide) ?_
          obtain ⟨z40, H⟩ := H
          refine aw_iastore z40 dX11_closing_150 ?_
          refine aw_nameH (fun h41 e_h41 => ?_)
          replace H := H h41 e_h41
          refine aw_iconst (v := 0) dX11_closing_151 (by decide) ?_
          refine aw_istore (lv' := [(5, .int 0), (0, .ref (G.2.1 k)), (1, .int a1), (2, .int a2), (3, .int a3), (4, .int x4)]) dX11_closing_152 (by decide) rfl ?_
          refine aw_sub (lv' := [(0, .ref (G.2.1 k)), (1, .int a1), (2, .int a2), (3, .int a3), (4, .int x4), (5, .int 0)]) [1, 2, 3, 4, 5, 0] rfl ?_
          obtain ⟨n1, H⟩ := H
          exact fm_X11_closing_154 d o_k ih n1 _ _ _ H
      · replace H := a_neg c36 H
        refine aw_goto (tgt := 216) dX11_closing_128 (by decide) ?_
        obtain ⟨x4_42, e_x4_42⟩ : ∃ y : Int32, y = x4 + (-1) := ⟨_, rfl⟩
        replace H := H x4_42 e_x4_42
        refine aw_iinc (v := x4_42) (lv' := [(4, .int x4_42), (0, .ref (G.2.1 k)), (1, .int a1), (2, .int a2), (3, .int a3)]) dX11_closing_216 (n0 := 4) rfl (by rw [e_x4_42]; rfl) (by decide) rfl ?_
        refine aw_goto (tgt := 114) dX11_closing_219 (by decide) ?_
        refine aw_sub (lv' := [(0, .ref (G.2.1 k)), (1, .int a1), (2, .int a2), (3, .int a3), (4, .int x4_42)]) [1, 2, 3, 4, 0] rfl ?_
        exact ih _ _ H
set_option maxHeartbeats 4000000 in
set_option maxRecDepth 100000 in
theorem fm_X11_closing_58 {l : Launch} {S : aS} {G : aG} (d : Nat) {k : Nat} {a1 : Int32} {a2 : Int32} {a3 : Int32} {Q : Int32 → aH → Prop} (o_k : aObj S k 10 flX11) : ∀ (n : Nat) (x4 : Int32) (h : aH), f_X11_closing_58 S k a1 a2 a3 Q n x4 h → AW l S G (d + 12) M_X11_closing (va_Qi Q (aPo S G) (aA S G)) 58 [(0, .ref (G.2.1 k)), (1, .int a1), (2, .int a2), (3, .int a3), (4, .int x4)] [] h := by
  intro n
  induction n with
  | zero => intro x4 h H; exact False.elim H
  | succ n ih =>
    intro x4 h H
    unfold f_X11_closing_58 at H
    refine aw_iload dX11_closing_58 4 rfl ?_
    refine aw_aload_n dX11_closing_60 rfl 0 rfl ?_
    refine aw_getI cf_X11 2 (by decide) rfl wd_1038 o_k dX11_closing_61 ?_
    refine aw_name (fun v43 e_v43 => ?_)
    replace H := H v43 e_v43
    refine aw_icmp_ge (tgt := 111) dX11_closing_64 (by decide) (fun c44 => ?_) (fun c44 => ?_)
    · replace H := a_pos c44 H
      refine aw_iload_n dX11_closing_111 rfl 1 rfl ?_
      refine aw_istore (lv' := [(4, .int a1), (0, .ref (G.2.1 k)), (1, .int a1), (2, .int a2), (3, .int a3)]) dX11_closing_112 (by decide) rfl ?_
      refine aw_sub (lv' := [(0, .ref (G.2.1 k)), (1, .int a1), (2, .int a2), (3, .int a3), (4, .int a1)]) [1, 2, 3, 4, 0] rfl ?_
      obtain ⟨n1, H⟩ := H
      exact fm_X11_closing_114 d o_k n1 _ _ H
    · replace H := a_neg c44 H
      refine aw_iload_n dX11_closing_67 rfl 1 rfl ?_
      refine aw_iload dX11_closing_68 4 rfl ?_
      refine aw_callS_i (As := [.int a1, .int x4]) (rest := []) (am_X11_has (d + 11) H) mf_X11_has wd_1598 wd_1599 rfl rfl (Nat.le_of_ble_eq_true rfl) dX11_closing_70 (fun r46 h45 H => ?_)
      refine aw_if_ne (tgt := 79) dX11_closing_73 (by decide) (fun c47 => ?_) (fun c47 => ?_)
      · replace H := a_pos c47 H
        refine aw_aload_n dX11_closing_79 rfl 0 rfl ?_
        refine aw_iload dX11_closing_80 4 rfl ?_
        refine aw_callV_i (As := [.int x4]) (rest := []) (am_X11_isOpen (d + 9) o_k H) mf_X11_isOpen wd_1446 wd_1448 ws_5_2 cf_X11 o_k rfl rfl (Nat.le_of_ble_eq_true rfl) dX11_closing_82 (fun r49 h48 H => ?_)
        refine aw_if_ne (tgt := 91) dX11_closing_85 (by decide) (fun c50 => ?_) (fun c50 => ?_)
        · replace H := a_pos c50 H
          refine aw_aload_n dX11_closing_91 rfl 0 rfl ?_
          refine aw_getR cf_X11 56 (by decide) rfl wd_1092 o_k dX11_closing_92 ?_
          refine aw_iload dX11_closing_95 4 rfl ?_
          refine aw_aload_n dX11_closing_97 rfl 0 rfl ?_
          refine aw_iload dX11_closing_98 4 rfl ?_
          refine aw_iload_n dX11_closing_100 rfl 2 rfl ?_
          refine aw_callV_i (As := [.int x4, .int a2]) (rest := [.int x4, .ref (G.2.1 (gR h48 k 56))]) (am_X11_soundFor d o_k H) mf_X11_soundFor wd_1563 wd_1565 ws_6_3 cf_X11 o_k rfl rfl (Nat.le_of_ble_eq_true rfl) dX11_closing_101 (fun r52 h51 H => ?_)
          obtain ⟨z53, H⟩ := H
          refine aw_iastore z53 dX11_closing_104 ?_
          refine aw_nameH (fun h54 e_h54 => ?_)
          replace H := H h54 e_h54
          obtain ⟨x4_55, e_x4_55⟩ : ∃ y : Int32, y = x4 + 1 := ⟨_, rfl⟩
          replace H := H x4_55 e_x4_55
          refine aw_iinc (v := x4_55) (lv' := [(4, .int x4_55), (0, .ref (G.2.1 k)), (1, .int a1), (2, .int a2), (3, .int a3)]) dX11_closing_105 (n0 := 4) rfl (by rw [e_x4_55]; rfl) (by decide) rfl ?_
          refine aw_goto (tgt := 58) dX11_closing_108 (by decide) ?_
          refine aw_sub (lv' := [(0, .ref (G.2.1 k)), (1, .int a1), (2, .int a2), (3, .int a3), (4, .int x4_55)]) [1, 2, 3, 4, 0] rfl ?_
          exact ih _ _ H
        · replace H := a_neg2 c50 H
          refine aw_bipush (v := (-2)) dX11_closing_88 (by decide) ?_
          exact aw_iret rfl H dX11_closing_90
      · replace H := a_neg2 c47 H
        refine aw_goto (tgt := 105) dX11_closing_76 (by decide) ?_
        obtain ⟨x4_56, e_x4_56⟩ : ∃ y : Int32, y = x4 + 1 := ⟨_, rfl⟩
        replace H := H x4_56 e_x4_56
        refine aw_iinc (v := x4_56) (lv' := [(4, .int x4_56), (0, .ref (G.2.1 k)), (1, .int a1), (2, .int a2), (3, .int a3)]) dX11_closing_105 (n0 := 4) rfl (by rw [e_x4_56]; rfl) (by decide) rfl ?_
        refine aw_goto (tgt := 58) dX11_closing_108 (by decide) ?_
        refine aw_sub (lv' := [(0, .ref (G.2.1 k)), (1, .int a1), (2, .int a2), (3, .int a3), (4, .int x4_56)]) [1, 2, 3, 4, 0] rfl ?_
        exact ih _ _ H
set_option maxHeartbeats 4000000 in
set_option maxRecDepth 100000 in
theorem am_X11_closing {l : Launch} {S : aS} {G : aG} (d : Nat) {k : Nat} {a1 : Int32} {a2 : Int32} {a3 : Int32} {h : aH} {Q : Int32 → aH → Prop} (o_k : aObj S k 10 flX11) (H : f_X11_closing S k a1 a2 a3 h Q) : AMi l S G (d + 12) M_X11_closing [.ref (G.2.1 k), .int a1, .int a2, .int a3] h Q := by
  unfold f_X11_closing at H
  refine am_of mf_X11_closing (Nat.le_of_ble_eq_true rfl) (lv0 := [(0, .ref (G.2.1 k)), (1, .int a1), (2, .int a2), (3, .int a3)]) rfl ?_
  refine aw_iload_n dX11_closing_0 rfl 1 rfl ?_
  refine aw_i2l dX11_closing_1 ?_
  refine aw_lconst (v := 1) dX11_closing_2 (by decide) ?_
  refine aw_iconst (v := 1) dX11_closing_3 (by decide) ?_
  refine aw_aload_n dX11_closing_4 rfl 0 rfl ?_
  refine aw_getI cf_X11 2 (by decide) rfl wd_1038 o_k dX11_closing_5 ?_
  refine aw_name (fun v57 e_v57 => ?_)
  replace H := H v57 e_v57
  refine aw_ishl dX11_closing_8 ?_
  refine aw_iconst (v := 1) dX11_closing_9 (by decide) ?_
  refine aw_isub dX11_closing_10 ?_
  refine aw_i2l dX11_closing_11 ?_
  refine aw_callS_i (As := [.long (a1).toInt64, .long 1, .long (((1 <<< (v57 &&& 31)) - 1)).toInt64]) (rest := []) (am_X11_lies (d + 11) H) mf_X11_lies wd_1258 wd_1259 rfl rfl (Nat.le_of_ble_eq_true rfl) dX11_closing_12 (fun r59 h58 H => ?_)
  refine aw_if_eq (tgt := 52) dX11_closing_15 (by decide) (fun c60 => ?_) (fun c60 => ?_)
  · replace H := a_pos c60 H
    refine aw_bipush (v := (-3)) dX11_closing_52 (by decide) ?_
    exact aw_iret rfl H dX11_closing_54
  · replace H := a_neg c60 H
    refine aw_iload_n dX11_closing_18 rfl 1 rfl ?_
    refine aw_callS_i (As := [.int a1]) (rest := []) (am_X11_sizeOf (d + 11) H) mf_X11_sizeOf wd_1601 wd_1602 rfl rfl (Nat.le_of_ble_eq_true rfl) dX11_closing_19 (fun r62 h61 H => ?_)
    refine aw_bipush (v := 8) dX11_closing_22 (by decide) ?_
    refine aw_icmp_gt (tgt := 52) dX11_closing_24 (by decide) (fun c63 => ?_) (fun c63 => ?_)
    · replace H := a_pos c63 H
      refine aw_bipush (v := (-3)) dX11_closing_52 (by decide) ?_
      exact aw_iret rfl H dX11_closing_54
    · replace H := a_neg c63 H
      refine aw_iload_n dX11_closing_27 rfl 2 rfl ?_
      refine aw_callS_i (As := [.int a2]) (rest := []) (am_X11_isLoad (d + 10) H) mf_X11_isLoad wd_1559 wd_1560 rfl rfl (Nat.le_of_ble_eq_true rfl) dX11_closing_28 (fun r65 h64 H => ?_)
      refine aw_if_eq (tgt := 52) dX11_closing_31 (by decide) (fun c66 => ?_) (fun c66 => ?_)
      · replace H := a_pos c66 H
        refine aw_bipush (v := (-3)) dX11_closing_52 (by decide) ?_
        exact aw_iret rfl H dX11_closing_54
      · replace H := a_neg c66 H
        refine aw_iload_n dX11_closing_34 rfl 3 rfl ?_
        refine aw_i2l dX11_closing_35 ?_
        refine aw_ldc2 (v := (-1)) dX11_closing_36 wd_1620 ?_
        refine aw_iload_n dX11_closing_39 rfl 1 rfl ?_
        refine aw_callS_i (As := [.int a1]) (rest := [.long (-1), .long (a3).toInt64]) (am_X11_sizeOf (d + 11) H) mf_X11_sizeOf wd_1601 wd_1602 rfl rfl (Nat.le_of_ble_eq_true rfl) dX11_closing_40 (fun r68 h67 H => ?_)
        refine aw_iconst (v := 1) dX11_closing_43 (by decide) ?_
        refine aw_isub dX11_closing_44 ?_
        refine aw_i2l dX11_closing_45 ?_
        refine aw_callS_i (As := [.long (a3).toInt64, .long (-1), .long ((r68 - 1)).toInt64]) (rest := []) (am_X11_lies (d + 11) H) mf_X11_lies wd_1258 wd_1259 rfl rfl (Nat.le_of_ble_eq_true rfl) dX11_closing_46 (fun r70 h69 H => ?_)
        refine aw_if_ne (tgt := 55) dX11_closing_49 (by decide) (fun c71 => ?_) (fun c71 => ?_)
        · replace H := a_pos c71 H
          refine aw_iconst (v := 0) dX11_closing_55 (by decide) ?_
          refine aw_istore (lv' := [(4, .int 0), (0, .ref (G.2.1 k)), (1, .int a1), (2, .int a2), (3, .int a3)]) dX11_closing_56 (by decide) rfl ?_
          refine aw_sub (lv' := [(0, .ref (G.2.1 k)), (1, .int a1), (2, .int a2), (3, .int a3), (4, .int 0)]) [1, 2, 3, 4, 0] rfl ?_
          obtain ⟨n1, H⟩ := H
          exact fm_X11_closing_58 d o_k n1 _ _ H
        · replace H := a_neg2 c71 H
          refine aw_bipush (v := (-3)) dX11_closing_52 (by decide) ?_
          exact aw_iret rfl H dX11_closing_54
set_option maxHeartbeats 4000000 in
set_option maxRecDepth 100000 in
theorem am_X11_beside {l : Launch} {S : aS} {G : aG} (d : Nat) {a0 : Int32} {a1 : Int32} {h : aH} {Q : Int32 → aH → Prop} (H : f_X11_beside S a0 a1 h Q) : AMi l S G (d + 4) M_X11_beside [.int a0, .int a1] h Q := by
  unfold f_X11_beside at H
  refine am_of mf_X11_beside (Nat.le_of_ble_eq_true rfl) (lv0 := [(0, .int a0), (1, .int a1)]) rfl ?_
  refine aw_iload_n dX11_beside_0 rfl 1 rfl ?_
  refine aw_if_ne (tgt := 13) dX11_beside_1 (by decide) (fun c1 => ?_) (fun c1 => ?_)
  · replace H := a_pos c1 H
    refine aw_iload_n dX11_beside_13 rfl 1 rfl ?_
    refine aw_iconst (v := 1) dX11_beside_14 (by decide) ?_
    refine aw_icmp_ne (tgt := 27) dX11_beside_15 (by decide) (fun c2 => ?_) (fun c2 => ?_)
    · replace H := a_pos c2 H
      refine aw_iload_n dX11_beside_27 rfl 1 rfl ?_
      refine aw_iconst (v := 2) dX11_beside_28 (by decide) ?_
      refine aw_icmp_ne (tgt := 41) dX11_beside_29 (by decide) (fun c3 => ?_) (fun c3 => ?_)
      · replace H := a_pos c3 H
        refine aw_iload_n dX11_beside_41 rfl 0 rfl ?_
        refine aw_iconst (v := 0) dX11_beside_42 (by decide) ?_
        refine aw_iconst (v := 1) dX11_beside_43 (by decide) ?_
        refine aw_callS_i (As := [.int a0, .int 0, .int 1]) (rest := []) (am_X11_aside d H) mf_X11_aside wd_1413 wd_1414 rfl rfl (Nat.le_of_ble_eq_true rfl) dX11_beside_44 (fun r5 h4 H => ?_)
        exact aw_iret rfl H dX11_beside_47
      · replace H := a_neg2 c3 H
        refine aw_iload_n dX11_beside_32 rfl 0 rfl ?_
        refine aw_iconst (v := 1) dX11_beside_33 (by decide) ?_
        refine aw_iconst (v := 0) dX11_beside_34 (by decide) ?_
        refine aw_callS_i (As := [.int a0, .int 1, .int 0]) (rest := []) (am_X11_aside d H) mf_X11_aside wd_1413 wd_1414 rfl rfl (Nat.le_of_ble_eq_true rfl) dX11_beside_35 (fun r7 h6 H => ?_)
        refine aw_goto (tgt := 47) dX11_beside_38 (by decide) ?_
        exact aw_iret rfl H dX11_beside_47
    · replace H := a_neg2 c2 H
      refine aw_iload_n dX11_beside_18 rfl 0 rfl ?_
      refine aw_iconst (v := (-1)) dX11_beside_19 (by decide) ?_
      refine aw_iconst (v := 0) dX11_beside_20 (by decide) ?_
      refine aw_callS_i (As := [.int a0, .int (-1), .int 0]) (rest := []) (am_X11_aside d H) mf_X11_aside wd_1413 wd_1414 rfl rfl (Nat.le_of_ble_eq_true rfl) dX11_beside_21 (fun r9 h8 H => ?_)
      refine aw_goto (tgt := 47) dX11_beside_24 (by decide) ?_
      exact aw_iret rfl H dX11_beside_47
  · replace H := a_neg2 c1 H
    refine aw_iload_n dX11_beside_4 rfl 0 rfl ?_
    refine aw_iconst (v := 0) dX11_beside_5 (by decide) ?_
    refine aw_iconst (v := (-1)) dX11_beside_6 (by decide) ?_
    refine aw_callS_i (As := [.int a0, .int 0, .int (-1)]) (rest := []) (am_X11_aside d H) mf_X11_aside wd_1413 wd_1414 rfl rfl (Nat.le_of_ble_eq_true rfl) dX11_beside_7 (fun r11 h10 H => ?_)
    refine aw_goto (tgt := 47) dX11_beside_10 (by decide) ?_
    exact aw_iret rfl H dX11_beside_47
set_option maxHeartbeats 4000000 in
set_option maxRecDepth 100000 in
theorem am_X11_takesBy {l : Launch} {S : aS} {G : aG} (d : Nat) {k : Nat} {a1 : Int32} {a2 : Int32} {h : aH} {Q : Int32 → aH → Prop} (o_k : aObj S k 10 flX11) (H : f_X11_takesBy S k a1 a2 h Q) : AMi l S G (d + 5) M_X11_takesBy [.ref (G.2.1 k), .int a1, .int a2] h Q := by
  unfold f_X11_takesBy at H
  refine am_of mf_X11_takesBy (Nat.le_of_ble_eq_true rfl) (lv0 := [(0, .ref (G.2.1 k)), (1, .int a1), (2, .int a2)]) rfl ?_
  refine aw_iload_n dX11_takesBy_0 rfl 1 rfl ?_
  refine aw_iload_n dX11_takesBy_1 rfl 2 rfl ?_
  refine aw_callS_i (As := [.int a1, .int a2]) (rest := []) (am_X11_beside d H) mf_X11_beside wd_1643 wd_1644 rfl rfl (Nat.le_of_ble_eq_true rfl) dX11_takesBy_2 (fun r2 h1 H => ?_)
  refine aw_istore_n (lv' := [(3, .int r2), (0, .ref (G.2.1 k)), (1, .int a1), (2, .int a2)]) dX11_takesBy_5 rfl (by decide) rfl ?_
  refine aw_iload_n dX11_takesBy_6 rfl 0 rfl ?_
  refine aw_iconst (v := (-1)) dX11_takesBy_7 (by decide) ?_
  refine aw_icmp_eq (tgt := 23) dX11_takesBy_8 (by decide) (fun c3 => ?_) (fun c3 => ?_)
  · replace H := a_pos c3 H
    refine aw_ldcw (v := 1000000000) dX11_takesBy_23 wd_1621 ?_
    refine aw_goto (tgt := 44) dX11_takesBy_26 (by decide) ?_
    exact aw_iret rfl H dX11_takesBy_44
  · replace H := a_neg c3 H
    refine aw_aload_n dX11_takesBy_11 rfl 1 rfl ?_
    refine aw_getR cf_X11 58 (by decide) rfl wd_1094 o_k dX11_takesBy_12 ?_
    refine aw_iload_n dX11_takesBy_15 rfl 0 rfl ?_
    obtain ⟨z4, H⟩ := H
    refine aw_iaload z4 dX11_takesBy_16 ?_
    refine aw_name (fun v5 e_v5 => ?_)
    replace H := H v5 e_v5
    refine aw_ldcw (v := 1000000000) dX11_takesBy_17 wd_1621 ?_
    refine aw_icmp_ne (tgt := 29) dX11_takesBy_20 (by decide) (fun c6 => ?_) (fun c6 => ?_)
    · replace H := a_pos c6 H
      refine aw_aload_n dX11_takesBy_29 rfl 1 rfl ?_
      refine aw_getR cf_X11 59 (by decide) rfl wd_1095 o_k dX11_takesBy_30 ?_
      refine aw_iload_n dX11_takesBy_33 rfl 2 rfl ?_
      obtain ⟨z7, H⟩ := H
      refine aw_iaload z7 dX11_takesBy_34 ?_
      refine aw_name (fun v8 e_v8 => ?_)
      replace H := H v8 e_v8
      refine aw_iconst (v := 1) dX11_takesBy_35 (by decide) ?_
      refine aw_iadd dX11_takesBy_36 ?_
      refine aw_aload_n dX11_takesBy_37 rfl 1 rfl ?_
      refine aw_getR cf_X11 58 (by decide) rfl wd_1094 o_k dX11_takesBy_38 ?_
      refine aw_iload_n dX11_takesBy_41 rfl 0 rfl ?_
      obtain ⟨z9, H⟩ := H
      refine aw_iaload z9 dX11_takesBy_42 ?_
      refine aw_name (fun v10 e_v10 => ?_)
      replace H := H v10 e_v10
      refine aw_iadd dX11_takesBy_43 ?_
      exact aw_iret rfl H dX11_takesBy_44
    · replace H := a_neg2 c6 H
      refine aw_ldcw (v := 1000000000) dX11_takesBy_23 wd_1621 ?_
      refine aw_goto (tgt := 44) dX11_takesBy_26 (by decide) ?_
      exact aw_iret rfl H dX11_takesBy_44
set_option maxHeartbeats 4000000 in
set_option maxRecDepth 100000 in
theorem fm_X11_laysTakes_26 {l : Launch} {S : aS} {G : aG} (d : Nat) {k : Nat} {a1 : Int32} {a2 : Int32} {Q : aH → Prop} (o_k : aObj S k 10 flX11) {K2 : Int32 → aH → Prop} (hK2 : ∀ (x3 : Int32) (h : aH), K2 x3 h → AW l S G (d + 10) M_X11_laysTakes (va_Qv Q (aPo S G) (aA S G)) 2 [(0, .ref (G.2.1 k)), (1, .int a1), (2, .int a2), (3, .int x3)] [] h) (x3 : Int32) (s0 : Int32) (h : aH) (H : f_X11_laysTakes_26 S k a1 a2 Q K2 x3 s0 h) : AW l S G (d + 10) M_X11_laysTakes (va_Qv Q (aPo S G) (aA S G)) 26 [(0, .ref (G.2.1 k)), (1, .int a1), (2, .int a2), (3, .int x3)] [.int s0] h := by
  unfold f_X11_laysTakes_26 at H
  refine aw_istore (lv' := [(4, .int s0), (0, .ref (G.2.1 k)), (1, .int a1), (2, .int a2), (3, .int x3)]) dX11_laysTakes_26 (by decide) rfl ?_
  refine aw_aload_n dX11_laysTakes_28 rfl 1 rfl ?_
  refine aw_getR cf_X11 59 (by decide) rfl wd_1095 o_k dX11_laysTakes_29 ?_
  refine aw_iload_n dX11_laysTakes_32 rfl 4 rfl ?_
  refine aw_iload dX11_laysTakes_33 0 rfl ?_
  refine aw_iconst (v := (-1)) dX11_laysTakes_35 (by decide) ?_
  refine aw_icmp_eq (tgt := 48) dX11_laysTakes_36 (by decide) (fun c1 => ?_) (fun c1 => ?_)
  · replace H := a_pos c1 H
    refine aw_ldcw (v := 1000000000) dX11_laysTakes_48 wd_1621 ?_
    refine aw_goto (tgt := 67) dX11_laysTakes_51 (by decide) ?_
    obtain ⟨z2, H⟩ := H
    refine aw_iastore z2 dX11_laysTakes_67 ?_
    refine aw_nameH (fun h3 e_h3 => ?_)
    replace H := H h3 e_h3
    refine aw_aload_n dX11_laysTakes_68 rfl 1 rfl ?_
    refine aw_getR cf_X11 58 (by decide) rfl wd_1094 o_k dX11_laysTakes_69 ?_
    refine aw_iload_n dX11_laysTakes_72 rfl 4 rfl ?_
    refine aw_ldcw (v := 1000000000) dX11_laysTakes_73 wd_1621 ?_
    obtain ⟨z4, H⟩ := H
    refine aw_iastore z4 dX11_laysTakes_76 ?_
    refine aw_nameH (fun h5 e_h5 => ?_)
    replace H := H h5 e_h5
    obtain ⟨x3_6, e_x3_6⟩ : ∃ y : Int32, y = x3 + 1 := ⟨_, rfl⟩
    replace H := H x3_6 e_x3_6
    refine aw_iinc (v := x3_6) (lv' := [(3, .int x3_6), (4, .int s0), (0, .ref (G.2.1 k)), (1, .int a1), (2, .int a2)]) dX11_laysTakes_77 (n0 := 4) rfl (by rw [e_x3_6]; rfl) (by decide) rfl ?_
    refine aw_goto (tgt := 2) dX11_laysTakes_80 (by decide) ?_
    refine aw_sub (lv' := [(0, .ref (G.2.1 k)), (1, .int a1), (2, .int a2), (3, .int x3_6)]) [2, 3, 4, 0] rfl ?_
    exact hK2 _ _ H
  · replace H := a_neg c1 H
    refine aw_iload dX11_laysTakes_39 0 rfl ?_
    refine aw_bipush (v := 100) dX11_laysTakes_41 (by decide) ?_
    refine aw_iadd dX11_laysTakes_43 ?_
    refine aw_iload_n dX11_laysTakes_44 rfl 3 rfl ?_
    refine aw_icmp_ge (tgt := 54) dX11_laysTakes_45 (by decide) (fun c7 => ?_) (fun c7 => ?_)
    · replace H := a_pos c7 H
      refine aw_iload dX11_laysTakes_54 0 rfl ?_
      refine aw_iload_n dX11_laysTakes_56 rfl 3 rfl ?_
      refine aw_icmp_ge (tgt := 66) dX11_laysTakes_57 (by decide) (fun c8 => ?_) (fun c8 => ?_)
      · replace H := a_pos c8 H
        refine aw_iconst (v := 0) dX11_laysTakes_66 (by decide) ?_
        obtain ⟨z9, H⟩ := H
        refine aw_iastore z9 dX11_laysTakes_67 ?_
        refine aw_nameH (fun h10 e_h10 => ?_)
        replace H := H h10 e_h10
        refine aw_aload_n dX11_laysTakes_68 rfl 1 rfl ?_
        refine aw_getR cf_X11 58 (by decide) rfl wd_1094 o_k dX11_laysTakes_69 ?_
        refine aw_iload_n dX11_laysTakes_72 rfl 4 rfl ?_
        refine aw_ldcw (v := 1000000000) dX11_laysTakes_73 wd_1621 ?_
        obtain ⟨z11, H⟩ := H
        refine aw_iastore z11 dX11_laysTakes_76 ?_
        refine aw_nameH (fun h12 e_h12 => ?_)
        replace H := H h12 e_h12
        obtain ⟨x3_13, e_x3_13⟩ : ∃ y : Int32, y = x3 + 1 := ⟨_, rfl⟩
        replace H := H x3_13 e_x3_13
        refine aw_iinc (v := x3_13) (lv' := [(3, .int x3_13), (4, .int s0), (0, .ref (G.2.1 k)), (1, .int a1), (2, .int a2)]) dX11_laysTakes_77 (n0 := 4) rfl (by rw [e_x3_13]; rfl) (by decide) rfl ?_
        refine aw_goto (tgt := 2) dX11_laysTakes_80 (by decide) ?_
        refine aw_sub (lv' := [(0, .ref (G.2.1 k)), (1, .int a1), (2, .int a2), (3, .int x3_13)]) [2, 3, 4, 0] rfl ?_
        exact hK2 _ _ H
      · replace H := a_neg c8 H
        refine aw_sipush (v := 1000) dX11_laysTakes_60 (by decide) ?_
        refine aw_goto (tgt := 67) dX11_laysTakes_63 (by decide) ?_
        obtain ⟨z14, H⟩ := H
        refine aw_iastore z14 dX11_laysTakes_67 ?_
        refine aw_nameH (fun h15 e_h15 => ?_)
        replace H := H h15 e_h15
        refine aw_aload_n dX11_laysTakes_68 rfl 1 rfl ?_
        refine aw_getR cf_X11 58 (by decide) rfl wd_1094 o_k dX11_laysTakes_69 ?_
        refine aw_iload_n dX11_laysTakes_72 rfl 4 rfl ?_
        refine aw_ldcw (v := 1000000000) dX11_laysTakes_73 wd_1621 ?_
        obtain ⟨z16, H⟩ := H
        refine aw_iastore z16 dX11_laysTakes_76 ?_
        refine aw_nameH (fun h17 e_h17 => ?_)
        replace H := H h17 e_h17
        obtain ⟨x3_18, e_x3_18⟩ : ∃ y : Int32, y = x3 + 1 := ⟨_, rfl⟩
        replace H := H x3_18 e_x3_18
        refine aw_iinc (v := x3_18) (lv' := [(3, .int x3_18), (4, .int s0), (0, .ref (G.2.1 k)), (1, .int a1), (2, .int a2)]) dX11_laysTakes_77 (n0 := 4) rfl (by rw [e_x3_18]; rfl) (by decide) rfl ?_
        refine aw_goto (tgt := 2) dX11_laysTakes_80 (by decide) ?_
        refine aw_sub (lv' := [(0, .ref (G.2.1 k)), (1, .int a1), (2, .int a2), (3, .int x3_18)]) [2, 3, 4, 0] rfl ?_
        exact hK2 _ _ H
    · replace H := a_neg c7 H
      refine aw_ldcw (v := 1000000000) dX11_laysTakes_48 wd_1621 ?_
      refine aw_goto (tgt := 67) dX11_laysTakes_51 (by decide) ?_
      obtain ⟨z19, H⟩ := H
      refine aw_iastore z19 dX11_laysTakes_67 ?_
      refine aw_nameH (fun h20 e_h20 => ?_)
      replace H := H h20 e_h20
      refine aw_aload_n dX11_laysTakes_68 rfl 1 rfl ?_
      refine aw_getR cf_X11 58 (by decide) rfl wd_1094 o_k dX11_laysTakes_69 ?_
      refine aw_iload_n dX11_laysTakes_72 rfl 4 rfl ?_
      refine aw_ldcw (v := 1000000000) dX11_laysTakes_73 wd_1621 ?_
      obtain ⟨z21, H⟩ := H
      refine aw_iastore z21 dX11_laysTakes_76 ?_
      refine aw_nameH (fun h22 e_h22 => ?_)
      replace H := H h22 e_h22
      obtain ⟨x3_23, e_x3_23⟩ : ∃ y : Int32, y = x3 + 1 := ⟨_, rfl⟩
      replace H := H x3_23 e_x3_23
      refine aw_iinc (v := x3_23) (lv' := [(3, .int x3_23), (4, .int s0), (0, .ref (G.2.1 k)), (1, .int a1), (2, .int a2)]) dX11_laysTakes_77 (n0 := 4) rfl (by rw [e_x3_23]; rfl) (by decide) rfl ?_
      refine aw_goto (tgt := 2) dX11_laysTakes_80 (by decide) ?_
      refine aw_sub (lv' := [(0, .ref (G.2.1 k)), (1, .int a1), (2, .int a2), (3, .int x3_23)]) [2, 3, 4, 0] rfl ?_
      exact hK2 _ _ H
set_option maxHeartbeats 4000000 in
set_option maxRecDepth 100000 in
theorem fm_X11_laysTakes_133 {l : Launch} {S : aS} {G : aG} (d : Nat) {k : Nat} {a1 : Int32} {a2 : Int32} {Q : aH → Prop} (o_k : aObj S k 10 flX11) {K122 : Int32 → Int32 → aH → Prop} (hK122 : ∀ (x3 : Int32) (x4 : Int32) (h : aH), K122 x3 x4 h → AW l S G (d + 10) M_X11_laysTakes (va_Qv Q (aPo S G) (aA S G)) 122 [(0, .ref (G.2.1 k)), (1, .int a1), (2, .int a2), (3, .int x3), (4, .int x4)] [] h) : ∀ (n : Nat) (x3 : Int32) (x4 : Int32) (x5 : Int32) (h : aH), f_X11_laysTakes_133 S k a1 a2 Q K122 n x3 x4 x5 h → AW l S G (d + 10) M_X11_laysTakes (va_Qv Q (aPo S G) (aA S G)) 133 [(0, .ref (G.2.1 k)), (1, .int a1), (2, .int a2), (3, .int x3), (4, .int x4), (5, .int x5)] [] h := by
  intro n
  induction n with
  | zero => intro x3 x4 x5 h H; exact False.elim H
  | succ n ih =>
    intro x3 x4 x5 h H
    unfold f_X11_laysTakes_133 at H
    refine aw_iload dX11_laysTakes_133 5 rfl ?_
    refine aw_iconst (v := 4) dX11_laysTakes_135 (by decide) ?_
    refine aw_icmp_ge (tgt := 202) dX11_laysTakes_136 (by decide) (fun c24 => ?_) (fun c24 => ?_)
    · replace H := a_pos c24 H
      obtain ⟨x4_25, e_x4_25⟩ : ∃ y : Int32, y = x4 + 1 := ⟨_, rfl⟩
      replace H := H x4_25 e_x4_25
      refine aw_iinc (v := x4_25) (lv' := [(4, .int x4_25), (0, .ref (G.2.1 k)), (1, .int a1), (2, .int a2), (3, .int x3), (5, .int x5)]) dX11_laysTakes_202 (n0 := 4) rfl (by rw [e_x4_25]; rfl) (by decide) rfl ?_
      refine aw_goto (tgt := 122) dX11_laysTakes_205 (by decide) ?_
      refine aw_sub (lv' := [(0, .ref (G.2.1 k)), (1, .int a1), (2, .int a2), (3, .int x3), (4, .int x4_25)]) [1, 2, 3, 4, 0] rfl ?_
      exact hK122 _ _ _ H
    · replace H := a_neg c24 H
      refine aw_aload_n dX11_laysTakes_139 rfl 0 rfl ?_
      refine aw_getR cf_X11 59 (by decide) rfl wd_1095 o_k dX11_laysTakes_140 ?_
      refine aw_iload dX11_laysTakes_143 4 rfl ?_
      obtain ⟨z26, H⟩ := H
      refine aw_iaload z26 dX11_laysTakes_145 ?_
      refine aw_name (fun v27 e_v27 => ?_)
      replace H := H v27 e_v27
      refine aw_ldcw (v := 1000000000) dX11_laysTakes_146 wd_1621 ?_
      refine aw_icmp_ge (tgt := 202) dX11_laysTakes_149 (by decide) (fun c28 => ?_) (fun c28 => ?_)
      · replace H := a_pos c28 H
        obtain ⟨x4_29, e_x4_29⟩ : ∃ y : Int32, y = x4 + 1 := ⟨_, rfl⟩
        replace H := H x4_29 e_x4_29
        refine aw_iinc (v := x4_29) (lv' := [(4, .int x4_29), (0, .ref (G.2.1 k)), (1, .int a1), (2, .int a2), (3, .int x3), (5, .int x5)]) dX11_laysTakes_202 (n0 := 4) rfl (by rw [e_x4_29]; rfl) (by decide) rfl ?_
        refine aw_goto (tgt := 122) dX11_laysTakes_205 (by decide) ?_
        refine aw_sub (lv' := [(0, .ref (G.2.1 k)), (1, .int a1), (2, .int a2), (3, .int x3), (4, .int x4_29)]) [1, 2, 3, 4, 0] rfl ?_
        exact hK122 _ _ _ H
      · replace H := a_neg c28 H
        refine aw_iload dX11_laysTakes_152 4 rfl ?_
        refine aw_iload_n dX11_laysTakes_154 rfl 1 rfl ?_
        refine aw_icmp_eq (tgt := 202) dX11_laysTakes_155 (by decide) (fun c30 => ?_) (fun c30 => ?_)
        · replace H := a_pos c30 H
          obtain ⟨x4_31, e_x4_31⟩ : ∃ y : Int32, y = x4 + 1 := ⟨_, rfl⟩
          replace H := H x4_31 e_x4_31
          refine aw_iinc (v := x4_31) (lv' := [(4, .int x4_31), (0, .ref (G.2.1 k)), (1, .int a1), (2, .int a2), (3, .int x3), (5, .int x5)]) dX11_laysTakes_202 (n0 := 4) rfl (by rw [e_x4_31]; rfl) (by decide) rfl ?_
          refine aw_goto (tgt := 122) dX11_laysTakes_205 (by decide) ?_
          refine aw_sub (lv' := [(0, .ref (G.2.1 k)), (1, .int a1), (2, .int a2), (3, .int x3), (4, .int x4_31)]) [1, 2, 3, 4, 0] rfl ?_
          exact hK122 _ _ _ H
        · replace H := a_neg c30 H
          refine aw_aload_n dX11_laysTakes_158 rfl 0 rfl ?_
          refine aw_iload dX11_laysTakes_159 4 rfl ?_
          refine aw_iload dX11_laysTakes_161 5 rfl ?_
          refine aw_callV_i (As := [.int x4, .int x5]) (rest := []) (am_X11_takesBy (d + 4) o_k H) mf_X11_takesBy wd_1639 wd_1641 ws_7_0 cf_X11 o_k rfl rfl (Nat.le_of_ble_eq_true rfl) dX11_laysTakes_163 (fun r33 h32 H => ?_)
          refine aw_aload_n dX11_laysTakes_166 rfl 0 rfl ?_
          refine aw_getR cf_X11 58 (by decide) rfl wd_1094 o_k dX11_laysTakes_167 ?_
          refine aw_iload dX11_laysTakes_170 4 rfl ?_
          obtain ⟨z34, H⟩ := H
          refine aw_iaload z34 dX11_laysTakes_172 ?_
          refine aw_name (fun v35 e_v35 => ?_)
          replace H := H v35 e_v35
          refine aw_icmp_lt (tgt := 179) dX11_laysTakes_173 (by decide) (fun c36 => ?_) (fun c36 => ?_)
          · replace H := a_pos c36 H
            refine aw_aload_n dX11_laysTakes_179 rfl 0 rfl ?_
            refine aw_getR cf_X11 58 (by decide) rfl wd_1094 o_k dX11_laysTakes_180 ?_
            refine aw_iload dX11_laysTakes_183 4 rfl ?_
            refine aw_aload_n dX11_laysTakes_185 rfl 0 rfl ?_
            refine aw_iload dX11_laysTakes_186 4 rfl ?_
            refine aw_iload dX11_laysTakes_188 5 rfl ?_
            refine aw_callV_i (As := [.int x4, .int x5]) (rest := [.int x4, .ref (G.2.1 (gR h32 k 58))]) (am_X11_takesBy (d + 4) o_k H) mf_X11_takesBy wd_1639 wd_1641 ws_7_0 cf_X11 o_k rfl rfl (Nat.le_of_ble_eq_true rfl) dX11_laysTakes_190 (fun r38 h37 H => ?_)
            obtain ⟨z39, H⟩ := H
            refine aw_iastore z39 dX11_laysTakes_193 ?_
            refine aw_nameH (fun h40 e_h40 => ?_)
            replace H := H h40 e_h40
            refine aw_iconst (v := 1) dX11_laysTakes_194 (by decide) ?_
            refine aw_istore_n (lv' := [(3, .int 1), (0, .ref (G.2.1 k)), (1, .int a1), (2, .int a2), (4, .int x4), (5, .int x5)]) dX11_laysTakes_195 rfl (by decide) rfl ?_
            obtain ⟨x5_41, e_x5_41⟩ : ∃ y : Int32, y = x5 + 1 := ⟨_, rfl⟩
            replace H := H x5_41 e_x5_41
            refine aw_iinc (v := x5_41) (lv' := [(5, .int x5_41), (3, .int 1), (0, .ref (G.2.1 k)), (1, .int a1), (2, .int a2), (4, .int x4)]) dX11_laysTakes_196 (n0 := 5) rfl (by rw [e_x5_41]; rfl) (by decide) rfl ?_
            refine aw_goto (tgt := 133) dX11_laysTakes_199 (by decide) ?_
            refine aw_sub (lv' := [(0, .ref (G.2.1 k)), (1, .int a1), (2, .int a2), (3, .int 1), (4, .int x4), (5, .int x5_41)]) [2, 3, 4, 1, 5, 0] rfl ?_
            exact ih _ _ _ _ H
          · replace H := a_neg c36 H
            refine aw_goto (tgt := 196) dX11_laysTakes_176 (by decide) ?_
            obtain ⟨x5_42, e_x5_42⟩ : ∃ y : Int32, y = x5 + 1 := ⟨_, rfl⟩
            replace H := H x5_42 e_x5_42
            refine aw_iinc (v := x5_42) (lv' := [(5, .int x5_42), (0, .ref (G.2.1 k)), (1, .int a1), (2, .int a2), (3, .int x3), (4, .int x4)]) dX11_laysTakes_196 (n0 := 5) rfl (by rw [e_x5_42]; rfl) (by decide) rfl ?_
            refine aw_goto (tgt := 133) dX11_laysTakes_199 (by decide) ?_
            refine aw_sub (lv' := [(0, .ref (G.2.1 k)), (1, .int a1), (2, .int a2), (3, .int x3), (4, .int x4), (5, .int x5_42)]) [1, 2, 3, 4, 5, 0] rfl ?_
            exact ih _ _ _ _ H
set_option maxHeartbeats 4000000 in
set_option maxRecDepth 100000 in
theorem fm_X11_laysTakes_122 {l : Launch} {S : aS} {G : aG} (d : Nat) {k : Nat} {a1 : Int32} {a2 : Int32} {Q : aH → Prop} (o_k : aObj S k 10 flX11) {K113 : Int32 → aH → Prop} (hK113 : ∀ (x3 : Int32) (h : aH), K113 x3 h → AW l S G (d + 10) M_X11_laysTakes (va_Qv Q (aPo S G) (aA S G)) 113 [(0, .ref (G.2.1 k)), (1, .int a1), (2, .int a2), (3, .int x3)] [] h) : ∀ (n : Nat) (x3 : Int32) (x4 : Int32) (h : aH), f_X11_laysTakes_122 S k a1 a2 Q K113 n x3 x4 h → AW l S G (d + 10) M_X11_laysTakes (va_Qv Q (aPo S G) (aA S G)) 122 [(0, .ref (G.2.1 k)), (1, .int a1), (2, .int a2), (3, .int x3), (4, .int x4)] [] h := by
  intro n
  induction n with
  | zero => intro x3 x4 h H; exact False.elim H
  | succ n ih =>
    intro x3 x4 h H
    unfold f_X11_laysTakes_122 at H
    refine aw_iload dX11_laysTakes_122 4 rfl ?_
    refine aw_sipush (v := 256) dX11_laysTakes_124 (by decide) ?_
    refine aw_icmp_ge (tgt := 208) dX11_laysTakes_127 (by decide) (fun c43 => ?_) (fun c43 => ?_)
    · replace H := a_pos c43 H
      refine aw_goto (tgt := 113) dX11_laysTakes_208 (by decide) ?_
      refine aw_sub (lv' := [(0, .ref (G.2.1 k)), (1, .int a1), (2, .int a2), (3, .int x3)]) [0, 1, 2, 3] rfl ?_
      exact hK113 _ _ H
    · replace H := a_neg c43 H
      refine aw_iconst (v := 0) dX11_laysTakes_130 (by decide) ?_
      refine aw_istore (lv' := [(5, .int 0), (0, .ref (G.2.1 k)), (1, .int a1), (2, .int a2), (3, .int x3), (4, .int x4)]) dX11_laysTakes_131 (by decide) rfl ?_
      refine aw_sub (lv' := [(0, .ref (G.2.1 k)), (1, .int a1), (2, .int a2), (3, .int x3), (4, .int x4), (5, .int 0)]) [1, 2, 3, 4, 5, 0] rfl ?_
      obtain ⟨n1, H⟩ := H
      exact fm_X11_laysTakes_133 d o_k ih n1 _ _ _ _ H
set_option maxHeartbeats 4000000 in
set_option maxRecDepth 100000 in
theorem fm_X11_laysTakes_113 {l : Launch} {S : aS} {G : aG} (d : Nat) {k : Nat} {a1 : Int32} {a2 : Int32} {Q : aH → Prop} (o_k : aObj S k 10 flX11) : ∀ (n : Nat) (x3 : Int32) (h : aH), f_X11_laysTakes_113 S k a1 a2 Q n x3 h → AW l S G (d + 10) M_X11_laysTakes (va_Qv Q (aPo S G) (aA S G)) 113 [(0, .ref (G.2.1 k)), (1, .int a1), (2, .int a2), (3, .int x3)] [] h := by
  intro n
  induction n with
  | zero => intro x3 h H; exact False.elim H
  | succ n ih =>
    intro x3 h H
    unfold f_X11_laysTakes_113 at H
    refine aw_iload_n dX11_laysTakes_113 rfl 3 rfl ?_
    refine aw_if_eq (tgt := 211) dX11_laysTakes_114 (by decide) (fun c44 => ?_) (fun c44 => ?_)
    · replace H := a_pos c44 H
      exact aw_vret rfl H dX11_laysTakes_211
    · replace H := a_neg c44 H
      refine aw_iconst (v := 0) dX11_laysTakes_117 (by decide) ?_
      refine aw_istore_n (lv' := [(3, .int 0), (0, .ref (G.2.1 k)), (1, .int a1), (2, .int a2)]) dX11_laysTakes_118 rfl (by decide) rfl ?_
      refine aw_iconst (v := 0) dX11_laysTakes_119 (by decide) ?_
      refine aw_istore (lv' := [(4, .int 0), (3, .int 0), (0, .ref (G.2.1 k)), (1, .int a1), (2, .int a2)]) dX11_laysTakes_120 (by decide) rfl ?_
      refine aw_sub (lv' := [(0, .ref (G.2.1 k)), (1, .int a1), (2, .int a2), (3, .int 0), (4, .int 0)]) [2, 3, 4, 1, 0] rfl ?_
      obtain ⟨n1, H⟩ := H
      exact fm_X11_laysTakes_122 d o_k ih n1 _ _ _ H
set_option maxHeartbeats 4000000 in
set_option maxRecDepth 100000 in
theorem fm_X11_laysTakes_2 {l : Launch} {S : aS} {G : aG} (d : Nat) {k : Nat} {a1 : Int32} {a2 : Int32} {Q : aH → Prop} (o_k : aObj S k 10 flX11) : ∀ (n : Nat) (x3 : Int32) (h : aH), f_X11_laysTakes_2 S k a1 a2 Q n x3 h → AW l S G (d + 10) M_X11_laysTakes (va_Qv Q (aPo S G) (aA S G)) 2 [(0, .ref (G.2.1 k)), (1, .int a1), (2, .int a2), (3, .int x3)] [] h := by
  intro n
  induction n with
  | zero => intro x3 h H; exact False.elim H
  | succ n ih =>
    intro x3 h H
    unfold f_X11_laysTakes_2 at H
    refine aw_iload_n dX11_laysTakes_2 rfl 3 rfl ?_
    refine aw_sipush (v := 256) dX11_laysTakes_3 (by decide) ?_
    refine aw_icmp_ge (tgt := 83) dX11_laysTakes_6 (by decide) (fun c45 => ?_) (fun c45 => ?_)
    · replace H := a_pos c45 H
      refine aw_aload_n dX11_laysTakes_83 rfl 0 rfl ?_
      refine aw_getR cf_X11 58 (by decide) rfl wd_1094 o_k dX11_laysTakes_84 ?_
      refine aw_iload_n dX11_laysTakes_87 rfl 1 rfl ?_
      refine aw_aload_n dX11_laysTakes_88 rfl 0 rfl ?_
      refine aw_getR cf_X11 59 (by decide) rfl wd_1095 o_k dX11_laysTakes_89 ?_
      refine aw_iload_n dX11_laysTakes_92 rfl 1 rfl ?_
      obtain ⟨z46, H⟩ := H
      refine aw_iaload z46 dX11_laysTakes_93 ?_
      refine aw_name (fun v47 e_v47 => ?_)
      replace H := H v47 e_v47
      obtain ⟨z48, H⟩ := H
      refine aw_iastore z48 dX11_laysTakes_94 ?_
      refine aw_nameH (fun h49 e_h49 => ?_)
      replace H := H h49 e_h49
      refine aw_aload_n dX11_laysTakes_95 rfl 0 rfl ?_
      refine aw_getR cf_X11 59 (by decide) rfl wd_1095 o_k dX11_laysTakes_96 ?_
      refine aw_iload_n dX11_laysTakes_99 rfl 1 rfl ?_
      obtain ⟨z50, H⟩ := H
      refine aw_iaload z50 dX11_laysTakes_100 ?_
      refine aw_name (fun v51 e_v51 => ?_)
      replace H := H v51 e_v51
      refine aw_ldcw (v := 1000000000) dX11_laysTakes_101 wd_1621 ?_
      refine aw_icmp_ge (tgt := 111) dX11_laysTakes_104 (by decide) (fun c52 => ?_) (fun c52 => ?_)
      · replace H := a_pos c52 H
        refine aw_iconst (v := 0) dX11_laysTakes_111 (by decide) ?_
        refine aw_istore_n (lv' := [(3, .int 0), (0, .ref (G.2.1 k)), (1, .int a1), (2, .int a2)]) dX11_laysTakes_112 rfl (by decide) rfl ?_
        refine aw_sub (lv' := [(0, .ref (G.2.1 k)), (1, .int a1), (2, .int a2), (3, .int 0)]) [1, 2, 3, 0] rfl ?_
        obtain ⟨n1, H⟩ := H
        exact fm_X11_laysTakes_113 d o_k n1 _ _ H
      · replace H := a_neg c52 H
        refine aw_iconst (v := 1) dX11_laysTakes_107 (by decide) ?_
        refine aw_goto (tgt := 112) dX11_laysTakes_108 (by decide) ?_
        refine aw_istore_n (lv' := [(3, .int 1), (0, .ref (G.2.1 k)), (1, .int a1), (2, .int a2)]) dX11_laysTakes_112 rfl (by decide) rfl ?_
        refine aw_sub (lv' := [(0, .ref (G.2.1 k)), (1, .int a1), (2, .int a2), (3, .int 1)]) [1, 2, 3, 0] rfl ?_
        obtain ⟨n1, H⟩ := H
        exact fm_X11_laysTakes_113 d o_k n1 _ _ H
    · replace H := a_neg c45 H
      refine aw_aload_n dX11_laysTakes_9 rfl 0 rfl ?_
      refine aw_iload_n dX11_laysTakes_10 rfl 3 rfl ?_
      refine aw_callV_i (As := [.int x3]) (rest := []) (am_X11_isIce (d + 9) o_k H) mf_X11_isIce wd_1374 wd_1376 ws_4_4 cf_X11 o_k rfl rfl (Nat.le_of_ble_eq_true rfl) dX11_laysTakes_11 (fun r54 h53 H => ?_)
      refine aw_if_eq (tgt := 25) dX11_laysTakes_14 (by decide) (fun c55 => ?_) (fun c55 => ?_)
      · replace H := a_pos c55 H
        refine aw_iconst (v := (-1)) dX11_laysTakes_25 (by decide) ?_
        exact fm_X11_laysTakes_26 d o_k ih _ _ _ H
      · replace H := a_neg c55 H
        refine aw_aload_n dX11_laysTakes_17 rfl 0 rfl ?_
        refine aw_iload_n dX11_laysTakes_18 rfl 3 rfl ?_
        refine aw_callV_i (As := [.int x3]) (rest := []) (am_X11_bears d o_k H) mf_X11_bears wd_1470 wd_1472 ws_5_6 cf_X11 o_k rfl rfl (Nat.le_of_ble_eq_true rfl) dX11_laysTakes_19 (fun r57 h56 H => ?_)
        refine aw_goto (tgt := 26) dX11_laysTakes_22 (by decide) ?_
        exact fm_X11_laysTakes_26 d o_k ih _ _ _ H
set_option maxHeartbeats 4000000 in
set_option maxRecDepth 100000 in
theorem am_X11_laysTakes {l : Launch} {S : aS} {G : aG} (d : Nat) {k : Nat} {a1 : Int32} {a2 : Int32} {h : aH} {Q : aH → Prop} (o_k : aObj S k 10 flX11) (H : f_X11_laysTakes S k a1 a2 h Q) : AMv l S G (d + 10) M_X11_laysTakes [.ref (G.2.1 k), .int a1, .int a2] h Q := by
  unfold f_X11_laysTakes at H
  refine am_of mf_X11_laysTakes (Nat.le_of_ble_eq_true rfl) (lv0 := [(0, .ref (G.2.1 k)), (1, .int a1), (2, .int a2)]) rfl ?_
  refine aw_iconst (v := 0) dX11_laysTakes_0 (by decide) ?_
  refine aw_istore_n (lv' := [(3, .int 0), (0, .ref (G.2.1 k)), (1, .int a1), (2, .int a2)]) dX11_laysTakes_1 rfl (by decide) rfl ?_
  refine aw_sub (lv' := [(0, .ref (G.2.1 k)), (1, .int a1), (2, .int a2), (3, .int 0)]) [1, 2, 3, 0] rfl ?_
  obtain ⟨n1, H⟩ := H
  exact fm_X11_laysTakes_2 d o_k n1 _ _ H
set_option maxHeartbeats 4000000 in
set_option maxRecDepth 100000 in
theorem fm_X11_rescue_157 {l : Launch} {S : aS} {G : aG} (d : Nat) {k : Nat} {a1 : Int32} {a2 : Int32} {a3 : Int32} {a4 : Int32} {Q : Int32 → aH → Prop} (o_k : aObj S k 10 flX11) {K147 : Int32 → Int32 → aH → Prop} (hK147 : ∀ (x6 : Int32) (x7 : Int32) (h : aH), K147 x6 x7 h → AW l S G (d + 11) M_X11_rescue (va_Qi Q (aPo S G) (aA S G)) 147 [(0, .ref (G.2.1 k)), (1, .int a1), (2, .int a2), (3, .int a3), (4, .int a4), (6, .int x6), (7, .int x7)] [] h) : ∀ (n : Nat) (x6 : Int32) (x7 : Int32) (x8 : Int32) (h : aH), f_X11_rescue_157 S k a1 a2 a3 a4 Q K147 n x6 x7 x8 h → AW l S G (d + 11) M_X11_rescue (va_Qi Q (aPo S G) (aA S G)) 157 [(0, .ref (G.2.1 k)), (1, .int a1), (2, .int a2), (3, .int a3), (4, .int a4), (6, .int x6), (7, .int x7), (8, .int x8)] [] h := by
  intro n
  induction n with
  | zero => intro x6 x7 x8 h H; exact False.elim H
  | succ n ih =>
    intro x6 x7 x8 h H
    unfold f_X11_rescue_157 at H
    refine aw_aload_n dX11_rescue_157 rfl 0 rfl ?_
    refine aw_iload dX11_rescue_158 5 rfl ?_
    refine aw_iload dX11_rescue_160 7 rfl ?_
    refine aw_callV_i (As := [.int x6, .int x8]) (rest := []) (am_X11_takesBy (d + 5) o_k H) mf_X11_takesBy wd_1639 wd_1641 ws_7_0 cf_X11 o_k rfl rfl (Nat.le_of_ble_eq_true rfl) dX11_rescue_162 (fun r2 h1 H => ?_)
    refine aw_aload_n dX11_rescue_165 rfl 0 rfl ?_
    refine aw_getR cf_X11 58 (by decide) rfl wd_1094 o_k dX11_rescue_166 ?_
    refine aw_iload dX11_rescue_169 5 rfl ?_
    obtain ⟨z3, H⟩ := H
    refine aw_iaload z3 dX11_rescue_171 ?_
    refine aw_name (fun v4 e_v4 => ?_)
    replace H := H v4 e_v4
    refine aw_icmp_eq (tgt := 181) dX11_rescue_172 (by decide) (fun c5 => ?_) (fun c5 => ?_)
    · replace H := a_pos c5 H
      refine aw_iload dX11_rescue_181 5 rfl ?_
      refine aw_iload dX11_rescue_183 7 rfl ?_
      refine aw_callS_i (As := [.int x6, .int x8]) (rest := []) (am_X11_beside (d + 6) H) mf_X11_beside wd_1643 wd_1644 rfl rfl (Nat.le_of_ble_eq_true rfl) dX11_rescue_185 (fun r7 h6 H => ?_)
      refine aw_istore (lv' := [(6, .int r7), (0, .ref (G.2.1 k)), (1, .int a1), (2, .int a2), (3, .int a3), (4, .int a4), (7, .int x7), (8, .int x8)]) dX11_rescue_188 (by decide) rfl ?_
      obtain ⟨x7_8, e_x7_8⟩ : ∃ y : Int32, y = x7 + 1 := ⟨_, rfl⟩
      replace H := H x7_8 e_x7_8
      refine aw_iinc (v := x7_8) (lv' := [(7, .int x7_8), (6, .int r7), (0, .ref (G.2.1 k)), (1, .int a1), (2, .int a2), (3, .int a3), (4, .int a4), (8, .int x8)]) dX11_rescue_190 (n0 := 6) rfl (by rw [e_x7_8]; rfl) (by decide) rfl ?_
      refine aw_goto (tgt := 147) dX11_rescue_193 (by decide) ?_
      refine aw_sub (lv' := [(0, .ref (G.2.1 k)), (1, .int a1), (2, .int a2), (3, .int a3), (4, .int a4), (6, .int r7), (7, .int x7_8)]) [2, 3, 4, 5, 6, 1, 0] rfl ?_
      exact hK147 _ _ _ H
    · replace H := a_neg c5 H
      obtain ⟨x8_9, e_x8_9⟩ : ∃ y : Int32, y = x8 + 1 := ⟨_, rfl⟩
      replace H := H x8_9 e_x8_9
      refine aw_iinc (v := x8_9) (lv' := [(8, .int x8_9), (0, .ref (G.2.1 k)), (1, .int a1), (2, .int a2), (3, .int a3), (4, .int a4), (6, .int x6), (7, .int x7)]) dX11_rescue_175 (n0 := 7) rfl (by rw [e_x8_9]; rfl) (by decide) rfl ?_
      refine aw_goto (tgt := 157) dX11_rescue_178 (by decide) ?_
      refine aw_sub (lv' := [(0, .ref (G.2.1 k)), (1, .int a1), (2, .int a2), (3, .int a3), (4, .int a4), (6, .int x6), (7, .int x7), (8, .int x8_9)]) [1, 2, 3, 4, 5, 6, 7, 0] rfl ?_
      exact ih _ _ _ _ H
set_option maxHeartbeats 4000000 in
set_option maxRecDepth 100000 in
theorem fm_X11_rescue_147 {l : Launch} {S : aS} {G : aG} (d : Nat) {k : Nat} {a1 : Int32} {a2 : Int32} {a3 : Int32} {a4 : Int32} {Q : Int32 → aH → Prop} (o_k : aObj S k 10 flX11) : ∀ (n : Nat) (x6 : Int32) (x7 : Int32) (h : aH), f_X11_rescue_147 S k a1 a2 a3 a4 Q n x6 x7 h → AW l S G (d + 11) M_X11_rescue (va_Qi Q (aPo S G) (aA S G)) 147 [(0, .ref (G.2.1 k)), (1, .int a1), (2, .int a2), (3, .int a3), (4, .int a4), (6, .int x6), (7, .int x7)] [] h := by
  intro n
  induction n with
  | zero => intro x6 x7 h H; exact False.elim H
  | succ n ih =>
    intro x6 x7 h H
    unfold f_X11_rescue_147 at H
    refine aw_iload dX11_rescue_147 6 rfl ?_
    refine aw_iload dX11_rescue_149 4 rfl ?_
    refine aw_icmp_ge (tgt := 196) dX11_rescue_151 (by decide) (fun c10 => ?_) (fun c10 => ?_)
    · replace H := a_pos c10 H
      refine aw_iload dX11_rescue_196 5 rfl ?_
      exact aw_iret rfl H dX11_rescue_198
    · replace H := a_neg c10 H
      refine aw_iconst (v := 0) dX11_rescue_154 (by decide) ?_
      refine aw_istore (lv' := [(8, .int 0), (0, .ref (G.2.1 k)), (1, .int a1), (2, .int a2), (3, .int a3), (4, .int a4), (6, .int x6), (7, .int x7)]) dX11_rescue_155 (by decide) rfl ?_
      refine aw_sub (lv' := [(0, .ref (G.2.1 k)), (1, .int a1), (2, .int a2), (3, .int a3), (4, .int a4), (6, .int x6), (7, .int x7), (8, .int 0)]) [1, 2, 3, 4, 5, 6, 7, 0] rfl ?_
      obtain ⟨n1, H⟩ := H
      exact fm_X11_rescue_157 d o_k ih n1 _ _ _ _ H
set_option maxHeartbeats 4000000 in
set_option maxRecDepth 100000 in
theorem fm_X11_rescue_62 {l : Launch} {S : aS} {G : aG} (d : Nat) {k : Nat} {a1 : Int32} {a2 : Int32} {a3 : Int32} {a4 : Int32} {Q : Int32 → aH → Prop} (o_k : aObj S k 10 flX11)  (h : aH) (H : f_X11_rescue_62 S k a1 a2 a3 a4 Q  h) : AW l S G (d + 11) M_X11_rescue (va_Qi Q (aPo S G) (aA S G)) 62 [(0, .ref (G.2.1 k)), (1, .int a1), (2, .int a2), (3, .int a3), (4, .int a4)] [] h := by
  unfold f_X11_rescue_62 at H
  refine aw_aload_n dX11_rescue_62 rfl 0 rfl ?_
  refine aw_iload_n dX11_rescue_63 rfl 2 rfl ?_
  refine aw_iload_n dX11_rescue_64 rfl 3 rfl ?_
  refine aw_callV_v (As := [.int a2, .int a3]) (rest := []) (am_X11_laysTakes d o_k H) mf_X11_laysTakes wd_1635 wd_1637 ws_6_15 cf_X11 o_k rfl rfl (Nat.le_of_ble_eq_true rfl) dX11_rescue_65 (fun h11 H => ?_)
  refine aw_aload_n dX11_rescue_68 rfl 0 rfl ?_
  refine aw_getR cf_X11 58 (by decide) rfl wd_1094 o_k dX11_rescue_69 ?_
  refine aw_iload_n dX11_rescue_72 rfl 1 rfl ?_
  obtain ⟨z12, H⟩ := H
  refine aw_iaload z12 dX11_rescue_73 ?_
  refine aw_name (fun v13 e_v13 => ?_)
  replace H := H v13 e_v13
  refine aw_ldcw (v := 1000000000) dX11_rescue_74 wd_1621 ?_
  refine aw_icmp_lt (tgt := 83) dX11_rescue_77 (by decide) (fun c14 => ?_) (fun c14 => ?_)
  · replace H := a_pos c14 H
    refine aw_aload_n dX11_rescue_83 rfl 0 rfl ?_
    refine aw_getR cf_X11 58 (by decide) rfl wd_1094 o_k dX11_rescue_84 ?_
    refine aw_iload_n dX11_rescue_87 rfl 1 rfl ?_
    obtain ⟨z15, H⟩ := H
    refine aw_iaload z15 dX11_rescue_88 ?_
    refine aw_name (fun v16 e_v16 => ?_)
    replace H := H v16 e_v16
    refine aw_sipush (v := 1000) dX11_rescue_89 (by decide) ?_
    refine aw_irem dX11_rescue_92 (by decide) ?_
    refine aw_name (fun x5_17 e_x5_17 => ?_)
    replace H := H x5_17 e_x5_17
    refine aw_istore (lv' := [(5, .int x5_17), (0, .ref (G.2.1 k)), (1, .int a1), (2, .int a2), (3, .int a3), (4, .int a4)]) dX11_rescue_93 (by decide) rfl ?_
    refine aw_iload dX11_rescue_95 5 rfl ?_
    refine aw_iconst (v := (-1)) dX11_rescue_97 (by decide) ?_
    refine aw_icmp_eq (tgt := 109) dX11_rescue_98 (by decide) (fun c18 => ?_) (fun c18 => ?_)
    · replace H := a_pos c18 H
      refine aw_iload dX11_rescue_109 5 rfl ?_
      refine aw_iconst (v := (-1)) dX11_rescue_111 (by decide) ?_
      refine aw_icmp_ne (tgt := 128) dX11_rescue_112 (by decide) (fun c19 => ?_) (fun c19 => ?_)
      · replace H := a_pos c19 H
        refine aw_iload dX11_rescue_128 0 rfl ?_
        exact aw_iret rfl H dX11_rescue_130
      · replace H := a_neg2 c19 H
        refine aw_aload_n dX11_rescue_115 rfl 1 rfl ?_
        refine aw_getR cf_X11 58 (by decide) rfl wd_1094 o_k dX11_rescue_116 ?_
        refine aw_iload_n dX11_rescue_119 rfl 2 rfl ?_
        obtain ⟨z20, H⟩ := H
        refine aw_iaload z20 dX11_rescue_120 ?_
        refine aw_name (fun v21 e_v21 => ?_)
        replace H := H v21 e_v21
        refine aw_sipush (v := 1000) dX11_rescue_121 (by decide) ?_
        refine aw_idiv dX11_rescue_124 (by decide) ?_
        refine aw_goto (tgt := 130) dX11_rescue_125 (by decide) ?_
        exact aw_iret rfl H dX11_rescue_130
    · replace H := a_neg c18 H
      refine aw_iload dX11_rescue_101 5 rfl ?_
      refine aw_sipush (v := 500) dX11_rescue_103 (by decide) ?_
      refine aw_icmp_ne (tgt := 131) dX11_rescue_106 (by decide) (fun c22 => ?_) (fun c22 => ?_)
      · replace H := a_pos c22 H
        refine aw_iload dX11_rescue_131 5 rfl ?_
        refine aw_iload dX11_rescue_133 0 rfl ?_
        refine aw_icmp_le (tgt := 141) dX11_rescue_135 (by decide) (fun c23 => ?_) (fun c23 => ?_)
        · replace H := a_pos c23 H
          refine aw_iload_n dX11_rescue_141 rfl 2 rfl ?_
          refine aw_istore (lv' := [(6, .int a1), (5, .int x5_17), (0, .ref (G.2.1 k)), (1, .int a1), (2, .int a2), (3, .int a3), (4, .int a4)]) dX11_rescue_142 (by decide) rfl ?_
          refine aw_iconst (v := 0) dX11_rescue_144 (by decide) ?_
          refine aw_istore (lv' := [(7, .int 0), (6, .int a1), (5, .int x5_17), (0, .ref (G.2.1 k)), (1, .int a1), (2, .int a2), (3, .int a3), (4, .int a4)]) dX11_rescue_145 (by decide) rfl ?_
          refine aw_sub (lv' := [(0, .ref (G.2.1 k)), (1, .int a1), (2, .int a2), (3, .int a3), (4, .int a4), (6, .int a1), (7, .int 0)]) [3, 4, 5, 6, 7, 1, 0] rfl ?_
          obtain ⟨n1, H⟩ := H
          exact fm_X11_rescue_147 d o_k n1 _ _ _ H
        · replace H := a_neg c23 H
          refine aw_bipush (v := (-3)) dX11_rescue_138 (by decide) ?_
          exact aw_iret rfl H dX11_rescue_140
      · replace H := a_neg2 c22 H
        refine aw_iload dX11_rescue_109 5 rfl ?_
        refine aw_iconst (v := (-1)) dX11_rescue_111 (by decide) ?_
        refine aw_icmp_ne (tgt := 128) dX11_rescue_112 (by decide) (fun c24 => ?_) (fun c24 => ?_)
        · replace H := a_pos c24 H
          refine aw_iload dX11_rescue_128 0 rfl ?_
          exact aw_iret rfl H dX11_rescue_130
        · replace H := a_neg2 c24 H
          refine aw_aload_n dX11_rescue_115 rfl 1 rfl ?_
          refine aw_getR cf_X11 58 (by decide) rfl wd_1094 o_k dX11_rescue_116 ?_
          refine aw_iload_n dX11_rescue_119 rfl 2 rfl ?_
          obtain ⟨z25, H⟩ := H
          refine aw_iaload z25 dX11_rescue_120 ?_
          refine aw_name (fun v26 e_v26 => ?_)
          replace H := H v26 e_v26
          refine aw_sipush (v := 1000) dX11_rescue_121 (by decide) ?_
          refine aw_idiv dX11_rescue_124 (by decide) ?_
          refine aw_goto (tgt := 130) dX11_rescue_125 (by decide) ?_
          exact aw_iret rfl H dX11_rescue_130
  · replace H := a_neg c14 H
    refine aw_bipush (v := (-2)) dX11_rescue_80 (by decide) ?_
    exact aw_iret rfl H dX11_rescue_82
set_option maxHeartbeats 4000000 in
set_option maxRecDepth 100000 in
theorem am_X11_rescue {l : Launch} {S : aS} {G : aG} (d : Nat) {k : Nat} {a1 : Int32} {a2 : Int32} {a3 : Int32} {a4 : Int32} {h : aH} {Q : Int32 → aH → Prop} (o_k : aObj S k 10 flX11) (H : f_X11_rescue S k a1 a2 a3 a4 h Q) : AMi l S G (d + 11) M_X11_rescue [.ref (G.2.1 k), .int a1, .int a2, .int a3, .int a4] h Q := by
  unfold f_X11_rescue at H
  refine am_of mf_X11_rescue (Nat.le_of_ble_eq_true rfl) (lv0 := [(0, .ref (G.2.1 k)), (1, .int a1), (2, .int a2), (3, .int a3), (4, .int a4)]) rfl ?_
  refine aw_iload_n dX11_rescue_0 rfl 1 rfl ?_
  refine aw_i2l dX11_rescue_1 ?_
  refine aw_lconst (v := 0) dX11_rescue_2 (by decide) ?_
  refine aw_ldc2 (v := 255) dX11_rescue_3 wd_1634 ?_
  refine aw_callS_i (As := [.long (a1).toInt64, .long 0, .long 255]) (rest := []) (am_X11_lies (d + 10) H) mf_X11_lies wd_1258 wd_1259 rfl rfl (Nat.le_of_ble_eq_true rfl) dX11_rescue_6 (fun r28 h27 H => ?_)
  refine aw_if_eq (tgt := 59) dX11_rescue_9 (by decide) (fun c29 => ?_) (fun c29 => ?_)
  · replace H := a_pos c29 H
    refine aw_bipush (v := (-3)) dX11_rescue_59 (by decide) ?_
    exact aw_iret rfl H dX11_rescue_61
  · replace H := a_neg c29 H
    refine aw_iload_n dX11_rescue_12 rfl 2 rfl ?_
    refine aw_i2l dX11_rescue_13 ?_
    refine aw_lconst (v := 0) dX11_rescue_14 (by decide) ?_
    refine aw_ldc2 (v := 255) dX11_rescue_15 wd_1634 ?_
    refine aw_callS_i (As := [.long (a2).toInt64, .long 0, .long 255]) (rest := []) (am_X11_lies (d + 10) H) mf_X11_lies wd_1258 wd_1259 rfl rfl (Nat.le_of_ble_eq_true rfl) dX11_rescue_18 (fun r31 h30 H => ?_)
    refine aw_if_eq (tgt := 59) dX11_rescue_21 (by decide) (fun c32 => ?_) (fun c32 => ?_)
    · replace H := a_pos c32 H
      refine aw_bipush (v := (-3)) dX11_rescue_59 (by decide) ?_
      exact aw_iret rfl H dX11_rescue_61
    · replace H := a_neg c32 H
      refine aw_iload_n dX11_rescue_24 rfl 3 rfl ?_
      refine aw_i2l dX11_rescue_25 ?_
      refine aw_lconst (v := 1) dX11_rescue_26 (by decide) ?_
      refine aw_ldc2 (v := 9999) dX11_rescue_27 wd_1562 ?_
      refine aw_callS_i (As := [.long (a3).toInt64, .long 1, .long 9999]) (rest := []) (am_X11_lies (d + 10) H) mf_X11_lies wd_1258 wd_1259 rfl rfl (Nat.le_of_ble_eq_true rfl) dX11_rescue_30 (fun r34 h33 H => ?_)
      refine aw_if_eq (tgt := 59) dX11_rescue_33 (by decide) (fun c35 => ?_) (fun c35 => ?_)
      · replace H := a_pos c35 H
        refine aw_bipush (v := (-3)) dX11_rescue_59 (by decide) ?_
        exact aw_iret rfl H dX11_rescue_61
      · replace H := a_neg c35 H
        refine aw_iload dX11_rescue_36 4 rfl ?_
        refine aw_sipush (v := 500) dX11_rescue_38 (by decide) ?_
        refine aw_icmp_eq (tgt := 62) dX11_rescue_41 (by decide) (fun c36 => ?_) (fun c36 => ?_)
        · replace H := a_pos c36 H
          exact fm_X11_rescue_62 d o_k _ H
        · replace H := a_neg c36 H
          refine aw_iload dX11_rescue_44 4 rfl ?_
          refine aw_i2l dX11_rescue_46 ?_
          refine aw_ldc2 (v := (-1)) dX11_rescue_47 wd_1620 ?_
          refine aw_ldc2 (v := 255) dX11_rescue_50 wd_1634 ?_
          refine aw_callS_i (As := [.long (a4).toInt64, .long (-1), .long 255]) (rest := []) (am_X11_lies (d + 10) H) mf_X11_lies wd_1258 wd_1259 rfl rfl (Nat.le_of_ble_eq_true rfl) dX11_rescue_53 (fun r38 h37 H => ?_)
          refine aw_if_ne (tgt := 62) dX11_rescue_56 (by decide) (fun c39 => ?_) (fun c39 => ?_)
          · replace H := a_pos c39 H
            exact fm_X11_rescue_62 d o_k _ H
          · replace H := a_neg2 c39 H
            refine aw_bipush (v := (-3)) dX11_rescue_59 (by decide) ?_
            exact aw_iret rfl H dX11_rescue_61
set_option maxHeartbeats 4000000 in
set_option maxRecDepth 100000 in
theorem fm_X11_brokeJust_52 {l : Launch} {S : aS} {G : aG} (d : Nat) {k : Nat} {a1 : Int32} {Q : Int32 → aH → Prop} (o_k : aObj S k 10 flX11) : ∀ (n : Nat) (x3 : Int32) (h : aH), f_X11_brokeJust_52 S k a1 Q n x3 h → AW l S G d M_X11_brokeJust (va_Qi Q (aPo S G) (aA S G)) 52 [(0, .ref (G.2.1 k)), (1, .int a1), (3, .int x3)] [] h := by
  intro n
  induction n with
  | zero => intro x3 h H; exact False.elim H
  | succ n ih =>
    intro x3 h H
    unfold f_X11_brokeJust_52 at H
    refine aw_iload_n dX11_brokeJust_52 rfl 2 rfl ?_
    refine aw_iload_n dX11_brokeJust_53 rfl 1 rfl ?_
    refine aw_icmp_ge (tgt := 79) dX11_brokeJust_54 (by decide) (fun c1 => ?_) (fun c1 => ?_)
    · replace H := a_pos c1 H
      refine aw_iconst (v := 1) dX11_brokeJust_79 (by decide) ?_
      exact aw_zret rfl rfl H dX11_brokeJust_80
    · replace H := a_neg c1 H
      refine aw_aload_n dX11_brokeJust_57 rfl 0 rfl ?_
      refine aw_getR cf_X11 7 (by decide) rfl wd_1043 o_k dX11_brokeJust_58 ?_
      refine aw_aload_n dX11_brokeJust_61 rfl 0 rfl ?_
      refine aw_getR cf_X11 52 (by decide) rfl wd_1088 o_k dX11_brokeJust_62 ?_
      refine aw_iload_n dX11_brokeJust_65 rfl 2 rfl ?_
      obtain ⟨z2, H⟩ := H
      refine aw_iaload z2 dX11_brokeJust_66 ?_
      refine aw_name (fun v3 e_v3 => ?_)
      replace H := H v3 e_v3
      obtain ⟨z4, H⟩ := H
      refine aw_zaload z4 dX11_brokeJust_67 ?_
      refine aw_name (fun v5 e_v5 => ?_)
      replace H := H v5 e_v5
      refine aw_if_ne (tgt := 73) dX11_brokeJust_68 (by decide) (fun c6 => ?_) (fun c6 => ?_)
      · replace H := a_pos c6 H
        obtain ⟨x3_7, e_x3_7⟩ : ∃ y : Int32, y = x3 + 1 := ⟨_, rfl⟩
        replace H := H x3_7 e_x3_7
        refine aw_iinc (v := x3_7) (lv' := [(3, .int x3_7), (0, .ref (G.2.1 k)), (1, .int a1)]) dX11_brokeJust_73 (n0 := 2) rfl (by rw [e_x3_7]; rfl) (by decide) rfl ?_
        refine aw_goto (tgt := 52) dX11_brokeJust_76 (by decide) ?_
        refine aw_sub (lv' := [(0, .ref (G.2.1 k)), (1, .int a1), (3, .int x3_7)]) [1, 2, 0] rfl ?_
        exact ih _ _ H
      · replace H := a_neg2 c6 H
        refine aw_iconst (v := 0) dX11_brokeJust_71 (by decide) ?_
        exact aw_zret rfl rfl H dX11_brokeJust_72
set_option maxHeartbeats 4000000 in
set_option maxRecDepth 100000 in
theorem fm_X11_brokeJust_4 {l : Launch} {S : aS} {G : aG} (d : Nat) {k : Nat} {a1 : Int32} {Q : Int32 → aH → Prop} (o_k : aObj S k 10 flX11) : ∀ (n : Nat) (x2 : Int32) (x3 : Int32) (h : aH), f_X11_brokeJust_4 S k a1 Q n x2 x3 h → AW l S G d M_X11_brokeJust (va_Qi Q (aPo S G) (aA S G)) 4 [(0, .ref (G.2.1 k)), (1, .int a1), (2, .int x2), (3, .int x3)] [] h := by
  intro n
  induction n with
  | zero => intro x2 x3 h H; exact False.elim H
  | succ n ih =>
    intro x2 x3 h H
    unfold f_X11_brokeJust_4 at H
    refine aw_iload_n dX11_brokeJust_4 rfl 3 rfl ?_
    refine aw_sipush (v := 256) dX11_brokeJust_5 (by decide) ?_
    refine aw_icmp_ge (tgt := 43) dX11_brokeJust_8 (by decide) (fun c8 => ?_) (fun c8 => ?_)
    · replace H := a_pos c8 H
      refine aw_iload_n dX11_brokeJust_43 rfl 2 rfl ?_
      refine aw_iload_n dX11_brokeJust_44 rfl 1 rfl ?_
      refine aw_icmp_eq (tgt := 50) dX11_brokeJust_45 (by decide) (fun c9 => ?_) (fun c9 => ?_)
      · replace H := a_pos c9 H
        refine aw_iconst (v := 0) dX11_brokeJust_50 (by decide) ?_
        refine aw_istore_n (lv' := [(3, .int 0), (0, .ref (G.2.1 k)), (1, .int a1), (2, .int x2)]) dX11_brokeJust_51 rfl (by decide) rfl ?_
        refine aw_sub (lv' := [(0, .ref (G.2.1 k)), (1, .int a1), (3, .int 0)]) [1, 2, 0] rfl ?_
        obtain ⟨n1, H⟩ := H
        exact fm_X11_brokeJust_52 d o_k n1 _ _ H
      · replace H := a_neg c9 H
        refine aw_iconst (v := 0) dX11_brokeJust_48 (by decide) ?_
        exact aw_zret rfl rfl H dX11_brokeJust_49
    · replace H := a_neg c8 H
      refine aw_iload_n dX11_brokeJust_11 rfl 2 rfl ?_
      refine aw_aload_n dX11_brokeJust_12 rfl 0 rfl ?_
      refine aw_getR cf_X11 7 (by decide) rfl wd_1043 o_k dX11_brokeJust_13 ?_
      refine aw_iload_n dX11_brokeJust_16 rfl 3 rfl ?_
      obtain ⟨z10, H⟩ := H
      refine aw_zaload z10 dX11_brokeJust_17 ?_
      refine aw_name (fun v11 e_v11 => ?_)
      replace H := H v11 e_v11
      refine aw_if_eq (tgt := 34) dX11_brokeJust_18 (by decide) (fun c12 => ?_) (fun c12 => ?_)
      · replace H := a_pos c12 H
        refine aw_iconst (v := 0) dX11_brokeJust_34 (by decide) ?_
        refine aw_iadd dX11_brokeJust_35 ?_
        refine aw_name (fun x2_13 e_x2_13 => ?_)
        replace H := H x2_13 e_x2_13
        refine aw_istore_n (lv' := [(2, .int x2_13), (0, .ref (G.2.1 k)), (1, .int a1), (3, .int x3)]) dX11_brokeJust_36 rfl (by decide) rfl ?_
        obtain ⟨x3_14, e_x3_14⟩ : ∃ y : Int32, y = x3 + 1 := ⟨_, rfl⟩
        replace H := H x3_14 e_x3_14
        refine aw_iinc (v := x3_14) (lv' := [(3, .int x3_14), (2, .int x2_13), (0, .ref (G.2.1 k)), (1, .int a1)]) dX11_brokeJust_37 (n0 := 3) rfl (by rw [e_x3_14]; rfl) (by decide) rfl ?_
        refine aw_goto (tgt := 4) dX11_brokeJust_40 (by decide) ?_
        refine aw_sub (lv' := [(0, .ref (G.2.1 k)), (1, .int a1), (2, .int x2_13), (3, .int x3_14)]) [2, 3, 1, 0] rfl ?_
        exact ih _ _ _ H
      · replace H := a_neg c12 H
        refine aw_aload_n dX11_brokeJust_21 rfl 0 rfl ?_
        refine aw_getR cf_X11 48 (by decide) rfl wd_1084 o_k dX11_brokeJust_22 ?_
        refine aw_iload_n dX11_brokeJust_25 rfl 3 rfl ?_
        obtain ⟨z15, H⟩ := H
        refine aw_zaload z15 dX11_brokeJust_26 ?_
        refine aw_name (fun v16 e_v16 => ?_)
        replace H := H v16 e_v16
        refine aw_if_ne (tgt := 34) dX11_brokeJust_27 (by decide) (fun c17 => ?_) (fun c17 => ?_)
        · replace H := a_pos c17 H
          refine aw_iconst (v := 0) dX11_brokeJust_34 (by decide) ?_
          refine aw_iadd dX11_brokeJust_35 ?_
          refine aw_name (fun x2_18 e_x2_18 => ?_)
          replace H := H x2_18 e_x2_18
          refine aw_istore_n (lv' := [(2, .int x2_18), (0, .ref (G.2.1 k)), (1, .int a1), (3, .int x3)]) dX11_brokeJust_36 rfl (by decide) rfl ?_
          obtain ⟨x3_19, e_x3_19⟩ : ∃ y : Int32, y = x3 + 1 := ⟨_, rfl⟩
          replace H := H x3_19 e_x3_19
          refine aw_iinc (v := x3_19) (lv' := [(3, .int x3_19), (2, .int x2_18), (0, .ref (G.2.1 k)), (1, .int a1)]) dX11_brokeJust_37 (n0 := 3) rfl (by rw [e_x3_19]; rfl) (by decide) rfl ?_
          refine aw_goto (tgt := 4) dX11_brokeJust_40 (by decide) ?_
          refine aw_sub (lv' := [(0, .ref (G.2.1 k)), (1, .int a1), (2, .int x2_18), (3, .int x3_19)]) [2, 3, 1, 0] rfl ?_
          exact ih _ _ _ H
        · replace H := a_neg2 c17 H
          refine aw_iconst (v := 1) dX11_brokeJust_30 (by decide) ?_
          refine aw_goto (tgt := 35) dX11_brokeJust_31 (by decide) ?_
          refine aw_iadd dX11_brokeJust_35 ?_
          refine aw_name (fun x2_20 e_x2_20 => ?_)
          replace H := H x2_20 e_x2_20
          refine aw_istore_n (lv' := [(2, .int x2_20), (0, .ref (G.2.1 k)), (1, .int a1), (3, .int x3)]) dX11_brokeJust_36 rfl (by decide) rfl ?_
          obtain ⟨x3_21, e_x3_21⟩ : ∃ y : Int32, y = x3 + 1 := ⟨_, rfl⟩
          replace H := H x3_21 e_x3_21
          refine aw_iinc (v := x3_21) (lv' := [(3, .int x3_21), (2, .int x2_20), (0, .ref (G.2.1 k)), (1, .int a1)]) dX11_brokeJust_37 (n0 := 3) rfl (by rw [e_x3_21]; rfl) (by decide) rfl ?_
          refine aw_goto (tgt := 4) dX11_brokeJust_40 (by decide) ?_
          refine aw_sub (lv' := [(0, .ref (G.2.1 k)), (1, .int a1), (2, .int x2_20), (3, .int x3_21)]) [2, 3, 1, 0] rfl ?_
          exact ih _ _ _ H
set_option maxHeartbeats 4000000 in
set_option maxRecDepth 100000 in
theorem am_X11_brokeJust {l : Launch} {S : aS} {G : aG} (d : Nat) {k : Nat} {a1 : Int32} {h : aH} {Q : Int32 → aH → Prop} (o_k : aObj S k 10 flX11) (H : f_X11_brokeJust S k a1 h Q) : AMi l S G d M_X11_brokeJust [.ref (G.2.1 k), .int a1] h Q := by
  unfold f_X11_brokeJust at H
  refine am_of mf_X11_brokeJust (Nat.le_of_ble_eq_true rfl) (lv0 := [(0, .ref (G.2.1 k)), (1, .int a1)]) rfl ?_
  refine aw_iconst (v := 0) dX11_brokeJust_0 (by decide) ?_
  refine aw_istore_n (lv' := [(2, .int 0), (0, .ref (G.2.1 k)), (1, .int a1)]) dX11_brokeJust_1 rfl (by decide) rfl ?_
  refine aw_iconst (v := 0) dX11_brokeJust_2 (by decide) ?_
  refine aw_istore_n (lv' := [(3, .int 0), (2, .int 0), (0, .ref (G.2.1 k)), (1, .int a1)]) dX11_brokeJust_3 rfl (by decide) rfl ?_
  refine aw_sub (lv' := [(0, .ref (G.2.1 k)), (1, .int a1), (2, .int 0), (3, .int 0)]) [2, 3, 1, 0] rfl ?_
  obtain ⟨n1, H⟩ := H
  exact fm_X11_brokeJust_4 d o_k n1 _ _ _ H
set_option maxHeartbeats 4000000 in
set_option maxRecDepth 100000 in
theorem fm_X11_began_119 {l : Launch} {S : aS} {G : aG} (d : Nat) {k : Nat} {a1 : Int32} {a2 : Int32} {Q : Int32 → aH → Prop} (o_k : aObj S k 10 flX11) : ∀ (n : Nat) (x3 : Int32) (x4 : Int32) (x5 : Int32) (h : aH), f_X11_began_119 S k a1 a2 Q n x3 x4 x5 h → AW l S G (d + 11) M_X11_began (va_Qi Q (aPo S G) (aA S G)) 119 [(0, .ref (G.2.1 k)), (1, .int a1), (2, .int a2), (3, .int x3), (4, .int x4), (5, .int x5)] [] h := by
  intro n
  induction n with
  | zero => intro x3 x4 x5 h H; exact False.elim H
  | succ n ih =>
    intro x3 x4 x5 h H
    unfold f_X11_began_119 at H
    refine aw_iload dX11_began_119 5 rfl ?_
    refine aw_iload_n dX11_began_121 rfl 1 rfl ?_
    refine aw_icmp_ge (tgt := 190) dX11_began_122 (by decide) (fun c1 => ?_) (fun c1 => ?_)
    · replace H := a_pos c1 H
      refine aw_iload_n dX11_began_190 rfl 2 rfl ?_
      refine aw_if_ne (tgt := 198) dX11_began_191 (by decide) (fun c2 => ?_) (fun c2 => ?_)
      · replace H := a_pos c2 H
        refine aw_iload dX11_began_198 4 rfl ?_
        exact aw_iret rfl H dX11_began_200
      · replace H := a_neg2 c2 H
        refine aw_iload_n dX11_began_194 rfl 3 rfl ?_
        refine aw_goto (tgt := 200) dX11_began_195 (by decide) ?_
        exact aw_iret rfl H dX11_began_200
    · replace H := a_neg c1 H
      refine aw_aload_n dX11_began_125 rfl 0 rfl ?_
      refine aw_getR cf_X11 52 (by decide) rfl wd_1088 o_k dX11_began_126 ?_
      refine aw_iload dX11_began_129 5 rfl ?_
      obtain ⟨z3, H⟩ := H
      refine aw_iaload z3 dX11_began_131 ?_
      refine aw_name (fun v4 e_v4 => ?_)
      replace H := H v4 e_v4
      refine aw_istore (lv' := [(6, .int v4), (0, .ref (G.2.1 k)), (1, .int a1), (2, .int a2), (3, .int x3), (4, .int x4), (5, .int x5)]) dX11_began_132 (by decide) rfl ?_
      refine aw_aload_n dX11_began_134 rfl 1 rfl ?_
      refine aw_iload dX11_began_135 0 rfl ?_
      refine aw_callV_v (As := [.int v4]) (rest := []) (am_X11_breaks (d + 10) o_k H) mf_X11_breaks wd_1478 wd_1480 ws_5_8 cf_X11 o_k rfl rfl (Nat.le_of_ble_eq_true rfl) dX11_began_137 (fun h5 H => ?_)
      refine aw_aload_n dX11_began_140 rfl 1 rfl ?_
      refine aw_callV_i (As := []) (rest := []) (am_X11_settles d o_k H) mf_X11_settles wd_1462 wd_1464 ws_5_4 cf_X11 o_k rfl rfl (Nat.le_of_ble_eq_true rfl) dX11_began_141 (fun r7 h6 H => ?_)
      refine aw_istore (lv' := [(7, .int r7), (6, .int v4), (0, .ref (G.2.1 k)), (1, .int a1), (2, .int a2), (3, .int x3), (4, .int x4), (5, .int x5)]) dX11_began_144 (by decide) rfl ?_
      refine aw_aload_n dX11_began_146 rfl 2 rfl ?_
      refine aw_iload_n dX11_began_147 rfl 3 rfl ?_
      refine aw_callV_i (As := [.int a1]) (rest := []) (am_X11_brokeJust (d + 10) o_k H) mf_X11_brokeJust wd_1651 wd_1653 ws_7_1 cf_X11 o_k rfl rfl (Nat.le_of_ble_eq_true rfl) dX11_began_148 (fun r9 h8 H => ?_)
      refine aw_if_eq (tgt := 179) dX11_began_151 (by decide) (fun c10 => ?_) (fun c10 => ?_)
      · replace H := a_pos c10 H
        refine aw_aload_n dX11_began_179 rfl 2 rfl ?_
        refine aw_iconst (v := 0) dX11_began_180 (by decide) ?_
        refine aw_callV_v (As := [.int 0]) (rest := []) (am_X11_putsBack (d + 10) o_k H) mf_X11_putsBack wd_1530 wd_1532 ws_6_1 cf_X11 o_k rfl rfl (Nat.le_of_ble_eq_true rfl) dX11_began_181 (fun h11 H => ?_)
        obtain ⟨x5_12, e_x5_12⟩ : ∃ y : Int32, y = x5 + 1 := ⟨_, rfl⟩
        replace H := H x5_12 e_x5_12
        refine aw_iinc (v := x5_12) (lv' := [(5, .int x5_12), (7, .int r7), (6, .int v4), (0, .ref (G.2.1 k)), (1, .int a1), (2, .int a2), (3, .int x3), (4, .int x4)]) dX11_began_184 (n0 := 7) rfl (by rw [e_x5_12]; rfl) (by decide) rfl ?_
        refine aw_goto (tgt := 119) dX11_began_187 (by decide) ?_
        refine aw_sub (lv' := [(0, .ref (G.2.1 k)), (1, .int a1), (2, .int a2), (3, .int x3), (4, .int x4), (5, .int x5_12)]) [3, 4, 5, 6, 7, 0] rfl ?_
        exact ih _ _ _ _ H
      · replace H := a_neg c10 H
        obtain ⟨x3_13, e_x3_13⟩ : ∃ y : Int32, y = x3 + 1 := ⟨_, rfl⟩
        replace H := H x3_13 e_x3_13
        refine aw_iinc (v := x3_13) (lv' := [(3, .int x3_13), (7, .int r7), (6, .int v4), (0, .ref (G.2.1 k)), (1, .int a1), (2, .int a2), (4, .int x4), (5, .int x5)]) dX11_began_154 (n0 := 5) rfl (by rw [e_x3_13]; rfl) (by decide) rfl ?_
        refine aw_iload dX11_began_157 6 rfl ?_
        refine aw_iconst (v := (-1)) dX11_began_159 (by decide) ?_
        refine aw_icmp_eq (tgt := 170) dX11_began_160 (by decide) (fun c14 => ?_) (fun c14 => ?_)
        · replace H := a_pos c14 H
          refine aw_iload dX11_began_170 2 rfl ?_
          refine aw_goto (tgt := 177) dX11_began_172 (by decide) ?_
          refine aw_istore (lv' := [(4, .int v4), (3, .int x3_13), (7, .int r7), (6, .int v4), (0, .ref (G.2.1 k)), (1, .int a1), (2, .int a2), (5, .int x5)]) dX11_began_177 (by decide) rfl ?_
          refine aw_aload_n dX11_began_179 rfl 4 rfl ?_
          refine aw_iconst (v := 0) dX11_began_180 (by decide) ?_
          refine aw_callV_v (As := [.int 0]) (rest := []) (am_X11_putsBack (d + 10) o_k H) mf_X11_putsBack wd_1530 wd_1532 ws_6_1 cf_X11 o_k rfl rfl (Nat.le_of_ble_eq_true rfl) dX11_began_181 (fun h15 H => ?_)
          obtain ⟨x5_16, e_x5_16⟩ : ∃ y : Int32, y = x5 + 1 := ⟨_, rfl⟩
          replace H := H x5_16 e_x5_16
          refine aw_iinc (v := x5_16) (lv' := [(5, .int x5_16), (4, .int v4), (3, .int x3_13), (7, .int r7), (6, .int v4), (0, .ref (G.2.1 k)), (1, .int a1), (2, .int a2)]) dX11_began_184 (n0 := 7) rfl (by rw [e_x5_16]; rfl) (by decide) rfl ?_
          refine aw_goto (tgt := 119) dX11_began_187 (by decide) ?_
          refine aw_sub (lv' := [(0, .ref (G.2.1 k)), (1, .int a1), (2, .int a2), (3, .int x3_13), (4, .int v4), (5, .int x5_16)]) [5, 6, 7, 2, 1, 0] rfl ?_
          exact ih _ _ _ _ H
        · replace H := a_neg c14 H
          refine aw_iload dX11_began_163 2 rfl ?_
          refine aw_iload dX11_began_165 6 rfl ?_
          refine aw_icmp_ge (tgt := 175) dX11_began_167 (by decide) (fun c17 => ?_) (fun c17 => ?_)
          · replace H := a_pos c17 H
            refine aw_iload dX11_began_175 6 rfl ?_
            refine aw_istore (lv' := [(4, .int x4), (3, .int x3_13), (7, .int r7), (6, .int v4), (0, .ref (G.2.1 k)), (1, .int a1), (2, .int a2), (5, .int x5)]) dX11_began_177 (by decide) rfl ?_
            refine aw_aload_n dX11_began_179 rfl 4 rfl ?_
            refine aw_iconst (v := 0) dX11_began_180 (by decide) ?_
            refine aw_callV_v (As := [.int 0]) (rest := []) (am_X11_putsBack (d + 10) o_k H) mf_X11_putsBack wd_1530 wd_1532 ws_6_1 cf_X11 o_k rfl rfl (Nat.le_of_ble_eq_true rfl) dX11_began_181 (fun h18 H => ?_)
            obtain ⟨x5_19, e_x5_19⟩ : ∃ y : Int32, y = x5 + 1 := ⟨_, rfl⟩
            replace H := H x5_19 e_x5_19
            refine aw_iinc (v := x5_19) (lv' := [(5, .int x5_19), (4, .int x4), (3, .int x3_13), (7, .int r7), (6, .int v4), (0, .ref (G.2.1 k)), (1, .int a1), (2, .int a2)]) dX11_began_184 (n0 := 7) rfl (by rw [e_x5_19]; rfl) (by decide) rfl ?_
            refine aw_goto (tgt := 119) dX11_began_187 (by decide) ?_
            refine aw_sub (lv' := [(0, .ref (G.2.1 k)), (1, .int a1), (2, .int a2), (3, .int x3_13), (4, .int x4), (5, .int x5_19)]) [5, 6, 7, 2, 1, 0] rfl ?_
            exact ih _ _ _ _ H
          · replace H := a_neg c17 H
            refine aw_iload dX11_began_170 2 rfl ?_
            refine aw_goto (tgt := 177) dX11_began_172 (by decide) ?_
            refine aw_istore (lv' := [(4, .int v4), (3, .int x3_13), (7, .int r7), (6, .int v4), (0, .ref (G.2.1 k)), (1, .int a1), (2, .int a2), (5, .int x5)]) dX11_began_177 (by decide) rfl ?_
            refine aw_aload_n dX11_began_179 rfl 4 rfl ?_
            refine aw_iconst (v := 0) dX11_began_180 (by decide) ?_
            refine aw_callV_v (As := [.int 0]) (rest := []) (am_X11_putsBack (d + 10) o_k H) mf_X11_putsBack wd_1530 wd_1532 ws_6_1 cf_X11 o_k rfl rfl (Nat.le_of_ble_eq_true rfl) dX11_began_181 (fun h20 H => ?_)
            obtain ⟨x5_21, e_x5_21⟩ : ∃ y : Int32, y = x5 + 1 := ⟨_, rfl⟩
            replace H := H x5_21 e_x5_21
            refine aw_iinc (v := x5_21) (lv' := [(5, .int x5_21), (4, .int v4), (3, .int x3_13), (7, .int r7), (6, .int v4), (0, .ref (G.2.1 k)), (1, .int a1), (2, .int a2)]) dX11_began_184 (n0 := 7) rfl (by rw [e_x5_21]; rfl) (by decide) rfl ?_
            refine aw_goto (tgt := 119) dX11_began_187 (by decide) ?_
            refine aw_sub (lv' := [(0, .ref (G.2.1 k)), (1, .int a1), (2, .int a2), (3, .int x3_13), (4, .int v4), (5, .int x5_21)]) [5, 6, 7, 2, 1, 0] rfl ?_
            exact ih _ _ _ _ H
set_option maxHeartbeats 4000000 in
set_option maxRecDepth 100000 in
theorem fm_X11_began_79 {l : Launch} {S : aS} {G : aG} (d : Nat) {k : Nat} {a1 : Int32} {a2 : Int32} {Q : Int32 → aH → Prop} (o_k : aObj S k 10 flX11) : ∀ (n : Nat) (x3 : Int32) (h : aH), f_X11_began_79 S k a1 a2 Q n x3 h → AW l S G (d + 11) M_X11_began (va_Qi Q (aPo S G) (aA S G)) 79 [(0, .ref (G.2.1 k)), (1, .int a1), (2, .int a2), (3, .int x3)] [] h := by
  intro n
  induction n with
  | zero => intro x3 h H; exact False.elim H
  | succ n ih =>
    intro x3 h H
    unfold f_X11_began_79 at H
    refine aw_iload_n dX11_began_79 rfl 3 rfl ?_
    refine aw_iload_n dX11_began_80 rfl 1 rfl ?_
    refine aw_icmp_ge (tgt := 106) dX11_began_81 (by decide) (fun c22 => ?_) (fun c22 => ?_)
    · replace H := a_pos c22 H
      refine aw_aload_n dX11_began_106 rfl 0 rfl ?_
      refine aw_iconst (v := 0) dX11_began_107 (by decide) ?_
      refine aw_callV_v (As := [.int 0]) (rest := []) (am_X11_setsAside (d + 10) o_k H) mf_X11_setsAside wd_1522 wd_1524 ws_5_15 cf_X11 o_k rfl rfl (Nat.le_of_ble_eq_true rfl) dX11_began_108 (fun h23 H => ?_)
      refine aw_iconst (v := 0) dX11_began_111 (by decide) ?_
      refine aw_istore_n (lv' := [(3, .int 0), (0, .ref (G.2.1 k)), (1, .int a1), (2, .int a2)]) dX11_began_112 rfl (by decide) rfl ?_
      refine aw_iconst (v := (-1)) dX11_began_113 (by decide) ?_
      refine aw_istore (lv' := [(4, .int (-1)), (3, .int 0), (0, .ref (G.2.1 k)), (1, .int a1), (2, .int a2)]) dX11_began_114 (by decide) rfl ?_
      refine aw_iconst (v := 0) dX11_began_116 (by decide) ?_
      refine aw_istore (lv' := [(5, .int 0), (4, .int (-1)), (3, .int 0), (0, .ref (G.2.1 k)), (1, .int a1), (2, .int a2)]) dX11_began_117 (by decide) rfl ?_
      refine aw_sub (lv' := [(0, .ref (G.2.1 k)), (1, .int a1), (2, .int a2), (3, .int 0), (4, .int (-1)), (5, .int 0)]) [3, 4, 5, 2, 1, 0] rfl ?_
      obtain ⟨n1, H⟩ := H
      exact fm_X11_began_119 d o_k n1 _ _ _ _ H
    · replace H := a_neg c22 H
      refine aw_aload_n dX11_began_84 rfl 0 rfl ?_
      refine aw_aload_n dX11_began_85 rfl 0 rfl ?_
      refine aw_getR cf_X11 52 (by decide) rfl wd_1088 o_k dX11_began_86 ?_
      refine aw_iload_n dX11_began_89 rfl 3 rfl ?_
      obtain ⟨z24, H⟩ := H
      refine aw_iaload z24 dX11_began_90 ?_
      refine aw_name (fun v25 e_v25 => ?_)
      replace H := H v25 e_v25
      refine aw_callV_i (As := [.int v25]) (rest := []) (am_X11_isIce (d + 10) o_k H) mf_X11_isIce wd_1374 wd_1376 ws_4_4 cf_X11 o_k rfl rfl (Nat.le_of_ble_eq_true rfl) dX11_began_91 (fun r27 h26 H => ?_)
      refine aw_if_ne (tgt := 100) dX11_began_94 (by decide) (fun c28 => ?_) (fun c28 => ?_)
      · replace H := a_pos c28 H
        obtain ⟨x3_29, e_x3_29⟩ : ∃ y : Int32, y = x3 + 1 := ⟨_, rfl⟩
        replace H := H x3_29 e_x3_29
        refine aw_iinc (v := x3_29) (lv' := [(3, .int x3_29), (0, .ref (G.2.1 k)), (1, .int a1), (2, .int a2)]) dX11_began_100 (n0 := 3) rfl (by rw [e_x3_29]; rfl) (by decide) rfl ?_
        refine aw_goto (tgt := 79) dX11_began_103 (by decide) ?_
        refine aw_sub (lv' := [(0, .ref (G.2.1 k)), (1, .int a1), (2, .int a2), (3, .int x3_29)]) [1, 2, 3, 0] rfl ?_
        exact ih _ _ H
      · replace H := a_neg2 c28 H
        refine aw_bipush (v := (-2)) dX11_began_97 (by decide) ?_
        exact aw_iret rfl H dX11_began_99
set_option maxHeartbeats 4000000 in
set_option maxRecDepth 100000 in
theorem fm_X11_began_45 {l : Launch} {S : aS} {G : aG} (d : Nat) {k : Nat} {a1 : Int32} {a2 : Int32} {Q : Int32 → aH → Prop} (o_k : aObj S k 10 flX11) : ∀ (n : Nat) (x3 : Int32) (h : aH), f_X11_began_45 S k a1 a2 Q n x3 h → AW l S G (d + 11) M_X11_began (va_Qi Q (aPo S G) (aA S G)) 45 [(0, .ref (G.2.1 k)), (1, .int a1), (2, .int a2), (3, .int x3)] [] h := by
  intro n
  induction n with
  | zero => intro x3 h H; exact False.elim H
  | succ n ih =>
    intro x3 h H
    unfold f_X11_began_45 at H
    refine aw_iload_n dX11_began_45 rfl 3 rfl ?_
    refine aw_iload_n dX11_began_46 rfl 1 rfl ?_
    refine aw_icmp_ge (tgt := 67) dX11_began_47 (by decide) (fun c30 => ?_) (fun c30 => ?_)
    · replace H := a_pos c30 H
      refine aw_aload_n dX11_began_67 rfl 0 rfl ?_
      refine aw_callV_i (As := []) (rest := []) (am_X11_isTwice (d + 10) o_k H) mf_X11_isTwice wd_1583 wd_1585 ws_6_7 cf_X11 o_k rfl rfl (Nat.le_of_ble_eq_true rfl) dX11_began_68 (fun r32 h31 H => ?_)
      refine aw_if_eq (tgt := 77) dX11_began_71 (by decide) (fun c33 => ?_) (fun c33 => ?_)
      · replace H := a_pos c33 H
        refine aw_iconst (v := 0) dX11_began_77 (by decide) ?_
        refine aw_istore_n (lv' := [(3, .int 0), (0, .ref (G.2.1 k)), (1, .int a1), (2, .int a2)]) dX11_began_78 rfl (by decide) rfl ?_
        refine aw_sub (lv' := [(0, .ref (G.2.1 k)), (1, .int a1), (2, .int a2), (3, .int 0)]) [1, 2, 3, 0] rfl ?_
        obtain ⟨n1, H⟩ := H
        exact fm_X11_began_79 d o_k n1 _ _ H
      · replace H := a_neg c33 H
        refine aw_bipush (v := (-2)) dX11_began_74 (by decide) ?_
        exact aw_iret rfl H dX11_began_76
    · replace H := a_neg c30 H
      refine aw_aload_n dX11_began_50 rfl 0 rfl ?_
      refine aw_getR cf_X11 52 (by decide) rfl wd_1088 o_k dX11_began_51 ?_
      refine aw_iload_n dX11_began_54 rfl 3 rfl ?_
      refine aw_aload_n dX11_began_55 rfl 0 rfl ?_
      refine aw_iload_n dX11_began_56 rfl 3 rfl ?_
      refine aw_callV_i (As := [.int x3]) (rest := [.int x3, .ref (G.2.1 (gR h k 52))]) (am_X11_byteAt (d + 10) o_k H) mf_X11_byteAt wd_1579 wd_1581 ws_6_6 cf_X11 o_k rfl rfl (Nat.le_of_ble_eq_true rfl) dX11_began_57 (fun r35 h34 H => ?_)
      obtain ⟨z36, H⟩ := H
      refine aw_iastore z36 dX11_began_60 ?_
      refine aw_nameH (fun h37 e_h37 => ?_)
      replace H := H h37 e_h37
      obtain ⟨x3_38, e_x3_38⟩ : ∃ y : Int32, y = x3 + 1 := ⟨_, rfl⟩
      replace H := H x3_38 e_x3_38
      refine aw_iinc (v := x3_38) (lv' := [(3, .int x3_38), (0, .ref (G.2.1 k)), (1, .int a1), (2, .int a2)]) dX11_began_61 (n0 := 3) rfl (by rw [e_x3_38]; rfl) (by decide) rfl ?_
      refine aw_goto (tgt := 45) dX11_began_64 (by decide) ?_
      refine aw_sub (lv' := [(0, .ref (G.2.1 k)), (1, .int a1), (2, .int a2), (3, .int x3_38)]) [1, 2, 3, 0] rfl ?_
      exact ih _ _ H
set_option maxHeartbeats 4000000 in
set_option maxRecDepth 100000 in
theorem am_X11_began {l : Launch} {S : aS} {G : aG} (d : Nat) {k : Nat} {a1 : Int32} {a2 : Int32} {h : aH} {Q : Int32 → aH → Prop} (o_k : aObj S k 10 flX11) (H : f_X11_began S k a1 a2 h Q) : AMi l S G (d + 11) M_X11_began [.ref (G.2.1 k), .int a1, .int a2] h Q := by
  unfold f_X11_began at H
  refine am_of mf_X11_began (Nat.le_of_ble_eq_true rfl) (lv0 := [(0, .ref (G.2.1 k)), (1, .int a1), (2, .int a2)]) rfl ?_
  refine aw_iload_n dX11_began_0 rfl 1 rfl ?_
  refine aw_i2l dX11_began_1 ?_
  refine aw_lconst (v := 1) dX11_began_2 (by decide) ?_
  refine aw_ldc2 (v := 40) dX11_began_3 wd_1650 ?_
  refine aw_callS_i (As := [.long (a1).toInt64, .long 1, .long 40]) (rest := []) (am_X11_lies (d + 10) H) mf_X11_lies wd_1258 wd_1259 rfl rfl (Nat.le_of_ble_eq_true rfl) dX11_began_6 (fun r40 h39 H => ?_)
  refine aw_if_eq (tgt := 30) dX11_began_9 (by decide) (fun c41 => ?_) (fun c41 => ?_)
  · replace H := a_pos c41 H
    refine aw_bipush (v := (-3)) dX11_began_30 (by decide) ?_
    exact aw_iret rfl H dX11_began_32
  · replace H := a_neg c41 H
    refine aw_iload_n dX11_began_12 rfl 2 rfl ?_
    refine aw_i2l dX11_began_13 ?_
    refine aw_lconst (v := 0) dX11_began_14 (by decide) ?_
    refine aw_lconst (v := 1) dX11_began_15 (by decide) ?_
    refine aw_callS_i (As := [.long (a2).toInt64, .long 0, .long 1]) (rest := []) (am_X11_lies (d + 10) H) mf_X11_lies wd_1258 wd_1259 rfl rfl (Nat.le_of_ble_eq_true rfl) dX11_began_16 (fun r43 h42 H => ?_)
    refine aw_if_eq (tgt := 30) dX11_began_19 (by decide) (fun c44 => ?_) (fun c44 => ?_)
    · replace H := a_pos c44 H
      refine aw_bipush (v := (-3)) dX11_began_30 (by decide) ?_
      exact aw_iret rfl H dX11_began_32
    · replace H := a_neg c44 H
      refine aw_iload_n dX11_began_22 rfl 1 rfl ?_
      refine aw_aload_n dX11_began_23 rfl 0 rfl ?_
      refine aw_getI cf_X11 1 (by decide) rfl wd_1037 o_k dX11_began_24 ?_
      refine aw_name (fun v45 e_v45 => ?_)
      replace H := H v45 e_v45
      refine aw_icmp_le (tgt := 33) dX11_began_27 (by decide) (fun c46 => ?_) (fun c46 => ?_)
      · replace H := a_pos c46 H
        refine aw_aload_n dX11_began_33 rfl 0 rfl ?_
        refine aw_iconst (v := 0) dX11_began_34 (by decide) ?_
        refine aw_putI cf_X11 1 (by decide) rfl wd_1037 rfl rfl rfl o_k dX11_began_35 ?_
        refine aw_nameH (fun h47 e_h47 => ?_)
        replace H := H h47 e_h47
        refine aw_aload_n dX11_began_38 rfl 0 rfl ?_
        refine aw_iload_n dX11_began_39 rfl 1 rfl ?_
        refine aw_putI cf_X11 54 (by decide) rfl wd_1090 rfl rfl rfl o_k dX11_began_40 ?_
        refine aw_nameH (fun h48 e_h48 => ?_)
        replace H := H h48 e_h48
        refine aw_iconst (v := 0) dX11_began_43 (by decide) ?_
        refine aw_istore_n (lv' := [(3, .int 0), (0, .ref (G.2.1 k)), (1, .int a1), (2, .int a2)]) dX11_began_44 rfl (by decide) rfl ?_
        refine aw_sub (lv' := [(0, .ref (G.2.1 k)), (1, .int a1), (2, .int a2), (3, .int 0)]) [1, 2, 3, 0] rfl ?_
        obtain ⟨n1, H⟩ := H
        exact fm_X11_began_45 d o_k n1 _ _ H
      · replace H := a_neg c46 H
        refine aw_bipush (v := (-3)) dX11_began_30 (by decide) ?_
        exact aw_iret rfl H dX11_began_32
