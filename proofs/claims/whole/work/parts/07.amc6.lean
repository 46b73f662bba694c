set_option maxHeartbeats 4000000 in
set_option maxRecDepth 100000 in
theorem fm_X9_readPairs_12 {l : Launch} {S : aS} {G : aG} (d : Nat) {k : Nat} {a1 : Nat} {a2 : Int32} {Q : aH → Prop} (o_k : aObj S k 8 flX9) (o_a1 : aObj S a1 7 flX8) : ∀ (n : Nat) (x3 : Int32) (h : aH), f_X9_readPairs_12 S k a1 a2 Q n x3 h → AW l S G (d + 1) M_X9_readPairs (va_Qv Q (aPo S G) (aA S G)) 12 [(0, .ref (G.2.1 k)), (1, .ref (G.2.1 a1)), (2, .int a2), (3, .int x3)] [] h := by
  intro n
  induction n with
  | zero => intro x3 h H; exact False.elim H
  | succ n ih =>
    intro x3 h H
    unfold f_X9_readPairs_12 at H
    refine aw_iload_n dX9_readPairs_12 rfl 3 rfl ?_
    refine aw_aload_n dX9_readPairs_13 rfl 0 rfl ?_
    refine aw_getI cf_X9 2 (by decide) rfl wd_144 o_k dX9_readPairs_14 ?_
    refine aw_name (fun v1 e_v1 => ?_)
    replace H := H v1 e_v1
    refine aw_icmp_ge (tgt := 54) dX9_readPairs_17 (by decide) (fun c2 => ?_) (fun c2 => ?_)
    · replace H := a_pos c2 H
      refine aw_aload_n dX9_readPairs_54 rfl 1 rfl ?_
      refine aw_iconst (v := 0) dX9_readPairs_55 (by decide) ?_
      refine aw_putI cf_X8 1 (by decide) rfl wd_125 rfl rfl rfl o_a1 dX9_readPairs_56 ?_
      refine aw_nameH (fun h3 e_h3 => ?_)
      replace H := H h3 e_h3
      exact aw_vret rfl H dX9_readPairs_59
    · replace H := a_neg c2 H
      refine aw_aload_n dX9_readPairs_20 rfl 0 rfl ?_
      refine aw_getR cf_X9 0 (by decide) rfl wd_138 o_k dX9_readPairs_21 ?_
      refine aw_iload_n dX9_readPairs_24 rfl 3 rfl ?_
      refine aw_aload_n dX9_readPairs_25 rfl 1 rfl ?_
      refine aw_iconst (v := 2) dX9_readPairs_26 (by decide) ?_
      refine aw_iload_n dX9_readPairs_27 rfl 3 rfl ?_
      refine aw_imul dX9_readPairs_28 ?_
      refine aw_callV_i (As := [.int (2 * x3)]) (rest := [.int x3, .ref (G.2.1 (gR h k 0))]) (am_X8_byteAt d o_a1 H) mf_X8_byteAt wd_806 wd_807 wd_808 cf_X8 o_a1 rfl rfl (Nat.le_of_ble_eq_true rfl) dX9_readPairs_29 (fun r5 h4 H => ?_)
      obtain ⟨z6, H⟩ := H
      refine aw_iastore z6 dX9_readPairs_32 ?_
      refine aw_nameH (fun h7 e_h7 => ?_)
      replace H := H h7 e_h7
      refine aw_aload_n dX9_readPairs_33 rfl 0 rfl ?_
      refine aw_getR cf_X9 1 (by decide) rfl wd_141 o_k dX9_readPairs_34 ?_
      refine aw_iload_n dX9_readPairs_37 rfl 3 rfl ?_
      refine aw_aload_n dX9_readPairs_38 rfl 1 rfl ?_
      refine aw_iconst (v := 2) dX9_readPairs_39 (by decide) ?_
      refine aw_iload_n dX9_readPairs_40 rfl 3 rfl ?_
      refine aw_imul dX9_readPairs_41 ?_
      refine aw_iconst (v := 1) dX9_readPairs_42 (by decide) ?_
      refine aw_iadd dX9_readPairs_43 ?_
      refine aw_callV_i (As := [.int ((2 * x3) + 1)]) (rest := [.int x3, .ref (G.2.1 (gR h7 k 1))]) (am_X8_byteAt d o_a1 H) mf_X8_byteAt wd_806 wd_807 wd_808 cf_X8 o_a1 rfl rfl (Nat.le_of_ble_eq_true rfl) dX9_readPairs_44 (fun r9 h8 H => ?_)
      obtain ⟨z10, H⟩ := H
      refine aw_iastore z10 dX9_readPairs_47 ?_
      refine aw_nameH (fun h11 e_h11 => ?_)
      replace H := H h11 e_h11
      obtain ⟨x3_12, e_x3_12⟩ : ∃ y : Int32, y = x3 + 1 := ⟨_, rfl⟩
      replace H := H x3_12 e_x3_12
      refine aw_iinc (v := x3_12) (lv' := [(3, .int x3_12), (0, .ref (G.2.1 k)), (1, .ref (G.2.1 a1)), (2, .int a2)]) dX9_readPairs_48 (n0 := 3) rfl (by rw [e_x3_12]; rfl) (by decide) rfl ?_
      refine aw_goto (tgt := 12) dX9_readPairs_51 (by decide) ?_
      refine aw_sub (lv' := [(0, .ref (G.2.1 k)), (1, .ref (G.2.1 a1)), (2, .int a2), (3, .int x3_12)]) [1, 2, 3, 0] rfl ?_
      exact ih _ _ H
set_option maxHeartbeats 4000000 in
set_option maxRecDepth 100000 in
theorem am_X9_readPairs {l : Launch} {S : aS} {G : aG} (d : Nat) {k : Nat} {a1 : Nat} {a2 : Int32} {h : aH} {Q : aH → Prop} (o_k : aObj S k 8 flX9) (o_a1 : aObj S a1 7 flX8) (H : f_X9_readPairs S k a1 a2 h Q) : AMv l S G (d + 1) M_X9_readPairs [.ref (G.2.1 k), .ref (G.2.1 a1), .int a2] h Q := by
  unfold f_X9_readPairs at H
  refine am_of mf_X9_readPairs (Nat.le_of_ble_eq_true rfl) (lv0 := [(0, .ref (G.2.1 k)), (1, .ref (G.2.1 a1)), (2, .int a2)]) rfl ?_
  refine aw_aload_n dX9_readPairs_0 rfl 0 rfl ?_
  refine aw_iload_n dX9_readPairs_1 rfl 2 rfl ?_
  refine aw_bipush (v := 40) dX9_readPairs_2 (by decide) ?_
  refine aw_mmin wd_805 wd_478 wd_15 wd_479 (Nat.le_of_ble_eq_true rfl) dX9_readPairs_4 ?_
  refine aw_name (fun v13 e_v13 => ?_)
  replace H := H v13 e_v13
  refine aw_putI cf_X9 2 (by decide) rfl wd_144 rfl rfl rfl o_k dX9_readPairs_7 ?_
  refine aw_nameH (fun h14 e_h14 => ?_)
  replace H := H h14 e_h14
  refine aw_iconst (v := 0) dX9_readPairs_10 (by decide) ?_
  refine aw_istore_n (lv' := [(3, .int 0), (0, .ref (G.2.1 k)), (1, .ref (G.2.1 a1)), (2, .int a2)]) dX9_readPairs_11 rfl (by decide) rfl ?_
  refine aw_sub (lv' := [(0, .ref (G.2.1 k)), (1, .ref (G.2.1 a1)), (2, .int a2), (3, .int 0)]) [1, 2, 3, 0] rfl ?_
  obtain ⟨n1, H⟩ := H
  exact fm_X9_readPairs_12 d o_k o_a1 n1 _ _ H
set_option maxHeartbeats 4000000 in
set_option maxRecDepth 100000 in
theorem fm_X9_hasTwice_12 {l : Launch} {S : aS} {G : aG} (d : Nat) {k : Nat} {Q : Int32 → aH → Prop} (o_k : aObj S k 8 flX9) {K2 : Int32 → aH → Prop} (hK2 : ∀ (x1 : Int32) (h : aH), K2 x1 h → AW l S G d M_X9_hasTwice (va_Qi Q (aPo S G) (aA S G)) 2 [(0, .ref (G.2.1 k)), (1, .int x1)] [] h) : ∀ (n : Nat) (x1 : Int32) (x2 : Int32) (h : aH), f_X9_hasTwice_12 S k Q K2 n x1 x2 h → AW l S G d M_X9_hasTwice (va_Qi Q (aPo S G) (aA S G)) 12 [(0, .ref (G.2.1 k)), (1, .int x1), (2, .int x2)] [] h := by
  intro n
  induction n with
  | zero => intro x1 x2 h H; exact False.elim H
  | succ n ih =>
    intro x1 x2 h H
    unfold f_X9_hasTwice_12 at H
    refine aw_iload_n dX9_hasTwice_12 rfl 2 rfl ?_
    refine aw_iload_n dX9_hasTwice_13 rfl 1 rfl ?_
    refine aw_icmp_ge (tgt := 40) dX9_hasTwice_14 (by decide) (fun c1 => ?_) (fun c1 => ?_)
    · replace H := a_pos c1 H
      obtain ⟨x1_2, e_x1_2⟩ : ∃ y : Int32, y = x1 + 1 := ⟨_, rfl⟩
      replace H := H x1_2 e_x1_2
      refine aw_iinc (v := x1_2) (lv' := [(1, .int x1_2), (0, .ref (G.2.1 k)), (2, .int x2)]) dX9_hasTwice_40 (n0 := 1) rfl (by rw [e_x1_2]; rfl) (by decide) rfl ?_
      refine aw_goto (tgt := 2) dX9_hasTwice_43 (by decide) ?_
      refine aw_sub (lv' := [(0, .ref (G.2.1 k)), (1, .int x1_2)]) [1, 0] rfl ?_
      exact hK2 _ _ H
    · replace H := a_neg c1 H
      refine aw_aload_n dX9_hasTwice_17 rfl 0 rfl ?_
      refine aw_getR cf_X9 0 (by decide) rfl wd_138 o_k dX9_hasTwice_18 ?_
      refine aw_iload_n dX9_hasTwice_21 rfl 1 rfl ?_
      obtain ⟨z3, H⟩ := H
      refine aw_iaload z3 dX9_hasTwice_22 ?_
      refine aw_name (fun v4 e_v4 => ?_)
      replace H := H v4 e_v4
      refine aw_aload_n dX9_hasTwice_23 rfl 0 rfl ?_
      refine aw_getR cf_X9 0 (by decide) rfl wd_138 o_k dX9_hasTwice_24 ?_
      refine aw_iload_n dX9_hasTwice_27 rfl 2 rfl ?_
      obtain ⟨z5, H⟩ := H
      refine aw_iaload z5 dX9_hasTwice_28 ?_
      refine aw_name (fun v6 e_v6 => ?_)
      replace H := H v6 e_v6
      refine aw_icmp_ne (tgt := 34) dX9_hasTwice_29 (by decide) (fun c7 => ?_) (fun c7 => ?_)
      · replace H := a_pos c7 H
        obtain ⟨x2_8, e_x2_8⟩ : ∃ y : Int32, y = x2 + 1 := ⟨_, rfl⟩
        replace H := H x2_8 e_x2_8
        refine aw_iinc (v := x2_8) (lv' := [(2, .int x2_8), (0, .ref (G.2.1 k)), (1, .int x1)]) dX9_hasTwice_34 (n0 := 2) rfl (by rw [e_x2_8]; rfl) (by decide) rfl ?_
        refine aw_goto (tgt := 12) dX9_hasTwice_37 (by decide) ?_
        refine aw_sub (lv' := [(0, .ref (G.2.1 k)), (1, .int x1), (2, .int x2_8)]) [1, 2, 0] rfl ?_
        exact ih _ _ _ H
      · replace H := a_neg2 c7 H
        refine aw_iconst (v := 1) dX9_hasTwice_32 (by decide) ?_
        exact aw_zret rfl rfl H dX9_hasTwice_33
set_option maxHeartbeats 4000000 in
set_option maxRecDepth 100000 in
theorem fm_X9_hasTwice_2 {l : Launch} {S : aS} {G : aG} (d : Nat) {k : Nat} {Q : Int32 → aH → Prop} (o_k : aObj S k 8 flX9) : ∀ (n : Nat) (x1 : Int32) (h : aH), f_X9_hasTwice_2 S k Q n x1 h → AW l S G d M_X9_hasTwice (va_Qi Q (aPo S G) (aA S G)) 2 [(0, .ref (G.2.1 k)), (1, .int x1)] [] h := by
  intro n
  induction n with
  | zero => intro x1 h H; exact False.elim H
  | succ n ih =>
    intro x1 h H
    unfold f_X9_hasTwice_2 at H
    refine aw_iload_n dX9_hasTwice_2 rfl 1 rfl ?_
    refine aw_aload_n dX9_hasTwice_3 rfl 0 rfl ?_
    refine aw_getI cf_X9 2 (by decide) rfl wd_144 o_k dX9_hasTwice_4 ?_
    refine aw_name (fun v9 e_v9 => ?_)
    replace H := H v9 e_v9
    refine aw_icmp_ge (tgt := 46) dX9_hasTwice_7 (by decide) (fun c10 => ?_) (fun c10 => ?_)
    · replace H := a_pos c10 H
      refine aw_iconst (v := 0) dX9_hasTwice_46 (by decide) ?_
      exact aw_zret rfl rfl H dX9_hasTwice_47
    · replace H := a_neg c10 H
      refine aw_iconst (v := 0) dX9_hasTwice_10 (by decide) ?_
      refine aw_istore_n (lv' := [(2, .int 0), (0, .ref (G.2.1 k)), (1, .int x1)]) dX9_hasTwice_11 rfl (by decide) rfl ?_
      refine aw_sub (lv' := [(0, .ref (G.2.1 k)), (1, .int x1), (2, .int 0)]) [1, 2, 0] rfl ?_
      obtain ⟨n1, H⟩ := H
      exact fm_X9_hasTwice_12 d o_k ih n1 _ _ _ H
set_option maxHeartbeats 4000000 in
set_option maxRecDepth 100000 in
theorem am_X9_hasTwice {l : Launch} {S : aS} {G : aG} (d : Nat) {k : Nat} {h : aH} {Q : Int32 → aH → Prop} (o_k : aObj S k 8 flX9) (H : f_X9_hasTwice S k h Q) : AMi l S G d M_X9_hasTwice [.ref (G.2.1 k)] h Q := by
  unfold f_X9_hasTwice at H
  refine am_of mf_X9_hasTwice (Nat.le_of_ble_eq_true rfl) (lv0 := [(0, .ref (G.2.1 k))]) rfl ?_
  refine aw_iconst (v := 1) dX9_hasTwice_0 (by decide) ?_
  refine aw_istore_n (lv' := [(1, .int 1), (0, .ref (G.2.1 k))]) dX9_hasTwice_1 rfl (by decide) rfl ?_
  refine aw_sub (lv' := [(0, .ref (G.2.1 k)), (1, .int 1)]) [1, 0] rfl ?_
  obtain ⟨n1, H⟩ := H
  exact fm_X9_hasTwice_2 d o_k n1 _ _ H
set_option maxHeartbeats 4000000 in
set_option maxRecDepth 100000 in
theorem fm_X9_allFirm_2 {l : Launch} {S : aS} {G : aG} (d : Nat) {k : Nat} {a1 : Nat} {Q : Int32 → aH → Prop} (o_k : aObj S k 8 flX9) (o_a1 : aObj S a1 1 flX2) : ∀ (n : Nat) (x2 : Int32) (h : aH), f_X9_allFirm_2 S k a1 Q n x2 h → AW l S G (d + 2) M_X9_allFirm (va_Qi Q (aPo S G) (aA S G)) 2 [(0, .ref (G.2.1 k)), (1, .ref (G.2.1 a1)), (2, .int x2)] [] h := by
  intro n
  induction n with
  | zero => intro x2 h H; exact False.elim H
  | succ n ih =>
    intro x2 h H
    unfold f_X9_allFirm_2 at H
    refine aw_iload_n dX9_allFirm_2 rfl 2 rfl ?_
    refine aw_aload_n dX9_allFirm_3 rfl 0 rfl ?_
    refine aw_getI cf_X9 2 (by decide) rfl wd_144 o_k dX9_allFirm_4 ?_
    refine aw_name (fun v1 e_v1 => ?_)
    replace H := H v1 e_v1
    refine aw_icmp_ge (tgt := 31) dX9_allFirm_7 (by decide) (fun c2 => ?_) (fun c2 => ?_)
    · replace H := a_pos c2 H
      refine aw_iconst (v := 1) dX9_allFirm_31 (by decide) ?_
      exact aw_zret rfl rfl H dX9_allFirm_32
    · replace H := a_neg c2 H
      refine aw_aload_n dX9_allFirm_10 rfl 1 rfl ?_
      refine aw_aload_n dX9_allFirm_11 rfl 0 rfl ?_
      refine aw_getR cf_X9 0 (by decide) rfl wd_138 o_k dX9_allFirm_12 ?_
      refine aw_iload_n dX9_allFirm_15 rfl 2 rfl ?_
      obtain ⟨z3, H⟩ := H
      refine aw_iaload z3 dX9_allFirm_16 ?_
      refine aw_name (fun v4 e_v4 => ?_)
      replace H := H v4 e_v4
      refine aw_callV_i (As := [.int v4]) (rest := []) (am_X2_isFirm d o_a1 H) mf_X2_isFirm wd_954 wd_562 wd_563 cf_X2 o_a1 rfl rfl (Nat.le_of_ble_eq_true rfl) dX9_allFirm_17 (fun r6 h5 H => ?_)
      refine aw_if_ne (tgt := 25) dX9_allFirm_20 (by decide) (fun c7 => ?_) (fun c7 => ?_)
      · replace H := a_pos c7 H
        obtain ⟨x2_8, e_x2_8⟩ : ∃ y : Int32, y = x2 + 1 := ⟨_, rfl⟩
        replace H := H x2_8 e_x2_8
        refine aw_iinc (v := x2_8) (lv' := [(2, .int x2_8), (0, .ref (G.2.1 k)), (1, .ref (G.2.1 a1))]) dX9_allFirm_25 (n0 := 2) rfl (by rw [e_x2_8]; rfl) (by decide) rfl ?_
        refine aw_goto (tgt := 2) dX9_allFirm_28 (by decide) ?_
        refine aw_sub (lv' := [(0, .ref (G.2.1 k)), (1, .ref (G.2.1 a1)), (2, .int x2_8)]) [1, 2, 0] rfl ?_
        exact ih _ _ H
      · replace H := a_neg2 c7 H
        refine aw_iconst (v := 0) dX9_allFirm_23 (by decide) ?_
        exact aw_zret rfl rfl H dX9_allFirm_24
set_option maxHeartbeats 4000000 in
set_option maxRecDepth 100000 in
theorem am_X9_allFirm {l : Launch} {S : aS} {G : aG} (d : Nat) {k : Nat} {a1 : Nat} {h : aH} {Q : Int32 → aH → Prop} (o_k : aObj S k 8 flX9) (o_a1 : aObj S a1 1 flX2) (H : f_X9_allFirm S k a1 h Q) : AMi l S G (d + 2) M_X9_allFirm [.ref (G.2.1 k), .ref (G.2.1 a1)] h Q := by
  unfold f_X9_allFirm at H
  refine am_of mf_X9_allFirm (Nat.le_of_ble_eq_true rfl) (lv0 := [(0, .ref (G.2.1 k)), (1, .ref (G.2.1 a1))]) rfl ?_
  refine aw_iconst (v := 0) dX9_allFirm_0 (by decide) ?_
  refine aw_istore_n (lv' := [(2, .int 0), (0, .ref (G.2.1 k)), (1, .ref (G.2.1 a1))]) dX9_allFirm_1 rfl (by decide) rfl ?_
  refine aw_sub (lv' := [(0, .ref (G.2.1 k)), (1, .ref (G.2.1 a1)), (2, .int 0)]) [1, 2, 0] rfl ?_
  obtain ⟨n1, H⟩ := H
  exact fm_X9_allFirm_2 d o_k o_a1 n1 _ _ H
set_option maxHeartbeats 4000000 in
set_option maxRecDepth 100000 in
theorem am_X10_within {l : Launch} {S : aS} {G : aG} (d : Nat) {a0 : Int32} {a1 : Int32} {a2 : Int32} {h : aH} {Q : Int32 → aH → Prop} (H : f_X10_within S a0 a1 a2 h Q) : AMi l S G d M_X10_within [.int a0, .int a1, .int a2] h Q := by
  unfold f_X10_within at H
  refine am_of mf_X10_within (Nat.le_of_ble_eq_true rfl) (lv0 := [(0, .int a0), (1, .int a1), (2, .int a2)]) rfl ?_
  refine aw_iload_n dX10_within_0 rfl 0 rfl ?_
  refine aw_iload_n dX10_within_1 rfl 1 rfl ?_
  refine aw_icmp_lt (tgt := 14) dX10_within_2 (by decide) (fun c1 => ?_) (fun c1 => ?_)
  · replace H := a_pos c1 H
    refine aw_iconst (v := 0) dX10_within_14 (by decide) ?_
    exact aw_zret rfl rfl H dX10_within_15
  · replace H := a_neg c1 H
    refine aw_iload_n dX10_within_5 rfl 0 rfl ?_
    refine aw_iload_n dX10_within_6 rfl 2 rfl ?_
    refine aw_icmp_gt (tgt := 14) dX10_within_7 (by decide) (fun c2 => ?_) (fun c2 => ?_)
    · replace H := a_pos c2 H
      refine aw_iconst (v := 0) dX10_within_14 (by decide) ?_
      exact aw_zret rfl rfl H dX10_within_15
    · replace H := a_neg c2 H
      refine aw_iconst (v := 1) dX10_within_10 (by decide) ?_
      refine aw_goto (tgt := 15) dX10_within_11 (by decide) ?_
      exact aw_zret rfl rfl H dX10_within_15
set_option maxHeartbeats 4000000 in
set_option maxRecDepth 100000 in
theorem am_X10_ice {l : Launch} {S : aS} {G : aG} (d : Nat) {k : Nat} {a1 : Int32} {a2 : Int32} {a3 : Int32} {h : aH} {Q : Int32 → aH → Prop} (o_k : aObj S k 9 flX10) (H : f_X10_ice S k a1 a2 a3 h Q) : AMi l S G (d + 5) M_X10_ice [.ref (G.2.1 k), .int a1, .int a2, .int a3] h Q := by
  unfold f_X10_ice at H
  refine am_of mf_X10_ice (Nat.le_of_ble_eq_true rfl) (lv0 := [(0, .ref (G.2.1 k)), (1, .int a1), (2, .int a2), (3, .int a3)]) rfl ?_
  refine aw_iload_n dX10_ice_0 rfl 1 rfl ?_
  refine aw_iload_n dX10_ice_1 rfl 2 rfl ?_
  refine aw_callS_i (As := [.int a1, .int a2]) (rest := []) (am_X1_has (d + 4) H) mf_X1_has wd_339 wd_340 rfl rfl (Nat.le_of_ble_eq_true rfl) dX10_ice_2 (fun r2 h1 H => ?_)
  refine aw_if_eq (tgt := 18) dX10_ice_5 (by decide) (fun c3 => ?_) (fun c3 => ?_)
  · replace H := a_pos c3 H
    refine aw_iconst (v := 0) dX10_ice_18 (by decide) ?_
    exact aw_zret rfl rfl H dX10_ice_19
  · replace H := a_neg c3 H
    refine aw_iload_n dX10_ice_8 rfl 3 rfl ?_
    refine aw_iconst (v := 0) dX10_ice_9 (by decide) ?_
    refine aw_bipush (v := 99) dX10_ice_10 (by decide) ?_
    refine aw_callS_i (As := [.int a3, .int 0, .int 99]) (rest := []) (am_X10_within (d + 4) H) mf_X10_within wd_342 wd_343 rfl rfl (Nat.le_of_ble_eq_true rfl) dX10_ice_12 (fun r5 h4 H => ?_)
    refine aw_if_ne (tgt := 20) dX10_ice_15 (by decide) (fun c6 => ?_) (fun c6 => ?_)
    · replace H := a_pos c6 H
      refine aw_iload_n dX10_ice_20 rfl 1 rfl ?_
      refine aw_iload_n dX10_ice_21 rfl 2 rfl ?_
      refine aw_callS_i (As := [.int a1, .int a2]) (rest := []) (am_X1_at (d + 4) H) mf_X1_at wd_345 wd_346 rfl rfl (Nat.le_of_ble_eq_true rfl) dX10_ice_22 (fun r8 h7 H => ?_)
      refine aw_istore (lv' := [(4, .int r8), (0, .ref (G.2.1 k)), (1, .int a1), (2, .int a2), (3, .int a3)]) dX10_ice_25 (by decide) rfl ?_
      refine aw_aload_n dX10_ice_27 rfl 1 rfl ?_
      refine aw_getR cf_X10 0 (by decide) rfl wd_301 o_k dX10_ice_28 ?_
      refine aw_iload dX10_ice_31 0 rfl ?_
      obtain ⟨o9, H⟩ := H
      refine aw_callV_v (As := [.int r8]) (rest := []) (am_X2_mend d o9 H) mf_X2_mend wd_348 wd_349 wd_350 cf_X2 o9 rfl rfl (Nat.le_of_ble_eq_true rfl) dX10_ice_33 (fun h10 H => ?_)
      refine aw_aload_n dX10_ice_36 rfl 1 rfl ?_
      refine aw_getR cf_X10 0 (by decide) rfl wd_301 o_k dX10_ice_37 ?_
      obtain ⟨o11, H⟩ := H
      refine aw_getR cf_X2 0 (by decide) rfl wd_36 o11 dX10_ice_40 ?_
      refine aw_iload dX10_ice_43 0 rfl ?_
      refine aw_iload_n dX10_ice_45 rfl 4 rfl ?_
      obtain ⟨z12, H⟩ := H
      refine aw_iastore z12 dX10_ice_46 ?_
      refine aw_nameH (fun h13 e_h13 => ?_)
      replace H := H h13 e_h13
      refine aw_iconst (v := 1) dX10_ice_47 (by decide) ?_
      exact aw_zret rfl rfl H dX10_ice_48
    · replace H := a_neg2 c6 H
      refine aw_iconst (v := 0) dX10_ice_18 (by decide) ?_
      exact aw_zret rfl rfl H dX10_ice_19
set_option maxHeartbeats 4000000 in
set_option maxRecDepth 100000 in
theorem am_X10_feed {l : Launch} {S : aS} {G : aG} (d : Nat) {k : Nat} {a1 : Int32} {a2 : Int32} {a3 : Int32} {a4 : Int32} {a5 : Int32} {h : aH} {Q : Int32 → aH → Prop} (o_k : aObj S k 9 flX10) (H : f_X10_feed S k a1 a2 a3 a4 a5 h Q) : AMi l S G (d + 1) M_X10_feed [.ref (G.2.1 k), .int a1, .int a2, .int a3, .int a4, .int a5] h Q := by
  unfold f_X10_feed at H
  refine am_of mf_X10_feed (Nat.le_of_ble_eq_true rfl) (lv0 := [(0, .ref (G.2.1 k)), (1, .int a1), (2, .int a2), (3, .int a3), (4, .int a4), (5, .int a5)]) rfl ?_
  refine aw_aload_n dX10_feed_0 rfl 0 rfl ?_
  refine aw_getR cf_X10 3 (by decide) rfl wd_304 o_k dX10_feed_1 ?_
  obtain ⟨o1, H⟩ := H
  refine aw_getI cf_X8 1 (by decide) rfl wd_126 o1 dX10_feed_4 ?_
  refine aw_name (fun v2 e_v2 => ?_)
  replace H := H v2 e_v2
  refine aw_bipush (v := 20) dX10_feed_7 (by decide) ?_
  refine aw_iadd dX10_feed_9 ?_
  refine aw_sipush (v := 220) dX10_feed_10 (by decide) ?_
  refine aw_icmp_le (tgt := 18) dX10_feed_13 (by decide) (fun c3 => ?_) (fun c3 => ?_)
  · replace H := a_pos c3 H
    refine aw_aload_n dX10_feed_18 rfl 0 rfl ?_
    refine aw_getR cf_X10 3 (by decide) rfl wd_304 o_k dX10_feed_19 ?_
    refine aw_iload_n dX10_feed_22 rfl 1 rfl ?_
    refine aw_callV_v (As := [.int a1]) (rest := []) (am_X8_putInt d o1 H) mf_X8_putInt wd_382 wd_383 wd_384 cf_X8 o1 rfl rfl (Nat.le_of_ble_eq_true rfl) dX10_feed_23 (fun h4 H => ?_)
    refine aw_aload_n dX10_feed_26 rfl 0 rfl ?_
    refine aw_getR cf_X10 3 (by decide) rfl wd_304 o_k dX10_feed_27 ?_
    refine aw_iload_n dX10_feed_30 rfl 2 rfl ?_
    obtain ⟨o5, H⟩ := H
    refine aw_callV_v (As := [.int a2]) (rest := []) (am_X8_putInt d o5 H) mf_X8_putInt wd_382 wd_383 wd_384 cf_X8 o5 rfl rfl (Nat.le_of_ble_eq_true rfl) dX10_feed_31 (fun h6 H => ?_)
    refine aw_aload_n dX10_feed_34 rfl 0 rfl ?_
    refine aw_getR cf_X10 3 (by decide) rfl wd_304 o_k dX10_feed_35 ?_
    refine aw_iload_n dX10_feed_38 rfl 3 rfl ?_
    obtain ⟨o7, H⟩ := H
    refine aw_callV_v (As := [.int a3]) (rest := []) (am_X8_putInt d o7 H) mf_X8_putInt wd_382 wd_383 wd_384 cf_X8 o7 rfl rfl (Nat.le_of_ble_eq_true rfl) dX10_feed_39 (fun h8 H => ?_)
    refine aw_aload_n dX10_feed_42 rfl 0 rfl ?_
    refine aw_getR cf_X10 3 (by decide) rfl wd_304 o_k dX10_feed_43 ?_
    refine aw_iload dX10_feed_46 4 rfl ?_
    obtain ⟨o9, H⟩ := H
    refine aw_callV_v (As := [.int a4]) (rest := []) (am_X8_putInt d o9 H) mf_X8_putInt wd_382 wd_383 wd_384 cf_X8 o9 rfl rfl (Nat.le_of_ble_eq_true rfl) dX10_feed_48 (fun h10 H => ?_)
    refine aw_aload_n dX10_feed_51 rfl 0 rfl ?_
    refine aw_getR cf_X10 3 (by decide) rfl wd_304 o_k dX10_feed_52 ?_
    refine aw_iload dX10_feed_55 5 rfl ?_
    obtain ⟨o11, H⟩ := H
    refine aw_callV_v (As := [.int a5]) (rest := []) (am_X8_putInt d o11 H) mf_X8_putInt wd_382 wd_383 wd_384 cf_X8 o11 rfl rfl (Nat.le_of_ble_eq_true rfl) dX10_feed_57 (fun h12 H => ?_)
    refine aw_aload_n dX10_feed_60 rfl 0 rfl ?_
    refine aw_getR cf_X10 3 (by decide) rfl wd_304 o_k dX10_feed_61 ?_
    obtain ⟨o13, H⟩ := H
    refine aw_getI cf_X8 1 (by decide) rfl wd_126 o13 dX10_feed_64 ?_
    refine aw_name (fun v14 e_v14 => ?_)
    replace H := H v14 e_v14
    exact aw_iret rfl H dX10_feed_67
  · replace H := a_neg c3 H
    refine aw_iconst (v := (-1)) dX10_feed_16 (by decide) ?_
    exact aw_iret rfl H dX10_feed_17
set_option maxHeartbeats 4000000 in
set_option maxRecDepth 100000 in
theorem am_X10_law {l : Launch} {S : aS} {G : aG} (d : Nat) {k : Nat} {a1 : Int32} {h : aH} {Q : Int32 → aH → Prop} {F_X4_read : Nat → Int32 → aH → (Int32 → aH → Prop) → Prop} (hF_X4_read : ∀ {k : Nat} {a1 : Int32} {h : aH} {Q : Int32 → aH → Prop}, aObj S k 3 flX4 → F_X4_read k a1 h Q → AMi l S G d M_X4_read [.ref (G.2.1 k), .int a1] h Q) (o_k : aObj S k 9 flX10) (H : f_X10_law F_X4_read S k a1 h Q) : AMi l S G (d + 1) M_X10_law [.ref (G.2.1 k), .int a1] h Q := by
  unfold f_X10_law at H
  refine am_of mf_X10_law (Nat.le_of_ble_eq_true rfl) (lv0 := [(0, .ref (G.2.1 k)), (1, .int a1)]) rfl ?_
  refine aw_iload_n dX10_law_0 rfl 1 rfl ?_
  refine aw_iconst (v := 1) dX10_law_1 (by decide) ?_
  refine aw_sipush (v := 200) dX10_law_2 (by decide) ?_
  refine aw_callS_i (As := [.int a1, .int 1, .int 200]) (rest := []) (am_X10_within d H) mf_X10_within wd_342 wd_343 rfl rfl (Nat.le_of_ble_eq_true rfl) dX10_law_5 (fun r2 h1 H => ?_)
  refine aw_if_eq (tgt := 22) dX10_law_8 (by decide) (fun c3 => ?_) (fun c3 => ?_)
  · replace H := a_pos c3 H
    refine aw_iconst (v := (-1)) dX10_law_22 (by decide) ?_
    exact aw_iret rfl H dX10_law_23
  · replace H := a_neg c3 H
    refine aw_iload_n dX10_law_11 rfl 1 rfl ?_
    refine aw_aload_n dX10_law_12 rfl 0 rfl ?_
    refine aw_getR cf_X10 3 (by decide) rfl wd_304 o_k dX10_law_13 ?_
    obtain ⟨o4, H⟩ := H
    refine aw_getI cf_X8 1 (by decide) rfl wd_126 o4 dX10_law_16 ?_
    refine aw_name (fun v5 e_v5 => ?_)
    replace H := H v5 e_v5
    refine aw_icmp_le (tgt := 24) dX10_law_19 (by decide) (fun c6 => ?_) (fun c6 => ?_)
    · replace H := a_pos c6 H
      refine aw_aload_n dX10_law_24 rfl 0 rfl ?_
      refine aw_getR cf_X10 6 (by decide) rfl wd_307 o_k dX10_law_25 ?_
      refine aw_iload_n dX10_law_28 rfl 1 rfl ?_
      obtain ⟨o7, H⟩ := H
      refine aw_callV_i (As := [.int a1]) (rest := []) (hF_X4_read o7 H) mf_X4_read wd_390 wd_391 wd_392 cf_X4 o7 rfl rfl (Nat.le_of_ble_eq_true rfl) dX10_law_29 (fun r9 h8 H => ?_)
      refine aw_istore_n (lv' := [(2, .int r9), (0, .ref (G.2.1 k)), (1, .int a1)]) dX10_law_32 rfl (by decide) rfl ?_
      refine aw_aload_n dX10_law_33 rfl 1 rfl ?_
      refine aw_getR cf_X10 3 (by decide) rfl wd_304 o_k dX10_law_34 ?_
      refine aw_iconst (v := 0) dX10_law_37 (by decide) ?_
      obtain ⟨o10, H⟩ := H
      refine aw_putI cf_X8 1 (by decide) rfl wd_126 rfl rfl rfl o10 dX10_law_38 ?_
      refine aw_nameH (fun h11 e_h11 => ?_)
      replace H := H h11 e_h11
      refine aw_iload_n dX10_law_41 rfl 0 rfl ?_
      refine aw_if_eq (tgt := 47) dX10_law_42 (by decide) (fun c12 => ?_) (fun c12 => ?_)
      · replace H := a_pos c12 H
        refine aw_aload_n dX10_law_47 rfl 1 rfl ?_
        refine aw_getR cf_X10 5 (by decide) rfl wd_306 o_k dX10_law_48 ?_
        refine aw_aload_n dX10_law_51 rfl 1 rfl ?_
        refine aw_getR cf_X10 6 (by decide) rfl wd_307 o_k dX10_law_52 ?_
        refine aw_aload_n dX10_law_55 rfl 1 rfl ?_
        refine aw_getR cf_X10 5 (by decide) rfl wd_306 o_k dX10_law_56 ?_
        obtain ⟨o13, H⟩ := H
        refine aw_getR cf_X5 0 (by decide) rfl wd_200 o13 dX10_law_59 ?_
        obtain ⟨o14, H⟩ := H
        obtain ⟨o15, H⟩ := H
        refine aw_callV_r (As := [.ref (G.2.1 (gR h11 (gR h11 k 5) 0))]) (rest := [.ref (G.2.1 (gR h11 k 5))]) (am_X4_handOver d o14 o15 H) mf_X4_handOver wd_548 wd_549 wd_550 cf_X4 o14 rfl rfl (Nat.le_of_ble_eq_true rfl) dX10_law_62 (fun r17 h16 H => ?_)
        refine aw_putR cf_X5 0 (by decide) rfl wd_200 rfl rfl rfl o13 dX10_law_65 ?_
        refine aw_nameH (fun h18 e_h18 => ?_)
        replace H := H h18 e_h18
        refine aw_aload_n dX10_law_68 rfl 1 rfl ?_
        refine aw_getR cf_X10 5 (by decide) rfl wd_306 o_k dX10_law_69 ?_
        obtain ⟨o19, H⟩ := H
        refine aw_getR cf_X5 0 (by decide) rfl wd_200 o19 dX10_law_72 ?_
        obtain ⟨o20, H⟩ := H
        refine aw_getI cf_X3 6 (by decide) rfl wd_174 o20 dX10_law_75 ?_
        refine aw_name (fun v21 e_v21 => ?_)
        replace H := H v21 e_v21
        exact aw_iret rfl H dX10_law_78
      · replace H := a_neg c12 H
        refine aw_iload_n dX10_law_45 rfl 0 rfl ?_
        exact aw_iret rfl H dX10_law_46
    · replace H := a_neg c6 H
      refine aw_iconst (v := (-1)) dX10_law_22 (by decide) ?_
      exact aw_iret rfl H dX10_law_23
set_option maxHeartbeats 4000000 in
set_option maxRecDepth 100000 in
theorem am_X10_cut {l : Launch} {S : aS} {G : aG} (d : Nat) {k : Nat} {a1 : Int32} {a2 : Int32} {a3 : Int32} {a4 : Int32} {a5 : Int32} {a6 : Int32} {h : aH} {Q : Int32 → aH → Prop} (o_k : aObj S k 9 flX10) (H : f_X10_cut S k a1 a2 a3 a4 a5 a6 h Q) : AMi l S G (d + 5) M_X10_cut [.ref (G.2.1 k), .int a1, .int a2, .int a3, .int a4, .int a5, .int a6] h Q := by
  unfold f_X10_cut at H
  refine am_of mf_X10_cut (Nat.le_of_ble_eq_true rfl) (lv0 := [(0, .ref (G.2.1 k)), (1, .int a1), (2, .int a2), (3, .int a3), (4, .int a4), (5, .int a5), (6, .int a6)]) rfl ?_
  refine aw_iload_n dX10_cut_0 rfl 1 rfl ?_
  refine aw_iload_n dX10_cut_1 rfl 2 rfl ?_
  refine aw_callS_i (As := [.int a1, .int a2]) (rest := []) (am_X1_has (d + 4) H) mf_X1_has wd_339 wd_340 rfl rfl (Nat.le_of_ble_eq_true rfl) dX10_cut_2 (fun r2 h1 H => ?_)
  refine aw_if_eq (tgt := 50) dX10_cut_5 (by decide) (fun c3 => ?_) (fun c3 => ?_)
  · replace H := a_pos c3 H
    refine aw_iconst (v := (-1)) dX10_cut_50 (by decide) ?_
    exact aw_iret rfl H dX10_cut_51
  · replace H := a_neg c3 H
    refine aw_iload_n dX10_cut_8 rfl 3 rfl ?_
    refine aw_iconst (v := 0) dX10_cut_9 (by decide) ?_
    refine aw_iconst (v := 4) dX10_cut_10 (by decide) ?_
    refine aw_callS_i (As := [.int a3, .int 0, .int 4]) (rest := []) (am_X10_within (d + 4) H) mf_X10_within wd_342 wd_343 rfl rfl (Nat.le_of_ble_eq_true rfl) dX10_cut_11 (fun r5 h4 H => ?_)
    refine aw_if_eq (tgt := 50) dX10_cut_14 (by decide) (fun c6 => ?_) (fun c6 => ?_)
    · replace H := a_pos c6 H
      refine aw_iconst (v := (-1)) dX10_cut_50 (by decide) ?_
      exact aw_iret rfl H dX10_cut_51
    · replace H := a_neg c6 H
      refine aw_iload dX10_cut_17 4 rfl ?_
      refine aw_iconst (v := 0) dX10_cut_19 (by decide) ?_
      refine aw_bipush (v := 9) dX10_cut_20 (by decide) ?_
      refine aw_callS_i (As := [.int a4, .int 0, .int 9]) (rest := []) (am_X10_within (d + 4) H) mf_X10_within wd_342 wd_343 rfl rfl (Nat.le_of_ble_eq_true rfl) dX10_cut_22 (fun r8 h7 H => ?_)
      refine aw_if_eq (tgt := 50) dX10_cut_25 (by decide) (fun c9 => ?_) (fun c9 => ?_)
      · replace H := a_pos c9 H
        refine aw_iconst (v := (-1)) dX10_cut_50 (by decide) ?_
        exact aw_iret rfl H dX10_cut_51
      · replace H := a_neg c9 H
        refine aw_iload dX10_cut_28 5 rfl ?_
        refine aw_iconst (v := 0) dX10_cut_30 (by decide) ?_
        refine aw_bipush (v := 9) dX10_cut_31 (by decide) ?_
        refine aw_callS_i (As := [.int a5, .int 0, .int 9]) (rest := []) (am_X10_within (d + 4) H) mf_X10_within wd_342 wd_343 rfl rfl (Nat.le_of_ble_eq_true rfl) dX10_cut_33 (fun r11 h10 H => ?_)
        refine aw_if_eq (tgt := 50) dX10_cut_36 (by decide) (fun c12 => ?_) (fun c12 => ?_)
        · replace H := a_pos c12 H
          refine aw_iconst (v := (-1)) dX10_cut_50 (by decide) ?_
          exact aw_iret rfl H dX10_cut_51
        · replace H := a_neg c12 H
          refine aw_iload dX10_cut_39 6 rfl ?_
          refine aw_iconst (v := 0) dX10_cut_41 (by decide) ?_
          refine aw_bipush (v := 9) dX10_cut_42 (by decide) ?_
          refine aw_callS_i (As := [.int a6, .int 0, .int 9]) (rest := []) (am_X10_within (d + 4) H) mf_X10_within wd_342 wd_343 rfl rfl (Nat.le_of_ble_eq_true rfl) dX10_cut_44 (fun r14 h13 H => ?_)
          refine aw_if_ne (tgt := 52) dX10_cut_47 (by decide) (fun c15 => ?_) (fun c15 => ?_)
          · replace H := a_pos c15 H
            refine aw_iload_n dX10_cut_52 rfl 1 rfl ?_
            refine aw_iload_n dX10_cut_53 rfl 2 rfl ?_
            refine aw_callS_i (As := [.int a1, .int a2]) (rest := []) (am_X1_at (d + 4) H) mf_X1_at wd_345 wd_346 rfl rfl (Nat.le_of_ble_eq_true rfl) dX10_cut_54 (fun r17 h16 H => ?_)
            refine aw_istore (lv' := [(7, .int r17), (0, .ref (G.2.1 k)), (1, .int a1), (2, .int a2), (3, .int a3), (4, .int a4), (5, .int a5), (6, .int a6)]) dX10_cut_57 (by decide) rfl ?_
            refine aw_aload_n dX10_cut_59 rfl 1 rfl ?_
            refine aw_getR cf_X10 0 (by decide) rfl wd_301 o_k dX10_cut_60 ?_
            obtain ⟨o18, H⟩ := H
            refine aw_getI cf_X2 9 (by decide) rfl wd_67 o18 dX10_cut_63 ?_
            refine aw_name (fun v19 e_v19 => ?_)
            replace H := H v19 e_v19
            refine aw_bipush (v := 12) dX10_cut_66 (by decide) ?_
            refine aw_icmp_ge (tgt := 83) dX10_cut_68 (by decide) (fun c20 => ?_) (fun c20 => ?_)
            · replace H := a_pos c20 H
              refine aw_iconst (v := (-1)) dX10_cut_83 (by decide) ?_
              exact aw_iret rfl H dX10_cut_84
            · replace H := a_neg c20 H
              refine aw_aload_n dX10_cut_71 rfl 1 rfl ?_
              refine aw_getR cf_X10 0 (by decide) rfl wd_301 o_k dX10_cut_72 ?_
              refine aw_iload dX10_cut_75 0 rfl ?_
              refine aw_callV_i (As := [.int r17]) (rest := []) (am_X2_isFree (d + 2) o18 H) mf_X2_isFree wd_557 wd_558 wd_559 cf_X2 o18 rfl rfl (Nat.le_of_ble_eq_true rfl) dX10_cut_77 (fun r22 h21 H => ?_)
              refine aw_if_ne (tgt := 85) dX10_cut_80 (by decide) (fun c23 => ?_) (fun c23 => ?_)
              · replace H := a_pos c23 H
                refine aw_aload_n dX10_cut_85 rfl 1 rfl ?_
                refine aw_getR cf_X10 5 (by decide) rfl wd_306 o_k dX10_cut_86 ?_
                refine aw_aload_n dX10_cut_89 rfl 1 rfl ?_
                refine aw_getR cf_X10 0 (by decide) rfl wd_301 o_k dX10_cut_90 ?_
                refine aw_iload dX10_cut_93 0 rfl ?_
                refine aw_iload_n dX10_cut_95 rfl 4 rfl ?_
                obtain ⟨o24, H⟩ := H
                obtain ⟨o25, H⟩ := H
                refine aw_callV_i (As := [.ref (G.2.1 (gR h21 k 0)), .int r17, .int a3]) (rest := []) (am_X5_allows (d + 1) o24 o25 H) mf_X5_allows wd_572 wd_573 wd_574 cf_X5 o24 rfl rfl (Nat.le_of_ble_eq_true rfl) dX10_cut_96 (fun r27 h26 H => ?_)
                refine aw_if_ne (tgt := 105) dX10_cut_99 (by decide) (fun c28 => ?_) (fun c28 => ?_)
                · replace H := a_pos c28 H
                  refine aw_aload_n dX10_cut_105 rfl 1 rfl ?_
                  refine aw_getR cf_X10 0 (by decide) rfl wd_301 o_k dX10_cut_106 ?_
                  refine aw_iload dX10_cut_109 0 rfl ?_
                  obtain ⟨o29, H⟩ := H
                  refine aw_callV_i (As := [.int r17]) (rest := []) (am_X2_makesRow (d + 1) o29 H) mf_X2_makesRow wd_600 wd_601 wd_602 cf_X2 o29 rfl rfl (Nat.le_of_ble_eq_true rfl) dX10_cut_111 (fun r31 h30 H => ?_)
                  refine aw_if_eq (tgt := 120) dX10_cut_114 (by decide) (fun c32 => ?_) (fun c32 => ?_)
                  · replace H := a_pos c32 H
                    refine aw_aload_n dX10_cut_120 rfl 1 rfl ?_
                    refine aw_getR cf_X10 0 (by decide) rfl wd_301 o_k dX10_cut_121 ?_
                    refine aw_iload dX10_cut_124 0 rfl ?_
                    refine aw_iload_n dX10_cut_126 rfl 4 rfl ?_
                    refine aw_iload dX10_cut_127 5 rfl ?_
                    refine aw_iload dX10_cut_129 6 rfl ?_
                    refine aw_iload dX10_cut_131 7 rfl ?_
                    obtain ⟨o33, H⟩ := H
                    refine aw_callV_i (As := [.int r17, .int a3, .int a4, .int a5, .int a6]) (rest := []) (am_X2_openHole d o33 H) mf_X2_openHole wd_609 wd_610 wd_611 cf_X2 o33 rfl rfl (Nat.le_of_ble_eq_true rfl) dX10_cut_133 (fun r35 h34 H => ?_)
                    exact aw_iret rfl H dX10_cut_136
                  · replace H := a_neg c32 H
                    refine aw_bipush (v := (-3)) dX10_cut_117 (by decide) ?_
                    exact aw_iret rfl H dX10_cut_119
                · replace H := a_neg2 c28 H
                  refine aw_bipush (v := (-2)) dX10_cut_102 (by decide) ?_
                  exact aw_iret rfl H dX10_cut_104
              · replace H := a_neg2 c23 H
                refine aw_iconst (v := (-1)) dX10_cut_83 (by decide) ?_
                exact aw_iret rfl H dX10_cut_84
          · replace H := a_neg2 c15 H
            refine aw_iconst (v := (-1)) dX10_cut_50 (by decide) ?_
            exact aw_iret rfl H dX10_cut_51
set_option maxHeartbeats 4000000 in
set_option maxRecDepth 100000 in
theorem am_X10_shut {l : Launch} {S : aS} {G : aG} (d : Nat) {k : Nat} {a1 : Int32} {h : aH} {Q : Int32 → aH → Prop} (o_k : aObj S k 9 flX10) (H : f_X10_shut S k a1 h Q) : AMi l S G (d + 5) M_X10_shut [.ref (G.2.1 k), .int a1] h Q := by
  unfold f_X10_shut at H
  refine am_of mf_X10_shut (Nat.le_of_ble_eq_true rfl) (lv0 := [(0, .ref (G.2.1 k)), (1, .int a1)]) rfl ?_
  refine aw_aload_n dX10_shut_0 rfl 0 rfl ?_
  refine aw_getR cf_X10 0 (by decide) rfl wd_301 o_k dX10_shut_1 ?_
  refine aw_iload_n dX10_shut_4 rfl 1 rfl ?_
  obtain ⟨o1, H⟩ := H
  refine aw_callV_i (As := [.int a1]) (rest := []) (am_X2_isOpen (d + 3) o1 H) mf_X2_isOpen wd_617 wd_618 wd_619 cf_X2 o1 rfl rfl (Nat.le_of_ble_eq_true rfl) dX10_shut_5 (fun r3 h2 H => ?_)
  refine aw_if_ne (tgt := 13) dX10_shut_8 (by decide) (fun c4 => ?_) (fun c4 => ?_)
  · replace H := a_pos c4 H
    refine aw_aload_n dX10_shut_13 rfl 0 rfl ?_
    refine aw_getR cf_X10 0 (by decide) rfl wd_301 o_k dX10_shut_14 ?_
    refine aw_iload_n dX10_shut_17 rfl 1 rfl ?_
    obtain ⟨o5, H⟩ := H
    refine aw_callV_v (As := [.int a1]) (rest := []) (am_X2_closeHole d o5 H) mf_X2_closeHole wd_625 wd_626 wd_627 cf_X2 o5 rfl rfl (Nat.le_of_ble_eq_true rfl) dX10_shut_18 (fun h6 H => ?_)
    refine aw_iconst (v := 1) dX10_shut_21 (by decide) ?_
    exact aw_zret rfl rfl H dX10_shut_22
  · replace H := a_neg2 c4 H
    refine aw_iconst (v := 0) dX10_shut_11 (by decide) ?_
    exact aw_zret rfl rfl H dX10_shut_12
set_option maxHeartbeats 4000000 in
set_option maxRecDepth 100000 in
theorem am_X10_group {l : Launch} {S : aS} {G : aG} (d : Nat) {k : Nat} {a1 : Int32} {a2 : Int32} {a3 : Int32} {h : aH} {Q : Int32 → aH → Prop} (o_k : aObj S k 9 flX10) (H : f_X10_group S k a1 a2 a3 h Q) : AMi l S G (d + 2) M_X10_group [.ref (G.2.1 k), .int a1, .int a2, .int a3] h Q := by
  unfold f_X10_group at H
  refine am_of mf_X10_group (Nat.le_of_ble_eq_true rfl) (lv0 := [(0, .ref (G.2.1 k)), (1, .int a1), (2, .int a2), (3, .int a3)]) rfl ?_
  refine aw_iload_n dX10_group_0 rfl 1 rfl ?_
  refine aw_iload_n dX10_group_1 rfl 2 rfl ?_
  refine aw_callS_i (As := [.int a1, .int a2]) (rest := []) (am_X1_has (d + 1) H) mf_X1_has wd_339 wd_340 rfl rfl (Nat.le_of_ble_eq_true rfl) dX10_group_2 (fun r2 h1 H => ?_)
  refine aw_if_eq (tgt := 18) dX10_group_5 (by decide) (fun c3 => ?_) (fun c3 => ?_)
  · replace H := a_pos c3 H
    refine aw_iconst (v := (-1)) dX10_group_18 (by decide) ?_
    exact aw_iret rfl H dX10_group_19
  · replace H := a_neg c3 H
    refine aw_iload_n dX10_group_8 rfl 3 rfl ?_
    refine aw_iconst (v := 1) dX10_group_9 (by decide) ?_
    refine aw_bipush (v := 99) dX10_group_10 (by decide) ?_
    refine aw_callS_i (As := [.int a3, .int 1, .int 99]) (rest := []) (am_X10_within (d + 1) H) mf_X10_within wd_342 wd_343 rfl rfl (Nat.le_of_ble_eq_true rfl) dX10_group_12 (fun r5 h4 H => ?_)
    refine aw_if_ne (tgt := 20) dX10_group_15 (by decide) (fun c6 => ?_) (fun c6 => ?_)
    · replace H := a_pos c6 H
      refine aw_iload_n dX10_group_20 rfl 1 rfl ?_
      refine aw_iload_n dX10_group_21 rfl 2 rfl ?_
      refine aw_callS_i (As := [.int a1, .int a2]) (rest := []) (am_X1_at (d + 1) H) mf_X1_at wd_345 wd_346 rfl rfl (Nat.le_of_ble_eq_true rfl) dX10_group_22 (fun r8 h7 H => ?_)
      refine aw_istore (lv' := [(4, .int r8), (0, .ref (G.2.1 k)), (1, .int a1), (2, .int a2), (3, .int a3)]) dX10_group_25 (by decide) rfl ?_
      refine aw_aload_n dX10_group_27 rfl 1 rfl ?_
      refine aw_getR cf_X10 0 (by decide) rfl wd_301 o_k dX10_group_28 ?_
      obtain ⟨o9, H⟩ := H
      refine aw_getI cf_X2 12 (by decide) rfl wd_77 o9 dX10_group_31 ?_
      refine aw_name (fun v10 e_v10 => ?_)
      replace H := H v10 e_v10
      refine aw_bipush (v := 8) dX10_group_34 (by decide) ?_
      refine aw_icmp_ge (tgt := 51) dX10_group_36 (by decide) (fun c11 => ?_) (fun c11 => ?_)
      · replace H := a_pos c11 H
        refine aw_iconst (v := (-1)) dX10_group_51 (by decide) ?_
        exact aw_iret rfl H dX10_group_52
      · replace H := a_neg c11 H
        refine aw_aload_n dX10_group_39 rfl 1 rfl ?_
        refine aw_getR cf_X10 0 (by decide) rfl wd_301 o_k dX10_group_40 ?_
        refine aw_iload dX10_group_43 0 rfl ?_
        refine aw_callV_i (As := [.int r8]) (rest := []) (am_X2_isFirm d o9 H) mf_X2_isFirm wd_633 wd_562 wd_563 cf_X2 o9 rfl rfl (Nat.le_of_ble_eq_true rfl) dX10_group_45 (fun r13 h12 H => ?_)
        refine aw_if_ne (tgt := 53) dX10_group_48 (by decide) (fun c14 => ?_) (fun c14 => ?_)
        · replace H := a_pos c14 H
          refine aw_aload_n dX10_group_53 rfl 1 rfl ?_
          refine aw_getR cf_X10 0 (by decide) rfl wd_301 o_k dX10_group_54 ?_
          refine aw_iload dX10_group_57 0 rfl ?_
          refine aw_iload_n dX10_group_59 rfl 4 rfl ?_
          obtain ⟨o15, H⟩ := H
          refine aw_callV_i (As := [.int r8, .int a3]) (rest := []) (am_X2_addGroup (d + 1) o15 H) mf_X2_addGroup wd_634 wd_635 wd_636 cf_X2 o15 rfl rfl (Nat.le_of_ble_eq_true rfl) dX10_group_60 (fun r17 h16 H => ?_)
          exact aw_iret rfl H dX10_group_63
        · replace H := a_neg2 c14 H
          refine aw_iconst (v := (-1)) dX10_group_51 (by decide) ?_
          exact aw_iret rfl H dX10_group_52
    · replace H := a_neg2 c6 H
      refine aw_iconst (v := (-1)) dX10_group_18 (by decide) ?_
      exact aw_iret rfl H dX10_group_19
set_option maxHeartbeats 4000000 in
set_option maxRecDepth 100000 in
theorem am_X10_settle {l : Launch} {S : aS} {G : aG} (d : Nat) {k : Nat} {h : aH} {Q : Int32 → aH → Prop} (o_k : aObj S k 9 flX10) (H : f_X10_settle S k h Q) : AMi l S G (d + 6) M_X10_settle [.ref (G.2.1 k)] h Q := by
  unfold f_X10_settle at H
  refine am_of mf_X10_settle (Nat.le_of_ble_eq_true rfl) (lv0 := [(0, .ref (G.2.1 k))]) rfl ?_
  refine aw_aload_n dX10_settle_0 rfl 0 rfl ?_
  refine aw_getR cf_X10 5 (by decide) rfl wd_306 o_k dX10_settle_1 ?_
  refine aw_aload_n dX10_settle_4 rfl 0 rfl ?_
  refine aw_getR cf_X10 0 (by decide) rfl wd_301 o_k dX10_settle_5 ?_
  obtain ⟨o1, H⟩ := H
  obtain ⟨o2, H⟩ := H
  refine aw_callV_i (As := [.ref (G.2.1 (gR h k 0))]) (rest := []) (am_X5_settleAll d o1 o2 H) mf_X5_settleAll wd_642 wd_643 wd_644 cf_X5 o1 rfl rfl (Nat.le_of_ble_eq_true rfl) dX10_settle_8 (fun r4 h3 H => ?_)
  exact aw_iret rfl H dX10_settle_11
set_option maxHeartbeats 4000000 in
set_option maxRecDepth 100000 in
theorem am_X10_minutes {l : Launch} {S : aS} {G : aG} (d : Nat) {k : Nat} {a1 : Int32} {h : aH} {Q : Int32 → aH → Prop} (o_k : aObj S k 9 flX10) (H : f_X10_minutes S k a1 h Q) : AMi l S G (d + 7) M_X10_minutes [.ref (G.2.1 k), .int a1] h Q := by
  unfold f_X10_minutes at H
  refine am_of mf_X10_minutes (Nat.le_of_ble_eq_true rfl) (lv0 := [(0, .ref (G.2.1 k)), (1, .int a1)]) rfl ?_
  refine aw_iload_n dX10_minutes_0 rfl 1 rfl ?_
  refine aw_iconst (v := 1) dX10_minutes_1 (by decide) ?_
  refine aw_bipush (v := 60) dX10_minutes_2 (by decide) ?_
  refine aw_callS_i (As := [.int a1, .int 1, .int 60]) (rest := []) (am_X10_within (d + 6) H) mf_X10_within wd_342 wd_343 rfl rfl (Nat.le_of_ble_eq_true rfl) dX10_minutes_4 (fun r2 h1 H => ?_)
  refine aw_if_eq (tgt := 25) dX10_minutes_7 (by decide) (fun c3 => ?_) (fun c3 => ?_)
  · replace H := a_pos c3 H
    refine aw_iconst (v := (-1)) dX10_minutes_25 (by decide) ?_
    exact aw_iret rfl H dX10_minutes_26
  · replace H := a_neg c3 H
    refine aw_aload_n dX10_minutes_10 rfl 0 rfl ?_
    refine aw_getR cf_X10 5 (by decide) rfl wd_306 o_k dX10_minutes_11 ?_
    refine aw_aload_n dX10_minutes_14 rfl 0 rfl ?_
    refine aw_getR cf_X10 0 (by decide) rfl wd_301 o_k dX10_minutes_15 ?_
    refine aw_iload_n dX10_minutes_18 rfl 1 rfl ?_
    obtain ⟨o4, H⟩ := H
    obtain ⟨o5, H⟩ := H
    refine aw_callV_i (As := [.ref (G.2.1 (gR h1 k 0)), .int a1]) (rest := []) (am_X5_pass d o4 o5 H) mf_X5_pass wd_672 wd_673 wd_674 cf_X5 o4 rfl rfl (Nat.le_of_ble_eq_true rfl) dX10_minutes_19 (fun r7 h6 H => ?_)
    refine aw_goto (tgt := 26) dX10_minutes_22 (by decide) ?_
    exact aw_iret rfl H dX10_minutes_26
set_option maxHeartbeats 4000000 in
set_option maxRecDepth 100000 in
theorem fm_X10_run_51 {l : Launch} {S : aS} {G : aG} (d : Nat) {k : Nat} {a1 : Int32} {a2 : Int32} {Q : Int32 → aH → Prop} (o_k : aObj S k 9 flX10)  (h : aH) (H : f_X10_run_51 S k a1 a2 Q  h) : AW l S G (d + 7) M_X10_run (va_Qi Q (aPo S G) (aA S G)) 51 [(0, .ref (G.2.1 k)), (1, .int a1), (2, .int a2)] [] h := by
  unfold f_X10_run_51 at H
  refine aw_aload_n dX10_run_51 rfl 0 rfl ?_
  refine aw_getR cf_X10 2 (by decide) rfl wd_303 o_k dX10_run_52 ?_
  refine aw_aload_n dX10_run_55 rfl 0 rfl ?_
  refine aw_getR cf_X10 0 (by decide) rfl wd_301 o_k dX10_run_56 ?_
  obtain ⟨o1, H⟩ := H
  obtain ⟨o2, H⟩ := H
  refine aw_callV_v (As := [.ref (G.2.1 (gR h k 0))]) (rest := []) (am_X2_copyFrom (d + 5) o1 o2 H) mf_X2_copyFrom wd_743 wd_744 wd_745 cf_X2 o1 rfl rfl (Nat.le_of_ble_eq_true rfl) dX10_run_59 (fun h3 H => ?_)
  refine aw_aload_n dX10_run_62 rfl 0 rfl ?_
  refine aw_getR cf_X10 5 (by decide) rfl wd_306 o_k dX10_run_63 ?_
  refine aw_aload_n dX10_run_66 rfl 0 rfl ?_
  refine aw_getR cf_X10 2 (by decide) rfl wd_303 o_k dX10_run_67 ?_
  refine aw_iload_n dX10_run_70 rfl 1 rfl ?_
  obtain ⟨o4, H⟩ := H
  obtain ⟨o5, H⟩ := H
  refine aw_callV_i (As := [.ref (G.2.1 (gR h3 k 2)), .int a1]) (rest := []) (am_X5_pass d o4 o5 H) mf_X5_pass wd_672 wd_673 wd_674 cf_X5 o4 rfl rfl (Nat.le_of_ble_eq_true rfl) dX10_run_71 (fun r7 h6 H => ?_)
  refine aw_istore (lv' := [(4, .int r7), (0, .ref (G.2.1 k)), (1, .int a1), (2, .int a2)]) dX10_run_74 (by decide) rfl ?_
  refine aw_iload_n dX10_run_76 rfl 3 rfl ?_
  refine aw_if_ne (tgt := 83) dX10_run_77 (by decide) (fun c8 => ?_) (fun c8 => ?_)
  · replace H := a_pos c8 H
    refine aw_iload_n dX10_run_83 rfl 3 rfl ?_
    refine aw_iconst (v := 1) dX10_run_84 (by decide) ?_
    refine aw_icmp_ne (tgt := 98) dX10_run_85 (by decide) (fun c9 => ?_) (fun c9 => ?_)
    · replace H := a_pos c9 H
      refine aw_aload_n dX10_run_98 rfl 1 rfl ?_
      refine aw_getR cf_X10 2 (by decide) rfl wd_303 o_k dX10_run_99 ?_
      obtain ⟨o10, H⟩ := H
      refine aw_getR cf_X2 10 (by decide) rfl wd_71 o10 dX10_run_102 ?_
      refine aw_iload_n dX10_run_105 rfl 3 rfl ?_
      refine aw_bipush (v := 10) dX10_run_106 (by decide) ?_
      refine aw_isub dX10_run_108 ?_
      obtain ⟨z11, H⟩ := H
      refine aw_iaload z11 dX10_run_109 ?_
      refine aw_name (fun v12 e_v12 => ?_)
      replace H := H v12 e_v12
      exact aw_iret rfl H dX10_run_110
    · replace H := a_neg2 c9 H
      refine aw_aload_n dX10_run_88 rfl 1 rfl ?_
      refine aw_getR cf_X10 2 (by decide) rfl wd_303 o_k dX10_run_89 ?_
      obtain ⟨o13, H⟩ := H
      refine aw_callV_i (As := []) (rest := []) (am_X2_brokenTotal (d + 5) o13 H) mf_X2_brokenTotal wd_750 wd_751 wd_752 cf_X2 o13 rfl rfl (Nat.le_of_ble_eq_true rfl) dX10_run_92 (fun r15 h14 H => ?_)
      refine aw_goto (tgt := 110) dX10_run_95 (by decide) ?_
      exact aw_iret rfl H dX10_run_110
  · replace H := a_neg2 c8 H
    refine aw_iload dX10_run_80 0 rfl ?_
    exact aw_iret rfl H dX10_run_82
set_option maxHeartbeats 4000000 in
set_option maxRecDepth 100000 in
theorem fm_X10_run_25 {l : Launch} {S : aS} {G : aG} (d : Nat) {k : Nat} {a1 : Int32} {a2 : Int32} {Q : Int32 → aH → Prop} (o_k : aObj S k 9 flX10) (s0 : Int32) (h : aH) (H : f_X10_run_25 S k a1 a2 Q s0 h) : AW l S G (d + 7) M_X10_run (va_Qi Q (aPo S G) (aA S G)) 25 [(0, .ref (G.2.1 k)), (1, .int a1), (2, .int a2)] [.int s0] h := by
  unfold f_X10_run_25 at H
  refine aw_istore_n (lv' := [(3, .int s0), (0, .ref (G.2.1 k)), (1, .int a1), (2, .int a2)]) dX10_run_25 rfl (by decide) rfl ?_
  refine aw_iload_n dX10_run_26 rfl 2 rfl ?_
  refine aw_iconst (v := 1) dX10_run_27 (by decide) ?_
  refine aw_bipush (v := 60) dX10_run_28 (by decide) ?_
  refine aw_callS_i (As := [.int a1, .int 1, .int 60]) (rest := []) (am_X10_within (d + 6) H) mf_X10_within wd_342 wd_343 rfl rfl (Nat.le_of_ble_eq_true rfl) dX10_run_30 (fun r17 h16 H => ?_)
  refine aw_if_eq (tgt := 49) dX10_run_33 (by decide) (fun c18 => ?_) (fun c18 => ?_)
  · replace H := a_pos c18 H
    refine aw_iconst (v := (-1)) dX10_run_49 (by decide) ?_
    exact aw_iret rfl H dX10_run_50
  · replace H := a_neg c18 H
    refine aw_iload_n dX10_run_36 rfl 3 rfl ?_
    refine aw_if_eq (tgt := 51) dX10_run_37 (by decide) (fun c19 => ?_) (fun c19 => ?_)
    · replace H := a_pos c19 H
      refine aw_sub (lv' := [(0, .ref (G.2.1 k)), (1, .int a1), (2, .int a2)]) [1, 2, 3] rfl ?_
      exact fm_X10_run_51 d o_k _ H
    · replace H := a_neg c19 H
      refine aw_iload_n dX10_run_40 rfl 3 rfl ?_
      refine aw_iconst (v := 1) dX10_run_41 (by decide) ?_
      refine aw_icmp_eq (tgt := 51) dX10_run_42 (by decide) (fun c20 => ?_) (fun c20 => ?_)
      · replace H := a_pos c20 H
        refine aw_sub (lv' := [(0, .ref (G.2.1 k)), (1, .int a1), (2, .int a2)]) [1, 2, 3] rfl ?_
        exact fm_X10_run_51 d o_k _ H
      · replace H := a_neg c20 H
        refine aw_iload_n dX10_run_45 rfl 0 rfl ?_
        refine aw_if_ne (tgt := 51) dX10_run_46 (by decide) (fun c21 => ?_) (fun c21 => ?_)
        · replace H := a_pos c21 H
          refine aw_sub (lv' := [(0, .ref (G.2.1 k)), (1, .int a1), (2, .int a2)]) [1, 2, 3] rfl ?_
          exact fm_X10_run_51 d o_k _ H
        · replace H := a_neg2 c21 H
          refine aw_iconst (v := (-1)) dX10_run_49 (by decide) ?_
          exact aw_iret rfl H dX10_run_50
set_option maxHeartbeats 4000000 in
set_option maxRecDepth 100000 in
theorem am_X10_run {l : Launch} {S : aS} {G : aG} (d : Nat) {k : Nat} {a1 : Int32} {a2 : Int32} {h : aH} {Q : Int32 → aH → Prop} (o_k : aObj S k 9 flX10) (H : f_X10_run S k a1 a2 h Q) : AMi l S G (d + 7) M_X10_run [.ref (G.2.1 k), .int a1, .int a2] h Q := by
  unfold f_X10_run at H
  refine am_of mf_X10_run (Nat.le_of_ble_eq_true rfl) (lv0 := [(0, .ref (G.2.1 k)), (1, .int a1), (2, .int a2)]) rfl ?_
  refine aw_iload_n dX10_run_0 rfl 2 rfl ?_
  refine aw_bipush (v := 10) dX10_run_1 (by decide) ?_
  refine aw_icmp_lt (tgt := 24) dX10_run_3 (by decide) (fun c22 => ?_) (fun c22 => ?_)
  · replace H := a_pos c22 H
    refine aw_iconst (v := 0) dX10_run_24 (by decide) ?_
    exact fm_X10_run_25 d o_k _ _ H
  · replace H := a_neg c22 H
    refine aw_aload_n dX10_run_6 rfl 0 rfl ?_
    refine aw_getR cf_X10 0 (by decide) rfl wd_301 o_k dX10_run_7 ?_
    refine aw_iload_n dX10_run_10 rfl 2 rfl ?_
    refine aw_bipush (v := 10) dX10_run_11 (by decide) ?_
    refine aw_isub dX10_run_13 ?_
    obtain ⟨o23, H⟩ := H
    refine aw_callV_i (As := [.int (a2 - 10)]) (rest := []) (am_X2_hasGroup (d + 6) o23 H) mf_X2_hasGroup wd_742 wd_695 wd_696 cf_X2 o23 rfl rfl (Nat.le_of_ble_eq_true rfl) dX10_run_14 (fun r25 h24 H => ?_)
    refine aw_if_eq (tgt := 24) dX10_run_17 (by decide) (fun c26 => ?_) (fun c26 => ?_)
    · replace H := a_pos c26 H
      refine aw_iconst (v := 0) dX10_run_24 (by decide) ?_
      exact fm_X10_run_25 d o_k _ _ H
    · replace H := a_neg c26 H
      refine aw_iconst (v := 1) dX10_run_20 (by decide) ?_
      refine aw_goto (tgt := 25) dX10_run_21 (by decide) ?_
      exact fm_X10_run_25 d o_k _ _ H
set_option maxHeartbeats 4000000 in
set_option maxRecDepth 100000 in
theorem am_X10_square {l : Launch} {S : aS} {G : aG} (d : Nat) {k : Nat} {a1 : Int32} {a2 : Int32} {a3 : Int32} {h : aH} {Q : Int32 → aH → Prop} (o_k : aObj S k 9 flX10) (H : f_X10_square S k a1 a2 a3 h Q) : AMi l S G (d + 4) M_X10_square [.ref (G.2.1 k), .int a1, .int a2, .int a3] h Q := by
  unfold f_X10_square at H
  refine am_of mf_X10_square (Nat.le_of_ble_eq_true rfl) (lv0 := [(0, .ref (G.2.1 k)), (1, .int a1), (2, .int a2), (3, .int a3)]) rfl ?_
  refine aw_iload_n dX10_square_0 rfl 1 rfl ?_
  refine aw_iload_n dX10_square_1 rfl 2 rfl ?_
  refine aw_callS_i (As := [.int a1, .int a2]) (rest := []) (am_X1_has (d + 3) H) mf_X1_has wd_339 wd_340 rfl rfl (Nat.le_of_ble_eq_true rfl) dX10_square_2 (fun r2 h1 H => ?_)
  refine aw_if_ne (tgt := 10) dX10_square_5 (by decide) (fun c3 => ?_) (fun c3 => ?_)
  · replace H := a_pos c3 H
    refine aw_iload_n dX10_square_10 rfl 1 rfl ?_
    refine aw_iload_n dX10_square_11 rfl 2 rfl ?_
    refine aw_callS_i (As := [.int a1, .int a2]) (rest := []) (am_X1_at (d + 3) H) mf_X1_at wd_345 wd_346 rfl rfl (Nat.le_of_ble_eq_true rfl) dX10_square_12 (fun r5 h4 H => ?_)
    refine aw_istore (lv' := [(4, .int r5), (0, .ref (G.2.1 k)), (1, .int a1), (2, .int a2), (3, .int a3)]) dX10_square_15 (by decide) rfl ?_
    refine aw_iload_n dX10_square_17 rfl 4 rfl ?_
    by_cases c6_0 : a3 = 0
    · replace H := a_pos c6_0 H
      refine aw_tableIn (off := 38) (tgt := 56) dX10_square_18 (by rw [c6_0]; decide) (by rw [c6_0]; decide) (by rw [c6_0]; decide) (by decide) ?_
      refine aw_aload_n dX10_square_56 rfl 1 rfl ?_
      refine aw_getR cf_X10 0 (by decide) rfl wd_301 o_k dX10_square_57 ?_
      obtain ⟨o7, H⟩ := H
      refine aw_getR cf_X2 0 (by decide) rfl wd_36 o7 dX10_square_60 ?_
      refine aw_iload dX10_square_63 0 rfl ?_
      obtain ⟨z8, H⟩ := H
      refine aw_iaload z8 dX10_square_65 ?_
      refine aw_name (fun v9 e_v9 => ?_)
      replace H := H v9 e_v9
      exact aw_iret rfl H dX10_square_66
    · replace H := a_neg c6_0 H
      by_cases c6_1 : a3 = 1
      · replace H := a_pos c6_1 H
        refine aw_tableIn (off := 49) (tgt := 67) dX10_square_18 (by rw [c6_1]; decide) (by rw [c6_1]; decide) (by rw [c6_1]; decide) (by decide) ?_
        refine aw_aload_n dX10_square_67 rfl 1 rfl ?_
        refine aw_getR cf_X10 0 (by decide) rfl wd_301 o_k dX10_square_68 ?_
        refine aw_iload dX10_square_71 0 rfl ?_
        obtain ⟨o10, H⟩ := H
        refine aw_callV_i (As := [.int r5]) (rest := []) (am_X2_stateOf (d + 2) o10 H) mf_X2_stateOf wd_758 wd_759 wd_760 cf_X2 o10 rfl rfl (Nat.le_of_ble_eq_true rfl) dX10_square_73 (fun r12 h11 H => ?_)
        exact aw_iret rfl H dX10_square_76
      · replace H := a_neg c6_1 H
        by_cases c6_2 : a3 = 2
        · replace H := a_pos c6_2 H
          refine aw_tableIn (off := 59) (tgt := 77) dX10_square_18 (by rw [c6_2]; decide) (by rw [c6_2]; decide) (by rw [c6_2]; decide) (by decide) ?_
          refine aw_aload_n dX10_square_77 rfl 1 rfl ?_
          refine aw_getR cf_X10 5 (by decide) rfl wd_306 o_k dX10_square_78 ?_
          refine aw_aload_n dX10_square_81 rfl 1 rfl ?_
          refine aw_getR cf_X10 0 (by decide) rfl wd_301 o_k dX10_square_82 ?_
          refine aw_iload dX10_square_85 0 rfl ?_
          obtain ⟨o13, H⟩ := H
          obtain ⟨o14, H⟩ := H
          refine aw_callV_i (As := [.ref (G.2.1 (gR h4 k 0)), .int r5]) (rest := []) (am_X5_bears d o13 o14 H) mf_X5_bears wd_762 wd_657 wd_658 cf_X5 o13 rfl rfl (Nat.le_of_ble_eq_true rfl) dX10_square_87 (fun r16 h15 H => ?_)
          exact aw_iret rfl H dX10_square_90
        · replace H := a_neg c6_2 H
          by_cases c6_3 : a3 = 3
          · replace H := a_pos c6_3 H
            refine aw_tableIn (off := 73) (tgt := 91) dX10_square_18 (by rw [c6_3]; decide) (by rw [c6_3]; decide) (by rw [c6_3]; decide) (by decide) ?_
            refine aw_aload_n dX10_square_91 rfl 1 rfl ?_
            refine aw_getR cf_X10 0 (by decide) rfl wd_301 o_k dX10_square_92 ?_
            refine aw_iload dX10_square_95 0 rfl ?_
            obtain ⟨o17, H⟩ := H
            refine aw_callV_i (As := [.int r5]) (rest := []) (am_X2_carried (d + 3) o17 H) mf_X2_carried wd_763 wd_569 wd_570 cf_X2 o17 rfl rfl (Nat.le_of_ble_eq_true rfl) dX10_square_97 (fun r19 h18 H => ?_)
            exact aw_iret rfl H dX10_square_100
          · replace H := a_neg c6_3 H
            by_cases c6_4 : a3 = 4
            · replace H := a_pos c6_4 H
              refine aw_tableIn (off := 83) (tgt := 101) dX10_square_18 (by rw [c6_4]; decide) (by rw [c6_4]; decide) (by rw [c6_4]; decide) (by decide) ?_
              refine aw_aload_n dX10_square_101 rfl 1 rfl ?_
              refine aw_getR cf_X10 0 (by decide) rfl wd_301 o_k dX10_square_102 ?_
              obtain ⟨o20, H⟩ := H
              refine aw_getR cf_X2 2 (by decide) rfl wd_42 o20 dX10_square_105 ?_
              refine aw_iload dX10_square_108 0 rfl ?_
              obtain ⟨z21, H⟩ := H
              refine aw_iaload z21 dX10_square_110 ?_
              refine aw_name (fun v22 e_v22 => ?_)
              replace H := H v22 e_v22
              exact aw_iret rfl H dX10_square_111
            · replace H := a_neg c6_4 H
              by_cases c6_5 : a3 = 5
              · replace H := a_pos c6_5 H
                refine aw_tableIn (off := 94) (tgt := 112) dX10_square_18 (by rw [c6_5]; decide) (by rw [c6_5]; decide) (by rw [c6_5]; decide) (by decide) ?_
                refine aw_aload_n dX10_square_112 rfl 1 rfl ?_
                refine aw_getR cf_X10 0 (by decide) rfl wd_301 o_k dX10_square_113 ?_
                obtain ⟨o23, H⟩ := H
                refine aw_getR cf_X2 3 (by decide) rfl wd_45 o23 dX10_square_116 ?_
                refine aw_iload dX10_square_119 0 rfl ?_
                obtain ⟨z24, H⟩ := H
                refine aw_iaload z24 dX10_square_121 ?_
                refine aw_name (fun v25 e_v25 => ?_)
                replace H := H v25 e_v25
                exact aw_iret rfl H dX10_square_122
              · replace H := a_neg c6_5 H
                have t0 := a_ne (n := 0) (v := 0) (by decide) c6_0
                have t1 := a_ne (n := 1) (v := 1) (by decide) c6_1
                have t2 := a_ne (n := 2) (v := 2) (by decide) c6_2
                have t3 := a_ne (n := 3) (v := 3) (by decide) c6_3
                have t4 := a_ne (n := 4) (v := 4) (by decide) c6_4
                have t5 := a_ne (n := 5) (v := 5) (by decide) c6_5
                refine aw_tableOut (tgt := 123) dX10_square_18 (by omega) (by decide) ?_
                refine aw_iconst (v := (-1)) dX10_square_123 (by decide) ?_
                exact aw_iret rfl H dX10_square_124
  · replace H := a_neg2 c3 H
    refine aw_iconst (v := (-1)) dX10_square_8 (by decide) ?_
    exact aw_iret rfl H dX10_square_9
set_option maxHeartbeats 4000000 in
set_option maxRecDepth 100000 in
theorem am_X10_holeIs {l : Launch} {S : aS} {G : aG} (d : Nat) {k : Nat} {a1 : Int32} {a2 : Int32} {h : aH} {Q : Int32 → aH → Prop} (o_k : aObj S k 9 flX10) (H : f_X10_holeIs S k a1 a2 h Q) : AMi l S G (d + 2) M_X10_holeIs [.ref (G.2.1 k), .int a1, .int a2] h Q := by
  unfold f_X10_holeIs at H
  refine am_of mf_X10_holeIs (Nat.le_of_ble_eq_true rfl) (lv0 := [(0, .ref (G.2.1 k)), (1, .int a1), (2, .int a2)]) rfl ?_
  refine aw_aload_n dX10_holeIs_0 rfl 0 rfl ?_
  refine aw_getR cf_X10 0 (by decide) rfl wd_301 o_k dX10_holeIs_1 ?_
  refine aw_iload_n dX10_holeIs_4 rfl 1 rfl ?_
  obtain ⟨o1, H⟩ := H
  refine aw_callV_i (As := [.int a1]) (rest := []) (am_X2_hasHole (d + 1) o1 H) mf_X2_hasHole wd_768 wd_622 wd_623 cf_X2 o1 rfl rfl (Nat.le_of_ble_eq_true rfl) dX10_holeIs_5 (fun r3 h2 H => ?_)
  refine aw_if_ne (tgt := 13) dX10_holeIs_8 (by decide) (fun c4 => ?_) (fun c4 => ?_)
  · replace H := a_pos c4 H
    refine aw_iload_n dX10_holeIs_13 rfl 2 rfl ?_
    by_cases c5_0 : a2 = 0
    · replace H := a_pos c5_0 H
      refine aw_tableIn (off := 38) (tgt := 52) dX10_holeIs_14 (by rw [c5_0]; decide) (by rw [c5_0]; decide) (by rw [c5_0]; decide) (by decide) ?_
      refine aw_aload_n dX10_holeIs_52 rfl 0 rfl ?_
      refine aw_getR cf_X10 0 (by decide) rfl wd_301 o_k dX10_holeIs_53 ?_
      obtain ⟨o6, H⟩ := H
      refine aw_getR cf_X2 4 (by decide) rfl wd_50 o6 dX10_holeIs_56 ?_
      refine aw_iload_n dX10_holeIs_59 rfl 1 rfl ?_
      obtain ⟨z7, H⟩ := H
      refine aw_iaload z7 dX10_holeIs_60 ?_
      refine aw_name (fun v8 e_v8 => ?_)
      replace H := H v8 e_v8
      exact aw_iret rfl H dX10_holeIs_61
    · replace H := a_neg c5_0 H
      by_cases c5_1 : a2 = 1
      · replace H := a_pos c5_1 H
        refine aw_tableIn (off := 48) (tgt := 62) dX10_holeIs_14 (by rw [c5_1]; decide) (by rw [c5_1]; decide) (by rw [c5_1]; decide) (by decide) ?_
        refine aw_aload_n dX10_holeIs_62 rfl 0 rfl ?_
        refine aw_getR cf_X10 0 (by decide) rfl wd_301 o_k dX10_holeIs_63 ?_
        refine aw_iload_n dX10_holeIs_66 rfl 1 rfl ?_
        obtain ⟨o9, H⟩ := H
        refine aw_callV_i (As := [.int a1]) (rest := []) (am_X2_isOpen d o9 H) mf_X2_isOpen wd_617 wd_618 wd_619 cf_X2 o9 rfl rfl (Nat.le_of_ble_eq_true rfl) dX10_holeIs_67 (fun r11 h10 H => ?_)
        refine aw_if_eq (tgt := 77) dX10_holeIs_70 (by decide) (fun c12 => ?_) (fun c12 => ?_)
        · replace H := a_pos c12 H
          refine aw_iconst (v := 0) dX10_holeIs_77 (by decide) ?_
          exact aw_iret rfl H dX10_holeIs_78
        · replace H := a_neg c12 H
          refine aw_iconst (v := 1) dX10_holeIs_73 (by decide) ?_
          refine aw_goto (tgt := 78) dX10_holeIs_74 (by decide) ?_
          exact aw_iret rfl H dX10_holeIs_78
      · replace H := a_neg c5_1 H
        by_cases c5_2 : a2 = 2
        · replace H := a_pos c5_2 H
          refine aw_tableIn (off := 65) (tgt := 79) dX10_holeIs_14 (by rw [c5_2]; decide) (by rw [c5_2]; decide) (by rw [c5_2]; decide) (by decide) ?_
          refine aw_aload_n dX10_holeIs_79 rfl 0 rfl ?_
          refine aw_getR cf_X10 0 (by decide) rfl wd_301 o_k dX10_holeIs_80 ?_
          obtain ⟨o13, H⟩ := H
          refine aw_getR cf_X2 5 (by decide) rfl wd_54 o13 dX10_holeIs_83 ?_
          refine aw_iload_n dX10_holeIs_86 rfl 1 rfl ?_
          obtain ⟨z14, H⟩ := H
          refine aw_iaload z14 dX10_holeIs_87 ?_
          refine aw_name (fun v15 e_v15 => ?_)
          replace H := H v15 e_v15
          exact aw_iret rfl H dX10_holeIs_88
        · replace H := a_neg c5_2 H
          by_cases c5_3 : a2 = 3
          · replace H := a_pos c5_3 H
            refine aw_tableIn (off := 75) (tgt := 89) dX10_holeIs_14 (by rw [c5_3]; decide) (by rw [c5_3]; decide) (by rw [c5_3]; decide) (by decide) ?_
            refine aw_aload_n dX10_holeIs_89 rfl 0 rfl ?_
            refine aw_getR cf_X10 0 (by decide) rfl wd_301 o_k dX10_holeIs_90 ?_
            obtain ⟨o16, H⟩ := H
            refine aw_getR cf_X2 6 (by decide) rfl wd_57 o16 dX10_holeIs_93 ?_
            refine aw_iload_n dX10_holeIs_96 rfl 1 rfl ?_
            obtain ⟨z17, H⟩ := H
            refine aw_iaload z17 dX10_holeIs_97 ?_
            refine aw_name (fun v18 e_v18 => ?_)
            replace H := H v18 e_v18
            exact aw_iret rfl H dX10_holeIs_98
          · replace H := a_neg c5_3 H
            by_cases c5_4 : a2 = 4
            · replace H := a_pos c5_4 H
              refine aw_tableIn (off := 85) (tgt := 99) dX10_holeIs_14 (by rw [c5_4]; decide) (by rw [c5_4]; decide) (by rw [c5_4]; decide) (by decide) ?_
              refine aw_aload_n dX10_holeIs_99 rfl 0 rfl ?_
              refine aw_getR cf_X10 0 (by decide) rfl wd_301 o_k dX10_holeIs_100 ?_
              obtain ⟨o19, H⟩ := H
              refine aw_getR cf_X2 7 (by decide) rfl wd_60 o19 dX10_holeIs_103 ?_
              refine aw_iload_n dX10_holeIs_106 rfl 1 rfl ?_
              obtain ⟨z20, H⟩ := H
              refine aw_iaload z20 dX10_holeIs_107 ?_
              refine aw_name (fun v21 e_v21 => ?_)
              replace H := H v21 e_v21
              exact aw_iret rfl H dX10_holeIs_108
            · replace H := a_neg c5_4 H
              by_cases c5_5 : a2 = 5
              · replace H := a_pos c5_5 H
                refine aw_tableIn (off := 95) (tgt := 109) dX10_holeIs_14 (by rw [c5_5]; decide) (by rw [c5_5]; decide) (by rw [c5_5]; decide) (by decide) ?_
                refine aw_aload_n dX10_holeIs_109 rfl 0 rfl ?_
                refine aw_getR cf_X10 0 (by decide) rfl wd_301 o_k dX10_holeIs_110 ?_
                obtain ⟨o22, H⟩ := H
                refine aw_getR cf_X2 8 (by decide) rfl wd_63 o22 dX10_holeIs_113 ?_
                refine aw_iload_n dX10_holeIs_116 rfl 1 rfl ?_
                obtain ⟨z23, H⟩ := H
                refine aw_iaload z23 dX10_holeIs_117 ?_
                refine aw_name (fun v24 e_v24 => ?_)
                replace H := H v24 e_v24
                exact aw_iret rfl H dX10_holeIs_118
              · replace H := a_neg c5_5 H
                have t0 := a_ne (n := 0) (v := 0) (by decide) c5_0
                have t1 := a_ne (n := 1) (v := 1) (by decide) c5_1
                have t2 := a_ne (n := 2) (v := 2) (by decide) c5_2
                have t3 := a_ne (n := 3) (v := 3) (by decide) c5_3
                have t4 := a_ne (n := 4) (v := 4) (by decide) c5_4
                have t5 := a_ne (n := 5) (v := 5) (by decide) c5_5
                refine aw_tableOut (tgt := 119) dX10_holeIs_14 (by omega) (by decide) ?_
                refine aw_iconst (v := (-1)) dX10_holeIs_119 (by decide) ?_
                exact aw_iret rfl H dX10_holeIs_120
  · replace H := a_neg2 c4 H
    refine aw_iconst (v := (-1)) dX10_holeIs_11 (by decide) ?_
    exact aw_iret rfl H dX10_holeIs_12
set_option maxHeartbeats 4000000 in
set_option maxRecDepth 100000 in
theorem am_X10_groupIs {l : Launch} {S : aS} {G : aG} (d : Nat) {k : Nat} {a1 : Int32} {a2 : Int32} {h : aH} {Q : Int32 → aH → Prop} (o_k : aObj S k 9 flX10) (H : f_X10_groupIs S k a1 a2 h Q) : AMi l S G (d + 6) M_X10_groupIs [.ref (G.2.1 k), .int a1, .int a2] h Q := by
  unfold f_X10_groupIs at H
  refine am_of mf_X10_groupIs (Nat.le_of_ble_eq_true rfl) (lv0 := [(0, .ref (G.2.1 k)), (1, .int a1), (2, .int a2)]) rfl ?_
  refine aw_aload_n dX10_groupIs_0 rfl 0 rfl ?_
  refine aw_getR cf_X10 0 (by decide) rfl wd_301 o_k dX10_groupIs_1 ?_
  refine aw_iload_n dX10_groupIs_4 rfl 1 rfl ?_
  obtain ⟨o1, H⟩ := H
  refine aw_callV_i (As := [.int a1]) (rest := []) (am_X2_hasGroup (d + 5) o1 H) mf_X2_hasGroup wd_742 wd_695 wd_696 cf_X2 o1 rfl rfl (Nat.le_of_ble_eq_true rfl) dX10_groupIs_5 (fun r3 h2 H => ?_)
  refine aw_if_ne (tgt := 13) dX10_groupIs_8 (by decide) (fun c4 => ?_) (fun c4 => ?_)
  · replace H := a_pos c4 H
    refine aw_iload_n dX10_groupIs_13 rfl 2 rfl ?_
    by_cases c5_0 : a2 = 0
    · replace H := a_pos c5_0 H
      refine aw_tableIn (off := 26) (tgt := 40) dX10_groupIs_14 (by rw [c5_0]; decide) (by rw [c5_0]; decide) (by rw [c5_0]; decide) (by decide) ?_
      refine aw_aload_n dX10_groupIs_40 rfl 0 rfl ?_
      refine aw_getR cf_X10 0 (by decide) rfl wd_301 o_k dX10_groupIs_41 ?_
      obtain ⟨o6, H⟩ := H
      refine aw_getR cf_X2 10 (by decide) rfl wd_71 o6 dX10_groupIs_44 ?_
      refine aw_iload_n dX10_groupIs_47 rfl 1 rfl ?_
      obtain ⟨z7, H⟩ := H
      refine aw_iaload z7 dX10_groupIs_48 ?_
      refine aw_name (fun v8 e_v8 => ?_)
      replace H := H v8 e_v8
      exact aw_iret rfl H dX10_groupIs_49
    · replace H := a_neg c5_0 H
      by_cases c5_1 : a2 = 1
      · replace H := a_pos c5_1 H
        refine aw_tableIn (off := 36) (tgt := 50) dX10_groupIs_14 (by rw [c5_1]; decide) (by rw [c5_1]; decide) (by rw [c5_1]; decide) (by decide) ?_
        refine aw_aload_n dX10_groupIs_50 rfl 0 rfl ?_
        refine aw_getR cf_X10 0 (by decide) rfl wd_301 o_k dX10_groupIs_51 ?_
        obtain ⟨o9, H⟩ := H
        refine aw_getR cf_X2 11 (by decide) rfl wd_74 o9 dX10_groupIs_54 ?_
        refine aw_iload_n dX10_groupIs_57 rfl 1 rfl ?_
        obtain ⟨z10, H⟩ := H
        refine aw_iaload z10 dX10_groupIs_58 ?_
        refine aw_name (fun v11 e_v11 => ?_)
        replace H := H v11 e_v11
        exact aw_iret rfl H dX10_groupIs_59
      · replace H := a_neg c5_1 H
        by_cases c5_2 : a2 = 2
        · replace H := a_pos c5_2 H
          refine aw_tableIn (off := 46) (tgt := 60) dX10_groupIs_14 (by rw [c5_2]; decide) (by rw [c5_2]; decide) (by rw [c5_2]; decide) (by decide) ?_
          refine aw_aload_n dX10_groupIs_60 rfl 0 rfl ?_
          refine aw_getR cf_X10 0 (by decide) rfl wd_301 o_k dX10_groupIs_61 ?_
          refine aw_iload_n dX10_groupIs_64 rfl 1 rfl ?_
          obtain ⟨o12, H⟩ := H
          refine aw_callV_i (As := [.int a1]) (rest := []) (am_X2_isAfloat (d + 4) o12 H) mf_X2_isAfloat wd_773 wd_691 wd_692 cf_X2 o12 rfl rfl (Nat.le_of_ble_eq_true rfl) dX10_groupIs_65 (fun r14 h13 H => ?_)
          refine aw_if_eq (tgt := 86) dX10_groupIs_68 (by decide) (fun c15 => ?_) (fun c15 => ?_)
          · replace H := a_pos c15 H
            refine aw_iconst (v := (-1)) dX10_groupIs_86 (by decide) ?_
            exact aw_iret rfl H dX10_groupIs_87
          · replace H := a_neg c15 H
            refine aw_aload_n dX10_groupIs_71 rfl 0 rfl ?_
            refine aw_getR cf_X10 5 (by decide) rfl wd_306 o_k dX10_groupIs_72 ?_
            refine aw_aload_n dX10_groupIs_75 rfl 0 rfl ?_
            refine aw_getR cf_X10 0 (by decide) rfl wd_301 o_k dX10_groupIs_76 ?_
            refine aw_iload_n dX10_groupIs_79 rfl 1 rfl ?_
            obtain ⟨o16, H⟩ := H
            obtain ⟨o17, H⟩ := H
            refine aw_callV_i (As := [.ref (G.2.1 (gR h13 k 0)), .int a1]) (rest := []) (am_X5_strongest d o16 o17 H) mf_X5_strongest wd_774 wd_699 wd_700 cf_X5 o16 rfl rfl (Nat.le_of_ble_eq_true rfl) dX10_groupIs_80 (fun r19 h18 H => ?_)
            refine aw_goto (tgt := 87) dX10_groupIs_83 (by decide) ?_
            exact aw_iret rfl H dX10_groupIs_87
        · replace H := a_neg c5_2 H
          have t0 := a_ne (n := 0) (v := 0) (by decide) c5_0
          have t1 := a_ne (n := 1) (v := 1) (by decide) c5_1
          have t2 := a_ne (n := 2) (v := 2) (by decide) c5_2
          refine aw_tableOut (tgt := 88) dX10_groupIs_14 (by omega) (by decide) ?_
          refine aw_iconst (v := (-1)) dX10_groupIs_88 (by decide) ?_
          exact aw_iret rfl H dX10_groupIs_89
  · replace H := a_neg2 c4 H
    refine aw_iconst (v := (-1)) dX10_groupIs_11 (by decide) ?_
    exact aw_iret rfl H dX10_groupIs_12
set_option maxHeartbeats 4000000 in
set_option maxRecDepth 100000 in
theorem am_X10_draws {l : Launch} {S : aS} {G : aG} (d : Nat) {k : Nat} {a1 : Int32} {a2 : Int32} {h : aH} {Q : Int32 → aH → Prop} (o_k : aObj S k 9 flX10) (H : f_X10_draws S k a1 a2 h Q) : AMi l S G (d + 5) M_X10_draws [.ref (G.2.1 k), .int a1, .int a2] h Q := by
  unfold f_X10_draws at H
  refine am_of mf_X10_draws (Nat.le_of_ble_eq_true rfl) (lv0 := [(0, .ref (G.2.1 k)), (1, .int a1), (2, .int a2)]) rfl ?_
  refine aw_aload_n dX10_draws_0 rfl 0 rfl ?_
  refine aw_getR cf_X10 0 (by decide) rfl wd_301 o_k dX10_draws_1 ?_
  refine aw_iload_n dX10_draws_4 rfl 1 rfl ?_
  obtain ⟨o1, H⟩ := H
  refine aw_callV_i (As := [.int a1]) (rest := []) (am_X2_isOpen (d + 3) o1 H) mf_X2_isOpen wd_617 wd_618 wd_619 cf_X2 o1 rfl rfl (Nat.le_of_ble_eq_true rfl) dX10_draws_5 (fun r3 h2 H => ?_)
  refine aw_if_eq (tgt := 38) dX10_draws_8 (by decide) (fun c4 => ?_) (fun c4 => ?_)
  · replace H := a_pos c4 H
    refine aw_iconst (v := (-1)) dX10_draws_38 (by decide) ?_
    exact aw_iret rfl H dX10_draws_39
  · replace H := a_neg c4 H
    refine aw_aload_n dX10_draws_11 rfl 0 rfl ?_
    refine aw_getR cf_X10 0 (by decide) rfl wd_301 o_k dX10_draws_12 ?_
    refine aw_iload_n dX10_draws_15 rfl 2 rfl ?_
    obtain ⟨o5, H⟩ := H
    refine aw_callV_i (As := [.int a2]) (rest := []) (am_X2_isAfloat (d + 3) o5 H) mf_X2_isAfloat wd_773 wd_691 wd_692 cf_X2 o5 rfl rfl (Nat.le_of_ble_eq_true rfl) dX10_draws_16 (fun r7 h6 H => ?_)
    refine aw_if_eq (tgt := 38) dX10_draws_19 (by decide) (fun c8 => ?_) (fun c8 => ?_)
    · replace H := a_pos c8 H
      refine aw_iconst (v := (-1)) dX10_draws_38 (by decide) ?_
      exact aw_iret rfl H dX10_draws_39
    · replace H := a_neg c8 H
      refine aw_aload_n dX10_draws_22 rfl 0 rfl ?_
      refine aw_getR cf_X10 5 (by decide) rfl wd_306 o_k dX10_draws_23 ?_
      refine aw_aload_n dX10_draws_26 rfl 0 rfl ?_
      refine aw_getR cf_X10 0 (by decide) rfl wd_301 o_k dX10_draws_27 ?_
      refine aw_iload_n dX10_draws_30 rfl 1 rfl ?_
      refine aw_iload_n dX10_draws_31 rfl 2 rfl ?_
      obtain ⟨o9, H⟩ := H
      obtain ⟨o10, H⟩ := H
      refine aw_callV_i (As := [.ref (G.2.1 (gR h6 k 0)), .int a1, .int a2]) (rest := []) (am_X5_pull d o9 o10 H) mf_X5_pull wd_779 wd_704 wd_705 cf_X5 o9 rfl rfl (Nat.le_of_ble_eq_true rfl) dX10_draws_32 (fun r12 h11 H => ?_)
      refine aw_goto (tgt := 39) dX10_draws_35 (by decide) ?_
      exact aw_iret rfl H dX10_draws_39
set_option maxHeartbeats 4000000 in
set_option maxRecDepth 100000 in
theorem am_X10_sound {l : Launch} {S : aS} {G : aG} (d : Nat) {k : Nat} {a1 : Int32} {a2 : Int32} {h : aH} {Q : Int32 → aH → Prop} (o_k : aObj S k 9 flX10) (H : f_X10_sound S k a1 a2 h Q) : AMi l S G (d + 5) M_X10_sound [.ref (G.2.1 k), .int a1, .int a2] h Q := by
  unfold f_X10_sound at H
  refine am_of mf_X10_sound (Nat.le_of_ble_eq_true rfl) (lv0 := [(0, .ref (G.2.1 k)), (1, .int a1), (2, .int a2)]) rfl ?_
  refine aw_aload_n dX10_sound_0 rfl 0 rfl ?_
  refine aw_getR cf_X10 0 (by decide) rfl wd_301 o_k dX10_sound_1 ?_
  refine aw_iload_n dX10_sound_4 rfl 1 rfl ?_
  obtain ⟨o1, H⟩ := H
  refine aw_callV_i (As := [.int a1]) (rest := []) (am_X2_isOpen (d + 3) o1 H) mf_X2_isOpen wd_617 wd_618 wd_619 cf_X2 o1 rfl rfl (Nat.le_of_ble_eq_true rfl) dX10_sound_5 (fun r3 h2 H => ?_)
  refine aw_if_eq (tgt := 22) dX10_sound_8 (by decide) (fun c4 => ?_) (fun c4 => ?_)
  · replace H := a_pos c4 H
    refine aw_iconst (v := (-1)) dX10_sound_22 (by decide) ?_
    exact aw_iret rfl H dX10_sound_23
  · replace H := a_neg c4 H
    refine aw_iload_n dX10_sound_11 rfl 2 rfl ?_
    refine aw_iconst (v := 0) dX10_sound_12 (by decide) ?_
    refine aw_sipush (v := 9999) dX10_sound_13 (by decide) ?_
    refine aw_callS_i (As := [.int a2, .int 0, .int 9999]) (rest := []) (am_X10_within (d + 4) H) mf_X10_within wd_342 wd_343 rfl rfl (Nat.le_of_ble_eq_true rfl) dX10_sound_16 (fun r6 h5 H => ?_)
    refine aw_if_ne (tgt := 24) dX10_sound_19 (by decide) (fun c7 => ?_) (fun c7 => ?_)
    · replace H := a_pos c7 H
      refine aw_aload_n dX10_sound_24 rfl 0 rfl ?_
      refine aw_getR cf_X10 5 (by decide) rfl wd_306 o_k dX10_sound_25 ?_
      refine aw_aload_n dX10_sound_28 rfl 0 rfl ?_
      refine aw_getR cf_X10 0 (by decide) rfl wd_301 o_k dX10_sound_29 ?_
      refine aw_iload_n dX10_sound_32 rfl 1 rfl ?_
      refine aw_iload_n dX10_sound_33 rfl 2 rfl ?_
      obtain ⟨o8, H⟩ := H
      obtain ⟨o9, H⟩ := H
      refine aw_callV_i (As := [.ref (G.2.1 (gR h5 k 0)), .int a1, .int a2]) (rest := []) (am_X5_soundTime d o8 o9 H) mf_X5_soundTime wd_784 wd_785 wd_786 cf_X5 o8 rfl rfl (Nat.le_of_ble_eq_true rfl) dX10_sound_34 (fun r11 h10 H => ?_)
      exact aw_iret rfl H dX10_sound_37
    · replace H := a_neg2 c7 H
      refine aw_iconst (v := (-1)) dX10_sound_22 (by decide) ?_
      exact aw_iret rfl H dX10_sound_23
set_option maxHeartbeats 4000000 in
set_option maxRecDepth 100000 in
theorem fm_X10_places_20 {l : Launch} {S : aS} {G : aG} (d : Nat) {k : Nat} {a1 : Int32} {a2 : Int32} {Q : Int32 → aH → Prop} (o_k : aObj S k 9 flX10)  (h : aH) (H : f_X10_places_20 S k a1 a2 Q  h) : AW l S G (d + 5) M_X10_places (va_Qi Q (aPo S G) (aA S G)) 20 [(0, .ref (G.2.1 k)), (1, .int a1), (2, .int a2)] [] h := by
  unfold f_X10_places_20 at H
  refine aw_iconst (v := 2) dX10_places_20 (by decide) ?_
  refine aw_iload_n dX10_places_21 rfl 1 rfl ?_
  refine aw_imul dX10_places_22 ?_
  refine aw_aload_n dX10_places_23 rfl 0 rfl ?_
  refine aw_getR cf_X10 3 (by decide) rfl wd_304 o_k dX10_places_24 ?_
  obtain ⟨o1, H⟩ := H
  refine aw_getI cf_X8 1 (by decide) rfl wd_126 o1 dX10_places_27 ?_
  refine aw_name (fun v2 e_v2 => ?_)
  replace H := H v2 e_v2
  refine aw_icmp_le (tgt := 36) dX10_places_30 (by decide) (fun c3 => ?_) (fun c3 => ?_)
  · replace H := a_pos c3 H
    refine aw_aload_n dX10_places_36 rfl 0 rfl ?_
    refine aw_getR cf_X10 4 (by decide) rfl wd_305 o_k dX10_places_37 ?_
    refine aw_aload_n dX10_places_40 rfl 0 rfl ?_
    refine aw_getR cf_X10 3 (by decide) rfl wd_304 o_k dX10_places_41 ?_
    refine aw_iload_n dX10_places_44 rfl 1 rfl ?_
    obtain ⟨o4, H⟩ := H
    refine aw_callV_v (As := [.ref (G.2.1 (gR h k 3)), .int a1]) (rest := []) (am_X9_readPairs (d + 3) o4 o1 H) mf_X9_readPairs wd_801 wd_802 wd_803 cf_X9 o4 rfl rfl (Nat.le_of_ble_eq_true rfl) dX10_places_45 (fun h5 H => ?_)
    refine aw_aload_n dX10_places_48 rfl 0 rfl ?_
    refine aw_getR cf_X10 4 (by decide) rfl wd_305 o_k dX10_places_49 ?_
    obtain ⟨o6, H⟩ := H
    refine aw_callV_i (As := []) (rest := []) (am_X9_hasTwice (d + 4) o6 H) mf_X9_hasTwice wd_810 wd_811 wd_812 cf_X9 o6 rfl rfl (Nat.le_of_ble_eq_true rfl) dX10_places_52 (fun r8 h7 H => ?_)
    refine aw_if_eq (tgt := 61) dX10_places_55 (by decide) (fun c9 => ?_) (fun c9 => ?_)
    · replace H := a_pos c9 H
      refine aw_aload_n dX10_places_61 rfl 0 rfl ?_
      refine aw_getR cf_X10 7 (by decide) rfl wd_308 o_k dX10_places_62 ?_
      refine aw_aload_n dX10_places_65 rfl 0 rfl ?_
      refine aw_getR cf_X10 0 (by decide) rfl wd_301 o_k dX10_places_66 ?_
      refine aw_aload_n dX10_places_69 rfl 0 rfl ?_
      refine aw_getR cf_X10 5 (by decide) rfl wd_306 o_k dX10_places_70 ?_
      refine aw_aload_n dX10_places_73 rfl 0 rfl ?_
      refine aw_getR cf_X10 4 (by decide) rfl wd_305 o_k dX10_places_74 ?_
      obtain ⟨o10, H⟩ := H
      obtain ⟨o11, H⟩ := H
      obtain ⟨o12, H⟩ := H
      obtain ⟨o13, H⟩ := H
      refine aw_callV_i (As := [.ref (G.2.1 (gR h7 k 0)), .ref (G.2.1 (gR h7 k 5)), .ref (G.2.1 (gR h7 k 4))]) (rest := []) (am_X7_best d o10 o11 o12 o13 H) mf_X7_best wd_814 wd_815 wd_816 cf_X7 o10 rfl rfl (Nat.le_of_ble_eq_true rfl) dX10_places_77 (fun r15 h14 H => ?_)
      refine aw_istore_n (lv' := [(3, .int r15), (0, .ref (G.2.1 k)), (1, .int a1), (2, .int a2)]) dX10_places_80 rfl (by decide) rfl ?_
      refine aw_iload_n dX10_places_81 rfl 3 rfl ?_
      refine aw_iconst (v := 1) dX10_places_82 (by decide) ?_
      refine aw_icmp_ne (tgt := 90) dX10_places_83 (by decide) (fun c16 => ?_) (fun c16 => ?_)
      · replace H := a_pos c16 H
        refine aw_aload_n dX10_places_90 rfl 1 rfl ?_
        refine aw_getR cf_X10 7 (by decide) rfl wd_308 o_k dX10_places_91 ?_
        refine aw_iload_n dX10_places_94 rfl 0 rfl ?_
        obtain ⟨o17, H⟩ := H
        refine aw_callV_i (As := [.int r15]) (rest := []) (am_X7_worthOf (d + 4) o17 H) mf_X7_worthOf wd_854 wd_855 wd_856 cf_X7 o17 rfl rfl (Nat.le_of_ble_eq_true rfl) dX10_places_95 (fun r19 h18 H => ?_)
        exact aw_iret rfl H dX10_places_98
      · replace H := a_neg2 c16 H
        refine aw_iload_n dX10_places_86 rfl 0 rfl ?_
        refine aw_goto (tgt := 98) dX10_places_87 (by decide) ?_
        exact aw_iret rfl H dX10_places_98
    · replace H := a_neg c9 H
      refine aw_bipush (v := (-2)) dX10_places_58 (by decide) ?_
      exact aw_iret rfl H dX10_places_60
  · replace H := a_neg c3 H
    refine aw_bipush (v := (-3)) dX10_places_33 (by decide) ?_
    exact aw_iret rfl H dX10_places_35
set_option maxHeartbeats 4000000 in
set_option maxRecDepth 100000 in
theorem am_X10_places {l : Launch} {S : aS} {G : aG} (d : Nat) {k : Nat} {a1 : Int32} {a2 : Int32} {h : aH} {Q : Int32 → aH → Prop} (o_k : aObj S k 9 flX10) (H : f_X10_places S k a1 a2 h Q) : AMi l S G (d + 5) M_X10_places [.ref (G.2.1 k), .int a1, .int a2] h Q := by
  unfold f_X10_places at H
  refine am_of mf_X10_places (Nat.le_of_ble_eq_true rfl) (lv0 := [(0, .ref (G.2.1 k)), (1, .int a1), (2, .int a2)]) rfl ?_
  refine aw_iload_n dX10_places_0 rfl 1 rfl ?_
  refine aw_iconst (v := 1) dX10_places_1 (by decide) ?_
  refine aw_bipush (v := 10) dX10_places_2 (by decide) ?_
  refine aw_callS_i (As := [.int a1, .int 1, .int 10]) (rest := []) (am_X10_within (d + 4) H) mf_X10_within wd_342 wd_343 rfl rfl (Nat.le_of_ble_eq_true rfl) dX10_places_4 (fun r21 h20 H => ?_)
  refine aw_if_eq (tgt := 33) dX10_places_7 (by decide) (fun c22 => ?_) (fun c22 => ?_)
  · replace H := a_pos c22 H
    refine aw_bipush (v := (-3)) dX10_places_33 (by decide) ?_
    exact aw_iret rfl H dX10_places_35
  · replace H := a_neg c22 H
    refine aw_iload_n dX10_places_10 rfl 2 rfl ?_
    refine aw_iconst (v := (-1)) dX10_places_11 (by decide) ?_
    refine aw_icmp_eq (tgt := 20) dX10_places_12 (by decide) (fun c23 => ?_) (fun c23 => ?_)
    · replace H := a_pos c23 H
      exact fm_X10_places_20 d o_k _ H
    · replace H := a_neg c23 H
      refine aw_iload_n dX10_places_15 rfl 2 rfl ?_
      refine aw_iconst (v := 1) dX10_places_16 (by decide) ?_
      refine aw_icmp_ne (tgt := 33) dX10_places_17 (by decide) (fun c24 => ?_) (fun c24 => ?_)
      · replace H := a_pos c24 H
        refine aw_bipush (v := (-3)) dX10_places_33 (by decide) ?_
        exact aw_iret rfl H dX10_places_35
      · replace H := a_neg2 c24 H
        exact fm_X10_places_20 d o_k _ H
set_option maxHeartbeats 4000000 in
set_option maxRecDepth 100000 in
theorem am_X10_closing {l : Launch} {S : aS} {G : aG} (d : Nat) {k : Nat} {a1 : Int32} {a2 : Int32} {a3 : Int32} {h : aH} {Q : Int32 → aH → Prop} (o_k : aObj S k 9 flX10) (H : f_X10_closing S k a1 a2 a3 h Q) : AMi l S G (d + 7) M_X10_closing [.ref (G.2.1 k), .int a1, .int a2, .int a3] h Q := by
  unfold f_X10_closing at H
  refine am_of mf_X10_closing (Nat.le_of_ble_eq_true rfl) (lv0 := [(0, .ref (G.2.1 k)), (1, .int a1), (2, .int a2), (3, .int a3)]) rfl ?_
  refine aw_iload_n dX10_closing_0 rfl 1 rfl ?_
  refine aw_callS_i (As := [.int a1]) (rest := []) (am_J6_bitCount_0f7a4 (d + 6) H) mf_J6_bitCount_0f7a4 wd_862 wd_849 rfl rfl (Nat.le_of_ble_eq_true rfl) dX10_closing_1 (fun r2 h1 H => ?_)
  refine aw_istore (lv' := [(4, .int r2), (0, .ref (G.2.1 k)), (1, .int a1), (2, .int a2), (3, .int a3)]) dX10_closing_4 (by decide) rfl ?_
  refine aw_iload_n dX10_closing_6 rfl 2 rfl ?_
  refine aw_if_lt (tgt := 55) dX10_closing_7 (by decide) (fun c3 => ?_) (fun c3 => ?_)
  · replace H := a_pos c3 H
    refine aw_bipush (v := (-3)) dX10_closing_55 (by decide) ?_
    exact aw_iret rfl H dX10_closing_57
  · replace H := a_neg c3 H
    refine aw_iload_n dX10_closing_10 rfl 2 rfl ?_
    refine aw_aload_n dX10_closing_11 rfl 1 rfl ?_
    refine aw_getR cf_X10 0 (by decide) rfl wd_301 o_k dX10_closing_12 ?_
    obtain ⟨o4, H⟩ := H
    refine aw_getI cf_X2 9 (by decide) rfl wd_67 o4 dX10_closing_15 ?_
    refine aw_name (fun v5 e_v5 => ?_)
    replace H := H v5 e_v5
    refine aw_ishr dX10_closing_18 ?_
    refine aw_if_ne (tgt := 55) dX10_closing_19 (by decide) (fun c6 => ?_) (fun c6 => ?_)
    · replace H := a_pos c6 H
      refine aw_bipush (v := (-3)) dX10_closing_55 (by decide) ?_
      exact aw_iret rfl H dX10_closing_57
    · replace H := a_neg2 c6 H
      refine aw_iload dX10_closing_22 0 rfl ?_
      refine aw_iconst (v := 1) dX10_closing_24 (by decide) ?_
      refine aw_bipush (v := 8) dX10_closing_25 (by decide) ?_
      refine aw_callS_i (As := [.int r2, .int 1, .int 8]) (rest := []) (am_X10_within (d + 6) H) mf_X10_within wd_342 wd_343 rfl rfl (Nat.le_of_ble_eq_true rfl) dX10_closing_27 (fun r8 h7 H => ?_)
      refine aw_if_eq (tgt := 55) dX10_closing_30 (by decide) (fun c9 => ?_) (fun c9 => ?_)
      · replace H := a_pos c9 H
        refine aw_bipush (v := (-3)) dX10_closing_55 (by decide) ?_
        exact aw_iret rfl H dX10_closing_57
      · replace H := a_neg c9 H
        refine aw_iload_n dX10_closing_33 rfl 3 rfl ?_
        refine aw_iconst (v := 0) dX10_closing_34 (by decide) ?_
        refine aw_sipush (v := 9999) dX10_closing_35 (by decide) ?_
        refine aw_callS_i (As := [.int a2, .int 0, .int 9999]) (rest := []) (am_X10_within (d + 6) H) mf_X10_within wd_342 wd_343 rfl rfl (Nat.le_of_ble_eq_true rfl) dX10_closing_38 (fun r11 h10 H => ?_)
        refine aw_if_eq (tgt := 55) dX10_closing_41 (by decide) (fun c12 => ?_) (fun c12 => ?_)
        · replace H := a_pos c12 H
          refine aw_bipush (v := (-3)) dX10_closing_55 (by decide) ?_
          exact aw_iret rfl H dX10_closing_57
        · replace H := a_neg c12 H
          refine aw_iload_n dX10_closing_44 rfl 4 rfl ?_
          refine aw_iconst (v := (-1)) dX10_closing_45 (by decide) ?_
          refine aw_icmp_lt (tgt := 55) dX10_closing_46 (by decide) (fun c13 => ?_) (fun c13 => ?_)
          · replace H := a_pos c13 H
            refine aw_bipush (v := (-3)) dX10_closing_55 (by decide) ?_
            exact aw_iret rfl H dX10_closing_57
          · replace H := a_neg c13 H
            refine aw_iload_n dX10_closing_49 rfl 4 rfl ?_
            refine aw_iload dX10_closing_50 0 rfl ?_
            refine aw_icmp_lt (tgt := 58) dX10_closing_52 (by decide) (fun c14 => ?_) (fun c14 => ?_)
            · replace H := a_pos c14 H
              refine aw_aload_n dX10_closing_58 rfl 1 rfl ?_
              refine aw_getR cf_X10 0 (by decide) rfl wd_301 o_k dX10_closing_59 ?_
              refine aw_iload_n dX10_closing_62 rfl 2 rfl ?_
              obtain ⟨o15, H⟩ := H
              refine aw_callV_i (As := [.int a1]) (rest := []) (am_X2_allOpen (d + 4) o15 H) mf_X2_allOpen wd_863 wd_864 wd_865 cf_X2 o15 rfl rfl (Nat.le_of_ble_eq_true rfl) dX10_closing_63 (fun r17 h16 H => ?_)
              refine aw_if_ne (tgt := 72) dX10_closing_66 (by decide) (fun c18 => ?_) (fun c18 => ?_)
              · replace H := a_pos c18 H
                refine aw_aload_n dX10_closing_72 rfl 1 rfl ?_
                refine aw_getR cf_X10 8 (by decide) rfl wd_309 o_k dX10_closing_73 ?_
                refine aw_aload_n dX10_closing_76 rfl 1 rfl ?_
                refine aw_getR cf_X10 0 (by decide) rfl wd_301 o_k dX10_closing_77 ?_
                refine aw_aload_n dX10_closing_80 rfl 1 rfl ?_
                refine aw_getR cf_X10 5 (by decide) rfl wd_306 o_k dX10_closing_81 ?_
                refine aw_iload_n dX10_closing_84 rfl 2 rfl ?_
                refine aw_iload_n dX10_closing_85 rfl 3 rfl ?_
                obtain ⟨o19, H⟩ := H
                obtain ⟨o20, H⟩ := H
                obtain ⟨o21, H⟩ := H
                refine aw_callV_v (As := [.ref (G.2.1 (gR h16 k 0)), .ref (G.2.1 (gR h16 k 5)), .int a1, .int a2]) (rest := []) (am_X0_solve d o19 o20 o21 H) mf_X0_solve wd_868 wd_869 wd_870 cf_X0 o19 rfl rfl (Nat.le_of_ble_eq_true rfl) dX10_closing_86 (fun h22 H => ?_)
                refine aw_iload_n dX10_closing_89 rfl 4 rfl ?_
                refine aw_iconst (v := (-1)) dX10_closing_90 (by decide) ?_
                refine aw_icmp_ne (tgt := 104) dX10_closing_91 (by decide) (fun c23 => ?_) (fun c23 => ?_)
                · replace H := a_pos c23 H
                  refine aw_aload_n dX10_closing_104 rfl 1 rfl ?_
                  refine aw_getR cf_X10 8 (by decide) rfl wd_309 o_k dX10_closing_105 ?_
                  refine aw_iload_n dX10_closing_108 rfl 4 rfl ?_
                  obtain ⟨o24, H⟩ := H
                  refine aw_callV_i (As := [.int a3]) (rest := []) (am_X0_holeAt (d + 4) o24 H) mf_X0_holeAt wd_887 wd_888 wd_889 cf_X0 o24 rfl rfl (Nat.le_of_ble_eq_true rfl) dX10_closing_109 (fun r26 h25 H => ?_)
                  exact aw_iret rfl H dX10_closing_112
                · replace H := a_neg2 c23 H
                  refine aw_aload_n dX10_closing_94 rfl 1 rfl ?_
                  refine aw_getR cf_X10 8 (by decide) rfl wd_309 o_k dX10_closing_95 ?_
                  obtain ⟨o27, H⟩ := H
                  refine aw_callV_i (As := []) (rest := []) (am_X0_cost (d + 6) o27 H) mf_X0_cost wd_883 wd_884 wd_885 cf_X0 o27 rfl rfl (Nat.le_of_ble_eq_true rfl) dX10_closing_98 (fun r29 h28 H => ?_)
                  refine aw_goto (tgt := 112) dX10_closing_101 (by decide) ?_
                  exact aw_iret rfl H dX10_closing_112
              · replace H := a_neg2 c18 H
                refine aw_bipush (v := (-2)) dX10_closing_69 (by decide) ?_
                exact aw_iret rfl H dX10_closing_71
            · replace H := a_neg c14 H
              refine aw_bipush (v := (-3)) dX10_closing_55 (by decide) ?_
              exact aw_iret rfl H dX10_closing_57
set_option maxHeartbeats 4000000 in
set_option maxRecDepth 100000 in
theorem fm_X10_rescue_58 {l : Launch} {S : aS} {G : aG} (d : Nat) {k : Nat} {a1 : Int32} {a2 : Int32} {a3 : Int32} {a4 : Int32} {Q : Int32 → aH → Prop} (o_k : aObj S k 9 flX10)  (h : aH) (H : f_X10_rescue_58 S k a1 a2 a3 a4 Q  h) : AW l S G (d + 6) M_X10_rescue (va_Qi Q (aPo S G) (aA S G)) 58 [(0, .ref (G.2.1 k)), (1, .int a1), (2, .int a2), (3, .int a3), (4, .int a4)] [] h := by
  unfold f_X10_rescue_58 at H
  refine aw_aload_n dX10_rescue_58 rfl 0 rfl ?_
  refine aw_getR cf_X10 9 (by decide) rfl wd_310 o_k dX10_rescue_59 ?_
  refine aw_aload_n dX10_rescue_62 rfl 0 rfl ?_
  refine aw_getR cf_X10 0 (by decide) rfl wd_301 o_k dX10_rescue_63 ?_
  refine aw_aload_n dX10_rescue_66 rfl 0 rfl ?_
  refine aw_getR cf_X10 5 (by decide) rfl wd_306 o_k dX10_rescue_67 ?_
  refine aw_iload_n dX10_rescue_70 rfl 1 rfl ?_
  refine aw_iload_n dX10_rescue_71 rfl 2 rfl ?_
  refine aw_iload_n dX10_rescue_72 rfl 3 rfl ?_
  obtain ⟨o1, H⟩ := H
  obtain ⟨o2, H⟩ := H
  obtain ⟨o3, H⟩ := H
  refine aw_callV_i (As := [.ref (G.2.1 (gR h k 0)), .ref (G.2.1 (gR h k 5)), .int a1, .int a2, .int a3]) (rest := []) (am_X6_solve d o1 o2 o3 H) mf_X6_solve wd_900 wd_901 wd_902 cf_X6 o1 rfl rfl (Nat.le_of_ble_eq_true rfl) dX10_rescue_73 (fun r5 h4 H => ?_)
  refine aw_if_ne (tgt := 82) dX10_rescue_76 (by decide) (fun c6 => ?_) (fun c6 => ?_)
  · replace H := a_pos c6 H
    refine aw_iload dX10_rescue_82 4 rfl ?_
    refine aw_iconst (v := (-1)) dX10_rescue_84 (by decide) ?_
    refine aw_icmp_ne (tgt := 96) dX10_rescue_85 (by decide) (fun c7 => ?_) (fun c7 => ?_)
    · replace H := a_pos c7 H
      refine aw_iload dX10_rescue_96 4 rfl ?_
      refine aw_sipush (v := 500) dX10_rescue_98 (by decide) ?_
      refine aw_icmp_ne (tgt := 112) dX10_rescue_101 (by decide) (fun c8 => ?_) (fun c8 => ?_)
      · replace H := a_pos c8 H
        refine aw_iload dX10_rescue_112 4 rfl ?_
        refine aw_aload_n dX10_rescue_114 rfl 0 rfl ?_
        refine aw_getR cf_X10 9 (by decide) rfl wd_310 o_k dX10_rescue_115 ?_
        obtain ⟨o9, H⟩ := H
        refine aw_callV_i (As := []) (rest := [.int a4]) (am_X6_steps (d + 5) o9 H) mf_X6_steps wd_930 wd_931 wd_932 cf_X6 o9 rfl rfl (Nat.le_of_ble_eq_true rfl) dX10_rescue_118 (fun r11 h10 H => ?_)
        refine aw_icmp_gt (tgt := 136) dX10_rescue_121 (by decide) (fun c12 => ?_) (fun c12 => ?_)
        · replace H := a_pos c12 H
          refine aw_bipush (v := (-3)) dX10_rescue_136 (by decide) ?_
          exact aw_iret rfl H dX10_rescue_138
        · replace H := a_neg c12 H
          refine aw_aload_n dX10_rescue_124 rfl 0 rfl ?_
          refine aw_getR cf_X10 9 (by decide) rfl wd_310 o_k dX10_rescue_125 ?_
          refine aw_iload dX10_rescue_128 4 rfl ?_
          obtain ⟨o13, H⟩ := H
          refine aw_callV_i (As := [.int a4]) (rest := []) (am_X6_squareAt (d + 1) o13 H) mf_X6_squareAt wd_934 wd_935 wd_936 cf_X6 o13 rfl rfl (Nat.le_of_ble_eq_true rfl) dX10_rescue_130 (fun r15 h14 H => ?_)
          refine aw_goto (tgt := 138) dX10_rescue_133 (by decide) ?_
          exact aw_iret rfl H dX10_rescue_138
      · replace H := a_neg2 c8 H
        refine aw_aload_n dX10_rescue_104 rfl 0 rfl ?_
        refine aw_getR cf_X10 9 (by decide) rfl wd_310 o_k dX10_rescue_105 ?_
        obtain ⟨o16, H⟩ := H
        refine aw_callV_i (As := []) (rest := []) (am_X6_steps (d + 5) o16 H) mf_X6_steps wd_930 wd_931 wd_932 cf_X6 o16 rfl rfl (Nat.le_of_ble_eq_true rfl) dX10_rescue_108 (fun r18 h17 H => ?_)
        exact aw_iret rfl H dX10_rescue_111
    · replace H := a_neg2 c7 H
      refine aw_aload_n dX10_rescue_88 rfl 0 rfl ?_
      refine aw_getR cf_X10 9 (by decide) rfl wd_310 o_k dX10_rescue_89 ?_
      obtain ⟨o19, H⟩ := H
      refine aw_callV_i (As := []) (rest := []) (am_X6_planks (d + 5) o19 H) mf_X6_planks wd_926 wd_927 wd_928 cf_X6 o19 rfl rfl (Nat.le_of_ble_eq_true rfl) dX10_rescue_92 (fun r21 h20 H => ?_)
      exact aw_iret rfl H dX10_rescue_95
  · replace H := a_neg2 c6 H
    refine aw_bipush (v := (-2)) dX10_rescue_79 (by decide) ?_
    exact aw_iret rfl H dX10_rescue_81
set_option maxHeartbeats 4000000 in
set_option maxRecDepth 100000 in
theorem am_X10_rescue {l : Launch} {S : aS} {G : aG} (d : Nat) {k : Nat} {a1 : Int32} {a2 : Int32} {a3 : Int32} {a4 : Int32} {h : aH} {Q : Int32 → aH → Prop} (o_k : aObj S k 9 flX10) (H : f_X10_rescue S k a1 a2 a3 a4 h Q) : AMi l S G (d + 6) M_X10_rescue [.ref (G.2.1 k), .int a1, .int a2, .int a3, .int a4] h Q := by
  unfold f_X10_rescue at H
  refine am_of mf_X10_rescue (Nat.le_of_ble_eq_true rfl) (lv0 := [(0, .ref (G.2.1 k)), (1, .int a1), (2, .int a2), (3, .int a3), (4, .int a4)]) rfl ?_
  refine aw_iload dX10_rescue_0 4 rfl ?_
  refine aw_iconst (v := 0) dX10_rescue_2 (by decide) ?_
  refine aw_sipush (v := 255) dX10_rescue_3 (by decide) ?_
  refine aw_callS_i (As := [.int a4, .int 0, .int 255]) (rest := []) (am_X10_within (d + 5) H) mf_X10_within wd_342 wd_343 rfl rfl (Nat.le_of_ble_eq_true rfl) dX10_rescue_6 (fun r23 h22 H => ?_)
  refine aw_istore (lv' := [(5, .int r23), (0, .ref (G.2.1 k)), (1, .int a1), (2, .int a2), (3, .int a3), (4, .int a4)]) dX10_rescue_9 (by decide) rfl ?_
  refine aw_iload_n dX10_rescue_11 rfl 2 rfl ?_
  refine aw_callS_i (As := [.int a1]) (rest := []) (am_X1_hasSquare (d + 5) H) mf_X1_hasSquare wd_899 wd_566 rfl rfl (Nat.le_of_ble_eq_true rfl) dX10_rescue_12 (fun r25 h24 H => ?_)
  refine aw_if_eq (tgt := 55) dX10_rescue_15 (by decide) (fun c26 => ?_) (fun c26 => ?_)
  · replace H := a_pos c26 H
    refine aw_bipush (v := (-3)) dX10_rescue_55 (by decide) ?_
    exact aw_iret rfl H dX10_rescue_57
  · replace H := a_neg c26 H
    refine aw_iload_n dX10_rescue_18 rfl 3 rfl ?_
    refine aw_callS_i (As := [.int a2]) (rest := []) (am_X1_hasSquare (d + 5) H) mf_X1_hasSquare wd_899 wd_566 rfl rfl (Nat.le_of_ble_eq_true rfl) dX10_rescue_19 (fun r28 h27 H => ?_)
    refine aw_if_eq (tgt := 55) dX10_rescue_22 (by decide) (fun c29 => ?_) (fun c29 => ?_)
    · replace H := a_pos c29 H
      refine aw_bipush (v := (-3)) dX10_rescue_55 (by decide) ?_
      exact aw_iret rfl H dX10_rescue_57
    · replace H := a_neg c29 H
      refine aw_iload_n dX10_rescue_25 rfl 4 rfl ?_
      refine aw_iconst (v := 1) dX10_rescue_26 (by decide) ?_
      refine aw_sipush (v := 9999) dX10_rescue_27 (by decide) ?_
      refine aw_callS_i (As := [.int a3, .int 1, .int 9999]) (rest := []) (am_X10_within (d + 5) H) mf_X10_within wd_342 wd_343 rfl rfl (Nat.le_of_ble_eq_true rfl) dX10_rescue_30 (fun r31 h30 H => ?_)
      refine aw_if_eq (tgt := 55) dX10_rescue_33 (by decide) (fun c32 => ?_) (fun c32 => ?_)
      · replace H := a_pos c32 H
        refine aw_bipush (v := (-3)) dX10_rescue_55 (by decide) ?_
        exact aw_iret rfl H dX10_rescue_57
      · replace H := a_neg c32 H
        refine aw_iload dX10_rescue_36 5 rfl ?_
        refine aw_iconst (v := (-1)) dX10_rescue_38 (by decide) ?_
        refine aw_icmp_eq (tgt := 58) dX10_rescue_39 (by decide) (fun c33 => ?_) (fun c33 => ?_)
        · replace H := a_pos c33 H
          refine aw_sub (lv' := [(0, .ref (G.2.1 k)), (1, .int a1), (2, .int a2), (3, .int a3), (4, .int a4)]) [1, 2, 3, 4, 5] rfl ?_
          exact fm_X10_rescue_58 d o_k _ H
        · replace H := a_neg c33 H
          refine aw_iload dX10_rescue_42 5 rfl ?_
          refine aw_sipush (v := 500) dX10_rescue_44 (by decide) ?_
          refine aw_icmp_eq (tgt := 58) dX10_rescue_47 (by decide) (fun c34 => ?_) (fun c34 => ?_)
          · replace H := a_pos c34 H
            refine aw_sub (lv' := [(0, .ref (G.2.1 k)), (1, .int a1), (2, .int a2), (3, .int a3), (4, .int a4)]) [1, 2, 3, 4, 5] rfl ?_
            exact fm_X10_rescue_58 d o_k _ H
          · replace H := a_neg c34 H
            refine aw_iload dX10_rescue_50 0 rfl ?_
            refine aw_if_ne (tgt := 58) dX10_rescue_52 (by decide) (fun c35 => ?_) (fun c35 => ?_)
            · replace H := a_pos c35 H
              refine aw_sub (lv' := [(0, .ref (G.2.1 k)), (1, .int a1), (2, .int a2), (3, .int a3), (4, .int a4)]) [1, 2, 3, 4, 5] rfl ?_
              exact fm_X10_rescue_58 d o_k _ H
            · replace H := a_neg2 c35 H
              refine aw_bipush (v := (-3)) dX10_rescue_55 (by decide) ?_
              exact aw_iret rfl H dX10_rescue_57
