set_option maxHeartbeats 4000000 in
set_option maxRecDepth 100000 in
theorem fm_X11_ends_0 {l : Launch} {S : aS} {G : aG} (d : Nat) {k : Nat} {Q : aH → Prop} (o_k : aObj S k 10 flX11) : ∀ (n : Nat)  (h : aH), f_X11_ends_0 S k Q n  h → AW l S G (d + 2) M_X11_ends (va_Qv Q (aPo S G) (aA S G)) 0 [(0, .ref (G.2.1 k))] [] h := by
  intro n
  induction n with
  | zero => intro h H; exact False.elim H
  | succ n ih =>
    intro h H
    unfold f_X11_ends_0 at H
    refine aw_aload_n dX11_ends_0 rfl 0 rfl ?_
    refine aw_callV_i (As := []) (rest := []) (am_X11_top (d + 1) o_k H) mf_X11_top wd_1338 wd_1340 ws_3_14 cf_X11 o_k rfl rfl (Nat.le_of_ble_eq_true rfl) dX11_ends_1 (fun r2 h1 H => ?_)
    refine aw_bipush (v := 33) dX11_ends_4 (by decide) ?_
    refine aw_icmp_ne (tgt := 38) dX11_ends_6 (by decide) (fun c3 => ?_) (fun c3 => ?_)
    · replace H := a_pos c3 H
      exact aw_vret rfl H dX11_ends_38
    · replace H := a_neg2 c3 H
      refine aw_aload_n dX11_ends_9 rfl 0 rfl ?_
      refine aw_iconst (v := 2) dX11_ends_10 (by decide) ?_
      refine aw_iconst (v := 0) dX11_ends_11 (by decide) ?_
      refine aw_callV_v (As := [.int 2, .int 0]) (rest := []) (am_X11_emit d o_k H) mf_X11_emit wd_1317 wd_1319 ws_3_11 cf_X11 o_k rfl rfl (Nat.le_of_ble_eq_true rfl) dX11_ends_12 (fun h4 H => ?_)
      refine aw_aload_n dX11_ends_15 rfl 0 rfl ?_
      refine aw_dup dX11_ends_16 rfl ?_
      refine aw_getI cf_X11 35 (by decide) rfl wd_1071 o_k dX11_ends_17 ?_
      refine aw_name (fun v5 e_v5 => ?_)
      replace H := H v5 e_v5
      refine aw_iconst (v := 1) dX11_ends_20 (by decide) ?_
      refine aw_isub dX11_ends_21 ?_
      refine aw_putI cf_X11 35 (by decide) rfl wd_1071 rfl rfl rfl o_k dX11_ends_22 ?_
      refine aw_nameH (fun h6 e_h6 => ?_)
      replace H := H h6 e_h6
      refine aw_aload_n dX11_ends_25 rfl 0 rfl ?_
      refine aw_dup dX11_ends_26 rfl ?_
      refine aw_getI cf_X11 34 (by decide) rfl wd_1070 o_k dX11_ends_27 ?_
      refine aw_name (fun v7 e_v7 => ?_)
      replace H := H v7 e_v7
      refine aw_iconst (v := 1) dX11_ends_30 (by decide) ?_
      refine aw_isub dX11_ends_31 ?_
      refine aw_putI cf_X11 34 (by decide) rfl wd_1070 rfl rfl rfl o_k dX11_ends_32 ?_
      refine aw_nameH (fun h8 e_h8 => ?_)
      replace H := H h8 e_h8
      refine aw_goto (tgt := 0) dX11_ends_35 (by decide) ?_
      exact ih _ H
set_option maxHeartbeats 4000000 in
set_option maxRecDepth 100000 in
theorem am_X11_ends {l : Launch} {S : aS} {G : aG} (d : Nat) {k : Nat} {h : aH} {Q : aH → Prop} (o_k : aObj S k 10 flX11) (H : f_X11_ends S k h Q) : AMv l S G (d + 2) M_X11_ends [.ref (G.2.1 k)] h Q := by
  unfold f_X11_ends at H
  refine am_of mf_X11_ends (Nat.le_of_ble_eq_true rfl) (lv0 := [(0, .ref (G.2.1 k))]) rfl ?_
  obtain ⟨n1, H⟩ := H
  exact fm_X11_ends_0 d o_k n1 _ H
set_option maxHeartbeats 4000000 in
set_option maxRecDepth 100000 in
theorem fm_X11_factor_23 {l : Launch} {S : aS} {G : aG} (d : Nat) {k : Nat} {Q : aH → Prop} (o_k : aObj S k 10 flX11)  (h : aH) (H : f_X11_factor_23 S k Q  h) : AW l S G (d + 3) M_X11_factor (va_Qv Q (aPo S G) (aA S G)) 23 [(0, .ref (G.2.1 k))] [] h := by
  unfold f_X11_factor_23 at H
  refine aw_aload_n dX11_factor_23 rfl 0 rfl ?_
  refine aw_callV_i (As := []) (rest := []) (am_X11_isGood (d + 2) o_k H) mf_X11_isGood wd_1275 wd_1277 ws_3_1 cf_X11 o_k rfl rfl (Nat.le_of_ble_eq_true rfl) dX11_factor_24 (fun r2 h1 H => ?_)
  refine aw_if_ne (tgt := 31) dX11_factor_27 (by decide) (fun c3 => ?_) (fun c3 => ?_)
  · replace H := a_pos c3 H
    refine aw_aload_n dX11_factor_31 rfl 0 rfl ?_
    refine aw_callV_i (As := []) (rest := []) (am_X11_seesDigit (d + 1) o_k H) mf_X11_seesDigit wd_1307 wd_1309 ws_3_9 cf_X11 o_k rfl rfl (Nat.le_of_ble_eq_true rfl) dX11_factor_32 (fun r5 h4 H => ?_)
    refine aw_if_eq (tgt := 50) dX11_factor_35 (by decide) (fun c6 => ?_) (fun c6 => ?_)
    · replace H := a_pos c6 H
      refine aw_aload_n dX11_factor_50 rfl 0 rfl ?_
      refine aw_callV_i (As := []) (rest := []) (am_X11_here (d + 2) o_k H) mf_X11_here wd_1283 wd_1285 ws_3_3 cf_X11 o_k rfl rfl (Nat.le_of_ble_eq_true rfl) dX11_factor_51 (fun r8 h7 H => ?_)
      refine aw_callS_i (As := [.int r8]) (rest := []) (am_X11_isValue (d + 2) H) mf_X11_isValue wd_1321 wd_1322 rfl rfl (Nat.le_of_ble_eq_true rfl) dX11_factor_54 (fun r10 h9 H => ?_)
      refine aw_if_eq (tgt := 82) dX11_factor_57 (by decide) (fun c11 => ?_) (fun c11 => ?_)
      · replace H := a_pos c11 H
        refine aw_aload_n dX11_factor_82 rfl 0 rfl ?_
        refine aw_iconst (v := 1) dX11_factor_83 (by decide) ?_
        refine aw_aload_n dX11_factor_84 rfl 0 rfl ?_
        refine aw_getI cf_X11 29 (by decide) rfl wd_1065 o_k dX11_factor_85 ?_
        refine aw_name (fun v12 e_v12 => ?_)
        replace H := H v12 e_v12
        refine aw_callV_v (As := [.int 1, .int v12]) (rest := []) (am_X11_wrongs (d + 2) o_k H) mf_X11_wrongs wd_1287 wd_1289 ws_3_4 cf_X11 o_k rfl rfl (Nat.le_of_ble_eq_true rfl) dX11_factor_88 (fun h13 H => ?_)
        exact aw_vret rfl H dX11_factor_91
      · replace H := a_neg c11 H
        refine aw_aload_n dX11_factor_60 rfl 0 rfl ?_
        refine aw_iconst (v := 1) dX11_factor_61 (by decide) ?_
        refine aw_aload_n dX11_factor_62 rfl 0 rfl ?_
        refine aw_callV_i (As := []) (rest := [.int 1, .ref (G.2.1 k)]) (am_X11_here (d + 2) o_k H) mf_X11_here wd_1283 wd_1285 ws_3_3 cf_X11 o_k rfl rfl (Nat.le_of_ble_eq_true rfl) dX11_factor_63 (fun r15 h14 H => ?_)
        refine aw_callV_v (As := [.int 1, .int r15]) (rest := []) (am_X11_emit (d + 1) o_k H) mf_X11_emit wd_1317 wd_1319 ws_3_11 cf_X11 o_k rfl rfl (Nat.le_of_ble_eq_true rfl) dX11_factor_66 (fun h16 H => ?_)
        refine aw_aload_n dX11_factor_69 rfl 0 rfl ?_
        refine aw_dup dX11_factor_70 rfl ?_
        refine aw_getI cf_X11 29 (by decide) rfl wd_1065 o_k dX11_factor_71 ?_
        refine aw_name (fun v17 e_v17 => ?_)
        replace H := H v17 e_v17
        refine aw_iconst (v := 1) dX11_factor_74 (by decide) ?_
        refine aw_iadd dX11_factor_75 ?_
        refine aw_putI cf_X11 29 (by decide) rfl wd_1065 rfl rfl rfl o_k dX11_factor_76 ?_
        refine aw_nameH (fun h18 e_h18 => ?_)
        replace H := H h18 e_h18
        refine aw_goto (tgt := 91) dX11_factor_79 (by decide) ?_
        exact aw_vret rfl H dX11_factor_91
    · replace H := a_neg c6 H
      refine aw_aload_n dX11_factor_38 rfl 0 rfl ?_
      refine aw_iconst (v := 0) dX11_factor_39 (by decide) ?_
      refine aw_aload_n dX11_factor_40 rfl 0 rfl ?_
      refine aw_callV_i (As := []) (rest := [.int 0, .ref (G.2.1 k)]) (am_X11_reads d o_k H) mf_X11_reads wd_1313 wd_1315 ws_3_10 cf_X11 o_k rfl rfl (Nat.le_of_ble_eq_true rfl) dX11_factor_41 (fun r20 h19 H => ?_)
      refine aw_callV_v (As := [.int 0, .int r20]) (rest := []) (am_X11_emit (d + 1) o_k H) mf_X11_emit wd_1317 wd_1319 ws_3_11 cf_X11 o_k rfl rfl (Nat.le_of_ble_eq_true rfl) dX11_factor_44 (fun h21 H => ?_)
      refine aw_goto (tgt := 91) dX11_factor_47 (by decide) ?_
      exact aw_vret rfl H dX11_factor_91
  · replace H := a_neg2 c3 H
    exact aw_vret rfl H dX11_factor_30
set_option maxHeartbeats 4000000 in
set_option maxRecDepth 100000 in
theorem fm_X11_factor_0 {l : Launch} {S : aS} {G : aG} (d : Nat) {k : Nat} {Q : aH → Prop} (o_k : aObj S k 10 flX11) : ∀ (n : Nat)  (h : aH), f_X11_factor_0 S k Q n  h → AW l S G (d + 3) M_X11_factor (va_Qv Q (aPo S G) (aA S G)) 0 [(0, .ref (G.2.1 k))] [] h := by
  intro n
  induction n with
  | zero => intro h H; exact False.elim H
  | succ n ih =>
    intro h H
    unfold f_X11_factor_0 at H
    refine aw_aload_n dX11_factor_0 rfl 0 rfl ?_
    refine aw_callV_i (As := []) (rest := []) (am_X11_isGood (d + 2) o_k H) mf_X11_isGood wd_1275 wd_1277 ws_3_1 cf_X11 o_k rfl rfl (Nat.le_of_ble_eq_true rfl) dX11_factor_1 (fun r23 h22 H => ?_)
    refine aw_if_eq (tgt := 23) dX11_factor_4 (by decide) (fun c24 => ?_) (fun c24 => ?_)
    · replace H := a_pos c24 H
      exact fm_X11_factor_23 d o_k _ H
    · replace H := a_neg c24 H
      refine aw_aload_n dX11_factor_7 rfl 0 rfl ?_
      refine aw_callV_i (As := []) (rest := []) (am_X11_here (d + 2) o_k H) mf_X11_here wd_1283 wd_1285 ws_3_3 cf_X11 o_k rfl rfl (Nat.le_of_ble_eq_true rfl) dX11_factor_8 (fun r26 h25 H => ?_)
      refine aw_bipush (v := 91) dX11_factor_11 (by decide) ?_
      refine aw_icmp_ne (tgt := 23) dX11_factor_13 (by decide) (fun c27 => ?_) (fun c27 => ?_)
      · replace H := a_pos c27 H
        exact fm_X11_factor_23 d o_k _ H
      · replace H := a_neg2 c27 H
        refine aw_aload_n dX11_factor_16 rfl 0 rfl ?_
        refine aw_callV_v (As := []) (rest := []) (am_X11_opens (d + 1) o_k H) mf_X11_opens wd_1299 wd_1301 ws_3_7 cf_X11 o_k rfl rfl (Nat.le_of_ble_eq_true rfl) dX11_factor_17 (fun h28 H => ?_)
        refine aw_goto (tgt := 0) dX11_factor_20 (by decide) ?_
        exact ih _ H
set_option maxHeartbeats 4000000 in
set_option maxRecDepth 100000 in
theorem am_X11_factor {l : Launch} {S : aS} {G : aG} (d : Nat) {k : Nat} {h : aH} {Q : aH → Prop} (o_k : aObj S k 10 flX11) (H : f_X11_factor S k h Q) : AMv l S G (d + 3) M_X11_factor [.ref (G.2.1 k)] h Q := by
  unfold f_X11_factor at H
  refine am_of mf_X11_factor (Nat.le_of_ble_eq_true rfl) (lv0 := [(0, .ref (G.2.1 k))]) rfl ?_
  obtain ⟨n1, H⟩ := H
  exact fm_X11_factor_0 d o_k n1 _ H
set_option maxHeartbeats 4000000 in
set_option maxRecDepth 100000 in
theorem am_X11_stays {l : Launch} {S : aS} {G : aG} (d : Nat) {k : Nat} {h : aH} {Q : Int32 → aH → Prop} (o_k : aObj S k 10 flX11) (H : f_X11_stays S k h Q) : AMi l S G (d + 3) M_X11_stays [.ref (G.2.1 k)] h Q := by
  unfold f_X11_stays at H
  refine am_of mf_X11_stays (Nat.le_of_ble_eq_true rfl) (lv0 := [(0, .ref (G.2.1 k))]) rfl ?_
  refine aw_aload_n dX11_stays_0 rfl 0 rfl ?_
  refine aw_callV_i (As := []) (rest := []) (am_X11_here (d + 2) o_k H) mf_X11_here wd_1283 wd_1285 ws_3_3 cf_X11 o_k rfl rfl (Nat.le_of_ble_eq_true rfl) dX11_stays_1 (fun r2 h1 H => ?_)
  refine aw_istore_n (lv' := [(1, .int r2), (0, .ref (G.2.1 k))]) dX11_stays_4 rfl (by decide) rfl ?_
  refine aw_iload_n dX11_stays_5 rfl 0 rfl ?_
  refine aw_callS_i (As := [.int r2]) (rest := []) (am_X11_isTimes (d + 2) H) mf_X11_isTimes wd_1328 wd_1329 rfl rfl (Nat.le_of_ble_eq_true rfl) dX11_stays_6 (fun r4 h3 H => ?_)
  refine aw_if_ne (tgt := 19) dX11_stays_9 (by decide) (fun c5 => ?_) (fun c5 => ?_)
  · replace H := a_pos c5 H
    refine aw_aload_n dX11_stays_19 rfl 1 rfl ?_
    refine aw_iload_n dX11_stays_20 rfl 0 rfl ?_
    refine aw_callS_i (As := [.int r2]) (rest := [.ref (G.2.1 k)]) (am_X11_isPlus (d + 2) H) mf_X11_isPlus wd_1331 wd_1332 rfl rfl (Nat.le_of_ble_eq_true rfl) dX11_stays_21 (fun r7 h6 H => ?_)
    refine aw_callV_v (As := [.int r7]) (rest := []) (am_X11_sums d o_k H) mf_X11_sums wd_1334 wd_1336 ws_3_13 cf_X11 o_k rfl rfl (Nat.le_of_ble_eq_true rfl) dX11_stays_24 (fun h8 H => ?_)
    refine aw_aload_n dX11_stays_27 rfl 1 rfl ?_
    refine aw_iload_n dX11_stays_28 rfl 0 rfl ?_
    refine aw_callV_v (As := [.int r2]) (rest := []) (am_X11_puts (d + 2) o_k H) mf_X11_puts wd_1303 wd_1305 ws_3_8 cf_X11 o_k rfl rfl (Nat.le_of_ble_eq_true rfl) dX11_stays_29 (fun h9 H => ?_)
    refine aw_iconst (v := 1) dX11_stays_32 (by decide) ?_
    exact aw_zret rfl rfl H dX11_stays_33
  · replace H := a_neg2 c5 H
    refine aw_iload_n dX11_stays_12 rfl 0 rfl ?_
    refine aw_callS_i (As := [.int r2]) (rest := []) (am_X11_isPlus (d + 2) H) mf_X11_isPlus wd_1331 wd_1332 rfl rfl (Nat.le_of_ble_eq_true rfl) dX11_stays_13 (fun r11 h10 H => ?_)
    refine aw_if_eq (tgt := 34) dX11_stays_16 (by decide) (fun c12 => ?_) (fun c12 => ?_)
    · replace H := a_pos c12 H
      refine aw_aload_n dX11_stays_34 rfl 1 rfl ?_
      refine aw_iconst (v := 1) dX11_stays_35 (by decide) ?_
      refine aw_callV_v (As := [.int 1]) (rest := []) (am_X11_sums d o_k H) mf_X11_sums wd_1334 wd_1336 ws_3_13 cf_X11 o_k rfl rfl (Nat.le_of_ble_eq_true rfl) dX11_stays_36 (fun h13 H => ?_)
      refine aw_iload_n dX11_stays_39 rfl 0 rfl ?_
      refine aw_bipush (v := 93) dX11_stays_40 (by decide) ?_
      refine aw_icmp_eq (tgt := 47) dX11_stays_42 (by decide) (fun c14 => ?_) (fun c14 => ?_)
      · replace H := a_pos c14 H
        refine aw_aload_n dX11_stays_47 rfl 1 rfl ?_
        refine aw_callV_i (As := []) (rest := []) (am_X11_top (d + 2) o_k H) mf_X11_top wd_1338 wd_1340 ws_3_14 cf_X11 o_k rfl rfl (Nat.le_of_ble_eq_true rfl) dX11_stays_48 (fun r16 h15 H => ?_)
        refine aw_bipush (v := 91) dX11_stays_51 (by decide) ?_
        refine aw_icmp_eq (tgt := 67) dX11_stays_53 (by decide) (fun c17 => ?_) (fun c17 => ?_)
        · replace H := a_pos c17 H
          refine aw_aload_n dX11_stays_67 rfl 1 rfl ?_
          refine aw_dup dX11_stays_68 rfl ?_
          refine aw_getI cf_X11 35 (by decide) rfl wd_1071 o_k dX11_stays_69 ?_
          refine aw_name (fun v18 e_v18 => ?_)
          replace H := H v18 e_v18
          refine aw_iconst (v := 1) dX11_stays_72 (by decide) ?_
          refine aw_isub dX11_stays_73 ?_
          refine aw_putI cf_X11 35 (by decide) rfl wd_1071 rfl rfl rfl o_k dX11_stays_74 ?_
          refine aw_nameH (fun h19 e_h19 => ?_)
          replace H := H h19 e_h19
          refine aw_aload_n dX11_stays_77 rfl 1 rfl ?_
          refine aw_dup dX11_stays_78 rfl ?_
          refine aw_getI cf_X11 34 (by decide) rfl wd_1070 o_k dX11_stays_79 ?_
          refine aw_name (fun v20 e_v20 => ?_)
          replace H := H v20 e_v20
          refine aw_iconst (v := 1) dX11_stays_82 (by decide) ?_
          refine aw_isub dX11_stays_83 ?_
          refine aw_putI cf_X11 34 (by decide) rfl wd_1070 rfl rfl rfl o_k dX11_stays_84 ?_
          refine aw_nameH (fun h21 e_h21 => ?_)
          replace H := H h21 e_h21
          refine aw_aload_n dX11_stays_87 rfl 1 rfl ?_
          refine aw_dup dX11_stays_88 rfl ?_
          refine aw_getI cf_X11 29 (by decide) rfl wd_1065 o_k dX11_stays_89 ?_
          refine aw_name (fun v22 e_v22 => ?_)
          replace H := H v22 e_v22
          refine aw_iconst (v := 1) dX11_stays_92 (by decide) ?_
          refine aw_iadd dX11_stays_93 ?_
          refine aw_putI cf_X11 29 (by decide) rfl wd_1065 rfl rfl rfl o_k dX11_stays_94 ?_
          refine aw_nameH (fun h23 e_h23 => ?_)
          replace H := H h23 e_h23
          refine aw_aload_n dX11_stays_97 rfl 1 rfl ?_
          refine aw_iconst (v := 1) dX11_stays_98 (by decide) ?_
          refine aw_putI cf_X11 37 (by decide) rfl wd_1073 rfl (by decide) (by decide) o_k dX11_stays_99 ?_
          refine aw_nameH (fun h24 e_h24 => ?_)
          replace H := H h24 e_h24
          refine aw_iconst (v := 1) dX11_stays_102 (by decide) ?_
          exact aw_zret rfl rfl H dX11_stays_103
        · replace H := a_neg c17 H
          refine aw_aload_n dX11_stays_56 rfl 1 rfl ?_
          refine aw_iconst (v := 1) dX11_stays_57 (by decide) ?_
          refine aw_aload_n dX11_stays_58 rfl 1 rfl ?_
          refine aw_getI cf_X11 29 (by decide) rfl wd_1065 o_k dX11_stays_59 ?_
          refine aw_name (fun v25 e_v25 => ?_)
          replace H := H v25 e_v25
          refine aw_callV_v (As := [.int 1, .int v25]) (rest := []) (am_X11_wrongs (d + 2) o_k H) mf_X11_wrongs wd_1287 wd_1289 ws_3_4 cf_X11 o_k rfl rfl (Nat.le_of_ble_eq_true rfl) dX11_stays_62 (fun h26 H => ?_)
          refine aw_iconst (v := 0) dX11_stays_65 (by decide) ?_
          exact aw_zret rfl rfl H dX11_stays_66
      · replace H := a_neg c14 H
        refine aw_iconst (v := 0) dX11_stays_45 (by decide) ?_
        exact aw_zret rfl rfl H dX11_stays_46
    · replace H := a_neg c12 H
      refine aw_aload_n dX11_stays_19 rfl 1 rfl ?_
      refine aw_iload_n dX11_stays_20 rfl 0 rfl ?_
      refine aw_callS_i (As := [.int r2]) (rest := [.ref (G.2.1 k)]) (am_X11_isPlus (d + 2) H) mf_X11_isPlus wd_1331 wd_1332 rfl rfl (Nat.le_of_ble_eq_true rfl) dX11_stays_21 (fun r28 h27 H => ?_)
      refine aw_callV_v (As := [.int r28]) (rest := []) (am_X11_sums d o_k H) mf_X11_sums wd_1334 wd_1336 ws_3_13 cf_X11 o_k rfl rfl (Nat.le_of_ble_eq_true rfl) dX11_stays_24 (fun h29 H => ?_)
      refine aw_aload_n dX11_stays_27 rfl 1 rfl ?_
      refine aw_iload_n dX11_stays_28 rfl 0 rfl ?_
      refine aw_callV_v (As := [.int r2]) (rest := []) (am_X11_puts (d + 2) o_k H) mf_X11_puts wd_1303 wd_1305 ws_3_8 cf_X11 o_k rfl rfl (Nat.le_of_ble_eq_true rfl) dX11_stays_29 (fun h30 H => ?_)
      refine aw_iconst (v := 1) dX11_stays_32 (by decide) ?_
      exact aw_zret rfl rfl H dX11_stays_33
set_option maxHeartbeats 4000000 in
set_option maxRecDepth 100000 in
theorem fm_X11_value_29 {l : Launch} {S : aS} {G : aG} (d : Nat) {k : Nat} {Q : aH → Prop} (o_k : aObj S k 10 flX11) {K7 : Int32 → aH → Prop} (hK7 : ∀ (x1 : Int32) (h : aH), K7 x1 h → AW l S G (d + 4) M_X11_value (va_Qv Q (aPo S G) (aA S G)) 7 [(0, .ref (G.2.1 k)), (1, .int x1)] [] h)  (h : aH) (H : f_X11_value_29 S k Q K7  h) : AW l S G (d + 4) M_X11_value (va_Qv Q (aPo S G) (aA S G)) 29 [(0, .ref (G.2.1 k))] [] h := by
  unfold f_X11_value_29 at H
  refine aw_aload_n dX11_value_29 rfl 0 rfl ?_
  refine aw_iconst (v := 0) dX11_value_30 (by decide) ?_
  refine aw_putI cf_X11 37 (by decide) rfl wd_1073 rfl (by decide) (by decide) o_k dX11_value_31 ?_
  refine aw_nameH (fun h1 e_h1 => ?_)
  replace H := H h1 e_h1
  refine aw_aload_n dX11_value_34 rfl 0 rfl ?_
  refine aw_callV_i (As := []) (rest := []) (am_X11_isGood (d + 3) o_k H) mf_X11_isGood wd_1275 wd_1277 ws_3_1 cf_X11 o_k rfl rfl (Nat.le_of_ble_eq_true rfl) dX11_value_35 (fun r3 h2 H => ?_)
  refine aw_if_eq (tgt := 52) dX11_value_38 (by decide) (fun c4 => ?_) (fun c4 => ?_)
  · replace H := a_pos c4 H
    refine aw_iconst (v := 0) dX11_value_52 (by decide) ?_
    refine aw_istore_n (lv' := [(1, .int 0), (0, .ref (G.2.1 k))]) dX11_value_53 rfl (by decide) rfl ?_
    refine aw_goto (tgt := 7) dX11_value_54 (by decide) ?_
    refine aw_sub (lv' := [(0, .ref (G.2.1 k)), (1, .int 0)]) [1, 0] rfl ?_
    exact hK7 _ _ H
  · replace H := a_neg c4 H
    refine aw_aload_n dX11_value_41 rfl 0 rfl ?_
    refine aw_callV_i (As := []) (rest := []) (am_X11_stays d o_k H) mf_X11_stays wd_1324 wd_1326 ws_3_12 cf_X11 o_k rfl rfl (Nat.le_of_ble_eq_true rfl) dX11_value_42 (fun r6 h5 H => ?_)
    refine aw_if_eq (tgt := 52) dX11_value_45 (by decide) (fun c7 => ?_) (fun c7 => ?_)
    · replace H := a_pos c7 H
      refine aw_iconst (v := 0) dX11_value_52 (by decide) ?_
      refine aw_istore_n (lv' := [(1, .int 0), (0, .ref (G.2.1 k))]) dX11_value_53 rfl (by decide) rfl ?_
      refine aw_goto (tgt := 7) dX11_value_54 (by decide) ?_
      refine aw_sub (lv' := [(0, .ref (G.2.1 k)), (1, .int 0)]) [1, 0] rfl ?_
      exact hK7 _ _ H
    · replace H := a_neg c7 H
      refine aw_iconst (v := 1) dX11_value_48 (by decide) ?_
      refine aw_goto (tgt := 53) dX11_value_49 (by decide) ?_
      refine aw_istore_n (lv' := [(1, .int 1), (0, .ref (G.2.1 k))]) dX11_value_53 rfl (by decide) rfl ?_
      refine aw_goto (tgt := 7) dX11_value_54 (by decide) ?_
      refine aw_sub (lv' := [(0, .ref (G.2.1 k)), (1, .int 1)]) [1, 0] rfl ?_
      exact hK7 _ _ H
set_option maxHeartbeats 4000000 in
set_option maxRecDepth 100000 in
theorem fm_X11_value_7 {l : Launch} {S : aS} {G : aG} (d : Nat) {k : Nat} {Q : aH → Prop} (o_k : aObj S k 10 flX11) : ∀ (n : Nat) (x1 : Int32) (h : aH), f_X11_value_7 S k Q n x1 h → AW l S G (d + 4) M_X11_value (va_Qv Q (aPo S G) (aA S G)) 7 [(0, .ref (G.2.1 k)), (1, .int x1)] [] h := by
  intro n
  induction n with
  | zero => intro x1 h H; exact False.elim H
  | succ n ih =>
    intro x1 h H
    unfold f_X11_value_7 at H
    refine aw_iload_n dX11_value_7 rfl 1 rfl ?_
    refine aw_if_eq (tgt := 57) dX11_value_8 (by decide) (fun c8 => ?_) (fun c8 => ?_)
    · replace H := a_pos c8 H
      refine aw_aload_n dX11_value_57 rfl 0 rfl ?_
      refine aw_callV_i (As := []) (rest := []) (am_X11_isGood (d + 3) o_k H) mf_X11_isGood wd_1275 wd_1277 ws_3_1 cf_X11 o_k rfl rfl (Nat.le_of_ble_eq_true rfl) dX11_value_58 (fun r10 h9 H => ?_)
      refine aw_if_eq (tgt := 82) dX11_value_61 (by decide) (fun c11 => ?_) (fun c11 => ?_)
      · replace H := a_pos c11 H
        exact aw_vret rfl H dX11_value_82
      · replace H := a_neg c11 H
        refine aw_aload_n dX11_value_64 rfl 0 rfl ?_
        refine aw_callV_i (As := []) (rest := []) (am_X11_top (d + 3) o_k H) mf_X11_top wd_1338 wd_1340 ws_3_14 cf_X11 o_k rfl rfl (Nat.le_of_ble_eq_true rfl) dX11_value_65 (fun r13 h12 H => ?_)
        refine aw_bipush (v := 91) dX11_value_68 (by decide) ?_
        refine aw_icmp_ne (tgt := 82) dX11_value_70 (by decide) (fun c14 => ?_) (fun c14 => ?_)
        · replace H := a_pos c14 H
          exact aw_vret rfl H dX11_value_82
        · replace H := a_neg2 c14 H
          refine aw_aload_n dX11_value_73 rfl 0 rfl ?_
          refine aw_iconst (v := 1) dX11_value_74 (by decide) ?_
          refine aw_aload_n dX11_value_75 rfl 0 rfl ?_
          refine aw_getI cf_X11 29 (by decide) rfl wd_1065 o_k dX11_value_76 ?_
          refine aw_name (fun v15 e_v15 => ?_)
          replace H := H v15 e_v15
          refine aw_callV_v (As := [.int 1, .int v15]) (rest := []) (am_X11_wrongs (d + 3) o_k H) mf_X11_wrongs wd_1287 wd_1289 ws_3_4 cf_X11 o_k rfl rfl (Nat.le_of_ble_eq_true rfl) dX11_value_79 (fun h16 H => ?_)
          exact aw_vret rfl H dX11_value_82
    · replace H := a_neg c8 H
      refine aw_aload_n dX11_value_11 rfl 0 rfl ?_
      refine aw_callV_i (As := []) (rest := []) (am_X11_isGood (d + 3) o_k H) mf_X11_isGood wd_1275 wd_1277 ws_3_1 cf_X11 o_k rfl rfl (Nat.le_of_ble_eq_true rfl) dX11_value_12 (fun r18 h17 H => ?_)
      refine aw_if_eq (tgt := 57) dX11_value_15 (by decide) (fun c19 => ?_) (fun c19 => ?_)
      · replace H := a_pos c19 H
        refine aw_aload_n dX11_value_57 rfl 0 rfl ?_
        refine aw_callV_i (As := []) (rest := []) (am_X11_isGood (d + 3) o_k H) mf_X11_isGood wd_1275 wd_1277 ws_3_1 cf_X11 o_k rfl rfl (Nat.le_of_ble_eq_true rfl) dX11_value_58 (fun r21 h20 H => ?_)
        refine aw_if_eq (tgt := 82) dX11_value_61 (by decide) (fun c22 => ?_) (fun c22 => ?_)
        · replace H := a_pos c22 H
          exact aw_vret rfl H dX11_value_82
        · replace H := a_neg c22 H
          refine aw_aload_n dX11_value_64 rfl 0 rfl ?_
          refine aw_callV_i (As := []) (rest := []) (am_X11_top (d + 3) o_k H) mf_X11_top wd_1338 wd_1340 ws_3_14 cf_X11 o_k rfl rfl (Nat.le_of_ble_eq_true rfl) dX11_value_65 (fun r24 h23 H => ?_)
          refine aw_bipush (v := 91) dX11_value_68 (by decide) ?_
          refine aw_icmp_ne (tgt := 82) dX11_value_70 (by decide) (fun c25 => ?_) (fun c25 => ?_)
          · replace H := a_pos c25 H
            exact aw_vret rfl H dX11_value_82
          · replace H := a_neg2 c25 H
            refine aw_aload_n dX11_value_73 rfl 0 rfl ?_
            refine aw_iconst (v := 1) dX11_value_74 (by decide) ?_
            refine aw_aload_n dX11_value_75 rfl 0 rfl ?_
            refine aw_getI cf_X11 29 (by decide) rfl wd_1065 o_k dX11_value_76 ?_
            refine aw_name (fun v26 e_v26 => ?_)
            replace H := H v26 e_v26
            refine aw_callV_v (As := [.int 1, .int v26]) (rest := []) (am_X11_wrongs (d + 3) o_k H) mf_X11_wrongs wd_1287 wd_1289 ws_3_4 cf_X11 o_k rfl rfl (Nat.le_of_ble_eq_true rfl) dX11_value_79 (fun h27 H => ?_)
            exact aw_vret rfl H dX11_value_82
      · replace H := a_neg c19 H
        refine aw_aload_n dX11_value_18 rfl 0 rfl ?_
        refine aw_getI cf_X11 37 (by decide) rfl wd_1073 o_k dX11_value_19 ?_
        refine aw_name (fun v28 e_v28 => ?_)
        replace H := H v28 e_v28
        refine aw_if_ne (tgt := 29) dX11_value_22 (by decide) (fun c29 => ?_) (fun c29 => ?_)
        · replace H := a_pos c29 H
          refine aw_sub (lv' := [(0, .ref (G.2.1 k))]) [0] rfl ?_
          exact fm_X11_value_29 d o_k ih _ H
        · replace H := a_neg2 c29 H
          refine aw_aload_n dX11_value_25 rfl 0 rfl ?_
          refine aw_callV_v (As := []) (rest := []) (am_X11_factor d o_k H) mf_X11_factor wd_1295 wd_1297 ws_3_6 cf_X11 o_k rfl rfl (Nat.le_of_ble_eq_true rfl) dX11_value_26 (fun h30 H => ?_)
          refine aw_sub (lv' := [(0, .ref (G.2.1 k))]) [0] rfl ?_
          exact fm_X11_value_29 d o_k ih _ H
set_option maxHeartbeats 4000000 in
set_option maxRecDepth 100000 in
theorem am_X11_value {l : Launch} {S : aS} {G : aG} (d : Nat) {k : Nat} {h : aH} {Q : aH → Prop} (o_k : aObj S k 10 flX11) (H : f_X11_value S k h Q) : AMv l S G (d + 4) M_X11_value [.ref (G.2.1 k)] h Q := by
  unfold f_X11_value at H
  refine am_of mf_X11_value (Nat.le_of_ble_eq_true rfl) (lv0 := [(0, .ref (G.2.1 k))]) rfl ?_
  refine aw_iconst (v := 1) dX11_value_0 (by decide) ?_
  refine aw_istore_n (lv' := [(1, .int 1), (0, .ref (G.2.1 k))]) dX11_value_1 rfl (by decide) rfl ?_
  refine aw_aload_n dX11_value_2 rfl 1 rfl ?_
  refine aw_iconst (v := 0) dX11_value_3 (by decide) ?_
  refine aw_putI cf_X11 37 (by decide) rfl wd_1073 rfl (by decide) (by decide) o_k dX11_value_4 ?_
  refine aw_nameH (fun h31 e_h31 => ?_)
  replace H := H h31 e_h31
  refine aw_sub (lv' := [(0, .ref (G.2.1 k)), (1, .int 1)]) [1, 0] rfl ?_
  obtain ⟨n1, H⟩ := H
  exact fm_X11_value_7 d o_k n1 _ _ H
set_option maxHeartbeats 4000000 in
set_option maxRecDepth 100000 in
theorem fm_X11_pieceOfC_43 {l : Launch} {S : aS} {G : aG} (d : Nat) {k : Nat} {Q : aH → Prop} (o_k : aObj S k 10 flX11)  (h : aH) (H : f_X11_pieceOfC_43 S k Q  h) : AW l S G (d + 5) M_X11_pieceOfC (va_Qv Q (aPo S G) (aA S G)) 43 [(0, .ref (G.2.1 k))] [] h := by
  unfold f_X11_pieceOfC_43 at H
  refine aw_aload_n dX11_pieceOfC_43 rfl 0 rfl ?_
  refine aw_callV_i (As := []) (rest := []) (am_X11_isGood (d + 4) o_k H) mf_X11_isGood wd_1275 wd_1277 ws_3_1 cf_X11 o_k rfl rfl (Nat.le_of_ble_eq_true rfl) dX11_pieceOfC_44 (fun r2 h1 H => ?_)
  refine aw_if_ne (tgt := 51) dX11_pieceOfC_47 (by decide) (fun c3 => ?_) (fun c3 => ?_)
  · replace H := a_pos c3 H
    refine aw_aload_n dX11_pieceOfC_51 rfl 0 rfl ?_
    refine aw_callV_i (As := []) (rest := []) (am_X11_here (d + 4) o_k H) mf_X11_here wd_1283 wd_1285 ws_3_3 cf_X11 o_k rfl rfl (Nat.le_of_ble_eq_true rfl) dX11_pieceOfC_52 (fun r5 h4 H => ?_)
    refine aw_istore_n (lv' := [(1, .int r5), (0, .ref (G.2.1 k))]) dX11_pieceOfC_55 rfl (by decide) rfl ?_
    refine aw_iload_n dX11_pieceOfC_56 rfl 0 rfl ?_
    refine aw_callS_i (As := [.int r5]) (rest := []) (am_X11_isSign (d + 4) H) mf_X11_isSign wd_1350 wd_1351 rfl rfl (Nat.le_of_ble_eq_true rfl) dX11_pieceOfC_57 (fun r7 h6 H => ?_)
    refine aw_if_ne (tgt := 73) dX11_pieceOfC_60 (by decide) (fun c8 => ?_) (fun c8 => ?_)
    · replace H := a_pos c8 H
      refine aw_aload_n dX11_pieceOfC_73 rfl 1 rfl ?_
      refine aw_iload_n dX11_pieceOfC_74 rfl 0 rfl ?_
      refine aw_callV_v (As := [.int r5]) (rest := []) (am_X11_puts (d + 4) o_k H) mf_X11_puts wd_1303 wd_1305 ws_3_8 cf_X11 o_k rfl rfl (Nat.le_of_ble_eq_true rfl) dX11_pieceOfC_75 (fun h9 H => ?_)
      refine aw_aload_n dX11_pieceOfC_78 rfl 1 rfl ?_
      refine aw_callV_v (As := []) (rest := []) (am_X11_value d o_k H) mf_X11_value wd_1291 wd_1293 ws_3_5 cf_X11 o_k rfl rfl (Nat.le_of_ble_eq_true rfl) dX11_pieceOfC_79 (fun h10 H => ?_)
      refine aw_aload_n dX11_pieceOfC_82 rfl 1 rfl ?_
      refine aw_callV_i (As := []) (rest := []) (am_X11_isGood (d + 4) o_k H) mf_X11_isGood wd_1275 wd_1277 ws_3_1 cf_X11 o_k rfl rfl (Nat.le_of_ble_eq_true rfl) dX11_pieceOfC_83 (fun r12 h11 H => ?_)
      refine aw_if_ne (tgt := 90) dX11_pieceOfC_86 (by decide) (fun c13 => ?_) (fun c13 => ?_)
      · replace H := a_pos c13 H
        refine aw_aload_n dX11_pieceOfC_90 rfl 1 rfl ?_
        refine aw_aload_n dX11_pieceOfC_91 rfl 1 rfl ?_
        refine aw_callV_i (As := []) (rest := [.ref (G.2.1 k)]) (am_X11_top (d + 4) o_k H) mf_X11_top wd_1338 wd_1340 ws_3_14 cf_X11 o_k rfl rfl (Nat.le_of_ble_eq_true rfl) dX11_pieceOfC_92 (fun r15 h14 H => ?_)
        refine aw_iconst (v := 0) dX11_pieceOfC_95 (by decide) ?_
        refine aw_callV_v (As := [.int r15, .int 0]) (rest := []) (am_X11_emit (d + 3) o_k H) mf_X11_emit wd_1317 wd_1319 ws_3_11 cf_X11 o_k rfl rfl (Nat.le_of_ble_eq_true rfl) dX11_pieceOfC_96 (fun h16 H => ?_)
        refine aw_aload_n dX11_pieceOfC_99 rfl 1 rfl ?_
        refine aw_dup dX11_pieceOfC_100 rfl ?_
        refine aw_getI cf_X11 35 (by decide) rfl wd_1071 o_k dX11_pieceOfC_101 ?_
        refine aw_name (fun v17 e_v17 => ?_)
        replace H := H v17 e_v17
        refine aw_iconst (v := 1) dX11_pieceOfC_104 (by decide) ?_
        refine aw_isub dX11_pieceOfC_105 ?_
        refine aw_putI cf_X11 35 (by decide) rfl wd_1071 rfl rfl rfl o_k dX11_pieceOfC_106 ?_
        refine aw_nameH (fun h18 e_h18 => ?_)
        replace H := H h18 e_h18
        refine aw_aload_n dX11_pieceOfC_109 rfl 1 rfl ?_
        refine aw_callV_v (As := []) (rest := []) (am_X11_ends (d + 2) o_k H) mf_X11_ends wd_1353 wd_1355 ws_4_1 cf_X11 o_k rfl rfl (Nat.le_of_ble_eq_true rfl) dX11_pieceOfC_110 (fun h19 H => ?_)
        exact aw_vret rfl H dX11_pieceOfC_113
      · replace H := a_neg2 c13 H
        exact aw_vret rfl H dX11_pieceOfC_89
    · replace H := a_neg2 c8 H
      refine aw_aload_n dX11_pieceOfC_63 rfl 1 rfl ?_
      refine aw_iconst (v := 1) dX11_pieceOfC_64 (by decide) ?_
      refine aw_aload_n dX11_pieceOfC_65 rfl 1 rfl ?_
      refine aw_getI cf_X11 29 (by decide) rfl wd_1065 o_k dX11_pieceOfC_66 ?_
      refine aw_name (fun v20 e_v20 => ?_)
      replace H := H v20 e_v20
      refine aw_callV_v (As := [.int 1, .int v20]) (rest := []) (am_X11_wrongs (d + 4) o_k H) mf_X11_wrongs wd_1287 wd_1289 ws_3_4 cf_X11 o_k rfl rfl (Nat.le_of_ble_eq_true rfl) dX11_pieceOfC_69 (fun h21 H => ?_)
      exact aw_vret rfl H dX11_pieceOfC_72
  · replace H := a_neg2 c3 H
    exact aw_vret rfl H dX11_pieceOfC_50
set_option maxHeartbeats 4000000 in
set_option maxRecDepth 100000 in
theorem fm_X11_pieceOfC_0 {l : Launch} {S : aS} {G : aG} (d : Nat) {k : Nat} {Q : aH → Prop} (o_k : aObj S k 10 flX11) : ∀ (n : Nat)  (h : aH), f_X11_pieceOfC_0 S k Q n  h → AW l S G (d + 5) M_X11_pieceOfC (va_Qv Q (aPo S G) (aA S G)) 0 [(0, .ref (G.2.1 k))] [] h := by
  intro n
  induction n with
  | zero => intro h H; exact False.elim H
  | succ n ih =>
    intro h H
    unfold f_X11_pieceOfC_0 at H
    refine aw_aload_n dX11_pieceOfC_0 rfl 0 rfl ?_
    refine aw_callV_i (As := []) (rest := []) (am_X11_isGood (d + 4) o_k H) mf_X11_isGood wd_1275 wd_1277 ws_3_1 cf_X11 o_k rfl rfl (Nat.le_of_ble_eq_true rfl) dX11_pieceOfC_1 (fun r23 h22 H => ?_)
    refine aw_if_eq (tgt := 32) dX11_pieceOfC_4 (by decide) (fun c24 => ?_) (fun c24 => ?_)
    · replace H := a_pos c24 H
      refine aw_aload_n dX11_pieceOfC_32 rfl 0 rfl ?_
      refine aw_callV_i (As := []) (rest := []) (am_X11_isGood (d + 4) o_k H) mf_X11_isGood wd_1275 wd_1277 ws_3_1 cf_X11 o_k rfl rfl (Nat.le_of_ble_eq_true rfl) dX11_pieceOfC_33 (fun r26 h25 H => ?_)
      refine aw_if_eq (tgt := 43) dX11_pieceOfC_36 (by decide) (fun c27 => ?_) (fun c27 => ?_)
      · replace H := a_pos c27 H
        exact fm_X11_pieceOfC_43 d o_k _ H
      · replace H := a_neg c27 H
        refine aw_aload_n dX11_pieceOfC_39 rfl 0 rfl ?_
        refine aw_callV_v (As := []) (rest := []) (am_X11_value d o_k H) mf_X11_value wd_1291 wd_1293 ws_3_5 cf_X11 o_k rfl rfl (Nat.le_of_ble_eq_true rfl) dX11_pieceOfC_40 (fun h28 H => ?_)
        exact fm_X11_pieceOfC_43 d o_k _ H
    · replace H := a_neg c24 H
      refine aw_aload_n dX11_pieceOfC_7 rfl 0 rfl ?_
      refine aw_callV_i (As := []) (rest := []) (am_X11_here (d + 4) o_k H) mf_X11_here wd_1283 wd_1285 ws_3_3 cf_X11 o_k rfl rfl (Nat.le_of_ble_eq_true rfl) dX11_pieceOfC_8 (fun r30 h29 H => ?_)
      refine aw_bipush (v := 33) dX11_pieceOfC_11 (by decide) ?_
      refine aw_icmp_eq (tgt := 25) dX11_pieceOfC_13 (by decide) (fun c31 => ?_) (fun c31 => ?_)
      · replace H := a_pos c31 H
        refine aw_aload_n dX11_pieceOfC_25 rfl 0 rfl ?_
        refine aw_callV_v (As := []) (rest := []) (am_X11_opens (d + 3) o_k H) mf_X11_opens wd_1299 wd_1301 ws_3_7 cf_X11 o_k rfl rfl (Nat.le_of_ble_eq_true rfl) dX11_pieceOfC_26 (fun h32 H => ?_)
        refine aw_goto (tgt := 0) dX11_pieceOfC_29 (by decide) ?_
        exact ih _ H
      · replace H := a_neg c31 H
        refine aw_aload_n dX11_pieceOfC_16 rfl 0 rfl ?_
        refine aw_callV_i (As := []) (rest := []) (am_X11_here (d + 4) o_k H) mf_X11_here wd_1283 wd_1285 ws_3_3 cf_X11 o_k rfl rfl (Nat.le_of_ble_eq_true rfl) dX11_pieceOfC_17 (fun r34 h33 H => ?_)
        refine aw_bipush (v := 40) dX11_pieceOfC_20 (by decide) ?_
        refine aw_icmp_ne (tgt := 32) dX11_pieceOfC_22 (by decide) (fun c35 => ?_) (fun c35 => ?_)
        · replace H := a_pos c35 H
          refine aw_aload_n dX11_pieceOfC_32 rfl 0 rfl ?_
          refine aw_callV_i (As := []) (rest := []) (am_X11_isGood (d + 4) o_k H) mf_X11_isGood wd_1275 wd_1277 ws_3_1 cf_X11 o_k rfl rfl (Nat.le_of_ble_eq_true rfl) dX11_pieceOfC_33 (fun r37 h36 H => ?_)
          refine aw_if_eq (tgt := 43) dX11_pieceOfC_36 (by decide) (fun c38 => ?_) (fun c38 => ?_)
          · replace H := a_pos c38 H
            exact fm_X11_pieceOfC_43 d o_k _ H
          · replace H := a_neg c38 H
            refine aw_aload_n dX11_pieceOfC_39 rfl 0 rfl ?_
            refine aw_callV_v (As := []) (rest := []) (am_X11_value d o_k H) mf_X11_value wd_1291 wd_1293 ws_3_5 cf_X11 o_k rfl rfl (Nat.le_of_ble_eq_true rfl) dX11_pieceOfC_40 (fun h39 H => ?_)
            exact fm_X11_pieceOfC_43 d o_k _ H
        · replace H := a_neg2 c35 H
          refine aw_aload_n dX11_pieceOfC_25 rfl 0 rfl ?_
          refine aw_callV_v (As := []) (rest := []) (am_X11_opens (d + 3) o_k H) mf_X11_opens wd_1299 wd_1301 ws_3_7 cf_X11 o_k rfl rfl (Nat.le_of_ble_eq_true rfl) dX11_pieceOfC_26 (fun h40 H => ?_)
          refine aw_goto (tgt := 0) dX11_pieceOfC_29 (by decide) ?_
          exact ih _ H
set_option maxHeartbeats 4000000 in
set_option maxRecDepth 100000 in
theorem am_X11_pieceOfC {l : Launch} {S : aS} {G : aG} (d : Nat) {k : Nat} {h : aH} {Q : aH → Prop} (o_k : aObj S k 10 flX11) (H : f_X11_pieceOfC S k h Q) : AMv l S G (d + 5) M_X11_pieceOfC [.ref (G.2.1 k)] h Q := by
  unfold f_X11_pieceOfC at H
  refine am_of mf_X11_pieceOfC (Nat.le_of_ble_eq_true rfl) (lv0 := [(0, .ref (G.2.1 k))]) rfl ?_
  obtain ⟨n1, H⟩ := H
  exact fm_X11_pieceOfC_0 d o_k n1 _ H
set_option maxHeartbeats 4000000 in
set_option maxRecDepth 100000 in
theorem fm_X11_goesBehind_17 {l : Launch} {S : aS} {G : aG} (d : Nat) {k : Nat} {Q : Int32 → aH → Prop} (o_k : aObj S k 10 flX11) (x1 : Int32) (h : aH) (H : f_X11_goesBehind_17 S k Q x1 h) : AW l S G (d + 3) M_X11_goesBehind (va_Qi Q (aPo S G) (aA S G)) 17 [(0, .ref (G.2.1 k)), (1, .int x1)] [] h := by
  unfold f_X11_goesBehind_17 at H
  refine aw_aload_n dX11_goesBehind_17 rfl 0 rfl ?_
  refine aw_iload_n dX11_goesBehind_18 rfl 1 rfl ?_
  refine aw_bipush (v := 124) dX11_goesBehind_19 (by decide) ?_
  refine aw_icmp_ne (tgt := 28) dX11_goesBehind_21 (by decide) (fun c1 => ?_) (fun c1 => ?_)
  · replace H := a_pos c1 H
    refine aw_iconst (v := 0) dX11_goesBehind_28 (by decide) ?_
    refine aw_callV_v (As := [.int 0]) (rest := []) (am_X11_joins d o_k H) mf_X11_joins wd_1361 wd_1363 ws_4_3 cf_X11 o_k rfl rfl (Nat.le_of_ble_eq_true rfl) dX11_goesBehind_29 (fun h2 H => ?_)
    refine aw_aload_n dX11_goesBehind_32 rfl 0 rfl ?_
    refine aw_iload_n dX11_goesBehind_33 rfl 1 rfl ?_
    refine aw_callV_v (As := [.int x1]) (rest := []) (am_X11_puts (d + 2) o_k H) mf_X11_puts wd_1303 wd_1305 ws_3_8 cf_X11 o_k rfl rfl (Nat.le_of_ble_eq_true rfl) dX11_goesBehind_34 (fun h3 H => ?_)
    refine aw_iconst (v := 1) dX11_goesBehind_37 (by decide) ?_
    exact aw_zret rfl rfl H dX11_goesBehind_38
  · replace H := a_neg2 c1 H
    refine aw_iconst (v := 1) dX11_goesBehind_24 (by decide) ?_
    refine aw_goto (tgt := 29) dX11_goesBehind_25 (by decide) ?_
    refine aw_callV_v (As := [.int 1]) (rest := []) (am_X11_joins d o_k H) mf_X11_joins wd_1361 wd_1363 ws_4_3 cf_X11 o_k rfl rfl (Nat.le_of_ble_eq_true rfl) dX11_goesBehind_29 (fun h4 H => ?_)
    refine aw_aload_n dX11_goesBehind_32 rfl 0 rfl ?_
    refine aw_iload_n dX11_goesBehind_33 rfl 1 rfl ?_
    refine aw_callV_v (As := [.int x1]) (rest := []) (am_X11_puts (d + 2) o_k H) mf_X11_puts wd_1303 wd_1305 ws_3_8 cf_X11 o_k rfl rfl (Nat.le_of_ble_eq_true rfl) dX11_goesBehind_34 (fun h5 H => ?_)
    refine aw_iconst (v := 1) dX11_goesBehind_37 (by decide) ?_
    exact aw_zret rfl rfl H dX11_goesBehind_38
set_option maxHeartbeats 4000000 in
set_option maxRecDepth 100000 in
theorem am_X11_goesBehind {l : Launch} {S : aS} {G : aG} (d : Nat) {k : Nat} {h : aH} {Q : Int32 → aH → Prop} (o_k : aObj S k 10 flX11) (H : f_X11_goesBehind S k h Q) : AMi l S G (d + 3) M_X11_goesBehind [.ref (G.2.1 k)] h Q := by
  unfold f_X11_goesBehind at H
  refine am_of mf_X11_goesBehind (Nat.le_of_ble_eq_true rfl) (lv0 := [(0, .ref (G.2.1 k))]) rfl ?_
  refine aw_aload_n dX11_goesBehind_0 rfl 0 rfl ?_
  refine aw_callV_i (As := []) (rest := []) (am_X11_here (d + 2) o_k H) mf_X11_here wd_1283 wd_1285 ws_3_3 cf_X11 o_k rfl rfl (Nat.le_of_ble_eq_true rfl) dX11_goesBehind_1 (fun r7 h6 H => ?_)
  refine aw_istore_n (lv' := [(1, .int r7), (0, .ref (G.2.1 k))]) dX11_goesBehind_4 rfl (by decide) rfl ?_
  refine aw_iload_n dX11_goesBehind_5 rfl 0 rfl ?_
  refine aw_bipush (v := 38) dX11_goesBehind_6 (by decide) ?_
  refine aw_icmp_eq (tgt := 17) dX11_goesBehind_8 (by decide) (fun c8 => ?_) (fun c8 => ?_)
  · replace H := a_pos c8 H
    refine aw_sub (lv' := [(0, .ref (G.2.1 k)), (1, .int r7)]) [1, 0] rfl ?_
    exact fm_X11_goesBehind_17 d o_k _ _ H
  · replace H := a_neg c8 H
    refine aw_iload_n dX11_goesBehind_11 rfl 0 rfl ?_
    refine aw_bipush (v := 124) dX11_goesBehind_12 (by decide) ?_
    refine aw_icmp_ne (tgt := 39) dX11_goesBehind_14 (by decide) (fun c9 => ?_) (fun c9 => ?_)
    · replace H := a_pos c9 H
      refine aw_iload_n dX11_goesBehind_39 rfl 0 rfl ?_
      refine aw_bipush (v := 41) dX11_goesBehind_40 (by decide) ?_
      refine aw_icmp_eq (tgt := 56) dX11_goesBehind_42 (by decide) (fun c10 => ?_) (fun c10 => ?_)
      · replace H := a_pos c10 H
        refine aw_aload_n dX11_goesBehind_56 rfl 1 rfl ?_
        refine aw_iconst (v := 1) dX11_goesBehind_57 (by decide) ?_
        refine aw_callV_v (As := [.int 1]) (rest := []) (am_X11_joins d o_k H) mf_X11_joins wd_1361 wd_1363 ws_4_3 cf_X11 o_k rfl rfl (Nat.le_of_ble_eq_true rfl) dX11_goesBehind_58 (fun h11 H => ?_)
        refine aw_aload_n dX11_goesBehind_61 rfl 1 rfl ?_
        refine aw_dup dX11_goesBehind_62 rfl ?_
        refine aw_getI cf_X11 35 (by decide) rfl wd_1071 o_k dX11_goesBehind_63 ?_
        refine aw_name (fun v12 e_v12 => ?_)
        replace H := H v12 e_v12
        refine aw_iconst (v := 1) dX11_goesBehind_66 (by decide) ?_
        refine aw_isub dX11_goesBehind_67 ?_
        refine aw_putI cf_X11 35 (by decide) rfl wd_1071 rfl rfl rfl o_k dX11_goesBehind_68 ?_
        refine aw_nameH (fun h13 e_h13 => ?_)
        replace H := H h13 e_h13
        refine aw_aload_n dX11_goesBehind_71 rfl 1 rfl ?_
        refine aw_dup dX11_goesBehind_72 rfl ?_
        refine aw_getI cf_X11 34 (by decide) rfl wd_1070 o_k dX11_goesBehind_73 ?_
        refine aw_name (fun v14 e_v14 => ?_)
        replace H := H v14 e_v14
        refine aw_iconst (v := 1) dX11_goesBehind_76 (by decide) ?_
        refine aw_isub dX11_goesBehind_77 ?_
        refine aw_putI cf_X11 34 (by decide) rfl wd_1070 rfl rfl rfl o_k dX11_goesBehind_78 ?_
        refine aw_nameH (fun h15 e_h15 => ?_)
        replace H := H h15 e_h15
        refine aw_aload_n dX11_goesBehind_81 rfl 1 rfl ?_
        refine aw_dup dX11_goesBehind_82 rfl ?_
        refine aw_getI cf_X11 29 (by decide) rfl wd_1065 o_k dX11_goesBehind_83 ?_
        refine aw_name (fun v16 e_v16 => ?_)
        replace H := H v16 e_v16
        refine aw_iconst (v := 1) dX11_goesBehind_86 (by decide) ?_
        refine aw_iadd dX11_goesBehind_87 ?_
        refine aw_putI cf_X11 29 (by decide) rfl wd_1065 rfl rfl rfl o_k dX11_goesBehind_88 ?_
        refine aw_nameH (fun h17 e_h17 => ?_)
        replace H := H h17 e_h17
        refine aw_aload_n dX11_goesBehind_91 rfl 1 rfl ?_
        refine aw_aload_n dX11_goesBehind_92 rfl 1 rfl ?_
        refine aw_getI cf_X11 35 (by decide) rfl wd_1071 o_k dX11_goesBehind_93 ?_
        refine aw_name (fun v18 e_v18 => ?_)
        replace H := H v18 e_v18
        refine aw_if_ne (tgt := 103) dX11_goesBehind_96 (by decide) (fun c19 => ?_) (fun c19 => ?_)
        · replace H := a_pos c19 H
          refine aw_iconst (v := 0) dX11_goesBehind_103 (by decide) ?_
          refine aw_putI cf_X11 36 (by decide) rfl wd_1072 rfl (by decide) (by decide) o_k dX11_goesBehind_104 ?_
          refine aw_nameH (fun h20 e_h20 => ?_)
          replace H := H h20 e_h20
          refine aw_aload_n dX11_goesBehind_107 rfl 1 rfl ?_
          refine aw_getI cf_X11 36 (by decide) rfl wd_1072 o_k dX11_goesBehind_108 ?_
          refine aw_name (fun v21 e_v21 => ?_)
          replace H := H v21 e_v21
          refine aw_if_ne (tgt := 118) dX11_goesBehind_111 (by decide) (fun c22 => ?_) (fun c22 => ?_)
          · replace H := a_pos c22 H
            refine aw_iconst (v := 0) dX11_goesBehind_118 (by decide) ?_
            exact aw_zret rfl rfl H dX11_goesBehind_119
          · replace H := a_neg2 c22 H
            refine aw_aload_n dX11_goesBehind_114 rfl 1 rfl ?_
            refine aw_callV_v (As := []) (rest := []) (am_X11_ends d o_k H) mf_X11_ends wd_1353 wd_1355 ws_4_1 cf_X11 o_k rfl rfl (Nat.le_of_ble_eq_true rfl) dX11_goesBehind_115 (fun h23 H => ?_)
            refine aw_iconst (v := 0) dX11_goesBehind_118 (by decide) ?_
            exact aw_zret rfl rfl H dX11_goesBehind_119
        · replace H := a_neg2 c19 H
          refine aw_iconst (v := 1) dX11_goesBehind_99 (by decide) ?_
          refine aw_goto (tgt := 104) dX11_goesBehind_100 (by decide) ?_
          refine aw_putI cf_X11 36 (by decide) rfl wd_1072 rfl (by decide) (by decide) o_k dX11_goesBehind_104 ?_
          refine aw_nameH (fun h24 e_h24 => ?_)
          replace H := H h24 e_h24
          refine aw_aload_n dX11_goesBehind_107 rfl 1 rfl ?_
          refine aw_getI cf_X11 36 (by decide) rfl wd_1072 o_k dX11_goesBehind_108 ?_
          refine aw_name (fun v25 e_v25 => ?_)
          replace H := H v25 e_v25
          refine aw_if_ne (tgt := 118) dX11_goesBehind_111 (by decide) (fun c26 => ?_) (fun c26 => ?_)
          · replace H := a_pos c26 H
            refine aw_iconst (v := 0) dX11_goesBehind_118 (by decide) ?_
            exact aw_zret rfl rfl H dX11_goesBehind_119
          · replace H := a_neg2 c26 H
            refine aw_aload_n dX11_goesBehind_114 rfl 1 rfl ?_
            refine aw_callV_v (As := []) (rest := []) (am_X11_ends d o_k H) mf_X11_ends wd_1353 wd_1355 ws_4_1 cf_X11 o_k rfl rfl (Nat.le_of_ble_eq_true rfl) dX11_goesBehind_115 (fun h27 H => ?_)
            refine aw_iconst (v := 0) dX11_goesBehind_118 (by decide) ?_
            exact aw_zret rfl rfl H dX11_goesBehind_119
      · replace H := a_neg c10 H
        refine aw_aload_n dX11_goesBehind_45 rfl 1 rfl ?_
        refine aw_iconst (v := 1) dX11_goesBehind_46 (by decide) ?_
        refine aw_aload_n dX11_goesBehind_47 rfl 1 rfl ?_
        refine aw_getI cf_X11 29 (by decide) rfl wd_1065 o_k dX11_goesBehind_48 ?_
        refine aw_name (fun v28 e_v28 => ?_)
        replace H := H v28 e_v28
        refine aw_callV_v (As := [.int 1, .int v28]) (rest := []) (am_X11_wrongs (d + 2) o_k H) mf_X11_wrongs wd_1287 wd_1289 ws_3_4 cf_X11 o_k rfl rfl (Nat.le_of_ble_eq_true rfl) dX11_goesBehind_51 (fun h29 H => ?_)
        refine aw_iconst (v := 0) dX11_goesBehind_54 (by decide) ?_
        exact aw_zret rfl rfl H dX11_goesBehind_55
    · replace H := a_neg2 c9 H
      refine aw_sub (lv' := [(0, .ref (G.2.1 k)), (1, .int r7)]) [1, 0] rfl ?_
      exact fm_X11_goesBehind_17 d o_k _ _ H
set_option maxHeartbeats 4000000 in
set_option maxRecDepth 100000 in
theorem fm_X11_condition_37 {l : Launch} {S : aS} {G : aG} (d : Nat) {k : Nat} {Q : aH → Prop} (o_k : aObj S k 10 flX11) : ∀ (n : Nat) (x1 : Int32) (h : aH), f_X11_condition_37 S k Q n x1 h → AW l S G (d + 6) M_X11_condition (va_Qv Q (aPo S G) (aA S G)) 37 [(0, .ref (G.2.1 k)), (1, .int x1)] [] h := by
  intro n
  induction n with
  | zero => intro x1 h H; exact False.elim H
  | succ n ih =>
    intro x1 h H
    unfold f_X11_condition_37 at H
    refine aw_aload_n dX11_condition_37 rfl 0 rfl ?_
    refine aw_callV_i (As := []) (rest := []) (am_X11_isGood (d + 5) o_k H) mf_X11_isGood wd_1275 wd_1277 ws_3_1 cf_X11 o_k rfl rfl (Nat.le_of_ble_eq_true rfl) dX11_condition_38 (fun r2 h1 H => ?_)
    refine aw_if_eq (tgt := 74) dX11_condition_41 (by decide) (fun c3 => ?_) (fun c3 => ?_)
    · replace H := a_pos c3 H
      exact aw_vret rfl H dX11_condition_74
    · replace H := a_neg c3 H
      refine aw_aload_n dX11_condition_44 rfl 0 rfl ?_
      refine aw_getI cf_X11 36 (by decide) rfl wd_1072 o_k dX11_condition_45 ?_
      refine aw_name (fun v4 e_v4 => ?_)
      replace H := H v4 e_v4
      refine aw_if_ne (tgt := 74) dX11_condition_48 (by decide) (fun c5 => ?_) (fun c5 => ?_)
      · replace H := a_pos c5 H
        exact aw_vret rfl H dX11_condition_74
      · replace H := a_neg2 c5 H
        refine aw_iload_n dX11_condition_51 rfl 1 rfl ?_
        refine aw_if_eq (tgt := 59) dX11_condition_52 (by decide) (fun c6 => ?_) (fun c6 => ?_)
        · replace H := a_pos c6 H
          refine aw_aload_n dX11_condition_59 rfl 0 rfl ?_
          refine aw_callV_i (As := []) (rest := []) (am_X11_isGood (d + 5) o_k H) mf_X11_isGood wd_1275 wd_1277 ws_3_1 cf_X11 o_k rfl rfl (Nat.le_of_ble_eq_true rfl) dX11_condition_60 (fun r8 h7 H => ?_)
          refine aw_if_eq (tgt := 37) dX11_condition_63 (by decide) (fun c9 => ?_) (fun c9 => ?_)
          · replace H := a_pos c9 H
            exact ih _ _ H
          · replace H := a_neg c9 H
            refine aw_aload_n dX11_condition_66 rfl 0 rfl ?_
            refine aw_callV_i (As := []) (rest := []) (am_X11_goesBehind (d + 2) o_k H) mf_X11_goesBehind wd_1357 wd_1359 ws_4_2 cf_X11 o_k rfl rfl (Nat.le_of_ble_eq_true rfl) dX11_condition_67 (fun r11 h10 H => ?_)
            refine aw_istore_n (lv' := [(1, .int r11), (0, .ref (G.2.1 k))]) dX11_condition_70 rfl (by decide) rfl ?_
            refine aw_goto (tgt := 37) dX11_condition_71 (by decide) ?_
            refine aw_sub (lv' := [(0, .ref (G.2.1 k)), (1, .int r11)]) [1, 0] rfl ?_
            exact ih _ _ H
        · replace H := a_neg c6 H
          refine aw_aload_n dX11_condition_55 rfl 0 rfl ?_
          refine aw_callV_v (As := []) (rest := []) (am_X11_pieceOfC d o_k H) mf_X11_pieceOfC wd_1346 wd_1348 ws_4_0 cf_X11 o_k rfl rfl (Nat.le_of_ble_eq_true rfl) dX11_condition_56 (fun h12 H => ?_)
          refine aw_aload_n dX11_condition_59 rfl 0 rfl ?_
          refine aw_callV_i (As := []) (rest := []) (am_X11_isGood (d + 5) o_k H) mf_X11_isGood wd_1275 wd_1277 ws_3_1 cf_X11 o_k rfl rfl (Nat.le_of_ble_eq_true rfl) dX11_condition_60 (fun r14 h13 H => ?_)
          refine aw_if_eq (tgt := 37) dX11_condition_63 (by decide) (fun c15 => ?_) (fun c15 => ?_)
          · replace H := a_pos c15 H
            exact ih _ _ H
          · replace H := a_neg c15 H
            refine aw_aload_n dX11_condition_66 rfl 0 rfl ?_
            refine aw_callV_i (As := []) (rest := []) (am_X11_goesBehind (d + 2) o_k H) mf_X11_goesBehind wd_1357 wd_1359 ws_4_2 cf_X11 o_k rfl rfl (Nat.le_of_ble_eq_true rfl) dX11_condition_67 (fun r17 h16 H => ?_)
            refine aw_istore_n (lv' := [(1, .int r17), (0, .ref (G.2.1 k))]) dX11_condition_70 rfl (by decide) rfl ?_
            refine aw_goto (tgt := 37) dX11_condition_71 (by decide) ?_
            refine aw_sub (lv' := [(0, .ref (G.2.1 k)), (1, .int r17)]) [1, 0] rfl ?_
            exact ih _ _ H
set_option maxHeartbeats 4000000 in
set_option maxRecDepth 100000 in
theorem am_X11_condition {l : Launch} {S : aS} {G : aG} (d : Nat) {k : Nat} {h : aH} {Q : aH → Prop} (o_k : aObj S k 10 flX11) (H : f_X11_condition S k h Q) : AMv l S G (d + 6) M_X11_condition [.ref (G.2.1 k)] h Q := by
  unfold f_X11_condition at H
  refine am_of mf_X11_condition (Nat.le_of_ble_eq_true rfl) (lv0 := [(0, .ref (G.2.1 k))]) rfl ?_
  refine aw_aload_n dX11_condition_0 rfl 0 rfl ?_
  refine aw_iconst (v := 0) dX11_condition_1 (by decide) ?_
  refine aw_putI cf_X11 36 (by decide) rfl wd_1072 rfl (by decide) (by decide) o_k dX11_condition_2 ?_
  refine aw_nameH (fun h18 e_h18 => ?_)
  replace H := H h18 e_h18
  refine aw_aload_n dX11_condition_5 rfl 0 rfl ?_
  refine aw_callV_i (As := []) (rest := []) (am_X11_here (d + 5) o_k H) mf_X11_here wd_1283 wd_1285 ws_3_3 cf_X11 o_k rfl rfl (Nat.le_of_ble_eq_true rfl) dX11_condition_6 (fun r20 h19 H => ?_)
  refine aw_bipush (v := 40) dX11_condition_9 (by decide) ?_
  refine aw_icmp_eq (tgt := 23) dX11_condition_11 (by decide) (fun c21 => ?_) (fun c21 => ?_)
  · replace H := a_pos c21 H
    refine aw_aload_n dX11_condition_23 rfl 0 rfl ?_
    refine aw_callV_i (As := []) (rest := []) (am_X11_isGood (d + 5) o_k H) mf_X11_isGood wd_1275 wd_1277 ws_3_1 cf_X11 o_k rfl rfl (Nat.le_of_ble_eq_true rfl) dX11_condition_24 (fun r23 h22 H => ?_)
    refine aw_if_ne (tgt := 31) dX11_condition_27 (by decide) (fun c24 => ?_) (fun c24 => ?_)
    · replace H := a_pos c24 H
      refine aw_aload_n dX11_condition_31 rfl 0 rfl ?_
      refine aw_callV_v (As := []) (rest := []) (am_X11_opens (d + 4) o_k H) mf_X11_opens wd_1299 wd_1301 ws_3_7 cf_X11 o_k rfl rfl (Nat.le_of_ble_eq_true rfl) dX11_condition_32 (fun h25 H => ?_)
      refine aw_iconst (v := 1) dX11_condition_35 (by decide) ?_
      refine aw_istore_n (lv' := [(1, .int 1), (0, .ref (G.2.1 k))]) dX11_condition_36 rfl (by decide) rfl ?_
      refine aw_sub (lv' := [(0, .ref (G.2.1 k)), (1, .int 1)]) [1, 0] rfl ?_
      obtain ⟨n1, H⟩ := H
      exact fm_X11_condition_37 d o_k n1 _ _ H
    · replace H := a_neg2 c24 H
      exact aw_vret rfl H dX11_condition_30
  · replace H := a_neg c21 H
    refine aw_aload_n dX11_condition_14 rfl 0 rfl ?_
    refine aw_iconst (v := 1) dX11_condition_15 (by decide) ?_
    refine aw_aload_n dX11_condition_16 rfl 0 rfl ?_
    refine aw_getI cf_X11 29 (by decide) rfl wd_1065 o_k dX11_condition_17 ?_
    refine aw_name (fun v26 e_v26 => ?_)
    replace H := H v26 e_v26
    refine aw_callV_v (As := [.int 1, .int v26]) (rest := []) (am_X11_wrongs (d + 5) o_k H) mf_X11_wrongs wd_1287 wd_1289 ws_3_4 cf_X11 o_k rfl rfl (Nat.le_of_ble_eq_true rfl) dX11_condition_20 (fun h27 H => ?_)
    refine aw_aload_n dX11_condition_23 rfl 0 rfl ?_
    refine aw_callV_i (As := []) (rest := []) (am_X11_isGood (d + 5) o_k H) mf_X11_isGood wd_1275 wd_1277 ws_3_1 cf_X11 o_k rfl rfl (Nat.le_of_ble_eq_true rfl) dX11_condition_24 (fun r29 h28 H => ?_)
    refine aw_if_ne (tgt := 31) dX11_condition_27 (by decide) (fun c30 => ?_) (fun c30 => ?_)
    · replace H := a_pos c30 H
      refine aw_aload_n dX11_condition_31 rfl 0 rfl ?_
      refine aw_callV_v (As := []) (rest := []) (am_X11_opens (d + 4) o_k H) mf_X11_opens wd_1299 wd_1301 ws_3_7 cf_X11 o_k rfl rfl (Nat.le_of_ble_eq_true rfl) dX11_condition_32 (fun h31 H => ?_)
      refine aw_iconst (v := 1) dX11_condition_35 (by decide) ?_
      refine aw_istore_n (lv' := [(1, .int 1), (0, .ref (G.2.1 k))]) dX11_condition_36 rfl (by decide) rfl ?_
      refine aw_sub (lv' := [(0, .ref (G.2.1 k)), (1, .int 1)]) [1, 0] rfl ?_
      obtain ⟨n1, H⟩ := H
      exact fm_X11_condition_37 d o_k n1 _ _ H
    · replace H := a_neg2 c30 H
      exact aw_vret rfl H dX11_condition_30
set_option maxHeartbeats 4000000 in
set_option maxRecDepth 100000 in
theorem fm_X11_clause_59 {l : Launch} {S : aS} {G : aG} (d : Nat) {k : Nat} {Q : aH → Prop} (o_k : aObj S k 10 flX11) (x1 : Int32) (h : aH) (H : f_X11_clause_59 S k Q x1 h) : AW l S G (d + 7) M_X11_clause (va_Qv Q (aPo S G) (aA S G)) 59 [(0, .ref (G.2.1 k)), (1, .int x1)] [] h := by
  unfold f_X11_clause_59 at H
  refine aw_aload_n dX11_clause_59 rfl 0 rfl ?_
  refine aw_callV_i (As := []) (rest := []) (am_X11_isGood (d + 6) o_k H) mf_X11_isGood wd_1275 wd_1277 ws_3_1 cf_X11 o_k rfl rfl (Nat.le_of_ble_eq_true rfl) dX11_clause_60 (fun r2 h1 H => ?_)
  refine aw_if_ne (tgt := 67) dX11_clause_63 (by decide) (fun c3 => ?_) (fun c3 => ?_)
  · replace H := a_pos c3 H
    refine aw_aload_n dX11_clause_67 rfl 0 rfl ?_
    refine aw_getR cf_X11 23 (by decide) rfl wd_1059 o_k dX11_clause_68 ?_
    refine aw_aload_n dX11_clause_71 rfl 0 rfl ?_
    refine aw_getI cf_X11 32 (by decide) rfl wd_1068 o_k dX11_clause_72 ?_
    refine aw_name (fun v4 e_v4 => ?_)
    replace H := H v4 e_v4
    refine aw_iload_n dX11_clause_75 rfl 1 rfl ?_
    obtain ⟨z5, H⟩ := H
    refine aw_iastore z5 dX11_clause_76 ?_
    refine aw_nameH (fun h6 e_h6 => ?_)
    replace H := H h6 e_h6
    refine aw_aload_n dX11_clause_77 rfl 0 rfl ?_
    refine aw_getR cf_X11 24 (by decide) rfl wd_1060 o_k dX11_clause_78 ?_
    refine aw_aload_n dX11_clause_81 rfl 0 rfl ?_
    refine aw_getI cf_X11 32 (by decide) rfl wd_1068 o_k dX11_clause_82 ?_
    refine aw_name (fun v7 e_v7 => ?_)
    replace H := H v7 e_v7
    refine aw_aload_n dX11_clause_85 rfl 0 rfl ?_
    refine aw_getI cf_X11 33 (by decide) rfl wd_1069 o_k dX11_clause_86 ?_
    refine aw_name (fun v8 e_v8 => ?_)
    replace H := H v8 e_v8
    obtain ⟨z9, H⟩ := H
    refine aw_iastore z9 dX11_clause_89 ?_
    refine aw_nameH (fun h10 e_h10 => ?_)
    replace H := H h10 e_h10
    refine aw_aload_n dX11_clause_90 rfl 0 rfl ?_
    refine aw_dup dX11_clause_91 rfl ?_
    refine aw_getI cf_X11 29 (by decide) rfl wd_1065 o_k dX11_clause_92 ?_
    refine aw_name (fun v11 e_v11 => ?_)
    replace H := H v11 e_v11
    refine aw_iconst (v := 1) dX11_clause_95 (by decide) ?_
    refine aw_iadd dX11_clause_96 ?_
    refine aw_putI cf_X11 29 (by decide) rfl wd_1065 rfl rfl rfl o_k dX11_clause_97 ?_
    refine aw_nameH (fun h12 e_h12 => ?_)
    replace H := H h12 e_h12
    refine aw_aload_n dX11_clause_100 rfl 0 rfl ?_
    refine aw_iconst (v := 0) dX11_clause_101 (by decide) ?_
    refine aw_putI cf_X11 35 (by decide) rfl wd_1071 rfl rfl rfl o_k dX11_clause_102 ?_
    refine aw_nameH (fun h13 e_h13 => ?_)
    replace H := H h13 e_h13
    refine aw_aload_n dX11_clause_105 rfl 0 rfl ?_
    refine aw_iconst (v := 0) dX11_clause_106 (by decide) ?_
    refine aw_putI cf_X11 34 (by decide) rfl wd_1070 rfl rfl rfl o_k dX11_clause_107 ?_
    refine aw_nameH (fun h14 e_h14 => ?_)
    replace H := H h14 e_h14
    refine aw_aload_n dX11_clause_110 rfl 0 rfl ?_
    refine aw_callV_v (As := []) (rest := []) (am_X11_value (d + 2) o_k H) mf_X11_value wd_1291 wd_1293 ws_3_5 cf_X11 o_k rfl rfl (Nat.le_of_ble_eq_true rfl) dX11_clause_111 (fun h15 H => ?_)
    refine aw_aload_n dX11_clause_114 rfl 0 rfl ?_
    refine aw_getR cf_X11 25 (by decide) rfl wd_1061 o_k dX11_clause_115 ?_
    refine aw_aload_n dX11_clause_118 rfl 0 rfl ?_
    refine aw_getI cf_X11 32 (by decide) rfl wd_1068 o_k dX11_clause_119 ?_
    refine aw_name (fun v16 e_v16 => ?_)
    replace H := H v16 e_v16
    refine aw_aload_n dX11_clause_122 rfl 0 rfl ?_
    refine aw_getI cf_X11 33 (by decide) rfl wd_1069 o_k dX11_clause_123 ?_
    refine aw_name (fun v17 e_v17 => ?_)
    replace H := H v17 e_v17
    obtain ⟨z18, H⟩ := H
    refine aw_iastore z18 dX11_clause_126 ?_
    refine aw_nameH (fun h19 e_h19 => ?_)
    replace H := H h19 e_h19
    refine aw_aload_n dX11_clause_127 rfl 0 rfl ?_
    refine aw_callV_i (As := []) (rest := []) (am_X11_isGood (d + 6) o_k H) mf_X11_isGood wd_1275 wd_1277 ws_3_1 cf_X11 o_k rfl rfl (Nat.le_of_ble_eq_true rfl) dX11_clause_128 (fun r21 h20 H => ?_)
    refine aw_if_eq (tgt := 138) dX11_clause_131 (by decide) (fun c22 => ?_) (fun c22 => ?_)
    · replace H := a_pos c22 H
      refine aw_aload_n dX11_clause_138 rfl 0 rfl ?_
      refine aw_getR cf_X11 26 (by decide) rfl wd_1062 o_k dX11_clause_139 ?_
      refine aw_aload_n dX11_clause_142 rfl 0 rfl ?_
      refine aw_getI cf_X11 32 (by decide) rfl wd_1068 o_k dX11_clause_143 ?_
      refine aw_name (fun v23 e_v23 => ?_)
      replace H := H v23 e_v23
      refine aw_aload_n dX11_clause_146 rfl 0 rfl ?_
      refine aw_getI cf_X11 33 (by decide) rfl wd_1069 o_k dX11_clause_147 ?_
      refine aw_name (fun v24 e_v24 => ?_)
      replace H := H v24 e_v24
      obtain ⟨z25, H⟩ := H
      refine aw_iastore z25 dX11_clause_150 ?_
      refine aw_nameH (fun h26 e_h26 => ?_)
      replace H := H h26 e_h26
      refine aw_aload_n dX11_clause_151 rfl 0 rfl ?_
      refine aw_dup dX11_clause_152 rfl ?_
      refine aw_getI cf_X11 32 (by decide) rfl wd_1068 o_k dX11_clause_153 ?_
      refine aw_name (fun v27 e_v27 => ?_)
      replace H := H v27 e_v27
      refine aw_iconst (v := 1) dX11_clause_156 (by decide) ?_
      refine aw_iadd dX11_clause_157 ?_
      refine aw_putI cf_X11 32 (by decide) rfl wd_1068 rfl rfl rfl o_k dX11_clause_158 ?_
      refine aw_nameH (fun h28 e_h28 => ?_)
      replace H := H h28 e_h28
      exact aw_vret rfl H dX11_clause_161
    · replace H := a_neg c22 H
      refine aw_aload_n dX11_clause_134 rfl 0 rfl ?_
      refine aw_callV_v (As := []) (rest := []) (am_X11_condition d o_k H) mf_X11_condition wd_1342 wd_1344 ws_3_15 cf_X11 o_k rfl rfl (Nat.le_of_ble_eq_true rfl) dX11_clause_135 (fun h29 H => ?_)
      refine aw_aload_n dX11_clause_138 rfl 0 rfl ?_
      refine aw_getR cf_X11 26 (by decide) rfl wd_1062 o_k dX11_clause_139 ?_
      refine aw_aload_n dX11_clause_142 rfl 0 rfl ?_
      refine aw_getI cf_X11 32 (by decide) rfl wd_1068 o_k dX11_clause_143 ?_
      refine aw_name (fun v30 e_v30 => ?_)
      replace H := H v30 e_v30
      refine aw_aload_n dX11_clause_146 rfl 0 rfl ?_
      refine aw_getI cf_X11 33 (by decide) rfl wd_1069 o_k dX11_clause_147 ?_
      refine aw_name (fun v31 e_v31 => ?_)
      replace H := H v31 e_v31
      obtain ⟨z32, H⟩ := H
      refine aw_iastore z32 dX11_clause_150 ?_
      refine aw_nameH (fun h33 e_h33 => ?_)
      replace H := H h33 e_h33
      refine aw_aload_n dX11_clause_151 rfl 0 rfl ?_
      refine aw_dup dX11_clause_152 rfl ?_
      refine aw_getI cf_X11 32 (by decide) rfl wd_1068 o_k dX11_clause_153 ?_
      refine aw_name (fun v34 e_v34 => ?_)
      replace H := H v34 e_v34
      refine aw_iconst (v := 1) dX11_clause_156 (by decide) ?_
      refine aw_iadd dX11_clause_157 ?_
      refine aw_putI cf_X11 32 (by decide) rfl wd_1068 rfl rfl rfl o_k dX11_clause_158 ?_
      refine aw_nameH (fun h35 e_h35 => ?_)
      replace H := H h35 e_h35
      exact aw_vret rfl H dX11_clause_161
  · replace H := a_neg2 c3 H
    exact aw_vret rfl H dX11_clause_66
set_option maxHeartbeats 4000000 in
set_option maxRecDepth 100000 in
theorem am_X11_clause {l : Launch} {S : aS} {G : aG} (d : Nat) {k : Nat} {h : aH} {Q : aH → Prop} (o_k : aObj S k 10 flX11) (H : f_X11_clause S k h Q) : AMv l S G (d + 7) M_X11_clause [.ref (G.2.1 k)] h Q := by
  unfold f_X11_clause at H
  refine am_of mf_X11_clause (Nat.le_of_ble_eq_true rfl) (lv0 := [(0, .ref (G.2.1 k))]) rfl ?_
  refine aw_aload_n dX11_clause_0 rfl 0 rfl ?_
  refine aw_callV_i (As := []) (rest := []) (am_X11_here (d + 6) o_k H) mf_X11_here wd_1283 wd_1285 ws_3_3 cf_X11 o_k rfl rfl (Nat.le_of_ble_eq_true rfl) dX11_clause_1 (fun r37 h36 H => ?_)
  refine aw_istore_n (lv' := [(1, .int r37), (0, .ref (G.2.1 k))]) dX11_clause_4 rfl (by decide) rfl ?_
  refine aw_iload_n dX11_clause_5 rfl 0 rfl ?_
  refine aw_bipush (v := 98) dX11_clause_6 (by decide) ?_
  refine aw_icmp_eq (tgt := 41) dX11_clause_8 (by decide) (fun c38 => ?_) (fun c38 => ?_)
  · replace H := a_pos c38 H
    refine aw_aload_n dX11_clause_41 rfl 1 rfl ?_
    refine aw_getI cf_X11 32 (by decide) rfl wd_1068 o_k dX11_clause_42 ?_
    refine aw_name (fun v39 e_v39 => ?_)
    replace H := H v39 e_v39
    refine aw_bipush (v := 14) dX11_clause_45 (by decide) ?_
    refine aw_icmp_ne (tgt := 59) dX11_clause_47 (by decide) (fun c40 => ?_) (fun c40 => ?_)
    · replace H := a_pos c40 H
      refine aw_sub (lv' := [(0, .ref (G.2.1 k)), (1, .int r37)]) [1, 0] rfl ?_
      exact fm_X11_clause_59 d o_k _ _ H
    · replace H := a_neg2 c40 H
      refine aw_aload_n dX11_clause_50 rfl 1 rfl ?_
      refine aw_iconst (v := 4) dX11_clause_51 (by decide) ?_
      refine aw_aload_n dX11_clause_52 rfl 1 rfl ?_
      refine aw_getI cf_X11 29 (by decide) rfl wd_1065 o_k dX11_clause_53 ?_
      refine aw_name (fun v41 e_v41 => ?_)
      replace H := H v41 e_v41
      refine aw_callV_v (As := [.int 4, .int v41]) (rest := []) (am_X11_wrongs (d + 6) o_k H) mf_X11_wrongs wd_1287 wd_1289 ws_3_4 cf_X11 o_k rfl rfl (Nat.le_of_ble_eq_true rfl) dX11_clause_56 (fun h42 H => ?_)
      refine aw_sub (lv' := [(0, .ref (G.2.1 k)), (1, .int r37)]) [1, 0] rfl ?_
      exact fm_X11_clause_59 d o_k _ _ H
  · replace H := a_neg c38 H
    refine aw_iload_n dX11_clause_11 rfl 0 rfl ?_
    refine aw_bipush (v := 116) dX11_clause_12 (by decide) ?_
    refine aw_icmp_eq (tgt := 41) dX11_clause_14 (by decide) (fun c43 => ?_) (fun c43 => ?_)
    · replace H := a_pos c43 H
      refine aw_aload_n dX11_clause_41 rfl 1 rfl ?_
      refine aw_getI cf_X11 32 (by decide) rfl wd_1068 o_k dX11_clause_42 ?_
      refine aw_name (fun v44 e_v44 => ?_)
      replace H := H v44 e_v44
      refine aw_bipush (v := 14) dX11_clause_45 (by decide) ?_
      refine aw_icmp_ne (tgt := 59) dX11_clause_47 (by decide) (fun c45 => ?_) (fun c45 => ?_)
      · replace H := a_pos c45 H
        refine aw_sub (lv' := [(0, .ref (G.2.1 k)), (1, .int r37)]) [1, 0] rfl ?_
        exact fm_X11_clause_59 d o_k _ _ H
      · replace H := a_neg2 c45 H
        refine aw_aload_n dX11_clause_50 rfl 1 rfl ?_
        refine aw_iconst (v := 4) dX11_clause_51 (by decide) ?_
        refine aw_aload_n dX11_clause_52 rfl 1 rfl ?_
        refine aw_getI cf_X11 29 (by decide) rfl wd_1065 o_k dX11_clause_53 ?_
        refine aw_name (fun v46 e_v46 => ?_)
        replace H := H v46 e_v46
        refine aw_callV_v (As := [.int 4, .int v46]) (rest := []) (am_X11_wrongs (d + 6) o_k H) mf_X11_wrongs wd_1287 wd_1289 ws_3_4 cf_X11 o_k rfl rfl (Nat.le_of_ble_eq_true rfl) dX11_clause_56 (fun h47 H => ?_)
        refine aw_sub (lv' := [(0, .ref (G.2.1 k)), (1, .int r37)]) [1, 0] rfl ?_
        exact fm_X11_clause_59 d o_k _ _ H
    · replace H := a_neg c43 H
      refine aw_iload_n dX11_clause_17 rfl 0 rfl ?_
      refine aw_bipush (v := 99) dX11_clause_18 (by decide) ?_
      refine aw_icmp_eq (tgt := 41) dX11_clause_20 (by decide) (fun c48 => ?_) (fun c48 => ?_)
      · replace H := a_pos c48 H
        refine aw_aload_n dX11_clause_41 rfl 1 rfl ?_
        refine aw_getI cf_X11 32 (by decide) rfl wd_1068 o_k dX11_clause_42 ?_
        refine aw_name (fun v49 e_v49 => ?_)
        replace H := H v49 e_v49
        refine aw_bipush (v := 14) dX11_clause_45 (by decide) ?_
        refine aw_icmp_ne (tgt := 59) dX11_clause_47 (by decide) (fun c50 => ?_) (fun c50 => ?_)
        · replace H := a_pos c50 H
          refine aw_sub (lv' := [(0, .ref (G.2.1 k)), (1, .int r37)]) [1, 0] rfl ?_
          exact fm_X11_clause_59 d o_k _ _ H
        · replace H := a_neg2 c50 H
          refine aw_aload_n dX11_clause_50 rfl 1 rfl ?_
          refine aw_iconst (v := 4) dX11_clause_51 (by decide) ?_
          refine aw_aload_n dX11_clause_52 rfl 1 rfl ?_
          refine aw_getI cf_X11 29 (by decide) rfl wd_1065 o_k dX11_clause_53 ?_
          refine aw_name (fun v51 e_v51 => ?_)
          replace H := H v51 e_v51
          refine aw_callV_v (As := [.int 4, .int v51]) (rest := []) (am_X11_wrongs (d + 6) o_k H) mf_X11_wrongs wd_1287 wd_1289 ws_3_4 cf_X11 o_k rfl rfl (Nat.le_of_ble_eq_true rfl) dX11_clause_56 (fun h52 H => ?_)
          refine aw_sub (lv' := [(0, .ref (G.2.1 k)), (1, .int r37)]) [1, 0] rfl ?_
          exact fm_X11_clause_59 d o_k _ _ H
      · replace H := a_neg c48 H
        refine aw_iload_n dX11_clause_23 rfl 0 rfl ?_
        refine aw_bipush (v := 103) dX11_clause_24 (by decide) ?_
        refine aw_icmp_eq (tgt := 41) dX11_clause_26 (by decide) (fun c53 => ?_) (fun c53 => ?_)
        · replace H := a_pos c53 H
          refine aw_aload_n dX11_clause_41 rfl 1 rfl ?_
          refine aw_getI cf_X11 32 (by decide) rfl wd_1068 o_k dX11_clause_42 ?_
          refine aw_name (fun v54 e_v54 => ?_)
          replace H := H v54 e_v54
          refine aw_bipush (v := 14) dX11_clause_45 (by decide) ?_
          refine aw_icmp_ne (tgt := 59) dX11_clause_47 (by decide) (fun c55 => ?_) (fun c55 => ?_)
          · replace H := a_pos c55 H
            refine aw_sub (lv' := [(0, .ref (G.2.1 k)), (1, .int r37)]) [1, 0] rfl ?_
            exact fm_X11_clause_59 d o_k _ _ H
          · replace H := a_neg2 c55 H
            refine aw_aload_n dX11_clause_50 rfl 1 rfl ?_
            refine aw_iconst (v := 4) dX11_clause_51 (by decide) ?_
            refine aw_aload_n dX11_clause_52 rfl 1 rfl ?_
            refine aw_getI cf_X11 29 (by decide) rfl wd_1065 o_k dX11_clause_53 ?_
            refine aw_name (fun v56 e_v56 => ?_)
            replace H := H v56 e_v56
            refine aw_callV_v (As := [.int 4, .int v56]) (rest := []) (am_X11_wrongs (d + 6) o_k H) mf_X11_wrongs wd_1287 wd_1289 ws_3_4 cf_X11 o_k rfl rfl (Nat.le_of_ble_eq_true rfl) dX11_clause_56 (fun h57 H => ?_)
            refine aw_sub (lv' := [(0, .ref (G.2.1 k)), (1, .int r37)]) [1, 0] rfl ?_
            exact fm_X11_clause_59 d o_k _ _ H
        · replace H := a_neg c53 H
          refine aw_aload_n dX11_clause_29 rfl 1 rfl ?_
          refine aw_iconst (v := 1) dX11_clause_30 (by decide) ?_
          refine aw_aload_n dX11_clause_31 rfl 1 rfl ?_
          refine aw_getI cf_X11 29 (by decide) rfl wd_1065 o_k dX11_clause_32 ?_
          refine aw_name (fun v58 e_v58 => ?_)
          replace H := H v58 e_v58
          refine aw_callV_v (As := [.int 1, .int v58]) (rest := []) (am_X11_wrongs (d + 6) o_k H) mf_X11_wrongs wd_1287 wd_1289 ws_3_4 cf_X11 o_k rfl rfl (Nat.le_of_ble_eq_true rfl) dX11_clause_35 (fun h59 H => ?_)
          refine aw_goto (tgt := 59) dX11_clause_38 (by decide) ?_
          refine aw_sub (lv' := [(0, .ref (G.2.1 k)), (1, .int r37)]) [1, 0] rfl ?_
          exact fm_X11_clause_59 d o_k _ _ H
set_option maxHeartbeats 4000000 in
set_option maxRecDepth 100000 in
theorem fm_X11_law_92 {l : Launch} {S : aS} {G : aG} (d : Nat) {k : Nat} {a1 : Int32} {Q : Int32 → aH → Prop} (o_k : aObj S k 10 flX11) {K54 : Int32 → aH → Prop} (hK54 : ∀ (x2 : Int32) (h : aH), K54 x2 h → AW l S G (d + 8) M_X11_law (va_Qi Q (aPo S G) (aA S G)) 54 [(0, .ref (G.2.1 k)), (1, .int a1), (2, .int x2)] [] h) (s0 : Int32) (h : aH) (H : f_X11_law_92 S k a1 Q K54 s0 h) : AW l S G (d + 8) M_X11_law (va_Qi Q (aPo S G) (aA S G)) 92 [(0, .ref (G.2.1 k)), (1, .int a1)] [.int s0] h := by
  unfold f_X11_law_92 at H
  refine aw_istore_n (lv' := [(2, .int s0), (0, .ref (G.2.1 k)), (1, .int a1)]) dX11_law_92 rfl (by decide) rfl ?_
  refine aw_iload_n dX11_law_93 rfl 0 rfl ?_
  refine aw_if_eq (tgt := 54) dX11_law_94 (by decide) (fun c1 => ?_) (fun c1 => ?_)
  · replace H := a_pos c1 H
    refine aw_sub (lv' := [(0, .ref (G.2.1 k)), (1, .int a1), (2, .int s0)]) [1, 2, 0] rfl ?_
    exact hK54 _ _ H
  · replace H := a_neg c1 H
    refine aw_aload_n dX11_law_97 rfl 1 rfl ?_
    refine aw_callV_i (As := []) (rest := []) (am_X11_here (d + 7) o_k H) mf_X11_here wd_1283 wd_1285 ws_3_3 cf_X11 o_k rfl rfl (Nat.le_of_ble_eq_true rfl) dX11_law_98 (fun r3 h2 H => ?_)
    refine aw_bipush (v := 59) dX11_law_101 (by decide) ?_
    refine aw_icmp_eq (tgt := 115) dX11_law_103 (by decide) (fun c4 => ?_) (fun c4 => ?_)
    · replace H := a_pos c4 H
      refine aw_aload_n dX11_law_115 rfl 1 rfl ?_
      refine aw_dup dX11_law_116 rfl ?_
      refine aw_getI cf_X11 29 (by decide) rfl wd_1065 o_k dX11_law_117 ?_
      refine aw_name (fun v5 e_v5 => ?_)
      replace H := H v5 e_v5
      refine aw_iconst (v := 1) dX11_law_120 (by decide) ?_
      refine aw_iadd dX11_law_121 ?_
      refine aw_putI cf_X11 29 (by decide) rfl wd_1065 rfl rfl rfl o_k dX11_law_122 ?_
      refine aw_nameH (fun h6 e_h6 => ?_)
      replace H := H h6 e_h6
      refine aw_goto (tgt := 54) dX11_law_125 (by decide) ?_
      refine aw_sub (lv' := [(0, .ref (G.2.1 k)), (1, .int a1), (2, .int s0)]) [1, 2, 0] rfl ?_
      exact hK54 _ _ H
    · replace H := a_neg c4 H
      refine aw_aload_n dX11_law_106 rfl 1 rfl ?_
      refine aw_iconst (v := 1) dX11_law_107 (by decide) ?_
      refine aw_aload_n dX11_law_108 rfl 1 rfl ?_
      refine aw_getI cf_X11 29 (by decide) rfl wd_1065 o_k dX11_law_109 ?_
      refine aw_name (fun v7 e_v7 => ?_)
      replace H := H v7 e_v7
      refine aw_callV_v (As := [.int 1, .int v7]) (rest := []) (am_X11_wrongs (d + 7) o_k H) mf_X11_wrongs wd_1287 wd_1289 ws_3_4 cf_X11 o_k rfl rfl (Nat.le_of_ble_eq_true rfl) dX11_law_112 (fun h8 H => ?_)
      refine aw_aload_n dX11_law_115 rfl 1 rfl ?_
      refine aw_dup dX11_law_116 rfl ?_
      refine aw_getI cf_X11 29 (by decide) rfl wd_1065 o_k dX11_law_117 ?_
      refine aw_name (fun v9 e_v9 => ?_)
      replace H := H v9 e_v9
      refine aw_iconst (v := 1) dX11_law_120 (by decide) ?_
      refine aw_iadd dX11_law_121 ?_
      refine aw_putI cf_X11 29 (by decide) rfl wd_1065 rfl rfl rfl o_k dX11_law_122 ?_
      refine aw_nameH (fun h10 e_h10 => ?_)
      replace H := H h10 e_h10
      refine aw_goto (tgt := 54) dX11_law_125 (by decide) ?_
      refine aw_sub (lv' := [(0, .ref (G.2.1 k)), (1, .int a1), (2, .int s0)]) [1, 2, 0] rfl ?_
      exact hK54 _ _ H
set_option maxHeartbeats 4000000 in
set_option maxRecDepth 100000 in
theorem fm_X11_law_206 {l : Launch} {S : aS} {G : aG} (d : Nat) {k : Nat} {a1 : Int32} {Q : Int32 → aH → Prop} (o_k : aObj S k 10 flX11) : ∀ (n : Nat) (x3 : Int32) (h : aH), f_X11_law_206 S k a1 Q n x3 h → AW l S G (d + 8) M_X11_law (va_Qi Q (aPo S G) (aA S G)) 206 [(0, .ref (G.2.1 k)), (1, .int a1), (3, .int x3)] [] h := by
  intro n
  induction n with
  | zero => intro x3 h H; exact False.elim H
  | succ n ih =>
    intro x3 h H
    unfold f_X11_law_206 at H
    refine aw_iload_n dX11_law_206 rfl 2 rfl ?_
    refine aw_aload_n dX11_law_207 rfl 0 rfl ?_
    refine aw_getI cf_X11 33 (by decide) rfl wd_1069 o_k dX11_law_208 ?_
    refine aw_name (fun v11 e_v11 => ?_)
    replace H := H v11 e_v11
    refine aw_icmp_ge (tgt := 244) dX11_law_211 (by decide) (fun c12 => ?_) (fun c12 => ?_)
    · replace H := a_pos c12 H
      refine aw_aload_n dX11_law_244 rfl 0 rfl ?_
      refine aw_aload_n dX11_law_245 rfl 0 rfl ?_
      refine aw_getI cf_X11 32 (by decide) rfl wd_1068 o_k dX11_law_246 ?_
      refine aw_name (fun v13 e_v13 => ?_)
      replace H := H v13 e_v13
      refine aw_putI cf_X11 16 (by decide) rfl wd_1052 rfl rfl rfl o_k dX11_law_249 ?_
      refine aw_nameH (fun h14 e_h14 => ?_)
      replace H := H h14 e_h14
      refine aw_aload_n dX11_law_252 rfl 0 rfl ?_
      refine aw_getI cf_X11 16 (by decide) rfl wd_1052 o_k dX11_law_253 ?_
      refine aw_name (fun v15 e_v15 => ?_)
      replace H := H v15 e_v15
      exact aw_iret rfl H dX11_law_256
    · replace H := a_neg c12 H
      refine aw_aload_n dX11_law_214 rfl 0 rfl ?_
      refine aw_getR cf_X11 21 (by decide) rfl wd_1057 o_k dX11_law_215 ?_
      refine aw_iload_n dX11_law_218 rfl 2 rfl ?_
      refine aw_aload_n dX11_law_219 rfl 0 rfl ?_
      refine aw_getR cf_X11 27 (by decide) rfl wd_1063 o_k dX11_law_220 ?_
      refine aw_iload_n dX11_law_223 rfl 2 rfl ?_
      obtain ⟨z16, H⟩ := H
      refine aw_iaload z16 dX11_law_224 ?_
      refine aw_name (fun v17 e_v17 => ?_)
      replace H := H v17 e_v17
      obtain ⟨z18, H⟩ := H
      refine aw_iastore z18 dX11_law_225 ?_
      refine aw_nameH (fun h19 e_h19 => ?_)
      replace H := H h19 e_h19
      refine aw_aload_n dX11_law_226 rfl 0 rfl ?_
      refine aw_getR cf_X11 22 (by decide) rfl wd_1058 o_k dX11_law_227 ?_
      refine aw_iload_n dX11_law_230 rfl 2 rfl ?_
      refine aw_aload_n dX11_law_231 rfl 0 rfl ?_
      refine aw_getR cf_X11 28 (by decide) rfl wd_1064 o_k dX11_law_232 ?_
      refine aw_iload_n dX11_law_235 rfl 2 rfl ?_
      obtain ⟨z20, H⟩ := H
      refine aw_iaload z20 dX11_law_236 ?_
      refine aw_name (fun v21 e_v21 => ?_)
      replace H := H v21 e_v21
      obtain ⟨z22, H⟩ := H
      refine aw_iastore z22 dX11_law_237 ?_
      refine aw_nameH (fun h23 e_h23 => ?_)
      replace H := H h23 e_h23
      obtain ⟨x3_24, e_x3_24⟩ : ∃ y : Int32, y = x3 + 1 := ⟨_, rfl⟩
      replace H := H x3_24 e_x3_24
      refine aw_iinc (v := x3_24) (lv' := [(3, .int x3_24), (0, .ref (G.2.1 k)), (1, .int a1)]) dX11_law_238 (n0 := 2) rfl (by rw [e_x3_24]; rfl) (by decide) rfl ?_
      refine aw_goto (tgt := 206) dX11_law_241 (by decide) ?_
      refine aw_sub (lv' := [(0, .ref (G.2.1 k)), (1, .int a1), (3, .int x3_24)]) [1, 2, 0] rfl ?_
      exact ih _ _ H
set_option maxHeartbeats 4000000 in
set_option maxRecDepth 100000 in
theorem fm_X11_law_142 {l : Launch} {S : aS} {G : aG} (d : Nat) {k : Nat} {a1 : Int32} {Q : Int32 → aH → Prop} (o_k : aObj S k 10 flX11) : ∀ (n : Nat) (x3 : Int32) (h : aH), f_X11_law_142 S k a1 Q n x3 h → AW l S G (d + 8) M_X11_law (va_Qi Q (aPo S G) (aA S G)) 142 [(0, .ref (G.2.1 k)), (1, .int a1), (3, .int x3)] [] h := by
  intro n
  induction n with
  | zero => intro x3 h H; exact False.elim H
  | succ n ih =>
    intro x3 h H
    unfold f_X11_law_142 at H
    refine aw_iload_n dX11_law_142 rfl 2 rfl ?_
    refine aw_aload_n dX11_law_143 rfl 0 rfl ?_
    refine aw_getI cf_X11 32 (by decide) rfl wd_1068 o_k dX11_law_144 ?_
    refine aw_name (fun v25 e_v25 => ?_)
    replace H := H v25 e_v25
    refine aw_icmp_ge (tgt := 204) dX11_law_147 (by decide) (fun c26 => ?_) (fun c26 => ?_)
    · replace H := a_pos c26 H
      refine aw_iconst (v := 0) dX11_law_204 (by decide) ?_
      refine aw_istore_n (lv' := [(3, .int 0), (0, .ref (G.2.1 k)), (1, .int a1)]) dX11_law_205 rfl (by decide) rfl ?_
      refine aw_sub (lv' := [(0, .ref (G.2.1 k)), (1, .int a1), (3, .int 0)]) [1, 2, 0] rfl ?_
      obtain ⟨n1, H⟩ := H
      exact fm_X11_law_206 d o_k n1 _ _ H
    · replace H := a_neg c26 H
      refine aw_aload_n dX11_law_150 rfl 0 rfl ?_
      refine aw_getR cf_X11 17 (by decide) rfl wd_1053 o_k dX11_law_151 ?_
      refine aw_iload_n dX11_law_154 rfl 2 rfl ?_
      refine aw_aload_n dX11_law_155 rfl 0 rfl ?_
      refine aw_getR cf_X11 23 (by decide) rfl wd_1059 o_k dX11_law_156 ?_
      refine aw_iload_n dX11_law_159 rfl 2 rfl ?_
      obtain ⟨z27, H⟩ := H
      refine aw_iaload z27 dX11_law_160 ?_
      refine aw_name (fun v28 e_v28 => ?_)
      replace H := H v28 e_v28
      obtain ⟨z29, H⟩ := H
      refine aw_iastore z29 dX11_law_161 ?_
      refine aw_nameH (fun h30 e_h30 => ?_)
      replace H := H h30 e_h30
      refine aw_aload_n dX11_law_162 rfl 0 rfl ?_
      refine aw_getR cf_X11 18 (by decide) rfl wd_1054 o_k dX11_law_163 ?_
      refine aw_iload_n dX11_law_166 rfl 2 rfl ?_
      refine aw_aload_n dX11_law_167 rfl 0 rfl ?_
      refine aw_getR cf_X11 24 (by decide) rfl wd_1060 o_k dX11_law_168 ?_
      refine aw_iload_n dX11_law_171 rfl 2 rfl ?_
      obtain ⟨z31, H⟩ := H
      refine aw_iaload z31 dX11_law_172 ?_
      refine aw_name (fun v32 e_v32 => ?_)
      replace H := H v32 e_v32
      obtain ⟨z33, H⟩ := H
      refine aw_iastore z33 dX11_law_173 ?_
      refine aw_nameH (fun h34 e_h34 => ?_)
      replace H := H h34 e_h34
      refine aw_aload_n dX11_law_174 rfl 0 rfl ?_
      refine aw_getR cf_X11 19 (by decide) rfl wd_1055 o_k dX11_law_175 ?_
      refine aw_iload_n dX11_law_178 rfl 2 rfl ?_
      refine aw_aload_n dX11_law_179 rfl 0 rfl ?_
      refine aw_getR cf_X11 25 (by decide) rfl wd_1061 o_k dX11_law_180 ?_
      refine aw_iload_n dX11_law_183 rfl 2 rfl ?_
      obtain ⟨z35, H⟩ := H
      refine aw_iaload z35 dX11_law_184 ?_
      refine aw_name (fun v36 e_v36 => ?_)
      replace H := H v36 e_v36
      obtain ⟨z37, H⟩ := H
      refine aw_iastore z37 dX11_law_185 ?_
      refine aw_nameH (fun h38 e_h38 => ?_)
      replace H := H h38 e_h38
      refine aw_aload_n dX11_law_186 rfl 0 rfl ?_
      refine aw_getR cf_X11 20 (by decide) rfl wd_1056 o_k dX11_law_187 ?_
      refine aw_iload_n dX11_law_190 rfl 2 rfl ?_
      refine aw_aload_n dX11_law_191 rfl 0 rfl ?_
      refine aw_getR cf_X11 26 (by decide) rfl wd_1062 o_k dX11_law_192 ?_
      refine aw_iload_n dX11_law_195 rfl 2 rfl ?_
      obtain ⟨z39, H⟩ := H
      refine aw_iaload z39 dX11_law_196 ?_
      refine aw_name (fun v40 e_v40 => ?_)
      replace H := H v40 e_v40
      obtain ⟨z41, H⟩ := H
      refine aw_iastore z41 dX11_law_197 ?_
      refine aw_nameH (fun h42 e_h42 => ?_)
      replace H := H h42 e_h42
      obtain ⟨x3_43, e_x3_43⟩ : ∃ y : Int32, y = x3 + 1 := ⟨_, rfl⟩
      replace H := H x3_43 e_x3_43
      refine aw_iinc (v := x3_43) (lv' := [(3, .int x3_43), (0, .ref (G.2.1 k)), (1, .int a1)]) dX11_law_198 (n0 := 2) rfl (by rw [e_x3_43]; rfl) (by decide) rfl ?_
      refine aw_goto (tgt := 142) dX11_law_201 (by decide) ?_
      refine aw_sub (lv' := [(0, .ref (G.2.1 k)), (1, .int a1), (3, .int x3_43)]) [1, 2, 0] rfl ?_
      exact ih _ _ H
set_option maxHeartbeats 4000000 in
set_option maxRecDepth 100000 in
theorem fm_X11_law_54 {l : Launch} {S : aS} {G : aG} (d : Nat) {k : Nat} {a1 : Int32} {Q : Int32 → aH → Prop} (o_k : aObj S k 10 flX11) : ∀ (n : Nat) (x2 : Int32) (h : aH), f_X11_law_54 S k a1 Q n x2 h → AW l S G (d + 8) M_X11_law (va_Qi Q (aPo S G) (aA S G)) 54 [(0, .ref (G.2.1 k)), (1, .int a1), (2, .int x2)] [] h := by
  intro n
  induction n with
  | zero => intro x2 h H; exact False.elim H
  | succ n ih =>
    intro x2 h H
    unfold f_X11_law_54 at H
    refine aw_iload_n dX11_law_54 rfl 2 rfl ?_
    refine aw_if_eq (tgt := 128) dX11_law_55 (by decide) (fun c44 => ?_) (fun c44 => ?_)
    · replace H := a_pos c44 H
      refine aw_aload_n dX11_law_128 rfl 0 rfl ?_
      refine aw_getI cf_X11 31 (by decide) rfl wd_1067 o_k dX11_law_129 ?_
      refine aw_name (fun v45 e_v45 => ?_)
      replace H := H v45 e_v45
      refine aw_if_ge (tgt := 140) dX11_law_132 (by decide) (fun c46 => ?_) (fun c46 => ?_)
      · replace H := a_pos c46 H
        refine aw_iconst (v := 0) dX11_law_140 (by decide) ?_
        refine aw_istore_n (lv' := [(3, .int 0), (0, .ref (G.2.1 k)), (1, .int a1), (2, .int x2)]) dX11_law_141 rfl (by decide) rfl ?_
        refine aw_sub (lv' := [(0, .ref (G.2.1 k)), (1, .int a1), (3, .int 0)]) [1, 2, 0] rfl ?_
        obtain ⟨n1, H⟩ := H
        exact fm_X11_law_142 d o_k n1 _ _ H
      · replace H := a_neg c46 H
        refine aw_aload_n dX11_law_135 rfl 0 rfl ?_
        refine aw_getI cf_X11 31 (by decide) rfl wd_1067 o_k dX11_law_136 ?_
        refine aw_name (fun v47 e_v47 => ?_)
        replace H := H v47 e_v47
        exact aw_iret rfl H dX11_law_139
    · replace H := a_neg c44 H
      refine aw_aload_n dX11_law_58 rfl 0 rfl ?_
      refine aw_callV_i (As := []) (rest := []) (am_X11_isGood (d + 7) o_k H) mf_X11_isGood wd_1275 wd_1277 ws_3_1 cf_X11 o_k rfl rfl (Nat.le_of_ble_eq_true rfl) dX11_law_59 (fun r49 h48 H => ?_)
      refine aw_if_eq (tgt := 128) dX11_law_62 (by decide) (fun c50 => ?_) (fun c50 => ?_)
      · replace H := a_pos c50 H
        refine aw_aload_n dX11_law_128 rfl 0 rfl ?_
        refine aw_getI cf_X11 31 (by decide) rfl wd_1067 o_k dX11_law_129 ?_
        refine aw_name (fun v51 e_v51 => ?_)
        replace H := H v51 e_v51
        refine aw_if_ge (tgt := 140) dX11_law_132 (by decide) (fun c52 => ?_) (fun c52 => ?_)
        · replace H := a_pos c52 H
          refine aw_iconst (v := 0) dX11_law_140 (by decide) ?_
          refine aw_istore_n (lv' := [(3, .int 0), (0, .ref (G.2.1 k)), (1, .int a1), (2, .int x2)]) dX11_law_141 rfl (by decide) rfl ?_
          refine aw_sub (lv' := [(0, .ref (G.2.1 k)), (1, .int a1), (3, .int 0)]) [1, 2, 0] rfl ?_
          obtain ⟨n1, H⟩ := H
          exact fm_X11_law_142 d o_k n1 _ _ H
        · replace H := a_neg c52 H
          refine aw_aload_n dX11_law_135 rfl 0 rfl ?_
          refine aw_getI cf_X11 31 (by decide) rfl wd_1067 o_k dX11_law_136 ?_
          refine aw_name (fun v53 e_v53 => ?_)
          replace H := H v53 e_v53
          exact aw_iret rfl H dX11_law_139
      · replace H := a_neg c50 H
        refine aw_aload_n dX11_law_65 rfl 0 rfl ?_
        refine aw_callV_v (As := []) (rest := []) (am_X11_clause d o_k H) mf_X11_clause wd_1279 wd_1281 ws_3_2 cf_X11 o_k rfl rfl (Nat.le_of_ble_eq_true rfl) dX11_law_66 (fun h54 H => ?_)
        refine aw_aload_n dX11_law_69 rfl 0 rfl ?_
        refine aw_callV_i (As := []) (rest := []) (am_X11_isGood (d + 7) o_k H) mf_X11_isGood wd_1275 wd_1277 ws_3_1 cf_X11 o_k rfl rfl (Nat.le_of_ble_eq_true rfl) dX11_law_70 (fun r56 h55 H => ?_)
        refine aw_if_eq (tgt := 91) dX11_law_73 (by decide) (fun c57 => ?_) (fun c57 => ?_)
        · replace H := a_pos c57 H
          refine aw_iconst (v := 0) dX11_law_91 (by decide) ?_
          refine aw_sub (lv' := [(0, .ref (G.2.1 k)), (1, .int a1)]) [0, 1] rfl ?_
          exact fm_X11_law_92 d o_k ih _ _ H
        · replace H := a_neg c57 H
          refine aw_aload_n dX11_law_76 rfl 0 rfl ?_
          refine aw_getI cf_X11 29 (by decide) rfl wd_1065 o_k dX11_law_77 ?_
          refine aw_name (fun v58 e_v58 => ?_)
          replace H := H v58 e_v58
          refine aw_aload_n dX11_law_80 rfl 0 rfl ?_
          refine aw_getI cf_X11 30 (by decide) rfl wd_1066 o_k dX11_law_81 ?_
          refine aw_name (fun v59 e_v59 => ?_)
          replace H := H v59 e_v59
          refine aw_icmp_ge (tgt := 91) dX11_law_84 (by decide) (fun c60 => ?_) (fun c60 => ?_)
          · replace H := a_pos c60 H
            refine aw_iconst (v := 0) dX11_law_91 (by decide) ?_
            refine aw_sub (lv' := [(0, .ref (G.2.1 k)), (1, .int a1)]) [0, 1] rfl ?_
            exact fm_X11_law_92 d o_k ih _ _ H
          · replace H := a_neg c60 H
            refine aw_iconst (v := 1) dX11_law_87 (by decide) ?_
            refine aw_goto (tgt := 92) dX11_law_88 (by decide) ?_
            refine aw_sub (lv' := [(0, .ref (G.2.1 k)), (1, .int a1)]) [0, 1] rfl ?_
            exact fm_X11_law_92 d o_k ih _ _ H
set_option maxHeartbeats 4000000 in
set_option maxRecDepth 100000 in
theorem am_X11_law {l : Launch} {S : aS} {G : aG} (d : Nat) {k : Nat} {a1 : Int32} {h : aH} {Q : Int32 → aH → Prop} (o_k : aObj S k 10 flX11) (H : f_X11_law S k a1 h Q) : AMi l S G (d + 8) M_X11_law [.ref (G.2.1 k), .int a1] h Q := by
  unfold f_X11_law at H
  refine am_of mf_X11_law (Nat.le_of_ble_eq_true rfl) (lv0 := [(0, .ref (G.2.1 k)), (1, .int a1)]) rfl ?_
  refine aw_iload_n dX11_law_0 rfl 1 rfl ?_
  refine aw_i2l dX11_law_1 ?_
  refine aw_lconst (v := 1) dX11_law_2 (by decide) ?_
  refine aw_ldc2 (v := 200) dX11_law_3 wd_1274 ?_
  refine aw_callS_i (As := [.long (a1).toInt64, .long 1, .long 200]) (rest := []) (am_X11_lies (d + 7) H) mf_X11_lies wd_1258 wd_1259 rfl rfl (Nat.le_of_ble_eq_true rfl) dX11_law_6 (fun r62 h61 H => ?_)
  refine aw_if_eq (tgt := 20) dX11_law_9 (by decide) (fun c63 => ?_) (fun c63 => ?_)
  · replace H := a_pos c63 H
    refine aw_iconst (v := (-1)) dX11_law_20 (by decide) ?_
    exact aw_iret rfl H dX11_law_21
  · replace H := a_neg c63 H
    refine aw_iload_n dX11_law_12 rfl 1 rfl ?_
    refine aw_aload_n dX11_law_13 rfl 0 rfl ?_
    refine aw_getI cf_X11 1 (by decide) rfl wd_1037 o_k dX11_law_14 ?_
    refine aw_name (fun v64 e_v64 => ?_)
    replace H := H v64 e_v64
    refine aw_icmp_le (tgt := 22) dX11_law_17 (by decide) (fun c65 => ?_) (fun c65 => ?_)
    · replace H := a_pos c65 H
      refine aw_aload_n dX11_law_22 rfl 0 rfl ?_
      refine aw_iconst (v := 0) dX11_law_23 (by decide) ?_
      refine aw_putI cf_X11 1 (by decide) rfl wd_1037 rfl rfl rfl o_k dX11_law_24 ?_
      refine aw_nameH (fun h66 e_h66 => ?_)
      replace H := H h66 e_h66
      refine aw_aload_n dX11_law_27 rfl 0 rfl ?_
      refine aw_iconst (v := 0) dX11_law_28 (by decide) ?_
      refine aw_putI cf_X11 29 (by decide) rfl wd_1065 rfl rfl rfl o_k dX11_law_29 ?_
      refine aw_nameH (fun h67 e_h67 => ?_)
      replace H := H h67 e_h67
      refine aw_aload_n dX11_law_32 rfl 0 rfl ?_
      refine aw_iload_n dX11_law_33 rfl 1 rfl ?_
      refine aw_putI cf_X11 30 (by decide) rfl wd_1066 rfl rfl rfl o_k dX11_law_34 ?_
      refine aw_nameH (fun h68 e_h68 => ?_)
      replace H := H h68 e_h68
      refine aw_aload_n dX11_law_37 rfl 0 rfl ?_
      refine aw_iconst (v := 0) dX11_law_38 (by decide) ?_
      refine aw_putI cf_X11 31 (by decide) rfl wd_1067 rfl rfl rfl o_k dX11_law_39 ?_
      refine aw_nameH (fun h69 e_h69 => ?_)
      replace H := H h69 e_h69
      refine aw_aload_n dX11_law_42 rfl 0 rfl ?_
      refine aw_iconst (v := 0) dX11_law_43 (by decide) ?_
      refine aw_putI cf_X11 32 (by decide) rfl wd_1068 rfl rfl rfl o_k dX11_law_44 ?_
      refine aw_nameH (fun h70 e_h70 => ?_)
      replace H := H h70 e_h70
      refine aw_aload_n dX11_law_47 rfl 0 rfl ?_
      refine aw_iconst (v := 0) dX11_law_48 (by decide) ?_
      refine aw_putI cf_X11 33 (by decide) rfl wd_1069 rfl rfl rfl o_k dX11_law_49 ?_
      refine aw_nameH (fun h71 e_h71 => ?_)
      replace H := H h71 e_h71
      refine aw_iconst (v := 1) dX11_law_52 (by decide) ?_
      refine aw_istore_n (lv' := [(2, .int 1), (0, .ref (G.2.1 k)), (1, .int a1)]) dX11_law_53 rfl (by decide) rfl ?_
      refine aw_sub (lv' := [(0, .ref (G.2.1 k)), (1, .int a1), (2, .int 1)]) [1, 2, 0] rfl ?_
      obtain ⟨n1, H⟩ := H
      exact fm_X11_law_54 d o_k n1 _ _ H
    · replace H := a_neg c65 H
      refine aw_iconst (v := (-1)) dX11_law_20 (by decide) ?_
      exact aw_iret rfl H dX11_law_21
set_option maxHeartbeats 4000000 in
set_option maxRecDepth 100000 in
theorem fm_X11_nearGroups_4 {l : Launch} {S : aS} {G : aG} (d : Nat) {k : Nat} {a1 : Int32} {Q : Int32 → aH → Prop} (o_k : aObj S k 10 flX11) : ∀ (n : Nat) (x2 : Int32) (x3 : Int32) (h : aH), f_X11_nearGroups_4 S k a1 Q n x2 x3 h → AW l S G (d + 2) M_X11_nearGroups (va_Qi Q (aPo S G) (aA S G)) 4 [(0, .ref (G.2.1 k)), (1, .int a1), (2, .int x2), (3, .int x3)] [] h := by
  intro n
  induction n with
  | zero => intro x2 x3 h H; exact False.elim H
  | succ n ih =>
    intro x2 x3 h H
    unfold f_X11_nearGroups_4 at H
    refine aw_iload_n dX11_nearGroups_4 rfl 3 rfl ?_
    refine aw_aload_n dX11_nearGroups_5 rfl 0 rfl ?_
    refine aw_getI cf_X11 3 (by decide) rfl wd_1039 o_k dX11_nearGroups_6 ?_
    refine aw_name (fun v1 e_v1 => ?_)
    replace H := H v1 e_v1
    refine aw_icmp_ge (tgt := 51) dX11_nearGroups_9 (by decide) (fun c2 => ?_) (fun c2 => ?_)
    · replace H := a_pos c2 H
      refine aw_iload_n dX11_nearGroups_51 rfl 2 rfl ?_
      exact aw_iret rfl H dX11_nearGroups_52
    · replace H := a_neg c2 H
      refine aw_iload_n dX11_nearGroups_12 rfl 2 rfl ?_
      refine aw_aload_n dX11_nearGroups_13 rfl 0 rfl ?_
      refine aw_getR cf_X11 14 (by decide) rfl wd_1050 o_k dX11_nearGroups_14 ?_
      refine aw_iload_n dX11_nearGroups_17 rfl 3 rfl ?_
      obtain ⟨z3, H⟩ := H
      refine aw_iaload z3 dX11_nearGroups_18 ?_
      refine aw_name (fun v4 e_v4 => ?_)
      replace H := H v4 e_v4
      refine aw_bipush (v := (-2)) dX11_nearGroups_19 (by decide) ?_
      refine aw_icmp_eq (tgt := 42) dX11_nearGroups_21 (by decide) (fun c5 => ?_) (fun c5 => ?_)
      · replace H := a_pos c5 H
        refine aw_iconst (v := 0) dX11_nearGroups_42 (by decide) ?_
        refine aw_iadd dX11_nearGroups_43 ?_
        refine aw_name (fun x2_6 e_x2_6 => ?_)
        replace H := H x2_6 e_x2_6
        refine aw_istore_n (lv' := [(2, .int x2_6), (0, .ref (G.2.1 k)), (1, .int a1), (3, .int x3)]) dX11_nearGroups_44 rfl (by decide) rfl ?_
        obtain ⟨x3_7, e_x3_7⟩ : ∃ y : Int32, y = x3 + 1 := ⟨_, rfl⟩
        replace H := H x3_7 e_x3_7
        refine aw_iinc (v := x3_7) (lv' := [(3, .int x3_7), (2, .int x2_6), (0, .ref (G.2.1 k)), (1, .int a1)]) dX11_nearGroups_45 (n0 := 3) rfl (by rw [e_x3_7]; rfl) (by decide) rfl ?_
        refine aw_goto (tgt := 4) dX11_nearGroups_48 (by decide) ?_
        refine aw_sub (lv' := [(0, .ref (G.2.1 k)), (1, .int a1), (2, .int x2_6), (3, .int x3_7)]) [2, 3, 1, 0] rfl ?_
        exact ih _ _ _ H
      · replace H := a_neg c5 H
        refine aw_aload_n dX11_nearGroups_24 rfl 0 rfl ?_
        refine aw_getR cf_X11 14 (by decide) rfl wd_1050 o_k dX11_nearGroups_25 ?_
        refine aw_iload_n dX11_nearGroups_28 rfl 3 rfl ?_
        obtain ⟨z8, H⟩ := H
        refine aw_iaload z8 dX11_nearGroups_29 ?_
        refine aw_name (fun v9 e_v9 => ?_)
        replace H := H v9 e_v9
        refine aw_iload_n dX11_nearGroups_30 rfl 1 rfl ?_
        refine aw_callS_i (As := [.int v9, .int a1]) (rest := [.int x2]) (am_X11_wayOf d H) mf_X11_wayOf wd_1424 wd_1425 rfl rfl (Nat.le_of_ble_eq_true rfl) dX11_nearGroups_31 (fun r11 h10 H => ?_)
        refine aw_iconst (v := 2) dX11_nearGroups_34 (by decide) ?_
        refine aw_icmp_ge (tgt := 42) dX11_nearGroups_35 (by decide) (fun c12 => ?_) (fun c12 => ?_)
        · replace H := a_pos c12 H
          refine aw_iconst (v := 0) dX11_nearGroups_42 (by decide) ?_
          refine aw_iadd dX11_nearGroups_43 ?_
          refine aw_name (fun x2_13 e_x2_13 => ?_)
          replace H := H x2_13 e_x2_13
          refine aw_istore_n (lv' := [(2, .int x2_13), (0, .ref (G.2.1 k)), (1, .int a1), (3, .int x3)]) dX11_nearGroups_44 rfl (by decide) rfl ?_
          obtain ⟨x3_14, e_x3_14⟩ : ∃ y : Int32, y = x3 + 1 := ⟨_, rfl⟩
          replace H := H x3_14 e_x3_14
          refine aw_iinc (v := x3_14) (lv' := [(3, .int x3_14), (2, .int x2_13), (0, .ref (G.2.1 k)), (1, .int a1)]) dX11_nearGroups_45 (n0 := 3) rfl (by rw [e_x3_14]; rfl) (by decide) rfl ?_
          refine aw_goto (tgt := 4) dX11_nearGroups_48 (by decide) ?_
          refine aw_sub (lv' := [(0, .ref (G.2.1 k)), (1, .int a1), (2, .int x2_13), (3, .int x3_14)]) [2, 3, 1, 0] rfl ?_
          exact ih _ _ _ H
        · replace H := a_neg c12 H
          refine aw_iconst (v := 1) dX11_nearGroups_38 (by decide) ?_
          refine aw_goto (tgt := 43) dX11_nearGroups_39 (by decide) ?_
          refine aw_iadd dX11_nearGroups_43 ?_
          refine aw_name (fun x2_15 e_x2_15 => ?_)
          replace H := H x2_15 e_x2_15
          refine aw_istore_n (lv' := [(2, .int x2_15), (0, .ref (G.2.1 k)), (1, .int a1), (3, .int x3)]) dX11_nearGroups_44 rfl (by decide) rfl ?_
          obtain ⟨x3_16, e_x3_16⟩ : ∃ y : Int32, y = x3 + 1 := ⟨_, rfl⟩
          replace H := H x3_16 e_x3_16
          refine aw_iinc (v := x3_16) (lv' := [(3, .int x3_16), (2, .int x2_15), (0, .ref (G.2.1 k)), (1, .int a1)]) dX11_nearGroups_45 (n0 := 3) rfl (by rw [e_x3_16]; rfl) (by decide) rfl ?_
          refine aw_goto (tgt := 4) dX11_nearGroups_48 (by decide) ?_
          refine aw_sub (lv' := [(0, .ref (G.2.1 k)), (1, .int a1), (2, .int x2_15), (3, .int x3_16)]) [2, 3, 1, 0] rfl ?_
          exact ih _ _ _ H
set_option maxHeartbeats 4000000 in
set_option maxRecDepth 100000 in
theorem am_X11_nearGroups {l : Launch} {S : aS} {G : aG} (d : Nat) {k : Nat} {a1 : Int32} {h : aH} {Q : Int32 → aH → Prop} (o_k : aObj S k 10 flX11) (H : f_X11_nearGroups S k a1 h Q) : AMi l S G (d + 2) M_X11_nearGroups [.ref (G.2.1 k), .int a1] h Q := by
  unfold f_X11_nearGroups at H
  refine am_of mf_X11_nearGroups (Nat.le_of_ble_eq_true rfl) (lv0 := [(0, .ref (G.2.1 k)), (1, .int a1)]) rfl ?_
  refine aw_iconst (v := 0) dX11_nearGroups_0 (by decide) ?_
  refine aw_istore_n (lv' := [(2, .int 0), (0, .ref (G.2.1 k)), (1, .int a1)]) dX11_nearGroups_1 rfl (by decide) rfl ?_
  refine aw_iconst (v := 0) dX11_nearGroups_2 (by decide) ?_
  refine aw_istore_n (lv' := [(3, .int 0), (2, .int 0), (0, .ref (G.2.1 k)), (1, .int a1)]) dX11_nearGroups_3 rfl (by decide) rfl ?_
  refine aw_sub (lv' := [(0, .ref (G.2.1 k)), (1, .int a1), (2, .int 0), (3, .int 0)]) [2, 3, 1, 0] rfl ?_
  obtain ⟨n1, H⟩ := H
  exact fm_X11_nearGroups_4 d o_k n1 _ _ _ H
set_option maxHeartbeats 4000000 in
set_option maxRecDepth 100000 in
theorem am_X11_drawnBy {l : Launch} {S : aS} {G : aG} (d : Nat) {k : Nat} {a1 : Int32} {h : aH} {Q : Int32 → aH → Prop} (o_k : aObj S k 10 flX11) (H : f_X11_drawnBy S k a1 h Q) : AMi l S G (d + 3) M_X11_drawnBy [.ref (G.2.1 k), .int a1] h Q := by
  unfold f_X11_drawnBy at H
  refine am_of mf_X11_drawnBy (Nat.le_of_ble_eq_true rfl) (lv0 := [(0, .ref (G.2.1 k)), (1, .int a1)]) rfl ?_
  refine aw_iload_n dX11_drawnBy_0 rfl 1 rfl ?_
  by_cases c1_0 : a1 = 100
  · replace H := a_pos c1_0 H
    refine aw_lookup (off := 63) (tgt := 64) dX11_drawnBy_1 (by decide) (by rw [c1_0]; decide) (by decide) ?_
    refine aw_aload_n dX11_drawnBy_64 rfl 0 rfl ?_
    refine aw_getI cf_X11 39 (by decide) rfl wd_1075 o_k dX11_drawnBy_65 ?_
    refine aw_name (fun v2 e_v2 => ?_)
    replace H := H v2 e_v2
    refine aw_aload_n dX11_drawnBy_68 rfl 0 rfl ?_
    refine aw_getR cf_X11 14 (by decide) rfl wd_1050 o_k dX11_drawnBy_69 ?_
    refine aw_aload_n dX11_drawnBy_72 rfl 0 rfl ?_
    refine aw_getI cf_X11 42 (by decide) rfl wd_1078 o_k dX11_drawnBy_73 ?_
    refine aw_name (fun v3 e_v3 => ?_)
    replace H := H v3 e_v3
    obtain ⟨z4, H⟩ := H
    refine aw_iaload z4 dX11_drawnBy_76 ?_
    refine aw_name (fun v5 e_v5 => ?_)
    replace H := H v5 e_v5
    refine aw_callS_i (As := [.int v2, .int v5]) (rest := []) (am_X11_wayOf (d + 1) H) mf_X11_wayOf wd_1424 wd_1425 rfl rfl (Nat.le_of_ble_eq_true rfl) dX11_drawnBy_77 (fun r7 h6 H => ?_)
    exact aw_iret rfl H dX11_drawnBy_80
  · replace H := a_neg c1_0 H
    by_cases c1_1 : a1 = 112
    · replace H := a_pos c1_1 H
      refine aw_lookup (off := 53) (tgt := 54) dX11_drawnBy_1 (by decide) (by rw [c1_1]; decide) (by decide) ?_
      refine aw_aload_n dX11_drawnBy_54 rfl 0 rfl ?_
      refine aw_getR cf_X11 13 (by decide) rfl wd_1049 o_k dX11_drawnBy_55 ?_
      refine aw_aload_n dX11_drawnBy_58 rfl 0 rfl ?_
      refine aw_getI cf_X11 41 (by decide) rfl wd_1077 o_k dX11_drawnBy_59 ?_
      refine aw_name (fun v8 e_v8 => ?_)
      replace H := H v8 e_v8
      obtain ⟨z9, H⟩ := H
      refine aw_iaload z9 dX11_drawnBy_62 ?_
      refine aw_name (fun v10 e_v10 => ?_)
      replace H := H v10 e_v10
      exact aw_iret rfl H dX11_drawnBy_63
    · replace H := a_neg c1_1 H
      by_cases c1_2 : a1 = 115
      · replace H := a_pos c1_2 H
        refine aw_lookup (off := 43) (tgt := 44) dX11_drawnBy_1 (by decide) (by rw [c1_2]; decide) (by decide) ?_
        refine aw_aload_n dX11_drawnBy_44 rfl 0 rfl ?_
        refine aw_getR cf_X11 12 (by decide) rfl wd_1048 o_k dX11_drawnBy_45 ?_
        refine aw_aload_n dX11_drawnBy_48 rfl 0 rfl ?_
        refine aw_getI cf_X11 41 (by decide) rfl wd_1077 o_k dX11_drawnBy_49 ?_
        refine aw_name (fun v11 e_v11 => ?_)
        replace H := H v11 e_v11
        obtain ⟨z12, H⟩ := H
        refine aw_iaload z12 dX11_drawnBy_52 ?_
        refine aw_name (fun v13 e_v13 => ?_)
        replace H := H v13 e_v13
        exact aw_iret rfl H dX11_drawnBy_53
      · replace H := a_neg c1_2 H
        by_cases c1_3 : a1 = 119
        · replace H := a_pos c1_3 H
          refine aw_lookup (off := 80) (tgt := 81) dX11_drawnBy_1 (by decide) (by rw [c1_3]; decide) (by decide) ?_
          refine aw_aload_n dX11_drawnBy_81 rfl 0 rfl ?_
          refine aw_getR cf_X11 15 (by decide) rfl wd_1051 o_k dX11_drawnBy_82 ?_
          refine aw_aload_n dX11_drawnBy_85 rfl 0 rfl ?_
          refine aw_getI cf_X11 42 (by decide) rfl wd_1078 o_k dX11_drawnBy_86 ?_
          refine aw_name (fun v14 e_v14 => ?_)
          replace H := H v14 e_v14
          obtain ⟨z15, H⟩ := H
          refine aw_iaload z15 dX11_drawnBy_89 ?_
          refine aw_name (fun v16 e_v16 => ?_)
          replace H := H v16 e_v16
          exact aw_iret rfl H dX11_drawnBy_90
        · replace H := a_neg c1_3 H
          have t0 := a_ne (n := 100) (v := 100) (by decide) c1_0
          have t1 := a_ne (n := 112) (v := 112) (by decide) c1_1
          have t2 := a_ne (n := 115) (v := 115) (by decide) c1_2
          have t3 := a_ne (n := 119) (v := 119) (by decide) c1_3
          refine aw_lookup (off := 90) (tgt := 91) dX11_drawnBy_1 (by decide) (by simp [Op.lookupswitch.offset, t0, t1, t2, t3, Ne.symm t0, Ne.symm t1, Ne.symm t2, Ne.symm t3]) (by decide) ?_
          refine aw_aload_n dX11_drawnBy_91 rfl 0 rfl ?_
          refine aw_aload_n dX11_drawnBy_92 rfl 0 rfl ?_
          refine aw_getI cf_X11 39 (by decide) rfl wd_1075 o_k dX11_drawnBy_93 ?_
          refine aw_name (fun v17 e_v17 => ?_)
          replace H := H v17 e_v17
          refine aw_callV_i (As := [.int v17]) (rest := []) (am_X11_nearGroups d o_k H) mf_X11_nearGroups wd_1430 wd_1432 ws_4_15 cf_X11 o_k rfl rfl (Nat.le_of_ble_eq_true rfl) dX11_drawnBy_96 (fun r19 h18 H => ?_)
          exact aw_iret rfl H dX11_drawnBy_99
