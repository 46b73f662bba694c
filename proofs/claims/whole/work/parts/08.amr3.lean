set_option maxHeartbeats 4000000 in
set_option maxRecDepth 100000 in
theorem am_X11_valueOf {l : Launch} {S : aS} {G : aG} (d : Nat) {k : Nat} {a1 : Int32} {h : aH} {Q : Int32 → aH → Prop} (o_k : aObj S k 10 flX11) (H : f_X11_valueOf S k a1 h Q) : AMi l S G (d + 5) M_X11_valueOf [.ref (G.2.1 k), .int a1] h Q := by
  unfold f_X11_valueOf at H
  refine am_of mf_X11_valueOf (Nat.le_of_ble_eq_true rfl) (lv0 := [(0, .ref (G.2.1 k)), (1, .int a1)]) rfl ?_
  refine aw_iload_n dX11_valueOf_0 rfl 1 rfl ?_
  by_cases c1_0 : a1 = 104
  · replace H := a_pos c1_0 H
    refine aw_tableIn (off := 106) (tgt := 107) dX11_valueOf_1 (by rw [c1_0]; decide) (by rw [c1_0]; decide) (by rw [c1_0]; decide) (by decide) ?_
    refine aw_aload_n dX11_valueOf_107 rfl 0 rfl ?_
    refine aw_aload_n dX11_valueOf_108 rfl 0 rfl ?_
    refine aw_getI cf_X11 39 (by decide) rfl wd_1075 o_k dX11_valueOf_109 ?_
    refine aw_name (fun v2 e_v2 => ?_)
    replace H := H v2 e_v2
    refine aw_callV_i (As := [.int v2]) (rest := []) (am_X11_warmthOf d o_k H) mf_X11_warmthOf wd_1416 wd_1418 ws_4_13 cf_X11 o_k rfl rfl (Nat.le_of_ble_eq_true rfl) dX11_valueOf_112 (fun r4 h3 H => ?_)
    exact aw_iret rfl H dX11_valueOf_115
  · replace H := a_neg c1_0 H
    by_cases c1_1 : a1 = 105
    · replace H := a_pos c1_1 H
      refine aw_tableIn (off := 87) (tgt := 88) dX11_valueOf_1 (by rw [c1_1]; decide) (by rw [c1_1]; decide) (by rw [c1_1]; decide) (by decide) ?_
      refine aw_aload_n dX11_valueOf_88 rfl 0 rfl ?_
      refine aw_getR cf_X11 6 (by decide) rfl wd_1042 o_k dX11_valueOf_89 ?_
      refine aw_aload_n dX11_valueOf_92 rfl 0 rfl ?_
      refine aw_getI cf_X11 39 (by decide) rfl wd_1075 o_k dX11_valueOf_93 ?_
      refine aw_name (fun v5 e_v5 => ?_)
      replace H := H v5 e_v5
      obtain ⟨z6, H⟩ := H
      refine aw_iaload z6 dX11_valueOf_96 ?_
      refine aw_name (fun v7 e_v7 => ?_)
      replace H := H v7 e_v7
      exact aw_iret rfl H dX11_valueOf_97
    · replace H := a_neg c1_1 H
      by_cases c1_2 : a1 = 106
      · replace H := a_pos c1_2 H
        refine aw_tableIn (off := 141) (tgt := 142) dX11_valueOf_1 (by rw [c1_2]; decide) (by rw [c1_2]; decide) (by rw [c1_2]; decide) (by decide) ?_
        refine aw_aload_n dX11_valueOf_142 rfl 0 rfl ?_
        refine aw_getI cf_X11 41 (by decide) rfl wd_1077 o_k dX11_valueOf_143 ?_
        refine aw_name (fun v8 e_v8 => ?_)
        replace H := H v8 e_v8
        refine aw_iconst (v := (-1)) dX11_valueOf_146 (by decide) ?_
        refine aw_icmp_ne (tgt := 154) dX11_valueOf_147 (by decide) (fun c9 => ?_) (fun c9 => ?_)
        · replace H := a_pos c9 H
          refine aw_aload_n dX11_valueOf_154 rfl 0 rfl ?_
          refine aw_iload_n dX11_valueOf_155 rfl 1 rfl ?_
          refine aw_callV_i (As := [.int a1]) (rest := []) (am_X11_drawnBy (d + 1) o_k H) mf_X11_drawnBy wd_1420 wd_1422 ws_4_14 cf_X11 o_k rfl rfl (Nat.le_of_ble_eq_true rfl) dX11_valueOf_156 (fun r11 h10 H => ?_)
          exact aw_iret rfl H dX11_valueOf_159
        · replace H := a_neg2 c9 H
          refine aw_iconst (v := 0) dX11_valueOf_150 (by decide) ?_
          refine aw_goto (tgt := 159) dX11_valueOf_151 (by decide) ?_
          exact aw_iret rfl H dX11_valueOf_159
      · replace H := a_neg c1_2 H
        by_cases c1_3 : a1 = 107
        · replace H := a_pos c1_3 H
          refine aw_tableIn (off := 136) (tgt := 137) dX11_valueOf_1 (by rw [c1_3]; decide) (by rw [c1_3]; decide) (by rw [c1_3]; decide) (by decide) ?_
          refine aw_aload_n dX11_valueOf_137 rfl 0 rfl ?_
          refine aw_getI cf_X11 40 (by decide) rfl wd_1076 o_k dX11_valueOf_138 ?_
          refine aw_name (fun v12 e_v12 => ?_)
          replace H := H v12 e_v12
          exact aw_iret rfl H dX11_valueOf_141
        · replace H := a_neg c1_3 H
          by_cases c1_4 : a1 = 108
          · replace H := a_pos c1_4 H
            refine aw_tableIn (off := 141) (tgt := 142) dX11_valueOf_1 (by rw [c1_4]; decide) (by rw [c1_4]; decide) (by rw [c1_4]; decide) (by decide) ?_
            refine aw_aload_n dX11_valueOf_142 rfl 0 rfl ?_
            refine aw_getI cf_X11 41 (by decide) rfl wd_1077 o_k dX11_valueOf_143 ?_
            refine aw_name (fun v13 e_v13 => ?_)
            replace H := H v13 e_v13
            refine aw_iconst (v := (-1)) dX11_valueOf_146 (by decide) ?_
            refine aw_icmp_ne (tgt := 154) dX11_valueOf_147 (by decide) (fun c14 => ?_) (fun c14 => ?_)
            · replace H := a_pos c14 H
              refine aw_aload_n dX11_valueOf_154 rfl 0 rfl ?_
              refine aw_iload_n dX11_valueOf_155 rfl 1 rfl ?_
              refine aw_callV_i (As := [.int a1]) (rest := []) (am_X11_drawnBy (d + 1) o_k H) mf_X11_drawnBy wd_1420 wd_1422 ws_4_14 cf_X11 o_k rfl rfl (Nat.le_of_ble_eq_true rfl) dX11_valueOf_156 (fun r16 h15 H => ?_)
              exact aw_iret rfl H dX11_valueOf_159
            · replace H := a_neg2 c14 H
              refine aw_iconst (v := 0) dX11_valueOf_150 (by decide) ?_
              refine aw_goto (tgt := 159) dX11_valueOf_151 (by decide) ?_
              exact aw_iret rfl H dX11_valueOf_159
          · replace H := a_neg c1_4 H
            by_cases c1_5 : a1 = 109
            · replace H := a_pos c1_5 H
              refine aw_tableIn (off := 131) (tgt := 132) dX11_valueOf_1 (by rw [c1_5]; decide) (by rw [c1_5]; decide) (by rw [c1_5]; decide) (by decide) ?_
              refine aw_aload_n dX11_valueOf_132 rfl 0 rfl ?_
              refine aw_getI cf_X11 4 (by decide) rfl wd_1040 o_k dX11_valueOf_133 ?_
              refine aw_name (fun v17 e_v17 => ?_)
              replace H := H v17 e_v17
              exact aw_iret rfl H dX11_valueOf_136
            · replace H := a_neg c1_5 H
              by_cases c1_6 : a1 = 110
              · replace H := a_pos c1_6 H
                refine aw_tableIn (off := 97) (tgt := 98) dX11_valueOf_1 (by rw [c1_6]; decide) (by rw [c1_6]; decide) (by rw [c1_6]; decide) (by decide) ?_
                refine aw_aload_n dX11_valueOf_98 rfl 0 rfl ?_
                refine aw_aload_n dX11_valueOf_99 rfl 0 rfl ?_
                refine aw_getI cf_X11 39 (by decide) rfl wd_1075 o_k dX11_valueOf_100 ?_
                refine aw_name (fun v18 e_v18 => ?_)
                replace H := H v18 e_v18
                refine aw_callV_i (As := [.int v18]) (rest := []) (am_X11_gapsOf d o_k H) mf_X11_gapsOf wd_1409 wd_1411 ws_4_12 cf_X11 o_k rfl rfl (Nat.le_of_ble_eq_true rfl) dX11_valueOf_103 (fun r20 h19 H => ?_)
                exact aw_iret rfl H dX11_valueOf_106
              · replace H := a_neg c1_6 H
                by_cases c1_7 : a1 = 111
                · replace H := a_pos c1_7 H
                  refine aw_tableIn (off := 141) (tgt := 142) dX11_valueOf_1 (by rw [c1_7]; decide) (by rw [c1_7]; decide) (by rw [c1_7]; decide) (by decide) ?_
                  refine aw_aload_n dX11_valueOf_142 rfl 0 rfl ?_
                  refine aw_getI cf_X11 41 (by decide) rfl wd_1077 o_k dX11_valueOf_143 ?_
                  refine aw_name (fun v21 e_v21 => ?_)
                  replace H := H v21 e_v21
                  refine aw_iconst (v := (-1)) dX11_valueOf_146 (by decide) ?_
                  refine aw_icmp_ne (tgt := 154) dX11_valueOf_147 (by decide) (fun c22 => ?_) (fun c22 => ?_)
                  · replace H := a_pos c22 H
                    refine aw_aload_n dX11_valueOf_154 rfl 0 rfl ?_
                    refine aw_iload_n dX11_valueOf_155 rfl 1 rfl ?_
                    refine aw_callV_i (As := [.int a1]) (rest := []) (am_X11_drawnBy (d + 1) o_k H) mf_X11_drawnBy wd_1420 wd_1422 ws_4_14 cf_X11 o_k rfl rfl (Nat.le_of_ble_eq_true rfl) dX11_valueOf_156 (fun r24 h23 H => ?_)
                    exact aw_iret rfl H dX11_valueOf_159
                  · replace H := a_neg2 c22 H
                    refine aw_iconst (v := 0) dX11_valueOf_150 (by decide) ?_
                    refine aw_goto (tgt := 159) dX11_valueOf_151 (by decide) ?_
                    exact aw_iret rfl H dX11_valueOf_159
                · replace H := a_neg c1_7 H
                  by_cases c1_8 : a1 = 112
                  · replace H := a_pos c1_8 H
                    refine aw_tableIn (off := 141) (tgt := 142) dX11_valueOf_1 (by rw [c1_8]; decide) (by rw [c1_8]; decide) (by rw [c1_8]; decide) (by decide) ?_
                    refine aw_aload_n dX11_valueOf_142 rfl 0 rfl ?_
                    refine aw_getI cf_X11 41 (by decide) rfl wd_1077 o_k dX11_valueOf_143 ?_
                    refine aw_name (fun v25 e_v25 => ?_)
                    replace H := H v25 e_v25
                    refine aw_iconst (v := (-1)) dX11_valueOf_146 (by decide) ?_
                    refine aw_icmp_ne (tgt := 154) dX11_valueOf_147 (by decide) (fun c26 => ?_) (fun c26 => ?_)
                    · replace H := a_pos c26 H
                      refine aw_aload_n dX11_valueOf_154 rfl 0 rfl ?_
                      refine aw_iload_n dX11_valueOf_155 rfl 1 rfl ?_
                      refine aw_callV_i (As := [.int a1]) (rest := []) (am_X11_drawnBy (d + 1) o_k H) mf_X11_drawnBy wd_1420 wd_1422 ws_4_14 cf_X11 o_k rfl rfl (Nat.le_of_ble_eq_true rfl) dX11_valueOf_156 (fun r28 h27 H => ?_)
                      exact aw_iret rfl H dX11_valueOf_159
                    · replace H := a_neg2 c26 H
                      refine aw_iconst (v := 0) dX11_valueOf_150 (by decide) ?_
                      refine aw_goto (tgt := 159) dX11_valueOf_151 (by decide) ?_
                      exact aw_iret rfl H dX11_valueOf_159
                  · replace H := a_neg c1_8 H
                    by_cases c1_9 : a1 = 113
                    · replace H := a_pos c1_9 H
                      refine aw_tableIn (off := 141) (tgt := 142) dX11_valueOf_1 (by rw [c1_9]; decide) (by rw [c1_9]; decide) (by rw [c1_9]; decide) (by decide) ?_
                      refine aw_aload_n dX11_valueOf_142 rfl 0 rfl ?_
                      refine aw_getI cf_X11 41 (by decide) rfl wd_1077 o_k dX11_valueOf_143 ?_
                      refine aw_name (fun v29 e_v29 => ?_)
                      replace H := H v29 e_v29
                      refine aw_iconst (v := (-1)) dX11_valueOf_146 (by decide) ?_
                      refine aw_icmp_ne (tgt := 154) dX11_valueOf_147 (by decide) (fun c30 => ?_) (fun c30 => ?_)
                      · replace H := a_pos c30 H
                        refine aw_aload_n dX11_valueOf_154 rfl 0 rfl ?_
                        refine aw_iload_n dX11_valueOf_155 rfl 1 rfl ?_
                        refine aw_callV_i (As := [.int a1]) (rest := []) (am_X11_drawnBy (d + 1) o_k H) mf_X11_drawnBy wd_1420 wd_1422 ws_4_14 cf_X11 o_k rfl rfl (Nat.le_of_ble_eq_true rfl) dX11_valueOf_156 (fun r32 h31 H => ?_)
                        exact aw_iret rfl H dX11_valueOf_159
                      · replace H := a_neg2 c30 H
                        refine aw_iconst (v := 0) dX11_valueOf_150 (by decide) ?_
                        refine aw_goto (tgt := 159) dX11_valueOf_151 (by decide) ?_
                        exact aw_iret rfl H dX11_valueOf_159
                    · replace H := a_neg c1_9 H
                      by_cases c1_10 : a1 = 114
                      · replace H := a_pos c1_10 H
                        refine aw_tableIn (off := 141) (tgt := 142) dX11_valueOf_1 (by rw [c1_10]; decide) (by rw [c1_10]; decide) (by rw [c1_10]; decide) (by decide) ?_
                        refine aw_aload_n dX11_valueOf_142 rfl 0 rfl ?_
                        refine aw_getI cf_X11 41 (by decide) rfl wd_1077 o_k dX11_valueOf_143 ?_
                        refine aw_name (fun v33 e_v33 => ?_)
                        replace H := H v33 e_v33
                        refine aw_iconst (v := (-1)) dX11_valueOf_146 (by decide) ?_
                        refine aw_icmp_ne (tgt := 154) dX11_valueOf_147 (by decide) (fun c34 => ?_) (fun c34 => ?_)
                        · replace H := a_pos c34 H
                          refine aw_aload_n dX11_valueOf_154 rfl 0 rfl ?_
                          refine aw_iload_n dX11_valueOf_155 rfl 1 rfl ?_
                          refine aw_callV_i (As := [.int a1]) (rest := []) (am_X11_drawnBy (d + 1) o_k H) mf_X11_drawnBy wd_1420 wd_1422 ws_4_14 cf_X11 o_k rfl rfl (Nat.le_of_ble_eq_true rfl) dX11_valueOf_156 (fun r36 h35 H => ?_)
                          exact aw_iret rfl H dX11_valueOf_159
                        · replace H := a_neg2 c34 H
                          refine aw_iconst (v := 0) dX11_valueOf_150 (by decide) ?_
                          refine aw_goto (tgt := 159) dX11_valueOf_151 (by decide) ?_
                          exact aw_iret rfl H dX11_valueOf_159
                      · replace H := a_neg c1_10 H
                        by_cases c1_11 : a1 = 115
                        · replace H := a_pos c1_11 H
                          refine aw_tableIn (off := 141) (tgt := 142) dX11_valueOf_1 (by rw [c1_11]; decide) (by rw [c1_11]; decide) (by rw [c1_11]; decide) (by decide) ?_
                          refine aw_aload_n dX11_valueOf_142 rfl 0 rfl ?_
                          refine aw_getI cf_X11 41 (by decide) rfl wd_1077 o_k dX11_valueOf_143 ?_
                          refine aw_name (fun v37 e_v37 => ?_)
                          replace H := H v37 e_v37
                          refine aw_iconst (v := (-1)) dX11_valueOf_146 (by decide) ?_
                          refine aw_icmp_ne (tgt := 154) dX11_valueOf_147 (by decide) (fun c38 => ?_) (fun c38 => ?_)
                          · replace H := a_pos c38 H
                            refine aw_aload_n dX11_valueOf_154 rfl 0 rfl ?_
                            refine aw_iload_n dX11_valueOf_155 rfl 1 rfl ?_
                            refine aw_callV_i (As := [.int a1]) (rest := []) (am_X11_drawnBy (d + 1) o_k H) mf_X11_drawnBy wd_1420 wd_1422 ws_4_14 cf_X11 o_k rfl rfl (Nat.le_of_ble_eq_true rfl) dX11_valueOf_156 (fun r40 h39 H => ?_)
                            exact aw_iret rfl H dX11_valueOf_159
                          · replace H := a_neg2 c38 H
                            refine aw_iconst (v := 0) dX11_valueOf_150 (by decide) ?_
                            refine aw_goto (tgt := 159) dX11_valueOf_151 (by decide) ?_
                            exact aw_iret rfl H dX11_valueOf_159
                        · replace H := a_neg c1_11 H
                          by_cases c1_12 : a1 = 116
                          · replace H := a_pos c1_12 H
                            refine aw_tableIn (off := 141) (tgt := 142) dX11_valueOf_1 (by rw [c1_12]; decide) (by rw [c1_12]; decide) (by rw [c1_12]; decide) (by decide) ?_
                            refine aw_aload_n dX11_valueOf_142 rfl 0 rfl ?_
                            refine aw_getI cf_X11 41 (by decide) rfl wd_1077 o_k dX11_valueOf_143 ?_
                            refine aw_name (fun v41 e_v41 => ?_)
                            replace H := H v41 e_v41
                            refine aw_iconst (v := (-1)) dX11_valueOf_146 (by decide) ?_
                            refine aw_icmp_ne (tgt := 154) dX11_valueOf_147 (by decide) (fun c42 => ?_) (fun c42 => ?_)
                            · replace H := a_pos c42 H
                              refine aw_aload_n dX11_valueOf_154 rfl 0 rfl ?_
                              refine aw_iload_n dX11_valueOf_155 rfl 1 rfl ?_
                              refine aw_callV_i (As := [.int a1]) (rest := []) (am_X11_drawnBy (d + 1) o_k H) mf_X11_drawnBy wd_1420 wd_1422 ws_4_14 cf_X11 o_k rfl rfl (Nat.le_of_ble_eq_true rfl) dX11_valueOf_156 (fun r44 h43 H => ?_)
                              exact aw_iret rfl H dX11_valueOf_159
                            · replace H := a_neg2 c42 H
                              refine aw_iconst (v := 0) dX11_valueOf_150 (by decide) ?_
                              refine aw_goto (tgt := 159) dX11_valueOf_151 (by decide) ?_
                              exact aw_iret rfl H dX11_valueOf_159
                          · replace H := a_neg c1_12 H
                            by_cases c1_13 : a1 = 117
                            · replace H := a_pos c1_13 H
                              refine aw_tableIn (off := 141) (tgt := 142) dX11_valueOf_1 (by rw [c1_13]; decide) (by rw [c1_13]; decide) (by rw [c1_13]; decide) (by decide) ?_
                              refine aw_aload_n dX11_valueOf_142 rfl 0 rfl ?_
                              refine aw_getI cf_X11 41 (by decide) rfl wd_1077 o_k dX11_valueOf_143 ?_
                              refine aw_name (fun v45 e_v45 => ?_)
                              replace H := H v45 e_v45
                              refine aw_iconst (v := (-1)) dX11_valueOf_146 (by decide) ?_
                              refine aw_icmp_ne (tgt := 154) dX11_valueOf_147 (by decide) (fun c46 => ?_) (fun c46 => ?_)
                              · replace H := a_pos c46 H
                                refine aw_aload_n dX11_valueOf_154 rfl 0 rfl ?_
                                refine aw_iload_n dX11_valueOf_155 rfl 1 rfl ?_
                                refine aw_callV_i (As := [.int a1]) (rest := []) (am_X11_drawnBy (d + 1) o_k H) mf_X11_drawnBy wd_1420 wd_1422 ws_4_14 cf_X11 o_k rfl rfl (Nat.le_of_ble_eq_true rfl) dX11_valueOf_156 (fun r48 h47 H => ?_)
                                exact aw_iret rfl H dX11_valueOf_159
                              · replace H := a_neg2 c46 H
                                refine aw_iconst (v := 0) dX11_valueOf_150 (by decide) ?_
                                refine aw_goto (tgt := 159) dX11_valueOf_151 (by decide) ?_
                                exact aw_iret rfl H dX11_valueOf_159
                            · replace H := a_neg c1_13 H
                              by_cases c1_14 : a1 = 118
                              · replace H := a_pos c1_14 H
                                refine aw_tableIn (off := 141) (tgt := 142) dX11_valueOf_1 (by rw [c1_14]; decide) (by rw [c1_14]; decide) (by rw [c1_14]; decide) (by decide) ?_
                                refine aw_aload_n dX11_valueOf_142 rfl 0 rfl ?_
                                refine aw_getI cf_X11 41 (by decide) rfl wd_1077 o_k dX11_valueOf_143 ?_
                                refine aw_name (fun v49 e_v49 => ?_)
                                replace H := H v49 e_v49
                                refine aw_iconst (v := (-1)) dX11_valueOf_146 (by decide) ?_
                                refine aw_icmp_ne (tgt := 154) dX11_valueOf_147 (by decide) (fun c50 => ?_) (fun c50 => ?_)
                                · replace H := a_pos c50 H
                                  refine aw_aload_n dX11_valueOf_154 rfl 0 rfl ?_
                                  refine aw_iload_n dX11_valueOf_155 rfl 1 rfl ?_
                                  refine aw_callV_i (As := [.int a1]) (rest := []) (am_X11_drawnBy (d + 1) o_k H) mf_X11_drawnBy wd_1420 wd_1422 ws_4_14 cf_X11 o_k rfl rfl (Nat.le_of_ble_eq_true rfl) dX11_valueOf_156 (fun r52 h51 H => ?_)
                                  exact aw_iret rfl H dX11_valueOf_159
                                · replace H := a_neg2 c50 H
                                  refine aw_iconst (v := 0) dX11_valueOf_150 (by decide) ?_
                                  refine aw_goto (tgt := 159) dX11_valueOf_151 (by decide) ?_
                                  exact aw_iret rfl H dX11_valueOf_159
                              · replace H := a_neg c1_14 H
                                by_cases c1_15 : a1 = 119
                                · replace H := a_pos c1_15 H
                                  refine aw_tableIn (off := 141) (tgt := 142) dX11_valueOf_1 (by rw [c1_15]; decide) (by rw [c1_15]; decide) (by rw [c1_15]; decide) (by decide) ?_
                                  refine aw_aload_n dX11_valueOf_142 rfl 0 rfl ?_
                                  refine aw_getI cf_X11 41 (by decide) rfl wd_1077 o_k dX11_valueOf_143 ?_
                                  refine aw_name (fun v53 e_v53 => ?_)
                                  replace H := H v53 e_v53
                                  refine aw_iconst (v := (-1)) dX11_valueOf_146 (by decide) ?_
                                  refine aw_icmp_ne (tgt := 154) dX11_valueOf_147 (by decide) (fun c54 => ?_) (fun c54 => ?_)
                                  · replace H := a_pos c54 H
                                    refine aw_aload_n dX11_valueOf_154 rfl 0 rfl ?_
                                    refine aw_iload_n dX11_valueOf_155 rfl 1 rfl ?_
                                    refine aw_callV_i (As := [.int a1]) (rest := []) (am_X11_drawnBy (d + 1) o_k H) mf_X11_drawnBy wd_1420 wd_1422 ws_4_14 cf_X11 o_k rfl rfl (Nat.le_of_ble_eq_true rfl) dX11_valueOf_156 (fun r56 h55 H => ?_)
                                    exact aw_iret rfl H dX11_valueOf_159
                                  · replace H := a_neg2 c54 H
                                    refine aw_iconst (v := 0) dX11_valueOf_150 (by decide) ?_
                                    refine aw_goto (tgt := 159) dX11_valueOf_151 (by decide) ?_
                                    exact aw_iret rfl H dX11_valueOf_159
                                · replace H := a_neg c1_15 H
                                  by_cases c1_16 : a1 = 120
                                  · replace H := a_pos c1_16 H
                                    refine aw_tableIn (off := 115) (tgt := 116) dX11_valueOf_1 (by rw [c1_16]; decide) (by rw [c1_16]; decide) (by rw [c1_16]; decide) (by decide) ?_
                                    refine aw_aload_n dX11_valueOf_116 rfl 0 rfl ?_
                                    refine aw_getI cf_X11 39 (by decide) rfl wd_1075 o_k dX11_valueOf_117 ?_
                                    refine aw_name (fun v57 e_v57 => ?_)
                                    replace H := H v57 e_v57
                                    refine aw_bipush (v := 16) dX11_valueOf_120 (by decide) ?_
                                    refine aw_irem dX11_valueOf_122 (by decide) ?_
                                    exact aw_iret rfl H dX11_valueOf_123
                                  · replace H := a_neg c1_16 H
                                    by_cases c1_17 : a1 = 121
                                    · replace H := a_pos c1_17 H
                                      refine aw_tableIn (off := 123) (tgt := 124) dX11_valueOf_1 (by rw [c1_17]; decide) (by rw [c1_17]; decide) (by rw [c1_17]; decide) (by decide) ?_
                                      refine aw_aload_n dX11_valueOf_124 rfl 0 rfl ?_
                                      refine aw_getI cf_X11 39 (by decide) rfl wd_1075 o_k dX11_valueOf_125 ?_
                                      refine aw_name (fun v58 e_v58 => ?_)
                                      replace H := H v58 e_v58
                                      refine aw_bipush (v := 16) dX11_valueOf_128 (by decide) ?_
                                      refine aw_idiv dX11_valueOf_130 (by decide) ?_
                                      exact aw_iret rfl H dX11_valueOf_131
                                    · replace H := a_neg c1_17 H
                                      have t0 := a_ne (n := 104) (v := 104) (by decide) c1_0
                                      have t1 := a_ne (n := 105) (v := 105) (by decide) c1_1
                                      have t2 := a_ne (n := 106) (v := 106) (by decide) c1_2
                                      have t3 := a_ne (n := 107) (v := 107) (by decide) c1_3
                                      have t4 := a_ne (n := 108) (v := 108) (by decide) c1_4
                                      have t5 := a_ne (n := 109) (v := 109) (by decide) c1_5
                                      have t6 := a_ne (n := 110) (v := 110) (by decide) c1_6
                                      have t7 := a_ne (n := 111) (v := 111) (by decide) c1_7
                                      have t8 := a_ne (n := 112) (v := 112) (by decide) c1_8
                                      have t9 := a_ne (n := 113) (v := 113) (by decide) c1_9
                                      have t10 := a_ne (n := 114) (v := 114) (by decide) c1_10
                                      have t11 := a_ne (n := 115) (v := 115) (by decide) c1_11
                                      have t12 := a_ne (n := 116) (v := 116) (by decide) c1_12
                                      have t13 := a_ne (n := 117) (v := 117) (by decide) c1_13
                                      have t14 := a_ne (n := 118) (v := 118) (by decide) c1_14
                                      have t15 := a_ne (n := 119) (v := 119) (by decide) c1_15
                                      have t16 := a_ne (n := 120) (v := 120) (by decide) c1_16
                                      have t17 := a_ne (n := 121) (v := 121) (by decide) c1_17
                                      refine aw_tableOut (tgt := 142) dX11_valueOf_1 (by omega) (by decide) ?_
                                      refine aw_aload_n dX11_valueOf_142 rfl 0 rfl ?_
                                      refine aw_getI cf_X11 41 (by decide) rfl wd_1077 o_k dX11_valueOf_143 ?_
                                      refine aw_name (fun v59 e_v59 => ?_)
                                      replace H := H v59 e_v59
                                      refine aw_iconst (v := (-1)) dX11_valueOf_146 (by decide) ?_
                                      refine aw_icmp_ne (tgt := 154) dX11_valueOf_147 (by decide) (fun c60 => ?_) (fun c60 => ?_)
                                      · replace H := a_pos c60 H
                                        refine aw_aload_n dX11_valueOf_154 rfl 0 rfl ?_
                                        refine aw_iload_n dX11_valueOf_155 rfl 1 rfl ?_
                                        refine aw_callV_i (As := [.int a1]) (rest := []) (am_X11_drawnBy (d + 1) o_k H) mf_X11_drawnBy wd_1420 wd_1422 ws_4_14 cf_X11 o_k rfl rfl (Nat.le_of_ble_eq_true rfl) dX11_valueOf_156 (fun r62 h61 H => ?_)
                                        exact aw_iret rfl H dX11_valueOf_159
                                      · replace H := a_neg2 c60 H
                                        refine aw_iconst (v := 0) dX11_valueOf_150 (by decide) ?_
                                        refine aw_goto (tgt := 159) dX11_valueOf_151 (by decide) ?_
                                        exact aw_iret rfl H dX11_valueOf_159
set_option maxHeartbeats 4000000 in
set_option maxRecDepth 100000 in
theorem am_X11_worked {l : Launch} {S : aS} {G : aG} (d : Nat) {a0 : Int32} {a1 : Int32} {a2 : Int32} {h : aH} {Q : Int32 → aH → Prop} (H : f_X11_worked S a0 a1 a2 h Q) : AMi l S G d M_X11_worked [.int a0, .int a1, .int a2] h Q := by
  unfold f_X11_worked at H
  refine am_of mf_X11_worked (Nat.le_of_ble_eq_true rfl) (lv0 := [(0, .int a0), (1, .int a1), (2, .int a2)]) rfl ?_
  refine aw_iload_n dX11_worked_0 rfl 0 rfl ?_
  by_cases c1_0 : a0 = 37
  · replace H := a_pos c1_0 H
    refine aw_lookup (off := 91) (tgt := 92) dX11_worked_1 (by decide) (by rw [c1_0]; decide) (by decide) ?_
    refine aw_iload_n dX11_worked_92 rfl 2 rfl ?_
    refine aw_if_ne (tgt := 100) dX11_worked_93 (by decide) (fun c2 => ?_) (fun c2 => ?_)
    · replace H := a_pos c2 H
      refine aw_iload_n dX11_worked_100 rfl 1 rfl ?_
      refine aw_iload_n dX11_worked_101 rfl 2 rfl ?_
      obtain ⟨z3, H⟩ := H
      refine aw_irem dX11_worked_102 z3 ?_
      exact aw_iret rfl H dX11_worked_103
    · replace H := a_neg2 c2 H
      refine aw_iconst (v := 0) dX11_worked_96 (by decide) ?_
      refine aw_goto (tgt := 103) dX11_worked_97 (by decide) ?_
      exact aw_iret rfl H dX11_worked_103
  · replace H := a_neg c1_0 H
    by_cases c1_1 : a0 = 42
    · replace H := a_pos c1_1 H
      refine aw_lookup (off := 75) (tgt := 76) dX11_worked_1 (by decide) (by rw [c1_1]; decide) (by decide) ?_
      refine aw_iload_n dX11_worked_76 rfl 1 rfl ?_
      refine aw_iload_n dX11_worked_77 rfl 2 rfl ?_
      refine aw_imul dX11_worked_78 ?_
      exact aw_iret rfl H dX11_worked_79
    · replace H := a_neg c1_1 H
      by_cases c1_2 : a0 = 43
      · replace H := a_pos c1_2 H
        refine aw_lookup (off := 67) (tgt := 68) dX11_worked_1 (by decide) (by rw [c1_2]; decide) (by decide) ?_
        refine aw_iload_n dX11_worked_68 rfl 1 rfl ?_
        refine aw_iload_n dX11_worked_69 rfl 2 rfl ?_
        refine aw_iadd dX11_worked_70 ?_
        exact aw_iret rfl H dX11_worked_71
      · replace H := a_neg c1_2 H
        by_cases c1_3 : a0 = 45
        · replace H := a_pos c1_3 H
          refine aw_lookup (off := 71) (tgt := 72) dX11_worked_1 (by decide) (by rw [c1_3]; decide) (by decide) ?_
          refine aw_iload_n dX11_worked_72 rfl 1 rfl ?_
          refine aw_iload_n dX11_worked_73 rfl 2 rfl ?_
          refine aw_isub dX11_worked_74 ?_
          exact aw_iret rfl H dX11_worked_75
        · replace H := a_neg c1_3 H
          by_cases c1_4 : a0 = 47
          · replace H := a_pos c1_4 H
            refine aw_lookup (off := 79) (tgt := 80) dX11_worked_1 (by decide) (by rw [c1_4]; decide) (by decide) ?_
            refine aw_iload_n dX11_worked_80 rfl 2 rfl ?_
            refine aw_if_ne (tgt := 88) dX11_worked_81 (by decide) (fun c4 => ?_) (fun c4 => ?_)
            · replace H := a_pos c4 H
              refine aw_iload_n dX11_worked_88 rfl 1 rfl ?_
              refine aw_iload_n dX11_worked_89 rfl 2 rfl ?_
              obtain ⟨z5, H⟩ := H
              refine aw_idiv dX11_worked_90 z5 ?_
              exact aw_iret rfl H dX11_worked_91
            · replace H := a_neg2 c4 H
              refine aw_iconst (v := 0) dX11_worked_84 (by decide) ?_
              refine aw_goto (tgt := 91) dX11_worked_85 (by decide) ?_
              exact aw_iret rfl H dX11_worked_91
          · replace H := a_neg c1_4 H
            by_cases c1_5 : a0 = 60
            · replace H := a_pos c1_5 H
              refine aw_lookup (off := 103) (tgt := 104) dX11_worked_1 (by decide) (by rw [c1_5]; decide) (by decide) ?_
              refine aw_iload_n dX11_worked_104 rfl 1 rfl ?_
              refine aw_iload_n dX11_worked_105 rfl 2 rfl ?_
              refine aw_icmp_ge (tgt := 113) dX11_worked_106 (by decide) (fun c6 => ?_) (fun c6 => ?_)
              · replace H := a_pos c6 H
                refine aw_iconst (v := 0) dX11_worked_113 (by decide) ?_
                exact aw_iret rfl H dX11_worked_114
              · replace H := a_neg c6 H
                refine aw_iconst (v := 1) dX11_worked_109 (by decide) ?_
                refine aw_goto (tgt := 114) dX11_worked_110 (by decide) ?_
                exact aw_iret rfl H dX11_worked_114
            · replace H := a_neg c1_5 H
              by_cases c1_6 : a0 = 62
              · replace H := a_pos c1_6 H
                refine aw_lookup (off := 114) (tgt := 115) dX11_worked_1 (by decide) (by rw [c1_6]; decide) (by decide) ?_
                refine aw_iload_n dX11_worked_115 rfl 1 rfl ?_
                refine aw_iload_n dX11_worked_116 rfl 2 rfl ?_
                refine aw_icmp_le (tgt := 124) dX11_worked_117 (by decide) (fun c7 => ?_) (fun c7 => ?_)
                · replace H := a_pos c7 H
                  refine aw_iconst (v := 0) dX11_worked_124 (by decide) ?_
                  exact aw_iret rfl H dX11_worked_125
                · replace H := a_neg c7 H
                  refine aw_iconst (v := 1) dX11_worked_120 (by decide) ?_
                  refine aw_goto (tgt := 125) dX11_worked_121 (by decide) ?_
                  exact aw_iret rfl H dX11_worked_125
              · replace H := a_neg c1_6 H
                have t0 := a_ne (n := 37) (v := 37) (by decide) c1_0
                have t1 := a_ne (n := 42) (v := 42) (by decide) c1_1
                have t2 := a_ne (n := 43) (v := 43) (by decide) c1_2
                have t3 := a_ne (n := 45) (v := 45) (by decide) c1_3
                have t4 := a_ne (n := 47) (v := 47) (by decide) c1_4
                have t5 := a_ne (n := 60) (v := 60) (by decide) c1_5
                have t6 := a_ne (n := 62) (v := 62) (by decide) c1_6
                refine aw_lookup (off := 125) (tgt := 126) dX11_worked_1 (by decide) (by simp [Op.lookupswitch.offset, t0, t1, t2, t3, t4, t5, t6, Ne.symm t0, Ne.symm t1, Ne.symm t2, Ne.symm t3, Ne.symm t4, Ne.symm t5, Ne.symm t6]) (by decide) ?_
                refine aw_iload_n dX11_worked_126 rfl 1 rfl ?_
                refine aw_iload_n dX11_worked_127 rfl 2 rfl ?_
                refine aw_icmp_ne (tgt := 135) dX11_worked_128 (by decide) (fun c8 => ?_) (fun c8 => ?_)
                · replace H := a_pos c8 H
                  refine aw_iconst (v := 0) dX11_worked_135 (by decide) ?_
                  exact aw_iret rfl H dX11_worked_136
                · replace H := a_neg2 c8 H
                  refine aw_iconst (v := 1) dX11_worked_131 (by decide) ?_
                  refine aw_goto (tgt := 136) dX11_worked_132 (by decide) ?_
                  exact aw_iret rfl H dX11_worked_136
set_option maxHeartbeats 4000000 in
set_option maxRecDepth 100000 in
theorem fm_X11_does_42 {l : Launch} {S : aS} {G : aG} (d : Nat) {k : Nat} {a1 : Int32} {a2 : Int32} {Q : aH → Prop} (o_k : aObj S k 10 flX11) (x3 : Int32) (s0 : Int32) (s1 : Int32) (h : aH) (H : f_X11_does_42 S k a1 a2 Q x3 s0 s1 h) : AW l S G (d + 1) M_X11_does (va_Qv Q (aPo S G) (aA S G)) 42 [(0, .ref (G.2.1 k)), (1, .int a1), (2, .int a2), (3, .int x3)] [.int s0, .int s1] h := by
  unfold f_X11_does_42 at H
  refine aw_icmp_eq (tgt := 46) dX11_does_42 (by decide) (fun c1 => ?_) (fun c1 => ?_)
  · replace H := a_pos c1 H
    refine aw_aload_n dX11_does_46 rfl 0 rfl ?_
    refine aw_getR cf_X11 43 (by decide) rfl wd_1079 o_k dX11_does_47 ?_
    refine aw_iload_n dX11_does_50 rfl 2 rfl ?_
    refine aw_aload_n dX11_does_51 rfl 0 rfl ?_
    refine aw_getR cf_X11 43 (by decide) rfl wd_1079 o_k dX11_does_52 ?_
    refine aw_iload_n dX11_does_55 rfl 3 rfl ?_
    obtain ⟨z2, H⟩ := H
    refine aw_iaload z2 dX11_does_56 ?_
    refine aw_name (fun v3 e_v3 => ?_)
    replace H := H v3 e_v3
    obtain ⟨z4, H⟩ := H
    refine aw_iastore z4 dX11_does_57 ?_
    refine aw_nameH (fun h5 e_h5 => ?_)
    replace H := H h5 e_h5
    refine aw_aload_n dX11_does_58 rfl 0 rfl ?_
    refine aw_getR cf_X11 44 (by decide) rfl wd_1080 o_k dX11_does_59 ?_
    refine aw_iload_n dX11_does_62 rfl 2 rfl ?_
    refine aw_aload_n dX11_does_63 rfl 0 rfl ?_
    refine aw_getR cf_X11 44 (by decide) rfl wd_1080 o_k dX11_does_64 ?_
    refine aw_iload_n dX11_does_67 rfl 3 rfl ?_
    obtain ⟨z6, H⟩ := H
    refine aw_zaload z6 dX11_does_68 ?_
    refine aw_name (fun v7 e_v7 => ?_)
    replace H := H v7 e_v7
    obtain ⟨z8, H⟩ := H
    obtain ⟨z10, H⟩ := H
    refine aw_zastore z8 z10.2.2 dX11_does_69 ?_
    refine aw_nameH (fun h9 e_h9 => ?_)
    replace H := H h9 e_h9
    exact aw_vret rfl H dX11_does_70
  · replace H := a_neg c1 H
    exact aw_vret rfl H dX11_does_45
set_option maxHeartbeats 4000000 in
set_option maxRecDepth 100000 in
theorem fm_X11_does_115 {l : Launch} {S : aS} {G : aG} (d : Nat) {k : Nat} {a1 : Int32} {a2 : Int32} {Q : aH → Prop} (o_k : aObj S k 10 flX11) (x3 : Int32) (s0 : Int32) (s1 : Nat) (h : aH) (H : f_X11_does_115 S k a1 a2 Q x3 s0 s1 h) : AW l S G (d + 1) M_X11_does (va_Qv Q (aPo S G) (aA S G)) 115 [(0, .ref (G.2.1 k)), (1, .int a1), (2, .int a2), (3, .int x3)] [.int s0, .ref (G.2.1 s1)] h := by
  unfold f_X11_does_115 at H
  refine aw_iconst (v := 1) dX11_does_115 (by decide) ?_
  refine aw_goto (tgt := 120) dX11_does_116 (by decide) ?_
  obtain ⟨z11, H⟩ := H
  refine aw_zastore z11 (by decide) dX11_does_120 ?_
  refine aw_nameH (fun h12 e_h12 => ?_)
  replace H := H h12 e_h12
  refine aw_aload_n dX11_does_121 rfl 0 rfl ?_
  refine aw_getR cf_X11 43 (by decide) rfl wd_1079 o_k dX11_does_122 ?_
  refine aw_iload_n dX11_does_125 rfl 2 rfl ?_
  refine aw_iload_n dX11_does_126 rfl 1 rfl ?_
  refine aw_aload_n dX11_does_127 rfl 0 rfl ?_
  refine aw_getR cf_X11 43 (by decide) rfl wd_1079 o_k dX11_does_128 ?_
  refine aw_iload_n dX11_does_131 rfl 2 rfl ?_
  obtain ⟨z13, H⟩ := H
  refine aw_iaload z13 dX11_does_132 ?_
  refine aw_name (fun v14 e_v14 => ?_)
  replace H := H v14 e_v14
  refine aw_aload_n dX11_does_133 rfl 0 rfl ?_
  refine aw_getR cf_X11 43 (by decide) rfl wd_1079 o_k dX11_does_134 ?_
  refine aw_iload_n dX11_does_137 rfl 3 rfl ?_
  obtain ⟨z15, H⟩ := H
  refine aw_iaload z15 dX11_does_138 ?_
  refine aw_name (fun v16 e_v16 => ?_)
  replace H := H v16 e_v16
  refine aw_callS_i (As := [.int a1, .int v14, .int v16]) (rest := [.int a2, .ref (G.2.1 (gR h12 k 43))]) (am_X11_worked d H) mf_X11_worked wd_1402 wd_1403 rfl rfl (Nat.le_of_ble_eq_true rfl) dX11_does_139 (fun r18 h17 H => ?_)
  obtain ⟨z19, H⟩ := H
  refine aw_iastore z19 dX11_does_142 ?_
  refine aw_nameH (fun h20 e_h20 => ?_)
  replace H := H h20 e_h20
  exact aw_vret rfl H dX11_does_143
set_option maxHeartbeats 4000000 in
set_option maxRecDepth 100000 in
theorem fm_X11_does_119 {l : Launch} {S : aS} {G : aG} (d : Nat) {k : Nat} {a1 : Int32} {a2 : Int32} {Q : aH → Prop} (o_k : aObj S k 10 flX11) (x3 : Int32) (s0 : Int32) (s1 : Nat) (h : aH) (H : f_X11_does_119 S k a1 a2 Q x3 s0 s1 h) : AW l S G (d + 1) M_X11_does (va_Qv Q (aPo S G) (aA S G)) 119 [(0, .ref (G.2.1 k)), (1, .int a1), (2, .int a2), (3, .int x3)] [.int s0, .ref (G.2.1 s1)] h := by
  unfold f_X11_does_119 at H
  refine aw_iconst (v := 0) dX11_does_119 (by decide) ?_
  obtain ⟨z21, H⟩ := H
  refine aw_zastore z21 (by decide) dX11_does_120 ?_
  refine aw_nameH (fun h22 e_h22 => ?_)
  replace H := H h22 e_h22
  refine aw_aload_n dX11_does_121 rfl 0 rfl ?_
  refine aw_getR cf_X11 43 (by decide) rfl wd_1079 o_k dX11_does_122 ?_
  refine aw_iload_n dX11_does_125 rfl 2 rfl ?_
  refine aw_iload_n dX11_does_126 rfl 1 rfl ?_
  refine aw_aload_n dX11_does_127 rfl 0 rfl ?_
  refine aw_getR cf_X11 43 (by decide) rfl wd_1079 o_k dX11_does_128 ?_
  refine aw_iload_n dX11_does_131 rfl 2 rfl ?_
  obtain ⟨z23, H⟩ := H
  refine aw_iaload z23 dX11_does_132 ?_
  refine aw_name (fun v24 e_v24 => ?_)
  replace H := H v24 e_v24
  refine aw_aload_n dX11_does_133 rfl 0 rfl ?_
  refine aw_getR cf_X11 43 (by decide) rfl wd_1079 o_k dX11_does_134 ?_
  refine aw_iload_n dX11_does_137 rfl 3 rfl ?_
  obtain ⟨z25, H⟩ := H
  refine aw_iaload z25 dX11_does_138 ?_
  refine aw_name (fun v26 e_v26 => ?_)
  replace H := H v26 e_v26
  refine aw_callS_i (As := [.int a1, .int v24, .int v26]) (rest := [.int a2, .ref (G.2.1 (gR h22 k 43))]) (am_X11_worked d H) mf_X11_worked wd_1402 wd_1403 rfl rfl (Nat.le_of_ble_eq_true rfl) dX11_does_139 (fun r28 h27 H => ?_)
  obtain ⟨z29, H⟩ := H
  refine aw_iastore z29 dX11_does_142 ?_
  refine aw_nameH (fun h30 e_h30 => ?_)
  replace H := H h30 e_h30
  exact aw_vret rfl H dX11_does_143
set_option maxHeartbeats 4000000 in
set_option maxRecDepth 100000 in
theorem am_X11_does {l : Launch} {S : aS} {G : aG} (d : Nat) {k : Nat} {a1 : Int32} {a2 : Int32} {h : aH} {Q : aH → Prop} (o_k : aObj S k 10 flX11) (H : f_X11_does S k a1 a2 h Q) : AMv l S G (d + 1) M_X11_does [.ref (G.2.1 k), .int a1, .int a2] h Q := by
  unfold f_X11_does at H
  refine am_of mf_X11_does (Nat.le_of_ble_eq_true rfl) (lv0 := [(0, .ref (G.2.1 k)), (1, .int a1), (2, .int a2)]) rfl ?_
  refine aw_iload_n dX11_does_0 rfl 2 rfl ?_
  refine aw_iconst (v := 1) dX11_does_1 (by decide) ?_
  refine aw_iadd dX11_does_2 ?_
  refine aw_name (fun x3_31 e_x3_31 => ?_)
  replace H := H x3_31 e_x3_31
  refine aw_istore_n (lv' := [(3, .int x3_31), (0, .ref (G.2.1 k)), (1, .int a1), (2, .int a2)]) dX11_does_3 rfl (by decide) rfl ?_
  refine aw_iload_n dX11_does_4 rfl 2 rfl ?_
  refine aw_bipush (v := 38) dX11_does_5 (by decide) ?_
  refine aw_icmp_eq (tgt := 16) dX11_does_7 (by decide) (fun c32 => ?_) (fun c32 => ?_)
  · replace H := a_pos c32 H
    refine aw_aload_n dX11_does_16 rfl 1 rfl ?_
    refine aw_getR cf_X11 44 (by decide) rfl wd_1080 o_k dX11_does_17 ?_
    refine aw_iload_n dX11_does_20 rfl 3 rfl ?_
    obtain ⟨z33, H⟩ := H
    refine aw_zaload z33 dX11_does_21 ?_
    refine aw_name (fun v34 e_v34 => ?_)
    replace H := H v34 e_v34
    refine aw_if_ne (tgt := 45) dX11_does_22 (by decide) (fun c35 => ?_) (fun c35 => ?_)
    · replace H := a_pos c35 H
      exact aw_vret rfl H dX11_does_45
    · replace H := a_neg2 c35 H
      refine aw_aload_n dX11_does_25 rfl 1 rfl ?_
      refine aw_getR cf_X11 43 (by decide) rfl wd_1079 o_k dX11_does_26 ?_
      refine aw_iload_n dX11_does_29 rfl 3 rfl ?_
      obtain ⟨z36, H⟩ := H
      refine aw_iaload z36 dX11_does_30 ?_
      refine aw_name (fun v37 e_v37 => ?_)
      replace H := H v37 e_v37
      refine aw_iload_n dX11_does_31 rfl 2 rfl ?_
      refine aw_bipush (v := 38) dX11_does_32 (by decide) ?_
      refine aw_icmp_ne (tgt := 41) dX11_does_34 (by decide) (fun c38 => ?_) (fun c38 => ?_)
      · replace H := a_pos c38 H
        refine aw_iconst (v := 0) dX11_does_41 (by decide) ?_
        refine aw_sub (lv' := [(0, .ref (G.2.1 k)), (1, .int a1), (2, .int a2), (3, .int x3_31)]) [1, 2, 3, 0] rfl ?_
        exact fm_X11_does_42 d o_k _ _ _ _ H
      · replace H := a_neg2 c38 H
        refine aw_iconst (v := 1) dX11_does_37 (by decide) ?_
        refine aw_goto (tgt := 42) dX11_does_38 (by decide) ?_
        refine aw_sub (lv' := [(0, .ref (G.2.1 k)), (1, .int a1), (2, .int a2), (3, .int x3_31)]) [1, 2, 3, 0] rfl ?_
        exact fm_X11_does_42 d o_k _ _ _ _ H
  · replace H := a_neg c32 H
    refine aw_iload_n dX11_does_10 rfl 2 rfl ?_
    refine aw_bipush (v := 124) dX11_does_11 (by decide) ?_
    refine aw_icmp_ne (tgt := 71) dX11_does_13 (by decide) (fun c39 => ?_) (fun c39 => ?_)
    · replace H := a_pos c39 H
      refine aw_aload_n dX11_does_71 rfl 1 rfl ?_
      refine aw_getR cf_X11 44 (by decide) rfl wd_1080 o_k dX11_does_72 ?_
      refine aw_iload_n dX11_does_75 rfl 3 rfl ?_
      refine aw_aload_n dX11_does_76 rfl 1 rfl ?_
      refine aw_getR cf_X11 44 (by decide) rfl wd_1080 o_k dX11_does_77 ?_
      refine aw_iload_n dX11_does_80 rfl 3 rfl ?_
      obtain ⟨z40, H⟩ := H
      refine aw_zaload z40 dX11_does_81 ?_
      refine aw_name (fun v41 e_v41 => ?_)
      replace H := H v41 e_v41
      refine aw_if_ne (tgt := 115) dX11_does_82 (by decide) (fun c42 => ?_) (fun c42 => ?_)
      · replace H := a_pos c42 H
        refine aw_sub (lv' := [(0, .ref (G.2.1 k)), (1, .int a1), (2, .int a2), (3, .int x3_31)]) [1, 2, 3, 0] rfl ?_
        exact fm_X11_does_115 d o_k _ _ _ _ H
      · replace H := a_neg2 c42 H
        refine aw_aload_n dX11_does_85 rfl 1 rfl ?_
        refine aw_getR cf_X11 44 (by decide) rfl wd_1080 o_k dX11_does_86 ?_
        refine aw_iload_n dX11_does_89 rfl 0 rfl ?_
        obtain ⟨z43, H⟩ := H
        refine aw_zaload z43 dX11_does_90 ?_
        refine aw_name (fun v44 e_v44 => ?_)
        replace H := H v44 e_v44
        refine aw_if_ne (tgt := 115) dX11_does_91 (by decide) (fun c45 => ?_) (fun c45 => ?_)
        · replace H := a_pos c45 H
          refine aw_sub (lv' := [(0, .ref (G.2.1 k)), (1, .int a1), (2, .int a2), (3, .int x3_31)]) [1, 2, 3, 0] rfl ?_
          exact fm_X11_does_115 d o_k _ _ _ _ H
        · replace H := a_neg2 c45 H
          refine aw_iload_n dX11_does_94 rfl 2 rfl ?_
          refine aw_bipush (v := 47) dX11_does_95 (by decide) ?_
          refine aw_icmp_eq (tgt := 106) dX11_does_97 (by decide) (fun c46 => ?_) (fun c46 => ?_)
          · replace H := a_pos c46 H
            refine aw_aload_n dX11_does_106 rfl 1 rfl ?_
            refine aw_getR cf_X11 43 (by decide) rfl wd_1079 o_k dX11_does_107 ?_
            refine aw_iload_n dX11_does_110 rfl 0 rfl ?_
            obtain ⟨z47, H⟩ := H
            refine aw_iaload z47 dX11_does_111 ?_
            refine aw_name (fun v48 e_v48 => ?_)
            replace H := H v48 e_v48
            refine aw_if_ne (tgt := 119) dX11_does_112 (by decide) (fun c49 => ?_) (fun c49 => ?_)
            · replace H := a_pos c49 H
              refine aw_sub (lv' := [(0, .ref (G.2.1 k)), (1, .int a1), (2, .int a2), (3, .int x3_31)]) [1, 2, 3, 0] rfl ?_
              exact fm_X11_does_119 d o_k _ _ _ _ H
            · replace H := a_neg2 c49 H
              refine aw_sub (lv' := [(0, .ref (G.2.1 k)), (1, .int a1), (2, .int a2), (3, .int x3_31)]) [1, 2, 3, 0] rfl ?_
              exact fm_X11_does_115 d o_k _ _ _ _ H
          · replace H := a_neg c46 H
            refine aw_iload_n dX11_does_100 rfl 2 rfl ?_
            refine aw_bipush (v := 37) dX11_does_101 (by decide) ?_
            refine aw_icmp_ne (tgt := 119) dX11_does_103 (by decide) (fun c50 => ?_) (fun c50 => ?_)
            · replace H := a_pos c50 H
              refine aw_sub (lv' := [(0, .ref (G.2.1 k)), (1, .int a1), (2, .int a2), (3, .int x3_31)]) [1, 2, 3, 0] rfl ?_
              exact fm_X11_does_119 d o_k _ _ _ _ H
            · replace H := a_neg2 c50 H
              refine aw_aload_n dX11_does_106 rfl 1 rfl ?_
              refine aw_getR cf_X11 43 (by decide) rfl wd_1079 o_k dX11_does_107 ?_
              refine aw_iload_n dX11_does_110 rfl 0 rfl ?_
              obtain ⟨z51, H⟩ := H
              refine aw_iaload z51 dX11_does_111 ?_
              refine aw_name (fun v52 e_v52 => ?_)
              replace H := H v52 e_v52
              refine aw_if_ne (tgt := 119) dX11_does_112 (by decide) (fun c53 => ?_) (fun c53 => ?_)
              · replace H := a_pos c53 H
                refine aw_sub (lv' := [(0, .ref (G.2.1 k)), (1, .int a1), (2, .int a2), (3, .int x3_31)]) [1, 2, 3, 0] rfl ?_
                exact fm_X11_does_119 d o_k _ _ _ _ H
              · replace H := a_neg2 c53 H
                refine aw_sub (lv' := [(0, .ref (G.2.1 k)), (1, .int a1), (2, .int a2), (3, .int x3_31)]) [1, 2, 3, 0] rfl ?_
                exact fm_X11_does_115 d o_k _ _ _ _ H
    · replace H := a_neg2 c39 H
      refine aw_aload_n dX11_does_16 rfl 1 rfl ?_
      refine aw_getR cf_X11 44 (by decide) rfl wd_1080 o_k dX11_does_17 ?_
      refine aw_iload_n dX11_does_20 rfl 3 rfl ?_
      obtain ⟨z54, H⟩ := H
      refine aw_zaload z54 dX11_does_21 ?_
      refine aw_name (fun v55 e_v55 => ?_)
      replace H := H v55 e_v55
      refine aw_if_ne (tgt := 45) dX11_does_22 (by decide) (fun c56 => ?_) (fun c56 => ?_)
      · replace H := a_pos c56 H
        exact aw_vret rfl H dX11_does_45
      · replace H := a_neg2 c56 H
        refine aw_aload_n dX11_does_25 rfl 1 rfl ?_
        refine aw_getR cf_X11 43 (by decide) rfl wd_1079 o_k dX11_does_26 ?_
        refine aw_iload_n dX11_does_29 rfl 3 rfl ?_
        obtain ⟨z57, H⟩ := H
        refine aw_iaload z57 dX11_does_30 ?_
        refine aw_name (fun v58 e_v58 => ?_)
        replace H := H v58 e_v58
        refine aw_iload_n dX11_does_31 rfl 2 rfl ?_
        refine aw_bipush (v := 38) dX11_does_32 (by decide) ?_
        refine aw_icmp_ne (tgt := 41) dX11_does_34 (by decide) (fun c59 => ?_) (fun c59 => ?_)
        · replace H := a_pos c59 H
          refine aw_iconst (v := 0) dX11_does_41 (by decide) ?_
          refine aw_sub (lv' := [(0, .ref (G.2.1 k)), (1, .int a1), (2, .int a2), (3, .int x3_31)]) [1, 2, 3, 0] rfl ?_
          exact fm_X11_does_42 d o_k _ _ _ _ H
        · replace H := a_neg2 c59 H
          refine aw_iconst (v := 1) dX11_does_37 (by decide) ?_
          refine aw_goto (tgt := 42) dX11_does_38 (by decide) ?_
          refine aw_sub (lv' := [(0, .ref (G.2.1 k)), (1, .int a1), (2, .int a2), (3, .int x3_31)]) [1, 2, 3, 0] rfl ?_
          exact fm_X11_does_42 d o_k _ _ _ _ H
set_option maxHeartbeats 4000000 in
set_option maxRecDepth 100000 in
theorem fm_X11_works_5 {l : Launch} {S : aS} {G : aG} (d : Nat) {k : Nat} {a1 : Int32} {a2 : Int32} {Q : aH → Prop} (o_k : aObj S k 10 flX11) : ∀ (n : Nat) (x3 : Int32) (x4 : Int32) (h : aH), f_X11_works_5 S k a1 a2 Q n x3 x4 h → AW l S G (d + 6) M_X11_works (va_Qv Q (aPo S G) (aA S G)) 5 [(0, .ref (G.2.1 k)), (1, .int a1), (2, .int a2), (3, .int x3), (4, .int x4)] [] h := by
  intro n
  induction n with
  | zero => intro x3 x4 h H; exact False.elim H
  | succ n ih =>
    intro x3 x4 h H
    unfold f_X11_works_5 at H
    refine aw_iload dX11_works_5 4 rfl ?_
    refine aw_iload_n dX11_works_7 rfl 2 rfl ?_
    refine aw_icmp_ge (tgt := 127) dX11_works_8 (by decide) (fun c1 => ?_) (fun c1 => ?_)
    · replace H := a_pos c1 H
      exact aw_vret rfl H dX11_works_127
    · replace H := a_neg c1 H
      refine aw_aload_n dX11_works_11 rfl 0 rfl ?_
      refine aw_getR cf_X11 21 (by decide) rfl wd_1057 o_k dX11_works_12 ?_
      refine aw_iload dX11_works_15 4 rfl ?_
      obtain ⟨z2, H⟩ := H
      refine aw_iaload z2 dX11_works_17 ?_
      refine aw_name (fun v3 e_v3 => ?_)
      replace H := H v3 e_v3
      refine aw_iconst (v := 2) dX11_works_18 (by decide) ?_
      refine aw_icmp_le (tgt := 42) dX11_works_19 (by decide) (fun c4 => ?_) (fun c4 => ?_)
      · replace H := a_pos c4 H
        refine aw_aload_n dX11_works_42 rfl 0 rfl ?_
        refine aw_getR cf_X11 21 (by decide) rfl wd_1057 o_k dX11_works_43 ?_
        refine aw_iload dX11_works_46 4 rfl ?_
        obtain ⟨z5, H⟩ := H
        refine aw_iaload z5 dX11_works_48 ?_
        refine aw_name (fun v6 e_v6 => ?_)
        replace H := H v6 e_v6
        refine aw_iconst (v := 2) dX11_works_49 (by decide) ?_
        refine aw_icmp_ne (tgt := 74) dX11_works_50 (by decide) (fun c7 => ?_) (fun c7 => ?_)
        · replace H := a_pos c7 H
          refine aw_aload_n dX11_works_74 rfl 0 rfl ?_
          refine aw_getR cf_X11 44 (by decide) rfl wd_1080 o_k dX11_works_75 ?_
          refine aw_iload_n dX11_works_78 rfl 3 rfl ?_
          refine aw_iconst (v := 0) dX11_works_79 (by decide) ?_
          obtain ⟨z8, H⟩ := H
          refine aw_zastore z8 (by decide) dX11_works_80 ?_
          refine aw_nameH (fun h9 e_h9 => ?_)
          replace H := H h9 e_h9
          refine aw_aload_n dX11_works_81 rfl 0 rfl ?_
          refine aw_getR cf_X11 43 (by decide) rfl wd_1079 o_k dX11_works_82 ?_
          refine aw_iload_n dX11_works_85 rfl 3 rfl ?_
          refine aw_aload_n dX11_works_86 rfl 0 rfl ?_
          refine aw_getR cf_X11 21 (by decide) rfl wd_1057 o_k dX11_works_87 ?_
          refine aw_iload dX11_works_90 4 rfl ?_
          obtain ⟨z10, H⟩ := H
          refine aw_iaload z10 dX11_works_92 ?_
          refine aw_name (fun v11 e_v11 => ?_)
          replace H := H v11 e_v11
          refine aw_if_ne (tgt := 106) dX11_works_93 (by decide) (fun c12 => ?_) (fun c12 => ?_)
          · replace H := a_pos c12 H
            refine aw_aload_n dX11_works_106 rfl 0 rfl ?_
            refine aw_aload_n dX11_works_107 rfl 0 rfl ?_
            refine aw_getR cf_X11 22 (by decide) rfl wd_1058 o_k dX11_works_108 ?_
            refine aw_iload dX11_works_111 4 rfl ?_
            obtain ⟨z13, H⟩ := H
            refine aw_iaload z13 dX11_works_113 ?_
            refine aw_name (fun v14 e_v14 => ?_)
            replace H := H v14 e_v14
            refine aw_callV_i (As := [.int v14]) (rest := [.int x3, .ref (G.2.1 (gR h9 k 43))]) (am_X11_valueOf d o_k H) mf_X11_valueOf wd_1405 wd_1407 ws_4_11 cf_X11 o_k rfl rfl (Nat.le_of_ble_eq_true rfl) dX11_works_114 (fun r16 h15 H => ?_)
            obtain ⟨z17, H⟩ := H
            refine aw_iastore z17 dX11_works_117 ?_
            refine aw_nameH (fun h18 e_h18 => ?_)
            replace H := H h18 e_h18
            obtain ⟨x3_19, e_x3_19⟩ : ∃ y : Int32, y = x3 + 1 := ⟨_, rfl⟩
            replace H := H x3_19 e_x3_19
            refine aw_iinc (v := x3_19) (lv' := [(3, .int x3_19), (0, .ref (G.2.1 k)), (1, .int a1), (2, .int a2), (4, .int x4)]) dX11_works_118 (n0 := 3) rfl (by rw [e_x3_19]; rfl) (by decide) rfl ?_
            obtain ⟨x4_20, e_x4_20⟩ : ∃ y : Int32, y = x4 + 1 := ⟨_, rfl⟩
            replace H := H x4_20 e_x4_20
            refine aw_iinc (v := x4_20) (lv' := [(4, .int x4_20), (3, .int x3_19), (0, .ref (G.2.1 k)), (1, .int a1), (2, .int a2)]) dX11_works_121 (n0 := 4) rfl (by rw [e_x4_20]; rfl) (by decide) rfl ?_
            refine aw_goto (tgt := 5) dX11_works_124 (by decide) ?_
            refine aw_sub (lv' := [(0, .ref (G.2.1 k)), (1, .int a1), (2, .int a2), (3, .int x3_19), (4, .int x4_20)]) [2, 3, 4, 1, 0] rfl ?_
            exact ih _ _ _ H
          · replace H := a_neg2 c12 H
            refine aw_aload_n dX11_works_96 rfl 0 rfl ?_
            refine aw_getR cf_X11 22 (by decide) rfl wd_1058 o_k dX11_works_97 ?_
            refine aw_iload dX11_works_100 4 rfl ?_
            obtain ⟨z21, H⟩ := H
            refine aw_iaload z21 dX11_works_102 ?_
            refine aw_name (fun v22 e_v22 => ?_)
            replace H := H v22 e_v22
            refine aw_goto (tgt := 117) dX11_works_103 (by decide) ?_
            obtain ⟨z23, H⟩ := H
            refine aw_iastore z23 dX11_works_117 ?_
            refine aw_nameH (fun h24 e_h24 => ?_)
            replace H := H h24 e_h24
            obtain ⟨x3_25, e_x3_25⟩ : ∃ y : Int32, y = x3 + 1 := ⟨_, rfl⟩
            replace H := H x3_25 e_x3_25
            refine aw_iinc (v := x3_25) (lv' := [(3, .int x3_25), (0, .ref (G.2.1 k)), (1, .int a1), (2, .int a2), (4, .int x4)]) dX11_works_118 (n0 := 3) rfl (by rw [e_x3_25]; rfl) (by decide) rfl ?_
            obtain ⟨x4_26, e_x4_26⟩ : ∃ y : Int32, y = x4 + 1 := ⟨_, rfl⟩
            replace H := H x4_26 e_x4_26
            refine aw_iinc (v := x4_26) (lv' := [(4, .int x4_26), (3, .int x3_25), (0, .ref (G.2.1 k)), (1, .int a1), (2, .int a2)]) dX11_works_121 (n0 := 4) rfl (by rw [e_x4_26]; rfl) (by decide) rfl ?_
            refine aw_goto (tgt := 5) dX11_works_124 (by decide) ?_
            refine aw_sub (lv' := [(0, .ref (G.2.1 k)), (1, .int a1), (2, .int a2), (3, .int x3_25), (4, .int x4_26)]) [2, 3, 4, 1, 0] rfl ?_
            exact ih _ _ _ H
        · replace H := a_neg2 c7 H
          refine aw_aload_n dX11_works_53 rfl 0 rfl ?_
          refine aw_getR cf_X11 43 (by decide) rfl wd_1079 o_k dX11_works_54 ?_
          refine aw_iload_n dX11_works_57 rfl 3 rfl ?_
          refine aw_iconst (v := 1) dX11_works_58 (by decide) ?_
          refine aw_isub dX11_works_59 ?_
          refine aw_iconst (v := 1) dX11_works_60 (by decide) ?_
          refine aw_aload_n dX11_works_61 rfl 0 rfl ?_
          refine aw_getR cf_X11 43 (by decide) rfl wd_1079 o_k dX11_works_62 ?_
          refine aw_iload_n dX11_works_65 rfl 3 rfl ?_
          refine aw_iconst (v := 1) dX11_works_66 (by decide) ?_
          refine aw_isub dX11_works_67 ?_
          obtain ⟨z27, H⟩ := H
          refine aw_iaload z27 dX11_works_68 ?_
          refine aw_name (fun v28 e_v28 => ?_)
          replace H := H v28 e_v28
          refine aw_isub dX11_works_69 ?_
          obtain ⟨z29, H⟩ := H
          refine aw_iastore z29 dX11_works_70 ?_
          refine aw_nameH (fun h30 e_h30 => ?_)
          replace H := H h30 e_h30
          refine aw_goto (tgt := 121) dX11_works_71 (by decide) ?_
          obtain ⟨x4_31, e_x4_31⟩ : ∃ y : Int32, y = x4 + 1 := ⟨_, rfl⟩
          replace H := H x4_31 e_x4_31
          refine aw_iinc (v := x4_31) (lv' := [(4, .int x4_31), (0, .ref (G.2.1 k)), (1, .int a1), (2, .int a2), (3, .int x3)]) dX11_works_121 (n0 := 4) rfl (by rw [e_x4_31]; rfl) (by decide) rfl ?_
          refine aw_goto (tgt := 5) dX11_works_124 (by decide) ?_
          refine aw_sub (lv' := [(0, .ref (G.2.1 k)), (1, .int a1), (2, .int a2), (3, .int x3), (4, .int x4_31)]) [1, 2, 3, 4, 0] rfl ?_
          exact ih _ _ _ H
      · replace H := a_neg c4 H
        obtain ⟨x3_32, e_x3_32⟩ : ∃ y : Int32, y = x3 + (-1) := ⟨_, rfl⟩
        replace H := H x3_32 e_x3_32
        refine aw_iinc (v := x3_32) (lv' := [(3, .int x3_32), (0, .ref (G.2.1 k)), (1, .int a1), (2, .int a2), (4, .int x4)]) dX11_works_22 (n0 := 3) rfl (by rw [e_x3_32]; rfl) (by decide) rfl ?_
        refine aw_aload_n dX11_works_25 rfl 1 rfl ?_
        refine aw_aload_n dX11_works_26 rfl 1 rfl ?_
        refine aw_getR cf_X11 21 (by decide) rfl wd_1057 o_k dX11_works_27 ?_
        refine aw_iload dX11_works_30 4 rfl ?_
        obtain ⟨z33, H⟩ := H
        refine aw_iaload z33 dX11_works_32 ?_
        refine aw_name (fun v34 e_v34 => ?_)
        replace H := H v34 e_v34
        refine aw_iload_n dX11_works_33 rfl 0 rfl ?_
        refine aw_iconst (v := 1) dX11_works_34 (by decide) ?_
        refine aw_isub dX11_works_35 ?_
        refine aw_callV_v (As := [.int v34, .int (x3_32 - 1)]) (rest := []) (am_X11_does (d + 4) o_k H) mf_X11_does wd_1398 wd_1400 ws_4_10 cf_X11 o_k rfl rfl (Nat.le_of_ble_eq_true rfl) dX11_works_36 (fun h35 H => ?_)
        refine aw_goto (tgt := 121) dX11_works_39 (by decide) ?_
        obtain ⟨x4_36, e_x4_36⟩ : ∃ y : Int32, y = x4 + 1 := ⟨_, rfl⟩
        replace H := H x4_36 e_x4_36
        refine aw_iinc (v := x4_36) (lv' := [(4, .int x4_36), (3, .int x3_32), (0, .ref (G.2.1 k)), (1, .int a1), (2, .int a2)]) dX11_works_121 (n0 := 4) rfl (by rw [e_x4_36]; rfl) (by decide) rfl ?_
        refine aw_goto (tgt := 5) dX11_works_124 (by decide) ?_
        refine aw_sub (lv' := [(0, .ref (G.2.1 k)), (1, .int a1), (2, .int a2), (3, .int x3_32), (4, .int x4_36)]) [2, 3, 4, 1, 0] rfl ?_
        exact ih _ _ _ H
set_option maxHeartbeats 4000000 in
set_option maxRecDepth 100000 in
theorem am_X11_works {l : Launch} {S : aS} {G : aG} (d : Nat) {k : Nat} {a1 : Int32} {a2 : Int32} {h : aH} {Q : aH → Prop} (o_k : aObj S k 10 flX11) (H : f_X11_works S k a1 a2 h Q) : AMv l S G (d + 6) M_X11_works [.ref (G.2.1 k), .int a1, .int a2] h Q := by
  unfold f_X11_works at H
  refine am_of mf_X11_works (Nat.le_of_ble_eq_true rfl) (lv0 := [(0, .ref (G.2.1 k)), (1, .int a1), (2, .int a2)]) rfl ?_
  refine aw_iconst (v := 0) dX11_works_0 (by decide) ?_
  refine aw_istore_n (lv' := [(3, .int 0), (0, .ref (G.2.1 k)), (1, .int a1), (2, .int a2)]) dX11_works_1 rfl (by decide) rfl ?_
  refine aw_iload_n dX11_works_2 rfl 2 rfl ?_
  refine aw_istore (lv' := [(4, .int a1), (3, .int 0), (0, .ref (G.2.1 k)), (1, .int a1), (2, .int a2)]) dX11_works_3 (by decide) rfl ?_
  refine aw_sub (lv' := [(0, .ref (G.2.1 k)), (1, .int a1), (2, .int a2), (3, .int 0), (4, .int a1)]) [2, 3, 4, 1, 0] rfl ?_
  obtain ⟨n1, H⟩ := H
  exact fm_X11_works_5 d o_k n1 _ _ _ H
set_option maxHeartbeats 4000000 in
set_option maxRecDepth 100000 in
theorem fm_X11_tells_2 {l : Launch} {S : aS} {G : aG} (d : Nat) {k : Nat} {a1 : Int32} {a2 : Int32} {Q : Int32 → aH → Prop} (o_k : aObj S k 10 flX11) : ∀ (n : Nat) (x3 : Int32) (h : aH), f_X11_tells_2 S k a1 a2 Q n x3 h → AW l S G (d + 7) M_X11_tells (va_Qi Q (aPo S G) (aA S G)) 2 [(0, .ref (G.2.1 k)), (1, .int a1), (2, .int a2), (3, .int x3)] [] h := by
  intro n
  induction n with
  | zero => intro x3 h H; exact False.elim H
  | succ n ih =>
    intro x3 h H
    unfold f_X11_tells_2 at H
    refine aw_iload_n dX11_tells_2 rfl 3 rfl ?_
    refine aw_aload_n dX11_tells_3 rfl 0 rfl ?_
    refine aw_getI cf_X11 16 (by decide) rfl wd_1052 o_k dX11_tells_4 ?_
    refine aw_name (fun v1 e_v1 => ?_)
    replace H := H v1 e_v1
    refine aw_icmp_ge (tgt := 126) dX11_tells_7 (by decide) (fun c2 => ?_) (fun c2 => ?_)
    · replace H := a_pos c2 H
      refine aw_iconst (v := 0) dX11_tells_126 (by decide) ?_
      exact aw_iret rfl H dX11_tells_127
    · replace H := a_neg c2 H
      refine aw_aload_n dX11_tells_10 rfl 0 rfl ?_
      refine aw_getR cf_X11 17 (by decide) rfl wd_1053 o_k dX11_tells_11 ?_
      refine aw_iload_n dX11_tells_14 rfl 3 rfl ?_
      obtain ⟨z3, H⟩ := H
      refine aw_iaload z3 dX11_tells_15 ?_
      refine aw_name (fun v4 e_v4 => ?_)
      replace H := H v4 e_v4
      refine aw_iload_n dX11_tells_16 rfl 1 rfl ?_
      refine aw_icmp_eq (tgt := 23) dX11_tells_17 (by decide) (fun c5 => ?_) (fun c5 => ?_)
      · replace H := a_pos c5 H
        refine aw_aload_n dX11_tells_23 rfl 0 rfl ?_
        refine aw_aload_n dX11_tells_24 rfl 0 rfl ?_
        refine aw_getR cf_X11 19 (by decide) rfl wd_1055 o_k dX11_tells_25 ?_
        refine aw_iload_n dX11_tells_28 rfl 3 rfl ?_
        obtain ⟨z6, H⟩ := H
        refine aw_iaload z6 dX11_tells_29 ?_
        refine aw_name (fun v7 e_v7 => ?_)
        replace H := H v7 e_v7
        refine aw_aload_n dX11_tells_30 rfl 0 rfl ?_
        refine aw_getR cf_X11 20 (by decide) rfl wd_1056 o_k dX11_tells_31 ?_
        refine aw_iload_n dX11_tells_34 rfl 3 rfl ?_
        obtain ⟨z8, H⟩ := H
        refine aw_iaload z8 dX11_tells_35 ?_
        refine aw_name (fun v9 e_v9 => ?_)
        replace H := H v9 e_v9
        refine aw_callV_v (As := [.int v7, .int v9]) (rest := []) (am_X11_works d o_k H) mf_X11_works wd_1394 wd_1396 ws_4_9 cf_X11 o_k rfl rfl (Nat.le_of_ble_eq_true rfl) dX11_tells_36 (fun h10 H => ?_)
        refine aw_aload_n dX11_tells_39 rfl 0 rfl ?_
        refine aw_getR cf_X11 44 (by decide) rfl wd_1080 o_k dX11_tells_40 ?_
        refine aw_iconst (v := 0) dX11_tells_43 (by decide) ?_
        obtain ⟨z11, H⟩ := H
        refine aw_zaload z11 dX11_tells_44 ?_
        refine aw_name (fun v12 e_v12 => ?_)
        replace H := H v12 e_v12
        refine aw_if_ne (tgt := 120) dX11_tells_45 (by decide) (fun c13 => ?_) (fun c13 => ?_)
        · replace H := a_pos c13 H
          obtain ⟨x3_14, e_x3_14⟩ : ∃ y : Int32, y = x3 + 1 := ⟨_, rfl⟩
          replace H := H x3_14 e_x3_14
          refine aw_iinc (v := x3_14) (lv' := [(3, .int x3_14), (0, .ref (G.2.1 k)), (1, .int a1), (2, .int a2)]) dX11_tells_120 (n0 := 3) rfl (by rw [e_x3_14]; rfl) (by decide) rfl ?_
          refine aw_goto (tgt := 2) dX11_tells_123 (by decide) ?_
          refine aw_sub (lv' := [(0, .ref (G.2.1 k)), (1, .int a1), (2, .int a2), (3, .int x3_14)]) [1, 2, 3, 0] rfl ?_
          exact ih _ _ H
        · replace H := a_neg2 c13 H
          refine aw_aload_n dX11_tells_48 rfl 0 rfl ?_
          refine aw_getR cf_X11 43 (by decide) rfl wd_1079 o_k dX11_tells_49 ?_
          refine aw_iconst (v := 0) dX11_tells_52 (by decide) ?_
          obtain ⟨z15, H⟩ := H
          refine aw_iaload z15 dX11_tells_53 ?_
          refine aw_name (fun v16 e_v16 => ?_)
          replace H := H v16 e_v16
          refine aw_iconst (v := 1) dX11_tells_54 (by decide) ?_
          refine aw_icmp_eq (tgt := 61) dX11_tells_55 (by decide) (fun c17 => ?_) (fun c17 => ?_)
          · replace H := a_pos c17 H
            refine aw_aload_n dX11_tells_61 rfl 0 rfl ?_
            refine aw_aload_n dX11_tells_62 rfl 0 rfl ?_
            refine aw_getR cf_X11 18 (by decide) rfl wd_1054 o_k dX11_tells_63 ?_
            refine aw_iload_n dX11_tells_66 rfl 3 rfl ?_
            obtain ⟨z18, H⟩ := H
            refine aw_iaload z18 dX11_tells_67 ?_
            refine aw_name (fun v19 e_v19 => ?_)
            replace H := H v19 e_v19
            refine aw_aload_n dX11_tells_68 rfl 0 rfl ?_
            refine aw_getR cf_X11 19 (by decide) rfl wd_1055 o_k dX11_tells_69 ?_
            refine aw_iload_n dX11_tells_72 rfl 3 rfl ?_
            obtain ⟨z20, H⟩ := H
            refine aw_iaload z20 dX11_tells_73 ?_
            refine aw_name (fun v21 e_v21 => ?_)
            replace H := H v21 e_v21
            refine aw_callV_v (As := [.int v19, .int v21]) (rest := []) (am_X11_works d o_k H) mf_X11_works wd_1394 wd_1396 ws_4_9 cf_X11 o_k rfl rfl (Nat.le_of_ble_eq_true rfl) dX11_tells_74 (fun h22 H => ?_)
            refine aw_aload_n dX11_tells_77 rfl 0 rfl ?_
            refine aw_getR cf_X11 44 (by decide) rfl wd_1080 o_k dX11_tells_78 ?_
            refine aw_iconst (v := 0) dX11_tells_81 (by decide) ?_
            obtain ⟨z23, H⟩ := H
            refine aw_zaload z23 dX11_tells_82 ?_
            refine aw_name (fun v24 e_v24 => ?_)
            replace H := H v24 e_v24
            refine aw_if_eq (tgt := 90) dX11_tells_83 (by decide) (fun c25 => ?_) (fun c25 => ?_)
            · replace H := a_pos c25 H
              refine aw_aload_n dX11_tells_90 rfl 0 rfl ?_
              refine aw_getR cf_X11 43 (by decide) rfl wd_1079 o_k dX11_tells_91 ?_
              refine aw_iconst (v := 0) dX11_tells_94 (by decide) ?_
              obtain ⟨z26, H⟩ := H
              refine aw_iaload z26 dX11_tells_95 ?_
              refine aw_name (fun v27 e_v27 => ?_)
              replace H := H v27 e_v27
              refine aw_istore (lv' := [(4, .int v27), (0, .ref (G.2.1 k)), (1, .int a1), (2, .int a2), (3, .int x3)]) dX11_tells_96 (by decide) rfl ?_
              refine aw_iload dX11_tells_98 0 rfl ?_
              refine aw_if_ge (tgt := 107) dX11_tells_100 (by decide) (fun c28 => ?_) (fun c28 => ?_)
              · replace H := a_pos c28 H
                refine aw_iload dX11_tells_107 0 rfl ?_
                refine aw_iload_n dX11_tells_109 rfl 3 rfl ?_
                refine aw_icmp_le (tgt := 117) dX11_tells_110 (by decide) (fun c29 => ?_) (fun c29 => ?_)
                · replace H := a_pos c29 H
                  refine aw_iload dX11_tells_117 0 rfl ?_
                  exact aw_iret rfl H dX11_tells_119
                · replace H := a_neg c29 H
                  refine aw_iload_n dX11_tells_113 rfl 3 rfl ?_
                  refine aw_goto (tgt := 119) dX11_tells_114 (by decide) ?_
                  exact aw_iret rfl H dX11_tells_119
              · replace H := a_neg c28 H
                refine aw_iconst (v := 0) dX11_tells_103 (by decide) ?_
                refine aw_goto (tgt := 119) dX11_tells_104 (by decide) ?_
                exact aw_iret rfl H dX11_tells_119
            · replace H := a_neg c25 H
              refine aw_iconst (v := 0) dX11_tells_86 (by decide) ?_
              refine aw_goto (tgt := 96) dX11_tells_87 (by decide) ?_
              refine aw_istore (lv' := [(4, .int 0), (0, .ref (G.2.1 k)), (1, .int a1), (2, .int a2), (3, .int x3)]) dX11_tells_96 (by decide) rfl ?_
              refine aw_iload dX11_tells_98 0 rfl ?_
              refine aw_if_ge (tgt := 107) dX11_tells_100 (by decide) (fun c30 => ?_) (fun c30 => ?_)
              · replace H := a_pos c30 H
                refine aw_iload dX11_tells_107 0 rfl ?_
                refine aw_iload_n dX11_tells_109 rfl 3 rfl ?_
                refine aw_icmp_le (tgt := 117) dX11_tells_110 (by decide) (fun c31 => ?_) (fun c31 => ?_)
                · replace H := a_pos c31 H
                  refine aw_iload dX11_tells_117 0 rfl ?_
                  exact aw_iret rfl H dX11_tells_119
                · replace H := a_neg c31 H
                  refine aw_iload_n dX11_tells_113 rfl 3 rfl ?_
                  refine aw_goto (tgt := 119) dX11_tells_114 (by decide) ?_
                  exact aw_iret rfl H dX11_tells_119
              · replace H := a_neg c30 H
                refine aw_iconst (v := 0) dX11_tells_103 (by decide) ?_
                refine aw_goto (tgt := 119) dX11_tells_104 (by decide) ?_
                exact aw_iret rfl H dX11_tells_119
          · replace H := a_neg c17 H
            refine aw_goto (tgt := 120) dX11_tells_58 (by decide) ?_
            obtain ⟨x3_32, e_x3_32⟩ : ∃ y : Int32, y = x3 + 1 := ⟨_, rfl⟩
            replace H := H x3_32 e_x3_32
            refine aw_iinc (v := x3_32) (lv' := [(3, .int x3_32), (0, .ref (G.2.1 k)), (1, .int a1), (2, .int a2)]) dX11_tells_120 (n0 := 3) rfl (by rw [e_x3_32]; rfl) (by decide) rfl ?_
            refine aw_goto (tgt := 2) dX11_tells_123 (by decide) ?_
            refine aw_sub (lv' := [(0, .ref (G.2.1 k)), (1, .int a1), (2, .int a2), (3, .int x3_32)]) [1, 2, 3, 0] rfl ?_
            exact ih _ _ H
      · replace H := a_neg c5 H
        refine aw_goto (tgt := 120) dX11_tells_20 (by decide) ?_
        obtain ⟨x3_33, e_x3_33⟩ : ∃ y : Int32, y = x3 + 1 := ⟨_, rfl⟩
        replace H := H x3_33 e_x3_33
        refine aw_iinc (v := x3_33) (lv' := [(3, .int x3_33), (0, .ref (G.2.1 k)), (1, .int a1), (2, .int a2)]) dX11_tells_120 (n0 := 3) rfl (by rw [e_x3_33]; rfl) (by decide) rfl ?_
        refine aw_goto (tgt := 2) dX11_tells_123 (by decide) ?_
        refine aw_sub (lv' := [(0, .ref (G.2.1 k)), (1, .int a1), (2, .int a2), (3, .int x3_33)]) [1, 2, 3, 0] rfl ?_
        exact ih _ _ H
set_option maxHeartbeats 4000000 in
set_option maxRecDepth 100000 in
theorem am_X11_tells {l : Launch} {S : aS} {G : aG} (d : Nat) {k : Nat} {a1 : Int32} {a2 : Int32} {h : aH} {Q : Int32 → aH → Prop} (o_k : aObj S k 10 flX11) (H : f_X11_tells S k a1 a2 h Q) : AMi l S G (d + 7) M_X11_tells [.ref (G.2.1 k), .int a1, .int a2] h Q := by
  unfold f_X11_tells at H
  refine am_of mf_X11_tells (Nat.le_of_ble_eq_true rfl) (lv0 := [(0, .ref (G.2.1 k)), (1, .int a1), (2, .int a2)]) rfl ?_
  refine aw_iconst (v := 0) dX11_tells_0 (by decide) ?_
  refine aw_istore_n (lv' := [(3, .int 0), (0, .ref (G.2.1 k)), (1, .int a1), (2, .int a2)]) dX11_tells_1 rfl (by decide) rfl ?_
  refine aw_sub (lv' := [(0, .ref (G.2.1 k)), (1, .int a1), (2, .int a2), (3, .int 0)]) [1, 2, 3, 0] rfl ?_
  obtain ⟨n1, H⟩ := H
  exact fm_X11_tells_2 d o_k n1 _ _ H
set_option maxHeartbeats 4000000 in
set_option maxRecDepth 100000 in
theorem am_X11_bySquare {l : Launch} {S : aS} {G : aG} (d : Nat) {k : Nat} {a1 : Int32} {a2 : Int32} {a3 : Int32} {a4 : Int32} {h : aH} {Q : Int32 → aH → Prop} (o_k : aObj S k 10 flX11) (H : f_X11_bySquare S k a1 a2 a3 a4 h Q) : AMi l S G (d + 8) M_X11_bySquare [.ref (G.2.1 k), .int a1, .int a2, .int a3, .int a4] h Q := by
  unfold f_X11_bySquare at H
  refine am_of mf_X11_bySquare (Nat.le_of_ble_eq_true rfl) (lv0 := [(0, .ref (G.2.1 k)), (1, .int a1), (2, .int a2), (3, .int a3), (4, .int a4)]) rfl ?_
  refine aw_aload_n dX11_bySquare_0 rfl 0 rfl ?_
  refine aw_iload_n dX11_bySquare_1 rfl 2 rfl ?_
  refine aw_putI cf_X11 39 (by decide) rfl wd_1075 rfl rfl rfl o_k dX11_bySquare_2 ?_
  refine aw_nameH (fun h1 e_h1 => ?_)
  replace H := H h1 e_h1
  refine aw_aload_n dX11_bySquare_5 rfl 0 rfl ?_
  refine aw_iload_n dX11_bySquare_6 rfl 3 rfl ?_
  refine aw_putI cf_X11 40 (by decide) rfl wd_1076 rfl rfl rfl o_k dX11_bySquare_7 ?_
  refine aw_nameH (fun h2 e_h2 => ?_)
  replace H := H h2 e_h2
  refine aw_aload_n dX11_bySquare_10 rfl 0 rfl ?_
  refine aw_iconst (v := (-1)) dX11_bySquare_11 (by decide) ?_
  refine aw_putI cf_X11 41 (by decide) rfl wd_1077 rfl rfl rfl o_k dX11_bySquare_12 ?_
  refine aw_nameH (fun h3 e_h3 => ?_)
  replace H := H h3 e_h3
  refine aw_aload_n dX11_bySquare_15 rfl 0 rfl ?_
  refine aw_iload_n dX11_bySquare_16 rfl 1 rfl ?_
  refine aw_iload dX11_bySquare_17 4 rfl ?_
  refine aw_callV_i (As := [.int a1, .int a4]) (rest := []) (am_X11_tells d o_k H) mf_X11_tells wd_1390 wd_1392 ws_4_8 cf_X11 o_k rfl rfl (Nat.le_of_ble_eq_true rfl) dX11_bySquare_19 (fun r5 h4 H => ?_)
  exact aw_iret rfl H dX11_bySquare_22
set_option maxHeartbeats 4000000 in
set_option maxRecDepth 100000 in
theorem am_X11_kindOn {l : Launch} {S : aS} {G : aG} (d : Nat) {k : Nat} {a1 : Int32} {h : aH} {Q : Int32 → aH → Prop} (o_k : aObj S k 10 flX11) (H : f_X11_kindOn S k a1 h Q) : AMi l S G d M_X11_kindOn [.ref (G.2.1 k), .int a1] h Q := by
  unfold f_X11_kindOn at H
  refine am_of mf_X11_kindOn (Nat.le_of_ble_eq_true rfl) (lv0 := [(0, .ref (G.2.1 k)), (1, .int a1)]) rfl ?_
  refine aw_aload_n dX11_kindOn_0 rfl 0 rfl ?_
  refine aw_getR cf_X11 8 (by decide) rfl wd_1044 o_k dX11_kindOn_1 ?_
  refine aw_iload_n dX11_kindOn_4 rfl 1 rfl ?_
  obtain ⟨z1, H⟩ := H
  refine aw_iaload z1 dX11_kindOn_5 ?_
  refine aw_name (fun v2 e_v2 => ?_)
  replace H := H v2 e_v2
  refine aw_iconst (v := (-1)) dX11_kindOn_6 (by decide) ?_
  refine aw_icmp_ne (tgt := 15) dX11_kindOn_7 (by decide) (fun c3 => ?_) (fun c3 => ?_)
  · replace H := a_pos c3 H
    refine aw_aload_n dX11_kindOn_15 rfl 0 rfl ?_
    refine aw_getR cf_X11 10 (by decide) rfl wd_1046 o_k dX11_kindOn_16 ?_
    refine aw_aload_n dX11_kindOn_19 rfl 0 rfl ?_
    refine aw_getR cf_X11 8 (by decide) rfl wd_1044 o_k dX11_kindOn_20 ?_
    refine aw_iload_n dX11_kindOn_23 rfl 1 rfl ?_
    obtain ⟨z4, H⟩ := H
    refine aw_iaload z4 dX11_kindOn_24 ?_
    refine aw_name (fun v5 e_v5 => ?_)
    replace H := H v5 e_v5
    obtain ⟨z6, H⟩ := H
    refine aw_iaload z6 dX11_kindOn_25 ?_
    refine aw_name (fun v7 e_v7 => ?_)
    replace H := H v7 e_v7
    exact aw_iret rfl H dX11_kindOn_26
  · replace H := a_neg2 c3 H
    refine aw_bipush (v := 9) dX11_kindOn_10 (by decide) ?_
    refine aw_goto (tgt := 26) dX11_kindOn_12 (by decide) ?_
    exact aw_iret rfl H dX11_kindOn_26
set_option maxHeartbeats 4000000 in
set_option maxRecDepth 100000 in
theorem am_X11_bears {l : Launch} {S : aS} {G : aG} (d : Nat) {k : Nat} {a1 : Int32} {h : aH} {Q : Int32 → aH → Prop} (o_k : aObj S k 10 flX11) (H : f_X11_bears S k a1 h Q) : AMi l S G (d + 9) M_X11_bears [.ref (G.2.1 k), .int a1] h Q := by
  unfold f_X11_bears at H
  refine am_of mf_X11_bears (Nat.le_of_ble_eq_true rfl) (lv0 := [(0, .ref (G.2.1 k)), (1, .int a1)]) rfl ?_
  refine aw_aload_n dX11_bears_0 rfl 0 rfl ?_
  refine aw_bipush (v := 98) dX11_bears_1 (by decide) ?_
  refine aw_iload_n dX11_bears_3 rfl 1 rfl ?_
  refine aw_aload_n dX11_bears_4 rfl 0 rfl ?_
  refine aw_iload_n dX11_bears_5 rfl 1 rfl ?_
  refine aw_callV_i (As := [.int a1]) (rest := [.int a1, .int 98, .ref (G.2.1 k)]) (am_X11_kindOn (d + 8) o_k H) mf_X11_kindOn wd_1474 wd_1476 ws_5_7 cf_X11 o_k rfl rfl (Nat.le_of_ble_eq_true rfl) dX11_bears_6 (fun r2 h1 H => ?_)
  refine aw_sipush (v := 9999) dX11_bears_9 (by decide) ?_
  refine aw_callV_i (As := [.int 98, .int a1, .int r2, .int 9999]) (rest := []) (am_X11_bySquare d o_k H) mf_X11_bySquare wd_1386 wd_1388 ws_4_7 cf_X11 o_k rfl rfl (Nat.le_of_ble_eq_true rfl) dX11_bears_12 (fun r4 h3 H => ?_)
  exact aw_iret rfl H dX11_bears_15
set_option maxHeartbeats 4000000 in
set_option maxRecDepth 100000 in
theorem am_X11_mayCut {l : Launch} {S : aS} {G : aG} (d : Nat) {k : Nat} {a1 : Int32} {a2 : Int32} {h : aH} {Q : Int32 → aH → Prop} (o_k : aObj S k 10 flX11) (H : f_X11_mayCut S k a1 a2 h Q) : AMi l S G (d + 9) M_X11_mayCut [.ref (G.2.1 k), .int a1, .int a2] h Q := by
  unfold f_X11_mayCut at H
  refine am_of mf_X11_mayCut (Nat.le_of_ble_eq_true rfl) (lv0 := [(0, .ref (G.2.1 k)), (1, .int a1), (2, .int a2)]) rfl ?_
  refine aw_aload_n dX11_mayCut_0 rfl 0 rfl ?_
  refine aw_bipush (v := 99) dX11_mayCut_1 (by decide) ?_
  refine aw_iload_n dX11_mayCut_3 rfl 1 rfl ?_
  refine aw_iload_n dX11_mayCut_4 rfl 2 rfl ?_
  refine aw_iconst (v := 1) dX11_mayCut_5 (by decide) ?_
  refine aw_callV_i (As := [.int 99, .int a1, .int a2, .int 1]) (rest := []) (am_X11_bySquare d o_k H) mf_X11_bySquare wd_1386 wd_1388 ws_4_7 cf_X11 o_k rfl rfl (Nat.le_of_ble_eq_true rfl) dX11_mayCut_6 (fun r2 h1 H => ?_)
  refine aw_if_le (tgt := 16) dX11_mayCut_9 (by decide) (fun c3 => ?_) (fun c3 => ?_)
  · replace H := a_pos c3 H
    refine aw_iconst (v := 0) dX11_mayCut_16 (by decide) ?_
    exact aw_zret rfl rfl H dX11_mayCut_17
  · replace H := a_neg c3 H
    refine aw_iconst (v := 1) dX11_mayCut_12 (by decide) ?_
    refine aw_goto (tgt := 17) dX11_mayCut_13 (by decide) ?_
    exact aw_zret rfl rfl H dX11_mayCut_17
set_option maxHeartbeats 4000000 in
set_option maxRecDepth 100000 in
theorem am_X11_drawOf {l : Launch} {S : aS} {G : aG} (d : Nat) {k : Nat} {a1 : Int32} {a2 : Int32} {h : aH} {Q : Int32 → aH → Prop} (o_k : aObj S k 10 flX11) (H : f_X11_drawOf S k a1 a2 h Q) : AMi l S G (d + 8) M_X11_drawOf [.ref (G.2.1 k), .int a1, .int a2] h Q := by
  unfold f_X11_drawOf at H
  refine am_of mf_X11_drawOf (Nat.le_of_ble_eq_true rfl) (lv0 := [(0, .ref (G.2.1 k)), (1, .int a1), (2, .int a2)]) rfl ?_
  refine aw_aload_n dX11_drawOf_0 rfl 0 rfl ?_
  refine aw_aload_n dX11_drawOf_1 rfl 0 rfl ?_
  refine aw_getR cf_X11 9 (by decide) rfl wd_1045 o_k dX11_drawOf_2 ?_
  refine aw_iload_n dX11_drawOf_5 rfl 1 rfl ?_
  obtain ⟨z1, H⟩ := H
  refine aw_iaload z1 dX11_drawOf_6 ?_
  refine aw_name (fun v2 e_v2 => ?_)
  replace H := H v2 e_v2
  refine aw_putI cf_X11 39 (by decide) rfl wd_1075 rfl rfl rfl o_k dX11_drawOf_7 ?_
  refine aw_nameH (fun h3 e_h3 => ?_)
  replace H := H h3 e_h3
  refine aw_aload_n dX11_drawOf_10 rfl 0 rfl ?_
  refine aw_aload_n dX11_drawOf_11 rfl 0 rfl ?_
  refine aw_getR cf_X11 10 (by decide) rfl wd_1046 o_k dX11_drawOf_12 ?_
  refine aw_iload_n dX11_drawOf_15 rfl 1 rfl ?_
  obtain ⟨z4, H⟩ := H
  refine aw_iaload z4 dX11_drawOf_16 ?_
  refine aw_name (fun v5 e_v5 => ?_)
  replace H := H v5 e_v5
  refine aw_putI cf_X11 40 (by decide) rfl wd_1076 rfl rfl rfl o_k dX11_drawOf_17 ?_
  refine aw_nameH (fun h6 e_h6 => ?_)
  replace H := H h6 e_h6
  refine aw_aload_n dX11_drawOf_20 rfl 0 rfl ?_
  refine aw_iload_n dX11_drawOf_21 rfl 1 rfl ?_
  refine aw_putI cf_X11 41 (by decide) rfl wd_1077 rfl rfl rfl o_k dX11_drawOf_22 ?_
  refine aw_nameH (fun h7 e_h7 => ?_)
  replace H := H h7 e_h7
  refine aw_aload_n dX11_drawOf_25 rfl 0 rfl ?_
  refine aw_iload_n dX11_drawOf_26 rfl 2 rfl ?_
  refine aw_putI cf_X11 42 (by decide) rfl wd_1078 rfl rfl rfl o_k dX11_drawOf_27 ?_
  refine aw_nameH (fun h8 e_h8 => ?_)
  replace H := H h8 e_h8
  refine aw_aload_n dX11_drawOf_30 rfl 0 rfl ?_
  refine aw_bipush (v := 103) dX11_drawOf_31 (by decide) ?_
  refine aw_sipush (v := 999) dX11_drawOf_33 (by decide) ?_
  refine aw_callV_i (As := [.int 103, .int 999]) (rest := []) (am_X11_tells d o_k H) mf_X11_tells wd_1390 wd_1392 ws_4_8 cf_X11 o_k rfl rfl (Nat.le_of_ble_eq_true rfl) dX11_drawOf_36 (fun r10 h9 H => ?_)
  exact aw_iret rfl H dX11_drawOf_39
set_option maxHeartbeats 4000000 in
set_option maxRecDepth 100000 in
theorem am_X11_isOpenAt {l : Launch} {S : aS} {G : aG} (d : Nat) {k : Nat} {a1 : Int32} {h : aH} {Q : Int32 → aH → Prop} (o_k : aObj S k 10 flX11) (H : f_X11_isOpenAt S k a1 h Q) : AMi l S G d M_X11_isOpenAt [.ref (G.2.1 k), .int a1] h Q := by
  unfold f_X11_isOpenAt at H
  refine am_of mf_X11_isOpenAt (Nat.le_of_ble_eq_true rfl) (lv0 := [(0, .ref (G.2.1 k)), (1, .int a1)]) rfl ?_
  refine aw_iload_n dX11_isOpenAt_0 rfl 1 rfl ?_
  refine aw_iconst (v := (-1)) dX11_isOpenAt_1 (by decide) ?_
  refine aw_icmp_eq (tgt := 19) dX11_isOpenAt_2 (by decide) (fun c1 => ?_) (fun c1 => ?_)
  · replace H := a_pos c1 H
    refine aw_iconst (v := 0) dX11_isOpenAt_19 (by decide) ?_
    exact aw_zret rfl rfl H dX11_isOpenAt_20
  · replace H := a_neg c1 H
    refine aw_aload_n dX11_isOpenAt_5 rfl 0 rfl ?_
    refine aw_getR cf_X11 8 (by decide) rfl wd_1044 o_k dX11_isOpenAt_6 ?_
    refine aw_iload_n dX11_isOpenAt_9 rfl 1 rfl ?_
    obtain ⟨z2, H⟩ := H
    refine aw_iaload z2 dX11_isOpenAt_10 ?_
    refine aw_name (fun v3 e_v3 => ?_)
    replace H := H v3 e_v3
    refine aw_iconst (v := (-1)) dX11_isOpenAt_11 (by decide) ?_
    refine aw_icmp_eq (tgt := 19) dX11_isOpenAt_12 (by decide) (fun c4 => ?_) (fun c4 => ?_)
    · replace H := a_pos c4 H
      refine aw_iconst (v := 0) dX11_isOpenAt_19 (by decide) ?_
      exact aw_zret rfl rfl H dX11_isOpenAt_20
    · replace H := a_neg c4 H
      refine aw_iconst (v := 1) dX11_isOpenAt_15 (by decide) ?_
      refine aw_goto (tgt := 20) dX11_isOpenAt_16 (by decide) ?_
      exact aw_zret rfl rfl H dX11_isOpenAt_20
set_option maxHeartbeats 4000000 in
set_option maxRecDepth 100000 in
theorem fm_X11_makesRow_27 {l : Launch} {S : aS} {G : aG} (d : Nat) {k : Nat} {a1 : Int32} {Q : Int32 → aH → Prop} (o_k : aObj S k 10 flX11) {K11 : Int32 → Int32 → aH → Prop} (hK11 : ∀ (x2 : Int32) (x3 : Int32) (h : aH), K11 x2 x3 h → AW l S G (d + 4) M_X11_makesRow (va_Qi Q (aPo S G) (aA S G)) 11 [(0, .ref (G.2.1 k)), (1, .int a1), (2, .int x2), (3, .int x3)] [] h) (x2 : Int32) (x3 : Int32) (h : aH) (H : f_X11_makesRow_27 S k a1 Q K11 x2 x3 h) : AW l S G (d + 4) M_X11_makesRow (va_Qi Q (aPo S G) (aA S G)) 27 [(0, .ref (G.2.1 k)), (1, .int a1), (2, .int x2), (3, .int x3)] [] h := by
  unfold f_X11_makesRow_27 at H
  refine aw_aload_n dX11_makesRow_27 rfl 0 rfl ?_
  refine aw_iload_n dX11_makesRow_28 rfl 1 rfl ?_
  refine aw_iload_n dX11_makesRow_29 rfl 2 rfl ?_
  refine aw_iload_n dX11_makesRow_30 rfl 3 rfl ?_
  refine aw_callS_i (As := [.int a1, .int x2, .int x3]) (rest := [.ref (G.2.1 k)]) (am_X11_aside d H) mf_X11_aside wd_1413 wd_1414 rfl rfl (Nat.le_of_ble_eq_true rfl) dX11_makesRow_31 (fun r2 h1 H => ?_)
  refine aw_callV_i (As := [.int r2]) (rest := []) (am_X11_isOpenAt (d + 3) o_k H) mf_X11_isOpenAt wd_1438 wd_1440 ws_5_1 cf_X11 o_k rfl rfl (Nat.le_of_ble_eq_true rfl) dX11_makesRow_34 (fun r4 h3 H => ?_)
  refine aw_istore (lv' := [(4, .int r4), (0, .ref (G.2.1 k)), (1, .int a1), (2, .int x2), (3, .int x3)]) dX11_makesRow_37 (by decide) rfl ?_
  refine aw_iload dX11_makesRow_39 0 rfl ?_
  refine aw_if_eq (tgt := 78) dX11_makesRow_41 (by decide) (fun c5 => ?_) (fun c5 => ?_)
  · replace H := a_pos c5 H
    obtain ⟨x3_6, e_x3_6⟩ : ∃ y : Int32, y = x3 + 1 := ⟨_, rfl⟩
    replace H := H x3_6 e_x3_6
    refine aw_iinc (v := x3_6) (lv' := [(3, .int x3_6), (4, .int r4), (0, .ref (G.2.1 k)), (1, .int a1), (2, .int x2)]) dX11_makesRow_78 (n0 := 4) rfl (by rw [e_x3_6]; rfl) (by decide) rfl ?_
    refine aw_goto (tgt := 11) dX11_makesRow_81 (by decide) ?_
    refine aw_sub (lv' := [(0, .ref (G.2.1 k)), (1, .int a1), (2, .int x2), (3, .int x3_6)]) [2, 3, 4, 0] rfl ?_
    exact hK11 _ _ _ H
  · replace H := a_neg c5 H
    refine aw_aload_n dX11_makesRow_44 rfl 1 rfl ?_
    refine aw_iload_n dX11_makesRow_45 rfl 2 rfl ?_
    refine aw_iconst (v := 2) dX11_makesRow_46 (by decide) ?_
    refine aw_iload_n dX11_makesRow_47 rfl 3 rfl ?_
    refine aw_imul dX11_makesRow_48 ?_
    refine aw_iconst (v := 2) dX11_makesRow_49 (by decide) ?_
    refine aw_iload_n dX11_makesRow_50 rfl 4 rfl ?_
    refine aw_imul dX11_makesRow_51 ?_
    refine aw_callS_i (As := [.int a1, .int (2 * x2), .int (2 * x3)]) (rest := [.ref (G.2.1 k)]) (am_X11_aside d H) mf_X11_aside wd_1413 wd_1414 rfl rfl (Nat.le_of_ble_eq_true rfl) dX11_makesRow_52 (fun r8 h7 H => ?_)
    refine aw_callV_i (As := [.int r8]) (rest := []) (am_X11_isOpenAt (d + 3) o_k H) mf_X11_isOpenAt wd_1438 wd_1440 ws_5_1 cf_X11 o_k rfl rfl (Nat.le_of_ble_eq_true rfl) dX11_makesRow_55 (fun r10 h9 H => ?_)
    refine aw_if_ne (tgt := 76) dX11_makesRow_58 (by decide) (fun c11 => ?_) (fun c11 => ?_)
    · replace H := a_pos c11 H
      refine aw_iconst (v := 1) dX11_makesRow_76 (by decide) ?_
      exact aw_zret rfl rfl H dX11_makesRow_77
    · replace H := a_neg2 c11 H
      refine aw_aload_n dX11_makesRow_61 rfl 1 rfl ?_
      refine aw_iload_n dX11_makesRow_62 rfl 2 rfl ?_
      refine aw_iload_n dX11_makesRow_63 rfl 3 rfl ?_
      refine aw_ineg dX11_makesRow_64 ?_
      refine aw_iload_n dX11_makesRow_65 rfl 4 rfl ?_
      refine aw_ineg dX11_makesRow_66 ?_
      refine aw_callS_i (As := [.int a1, .int (-x2), .int (-x3)]) (rest := [.ref (G.2.1 k)]) (am_X11_aside d H) mf_X11_aside wd_1413 wd_1414 rfl rfl (Nat.le_of_ble_eq_true rfl) dX11_makesRow_67 (fun r13 h12 H => ?_)
      refine aw_callV_i (As := [.int r13]) (rest := []) (am_X11_isOpenAt (d + 3) o_k H) mf_X11_isOpenAt wd_1438 wd_1440 ws_5_1 cf_X11 o_k rfl rfl (Nat.le_of_ble_eq_true rfl) dX11_makesRow_70 (fun r15 h14 H => ?_)
      refine aw_if_eq (tgt := 78) dX11_makesRow_73 (by decide) (fun c16 => ?_) (fun c16 => ?_)
      · replace H := a_pos c16 H
        obtain ⟨x3_17, e_x3_17⟩ : ∃ y : Int32, y = x3 + 1 := ⟨_, rfl⟩
        replace H := H x3_17 e_x3_17
        refine aw_iinc (v := x3_17) (lv' := [(3, .int x3_17), (4, .int r4), (0, .ref (G.2.1 k)), (1, .int a1), (2, .int x2)]) dX11_makesRow_78 (n0 := 4) rfl (by rw [e_x3_17]; rfl) (by decide) rfl ?_
        refine aw_goto (tgt := 11) dX11_makesRow_81 (by decide) ?_
        refine aw_sub (lv' := [(0, .ref (G.2.1 k)), (1, .int a1), (2, .int x2), (3, .int x3_17)]) [2, 3, 4, 0] rfl ?_
        exact hK11 _ _ _ H
      · replace H := a_neg c16 H
        refine aw_iconst (v := 1) dX11_makesRow_76 (by decide) ?_
        exact aw_zret rfl rfl H dX11_makesRow_77
set_option maxHeartbeats 4000000 in
set_option maxRecDepth 100000 in
theorem fm_X11_makesRow_11 {l : Launch} {S : aS} {G : aG} (d : Nat) {k : Nat} {a1 : Int32} {Q : Int32 → aH → Prop} (o_k : aObj S k 10 flX11) {K3 : Int32 → aH → Prop} (hK3 : ∀ (x2 : Int32) (h : aH), K3 x2 h → AW l S G (d + 4) M_X11_makesRow (va_Qi Q (aPo S G) (aA S G)) 3 [(0, .ref (G.2.1 k)), (1, .int a1), (2, .int x2)] [] h) : ∀ (n : Nat) (x2 : Int32) (x3 : Int32) (h : aH), f_X11_makesRow_11 S k a1 Q K3 n x2 x3 h → AW l S G (d + 4) M_X11_makesRow (va_Qi Q (aPo S G) (aA S G)) 11 [(0, .ref (G.2.1 k)), (1, .int a1), (2, .int x2), (3, .int x3)] [] h := by
  intro n
  induction n with
  | zero => intro x2 x3 h H; exact False.elim H
  | succ n ih =>
    intro x2 x3 h H
    unfold f_X11_makesRow_11 at H
    refine aw_iload_n dX11_makesRow_11 rfl 3 rfl ?_
    refine aw_iconst (v := 4) dX11_makesRow_12 (by decide) ?_
    refine aw_icmp_ge (tgt := 84) dX11_makesRow_13 (by decide) (fun c18 => ?_) (fun c18 => ?_)
    · replace H := a_pos c18 H
      obtain ⟨x2_19, e_x2_19⟩ : ∃ y : Int32, y = x2 + 1 := ⟨_, rfl⟩
      replace H := H x2_19 e_x2_19
      refine aw_iinc (v := x2_19) (lv' := [(2, .int x2_19), (0, .ref (G.2.1 k)), (1, .int a1), (3, .int x3)]) dX11_makesRow_84 (n0 := 2) rfl (by rw [e_x2_19]; rfl) (by decide) rfl ?_
      refine aw_goto (tgt := 3) dX11_makesRow_87 (by decide) ?_
      refine aw_sub (lv' := [(0, .ref (G.2.1 k)), (1, .int a1), (2, .int x2_19)]) [1, 2, 0] rfl ?_
      exact hK3 _ _ H
    · replace H := a_neg c18 H
      refine aw_iload_n dX11_makesRow_16 rfl 2 rfl ?_
      refine aw_if_ne (tgt := 27) dX11_makesRow_17 (by decide) (fun c20 => ?_) (fun c20 => ?_)
      · replace H := a_pos c20 H
        exact fm_X11_makesRow_27 d o_k ih _ _ _ H
      · replace H := a_neg2 c20 H
        refine aw_iload_n dX11_makesRow_20 rfl 3 rfl ?_
        refine aw_if_ne (tgt := 27) dX11_makesRow_21 (by decide) (fun c21 => ?_) (fun c21 => ?_)
        · replace H := a_pos c21 H
          exact fm_X11_makesRow_27 d o_k ih _ _ _ H
        · replace H := a_neg2 c21 H
          refine aw_goto (tgt := 78) dX11_makesRow_24 (by decide) ?_
          obtain ⟨x3_22, e_x3_22⟩ : ∃ y : Int32, y = x3 + 1 := ⟨_, rfl⟩
          replace H := H x3_22 e_x3_22
          refine aw_iinc (v := x3_22) (lv' := [(3, .int x3_22), (0, .ref (G.2.1 k)), (1, .int a1), (2, .int x2)]) dX11_makesRow_78 (n0 := 3) rfl (by rw [e_x3_22]; rfl) (by decide) rfl ?_
          refine aw_goto (tgt := 11) dX11_makesRow_81 (by decide) ?_
          refine aw_sub (lv' := [(0, .ref (G.2.1 k)), (1, .int a1), (2, .int x2), (3, .int x3_22)]) [1, 2, 3, 0] rfl ?_
          exact ih _ _ _ H
set_option maxHeartbeats 4000000 in
set_option maxRecDepth 100000 in
theorem fm_X11_makesRow_3 {l : Launch} {S : aS} {G : aG} (d : Nat) {k : Nat} {a1 : Int32} {Q : Int32 → aH → Prop} (o_k : aObj S k 10 flX11) : ∀ (n : Nat) (x2 : Int32) (h : aH), f_X11_makesRow_3 S k a1 Q n x2 h → AW l S G (d + 4) M_X11_makesRow (va_Qi Q (aPo S G) (aA S G)) 3 [(0, .ref (G.2.1 k)), (1, .int a1), (2, .int x2)] [] h := by
  intro n
  induction n with
  | zero => intro x2 h H; exact False.elim H
  | succ n ih =>
    intro x2 h H
    unfold f_X11_makesRow_3 at H
    refine aw_iload_n dX11_makesRow_3 rfl 2 rfl ?_
    refine aw_iconst (v := 4) dX11_makesRow_4 (by decide) ?_
    refine aw_icmp_ge (tgt := 90) dX11_makesRow_5 (by decide) (fun c23 => ?_) (fun c23 => ?_)
    · replace H := a_pos c23 H
      refine aw_iconst (v := 0) dX11_makesRow_90 (by decide) ?_
      exact aw_zret rfl rfl H dX11_makesRow_91
    · replace H := a_neg c23 H
      refine aw_bipush (v := (-3)) dX11_makesRow_8 (by decide) ?_
      refine aw_istore_n (lv' := [(3, .int (-3)), (0, .ref (G.2.1 k)), (1, .int a1), (2, .int x2)]) dX11_makesRow_10 rfl (by decide) rfl ?_
      refine aw_sub (lv' := [(0, .ref (G.2.1 k)), (1, .int a1), (2, .int x2), (3, .int (-3))]) [1, 2, 3, 0] rfl ?_
      obtain ⟨n1, H⟩ := H
      exact fm_X11_makesRow_11 d o_k ih n1 _ _ _ H
set_option maxHeartbeats 4000000 in
set_option maxRecDepth 100000 in
theorem am_X11_makesRow {l : Launch} {S : aS} {G : aG} (d : Nat) {k : Nat} {a1 : Int32} {h : aH} {Q : Int32 → aH → Prop} (o_k : aObj S k 10 flX11) (H : f_X11_makesRow S k a1 h Q) : AMi l S G (d + 4) M_X11_makesRow [.ref (G.2.1 k), .int a1] h Q := by
  unfold f_X11_makesRow at H
  refine am_of mf_X11_makesRow (Nat.le_of_ble_eq_true rfl) (lv0 := [(0, .ref (G.2.1 k)), (1, .int a1)]) rfl ?_
  refine aw_bipush (v := (-3)) dX11_makesRow_0 (by decide) ?_
  refine aw_istore_n (lv' := [(2, .int (-3)), (0, .ref (G.2.1 k)), (1, .int a1)]) dX11_makesRow_2 rfl (by decide) rfl ?_
  refine aw_sub (lv' := [(0, .ref (G.2.1 k)), (1, .int a1), (2, .int (-3))]) [1, 2, 0] rfl ?_
  obtain ⟨n1, H⟩ := H
  exact fm_X11_makesRow_3 d o_k n1 _ _ H
set_option maxHeartbeats 4000000 in
set_option maxRecDepth 100000 in
theorem am_X11_isDigit {l : Launch} {S : aS} {G : aG} (d : Nat) {a0 : Int32} {h : aH} {Q : Int32 → aH → Prop} (H : f_X11_isDigit S a0 h Q) : AMi l S G (d + 1) M_X11_isDigit [.int a0] h Q := by
  unfold f_X11_isDigit at H
  refine am_of mf_X11_isDigit (Nat.le_of_ble_eq_true rfl) (lv0 := [(0, .int a0)]) rfl ?_
  refine aw_iload_n dX11_isDigit_0 rfl 0 rfl ?_
  refine aw_i2l dX11_isDigit_1 ?_
  refine aw_lconst (v := 0) dX11_isDigit_2 (by decide) ?_
  refine aw_ldc2 (v := 9) dX11_isDigit_3 wd_1373 ?_
  refine aw_callS_i (As := [.long (a0).toInt64, .long 0, .long 9]) (rest := []) (am_X11_lies d H) mf_X11_lies wd_1258 wd_1259 rfl rfl (Nat.le_of_ble_eq_true rfl) dX11_isDigit_6 (fun r2 h1 H => ?_)
  exact aw_zret rfl H.1.1 H.2 dX11_isDigit_9
set_option maxHeartbeats 4000000 in
set_option maxRecDepth 100000 in
theorem am_X11_cut {l : Launch} {S : aS} {G : aG} (d : Nat) {k : Nat} {a1 : Int32} {a2 : Int32} {a3 : Int32} {a4 : Int32} {a5 : Int32} {a6 : Int32} {h : aH} {Q : Int32 → aH → Prop} (o_k : aObj S k 10 flX11) (H : f_X11_cut S k a1 a2 a3 a4 a5 a6 h Q) : AMi l S G (d + 10) M_X11_cut [.ref (G.2.1 k), .int a1, .int a2, .int a3, .int a4, .int a5, .int a6] h Q := by
  unfold f_X11_cut at H
  refine am_of mf_X11_cut (Nat.le_of_ble_eq_true rfl) (lv0 := [(0, .ref (G.2.1 k)), (1, .int a1), (2, .int a2), (3, .int a3), (4, .int a4), (5, .int a5), (6, .int a6)]) rfl ?_
  refine aw_iload_n dX11_cut_0 rfl 1 rfl ?_
  refine aw_iload_n dX11_cut_1 rfl 2 rfl ?_
  refine aw_callS_i (As := [.int a1, .int a2]) (rest := []) (am_X11_isSquare (d + 7) H) mf_X11_isSquare wd_1251 wd_1252 rfl rfl (Nat.le_of_ble_eq_true rfl) dX11_cut_2 (fun r2 h1 H => ?_)
  refine aw_if_eq (tgt := 53) dX11_cut_5 (by decide) (fun c3 => ?_) (fun c3 => ?_)
  · replace H := a_pos c3 H
    refine aw_iconst (v := (-1)) dX11_cut_53 (by decide) ?_
    exact aw_iret rfl H dX11_cut_54
  · replace H := a_neg c3 H
    refine aw_iload_n dX11_cut_8 rfl 3 rfl ?_
    refine aw_i2l dX11_cut_9 ?_
    refine aw_lconst (v := 0) dX11_cut_10 (by decide) ?_
    refine aw_ldc2 (v := 4) dX11_cut_11 wd_1369 ?_
    refine aw_callS_i (As := [.long (a3).toInt64, .long 0, .long 4]) (rest := []) (am_X11_lies (d + 9) H) mf_X11_lies wd_1258 wd_1259 rfl rfl (Nat.le_of_ble_eq_true rfl) dX11_cut_14 (fun r5 h4 H => ?_)
    refine aw_if_eq (tgt := 53) dX11_cut_17 (by decide) (fun c6 => ?_) (fun c6 => ?_)
    · replace H := a_pos c6 H
      refine aw_iconst (v := (-1)) dX11_cut_53 (by decide) ?_
      exact aw_iret rfl H dX11_cut_54
    · replace H := a_neg c6 H
      refine aw_iload dX11_cut_20 4 rfl ?_
      refine aw_callS_i (As := [.int a4]) (rest := []) (am_X11_isDigit (d + 8) H) mf_X11_isDigit wd_1370 wd_1371 rfl rfl (Nat.le_of_ble_eq_true rfl) dX11_cut_22 (fun r8 h7 H => ?_)
      refine aw_if_eq (tgt := 53) dX11_cut_25 (by decide) (fun c9 => ?_) (fun c9 => ?_)
      · replace H := a_pos c9 H
        refine aw_iconst (v := (-1)) dX11_cut_53 (by decide) ?_
        exact aw_iret rfl H dX11_cut_54
      · replace H := a_neg c9 H
        refine aw_iload dX11_cut_28 5 rfl ?_
        refine aw_callS_i (As := [.int a5]) (rest := []) (am_X11_isDigit (d + 8) H) mf_X11_isDigit wd_1370 wd_1371 rfl rfl (Nat.le_of_ble_eq_true rfl) dX11_cut_30 (fun r11 h10 H => ?_)
        refine aw_if_eq (tgt := 53) dX11_cut_33 (by decide) (fun c12 => ?_) (fun c12 => ?_)
        · replace H := a_pos c12 H
          refine aw_iconst (v := (-1)) dX11_cut_53 (by decide) ?_
          exact aw_iret rfl H dX11_cut_54
        · replace H := a_neg c12 H
          refine aw_iload dX11_cut_36 6 rfl ?_
          refine aw_callS_i (As := [.int a6]) (rest := []) (am_X11_isDigit (d + 8) H) mf_X11_isDigit wd_1370 wd_1371 rfl rfl (Nat.le_of_ble_eq_true rfl) dX11_cut_38 (fun r14 h13 H => ?_)
          refine aw_if_eq (tgt := 53) dX11_cut_41 (by decide) (fun c15 => ?_) (fun c15 => ?_)
          · replace H := a_pos c15 H
            refine aw_iconst (v := (-1)) dX11_cut_53 (by decide) ?_
            exact aw_iret rfl H dX11_cut_54
          · replace H := a_neg c15 H
            refine aw_aload_n dX11_cut_44 rfl 0 rfl ?_
            refine aw_getI cf_X11 2 (by decide) rfl wd_1038 o_k dX11_cut_45 ?_
            refine aw_name (fun v16 e_v16 => ?_)
            replace H := H v16 e_v16
            refine aw_bipush (v := 12) dX11_cut_48 (by decide) ?_
            refine aw_icmp_ne (tgt := 55) dX11_cut_50 (by decide) (fun c17 => ?_) (fun c17 => ?_)
            · replace H := a_pos c17 H
              refine aw_bipush (v := 16) dX11_cut_55 (by decide) ?_
              refine aw_iload_n dX11_cut_57 rfl 2 rfl ?_
              refine aw_imul dX11_cut_58 ?_
              refine aw_iload_n dX11_cut_59 rfl 1 rfl ?_
              refine aw_iadd dX11_cut_60 ?_
              refine aw_name (fun x7_18 e_x7_18 => ?_)
              replace H := H x7_18 e_x7_18
              refine aw_istore (lv' := [(7, .int x7_18), (0, .ref (G.2.1 k)), (1, .int a1), (2, .int a2), (3, .int a3), (4, .int a4), (5, .int a5), (6, .int a6)]) dX11_cut_61 (by decide) rfl ?_
              refine aw_aload_n dX11_cut_63 rfl 1 rfl ?_
              refine aw_iload dX11_cut_64 0 rfl ?_
              refine aw_callV_i (As := [.int x7_18]) (rest := []) (am_X11_isIce (d + 9) o_k H) mf_X11_isIce wd_1374 wd_1376 ws_4_4 cf_X11 o_k rfl rfl (Nat.le_of_ble_eq_true rfl) dX11_cut_66 (fun r20 h19 H => ?_)
              refine aw_if_eq (tgt := 81) dX11_cut_69 (by decide) (fun c21 => ?_) (fun c21 => ?_)
              · replace H := a_pos c21 H
                refine aw_iconst (v := (-1)) dX11_cut_81 (by decide) ?_
                exact aw_iret rfl H dX11_cut_82
              · replace H := a_neg c21 H
                refine aw_aload_n dX11_cut_72 rfl 1 rfl ?_
                refine aw_iload dX11_cut_73 0 rfl ?_
                refine aw_callV_i (As := [.int x7_18]) (rest := []) (am_X11_standsOn (d + 9) o_k H) mf_X11_standsOn wd_1378 wd_1380 ws_4_5 cf_X11 o_k rfl rfl (Nat.le_of_ble_eq_true rfl) dX11_cut_75 (fun r23 h22 H => ?_)
                refine aw_if_eq (tgt := 83) dX11_cut_78 (by decide) (fun c24 => ?_) (fun c24 => ?_)
                · replace H := a_pos c24 H
                  refine aw_aload_n dX11_cut_83 rfl 1 rfl ?_
                  refine aw_iload dX11_cut_84 0 rfl ?_
                  refine aw_iload_n dX11_cut_86 rfl 4 rfl ?_
                  refine aw_callV_i (As := [.int x7_18, .int a3]) (rest := []) (am_X11_mayCut d o_k H) mf_X11_mayCut wd_1382 wd_1384 ws_4_6 cf_X11 o_k rfl rfl (Nat.le_of_ble_eq_true rfl) dX11_cut_87 (fun r26 h25 H => ?_)
                  refine aw_if_ne (tgt := 96) dX11_cut_90 (by decide) (fun c27 => ?_) (fun c27 => ?_)
                  · replace H := a_pos c27 H
                    refine aw_aload_n dX11_cut_96 rfl 1 rfl ?_
                    refine aw_iload dX11_cut_97 0 rfl ?_
                    refine aw_callV_i (As := [.int x7_18]) (rest := []) (am_X11_makesRow (d + 5) o_k H) mf_X11_makesRow wd_1434 wd_1436 ws_5_0 cf_X11 o_k rfl rfl (Nat.le_of_ble_eq_true rfl) dX11_cut_99 (fun r29 h28 H => ?_)
                    refine aw_if_eq (tgt := 108) dX11_cut_102 (by decide) (fun c30 => ?_) (fun c30 => ?_)
                    · replace H := a_pos c30 H
                      refine aw_aload_n dX11_cut_108 rfl 1 rfl ?_
                      refine aw_getR cf_X11 9 (by decide) rfl wd_1045 o_k dX11_cut_109 ?_
                      refine aw_aload_n dX11_cut_112 rfl 1 rfl ?_
                      refine aw_getI cf_X11 2 (by decide) rfl wd_1038 o_k dX11_cut_113 ?_
                      refine aw_name (fun v31 e_v31 => ?_)
                      replace H := H v31 e_v31
                      refine aw_iload dX11_cut_116 0 rfl ?_
                      obtain ⟨z32, H⟩ := H
                      refine aw_iastore z32 dX11_cut_118 ?_
                      refine aw_nameH (fun h33 e_h33 => ?_)
                      replace H := H h33 e_h33
                      refine aw_aload_n dX11_cut_119 rfl 1 rfl ?_
                      refine aw_getR cf_X11 10 (by decide) rfl wd_1046 o_k dX11_cut_120 ?_
                      refine aw_aload_n dX11_cut_123 rfl 1 rfl ?_
                      refine aw_getI cf_X11 2 (by decide) rfl wd_1038 o_k dX11_cut_124 ?_
                      refine aw_name (fun v34 e_v34 => ?_)
                      replace H := H v34 e_v34
                      refine aw_iload_n dX11_cut_127 rfl 4 rfl ?_
                      obtain ⟨z35, H⟩ := H
                      refine aw_iastore z35 dX11_cut_128 ?_
                      refine aw_nameH (fun h36 e_h36 => ?_)
                      replace H := H h36 e_h36
                      refine aw_aload_n dX11_cut_129 rfl 1 rfl ?_
                      refine aw_getR cf_X11 11 (by decide) rfl wd_1047 o_k dX11_cut_130 ?_
                      refine aw_aload_n dX11_cut_133 rfl 1 rfl ?_
                      refine aw_getI cf_X11 2 (by decide) rfl wd_1038 o_k dX11_cut_134 ?_
                      refine aw_name (fun v37 e_v37 => ?_)
                      replace H := H v37 e_v37
                      refine aw_iload dX11_cut_137 5 rfl ?_
                      obtain ⟨z38, H⟩ := H
                      refine aw_iastore z38 dX11_cut_139 ?_
                      refine aw_nameH (fun h39 e_h39 => ?_)
                      replace H := H h39 e_h39
                      refine aw_aload_n dX11_cut_140 rfl 1 rfl ?_
                      refine aw_getR cf_X11 12 (by decide) rfl wd_1048 o_k dX11_cut_141 ?_
                      refine aw_aload_n dX11_cut_144 rfl 1 rfl ?_
                      refine aw_getI cf_X11 2 (by decide) rfl wd_1038 o_k dX11_cut_145 ?_
                      refine aw_name (fun v40 e_v40 => ?_)
                      replace H := H v40 e_v40
                      refine aw_iload dX11_cut_148 6 rfl ?_
                      obtain ⟨z41, H⟩ := H
                      refine aw_iastore z41 dX11_cut_150 ?_
                      refine aw_nameH (fun h42 e_h42 => ?_)
                      replace H := H h42 e_h42
                      refine aw_aload_n dX11_cut_151 rfl 1 rfl ?_
                      refine aw_getR cf_X11 13 (by decide) rfl wd_1049 o_k dX11_cut_152 ?_
                      refine aw_aload_n dX11_cut_155 rfl 1 rfl ?_
                      refine aw_getI cf_X11 2 (by decide) rfl wd_1038 o_k dX11_cut_156 ?_
                      refine aw_name (fun v43 e_v43 => ?_)
                      replace H := H v43 e_v43
                      refine aw_iload dX11_cut_159 7 rfl ?_
                      obtain ⟨z44, H⟩ := H
                      refine aw_iastore z44 dX11_cut_161 ?_
                      refine aw_nameH (fun h45 e_h45 => ?_)
                      replace H := H h45 e_h45
                      refine aw_aload_n dX11_cut_162 rfl 1 rfl ?_
                      refine aw_getR cf_X11 8 (by decide) rfl wd_1044 o_k dX11_cut_163 ?_
                      refine aw_iload dX11_cut_166 0 rfl ?_
                      refine aw_aload_n dX11_cut_168 rfl 1 rfl ?_
                      refine aw_getI cf_X11 2 (by decide) rfl wd_1038 o_k dX11_cut_169 ?_
                      refine aw_name (fun v46 e_v46 => ?_)
                      replace H := H v46 e_v46
                      obtain ⟨z47, H⟩ := H
                      refine aw_iastore z47 dX11_cut_172 ?_
                      refine aw_nameH (fun h48 e_h48 => ?_)
                      replace H := H h48 e_h48
                      refine aw_aload_n dX11_cut_173 rfl 1 rfl ?_
                      refine aw_dup dX11_cut_174 rfl ?_
                      refine aw_getI cf_X11 2 (by decide) rfl wd_1038 o_k dX11_cut_175 ?_
                      refine aw_name (fun v49 e_v49 => ?_)
                      replace H := H v49 e_v49
                      refine aw_iconst (v := 1) dX11_cut_178 (by decide) ?_
                      refine aw_iadd dX11_cut_179 ?_
                      refine aw_putI cf_X11 2 (by decide) rfl wd_1038 rfl rfl rfl o_k dX11_cut_180 ?_
                      refine aw_nameH (fun h50 e_h50 => ?_)
                      replace H := H h50 e_h50
                      refine aw_aload_n dX11_cut_183 rfl 1 rfl ?_
                      refine aw_getI cf_X11 2 (by decide) rfl wd_1038 o_k dX11_cut_184 ?_
                      refine aw_name (fun v51 e_v51 => ?_)
                      replace H := H v51 e_v51
                      refine aw_iconst (v := 1) dX11_cut_187 (by decide) ?_
                      refine aw_isub dX11_cut_188 ?_
                      exact aw_iret rfl H dX11_cut_189
                    · replace H := a_neg c30 H
                      refine aw_bipush (v := (-3)) dX11_cut_105 (by decide) ?_
                      exact aw_iret rfl H dX11_cut_107
                  · replace H := a_neg2 c27 H
                    refine aw_bipush (v := (-2)) dX11_cut_93 (by decide) ?_
                    exact aw_iret rfl H dX11_cut_95
                · replace H := a_neg c24 H
                  refine aw_iconst (v := (-1)) dX11_cut_81 (by decide) ?_
                  exact aw_iret rfl H dX11_cut_82
            · replace H := a_neg2 c17 H
              refine aw_iconst (v := (-1)) dX11_cut_53 (by decide) ?_
              exact aw_iret rfl H dX11_cut_54
set_option maxHeartbeats 4000000 in
set_option maxRecDepth 100000 in
theorem am_X11_shut {l : Launch} {S : aS} {G : aG} (d : Nat) {k : Nat} {a1 : Int32} {h : aH} {Q : Int32 → aH → Prop} (o_k : aObj S k 10 flX11) (H : f_X11_shut S k a1 h Q) : AMi l S G (d + 3) M_X11_shut [.ref (G.2.1 k), .int a1] h Q := by
  unfold f_X11_shut at H
  refine am_of mf_X11_shut (Nat.le_of_ble_eq_true rfl) (lv0 := [(0, .ref (G.2.1 k)), (1, .int a1)]) rfl ?_
  refine aw_aload_n dX11_shut_0 rfl 0 rfl ?_
  refine aw_iload_n dX11_shut_1 rfl 1 rfl ?_
  refine aw_callV_i (As := [.int a1]) (rest := []) (am_X11_isOpen d o_k H) mf_X11_isOpen wd_1446 wd_1448 ws_5_2 cf_X11 o_k rfl rfl (Nat.le_of_ble_eq_true rfl) dX11_shut_2 (fun r2 h1 H => ?_)
  refine aw_if_ne (tgt := 10) dX11_shut_5 (by decide) (fun c3 => ?_) (fun c3 => ?_)
  · replace H := a_pos c3 H
    refine aw_aload_n dX11_shut_10 rfl 0 rfl ?_
    refine aw_getR cf_X11 8 (by decide) rfl wd_1044 o_k dX11_shut_11 ?_
    refine aw_aload_n dX11_shut_14 rfl 0 rfl ?_
    refine aw_getR cf_X11 9 (by decide) rfl wd_1045 o_k dX11_shut_15 ?_
    refine aw_iload_n dX11_shut_18 rfl 1 rfl ?_
    obtain ⟨z4, H⟩ := H
    refine aw_iaload z4 dX11_shut_19 ?_
    refine aw_name (fun v5 e_v5 => ?_)
    replace H := H v5 e_v5
    refine aw_iconst (v := (-1)) dX11_shut_20 (by decide) ?_
    obtain ⟨z6, H⟩ := H
    refine aw_iastore z6 dX11_shut_21 ?_
    refine aw_nameH (fun h7 e_h7 => ?_)
    replace H := H h7 e_h7
    refine aw_iconst (v := 1) dX11_shut_22 (by decide) ?_
    exact aw_zret rfl rfl H dX11_shut_23
  · replace H := a_neg2 c3 H
    refine aw_iconst (v := 0) dX11_shut_8 (by decide) ?_
    exact aw_zret rfl rfl H dX11_shut_9
