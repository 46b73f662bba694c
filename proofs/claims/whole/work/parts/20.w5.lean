/-! ===== LAW: the class reads a piece ===== -/
section LwP
variable {n : Nat} {tb : Nat → Nat} {dd l : Nat} {h : aH} {i z : Nat} {e : Int32} {P C : Nat → Int32 → aH → (aH → Prop) → Prop}
theorem pc_110F (s : RdS n tb dd h i z e) (he : ¬ e = 0) {a x : Int32} {Q : aH → Prop} (hq : Q h) : f_X4_piece_110 P C (fE SC 8) SC 52 a Q x h := by
  unfold f_X4_piece_110
  intro v ev
  rw [s.2.2.1] at ev
  subst ev
  exact aIf_t he hq
theorem pc_77x (hL : LayC h l dd) (s : RdS n tb dd h i z e) (he : ¬ e = 0) {a : Int32} {Q : aH → Prop} (hq : Q h) : f_X4_next SC 52 h (fun r11 h10 => aIf (r11 = 60) (f_X4_piece_110 P C (fE SC 8) SC 52 a Q r11 h10) (aIf (r11 = 62) (f_X4_piece_110 P C (fE SC 8) SC 52 a Q r11 h10) (aIf (r11 = 61) (f_X4_piece_110 P C (fE SC 8) SC 52 a Q r11 h10) (f_X4_blame SC 52 1 h10 (fun h15 => f_X4_piece_110 P C (fE SC 8) SC 52 a Q r11 h15))))) := by
  refine sp_next hL s ?_
  refine aIf_i (fun _ => pc_110F s he hq) (fun _ => aIf_i (fun _ => pc_110F s he hq) (fun _ => aIf_i (fun _ => pc_110F s he hq) (fun _ => ?_)))
  exact sp_blameF s he (pc_110F s he hq)
theorem pc_77F (hl : isLaw dd) (hL : LayC h l dd) (s : RdS n tb dd h i z e) (he : ¬ e = 0) {a : Int32} {Q : aH → Prop} (hq : ∀ h' z', RdF dd h h' → RdS n tb dd h' i z' e → Q h') : f_X4_piece_77 P C (fE SC 8) SC 52 a Q h := by
  unfold f_X4_piece_77
  refine sp_exprF hl hL s he (fun h' z' f' s' => ?_)
  exact pc_77x (RdF_L hL f') s' he (hq h' z' f' s')
theorem cm_op {c : Nat} (h : isCm c) : isOp (nI c) := by
  rcases h with h | h | h <;> subst h
  · exact Or.inr (Or.inr (Or.inr (Or.inr (Or.inr (Or.inl rfl)))))
  · exact Or.inr (Or.inr (Or.inr (Or.inr (Or.inr (Or.inr (Or.inr rfl))))))
  · exact Or.inr (Or.inr (Or.inr (Or.inr (Or.inr (Or.inr (Or.inl rfl))))))
theorem pc_77 (hl : isLaw dd) (hL : LayC h l dd) {d : Nat} (hd : d ≤ 6) (s : RdS n tb dd h i z 0) (hz : z ≤ i) {Q : aH → Prop} (hq : Out n tb dd h i z 21 (cmpS n tb d i) Q) : f_X4_piece_77 P C (fE SC 8) SC 52 (nI d) Q h := by
  unfold f_X4_piece_77
  unfold cmpS at hq
  refine sp_expr8 hl hL hd s hz ⟨fun j f h1 z1 e1 F1 s1 k1 c1 b1 => ?_, fun e h1 i1 z1 e1 ne F1 s1 => ?_⟩
  rotate_left
  · rw [e1] at hq
    exact pc_77x (RdF_L hL F1) s1 ne (hq.2 e h1 i1 z1 rfl ne F1 s1)
  rw [e1] at hq
  have hL1 := RdF_L hL F1
  have n2 := s1.2.2.2.2.2.2.1
  have tc : ∀ c, 1 ≤ c → c < 256 → (tkI n tb j = nI c ↔ tk n tb j = c) := fun c h1 h2 => tkc (RdS_b s1) n2 h1 h2
  have yes : isCm (tk n tb j) → f_X4_piece_110 P C (fE SC 8) SC 52 (nI d) Q (tkI n tb j) h1 := by
    intro c
    have t1 : 1 ≤ tk n tb j := by rcases c with c | c | c <;> rw [c] <;> decide
    have hq : Out n tb dd h i z 21 (if isCm (tk n tb j) then (match exprS n tb d (j + 1) with | .inl e => .inl e | .inr q => .inr (q.1, sBin (nI (tk n tb j)) f q.2)) else .inl (er 1 j)) Q := hq
    rw [if_pos c] at hq
    unfold f_X4_piece_110
    intro v ev
    rw [s1.2.2.1] at ev
    subst ev
    refine aIf_f (fun y => y rfl) ?_
    refine sp_up s1 (tk_in t1) (fun h2 f2 s2 g2 => ?_)
    have hL2 := RdF_L hL1 f2
    refine sp_expr8 hl hL2 hd s2 (by omega) ⟨fun j3 f3 h3 z3 e3 F3 s3 k3 c3 b3 => ?_, fun e h3 i3 z3 e3 ne F3 s3 => ?_⟩
    · have hL3 := RdF_L hL2 F3
      rw [e3] at hq
      have jn := s3.2.2.2.2.1
      show aObj SC (gR h3 52 1) 2 flX3 ∧ f_X3_put SC (gR h3 52 1) _ _ h3 _
      rw [c_52_1 hL3]
      refine ⟨(lw_o hl).mpr trivial, sp_put hl hL3 s3 (fun _ h4 f4 s4 k4 o4 a4 => ?_) (fun c => absurd (by omega) c)⟩
      have l1 := CCo_lt c1
      have l3 := CCo_lt c3
      have kk : Kp dd z1 h1 h4 := fun q hq => by
        have := k3 q hq
        rw [g2, g2] at this
        exact ⟨(k4 q (by omega)).1.trans this.1, (k4 q (by omega)).2.trans this.2⟩
      refine hq.1 j3 _ h4 (z3 + 1) rfl (RdF_tr F1 (RdF_tr f2 (RdF_tr F3 f4))) s4 (Kp_tr k1 (fun q hq => kk q (by omega)) (Nat.le_refl _)) ?_ (by omega)
      exact CCo_bin (CCo_mono (CCo_eq c1 (fun k _ hk => kk k hk)) (by decide)) (CCo_eq c3 (fun k _ hk => k4 k (by omega))) (by decide) (o4.trans (tkI_in t1)) (cm_op c)
    · have hL3 := RdF_L hL2 F3
      rw [e3] at hq
      show aObj SC (gR h3 52 1) 2 flX3 ∧ f_X3_put SC (gR h3 52 1) _ _ h3 _
      rw [c_52_1 hL3]
      exact ⟨(lw_o hl).mpr trivial, sp_putX hl hL3 s3 (fun r h4 z4 f4 s4 => hq.2 e h4 i3 z4 rfl ne (RdF_tr F1 (RdF_tr f2 (RdF_tr F3 f4))) s4)⟩
  refine sp_next hL1 s1 ?_
  refine aIf_i (fun c => yes (Or.inl ((tc 60 (by decide) (by decide)).mp c))) (fun c60 => ?_)
  refine aIf_i (fun c => yes (Or.inr (Or.inl ((tc 62 (by decide) (by decide)).mp c)))) (fun c62 => ?_)
  refine aIf_i (fun c => yes (Or.inr (Or.inr ((tc 61 (by decide) (by decide)).mp c)))) (fun c61 => ?_)
  have no : ¬ isCm (tk n tb j) := by
    rintro (y | y | y)
    · exact c60 ((tc 60 (by decide) (by decide)).mpr y)
    · exact c62 ((tc 62 (by decide) (by decide)).mpr y)
    · exact c61 ((tc 61 (by decide) (by decide)).mpr y)
  have hq : Out n tb dd h i z 21 (if isCm (tk n tb j) then (match exprS n tb d (j + 1) with | .inl e => .inl e | .inr q => .inr (q.1, sBin (nI (tk n tb j)) f q.2)) else .inl (er 1 j)) Q := hq
  rw [if_neg no] at hq
  refine sp_blame (c := 1) s1 (by decide) (by decide) (fun h2 f2 s2 ne => ?_)
  exact pc_110F s2 ne (hq.2 _ h2 _ _ rfl ne (RdF_tr F1 f2) s2)
theorem sp_enter (s : RdS n tb dd h i z 0) (hi : i < n) {d : Nat} (hd : d ≤ 6) {Q : Int32 → aH → Prop} (h1 : d < 6 → ∀ h', RdF dd h h' → RdS n tb dd h' (i + 1) z 0 → (∀ c q, gA h' c q = gA h c q) → Q 1 h') (h0 : 6 ≤ d → ∀ h', RdF dd h h' → RdS n tb dd h' i z (er 5 i) → ¬ er 5 i = 0 → Q 0 h') : f_X4_enter SC 52 (nI d) h Q := by
  by_cases c : d < 6
  · refine aIf_t ((nI_ltI (a := d) (b := 6) (by omega) (by decide)).mpr c) ?_
    exact sp_up s hi (fun h' f' s' g' => h1 c h' f' s' g')
  · refine aIf_f (fun y => c ((nI_ltI (a := d) (b := 6) (by omega) (by decide)).mp y)) ?_
    exact sp_blame (c := 5) s (by decide) (by decide) (fun h' f' s' ne => h0 (by omega) h' f' s' ne)
theorem sp_piece (hl : isLaw dd) (hL : LayC h l dd) {Ps Cs : Nat → Rs} {d : Nat} (hd : d ≤ 6) (hP : d < 6 → ∀ h i z Q, LayC h l dd → RdS n tb dd h i z 0 → z ≤ i → Out n tb dd h i z 21 (Ps i) Q → P 52 (nI (d + 1)) h Q) (hC : d < 6 → ∀ h i z Q, LayC h l dd → RdS n tb dd h i z 0 → z ≤ i → Out n tb dd h i z 21 (Cs i) Q → C 52 (nI (d + 1)) h Q) (s : RdS n tb dd h i z 0) (hz : z ≤ i) {Q : aH → Prop} (hq : Out n tb dd h i z 21 (pieS n tb Ps Cs d i) Q) : f_X4_piece P C (fE SC 8) SC 52 (nI d) h Q := by
  have n2 := s.2.2.2.2.2.2.1
  have tc : ∀ c, 1 ≤ c → c < 256 → (tkI n tb i = nI c ↔ tk n tb i = c) := fun c h1 h2 => tkc (RdS_b s) n2 h1 h2
  unfold pieS at hq
  intro v ev
  rw [s.2.2.1] at ev
  subst ev
  refine aIf_t rfl (sp_next hL s ?_)
  refine aIf_i (fun c33 => ?_) (fun c33 => ?_)
  · have c33 : ¬ tk n tb i = 33 := fun y => c33 ((tc 33 (by decide) (by decide)).mpr y)
    rw [if_neg c33] at hq
    unfold f_X4_piece_47
    refine aIf_i (fun c40 => ?_) (fun c40 => ?_)
    · have c40 : ¬ tk n tb i = 40 := fun y => c40 ((tc 40 (by decide) (by decide)).mpr y)
      rw [if_neg c40] at hq
      exact pc_77 hl hL hd s hz hq
    · have c40 : tk n tb i = 40 := (tc 40 (by decide) (by decide)).mp (Classical.not_not.mp c40)
      have hi : i < n := tk_in (n := n) (tb := tb) (by omega)
      rw [if_pos c40] at hq
      refine sp_enter s hi hd (fun c6 h' f' s' g' => ?_) (fun c6 h' f' s' ne => ?_)
      · rw [if_neg (by omega)] at hq
        refine aIf_f (by decide) ?_
        rw [nI_1]
        have hL' := RdF_L hL f'
        refine hC c6 h' (i + 1) z _ hL' s' (by omega) ⟨fun j f h2 z2 e2 F2 s2 k2 c2 b2 => ?_, fun e h2 i2 z2 e2 ne F2 s2 => ?_⟩
        · refine sp_take (c := 41) (RdF_L hL' F2) s2 (by decide) (by decide) (fun y h3 f3 s3 g3 => ?_) (fun y h3 f3 s3 ne => ?_)
          · refine hq.1 (j + 1) f h3 z2 (by rw [e2]; unfold thenS; exact if_pos y) (RdF_tr f' (RdF_tr F2 f3)) s3 (fun q hq => ?_) (CCo_eq c2 (fun k _ _ => ⟨g3 _ _, g3 _ _⟩)) (by omega)
            rw [g3, g3, ← g', ← g']
            exact k2 q hq
          · exact hq.2 _ _ _ _ (by rw [e2]; unfold thenS; exact if_neg y) ne (RdF_tr f' (RdF_tr F2 f3)) s3
        · refine sp_takeF (RdF_L hL' F2) s2 ne (hq.2 _ _ _ _ (by rw [e2]; rfl) ne (RdF_tr f' F2) s2)
      · rw [if_pos (by omega)] at hq
        refine aIf_t rfl (pc_77F hl (RdF_L hL f') s' ne (fun h2 z2 f2 s2 => ?_))
        exact hq.2 _ h2 _ _ rfl ne (RdF_tr f' f2) s2
  · have c33 : tk n tb i = 33 := (tc 33 (by decide) (by decide)).mp (Classical.not_not.mp c33)
    have hi : i < n := tk_in (n := n) (tb := tb) (by omega)
    rw [if_pos c33] at hq
    refine sp_enter s hi hd (fun c6 h' f' s' g' => ?_) (fun c6 h' f' s' ne => ?_)
    · rw [if_neg (by omega)] at hq
      refine aIf_f (by decide) ?_
      rw [nI_1]
      have hL' := RdF_L hL f'
      refine hP c6 h' (i + 1) z _ hL' s' (by omega) ⟨fun j f h2 z2 e2 F2 s2 k2 c2 b2 => ?_, fun e h2 i2 z2 e2 ne F2 s2 => ?_⟩
      · have hL2 := RdF_L hL' F2
        have jn := s2.2.2.2.2.1
        show aObj SC (gR h2 52 1) 2 flX3 ∧ f_X3_put SC (gR h2 52 1) _ _ h2 _
        rw [c_52_1 hL2]
        refine ⟨(lw_o hl).mpr trivial, sp_put hl hL2 s2 (fun _ h4 f4 s4 k4 o4 a4 => ?_) (fun c => absurd (by omega) c)⟩
        have l2 := CCo_lt c2
        refine hq.1 j (sNeg f) h4 (z2 + 1) (by rw [e2]; rfl) (RdF_tr f' (RdF_tr F2 f4)) s4 (fun q hq => ?_) (CCo_neg (CCo_eq c2 (fun k _ hk => k4 k hk)) o4) (by omega)
        have := k2 q hq
        rw [g', g'] at this
        exact ⟨(k4 q (by omega)).1.trans this.1, (k4 q (by omega)).2.trans this.2⟩
      · have hL2 := RdF_L hL' F2
        show aObj SC (gR h2 52 1) 2 flX3 ∧ f_X3_put SC (gR h2 52 1) _ _ h2 _
        rw [c_52_1 hL2]
        exact ⟨(lw_o hl).mpr trivial, sp_putX hl hL2 s2 (fun r h4 z4 f4 s4 => hq.2 e h4 i2 z4 (by rw [e2]; rfl) ne (RdF_tr f' (RdF_tr F2 f4)) s4)⟩
    · rw [if_pos (by omega)] at hq
      refine aIf_t rfl ?_
      unfold f_X4_piece_47
      have et : ¬ tkI n tb i = 40 := fun y => absurd (((tc 40 (by decide) (by decide)).mp y).symm.trans c33) (by decide)
      refine aIf_t et (pc_77F hl (RdF_L hL f') s' ne (fun h2 z2 f2 s2 => ?_))
      exact hq.2 _ h2 _ _ rfl ne (RdF_tr f' f2) s2
/-- PIECE and CONDITION -/
theorem sp_pc (hl : isLaw dd) : ∀ (r : Nat) (b : Bool) (d : Nat), d ≤ 6 → (b = true → 2 * (6 - d) + 1 ≤ r) → (b = false → 2 * (6 - d) + 2 ≤ r) → ∀ (h : aH) (i z : Nat) (Q : aH → Prop), LayC h l dd → RdS n tb dd h i z 0 → z ≤ i → Out n tb dd h i z 21 (pcS n tb r b d i) Q → fP SC r b 52 (nI d) h Q := by
  intro r
  induction r with
  | zero =>
    intro b d hd h1 h2
    cases b
    · have := h2 rfl; omega
    · have := h1 rfl; omega
  | succ r ih =>
    intro b d hd h1 h2 h i z Q hL s hz hq
    cases b with
    | true =>
      have := h1 rfl
      show f_X4_piece (fP SC r true) (fP SC r false) (fE SC 8) SC 52 (nI d) h Q
      refine sp_piece hl hL (Ps := pcS n tb r true (d + 1)) (Cs := pcS n tb r false (d + 1)) hd (fun c h i z Q a b c d => ih true _ (by omega) (fun _ => by omega) (fun y => by cases y) h i z Q a b c d) (fun c h i z Q a b c d => ih false _ (by omega) (fun y => by cases y) (fun _ => by omega) h i z Q a b c d) s hz hq
    | false =>
      have := h2 rfl
      have hF : ∀ h i z Q, LayC h l dd → RdS n tb dd h i z 0 → z ≤ i → Out n tb dd h i z 21 (pcS n tb r true d i) Q → fP SC r true 52 (nI d) h Q := fun h i z Q a b c d => ih true _ (by omega) (fun _ => by omega) (fun y => by cases y) h i z Q a b c d
      show f_X4_condition (fP SC r true) SC 52 (nI d) h Q
      unfold f_X4_condition
      unfold pcS at hq
      refine hF h i z _ hL s hz ⟨fun j f h1 z1 e1 F1 s1 k1 c1 b1 => ?_, fun e h1 i1 z1 e1 ne F1 s1 => ?_⟩
      · rw [e1] at hq
        refine ⟨n + 1, ?_⟩
        have := cd_12 (a := nI d) hl hL hz hF n j z1 z z [] [] (-1) (-1) f none h1 (Nat.le_refl _) F1 s1 k1 ⟨rfl, rfl⟩ ⟨rfl, rfl⟩ c1 b1 (fun b => rfl) hq
        rw [Nat.sub_self] at this
        exact this
      · rw [e1] at hq
        refine ⟨0 + 1, cd_12F hl (RdF_L hL F1) s1 ne (fun h' f' s' => ?_)⟩
        exact hq.2 e h' i1 z1 rfl ne (RdF_tr F1 f') s'
theorem sp_cond (hl : isLaw dd) (hL : LayC h l dd) (s : RdS n tb dd h i z 0) (hz : z ≤ i) {Q : aH → Prop} (hq : Out n tb dd h i z 21 (pcS n tb 16 false 1 i) Q) : fP SC 16 false 52 1 h Q :=
  sp_pc hl 16 false 1 (by decide) (fun y => by cases y) (fun _ => by decide) h i z Q hL s hz hq
theorem sp_condF (hl : isLaw dd) (hL : LayC h l dd) (s : RdS n tb dd h i z e) (he : ¬ e = 0) {a : Int32} {Q : aH → Prop} (hq : ∀ h' z', RdF dd h h' → RdS n tb dd h' i z' e → Q h') : fP SC 16 false 52 a h Q := by
  show f_X4_condition (fun k a h Q => f_X4_piece (fP SC 14 true) (fP SC 14 false) (fE SC 8) SC k a h Q) SC 52 a h Q
  unfold f_X4_condition
  intro v ev
  rw [s.2.2.1] at ev
  subst ev
  exact aIf_f he ⟨0 + 1, cd_12F hl hL s he (fun h' f' s' => hq h' z f' s')⟩
end LwP
