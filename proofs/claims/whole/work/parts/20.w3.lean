/-! ===== LAW: the class reads an expression ===== -/
def AccI (op ar : Nat → Int32) (z0 z2 Nf i j : Nat) (acc : Option (Int32 × Sem)) (x2 : Int32) (t : Sem) : Prop := match acc with
  | none => x2 = (-1) ∧ CCo op ar z0 z2 (Nf + 1) t ∧ z2 + i ≤ z0 + j
  | some p => x2 = p.1 ∧ isOp p.1 ∧ (∃ m, CCo op ar z0 m (Nf + 2) p.2 ∧ CCo op ar m z2 (Nf + 1) t) ∧ z2 + 1 + i ≤ z0 + j
theorem isOp_m1 {o : Int32} (h : isOp o) : ¬ o = (-1) := by
  rcases h with h | h | h | h | h | h | h | h <;> rw [h] <;> decide
theorem AccI_lt {op ar : Nat → Int32} {z0 z2 Nf i j : Nat} {acc : Option (Int32 × Sem)} {x2 : Int32} {t : Sem} (h : AccI op ar z0 z2 Nf i j acc x2 t) : z0 < z2 ∧ z2 + i ≤ z0 + j := by
  cases acc with
  | none => exact ⟨CCo_lt h.2.1, h.2.2⟩
  | some p =>
    obtain ⟨_, _, ⟨m, a, b⟩, c⟩ := h
    have := CCo_lt a
    have := CCo_lt b
    exact ⟨by omega, by omega⟩
section LwE
variable {n : Nat} {tb : Nat → Nat} {dd l : Nat} {h : aH} {i z : Nat} {e : Int32}
theorem ex_close (hl : isLaw dd) (hL : LayC h l dd) {j z0 z2 Nf : Nat} {acc : Option (Int32 × Sem)} {x2 : Int32} {t : Sem} (s : RdS n tb dd h j z2 0) (hz : z0 ≤ i) (ha : AccI (gA h (dd + 1)) (gA h (dd + 2)) z0 z2 Nf i j acc x2 t) {A : aH → Prop} (hA : ∀ h' z', RdF dd h h' → RdS n tb dd h' j z' 0 → Kp dd z0 h h' → CCo (gA h' (dd + 1)) (gA h' (dd + 2)) z0 z' (Nf + 2) (cmb acc t) → z' + i ≤ z0 + j → A h') : aIf (x2 = (-1)) (A h) (aObj SC (gR h 52 1) 2 flX3 ∧ f_X3_put SC (gR h 52 1) x2 0 h (fun _ h' => A h')) := by
  have n2 := s.2.2.2.2.2.2.1
  have jn := s.2.2.2.2.1
  cases acc with
  | none => exact aIf_t ha.1 (hA h z2 RdF_rf s Kp_rf (CCo_mono ha.2.1 (by omega)) ha.2.2)
  | some p =>
    obtain ⟨a1, a2, ⟨m, a3, a4⟩, a5⟩ := ha
    subst a1
    refine aIf_f (isOp_m1 a2) ?_
    rw [c_52_1 hL]
    have m1 := CCo_lt a3
    have m2 := CCo_lt a4
    refine ⟨(lw_o hl).mpr trivial, sp_put hl hL s (fun _ h2 f2 s2 k2 o2 b2 => ?_) (fun c => absurd (by omega) c)⟩
    refine hA h2 (z2 + 1) f2 s2 (fun q hq => k2 q (by omega)) ?_ (by omega)
    exact CCo_bin (CCo_eq a3 (fun k _ hk => k2 k (by omega))) (CCo_eq a4 (fun k _ hk => k2 k (by omega))) (by omega) o2 a2
theorem ex_closeF (hl : isLaw dd) (hL : LayC h l dd) {x2 : Int32} (s : RdS n tb dd h i z e) {A : aH → Prop} (hA : ∀ h' z', RdF dd h h' → RdS n tb dd h' i z' e → A h') : aIf (x2 = (-1)) (A h) (aObj SC (gR h 52 1) 2 flX3 ∧ f_X3_put SC (gR h 52 1) x2 0 h (fun _ h' => A h')) := by
  refine aIf_i (fun _ => hA h z RdF_rf s) (fun _ => ?_)
  rw [c_52_1 hL]
  exact ⟨(lw_o hl).mpr trivial, sp_putX hl hL s (fun r h2 z2 f2 s2 => hA h2 z2 f2 s2)⟩
theorem ex_9F (hl : isLaw dd) (hL : LayC h l dd) {F : Nat → Int32 → aH → (aH → Prop) → Prop} {a x2 x3 : Int32} {w : Nat} (s : RdS n tb dd h i z e) (he : ¬ e = 0) {Q : aH → Prop} (hq : ∀ h' z', RdF dd h h' → RdS n tb dd h' i z' e → Q h') : f_X4_expression_9 F SC 52 a Q (w + 1) x2 x3 h := by
  unfold f_X4_expression_9
  intro v ev
  refine aIf_i (fun _ => ex_closeF hl hL s hq) (fun _ => ?_)
  intro v ev
  rw [s.2.2.1] at ev
  subst ev
  exact aIf_t he (ex_closeF hl hL s hq)
theorem pl_op {c : Nat} (h : isPl c ∨ isTm c) : isOp (nI c) := by
  rcases h with (h | h) | (h | h | h) <;> subst h
  · exact Or.inr (Or.inl rfl)
  · exact Or.inr (Or.inr (Or.inl rfl))
  · exact Or.inl rfl
  · exact Or.inr (Or.inr (Or.inr (Or.inl rfl)))
  · exact Or.inr (Or.inr (Or.inr (Or.inr (Or.inl rfl))))
theorem ex_9 (hl : isLaw dd) {h0 : aH} (hL : LayC h0 l dd) {F : Nat → Int32 → aH → (aH → Prop) → Prop} {Fs : Nat → Rs} {a : Int32} {Nf z0 : Nat} (hz : z0 ≤ i) (hF : ∀ h i z Q, LayC h l dd → RdS n tb dd h i z 0 → z ≤ i → Out n tb dd h i z Nf (Fs i) Q → F 52 a h Q) {Q : aH → Prop} : ∀ (w j z2 : Nat) (acc : Option (Int32 × Sem)) (x2 : Int32) (t : Sem) (h : aH), w ≤ n → RdF dd h0 h → RdS n tb dd h j z2 0 → Kp dd z0 h0 h → AccI (gA h (dd + 1)) (gA h (dd + 2)) z0 z2 Nf i j acc x2 t → Out n tb dd h0 i z0 (Nf + 2) (exlS n tb Fs w j acc t) Q → f_X4_expression_9 F SC 52 a Q (w + 1) x2 (nI (n - w)) h := by
  intro w
  induction w with
  | zero =>
    intro j z2 acc x2 t h hw f0 s k0 ha hq
    have n2 := s.2.2.2.2.2.2.1
    intro v ev
    rw [s.1] at ev
    subst ev
    refine aIf_t (nI_le (by omega) (by omega)) ?_
    exact ex_close hl (RdF_L hL f0) s hz ha (fun h' z' f' s' k' c' b' => hq.1 j _ h' z' rfl (RdF_tr f0 f') s' (Kp_tr k0 k' (Nat.le_refl _)) c' b')
  | succ w ih =>
    intro j z2 acc x2 t h hw f0 s k0 ha hq
    have n2 := s.2.2.2.2.2.2.1
    have hL1 := RdF_L hL f0
    obtain ⟨al, ab⟩ := AccI_lt ha
    have jn := s.2.2.2.2.1
    intro v ev
    rw [s.1] at ev
    subst ev
    refine aIf_f (nI_ge (by omega) (by omega)) ?_
    intro v ev
    rw [s.2.2.1] at ev
    subst ev
    refine aIf_f (fun y => y rfl) (sp_next hL1 s ?_)
    have tc : ∀ c, 1 ≤ c → c < 256 → (tkI n tb j = nI c ↔ tk n tb j = c) := fun c h1 h2 => tkc (RdS_b s) n2 h1 h2
    have fin : ¬ isPl (tk n tb j) → ¬ isTm (tk n tb j) → aIf (x2 = (-1)) (Q h) (aObj SC (gR h 52 1) 2 flX3 ∧ f_X3_put SC (gR h 52 1) x2 0 h (fun _ h' => Q h')) := by
      intro c1 c2
      exact ex_close hl hL1 s hz ha (fun h' z' f' s' k' c' b' => hq.1 j _ h' z' (by unfold exlS; rw [if_neg c1, if_neg c2]) (RdF_tr f0 f') s' (Kp_tr k0 k' (Nat.le_refl _)) c' b')
    have pls : isPl (tk n tb j) → f_X4_expression_44 F SC 52 a Q (f_X4_expression_9 F SC 52 a Q (w + 1)) x2 (nI (n - (w + 1))) (tkI n tb j) h := by
      intro c1
      have t1 : 1 ≤ tk n tb j := by rcases c1 with c | c <;> rw [c] <;> decide
      have hj := tk_in t1
      unfold exlS at hq
      rw [if_pos c1] at hq
      refine ex_close hl hL1 s hz ha (A := fun h => ∀ v2 : Int32, v2 = (gI h 52 3) → ∀ h3 : aH, h3 = sI h 52 3 (v2 + 1) → F 52 a h3 (fun h4 => ∀ x3_5 : Int32, x3_5 = nI (n - (w + 1)) + 1 → f_X4_expression_9 F SC 52 a Q (w + 1) (tkI n tb j) x3_5 h4)) (fun h1 z1 f1 s1 k1 c1' b1 => ?_)
      refine sp_up s1 hj (fun h2 f2 s2 g2 => ?_)
      have hL2 := RdF_L (RdF_L hL1 f1) f2
      refine hF h2 (j + 1) z1 _ hL2 s2 (by omega) ⟨fun j3 f3 h3 z3 e3 F3 s3 k3 c3 b3 => ?_, fun e h3 i3 z3 e3 ne F3 s3 => ?_⟩
      · intro x3 ex3
        rw [nI_1, show n - (w + 1) + 1 = n - w by omega] at ex3
        subst ex3
        rw [e3] at hq
        refine ih j3 z3 (some (nI (tk n tb j), cmb acc t)) (tkI n tb j) f3 h3 (by omega) (RdF_tr f0 (RdF_tr f1 (RdF_tr f2 F3))) s3 ?_ ⟨tkI_in t1, pl_op (Or.inl c1), ⟨z1, ?_, CCo_mono c3 (by omega)⟩, by omega⟩ hq
        · have z01 := CCo_lt c1'
          refine Kp_tr (Kp_tr k0 k1 (Nat.le_refl _)) (fun q hq => ?_) (Nat.le_refl _)
          rw [← g2, ← g2]
          exact k3 q (by omega)
        · refine CCo_eq c1' (fun k _ hk => ?_)
          rw [← g2, ← g2]
          exact k3 k hk
      · intro x3 ex3
        rw [e3] at hq
        exact ex_9F hl (RdF_L hL2 F3) s3 ne (fun h' z' f' s' => hq.2 e h' i3 z' rfl ne (RdF_tr f0 (RdF_tr f1 (RdF_tr f2 (RdF_tr F3 f')))) s')
    have tms : ¬ isPl (tk n tb j) → isTm (tk n tb j) → f_X4_expression_101 F SC 52 a Q (f_X4_expression_9 F SC 52 a Q (w + 1)) x2 (nI (n - (w + 1))) (tkI n tb j) h := by
      intro c0 c1
      have t1 : 1 ≤ tk n tb j := by rcases c1 with c | c | c <;> rw [c] <;> decide
      have hj := tk_in t1
      unfold exlS at hq
      rw [if_neg c0, if_pos c1] at hq
      unfold f_X4_expression_101
      refine sp_up s hj (fun h2 f2 s2 g2 => ?_)
      have hL2 := RdF_L hL1 f2
      refine hF h2 (j + 1) z2 _ hL2 s2 (by omega) ⟨fun j3 f3 h3 z3 e3 F3 s3 k3 c3 b3 => ?_, fun e h3 i3 z3 e3 ne F3 s3 => ?_⟩
      · have hL3 := RdF_L hL2 F3
        have j3n := s3.2.2.2.2.1
        show aObj SC (gR h3 52 1) 2 flX3 ∧ f_X3_put SC (gR h3 52 1) _ _ h3 _
        rw [c_52_1 hL3]
        refine ⟨(lw_o hl).mpr trivial, sp_put hl hL3 s3 (fun _ h4 f4 s4 k4 o4 a4 => ?_) (fun c => absurd (by omega) c)⟩
        intro x3 ex3
        rw [nI_1, show n - (w + 1) + 1 = n - w by omega] at ex3
        subst ex3
        rw [e3] at hq
        have z23 := CCo_lt c3
        have kk : Kp dd z2 h h4 := fun q hq => by
          have a := k3 q hq
          rw [g2, g2] at a
          have b := k4 q (by omega)
          exact ⟨b.1.trans a.1, b.2.trans a.2⟩
        have cc : ∀ y, CCo (gA h (dd + 1)) (gA h (dd + 2)) y z2 (Nf + 1) t → CCo (gA h4 (dd + 1)) (gA h4 (dd + 2)) y (z3 + 1) (Nf + 1) (sBin (nI (tk n tb j)) t f3) := fun y cy => CCo_bin (N' := Nf) (CCo_eq cy (fun k _ hk => kk k hk)) (CCo_eq c3 (fun k _ hk => k4 k (by omega))) (by omega) (o4.trans (tkI_in t1)) (pl_op (Or.inr c1))
        refine ih j3 (z3 + 1) acc x2 (sBin (nI (tk n tb j)) t f3) h4 (by omega) (RdF_tr f0 (RdF_tr f2 (RdF_tr F3 f4))) s4 (Kp_tr k0 (fun q hq => kk q (by omega)) (Nat.le_refl _)) ?_ hq
        cases acc with
        | none => exact ⟨ha.1, cc _ ha.2.1, by omega⟩
        | some p =>
          obtain ⟨a1, a2, ⟨m, a5, a6⟩, a7⟩ := ha
          have := CCo_lt a6
          exact ⟨a1, a2, ⟨m, CCo_eq a5 (fun k _ hk => kk k (by omega)), cc _ a6⟩, by omega⟩
      · have hL3 := RdF_L hL2 F3
        show aObj SC (gR h3 52 1) 2 flX3 ∧ f_X3_put SC (gR h3 52 1) _ _ h3 _
        rw [c_52_1 hL3]
        refine ⟨(lw_o hl).mpr trivial, sp_putX hl hL3 s3 (fun r h4 z4 f4 s4 => ?_)⟩
        intro x3 ex3
        rw [e3] at hq
        exact ex_9F hl (RdF_L hL3 f4) s4 ne (fun h' z' f' s' => hq.2 e h' i3 z' rfl ne (RdF_tr f0 (RdF_tr f2 (RdF_tr F3 (RdF_tr f4 f')))) s')
    refine aIf_i (fun c => pls (Or.inl ((tc 43 (by decide) (by decide)).mp c))) (fun c43 => ?_)
    have c43 : ¬ tk n tb j = 43 := fun y => c43 ((tc 43 (by decide) (by decide)).mpr y)
    refine aIf_i (fun c45 => ?_) (fun c => pls (Or.inr ((tc 45 (by decide) (by decide)).mp (Classical.not_not.mp c))))
    have c45 : ¬ tk n tb j = 45 := fun y => c45 ((tc 45 (by decide) (by decide)).mpr y)
    have np : ¬ isPl (tk n tb j) := fun y => y.elim c43 c45
    refine aIf_i (fun c => tms np (Or.inl ((tc 42 (by decide) (by decide)).mp c))) (fun c42 => ?_)
    refine aIf_i (fun c => tms np (Or.inr (Or.inl ((tc 47 (by decide) (by decide)).mp c)))) (fun c47 => ?_)
    refine aIf_i (fun c37 => ?_) (fun c => tms np (Or.inr (Or.inr ((tc 37 (by decide) (by decide)).mp (Classical.not_not.mp c)))))
    refine fin np (fun y => ?_)
    rcases y with y | y | y
    · exact c42 ((tc 42 (by decide) (by decide)).mpr y)
    · exact c47 ((tc 47 (by decide) (by decide)).mpr y)
    · exact c37 ((tc 37 (by decide) (by decide)).mpr y)
/-- EXPRESSION -/
theorem sp_expr (hl : isLaw dd) : ∀ (r d f : Nat), d + r + 1 = 7 → r + 1 ≤ f → ∀ (h : aH) (i z : Nat) (Q : aH → Prop), LayC h l dd → RdS n tb dd h i z 0 → z ≤ i → Out n tb dd h i z (2 * r + 3) (exS n tb (r + 1) d i) Q → fE SC f 52 (nI d) h Q := by
  intro r
  induction r with
  | zero =>
    intro d f hd hf h i z Q hL s hz hq
    obtain ⟨f, rfl⟩ : ∃ g, f = g + 1 := ⟨f - 1, by omega⟩
    unfold fE f_X4_expression
    have hF : ∀ h i z Q, LayC h l dd → RdS n tb dd h i z 0 → z ≤ i → Out n tb dd h i z 1 (facS n tb (exS n tb 0 (d + 1)) d i) Q → f_X4_factor (fE SC f) SC 52 (nI d) h Q := fun h i z Q hL s hz hq => sp_factor hl hL (by omega) (Nat.le_refl _) (fun c => absurd c (by omega)) s hz hq
    refine hF h i z _ hL s hz ⟨fun j f1 h1 z1 e1 F1 s1 k1 c1 b1 => ?_, fun e h1 i1 z1 e1 ne F1 s1 => ?_⟩
    · refine ⟨n + 1, ?_⟩
      unfold exS at hq
      rw [e1] at hq
      have := ex_9 (a := nI d) hl hL hz hF n j z1 none (-1) f1 h1 (Nat.le_refl _) F1 s1 k1 ⟨rfl, CCo_mono c1 (by omega), by omega⟩ hq
      rw [Nat.sub_self] at this
      exact this
    · refine ⟨0 + 1, ex_9F hl (RdF_L hL F1) s1 ne (fun h' z' f' s' => ?_)⟩
      unfold exS at hq
      rw [e1] at hq
      exact hq.2 e h' i1 z' rfl ne (RdF_tr F1 f') s'
  | succ r ih =>
    intro d f hd hf h i z Q hL s hz hq
    obtain ⟨f, rfl⟩ : ∃ g, f = g + 1 := ⟨f - 1, by omega⟩
    unfold fE f_X4_expression
    have hF : ∀ h i z Q, LayC h l dd → RdS n tb dd h i z 0 → z ≤ i → Out n tb dd h i z (2 * r + 3) (facS n tb (exS n tb (r + 1) (d + 1)) d i) Q → f_X4_factor (fE SC f) SC 52 (nI d) h Q := fun h i z Q hL s hz hq => sp_factor hl hL (by omega) (by omega) (fun _ h i z Q hL s hz hq => ih (d + 1) f (by omega) (by omega) h i z Q hL s hz hq) s hz hq
    refine hF h i z _ hL s hz ⟨fun j f1 h1 z1 e1 F1 s1 k1 c1 b1 => ?_, fun e h1 i1 z1 e1 ne F1 s1 => ?_⟩
    · refine ⟨n + 1, ?_⟩
      unfold exS at hq
      rw [e1] at hq
      have := ex_9 (a := nI d) hl hL hz hF n j z1 none (-1) f1 h1 (Nat.le_refl _) F1 s1 k1 ⟨rfl, CCo_mono c1 (by omega), by omega⟩ hq
      rw [Nat.sub_self] at this
      exact this
    · refine ⟨0 + 1, ex_9F hl (RdF_L hL F1) s1 ne (fun h' z' f' s' => ?_)⟩
      unfold exS at hq
      rw [e1] at hq
      exact hq.2 e h' i1 z' rfl ne (RdF_tr F1 f') s'
theorem Out_mono {R : Rs} {Q : aH → Prop} {N N' : Nat} (hq : Out n tb dd h i z N' R Q) (hN : N ≤ N') : Out n tb dd h i z N R Q := ⟨fun j f h' z' e1 F s k c b => hq.1 j f h' z' e1 F s k (CCo_mono c hN) b, hq.2⟩
theorem sp_expr8 (hl : isLaw dd) (hL : LayC h l dd) {d : Nat} (hd : d ≤ 6) (s : RdS n tb dd h i z 0) (hz : z ≤ i) {Q : aH → Prop} (hq : Out n tb dd h i z 20 (exprS n tb d i) Q) : fE SC 8 52 (nI d) h Q := by
  refine sp_expr hl (6 - d) d 8 (by omega) (by omega) h i z Q hL s hz (Out_mono ?_ (show 2 * (6 - d) + 3 ≤ 20 by omega))
  unfold exprS at hq
  rw [show 7 - d = 6 - d + 1 by omega] at hq
  exact hq
theorem sp_exprF (hl : isLaw dd) (hL : LayC h l dd) {d : Int32} (s : RdS n tb dd h i z e) (he : ¬ e = 0) {Q : aH → Prop} (hq : ∀ h' z', RdF dd h h' → RdS n tb dd h' i z' e → Q h') : fE SC 8 52 d h Q := by
  show f_X4_expression (fun k a h Q => f_X4_factor (fE SC 7) SC k a h Q) SC 52 d h Q
  unfold f_X4_expression
  refine sp_factorF s he ⟨0 + 1, ex_9F hl hL s he hq⟩
end LwE
