/-! ===== LAW: the class reads the whole text ===== -/
section LwT
variable {n : Nat} {tb : Nat → Nat} {dd l : Nat} {i z : Nat} {a1 : Int32} {Q : Int32 → aH → Prop}
theorem rd_0 {h : aH} {w : Nat} {y e : Int32} (s : RdS n tb dd h i z e) (hq : Q e h) : f_X4_read_26 (fE SC 8) (fP SC 16 false) SC 52 a1 Q (w + 1) 0 y h := by
  have g : ∀ v : Int32, v = gI h 52 4 → Q v h := fun v ev => by rw [s.2.2.1] at ev; rw [ev]; exact hq
  exact aIf_i (fun _ => g) (fun _ => aIf_t rfl g)
theorem rd_26 (hl : isLaw dd) {h0 : aH} (hL : LayC h0 l dd) : ∀ (w k i z : Nat) (lt : Nat → Int32) (W H : Nat → Sem) (h : aH), w + 1 + k = 15 → LwF dd h0 h → RdS n tb dd h i z 0 → z ≤ i → ClR dd h z k lt W H → (∀ p h', lawS n tb (w + 1) i k lt W H = .inr p → LwF dd h0 h' → RepLC h' dd p.1 p.2.1 p.2.2.2 p.2.2.1 → Q 0 h') → (∀ e h', lawS n tb (w + 1) i k lt W H = .inl e → ¬ e = 0 → LwF dd h0 h' → Q e h') → f_X4_read_26 (fE SC 8) (fP SC 16 false) SC 52 a1 Q (w + 2) 1 (nI k) h := by
  intro w
  induction w with
  | zero =>
    intro k i z lt W H h hw f0 s hz cr h1 h0
    have hL1 := LwF_L hL f0
    refine aIf_f (fun y => absurd ((nI_ltI (a := 14) (b := k) (by decide) (by omega)).mp y) (by omega)) (aIf_f (by decide) ?_)
    show f_X4_letterOfClause SC 52 (nI k) h (fun h5 => rdV _ (nI k) h5)
    refine sp_letC hl hL1 s (by omega) cr.1 (fun c c14 => absurd c14 (by omega)) (fun c c14 h' f' s' ne => ?_) (fun c h' f' s' ne => ?_)
    · have d52 : dd ≠ 52 := by unfold isLaw at hl; omega
      refine rdV_F hl (RdF_L hL1 f') s' ne (k := k) (by omega) ((f'.2.2 dd 6 (by omega) (by omega)).trans cr.1) (fun y h2 i2 z2 f2 s2 => rd_0 s2 ?_)
      exact h0 _ h2 (by unfold lawS; rw [if_pos c, if_pos c14]) ne (LwF_tr f0 (LwF_tr (RdF_Cl f') f2))
    · have d52 : dd ≠ 52 := by unfold isLaw at hl; omega
      refine rdV_F hl (RdF_L hL1 f') s' ne (k := k) (by omega) ((f'.2.2 dd 6 (by omega) (by omega)).trans cr.1) (fun y h2 i2 z2 f2 s2 => rd_0 s2 ?_)
      exact h0 _ h2 (by unfold lawS; rw [if_neg c]) ne (LwF_tr f0 (LwF_tr (RdF_Cl f') f2))
  | succ w ih =>
    intro k i z lt W H h hw f0 s hz cr h1 h0
    have d52 : dd ≠ 52 := by unfold isLaw at hl; omega
    have hL1 := LwF_L hL f0
    have n200 := s.2.2.2.2.2.2.1
    refine aIf_f (fun y => absurd ((nI_ltI (a := 14) (b := k) (by decide) (by omega)).mp y) (by omega)) (aIf_f (by decide) ?_)
    show f_X4_letterOfClause SC 52 (nI k) h (fun h5 => rdV _ (nI k) h5)
    unfold lawS at h1 h0
    refine sp_letC hl hL1 s (by omega) cr.1 (fun c c14 h2 f2 s2 o2 a2 g6 g3 g4 g5 => ?_) (fun c c14 h' f' s' ne => ?_) (fun c h' f' s' ne => ?_)
    rotate_left
    · refine rdV_F hl (RdF_L hL1 f') s' ne (k := k) (by omega) ((f'.2.2 dd 6 (by omega) (by omega)).trans cr.1) (fun y h2 i2 z2 f2 s2 => rd_0 s2 ?_)
      exact h0 _ h2 (by rw [if_pos c, if_pos c14]) ne (LwF_tr f0 (LwF_tr (RdF_Cl f') f2))
    · refine rdV_F hl (RdF_L hL1 f') s' ne (k := k) (by omega) ((f'.2.2 dd 6 (by omega) (by omega)).trans cr.1) (fun y h2 i2 z2 f2 s2 => rd_0 s2 ?_)
      exact h0 _ h2 (by rw [if_neg c]) ne (LwF_tr f0 (LwF_tr (RdF_Cl f') f2))
    rw [if_pos c, if_neg (show ¬ 14 ≤ k by omega)] at h1 h0
    have hL2 := LwF_L hL1 f2
    have F2 := LwF_tr f0 f2
    refine rdV_ok hl hL2 s2 (by omega) c14 g6 (fun j Wk Hk h3 z3 m m2 e3 f3 s3 b3 k3 q6 q3 q4 q5 zz c1 m1 o1 c2 m2' o2' => ?_) (fun e h3 i3 z3 y e3 ne f3 s3 => ?_)
    rotate_left
    · refine rd_0 s3 (h0 e h3 (by rw [e3]) ne (LwF_tr F2 f3))
    rw [e3] at h1 h0
    have F3 := LwF_tr F2 f3
    have hL3 := LwF_L hL2 f3
    have cr3 : ClR dd h3 z3 (k + 1) (up k (nI (tk n tb i)) lt) (up k Wk W) (up k Hk H) := by
      refine ⟨q6, fun q hq => ?_⟩
      by_cases cq : q = k
      · subst cq
        refine ⟨by rw [q3, g3, up_e, up_e], ⟨z, m, by rw [q4, g4, up_e], by rw [up_e]; exact c1, m1, o1⟩, ⟨m + 1, m2, by rw [q5, up_e], by rw [up_e]; exact c2, m2', o2'⟩⟩
      · have hq : q < k := by omega
        obtain ⟨r1, ⟨ra, rb, r2, r3, r4, r5⟩, ⟨rc, rd, r6, r7, r8, r9⟩⟩ := cr.2 q hq
        have kk : ∀ q, q < z → gA h3 (dd + 1) q = gA h (dd + 1) q ∧ gA h3 (dd + 2) q = gA h (dd + 2) q := fun q hq => ⟨(k3 q hq).1.trans (o2 q), (k3 q hq).2.trans (a2 q)⟩
        refine ⟨by rw [q3, g3, up_o hq, up_o hq]; exact r1, ⟨ra, rb, by rw [q4, g4, up_o hq]; exact r2, ?_, by omega, (kk rb r4).1.trans r5⟩, ⟨rc, rd, by rw [q5, up_o hq, g5]; exact r6, ?_, by omega, (kk rd r8).1.trans r9⟩⟩
        · rw [up_o hq]
          exact CCo_eq r3 (fun q _ hq => kk q (by omega))
        · rw [up_o hq]
          exact CCo_eq r7 (fun q _ hq => kk q (by omega))
    intro v ev
    rw [s3.2.2.1] at ev
    subst ev
    refine aIf_f (fun y => y rfl) ?_
    intro v ev v' ev'
    rw [s3.2.1] at ev
    rw [s3.1] at ev'
    subst ev ev'
    have j3n := s3.2.2.2.2.1
    by_cases cn : n ≤ j
    · refine aIf_t (nI_le cn (by omega)) (aIf_t rfl (fun y ey => rd_0 s3 ?_))
      refine h1 _ h3 (by simp only [if_pos cn]; rfl) F3 ?_
      have z200 := s3.2.2.2.2.2.2.2.1
      refine ⟨z3, z200, by omega, cr3.1, s3.2.2.2.1, fun q hq => ?_⟩
      obtain ⟨r1, ⟨ra, rb, r2, r3, r4, r5⟩, ⟨rc, rd, r6, r7, r8, r9⟩⟩ := cr3.2 q hq
      exact ⟨r1, ⟨ra, rb, 21, r2, r3, by decide, r4, r5⟩, ⟨rc, rd, 21, r6, r7, by decide, r8, r9⟩⟩
    · refine aIf_f (nI_ge (by omega) (by omega)) (aIf_f (by decide) ?_)
      simp only [if_neg cn] at h1 h0
      refine sp_take (c := 59) hL3 s3 (by decide) (by decide) (fun y h4 f4 s4 g4' => ?_) (fun y h4 f4 s4 ne => ?_)
      · intro y3 ey
        rw [nI_1] at ey
        subst ey
        simp only [if_pos y] at h1 h0
        have e1 : gA h4 (dd + 1) = gA h3 (dd + 1) := funext (g4' _)
        have e2 : gA h4 (dd + 2) = gA h3 (dd + 2) := funext (g4' _)
        have e3 : gA h4 (dd + 3) = gA h3 (dd + 3) := funext (g4' _)
        have e4 : gA h4 (dd + 4) = gA h3 (dd + 4) := funext (g4' _)
        have e5 : gA h4 (dd + 5) = gA h3 (dd + 5) := funext (g4' _)
        refine ih (k + 1) (j + 1) z3 _ _ _ h4 (by omega) (LwF_tr F3 (RdF_Cl f4)) s4 (by omega) ?_ h1 h0
        unfold ClR
        rw [e1, e2, e3, e4, e5, f4.2.2 dd 6 (by omega) (by omega)]
        exact cr3
      · intro y3 ey
        rw [nI_1] at ey
        subst ey
        simp only [if_neg y] at h1 h0
        -- the next round finds the fault
        refine aIf_i (fun _ v ev => ?_) (fun _ => aIf_f (by decide) ?_)
        · rw [s4.2.2.1] at ev
          subst ev
          exact h0 _ h4 rfl ne (LwF_tr F3 (RdF_Cl f4))
        · show f_X4_letterOfClause SC 52 (nI (k + 1)) h4 (fun h5 => rdV _ (nI (k + 1)) h5)
          have g46 : gI h4 dd 6 = nI (k + 1) := (f4.2.2 dd 6 (by omega) (by omega)).trans cr3.1
          have hL4 := RdF_L hL3 f4
          have tl : rdV (f_X4_read_26 (fE SC 8) (fP SC 16 false) SC 52 a1 Q (w + 1)) (nI (k + 1)) h4 := rdV_F hl hL4 s4 ne (k := k + 1) (by omega) g46 (fun y h5 i5 z5 f5 s5 => rd_0 s5 (h0 _ h5 rfl ne (LwF_tr F3 (LwF_tr (RdF_Cl f4) f5))))
          have t37 : f_X4_letterOfClause_37 SC 52 (nI (k + 1)) (fun h5 => rdV (f_X4_read_26 (fE SC 8) (fP SC 16 false) SC 52 a1 Q (w + 1)) (nI (k + 1)) h5) (tkI n tb j) h4 := by
            refine aIf_i (fun _ v ev => ?_) (fun _ => sp_blameF s4 ne (fun v ev => ?_))
            · rw [s4.2.2.1] at ev
              subst ev
              exact aIf_t ne tl
            · rw [s4.2.2.1] at ev
              subst ev
              exact aIf_t ne tl
          refine sp_next hL4 s4 ?_
          refine aIf_i (fun _ => t37) (fun _ => aIf_i (fun _ => t37) (fun _ => aIf_i (fun _ => t37) (fun _ => aIf_i (fun _ => t37) (fun _ => ?_))))
          refine sp_blameF s4 ne (fun v ev => ?_)
          rw [s4.2.2.1] at ev
          subst ev
          exact aIf_t ne tl
/-- READ -/
theorem sp_read (hl : isLaw dd) {h : aH} (hL : LayC h l dd) (n1 : 1 ≤ n) (n2 : n ≤ 200) (ht : ∀ q, q < 220 → gA h 38 q = nI (tb q) ∧ tb q < 256) {lt : Nat → Int32} {W H : Nat → Sem} (h1 : ∀ p h', lawS n tb 15 0 0 lt W H = .inr p → LwF dd h h' → RepLC h' dd p.1 p.2.1 p.2.2.2 p.2.2.1 → Q 0 h') (h0 : ∀ e h', lawS n tb 15 0 0 lt W H = .inl e → ¬ e = 0 → LwF dd h h' → Q e h') : fR SC 52 (nI n) h Q := by
  have d52 : dd ≠ 52 := by unfold isLaw at hl; omega
  intro h35 e35 h36 e36 h37 e37
  have hL7 : LayC h37 l dd := LayC_2 (by rw [e37, e36, e35]; rfl) hL
  rw [c_52_1 hL7]
  refine ⟨(lw_o hl).mpr trivial, fun h8 e8 h9 e9 => ⟨16, ?_⟩⟩
  have F : LwF dd h h9 := by
    refine ⟨by rw [e9, e8, e37, e36, e35]; rfl, fun c q _ => by rw [e9, e8, e37, e36, e35]; rfl, fun c j a b => ?_⟩
    rw [e9, gI_sI, if_neg (by omega), e8, gI_sI, if_neg (by omega), e37, gI_sI, if_neg (by omega), e36, gI_sI, if_neg (by omega), e35, gI_sI, if_neg (by omega)]
  have ga : ∀ c q, gA h9 c q = gA h c q := fun c q => by rw [e9, e8, e37, e36, e35]; rfl
  have s : RdS n tb dd h9 0 0 0 := by
    refine ⟨?_, ?_, ?_, ?_, by omega, n1, n2, by omega, fun q hq => by rw [ga]; exact ht q hq⟩
    · rw [e9, gI_sI, if_neg (by omega), e8, gI_sI, if_neg (by omega), e37, gI_sI, if_neg (by omega), e36, gI_sI, if_neg (by omega), e35, gI_sI, if_pos ⟨rfl, rfl⟩]
    · rw [e9, gI_sI, if_neg (by omega), e8, gI_sI, if_neg (by omega), e37, gI_sI, if_neg (by omega), e36, gI_sI, if_pos ⟨rfl, rfl⟩]
      rfl
    · rw [e9, gI_sI, if_neg (by omega), e8, gI_sI, if_neg (by omega), e37, gI_sI, if_pos ⟨rfl, rfl⟩]
    · rw [e9, gI_sI, if_neg (by omega), e8, gI_sI, if_pos ⟨rfl, rfl⟩]
      rfl
  refine rd_26 hl hL 14 0 0 0 lt W H h9 rfl F s (Nat.le_refl _) ⟨?_, fun q hq => absurd hq (Nat.not_lt_zero _)⟩ h1 h0
  rw [e9, gI_sI, if_pos ⟨rfl, rfl⟩]
  rfl
end LwT
