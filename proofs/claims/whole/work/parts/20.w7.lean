/-! ===== LAW: the class reads the clauses ===== -/
section LwQ
variable {n : Nat} {tb : Nat → Nat} {dd l : Nat} {h : aH} {i z : Nat} {e : Int32} {K : Int32 → Int32 → aH → Prop} {x3 : Int32}
theorem sp_begCl (hl : isLaw dd) (hL : LayC h l dd) (s : RdS n tb dd h i z e) {k : Nat} (hk : k < 14) (hg : gI h dd 6 = nI k) {r : Int32} {Q : aH → Prop} (hq : ∀ h', LwF dd h h' → RdS n tb dd h' i z e → (∀ q, gA h' (dd + 1) q = gA h (dd + 1) q) → (∀ q, gA h' (dd + 2) q = gA h (dd + 2) q) → gI h' dd 6 = nI (k + 1) → (∀ q, gA h' (dd + 3) q = up k r (gA h (dd + 3)) q) → (∀ q, gA h' (dd + 4) q = up k (nI z) (gA h (dd + 4)) q) → (∀ q, gA h' (dd + 5) q = gA h (dd + 5) q) → Q h') : f_X3_beginClause SC dd r h Q := by
  have d52 : dd ≠ 52 := by unfold isLaw at hl; omega
  obtain ⟨s1, s2, s3, s4, s5, s5', s6, s7, s8⟩ := s
  intro v ev
  rw [hg] at ev
  subst ev
  refine aIf_f (nI_ge (a := k) (b := 14) hk (by omega)) ?_
  intro v ev
  rw [hg] at ev
  subst ev
  rw [lw_3 hl hL, lwi_3 hl, vp_lt hk (by decide), cl (by omega)]
  refine ⟨trivial, fun h5 e5 v6 e6 v7 e7 => ?_⟩
  have hL5 : LayC h5 l dd := LayC_2 (by rw [e5]; rfl) hL
  rw [e5, gI_sA, hg] at e6
  rw [e5, gI_sA, s4] at e7
  subst e6 e7
  rw [lw_4 hl hL5, lwi_4 hl, vp_lt hk (by decide), cl (by omega)]
  refine ⟨trivial, fun h9 e9 v10 e10 h11 e11 => ?_⟩
  rw [e9, gI_sA, e5, gI_sA, hg] at e10
  subst e10
  rw [nI_1] at e11
  have ga : ∀ c q, ¬ (c = dd + 3 ∧ q = k) → ¬ (c = dd + 4 ∧ q = k) → gA h11 c q = gA h c q := fun c q h1 h2 => by
    rw [e11, gA_sI, e9, gA_sA, if_neg (by omega), e5, gA_sA, if_neg (by omega)]
  have gi : ∀ c j, ¬ (c = dd ∧ j = 6) → gI h11 c j = gI h c j := fun c j hc => by rw [e11, gI_sI, if_neg hc, e9, gI_sA, e5, gI_sA]
  refine hq h11 ⟨by rw [e11, e9, e5]; rfl, fun c q hc => ga c q (by omega) (by omega), fun c j h1 _ => gi c j (by omega)⟩ ⟨(gi _ _ (by omega)).trans s1, (gi _ _ (by omega)).trans s2, (gi _ _ (by omega)).trans s3, (gi _ _ (by omega)).trans s4, s5, s5', s6, s7, fun q hq => by rw [ga 38 q (by unfold isLaw at hl; omega) (by unfold isLaw at hl; omega)]; exact s8 q hq⟩ (fun q => ga _ _ (by omega) (by omega)) (fun q => ga _ _ (by omega) (by omega)) ?_ (fun q => ?_) (fun q => ?_) (fun q => ga _ _ (by omega) (by omega))
  · rw [e11, gI_sI, if_pos ⟨rfl, rfl⟩]
  · unfold up
    by_cases c : q = k
    · subst c
      rw [if_pos rfl, e11, gA_sI, e9, gA_o (by omega), e5, gA_e]
    · rw [if_neg c]
      exact ga _ _ (by omega) (by omega)
  · unfold up
    by_cases c : q = k
    · subst c
      rw [if_pos rfl, e11, gA_sI, e9, gA_e]
    · rw [if_neg c]
      exact ga _ _ (by omega) (by omega)
theorem sp_letC (hl : isLaw dd) (hL : LayC h l dd) (s : RdS n tb dd h i z 0) {k : Nat} (hk : k ≤ 14) (hg : gI h dd 6 = nI k) {Q : aH → Prop} (h1 : isCl (tk n tb i) → k < 14 → ∀ h', LwF dd h h' → RdS n tb dd h' (i + 1) z 0 → (∀ q, gA h' (dd + 1) q = gA h (dd + 1) q) → (∀ q, gA h' (dd + 2) q = gA h (dd + 2) q) → gI h' dd 6 = nI (k + 1) → (∀ q, gA h' (dd + 3) q = up k (nI (tk n tb i)) (gA h (dd + 3)) q) → (∀ q, gA h' (dd + 4) q = up k (nI z) (gA h (dd + 4)) q) → (∀ q, gA h' (dd + 5) q = gA h (dd + 5) q) → Q h') (h4 : isCl (tk n tb i) → 14 ≤ k → ∀ h', RdF dd h h' → RdS n tb dd h' i z (er 4 i) → ¬ er 4 i = 0 → Q h') (h0 : ¬ isCl (tk n tb i) → ∀ h', RdF dd h h' → RdS n tb dd h' i z (er 1 i) → ¬ er 1 i = 0 → Q h') : f_X4_letterOfClause SC 52 (nI k) h Q := by
  have n2 := s.2.2.2.2.2.2.1
  have d52 : dd ≠ 52 := by unfold isLaw at hl; omega
  have tc : ∀ c, 1 ≤ c → c < 256 → (tkI n tb i = nI c ↔ tk n tb i = c) := fun c h1 h2 => tkc (RdS_b s) n2 h1 h2
  have yes : isCl (tk n tb i) → f_X4_letterOfClause_37 SC 52 (nI k) Q (tkI n tb i) h := by
    intro c
    have t1 : 1 ≤ tk n tb i := by rcases c with c | c | c | c <;> rw [c] <;> decide
    by_cases c14 : k < 14
    · refine aIf_t ((nI_ltI (a := k) (b := 14) (by omega) (by decide)).mpr c14) ?_
      intro v ev
      rw [s.2.2.1] at ev
      subst ev
      refine aIf_f (fun y => y rfl) ?_
      refine sp_up s (tk_in t1) (fun h' f' s' g' => ?_)
      have hL' := RdF_L hL f'
      rw [c_52_1 hL']
      refine ⟨(lw_o hl).mpr trivial, sp_begCl hl hL' s' c14 ((f'.2.2 dd 6 (by omega) (by omega)).trans hg) (fun h2 f2 s2 a1 a2 a3 a4 a5 a6 => ?_)⟩
      rw [tkI_in t1] at a4
      have e3 : gA h' (dd + 3) = gA h (dd + 3) := funext (g' _)
      have e4 : gA h' (dd + 4) = gA h (dd + 4) := funext (g' _)
      rw [e3] at a4
      rw [e4] at a5
      exact h1 c c14 h2 (LwF_tr (RdF_Cl f') f2) s2 (fun q => (a1 q).trans (g' _ q)) (fun q => (a2 q).trans (g' _ q)) a3 a4 a5 (fun q => (a6 q).trans (g' _ q))
    · refine aIf_f (fun y => c14 ((nI_ltI (a := k) (b := 14) (by omega) (by decide)).mp y)) ?_
      refine sp_blame (c := 4) s (by decide) (by decide) (fun h' f' s' ne => ?_)
      intro v ev
      rw [s'.2.2.1] at ev
      subst ev
      exact aIf_t ne (h4 c (by omega) h' f' s' ne)
  refine sp_next hL s ?_
  refine aIf_i (fun c => yes (Or.inl ((tc 98 (by decide) (by decide)).mp c))) (fun c1 => ?_)
  refine aIf_i (fun c => yes (Or.inr (Or.inl ((tc 116 (by decide) (by decide)).mp c)))) (fun c2 => ?_)
  refine aIf_i (fun c => yes (Or.inr (Or.inr (Or.inl ((tc 99 (by decide) (by decide)).mp c))))) (fun c3 => ?_)
  refine aIf_i (fun c => yes (Or.inr (Or.inr (Or.inr ((tc 103 (by decide) (by decide)).mp c))))) (fun c4 => ?_)
  have no : ¬ isCl (tk n tb i) := by
    rintro (y | y | y | y)
    · exact c1 ((tc 98 (by decide) (by decide)).mpr y)
    · exact c2 ((tc 116 (by decide) (by decide)).mpr y)
    · exact c3 ((tc 99 (by decide) (by decide)).mpr y)
    · exact c4 ((tc 103 (by decide) (by decide)).mpr y)
  refine sp_blame (c := 1) s (by decide) (by decide) (fun h' f' s' ne => ?_)
  intro v ev
  rw [s'.2.2.1] at ev
  subst ev
  exact aIf_t ne (h0 no h' f' s' ne)
/-- from behind the letter to behind the bracket -/
theorem rdV_ok (hl : isLaw dd) (hL : LayC h l dd) (s : RdS n tb dd h i z 0) (hz : z + 1 ≤ i) {k : Nat} (hk : k < 14) (hg : gI h dd 6 = nI (k + 1)) (h1 : ∀ j W H h' z' m m2, clS n tb i = .inr (j, W, H) → LwF dd h h' → RdS n tb dd h' j z' 0 → z' ≤ j → Kp dd z h h' → gI h' dd 6 = nI (k + 1) → (∀ q, gA h' (dd + 3) q = gA h (dd + 3) q) → (∀ q, gA h' (dd + 4) q = gA h (dd + 4) q) → (∀ q, gA h' (dd + 5) q = up k (nI (m + 1)) (gA h (dd + 5)) q) → z ≤ z' → CCo (gA h' (dd + 1)) (gA h' (dd + 2)) z m 21 W → m < z' → gA h' (dd + 1) m = 0 → CCo (gA h' (dd + 1)) (gA h' (dd + 2)) (m + 1) m2 21 H → m2 < z' → gA h' (dd + 1) m2 = 0 → rdZ K x3 h') (h0 : ∀ e h' i' z' y, clS n tb i = .inl e → ¬ e = 0 → LwF dd h h' → RdS n tb dd h' i' z' e → K 0 y h') : rdV K x3 h := by
  have d52 : dd ≠ 52 := by unfold isLaw at hl; omega
  have n200 := s.2.2.2.2.2.2.1
  unfold rdV
  unfold clS at h1 h0
  refine sp_expr8 (d := 0) hl hL (by decide) s (by omega) ⟨fun j1 W h2 z1 e1 F1 s1 k1 c1 b1 => ?_, fun e h2 i1 z1 e1 ne F1 s1 => ?_⟩
  rotate_left
  · have hL2 := RdF_L hL F1
    exact sp_takeF hL2 s1 ne (rdW_F hl hL2 s1 ne (show k + 1 ≤ 14 by omega) ((F1.2.2 dd 6 (by omega) (by omega)).trans hg) (fun y h3 i3 z3 f3 s3 => h0 e h3 i3 z3 y (by rw [e1]; rfl) ne (LwF_tr (RdF_Cl F1) f3) s3))
  have hL2 := RdF_L hL F1
  have j1n := s1.2.2.2.2.1
  have l1 := CCo_lt c1
  refine sp_take (c := 40) hL2 s1 (by decide) (by decide) (fun y h3 f3 s3 g3 => ?_) (fun y h3 f3 s3 ne => ?_)
  rotate_left
  · have F3 := RdF_tr F1 f3
    exact rdW_F hl (RdF_L hL2 f3) s3 ne (show k + 1 ≤ 14 by omega) ((F3.2.2 dd 6 (by omega) (by omega)).trans hg) (fun y' h4 i4 z4 f4 s4 => h0 _ h4 i4 z4 y' (by rw [e1]; unfold thenS; simp only [if_neg y]) ne (LwF_tr (RdF_Cl F3) f4) s4)
  have hL3 := RdF_L hL2 f3
  have eT : thenS n tb 40 (exprS n tb 0 i) = .inr (j1 + 1, W) := by rw [e1]; unfold thenS; simp only [if_pos y]
  rw [eT] at h1 h0
  unfold rdW
  rw [c_52_1 hL3]
  refine ⟨(lw_o hl).mpr trivial, sp_put hl hL3 s3 (fun _ h4 f4 s4 k4 o4 a4 => ?_) (fun c => absurd (by omega) c)⟩
  have hL4 := RdF_L hL3 f4
  have F4 := RdF_tr F1 (RdF_tr f3 f4)
  unfold rdU
  rw [c_52_1 hL4]
  refine ⟨(lw_o hl).mpr trivial, sp_begC hl hL4 s4 (show k + 1 ≤ 14 by omega) ((F4.2.2 dd 6 (by omega) (by omega)).trans hg) (fun c => absurd c (by omega)) (fun h5 _ e5 f5 s5 => ?_)⟩
  have hL5 := LwF_L hL4 f5
  rw [show k + 1 - 1 = k by omega] at e5
  have g5 : ∀ c q, ¬ (c = dd + 5 ∧ q = k) → gA h5 c q = gA h4 c q := fun c q hc => by rw [e5, gA_sA, if_neg hc]
  have g6 : gI h5 dd 6 = nI (k + 1) := by rw [e5, gI_sA]; exact (F4.2.2 dd 6 (by omega) (by omega)).trans hg
  have F5 : LwF dd h h5 := LwF_tr (RdF_Cl F4) f5
  unfold rdX
  refine sp_cond hl hL5 s5 (by omega) ⟨fun j2 H h6 z2 e2 F6 s6 k6 c6 b6 => ?_, fun e h6 i6 z6 e6 ne F6 s6 => ?_⟩
  rotate_left
  · have hL6 := RdF_L hL5 F6
    refine sp_takeF hL6 s6 ne (rdY_F hl hL6 s6 ne (fun y' h7 i7 z7 f7 s7 => h0 e h7 i7 z7 y' ?_ ne (LwF_tr F5 (LwF_tr (RdF_Cl F6) f7)) s7))
    show (match thenS n tb 41 (pcS n tb 16 false 1 (j1 + 1)) with | .inl e => .inl e | .inr q => .inr (q.1, W, q.2)) = (.inl e : Sum Int32 (Nat × Sem × Sem))
    rw [e6]
    rfl
  have hL6 := RdF_L hL5 F6
  have j2n := s6.2.2.2.2.1
  have l6 := CCo_lt c6
  refine sp_take (c := 41) hL6 s6 (by decide) (by decide) (fun y h7 f7 s7 g7 => ?_) (fun y h7 f7 s7 ne => ?_)
  rotate_left
  · refine rdY_F hl (RdF_L hL6 f7) s7 ne (fun y' h8 i8 z8 f8 s8 => h0 _ h8 i8 z8 y' ?_ ne (LwF_tr F5 (LwF_tr (RdF_Cl (RdF_tr F6 f7)) f8)) s8)
    show (match thenS n tb 41 (pcS n tb 16 false 1 (j1 + 1)) with | .inl e => .inl e | .inr q => .inr (q.1, W, q.2)) = (.inl (er 1 j2) : Sum Int32 (Nat × Sem × Sem))
    rw [e2]
    unfold thenS
    simp only [if_neg y]
  have hL7 := RdF_L hL6 f7
  unfold rdY
  rw [c_52_1 hL7]
  refine ⟨(lw_o hl).mpr trivial, sp_put hl hL7 s7 (fun _ h8 f8 s8 k8 o8 a8 => ?_) (fun c => absurd (by omega) c)⟩
  have F8 := RdF_tr F6 (RdF_tr f7 f8)
  have kA : ∀ q, q < z1 + 1 → gA h8 (dd + 1) q = gA h4 (dd + 1) q ∧ gA h8 (dd + 2) q = gA h4 (dd + 2) q := fun q hq => by
    have a := k8 q (by omega)
    have b := k6 q hq
    rw [g7, g7] at a
    rw [g5 _ _ (by omega), g5 _ _ (by omega)] at b
    exact ⟨a.1.trans b.1, a.2.trans b.2⟩
  have kB : ∀ q, q < z1 → gA h8 (dd + 1) q = gA h2 (dd + 1) q ∧ gA h8 (dd + 2) q = gA h2 (dd + 2) q := fun q hq => by
    have a := kA q (by omega)
    have b := k4 q hq
    rw [g3, g3] at b
    exact ⟨a.1.trans b.1, a.2.trans b.2⟩
  refine h1 (j2 + 1) W H h8 (z2 + 1) z1 z2 ?_ (LwF_tr F5 (RdF_Cl F8)) s8 (by omega) (Kp_tr k1 (fun q hq => kB q (by omega)) (Nat.le_refl _)) ((F8.2.2 dd 6 (by omega) (by omega)).trans g6) (fun q => ?_) (fun q => ?_) (fun q => ?_) (by omega) ?_ (by omega) ((kA z1 (by omega)).1.trans o4) ?_ (by omega) o8
  · show (match thenS n tb 41 (pcS n tb 16 false 1 (j1 + 1)) with | .inl e => .inl e | .inr q => .inr (q.1, W, q.2)) = (.inr (j2 + 1, W, H) : Sum Int32 (Nat × Sem × Sem))
    rw [e2]
    unfold thenS
    simp only [if_pos y]
  · rw [F8.2.1 _ _ (by omega), g5 _ _ (by omega), F4.2.1 _ _ (by omega)]
  · rw [F8.2.1 _ _ (by omega), g5 _ _ (by omega), F4.2.1 _ _ (by omega)]
  · rw [F8.2.1 _ _ (by omega)]
    unfold up
    by_cases c : q = k
    · subst c
      rw [if_pos rfl, e5, gA_e]
    · rw [if_neg c, g5 _ _ (by omega), F4.2.1 _ _ (by omega)]
  · exact CCo_mono (CCo_eq c1 (fun q _ hq => kB q hq)) (by decide)
  · refine CCo_eq c6 (fun q _ hq => ?_)
    have a := k8 q hq
    rw [g7, g7] at a
    exact a
end LwQ
