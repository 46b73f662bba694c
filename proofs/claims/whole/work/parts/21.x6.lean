/-! ===== LAW: the reference reads a piece ===== -/
section LmD
variable {n : Nat} {tb : Nat → Nat} {Q : aH → Prop}
theorem okT_v {σ : List Nat} (h : okT σ) : ¬ isTm (topN σ) ∧ ¬ isPl (topN σ) ∧ ¬ topN σ = 91 := by
  rcases h with y | y | y | y <;> rw [y] <;> decide
theorem okT_l {σ : List Nat} (h : okT σ) : 1 ≤ σ.length := by
  cases σ with
  | nil => rcases h with y | y | y | y <;> exact absurd y (by decide)
  | cons c σ => simp only [List.length_cons]; omega
theorem cm_v {c : Nat} (h : isCm c) : ¬ isTm c ∧ ¬ isPl c ∧ ¬ c = 91 := by
  rcases h with y | y | y <;> rw [y] <;> decide
theorem p43_F {h : aH} {e : Int32} (s : gI h 0 31 = e) (he : ¬ e = 0) (hq : Q h) {m : Nat} (hm : 1 ≤ m) : f_X11_pieceOfC_43 SM 0 (cA Q m) h := by
  unfold f_X11_pieceOfC_43
  exact sr_bad s he (aIf_f (fun y => y rfl) (cA_F s he hq hm))
theorem p0_F {h : aH} {e : Int32} (s : gI h 0 31 = e) (he : ¬ e = 0) (hq : Q h) {m m0 : Nat} (hm : 1 ≤ m) (hm0 : 1 ≤ m0) : f_X11_pieceOfC_0 SM 0 (cA Q m) m0 h := by
  obtain ⟨m0, rfl⟩ : ∃ k, m0 = k + 1 := ⟨m0 - 1, by omega⟩
  unfold f_X11_pieceOfC_0
  exact sr_bad s he (aIf_t rfl (sr_bad s he (aIf_t rfl (p43_F s he hq hm))))
/-- a comparison -/
theorem p_cmp {h : aH} (hL : LayM h) (hv : gI h 0 36 = 0) {i z d m : Nat} {σ : List Nat} (hd : d ≤ 6) (hz : z ≤ i) (s : MdS n tb h i z d σ 0) (hσ : okT σ) (hm : n + 2 ≤ m + i) (hq : OutP n tb h i z d σ (cmpS n tb d i) Q) : f_X11_value SM 0 h (fun h39 => f_X11_pieceOfC_43 SM 0 (cA Q m) h39) := by
  obtain ⟨b1, b2, b3, b4⟩ := MdS_n s
  unfold cmpS at hq
  refine sr_value hL hd s hz (okT_v hσ) (fun j f h1 z1 e1 c93 F1 s1 k1 c1 l1 b1 => ?_) (fun e h1 e1 ne F1 s1 => ?_) (fun j f h1 e1 c93 ne F1 s1 => ?_)
  rotate_left
  · rw [e1] at hq
    exact p43_F s1 (ne_of ne) (hq.1.2 e h1 rfl ne F1 s1) (by omega)
  · rw [e1] at hq
    refine p43_F s1 (ne_of ne) (hq.1.2 _ h1 ?_ ne F1 s1) (by omega)
    exact if_neg (by rw [c93]; decide)
  rw [e1] at hq
  have hq : OutP n tb h i z d σ (if isCm (tk n tb j) then (match exprS n tb d (j + 1) with | .inl e => .inl e | .inr q => .inr (q.1, sBin (nI (tk n tb j)) f q.2)) else .inl (er 1 j)) Q := hq
  have hL1 := MdF_L hL F1
  have jn := (MdS_n s1).1
  unfold f_X11_pieceOfC_43
  refine sr_good s1.2.2.1 (aIf_t (by decide) (sr_here hL1 s1 (sr_isSign (MdS_t s1) (fun c => aIf_t (by decide) ?_) (fun c => aIf_f (fun y => y rfl) ?_))))
  rotate_left
  · rw [if_neg c] at hq
    refine sr_wrongsP (c := 1) s1 (by decide) (by decide) (fun h2 f2 s2 ne => ?_)
    exact cA_F s2.2.2.1 (ne_of ne) (hq.1.2 _ h2 rfl ne (MdF_tr F1 (MdF_dn f2 (by decide))) s2.2.2.1) (by omega)
  rw [if_pos c] at hq
  have t1 : 1 ≤ tk n tb j := by rcases c with c | c | c <;> rw [c] <;> decide
  have hj := tk_in t1
  refine sr_puts hL1 s1 hj (MdS_t s1) (fun h2 f2 s2 k2 => ?_)
  have hL2 := MdF_L hL1 f2
  have F2 := MdF_tr F1 (MdF_dn f2 (show 37 ≤ 38 by decide))
  refine sr_value hL2 hd s2 (by omega) (cm_v c) (fun j3 g h3 z3 e3 c93' F3 s3 k3 c3 l3 b3' => ?_) (fun e h3 e3 ne F3 s3 => ?_) (fun j3 g h3 e3 c93' ne F3 s3 => ?_)
  · rw [e3] at hq
    have hL3 := MdF_L hL2 F3
    have j3n := (MdS_n s3).1
    have l1' := MCo_lt c1
    have l3' := MCo_lt c3
    have z1n := (MdS_n s1).2.2.2
    refine sr_good s3.2.2.1 (aIf_t (by decide) (sm_off hL3 s3 (by omega) (fun h4 f4 s4 k4 o4 => ?_)))
    have F4 := MdF_tr F2 (MdF_tr F3 (MdF_dn f4 (show 37 ≤ 38 by decide)))
    have kk : ∀ q, q < z1 → gA h4 22 q = gA h1 22 q ∧ gA h4 23 q = gA h1 23 q := fun q hq => by
      have a := k4 q (by omega)
      have b := k3 q hq
      have c := k2 q (by omega)
      exact ⟨a.1.trans (b.1.trans c.1), a.2.trans (b.2.trans c.2)⟩
    have pe := hq.1.1 j3 _ h4 (z3 + 1) rfl F4 s4 (Kq_tr k1 (fun q hq => kk q (by omega)) (Nat.le_refl _)) (MCo_bin (MCo_eq c1 (fun k _ hk => kk k hk)) (MCo_eq c3 (fun k _ hk => k4 k hk)) o4 (cm_op c)) (by omega) (by omega)
    refine ⟨_, pe (cA Q m) (fun h5 s5 v5 g5 => ?_) (σ.length + 1) (by omega)⟩
    unfold cA
    exact sr_good s5 (aIf_f (by decide) (g5 m (by omega)))
  · rw [e3] at hq
    exact sr_bad s3 (ne_of ne) (aIf_f (fun y => y rfl) (cA_F s3 (ne_of ne) (hq.1.2 e h3 rfl ne (MdF_tr F2 F3) s3) (by omega)))
  · rw [e3] at hq
    exact sr_bad s3 (ne_of ne) (aIf_f (fun y => y rfl) (cA_F s3 (ne_of ne) (hq.2 j3 _ h3 rfl c93' ne (MdF_tr F2 F3) s3) (by omega)))
/-- a piece, pieces and conditions of less depth known -/
theorem pce {h : aH} (hL : LayM h) (hv : gI h 0 36 = 0) {Ps Cs : Nat → Rs} {i z d : Nat} {σ : List Nat} (hd : d ≤ 6) (hz : z ≤ i) (s : MdS n tb h i z d σ 0) (hσ : okT σ) (hP : d < 6 → ∀ h i z σ, LayM h → gI h 0 36 = 0 → MdS n tb h i z (d + 1) σ 0 → z ≤ i → okT σ → OutP n tb h i z (d + 1) σ (Ps i) Q → PF n Q i h) (hC : d < 6 → ∀ h i z σ, LayM h → gI h 0 36 = 0 → MdS n tb h i z (d + 1) σ 0 → z ≤ i → topN σ = 40 → OutC n tb h i z (d + 1) σ (Cs i) Q → PF n Q i h) (hq : OutP n tb h i z d σ (pieS n tb Ps Cs d i) Q) : PF n Q i h := by
  intro m m0 hm hm0
  obtain ⟨b1, b2, b3, b4⟩ := MdS_n s
  obtain ⟨m0, rfl⟩ : ∃ k, m0 = k + 1 := ⟨m0 - 1, by omega⟩
  unfold f_X11_pieceOfC_0
  unfold pieS at hq
  refine sr_good s.2.2.1 (aIf_f (by decide) (sr_here hL s ?_))
  by_cases c33 : tk n tb i = 33
  · rw [if_pos c33] at hq
    have hi : i < n := tk_in (n := n) (tb := tb) (by omega)
    refine aIf_t ((mtc s (by decide)).mpr c33) ?_
    refine sr_opens hL s hi hd (fun c6 h2 f2 s2 k2 => ?_) (fun c6 h2 f2 s2 ne => ?_)
    · rw [if_neg (by omega)] at hq
      rw [c33] at s2
      have hL2 := MdF_L hL f2
      have F2 := MdF_dn f2 (show 37 ≤ 38 by decide)
      have hv2 : gI h2 0 36 = 0 := (f2.2.2 0 36 (by omega)).trans hv
      refine hP c6 h2 (i + 1) z (33 :: σ) hL2 hv2 s2 (by omega) (Or.inr (Or.inl rfl)) ⟨⟨fun j f h3 z3 e3 F3 s3 k3 c3 l3 b3' => ?_, fun e h3 e3 ne F3 s3 => ?_⟩, fun j f h3 e3 c93 ne F3 s3 => ?_⟩ m m0 (by omega) (by omega)
      · rw [e3] at hq
        have jn := (MdS_n s3).1
        have l3' := MCo_lt c3
        refine PE_neg (MdF_L hL2 F3) s3 (by omega) (fun h4 f4 s4 k4 o4 => ?_)
        refine hq.1.1 j (sNeg f) h4 (z3 + 1) rfl (MdF_tr F2 (MdF_tr F3 (MdF_dn f4 (by decide)))) s4 (fun q hq => ?_) (MCo_neg (MCo_eq c3 (fun k _ hk => k4 k hk)) o4) (by omega) (by omega)
        have a := k4 q (by omega)
        have b := k3 q hq
        have c := k2 q (by omega)
        exact ⟨a.1.trans (b.1.trans c.1), a.2.trans (b.2.trans c.2)⟩
      · rw [e3] at hq
        exact hq.1.2 e h3 rfl ne (MdF_tr F2 F3) s3
      · rw [e3] at hq
        exact hq.2 j _ h3 rfl c93 ne (MdF_tr F2 F3) s3
    · rw [if_pos (by omega)] at hq
      exact p0_F s2 (ne_of ne) (hq.1.2 _ h2 rfl ne (MdF_dn f2 (by decide)) s2) (by omega) (by omega)
  · rw [if_neg c33] at hq
    refine aIf_f (fun y => c33 ((mtc s (by decide)).mp y)) (sr_here hL s ?_)
    by_cases c40 : tk n tb i = 40
    · rw [if_pos c40] at hq
      have hi : i < n := tk_in (n := n) (tb := tb) (by omega)
      refine aIf_f (fun y => y ((mtc s (by decide)).mpr c40)) ?_
      refine sr_opens hL s hi hd (fun c6 h2 f2 s2 k2 => ?_) (fun c6 h2 f2 s2 ne => ?_)
      · rw [if_neg (by omega)] at hq
        rw [c40] at s2
        have hL2 := MdF_L hL f2
        have F2 := MdF_dn f2 (show 37 ≤ 38 by decide)
        have hv2 : gI h2 0 36 = 0 := (f2.2.2 0 36 (by omega)).trans hv
        refine hC c6 h2 (i + 1) z (40 :: σ) hL2 hv2 s2 (by omega) rfl ⟨fun j f h3 z3 e3 c41 F3 s3 k3 c3 l3 b3' => ?_, fun e h3 e3 ne F3 s3 => ?_⟩ m m0 (by omega) (by omega)
        · have et : thenS n tb 41 (Cs (i + 1)) = .inr (j + 1, f) := by
            rw [e3]
            unfold thenS
            exact if_pos c41
          rw [et] at hq
          have hj : j < n := tk_in (n := n) (tb := tb) (by omega)
          intro m' hm'
          have hv3 : gI h3 0 36 = 0 := (F3.2.2 0 36 (by omega)).trans hv2
          refine sr_pop s3 (fun h4 f4 s4 g4 => ?_)
          refine sr_shut s4 (fun h5 f5 s5 g5 => ?_)
          refine sr_up s5 hj (fun h6 f6 s6 g6 => ?_)
          have F6 := MdF_tr f4 (MdF_tr f5 f6)
          have hv6 : gI h6 0 36 = 0 := (F6.2.2 0 36 (by omega)).trans hv3
          intro v ev
          rw [s6.2.2.2.2.2.1] at ev
          subst ev
          have sl := okT_l hσ
          refine aIf_t (fun y => ?_) ?_
          · have := (nI_eq (a := σ.length) (b := 0) (by omega) (by decide)).mp y
            omega
          intro h7 e7 v21 e21
          have v7 : gI h7 0 36 = 0 := by rw [e7, gI_y]
          rw [v7] at e21
          subst e21
          refine aIf_f (fun y => y rfl) ?_
          have F7 : MdF 37 h6 h7 := by
            refine ⟨by rw [e7]; rfl, fun c q _ => by rw [e7]; rfl, fun c j hc => ?_⟩
            by_cases q : c = 0 ∧ j = 36
            · rw [q.1, q.2, v7, hv6]
            · rw [e7, gI_sI, if_neg q]
          have s7 : MdS n tb h7 (j + 1) z3 d σ 0 := by
            obtain ⟨q1, q2, q3, q4, q5, q6, q7, q8, q9, q10, q11, q12⟩ := s6
            rw [e7]
            exact ⟨by rw [gI_n (by decide)]; exact q1, by rw [gI_n (by decide)]; exact q2, by rw [gI_n (by decide)]; exact q3, by rw [gI_n (by decide)]; exact q4, by rw [gI_n (by decide)]; exact q5, by rw [gI_n (by decide)]; exact q6, Stk_eq q7 (fun _ _ => rfl), q8, q9, q10, q11, q12⟩
          have g7 : ∀ c, gA h7 c = gA h3 c := fun c => by
            funext q
            rw [e7, gA_sI, g6, g5, g4]
          have pe := hq.1.1 (j + 1) f h7 z3 rfl (MdF_tr F2 (MdF_tr F3 (MdF_tr (MdF_dn F6 (by decide)) F7))) s7 (fun q hq => by
            have b := k3 q hq
            have c := k2 q (by omega)
            rw [g7, g7]
            exact ⟨b.1.trans c.1, b.2.trans c.2⟩) (by rw [g7, g7]; exact c3) (by omega) (by omega)
          exact ⟨_, pe _ (fun h8 s8 v8 g8 => c37_be s8 v8 g8 (by omega) (by omega)) (σ.length + 1) (by omega)⟩
        · exact hq.1.2 e h3 e3 ne (MdF_tr F2 F3) s3
      · rw [if_pos (by omega)] at hq
        exact p0_F s2 (ne_of ne) (hq.1.2 _ h2 rfl ne (MdF_dn f2 (by decide)) s2) (by omega) (by omega)
    · rw [if_neg c40] at hq
      refine aIf_t (fun y => c40 ((mtc s (by decide)).mp y)) (sr_good s.2.2.1 (aIf_f (by decide) ?_))
      exact p_cmp hL hv hd hz s hσ hm hq
/-- PIECE and CONDITION -/
theorem sr_pc : ∀ (r d : Nat), d ≤ 6 → (2 * (6 - d) + 1 ≤ r → ∀ (h : aH) (i z : Nat) (σ : List Nat), LayM h → gI h 0 36 = 0 → MdS n tb h i z d σ 0 → z ≤ i → okT σ → OutP n tb h i z d σ (pcS n tb r true d i) Q → PF n Q i h) ∧ (2 * (6 - d) + 2 ≤ r → ∀ (h : aH) (i z : Nat) (σ : List Nat), LayM h → gI h 0 36 = 0 → MdS n tb h i z d σ 0 → z ≤ i → topN σ = 40 → OutC n tb h i z d σ (pcS n tb r false d i) Q → PF n Q i h) := by
  intro r
  induction r with
  | zero => intro d hd; exact ⟨fun y => by omega, fun y => by omega⟩
  | succ r ih =>
    intro d hd
    refine ⟨fun hr h i z σ hL hv s hz hσ hq => ?_, fun hr h i z σ hL hv s hz hσ hq => ?_⟩
    · unfold pcS at hq
      exact pce hL hv hd hz s hσ (fun c h i z σ a b c d e f => (ih (_ + 1) (by omega)).1 (by omega) h i z σ a b c d e f) (fun c h i z σ a b c d e f => (ih (_ + 1) (by omega)).2 (by omega) h i z σ a b c d e f) hq
    · have hP : ∀ h j z σ, LayM h → gI h 0 36 = 0 → MdS n tb h j z d σ 0 → z ≤ j → okT σ → OutP n tb h j z d σ (pcS n tb r true d j) Q → PF n Q j h := fun h i z σ a b c d e f => (ih _ hd).1 (by omega) h i z σ a b c d e f
      unfold pcS at hq
      refine hP h i z σ hL hv s hz (Or.inl hσ) ⟨⟨fun j f h1 z1 e1 F1 s1 k1 c1 l1 b1 => ?_, fun e h1 e1 ne F1 s1 => ?_⟩, fun j f h1 e1 c93 ne F1 s1 => ?_⟩
      · rw [e1] at hq
        have hv1 : gI h1 0 36 = 0 := (F1.2.2 0 36 (by omega)).trans hv
        refine PE_GB (MdF_L hL F1) s1 hv1 (by rw [hσ]; decide) ?_
        refine cdl hL hv hz hσ (fun i j f => pcS_B r true d i j f) hP n j z1 z σ σ none none f h1 (by omega) F1 s1 k1 ⟨rfl, rfl⟩ ⟨c1, rfl⟩ (pcS_B r true d i j f e1) ?_ l1 hq
        show z1 + 0 + 0 + i ≤ z + j
        omega
      · rw [e1] at hq
        exact hq.2 e h1 rfl ne F1 s1
      · rw [e1] at hq
        refine hq.2 _ h1 ?_ ne F1 s1
        show thenS n tb 41 (cdlS n tb (pcS n tb r true d) n j none f) = _
        rw [cdl_93 c93]
        unfold thenS
        exact if_neg (by rw [c93]; decide)
/-- CONDITION, whole -/
theorem sr_cond {h : aH} (hL : LayM h) {i z : Nat} (s : MdS n tb h i z 0 [] 0) (hz : z ≤ i) (h1 : ∀ j f h' z', tk n tb i = 40 → thenS n tb 41 (pcS n tb 16 false 1 (i + 1)) = .inr (j, f) → MdF 36 h h' → MdS n tb h' j z' 0 [] 0 → Kq z h h' → MCo (gA h' 22) (gA h' 23) z z' f → i < j → z' + i ≤ z + j → Q h') (h0 : ∀ e h', tk n tb i = 40 → thenS n tb 41 (pcS n tb 16 false 1 (i + 1)) = .inl e → ¬ 0 ≤ e → MdF 36 h h' → gI h' 0 31 = e → Q h') (h2 : ∀ h', ¬ tk n tb i = 40 → ¬ 0 ≤ er 1 i → MdF 36 h h' → gI h' 0 31 = er 1 i → Q h') : f_X11_condition SM 0 h Q := by
  intro h3 e3
  obtain ⟨b1, b2, b3, b4⟩ := MdS_n s
  have s3 : MdS n tb h3 i z 0 [] 0 := by
    obtain ⟨q1, q2, q3, q4, q5, q6, q7, q8, q9, q10, q11, q12⟩ := s
    rw [e3]
    exact ⟨by rw [gI_n (by decide)]; exact q1, by rw [gI_n (by decide)]; exact q2, by rw [gI_n (by decide)]; exact q3, by rw [gI_n (by decide)]; exact q4, by rw [gI_n (by decide)]; exact q5, by rw [gI_n (by decide)]; exact q6, Stk_eq q7 (fun _ _ => rfl), q8, q9, q10, q11, q12⟩
  have F3 : MdF 36 h h3 := by rw [e3]; exact MdF_I (by decide)
  have g3 : ∀ c, gA h3 c = gA h c := fun c => by rw [e3]; rfl
  have hv3 : gI h3 0 36 = 0 := by rw [e3]; exact gI_y
  have hL3 := MdF_L hL F3
  refine sr_here hL3 s3 ?_
  by_cases c40 : tk n tb i = 40
  · have hi : i < n := tk_in (n := n) (tb := tb) (by omega)
    refine aIf_t ((mtc s3 (by decide)).mpr c40) (sr_good s3.2.2.1 (aIf_t (by decide) ?_))
    refine sr_opens hL3 s3 hi (by decide) (fun _ h4 f4 s4 k4 => ?_) (fun y => absurd y (by decide))
    rw [c40] at s4
    have hL4 := MdF_L hL3 f4
    have F4 := MdF_tr F3 (MdF_dn f4 (show 36 ≤ 38 by decide))
    have hv4 : gI h4 0 36 = 0 := (f4.2.2 0 36 (by omega)).trans hv3
    refine ⟨n + 3, c37_go (n := n) s4.2.2.1 hv4 ?_ (MdS_n s4).1 (by omega)⟩
    refine (sr_pc 16 1 (by decide)).2 (by decide) h4 (i + 1) z [40] hL4 hv4 s4 (by omega) rfl ⟨fun j f h5 z5 e5 c41 F5 s5 k5 c5 l5 b5 => ?_, fun e h5 e5 ne F5 s5 => h0 e h5 c40 e5 ne (MdF_tr F4 (MdF_dn F5 (by decide))) s5⟩
    have hj : j < n := tk_in (n := n) (tb := tb) (by omega)
    intro m hm
    refine sr_pop s5 (fun h6 f6 s6 g6 => ?_)
    refine sr_shut s6 (fun h7 f7 s7 g7 => ?_)
    refine sr_up s7 hj (fun h8 f8 s8 g8 => ?_)
    intro v ev
    rw [s8.2.2.2.2.2.1] at ev
    subst ev
    refine aIf_f (fun y => y rfl) ?_
    intro h9 e9 v25 e25
    have v9 : gI h9 0 36 = 1 := by rw [e9, gI_y]
    rw [v9] at e25
    subst e25
    refine aIf_t (by decide) ?_
    have s9 : MdS n tb h9 (j + 1) z5 0 [] 0 := by
      obtain ⟨q1, q2, q3, q4, q5, q6, q7, q8, q9, q10, q11, q12⟩ := s8
      rw [e9]
      exact ⟨by rw [gI_n (by decide)]; exact q1, by rw [gI_n (by decide)]; exact q2, by rw [gI_n (by decide)]; exact q3, by rw [gI_n (by decide)]; exact q4, by rw [gI_n (by decide)]; exact q5, by rw [gI_n (by decide)]; exact q6, Stk_eq q7 (fun _ _ => rfl), q8, q9, q10, q11, q12⟩
    obtain ⟨m, rfl⟩ : ∃ k, m = k + 1 := ⟨m - 1, by omega⟩
    have g9 : ∀ c, gA h9 c = gA h5 c := fun c => by
      funext q
      rw [e9, gA_sI, g8, g7, g6]
    unfold f_X11_condition_37
    refine sr_good s9.2.2.1 (aIf_f (by decide) ?_)
    intro v ev
    rw [v9] at ev
    subst ev
    refine aIf_t (by decide) ?_
    refine h1 (j + 1) f h9 z5 c40 ?_ (MdF_tr F4 (MdF_tr (MdF_dn (MdF_tr F5 (MdF_dn (MdF_tr f6 (MdF_tr f7 f8)) (show 37 ≤ 38 by decide))) (by decide)) (by rw [e9]; exact MdF_I (by decide)))) s9 (fun q hq => ?_) (by rw [g9, g9]; exact c5) (by omega) (by omega)
    · rw [e5]
      unfold thenS
      exact if_pos c41
    · have a := k5 q hq
      have b := k4 q (by omega)
      rw [g9, g9, a.1, a.2, b.1, b.2, g3, g3]
      exact ⟨rfl, rfl⟩
  · refine aIf_f (fun y => c40 ((mtc s3 (by decide)).mp y)) ?_
    refine sr_wrongsP (c := 1) s3 (by decide) (by decide) (fun h4 f4 s4 ne => ?_)
    exact sr_bad s4.2.2.1 (ne_of ne) (aIf_f (fun y => y rfl) (h2 h4 c40 ne (MdF_tr F3 (MdF_dn f4 (by decide))) s4.2.2.1))
end LmD
