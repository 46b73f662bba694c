/-! ===== LAW: the reference reads the whole text, and takes it over ===== -/
def LnF (h h' : aH) : Prop := h'.2.2 = h.2.2 ∧ (∀ c q, ¬ (12 ≤ c ∧ c ≤ 24) → gA h' c q = gA h c q) ∧ ∀ c j, ¬ (c = 0 ∧ (j = 16 ∨ (29 ≤ j ∧ j ≤ 37))) → gI h' c j = gI h c j
section LmG
variable {n : Nat} {tb : Nat → Nat} {h : aH} {i z : Nat}
theorem sr_clause (hL : LayM h) (s : MdW n tb h i z 0) (hz : z ≤ i) {k : Nat} (hk : k ≤ 14) {lt : Nat → Int32} {W H : Nat → Sem} (cr : MlR h z k lt W H) {Q : aH → Prop} (h1 : isCl (tk n tb i) → k < 14 → ∀ p h' z', clS n tb (i + 1) = .inr p → LmF h h' → MdS n tb h' p.1 z' 0 [] 0 → z' ≤ p.1 → MlR h' z' (k + 1) (up k (nI (tk n tb i)) lt) (up k p.2.1 W) (up k p.2.2 H) → Q h') (h0 : isCl (tk n tb i) → k < 14 → ∀ e h', clS n tb (i + 1) = .inl e → ¬ 0 ≤ e → LmF h h' → gI h' 0 31 = e → Q h') (h4 : isCl (tk n tb i) → 14 ≤ k → ∀ h', LmF h h' → ¬ 0 ≤ er 4 i → gI h' 0 31 = er 4 i → Q h') (h9 : ¬ isCl (tk n tb i) → ∀ h', LmF h h' → ¬ 0 ≤ er 1 i → gI h' 0 31 = er 1 i → Q h') : f_X11_clause SM 0 h Q := by
  have tl : tk n tb i < 256 := tk_lt (fun q hq => (s.2.2.2.2.2.2.2 q hq).2) s.2.2.2.2.2.1
  have tc : ∀ c, c < 256 → (nI (tk n tb i) = nI c ↔ tk n tb i = c) := fun c hc => nI_eq (by omega) (by omega)
  have yes : isCl (tk n tb i) → ∀ v : Int32, v = gI h 0 32 → aIf (¬ v = 14) (f_X11_clause_59 SM 0 Q (nI (tk n tb i)) h) (∀ v41 : Int32, v41 = gI h 0 29 → f_X11_wrongs SM 0 4 v41 h (fun h42 => f_X11_clause_59 SM 0 Q (nI (tk n tb i)) h42)) := by
    intro c v ev
    have t1 : 1 ≤ tk n tb i := by rcases c with c | c | c | c <;> rw [c] <;> decide
    rw [cr.1] at ev
    subst ev
    by_cases c14 : k < 14
    · refine aIf_t (fun y => ?_) ?_
      · have := (nI_eq (a := k) (b := 14) (by omega) (by decide)).mp y
        omega
      · exact sr_c59 hL s hz (tk_in t1) c14 cr (h1 c c14) (h0 c c14)
    · refine aIf_f (fun y => y (by rw [show k = 14 by omega]; rfl)) ?_
      exact sr_wrongsW (c := 4) s (by decide) (by decide) (fun h' f' s' ne => c59_F s'.2.2.1 (ne_of ne) (h4 c (by omega) h' f' ne s'.2.2.1))
  refine sr_hereW hL s ?_
  refine aIf_i (fun c => yes (Or.inl ((tc 98 (by decide)).mp c))) (fun c1 => ?_)
  refine aIf_i (fun c => yes (Or.inr (Or.inl ((tc 116 (by decide)).mp c)))) (fun c2 => ?_)
  refine aIf_i (fun c => yes (Or.inr (Or.inr (Or.inl ((tc 99 (by decide)).mp c))))) (fun c3 => ?_)
  refine aIf_i (fun c => yes (Or.inr (Or.inr (Or.inr ((tc 103 (by decide)).mp c))))) (fun c4 => ?_)
  have no : ¬ isCl (tk n tb i) := by
    rintro (y | y | y | y)
    · exact c1 ((tc 98 (by decide)).mpr y)
    · exact c2 ((tc 116 (by decide)).mpr y)
    · exact c3 ((tc 99 (by decide)).mpr y)
    · exact c4 ((tc 103 (by decide)).mpr y)
  exact sr_wrongsW (c := 1) s (by decide) (by decide) (fun h' f' s' ne => c59_F s'.2.2.1 (ne_of ne) (h9 no h' f' ne s'.2.2.1))
end LmG
section LmH
variable {n : Nat} {tb : Nat → Nat} {a1 : Int32} {Q : Int32 → aH → Prop}
theorem lw_206 {g : aH} (hL : LayM g) {z k : Nat} (hz : z ≤ 200) (g33 : gI g 0 33 = nI z) (g32 : gI g 0 32 = nI k) (hq : ∀ h', h'.2.2 = g.2.2 → (∀ c q, c ≠ 16 → c ≠ 17 → gA h' c q = gA g c q) → (∀ q, q < z → gA h' 16 q = gA g 22 q ∧ gA h' 17 q = gA g 23 q) → (∀ c j, ¬ (c = 0 ∧ j = 16) → gI h' c j = gI g c j) → gI h' 0 16 = nI k → Q (nI k) h') : ∀ (w q : Nat) (h : aH), w + q = z → h.2.2 = g.2.2 → (∀ c p, c ≠ 16 → c ≠ 17 → gA h c p = gA g c p) → (∀ p, p < q → gA h 16 p = gA g 22 p ∧ gA h 17 p = gA g 23 p) → (∀ c j, gI h c j = gI g c j) → f_X11_law_206 SM 0 a1 Q (w + 1) (nI q) h := by
  intro w
  induction w with
  | zero =>
    intro q h hw e2 ga gc gi v11 e11
    rw [gi, g33] at e11
    subst e11
    refine aIf_t (nI_le (by omega) (by omega)) ?_
    intro v13 e13 h14 e14 v15 e15
    rw [gi, g32] at e13
    subst e13
    rw [e14, gI_y] at e15
    subst e15
    exact hq h14 (by rw [e14]; exact e2) (fun c p a b => by rw [e14, gA_sI]; exact ga c p a b) (fun p hp => by rw [e14, gA_sI]; exact gc p (by omega)) (fun c j hc => by rw [e14, gI_sI, if_neg hc]; exact gi c j) (by rw [e14, gI_y])
  | succ w ih =>
    intro q h hw e2 ga gc gi v11 e11
    rw [gi, g33] at e11
    subst e11
    have q2 : q < 200 := by omega
    refine aIf_f (nI_ge (by omega) (by omega)) ?_
    have hL1 : LayM h := LayM_2 e2 hL
    rw [m_27 hL1, mi_22, vp_lt q2 (by decide), cl (by omega)]
    refine ⟨trivial, fun v17 e17 => ?_⟩
    rw [m_21 hL1, mi_16, vp_lt q2 (by decide)]
    refine ⟨trivial, fun h19 e19 => ?_⟩
    have hL19 : LayM h19 := LayM_2 (by rw [e19]; exact e2) hL
    rw [m_28 hL19, mi_23, vp_lt q2 (by decide)]
    refine ⟨trivial, fun v21 e21 => ?_⟩
    rw [m_22 hL19, mi_17, vp_lt q2 (by decide)]
    refine ⟨trivial, fun h23 e23 x3 ex => ?_⟩
    rw [nI_1] at ex
    subst ex
    rw [ga 22 q (by decide) (by decide)] at e17
    rw [e19, gA_o (by decide), ga 23 q (by decide) (by decide)] at e21
    refine ih (q + 1) h23 (by omega) (by rw [e23, e19]; exact e2) (fun c p a b => by rw [e23, gA_o b, e19, gA_o a]; exact ga c p a b) (fun p hp => ?_) (fun c j => by rw [e23, gI_sA, e19, gI_sA]; exact gi c j)
    by_cases cp : p = q
    · subst cp
      exact ⟨by rw [e23, gA_o (by decide), e19, gA_e]; exact e17, by rw [e23, gA_e]; exact e21⟩
    · exact ⟨by rw [e23, gA_o (by decide), e19, gA_p cp]; exact (gc p (by omega)).1, by rw [e23, gA_p cp, e19, gA_o (by decide)]; exact (gc p (by omega)).2⟩
theorem lw_142 {g : aH} (hL : LayM g) {z k : Nat} (hz : z ≤ 200) (hk : k ≤ 14) (g33 : gI g 0 33 = nI z) (g32 : gI g 0 32 = nI k) (hq : ∀ h', h'.2.2 = g.2.2 → (∀ c q, ¬ (12 ≤ c ∧ c ≤ 17) → gA h' c q = gA g c q) → (∀ q, q < k → gA h' 12 q = gA g 18 q ∧ gA h' 13 q = gA g 19 q ∧ gA h' 14 q = gA g 20 q ∧ gA h' 15 q = gA g 21 q) → (∀ q, q < z → gA h' 16 q = gA g 22 q ∧ gA h' 17 q = gA g 23 q) → (∀ c j, ¬ (c = 0 ∧ j = 16) → gI h' c j = gI g c j) → gI h' 0 16 = nI k → Q (nI k) h') : ∀ (w q : Nat) (h : aH), w + q = k → h.2.2 = g.2.2 → (∀ c p, ¬ (12 ≤ c ∧ c ≤ 15) → gA h c p = gA g c p) → (∀ p, p < q → gA h 12 p = gA g 18 p ∧ gA h 13 p = gA g 19 p ∧ gA h 14 p = gA g 20 p ∧ gA h 15 p = gA g 21 p) → (∀ c j, gI h c j = gI g c j) → f_X11_law_142 SM 0 a1 Q (w + 1) (nI q) h := by
  intro w
  induction w with
  | zero =>
    intro q h hw e2 ga gc gi v25 e25
    rw [gi, g32] at e25
    subst e25
    refine aIf_t (nI_le (by omega) (by omega)) ⟨z + 1, ?_⟩
    show f_X11_law_206 SM 0 a1 Q (z + 1) (nI 0) h
    refine lw_206 (LayM_2 e2 hL) hz ((gi _ _).trans g33) ((gi _ _).trans g32) (fun h' f2 fa fz fi f16 => ?_) z 0 h (by omega) rfl (fun _ _ _ _ => rfl) (fun p hp => absurd hp (Nat.not_lt_zero _)) (fun _ _ => rfl)
    refine hq h' (f2.trans e2) (fun c p hc => (fa c p (by omega) (by omega)).trans (ga c p (by omega))) (fun p hp => ?_) (fun p hp => ?_) (fun c j hc => (fi c j hc).trans (gi c j)) f16
    · rw [fa 12 p (by decide) (by decide), fa 13 p (by decide) (by decide), fa 14 p (by decide) (by decide), fa 15 p (by decide) (by decide)]
      exact gc p (by omega)
    · rw [(fz p hp).1, (fz p hp).2, ga 22 p (by decide), ga 23 p (by decide)]
      exact ⟨rfl, rfl⟩
  | succ w ih =>
    intro q h hw e2 ga gc gi v25 e25
    rw [gi, g32] at e25
    subst e25
    have q2 : q < 14 := by omega
    refine aIf_f (nI_ge (by omega) (by omega)) ?_
    have hL1 : LayM h := LayM_2 e2 hL
    rw [m_23 hL1, mi_18, vp_lt q2 (by decide), cl (by omega)]
    refine ⟨trivial, fun v28 e28 => ?_⟩
    rw [m_17 hL1, mi_12, vp_lt q2 (by decide)]
    refine ⟨trivial, fun h30 e30 => ?_⟩
    have hL30 : LayM h30 := LayM_2 (by rw [e30]; exact e2) hL
    rw [m_24 hL30, mi_19, vp_lt q2 (by decide)]
    refine ⟨trivial, fun v32 e32 => ?_⟩
    rw [m_18 hL30, mi_13, vp_lt q2 (by decide)]
    refine ⟨trivial, fun h34 e34 => ?_⟩
    have hL34 : LayM h34 := LayM_2 (by rw [e34, e30]; exact e2) hL
    rw [m_25 hL34, mi_20, vp_lt q2 (by decide)]
    refine ⟨trivial, fun v36 e36 => ?_⟩
    rw [m_19 hL34, mi_14, vp_lt q2 (by decide)]
    refine ⟨trivial, fun h38 e38 => ?_⟩
    have hL38 : LayM h38 := LayM_2 (by rw [e38, e34, e30]; exact e2) hL
    rw [m_26 hL38, mi_21, vp_lt q2 (by decide)]
    refine ⟨trivial, fun v40 e40 => ?_⟩
    rw [m_20 hL38, mi_15, vp_lt q2 (by decide)]
    refine ⟨trivial, fun h42 e42 x3 ex => ?_⟩
    rw [nI_1] at ex
    subst ex
    rw [ga 18 q (by decide)] at e28
    rw [e30, gA_o (by decide), ga 19 q (by decide)] at e32
    rw [e34, gA_o (by decide), e30, gA_o (by decide), ga 20 q (by decide)] at e36
    rw [e38, gA_o (by decide), e34, gA_o (by decide), e30, gA_o (by decide), ga 21 q (by decide)] at e40
    refine ih (q + 1) h42 (by omega) (by rw [e42, e38, e34, e30]; exact e2) (fun c p a => by rw [e42, gA_o (by omega), e38, gA_o (by omega), e34, gA_o (by omega), e30, gA_o (by omega)]; exact ga c p a) (fun p hp => ?_) (fun c j => by rw [e42, gI_sA, e38, gI_sA, e34, gI_sA, e30, gI_sA]; exact gi c j)
    by_cases cp : p = q
    · subst cp
      exact ⟨by rw [e42, gA_o (by decide), e38, gA_o (by decide), e34, gA_o (by decide), e30, gA_e]; exact e28, by rw [e42, gA_o (by decide), e38, gA_o (by decide), e34, gA_e]; exact e32, by rw [e42, gA_o (by decide), e38, gA_e]; exact e36, by rw [e42, gA_e]; exact e40⟩
    · obtain ⟨r1, r2, r3, r4⟩ := gc p (by omega)
      exact ⟨by rw [e42, gA_o (by decide), e38, gA_o (by decide), e34, gA_o (by decide), e30, gA_p cp]; exact r1, by rw [e42, gA_o (by decide), e38, gA_o (by decide), e34, gA_p cp, e30, gA_o (by decide)]; exact r2, by rw [e42, gA_o (by decide), e38, gA_p cp, e34, gA_o (by decide), e30, gA_o (by decide)]; exact r3, by rw [e42, gA_p cp, e38, gA_o (by decide), e34, gA_o (by decide), e30, gA_o (by decide)]; exact r4⟩
theorem lw_dF {h : aH} {m : Nat} {e : Int32} (s : gI h 0 31 = e) (ne : ¬ 0 ≤ e) (hq : Q e h) {x : Int32} : f_X11_law_54 SM 0 a1 Q (m + 1) x h := by
  have g : ∀ v45 : Int32, v45 = gI h 0 31 → aIf (0 ≤ v45) (∃ m142, f_X11_law_142 SM 0 a1 Q m142 0 h) (∀ v47 : Int32, v47 = gI h 0 31 → Q v47 h) := by
    intro v ev
    rw [ev, s]
    refine aIf_f ne (fun v' ev' => ?_)
    rw [ev']
    exact hq
  exact aIf_i (fun _ => g) (fun _ => sr_bad s (ne_of ne) (aIf_t rfl g))
theorem lw_dT {g h : aH} (hL : LayM g) (F : LmF g h) {i z k : Nat} (s : MdW n tb h i z 0) (hk : k ≤ 14) {lt : Nat → Int32} {W H : Nat → Sem} (cr : MlR h z k lt W H) (hq : ∀ h', LnF g h' → RepLM h' k lt H W → Q (nI k) h') {m : Nat} : f_X11_law_54 SM 0 a1 Q (m + 1) 0 h := by
  have hL1 := LmF_L hL F
  have zz := s.2.2.2.2.2.2.1
  refine aIf_t rfl (fun v ev => ?_)
  rw [s.2.2.1] at ev
  subst ev
  refine aIf_t (Int32.le_refl _) ⟨k + 1, ?_⟩
  show f_X11_law_142 SM 0 a1 Q (k + 1) (nI 0) h
  refine lw_142 hL1 zz hk s.2.2.2.1 cr.1 (fun h' e2 ga gc gz gi g16 => hq h' ⟨e2.trans F.1, fun c q hc => (ga c q (by omega)).trans (F.2.1 c q (by omega)), fun c j hc => (gi c j (by omega)).trans (F.2.2 c j (by omega))⟩ ⟨hk, g16, fun q hq => ?_⟩) k 0 h (by omega) rfl (fun _ _ _ => rfl) (fun p hp => absurd hp (Nat.not_lt_zero _)) (fun _ _ => rfl)
  obtain ⟨r1, r2, a, b, c, r3, r4, r5, r6, r7, r8, r9⟩ := cr.2 q hq
  obtain ⟨x1, x2, x3, x4⟩ := gc q hq
  exact ⟨x1.trans r1, r2, a, b, c, by omega, by omega, x2.trans r5, x3.trans r6, x4.trans r7, MCo_eq r8 (fun p _ hp => gz p (by omega)), MCo_eq r9 (fun p _ hp => gz p (by omega))⟩
theorem lw_54 {g : aH} (hL : LayM g) : ∀ (w k i z : Nat) (lt : Nat → Int32) (W H : Nat → Sem) (h : aH), w + 1 + k = 15 → LmF g h → MdW n tb h i z 0 → z ≤ i → MlR h z k lt W H → (∀ p h', lawS n tb (w + 1) i k lt W H = .inr p → LnF g h' → RepLM h' p.1 p.2.1 p.2.2.2 p.2.2.1 → Q (nI p.1) h') → (∀ e h', lawS n tb (w + 1) i k lt W H = .inl e → ¬ 0 ≤ e → LmF g h' → Q e h') → f_X11_law_54 SM 0 a1 Q (w + 3) 1 h := by
  intro w
  induction w with
  | zero =>
    intro k i z lt W H h hw f0 s hz cr h1 h0
    have hL1 := LmF_L hL f0
    unfold lawS at h1 h0
    refine aIf_f (by decide) (sr_good s.2.2.1 (aIf_f (by decide) ?_))
    refine sr_clause hL1 s hz (by omega) cr (fun c c14 => absurd c14 (by omega)) (fun c c14 => absurd c14 (by omega)) (fun c c14 h' F' ne s' => ?_) (fun c h' F' ne s' => ?_)
    · exact sr_bad s' (ne_of ne) (aIf_t rfl (aIf_t rfl (lw_dF s' ne (h0 _ h' (by rw [if_pos c, if_pos c14]) ne (LmF_tr f0 F')))))
    · exact sr_bad s' (ne_of ne) (aIf_t rfl (aIf_t rfl (lw_dF s' ne (h0 _ h' (by rw [if_neg c]) ne (LmF_tr f0 F')))))
  | succ w ih =>
    intro k i z lt W H h hw f0 s hz cr h1 h0
    have hL1 := LmF_L hL f0
    have n200 := s.2.2.2.2.2.1
    unfold lawS at h1 h0
    refine aIf_f (by decide) (sr_good s.2.2.1 (aIf_f (by decide) ?_))
    refine sr_clause hL1 s hz (by omega) cr (fun c c14 p h2 z2 e2 F2 s2 hz2 cr2 => ?_) (fun c c14 e h' e' ne F' s' => ?_) (fun c c14 h' F' ne s' => ?_) (fun c h' F' ne s' => ?_)
    rotate_left
    · exact sr_bad s' (ne_of ne) (aIf_t rfl (aIf_t rfl (lw_dF s' ne (h0 _ h' (by rw [if_pos c, if_neg (show ¬ 14 ≤ k by omega), e']) ne (LmF_tr f0 F')))))
    · exact sr_bad s' (ne_of ne) (aIf_t rfl (aIf_t rfl (lw_dF s' ne (h0 _ h' (by rw [if_pos c, if_pos c14]) ne (LmF_tr f0 F')))))
    · exact sr_bad s' (ne_of ne) (aIf_t rfl (aIf_t rfl (lw_dF s' ne (h0 _ h' (by rw [if_neg c]) ne (LmF_tr f0 F')))))
    rw [if_pos c, if_neg (show ¬ 14 ≤ k by omega), e2] at h1 h0
    have F := LmF_tr f0 F2
    have hL2 := LmF_L hL F
    have W2 := MdS_W s2
    have p2 := (MdS_n s2).1
    refine sr_good s2.2.2.1 (aIf_f (by decide) ?_)
    intro v58 e58 v59 e59
    rw [s2.1] at e58
    rw [s2.2.1] at e59
    subst e58
    subst e59
    by_cases cn : n ≤ p.1
    · refine aIf_t (nI_le cn (by omega)) (aIf_t rfl ?_)
      exact lw_dT hL F W2 (by omega) cr2 (fun h' f' r' => h1 (k + 1, up k (nI (tk n tb i)) lt, up k p.2.1 W, up k p.2.2 H) h' (by simp only [if_pos cn]) f' r')
    · simp only [if_neg cn] at h1 h0
      refine aIf_f (nI_ge (by omega) (by omega)) (aIf_f (by decide) ?_)
      refine sr_hereW hL2 W2 ?_
      have tl : tk n tb p.1 < 256 := MdS_t s2
      by_cases y : tk n tb p.1 = 59
      · simp only [if_pos y] at h1 h0
        refine aIf_t (by rw [y]; rfl) ?_
        intro v5 e5 h6 e6
        rw [s2.1] at e5
        subst e5
        rw [nI_1] at e6
        have F6 : LmF h2 h6 := by rw [e6]; exact LmF_I (by decide)
        have s6 : MdW n tb h6 (p.1 + 1) z2 0 := by
          obtain ⟨q1, q2, q3, q4, q5, q6, q7, q8⟩ := W2
          rw [e6]
          exact ⟨gI_y, by rw [gI_n (by decide)]; exact q2, by rw [gI_n (by decide)]; exact q3, by rw [gI_n (by decide)]; exact q4, by omega, q6, q7, q8⟩
        have cr6 : MlR h6 z2 (k + 1) (up k (nI (tk n tb i)) lt) (up k p.2.1 W) (up k p.2.2 H) := by
          rw [e6]
          exact ⟨by rw [gI_n (by decide)]; exact cr2.1, cr2.2⟩
        exact ih (k + 1) (p.1 + 1) z2 _ _ _ h6 (by omega) (LmF_tr F F6) s6 (by omega) cr6 h1 h0
      · simp only [if_neg y] at h1 h0
        refine aIf_f (fun x => y ((nI_eq (a := tk n tb p.1) (b := 59) (by omega) (by decide)).mp x)) ?_
        refine sr_wrongsW (c := 1) W2 (by decide) (by decide) (fun h3 f3 s3 ne => ?_)
        intro v9 e9 h10 e10
        exact lw_dF (e := er 1 p.1) (by rw [e10, gI_n (by decide)]; exact s3.2.2.1) ne (h0 _ h10 rfl ne (LmF_tr F (LmF_tr f3 (by rw [e10]; exact LmF_I (by decide)))))
/-- LAW, the text lying on the tape -/
theorem sr_law {h : aH} (hL : LayM h) (n1 : 1 ≤ n) (n2 : n ≤ 200) {tn : Nat} (ht : n ≤ tn) (tn2 : tn ≤ 220) (gt : gI h 0 1 = nI tn) (hb : ∀ q, q < 220 → gA h 1 q &&& 255 = nI (tb q) ∧ tb q < 256) {lt : Nat → Int32} {W H : Nat → Sem} (h1 : ∀ p h', lawS n tb 15 0 0 lt W H = .inr p → LnF (sI h 0 1 0) h' → RepLM h' p.1 p.2.1 p.2.2.2 p.2.2.1 → Q (nI p.1) h') (h0 : ∀ e h', lawS n tb 15 0 0 lt W H = .inl e → ¬ 0 ≤ e → LmF (sI h 0 1 0) h' → Q e h') : f_X11_law SM 0 (nI n) h Q := by
  show f_X11_lies SM (nI n).toInt64 (Int32.toInt64 1) (Int32.toInt64 200) h _
  refine li_t ⟨(nI_leI (a := 1) (b := n) (by decide) (by omega)).mpr n1, (nI_leI (a := n) (b := 200) (by omega) (by decide)).mpr n2⟩ (aIf_f (by decide) ?_)
  intro v64 e64
  rw [gt] at e64
  subst e64
  refine aIf_t (nI_le ht (by omega)) ?_
  intro h66 e66 h67 e67 h68 e68 h69 e69 h70 e70 h71 e71
  have F : LmF (sI h 0 1 0) h71 := by
    rw [e71, e70, e69, e68, e67, e66]
    exact LmF_tr (LmF_tr (LmF_tr (LmF_tr (LmF_I (by decide)) (LmF_I (by decide))) (LmF_I (by decide))) (LmF_I (by decide))) (LmF_I (by decide))
  have hL0 : LayM (sI h 0 1 0) := LayM_2 rfl hL
  have s : MdW n tb h71 0 0 0 := by
    refine ⟨?_, ?_, ?_, ?_, by omega, n2, by omega, fun q hq => ?_⟩
    · rw [e71, gI_n (by decide), e70, gI_n (by decide), e69, gI_n (by decide), e68, gI_n (by decide), e67, gI_y]
      rfl
    · rw [e71, gI_n (by decide), e70, gI_n (by decide), e69, gI_n (by decide), e68, gI_y]
    · rw [e71, gI_n (by decide), e70, gI_n (by decide), e69, gI_y]
    · rw [e71, gI_y]
      rfl
    · rw [F.2.1 1 q (by decide)]
      exact hb q hq
  refine ⟨17, lw_54 hL0 14 0 0 0 lt W H h71 rfl F s (Nat.le_refl _) ⟨?_, fun q hq => absurd hq (Nat.not_lt_zero _)⟩ h1 h0⟩
  rw [e71, gI_n (by decide), e70, gI_y]
  rfl
end LmH
