/-! ===== LAW: the reference reads; its small steps ===== -/
theorem gI_y {h : aH} {j : Nat} {v : Int32} : gI (sI h 0 j v) 0 j = v := if_pos ⟨rfl, rfl⟩
theorem gI_n {h : aH} {j k : Nat} {v : Int32} (hj : k ≠ j) : gI (sI h 0 j v) 0 k = gI h 0 k := if_neg (fun z => hj z.2)
theorem er_neg {c i : Nat} (h1 : 1 ≤ c) (h2 : c ≤ 9) (h3 : i ≤ 1000) : ¬ 0 ≤ er c i := by
  unfold er
  rw [show (0 : Int32) = iI 0 from rfl, iI_le (by omega) (by omega) (by omega) (by omega)]
  omega
def Stk (h : aH) : List Nat → Prop
  | [] => True
  | c :: σ => (gA h 24 σ.length = nI c ∧ c < 256) ∧ Stk h σ
theorem Stk_eq {h h' : aH} : ∀ {σ : List Nat}, Stk h σ → (∀ k, k < σ.length → gA h' 24 k = gA h 24 k) → Stk h' σ := by
  intro σ
  induction σ with
  | nil => intro _ _; exact trivial
  | cons c σ ih =>
    intro s e
    exact ⟨⟨(e _ (by simp only [List.length_cons]; omega)).trans s.1.1, s.1.2⟩, ih s.2 (fun k hk => e k (by simp only [List.length_cons]; omega))⟩
def MdF (X : Nat) (h h' : aH) : Prop := h'.2.2 = h.2.2 ∧ (∀ c q, ¬ (c = 22 ∨ c = 23 ∨ c = 24) → gA h' c q = gA h c q) ∧ ∀ c j, ¬ (c = 0 ∧ (j = 29 ∨ j = 31 ∨ j = 33 ∨ j = 34 ∨ j = 35 ∨ (X ≤ j ∧ 36 ≤ j ∧ j ≤ 37))) → gI h' c j = gI h c j
theorem MdF_rf {X : Nat} {h : aH} : MdF X h h := ⟨rfl, fun _ _ _ => rfl, fun _ _ _ => rfl⟩
theorem MdF_tr {X : Nat} {a b c : aH} (x : MdF X a b) (y : MdF X b c) : MdF X a c := ⟨y.1.trans x.1, fun k i hk => (y.2.1 k i hk).trans (x.2.1 k i hk), fun k i h1 => (y.2.2 k i h1).trans (x.2.2 k i h1)⟩
theorem MdF_dn {X Y : Nat} {a b : aH} (x : MdF X a b) (hY : Y ≤ X) : MdF Y a b := ⟨x.1, x.2.1, fun k i h1 => x.2.2 k i (fun z => h1 ⟨z.1, by omega⟩)⟩
theorem MdF_I {X j : Nat} {h : aH} {v : Int32} (hj : j = 29 ∨ j = 31 ∨ j = 33 ∨ j = 34 ∨ j = 35 ∨ (X ≤ j ∧ 36 ≤ j ∧ j ≤ 37)) : MdF X h (sI h 0 j v) := ⟨rfl, fun _ _ _ => rfl, fun c k hc => by rw [gI_sI, if_neg (fun z => hc ⟨z.1, by rw [z.2]; exact hj⟩)]⟩
theorem MdF_A {X c q : Nat} {h : aH} {v : Int32} (hc : c = 22 ∨ c = 23 ∨ c = 24) : MdF X h (sA h c q v) := ⟨rfl, fun k i hk => by rw [gA_o (fun z => hk (by rw [z]; exact hc))], fun _ _ _ => rfl⟩
theorem MdF_L {X : Nat} {h h' : aH} (hL : LayM h) (f : MdF X h h') : LayM h' := LayM_2 f.1 hL
def Kq (z : Nat) (h h' : aH) : Prop := ∀ q, q < z → gA h' 22 q = gA h 22 q ∧ gA h' 23 q = gA h 23 q
theorem Kq_rf {z : Nat} {h : aH} : Kq z h h := fun _ _ => ⟨rfl, rfl⟩
theorem Kq_tr {z z' : Nat} {a b c : aH} (x : Kq z a b) (y : Kq z' b c) (hz : z ≤ z') : Kq z a c := fun q hq => ⟨(y q (by omega)).1.trans (x q hq).1, (y q (by omega)).2.trans (x q hq).2⟩
def MdS (n : Nat) (tb : Nat → Nat) (h : aH) (i z d : Nat) (σ : List Nat) (e : Int32) : Prop := gI h 0 29 = nI i ∧ gI h 0 30 = nI n ∧ gI h 0 31 = e ∧ gI h 0 33 = nI z ∧ gI h 0 34 = nI d ∧ gI h 0 35 = nI σ.length ∧ Stk h σ ∧ i ≤ n ∧ n ≤ 200 ∧ σ.length ≤ i ∧ z ≤ 200 ∧ ∀ q, q < 220 → gA h 1 q &&& 255 = nI (tb q) ∧ tb q < 256
def topN : List Nat → Nat
  | [] => 0
  | c :: _ => c
section LmP
variable {n : Nat} {tb : Nat → Nat} {h : aH} {i z d : Nat} {σ : List Nat} {e : Int32}
theorem MdS_b (s : MdS n tb h i z d σ e) : ∀ q, q < 220 → tb q < 256 := fun q hq => (s.2.2.2.2.2.2.2.2.2.2.2 q hq).2
theorem MdS_n (s : MdS n tb h i z d σ e) : i ≤ n ∧ n ≤ 200 ∧ σ.length ≤ i ∧ z ≤ 200 := ⟨s.2.2.2.2.2.2.2.1, s.2.2.2.2.2.2.2.2.1, s.2.2.2.2.2.2.2.2.2.1, s.2.2.2.2.2.2.2.2.2.2.1⟩
theorem MdS_t (s : MdS n tb h i z d σ e) {j : Nat} : tk n tb j < 256 := tk_lt (MdS_b s) s.2.2.2.2.2.2.2.2.1
theorem mtc {c j : Nat} (s : MdS n tb h i z d σ e) (h2 : c < 256) : nI (tk n tb j) = nI c ↔ tk n tb j = c := by
  have := MdS_t s (j := j)
  exact nI_eq (by omega) (by omega)
theorem Stk_top {h : aH} {σ : List Nat} (s : Stk h σ) : topN σ < 256 := by
  cases σ with
  | nil => decide
  | cons c σ => exact s.1.2
theorem sr_here (hL : LayM h) (s : MdS n tb h i z d σ e) {Q : Int32 → aH → Prop} (hq : Q (nI (tk n tb i)) h) : f_X11_here SM 0 h Q := by
  obtain ⟨s1, s2, s3, s4, s5, s6, s7, s8, s9, s10, s11, s12⟩ := s
  intro v ev v' ev'
  rw [s1] at ev
  rw [s2] at ev'
  subst ev ev'
  unfold tk at hq
  by_cases c : i < n
  · rw [if_pos c] at hq
    refine aIf_f (nI_ge c (by omega)) ?_
    intro v ev
    rw [s1] at ev
    subst ev
    rw [m_0 hL, mi_1, vp_lt (show i < 220 by omega) (by decide), cl (by omega)]
    refine ⟨trivial, fun v ev => ?_⟩
    subst ev
    rw [(s12 i (by omega)).1]
    exact hq
  · rw [if_neg c] at hq
    exact aIf_t (nI_le (by omega) (by omega)) hq
theorem sr_good (s : gI h 0 31 = 0) {Q : Int32 → aH → Prop} (hq : Q 1 h) : f_X11_isGood SM 0 h Q := by
  intro v ev
  rw [s] at ev
  subst ev
  exact aIf_f (fun y => y rfl) hq
theorem sr_bad (s : gI h 0 31 = e) (he : ¬ e = 0) {Q : Int32 → aH → Prop} (hq : Q 0 h) : f_X11_isGood SM 0 h Q := by
  intro v ev
  rw [s] at ev
  subst ev
  exact aIf_t he hq
theorem sr_wrongs (s : MdS n tb h i z d σ 0) {c : Nat} (h1 : 1 ≤ c) (h2 : c ≤ 9) {Q : aH → Prop} (hq : ∀ h', MdF 38 h h' → MdS n tb h' i z d σ (er c i) → ¬ 0 ≤ er c i → Q h') : f_X11_wrongs SM 0 (nI c) (nI i) h Q := by
  obtain ⟨s1, s2, s3, s4, s5, s6, s7, s8, s9, s10, s11, s12⟩ := s
  intro v ev
  rw [s3] at ev
  subst ev
  refine aIf_t (Int32.le_refl _) ?_
  intro h3 e3
  have em : (-1000 : Int32) * nI c - nI i = er c i := by
    rw [show (-1000 : Int32) = iI (-1000) from by decide, ← iI_nat, ← iI_nat, iI_mul, iI_sub]
    unfold er
    congr 1
  rw [em] at e3
  subst e3
  exact hq _ (MdF_I (by decide)) ⟨by rw [gI_n (by decide)]; exact s1, by rw [gI_n (by decide)]; exact s2, gI_y, by rw [gI_n (by decide)]; exact s4, by rw [gI_n (by decide)]; exact s5, by rw [gI_n (by decide)]; exact s6, Stk_eq s7 (fun _ _ => rfl), s8, s9, s10, s11, s12⟩ (er_neg h1 h2 (by omega))
/-- the same, the place looked up -/
theorem sr_wrongsP (s : MdS n tb h i z d σ 0) {c : Nat} (h1 : 1 ≤ c) (h2 : c ≤ 9) {Q : aH → Prop} (hq : ∀ h', MdF 38 h h' → MdS n tb h' i z d σ (er c i) → ¬ 0 ≤ er c i → Q h') : ∀ v : Int32, v = gI h 0 29 → f_X11_wrongs SM 0 (nI c) v h Q := by
  intro v ev
  rw [s.1] at ev
  subst ev
  exact sr_wrongs s h1 h2 hq
theorem ne_of {e : Int32} (h : ¬ 0 ≤ e) : ¬ e = 0 := fun y => h (by rw [y]; exact Int32.le_refl _)
theorem sr_up (s : MdS n tb h i z d σ e) (hi : i < n) {Q : aH → Prop} (hq : ∀ h', MdF 38 h h' → MdS n tb h' (i + 1) z d σ e → (∀ c q, gA h' c q = gA h c q) → Q h') : ∀ v : Int32, v = gI h 0 29 → ∀ h' : aH, h' = sI h 0 29 (v + 1) → Q h' := by
  obtain ⟨s1, s2, s3, s4, s5, s6, s7, s8, s9, s10, s11, s12⟩ := s
  intro v ev h' e'
  rw [s1] at ev
  subst ev
  rw [nI_1] at e'
  subst e'
  exact hq _ (MdF_I (by decide)) ⟨gI_y, by rw [gI_n (by decide)]; exact s2, by rw [gI_n (by decide)]; exact s3, by rw [gI_n (by decide)]; exact s4, by rw [gI_n (by decide)]; exact s5, by rw [gI_n (by decide)]; exact s6, Stk_eq s7 (fun _ _ => rfl), by omega, s9, by omega, s11, s12⟩ (fun _ _ => rfl)
theorem sr_emit (hL : LayM h) (s : MdS n tb h i z d σ 0) (hz : z < 200) {a b : Int32} {Q : aH → Prop} (hq : ∀ h', MdF 38 h h' → MdS n tb h' i (z + 1) d σ 0 → Kq z h h' → gA h' 22 z = a → gA h' 23 z = b → Q h') : f_X11_emit SM 0 a b h Q := by
  refine sr_good s.2.2.1 (aIf_t (by decide) ?_)
  obtain ⟨s1, s2, s3, s4, s5, s6, s7, s8, s9, s10, s11, s12⟩ := s
  intro v ev
  rw [s4] at ev
  subst ev
  rw [m_27 hL, mi_22, vp_lt hz (by decide), cl (by omega)]
  refine ⟨trivial, fun h6 e6 v7 e7 => ?_⟩
  have hL6 : LayM h6 := LayM_2 (by rw [e6]; rfl) hL
  rw [e6, gI_sA, s4] at e7
  subst e7
  rw [m_28 hL6, mi_23, vp_lt hz (by decide), cl (by omega)]
  refine ⟨trivial, fun h9 e9 v10 e10 h11 e11 => ?_⟩
  rw [e9, gI_sA, e6, gI_sA, s4] at e10
  subst e10
  rw [nI_1] at e11
  have ga : ∀ c q, ¬ (c = 22 ∨ c = 23) → gA h11 c q = gA h c q := fun c q hc => by rw [e11, gA_sI, e9, gA_o (by omega), e6, gA_o (by omega)]
  have gi : ∀ j, j ≠ 33 → gI h11 0 j = gI h 0 j := fun j hj => by rw [e11, gI_n hj, e9, gI_sA, e6, gI_sA]
  refine hq h11 ?_ ⟨(gi _ (by decide)).trans s1, (gi _ (by decide)).trans s2, (gi _ (by decide)).trans s3, by rw [e11, gI_y], (gi _ (by decide)).trans s5, (gi _ (by decide)).trans s6, Stk_eq s7 (fun k _ => ga _ _ (by decide)), s8, s9, s10, by omega, fun q hq => by rw [ga 1 q (by decide)]; exact s12 q hq⟩ (fun q hq => ?_) ?_ ?_
  · rw [e11, e9, e6]
    exact MdF_tr (MdF_tr (MdF_A (by decide)) (MdF_A (by decide))) (MdF_I (by decide))
  · rw [e11, gA_sI, e9, gA_o (by decide), gA_p (by omega), e6, gA_p (by omega), gA_o (by decide)]
    exact ⟨rfl, rfl⟩
  · rw [e11, gA_sI, e9, gA_o (by decide), e6, gA_e]
  · rw [e11, gA_sI, e9, gA_e]
theorem sr_emitF (s : gI h 0 31 = e) (he : ¬ e = 0) {a b : Int32} {Q : aH → Prop} (hq : Q h) : f_X11_emit SM 0 a b h Q := sr_bad s he (aIf_f (fun y => y rfl) hq)
theorem sr_top (hL : LayM h) (s : MdS n tb h i z d σ e) {Q : Int32 → aH → Prop} (hq : Q (nI (topN σ)) h) : f_X11_top SM 0 h Q := by
  obtain ⟨s1, s2, s3, s4, s5, s6, s7, s8, s9, s10, s11, s12⟩ := s
  intro v ev
  rw [s6] at ev
  subst ev
  cases σ with
  | nil => exact aIf_t (by decide) hq
  | cons c σ =>
    simp only [List.length_cons] at s6 s10 ⊢
    refine aIf_f ?_ ?_
    · rw [show (0 : Int32) = nI 0 from rfl, nI_leI (by omega) (by omega)]
      omega
    · intro v ev
      rw [s6] at ev
      subst ev
      rw [nI_pred, m_38 hL, mi_24, vp_lt (show σ.length < 240 by omega) (by decide), cl (by omega), s7.1.1]
      exact ⟨trivial, fun v ev => by subst ev; exact hq⟩
theorem sr_puts (hL : LayM h) (s : MdS n tb h i z d σ e) (hi : i < n) {c : Nat} (hc : c < 256) {Q : aH → Prop} (hq : ∀ h', MdF 38 h h' → MdS n tb h' (i + 1) z d (c :: σ) e → Kq 200 h h' → Q h') : f_X11_puts SM 0 (nI c) h Q := by
  obtain ⟨s1, s2, s3, s4, s5, s6, s7, s8, s9, s10, s11, s12⟩ := s
  intro v ev
  rw [s6] at ev
  subst ev
  rw [m_38 hL, mi_24, vp_lt (show σ.length < 240 by omega) (by decide), cl (by omega)]
  refine ⟨trivial, fun h3 e3 v4 e4 h5 e5 v6 e6 h7 e7 => ?_⟩
  rw [e3, gI_sA, s6] at e4
  subst e4
  rw [nI_1] at e5
  rw [e5, gI_n (by decide), e3, gI_sA, s1] at e6
  subst e6
  rw [nI_1] at e7
  have ga : ∀ c q, ¬ (c = 24 ∧ q = σ.length) → gA h7 c q = gA h c q := fun c q hc => by rw [e7, gA_sI, e5, gA_sI, e3, gA_sA, if_neg hc]
  have gi : ∀ j, j ≠ 29 → j ≠ 35 → gI h7 0 j = gI h 0 j := fun j h1 h2 => by rw [e7, gI_n h1, e5, gI_n h2, e3, gI_sA]
  refine hq h7 ?_ ⟨by rw [e7, gI_y], (gi _ (by decide) (by decide)).trans s2, (gi _ (by decide) (by decide)).trans s3, (gi _ (by decide) (by decide)).trans s4, (gi _ (by decide) (by decide)).trans s5, by rw [e7, gI_n (by decide), e5, gI_y]; rfl, ⟨⟨by rw [e7, gA_sI, e5, gA_sI, e3, gA_e], hc⟩, Stk_eq s7 (fun k hk => ga _ _ (by omega))⟩, by omega, s9, by simp only [List.length_cons]; omega, s11, fun q hq => by rw [ga 1 q (by omega)]; exact s12 q hq⟩ (fun q _ => ⟨ga _ _ (by omega), ga _ _ (by omega)⟩)
  rw [e7, e5, e3]
  exact MdF_tr (MdF_tr (MdF_A (by decide)) (MdF_I (by decide))) (MdF_I (by decide))
theorem sr_pop {c : Nat} (s : MdS n tb h i z d (c :: σ) e) {Q : aH → Prop} (hq : ∀ h', MdF 38 h h' → MdS n tb h' i z d σ e → (∀ c q, gA h' c q = gA h c q) → Q h') : ∀ v : Int32, v = gI h 0 35 → ∀ h' : aH, h' = sI h 0 35 (v - 1) → Q h' := by
  obtain ⟨s1, s2, s3, s4, s5, s6, s7, s8, s9, s10, s11, s12⟩ := s
  intro v ev h' e'
  rw [s6] at ev
  subst ev
  rw [show (c :: σ).length = σ.length + 1 from rfl, nI_pred] at e'
  subst e'
  simp only [List.length_cons] at s10
  exact hq _ (MdF_I (by decide)) ⟨by rw [gI_n (by decide)]; exact s1, by rw [gI_n (by decide)]; exact s2, by rw [gI_n (by decide)]; exact s3, by rw [gI_n (by decide)]; exact s4, by rw [gI_n (by decide)]; exact s5, gI_y, Stk_eq s7.2 (fun _ _ => rfl), s8, s9, by omega, s11, s12⟩ (fun _ _ => rfl)
/-- open, one less -/
theorem sr_shut (s : MdS n tb h i z (d + 1) σ e) {Q : aH → Prop} (hq : ∀ h', MdF 38 h h' → MdS n tb h' i z d σ e → (∀ c q, gA h' c q = gA h c q) → Q h') : ∀ v : Int32, v = gI h 0 34 → ∀ h' : aH, h' = sI h 0 34 (v - 1) → Q h' := by
  obtain ⟨s1, s2, s3, s4, s5, s6, s7, s8, s9, s10, s11, s12⟩ := s
  intro v ev h' e'
  rw [s5] at ev
  subst ev
  rw [nI_pred] at e'
  subst e'
  exact hq _ (MdF_I (by decide)) ⟨by rw [gI_n (by decide)]; exact s1, by rw [gI_n (by decide)]; exact s2, by rw [gI_n (by decide)]; exact s3, by rw [gI_n (by decide)]; exact s4, gI_y, by rw [gI_n (by decide)]; exact s6, Stk_eq s7 (fun _ _ => rfl), s8, s9, s10, s11, s12⟩ (fun _ _ => rfl)
theorem sr_open (s : MdS n tb h i z d σ e) {Q : aH → Prop} (hq : ∀ h', MdF 38 h h' → MdS n tb h' i z (d + 1) σ e → (∀ c q, gA h' c q = gA h c q) → Q h') : ∀ v : Int32, v = gI h 0 34 → ∀ h' : aH, h' = sI h 0 34 (v + 1) → Q h' := by
  obtain ⟨s1, s2, s3, s4, s5, s6, s7, s8, s9, s10, s11, s12⟩ := s
  intro v ev h' e'
  rw [s5] at ev
  subst ev
  rw [nI_1] at e'
  subst e'
  exact hq _ (MdF_I (by decide)) ⟨by rw [gI_n (by decide)]; exact s1, by rw [gI_n (by decide)]; exact s2, by rw [gI_n (by decide)]; exact s3, by rw [gI_n (by decide)]; exact s4, gI_y, by rw [gI_n (by decide)]; exact s6, Stk_eq s7 (fun _ _ => rfl), s8, s9, s10, s11, s12⟩ (fun _ _ => rfl)
theorem sr_opens (hL : LayM h) (s : MdS n tb h i z d σ 0) (hi : i < n) (hd : d ≤ 6) {Q : aH → Prop} (h1 : d < 6 → ∀ h', MdF 38 h h' → MdS n tb h' (i + 1) z (d + 1) (tk n tb i :: σ) 0 → Kq 200 h h' → Q h') (h0 : 6 ≤ d → ∀ h', MdF 38 h h' → gI h' 0 31 = er 5 i → ¬ 0 ≤ er 5 i → Q h') : f_X11_opens SM 0 h Q := by
  intro v ev
  rw [s.2.2.2.2.1] at ev
  subst ev
  by_cases c : d = 6
  · subst c
    refine aIf_f (fun y => y rfl) ?_
    refine sr_wrongsP (c := 5) s (by decide) (by decide) (fun h2 f2 s2 ne => ?_)
    refine sr_open s2 (fun h3 f3 s3 g3 => ?_)
    refine sr_here (MdF_L (MdF_L hL f2) f3) s3 ?_
    refine sr_puts (MdF_L (MdF_L hL f2) f3) s3 hi (MdS_t s3) (fun h4 f4 s4 k4 => ?_)
    exact h0 (Nat.le_refl _) h4 (MdF_tr f2 (MdF_tr f3 f4)) s4.2.2.1 ne
  · refine aIf_t (fun y => c ((nI_eq (a := d) (b := 6) (by omega) (by decide)).mp y)) ?_
    refine sr_open s (fun h3 f3 s3 g3 => ?_)
    refine sr_here (MdF_L hL f3) s3 ?_
    refine sr_puts (MdF_L hL f3) s3 hi (MdS_t s3) (fun h4 f4 s4 k4 => ?_)
    refine h1 (by omega) h4 (MdF_tr f3 f4) s4 (fun q hq => ?_)
    have := k4 q hq
    rw [g3, g3] at this
    exact this
theorem sr_digit (hL : LayM h) (s : MdS n tb h i z d σ e) {Q : Int32 → aH → Prop} (h1 : isDg (tk n tb i) → Q 1 h) (h0 : ¬ isDg (tk n tb i) → Q 0 h) : f_X11_seesDigit SM 0 h Q := by
  refine sr_here hL s ?_
  have := MdS_t s (j := i)
  show f_X11_lies SM (nI (tk n tb i)).toInt64 (nI 48).toInt64 (nI 57).toInt64 h _
  refine sp_lies (fun a b => ⟨aB1, h1 ⟨?_, ?_⟩⟩) (fun a => ⟨aB0, h0 (fun y => a ⟨?_, ?_⟩)⟩)
  · exact (nI_leI (by decide) (by omega)).mp a
  · exact (nI_leI (by omega) (by decide)).mp b
  · exact (nI_leI (by decide) (by omega)).mpr y.1
  · exact (nI_leI (by omega) (by decide)).mpr y.2
end LmP
