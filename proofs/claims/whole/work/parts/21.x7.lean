/-! ===== LAW: the reference reads a clause ===== -/
def LmF (h h' : aH) : Prop := h'.2.2 = h.2.2 ∧ (∀ c q, ¬ (18 ≤ c ∧ c ≤ 24) → gA h' c q = gA h c q) ∧ ∀ c j, ¬ (c = 0 ∧ 29 ≤ j ∧ j ≤ 37) → gI h' c j = gI h c j
theorem LmF_rf {h : aH} : LmF h h := ⟨rfl, fun _ _ _ => rfl, fun _ _ _ => rfl⟩
theorem LmF_tr {a b c : aH} (x : LmF a b) (y : LmF b c) : LmF a c := ⟨y.1.trans x.1, fun k i hk => (y.2.1 k i hk).trans (x.2.1 k i hk), fun k i h1 => (y.2.2 k i h1).trans (x.2.2 k i h1)⟩
theorem MdF_Lm {X : Nat} {a b : aH} (x : MdF X a b) : LmF a b := ⟨x.1, fun c q h => x.2.1 c q (by omega), fun c j h => x.2.2 c j (by omega)⟩
theorem LmF_I {j : Nat} {h : aH} {v : Int32} (hj : 29 ≤ j ∧ j ≤ 37) : LmF h (sI h 0 j v) := ⟨rfl, fun _ _ _ => rfl, fun c k hc => by rw [gI_sI, if_neg (fun z => hc ⟨z.1, by omega⟩)]⟩
theorem LmF_A {c q : Nat} {h : aH} {v : Int32} (hc : 18 ≤ c ∧ c ≤ 24) : LmF h (sA h c q v) := ⟨rfl, fun k i hk => by rw [gA_o (by omega)], fun _ _ _ => rfl⟩
theorem LmF_L {h h' : aH} (hL : LayM h) (f : LmF h h') : LayM h' := LayM_2 f.1 hL
def MdW (n : Nat) (tb : Nat → Nat) (h : aH) (i z : Nat) (e : Int32) : Prop := gI h 0 29 = nI i ∧ gI h 0 30 = nI n ∧ gI h 0 31 = e ∧ gI h 0 33 = nI z ∧ i ≤ n ∧ n ≤ 200 ∧ z ≤ 200 ∧ ∀ q, q < 220 → gA h 1 q &&& 255 = nI (tb q) ∧ tb q < 256
theorem MdS_W {n : Nat} {tb : Nat → Nat} {h : aH} {i z d : Nat} {σ : List Nat} {e : Int32} (s : MdS n tb h i z d σ e) : MdW n tb h i z e := ⟨s.1, s.2.1, s.2.2.1, s.2.2.2.1, (MdS_n s).1, (MdS_n s).2.1, (MdS_n s).2.2.2, s.2.2.2.2.2.2.2.2.2.2.2⟩
/-- the clauses that stand -/
def MlR (h : aH) (z k : Nat) (lt : Nat → Int32) (W H : Nat → Sem) : Prop := gI h 0 32 = nI k ∧ ∀ q, q < k → gA h 18 q = lt q ∧ isB (H q) ∧ ∃ a b c, c ≤ z ∧ b ≤ z ∧ gA h 19 q = nI a ∧ gA h 20 q = nI b ∧ gA h 21 q = nI c ∧ MCo (gA h 22) (gA h 23) a b (W q) ∧ MCo (gA h 22) (gA h 23) b c (H q)
section LmE
variable {n : Nat} {tb : Nat → Nat} {h : aH} {i z : Nat} {Q : aH → Prop}
theorem sr_hereW (hL : LayM h) {e : Int32} (s : MdW n tb h i z e) {Q : Int32 → aH → Prop} (hq : Q (nI (tk n tb i)) h) : f_X11_here SM 0 h Q := by
  obtain ⟨s1, s2, s3, s4, s8, s9, s11, s12⟩ := s
  intro v ev v' ev'
  rw [s1] at ev
  rw [s2] at ev'
  subst ev ev'
  unfold tk at hq
  by_cases c : i < n
  · rw [if_pos c] at hq
    refine aIf_f (nI_ge c (by omega)) ?_
    intro v ev
    rw [s1] at ev
    subst ev
    rw [m_0 hL, mi_1, vp_lt (show i < 220 by omega) (by decide), cl (by omega)]
    refine ⟨trivial, fun v ev => ?_⟩
    subst ev
    rw [(s12 i (by omega)).1]
    exact hq
  · rw [if_neg c] at hq
    exact aIf_t (nI_le (by omega) (by omega)) hq
theorem sr_wrongsW (s : MdW n tb h i z 0) {c : Nat} (h1 : 1 ≤ c) (h2 : c ≤ 9) {Q : aH → Prop} (hq : ∀ h', LmF h h' → MdW n tb h' i z (er c i) → ¬ 0 ≤ er c i → Q h') : ∀ v : Int32, v = gI h 0 29 → f_X11_wrongs SM 0 (nI c) v h Q := by
  obtain ⟨s1, s2, s3, s4, s8, s9, s11, s12⟩ := s
  intro v ev
  rw [s1] at ev
  subst ev
  intro v ev
  rw [s3] at ev
  subst ev
  refine aIf_t (Int32.le_refl _) ?_
  intro h3 e3
  have em : (-1000 : Int32) * nI c - nI i = er c i := by
    rw [show (-1000 : Int32) = iI (-1000) from by decide, ← iI_nat, ← iI_nat, iI_mul, iI_sub]
    unfold er
    congr 1
  rw [em] at e3
  subst e3
  exact hq _ (LmF_I (by decide)) ⟨by rw [gI_n (by decide)]; exact s1, by rw [gI_n (by decide)]; exact s2, gI_y, by rw [gI_n (by decide)]; exact s4, s8, s9, s11, s12⟩ (er_neg h1 h2 (by omega))
theorem c59_F {x : Int32} {e : Int32} (s : gI h 0 31 = e) (he : ¬ e = 0) (hq : Q h) : f_X11_clause_59 SM 0 Q x h := by
  unfold f_X11_clause_59
  exact sr_bad s he (aIf_f (fun y => y rfl) hq)
/-- the end of a clause -/
def c59Z (Q : aH → Prop) (h29 : aH) : Prop := ∀ v30 : Int32, v30 = (gI h29 0 32) → ∀ v31 : Int32, v31 = (gI h29 0 33) → aIn SM 0 (gR h29 0 26) v30 ∧ ∀ h33 : aH, h33 = sA h29 (gR h29 0 26) (v30).toNatClampNeg v31 → ∀ v34 : Int32, v34 = (gI h33 0 32) → ∀ h35 : aH, h35 = sI h33 0 32 (v34 + 1) → Q h35
theorem c59Z_i {v33 : Int32} {k : Nat} (hL : LayM h) (hk : k < 14) (hg : gI h 0 32 = nI k) (hz : gI h 0 33 = v33) (hq : ∀ h', LmF h h' → (∀ c q, c ≠ 21 → gA h' c q = gA h c q) → (∀ q, gA h' 21 q = up k v33 (gA h 21) q) → (∀ j, j ≠ 32 → gI h' 0 j = gI h 0 j) → gI h' 0 32 = nI (k + 1) → Q h') : c59Z Q h := by
  intro v30 e30 v31 e31
  rw [hg] at e30
  rw [hz] at e31
  subst e30
  subst e31
  rw [m_26 hL, mi_21, vp_lt hk (by decide), cl (by omega)]
  refine ⟨trivial, fun h33 e33 v34 e34 h35 e35 => ?_⟩
  rw [e33, gI_sA, hg] at e34
  subst e34
  rw [nI_1] at e35
  refine hq h35 ?_ (fun c q hc => by rw [e35, gA_sI, e33, gA_o hc]) (fun q => ?_) (fun j hj => by rw [e35, gI_n hj, e33, gI_sA]) (by rw [e35, gI_y])
  · rw [e35, e33]
    exact LmF_tr (LmF_A (by decide)) (LmF_I (by decide))
  · unfold up
    rw [e35, gA_sI, e33, gA_sA]
    by_cases c : q = k
    · rw [if_pos ⟨rfl, c⟩, if_pos c]
    · rw [if_neg (fun y => c y.2), if_neg c]
theorem sr_c59 (hL : LayM h) (s : MdW n tb h i z 0) (hz : z ≤ i) (hi : i < n) {k : Nat} (hk : k < 14) {x : Int32} {lt : Nat → Int32} {W H : Nat → Sem} (cr : MlR h z k lt W H) (h1 : ∀ p h' z', clS n tb (i + 1) = .inr p → LmF h h' → MdS n tb h' p.1 z' 0 [] 0 → z' ≤ p.1 → MlR h' z' (k + 1) (up k x lt) (up k p.2.1 W) (up k p.2.2 H) → Q h') (h0 : ∀ e h', clS n tb (i + 1) = .inl e → ¬ 0 ≤ e → LmF h h' → gI h' 0 31 = e → Q h') : f_X11_clause_59 SM 0 Q x h := by
  unfold f_X11_clause_59
  refine sr_good s.2.2.1 (aIf_t (by decide) ?_)
  obtain ⟨s1, s2, s3, s4, s8, s9, s11, s12⟩ := s
  obtain ⟨cg, cr⟩ := cr
  intro v4 e4
  rw [cg] at e4
  subst e4
  rw [m_23 hL, mi_18, vp_lt hk (by decide), cl (by omega)]
  refine ⟨trivial, fun h6 e6 v7 e7 v8 e8 => ?_⟩
  have hL6 : LayM h6 := LayM_2 (by rw [e6]; rfl) hL
  rw [e6, gI_sA, cg] at e7
  rw [e6, gI_sA, s4] at e8
  subst e7
  subst e8
  rw [m_24 hL6, mi_19, vp_lt hk (by decide), cl (by omega)]
  refine ⟨trivial, fun h10 e10 v11 e11 h12 e12 h13 e13 h14 e14 => ?_⟩
  rw [e10, gI_sA, e6, gI_sA, s1] at e11
  subst e11
  rw [nI_1] at e12
  have gi : ∀ j, j ≠ 29 → j ≠ 35 → j ≠ 34 → gI h14 0 j = gI h 0 j := fun j a b c => by rw [e14, gI_n c, e13, gI_n b, e12, gI_n a, e10, gI_sA, e6, gI_sA]
  have ga : ∀ c q, c ≠ 18 → c ≠ 19 → gA h14 c q = gA h c q := fun c q a b => by rw [e14, gA_sI, e13, gA_sI, e12, gA_sI, e10, gA_o b, e6, gA_o a]
  have g18 : ∀ q, gA h14 18 q = up k x (gA h 18) q := fun q => by
    unfold up
    rw [e14, gA_sI, e13, gA_sI, e12, gA_sI, e10, gA_o (by decide), e6, gA_sA]
    by_cases c : q = k
    · rw [if_pos ⟨rfl, c⟩, if_pos c]
    · rw [if_neg (fun y => c y.2), if_neg c]
  have g19 : ∀ q, gA h14 19 q = up k (nI z) (gA h 19) q := fun q => by
    unfold up
    rw [e14, gA_sI, e13, gA_sI, e12, gA_sI, e10, gA_sA]
    by_cases c : q = k
    · rw [if_pos ⟨rfl, c⟩, if_pos c]
    · rw [if_neg (fun y => c y.2), if_neg c, e6, gA_o (by decide)]
  have F14 : LmF h h14 := by
    rw [e14, e13, e12, e10, e6]
    exact LmF_tr (LmF_tr (LmF_tr (LmF_tr (LmF_A (by decide)) (LmF_A (by decide))) (LmF_I (by decide))) (LmF_I (by decide))) (LmF_I (by decide))
  have hL14 := LmF_L hL F14
  have s14 : MdS n tb h14 (i + 1) z 0 [] 0 := ⟨by rw [e14, gI_n (by decide), e13, gI_n (by decide), e12, gI_y], (gi _ (by decide) (by decide) (by decide)).trans s2, (gi _ (by decide) (by decide) (by decide)).trans s3, (gi _ (by decide) (by decide) (by decide)).trans s4, by rw [e14, gI_y]; rfl, by rw [e14, gI_n (by decide), e13, gI_y]; rfl, trivial, by omega, s9, Nat.zero_le _, s11, fun q hq => by rw [ga 1 q (by decide) (by decide)]; exact s12 q hq⟩
  have g32 : gI h14 0 32 = nI k := (gi _ (by decide) (by decide) (by decide)).trans cg
  unfold clS at h1 h0
  -- a fault in the value
  have fv : ∀ e h', thenS n tb 40 (exprS n tb 0 (i + 1)) = .inl e → ¬ 0 ≤ e → MdF 37 h14 h' → gI h' 0 31 = e → ∀ v16 : Int32, v16 = (gI h' 0 32) → ∀ v17 : Int32, v17 = (gI h' 0 33) → aIn SM 0 (gR h' 0 25) v16 ∧ ∀ h19 : aH, h19 = sA h' (gR h' 0 25) (v16).toNatClampNeg v17 → f_X11_isGood SM 0 h19 (fun r21 h20 => aIf (r21 = 0) (c59Z Q h20) (f_X11_condition SM 0 h20 (fun h29 => c59Z Q h29))) := by
    intro e h' et ne F' s' v16 e16 v17 e17
    have hL' := MdF_L hL14 F'
    rw [(F'.2.2 0 32 (by omega)).trans g32] at e16
    subst e16
    rw [m_25 hL', mi_20, vp_lt hk (by decide), cl (by omega)]
    refine ⟨trivial, fun h19 e19 => ?_⟩
    have s19 : gI h19 0 31 = e := by rw [e19, gI_sA]; exact s'
    have F19 : LmF h' h19 := by rw [e19]; exact LmF_A (by decide)
    have hL19 := LmF_L hL' F19
    refine sr_bad s19 (ne_of ne) (aIf_t rfl ?_)
    refine c59Z_i hL19 hk (by rw [e19, gI_sA]; exact (F'.2.2 0 32 (by omega)).trans g32) rfl (fun h2 f2 _ _ gj _ => ?_)
    refine h0 e h2 (by rw [et]) ne (LmF_tr F14 (LmF_tr (MdF_Lm F') (LmF_tr F19 f2))) ((gj 31 (by decide)).trans s19)
  refine sr_value hL14 (by decide) s14 (by omega) (by decide) (fun j f h15 z15 e15 c93 F15 s15 k15 c15 l15 b15 => ?_) (fun e h15 e15 ne F15 s15 => ?_) (fun j f h15 e15 c93 ne F15 s15 => ?_)
  rotate_left
  · exact fv e h15 (by rw [e15]; rfl) ne F15 s15
  · exact fv _ h15 (by rw [e15]; unfold thenS; exact if_neg (by rw [c93]; decide)) ne F15 s15
  have hL15 := MdF_L hL14 F15
  have g32' : gI h15 0 32 = nI k := (F15.2.2 0 32 (by omega)).trans g32
  have jn := (MdS_n s15).1
  intro v16 e16 v17 e17
  rw [g32'] at e16
  rw [s15.2.2.2.1] at e17
  subst e16
  subst e17
  rw [m_25 hL15, mi_20, vp_lt hk (by decide), cl (by omega)]
  refine ⟨trivial, fun h19 e19 => ?_⟩
  have F19 : LmF h15 h19 := by rw [e19]; exact LmF_A (by decide)
  have hL19 := LmF_L hL15 F19
  have ga19 : ∀ c q, c ≠ 20 → gA h19 c q = gA h15 c q := fun c q hc => by rw [e19, gA_o hc]
  have s19 : MdS n tb h19 j z15 0 [] 0 := by
    obtain ⟨q1, q2, q3, q4, q5, q6, q7, q8, q9, q10, q11, q12⟩ := s15
    rw [e19]
    exact ⟨q1, q2, q3, q4, q5, q6, trivial, q8, q9, q10, q11, fun q hq => by rw [gA_o (by decide)]; exact q12 q hq⟩
  have g32'' : gI h19 0 32 = nI k := by rw [e19, gI_sA]; exact g32'
  refine sr_good s19.2.2.1 (aIf_f (by decide) ?_)
  show f_X11_condition SM 0 h19 (fun h29 => c59Z Q h29)
  refine sr_cond hL19 s19 (by omega) (fun j2 g h20 z20 c40 e20 F20 s20 k20 c20 l20 b20 => ?_) (fun e h20 c40 e20 ne F20 s20 => ?_) (fun h20 c40 ne F20 s20 => ?_)
  · have hL20 := MdF_L hL19 F20
    have et : thenS n tb 40 (exprS n tb 0 (i + 1)) = .inr (j + 1, f) := by rw [e15]; unfold thenS; exact if_pos c40
    have l15' := MCo_lt c15
    have l20' := MCo_lt c20
    have z20n := (MdS_n s20).2.2.2
    refine c59Z_i hL20 hk ((F20.2.2 0 32 (by omega)).trans g32'') s20.2.2.2.1 (fun h2 f2 a2 g21 gj g2 => ?_)
    have a22 : ∀ c q, c ≠ 20 → c ≠ 21 → c ≠ 22 → c ≠ 23 → c ≠ 24 → gA h2 c q = gA h14 c q := fun c q h20 h21 h22 h23 h24 => by rw [a2 c q h21, F20.2.1 c q (by omega), ga19 c q h20, F15.2.1 c q (by omega)]
    have g20 : ∀ q, gA h2 20 q = up k (nI z15) (gA h 20) q := fun q => by
      rw [a2 20 q (by decide), F20.2.1 20 q (by decide), e19, gA_sA]
      unfold up
      by_cases c : q = k
      · rw [if_pos ⟨rfl, c⟩, if_pos c]
      · rw [if_neg (fun y => c y.2), if_neg c, F15.2.1 20 q (by decide), ga 20 q (by decide) (by decide)]
    have g21' : ∀ q, gA h2 21 q = up k (nI z20) (gA h 21) q := fun q => by
      rw [g21 q]
      unfold up
      by_cases c : q = k
      · rw [if_pos c, if_pos c]
      · rw [if_neg c, if_neg c, F20.2.1 21 q (by decide), ga19 21 q (by decide), F15.2.1 21 q (by decide), ga 21 q (by decide) (by decide)]
    have kA : ∀ q, q < z15 → gA h2 22 q = gA h15 22 q ∧ gA h2 23 q = gA h15 23 q := fun q hq => by
      have b := k20 q hq
      rw [ga19 22 q (by decide), ga19 23 q (by decide)] at b
      rw [a2 22 q (by decide), a2 23 q (by decide)]
      exact b
    have kB : ∀ q, q < z → gA h2 22 q = gA h 22 q ∧ gA h2 23 q = gA h 23 q := fun q hq => by
      have a := kA q (by omega)
      have b := k15 q hq
      rw [ga 22 q (by decide) (by decide), ga 23 q (by decide) (by decide)] at b
      exact ⟨a.1.trans b.1, a.2.trans b.2⟩
    have s2' : MdS n tb h2 j2 z20 0 [] 0 := by
      obtain ⟨q1, q2, q3, q4, q5, q6, q7, q8, q9, q10, q11, q12⟩ := s20
      exact ⟨(gj _ (by decide)).trans q1, (gj _ (by decide)).trans q2, (gj _ (by decide)).trans q3, (gj _ (by decide)).trans q4, (gj _ (by decide)).trans q5, (gj _ (by decide)).trans q6, trivial, q8, q9, q10, q11, fun q hq => by rw [a2 1 q (by decide)]; exact q12 q hq⟩
    refine h1 (j2, f, g) h2 z20 (by rw [et]; show (match thenS n tb 41 (pcS n tb 16 false 1 (j + 1)) with | .inl e => .inl e | .inr q => .inr (q.1, f, q.2)) = (.inr (j2, f, g) : Sum Int32 (Nat × Sem × Sem)); rw [e20]) (LmF_tr F14 (LmF_tr (MdF_Lm F15) (LmF_tr F19 (LmF_tr (MdF_Lm F20) f2)))) s2' (by show z20 ≤ j2; omega) ⟨g2, fun q hq => ?_⟩
    by_cases cq : q = k
    · subst cq
      have gB : isB g := by
        obtain ⟨k2, e2, _, _⟩ := thenS_r e20
        exact pcS_B _ _ _ _ _ _ e2
      refine ⟨by rw [a22 18 q (by decide) (by decide) (by decide) (by decide) (by decide), g18, up_e, up_e], by rw [up_e]; exact gB, z, z15, z20, Nat.le_refl _, by omega, by rw [a22 19 q (by decide) (by decide) (by decide) (by decide) (by decide), g19, up_e], by rw [g20, up_e], by rw [g21', up_e], ?_, ?_⟩
      · rw [up_e]
        exact MCo_eq c15 (fun q _ hq => kA q hq)
      · rw [up_e]
        exact MCo_eq c20 (fun q _ hq => ⟨a2 22 q (by decide), a2 23 q (by decide)⟩)
    · have hq : q < k := by omega
      obtain ⟨r1, r2, a, b, c, r3, r4, r5, r6, r7, r8, r9⟩ := cr q hq
      refine ⟨by rw [a22 18 q (by decide) (by decide) (by decide) (by decide) (by decide), g18, up_o hq, up_o hq]; exact r1, by rw [up_o hq]; exact r2, a, b, c, by omega, by omega, by rw [a22 19 q (by decide) (by decide) (by decide) (by decide) (by decide), g19, up_o hq]; exact r5, by rw [g20, up_o hq]; exact r6, by rw [g21', up_o hq]; exact r7, ?_, ?_⟩
      · rw [up_o hq]
        exact MCo_eq r8 (fun q _ hq => kB q (by omega))
      · rw [up_o hq]
        exact MCo_eq r9 (fun q _ hq => kB q (by omega))
  · have hL20 := MdF_L hL19 F20
    have et : thenS n tb 40 (exprS n tb 0 (i + 1)) = .inr (j + 1, f) := by rw [e15]; unfold thenS; exact if_pos c40
    refine c59Z_i hL20 hk ((F20.2.2 0 32 (by omega)).trans g32'') rfl (fun h2 f2 a2 g21 gj g2 => ?_)
    refine h0 e h2 (by rw [et]; show (match thenS n tb 41 (pcS n tb 16 false 1 (j + 1)) with | .inl e => .inl e | .inr q => .inr (q.1, f, q.2)) = (.inl e : Sum Int32 (Nat × Sem × Sem)); rw [e20]) ne (LmF_tr F14 (LmF_tr (MdF_Lm F15) (LmF_tr F19 (LmF_tr (MdF_Lm F20) f2)))) ((gj 31 (by decide)).trans s20)
  · have hL20 := MdF_L hL19 F20
    have et : thenS n tb 40 (exprS n tb 0 (i + 1)) = .inl (er 1 j) := by rw [e15]; unfold thenS; exact if_neg c40
    refine c59Z_i hL20 hk ((F20.2.2 0 32 (by omega)).trans g32'') rfl (fun h2 f2 a2 g21 gj g2 => ?_)
    exact h0 _ h2 (by rw [et]) ne (LmF_tr F14 (LmF_tr (MdF_Lm F15) (LmF_tr F19 (LmF_tr (MdF_Lm F20) f2)))) ((gj 31 (by decide)).trans s20)
end LmE
