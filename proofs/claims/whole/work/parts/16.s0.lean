/-! ===== step: began ===== -/
def minO (o : Option Nat) (s : Nat) : Option Nat := match o with
  | none => some s
  | some a => some (min a s)
def bgF (gd : Nat → Bool) (sq : Nat → Nat) : Nat → Nat × Option Nat
  | 0 => (0, none)
  | i + 1 => if gd i = true then ((bgF gd sq i).1 + 1, minO (bgF gd sq i).2 (sq i)) else bgF gd sq i
theorem bgF_lt {gd : Nat → Bool} {sq : Nat → Nat} {n : Nat} (hs : ∀ j, j < n → sq j < 256) : ∀ i, i ≤ n → ∀ a, (bgF gd sq i).2 = some a → a < 256 := by
  intro i
  induction i with
  | zero => intro _ a h; cases h
  | succ i ih =>
    intro hi a h
    unfold bgF at h
    by_cases c : gd i = true
    · rw [if_pos c] at h
      have h : minO (bgF gd sq i).2 (sq i) = some a := h
      rcases e : (bgF gd sq i).2 with _ | b
      · rw [e] at h
        cases h
        exact hs i (by omega)
      · rw [e] at h
        have := ih (by omega) b e
        have h : some (min b (sq i)) = some a := h
        cases h
        have := hs i (by omega)
        omega
    · rw [if_neg c] at h
      exact ih (by omega) a h
theorem min_nI {a b : Nat} (ha : a < 2 ^ 31) (hb : b < 2 ^ 31) : aMin (nI a) (nI b) = nI (min a b) := by
  unfold aMin
  by_cases c : b < a
  · rw [if_pos ((nI_ltI hb ha).mpr c), Nat.min_eq_right (by omega)]
  · rw [if_neg (fun z => c ((nI_ltI hb ha).mp z)), Nat.min_eq_left (by omega)]
/-- the reference: squares alone are told -/
def ToS (h h' : aH) (n i : Nat) (sq : Nat → Nat) : Prop := h'.2.2 = h.2.2 ∧ (∀ c j, c ≠ 34 → gA h' c j = gA h c j) ∧ (∀ c j, ¬ (c = 0 ∧ j = 1) → ¬ (c = 0 ∧ j = 54) → gI h' c j = gI h c j) ∧ gI h' 0 1 = 0 ∧ gI h' 0 54 = nI n ∧ ∀ j, j < i → gA h' 34 j = nI (sq j)
set_option maxHeartbeats 2000000 in
/-- BEGAN -/
theorem s_began : st_began (Inv LR) SC SM := by
  intro hc hm a1 a2 hI
  obtain ⟨L, hn, gn, kp, LK, tn, tb, l, d, I⟩ := hI
  obtain ⟨i1, i2, i3, i4, i5, i6, i7, i8, i9, i10⟩ := id I
  obtain ⟨t1, t2, t3, t4⟩ := id i9
  have hk : isLake 1 := Or.inl rfl
  have hk3 : isLake 25 := Or.inr (Or.inr rfl)
  have hl := lay_isLaw i1
  obtain ⟨F, F1, F2⟩ := LR_F i1 i10
  unfold f_X10_began
  by_cases p1 : 1 ≤ a1 ∧ a1 ≤ 40
  rotate_left
  · refine wi_f p1 (aIf_t rfl ?_)
    exact li_f (b := 1) (c := 40) p1 (aIf_t rfl ⟨rfl, Inv_same I⟩)
  refine wi_t p1 (aIf_f (by decide) ?_)
  have n01 : (0 ≤ a2 ∧ a2 ≤ 1) ↔ (a2 = 0 ∨ a2 = 1) := by
    constructor
    · intro z
      obtain ⟨j, hj, ej⟩ := Iof (x := a2) (M := 1) (by decide) z.1 z.2
      have : j = 0 ∨ j = 1 := by omega
      rcases this with y | y <;> subst y
      · exact Or.inl ej
      · exact Or.inr ej
    · intro z
      rcases z with z | z <;> subst z <;> decide
  obtain ⟨n, hn40, en⟩ := Iof (x := a1) (M := 40) (by decide) (Int32.le_trans (by decide) p1.1) p1.2
  subst en
  have n1 : 1 ≤ n := (nI_leI (a := 1) (by decide) (by omega)).mp p1.1
  suffices main : (a2 = 0 ∨ a2 = 1) → f_X10_began_19 SC 0 (nI n) a2 (fun r hc' => f_X11_began SM 0 (nI n) a2 hm (fun r' hm' => r = r' ∧ Inv LR hc' hm')) hc by
    refine aIf_i (fun c => main (Or.inl c)) (fun c => aIf_i (fun c1 => ?_) (fun c1 => main (Or.inr (Classical.not_not.mp c1))))
    refine li_t (b := 1) (c := 40) p1 (aIf_f (by decide) ?_)
    exact li_f (b := 0) (c := 1) (fun z => (n01.mp z).elim c c1) (aIf_t rfl ⟨rfl, Inv_same I⟩)
  intro h01
  have pre : ∀ Q : Int32 → aH → Prop, aIf (nI n ≤ nI tn) (∀ h47 : aH, h47 = sI hm 0 1 0 → ∀ h48 : aH, h48 = sI h47 0 54 (nI n) → ∃ m45, f_X11_began_45 SM 0 (nI n) a2 Q m45 0 h48) (Q (-3) hm) → f_X11_began SM 0 (nI n) a2 hm Q := by
    intro Q hq
    refine li_t (b := 1) (c := 40) p1 (aIf_f (by decide) ?_)
    refine li_t (b := 0) (c := 1) (n01.mpr h01) (aIf_f (by decide) ?_)
    intro v ev
    rw [t3] at ev
    subst ev
    exact hq
  unfold f_X10_began_19
  rw [c_0_3 i1, co_37, t2]
  refine ⟨trivial, fun v ev => ?_⟩
  subst ev
  refine aIf_i (fun c => ?_) (fun c => pre _ (aIf_f c ⟨rfl, Inv_same I⟩))
  rw [c_0_4 i1, co_39]
  refine ⟨trivial, sp_readSquares i1 (fun i hi => (t4 i hi).2.1) hn40 (fun h1 k1 => ?_)⟩
  have l1 := LayC_2 k1.1 i1
  have tlt : ∀ j, j < n → tb j < 256 := fun j hj => (t4 j (by omega)).1
  have ToS_ms : ∀ g, ToS hm g n n tb → MT hm g := fun g t => ⟨t.1, fun c hc i => t.2.1 c i (by omega), fun c hc i _ => t.2.1 c i (by omega), fun i _ => t.2.1 _ i (by omega), fun i _ => t.2.1 _ i (by omega), fun j hj => t.2.2.1 _ _ (by omega) (by omega)⟩
  have ToS_r : ∀ g, ToS hm g n n tb → RepM g L := fun g t => RepM_gA (fun c i _ _ => t.2.1 c i (by omega)) (fun j _ _ => t.2.2.1 _ _ (by omega) (by omega)) i4
  have run : ∀ Q : Int32 → aH → Prop, (∀ g1, ToS hm g1 n n tb → twL tb n → Q (-2) g1) → (∀ g1, ToS hm g1 n n tb → ¬ twL tb n → ∃ m79, f_X11_began_79 SM 0 (nI n) a2 Q m79 0 g1) → f_X11_began SM 0 (nI n) a2 hm Q := by
    intro Q q1 q0
    refine pre Q (aIf_t c ?_)
    intro g1 e1 g2 e2
    have key := up_loop (N := n) (P := fun w i => ∀ h', ToS hm h' n i tb → f_X11_began_45 SM 0 (nI n) a2 Q w (nI i) h') ?_ ?_
    · refine ⟨n + 1, key g2 ?_⟩
      subst e2 e1
      exact ⟨rfl, fun _ _ _ => rfl, fun c j c1 c2 => by rw [gI_sI, if_neg c2, gI_sI, if_neg c1], by rw [gI_sI, if_neg (fun z => absurd z.2 (by decide)), gI_sI, if_pos ⟨rfl, rfl⟩], by rw [gI_sI, if_pos ⟨rfl, rfl⟩], fun j hj => absurd hj (Nat.not_lt_zero _)⟩
    · intro h' t
      refine aIf_t (nI_le (Nat.le_refl _) (by omega)) ?_
      exact sr_isTwice (sq := tb) (LayM_2 t.1 i2) t.2.2.2.2.1 hn40 (fun j hj => ⟨t.2.2.2.2.2 j hj, tlt j hj⟩) (fun z => aIf_f (by decide) (q1 h' t z)) (fun z => aIf_t rfl (q0 h' t z))
    · intro w i hi m1 h' t
      refine aIf_f (nI_ge hi (by omega)) ?_
      have hL' := LayM_2 t.1 i2
      refine sr_byteAt hL' (tb := tb) (fun j hj => by rw [t.2.1 _ _ (by decide)]; exact (t4 j hj).2.2) (by omega) ?_
      rw [m_52 hL', mi_34, vp_lt (show i < 40 by omega) (by decide), cl (by omega)]
      refine ⟨trivial, fun h2 e2 x ex => ?_⟩
      rw [nI_1] at ex
      subst ex e2
      refine m1 _ ⟨t.1, fun c j c1 => by rw [gA_o c1]; exact t.2.1 c j c1, t.2.2.1, t.2.2.2.1, t.2.2.2.2.1, fun j hj => ?_⟩
      by_cases z : j = i
      · rw [z, gA_e]
      · rw [gA_p z]; exact t.2.2.2.2.2 j (by omega)
  have tape : ∀ g, ToS hm g n n tb → TapeR h1 g 0 tb := fun g t => ⟨by omega, k1.2.2.2.1, t.2.2.2.1, fun i hi => by rw [k1.2.1 _ _ (by decide) (by decide), t.2.1 _ _ (by decide)]; exact t4 i hi⟩
  have fin : ∀ h2 g1 g2, CS h1 h2 → RepC h2 1 L → ToS hm g1 n n tb → MS g1 g2 → RepM g2 L → Inv LR h2 g2 := fun h2 g1 g2 s2 r2 j1 s1 q2 => Inv_tape LRok_LR I (CT_tr (CT_ToC k1) (CT_CS s2)) (MT_tr (ToS_ms g1 j1) (MT_MS s1)) r2 q2 i5 (Tape_to s2 s1 (tape g1 j1))
  have r1 := RepC_ToC hk k1 i3
  rw [c_0_4 l1, co_39]
  refine ⟨trivial, sp_hasTwice (sq := tb) l1 k1.2.2.2.2.1 hn40 n1 (fun j hj => ⟨(k1.2.2.2.2.2 j hj).1, tlt j hj⟩) (fun z => ?_) (fun z => ?_)⟩
  · exact aIf_t (by decide) (run _ (fun g1 j1 _ => ⟨rfl, fin h1 g1 g1 CS_rf r1 j1 MS_rf (ToS_r g1 j1)⟩) (fun g1 j1 y => absurd z y))
  refine aIf_f (fun z => z rfl) ?_
  rw [c_0_4 l1, co_39, c_0_0 l1, co_1]
  have run2 : ∀ Q : Int32 → aH → Prop, (∀ g1, ToS hm g1 n n tb → ¬ (∀ i, i < n → L 1 (tb i) = (-1)) → Q (-2) g1) → (∀ g1, ToS hm g1 n n tb → (∀ i, i < n → L 1 (tb i) = (-1)) → f_X11_setsAside SM 0 0 g1 (fun h23 => ∃ m119, f_X11_began_119 SM 0 (nI n) a2 Q m119 0 (-1) 0 h23)) → f_X11_began SM 0 (nI n) a2 hm Q := by
    intro Q q0 q1
    refine run Q (fun g1 j1 y => absurd y z) (fun g1 j1 _ => ?_)
    have J2 := LayM_2 j1.1 i2
    have J4 := ToS_r g1 j1
    have key := up_loop (N := n) (P := fun w i => (∀ j, j < i → L 1 (tb j) = (-1)) → f_X11_began_79 SM 0 (nI n) a2 Q w (nI i) g1) ?_ ?_
    · exact ⟨n + 1, key (fun j hj => absurd hj (Nat.not_lt_zero _))⟩
    · intro hv
      exact aIf_t (nI_le (Nat.le_refl _) (by omega)) (q1 g1 j1 hv)
    · intro w i hi m1 hv
      refine aIf_f (nI_ge hi (by omega)) ?_
      rw [m_52 J2, mi_34, vp_lt (show i < 40 by omega) (by decide), cl (by omega), j1.2.2.2.2.2 i hi]
      refine ⟨trivial, fun v ev => ?_⟩
      subst ev
      refine sr_isIce J2 J4 (tlt i hi) (fun c => aIf_t (by decide) ?_) (fun c => aIf_f (fun z => z rfl) (q0 g1 j1 (fun z => c (z i hi))))
      intro x ex
      rw [nI_1] at ex
      subst ex
      refine m1 (fun j hj => ?_)
      rcases Nat.lt_or_ge j i with y | y
      · exact hv j y
      · rw [show j = i by omega]; exact c
  refine ⟨trivial, trivial, sp_allFirm (sq := tb) hk l1 r1 k1.2.2.2.2.1 hn40 (fun j hj => ⟨(k1.2.2.2.2.2 j hj).1, tlt j hj⟩) (fun firm => ?_) (fun y => ?_)⟩
  rotate_left
  · refine aIf_f (fun z => z rfl) (run2 _ (fun g1 j1 _ => ⟨rfl, fin h1 g1 g1 CS_rf r1 j1 MS_rf (ToS_r g1 j1)⟩) (fun g1 j1 x => absurd x y))
  refine aIf_t (by decide) ?_
  rw [c_0_2 l1, co_25, c_0_0 l1, co_1]
  refine ⟨trivial, trivial, sp_copyFrom hk3 hk (Or.inl (by decide)) l1 r1 (fun h2 f2 r2 => ?_)⟩
  have bl := bgF_lt (gd := gdB F gn L tb n) (sq := tb) (n := n) tlt
  have F1' := LC_ToC hl k1 F1
  -- the class's loop
  have key := up_loop (N := n) (P := fun w i => ∀ h', FX 25 h1 h' → RepC h' 25 L → f_X10_began_91 SC 0 (nI n) a2 (fun r hc' => f_X11_began SM 0 (nI n) a2 hm (fun r' hm' => r = r' ∧ Inv LR hc' hm')) w (nI (bgF (gdB F gn L tb n) tb i).1) (enc (bgF (gdB F gn L tb n) tb i).2) (nI i) h') ?_ ?_
  · exact ⟨n + 1, key h2 (FX_K f2) r2⟩
  · intro h' f' r'
    have l' := LayC_2 f'.1 l1
    have e39 : gI h' 39 2 = nI n := (f'.2.2 _ _ (by decide) (by decide)).trans k1.2.2.2.2.1
    unfold f_X10_began_91
    rw [c_0_4 l', co_39, e39]
    refine ⟨trivial, fun v ev => ?_⟩
    subst ev
    refine aIf_t (nI_le (Nat.le_refl _) (by omega)) ?_
    have now' : RepC h' 1 L := RepC_FX hk3 hk (by decide) f' r1
    have ref : ∀ Q : Int32 → aH → Prop, (∀ g1 g2, ToS hm g1 n n tb → MS g1 g2 → RepM g2 L → aIf (¬ a2 = 0) (Q (enc (bgF (gdB F gn L tb n) tb n).2) g2) (Q (nI (bgF (gdB F gn L tb n) tb n).1) g2)) → f_X11_began SM 0 (nI n) a2 hm Q := by
      intro Q hq
      refine run2 Q (fun g1 j1 x => absurd firm x) (fun g1 j1 _ => ?_)
      have J2 := LayM_2 j1.1 i2
      have J4 := ToS_r g1 j1
      have JF : LM g1 F := LM_to (fun c hc i => j1.2.1 c i (by omega)) (j1.2.2.1 _ _ (by decide) (by decide)) F2
      refine sr_aside0 J2 J4 (fun m1 b1 s1 as1 q1 => ?_)
      have M2 := LayM_A b1 J2
      have MF1 : LM m1 F := LM_to (fun c hc i => b1.1 c i (by omega)) (gI_fr b1 0 16) JF
      have loop := up_loop (N := n) (P := fun w i => ∀ h', MX m1 h' → RepM h' L → f_X11_began_119 SM 0 (nI n) a2 Q w (nI (bgF (gdB F gn L tb n) tb i).1) (enc (bgF (gdB F gn L tb n) tb i).2) (nI i) h') ?_ ?_
      · exact ⟨n + 1, loop m1 MX_rf q1⟩
      · intro g' f' q'
        exact aIf_t (nI_le (Nat.le_refl _) (by omega)) (hq g1 g' j1 (MS_tr s1 (MS_MX f')) q')
      · intro w i hi w1 g' f' q'
        have L' := LayM_2 f'.1 M2
        refine aIf_f (nI_ge hi (by omega)) ?_
        have e34 : ∀ g'', MX m1 g'' → ∀ j, j < n → gA g'' 34 j = nI (tb j) := fun g'' f'' j hj => by rw [f''.2.1 _ _ (by decide), b1.1 _ _ (by omega)]; exact j1.2.2.2.2.2 j hj
        rw [m_52 L', mi_34, vp_lt (show i < 40 by omega) (by decide), cl (by omega), e34 g' f' i hi]
        refine ⟨trivial, fun v ev => ?_⟩
        subst ev
        refine sr_breaks L' q' i5 (tlt i hi) (Or.inl (firm i hi)) (fun h5 f5 r5 => ?_)
        have fa := MX_tr f' (MX_A f5 (fun c hc => by omega))
        refine sr_settles (LayM_2 fa.1 M2) r5 (WF_brk i5 (tlt i hi)) (LM_MX fa MF1) (fun h6 f6 r6 => ?_)
        have fb := MX_tr fa f6
        have r6 : RepM h6 (fellL F gn L (tb i)) := r6
        have as6 : AS h6 L := AS_to (fun c i c1 c2 => fb.2.1 c i (by omega)) as1
        have back : ∀ K : aH → Prop, (∀ h3, MX m1 h3 → RepM h3 L → K h3) → f_X11_putsBack SM 0 0 h6 K := by
          intro K hK
          refine sr_back0 (LayM_2 fb.1 M2) J4 as6 (fun c i hc => ?_) (fun j hj => ?_) (fun h3 f3 r3 => hK h3 (MX_tr fb f3) r3)
          · rw [fb.2.1 c i (by omega), b1.1 c i (by omega)]
          · rw [fb.2.2 0 j (by omega), gI_fr b1 0 j]
        refine sr_brokeJust (LayM_2 fb.1 M2) r6 as6 hn40 (fun j hj => ⟨e34 h6 fb j hj, tlt j hj⟩) (fun gd => aIf_f (by decide) ?_) (fun gd => aIf_t rfl ?_)
        · have e : bgF (gdB F gn L tb n) tb (i + 1) = ((bgF (gdB F gn L tb n) tb i).1 + 1, minO (bgF (gdB F gn L tb n) tb i).2 (tb i)) := if_pos gd
          rw [e] at w1
          intro x ex
          rw [nI_1] at ex
          subst ex
          rcases eo : (bgF (gdB F gn L tb n) tb i).2 with _ | a
          · rw [eo] at w1
            refine aIf_t rfl (back _ (fun h3 f3 r3 y ey => ?_))
            rw [nI_1] at ey
            subst ey
            exact w1 h3 f3 r3
          · rw [eo] at w1
            have ha := bl i (by omega) a eo
            have hb := tlt i hi
            rw [enc_some]
            refine aIf_f (nI_neg1 (by omega)) ?_
            have w1 : ∀ h', MX m1 h' → RepM h' L → f_X11_began_119 SM 0 (nI n) a2 Q (w + 1) (nI ((bgF (gdB F gn L tb n) tb i).1 + 1)) (nI (min a (tb i))) (nI (i + 1)) h' := w1
            refine aIf_i (fun c => back _ (fun h3 f3 r3 y ey => ?_)) (fun c => back _ (fun h3 f3 r3 y ey => ?_))
            · rw [nI_1] at ey
              subst ey
              rw [Nat.min_eq_left ((nI_leI (by omega) (by omega)).mp c)] at w1
              exact w1 h3 f3 r3
            · rw [nI_1] at ey
              subst ey
              have : ¬ a ≤ tb i := fun z => c ((nI_leI (by omega) (by omega)).mpr z)
              rw [Nat.min_eq_right (by omega)] at w1
              exact w1 h3 f3 r3
        · have e : bgF (gdB F gn L tb n) tb (i + 1) = bgF (gdB F gn L tb n) tb i := if_neg gd
          rw [e] at w1
          refine back _ (fun h3 f3 r3 y ey => ?_)
          rw [nI_1] at ey
          subst ey
          exact w1 h3 f3 r3
    refine aIf_i (fun c => ref _ (fun g1 g2 j1 s1 q2 => aIf_t c ⟨rfl, fin h' g1 g2 (CS_FX (Or.inr rfl) f') now' j1 s1 q2⟩)) (fun c => ref _ (fun g1 g2 j1 s1 q2 => aIf_f c ⟨rfl, fin h' g1 g2 (CS_FX (Or.inr rfl) f') now' j1 s1 q2⟩))
  · intro w i hi m1 h' f' r'
    have l' := LayC_2 f'.1 l1
    have e39 : gI h' 39 2 = nI n := (f'.2.2 _ _ (by decide) (by decide)).trans k1.2.2.2.2.1
    have e40 : ∀ j, j < n → gA h' 40 j = nI (tb j) ∧ tb j < 256 := fun j hj => ⟨(f'.2.1 _ _ (by decide) (by decide)).trans (k1.2.2.2.2.2 j hj).1, tlt j hj⟩
    unfold f_X10_began_91
    rw [c_0_4 l', co_39, e39]
    refine ⟨trivial, fun v ev => ?_⟩
    subst ev
    refine aIf_f (nI_ge hi (by omega)) ?_
    rw [c_39_0 l', ca_40, vp_lt (show i < 40 by omega) (by decide), cl (by omega), (e40 i hi).1]
    refine ⟨trivial, fun v ev => ?_⟩
    subst ev
    rw [c_0_5 l', co_42, c_0_2 l', co_25]
    have rse : ∀ (h3 : aH) (K : aH → Prop), FX 25 h1 h3 → RepC h3 25 (fellL F gn L (tb i)) → (∀ h4, FX 25 h1 h4 → RepC h4 25 L → K h4) → aObj SC (gR h3 0 2) 1 flX2 ∧ aObj SC (gR h3 0 0) 1 flX2 ∧ f_X2_raise SC (gR h3 0 2) (nI (tb i)) (gR h3 0 0) h3 K := by
      intro h3 K f3 r3 hK
      have l3 := LayC_2 f3.1 l1
      rw [c_0_2 l3, co_25, c_0_0 l3, co_1]
      refine ⟨trivial, trivial, sp_raise l3 r3 (RepC_FX hk3 hk (by decide) f3 r1) i5 (tlt i hi) (firm i hi) (NB_fell i5 (tlt i hi)) (fun h4 f4 r4 => hK h4 (FX_tr f3 (FX_K f4)) r4)⟩
    refine ⟨trivial, trivial, sp_fellsJust l' r' i5 (LC_FX hk3 hl f' F1') e39 hn40 e40 hi (firm i hi) (fun h3 gd f3 r3 => aIf_f (by decide) ?_) (fun h3 gd f3 r3 => aIf_t rfl ?_)⟩
    · have e : bgF (gdB F gn L tb n) tb (i + 1) = ((bgF (gdB F gn L tb n) tb i).1 + 1, minO (bgF (gdB F gn L tb n) tb i).2 (tb i)) := if_pos gd
      rw [e] at m1
      have fb := FX_tr f' f3
      intro x ex
      rw [nI_1] at ex
      subst ex
      rcases eo : (bgF (gdB F gn L tb n) tb i).2 with _ | a
      · rw [eo] at m1
        refine aIf_f (fun z => z rfl) (rse h3 _ fb r3 (fun h4 f4 r4 y ey => ?_))
        rw [nI_1] at ey
        subst ey
        exact m1 h4 f4 r4
      · rw [eo] at m1
        have ha := bl i (by omega) a eo
        have hb := tlt i hi
        rw [enc_some]
        refine aIf_t (nI_neg1 (by omega)) ?_
        intro v ev
        rw [min_nI (by omega) (by omega)] at ev
        subst ev
        refine rse h3 _ fb r3 (fun h4 f4 r4 y ey => ?_)
        rw [nI_1] at ey
        subst ey
        exact m1 h4 f4 r4
    · have e : bgF (gdB F gn L tb n) tb (i + 1) = bgF (gdB F gn L tb n) tb i := if_neg gd
      rw [e] at m1
      refine rse h3 _ (FX_tr f' f3) r3 (fun h4 f4 r4 y ey => ?_)
      rw [nI_1] at ey
      subst ey
      exact m1 h4 f4 r4
