/-! ===== a trial: set aside, put back ===== -/
def AS (h : aH) (L : Lw) : Prop := (∀ i, i < 256 → gA h 29 i = L 0 i ∧ gA h 30 i = (if L 1 i = (-2) then 1 else 0) ∧ gA h 31 i = (if L 1 i = (-2) then (-1) else L 1 i)) ∧ (∀ i, i < 8 → gA h 32 i = L 7 i) ∧ gA h 33 0 = L 9 2
theorem AS_to {h h' : aH} {L : Lw} (e : ∀ c i, 29 ≤ c → c ≤ 33 → gA h' c i = gA h c i) (a : AS h L) : AS h' L := by
  refine ⟨fun i hi => ?_, fun i hi => ?_, ?_⟩
  · rw [e 29 i (by decide) (by decide), e 30 i (by decide) (by decide), e 31 i (by decide) (by decide)]
    exact a.1 i hi
  · rw [e 32 i (by decide) (by decide)]
    exact a.2.1 i hi
  · rw [e 33 0 (by decide) (by decide)]
    exact a.2.2
section Aside
variable {h h1 : aH} {L : Lw} {hn gn : Nat} {F : LF} {Q : aH → Prop}
theorem sr_aside0 (hL : LayM h) (hM : RepM h L) (hq : ∀ h', FrA (fun c => 29 ≤ c ∧ c ≤ 33) h h' → MS h h' → AS h' L → RepM h' L → Q h') : f_X11_setsAside SM 0 0 h Q := by
  show f_X11_setsAside SM 0 (nI 0) h Q
  refine sr_setsAside (q := 0) (by decide) hL hM (fun h' f' s1 s2 s3 => hq h' f' ?_ ?_ ?_)
  · refine ⟨by rw [f'.2], fun c hc i => f'.1 c i (by omega), fun c hc i hi => ?_, fun i hi => ?_, fun i hi => ?_, fun j hj => gI_fr f' 0 j⟩
    · rw [s1 c hc.1 hc.2, if_neg (by omega)]
    · rw [s2, if_neg (by omega)]
    · rw [s3, if_neg (by omega)]
  · refine ⟨fun i hi => ?_, fun i hi => ?_, ?_⟩
    · have c : 256 * 0 ≤ i ∧ i < 256 * 0 + 256 := by omega
      rw [s1 29 (by decide) (by decide), s1 30 (by decide) (by decide), s1 31 (by decide) (by decide), if_pos c, if_pos c, if_pos c]
      exact hM.1 i hi
    · rw [s2, if_pos (by omega)]
      exact (hM.2.2.1 i hi).1
    · rw [s3, if_pos rfl]
      exact hM.2.2.2.2.2.1
  · exact RepM_gA (fun c i _ _ => f'.1 c i (by omega)) (fun j _ _ => gI_fr f' 0 j) hM
theorem sr_back0 (hL : LayM h1) (hM : RepM h L) (a : AS h1 L) (e1 : ∀ c i, (5 ≤ c ∧ c ≤ 9) ∨ c = 11 → gA h1 c i = gA h c i) (e2 : ∀ j, j = 2 ∨ j = 3 ∨ j = 5 → gI h1 0 j = gI h 0 j) (hq : ∀ h', MX h1 h' → RepM h' L → Q h') : f_X11_putsBack SM 0 0 h1 Q := by
  show f_X11_putsBack SM 0 (nI 0) h1 Q
  refine sr_putsBack (q := 0) (by decide) hL (fun i hi => by rw [show 256 * 0 + i = i by omega, (a.1 i hi).2.1]; exact aB_br) (fun h' p1 p2 p3 p4 p5 => hq h' ?_ ?_)
  · refine ⟨p5, fun c i hc => p1 c i (by omega), fun c j hc => ?_⟩
    rw [p4, if_neg (by omega)]
  · refine ⟨fun i hi => ?_, fun i hi => ?_, fun i hi => ?_, ?_⟩
    · rw [p2 2 (by decide) (by decide) i hi, p2 3 (by decide) (by decide) i hi, p2 4 (by decide) (by decide) i hi, show 256 * 0 + i = i by omega]
      exact a.1 i hi
    · rw [p1 5 i (by decide), p1 6 i (by decide), p1 7 i (by decide), p1 8 i (by decide), p1 9 i (by decide), e1 5 i (by decide), e1 6 i (by decide), e1 7 i (by decide), e1 8 i (by decide), e1 9 i (by decide)]
      exact hM.2.1 i hi
    · rw [p3 i hi, p1 11 i (by decide), e1 11 i (by decide), show 8 * 0 + i = i by omega]
      exact ⟨a.2.1 i hi, (hM.2.2.1 i hi).2⟩
    · rw [p4, p4, p4, p4, if_neg (by decide), if_neg (by decide), if_pos ⟨rfl, rfl⟩, if_neg (by decide), e2 2 (by decide), e2 3 (by decide), e2 5 (by decide)]
      exact ⟨hM.2.2.2.1, hM.2.2.2.2.1, a.2.2, hM.2.2.2.2.2.2⟩
end Aside
/-- RUN -/
theorem s_run : st_run (Inv LR) SC SM := by
  intro hc hm a1 a2 hI
  obtain ⟨L, hn, gn, kp, LK, tn, tb, l, d, I⟩ := hI
  obtain ⟨i1, i2, i3, i4, i5, i6, i7, i8, i9, i10⟩ := id I
  have hk : isLake 1 := Or.inl rfl
  have hk3 : isLake 25 := Or.inr (Or.inr rfl)
  have hgn := i5.2.1
  have hl := lay_isLaw i1
  obtain ⟨F, F1, F2⟩ := LR_F i1 i10
  have ran := LM_ran F2
  have e3 : gI hm 0 3 = nI gn := i4.2.2.2.2.1.trans i5.2.2.2.1
  have vB : ∀ a, a = 0 ∨ a = 1 → (0 : Int32) ≤ a ∧ a ≤ 1 := fun a z => by rcases z with z | z <;> subst z <;> decide
  have vG : ∀ g, g < gn → (10 : Int32) ≤ nI (g + 10) ∧ nI (g + 10) ≤ 9 + nI gn := fun g hg => by
    refine ⟨nI_le (a := 10) (by omega) (by omega), ?_⟩
    rw [show (9 : Int32) = nI 9 from rfl, nI_add]
    exact nI_le (by omega) (by omega)
  have n01 : ∀ g, g < gn → ¬ ((0 : Int32) ≤ nI (g + 10) ∧ nI (g + 10) ≤ 1) := fun g hg z => absurd ((nI_leI (b := 1) (by omega) (by decide)).mp z.2) (by omega)
  have refN : ∀ Q : Int32 → aH → Prop, ¬ (1 ≤ a1 ∧ a1 ≤ 60) → Q (-1) hm → f_X11_run SM 0 a1 a2 hm Q := fun Q p hq => hr_f p (aIf_t rfl hq)
  have refB : ∀ Q : Int32 → aH → Prop, (1 ≤ a1 ∧ a1 ≤ 60) → ¬ (a2 = 0 ∨ a2 = 1 ∨ ∃ g, g < gn ∧ a2 = nI (g + 10)) → Q (-1) hm → f_X11_run SM 0 a1 a2 hm Q := by
    intro Q p v hq
    refine hr_t p (aIf_f (by decide) ?_)
    refine li_f (b := 0) (c := 1) (fun z => v ?_) (aIf_f (fun z => z rfl) ?_)
    · obtain ⟨j, hj, ej⟩ := Iof (x := a2) (M := 1) (by decide) z.1 z.2
      have : j = 0 ∨ j = 1 := by omega
      rcases this with y | y <;> subst y
      · exact Or.inl ej
      · exact Or.inr (Or.inl ej)
    · intro v25 ev
      rw [e3] at ev
      subst ev
      refine li_f (b := 10) (c := 9 + nI gn) (fun z => v (Or.inr (Or.inr ?_))) (aIf_f (fun z => z rfl) hq)
      rw [show (9 : Int32) = nI 9 from rfl, nI_add] at z
      obtain ⟨j, hj, ej⟩ := Iof (x := a2) (M := 9 + gn) (by omega) (Int32.le_trans (by decide) z.1) z.2
      subst ej
      have := (nI_leI (a := 10) (by decide) (by omega)).mp z.1
      exact ⟨j - 10, by omega, by rw [show j - 10 + 10 = j by omega]⟩
  have refV : ∀ Q : Int32 → aH → Prop, (1 ≤ a1 ∧ a1 ≤ 60) → (a2 = 0 ∨ a2 = 1 ∨ ∃ g, g < gn ∧ a2 = nI (g + 10)) → f_X11_setsAside SM 0 0 hm (fun h22 => f_X11_drownedMany SM 0 h22 (fun r24 h23 => ∃ m51, f_X11_run_51 SM 0 a1 a2 Q m51 r24 0 h23)) → f_X11_run SM 0 a1 a2 hm Q := by
    intro Q p v hq
    refine hr_t p (aIf_f (by decide) ?_)
    by_cases z : (0 : Int32) ≤ a2 ∧ a2 ≤ 1
    · exact li_t (b := 0) (c := 1) z (aIf_t (by decide) hq)
    · refine li_f (b := 0) (c := 1) z (aIf_f (fun z => z rfl) ?_)
      intro v25 ev
      rw [e3] at ev
      subst ev
      obtain ⟨g, hg, e⟩ : ∃ g, g < gn ∧ a2 = nI (g + 10) := by
        rcases v with y | y | y
        · exact absurd (vB a2 (Or.inl y)) z
        · exact absurd (vB a2 (Or.inr y)) z
        · exact y
      exact li_t (b := 10) (c := 9 + nI gn) (by rw [e]; exact vG g hg) (aIf_t (by decide) hq)
  have main : (a2 = 0 ∨ a2 = 1 ∨ ∃ g, g < gn ∧ a2 = nI (g + 10)) → (1 ≤ a1 ∧ a1 ≤ 60) → f_X10_run_51 SC 0 a1 a2 (fun r hc' => f_X11_run SM 0 a1 a2 hm (fun r' hm' => r = r' ∧ Inv LR hc' hm')) hc := by
    intro v p
    obtain ⟨n, n1, n60, en⟩ := hr_n p
    subst en
    unfold f_X10_run_51
    rw [c_0_2 i1, c_0_0 i1, co_25, co_1]
    refine ⟨trivial, trivial, sp_copyFrom hk3 hk (Or.inl (by decide)) i1 i3 (fun h1 f1 r1 => ?_)⟩
    have l1 := LayC_K f1 i1
    rw [c_0_5 l1, c_0_2 l1, co_42, co_25]
    refine ⟨trivial, trivial, sp_pass hk3 l1 r1 i5 (LC_FX hk3 hl (FX_K f1) F1) n60 (fun h2 f2 r2 => ?_)⟩
    have f12 := FX_tr (FX_K f1) f2
    have l2 := LayC_2 f12.1 i1
    have now2 : RepC h2 1 L := RepC_FX hk3 hk (by decide) f12 i3
    have wn := WF_mins ran i5 n
    -- the reference
    have rr : ∀ Q : Int32 → aH → Prop, (∀ hm', MS hm hm' → RepM hm' L → (∀ g, a2 = nI (g + 10) → g < gn → Q (minsL F hn gn L n 7 g) hm') ∧ (a2 = 1 → Q (sm (fun s => if minsL F hn gn L n 1 s = (-2) then 1 else 0) 256) hm') ∧ (a2 = 0 → Q (drnL (minsL F hn gn L n) gn - drnL L gn) hm')) → f_X11_run SM 0 (nI n) a2 hm Q := by
      intro Q hq
      refine refV Q p v ?_
      refine sr_aside0 i2 i4 (fun m1 g1 s1 a1' q1 => ?_)
      have k1 := LayM_A g1 i2
      refine sr_drownedMany k1 q1 i5 ?_
      have F2' : LM m1 F := LM_to (fun c hc i => g1.1 c i (by omega)) (gI_fr g1 0 16) F2
      have key := up_loop (N := n) (P := fun w i => ∀ h', MX m1 h' → RepM h' (minsL F hn gn L i) → f_X11_run_51 SM 0 (nI n) a2 Q w (drnL L gn) (nI i) h') ?_ ?_
      · exact ⟨n + 1, key m1 MX_rf q1⟩
      · intro h' f' r'
        have l' := LayM_2 f'.1 k1
        refine aIf_t (nI_le (Nat.le_refl _) (by omega)) ?_
        have back : ∀ K : aH → Prop, (∀ h3, MS hm h3 → RepM h3 L → K h3) → f_X11_putsBack SM 0 0 h' K := by
          intro K hK
          refine sr_back0 l' i4 (AS_to (fun c i c1 c2 => f'.2.1 c i (by omega)) a1') (fun c i hc => ?_) (fun j hj => ?_) (fun h3 f3 r3 => hK h3 (MS_tr s1 (MS_tr (MS_MX f') (MS_MX f3))) r3)
          · rw [f'.2.1 c i (by omega), g1.1 c i (by omega)]
          · rw [f'.2.2 0 j (by omega), gI_fr g1 0 j]
        refine aIf_i (fun c0 => aIf_i (fun c1 => ?_) (fun c1 => ?_)) (fun c0 => ?_)
        · obtain ⟨g, hg, e⟩ := (v.resolve_left c0).resolve_left c1
          have e10 : a2 - 10 = nI g := by
            rw [e, ← nI_add]
            exact Int32.add_sub_cancel _ _
          rw [e10, m_14 l', mi_10, vp_lt (show g < 8 by omega) (by decide), cl (by omega), (r'.2.2.1 g (by omega)).1]
          refine ⟨trivial, fun v ev => ?_⟩
          subst ev
          exact back _ (fun h3 s3 r3 => (hq h3 s3 r3).1 g e hg)
        · refine sr_brokenMany l' r' ?_
          exact back _ (fun h3 s3 r3 => (hq h3 s3 r3).2.1 (Classical.not_not.mp c1))
        · refine sr_drownedMany l' r' wn ?_
          intro x ex
          subst ex
          exact back _ (fun h3 s3 r3 => (hq h3 s3 r3).2.2 (Classical.not_not.mp c0))
      · intro w i hi n1 h' f' r'
        refine aIf_f (nI_ge hi (by omega)) ?_
        refine sr_minuteOne (LayM_2 f'.1 k1) r' (WF_mins ran i5 i) (LM_MX f' F2') (fun h2 f2 r2 => ?_)
        intro x ex
        rw [nI_1] at ex
        subst ex
        exact n1 h2 (MX_tr f' f2) r2
    have fin : ∀ hm', MS hm hm' → RepM hm' L → Inv LR h2 hm' := fun hm' s r => Inv_step LRok_LR I (CS_FX (Or.inr rfl) f12) s now2 r i5
    refine aIf_i (fun c0 => aIf_i (fun c1 => ?_) (fun c1 => ?_)) (fun c0 => ?_)
    · obtain ⟨g, hg, e⟩ := (v.resolve_left c0).resolve_left c1
      have e10 : a2 - 10 = nI g := by
        rw [e, ← nI_add]
        exact Int32.add_sub_cancel _ _
      rw [c_0_2 l2, co_25, c_25_10 l2, ca_35, e10, vp_lt (show g < 8 by omega) (by decide), cl (by omega), (r2.2.2.1 g (by omega)).1]
      refine ⟨trivial, trivial, fun v ev => ?_⟩
      subst ev
      refine rr _ (fun hm' s r => ⟨fun g2 e2 hg2 => ⟨?_, fin hm' s r⟩, fun z => absurd z c1, fun z => absurd z c0⟩)
      have : g2 = g := by
        have := (nI_eq (by omega) (by omega)).mp (e2.symm.trans e)
        omega
      rw [this]
    · have z1 := Classical.not_not.mp c1
      rw [c_0_2 l2, co_25]
      refine ⟨trivial, sp_brokenTotal hk3 l2 r2 ?_⟩
      refine rr _ (fun hm' s r => ⟨fun g2 e2 hg2 => ?_, fun _ => ⟨rfl, fin hm' s r⟩, fun z => absurd z c0⟩)
      exact absurd ((nI_eq (a := 1) (by decide) (by omega)).mp (z1.symm.trans e2)) (by omega)
    · have z0 := Classical.not_not.mp c0
      refine rr _ (fun hm' s r => ⟨fun g2 e2 hg2 => ?_, fun z => absurd (z0.symm.trans z) (by decide), fun _ => ⟨rfl, fin hm' s r⟩⟩)
      exact absurd ((nI_eq (a := 0) (by decide) (by omega)).mp (z0.symm.trans e2)) (by omega)
  have r25 : ∀ s0 : Int32, ((¬ s0 = 0 → ∃ g, g < gn ∧ a2 = nI (g + 10)) ∧ (s0 = 0 → ¬ ∃ g, g < gn ∧ a2 = nI (g + 10))) → f_X10_run_25 SC 0 a1 a2 (fun r hc' => f_X11_run SM 0 a1 a2 hm (fun r' hm' => r = r' ∧ Inv LR hc' hm')) s0 hc := by
    intro s0 ⟨y1, y0⟩
    unfold f_X10_run_25
    by_cases p : 1 ≤ a1 ∧ a1 ≤ 60
    rotate_left
    · exact wi_f p (aIf_t rfl (refN _ p ⟨rfl, Inv_same I⟩))
    refine wi_t p (aIf_f (by decide) ?_)
    refine aIf_i (fun c => main (Or.inl c) p) (fun c => aIf_i (fun c1 => main (Or.inr (Or.inl c1)) p) (fun c1 => aIf_i (fun c2 => main (Or.inr (Or.inr (y1 c2))) p) (fun c2 => ?_)))
    exact refB _ p (fun z => z.elim c (fun z => z.elim c1 (y0 (Classical.not_not.mp c2)))) ⟨rfl, Inv_same I⟩
  unfold f_X10_run
  refine aIf_i (fun c => r25 0 ⟨fun z => absurd rfl z, fun _ ⟨g, hg, e⟩ => ?_⟩) (fun c => ?_)
  · rw [e] at c
    exact absurd ((nI_ltI (b := 10) (by omega) (by decide)).mp c) (by omega)
  · rw [c_0_0 i1, co_1]
    refine ⟨trivial, sp_hasGroup i3 i5 (fun g hg e => aIf_f (by decide) (r25 1 ⟨fun _ => ⟨g, hg, ?_⟩, fun z => absurd z (by decide)⟩)) (fun no => aIf_t rfl (r25 0 ⟨fun z => absurd rfl z, fun _ ⟨g, hg, e⟩ => no g hg ?_⟩))⟩
    · rw [← nI_add, ← e]
      exact (Int32.sub_add_cancel _ _).symm
    · rw [e, ← nI_add]
      exact Int32.add_sub_cancel _ _
