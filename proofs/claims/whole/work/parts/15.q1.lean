/-! ===== steps: square, groupIs, draws ===== -/
abbrev opn (L : Lw) (m : Nat) : Prop := L 1 (L 2 m).toNatClampNeg = nI m
theorem opn_of {L : Lw} {hn gn m : Nat} (hW : WF L hn gn) (hm : m < 12) : ∃ s, s < 256 ∧ L 2 m = nI s ∧ (L 2 m).toNatClampNeg = s ∧ (opn L m ↔ L 1 s = nI m) := by
  obtain ⟨s, hs, es⟩ := hW.2.2.2.2.2.2.1 m hm
  have e : (L 2 m).toNatClampNeg = s := by rw [es, cl (by omega)]
  exact ⟨s, hs, es, e, by unfold opn; rw [e]⟩
section OpenN
variable {h : aH} {l d k : Nat} {L : Lw} {hn gn : Nat} {F : LF} {Q : Int32 → aH → Prop}
theorem sp_isOpenN (hk : isLake k) (hL : LayC h l d) (hR : RepC h k L) (hW : WF L hn gn) {m : Nat} (hm : m < hn) (h1 : opn L m → Q 1 h) (h0 : ¬ opn L m → Q 0 h) : f_X2_isOpen SC k (nI m) h Q := by
  have hhn := hW.1
  obtain ⟨s, hs, es, ec, eo⟩ := opn_of hW (show m < 12 by omega)
  refine sp_isOpen hk hL hR hW (fun m2 s2 hm2 hs2 e1 e2 e3 => ?_) (fun c => h0 (fun z => c m s hm rfl es hs (eo.mp z)))
  have e4 : m = m2 := (nI_eq (by omega) (by omega)).mp e1
  subst e4
  have e5 : s = s2 := (nI_eq (by omega) (by omega)).mp (es.symm.trans e2)
  subst e5
  exact h1 (eo.mpr e3)
theorem sr_isOpenN (hL : LayM h) (hM : RepM h L) (hW : WF L hn gn) {m : Nat} (hm : m < hn) (h1 : opn L m → Q 1 h) (h0 : ¬ opn L m → Q 0 h) : f_X11_isOpen SM 0 (nI m) h Q := by
  have hhn := hW.1
  obtain ⟨s, hs, es, ec, eo⟩ := opn_of hW (show m < 12 by omega)
  refine sr_isOpen hL hM hW (fun m2 s2 hm2 hs2 e1 e2 e3 => ?_) (fun c => h0 (fun z => c m s hm rfl es hs (eo.mp z)))
  have e4 : m = m2 := (nI_eq (by omega) (by omega)).mp e1
  subst e4
  have e5 : s = s2 := (nI_eq (by omega) (by omega)).mp (es.symm.trans e2)
  subst e5
  exact h1 (eo.mpr e3)
/-- the HOLE that draws a GROUP most, of those below n, and how much it draws -/
def strG (F : LF) (L : Lw) (gn g : Nat) : Nat → Int32 × Int32
  | 0 => ((-1), 0)
  | m + 1 => if opn L m then (if pullL F L gn m g ≤ (strG F L gn g m).2 then strG F L gn g m else (nI m, pullL F L gn m g)) else strG F L gn g m
def strL (F : LF) (L : Lw) (hn gn g : Nat) : Int32 := (strG F L gn g hn).1
theorem strG_c {F : LF} {L : Lw} {gn g m : Nat} (h : ¬ opn L m) : strG F L gn g (m + 1) = strG F L gn g m := if_neg h
theorem strG_l {F : LF} {L : Lw} {gn g m : Nat} (h : opn L m) (h2 : pullL F L gn m g ≤ (strG F L gn g m).2) : strG F L gn g (m + 1) = strG F L gn g m := (if_pos h).trans (if_pos h2)
theorem strG_m {F : LF} {L : Lw} {gn g m : Nat} (h : opn L m) (h2 : ¬ pullL F L gn m g ≤ (strG F L gn g m).2) : strG F L gn g (m + 1) = (nI m, pullL F L gn m g) := (if_pos h).trans (if_neg h2)
theorem strG_in {h : aH} {l : Nat} {F : LF} (hF : LC h l F) {L : Lw} {gn g : Nat} : ∀ m, 0 ≤ (strG F L gn g m).2 := by
  intro m
  induction m with
  | zero => exact Int32.le_refl _
  | succ m ih =>
    by_cases c : opn L m
    · by_cases c2 : pullL F L gn m g ≤ (strG F L gn g m).2
      · rw [strG_l c c2]; exact ih
      · rw [strG_m c c2]; exact (LC_in hF (by decide)).1
    · rw [strG_c c]; exact ih
theorem strL_in {F : LF} {L : Lw} {gn g : Nat} : ∀ n, (strG F L gn g n).1 = (-1) ∨ ∃ m, m < n ∧ (strG F L gn g n).1 = nI m ∧ opn L m := by
  intro n
  induction n with
  | zero => exact Or.inl rfl
  | succ n ih =>
    have up : ((strG F L gn g n).1 = (-1) ∨ ∃ m, m < n ∧ (strG F L gn g n).1 = nI m ∧ opn L m) → ((strG F L gn g n).1 = (-1) ∨ ∃ m, m < n + 1 ∧ (strG F L gn g n).1 = nI m ∧ opn L m) := fun z => z.imp id (fun ⟨m, a, b⟩ => ⟨m, by omega, b⟩)
    by_cases c : opn L n
    · by_cases c2 : pullL F L gn n g ≤ (strG F L gn g n).2
      · rw [strG_l c c2]; exact up ih
      · rw [strG_m c c2]; exact Or.inr ⟨n, by omega, rfl, c⟩
    · rw [strG_c c]; exact up ih
theorem sp_strongest (hk : isLake k) (hL : LayC h l d) (hR : RepC h k L) (hW : WF L hn gn) (hF : LC h l F) {g : Nat} (hg : g < gn) (h7 : ¬ L 7 g = (-2)) (hq : ∀ h', SFC h h' → Q (strL F L hn gn g) h') : f_X5_strongest SC 42 k (nI g) h Q := by
  have hhn := hW.1
  have hl := lay_isLaw hL
  have key := up_loop (N := hn) (P := fun n i => ∀ h1, SFC h h1 → f_X5_strongest_8 SC 42 k (nI g) Q n (strG F L gn g i).1 (strG F L gn g i).2 (nI i) h1) ?_ ?_
  · exact ⟨hn + 1, key h SFC_rf⟩
  · intro h1 f1 v ev
    have r1 := RepC_SFC hk f1 hR
    rw [r1.2.2.2.1.trans hW.2.2.1] at ev
    subst ev
    exact aIf_t (nI_le (Nat.le_refl _) (by omega)) (hq h1 f1)
  · intro n i hi n1 h1 f1 v ev
    have r1 := RepC_SFC hk f1 hR
    have l1 := LayC_2 f1.1 hL
    rw [r1.2.2.2.1.trans hW.2.2.1] at ev
    subst ev
    refine aIf_f (nI_ge hi (by omega)) ?_
    rw [← nI_1] at n1
    refine sp_isOpenN hk l1 r1 hW hi (fun c => ?_) (fun c => ?_)
    · refine aIf_f (by decide) ?_
      refine sp_pull hk l1 r1 hW (LC_SFC hl f1 hF) (by omega) hg h7 (fun h2 f2 => ?_)
      refine aIf_i (fun c2 => ?_) (fun c2 => ?_)
      · intro x e
        subst e
        rw [strG_l c c2] at n1
        exact n1 h2 (SFC_tr f1 f2)
      · intro x e
        subst e
        rw [strG_m c c2] at n1
        exact n1 h2 (SFC_tr f1 f2)
    · refine aIf_t rfl (aIf_t (strG_in hF i) ?_)
      intro x e
      subst e
      rw [strG_c c] at n1
      exact n1 h1 f1
theorem sr_drawnTo (hL : LayM h) (hM : RepM h L) (hW : WF L hn gn) (hF : LM h F) {g : Nat} (hg : g < gn) (hq : ∀ h', SFM h h' → Q (if L 7 g = (-2) then (-1) else strL F L hn gn g) h') : f_X11_drawnTo SM 0 (nI g) h Q := by
  have hhn := hW.1
  have hgn := hW.2.1
  unfold f_X11_drawnTo
  rw [m_14 hL, mi_10, vp_lt (show g < 8 by omega) (by decide), cl (by omega), (hM.2.2.1 g (by omega)).1]
  refine ⟨trivial, fun v ev => ?_⟩
  subst ev
  refine aIf_i (fun h7 => ?_) (fun h7 => ?_)
  · rw [if_neg h7] at hq
    have key := up_loop (N := hn) (P := fun n i => ∀ h1, SFM h h1 → f_X11_drawnTo_20 SM 0 (nI g) Q n (strG F L gn g i).1 (strG F L gn g i).2 (nI i) h1) ?_ ?_
    · exact ⟨hn + 1, key h SFM_rf⟩
    · intro h1 f1 v ev
      have r1 := RepM_SFM f1 hM
      rw [r1.2.2.2.1.trans hW.2.2.1] at ev
      subst ev
      exact aIf_t (nI_le (Nat.le_refl _) (by omega)) (hq h1 f1)
    · intro n i hi n1 h1 f1 v ev
      have r1 := RepM_SFM f1 hM
      have l1 := LayM_2 f1.1 hL
      rw [r1.2.2.2.1.trans hW.2.2.1] at ev
      subst ev
      refine aIf_f (nI_ge hi (by omega)) ?_
      rw [← nI_1] at n1
      refine sr_isOpenN l1 r1 hW hi (fun c => ?_) (fun c => ?_)
      · refine aIf_t (by decide) ?_
        refine sr_drawOf l1 r1 hW (LM_SFM f1 hF) (by omega) hg h7 (fun h2 f2 => ?_)
        refine aIf_i (fun c2 => ?_) (fun c2 => ?_)
        · intro x e
          subst e
          rw [strG_m c (Int32.not_le.mpr c2)] at n1
          exact n1 h2 (SFM_tr f1 f2)
        · intro x e
          subst e
          rw [strG_l c (Int32.not_lt.mp c2)] at n1
          exact n1 h2 (SFM_tr f1 f2)
      · refine aIf_f (fun z => z rfl) ?_
        intro x e
        subst e
        rw [strG_c c] at n1
        exact n1 h1 f1
  · have h7 := Classical.not_not.mp h7
    rw [if_pos h7] at hq
    exact hq h SFM_rf
theorem sp_stateOf (hk : isLake k) (hL : LayC h l d) (hR : RepC h k L) {s : Nat} (hs : s < 256) (hq : Q (if L 1 s = (-2) then 1 else if L 1 s = (-1) then 0 else 2) h) : f_X2_stateOf SC k (nI s) h Q := by
  unfold f_X2_stateOf
  refine sp_isBroken hk hL hR hs (fun c => ?_) (fun c => ?_)
  · rw [if_pos c] at hq
    exact aIf_f (by decide) hq
  · rw [if_neg c] at hq
    refine aIf_t rfl ?_
    rw [lk_1 hk hL, li_2 hk, vp_lt hs (by decide), cl (by omega), (hR.1 s hs).2.1]
    refine ⟨trivial, fun v e => ?_⟩
    subst e
    refine aIf_i (fun c2 => ?_) (fun c2 => ?_)
    · rw [if_neg c2] at hq; exact hq
    · rw [if_pos (Classical.not_not.mp c2)] at hq; exact hq
end OpenN
theorem Inv_scr {LR : aH → aH → Prop} (ok : LRok LR) {hc hm hc' hm' : aH} {L : Lw} {hn gn : Nat} {kp : Bool} {LK : Lw} {tn : Nat} {tb : Nat → Nat} {l d : Nat} (I : InvL LR hc hm L hn gn kp LK tn tb l d) (c : SFC hc hc') (m : SFM hm hm') : Inv LR hc' hm' :=
  Inv_step ok I (CS_SFC c) (MS_SFM m) (RepC_SFC (Or.inl rfl) c I.2.2.1) (RepM_SFM m I.2.2.2.1) I.2.2.2.2.1
theorem lies_eq {S : aS} {x : Int32} {N : Nat} (hN : N + 1 ≤ 1000) {h : aH} {Q : Int32 → aH → Prop} (h1 : ∀ m, m < N + 1 → x = nI m → Q 1 h) (h0 : (∀ m, m < N + 1 → ¬ x = nI m) → Q 0 h) : f_X11_lies S x.toInt64 0 (nI N).toInt64 h Q := by
  have e : nI N = nI (N + 1) - 1 := by rw [← nI_1]; exact (Int32.add_sub_cancel _ _).symm
  rw [e]
  exact sr_liesN hN h1 h0
section Steps6
/-- SQUARE -/
theorem s_square : st_square (Inv LR) SC SM := by
  intro hc hm a1 a2 a3 hI
  obtain ⟨L, hn, gn, kp, LK, tn, tb, l, d, I⟩ := hI
  obtain ⟨i1, i2, i3, i4, i5, i6, i7, i8, i9, i10⟩ := id I
  have hk : isLake 1 := Or.inl rfl
  obtain ⟨F, F1, F2⟩ := LR_F i1 i10
  unfold f_X10_square
  refine sp_has (fun m n hm1 hn1 e1 e2 => ?_) (fun c => ?_)
  · subst e1 e2
    have hs : 16 * n + m < 256 := by omega
    refine aIf_t (by decide) ?_
    have rf : ∀ (Q : Int32 → aH → Prop), ((∀ j, j < 6 → a3 = nI j → aIf (a3 = 0) (aIn SM 0 (gR hm 0 6) (nI (16 * n + m)) ∧ ∀ v10 : Int32, v10 = (gA hm (gR hm 0 6) (nI (16 * n + m)).toNatClampNeg) → Q v10 hm) (aIf (a3 = 1) (aIn SM 1 (gR hm 0 7) (nI (16 * n + m)) ∧ ∀ v12 : Int32, v12 = (gA hm (gR hm 0 7) (nI (16 * n + m)).toNatClampNeg) → aIf (v12 = 0) (aIn SM 0 (gR hm 0 8) (nI (16 * n + m)) ∧ ∀ v15 : Int32, v15 = (gA hm (gR hm 0 8) (nI (16 * n + m)).toNatClampNeg) → aIf (v15 = (-1)) (Q 0 hm) (Q 2 hm)) (Q 1 hm)) (aIf (a3 = 2) (f_X11_bears SM 0 (nI (16 * n + m)) hm (fun r18 h17 => Q r18 h17)) (aIf (a3 = 3) (f_X11_carriedOn SM 0 (nI (16 * n + m)) hm (fun r20 h19 => Q r20 h19)) (aIf (a3 = 4) (f_X11_gapsOf SM 0 (nI (16 * n + m)) hm (fun r22 h21 => Q r22 h21)) (f_X11_warmthOf SM 0 (nI (16 * n + m)) hm (fun r24 h23 => Q r24 h23))))))) ∧ ((∀ j, j < 6 → ¬ a3 = nI j) → Q (-1) hm)) → f_X11_square SM 0 (nI m) (nI n) a3 hm Q := by
      intro Q hq
      unfold f_X11_square
      refine sr_isSquare (fun m2 n2 b3 b4 b5 b6 => ?_) (fun z => absurd ⟨vp_in_nI hm1 (by decide), vp_in_nI hn1 (by decide)⟩ z)
      refine aIf_f (by decide) ?_
      show f_X11_lies SM a3.toInt64 0 (nI 5).toInt64 hm _
      refine lies_eq (by decide) (fun j hj e => ?_) (fun z => aIf_f (fun z => z rfl) (hq.2 z))
      refine aIf_t (by decide) ?_
      intro x ex
      rw [sq_at] at ex
      subst ex
      exact hq.1 j hj e
    show aIf (a3 = 0) _ _
    have at_ : (16 : Int32) * nI n + nI m = nI (16 * n + m) := sq_at
    have no : ∀ (j : Nat), (j < 6 → a3 = nI j → False) → j < 6 → ¬ a3 = nI j := fun j z hj e => z hj e
    refine aIf_i (fun c0 => ?_) (fun c0 => aIf_i (fun c1 => ?_) (fun c1 => aIf_i (fun c2 => ?_) (fun c2 => aIf_i (fun c3 => ?_) (fun c3 => aIf_i (fun c4 => ?_) (fun c4 => aIf_i (fun c5 => ?_) (fun c5 => ?_))))))
    · rw [c_0_0 i1, co_1, c_1_0 i1, ca_2, at_, vp_lt hs (by decide), cl (by omega), (i3.1 _ hs).1]
      refine ⟨trivial, trivial, fun v ev => rf _ ⟨fun j hj e => ?_, fun z => absurd c0 (z 0 (by decide))⟩⟩
      subst ev
      refine aIf_t c0 ?_
      rw [m_6 i2, mi_2, vp_lt hs (by decide), cl (by omega), (i4.1 _ hs).1]
      exact ⟨trivial, fun v ev => ⟨ev.symm, Inv_same I⟩⟩
    · rw [c_0_0 i1, co_1, at_]
      refine ⟨trivial, sp_stateOf hk i1 i3 hs ?_⟩
      refine rf _ ⟨fun j hj e => ?_, fun z => absurd c1 (z 1 (by decide))⟩
      refine aIf_f c0 (aIf_t c1 ?_)
      rw [m_7 i2, mi_3, vp_lt hs (by decide), cl (by omega), (i4.1 _ hs).2.1]
      refine ⟨trivial, fun v ev => ?_⟩
      subst ev
      by_cases b : L 1 (16 * n + m) = (-2)
      · rw [if_pos b, if_pos b]
        exact aIf_f (by decide) ⟨rfl, Inv_same I⟩
      · rw [if_neg b, if_neg b]
        refine aIf_t rfl ?_
        rw [m_8 i2, mi_4, vp_lt hs (by decide), (i4.1 _ hs).2.2, if_neg b]
        refine ⟨trivial, fun v ev => ?_⟩
        subst ev
        refine aIf_i (fun b2 => ?_) (fun b2 => ?_)
        · rw [if_pos b2]; exact ⟨rfl, Inv_same I⟩
        · rw [if_neg b2]; exact ⟨rfl, Inv_same I⟩
    · rw [c_0_0 i1, c_0_5 i1, co_1, co_42, at_]
      refine ⟨trivial, trivial, sp_bears hk i1 i3 i5 F1 hs (fun h' f' => ?_)⟩
      refine rf _ ⟨fun j hj e => ?_, fun z => absurd c2 (z 2 (by decide))⟩
      refine aIf_f c0 (aIf_f c1 (aIf_t c2 ?_))
      exact sr_bears i2 i4 i5 F2 hs (fun h2 f2 => ⟨rfl, Inv_scr LRok_LR I f' f2⟩)
    · rw [c_0_0 i1, co_1, at_]
      refine ⟨trivial, sp_carried hk i1 i3 i5 ?_⟩
      refine rf _ ⟨fun j hj e => ?_, fun z => absurd c3 (z 3 (by decide))⟩
      refine aIf_f c0 (aIf_f c1 (aIf_f c2 (aIf_t c3 ?_)))
      exact sr_carriedOn i2 i4 i5 ⟨rfl, Inv_same I⟩
    · rw [c_0_0 i1, co_1, c_1_2 i1, ca_4, at_, vp_lt hs (by decide), cl (by omega), (i3.1 _ hs).2.2.1]
      refine ⟨trivial, trivial, fun v ev => rf _ ⟨fun j hj e => ?_, fun z => absurd c4 (z 4 (by decide))⟩⟩
      subst ev
      refine aIf_f c0 (aIf_f c1 (aIf_f c2 (aIf_f c3 (aIf_t c4 ?_))))
      exact sr_gapsOf i2 i4 hs ⟨rfl, Inv_same I⟩
    · rw [c_0_0 i1, co_1, c_1_3 i1, ca_5, at_, vp_lt hs (by decide), cl (by omega), (i3.1 _ hs).2.2.2]
      refine ⟨trivial, trivial, fun v ev => rf _ ⟨fun j hj e => ?_, fun z => absurd c5 (z 5 (by decide))⟩⟩
      subst ev
      refine aIf_f c0 (aIf_f c1 (aIf_f c2 (aIf_f c3 (aIf_f c4 ?_))))
      exact sr_warmthOf i2 i4 i5 hs ⟨rfl, Inv_same I⟩
    · refine rf _ ⟨fun j hj e => ?_, fun z => ⟨rfl, Inv_same I⟩⟩
      exfalso
      have : j = 0 ∨ j = 1 ∨ j = 2 ∨ j = 3 ∨ j = 4 ∨ j = 5 := by omega
      rcases this with z | z | z | z | z | z <;> subst z
      · exact c0 e
      · exact c1 e
      · exact c2 e
      · exact c3 e
      · exact c4 e
      · exact c5 e
  · refine aIf_f (fun z => z rfl) ?_
    unfold f_X11_square
    refine sr_isSquare (fun m2 n2 b3 b4 b5 b6 => absurd ⟨by rw [b5]; exact vp_in_nI b3 (by decide), by rw [b6]; exact vp_in_nI b4 (by decide)⟩ c) (fun _ => ?_)
    exact aIf_t rfl ⟨rfl, Inv_same I⟩
/-- GROUPIS -/
theorem s_groupIs : st_groupIs (Inv LR) SC SM := by
  intro hc hm a1 a2 hI
  obtain ⟨L, hn, gn, kp, LK, tn, tb, l, d, I⟩ := hI
  obtain ⟨i1, i2, i3, i4, i5, i6, i7, i8, i9, i10⟩ := id I
  have hk : isLake 1 := Or.inl rfl
  have hgn := i5.2.1
  obtain ⟨F, F1, F2⟩ := LR_F i1 i10
  unfold f_X10_groupIs
  rw [c_0_0 i1, co_1]
  refine ⟨trivial, sp_hasGroup i3 i5 (fun g hg e => ?_) (fun c => ?_)⟩
  · subst e
    have eq : ∀ g2, nI g = nI g2 → g2 < gn → g2 = g := fun g2 e hg2 => ((nI_eq (by omega) (by omega)).mp e).symm
    have rf : ∀ Q : Int32 → aH → Prop, aIf (¬ a2 = 0) (aIf (¬ a2 = 1) (aIf (¬ a2 = 2) (Q (-1) hm) (f_X11_drawnTo SM 0 (nI g) hm (fun r8 h7 => Q r8 h7))) (aIn SM 0 (gR hm 0 15) (nI g) ∧ ∀ v10 : Int32, v10 = (gA hm (gR hm 0 15) (nI g).toNatClampNeg) → Q v10 hm)) (aIn SM 0 (gR hm 0 14) (nI g) ∧ ∀ v12 : Int32, v12 = (gA hm (gR hm 0 14) (nI g).toNatClampNeg) → Q v12 hm) → f_X11_groupIs SM 0 (nI g) a2 hm Q := by
      intro Q hq
      unfold f_X11_groupIs
      refine sr_isGroup i4 i5 (fun g2 hg2 e => ?_) (fun c => absurd rfl (c g hg))
      exact aIf_t (by decide) hq
    refine aIf_t (by decide) ?_
    refine aIf_i (fun c0 => ?_) (fun c0 => aIf_i (fun c1 => ?_) (fun c1 => aIf_i (fun c2 => ?_) (fun c2 => ?_)))
    · rw [c_0_0 i1, co_1, c_1_10 i1, ca_11, vp_lt (show g < 8 by omega) (by decide), cl (by omega), (i3.2.2.1 g (by omega)).1]
      refine ⟨trivial, trivial, fun v ev => rf _ ?_⟩
      subst ev
      refine aIf_f (fun z => z c0) ?_
      rw [m_14 i2, mi_10, vp_lt (show g < 8 by omega) (by decide), cl (by omega), (i4.2.2.1 g (by omega)).1]
      exact ⟨trivial, fun v ev => ⟨ev.symm, Inv_same I⟩⟩
    · rw [c_0_0 i1, co_1, c_1_11 i1, ca_12, vp_lt (show g < 8 by omega) (by decide), cl (by omega), (i3.2.2.1 g (by omega)).2]
      refine ⟨trivial, trivial, fun v ev => rf _ ?_⟩
      subst ev
      refine aIf_t c0 (aIf_f (fun z => z c1) ?_)
      rw [m_15 i2, mi_11, vp_lt (show g < 8 by omega) (by decide), cl (by omega), (i4.2.2.1 g (by omega)).2]
      exact ⟨trivial, fun v ev => ⟨ev.symm, Inv_same I⟩⟩
    · rw [c_0_0 i1, co_1]
      refine ⟨trivial, sp_isAfloat hk i1 i3 i5 (fun g2 s hg2 hs e e7 _ => ?_) (fun c => ?_)⟩
      · have := eq g2 e hg2
        subst this
        have h7 : ¬ L 7 g2 = (-2) := by rw [e7]; exact nI_neg2 (by omega)
        refine aIf_f (by decide) ?_
        rw [c_0_5 i1, c_0_0 i1, co_42, co_1]
        refine ⟨trivial, trivial, sp_strongest hk i1 i3 i5 F1 hg h7 (fun h' f' => rf _ ?_)⟩
        refine aIf_t c0 (aIf_t c1 (aIf_f (fun z => z c2) ?_))
        refine sr_drawnTo i2 i4 i5 F2 hg (fun h2 f2 => ?_)
        rw [if_neg h7]
        exact ⟨rfl, Inv_scr LRok_LR I f' f2⟩
      · refine aIf_t rfl (rf _ ?_)
        refine aIf_t c0 (aIf_t c1 (aIf_f (fun z => z c2) ?_))
        refine sr_drawnTo i2 i4 i5 F2 hg (fun h2 f2 => ?_)
        rw [if_pos (c g hg rfl)]
        exact ⟨rfl, Inv_scr LRok_LR I SFC_rf f2⟩
    · exact rf _ (aIf_t c0 (aIf_t c1 (aIf_t c2 ⟨rfl, Inv_same I⟩)))
  · refine aIf_f (fun z => z rfl) ?_
    unfold f_X11_groupIs
    refine sr_isGroup i4 i5 (fun g2 hg2 e => absurd e (c g2 hg2)) (fun _ => ?_)
    exact aIf_f (fun z => z rfl) ⟨rfl, Inv_same I⟩
/-- DRAWS -/
theorem s_draws : st_draws (Inv LR) SC SM := by
  intro hc hm a1 a2 hI
  obtain ⟨L, hn, gn, kp, LK, tn, tb, l, d, I⟩ := hI
  obtain ⟨i1, i2, i3, i4, i5, i6, i7, i8, i9, i10⟩ := id I
  have hk : isLake 1 := Or.inl rfl
  have hgn := i5.2.1
  have hhn := i5.1
  obtain ⟨F, F1, F2⟩ := LR_F i1 i10
  unfold f_X10_draws
  rw [c_0_0 i1, co_1]
  refine ⟨trivial, sp_isOpen hk i1 i3 i5 (fun m s hm1 hs e es e1 => ?_) (fun c => ?_)⟩
  · subst e
    refine aIf_f (by decide) ?_
    rw [c_0_0 i1, co_1]
    have o1 : ∀ Q : Int32 → aH → Prop, f_X11_isGroup SM 0 a2 hm (fun r5 h4 => aIf (r5 = 0) (Q (-1) h4) (aIn SM 0 (gR h4 0 14) a2 ∧ ∀ v8 : Int32, v8 = (gA h4 (gR h4 0 14) (a2).toNatClampNeg) → aIf (v8 = (-2)) (Q (-1) h4) (f_X11_drawOf SM 0 (nI m) a2 h4 (fun r11 h10 => Q r11 h10)))) → f_X11_draws SM 0 (nI m) a2 hm Q := by
      intro Q hq
      unfold f_X11_draws
      refine sr_isOpen i2 i4 i5 (fun m2 s2 _ _ _ _ _ => aIf_f (by decide) hq) (fun z => absurd e1 (z m s hm1 rfl es hs))
    refine ⟨trivial, sp_isAfloat hk i1 i3 i5 (fun g t hg ht e e7 _ => ?_) (fun c => ?_)⟩
    · subst e
      have h7 : ¬ L 7 g = (-2) := by rw [e7]; exact nI_neg2 (by omega)
      refine aIf_f (by decide) ?_
      rw [c_0_5 i1, c_0_0 i1, co_42, co_1]
      refine ⟨trivial, trivial, sp_pull hk i1 i3 i5 F1 (by omega) hg h7 (fun h' f' => o1 _ ?_)⟩
      refine sr_isGroup i4 i5 (fun g2 hg2 e => ?_) (fun c => absurd rfl (c g hg))
      refine aIf_f (by decide) ?_
      rw [m_14 i2, mi_10, vp_lt (show g < 8 by omega) (by decide), cl (by omega), (i4.2.2.1 g (by omega)).1]
      refine ⟨trivial, fun v ev => ?_⟩
      subst ev
      refine aIf_f h7 ?_
      exact sr_drawOf i2 i4 i5 F2 (by omega) hg h7 (fun h2 f2 => ⟨rfl, Inv_scr LRok_LR I f' f2⟩)
    · refine aIf_t rfl (o1 _ ?_)
      refine sr_isGroup i4 i5 (fun g2 hg2 e => ?_) (fun c => aIf_t rfl ⟨rfl, Inv_same I⟩)
      refine aIf_f (by decide) ?_
      subst e
      rw [m_14 i2, mi_10, vp_lt (show g2 < 8 by omega) (by decide), cl (by omega), (i4.2.2.1 g2 (by omega)).1]
      refine ⟨trivial, fun v ev => ?_⟩
      subst ev
      exact aIf_t (c g2 hg2 rfl) ⟨rfl, Inv_same I⟩
  · refine aIf_t rfl ?_
    unfold f_X11_draws
    refine sr_isOpen i2 i4 i5 (fun m s hm1 hs e es e1 => absurd e1 (c m s hm1 e es hs)) (fun _ => ?_)
    exact aIf_t rfl ⟨rfl, Inv_same I⟩
end Steps6
