/-! ===== step: places ===== -/
section PlN
variable {h : aH} {n : Nat} {L : Lw} {hn gn : Nat} {F : LF} {sq wo : Nat → Nat} {Q : Int32 → aH → Prop}
theorem sr_sets {FB : Nat → Bool} (hFB : ∀ S, FB S = true ↔ FNr F L gn sq n S) (hL : LayM h) (hM : RepM h L) (hW : WF L hn gn) (e54 : gI h 0 54 = nI n) (hn10 : n ≤ 10) (hsq : ∀ i, i < n → gA h 34 i = nI (sq i) ∧ sq i < 256) (hw : ∀ i, i < n → gA h 35 i = nI (wo i) ∧ wo i < 256) {AL : Nat} (hAL : AL < 2 ^ 10 ∧ ∀ q, AL.testBit q = true ↔ q < n ∧ frA F L gn (sq q)) {a2 : Int32} (hq : ∀ h', SFT h h' → aIf (¬ a2 = (-1)) (Q (nI (bst FB wo n (2 ^ n))) h') (Q (nI (tmN wo (bst FB wo n (2 ^ n)) n)) h')) : ∃ m, f_X11_places_94 SM 0 (nI n) a2 Q m (nI AL) 0 1 h := by
  have p10 : 2 ^ n ≤ 2 ^ 10 := Nat.pow_le_pow_right (by decide) hn10
  have p10 : 2 ^ n ≤ 1024 := p10
  have pp : 0 < 2 ^ n := Nat.two_pow_pos n
  have b1 : bst FB wo n 1 = 0 := by
    show (if FB 0 = true ∧ btr wo n 0 (bst FB wo n 0) then 0 else bst FB wo n 0) = 0
    split <;> rfl
  have st : ∀ h', SFT h h' → LayM h' ∧ RepM h' L ∧ gI h' 0 54 = nI n ∧ (∀ i, i < n → gA h' 34 i = nI (sq i) ∧ sq i < 256) ∧ ∀ i, i < n → gA h' 35 i = nI (wo i) := fun h' f' => ⟨LayM_2 f'.1 hL, RepM_SFT f' hM, (f'.2.2 _ _ (by decide)).trans e54, fun i hi => ⟨(f'.2.1 _ _ (by decide)).trans (hsq i hi).1, (hsq i hi).2⟩, fun i hi => (f'.2.1 _ _ (by decide)).trans (hw i hi).1⟩
  have tl : ∀ S, tmN wo S n ≤ 255 * n := fun S => tm_leB n (fun i hi => by have := (hw i hi).2; omega)
  have key : ∀ w Z, Z + w = 2 ^ n → ∀ h', SFT h h' → f_X11_places_94 SM 0 (nI n) a2 Q (w + 1) (nI AL) (nI (bst FB wo n Z)) (nI Z) h' := by
    intro w
    induction w with
    | zero =>
      intro Z hZ h' f'
      obtain ⟨s1, s2, s3, s4, s5⟩ := st h' f'
      have e : Z = 2 ^ n := by omega
      subst e
      refine aIf_t (by rw [sh1 (by omega)]; exact nI_le (Nat.le_refl _) (by omega)) ?_
      refine aIf_i (fun c => ?_) (fun c => ?_)
      · exact (hq h' f').1 c
      · have bl := bst_lt (FB := FB) (WO := wo) (n := n) (2 ^ n)
        exact sr_worthOf s1 s3 hn10 s5 (by omega) ((hq h' f').2 c)
    | succ w ih =>
      intro Z hZ h' f'
      obtain ⟨s1, s2, s3, s4, s5⟩ := st h' f'
      have bl := bst_lt (FB := FB) (WO := wo) (n := n) Z
      have t1 := tl Z
      have t2 := tl (bst FB wo n Z)
      have q1 := pc_le Z 12
      have q2 := pc_le (bst FB wo n Z) 12
      refine aIf_f (by rw [sh1 (by omega)]; exact nI_ge (by omega) (by omega)) ?_
      refine sr_worthOf s1 s3 hn10 s5 (by omega) ?_
      refine sr_worthOf s1 s3 hn10 s5 (by omega) ?_
      intro x ex
      rw [← iI_nat, ← iI_nat, iI_sub] at ex
      subst ex
      have keep : ¬ (FB Z = true ∧ btr wo n Z (bst FB wo n Z)) → ∀ h2, SFT h h2 → ∀ y : Int32, y = nI Z + 1 → f_X11_places_94 SM 0 (nI n) a2 Q (w + 1) (nI AL) (nI (bst FB wo n Z)) y h2 := by
        intro z h2 f2 y ey
        rw [nI_1] at ey
        subst ey
        have := ih (Z + 1) (by omega) h2 f2
        have e : bst FB wo n (Z + 1) = bst FB wo n Z := if_neg z
        rw [e] at this
        exact this
      have take : (FB Z = true ∧ btr wo n Z (bst FB wo n Z)) → ∀ h2, SFT h h2 → ∀ y : Int32, y = nI Z + 1 → f_X11_places_94 SM 0 (nI n) a2 Q (w + 1) (nI AL) (nI Z) y h2 := by
        intro z h2 f2 y ey
        rw [nI_1] at ey
        subst ey
        have := ih (Z + 1) (by omega) h2 f2
        have e : bst FB wo n (Z + 1) = Z := if_pos z
        rw [e] at this
        exact this
      have z0 : (0 : Int32) = iI 0 := rfl
      rw [z0, iI_lt (by omega) (by omega) (by omega) (by omega), iI_eq (by omega) (by omega) (by omega) (by omega)]
      refine aIf_i (fun c => keep (fun z => ?_) h' f') (fun c => aIf_i (fun c2 => ?_) (fun c2 => ?_))
      · rcases z.2 with y | y <;> omega
      · refine sr_isFine (F := F) s1 s2 hW s3 hn10 s4 (show Z < 2 ^ n by omega) hAL (fun fn h2 f2 => aIf_t (by decide) (take ⟨(hFB Z).mpr fn, Or.inl (by omega)⟩ h2 (SFT_tr f' f2))) (fun fn h2 f2 => aIf_f (fun y => y rfl) (keep (fun z => fn ((hFB Z).mp z.1)) h2 (SFT_tr f' f2)))
      · have c2 := Classical.not_not.mp c2
        refine sr_sizeOf (by omega) (sr_sizeOf (by omega) ?_)
        refine aIf_i (fun c3 => keep (fun z => ?_) h' f') (fun c3 => ?_)
        · have := (nI_leI (by omega) (by omega)).mp c3
          rcases z.2 with y | y <;> omega
        · have c3 : ¬ pcN (bst FB wo n Z) 12 ≤ pcN Z 12 := fun z => c3 ((nI_leI (by omega) (by omega)).mpr z)
          refine sr_isFine (F := F) s1 s2 hW s3 hn10 s4 (show Z < 2 ^ n by omega) hAL (fun fn h2 f2 => aIf_t (by decide) (take ⟨(hFB Z).mpr fn, Or.inr ⟨by omega, by omega⟩⟩ h2 (SFT_tr f' f2))) (fun fn h2 f2 => aIf_f (fun y => y rfl) (keep (fun z => fn ((hFB Z).mp z.1)) h2 (SFT_tr f' f2)))
  have k0 := key (2 ^ n - 1) 1 (by omega) h SFT_rf
  rw [b1] at k0
  exact ⟨_, k0⟩
theorem sr_alone (hL : LayM h) (hM : RepM h L) (hW : WF L hn gn) (hF : LM h F) (hn10 : n ≤ 10) (hsq : ∀ i, i < n → gA h 34 i = nI (sq i) ∧ sq i < 256) {a2 : Int32} (hq : ∀ h' AL, SFM h h' → (AL < 2 ^ 10 ∧ ∀ q, AL.testBit q = true ↔ q < n ∧ frA F L gn (sq q)) → ∃ m, f_X11_places_94 SM 0 (nI n) a2 Q m (nI AL) 0 1 h') : ∃ m, f_X11_places_51 SM 0 (nI n) a2 Q m 0 0 h := by
  have key := up_loop (N := n) (P := fun w i => ∀ h' AL, SFM h h' → (AL < 2 ^ 10 ∧ ∀ q, AL.testBit q = true ↔ q < i ∧ frA F L gn (sq q)) → f_X11_places_51 SM 0 (nI n) a2 Q w (nI AL) (nI i) h') ?_ ?_
  · exact ⟨n + 1, key h 0 SFM_rf ⟨by decide, fun q => ⟨fun z => by rw [Nat.zero_testBit] at z; exact absurd z (by decide), fun z => absurd z.1 (Nat.not_lt_zero _)⟩⟩⟩
  · intro h' AL f' a'
    exact aIf_t (nI_le (Nat.le_refl _) (by omega)) (hq h' AL f' a')
  · intro w i hi n1 h' AL f' a'
    have l' := LayM_2 f'.1 hL
    have A10 : AL < 1024 := a'.1
    obtain ⟨u1, u2⟩ := bits_up (P := fun q => frA F L gn (sq q)) (show i < 10 by omega) a'
    have pi : 2 ^ i < 2 ^ 31 := Nat.pow_lt_pow_right (by decide) (by omega)
    refine aIf_f (nI_ge hi (by omega)) ?_
    rw [m_52 l', mi_34, vp_lt (show i < 40 by omega) (by decide), cl (by omega), f'.2.1 34 i (by decide), (hsq i hi).1]
    refine ⟨trivial, fun v ev => ?_⟩
    subst ev
    refine sr_isFineAlone l' (RepM_SFM f' hM) hW (LM_SFM f' hF) (hsq i hi).2 (fun y h2 f2 => aIf_f (by decide) ?_) (fun y h2 f2 => aIf_t rfl ?_)
    · intro x ex z ez
      rw [sh1 (by omega), nI_or (by omega) pi] at ex
      rw [nI_1] at ez
      subst ex ez
      exact n1 h2 _ (SFM_tr f' f2) (u1 y)
    · intro x ex z ez
      rw [Int32.or_zero] at ex
      rw [nI_1] at ez
      subst ex ez
      exact n1 h2 _ (SFM_tr f' f2) (u2 y)
end PlN
set_option maxHeartbeats 1000000 in
/-- PLACES -/
theorem s_places : st_places (Inv LR) SC SM := by
  intro hc hm a1 a2 hI
  obtain ⟨L, hn, gn, kp, LK, tn, tb, l, d, I⟩ := hI
  obtain ⟨i1, i2, i3, i4, i5, i6, i7, i8, i9, i10⟩ := id I
  obtain ⟨t1, t2, t3, t4⟩ := id i9
  have hk : isLake 1 := Or.inl rfl
  have hl := lay_isLaw i1
  obtain ⟨F, F1, F2⟩ := LR_F i1 i10
  unfold f_X10_places
  by_cases p1 : 1 ≤ a1 ∧ a1 ≤ 10
  rotate_left
  · refine wi_f p1 (aIf_t rfl ?_)
    exact li_f (b := 1) (c := 10) p1 (aIf_t rfl ⟨rfl, Inv_same I⟩)
  refine wi_t p1 (aIf_f (by decide) ?_)
  obtain ⟨n, hn10, en⟩ := Iof (x := a1) (M := 10) (by decide) (Int32.le_trans (by decide) p1.1) p1.2
  subst en
  have n1 : 1 ≤ n := (nI_leI (a := 1) (by decide) (by omega)).mp p1.1
  have p10 : 2 ^ n ≤ 2 ^ 10 := Nat.pow_le_pow_right (by decide) hn10
  have p10 : 2 ^ n ≤ 1024 := p10
  suffices main : (a2 = (-1) ∨ a2 = 1) → f_X10_places_20 SC 0 (nI n) a2 (fun r hc' => f_X11_places SM 0 (nI n) a2 hm (fun r' hm' => r = r' ∧ Inv LR hc' hm')) hc by
    refine aIf_i (fun c => main (Or.inl c)) (fun c => aIf_i (fun c1 => ?_) (fun c1 => main (Or.inr (Classical.not_not.mp c1))))
    refine li_t (b := 1) (c := 10) p1 (aIf_f (by decide) ?_)
    exact aIf_f c (aIf_t c1 ⟨rfl, Inv_same I⟩)
  intro h01
  have pre : ∀ Q : Int32 → aH → Prop, f_X11_places_22 SM 0 (nI n) a2 Q hm → f_X11_places SM 0 (nI n) a2 hm Q := by
    intro Q hq
    refine li_t (b := 1) (c := 10) p1 (aIf_f (by decide) ?_)
    exact aIf_i (fun _ => hq) (fun c => aIf_i (fun c1 => absurd h01 (fun z => z.elim c c1)) (fun _ => hq))
  have pre2 : ∀ Q : Int32 → aH → Prop, aIf (nI (2 * n) ≤ nI tn) (f_X11_takesTwos SM 0 (nI n) hm (fun r42 h41 => aIf (r42 = 0) (∃ m51, f_X11_places_51 SM 0 (nI n) a2 Q m51 0 0 h41) (Q (-2) h41))) (Q (-3) hm) → f_X11_places SM 0 (nI n) a2 hm Q := by
    intro Q hq
    refine pre Q ?_
    intro v ev
    rw [t3] at ev
    subst ev
    rw [n2_mul]
    exact hq
  unfold f_X10_places_20
  rw [c_0_3 i1, co_37, t2, n2_mul]
  refine ⟨trivial, fun v ev => ?_⟩
  subst ev
  refine aIf_i (fun c => ?_) (fun c => pre2 _ (aIf_f c ⟨rfl, Inv_same I⟩))
  rw [c_0_4 i1, co_39]
  refine ⟨trivial, sp_readPairs i1 (fun i hi => (t4 i hi).2.1) hn10 (fun h1 k1 => ?_)⟩
  have l1 := LayC_2 k1.1 i1
  have sqlt : ∀ j, j < n → tb (2 * j) < 256 ∧ tb (2 * j + 1) < 256 := fun j hj => ⟨(t4 _ (by omega)).1, (t4 _ (by omega)).1⟩
  have run : ∀ Q : Int32 → aH → Prop, (∀ g1, ToM hm g1 n n (fun i => tb (2 * i)) (fun i => tb (2 * i + 1)) → twL (fun i => tb (2 * i)) n → Q (-2) g1) → (∀ g1, ToM hm g1 n n (fun i => tb (2 * i)) (fun i => tb (2 * i + 1)) → ¬ twL (fun i => tb (2 * i)) n → ∃ m51, f_X11_places_51 SM 0 (nI n) a2 Q m51 0 0 g1) → f_X11_places SM 0 (nI n) a2 hm Q := fun Q q1 q0 => pre2 Q (aIf_t c (sr_takesTwos i2 (fun i hi => ⟨(t4 i hi).2.2, (t4 i hi).1⟩) hn10 (fun g1 j1 z => aIf_f (by decide) (q1 g1 j1 z)) (fun g1 j1 z => aIf_t rfl (q0 g1 j1 z))))
  have fin : ∀ h2 g1 g2, CS h1 h2 → RepC h2 1 L → ToM hm g1 n n (fun i => tb (2 * i)) (fun i => tb (2 * i + 1)) → MS g1 g2 → RepM g2 L → Inv LR h2 g2 := by
    intro h2 g1 g2 s2 r2 j1 s1 q2
    have T := tape_told i9 k1 j1
    exact Inv_tape LRok_LR I (CT_tr (CT_ToC k1) (CT_CS s2)) (MT_tr (MT_ToM j1) (MT_MS s1)) r2 q2 i5 (Tape_to s2 s1 T)
  have r1 := RepC_ToC hk k1 i3
  rw [c_0_4 l1, co_39]
  refine ⟨trivial, sp_hasTwice (sq := fun i => tb (2 * i)) l1 k1.2.2.2.2.1 (by omega) n1 (fun j hj => ⟨(k1.2.2.2.2.2 j hj).1, (sqlt j hj).1⟩) (fun z => ?_) (fun z => ?_)⟩
  · exact aIf_f (by decide) (run _ (fun g1 j1 _ => ⟨rfl, fin h1 g1 g1 CS_rf r1 j1 MS_rf (RepM_ToM j1 i4)⟩) (fun g1 j1 y => absurd z y))
  refine aIf_t rfl ?_
  rw [c_0_7 l1, co_61, c_0_0 l1, co_1, c_0_5 l1, co_42, c_0_4 l1, co_39]
  refine ⟨trivial, trivial, trivial, trivial, ?_⟩
  obtain ⟨FB, hFB⟩ := cls_B (fun S => FIp F L hn gn (fun i => tb (2 * i)) S n)
  have hFN : ∀ S, FB S = true ↔ FNr F L gn (fun i => tb (2 * i)) n S := fun S => (hFB S).trans (Fine_iff i5 (fun i hi => (sqlt i hi).1) z)
  intro v ev v' ev'
  rw [k1.2.2.2.2.1] at ev
  subst ev
  have em : aMin (nI n) 10 = nI n := if_neg (fun z => absurd ((nI_ltI (a := 10) (by decide) (by omega)).mp z) (by omega))
  rw [em] at ev'
  subst ev'
  refine sp_learn (sq := fun i => tb (2 * i)) l1 r1 i5 (LC_ToC hl k1 F1) (fun i hi => ⟨(k1.2.2.2.2.2 i hi).1, (sqlt i hi).1⟩) hn10 (fun h2 f2 q2 e2 => ?_)
  have l2 := LayC_2 f2.1 l1
  refine sp_table (wo := fun i => tb (2 * i + 1)) hFB l2 q2 hn10 (fun i hi => ⟨(f2.2.1 _ _ (by decide)).trans (k1.2.2.2.2.2 i hi).2, (sqlt i hi).2⟩) e2 (fun h3 f3 t3' => ?_)
  have f23 := PlF_tr f2 f3
  have l3 := LayC_2 f23.1 l1
  have r3 := RepC_PlF f23 r1
  have F0 : FB 0 = true := (hFB 0).mpr ((FI_iff n).mpr (fun i _ hb => by rw [Nat.zero_testBit] at hb; exact absurd hb (by decide)))
  have bl := bst_lt (FB := FB) (WO := fun i => tb (2 * i + 1)) (n := n) (2 ^ n)
  have pp : 0 < 2 ^ n := Nat.two_pow_pos n
  have ref : ∀ Q : Int32 → aH → Prop, (∀ g1 g2, ToM hm g1 n n (fun i => tb (2 * i)) (fun i => tb (2 * i + 1)) → MS g1 g2 → RepM g2 L → aIf (¬ a2 = (-1)) (Q (nI (bst FB (fun i => tb (2 * i + 1)) n (2 ^ n))) g2) (Q (nI (tmN (fun i => tb (2 * i + 1)) (bst FB (fun i => tb (2 * i + 1)) n (2 ^ n)) n)) g2)) → f_X11_places SM 0 (nI n) a2 hm Q := by
    intro Q hq
    refine run Q (fun g1 j1 y => absurd y z) (fun g1 j1 _ => ?_)
    have J2 := LayM_2 j1.1 i2
    have J4 := RepM_ToM j1 i4
    refine sr_alone (sq := fun i => tb (2 * i)) J2 J4 i5 (LM_ToM j1 F2) hn10 (fun i hi => ⟨(j1.2.2.2.2.2 i hi).1, (sqlt i hi).1⟩) (fun g2 AL f2' al => ?_)
    refine sr_sets (F := F) (sq := fun i => tb (2 * i)) (wo := fun i => tb (2 * i + 1)) hFN (LayM_2 f2'.1 J2) (RepM_SFM f2' J4) i5 ((f2'.2.2 _ _ (by decide)).trans j1.2.2.2.2.1) hn10 (fun i hi => ⟨(f2'.2.1 _ _ (by decide)).trans (j1.2.2.2.2.2 i hi).1, (sqlt i hi).1⟩) (fun i hi => ⟨(f2'.2.1 _ _ (by decide)).trans (j1.2.2.2.2.2 i hi).2, (sqlt i hi).2⟩) al (fun g3 f3' => ?_)
    exact hq g1 g3 j1 (MS_tr (MS_SFM f2') (MS_SFT f3')) (RepM_SFT f3' (RepM_SFM f2' J4))
  refine aIf_i (fun c1 => ?_) (fun c1 => ?_)
  · have e2' : a2 = (-1) := h01.resolve_right c1
    rw [c_0_7 l3, co_61]
    refine ⟨trivial, ?_⟩
    unfold f_X7_worthOf
    refine aIf_f (nI_pos (by omega)) ?_
    rw [c_61_0 l3]
    refine ⟨1024, by decide, rfl, fun v ev => ?_⟩
    refine aIf_f (fun y => ?_) ?_
    · rw [ev] at y
      exact absurd ((nI_leI (a := 1024) (by decide) (by omega)).mp y) (by omega)
    · rw [ca_62, vp_lt (show bst FB (fun i => tb (2 * i + 1)) n (2 ^ n) < 1024 by omega) (by decide), cl (by omega), (t3' _ (by omega)).1 (bl.2 F0)]
      refine ⟨trivial, fun v ev => ?_⟩
      subst ev
      exact ref _ (fun g1 g2 j1 s1 q2 => aIf_f (fun y => y e2') ⟨rfl, fin h3 g1 g2 (CS_PlF f23) r3 j1 s1 q2⟩)
  · have e2' := Classical.not_not.mp c1
    exact ref _ (fun g1 g2 j1 s1 q2 => aIf_t (by rw [e2']; decide) ⟨rfl, fin h3 g1 g2 (CS_PlF f23) r3 j1 s1 q2⟩)
