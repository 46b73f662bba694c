/-! ===== step: undo ===== -/
section Steps5
variable {LR : aH → aH → Prop}
set_option maxHeartbeats 1000000 in
theorem sr_undo40 {h : aH} (hL : LayM h) {Q : Int32 → aH → Prop} (hq : ∀ h', FrA (fun c => (5 ≤ c ∧ c ≤ 9) ∨ c = 11) h h' → (∀ c, 5 ≤ c → c ≤ 9 → ∀ j, j < 12 → gA h' c j = gA h (c + 36) j) → (∀ j, j < 8 → gA h' 11 j = gA h 46 j) → Q 1 h') : ∃ m, f_X11_undo_40 SM 0 Q m 0 h := by
  have key := up_loop (N := 12) (P := fun n i => ∀ h2 : aH, FrA (fun c => 5 ≤ c ∧ c ≤ 9) h h2 → (∀ c, 5 ≤ c → c ≤ 9 → ∀ j, j < i → gA h2 c j = gA h (c + 36) j) → f_X11_undo_40 SM 0 Q n (nI i) h2) ?_ ?_
  · exact ⟨13, key h ⟨fun _ _ _ => rfl, rfl⟩ (fun c _ _ j hj => absurd hj (Nat.not_lt_zero _))⟩
  · intro h2 f2 v2
    refine aIf_t (by decide) ?_
    have key2 := up_loop (N := 8) (P := fun n i => ∀ h3 : aH, FrA (fun c => c = 11) h2 h3 → (∀ j, j < i → gA h3 11 j = gA h 46 j) → f_X11_undo_114 SM 0 Q n (nI i) h3) ?_ ?_
    · exact ⟨9, key2 h2 ⟨fun _ _ _ => rfl, rfl⟩ (fun j hj => absurd hj (Nat.not_lt_zero _))⟩
    · intro h3 f3 v3
      refine aIf_t (by decide) ?_
      exact hq h3 ⟨fun c j hc => by rw [f3.1 c j (by omega)]; exact f2.1 c j (by omega), f3.2.trans f2.2⟩ (fun c c1 c2 j hj => by rw [f3.1 c j (by omega)]; exact v2 c c1 c2 j hj) v3
    · intro n i hi n1 h3 f3 v3
      refine aIf_f (nI_ge (a := i) (b := 8) hi (by decide)) ?_
      have L3 : LayM h3 := LayM_A f3 (LayM_A f2 hL)
      rw [m_69 L3, mi_46, vp_lt hi (by decide), cl (by omega), m_15 L3, mi_11, vp_lt hi (by decide)]
      refine ⟨trivial, fun v ev => ⟨trivial, fun h4 e4 x ex => ?_⟩⟩
      subst ex
      rw [nI_1]
      have ev2 : v = gA h 46 i := by rw [ev, f3.1 46 i (by decide)]; exact f2.1 46 i (by omega)
      refine n1 h4 ⟨fun c j hc => by rw [e4, gA_o hc]; exact f3.1 c j hc, by rw [e4]; exact f3.2⟩ (fun j hj => ?_)
      by_cases c : j = i
      · subst c; rw [e4, gA_e, ev2]
      · rw [e4, gA_p c]; exact v3 j (by omega)
  · intro n i hi n1 h2 f2 v2
    refine aIf_f (nI_ge (a := i) (b := 12) hi (by decide)) ?_
    have L2 : LayM h2 := LayM_A f2 hL
    rw [m_64 L2, mi_41, vp_lt hi (by decide), cl (by omega), m_9 L2, mi_5, vp_lt hi (by decide)]
    refine ⟨trivial, fun v1 x1 => ⟨trivial, fun h3 e3 => ?_⟩⟩
    have L3 : LayM h3 := LayM_2 (by rw [e3]; rfl) L2
    rw [m_65 L3, mi_42, vp_lt hi (by decide), m_10 L3, mi_6, vp_lt hi (by decide)]
    refine ⟨trivial, fun v2' x2 => ⟨trivial, fun h4 e4 => ?_⟩⟩
    have L4 : LayM h4 := LayM_2 (by rw [e4]; rfl) L3
    rw [m_66 L4, mi_43, vp_lt hi (by decide), m_11 L4, mi_7, vp_lt hi (by decide)]
    refine ⟨trivial, fun v3 x3 => ⟨trivial, fun h5 e5 => ?_⟩⟩
    have L5 : LayM h5 := LayM_2 (by rw [e5]; rfl) L4
    rw [m_67 L5, mi_44, vp_lt hi (by decide), m_12 L5, mi_8, vp_lt hi (by decide)]
    refine ⟨trivial, fun v4 x4 => ⟨trivial, fun h6 e6 => ?_⟩⟩
    have L6 : LayM h6 := LayM_2 (by rw [e6]; rfl) L5
    rw [m_68 L6, mi_45, vp_lt hi (by decide), m_13 L6, mi_9, vp_lt hi (by decide)]
    refine ⟨trivial, fun v5 x5 => ⟨trivial, fun h7 e7 x ex => ?_⟩⟩
    subst ex
    rw [nI_1]
    have o : ∀ c j, ¬ (5 ≤ c ∧ c ≤ 9) → gA h7 c j = gA h c j := fun c j hc => by
      rw [e7, gA_o (by omega), e6, gA_o (by omega), e5, gA_o (by omega), e4, gA_o (by omega), e3, gA_o (by omega)]
      exact f2.1 c j hc
    have b1 : v1 = gA h 41 i := x1.trans (f2.1 41 i (by omega))
    have b2 : v2' = gA h 42 i := by rw [x2, e3, gA_o (by decide)]; exact f2.1 42 i (by omega)
    have b3 : v3 = gA h 43 i := by rw [x3, e4, gA_o (by decide), e3, gA_o (by decide)]; exact f2.1 43 i (by omega)
    have b4 : v4 = gA h 44 i := by rw [x4, e5, gA_o (by decide), e4, gA_o (by decide), e3, gA_o (by decide)]; exact f2.1 44 i (by omega)
    have b5 : v5 = gA h 45 i := by rw [x5, e6, gA_o (by decide), e5, gA_o (by decide), e4, gA_o (by decide), e3, gA_o (by decide)]; exact f2.1 45 i (by omega)
    refine n1 h7 ⟨o, by rw [e7, e6, e5, e4, e3]; exact f2.2⟩ (fun c c1 c2 j hj => ?_)
    rcases (show c = 5 ∨ c = 6 ∨ c = 7 ∨ c = 8 ∨ c = 9 by omega) with rfl | rfl | rfl | rfl | rfl
    · rw [e7, gA_o (by decide), e6, gA_o (by decide), e5, gA_o (by decide), e4, gA_o (by decide), e3]
      by_cases y : j = i
      · subst y; rw [gA_e]; exact b1
      · rw [gA_p y]; exact v2 5 (by decide) (by decide) j (by omega)
    · rw [e7, gA_o (by decide), e6, gA_o (by decide), e5, gA_o (by decide), e4]
      by_cases y : j = i
      · subst y; rw [gA_e]; exact b2
      · rw [gA_p y, e3, gA_o (by decide)]; exact v2 6 (by decide) (by decide) j (by omega)
    · rw [e7, gA_o (by decide), e6, gA_o (by decide), e5]
      by_cases y : j = i
      · subst y; rw [gA_e]; exact b3
      · rw [gA_p y, e4, gA_o (by decide), e3, gA_o (by decide)]; exact v2 7 (by decide) (by decide) j (by omega)
    · rw [e7, gA_o (by decide), e6]
      by_cases y : j = i
      · subst y; rw [gA_e]; exact b4
      · rw [gA_p y, e5, gA_o (by decide), e4, gA_o (by decide), e3, gA_o (by decide)]; exact v2 8 (by decide) (by decide) j (by omega)
    · rw [e7]
      by_cases y : j = i
      · subst y; rw [gA_e]; exact b5
      · rw [gA_p y, e6, gA_o (by decide), e5, gA_o (by decide), e4, gA_o (by decide), e3, gA_o (by decide)]; exact v2 9 (by decide) (by decide) j (by omega)
/-- UNDO -/
theorem s_undo (ok : LRok LR) : st_undo (Inv LR) SC SM := by
  intro hc hm hI
  obtain ⟨L, hn, gn, kp, LK, tn, tb, l, d, I⟩ := hI
  obtain ⟨i1, i2, i3, i4, i5, i6, i7, i8, i9, i10⟩ := id I
  have hk1 : isLake 1 := Or.inl rfl
  have hk13 : isLake 13 := Or.inr (Or.inl rfl)
  unfold f_X10_undo
  rw [i6]
  intro v ev
  subst ev
  cases hkp : kp with
  | false =>
    refine aIf_f (by decide) ?_
    unfold f_X11_undo
    rw [i7, hkp]
    intro v ev
    subst ev
    exact aIf_f (by decide) ⟨rfl, Inv_same I⟩
  | true =>
    obtain ⟨k1, k2, hk', gk', k3⟩ := i8 hkp
    refine aIf_t (by decide) ?_
    rw [c_0_0 i1, co_1, c_0_1 i1, co_13]
    refine ⟨trivial, trivial, sp_copyFrom hk1 hk13 (by decide) i1 k1 (fun h1 f1 r1 => ?_)⟩
    unfold f_X11_undo
    rw [i7, hkp]
    intro v ev
    subst ev
    refine aIf_t (by decide) ?_
    refine sr_putsBack (q := 1) (by decide) i2 (fun i hi => by rw [show 256 * 1 + i = 256 + i by omega, (k2.1 i hi).2.1]; exact aB_br) (fun m1 p1 p2 p3 p4 p5 => ?_)
    intro w1 y1 m2 g2 w2 y2 m3 g3 w3 y3 m4 g4
    have M4 : LayM m4 := LayM_2 (by rw [g4, g3, g2]; exact p5) i2
    refine sr_undo40 M4 (fun m5 f5 t1 t2 => ⟨rfl, ?_⟩)
    have a4 : ∀ c j, gA m4 c j = gA m1 c j := fun c j => by rw [g4, g3, g2]; rfl
    have x1 : w1 = LK 9 0 := by rw [y1, p4, if_neg (by decide)]; exact k2.2.2.2.1
    have x2 : w2 = LK 9 1 := by rw [y2, g2, gI_sI, if_neg (by decide), p4, if_neg (by decide)]; exact k2.2.2.2.2.1
    have x3 : w3 = LK 9 3 := by rw [y3, g3, gI_sI, if_neg (by decide), g2, gI_sI, if_neg (by decide), p4, if_neg (by decide)]; exact k2.2.2.2.2.2.2
    have gi : ∀ j, j ≠ 2 → j ≠ 3 → j ≠ 5 → gI m5 0 j = gI m1 0 j := fun j h1 h2 h3 => by
      rw [gI_fr f5, g4, gI_sI, if_neg (fun z => h3 z.2), g3, gI_sI, if_neg (fun z => h2 z.2), g2, gI_sI, if_neg (fun z => h1 z.2)]
    have o5 : ∀ c j, ¬ (2 ≤ c ∧ c ≤ 11) → gA m5 c j = gA hm c j := fun c j hc => by
      rw [f5.1 c j (by omega), a4, p1 c j (by omega)]
    have n4 : ∀ c j, 12 ≤ c → gA m4 c j = gA hm c j := fun c j hc => by rw [a4, p1 c j (by omega)]
    refine Inv_step ok (L' := LK) (hn' := hk') (gn' := gk') I (CS_K (Or.inl rfl) f1) ⟨?_, fun c hc' i => o5 c i (by omega), fun c hc' i _ => o5 c i (by omega), fun i _ => o5 32 i (by omega), fun i _ => o5 33 i (by omega), fun j hj => ?_⟩ r1 ⟨fun i hi => ?_, fun i hi => ?_, fun i hi => ?_, ?_, ?_, ?_, ?_⟩ k3
    · rw [show m5.2.2 = m4.2.2 by rw [f5.2], g4, g3, g2]; exact p5
    · rw [gi j (by omega) (by omega) (by omega), p4, if_neg (by omega)]
    · have q : ∀ c, 2 ≤ c → c ≤ 4 → gA m5 c i = gA hm (c + 27) (256 + i) := fun c h1 h2 => by
        rw [f5.1 c i (by omega), a4, p2 c h1 h2 i hi, show 256 * 1 + i = 256 + i by omega]
      rw [q 2 (by decide) (by decide), q 3 (by decide) (by decide), q 4 (by decide) (by decide)]
      exact k2.1 i hi
    · rw [t1 5 (by decide) (by decide) i hi, t1 6 (by decide) (by decide) i hi, t1 7 (by decide) (by decide) i hi, t1 8 (by decide) (by decide) i hi, t1 9 (by decide) (by decide) i hi, n4 _ _ (by decide), n4 _ _ (by decide), n4 _ _ (by decide), n4 _ _ (by decide), n4 _ _ (by decide)]
      exact k2.2.1 i hi
    · rw [t2 i hi, n4 46 i (by decide), f5.1 10 i (by decide), a4, p3 i hi, show 8 * 1 + i = 8 + i by omega]
      exact k2.2.2.1 i hi
    · rw [gI_fr f5, g4, gI_sI, if_neg (by decide), g3, gI_sI, if_neg (by decide), g2, gI_sI, if_pos ⟨rfl, rfl⟩]; exact x1
    · rw [gI_fr f5, g4, gI_sI, if_neg (by decide), g3, gI_sI, if_pos ⟨rfl, rfl⟩]; exact x2
    · rw [gi 4 (by decide) (by decide) (by decide), p4, if_pos ⟨rfl, rfl⟩]; exact k2.2.2.2.2.2.1
    · rw [gI_fr f5, g4, gI_sI, if_pos ⟨rfl, rfl⟩]; exact x3
end Steps5
