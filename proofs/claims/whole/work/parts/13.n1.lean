/-! ===== steps: keep, undo ===== -/
section Steps4
variable {LR : aH → aH → Prop}
set_option maxHeartbeats 1000000 in
/-- the rows of the HOLES and the weights, to their kept rows -/
theorem sr_keep36 {h : aH} (hL : LayM h) {Q : Int32 → aH → Prop} (hq : ∀ h', FrA (fun c => 41 ≤ c ∧ c ≤ 46) h h' → (∀ c, 41 ≤ c → c ≤ 45 → ∀ j, j < 12 → gA h' c j = gA h (c - 36) j) → (∀ j, j < 8 → gA h' 46 j = gA h 11 j) → f_X11_brokenMany SM 0 h' Q) : ∃ m, f_X11_keep_36 SM 0 Q m 0 h := by
  have key := up_loop (N := 12) (P := fun n i => ∀ h2 : aH, FrA (fun c => 41 ≤ c ∧ c ≤ 45) h h2 → (∀ c, 41 ≤ c → c ≤ 45 → ∀ j, j < i → gA h2 c j = gA h (c - 36) j) → f_X11_keep_36 SM 0 Q n (nI i) h2) ?_ ?_
  · exact ⟨13, key h ⟨fun _ _ _ => rfl, rfl⟩ (fun c _ _ j hj => absurd hj (Nat.not_lt_zero _))⟩
  · intro h2 f2 v2
    refine aIf_t (by decide) ?_
    have key2 := up_loop (N := 8) (P := fun n i => ∀ h3 : aH, FrA (fun c => c = 46) h2 h3 → (∀ j, j < i → gA h3 46 j = gA h 11 j) → f_X11_keep_110 SM 0 Q n (nI i) h3) ?_ ?_
    · exact ⟨9, key2 h2 ⟨fun _ _ _ => rfl, rfl⟩ (fun j hj => absurd hj (Nat.not_lt_zero _))⟩
    · intro h3 f3 v3
      refine aIf_t (by decide) ?_
      exact hq h3 ⟨fun c j hc => by rw [f3.1 c j (by omega)]; exact f2.1 c j (by omega), f3.2.trans f2.2⟩ (fun c c1 c2 j hj => by rw [f3.1 c j (by omega)]; exact v2 c c1 c2 j hj) v3
    · intro n i hi n1 h3 f3 v3
      refine aIf_f (nI_ge (a := i) (b := 8) hi (by decide)) ?_
      have L3 : LayM h3 := LayM_A f3 (LayM_A f2 hL)
      rw [m_15 L3, mi_11, vp_lt hi (by decide), cl (by omega), m_69 L3, mi_46, vp_lt hi (by decide)]
      refine ⟨trivial, fun v ev => ⟨trivial, fun h4 e4 x ex => ?_⟩⟩
      subst ex
      rw [nI_1]
      have ev2 : v = gA h 11 i := by rw [ev, f3.1 11 i (by decide)]; exact f2.1 11 i (by omega)
      refine n1 h4 ⟨fun c j hc => by rw [e4, gA_o hc]; exact f3.1 c j hc, by rw [e4]; exact f3.2⟩ (fun j hj => ?_)
      by_cases c : j = i
      · subst c; rw [e4, gA_e, ev2]
      · rw [e4, gA_p c]; exact v3 j (by omega)
  · intro n i hi n1 h2 f2 v2
    refine aIf_f (nI_ge (a := i) (b := 12) hi (by decide)) ?_
    have L2 : LayM h2 := LayM_A f2 hL
    rw [m_9 L2, mi_5, vp_lt hi (by decide), cl (by omega), m_64 L2, mi_41, vp_lt hi (by decide)]
    refine ⟨trivial, fun v1 x1 => ⟨trivial, fun h3 e3 => ?_⟩⟩
    have L3 : LayM h3 := LayM_2 (by rw [e3]; rfl) L2
    rw [m_10 L3, mi_6, vp_lt hi (by decide), m_65 L3, mi_42, vp_lt hi (by decide)]
    refine ⟨trivial, fun v2' x2 => ⟨trivial, fun h4 e4 => ?_⟩⟩
    have L4 : LayM h4 := LayM_2 (by rw [e4]; rfl) L3
    rw [m_11 L4, mi_7, vp_lt hi (by decide), m_66 L4, mi_43, vp_lt hi (by decide)]
    refine ⟨trivial, fun v3 x3 => ⟨trivial, fun h5 e5 => ?_⟩⟩
    have L5 : LayM h5 := LayM_2 (by rw [e5]; rfl) L4
    rw [m_12 L5, mi_8, vp_lt hi (by decide), m_67 L5, mi_44, vp_lt hi (by decide)]
    refine ⟨trivial, fun v4 x4 => ⟨trivial, fun h6 e6 => ?_⟩⟩
    have L6 : LayM h6 := LayM_2 (by rw [e6]; rfl) L5
    rw [m_13 L6, mi_9, vp_lt hi (by decide), m_68 L6, mi_45, vp_lt hi (by decide)]
    refine ⟨trivial, fun v5 x5 => ⟨trivial, fun h7 e7 x ex => ?_⟩⟩
    subst ex
    rw [nI_1]
    have o : ∀ c j, ¬ (41 ≤ c ∧ c ≤ 45) → gA h7 c j = gA h c j := fun c j hc => by
      rw [e7, gA_o (by omega), e6, gA_o (by omega), e5, gA_o (by omega), e4, gA_o (by omega), e3, gA_o (by omega)]
      exact f2.1 c j hc
    have b1 : v1 = gA h 5 i := x1.trans (f2.1 5 i (by omega))
    have b2 : v2' = gA h 6 i := by rw [x2, e3, gA_o (by decide)]; exact f2.1 6 i (by omega)
    have b3 : v3 = gA h 7 i := by rw [x3, e4, gA_o (by decide), e3, gA_o (by decide)]; exact f2.1 7 i (by omega)
    have b4 : v4 = gA h 8 i := by rw [x4, e5, gA_o (by decide), e4, gA_o (by decide), e3, gA_o (by decide)]; exact f2.1 8 i (by omega)
    have b5 : v5 = gA h 9 i := by rw [x5, e6, gA_o (by decide), e5, gA_o (by decide), e4, gA_o (by decide), e3, gA_o (by decide)]; exact f2.1 9 i (by omega)
    refine n1 h7 ⟨o, by rw [e7, e6, e5, e4, e3]; exact f2.2⟩ (fun c c1 c2 j hj => ?_)
    rcases (show c = 41 ∨ c = 42 ∨ c = 43 ∨ c = 44 ∨ c = 45 by omega) with rfl | rfl | rfl | rfl | rfl
    · rw [e7, gA_o (by decide), e6, gA_o (by decide), e5, gA_o (by decide), e4, gA_o (by decide), e3]
      by_cases y : j = i
      · subst y; rw [gA_e]; exact b1
      · rw [gA_p y]; exact v2 41 (by decide) (by decide) j (by omega)
    · rw [e7, gA_o (by decide), e6, gA_o (by decide), e5, gA_o (by decide), e4]
      by_cases y : j = i
      · subst y; rw [gA_e]; exact b2
      · rw [gA_p y, e3, gA_o (by decide)]; exact v2 42 (by decide) (by decide) j (by omega)
    · rw [e7, gA_o (by decide), e6, gA_o (by decide), e5]
      by_cases y : j = i
      · subst y; rw [gA_e]; exact b3
      · rw [gA_p y, e4, gA_o (by decide), e3, gA_o (by decide)]; exact v2 43 (by decide) (by decide) j (by omega)
    · rw [e7, gA_o (by decide), e6]
      by_cases y : j = i
      · subst y; rw [gA_e]; exact b4
      · rw [gA_p y, e5, gA_o (by decide), e4, gA_o (by decide), e3, gA_o (by decide)]; exact v2 44 (by decide) (by decide) j (by omega)
    · rw [e7]
      by_cases y : j = i
      · subst y; rw [gA_e]; exact b5
      · rw [gA_p y, e6, gA_o (by decide), e5, gA_o (by decide), e4, gA_o (by decide), e3, gA_o (by decide)]; exact v2 45 (by decide) (by decide) j (by omega)
/-- KEEP -/
theorem s_keep (ok : LRok LR) : st_keep (Inv LR) SC SM := by
  intro hc hm hI
  obtain ⟨L, hn, gn, kp, LK, tn, tb, l, d, I⟩ := hI
  obtain ⟨i1, i2, i3, i4, i5, i6, i7, i8, i9, i10⟩ := id I
  have hk1 : isLake 1 := Or.inl rfl
  have hk13 : isLake 13 := Or.inr (Or.inl rfl)
  unfold f_X10_keep
  rw [c_0_1 i1, co_13, c_0_0 i1, co_1]
  refine ⟨trivial, trivial, sp_copyFrom hk13 hk1 (by decide) i1 i3 (fun h1 f1 r1 h2 e2 => ?_)⟩
  have L1 : LayC h1 l d := LayC_K f1 i1
  have L2 : LayC h2 l d := LayC_2 (by rw [e2]; rfl) L1
  have a2 : ∀ c j, gA h2 c j = gA h1 c j := fun c j => by rw [e2]; rfl
  have b2 : ∀ c j, ¬ (c = 0 ∧ j = 10) → gI h2 c j = gI h1 c j := fun c j hc => by rw [e2, gI_sI, if_neg hc]
  have mv : ∀ k L', isLake k → RepC h1 k L' → RepC h2 k L' := fun k L' hk r => by
    have k0 : k ≠ 0 := by rcases hk with rfl | rfl | rfl <;> decide
    refine ⟨fun i hi => by rw [a2, a2, a2, a2]; exact r.1 i hi, fun i hi => by rw [a2, a2, a2, a2, a2]; exact r.2.1 i hi, fun i hi => by rw [a2, a2]; exact r.2.2.1 i hi, ?_⟩
    rw [b2 _ _ (fun z => k0 z.1), b2 _ _ (fun z => k0 z.1), b2 _ _ (fun z => k0 z.1), b2 _ _ (fun z => k0 z.1)]
    exact r.2.2.2
  have R1 : RepC h2 1 L := mv 1 L hk1 (RepC_K f1 (by decide) i3)
  have R13 : RepC h2 13 L := mv 13 L hk13 r1
  rw [c_0_0 L2, co_1]
  refine ⟨trivial, sp_brokenTotal hk1 L2 R1 ?_⟩
  -- the reference
  unfold f_X11_keep
  intro m1 g1
  have M1 : LayM m1 := LayM_2 (by rw [g1]; rfl) i2
  have P1 : RepM m1 L := by
    refine ⟨fun i hi => ?_, fun i hi => ?_, fun i hi => ?_, ?_⟩
    · rw [g1]; exact i4.1 i hi
    · rw [g1]; exact i4.2.1 i hi
    · rw [g1]; exact i4.2.2.1 i hi
    · rw [g1]; exact i4.2.2.2
  refine sr_setsAside (q := 1) (by decide) M1 P1 (fun m2 f2 s1 s2 s3 => ?_)
  have gi2 : ∀ j, gI m2 0 j = gI m1 0 j := fun j => gI_fr f2 0 j
  intro w1 y1 m3 g3 w2 y2 m4 g4 w3 y3 m5 g5
  have M5 : LayM m5 := LayM_2 (by rw [g5, g4, g3]; show m2.2.2 = m1.2.2; rw [f2.2]) M1
  refine sr_keep36 M5 (fun m6 f6 t1 t2 => ?_)
  have a5 : ∀ c j, gA m5 c j = gA m2 c j := fun c j => by rw [g5, g4, g3]; rfl
  have i61 : w1 = L 9 0 := by rw [y1, gi2, g1]; exact i4.2.2.2.1
  have i62 : w2 = L 9 1 := by rw [y2, g3, gI_sI, if_neg (fun z => absurd z.2 (by decide)), gi2, g1]; exact i4.2.2.2.2.1
  have i63 : w3 = L 9 3 := by rw [y3, g4, gI_sI, if_neg (fun z => absurd z.2 (by decide)), g3, gI_sI, if_neg (fun z => absurd z.2 (by decide)), gi2, g1]; exact i4.2.2.2.2.2.2
  have gi5 : ∀ j, j ≠ 61 → j ≠ 62 → j ≠ 63 → gI m5 0 j = gI m1 0 j := fun j h1 h2 h3 => by
    rw [g5, gI_sI, if_neg (fun z => h3 z.2), g4, gI_sI, if_neg (fun z => h2 z.2), g3, gI_sI, if_neg (fun z => h1 z.2)]
    exact gi2 j
  have gi6 : ∀ j, j ≠ 60 → j ≠ 61 → j ≠ 62 → j ≠ 63 → gI m6 0 j = gI hm 0 j := fun j h0 h1 h2 h3 => by
    rw [gI_fr f6, gi5 j h1 h2 h3, g1, gI_sI, if_neg (fun z => h0 z.2)]
  have o6 : ∀ c j, ¬ (41 ≤ c ∧ c ≤ 46) → ¬ (29 ≤ c ∧ c ≤ 33) → gA m6 c j = gA hm c j := fun c j h1 h2 => by
    rw [f6.1 c j h1, a5, f2.1 c j h2, g1]; rfl
  have M6 : LayM m6 := LayM_A f6 M5
  have P6 : RepM m6 L := by
    refine ⟨fun i hi => ?_, fun i hi => ?_, fun i hi => ?_, ?_⟩
    · rw [o6 _ _ (by omega) (by omega), o6 _ _ (by omega) (by omega), o6 _ _ (by omega) (by omega)]; exact i4.1 i hi
    · rw [o6 _ _ (by omega) (by omega), o6 _ _ (by omega) (by omega), o6 _ _ (by omega) (by omega), o6 _ _ (by omega) (by omega), o6 _ _ (by omega) (by omega)]; exact i4.2.1 i hi
    · rw [o6 _ _ (by omega) (by omega), o6 _ _ (by omega) (by omega)]; exact i4.2.2.1 i hi
    · rw [gi6 _ (by decide) (by decide) (by decide) (by decide), gi6 _ (by decide) (by decide) (by decide) (by decide), gi6 _ (by decide) (by decide) (by decide) (by decide), gi6 _ (by decide) (by decide) (by decide) (by decide)]; exact i4.2.2.2
  refine sr_brokenMany M6 P6 ⟨rfl, L, hn, gn, true, L, tn, tb, l, d, L2, M6, R1, P6, i5, ?_, ?_, fun _ => ⟨R13, ?_, hn, gn, i5⟩, ?_, ?_⟩
  · rw [e2]; rfl
  · rw [gI_fr f6, gi5 60 (by decide) (by decide) (by decide), g1]; rfl
  · have s6 : ∀ c j, 29 ≤ c → c ≤ 33 → gA m6 c j = gA m2 c j := fun c j h1 h2 => by rw [f6.1 c j (by omega), a5]
    have n1 : ∀ c j, ¬ (29 ≤ c ∧ c ≤ 33) → gA m5 c j = gA hm c j := fun c j h => by rw [a5, f2.1 c j h, g1]; rfl
    refine ⟨fun i hi => ?_, fun i hi => ?_, fun i hi => ?_, ?_, ?_, ?_, ?_⟩
    · have q : ∀ c, 29 ≤ c → c ≤ 31 → gA m6 c (256 + i) = gA m1 (c - 27) i := fun c h1 h2 => by
        rw [s6 c _ h1 (by omega), s1 c h1 h2, if_pos (by omega), show 256 + i - 256 * 1 = i by omega]
      rw [q 29 (by decide) (by decide), q 30 (by decide) (by decide), q 31 (by decide) (by decide)]
      exact P1.1 i hi
    · rw [t1 41 (by decide) (by decide) i hi, t1 42 (by decide) (by decide) i hi, t1 43 (by decide) (by decide) i hi, t1 44 (by decide) (by decide) i hi, t1 45 (by decide) (by decide) i hi, n1 _ _ (by decide), n1 _ _ (by decide), n1 _ _ (by decide), n1 _ _ (by decide), n1 _ _ (by decide)]
      exact i4.2.1 i hi
    · rw [s6 32 _ (by decide) (by decide), s2, if_pos (by omega), show 8 + i - 8 * 1 = i by omega, t2 i hi, n1 11 i (by decide)]
      exact ⟨(P1.2.2.1 i hi).1, (i4.2.2.1 i hi).2⟩
    · rw [gI_fr f6, g5, gI_sI, if_neg (fun z => absurd z.2 (by decide)), g4, gI_sI, if_neg (fun z => absurd z.2 (by decide)), g3, gI_sI, if_pos ⟨rfl, rfl⟩]; exact i61
    · rw [gI_fr f6, g5, gI_sI, if_neg (fun z => absurd z.2 (by decide)), g4, gI_sI, if_pos ⟨rfl, rfl⟩]; exact i62
    · rw [s6 33 _ (by decide) (by decide), s3, if_pos rfl]; exact P1.2.2.2.2.2.1
    · rw [gI_fr f6, g5, gI_sI, if_pos ⟨rfl, rfl⟩]; exact i63
  · refine ⟨i9.1, ?_, ?_, fun i hi => ?_⟩
    · rw [b2 37 1 (by decide), (f1.1 37 (by omega)).2]; exact i9.2.1
    · rw [gi6 1 (by decide) (by decide) (by decide) (by decide)]; exact i9.2.2.1
    · rw [a2, (f1.1 38 (by omega)).1, o6 1 i (by decide) (by decide)]; exact i9.2.2.2 i hi
  · refine ok.1 hc h2 hm m6 ⟨?_, fun c hc' i => by rw [a2]; exact (f1.1 c (by omega)).1 i, ?_, ?_, ?_, ?_⟩ ⟨?_, fun c hc' i => o6 c i (by omega) (by omega), gi6 16 (by decide) (by decide) (by decide) (by decide)⟩ i10
    · rw [e2]; exact f1.2
    · rw [b2 43 2 (by decide)]; exact (f1.1 43 (by omega)).2 2
    · rw [b2 43 6 (by decide)]; exact (f1.1 43 (by omega)).2 6
    · rw [b2 53 2 (by decide)]; exact (f1.1 53 (by omega)).2 2
    · rw [b2 53 6 (by decide)]; exact (f1.1 53 (by omega)).2 6
    · rw [show m6.2.2 = m5.2.2 by rw [f6.2], g5, g4, g3]
      show m2.2.2 = hm.2.2
      rw [show m2.2.2 = m1.2.2 by rw [f2.2], g1]
      rfl
end Steps4
