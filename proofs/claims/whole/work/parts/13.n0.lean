/-! ===== the reference sets a lake aside (q = 0 for a trial, 1 for what is kept) and puts it back ===== -/
theorem ix_at {q i N : Nat} : nI N * nI q + nI i = nI (N * q + i) := by rw [pk_mul, nI_add]
/-- cells that stay: all but those of X; no int, no reference changes -/
theorem LayM_A {X : Nat → Prop} {h h' : aH} (hf : FrA X h h') (hL : LayM h) : LayM h' := LayM_2 (by rw [hf.2]) hL
theorem aB_br {c : Prop} [Decidable c] : aB (if c then 1 else 0) := by
  by_cases z : c
  · rw [if_pos z]; exact aB1
  · rw [if_neg z]; exact aB0
set_option maxHeartbeats 1000000 in
theorem sr_setsAside {h : aH} {L : Lw} {q : Nat} (hq2 : q < 2) (hL : LayM h) (hM : RepM h L) {Q : aH → Prop} (hq : ∀ h', FrA (fun c => 29 ≤ c ∧ c ≤ 33) h h' → (∀ c, 29 ≤ c → c ≤ 31 → ∀ j, gA h' c j = if 256 * q ≤ j ∧ j < 256 * q + 256 then gA h (c - 27) (j - 256 * q) else gA h c j) → (∀ j, gA h' 32 j = if 8 * q ≤ j ∧ j < 8 * q + 8 then gA h 10 (j - 8 * q) else gA h 32 j) → (∀ j, gA h' 33 j = if j = q then gI h 0 4 else gA h 33 j) → Q h') : f_X11_setsAside SM 0 (nI q) h Q := by
  have key := up_loop (N := 256) (P := fun n i => ∀ h2 : aH, FrA (fun c => 29 ≤ c ∧ c ≤ 31) h h2 → (∀ c, 29 ≤ c → c ≤ 31 → ∀ j, gA h2 c j = if 256 * q ≤ j ∧ j < 256 * q + i then gA h (c - 27) (j - 256 * q) else gA h c j) → f_X11_setsAside_2 SM 0 (nI q) Q n (nI i) h2) ?_ ?_
  · exact ⟨257, key h ⟨fun _ _ _ => rfl, rfl⟩ (fun c _ _ j => by rw [if_neg (by omega)])⟩
  · intro h2 f2 v2
    refine aIf_t (by decide) ?_
    have key2 := up_loop (N := 8) (P := fun n i => ∀ h3 : aH, FrA (fun c => c = 32) h2 h3 → (∀ j, gA h3 32 j = if 8 * q ≤ j ∧ j < 8 * q + i then gA h 10 (j - 8 * q) else gA h 32 j) → f_X11_setsAside_71 SM 0 (nI q) Q n (nI i) h3) ?_ ?_
    · exact ⟨9, key2 h2 ⟨fun _ _ _ => rfl, rfl⟩ (fun j => by rw [if_neg (by omega)]; exact f2.1 32 j (by omega))⟩
    · intro h3 f3 v3
      refine aIf_t (by decide) ?_
      intro v ev
      have L3 : LayM h3 := LayM_A f3 (LayM_A f2 hL)
      rw [m_51 L3, mi_33, vp_lt hq2 (by decide), cl (by omega)]
      refine ⟨trivial, fun h4 e4 => ?_⟩
      have ev2 : v = gI h 0 4 := by rw [ev, gI_fr f3, gI_fr f2]
      refine hq h4 ⟨fun c i hc => ?_, ?_⟩ (fun c c1 c2 j => ?_) (fun j => ?_) (fun j => ?_)
      · rw [e4, gA_o (by omega), f3.1 c i (by omega)]
        exact f2.1 c i (by omega)
      · rw [e4]
        exact f3.2.trans f2.2
      · rw [e4, gA_o (by omega), f3.1 c j (by omega)]
        exact v2 c c1 c2 j
      · rw [e4, gA_o (by decide)]
        exact v3 j
      · by_cases c : j = q
        · subst c; rw [if_pos rfl, e4, gA_e, ev2]
        · rw [if_neg c, e4, gA_p c, f3.1 33 j (by decide)]
          exact f2.1 33 j (by omega)
    · intro n i hi n1 h3 f3 v3
      refine aIf_f (nI_ge (a := i) (b := 8) hi (by decide)) ?_
      have L3 : LayM h3 := LayM_A f3 (LayM_A f2 hL)
      rw [m_14 L3, mi_10, vp_lt hi (by decide), cl (by omega), show (8 : Int32) = nI 8 from rfl, ix_at, m_50 L3, mi_32, vp_lt (show 8 * q + i < 16 by omega) (by decide), cl (by omega)]
      refine ⟨trivial, fun v ev => ⟨trivial, fun h4 e4 x ex => ?_⟩⟩
      subst ex
      rw [nI_1]
      have ev2 : v = gA h 10 i := by rw [ev, f3.1 10 i (by decide)]; exact f2.1 10 i (by omega)
      refine n1 h4 ⟨fun c j hc => by rw [e4, gA_o hc]; exact f3.1 c j hc, by rw [e4]; exact f3.2⟩ (fun j => ?_)
      by_cases c : j = 8 * q + i
      · subst c
        rw [e4, gA_e, if_pos (by omega), ev2]
        congr 1
        omega
      · rw [e4, gA_p c, v3 j]
        by_cases c2 : 8 * q ≤ j ∧ j < 8 * q + i
        · rw [if_pos c2, if_pos (by omega)]
        · rw [if_neg c2, if_neg (by omega)]
  · intro n i hi n1 h2 f2 v2
    refine aIf_f (nI_ge (a := i) (b := 256) hi (by decide)) ?_
    have L2 : LayM h2 := LayM_A f2 hL
    rw [m_6 L2, mi_2, vp_lt hi (by decide), cl (by omega), show (256 : Int32) = nI 256 from rfl, ix_at, m_47 L2, mi_29, vp_lt (show 256 * q + i < 512 by omega) (by decide), cl (by omega)]
    refine ⟨trivial, fun v ev => ⟨trivial, fun h3 e3 => ?_⟩⟩
    have L3 : LayM h3 := LayM_2 (by rw [e3]; rfl) L2
    rw [m_7 L3, mi_3, vp_lt hi (by decide), m_48 L3, mi_30, vp_lt (show 256 * q + i < 512 by omega) (by decide)]
    have b1 : gA h2 2 i = gA h 2 i := f2.1 2 i (by omega)
    have b2 : gA h3 3 i = gA h 3 i := by rw [e3, gA_o (by decide)]; exact f2.1 3 i (by omega)
    refine ⟨trivial, fun w ew => ⟨trivial, by rw [ew, b2, (hM.1 i hi).2.1]; exact aB_br, fun h4 e4 => ?_⟩⟩
    have L4 : LayM h4 := LayM_2 (by rw [e4]; rfl) L3
    rw [m_8 L4, mi_4, vp_lt hi (by decide), m_49 L4, mi_31, vp_lt (show 256 * q + i < 512 by omega) (by decide)]
    have b3 : gA h4 4 i = gA h 4 i := by rw [e4, gA_o (by decide), e3, gA_o (by decide)]; exact f2.1 4 i (by omega)
    refine ⟨trivial, fun u eu => ⟨trivial, fun h5 e5 x ex => ?_⟩⟩
    subst ex
    rw [nI_1]
    have v1' : v = gA h 2 i := ev.trans b1
    have w1' : w = gA h 3 i := ew.trans b2
    have u1' : u = gA h 4 i := eu.trans b3
    refine n1 h5 ⟨fun c j hc => by rw [e5, gA_o (by omega), e4, gA_o (by omega), e3, gA_o (by omega)]; exact f2.1 c j hc, by rw [e5, e4, e3]; exact f2.2⟩ (fun c c1 c2 j => ?_)
    have fin : ∀ (x : Int32) (hx : gA h5 c j = if j = 256 * q + i then x else gA h2 c j), x = gA h (c - 27) i → gA h5 c j = if 256 * q ≤ j ∧ j < 256 * q + (i + 1) then gA h (c - 27) (j - 256 * q) else gA h c j := fun x hx e => by
      rw [hx]
      by_cases y : j = 256 * q + i
      · rw [if_pos y, if_pos (by omega), e]
        congr 1
        omega
      · rw [if_neg y, v2 c c1 c2 j]
        by_cases z : 256 * q ≤ j ∧ j < 256 * q + i
        · rw [if_pos z, if_pos (by omega)]
        · rw [if_neg z, if_neg (by omega)]
    rcases (show c = 29 ∨ c = 30 ∨ c = 31 by omega) with rfl | rfl | rfl
    · refine fin v ?_ v1'
      rw [e5, gA_o (by decide), e4, gA_o (by decide), e3]
      by_cases y : j = 256 * q + i
      · rw [y, gA_e, if_pos rfl]
      · rw [gA_p y, if_neg y]
    · refine fin w ?_ w1'
      rw [e5, gA_o (by decide), e4]
      by_cases y : j = 256 * q + i
      · rw [y, gA_e, if_pos rfl]
      · rw [gA_p y, if_neg y, e3, gA_o (by decide)]
    · refine fin u ?_ u1'
      rw [e5]
      by_cases y : j = 256 * q + i
      · rw [y, gA_e, if_pos rfl]
      · rw [gA_p y, if_neg y, e4, gA_o (by decide), e3, gA_o (by decide)]
set_option maxHeartbeats 1000000 in
theorem sr_putsBack {h : aH} {q : Nat} (hq2 : q < 2) (hL : LayM h) (hB : ∀ i, i < 256 → aB (gA h 30 (256 * q + i))) {Q : aH → Prop} (hq : ∀ h', (∀ c j, ¬ ((2 ≤ c ∧ c ≤ 4) ∨ c = 10) → gA h' c j = gA h c j) → (∀ c, 2 ≤ c → c ≤ 4 → ∀ j, j < 256 → gA h' c j = gA h (c + 27) (256 * q + j)) → (∀ j, j < 8 → gA h' 10 j = gA h 32 (8 * q + j)) → (∀ a j, gI h' a j = if a = 0 ∧ j = 4 then gA h 33 q else gI h a j) → h'.2.2 = h.2.2 → Q h') : f_X11_putsBack SM 0 (nI q) h Q := by
  have key := up_loop (N := 256) (P := fun n i => ∀ h2 : aH, FrA (fun c => 2 ≤ c ∧ c ≤ 4) h h2 → (∀ c, 2 ≤ c → c ≤ 4 → ∀ j, j < i → gA h2 c j = gA h (c + 27) (256 * q + j)) → f_X11_putsBack_2 SM 0 (nI q) Q n (nI i) h2) ?_ ?_
  · exact ⟨257, key h ⟨fun _ _ _ => rfl, rfl⟩ (fun c _ _ j hj => absurd hj (Nat.not_lt_zero _))⟩
  · intro h2 f2 v2
    refine aIf_t (by decide) ?_
    have key2 := up_loop (N := 8) (P := fun n i => ∀ h3 : aH, FrA (fun c => c = 10) h2 h3 → (∀ j, j < i → gA h3 10 j = gA h 32 (8 * q + j)) → f_X11_putsBack_71 SM 0 (nI q) Q n (nI i) h3) ?_ ?_
    · exact ⟨9, key2 h2 ⟨fun _ _ _ => rfl, rfl⟩ (fun j hj => absurd hj (Nat.not_lt_zero _))⟩
    · intro h3 f3 v3
      refine aIf_t (by decide) ?_
      have L3 : LayM h3 := LayM_A f3 (LayM_A f2 hL)
      rw [m_51 L3, mi_33, vp_lt hq2 (by decide), cl (by omega)]
      refine ⟨trivial, fun v ev h4 e4 => ?_⟩
      have ev2 : v = gA h 33 q := by rw [ev, f3.1 33 q (by decide)]; exact f2.1 33 q (by omega)
      have a4 : ∀ c j, gA h4 c j = gA h3 c j := fun c j => by rw [e4]; rfl
      refine hq h4 (fun c j hc => ?_) (fun c c1 c2 j hj => ?_) (fun j hj => (a4 _ _).trans (v3 j hj)) (fun a j => ?_) ?_
      · rw [a4, f3.1 c j (by omega)]
        exact f2.1 c j (by omega)
      · rw [a4, f3.1 c j (by omega)]
        exact v2 c c1 c2 j hj
      · rw [e4, gI_sI, ev2, gI_fr f3, gI_fr f2]
      · rw [e4]
        show h3.2.2 = h.2.2
        rw [f3.2, f2.2]
    · intro n i hi n1 h3 f3 v3
      refine aIf_f (nI_ge (a := i) (b := 8) hi (by decide)) ?_
      have L3 : LayM h3 := LayM_A f3 (LayM_A f2 hL)
      rw [show (8 : Int32) = nI 8 from rfl, ix_at, m_50 L3, mi_32, vp_lt (show 8 * q + i < 16 by omega) (by decide), cl (by omega), m_14 L3, mi_10, vp_lt hi (by decide), cl (by omega)]
      refine ⟨trivial, fun v ev => ⟨trivial, fun h4 e4 x ex => ?_⟩⟩
      subst ex
      rw [nI_1]
      have ev2 : v = gA h 32 (8 * q + i) := by rw [ev, f3.1 32 _ (by decide)]; exact f2.1 32 _ (by omega)
      refine n1 h4 ⟨fun c j hc => by rw [e4, gA_o hc]; exact f3.1 c j hc, by rw [e4]; exact f3.2⟩ (fun j hj => ?_)
      by_cases c : j = i
      · subst c; rw [e4, gA_e, ev2]
      · rw [e4, gA_p c]; exact v3 j (by omega)
  · intro n i hi n1 h2 f2 v2
    refine aIf_f (nI_ge (a := i) (b := 256) hi (by decide)) ?_
    have L2 : LayM h2 := LayM_A f2 hL
    rw [show (256 : Int32) = nI 256 from rfl, ix_at, m_47 L2, mi_29, vp_lt (show 256 * q + i < 512 by omega) (by decide), cl (by omega), m_6 L2, mi_2, vp_lt hi (by decide), cl (by omega)]
    refine ⟨trivial, fun v ev => ⟨trivial, fun h3 e3 => ?_⟩⟩
    have L3 : LayM h3 := LayM_2 (by rw [e3]; rfl) L2
    rw [m_48 L3, mi_30, vp_lt (show 256 * q + i < 512 by omega) (by decide), m_7 L3, mi_3, vp_lt hi (by decide)]
    have b1 : gA h2 29 (256 * q + i) = gA h 29 (256 * q + i) := f2.1 29 _ (by omega)
    have b2 : gA h3 30 (256 * q + i) = gA h 30 (256 * q + i) := by rw [e3, gA_o (by decide)]; exact f2.1 30 _ (by omega)
    refine ⟨trivial, fun w ew => ⟨trivial, by rw [ew, b2]; exact hB i hi, fun h4 e4 => ?_⟩⟩
    have L4 : LayM h4 := LayM_2 (by rw [e4]; rfl) L3
    rw [m_49 L4, mi_31, vp_lt (show 256 * q + i < 512 by omega) (by decide), m_8 L4, mi_4, vp_lt hi (by decide)]
    have b3 : gA h4 31 (256 * q + i) = gA h 31 (256 * q + i) := by rw [e4, gA_o (by decide), e3, gA_o (by decide)]; exact f2.1 31 _ (by omega)
    refine ⟨trivial, fun u eu => ⟨trivial, fun h5 e5 x ex => ?_⟩⟩
    subst ex
    rw [nI_1]
    refine n1 h5 ⟨fun c j hc => by rw [e5, gA_o (by omega), e4, gA_o (by omega), e3, gA_o (by omega)]; exact f2.1 c j hc, by rw [e5, e4, e3]; exact f2.2⟩ (fun c c1 c2 j hj => ?_)
    rcases (show c = 2 ∨ c = 3 ∨ c = 4 by omega) with rfl | rfl | rfl
    · rw [e5, gA_o (by decide), e4, gA_o (by decide), e3]
      by_cases y : j = i
      · subst y; rw [gA_e]; exact ev.trans b1
      · rw [gA_p y]; exact v2 2 (by decide) (by decide) j (by omega)
    · rw [e5, gA_o (by decide), e4]
      by_cases y : j = i
      · subst y; rw [gA_e]; exact ew.trans b2
      · rw [gA_p y, e3, gA_o (by decide)]; exact v2 3 (by decide) (by decide) j (by omega)
    · rw [e5]
      by_cases y : j = i
      · subst y; rw [gA_e]; exact eu.trans b3
      · rw [gA_p y, e4, gA_o (by decide), e3, gA_o (by decide)]; exact v2 4 (by decide) (by decide) j (by omega)
