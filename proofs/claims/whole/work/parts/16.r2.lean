/-! ===== the reference settles ===== -/
def MX (h h' : aH) : Prop := h'.2.2 = h.2.2 ∧ (∀ c i, ¬ ((2 ≤ c ∧ c ≤ 4) ∨ c = 10 ∨ (25 ≤ c ∧ c ≤ 28)) → gA h' c i = gA h c i) ∧ ∀ c j, ¬ (c = 0 ∧ (j = 4 ∨ (39 ≤ j ∧ j ≤ 42))) → gI h' c j = gI h c j
theorem MX_rf {h : aH} : MX h h := ⟨rfl, fun _ _ _ => rfl, fun _ _ _ => rfl⟩
theorem MX_tr {a b c : aH} (x : MX a b) (y : MX b c) : MX a c := ⟨y.1.trans x.1, fun k i hk => (y.2.1 k i hk).trans (x.2.1 k i hk), fun k i hk => (y.2.2 k i hk).trans (x.2.2 k i hk)⟩
theorem MX_S {a b : aH} (x : SFM a b) : MX a b := ⟨x.1, fun c i hc => x.2.1 c i (by omega), fun c j hc => x.2.2 c j (by omega)⟩
theorem MX_A {X : Nat → Prop} {a b : aH} (x : FrA X a b) (hX : ∀ c, X c → (2 ≤ c ∧ c ≤ 4) ∨ c = 10 ∨ (25 ≤ c ∧ c ≤ 28)) : MX a b := ⟨by rw [x.2], fun c i hc => x.1 c i (fun z => hc (hX c z)), fun c j _ => gI_fr x c j⟩
theorem MX_sA {h : aH} {c i : Nat} {v : Int32} (hc : (2 ≤ c ∧ c ≤ 4) ∨ c = 10 ∨ (25 ≤ c ∧ c ≤ 28)) : MX h (sA h c i v) := ⟨rfl, fun a j ha => by rw [gA_sA, if_neg (fun z => ha (by rw [z.1]; exact hc))], fun _ _ _ => rfl⟩
theorem MX_sI {h : aH} {j : Nat} {v : Int32} (hj : j = 4 ∨ (39 ≤ j ∧ j ≤ 42)) : MX h (sI h 0 j v) := ⟨rfl, fun _ _ _ => rfl, fun a b hb => by rw [gI_sI, if_neg (fun z => hb ⟨z.1, by rw [z.2]; exact hj⟩)]⟩
theorem MS_MX {h h' : aH} (x : MX h h') : MS h h' :=
  ⟨x.1, fun c hc i => x.2.1 c i (by omega), fun c hc i _ => x.2.1 c i (by omega), fun i _ => x.2.1 _ i (by omega), fun i _ => x.2.1 _ i (by omega), fun j hj => x.2.2 _ _ (by omega)⟩
theorem LM_MX {h h' : aH} {F : LF} (x : MX h h') (hF : LM h F) : LM h' F := LM_to (fun c hc i => x.2.1 c i (by omega)) (x.2.2 _ _ (by omega)) hF
/-- nothing but the law's scratch, and the rows of what breaks and what thaws, has changed -/
def SFN (h h' : aH) : Prop := h'.2.2 = h.2.2 ∧ (∀ c i, ¬ (25 ≤ c ∧ c ≤ 28) → gA h' c i = gA h c i) ∧ ∀ c j, ¬ (c = 0 ∧ 39 ≤ j ∧ j ≤ 42) → gI h' c j = gI h c j
theorem SFN_rf {h : aH} : SFN h h := ⟨rfl, fun _ _ _ => rfl, fun _ _ _ => rfl⟩
theorem SFN_tr {a b c : aH} (x : SFN a b) (y : SFN b c) : SFN a c := ⟨y.1.trans x.1, fun k i hk => (y.2.1 k i hk).trans (x.2.1 k i hk), fun k i hk => (y.2.2 k i hk).trans (x.2.2 k i hk)⟩
theorem SFN_S {a b : aH} (x : SFM a b) : SFN a b := ⟨x.1, fun c i hc => x.2.1 c i (by omega), fun c j hc => x.2.2 c j (by omega)⟩
theorem SFN_sA {h : aH} {c i : Nat} {v : Int32} (hc : 25 ≤ c ∧ c ≤ 28) : SFN h (sA h c i v) := ⟨rfl, fun a j ha => by rw [gA_sA, if_neg (fun z => ha (by omega))], fun _ _ _ => rfl⟩
theorem MX_N {a b : aH} (x : SFN a b) : MX a b := ⟨x.1, fun c i hc => x.2.1 c i (by omega), fun c j hc => x.2.2 c j (by omega)⟩
theorem RepM_SFN {h h' : aH} {L : Lw} (x : SFN h h') (hR : RepM h L) : RepM h' L := RepM_gA (fun c i h1 h2 => x.2.1 c i (by omega)) (fun j h1 h2 => x.2.2 _ _ (by omega)) hR
theorem LM_SFN {h h' : aH} {F : LF} (x : SFN h h') (hF : LM h F) : LM h' F := LM_to (fun c hc i => x.2.1 c i (by omega)) (x.2.2 _ _ (by omega)) hF
section SetM
variable {h : aH} {L : Lw} {hn gn : Nat} {F : LF} {Q : Int32 → aH → Prop}
theorem brk_eq (hW : WF L hn gn) {s : Nat} (hs : s < 256) (h1 : L 1 s = (-1) ∨ L 1 s = (-2)) : breakL L s gn = brk2 gn L s := by
  unfold brk2
  by_cases c : L 1 s = (-1)
  · rw [if_pos c]
  · rw [if_neg c]
    have c2 := h1.resolve_left c
    funext a b
    show (if a = 7 ∧ b < gn ∧ uL L 1 s (-2) 7 b = nI s then (-2) else uL L 1 s (-2) a b) = L a b
    have e7 : uL L 1 s (-2) 7 b = L 7 b := uL_n (fun z => absurd z.1 (by decide))
    rw [e7, if_neg]
    · by_cases z : a = 1 ∧ b = s
      · rw [z.1, z.2, uL_s, c2]
      · rw [uL_n z]
    · rintro ⟨z1, z2, z3⟩
      rcases (hW.2.2.2.2.2.2.2.2.1 b z2).1 with y | ⟨t, y1, y2, y3⟩
      · rw [y] at z3
        exact nI_neg2 (by omega) z3.symm
      · have : t = s := (nI_eq (by omega) (by omega)).mp (y2.symm.trans z3)
        rw [this] at y3
        exact c y3
theorem sr_breaks (hL : LayM h) (hM : RepM h L) (hW : WF L hn gn) {s : Nat} (hs : s < 256) (h1 : L 1 s = (-1) ∨ L 1 s = (-2)) {Q : aH → Prop} (hq : ∀ h', FrA (fun c => c = 3 ∨ c = 10) h h' → RepM h' (brk2 gn L s) → Q h') : f_X11_breaks SM 0 (nI s) h Q := by
  have hgn := hW.2.1
  rw [← brk_eq hW hs h1] at hq
  unfold f_X11_breaks
  rw [m_7 hL, mi_3, vp_lt hs (by decide), cl (by omega)]
  refine ⟨trivial, fun h1' e1 => ?_⟩
  have r1 : RepM h1' (drownL (uL L 1 s (-2)) s 0) := by
    have e : drownL (uL L 1 s (-2)) s 0 = uL L 1 s (-2) := by
      funext a b
      exact if_neg (fun z => absurd z.2.1 (Nat.not_lt_zero _))
    rw [e, e1]
    refine RepM_now hM (fun i hi => ?_) (fun c i c1 c2 => by rw [gA_o (by omega)]) (fun f i hf => uL_n (fun z => absurd z.1 (by omega))) (fun _ => rfl)
    rw [gA_o (c2 := 2) (by decide), gA_o (c2 := 4) (by decide), uL_n (a := 0) (fun z => absurd z.1 (by decide))]
    by_cases c : i = s
    · rw [c, gA_e, uL_s, if_pos rfl, if_pos rfl, (hM.1 s hs).2.2]
      refine ⟨(hM.1 s hs).1, rfl, ?_⟩
      rcases h1 with z | z
      · rw [z, if_neg (by decide)]
      · rw [z, if_pos rfl]
    · rw [gA_p c, uL_n (fun z => c z.2)]
      exact hM.1 i hi
  have key := up_loop (N := gn) (P := fun w i => ∀ h2, FrA (fun c => c = 3 ∨ c = 10) h h2 → RepM h2 (drownL (uL L 1 s (-2)) s i) → f_X11_breaks_9 SM 0 (nI s) Q w (nI i) h2) ?_ ?_
  · exact ⟨gn + 1, key h1' (by rw [e1]; exact ⟨fun c i hc => gA_o (fun z => hc (Or.inl z)), rfl⟩) r1⟩
  · intro h2 f2 r2 v ev
    have e3 : gI h2 0 3 = nI gn := (gI_fr f2 0 3).trans (hM.2.2.2.2.1.trans hW.2.2.2.1)
    rw [e3] at ev
    subst ev
    exact aIf_t (nI_le (Nat.le_refl _) (by omega)) (hq h2 f2 r2)
  · intro w i hi n1 h2 f2 r2 v ev
    have e3 : gI h2 0 3 = nI gn := (gI_fr f2 0 3).trans (hM.2.2.2.2.1.trans hW.2.2.2.1)
    rw [e3] at ev
    subst ev
    have L2 := LayM_A f2 hL
    refine aIf_f (nI_ge hi (by omega)) ?_
    have e7 : gA h2 10 i = L 7 i := by
      rw [(r2.2.2.1 i (by omega)).1]
      show (if 7 = 7 ∧ i < i ∧ uL L 1 s (-2) 7 i = nI s then (-2) else uL L 1 s (-2) 7 i) = L 7 i
      rw [if_neg (fun z => absurd z.2.1 (by omega)), uL_n (fun z => absurd z.1 (by decide))]
    rw [m_14 L2, mi_10, vp_lt (show i < 8 by omega) (by decide), cl (by omega), e7]
    refine ⟨trivial, fun v ev => ?_⟩
    subst ev
    refine aIf_i (fun c2 => ?_) (fun c2 => ?_)
    · intro x ex
      rw [nI_1] at ex
      subst ex
      refine n1 h2 f2 ?_
      have e : drownL (uL L 1 s (-2)) s (i + 1) = drownL (uL L 1 s (-2)) s i := by
        funext a b
        show (if a = 7 ∧ b < i + 1 ∧ uL L 1 s (-2) 7 b = nI s then (-2) else uL L 1 s (-2) a b) = if a = 7 ∧ b < i ∧ uL L 1 s (-2) 7 b = nI s then (-2) else uL L 1 s (-2) a b
        by_cases z : a = 7 ∧ b < i ∧ uL L 1 s (-2) 7 b = nI s
        · rw [if_pos z, if_pos ⟨z.1, by omega, z.2.2⟩]
        · rw [if_neg z, if_neg]
          rintro ⟨z1, z2, z3⟩
          refine z ⟨z1, ?_, z3⟩
          rcases Nat.lt_or_ge b i with y | y
          · exact y
          · have : b = i := by omega
            subst this
            rw [uL_n (fun z => absurd z.1 (by decide))] at z3
            exact absurd z3 c2
      rw [e]
      exact r2
    · have c3 := Classical.not_not.mp c2
      refine ⟨trivial, fun h8 e8 x ex => ?_⟩
      rw [nI_1] at ex
      subst ex
      have f8 : FrA (fun c => c = 3 ∨ c = 10) h h8 := by
        rw [e8]
        exact ⟨fun c j hc => by rw [gA_o (fun z => hc (Or.inr z))]; exact f2.1 c j hc, f2.2⟩
      refine n1 h8 f8 ?_
      have w : ∀ a b, a ≠ 7 → drownL (uL L 1 s (-2)) s (i + 1) a b = drownL (uL L 1 s (-2)) s i a b := fun a b ha => by rw [drown_n ha, drown_n ha]
      have a : ∀ c j, c ≠ 10 → gA h8 c j = gA h2 c j := fun c j hc => by rw [e8, gA_o hc]
      have b : ∀ j, gI h8 0 j = gI h2 0 j := fun j => by rw [e8]; rfl
      refine ⟨fun j hj => ?_, fun j hj => ?_, fun j hj => ?_, ?_⟩
      · rw [a _ _ (by omega), a _ _ (by omega), a _ _ (by omega), w 0 j (by decide), w 1 j (by decide)]
        exact r2.1 j hj
      · rw [a _ _ (by omega), a _ _ (by omega), a _ _ (by omega), a _ _ (by omega), a _ _ (by omega), w 2 j (by decide), w 3 j (by decide), w 4 j (by decide), w 5 j (by decide), w 6 j (by decide)]
        exact r2.2.1 j hj
      · rw [a 11 _ (by omega), w 8 j (by decide)]
        refine ⟨?_, (r2.2.2.1 j hj).2⟩
        rw [e8]
        show _ = if 7 = 7 ∧ j < i + 1 ∧ uL L 1 s (-2) 7 j = nI s then (-2) else uL L 1 s (-2) 7 j
        by_cases y : j = i
        · subst y
          rw [gA_e, if_pos ⟨rfl, by omega, by rw [uL_n (fun z => absurd z.1 (by decide))]; exact c3⟩]
        · rw [gA_p y, (r2.2.2.1 j hj).1]
          show (if 7 = 7 ∧ j < i ∧ uL L 1 s (-2) 7 j = nI s then (-2) else uL L 1 s (-2) 7 j) = _
          by_cases z : 7 = 7 ∧ j < i ∧ uL L 1 s (-2) 7 j = nI s
          · rw [if_pos z, if_pos ⟨rfl, by omega, z.2.2⟩]
          · rw [if_neg z, if_neg (fun z2 => z ⟨rfl, by omega, z2.2.2⟩)]
      · rw [b, b, b, b, w 9 0 (by decide), w 9 1 (by decide), w 9 2 (by decide), w 9 3 (by decide)]
        exact r2.2.2.2
def OvM (h : aH) (l : List Nat) : Prop := ∀ i, i < l.length → gA h 27 i = nI (l.getD i 0)
theorem set_m12 (hL : LayM h) (hM : RepM h L) (hW : WF L hn gn) (hF : LM h F) {K4 : Int32 → Int32 → aH → Prop} {x1 : Int32} (hq : ∀ h', SFN h h' → OvM h' (ovM F L gn gn) → ∃ m, f_X11_settles_81 SM 0 Q K4 m x1 (nI (ovM F L gn gn).length) 0 h') : ∃ m, f_X11_settles_12 SM 0 Q K4 m x1 0 0 h := by
  have hgn := hW.2.1
  have key := up_loop (N := gn) (P := fun w i => ∀ h', SFN h h' → OvM h' (ovM F L gn i) → f_X11_settles_12 SM 0 Q K4 w x1 (nI (ovM F L gn i).length) (nI i) h') ?_ ?_
  · exact ⟨gn + 1, key h SFN_rf (fun i hi => absurd hi (Nat.not_lt_zero _))⟩
  · intro h' f' o v ev
    rw [(RepM_SFN f' hM).2.2.2.2.1.trans hW.2.2.2.1] at ev
    subst ev
    exact aIf_t (nI_le (Nat.le_refl _) (by omega)) (hq h' f' o)
  · intro w i hi n1 h' f' o v ev
    have r' := RepM_SFN f' hM
    have l' := LayM_2 f'.1 hL
    rw [r'.2.2.2.2.1.trans hW.2.2.2.1] at ev
    subst ev
    refine aIf_f (nI_ge hi (by omega)) ?_
    rw [m_14 l', mi_10, vp_lt (show i < 8 by omega) (by decide), cl (by omega), (r'.2.2.1 i (by omega)).1]
    refine ⟨trivial, fun v ev => ?_⟩
    subst ev
    have hlen := (ov_P (F := F) (L := L) (gn := gn) i).2.2.2
    have next : ∀ h2, SFN h h2 → OvM h2 (ovM F L gn i) → ovM F L gn (i + 1) = ovM F L gn i → ∀ x : Int32, x = nI i + 1 → f_X11_settles_12 SM 0 Q K4 (w + 1) x1 (nI (ovM F L gn i).length) x h2 := by
      intro h2 f2 o2 e x ex
      rw [nI_1] at ex
      subst ex
      have := n1 h2 f2
      rw [e] at this
      exact this o2
    refine aIf_i (fun c => next h' f' o (if_pos c)) (fun c => ?_)
    obtain ⟨q1, q2, q3⟩ := sqG_of hW hi c
    rw [q2]
    refine sr_isIce l' r' q1 (fun _ => aIf_f (by decide) ?_) (fun z => absurd q3 z)
    refine sr_carriedOn l' r' hW ?_
    refine sr_bears l' r' hW (LM_SFN f' hF) q1 (fun h2 f2 => ?_)
    have f3 := SFN_tr f' (SFN_S f2)
    have l2 := LayM_2 f3.1 hL
    have o2 : OvM h2 (ovM F L gn i) := fun j hj => (f2.2.1 _ _ (by decide)).trans (o j hj)
    refine aIf_i (fun c2 => ?_) (fun c2 => ?_)
    · have e : ovM F L gn (i + 1) = ovM F L gn i ++ [sqG L i] := (if_neg c).trans (if_pos ⟨q3, Int32.not_le.mpr c2⟩)
      rw [m_45 l2, mi_27, vp_lt (show (ovM F L gn i).length < 8 by omega) (by decide), cl (by omega)]
      refine ⟨trivial, fun h4 e4 x ex y ey => ?_⟩
      rw [nI_1] at ex ey
      subst ex ey
      have := n1 h4 (SFN_tr f3 (by rw [e4]; exact SFN_sA (by decide)))
      rw [e, List.length_append] at this
      refine this (fun j hj => ?_)
      rw [List.length_append] at hj
      have hj : j < (ovM F L gn i).length + 1 := hj
      rw [e4, getD_s]
      by_cases z : j = (ovM F L gn i).length
      · rw [z, gA_e, if_neg (Nat.lt_irrefl _), if_pos rfl]
      · rw [gA_p z, if_pos (show j < (ovM F L gn i).length by omega)]
        exact o2 j (by omega)
    · exact next h2 f3 o2 ((if_neg c).trans (if_neg (fun z => z.2 (Int32.not_lt.mp c2))))
theorem ovM_lt (hW : WF L hn gn) : ∀ s, s ∈ ovM F L gn gn → s < 256 := fun s hs => ovC_lt hW (Nat.le_refl gn) s (((ov_P gn).2.1 s).mp hs)
theorem set_m81 (hL : LayM h) (hM : RepM h L) (hW : WF L hn gn) (hO : OvM h (ovM F L gn gn)) {K4 : Int32 → Int32 → aH → Prop} {c : Nat} (hq : ∀ h', MX h h' → RepM h' (bksL F gn L) → K4 (nI (c + (ovC F L gn gn).length)) (nI (ovM F L gn gn).length) h') : ∃ m, f_X11_settles_81 SM 0 Q K4 m (nI c) (nI (ovM F L gn gn).length) 0 h := by
  have hgn := hW.2.1
  have hlen := (ov_P (F := F) (L := L) (gn := gn) gn).2.2.2
  have key := up_loop (N := (ovM F L gn gn).length) (P := fun w i => ∀ h', MX h h' → (∀ j, gA h' 27 j = gA h 27 j) → RepM h' (bkF gn ((ovM F L gn gn).take i) (L, 0)).1 → f_X11_settles_81 SM 0 Q K4 w (nI (c + (bkF gn ((ovM F L gn gn).take i) (L, 0)).2)) (nI (ovM F L gn gn).length) (nI i) h') ?_ ?_
  · exact ⟨_, key h MX_rf (fun _ => rfl) hM⟩
  · intro h' f' _ r'
    refine aIf_t (nI_le (Nat.le_refl _) (by omega)) ?_
    rw [List.take_length, (ov_eq gn).1] at r'
    rw [List.take_length, (ov_eq gn).1, (ov_eq gn).2]
    exact hq h' f' r'
  · intro w i hi n1 h' f' c' r'
    have l' := LayM_2 f'.1 hL
    have hm := getD_mem hi
    have hs := ovM_lt hW _ hm
    have w3 : WF (bkF gn ((ovM F L gn gn).take i) (L, 0)).1 hn gn := WF_bkF _ (fun s hs => ovM_lt hW s (List.mem_of_mem_take hs)) (L, 0) hW
    have n1' := fun h2 a b => n1 h2 a b
    rw [take_s hi, bkF_s] at n1
    have p1 : L 1 ((ovM F L gn gn).getD i 0) = (-1) := ((ov_P gn).1 _ (((ov_P gn).2.1 _).mp hm)).1.1
    have p2 : (bkF gn ((ovM F L gn gn).take i) (L, 0)).1 1 ((ovM F L gn gn).getD i 0) = (-1) ∨ (bkF gn ((ovM F L gn gn).take i) (L, 0)).1 1 ((ovM F L gn gn).getD i 0) = (-2) := by
      rw [bk_1]
      by_cases z : (ovM F L gn gn).getD i 0 ∈ (ovM F L gn gn).take i ∧ L 1 ((ovM F L gn gn).getD i 0) = (-1)
      · rw [if_pos z]; exact Or.inr rfl
      · rw [if_neg z]; exact Or.inl p1
    refine aIf_f (nI_ge hi (by omega)) ?_
    rw [m_45 l', mi_27, vp_lt (show i < 8 by omega) (by decide), cl (by omega), c', hO i hi]
    refine ⟨trivial, fun v ev => ?_⟩
    subst ev
    rw [m_7 l', mi_3, vp_lt hs (by decide), cl (by omega), (r'.1 _ hs).2.1]
    refine ⟨trivial, fun v ev => ?_⟩
    subst ev
    have go : ∀ (x1 : Int32), x1 = nI (c + (bkp gn (bkF gn ((ovM F L gn gn).take i) (L, 0)) ((ovM F L gn gn).getD i 0)).2) → ∀ v9 : Int32, v9 = nI ((ovM F L gn gn).getD i 0) → f_X11_breaks SM 0 v9 h' (fun h10 => ∀ x3_11 : Int32, x3_11 = nI i + 1 → f_X11_settles_81 SM 0 Q K4 (w + 1) x1 (nI (ovM F L gn gn).length) x3_11 h10) := by
      intro x1 e1 v9 e9
      subst e1 e9
      refine sr_breaks l' r' w3 hs p2 (fun h2 f2 r2 x ex => ?_)
      rw [nI_1] at ex
      subst ex
      exact n1 h2 (MX_tr f' (MX_A f2 (fun c hc => by omega))) (fun j => (f2.1 27 j (by omega)).trans (c' j)) r2
    unfold bkp at go
    rcases p2 with z | z
    · rw [if_neg (by rw [z]; decide)]
      refine aIf_t rfl (fun x ex => ⟨trivial, fun v ev => go x ?_ v ev⟩)
      rw [if_pos z, ex, nI_1, Nat.add_assoc]
    · rw [if_pos z]
      refine aIf_f (by decide) (fun x ex => ⟨trivial, fun v ev => go x ?_ v ev⟩)
      rw [if_neg (by rw [z]; decide), ex, Int32.add_zero, Nat.add_zero]
theorem ov_nil : ovM F L gn gn = [] ↔ ovC F L gn gn = [] := by
  have m := (ov_P (F := F) (L := L) (gn := gn) gn).2.1
  constructor
  · intro e
    rw [List.eq_nil_iff_forall_not_mem]
    intro s hs
    have := (m s).mpr hs
    rw [e] at this
    exact absurd this List.not_mem_nil
  · intro e
    rw [List.eq_nil_iff_forall_not_mem]
    intro s hs
    have := (m s).mp hs
    rw [e] at this
    exact absurd this List.not_mem_nil
theorem sr_settles (hL : LayM h) (hM : RepM h L) (hW : WF L hn gn) (hF : LM h F) (hq : ∀ h', MX h h' → RepM h' (stl F gn 8 L).1 → Q (nI (stl F gn 8 L).2) h') : f_X11_settles SM 0 h Q := by
  have hgn := hW.2.1
  have key : ∀ r (c : Nat) (L1 : Lw) (h1 : aH) (x2 : Int32), ¬ x2 ≤ 0 → afl L1 gn ≤ r → MX h h1 → RepM h1 L1 → WF L1 hn gn → (∀ h', MX h h' → RepM h' (stl F gn r L1).1 → Q (nI (c + (stl F gn r L1).2)) h') → f_X11_settles_4 SM 0 Q (r + 2) (nI c) x2 h1 := by
    intro r
    induction r with
    | zero =>
      intro c L1 h1 x2 hx ha f1 r1 w1 hq
      have l1 := LayM_2 f1.1 hL
      have e0 : ovC F L1 gn gn = [] := afl_0 (by omega)
      refine aIf_f hx ?_
      refine set_m12 l1 r1 w1 (LM_MX f1 hF) (fun h2 f2 o2 => ?_)
      refine set_m81 (LayM_2 f2.1 l1) (RepM_SFN f2 r1) w1 o2 (fun h3 f3 r3 => ?_)
      rw [ov_nil.mpr e0, e0]
      refine aIf_t (by decide) ?_
      have eb : bksL F gn L1 = L1 := by unfold bksL; rw [e0]; rfl
      rw [eb] at r3
      exact hq h3 (MX_tr f1 (MX_tr (MX_N f2) f3)) r3
    | succ r ih =>
      intro c L1 h1 x2 hx ha f1 r1 w1 hq
      have l1 := LayM_2 f1.1 hL
      refine aIf_f hx ?_
      refine set_m12 l1 r1 w1 (LM_MX f1 hF) (fun h2 f2 o2 => ?_)
      refine set_m81 (LayM_2 f2.1 l1) (RepM_SFN f2 r1) w1 o2 (fun h3 f3 r3 => ?_)
      have f13 := MX_tr f1 (MX_tr (MX_N f2) f3)
      by_cases e0 : ovC F L1 gn gn = []
      · rw [ov_nil.mpr e0, e0]
        refine aIf_t (by decide) ?_
        have eb : bksL F gn L1 = L1 := by unfold bksL; rw [e0]; rfl
        rw [eb] at r3
        rw [stl_e e0] at hq
        exact hq h3 f13 r3
      · have hlen := (ov_P (F := F) (L := L1) (gn := gn) gn).2.2.2
        have pos : 0 < (ovM F L1 gn gn).length := by
          rcases Nat.eq_zero_or_pos (ovM F L1 gn gn).length with z | z
          · exact absurd (ov_nil.mp (List.eq_nil_of_length_eq_zero z)) e0
          · exact z
        have lt := afl_bks (F := F) w1 e0
        rw [stl_s e0] at hq
        refine ih _ (bksL F gn L1) h3 _ (fun z => absurd ((nI_leI (b := 0) (by omega) (by omega)).mp z) (by omega)) (by omega) f13 r3 (WF_bks w1) (fun h' f' r' => ?_)
        rw [Nat.add_assoc]
        exact hq h' f' r'
  have k8 := key 8 0 L h 1 (by decide) (by have := afl_n L gn; omega) MX_rf hM hW (fun h' f' r' => by rw [Nat.zero_add]; exact hq h' f' r')
  exact ⟨10, k8⟩
end SetM
/-- SETTLE -/
theorem s_settle : st_settle (Inv LR) SC SM := by
  intro hc hm hI
  obtain ⟨L, hn, gn, kp, LK, tn, tb, l, d, I⟩ := hI
  obtain ⟨i1, i2, i3, i4, i5, i6, i7, i8, i9, i10⟩ := id I
  have hk : isLake 1 := Or.inl rfl
  obtain ⟨F, F1, F2⟩ := LR_F i1 i10
  unfold f_X10_settle
  rw [c_0_5 i1, c_0_0 i1, co_42, co_1]
  refine ⟨trivial, trivial, sp_settleAll hk i1 i3 i5 F1 (fun h1 f1 r1 => ?_)⟩
  unfold f_X11_settle
  refine sr_settles i2 i4 i5 F2 (fun h2 f2 r2 => ⟨rfl, ?_⟩)
  exact Inv_step LRok_LR I (CS_FX (Or.inl rfl) f1) (MS_MX f2) r1 r2 (WF_stl 8 L i5)
