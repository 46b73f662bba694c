/-! ===== step: cut ===== -/
theorem wi_t {S : aS} {a b c : Int32} {h : aH} {Q : Int32 → aH → Prop} (z : b ≤ a ∧ a ≤ c) (hq : Q 1 h) : f_X10_within S a b c h Q := sp_within (fun _ _ => hq) (fun y => absurd z y)
theorem wi_f {S : aS} {a b c : Int32} {h : aH} {Q : Int32 → aH → Prop} (z : ¬ (b ≤ a ∧ a ≤ c)) (hq : Q 0 h) : f_X10_within S a b c h Q := sp_within (fun y1 y2 => absurd ⟨y1, y2⟩ z) (fun _ => hq)
theorem li_t {S : aS} {a b c : Int32} {h : aH} {Q : Int32 → aH → Prop} (z : b ≤ a ∧ a ≤ c) (hq : Q 1 h) : f_X11_lies S a.toInt64 b.toInt64 c.toInt64 h Q := sp_lies (fun _ _ => hq) (fun y => absurd z y)
theorem li_f {S : aS} {a b c : Int32} {h : aH} {Q : Int32 → aH → Prop} (z : ¬ (b ≤ a ∧ a ≤ c)) (hq : Q 0 h) : f_X11_lies S a.toInt64 b.toInt64 c.toInt64 h Q := sp_lies (fun y1 y2 => absurd ⟨y1, y2⟩ z) (fun _ => hq)
theorem dg_t {S : aS} {a : Int32} {h : aH} {Q : Int32 → aH → Prop} (z : 0 ≤ a ∧ a ≤ 9) (hq : Q 1 h) : f_X11_isDigit S a h Q := li_t (b := 0) (c := 9) z ⟨aB1, hq⟩
theorem dg_f {S : aS} {a : Int32} {h : aH} {Q : Int32 → aH → Prop} (z : ¬ (0 ≤ a ∧ a ≤ 9)) (hq : Q 0 h) : f_X11_isDigit S a h Q := li_f (b := 0) (c := 9) z ⟨aB0, hq⟩
def holeL (L : Lw) (hn s : Nat) (a b c e : Int32) : Lw := fun f i => if f = 2 then (if i = hn then nI s else L 2 i) else if f = 3 then (if i = hn then a else L 3 i) else if f = 4 then (if i = hn then b else L 4 i) else if f = 5 then (if i = hn then c else L 5 i) else if f = 6 then (if i = hn then e else L 6 i) else if f = 9 then (if i = 0 then nI (hn + 1) else L 9 i) else L f i
def cutL (L : Lw) (hn s : Nat) (a b c e : Int32) : Lw := uL (holeL L hn s a b c e) 1 s (nI hn)
theorem rep_hole {h h' : aH} {k hn gn s : Nat} {L : Lw} {a b c e : Int32} (hW : WF L hn gn) (hR : RepC h k L) (h12 : hn < 12) (c1 : ∀ q i, q < k + 5 ∨ k + 9 < q → gA h' q i = gA h q i) (c5 : ∀ i, gA h' (k + 5) i = if i = hn then nI s else gA h (k + 5) i) (c6 : ∀ i, gA h' (k + 6) i = if i = hn then a else gA h (k + 6) i) (c7 : ∀ i, gA h' (k + 7) i = if i = hn then b else gA h (k + 7) i) (c8 : ∀ i, gA h' (k + 8) i = if i = hn then c else gA h (k + 8) i) (c9 : ∀ i, gA h' (k + 9) i = if i = hn then e else gA h (k + 9) i) (ci : ∀ j, gI h' k j = if j = 9 then nI (hn + 1) else gI h k j) : RepC h' k (holeL L hn s a b c e) := by
  have wt : ∀ t, t < 256 → warT (holeL L hn s a b c e) (some t) = warT L (some t) := by
    intro t ht
    show (if 0 ≤ L 1 t then (if (L 1 t).toNatClampNeg = hn then b else L 4 (L 1 t).toNatClampNeg) else 0) = if 0 ≤ L 1 t then L 4 (L 1 t).toNatClampNeg else 0
    rcases hW.2.2.2.2.2.1 t ht with z | z | ⟨m, hm, z, -⟩
    · rw [z, if_neg (by decide), if_neg (by decide)]
    · rw [z, if_neg (by decide), if_neg (by decide)]
    · rw [z, cl (by omega), if_neg (show ¬ m = hn by omega)]
  have wm : ∀ i, i < 256 → warmL (holeL L hn s a b c e) i = warmL L i := by
    intro i hi
    unfold warmL
    rw [wt i hi, sm_congr (f := fun j => warT (holeL L hn s a b c e) (adj i j)) (g := fun j => warT L (adj i j)) 8 (fun j hj => ?_)]
    rcases ha : adj i j with _ | t
    · rfl
    · exact wt t (adj_lt ha)
  refine ⟨fun i hi => ?_, fun i hi => ?_, fun i hi => ?_, ?_⟩
  · rw [c1 _ _ (by omega), c1 _ _ (by omega), c1 _ _ (by omega), c1 _ _ (by omega), wm i hi, gaps_eq (L := L) (L' := holeL L hn s a b c e) (fun t => rfl)]
    exact hR.1 i hi
  · obtain ⟨r1, r2, r3, r4, r5⟩ := hR.2.1 i hi
    rw [c5, c6, c7, c8, c9, r1, r2, r3, r4, r5]
    exact ⟨rfl, rfl, rfl, rfl, rfl⟩
  · rw [c1 _ _ (by omega), c1 _ _ (by omega)]
    exact hR.2.2.1 i hi
  · rw [ci, ci, ci, ci]
    exact ⟨rfl, hR.2.2.2.2.1, hR.2.2.2.2.2.1, hR.2.2.2.2.2.2⟩
theorem sp_openHole {h : aH} {l d k : Nat} {L : Lw} {hn gn : Nat} {Q : Int32 → aH → Prop} (hk : isLake k) (hL : LayC h l d) (hR : RepC h k L) (hW : WF L hn gn) (h12 : hn < 12) {s : Nat} (hs : s < 256) (e1 : L 1 s = (-1)) {a b c e : Int32} (hq : ∀ h', FrK k h h' → RepC h' k (cutL L hn s a b c e) → Q (nI hn) h') : f_X2_openHole SC k (nI s) a b c e h Q := by
  have e9 : gI h k 9 = nI hn := hR.2.2.2.1.trans hW.2.2.1
  intro v ev
  rw [e9] at ev
  subst ev
  refine aIf_t ((nI_ltI (b := 12) (by omega) (by decide)).mpr h12) ?_
  intro v ev v' ev' h5 e5
  rw [e9] at ev ev'
  subst ev ev'
  have L5 : LayC h5 l d := LayC_2 (by rw [e5]; rfl) hL
  rw [lk_4 hk L5, li_5 hk, vp_lt h12 (by decide), cl (by omega)]
  refine ⟨trivial, fun h7 e7 => ?_⟩
  have L7 : LayC h7 l d := LayC_2 (by rw [e7]; rfl) L5
  rw [lk_5 hk L7, li_6 hk, vp_lt h12 (by decide)]
  refine ⟨trivial, fun h9 e9' => ?_⟩
  have L9 : LayC h9 l d := LayC_2 (by rw [e9']; rfl) L7
  rw [lk_6 hk L9, li_7 hk, vp_lt h12 (by decide)]
  refine ⟨trivial, fun h11 e11 => ?_⟩
  have L11 : LayC h11 l d := LayC_2 (by rw [e11]; rfl) L9
  rw [lk_7 hk L11, li_8 hk, vp_lt h12 (by decide)]
  refine ⟨trivial, fun h13 e13 => ?_⟩
  have L13 : LayC h13 l d := LayC_2 (by rw [e13]; rfl) L11
  rw [lk_8 hk L13, li_9 hk, vp_lt h12 (by decide)]
  refine ⟨trivial, fun h15 e15 => ?_⟩
  have L15 : LayC h15 l d := LayC_2 (by rw [e15]; rfl) L13
  rw [lk_1 hk L15, li_2 hk, vp_lt hs (by decide), cl (by omega)]
  refine ⟨trivial, fun h17 e17 => ?_⟩
  have L17 : LayC h17 l d := LayC_2 (by rw [e17]; rfl) L15
  have up : ∀ (g : aH) (q j : Nat) (v : Int32) (i : Nat), gA (sA g q j v) q i = if i = j then v else gA g q i := fun g q j v i => by
    by_cases z : i = j
    · rw [z, gA_e, if_pos rfl]
    · rw [gA_p z, if_neg z]
  have F15 : FrK k h h15 := by
    subst e5 e7 e9' e11 e13 e15
    exact FrK_tr (FrK_tr (FrK_tr (FrK_tr (FrK_tr FrK_sI (FrK_sA (by omega) (by omega))) (FrK_sA (by omega) (by omega))) (FrK_sA (by omega) (by omega))) (FrK_sA (by omega) (by omega))) (FrK_sA (by omega) (by omega))
  have R15 : RepC h15 k (holeL L hn s a b c e) := by
    subst e5 e7 e9' e11 e13 e15
    refine rep_hole hW hR h12 (fun q i hc => ?_) (fun i => ?_) (fun i => ?_) (fun i => ?_) (fun i => ?_) (fun i => ?_) (fun j => ?_)
    · rw [gA_o (by omega), gA_o (by omega), gA_o (by omega), gA_o (by omega), gA_o (by omega)]; rfl
    · rw [gA_o (by omega), gA_o (by omega), gA_o (by omega), gA_o (by omega), up]; rfl
    · rw [gA_o (by omega), gA_o (by omega), gA_o (by omega), up, gA_o (by omega)]; rfl
    · rw [gA_o (by omega), gA_o (by omega), up, gA_o (by omega), gA_o (by omega)]; rfl
    · rw [gA_o (by omega), up, gA_o (by omega), gA_o (by omega), gA_o (by omega)]; rfl
    · rw [up, gA_o (by omega), gA_o (by omega), gA_o (by omega), gA_o (by omega)]; rfl
    · show gI (sI h k 9 _) k j = _
      rw [gI_sI, nI_1]
      by_cases z : j = 9
      · rw [if_pos ⟨rfl, z⟩, if_pos z]
      · rw [if_neg (fun y => z y.2), if_neg z]
  refine sp_spread hk L17 hs (fun h' hf hv => ?_)
  subst e17
  have m1 : holeL L hn s a b c e 1 s = (-1) := e1
  have r := rep_cover R15 hs hf hv (by rw [gap_off m1, gap_in (by rw [uL_s]; exact nI_neg1 (by omega))]; rfl) (by
    rw [war_neg (L := holeL L hn s a b c e) (by rw [m1]; decide), war_hole (m := hn) (by omega) (uL_s _ _ _ _), uL_n (fun z => absurd z.1 (by decide))]
    show (if hn = hn then b else L 4 hn) = 0 + b
    rw [if_pos rfl, Int32.zero_add])
  exact hq h' (FrK_tr F15 r.2) r.1
theorem WF_cut {L : Lw} {hn gn s : Nat} (hW : WF L hn gn) (h12 : hn < 12) (hs : s < 256) (e1 : L 1 s = (-1)) (hf : ∀ g, g < gn → ¬ L 7 g = nI s) {a b c e : Int32} (ha : ∃ v, v ≤ 4 ∧ a = nI v) (hb : ∃ v, v ≤ 9 ∧ b = nI v) (hc : ∃ v, v ≤ 9 ∧ c = nI v) (he : ∃ v, v ≤ 9 ∧ e = nI v) : WF (cutL L hn s a b c e) (hn + 1) gn := by
  have u : ∀ f i, f ≠ 1 → cutL L hn s a b c e f i = holeL L hn s a b c e f i := fun f i hf => uL_n (fun z => hf z.1)
  obtain ⟨w1, w2, w3, w4, w5, w6, w7, w8, w9, w10⟩ := hW
  refine ⟨by omega, w2, by rw [u 9 0 (by decide)]; rfl, by rw [u 9 1 (by decide)]; exact w4, fun i hi => by rw [u 0 i (by decide)]; exact w5 i hi, fun i hi => ?_, fun m hm => ?_, fun m hm => ?_, fun g hg => ?_, by rw [u 9 3 (by decide)]; exact w10⟩
  · by_cases z : i = s
    · subst z
      refine Or.inr (Or.inr ⟨hn, by omega, uL_s _ _ _ _, ?_⟩)
      rw [u 2 hn (by decide)]
      show (if hn = hn then nI i else L 2 hn) = nI i
      rw [if_pos rfl]
    · have e2 : cutL L hn s a b c e 1 i = L 1 i := uL_n (fun y => z y.2)
      rw [e2]
      rcases w6 i hi with y | y | ⟨m, y1, y2, y3⟩
      · exact Or.inl y
      · exact Or.inr (Or.inl y)
      · refine Or.inr (Or.inr ⟨m, by omega, y2, ?_⟩)
        rw [u 2 m (by decide)]
        show (if m = hn then nI s else L 2 m) = nI i
        rw [if_neg (by omega)]
        exact y3
  · rw [u 2 m (by decide)]
    show ∃ s', s' < 256 ∧ (if m = hn then nI s else L 2 m) = nI s'
    by_cases z : m = hn
    · rw [if_pos z]; exact ⟨s, hs, rfl⟩
    · rw [if_neg z]; exact w7 m hm
  · rw [u 3 m (by decide), u 4 m (by decide), u 5 m (by decide), u 6 m (by decide)]
    show (∃ v, v ≤ 4 ∧ (if m = hn then a else L 3 m) = nI v) ∧ (∃ v, v ≤ 9 ∧ (if m = hn then b else L 4 m) = nI v) ∧ (∃ v, v ≤ 9 ∧ (if m = hn then c else L 5 m) = nI v) ∧ ∃ v, v ≤ 9 ∧ (if m = hn then e else L 6 m) = nI v
    by_cases z : m = hn
    · rw [if_pos z, if_pos z, if_pos z, if_pos z]; exact ⟨ha, hb, hc, he⟩
    · rw [if_neg z, if_neg z, if_neg z, if_neg z]; exact w8 m hm
  · rw [u 7 g (by decide), u 8 g (by decide)]
    refine ⟨?_, (w9 g hg).2⟩
    rcases (w9 g hg).1 with z | ⟨s2, z1, z2, z3⟩
    · exact Or.inl z
    · refine Or.inr ⟨s2, z1, z2, ?_⟩
      have : s2 ≠ s := fun y => hf g hg (by rw [← y]; exact z2)
      exact (uL_n (fun y => this y.2)).trans z3
set_option maxHeartbeats 2000000 in
/-- CUT -/
theorem s_cut : st_cut (Inv LR) SC SM := by
  intro hc hm a1 a2 a3 a4 a5 a6 hI
  obtain ⟨L, hn, gn, kp, LK, tn, tb, l, d, I⟩ := hI
  obtain ⟨i1, i2, i3, i4, i5, i6, i7, i8, i9, i10⟩ := id I
  have hk : isLake 1 := Or.inl rfl
  obtain ⟨F, F1, F2⟩ := LR_F i1 i10
  have hhn := i5.1
  have e9 : gI hc 1 9 = nI hn := i3.2.2.2.1.trans i5.2.2.1
  have e2 : gI hm 0 2 = nI hn := i4.2.2.2.1.trans i5.2.2.1
  unfold f_X10_cut
  refine sp_has (fun m n hm1 hn1 q1 q2 => ?_) (fun c => ?_)
  · subst q1 q2
    have hs : 16 * n + m < 256 := by omega
    refine aIf_f (by decide) ?_
    have r1 : ∀ Q : Int32 → aH → Prop, f_X11_lies SM (a3).toInt64 (Int32.toInt64 0) (Int32.toInt64 4) hm Q → f_X11_isSquare SM (nI m) (nI n) hm (fun r2 h1 => aIf (r2 = 0) (Q 0 h1) (f_X11_lies SM (a3).toInt64 0 4 h1 Q)) := by
      intro Q hq
      refine sr_isSquare (fun m2 n2 b3 b4 b5 b6 => ?_) (fun z => absurd ⟨vp_in_nI hm1 (by decide), vp_in_nI hn1 (by decide)⟩ z)
      exact aIf_f (by decide) hq
    have sq : ∀ Q : Int32 → aH → Prop, Q 1 hm → f_X11_isSquare SM (nI m) (nI n) hm Q := fun Q hq => sr_isSquare (fun m2 n2 b3 b4 b5 b6 => hq) (fun z => absurd ⟨vp_in_nI hm1 (by decide), vp_in_nI hn1 (by decide)⟩ z)
    by_cases p3 : 0 ≤ a3 ∧ a3 ≤ 4
    rotate_left
    · refine wi_f p3 (aIf_t rfl ?_)
      unfold f_X11_cut
      refine sq _ (aIf_f (by decide) ?_)
      exact li_f (b := 0) (c := 4) p3 (aIf_t rfl ⟨rfl, Inv_same I⟩)
    refine wi_t p3 (aIf_f (by decide) ?_)
    by_cases p4 : 0 ≤ a4 ∧ a4 ≤ 9
    rotate_left
    · refine wi_f p4 (aIf_t rfl ?_)
      unfold f_X11_cut
      refine sq _ (aIf_f (by decide) ?_)
      refine li_t (b := 0) (c := 4) p3 (aIf_f (by decide) ?_)
      exact dg_f p4 (aIf_t rfl ⟨rfl, Inv_same I⟩)
    refine wi_t p4 (aIf_f (by decide) ?_)
    by_cases p5 : 0 ≤ a5 ∧ a5 ≤ 9
    rotate_left
    · refine wi_f p5 (aIf_t rfl ?_)
      unfold f_X11_cut
      refine sq _ (aIf_f (by decide) ?_)
      refine li_t (b := 0) (c := 4) p3 (aIf_f (by decide) ?_)
      refine dg_t p4 (aIf_f (by decide) ?_)
      exact dg_f p5 (aIf_t rfl ⟨rfl, Inv_same I⟩)
    refine wi_t p5 (aIf_f (by decide) ?_)
    by_cases p6 : 0 ≤ a6 ∧ a6 ≤ 9
    rotate_left
    · refine wi_f p6 (aIf_f (fun z => z rfl) ?_)
      unfold f_X11_cut
      refine sq _ (aIf_f (by decide) ?_)
      refine li_t (b := 0) (c := 4) p3 (aIf_f (by decide) ?_)
      refine dg_t p4 (aIf_f (by decide) ?_)
      refine dg_t p5 (aIf_f (by decide) ?_)
      exact dg_f p6 (aIf_t rfl ⟨rfl, Inv_same I⟩)
    refine wi_t p6 (aIf_t (by decide) ?_)
    show aObj SC (gR hc 0 0) 1 flX2 ∧ ∀ v19 : Int32, v19 = (gI hc (gR hc 0 0) 9) → aIf (12 ≤ v19) _ (f_X2_isFree SC (gR hc 0 0) (16 * nI n + nI m) hc _)
    rw [c_0_0 i1, co_1, sq_at, e9]
    refine ⟨trivial, fun v ev => ?_⟩
    subst ev
    have run : ∀ Q : Int32 → aH → Prop, (¬ hn < 12 → Q (-1) hm) → (hn < 12 → f_X11_isIce SM 0 (nI (16 * n + m)) hm (fun r20 h19 => aIf (r20 = 0) (Q (-1) h19) (f_X11_standsOn SM 0 (nI (16 * n + m)) h19 (fun r23 h22 => aIf (r23 = 0) (f_X11_mayCut SM 0 (nI (16 * n + m)) a3 h22 (fun r26 h25 => aIf (¬ r26 = 0) (f_X11_makesRow SM 0 (nI (16 * n + m)) h25 (fun r29 h28 => aIf (r29 = 0) (∀ v31 : Int32, v31 = (gI h28 0 2) → aIn SM 0 (gR h28 0 9) v31 ∧ ∀ h33 : aH, h33 = sA h28 (gR h28 0 9) (v31).toNatClampNeg (nI (16 * n + m)) → ∀ v34 : Int32, v34 = (gI h33 0 2) → aIn SM 0 (gR h33 0 10) v34 ∧ ∀ h36 : aH, h36 = sA h33 (gR h33 0 10) (v34).toNatClampNeg a3 → ∀ v37 : Int32, v37 = (gI h36 0 2) → aIn SM 0 (gR h36 0 11) v37 ∧ ∀ h39 : aH, h39 = sA h36 (gR h36 0 11) (v37).toNatClampNeg a4 → ∀ v40 : Int32, v40 = (gI h39 0 2) → aIn SM 0 (gR h39 0 12) v40 ∧ ∀ h42 : aH, h42 = sA h39 (gR h39 0 12) (v40).toNatClampNeg a5 → ∀ v43 : Int32, v43 = (gI h42 0 2) → aIn SM 0 (gR h42 0 13) v43 ∧ ∀ h45 : aH, h45 = sA h42 (gR h42 0 13) (v43).toNatClampNeg a6 → ∀ v46 : Int32, v46 = (gI h45 0 2) → aIn SM 0 (gR h45 0 8) (nI (16 * n + m)) ∧ ∀ h48 : aH, h48 = sA h45 (gR h45 0 8) (nI (16 * n + m)).toNatClampNeg v46 → ∀ v49 : Int32, v49 = (gI h48 0 2) → ∀ h50 : aH, h50 = sI h48 0 2 (v49 + 1) → ∀ v51 : Int32, v51 = (gI h50 0 2) → Q (v51 - 1) h50) (Q (-3) h28))) (Q (-2) h25))) (Q (-1) h22))))) → f_X11_cut SM 0 (nI m) (nI n) a3 a4 a5 a6 hm Q := by
      intro Q hq0 hq1
      unfold f_X11_cut
      refine sq _ (aIf_f (by decide) ?_)
      refine li_t (b := 0) (c := 4) p3 (aIf_f (by decide) ?_)
      refine dg_t p4 (aIf_f (by decide) ?_)
      refine dg_t p5 (aIf_f (by decide) ?_)
      refine dg_t p6 (aIf_f (by decide) ?_)
      intro v ev
      rw [e2] at ev
      subst ev
      refine aIf_i (fun c => ?_) (fun c => hq0 (fun z => c (fun y => absurd ((nI_eq (b := 12) (by omega) (by decide)).mp y) (by omega))))
      intro x ex
      rw [sq_at] at ex
      subst ex
      refine hq1 (Nat.lt_of_le_of_ne hhn (fun z => c (by rw [z]; rfl)))
    refine aIf_i (fun c => run _ (fun _ => ⟨rfl, Inv_same I⟩) (fun z => absurd ((nI_leI (a := 12) (by decide) (by omega)).mp c) (by omega))) (fun c => ?_)
    have h12 : hn < 12 := Nat.lt_of_not_le (fun z => c ((nI_leI (a := 12) (by decide) (by omega)).mpr z))
    refine sp_isFree hk i1 i3 i5 hs (fun f1 f2 => ?_) (fun f0 => ?_)
    rotate_left
    · refine aIf_f (fun z => z rfl) (run _ (fun z => absurd h12 z) (fun _ => ?_))
      refine sr_isIce i2 i4 hs (fun g1 => aIf_f (by decide) ?_) (fun _ => aIf_t rfl ⟨rfl, Inv_same I⟩)
      exact sr_standsOn i2 i4 i5 (fun _ => aIf_f (by decide) ⟨rfl, Inv_same I⟩) (fun z => absurd ⟨g1, z⟩ f0)
    refine aIf_t (by decide) ?_
    have run2 : ∀ Q : Int32 → aH → Prop, f_X11_mayCut SM 0 (nI (16 * n + m)) a3 hm _ → f_X11_cut SM 0 (nI m) (nI n) a3 a4 a5 a6 hm Q := fun Q hq => run Q (fun z => absurd h12 z) (fun _ => sr_isIce i2 i4 hs (fun g1 => aIf_f (by decide) (sr_standsOn i2 i4 i5 (fun ⟨g, y1, y2⟩ => absurd y2 (f2 g y1)) (fun z => aIf_t rfl hq))) (fun z => absurd f1 z))
    rw [c_0_5 i1, c_0_0 i1, co_42, co_1]
    refine ⟨trivial, trivial, sp_allows hk i1 i3 F1 hs (fun h1 s1 y => ?_) (fun h1 s1 y => ?_)⟩
    rotate_left
    · refine aIf_f (fun z => z rfl) (run2 _ ?_)
      exact sr_mayCut i2 i4 i5 F2 hs (fun _ _ z => absurd y z) (fun g1 t1 _ => aIf_f (fun z => z rfl) ⟨rfl, Inv_scr LRok_LR I s1 t1⟩)
    refine aIf_t (by decide) ?_
    have k1 := LayC_2 s1.1 i1
    have k3 := RepC_SFC hk s1 i3
    rw [c_0_0 k1, co_1]
    have run3 : ∀ Q : Int32 → aH → Prop, (∀ g1, SFM hm g1 → f_X11_makesRow SM 0 (nI (16 * n + m)) g1 _) → f_X11_cut SM 0 (nI m) (nI n) a3 a4 a5 a6 hm Q := fun Q hq => run2 Q (sr_mayCut i2 i4 i5 F2 hs (fun g1 t1 _ => aIf_t (by decide) (hq g1 t1)) (fun _ _ z => absurd z y))
    refine ⟨trivial, sp_makesRow hk k1 k3 hs (fun r => ?_) (fun r => ?_)⟩
    · refine aIf_f (by decide) (run3 _ (fun g1 t1 => ?_))
      exact sr_makesRow (LayM_2 t1.1 i2) (RepM_SFM t1 i4) i5 hs (fun _ => aIf_f (by decide) ⟨rfl, Inv_scr LRok_LR I s1 t1⟩) (fun z => absurd r z)
    refine aIf_t rfl ?_
    rw [c_0_0 k1, co_1]
    refine ⟨trivial, sp_openHole hk k1 k3 i5 h12 hs f1 (fun h2 s2 r2 => run3 _ (fun g1 t1 => ?_))⟩
    have j2 := LayM_2 t1.1 i2
    have j4 := RepM_SFM t1 i4
    refine sr_makesRow j2 j4 i5 hs (fun z => absurd z r) (fun _ => aIf_t rfl ?_)
    have e2' : gI g1 0 2 = nI hn := j4.2.2.2.1.trans i5.2.2.1
    intro v ev
    rw [e2'] at ev
    subst ev
    rw [m_9 j2, mi_5, vp_lt h12 (by decide), cl (by omega)]
    refine ⟨trivial, fun g2 q2 v ev => ?_⟩
    have J2 : LayM g2 := LayM_2 (by rw [q2]; rfl) j2
    rw [q2, gI_sA, e2'] at ev
    subst ev
    rw [m_10 J2, mi_6, vp_lt h12 (by decide), cl (by omega)]
    refine ⟨trivial, fun g3 q3 v ev => ?_⟩
    have J3 : LayM g3 := LayM_2 (by rw [q3]; rfl) J2
    rw [q3, gI_sA, q2, gI_sA, e2'] at ev
    subst ev
    rw [m_11 J3, mi_7, vp_lt h12 (by decide), cl (by omega)]
    refine ⟨trivial, fun g4 q4 v ev => ?_⟩
    have J4 : LayM g4 := LayM_2 (by rw [q4]; rfl) J3
    rw [q4, gI_sA, q3, gI_sA, q2, gI_sA, e2'] at ev
    subst ev
    rw [m_12 J4, mi_8, vp_lt h12 (by decide), cl (by omega)]
    refine ⟨trivial, fun g5 q5 v ev => ?_⟩
    have J5 : LayM g5 := LayM_2 (by rw [q5]; rfl) J4
    rw [q5, gI_sA, q4, gI_sA, q3, gI_sA, q2, gI_sA, e2'] at ev
    subst ev
    rw [m_13 J5, mi_9, vp_lt h12 (by decide), cl (by omega)]
    refine ⟨trivial, fun g6 q6 v ev => ?_⟩
    have J6 : LayM g6 := LayM_2 (by rw [q6]; rfl) J5
    rw [q6, gI_sA, q5, gI_sA, q4, gI_sA, q3, gI_sA, q2, gI_sA, e2'] at ev
    subst ev
    rw [m_8 J6, mi_4, vp_lt hs (by decide), cl (by omega)]
    refine ⟨trivial, fun g7 q7 v ev g8 q8 v' ev' => ?_⟩
    have gI7 : ∀ j, gI g7 0 j = gI g1 0 j := fun j => by rw [q7, gI_sA, q6, gI_sA, q5, gI_sA, q4, gI_sA, q3, gI_sA, q2, gI_sA]
    rw [gI7, e2'] at ev
    subst ev
    rw [q8, gI_sI, if_pos ⟨rfl, rfl⟩] at ev'
    subst ev'
    refine ⟨(Int32.add_sub_cancel _ _).symm, ?_⟩
    have nn : ∀ x : Int32, ∀ M : Nat, M < 1000 → 0 ≤ x ∧ x ≤ nI M → ∃ v, v ≤ M ∧ x = nI v := fun x M hM z => nI_of2 (x := x) (M := nI M) (n := M) (by rw [nI_toInt (by omega)]) (Int32.not_lt.mpr z.1) z.2
    refine Inv_step LRok_LR (L' := cutL L hn (16 * n + m) a3 a4 a5 a6) (hn' := hn + 1) (gn' := gn) I (CS_tr (CS_SFC s1) (CS_K (Or.inl rfl) s2)) ?_ r2 ?_ (WF_cut i5 h12 hs f1 f2 (nn a3 4 (by decide) p3) (nn a4 9 (by decide) p4) (nn a5 9 (by decide) p5) (nn a6 9 (by decide) p6))
    · refine MS_tr (MS_SFM t1) ?_
      subst q2 q3 q4 q5 q6 q7 q8
      exact MS_tr (MS_tr (MS_tr (MS_tr (MS_tr (MS_tr (MS_sA (by omega) (by omega) (by omega) (by omega)) (MS_sA (by omega) (by omega) (by omega) (by omega))) (MS_sA (by omega) (by omega) (by omega) (by omega))) (MS_sA (by omega) (by omega) (by omega) (by omega))) (MS_sA (by omega) (by omega) (by omega) (by omega))) (MS_sA (by omega) (by omega) (by omega) (by omega))) (MS_sI (by omega))
    · have u : ∀ f i, f ≠ 1 → cutL L hn (16 * n + m) a3 a4 a5 a6 f i = holeL L hn (16 * n + m) a3 a4 a5 a6 f i := fun f i hf => uL_n (fun z => hf z.1)
      have up : ∀ (g : aH) (q j : Nat) (v : Int32) (i : Nat), gA (sA g q j v) q i = if i = j then v else gA g q i := fun g q j v i => by
        by_cases z : i = j
        · rw [z, gA_e, if_pos rfl]
        · rw [gA_p z, if_neg z]
      subst q8
      refine ⟨fun i hi => ?_, fun i hi => ?_, fun i hi => ?_, ?_⟩
      · subst q2 q3 q4 q5 q6 q7
        rw [u 0 i (by decide), gA_sI, gA_o (c2 := 2) (by decide), gA_o (c2 := 2) (by decide), gA_o (c2 := 2) (by decide), gA_o (c2 := 2) (by decide), gA_o (c2 := 2) (by decide), gA_o (c2 := 2) (by decide), gA_o (c2 := 3) (by decide), gA_o (c2 := 3) (by decide), gA_o (c2 := 3) (by decide), gA_o (c2 := 3) (by decide), gA_o (c2 := 3) (by decide), gA_o (c2 := 3) (by decide), up, gA_o (c2 := 4) (by decide), gA_o (c2 := 4) (by decide), gA_o (c2 := 4) (by decide), gA_o (c2 := 4) (by decide), gA_o (c2 := 4) (by decide)]
        by_cases z : i = 16 * n + m
        · have e5 : cutL L hn (16 * n + m) a3 a4 a5 a6 1 i = nI hn := by rw [z]; exact uL_s _ _ _ _
          rw [e5, if_pos z, if_neg (nI_neg2 (by omega)), if_neg (nI_neg2 (by omega)), (j4.1 i hi).2.1, if_neg (by rw [z, f1]; decide)]
          exact ⟨(j4.1 i hi).1, rfl, rfl⟩
        · have e5 : cutL L hn (16 * n + m) a3 a4 a5 a6 1 i = L 1 i := uL_n (fun y => z y.2)
          rw [e5, if_neg z]
          exact j4.1 i hi
      · obtain ⟨b1, b2, b3, b4, b5⟩ := j4.2.1 i hi
        subst q2 q3 q4 q5 q6 q7
        rw [u 2 i (by decide), u 3 i (by decide), u 4 i (by decide), u 5 i (by decide), u 6 i (by decide), gA_sI]
        refine ⟨?_, ?_, ?_, ?_, ?_⟩
        · rw [gA_o (by decide), gA_o (by decide), gA_o (by decide), gA_o (by decide), gA_o (by decide), up, b1]; rfl
        · rw [gA_o (by decide), gA_o (by decide), gA_o (by decide), gA_o (by decide), up, gA_o (by decide), b2]; rfl
        · rw [gA_o (by decide), gA_o (by decide), gA_o (by decide), up, gA_o (by decide), gA_o (by decide), b3]; rfl
        · rw [gA_o (by decide), gA_o (by decide), up, gA_o (by decide), gA_o (by decide), gA_o (by decide), b4]; rfl
        · rw [gA_o (by decide), up, gA_o (by decide), gA_o (by decide), gA_o (by decide), gA_o (by decide), b5]; rfl
      · rw [u 7 i (by decide), u 8 i (by decide), gA_sI]
        have o : ∀ q, 10 ≤ q → q ≤ 11 → gA g7 q i = gA g1 q i := fun q q1 q2' => by
          subst q2 q3 q4 q5 q6 q7
          rw [gA_o (by omega), gA_o (by omega), gA_o (by omega), gA_o (by omega), gA_o (by omega), gA_o (by omega)]
        rw [o 10 (by decide) (by decide), o 11 (by decide) (by decide)]
        exact j4.2.2.1 i hi
      · rw [gI_sI, if_pos ⟨rfl, rfl⟩, gI_sI, if_neg (fun z => absurd z.2 (by decide)), gI_sI, if_neg (fun z => absurd z.2 (by decide)), gI_sI, if_neg (fun z => absurd z.2 (by decide)), gI7, gI7, gI7, u 9 0 (by decide), u 9 1 (by decide), u 9 2 (by decide), u 9 3 (by decide), nI_1]
        exact ⟨rfl, j4.2.2.2.2⟩
  · refine aIf_t rfl ?_
    unfold f_X11_cut
    refine sr_isSquare (fun m2 n2 b3 b4 b5 b6 => absurd ⟨by rw [b5]; exact vp_in_nI b3 (by decide), by rw [b6]; exact vp_in_nI b4 (by decide)⟩ c) (fun _ => ?_)
    exact aIf_t rfl ⟨rfl, Inv_same I⟩
