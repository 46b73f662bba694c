/-! ===== the step of LAW ===== -/
theorem gR_sR {h : aH} {k j v a b : Nat} : gR (sR h k j v) a b = if a = k ∧ b = j then v else gR h a b := rfl
theorem gI_sR {h : aH} {k j v : Nat} : gI (sR h k j v) = gI h := rfl
theorem gA_sR {h : aH} {k j v : Nat} : gA (sR h k j v) = gA h := rfl
theorem LayC_sw {h : aH} {l d : Nat} (hL : LayC h l d) : LayC (sR (sR h 52 1 l) 42 0 d) d l := by
  obtain ⟨h1, h2, h3, h4⟩ := hL
  refine ⟨fun k j a b => ?_, ?_, ?_, ?_⟩
  · rw [gR_sR, if_neg (fun z => a (by rw [z.1, z.2])), gR_sR, if_neg (fun z => b (by rw [z.1, z.2]))]
    exact h1 k j a b
  · rw [gR_sR, if_pos ⟨rfl, rfl⟩]
  · rw [gR_sR, if_neg (by decide), gR_sR, if_pos ⟨rfl, rfl⟩]
  · exact h4.elim (fun z => Or.inr ⟨z.2, z.1⟩) (fun z => Or.inl ⟨z.2, z.1⟩)
/-- a law has been read, or not: the tape is empty, the lakes are as they were -/
theorem Inv_law {hc hm hc' hm' : aH} {L : Lw} {hn gn : Nat} {kp : Bool} {LK : Lw} {tn : Nat} {tb : Nat → Nat} {l d l' d' : Nat} (I : InvL LR hc hm L hn gn kp LK tn tb l d) (yc : LayC hc' l' d') (ym : LayM hm') (ca : ∀ c q, ¬ (43 ≤ c ∧ c ≤ 60) → gA hc' c q = gA hc c q) (ci : ∀ c j, c ≤ 36 → gI hc' c j = gI hc c j) (ct : gI hc' 37 1 = 0) (ma : ∀ c q, ¬ (12 ≤ c ∧ c ≤ 24) → gA hm' c q = gA hm c q) (mi : ∀ j, ¬ (j = 1 ∨ j = 16 ∨ (29 ≤ j ∧ j ≤ 37)) → gI hm' 0 j = gI hm 0 j) (mt : gI hm' 0 1 = 0) (lr : LR hc' hm') : Inv LR hc' hm' := by
  obtain ⟨i1, i2, i3, i4, i5, i6, i7, i8, i9, i10⟩ := I
  refine ⟨L, hn, gn, kp, LK, 0, tb, l', d', yc, ym, ?_, ?_, i5, (ci _ _ (by decide)).trans i6, (mi _ (by omega)).trans i7, fun z => ⟨?_, ?_, (i8 z).2.2⟩, ⟨by omega, ct, mt, fun i hi => ?_⟩, lr⟩
  · exact RepC_gA (fun c i a b => ca c i (by omega)) (fun j => ci 1 j (by decide)) i3
  · exact RepM_gA (fun c i a b => ma c i (by omega)) (fun j a b => mi j (by omega)) i4
  · exact RepC_gA (fun c i a b => ca c i (by omega)) (fun j => ci 13 j (by decide)) (i8 z).1
  · have hR := (i8 z).2.1
    refine ⟨fun i hi => ?_, fun i hi => ?_, fun i hi => ?_, ?_⟩
    · rw [ma 29 _ (by omega), ma 30 _ (by omega), ma 31 _ (by omega)]
      exact hR.1 i hi
    · rw [ma 41 _ (by omega), ma 42 _ (by omega), ma 43 _ (by omega), ma 44 _ (by omega), ma 45 _ (by omega)]
      exact hR.2.1 i hi
    · rw [ma 32 _ (by omega), ma 46 _ (by omega)]
      exact hR.2.2.1 i hi
    · rw [mi 61 (by omega), mi 62 (by omega), ma 33 _ (by omega), mi 63 (by omega)]
      exact hR.2.2.2
  · rw [ca 38 i (by omega), ma 1 i (by omega)]
    exact i9.2.2.2 i hi
theorem n_of {a : Int32} {N : Nat} (hN : N < 2 ^ 31) (h1 : 1 ≤ a) (h2 : a ≤ nI N) : ∃ n, 1 ≤ n ∧ n ≤ N ∧ a = nI n := by
  obtain ⟨z, z1, z2, rfl⟩ := iI_of a
  rw [show (1 : Int32) = iI 1 from rfl, iI_le (by omega) (by omega) (by omega) (by omega)] at h1
  rw [← iI_nat, iI_le (by omega) (by omega) (by omega) (by omega)] at h2
  refine ⟨z.toNat, by omega, by omega, ?_⟩
  rw [← iI_nat, Int.toNat_of_nonneg (by omega)]
theorem s_law : st_law (Inv LR) SC SM := by
  intro hc hm a1 I
  obtain ⟨L, hn, gn, kp, LK, tn, tb, l, d, I⟩ := I
  have I0 := I
  obtain ⟨i1, i2, i3, i4, i5, i6, i7, i8, i9, i10⟩ := I
  obtain ⟨t1, t2, t3, t4⟩ := i9
  refine sp_within (fun b1 b2 => ?_) (fun b => ?_)
  rotate_left
  · refine aIf_t rfl ?_
    show f_X11_lies SM a1.toInt64 (Int32.toInt64 1) (Int32.toInt64 200) hm _
    exact li_f b (aIf_t rfl ⟨rfl, Inv_same I0⟩)
  obtain ⟨n, n1, n2, rfl⟩ := n_of (N := 200) (by decide) b1 b2
  refine aIf_f (by decide) ?_
  rw [c_0_3 i1, co_37]
  refine ⟨trivial, fun v5 e5 => ?_⟩
  rw [t2] at e5
  subst e5
  by_cases ct : n ≤ tn
  rotate_left
  · refine aIf_f (nI_ge (by omega) (by omega)) ?_
    show f_X11_lies SM (nI n).toInt64 (Int32.toInt64 1) (Int32.toInt64 200) hm _
    refine li_t ⟨b1, b2⟩ (aIf_f (by decide) ?_)
    intro v64 e64
    rw [t3] at e64
    subst e64
    exact aIf_f (nI_ge (by omega) (by omega)) ⟨rfl, Inv_same I0⟩
  refine aIf_t (nI_le ct (by omega)) ?_
  rw [c_0_6 i1, co_52]
  have hl : isLaw l := lay_isLaw i1
  have ld : (l = 43 ∧ d = 53) ∨ (l = 53 ∧ d = 43) := i1.2.2.2
  have hd : isLaw d := ld.elim (fun z => Or.inr z.2) (fun z => Or.inl z.2)
  have tc : ∀ q, q < 220 → gA hc 38 q = nI (tb q) ∧ tb q < 256 := fun q hq => ⟨(t4 q hq).2.1, (t4 q hq).1⟩
  have tm : ∀ q, q < 220 → gA hm 1 q &&& 255 = nI (tb q) ∧ tb q < 256 := fun q hq => ⟨(t4 q hq).2.2, (t4 q hq).1⟩
  refine ⟨trivial, sp_read (lt := fun _ => 0) (W := fun _ _ => none) (H := fun _ _ => none) hd i1 n1 n2 tc (fun p h8 e8 F8 R8 => ?_) (fun e h8 e8 ne F8 => ?_)⟩
  · have hL8 := LwF_L i1 F8
    rw [c_0_3 hL8, co_37]
    refine ⟨trivial, fun h11 e11 => aIf_t rfl ?_⟩
    have hL11 : LayC h11 l d := LayC_2 (by rw [e11]; exact F8.1) i1
    rw [c_0_5 hL11, co_42, c_0_6 hL11, co_52, hL11.2.1]
    refine ⟨trivial, trivial, (lw_o hl).mpr trivial, fun h16 e16 h18 e18 => ?_⟩
    rw [hL11.2.2.1] at e18
    have e18' : h18 = sR (sR h11 52 1 l) 42 0 d := by rw [e18, e16]
    have hL18 : LayC h18 d l := by rw [e18']; exact LayC_sw hL11
    rw [c_0_5 hL18, co_42, hL18.2.1]
    refine ⟨trivial, (lw_o hd).mpr trivial, fun v21 e21 => ?_⟩
    have ga : ∀ c q, gA h18 c q = gA h8 c q := fun c q => by rw [e18', gA_sR, gA_sR, e11, gA_sI]
    have gi : ∀ c j, ¬ (c = 37 ∧ j = 1) → gI h18 c j = gI h8 c j := fun c j hcj => by rw [e18', gI_sR, gI_sR, e11, gI_sI, if_neg hcj]
    have R18 : RepLC h18 d p.1 p.2.1 p.2.2.2 p.2.2.1 := RepLC_to (fun c _ _ i => ga c i) (gi _ _ (by unfold isLaw at hd; omega)) (gi _ _ (by unfold isLaw at hd; omega)) R8
    have e6 : gI h18 d 6 = nI p.1 := R18.elim (fun _ z => z.2.2.1)
    rw [e6] at e21
    subst e21
    refine sr_law (lt := fun _ => 0) (W := fun _ _ => none) (H := fun _ _ => none) i2 n1 n2 ct t1 t3 tm (fun p' h' e' F' R' => ?_) (fun e h' e' ne F' => ?_)
    · have ep : p' = p := Sum.inr.inj (e'.symm.trans e8)
      subst ep
      refine ⟨rfl, Inv_law I0 hL18 (LayM_2 F'.1 (LayM_2 rfl i2)) (fun c q hc => (ga c q).trans (F8.2.1 c q (by omega))) (fun c j hc => (gi c j (by omega)).trans (F8.2.2 c j (by omega) (by omega))) (by rw [e18', gI_sR, gI_sR, e11, gI_sI, if_pos ⟨rfl, rfl⟩]) (fun c q hc => F'.2.1 c q (by omega)) (fun j hj => (F'.2.2 0 j (by omega)).trans (gI_n (by omega))) ((F'.2.2 0 1 (by omega)).trans gI_y) ?_⟩
      unfold LR
      rw [hL18.2.1]
      exact ⟨hd, p'.1, p'.2.1, p'.2.2.2, p'.2.2.1, R18, R'⟩
    · rw [e8] at e'
      exact nomatch e'
  · have hL8 := LwF_L i1 F8
    rw [c_0_3 hL8, co_37]
    refine ⟨trivial, fun h11 e11 => aIf_f ne ?_⟩
    have hL11 : LayC h11 l d := LayC_2 (by rw [e11]; exact F8.1) i1
    have ga : ∀ c q, gA h11 c q = gA h8 c q := fun c q => by rw [e11, gA_sI]
    have gi : ∀ c j, ¬ (c = 37 ∧ j = 1) → gI h11 c j = gI h8 c j := fun c j hcj => by rw [e11, gI_sI, if_neg hcj]
    refine sr_law (lt := fun _ => 0) (W := fun _ _ => none) (H := fun _ _ => none) i2 n1 n2 ct t1 t3 tm (fun p' h' e' F' R' => ?_) (fun e2 h' e' ne' F' => ?_)
    · rw [e8] at e'
      exact nomatch e'
    · have ee : e2 = e := Sum.inl.inj (e'.symm.trans e8)
      subst ee
      refine ⟨rfl, Inv_law I0 hL11 (LayM_2 F'.1 (LayM_2 rfl i2)) (fun c q hc => (ga c q).trans (F8.2.1 c q (by omega))) (fun c j hc => (gi c j (by omega)).trans (F8.2.2 c j (by omega) (by omega))) (by rw [e11, gI_sI, if_pos ⟨rfl, rfl⟩]) (fun c q hc => F'.2.1 c q (by omega)) (fun j hj => (F'.2.2 0 j (by omega)).trans (gI_n (by omega))) ((F'.2.2 0 1 (by omega)).trans gI_y) ?_⟩
      obtain ⟨q1, k, lt, H, W, q2, q3⟩ := i10
      rw [i1.2.1] at q2
      unfold LR
      rw [hL11.2.1]
      refine ⟨hl, k, lt, H, W, RepLC_to (fun c _ _ i => (ga c i).trans (F8.2.1 c i (by omega))) ((gi _ _ (by omega)).trans (F8.2.2 _ _ (by omega) (by omega))) ((gi _ _ (by omega)).trans (F8.2.2 _ _ (by omega) (by omega))) q2, RepLM_to (fun c hc i => F'.2.1 c i (by omega)) ((F'.2.2 0 16 (by omega)).trans (gI_n (by decide))) q3⟩
