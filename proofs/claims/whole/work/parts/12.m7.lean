/-! ===== steps: count, holeIs, shut, ice, group ===== -/
section Steps2
variable {LR : aH → aH → Prop}
theorem gA_o {h : aH} {c c2 i j : Nat} {v : Int32} (hc : c2 ≠ c) : gA (sA h c i v) c2 j = gA h c2 j := if_neg (fun z => hc z.1)
theorem gA_e {h : aH} {c i : Nat} {v : Int32} : gA (sA h c i v) c i = v := if_pos ⟨rfl, rfl⟩
theorem gA_p {h : aH} {c i j : Nat} {v : Int32} (hj : j ≠ i) : gA (sA h c i v) c j = gA h c j := if_neg (fun z => hj z.2)
/-- COUNT -/
theorem s_count (ok : LRok LR) : st_count (Inv LR) SC SM := by
  intro hc hm a1 hI
  obtain ⟨L, hn, gn, kp, LK, tn, tb, l, d, I⟩ := hI
  obtain ⟨i1, i2, i3, i4, i5, i6, i7, i8, i9, i10⟩ := id I
  unfold f_X10_count
  refine aIf_i (fun c => ?_) (fun c0 => aIf_i (fun c => ?_) (fun c1 => aIf_i (fun c => ?_) (fun c2 => aIf_i (fun c => ?_) (fun c3 => aIf_i (fun c => ?_) (fun c4 => aIf_i (fun c => ?_) (fun c5 => aIf_i (fun c => ?_) (fun c6 => aIf_i (fun c => ?_) (fun c7 => ?_))))))))
  · subst c
    rw [c_0_0 i1, co_1]
    refine ⟨trivial, fun v e => ?_⟩
    subst e
    unfold f_X11_count
    refine aIf_t rfl ?_
    intro v e
    subst e
    exact ⟨i3.2.2.2.2.2.1.trans i4.2.2.2.2.2.1.symm, Inv_same I⟩
  · subst c
    rw [c_0_0 i1, co_1]
    refine ⟨trivial, fun v e => ?_⟩
    subst e
    unfold f_X11_count
    refine aIf_f (by decide) ?_
    refine aIf_t rfl ?_
    intro v e
    subst e
    exact ⟨i3.2.2.2.1.trans i4.2.2.2.1.symm, Inv_same I⟩
  · subst c
    rw [c_0_0 i1, co_1]
    refine ⟨trivial, fun v e => ?_⟩
    subst e
    unfold f_X11_count
    refine aIf_f (by decide) ?_
    refine aIf_f (by decide) ?_
    refine aIf_t rfl ?_
    intro v e
    subst e
    exact ⟨i3.2.2.2.2.1.trans i4.2.2.2.2.1.symm, Inv_same I⟩
  · subst c
    rw [c_0_5 i1, co_42, c_42_0 i1]
    have oo : aObj SC l 2 flX3 := by rcases i1.2.2.2 with z | z <;> rw [z.1] <;> exact ⟨by decide, rfl⟩
    refine ⟨trivial, oo, fun v e => ?_⟩
    subst e
    unfold f_X11_count
    refine aIf_f (by decide) ?_
    refine aIf_f (by decide) ?_
    refine aIf_f (by decide) ?_
    refine aIf_t rfl ?_
    intro v e
    subst e
    exact ⟨(by rw [← c_42_0 i1]; exact ok.2 _ _ i10), Inv_same I⟩
  · subst c
    rw [c_0_3 i1, co_37]
    refine ⟨trivial, fun v e => ?_⟩
    subst e
    unfold f_X11_count
    refine aIf_f (by decide) ?_
    refine aIf_f (by decide) ?_
    refine aIf_f (by decide) ?_
    refine aIf_f (by decide) ?_
    refine aIf_t rfl ?_
    intro v e
    subst e
    exact ⟨i9.2.1.trans i9.2.2.1.symm, Inv_same I⟩
  · subst c
    rw [c_0_0 i1, co_1]
    refine ⟨trivial, fun v e => ?_⟩
    subst e
    unfold f_X11_count
    refine aIf_f (by decide) ?_
    refine aIf_f (by decide) ?_
    refine aIf_f (by decide) ?_
    refine aIf_f (by decide) ?_
    refine aIf_f (by decide) ?_
    refine aIf_t rfl ?_
    intro v e
    subst e
    exact ⟨i3.2.2.2.2.2.2.trans i4.2.2.2.2.2.2.symm, Inv_same I⟩
  · subst c
    rw [c_0_0 i1, co_1]
    refine ⟨trivial, sp_brokenTotal (Or.inl rfl) i1 i3 ?_⟩
    unfold f_X11_count
    refine aIf_f (by decide) ?_
    refine aIf_f (by decide) ?_
    refine aIf_f (by decide) ?_
    refine aIf_f (by decide) ?_
    refine aIf_f (by decide) ?_
    refine aIf_f (by decide) ?_
    refine aIf_t rfl ?_
    exact sr_brokenMany i2 i4 ⟨rfl, Inv_same I⟩
  · subst c
    rw [c_0_0 i1, co_1]
    refine ⟨trivial, sp_drownedTotal (Or.inl rfl) i1 i3 i5 ?_⟩
    unfold f_X11_count
    refine aIf_f (by decide) ?_
    refine aIf_f (by decide) ?_
    refine aIf_f (by decide) ?_
    refine aIf_f (by decide) ?_
    refine aIf_f (by decide) ?_
    refine aIf_f (by decide) ?_
    refine aIf_f (by decide) ?_
    refine aIf_t rfl ?_
    exact sr_drownedMany i2 i4 i5 ⟨rfl, Inv_same I⟩
  · unfold f_X11_count
    exact aIf_f c0 (aIf_f c1 (aIf_f c2 (aIf_f c3 (aIf_f c4 (aIf_f c5 (aIf_f c6 (aIf_f c7 (⟨rfl, Inv_same I⟩))))))))

/-- HOLEIS -/
theorem s_holeIs (ok : LRok LR) : st_holeIs (Inv LR) SC SM := by
  intro hc hm a1 a2 hI
  obtain ⟨L, hn, gn, kp, LK, tn, tb, l, d, I⟩ := hI
  obtain ⟨i1, i2, i3, i4, i5, i6, i7, i8, i9, i10⟩ := id I
  have hhn := i5.1
  have hk : isLake 1 := Or.inl rfl
  unfold f_X10_holeIs
  rw [c_0_0 i1, co_1]
  refine ⟨trivial, sp_hasHole i3 i5 (fun m hm1 e => ?_) (fun c => ?_)⟩
  · subst e
    have ref : ∀ Q' : Int32 → aH → Prop, aIf (a2 = 0) (aIn SM 0 (gR hm 0 9) (nI m) ∧ ∀ v6 : Int32, v6 = (gA hm (gR hm 0 9) (nI m).toNatClampNeg) → Q' v6 hm) (aIf (a2 = 1) (f_X11_isOpen SM 0 (nI m) hm (fun r8 h7 => aIf (r8 = 0) (Q' 0 h7) (Q' 1 h7))) (aIf (a2 = 2) (aIn SM 0 (gR hm 0 10) (nI m) ∧ ∀ v : Int32, v = (gA hm (gR hm 0 10) (nI m).toNatClampNeg) → Q' v hm) (aIf (a2 = 3) (aIn SM 0 (gR hm 0 11) (nI m) ∧ ∀ v : Int32, v = (gA hm (gR hm 0 11) (nI m).toNatClampNeg) → Q' v hm) (aIf (a2 = 4) (aIn SM 0 (gR hm 0 12) (nI m) ∧ ∀ v : Int32, v = (gA hm (gR hm 0 12) (nI m).toNatClampNeg) → Q' v hm) (aIf (a2 = 5) (aIn SM 0 (gR hm 0 13) (nI m) ∧ ∀ v : Int32, v = (gA hm (gR hm 0 13) (nI m).toNatClampNeg) → Q' v hm) (Q' (-1) hm)))))) → f_X11_holeIs SM 0 (nI m) a2 hm Q' := fun Q' H => by
      unfold f_X11_holeIs
      exact sr_isHole i4 i5 (fun m2 _ _ => aIf_t (by decide) H) (fun c => absurd rfl (c m hm1))
    refine aIf_t (by decide) ?_
    refine aIf_i (fun c => ?_) (fun c0 => aIf_i (fun c => ?_) (fun c1 => aIf_i (fun c => ?_) (fun c2 => aIf_i (fun c => ?_) (fun c3 => aIf_i (fun c => ?_) (fun c4 => aIf_i (fun c => ?_) (fun c5 => ?_))))))
    · subst c
      rw [c_0_0 i1, co_1, c_1_4 i1, ca_6, vp_lt (show m < 12 by omega) (by decide), cl (by omega)]
      refine ⟨trivial, trivial, fun v e => ref _ ?_⟩
      subst e
      refine aIf_t rfl ?_
      rw [m_9 i2, mi_5, vp_lt (show m < 12 by omega) (by decide), cl (by omega)]
      refine ⟨trivial, fun v e => ?_⟩
      subst e
      exact ⟨(i3.2.1 m (by omega)).1.trans (i4.2.1 m (by omega)).1.symm, Inv_same I⟩
    · subst c
      rw [c_0_0 i1, co_1]
      refine ⟨trivial, sp_isOpen hk i1 i3 i5 (fun m2 s2 b1 b2 b3 b4 b5 => ?_) (fun c => ?_)⟩
      · refine aIf_f (by decide) (ref _ ?_)
        refine aIf_f (by decide) (aIf_t rfl ?_)
        refine sr_isOpen i2 i4 i5 (fun _ _ _ _ _ _ _ => aIf_f (by decide) ⟨rfl, Inv_same I⟩) (fun c => absurd b5 (c m2 s2 b1 b3 b4 b2))
      · refine aIf_t rfl (ref _ ?_)
        refine aIf_f (by decide) (aIf_t rfl ?_)
        exact sr_isOpen i2 i4 i5 (fun m2 s2 b1 b2 b3 b4 b5 => absurd b5 (c m2 s2 b1 b3 b4 b2)) (fun _ => aIf_t rfl ⟨rfl, Inv_same I⟩)
    · subst c
      rw [c_0_0 i1, co_1, c_1_5 i1, ca_7, vp_lt (show m < 12 by omega) (by decide), cl (by omega)]
      refine ⟨trivial, trivial, fun v e => ref _ ?_⟩
      subst e
      refine aIf_f (by decide) ?_
      refine aIf_f (by decide) ?_
      refine aIf_t rfl ?_
      rw [m_10 i2, mi_6, vp_lt (show m < 12 by omega) (by decide), cl (by omega)]
      refine ⟨trivial, fun v e => ?_⟩
      subst e
      exact ⟨(i3.2.1 m (by omega)).2.1.trans (i4.2.1 m (by omega)).2.1.symm, Inv_same I⟩
    · subst c
      rw [c_0_0 i1, co_1, c_1_6 i1, ca_8, vp_lt (show m < 12 by omega) (by decide), cl (by omega)]
      refine ⟨trivial, trivial, fun v e => ref _ ?_⟩
      subst e
      refine aIf_f (by decide) ?_
      refine aIf_f (by decide) ?_
      refine aIf_f (by decide) ?_
      refine aIf_t rfl ?_
      rw [m_11 i2, mi_7, vp_lt (show m < 12 by omega) (by decide), cl (by omega)]
      refine ⟨trivial, fun v e => ?_⟩
      subst e
      exact ⟨(i3.2.1 m (by omega)).2.2.1.trans (i4.2.1 m (by omega)).2.2.1.symm, Inv_same I⟩
    · subst c
      rw [c_0_0 i1, co_1, c_1_7 i1, ca_9, vp_lt (show m < 12 by omega) (by decide), cl (by omega)]
      refine ⟨trivial, trivial, fun v e => ref _ ?_⟩
      subst e
      refine aIf_f (by decide) ?_
      refine aIf_f (by decide) ?_
      refine aIf_f (by decide) ?_
      refine aIf_f (by decide) ?_
      refine aIf_t rfl ?_
      rw [m_12 i2, mi_8, vp_lt (show m < 12 by omega) (by decide), cl (by omega)]
      refine ⟨trivial, fun v e => ?_⟩
      subst e
      exact ⟨(i3.2.1 m (by omega)).2.2.2.1.trans (i4.2.1 m (by omega)).2.2.2.1.symm, Inv_same I⟩
    · subst c
      rw [c_0_0 i1, co_1, c_1_8 i1, ca_10, vp_lt (show m < 12 by omega) (by decide), cl (by omega)]
      refine ⟨trivial, trivial, fun v e => ref _ ?_⟩
      subst e
      refine aIf_f (by decide) ?_
      refine aIf_f (by decide) ?_
      refine aIf_f (by decide) ?_
      refine aIf_f (by decide) ?_
      refine aIf_f (by decide) ?_
      refine aIf_t rfl ?_
      rw [m_13 i2, mi_9, vp_lt (show m < 12 by omega) (by decide), cl (by omega)]
      refine ⟨trivial, fun v e => ?_⟩
      subst e
      exact ⟨(i3.2.1 m (by omega)).2.2.2.2.trans (i4.2.1 m (by omega)).2.2.2.2.symm, Inv_same I⟩
    · exact ref _ (aIf_f c0 (aIf_f c1 (aIf_f c2 (aIf_f c3 (aIf_f c4 (aIf_f c5 (⟨rfl, Inv_same I⟩)))))))
  · refine aIf_f (by decide) ?_
    unfold f_X11_holeIs
    exact sr_isHole i4 i5 (fun m hm1 e => absurd e (c m hm1)) (fun _ => aIf_f (by decide) ⟨rfl, Inv_same I⟩)

theorem WF_cover {L : Lw} {hn gn s : Nat} {v : Int32} (hW : WF L hn gn) (hs : s < 256) (hv : v = (-1) ∨ v = (-2)) (hg : v = (-2) → ∀ g, g < gn → ¬ L 7 g = nI s) : WF (uL L 1 s v) hn gn := by
  have u : ∀ f i, f ≠ 1 → uL L 1 s v f i = L f i := fun f i hf => uL_n (fun z => hf z.1)
  obtain ⟨w1, w2, w3, w4, w5, w6, w7, w8, w9, w10⟩ := hW
  refine ⟨w1, w2, by rw [u 9 0 (by decide)]; exact w3, by rw [u 9 1 (by decide)]; exact w4, fun i hi => by rw [u 0 i (by decide)]; exact w5 i hi, fun i hi => ?_, fun m hm => by rw [u 2 m (by decide)]; exact w7 m hm, fun m hm => by rw [u 3 m (by decide), u 4 m (by decide), u 5 m (by decide), u 6 m (by decide)]; exact w8 m hm, fun g hg1 => ?_, by rw [u 9 3 (by decide)]; exact w10⟩
  · by_cases c : i = s
    · subst c
      rw [uL_s]
      rcases hv with z | z
      · exact Or.inl z
      · exact Or.inr (Or.inl z)
    · rw [uL_n (fun z => c z.2)]
      rcases w6 i hi with z | z | ⟨m, z1, z2, z3⟩
      · exact Or.inl z
      · exact Or.inr (Or.inl z)
      · exact Or.inr (Or.inr ⟨m, z1, z2, by rw [u 2 m (by decide)]; exact z3⟩)
  · rw [u 7 g (by decide), u 8 g (by decide)]
    refine ⟨?_, (w9 g hg1).2⟩
    rcases (w9 g hg1).1 with z | ⟨s2, z1, z2, z3⟩
    · exact Or.inl z
    · refine Or.inr ⟨s2, z1, z2, ?_⟩
      by_cases c : s2 = s
      · subst c
        rw [uL_s]
        rcases hv with y | y
        · exact y
        · exact absurd z2 (hg y g hg1)
      · rw [uL_n (fun z => c z.2)]
        exact z3
/-- SHUT -/
theorem s_shut (ok : LRok LR) : st_shut (Inv LR) SC SM := by
  intro hc hm a1 hI
  obtain ⟨L, hn, gn, kp, LK, tn, tb, l, d, I⟩ := hI
  obtain ⟨i1, i2, i3, i4, i5, i6, i7, i8, i9, i10⟩ := id I
  have hhn := i5.1
  have hk : isLake 1 := Or.inl rfl
  unfold f_X10_shut
  rw [c_0_0 i1, co_1]
  refine ⟨trivial, sp_isOpen hk i1 i3 i5 (fun m s b1 b2 b3 b4 b5 => ?_) (fun c => ?_)⟩
  · refine aIf_t (by decide) ?_
    subst b3
    rw [c_0_0 i1, co_1]
    refine ⟨trivial, sp_closeHole hk i1 i3 i5 b1 b2 b4 b5 (fun hc' fr rp => ?_)⟩
    unfold f_X11_shut
    refine sr_isOpen i2 i4 i5 (fun _ _ _ _ _ _ _ => ?_) (fun c => absurd b5 (c m s b1 rfl b4 b2))
    refine aIf_t (by decide) ?_
    rw [m_9 i2, mi_5, vp_lt (show m < 12 by omega) (by decide), cl (by omega), (i4.2.1 m (by omega)).1, b4]
    refine ⟨trivial, fun v e => ?_⟩
    subst e
    rw [m_8 i2, mi_4, vp_lt b2 (by decide), cl (by omega)]
    refine ⟨trivial, fun hm' e => ⟨rfl, ?_⟩⟩
    subst e
    refine Inv_step ok (L' := uL L 1 s (-1)) (hn' := hn) (gn' := gn) I (CS_K (Or.inl rfl) fr) (MS_sA (by omega) (by omega) (by omega) (by omega)) rp ?_ (WF_cover i5 b2 (Or.inl rfl) (fun z => absurd z (by decide)))
    refine RepM_now i4 (fun i hi => ?_) (fun c i c1 c2 => by rw [gA_sA, if_neg (fun z => absurd z.1 (by omega))]) (fun f i hf => uL_n (fun z => absurd z.1 (by omega))) (fun _ => rfl)
    rw [gA_o (c2 := 2) (by decide), gA_o (c2 := 3) (by decide), uL_n (a := 0) (fun z => absurd z.1 (by decide))]
    by_cases c : i = s
    · subst c
      rw [gA_e, uL_s]
      refine ⟨(i4.1 i hi).1, ?_, rfl⟩
      rw [(i4.1 i hi).2.1, b5, if_neg (nI_neg2 (by omega))]
      rfl
    · rw [gA_p c, uL_n (a := 1) (b := i) (fun z => c z.2)]
      exact i4.1 i hi
  · refine aIf_f (by decide) ?_
    unfold f_X11_shut
    exact sr_isOpen i2 i4 i5 (fun m s b1 b2 b3 b4 b5 => absurd b5 (c m s b1 b3 b4 b2)) (fun _ => aIf_f (by decide) ⟨rfl, Inv_same I⟩)
end Steps2
