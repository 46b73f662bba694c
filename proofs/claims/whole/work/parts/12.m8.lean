/-! ===== steps: ice, group ===== -/
theorem sq_at {m n : Nat} : (16 : Int32) * nI n + nI m = nI (16 * n + m) := by
  rw [show (16 : Int32) = nI 16 from rfl, pk_mul, nI_add]
theorem rep_thick {h : aH} {k s : Nat} {L : Lw} {v : Int32} (hR : RepC h k L) : RepC (sA h (k + 1) s v) k (uL L 0 s v) := by
  have u : ∀ f i, f ≠ 0 → uL L 0 s v f i = L f i := fun f i hf => uL_n (fun z => hf z.1)
  have o : ∀ c i, c ≠ k + 1 → gA (sA h (k + 1) s v) c i = gA h c i := fun c i hc => gA_o hc
  refine ⟨fun i hi => ?_, fun i hi => ?_, fun i hi => ?_, ?_⟩
  · rw [o (k + 2) _ (by omega), o (k + 3) _ (by omega), o (k + 4) _ (by omega), gaps_eq (fun t => u 1 t (by decide)), warm_eq (fun t => u 1 t (by decide)) (fun t => u 4 t (by decide)), u 1 i (by decide)]
    refine ⟨?_, (hR.1 i hi).2⟩
    by_cases c : i = s
    · subst c; rw [gA_e, uL_s]
    · rw [gA_p c, uL_n (fun z => c z.2)]; exact (hR.1 i hi).1
  · rw [o _ _ (by omega), o _ _ (by omega), o _ _ (by omega), o _ _ (by omega), o _ _ (by omega), u 2 i (by decide), u 3 i (by decide), u 4 i (by decide), u 5 i (by decide), u 6 i (by decide)]
    exact hR.2.1 i hi
  · rw [o _ _ (by omega), o _ _ (by omega), u 7 i (by decide), u 8 i (by decide)]
    exact hR.2.2.1 i hi
  · rw [u 9 0 (by decide), u 9 1 (by decide), u 9 2 (by decide), u 9 3 (by decide)]
    exact hR.2.2.2
theorem WF_thick {L : Lw} {hn gn s t : Nat} (hW : WF L hn gn) (ht : t ≤ 99) : WF (uL L 0 s (nI t)) hn gn := by
  have u : ∀ f i, f ≠ 0 → uL L 0 s (nI t) f i = L f i := fun f i hf => uL_n (fun z => hf z.1)
  obtain ⟨w1, w2, w3, w4, w5, w6, w7, w8, w9, w10⟩ := hW
  refine ⟨w1, w2, by rw [u 9 0 (by decide)]; exact w3, by rw [u 9 1 (by decide)]; exact w4, fun i hi => ?_, fun i hi => ?_, fun m hm => by rw [u 2 m (by decide)]; exact w7 m hm, fun m hm => by rw [u 3 m (by decide), u 4 m (by decide), u 5 m (by decide), u 6 m (by decide)]; exact w8 m hm, fun g hg1 => ?_, by rw [u 9 3 (by decide)]; exact w10⟩
  · by_cases c : i = s
    · subst c; exact ⟨t, ht, uL_s _ _ _ _⟩
    · rw [uL_n (fun z => c z.2)]; exact w5 i hi
  · rw [u 1 i (by decide)]
    rcases w6 i hi with z | z | ⟨m, z1, z2, z3⟩
    · exact Or.inl z
    · exact Or.inr (Or.inl z)
    · exact Or.inr (Or.inr ⟨m, z1, z2, by rw [u 2 m (by decide)]; exact z3⟩)
  · rw [u 7 g (by decide), u 8 g (by decide)]
    refine ⟨?_, (w9 g hg1).2⟩
    rcases (w9 g hg1).1 with z | ⟨s2, z1, z2, z3⟩
    · exact Or.inl z
    · exact Or.inr ⟨s2, z1, z2, by rw [u 1 s2 (by decide)]; exact z3⟩
/-- the ice is mended at s -/
def mendL (L : Lw) (s : Nat) : Lw := fun a b => if a = 1 ∧ b = s ∧ L 1 s = (-2) then (-1) else L a b
theorem mendL_y {L : Lw} {s : Nat} (h : L 1 s = (-2)) : mendL L s = uL L 1 s (-1) := by
  funext a b
  show (if a = 1 ∧ b = s ∧ L 1 s = (-2) then (-1) else L a b) = if a = 1 ∧ b = s then (-1) else L a b
  by_cases c : a = 1 ∧ b = s
  · rw [if_pos ⟨c.1, c.2, h⟩, if_pos c]
  · rw [if_neg (fun z => c ⟨z.1, z.2.1⟩), if_neg c]
theorem mendL_n {L : Lw} {s : Nat} (h : ¬ L 1 s = (-2)) : mendL L s = L := by
  funext a b
  exact if_neg (fun z => h z.2.2)
theorem WF_mend {L : Lw} {hn gn s : Nat} (hW : WF L hn gn) (hs : s < 256) : WF (mendL L s) hn gn := by
  by_cases c : L 1 s = (-2)
  · rw [mendL_y c]; exact WF_cover hW hs (Or.inl rfl) (fun z => absurd z (by decide))
  · rw [mendL_n c]; exact hW
theorem sp_mend2 {h : aH} {l d k : Nat} {L : Lw} {Q : aH → Prop} (hk : isLake k) (hL : LayC h l d) (hR : RepC h k L) {s : Nat} (hs : s < 256) (hq : ∀ h', FrK k h h' → RepC h' k (mendL L s) → Q h') : f_X2_mend SC k (nI s) h Q := by
  refine sp_mend hk hL hR hs (fun c h' f r => hq h' f (by rw [mendL_y c]; exact r)) (fun c => hq h FrK_rf (by rw [mendL_n c]; exact hR))
section Steps3
variable {LR : aH → aH → Prop}
/-- ICE -/
theorem s_ice (ok : LRok LR) : st_ice (Inv LR) SC SM := by
  intro hc hm a1 a2 a3 hI
  obtain ⟨L, hn, gn, kp, LK, tn, tb, l, d, I⟩ := hI
  obtain ⟨i1, i2, i3, i4, i5, i6, i7, i8, i9, i10⟩ := id I
  have hk : isLake 1 := Or.inl rfl
  unfold f_X10_ice
  refine sp_has (fun m n hm1 hn1 e1 e2 => ?_) (fun c => ?_)
  · subst e1
    subst e2
    refine aIf_f (by decide) ?_
    refine sp_within (fun b1 b2 => ?_) (fun b => ?_)
    · refine aIf_t (by decide) ?_
      show aObj SC (gR hc 0 0) 1 flX2 ∧ f_X2_mend SC (gR hc 0 0) (16 * nI n + nI m) hc _
      have hs : 16 * n + m < 256 := by omega
      rw [c_0_0 i1, co_1, sq_at]
      refine ⟨trivial, sp_mend2 hk i1 i3 hs (fun h1 f1 r1 => ?_)⟩
      have L1 := LayC_K f1 i1
      rw [c_0_0 L1, co_1, c_1_0 L1, ca_2, vp_lt hs (by decide), cl (by omega)]
      refine ⟨trivial, trivial, fun h2 e2 => ?_⟩
      unfold f_X11_ice
      refine sr_isSquare (fun m2 n2 b3 b4 b5 b6 => ?_) (fun z => absurd ⟨vp_in_nI hm1 (by decide), vp_in_nI hn1 (by decide)⟩ z)
      refine aIf_f (by decide) ?_
      show f_X11_lies SM a3.toInt64 (Int32.toInt64 0) (Int32.toInt64 99) hm _
      refine sp_lies (fun _ _ => ?_) (fun z => absurd ⟨b1, b2⟩ z)
      refine aIf_t (by decide) ?_
      rw [sq_at, m_6 i2, mi_2, vp_lt hs (by decide), cl (by omega)]
      refine ⟨trivial, fun h3 e3 => ?_⟩
      have L3 : LayM h3 := LayM_2 (by rw [e3]; rfl) i2
      rw [m_7 L3, mi_3, vp_lt hs (by decide)]
      refine ⟨trivial, fun h4 e4 => ⟨rfl, ?_⟩⟩
      obtain ⟨t, ht, et⟩ := nI_of2 (x := a3) (M := 99) (n := 99) (by decide) (Int32.not_lt.mpr b1) b2
      have FR : FrK 1 h1 h2 := by rw [e2]; exact FrK_sA (by decide) (by decide)
      have MM : MS hm h4 := by
        rw [e4, e3]
        exact MS_tr (MS_sA (by omega) (by omega) (by omega) (by omega)) (MS_sA (by omega) (by omega) (by omega) (by omega))
      refine Inv_step ok (L' := uL (mendL L (16 * n + m)) 0 (16 * n + m) a3) (hn' := hn) (gn' := gn) I (CS_K (Or.inl rfl) (FrK_tr f1 FR)) MM ?_ ?_ (by rw [et]; exact WF_thick (WF_mend i5 hs) ht)
      · rw [e2]; exact rep_thick r1
      · subst e4
        subst e3
        refine RepM_now i4 (fun i hi => ?_) (fun c i c1 c2 => by rw [gA_o (by omega), gA_o (by omega)]) (fun f i hf => by rw [uL_n (fun z => absurd z.1 (by omega))]; exact if_neg (fun z => absurd z.1 (by omega))) (fun _ => rfl)
        rw [gA_o (c2 := 2) (by decide), gA_o (c2 := 4) (by decide), gA_o (c2 := 4) (by decide), uL_n (a := 1) (fun z => absurd z.1 (by decide))]
        by_cases c : i = 16 * n + m
        · rw [c, gA_e, gA_e, uL_s]
          by_cases c2 : L 1 (16 * n + m) = (-2)
          · have e5 : mendL L (16 * n + m) 1 (16 * n + m) = (-1) := if_pos ⟨rfl, rfl, c2⟩
            rw [e5, (i4.1 _ hs).2.2, if_pos c2]
            exact ⟨rfl, rfl, rfl⟩
          · rw [mendL_n c2, (i4.1 _ hs).2.2, if_neg c2]
            exact ⟨rfl, rfl, rfl⟩
        · have e5 : mendL L (16 * n + m) 1 i = L 1 i := if_neg (fun z => c z.2.1)
          have e6 : mendL L (16 * n + m) 0 i = L 0 i := if_neg (fun z => absurd z.1 (by decide))
          rw [gA_p c, gA_p c, gA_o (c2 := 3) (by decide), uL_n (fun z => c z.2), e5, e6]
          exact i4.1 i hi
    · refine aIf_f (by decide) ?_
      unfold f_X11_ice
      refine sr_isSquare (fun m2 n2 b3 b4 b5 b6 => ?_) (fun z => absurd ⟨vp_in_nI hm1 (by decide), vp_in_nI hn1 (by decide)⟩ z)
      refine aIf_f (by decide) ?_
      show f_X11_lies SM a3.toInt64 (Int32.toInt64 0) (Int32.toInt64 99) hm _
      refine sp_lies (fun z1 z2 => absurd ⟨z1, z2⟩ b) (fun _ => ?_)
      exact aIf_f (by decide) ⟨rfl, Inv_same I⟩
  · refine aIf_t rfl ?_
    unfold f_X11_ice
    refine sr_isSquare (fun m2 n2 b3 b4 b5 b6 => absurd ⟨by rw [b5]; exact vp_in_nI b3 (by decide), by rw [b6]; exact vp_in_nI b4 (by decide)⟩ c) (fun _ => ?_)
    exact aIf_t rfl ⟨rfl, Inv_same I⟩
/-- one GROUP more -/
def groupL (L : Lw) (gn s : Nat) (w : Int32) : Lw := fun a b => if a = 7 ∧ b = gn then nI s else if a = 8 ∧ b = gn then w else if a = 9 ∧ b = 1 then nI (gn + 1) else L a b
theorem groupL_o {L : Lw} {gn s a b : Nat} {w : Int32} (h : ¬ (a = 7 ∧ b = gn)) (h2 : ¬ (a = 8 ∧ b = gn)) (h3 : ¬ (a = 9 ∧ b = 1)) : groupL L gn s w a b = L a b := by
  unfold groupL
  rw [if_neg h, if_neg h2, if_neg h3]
theorem groupL_7 {L : Lw} {gn s : Nat} {w : Int32} : groupL L gn s w 7 gn = nI s := if_pos ⟨rfl, rfl⟩
theorem groupL_8 {L : Lw} {gn s : Nat} {w : Int32} : groupL L gn s w 8 gn = w := by
  unfold groupL
  rw [if_neg (fun z => absurd z.1 (by decide)), if_pos ⟨rfl, rfl⟩]
theorem groupL_9 {L : Lw} {gn s : Nat} {w : Int32} : groupL L gn s w 9 1 = nI (gn + 1) := by
  unfold groupL
  rw [if_neg (fun z => absurd z.1 (by decide)), if_neg (fun z => absurd z.1 (by decide)), if_pos ⟨rfl, rfl⟩]
theorem WF_group {L : Lw} {hn gn s w : Nat} (hW : WF L hn gn) (hg : gn < 8) (hs : s < 256) (e1 : L 1 s = (-1)) (w1 : 1 ≤ w) (w2 : w ≤ 99) : WF (groupL L gn s (nI w)) hn (gn + 1) := by
  have u : ∀ f i, f ≠ 7 → f ≠ 8 → ¬ (f = 9 ∧ i = 1) → groupL L gn s (nI w) f i = L f i := fun f i h1 h2 h3 => groupL_o (fun z => h1 z.1) (fun z => h2 z.1) h3
  obtain ⟨v1, v2, v3, v4, v5, v6, v7, v8, v9, v10⟩ := hW
  refine ⟨v1, by omega, by rw [u 9 0 (by decide) (by decide) (by decide)]; exact v3, groupL_9, fun i hi => by rw [u 0 i (by decide) (by decide) (by omega)]; exact v5 i hi, fun i hi => ?_, fun m hm => by rw [u 2 m (by decide) (by decide) (by omega)]; exact v7 m hm, fun m hm => by rw [u 3 m (by decide) (by decide) (by omega), u 4 m (by decide) (by decide) (by omega), u 5 m (by decide) (by decide) (by omega), u 6 m (by decide) (by decide) (by omega)]; exact v8 m hm, fun g hg1 => ?_, by rw [u 9 3 (by decide) (by decide) (by decide)]; exact v10⟩
  · rw [u 1 i (by decide) (by decide) (by omega)]
    rcases v6 i hi with z | z | ⟨m, z1, z2, z3⟩
    · exact Or.inl z
    · exact Or.inr (Or.inl z)
    · exact Or.inr (Or.inr ⟨m, z1, z2, by rw [u 2 m (by decide) (by decide) (by omega)]; exact z3⟩)
  · by_cases c : g = gn
    · subst c
      rw [groupL_7, groupL_8]
      exact ⟨Or.inr ⟨s, hs, rfl, by rw [u 1 s (by decide) (by decide) (by omega)]; exact e1⟩, w, w1, w2, rfl⟩
    · rw [groupL_o (fun z => c z.2) (fun z => absurd z.1 (by decide)) (fun z => absurd z.1 (by decide)), groupL_o (fun z => absurd z.1 (by decide)) (fun z => c z.2) (fun z => absurd z.1 (by decide))]
      refine ⟨?_, (v9 g (by omega)).2⟩
      rcases (v9 g (by omega)).1 with z | ⟨s2, z1, z2, z3⟩
      · exact Or.inl z
      · exact Or.inr ⟨s2, z1, z2, by rw [u 1 s2 (by decide) (by decide) (by omega)]; exact z3⟩
/-- GROUP -/
theorem s_group (ok : LRok LR) : st_group (Inv LR) SC SM := by
  intro hc hm a1 a2 a3 hI
  obtain ⟨L, hn, gn, kp, LK, tn, tb, l, d, I⟩ := hI
  obtain ⟨i1, i2, i3, i4, i5, i6, i7, i8, i9, i10⟩ := id I
  have hk : isLake 1 := Or.inl rfl
  have hgn := i5.2.1
  have g12 : gI hc 1 12 = nI gn := i3.2.2.2.2.1.trans i5.2.2.2.1
  have g3 : gI hm 0 3 = nI gn := i4.2.2.2.2.1.trans i5.2.2.2.1
  unfold f_X10_group
  refine sp_has (fun m n hm1 hn1 e1 e2 => ?_) (fun c => ?_)
  · subst e1
    subst e2
    have hs : 16 * n + m < 256 := by omega
    have ref : ∀ Q' : Int32 → aH → Prop, (f_X11_lies SM a3.toInt64 (Int32.toInt64 1) (Int32.toInt64 99) hm (fun r5 h4 => aIf (r5 = 0) (Q' (-1) h4) (∀ v7 : Int32, v7 = (gI h4 0 3) → aIf (v7 = 8) (Q' (-1) h4) (f_X11_isIce SM 0 ((16 * nI n) + nI m) h4 (fun r10 h9 => aIf (¬ r10 = 0) (∀ v12 : Int32, v12 = (gI h9 0 3) → aIn SM 0 (gR h9 0 14) v12 ∧ ∀ h14 : aH, h14 = sA h9 (gR h9 0 14) (v12).toNatClampNeg ((16 * nI n) + nI m) → ∀ v15 : Int32, v15 = (gI h14 0 3) → aIn SM 0 (gR h14 0 15) v15 ∧ ∀ h17 : aH, h17 = sA h14 (gR h14 0 15) (v15).toNatClampNeg a3 → ∀ v18 : Int32, v18 = (gI h17 0 3) → ∀ h19 : aH, h19 = sI h17 0 3 (v18 + 1) → ∀ v20 : Int32, v20 = (gI h19 0 3) → Q' (v20 - 1) h19) (Q' (-1) h9)))))) → f_X11_group SM 0 (nI m) (nI n) a3 hm Q' := fun Q' H => by
      unfold f_X11_group
      exact sr_isSquare (fun _ _ _ _ _ _ => aIf_f (by decide) H) (fun z => absurd ⟨vp_in_nI hm1 (by decide), vp_in_nI hn1 (by decide)⟩ z)
    refine aIf_f (by decide) ?_
    refine sp_within (fun b1 b2 => ?_) (fun b => ?_)
    · refine aIf_t (by decide) ?_
      show aObj SC (gR hc 0 0) 1 flX2 ∧ ∀ v10 : Int32, v10 = gI hc (gR hc 0 0) 12 → aIf (8 ≤ v10) _ (f_X2_isFirm SC (gR hc 0 0) (16 * nI n + nI m) hc _)
      rw [c_0_0 i1, co_1, g12, sq_at]
      refine ⟨trivial, fun v ev => ?_⟩
      subst ev
      have r1 : ∀ Q' : Int32 → aH → Prop, _ → f_X11_lies SM a3.toInt64 (Int32.toInt64 1) (Int32.toInt64 99) hm Q' := fun Q' (H : Q' 1 hm) => sp_lies (fun _ _ => H) (fun z => absurd ⟨b1, b2⟩ z)
      by_cases c8 : gn = 8
      · refine aIf_t (by rw [c8]; decide) (ref _ (r1 _ ?_))
        refine aIf_f (by decide) ?_
        rw [g3]
        intro v ev
        subst ev
        exact aIf_t (by rw [c8]; rfl) ⟨rfl, Inv_same I⟩
      · refine aIf_f (nI_ge (a := gn) (b := 8) (by omega) (by decide)) ?_
        have n8 : ¬ nI gn = 8 := fun e => c8 ((nI_eq (a := gn) (b := 8) (by omega) (by decide)).mp e)
        refine sp_isFirm hk i1 i3 hs (fun c => ?_) (fun c => ?_)
        · refine aIf_t (by decide) ?_
          rw [c_0_0 i1, co_1]
          refine ⟨trivial, ?_⟩
          unfold f_X2_addGroup
          rw [g12]
          intro v ev
          subst ev
          refine aIf_t (nI_lt (a := gn) (b := 8) (by omega) (by decide)) ?_
          intro v3 e3 v4 e4 h5 e5
          subst e3
          subst e4
          have L5 : LayC h5 l d := LayC_2 (by rw [e5]; rfl) i1
          rw [c_1_10 L5, ca_11, vp_lt (show gn < 8 by omega) (by decide), cl (by omega)]
          refine ⟨trivial, fun h7 e7 => ?_⟩
          have L7 : LayC h7 l d := LayC_2 (by rw [e7]; rfl) L5
          rw [c_1_11 L7, ca_12, vp_lt (show gn < 8 by omega) (by decide)]
          refine ⟨trivial, fun h9 e9 => ref _ (r1 _ ?_)⟩
          refine aIf_f (by decide) ?_
          rw [g3]
          intro v ev
          subst ev
          refine aIf_f n8 ?_
          rw [sq_at]
          refine sr_isIce i2 i4 hs (fun _ => ?_) (fun z => absurd c z)
          refine aIf_t (by decide) ?_
          rw [g3]
          intro v12 e12
          subst e12
          rw [m_14 i2, mi_10, vp_lt (show gn < 8 by omega) (by decide), cl (by omega)]
          refine ⟨trivial, fun h14 e14 => ?_⟩
          have g14 : gI h14 0 3 = nI gn := by rw [e14]; exact g3
          have L14 : LayM h14 := LayM_2 (by rw [e14]; rfl) i2
          rw [g14]
          intro v15 e15
          subst e15
          rw [m_15 L14, mi_11, vp_lt (show gn < 8 by omega) (by decide), cl (by omega)]
          refine ⟨trivial, fun h17 e17 => ?_⟩
          have g17 : gI h17 0 3 = nI gn := by rw [e17]; exact g14
          rw [g17]
          intro v18 e18 h19 e19
          subst e18
          have g19 : gI h19 0 3 = nI (gn + 1) := by rw [e19, gI_sI, if_pos ⟨rfl, rfl⟩, nI_1]
          rw [g19]
          intro v20 e20
          subst e20
          refine ⟨(nI_pred gn).symm, ?_⟩
          obtain ⟨w, hw, ew⟩ := nI_of2 (x := a3) (M := 99) (n := 99) (by decide) (fun z => absurd (Int32.lt_of_lt_of_le z (by decide)) (Int32.not_lt.mpr b1)) b2
          have hw1 : 1 ≤ w := by
            rw [ew] at b1
            rcases Nat.eq_zero_or_pos w with z | z
            · subst z; exact absurd b1 (by decide)
            · exact z
          have FR : FrK 1 hc h9 := by
            rw [e9, e7, e5]
            exact FrK_tr FrK_sI (FrK_tr (FrK_sA (by decide) (by decide)) (FrK_sA (by decide) (by decide)))
          have MM : MS hm h19 := by
            rw [e19, e17, e14]
            exact MS_tr (MS_sA (by omega) (by omega) (by omega) (by omega)) (MS_tr (MS_sA (by omega) (by omega) (by omega) (by omega)) (MS_sI (by omega)))
          have u : ∀ f i, f ≠ 7 → f ≠ 8 → ¬ (f = 9 ∧ i = 1) → groupL L gn (16 * n + m) a3 f i = L f i := fun f i h1 h2 h3 => groupL_o (fun z => h1 z.1) (fun z => h2 z.1) h3
          have u1 : ∀ t, groupL L gn (16 * n + m) a3 1 t = L 1 t := fun t => u 1 t (by decide) (by decide) (by omega)
          have u4 : ∀ t, groupL L gn (16 * n + m) a3 4 t = L 4 t := fun t => u 4 t (by decide) (by decide) (by omega)
          refine Inv_step ok (L' := groupL L gn (16 * n + m) a3) (hn' := hn) (gn' := gn + 1) I (CS_K (Or.inl rfl) FR) MM ?_ ?_ (by rw [ew]; exact WF_group i5 (by omega) hs c hw1 hw)
          · have o : ∀ c i, c ≠ 11 → c ≠ 12 → gA h9 c i = gA hc c i := fun c i h1 h2 => by rw [e9, gA_o h2, e7, gA_o h1, e5]; rfl
            have oI : ∀ j, j ≠ 12 → gI h9 1 j = gI hc 1 j := fun j hj => by rw [e9, e7, e5]; exact if_neg (fun z => hj z.2)
            refine ⟨fun i hi => ?_, fun i hi => ?_, fun i hi => ?_, ?_⟩
            · rw [o _ _ (by decide) (by decide), o _ _ (by decide) (by decide), o _ _ (by decide) (by decide), o _ _ (by decide) (by decide), gaps_eq u1, warm_eq u1 u4, u 0 i (by decide) (by decide) (by omega), u1]
              exact i3.1 i hi
            · rw [o _ _ (by decide) (by decide), o _ _ (by decide) (by decide), o _ _ (by decide) (by decide), o _ _ (by decide) (by decide), o _ _ (by decide) (by decide), u 2 i (by decide) (by decide) (by omega), u 3 i (by decide) (by decide) (by omega), u4, u 5 i (by decide) (by decide) (by omega), u 6 i (by decide) (by decide) (by omega)]
              exact i3.2.1 i hi
            · show gA h9 11 i = _ ∧ gA h9 12 i = _
              by_cases c2 : i = gn
              · subst c2
                rw [groupL_7, groupL_8, e9, gA_e, gA_o (c2 := 11) (by decide), e7, gA_e]
                exact ⟨rfl, rfl⟩
              · rw [groupL_o (a := 7) (fun z => c2 z.2) (fun z => absurd z.1 (by decide)) (fun z => absurd z.1 (by decide)), groupL_o (a := 8) (fun z => absurd z.1 (by decide)) (fun z => c2 z.2) (fun z => absurd z.1 (by decide)), e9, gA_p c2, gA_o (c2 := 11) (by decide), e7, gA_p c2, gA_o (c2 := 12) (by decide), e5]
                exact i3.2.2.1 i hi
            · rw [oI 9 (by decide), oI 13 (by decide), oI 14 (by decide), groupL_9, u 9 0 (by decide) (by decide) (by decide), u 9 2 (by decide) (by decide) (by decide), u 9 3 (by decide) (by decide) (by decide)]
              refine ⟨i3.2.2.2.1, ?_, i3.2.2.2.2.2⟩
              rw [e9, e7, e5, ← nI_1]
              rfl
          · have o : ∀ c i, c ≠ 10 → c ≠ 11 → gA h19 c i = gA hm c i := fun c i h1 h2 => by
              rw [e19]
              show gA h17 c i = _
              rw [e17, gA_o h2, e14, gA_o h1]
            have oI : ∀ j, j ≠ 3 → gI h19 0 j = gI hm 0 j := fun j hj => by
              rw [e19, e17, e14]
              exact if_neg (fun z => hj z.2)
            refine ⟨fun i hi => ?_, fun i hi => ?_, fun i hi => ?_, ?_⟩
            · rw [o _ _ (by decide) (by decide), o _ _ (by decide) (by decide), o _ _ (by decide) (by decide), u 0 i (by decide) (by decide) (by omega), u1]
              exact i4.1 i hi
            · rw [o _ _ (by decide) (by decide), o _ _ (by decide) (by decide), o _ _ (by decide) (by decide), o _ _ (by decide) (by decide), o _ _ (by decide) (by decide), u 2 i (by decide) (by decide) (by omega), u 3 i (by decide) (by decide) (by omega), u4, u 5 i (by decide) (by decide) (by omega), u 6 i (by decide) (by decide) (by omega)]
              exact i4.2.1 i hi
            · have w : ∀ c, gA h19 c i = gA h17 c i := fun c => by rw [e19]; rfl
              rw [w, w]
              by_cases c2 : i = gn
              · subst c2
                rw [groupL_7, groupL_8, e17, gA_e, gA_o (c2 := 10) (by decide), e14, gA_e]
                exact ⟨rfl, rfl⟩
              · rw [groupL_o (a := 7) (fun z => c2 z.2) (fun z => absurd z.1 (by decide)) (fun z => absurd z.1 (by decide)), groupL_o (a := 8) (fun z => absurd z.1 (by decide)) (fun z => c2 z.2) (fun z => absurd z.1 (by decide)), e17, gA_p c2, gA_o (c2 := 10) (by decide), e14, gA_p c2, gA_o (c2 := 11) (by decide)]
                exact i4.2.2.1 i hi
            · rw [oI 2 (by decide), oI 4 (by decide), oI 5 (by decide), groupL_9, u 9 0 (by decide) (by decide) (by decide), u 9 2 (by decide) (by decide) (by decide), u 9 3 (by decide) (by decide) (by decide)]
              exact ⟨i4.2.2.2.1, g19, i4.2.2.2.2.2⟩
        · refine aIf_f (by decide) (ref _ (r1 _ ?_))
          refine aIf_f (by decide) ?_
          rw [g3]
          intro v ev
          subst ev
          refine aIf_f n8 ?_
          rw [sq_at]
          refine sr_isIce i2 i4 hs (fun z => absurd z c) (fun _ => ?_)
          exact aIf_f (by decide) ⟨rfl, Inv_same I⟩
    · refine aIf_f (by decide) (ref _ ?_)
      refine sp_lies (fun z1 z2 => absurd ⟨z1, z2⟩ b) (fun _ => ?_)
      exact aIf_t rfl ⟨rfl, Inv_same I⟩
  · refine aIf_t rfl ?_
    unfold f_X11_group
    refine sr_isSquare (fun m2 n2 b3 b4 b5 b6 => absurd ⟨by rw [b5]; exact vp_in_nI b3 (by decide), by rw [b6]; exact vp_in_nI b4 (by decide)⟩ c) (fun _ => ?_)
    exact aIf_t rfl ⟨rfl, Inv_same I⟩
end Steps3
