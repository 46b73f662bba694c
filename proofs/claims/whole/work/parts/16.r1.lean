/-! ===== the class settles a lake ===== -/
/-- the class: nothing but the lake at k and the law's scratch has changed -/
def FX (k : Nat) (h h' : aH) : Prop := h'.2.2 = h.2.2 ∧ (∀ c i, ¬ (k ≤ c ∧ c < k + 12) → ¬ (c = 49 ∨ c = 50 ∨ c = 51 ∨ c = 59 ∨ c = 60) → gA h' c i = gA h c i) ∧ ∀ c j, ¬ (k ≤ c ∧ c < k + 12) → ¬ ((c = 43 ∨ c = 53) ∧ j = 9) → gI h' c j = gI h c j
theorem FX_rf {k : Nat} {h : aH} : FX k h h := ⟨rfl, fun _ _ _ _ => rfl, fun _ _ _ _ => rfl⟩
theorem FX_tr {k : Nat} {a b c : aH} (x : FX k a b) (y : FX k b c) : FX k a c := ⟨y.1.trans x.1, fun q i h1 h2 => (y.2.1 q i h1 h2).trans (x.2.1 q i h1 h2), fun q i h1 h2 => (y.2.2 q i h1 h2).trans (x.2.2 q i h1 h2)⟩
theorem FX_S {k : Nat} {a b : aH} (x : SFC a b) : FX k a b := ⟨x.1, fun q i _ h2 => x.2.1 q i (by omega), fun q i _ h2 => x.2.2 q i h2⟩
theorem FX_K {k : Nat} {a b : aH} (x : FrK k a b) : FX k a b := ⟨x.2, fun q i h1 _ => (x.1 q h1).1 i, fun q i h1 _ => (x.1 q h1).2 i⟩
theorem CS_FX {k : Nat} {h h' : aH} (hk : k = 1 ∨ k = 25) (x : FX k h h') : CS h h' :=
  ⟨x.1, fun c hc i => x.2.1 c i (by omega) (by omega), fun j => x.2.2 _ _ (by omega) (by omega), x.2.2 _ _ (by omega) (by omega), x.2.2 _ _ (by omega) (by omega), x.2.2 _ _ (by omega) (by omega), x.2.2 _ _ (by omega) (by omega), x.2.2 _ _ (by omega) (by omega), x.2.2 _ _ (by omega) (by omega)⟩
theorem LC_FX {k : Nat} {h h' : aH} {l : Nat} {F : LF} (hk : isLake k) (hl : isLaw l) (x : FX k h h') (hF : LC h l F) : LC h' l F := by
  unfold isLaw at hl
  unfold isLake at hk
  exact LC_to (fun c h1 h2 i => x.2.1 c i (by omega) (by omega)) (x.2.2 _ _ (by omega) (by omega)) (x.2.2 _ _ (by omega) (by omega)) hF
theorem RepC_FX {k k2 : Nat} {h h' : aH} {L : Lw} (hk : isLake k) (hk2 : isLake k2) (hne : k2 ≠ k) (x : FX k h h') (hR : RepC h k2 L) : RepC h' k2 L := by
  unfold isLake at hk hk2
  exact RepC_gA (fun c i h1 h2 => x.2.1 c i (by omega) (by omega)) (fun j => x.2.2 _ _ (by omega) (by omega)) hR
/-- nothing but the law's scratch and the row of what is overloaded has changed -/
def SFO (h h' : aH) : Prop := h'.2.2 = h.2.2 ∧ (∀ c i, ¬ (c = 49 ∨ c = 50 ∨ c = 51 ∨ c = 59 ∨ c = 60) → gA h' c i = gA h c i) ∧ ∀ c j, ¬ ((c = 43 ∨ c = 53) ∧ j = 9) → gI h' c j = gI h c j
theorem SFO_rf {h : aH} : SFO h h := ⟨rfl, fun _ _ _ => rfl, fun _ _ _ => rfl⟩
theorem SFO_tr {a b c : aH} (x : SFO a b) (y : SFO b c) : SFO a c := ⟨y.1.trans x.1, fun k i hk => (y.2.1 k i hk).trans (x.2.1 k i hk), fun k i hk => (y.2.2 k i hk).trans (x.2.2 k i hk)⟩
theorem SFO_S {a b : aH} (x : SFC a b) : SFO a b := ⟨x.1, fun q i h2 => x.2.1 q i (by omega), x.2.2⟩
theorem SFO_sA {h : aH} {i : Nat} {v : Int32} : SFO h (sA h 51 i v) := ⟨rfl, fun a j ha => by rw [gA_sA, if_neg (fun z => by omega)], fun _ _ _ => rfl⟩
theorem FX_O {k : Nat} {a b : aH} (x : SFO a b) : FX k a b := ⟨x.1, fun q i _ h2 => x.2.1 q i h2, fun q i _ h2 => x.2.2 q i h2⟩
theorem RepC_SFO {h h' : aH} {k : Nat} {L : Lw} (hk : isLake k) (x : SFO h h') (hR : RepC h k L) : RepC h' k L := by
  unfold isLake at hk
  exact RepC_gA (fun c i h1 h2 => x.2.1 c i (by omega)) (fun j => x.2.2 _ _ (by omega)) hR
theorem LC_SFO {h h' : aH} {l : Nat} {F : LF} (hl : isLaw l) (x : SFO h h') (hF : LC h l F) : LC h' l F := by
  unfold isLaw at hl
  exact LC_to (fun c h1 h2 i => x.2.1 c i (by omega)) (x.2.2 _ _ (by omega)) (x.2.2 _ _ (by omega)) hF
theorem sp_brk {h : aH} {l d k : Nat} {L : Lw} {gn : Nat} {Q : aH → Prop} (hk : isLake k) (hL : LayC h l d) (hR : RepC h k L) (hg : gn ≤ 8) (e91 : L 9 1 = nI gn) {s : Nat} (hs : s < 256) (hq : ∀ h', FrK k h h' → RepC h' k (brk2 gn L s) → Q h') : f_X2_breakAt SC k (nI s) h Q := by
  refine sp_breakAt hk hL hR hg e91 hs (fun c h' f r => hq h' f ?_) (fun c => hq h FrK_rf ?_)
  · unfold brk2
    rw [if_pos c]
    exact r
  · unfold brk2
    rw [if_neg c]
    exact hR
/-- cell 51 (overloaded) holds these squares -/
def OvC (h : aH) (l : List Nat) : Prop := ∀ i, i < l.length → gA h 51 i = nI (l.getD i 0)
section SetC
variable {h : aH} {l d k : Nat} {L : Lw} {hn gn : Nat} {F : LF} {Q : Int32 → aH → Prop}
theorem sp_isListed (hL : LayC h l d) {ls : List Nat} (hl8 : ls.length ≤ 8) (hls : ∀ s, s ∈ ls → s < 256) (hO : OvC h ls) {s : Nat} (hs : s < 256) (h1 : s ∈ ls → Q 1 h) (h0 : ¬ s ∈ ls → Q 0 h) : f_X5_isListed SC 42 (nI s) (nI ls.length) h Q := by
  have key := up_loop (N := ls.length) (P := fun w i => (∀ j, j < i → ¬ ls.getD j 0 = s) → f_X5_isListed_2 SC 42 (nI s) (nI ls.length) Q w (nI i) h) ?_ ?_
  · exact ⟨ls.length + 1, key (fun j hj => absurd hj (Nat.not_lt_zero _))⟩
  · intro hv
    refine aIf_t (nI_le (Nat.le_refl _) (by omega)) (h0 (fun z => ?_))
    obtain ⟨i, a, b⟩ := mem_getD z
    exact hv i a b
  · intro w i hi n1 hv
    refine aIf_f (nI_ge hi (by omega)) ?_
    rw [c_42_1 hL, ca_51, vp_lt (show i < 8 by omega) (by decide), cl (by omega), hO i hi]
    refine ⟨trivial, fun v ev => ?_⟩
    subst ev
    have hm := getD_mem hi
    have q := nI_eq (a := ls.getD i 0) (b := s) (by have := hls _ hm; omega) (by omega)
    refine aIf_i (fun c => ?_) (fun c => h1 ?_)
    · intro x ex
      rw [nI_1] at ex
      subst ex
      refine n1 (fun j hj => ?_)
      rcases Nat.lt_or_ge j i with z | z
      · exact hv j z
      · rw [show j = i by omega]; exact fun y => c (q.mpr y)
    · rw [← q.mp (Classical.not_not.mp c)]; exact hm
theorem sp_findOverloaded (hk : isLake k) (hL : LayC h l d) (hR : RepC h k L) (hW : WF L hn gn) (hF : LC h l F) (hq : ∀ h', SFO h h' → OvC h' (ovC F L gn gn) → Q (nI (ovC F L gn gn).length) h') : f_X5_findOverloaded SC 42 k h Q := by
  have hgn := hW.2.1
  have hl := lay_isLaw hL
  have key := up_loop (N := gn) (P := fun w i => ∀ h', SFO h h' → OvC h' (ovC F L gn i) → f_X5_findOverloaded_4 SC 42 k Q w (nI (ovC F L gn i).length) (nI i) h') ?_ ?_
  · exact ⟨gn + 1, key h SFO_rf (fun i hi => absurd hi (Nat.not_lt_zero _))⟩
  · intro h' f' o v ev
    rw [(RepC_SFO hk f' hR).2.2.2.2.1.trans hW.2.2.2.1] at ev
    subst ev
    exact aIf_t (nI_le (Nat.le_refl _) (by omega)) (hq h' f' o)
  · intro w i hi n1 h' f' o v ev
    have r' := RepC_SFO hk f' hR
    have l' := LayC_2 f'.1 hL
    rw [r'.2.2.2.2.1.trans hW.2.2.2.1] at ev
    subst ev
    refine aIf_f (nI_ge hi (by omega)) ?_
    rw [lk_10 hk l', li_10 hk, vp_lt (show i < 8 by omega) (by decide), cl (by omega), (r'.2.2.1 i (by omega)).1]
    refine ⟨trivial, fun v ev => ?_⟩
    subst ev
    have hlen := (ov_P (F := F) (L := L) (gn := gn) i).2.2.1
    have next : ∀ h2, SFO h h2 → OvC h2 (ovC F L gn i) → ovC F L gn (i + 1) = ovC F L gn i → ∀ x : Int32, x = nI i + 1 → f_X5_findOverloaded_4 SC 42 k Q (w + 1) (nI (ovC F L gn i).length) x h2 := by
      intro h2 f2 o2 e x ex
      rw [nI_1] at ex
      subst ex
      have := n1 h2 f2
      rw [e] at this
      exact this o2
    by_cases c : L 7 i = (-2)
    · rw [c]
      refine sp_isFirm0 (by decide) (aIf_t rfl ?_)
      exact next h' f' o (if_pos c)
    · obtain ⟨q1, q2, q3⟩ := sqG_of hW hi c
      rw [q2]
      refine sp_isFirm hk l' r' q1 (fun _ => aIf_f (by decide) ?_) (fun z => absurd q3 z)
      refine sp_isListed l' (by omega) (ovC_lt hW (by omega)) o q1 (fun m => aIf_t (by decide) ?_) (fun m => aIf_f (fun z => z rfl) ?_)
      · exact next h' f' o ((if_neg c).trans (if_pos m))
      · refine sp_carried hk l' r' hW ?_
        refine sp_bears hk l' r' hW (LC_SFO hl f' hF) q1 (fun h2 f2 => ?_)
        have f3 := SFO_tr f' (SFO_S f2)
        have l2 := LayC_2 f3.1 hL
        have o2 : OvC h2 (ovC F L gn i) := fun j hj => (f2.2.1 _ _ (by decide)).trans (o j hj)
        refine aIf_i (fun c2 => ?_) (fun c2 => ?_)
        · exact next h2 f3 o2 ((if_neg c).trans ((if_neg m).trans (if_neg (fun z => z.2 c2))))
        · have e : ovC F L gn (i + 1) = ovC F L gn i ++ [sqG L i] := (if_neg c).trans ((if_neg m).trans (if_pos ⟨q3, c2⟩))
          rw [c_42_1 l2, ca_51, vp_lt (show (ovC F L gn i).length < 8 by omega) (by decide), cl (by omega)]
          refine ⟨trivial, fun h4 e4 x ex y ey => ?_⟩
          rw [nI_1] at ex ey
          subst ex ey
          have := n1 h4 (SFO_tr f3 (by rw [e4]; exact SFO_sA))
          rw [e, List.length_append] at this
          refine this (fun j hj => ?_)
          rw [List.length_append] at hj
          have hj : j < (ovC F L gn i).length + 1 := hj
          rw [e4, getD_s]
          by_cases z : j = (ovC F L gn i).length
          · rw [z, gA_e, if_neg (Nat.lt_irrefl _), if_pos rfl]
          · rw [gA_p z, if_pos (show j < (ovC F L gn i).length by omega)]
            exact o2 j (by omega)
theorem WF_91 (hW : WF L hn gn) : L 9 1 = nI gn := hW.2.2.2.1
theorem sp_settleAll (hk : isLake k) (hL : LayC h l d) (hR : RepC h k L) (hW : WF L hn gn) (hF : LC h l F) (hq : ∀ h', FX k h h' → RepC h' k (stl F gn 8 L).1 → Q (nI (stl F gn 8 L).2) h') : f_X5_settleAll SC 42 k h Q := by
  have hgn := hW.2.1
  have hl := lay_isLaw hL
  have key : ∀ r, r ≤ 8 → ∀ (c : Nat) (L1 : Lw) (h1 : aH), FX k h h1 → RepC h1 k L1 → WF L1 hn gn → (∀ h', FX k h h' → RepC h' k (stl F gn r L1).1 → Q (nI (c + (stl F gn r L1).2)) h') → f_X5_settleAll_4 SC 42 k Q (r + 1) (nI c) (nI (8 - r)) h1 := by
    intro r
    induction r with
    | zero =>
      intro _ c L1 h1 f1 r1 w1 hq
      exact aIf_t (by decide) (hq h1 f1 r1)
    | succ r ih =>
      intro hr c L1 h1 f1 r1 w1 hq
      have l1 := LayC_2 f1.1 hL
      refine aIf_f (nI_ge (a := 8 - (r + 1)) (b := 8) (by omega) (by decide)) ?_
      refine sp_findOverloaded hk l1 r1 w1 (LC_FX hk hl f1 hF) (fun h2 f2 o2 => ?_)
      have f12 := FX_tr f1 (FX_O f2)
      have r2 := RepC_SFO hk f2 r1
      have hlen := (ov_P (F := F) (L := L1) (gn := gn) gn).2.2.1
      have z0 : nI (ovC F L1 gn gn).length = 0 ↔ (ovC F L1 gn gn).length = 0 := nI_eq (b := 0) (by omega) (by omega)
      refine aIf_i (fun z => ?_) (fun z => ?_)
      · have ne : ¬ ovC F L1 gn gn = [] := fun y => z (by rw [y]; rfl)
        rw [stl_s ne] at hq
        have loop := up_loop (N := (ovC F L1 gn gn).length) (P := fun n i => ∀ h3, FX k h h3 → (∀ j, gA h3 51 j = gA h2 51 j) → RepC h3 k (bkF gn ((ovC F L1 gn gn).take i) (L1, 0)).1 → f_X5_settleAll_28 SC 42 k Q (f_X5_settleAll_4 SC 42 k Q (r + 1)) n (nI c) (nI (8 - (r + 1))) (nI (ovC F L1 gn gn).length) (nI i) h3) ?_ ?_
        · exact ⟨_, loop h2 f12 (fun _ => rfl) r2⟩
        · intro h3 f3 _ r3
          refine aIf_t (nI_le (Nat.le_refl _) (by omega)) (fun x ex y ey => ?_)
          rw [nI_add] at ex
          rw [nI_1, show 8 - (r + 1) + 1 = 8 - r by omega] at ey
          subst ex ey
          rw [List.take_length] at r3
          refine ih (by omega) _ (bksL F gn L1) h3 f3 r3 (WF_bks w1) (fun h' f' r' => ?_)
          rw [Nat.add_assoc]
          exact hq h' f' r'
        · intro n i hi n1 h3 f3 c3 r3
          have l3 := LayC_2 f3.1 hL
          refine aIf_f (nI_ge hi (by omega)) ?_
          rw [c_42_1 l3, ca_51, vp_lt (show i < 8 by omega) (by decide), cl (by omega), c3, o2 i hi]
          refine ⟨trivial, fun v ev => ?_⟩
          subst ev
          have hs := ovC_lt w1 (Nat.le_refl gn) _ (getD_mem hi)
          have w3 : WF (bkF gn ((ovC F L1 gn gn).take i) (L1, 0)).1 hn gn := WF_bkF _ (fun s hs => ovC_lt w1 (Nat.le_refl gn) s (List.mem_of_mem_take hs)) (L1, 0) w1
          refine sp_brk hk l3 r3 hgn (WF_91 w3) hs (fun h4 f4 r4 => ?_)
          intro x ex
          rw [nI_1] at ex
          subst ex
          refine n1 h4 (FX_tr f3 (FX_K f4)) (fun j => ((f4.1 51 (by unfold isLake at hk; omega)).1 j).trans (c3 j)) ?_
          rw [take_s hi, bkF_s]
          exact r4
      · have e : ovC F L1 gn gn = [] := List.eq_nil_of_length_eq_zero (z0.mp (Classical.not_not.mp z))
        rw [stl_e e] at hq
        exact hq h2 f12 r2
  have k8 := key 8 (Nat.le_refl _) 0 L h FX_rf hR hW (fun h' f' r' => by rw [Nat.zero_add]; exact hq h' f' r')
  exact ⟨9, k8⟩
end SetC
