/-! ===== what the law says: the class ===== -/
def clmp (most w : Int32) : Int32 := if 0 ≤ w then (if w ≤ most then w else most) else 0
/-- what the CLAUSES from n - w on say -/
def lawG (n : Nat) (lt : Nat → Int32) (H W : Nat → Sem) (c most : Int32) (V : Nat → Int32) : Nat → Int32
  | 0 => 0
  | w + 1 => if lt (n - (w + 1)) = c then (match H (n - (w + 1)) V with
    | none => lawG n lt H W c most V w
    | some a => if a = 0 then lawG n lt H W c most V w else match W (n - (w + 1)) V with
      | none => 0
      | some x => clmp most x) else lawG n lt H W c most V w
def lawF (n : Nat) (lt : Nat → Int32) (H W : Nat → Sem) (c most : Int32) (V : Nat → Int32) : Int32 := lawG n lt H W c most V n
theorem lawG_no {n : Nat} {lt : Nat → Int32} {H W : Nat → Sem} {c most : Int32} {V : Nat → Int32} {w : Nat} (h : ¬ lt (n - (w + 1)) = c) : lawG n lt H W c most V (w + 1) = lawG n lt H W c most V w := by
  show (if lt (n - (w + 1)) = c then _ else _) = _
  rw [if_neg h]
theorem lawG_none {n : Nat} {lt : Nat → Int32} {H W : Nat → Sem} {c most : Int32} {V : Nat → Int32} {w : Nat} (h : lt (n - (w + 1)) = c) (e : H (n - (w + 1)) V = none) : lawG n lt H W c most V (w + 1) = lawG n lt H W c most V w := by
  show (if lt (n - (w + 1)) = c then _ else _) = _
  rw [if_pos h, e]
theorem lawG_zero {n : Nat} {lt : Nat → Int32} {H W : Nat → Sem} {c most : Int32} {V : Nat → Int32} {w : Nat} {a : Int32} (h : lt (n - (w + 1)) = c) (e : H (n - (w + 1)) V = some a) (e0 : a = 0) : lawG n lt H W c most V (w + 1) = lawG n lt H W c most V w := by
  show (if lt (n - (w + 1)) = c then _ else _) = _
  rw [if_pos h, e]
  exact if_pos e0
theorem lawG_some {n : Nat} {lt : Nat → Int32} {H W : Nat → Sem} {c most : Int32} {V : Nat → Int32} {w : Nat} {a : Int32} (h : lt (n - (w + 1)) = c) (e : H (n - (w + 1)) V = some a) (e0 : ¬ a = 0) : lawG n lt H W c most V (w + 1) = match W (n - (w + 1)) V with
      | none => 0
      | some x => clmp most x := by
  show (if lt (n - (w + 1)) = c then _ else _) = _
  rw [if_pos h, e]
  exact if_neg e0
theorem lawF_no {n : Nat} {lt : Nat → Int32} {H W : Nat → Sem} {c most : Int32} {V : Nat → Int32} (h : ∀ k, k < n → ¬ lt k = c) : lawF n lt H W c most V = 0 := by
  have : ∀ w, w ≤ n → lawG n lt H W c most V w = 0 := by
    intro w
    induction w with
    | zero => exact fun _ => rfl
    | succ w ih => exact fun hw => (lawG_no (h _ (by omega))).trans (ih (by omega))
  exact this n (Nat.le_refl _)
theorem clmp_in {most w : Int32} (hm : 0 ≤ most) : 0 ≤ clmp most w ∧ clmp most w ≤ most := by
  unfold clmp
  split
  · split
    · exact ⟨by assumption, by assumption⟩
    · exact ⟨hm, Int32.le_refl _⟩
  · exact ⟨Int32.le_refl _, hm⟩
theorem lawF_in {n : Nat} {lt : Nat → Int32} {H W : Nat → Sem} {c most : Int32} {V : Nat → Int32} (hm : 0 ≤ most) : 0 ≤ lawF n lt H W c most V ∧ lawF n lt H W c most V ≤ most := by
  have : ∀ w, 0 ≤ lawG n lt H W c most V w ∧ lawG n lt H W c most V w ≤ most := by
    intro w
    induction w with
    | zero => exact ⟨Int32.le_refl _, hm⟩
    | succ w ih =>
      by_cases h1 : lt (n - (w + 1)) = c
      · rcases h2 : H (n - (w + 1)) V with _ | a
        · rw [lawG_none h1 h2]; exact ih
        · by_cases h3 : a = 0
          · rw [lawG_zero h1 h2 h3]; exact ih
          · rw [lawG_some h1 h2 h3]
            rcases W (n - (w + 1)) V with _ | x
            · exact ⟨Int32.le_refl _, hm⟩
            · exact clmp_in hm
      · rw [lawG_no h1]; exact ih
  exact this n
/-- the class's law at cell l is this one -/
def RepLC (h : aH) (l : Nat) (n : Nat) (lt : Nat → Int32) (H W : Nat → Sem) : Prop := ∃ sz, sz ≤ 200 ∧ n ≤ 14 ∧ gI h l 6 = nI n ∧ gI h l 2 = nI sz ∧ ∀ k, k < n → gA h (l + 3) k = lt k ∧
  (∃ i j N, gA h (l + 4) k = nI i ∧ CCo (gA h (l + 1)) (gA h (l + 2)) i j N (W k) ∧ N ≤ 64 ∧ j < sz ∧ gA h (l + 1) j = 0) ∧
  (∃ i j N, gA h (l + 5) k = nI i ∧ CCo (gA h (l + 1)) (gA h (l + 2)) i j N (H k) ∧ N ≤ 64 ∧ j < sz ∧ gA h (l + 1) j = 0)
theorem RepLC_to {h h' : aH} {l n : Nat} {lt : Nat → Int32} {H W : Nat → Sem} (ha : ∀ c, l + 1 ≤ c → c ≤ l + 5 → ∀ i, gA h' c i = gA h c i) (h2 : gI h' l 2 = gI h l 2) (h6 : gI h' l 6 = gI h l 6) (hR : RepLC h l n lt H W) : RepLC h' l n lt H W := by
  obtain ⟨sz, z1, z2, z3, z4, z5⟩ := hR
  have e1 : gA h' (l + 1) = gA h (l + 1) := funext (ha (l + 1) (by omega) (by omega))
  have e2 : gA h' (l + 2) = gA h (l + 2) := funext (ha (l + 2) (by omega) (by omega))
  refine ⟨sz, z1, z2, h6.trans z3, h2.trans z4, fun k hk => ?_⟩
  rw [ha (l + 3) (by omega) (by omega), ha (l + 4) (by omega) (by omega), ha (l + 5) (by omega) (by omega), e1, e2]
  exact z5 k hk
theorem RepLC_F {h h' : aH} {l n t : Nat} {lt : Nat → Int32} {H W : Nat → Sem} (hf : HF l t h h') (hR : RepLC h l n lt H W) : RepLC h' l n lt H W :=
  RepLC_to (fun c h1 h2 i => hf.2.1 c i (by omega)) (hf.2.2 _ _ (by omega)) (hf.2.2 _ _ (by omega)) hR
section Says
variable {h : aH} {l' d' l n : Nat} {lt : Nat → Int32} {H W : Nat → Sem} {V : Nat → Int32} {Q : Int32 → aH → Prop}
theorem aMM {most x : Int32} (hm : 0 ≤ most) : aMax 0 (aMin most x) = clmp most x := by
  unfold aMax aMin clmp
  by_cases c : 0 ≤ x
  · rw [if_pos c]
    by_cases c2 : x ≤ most
    · rw [if_pos c2]
      by_cases c3 : x < most
      · rw [if_pos c3]
        by_cases c4 : 0 < x
        · rw [if_pos c4]
        · rw [if_neg c4]; exact Int32.le_antisymm c (Int32.not_lt.mp c4)
      · rw [if_neg c3]
        have e : x = most := Int32.le_antisymm c2 (Int32.not_lt.mp c3)
        rw [← e]
        by_cases c4 : 0 < x
        · rw [if_pos c4]
        · rw [if_neg c4]; exact Int32.le_antisymm c (Int32.not_lt.mp c4)
    · rw [if_neg c2, if_neg (fun z => c2 (Int32.le_of_lt z))]
      by_cases c4 : 0 < most
      · rw [if_pos c4]
      · rw [if_neg c4]; exact Int32.le_antisymm hm (Int32.not_lt.mp c4)
  · rw [if_neg c]
    have c1 : x < 0 := Int32.not_le.mp c
    by_cases c2 : x < most
    · rw [if_pos c2, if_neg (Int32.not_lt.mpr (Int32.le_of_lt c1))]
    · exact absurd (Int32.lt_of_lt_of_le c1 hm) c2
theorem sp_says (hl : isLaw l) (hL : LayC h l' d') (hR : RepLC h l n lt H W) (hV : ∀ k, k < 12 → gA h (l + 6) k = V k) {c most : Int32} (hm : 0 ≤ most) (hq : ∀ h', HF l 0 h h' → Q (lawF n lt H W c most V) h') : f_X3_says SC l c most h Q := by
  obtain ⟨sz, z1, z2, z3, z4, z5⟩ := id hR
  have key : ∀ w i, i + w = n → ∀ h1, HF l 0 h h1 → (∀ h', HF l 0 h h' → Q (lawG n lt H W c most V w) h') → f_X3_says_2 SC l c most Q (w + 1) (nI i) h1 := by
    intro w
    induction w with
    | zero =>
      intro i hi h1 hf hq v ev
      rw [hf.2.2 _ _ (by omega), z3] at ev
      subst ev
      exact aIf_t (nI_le (by omega) (by omega)) (hq h1 hf)
    | succ w ih =>
      intro i hi h1 hf hq v ev
      have hL1 := LayC_2 hf.1 hL
      have eA : ∀ c i, ¬ c = l + 7 → gA h1 c i = gA h c i := fun c i hc => hf.2.1 c i (fun z => hc z.1)
      have e1 : gA h1 (l + 1) = gA h (l + 1) := funext (fun i => eA _ i (by omega))
      have e2 : gA h1 (l + 2) = gA h (l + 2) := funext (fun i => eA _ i (by omega))
      rw [hf.2.2 _ _ (by omega), z3] at ev
      subst ev
      refine aIf_f (nI_ge (by omega) (by omega)) ?_
      have ei : n - (w + 1) = i := by omega
      obtain ⟨y1, ⟨wi, wj, wN, w1, w2, w3, w4, w5⟩, ⟨ci, cj, cN, c1, c2, c3, c4, c5⟩⟩ := z5 i (by omega)
      have LH : ∀ h2, HF l 0 h h2 → LawH h2 l (gA h (l + 1)) (gA h (l + 2)) sz V := fun h2 hf2 => ⟨fun i => hf2.2.1 _ i (by omega), fun i => hf2.2.1 _ i (by omega), (hf2.2.2 _ _ (by omega)).trans z4, fun k hk => (hf2.2.1 _ k (by omega)).trans (hV k hk)⟩
      rw [lw_3 hl hL1, lwi_3 hl, vp_lt (show i < 14 by omega) (by decide), cl (by omega), eA _ _ (by omega), y1]
      refine ⟨trivial, fun v e => ?_⟩
      subst e
      refine aIf_i (fun k1 => ?_) (fun k1 => ?_)
      · intro x3 e3
        subst e3
        rw [nI_1]
        refine ih (i + 1) (by omega) h1 hf ?_
        rw [lawG_no (by rw [ei]; exact k1)] at hq
        exact hq
      · have k1 := Classical.not_not.mp k1
        rw [lw_5 hl hL1, lwi_5 hl, vp_lt (show i < 14 by omega) (by decide), eA _ _ (by omega), c1]
        refine ⟨trivial, fun v e => ?_⟩
        subst e
        refine sp_reckon hl hL1 (LH h1 hf) z1 c2 c4 c5 c3 (fun a h2 ea hf2 g9 => ?_) (fun ea h2 hf2 g9 => ?_)
        · have hf2' := HF_tr hf hf2 (Nat.le_refl _)
          refine aIf_i (fun a0 => ?_) (fun a0 => ?_)
          · intro x3 e3
            subst e3
            rw [nI_1]
            refine ih (i + 1) (by omega) h2 hf2' ?_
            rw [lawG_zero (by rw [ei]; exact k1) (by rw [ei]; exact ea) a0] at hq
            exact hq
          · intro v e
            rw [g9] at e
            subst e
            refine aIf_f (fun z => z rfl) ?_
            have hL2 := LayC_2 hf2'.1 hL
            rw [lw_4 hl hL2, lwi_4 hl, vp_lt (show i < 14 by omega) (by decide), hf2'.2.1 _ _ (by omega), w1]
            refine ⟨trivial, fun v e => ?_⟩
            subst e
            rw [lawG_some (by rw [ei]; exact k1) (by rw [ei]; exact ea) a0, ei] at hq
            refine sp_reckon hl hL2 (LH h2 hf2') z1 w2 w4 w5 w3 (fun x h3 ex hf3 g93 => ?_) (fun ex h3 hf3 g93 => ?_)
            · intro v e
              rw [g93] at e
              subst e
              refine aIf_t rfl (fun v22 e22 v23 e23 => ?_)
              subst e22 e23
              rw [aMM hm]
              have := hq h3 (HF_tr hf2' hf3 (Nat.le_refl _))
              rw [ex] at this
              exact this
            · intro v e
              rw [g93] at e
              subst e
              refine aIf_f (by decide) ?_
              have := hq h3 (HF_tr hf2' hf3 (Nat.le_refl _))
              rw [ex] at this
              exact this
        · have hf2' := HF_tr hf hf2 (Nat.le_refl _)
          refine aIf_t rfl ?_
          intro x3 e3
          subst e3
          rw [nI_1]
          refine ih (i + 1) (by omega) h2 hf2' ?_
          rw [lawG_none (by rw [ei]; exact k1) (by rw [ei]; exact ea)] at hq
          exact hq
  exact ⟨n + 1, key n 0 (by omega) h HF_rf hq⟩
theorem sp_has_l (hl : isLaw l) (hL : LayC h l' d') (hR : RepLC h l n lt H W) {c : Int32} (h1 : Q 1 h) (h0 : (∀ k, k < n → ¬ lt k = c) → Q 0 h) : f_X3_has SC l c h Q := by
  obtain ⟨sz, z1, z2, z3, z4, z5⟩ := id hR
  have := up_loop (N := n) (P := fun w i => (∀ k, k < i → ¬ lt k = c) → f_X3_has_2 SC l c Q w (nI i) h) ?_ ?_
  · exact ⟨n + 1, this (fun g hg => absurd hg (Nat.not_lt_zero _))⟩
  · intro hb v ev
    rw [z3] at ev
    subst ev
    exact aIf_t (nI_le (Nat.le_refl _) (by omega)) (h0 hb)
  · intro w i hi n1 hb v ev
    rw [z3] at ev
    subst ev
    refine aIf_f (nI_ge (by omega) (by omega)) ?_
    rw [lw_3 hl hL, lwi_3 hl, vp_lt (show i < 14 by omega) (by decide), cl (by omega), (z5 i hi).1]
    refine ⟨trivial, fun v e => ?_⟩
    subst e
    refine aIf_i (fun k1 => ?_) (fun k1 => h1)
    intro x2 e2
    subst e2
    rw [nI_1]
    refine n1 (fun g hg => ?_)
    rcases Nat.lt_or_ge g i with z | z
    · exact hb g z
    · rw [show g = i by omega]; exact k1
end Says
