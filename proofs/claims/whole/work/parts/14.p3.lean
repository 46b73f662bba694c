/-! ===== the reference's law; the relation of the two ===== -/
def RepLM (h : aH) (n : Nat) (lt : Nat → Int32) (H W : Nat → Sem) : Prop := n ≤ 14 ∧ gI h 0 16 = nI n ∧ ∀ k, k < n → gA h 12 k = lt k ∧ isB (H k) ∧ ∃ a b c, c ≤ 200 ∧ b ≤ 200 ∧ gA h 13 k = nI a ∧ gA h 14 k = nI b ∧ gA h 15 k = nI c ∧ MCo (gA h 16) (gA h 17) a b (W k) ∧ MCo (gA h 16) (gA h 17) b c (H k)
theorem RepLM_to {h h' : aH} {n : Nat} {lt : Nat → Int32} {H W : Nat → Sem} (ha : ∀ c, 12 ≤ c ∧ c ≤ 17 → ∀ i, gA h' c i = gA h c i) (h6 : gI h' 0 16 = gI h 0 16) (hR : RepLM h n lt H W) : RepLM h' n lt H W := by
  obtain ⟨z1, z2, z3⟩ := hR
  have e1 : gA h' 16 = gA h 16 := funext (ha 16 (by omega))
  have e2 : gA h' 17 = gA h 17 := funext (ha 17 (by omega))
  refine ⟨z1, h6.trans z2, fun k hk => ?_⟩
  rw [ha 12 (by omega), ha 13 (by omega), ha 14 (by omega), ha 15 (by omega), e1, e2]
  exact z3 k hk
def LR (hc hm : aH) : Prop := isLaw (gR hc 42 0) ∧ ∃ (n : Nat) (lt : Nat → Int32) (H W : Nat → Sem), RepLC hc (gR hc 42 0) n lt H W ∧ RepLM hm n lt H W
theorem LRok_LR : LRok LR := by
  refine ⟨fun hc hc' hm hm' c m h => ?_, fun hc hm h => ?_⟩
  · obtain ⟨hl, n, lt, H, W, h1, h2⟩ := h
    have er : gR hc' 42 0 = gR hc 42 0 := by unfold gR; rw [c.1]
    refine ⟨by rw [er]; exact hl, n, lt, H, W, ?_, RepLM_to m.2.1 m.2.2 h2⟩
    rw [er]
    rcases hl with e | e
    · rw [e] at h1 ⊢
      exact RepLC_to (fun a _ _ i => c.2.1 a (by omega) i) c.2.2.1 c.2.2.2.1 h1
    · rw [e] at h1 ⊢
      exact RepLC_to (fun a _ _ i => c.2.1 a (by omega) i) c.2.2.2.2.1 c.2.2.2.2.2 h1
  · obtain ⟨-, n, lt, H, W, ⟨sz, h1, h2, h3, h4⟩, h5⟩ := h
    exact h3.trans h5.2.1.symm
section Tells
variable {h : aH} {n : Nat} {lt : Nat → Int32} {H W : Nat → Sem} {V : Nat → Int32} {Q : Int32 → aH → Prop}
theorem hasV_F {h h' : aH} (hf : MF 0 h h') (hV : hasV h V) : hasV h' V := fun k hk h2 hf2 Q hq => hV k hk h2 (MF_tr hf hf2 (Nat.le_refl _)) Q hq
theorem sr_tells (hL : LayM h) (hR : RepLM h n lt H W) (hV : hasV h V) {c most : Int32} (hm : 0 ≤ most) (hq : ∀ h', MF 0 h h' → Q (lawF n lt H W c most V) h') : f_X11_tells SM 0 c most h Q := by
  obtain ⟨z1, z2, z3⟩ := id hR
  have key : ∀ w i, i + w = n → ∀ h1, MF 0 h h1 → (∀ h', MF 0 h h' → Q (lawG n lt H W c most V w) h') → f_X11_tells_2 SM 0 c most Q (w + 1) (nI i) h1 := by
    intro w
    induction w with
    | zero =>
      intro i hi h1 hf hq v ev
      rw [hf.2.2 _ _, z2] at ev
      subst ev
      exact aIf_t (nI_le (by omega) (by omega)) (hq h1 hf)
    | succ w ih =>
      intro i hi h1 hf hq v ev
      have hL1 := LayM_2 hf.1 hL
      have eA : ∀ h2, MF 0 h h2 → ∀ c i, c < 25 → gA h2 c i = gA h c i := fun h2 hf2 c i hc => hf2.2.1 c i (by omega)
      have e16 : ∀ h2, MF 0 h h2 → gA h2 16 = gA h 16 := fun h2 hf2 => funext (fun i => eA h2 hf2 _ i (by omega))
      have e17 : ∀ h2, MF 0 h h2 → gA h2 17 = gA h 17 := fun h2 hf2 => funext (fun i => eA h2 hf2 _ i (by omega))
      rw [hf.2.2 _ _, z2] at ev
      subst ev
      refine aIf_f (nI_ge (by omega) (by omega)) ?_
      have ei : n - (w + 1) = i := by omega
      obtain ⟨y1, yB, a, b, c', c200, b200, w1, w2, w3, w4, w5⟩ := z3 i (by omega)
      rw [m_17 hL1, mi_12, vp_lt (show i < 14 by omega) (by decide), cl (by omega), eA h1 hf _ _ (by omega), y1]
      refine ⟨trivial, fun v e => ?_⟩
      subst e
      have next : ∀ h2, MF 0 h h2 → lawG n lt H W c most V (w + 1) = lawG n lt H W c most V w → f_X11_tells_2 SM 0 c most Q (w + 1) (nI (i + 1)) h2 := fun h2 hf2 e => ih (i + 1) (by omega) h2 hf2 (by rw [e] at hq; exact hq)
      refine aIf_i (fun k1 => ?_) (fun k1 => ?_)
      · rw [m_19 hL1, mi_14, vp_lt (show i < 14 by omega) (by decide), eA h1 hf _ _ (by omega), w2]
        refine ⟨trivial, fun v e => ?_⟩
        subst e
        rw [m_20 hL1, mi_15, vp_lt (show i < 14 by omega) (by decide), eA h1 hf _ _ (by omega), w3]
        refine ⟨trivial, fun v e => ?_⟩
        subst e
        refine sr_works hL1 (hasV_F hf hV) c200 (by rw [e16 h1 hf, e17 h1 hf]; exact w5) (fun h2 hf2 hv => ?_)
        have hf2' := MF_tr hf hf2 (Nat.le_refl _)
        have hL2 := LayM_2 hf2'.1 hL
        rw [m_44 hL2, mi_26]
        refine ⟨vp_in_nI (n := 0) (by decide) (by decide), fun v e => ?_⟩
        have e : v = gA h2 26 0 := e
        subst e
        rcases eh : H i V with _ | x
        · rw [eh] at hv
          refine aIf_t (by rw [show gA h2 26 0 = 1 from hv]; decide) ?_
          intro x3 e3
          subst e3
          rw [nI_1]
          exact next h2 hf2' (lawG_none (by rw [ei]; exact k1) (by rw [ei]; exact eh))
        · rw [eh] at hv
          refine aIf_f (by rw [hv.1]; decide) ?_
          rw [m_43 hL2, mi_25]
          refine ⟨vp_in_nI (n := 0) (by decide) (by decide), fun v e => ?_⟩
          have e : v = gA h2 25 0 := e
          rw [hv.2] at e
          subst e
          refine aIf_i (fun x1 => ?_) (fun x1 => ?_)
          · have x0 : ¬ v = 0 := by rw [x1]; decide
            rw [m_18 hL2, mi_13, vp_lt (show i < 14 by omega) (by decide), eA h2 hf2' _ _ (by omega), w1]
            refine ⟨trivial, fun v e => ?_⟩
            subst e
            rw [m_19 hL2, mi_14, vp_lt (show i < 14 by omega) (by decide), eA h2 hf2' _ _ (by omega), w2]
            refine ⟨trivial, fun v e => ?_⟩
            subst e
            rw [lawG_some (by rw [ei]; exact k1) (by rw [ei]; exact eh) x0, ei] at hq
            refine sr_works hL2 (hasV_F hf2' hV) b200 (by rw [e16 h2 hf2', e17 h2 hf2']; exact w4) (fun h3 hf3 hv3 => ?_)
            have hf3' := MF_tr hf2' hf3 (Nat.le_refl _)
            have hL3 := LayM_2 hf3'.1 hL
            have hq3 := hq h3 hf3'
            rw [m_44 hL3, mi_26]
            refine ⟨vp_in_nI (n := 0) (by decide) (by decide), fun v e => ?_⟩
            have e : v = gA h3 26 0 := e
            subst e
            rcases ew : W i V with _ | y
            · rw [ew] at hv3 hq3
              refine aIf_f (by rw [show gA h3 26 0 = 1 from hv3]; decide) ?_
              exact aIf_t (by decide) (aIf_t hm hq3)
            · rw [ew] at hv3 hq3
              refine aIf_t hv3.1 ?_
              rw [m_43 hL3, mi_25]
              refine ⟨vp_in_nI (n := 0) (by decide) (by decide), fun v e => ?_⟩
              have e : v = gA h3 25 0 := e
              rw [hv3.2] at e
              subst e
              have hq3 : Q (clmp most v) h3 := hq3
              unfold clmp at hq3
              refine aIf_i (fun p => ?_) (fun p => ?_)
              · rw [if_pos p] at hq3
                refine aIf_i (fun q => ?_) (fun q => ?_)
                · rw [if_pos q] at hq3; exact hq3
                · rw [if_neg q] at hq3; exact hq3
              · rw [if_neg p] at hq3; exact hq3
          · have x0 : v = 0 := (yB V v eh).resolve_right x1
            intro x3 e3
            subst e3
            rw [nI_1]
            exact next h2 hf2' (lawG_zero (by rw [ei]; exact k1) (by rw [ei]; exact eh) x0)
      · intro x3 e3
        subst e3
        rw [nI_1]
        exact next h1 hf (lawG_no (by rw [ei]; exact k1))
  exact ⟨n + 1, key n 0 (by omega) h MF_rf hq⟩
end Tells
/-! ===== the way from a square to another; who stands near ===== -/
def dif (a b : Nat) : Nat := if a ≤ b then b - a else a - b
def wayN (s t : Nat) : Nat := dif (s % 16) (t % 16) + dif (s / 16) (t / 16)
theorem dif_abs {a b : Nat} (ha : a < 1000) (hb : b < 1000) : aAbs (nI a - nI b) = nI (dif a b) ∧ ∀ (S : aS) (h : aH) (Q : Int32 → aH → Prop), Q (nI (dif a b)) h → f_X11_size S (nI a - nI b) h Q := by
  have e : nI a - nI b = iI ((a : Int) - b) := iI_sub a b
  have p : (0 ≤ nI a - nI b) ↔ b ≤ a := by
    rw [e, show (0 : Int32) = iI 0 from rfl, iI_le (by omega) (by omega) (by omega) (by omega)]
    omega
  have e1 : b ≤ a → nI a - nI b = nI (dif a b) := fun z => by
    rw [e, ← iI_nat]; congr 1; unfold dif; split <;> omega
  have e2 : ¬ b ≤ a → 0 - (nI a - nI b) = nI (dif a b) := fun z => by
    rw [e, show (0 : Int32) = iI 0 from rfl, iI_sub, ← iI_nat]; congr 1; unfold dif; split <;> omega
  have e3 : ¬ b ≤ a → -(nI a - nI b) = nI (dif a b) := fun z => by
    rw [e, iI_neg, ← iI_nat]; congr 1; unfold dif; split <;> omega
  refine ⟨?_, fun S h Q hq => ?_⟩
  · unfold aAbs
    by_cases c : b ≤ a
    · rw [if_pos (p.mpr c)]; exact e1 c
    · rw [if_neg (fun z => c (p.mp z))]; exact e2 c
  · refine aIf_i (fun c => ?_) (fun c => ?_)
    · rw [e1 (p.mp c)]; exact hq
    · rw [e3 (fun z => c (p.mpr z))]; exact hq
theorem sp_way {S : aS} {s t : Nat} (hs : s < 256) (ht : t < 256) {h : aH} {Q : Int32 → aH → Prop} (hq : Q (nI (wayN s t)) h) : f_X1_way S (nI s) (nI t) h Q := by
  intro v1 e1 v2 e2
  rw [nI_x hs, nI_x ht, (dif_abs (by omega) (by omega)).1] at e1
  rw [nI_y hs, nI_y ht, (dif_abs (by omega) (by omega)).1] at e2
  subst e1 e2
  rw [nI_add]
  exact hq
theorem sr_wayOf {S : aS} {s t : Nat} (hs : s < 256) (ht : t < 256) {h : aH} {Q : Int32 → aH → Prop} (hq : Q (nI (wayN s t)) h) : f_X11_wayOf S (nI s) (nI t) h Q := by
  unfold f_X11_wayOf
  rw [nI_mod hs, nI_mod ht, nI_div hs, nI_div ht]
  refine (dif_abs (by omega) (by omega)).2 _ _ _ ?_
  refine (dif_abs (by omega) (by omega)).2 _ _ _ ?_
  rw [nI_add]
  exact hq
theorem wayN_sym (s t : Nat) : wayN s t = wayN t s := by
  unfold wayN dif
  split <;> split <;> split <;> split <;> omega
theorem wayN_lt {s t : Nat} (hs : s < 256) (ht : t < 256) : wayN s t ≤ 30 := by
  unfold wayN dif
  split <;> split <;> omega
/-- is a GROUP near a square -/
def nearT (L : Lw) (s g : Nat) : Int32 := if L 7 g = (-2) then 0 else if 2 ≤ wayN (L 7 g).toNatClampNeg s then 0 else 1
def nearL (L : Lw) (gn s : Nat) : Int32 := sm (nearT L s) gn
section Near
variable {h : aH} {l d k : Nat} {L : Lw} {hn gn : Nat} {Q : Int32 → aH → Prop}
theorem sp_groupsNear (hk : isLake k) (hL : LayC h l d) (hR : RepC h k L) (hW : WF L hn gn) {s : Nat} (hs : s < 256) (hq : Q (nearL L gn s) h) : f_X2_groupsNear SC k (nI s) h Q := by
  have hgn := hW.2.1
  have e3 : gI h k 12 = nI gn := hR.2.2.2.2.1.trans hW.2.2.2.1
  refine ⟨gn + 1, up_loop (P := fun w i => f_X2_groupsNear_4 SC k (nI s) Q w (sm (nearT L s) i) (nI i) h) ?_ ?_⟩
  · intro v ev
    rw [e3] at ev
    subst ev
    exact aIf_t (nI_le (Nat.le_refl _) (by omega)) hq
  · intro w i hi n1 v ev
    rw [e3] at ev
    subst ev
    refine aIf_f (nI_ge (by omega) (by omega)) ?_
    rw [← nI_1, sm_s] at n1
    rw [lk_10 hk hL, li_10 hk, vp_lt (show i < 8 by omega) (by decide), cl (by omega), (hR.2.2.1 i (by omega)).1]
    refine ⟨trivial, fun v e => ?_⟩
    subst e
    unfold nearT at n1
    refine aIf_i (fun c => ?_) (fun c => ⟨trivial, fun v e => ?_⟩)
    · intro x3 e3
      subst e3
      rw [if_pos c, Int32.add_zero] at n1
      exact n1
    · subst e
      rw [if_neg c] at n1
      obtain ⟨t, ht, et, -⟩ := (hW.2.2.2.2.2.2.2.2.1 i hi).1.resolve_left c
      rw [et, cl (by omega)] at n1
      rw [et]
      have := wayN_lt ht hs
      refine sp_way ht hs ?_
      refine aIf_i (fun c2 => ?_) (fun c2 => ?_)
      · intro x3 e3
        subst e3
        rw [if_pos (show 2 ≤ wayN t s from (nI_ltI (a := 1) (by omega) (by omega)).mp c2), Int32.add_zero] at n1
        exact n1
      · intro x2 e2 x3 e3
        subst e2
        subst e3
        rw [if_neg (show ¬ 2 ≤ wayN t s from fun z => c2 ((nI_ltI (a := 1) (by omega) (by omega)).mpr z))] at n1
        exact n1
theorem sr_nearGroups (hL : LayM h) (hM : RepM h L) (hW : WF L hn gn) {s : Nat} (hs : s < 256) (hq : Q (nearL L gn s) h) : f_X11_nearGroups SM 0 (nI s) h Q := by
  have hgn := hW.2.1
  have e3 : gI h 0 3 = nI gn := hM.2.2.2.2.1.trans hW.2.2.2.1
  refine ⟨gn + 1, up_loop (P := fun w i => f_X11_nearGroups_4 SM 0 (nI s) Q w (sm (nearT L s) i) (nI i) h) ?_ ?_⟩
  · intro v ev
    rw [e3] at ev
    subst ev
    exact aIf_t (nI_le (Nat.le_refl _) (by omega)) hq
  · intro w i hi n1 v ev
    rw [e3] at ev
    subst ev
    refine aIf_f (nI_ge (by omega) (by omega)) ?_
    rw [← nI_1, sm_s] at n1
    rw [m_14 hL, mi_10, vp_lt (show i < 8 by omega) (by decide), cl (by omega), (hM.2.2.1 i (by omega)).1]
    refine ⟨trivial, fun v e => ?_⟩
    subst e
    unfold nearT at n1
    refine aIf_i (fun c => ?_) (fun c => ⟨trivial, fun v e => ?_⟩)
    · intro x2 e2 x3 e3
      subst e2
      subst e3
      rw [if_pos c] at n1
      exact n1
    · subst e
      rw [if_neg c] at n1
      obtain ⟨t, ht, et, -⟩ := (hW.2.2.2.2.2.2.2.2.1 i hi).1.resolve_left c
      rw [et, cl (by omega)] at n1
      rw [et]
      have := wayN_lt ht hs
      refine sr_wayOf ht hs ?_
      refine aIf_i (fun c2 => ?_) (fun c2 => ?_)
      · intro x2 e2 x3 e3
        subst e2
        subst e3
        rw [if_pos ((nI_leI (a := 2) (by omega) (by omega)).mp c2)] at n1
        exact n1
      · intro x2 e2 x3 e3
        subst e2
        subst e3
        rw [if_neg (fun z => c2 ((nI_leI (a := 2) (by omega) (by omega)).mpr z))] at n1
        exact n1
end Near
