/-! ===== the law at a square, from a HOLE: both sides ===== -/
/-- the class: nothing but the law's scratch has changed -/
def SFC (h h' : aH) : Prop := h'.2.2 = h.2.2 ∧ (∀ c i, ¬ (c = 49 ∨ c = 50 ∨ c = 59 ∨ c = 60) → gA h' c i = gA h c i) ∧ ∀ c j, ¬ ((c = 43 ∨ c = 53) ∧ j = 9) → gI h' c j = gI h c j
theorem SFC_rf {h : aH} : SFC h h := ⟨rfl, fun _ _ _ => rfl, fun _ _ _ => rfl⟩
theorem SFC_tr {a b c : aH} (x : SFC a b) (y : SFC b c) : SFC a c := ⟨y.1.trans x.1, fun k i hk => (y.2.1 k i hk).trans (x.2.1 k i hk), fun k i hk => (y.2.2 k i hk).trans (x.2.2 k i hk)⟩
theorem SFC_HF {l t : Nat} {h h' : aH} (hl : isLaw l) (x : HF l t h h') : SFC h h' := by
  unfold isLaw at hl
  exact ⟨x.1, fun c i hc => x.2.1 c i (by omega), fun c j hc => x.2.2 c j (by omega)⟩
theorem SFC_sA {h : aH} {c i : Nat} {v : Int32} (hc : c = 49 ∨ c = 50 ∨ c = 59 ∨ c = 60) : SFC h (sA h c i v) := ⟨rfl, fun a j ha => by rw [gA_sA, if_neg (fun z => ha (by rw [z.1]; exact hc))], fun _ _ _ => rfl⟩
theorem CS_SFC {h h' : aH} (x : SFC h h') : CS h h' :=
  ⟨x.1, fun c hc i => x.2.1 c i (by omega), fun j => x.2.2 _ _ (by omega), x.2.2 _ _ (by omega), x.2.2 _ _ (by omega), x.2.2 _ _ (by omega), x.2.2 _ _ (by omega), x.2.2 _ _ (by omega), x.2.2 _ _ (by omega)⟩
theorem RepC_gA {h h' : aH} {k : Nat} {L : Lw} (ha : ∀ c i, k ≤ c → c ≤ k + 11 → gA h' c i = gA h c i) (hi : ∀ j, gI h' k j = gI h k j) (hR : RepC h k L) : RepC h' k L := by
  refine ⟨fun i hi => ?_, fun i hi => ?_, fun i hi => ?_, ?_⟩
  · rw [ha _ _ (by omega) (by omega), ha _ _ (by omega) (by omega), ha _ _ (by omega) (by omega), ha _ _ (by omega) (by omega)]
    exact hR.1 i hi
  · rw [ha _ _ (by omega) (by omega), ha _ _ (by omega) (by omega), ha _ _ (by omega) (by omega), ha _ _ (by omega) (by omega), ha _ _ (by omega) (by omega)]
    exact hR.2.1 i hi
  · rw [ha _ _ (by omega) (by omega), ha _ _ (by omega) (by omega)]
    exact hR.2.2.1 i hi
  · rw [hi, hi, hi, hi]
    exact hR.2.2.2
theorem RepC_SFC {h h' : aH} {k : Nat} {L : Lw} (hk : isLake k) (x : SFC h h') (hR : RepC h k L) : RepC h' k L := by
  unfold isLake at hk
  exact RepC_gA (fun c i h1 h2 => x.2.1 c i (by omega)) (fun j => x.2.2 _ _ (by omega)) hR
/-- the law as what it says -/
abbrev LF : Type := Int32 → Int32 → (Nat → Int32) → Int32
def LC (h : aH) (l : Nat) (F : LF) : Prop := ∃ n lt H W, RepLC h l n lt H W ∧ F = lawF n lt H W
def LM (h : aH) (F : LF) : Prop := ∃ n lt H W, RepLM h n lt H W ∧ F = lawF n lt H W
theorem LR_F {hc hm : aH} {l d : Nat} (hL : LayC hc l d) (h : LR hc hm) : ∃ F, LC hc l F ∧ LM hm F := by
  obtain ⟨-, n, lt, H, W, h1, h2⟩ := h
  rw [c_42_0 hL] at h1
  exact ⟨lawF n lt H W, ⟨n, lt, H, W, h1, rfl⟩, ⟨n, lt, H, W, h2, rfl⟩⟩
theorem LC_to {h h' : aH} {l : Nat} {F : LF} (ha : ∀ c, l + 1 ≤ c → c ≤ l + 5 → ∀ i, gA h' c i = gA h c i) (h2 : gI h' l 2 = gI h l 2) (h6 : gI h' l 6 = gI h l 6) (hF : LC h l F) : LC h' l F := by
  obtain ⟨n, lt, H, W, h1, e⟩ := hF
  exact ⟨n, lt, H, W, RepLC_to ha h2 h6 h1, e⟩
theorem LC_SFC {h h' : aH} {l : Nat} {F : LF} (hl : isLaw l) (x : SFC h h') (hF : LC h l F) : LC h' l F := by
  unfold isLaw at hl
  exact LC_to (fun c h1 h2 i => x.2.1 c i (by omega)) (x.2.2 _ _ (by omega)) (x.2.2 _ _ (by omega)) hF
theorem LM_to {h h' : aH} {F : LF} (ha : ∀ c, 12 ≤ c ∧ c ≤ 17 → ∀ i, gA h' c i = gA h c i) (h6 : gI h' 0 16 = gI h 0 16) (hF : LM h F) : LM h' F := by
  obtain ⟨n, lt, H, W, h1, e⟩ := hF
  exact ⟨n, lt, H, W, RepLM_to ha h6 h1, e⟩
/-- the reference: nothing but the law's scratch has changed -/
def SFM (h h' : aH) : Prop := h'.2.2 = h.2.2 ∧ (∀ c i, ¬ (25 ≤ c ∧ c ≤ 26) → gA h' c i = gA h c i) ∧ ∀ c j, ¬ (c = 0 ∧ 39 ≤ j ∧ j ≤ 42) → gI h' c j = gI h c j
theorem SFM_rf {h : aH} : SFM h h := ⟨rfl, fun _ _ _ => rfl, fun _ _ _ => rfl⟩
theorem SFM_tr {a b c : aH} (x : SFM a b) (y : SFM b c) : SFM a c := ⟨y.1.trans x.1, fun k i hk => (y.2.1 k i hk).trans (x.2.1 k i hk), fun k i hk => (y.2.2 k i hk).trans (x.2.2 k i hk)⟩
theorem SFM_MF {t : Nat} {h h' : aH} (x : MF t h h') : SFM h h' := ⟨x.1, fun c i hc => x.2.1 c i (by omega), fun c j _ => x.2.2 c j⟩
theorem SFM_sI {h : aH} {j : Nat} {v : Int32} (hj : 39 ≤ j ∧ j ≤ 42) : SFM h (sI h 0 j v) := ⟨rfl, fun _ _ _ => rfl, fun c i hc => by rw [gI_sI, if_neg (fun z => hc ⟨z.1, by omega⟩)]⟩
theorem SFM_sA {h : aH} {c i : Nat} {v : Int32} (hc : 25 ≤ c ∧ c ≤ 26) : SFM h (sA h c i v) := ⟨rfl, fun a j ha => by rw [gA_sA, if_neg (fun z => ha (by omega))], fun _ _ _ => rfl⟩
theorem MS_SFM {h h' : aH} (x : SFM h h') : MS h h' :=
  ⟨x.1, fun c hc i => x.2.1 c i (by omega), fun c hc i _ => x.2.1 c i (by omega), fun i _ => x.2.1 _ i (by omega), fun i _ => x.2.1 _ i (by omega), fun j hj => x.2.2 _ _ (by omega)⟩
theorem RepM_gA {h h' : aH} {L : Lw} (ha : ∀ c i, 2 ≤ c → c ≤ 11 → gA h' c i = gA h c i) (hi : ∀ j, 2 ≤ j → j ≤ 5 → gI h' 0 j = gI h 0 j) (hR : RepM h L) : RepM h' L := by
  refine ⟨fun i hi => ?_, fun i hi => ?_, fun i hi => ?_, ?_⟩
  · rw [ha 2 i (by omega) (by omega), ha 3 i (by omega) (by omega), ha 4 i (by omega) (by omega)]
    exact hR.1 i hi
  · rw [ha 5 i (by omega) (by omega), ha 6 i (by omega) (by omega), ha 7 i (by omega) (by omega), ha 8 i (by omega) (by omega), ha 9 i (by omega) (by omega)]
    exact hR.2.1 i hi
  · rw [ha 10 i (by omega) (by omega), ha 11 i (by omega) (by omega)]
    exact hR.2.2.1 i hi
  · rw [hi 2 (by omega) (by omega), hi 3 (by omega) (by omega), hi 4 (by omega) (by omega), hi 5 (by omega) (by omega)]
    exact hR.2.2.2
theorem RepM_SFM {h h' : aH} {L : Lw} (x : SFM h h') (hR : RepM h L) : RepM h' L := RepM_gA (fun c i h1 h2 => x.2.1 c i (by omega)) (fun j h1 h2 => x.2.2 _ _ (by omega)) hR
theorem LM_SFM {h h' : aH} {F : LF} (x : SFM h h') (hF : LM h F) : LM h' F := LM_to (fun c hc i => x.2.1 c i (by omega)) (x.2.2 _ _ (by omega)) hF
/-- the class's row of values, as far as j -/
def VP (l : Nat) (h0 : aH) (V : Nat → Int32) (j : Nat) (h : aH) : Prop := SFC h0 h ∧ ∀ i, i < j → gA h (l + 6) i = V i
section Look
variable {h h0 h1 : aH} {l d k l' d' : Nat} {L : Lw} {hn gn : Nat} {V : Nat → Int32}
theorem v_put (hl : isLaw l) (hL : LayC h l' d') {j : Nat} (hv : VP l h0 V j h1) (hj : j < 12) {v : Int32} (e : v = V j) {G : aH → Prop} (hq : ∀ h', VP l h0 V (j + 1) h' → G h') : aIn SC 0 (gR h l 7) (nI j) ∧ ∀ h' : aH, h' = sA h1 (gR h l 7) (nI j).toNatClampNeg v → G h' := by
  rw [lw_7 hl hL, lwi_6 hl, vp_lt hj (by decide), cl (by omega)]
  refine ⟨trivial, fun h' e' => hq h' ?_⟩
  subst e'
  refine ⟨SFC_tr hv.1 (SFC_sA (by unfold isLaw at hl; omega)), fun i hi => ?_⟩
  rw [gA_sA]
  by_cases c : i = j
  · rw [if_pos ⟨rfl, c⟩, c]; exact e
  · rw [if_neg (fun z => c z.2)]; exact hv.2 i (by omega)
theorem v_zeros (hl : isLaw l) (hL : LayC h0 l' d') (hV : ∀ i, 7 ≤ i → i < 12 → V i = 0) {a2 a3 : Int32} {Q : aH → Prop} (hq : ∀ h', VP l h0 V 12 h' → Q h') : ∀ w i, i + w = 12 → 7 ≤ i → ∀ h, VP l h0 V i h → f_X3_lookAt_78 SC l k a2 a3 Q (w + 1) (nI i) h := by
  intro w
  induction w with
  | zero =>
    intro i hi _ h hv
    rw [show i = 12 by omega] at hv ⊢
    exact aIf_t (by decide) (hq h hv)
  | succ w ih =>
    intro i hi h7 h hv
    refine aIf_f (nI_ge (a := i) (b := 12) (by omega) (by decide)) ?_
    refine v_put hl (LayC_2 hv.1.1 hL) hv (by omega) (hV i h7 (by omega)).symm (fun h' hv' => ?_)
    intro x4 e4
    rw [nI_1] at e4
    subst e4
    exact ih (i + 1) (by omega) (by omega) h' hv'
theorem sp_lookAt (hk : isLake k) (hl : isLaw l) (hL : LayC h l' d') (hR : RepC h k L) {s : Nat} (hs : s < 256) {kd : Int32} {Q : aH → Prop} (hq : ∀ h', SFC h h' → (∀ i, i < 12 → gA h' (l + 6) i = VS L s kd e0 i) → Q h') : f_X3_lookAt SC l k (nI s) kd h Q := by
  unfold f_X3_lookAt
  have Rc : ∀ h', VP l h (VS L s kd e0) 0 h' → RepC h' k L ∧ LayC h' l' d' := fun h' hv => ⟨RepC_SFC hk hv.1 hR, LayC_2 hv.1.1 hL⟩
  have up : ∀ {j h'}, VP l h (VS L s kd e0) j h' → VP l h (VS L s kd e0) 0 h' := fun hv => ⟨hv.1, fun i hi => absurd hi (Nat.not_lt_zero _)⟩
  have v0 : VP l h (VS L s kd e0) 0 h := ⟨SFC_rf, fun i hi => absurd hi (Nat.not_lt_zero _)⟩
  rw [lk_0 hk hL, li_1 hk, vp_lt hs (by decide), cl (by omega), (hR.1 s hs).1]
  refine ⟨trivial, fun v ev => ?_⟩
  refine v_put (j := 0) hl hL v0 (by decide) ev (fun h1 w1 => ?_)
  obtain ⟨r1, l1⟩ := Rc h1 (up w1)
  rw [lk_2 hk l1, li_3 hk, vp_lt hs (by decide), (r1.1 s hs).2.2.1]
  refine ⟨trivial, fun v ev => ?_⟩
  refine v_put (j := 1) hl l1 w1 (by decide) ev (fun h2 w2 => ?_)
  obtain ⟨r2, l2⟩ := Rc h2 (up w2)
  rw [lk_3 hk l2, li_4 hk, vp_lt hs (by decide), (r2.1 s hs).2.2.2]
  refine ⟨trivial, fun v ev => ?_⟩
  refine v_put (j := 2) hl l2 w2 (by decide) ev (fun h3 w3 => ?_)
  obtain ⟨r3, l3⟩ := Rc h3 (up w3)
  refine v_put (j := 3) hl l3 w3 (by decide) (nI_x hs) (fun h4 w4 => ?_)
  obtain ⟨r4, l4⟩ := Rc h4 (up w4)
  refine v_put (j := 4) hl l4 w4 (by decide) (nI_y hs) (fun h5 w5 => ?_)
  obtain ⟨r5, l5⟩ := Rc h5 (up w5)
  intro v ev
  rw [r5.2.2.2.2.2.1] at ev
  refine v_put (j := 5) hl l5 w5 (by decide) ev (fun h6 w6 => ?_)
  obtain ⟨r6, l6⟩ := Rc h6 (up w6)
  refine v_put (j := 6) hl l6 w6 (by decide) rfl (fun h7 w7 => ?_)
  refine ⟨6, v_zeros hl hL (fun i h1 h2 => ?_) (fun h' hv => hq h' hv.1 hv.2) 5 7 (by omega) (by omega) h7 w7⟩
  obtain ⟨j, rfl⟩ : ∃ j, i = j + 7 := ⟨i - 7, by omega⟩
  rfl
theorem sp_lookFrom (hk : isLake k) (hl : isLaw l) (hL : LayC h l' d') (hR : RepC h k L) (hW : WF L hn gn) {m s g t : Nat} (hm : m < 12) (hs : s < 256) (es : L 2 m = nI s) (hg : g < gn) (ht : t < 256) (et : L 7 g = nI t) {Q : aH → Prop} (hq : ∀ h', SFC h h' → (∀ i, i < 12 → gA h' (l + 6) i = VS L s (L 3 m) (eD L gn m s g t) i) → Q h') : f_X3_lookFrom SC l k (nI m) (nI g) h Q := by
  have hgn := hW.2.1
  unfold f_X3_lookFrom
  rw [lk_4 hk hL, li_5 hk, vp_lt hm (by decide), cl (by omega), (hR.2.1 m hm).1, es]
  refine ⟨trivial, fun v ev => ?_⟩
  subst ev
  rw [lk_5 hk hL, li_6 hk, vp_lt hm (by decide), (hR.2.1 m hm).2.1]
  refine ⟨trivial, fun v ev => ?_⟩
  subst ev
  refine sp_lookAt hk hl hL hR hs (fun h1 f1 w1 => ?_)
  have w7 : VP l h (VS L s (L 3 m) (eD L gn m s g t)) 7 h1 := ⟨f1, fun i hi => (w1 i (by omega)).trans (by
    have : i = 0 ∨ i = 1 ∨ i = 2 ∨ i = 3 ∨ i = 4 ∨ i = 5 ∨ i = 6 := by omega
    rcases this with c | c | c | c | c | c | c <;> subst c <;> rfl)⟩
  have Rc : ∀ {j h'}, VP l h (VS L s (L 3 m) (eD L gn m s g t)) j h' → RepC h' k L ∧ LayC h' l' d' := fun hv => ⟨RepC_SFC hk hv.1 hR, LayC_2 hv.1.1 hL⟩
  obtain ⟨r1, l1⟩ := Rc w7
  rw [lk_7 hk l1, li_8 hk, vp_lt hm (by decide), (r1.2.1 m hm).2.2.2.1]
  refine ⟨trivial, fun v ev => ?_⟩
  refine v_put (j := 7) hl l1 w7 (by decide) ev (fun h2 w8 => ?_)
  obtain ⟨r2, l2⟩ := Rc w8
  rw [lk_8 hk l2, li_9 hk, vp_lt hm (by decide), (r2.2.1 m hm).2.2.2.2]
  refine ⟨trivial, fun v ev => ?_⟩
  refine v_put (j := 8) hl l2 w8 (by decide) ev (fun h3 w9 => ?_)
  obtain ⟨r3, l3⟩ := Rc w9
  rw [lk_10 hk l3, li_10 hk, vp_lt (show g < 8 by omega) (by decide), cl (by omega), (r3.2.2.1 g (by omega)).1, et]
  refine ⟨trivial, fun v ev => ?_⟩
  subst ev
  refine sp_way hs ht ?_
  refine v_put (j := 9) hl l3 w9 (by decide) rfl (fun h4 w10 => ?_)
  obtain ⟨r4, l4⟩ := Rc w10
  rw [lk_11 hk l4, li_11 hk, vp_lt (show g < 8 by omega) (by decide), (r4.2.2.1 g (by omega)).2]
  refine ⟨trivial, fun v ev => ?_⟩
  refine v_put (j := 10) hl l4 w10 (by decide) ev (fun h5 w11 => ?_)
  obtain ⟨r5, l5⟩ := Rc w11
  refine sp_groupsNear hk l5 r5 hW hs ?_
  refine v_put (j := 11) hl l5 w11 (by decide) rfl (fun h6 w12 => ?_)
  exact hq h6 w12.1 w12.2
theorem sp_saysF (hl : isLaw l) (hL : LayC h l' d') {F : LF} (hF : LC h l F) (hV : ∀ k, k < 12 → gA h (l + 6) k = V k) {c most : Int32} (hm : 0 ≤ most) {Q : Int32 → aH → Prop} (hq : ∀ h', SFC h h' → Q (F c most V) h') : f_X3_says SC l c most h Q := by
  obtain ⟨n, lt, H, W, h1, e⟩ := hF
  subst e
  exact sp_says hl hL h1 hV hm (fun h' hf => hq h' (SFC_HF hl hf))
end Look
def bearsL (F : LF) (L : Lw) (s : Nat) : Int32 := F 98 9999 (VS L s (kindL L s) e0)
def thawV (F : LF) (L : Lw) (s : Nat) : Int32 := F 116 9 (VS L s (kindL L s) e0)
def mayL (F : LF) (L : Lw) (s : Nat) (kd : Int32) : Int32 := F 99 1 (VS L s kd e0)
def pullL (F : LF) (L : Lw) (gn m g : Nat) : Int32 := F 103 999 (VS L (L 2 m).toNatClampNeg (L 3 m) (eD L gn m (L 2 m).toNatClampNeg g (L 7 g).toNatClampNeg))
theorem LC_in {h : aH} {l : Nat} {F : LF} (hF : LC h l F) {c most : Int32} {V : Nat → Int32} (hm : 0 ≤ most) : 0 ≤ F c most V ∧ F c most V ≤ most := by
  obtain ⟨n, lt, H, W, h1, e⟩ := hF
  subst e
  exact lawF_in hm
section Ask
variable {h : aH} {l d k : Nat} {L : Lw} {hn gn : Nat} {F : LF} {Q : Int32 → aH → Prop}
theorem sp_bears (hk : isLake k) (hL : LayC h l d) (hR : RepC h k L) (hW : WF L hn gn) (hF : LC h l F) {s : Nat} (hs : s < 256) (hq : ∀ h', SFC h h' → Q (bearsL F L s) h') : f_X5_bears SC 42 k (nI s) h Q := by
  have hl := lay_isLaw hL
  unfold f_X5_bears
  refine sp_kindAt hk hL hR hW hs ?_
  rw [c_42_0 hL, lw_o hl]
  refine ⟨trivial, sp_lookAt hk hl hL hR hs (fun h1 f1 w1 => ?_)⟩
  have l1 := LayC_2 f1.1 hL
  rw [c_42_0 l1, lw_o hl]
  exact ⟨trivial, sp_saysF hl l1 (LC_SFC hl f1 hF) w1 (by decide) (fun h2 f2 => hq h2 (SFC_tr f1 f2))⟩
theorem sp_allows (hk : isLake k) (hL : LayC h l d) (hR : RepC h k L) (hF : LC h l F) {s : Nat} (hs : s < 256) {kd : Int32} (hq1 : ∀ h', SFC h h' → ¬ mayL F L s kd ≤ 0 → Q 1 h') (hq0 : ∀ h', SFC h h' → mayL F L s kd ≤ 0 → Q 0 h') : f_X5_allows SC 42 k (nI s) kd h Q := by
  have hl := lay_isLaw hL
  unfold f_X5_allows
  rw [c_42_0 hL, lw_o hl]
  refine ⟨trivial, sp_lookAt hk hl hL hR hs (fun h1 f1 w1 => ?_)⟩
  have l1 := LayC_2 f1.1 hL
  rw [c_42_0 l1, lw_o hl]
  refine ⟨trivial, sp_saysF hl l1 (LC_SFC hl f1 hF) w1 (by decide) (fun h2 f2 => ?_)⟩
  exact aIf_i (fun c => hq0 h2 (SFC_tr f1 f2) c) (fun c => hq1 h2 (SFC_tr f1 f2) c)
theorem sp_pull (hk : isLake k) (hL : LayC h l d) (hR : RepC h k L) (hW : WF L hn gn) (hF : LC h l F) {m g : Nat} (hm : m < 12) (hg : g < gn) (h7 : ¬ L 7 g = (-2)) (hq : ∀ h', SFC h h' → Q (pullL F L gn m g) h') : f_X5_pull SC 42 k (nI m) (nI g) h Q := by
  have hl := lay_isLaw hL
  obtain ⟨s, hs, es⟩ := hW.2.2.2.2.2.2.1 m hm
  obtain ⟨t, ht, et, -⟩ := (hW.2.2.2.2.2.2.2.2.1 g hg).1.resolve_left h7
  unfold pullL at hq
  rw [es, et, cl (by omega), cl (by omega)] at hq
  unfold f_X5_pull
  rw [c_42_0 hL, lw_o hl]
  refine ⟨trivial, sp_lookFrom hk hl hL hR hW hm hs es hg ht et (fun h1 f1 w1 => ?_)⟩
  have l1 := LayC_2 f1.1 hL
  rw [c_42_0 l1, lw_o hl]
  exact ⟨trivial, sp_saysF hl l1 (LC_SFC hl f1 hF) w1 (by decide) (fun h2 f2 => hq h2 (SFC_tr f1 f2))⟩
/-- the reference -/
theorem sr_bySquare (hL : LayM h) (hM : RepM h L) (hW : WF L hn gn) (hF : LM h F) {s : Nat} (hs : s < 256) {c kd most : Int32} (hm : 0 ≤ most) (hq : ∀ h', SFM h h' → Q (F c most (VS L s kd e0)) h') : f_X11_bySquare SM 0 c (nI s) kd most h Q := by
  intro h1 e1 h2 e2 h3 e3
  have f3 : SFM h h3 := by
    subst e1 e2 e3
    exact SFM_tr (SFM_sI (by omega)) (SFM_tr (SFM_sI (by omega)) (SFM_sI (by omega)))
  have g39 : gI h3 0 39 = nI s := by
    subst e1 e2 e3
    rw [gI_sI, if_neg (fun z => absurd z.2 (by decide)), gI_sI, if_neg (fun z => absurd z.2 (by decide)), gI_sI, if_pos ⟨rfl, rfl⟩]
  have g40 : gI h3 0 40 = kd := by
    subst e1 e2 e3
    rw [gI_sI, if_neg (fun z => absurd z.2 (by decide)), gI_sI, if_pos ⟨rfl, rfl⟩]
  have g41 : gI h3 0 41 = (-1) := by
    subst e1 e2 e3
    rw [gI_sI, if_pos ⟨rfl, rfl⟩]
  obtain ⟨n, lt, H, W, r, e⟩ := LM_SFM f3 hF
  subst e
  have hL3 := LayM_2 f3.1 hL
  exact sr_tells hL3 r (hasV_s hL3 (RepM_SFM f3 hM) hW hs g39 g40 g41) hm (fun h' hf => hq h' (SFM_tr f3 (SFM_MF hf)))
theorem sr_bears (hL : LayM h) (hM : RepM h L) (hW : WF L hn gn) (hF : LM h F) {s : Nat} (hs : s < 256) (hq : ∀ h', SFM h h' → Q (bearsL F L s) h') : f_X11_bears SM 0 (nI s) h Q := by
  unfold f_X11_bears
  refine sr_kindOn hL hM hW hs ?_
  exact sr_bySquare hL hM hW hF hs (by decide) hq
theorem sr_mayCut (hL : LayM h) (hM : RepM h L) (hW : WF L hn gn) (hF : LM h F) {s : Nat} (hs : s < 256) {kd : Int32} (hq1 : ∀ h', SFM h h' → ¬ mayL F L s kd ≤ 0 → Q 1 h') (hq0 : ∀ h', SFM h h' → mayL F L s kd ≤ 0 → Q 0 h') : f_X11_mayCut SM 0 (nI s) kd h Q := by
  unfold f_X11_mayCut
  refine sr_bySquare hL hM hW hF hs (by decide) (fun h1 f1 => ?_)
  exact aIf_i (fun c => hq0 h1 f1 c) (fun c => hq1 h1 f1 c)
theorem sr_drawOf (hL : LayM h) (hM : RepM h L) (hW : WF L hn gn) (hF : LM h F) {m g : Nat} (hm : m < 12) (hg : g < gn) (h7 : ¬ L 7 g = (-2)) (hq : ∀ h', SFM h h' → Q (pullL F L gn m g) h') : f_X11_drawOf SM 0 (nI m) (nI g) h Q := by
  obtain ⟨s, hs, es⟩ := hW.2.2.2.2.2.2.1 m hm
  obtain ⟨t, ht, et, -⟩ := (hW.2.2.2.2.2.2.2.2.1 g hg).1.resolve_left h7
  unfold pullL at hq
  rw [es, et, cl (by omega), cl (by omega)] at hq
  unfold f_X11_drawOf
  rw [m_9 hL, mi_5, vp_lt hm (by decide), cl (by omega), (hM.2.1 m hm).1, es]
  refine ⟨trivial, fun v ev h1 e1 => ?_⟩
  subst ev
  have f1 : SFM h h1 := by subst e1; exact SFM_sI (by omega)
  rw [m_10 (LayM_2 f1.1 hL), mi_6, vp_lt hm (by decide), f1.2.1 _ _ (by omega), (hM.2.1 m hm).2.1]
  refine ⟨trivial, fun v ev h2 e2 h3 e3 h4 e4 => ?_⟩
  subst ev
  have f4 : SFM h h4 := by
    subst e1 e2 e3 e4
    exact SFM_tr f1 (SFM_tr (SFM_sI (by omega)) (SFM_tr (SFM_sI (by omega)) (SFM_sI (by omega))))
  have g39 : gI h4 0 39 = nI s := by
    subst e1 e2 e3 e4
    rw [gI_sI, if_neg (fun z => absurd z.2 (by decide)), gI_sI, if_neg (fun z => absurd z.2 (by decide)), gI_sI, if_neg (fun z => absurd z.2 (by decide)), gI_sI, if_pos ⟨rfl, rfl⟩]
  have g40 : gI h4 0 40 = L 3 m := by
    subst e1 e2 e3 e4
    rw [gI_sI, if_neg (fun z => absurd z.2 (by decide)), gI_sI, if_neg (fun z => absurd z.2 (by decide)), gI_sI, if_pos ⟨rfl, rfl⟩]
  have g41 : gI h4 0 41 = nI m := by
    subst e1 e2 e3 e4
    rw [gI_sI, if_neg (fun z => absurd z.2 (by decide)), gI_sI, if_pos ⟨rfl, rfl⟩]
  have g42 : gI h4 0 42 = nI g := by
    subst e1 e2 e3 e4
    rw [gI_sI, if_pos ⟨rfl, rfl⟩]
  obtain ⟨n, lt, H, W, r, e⟩ := LM_SFM f4 hF
  subst e
  have hL4 := LayM_2 f4.1 hL
  exact sr_tells hL4 r (hasV_d hL4 (RepM_SFM f4 hM) hW hm hs hg ht et g39 g40 g41 g42) (by decide) (fun h' hf => hq h' (SFM_tr f4 (SFM_MF hf)))
end Ask
