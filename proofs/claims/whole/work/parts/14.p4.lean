/-! ===== the reference's GAPS and WARMTH ===== -/
def tG (L : Lw) (s : Nat) (dx dy : Int) : Int32 := match besN s dx dy with
  | none => 0
  | some t => if t = s then 0 else if L 1 t = (-1) then 0 else 1
def tW (L : Lw) (s : Nat) (dx dy : Int) : Int32 := warT L (besN s dx dy)
theorem enc_m1 {o : Option Nat} (h : ∀ t, o = some t → t < 256) : enc o = (-1) ↔ o = none := by
  cases o with
  | none => exact ⟨fun _ => rfl, fun _ => rfl⟩
  | some t => exact ⟨fun z => absurd z (nI_neg1 (by have := h t rfl; omega)), fun z => by cases z⟩
theorem bes0 : ∀ s, s < 256 → besN s 0 0 = some s := by decide +kernel
theorem bes_ne1 : ∀ s, s < 256 → ∀ i, i < 8 → adj s i ≠ some s := by decide +kernel
theorem iI_1 (a : Int) : iI a + 1 = iI (a + 1) := iI_add a 1
theorem tG_adj {L : Lw} {s i : Nat} (hs : s < 256) (hi : i < 8) : tG L s (dX i) (dY i) = gapT L (adj s i) := by
  have n := bes_ne1 s hs i hi
  unfold tG gapT
  unfold adj at n ⊢
  rcases e : besN s (dX i) (dY i) with _ | t
  · rfl
  · rw [e] at n
    show (if t = s then 0 else if L 1 t = (-1) then 0 else 1) = if L 1 t = (-1) then 0 else 1
    rw [if_neg (fun z => n (by rw [z]))]
theorem tG_0 {L : Lw} {s : Nat} (hs : s < 256) : tG L s 0 0 = 0 := by
  unfold tG
  rw [bes0 s hs]
  exact if_pos rfl
theorem gaps9 {L : Lw} {s : Nat} (hs : s < 256) : 0 + tG L s (-1) (-1) + tG L s 0 (-1) + tG L s 1 (-1) + tG L s (-1) 0 + tG L s 0 0 + tG L s 1 0 + tG L s (-1) 1 + tG L s 0 1 + tG L s 1 1 = gapsL L s := by
  rw [tG_0 hs]
  have a : ∀ i, i < 8 → tG L s (dX i) (dY i) = gapT L (adj s i) := fun i hi => tG_adj hs hi
  rw [show tG L s (-1) (-1) = gapT L (adj s 0) from a 0 (by decide), show tG L s 0 (-1) = gapT L (adj s 1) from a 1 (by decide), show tG L s 1 (-1) = gapT L (adj s 2) from a 2 (by decide), show tG L s (-1) 0 = gapT L (adj s 3) from a 3 (by decide), show tG L s 1 0 = gapT L (adj s 4) from a 4 (by decide), show tG L s (-1) 1 = gapT L (adj s 5) from a 5 (by decide), show tG L s 0 1 = gapT L (adj s 6) from a 6 (by decide), show tG L s 1 1 = gapT L (adj s 7) from a 7 (by decide), Int32.add_zero]
  rfl
theorem warm9 {L : Lw} {s : Nat} (hs : s < 256) : 0 + tW L s (-1) (-1) + tW L s 0 (-1) + tW L s 1 (-1) + tW L s (-1) 0 + tW L s 0 0 + tW L s 1 0 + tW L s (-1) 1 + tW L s 0 1 + tW L s 1 1 = warmL L s := by
  have e0 : tW L s 0 0 = warT L (some s) := by unfold tW; rw [bes0 s hs]
  rw [e0]
  show 0 + warT L (adj s 0) + warT L (adj s 1) + warT L (adj s 2) + warT L (adj s 3) + warT L (some s) + warT L (adj s 4) + warT L (adj s 5) + warT L (adj s 6) + warT L (adj s 7) = warT L (some s) + (0 + warT L (adj s 0) + warT L (adj s 1) + warT L (adj s 2) + warT L (adj s 3) + warT L (adj s 4) + warT L (adj s 5) + warT L (adj s 6) + warT L (adj s 7))
  ac_rfl
section GW
variable {h : aH} {L : Lw} {hn gn : Nat} {Q : Int32 → aH → Prop}
theorem gap_step (hL : LayM h) (hM : RepM h L) {s : Nat} (hs : s < 256) {K : Int32 → Int32 → aH → Prop} {n : Nat} {acc : Int32} {dx dy : Int} (h1 : -1 ≤ dx ∧ dx ≤ 1) (h2 : -1 ≤ dy ∧ dy ≤ 1) (hq : f_X11_gapsOf_12 SM 0 (nI s) Q K n (acc + tG L s dx dy) (iI dy) (iI (dx + 1)) h) : f_X11_gapsOf_12 SM 0 (nI s) Q K (n + 1) acc (iI dy) (iI dx) h := by
  refine aIf_f (fun z => absurd ((iI_le (a := 2) (by omega) (by omega) (by omega) (by omega)).mp z) (by omega)) ?_
  refine sr_aside hs (by omega) (by omega) ?_
  rw [← iI_1] at hq
  unfold tG at hq
  rcases e : besN s dx dy with _ | t
  · rw [e] at hq
    refine aIf_t rfl ?_
    intro x2 e2 x4 e4
    subst e2 e4
    exact hq
  · rw [e] at hq
    have ht := besN_lt e
    rw [enc_some]
    have hq : f_X11_gapsOf_12 SM 0 (nI s) Q K n (acc + if t = s then 0 else if L 1 t = (-1) then 0 else 1) (iI dy) (iI dx + 1) h := hq
    refine aIf_f (nI_neg1 (by omega)) ?_
    refine aIf_i (fun c => ?_) (fun c => ?_)
    · rw [if_pos ((nI_eq (by omega) (by omega)).mp c)] at hq
      intro x2 e2 x4 e4
      subst e2 e4
      exact hq
    · rw [if_neg (fun z => c (by rw [z]))] at hq
      refine sr_isIce hL hM ht (fun c2 => ?_) (fun c2 => ?_)
      · rw [if_pos c2] at hq
        refine aIf_t (by decide) ?_
        intro x2 e2 x4 e4
        subst e2 e4
        exact hq
      · rw [if_neg c2] at hq
        refine aIf_f (fun z => z rfl) ?_
        intro x2 e2 x4 e4
        subst e2 e4
        exact hq
theorem gap_end {s : Nat} {K : Int32 → Int32 → aH → Prop} {n : Nat} {acc : Int32} {dy : Int} (hq : K acc (iI (dy + 1)) h) : f_X11_gapsOf_12 SM 0 (nI s) Q K (n + 1) acc (iI dy) (iI 2) h := by
  refine aIf_t (by decide) ?_
  intro x3 e3
  subst e3
  rw [iI_1]
  exact hq
theorem sr_gapsOf (hL : LayM h) (hM : RepM h L) {s : Nat} (hs : s < 256) (hq : Q (gapsL L s) h) : f_X11_gapsOf SM 0 (nI s) h Q := by
  rw [← gaps9 hs] at hq
  refine ⟨4, ?_⟩
  refine aIf_f (by decide) ⟨4, ?_⟩
  show f_X11_gapsOf_12 SM 0 (nI s) Q (f_X11_gapsOf_4 SM 0 (nI s) Q 3) 4 0 (iI (-1)) (iI (-1)) h
  refine gap_step hL hM hs (by omega) (by omega) (gap_step hL hM hs (by omega) (by omega) (gap_step hL hM hs (by omega) (by omega) (gap_end ?_)))
  refine aIf_f (by decide) ⟨4, ?_⟩
  show f_X11_gapsOf_12 SM 0 (nI s) Q (f_X11_gapsOf_4 SM 0 (nI s) Q 2) 4 _ (iI 0) (iI (-1)) h
  refine gap_step hL hM hs (by omega) (by omega) (gap_step hL hM hs (by omega) (by omega) (gap_step hL hM hs (by omega) (by omega) (gap_end ?_)))
  refine aIf_f (by decide) ⟨4, ?_⟩
  show f_X11_gapsOf_12 SM 0 (nI s) Q (f_X11_gapsOf_4 SM 0 (nI s) Q 1) 4 _ (iI 1) (iI (-1)) h
  refine gap_step hL hM hs (by omega) (by omega) (gap_step hL hM hs (by omega) (by omega) (gap_step hL hM hs (by omega) (by omega) (gap_end ?_)))
  exact aIf_t (by decide) hq
theorem warm_step (hL : LayM h) (hM : RepM h L) (hW : WF L hn gn) {s : Nat} (hs : s < 256) {K : Int32 → Int32 → aH → Prop} {n : Nat} {acc : Int32} {dx dy : Int} (h1 : -1 ≤ dx ∧ dx ≤ 1) (h2 : -1 ≤ dy ∧ dy ≤ 1) (hq : f_X11_warmthOf_12 SM 0 (nI s) Q K n (acc + tW L s dx dy) (iI dy) (iI (dx + 1)) h) : f_X11_warmthOf_12 SM 0 (nI s) Q K (n + 1) acc (iI dy) (iI dx) h := by
  refine aIf_f (fun z => absurd ((iI_le (a := 2) (by omega) (by omega) (by omega) (by omega)).mp z) (by omega)) ?_
  refine sr_aside hs (by omega) (by omega) ?_
  rw [← iI_1] at hq
  unfold tW at hq
  have hhn := hW.1
  rcases e : besN s dx dy with _ | t
  · rw [e] at hq
    refine aIf_t rfl ?_
    intro x2 e2 x4 e4
    subst e2 e4
    exact hq
  · rw [e] at hq
    have ht := besN_lt e
    rw [enc_some]
    have hq : f_X11_warmthOf_12 SM 0 (nI s) Q K n (acc + if 0 ≤ L 1 t then L 4 (L 1 t).toNatClampNeg else 0) (iI dy) (iI dx + 1) h := hq
    refine aIf_f (nI_neg1 (by omega)) ?_
    rw [m_8 hL, mi_4, vp_lt ht (by decide), cl (by omega), (hM.1 t ht).2.2]
    refine ⟨trivial, fun v ev => ?_⟩
    rcases hW.2.2.2.2.2.1 t ht with c | c | ⟨m, hm, c, -⟩
    · rw [c, if_neg (by decide)] at ev
      rw [c, if_neg (by decide)] at hq
      subst ev
      refine aIf_t rfl ?_
      intro x2 e2 x4 e4
      subst e2 e4
      exact hq
    · rw [c, if_pos rfl] at ev
      rw [c, if_neg (by decide)] at hq
      subst ev
      refine aIf_t rfl ?_
      intro x2 e2 x4 e4
      subst e2 e4
      exact hq
    · rw [c, if_neg (nI_neg2 (by omega))] at ev
      rw [c, if_pos (nI_pos' (by omega)), cl (by omega)] at hq
      subst ev
      refine aIf_f (nI_neg1 (by omega)) ⟨trivial, fun v ev => ?_⟩
      rw [c, if_neg (nI_neg2 (by omega))] at ev
      subst ev
      rw [m_11 hL, mi_7, vp_lt (show m < 12 by omega) (by decide), cl (by omega), (hM.2.1 m (by omega)).2.2.1]
      refine ⟨trivial, fun v ev => ?_⟩
      intro x2 e2 x4 e4
      subst ev e2 e4
      exact hq
theorem warm_end {s : Nat} {K : Int32 → Int32 → aH → Prop} {n : Nat} {acc : Int32} {dy : Int} (hq : K acc (iI (dy + 1)) h) : f_X11_warmthOf_12 SM 0 (nI s) Q K (n + 1) acc (iI dy) (iI 2) h := by
  refine aIf_t (by decide) ?_
  intro x3 e3
  subst e3
  rw [iI_1]
  exact hq
theorem sr_warmthOf (hL : LayM h) (hM : RepM h L) (hW : WF L hn gn) {s : Nat} (hs : s < 256) (hq : Q (warmL L s) h) : f_X11_warmthOf SM 0 (nI s) h Q := by
  rw [← warm9 hs] at hq
  refine ⟨4, ?_⟩
  refine aIf_f (by decide) ⟨4, ?_⟩
  show f_X11_warmthOf_12 SM 0 (nI s) Q (f_X11_warmthOf_4 SM 0 (nI s) Q 3) 4 0 (iI (-1)) (iI (-1)) h
  refine warm_step hL hM hW hs (by omega) (by omega) (warm_step hL hM hW hs (by omega) (by omega) (warm_step hL hM hW hs (by omega) (by omega) (warm_end ?_)))
  refine aIf_f (by decide) ⟨4, ?_⟩
  show f_X11_warmthOf_12 SM 0 (nI s) Q (f_X11_warmthOf_4 SM 0 (nI s) Q 2) 4 _ (iI 0) (iI (-1)) h
  refine warm_step hL hM hW hs (by omega) (by omega) (warm_step hL hM hW hs (by omega) (by omega) (warm_step hL hM hW hs (by omega) (by omega) (warm_end ?_)))
  refine aIf_f (by decide) ⟨4, ?_⟩
  show f_X11_warmthOf_12 SM 0 (nI s) Q (f_X11_warmthOf_4 SM 0 (nI s) Q 1) 4 _ (iI 1) (iI (-1)) h
  refine warm_step hL hM hW hs (by omega) (by omega) (warm_step hL hM hW hs (by omega) (by omega) (warm_step hL hM hW hs (by omega) (by omega) (warm_end ?_)))
  exact aIf_t (by decide) hq
end GW
/-! ===== the values that the law sees ===== -/
def VS (L : Lw) (s : Nat) (kd : Int32) (e : Nat → Int32) (k : Nat) : Int32 := match k with
  | 0 => L 0 s
  | 1 => gapsL L s
  | 2 => warmL L s
  | 3 => nI (s % 16)
  | 4 => nI (s / 16)
  | 5 => L 9 2
  | 6 => kd
  | n + 7 => e n
def e0 : Nat → Int32 := fun _ => 0
/-- of a HOLE m at s and a GROUP g at t -/
def eD (L : Lw) (gn m s g t : Nat) (k : Nat) : Int32 := match k with
  | 0 => L 5 m
  | 1 => L 6 m
  | 2 => nI (wayN s t)
  | 3 => L 8 g
  | _ => nearL L gn s
theorem RepM_F {h h' : aH} {t : Nat} {L : Lw} (hf : MF t h h') (hR : RepM h L) : RepM h' L := by
  have ha : ∀ c i, c < 25 → gA h' c i = gA h c i := fun c i hc => hf.2.1 c i (by omega)
  refine ⟨fun i hi => ?_, fun i hi => ?_, fun i hi => ?_, ?_⟩
  · rw [ha 2 i (by omega), ha 3 i (by omega), ha 4 i (by omega)]
    exact hR.1 i hi
  · rw [ha 5 i (by omega), ha 6 i (by omega), ha 7 i (by omega), ha 8 i (by omega), ha 9 i (by omega)]
    exact hR.2.1 i hi
  · rw [ha 10 i (by omega), ha 11 i (by omega)]
    exact hR.2.2.1 i hi
  · rw [hf.2.2, hf.2.2, hf.2.2, hf.2.2]
    exact hR.2.2.2
theorem lt12 {k : Nat} (h : k < 12) : k = 0 ∨ k = 1 ∨ k = 2 ∨ k = 3 ∨ k = 4 ∨ k = 5 ∨ k = 6 ∨ k = 7 ∨ k = 8 ∨ k = 9 ∨ k = 10 ∨ k = 11 := by omega
section Values
variable {h : aH} {L : Lw} {hn gn : Nat}
theorem hasV_of (hL : LayM h) (hM : RepM h L) (hW : WF L hn gn) {s : Nat} (hs : s < 256) {kd : Int32} (g39 : gI h 0 39 = nI s) (g40 : gI h 0 40 = kd) {e : Nat → Int32} (hd : ∀ k, k < 5 → ∀ h', MF 0 h h' → ∀ Q : Int32 → aH → Prop, Q (e k) h' → ∀ v : Int32, v = gI h' 0 41 → aIf (¬ v = (-1)) (f_X11_drawnBy SM 0 (letB (k + 7)) h' (fun r h2 => Q r h2)) (Q 0 h')) : hasV h (VS L s kd e) := by
  intro k hk h' hf Q hq
  have hL' := LayM_2 hf.1 hL
  have hM' := RepM_F hf hM
  have e39 : gI h' 0 39 = nI s := (hf.2.2 _ _).trans g39
  have e40 : gI h' 0 40 = kd := (hf.2.2 _ _).trans g40
  have d : ∀ c, (c = 100 ∨ c = 112 ∨ c = 113 ∨ c = 115 ∨ c = 119) → (∀ v : Int32, v = gI h' 0 41 → aIf (¬ v = (-1)) (f_X11_drawnBy SM 0 c h' (fun r h2 => Q r h2)) (Q 0 h')) → f_X11_valueOf SM 0 c h' Q := by
    intro c hc hh
    unfold f_X11_valueOf
    rcases hc with c | c | c | c | c <;> subst c
    · iterate 18 refine aIf_f (by decide) ?_
      exact hh
    · iterate 8 refine aIf_f (by decide) ?_
      exact aIf_t rfl hh
    · iterate 9 refine aIf_f (by decide) ?_
      exact aIf_t rfl hh
    · iterate 11 refine aIf_f (by decide) ?_
      exact aIf_t rfl hh
    · iterate 15 refine aIf_f (by decide) ?_
      exact aIf_t rfl hh
  rcases lt12 hk with c | c | c | c | c | c | c | c | c | c | c | c <;> subst c
  · refine aIf_f (by decide) (aIf_t rfl ?_)
    intro v ev
    rw [e39] at ev
    subst ev
    rw [m_6 hL', mi_2, vp_lt hs (by decide), cl (by omega), (hM'.1 s hs).1]
    exact ⟨trivial, fun v ev => by subst ev; exact hq⟩
  · unfold f_X11_valueOf
    iterate 6 refine aIf_f (by decide) ?_
    refine aIf_t rfl ?_
    intro v ev
    rw [e39] at ev
    subst ev
    exact sr_gapsOf hL' hM' hs hq
  · refine aIf_t rfl ?_
    intro v ev
    rw [e39] at ev
    subst ev
    exact sr_warmthOf hL' hM' hW hs hq
  · unfold f_X11_valueOf
    iterate 16 refine aIf_f (by decide) ?_
    refine aIf_t rfl ?_
    intro v ev
    rw [e39] at ev
    subst ev
    rw [nI_mod hs]
    exact hq
  · unfold f_X11_valueOf
    iterate 17 refine aIf_f (by decide) ?_
    refine aIf_t rfl ?_
    intro v ev
    rw [e39] at ev
    subst ev
    rw [nI_div hs]
    exact hq
  · unfold f_X11_valueOf
    iterate 5 refine aIf_f (by decide) ?_
    refine aIf_t rfl ?_
    intro v ev
    rw [hM'.2.2.2.2.2.1] at ev
    subst ev
    exact hq
  · unfold f_X11_valueOf
    iterate 3 refine aIf_f (by decide) ?_
    refine aIf_t rfl ?_
    intro v ev
    rw [e40] at ev
    subst ev
    exact hq
  · exact d 115 (by decide) (hd 0 (by decide) h' hf Q hq)
  · exact d 112 (by decide) (hd 1 (by decide) h' hf Q hq)
  · exact d 100 (by decide) (hd 2 (by decide) h' hf Q hq)
  · exact d 119 (by decide) (hd 3 (by decide) h' hf Q hq)
  · exact d 113 (by decide) (hd 4 (by decide) h' hf Q hq)
theorem hasV_s (hL : LayM h) (hM : RepM h L) (hW : WF L hn gn) {s : Nat} (hs : s < 256) {kd : Int32} (g39 : gI h 0 39 = nI s) (g40 : gI h 0 40 = kd) (g41 : gI h 0 41 = (-1)) : hasV h (VS L s kd e0) := by
  refine hasV_of hL hM hW hs g39 g40 (fun k hk h' hf Q hq v ev => ?_)
  rw [hf.2.2, g41] at ev
  subst ev
  exact aIf_f (fun z => z rfl) hq
theorem hasV_d (hL : LayM h) (hM : RepM h L) (hW : WF L hn gn) {m s g t : Nat} (hm : m < 12) (hs : s < 256) (hg : g < gn) (ht : t < 256) (et : L 7 g = nI t) {kd : Int32} (g39 : gI h 0 39 = nI s) (g40 : gI h 0 40 = kd) (g41 : gI h 0 41 = nI m) (g42 : gI h 0 42 = nI g) : hasV h (VS L s kd (eD L gn m s g t)) := by
  have hgn := hW.2.1
  refine hasV_of hL hM hW hs g39 g40 (fun k hk h' hf Q hq v ev => ?_)
  have hL' := LayM_2 hf.1 hL
  have hM' := RepM_F hf hM
  have e39 : gI h' 0 39 = nI s := (hf.2.2 _ _).trans g39
  have e42 : gI h' 0 42 = nI g := (hf.2.2 _ _).trans g42
  have e41 : gI h' 0 41 = nI m := (hf.2.2 _ _).trans g41
  rw [e41] at ev
  subst ev
  refine aIf_t (nI_neg1 (by omega)) ?_
  have : k = 0 ∨ k = 1 ∨ k = 2 ∨ k = 3 ∨ k = 4 := by omega
  rcases this with c | c | c | c | c <;> subst c
  · show f_X11_drawnBy SM 0 115 h' _
    unfold f_X11_drawnBy
    iterate 2 refine aIf_f (by decide) ?_
    refine aIf_t rfl ?_
    intro v ev
    rw [e41] at ev
    subst ev
    rw [m_12 hL', mi_8, vp_lt hm (by decide), cl (by omega), (hM'.2.1 m hm).2.2.2.1]
    exact ⟨trivial, fun v ev => by subst ev; exact hq⟩
  · show f_X11_drawnBy SM 0 112 h' _
    unfold f_X11_drawnBy
    iterate 1 refine aIf_f (by decide) ?_
    refine aIf_t rfl ?_
    intro v ev
    rw [e41] at ev
    subst ev
    rw [m_13 hL', mi_9, vp_lt hm (by decide), cl (by omega), (hM'.2.1 m hm).2.2.2.2]
    exact ⟨trivial, fun v ev => by subst ev; exact hq⟩
  · show f_X11_drawnBy SM 0 100 h' _
    unfold f_X11_drawnBy
    refine aIf_t rfl ?_
    intro v ev v' ev'
    rw [e39] at ev
    rw [e42] at ev'
    subst ev ev'
    rw [m_14 hL', mi_10, vp_lt (show g < 8 by omega) (by decide), cl (by omega), (hM'.2.2.1 g (by omega)).1, et]
    refine ⟨trivial, fun v ev => ?_⟩
    subst ev
    exact sr_wayOf hs ht hq
  · show f_X11_drawnBy SM 0 119 h' _
    unfold f_X11_drawnBy
    iterate 3 refine aIf_f (by decide) ?_
    refine aIf_t rfl ?_
    intro v ev
    rw [e42] at ev
    subst ev
    rw [m_15 hL', mi_11, vp_lt (show g < 8 by omega) (by decide), cl (by omega), (hM'.2.2.1 g (by omega)).2]
    exact ⟨trivial, fun v ev => by subst ev; exact hq⟩
  · show f_X11_drawnBy SM 0 113 h' _
    unfold f_X11_drawnBy
    iterate 4 refine aIf_f (by decide) ?_
    intro v ev
    rw [e39] at ev
    subst ev
    exact sr_nearGroups hL' hM' hW hs hq
end Values
