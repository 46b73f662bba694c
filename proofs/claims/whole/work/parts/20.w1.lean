/-! ===== LAW: the class reads an expression ===== -/
def tkI (n : Nat) (tb : Nat → Nat) (i : Nat) : Int32 := if i < n then nI (tb i) else (-1)
def RdF (dd : Nat) (h0 h : aH) : Prop := h.2.2 = h0.2.2 ∧ (∀ c q, ¬ (c = dd + 1 ∨ c = dd + 2) → gA h c q = gA h0 c q) ∧ ∀ c j, ¬ (c = dd ∧ j = 2) → ¬ (c = 52 ∧ (j = 3 ∨ j = 4)) → gI h c j = gI h0 c j
theorem RdF_rf {dd : Nat} {h : aH} : RdF dd h h := ⟨rfl, fun _ _ _ => rfl, fun _ _ _ _ => rfl⟩
theorem RdF_tr {dd : Nat} {a b c : aH} (x : RdF dd a b) (y : RdF dd b c) : RdF dd a c := ⟨y.1.trans x.1, fun k i hk => (y.2.1 k i hk).trans (x.2.1 k i hk), fun k i h1 h2 => (y.2.2 k i h1 h2).trans (x.2.2 k i h1 h2)⟩
def RdS (n : Nat) (tb : Nat → Nat) (dd : Nat) (h : aH) (i z : Nat) (e : Int32) : Prop := gI h 52 2 = nI n ∧ gI h 52 3 = nI i ∧ gI h 52 4 = e ∧ gI h dd 2 = nI z ∧ i ≤ n ∧ 1 ≤ n ∧ n ≤ 200 ∧ z ≤ 200 ∧ ∀ q, q < 220 → gA h 38 q = nI (tb q) ∧ tb q < 256
def Kp (dd z : Nat) (h h' : aH) : Prop := ∀ q, q < z → gA h' (dd + 1) q = gA h (dd + 1) q ∧ gA h' (dd + 2) q = gA h (dd + 2) q
theorem Kp_rf {dd z : Nat} {h : aH} : Kp dd z h h := fun _ _ => ⟨rfl, rfl⟩
theorem Kp_tr {dd z z' : Nat} {a b c : aH} (x : Kp dd z a b) (y : Kp dd z' b c) (hz : z ≤ z') : Kp dd z a c := fun q hq => ⟨(y q (by omega)).1.trans (x q hq).1, (y q (by omega)).2.trans (x q hq).2⟩
/-- how reading goes on: with R at hand, code behind z, signs behind i -/
def Out (n : Nat) (tb : Nat → Nat) (dd : Nat) (h : aH) (i z N : Nat) (R : Rs) (Q : aH → Prop) : Prop := (∀ j f h' z', R = .inr (j, f) → RdF dd h h' → RdS n tb dd h' j z' 0 → Kp dd z h h' → CCo (gA h' (dd + 1)) (gA h' (dd + 2)) z z' N f → z' + i ≤ z + j → Q h') ∧ ∀ e h' i' z', R = .inl e → ¬ e = 0 → RdF dd h h' → RdS n tb dd h' i' z' e → Q h'
section LwC
variable {n : Nat} {tb : Nat → Nat} {dd l : Nat} {h : aH} {i z : Nat} {e : Int32}
theorem tk_lt (hb : ∀ q, q < 220 → tb q < 256) (hn : n ≤ 200) {i : Nat} : tk n tb i < 256 := by
  unfold tk
  split
  · exact hb i (by omega)
  · decide
theorem tkc {n : Nat} {tb : Nat → Nat} (hb : ∀ q, q < 220 → tb q < 256) (hn : n ≤ 200) {i c : Nat} (h1 : 1 ≤ c) (h2 : c < 256) : tkI n tb i = nI c ↔ tk n tb i = c := by
  unfold tkI tk
  by_cases z : i < n
  · rw [if_pos z, if_pos z]
    have := hb i (by omega)
    exact nI_eq (by omega) (by omega)
  · rw [if_neg z, if_neg z]
    exact ⟨fun y => absurd y.symm (nI_neg1 (by omega)), fun y => by omega⟩
theorem RdS_b (s : RdS n tb dd h i z e) : ∀ q, q < 220 → tb q < 256 := fun q hq => (s.2.2.2.2.2.2.2.2 q hq).2
theorem sp_next (hL : LayC h l dd) (s : RdS n tb dd h i z e) {Q : Int32 → aH → Prop} (hq : Q (tkI n tb i) h) : f_X4_next SC 52 h Q := by
  obtain ⟨s1, s2, s3, s4, s5, s5', s6, s7, s8⟩ := s
  unfold tkI at hq
  intro v ev
  rw [s2] at ev
  subst ev
  refine aIf_f (nI_pos (by omega)) ?_
  intro v ev v' ev'
  rw [s2] at ev
  rw [s1] at ev'
  subst ev ev'
  by_cases c : i < n
  · rw [if_pos c] at hq
    refine aIf_f (nI_ge c (by omega)) ?_
    intro v ev
    rw [s2] at ev
    subst ev
    rw [c_52_0 hL, co_37, c_37_0 hL]
    refine ⟨trivial, 220, by decide, rfl, fun v ev => ?_⟩
    refine aIf_f (fun y => ?_) ?_
    · rw [ev] at y
      exact absurd ((nI_leI (a := 220) (by decide) (by omega)).mp y) (by omega)
    · intro v ev
      rw [s2] at ev
      subst ev
      rw [ca_38, vp_lt (show i < 220 by omega) (by decide), cl (by omega), (s8 i (by omega)).1]
      exact ⟨trivial, fun v ev => by subst ev; exact hq⟩
  · rw [if_neg c] at hq
    exact aIf_t (nI_le (by omega) (by omega)) hq
theorem sp_dig {S : aS} (hb : ∀ q, q < 220 → tb q < 256) (hn : n ≤ 200) {Q : Int32 → aH → Prop} (h1 : isDg (tk n tb i) → Q 1 h) (h0 : ¬ isDg (tk n tb i) → Q 0 h) : f_X4_isDigit S (tkI n tb i) h Q := by
  unfold tkI
  unfold tk at h1 h0
  by_cases c : i < n
  · rw [if_pos c] at h1 h0
    rw [if_pos c]
    have := hb i (by omega)
    refine aIf_i (fun y => h0 (fun z => ?_)) (fun y => aIf_i (fun y2 => h0 (fun z => ?_)) (fun y2 => h1 ⟨?_, ?_⟩))
    · have := (nI_ltI (b := 48) (by omega) (by decide)).mp y
      omega
    · have := (nI_ltI (a := 57) (by decide) (by omega)).mp y2
      omega
    · have : ¬ tb i < 48 := fun z => y ((nI_ltI (b := 48) (by omega) (by decide)).mpr z)
      omega
    · have : ¬ 57 < tb i := fun z => y2 ((nI_ltI (a := 57) (by decide) (by omega)).mpr z)
      omega
  · rw [if_neg c] at h0
    rw [if_neg c]
    exact aIf_t (by decide) (h0 (by decide))
theorem at_up (s : RdS n tb dd h i z e) (hi : i < n) : RdF dd h (sI h 52 3 (nI (i + 1))) ∧ RdS n tb dd (sI h 52 3 (nI (i + 1))) (i + 1) z e := by
  obtain ⟨s1, s2, s3, s4, s5, s5', s6, s7, s8⟩ := s
  refine ⟨⟨rfl, fun _ _ _ => rfl, fun c j h1 h2 => by rw [gI_sI, if_neg (fun y => h2 ⟨y.1, Or.inl y.2⟩)]⟩, ?_⟩
  by_cases q : dd = 52
  · refine ⟨by rw [gI_sI, if_neg (fun y => absurd y.2 (by decide))]; exact s1, by rw [gI_sI, if_pos ⟨rfl, rfl⟩], by rw [gI_sI, if_neg (fun y => absurd y.2 (by decide))]; exact s3, by rw [gI_sI, if_neg (fun y => absurd y.2 (by decide))]; exact s4, by omega, s5', s6, s7, s8⟩
  · exact ⟨by rw [gI_sI, if_neg (fun y => absurd y.2 (by decide))]; exact s1, by rw [gI_sI, if_pos ⟨rfl, rfl⟩], by rw [gI_sI, if_neg (fun y => absurd y.2 (by decide))]; exact s3, by rw [gI_sI, if_neg (fun y => q y.1)]; exact s4, by omega, s5', s6, s7, s8⟩
theorem sp_up (s : RdS n tb dd h i z e) (hi : i < n) {Q : aH → Prop} (hq : ∀ h', RdF dd h h' → RdS n tb dd h' (i + 1) z e → (∀ c q, gA h' c q = gA h c q) → Q h') : ∀ v : Int32, v = gI h 52 3 → ∀ h' : aH, h' = sI h 52 3 (v + 1) → Q h' := by
  intro v ev h' e'
  rw [s.2.1] at ev
  subst ev
  rw [nI_1] at e'
  subst e'
  exact hq _ (at_up s hi).1 (at_up s hi).2 (fun _ _ => rfl)
theorem sp_blame (s : RdS n tb dd h i z 0) {c : Nat} (h1 : 1 ≤ c) (h2 : c ≤ 9) {Q : aH → Prop} (hq : ∀ h', RdF dd h h' → RdS n tb dd h' i z (er c i) → ¬ er c i = 0 → Q h') : f_X4_blame SC 52 (nI c) h Q := by
  obtain ⟨s1, s2, s3, s4, s5, s5', s6, s7, s8⟩ := s
  intro v ev
  rw [s3] at ev
  subst ev
  refine aIf_f (fun y => y rfl) ?_
  intro v ev h4 e4
  rw [s2] at ev
  subst ev
  have em : (-1000 : Int32) * nI c - nI i = er c i := by
    rw [show (-1000 : Int32) = iI (-1000) from by decide, ← iI_nat, ← iI_nat, iI_mul, iI_sub]
    unfold er
    congr 1
  rw [em] at e4
  subst e4
  refine hq _ ⟨rfl, fun _ _ _ => rfl, fun a j h1 h2 => by rw [gI_sI, if_neg (fun y => h2 ⟨y.1, Or.inr y.2⟩)]⟩ ⟨by rw [gI_sI, if_neg (fun y => absurd y.2 (by decide))]; exact s1, by rw [gI_sI, if_neg (fun y => absurd y.2 (by decide))]; exact s2, by rw [gI_sI, if_pos ⟨rfl, rfl⟩], by rw [gI_sI, if_neg (fun y => absurd y.2 (by decide))]; exact s4, s5, s5', s6, s7, s8⟩ (er_ne h1 h2 (by omega))
theorem sp_blameF (s : RdS n tb dd h i z e) (he : ¬ e = 0) {c : Int32} {Q : aH → Prop} (hq : Q h) : f_X4_blame SC 52 c h Q := by
  intro v ev
  rw [s.2.2.1] at ev
  subst ev
  exact aIf_t he hq
theorem sp_put (hl : isLaw dd) (hL : LayC h l dd) (s : RdS n tb dd h i z e) {c a : Int32} {Q : Int32 → aH → Prop} (h1 : z < 200 → ∀ h', RdF dd h h' → RdS n tb dd h' i (z + 1) e → Kp dd z h h' → gA h' (dd + 1) z = c → gA h' (dd + 2) z = a → Q (nI z) h') (h0 : ¬ z < 200 → Q (-1) h) : f_X3_put SC dd c a h Q := by
  have d52 : dd ≠ 52 := by unfold isLaw at hl; omega
  obtain ⟨s1, s2, s3, s4, s5, s5', s6, s7, s8⟩ := s
  intro v ev
  rw [s4] at ev
  subst ev
  by_cases c2 : z < 200
  rotate_left
  · exact aIf_f (fun y => c2 ((nI_ltI (b := 200) (by omega) (by decide)).mp y)) (h0 c2)
  refine aIf_t ((nI_ltI (b := 200) (by omega) (by decide)).mpr c2) ?_
  intro v ev
  rw [s4] at ev
  subst ev
  rw [lw_0 hl hL, lwi_1 hl, vp_lt c2 (by decide), cl (by omega)]
  refine ⟨trivial, fun h2 e2 v ev => ?_⟩
  have l2 : LayC h2 l dd := LayC_2 (by rw [e2]; rfl) hL
  rw [e2, gI_sA, s4] at ev
  subst ev
  rw [lw_1 hl l2, lwi_2 hl, vp_lt c2 (by decide), cl (by omega)]
  refine ⟨trivial, fun h3 e3 v ev h4 e4 v' ev' => ?_⟩
  rw [e3, gI_sA, e2, gI_sA, s4] at ev
  subst ev
  rw [nI_1] at e4
  rw [e4, gI_sI, if_pos ⟨rfl, rfl⟩] at ev'
  subst ev'
  have g : ∀ c j, ¬ (c = dd ∧ j = 2) → gI h4 c j = gI h c j := fun c j hc => by rw [e4, gI_sI, if_neg hc, e3, gI_sA, e2, gI_sA]
  have ga : ∀ c q, ¬ (c = dd + 1 ∨ c = dd + 2) → gA h4 c q = gA h c q := fun c q hc => by rw [e4, gA_sI, e3, gA_o (by omega), e2, gA_o (by omega)]
  rw [nI_pred]
  refine h1 c2 h4 ⟨by rw [e4, e3, e2]; rfl, ga, fun c j h1 _ => g c j h1⟩ ⟨by rw [g 52 2 (by omega)]; exact s1, by rw [g 52 3 (by omega)]; exact s2, by rw [g 52 4 (by omega)]; exact s3, by rw [e4, gI_sI, if_pos ⟨rfl, rfl⟩], s5, s5', s6, by omega, fun q hq => by rw [ga 38 q (by unfold isLaw at hl; omega)]; exact s8 q hq⟩ (fun q hq => ?_) ?_ ?_
  · rw [e4, gA_sI, e3, gA_o (by omega), e2, gA_p (by omega), gA_p (by omega), gA_o (by omega)]
    exact ⟨rfl, rfl⟩
  · rw [e4, gA_sI, e3, gA_o (by omega), e2, gA_e]
  · rw [e4, gA_sI, e3, gA_e]
theorem sp_take (hL : LayC h l dd) (s : RdS n tb dd h i z 0) {c : Nat} (h1 : 1 ≤ c) (h2 : c < 256) {Q : aH → Prop} (hq1 : tk n tb i = c → ∀ h', RdF dd h h' → RdS n tb dd h' (i + 1) z 0 → (∀ c q, gA h' c q = gA h c q) → Q h') (hq0 : ¬ tk n tb i = c → ∀ h', RdF dd h h' → RdS n tb dd h' i z (er 1 i) → ¬ er 1 i = 0 → Q h') : f_X4_take SC 52 (nI c) h Q := by
  refine sp_next hL s ?_
  rw [tkc (RdS_b s) s.2.2.2.2.2.2.1 h1 h2]
  refine aIf_i (fun y => ?_) (fun y => ?_)
  · have hi : i < n := by
      unfold tk at y
      split at y
      · assumption
      · omega
    intro v ev
    rw [s.2.2.1] at ev
    subst ev
    refine aIf_f (fun y => y rfl) ?_
    exact sp_up s hi (fun h' f' s' g' => hq1 y h' f' s' g')
  · show f_X4_blame SC 52 (nI 1) h _
    refine sp_blame s (by decide) (by decide) (fun h' f' s' ne => ?_)
    intro v ev
    rw [s'.2.2.1] at ev
    subst ev
    exact aIf_t ne (hq0 y h' f' s' ne)
theorem sp_takeF (hL : LayC h l dd) (s : RdS n tb dd h i z e) (he : ¬ e = 0) {c : Int32} {Q : aH → Prop} (hq : Q h) : f_X4_take SC 52 c h Q := by
  refine sp_next hL s ?_
  refine aIf_i (fun y v ev => ?_) (fun y => sp_blameF s he (fun v ev => ?_))
  · rw [s.2.2.1] at ev
    subst ev
    exact aIf_t he hq
  · rw [s.2.2.1] at ev
    subst ev
    exact aIf_t he hq
end LwC
