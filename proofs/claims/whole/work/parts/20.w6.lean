/-! ===== LAW: the clauses, and how the class reads them ===== -/
def up {A : Type} (k : Nat) (v : A) (f : Nat → A) : Nat → A := fun q => if q = k then v else f q
theorem up_e {A : Type} {k : Nat} {v : A} {f : Nat → A} : up k v f k = v := if_pos rfl
theorem up_o {A : Type} {k q : Nat} {v : A} {f : Nat → A} (h : q < k) : up k v f q = f q := if_neg (by omega)
abbrev Lws : Type := Nat × (Nat → Int32) × (Nat → Sem) × (Nat → Sem)
abbrev isCl (c : Nat) : Prop := c = 98 ∨ c = 116 ∨ c = 99 ∨ c = 103
def clS (n : Nat) (tb : Nat → Nat) (i : Nat) : Sum Int32 (Nat × Sem × Sem) := match thenS n tb 40 (exprS n tb 0 i) with
  | .inl e => .inl e
  | .inr p => match thenS n tb 41 (pcS n tb 16 false 1 p.1) with
    | .inl e => .inl e
    | .inr q => .inr (q.1, p.2, q.2)
def lawS (n : Nat) (tb : Nat → Nat) : Nat → Nat → Nat → (Nat → Int32) → (Nat → Sem) → (Nat → Sem) → Sum Int32 Lws
  | 0, _, _, _, _, _ => .inl 0
  | w + 1, i, k, lt, W, H => if isCl (tk n tb i) then (if 14 ≤ k then .inl (er 4 i) else match clS n tb (i + 1) with
      | .inl e => .inl e
      | .inr p => if n ≤ p.1 then .inr (k + 1, up k (nI (tk n tb i)) lt, up k p.2.1 W, up k p.2.2 H) else if tk n tb p.1 = 59 then lawS n tb w (p.1 + 1) (k + 1) (up k (nI (tk n tb i)) lt) (up k p.2.1 W) (up k p.2.2 H) else .inl (er 1 p.1))
    else .inl (er 1 i)
def LwF (dd : Nat) (h0 h : aH) : Prop := h.2.2 = h0.2.2 ∧ (∀ c q, ¬ (dd + 1 ≤ c ∧ c ≤ dd + 5) → gA h c q = gA h0 c q) ∧ ∀ c j, ¬ (c = dd ∧ (j = 2 ∨ j = 6)) → ¬ (c = 52 ∧ (j = 2 ∨ j = 3 ∨ j = 4)) → gI h c j = gI h0 c j
theorem LwF_rf {dd : Nat} {h : aH} : LwF dd h h := ⟨rfl, fun _ _ _ => rfl, fun _ _ _ _ => rfl⟩
theorem LwF_tr {dd : Nat} {a b c : aH} (x : LwF dd a b) (y : LwF dd b c) : LwF dd a c := ⟨y.1.trans x.1, fun k i hk => (y.2.1 k i hk).trans (x.2.1 k i hk), fun k i h1 h2 => (y.2.2 k i h1 h2).trans (x.2.2 k i h1 h2)⟩
theorem RdF_Cl {dd : Nat} {a b : aH} (x : RdF dd a b) : LwF dd a b := ⟨x.1, fun c q h => x.2.1 c q (by omega), fun c j h1 h2 => x.2.2 c j (by omega) (by omega)⟩
def rdZ (K : Int32 → Int32 → aH → Prop) (x3 : Int32) (h16 : aH) : Prop := ∀ v18 : Int32, v18 = (gI h16 52 4) → aIf (¬ v18 = 0) (aIf ((0 : Int32) = 0) (∀ x3_21 : Int32, x3_21 = x3 + 1 → K 0 x3_21 h16) (f_X4_take SC 52 59 h16 (fun h22 => ∀ x3_23 : Int32, x3_23 = x3 + 1 → K 0 x3_23 h22))) (∀ v24 : Int32, v24 = (gI h16 52 3) → ∀ v25 : Int32, v25 = (gI h16 52 2) → aIf (v25 ≤ v24) (aIf ((0 : Int32) = 0) (∀ x3_28 : Int32, x3_28 = x3 + 1 → K 0 x3_28 h16) (f_X4_take SC 52 59 h16 (fun h29 => ∀ x3_30 : Int32, x3_30 = x3 + 1 → K 0 x3_30 h29))) (aIf ((1 : Int32) = 0) (∀ x3_32 : Int32, x3_32 = x3 + 1 → K 1 x3_32 h16) (f_X4_take SC 52 59 h16 (fun h33 => ∀ x3_34 : Int32, x3_34 = x3 + 1 → K 1 x3_34 h33))))
def rdY (K : Int32 → Int32 → aH → Prop) (x3 : Int32) (h14 : aH) : Prop := aObj SC (gR h14 52 1) 2 flX3 ∧ f_X3_put SC (gR h14 52 1) 0 0 h14 (fun _ h16 => rdZ K x3 h16)
def rdX (K : Int32 → Int32 → aH → Prop) (x3 : Int32) (h12 : aH) : Prop := fP SC 16 false 52 1 h12 (fun h13 => f_X4_take SC 52 41 h13 (fun h14 => rdY K x3 h14))
def rdU (K : Int32 → Int32 → aH → Prop) (x3 : Int32) (h9 : aH) : Prop := aObj SC (gR h9 52 1) 2 flX3 ∧ f_X3_beginCondition SC (gR h9 52 1) h9 (fun h12 => rdX K x3 h12)
def rdW (K : Int32 → Int32 → aH → Prop) (x3 : Int32) (h7 : aH) : Prop := aObj SC (gR h7 52 1) 2 flX3 ∧ f_X3_put SC (gR h7 52 1) 0 0 h7 (fun _ h9 => rdU K x3 h9)
def rdV (K : Int32 → Int32 → aH → Prop) (x3 : Int32) (h5 : aH) : Prop := fE SC 8 52 0 h5 (fun h6 => f_X4_take SC 52 40 h6 (fun h7 => rdW K x3 h7))
def ClR (dd : Nat) (h : aH) (z k : Nat) (lt : Nat → Int32) (W H : Nat → Sem) : Prop := gI h dd 6 = nI k ∧ ∀ q, q < k → gA h (dd + 3) q = lt q ∧ (∃ i j, gA h (dd + 4) q = nI i ∧ CCo (gA h (dd + 1)) (gA h (dd + 2)) i j 21 (W q) ∧ j < z ∧ gA h (dd + 1) j = 0) ∧ ∃ i j, gA h (dd + 5) q = nI i ∧ CCo (gA h (dd + 1)) (gA h (dd + 2)) i j 21 (H q) ∧ j < z ∧ gA h (dd + 1) j = 0
section LwR
variable {n : Nat} {tb : Nat → Nat} {dd l : Nat} {h : aH} {i z : Nat} {e : Int32} {K : Int32 → Int32 → aH → Prop} {x3 : Int32}
theorem LwF_L {h' : aH} (hL : LayC h l dd) (f : LwF dd h h') : LayC h' l dd := LayC_2 f.1 hL
theorem sp_begC (hl : isLaw dd) (hL : LayC h l dd) (s : RdS n tb dd h i z e) {k : Nat} (hk : k ≤ 14) (hg : gI h dd 6 = nI k) {Q : aH → Prop} (h0 : k = 0 → Q h) (h1 : ∀ h', 1 ≤ k → h' = sA h (dd + 5) (k - 1) (nI z) → LwF dd h h' → RdS n tb dd h' i z e → Q h') : f_X3_beginCondition SC dd h Q := by
  intro v ev
  rw [hg] at ev
  subst ev
  by_cases c : k = 0
  · subst c
    exact aIf_t (by decide) (h0 rfl)
  refine aIf_f ?_ ?_
  · rw [show (0 : Int32) = nI 0 from rfl, nI_leI (by omega) (by omega)]
    omega
  intro v ev v4 e4
  rw [hg] at ev
  rw [s.2.2.2.1] at e4
  subst ev e4
  obtain ⟨k, rfl⟩ : ∃ j, k = j + 1 := ⟨k - 1, by omega⟩
  rw [nI_pred, lw_5 hl hL, lwi_5 hl, vp_lt (show k < 14 by omega) (by decide), cl (by omega)]
  refine ⟨trivial, fun h6 e6 => ?_⟩
  refine h1 h6 (by omega) e6 ?_ ?_
  · subst e6
    exact ⟨rfl, fun c q hc => by rw [gA_o (by omega)], fun _ _ _ _ => rfl⟩
  · subst e6
    obtain ⟨s1, s2, s3, s4, s5, s5', s6, s7, s8⟩ := s
    refine ⟨s1, s2, s3, s4, s5, s5', s6, s7, fun q hq => ?_⟩
    rw [gA_o (by unfold isLaw at hl; omega)]
    exact s8 q hq
theorem rdZ_F (s : RdS n tb dd h i z e) (he : ¬ e = 0) (hK : ∀ y, K 0 y h) : rdZ K x3 h := by
  intro v ev
  rw [s.2.2.1] at ev
  subst ev
  exact aIf_t he (aIf_t rfl (fun y _ => hK y))
theorem rdY_F (hl : isLaw dd) (hL : LayC h l dd) (s : RdS n tb dd h i z e) (he : ¬ e = 0) (hK : ∀ y h' i' z', LwF dd h h' → RdS n tb dd h' i' z' e → K 0 y h') : rdY K x3 h := by
  unfold rdY
  rw [c_52_1 hL]
  refine ⟨(lw_o hl).mpr trivial, sp_putX hl hL s (fun r h' z' f' s' => ?_)⟩
  exact rdZ_F s' he (fun y => hK y h' i z' (RdF_Cl f') s')
theorem rdX_F (hl : isLaw dd) (hL : LayC h l dd) (s : RdS n tb dd h i z e) (he : ¬ e = 0) (hK : ∀ y h' i' z', LwF dd h h' → RdS n tb dd h' i' z' e → K 0 y h') : rdX K x3 h := by
  unfold rdX
  refine sp_condF hl hL s he (fun h' z' f' s' => ?_)
  have hL' := RdF_L hL f'
  exact sp_takeF hL' s' he (rdY_F hl hL' s' he (fun y h2 i2 z2 f2 s2 => hK y h2 i2 z2 (LwF_tr (RdF_Cl f') f2) s2))
theorem rdW_F (hl : isLaw dd) (hL : LayC h l dd) (s : RdS n tb dd h i z e) (he : ¬ e = 0) {k : Nat} (hk : k ≤ 14) (hg : gI h dd 6 = nI k) (hK : ∀ y h' i' z', LwF dd h h' → RdS n tb dd h' i' z' e → K 0 y h') : rdW K x3 h := by
  have d52 : dd ≠ 52 := by unfold isLaw at hl; omega
  unfold rdW
  rw [c_52_1 hL]
  refine ⟨(lw_o hl).mpr trivial, sp_putX hl hL s (fun r h' z' f' s' => ?_)⟩
  have hL' := RdF_L hL f'
  unfold rdU
  rw [c_52_1 hL']
  refine ⟨(lw_o hl).mpr trivial, sp_begC hl hL' s' hk ((f'.2.2 dd 6 (by omega) (by omega)).trans hg) (fun _ => ?_) (fun h2 _ _ f2 s2 => ?_)⟩
  · exact rdX_F hl hL' s' he (fun y h3 i3 z3 f3 s3 => hK y h3 i3 z3 (LwF_tr (RdF_Cl f') f3) s3)
  · exact rdX_F hl (LwF_L hL' f2) s2 he (fun y h3 i3 z3 f3 s3 => hK y h3 i3 z3 (LwF_tr (LwF_tr (RdF_Cl f') f2) f3) s3)
theorem rdV_F (hl : isLaw dd) (hL : LayC h l dd) (s : RdS n tb dd h i z e) (he : ¬ e = 0) {k : Nat} (hk : k ≤ 14) (hg : gI h dd 6 = nI k) (hK : ∀ y h' i' z', LwF dd h h' → RdS n tb dd h' i' z' e → K 0 y h') : rdV K x3 h := by
  have d52 : dd ≠ 52 := by unfold isLaw at hl; omega
  unfold rdV
  refine sp_exprF hl hL s he (fun h' z' f' s' => ?_)
  have hL' := RdF_L hL f'
  exact sp_takeF hL' s' he (rdW_F hl hL' s' he hk ((f'.2.2 dd 6 (by omega) (by omega)).trans hg) (fun y h2 i2 z2 f2 s2 => hK y h2 i2 z2 (LwF_tr (RdF_Cl f') f2) s2))
end LwR
