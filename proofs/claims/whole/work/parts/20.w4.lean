/-! ===== LAW: the class reads a condition ===== -/
theorem sAnd_as (f g k : Sem) : sAnd (sAnd f g) k = sAnd f (sAnd g k) := by
  funext V
  unfold sAnd
  rcases f V with _ | a
  · rfl
  · show (match (if a = 0 then some a else g V) with | none => none | some b => if b = 0 then some b else k V) = if a = 0 then some a else _
    by_cases c : a = 0
    · rw [if_pos c, if_pos c]
      show (if a = 0 then some a else k V) = some a
      rw [if_pos c]
    · rw [if_neg c, if_neg c]
      rcases g V with _ | b <;> rfl
theorem sOr_as (f g k : Sem) : sOr (sOr f g) k = sOr f (sOr g k) := by
  funext V
  unfold sOr
  rcases f V with _ | a
  · rfl
  · show (match (if a = 0 then g V else some a) with | none => none | some b => if b = 0 then k V else some b) = if a = 0 then _ else some a
    by_cases c : a = 0
    · rw [if_pos c, if_pos c]
      rcases g V with _ | b <;> rfl
    · rw [if_neg c, if_neg c]
      show (if a = 0 then k V else some a) = some a
      rw [if_neg c]
/-- skips that wait for their place -/
def Chn (o : Int32) (op ar : Nat → Int32) (N : Nat) : List (Nat × Sem) → Nat → Nat → Int32 → Prop
  | [], zs, s, x => s = zs ∧ x = (-1)
  | p :: L, zs, s, x => s = p.1 + 1 ∧ x = nI p.1 ∧ op p.1 = o ∧ ∃ s', CCo op ar s' p.1 N p.2 ∧ Chn o op ar N L zs s' (ar p.1)
def fld (c : Sem → Sem → Sem) : List (Nat × Sem) → Sem → Sem
  | [], a => a
  | p :: L, a => fld c L (c p.2 a)
theorem fld_as {c : Sem → Sem → Sem} (hc : ∀ f g k, c (c f g) k = c f (c g k)) : ∀ (L : List (Nat × Sem)) (a b : Sem), c (fld c L a) b = fld c L (c a b) := by
  intro L
  induction L with
  | nil => intro a b; rfl
  | cons p L ih =>
    intro a b
    show c (fld c L (c p.2 a)) b = fld c L (c p.2 (c a b))
    rw [ih, hc]
theorem Chn_le {o : Int32} {op ar : Nat → Int32} {N : Nat} : ∀ {L : List (Nat × Sem)} {zs s : Nat} {x : Int32}, Chn o op ar N L zs s x → zs + L.length ≤ s := by
  intro L
  induction L with
  | nil => intro zs s x h; rw [h.1]; exact Nat.le_refl _
  | cons p L ih =>
    intro zs s x h
    obtain ⟨h1, h2, h3, s', h4, h5⟩ := h
    have := ih h5
    have := CCo_lt h4
    simp only [List.length_cons]
    omega
theorem Chn_eq {o : Int32} {op ar op' ar' : Nat → Int32} {N : Nat} : ∀ {L : List (Nat × Sem)} {zs s : Nat} {x : Int32}, Chn o op ar N L zs s x → (∀ k, k < s → op' k = op k ∧ ar' k = ar k) → Chn o op' ar' N L zs s x := by
  intro L
  induction L with
  | nil => intro zs s x h _; exact h
  | cons p L ih =>
    intro zs s x h e
    obtain ⟨h1, h2, h3, s', h4, h5⟩ := h
    have := CCo_lt h4
    refine ⟨h1, h2, ((e _ (by omega)).1).trans h3, s', CCo_eq h4 (fun k _ hk => e k (by omega)), ?_⟩
    rw [(e p.1 (by omega)).2]
    exact ih h5 (fun k hk => e k (by omega))
theorem i_nn {x : Int32} (h : ¬ x < 0) : ∃ k : Nat, k < 2147483648 ∧ x = nI k := by
  obtain ⟨z, h1, h2, e⟩ := iI_of x
  subst e
  rw [show (0 : Int32) = iI 0 from rfl, iI_lt h1 h2 (by decide) (by decide)] at h
  refine ⟨z.toNat, by omega, ?_⟩
  rw [← iI_nat]
  congr 1
  omega
section LwH
variable {n : Nat} {tb : Nat → Nat} {dd l : Nat} {h : aH} {i z : Nat} {e : Int32}
theorem ar_set (hl : isLaw dd) (s : RdS n tb dd h i z e) {q : Nat} {v : Int32} : RdF dd h (sA h (dd + 2) q v) ∧ RdS n tb dd (sA h (dd + 2) q v) i z e := by
  obtain ⟨s1, s2, s3, s4, s5, s5', s6, s7, s8⟩ := s
  refine ⟨⟨rfl, fun c k hc => by rw [gA_o (by omega)], fun _ _ _ _ => rfl⟩, s1, s2, s3, s4, s5, s5', s6, s7, fun k hk => ?_⟩
  rw [gA_o (by unfold isLaw at hl; omega)]
  exact s8 k hk
theorem ld_4F (hl : isLaw dd) {a1 : Int32} {Q : aH → Prop} : ∀ (w : Nat) (x : Int32) (h : aH), w ≤ 200 → LayC h l dd → RdS n tb dd h i z e → (∀ h', RdF dd h h' → RdS n tb dd h' i z e → Q h') → f_X3_landHere_4 SC dd a1 Q (w + 1) x (nI (200 - w)) h := by
  intro w
  induction w with
  | zero => intro x h hw hL s hq; exact aIf_t (by decide) (hq h RdF_rf s)
  | succ w ih =>
    intro x h hw hL s hq
    have z2 := s.2.2.2.2.2.2.2.1
    refine aIf_f (nI_ge (a := 200 - (w + 1)) (b := 200) (by omega) (by omega)) (aIf_i (fun _ => hq h RdF_rf s) (fun c => ?_))
    obtain ⟨k, hk, rfl⟩ := i_nn c
    intro v ev
    rw [s.2.2.2.1] at ev
    subst ev
    refine aIf_i (fun _ => hq h RdF_rf s) (fun c2 => ?_)
    have kz : k < z := by
      rw [nI_leI (by omega) (by omega)] at c2
      omega
    rw [lw_1 hl hL, lwi_2 hl, vp_lt (show k < 200 by omega) (by decide), cl (by omega)]
    refine ⟨trivial, fun v6 e6 v7 e7 => ⟨trivial, fun h9 e9 x3 e3 => ?_⟩⟩
    rw [nI_1, show 200 - (w + 1) + 1 = 200 - w by omega] at e3
    subst e3
    subst e9
    obtain ⟨f9, s9⟩ := ar_set (q := k) (v := v7) hl s
    exact ih v6 _ (by omega) (RdF_L hL f9) s9 (fun h' f' s' => hq h' (RdF_tr f9 f') s')
theorem ld_F (hl : isLaw dd) (hL : LayC h l dd) (s : RdS n tb dd h i z e) {x : Int32} {Q : aH → Prop} (hq : ∀ h', RdF dd h h' → RdS n tb dd h' i z e → Q h') : f_X3_landHere SC dd x h Q := ⟨201, ld_4F hl 200 x h (Nat.le_refl _) hL s hq⟩
theorem ld_4 (hl : isLaw dd) {o : Int32} {c : Sem → Sem → Sem} {N zs : Nat} (hoc : ∀ {op ar : Nat → Int32} {i j m : Nat} {f g : Sem}, CCo op ar i j N f → op j = o → ar j = nI m → CCo op ar (j + 1) m N g → CCo op ar i m N (c f g)) {a1 : Int32} {Q : aH → Prop} : ∀ (L : List (Nat × Sem)) (s x0 : Nat) (x : Int32) (a : Sem) (h : aH), LayC h l dd → RdS n tb dd h i z e → Chn o (gA h (dd + 1)) (gA h (dd + 2)) N L zs s x → CCo (gA h (dd + 1)) (gA h (dd + 2)) s z N a → x0 + L.length ≤ 200 → (∀ h', RdF dd h h' → RdS n tb dd h' i z e → Kp dd zs h h' → CCo (gA h' (dd + 1)) (gA h' (dd + 2)) zs z N (fld c L a) → Q h') → f_X3_landHere_4 SC dd a1 Q (L.length + 1) x (nI x0) h := by
  intro L
  induction L with
  | nil =>
    intro s x0 x a h hL st ch ca hx hq
    obtain ⟨rfl, rfl⟩ := ch
    refine aIf_i (fun _ => hq h RdF_rf st Kp_rf ca) (fun _ => aIf_t (by decide) (hq h RdF_rf st Kp_rf ca))
  | cons p L ih =>
    intro s x0 x a h hL st ch ca hx hq
    have z2 := st.2.2.2.2.2.2.2.1
    obtain ⟨h1, h2, h3, s', h4, h5⟩ := ch
    subst h1 h2
    have l1 := CCo_lt h4
    have l2 := CCo_lt ca
    have l3 := Chn_le h5
    simp only [List.length_cons] at hx
    refine aIf_f (nI_ge (a := x0) (b := 200) (by omega) (by omega)) (aIf_f (nI_pos (by omega)) ?_)
    intro v ev
    rw [st.2.2.2.1] at ev
    subst ev
    refine aIf_f (nI_ge (by omega) (by omega)) ?_
    rw [lw_1 hl hL, lwi_2 hl, vp_lt (show p.1 < 200 by omega) (by decide), cl (by omega)]
    refine ⟨trivial, fun v6 e6 v7 e7 => ⟨trivial, fun h9 e9 x3 e3 => ?_⟩⟩
    rw [nI_1] at e3
    rw [st.2.2.2.1] at e7
    subst e3 e6 e7
    obtain ⟨f9, s9⟩ := ar_set (q := p.1) (v := nI z) hl st
    have go : ∀ k, gA h9 (dd + 1) k = gA h (dd + 1) k := fun k => by rw [e9, gA_o (by omega)]
    have ga : ∀ k, ¬ k = p.1 → gA h9 (dd + 2) k = gA h (dd + 2) k := fun k hk => by rw [e9, gA_p (by omega)]
    have gp : gA h9 (dd + 2) p.1 = nI z := by rw [e9, gA_e]
    rw [← e9] at f9 s9
    refine ih s' (x0 + 1) _ (c p.2 a) h9 (RdF_L hL f9) s9 (Chn_eq h5 (fun k hk => ⟨go k, ga k (by omega)⟩)) ?_ (by omega) (fun h' f' t' k' c' => hq h' (RdF_tr f9 f') t' (fun q hq => ?_) c')
    · exact hoc (CCo_eq h4 (fun k _ hk => ⟨go k, ga k (by omega)⟩)) ((go _).trans h3) gp (CCo_eq ca (fun k hk _ => ⟨go k, ga k (by omega)⟩))
    · have := k' q hq
      rw [go, ga q (by omega)] at this
      exact this
theorem ld_A (hl : isLaw dd) (hL : LayC h l dd) (st : RdS n tb dd h i z e) {N zs s : Nat} {L : List (Nat × Sem)} {x : Int32} {a : Sem} (ch : Chn 4 (gA h (dd + 1)) (gA h (dd + 2)) N L zs s x) (ca : CCo (gA h (dd + 1)) (gA h (dd + 2)) s z N a) {Q : aH → Prop} (hq : ∀ h', RdF dd h h' → RdS n tb dd h' i z e → Kp dd zs h h' → CCo (gA h' (dd + 1)) (gA h' (dd + 2)) zs z N (fld sAnd L a) → Q h') : f_X3_landHere SC dd x h Q := by
  have := Chn_le ch
  have := CCo_lt ca
  have := st.2.2.2.2.2.2.2.1
  exact ⟨_, ld_4 hl (fun a b c d => CCo_and a b c d) L s 0 x a h hL st ch ca (by omega) hq⟩
theorem ld_O (hl : isLaw dd) (hL : LayC h l dd) (st : RdS n tb dd h i z e) {N zs s : Nat} {L : List (Nat × Sem)} {x : Int32} {a : Sem} (ch : Chn 5 (gA h (dd + 1)) (gA h (dd + 2)) N L zs s x) (ca : CCo (gA h (dd + 1)) (gA h (dd + 2)) s z N a) {Q : aH → Prop} (hq : ∀ h', RdF dd h h' → RdS n tb dd h' i z e → Kp dd zs h h' → CCo (gA h' (dd + 1)) (gA h' (dd + 2)) zs z N (fld sOr L a) → Q h') : f_X3_landHere SC dd x h Q := by
  have := Chn_le ch
  have := CCo_lt ca
  have := st.2.2.2.2.2.2.2.1
  exact ⟨_, ld_4 hl (fun a b c d => CCo_or a b c d) L s 0 x a h hL st ch ca (by omega) hq⟩
/-- both rows of skips land -/
theorem ld_2F (hl : isLaw dd) (hL : LayC h l dd) (s : RdS n tb dd h i z e) {x2 x3 : Int32} {Q : aH → Prop} (hq : ∀ h', RdF dd h h' → RdS n tb dd h' i z e → Q h') : aObj SC (gR h 52 1) 2 flX3 ∧ f_X3_landHere SC (gR h 52 1) x2 h (fun h4 => aObj SC (gR h4 52 1) 2 flX3 ∧ f_X3_landHere SC (gR h4 52 1) x3 h4 (fun h6 => Q h6)) := by
  rw [c_52_1 hL]
  refine ⟨(lw_o hl).mpr trivial, ld_F hl hL s (fun h4 f4 s4 => ?_)⟩
  rw [c_52_1 (RdF_L hL f4)]
  exact ⟨(lw_o hl).mpr trivial, ld_F hl (RdF_L hL f4) s4 (fun h6 f6 s6 => hq h6 (RdF_tr f4 f6) s6)⟩
theorem cd_12F (hl : isLaw dd) (hL : LayC h l dd) {F : Nat → Int32 → aH → (aH → Prop) → Prop} {a x2 x3 x4 : Int32} {w : Nat} (s : RdS n tb dd h i z e) (he : ¬ e = 0) {Q : aH → Prop} (hq : ∀ h', RdF dd h h' → RdS n tb dd h' i z e → Q h') : f_X4_condition_12 F SC 52 a Q (w + 1) x2 x3 x4 h := by
  unfold f_X4_condition_12
  intro v ev
  refine aIf_i (fun _ => ld_2F hl hL s hq) (fun _ => ?_)
  intro v ev
  rw [s.2.2.1] at ev
  subst ev
  exact aIf_t he (ld_2F hl hL s hq)
theorem cd_12 (hl : isLaw dd) {h0 : aH} (hL : LayC h0 l dd) {F : Nat → Int32 → aH → (aH → Prop) → Prop} {Fs : Nat → Rs} {a : Int32} {N z0 : Nat} (hz : z0 ≤ i) (hF : ∀ h i z Q, LayC h l dd → RdS n tb dd h i z 0 → z ≤ i → Out n tb dd h i z N (Fs i) Q → F 52 a h Q) {Q : aH → Prop} : ∀ (w j z zs s : Nat) (L M : List (Nat × Sem)) (x2 x3 : Int32) (p : Sem) (o : Option Sem) (h : aH), w ≤ n → RdF dd h0 h → RdS n tb dd h j z 0 → Kp dd z0 h0 h → Chn 5 (gA h (dd + 1)) (gA h (dd + 2)) N M z0 zs x3 → Chn 4 (gA h (dd + 1)) (gA h (dd + 2)) N L zs s x2 → CCo (gA h (dd + 1)) (gA h (dd + 2)) s z N p → z + i ≤ z0 + j → (∀ b, cmO o b = fld sOr M b) → Out n tb dd h0 i z0 N (cdlS n tb Fs w j o (fld sAnd L p)) Q → f_X4_condition_12 F SC 52 a Q (w + 1) x2 x3 (nI (n - w)) h := by
  intro w
  have fin : ∀ (j z zs s : Nat) (L M : List (Nat × Sem)) (x2 x3 : Int32) (p : Sem) (o : Option Sem) (h : aH), RdF dd h0 h → RdS n tb dd h j z 0 → Kp dd z0 h0 h → Chn 5 (gA h (dd + 1)) (gA h (dd + 2)) N M z0 zs x3 → Chn 4 (gA h (dd + 1)) (gA h (dd + 2)) N L zs s x2 → CCo (gA h (dd + 1)) (gA h (dd + 2)) s z N p → z + i ≤ z0 + j → (∀ b, cmO o b = fld sOr M b) → Out n tb dd h0 i z0 N (.inr (j, cmO o (fld sAnd L p))) Q → aObj SC (gR h 52 1) 2 flX3 ∧ f_X3_landHere SC (gR h 52 1) x2 h (fun h4 => aObj SC (gR h4 52 1) 2 flX3 ∧ f_X3_landHere SC (gR h4 52 1) x3 h4 (fun h6 => Q h6)) := by
    intro j z zs s L M x2 x3 p o h f0 st k0 cm cl cp hb ho hq
    have hL1 := RdF_L hL f0
    have lm := Chn_le cm
    rw [c_52_1 hL1]
    refine ⟨(lw_o hl).mpr trivial, ld_A hl hL1 st cl cp (fun h4 f4 s4 k4 c4 => ?_)⟩
    have hL4 := RdF_L hL1 f4
    rw [c_52_1 hL4]
    refine ⟨(lw_o hl).mpr trivial, ld_O hl hL4 s4 (Chn_eq cm k4) c4 (fun h6 f6 s6 k6 c6 => ?_)⟩
    refine hq.1 j _ h6 z rfl (RdF_tr f0 (RdF_tr f4 f6)) s6 (Kp_tr (Kp_tr k0 (fun q hq => k4 q (by omega)) (Nat.le_refl _)) k6 (Nat.le_refl _)) ?_ hb
    rw [ho]
    exact c6
  induction w with
  | zero =>
    intro j z zs s L M x2 x3 p o h hw f0 st k0 cm cl cp hb ho hq
    have n2 := st.2.2.2.2.2.2.1
    intro v ev
    rw [st.1] at ev
    subst ev
    refine aIf_t (nI_le (by omega) (by omega)) ?_
    exact fin j z zs s L M x2 x3 p o h f0 st k0 cm cl cp hb ho hq
  | succ w ih =>
    intro j z zs s L M x2 x3 p o h hw f0 st k0 cm ch cp hb ho hq
    have n2 := st.2.2.2.2.2.2.1
    have jn := st.2.2.2.2.1
    have hL1 := RdF_L hL f0
    have lm := Chn_le cm
    have ll := Chn_le ch
    have lp := CCo_lt cp
    intro v ev
    rw [st.1] at ev
    subst ev
    refine aIf_f (nI_ge (by omega) (by omega)) ?_
    intro v ev
    rw [st.2.2.1] at ev
    subst ev
    refine aIf_f (fun y => y rfl) (sp_next hL1 st ?_)
    have tc : ∀ c, 1 ≤ c → c < 256 → (tkI n tb j = nI c ↔ tk n tb j = c) := fun c h1 h2 => tkc (RdS_b st) n2 h1 h2
    unfold cdlS at hq
    refine aIf_i (fun c38 => ?_) (fun c38 => ?_)
    · have c38 : ¬ tk n tb j = 38 := fun y => c38 ((tc 38 (by decide) (by decide)).mpr y)
      rw [if_neg c38] at hq
      refine aIf_i (fun c124 => ?_) (fun c124 => ?_)
      · have c124 : ¬ tk n tb j = 124 := fun y => c124 ((tc 124 (by decide) (by decide)).mpr y)
        rw [if_neg c124] at hq
        exact fin j z zs s L M x2 x3 p o h f0 st k0 cm ch cp hb ho hq
      · have c124 : tk n tb j = 124 := (tc 124 (by decide) (by decide)).mp (Classical.not_not.mp c124)
        rw [if_pos c124] at hq
        have hj : j < n := tk_in (n := n) (tb := tb) (by omega)
        rw [c_52_1 hL1]
        refine ⟨(lw_o hl).mpr trivial, ld_A hl hL1 st ch cp (fun h4 f4 s4 k4 c4 => ?_)⟩
        have hL4 := RdF_L hL1 f4
        rw [c_52_1 hL4]
        refine ⟨(lw_o hl).mpr trivial, sp_put hl hL4 s4 (fun _ h5 f5 s5 k5 o5 a5 => ?_) (fun c => absurd (by omega) c)⟩
        refine sp_up s5 hj (fun h6 f6 s6 g6 => ?_)
        have hL6 := RdF_L (RdF_L hL4 f5) f6
        refine hF h6 (j + 1) (z + 1) _ hL6 s6 (by omega) ⟨fun j3 f3 h3 z3 e3 F3 s3 k3 c3 b3 => ?_, fun e h3 i3 z3 e3 ne F3 s3 => ?_⟩
        · intro y4 ey
          rw [nI_1, show n - (w + 1) + 1 = n - w by omega] at ey
          subst ey
          rw [e3] at hq
          have kk : ∀ q, q < z + 1 → gA h3 (dd + 1) q = gA h5 (dd + 1) q ∧ gA h3 (dd + 2) q = gA h5 (dd + 2) q := fun q hq => by
            have := k3 q hq
            rw [g6, g6] at this
            exact this
          have k45 : Kp dd z h4 h3 := fun q hq => ⟨(kk q (by omega)).1.trans (k5 q hq).1, (kk q (by omega)).2.trans (k5 q hq).2⟩
          have k13 : Kp dd zs h h3 := fun q hq => ⟨(k45 q (by omega)).1.trans (k4 q hq).1, (k45 q (by omega)).2.trans (k4 q hq).2⟩
          refine ih j3 z3 (z + 1) (z + 1) [] ((z, fld sAnd L p) :: M) (-1) (nI z) f3 (some (cmO o (fld sAnd L p))) h3 (by omega) (RdF_tr f0 (RdF_tr f4 (RdF_tr f5 (RdF_tr f6 F3)))) s3 (Kp_tr k0 (fun q hq => k13 q (by omega)) (Nat.le_refl _)) ⟨rfl, rfl, (kk z (by omega)).1.trans o5, zs, CCo_eq c4 (fun k _ hk => k45 k hk), ?_⟩ ⟨rfl, rfl⟩ c3 (by omega) (fun b => ?_) hq
          · rw [(kk z (by omega)).2, a5]
            exact Chn_eq cm k13
          · show sOr (cmO o (fld sAnd L p)) b = fld sOr M (sOr (fld sAnd L p) b)
            rw [ho, fld_as sOr_as]
        · intro y4 ey
          rw [e3] at hq
          exact cd_12F hl (RdF_L hL6 F3) s3 ne (fun h' f' s' => hq.2 e h' i3 z3 rfl ne (RdF_tr f0 (RdF_tr f4 (RdF_tr f5 (RdF_tr f6 (RdF_tr F3 f'))))) s')
    · have c38 : tk n tb j = 38 := (tc 38 (by decide) (by decide)).mp (Classical.not_not.mp c38)
      rw [if_pos c38] at hq
      have hj : j < n := tk_in (n := n) (tb := tb) (by omega)
      rw [c_52_1 hL1]
      refine ⟨(lw_o hl).mpr trivial, sp_put hl hL1 st (fun _ h5 f5 s5 k5 o5 a5 => ?_) (fun c => absurd (by omega) c)⟩
      refine sp_up s5 hj (fun h6 f6 s6 g6 => ?_)
      have hL6 := RdF_L (RdF_L hL1 f5) f6
      refine hF h6 (j + 1) (z + 1) _ hL6 s6 (by omega) ⟨fun j3 f3 h3 z3 e3 F3 s3 k3 c3 b3 => ?_, fun e h3 i3 z3 e3 ne F3 s3 => ?_⟩
      · intro y4 ey
        rw [nI_1, show n - (w + 1) + 1 = n - w by omega] at ey
        subst ey
        rw [e3] at hq
        have kk : ∀ q, q < z + 1 → gA h3 (dd + 1) q = gA h5 (dd + 1) q ∧ gA h3 (dd + 2) q = gA h5 (dd + 2) q := fun q hq => by
          have := k3 q hq
          rw [g6, g6] at this
          exact this
        have k13 : Kp dd z h h3 := fun q hq => ⟨(kk q (by omega)).1.trans (k5 q hq).1, (kk q (by omega)).2.trans (k5 q hq).2⟩
        refine ih j3 z3 zs (z + 1) ((z, p) :: L) M (nI z) x3 f3 o h3 (by omega) (RdF_tr f0 (RdF_tr f5 (RdF_tr f6 F3))) s3 (Kp_tr k0 (fun q hq => k13 q (by omega)) (Nat.le_refl _)) (Chn_eq cm (fun k hk => k13 k (by omega))) ⟨rfl, rfl, (kk z (by omega)).1.trans o5, s, CCo_eq cp (fun k _ hk => k13 k hk), ?_⟩ c3 (by omega) ho ?_
        · rw [(kk z (by omega)).2, a5]
          exact Chn_eq ch (fun k hk => k13 k (by omega))
        · show Out n tb dd h0 i z0 N (cdlS n tb Fs w j3 o (fld sAnd L (sAnd p f3))) Q
          rw [← fld_as sAnd_as]
          exact hq
      · intro y4 ey
        rw [e3] at hq
        exact cd_12F hl (RdF_L hL6 F3) s3 ne (fun h' f' s' => hq.2 e h' i3 z3 rfl ne (RdF_tr f0 (RdF_tr f5 (RdF_tr f6 (RdF_tr F3 f')))) s')
end LwH
