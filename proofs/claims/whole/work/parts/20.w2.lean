/-! ===== LAW: the class reads a number, a letter, a factor ===== -/
theorem tk_in {n : Nat} {tb : Nat → Nat} {j : Nat} (h : 1 ≤ tk n tb j) : j < n := by
  unfold tk at h
  split at h
  · assumption
  · omega
theorem tkI_in {n : Nat} {tb : Nat → Nat} {j : Nat} (h : 1 ≤ tk n tb j) : tkI n tb j = nI (tk n tb j) := by
  have := tk_in h
  unfold tkI tk
  rw [if_pos this, if_pos this]
section LwF
variable {n : Nat} {tb : Nat → Nat} {dd l : Nat} {h : aH} {i z : Nat} {e : Int32}
theorem RdF_L {h' : aH} (hL : LayC h l dd) (f : RdF dd h h') : LayC h' l dd := LayC_2 f.1 hL
theorem sp_putX (hl : isLaw dd) (hL : LayC h l dd) (s : RdS n tb dd h i z e) {c a : Int32} {Q : Int32 → aH → Prop} (hq : ∀ r h' z', RdF dd h h' → RdS n tb dd h' i z' e → Q r h') : f_X3_put SC dd c a h Q :=
  sp_put hl hL s (fun _ h' f s' _ _ _ => hq _ h' _ f s') (fun _ => hq _ h z RdF_rf s)
theorem nm_48 (hl : isLaw dd) {h0 : aH} (hL : LayC h0 l dd) {j v N : Nat} (hN : 1 ≤ N) (f0 : RdF dd h0 h) (g0 : ∀ c q, gA h c q = gA h0 c q) (s : RdS n tb dd h j z 0) (hz : z < 200) (hij : i < j) (en : numL n tb 5 i 0 = (j, v)) {Q : aH → Prop} (hq : Out n tb dd h0 i z N (numS n tb i) Q) : f_X4_number_48 SC 52 Q (nI v) h := by
  have hL1 := RdF_L hL f0
  have e0 : numS n tb i = if isDg (tk n tb j) then .inl (er 2 j) else .inr (j, sNum (nI v)) := by
    unfold numS
    rw [en]
  unfold f_X4_number_48
  refine sp_next hL1 s (sp_dig (RdS_b s) s.2.2.2.2.2.2.1 (fun c => ?_) (fun c => ?_))
  · refine aIf_f (by decide) ?_
    refine sp_blame (c := 2) s (by decide) (by decide) (fun h' f' s' ne => ?_)
    rw [c_52_1 (RdF_L hL1 f')]
    refine ⟨(lw_o hl).mpr trivial, sp_putX hl (RdF_L hL1 f') s' (fun r h2 z2 f2 s2 => ?_)⟩
    exact hq.2 _ _ _ _ (by rw [e0, if_pos c]) ne (RdF_tr f0 (RdF_tr f' f2)) s2
  · refine aIf_t rfl ?_
    rw [c_52_1 hL1]
    refine ⟨(lw_o hl).mpr trivial, sp_put hl hL1 s (fun _ h2 f2 s2 k2 o2 a2 => ?_) (fun c => absurd hz c)⟩
    refine hq.1 j _ h2 (z + 1) (by rw [e0, if_neg c]) (RdF_tr f0 f2) s2 (fun q hq => ?_) (CCo_num hN o2 a2) (by omega)
    rw [← g0, ← g0]
    exact k2 q hq
theorem nm_4 (hl : isLaw dd) {h0 : aH} (hL : LayC h0 l dd) {N : Nat} (hN : 1 ≤ N) (hz : z < 200) {Q : aH → Prop} (hq : Out n tb dd h0 i z N (numS n tb i) Q) (hd : isDg (tk n tb i)) : ∀ (r j v : Nat) (h : aH), r ≤ 5 → RdF dd h0 h → (∀ c q, gA h c q = gA h0 c q) → RdS n tb dd h j z 0 → j = i + (5 - r) → numL n tb 5 i 0 = numL n tb r j v → f_X4_number_4 SC 52 Q (r + 1) (nI v) (nI (5 - r)) h := by
  intro r
  induction r with
  | zero =>
    intro j v h hr f0 g0 s ej en
    exact aIf_t (by decide) (nm_48 hl hL hN f0 g0 s hz (by omega) en hq)
  | succ r ih =>
    intro j v h hr f0 g0 s ej en
    have hL1 := RdF_L hL f0
    refine aIf_f (nI_ge (a := 5 - (r + 1)) (b := 5) (by omega) (by omega)) ?_
    refine sp_next hL1 s (sp_dig (RdS_b s) s.2.2.2.2.2.2.1 (fun c => ?_) (fun c => ?_))
    · refine aIf_f (by decide) (sp_next hL1 s ?_)
      intro x1 e1
      have hj : j < n := tk_in (Nat.le_trans (by decide) c.1)
      refine sp_up s hj (fun h' f' s' g' => ?_)
      intro x2 e2
      rw [nI_1] at e2
      rw [tkI_in (Nat.le_trans (by decide) c.1)] at e1
      have e3 : x1 = nI (10 * v + (tk n tb j - 48)) := by
        rw [e1, show (10 : Int32) = iI 10 from by decide, show (48 : Int32) = iI 48 from by decide, ← iI_nat, ← iI_nat, ← iI_nat, iI_mul, iI_add, iI_sub]
        congr 1
        have := c.1
        omega
      subst e2
      rw [e3, show 5 - (r + 1) + 1 = 5 - r by omega]
      refine ih (j + 1) _ h' (by omega) (RdF_tr f0 f') (fun c q => (g' c q).trans (g0 c q)) s' (by omega) ?_
      rw [en]
      show (if isDg (tk n tb j) then numL n tb r (j + 1) (10 * v + (tk n tb j - 48)) else (j, v)) = _
      rw [if_pos c]
    · refine aIf_t rfl (nm_48 hl hL hN f0 g0 s hz ?_ ?_ hq)
      · by_cases q : j = i
        · subst q
          exact absurd hd c
        · omega
      · rw [en]
        show (if isDg (tk n tb j) then numL n tb r (j + 1) (10 * v + (tk n tb j - 48)) else (j, v)) = _
        rw [if_neg c]
theorem sp_number (hl : isLaw dd) (hL : LayC h l dd) {N : Nat} (hN : 1 ≤ N) (s : RdS n tb dd h i z 0) (hz : z ≤ i) (hd : isDg (tk n tb i)) {Q : aH → Prop} (hq : Out n tb dd h i z N (numS n tb i) Q) : f_X4_number SC 52 h Q := by
  have hi : i < n := tk_in (Nat.le_trans (by decide) hd.1)
  have := s.2.2.2.2.2.2.1
  exact ⟨6, nm_4 hl hL hN (by omega) hq hd 5 i 0 h (Nat.le_refl _) RdF_rf (fun _ _ => rfl) s rfl rfl⟩
theorem letN_a : ∀ c, c < 256 → aLet (((nI c).toUInt32 % 65536).toInt32) = (match letN c with | some k => nI k | none => (-1)) := by decide +kernel
theorem letN_lt {c k : Nat} (h : letN c = some k) : k < 12 ∧ 1 ≤ c := by
  by_cases q : c < 256
  · have : ∀ c, c < 256 → ∀ k, letN c = some k → k < 12 ∧ 1 ≤ c := by
      have : ∀ c, c < 256 → (match letN c with | some k => decide (k < 12 ∧ 1 ≤ c) | none => true) = true := by decide +kernel
      intro c hc k e
      have := this c hc
      rw [e] at this
      exact of_decide_eq_true this
    exact this c q k h
  · unfold letN at h
    rw [if_neg (by omega), if_neg (by omega), if_neg (by omega), if_neg (by omega), if_neg (by omega), if_neg (by omega), if_neg (by omega), if_neg (by omega), if_neg (by omega), if_neg (by omega), if_neg (by omega), if_neg (by omega)] at h
    cases h
def letS (n : Nat) (tb : Nat → Nat) (i : Nat) : Rs := match letN (tk n tb i) with
  | some k => .inr (i + 1, sLt k)
  | none => .inl (er 1 i)
theorem sp_letter (hl : isLaw dd) (hL : LayC h l dd) {N : Nat} (hN : 1 ≤ N) (s : RdS n tb dd h i z 0) (hz : z ≤ i) {Q : aH → Prop} (hq : Out n tb dd h i z N (letS n tb i) Q) : f_X4_letter SC 52 (tkI n tb i) h Q := by
  have n2 := s.2.2.2.2.2.2.1
  have no : letN (tk n tb i) = none → f_X4_letter_15 SC 52 (tkI n tb i) Q (-1) h := by
    intro y
    refine aIf_f (fun y => y rfl) ?_
    refine sp_blame (c := 1) s (by decide) (by decide) (fun h' f' s' ne => ?_)
    exact hq.2 _ _ _ _ (by unfold letS; rw [y]) ne f' s'
  by_cases c : i < n
  · have b := RdS_b s i (by omega)
    have et : tk n tb i = tb i := by unfold tk; rw [if_pos c]
    have ei : tkI n tb i = nI (tb i) := by unfold tkI; rw [if_pos c]
    refine aIf_t (by rw [ei]; exact nI_le (a := 0) (by omega) (by omega)) ?_
    intro v ev
    rw [ei, letN_a _ b] at ev
    cases y : letN (tk n tb i) with
    | none =>
      rw [et] at y
      rw [y] at ev
      subst ev
      exact no (by rw [et]; exact y)
    | some k =>
      have y' := y
      rw [et] at y
      rw [y] at ev
      subst ev
      have hk := (letN_lt y).1
      refine aIf_t (nI_neg1 (by omega)) ?_
      rw [c_52_1 hL]
      refine ⟨(lw_o hl).mpr trivial, sp_put hl hL s (fun _ h2 f2 s2 k2 o2 a2 => ?_) (fun c => absurd (by omega) c)⟩
      refine sp_up s2 c (fun h3 f3 s3 g3 => ?_)
      refine hq.1 (i + 1) (sLt k) h3 (z + 1) (by unfold letS; rw [y']) (RdF_tr f2 f3) s3 (fun q hq => by rw [g3, g3]; exact k2 q hq) (CCo_let hN hk (by rw [g3]; exact o2) (by rw [g3]; exact a2)) (by omega)
  · have et : tk n tb i = 0 := by unfold tk; rw [if_neg c]
    have ei : tkI n tb i = (-1) := by unfold tkI; rw [if_neg c]
    refine aIf_f (by rw [ei]; decide) ?_
    exact no (by rw [et]; rfl)
theorem sp_factor (hl : isLaw dd) (hL : LayC h l dd) {F : Nat → Int32 → aH → (aH → Prop) → Prop} {E : Nat → Rs} {d N : Nat} (hd : d ≤ 6) (hN : 1 ≤ N) (hE : d < 6 → ∀ h i z Q, LayC h l dd → RdS n tb dd h i z 0 → z ≤ i → Out n tb dd h i z N (E i) Q → F 52 (nI (d + 1)) h Q) (s : RdS n tb dd h i z 0) (hz : z ≤ i) {Q : aH → Prop} (hq : Out n tb dd h i z N (facS n tb E d i) Q) : f_X4_factor F SC 52 (nI d) h Q := by
  have n2 := s.2.2.2.2.2.2.1
  intro v ev
  rw [s.2.2.1] at ev
  subst ev
  refine aIf_t rfl ?_
  refine sp_next hL s (sp_dig (RdS_b s) n2 (fun c => ?_) (fun c => ?_))
  · refine aIf_f (by decide) (sp_number hl hL hN s hz c ?_)
    unfold facS at hq
    rw [if_pos c] at hq
    exact hq
  · refine aIf_t rfl ?_
    show aIf (¬ tkI n tb i = nI 91) _ _
    rw [tkc (RdS_b s) n2 (by decide) (by decide)]
    refine aIf_i (fun c1 => ?_) (fun c1 => ?_)
    · intro v ev
      rw [s.2.2.1] at ev
      subst ev
      refine aIf_f (fun y => y rfl) (sp_letter hl hL hN s hz ?_)
      unfold facS at hq
      rw [if_neg c, if_neg c1] at hq
      exact hq
    · have c1 := Classical.not_not.mp c1
      have hi : i < n := tk_in (n := n) (tb := tb) (by omega)
      unfold facS at hq
      rw [if_neg c, if_pos c1] at hq
      by_cases c6 : 6 ≤ d
      · rw [if_pos c6] at hq
        refine aIf_f ?_ ?_
        · exact fun y => absurd ((nI_ltI (a := d) (b := 6) (by omega) (by decide)).mp y) (by omega)
        · refine sp_blame (c := 5) s (by decide) (by decide) (fun h' f' s' ne => aIf_t rfl ?_)
          intro v ev
          rw [s'.2.2.1] at ev
          subst ev
          exact aIf_t ne (hq.2 _ _ _ _ rfl ne f' s')
      · rw [if_neg c6] at hq
        refine aIf_t ((nI_ltI (a := d) (b := 6) (by omega) (by decide)).mpr (by omega)) ?_
        refine sp_up s hi (fun h' f' s' g' => aIf_f (by decide) ?_)
        rw [nI_1]
        have hL' := RdF_L hL f'
        refine hE (by omega) h' (i + 1) z _ hL' s' (by omega) ⟨fun j f h2 z2 e2 F2 s2 k2 c2 b2 => ?_, fun e h2 i2 z2 e2 ne F2 s2 => ?_⟩
        · refine sp_take (c := 93) (RdF_L hL' F2) s2 (by decide) (by decide) (fun y h3 f3 s3 g3 => ?_) (fun y h3 f3 s3 ne => ?_)
          · refine hq.1 (j + 1) f h3 z2 (by rw [e2]; unfold thenS; exact if_pos y) (RdF_tr f' (RdF_tr F2 f3)) s3 (fun q hq => ?_) (CCo_eq c2 (fun k _ _ => ⟨g3 _ _, g3 _ _⟩)) (by omega)
            rw [g3, g3, ← g', ← g']
            exact k2 q hq
          · exact hq.2 _ _ _ _ (by rw [e2]; unfold thenS; exact if_neg y) ne (RdF_tr f' (RdF_tr F2 f3)) s3
        · refine sp_takeF (RdF_L hL' F2) s2 ne (hq.2 _ _ _ _ (by rw [e2]; rfl) ne (RdF_tr f' F2) s2)
theorem sp_factorF (s : RdS n tb dd h i z e) (he : ¬ e = 0) {F : Nat → Int32 → aH → (aH → Prop) → Prop} {a : Int32} {Q : aH → Prop} (hq : Q h) : f_X4_factor F SC 52 a h Q := by
  intro v ev
  rw [s.2.2.1] at ev
  subst ev
  exact aIf_f he hq
end LwF
