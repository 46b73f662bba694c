/-! ===== LAW: the reference reads a value ===== -/
section LmX
variable {n : Nat} {tb : Nat → Nat} {Q : aH → Prop}
theorem pl_tm {c : Nat} (h1 : isPl c) (h2 : isTm c) : False := by
  rcases h1 with y | y <;> rw [y] at h2 <;> exact absurd h2 (by decide)
theorem xl_fin {h0 : aH} (hL : LayM h0) {i z0 d j z m1 : Nat} {σ0 σ1 σ : List Nat} {acc tp : Option (Int32 × Sem)} {f : Sem} {h : aH} (hz : z0 ≤ i) (hσ : ¬ isTm (topN σ0) ∧ ¬ isPl (topN σ0)) (f0 : MdF 37 h0 h) (s : MdS n tb h j z d σ 0) (k0 : Kq z0 h0 h) (ha : AccM (gA h 22) (gA h 23) z0 m1 acc σ0 σ1) (ht : TpM (gA h 22) (gA h 23) m1 z tp f σ1 σ) (hb : z + pcn acc + pcn tp + i ≤ z0 + j) (hij : i < j) (np : ¬ isPl (tk n tb j)) (nt : ¬ isTm (tk n tb j)) (hq : OutM n tb h0 i z0 d σ0 37 (.inr (j, cmb acc (cmb tp f))) (SE n tb Q) Q) : VB n Q j h := by
  intro m hm h1 e1
  obtain ⟨jn, n2, _, _⟩ := MdS_n s
  have s1 : MdS n tb h1 j z d σ 0 := by rw [e1]; exact MdS_37 s
  have f1 : MdF 37 h h1 := by rw [e1]; exact MdF_I (by decide)
  have hL1 := MdF_L (MdF_L hL f0) f1
  have g1 : ∀ c, gA h1 c = gA h c := fun c => by rw [e1]; rfl
  refine sr_good s1.2.2.1 (aIf_f (by decide) ?_)
  show f_X11_stays SM 0 h1 (vK Q m)
  refine sr_here hL1 s1 (sr_isTimes (MdS_t s1) (fun y => absurd y nt) (fun _ => aIf_f (fun y => y rfl) ?_))
  refine sr_isPlus (MdS_t s1) (fun y => absurd y np) (fun _ => aIf_t rfl ?_)
  refine sr_sums1 (acc := acc) (tp := tp) (f := f) hL1 s1 (by rw [g1, g1]; exact ha) (by rw [g1, g1]; exact ht) hσ (by omega) (fun h2 z2 f2 s2 k2 c2 e2 => ?_)
  refine hq.1 j _ h2 z2 rfl (MdF_tr f0 (MdF_tr f1 (MdF_dn f2 (by decide)))) s2 (Kq_tr k0 (fun q hq => ?_) (Nat.le_refl _)) c2 hij (by omega) m hm
  have := k2 q hq
  rw [g1, g1] at this
  exact this
theorem xl {h0 : aH} (hL : LayM h0) {Fs : Nat → Rs} {i z0 d : Nat} {σ0 : List Nat} (hz : z0 ≤ i) (hσ : ¬ isTm (topN σ0) ∧ ¬ isPl (topN σ0)) (hF : ∀ h j z σ, LayM h → MdS n tb h j z d σ 0 → z ≤ j → OutM n tb h j z d σ 37 (Fs j) (VB n Q) Q → VF n Q j h) : ∀ (w j z m1 : Nat) (σ1 σ : List Nat) (acc tp : Option (Int32 × Sem)) (f : Sem) (h : aH), n ≤ w + j → MdF 37 h0 h → MdS n tb h j z d σ 0 → Kq z0 h0 h → AccM (gA h 22) (gA h 23) z0 m1 acc σ0 σ1 → TpM (gA h 22) (gA h 23) m1 z tp f σ1 σ → z + pcn acc + pcn tp + i ≤ z0 + j → i < j → OutM n tb h0 i z0 d σ0 37 (exlS n tb Fs w j acc (cmb tp f)) (SE n tb Q) Q → VB n Q j h := by
  intro w
  induction w with
  | zero =>
    intro j z m1 σ1 σ acc tp f h hw f0 s k0 ha ht hb hij hq
    have t0 : tk n tb j = 0 := by unfold tk; rw [if_neg (by omega)]
    exact xl_fin hL hz hσ f0 s k0 ha ht hb hij (by rw [t0]; decide) (by rw [t0]; decide) hq
  | succ w ih =>
    intro j z m1 σ1 σ acc tp f h hw f0 s k0 ha ht hb hij hq
    obtain ⟨jn, n2, sl, _⟩ := MdS_n s
    unfold exlS at hq
    by_cases cp : isPl (tk n tb j)
    · rw [if_pos cp] at hq
      have t1 : 1 ≤ tk n tb j := by rcases cp with c | c <;> rw [c] <;> decide
      have hj := tk_in t1
      intro m hm h1 e1
      have s1 : MdS n tb h1 j z d σ 0 := by rw [e1]; exact MdS_37 s
      have f1 : MdF 37 h h1 := by rw [e1]; exact MdF_I (by decide)
      have hL1 := MdF_L (MdF_L hL f0) f1
      have g1 : ∀ c, gA h1 c = gA h c := fun c => by rw [e1]; rfl
      have b1 : gI h1 0 37 = 0 := by rw [e1]; exact gI_y
      refine sr_good s1.2.2.1 (aIf_f (by decide) ?_)
      show f_X11_stays SM 0 h1 (vK Q m)
      refine sr_here hL1 s1 (sr_isTimes (MdS_t s1) (fun y => (pl_tm cp y).elim) (fun _ => aIf_f (fun y => y rfl) ?_))
      refine sr_isPlus (MdS_t s1) (fun _ => aIf_f (by decide) ?_) (fun y => absurd cp y)
      refine sr_isPlus (MdS_t s1) (fun _ => ?_) (fun y => absurd cp y)
      refine sr_sums1 (acc := acc) (tp := tp) (f := f) hL1 s1 (by rw [g1, g1]; exact ha) (by rw [g1, g1]; exact ht) hσ (by omega) (fun h2 z2 f2 s2 k2 c2 e2 => ?_)
      have hL2 := MdF_L hL1 f2
      refine sr_puts hL2 s2 hj (MdS_t s2) (fun h3 f3 s3 k3 => ?_)
      have hL3 := MdF_L hL2 f3
      have b3 : gI h3 0 37 = 0 := (f3.2.2 0 37 (by omega)).trans ((f2.2.2 0 37 (by omega)).trans b1)
      have F3 : MdF 37 h0 h3 := MdF_tr f0 (MdF_tr f1 (MdF_dn (MdF_tr f2 f3) (by decide)))
      have l2 := MCo_lt c2
      have z2n := (MdS_n s2).2.2.2
      refine aIf_f (by decide) (v7_go s3 b3 ?_ (by omega))
      refine hF h3 (j + 1) z2 _ hL3 s3 (by omega) ⟨fun j4 f4 h4 z4 e4 F4 s4 k4 c4 l4 b4 => ?_, fun e h4 e4 ne F4 s4 => ?_⟩
      · rw [e4] at hq
        have kk : ∀ q, q < z2 → gA h4 22 q = gA h2 22 q ∧ gA h4 23 q = gA h2 23 q := fun q hq => ⟨(k4 q hq).1.trans (k3 q (by omega)).1, (k4 q hq).2.trans (k3 q (by omega)).2⟩
        refine ih j4 z4 z2 (tk n tb j :: σ0) (tk n tb j :: σ0) (some (nI (tk n tb j), cmb acc (cmb tp f))) none f4 h4 (by omega) (MdF_tr F3 F4) s4 (Kq_tr k0 (fun q hq => ?_) (Nat.le_refl _)) ⟨MCo_eq c2 (fun k _ hk => kk k hk), _, cp, rfl, rfl⟩ ⟨c4, rfl⟩ ?_ (by omega) hq
        · have a := kk q (by omega)
          have b := k2 q hq
          rw [g1, g1] at b
          exact ⟨a.1.trans b.1, a.2.trans b.2⟩
        · show z4 + 1 + 0 + i ≤ z0 + j4
          omega
      · rw [e4] at hq
        exact hq.2 e h4 rfl ne (MdF_tr F3 F4) s4
    · rw [if_neg cp] at hq
      by_cases ct : isTm (tk n tb j)
      · rw [if_pos ct] at hq
        have t1 : 1 ≤ tk n tb j := by rcases ct with c | c | c <;> rw [c] <;> decide
        have hj := tk_in t1
        intro m hm h1 e1
        have s1 : MdS n tb h1 j z d σ 0 := by rw [e1]; exact MdS_37 s
        have f1 : MdF 37 h h1 := by rw [e1]; exact MdF_I (by decide)
        have hL1 := MdF_L (MdF_L hL f0) f1
        have g1 : ∀ c, gA h1 c = gA h c := fun c => by rw [e1]; rfl
        have b1 : gI h1 0 37 = 0 := by rw [e1]; exact gI_y
        refine sr_good s1.2.2.1 (aIf_f (by decide) ?_)
        show f_X11_stays SM 0 h1 (vK Q m)
        refine sr_here hL1 s1 (sr_isTimes (MdS_t s1) (fun _ => aIf_t (by decide) ?_) (fun y => absurd ct y))
        refine sr_isPlus (MdS_t s1) (fun y => absurd y cp) (fun _ => ?_)
        refine sr_sums0 (acc := acc) (tp := tp) (f := f) hL1 s1 (by rw [g1, g1]; exact ha) (by rw [g1, g1]; exact ht) hσ (by omega) (fun h2 z2 f2 s2 k2 c2 e2 => ?_)
        have hL2 := MdF_L hL1 f2
        refine sr_puts hL2 s2 hj (MdS_t s2) (fun h3 f3 s3 k3 => ?_)
        have hL3 := MdF_L hL2 f3
        have b3 : gI h3 0 37 = 0 := (f3.2.2 0 37 (by omega)).trans ((f2.2.2 0 37 (by omega)).trans b1)
        have F3 : MdF 37 h0 h3 := MdF_tr f0 (MdF_tr f1 (MdF_dn (MdF_tr f2 f3) (by decide)))
        have l2 := MCo_lt c2
        have la := AccM_le ha
        have z2n := (MdS_n s2).2.2.2
        refine aIf_f (by decide) (v7_go s3 b3 ?_ (by omega))
        refine hF h3 (j + 1) z2 _ hL3 s3 (by omega) ⟨fun j4 f4 h4 z4 e4 F4 s4 k4 c4 l4 b4 => ?_, fun e h4 e4 ne F4 s4 => ?_⟩
        · rw [e4] at hq
          have kk : ∀ q, q < z2 → gA h4 22 q = gA h2 22 q ∧ gA h4 23 q = gA h2 23 q := fun q hq => ⟨(k4 q hq).1.trans (k3 q (by omega)).1, (k4 q hq).2.trans (k3 q (by omega)).2⟩
          have km : ∀ q, q < m1 → gA h4 22 q = gA h 22 q ∧ gA h4 23 q = gA h 23 q := fun q hq => by
            have a := kk q (by omega)
            have b := k2 q hq
            rw [g1, g1] at b
            exact ⟨a.1.trans b.1, a.2.trans b.2⟩
          refine ih j4 z4 m1 σ1 (tk n tb j :: σ1) acc (some (nI (tk n tb j), cmb tp f)) f4 h4 (by omega) (MdF_tr F3 F4) s4 (Kq_tr k0 (fun q hq => km q (by omega)) (Nat.le_refl _)) (AccM_eq ha km) ⟨z2, MCo_eq c2 (fun k _ hk => kk k hk), c4, _, ct, rfl, rfl⟩ ?_ (by omega) hq
          show z4 + pcn acc + 1 + i ≤ z0 + j4
          omega
        · rw [e4] at hq
          exact hq.2 e h4 rfl ne (MdF_tr F3 F4) s4
      · rw [if_neg ct] at hq
        exact xl_fin hL hz hσ f0 s k0 ha ht hb hij cp ct hq
/-- a factor, expressions of less depth known -/
theorem fac {h : aH} (hL : LayM h) {E : Nat → Rs} {i z d : Nat} {σ : List Nat} (hd : d ≤ 6) (hz : z ≤ i) (s : MdS n tb h i z d σ 0) (hE : d < 6 → ∀ h i z σ, LayM h → MdS n tb h i z (d + 1) σ 0 → z ≤ i → ¬ isTm (topN σ) ∧ ¬ isPl (topN σ) → OutM n tb h i z (d + 1) σ 37 (E i) (SE n tb Q) Q → VF n Q i h) (hq : OutM n tb h i z d σ 37 (facS n tb E d i) (VB n Q) Q) : VF n Q i h := by
  intro m m0 hm hm0
  obtain ⟨b1, b2, b3, b4⟩ := MdS_n s
  obtain ⟨m0, rfl⟩ : ∃ k, m0 = k + 1 := ⟨m0 - 1, by omega⟩
  unfold f_X11_factor_0
  by_cases c91 : tk n tb i = 91
  · have hi : i < n := tk_in (n := n) (tb := tb) (by omega)
    have nd : ¬ isDg (tk n tb i) := by rw [c91]; decide
    unfold facS at hq
    rw [if_neg nd, if_pos c91] at hq
    refine sr_good s.2.2.1 (aIf_f (by decide) (sr_here hL s (aIf_f (fun y => y ((mtc s (by decide)).mpr c91)) ?_)))
    refine sr_opens hL s hi hd (fun c6 h2 f2 s2 k2 => ?_) (fun c6 h2 f2 s2 ne => ?_)
    · rw [if_neg (by omega)] at hq
      rw [c91] at s2
      have hL2 := MdF_L hL f2
      refine hE c6 h2 (i + 1) z (91 :: σ) hL2 s2 (by omega) ⟨show ¬ isTm 91 by decide, show ¬ isPl 91 by decide⟩ ⟨fun j t h3 z3 e3 F3 s3 k3 c3 l3 b3' => ?_, fun e h3 e3 ne F3 s3 => ?_⟩ m m0 (by omega) (by omega)
      · have hL3 := MdF_L hL2 F3
        have F := MdF_tr (MdF_dn f2 (by decide)) F3
        have jn := (MdS_n s3).1
        intro m' hm'
        by_cases c93 : tk n tb j = 93
        · have hj : j < n := tk_in (n := n) (tb := tb) (by omega)
          refine aIf_t ((mtc s3 (by decide)).mpr c93) (sr_top hL3 s3 (aIf_t rfl ?_))
          refine sr_pop s3 (fun h4 f4 s4 g4 => ?_)
          refine sr_shut s4 (fun h5 f5 s5 g5 => ?_)
          refine sr_up s5 hj (fun h6 f6 s6 g6 => ?_)
          intro h7 e7
          have s7 : MdS n tb h7 (j + 1) z3 d σ 0 := by rw [e7]; exact MdS_37 s6
          have f7 : MdF 37 h6 h7 := by rw [e7]; exact MdF_I (by decide)
          have g7 : ∀ c, gA h7 c = gA h3 c := fun c => by
            funext q
            rw [e7, gA_sI, g6, g5, g4]
          refine aIf_f (by decide) (v7_be s7 (by rw [e7]; exact gI_y) ?_ (by omega))
          refine hq.1 (j + 1) t h7 z3 ?_ (MdF_tr F (MdF_tr (MdF_dn (MdF_tr f4 (MdF_tr f5 f6)) (by decide)) f7)) s7 (fun q hq => ?_) ?_ (by omega) (by omega)
          · rw [e3]
            unfold thenS
            exact if_pos c93
          · have a := k3 q hq
            have b := k2 q (by omega)
            rw [g7, g7]
            exact ⟨a.1.trans b.1, a.2.trans b.2⟩
          · rw [g7, g7]
            exact c3
        · refine aIf_f (fun y => c93 ((mtc s3 (by decide)).mp y)) (aIf_t rfl ?_)
          obtain ⟨m', rfl⟩ : ∃ k, m' = k + 1 := ⟨m' - 1, by omega⟩
          refine aIf_t rfl (sr_good s3.2.2.1 (aIf_f (by decide) (sr_top hL3 s3 (aIf_f (fun y => y rfl) ?_))))
          refine sr_wrongsP (c := 1) s3 (by decide) (by decide) (fun h4 f4 s4 ne => ?_)
          refine hq.2 _ h4 ?_ ne (MdF_tr F (MdF_dn f4 (by decide))) s4.2.2.1
          rw [e3]
          unfold thenS
          exact if_neg c93
      · exact hq.2 e h3 (by rw [e3]; rfl) ne (MdF_tr (MdF_dn f2 (by decide)) F3) s3
    · rw [if_pos (by omega)] at hq
      obtain ⟨m0, rfl⟩ : ∃ k, m0 = k + 1 := ⟨m0 - 1, by omega⟩
      unfold f_X11_factor_0
      refine sr_bad s2 (ne_of ne) (aIf_t rfl (sr_bad s2 (ne_of ne) (aIf_f (fun y => y rfl) ?_)))
      exact v29_F s2 (ne_of ne) (fun h3 f3 s3 => hq.2 _ h3 rfl ne (MdF_tr (MdF_dn f2 (by decide)) f3) s3) (by omega)
  · refine sr_good s.2.2.1 (aIf_f (by decide) (sr_here hL s (aIf_t (fun y => c91 ((mtc s (by decide)).mp y)) ?_)))
    refine fc_23 hL s hz c91 (E := E) ⟨fun j f h' z' e1 F1 s1 k1 c1 l1 b1 => ?_, fun e h' e1 ne F1 s1 => ?_⟩
    · exact hq.1 j f h' z' e1 (MdF_dn F1 (by decide)) s1 k1 c1 l1 b1 m (by omega)
    · exact v29_F s1 (ne_of ne) (fun h3 f3 s3 => hq.2 e h3 e1 ne (MdF_tr (MdF_dn F1 (by decide)) f3) s3) (by omega)
/-- EXPRESSION -/
theorem sr_ex : ∀ (r d : Nat), d + r + 1 = 7 → ∀ (h : aH) (i z : Nat) (σ : List Nat), LayM h → MdS n tb h i z d σ 0 → z ≤ i → ¬ isTm (topN σ) ∧ ¬ isPl (topN σ) → OutM n tb h i z d σ 37 (exS n tb (r + 1) d i) (SE n tb Q) Q → VF n Q i h := by
  intro r
  induction r with
  | zero =>
    intro d hd h i z σ hL s hz hσ hq
    unfold exS at hq
    have hF : ∀ h j z σ, LayM h → MdS n tb h j z d σ 0 → z ≤ j → OutM n tb h j z d σ 37 (facS n tb (exS n tb 0 (d + 1)) d j) (VB n Q) Q → VF n Q j h := fun h j z σ hL s hz hq => fac hL (by omega) hz s (fun c => absurd c (by omega)) hq
    refine hF h i z σ hL s hz ⟨fun j f h1 z1 e1 F1 s1 k1 c1 l1 b1 => ?_, fun e h1 e1 ne F1 s1 => ?_⟩
    · rw [e1] at hq
      refine xl hL hz hσ hF n j z1 z σ σ none none f h1 (by omega) F1 s1 k1 ⟨rfl, rfl⟩ ⟨c1, rfl⟩ ?_ l1 hq
      show z1 + 0 + 0 + i ≤ z + j
      omega
    · rw [e1] at hq
      exact hq.2 e h1 rfl ne F1 s1
  | succ r ih =>
    intro d hd h i z σ hL s hz hσ hq
    unfold exS at hq
    have hF : ∀ h j z σ, LayM h → MdS n tb h j z d σ 0 → z ≤ j → OutM n tb h j z d σ 37 (facS n tb (exS n tb (r + 1) (d + 1)) d j) (VB n Q) Q → VF n Q j h := fun h j z σ hL s hz hq => fac hL (by omega) hz s (fun _ h i z σ hL s hz hσ hq => ih (d + 1) (by omega) h i z σ hL s hz hσ hq) hq
    refine hF h i z σ hL s hz ⟨fun j f h1 z1 e1 F1 s1 k1 c1 l1 b1 => ?_, fun e h1 e1 ne F1 s1 => ?_⟩
    · rw [e1] at hq
      refine xl hL hz hσ hF n j z1 z σ σ none none f h1 (by omega) F1 s1 k1 ⟨rfl, rfl⟩ ⟨c1, rfl⟩ ?_ l1 hq
      show z1 + 0 + 0 + i ≤ z + j
      omega
    · rw [e1] at hq
      exact hq.2 e h1 rfl ne F1 s1
/-- VALUE -/
theorem sr_value {h : aH} (hL : LayM h) {i z d : Nat} {σ : List Nat} (hd : d ≤ 6) (s : MdS n tb h i z d σ 0) (hz : z ≤ i) (hσ : ¬ isTm (topN σ) ∧ ¬ isPl (topN σ) ∧ ¬ topN σ = 91) (h1 : ∀ j f h' z', exprS n tb d i = .inr (j, f) → ¬ tk n tb j = 93 → MdF 37 h h' → MdS n tb h' j z' d σ 0 → Kq z h h' → MCo (gA h' 22) (gA h' 23) z z' f → i < j → z' + i ≤ z + j → Q h') (h0 : ∀ e h', exprS n tb d i = .inl e → ¬ 0 ≤ e → MdF 37 h h' → gI h' 0 31 = e → Q h') (h2 : ∀ j f h', exprS n tb d i = .inr (j, f) → tk n tb j = 93 → ¬ 0 ≤ er 1 j → MdF 37 h h' → gI h' 0 31 = er 1 j → Q h') : f_X11_value SM 0 h Q := by
  intro h3 e3
  have s3 : MdS n tb h3 i z d σ 0 := by rw [e3]; exact MdS_37 s
  have f3 : MdF 37 h h3 := by rw [e3]; exact MdF_I (by decide)
  have g3 : ∀ c, gA h3 c = gA h c := fun c => by rw [e3]; rfl
  have hL3 := MdF_L hL f3
  obtain ⟨b1, b2, b3, b4⟩ := MdS_n s
  refine ⟨n + 3, v7_go (n := n) s3 (by rw [e3]; exact gI_y) ?_ (by omega)⟩
  have ee : exprS n tb d i = exS n tb (6 - d + 1) d i := by
    unfold exprS
    rw [show 7 - d = 6 - d + 1 by omega]
  rw [ee] at h1 h0 h2
  refine sr_ex (6 - d) d (by omega) h3 i z σ hL3 s3 hz ⟨hσ.1, hσ.2.1⟩ ⟨fun j f h4 z4 e4 F4 s4 k4 c4 l4 b4 => ?_, fun e h4 e4 ne F4 s4 => h0 e h4 e4 ne (MdF_tr f3 F4) s4⟩
  have hL4 := MdF_L hL3 F4
  have jn := (MdS_n s4).1
  intro m hm
  have tn : ¬ nI (topN σ) = 91 := fun y => hσ.2.2 ((nI_eq (a := topN σ) (b := 91) (by have := Stk_top s.2.2.2.2.2.2.1; omega) (by decide)).mp y)
  by_cases c93 : tk n tb j = 93
  · refine aIf_t ((mtc s4 (by decide)).mpr c93) (sr_top hL4 s4 (aIf_f tn ?_))
    refine sr_wrongsP (c := 1) s4 (by decide) (by decide) (fun h5 f5 s5 ne => ?_)
    refine aIf_t rfl (v7_F s5.2.2.1 (ne_of ne) ?_ (by omega))
    exact h2 j f h5 e4 c93 ne (MdF_tr f3 (MdF_tr F4 (MdF_dn f5 (by decide)))) s5.2.2.1
  · refine aIf_f (fun y => c93 ((mtc s4 (by decide)).mp y)) (aIf_t rfl ?_)
    obtain ⟨m, rfl⟩ : ∃ k, m = k + 1 := ⟨m - 1, by omega⟩
    refine aIf_t rfl (sr_good s4.2.2.1 (aIf_f (by decide) (sr_top hL4 s4 (aIf_t tn ?_))))
    refine h1 j f h4 z4 e4 c93 (MdF_tr f3 F4) s4 (fun q hq => ?_) c4 l4 b4
    have := k4 q hq
    rw [g3, g3] at this
    exact this
end LmX
