/-! ===== LAW: the reference reads a condition ===== -/
def cA (Q : aH → Prop) (m : Nat) (h12 : aH) : Prop := f_X11_isGood SM 0 h12 (fun r14 h13 => aIf (r14 = 0) (f_X11_condition_37 SM 0 Q m 1 h13) (f_X11_goesBehind SM 0 h13 (fun r17 h16 => f_X11_condition_37 SM 0 Q m r17 h16)))
def PF (n : Nat) (Q : aH → Prop) (i : Nat) (h : aH) : Prop := ∀ m m0, n + 2 ≤ m + i → n + 2 ≤ m0 + i → f_X11_pieceOfC_0 SM 0 (cA Q m) m0 h
def GB (n : Nat) (Q : aH → Prop) (j : Nat) (h : aH) : Prop := ∀ m, n + 2 ≤ m + j → f_X11_goesBehind SM 0 h (fun r17 h16 => f_X11_condition_37 SM 0 Q m r17 h16)
def PE (n : Nat) (Q : aH → Prop) (j L : Nat) (h : aH) : Prop := ∀ C : aH → Prop, (∀ h', gI h' 0 31 = 0 → gI h' 0 36 = 0 → GB n Q j h' → C h') → ∀ m0, L < m0 → f_X11_ends_0 SM 0 C m0 h
def gbT (K : Int32 → aH → Prop) (h11 : aH) : Prop := ∀ v12 : Int32, v12 = (gI h11 0 35) → ∀ h13 : aH, h13 = sI h11 0 35 (v12 - 1) → ∀ v14 : Int32, v14 = (gI h13 0 34) → ∀ h15 : aH, h15 = sI h13 0 34 (v14 - 1) → ∀ v16 : Int32, v16 = (gI h15 0 29) → ∀ h17 : aH, h17 = sI h15 0 29 (v16 + 1) → ∀ v18 : Int32, v18 = (gI h17 0 35) → aIf (¬ v18 = 0) (∀ h20 : aH, h20 = sI h17 0 36 0 → ∀ v21 : Int32, v21 = (gI h20 0 36) → aIf (¬ v21 = 0) (K 0 h20) (f_X11_ends SM 0 h20 (fun h23 => K 0 h23))) (∀ h24 : aH, h24 = sI h17 0 36 1 → ∀ v25 : Int32, v25 = (gI h24 0 36) → aIf (¬ v25 = 0) (K 0 h24) (f_X11_ends SM 0 h24 (fun h27 => K 0 h27)))
def GT (n : Nat) (Q : aH → Prop) (j : Nat) (h : aH) : Prop := ∀ m, n + 2 ≤ m + j → gbT (fun r17 h16 => f_X11_condition_37 SM 0 Q m r17 h16) h
def okT (σ : List Nat) : Prop := topN σ = 40 ∨ topN σ = 33 ∨ topN σ = 38 ∨ topN σ = 124
def OutP (n : Nat) (tb : Nat → Nat) (h : aH) (i z d : Nat) (σ : List Nat) (R : Rs) (Q : aH → Prop) : Prop := OutM n tb h i z d σ 37 R (fun j h => PE n Q j σ.length h) Q ∧ ∀ j f h', R = .inr (j, f) → tk n tb j = 93 → ¬ 0 ≤ er 1 j → MdF 37 h h' → gI h' 0 31 = er 1 j → Q h'
def OutC (n : Nat) (tb : Nat → Nat) (h : aH) (i z d : Nat) (σ : List Nat) (R : Rs) (Q : aH → Prop) : Prop := (∀ j f h' z', R = .inr (j, f) → tk n tb j = 41 → MdF 37 h h' → MdS n tb h' j z' d σ 0 → Kq z h h' → MCo (gA h' 22) (gA h' 23) z z' f → i < j → z' + i ≤ z + j → GT n Q j h') ∧ ∀ e h', thenS n tb 41 R = .inl e → ¬ 0 ≤ e → MdF 37 h h' → gI h' 0 31 = e → Q h'
section LmC
variable {n : Nat} {tb : Nat → Nat} {Q : aH → Prop}
theorem c37_F {h : aH} {e : Int32} (s : gI h 0 31 = e) (he : ¬ e = 0) (hq : Q h) {m : Nat} (hm : 1 ≤ m) {x : Int32} : f_X11_condition_37 SM 0 Q m x h := by
  obtain ⟨m, rfl⟩ : ∃ k, m = k + 1 := ⟨m - 1, by omega⟩
  unfold f_X11_condition_37
  exact sr_bad s he (aIf_t rfl hq)
theorem cA_F {h : aH} {e : Int32} (s : gI h 0 31 = e) (he : ¬ e = 0) (hq : Q h) {m : Nat} (hm : 1 ≤ m) : cA Q m h := by
  unfold cA
  exact sr_bad s he (aIf_t rfl (c37_F s he hq hm))
theorem c37_go {h : aH} {i : Nat} (s : gI h 0 31 = 0) (hv : gI h 0 36 = 0) (hp : PF n Q i h) {m : Nat} (hi : i ≤ n) (hm : n + 3 ≤ m + i) : f_X11_condition_37 SM 0 Q m 1 h := by
  obtain ⟨m, rfl⟩ : ∃ k, m = k + 1 := ⟨m - 1, by omega⟩
  unfold f_X11_condition_37
  refine sr_good s (aIf_f (by decide) ?_)
  intro v ev
  rw [hv] at ev
  subst ev
  exact aIf_f (fun y => y rfl) (aIf_f (by decide) ⟨n + 2, hp m (n + 2) (by omega) (by omega)⟩)
theorem c37_be {h : aH} {j : Nat} (s : gI h 0 31 = 0) (hv : gI h 0 36 = 0) (hp : GB n Q j h) {m : Nat} (hj : j ≤ n) (hm : n + 3 ≤ m + j) : f_X11_condition_37 SM 0 Q m 0 h := by
  obtain ⟨m, rfl⟩ : ∃ k, m = k + 1 := ⟨m - 1, by omega⟩
  unfold f_X11_condition_37
  refine sr_good s (aIf_f (by decide) ?_)
  intro v ev
  rw [hv] at ev
  subst ev
  exact aIf_f (fun y => y rfl) (aIf_t rfl (sr_good s (aIf_f (by decide) (hp m (by omega)))))
theorem PE_GB {h : aH} {j z d L : Nat} {σ : List Nat} (hL : LayM h) (s : MdS n tb h j z d σ 0) (hv : gI h 0 36 = 0) (ht : ¬ topN σ = 33) (hg : GB n Q j h) : PE n Q j L h := by
  intro C hC m0 hm
  obtain ⟨m0, rfl⟩ : ∃ k, m0 = k + 1 := ⟨m0 - 1, by omega⟩
  have tn : ¬ nI (topN σ) = 33 := fun y => ht ((nI_eq (a := topN σ) (b := 33) (by have := Stk_top s.2.2.2.2.2.2.1; omega) (by decide)).mp y)
  unfold f_X11_ends_0
  exact sr_top hL s (aIf_t tn (hC h s.2.2.1 hv hg))
theorem PE_neg {h : aH} {j z d : Nat} {σ : List Nat} (hL : LayM h) (s : MdS n tb h j z (d + 1) (33 :: σ) 0) (hz : z < 200) (hp : ∀ h', MdF 38 h h' → MdS n tb h' j (z + 1) d σ 0 → Kq z h h' → gA h' 22 z = 2 → PE n Q j σ.length h') : PE n Q j (33 :: σ).length h := by
  intro C hC m0 hm
  simp only [List.length_cons] at hm
  obtain ⟨m0, rfl⟩ : ∃ k, m0 = k + 1 := ⟨m0 - 1, by omega⟩
  unfold f_X11_ends_0
  refine sr_top hL s (aIf_f (fun y => y rfl) ?_)
  refine sr_emit hL s hz (fun h2 f2 s2 k2 o2 a2 => ?_)
  refine sr_pop s2 (fun h3 f3 s3 g3 => ?_)
  refine sr_shut s3 (fun h4 f4 s4 g4 => ?_)
  refine hp h4 (MdF_tr f2 (MdF_tr f3 f4)) s4 (fun q hq => ?_) ?_ C hC m0 (by omega)
  · rw [g4, g4, g3, g3]
    exact k2 q hq
  · rw [g4, g3]
    exact o2
theorem cd_fin {h0 : aH} (hL : LayM h0) {i z0 d j z m1 : Nat} {σ0 σ1 σ : List Nat} {acc tp : Option Sem} {f : Sem} {h : aH} (hz : z0 ≤ i) (hσ : topN σ0 = 40) (f0 : MdF 37 h0 h) (s : MdS n tb h j z d σ 0) (k0 : Kq z0 h0 h) (ha : AccO (gA h 22) (gA h 23) z0 m1 acc σ0 σ1) (ht : TpA (gA h 22) (gA h 23) m1 z tp f σ1 σ) (hb : z + pcO acc + pcO tp + i ≤ z0 + j) (hij : i < j) (n38 : ¬ tk n tb j = 38) (n124 : ¬ tk n tb j = 124) (hq : OutC n tb h0 i z0 d σ0 (.inr (j, cmO acc (cmA tp f))) Q) : GB n Q j h := by
  intro m hm
  obtain ⟨jn, n2, _, _⟩ := MdS_n s
  have hL1 := MdF_L hL f0
  unfold f_X11_goesBehind
  refine sr_here hL1 s (aIf_f (fun y => n38 ((mtc s (by decide)).mp y)) (aIf_t (fun y => n124 ((mtc s (by decide)).mp y)) ?_))
  by_cases c41 : tk n tb j = 41
  · refine aIf_t ((mtc s (by decide)).mpr c41) ?_
    refine sr_joins1 (acc := acc) (tp := tp) (f := f) hL1 s ha ht (by rw [hσ]; decide) (by omega) (fun h2 z2 f2 s2 k2 c2 e2 => ?_)
    exact hq.1 j _ h2 z2 rfl c41 (MdF_tr f0 (MdF_dn f2 (by decide))) s2 (Kq_tr k0 k2 (Nat.le_refl _)) c2 hij (by omega) m hm
  · refine aIf_f (fun y => c41 ((mtc s (by decide)).mp y)) ?_
    refine sr_wrongsP (c := 1) s (by decide) (by decide) (fun h2 f2 s2 ne => ?_)
    refine c37_F s2.2.2.1 (ne_of ne) (hq.2 _ h2 ?_ ne (MdF_tr f0 (MdF_dn f2 (by decide))) s2.2.2.1) (by omega)
    unfold thenS
    exact if_neg c41
theorem cdl_93 {Fs : Nat → Rs} {w j : Nat} {o : Option Sem} {a : Sem} (h : tk n tb j = 93) : cdlS n tb Fs w j o a = .inr (j, cmO o a) := by
  cases w with
  | zero => rfl
  | succ w =>
    unfold cdlS
    rw [h, if_neg (by decide), if_neg (by decide)]
theorem cdl {h0 : aH} (hL : LayM h0) (hv0 : gI h0 0 36 = 0) {Fs : Nat → Rs} {i z0 d : Nat} {σ0 : List Nat} (hz : z0 ≤ i) (hσ : topN σ0 = 40) (hB : ∀ i j f, Fs i = .inr (j, f) → isB f) (hP : ∀ h j z σ, LayM h → gI h 0 36 = 0 → MdS n tb h j z d σ 0 → z ≤ j → okT σ → OutP n tb h j z d σ (Fs j) Q → PF n Q j h) : ∀ (w j z m1 : Nat) (σ1 σ : List Nat) (acc tp : Option Sem) (f : Sem) (h : aH), n ≤ w + j → MdF 37 h0 h → MdS n tb h j z d σ 0 → Kq z0 h0 h → AccO (gA h 22) (gA h 23) z0 m1 acc σ0 σ1 → TpA (gA h 22) (gA h 23) m1 z tp f σ1 σ → isB f → z + pcO acc + pcO tp + i ≤ z0 + j → i < j → OutC n tb h0 i z0 d σ0 (cdlS n tb Fs w j acc (cmA tp f)) Q → GB n Q j h := by
  intro w
  induction w with
  | zero =>
    intro j z m1 σ1 σ acc tp f h hw f0 s k0 ha ht hf hb hij hq
    have t0 : tk n tb j = 0 := by unfold tk; rw [if_neg (by omega)]
    exact cd_fin hL hz hσ f0 s k0 ha ht hb hij (by rw [t0]; decide) (by rw [t0]; decide) hq
  | succ w ih =>
    intro j z m1 σ1 σ acc tp f h hw f0 s k0 ha ht hf hb hij hq
    obtain ⟨jn, n2, sl, _⟩ := MdS_n s
    have hL1 := MdF_L hL f0
    have hv : gI h 0 36 = 0 := (f0.2.2 0 36 (by omega)).trans hv0
    unfold cdlS at hq
    by_cases c38 : tk n tb j = 38
    · rw [if_pos c38] at hq
      have hj : j < n := tk_in (n := n) (tb := tb) (by omega)
      intro m hm
      unfold f_X11_goesBehind
      refine sr_here hL1 s (aIf_t ((mtc s (by decide)).mpr c38) ?_)
      unfold f_X11_goesBehind_17
      refine aIf_t (fun y => absurd (c38.symm.trans ((mtc s (c := 124) (by decide)).mp y)) (by decide)) ?_
      refine sr_joins0 (acc := acc) (tp := tp) (f := f) hL1 s ha ht (by rw [hσ]; decide) (by omega) (fun h2 z2 f2 s2 k2 c2 e2 => ?_)
      have hL2 := MdF_L hL1 f2
      refine sr_puts hL2 s2 hj (MdS_t s2) (fun h3 f3 s3 k3 => ?_)
      rw [c38] at s3
      have hL3 := MdF_L hL2 f3
      have F3 : MdF 37 h0 h3 := MdF_tr f0 (MdF_dn (MdF_tr f2 f3) (by decide))
      have hv3 : gI h3 0 36 = 0 := (F3.2.2 0 36 (by omega)).trans hv0
      have l2 := MCo_lt c2
      have la := AccO_le ha
      have z2n := (MdS_n s2).2.2.2
      refine c37_go s3.2.2.1 hv3 ?_ (MdS_n s3).1 (by omega)
      refine hP h3 (j + 1) z2 _ hL3 hv3 s3 (by omega) (Or.inr (Or.inr (Or.inl rfl))) ⟨⟨fun j4 f4 h4 z4 e4 F4 s4 k4 c4 l4 b4 => ?_, fun e h4 e4 ne F4 s4 => ?_⟩, fun j4 f4 h4 e4 c93 ne F4 s4 => ?_⟩
      · rw [e4] at hq
        have hv4 : gI h4 0 36 = 0 := (F4.2.2 0 36 (by omega)).trans hv3
        refine PE_GB (MdF_L hL3 F4) s4 hv4 (show ¬ 38 = 33 by decide) ?_
        have kk : ∀ q, q < z2 → gA h4 22 q = gA h2 22 q ∧ gA h4 23 q = gA h2 23 q := fun q hq => ⟨(k4 q hq).1.trans (k3 q (by omega)).1, (k4 q hq).2.trans (k3 q (by omega)).2⟩
        have km : ∀ q, q < m1 → gA h4 22 q = gA h 22 q ∧ gA h4 23 q = gA h 23 q := fun q hq => ⟨(kk q (by omega)).1.trans (k2 q hq).1, (kk q (by omega)).2.trans (k2 q hq).2⟩
        refine ih j4 z4 m1 σ1 (38 :: σ1) acc (some (cmA tp f)) f4 h4 (by omega) (MdF_tr F3 F4) s4 (Kq_tr k0 (fun q hq => km q (by omega)) (Nat.le_refl _)) (AccO_eq ha km) ⟨z2, MCo_eq c2 (fun k _ hk => kk k hk), cmA_B ht hf, c4, rfl⟩ (hB _ _ _ e4) ?_ (by omega) hq
        show z4 + pcO acc + 1 + i ≤ z0 + j4
        omega
      · rw [e4] at hq
        exact hq.2 e h4 rfl ne (MdF_tr F3 F4) s4
      · rw [e4] at hq
        refine hq.2 _ h4 ?_ ne (MdF_tr F3 F4) s4
        show thenS n tb 41 (cdlS n tb Fs w j4 acc (sAnd (cmA tp f) f4)) = _
        rw [cdl_93 c93]
        unfold thenS
        exact if_neg (by rw [c93]; decide)
    · rw [if_neg c38] at hq
      by_cases c124 : tk n tb j = 124
      · rw [if_pos c124] at hq
        have hj : j < n := tk_in (n := n) (tb := tb) (by omega)
        intro m hm
        unfold f_X11_goesBehind
        refine sr_here hL1 s (aIf_f (fun y => c38 ((mtc s (by decide)).mp y)) (aIf_f (fun y => y ((mtc s (by decide)).mpr c124)) ?_))
        unfold f_X11_goesBehind_17
        refine aIf_f (fun y => y ((mtc s (by decide)).mpr c124)) ?_
        refine sr_joins1 (acc := acc) (tp := tp) (f := f) hL1 s ha ht (by rw [hσ]; decide) (by omega) (fun h2 z2 f2 s2 k2 c2 e2 => ?_)
        have hL2 := MdF_L hL1 f2
        refine sr_puts hL2 s2 hj (MdS_t s2) (fun h3 f3 s3 k3 => ?_)
        rw [c124] at s3
        have hL3 := MdF_L hL2 f3
        have F3 : MdF 37 h0 h3 := MdF_tr f0 (MdF_dn (MdF_tr f2 f3) (by decide))
        have hv3 : gI h3 0 36 = 0 := (F3.2.2 0 36 (by omega)).trans hv0
        have l2 := MCo_lt c2
        have z2n := (MdS_n s2).2.2.2
        refine c37_go s3.2.2.1 hv3 ?_ (MdS_n s3).1 (by omega)
        refine hP h3 (j + 1) z2 _ hL3 hv3 s3 (by omega) (Or.inr (Or.inr (Or.inr rfl))) ⟨⟨fun j4 f4 h4 z4 e4 F4 s4 k4 c4 l4 b4 => ?_, fun e h4 e4 ne F4 s4 => ?_⟩, fun j4 f4 h4 e4 c93 ne F4 s4 => ?_⟩
        · rw [e4] at hq
          have hv4 : gI h4 0 36 = 0 := (F4.2.2 0 36 (by omega)).trans hv3
          refine PE_GB (MdF_L hL3 F4) s4 hv4 (show ¬ 124 = 33 by decide) ?_
          have kk : ∀ q, q < z2 → gA h4 22 q = gA h2 22 q ∧ gA h4 23 q = gA h2 23 q := fun q hq => ⟨(k4 q hq).1.trans (k3 q (by omega)).1, (k4 q hq).2.trans (k3 q (by omega)).2⟩
          refine ih j4 z4 z2 (124 :: σ0) (124 :: σ0) (some (cmO acc (cmA tp f))) none f4 h4 (by omega) (MdF_tr F3 F4) s4 (Kq_tr k0 (fun q hq => ⟨(kk q (by omega)).1.trans (k2 q hq).1, (kk q (by omega)).2.trans (k2 q hq).2⟩) (Nat.le_refl _)) ⟨MCo_eq c2 (fun k _ hk => kk k hk), cmO_Bs ha (cmA_B ht hf), rfl⟩ ⟨c4, rfl⟩ (hB _ _ _ e4) ?_ (by omega) hq
          show z4 + 1 + 0 + i ≤ z0 + j4
          omega
        · rw [e4] at hq
          exact hq.2 e h4 rfl ne (MdF_tr F3 F4) s4
        · rw [e4] at hq
          refine hq.2 _ h4 ?_ ne (MdF_tr F3 F4) s4
          show thenS n tb 41 (cdlS n tb Fs w j4 (some (cmO acc (cmA tp f))) f4) = _
          rw [cdl_93 c93]
          unfold thenS
          exact if_neg (by rw [c93]; decide)
      · rw [if_neg c124] at hq
        exact cd_fin hL hz hσ f0 s k0 ha ht hb hij c38 c124 hq
end LmC
