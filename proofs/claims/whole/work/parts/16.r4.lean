/-! ===== GROUPS walk; a MINUTE goes by ===== -/
def sgN (a b : Nat) : Int := if a < b then 1 else if b < a then -1 else 0
def stpL (L : Lw) (g : Nat) (dx dy : Int) : Option Lw := match besN (sqG L g) dx dy with
  | none => none
  | some t => if L 1 t = (-1) then some (uL L 7 g (nI t)) else none
def goL (L : Lw) (g to : Nat) : Lw := if 2 ≤ wayN (sqG L g) to then
    (match (if sgN (sqG L g % 16) (to % 16) = 0 then none else stpL L g (sgN (sqG L g % 16) (to % 16)) 0) with
    | some L' => L'
    | none => match (if sgN (sqG L g / 16) (to / 16) = 0 then none else stpL L g 0 (sgN (sqG L g / 16) (to / 16))) with
      | some L' => L'
      | none => L)
  else L
def walkL (F : LF) (hn gn g : Nat) (L : Lw) : Lw := if L 7 g = (-2) then L else if strL F L hn gn g = (-1) then L else goL L g (L 2 (strL F L hn gn g).toNatClampNeg).toNatClampNeg
theorem sgN_in (a b : Nat) : -1 ≤ sgN a b ∧ sgN a b ≤ 1 := by
  unfold sgN
  split
  · omega
  · split <;> omega
theorem sgN_z {a b : Nat} : iI (sgN a b) = 0 ↔ sgN a b = 0 := by
  have := sgN_in a b
  exact iI_z (by omega) (by omega)
theorem sp_xOf {S : aS} {s : Nat} (hs : s < 256) {h : aH} {Q : Int32 → aH → Prop} (hq : Q (nI (s % 16)) h) : f_X1_xOf S (nI s) h Q := by
  rw [← nI_x hs] at hq
  exact hq
theorem sp_yOf {S : aS} {s : Nat} (hs : s < 256) {h : aH} {Q : Int32 → aH → Prop} (hq : Q (nI (s / 16)) h) : f_X1_yOf S (nI s) h Q := by
  rw [← nI_y hs] at hq
  exact hq
theorem cmp_sg {S : aS} {a b : Nat} (ha : a < 1000) (hb : b < 1000) {h : aH} {Q : Int32 → aH → Prop} (hq : Q (iI (sgN a b)) h) : f_J6_compare_7cf53 S (nI b) (nI a) h Q := by
  unfold sgN at hq
  refine aIf_i (fun c => ?_) (fun c => ?_)
  · have c2 := (nI_leI (by omega) (by omega)).mp c
    refine aIf_i (fun e => ?_) (fun e => ?_)
    · have : a ≠ b := fun z => e (by rw [z])
      rw [if_pos (by omega)] at hq
      exact hq
    · have : b = a := (nI_eq (by omega) (by omega)).mp (Classical.not_not.mp e)
      rw [if_neg (by omega), if_neg (by omega)] at hq
      exact hq
  · have c2 : ¬ a ≤ b := fun z => c ((nI_leI (by omega) (by omega)).mpr z)
    rw [if_neg (by omega), if_pos (by omega)] at hq
    exact hq
theorem sign_sg {S : aS} {a b : Nat} (ha : a < 1000) (hb : b < 1000) {h : aH} {Q : Int32 → aH → Prop} (hq : Q (iI (sgN a b)) h) : f_X11_signOf S (nI b - nI a) h Q := by
  have e : nI b - nI a = iI ((b : Int) - a) := iI_sub b a
  rw [e]
  have z0 : (0 : Int32) = iI 0 := rfl
  unfold sgN at hq
  refine aIf_i (fun c => ?_) (fun c => ?_)
  · rw [z0, iI_le (by omega) (by omega) (by omega) (by omega)] at c
    refine aIf_i (fun e => ?_) (fun e => ?_)
    · rw [z0, iI_le (by omega) (by omega) (by omega) (by omega)] at e
      rw [if_neg (by omega), if_neg (by omega)] at hq
      exact hq
    · rw [z0, iI_le (by omega) (by omega) (by omega) (by omega)] at e
      rw [if_pos (by omega)] at hq
      exact hq
  · rw [z0, iI_le (by omega) (by omega) (by omega) (by omega)] at c
    rw [if_neg (by omega), if_pos (by omega)] at hq
    exact hq
/-- towards a square of the lake no step leaves it -/
theorem bes_x {s t : Nat} (hs : s < 256) (ht : t < 256) (h : ¬ sgN (s % 16) (t % 16) = 0) : ∃ u, u < 256 ∧ besN s (sgN (s % 16) (t % 16)) 0 = some u ∧ nI s + iI (sgN (s % 16) (t % 16)) = nI u := by
  have b : 0 ≤ ((s % 16 : Nat) : Int) + sgN (s % 16) (t % 16) ∧ ((s % 16 : Nat) : Int) + sgN (s % 16) (t % 16) < 16 ∧ 0 ≤ ((s / 16 : Nat) : Int) + 0 ∧ ((s / 16 : Nat) : Int) + 0 < 16 := by
    unfold sgN at h ⊢
    split
    · omega
    · split <;> omega
  refine ⟨_, ?_, if_pos b, ?_⟩
  · omega
  · rw [← iI_nat, ← iI_nat, iI_add]
    congr 1
    omega
theorem bes_y {s t : Nat} (hs : s < 256) (ht : t < 256) (h : ¬ sgN (s / 16) (t / 16) = 0) : ∃ u, u < 256 ∧ besN s 0 (sgN (s / 16) (t / 16)) = some u ∧ nI s + 16 * iI (sgN (s / 16) (t / 16)) = nI u := by
  have b : 0 ≤ ((s % 16 : Nat) : Int) + 0 ∧ ((s % 16 : Nat) : Int) + 0 < 16 ∧ 0 ≤ ((s / 16 : Nat) : Int) + sgN (s / 16) (t / 16) ∧ ((s / 16 : Nat) : Int) + sgN (s / 16) (t / 16) < 16 := by
    unfold sgN at h ⊢
    split
    · omega
    · split <;> omega
  refine ⟨_, ?_, if_pos b, ?_⟩
  · omega
  · rw [show (16 : Int32) = iI 16 from rfl, iI_mul, ← iI_nat, ← iI_nat, iI_add]
    congr 1
    omega
theorem WF_step {L : Lw} {hn gn g t : Nat} (hW : WF L hn gn) (ht : t < 256) (e1 : L 1 t = (-1)) : WF (uL L 7 g (nI t)) hn gn := by
  have u : ∀ f i, f ≠ 7 → uL L 7 g (nI t) f i = L f i := fun f i hf => uL_n (fun z => hf z.1)
  obtain ⟨w1, w2, w3, w4, w5, w6, w7, w8, w9, w10⟩ := hW
  refine ⟨w1, w2, by rw [u 9 0 (by decide)]; exact w3, by rw [u 9 1 (by decide)]; exact w4, fun i hi => by rw [u 0 i (by decide)]; exact w5 i hi, fun i hi => ?_, fun m hm => by rw [u 2 m (by decide)]; exact w7 m hm, fun m hm => by rw [u 3 m (by decide), u 4 m (by decide), u 5 m (by decide), u 6 m (by decide)]; exact w8 m hm, fun g' hg1 => ?_, by rw [u 9 3 (by decide)]; exact w10⟩
  · rw [u 1 i (by decide)]
    rcases w6 i hi with z | z | ⟨m, z1, z2, z3⟩
    · exact Or.inl z
    · exact Or.inr (Or.inl z)
    · exact Or.inr (Or.inr ⟨m, z1, z2, by rw [u 2 m (by decide)]; exact z3⟩)
  · rw [u 8 g' (by decide)]
    refine ⟨?_, (w9 g' hg1).2⟩
    by_cases c : g' = g
    · rw [c, uL_s]
      exact Or.inr ⟨t, ht, rfl, by rw [u 1 t (by decide)]; exact e1⟩
    · rw [uL_n (fun z => c z.2)]
      rcases (w9 g' hg1).1 with z | ⟨s2, z1, z2, z3⟩
      · exact Or.inl z
      · exact Or.inr ⟨s2, z1, z2, by rw [u 1 s2 (by decide)]; exact z3⟩
theorem stp_of {L L' : Lw} {g : Nat} {dx dy : Int} (h : stpL L g dx dy = some L') : ∃ t, t < 256 ∧ L 1 t = (-1) ∧ L' = uL L 7 g (nI t) := by
  unfold stpL at h
  rcases e : besN (sqG L g) dx dy with _ | t
  · rw [e] at h; cases h
  · rw [e] at h
    have h : (if L 1 t = (-1) then some (uL L 7 g (nI t)) else none) = some L' := h
    by_cases c : L 1 t = (-1)
    · rw [if_pos c] at h
      exact ⟨t, besN_lt e, c, (Option.some.inj h).symm⟩
    · rw [if_neg c] at h; cases h
theorem WF_stp {L L' : Lw} {hn gn g : Nat} {dx dy : Int} (hW : WF L hn gn) (h : stpL L g dx dy = some L') : WF L' hn gn := by
  obtain ⟨t, ht, e1, e⟩ := stp_of h
  rw [e]
  exact WF_step hW ht e1
theorem WF_go {L : Lw} {hn gn g to : Nat} (hW : WF L hn gn) : WF (goL L g to) hn gn := by
  unfold goL
  split
  · have some_of : ∀ (c : Prop) [Decidable c] (o : Option Lw) (L' : Lw), (if c then none else o) = some L' → o = some L' := fun c _ o L' z => by
      by_cases y : c
      · rw [if_pos y] at z; cases z
      · rw [if_neg y] at z; exact z
    split
    · rename_i L' e
      exact WF_stp hW (some_of _ _ _ e)
    · split
      · rename_i L' e
        exact WF_stp hW (some_of _ _ _ e)
      · exact hW
  · exact hW
theorem WF_walk {F : LF} {L : Lw} {hn gn g : Nat} (hW : WF L hn gn) : WF (walkL F hn gn g L) hn gn := by
  unfold walkL
  split
  · exact hW
  · split
    · exact hW
    · exact WF_go hW
theorem rep_sq {h : aH} {k g : Nat} {L : Lw} {v : Int32} (hR : RepC h k L) : RepC (sA h (k + 10) g v) k (uL L 7 g v) := by
  have u : ∀ f i, f ≠ 7 → uL L 7 g v f i = L f i := fun f i hf => uL_n (fun z => hf z.1)
  have o : ∀ c i, c ≠ k + 10 → gA (sA h (k + 10) g v) c i = gA h c i := fun c i hc => gA_o hc
  refine ⟨fun i hi => ?_, fun i hi => ?_, fun i hi => ?_, ?_⟩
  · rw [o _ _ (by omega), o _ _ (by omega), o _ _ (by omega), o _ _ (by omega), gaps_eq (fun t => u 1 t (by decide)), warm_eq (fun t => u 1 t (by decide)) (fun t => u 4 t (by decide)), u 0 i (by decide), u 1 i (by decide)]
    exact hR.1 i hi
  · rw [o _ _ (by omega), o _ _ (by omega), o _ _ (by omega), o _ _ (by omega), o _ _ (by omega), u 2 i (by decide), u 3 i (by decide), u 4 i (by decide), u 5 i (by decide), u 6 i (by decide)]
    exact hR.2.1 i hi
  · rw [o (k + 11) _ (by omega), u 8 i (by decide)]
    refine ⟨?_, (hR.2.2.1 i hi).2⟩
    by_cases c : i = g
    · rw [c, gA_e, uL_s]
    · rw [gA_p c, uL_n (fun z => c z.2)]
      exact (hR.2.2.1 i hi).1
  · rw [u 9 0 (by decide), u 9 1 (by decide), u 9 2 (by decide), u 9 3 (by decide)]
    exact hR.2.2.2
theorem repM_sq {h : aH} {g : Nat} {L : Lw} {v : Int32} (hR : RepM h L) : RepM (sA h 10 g v) (uL L 7 g v) := by
  have u : ∀ f i, f ≠ 7 → uL L 7 g v f i = L f i := fun f i hf => uL_n (fun z => hf z.1)
  have o : ∀ c i, c ≠ 10 → gA (sA h 10 g v) c i = gA h c i := fun c i hc => gA_o hc
  refine ⟨fun i hi => ?_, fun i hi => ?_, fun i hi => ?_, ?_⟩
  · rw [o _ _ (by omega), o _ _ (by omega), o _ _ (by omega), u 0 i (by decide), u 1 i (by decide)]
    exact hR.1 i hi
  · rw [o _ _ (by omega), o _ _ (by omega), o _ _ (by omega), o _ _ (by omega), o _ _ (by omega), u 2 i (by decide), u 3 i (by decide), u 4 i (by decide), u 5 i (by decide), u 6 i (by decide)]
    exact hR.2.1 i hi
  · rw [o 11 _ (by omega), u 8 i (by decide)]
    refine ⟨?_, (hR.2.2.1 i hi).2⟩
    by_cases c : i = g
    · rw [c, gA_e, uL_s]
    · rw [gA_p c, uL_n (fun z => c z.2)]
      exact (hR.2.2.1 i hi).1
  · rw [u 9 0 (by decide), u 9 1 (by decide), u 9 2 (by decide), u 9 3 (by decide)]
    exact hR.2.2.2
section Walk
variable {h : aH} {l d k : Nat} {L : Lw} {hn gn : Nat} {F : LF}
theorem sp_stepGroup (hk : isLake k) (hL : LayC h l d) (hR : RepC h k L) (hW : WF L hn gn) {g : Nat} (hg : g < gn) (h7 : ¬ L 7 g = (-2)) {dx dy : Int} (hx : -100 < dx ∧ dx < 100) (hy : -100 < dy ∧ dy < 100) {Q : Int32 → aH → Prop} (h1 : ∀ h' L', stpL L g dx dy = some L' → FrK k h h' → RepC h' k L' → Q 1 h') (h0 : stpL L g dx dy = none → Q 0 h) : f_X2_stepGroup SC k (nI g) (iI dx) (iI dy) h Q := by
  have hgn := hW.2.1
  obtain ⟨q1, q2, q3⟩ := sqG_of hW hg h7
  unfold f_X2_stepGroup
  rw [lk_10 hk hL, li_10 hk, vp_lt (show g < 8 by omega) (by decide), cl (by omega), (hR.2.2.1 g (by omega)).1, q2]
  refine ⟨trivial, fun v ev => ?_⟩
  subst ev
  refine sp_beside q1 hx hy ?_
  unfold stpL at h1 h0
  rcases e : besN (sqG L g) dx dy with _ | t
  · rw [e] at h0
    exact aIf_t rfl (h0 rfl)
  · rw [e] at h1 h0
    have ht := besN_lt e
    rw [enc_some]
    refine aIf_f (nI_neg1 (by omega)) ?_
    refine sp_isFirm hk hL hR ht (fun c => aIf_t (by decide) ?_) (fun c => aIf_f (fun z => z rfl) (h0 (if_neg c)))
    rw [lk_10 hk hL, li_10 hk, vp_lt (show g < 8 by omega) (by decide)]
    refine ⟨trivial, fun h2 e2 => h1 h2 _ (if_pos c) ?_ ?_⟩
    · rw [e2]; exact FrK_sA (by omega) (by omega)
    · rw [e2]; exact rep_sq hR
theorem sp_walk (hk : isLake k) (hL : LayC h l d) (hR : RepC h k L) (hW : WF L hn gn) (hF : LC h l F) {g : Nat} (hg : g < gn) {Q : aH → Prop} (hq : ∀ h', FX k h h' → RepC h' k (walkL F hn gn g L) → Q h') : f_X2_isAfloat SC k (nI g) h (fun r h1 => aIf (r = 0) (f_X5_walk SC 42 k (nI g) (-1) h1 Q) (f_X5_strongest SC 42 k (nI g) h1 (fun r2 h2 => f_X5_walk SC 42 k (nI g) r2 h2 Q))) := by
  have hgn := hW.2.1
  have hhn := hW.1
  unfold walkL at hq
  have eqg : ∀ g2, nI g = nI g2 → g2 < gn → g2 = g := fun g2 e hg2 => ((nI_eq (by omega) (by omega)).mp e).symm
  refine sp_isAfloat hk hL hR hW (fun g2 s hg2 hs e e7 _ => ?_) (fun c => ?_)
  · have := eqg g2 e hg2
    subst this
    have h7 : ¬ L 7 g2 = (-2) := by rw [e7]; exact nI_neg2 (by omega)
    rw [if_neg h7] at hq
    refine aIf_f (by decide) ?_
    refine sp_strongest hk hL hR hW hF hg h7 (fun h1 f1 => ?_)
    have l1 := LayC_2 f1.1 hL
    have r1 := RepC_SFC hk f1 hR
    unfold f_X5_walk
    refine aIf_i (fun c => ?_) (fun c => ?_)
    · rw [if_neg c] at hq
      obtain ⟨m, hm, em, om⟩ := (strL_in (F := F) (L := L) (gn := gn) (g := g2) hn).resolve_left c
      have em : strL F L hn gn g2 = nI m := em
      obtain ⟨t, ht, et, ec, -⟩ := opn_of hW (show m < 12 by omega)
      rw [em, cl (by omega), ec] at hq
      obtain ⟨q1, q2, q3⟩ := sqG_of hW hg h7
      rw [em, lk_10 hk l1, li_10 hk, vp_lt (show g2 < 8 by omega) (by decide), cl (by omega), (r1.2.2.1 g2 (by omega)).1, q2]
      refine ⟨trivial, fun v ev => ?_⟩
      subst ev
      rw [lk_4 hk l1, li_5 hk, vp_lt (show m < 12 by omega) (by decide), cl (by omega), (r1.2.1 m (by omega)).1, et]
      refine ⟨trivial, fun v ev => ?_⟩
      subst ev
      have hw := wayN_lt q1 ht
      refine sp_way q1 ht ?_
      unfold goL at hq
      have one : (1 : Int32) < nI (wayN (sqG L g2) t) ↔ 2 ≤ wayN (sqG L g2) t := nI_ltI (a := 1) (by omega) (by omega)
      refine aIf_i (fun c2 => ?_) (fun c2 => ?_)
      · rw [if_pos (one.mp c2)] at hq
        refine sp_xOf ht (sp_xOf q1 (cmp_sg (by omega) (by omega) ?_))
        refine sp_yOf ht (sp_yOf q1 (cmp_sg (by omega) (by omega) ?_))
        have sx := sgN_in (sqG L g2 % 16) (t % 16)
        have sy := sgN_in (sqG L g2 / 16) (t / 16)
        have stepY : (match (if sgN (sqG L g2 % 16) (t % 16) = 0 then none else stpL L g2 (sgN (sqG L g2 % 16) (t % 16)) 0) with | some _ => False | none => True) → aIf (iI (sgN (sqG L g2 / 16) (t / 16)) = 0) (Q h1) (f_X2_stepGroup SC k (nI g2) 0 (iI (sgN (sqG L g2 / 16) (t / 16))) h1 (fun r25 h24 => Q h24)) := by
          intro hx
          have ex : (if sgN (sqG L g2 % 16) (t % 16) = 0 then none else stpL L g2 (sgN (sqG L g2 % 16) (t % 16)) 0) = none := by
            cases hh : (if sgN (sqG L g2 % 16) (t % 16) = 0 then none else stpL L g2 (sgN (sqG L g2 % 16) (t % 16)) 0) with
            | none => rfl
            | some L' => rw [hh] at hx; exact False.elim hx
          rw [ex] at hq
          refine aIf_i (fun c3 => ?_) (fun c3 => ?_)
          · rw [if_pos (sgN_z.mp c3)] at hq
            exact hq h1 (FX_S f1) r1
          · rw [if_neg (fun z => c3 (sgN_z.mpr z))] at hq
            show f_X2_stepGroup SC k (nI g2) (iI 0) _ h1 _
            refine sp_stepGroup hk l1 r1 hW hg h7 (by omega) (by omega) (fun h2 L' e' f2 r2 => ?_) (fun e' => ?_)
            · rw [e'] at hq
              exact hq h2 (FX_tr (FX_S f1) (FX_K f2)) r2
            · rw [e'] at hq
              exact hq h1 (FX_S f1) r1
        refine aIf_i (fun c3 => ?_) (fun c3 => ?_)
        · refine aIf_f (by decide) (stepY ?_)
          rw [if_pos (sgN_z.mp c3)]
          trivial
        · have nz : ¬ sgN (sqG L g2 % 16) (t % 16) = 0 := fun z => c3 (sgN_z.mpr z)
          show f_X2_stepGroup SC k (nI g2) _ (iI 0) h1 _
          refine sp_stepGroup hk l1 r1 hW hg h7 (by omega) (by omega) (fun h2 L' e' f2 r2 => ?_) (fun e' => ?_)
          · refine aIf_f (by decide) (aIf_t (by decide) ?_)
            rw [if_neg nz, e'] at hq
            exact hq h2 (FX_tr (FX_S f1) (FX_K f2)) r2
          · refine aIf_t rfl (aIf_f (by decide) (stepY ?_))
            rw [if_neg nz, e']
            trivial
      · rw [if_neg (fun z => c2 (one.mpr z))] at hq
        exact hq h1 (FX_S f1) r1
    · rw [if_pos (Classical.not_not.mp c)] at hq
      exact hq h1 (FX_S f1) r1
  · rw [if_pos (c g hg rfl)] at hq
    refine aIf_t rfl ?_
    unfold f_X5_walk
    exact aIf_f (fun z => z rfl) (hq h FX_rf hR)
theorem sr_goes (hL : LayM h) (hM : RepM h L) (hW : WF L hn gn) (hF : LM h F) {g : Nat} (hg : g < gn) {Q : aH → Prop} (hq : ∀ h', MX h h' → RepM h' (walkL F hn gn g L) → Q h') : f_X11_goes SM 0 (nI g) h Q := by
  have hgn := hW.2.1
  have hhn := hW.1
  unfold walkL at hq
  refine sr_drawnTo hL hM hW hF hg (fun h1 f1 => ?_)
  have l1 := LayM_2 f1.1 hL
  have r1 := RepM_SFM f1 hM
  by_cases h7 : L 7 g = (-2)
  · rw [if_pos h7] at hq ⊢
    exact aIf_t rfl (hq h1 (MX_S f1) r1)
  · rw [if_neg h7] at hq ⊢
    refine aIf_i (fun c => ?_) (fun c => ?_)
    · rw [if_pos c] at hq
      exact hq h1 (MX_S f1) r1
    · rw [if_neg c] at hq
      obtain ⟨m, hm, em, om⟩ := (strL_in (F := F) (L := L) (gn := gn) (g := g) hn).resolve_left c
      have em : strL F L hn gn g = nI m := em
      obtain ⟨t, ht, et, ec, -⟩ := opn_of hW (show m < 12 by omega)
      rw [em, cl (by omega), ec] at hq
      obtain ⟨q1, q2, q3⟩ := sqG_of hW hg h7
      rw [em, m_14 l1, mi_10, vp_lt (show g < 8 by omega) (by decide), cl (by omega), (r1.2.2.1 g (by omega)).1, q2]
      refine ⟨trivial, fun v ev => ?_⟩
      subst ev
      rw [m_9 l1, mi_5, vp_lt (show m < 12 by omega) (by decide), cl (by omega), (r1.2.1 m (by omega)).1, et]
      refine ⟨trivial, fun v ev => ?_⟩
      subst ev
      have hw := wayN_lt q1 ht
      refine sr_wayOf q1 ht ?_
      unfold goL at hq
      have one : (2 : Int32) ≤ nI (wayN (sqG L g) t) ↔ 2 ≤ wayN (sqG L g) t := nI_leI (a := 2) (by omega) (by omega)
      refine aIf_i (fun c2 => ?_) (fun c2 => ?_)
      · rw [if_pos (one.mp c2)] at hq
        rw [m_14 l1, mi_10, vp_lt (show g < 8 by omega) (by decide), (r1.2.2.1 g (by omega)).1, q2]
        refine ⟨trivial, fun v ev => ?_⟩
        subst ev
        rw [m_9 l1, mi_5, vp_lt (show m < 12 by omega) (by decide), (r1.2.1 m (by omega)).1, et]
        refine ⟨trivial, fun v ev => ?_⟩
        subst ev
        rw [nI_mod ht, nI_mod q1]
        refine sign_sg (by omega) (by omega) ?_
        rw [m_9 l1, mi_5, vp_lt (show m < 12 by omega) (by decide), (r1.2.1 m (by omega)).1, et]
        refine ⟨trivial, fun v ev => ?_⟩
        subst ev
        rw [nI_div ht, nI_div q1]
        refine sign_sg (by omega) (by omega) ?_
        have stepY : (match (if sgN (sqG L g % 16) (t % 16) = 0 then none else stpL L g (sgN (sqG L g % 16) (t % 16)) 0) with | some _ => False | none => True) → f_X11_goes_105 SM 0 (nI g) Q (nI (sqG L g)) (iI (sgN (sqG L g / 16) (t / 16))) h1 := by
          intro hx
          have ex : (if sgN (sqG L g % 16) (t % 16) = 0 then none else stpL L g (sgN (sqG L g % 16) (t % 16)) 0) = none := by
            cases hh : (if sgN (sqG L g % 16) (t % 16) = 0 then none else stpL L g (sgN (sqG L g % 16) (t % 16)) 0) with
            | none => rfl
            | some L' => rw [hh] at hx; exact False.elim hx
          rw [ex] at hq
          refine aIf_i (fun c3 => ?_) (fun c3 => ?_)
          · rw [if_pos (sgN_z.mp c3)] at hq
            exact hq h1 (MX_S f1) r1
          · have nz : ¬ sgN (sqG L g / 16) (t / 16) = 0 := fun z => c3 (sgN_z.mpr z)
            rw [if_neg nz] at hq
            obtain ⟨u, hu, eu, eu2⟩ := bes_y q1 ht nz
            rw [eu2]
            unfold stpL at hq
            rw [eu] at hq
            refine sr_isIce l1 r1 hu (fun c4 => aIf_f (by decide) ?_) (fun c4 => aIf_t rfl ?_)
            · have hq : ∀ h', MX h h' → RepM h' (match (if L 1 u = (-1) then some (uL L 7 g (nI u)) else none) with | some L' => L' | none => L) → Q h' := hq
              rw [if_pos c4] at hq
              rw [m_14 l1, mi_10, vp_lt (show g < 8 by omega) (by decide), cl (by omega)]
              refine ⟨trivial, fun h2 e2 => hq h2 ?_ ?_⟩
              · rw [e2]; exact MX_tr (MX_S f1) (MX_sA (by omega))
              · rw [e2]; exact repM_sq r1
            · have hq : ∀ h', MX h h' → RepM h' (match (if L 1 u = (-1) then some (uL L 7 g (nI u)) else none) with | some L' => L' | none => L) → Q h' := hq
              rw [if_neg c4] at hq
              exact hq h1 (MX_S f1) r1
        refine aIf_i (fun c3 => ?_) (fun c3 => ?_)
        · refine stepY ?_
          rw [if_pos (sgN_z.mp c3)]
          trivial
        · have nz : ¬ sgN (sqG L g % 16) (t % 16) = 0 := fun z => c3 (sgN_z.mpr z)
          obtain ⟨u, hu, eu, eu2⟩ := bes_x q1 ht nz
          rw [eu2]
          have es : L 1 u = (-1) → stpL L g (sgN (sqG L g % 16) (t % 16)) 0 = some (uL L 7 g (nI u)) := fun z => by
            unfold stpL
            rw [eu]
            exact if_pos z
          have en : ¬ L 1 u = (-1) → stpL L g (sgN (sqG L g % 16) (t % 16)) 0 = none := fun z => by
            unfold stpL
            rw [eu]
            exact if_neg z
          refine sr_isIce l1 r1 hu (fun c4 => aIf_f (by decide) ?_) (fun c4 => aIf_t rfl (stepY ?_))
          · rw [if_neg nz, es c4] at hq
            rw [m_14 l1, mi_10, vp_lt (show g < 8 by omega) (by decide)]
            refine ⟨trivial, fun h2 e2 => hq h2 ?_ ?_⟩
            · rw [e2]; exact MX_tr (MX_S f1) (MX_sA (by omega))
            · rw [e2]; exact repM_sq r1
          · rw [if_neg nz, en c4]
            trivial
      · rw [if_neg (fun z => c2 (one.mpr z))] at hq
        exact hq h1 (MX_S f1) r1
end Walk
