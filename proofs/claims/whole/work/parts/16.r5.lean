/-! ===== MINUTES ===== -/
def walksL (F : LF) (hn gn : Nat) (L : Lw) : Nat → Lw
  | 0 => L
  | g + 1 => walkL F hn gn g (walksL F hn gn L g)
def minL (F : LF) (hn gn : Nat) (L : Lw) : Lw := uL (stl F gn 8 (walksL F hn gn (thawL F L) gn)).1 9 2 ((stl F gn 8 (walksL F hn gn (thawL F L) gn)).1 9 2 + 1)
def minsL (F : LF) (hn gn : Nat) (L : Lw) : Nat → Lw
  | 0 => L
  | n + 1 => minL F hn gn (minsL F hn gn L n)
def drnL (L : Lw) (gn : Nat) : Int32 := sm (fun g => if L 7 g = (-2) then 1 else 0) gn
theorem WF_walks {F : LF} {L : Lw} {hn gn : Nat} (hW : WF L hn gn) : ∀ g, WF (walksL F hn gn L g) hn gn := by
  intro g
  induction g with
  | zero => exact hW
  | succ g ih => exact WF_walk ih
theorem WF_92 {L : Lw} {hn gn : Nat} {v : Int32} (hW : WF L hn gn) : WF (uL L 9 2 v) hn gn := by
  have u : ∀ f i, ¬ (f = 9 ∧ i = 2) → uL L 9 2 v f i = L f i := fun f i hf => uL_n hf
  obtain ⟨w1, w2, w3, w4, w5, w6, w7, w8, w9, w10⟩ := hW
  refine ⟨w1, w2, by rw [u 9 0 (by omega)]; exact w3, by rw [u 9 1 (by omega)]; exact w4, fun i hi => by rw [u 0 i (by omega)]; exact w5 i hi, fun i hi => ?_, fun m hm => by rw [u 2 m (by omega)]; exact w7 m hm, fun m hm => by rw [u 3 m (by omega), u 4 m (by omega), u 5 m (by omega), u 6 m (by omega)]; exact w8 m hm, fun g hg => ?_, by rw [u 9 3 (by omega)]; exact w10⟩
  · rw [u 1 i (by omega)]
    rcases w6 i hi with z | z | ⟨m, z1, z2, z3⟩
    · exact Or.inl z
    · exact Or.inr (Or.inl z)
    · exact Or.inr (Or.inr ⟨m, z1, z2, by rw [u 2 m (by omega)]; exact z3⟩)
  · rw [u 7 g (by omega), u 8 g (by omega)]
    refine ⟨?_, (w9 g hg).2⟩
    rcases (w9 g hg).1 with z | ⟨s, z1, z2, z3⟩
    · exact Or.inl z
    · exact Or.inr ⟨s, z1, z2, by rw [u 1 s (by omega)]; exact z3⟩
theorem WF_min {F : LF} {L : Lw} {hn gn : Nat} (hF : ∀ c most V, 0 ≤ most → 0 ≤ F c most V ∧ F c most V ≤ most) (hW : WF L hn gn) : WF (minL F hn gn L) hn gn := WF_92 (WF_stl 8 _ (WF_walks (WF_thN hF hW 256 (Nat.le_refl _)) gn))
theorem WF_mins {F : LF} {L : Lw} {hn gn : Nat} (hF : ∀ c most V, 0 ≤ most → 0 ≤ F c most V ∧ F c most V ≤ most) (hW : WF L hn gn) : ∀ n, WF (minsL F hn gn L n) hn gn := by
  intro n
  induction n with
  | zero => exact hW
  | succ n ih => exact WF_min hF ih
theorem rep_92 {h : aH} {k : Nat} {L : Lw} {v : Int32} (hR : RepC h k L) : RepC (sI h k 13 v) k (uL L 9 2 v) := by
  have u : ∀ f i, ¬ (f = 9 ∧ i = 2) → uL L 9 2 v f i = L f i := fun f i hf => uL_n hf
  refine ⟨fun i hi => ?_, fun i hi => ?_, fun i hi => ?_, ?_⟩
  · rw [gaps_eq (fun t => u 1 t (by omega)), warm_eq (fun t => u 1 t (by omega)) (fun t => u 4 t (by omega)), u 0 i (by omega), u 1 i (by omega)]
    exact hR.1 i hi
  · rw [u 2 i (by omega), u 3 i (by omega), u 4 i (by omega), u 5 i (by omega), u 6 i (by omega)]
    exact hR.2.1 i hi
  · rw [u 7 i (by omega), u 8 i (by omega)]
    exact hR.2.2.1 i hi
  · rw [gI_sI, if_neg (fun z => absurd z.2 (by decide)), gI_sI, if_neg (fun z => absurd z.2 (by decide)), gI_sI, if_pos ⟨rfl, rfl⟩, gI_sI, if_neg (fun z => absurd z.2 (by decide)), u 9 0 (by omega), u 9 1 (by omega), uL_s, u 9 3 (by omega)]
    exact ⟨hR.2.2.2.1, hR.2.2.2.2.1, rfl, hR.2.2.2.2.2.2⟩
theorem repM_92 {h : aH} {L : Lw} {v : Int32} (hR : RepM h L) : RepM (sI h 0 4 v) (uL L 9 2 v) := by
  have u : ∀ f i, ¬ (f = 9 ∧ i = 2) → uL L 9 2 v f i = L f i := fun f i hf => uL_n hf
  refine ⟨fun i hi => ?_, fun i hi => ?_, fun i hi => ?_, ?_⟩
  · rw [u 0 i (by omega), u 1 i (by omega)]
    exact hR.1 i hi
  · rw [u 2 i (by omega), u 3 i (by omega), u 4 i (by omega), u 5 i (by omega), u 6 i (by omega)]
    exact hR.2.1 i hi
  · rw [u 7 i (by omega), u 8 i (by omega)]
    exact hR.2.2.1 i hi
  · rw [gI_sI, if_neg (fun z => absurd z.2 (by decide)), gI_sI, if_neg (fun z => absurd z.2 (by decide)), gI_sI, if_pos ⟨rfl, rfl⟩, gI_sI, if_neg (fun z => absurd z.2 (by decide)), u 9 0 (by omega), u 9 1 (by omega), uL_s, u 9 3 (by omega)]
    exact ⟨hR.2.2.2.1, hR.2.2.2.2.1, rfl, hR.2.2.2.2.2.2⟩
section Min
variable {h : aH} {l d k : Nat} {L : Lw} {hn gn : Nat} {F : LF}
theorem sp_pass (hk : isLake k) (hL : LayC h l d) (hR : RepC h k L) (hW : WF L hn gn) (hF : LC h l F) {n : Nat} (hn60 : n ≤ 60) {Q : Int32 → aH → Prop} (hq : ∀ h', FX k h h' → RepC h' k (minsL F hn gn L n) → Q (drnL (minsL F hn gn L n) gn - drnL L gn) h') : f_X5_pass SC 42 k (nI n) h Q := by
  have hgn := hW.2.1
  have hl := lay_isLaw hL
  have ran := LC_ran hF
  unfold f_X5_pass
  refine sp_drownedTotal hk hL hR hW ?_
  have key := up_loop (N := n) (P := fun w i => ∀ h', FX k h h' → RepC h' k (minsL F hn gn L i) → f_X5_pass_8 SC 42 k (nI n) Q w (drnL L gn) (nI i) h') ?_ ?_
  · exact ⟨n + 1, key h FX_rf hR⟩
  · intro h' f' r'
    refine aIf_t (nI_le (Nat.le_refl _) (by omega)) ?_
    exact sp_drownedTotal hk (LayC_2 f'.1 hL) r' (WF_mins ran hW n) (hq h' f' r')
  · intro w i hi n1 h' f' r'
    have l' := LayC_2 f'.1 hL
    have w' := WF_mins ran hW i
    refine aIf_f (nI_ge hi (by omega)) ?_
    refine sp_thaw hk l' r' w' (LC_FX hk hl f' hF) (fun h1 f1 r1 => ?_)
    have w1 := WF_thN ran w' 256 (Nat.le_refl _)
    have fa := FX_tr f' f1
    have loop := up_loop (N := gn) (P := fun m g => ∀ h2, FX k h h2 → RepC h2 k (walksL F hn gn (thawL F (minsL F hn gn L i)) g) → f_X5_pass_22 SC 42 k (nI n) Q (f_X5_pass_8 SC 42 k (nI n) Q (w + 1)) m (drnL L gn) (nI i) (nI g) h2) ?_ ?_
    · exact ⟨gn + 1, loop h1 fa r1⟩
    · intro h2 f2 r2 v ev
      have w2 := WF_walks (F := F) w1 gn
      have l2 := LayC_2 f2.1 hL
      rw [r2.2.2.2.2.1.trans w2.2.2.2.1] at ev
      subst ev
      refine aIf_t (nI_le (Nat.le_refl _) (by omega)) ?_
      refine sp_settleAll hk l2 r2 w2 (LC_FX hk hl f2 hF) (fun h3 f3 r3 => ?_)
      intro v ev h4 e4 x ex
      rw [r3.2.2.2.2.2.1] at ev
      rw [nI_1] at ex
      subst ev ex
      refine n1 h4 (FX_tr f2 (FX_tr f3 (by rw [e4]; exact FX_K FrK_sI))) ?_
      rw [e4]
      exact rep_92 r3
    · intro m g hg m1 h2 f2 r2 v ev
      have w2 := WF_walks (F := F) w1 g
      have l2 := LayC_2 f2.1 hL
      rw [r2.2.2.2.2.1.trans w2.2.2.2.1] at ev
      subst ev
      refine aIf_f (nI_ge hg (by omega)) ?_
      refine sp_walk hk l2 r2 w2 (LC_FX hk hl f2 hF) hg (fun h3 f3 r3 => ?_)
      intro x ex
      rw [nI_1] at ex
      subst ex
      exact m1 h3 (FX_tr f2 f3) r3
theorem sr_minuteOne (hL : LayM h) (hM : RepM h L) (hW : WF L hn gn) (hF : LM h F) {Q : aH → Prop} (hq : ∀ h', MX h h' → RepM h' (minL F hn gn L) → Q h') : f_X11_minuteOne SM 0 h Q := by
  have hgn := hW.2.1
  have ran := LM_ran hF
  unfold f_X11_minuteOne
  refine sr_thawsAll hL hM hW hF (fun h1 f1 r1 => ?_)
  have w1 := WF_thN ran hW 256 (Nat.le_refl _)
  have loop := up_loop (N := gn) (P := fun m g => ∀ h2, MX h h2 → RepM h2 (walksL F hn gn (thawL F L) g) → f_X11_minuteOne_6 SM 0 Q m (nI g) h2) ?_ ?_
  · exact ⟨gn + 1, loop h1 f1 r1⟩
  · intro h2 f2 r2 v ev
    have w2 := WF_walks (F := F) w1 gn
    have l2 := LayM_2 f2.1 hL
    rw [r2.2.2.2.2.1.trans w2.2.2.2.1] at ev
    subst ev
    refine aIf_t (nI_le (Nat.le_refl _) (by omega)) ?_
    refine sr_settles l2 r2 w2 (LM_MX f2 hF) (fun h3 f3 r3 => ?_)
    intro v ev h4 e4
    rw [r3.2.2.2.2.2.1] at ev
    subst ev
    refine hq h4 (MX_tr f2 (MX_tr f3 (by rw [e4]; exact MX_sI (by omega)))) ?_
    rw [e4]
    exact repM_92 r3
  · intro m g hg m1 h2 f2 r2 v ev
    have w2 := WF_walks (F := F) w1 g
    have l2 := LayM_2 f2.1 hL
    rw [r2.2.2.2.2.1.trans w2.2.2.2.1] at ev
    subst ev
    refine aIf_f (nI_ge hg (by omega)) ?_
    refine sr_goes l2 r2 w2 (LM_MX f2 hF) hg (fun h3 f3 r3 => ?_)
    intro x ex
    rw [nI_1] at ex
    subst ex
    exact m1 h3 (MX_tr f2 f3) r3
theorem hr_t {S : aS} {a : Int32} {h : aH} {Q : Int32 → aH → Prop} (z : 1 ≤ a ∧ a ≤ 60) (hq : Q 1 h) : f_X11_isHour S a h Q := li_t (b := 1) (c := 60) z ⟨aB1, hq⟩
theorem hr_f {S : aS} {a : Int32} {h : aH} {Q : Int32 → aH → Prop} (z : ¬ (1 ≤ a ∧ a ≤ 60)) (hq : Q 0 h) : f_X11_isHour S a h Q := li_f (b := 1) (c := 60) z ⟨aB0, hq⟩
theorem hr_n {a : Int32} (z : 1 ≤ a ∧ a ≤ 60) : ∃ n, 1 ≤ n ∧ n ≤ 60 ∧ a = nI n := by
  obtain ⟨n, hn, en⟩ := Iof (x := a) (M := 60) (by decide) (Int32.le_trans (by decide) z.1) z.2
  subst en
  exact ⟨n, (nI_leI (a := 1) (by decide) (by omega)).mp z.1, hn, rfl⟩
end Min
/-- MINUTES -/
theorem s_minutes : st_minutes (Inv LR) SC SM := by
  intro hc hm a1 hI
  obtain ⟨L, hn, gn, kp, LK, tn, tb, l, d, I⟩ := hI
  obtain ⟨i1, i2, i3, i4, i5, i6, i7, i8, i9, i10⟩ := id I
  have hk : isLake 1 := Or.inl rfl
  obtain ⟨F, F1, F2⟩ := LR_F i1 i10
  have ran := LM_ran F2
  unfold f_X10_minutes
  by_cases p : 1 ≤ a1 ∧ a1 ≤ 60
  rotate_left
  · refine wi_f p (aIf_t rfl ?_)
    exact hr_f p (aIf_f (fun z => z rfl) ⟨rfl, Inv_same I⟩)
  refine wi_t p (aIf_f (by decide) ?_)
  obtain ⟨n, n1, n60, en⟩ := hr_n p
  subst en
  rw [c_0_5 i1, c_0_0 i1, co_42, co_1]
  refine ⟨trivial, trivial, sp_pass hk i1 i3 i5 F1 n60 (fun h1 f1 r1 => ?_)⟩
  refine hr_t p (aIf_t (by decide) ?_)
  refine sr_drownedMany i2 i4 i5 ?_
  have key := up_loop (N := n) (P := fun w i => ∀ h', MX hm h' → RepM h' (minsL F hn gn L i) → f_X11_minutes_16 SM 0 (nI n) (fun r' hm' => drnL (minsL F hn gn L n) gn - drnL L gn = r' ∧ Inv LR h1 hm') w (drnL L gn) (nI i) h') ?_ ?_
  · exact ⟨n + 1, key hm MX_rf i4⟩
  · intro h' f' r'
    refine aIf_t (nI_le (Nat.le_refl _) (by omega)) ?_
    refine sr_drownedMany (LayM_2 f'.1 i2) r' (WF_mins ran i5 n) ⟨rfl, ?_⟩
    exact Inv_step LRok_LR I (CS_FX (Or.inl rfl) f1) (MS_MX f') r1 r' (WF_mins ran i5 n)
  · intro w i hi n1 h' f' r'
    refine aIf_f (nI_ge hi (by omega)) ?_
    refine sr_minuteOne (LayM_2 f'.1 i2) r' (WF_mins ran i5 i) (LM_MX f' F2) (fun h2 f2 r2 => ?_)
    intro x ex
    rw [nI_1] at ex
    subst ex
    exact n1 h2 (MX_tr f' f2) r2
