/-! ===== LAW: the reference reads a number, a letter; it puts its signs down ===== -/
section LmQ
variable {n : Nat} {tb : Nat → Nat} {h : aH} {i z d : Nat} {σ : List Nat} {e : Int32}
theorem rd_7F {x1 x2 : Int32} {m : Nat} (s : gI h 0 31 = e) (he : ¬ e = 0) {Q : Int32 → aH → Prop} (hq : Q x2 h) : f_X11_reads_7 SM 0 Q (m + 1) x1 x2 h := by
  unfold f_X11_reads_7
  exact sr_bad s he (aIf_t rfl hq)
theorem rd_7 {h0 : aH} (hL : LayM h0) {Q : Int32 → aH → Prop} (hd : isDg (tk n tb i)) (h1 : ∀ j v h', numS n tb i = .inr (j, sNum (nI v)) → i < j → MdF 38 h0 h' → MdS n tb h' j z d σ 0 → (∀ c q, gA h' c q = gA h0 c q) → Q (nI v) h') (hf : ∀ e h' v, numS n tb i = .inl e → ¬ 0 ≤ e → MdF 38 h0 h' → gI h' 0 31 = e → Q v h') : ∀ (r j v : Nat) (h : aH), r ≤ 5 → MdF 38 h0 h → (∀ c q, gA h c q = gA h0 c q) → MdS n tb h j z d σ 0 → j = i + (5 - r) → numL n tb 5 i 0 = numL n tb r j v → f_X11_reads_7 SM 0 Q (r + 2) (nI i) (nI v) h := by
  intro r
  induction r with
  | zero =>
    intro j v h hr f0 g0 s ej en
    have hL1 := MdF_L hL f0
    have en : numL n tb 5 i 0 = (j, v) := en
    have e0 : numS n tb i = if isDg (tk n tb j) then .inl (er 2 j) else .inr (j, sNum (nI v)) := by
      unfold numS
      rw [en]
    unfold f_X11_reads_7
    refine sr_good s.2.2.1 (aIf_f (by decide) (sr_digit hL1 s (fun c => ?_) (fun c => ?_)))
    · refine aIf_f (by decide) ?_
      intro v7 e7
      rw [s.1] at e7
      subst e7
      refine aIf_f (fun y => y (by rw [ej]; exact (nI_add i 5).symm)) ?_
      refine sr_wrongsP (c := 2) s (by decide) (by decide) (fun h2 f2 s2 ne => ?_)
      refine sr_here (MdF_L hL1 f2) s2 ?_
      intro x2 ex
      have hj : j < n := tk_in (n := n) (tb := tb) (by have := c.1; omega)
      refine sr_up s2 hj (fun h3 f3 s3 g3 => ?_)
      exact rd_7F s3.2.2.1 (ne_of ne) (hf _ h3 _ (by rw [e0, if_pos c]) ne (MdF_tr f0 (MdF_tr f2 f3)) s3.2.2.1)
    · refine aIf_t rfl (h1 j v h (by rw [e0, if_neg c]) (by omega) f0 s g0)
  | succ r ih =>
    intro j v h hr f0 g0 s ej en
    have hL1 := MdF_L hL f0
    have jn := (MdS_n s).1
    have n2 := (MdS_n s).2.1
    unfold f_X11_reads_7
    refine sr_good s.2.2.1 (aIf_f (by decide) (sr_digit hL1 s (fun c => ?_) (fun c => ?_)))
    · refine aIf_f (by decide) ?_
      intro v7 e7
      rw [s.1] at e7
      subst e7
      refine aIf_t (fun y => ?_) ?_
      · have := (nI_eq (a := j) (b := i + 5) (by omega) (by omega)).mp (y.trans (nI_add i 5))
        omega
      refine sr_here hL1 s ?_
      intro x2 ex
      have hj : j < n := tk_in (n := n) (tb := tb) (by have := c.1; omega)
      refine sr_up s hj (fun h3 f3 s3 g3 => ?_)
      have e3 : x2 = nI (10 * v + (tk n tb j - 48)) := by
        rw [ex, show (10 : Int32) = iI 10 from by decide, show (48 : Int32) = iI 48 from by decide, ← iI_nat, ← iI_nat, ← iI_nat, iI_mul, iI_add, iI_sub]
        congr 1
        have := c.1
        omega
      rw [e3]
      refine ih (j + 1) _ h3 (by omega) (MdF_tr f0 f3) (fun c q => (g3 c q).trans (g0 c q)) s3 (by omega) ?_
      rw [en]
      show (if isDg (tk n tb j) then numL n tb r (j + 1) (10 * v + (tk n tb j - 48)) else (j, v)) = _
      rw [if_pos c]
    · have en : numL n tb 5 i 0 = (j, v) := by
        rw [en]
        show (if isDg (tk n tb j) then numL n tb r (j + 1) (10 * v + (tk n tb j - 48)) else (j, v)) = _
        rw [if_neg c]
      refine aIf_t rfl (h1 j v h ?_ ?_ f0 s g0)
      · unfold numS
        rw [en, if_neg c]
      · by_cases q : j = i
        · subst q
          exact absurd hd c
        · omega
theorem sr_reads (hL : LayM h) (s : MdS n tb h i z d σ 0) {Q : Int32 → aH → Prop} (hd : isDg (tk n tb i)) (h1 : ∀ j v h', numS n tb i = .inr (j, sNum (nI v)) → i < j → MdF 38 h h' → MdS n tb h' j z d σ 0 → (∀ c q, gA h' c q = gA h c q) → Q (nI v) h') (hf : ∀ e h' v, numS n tb i = .inl e → ¬ 0 ≤ e → MdF 38 h h' → gI h' 0 31 = e → Q v h') : f_X11_reads SM 0 h Q := by
  intro v ev
  rw [s.1] at ev
  subst ev
  exact ⟨7, rd_7 hL hd h1 hf 5 i 0 h (Nat.le_refl _) MdF_rf (fun _ _ => rfl) s rfl rfl⟩
theorem sr_isValue {c : Nat} (hc : c < 256) {Q : Int32 → aH → Prop} (h1 : ∀ k, letN c = some k → Q 1 h) (h0 : letN c = none → Q 0 h) : f_X11_isValue SM (nI c) h Q := by
  have eq : ∀ x : Nat, x < 256 → (nI c = nI x ↔ c = x) := fun x hx => nI_eq (by omega) (by omega)
  have y : ∀ x k, x < 256 → letN x = some k → nI c = nI x → Q 1 h := fun x k hx hl hh => h1 k (by rw [(eq x hx).mp hh]; exact hl)
  have no : ∀ x : Nat, x < 256 → ¬ nI c = nI x → ¬ c = x := fun x hx hn hh => hn ((eq x hx).mpr hh)
  refine aIf_i (y 105 0 (by decide) rfl) (fun n1 => ?_)
  refine aIf_i (y 110 1 (by decide) rfl) (fun n2 => ?_)
  refine aIf_i (y 104 2 (by decide) rfl) (fun n3 => ?_)
  refine aIf_i (y 120 3 (by decide) rfl) (fun n4 => ?_)
  refine aIf_i (y 121 4 (by decide) rfl) (fun n5 => ?_)
  refine aIf_i (y 109 5 (by decide) rfl) (fun n6 => ?_)
  refine aIf_i (y 107 6 (by decide) rfl) (fun n7 => ?_)
  refine aIf_i (y 115 7 (by decide) rfl) (fun n8 => ?_)
  refine aIf_i (y 112 8 (by decide) rfl) (fun n9 => ?_)
  refine aIf_i (y 100 9 (by decide) rfl) (fun n10 => ?_)
  refine aIf_i (y 119 10 (by decide) rfl) (fun n11 => ?_)
  refine aIf_i (fun n12 => h0 ?_) (fun n12 => y 113 11 (by decide) rfl (Classical.not_not.mp n12))
  unfold letN
  rw [if_neg (no 105 (by decide) n1), if_neg (no 110 (by decide) n2), if_neg (no 104 (by decide) n3), if_neg (no 120 (by decide) n4), if_neg (no 121 (by decide) n5), if_neg (no 109 (by decide) n6), if_neg (no 107 (by decide) n7), if_neg (no 115 (by decide) n8), if_neg (no 112 (by decide) n9), if_neg (no 100 (by decide) n10), if_neg (no 119 (by decide) n11), if_neg (no 113 (by decide) n12)]
theorem letN_B {c k : Nat} (hc : c < 256) (h : letN c = some k) : nI c = letB k := by
  have : ∀ c, c < 256 → (match letN c with | some k => decide (nI c = letB k) | none => true) = true := by decide +kernel
  have := this c hc
  rw [h] at this
  exact of_decide_eq_true this
theorem sr_isTimes {c : Nat} (hc : c < 256) {Q : Int32 → aH → Prop} (h1 : isTm c → Q 1 h) (h0 : ¬ isTm c → Q 0 h) : f_X11_isTimes SM (nI c) h Q := by
  have eq : ∀ x : Nat, x < 256 → (nI c = nI x ↔ c = x) := fun x hx => nI_eq (by omega) (by omega)
  refine aIf_i (fun y => h1 (Or.inl ((eq 42 (by decide)).mp y))) (fun n1 => ?_)
  refine aIf_i (fun y => h1 (Or.inr (Or.inl ((eq 47 (by decide)).mp y)))) (fun n2 => ?_)
  refine aIf_i (fun n3 => h0 ?_) (fun y => h1 (Or.inr (Or.inr ((eq 37 (by decide)).mp (Classical.not_not.mp y)))))
  rintro (y | y | y)
  · exact n1 ((eq 42 (by decide)).mpr y)
  · exact n2 ((eq 47 (by decide)).mpr y)
  · exact n3 ((eq 37 (by decide)).mpr y)
theorem sr_isPlus {c : Nat} (hc : c < 256) {Q : Int32 → aH → Prop} (h1 : isPl c → Q 1 h) (h0 : ¬ isPl c → Q 0 h) : f_X11_isPlus SM (nI c) h Q := by
  have eq : ∀ x : Nat, x < 256 → (nI c = nI x ↔ c = x) := fun x hx => nI_eq (by omega) (by omega)
  refine aIf_i (fun y => h1 (Or.inl ((eq 43 (by decide)).mp y))) (fun n1 => ?_)
  refine aIf_i (fun n2 => h0 ?_) (fun y => h1 (Or.inr ((eq 45 (by decide)).mp (Classical.not_not.mp y))))
  rintro (y | y)
  · exact n1 ((eq 43 (by decide)).mpr y)
  · exact n2 ((eq 45 (by decide)).mpr y)
theorem sr_isSign {c : Nat} (hc : c < 256) {Q : Int32 → aH → Prop} (h1 : isCm c → Q 1 h) (h0 : ¬ isCm c → Q 0 h) : f_X11_isSign SM (nI c) h Q := by
  have eq : ∀ x : Nat, x < 256 → (nI c = nI x ↔ c = x) := fun x hx => nI_eq (by omega) (by omega)
  refine aIf_i (fun y => h1 (Or.inl ((eq 60 (by decide)).mp y))) (fun n1 => ?_)
  refine aIf_i (fun y => h1 (Or.inr (Or.inl ((eq 62 (by decide)).mp y)))) (fun n2 => ?_)
  refine aIf_i (fun n3 => h0 ?_) (fun y => h1 (Or.inr (Or.inr ((eq 61 (by decide)).mp (Classical.not_not.mp y)))))
  rintro (y | y | y)
  · exact n1 ((eq 60 (by decide)).mpr y)
  · exact n2 ((eq 62 (by decide)).mpr y)
  · exact n3 ((eq 61 (by decide)).mpr y)
/-- how reading goes on -/
def OutM (n : Nat) (tb : Nat → Nat) (h : aH) (i z d : Nat) (σ : List Nat) (X : Nat) (R : Rs) (A : Nat → aH → Prop) (B : aH → Prop) : Prop := (∀ j f h' z', R = .inr (j, f) → MdF X h h' → MdS n tb h' j z' d σ 0 → Kq z h h' → MCo (gA h' 22) (gA h' 23) z z' f → i < j → z' + i ≤ z + j → A j h') ∧ ∀ e h', R = .inl e → ¬ 0 ≤ e → MdF X h h' → gI h' 0 31 = e → B h'
theorem fc_23 (hL : LayM h) (s : MdS n tb h i z d σ 0) (hz : z ≤ i) (c91 : ¬ tk n tb i = 91) {E : Nat → Rs} {Q : aH → Prop} (hq : OutM n tb h i z d σ 38 (facS n tb E d i) (fun _ h' => Q h') Q) : f_X11_factor_23 SM 0 Q h := by
  obtain ⟨b1, b2, b3, b4⟩ := MdS_n s
  refine sr_good s.2.2.1 (aIf_t (by decide) (sr_digit hL s (fun c => ?_) (fun c => ?_)))
  · refine aIf_f (by decide) ?_
    have ef : facS n tb E d i = numS n tb i := by unfold facS; rw [if_pos c]
    rw [ef] at hq
    have hi : i < n := tk_in (n := n) (tb := tb) (by have := c.1; omega)
    refine sr_reads hL s c (fun j v h1 e1 l1 f1 s1 g1 => ?_) (fun e h1 v e1 ne f1 s1 => ?_)
    · refine sr_emit (MdF_L hL f1) s1 (by omega) (fun h2 f2 s2 k2 o2 a2 => ?_)
      refine hq.1 j _ h2 (z + 1) e1 (MdF_tr f1 f2) s2 (fun q hq => ?_) (MCo_num o2 a2) l1 (by omega)
      have := k2 q hq
      rw [g1, g1] at this
      exact this
    · exact sr_emitF s1 (ne_of ne) (hq.2 e h1 e1 ne f1 s1)
  · refine aIf_t rfl (sr_here hL s (sr_isValue (MdS_t s) (fun k ek => ?_) (fun ek => ?_)))
    · refine aIf_f (by decide) (sr_here hL s ?_)
      have hk := letN_lt ek
      have hi : i < n := tk_in (n := n) (tb := tb) hk.2
      refine sr_emit hL s (by omega) (fun h2 f2 s2 k2 o2 a2 => ?_)
      refine sr_up s2 hi (fun h3 f3 s3 g3 => ?_)
      refine hq.1 (i + 1) (sLt k) h3 (z + 1) ?_ (MdF_tr f2 f3) s3 (fun q hq => by rw [g3, g3]; exact k2 q hq) (MCo_let hk.1 (by rw [g3]; exact o2) (by rw [g3]; exact a2.trans (letN_B (MdS_t s) ek))) (by omega) (by omega)
      unfold facS
      rw [if_neg c, if_neg c91, ek]
    · refine aIf_t rfl (sr_wrongsP (c := 1) s (by decide) (by decide) (fun h2 f2 s2 ne => ?_))
      refine hq.2 _ h2 ?_ ne f2 s2.2.2.1
      unfold facS
      rw [if_neg c, if_neg c91, ek]
/-- one sign comes off -/
theorem sm_off {c : Nat} (hL : LayM h) (s : MdS n tb h i z d (c :: σ) 0) (hz : z < 200) {A : aH → Prop} (hA : ∀ h', MdF 38 h h' → MdS n tb h' i (z + 1) d σ 0 → Kq z h h' → gA h' 22 z = nI c → A h') : f_X11_top SM 0 h (fun r7 h6 => f_X11_emit SM 0 r7 0 h6 (fun h8 => ∀ v9 : Int32, v9 = (gI h8 0 35) → ∀ h10 : aH, h10 = sI h8 0 35 (v9 - 1) → A h10)) := by
  refine sr_top hL s ?_
  refine sr_emit hL s hz (fun h2 f2 s2 k2 o2 a2 => ?_)
  refine sr_pop s2 (fun h3 f3 s3 g3 => ?_)
  exact hA h3 (MdF_tr f2 f3) s3 (fun q hq => by rw [g3, g3]; exact k2 q hq) (by rw [g3]; exact o2)
theorem sm_tm {c : Nat} (hL : LayM h) (s : MdS n tb h i z d (c :: σ) 0) (hz : z < 200) (hc : isTm c) {a : Int32} {m : Nat} {Q : aH → Prop} (hA : ∀ h', MdF 38 h h' → MdS n tb h' i (z + 1) d σ 0 → Kq z h h' → gA h' 22 z = nI c → f_X11_sums_0 SM 0 a Q m h') : f_X11_sums_0 SM 0 a Q (m + 1) h := by
  unfold f_X11_sums_0
  refine sr_top hL s (sr_isTimes (Stk_top s.2.2.2.2.2.2.1) (fun _ => aIf_t (by decide) ?_) (fun y => absurd hc y))
  exact sm_off hL s hz hA
theorem sm_pl {c : Nat} (hL : LayM h) (s : MdS n tb h i z d (c :: σ) 0) (hz : z < 200) (hc : isPl c) {m : Nat} {Q : aH → Prop} (hA : ∀ h', MdF 38 h h' → MdS n tb h' i (z + 1) d σ 0 → Kq z h h' → gA h' 22 z = nI c → f_X11_sums_0 SM 0 1 Q m h') : f_X11_sums_0 SM 0 1 Q (m + 1) h := by
  unfold f_X11_sums_0
  refine sr_top hL s (sr_isTimes (Stk_top s.2.2.2.2.2.2.1) (fun y => ?_) (fun _ => aIf_f (fun y => y rfl) (aIf_f (by decide) ?_)))
  · have y : isTm c := y
    rcases hc with h | h <;> rw [h] at y <;> exact absurd y (by decide)
  · refine sr_top hL s (sr_isPlus (Stk_top s.2.2.2.2.2.2.1) (fun _ => aIf_f (by decide) ?_) (fun y => absurd hc y))
    exact sm_off hL s hz hA
theorem sm_end0 (hL : LayM h) (s : MdS n tb h i z d σ 0) (hc : ¬ isTm (topN σ)) {m : Nat} {Q : aH → Prop} (hq : Q h) : f_X11_sums_0 SM 0 0 Q (m + 1) h := by
  unfold f_X11_sums_0
  refine sr_top hL s (sr_isTimes (Stk_top s.2.2.2.2.2.2.1) (fun y => absurd y hc) (fun _ => aIf_f (fun y => y rfl) (aIf_t rfl hq)))
theorem sm_end1 (hL : LayM h) (s : MdS n tb h i z d σ 0) (hc : ¬ isTm (topN σ)) (hp : ¬ isPl (topN σ)) {m : Nat} {Q : aH → Prop} (hq : Q h) : f_X11_sums_0 SM 0 1 Q (m + 1) h := by
  unfold f_X11_sums_0
  refine sr_top hL s (sr_isTimes (Stk_top s.2.2.2.2.2.2.1) (fun y => absurd y hc) (fun _ => aIf_f (fun y => y rfl) (aIf_f (by decide) ?_)))
  exact sr_top hL s (sr_isPlus (Stk_top s.2.2.2.2.2.2.1) (fun y => absurd y hp) (fun _ => aIf_t rfl hq))
end LmQ
