/-! ===== LAW: the reference puts down what waits ===== -/
def AccM (op ar : Nat → Int32) (z0 m1 : Nat) (acc : Option (Int32 × Sem)) (σ0 σ1 : List Nat) : Prop := match acc with
  | none => m1 = z0 ∧ σ1 = σ0
  | some p => MCo op ar z0 m1 p.2 ∧ ∃ c, isPl c ∧ p.1 = nI c ∧ σ1 = c :: σ0
def TpM (op ar : Nat → Int32) (m1 z : Nat) (tp : Option (Int32 × Sem)) (f : Sem) (σ1 σ : List Nat) : Prop := match tp with
  | none => MCo op ar m1 z f ∧ σ = σ1
  | some p => ∃ m2, MCo op ar m1 m2 p.2 ∧ MCo op ar m2 z f ∧ ∃ c, isTm c ∧ p.1 = nI c ∧ σ = c :: σ1
def pcn (a : Option (Int32 × Sem)) : Nat := match a with
  | none => 0
  | some _ => 1
theorem AccM_le {op ar : Nat → Int32} {z0 m1 : Nat} {acc : Option (Int32 × Sem)} {σ0 σ1 : List Nat} (h : AccM op ar z0 m1 acc σ0 σ1) : z0 ≤ m1 := by
  cases acc with
  | none => rw [h.1]; exact Nat.le_refl _
  | some p => exact Nat.le_of_lt (MCo_lt h.1)
theorem TpM_lt {op ar : Nat → Int32} {m1 z : Nat} {tp : Option (Int32 × Sem)} {f : Sem} {σ1 σ : List Nat} (h : TpM op ar m1 z tp f σ1 σ) : m1 < z := by
  cases tp with
  | none => exact MCo_lt h.1
  | some p =>
    obtain ⟨m2, a, b, _⟩ := h
    have := MCo_lt a
    have := MCo_lt b
    omega
theorem AccM_eq {op ar op' ar' : Nat → Int32} {z0 m1 : Nat} {acc : Option (Int32 × Sem)} {σ0 σ1 : List Nat} (h : AccM op ar z0 m1 acc σ0 σ1) (e : ∀ k, k < m1 → op' k = op k ∧ ar' k = ar k) : AccM op' ar' z0 m1 acc σ0 σ1 := by
  cases acc with
  | none => exact h
  | some p => exact ⟨MCo_eq h.1 (fun k _ hk => e k hk), h.2⟩
section LmS
variable {n : Nat} {tb : Nat → Nat} {h : aH} {j z d : Nat} {e : Int32} {σ0 σ1 σ : List Nat} {acc tp : Option (Int32 × Sem)} {f t : Sem} {z0 m1 : Nat}
theorem sm_T (hL : LayM h) (s : MdS n tb h j z d σ 0) (ht : TpM (gA h 22) (gA h 23) m1 z tp f σ1 σ) (hz : z + pcn tp ≤ 200) {a : Int32} {Q : aH → Prop} (hk : ∀ h' z', MdF 38 h h' → MdS n tb h' j z' d σ1 0 → Kq m1 h h' → MCo (gA h' 22) (gA h' 23) m1 z' (cmb tp f) → z' = z + pcn tp → ∀ m, 2 ≤ m → f_X11_sums_0 SM 0 a Q m h') : ∀ m, 3 ≤ m → f_X11_sums_0 SM 0 a Q m h := by
  intro m hm
  cases tp with
  | none =>
    obtain ⟨t1, rfl⟩ := ht
    exact hk h z MdF_rf s Kq_rf t1 rfl m (by omega)
  | some p =>
    obtain ⟨m2, t1, t2, c, tc, ec, rfl⟩ := ht
    obtain ⟨m, rfl⟩ : ∃ k, m = k + 1 := ⟨m - 1, by omega⟩
    have hz : z + 1 ≤ 200 := hz
    have l1 := MCo_lt t1
    have l2 := MCo_lt t2
    refine sm_tm hL s (by omega) tc (fun h' f' s' k' o' => hk h' (z + 1) f' s' (fun q hq => k' q (by omega)) ?_ rfl m (by omega))
    show MCo (gA h' 22) (gA h' 23) m1 (z + 1) (sBin p.1 p.2 f)
    exact MCo_bin (MCo_eq t1 (fun k _ hk => k' k (by omega))) (MCo_eq t2 (fun k _ hk => k' k (by omega))) (o'.trans ec.symm) (by rw [ec]; exact pl_op (Or.inr tc))
theorem sm_A1 (hL : LayM h) (s : MdS n tb h j z d σ1 0) (ha : AccM (gA h 22) (gA h 23) z0 m1 acc σ0 σ1) (hm : MCo (gA h 22) (gA h 23) m1 z t) (hσ : ¬ isTm (topN σ0) ∧ ¬ isPl (topN σ0)) (hz : z + pcn acc ≤ 200) {Q : aH → Prop} (hq : ∀ h' z', MdF 38 h h' → MdS n tb h' j z' d σ0 0 → Kq z0 h h' → MCo (gA h' 22) (gA h' 23) z0 z' (cmb acc t) → z' = z + pcn acc → Q h') : ∀ m, 2 ≤ m → f_X11_sums_0 SM 0 1 Q m h := by
  intro m h2
  have lm := MCo_lt hm
  obtain ⟨m, rfl⟩ : ∃ k, m = k + 1 := ⟨m - 1, by omega⟩
  cases acc with
  | none =>
    obtain ⟨rfl, rfl⟩ := ha
    exact sm_end1 hL s hσ.1 hσ.2 (hq h z MdF_rf s Kq_rf hm rfl)
  | some p =>
    obtain ⟨a1, c, pc, ec, rfl⟩ := ha
    have hz : z + 1 ≤ 200 := hz
    have l1 := MCo_lt a1
    obtain ⟨m, rfl⟩ : ∃ k, m = k + 1 := ⟨m - 1, by omega⟩
    refine sm_pl hL s (by omega) pc (fun h' f' s' k' o' => ?_)
    refine sm_end1 (MdF_L hL f') s' hσ.1 hσ.2 (hq h' (z + 1) f' s' (fun q hq => k' q (by omega)) ?_ rfl)
    show MCo (gA h' 22) (gA h' 23) z0 (z + 1) (sBin p.1 p.2 t)
    exact MCo_bin (MCo_eq a1 (fun k _ hk => k' k (by omega))) (MCo_eq hm (fun k _ hk => k' k (by omega))) (o'.trans ec.symm) (by rw [ec]; exact pl_op (Or.inl pc))
theorem sr_sums1 (hL : LayM h) (s : MdS n tb h j z d σ 0) (ha : AccM (gA h 22) (gA h 23) z0 m1 acc σ0 σ1) (ht : TpM (gA h 22) (gA h 23) m1 z tp f σ1 σ) (hσ : ¬ isTm (topN σ0) ∧ ¬ isPl (topN σ0)) (hz : z + pcn acc + pcn tp ≤ 200) {Q : aH → Prop} (hq : ∀ h' z', MdF 38 h h' → MdS n tb h' j z' d σ0 0 → Kq z0 h h' → MCo (gA h' 22) (gA h' 23) z0 z' (cmb acc (cmb tp f)) → z' = z + pcn acc + pcn tp → Q h') : f_X11_sums SM 0 1 h Q := by
  have la := AccM_le ha
  refine ⟨3, sm_T hL s ht (by omega) (fun h1 z1 f1 s1 k1 c1 e1 => ?_) 3 (Nat.le_refl _)⟩
  refine sm_A1 (MdF_L hL f1) s1 (AccM_eq ha k1) c1 hσ (by omega) (fun h2 z2 f2 s2 k2 c2 e2 => ?_)
  exact hq h2 z2 (MdF_tr f1 f2) s2 (Kq_tr (fun q hq => k1 q (by omega)) k2 (Nat.le_refl _)) c2 (by omega)
theorem sr_sums0 (hL : LayM h) (s : MdS n tb h j z d σ 0) (ha : AccM (gA h 22) (gA h 23) z0 m1 acc σ0 σ1) (ht : TpM (gA h 22) (gA h 23) m1 z tp f σ1 σ) (hσ : ¬ isTm (topN σ0) ∧ ¬ isPl (topN σ0)) (hz : z + pcn acc + pcn tp ≤ 200) {Q : aH → Prop} (hq : ∀ h' z', MdF 38 h h' → MdS n tb h' j z' d σ1 0 → Kq m1 h h' → MCo (gA h' 22) (gA h' 23) m1 z' (cmb tp f) → z' = z + pcn tp → Q h') : f_X11_sums SM 0 0 h Q := by
  refine ⟨3, sm_T hL s ht (by omega) (fun h1 z1 f1 s1 k1 c1 e1 m h2 => ?_) 3 (Nat.le_refl _)⟩
  obtain ⟨m, rfl⟩ : ∃ k, m = k + 1 := ⟨m - 1, by omega⟩
  refine sm_end0 (MdF_L hL f1) s1 ?_ (hq h1 z1 f1 s1 k1 c1 e1)
  cases acc with
  | none =>
    rw [ha.2]
    exact hσ.1
  | some p =>
    obtain ⟨_, c, pc, _, rfl⟩ := ha
    show ¬ isTm c
    rcases pc with y | y <;> rw [y] <;> decide
end LmS
/-! the loop of a value -/
def stE (K : Int32 → aH → Prop) (r2 : Int32) (h13 : aH) : Prop := aIf (r2 = 93) (f_X11_top SM 0 h13 (fun r16 h15 => aIf (r16 = 91) (∀ v18 : Int32, v18 = (gI h15 0 35) → ∀ h19 : aH, h19 = sI h15 0 35 (v18 - 1) → ∀ v20 : Int32, v20 = (gI h19 0 34) → ∀ h21 : aH, h21 = sI h19 0 34 (v20 - 1) → ∀ v22 : Int32, v22 = (gI h21 0 29) → ∀ h23 : aH, h23 = sI h21 0 29 (v22 + 1) → ∀ h24 : aH, h24 = sI h23 0 37 1 → K 1 h24) (∀ v25 : Int32, v25 = (gI h15 0 29) → f_X11_wrongs SM 0 1 v25 h15 (fun h26 => K 0 h26)))) (K 0 h13)
def vK (Q : aH → Prop) (m : Nat) (r6 : Int32) (h5 : aH) : Prop := aIf (r6 = 0) (f_X11_value_7 SM 0 Q m 0 h5) (f_X11_value_7 SM 0 Q m 1 h5)
def VB (n : Nat) (Q : aH → Prop) (j : Nat) (h : aH) : Prop := ∀ m, n + 2 ≤ m + j → f_X11_value_29 SM 0 Q (f_X11_value_7 SM 0 Q m) h
def VF (n : Nat) (Q : aH → Prop) (i : Nat) (h : aH) : Prop := ∀ m m0, n + 2 ≤ m + i → n + 2 ≤ m0 + i → f_X11_factor_0 SM 0 (fun h30 => f_X11_value_29 SM 0 Q (f_X11_value_7 SM 0 Q m) h30) m0 h
def SE (n : Nat) (tb : Nat → Nat) (Q : aH → Prop) (j : Nat) (h : aH) : Prop := ∀ m, n + 2 ≤ m + j → stE (vK Q m) (nI (tk n tb j)) h
section LmV
variable {n : Nat} {tb : Nat → Nat} {h : aH} {i z d : Nat} {e : Int32} {σ : List Nat} {Q : aH → Prop}
/-- a fault ends the loop -/
theorem v7_F (s : gI h 0 31 = e) (he : ¬ e = 0) (hq : Q h) {m : Nat} (hm : 1 ≤ m) {x : Int32} : f_X11_value_7 SM 0 Q m x h := by
  obtain ⟨m, rfl⟩ : ∃ k, m = k + 1 := ⟨m - 1, by omega⟩
  refine aIf_i (fun _ => sr_bad s he (aIf_t rfl hq)) (fun _ => sr_bad s he (aIf_t rfl (sr_bad s he (aIf_t rfl hq))))
theorem v29_F (s : gI h 0 31 = e) (he : ¬ e = 0) (hq : ∀ h', MdF 37 h h' → gI h' 0 31 = e → Q h') {m : Nat} (hm : 1 ≤ m) : f_X11_value_29 SM 0 Q (f_X11_value_7 SM 0 Q m) h := by
  intro h1 e1
  have s1 : gI h1 0 31 = e := by rw [e1, gI_n (by decide)]; exact s
  refine sr_bad s1 he (aIf_t rfl (v7_F s1 he (hq h1 ?_ s1) hm))
  rw [e1]
  exact MdF_I (by decide)
theorem MdS_37 {v : Int32} (s : MdS n tb h i z d σ e) : MdS n tb (sI h 0 37 v) i z d σ e := by
  obtain ⟨s1, s2, s3, s4, s5, s6, s7, s8, s9, s10, s11, s12⟩ := s
  exact ⟨by rw [gI_n (by decide)]; exact s1, by rw [gI_n (by decide)]; exact s2, by rw [gI_n (by decide)]; exact s3, by rw [gI_n (by decide)]; exact s4, by rw [gI_n (by decide)]; exact s5, by rw [gI_n (by decide)]; exact s6, Stk_eq s7 (fun _ _ => rfl), s8, s9, s10, s11, s12⟩
/-- the loop goes on with a factor -/
theorem v7_go (s : MdS n tb h i z d σ 0) (hb : gI h 0 37 = 0) (hv : VF n Q i h) {m : Nat} (hm : n + 3 ≤ m + i) : f_X11_value_7 SM 0 Q m 1 h := by
  have := (MdS_n s).1
  obtain ⟨m, rfl⟩ : ∃ k, m = k + 1 := ⟨m - 1, by omega⟩
  refine aIf_f (by decide) (sr_good s.2.2.1 (aIf_f (by decide) ?_))
  intro v ev
  rw [hb] at ev
  subst ev
  exact aIf_f (fun y => y rfl) ⟨n + 2, hv m (n + 2) (by omega) (by omega)⟩
/-- the loop goes on behind a bracket -/
theorem v7_be (s : MdS n tb h i z d σ 0) (hb : gI h 0 37 = 1) (hv : VB n Q i h) {m : Nat} (hm : n + 3 ≤ m + i) : f_X11_value_7 SM 0 Q m 1 h := by
  have := (MdS_n s).1
  obtain ⟨m, rfl⟩ : ∃ k, m = k + 1 := ⟨m - 1, by omega⟩
  refine aIf_f (by decide) (sr_good s.2.2.1 (aIf_f (by decide) ?_))
  intro v ev
  rw [hb] at ev
  subst ev
  exact aIf_t (by decide) (hv m (by omega))
end LmV
