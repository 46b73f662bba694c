/-! ===== LAW: conditions say 0 or 1 ===== -/
theorem isB_neg {f : Sem} (h : isB f) : isB (sNeg f) := by
  intro V a e
  unfold sNeg at e
  rcases ef : f V with _ | b
  · rw [ef] at e; cases e
  · rw [ef] at e
    have e : some (1 - b) = some a := e
    have := Option.some.inj e
    rcases h V b ef with y | y
    · rw [y] at this; exact Or.inr (by rw [← this]; decide)
    · rw [y] at this; exact Or.inl (by rw [← this]; decide)
theorem isB_and {f g : Sem} (hf : isB f) (hg : isB g) : isB (sAnd f g) := by
  intro V a e
  unfold sAnd at e
  rcases ef : f V with _ | b
  · rw [ef] at e; cases e
  · rw [ef] at e
    have e : (if b = 0 then some b else g V) = some a := e
    by_cases c : b = 0
    · rw [if_pos c] at e
      rw [← Option.some.inj e]
      exact hf V b ef
    · rw [if_neg c] at e
      exact hg V a e
theorem isB_or {f g : Sem} (hf : isB f) (hg : isB g) : isB (sOr f g) := by
  intro V a e
  unfold sOr at e
  rcases ef : f V with _ | b
  · rw [ef] at e; cases e
  · rw [ef] at e
    have e : (if b = 0 then g V else some b) = some a := e
    by_cases c : b = 0
    · rw [if_pos c] at e
      exact hg V a e
    · rw [if_neg c] at e
      rw [← Option.some.inj e]
      exact hf V b ef
theorem isB_cmp {c : Nat} {f g : Sem} (hc : isCm c) : isB (sBin (nI c) f g) := by
  intro V a e
  unfold sBin at e
  rcases ef : f V with _ | x
  · rw [ef] at e; cases e
  rw [ef] at e
  rcases eg : g V with _ | y
  · rw [eg] at e; cases e
  rw [eg] at e
  have e : opv (nI c) x y = some a := e
  have q : ∀ (p : Prop) [Decidable p] (u v : Int32), (u = 0 ∨ u = 1) → (v = 0 ∨ v = 1) → some (if p then u else v) = some a → a = 0 ∨ a = 1 := by
    intro p _ u v hu hv e
    have e := Option.some.inj e
    split at e
    · rw [← e]; exact hu
    · rw [← e]; exact hv
  rcases hc with y1 | y1 | y1 <;> rw [y1] at e
  · exact q _ _ _ (Or.inl rfl) (Or.inr rfl) e
  · exact q _ _ _ (Or.inl rfl) (Or.inr rfl) e
  · exact q _ _ _ (Or.inr rfl) (Or.inl rfl) e
section Bs
variable {n : Nat} {tb : Nat → Nat}
theorem thenS_r {c : Nat} {R : Rs} {j : Nat} {f : Sem} (h : thenS n tb c R = .inr (j, f)) : ∃ k, R = .inr (k, f) ∧ tk n tb k = c ∧ j = k + 1 := by
  unfold thenS at h
  rcases R with e | p
  · cases h
  · have h : (if tk n tb p.1 = c then (.inr (p.1 + 1, p.2) : Rs) else .inl (er 1 p.1)) = .inr (j, f) := h
    by_cases c1 : tk n tb p.1 = c
    · rw [if_pos c1] at h
      have h := Sum.inr.inj h
      exact ⟨p.1, by rw [← (Prod.mk.inj h).2], c1, (Prod.mk.inj h).1.symm⟩
    · rw [if_neg c1] at h
      cases h
theorem cmO_B {o : Option Sem} {a : Sem} (ho : ∀ g, o = some g → isB g) (ha : isB a) : isB (cmO o a) := by
  cases o with
  | none => exact ha
  | some g => exact isB_or (ho g rfl) ha
theorem cdlS_B {Fs : Nat → Rs} (hF : ∀ i j f, Fs i = .inr (j, f) → isB f) : ∀ (w j : Nat) (o : Option Sem) (a : Sem) (k : Nat) (f : Sem), (∀ g, o = some g → isB g) → isB a → cdlS n tb Fs w j o a = .inr (k, f) → isB f := by
  intro w
  induction w with
  | zero =>
    intro j o a k f ho ha h
    have h := Sum.inr.inj h
    rw [← (Prod.mk.inj h).2]
    exact cmO_B ho ha
  | succ w ih =>
    intro j o a k f ho ha h
    unfold cdlS at h
    by_cases c1 : tk n tb j = 38
    · rw [if_pos c1] at h
      rcases e : Fs (j + 1) with x | p
      · rw [e] at h; cases h
      · rw [e] at h
        exact ih p.1 o (sAnd a p.2) k f ho (isB_and ha (hF _ p.1 p.2 e)) h
    · rw [if_neg c1] at h
      by_cases c2 : tk n tb j = 124
      · rw [if_pos c2] at h
        rcases e : Fs (j + 1) with x | p
        · rw [e] at h; cases h
        · rw [e] at h
          exact ih p.1 (some (cmO o a)) p.2 k f (fun g eg => by rw [← Option.some.inj eg]; exact cmO_B ho ha) (hF _ p.1 p.2 e) h
      · rw [if_neg c2] at h
        have h := Sum.inr.inj h
        rw [← (Prod.mk.inj h).2]
        exact cmO_B ho ha
theorem pcS_B : ∀ (r : Nat) (b : Bool) (d i j : Nat) (f : Sem), pcS n tb r b d i = .inr (j, f) → isB f := by
  intro r
  induction r with
  | zero => intro b d i j f h; cases b <;> cases h
  | succ r ih =>
    intro b d i j f h
    cases b with
    | false =>
      unfold pcS at h
      rcases e : pcS n tb r true d i with x | p
      · rw [e] at h; cases h
      · rw [e] at h
        exact cdlS_B (fun i j f => ih true d i j f) n p.1 none p.2 j f (fun g eg => by cases eg) (ih true d i p.1 p.2 e) h
    | true =>
      unfold pcS pieS at h
      by_cases c1 : tk n tb i = 33
      · rw [if_pos c1] at h
        by_cases c6 : 6 ≤ d
        · rw [if_pos c6] at h; cases h
        · rw [if_neg c6] at h
          rcases e : pcS n tb r true (d + 1) (i + 1) with x | p
          · rw [e] at h; cases h
          · rw [e] at h
            have h := Sum.inr.inj h
            rw [← (Prod.mk.inj h).2]
            exact isB_neg (ih true (d + 1) (i + 1) p.1 p.2 e)
      · rw [if_neg c1] at h
        by_cases c2 : tk n tb i = 40
        · rw [if_pos c2] at h
          by_cases c6 : 6 ≤ d
          · rw [if_pos c6] at h; cases h
          · rw [if_neg c6] at h
            obtain ⟨k, e, _, _⟩ := thenS_r h
            exact ih false (d + 1) (i + 1) k f e
        · rw [if_neg c2] at h
          unfold cmpS at h
          rcases e : exprS n tb d i with x | p
          · rw [e] at h; cases h
          · rw [e] at h
            have h : (if isCm (tk n tb p.1) then (match exprS n tb d (p.1 + 1) with | .inl e => .inl e | .inr q => .inr (q.1, sBin (nI (tk n tb p.1)) p.2 q.2)) else .inl (er 1 p.1) : Rs) = .inr (j, f) := h
            by_cases c3 : isCm (tk n tb p.1)
            · rw [if_pos c3] at h
              rcases e2 : exprS n tb d (p.1 + 1) with x | q
              · rw [e2] at h; cases h
              · rw [e2] at h
                have h := Sum.inr.inj h
                rw [← (Prod.mk.inj h).2]
                exact isB_cmp c3
            · rw [if_neg c3] at h; cases h
end Bs
/-! ===== LAW: the reference joins pieces ===== -/
def AccO (op ar : Nat → Int32) (z0 m1 : Nat) (acc : Option Sem) (σ0 σ1 : List Nat) : Prop := match acc with
  | none => m1 = z0 ∧ σ1 = σ0
  | some g => MCo op ar z0 m1 g ∧ isB g ∧ σ1 = 124 :: σ0
def TpA (op ar : Nat → Int32) (m1 z : Nat) (ap : Option Sem) (f : Sem) (σ1 σ : List Nat) : Prop := match ap with
  | none => MCo op ar m1 z f ∧ σ = σ1
  | some g => ∃ m2, MCo op ar m1 m2 g ∧ isB g ∧ MCo op ar m2 z f ∧ σ = 38 :: σ1
def pcO (a : Option Sem) : Nat := match a with
  | none => 0
  | some _ => 1
def cmA (a : Option Sem) (f : Sem) : Sem := match a with
  | none => f
  | some g => sAnd g f
theorem AccO_le {op ar : Nat → Int32} {z0 m1 : Nat} {acc : Option Sem} {σ0 σ1 : List Nat} (h : AccO op ar z0 m1 acc σ0 σ1) : z0 ≤ m1 := by
  cases acc with
  | none => rw [h.1]; exact Nat.le_refl _
  | some p => exact Nat.le_of_lt (MCo_lt h.1)
theorem TpA_lt {op ar : Nat → Int32} {m1 z : Nat} {tp : Option Sem} {f : Sem} {σ1 σ : List Nat} (h : TpA op ar m1 z tp f σ1 σ) : m1 < z := by
  cases tp with
  | none => exact MCo_lt h.1
  | some p =>
    obtain ⟨m2, a, _, b, _⟩ := h
    have := MCo_lt a
    have := MCo_lt b
    omega
theorem AccO_eq {op ar op' ar' : Nat → Int32} {z0 m1 : Nat} {acc : Option Sem} {σ0 σ1 : List Nat} (h : AccO op ar z0 m1 acc σ0 σ1) (e : ∀ k, k < m1 → op' k = op k ∧ ar' k = ar k) : AccO op' ar' z0 m1 acc σ0 σ1 := by
  cases acc with
  | none => exact h
  | some p => exact ⟨MCo_eq h.1 (fun k _ hk => e k hk), h.2⟩
theorem cmA_B {ap : Option Sem} {f : Sem} {op ar : Nat → Int32} {m1 z : Nat} {σ1 σ : List Nat} (h : TpA op ar m1 z ap f σ1 σ) (hf : isB f) : isB (cmA ap f) := by
  cases ap with
  | none => exact hf
  | some g =>
    obtain ⟨_, _, a, _⟩ := h
    exact isB_and a hf
theorem cmO_Bs {o : Option Sem} {t : Sem} {op ar : Nat → Int32} {m1 z : Nat} {σ1 σ : List Nat} (h : AccO op ar m1 z o σ1 σ) (ht : isB t) : isB (cmO o t) := by
  cases o with
  | none => exact ht
  | some g => exact isB_or h.2.1 ht
section LmJ
variable {n : Nat} {tb : Nat → Nat} {h : aH} {j z d : Nat} {e : Int32} {σ0 σ1 σ : List Nat} {acc tp : Option Sem} {f t : Sem} {z0 m1 : Nat}
theorem jn_T (hL : LayM h) (s : MdS n tb h j z d σ 0) (ht : TpA (gA h 22) (gA h 23) m1 z tp f σ1 σ) (hz : z + pcO tp ≤ 200) {a : Int32} {Q : aH → Prop} (hk : ∀ h' z', MdF 38 h h' → MdS n tb h' j z' d σ1 0 → Kq m1 h h' → MCo (gA h' 22) (gA h' 23) m1 z' (cmA tp f) → z' = z + pcO tp → ∀ m, 2 ≤ m → f_X11_joins_0 SM 0 a Q m h') : ∀ m, 3 ≤ m → f_X11_joins_0 SM 0 a Q m h := by
  intro m hm
  cases tp with
  | none =>
    obtain ⟨t1, rfl⟩ := ht
    exact hk h z MdF_rf s Kq_rf t1 rfl m (by omega)
  | some g =>
    obtain ⟨m2, t1, tb1, t2, rfl⟩ := ht
    obtain ⟨m, rfl⟩ : ∃ k, m = k + 1 := ⟨m - 1, by omega⟩
    have hz : z + 1 ≤ 200 := hz
    have l1 := MCo_lt t1
    have l2 := MCo_lt t2
    unfold f_X11_joins_0
    refine sr_top hL s (aIf_t rfl (sm_off hL s (by omega) (fun h' f' s' k' o' => hk h' (z + 1) f' s' (fun q hq => k' q (by omega)) ?_ rfl m (by omega))))
    exact MCo_and (MCo_eq t1 (fun k _ hk => k' k (by omega))) (MCo_eq t2 (fun k _ hk => k' k (by omega))) tb1 o'
theorem jn_A1 (hL : LayM h) (s : MdS n tb h j z d σ1 0) (ha : AccO (gA h 22) (gA h 23) z0 m1 acc σ0 σ1) (hm : MCo (gA h 22) (gA h 23) m1 z t) (hσ : ¬ topN σ0 = 38 ∧ ¬ topN σ0 = 124) (hz : z + pcO acc ≤ 200) {Q : aH → Prop} (hq : ∀ h' z', MdF 38 h h' → MdS n tb h' j z' d σ0 0 → Kq z0 h h' → MCo (gA h' 22) (gA h' 23) z0 z' (cmO acc t) → z' = z + pcO acc → Q h') : ∀ m, 2 ≤ m → f_X11_joins_0 SM 0 1 Q m h := by
  intro m h2
  have lm := MCo_lt hm
  have fin : ∀ (h : aH) (z m : Nat), LayM h → MdS n tb h j z d σ0 0 → Q h → f_X11_joins_0 SM 0 1 Q (m + 1) h := by
    intro h z m hL s hq
    have tb := Stk_top s.2.2.2.2.2.2.1
    have e : ∀ c, c < 256 → (nI (topN σ0) = nI c ↔ topN σ0 = c) := fun c hc => nI_eq (by omega) (by omega)
    unfold f_X11_joins_0
    refine sr_top hL s (aIf_f (fun y => hσ.1 ((e 38 (by decide)).mp y)) (aIf_f (by decide) (sr_top hL s (aIf_t (fun y => hσ.2 ((e 124 (by decide)).mp y)) hq))))
  obtain ⟨m, rfl⟩ : ∃ k, m = k + 1 := ⟨m - 1, by omega⟩
  cases acc with
  | none =>
    obtain ⟨rfl, rfl⟩ := ha
    exact fin h z m hL s (hq h z MdF_rf s Kq_rf hm rfl)
  | some p =>
    obtain ⟨a1, ab, rfl⟩ := ha
    have hz : z + 1 ≤ 200 := hz
    have l1 := MCo_lt a1
    obtain ⟨m, rfl⟩ : ∃ k, m = k + 1 := ⟨m - 1, by omega⟩
    unfold f_X11_joins_0
    refine sr_top hL s (aIf_f (show ¬ nI 124 = 38 by decide) (aIf_f (by decide) (sr_top hL s (aIf_f (fun y => y rfl) (sm_off hL s (by omega) (fun h' f' s' k' o' => ?_))))))
    refine fin h' (z + 1) m (MdF_L hL f') s' (hq h' (z + 1) f' s' (fun q hq => k' q (by omega)) ?_ rfl)
    exact MCo_or (MCo_eq a1 (fun k _ hk => k' k (by omega))) (MCo_eq hm (fun k _ hk => k' k (by omega))) ab o'
theorem sr_joins1 (hL : LayM h) (s : MdS n tb h j z d σ 0) (ha : AccO (gA h 22) (gA h 23) z0 m1 acc σ0 σ1) (ht : TpA (gA h 22) (gA h 23) m1 z tp f σ1 σ) (hσ : ¬ topN σ0 = 38 ∧ ¬ topN σ0 = 124) (hz : z + pcO acc + pcO tp ≤ 200) {Q : aH → Prop} (hq : ∀ h' z', MdF 38 h h' → MdS n tb h' j z' d σ0 0 → Kq z0 h h' → MCo (gA h' 22) (gA h' 23) z0 z' (cmO acc (cmA tp f)) → z' = z + pcO acc + pcO tp → Q h') : f_X11_joins SM 0 1 h Q := by
  have la := AccO_le ha
  refine ⟨3, jn_T hL s ht (by omega) (fun h1 z1 f1 s1 k1 c1 e1 => ?_) 3 (Nat.le_refl _)⟩
  refine jn_A1 (MdF_L hL f1) s1 (AccO_eq ha k1) c1 hσ (by omega) (fun h2 z2 f2 s2 k2 c2 e2 => ?_)
  exact hq h2 z2 (MdF_tr f1 f2) s2 (Kq_tr (fun q hq => k1 q (by omega)) k2 (Nat.le_refl _)) c2 (by omega)
theorem sr_joins0 (hL : LayM h) (s : MdS n tb h j z d σ 0) (ha : AccO (gA h 22) (gA h 23) z0 m1 acc σ0 σ1) (ht : TpA (gA h 22) (gA h 23) m1 z tp f σ1 σ) (hσ : ¬ topN σ0 = 38 ∧ ¬ topN σ0 = 124) (hz : z + pcO acc + pcO tp ≤ 200) {Q : aH → Prop} (hq : ∀ h' z', MdF 38 h h' → MdS n tb h' j z' d σ1 0 → Kq m1 h h' → MCo (gA h' 22) (gA h' 23) m1 z' (cmA tp f) → z' = z + pcO tp → Q h') : f_X11_joins SM 0 0 h Q := by
  refine ⟨3, jn_T hL s ht (by omega) (fun h1 z1 f1 s1 k1 c1 e1 m h2 => ?_) 3 (Nat.le_refl _)⟩
  obtain ⟨m, rfl⟩ : ∃ k, m = k + 1 := ⟨m - 1, by omega⟩
  have tn : ¬ nI (topN σ1) = 38 := by
    have tb := Stk_top s1.2.2.2.2.2.2.1
    intro y
    have y := (nI_eq (a := topN σ1) (b := 38) (by omega) (by decide)).mp y
    cases acc with
    | none =>
      rw [ha.2] at y
      exact hσ.1 y
    | some p =>
      obtain ⟨_, _, rfl⟩ := ha
      exact absurd y (show ¬ 124 = 38 by decide)
  unfold f_X11_joins_0
  exact sr_top (MdF_L hL f1) s1 (aIf_f tn (aIf_t rfl (hq h1 z1 f1 s1 k1 c1 e1)))
end LmJ
