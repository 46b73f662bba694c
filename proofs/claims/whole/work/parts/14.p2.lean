/-! ===== what the law says: the reference ===== -/
def letB (k : Nat) : Int32 := [105, 110, 104, 120, 121, 109, 107, 115, 112, 100, 119, 113].getD k 0
def isB (f : Sem) : Prop := ∀ V a, f V = some a → a = 0 ∨ a = 1
def MCl (op ar : Nat → Int32) (P : Nat → Nat → Sem → Prop) : Prop :=
  (∀ i v, op i = 0 → ar i = v → P i (i + 1) (sNum v)) ∧
  (∀ i k, k < 12 → op i = 1 → ar i = letB k → P i (i + 1) (sLt k)) ∧
  (∀ i j m o f g, P i j f → P j m g → op m = o → isOp o → P i (m + 1) (sBin o f g)) ∧
  (∀ i j f, P i j f → op j = 2 → P i (j + 1) (sNeg f)) ∧
  (∀ i j m f g, P i j f → P j m g → isB f → op m = 38 → P i (m + 1) (sAnd f g)) ∧
  (∀ i j m f g, P i j f → P j m g → isB f → op m = 124 → P i (m + 1) (sOr f g))
def MCo (op ar : Nat → Int32) (i j : Nat) (f : Sem) : Prop := ∀ P, MCl op ar P → P i j f
section MCo
variable {op ar op' ar' : Nat → Int32} {i j m : Nat} {f g : Sem} {o v : Int32}
theorem MCo_num (h1 : op i = 0) (h2 : ar i = v) : MCo op ar i (i + 1) (sNum v) := fun _ c => c.1 _ _ h1 h2
theorem MCo_let {k : Nat} (hk : k < 12) (h1 : op i = 1) (h2 : ar i = letB k) : MCo op ar i (i + 1) (sLt k) := fun _ c => c.2.1 _ _ hk h1 h2
theorem MCo_bin (h1 : MCo op ar i j f) (h2 : MCo op ar j m g) (h3 : op m = o) (h4 : isOp o) : MCo op ar i (m + 1) (sBin o f g) := fun P c => c.2.2.1 _ _ _ _ _ _ (h1 P c) (h2 P c) h3 h4
theorem MCo_neg (h1 : MCo op ar i j f) (h2 : op j = 2) : MCo op ar i (j + 1) (sNeg f) := fun P c => c.2.2.2.1 _ _ _ (h1 P c) h2
theorem MCo_and (h1 : MCo op ar i j f) (h2 : MCo op ar j m g) (h3 : isB f) (h4 : op m = 38) : MCo op ar i (m + 1) (sAnd f g) := fun P c => c.2.2.2.2.1 _ _ _ _ _ (h1 P c) (h2 P c) h3 h4
theorem MCo_or (h1 : MCo op ar i j f) (h2 : MCo op ar j m g) (h3 : isB f) (h4 : op m = 124) : MCo op ar i (m + 1) (sOr f g) := fun P c => c.2.2.2.2.2 _ _ _ _ _ (h1 P c) (h2 P c) h3 h4
theorem MCo_lt (h : MCo op ar i j f) : i < j :=
  h (fun i j _ => i < j) ⟨fun _ _ _ _ => by omega, fun _ _ _ _ _ => by omega, fun _ _ _ _ _ _ h1 h2 _ _ => by omega, fun _ _ _ h1 _ => by omega, fun _ _ _ _ _ h1 h2 _ _ => by omega, fun _ _ _ _ _ h1 h2 _ _ => by omega⟩
theorem MCo_eq (h : MCo op ar i j f) (e : ∀ k, i ≤ k → k < j → op' k = op k ∧ ar' k = ar k) : MCo op' ar' i j f := by
  refine (h (fun i j f => i < j ∧ ((∀ k, i ≤ k → k < j → op' k = op k ∧ ar' k = ar k) → MCo op' ar' i j f)) ⟨?_, ?_, ?_, ?_, ?_, ?_⟩).2 e
  · exact fun i v h2 h3 => ⟨by omega, fun e => MCo_num ((e _ (by omega) (by omega)).1.trans h2) ((e _ (by omega) (by omega)).2.trans h3)⟩
  · exact fun i v hk h2 h3 => ⟨by omega, fun e => MCo_let hk ((e _ (by omega) (by omega)).1.trans h2) ((e _ (by omega) (by omega)).2.trans h3)⟩
  · exact fun i j m o f g h1 h2 h4 h5 => ⟨by omega, fun e => MCo_bin (h1.2 (fun k a b => e k (by omega) (by omega))) (h2.2 (fun k a b => e k (by omega) (by omega))) ((e _ (by omega) (by omega)).1.trans h4) h5⟩
  · exact fun i j f h1 h2 => ⟨by omega, fun e => MCo_neg (h1.2 (fun k a b => e k (by omega) (by omega))) ((e _ (by omega) (by omega)).1.trans h2)⟩
  · exact fun i j m f g h1 h2 h3 h4 => ⟨by omega, fun e => MCo_and (h1.2 (fun k a b => e k (by omega) (by omega))) (h2.2 (fun k a b => e k (by omega) (by omega))) h3 ((e _ (by omega) (by omega)).1.trans h4)⟩
  · exact fun i j m f g h1 h2 h3 h4 => ⟨by omega, fun e => MCo_or (h1.2 (fun k a b => e k (by omega) (by omega))) (h2.2 (fun k a b => e k (by omega) (by omega))) h3 ((e _ (by omega) (by omega)).1.trans h4)⟩
end MCo
/-- nothing but worths and isRefused from t on has changed -/
def MF (t : Nat) (h h' : aH) : Prop := h'.2.2 = h.2.2 ∧ (∀ c i, ¬ ((c = 25 ∨ c = 26) ∧ t ≤ i) → gA h' c i = gA h c i) ∧ ∀ c j, gI h' c j = gI h c j
theorem MF_rf {t : Nat} {h : aH} : MF t h h := ⟨rfl, fun _ _ _ => rfl, fun _ _ => rfl⟩
theorem MF_tr {t t' : Nat} {a b c : aH} (x : MF t a b) (y : MF t' b c) (ht : t ≤ t') : MF t a c :=
  ⟨y.1.trans x.1, fun k i hk => (y.2.1 k i (fun z => hk ⟨z.1, by omega⟩)).trans (x.2.1 k i hk), fun k i => (y.2.2 k i).trans (x.2.2 k i)⟩
theorem MF_sA {t c i : Nat} {h : aH} {v : Int32} (hc : c = 25 ∨ c = 26) (ht : t ≤ i) : MF t h (sA h c i v) :=
  ⟨rfl, fun a j ha => by rw [gA_sA, if_neg (fun z => ha ⟨by omega, by omega⟩)], fun _ _ => rfl⟩
theorem MF_up {t t' : Nat} {h h' : aH} (x : MF t' h h') (ht : t ≤ t') : MF t h h' := ⟨x.1, fun c i hc => x.2.1 c i (fun z => hc ⟨z.1, by omega⟩), x.2.2⟩
/-- a value or a refusal at place t -/
def vAt (h : aH) (t : Nat) (o : Option Int32) : Prop := match o with
  | none => gA h 26 t = 1
  | some v => gA h 26 t = 0 ∧ gA h 25 t = v
theorem vAt_F {h h' : aH} {t t' : Nat} {o : Option Int32} (hf : MF t' h h') (ht : t < t') (hv : vAt h t o) : vAt h' t o := by
  cases o with
  | none => exact (hf.2.1 26 t (by omega)).trans hv
  | some v => exact ⟨(hf.2.1 26 t (by omega)).trans hv.1, (hf.2.1 25 t (by omega)).trans hv.2⟩
theorem vAt_B {h : aH} {t : Nat} {o : Option Int32} (hv : vAt h t o) : aB (gA h 26 t) := by
  cases o with
  | none => rw [show gA h 26 t = 1 from hv]; exact aB1
  | some v => rw [hv.1]; exact aB0
section Works
variable {h : aH} {op ar V : Nat → Int32} {to : Int32} {Q : aH → Prop}
theorem sr_worked {o a b : Int32} {Q : Int32 → aH → Prop} (ho : isOp o) (h1 : ∀ r, (∀ z, opv o a b = some z → r = z) → Q r h) : f_X11_worked SM o a b h Q := by
  unfold f_X11_worked
  rcases ho with e | e | e | e | e | e | e | e <;> subst e
  · exact aIf_f (by decide) (aIf_t rfl (h1 _ (fun z e => Option.some.inj e)))
  · exact aIf_f (by decide) (aIf_f (by decide) (aIf_t rfl (h1 _ (fun z e => Option.some.inj e))))
  · exact aIf_f (by decide) (aIf_f (by decide) (aIf_f (by decide) (aIf_t rfl (h1 _ (fun z e => Option.some.inj e)))))
  · refine aIf_f (by decide) (aIf_f (by decide) (aIf_f (by decide) (aIf_f (by decide) (aIf_t rfl ?_))))
    have e : opv 47 a b = if b = 0 then none else some (a / b) := rfl
    refine aIf_i (fun c => ⟨c, h1 _ (fun z ez => ?_)⟩) (fun c => h1 _ (fun z ez => ?_))
    · rw [e, if_neg c] at ez; exact Option.some.inj ez
    · rw [e, if_pos (Classical.not_not.mp c)] at ez; cases ez
  · refine aIf_t rfl ?_
    have e : opv 37 a b = if b = 0 then none else some (a - a / b * b) := rfl
    refine aIf_i (fun c => ⟨c, h1 _ (fun z ez => ?_)⟩) (fun c => h1 _ (fun z ez => ?_))
    · rw [e, if_neg c] at ez; exact Option.some.inj ez
    · rw [e, if_pos (Classical.not_not.mp c)] at ez; cases ez
  · refine aIf_f (by decide) (aIf_f (by decide) (aIf_f (by decide) (aIf_f (by decide) (aIf_f (by decide) (aIf_t rfl ?_)))))
    have e : opv 60 a b = some (if b ≤ a then 0 else 1) := rfl
    refine aIf_i (fun c => h1 _ (fun z ez => ?_)) (fun c => h1 _ (fun z ez => ?_))
    · rw [e, if_pos c] at ez; exact Option.some.inj ez
    · rw [e, if_neg c] at ez; exact Option.some.inj ez
  · refine aIf_f (by decide) (aIf_f (by decide) (aIf_f (by decide) (aIf_f (by decide) (aIf_f (by decide) (aIf_f (by decide) (aIf_f (by decide) ?_))))))
    have e : opv 61 a b = some (if a = b then 1 else 0) := rfl
    refine aIf_i (fun c => h1 _ (fun z ez => ?_)) (fun c => h1 _ (fun z ez => ?_))
    · rw [e, if_neg c] at ez; exact Option.some.inj ez
    · rw [e, if_pos (Classical.not_not.mp c)] at ez; exact Option.some.inj ez
  · refine aIf_f (by decide) (aIf_f (by decide) (aIf_f (by decide) (aIf_f (by decide) (aIf_f (by decide) (aIf_f (by decide) (aIf_t rfl ?_))))))
    have e : opv 62 a b = some (if a ≤ b then 0 else 1) := rfl
    refine aIf_i (fun c => h1 _ (fun z ez => ?_)) (fun c => h1 _ (fun z ez => ?_))
    · rw [e, if_pos c] at ez; exact Option.some.inj ez
    · rw [e, if_neg c] at ez; exact Option.some.inj ez
theorem isOp_m {o : Int32} (ho : isOp o) : ¬ o ≤ 2 ∧ ¬ o = 38 ∧ ¬ o = 124 := by
  rcases ho with e | e | e | e | e | e | e | e <;> subst e <;> decide
/-- the answer of a sign, both sides at hand -/
def bin2 (o : Int32) (a b : Option Int32) : Option Int32 := match a with
  | none => none
  | some x => match b with
    | none => none
    | some y => opv o x y
theorem opv_none {o a b : Int32} (ho : isOp o) : opv o a b = none ↔ (o = 47 ∨ o = 37) ∧ b = 0 := by
  rcases ho with e | e | e | e | e | e | e | e <;> subst e
  · exact ⟨fun z => (by cases z), fun z => absurd z.1 (by decide)⟩
  · exact ⟨fun z => (by cases z), fun z => absurd z.1 (by decide)⟩
  · exact ⟨fun z => (by cases z), fun z => absurd z.1 (by decide)⟩
  · have e : opv 47 a b = if b = 0 then none else some (a / b) := rfl
    rw [e]
    by_cases c : b = 0
    · rw [if_pos c]; exact ⟨fun _ => ⟨Or.inl rfl, c⟩, fun _ => rfl⟩
    · rw [if_neg c]; exact ⟨fun z => (by cases z), fun z => absurd z.2 c⟩
  · have e : opv 37 a b = if b = 0 then none else some (a - a / b * b) := rfl
    rw [e]
    by_cases c : b = 0
    · rw [if_pos c]; exact ⟨fun _ => ⟨Or.inr rfl, c⟩, fun _ => rfl⟩
    · rw [if_neg c]; exact ⟨fun z => (by cases z), fun z => absurd z.2 c⟩
  · exact ⟨fun z => (by cases z), fun z => absurd z.1 (by decide)⟩
  · exact ⟨fun z => (by cases z), fun z => absurd z.1 (by decide)⟩
  · exact ⟨fun z => (by cases z), fun z => absurd z.1 (by decide)⟩
theorem sr_does_op (hL : LayM h) {o : Int32} (ho : isOp o) {t : Nat} (ht : t + 1 < 240) {x y : Option Int32} (hx : vAt h t x) (hy : vAt h (t + 1) y) (hq : ∀ h', MF t h h' → vAt h' t (bin2 o x y) → Q h') : f_X11_does SM 0 o (nI t) h Q := by
  intro x3 e3
  rw [nI_1] at e3
  subst e3
  obtain ⟨n2, n38, n124⟩ := isOp_m ho
  refine aIf_f n38 (aIf_t n124 ?_)
  have f115 : bin2 o x y = none → f_X11_does_115 SM 0 o (nI t) Q (nI (t + 1)) (nI t) (gR h 0 44) h := by
    intro e
    unfold f_X11_does_115
    rw [m_44 hL, mi_26, vp_lt (show t < 240 by omega) (by decide), cl (by omega)]
    refine ⟨trivial, fun h12 e12 => ?_⟩
    have hL2 : LayM h12 := by subst e12; exact hL
    have hf : MF t h h12 := by subst e12; exact MF_sA (Or.inr rfl) (Nat.le_refl _)
    have g26 : gA h12 26 t = 1 := by subst e12; rw [gA_sA, if_pos ⟨rfl, rfl⟩]
    rw [m_43 hL2, mi_25, vp_lt (show t < 240 by omega) (by decide)]
    refine ⟨trivial, fun v ev => ?_⟩
    rw [mi_25, vp_lt (show t + 1 < 240 by omega) (by decide)]
    refine ⟨trivial, fun v' ev' => ?_⟩
    refine sr_worked ho (fun r er => ⟨trivial, fun h20 e20 => ?_⟩)
    subst e20
    refine hq _ (MF_tr hf (MF_sA (Or.inl rfl) (Nat.le_refl _)) (Nat.le_refl _)) ?_
    rw [e]
    show gA (sA h12 25 t r) 26 t = 1
    rw [gA_sA, if_neg (fun z => absurd z.1 (by decide))]
    exact g26
  have f119 : ∀ a b c, x = some a → y = some b → opv o a b = some c → f_X11_does_119 SM 0 o (nI t) Q (nI (t + 1)) (nI t) (gR h 0 44) h := by
    intro a b c ea eb ec
    subst ea
    subst eb
    unfold f_X11_does_119
    rw [m_44 hL, mi_26, vp_lt (show t < 240 by omega) (by decide), cl (by omega)]
    refine ⟨trivial, fun h12 e12 => ?_⟩
    have hL2 : LayM h12 := by subst e12; exact hL
    have hf : MF t h h12 := by subst e12; exact MF_sA (Or.inr rfl) (Nat.le_refl _)
    have g26 : gA h12 26 t = 0 := by subst e12; rw [gA_sA, if_pos ⟨rfl, rfl⟩]
    have g25 : ∀ i, gA h12 25 i = gA h 25 i := fun i => by subst e12; rw [gA_sA, if_neg (fun z => absurd z.1 (by decide))]
    rw [m_43 hL2, mi_25, vp_lt (show t < 240 by omega) (by decide), g25, hx.2]
    refine ⟨trivial, fun v ev => ?_⟩
    subst ev
    rw [mi_25, vp_lt (show t + 1 < 240 by omega) (by decide), cl (by omega), g25, hy.2]
    refine ⟨trivial, fun v' ev' => ?_⟩
    subst ev'
    refine sr_worked ho (fun r er => ⟨trivial, fun h20 e20 => ?_⟩)
    subst e20
    refine hq _ (MF_tr hf (MF_sA (Or.inl rfl) (Nat.le_refl _)) (Nat.le_refl _)) ?_
    rw [show bin2 o (some v) (some v') = some c from ec]
    refine ⟨?_, ?_⟩
    · rw [gA_sA, if_neg (fun z => absurd z.1 (by decide))]
      exact g26
    · rw [gA_sA, if_pos ⟨rfl, rfl⟩]
      exact er c ec
  rw [m_44 hL, mi_26, vp_lt (show t < 240 by omega) (by decide), cl (by omega)]
  rw [m_44 hL] at f115 f119
  refine ⟨trivial, fun v e => ?_⟩
  subst e
  cases x with
  | none => exact aIf_t (by rw [show gA h 26 t = 1 from hx]; decide) (f115 rfl)
  | some a =>
    refine aIf_f (by rw [hx.1]; decide) ?_
    rw [mi_26, vp_lt (show t + 1 < 240 by omega) (by decide), cl (by omega)]
    refine ⟨trivial, fun v e => ?_⟩
    subst e
    cases y with
    | none => exact aIf_t (by rw [show gA h 26 (t + 1) = 1 from hy]; decide) (f115 rfl)
    | some b =>
      refine aIf_f (by rw [hy.1]; decide) ?_
      have nn : ¬ opv o a b = none → ∃ c, opv o a b = some c := fun z => by
        rcases e : opv o a b with _ | c
        · exact absurd e z
        · exact ⟨c, rfl⟩
      have rd : aIn SM 0 (gR h 0 43) (nI (t + 1)) ∧ gA h (gR h 0 43) (t + 1) = b := by
        rw [m_43 hL, mi_25, vp_lt (show t + 1 < 240 by omega) (by decide)]
        exact ⟨trivial, hy.2⟩
      refine aIf_i (fun c => ⟨rd.1, fun v e => ?_⟩) (fun c => aIf_i (fun c2 => ?_) (fun c2 => ⟨rd.1, fun v e => ?_⟩))
      · rw [rd.2] at e
        subst e
        refine aIf_i (fun c0 => ?_) (fun c0 => f115 ((opv_none ho).mpr ⟨Or.inl c, Classical.not_not.mp c0⟩))
        obtain ⟨r, er⟩ := nn (fun z => c0 ((opv_none ho).mp z).2)
        exact f119 a v r rfl rfl er
      · obtain ⟨r, er⟩ := nn (fun z => ((opv_none ho).mp z).1.elim c c2)
        exact f119 a b r rfl rfl er
      · rw [rd.2] at e
        subst e
        refine aIf_i (fun c0 => ?_) (fun c0 => f115 ((opv_none ho).mpr ⟨Or.inr (Classical.not_not.mp c2), Classical.not_not.mp c0⟩))
        obtain ⟨r, er⟩ := nn (fun z => c0 ((opv_none ho).mp z).2)
        exact f119 a v r rfl rfl er
theorem sr_does_42 (hL : LayM h) {o s0 s1 : Int32} {t : Nat} (ht : t + 1 < 240) {y : Option Int32} (hy : vAt h (t + 1) y) (h0 : ¬ s1 = s0 → Q h) (h1 : s1 = s0 → ∀ h', MF t h h' → vAt h' t y → Q h') : f_X11_does_42 SM 0 o (nI t) Q (nI (t + 1)) s0 s1 h := by
  unfold f_X11_does_42
  refine aIf_i (fun c => ?_) h0
  rw [m_43 hL, mi_25, mi_25, vp_lt (show t < 240 by omega) (by decide), vp_lt (show t + 1 < 240 by omega) (by decide), cl (by omega), cl (by omega)]
  refine ⟨trivial, fun v ev => ⟨trivial, fun h5 e5 => ?_⟩⟩
  have hL5 : LayM h5 := by subst e5; exact hL
  have hf : MF t h h5 := by subst e5; exact MF_sA (Or.inl rfl) (Nat.le_refl _)
  have g26 : gA h5 26 (t + 1) = gA h 26 (t + 1) := by subst e5; rw [gA_sA, if_neg (fun z => absurd z.1 (by decide))]
  have g25 : gA h5 25 t = gA h 25 (t + 1) := by subst e5; rw [gA_sA, if_pos ⟨rfl, rfl⟩]; exact ev
  rw [m_44 hL5, mi_26, mi_26, vp_lt (show t < 240 by omega) (by decide), vp_lt (show t + 1 < 240 by omega) (by decide), g26]
  refine ⟨trivial, fun v' ev' => ⟨trivial, ?_, fun h9 e9 => ?_⟩⟩
  · subst ev'; exact vAt_B hy
  · subst e9
    refine h1 c _ (MF_tr hf (MF_sA (Or.inr rfl) (Nat.le_refl _)) (Nat.le_refl _)) ?_
    subst ev'
    cases y with
    | none =>
      show gA (sA h5 26 t (gA h 26 (t + 1))) 26 t = 1
      rw [gA_sA, if_pos ⟨rfl, rfl⟩]
      exact hy
    | some b =>
      refine ⟨?_, ?_⟩
      · rw [gA_sA, if_pos ⟨rfl, rfl⟩]
        exact hy.1
      · rw [gA_sA, if_neg (fun z => absurd z.1 (by decide)), g25]
        exact hy.2
/-- & and | -/
theorem sr_does_and (hL : LayM h) {t : Nat} (ht : t + 1 < 240) {x y : Option Int32} (hb : ∀ a, x = some a → a = 0 ∨ a = 1) (hx : vAt h t x) (hy : vAt h (t + 1) y) (hq : ∀ h', MF t h h' → vAt h' t (match x with | none => none | some a => if a = 0 then some a else y) → Q h') : f_X11_does SM 0 38 (nI t) h Q := by
  intro x3 e3
  rw [nI_1] at e3
  subst e3
  refine aIf_t rfl ?_
  rw [m_44 hL, mi_26, vp_lt (show t < 240 by omega) (by decide), cl (by omega)]
  refine ⟨trivial, fun v e => ?_⟩
  subst e
  cases x with
  | none => exact aIf_t (by rw [show gA h 26 t = 1 from hx]; decide) (hq h MF_rf hx)
  | some a =>
    refine aIf_f (by rw [hx.1]; decide) ?_
    rw [m_43 hL, mi_25, vp_lt (show t < 240 by omega) (by decide), hx.2]
    refine ⟨trivial, fun v e => ?_⟩
    subst e
    refine aIf_f (fun z => z rfl) ?_
    rcases hb v rfl with c | c
    · subst c
      exact sr_does_42 hL ht hy (fun _ => hq h MF_rf hx) (fun z => absurd z (by decide))
    · subst c
      exact sr_does_42 hL ht hy (fun z => absurd rfl z) (fun _ h' hf hv => hq h' hf hv)
theorem sr_does_or (hL : LayM h) {t : Nat} (ht : t + 1 < 240) {x y : Option Int32} (hb : ∀ a, x = some a → a = 0 ∨ a = 1) (hx : vAt h t x) (hy : vAt h (t + 1) y) (hq : ∀ h', MF t h h' → vAt h' t (match x with | none => none | some a => if a = 0 then y else some a) → Q h') : f_X11_does SM 0 124 (nI t) h Q := by
  intro x3 e3
  rw [nI_1] at e3
  subst e3
  refine aIf_f (by decide) (aIf_f (fun z => z rfl) ?_)
  rw [m_44 hL, mi_26, vp_lt (show t < 240 by omega) (by decide), cl (by omega)]
  refine ⟨trivial, fun v e => ?_⟩
  subst e
  cases x with
  | none => exact aIf_t (by rw [show gA h 26 t = 1 from hx]; decide) (hq h MF_rf hx)
  | some a =>
    refine aIf_f (by rw [hx.1]; decide) ?_
    rw [m_43 hL, mi_25, vp_lt (show t < 240 by omega) (by decide), hx.2]
    refine ⟨trivial, fun v e => ?_⟩
    subst e
    refine aIf_t (by decide) ?_
    rcases hb v rfl with c | c
    · subst c
      exact sr_does_42 hL ht hy (fun z => absurd rfl z) (fun _ h' hf hv => hq h' hf hv)
    · subst c
      exact sr_does_42 hL ht hy (fun _ => hq h MF_rf hx) (fun z => absurd z (by decide))
def wkP (to : Nat) (a1 : Int32) (Q : aH → Prop) (t i : Nat) (h : aH) : Prop := f_X11_works_5 SM 0 a1 (nI to) Q (to - i + 1) (nI t) (nI i) h
theorem wkP_i {to : Nat} {a1 : Int32} {Q : aH → Prop} {t i : Nat} {h : aH} (hi : i < to) (hw : f_X11_works_5 SM 0 a1 (nI to) Q (to - (i + 1) + 1 + 1) (nI t) (nI i) h) : wkP to a1 Q t i h := by
  unfold wkP
  rw [show to - i + 1 = to - (i + 1) + 1 + 1 by omega]
  exact hw
/-- the values are V, whatever the scratch is like -/
def hasV (h0 : aH) (V : Nat → Int32) : Prop := ∀ k, k < 12 → ∀ h', MF 0 h0 h' → ∀ Q : Int32 → aH → Prop, Q (V k) h' → f_X11_valueOf SM 0 (letB k) h' Q
def wkR (h0 : aH) (V : Nat → Int32) (to : Nat) (a1 : Int32) (Q : aH → Prop) (i j : Nat) (f : Sem) : Prop :=
  i < j ∧ ∀ (h : aH) (t : Nat), MF 0 h0 h → j ≤ to → t + (j - i) ≤ 239 → (∀ h', MF t h h' → vAt h' t (f V) → wkP to a1 Q (t + 1) j h') → wkP to a1 Q t i h
section Wk
variable {h0 : aH} {to : Nat} {a1 : Int32}
theorem wk_fetch (hL : LayM h) (hop : ∀ i, gA h 16 i = op i) (hto : to ≤ 200) {t i n : Nat} (hi : i < to) (h1 : ¬ op i ≤ 2 → ∀ x3, x3 = nI t + (-1) → f_X11_does SM 0 (op i) (x3 - 1) h (fun h35 => ∀ x4 : Int32, x4 = nI i + 1 → f_X11_works_5 SM 0 a1 (nI to) Q n x3 x4 h35)) (h2 : op i ≤ 2 → aIf (¬ op i = 2) (aIn SM 1 26 (nI t) ∧ ∀ h9 : aH, h9 = sA h 26 (nI t).toNatClampNeg 0 → aIf (¬ op i = 0) (∀ v14 : Int32, v14 = (gA h9 17 i) → f_X11_valueOf SM 0 v14 h9 (fun r16 h15 => aIn SM 0 25 (nI t) ∧ ∀ h18 : aH, h18 = sA h15 25 (nI t).toNatClampNeg r16 → ∀ x3 : Int32, x3 = nI t + 1 → ∀ x4 : Int32, x4 = nI i + 1 → f_X11_works_5 SM 0 a1 (nI to) Q n x3 x4 h18)) (∀ v22 : Int32, v22 = (gA h9 17 i) → aIn SM 0 25 (nI t) ∧ ∀ h24 : aH, h24 = sA h9 25 (nI t).toNatClampNeg v22 → f_X11_works_5 SM 0 a1 (nI to) Q n (nI (t + 1)) (nI (i + 1)) h24)) (aIn SM 0 25 (nI t - 1) ∧ ∀ v28 : Int32, v28 = (gA h 25 ((nI t - 1)).toNatClampNeg) → ∀ h30 : aH, h30 = sA h 25 ((nI t - 1)).toNatClampNeg (1 - v28) → f_X11_works_5 SM 0 a1 (nI to) Q n (nI t) (nI (i + 1)) h30)) : f_X11_works_5 SM 0 a1 (nI to) Q (n + 1) (nI t) (nI i) h := by
  refine aIf_f (nI_ge hi (by omega)) ?_
  rw [m_21 hL, mi_16, vp_lt (show i < 200 by omega) (by decide), cl (by omega), hop]
  refine ⟨trivial, fun v e => ?_⟩
  subst e
  refine aIf_i (fun c => ⟨trivial, fun v e => ?_⟩) (fun c => ?_)
  · subst e
    refine aIf_i (fun c2 => ?_) (fun c2 => ?_)
    · have := (h2 c).1 c2
      rw [m_44 hL]
      refine ⟨this.1, fun h9 e9 => ?_⟩
      have q := this.2 h9 e9
      have hL9 : LayM h9 := by subst e9; exact hL
      have ho9 : gA h9 16 i = op i := by subst e9; rw [gA_sA, if_neg (fun z => absurd z.1 (by decide))]; exact hop i
      rw [m_21 hL9, mi_16, vp_lt (show i < 200 by omega) (by decide), ho9]
      refine ⟨trivial, fun v e => ?_⟩
      subst e
      refine aIf_i (fun c3 => ?_) (fun c3 => ?_)
      · rw [m_22 hL9, mi_17, vp_lt (show i < 200 by omega) (by decide)]
        refine ⟨trivial, fun v e => ?_⟩
        have q1 := q.1 c3 v e
        rw [m_43 hL9]
        exact q1
      · rw [m_22 hL9, mi_17, vp_lt (show i < 200 by omega) (by decide)]
        refine ⟨trivial, fun v e => ?_⟩
        have q1 := q.2 c3 v e
        rw [m_43 hL9]
        rw [← nI_1, ← nI_1] at q1
        exact ⟨q1.1, fun h24 e24 x3 e3 x4 e4 => by subst e3 e4; exact q1.2 h24 e24⟩
    · have := (h2 c).2 c2
      rw [m_43 hL]
      refine ⟨this.1, fun v e => ⟨this.1, fun h30 e30 x4 e4 => ?_⟩⟩
      have q := this.2 v e h30 e30
      rw [← nI_1] at q
      subst e4
      exact q
  · intro x3 e3
    refine ⟨trivial, fun v e => ?_⟩
    subst e
    exact h1 c x3 e3
theorem wk_push (hL : LayM h) (hop : ∀ i, gA h 16 i = op i) (har : ∀ i, gA h 17 i = ar i) (hto : to ≤ 200) {t i : Nat} (hi : i < to) (ht : t < 240) (c : op i = 0 ∨ op i = 1) {v : Int32} (hv : op i = 0 → ar i = v) (hv1 : op i = 1 → ∀ h' Q, MF t h h' → Q v h' → f_X11_valueOf SM 0 (ar i) h' Q) (hk : ∀ h', MF t h h' → vAt h' t (some v) → wkP to a1 Q (t + 1) (i + 1) h') : wkP to a1 Q t i h := by
  have hf1 : MF t h (sA h 26 t 0) := MF_sA (Or.inr rfl) (Nat.le_refl _)
  have hf2 : MF t h (sA (sA h 26 t 0) 25 t v) := MF_tr hf1 (MF_sA (Or.inl rfl) (Nat.le_refl _)) (Nat.le_refl _)
  have hm := hk _ hf2 ⟨by rw [gA_sA, if_neg (fun z => absurd z.1 (by decide)), gA_sA, if_pos ⟨rfl, rfl⟩], by rw [gA_sA, if_pos ⟨rfl, rfl⟩]⟩
  refine wkP_i hi (wk_fetch hL hop hto hi (fun z => absurd (by rcases c with e | e <;> rw [e] <;> decide) z) (fun _ => ?_))
  refine aIf_t (by rcases c with e | e <;> rw [e] <;> decide) ?_
  rw [mi_26, mi_25, vp_lt ht (by decide), cl (by omega)]
  refine ⟨trivial, fun h9 e9 => ?_⟩
  subst e9
  have ea : gA (sA h 26 t 0) 17 i = ar i := by rw [gA_sA, if_neg (fun z => absurd z.1 (by decide))]; exact har i
  refine aIf_i (fun c0 => ?_) (fun c0 => ?_)
  · have c1 : op i = 1 := c.resolve_left c0
    intro v14 e14
    rw [ea] at e14
    subst e14
    refine hv1 c1 _ _ hf1 ⟨trivial, fun h18 e18 x3 e3 x4 e4 => ?_⟩
    subst e18 e3 e4
    rw [nI_1, nI_1]
    exact hm
  · have c1 := Classical.not_not.mp c0
    intro v22 e22
    rw [ea, hv c1] at e22
    subst e22
    refine ⟨trivial, fun h24 e24 => ?_⟩
    subst e24
    exact hm
theorem wk_num (hL0 : LayM h0) (hop : ∀ i, gA h0 16 i = op i) (har : ∀ i, gA h0 17 i = ar i) (hto : to ≤ 200) {i : Nat} {v : Int32} (h1 : op i = 0) (h2 : ar i = v) : wkR h0 V to a1 Q i (i + 1) (sNum v) := by
  refine ⟨by omega, fun h t hf hj ht k => ?_⟩
  exact wk_push (LayM_2 hf.1 hL0) (fun i => (hf.2.1 _ _ (by omega)).trans (hop i)) (fun i => (hf.2.1 _ _ (by omega)).trans (har i)) hto (by omega) (by omega) (Or.inl h1) (fun _ => h2) (fun z => absurd (h1.symm.trans z) (by decide)) k
theorem wk_let (hL0 : LayM h0) (hop : ∀ i, gA h0 16 i = op i) (har : ∀ i, gA h0 17 i = ar i) (hV : hasV h0 V) (hto : to ≤ 200) {i k : Nat} (hk : k < 12) (h1 : op i = 1) (h2 : ar i = letB k) : wkR h0 V to a1 Q i (i + 1) (sLt k) := by
  refine ⟨by omega, fun h t hf hj ht kk => ?_⟩
  refine wk_push (LayM_2 hf.1 hL0) (fun i => (hf.2.1 _ _ (by omega)).trans (hop i)) (fun i => (hf.2.1 _ _ (by omega)).trans (har i)) hto (by omega) (by omega) (Or.inr h1) (fun z => absurd (h1.symm.trans z) (by decide)) (fun _ h' Q' hf' hq => ?_) kk
  rw [h2]
  exact hV k hk h' (MF_tr hf hf' (Nat.zero_le _)) Q' hq
theorem wk_neg (hL0 : LayM h0) (hop : ∀ i, gA h0 16 i = op i) (hto : to ≤ 200) {i j : Nat} {f : Sem} (h1 : wkR h0 V to a1 Q i j f) (h2 : op j = 2) : wkR h0 V to a1 Q i (j + 1) (sNeg f) := by
  have lt := h1.1
  refine ⟨by omega, fun h t hf hj ht kk => ?_⟩
  refine h1.2 h t hf (by omega) (by omega) (fun h' hf' hv => ?_)
  have hf2 := MF_tr hf hf' (Nat.zero_le _)
  have hL' := LayM_2 hf2.1 hL0
  have hop' : ∀ i, gA h' 16 i = op i := fun i => (hf2.2.1 _ _ (by omega)).trans (hop i)
  have hm := kk (sA h' 25 t (1 - gA h' 25 t)) (MF_tr hf' (MF_sA (Or.inl rfl) (Nat.le_refl _)) (Nat.le_refl _)) (by
    unfold sNeg
    rcases e : f V with _ | a
    · rw [e] at hv
      show gA (sA h' 25 t _) 26 t = 1
      rw [gA_sA, if_neg (fun z => absurd z.1 (by decide))]
      exact hv
    · rw [e] at hv
      refine ⟨?_, ?_⟩
      · rw [gA_sA, if_neg (fun z => absurd z.1 (by decide))]
        exact hv.1
      · rw [gA_sA, if_pos ⟨rfl, rfl⟩, hv.2])
  refine wkP_i (by omega) (wk_fetch hL' hop' hto (by omega) (fun z => absurd (by rw [h2]; decide) z) (fun _ => ?_))
  refine aIf_f (fun z => z h2) ?_
  rw [nI_pred, mi_25, vp_lt (show t < 240 by omega) (by decide), cl (by omega)]
  refine ⟨trivial, fun v e h30 e30 => ?_⟩
  subst e e30
  exact hm
theorem wk_two (hL0 : LayM h0) (hop : ∀ i, gA h0 16 i = op i) (hto : to ≤ 200) {i j m : Nat} {f g r : Sem} (h1 : wkR h0 V to a1 Q i j f) (h2 : wkR h0 V to a1 Q j m g) (h3 : ¬ op m ≤ 2) (hd : ∀ h' t Q', LayM h' → t + 1 < 240 → vAt h' t (f V) → vAt h' (t + 1) (g V) → (∀ h'', MF t h' h'' → vAt h'' t (r V) → Q' h'') → f_X11_does SM 0 (op m) (nI t) h' Q') : wkR h0 V to a1 Q i (m + 1) r := by
  have lt1 := h1.1
  have lt2 := h2.1
  refine ⟨by omega, fun h t hf hj ht kk => ?_⟩
  refine h1.2 h t hf (by omega) (by omega) (fun h' hf' hv => ?_)
  have hf2 := MF_tr hf hf' (Nat.zero_le _)
  refine h2.2 h' (t + 1) hf2 (by omega) (by omega) (fun h'' hf'' hv2 => ?_)
  have hf3 := MF_tr hf2 hf'' (Nat.zero_le _)
  have hL3 := LayM_2 hf3.1 hL0
  have hop3 : ∀ i, gA h'' 16 i = op i := fun i => (hf3.2.1 _ _ (by omega)).trans (hop i)
  have hv' : vAt h'' t (f V) := vAt_F hf'' (by omega) hv
  refine wkP_i (by omega) (wk_fetch hL3 hop3 hto (by omega) (fun _ x3 e3 => ?_) (fun z => absurd z h3))
  rw [pk_m1] at e3
  subst e3
  rw [nI_pred]
  refine hd h'' t _ hL3 (by omega) hv' hv2 (fun h4 hf4 hv4 x4 e4 => ?_)
  subst e4
  rw [nI_1]
  refine kk h4 (MF_tr hf' (MF_tr (MF_up hf'' (Nat.le_succ t)) hf4 (Nat.le_refl _)) (Nat.le_refl _)) hv4
/-- WORKS: what a piece of the reference's code says -/
theorem sr_works (hL0 : LayM h0) (hV : hasV h0 V) (hto : to ≤ 200) {i : Nat} {f : Sem} (hc : MCo (gA h0 16) (gA h0 17) i to f) (hq : ∀ h', MF 0 h0 h' → vAt h' 0 (f V) → Q h') : f_X11_works SM 0 (nI i) (nI to) h0 Q := by
  have := hc (wkR h0 V to (nI i) Q) ⟨fun i v => wk_num hL0 (fun _ => rfl) (fun _ => rfl) hto, fun i k => wk_let hL0 (fun _ => rfl) (fun _ => rfl) hV hto, fun i j m o f g h1 h2 h3 h4 => ?_, fun i j f h1 h2 => wk_neg hL0 (fun _ => rfl) hto h1 h2, fun i j m f g h1 h2 h3 h4 => ?_, fun i j m f g h1 h2 h3 h4 => ?_⟩
  · have lt := this.1
    refine ⟨_, this.2 h0 0 MF_rf (Nat.le_refl _) (by omega) (fun h' hf hv => ?_)⟩
    unfold wkP
    rw [show to - to + 1 = 0 + 1 by omega]
    exact aIf_t (Int32.le_refl _) (hq h' hf hv)
  · refine wk_two hL0 (fun _ => rfl) hto h1 h2 (by rw [h3]; exact (isOp_m h4).1) (fun h' t Q' hL ht x y hk => ?_)
    rw [h3]
    exact sr_does_op hL h4 ht x y hk
  · refine wk_two hL0 (fun _ => rfl) hto h1 h2 (by rw [h4]; decide) (fun h' t Q' hL ht x y hk => ?_)
    rw [h4]
    exact sr_does_and hL ht (h3 V) x y hk
  · refine wk_two hL0 (fun _ => rfl) hto h1 h2 (by rw [h4]; decide) (fun h' t Q' hL ht x y hk => ?_)
    rw [h4]
    exact sr_does_or hL ht (h3 V) x y hk
end Wk
end Works
