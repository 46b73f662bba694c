/-! ===== the law: what a piece of it says of a row of values; the class's code of it ===== -/
abbrev Sem : Type := (Nat → Int32) → Option Int32
def isOp (o : Int32) : Prop := o = 42 ∨ o = 43 ∨ o = 45 ∨ o = 47 ∨ o = 37 ∨ o = 60 ∨ o = 61 ∨ o = 62
def opv (o a b : Int32) : Option Int32 :=
  if o = 42 then some (a * b) else if o = 43 then some (a + b) else if o = 45 then some (a - b) else
  if o = 60 then some (if b ≤ a then 0 else 1) else if o = 61 then some (if a = b then 1 else 0) else if o = 62 then some (if a ≤ b then 0 else 1) else
  if b = 0 then none else if o = 47 then some (a / b) else some (a - a / b * b)
def sNum (v : Int32) : Sem := fun _ => some v
def sLt (k : Nat) : Sem := fun V => some (V k)
def sBin (o : Int32) (f g : Sem) : Sem := fun V => match f V with
  | none => none
  | some a => match g V with
    | none => none
    | some b => opv o a b
def sNeg (f : Sem) : Sem := fun V => match f V with
  | none => none
  | some a => some (1 - a)
def sAnd (f g : Sem) : Sem := fun V => match f V with
  | none => none
  | some a => if a = 0 then some a else g V
def sOr (f g : Sem) : Sem := fun V => match f V with
  | none => none
  | some a => if a = 0 then g V else some a
/-- what holds of all pieces of code: from i to j, with N places of the stack at most, saying f -/
def CCl (op ar : Nat → Int32) (P : Nat → Nat → Nat → Sem → Prop) : Prop :=
  (∀ i v N, 1 ≤ N → op i = 1 → ar i = v → P i (i + 1) N (sNum v)) ∧
  (∀ i k N, 1 ≤ N → k < 12 → op i = 2 → ar i = nI k → P i (i + 1) N (sLt k)) ∧
  (∀ i j m o N N' f g, P i j N f → P j m N' g → N' + 1 ≤ N → op m = o → isOp o → P i (m + 1) N (sBin o f g)) ∧
  (∀ i j N f, P i j N f → op j = 3 → P i (j + 1) N (sNeg f)) ∧
  (∀ i j m N f g, P i j N f → op j = 4 → ar j = nI m → P (j + 1) m N g → P i m N (sAnd f g)) ∧
  (∀ i j m N f g, P i j N f → op j = 5 → ar j = nI m → P (j + 1) m N g → P i m N (sOr f g))
def CCo (op ar : Nat → Int32) (i j N : Nat) (f : Sem) : Prop := ∀ P, CCl op ar P → P i j N f
section CCo
variable {op ar op' ar' : Nat → Int32} {i j m N N' : Nat} {f g : Sem} {o v : Int32}
theorem CCo_num (hN : 1 ≤ N) (h1 : op i = 1) (h2 : ar i = v) : CCo op ar i (i + 1) N (sNum v) := fun _ c => c.1 _ _ _ hN h1 h2
theorem CCo_let {k : Nat} (hN : 1 ≤ N) (hk : k < 12) (h1 : op i = 2) (h2 : ar i = nI k) : CCo op ar i (i + 1) N (sLt k) := fun _ c => c.2.1 _ _ _ hN hk h1 h2
theorem CCo_bin (h1 : CCo op ar i j N f) (h2 : CCo op ar j m N' g) (hN : N' + 1 ≤ N) (h3 : op m = o) (h4 : isOp o) : CCo op ar i (m + 1) N (sBin o f g) := fun P c => c.2.2.1 _ _ _ _ _ _ _ _ (h1 P c) (h2 P c) hN h3 h4
theorem CCo_neg (h1 : CCo op ar i j N f) (h2 : op j = 3) : CCo op ar i (j + 1) N (sNeg f) := fun P c => c.2.2.2.1 _ _ _ _ (h1 P c) h2
theorem CCo_and (h1 : CCo op ar i j N f) (h2 : op j = 4) (h3 : ar j = nI m) (h4 : CCo op ar (j + 1) m N g) : CCo op ar i m N (sAnd f g) := fun P c => c.2.2.2.2.1 _ _ _ _ _ _ (h1 P c) h2 h3 (h4 P c)
theorem CCo_or (h1 : CCo op ar i j N f) (h2 : op j = 5) (h3 : ar j = nI m) (h4 : CCo op ar (j + 1) m N g) : CCo op ar i m N (sOr f g) := fun P c => c.2.2.2.2.2 _ _ _ _ _ _ (h1 P c) h2 h3 (h4 P c)
theorem CCo_lt (h : CCo op ar i j N f) : i < j :=
  h (fun i j _ _ => i < j) ⟨fun _ _ _ _ _ _ => by omega, fun _ _ _ _ _ _ _ => by omega, fun _ _ _ _ _ _ _ _ h1 h2 _ _ _ => by omega, fun _ _ _ _ h1 _ => by omega, fun _ _ _ _ _ _ h1 _ _ h2 => by omega, fun _ _ _ _ _ _ h1 _ _ h2 => by omega⟩
theorem CCo_mono (h : CCo op ar i j N f) (hN : N ≤ N') : CCo op ar i j N' f := by
  refine h (fun i j N f => ∀ N', N ≤ N' → CCo op ar i j N' f) ⟨?_, ?_, ?_, ?_, ?_, ?_⟩ N' hN
  · exact fun i v N h1 h2 h3 N' hN => CCo_num (by omega) h2 h3
  · exact fun i k N h1 h2 h3 h4 N' hN => CCo_let (by omega) h2 h3 h4
  · exact fun i j m o N N2 f g h1 h2 h3 h4 h5 N' hN => CCo_bin (h1 N' hN) (h2 N2 (Nat.le_refl _)) (by omega) h4 h5
  · exact fun i j N f h1 h2 N' hN => CCo_neg (h1 N' hN) h2
  · exact fun i j m N f g h1 h2 h3 h4 N' hN => CCo_and (h1 N' hN) h2 h3 (h4 N' hN)
  · exact fun i j m N f g h1 h2 h3 h4 N' hN => CCo_or (h1 N' hN) h2 h3 (h4 N' hN)
/-- code that is the same in its own range -/
theorem CCo_eq (h : CCo op ar i j N f) (e : ∀ k, i ≤ k → k < j → op' k = op k ∧ ar' k = ar k) : CCo op' ar' i j N f := by
  refine (h (fun i j N f => i < j ∧ ((∀ k, i ≤ k → k < j → op' k = op k ∧ ar' k = ar k) → CCo op' ar' i j N f)) ⟨?_, ?_, ?_, ?_, ?_, ?_⟩).2 e
  · exact fun i v N h1 h2 h3 => ⟨by omega, fun e => CCo_num h1 ((e _ (by omega) (by omega)).1.trans h2) ((e _ (by omega) (by omega)).2.trans h3)⟩
  · exact fun i v N h1 hk h2 h3 => ⟨by omega, fun e => CCo_let h1 hk ((e _ (by omega) (by omega)).1.trans h2) ((e _ (by omega) (by omega)).2.trans h3)⟩
  · exact fun i j m o N N' f g h1 h2 h3 h4 h5 => ⟨by omega, fun e => CCo_bin (h1.2 (fun k a b => e k (by omega) (by omega))) (h2.2 (fun k a b => e k (by omega) (by omega))) h3 ((e _ (by omega) (by omega)).1.trans h4) h5⟩
  · exact fun i j N f h1 h2 => ⟨by omega, fun e => CCo_neg (h1.2 (fun k a b => e k (by omega) (by omega))) ((e _ (by omega) (by omega)).1.trans h2)⟩
  · exact fun i j m N f g h1 h2 h3 h4 => ⟨by omega, fun e => CCo_and (h1.2 (fun k a b => e k (by omega) (by omega))) ((e _ (by omega) (by omega)).1.trans h2) ((e _ (by omega) (by omega)).2.trans h3) (h4.2 (fun k a b => e k (by omega) (by omega)))⟩
  · exact fun i j m N f g h1 h2 h3 h4 => ⟨by omega, fun e => CCo_or (h1.2 (fun k a b => e k (by omega) (by omega))) ((e _ (by omega) (by omega)).1.trans h2) ((e _ (by omega) (by omega)).2.trans h3) (h4.2 (fun k a b => e k (by omega) (by omega)))⟩
end CCo
/-! ===== the class's law at cell l ===== -/
def isLaw (l : Nat) : Prop := l = 43 ∨ l = 53
section Law
variable {h : aH} {l' d' l : Nat} {i : Int32}
theorem lw_o (hl : isLaw l) : aObj SC l 2 flX3 ↔ True := by rcases hl with rfl | rfl <;> exact aObj_of (by decide) rfl
theorem lw_0 (hl : isLaw l) (hL : LayC h l' d') : gR h l 0 = l + 1 := by rcases hl with rfl | rfl <;> exact rC hL _ 0 _ (by decide) (by decide) rfl
theorem lw_1 (hl : isLaw l) (hL : LayC h l' d') : gR h l 1 = l + 2 := by rcases hl with rfl | rfl <;> exact rC hL _ 1 _ (by decide) (by decide) rfl
theorem lw_3 (hl : isLaw l) (hL : LayC h l' d') : gR h l 3 = l + 3 := by rcases hl with rfl | rfl <;> exact rC hL _ 3 _ (by decide) (by decide) rfl
theorem lw_4 (hl : isLaw l) (hL : LayC h l' d') : gR h l 4 = l + 4 := by rcases hl with rfl | rfl <;> exact rC hL _ 4 _ (by decide) (by decide) rfl
theorem lw_5 (hl : isLaw l) (hL : LayC h l' d') : gR h l 5 = l + 5 := by rcases hl with rfl | rfl <;> exact rC hL _ 5 _ (by decide) (by decide) rfl
theorem lw_7 (hl : isLaw l) (hL : LayC h l' d') : gR h l 7 = l + 6 := by rcases hl with rfl | rfl <;> exact rC hL _ 7 _ (by decide) (by decide) rfl
theorem lw_8 (hl : isLaw l) (hL : LayC h l' d') : gR h l 8 = l + 7 := by rcases hl with rfl | rfl <;> exact rC hL _ 8 _ (by decide) (by decide) rfl
theorem lwi_1 (hl : isLaw l) : aIn SC 0 (l + 1) i ↔ vp_in i 200 := by rcases hl with rfl | rfl <;> exact aIn_of (by decide) rfl
theorem lwi_2 (hl : isLaw l) : aIn SC 0 (l + 2) i ↔ vp_in i 200 := by rcases hl with rfl | rfl <;> exact aIn_of (by decide) rfl
theorem lwi_3 (hl : isLaw l) : aIn SC 0 (l + 3) i ↔ vp_in i 14 := by rcases hl with rfl | rfl <;> exact aIn_of (by decide) rfl
theorem lwi_4 (hl : isLaw l) : aIn SC 0 (l + 4) i ↔ vp_in i 14 := by rcases hl with rfl | rfl <;> exact aIn_of (by decide) rfl
theorem lwi_5 (hl : isLaw l) : aIn SC 0 (l + 5) i ↔ vp_in i 14 := by rcases hl with rfl | rfl <;> exact aIn_of (by decide) rfl
theorem lwi_6 (hl : isLaw l) : aIn SC 0 (l + 6) i ↔ vp_in i 12 := by rcases hl with rfl | rfl <;> exact aIn_of (by decide) rfl
theorem lwi_7 (hl : isLaw l) : aIn SC 0 (l + 7) i ↔ vp_in i 64 := by rcases hl with rfl | rfl <;> exact aIn_of (by decide) rfl
end Law
theorem lay_isLaw {h : aH} {l d : Nat} (hL : LayC h l d) : isLaw l := hL.2.2.2.elim (fun z => Or.inl z.1) (fun z => Or.inr z.1)
/-- nothing but the stack from t on and the flag has changed -/
def HF (l t : Nat) (h h' : aH) : Prop := h'.2.2 = h.2.2 ∧ (∀ c i, ¬ (c = l + 7 ∧ t ≤ i) → gA h' c i = gA h c i) ∧ ∀ c j, ¬ (c = l ∧ j = 9) → gI h' c j = gI h c j
theorem HF_rf {l t : Nat} {h : aH} : HF l t h h := ⟨rfl, fun _ _ _ => rfl, fun _ _ _ => rfl⟩
theorem HF_tr {l t t' : Nat} {a b c : aH} (x : HF l t a b) (y : HF l t' b c) (ht : t ≤ t') : HF l t a c :=
  ⟨y.1.trans x.1, fun k i hk => (y.2.1 k i (fun z => hk ⟨z.1, by omega⟩)).trans (x.2.1 k i hk), fun k i hk => (y.2.2 k i hk).trans (x.2.2 k i hk)⟩
theorem HF_sA {l t i : Nat} {h : aH} {v : Int32} (ht : t ≤ i) : HF l t h (sA h (l + 7) i v) :=
  ⟨rfl, fun c j hc => by rw [gA_sA, if_neg (fun z => hc ⟨z.1, by omega⟩)], fun _ _ _ => rfl⟩
theorem HF_sI {l t : Nat} {h : aH} {v : Int32} : HF l t h (sI h l 9 v) :=
  ⟨rfl, fun _ _ _ => rfl, fun c j hc => by rw [gI_sI, if_neg hc]⟩
/-- the code, its size, the row of values -/
def LawH (h : aH) (l : Nat) (op ar : Nat → Int32) (sz : Nat) (V : Nat → Int32) : Prop := (∀ i, gA h (l + 1) i = op i) ∧ (∀ i, gA h (l + 2) i = ar i) ∧ gI h l 2 = nI sz ∧ ∀ k, k < 12 → gA h (l + 6) k = V k
theorem LawH_F {h h' : aH} {l t : Nat} {op ar : Nat → Int32} {sz : Nat} {V : Nat → Int32} (hf : HF l t h h') (hH : LawH h l op ar sz V) : LawH h' l op ar sz V :=
  ⟨fun i => (hf.2.1 _ i (by omega)).trans (hH.1 i), fun i => (hf.2.1 _ i (by omega)).trans (hH.2.1 i), (hf.2.2 _ _ (by omega)).trans hH.2.2.1, fun k hk => (hf.2.1 _ k (by omega)).trans (hH.2.2.2 k hk)⟩
def rkB (k : Nat) (a1 : Int32) (Q : Int32 → aH → Prop) (K : Int32 → Int32 → Int32 → aH → Prop) (x2 x3_42 x4 v39 v41 : Int32) (h : aH) : Prop := aIf (v39 = 1) (f_X3_reckon_72 SC k a1 Q K x2 x3_42 x4 v39 v41 h) (aIf (¬ v39 = 2) (aIf (1 ≤ x2) (aIf (¬ v39 = 3) (aIf (v39 = 5) (aIn SC 0 (gR h k 8) (x2 - 1) ∧ ∀ v49 : Int32, v49 = (gA h (gR h k 8) ((x2 - 1)).toNatClampNeg) → aIf (v49 = 0) (f_X3_reckon_176 SC k a1 Q K x2 x3_42 x4 v39 v41 0 h) (f_X3_reckon_176 SC k a1 Q K x2 x3_42 x4 v39 v41 1 h)) (aIf (¬ v39 = 4) (aIf (2 ≤ x2) (∀ x2_53 : Int32, x2_53 = x2 + (-1) → aIn SC 0 (gR h k 8) (x2_53 - 1) ∧ ∀ v55 : Int32, v55 = (gA h (gR h k 8) ((x2_53 - 1)).toNatClampNeg) → aIn SC 0 (gR h k 8) x2_53 ∧ ∀ v57 : Int32, v57 = (gA h (gR h k 8) (x2_53).toNatClampNeg) → f_X3_join SC k v39 v55 v57 h (fun r59 h58 => aIn SC 0 (gR h k 8) (x2_53 - 1) ∧ ∀ h61 : aH, h61 = sA h58 (gR h k 8) ((x2_53 - 1)).toNatClampNeg r59 → ∀ v62 : Int32, v62 = (gI h61 k 9) → aIf (v62 = 0) (∀ x4_64 : Int32, x4_64 = x4 + 1 → K x2_53 x3_42 x4_64 h61) (Q 0 h61))) (Q 0 h)) (aIn SC 0 (gR h k 8) (x2 - 1) ∧ ∀ v66 : Int32, v66 = (gA h (gR h k 8) ((x2 - 1)).toNatClampNeg) → aIf (v66 = 0) (f_X3_reckon_176 SC k a1 Q K x2 x3_42 x4 v39 v41 0 h) (f_X3_reckon_176 SC k a1 Q K x2 x3_42 x4 v39 v41 1 h)))) (aIn SC 0 (gR h k 8) (x2 - 1) ∧ ∀ v69 : Int32, v69 = (gA h (gR h k 8) ((x2 - 1)).toNatClampNeg) → aIn SC 0 (gR h k 8) (x2 - 1) ∧ ∀ h71 : aH, h71 = sA h (gR h k 8) ((x2 - 1)).toNatClampNeg (1 - v69) → ∀ x4_72 : Int32, x4_72 = x4 + 1 → K x2 x3_42 x4_72 h71)) (Q 0 h)) (f_X3_reckon_72 SC k a1 Q K x2 x3_42 x4 v39 v41 h))
section Reckon
variable {h : aH} {l' d' l : Nat} {op ar V : Nat → Int32} {sz : Nat} {a1 : Int32} {Q : Int32 → aH → Prop}
theorem rk_fetch (hl : isLaw l) (hL : LayC h l' d') (hH : LawH h l op ar sz V) (hs : sz ≤ 200) {i x tp : Nat} (hi : i < sz) (hx : x < 200) (h0 : ¬ op i = 0) {n : Nat} (hq : rkB l a1 Q (f_X3_reckon_12 SC l a1 Q n) (nI tp) (nI (i + 1)) (nI x) (op i) (ar i) h) : f_X3_reckon_12 SC l a1 Q (n + 1) (nI tp) (nI i) (nI x) h := by
  refine aIf_f (nI_ge (a := x) (b := 200) hx (by omega)) (aIf_f (nI_pos (by omega)) ?_)
  intro v ev
  rw [hH.2.2.1] at ev
  subst ev
  refine aIf_f (nI_ge hi (by omega)) ?_
  rw [lw_0 hl hL, lwi_1 hl, vp_lt (show i < 200 by omega) (by decide), cl (by omega), hH.1]
  refine ⟨trivial, fun v e => ?_⟩
  subst e
  refine aIf_f h0 ?_
  refine ⟨trivial, fun v e => ?_⟩
  subst e
  rw [lw_1 hl hL, lwi_2 hl, vp_lt (show i < 200 by omega) (by decide), hH.2.1]
  refine ⟨trivial, fun v e => ?_⟩
  subst e
  intro x3 e3
  rw [nI_1] at e3
  subst e3
  exact hq
/-- the class's work of a sign -/
theorem sp_join {k : Nat} {o a b : Int32} (ho : isOp o) (h1 : ∀ r, opv o a b = some r → Q r h) (h0 : opv o a b = none → Q 0 (sI h k 9 1)) : f_X3_join SC k o a b h Q := by
  unfold f_X3_join
  rcases ho with e | e | e | e | e | e | e | e <;> subst e
  · exact aIf_t rfl (h1 _ rfl)
  · exact aIf_f (by decide) (aIf_t rfl (h1 _ rfl))
  · exact aIf_f (by decide) (aIf_f (by decide) (aIf_t rfl (h1 _ rfl)))
  · refine aIf_f (by decide) (aIf_f (by decide) (aIf_f (by decide) (aIf_f (by decide) (aIf_f (by decide) (aIf_f (by decide) ?_)))))
    have e : opv 47 a b = if b = 0 then none else some (a / b) := rfl
    refine aIf_i (fun c => ?_) (fun c => ?_)
    · exact aIf_f (fun z => z rfl) ⟨c, h1 _ (by rw [e, if_neg c])⟩
    · intro h9 e9
      subst e9
      exact h0 (by rw [e, if_pos (Classical.not_not.mp c)])
  · refine aIf_f (by decide) (aIf_f (by decide) (aIf_f (by decide) (aIf_f (by decide) (aIf_f (by decide) (aIf_f (by decide) ?_)))))
    have e : opv 37 a b = if b = 0 then none else some (a - a / b * b) := rfl
    refine aIf_i (fun c => ?_) (fun c => ?_)
    · exact aIf_t (by decide) ⟨c, h1 _ (by rw [e, if_neg c])⟩
    · intro h9 e9
      subst e9
      exact h0 (by rw [e, if_pos (Classical.not_not.mp c)])
  · refine aIf_f (by decide) (aIf_f (by decide) (aIf_f (by decide) (aIf_t rfl ?_)))
    have e : opv 60 a b = some (if b ≤ a then 0 else 1) := rfl
    exact aIf_i (fun c => h1 _ (by rw [e, if_pos c])) (fun c => h1 _ (by rw [e, if_neg c]))
  · refine aIf_f (by decide) (aIf_f (by decide) (aIf_f (by decide) (aIf_f (by decide) (aIf_t rfl ?_))))
    have e : opv 61 a b = some (if a = b then 1 else 0) := rfl
    exact aIf_i (fun c => h1 _ (by rw [e, if_neg c])) (fun c => h1 _ (by rw [e, if_pos (Classical.not_not.mp c)]))
  · refine aIf_f (by decide) (aIf_f (by decide) (aIf_f (by decide) (aIf_f (by decide) (aIf_f (by decide) (aIf_t rfl ?_)))))
    have e : opv 62 a b = some (if a ≤ b then 0 else 1) := rfl
    exact aIf_i (fun c => h1 _ (by rw [e, if_pos c])) (fun c => h1 _ (by rw [e, if_neg c]))
def rkP (l : Nat) (a1 : Int32) (Q : Int32 → aH → Prop) (tp i x : Nat) (h : aH) : Prop := ∃ m, f_X3_reckon_12 SC l a1 Q m (nI tp) (nI i) (nI x) h
/-- what running a piece of code does -/
def rkR (l' d' l : Nat) (op ar : Nat → Int32) (sz : Nat) (V : Nat → Int32) (a1 : Int32) (Q : Int32 → aH → Prop) (i j N : Nat) (f : Sem) : Prop :=
  i < j ∧ 1 ≤ N ∧ ∀ (h : aH) (tp x : Nat), LayC h l' d' → LawH h l op ar sz V → gI h l 9 = 0 → j ≤ sz → tp + N ≤ 64 → x + (j - i) ≤ 200 →
    (∀ v h' x', f V = some v → x' ≤ x + (j - i) → HF l tp h h' → gI h' l 9 = 0 → gA h' (l + 7) tp = v → rkP l a1 Q (tp + 1) j x' h') →
    (f V = none → ∀ h', HF l tp h h' → gI h' l 9 = 1 → Q 0 h') → rkP l a1 Q tp i x h
theorem isOp_n {o : Int32} (ho : isOp o) : ¬ o = 0 ∧ ¬ o = 1 ∧ ¬ o = 2 ∧ ¬ o = 3 ∧ ¬ o = 4 ∧ ¬ o = 5 := by
  rcases ho with e | e | e | e | e | e | e | e <;> subst e <;> decide
theorem rk_num (hl : isLaw l) (hs : sz ≤ 200) {i N : Nat} {v : Int32} (hN : 1 ≤ N) (h1 : op i = 1) (h2 : ar i = v) : rkR l' d' l op ar sz V a1 Q i (i + 1) N (sNum v) := by
  refine ⟨by omega, by omega, fun h tp x hL hH h9 hj ht hx k1 k0 => ?_⟩
  obtain ⟨m, hm⟩ := k1 v (sA h (l + 7) tp v) (x + 1) rfl (by omega) (HF_sA (Nat.le_refl _)) h9 (by rw [gA_sA, if_pos ⟨rfl, rfl⟩])
  refine ⟨m + 1, rk_fetch hl hL hH hs (by omega) (by omega) (by rw [h1]; decide) ?_⟩
  unfold rkB
  rw [h1, h2]
  refine aIf_t rfl ?_
  unfold f_X3_reckon_72
  refine aIf_t (nI_lt (a := tp) (b := 64) (by omega) (by omega)) (aIf_f (fun z => z rfl) ?_)
  rw [lw_8 hl hL, lwi_7 hl, vp_lt (show tp < 64 by omega) (by decide), cl (by omega)]
  refine ⟨trivial, fun h10 e10 x2 e2 x4 e4 => ?_⟩
  subst e10 e2 e4
  rw [nI_1, nI_1]
  exact hm
theorem sp_lvalue (hl : isLaw l) (hL : LayC h l' d') (hH : LawH h l op ar sz V) {k : Nat} (hk : k < 12) (hq : Q (V k) h) : f_X3_valueOf SC l (nI k) h Q := by
  refine aIf_f (nI_pos (by omega)) ⟨12, ?_, ?_, ?_⟩
  · rw [lw_7 hl hL]; rcases hl with rfl | rfl <;> decide
  · rw [lw_7 hl hL]; rcases hl with rfl | rfl <;> rfl
  · intro v5 e5
    subst e5
    refine aIf_f (nI_ge (a := k) (b := 12) hk (by decide)) ?_
    rw [lw_7 hl hL, lwi_6 hl, vp_lt hk (by decide), cl (by omega), hH.2.2.2 k hk]
    exact ⟨trivial, fun v e => by subst e; exact hq⟩
theorem rk_let (hl : isLaw l) (hs : sz ≤ 200) {i N k : Nat} (hN : 1 ≤ N) (hk : k < 12) (h1 : op i = 2) (h2 : ar i = nI k) : rkR l' d' l op ar sz V a1 Q i (i + 1) N (sLt k) := by
  refine ⟨by omega, by omega, fun h tp x hL hH h9 hj ht hx k1 k0 => ?_⟩
  obtain ⟨m, hm⟩ := k1 (V k) (sA h (l + 7) tp (V k)) (x + 1) rfl (by omega) (HF_sA (Nat.le_refl _)) h9 (by rw [gA_sA, if_pos ⟨rfl, rfl⟩])
  refine ⟨m + 1, rk_fetch hl hL hH hs (by omega) (by omega) (by rw [h1]; decide) ?_⟩
  unfold rkB
  rw [h1, h2]
  refine aIf_f (by decide) (aIf_f (fun z => z rfl) ?_)
  unfold f_X3_reckon_72
  refine aIf_t (nI_lt (a := tp) (b := 64) (by omega) (by omega)) (aIf_t (by decide) ?_)
  refine sp_lvalue hl hL hH hk ?_
  rw [lw_8 hl hL, lwi_7 hl, vp_lt (show tp < 64 by omega) (by decide), cl (by omega)]
  refine ⟨trivial, fun h10 e10 x2 e2 x4 e4 => ?_⟩
  subst e10 e2 e4
  rw [nI_1, nI_1]
  exact hm
theorem rk_neg (hl : isLaw l) (hs : sz ≤ 200) {i j N : Nat} {f : Sem} (h1 : rkR l' d' l op ar sz V a1 Q i j N f) (h2 : op j = 3) : rkR l' d' l op ar sz V a1 Q i (j + 1) N (sNeg f) := by
  have lt := h1.1
  have ln := h1.2.1
  refine ⟨by omega, by omega, fun h tp x hL hH h9 hj ht hx k1 k0 => ?_⟩
  refine h1.2.2 h tp x hL hH h9 (by omega) ht (by omega) (fun v h' x' e hx' hf g9 gt => ?_) (fun e h' hf g9 => k0 (by unfold sNeg; rw [e]) h' hf g9)
  have hL' := LayC_2 hf.1 hL
  have hH' := LawH_F hf hH
  obtain ⟨m, hm⟩ := k1 (1 - v) (sA h' (l + 7) tp (1 - v)) (x' + 1) (by unfold sNeg; rw [e]) (by omega) (HF_tr hf (HF_sA (Nat.le_refl _)) (Nat.le_refl _)) g9 (by rw [gA_sA, if_pos ⟨rfl, rfl⟩])
  refine ⟨m + 1, rk_fetch hl hL' hH' hs (by omega) (by omega) (by rw [h2]; decide) ?_⟩
  unfold rkB
  rw [h2]
  refine aIf_f (by decide) (aIf_t (by decide) (aIf_t (nI_le (a := 1) (b := tp + 1) (by omega) (by omega)) (aIf_f (fun z => z rfl) ?_)))
  rw [lw_8 hl hL', lwi_7 hl, nI_pred, vp_lt (show tp < 64 by omega) (by decide), cl (by omega), gt]
  refine ⟨trivial, fun v e => ⟨trivial, fun h10 e10 x4 e4 => ?_⟩⟩
  subst e e10 e4
  rw [nI_1]
  exact hm
theorem rk_bin (hl : isLaw l) (hs : sz ≤ 200) {i j m N N' : Nat} {o : Int32} {f g : Sem} (h1 : rkR l' d' l op ar sz V a1 Q i j N f) (h2 : rkR l' d' l op ar sz V a1 Q j m N' g) (hN : N' + 1 ≤ N) (h3 : op m = o) (h4 : isOp o) : rkR l' d' l op ar sz V a1 Q i (m + 1) N (sBin o f g) := by
  have lt1 := h1.1
  have ln1 := h1.2.1
  have lt2 := h2.1
  have ln2 := h2.2.1
  obtain ⟨n0, n1, n2, n3, n4, n5⟩ := isOp_n h4
  refine ⟨by omega, by omega, fun h tp x hL hH h9 hj ht hx k1 k0 => ?_⟩
  refine h1.2.2 h tp x hL hH h9 (by omega) (by omega) (by omega) (fun a h' x' e hx' hf g9 gt => ?_) (fun e h' hf g9 => k0 (by unfold sBin; rw [e]) h' hf g9)
  have hL' := LayC_2 hf.1 hL
  have hH' := LawH_F hf hH
  refine h2.2.2 h' (tp + 1) x' hL' hH' g9 (by omega) (by omega) (by omega) (fun b h'' x'' e2 hx'' hf2 g92 gt2 => ?_) (fun e2 h'' hf2 g92 => k0 (by unfold sBin; rw [e]; show (match g V with | none => none | some b => opv o a b) = none; rw [e2]) h'' (HF_tr hf hf2 (by omega)) g92)
  have hL2 := LayC_2 hf2.1 hL'
  have hH2 := LawH_F hf2 hH'
  have gt1 : gA h'' (l + 7) tp = a := (hf2.2.1 _ _ (by omega)).trans gt
  have es : sBin o f g V = opv o a b := by
    unfold sBin
    rw [e]
    show (match g V with | none => none | some b => opv o a b) = _
    rw [e2]
  have hf3 := HF_tr hf hf2 (t' := tp + 1) (by omega)
  have fin : ∀ n : Nat, (∀ r, opv o a b = some r → f_X3_reckon_12 SC l a1 Q n (nI (tp + 1)) (nI (m + 1)) (nI (x'' + 1)) (sA h'' (l + 7) tp r)) → (opv o a b = none → Q 0 (sA (sI h'' l 9 1) (l + 7) tp 0)) → f_X3_reckon_12 SC l a1 Q (n + 1) (nI (tp + 1 + 1)) (nI m) (nI x'') h'' := by
    intro n z1 z0
    refine rk_fetch hl hL2 hH2 hs (by omega) (by omega) (by rw [h3]; exact n0) ?_
    unfold rkB
    rw [h3]
    refine aIf_f n1 (aIf_t n2 (aIf_t (nI_le (a := 1) (b := tp + 1 + 1) (by omega) (by omega)) (aIf_t n3 (aIf_f n5 (aIf_t n4 (aIf_t (nI_le (a := 2) (b := tp + 1 + 1) (by omega) (by omega)) ?_))))))
    intro x2 e2
    rw [pk_m1] at e2
    subst e2
    rw [lw_8 hl hL2, lwi_7 hl, nI_pred, vp_lt (show tp < 64 by omega) (by decide), cl (by omega), gt1]
    refine ⟨trivial, fun v e => ?_⟩
    subst e
    rw [lwi_7 hl, vp_lt (show tp + 1 < 64 by omega) (by decide), cl (by omega), gt2]
    refine ⟨trivial, fun v' e' => ?_⟩
    subst e'
    refine sp_join h4 (fun r er => ?_) (fun er => ?_)
    · refine ⟨trivial, fun h61 e61 v62 e62 => ?_⟩
      subst e61
      rw [gI_sA, g92] at e62
      subst e62
      refine aIf_t rfl (fun x4 e4 => ?_)
      subst e4
      rw [nI_1]
      exact z1 r er
    · refine ⟨trivial, fun h61 e61 v62 e62 => ?_⟩
      subst e61
      rw [gI_sA, gI_sI, if_pos ⟨rfl, rfl⟩] at e62
      subst e62
      exact aIf_f (by decide) (z0 er)
  rcases ho : opv o a b with _ | r
  · refine ⟨0 + 1, fin 0 (fun r er => absurd (ho.symm.trans er) (by simp)) (fun _ => ?_)⟩
    exact k0 (es.trans ho) _ (HF_tr hf3 (HF_tr HF_sI (HF_sA (Nat.le_refl _)) (Nat.le_refl _)) (Nat.le_refl _)) (by rw [gI_sA, gI_sI, if_pos ⟨rfl, rfl⟩])
  · obtain ⟨n, hn⟩ := k1 r (sA h'' (l + 7) tp r) (x'' + 1) (es.trans ho) (by omega) (HF_tr hf3 (HF_sA (Nat.le_refl _)) (Nat.le_refl _)) g92 (by rw [gA_sA, if_pos ⟨rfl, rfl⟩])
    refine ⟨n + 1, fin n (fun r' er => ?_) (fun er => absurd (ho.symm.trans er) (by simp))⟩
    have : r = r' := Option.some.inj (ho.symm.trans er)
    subst this
    exact hn
theorem rk_and (hl : isLaw l) (hs : sz ≤ 200) {i j m N : Nat} {f g : Sem} (h1 : rkR l' d' l op ar sz V a1 Q i j N f) (h2 : op j = 4) (h3 : ar j = nI m) (h4 : rkR l' d' l op ar sz V a1 Q (j + 1) m N g) : rkR l' d' l op ar sz V a1 Q i m N (sAnd f g) := by
  have lt1 := h1.1
  have ln1 := h1.2.1
  have lt2 := h4.1
  refine ⟨by omega, by omega, fun h tp x hL hH h9 hj ht hx k1 k0 => ?_⟩
  refine h1.2.2 h tp x hL hH h9 (by omega) (by omega) (by omega) (fun a h' x' e hx' hf g9 gt => ?_) (fun e h' hf g9 => k0 (by unfold sAnd; rw [e]) h' hf g9)
  have hL' := LayC_2 hf.1 hL
  have hH' := LawH_F hf hH
  have es : sAnd f g V = if a = 0 then some a else g V := by unfold sAnd; rw [e]
  have fin : ∀ n : Nat, (a = 0 → f_X3_reckon_12 SC l a1 Q n (nI (tp + 1)) (nI m) (nI (x' + 1)) h') → (¬ a = 0 → f_X3_reckon_12 SC l a1 Q n (nI tp) (nI (j + 1)) (nI (x' + 1)) h') → f_X3_reckon_12 SC l a1 Q (n + 1) (nI (tp + 1)) (nI j) (nI x') h' := by
    intro n z1 z0
    refine rk_fetch hl hL' hH' hs (by omega) (by omega) (by rw [h2]; decide) ?_
    unfold rkB
    rw [h2, h3]
    refine aIf_f (by decide) (aIf_t (by decide) (aIf_t (nI_le (a := 1) (b := tp + 1) (by omega) (by omega)) (aIf_t (by decide) (aIf_f (by decide) (aIf_f (fun z => z rfl) ?_)))))
    rw [lw_8 hl hL', lwi_7 hl, nI_pred, vp_lt (show tp < 64 by omega) (by decide), cl (by omega), gt]
    refine ⟨trivial, fun v e => ?_⟩
    subst e
    refine aIf_i (fun c => ?_) (fun c => ?_)
    · refine aIf_t (by decide) (aIf_f (fun z => z rfl) (fun x4 e4 => ?_))
      subst e4
      rw [nI_1]
      exact z1 c
    · refine aIf_t (by decide) (aIf_t (by decide) (fun x2 e2 x4 e4 => ?_))
      rw [pk_m1] at e2
      subst e2 e4
      rw [nI_1]
      exact z0 c
  by_cases c : a = 0
  · rw [if_pos c] at es
    obtain ⟨n, hn⟩ := k1 a h' (x' + 1) es (by omega) hf g9 gt
    exact ⟨n + 1, fin n (fun _ => hn) (fun z => absurd c z)⟩
  · rw [if_neg c] at es
    obtain ⟨n, hn⟩ := h4.2.2 h' tp (x' + 1) hL' hH' g9 hj (by omega) (by omega) (fun b h'' x'' e2 hx'' hf2 g92 gt2 => k1 b h'' x'' (es.trans e2) (by omega) (HF_tr hf hf2 (Nat.le_refl _)) g92 gt2) (fun e2 h'' hf2 g92 => k0 (es.trans e2) h'' (HF_tr hf hf2 (Nat.le_refl _)) g92)
    exact ⟨n + 1, fin n (fun z => absurd z c) (fun _ => hn)⟩
theorem rk_or (hl : isLaw l) (hs : sz ≤ 200) {i j m N : Nat} {f g : Sem} (h1 : rkR l' d' l op ar sz V a1 Q i j N f) (h2 : op j = 5) (h3 : ar j = nI m) (h4 : rkR l' d' l op ar sz V a1 Q (j + 1) m N g) : rkR l' d' l op ar sz V a1 Q i m N (sOr f g) := by
  have lt1 := h1.1
  have ln1 := h1.2.1
  have lt2 := h4.1
  refine ⟨by omega, by omega, fun h tp x hL hH h9 hj ht hx k1 k0 => ?_⟩
  refine h1.2.2 h tp x hL hH h9 (by omega) (by omega) (by omega) (fun a h' x' e hx' hf g9 gt => ?_) (fun e h' hf g9 => k0 (by unfold sOr; rw [e]) h' hf g9)
  have hL' := LayC_2 hf.1 hL
  have hH' := LawH_F hf hH
  have es : sOr f g V = if a = 0 then g V else some a := by unfold sOr; rw [e]
  have fin : ∀ n : Nat, (¬ a = 0 → f_X3_reckon_12 SC l a1 Q n (nI (tp + 1)) (nI m) (nI (x' + 1)) h') → (a = 0 → f_X3_reckon_12 SC l a1 Q n (nI tp) (nI (j + 1)) (nI (x' + 1)) h') → f_X3_reckon_12 SC l a1 Q (n + 1) (nI (tp + 1)) (nI j) (nI x') h' := by
    intro n z1 z0
    refine rk_fetch hl hL' hH' hs (by omega) (by omega) (by rw [h2]; decide) ?_
    unfold rkB
    rw [h2, h3]
    refine aIf_f (by decide) (aIf_t (by decide) (aIf_t (nI_le (a := 1) (b := tp + 1) (by omega) (by omega)) (aIf_t (by decide) (aIf_t rfl ?_))))
    rw [lw_8 hl hL', lwi_7 hl, nI_pred, vp_lt (show tp < 64 by omega) (by decide), cl (by omega), gt]
    refine ⟨trivial, fun v e => ?_⟩
    subst e
    refine aIf_i (fun c => ?_) (fun c => ?_)
    · refine aIf_f (fun z => z rfl) (aIf_t (by decide) (fun x2 e2 x4 e4 => ?_))
      rw [pk_m1] at e2
      subst e2 e4
      rw [nI_1]
      exact z0 c
    · refine aIf_f (fun z => z rfl) (aIf_f (fun z => z rfl) (fun x4 e4 => ?_))
      subst e4
      rw [nI_1]
      exact z1 c
  by_cases c : a = 0
  · rw [if_pos c] at es
    obtain ⟨n, hn⟩ := h4.2.2 h' tp (x' + 1) hL' hH' g9 hj (by omega) (by omega) (fun b h'' x'' e2 hx'' hf2 g92 gt2 => k1 b h'' x'' (es.trans e2) (by omega) (HF_tr hf hf2 (Nat.le_refl _)) g92 gt2) (fun e2 h'' hf2 g92 => k0 (es.trans e2) h'' (HF_tr hf hf2 (Nat.le_refl _)) g92)
    exact ⟨n + 1, fin n (fun z => absurd c z) (fun _ => hn)⟩
  · rw [if_neg c] at es
    obtain ⟨n, hn⟩ := k1 a h' (x' + 1) es (by omega) hf g9 gt
    exact ⟨n + 1, fin n (fun _ => hn) (fun z => absurd z c)⟩
/-- RECKON: what a piece of code that ends in END says -/
theorem sp_reckon (hl : isLaw l) (hL : LayC h l' d') (hH : LawH h l op ar sz V) (hs : sz ≤ 200) {i j N : Nat} {f : Sem} (hc : CCo op ar i j N f) (hj : j < sz) (h0 : op j = 0) (hN : N ≤ 64) (h1 : ∀ v h', f V = some v → HF l 0 h h' → gI h' l 9 = 0 → Q v h') (h2 : f V = none → ∀ h', HF l 0 h h' → gI h' l 9 = 1 → Q 0 h') : f_X3_reckon SC l (nI i) h Q := by
  intro h7 e7
  have e7' : h7 = sI h l 9 0 := e7
  subst e7'
  have hf0 : HF l 0 h (sI h l 9 0) := HF_sI
  have := hc (rkR l' d' l op ar sz V (nI i) Q) ⟨fun i v N => rk_num hl hs, fun i k N => rk_let hl hs, fun i j m o N N' f g => rk_bin hl hs, fun i j N f => rk_neg hl hs, fun i j m N f g => rk_and hl hs, fun i j m N f g => rk_or hl hs⟩
  have lt := this.1
  refine this.2.2 (sI h l 9 0) 0 0 (LayC_2 hf0.1 hL) (LawH_F hf0 hH) (by rw [gI_sI, if_pos ⟨rfl, rfl⟩]) (by omega) (by omega) (by omega) (fun v h' x' e hx hf g9 gt => ?_) (fun e h' hf g9 => h2 e h' (HF_tr hf0 hf (Nat.le_refl _)) g9)
  have hf' := HF_tr hf0 hf (Nat.le_refl _)
  have hL' := LayC_2 hf'.1 hL
  have hH' := LawH_F hf' hH
  have fin : aIn SC 0 (gR h' l 8) 0 ∧ ∀ v25 : Int32, v25 = (gA h' (gR h' l 8) ((0 : Int32)).toNatClampNeg) → Q v25 h' := by
    rw [lw_8 hl hL', lwi_7 hl]
    refine ⟨vp_in_nI (n := 0) (by decide) (by decide), fun v25 e25 => ?_⟩
    have e25' : v25 = v := e25.trans gt
    subst e25'
    exact h1 v25 h' e hf' g9
  refine ⟨1, ?_⟩
  refine aIf_i (fun _ => fin) (fun _ => aIf_i (fun _ => fin) (fun _ v29 e29 => aIf_i (fun _ => fin) (fun _ => ?_)))
  rw [lw_0 hl hL', lwi_1 hl, vp_lt (show j < 200 by omega) (by decide), cl (by omega), hH'.1, h0]
  refine ⟨trivial, fun v34 e34 => ?_⟩
  subst e34
  exact aIf_t rfl fin
end Reckon
