/-! ===== CLOSING: what it costs to shut ===== -/
def tmN (TK : Nat → Nat) (S : Nat) : Nat → Nat
  | 0 => 0
  | n + 1 => tmN TK S n + if S.testBit n = true then TK n else 0
def mnv (o : Option Nat) (c : Nat) : Nat := match o with
  | none => c
  | some a => min a c
def ctN (TK UN LS T : Nat → Nat) (t S i : Nat) : Nat := T (S ||| 2 ^ i) + if tmN TK S t + TK i ≤ UN i then 0 else LS i
def mfO (TK UN LS T : Nat → Nat) (t S : Nat) : Nat → Option Nat
  | 0 => none
  | i + 1 => if S.testBit i = true then mfO TK UN LS T t S i else some (mnv (mfO TK UN LS T t S i) (ctN TK UN LS T t S i))
theorem tm_congr {TK : Nat → Nat} {S S' : Nat} : ∀ n, (∀ i, i < n → S'.testBit i = S.testBit i) → tmN TK S' n = tmN TK S n := by
  intro n
  induction n with
  | zero => intro _; rfl
  | succ n ih =>
    intro h
    show tmN TK S' n + (if S'.testBit n = true then TK n else 0) = tmN TK S n + if S.testBit n = true then TK n else 0
    rw [ih (fun i hi => h i (by omega)), h n (by omega)]
theorem tm_or {TK : Nat → Nat} {S i : Nat} (hS : ¬ S.testBit i = true) : ∀ n, i < n → tmN TK (S ||| 2 ^ i) n = tmN TK S n + TK i := by
  intro n
  induction n with
  | zero => intro h; exact absurd h (Nat.not_lt_zero _)
  | succ n ih =>
    intro h
    show tmN TK (S ||| 2 ^ i) n + (if (S ||| 2 ^ i).testBit n = true then TK n else 0) = tmN TK S n + (if S.testBit n = true then TK n else 0) + TK i
    by_cases e : i = n
    · subst e
      rw [tm_congr (S := S) (S' := S ||| 2 ^ i) i (fun j hj => by rw [or_bit, decide_eq_false (by omega), Bool.or_false]), or_bit, decide_eq_true rfl, Bool.or_true, if_pos rfl, if_neg hS, Nat.add_zero]
    · rw [ih (by omega), or_bit, decide_eq_false e, Bool.or_false]
      omega
theorem tm_le {TK : Nat → Nat} {S : Nat} (h : ∀ i, TK i ≤ 5) : ∀ n, tmN TK S n ≤ 5 * n := by
  intro n
  induction n with
  | zero => exact Nat.le_refl _
  | succ n ih =>
    show tmN TK S n + (if S.testBit n = true then TK n else 0) ≤ 5 * (n + 1)
    have := h n
    split <;> omega
theorem mf_congr {TK UN LS T T' : Nat → Nat} {t S : Nat} (h : ∀ S', S < S' → S' < 2 ^ t → T' S' = T S') (hS : S < 2 ^ t) : ∀ n, n ≤ t → mfO TK UN LS T' t S n = mfO TK UN LS T t S n := by
  intro n
  induction n with
  | zero => intro _; rfl
  | succ n ih =>
    intro hn
    unfold mfO
    by_cases c : S.testBit n = true
    · rw [if_pos c, if_pos c]; exact ih (by omega)
    · rw [if_neg c, if_neg c, ih (by omega)]
      unfold ctN
      rw [h _ (or_gt c) (or_lt hS (by omega))]
def ClF (h h' : aH) : Prop := h'.2.2 = h.2.2 ∧ (∀ c i, ¬ ((67 ≤ c ∧ c ≤ 72) ∨ c = 49 ∨ c = 50 ∨ c = 59 ∨ c = 60) → gA h' c i = gA h c i) ∧ ∀ c j, ¬ (c = 66 ∧ j = 4) → ¬ ((c = 43 ∨ c = 53) ∧ j = 9) → gI h' c j = gI h c j
theorem ClF_rf {h : aH} : ClF h h := ⟨rfl, fun _ _ _ => rfl, fun _ _ _ _ => rfl⟩
theorem ClF_tr {a b c : aH} (x : ClF a b) (y : ClF b c) : ClF a c := ⟨y.1.trans x.1, fun k i hk => (y.2.1 k i hk).trans (x.2.1 k i hk), fun k i h1 h2 => (y.2.2 k i h1 h2).trans (x.2.2 k i h1 h2)⟩
theorem ClF_S {a b : aH} (x : SFC a b) : ClF a b := ⟨x.1, fun c i hc => x.2.1 c i (by omega), fun c j _ h2 => x.2.2 c j h2⟩
theorem ClF_sA {h : aH} {c i : Nat} {v : Int32} (hc : 67 ≤ c ∧ c ≤ 72) : ClF h (sA h c i v) := ⟨rfl, fun a j ha => by rw [gA_sA, if_neg (fun z => ha (Or.inl (by omega)))], fun _ _ _ _ => rfl⟩
theorem ClF_sI {h : aH} {v : Int32} : ClF h (sI h 66 4 v) := ⟨rfl, fun _ _ _ => rfl, fun a j ha _ => by rw [gI_sI, if_neg ha]⟩
theorem CS_ClF {h h' : aH} (x : ClF h h') : CS h h' :=
  ⟨x.1, fun c hc i => x.2.1 c i (by omega), fun j => x.2.2 _ _ (by omega) (by omega), x.2.2 _ _ (by omega) (by omega), x.2.2 _ _ (by omega) (by omega), x.2.2 _ _ (by omega) (by omega), x.2.2 _ _ (by omega) (by omega), x.2.2 _ _ (by omega) (by omega), x.2.2 _ _ (by omega) (by omega)⟩
theorem RepC_ClF {h h' : aH} {L : Lw} (x : ClF h h') (hR : RepC h 1 L) : RepC h' 1 L := RepC_gA (fun c i h1 h2 => x.2.1 c i (by omega)) (fun j => x.2.2 _ _ (by omega) (by omega)) hR
theorem LC_ClF {h h' : aH} {l : Nat} {F : LF} (hl : isLaw l) (x : ClF h h') (hF : LC h l F) : LC h' l F := by
  unfold isLaw at hl
  exact LC_to (fun c h1 h2 i => x.2.1 c i (by omega)) (x.2.2 _ _ (by omega) (by omega)) (x.2.2 _ _ (by omega) (by omega)) hF
/-- the rows of the list: t of them -/
def ClL (h : aH) (t : Nat) (PH TK UN LS : Nat → Nat) : Prop := gI h 66 4 = nI t ∧ ∀ i, i < t → gA h 67 i = nI (PH i) ∧ gA h 68 i = nI (TK i) ∧ gA h 69 i = nI (UN i) ∧ gA h 70 i = nI (LS i)
section ClC
variable {h : aH} {l d t : Nat} {PH TK UN LS : Nat → Nat}
theorem sp_costOf (hL : LayC h l d) (hC : ClL h t PH TK UN LS) (ht : t ≤ 8) (b1 : ∀ i, TK i ≤ 5) (b2 : ∀ i, UN i ≤ 60) {T : Nat → Nat} {S i : Nat} (hS : S < 2 ^ t) (hi : i < t) (e71 : gA h 71 S = nI (tmN TK S t)) (e72 : gA h 72 (S ||| 2 ^ i) = nI (T (S ||| 2 ^ i))) {Q : Int32 → aH → Prop} (hq : Q (nI (ctN TK UN LS T t S i)) h) : f_X0_costOf SC 66 (nI i) (nI S) h Q := by
  have p8 : 2 ^ t ≤ 2 ^ 8 := Nat.pow_le_pow_right (by decide) ht
  have hS' : S < 256 := by omega
  have hO : S ||| 2 ^ i < 256 := Nat.lt_of_lt_of_le (or_lt hS hi) p8
  have hp : 2 ^ i < 2 ^ 31 := Nat.pow_lt_pow_right (by decide) (by omega)
  have tl := tm_le (S := S) b1 t
  have bi := b1 i
  have ui := b2 i
  obtain ⟨-, c2, c3, c4⟩ := hC.2 i hi
  unfold f_X0_costOf
  rw [c_66_5 hL, ca_71, vp_lt hS' (by decide), cl (by omega), e71]
  refine ⟨trivial, fun v ev => ?_⟩
  subst ev
  rw [c_66_1 hL, ca_68, vp_lt (show i < 8 by omega) (by decide), cl (by omega), c2]
  refine ⟨trivial, fun v ev => ?_⟩
  subst ev
  rw [c_66_2 hL, ca_69, vp_lt (show i < 8 by omega) (by decide), c3]
  refine ⟨trivial, fun v ev => ?_⟩
  subst ev
  have k27 : ∀ s0, (s0 = 0 → tmN TK S t + TK i ≤ UN i) → (¬ s0 = 0 → ¬ tmN TK S t + TK i ≤ UN i) → f_X0_costOf_27 SC 66 (nI i) (nI S) Q s0 h := by
    intro s0 z0 z1
    unfold f_X0_costOf_27
    rw [sh1 (by omega), nI_or (by omega) hp, c_66_6 hL, ca_72, vp_lt hO (by decide), cl (by omega), e72]
    refine ⟨trivial, fun v ev => ?_⟩
    subst ev
    unfold ctN at hq
    refine aIf_i (fun c => ?_) (fun c => ?_)
    · rw [if_pos (z0 c), Nat.add_zero] at hq
      rw [Int32.add_zero]
      exact hq
    · rw [if_neg (z1 c)] at hq
      rw [c_66_3 hL, ca_70, vp_lt (show i < 8 by omega) (by decide), cl (by omega), c4]
      refine ⟨trivial, fun v ev => ?_⟩
      subst ev
      rw [nI_add]
      exact hq
  rw [nI_add]
  refine aIf_i (fun c => k27 0 (fun _ => (nI_leI (by omega) (by omega)).mp c) (fun z => absurd rfl z)) (fun c => k27 1 (fun z => absurd z (by decide)) (fun _ y => c ((nI_leI (by omega) (by omega)).mpr y)))
/-- the times of all sets -/
theorem sp_times (hL : LayC h l d) (hC : ClL h t PH TK UN LS) (ht : t ≤ 8) {a3 a4 x5 : Int32} {Q : aH → Prop} (e0 : gA h 71 0 = 0) (hq : ∀ h', ClF h h' → (∀ c i, c ≠ 71 → gA h' c i = gA h c i) → gI h' 66 4 = nI t → (∀ S, S < 2 ^ t → gA h' 71 S = nI (tmN TK S t)) → f_X0_solve_29 SC 66 1 42 a3 a4 Q 1 x5 (nI t) h') : ∃ m, f_X0_solve_29 SC 66 1 42 a3 a4 Q m x5 0 h := by
  have key := up_loop (N := t) (P := fun w i => ∀ h', ClF h h' → (∀ c i, c ≠ 71 → gA h' c i = gA h c i) → gI h' 66 4 = nI t → (∀ S, S < 2 ^ i → gA h' 71 S = nI (tmN TK S i)) → f_X0_solve_29 SC 66 1 42 a3 a4 Q w x5 (nI i) h') ?_ ?_
  · refine ⟨t + 1, key h ClF_rf (fun _ _ _ => rfl) hC.1 (fun S hS => ?_)⟩
    have : S = 0 := by omega
    subst this
    exact e0
  · intro h' f' o' g' e'
    exact hq h' f' o' g' e'
  · intro w i hi n1 h' f' o' g' e'
    have l' := LayC_2 f'.1 hL
    intro v ev
    rw [g'] at ev
    subst ev
    refine aIf_f (nI_ge hi (by omega)) ?_
    have pi : 2 ^ i ≤ 2 ^ 7 := Nat.pow_le_pow_right (by decide) (by omega)
    have loop := up_loop (N := 2 ^ i) (P := fun m b => ∀ h2, ClF h h2 → (∀ c i, c ≠ 71 → gA h2 c i = gA h c i) → gI h2 66 4 = nI t → (∀ S, S < 2 ^ i → gA h2 71 S = nI (tmN TK S i)) → (∀ S, S < b → gA h2 71 (S ||| 2 ^ i) = nI (tmN TK S i + TK i)) → f_X0_solve_41 SC 66 1 42 a3 a4 Q (f_X0_solve_29 SC 66 1 42 a3 a4 Q (w + 1)) m x5 (nI i) (nI b) h2) ?_ ?_
    · exact ⟨2 ^ i + 1, loop h' f' o' g' e' (fun S hS => absurd hS (Nat.not_lt_zero _))⟩
    · intro h2 f2 o2 g2 e2 s2
      refine aIf_t (by rw [sh1 (by omega)]; exact nI_le (Nat.le_refl _) (by omega)) (fun x ex => ?_)
      rw [nI_1] at ex
      subst ex
      refine n1 h2 f2 o2 g2 (fun S hS => ?_)
      show gA h2 71 S = nI (tmN TK S i + if S.testBit i = true then TK i else 0)
      rcases Nat.lt_or_ge S (2 ^ i) with z | z
      · rw [if_neg (by rw [Nat.testBit_lt_two_pow z]; decide), Nat.add_zero]
        exact e2 S z
      · have hb : S - 2 ^ i < 2 ^ i := by rw [Nat.pow_succ] at hS; omega
        have eS : (S - 2 ^ i) ||| 2 ^ i = S := by
          have := Nat.two_pow_add_eq_or_of_lt hb 1
          rw [Nat.mul_one] at this
          rw [Nat.or_comm, ← this]
          omega
        have := s2 (S - 2 ^ i) hb
        rw [eS] at this
        rw [this]
        have bt : S.testBit i = true := by rw [← eS, or_bit, decide_eq_true rfl, Bool.or_true]
        rw [if_pos bt, tm_congr (S := S - 2 ^ i) (S' := S) i (fun j hj => by rw [← eS, or_bit, decide_eq_false (by omega), Bool.or_false, eS])]
    · intro m b hb m1 h2 f2 o2 g2 e2 s2
      have l2 := LayC_2 f2.1 hL
      refine aIf_f (by rw [sh1 (by omega)]; exact nI_ge hb (by omega)) ?_
      have hO : b ||| 2 ^ i < 256 := by
        have := or_lt (S := b) (i := i) (n := i + 1) (by rw [Nat.pow_succ]; omega) (by omega)
        rw [Nat.pow_succ] at this
        omega
      rw [c_66_5 l2, ca_71, vp_lt (show b < 256 by omega) (by decide), cl (by omega), e2 b hb]
      refine ⟨trivial, fun v ev => ?_⟩
      subst ev
      rw [c_66_1 l2, ca_68, vp_lt (show i < 8 by omega) (by decide), cl (by omega), o2 68 i (by decide), (hC.2 i hi).2.1]
      refine ⟨trivial, fun v ev => ?_⟩
      subst ev
      rw [sh1 (by omega), nI_or (by omega) (by omega), ca_71, vp_lt hO (by decide), cl (by omega)]
      refine ⟨trivial, fun h3 e3 x ex => ?_⟩
      rw [nI_1] at ex
      subst ex e3
      rw [nI_add]
      have ge : 2 ^ i ≤ b ||| 2 ^ i := Nat.right_le_or
      refine m1 _ (ClF_tr f2 (ClF_sA (by decide))) (fun c j hc => by rw [gA_o hc]; exact o2 c j hc) g2 (fun S hS => ?_) (fun S hS => ?_)
      · rw [gA_p (by omega)]; exact e2 S hS
      · by_cases z : S = b
        · rw [z, gA_e]
        · have ne : S ||| 2 ^ i ≠ b ||| 2 ^ i := fun y => z (by
            have a1 := Nat.two_pow_add_eq_or_of_lt (show S < 2 ^ i by omega) 1
            have a2 := Nat.two_pow_add_eq_or_of_lt hb 1
            rw [Nat.mul_one] at a1 a2
            rw [Nat.or_comm, ← a1, Nat.or_comm b, ← a2] at y
            omega)
          rw [gA_p ne]
          exact s2 S (by omega)
end ClC
