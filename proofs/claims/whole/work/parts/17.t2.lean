/-! ===== CLOSING: the class's table of costs ===== -/
def encF (far : Nat) (o : Option Nat) : Int32 := match o with
  | none => nI far
  | some v => nI v
theorem all_bit {t S : Nat} (hS : S < 2 ^ t - 1) : ∃ i, i < t ∧ ¬ S.testBit i = true := by
  apply Classical.byContradiction
  intro h
  have hb : ∀ i, i < t → S.testBit i = true := fun i hi => Classical.byContradiction (fun z => h ⟨i, hi, z⟩)
  have e : S = 2 ^ t - 1 := by
    apply Nat.eq_of_testBit_eq
    intro i
    rw [Nat.testBit_two_pow_sub_one]
    by_cases c : i < t
    · rw [hb i c, decide_eq_true c]
    · rw [decide_eq_false c]
      exact Nat.testBit_lt_two_pow (Nat.lt_of_lt_of_le (show S < 2 ^ t by omega) (Nat.pow_le_pow_right (by decide) (by omega)))
  omega
theorem mf_some {TK UN LS T : Nat → Nat} {t S : Nat} : ∀ n, (∃ i, i < n ∧ ¬ S.testBit i = true) → ∃ v, mfO TK UN LS T t S n = some v := by
  intro n
  induction n with
  | zero => intro ⟨i, hi, _⟩; exact absurd hi (Nat.not_lt_zero _)
  | succ n ih =>
    intro ⟨i, hi, hb⟩
    unfold mfO
    by_cases c : S.testBit n = true
    · rw [if_pos c]
      refine ih ⟨i, ?_, hb⟩
      rcases Nat.lt_or_ge i n with z | z
      · exact z
      · have : i = n := by omega
        rw [this] at hb
        exact absurd c hb
    · rw [if_neg c]; exact ⟨_, rfl⟩
theorem mnv_le {o : Option Nat} {c B : Nat} (hc : c ≤ B) : mnv o c ≤ B := by
  cases o with
  | none => exact hc
  | some a => exact Nat.le_trans (Nat.min_le_right _ _) hc
theorem mf_le {TK UN LS T : Nat → Nat} {t S B : Nat} (h : ∀ i, i < t → ¬ S.testBit i = true → ctN TK UN LS T t S i ≤ B) : ∀ n, n ≤ t → ∀ v, mfO TK UN LS T t S n = some v → v ≤ B := by
  intro n
  induction n with
  | zero => intro _ v e; cases e
  | succ n ih =>
    intro hn v e
    unfold mfO at e
    by_cases c : S.testBit n = true
    · rw [if_pos c] at e; exact ih (by omega) v e
    · rw [if_neg c] at e
      cases e
      exact mnv_le (h n (by omega) c)
theorem mf_att {TK UN LS T : Nat → Nat} {t S : Nat} : ∀ n v, mfO TK UN LS T t S n = some v → ∃ i, i < n ∧ ¬ S.testBit i = true ∧ ctN TK UN LS T t S i = v := by
  intro n
  induction n with
  | zero => intro v e; cases e
  | succ n ih =>
    intro v e
    unfold mfO at e
    by_cases c : S.testBit n = true
    · rw [if_pos c] at e
      obtain ⟨i, a, b⟩ := ih v e
      exact ⟨i, by omega, b⟩
    · rw [if_neg c] at e
      have e : mnv (mfO TK UN LS T t S n) (ctN TK UN LS T t S n) = v := Option.some.inj e
      rcases eo : mfO TK UN LS T t S n with _ | a
      · rw [eo] at e
        exact ⟨n, by omega, c, e⟩
      · rw [eo] at e
        have e : min a (ctN TK UN LS T t S n) = v := e
        rcases Nat.le_total a (ctN TK UN LS T t S n) with z | z
        · rw [Nat.min_eq_left z] at e
          obtain ⟨i, x, y⟩ := ih a eo
          exact ⟨i, by omega, y.1, y.2.trans e⟩
        · rw [Nat.min_eq_right z] at e
          exact ⟨n, by omega, c, e⟩
theorem min_enc {far c : Nat} {o : Option Nat} (hf : far < 2 ^ 31) (hc : c < far) (ho : ∀ a, o = some a → a < 2 ^ 31) : aMin (encF far o) (nI c) = encF far (some (mnv o c)) := by
  cases o with
  | none =>
    show aMin (nI far) (nI c) = nI c
    rw [min_nI hf (by omega), Nat.min_eq_right (by omega)]
  | some a => exact min_nI (ho a rfl) (by omega)
/-- the table from x on -/
def RT (h : aH) (TK UN LS T : Nat → Nat) (t x : Nat) : Prop := (∀ S, x ≤ S → S < 2 ^ t → gA h 72 S = nI (T S) ∧ T S ≤ 55 * (2 ^ t - 1 - S)) ∧ T (2 ^ t - 1) = 0 ∧ ∀ S, x ≤ S → S < 2 ^ t - 1 → mfO TK UN LS T t S t = some (T S)
section ClD
variable {h : aH} {l d t : Nat} {PH TK UN LS : Nat → Nat}
theorem sp_rests (hL : LayC h l d) (hC : ClL h t PH TK UN LS) (h1t : 1 ≤ t) (ht : t ≤ 8) (b1 : ∀ i, TK i ≤ 5) (b2 : ∀ i, UN i ≤ 60) (b3 : ∀ i, LS i ≤ 55) (e71 : ∀ S, S < 2 ^ t → gA h 71 S = nI (tmN TK S t)) {a3 a4 : Int32} {Q : aH → Prop} (hq : ∀ h' T, ClF h h' → (∀ c i, c ≠ 72 → gA h' c i = gA h c i) → gI h' 66 4 = nI t → RT h' TK UN LS T t 0 → Q h') : f_X0_solve_29 SC 66 1 42 a3 a4 Q 1 (nI (2 ^ t - 1)) (nI t) h := by
  have p8 : 2 ^ t ≤ 2 ^ 8 := Nat.pow_le_pow_right (by decide) ht
  have p1 : 2 ^ 1 ≤ 2 ^ t := Nat.pow_le_pow_right (by decide) h1t
  have p8 : 2 ^ t ≤ 256 := p8
  have p1 : 2 ≤ 2 ^ t := p1
  intro v ev
  rw [hC.1] at ev
  subst ev
  refine aIf_t (nI_le (Nat.le_refl _) (by omega)) ?_
  rw [c_66_6 hL, ca_72, vp_lt (show 2 ^ t - 1 < 256 by omega) (by decide), cl (by omega)]
  refine ⟨trivial, fun h1 e1 x6 ex => ?_⟩
  have key : ∀ x, x < 2 ^ t → ∀ (h' : aH) (T : Nat → Nat), ClF h h' → (∀ c i, c ≠ 72 → gA h' c i = gA h c i) → gI h' 66 4 = nI t → RT h' TK UN LS T t x → f_X0_solve_103 SC 66 1 42 a3 a4 Q (x + 1) (iI ((x : Int) - 1)) h' := by
    intro x
    induction x with
    | zero =>
      intro _ h' T f' o' g' r'
      exact aIf_t (by decide) (hq h' T f' o' g' r')
    | succ s ih =>
      intro hx h' T f' o' g' r'
      have l' := LayC_2 f'.1 hL
      have es : iI (((s + 1 : Nat) : Int) - 1) = nI s := by
        rw [← iI_nat]; congr 1; omega
      rw [es]
      refine aIf_f (nI_pos (by omega)) ?_
      rw [c_66_6 l', ca_72, vp_lt (show s < 256 by omega) (by decide), cl (by omega)]
      refine ⟨trivial, fun h2 e2 => ?_⟩
      have bct : ∀ i, i < t → ¬ s.testBit i = true → ctN TK UN LS T t s i ≤ 55 * (2 ^ t - 1 - s) := by
        intro i hi c
        have g1 := or_gt c
        have g2 := or_lt (n := t) (show s < 2 ^ t by omega) hi
        have g3 := (r'.1 (s ||| 2 ^ i) (by omega) g2).2
        have g4 := b3 i
        unfold ctN
        split <;> omega
      have loop := up_loop (N := t) (P := fun m i => ∀ h3, ClF h h3 → (∀ c j, ¬ (c = 72 ∧ j = s) → gA h3 c j = gA h' c j) → gI h3 66 4 = nI t → gA h3 72 s = encF 1073741824 (mfO TK UN LS T t s i) → f_X0_solve_120 SC 66 1 42 a3 a4 Q (f_X0_solve_103 SC 66 1 42 a3 a4 Q (s + 1)) m (nI s) (nI i) h3) ?_ ?_
      · refine ⟨t + 1, loop h2 ?_ (fun c j hc => ?_) ?_ ?_⟩
        · rw [e2]; exact ClF_tr f' (ClF_sA (by decide))
        · rw [e2, gA_sA, if_neg hc]
        · rw [e2]; exact g'
        · rw [e2, gA_e]; rfl
      · intro h3 f3 o3 g3 e3 v ev
        rw [g3] at ev
        subst ev
        refine aIf_t (nI_le (Nat.le_refl _) (by omega)) (fun x ex => ?_)
        have ex2 : x = iI ((s : Int) - 1) := by
          rw [ex, ← iI_nat, show (-1 : Int32) = iI (-1) from rfl, iI_add]
          rfl
        subst ex2
        obtain ⟨v, hv⟩ := mf_some (TK := TK) (UN := UN) (LS := LS) (T := T) (t := t) (S := s) t (all_bit (by omega))
        rw [hv] at e3
        have hvb := mf_le bct t (Nat.le_refl _) v hv
        refine ih (by omega) h3 (fun S => if S = s then v else T S) f3 (fun c j hc => by rw [o3 c j (fun z => hc z.1)]; exact o' c j hc) g3 ⟨fun S a b => ?_, ?_, fun S a b => ?_⟩
        · show gA h3 72 S = nI (if S = s then v else T S) ∧ (if S = s then v else T S) ≤ _
          by_cases z : S = s
          · rw [if_pos z, z]
            exact ⟨e3, hvb⟩
          · rw [if_neg z, o3 72 S (fun y => z y.2)]
            exact r'.1 S (by omega) b
        · show (if 2 ^ t - 1 = s then v else T (2 ^ t - 1)) = 0
          rw [if_neg (by omega)]
          exact r'.2.1
        · show _ = some (if S = s then v else T S)
          rw [mf_congr (T := T) (T' := fun S => if S = s then v else T S) (fun S' y1 y2 => if_neg (by omega)) (by omega) t (Nat.le_refl _)]
          by_cases z : S = s
          · rw [if_pos z, z]; exact hv
          · rw [if_neg z]; exact r'.2.2 S (by omega) b
      · intro m i hi m1 h3 f3 o3 g3 e3 v ev
        have l3 := LayC_2 f3.1 hL
        rw [g3] at ev
        subst ev
        refine aIf_f (nI_ge hi (by omega)) ?_
        rw [bitI (by omega) (by omega)]
        have m1 := fun h4 a b c (e : gA h4 72 s = encF 1073741824 (if s.testBit i = true then mfO TK UN LS T t s i else some (mnv (mfO TK UN LS T t s i) (ctN TK UN LS T t s i)))) => m1 h4 a b c e
        by_cases c : s.testBit i = true
        · rw [if_pos c]
          refine aIf_t (by decide) (fun x ex => ?_)
          rw [nI_1] at ex
          subst ex
          exact m1 h3 f3 o3 g3 (by rw [if_pos c]; exact e3)
        · rw [if_neg c]
          refine aIf_f (fun z => z rfl) ?_
          rw [c_66_6 l3, ca_72, vp_lt (show s < 256 by omega) (by decide), cl (by omega), e3]
          refine ⟨trivial, fun v ev => ?_⟩
          subst ev
          have g2 := or_lt (n := t) (show s < 2 ^ t by omega) hi
          have gg := or_gt c
          refine sp_costOf (PH := PH) (T := T) l3 ⟨g3, fun j hj => by rw [o3 67 j (by omega), o3 68 j (by omega), o3 69 j (by omega), o3 70 j (by omega), o' 67 j (by decide), o' 68 j (by decide), o' 69 j (by decide), o' 70 j (by decide)]; exact hC.2 j hj⟩ ht b1 b2 (show s < 2 ^ t by omega) hi (by rw [o3 71 s (by omega), o' 71 s (by decide)]; exact e71 s (by omega)) (by rw [o3 72 _ (fun z => by omega)]; exact (r'.1 _ (by omega) g2).1) ?_
          have hb := bct i hi c
          intro v ev
          rw [min_enc (by decide) (by omega) (fun a ea => by have := mf_le bct i (by omega) a ea; omega)] at ev
          subst ev
          refine ⟨trivial, fun h4 e4 x ex => ?_⟩
          rw [nI_1] at ex
          subst ex e4
          refine m1 _ (ClF_tr f3 (ClF_sA (by decide))) (fun a j hc => by rw [gA_sA, if_neg hc]; exact o3 a j hc) g3 ?_
          rw [if_neg c, gA_e]
  have ex2 : x6 = iI (((2 ^ t - 1 : Nat) : Int) - 1) := by
    rw [ex, ← iI_nat]
    exact iI_sub _ 1
  subst ex2
  have k0 := key (2 ^ t - 1) (by omega) h1 (fun _ => 0) (by rw [e1]; exact ClF_sA (by decide)) (fun c i hc => by rw [e1, gA_o hc]) (by rw [e1]; exact hC.1) ⟨fun S a b => ?_, rfl, fun S a b => by omega⟩
  · exact ⟨_, k0⟩
  · have : S = 2 ^ t - 1 := by omega
    rw [this, e1, gA_e]
    exact ⟨rfl, Nat.zero_le _⟩
/-- the least below n of which P holds, or n -/
def lst (P : Nat → Bool) : Nat → Nat
  | 0 => 0
  | n + 1 => if lst P n < n then lst P n else if P n = true then n else n + 1
theorem lst_le (P : Nat → Bool) : ∀ n, lst P n ≤ n := by
  intro n
  induction n with
  | zero => exact Nat.le_refl _
  | succ n ih =>
    unfold lst
    split
    · omega
    · split <;> omega
theorem lst_sp (P : Nat → Bool) : ∀ n, (∀ j, j < lst P n → ¬ P j = true) ∧ (lst P n < n → P (lst P n) = true) := by
  intro n
  induction n with
  | zero => exact ⟨fun j hj => absurd hj (Nat.not_lt_zero _), fun h => absurd h (Nat.lt_irrefl _)⟩
  | succ n ih =>
    have le := lst_le P n
    unfold lst
    by_cases c : lst P n < n
    · rw [if_pos c]
      exact ⟨ih.1, fun _ => ih.2 c⟩
    · rw [if_neg c]
      have e : lst P n = n := by omega
      rw [e] at ih
      by_cases c2 : P n = true
      · rw [if_pos c2]; exact ⟨ih.1, fun _ => c2⟩
      · rw [if_neg c2]
        refine ⟨fun j hj => ?_, fun h => absurd h (Nat.lt_irrefl _)⟩
        rcases Nat.lt_or_ge j n with z | z
        · exact ih.1 j z
        · rw [show j = n by omega]; exact c2
theorem lst_u {P : Nat → Bool} {n i : Nat} (hi : i < n) (h1 : P i = true) (h2 : ∀ j, j < i → ¬ P j = true) : lst P n = i := by
  obtain ⟨a, b⟩ := lst_sp P n
  rcases Nat.lt_trichotomy (lst P n) i with z | z | z
  · exact absurd (b (by omega)) (h2 _ z)
  · exact z
  · exact absurd h1 (a i z)
def cdB (TK UN LS T : Nat → Nat) (t S i : Nat) : Bool := !S.testBit i && decide (ctN TK UN LS T t S i = T S)
def nxN (TK UN LS T : Nat → Nat) (t S : Nat) : Nat := lst (cdB TK UN LS T t S) t
def stN (TK UN LS T : Nat → Nat) (t : Nat) : Nat → Nat
  | 0 => 0
  | q + 1 => stN TK UN LS T t q ||| 2 ^ nxN TK UN LS T t (stN TK UN LS T t q)
theorem nx_lt {TK UN LS T : Nat → Nat} {S : Nat} (hR : ∀ S, S < 2 ^ t - 1 → mfO TK UN LS T t S t = some (T S)) (hS : S < 2 ^ t - 1) : nxN TK UN LS T t S < t ∧ ¬ S.testBit (nxN TK UN LS T t S) = true ∧ ctN TK UN LS T t S (nxN TK UN LS T t S) = T S ∧ ∀ j, j < nxN TK UN LS T t S → S.testBit j = true ∨ ¬ ctN TK UN LS T t S j = T S := by
  obtain ⟨i, a, b, c⟩ := mf_att t _ (hR S hS)
  have hp : cdB TK UN LS T t S i = true := by
    unfold cdB
    rw [decide_eq_true c]
    cases e : S.testBit i with
    | false => rfl
    | true => exact absurd e b
  obtain ⟨s1, s2⟩ := lst_sp (cdB TK UN LS T t S) t
  have lt : nxN TK UN LS T t S < t := by
    rcases Nat.lt_or_ge (nxN TK UN LS T t S) t with z | z
    · exact z
    · exact absurd hp (s1 i (Nat.lt_of_lt_of_le a z))
  have p := s2 lt
  have p : (!S.testBit (nxN TK UN LS T t S) && decide (ctN TK UN LS T t S (nxN TK UN LS T t S) = T S)) = true := p
  rw [Bool.and_eq_true, decide_eq_true_iff] at p
  refine ⟨lt, fun z => ?_, p.2, fun j hj => ?_⟩
  · rw [z] at p; exact absurd p.1 (by decide)
  · have q := s1 j hj
    unfold cdB at q
    cases e : S.testBit j with
    | true => exact Or.inl rfl
    | false =>
      rw [e] at q
      refine Or.inr (fun z => q ?_)
      rw [decide_eq_true z]
      rfl
theorem st_lt {TK UN LS T : Nat → Nat} (hR : ∀ S, S < 2 ^ t - 1 → mfO TK UN LS T t S t = some (T S)) (ht : t ≤ 8) : ∀ q, q ≤ t → stN TK UN LS T t q < 2 ^ t ∧ pcN (stN TK UN LS T t q) t = q := by
  intro q
  induction q with
  | zero =>
    intro _
    refine ⟨Nat.two_pow_pos t, ?_⟩
    have : ∀ n, pcN 0 n = 0 := by
      intro n
      induction n with
      | zero => rfl
      | succ n ih =>
        show pcN 0 n + (if (0 : Nat).testBit n = true then 1 else 0) = 0
        rw [ih, Nat.zero_testBit]
        rfl
    exact this t
  | succ q ih =>
    intro hq
    obtain ⟨i1, i2⟩ := ih (by omega)
    have ne : stN TK UN LS T t q < 2 ^ t - 1 := by
      rcases Nat.lt_or_ge (stN TK UN LS T t q) (2 ^ t - 1) with z | z
      · exact z
      · have e : stN TK UN LS T t q = 2 ^ t - 1 := by omega
        have : ∀ n, n ≤ t → pcN (2 ^ t - 1) n = n := by
          intro n
          induction n with
          | zero => intro _; rfl
          | succ n ih =>
            intro hn
            show pcN (2 ^ t - 1) n + (if (2 ^ t - 1).testBit n = true then 1 else 0) = n + 1
            rw [ih (by omega), Nat.testBit_two_pow_sub_one, decide_eq_true (show n < t by omega), if_pos rfl]
        rw [e, this t (Nat.le_refl _)] at i2
        omega
    obtain ⟨n1, n2, -, -⟩ := nx_lt hR ne
    refine ⟨or_lt i1 n1, ?_⟩
    have pco : ∀ (S i : Nat), ¬ S.testBit i = true → ∀ n, i < n → pcN (S ||| 2 ^ i) n = pcN S n + 1 := by
      intro S i hS n
      have pcg : ∀ m, m ≤ i → pcN (S ||| 2 ^ i) m = pcN S m := by
        intro m
        induction m with
        | zero => intro _; rfl
        | succ m ih =>
          intro hm
          show pcN (S ||| 2 ^ i) m + (if (S ||| 2 ^ i).testBit m = true then 1 else 0) = pcN S m + if S.testBit m = true then 1 else 0
          rw [ih (by omega), or_bit, decide_eq_false (by omega), Bool.or_false]
      induction n with
      | zero => intro h; exact absurd h (Nat.not_lt_zero _)
      | succ n ih =>
        intro h
        show pcN (S ||| 2 ^ i) n + (if (S ||| 2 ^ i).testBit n = true then 1 else 0) = pcN S n + (if S.testBit n = true then 1 else 0) + 1
        by_cases e : i = n
        · subst e
          rw [pcg i (Nat.le_refl _), or_bit, decide_eq_true rfl, Bool.or_true, if_pos rfl, if_neg hS]
        · rw [ih (by omega), or_bit, decide_eq_false e, Bool.or_false]
          omega
    show pcN (stN TK UN LS T t q ||| 2 ^ nxN TK UN LS T t (stN TK UN LS T t q)) t = q + 1
    rw [pco _ _ n2 t n1, i2]
theorem st_ne {TK UN LS T : Nat → Nat} (hR : ∀ S, S < 2 ^ t - 1 → mfO TK UN LS T t S t = some (T S)) (ht : t ≤ 8) {q : Nat} (hq : q < t) : stN TK UN LS T t q < 2 ^ t - 1 := by
  obtain ⟨i1, i2⟩ := st_lt hR ht q (by omega)
  rcases Nat.lt_or_ge (stN TK UN LS T t q) (2 ^ t - 1) with z | z
  · exact z
  · have e : stN TK UN LS T t q = 2 ^ t - 1 := by omega
    have : ∀ n, n ≤ t → pcN (2 ^ t - 1) n = n := by
      intro n
      induction n with
      | zero => intro _; rfl
      | succ n ih =>
        intro hn
        show pcN (2 ^ t - 1) n + (if (2 ^ t - 1).testBit n = true then 1 else 0) = n + 1
        rw [ih (by omega), Nat.testBit_two_pow_sub_one, decide_eq_true (show n < t by omega), if_pos rfl]
    rw [e, this t (Nat.le_refl _)] at i2
    omega
/-- all that the class has reckoned -/
def Cls (h : aH) (t : Nat) (PH TK UN LS T : Nat → Nat) : Prop := ClL h t PH TK UN LS ∧ (∀ S, S < 2 ^ t → gA h 71 S = nI (tmN TK S t)) ∧ RT h TK UN LS T t 0
theorem sp_nextBehind {T : Nat → Nat} (hL : LayC h l d) (hC : Cls h t PH TK UN LS T) (ht : t ≤ 8) (b1 : ∀ i, TK i ≤ 5) (b2 : ∀ i, UN i ≤ 60) (b3 : ∀ i, LS i ≤ 55) {S : Nat} (hS : S < 2 ^ t - 1) {Q : Int32 → aH → Prop} (hq : Q (nI (nxN TK UN LS T t S)) h) : f_X0_nextBehind SC 66 (nI S) h Q := by
  obtain ⟨hc, e71, r1, r2, r3⟩ := hC
  have p8 : 2 ^ t ≤ 2 ^ 8 := Nat.pow_le_pow_right (by decide) ht
  have p8 : 2 ^ t ≤ 256 := p8
  obtain ⟨n1, n2, n3, n4⟩ := nx_lt (fun S hS => r3 S (Nat.zero_le _) hS) hS
  have key : ∀ w i, i + w = nxN TK UN LS T t S → f_X0_nextBehind_2 SC 66 (nI S) Q (w + 1) (nI i) h := by
    intro w
    induction w with
    | zero =>
      intro i hi v ev
      have e : i = nxN TK UN LS T t S := by omega
      rw [← e] at n1 n2 n3 hq
      rw [hc.1] at ev
      subst ev
      refine aIf_f (nI_ge n1 (by omega)) ?_
      rw [bitI (by omega) (by omega), if_neg n2]
      refine aIf_f (fun z => z rfl) ?_
      have g2 := or_lt (n := t) (show S < 2 ^ t by omega) n1
      refine sp_costOf (T := T) hL hc ht b1 b2 (show S < 2 ^ t by omega) n1 (e71 S (by omega)) (r1 _ (Nat.zero_le _) g2).1 ?_
      rw [c_66_6 hL, ca_72, vp_lt (show S < 256 by omega) (by decide), cl (by omega), (r1 S (Nat.zero_le _) (by omega)).1, n3]
      refine ⟨trivial, fun v ev => ?_⟩
      subst ev
      exact aIf_f (fun z => z rfl) hq
    | succ w ih =>
      intro i hi v ev
      rw [hc.1] at ev
      subst ev
      refine aIf_f (nI_ge (by omega) (by omega)) ?_
      rw [bitI (by omega) (by omega)]
      have nx : ∀ x : Int32, x = nI i + 1 → f_X0_nextBehind_2 SC 66 (nI S) Q (w + 1) x h := fun x ex => by
        rw [nI_1] at ex
        subst ex
        exact ih (i + 1) (by omega)
      by_cases c : S.testBit i = true
      · rw [if_pos c]
        exact aIf_t (by decide) nx
      · rw [if_neg c]
        refine aIf_f (fun z => z rfl) ?_
        have hi' : i < t := by omega
        have g2 := or_lt (n := t) (show S < 2 ^ t by omega) hi'
        have gg := or_gt c
        refine sp_costOf (T := T) hL hc ht b1 b2 (show S < 2 ^ t by omega) hi' (e71 S (by omega)) (r1 _ (Nat.zero_le _) g2).1 ?_
        rw [c_66_6 hL, ca_72, vp_lt (show S < 256 by omega) (by decide), cl (by omega), (r1 S (Nat.zero_le _) (by omega)).1]
        refine ⟨trivial, fun v ev => ?_⟩
        subst ev
        have ne := (n4 i (by omega)).resolve_left c
        have x1 := (r1 _ (Nat.zero_le _) g2).2
        have x2 := (r1 S (Nat.zero_le _) (by omega)).2
        have x3 := b3 i
        have bc : ctN TK UN LS T t S i < 2 ^ 31 := by
          unfold ctN
          split <;> omega
        exact aIf_t (fun z => ne ((nI_eq bc (by omega)).mp z)) nx
  exact ⟨_, key (nxN TK UN LS T t S) 0 (by omega)⟩
theorem sp_holeAt {T : Nat → Nat} (hL : LayC h l d) (hC : Cls h t PH TK UN LS T) (ht : t ≤ 8) (b1 : ∀ i, TK i ≤ 5) (b2 : ∀ i, UN i ≤ 60) (b3 : ∀ i, LS i ≤ 55) {p : Nat} (hp : p < t) {Q : Int32 → aH → Prop} (hq : Q (nI (PH (nxN TK UN LS T t (stN TK UN LS T t p)))) h) : f_X0_holeAt SC 66 (nI p) h Q := by
  obtain ⟨hc, e71, r1, r2, r3⟩ := id hC
  have p8 : 2 ^ t ≤ 2 ^ 8 := Nat.pow_le_pow_right (by decide) ht
  have p8 : 2 ^ t ≤ 256 := p8
  have hR : ∀ S, S < 2 ^ t - 1 → mfO TK UN LS T t S t = some (T S) := fun S hS => r3 S (Nat.zero_le _) hS
  have step : ∀ (w q : Nat) (x3 : Int32), q ≤ p → f_X0_holeAt_7 SC 66 (nI p) Q w (nI (stN TK UN LS T t (q + 1))) (nI (PH (nxN TK UN LS T t (stN TK UN LS T t q)))) (nI (q + 1)) h → f_X0_holeAt_7 SC 66 (nI p) Q (w + 1) (nI (stN TK UN LS T t q)) x3 (nI q) h := by
    intro w q x3 hq' hn
    refine aIf_f (fun z => absurd ((nI_ltI (by omega) (by omega)).mp z) (by omega)) ?_
    intro v ev
    rw [hc.1] at ev
    subst ev
    refine aIf_f (nI_ge (by omega) (by omega)) ?_
    have ne := st_ne hR ht (show q < t by omega)
    obtain ⟨n1, n2, -, -⟩ := nx_lt hR ne
    have hpw : 2 ^ nxN TK UN LS T t (stN TK UN LS T t q) < 2 ^ t := Nat.pow_lt_pow_right (by decide) n1
    refine sp_nextBehind hL hC ht b1 b2 b3 ne ?_
    intro x ex
    rw [sh1 (by omega), nI_or (by omega) (by omega)] at ex
    subst ex
    rw [c_66_0 hL, ca_67, vp_lt (show nxN TK UN LS T t (stN TK UN LS T t q) < 8 by omega) (by decide), cl (by omega), (hc.2 _ n1).1]
    refine ⟨trivial, fun v ev y ey => ?_⟩
    rw [nI_1] at ey
    subst ev ey
    exact hn
  have key : ∀ w q (x3 : Int32), q + w = p → f_X0_holeAt_7 SC 66 (nI p) Q (w + 2) (nI (stN TK UN LS T t q)) x3 (nI q) h := by
    intro w
    induction w with
    | zero =>
      intro q x3 hq'
      refine step 1 q x3 (by omega) ?_
      have e : q = p := by omega
      subst e
      exact aIf_t ((nI_ltI (by omega) (by omega)).mpr (by omega)) hq
    | succ w ih =>
      intro q x3 hq'
      exact step (w + 2) q x3 (by omega) (ih (q + 1) _ (by omega))
  exact ⟨_, key p 0 (-1) (by omega)⟩
end ClD
