/-! ===== CLOSING: the reference's table ===== -/
def kH (L : Lw) (q : Nat) : Nat := min 5 (1 + kN L q)
def lH (L : Lw) (q : Nat) : Nat := min 55 (10 + 5 * htN L q)
def crN (TK UR LS T : Nat → Nat) (hn D q : Nat) : Nat := (if tmN TK (D ||| 2 ^ q) hn ≤ UR q then 0 else LS q) + T (D ||| 2 ^ q)
def mfR (TK UR LS T : Nat → Nat) (hn A D : Nat) : Nat → Option Nat
  | 0 => none
  | q + 1 => if (dfN A D).testBit q = true then some (mnv (mfR TK UR LS T hn A D q) (crN TK UR LS T hn D q)) else mfR TK UR LS T hn A D q
theorem sub_iff {D A : Nat} (hD : D < 2 ^ 12) : dfN D A = 0 ↔ ∀ i, D.testBit i = true → A.testBit i = true := by
  constructor
  · intro h i hi
    have := df_bit (D := A) (i := i) hD
    rw [h, Nat.zero_testBit, hi, Bool.true_and] at this
    cases e : A.testBit i with
    | true => rfl
    | false => rw [e] at this; exact absurd this (by decide)
  · intro h
    apply Nat.eq_of_testBit_eq
    intro i
    rw [df_bit hD, Nat.zero_testBit]
    cases e : D.testBit i with
    | false => rfl
    | true => rw [h i e]; rfl
theorem sub_le {D A : Nat} (hD : D < 2 ^ 12) (h : dfN D A = 0) : D ≤ A := by
  have e : D &&& A = D := by
    apply Nat.eq_of_testBit_eq
    intro i
    rw [Nat.testBit_and]
    cases e : D.testBit i with
    | false => rfl
    | true => rw [(sub_iff hD).mp h i e]; rfl
  rw [← e]
  exact Nat.and_le_right
theorem df_t {A D q : Nat} (hA : A < 2 ^ 12) : (dfN A D).testBit q = true ↔ A.testBit q = true ∧ ¬ D.testBit q = true := by
  rw [df_bit hA]
  cases A.testBit q <;> cases D.testBit q <;> simp
theorem sub_or {D A q : Nat} (hD : D < 2 ^ 12) (hA : A < 2 ^ 12) (h : dfN D A = 0) (hq : (dfN A D).testBit q = true) : dfN (D ||| 2 ^ q) A = 0 ∧ D < D ||| 2 ^ q ∧ D ||| 2 ^ q < 2 ^ 12 := by
  obtain ⟨a, b⟩ := (df_t hA).mp hq
  have q12 : q < 12 := by
    rcases Nat.lt_or_ge q 12 with z | z
    · exact z
    · rw [tb_lt hA z] at a; exact absurd a (by decide)
  have l := or_lt (n := 12) hD q12
  refine ⟨(sub_iff l).mpr (fun i hi => ?_), or_gt b, l⟩
  rw [or_bit] at hi
  by_cases e : q = i
  · rw [← e]; exact a
  · rw [decide_eq_false e, Bool.or_false] at hi
    exact (sub_iff hD).mp h i hi
theorem sub_ex {D A : Nat} (hD : D < 2 ^ 12) (hA : A < 2 ^ 12) (h : dfN D A = 0) (hlt : D < A) : ∃ q, (dfN A D).testBit q = true := by
  apply Classical.byContradiction
  intro no
  have : A = D := by
    apply Nat.eq_of_testBit_eq
    intro i
    have ni : ¬ (dfN A D).testBit i = true := fun z => no ⟨i, z⟩
    rw [df_t hA] at ni
    cases e : D.testBit i with
    | true => exact (sub_iff hD).mp h i e
    | false =>
      cases e2 : A.testBit i with
      | false => rfl
      | true => exact absurd ⟨e2, by rw [e]; decide⟩ ni
  omega
theorem mfR_congr {TK UR LS T T' : Nat → Nat} {hn A D : Nat} (hD : D < 2 ^ 12) (hA : A < 2 ^ 12) (hs : dfN D A = 0) (h : ∀ D', D < D' → D' < 2 ^ 12 → dfN D' A = 0 → T' D' = T D') : ∀ n, mfR TK UR LS T' hn A D n = mfR TK UR LS T hn A D n := by
  intro n
  induction n with
  | zero => rfl
  | succ n ih =>
    unfold mfR
    by_cases c : (dfN A D).testBit n = true
    · rw [if_pos c, if_pos c, ih]
      obtain ⟨a1, a2, a3⟩ := sub_or hD hA hs c
      unfold crN
      rw [h _ a2 a3 a1]
    · rw [if_neg c, if_neg c]; exact ih
theorem mfR_some {TK UR LS T : Nat → Nat} {hn A D : Nat} : ∀ n, (∃ q, q < n ∧ (dfN A D).testBit q = true) → ∃ v, mfR TK UR LS T hn A D n = some v := by
  intro n
  induction n with
  | zero => intro ⟨i, hi, _⟩; exact absurd hi (Nat.not_lt_zero _)
  | succ n ih =>
    intro ⟨i, hi, hb⟩
    unfold mfR
    by_cases c : (dfN A D).testBit n = true
    · rw [if_pos c]; exact ⟨_, rfl⟩
    · rw [if_neg c]
      refine ih ⟨i, ?_, hb⟩
      rcases Nat.lt_or_ge i n with z | z
      · exact z
      · have : i = n := by omega
        rw [this] at hb
        exact absurd hb c
theorem mfR_le {TK UR LS T : Nat → Nat} {hn A D B : Nat} (h : ∀ q, (dfN A D).testBit q = true → crN TK UR LS T hn D q ≤ B) : ∀ n v, mfR TK UR LS T hn A D n = some v → v ≤ B := by
  intro n
  induction n with
  | zero => intro v e; cases e
  | succ n ih =>
    intro v e
    unfold mfR at e
    by_cases c : (dfN A D).testBit n = true
    · rw [if_pos c] at e
      cases e
      exact mnv_le (h n c)
    · rw [if_neg c] at e; exact ih v e
section ClR
variable {h : aH} {L : Lw} {hn gn : Nat}
theorem kH_eq (hW : WF L hn gn) {q : Nat} (hq : q < 12) : kH L q = 1 + kN L q ∧ lH L q = 10 + 5 * htN L q := by
  obtain ⟨-, a, -, b, -⟩ := hole_of hW hq
  unfold kH lH
  omega
theorem sr_timeOf (hL : LayM h) (hM : RepM h L) (hW : WF L hn gn) {D : Nat} (hD : D < 2 ^ 12) {Q : Int32 → aH → Prop} (hq : Q (nI (tmN (kH L) D hn)) h) : f_X11_timeOf SM 0 (nI D) h Q := by
  have hhn := hW.1
  have e2 : gI h 0 2 = nI hn := hM.2.2.2.1.trans hW.2.2.1
  have key := up_loop (N := hn) (P := fun w i => f_X11_timeOf_4 SM 0 (nI D) Q w (nI (tmN (kH L) D i)) (nI i) h) ?_ ?_
  · exact ⟨hn + 1, key⟩
  · intro v ev
    rw [e2] at ev
    subst ev
    exact aIf_t (nI_le (Nat.le_refl _) (by omega)) hq
  · intro w i hi n1 v ev
    rw [e2] at ev
    subst ev
    refine aIf_f (nI_ge hi (by omega)) ?_
    have n1 : f_X11_timeOf_4 SM 0 (nI D) Q (w + 1) (nI (tmN (kH L) D i + if D.testBit i = true then kH L i else 0)) (nI (i + 1)) h := n1
    refine sr_has (by omega) (by omega) (fun b => aIf_f (by decide) ?_) (fun b => aIf_t rfl ?_)
    · rw [if_pos b] at n1
      obtain ⟨k1, k2, -⟩ := hole_of hW (show i < 12 by omega)
      rw [m_10 hL, mi_6, vp_lt (show i < 12 by omega) (by decide), cl (by omega), (hM.2.1 i (by omega)).2.1, k1]
      refine ⟨trivial, fun v ev x ex y ey => ?_⟩
      subst ev
      rw [show (1 : Int32) = nI 1 from rfl, nI_add, nI_add, ← (kH_eq hW (show i < 12 by omega)).1] at ex
      rw [nI_1] at ey
      subst ex ey
      exact n1
    · rw [if_neg b, Nat.add_zero] at n1
      intro x ex y ey
      rw [Int32.add_zero] at ex
      rw [nI_1] at ey
      subst ex ey
      exact n1
theorem sr_costBy (hL : LayM h) (hM : RepM h L) (hW : WF L hn gn) {UR T : Nat → Nat} (bu : ∀ q, UR q ≤ 60) {D q : Nat} (hD : D < 2 ^ 12) (hq : q < hn) (e37 : gA h 37 q = nI (UR q)) (e38 : gA h 38 (D ||| 2 ^ q) = nI (T (D ||| 2 ^ q))) {Q : Int32 → aH → Prop} (hQ : Q (nI (crN (kH L) UR (lH L) T hn D q)) h) : f_X11_costBy SM 0 (nI D) (nI q) h Q := by
  have hhn := hW.1
  have hp : 2 ^ q < 2 ^ 31 := Nat.pow_lt_pow_right (by decide) (by omega)
  have hO : D ||| 2 ^ q < 2 ^ 12 := or_lt hD (by omega)
  have hO' : D ||| 2 ^ q < 4096 := hO
  unfold f_X11_costBy
  rw [sh1 (by omega), nI_or (by omega) hp]
  refine sr_timeOf hL hM hW hO ?_
  rw [m_56 hL, mi_37, vp_lt (show q < 12 by omega) (by decide), cl (by omega), e37]
  refine ⟨trivial, fun v ev => ?_⟩
  subst ev
  have tl := tm_le (TK := kH L) (S := D ||| 2 ^ q) (fun i => Nat.min_le_left _ _) hn
  have uq := bu q
  have k23 : ∀ s0, (s0 = 0 → tmN (kH L) (D ||| 2 ^ q) hn ≤ UR q) → (¬ s0 = 0 → ¬ tmN (kH L) (D ||| 2 ^ q) hn ≤ UR q) → f_X11_costBy_23 SM 0 (nI D) (nI q) Q s0 h := by
    intro s0 z0 z1
    unfold f_X11_costBy_23
    unfold crN at hQ
    rw [sh1 (by omega), nI_or (by omega) hp, m_57 hL, mi_38, vp_lt hO' (by decide), cl (by omega), e38]
    refine aIf_i (fun c => ⟨trivial, fun v ev => ?_⟩) (fun c => ?_)
    · subst ev
      rw [if_pos (z0 c), Nat.zero_add] at hQ
      rw [Int32.zero_add]
      exact hQ
    · rw [if_neg (z1 c)] at hQ
      obtain ⟨-, -, k1, k2, -⟩ := hole_of hW (show q < 12 by omega)
      rw [m_11 hL, mi_7, vp_lt (show q < 12 by omega) (by decide), cl (by omega), (hM.2.1 q (by omega)).2.2.1, k1]
      refine ⟨trivial, fun v ev => ⟨trivial, fun v' ev' => ?_⟩⟩
      subst ev ev'
      rw [show (5 : Int32) = nI 5 from rfl, pk_mul, show (10 : Int32) = nI 10 from rfl, nI_add, nI_add, ← (kH_eq hW (show q < 12 by omega)).2]
      exact hQ
  exact aIf_i (fun c => k23 0 (fun _ => (nI_leI (by omega) (by omega)).mp c) (fun z => absurd rfl z)) (fun c => k23 1 (fun z => absurd z (by decide)) (fun _ y => c ((nI_leI (by omega) (by omega)).mpr y)))
def RTR (h : aH) (TK UR LS T : Nat → Nat) (hn A x : Nat) : Prop := (∀ D, x ≤ D → D ≤ A → dfN D A = 0 → gA h 38 D = nI (T D) ∧ T D ≤ 55 * (A - D)) ∧ (x ≤ A → T A = 0) ∧ ∀ D, x ≤ D → D < A → dfN D A = 0 → mfR TK UR LS T hn A D hn = some (T D)
theorem df_hn {A D q : Nat} (hA : A < 2 ^ 12) (hAh : A < 2 ^ hn) (h : (dfN A D).testBit q = true) : q < hn := by
  obtain ⟨a, -⟩ := (df_t hA).mp h
  rcases Nat.lt_or_ge q hn with z | z
  · exact z
  · rw [Nat.testBit_lt_two_pow (Nat.lt_of_lt_of_le hAh (Nat.pow_le_pow_right (by decide) z))] at a
    exact absurd a (by decide)
theorem sr_table (hL : LayM h) (hM : RepM h L) (hW : WF L hn gn) {UR : Nat → Nat} (bu : ∀ q, UR q ≤ 60) {A : Nat} (hA : A < 2 ^ 12) (hAh : A < 2 ^ hn) (e37 : ∀ q, q < hn → A.testBit q = true → gA h 37 q = nI (UR q)) {a2 a3 : Int32} {Q : Int32 → aH → Prop} (hq : ∀ h' T, FrA (fun c => c = 38) h h' → RTR h' (kH L) UR (lH L) T hn A 0 → aIf (¬ a3 = (-1)) (∃ m243, f_X11_closing_243 SM 0 (nI A) a2 a3 Q m243 0 0 0 h') (aIn SM 0 (gR h' 0 57) 0 ∧ ∀ v35 : Int32, v35 = (gA h' (gR h' 0 57) ((0 : Int32)).toNatClampNeg) → Q v35 h')) : ∃ m, f_X11_closing_114 SM 0 (nI A) a2 a3 Q m (nI A) h := by
  have hhn := hW.1
  have hA' : A < 4096 := hA
  have key : ∀ x, x ≤ A + 1 → ∀ (h' : aH) (T : Nat → Nat), FrA (fun c => c = 38) h h' → RTR h' (kH L) UR (lH L) T hn A x → f_X11_closing_114 SM 0 (nI A) a2 a3 Q (x + 1) (iI ((x : Int) - 1)) h' := by
    intro x
    induction x with
    | zero =>
      intro _ h' T f' r'
      exact aIf_t (by decide) (hq h' T f' r')
    | succ s ih =>
      intro hx h' T f' r'
      have l' := LayM_A f' hL
      have es : iI (((s + 1 : Nat) : Int) - 1) = nI s := by
        rw [← iI_nat]; congr 1; omega
      rw [es]
      have hs12 : s < 2 ^ 12 := by omega
      refine aIf_f (nI_pos (by omega)) ?_
      rw [nI_df hs12 hA]
      have dl := df_lt (D := A) hs12
      have next : ∀ (h3 : aH) (T3 : Nat → Nat), FrA (fun c => c = 38) h h3 → RTR h3 (kH L) UR (lH L) T3 hn A s → ∀ x : Int32, x = nI s + (-1) → f_X11_closing_114 SM 0 (nI A) a2 a3 Q (s + 1) x h3 := by
        intro h3 T3 f3 r3 x ex
        have ex2 : x = iI ((s : Int) - 1) := by
          rw [ex, ← iI_nat, show (-1 : Int32) = iI (-1) from rfl, iI_add]
          rfl
        subst ex2
        exact ih (by omega) h3 T3 f3 r3
      refine aIf_i (fun c => ?_) (fun c => next h' T f' ⟨fun D a b e => ?_, fun a => r'.2.1 ?_, fun D a b e => ?_⟩)
      rotate_left
      · have : D ≠ s := fun z => c (by rw [← z, e]; rfl)
        exact r'.1 D (by omega) b e
      · have : s ≠ A := fun z => c (by
          have : dfN s A = 0 := (sub_iff hs12).mpr (fun i hi => by rw [← z]; exact hi)
          rw [this]; rfl)
        omega
      · have : D ≠ s := fun z => c (by rw [← z, e]; rfl)
        exact r'.2.2 D (by omega) b e
      have hsub : dfN s A = 0 := (nI_eq (b := 0) (by omega) (by decide)).mp c
      have bcr : ∀ q, (dfN A s).testBit q = true → crN (kH L) UR (lH L) T hn s q ≤ 55 * (A - s) := by
        intro q hb
        obtain ⟨a1, a2, a3⟩ := sub_or hs12 hA hsub hb
        have g1 := sub_le a3 a1
        have g2 := (r'.1 _ (by omega) g1 a1).2
        have g3 : lH L q ≤ 55 := Nat.min_le_left _ _
        unfold crN
        split <;> omega
      have core : ∀ (far : Nat), (s = A → far = 0) → (¬ s = A → far = 1000000000) → ∀ h2, h2 = sA h' 38 s (nI far) → ∃ m154, f_X11_closing_154 SM 0 (nI A) a2 a3 Q (f_X11_closing_114 SM 0 (nI A) a2 a3 Q (s + 1)) m154 (nI s) 0 h2 := by
        intro far fa fn h2 e2
        have loop := up_loop (N := hn) (P := fun m q => ∀ h3, FrA (fun c => c = 38) h h3 → (∀ j, j ≠ s → gA h3 38 j = gA h' 38 j) → gA h3 38 s = encF far (mfR (kH L) UR (lH L) T hn A s q) → f_X11_closing_154 SM 0 (nI A) a2 a3 Q (f_X11_closing_114 SM 0 (nI A) a2 a3 Q (s + 1)) m (nI s) (nI q) h3) ?_ ?_
        · refine ⟨hn + 1, loop h2 ?_ (fun j hj => ?_) ?_⟩
          · rw [e2]
            exact ⟨fun c i hc => by rw [gA_o hc]; exact f'.1 c i hc, f'.2⟩
          · rw [e2, gA_p hj]
          · rw [e2, gA_e]; rfl
        · intro h3 f3 o3 e3 v ev
          rw [gI_fr f3, hM.2.2.2.1.trans hW.2.2.1] at ev
          subst ev
          refine aIf_t (nI_le (Nat.le_refl _) (by omega)) ?_
          obtain ⟨v, hv1, hv2, hv3, hv4⟩ : ∃ v, gA h3 38 s = nI v ∧ v ≤ 55 * (A - s) ∧ (s = A → v = 0) ∧ (s < A → mfR (kH L) UR (lH L) T hn A s hn = some v) := by
            by_cases z : s = A
            · refine ⟨0, ?_, Nat.zero_le _, fun _ => rfl, fun y => by omega⟩
              have : mfR (kH L) UR (lH L) T hn A s hn = none := by
                have : ∀ n, mfR (kH L) UR (lH L) T hn A s n = none := by
                  intro n
                  induction n with
                  | zero => rfl
                  | succ n ih =>
                    unfold mfR
                    rw [if_neg]
                    · exact ih
                    · intro y
                      obtain ⟨y1, y2⟩ := (df_t hA).mp y
                      rw [z] at y2
                      exact y2 y1
                exact this hn
              rw [e3, this, fa z]
              rfl
            · have slt : s < A := by omega
              obtain ⟨q, hq'⟩ := sub_ex hs12 hA hsub slt
              obtain ⟨v, hv⟩ := mfR_some (TK := kH L) (UR := UR) (LS := lH L) (T := T) (hn := hn) hn ⟨q, df_hn hA hAh hq', hq'⟩
              refine ⟨v, by rw [e3, hv]; rfl, mfR_le bcr hn v hv, fun y => absurd y z, fun _ => hv⟩
          refine next h3 (fun D => if D = s then v else T D) f3 ⟨fun D a b e => ?_, fun a => ?_, fun D a b e => ?_⟩
          · show gA h3 38 D = nI (if D = s then v else T D) ∧ (if D = s then v else T D) ≤ _
            by_cases z : D = s
            · rw [if_pos z, z]; exact ⟨hv1, hv2⟩
            · rw [if_neg z, o3 D z]
              exact r'.1 D (by omega) b e
          · show (if A = s then v else T A) = 0
            by_cases z : A = s
            · rw [if_pos z]; exact hv3 z.symm
            · rw [if_neg z]; exact r'.2.1 (by omega)
          · show _ = some (if D = s then v else T D)
            rw [mfR_congr (T := T) (T' := fun D => if D = s then v else T D) (by omega) hA e (fun D' y1 y2 y3 => if_neg (by omega)) hn]
            by_cases z : D = s
            · rw [if_pos z, z]; exact hv4 (by omega)
            · rw [if_neg z]; exact r'.2.2 D (by omega) b e
        · intro m q hq' m1 h3 f3 o3 e3 v ev
          have l3 := LayM_A f3 hL
          have r3 : RepM h3 L := RepM_gA (fun c i _ _ => f3.1 c i (by omega)) (fun j _ _ => gI_fr f3 0 j) hM
          rw [gI_fr f3, hM.2.2.2.1.trans hW.2.2.1] at ev
          subst ev
          refine aIf_f (nI_ge hq' (by omega)) ?_
          rw [nI_df hA hs12]
          have dl2 := df_lt (D := s) hA
          have m1 := fun h4 a b (e : gA h4 38 s = encF far (if (dfN A s).testBit q = true then some (mnv (mfR (kH L) UR (lH L) T hn A s q) (crN (kH L) UR (lH L) T hn s q)) else mfR (kH L) UR (lH L) T hn A s q)) => m1 h4 a b e
          refine sr_has (by omega) (by omega) (fun b => aIf_f (by decide) ?_) (fun b => aIf_t rfl (fun y ey => ?_))
          · rw [if_pos b] at m1
            obtain ⟨a1, a2', a3'⟩ := sub_or hs12 hA hsub b
            have g1 := sub_le a3' a1
            have ne : ¬ s = A := fun z => by omega
            have cb := bcr q b
            have ct : gA h3 38 (s ||| 2 ^ q) = nI (T (s ||| 2 ^ q)) := by
              rw [o3 _ (by omega)]
              exact (r'.1 _ (by omega) g1 a1).1
            have c37 : gA h3 37 q = nI (UR q) := by
              rw [f3.1 _ _ (by decide)]
              exact e37 q hq' ((df_t hA).mp b).1
            refine sr_costBy l3 r3 hW bu hs12 hq' c37 ct ?_
            rw [m_57 l3, mi_38, vp_lt (show s < 4096 by omega) (by decide), cl (by omega), e3]
            refine ⟨trivial, fun v ev => ?_⟩
            subst ev
            have fe := fn ne
            have le : encF far (mfR (kH L) UR (lH L) T hn A s q) ≤ nI (crN (kH L) UR (lH L) T hn s q) ∨ True := Or.inr trivial
            rcases eo : mfR (kH L) UR (lH L) T hn A s q with _ | a
            · rw [eo] at m1
              refine aIf_f (fun z => ?_) ?_
              · have z : nI far ≤ nI (crN (kH L) UR (lH L) T hn s q) := z
                have := (nI_leI (by omega) (by omega)).mp z
                omega
              · refine sr_costBy l3 r3 hW bu hs12 hq' c37 ct ?_
                refine ⟨trivial, fun h4 e4 y ey => ?_⟩
                rw [nI_1] at ey
                subst ey e4
                refine m1 _ ⟨fun c i hc => by rw [gA_o hc]; exact f3.1 c i hc, f3.2⟩ (fun j hj => by rw [gA_p hj]; exact o3 j hj) ?_
                rw [gA_e]
                rfl
            · rw [eo] at m1
              have ab := mfR_le bcr q a eo
              refine aIf_i (fun z => ?_) (fun z => ?_)
              · have z : nI a ≤ nI (crN (kH L) UR (lH L) T hn s q) := z
                have z := (nI_leI (by omega) (by omega)).mp z
                intro y ey
                rw [nI_1] at ey
                subst ey
                refine m1 h3 f3 o3 ?_
                rw [e3, eo]
                show nI a = nI (min a _)
                rw [Nat.min_eq_left z]
              · have z : ¬ nI a ≤ nI (crN (kH L) UR (lH L) T hn s q) := z
                have z : ¬ a ≤ crN (kH L) UR (lH L) T hn s q := fun y => z ((nI_leI (by omega) (by omega)).mpr y)
                refine sr_costBy l3 r3 hW bu hs12 hq' c37 ct ?_
                refine ⟨trivial, fun h4 e4 y ey => ?_⟩
                rw [nI_1] at ey
                subst ey e4
                refine m1 _ ⟨fun c i hc => by rw [gA_o hc]; exact f3.1 c i hc, f3.2⟩ (fun j hj => by rw [gA_p hj]; exact o3 j hj) ?_
                rw [gA_e]
                show _ = nI (min a _)
                rw [Nat.min_eq_right (by omega)]
          · rw [if_neg b] at m1
            rw [nI_1] at ey
            subst ey
            exact m1 h3 f3 o3 e3
      refine aIf_i (fun ne => ?_) (fun ne => ?_)
      · rw [m_57 l', mi_38, vp_lt (show s < 4096 by omega) (by decide), cl (by omega)]
        exact ⟨trivial, fun h2 e2 => core 1000000000 (fun z => absurd (by rw [z]) ne) (fun _ => rfl) h2 e2⟩
      · have e : s = A := (nI_eq (by omega) (by omega)).mp (Classical.not_not.mp ne)
        rw [m_57 l', mi_38, vp_lt (show s < 4096 by omega) (by decide), cl (by omega)]
        exact ⟨trivial, fun h2 e2 => core 0 (fun _ => rfl) (fun z => absurd e z) h2 e2⟩
  have k0 := key (A + 1) (Nat.le_refl _) h (fun _ => 0) ⟨fun _ _ _ => rfl, rfl⟩ ⟨fun D a b => by omega, fun a => by omega, fun D a b => by omega⟩
  have e0 : iI (((A + 1 : Nat) : Int) - 1) = nI A := by
    rw [← iI_nat]; congr 1; omega
  rw [e0] at k0
  exact ⟨_, k0⟩
end ClR
