/-! ===== PLACES: the class's table ===== -/
theorem and_z {a b : Nat} : a &&& b = 0 ↔ ∀ q, ¬ (a.testBit q = true ∧ b.testBit q = true) := by
  constructor
  · intro h q z
    have := Nat.testBit_and a b q
    rw [h, Nat.zero_testBit, z.1, z.2] at this
    exact absurd this (by decide)
  · intro h
    apply Nat.eq_of_testBit_eq
    intro q
    rw [Nat.testBit_and, Nat.zero_testBit]
    cases ea : a.testBit q with
    | false => rfl
    | true =>
      cases eb : b.testBit q with
      | false => rfl
      | true => exact absurd ⟨ea, eb⟩ (h q)
theorem tm_leB {TK : Nat → Nat} {S B : Nat} : ∀ n, (∀ i, i < n → TK i ≤ B) → tmN TK S n ≤ B * n := by
  intro n
  induction n with
  | zero => intro _; exact Nat.zero_le _
  | succ n ih =>
    intro h
    have a := ih (fun i hi => h i (by omega))
    have b := h n (by omega)
    show tmN TK S n + (if S.testBit n = true then TK n else 0) ≤ B * (n + 1)
    rw [Nat.mul_succ]
    split <;> omega
theorem tm_0 {TK : Nat → Nat} : ∀ n, tmN TK 0 n = 0 := by
  intro n
  induction n with
  | zero => rfl
  | succ n ih =>
    show tmN TK 0 n + (if (0 : Nat).testBit n = true then TK n else 0) = 0
    rw [ih, Nat.zero_testBit]
    rfl
section PlD
variable {h : aH} {l d n : Nat} {L : Lw} {hn gn : Nat} {F : LF} {sq wo : Nat → Nat}
theorem sp_isFineC (hL : LayC h l d) (hP : P1 F L hn gn sq h n) (hn10 : n ≤ 10) {i S : Nat} (hi : i < n) (hS : S < 2 ^ i) {Q : Int32 → aH → Prop} (h1 : OKp F L hn gn sq i S → Q 1 h) (h0 : ¬ OKp F L hn gn sq i S → Q 0 h) : f_X7_isFine SC 61 (nI i) (nI S) h Q := by
  obtain ⟨⟨u1, u0⟩, ⟨M, m1, m2⟩, rws⟩ := hP i hi
  have p10 : 2 ^ i ≤ 2 ^ 10 := Nat.pow_le_pow_right (by decide) (by omega)
  have p10 : 2 ^ i ≤ 1024 := p10
  have M10 : M < 1024 := m1.1
  have ml : M &&& S ≤ M := Nat.and_le_left
  unfold f_X7_isFine
  rw [c_61_1 hL, ca_63, vp_lt (show i < 10 by omega) (by decide), cl (by omega)]
  refine ⟨trivial, fun v ev => ?_⟩
  subst ev
  by_cases us : usP F L gn sq i
  rotate_left
  · exact aIf_t (u0 us) (h0 (fun z => us z.1))
  refine aIf_f (by rw [u1 us]; decide) ?_
  rw [c_61_3 hL, ca_65, vp_lt (show i < 10 by omega) (by decide), m2]
  refine ⟨trivial, fun v ev => ?_⟩
  subst ev
  rw [nI_and (by omega) (by omega)]
  have z0 : nI (M &&& S) = 0 ↔ M &&& S = 0 := nI_eq (b := 0) (by omega) (by decide)
  rw [z0]
  refine aIf_i (fun c => ?_) (fun c => h0 (fun z => c (and_z.mpr (fun q y => ?_))))
  · have nc : ∀ j, j < i → S.testBit j = true → ¬ clP L hn sq i j := fun j a b z => (and_z.mp c) j ⟨(m1.2 j).mpr ⟨a, z⟩, b⟩
    have key := up_loop (N := i) (P := fun w j => (∀ q, q < j → S.testBit q = true → ∀ k, k < q → S.testBit k = true → ¬ trP sq i q k) → f_X7_isFine_24 SC 61 (nI i) (nI S) Q w (nI j) h) ?_ ?_
    · exact ⟨i + 1, key (fun q hq => absurd hq (Nat.not_lt_zero _))⟩
    · intro hv
      exact aIf_t (nI_le (Nat.le_refl _) (by omega)) (h1 ⟨us, fun j a b => ⟨nc j a b, fun k k1 k2 => hv j a b k k1 k2⟩⟩)
    · intro w j hj n1 hv
      refine aIf_f (nI_ge hj (by omega)) ?_
      rw [bitI (by omega) (by omega)]
      have nx : (S.testBit j = true → ∀ k, k < j → S.testBit k = true → ¬ trP sq i j k) → ∀ y : Int32, y = nI j + 1 → f_X7_isFine_24 SC 61 (nI i) (nI S) Q (w + 1) y h := fun z y ey => by
        rw [nI_1] at ey
        subst ey
        refine n1 (fun q hq bq k k1 k2 => ?_)
        rcases Nat.lt_or_ge q j with x | x
        · exact hv q x bq k k1 k2
        · have : q = j := by omega
          subst this
          exact z bq k k1 k2
      by_cases b : S.testBit j = true
      · rw [if_pos b]
        refine aIf_f (by decide) ?_
        obtain ⟨R, r1, r2⟩ := rws j hj
        have R10 : R < 1024 := r1.1
        have rl : R &&& S ≤ R := Nat.and_le_left
        have ea : nI i * 10 + nI j = nI (10 * i + j) := by
          rw [show (10 : Int32) = nI 10 from rfl, pk_mul, nI_add, Nat.mul_comm]
        rw [c_61_2 hL, ea, ca_64, vp_lt (show 10 * i + j < 100 by omega) (by decide), cl (by omega), r2]
        refine ⟨trivial, fun v ev => ?_⟩
        subst ev
        rw [nI_and (by omega) (by omega)]
        have z1 : nI (R &&& S) = 0 ↔ R &&& S = 0 := nI_eq (b := 0) (by omega) (by decide)
        rw [z1]
        refine aIf_i (fun c2 => nx (fun _ k k1 k2 z => (and_z.mp c2) k ⟨(r1.2 k).mpr ⟨k1, z⟩, k2⟩)) (fun c2 => h0 (fun z => c2 (and_z.mpr (fun q y => ?_))))
        obtain ⟨y1, y2⟩ := (r1.2 q).mp y.1
        exact (z.2 j hj b).2 q y1 y.2 y2
      · rw [if_neg b]
        exact aIf_t rfl (nx (fun z => absurd z b))
  · obtain ⟨y1, y2⟩ := (m1.2 q).mp y.1
    exact (z.2 q y1 y.2).1 y2
def PT (FB : Nat → Bool) (wo : Nat → Nat) (n : Nat) (h : aH) (Z : Nat) : Prop := ∀ S, S < Z → (FB S = true → gA h 62 S = nI (tmN wo S n)) ∧ (¬ FB S = true → gA h 62 S = (-1))
theorem sp_isBetter {FB : Nat → Bool} (hL : LayC h l d) (hn10 : n ≤ 10) (hw : ∀ i, i < n → wo i < 256) {Z S B : Nat} (hT : PT FB wo n h Z) (hZ : Z ≤ 2 ^ n) (hS : S < Z) (hB : B < Z) (fB : FB B = true) {Q : Int32 → aH → Prop} (h1 : FB S = true ∧ btr wo n S B → Q 1 h) (h0 : ¬ (FB S = true ∧ btr wo n S B) → Q 0 h) : f_X7_isBetter SC 61 (nI S) (nI B) h Q := by
  have p10 : 2 ^ n ≤ 2 ^ 10 := Nat.pow_le_pow_right (by decide) hn10
  have p10 : 2 ^ n ≤ 1024 := p10
  have tB := tm_leB (TK := wo) (S := B) (B := 255) n (fun i hi => by have := hw i hi; omega)
  have tS := tm_leB (TK := wo) (S := S) (B := 255) n (fun i hi => by have := hw i hi; omega)
  have q1 := pc_le S 12
  have q2 := pc_le B 12
  unfold f_X7_isBetter
  rw [c_61_0 hL, ca_62, vp_lt (show S < 1024 by omega) (by decide), cl (by omega)]
  refine ⟨trivial, fun v ev => ?_⟩
  subst ev
  rw [ca_62, vp_lt (show B < 1024 by omega) (by decide), cl (by omega), (hT B hB).1 fB]
  refine ⟨trivial, fun v ev => ?_⟩
  subst ev
  by_cases fS : FB S = true
  · rw [(hT S hS).1 fS]
    refine aIf_i (fun c => h1 ⟨fS, Or.inl ((nI_ltI (by omega) (by omega)).mp c)⟩) (fun c => ?_)
    have c : ¬ tmN wo B n < tmN wo S n := fun z => c ((nI_ltI (by omega) (by omega)).mpr z)
    refine ⟨trivial, fun v ev => ⟨trivial, fun v' ev' => ?_⟩⟩
    subst ev ev'
    refine aIf_i (fun c2 => h0 (fun z => z.2.elim c (fun y => c2 (by rw [y.1])))) (fun c2 => ?_)
    have c2 : tmN wo S n = tmN wo B n := (nI_eq (by omega) (by omega)).mp (Classical.not_not.mp c2)
    refine sp_bitCount (sp_bitCount ?_)
    rw [bc_pc S (by omega), bc_pc B (by omega)]
    refine aIf_i (fun c3 => h0 (fun z => z.2.elim c (fun y => ?_))) (fun c3 => h1 ⟨fS, Or.inr ⟨c2, ?_⟩⟩)
    · have := (nI_leI (by omega) (by omega)).mp c3
      omega
    · have : ¬ pcN B 12 ≤ pcN S 12 := fun z => c3 ((nI_leI (by omega) (by omega)).mpr z)
      omega
  · rw [(hT S hS).2 fS]
    refine aIf_f (fun c => ?_) ?_
    · have : (-1 : Int32) < nI (tmN wo B n) := by
        rw [← iI_nat, show (-1 : Int32) = iI (-1) from rfl, iI_lt (by omega) (by omega) (by omega) (by omega)]
        omega
      exact absurd c (Int32.not_lt.mpr (Int32.le_of_lt this))
    · refine ⟨trivial, fun v ev => ⟨trivial, fun v' ev' => ?_⟩⟩
      subst ev ev'
      exact aIf_t (fun z => nI_neg1 (by omega) z.symm) (h0 (fun z => fS z.1))
theorem or_add {b i : Nat} (hb : b < 2 ^ i) : b ||| 2 ^ i = 2 ^ i + b := by
  have := Nat.two_pow_add_eq_or_of_lt hb 1
  rw [Nat.mul_one] at this
  rw [Nat.or_comm, ← this]
theorem sp_table {FB : Nat → Bool} (hFB : ∀ S, FB S = true ↔ FIp F L hn gn sq S n) (hL : LayC h l d) (hP : P1 F L hn gn sq h n) (hn10 : n ≤ 10) (hw : ∀ i, i < n → gA h 41 i = nI (wo i) ∧ wo i < 256) (e0 : gA h 62 0 = 0) {Q : Int32 → aH → Prop} (hq : ∀ h', PlF h h' → PT FB wo n h' (2 ^ n) → Q (nI (bst FB wo n (2 ^ n))) h') : ∃ m, f_X7_best_133 SC 61 1 42 39 Q m (nI n) 0 0 h := by
  have p10 : 2 ^ n ≤ 2 ^ 10 := Nat.pow_le_pow_right (by decide) hn10
  have p10 : 2 ^ n ≤ 1024 := p10
  have F0 : FB 0 = true := (hFB 0).mpr ((FI_iff n).mpr (fun i _ hb => by rw [Nat.zero_testBit] at hb; exact absurd hb (by decide)))
  have P1' : ∀ h', (∀ c p, c ≠ 62 → gA h' c p = gA h c p) → P1 F L hn gn sq h' n := by
    intro h' o' i hi
    obtain ⟨a, ⟨M, b1, b2⟩, c⟩ := hP i hi
    rw [o' 63 i (by decide), o' 65 i (by decide)]
    exact ⟨a, ⟨M, b1, b2⟩, fun j hj => by obtain ⟨R, r1, r2⟩ := c j hj; exact ⟨R, r1, by rw [o' 64 _ (by decide)]; exact r2⟩⟩
  have b1 : bst FB wo n 1 = 0 := by
    show (if FB 0 = true ∧ btr wo n 0 (bst FB wo n 0) then 0 else bst FB wo n 0) = 0
    split <;> rfl
  have key := up_loop (N := n) (P := fun w i => ∀ h', PlF h h' → (∀ c p, c ≠ 62 → gA h' c p = gA h c p) → PT FB wo n h' (2 ^ i) → f_X7_best_133 SC 61 1 42 39 Q w (nI n) (nI (bst FB wo n (2 ^ i))) (nI i) h') ?_ ?_
  · have k0 := key h PlF_rf (fun _ _ _ => rfl) (fun S hS => ?_)
    · rw [show bst FB wo n (2 ^ 0) = 0 from b1] at k0
      exact ⟨n + 1, k0⟩
    · have : S = 0 := by omega
      subst this
      refine ⟨fun _ => ?_, fun z => absurd F0 z⟩
      rw [e0, tm_0]
      rfl
  · intro h' f' _ t'
    exact aIf_t (nI_le (Nat.le_refl _) (by omega)) (hq h' f' t')
  · intro w i hi n1 h' f' o' t'
    refine aIf_f (nI_ge hi (by omega)) ?_
    have pi : 2 ^ (i + 1) ≤ 2 ^ n := Nat.pow_le_pow_right (by decide) hi
    have pi2 : 2 ^ (i + 1) = 2 ^ i * 2 := Nat.pow_succ 2 i
    have pp : 0 < 2 ^ i := Nat.two_pow_pos i
    have loop := up_loop (N := 2 ^ i) (P := fun m b => ∀ h2, PlF h h2 → (∀ c p, c ≠ 62 → gA h2 c p = gA h c p) → PT FB wo n h2 (2 ^ i + b) → f_X7_best_143 SC 61 1 42 39 Q (f_X7_best_133 SC 61 1 42 39 Q (w + 1)) m (nI n) (nI (bst FB wo n (2 ^ i + b))) (nI i) (nI b) h2) ?_ ?_
    · exact ⟨2 ^ i + 1, loop h' f' o' t'⟩
    · intro h2 f2 o2 t2
      refine aIf_t (by rw [sh1 (by omega)]; exact nI_le (Nat.le_refl _) (by omega)) (fun y ey => ?_)
      rw [nI_1] at ey
      subst ey
      rw [show 2 ^ i + 2 ^ i = 2 ^ (i + 1) by omega] at t2 ⊢
      exact n1 h2 f2 o2 t2
    · intro m b hb m1 h2 f2 o2 t2
      have l2 := LayC_2 f2.1 hL
      have bl := bst_lt (FB := FB) (WO := wo) (n := n) (2 ^ i + b)
      have hO : b ||| 2 ^ i = 2 ^ i + b := or_add hb
      have nb : ¬ b.testBit i = true := by rw [Nat.testBit_lt_two_pow hb]; decide
      refine aIf_f (by rw [sh1 (by omega)]; exact nI_ge hb (by omega)) ?_
      intro x8 e8
      rw [sh1 (by omega), nI_or (by omega) (by omega), hO] at e8
      subst e8
      have fi := FI_or (F := F) (L := L) (hn := hn) (gn := gn) (sq := sq) hb hi
      rw [hO, ← hFB, ← hFB] at fi
      have tmS : tmN wo (2 ^ i + b) n = tmN wo b n + wo i := by rw [← hO]; exact tm_or nb n hi
      -- the set's worth is laid down, and held against the best
      have after : ∀ (v : Int32) (h3 : aH), h3 = sA h2 62 (2 ^ i + b) v → ((FB (2 ^ i + b) = true → v = nI (tmN wo (2 ^ i + b) n)) ∧ (¬ FB (2 ^ i + b) = true → v = (-1))) → f_X7_isBetter SC 61 (nI (2 ^ i + b)) (nI (bst FB wo n (2 ^ i + b))) h3 (fun r9 h8 => aIf (r9 = 0) (∀ x7_11 : Int32, x7_11 = nI b + 1 → f_X7_best_143 SC 61 1 42 39 Q (f_X7_best_133 SC 61 1 42 39 Q (w + 1)) (m + 1) (nI n) (nI (bst FB wo n (2 ^ i + b))) (nI i) x7_11 h8) (∀ x7_12 : Int32, x7_12 = nI b + 1 → f_X7_best_143 SC 61 1 42 39 Q (f_X7_best_133 SC 61 1 42 39 Q (w + 1)) (m + 1) (nI n) (nI (2 ^ i + b)) (nI i) x7_12 h8)) := by
        intro v h3 e3 hv
        subst e3
        have f3 : PlF h (sA h2 62 (2 ^ i + b) v) := PlF_tr f2 (PlF_sA (by decide))
        have t3 : PT FB wo n (sA h2 62 (2 ^ i + b) v) (2 ^ i + b + 1) := by
          intro S hS
          by_cases z : S = 2 ^ i + b
          · rw [z, gA_e]; exact hv
          · rw [gA_p z]; exact t2 S (by omega)
        have o3 : ∀ c p, c ≠ 62 → gA (sA h2 62 (2 ^ i + b) v) c p = gA h c p := fun c p hc => by rw [gA_o hc]; exact o2 c p hc
        have m1' := m1 _ f3 o3 t3
        have eb : bst FB wo n (2 ^ i + (b + 1)) = if FB (2 ^ i + b) = true ∧ btr wo n (2 ^ i + b) (bst FB wo n (2 ^ i + b)) then 2 ^ i + b else bst FB wo n (2 ^ i + b) := rfl
        rw [eb] at m1'
        refine sp_isBetter (LayC_2 f3.1 hL) hn10 (fun i hi => (hw i hi).2) t3 (by omega) (by omega) (by omega) (bl.2 F0) (fun y => aIf_f (by decide) (fun x ex => ?_)) (fun y => aIf_t rfl (fun x ex => ?_))
        · rw [nI_1] at ex
          subst ex
          rw [if_pos y] at m1'
          exact m1'
        · rw [nI_1] at ex
          subst ex
          rw [if_neg y] at m1'
          exact m1'
      have bad : ¬ FB (2 ^ i + b) = true → f_X7_best_188 SC 61 1 42 39 Q (f_X7_best_143 SC 61 1 42 39 Q (f_X7_best_133 SC 61 1 42 39 Q (w + 1)) (m + 1)) (nI n) (nI (bst FB wo n (2 ^ i + b))) (nI i) (nI b) (nI (2 ^ i + b)) 0 h2 := by
        intro y
        refine aIf_t rfl ?_
        rw [c_61_0 l2, ca_62, vp_lt (show 2 ^ i + b < 1024 by omega) (by decide), cl (by omega)]
        exact ⟨trivial, fun h3 e3 => after (-1) h3 e3 ⟨fun z => absurd z y, fun _ => rfl⟩⟩
      rw [c_61_0 l2, ca_62, vp_lt (show b < 1024 by omega) (by decide), cl (by omega)]
      refine ⟨trivial, fun v ev => ?_⟩
      subst ev
      have tb' := t2 b (by omega)
      by_cases fb : FB b = true
      · have bB := tm_leB (TK := wo) (S := b) (B := 255) n (fun i hi => by have := (hw i hi).2; omega)
        rw [tb'.1 fb]
        refine aIf_f (nI_neg1 (by omega)) ?_
        refine sp_isFineC l2 (P1' h2 o2) hn10 hi hb (fun ok => aIf_f (by decide) ?_) (fun ok => aIf_t rfl (bad (fun z => ok (fi.mp z).2)))
        refine aIf_f (by decide) ?_
        rw [c_61_0 l2, ca_62, vp_lt (show b < 1024 by omega) (by decide), cl (by omega), tb'.1 fb]
        refine ⟨trivial, fun v ev => ?_⟩
        subst ev
        rw [c_39_1 l2, ca_41, vp_lt (show i < 40 by omega) (by decide), cl (by omega), o2 41 i (by decide), (hw i hi).1]
        refine ⟨trivial, fun v ev => ?_⟩
        subst ev
        rw [ca_62, vp_lt (show 2 ^ i + b < 1024 by omega) (by decide), cl (by omega), nI_add, ← tmS]
        exact ⟨trivial, fun h3 e3 => after _ h3 e3 ⟨fun _ => rfl, fun z => absurd (fi.mpr ⟨fb, ok⟩) z⟩⟩
      · rw [tb'.2 fb]
        exact aIf_t rfl (bad (fun z => fb (fi.mp z).1))
end PlD
