/-! ===== PLACES: what the class learns first ===== -/
def PlF (h h' : aH) : Prop := h'.2.2 = h.2.2 ∧ (∀ c i, ¬ ((62 ≤ c ∧ c ≤ 65) ∨ c = 49 ∨ c = 50 ∨ c = 59 ∨ c = 60) → gA h' c i = gA h c i) ∧ ∀ c j, ¬ ((c = 43 ∨ c = 53) ∧ j = 9) → gI h' c j = gI h c j
theorem PlF_rf {h : aH} : PlF h h := ⟨rfl, fun _ _ _ => rfl, fun _ _ _ => rfl⟩
theorem PlF_tr {a b c : aH} (x : PlF a b) (y : PlF b c) : PlF a c := ⟨y.1.trans x.1, fun k i hk => (y.2.1 k i hk).trans (x.2.1 k i hk), fun k i h1 => (y.2.2 k i h1).trans (x.2.2 k i h1)⟩
theorem PlF_S {a b : aH} (x : SFC a b) : PlF a b := ⟨x.1, fun c i hc => x.2.1 c i (by omega), fun c j h2 => x.2.2 c j h2⟩
theorem PlF_sA {h : aH} {c i : Nat} {v : Int32} (hc : 62 ≤ c ∧ c ≤ 65) : PlF h (sA h c i v) := ⟨rfl, fun a j ha => by rw [gA_sA, if_neg (fun z => ha (Or.inl (by omega)))], fun _ _ _ => rfl⟩
theorem CS_PlF {h h' : aH} (x : PlF h h') : CS h h' :=
  ⟨x.1, fun c hc i => x.2.1 c i (by omega), fun j => x.2.2 _ _ (by omega), x.2.2 _ _ (by omega), x.2.2 _ _ (by omega), x.2.2 _ _ (by omega), x.2.2 _ _ (by omega), x.2.2 _ _ (by omega), x.2.2 _ _ (by omega)⟩
theorem RepC_PlF {h h' : aH} {L : Lw} (x : PlF h h') (hR : RepC h 1 L) : RepC h' 1 L := RepC_gA (fun c i h1 h2 => x.2.1 c i (by omega)) (fun j => x.2.2 _ _ (by omega)) hR
theorem LC_PlF {h h' : aH} {l : Nat} {F : LF} (hl : isLaw l) (x : PlF h h') (hF : LC h l F) : LC h' l F := by
  unfold isLaw at hl
  exact LC_to (fun c h1 h2 i => x.2.1 c i (by omega)) (x.2.2 _ _ (by omega)) (x.2.2 _ _ (by omega)) hF
def BRs (L : Lw) (hn : Nat) (sq : Nat → Nat) (i j M : Nat) : Prop := M < 2 ^ 10 ∧ ∀ q, M.testBit q = true ↔ q < j ∧ clP L hn sq i q
def RWs (sq : Nat → Nat) (i j k R : Nat) : Prop := R < 2 ^ 10 ∧ ∀ q, R.testBit q = true ↔ q < k ∧ trP sq i j q
theorem bits_up {P : Nat → Prop} {M j : Nat} (hj : j < 10) (hM : M < 2 ^ 10 ∧ ∀ q, M.testBit q = true ↔ q < j ∧ P q) : (P j → (M ||| 2 ^ j) < 2 ^ 10 ∧ ∀ q, (M ||| 2 ^ j).testBit q = true ↔ q < j + 1 ∧ P q) ∧ (¬ P j → M < 2 ^ 10 ∧ ∀ q, M.testBit q = true ↔ q < j + 1 ∧ P q) := by
  constructor
  · intro p
    refine ⟨or_lt hM.1 hj, fun q => ?_⟩
    rw [or_bit, Bool.or_eq_true, decide_eq_true_iff, hM.2]
    constructor
    · rintro (⟨a, b⟩ | a)
      · exact ⟨by omega, b⟩
      · subst a; exact ⟨by omega, p⟩
    · rintro ⟨a, b⟩
      rcases Nat.lt_or_ge q j with z | z
      · exact Or.inl ⟨z, b⟩
      · exact Or.inr (by omega)
  · intro p
    refine ⟨hM.1, fun q => ?_⟩
    rw [hM.2]
    constructor
    · rintro ⟨a, b⟩; exact ⟨by omega, b⟩
    · rintro ⟨a, b⟩
      refine ⟨?_, b⟩
      rcases Nat.lt_or_ge q j with z | z
      · exact z
      · have : q = j := by omega
        subst this
        exact absurd b p
section PlC
variable {h : aH} {l d n : Nat} {L : Lw} {hn gn : Nat} {F : LF} {sq : Nat → Nat}
theorem sp_isBesideHole (hk : isLake 1) (hL : LayC h l d) (hR : RepC h 1 L) {s : Nat} (hs : s < 256) {Q : Int32 → aH → Prop} (h1 : besH L s → Q 1 h) (h0 : ¬ besH L s → Q 0 h) : f_X2_isBesideHole SC 1 (nI s) h Q := by
  have key := up_loop (N := 8) (P := fun w j => (∀ q, q < j → ∀ t, adj s q = some t → ¬ 0 ≤ L 1 t) → f_X2_isBesideHole_2 SC 1 (nI s) Q w (nI j) h) ?_ ?_
  · exact ⟨9, key (fun q hq => absurd hq (Nat.not_lt_zero _))⟩
  · intro hv
    exact aIf_t (by decide) (h0 (fun ⟨j, hj, t, e, z⟩ => hv j hj t e z))
  · intro w j hj n1 hv
    refine aIf_f (nI_ge (a := j) (b := 8) hj (by decide)) ?_
    refine sp_neighbour hs hj ?_
    have nx : (∀ t, adj s j = some t → ¬ 0 ≤ L 1 t) → ∀ y : Int32, y = nI j + 1 → f_X2_isBesideHole_2 SC 1 (nI s) Q (w + 1) y h := fun z y ey => by
      rw [nI_1] at ey
      subst ey
      refine n1 (fun q hq t e => ?_)
      rcases Nat.lt_or_ge q j with u | u
      · exact hv q u t e
      · rw [show q = j by omega] at e
        exact z t e
    rcases e : adj s j with _ | t
    · exact aIf_t rfl (nx (fun t z => by rw [e] at z; cases z))
    · have ht := adj_lt e
      rw [enc_some]
      refine aIf_f (nI_neg1 (by omega)) ?_
      rw [lk_1 hk hL, li_2 hk, vp_lt ht (by decide), cl (by omega), (hR.1 t ht).2.1]
      refine ⟨trivial, fun v ev => ?_⟩
      subst ev
      exact aIf_i (fun c => nx (fun t' z => by rw [e] at z; cases z; exact fun y => absurd c (Int32.not_lt.mpr y))) (fun c => h1 ⟨j, hj, t, e, Int32.not_lt.mp c⟩)
theorem sp_bar (hL : LayC h l d) (hR : RepC h 1 L) (hW : WF L hn gn) (hsq : ∀ i, i < n → gA h 40 i = nI (sq i) ∧ sq i < 256) (hn10 : n ≤ 10) {i j M : Nat} (hi : i < n) (hj : j < i) (hM : BRs L hn sq i j M) (e65 : gA h 65 i = nI M) {Q : aH → Prop} (hq : ∀ h' M' R, PlF h h' → (∀ c p, ¬ (c = 65 ∧ p = i) → ¬ (c = 64 ∧ p = 10 * i + j) → gA h' c p = gA h c p) → BRs L hn sq i (j + 1) M' → gA h' 65 i = nI M' → RWs sq i j j R → gA h' 64 (10 * i + j) = nI R → Q h') : f_X7_bar SC 61 1 39 (nI i) (nI j) h Q := by
  have hk : isLake 1 := Or.inl rfl
  have hhn := hW.1
  have e2 : gI h 1 9 = nI hn := hR.2.2.2.1.trans hW.2.2.1
  obtain ⟨ei, si⟩ := hsq i hi
  obtain ⟨ej, sj⟩ := hsq j (by omega)
  unfold f_X7_bar
  rw [c_39_0 hL, ca_40, vp_lt (show i < 40 by omega) (by decide), cl (by omega), ei]
  refine ⟨trivial, fun v ev => ?_⟩
  subst ev
  rw [ca_40, vp_lt (show j < 40 by omega) (by decide), cl (by omega), ej]
  refine ⟨trivial, fun v ev => ?_⟩
  subst ev
  -- the thirds
  have thirds : ∀ (h1 : aH) (M' : Nat), PlF h h1 → (∀ c p, ¬ (c = 65 ∧ p = i) → gA h1 c p = gA h c p) → BRs L hn sq i (j + 1) M' → gA h1 65 i = nI M' → ∃ m, f_X7_bar_106 SC 61 1 39 (nI i) (nI j) Q m (nI (sq i)) (nI (sq j)) 0 0 h1 := by
    intro h1 M' f1 o1 b1 g1
    have l1 := LayC_2 f1.1 hL
    have key := up_loop (N := j) (P := fun w k => ∀ R, RWs sq i j k R → f_X7_bar_106 SC 61 1 39 (nI i) (nI j) Q w (nI (sq i)) (nI (sq j)) (nI R) (nI k) h1) ?_ ?_
    · exact ⟨j + 1, key 0 ⟨by decide, fun q => ⟨fun z => by rw [Nat.zero_testBit] at z; exact absurd z (by decide), fun z => absurd z.1 (Nat.not_lt_zero _)⟩⟩⟩
    · intro R hRw
      refine aIf_t (nI_le (Nat.le_refl _) (by omega)) ?_
      have ea : nI i * 10 + nI j = nI (10 * i + j) := by
        rw [show (10 : Int32) = nI 10 from rfl, pk_mul, nI_add, Nat.mul_comm]
      rw [c_61_2 l1, ea, ca_64, vp_lt (show 10 * i + j < 100 by omega) (by decide), cl (by omega)]
      refine ⟨trivial, fun h3 e3 => ?_⟩
      subst e3
      refine hq _ M' R (PlF_tr f1 (PlF_sA (by decide))) (fun c p c1 c2 => ?_) b1 (by rw [gA_o (by decide)]; exact g1) hRw gA_e
      rw [gA_sA, if_neg c2]
      exact o1 c p c1
    · intro w k hk' n1 R hRw
      obtain ⟨ek, sk⟩ := hsq k (by omega)
      refine aIf_f (nI_ge hk' (by omega)) ?_
      rw [c_39_0 l1, ca_40, vp_lt (show k < 40 by omega) (by decide), cl (by omega), o1 40 k (by omega), ek]
      refine ⟨trivial, fun v ev => ?_⟩
      subst ev
      obtain ⟨u1, u2⟩ := bits_up (P := trP sq i j) (show k < 10 by omega) hRw
      have pk : 2 ^ k < 2 ^ 31 := Nat.pow_lt_pow_right (by decide) (by omega)
      have hR10 : R < 1024 := hRw.1
      refine sp_inRow si sj sk (fun z => aIf_f (by decide) ?_) (fun z => aIf_t rfl ?_)
      · intro x ex y ey
        rw [sh1 (by omega), nI_or (by omega) pk] at ex
        rw [nI_1] at ey
        subst ex ey
        exact n1 _ (u1 z)
      · intro y ey
        rw [nI_1] at ey
        subst ey
        exact n1 _ (u2 z)
  have M10 : M < 1024 := hM.1
  obtain ⟨u1, u2⟩ := bits_up (P := clP L hn sq i) (show j < 10 by omega) hM
  have pj : 2 ^ j < 2 ^ 31 := Nat.pow_lt_pow_right (by decide) (by omega)
  have loop := up_loop (N := hn) (P := fun w m => ∀ f : Int32, (f = 0 ∨ f = 1) → (¬ f = 0 → clP L hn sq i j) → (f = 0 → ¬ nearP (sq i) (sq j) ∧ ∀ q, q < m → opn L q → ¬ inR (sq i) (sq j) (sqH L q)) → f_X7_bar_29 SC 61 1 39 (nI i) (nI j) Q w (nI (sq i)) (nI (sq j)) f (nI m) h) ?_ ?_
  · have go : ∀ f : Int32, (f = 0 ∨ f = 1) → (¬ f = 0 → clP L hn sq i j) → (f = 0 → ¬ nearP (sq i) (sq j)) → ∃ m, f_X7_bar_29 SC 61 1 39 (nI i) (nI j) Q m (nI (sq i)) (nI (sq j)) f 0 h := fun f a b c => ⟨hn + 1, loop f a b (fun z => ⟨c z, fun q hq => absurd hq (Nat.not_lt_zero _)⟩)⟩
    exact sp_touch si sj (fun z => go 1 (Or.inr rfl) (fun _ => Or.inl z) (fun y => absurd y (by decide))) (fun z => go 0 (Or.inl rfl) (fun y => absurd rfl y) (fun _ => z))
  · intro f f01 f1 f0 v ev
    rw [e2] at ev
    subst ev
    refine aIf_t (nI_le (Nat.le_refl _) (by omega)) ?_
    refine aIf_i (fun z => ?_) (fun z => ?_)
    · have nc : ¬ clP L hn sq i j := fun y => by
        rcases y with y | ⟨m, m1, m2, y⟩
        · exact (f0 z).1 y
        · exact (f0 z).2 m m1 m2 y
      exact thirds h M PlF_rf (fun _ _ _ => rfl) (u2 nc) e65
    · rw [c_61_3 hL, ca_65, vp_lt (show i < 10 by omega) (by decide), cl (by omega), e65]
      refine ⟨trivial, fun v ev => ⟨trivial, fun h2 e2' => ?_⟩⟩
      subst ev
      rw [sh1 (by omega), nI_or (by omega) pj] at e2'
      subst e2'
      exact thirds _ (M ||| 2 ^ j) (PlF_sA (by decide)) (fun c p hc => by rw [gA_sA, if_neg hc]) (u1 (f1 z)) gA_e
  · intro w m hm n1 f f01 f1 f0 v ev
    rw [e2] at ev
    subst ev
    refine aIf_f (nI_ge hm (by omega)) ?_
    have nx0 : f = 0 → (opn L m → ¬ inR (sq i) (sq j) (sqH L m)) → ∀ y : Int32, y = nI m + 1 → f_X7_bar_29 SC 61 1 39 (nI i) (nI j) Q (w + 1) (nI (sq i)) (nI (sq j)) 0 y h := fun z u y ey => by
      rw [nI_1] at ey
      subst ey
      refine n1 0 (Or.inl rfl) (fun y => absurd rfl y) (fun _ => ⟨(f0 z).1, fun q hq o => ?_⟩)
      rcases Nat.lt_or_ge q m with x | x
      · exact (f0 z).2 q x o
      · have : q = m := by omega
        subst this
        exact u o
    have nx1 : clP L hn sq i j → ∀ y : Int32, y = nI m + 1 → f_X7_bar_29 SC 61 1 39 (nI i) (nI j) Q (w + 1) (nI (sq i)) (nI (sq j)) 1 y h := fun z y ey => by
      rw [nI_1] at ey
      subst ey
      exact n1 1 (Or.inr rfl) (fun _ => z) (fun y => absurd y (by decide))
    refine aIf_i (fun z => nx1 (f1 z)) (fun z => ?_)
    have z := Classical.not_not.mp z
    refine sp_isOpenN hk hL hR hW hm (fun o => aIf_f (by decide) ?_) (fun o => aIf_t rfl (nx0 z (fun y => absurd y o)))
    obtain ⟨-, -, -, -, q5, q6⟩ := hole_of hW (show m < 12 by omega)
    rw [lk_4 hk hL, li_5 hk, vp_lt (show m < 12 by omega) (by decide), cl (by omega), (hR.2.1 m (by omega)).1, q5]
    refine ⟨trivial, fun v ev => ?_⟩
    subst ev
    exact sp_inRow si sj q6 (fun r => aIf_f (by decide) (nx1 (Or.inr ⟨m, hm, o, r⟩))) (fun r => aIf_t rfl (nx0 z (fun _ => r)))
/-- what is known of the first x told squares -/
def P1 (F : LF) (L : Lw) (hn gn : Nat) (sq : Nat → Nat) (h : aH) (x : Nat) : Prop := ∀ i, i < x → ((usP F L gn sq i → gA h 63 i = 1) ∧ (¬ usP F L gn sq i → gA h 63 i = 0)) ∧ (∃ M, BRs L hn sq i i M ∧ gA h 65 i = nI M) ∧ ∀ j, j < i → ∃ R, RWs sq i j j R ∧ gA h 64 (10 * i + j) = nI R
theorem sp_learn (hL : LayC h l d) (hR : RepC h 1 L) (hW : WF L hn gn) (hF : LC h l F) (hsq : ∀ i, i < n → gA h 40 i = nI (sq i) ∧ sq i < 256) (hn10 : n ≤ 10) {Q : Int32 → aH → Prop} (hq : ∀ h', PlF h h' → P1 F L hn gn sq h' n → gA h' 62 0 = 0 → ∃ m, f_X7_best_133 SC 61 1 42 39 Q m (nI n) 0 0 h') : ∃ m, f_X7_best_14 SC 61 1 42 39 Q m (nI n) 0 h := by
  have hk : isLake 1 := Or.inl rfl
  have hl := lay_isLaw hL
  have key := up_loop (N := n) (P := fun w i => ∀ h', PlF h h' → P1 F L hn gn sq h' i → f_X7_best_14 SC 61 1 42 39 Q w (nI n) (nI i) h') ?_ ?_
  · exact ⟨n + 1, key h PlF_rf (fun i hi => absurd hi (Nat.not_lt_zero _))⟩
  · intro h' f' p'
    have l' := LayC_2 f'.1 hL
    refine aIf_t (nI_le (Nat.le_refl _) (by omega)) ?_
    rw [c_61_0 l', ca_62]
    refine ⟨vp_in_nI (n := 0) (by decide) (by decide), fun h2 e2 => ?_⟩
    have e2 : h2 = sA h' 62 0 0 := e2
    subst e2
    refine hq _ (PlF_tr f' (PlF_sA (by decide))) (fun i hi => ?_) gA_e
    obtain ⟨a, ⟨M, b1, b2⟩, c⟩ := p' i hi
    rw [gA_o (by decide)]
    exact ⟨a, ⟨M, b1, by rw [gA_o (by decide)]; exact b2⟩, fun j hj => by obtain ⟨R, r1, r2⟩ := c j hj; exact ⟨R, r1, by rw [gA_o (by decide)]; exact r2⟩⟩
  · intro w i hi n1 h' f' p'
    have l' := LayC_2 f'.1 hL
    have r' := RepC_PlF f' hR
    have sq' : ∀ h2, PlF h h2 → ∀ i, i < n → gA h2 40 i = nI (sq i) ∧ sq i < 256 := fun h2 f2 i hi => ⟨(f2.2.1 _ _ (by decide)).trans (hsq i hi).1, (hsq i hi).2⟩
    obtain ⟨ei, si⟩ := sq' h' f' i hi
    refine aIf_f (nI_ge hi (by omega)) ?_
    rw [c_39_0 l', ca_40, vp_lt (show i < 40 by omega) (by decide), cl (by omega), ei]
    refine ⟨trivial, fun v ev => ?_⟩
    subst ev
    -- what follows, whatever the answer was
    have tail : ∀ (h2 : aH) (b : Int32), PlF h h2 → P1 F L hn gn sq h2 i → ((usP F L gn sq i → b = 1) ∧ (¬ usP F L gn sq i → b = 0)) → aIn SC 1 63 (nI i) ∧ ∀ h68 : aH, h68 = sA h2 63 i b → aIn SC 0 (gR h68 61 3) (nI i) ∧ ∀ h70 : aH, h70 = sA h68 (gR h68 61 3) (nI i).toNatClampNeg 0 → ∃ m91, f_X7_best_91 SC 61 1 42 39 Q (f_X7_best_14 SC 61 1 42 39 Q (w + 1)) m91 (nI n) (nI i) 0 h70 := by
      intro h2 b f2 p2 hb
      rw [ca_63, vp_lt (show i < 10 by omega) (by decide)]
      refine ⟨trivial, fun h3 e3 => ?_⟩
      have l3 : LayC h3 l d := LayC_2 (by rw [e3]; exact f2.1) hL
      rw [c_61_3 l3, ca_65, vp_lt (show i < 10 by omega) (by decide), cl (by omega)]
      refine ⟨trivial, fun h4 e4 => ?_⟩
      have f4 : PlF h h4 := by
        rw [e4, e3]
        exact PlF_tr f2 (PlF_tr (PlF_sA (by decide)) (PlF_sA (by decide)))
      have loop := up_loop (N := i) (P := fun m j => ∀ (h5 : aH) (M : Nat), PlF h h5 → (∀ c p, ¬ (c = 65 ∧ p = i) → ¬ (c = 64 ∧ 10 * i ≤ p) → gA h5 c p = gA h4 c p) → BRs L hn sq i j M → gA h5 65 i = nI M → (∀ q, q < j → ∃ R, RWs sq i q q R ∧ gA h5 64 (10 * i + q) = nI R) → f_X7_best_91 SC 61 1 42 39 Q (f_X7_best_14 SC 61 1 42 39 Q (w + 1)) m (nI n) (nI i) (nI j) h5) ?_ ?_
      · refine ⟨i + 1, loop h4 0 f4 (fun _ _ _ _ => rfl) ⟨by decide, fun q => ⟨fun z => by rw [Nat.zero_testBit] at z; exact absurd z (by decide), fun z => absurd z.1 (Nat.not_lt_zero _)⟩⟩ (by rw [e4, gA_e]; rfl) (fun q hq => absurd hq (Nat.not_lt_zero _))⟩
      · intro h5 M f5 o5 b5 g5 r5
        refine aIf_t (nI_le (Nat.le_refl _) (by omega)) (fun y ey => ?_)
        rw [nI_1] at ey
        subst ey
        refine n1 h5 f5 (fun q hq => ?_)
        by_cases z : q = i
        · subst z
          have e63 : gA h5 63 q = b := by rw [o5 63 q (by omega) (by omega), e4, gA_o (by decide), e3, gA_e]
          rw [e63]
          exact ⟨hb, ⟨M, b5, g5⟩, r5⟩
        · obtain ⟨a, ⟨M2, c1, c2⟩, c3⟩ := p2 q (by omega)
          have e63 : gA h5 63 q = gA h2 63 q := by rw [o5 63 q (by omega) (by omega), e4, gA_o (by decide), e3, gA_p z]
          have e65 : gA h5 65 q = gA h2 65 q := by rw [o5 65 q (by omega) (by omega), e4, gA_p z, e3, gA_o (by decide)]
          rw [e63, e65]
          refine ⟨a, ⟨M2, c1, c2⟩, fun j hj => ?_⟩
          obtain ⟨R, r1, r2⟩ := c3 j hj
          exact ⟨R, r1, by rw [o5 64 _ (by omega) (by omega), e4, gA_o (by decide), e3, gA_o (by decide)]; exact r2⟩
      · intro m j hj m1 h5 M f5 o5 b5 g5 r5
        have l5 := LayC_2 f5.1 hL
        refine aIf_f (nI_ge hj (by omega)) ?_
        refine sp_bar l5 (RepC_PlF f5 hR) hW (sq' h5 f5) hn10 hi hj b5 g5 (fun h6 M6 R f6 o6 b6 g6 rw6 gR6 => ?_)
        intro y ey
        rw [nI_1] at ey
        subst ey
        refine m1 h6 M6 (PlF_tr f5 f6) (fun c p c1 c2 => by rw [o6 c p c1 (by omega)]; exact o5 c p c1 c2) b6 g6 (fun q hq => ?_)
        by_cases z : q = j
        · subst z; exact ⟨R, rw6, gR6⟩
        · obtain ⟨R2, a1, a2⟩ := r5 q (by omega)
          exact ⟨R2, a1, by rw [o6 64 _ (by omega) (by omega)]; exact a2⟩
    have e61 := c_61_1 l'
    have no : ∀ (h2 : aH), PlF h' h2 → (∀ c p, 62 ≤ c → c ≤ 65 → gA h2 c p = gA h' c p) → ¬ usP F L gn sq i → aIn SC 1 (gR h' 61 1) (nI i) ∧ ∀ h68 : aH, h68 = sA h2 (gR h' 61 1) i 0 → aIn SC 0 (gR h68 61 3) (nI i) ∧ ∀ h70 : aH, h70 = sA h68 (gR h68 61 3) (nI i).toNatClampNeg 0 → ∃ m91, f_X7_best_91 SC 61 1 42 39 Q (f_X7_best_14 SC 61 1 42 39 Q (w + 1)) m91 (nI n) (nI i) 0 h70 := by
      intro h2 f2 o2 nu
      rw [e61]
      refine tail h2 0 (PlF_tr f' f2) (fun q hq => ?_) ⟨fun z => absurd z nu, fun _ => rfl⟩
      obtain ⟨a, ⟨M2, c1, c2⟩, c3⟩ := p' q hq
      rw [o2 63 q (by decide) (by decide), o2 65 q (by decide) (by decide)]
      exact ⟨a, ⟨M2, c1, c2⟩, fun j hj => by obtain ⟨R, r1, r2⟩ := c3 j hj; exact ⟨R, r1, by rw [o2 64 _ (by decide) (by decide)]; exact r2⟩⟩
    have ci : (nI i).toNatClampNeg = i := cl (by omega)
    rw [ci] at no tail
    refine sp_isFree hk l' r' hW si (fun f1 f2 => aIf_f (by decide) ?_) (fun f0 => aIf_t rfl (no h' PlF_rf (fun _ _ _ _ => rfl) (fun z => f0 ⟨z.1.1, z.1.2.1⟩)))
    refine sp_isBesideHole hk l' r' si (fun b => aIf_t (by decide) (no h' PlF_rf (fun _ _ _ _ => rfl) (fun z => z.1.2.2.2 b))) (fun b => aIf_f (fun z => z rfl) ?_)
    refine sp_makesRow hk l' r' si (fun r => aIf_t (by decide) (no h' PlF_rf (fun _ _ _ _ => rfl) (fun z => z.2 r))) (fun r => aIf_f (fun z => z rfl) ?_)
    refine sp_allows hk l' r' (LC_PlF hl f' hF) si (fun h2 s2 y => aIf_f (by decide) ?_) (fun h2 s2 y => aIf_t rfl (no h2 (PlF_S s2) (fun c p c1 c2 => s2.2.1 c p (by omega)) (fun z => z.1.2.2.1 y)))
    rw [e61]
    refine tail h2 1 (PlF_tr f' (PlF_S s2)) (fun q hq => ?_) ⟨fun _ => rfl, fun z => absurd ⟨⟨f1, f2, y, b⟩, r⟩ z⟩
    obtain ⟨a, ⟨M2, c1, c2⟩, c3⟩ := p' q hq
    rw [s2.2.1 63 q (by decide), s2.2.1 65 q (by decide)]
    exact ⟨a, ⟨M2, c1, c2⟩, fun j hj => by obtain ⟨R, r1, r2⟩ := c3 j hj; exact ⟨R, r1, by rw [s2.2.1 64 _ (by decide)]; exact r2⟩⟩
end PlC
