/-! ===== PLACES: the reference ===== -/
/-- nothing but the law's scratch and the row of HOLES then has changed -/
def SFT (h h' : aH) : Prop := h'.2.2 = h.2.2 ∧ (∀ c i, ¬ (c = 25 ∨ c = 26 ∨ c = 36) → gA h' c i = gA h c i) ∧ ∀ c j, ¬ (c = 0 ∧ 39 ≤ j ∧ j ≤ 42) → gI h' c j = gI h c j
theorem SFT_rf {h : aH} : SFT h h := ⟨rfl, fun _ _ _ => rfl, fun _ _ _ => rfl⟩
theorem SFT_tr {a b c : aH} (x : SFT a b) (y : SFT b c) : SFT a c := ⟨y.1.trans x.1, fun k i hk => (y.2.1 k i hk).trans (x.2.1 k i hk), fun k i hk => (y.2.2 k i hk).trans (x.2.2 k i hk)⟩
theorem SFT_S {a b : aH} (x : SFM a b) : SFT a b := ⟨x.1, fun c i hc => x.2.1 c i (by omega), x.2.2⟩
theorem SFT_sA {h : aH} {i : Nat} {v : Int32} : SFT h (sA h 36 i v) := ⟨rfl, fun a j ha => by rw [gA_sA, if_neg (fun z => ha (by omega))], fun _ _ _ => rfl⟩
theorem RepM_SFT {h h' : aH} {L : Lw} (x : SFT h h') (hR : RepM h L) : RepM h' L := RepM_gA (fun c i h1 h2 => x.2.1 c i (by omega)) (fun j h1 h2 => x.2.2 _ _ (by omega)) hR
theorem LM_SFT {h h' : aH} {F : LF} (x : SFT h h') (hF : LM h F) : LM h' F := LM_to (fun c hc i => x.2.1 c i (by omega)) (x.2.2 _ _ (by omega)) hF
theorem MS_SFT {h h' : aH} (x : SFT h h') : MS h h' :=
  ⟨x.1, fun c hc i => x.2.1 c i (by omega), fun c hc i _ => x.2.1 c i (by omega), fun i _ => x.2.1 _ i (by omega), fun i _ => x.2.1 _ i (by omega), fun j hj => x.2.2 _ _ (by omega)⟩
section PlM
variable {h : aH} {n : Nat} {L : Lw} {hn gn : Nat} {F : LF} {sq wo : Nat → Nat} {Q : Int32 → aH → Prop}
theorem sr_isFineAlone (hL : LayM h) (hM : RepM h L) (hW : WF L hn gn) (hF : LM h F) {s : Nat} (hs : s < 256) (h1 : frA F L gn s → ∀ h', SFM h h' → Q 1 h') (h0 : ¬ frA F L gn s → ∀ h', SFM h h' → Q 0 h') : f_X11_isFineAlone SM 0 (nI s) h Q := by
  have hhn := hW.1
  unfold f_X11_isFineAlone
  refine sr_isIce hL hM hs (fun a => aIf_f (by decide) ?_) (fun a => aIf_t rfl (h0 (fun z => a z.1) h SFM_rf))
  refine sr_standsOn hL hM hW (fun ⟨g, g1, g2⟩ => aIf_t (by decide) (h0 (fun z => z.2.1 g g1 g2) h SFM_rf)) (fun b => aIf_f (fun z => z rfl) ?_)
  refine sr_mayCut hL hM hW hF hs (fun h2 f2 c => aIf_t (by decide) ?_) (fun h2 f2 c => aIf_f (fun z => z rfl) (h0 (fun z => z.2.2.1 c) h2 f2))
  have l2 := LayM_2 f2.1 hL
  have r2 := RepM_SFM f2 hM
  have key := up_loop (N := hn) (P := fun w m => (∀ q, q < m → opn L q → ¬ nearP (sqH L q) s) → f_X11_isFineAlone_29 SM 0 (nI s) Q w (nI m) h2) ?_ ?_
  · exact ⟨hn + 1, key (fun q hq => absurd hq (Nat.not_lt_zero _))⟩
  · intro hv v ev
    rw [r2.2.2.2.1.trans hW.2.2.1] at ev
    subst ev
    refine aIf_t (nI_le (Nat.le_refl _) (by omega)) (h1 ⟨a, b, c, ?_⟩ h2 f2)
    rintro ⟨j, hj, t, e, z⟩
    obtain ⟨m, m1, m2, m3⟩ := hole_ex hW (adj_lt e) z
    refine hv m m1 m2 ?_
    rw [m3]
    exact (near_adj hs (adj_lt e)).mpr ⟨j, hj, e⟩
  · intro w m hm n1 hv v ev
    rw [r2.2.2.2.1.trans hW.2.2.1] at ev
    subst ev
    refine aIf_f (nI_ge hm (by omega)) ?_
    have nx : (opn L m → ¬ nearP (sqH L m) s) → ∀ y : Int32, y = nI m + 1 → f_X11_isFineAlone_29 SM 0 (nI s) Q (w + 1) y h2 := fun z y ey => by
      rw [nI_1] at ey
      subst ey
      refine n1 (fun q hq o => ?_)
      rcases Nat.lt_or_ge q m with x | x
      · exact hv q x o
      · have : q = m := by omega
        subst this
        exact z o
    refine sr_isOpenN l2 r2 hW hm (fun o => aIf_f (by decide) ?_) (fun o => aIf_t rfl (nx (fun z => absurd z o)))
    obtain ⟨-, -, -, -, q5, q6⟩ := hole_of hW (show m < 12 by omega)
    rw [m_9 l2, mi_5, vp_lt (show m < 12 by omega) (by decide), cl (by omega), (r2.2.1 m (by omega)).1, q5]
    refine ⟨trivial, fun v ev => ?_⟩
    subst ev
    refine sr_areNear q6 hs (fun z => aIf_f (by decide) (h0 (fun y => y.2.2.2 ?_) h2 f2)) (fun z => aIf_t rfl (nx (fun _ => z)))
    obtain ⟨j, hj, e⟩ := (near_adj hs q6).mp z
    exact ⟨j, hj, _, e, (hole_at hW hm o).2⟩
theorem sr_worthOf (hL : LayM h) (e54 : gI h 0 54 = nI n) (hn10 : n ≤ 10) (hw : ∀ i, i < n → gA h 35 i = nI (wo i)) {S : Nat} (hS : S < 2 ^ 31) (hq : Q (nI (tmN wo S n)) h) : f_X11_worthOf SM 0 (nI S) h Q := by
  have key := up_loop (N := n) (P := fun w i => f_X11_worthOf_4 SM 0 (nI S) Q w (nI (tmN wo S i)) (nI i) h) ?_ ?_
  · exact ⟨n + 1, key⟩
  · intro v ev
    rw [e54] at ev
    subst ev
    exact aIf_t (nI_le (Nat.le_refl _) (by omega)) hq
  · intro w i hi n1 v ev
    rw [e54] at ev
    subst ev
    refine aIf_f (nI_ge hi (by omega)) ?_
    have n1 : f_X11_worthOf_4 SM 0 (nI S) Q (w + 1) (nI (tmN wo S i + if S.testBit i = true then wo i else 0)) (nI (i + 1)) h := n1
    refine sr_has hS (by omega) (fun b => aIf_f (by decide) ?_) (fun b => aIf_t rfl ?_)
    · rw [if_pos b] at n1
      rw [m_53 hL, mi_35, vp_lt (show i < 10 by omega) (by decide), cl (by omega), hw i hi]
      refine ⟨trivial, fun v ev x ex y ey => ?_⟩
      subst ev
      rw [nI_add] at ex
      rw [nI_1] at ey
      subst ex ey
      exact n1
    · rw [if_neg b, Nat.add_zero] at n1
      intro x ex y ey
      rw [Int32.add_zero] at ex
      rw [nI_1] at ey
      subst ex ey
      exact n1
/-- the row of HOLES then -/
def Thn (h : aH) (H : Nat → Prop) : Prop := ∀ t, t < 256 → (H t → gA h 36 t = 1) ∧ (¬ H t → gA h 36 t = 0)
theorem sr_isThen (hL : LayM h) {H : Nat → Prop} (hT : Thn h H) {o : Option Nat} (ho : ∀ t, o = some t → t < 256) (h1 : HD H o → Q 1 h) (h0 : ¬ HD H o → Q 0 h) : f_X11_isThen SM 0 (enc o) h Q := by
  rcases o with _ | t
  · exact aIf_t rfl (h0 id)
  · have ht := ho t rfl
    rw [enc_some]
    refine aIf_f (nI_neg1 (by omega)) ?_
    rw [m_55 hL, mi_36, vp_lt ht (by decide), cl (by omega)]
    refine ⟨trivial, fun v ev => ?_⟩
    subst ev
    by_cases c : H t
    · exact aIf_f (by rw [(hT t ht).1 c]; decide) (h1 c)
    · exact aIf_t ((hT t ht).2 c) (h0 c)
theorem sr_hasNewRow (hL : LayM h) {H : Nat → Prop} (hT : Thn h H) (e54 : gI h 0 54 = nI n) (hn10 : n ≤ 10) (hsq : ∀ i, i < n → gA h 34 i = nI (sq i) ∧ sq i < 256) {S : Nat} (hS : S < 2 ^ 31) (h1 : ¬ (∀ i, i < n → S.testBit i = true → ¬ rowH H (sq i)) → Q 1 h) (h0 : (∀ i, i < n → S.testBit i = true → ¬ rowH H (sq i)) → Q 0 h) : f_X11_hasNewRow SM 0 (nI S) h Q := by
  have key := up_loop (N := n) (P := fun w i => (∀ q, q < i → S.testBit q = true → ¬ rowH H (sq q)) → f_X11_hasNewRow_2 SM 0 (nI S) Q w (nI i) h) ?_ ?_
  · exact ⟨n + 1, key (fun q hq => absurd hq (Nat.not_lt_zero _))⟩
  · intro hv v ev
    rw [e54] at ev
    subst ev
    exact aIf_t (nI_le (Nat.le_refl _) (by omega)) (h0 hv)
  · intro w0 i hi n1 hv v ev
    rw [e54] at ev
    subst ev
    refine aIf_f (nI_ge hi (by omega)) ?_
    obtain ⟨ei, hs⟩ := hsq i hi
    have nx : (S.testBit i = true → ¬ rowH H (sq i)) → f_X11_hasNewRow_2 SM 0 (nI S) Q (w0 + 1) (nI i + 1) h := fun z => by
      rw [nI_1]
      refine n1 (fun q hq bq => ?_)
      rcases Nat.lt_or_ge q i with x | x
      · exact hv q x bq
      · have : q = i := by omega
        subst this
        exact z bq
    refine sr_has hS (by omega) (fun b => aIf_t (by decide) ?_) (fun b => aIf_f (fun z => z rfl) (fun y ey => by rw [ey]; exact nx (fun z => absurd z b)))
    rw [m_52 hL, mi_34, vp_lt (show i < 40 by omega) (by decide), cl (by omega), ei]
    refine ⟨trivial, fun v ev => ?_⟩
    subst ev
    have found : rowH H (sq i) → Q 1 h := fun r => h1 (fun z => z i hi b r)
    have st : ∀ (dx dy : Int) (K : Int32 → Int32 → Int32 → Int32 → aH → Prop), -3 ≤ dx → dx ≤ 3 → -3 ≤ dy → dy ≤ 3 → (¬ rowTH H (sq i) dx dy → K (nI i) (nI (sq i)) (iI dx) (iI (dy + 1)) h) → aIf (¬ iI dx = 0) (f_X11_hasNewRow_58 SM 0 (nI S) Q K (nI i) (nI (sq i)) (iI dx) (iI dy) h) (aIf (iI dy = 0) (∀ x5_22 : Int32, x5_22 = iI dy + 1 → K (nI i) (nI (sq i)) (iI dx) x5_22 h) (f_X11_hasNewRow_58 SM 0 (nI S) Q K (nI i) (nI (sq i)) (iI dx) (iI dy) h)) := by
      intro dx dy K x1 x2 y1 y2 hK
      have ne : ¬ (dx = 0 ∧ dy = 0) → f_X11_hasNewRow_58 SM 0 (nI S) Q K (nI i) (nI (sq i)) (iI dx) (iI dy) h := by
        intro z
        have next : ¬ rowTH H (sq i) dx dy → ∀ x : Int32, x = iI dy + 1 → K (nI i) (nI (sq i)) (iI dx) x h := fun z x ex => by rw [ex, iI_1]; exact hK z
        have done : rowTH H (sq i) dx dy → Q 1 h := fun r => found ⟨dx, dy, x1, x2, y1, y2, r⟩
        refine sr_aside hs (by omega) (by omega) ?_
        refine sr_isThen hL hT (fun t ht => besN_lt ht) (fun a => aIf_t (by decide) ?_) (fun a => aIf_f (fun z => z rfl) (next (fun r => a r.2.1)))
        rw [iI_2, iI_2]
        refine sr_aside hs (by omega) (by omega) ?_
        refine sr_isThen hL hT (fun t ht => besN_lt ht) (fun b => aIf_t (by decide) (done ⟨z, a, Or.inl b⟩)) (fun b => aIf_f (fun z => z rfl) ?_)
        rw [iI_neg, iI_neg]
        refine sr_aside hs (by omega) (by omega) ?_
        exact sr_isThen hL hT (fun t ht => besN_lt ht) (fun c => aIf_f (by decide) (done ⟨z, a, Or.inr c⟩)) (fun c => aIf_t rfl (next (fun r => r.2.2.elim b c)))
      refine aIf_i (fun c => ne (fun z => c (by rw [z.1]; rfl))) (fun c => aIf_i (fun c2 => ?_) (fun c2 => ne (fun z => c2 (by rw [z.2]; rfl))))
      intro x ex
      rw [ex, iI_1]
      exact hK (fun r => r.1 ⟨(iI_z (by omega) (by omega)).mp (Classical.not_not.mp c), (iI_z (by omega) (by omega)).mp c2⟩)
    have inner : ∀ (dx : Int) (K3 : Int32 → Int32 → Int32 → aH → Prop), -3 ≤ dx → dx ≤ 3 → ((∀ y, -3 ≤ y → y ≤ 3 → ¬ rowTH H (sq i) dx y) → K3 (nI i) (nI (sq i)) (iI (dx + 1)) h) → ∀ (w : Nat) (dy : Int), dy + w = 4 → -3 ≤ dy → (∀ y, -3 ≤ y → y < dy → ¬ rowTH H (sq i) dx y) → f_X11_hasNewRow_42 SM 0 (nI S) Q K3 (w + 1) (nI i) (nI (sq i)) (iI dx) (iI dy) h := by
      intro dx K3 x1 x2 hK w
      induction w with
      | zero =>
        intro dy hd hd3 hv
        have : dy = 4 := by omega
        subst this
        refine aIf_t (by decide) (fun x ex => ?_)
        rw [ex, iI_1]
        exact hK (fun y y1 y2 => hv y y1 (by omega))
      | succ w ih =>
        intro dy hd hd3 hv
        refine aIf_f (fun z => absurd ((iI_le (a := 4) (by omega) (by omega) (by omega) (by omega)).mp z) (by omega)) ?_
        refine st dx dy _ x1 x2 hd3 (by omega) (fun r => ih (dy + 1) (by omega) (by omega) (fun y y1 y2 => ?_))
        rcases Int.lt_or_le y dy with z | z
        · exact hv y y1 z
        · rw [show y = dy by omega]; exact r
    have outer : ∀ (w : Nat) (dx : Int), dx + w = 4 → -3 ≤ dx → (∀ x y, -3 ≤ x → x < dx → -3 ≤ y → y ≤ 3 → ¬ rowTH H (sq i) x y) → f_X11_hasNewRow_32 SM 0 (nI S) Q (f_X11_hasNewRow_2 SM 0 (nI S) Q (w0 + 1)) (w + 1) (nI i) (nI (sq i)) (iI dx) h := by
      intro w
      induction w with
      | zero =>
        intro dx hd hd3 hv
        have : dx = 4 := by omega
        subst this
        refine aIf_t (by decide) (fun y ey => ?_)
        rw [ey]
        exact nx (fun _ ⟨x, y, x1, x2, y1, y2, r⟩ => hv x y x1 (by omega) y1 y2 r)
      | succ w ih =>
        intro dx hd hd3 hv
        refine aIf_f (fun z => absurd ((iI_le (a := 4) (by omega) (by omega) (by omega) (by omega)).mp z) (by omega)) ⟨8, ?_⟩
        have t := inner dx (f_X11_hasNewRow_32 SM 0 (nI S) Q (f_X11_hasNewRow_2 SM 0 (nI S) Q (w0 + 1)) (w + 1)) hd3 (by omega) (fun r => ih (dx + 1) (by omega) (by omega) (fun x y x1 x2 y1 y2 => by
          rcases Int.lt_or_le x dx with z | z
          · exact hv x y x1 z y1 y2
          · rw [show x = dx by omega]; exact r y y1 y2)) 7 (-3) (by omega) (by omega) (fun y y1 y2 => by omega)
        rw [show iI (-3) = (-3) from by decide] at t
        exact t
    have t := outer 7 (-3) (by omega) (by omega) (fun x y x1 x2 => by omega)
    rw [show iI (-3) = (-3) from by decide] at t
    exact ⟨8, t⟩
theorem sr_isFine (hL : LayM h) (hM : RepM h L) (hW : WF L hn gn) (e54 : gI h 0 54 = nI n) (hn10 : n ≤ 10) (hsq : ∀ i, i < n → gA h 34 i = nI (sq i) ∧ sq i < 256) {S AL : Nat} (hS : S < 2 ^ n) (hAL : AL < 2 ^ 10 ∧ ∀ q, AL.testBit q = true ↔ q < n ∧ frA F L gn (sq q)) (h1 : FNr F L gn sq n S → ∀ h', SFT h h' → Q 1 h') (h0 : ¬ FNr F L gn sq n S → ∀ h', SFT h h' → Q 0 h') : f_X11_isFine SM 0 (nI S) (nI AL) h Q := by
  have p10 : 2 ^ n ≤ 2 ^ 10 := Nat.pow_le_pow_right (by decide) hn10
  have p10 : 2 ^ n ≤ 1024 := p10
  have A10 : AL < 1024 := hAL.1
  have S12 : S < 2 ^ 12 := by omega
  have A12 : AL < 2 ^ 12 := by omega
  have hhn := hW.1
  unfold f_X11_isFine
  rw [nI_df S12 A12]
  have dl := df_lt (D := AL) S12
  have z0 : nI (dfN S AL) = 0 ↔ dfN S AL = 0 := nI_eq (b := 0) (by omega) (by decide)
  rw [z0, sub_iff S12]
  refine aIf_i (fun c => ?_) (fun c => h0 (fun z => c (fun i hi => ?_)) h SFT_rf)
  rotate_left
  · have hin : i < n := by
      rcases Nat.lt_or_ge i n with y | y
      · exact y
      · rw [Nat.testBit_lt_two_pow (Nat.lt_of_lt_of_le hS (Nat.pow_le_pow_right (by decide) y))] at hi
        exact absurd hi (by decide)
    exact (hAL.2 i).mpr ⟨hin, z.1 i hin hi⟩
  have al : ∀ i, i < n → S.testBit i = true → frA F L gn (sq i) := fun i hi hb => ((hAL.2 i).mp (c i hb)).2
  -- third: rows
  have rows : (∀ i, i < n → ∀ j, j < i → S.testBit i = true → S.testBit j = true → ¬ nearP (sq i) (sq j)) → ∃ m, f_X11_isFine_81 SM 0 (nI S) (nI AL) Q m 0 h := by
    intro nr
    have mark : ∀ h1, SFT h h1 → (∀ t, t < 256 → (0 ≤ L 1 t → gA h1 36 t = 1) ∧ (¬ 0 ≤ L 1 t → gA h1 36 t = 0)) → ∃ m, f_X11_isFine_117 SM 0 (nI S) (nI AL) Q m 0 h1 := by
      intro h1' f1 t1
      have key := up_loop (N := n) (P := fun w i => ∀ h2, SFT h h2 → (∀ t, t < 256 → ((0 ≤ L 1 t ∨ ∃ j, j < i ∧ S.testBit j = true ∧ sq j = t) → gA h2 36 t = 1) ∧ (¬ (0 ≤ L 1 t ∨ ∃ j, j < i ∧ S.testBit j = true ∧ sq j = t) → gA h2 36 t = 0)) → f_X11_isFine_117 SM 0 (nI S) (nI AL) Q w (nI i) h2) ?_ ?_
      · refine ⟨n + 1, key h1' f1 (fun t ht => ?_)⟩
        refine ⟨fun z => (t1 t ht).1 (z.resolve_right (fun ⟨j, j1, _⟩ => absurd j1 (Nat.not_lt_zero _))), fun z => (t1 t ht).2 (fun y => z (Or.inl y))⟩
      · intro h2 f2 t2 v ev
        have e54' : gI h2 0 54 = nI n := (f2.2.2 _ _ (by decide)).trans e54
        rw [e54'] at ev
        subst ev
        refine aIf_t (nI_le (Nat.le_refl _) (by omega)) ?_
        have hT : Thn h2 (HH L sq n S) := fun t ht => ⟨fun z => (t2 t ht).1 z.2, fun z => (t2 t ht).2 (fun y => z ⟨ht, y⟩)⟩
        refine sr_hasNewRow (LayM_2 f2.1 hL) hT e54' hn10 (fun i hi => ⟨(f2.2.1 _ _ (by decide)).trans (hsq i hi).1, (hsq i hi).2⟩) (by omega) (fun z => aIf_t (by decide) (h0 (fun y => z y.2.2) h2 f2)) (fun z => aIf_f (fun y => y rfl) (h1 ⟨al, nr, z⟩ h2 f2))
      · intro w i hi n1 h2 f2 t2 v ev
        have l2 := LayM_2 f2.1 hL
        have e54' : gI h2 0 54 = nI n := (f2.2.2 _ _ (by decide)).trans e54
        rw [e54'] at ev
        subst ev
        refine aIf_f (nI_ge hi (by omega)) ?_
        refine sr_has (by omega) (by omega) (fun b => aIf_f (by decide) ?_) (fun b => aIf_t rfl (fun y ey => ?_))
        · have si := (hsq i hi).2
          rw [m_52 l2, mi_34, vp_lt (show i < 40 by omega) (by decide), cl (by omega), f2.2.1 34 i (by decide), (hsq i hi).1]
          refine ⟨trivial, fun v ev => ?_⟩
          subst ev
          rw [m_55 l2, mi_36, vp_lt si (by decide), cl (by omega)]
          refine ⟨trivial, fun h3 e3 y ey => ?_⟩
          rw [nI_1] at ey
          subst ey e3
          refine n1 _ (SFT_tr f2 SFT_sA) (fun t ht => ?_)
          by_cases z : t = sq i
          · rw [z, gA_e]
            exact ⟨fun _ => rfl, fun y => absurd (Or.inr ⟨i, by omega, b, rfl⟩) y⟩
          · rw [gA_p z]
            refine ⟨fun y => (t2 t ht).1 (y.imp id (fun ⟨j, j1, j2, j3⟩ => ⟨j, ?_, j2, j3⟩)), fun y => (t2 t ht).2 (fun x => y (x.imp id (fun ⟨j, j1, j2⟩ => ⟨j, by omega, j2⟩)))⟩
            rcases Nat.lt_or_ge j i with x | x
            · exact x
            · have : j = i := by omega
              rw [this] at j3
              exact absurd j3.symm z
        · rw [nI_1] at ey
          subst ey
          refine n1 h2 f2 (fun t ht => ?_)
          refine ⟨fun y => (t2 t ht).1 (y.imp id (fun ⟨j, j1, j2, j3⟩ => ⟨j, ?_, j2, j3⟩)), fun y => (t2 t ht).2 (fun x => y (x.imp id (fun ⟨j, j1, j2⟩ => ⟨j, by omega, j2⟩)))⟩
          rcases Nat.lt_or_ge j i with x | x
          · exact x
          · have : j = i := by omega
            rw [this] at j2
            exact absurd j2 b
    have key := up_loop (N := 256) (P := fun w s => ∀ h2, SFT h h2 → (∀ t, t < s → (0 ≤ L 1 t → gA h2 36 t = 1) ∧ (¬ 0 ≤ L 1 t → gA h2 36 t = 0)) → f_X11_isFine_81 SM 0 (nI S) (nI AL) Q w (nI s) h2) ?_ ?_
    · exact ⟨257, key h SFT_rf (fun t ht => absurd ht (Nat.not_lt_zero _))⟩
    · intro h2 f2 t2
      exact aIf_t (by decide) (mark h2 f2 t2)
    · intro w s hs n1 h2 f2 t2
      have l2 := LayM_2 f2.1 hL
      have r2 := RepM_SFT f2 hM
      refine aIf_f (nI_ge (a := s) (b := 256) hs (by decide)) ?_
      have lay : ∀ (h3 : aH) (b : Int32), h3 = sA h2 36 s b → ((0 ≤ L 1 s → b = 1) ∧ (¬ 0 ≤ L 1 s → b = 0)) → ∀ y : Int32, y = nI s + 1 → f_X11_isFine_81 SM 0 (nI S) (nI AL) Q (w + 1) y h3 := by
        intro h3 b e3 hb y ey
        rw [nI_1] at ey
        subst ey e3
        refine n1 _ (SFT_tr f2 SFT_sA) (fun t ht => ?_)
        by_cases z : t = s
        · rw [z, gA_e]; exact hb
        · rw [gA_p z]; exact t2 t (by omega)
      rw [m_8 l2, mi_4, vp_lt hs (by decide), cl (by omega), (r2.1 s hs).2.2]
      refine ⟨trivial, fun v ev => ?_⟩
      subst ev
      rcases hW.2.2.2.2.2.1 s hs with z | z | ⟨m, hm, z, -⟩
      · rw [z, if_neg (by decide)]
        refine aIf_t rfl ?_
        rw [m_55 l2, mi_36, vp_lt hs (by decide)]
        exact ⟨trivial, fun h3 e3 => lay h3 0 e3 ⟨fun y => by rw [z] at y; exact absurd y (by decide), fun _ => rfl⟩⟩
      · rw [z, if_pos rfl]
        refine aIf_t rfl ?_
        rw [m_55 l2, mi_36, vp_lt hs (by decide)]
        exact ⟨trivial, fun h3 e3 => lay h3 0 e3 ⟨fun y => by rw [z] at y; exact absurd y (by decide), fun _ => rfl⟩⟩
      · rw [z, if_neg (nI_neg2 (by omega))]
        refine aIf_f (nI_neg1 (by omega)) ?_
        rw [m_55 l2, mi_36, vp_lt hs (by decide)]
        exact ⟨trivial, fun h3 e3 => lay h3 1 e3 ⟨fun _ => rfl, fun y => absurd (by rw [z]; exact nI_pos' (by omega)) y⟩⟩
  -- second: no two are near
  have key := up_loop (N := n) (P := fun w i => (∀ p, p < i → ∀ j, j < p → S.testBit p = true → S.testBit j = true → ¬ nearP (sq p) (sq j)) → f_X11_isFine_12 SM 0 (nI S) (nI AL) Q w (nI i) h) ?_ ?_
  · exact ⟨n + 1, key (fun q hq => absurd hq (Nat.not_lt_zero _))⟩
  · intro hv v ev
    rw [e54] at ev
    subst ev
    exact aIf_t (nI_le (Nat.le_refl _) (by omega)) (rows hv)
  · intro w i hi n1 hv v ev
    rw [e54] at ev
    subst ev
    refine aIf_f (nI_ge hi (by omega)) ?_
    have loop := up_loop (N := i) (P := fun m j => (∀ q, q < j → S.testBit i = true → S.testBit q = true → ¬ nearP (sq i) (sq q)) → f_X11_isFine_23 SM 0 (nI S) (nI AL) Q (f_X11_isFine_12 SM 0 (nI S) (nI AL) Q (w + 1)) m (nI i) (nI j) h) ?_ ?_
    · exact ⟨i + 1, loop (fun q hq => absurd hq (Nat.not_lt_zero _))⟩
    · intro hj
      refine aIf_t (nI_le (Nat.le_refl _) (by omega)) (fun y ey => ?_)
      rw [nI_1] at ey
      subst ey
      refine n1 (fun p hp j hjp bp bj => ?_)
      rcases Nat.lt_or_ge p i with x | x
      · exact hv p x j hjp bp bj
      · have : p = i := by omega
        subst this
        exact hj j hjp bp bj
    · intro m j hj m1 hv2
      refine aIf_f (nI_ge hj (by omega)) ?_
      have nx : (S.testBit i = true → S.testBit j = true → ¬ nearP (sq i) (sq j)) → ∀ y : Int32, y = nI j + 1 → f_X11_isFine_23 SM 0 (nI S) (nI AL) Q (f_X11_isFine_12 SM 0 (nI S) (nI AL) Q (w + 1)) (m + 1) (nI i) y h := fun z y ey => by
        rw [nI_1] at ey
        subst ey
        refine m1 (fun q hq bi bq => ?_)
        rcases Nat.lt_or_ge q j with x | x
        · exact hv2 q x bi bq
        · have : q = j := by omega
          subst this
          exact z bi bq
      refine sr_has (by omega) (by omega) (fun bi => aIf_f (by decide) ?_) (fun bi => aIf_t rfl (nx (fun z => absurd z bi)))
      refine sr_has (by omega) (by omega) (fun bj => aIf_f (by decide) ?_) (fun bj => aIf_t rfl (nx (fun _ z => absurd z bj)))
      obtain ⟨ei, si⟩ := hsq i hi
      obtain ⟨ej, sj⟩ := hsq j (by omega)
      rw [m_52 hL, mi_34, vp_lt (show i < 40 by omega) (by decide), cl (by omega), ei]
      refine ⟨trivial, fun v ev => ?_⟩
      subst ev
      rw [mi_34, vp_lt (show j < 40 by omega) (by decide), cl (by omega), ej]
      refine ⟨trivial, fun v ev => ?_⟩
      subst ev
      exact sr_areNear si sj (fun z => aIf_f (by decide) (h0 (fun y => y.2.1 i hi j hj bi bj z) h SFT_rf)) (fun z => aIf_t rfl (nx (fun _ _ => z)))
end PlM
