/-! ===== what is told ===== -/
def ToC (h h' : aH) (n i : Nat) (sq wo : Nat → Nat) : Prop := h'.2.2 = h.2.2 ∧ (∀ c j, c ≠ 40 → c ≠ 41 → gA h' c j = gA h c j) ∧ (∀ c j, ¬ (c = 39 ∧ j = 2) → gI h' c j = gI h c j) ∧ gI h' 39 2 = nI n ∧ ∀ j, j < i → gA h' 40 j = nI (sq j) ∧ gA h' 41 j = nI (wo j)
def ToCf (h h' : aH) (n : Nat) (sq wo : Nat → Nat) : Prop := h'.2.2 = h.2.2 ∧ (∀ c j, c ≠ 40 → c ≠ 41 → gA h' c j = gA h c j) ∧ (∀ c j, ¬ (c = 39 ∧ j = 2) → ¬ (c = 37 ∧ j = 1) → gI h' c j = gI h c j) ∧ gI h' 37 1 = 0 ∧ gI h' 39 2 = nI n ∧ ∀ j, j < n → gA h' 40 j = nI (sq j) ∧ gA h' 41 j = nI (wo j)
def ToM (h h' : aH) (n i : Nat) (sq wo : Nat → Nat) : Prop := h'.2.2 = h.2.2 ∧ (∀ c j, c ≠ 34 → c ≠ 35 → gA h' c j = gA h c j) ∧ (∀ c j, ¬ (c = 0 ∧ j = 1) → ¬ (c = 0 ∧ j = 54) → gI h' c j = gI h c j) ∧ gI h' 0 1 = 0 ∧ gI h' 0 54 = nI n ∧ ∀ j, j < i → gA h' 34 j = nI (sq j) ∧ gA h' 35 j = nI (wo j)
theorem CT_ToC {h h' : aH} {n : Nat} {sq wo : Nat → Nat} (t : ToCf h h' n sq wo) : CT h h' := ⟨t.1, fun c hc i => t.2.1 c i (by omega) (by omega), fun j => t.2.2.1 _ _ (by omega) (by omega), t.2.2.1 _ _ (by omega) (by omega), t.2.2.1 _ _ (by omega) (by omega), t.2.2.1 _ _ (by omega) (by omega), t.2.2.1 _ _ (by omega) (by omega), t.2.2.1 _ _ (by omega) (by omega)⟩
theorem MT_ToM {h h' : aH} {n i : Nat} {sq wo : Nat → Nat} (t : ToM h h' n i sq wo) : MT h h' := ⟨t.1, fun c hc i => t.2.1 c i (by omega) (by omega), fun c hc i _ => t.2.1 c i (by omega) (by omega), fun i _ => t.2.1 _ i (by omega) (by omega), fun i _ => t.2.1 _ i (by omega) (by omega), fun j hj => t.2.2.1 _ _ (by omega) (by omega)⟩
theorem RepC_ToC {h h' : aH} {k n : Nat} {sq wo : Nat → Nat} {L : Lw} (hk : isLake k) (t : ToCf h h' n sq wo) (hR : RepC h k L) : RepC h' k L := by
  unfold isLake at hk
  exact RepC_gA (fun c i _ _ => t.2.1 c i (by omega) (by omega)) (fun j => t.2.2.1 _ _ (by omega) (by omega)) hR
theorem RepM_ToM {h h' : aH} {n i : Nat} {sq wo : Nat → Nat} {L : Lw} (t : ToM h h' n i sq wo) (hR : RepM h L) : RepM h' L := RepM_gA (fun c i _ _ => t.2.1 c i (by omega) (by omega)) (fun j _ _ => t.2.2.1 _ _ (by omega) (by omega)) hR
theorem LC_ToC {h h' : aH} {l n : Nat} {sq wo : Nat → Nat} {F : LF} (hl : isLaw l) (t : ToCf h h' n sq wo) (hF : LC h l F) : LC h' l F := by
  unfold isLaw at hl
  exact LC_to (fun c _ _ i => t.2.1 c i (by omega) (by omega)) (t.2.2.1 _ _ (by omega) (by omega)) (t.2.2.1 _ _ (by omega) (by omega)) hF
theorem LM_ToM {h h' : aH} {n i : Nat} {sq wo : Nat → Nat} {F : LF} (t : ToM h h' n i sq wo) (hF : LM h F) : LM h' F := LM_to (fun c hc i => t.2.1 c i (by omega) (by omega)) (t.2.2.1 _ _ (by omega) (by omega)) hF
theorem tape_told {hc hm hc' hm' : aH} {tn n m i : Nat} {tb sq wo sq' wo' : Nat → Nat} (T : TapeR hc hm tn tb) (c : ToCf hc hc' n sq wo) (m : ToM hm hm' m i sq' wo') : TapeR hc' hm' 0 tb :=
  ⟨by omega, c.2.2.2.1, m.2.2.2.1, fun i hi => by rw [c.2.1 _ _ (by decide) (by decide), m.2.1 _ _ (by decide) (by decide)]; exact T.2.2.2 i hi⟩
theorem min40 {n : Nat} (h : n ≤ 40) : aMin (nI n) 40 = nI n := if_neg (fun z => absurd ((nI_ltI (a := 40) (by decide) (by omega)).mp z) (by omega))
theorem n2_mul (x : Nat) : (2 : Int32) * nI x = nI (2 * x) := by rw [show (2 : Int32) = nI 2 from rfl, pk_mul]
section Told
variable {h : aH} {l d k n : Nat} {L : Lw} {hn gn : Nat} {F : LF} {tb sq wo : Nat → Nat}
theorem ToC_put {h' : aH} {i : Nat} (t : ToC h h' n i sq wo) {v w : Int32} (ev : v = nI (sq i)) (ew : w = nI (wo i)) : ToC h (sA (sA h' 40 i v) 41 i w) n (i + 1) sq wo := by
  refine ⟨t.1, fun c j c1 c2 => by rw [gA_o c2, gA_o c1]; exact t.2.1 c j c1 c2, t.2.2.1, t.2.2.2.1, fun j hj => ?_⟩
  rw [gA_o (c2 := 40) (by decide)]
  by_cases z : j = i
  · subst z
    rw [gA_e, gA_e]
    exact ⟨ev, ew⟩
  · rw [gA_p z, gA_p z, gA_o (c2 := 41) (by decide)]
    exact t.2.2.2.2 j (by omega)
theorem ToC_end {h' : aH} (t : ToC h h' n n sq wo) : ToCf h (sI h' 37 1 0) n sq wo :=
  ⟨t.1, t.2.1, fun c j c1 c2 => by rw [gI_sI, if_neg c2]; exact t.2.2.1 c j c1, by rw [gI_sI, if_pos ⟨rfl, rfl⟩], by rw [gI_sI, if_neg (fun z => absurd z.1 (by decide))]; exact t.2.2.2.1, t.2.2.2.2⟩
theorem ToC_0 : ToC h (sI h 39 2 (nI n)) n 0 sq wo := ⟨rfl, fun _ _ _ _ => rfl, fun c j c1 => by rw [gI_sI, if_neg c1], by rw [gI_sI, if_pos ⟨rfl, rfl⟩], fun j hj => absurd hj (Nat.not_lt_zero _)⟩
theorem sp_readPairs (hL : LayC h l d) (ht : ∀ i, i < 220 → gA h 38 i = nI (tb i)) (hn : n ≤ 10) {Q : aH → Prop} (hq : ∀ h', ToCf h h' n (fun i => tb (2 * i)) (fun i => tb (2 * i + 1)) → Q h') : f_X9_readPairs SC 39 37 (nI n) h Q := by
  intro v ev h1 e1
  rw [min40 (by omega)] at ev
  subst ev
  have key := up_loop (N := n) (P := fun w i => ∀ h', ToC h h' n i (fun i => tb (2 * i)) (fun i => tb (2 * i + 1)) → f_X9_readPairs_12 SC 39 37 (nI n) Q w (nI i) h') ?_ ?_
  · exact ⟨n + 1, key h1 (by rw [e1]; exact ToC_0)⟩
  · intro h' t v ev
    rw [t.2.2.2.1] at ev
    subst ev
    exact aIf_t (nI_le (Nat.le_refl _) (by omega)) (fun h3 e3 => by rw [e3]; exact hq _ (ToC_end t))
  · intro w i hi n1 h' t v ev
    rw [t.2.2.2.1] at ev
    subst ev
    refine aIf_f (nI_ge hi (by omega)) ?_
    have hL' := LayC_2 t.1 hL
    have ht' : ∀ i, i < 220 → gA h' 38 i = nI (tb i) := fun i hi => (t.2.1 _ _ (by decide) (by decide)).trans (ht i hi)
    rw [n2_mul]
    refine sp_byteAt hL' ht' (by omega) ?_
    rw [c_39_0 hL', ca_40, vp_lt (show i < 40 by omega) (by decide), cl (by omega)]
    refine ⟨trivial, fun h2 e2 => ?_⟩
    have hL2 : LayC h2 l d := LayC_2 (by rw [e2]; rfl) hL'
    rw [nI_1]
    refine sp_byteAt hL2 (tb := tb) (fun j hj => by rw [e2, gA_o (by decide)]; exact ht' j hj) (by omega) ?_
    rw [c_39_1 hL2, ca_41, vp_lt (show i < 40 by omega) (by decide)]
    refine ⟨trivial, fun h3 e3 x ex => ?_⟩
    rw [nI_1] at ex
    subst ex
    refine n1 h3 ?_
    rw [e3, e2]
    exact ToC_put t rfl rfl
theorem sp_readSquares (hL : LayC h l d) (ht : ∀ i, i < 220 → gA h 38 i = nI (tb i)) (hn : n ≤ 40) {Q : aH → Prop} (hq : ∀ h', ToCf h h' n tb (fun _ => 0) → Q h') : f_X9_readSquares SC 39 37 (nI n) h Q := by
  intro v ev h1 e1
  rw [min40 (by omega)] at ev
  subst ev
  have key := up_loop (N := n) (P := fun w i => ∀ h', ToC h h' n i tb (fun _ => 0) → f_X9_readSquares_12 SC 39 37 (nI n) Q w (nI i) h') ?_ ?_
  · exact ⟨n + 1, key h1 (by rw [e1]; exact ToC_0)⟩
  · intro h' t v ev
    rw [t.2.2.2.1] at ev
    subst ev
    exact aIf_t (nI_le (Nat.le_refl _) (by omega)) (fun h3 e3 => by rw [e3]; exact hq _ (ToC_end t))
  · intro w i hi n1 h' t v ev
    rw [t.2.2.2.1] at ev
    subst ev
    refine aIf_f (nI_ge hi (by omega)) ?_
    have hL' := LayC_2 t.1 hL
    have ht' : ∀ i, i < 220 → gA h' 38 i = nI (tb i) := fun i hi => (t.2.1 _ _ (by decide) (by decide)).trans (ht i hi)
    refine sp_byteAt hL' ht' (by omega) ?_
    rw [c_39_0 hL', ca_40, vp_lt (show i < 40 by omega) (by decide), cl (by omega)]
    refine ⟨trivial, fun h2 e2 => ?_⟩
    have hL2 : LayC h2 l d := LayC_2 (by rw [e2]; rfl) hL'
    rw [c_39_1 hL2, ca_41, vp_lt (show i < 40 by omega) (by decide)]
    refine ⟨trivial, fun h3 e3 x ex => ?_⟩
    rw [nI_1] at ex
    subst ex
    refine n1 h3 ?_
    rw [e3, e2]
    exact ToC_put t rfl rfl
def twL (sq : Nat → Nat) (n : Nat) : Prop := ∃ i j, j < i ∧ i < n ∧ sq i = sq j
theorem sp_hasTwice (hL : LayC h l d) (e : gI h 39 2 = nI n) (hn : n ≤ 40) (h1n : 1 ≤ n) (hs : ∀ j, j < n → gA h 40 j = nI (sq j) ∧ sq j < 256) {Q : Int32 → aH → Prop} (h1 : twL sq n → Q 1 h) (h0 : ¬ twL sq n → Q 0 h) : f_X9_hasTwice SC 39 h Q := by
  have inner : ∀ (i : Nat) (K2 : Int32 → aH → Prop), i < n → ((∀ j, j < i → ¬ sq i = sq j) → K2 (nI (i + 1)) h) → ∀ w j, j + w = i → (∀ j', j' < j → ¬ sq i = sq j') → f_X9_hasTwice_12 SC 39 Q K2 (w + 1) (nI i) (nI j) h := by
    intro i K2 hi hK w
    induction w with
    | zero =>
      intro j hj hv
      refine aIf_t (nI_le (by omega) (by omega)) (fun x ex => ?_)
      rw [ex, nI_1]
      exact hK (fun j' hj' => hv j' (by omega))
    | succ w ih =>
      intro j hj hv
      refine aIf_f (nI_ge (by omega) (by omega)) ?_
      rw [c_39_0 hL, ca_40, vp_lt (show i < 40 by omega) (by decide), cl (by omega), (hs i hi).1]
      refine ⟨trivial, fun v ev => ?_⟩
      subst ev
      rw [ca_40, vp_lt (show j < 40 by omega) (by decide), cl (by omega), (hs j (by omega)).1]
      refine ⟨trivial, fun v ev => ?_⟩
      subst ev
      have q := nI_eq (a := sq i) (b := sq j) (by have := (hs i hi).2; omega) (by have := (hs j (by omega)).2; omega)
      refine aIf_i (fun c => ?_) (fun c => h1 ⟨i, j, by omega, hi, q.mp (Classical.not_not.mp c)⟩)
      intro x ex
      rw [nI_1] at ex
      subst ex
      refine ih (j + 1) (by omega) (fun j' hj' => ?_)
      rcases Nat.lt_or_ge j' j with z | z
      · exact hv j' z
      · rw [show j' = j by omega]; exact fun y => c (q.mpr y)
  have outer : ∀ w i, i + w = n → (∀ i' j, i' < i → j < i' → ¬ sq i' = sq j) → f_X9_hasTwice_2 SC 39 Q (w + 1) (nI i) h := by
    intro w
    induction w with
    | zero =>
      intro i hi hv v ev
      rw [e] at ev
      subst ev
      exact aIf_t (nI_le (by omega) (by omega)) (h0 (fun ⟨i', j, y1, y2, y3⟩ => hv i' j (by omega) y1 y3))
    | succ w ih =>
      intro i hi hv v ev
      rw [e] at ev
      subst ev
      refine aIf_f (nI_ge (by omega) (by omega)) ⟨i + 1, ?_⟩
      refine inner i _ (by omega) (fun y => ih (i + 1) (by omega) (fun i' j a b => ?_)) i 0 (by omega) (fun j' hj' => absurd hj' (Nat.not_lt_zero _))
      rcases Nat.lt_or_ge i' i with z | z
      · exact hv i' j z b
      · have : i' = i := by omega
        subst this
        exact y j b
  exact ⟨n - 1 + 1, outer (n - 1) 1 (by omega) (fun i' j a b => by omega)⟩
theorem sr_isTwice (hL : LayM h) (e : gI h 0 54 = nI n) (hn : n ≤ 40) (hs : ∀ j, j < n → gA h 34 j = nI (sq j) ∧ sq j < 256) {Q : Int32 → aH → Prop} (h1 : twL sq n → Q 1 h) (h0 : ¬ twL sq n → Q 0 h) : f_X11_isTwice SM 0 h Q := by
  have inner : ∀ (i : Nat) (K2 : Int32 → aH → Prop), i < n → ((∀ j, j < i → ¬ sq i = sq j) → K2 (nI (i + 1)) h) → ∀ w j, j + w = i → (∀ j', j' < j → ¬ sq i = sq j') → f_X11_isTwice_12 SM 0 Q K2 (w + 1) (nI i) (nI j) h := by
    intro i K2 hi hK w
    induction w with
    | zero =>
      intro j hj hv
      refine aIf_t (nI_le (by omega) (by omega)) (fun x ex => ?_)
      rw [ex, nI_1]
      exact hK (fun j' hj' => hv j' (by omega))
    | succ w ih =>
      intro j hj hv
      refine aIf_f (nI_ge (by omega) (by omega)) ?_
      rw [m_52 hL, mi_34, vp_lt (show j < 40 by omega) (by decide), cl (by omega), (hs j (by omega)).1]
      refine ⟨trivial, fun v ev => ?_⟩
      subst ev
      rw [mi_34, vp_lt (show i < 40 by omega) (by decide), cl (by omega), (hs i hi).1]
      refine ⟨trivial, fun v ev => ?_⟩
      subst ev
      have q := nI_eq (a := sq j) (b := sq i) (by have := (hs j (by omega)).2; omega) (by have := (hs i hi).2; omega)
      refine aIf_i (fun c => ?_) (fun c => h1 ⟨i, j, by omega, hi, (q.mp (Classical.not_not.mp c)).symm⟩)
      intro x ex
      rw [nI_1] at ex
      subst ex
      refine ih (j + 1) (by omega) (fun j' hj' => ?_)
      rcases Nat.lt_or_ge j' j with z | z
      · exact hv j' z
      · rw [show j' = j by omega]; exact fun y => c (q.mpr y.symm)
  have outer : ∀ w i, i + w = n → (∀ i' j, i' < i → j < i' → ¬ sq i' = sq j) → f_X11_isTwice_2 SM 0 Q (w + 1) (nI i) h := by
    intro w
    induction w with
    | zero =>
      intro i hi hv v ev
      rw [e] at ev
      subst ev
      exact aIf_t (nI_le (by omega) (by omega)) (h0 (fun ⟨i', j, y1, y2, y3⟩ => hv i' j (by omega) y1 y3))
    | succ w ih =>
      intro i hi hv v ev
      rw [e] at ev
      subst ev
      refine aIf_f (nI_ge (by omega) (by omega)) ⟨i + 1, ?_⟩
      refine inner i _ (by omega) (fun y => ih (i + 1) (by omega) (fun i' j a b => ?_)) i 0 (by omega) (fun j' hj' => absurd hj' (Nat.not_lt_zero _))
      rcases Nat.lt_or_ge i' i with z | z
      · exact hv i' j z b
      · have : i' = i := by omega
        subst this
        exact y j b
  exact ⟨n + 1, outer n 0 (by omega) (fun i' j a b => by omega)⟩
theorem sp_allFirm (hk : isLake k) (hL : LayC h l d) (hR : RepC h k L) (e : gI h 39 2 = nI n) (hn : n ≤ 40) (hs : ∀ j, j < n → gA h 40 j = nI (sq j) ∧ sq j < 256) {Q : Int32 → aH → Prop} (h1 : (∀ i, i < n → L 1 (sq i) = (-1)) → Q 1 h) (h0 : ¬ (∀ i, i < n → L 1 (sq i) = (-1)) → Q 0 h) : f_X9_allFirm SC 39 k h Q := by
  have key := up_loop (N := n) (P := fun w i => (∀ j, j < i → L 1 (sq j) = (-1)) → f_X9_allFirm_2 SC 39 k Q w (nI i) h) ?_ ?_
  · exact ⟨n + 1, key (fun j hj => absurd hj (Nat.not_lt_zero _))⟩
  · intro hv v ev
    rw [e] at ev
    subst ev
    exact aIf_t (nI_le (Nat.le_refl _) (by omega)) (h1 hv)
  · intro w i hi n1 hv v ev
    rw [e] at ev
    subst ev
    refine aIf_f (nI_ge hi (by omega)) ?_
    rw [c_39_0 hL, ca_40, vp_lt (show i < 40 by omega) (by decide), cl (by omega), (hs i hi).1]
    refine ⟨trivial, fun v ev => ?_⟩
    subst ev
    refine sp_isFirm hk hL hR (hs i hi).2 (fun c => aIf_t (by decide) ?_) (fun c => aIf_f (fun z => z rfl) (h0 (fun z => c (z i hi))))
    intro x ex
    rw [nI_1] at ex
    subst ex
    refine n1 (fun j hj => ?_)
    rcases Nat.lt_or_ge j i with z | z
    · exact hv j z
    · rw [show j = i by omega]; exact c
theorem ToM_put {h' : aH} {i : Nat} (t : ToM h h' n i sq wo) {v w : Int32} (ev : v = nI (sq i)) (ew : w = nI (wo i)) : ToM h (sA (sA h' 34 i v) 35 i w) n (i + 1) sq wo := by
  refine ⟨t.1, fun c j c1 c2 => by rw [gA_o c2, gA_o c1]; exact t.2.1 c j c1 c2, t.2.2.1, t.2.2.2.1, t.2.2.2.2.1, fun j hj => ?_⟩
  rw [gA_o (c2 := 34) (by decide)]
  by_cases z : j = i
  · subst z
    rw [gA_e, gA_e]
    exact ⟨ev, ew⟩
  · rw [gA_p z, gA_p z, gA_o (c2 := 35) (by decide)]
    exact t.2.2.2.2.2 j (by omega)
theorem ToM_0 : ToM h (sI (sI h 0 1 0) 0 54 (nI n)) n 0 sq wo := ⟨rfl, fun _ _ _ _ => rfl, fun c j c1 c2 => by rw [gI_sI, if_neg c2, gI_sI, if_neg c1], by rw [gI_sI, if_neg (fun z => absurd z.2 (by decide)), gI_sI, if_pos ⟨rfl, rfl⟩], by rw [gI_sI, if_pos ⟨rfl, rfl⟩], fun j hj => absurd hj (Nat.not_lt_zero _)⟩
theorem sr_takesTwos (hL : LayM h) (ht : ∀ i, i < 220 → gA h 1 i &&& 255 = nI (tb i) ∧ tb i < 256) (hn : n ≤ 10) {Q : Int32 → aH → Prop} (hq1 : ∀ h', ToM h h' n n (fun i => tb (2 * i)) (fun i => tb (2 * i + 1)) → twL (fun i => tb (2 * i)) n → Q 1 h') (hq0 : ∀ h', ToM h h' n n (fun i => tb (2 * i)) (fun i => tb (2 * i + 1)) → ¬ twL (fun i => tb (2 * i)) n → Q 0 h') : f_X11_takesTwos SM 0 (nI n) h Q := by
  intro h1 e1 h2 e2
  have key := up_loop (N := n) (P := fun w i => ∀ h', ToM h h' n i (fun i => tb (2 * i)) (fun i => tb (2 * i + 1)) → f_X11_takesTwos_12 SM 0 (nI n) Q w (nI i) h') ?_ ?_
  · exact ⟨n + 1, key h2 (by rw [e2, e1]; exact ToM_0)⟩
  · intro h' t
    refine aIf_t (nI_le (Nat.le_refl _) (by omega)) ?_
    exact sr_isTwice (sq := fun i => tb (2 * i)) (LayM_2 t.1 hL) t.2.2.2.2.1 (by omega) (fun j hj => ⟨(t.2.2.2.2.2 j hj).1, (ht (2 * j) (by omega)).2⟩) (fun z => ⟨aB1, hq1 h' t z⟩) (fun z => ⟨aB0, hq0 h' t z⟩)
  · intro w i hi n1 h' t
    refine aIf_f (nI_ge hi (by omega)) ?_
    have hL' := LayM_2 t.1 hL
    have ht' : ∀ i, i < 220 → gA h' 1 i &&& 255 = nI (tb i) := fun i hi => by rw [t.2.1 _ _ (by decide) (by decide)]; exact (ht i hi).1
    rw [n2_mul]
    refine sr_byteAt hL' ht' (by omega) ?_
    rw [m_52 hL', mi_34, vp_lt (show i < 40 by omega) (by decide), cl (by omega)]
    refine ⟨trivial, fun h2 e2 => ?_⟩
    have hL2 : LayM h2 := LayM_2 (by rw [e2]; rfl) hL'
    rw [nI_1]
    refine sr_byteAt hL2 (tb := tb) (fun j hj => by rw [e2, gA_o (by decide)]; exact ht' j hj) (by omega) ?_
    rw [m_53 hL2, mi_35, vp_lt (show i < 10 by omega) (by decide)]
    refine ⟨trivial, fun h3 e3 x ex => ?_⟩
    rw [nI_1] at ex
    subst ex
    refine n1 h3 ?_
    rw [e3, e2]
    exact ToM_put t rfl rfl
end Told
