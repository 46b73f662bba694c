/-! ===== what broke, and what is raised again ===== -/
def cntB (p : Nat → Bool) : Nat → Nat
  | 0 => 0
  | n + 1 => cntB p n + if p n = true then 1 else 0
theorem cntB_same {p q : Nat → Bool} : ∀ n, (∀ i, i < n → q i = p i) → cntB q n = cntB p n := by
  intro n
  induction n with
  | zero => intro _; rfl
  | succ n ih =>
    intro h
    show cntB q n + (if q n = true then 1 else 0) = cntB p n + if p n = true then 1 else 0
    rw [ih (fun i hi => h i (by omega)), h n (by omega)]
theorem cntB_up {p q : Nat → Bool} {s : Nat} (hp : p s = false) (hq : q s = true) : ∀ n, s < n → (∀ i, i ≠ s → q i = p i) → cntB q n = cntB p n + 1 := by
  intro n
  induction n with
  | zero => intro h; exact absurd h (Nat.not_lt_zero _)
  | succ n ih =>
    intro hs h
    show cntB q n + (if q n = true then 1 else 0) = cntB p n + (if p n = true then 1 else 0) + 1
    by_cases e : n = s
    · subst e
      rw [cntB_same n (fun i hi => h i (by omega)), hp, hq]
      rfl
    · rw [ih (by omega) h, h n e]
      omega
def nwB (L X : Lw) (s : Nat) : Bool := decide (X 1 s = (-2)) && !decide (L 1 s = (-2))
def nwN (L X : Lw) : Nat := cntB (nwB L X) 256
def Mono (L X : Lw) : Prop := ∀ s, L 1 s = (-2) → X 1 s = (-2)
theorem Mono_brk {L X : Lw} {gn s : Nat} (h : Mono L X) : Mono L (brk2 gn X s) := by
  intro t ht
  rw [brk_1]
  by_cases c : t = s ∧ X 1 s = (-1)
  · rw [if_pos c]
  · rw [if_neg c]; exact h t ht
theorem nw_brk {L X : Lw} {gn s : Nat} (h : Mono L X) (hs : s < 256) : nwN L (brk2 gn X s) = nwN L X + if X 1 s = (-1) then 1 else 0 := by
  by_cases c : X 1 s = (-1)
  · rw [if_pos c]
    have nl : ¬ L 1 s = (-2) := fun z => absurd ((h s z).symm.trans c) (by decide)
    refine cntB_up (s := s) ?_ ?_ 256 hs (fun i hi => ?_)
    · unfold nwB
      rw [c]
      rfl
    · unfold nwB
      rw [brk_1, if_pos ⟨rfl, c⟩, decide_eq_false nl]
      rfl
    · unfold nwB
      rw [brk_1, if_neg (fun z => hi z.1)]
  · rw [if_neg c]
    unfold brk2
    rw [if_neg c]
    exact (Nat.add_zero _).symm
theorem nw_bkF {L : Lw} {gn : Nat} : ∀ (l : List Nat), (∀ s, s ∈ l → s < 256) → ∀ p : Lw × Nat, Mono L p.1 → nwN L (bkF gn l p).1 + p.2 = nwN L p.1 + (bkF gn l p).2 ∧ Mono L (bkF gn l p).1 := by
  intro l
  induction l with
  | nil => intro _ p h; exact ⟨rfl, h⟩
  | cons s l ih =>
    intro hl p h
    obtain ⟨i1, i2⟩ := ih (fun s hs => hl s (List.mem_cons_of_mem _ hs)) (bkp gn p s) (Mono_brk h)
    refine ⟨?_, i2⟩
    have e := nw_brk (gn := gn) h (hl s List.mem_cons_self)
    have i1 : nwN L (bkF gn l (bkp gn p s)).1 + (p.2 + if p.1 1 s = (-1) then 1 else 0) = nwN L (brk2 gn p.1 s) + (bkF gn l (bkp gn p s)).2 := i1
    show nwN L (bkF gn l (bkp gn p s)).1 + p.2 = nwN L p.1 + (bkF gn l (bkp gn p s)).2
    omega
theorem nw_stl {F : LF} {L : Lw} {hn gn : Nat} : ∀ (r : Nat) (X : Lw), WF X hn gn → Mono L X → nwN L (stl F gn r X).1 = nwN L X + (stl F gn r X).2 := by
  intro r
  induction r with
  | zero => intro X _ _; exact (Nat.add_zero _).symm
  | succ r ih =>
    intro X w h
    by_cases c : ovC F X gn gn = []
    · rw [stl_e c]; exact (Nat.add_zero _).symm
    · rw [stl_s c]
      obtain ⟨b1, b2⟩ := nw_bkF (L := L) (ovC F X gn gn) (ovC_lt w (Nat.le_refl _)) (X, 0) h
      rw [(ov_eq gn).2] at b1
      have i := ih (bksL F gn X) (WF_bks w) b2
      have b1 : nwN L (bksL F gn X) + 0 = nwN L X + (ovC F X gn gn).length := b1
      show nwN L (stl F gn r (bksL F gn X)).1 = nwN L X + ((ovC F X gn gn).length + (stl F gn r (bksL F gn X)).2)
      omega
theorem nw_self {L : Lw} : nwN L L = 0 := by
  have : ∀ n, cntB (nwB L L) n = 0 := by
    intro n
    induction n with
    | zero => rfl
    | succ n ih =>
      show cntB (nwB L L) n + (if nwB L L n = true then 1 else 0) = 0
      rw [ih]
      unfold nwB
      by_cases c : L 1 n = (-2)
      · rw [decide_eq_true c]; rfl
      · rw [decide_eq_false c]; rfl
  exact this 256
/-- X came of L by a break at s and what followed -/
def NB (L : Lw) (s gn : Nat) (X : Lw) : Prop := (∀ f i, f ≠ 1 → f ≠ 7 → X f i = L f i) ∧ (∀ g, gn ≤ g → X 7 g = L 7 g) ∧ (∀ g, X 7 g = (-2) ∨ X 7 g = L 7 g) ∧ ∀ t, X 1 t = L 1 t ∨ (X 1 t = (-2) ∧ L 1 t = (-1) ∧ t < 256 ∧ (t = s ∨ ∃ g, g < gn ∧ L 7 g = nI t))
theorem NB_brk {L X : Lw} {s gn t : Nat} (h : NB L s gn X) (h256 : t < 256) (ht : t = s ∨ ∃ g, g < gn ∧ L 7 g = nI t) : NB L s gn (brk2 gn X t) := by
  obtain ⟨h1, h2, h3, h4⟩ := h
  refine ⟨fun f i a b => by rw [brk_o a b]; exact h1 f i a b, fun g hg => ?_, fun g => ?_, fun u => ?_⟩
  · rw [brk_7, if_neg (fun z => by omega)]; exact h2 g hg
  · rw [brk_7]
    by_cases c : X 1 t = (-1) ∧ g < gn ∧ X 7 g = nI t
    · rw [if_pos c]; exact Or.inl rfl
    · rw [if_neg c]; exact h3 g
  · rw [brk_1]
    by_cases c : u = t ∧ X 1 t = (-1)
    · rw [if_pos c]
      refine Or.inr ⟨rfl, ?_, by rw [c.1]; exact h256, by rw [c.1]; exact ht⟩
      rcases h4 t with z | z
      · rw [c.1, ← z]; exact c.2
      · exact absurd (z.1.symm.trans c.2) (by decide)
    · rw [if_neg c]; exact h4 u
theorem NB_bkF {L : Lw} {s gn : Nat} : ∀ (l : List Nat), (∀ t, t ∈ l → t < 256 ∧ ∃ g, g < gn ∧ L 7 g = nI t) → ∀ p : Lw × Nat, NB L s gn p.1 → NB L s gn (bkF gn l p).1 := by
  intro l
  induction l with
  | nil => intro _ p h; exact h
  | cons a l ih => intro hl p h; exact ih (fun t ht => hl t (List.mem_cons_of_mem _ ht)) (bkp gn p a) (NB_brk h (hl a List.mem_cons_self).1 (Or.inr (hl a List.mem_cons_self).2))
theorem NB_stl {F : LF} {L : Lw} {hn s gn : Nat} : ∀ (r : Nat) (X : Lw), WF X hn gn → NB L s gn X → NB L s gn (stl F gn r X).1 := by
  intro r
  induction r with
  | zero => intro X _ h; exact h
  | succ r ih =>
    intro X w h
    by_cases c : ovC F X gn gn = []
    · rw [stl_e c]; exact h
    · rw [stl_s c]
      refine ih (bksL F gn X) (WF_bks w) (NB_bkF _ (fun t ht => ?_) (X, 0) h)
      refine ⟨ovC_lt w (Nat.le_refl _) t ht, ?_⟩
      obtain ⟨-, g, a, b, e⟩ := (ov_P gn).1 t ht
      have q := (sqG_of w a b).2.1
      rw [e] at q
      rcases h.2.2.1 g with z | z
      · exact absurd z b
      · exact ⟨g, a, by rw [← z]; exact q⟩
theorem NB_self {L : Lw} {s gn : Nat} : NB L s gn L := ⟨fun _ _ _ _ => rfl, fun _ _ => rfl, fun _ => Or.inr rfl, fun _ => Or.inl rfl⟩
/-- as far as i GROUPS it is raised again -/
def Rz (L : Lw) (gn i : Nat) (X : Lw) : Prop := (∀ f j, f ≠ 1 → f ≠ 7 → X f j = L f j) ∧ (∀ g, g < i ∨ gn ≤ g → X 7 g = L 7 g) ∧ ∀ t, X 1 t = L 1 t ∨ (X 1 t = (-2) ∧ L 1 t = (-1) ∧ t < 256 ∧ ∃ g, i ≤ g ∧ g < gn ∧ L 7 g = nI t)
theorem Rz_end {L X : Lw} {gn : Nat} (h : Rz L gn gn X) : X = L := by
  funext f i
  by_cases c1 : f = 1
  · rw [c1]
    rcases h.2.2 i with z | ⟨-, -, -, g, a, b, -⟩
    · exact z
    · omega
  · by_cases c7 : f = 7
    · rw [c7]
      exact h.2.1 i (by omega)
    · exact h.1 f i c1 c7
theorem Rz_0 {L X : Lw} {s gn : Nat} (h : NB L s gn X) (h1 : L 1 s = (-1)) : Rz L gn 0 (mendL X s) := by
  obtain ⟨a1, a2, a3, a4⟩ := h
  refine ⟨fun f j b c => (if_neg (fun z => b z.1)).trans (a1 f j b c), fun g hg => (if_neg (fun z => absurd z.1 (by decide))).trans (a2 g (by omega)), fun t => ?_⟩
  by_cases e : t = s
  · subst e
    refine Or.inl ?_
    rcases a4 t with z | z
    · have : mendL X t 1 t = X 1 t := if_neg (fun y => absurd (y.2.2.symm.trans (z.trans h1)) (by decide))
      rw [this, z]
    · have : mendL X t 1 t = (-1) := if_pos ⟨rfl, rfl, z.1⟩
      rw [this, h1]
  · have : mendL X s 1 t = X 1 t := if_neg (fun y => e y.2.1)
    rw [this]
    rcases a4 t with z | ⟨z1, z2, z0, z3⟩
    · exact Or.inl z
    · obtain ⟨g, b, c⟩ := z3.resolve_left e
      exact Or.inr ⟨z1, z2, z0, g, Nat.zero_le _, b, c⟩
theorem Rz_s1 {L X : Lw} {gn i : Nat} (h : Rz L gn i X) (h7 : L 7 i = (-2)) : Rz L gn (i + 1) (uL X 7 i (L 7 i)) := by
  obtain ⟨a1, a2, a3⟩ := h
  refine ⟨fun f j b c => (uL_n (fun z => c z.1)).trans (a1 f j b c), fun g hg => ?_, fun t => ?_⟩
  · by_cases e : g = i
    · rw [e, uL_s]
    · rw [uL_n (fun z => e z.2)]; exact a2 g (by omega)
  · rw [uL_n (fun z => absurd z.1 (by decide))]
    rcases a3 t with z | ⟨z1, z2, z0, g, b, c, d⟩
    · exact Or.inl z
    · refine Or.inr ⟨z1, z2, z0, g, ?_, c, d⟩
      rcases Nat.lt_or_ge i g with y | y
      · exact y
      · have : g = i := by omega
        rw [this, h7] at d
        exact absurd d.symm (nI_neg2 (by omega))
theorem Rz_s2 {L X : Lw} {hn gn i : Nat} (w : WF L hn gn) (h : Rz L gn i X) (hi : i < gn) (h7 : ¬ L 7 i = (-2)) : Rz L gn (i + 1) (mendL (uL X 7 i (L 7 i)) (sqG L i)) := by
  obtain ⟨a1, a2, a3⟩ := h
  obtain ⟨q1, q2, q3⟩ := sqG_of w hi h7
  have u1 : ∀ t, uL X 7 i (L 7 i) 1 t = X 1 t := fun t => uL_n (fun z => absurd z.1 (by decide))
  refine ⟨fun f j b c => ((if_neg (fun z => b z.1)).trans (uL_n (fun z => c z.1))).trans (a1 f j b c), fun g hg => ?_, fun t => ?_⟩
  · have e0 : mendL (uL X 7 i (L 7 i)) (sqG L i) 7 g = uL X 7 i (L 7 i) 7 g := if_neg (fun z => absurd z.1 (by decide))
    rw [e0]
    by_cases e : g = i
    · rw [e, uL_s]
    · rw [uL_n (fun z => e z.2)]; exact a2 g (by omega)
  · by_cases e : t = sqG L i
    · rw [e]
      refine Or.inl ?_
      rcases a3 (sqG L i) with z | z
      · have : mendL (uL X 7 i (L 7 i)) (sqG L i) 1 (sqG L i) = uL X 7 i (L 7 i) 1 (sqG L i) := if_neg (fun y => by
          have := y.2.2
          rw [u1, z, q3] at this
          exact absurd this (by decide))
        rw [this, u1, z]
      · have : mendL (uL X 7 i (L 7 i)) (sqG L i) 1 (sqG L i) = (-1) := if_pos ⟨rfl, rfl, by rw [u1]; exact z.1⟩
        rw [this, q3]
    · have : mendL (uL X 7 i (L 7 i)) (sqG L i) 1 t = uL X 7 i (L 7 i) 1 t := if_neg (fun y => e y.2.1)
      rw [this, u1]
      rcases a3 t with z | ⟨z1, z2, z0, g, b, c, d⟩
      · exact Or.inl z
      · refine Or.inr ⟨z1, z2, z0, g, ?_, c, d⟩
        rcases Nat.lt_or_ge i g with y | y
        · exact y
        · exfalso
          have gi : g = i := by omega
          rw [gi] at d
          exact e ((nI_eq (by omega) (by omega)).mp (d.symm.trans q2))
section Began
variable {h : aH} {l d k : Nat} {L X : Lw} {hn gn : Nat} {F : LF}
theorem sp_raise (hL : LayC h l d) (hR : RepC h 25 X) (h1R : RepC h 1 L) (w : WF L hn gn) {s : Nat} (hs : s < 256) (h1 : L 1 s = (-1)) (hN : NB L s gn X) {Q : aH → Prop} (hq : ∀ h', FrK 25 h h' → RepC h' 25 L → Q h') : f_X2_raise SC 25 (nI s) 1 h Q := by
  have hk : isLake 25 := Or.inr (Or.inr rfl)
  have hk1 : isLake 1 := Or.inl rfl
  have hgn := w.2.1
  unfold f_X2_raise
  refine sp_mend2 hk hL hR hs (fun h1' f1 r1 => ?_)
  have key := up_loop (N := gn) (P := fun n i => ∀ h' X', FrK 25 h h' → RepC h' 25 X' → Rz L gn i X' → f_X2_raise_7 SC 25 (nI s) 1 Q n (nI i) h') ?_ ?_
  · exact ⟨gn + 1, key h1' _ f1 r1 (Rz_0 hN h1)⟩
  · intro h' X' f' r' z' v ev
    rw [r'.2.2.2.2.1, z'.1 9 1 (by decide) (by decide), w.2.2.2.1] at ev
    subst ev
    refine aIf_t (nI_le (Nat.le_refl _) (by omega)) (hq h' f' ?_)
    rw [← Rz_end z']
    exact r'
  · intro n i hi n1 h' X' f' r' z' v ev
    rw [r'.2.2.2.2.1, z'.1 9 1 (by decide) (by decide), w.2.2.2.1] at ev
    subst ev
    have l' := LayC_K f' hL
    have b' := RepC_K f' (Or.inl (by decide)) h1R
    refine aIf_f (nI_ge hi (by omega)) ?_
    rw [lk_10 hk1 l', li_10 hk1, vp_lt (show i < 8 by omega) (by decide), cl (by omega), (b'.2.2.1 i (by omega)).1]
    refine ⟨trivial, fun v ev => ?_⟩
    subst ev
    rw [lk_10 hk l', li_10 hk, vp_lt (show i < 8 by omega) (by decide)]
    refine ⟨trivial, fun h6 e6 => ?_⟩
    have f6 : FrK 25 h' h6 := by rw [e6]; exact FrK_sA (by decide) (by decide)
    have l6 := LayC_K f6 l'
    have r6 : RepC h6 25 (uL X' 7 i (L 7 i)) := by rw [e6]; exact rep_sq r'
    rw [lk_10 hk l6, li_10 hk, vp_lt (show i < 8 by omega) (by decide), (r6.2.2.1 i (by omega)).1, uL_s]
    refine ⟨trivial, fun v ev => ?_⟩
    subst ev
    refine aIf_i (fun c => ?_) (fun c => ?_)
    · intro x ex
      rw [nI_1] at ex
      subst ex
      exact n1 h6 _ (FrK_tr f' f6) r6 (Rz_s1 z' c)
    · refine ⟨trivial, fun v ev => ?_⟩
      obtain ⟨q1, q2, q3⟩ := sqG_of w hi c
      rw [q2] at ev
      subst ev
      refine sp_mend2 hk l6 r6 q1 (fun h7 f7 r7 => ?_)
      intro x ex
      rw [nI_1] at ex
      subst ex
      exact n1 h7 _ (FrK_tr f' (FrK_tr f6 f7)) r7 (Rz_s2 w z' hi c)
def allB (X : Lw) (sq : Nat → Nat) : Nat → Bool
  | 0 => true
  | j + 1 => allB X sq j && decide (X 1 (sq j) = (-2))
theorem allB_iff {sq : Nat → Nat} : ∀ n, allB X sq n = true ↔ ∀ j, j < n → X 1 (sq j) = (-2) := by
  intro n
  induction n with
  | zero => exact ⟨fun _ j hj => absurd hj (Nat.not_lt_zero _), fun _ => rfl⟩
  | succ n ih =>
    show (allB X sq n && decide (X 1 (sq n) = (-2))) = true ↔ _
    rw [Bool.and_eq_true, ih, decide_eq_true_iff]
    constructor
    · intro z j hj
      rcases Nat.lt_or_ge j n with y | y
      · exact z.1 j y
      · rw [show j = n by omega]; exact z.2
    · intro z
      exact ⟨fun j hj => z j (by omega), z n (by omega)⟩
def fellL (F : LF) (gn : Nat) (L : Lw) (s : Nat) : Lw := (stl F gn 8 (brk2 gn L s)).1
def gdB (F : LF) (gn : Nat) (L : Lw) (sq : Nat → Nat) (n i : Nat) : Bool := decide (nI (nwN L (fellL F gn L (sq i))) = nI n) && allB (fellL F gn L (sq i)) sq n
theorem WF_fell (w : WF L hn gn) {s : Nat} (hs : s < 256) : WF (fellL F gn L s) hn gn := WF_stl 8 _ (WF_brk w hs)
theorem NB_fell (w : WF L hn gn) {s : Nat} (hs : s < 256) : NB L s gn (fellL F gn L s) := NB_stl 8 _ (WF_brk w hs) (NB_brk NB_self hs (Or.inl rfl))
theorem nw_fell (w : WF L hn gn) {s : Nat} (hs : s < 256) (h1 : L 1 s = (-1)) : nwN L (fellL F gn L s) = 1 + (stl F gn 8 (brk2 gn L s)).2 := by
  have m : Mono L L := fun _ z => z
  have e := nw_stl (F := F) (L := L) 8 (brk2 gn L s) (WF_brk w hs) (Mono_brk m)
  have e2 := nw_brk (gn := gn) m hs
  rw [if_pos h1, nw_self] at e2
  unfold fellL
  omega
theorem sp_allBroken (hk : isLake k) (hL : LayC h l d) (hR : RepC h k X) {n : Nat} {sq : Nat → Nat} (e : gI h 39 2 = nI n) (hn : n ≤ 40) (hs : ∀ j, j < n → gA h 40 j = nI (sq j) ∧ sq j < 256) {Q : Int32 → aH → Prop} (h1 : allB X sq n = true → Q 1 h) (h0 : ¬ allB X sq n = true → Q 0 h) : f_X9_allBroken SC 39 k h Q := by
  rw [allB_iff] at h1 h0
  have key := up_loop (N := n) (P := fun w i => (∀ j, j < i → X 1 (sq j) = (-2)) → f_X9_allBroken_2 SC 39 k Q w (nI i) h) ?_ ?_
  · exact ⟨n + 1, key (fun j hj => absurd hj (Nat.not_lt_zero _))⟩
  · intro hv v ev
    rw [e] at ev
    subst ev
    exact aIf_t (nI_le (Nat.le_refl _) (by omega)) (h1 hv)
  · intro w i hi n1 hv v ev
    rw [e] at ev
    subst ev
    refine aIf_f (nI_ge hi (by omega)) ?_
    rw [c_39_0 hL, ca_40, vp_lt (show i < 40 by omega) (by decide), cl (by omega), (hs i hi).1]
    refine ⟨trivial, fun v ev => ?_⟩
    subst ev
    refine sp_isBroken hk hL hR (hs i hi).2 (fun c => aIf_t (by decide) ?_) (fun c => aIf_f (fun z => z rfl) (h0 (fun z => c (z i hi))))
    intro x ex
    rw [nI_1] at ex
    subst ex
    refine n1 (fun j hj => ?_)
    rcases Nat.lt_or_ge j i with z | z
    · exact hv j z
    · rw [show j = i by omega]; exact c
theorem sp_fellsJust (hL : LayC h l d) (hR : RepC h 25 L) (w : WF L hn gn) (hF : LC h l F) {n i : Nat} {sq : Nat → Nat} (e : gI h 39 2 = nI n) (hn : n ≤ 40) (hs : ∀ j, j < n → gA h 40 j = nI (sq j) ∧ sq j < 256) (hi : i < n) (hf : L 1 (sq i) = (-1)) {Q : Int32 → aH → Prop} (h1 : ∀ h', gdB F gn L sq n i = true → FX 25 h h' → RepC h' 25 (fellL F gn L (sq i)) → Q 1 h') (h0 : ∀ h', ¬ gdB F gn L sq n i = true → FX 25 h h' → RepC h' 25 (fellL F gn L (sq i)) → Q 0 h') : f_X5_fellsJust SC 42 25 (nI (sq i)) 39 h Q := by
  have hk : isLake 25 := Or.inr (Or.inr rfl)
  have hgn := w.2.1
  have hl := lay_isLaw hL
  have hsi := (hs i hi).2
  unfold f_X5_fellsJust
  refine sp_brk hk hL hR hgn (WF_91 w) hsi (fun h2 f2 r2 => ?_)
  have l2 := LayC_K f2 hL
  have w2 := WF_brk (gn := gn) w hsi
  refine sp_settleAll hk l2 r2 w2 (LC_FX hk hl (FX_K f2) hF) (fun h3 f3 r3 => ?_)
  have fa := FX_tr (FX_K f2) f3
  have l3 := LayC_2 fa.1 hL
  intro x ex v ev
  have e3 : gI h3 39 2 = nI n := (fa.2.2 _ _ (by decide) (by decide)).trans e
  rw [e3] at ev
  subst ev
  have ec : (1 : Int32) + nI (stl F gn 8 (brk2 gn L (sq i))).2 = nI (nwN L (fellL F gn L (sq i))) := by
    rw [nw_fell w hsi hf, show (1 : Int32) = nI 1 from rfl, nI_add]
  rw [ec] at ex
  subst ex
  unfold gdB at h1 h0
  refine aIf_i (fun c => h0 h3 ?_ fa r3) (fun c => ?_)
  · rw [decide_eq_false c]; exact fun z => by cases z
  · have c := Classical.not_not.mp c
    rw [decide_eq_true c, Bool.true_and] at h1 h0
    refine sp_allBroken hk l3 r3 e3 hn (fun j hj => by rw [fa.2.1 _ _ (by decide) (by decide)]; exact hs j hj) (fun y => aIf_f (by decide) (h1 h3 y fa r3)) (fun y => aIf_t rfl (h0 h3 y fa r3))
theorem sr_brokeJust (hL : LayM h) (hM : RepM h X) (ha : AS h L) {n : Nat} {sq : Nat → Nat} (hn : n ≤ 40) (hs : ∀ j, j < n → gA h 34 j = nI (sq j) ∧ sq j < 256) {Q : Int32 → aH → Prop} (h1 : (decide (nI (nwN L X) = nI n) && allB X sq n) = true → Q 1 h) (h0 : ¬ (decide (nI (nwN L X) = nI n) && allB X sq n) = true → Q 0 h) : f_X11_brokeJust SM 0 (nI n) h Q := by
  have key := up_loop (N := 256) (P := fun w i => f_X11_brokeJust_4 SM 0 (nI n) Q w (nI (cntB (nwB L X) i)) (nI i) h) ?_ ?_
  · exact ⟨257, key⟩
  · refine aIf_t (by decide) ?_
    refine aIf_i (fun c => ?_) (fun c => h0 ?_)
    · have c : nI (nwN L X) = nI n := c
      rw [decide_eq_true c, Bool.true_and, allB_iff] at h1 h0
      have key2 := up_loop (N := n) (P := fun w i => (∀ j, j < i → X 1 (sq j) = (-2)) → f_X11_brokeJust_52 SM 0 (nI n) Q w (nI i) h) ?_ ?_
      · exact ⟨n + 1, key2 (fun j hj => absurd hj (Nat.not_lt_zero _))⟩
      · intro hv
        exact aIf_t (nI_le (Nat.le_refl _) (by omega)) (h1 hv)
      · intro w i hi n1 hv
        refine aIf_f (nI_ge hi (by omega)) ?_
        rw [m_52 hL, mi_34, vp_lt (show i < 40 by omega) (by decide), cl (by omega), (hs i hi).1]
        refine ⟨trivial, fun v ev => ?_⟩
        subst ev
        have hsi := (hs i hi).2
        rw [m_7 hL, mi_3, vp_lt hsi (by decide), cl (by omega), (hM.1 _ hsi).2.1]
        refine ⟨trivial, fun v ev => ?_⟩
        subst ev
        by_cases z : X 1 (sq i) = (-2)
        · rw [if_pos z]
          refine aIf_t (by decide) ?_
          intro x ex
          rw [nI_1] at ex
          subst ex
          refine n1 (fun j hj => ?_)
          rcases Nat.lt_or_ge j i with y | y
          · exact hv j y
          · rw [show j = i by omega]; exact z
        · rw [if_neg z]
          exact aIf_f (fun y => y rfl) (h0 (fun y => z (y i hi)))
    · have c : ¬ nI (nwN L X) = nI n := c
      rw [decide_eq_false c]
      exact fun z => by cases z
  · intro w i hi n1
    refine aIf_f (nI_ge (a := i) (b := 256) hi (by decide)) ?_
    have n1 : f_X11_brokeJust_4 SM 0 (nI n) Q (w + 1) (nI (cntB (nwB L X) i + if nwB L X i = true then 1 else 0)) (nI (i + 1)) h := n1
    rw [m_7 hL, mi_3, vp_lt hi (by decide), cl (by omega), (hM.1 i hi).2.1]
    refine ⟨trivial, fun v ev => ?_⟩
    subst ev
    unfold nwB at n1
    by_cases z : X 1 i = (-2)
    · rw [if_pos z]
      refine aIf_f (by decide) ?_
      rw [m_48 hL, mi_30, vp_lt (show i < 512 by omega) (by decide), (ha.1 i hi).2.1]
      refine ⟨trivial, fun v ev => ?_⟩
      subst ev
      by_cases y : L 1 i = (-2)
      · rw [if_pos y]
        rw [decide_eq_true z, decide_eq_true y, if_neg (by decide), Nat.add_zero] at n1
        refine aIf_t (by decide) (fun x ex x' ex' => ?_)
        rw [Int32.add_zero] at ex
        rw [nI_1] at ex'
        subst ex ex'
        exact n1
      · rw [if_neg y]
        rw [decide_eq_true z, decide_eq_false y, if_pos (by decide)] at n1
        refine aIf_f (fun y => y rfl) (fun x ex x' ex' => ?_)
        rw [nI_1] at ex ex'
        subst ex ex'
        exact n1
    · rw [if_neg z]
      rw [decide_eq_false z, if_neg (by exact fun z => by cases z), Nat.add_zero] at n1
      refine aIf_t rfl (fun x ex x' ex' => ?_)
      rw [Int32.add_zero] at ex
      rw [nI_1] at ex'
      subst ex ex'
      exact n1
end Began
