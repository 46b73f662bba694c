/-! ===== a lake as one picture, held by the class and by the reference ===== -/
abbrev Lw : Type := Nat → Nat → Int32
def uL (L : Lw) (f i : Nat) (v : Int32) : Lw := fun a b => if a = f ∧ b = i then v else L a b
def sm (f : Nat → Int32) : Nat → Int32
  | 0 => 0
  | n + 1 => sm f n + f n
def dX (i : Nat) : Int := [-1, 0, 1, -1, 1, -1, 0, 1].getD i 0
def dY (i : Nat) : Int := [-1, -1, -1, 0, 0, 1, 1, 1].getD i 0
def adj (s i : Nat) : Option Nat := besN s (dX i) (dY i)
def gapT (L : Lw) (o : Option Nat) : Int32 := match o with
  | some t => if L 1 t = (-1) then 0 else 1
  | none => 0
def gapsL (L : Lw) (s : Nat) : Int32 := sm (fun i => gapT L (adj s i)) 8
def warT (L : Lw) (o : Option Nat) : Int32 := match o with
  | some t => if 0 ≤ L 1 t then L 4 (L 1 t).toNatClampNeg else 0
  | none => 0
def warmL (L : Lw) (s : Nat) : Int32 := warT L (some s) + sm (fun i => warT L (adj s i)) 8
/-- the class's lake at cell k holds L -/
def RepC (h : aH) (k : Nat) (L : Lw) : Prop :=
  (∀ i, i < 256 → gA h (k + 1) i = L 0 i ∧ gA h (k + 2) i = L 1 i ∧ gA h (k + 3) i = gapsL L i ∧ gA h (k + 4) i = warmL L i) ∧
  (∀ i, i < 12 → gA h (k + 5) i = L 2 i ∧ gA h (k + 6) i = L 3 i ∧ gA h (k + 7) i = L 4 i ∧ gA h (k + 8) i = L 5 i ∧ gA h (k + 9) i = L 6 i) ∧
  (∀ i, i < 8 → gA h (k + 10) i = L 7 i ∧ gA h (k + 11) i = L 8 i) ∧
  gI h k 9 = L 9 0 ∧ gI h k 12 = L 9 1 ∧ gI h k 13 = L 9 2 ∧ gI h k 14 = L 9 3
/-- the reference's own rows hold L -/
def RepM (h : aH) (L : Lw) : Prop :=
  (∀ i, i < 256 → gA h 2 i = L 0 i ∧ gA h 3 i = (if L 1 i = (-2) then 1 else 0) ∧ gA h 4 i = (if L 1 i = (-2) then (-1) else L 1 i)) ∧
  (∀ i, i < 12 → gA h 5 i = L 2 i ∧ gA h 6 i = L 3 i ∧ gA h 7 i = L 4 i ∧ gA h 8 i = L 5 i ∧ gA h 9 i = L 6 i) ∧
  (∀ i, i < 8 → gA h 10 i = L 7 i ∧ gA h 11 i = L 8 i) ∧
  gI h 0 2 = L 9 0 ∧ gI h 0 3 = L 9 1 ∧ gI h 0 4 = L 9 2 ∧ gI h 0 5 = L 9 3
/-- what holds of every lake: hn HOLES, gn GROUPS -/
def WF (L : Lw) (hn gn : Nat) : Prop :=
  hn ≤ 12 ∧ gn ≤ 8 ∧ L 9 0 = nI hn ∧ L 9 1 = nI gn ∧
  (∀ i, i < 256 → ∃ t, t ≤ 99 ∧ L 0 i = nI t) ∧
  (∀ i, i < 256 → L 1 i = (-1) ∨ L 1 i = (-2) ∨ ∃ m, m < hn ∧ L 1 i = nI m ∧ L 2 m = nI i) ∧
  (∀ m, m < 12 → ∃ s, s < 256 ∧ L 2 m = nI s) ∧
  (∀ m, m < 12 → (∃ v, v ≤ 4 ∧ L 3 m = nI v) ∧ (∃ v, v ≤ 9 ∧ L 4 m = nI v) ∧ (∃ v, v ≤ 9 ∧ L 5 m = nI v) ∧ ∃ v, v ≤ 9 ∧ L 6 m = nI v) ∧
  (∀ g, g < gn → (L 7 g = (-2) ∨ ∃ s, s < 256 ∧ L 7 g = nI s ∧ L 1 s = (-1)) ∧ ∃ v, 1 ≤ v ∧ v ≤ 99 ∧ L 8 g = nI v) ∧
  ∃ v, v ≤ 65535 ∧ L 9 3 = nI v
theorem nI_neg1 {n : Nat} (h : n < 2 ^ 31) : ¬ nI n = (-1) := fun e => by
  have := congrArg Int32.toInt e
  rw [nI_toInt h] at this
  simp at this
theorem nI_neg2 {n : Nat} (h : n < 2 ^ 31) : ¬ nI n = (-2) := fun e => by
  have := congrArg Int32.toInt e
  rw [nI_toInt h] at this
  simp at this
section Lake
variable {h : aH} {l d k : Nat} {L : Lw} {hn gn : Nat} {Q : Int32 → aH → Prop}
theorem sp_hasSquare {S : aS} {s : Nat} (hs : s < 256) (hq : Q 1 h) : f_X1_hasSquare S (nI s) h Q :=
  aIf_f (nI_pos (by omega)) (aIf_f (nI_ge (a := s) (b := 256) hs (by decide)) hq)
theorem sp_hasSquare0 {S : aS} {x : Int32} (hs : x < 0) (hq : Q 0 h) : f_X1_hasSquare S x h Q := aIf_t hs hq
theorem sp_isFirm (hk : isLake k) (hL : LayC h l d) (hR : RepC h k L) {s : Nat} (hs : s < 256) (h1 : L 1 s = (-1) → Q 1 h) (h0 : ¬ L 1 s = (-1) → Q 0 h) : f_X2_isFirm SC k (nI s) h Q := by
  unfold f_X2_isFirm
  refine sp_hasSquare hs ?_
  refine aIf_f (by decide) ?_
  rw [lk_1 hk hL, li_2 hk, vp_lt hs (by decide), cl (by omega), (hR.1 s hs).2.1]
  exact ⟨trivial, fun v e => by subst e; exact aIf_i h0 (fun c => h1 (Classical.not_not.mp c))⟩
theorem sp_isFirm0 {x : Int32} (hx : x < 0) (hq : Q 0 h) : f_X2_isFirm SC k x h Q := by
  unfold f_X2_isFirm
  refine sp_hasSquare0 hx ?_
  exact aIf_t rfl hq
theorem sp_isBroken (hk : isLake k) (hL : LayC h l d) (hR : RepC h k L) {s : Nat} (hs : s < 256) (h1 : L 1 s = (-2) → Q 1 h) (h0 : ¬ L 1 s = (-2) → Q 0 h) : f_X2_isBroken SC k (nI s) h Q := by
  unfold f_X2_isBroken
  rw [lk_1 hk hL, li_2 hk, vp_lt hs (by decide), cl (by omega), (hR.1 s hs).2.1]
  exact ⟨trivial, fun v e => by subst e; exact aIf_i h0 (fun c => h1 (Classical.not_not.mp c))⟩
theorem sp_hasHole (hR : RepC h k L) (hW : WF L hn gn) {x : Int32} (h1 : ∀ m, m < hn → x = nI m → Q 1 h) (h0 : (∀ m, m < hn → ¬ x = nI m) → Q 0 h) : f_X2_hasHole SC k x h Q := by
  unfold f_X2_hasHole
  have e9 : gI h k 9 = nI hn := hR.2.2.2.1.trans hW.2.2.1
  have hhn := hW.1
  refine aIf_i (fun c => h0 (fun m hm e => absurd (e ▸ c) (nI_pos (by omega)))) (fun c => ?_)
  intro v ev
  rw [e9] at ev
  subst ev
  refine aIf_i (fun c2 => h0 (fun m hm e => absurd (e ▸ c2) (nI_ge hm (by omega)))) (fun c2 => ?_)
  obtain ⟨j, hj, e⟩ := nI_of c
  refine h1 j ?_ e
  rw [e] at c2
  exact Nat.lt_of_not_le (fun z => c2 (nI_le z hj))
theorem sp_isOpen (hk : isLake k) (hL : LayC h l d) (hR : RepC h k L) (hW : WF L hn gn) {x : Int32} (h1 : ∀ m s, m < hn → s < 256 → x = nI m → L 2 m = nI s → L 1 s = nI m → Q 1 h) (h0 : (∀ m s, m < hn → x = nI m → L 2 m = nI s → s < 256 → ¬ L 1 s = nI m) → Q 0 h) : f_X2_isOpen SC k x h Q := by
  unfold f_X2_isOpen
  have hhn := hW.1
  refine sp_hasHole hR hW (fun m hm e => ?_) (fun c => aIf_t rfl (h0 (fun m s hm e _ _ => absurd e (c m hm))))
  refine aIf_f (by decide) ?_
  obtain ⟨s, hs, es⟩ := hW.2.2.2.2.2.2.1 m (by omega)
  subst e
  rw [lk_4 hk hL, li_5 hk, vp_lt (show m < 12 by omega) (by decide), cl (by omega), (hR.2.1 m (by omega)).1, es]
  refine ⟨trivial, fun v e => ?_⟩
  subst e
  rw [lk_1 hk hL, li_2 hk, vp_lt hs (by decide), cl (by omega), (hR.1 s hs).2.1]
  refine ⟨trivial, fun v e => ?_⟩
  subst e
  refine aIf_i (fun c => h0 (fun m2 s2 hm2 e2 e3 hs2 => ?_)) (fun c => h1 m s hm hs rfl es (Classical.not_not.mp c))
  have e4 : m = m2 := (nI_eq (by omega) (by omega)).mp e2
  subst e4
  have e5 : s = s2 := (nI_eq (by omega) (by omega)).mp (es.symm.trans e3)
  subst e5
  exact c
theorem sp_hasGroup (hR : RepC h k L) (hW : WF L hn gn) {x : Int32} (h1 : ∀ g, g < gn → x = nI g → Q 1 h) (h0 : (∀ g, g < gn → ¬ x = nI g) → Q 0 h) : f_X2_hasGroup SC k x h Q := by
  unfold f_X2_hasGroup
  have e9 : gI h k 12 = nI gn := hR.2.2.2.2.1.trans hW.2.2.2.1
  have hgn := hW.2.1
  refine aIf_i (fun c => h0 (fun m hm e => absurd (e ▸ c) (nI_pos (by omega)))) (fun c => ?_)
  intro v ev
  rw [e9] at ev
  subst ev
  refine aIf_i (fun c2 => h0 (fun m hm e => absurd (e ▸ c2) (nI_ge hm (by omega)))) (fun c2 => ?_)
  obtain ⟨j, hj, e⟩ := nI_of c
  refine h1 j ?_ e
  rw [e] at c2
  exact Nat.lt_of_not_le (fun z => c2 (nI_le z hj))
theorem sp_isAfloat (hk : isLake k) (hL : LayC h l d) (hR : RepC h k L) (hW : WF L hn gn) {x : Int32} (h1 : ∀ g s, g < gn → s < 256 → x = nI g → L 7 g = nI s → L 1 s = (-1) → Q 1 h) (h0 : (∀ g, g < gn → x = nI g → L 7 g = (-2)) → Q 0 h) : f_X2_isAfloat SC k x h Q := by
  unfold f_X2_isAfloat
  have hgn := hW.2.1
  refine sp_hasGroup hR hW (fun g hg e => ?_) (fun c => aIf_t rfl (h0 (fun g hg e => absurd e (c g hg))))
  refine aIf_f (by decide) ?_
  subst e
  rw [lk_10 hk hL, li_10 hk, vp_lt (show g < 8 by omega) (by decide), cl (by omega), (hR.2.2.1 g (by omega)).1]
  refine ⟨trivial, fun v e => ?_⟩
  subst e
  rcases (hW.2.2.2.2.2.2.2.2.1 g hg).1 with e | ⟨s, hs, e, e2⟩
  · refine aIf_t e (h0 (fun g2 hg2 e2 => ?_))
    rw [← (nI_eq (by omega) (by omega)).mp e2]
    exact e
  · rw [e]
    exact aIf_f (nI_neg2 (by omega)) (h1 g s hg hs rfl e e2)
/-- a counted loop's end -/
theorem lt_of_nle {i N : Nat} (hN : N < 2 ^ 31) (c : ¬ nI N ≤ nI i) : i < N ∨ 2 ^ 31 ≤ i := by
  rcases Nat.lt_or_ge i N with h | h
  · exact Or.inl h
  · rcases Nat.lt_or_ge i (2 ^ 31) with h2 | h2
    · exact absurd (nI_le h h2) c
    · exact Or.inr h2
theorem sp_carried (hk : isLake k) (hL : LayC h l d) (hR : RepC h k L) (hW : WF L hn gn) {x : Int32} (hq : Q (sm (fun g => if L 7 g = x then L 8 g else 0) gn) h) : f_X2_carried SC k x h Q := by
  have hgn := hW.2.1
  have e12 : gI h k 12 = nI gn := hR.2.2.2.2.1.trans hW.2.2.2.1
  have key : ∀ w i, i + w = gn → f_X2_carried_4 SC k x Q (w + 1) (sm (fun g => if L 7 g = x then L 8 g else 0) i) (nI i) h := by
    intro w
    induction w with
    | zero =>
      intro i hi
      have e : i = gn := by omega
      subst e
      intro v ev
      rw [e12] at ev
      subst ev
      exact aIf_t (nI_le (Nat.le_refl _) (by omega)) hq
    | succ w ih =>
      intro i hi
      intro v ev
      rw [e12] at ev
      subst ev
      refine aIf_f (nI_ge (by omega) (by omega)) ?_
      have n1 := ih (i + 1) (by omega)
      rw [← nI_1] at n1
      have es : sm (fun g => if L 7 g = x then L 8 g else 0) (i + 1) = sm (fun g => if L 7 g = x then L 8 g else 0) i + (if L 7 i = x then L 8 i else 0) := rfl
      rw [es] at n1
      rw [lk_10 hk hL, li_10 hk, vp_lt (show i < 8 by omega) (by decide), cl (by omega), (hR.2.2.1 i (by omega)).1]
      refine ⟨trivial, fun v e => ?_⟩
      subst e
      refine aIf_i (fun c => ?_) (fun c => ?_)
      · intro x3 e3
        subst e3
        rw [if_neg c, Int32.add_zero] at n1
        exact n1
      · rw [if_pos (Classical.not_not.mp c)] at n1
        rw [lk_11 hk hL, li_11 hk, vp_lt (show i < 8 by omega) (by decide), (hR.2.2.1 i (by omega)).2]
        refine ⟨trivial, fun v e x2 e2 x3 e3 => ?_⟩
        subst e
        subst e2
        subst e3
        exact n1
  exact ⟨gn + 1, key gn 0 (by omega)⟩
theorem sp_drownedTotal (hk : isLake k) (hL : LayC h l d) (hR : RepC h k L) (hW : WF L hn gn) (hq : Q (sm (fun g => if L 7 g = (-2) then 1 else 0) gn) h) : f_X2_drownedTotal SC k h Q := by
  have hgn := hW.2.1
  have e12 : gI h k 12 = nI gn := hR.2.2.2.2.1.trans hW.2.2.2.1
  have key : ∀ w i, i + w = gn → f_X2_drownedTotal_4 SC k Q (w + 1) (sm (fun g => if L 7 g = (-2) then 1 else 0) i) (nI i) h := by
    intro w
    induction w with
    | zero =>
      intro i hi
      have e : i = gn := by omega
      subst e
      intro v ev
      rw [e12] at ev
      subst ev
      exact aIf_t (nI_le (Nat.le_refl _) (by omega)) hq
    | succ w ih =>
      intro i hi
      intro v ev
      rw [e12] at ev
      subst ev
      refine aIf_f (nI_ge (by omega) (by omega)) ?_
      have n1 := ih (i + 1) (by omega)
      rw [← nI_1] at n1
      have es : sm (fun g => if L 7 g = (-2) then (1 : Int32) else 0) (i + 1) = sm (fun g => if L 7 g = (-2) then 1 else 0) i + (if L 7 i = (-2) then 1 else 0) := rfl
      rw [es] at n1
      rw [lk_10 hk hL, li_10 hk, vp_lt (show i < 8 by omega) (by decide), cl (by omega), (hR.2.2.1 i (by omega)).1]
      refine ⟨trivial, fun v e => ?_⟩
      subst e
      refine aIf_i (fun c => ?_) (fun c => ?_)
      · intro x1 e1 x3 e3
        subst e1
        subst e3
        rw [if_neg c] at n1
        exact n1
      · intro x1 e1 x3 e3
        subst e1
        subst e3
        rw [if_pos (Classical.not_not.mp c)] at n1
        exact n1
  exact ⟨gn + 1, key gn 0 (by omega)⟩
theorem sp_brokenTotal (hk : isLake k) (hL : LayC h l d) (hR : RepC h k L) (hq : Q (sm (fun s => if L 1 s = (-2) then 1 else 0) 256) h) : f_X2_brokenTotal SC k h Q := by
  have key : ∀ w i, i + w = 256 → f_X2_brokenTotal_4 SC k Q (w + 1) (sm (fun s => if L 1 s = (-2) then 1 else 0) i) (nI i) h := by
    intro w
    induction w with
    | zero =>
      intro i hi
      have e : i = 256 := by omega
      subst e
      exact aIf_t (by decide) hq
    | succ w ih =>
      intro i hi
      refine aIf_f (nI_ge (a := i) (b := 256) (by omega) (by omega)) ?_
      have n1 := ih (i + 1) (by omega)
      rw [← nI_1] at n1
      have es : sm (fun s => if L 1 s = (-2) then (1 : Int32) else 0) (i + 1) = sm (fun s => if L 1 s = (-2) then 1 else 0) i + (if L 1 i = (-2) then 1 else 0) := rfl
      rw [es] at n1
      refine sp_isBroken hk hL hR (show i < 256 by omega) (fun c => ?_) (fun c => ?_)
      · refine aIf_f (by decide) ?_
        intro x1 e1 x3 e3
        subst e1
        subst e3
        rw [if_pos c] at n1
        exact n1
      · refine aIf_t rfl ?_
        intro x1 e1 x3 e3
        subst e1
        subst e3
        rw [if_neg c] at n1
        exact n1
  exact ⟨257, key 256 0 (by omega)⟩
end Lake
