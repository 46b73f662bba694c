/-! ===== the reference's own questions about a lake ===== -/
theorem up_loop {P : Nat → Nat → Prop} {N : Nat} (h0 : P 1 N) (hs : ∀ w i, i < N → P (w + 1) (i + 1) → P (w + 1 + 1) i) : P (N + 1) 0 := by
  have key : ∀ w i, i + w = N → P (w + 1) i := by
    intro w
    induction w with
    | zero => intro i hi; rw [show i = N by omega]; exact h0
    | succ w ih => intro i hi; exact hs w i (by omega) (ih (i + 1) (by omega))
  exact key N 0 (by omega)
theorem sm_s (f : Nat → Int32) (n : Nat) : sm f (n + 1) = sm f n + f n := rfl
theorem sr_liesN {S : aS} {x : Int32} {N : Nat} (hN : N ≤ 1000) {h : aH} {Q : Int32 → aH → Prop} (h1 : ∀ m, m < N → x = nI m → Q 1 h) (h0 : (∀ m, m < N → ¬ x = nI m) → Q 0 h) : f_X11_lies S x.toInt64 0 (nI N - 1).toInt64 h Q := by
  show f_X11_lies S x.toInt64 (Int32.toInt64 0) _ h Q
  obtain ⟨z, z1, z2, e⟩ := iI_of x
  subst e
  have e1 : nI N - 1 = iI ((N : Int) - 1) := iI_sub N 1
  have e0 : (0 : Int32) = iI 0 := rfl
  refine sp_lies (fun a b => ?_) (fun a => h0 (fun m hm e => a ?_))
  · rw [e1, iI_le (by omega) (by omega) (by omega) (by omega)] at b
    rw [e0, iI_le (by omega) (by omega) (by omega) (by omega)] at a
    refine h1 z.toNat (by omega) ?_
    rw [← iI_nat]
    congr 1
    omega
  · rw [e, e1, e0, ← iI_nat, iI_le (by omega) (by omega) (by omega) (by omega), iI_le (by omega) (by omega) (by omega) (by omega)]
    omega
theorem sr_isSquare {S : aS} {x y : Int32} {h : aH} {Q : Int32 → aH → Prop} (h1 : ∀ m n : Nat, m < 16 → n < 16 → x = nI m → y = nI n → Q 1 h) (h0 : ¬ (vp_in x 16 ∧ vp_in y 16) → Q 0 h) : f_X11_isSquare S x y h Q := by
  have side : ∀ (z : Int32) (Q' : Int32 → aH → Prop), (∀ m, m < 16 → z = nI m → Q' 1 h) → ((∀ m, m < 16 → ¬ z = nI m) → Q' 0 h) → f_X11_isSide S z h Q' := by
    intro z Q' g1 g0
    show f_X11_lies S z.toInt64 0 (nI 16 - 1).toInt64 h _
    exact sr_liesN (by decide) (fun m hm e => ⟨aB1, g1 m hm e⟩) (fun c => ⟨aB0, g0 c⟩)
  have no : ∀ z : Int32, (∀ m, m < 16 → ¬ z = nI m) → ¬ vp_in z 16 := fun z c w => by
    obtain ⟨j, hj, e⟩ := vp_in_of w (by decide)
    exact c j hj e
  unfold f_X11_isSquare
  refine side x _ (fun m hm e => ?_) (fun c => aIf_t rfl (h0 (fun w => no x c w.1)))
  refine aIf_f (by decide) ?_
  refine side y _ (fun n hn e2 => ?_) (fun c => aIf_t rfl (h0 (fun w => no y c w.2)))
  exact aIf_f (by decide) (h1 m n hm hn e e2)
theorem sr_aside {S : aS} {s : Nat} (hs : s < 256) {dx dy : Int} (hx : -100 < dx ∧ dx < 100) (hy : -100 < dy ∧ dy < 100) {h : aH} {Q : Int32 → aH → Prop} (hq : Q (enc (besN s dx dy)) h) : f_X11_aside S (nI s) (iI dx) (iI dy) h Q := by
  unfold f_X11_aside
  rw [nI_mod hs, nI_div hs, ← iI_nat, ← iI_nat, iI_add, iI_add]
  refine sp_isSquare (by omega) (by omega) (fun c => ?_) (fun c => ?_)
  · refine aIf_f (by decide) ?_
    have e : besN s dx dy = some (16 * (((s / 16 : Nat) : Int) + dy) + (((s % 16 : Nat) : Int) + dx)).toNat := if_pos c
    rw [e] at hq
    have e2 : nI s + 16 * iI dy + iI dx = nI (16 * (((s / 16 : Nat) : Int) + dy) + (((s % 16 : Nat) : Int) + dx)).toNat := by
      rw [show (16 : Int32) = iI 16 from rfl, iI_mul, ← iI_nat, iI_add, iI_add, ← iI_nat]
      congr 1
      omega
    rw [e2]
    exact hq
  · refine aIf_t rfl ?_
    have e : besN s dx dy = none := if_neg c
    rw [e] at hq
    exact hq
section Ref
variable {h : aH} {L : Lw} {hn gn : Nat} {Q : Int32 → aH → Prop}
theorem sr_isIce (hL : LayM h) (hM : RepM h L) {s : Nat} (hs : s < 256) (h1 : L 1 s = (-1) → Q 1 h) (h0 : ¬ L 1 s = (-1) → Q 0 h) : f_X11_isIce SM 0 (nI s) h Q := by
  unfold f_X11_isIce
  rw [m_7 hL, mi_3, vp_lt hs (by decide), cl (by omega), (hM.1 s hs).2.1]
  refine ⟨trivial, fun v e => ?_⟩
  subst e
  by_cases c : L 1 s = (-2)
  · rw [if_pos c]
    exact aIf_t (by decide) (h0 (fun e => absurd (c.symm.trans e) (by decide)))
  · rw [if_neg c]
    refine aIf_f (by decide) ?_
    rw [m_8 hL, mi_4, vp_lt hs (by decide), (hM.1 s hs).2.2, if_neg c]
    refine ⟨trivial, fun v e => ?_⟩
    subst e
    exact aIf_i h0 (fun c => h1 (Classical.not_not.mp c))
theorem sr_isHole (hM : RepM h L) (hW : WF L hn gn) {x : Int32} (h1 : ∀ m, m < hn → x = nI m → Q 1 h) (h0 : (∀ m, m < hn → ¬ x = nI m) → Q 0 h) : f_X11_isHole SM 0 x h Q := by
  intro v ev
  rw [hM.2.2.2.1.trans hW.2.2.1] at ev
  subst ev
  have := hW.1
  exact sr_liesN (by omega) (fun m hm e => ⟨aB1, h1 m hm e⟩) (fun c => ⟨aB0, h0 c⟩)
theorem sr_isGroup (hM : RepM h L) (hW : WF L hn gn) {x : Int32} (h1 : ∀ g, g < gn → x = nI g → Q 1 h) (h0 : (∀ g, g < gn → ¬ x = nI g) → Q 0 h) : f_X11_isGroup SM 0 x h Q := by
  intro v ev
  rw [hM.2.2.2.2.1.trans hW.2.2.2.1] at ev
  subst ev
  have := hW.2.1
  exact sr_liesN (by omega) (fun m hm e => ⟨aB1, h1 m hm e⟩) (fun c => ⟨aB0, h0 c⟩)
/-- a square that holds a HOLE isn't broken -/
theorem sr_isOpen (hL : LayM h) (hM : RepM h L) (hW : WF L hn gn) {x : Int32} (h1 : ∀ m s, m < hn → s < 256 → x = nI m → L 2 m = nI s → L 1 s = nI m → Q 1 h) (h0 : (∀ m s, m < hn → x = nI m → L 2 m = nI s → s < 256 → ¬ L 1 s = nI m) → Q 0 h) : f_X11_isOpen SM 0 x h Q := by
  unfold f_X11_isOpen
  have hhn := hW.1
  refine sr_isHole hM hW (fun m hm e => ?_) (fun c => aIf_t rfl (h0 (fun m s hm e _ _ => absurd e (c m hm))))
  refine aIf_f (by decide) ?_
  obtain ⟨s, hs, es⟩ := hW.2.2.2.2.2.2.1 m (by omega)
  subst e
  rw [m_9 hL, mi_5, vp_lt (show m < 12 by omega) (by decide), cl (by omega), (hM.2.1 m (by omega)).1, es]
  refine ⟨trivial, fun v e => ?_⟩
  subst e
  rw [m_8 hL, mi_4, vp_lt hs (by decide), cl (by omega), (hM.1 s hs).2.2]
  refine ⟨trivial, fun v e => ?_⟩
  subst e
  have no : ∀ s2, L 2 m = nI s2 → s2 < 256 → s = s2 := fun s2 e3 hs2 => (nI_eq (by omega) (by omega)).mp (es.symm.trans e3)
  have nm : ∀ m2, m2 < hn → nI m = nI m2 → m = m2 := fun m2 hm2 e2 => (nI_eq (by omega) (by omega)).mp e2
  by_cases c : L 1 s = (-2)
  · rw [if_pos c]
    refine aIf_t (fun e => nI_neg1 (by omega) e.symm) (h0 (fun m2 s2 hm2 e2 e3 hs2 e4 => ?_))
    have e5 := nm m2 hm2 e2
    subst e5
    have e6 := no s2 e3 hs2
    subst e6
    exact nI_neg2 (by omega) (e4.symm.trans c)
  · rw [if_neg c]
    refine aIf_i (fun c => h0 (fun m2 s2 hm2 e2 e3 hs2 => ?_)) (fun c => h1 m s hm hs rfl es (Classical.not_not.mp c))
    have e5 := nm m2 hm2 e2
    subst e5
    have e6 := no s2 e3 hs2
    subst e6
    exact c
theorem sr_carriedOn (hL : LayM h) (hM : RepM h L) (hW : WF L hn gn) {x : Int32} (hq : Q (sm (fun g => if L 7 g = x then L 8 g else 0) gn) h) : f_X11_carriedOn SM 0 x h Q := by
  have hgn := hW.2.1
  have e3 : gI h 0 3 = nI gn := hM.2.2.2.2.1.trans hW.2.2.2.1
  refine ⟨gn + 1, up_loop (P := fun w i => f_X11_carriedOn_4 SM 0 x Q w (sm (fun g => if L 7 g = x then L 8 g else 0) i) (nI i) h) ?_ ?_⟩
  · intro v ev
    rw [e3] at ev
    subst ev
    exact aIf_t (nI_le (Nat.le_refl _) (by omega)) hq
  · intro w i hi n1 v ev
    rw [e3] at ev
    subst ev
    refine aIf_f (nI_ge (by omega) (by omega)) ?_
    rw [← nI_1, sm_s] at n1
    rw [m_14 hL, mi_10, vp_lt (show i < 8 by omega) (by decide), cl (by omega), (hM.2.2.1 i (by omega)).1]
    refine ⟨trivial, fun v e => ?_⟩
    subst e
    refine aIf_i (fun c => ?_) (fun c => ?_)
    · intro x2 e2 x3 e3
      subst e2
      subst e3
      rw [if_neg c] at n1
      exact n1
    · rw [if_pos (Classical.not_not.mp c)] at n1
      rw [m_15 hL, mi_11, vp_lt (show i < 8 by omega) (by decide), (hM.2.2.1 i (by omega)).2]
      refine ⟨trivial, fun v e x2 e2 x3 e3 => ?_⟩
      subst e
      subst e2
      subst e3
      exact n1
theorem sr_standsOn (hL : LayM h) (hM : RepM h L) (hW : WF L hn gn) {x : Int32} (h1 : (∃ g, g < gn ∧ L 7 g = x) → Q 1 h) (h0 : (∀ g, g < gn → ¬ L 7 g = x) → Q 0 h) : f_X11_standsOn SM 0 x h Q := by
  have hgn := hW.2.1
  have e3 : gI h 0 3 = nI gn := hM.2.2.2.2.1.trans hW.2.2.2.1
  have := up_loop (N := gn) (P := fun w i => (∀ g, g < i → ¬ L 7 g = x) → f_X11_standsOn_2 SM 0 x Q w (nI i) h) ?_ ?_
  · exact ⟨gn + 1, this (fun g hg => absurd hg (Nat.not_lt_zero _))⟩
  · intro hb v ev
    rw [e3] at ev
    subst ev
    exact aIf_t (nI_le (Nat.le_refl _) (by omega)) (h0 hb)
  · intro w i hi n1 hb v ev
    rw [e3] at ev
    subst ev
    refine aIf_f (nI_ge (by omega) (by omega)) ?_
    rw [← nI_1] at n1
    rw [m_14 hL, mi_10, vp_lt (show i < 8 by omega) (by decide), cl (by omega), (hM.2.2.1 i (by omega)).1]
    refine ⟨trivial, fun v e => ?_⟩
    subst e
    refine aIf_i (fun c => ?_) (fun c => h1 ⟨i, hi, Classical.not_not.mp c⟩)
    intro x2 e2
    subst e2
    refine n1 (fun g hg => ?_)
    rcases Nat.lt_or_ge g i with z | z
    · exact hb g z
    · rw [show g = i by omega]; exact c
theorem sr_drownedMany (hL : LayM h) (hM : RepM h L) (hW : WF L hn gn) (hq : Q (sm (fun g => if L 7 g = (-2) then 1 else 0) gn) h) : f_X11_drownedMany SM 0 h Q := by
  have hgn := hW.2.1
  have e3 : gI h 0 3 = nI gn := hM.2.2.2.2.1.trans hW.2.2.2.1
  refine ⟨gn + 1, up_loop (P := fun w i => f_X11_drownedMany_4 SM 0 Q w (sm (fun g => if L 7 g = (-2) then 1 else 0) i) (nI i) h) ?_ ?_⟩
  · intro v ev
    rw [e3] at ev
    subst ev
    exact aIf_t (nI_le (Nat.le_refl _) (by omega)) hq
  · intro w i hi n1 v ev
    rw [e3] at ev
    subst ev
    refine aIf_f (nI_ge (by omega) (by omega)) ?_
    rw [← nI_1, sm_s] at n1
    rw [m_14 hL, mi_10, vp_lt (show i < 8 by omega) (by decide), cl (by omega), (hM.2.2.1 i (by omega)).1]
    refine ⟨trivial, fun v e => ?_⟩
    subst e
    refine aIf_i (fun c => ?_) (fun c => ?_)
    · intro x1 e1 x3 e3
      subst e1
      subst e3
      rw [if_neg c] at n1
      exact n1
    · intro x1 e1 x3 e3
      subst e1
      subst e3
      rw [if_pos (Classical.not_not.mp c)] at n1
      exact n1
theorem sr_brokenMany (hL : LayM h) (hM : RepM h L) (hq : Q (sm (fun s => if L 1 s = (-2) then 1 else 0) 256) h) : f_X11_brokenMany SM 0 h Q := by
  refine ⟨257, up_loop (P := fun w i => f_X11_brokenMany_4 SM 0 Q w (sm (fun s => if L 1 s = (-2) then 1 else 0) i) (nI i) h) ?_ ?_⟩
  · exact aIf_t (by decide) hq
  · intro w i hi n1
    refine aIf_f (nI_ge (a := i) (b := 256) hi (by omega)) ?_
    rw [← nI_1, sm_s] at n1
    rw [m_7 hL, mi_3, vp_lt hi (by decide), cl (by omega), (hM.1 i hi).2.1]
    refine ⟨trivial, fun v e => ?_⟩
    subst e
    by_cases c : L 1 i = (-2)
    · rw [if_pos c] at n1 ⊢
      refine aIf_f (by decide) ?_
      intro x1 e1 x3 e3
      subst e1
      subst e3
      exact n1
    · rw [if_neg c] at n1 ⊢
      refine aIf_t rfl ?_
      intro x1 e1 x3 e3
      subst e1
      subst e3
      exact n1
/-- the KIND that the law sees on a square -/
def kindL (L : Lw) (s : Nat) : Int32 := if 0 ≤ L 1 s then L 3 (L 1 s).toNatClampNeg else 9
theorem sr_kindOn (hL : LayM h) (hM : RepM h L) (hW : WF L hn gn) {s : Nat} (hs : s < 256) (hq : Q (kindL L s) h) : f_X11_kindOn SM 0 (nI s) h Q := by
  unfold f_X11_kindOn
  have hhn := hW.1
  rw [m_8 hL, mi_4, vp_lt hs (by decide), cl (by omega), (hM.1 s hs).2.2]
  refine ⟨trivial, fun v e => ?_⟩
  subst e
  unfold kindL at hq
  rcases hW.2.2.2.2.2.1 s hs with c | c | ⟨m, hm, c, -⟩
  · rw [c, if_neg (by decide)] at hq ⊢
    exact aIf_f (by decide) hq
  · rw [c] at hq ⊢
    rw [if_neg (by decide)] at hq
    rw [if_pos rfl]
    exact aIf_f (by decide) hq
  · rw [c] at hq ⊢
    rw [if_pos (nI_pos' (by omega)), cl (by omega)] at hq
    rw [if_neg (nI_neg2 (by omega))]
    refine aIf_t (nI_neg1 (by omega)) ?_
    refine ⟨trivial, fun v e => ?_⟩
    subst e
    rw [m_10 hL, mi_6, vp_lt (show m < 12 by omega) (by decide), cl (by omega), (hM.2.1 m (by omega)).2.1]
    exact ⟨trivial, fun v e => by subst e; exact hq⟩
end Ref
section Lake2
variable {h : aH} {l d k : Nat} {L : Lw} {hn gn : Nat} {Q : Int32 → aH → Prop}
theorem sp_kindAt (hk : isLake k) (hL : LayC h l d) (hR : RepC h k L) (hW : WF L hn gn) {s : Nat} (hs : s < 256) (hq : Q (kindL L s) h) : f_X2_kindAt SC k (nI s) h Q := by
  unfold f_X2_kindAt
  have hhn := hW.1
  rw [lk_1 hk hL, li_2 hk, vp_lt hs (by decide), cl (by omega), (hR.1 s hs).2.1]
  refine ⟨trivial, fun v e => ?_⟩
  subst e
  unfold kindL at hq
  refine sp_hasHole hR hW (fun m hm e => ?_) (fun c => ?_)
  · refine aIf_f (by decide) ?_
    rw [e] at hq ⊢
    rw [if_pos (nI_pos' (by omega)), cl (by omega)] at hq
    rw [lk_5 hk hL, li_6 hk, vp_lt (show m < 12 by omega) (by decide), cl (by omega), (hR.2.1 m (by omega)).2.1]
    exact ⟨trivial, fun v e => by subst e; exact hq⟩
  · refine aIf_t rfl ?_
    rcases hW.2.2.2.2.2.1 s hs with z | z | ⟨m, hm, z, -⟩
    · rw [z, if_neg (by decide)] at hq; exact hq
    · rw [z, if_neg (by decide)] at hq; exact hq
    · exact absurd z (c m hm)
/-- weights are at least 1: a square carries nothing just if nobody stands there -/
theorem car0 (hW : WF L hn gn) {x : Int32} : ∀ n, n ≤ gn → ∃ v : Nat, v ≤ 99 * n ∧ sm (fun g => if L 7 g = x then L 8 g else 0) n = nI v ∧ (v = 0 ↔ ∀ g, g < n → ¬ L 7 g = x) := by
  intro n
  induction n with
  | zero => intro _; exact ⟨0, by omega, rfl, by simp⟩
  | succ n ih =>
    intro hn1
    obtain ⟨v, h1, h2, h3⟩ := ih (by omega)
    obtain ⟨w, w1, w2, w3⟩ := (hW.2.2.2.2.2.2.2.2.1 n (by omega)).2
    rw [sm_s, h2]
    by_cases c : L 7 n = x
    · rw [if_pos c, w3, nI_add]
      exact ⟨v + w, by omega, rfl, ⟨fun z => by omega, fun z => absurd c (z n (by omega))⟩⟩
    · rw [if_neg c, Int32.add_zero]
      refine ⟨v, by omega, rfl, h3.trans ⟨fun z g hg => ?_, fun z g hg => z g (by omega)⟩⟩
      rcases Nat.lt_or_ge g n with y | y
      · exact z g y
      · rw [show g = n by omega]; exact c
theorem sp_isFree (hk : isLake k) (hL : LayC h l d) (hR : RepC h k L) (hW : WF L hn gn) {s : Nat} (hs : s < 256) (h1 : L 1 s = (-1) → (∀ g, g < gn → ¬ L 7 g = nI s) → Q 1 h) (h0 : ¬ (L 1 s = (-1) ∧ ∀ g, g < gn → ¬ L 7 g = nI s) → Q 0 h) : f_X2_isFree SC k (nI s) h Q := by
  unfold f_X2_isFree
  have hgn := hW.2.1
  refine sp_isFirm hk hL hR hs (fun c => ?_) (fun c => aIf_t rfl (h0 (fun z => c z.1)))
  refine aIf_f (by decide) ?_
  refine sp_carried hk hL hR hW ?_
  obtain ⟨v, v1, v2, v3⟩ := car0 hW (x := nI s) gn (Nat.le_refl _)
  show aIf (¬ sm (fun g => if L 7 g = nI s then L 8 g else 0) gn = 0) _ _
  rw [v2]
  refine aIf_i (fun c2 => h0 (fun z => c2 ?_)) (fun c2 => h1 c (v3.mp ?_))
  · rw [v3.mpr z.2]; rfl
  · exact (nI_eq (a := v) (b := 0) (by omega) (by omega)).mp (Classical.not_not.mp c2)
end Lake2
