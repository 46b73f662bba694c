/-! ===== PLACES: squares in a row ===== -/
def xI (s : Nat) : Int := ((s % 16 : Nat) : Int)
def yI (s : Nat) : Int := ((s / 16 : Nat) : Int)
theorem bes_iff {s t : Nat} {dx dy : Int} (ht : t < 256) : besN s dx dy = some t ↔ xI t = xI s + dx ∧ yI t = yI s + dy := by
  unfold besN xI yI
  constructor
  · intro h
    split at h
    · cases h; omega
    · cases h
  · intro h
    rw [if_pos (by omega)]
    congr 1
    omega
def midC (p m r : Nat) : Prop := -3 ≤ xI m - xI p ∧ xI m - xI p ≤ 3 ∧ -3 ≤ yI m - yI p ∧ yI m - yI p ≤ 3 ∧ xI r - xI m = xI m - xI p ∧ yI r - yI m = yI m - yI p
def inR (a b c : Nat) : Prop := midC a b c ∨ midC b a c ∨ midC a c b
theorem mid_sym {p m r : Nat} (h : midC p m r) : midC r m p := by
  unfold midC at h ⊢
  omega
theorem inR_12 {a b c : Nat} (h : inR a b c) : inR b a c := by
  rcases h with h | h | h
  · exact Or.inr (Or.inl h)
  · exact Or.inl h
  · exact Or.inr (Or.inr (mid_sym h))
theorem inR_23 {a b c : Nat} (h : inR a b c) : inR a c b := by
  rcases h with h | h | h
  · exact Or.inr (Or.inr h)
  · exact Or.inr (Or.inl (mid_sym h))
  · exact Or.inl h
def HD (H : Nat → Prop) (o : Option Nat) : Prop := match o with
  | none => False
  | some t => H t
def rowTH (H : Nat → Prop) (s : Nat) (dx dy : Int) : Prop := ¬ (dx = 0 ∧ dy = 0) ∧ HD H (besN s dx dy) ∧ (HD H (besN s (2 * dx) (2 * dy)) ∨ HD H (besN s (-dx) (-dy)))
def rowH (H : Nat → Prop) (s : Nat) : Prop := ∃ dx dy : Int, -3 ≤ dx ∧ dx ≤ 3 ∧ -3 ≤ dy ∧ dy ≤ 3 ∧ rowTH H s dx dy
theorem rowL_H {L : Lw} {s : Nat} : rowL L s ↔ rowH (fun t => 0 ≤ L 1 t) s := by
  have e : ∀ o, holeD L o ↔ HD (fun t => 0 ≤ L 1 t) o := fun o => by cases o <;> exact Iff.rfl
  unfold rowL rowH rowT rowTH
  simp only [e]
theorem HD_iff {H : Nat → Prop} {s : Nat} {dx dy : Int} : HD H (besN s dx dy) ↔ ∃ t, t < 256 ∧ H t ∧ xI t = xI s + dx ∧ yI t = yI s + dy := by
  constructor
  · intro h
    rcases e : besN s dx dy with _ | t
    · rw [e] at h; exact False.elim h
    · rw [e] at h
      exact ⟨t, besN_lt e, h, (bes_iff (besN_lt e)).mp e⟩
  · rintro ⟨t, ht, h1, h2⟩
    rw [(bes_iff ht).mpr h2]
    exact h1
theorem xy_ne {s t : Nat} (h : s ≠ t) : ¬ (xI t - xI s = 0 ∧ yI t - yI s = 0) := by
  unfold xI yI
  omega
theorem xy_eq {s t : Nat} (h : xI t = xI s ∧ yI t = yI s) : t = s := by
  unfold xI yI at h
  omega
theorem row_iff {H : Nat → Prop} (hH : ∀ t, H t → t < 256) {s : Nat} : rowH H s ↔ ∃ t u, H t ∧ H u ∧ t ≠ s ∧ u ≠ s ∧ inR s t u := by
  constructor
  · rintro ⟨dx, dy, x1, x2, y1, y2, ne, h1, h2⟩
    obtain ⟨t, ht, a1, a2, a3⟩ := HD_iff.mp h1
    have tn : t ≠ s := fun e => ne (by rw [e] at a2 a3; omega)
    rcases h2 with h2 | h2
    · obtain ⟨u, hu, b1, b2, b3⟩ := HD_iff.mp h2
      refine ⟨t, u, a1, b1, tn, fun e => ne (by rw [e] at b2 b3; omega), Or.inl ?_⟩
      unfold midC
      omega
    · obtain ⟨u, hu, b1, b2, b3⟩ := HD_iff.mp h2
      refine ⟨t, u, a1, b1, tn, fun e => ne (by rw [e] at b2 b3; omega), Or.inr (Or.inl ?_)⟩
      unfold midC
      omega
  · have one : ∀ t u, H t → H u → t ≠ s → midC s t u → rowH H s := by
      intro t u ht hu ne m
      unfold midC at m
      have n := xy_ne ne.symm
      refine ⟨xI t - xI s, yI t - yI s, by omega, by omega, by omega, by omega, n, HD_iff.mpr ⟨t, hH t ht, ht, by omega, by omega⟩, Or.inl (HD_iff.mpr ⟨u, hH u hu, hu, by omega, by omega⟩)⟩
    rintro ⟨t, u, ht, hu, t1, u1, m | m | m⟩
    · exact one t u ht hu t1 m
    · unfold midC at m
      have n := xy_ne t1.symm
      exact ⟨xI t - xI s, yI t - yI s, by omega, by omega, by omega, by omega, n, HD_iff.mpr ⟨t, hH t ht, ht, by omega, by omega⟩, Or.inr (HD_iff.mpr ⟨u, hH u hu, hu, by omega, by omega⟩)⟩
    · exact one u t hu ht u1 m
def nearP (s t : Nat) : Prop := s ≠ t ∧ -1 ≤ xI s - xI t ∧ xI s - xI t ≤ 1 ∧ -1 ≤ yI s - yI t ∧ yI s - yI t ≤ 1
theorem near_sym {s t : Nat} (h : nearP s t) : nearP t s := by
  unfold nearP at h ⊢
  exact ⟨h.1.symm, by omega, by omega, by omega, by omega⟩
theorem near_adj {s t : Nat} (hs : s < 256) (ht : t < 256) : nearP t s ↔ ∃ j, j < 8 ∧ adj s j = some t := by
  constructor
  · intro h
    obtain ⟨ne, h1, h2, h3, h4⟩ := h
    obtain ⟨j, hj, e1, e2⟩ := dXY_of (dx := xI t - xI s) (dy := yI t - yI s) ⟨h1, h2⟩ ⟨h3, h4⟩ (xy_ne ne.symm)
    refine ⟨j, hj, ?_⟩
    unfold adj
    rw [e1, e2]
    exact (bes_iff ht).mpr ⟨by omega, by omega⟩
  · rintro ⟨j, hj, e⟩
    have b := dXY j hj
    have e' := (bes_iff ht).mp e
    refine ⟨fun z => ?_, by omega, by omega, by omega, by omega⟩
    subst z
    exact bes_ne1 t hs j hj e
theorem dif_I (a b : Nat) : (dif a b : Int) = if (a : Int) ≤ b then (b : Int) - a else a - b := by
  unfold dif
  split <;> split <;> omega
section Geo
variable {h : aH} {Q : Int32 → aH → Prop}
theorem sp_touch {S : aS} {s t : Nat} (hs : s < 256) (ht : t < 256) (h1 : nearP s t → Q 1 h) (h0 : ¬ nearP s t → Q 0 h) : f_X1_touch S (nI s) (nI t) h Q := by
  unfold nearP xI yI at h1 h0
  refine aIf_i (fun e => h0 (fun z => z.1 ((nI_eq (by omega) (by omega)).mp e))) (fun e => ?_)
  have ne : s ≠ t := fun z => e (by rw [z])
  refine sp_xOf hs (sp_xOf ht ?_)
  intro v ev
  rw [(dif_abs (by omega) (by omega)).1] at ev
  subst ev
  have d1 := dif_I (s % 16) (t % 16)
  have d2 := dif_I (s / 16) (t / 16)
  have b1 : dif (s % 16) (t % 16) < 16 := by unfold dif; split <;> omega
  have b2 : dif (s / 16) (t / 16) < 16 := by unfold dif; split <;> omega
  refine aIf_i (fun c => h0 (fun z => ?_)) (fun c => ?_)
  · have := (nI_ltI (a := 1) (by decide) (by omega)).mp c
    split at d1 <;> omega
  · have c : ¬ 1 < dif (s % 16) (t % 16) := fun z => c ((nI_ltI (a := 1) (by decide) (by omega)).mpr z)
    refine sp_yOf hs (sp_yOf ht ?_)
    intro v ev
    rw [(dif_abs (by omega) (by omega)).1] at ev
    subst ev
    refine aIf_i (fun c2 => h0 (fun z => ?_)) (fun c2 => h1 ⟨ne, ?_⟩)
    · have := (nI_ltI (a := 1) (by decide) (by omega)).mp c2
      split at d2 <;> omega
    · have c2 : ¬ 1 < dif (s / 16) (t / 16) := fun z => c2 ((nI_ltI (a := 1) (by decide) (by omega)).mpr z)
      split at d1 <;> split at d2 <;> omega
theorem sr_areNear {S : aS} {s t : Nat} (hs : s < 256) (ht : t < 256) (h1 : nearP s t → Q 1 h) (h0 : ¬ nearP s t → Q 0 h) : f_X11_areNear S (nI s) (nI t) h Q := by
  unfold nearP xI yI at h1 h0
  unfold f_X11_areNear
  refine aIf_i (fun e => h0 (fun z => z.1 ((nI_eq (by omega) (by omega)).mp e))) (fun e => ?_)
  have ne : s ≠ t := fun z => e (by rw [z])
  rw [nI_mod hs, nI_mod ht, nI_div hs, nI_div ht]
  have d1 := dif_I (s % 16) (t % 16)
  have d2 := dif_I (s / 16) (t / 16)
  have b1 : dif (s % 16) (t % 16) < 16 := by unfold dif; split <;> omega
  have b2 : dif (s / 16) (t / 16) < 16 := by unfold dif; split <;> omega
  refine (dif_abs (by omega) (by omega)).2 _ _ _ ?_
  refine aIf_i (fun c => h0 (fun z => ?_)) (fun c => ?_)
  · have := (nI_leI (a := 2) (by decide) (by omega)).mp c
    split at d1 <;> omega
  · have c : ¬ 2 ≤ dif (s % 16) (t % 16) := fun z => c ((nI_leI (a := 2) (by decide) (by omega)).mpr z)
    refine (dif_abs (by omega) (by omega)).2 _ _ _ ?_
    refine aIf_i (fun c2 => h0 (fun z => ?_)) (fun c2 => h1 ⟨ne, ?_⟩)
    · have := (nI_leI (a := 2) (by decide) (by omega)).mp c2
      split at d2 <;> omega
    · have c2 : ¬ 2 ≤ dif (s / 16) (t / 16) := fun z => c2 ((nI_leI (a := 2) (by decide) (by omega)).mpr z)
      split at d1 <;> split at d2 <;> omega
theorem abs_iI {z : Int} (h1 : -1000 < z) (h2 : z < 1000) : ∃ w : Int, aAbs (iI z) = iI w ∧ 0 ≤ w ∧ w < 1000 ∧ (w = z ∨ w = -z) := by
  unfold aAbs
  have z0 : (0 : Int32) = iI 0 := rfl
  by_cases c : 0 ≤ z
  · exact ⟨z, if_pos (by rw [z0, iI_le (by omega) (by omega) (by omega) (by omega)]; exact c), c, h2, Or.inl rfl⟩
  · refine ⟨-z, ?_, by omega, by omega, Or.inr rfl⟩
    rw [if_neg (by rw [z0, iI_le (by omega) (by omega) (by omega) (by omega)]; exact c), z0, iI_sub]
    congr 1
    omega
theorem sp_isMiddle {S : aS} {p m r : Nat} (hp : p < 256) (hm : m < 256) (hr : r < 256) (h1 : midC p m r → Q 1 h) (h0 : ¬ midC p m r → Q 0 h) : f_X1_isMiddle S (nI p) (nI m) (nI r) h Q := by
  unfold midC xI yI at h1 h0
  refine sp_xOf hm (sp_xOf hp ?_)
  intro x3 e3
  rw [← iI_nat, ← iI_nat, iI_sub] at e3
  subst e3
  refine sp_yOf hm (sp_yOf hp ?_)
  intro x4 e4
  rw [← iI_nat, ← iI_nat, iI_sub] at e4
  subst e4
  obtain ⟨w1, a1, a2, a3, a4⟩ := abs_iI (z := ((m % 16 : Nat) : Int) - ((p % 16 : Nat) : Int)) (by omega) (by omega)
  obtain ⟨w2, b1, b2, b3, b4⟩ := abs_iI (z := ((m / 16 : Nat) : Int) - ((p / 16 : Nat) : Int)) (by omega) (by omega)
  have t3 : (3 : Int32) = iI 3 := rfl
  intro v ev
  rw [a1] at ev
  subst ev
  refine aIf_i (fun c => h0 (fun z => ?_)) (fun c => ?_)
  · rw [t3, iI_lt (by omega) (by omega) (by omega) (by omega)] at c
    omega
  rw [t3, iI_lt (by omega) (by omega) (by omega) (by omega)] at c
  intro v ev
  rw [b1] at ev
  subst ev
  refine aIf_i (fun c2 => h0 (fun z => ?_)) (fun c2 => ?_)
  · rw [t3, iI_lt (by omega) (by omega) (by omega) (by omega)] at c2
    omega
  rw [t3, iI_lt (by omega) (by omega) (by omega) (by omega)] at c2
  refine sp_xOf hr (sp_xOf hm ?_)
  rw [← iI_nat, ← iI_nat, iI_sub, iI_eq (by omega) (by omega) (by omega) (by omega)]
  refine aIf_i (fun c3 => h0 (fun z => c3 z.2.2.2.2.1)) (fun c3 => ?_)
  refine sp_yOf hr (sp_yOf hm ?_)
  rw [← iI_nat, ← iI_nat, iI_sub, iI_eq (by omega) (by omega) (by omega) (by omega)]
  refine aIf_i (fun c4 => h0 (fun z => c4 z.2.2.2.2.2)) (fun c4 => h1 ⟨by omega, by omega, by omega, by omega, Classical.not_not.mp c3, Classical.not_not.mp c4⟩)
theorem sp_inRow {S : aS} {a b c : Nat} (ha : a < 256) (hb : b < 256) (hc : c < 256) (h1 : inR a b c → Q 1 h) (h0 : ¬ inR a b c → Q 0 h) : f_X1_inRow S (nI a) (nI b) (nI c) h Q := by
  refine sp_isMiddle ha hb hc (fun z => aIf_t (by decide) (h1 (Or.inl z))) (fun z1 => aIf_f (fun z => z rfl) ?_)
  refine sp_isMiddle hb ha hc (fun z => aIf_t (by decide) (h1 (Or.inr (Or.inl z)))) (fun z2 => aIf_f (fun z => z rfl) ?_)
  refine sp_isMiddle ha hc hb (fun z => aIf_f (by decide) (h1 (Or.inr (Or.inr z)))) (fun z3 => aIf_t rfl (h0 (fun z => ?_)))
  rcases z with z | z | z
  · exact z1 z
  · exact z2 z
  · exact z3 z
end Geo
