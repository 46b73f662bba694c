/-! ===== PLACES: which sets are FINE ===== -/
def besH (L : Lw) (s : Nat) : Prop := ∃ j, j < 8 ∧ ∃ t, adj s j = some t ∧ 0 ≤ L 1 t
def frA (F : LF) (L : Lw) (gn s : Nat) : Prop := L 1 s = (-1) ∧ (∀ g, g < gn → ¬ L 7 g = nI s) ∧ ¬ mayL F L s 0 ≤ 0 ∧ ¬ besH L s
section Fine
variable (F : LF) (L : Lw) (hn gn : Nat) (sq : Nat → Nat)
def usP (i : Nat) : Prop := frA F L gn (sq i) ∧ ¬ rowL L (sq i)
def clP (i j : Nat) : Prop := nearP (sq i) (sq j) ∨ ∃ m, m < hn ∧ opn L m ∧ inR (sq i) (sq j) (sqH L m)
def trP (i j k : Nat) : Prop := inR (sq i) (sq j) (sq k)
def OKp (i S : Nat) : Prop := usP F L gn sq i ∧ ∀ j, j < i → S.testBit j = true → ¬ clP L hn sq i j ∧ ∀ k, k < j → S.testBit k = true → ¬ trP sq i j k
def FIp (S : Nat) : Nat → Prop
  | 0 => True
  | i + 1 => FIp S i ∧ (S.testBit i = true → OKp F L hn gn sq i S)
def HH (n S t : Nat) : Prop := t < 256 ∧ (0 ≤ L 1 t ∨ ∃ j, j < n ∧ S.testBit j = true ∧ sq j = t)
def FNr (n S : Nat) : Prop := (∀ i, i < n → S.testBit i = true → frA F L gn (sq i)) ∧ (∀ i, i < n → ∀ j, j < i → S.testBit i = true → S.testBit j = true → ¬ nearP (sq i) (sq j)) ∧ ∀ i, i < n → S.testBit i = true → ¬ rowH (HH L sq n S) (sq i)
end Fine
section FineE
variable {F : LF} {L : Lw} {hn gn n : Nat} {sq : Nat → Nat}
theorem FI_iff {S : Nat} : ∀ m, FIp F L hn gn sq S m ↔ ∀ i, i < m → S.testBit i = true → OKp F L hn gn sq i S := by
  intro m
  induction m with
  | zero => exact ⟨fun _ i hi => absurd hi (Nat.not_lt_zero _), fun _ => trivial⟩
  | succ m ih =>
    show FIp F L hn gn sq S m ∧ (S.testBit m = true → OKp F L hn gn sq m S) ↔ _
    rw [ih]
    constructor
    · intro ⟨a, b⟩ i hi hb
      rcases Nat.lt_or_ge i m with z | z
      · exact a i z hb
      · have : i = m := by omega
        subst this
        exact b hb
    · intro a
      exact ⟨fun i hi hb => a i (by omega) hb, fun hb => a m (by omega) hb⟩
theorem rowL_HH {s : Nat} : rowL L s ↔ rowH (fun t => t < 256 ∧ 0 ≤ L 1 t) s := by
  rw [rowL_H]
  have e : ∀ (dx dy : Int), HD (fun t => 0 ≤ L 1 t) (besN s dx dy) ↔ HD (fun t => t < 256 ∧ 0 ≤ L 1 t) (besN s dx dy) := fun dx dy => by
    rw [HD_iff, HD_iff]
    constructor
    · rintro ⟨t, a, b, c⟩; exact ⟨t, a, ⟨a, b⟩, c⟩
    · rintro ⟨t, a, b, c⟩; exact ⟨t, a, b.2, c⟩
  unfold rowH rowTH
  simp only [e]
theorem hole_ex (hW : WF L hn gn) {t : Nat} (ht : t < 256) (h : 0 ≤ L 1 t) : ∃ m, m < hn ∧ opn L m ∧ sqH L m = t := by
  have hhn := hW.1
  rcases hW.2.2.2.2.2.1 t ht with z | z | ⟨m, a, b, c⟩
  · rw [z] at h; exact absurd h (by decide)
  · rw [z] at h; exact absurd h (by decide)
  · have e : sqH L m = t := by unfold sqH; rw [c, cl (by omega)]
    refine ⟨m, a, ?_, e⟩
    show L 1 (sqH L m) = nI m
    rw [e]
    exact b
theorem hole_at (hW : WF L hn gn) {m : Nat} (hm : m < hn) (o : opn L m) : sqH L m < 256 ∧ 0 ≤ L 1 (sqH L m) := by
  have hhn := hW.1
  obtain ⟨-, -, -, -, -, b⟩ := hole_of hW (show m < 12 by omega)
  refine ⟨b, ?_⟩
  have o : L 1 (sqH L m) = nI m := o
  rw [o]
  exact nI_pos' (by omega)
theorem inR_ne {s t : Nat} (h : t ≠ s) : ¬ inR s t t := by
  have := xy_ne h.symm
  intro z
  rcases z with z | z | z
  · unfold midC at z; omega
  · unfold midC at z; omega
  · unfold midC at z; omega
theorem Fine_iff (hW : WF L hn gn) (hs : ∀ i, i < n → sq i < 256) (hi : ¬ twL sq n) {S : Nat} : FIp F L hn gn sq S n ↔ FNr F L gn sq n S := by
  have inj : ∀ i j, i < n → j < n → sq i = sq j → i = j := by
    intro i j a b e
    rcases Nat.lt_trichotomy i j with z | z | z
    · exact absurd ⟨j, i, z, b, e.symm⟩ hi
    · exact z
    · exact absurd ⟨i, j, z, a, e⟩ hi
  have HHlt : ∀ t, HH L sq n S t → t < 256 := fun t z => z.1
  rw [FI_iff]
  constructor
  · intro ok
    have cl' : ∀ i j, i < n → j < n → i ≠ j → S.testBit i = true → S.testBit j = true → ¬ nearP (sq i) (sq j) ∧ ∀ m, m < hn → opn L m → ¬ inR (sq i) (sq j) (sqH L m) := by
      intro i j a b ne bi bj
      rcases Nat.lt_or_ge j i with z | z
      · have := ((ok i a bi).2 j z bj).1
        exact ⟨fun y => this (Or.inl y), fun m m1 m2 y => this (Or.inr ⟨m, m1, m2, y⟩)⟩
      · have := ((ok j b bj).2 i (by omega) bi).1
        exact ⟨fun y => this (Or.inl (near_sym y)), fun m m1 m2 y => this (Or.inr ⟨m, m1, m2, inR_12 y⟩)⟩
    have tr' : ∀ i j k, i < n → j < n → k < n → i ≠ j → i ≠ k → j ≠ k → S.testBit i = true → S.testBit j = true → S.testBit k = true → ¬ inR (sq i) (sq j) (sq k) := by
      have base : ∀ i j k, i < n → j < i → k < j → S.testBit i = true → S.testBit j = true → S.testBit k = true → ¬ inR (sq i) (sq j) (sq k) := fun i j k a b c bi bj bk => ((ok i a bi).2 j b bj).2 k c bk
      intro i j k a b c n1 n2 n3 bi bj bk z
      rcases Nat.lt_or_ge j i with p | p
      · rcases Nat.lt_or_ge k j with q | q
        · exact base i j k a p q bi bj bk z
        · rcases Nat.lt_or_ge k i with r | r
          · exact base i k j a r (by omega) bi bk bj (inR_23 z)
          · exact base k i j c (by omega) p bk bi bj (inR_12 (inR_23 z))
      · rcases Nat.lt_or_ge k i with q | q
        · exact base j i k b (by omega) q bj bi bk (inR_12 z)
        · rcases Nat.lt_or_ge k j with r | r
          · exact base j k i b r (by omega) bj bk bi (inR_23 (inR_12 z))
          · exact base k j i c (by omega) (by omega) bk bj bi (inR_12 (inR_23 (inR_12 z)))
    refine ⟨fun i a b => (ok i a b).1.1, fun i a j b bi bj => (cl' i j a (by omega) (by omega) bi bj).1, fun i a b z => ?_⟩
    obtain ⟨t, u, ht, hu, t1, u1, r⟩ := (row_iff HHlt).mp z
    rcases ht.2 with h1 | ⟨j, j1, j2, j3⟩
    · rcases hu.2 with h2 | ⟨k, k1, k2, k3⟩
      · exact (ok i a b).1.2 (rowL_HH.mpr ((row_iff (fun t z => z.1)).mpr ⟨t, u, ⟨ht.1, h1⟩, ⟨hu.1, h2⟩, t1, u1, r⟩))
      · obtain ⟨m, m1, m2, m3⟩ := hole_ex hW ht.1 h1
        have ik : i ≠ k := fun e => u1 (by rw [e]; exact k3.symm)
        refine (cl' i k a k1 ik b k2).2 m m1 m2 ?_
        rw [m3, k3]
        exact inR_23 r
    · have ij : i ≠ j := fun e => t1 (by rw [e]; exact j3.symm)
      rcases hu.2 with h2 | ⟨k, k1, k2, k3⟩
      · obtain ⟨m, m1, m2, m3⟩ := hole_ex hW hu.1 h2
        refine (cl' i j a j1 ij b j2).2 m m1 m2 ?_
        rw [m3, j3]
        exact r
      · have ik : i ≠ k := fun e => u1 (by rw [e]; exact k3.symm)
        have jk : j ≠ k := fun e => by
          rw [← j3, ← k3, e] at r
          rw [← k3] at u1
          exact inR_ne u1 r
        rw [← j3, ← k3] at r
        exact tr' i j k a j1 k1 ij ik jk b j2 k2 r
  · intro ⟨f1, f2, f3⟩ i a b
    have holeH : ∀ m, m < hn → opn L m → HH L sq n S (sqH L m) ∧ ¬ L 1 (sqH L m) = (-1) := fun m m1 m2 => by
      obtain ⟨x, y⟩ := hole_at hW m1 m2
      exact ⟨⟨x, Or.inl y⟩, fun e => by rw [e] at y; exact absurd y (by decide)⟩
    have newH : ∀ j, j < n → S.testBit j = true → HH L sq n S (sq j) := fun j j1 j2 => ⟨hs j j1, Or.inr ⟨j, j1, j2, rfl⟩⟩
    refine ⟨⟨f1 i a b, fun z => f3 i a b ?_⟩, fun j j1 j2 => ⟨fun z => ?_, fun k k1 k2 z => ?_⟩⟩
    · obtain ⟨t, u, ht, hu, r⟩ := (row_iff (fun t z => z.1)).mp (rowL_HH.mp z)
      exact (row_iff HHlt).mpr ⟨t, u, ⟨ht.1, Or.inl ht.2⟩, ⟨hu.1, Or.inl hu.2⟩, r⟩
    · rcases z with z | ⟨m, m1, m2, z⟩
      · exact f2 i a j j1 b j2 z
      · refine f3 i a b ((row_iff HHlt).mpr ⟨sq j, sqH L m, newH j (by omega) j2, (holeH m m1 m2).1, fun e => ?_, fun e => (holeH m m1 m2).2 (by rw [e]; exact (f1 i a b).1), z⟩)
        have := inj j i (by omega) a e
        omega
    · refine f3 i a b ((row_iff HHlt).mpr ⟨sq j, sq k, newH j (by omega) j2, newH k (by omega) k2, fun e => ?_, fun e => ?_, z⟩)
      · have := inj j i (by omega) a e
        omega
      · have := inj k i (by omega) a e
        omega
theorem FI_up {S m : Nat} (hS : S < 2 ^ m) (hm : m ≤ n) : FIp F L hn gn sq S n ↔ FIp F L hn gn sq S m := by
  rw [FI_iff, FI_iff]
  constructor
  · intro a i hi
    exact a i (by omega)
  · intro a i hi hb
    rcases Nat.lt_or_ge i m with z | z
    · exact a i z hb
    · rw [Nat.testBit_lt_two_pow (Nat.lt_of_lt_of_le hS (Nat.pow_le_pow_right (by decide) z))] at hb
      exact absurd hb (by decide)
theorem OK_congr {S S' i : Nat} (h : ∀ j, j < i → S'.testBit j = S.testBit j) : OKp F L hn gn sq i S' ↔ OKp F L hn gn sq i S := by
  unfold OKp
  constructor
  · intro ⟨a, b⟩
    exact ⟨a, fun j j1 j2 => ⟨(b j j1 (by rw [h j j1]; exact j2)).1, fun k k1 k2 => (b j j1 (by rw [h j j1]; exact j2)).2 k k1 (by rw [h k (by omega)]; exact k2)⟩⟩
  · intro ⟨a, b⟩
    exact ⟨a, fun j j1 j2 => ⟨(b j j1 (by rw [← h j j1]; exact j2)).1, fun k k1 k2 => (b j j1 (by rw [← h j j1]; exact j2)).2 k k1 (by rw [← h k (by omega)]; exact k2)⟩⟩
theorem FI_or {S i : Nat} (hS : S < 2 ^ i) (hi : i < n) : FIp F L hn gn sq (S ||| 2 ^ i) n ↔ FIp F L hn gn sq S n ∧ OKp F L hn gn sq i S := by
  have hO : S ||| 2 ^ i < 2 ^ (i + 1) := or_lt (Nat.lt_of_lt_of_le hS (Nat.pow_le_pow_right (by decide) (by omega))) (by omega)
  have bt : ∀ j, j < i → (S ||| 2 ^ i).testBit j = S.testBit j := fun j hj => by rw [or_bit, decide_eq_false (by omega), Bool.or_false]
  rw [FI_up hO (by omega), FI_up hS (by omega)]
  show FIp F L hn gn sq (S ||| 2 ^ i) i ∧ ((S ||| 2 ^ i).testBit i = true → OKp F L hn gn sq i (S ||| 2 ^ i)) ↔ _
  have e1 : FIp F L hn gn sq (S ||| 2 ^ i) i ↔ FIp F L hn gn sq S i := by
    rw [FI_iff, FI_iff]
    constructor
    · intro a j hj hb
      exact (OK_congr (fun q hq => bt q (by omega))).mp (a j hj (by rw [bt j hj]; exact hb))
    · intro a j hj hb
      exact (OK_congr (fun q hq => bt q (by omega))).mpr (a j hj (by rw [← bt j hj]; exact hb))
  rw [e1, OK_congr bt]
  have b1 : (S ||| 2 ^ i).testBit i = true := by rw [or_bit, decide_eq_true rfl, Bool.or_true]
  constructor
  · intro ⟨a, b⟩; exact ⟨a, b b1⟩
  · intro ⟨a, b⟩; exact ⟨a, fun _ => b⟩
end FineE
/-- the best of the sets below Z -/
abbrev btr (WO : Nat → Nat) (n S B : Nat) : Prop := tmN WO B n < tmN WO S n ∨ (tmN WO S n = tmN WO B n ∧ pcN S 12 < pcN B 12)
def bst (FB : Nat → Bool) (WO : Nat → Nat) (n : Nat) : Nat → Nat
  | 0 => 0
  | S + 1 => if FB S = true ∧ btr WO n S (bst FB WO n S) then S else bst FB WO n S
theorem bst_lt {FB : Nat → Bool} {WO : Nat → Nat} {n : Nat} : ∀ Z, bst FB WO n Z ≤ Z - 1 ∧ (FB 0 = true → FB (bst FB WO n Z) = true) := by
  intro Z
  induction Z with
  | zero => exact ⟨Nat.le_refl _, id⟩
  | succ S ih =>
    unfold bst
    by_cases c : FB S = true ∧ btr WO n S (bst FB WO n S)
    · rw [if_pos c]
      exact ⟨by omega, fun _ => c.1⟩
    · rw [if_neg c]
      exact ⟨by omega, ih.2⟩
theorem cls_B (P : Nat → Prop) : ∃ B : Nat → Bool, ∀ i, B i = true ↔ P i := ⟨fun i => @decide (P i) (Classical.propDecidable _), fun i => @decide_eq_true_iff (P i) (Classical.propDecidable _)⟩
