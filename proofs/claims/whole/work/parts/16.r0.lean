/-! ===== what breaks under its load ===== -/
def carL (L : Lw) (gn : Nat) (x : Int32) : Int32 := sm (fun g => if L 7 g = x then L 8 g else 0) gn
abbrev ovP (F : LF) (L : Lw) (gn s : Nat) : Prop := L 1 s = (-1) ∧ ¬ carL L gn (nI s) ≤ bearsL F L s
def sqG (L : Lw) (g : Nat) : Nat := (L 7 g).toNatClampNeg
def ovC (F : LF) (L : Lw) (gn : Nat) : Nat → List Nat
  | 0 => []
  | g + 1 => if L 7 g = (-2) then ovC F L gn g else if sqG L g ∈ ovC F L gn g then ovC F L gn g else if ovP F L gn (sqG L g) then ovC F L gn g ++ [sqG L g] else ovC F L gn g
def ovM (F : LF) (L : Lw) (gn : Nat) : Nat → List Nat
  | 0 => []
  | g + 1 => if L 7 g = (-2) then ovM F L gn g else if ovP F L gn (sqG L g) then ovM F L gn g ++ [sqG L g] else ovM F L gn g
def brk2 (gn : Nat) (L : Lw) (s : Nat) : Lw := if L 1 s = (-1) then breakL L s gn else L
def bkp (gn : Nat) (p : Lw × Nat) (s : Nat) : Lw × Nat := (brk2 gn p.1 s, p.2 + if p.1 1 s = (-1) then 1 else 0)
def bkF (gn : Nat) (l : List Nat) (p : Lw × Nat) : Lw × Nat := l.foldl (bkp gn) p
theorem bkF_s (gn : Nat) (l : List Nat) (s : Nat) (p : Lw × Nat) : bkF gn (l ++ [s]) p = bkp gn (bkF gn l p) s := by
  unfold bkF
  rw [List.foldl_append]
  rfl
theorem brk_1 {gn s t : Nat} {L : Lw} : brk2 gn L s 1 t = if t = s ∧ L 1 s = (-1) then (-2) else L 1 t := by
  unfold brk2
  by_cases c : L 1 s = (-1)
  · rw [if_pos c]
    show drownL (uL L 1 s (-2)) s gn 1 t = _
    rw [drown_n (by decide)]
    by_cases e : t = s
    · rw [e, uL_s, if_pos ⟨rfl, c⟩]
    · rw [uL_n (fun z => e z.2), if_neg (fun z => e z.1)]
  · rw [if_neg c, if_neg (fun z => c z.2)]
theorem brk_7 {gn s g : Nat} {L : Lw} : brk2 gn L s 7 g = if L 1 s = (-1) ∧ g < gn ∧ L 7 g = nI s then (-2) else L 7 g := by
  unfold brk2
  by_cases c : L 1 s = (-1)
  · rw [if_pos c]
    have e7 : uL L 1 s (-2) 7 g = L 7 g := uL_n (fun z => absurd z.1 (by decide))
    show (if 7 = 7 ∧ g < gn ∧ uL L 1 s (-2) 7 g = nI s then (-2) else uL L 1 s (-2) 7 g) = _
    rw [e7]
    by_cases e : g < gn ∧ L 7 g = nI s
    · rw [if_pos ⟨rfl, e⟩, if_pos ⟨c, e⟩]
    · rw [if_neg (fun z => e z.2), if_neg (fun z => e z.2)]
  · rw [if_neg c, if_neg (fun z => c z.1)]
theorem brk_o {gn s f i : Nat} {L : Lw} (h1 : f ≠ 1) (h7 : f ≠ 7) : brk2 gn L s f i = L f i := by
  unfold brk2
  by_cases c : L 1 s = (-1)
  · rw [if_pos c]
    show drownL (uL L 1 s (-2)) s gn f i = _
    rw [drown_n h7, uL_n (fun z => h1 z.1)]
  · rw [if_neg c]
theorem bk_1 {gn t : Nat} : ∀ (l : List Nat) (p : Lw × Nat), (bkF gn l p).1 1 t = if t ∈ l ∧ p.1 1 t = (-1) then (-2) else p.1 1 t := by
  intro l
  induction l with
  | nil => intro p; rw [if_neg (fun z => absurd z.1 (List.not_mem_nil))]; rfl
  | cons s l ih =>
    intro p
    show (bkF gn l (bkp gn p s)).1 1 t = _
    rw [ih]
    show (if t ∈ l ∧ brk2 gn p.1 s 1 t = (-1) then (-2) else brk2 gn p.1 s 1 t) = _
    have b := brk_1 (gn := gn) (s := s) (t := t) (L := p.1)
    by_cases e : t = s
    · subst e
      by_cases c : p.1 1 t = (-1)
      · rw [if_pos ⟨rfl, c⟩] at b
        rw [b, if_neg (fun z => absurd z.2 (by decide)), if_pos ⟨List.mem_cons_self, c⟩]
      · rw [if_neg (fun z => c z.2)] at b
        rw [b, if_neg (fun z => c z.2), if_neg (fun z => c z.2)]
    · rw [if_neg (fun z => e z.1)] at b
      rw [b]
      by_cases m : t ∈ l ∧ p.1 1 t = (-1)
      · rw [if_pos m, if_pos ⟨List.mem_cons_of_mem _ m.1, m.2⟩]
      · rw [if_neg m, if_neg (fun z => m ⟨(List.mem_cons.mp z.1).resolve_left e, z.2⟩)]
theorem bk_7 {gn g : Nat} : ∀ (l : List Nat) (p : Lw × Nat), (bkF gn l p).1 7 g = (-2) ∨ (bkF gn l p).1 7 g = p.1 7 g := by
  intro l
  induction l with
  | nil => intro p; exact Or.inr rfl
  | cons s l ih =>
    intro p
    rcases ih (bkp gn p s) with z | z
    · exact Or.inl z
    · show (bkF gn l (bkp gn p s)).1 7 g = (-2) ∨ (bkF gn l (bkp gn p s)).1 7 g = p.1 7 g
      rw [z]
      show brk2 gn p.1 s 7 g = (-2) ∨ brk2 gn p.1 s 7 g = p.1 7 g
      rw [brk_7]
      by_cases c : p.1 1 s = (-1) ∧ g < gn ∧ p.1 7 g = nI s
      · rw [if_pos c]; exact Or.inl rfl
      · rw [if_neg c]; exact Or.inr rfl
theorem bk_dr {gn g t : Nat} (hg : g < gn) (ht : t < 256) : ∀ (l : List Nat), (∀ s, s ∈ l → s < 256) → ∀ p : Lw × Nat, t ∈ l → p.1 1 t = (-1) → p.1 7 g = nI t → (bkF gn l p).1 7 g = (-2) := by
  intro l
  induction l with
  | nil => intro _ p m; exact absurd m List.not_mem_nil
  | cons s l ih =>
    intro hl p m c e
    show (bkF gn l (bkp gn p s)).1 7 g = (-2)
    by_cases z : t = s
    · subst z
      have e2 : (bkp gn p t).1 7 g = (-2) := by
        show brk2 gn p.1 t 7 g = (-2)
        rw [brk_7, if_pos ⟨c, hg, e⟩]
      rcases bk_7 (gn := gn) (g := g) l (bkp gn p t) with y | y
      · exact y
      · rw [y, e2]
    · have hs := hl s List.mem_cons_self
      refine ih (fun s hs => hl s (List.mem_cons_of_mem _ hs)) (bkp gn p s) ((List.mem_cons.mp m).resolve_left z) ?_ ?_
      · show brk2 gn p.1 s 1 t = (-1)
        rw [brk_1, if_neg (fun y => z y.1)]
        exact c
      · show brk2 gn p.1 s 7 g = nI t
        rw [brk_7, if_neg (fun y => z ((nI_eq (by omega) (by omega)).mp (e.symm.trans y.2.2)))]
        exact e
theorem ov_P {F : LF} {L : Lw} {gn : Nat} : ∀ g, (∀ s, s ∈ ovC F L gn g → ovP F L gn s ∧ ∃ g', g' < g ∧ ¬ L 7 g' = (-2) ∧ sqG L g' = s) ∧ (∀ s, s ∈ ovM F L gn g ↔ s ∈ ovC F L gn g) ∧ (ovC F L gn g).length ≤ g ∧ (ovM F L gn g).length ≤ g := by
  intro g
  induction g with
  | zero => exact ⟨fun s hs => absurd hs List.not_mem_nil, fun s => Iff.rfl, Nat.le_refl _, Nat.le_refl _⟩
  | succ g ih =>
    obtain ⟨i1, i2, i3, i4⟩ := ih
    have up : ∀ s, (ovP F L gn s ∧ ∃ g', g' < g ∧ ¬ L 7 g' = (-2) ∧ sqG L g' = s) → ovP F L gn s ∧ ∃ g', g' < g + 1 ∧ ¬ L 7 g' = (-2) ∧ sqG L g' = s := fun s z => ⟨z.1, by obtain ⟨g', a, b⟩ := z.2; exact ⟨g', by omega, b⟩⟩
    unfold ovC ovM
    by_cases c : L 7 g = (-2)
    · rw [if_pos c, if_pos c]
      exact ⟨fun s hs => up s (i1 s hs), i2, by omega, by omega⟩
    · rw [if_neg c, if_neg c]
      by_cases c2 : sqG L g ∈ ovC F L gn g
      · rw [if_pos c2, if_pos (i1 _ c2).1]
        refine ⟨fun s hs => up s (i1 s hs), fun s => ?_, by omega, by rw [List.length_append]; exact Nat.succ_le_succ i4⟩
        rw [List.mem_append, List.mem_singleton, i2]
        exact ⟨fun z => z.elim id (fun e => by rw [e]; exact c2), Or.inl⟩
      · rw [if_neg c2]
        by_cases c3 : ovP F L gn (sqG L g)
        · rw [if_pos c3, if_pos c3]
          refine ⟨fun s hs => ?_, fun s => ?_, by rw [List.length_append]; exact Nat.succ_le_succ i3, by rw [List.length_append]; exact Nat.succ_le_succ i4⟩
          · rw [List.mem_append, List.mem_singleton] at hs
            rcases hs with z | z
            · exact up s (i1 s z)
            · rw [z]; exact ⟨c3, g, by omega, c, rfl⟩
          · rw [List.mem_append, List.mem_append, i2]
        · rw [if_neg c3, if_neg c3]
          exact ⟨fun s hs => up s (i1 s hs), i2, by omega, by omega⟩
theorem ov_eq {F : LF} {L : Lw} {gn : Nat} : ∀ g, bkF gn (ovM F L gn g) (L, 0) = bkF gn (ovC F L gn g) (L, 0) ∧ (bkF gn (ovC F L gn g) (L, 0)).2 = (ovC F L gn g).length := by
  intro g
  induction g with
  | zero => exact ⟨rfl, rfl⟩
  | succ g ih =>
    obtain ⟨i1, i2⟩ := ih
    obtain ⟨p1, p2, p3, p4⟩ := ov_P (F := F) (L := L) (gn := gn) g
    unfold ovC ovM
    by_cases c : L 7 g = (-2)
    · rw [if_pos c, if_pos c]; exact ⟨i1, i2⟩
    · rw [if_neg c, if_neg c]
      by_cases c2 : sqG L g ∈ ovC F L gn g
      · rw [if_pos c2, if_pos (p1 _ c2).1, bkF_s, i1]
        refine ⟨?_, i2⟩
        have e : (bkF gn (ovC F L gn g) (L, 0)).1 1 (sqG L g) = (-2) := by
          rw [bk_1, if_pos ⟨c2, (p1 _ c2).1.1⟩]
        have n : ¬ (bkF gn (ovC F L gn g) (L, 0)).1 1 (sqG L g) = (-1) := by rw [e]; decide
        unfold bkp brk2
        rw [if_neg n, if_neg n, Nat.add_zero]
      · rw [if_neg c2]
        by_cases c3 : ovP F L gn (sqG L g)
        · rw [if_pos c3, if_pos c3, bkF_s, bkF_s, i1]
          refine ⟨rfl, ?_⟩
          have e : (bkF gn (ovC F L gn g) (L, 0)).1 1 (sqG L g) = (-1) := by
            rw [bk_1, if_neg (fun z => c2 z.1)]
            exact c3.1
          show (bkF gn (ovC F L gn g) (L, 0)).2 + (if (bkF gn (ovC F L gn g) (L, 0)).1 1 (sqG L g) = (-1) then 1 else 0) = _
          rw [if_pos e, i2, List.length_append]
          rfl
        · rw [if_neg c3, if_neg c3]; exact ⟨i1, i2⟩
/-- the lake when all that carry too much have broken -/
def bksL (F : LF) (gn : Nat) (L : Lw) : Lw := (bkF gn (ovC F L gn gn) (L, 0)).1
def stl (F : LF) (gn : Nat) : Nat → Lw → Lw × Nat
  | 0, L => (L, 0)
  | r + 1, L => if ovC F L gn gn = [] then (L, 0) else ((stl F gn r (bksL F gn L)).1, (ovC F L gn gn).length + (stl F gn r (bksL F gn L)).2)
theorem stl_e {F : LF} {gn r : Nat} {L : Lw} (h : ovC F L gn gn = []) : stl F gn r L = (L, 0) := by
  cases r with
  | zero => rfl
  | succ r => exact if_pos h
theorem stl_s {F : LF} {gn r : Nat} {L : Lw} (h : ¬ ovC F L gn gn = []) : stl F gn (r + 1) L = ((stl F gn r (bksL F gn L)).1, (ovC F L gn gn).length + (stl F gn r (bksL F gn L)).2) := if_neg h
def afl (L : Lw) : Nat → Nat
  | 0 => 0
  | g + 1 => afl L g + if L 7 g = (-2) then 0 else 1
theorem afl_le {L L' : Lw} : ∀ n, (∀ g, g < n → L' 7 g = (-2) ∨ L' 7 g = L 7 g) → afl L' n ≤ afl L n := by
  intro n
  induction n with
  | zero => intro _; exact Nat.le_refl _
  | succ n ih =>
    intro h
    have i := ih (fun g hg => h g (by omega))
    show afl L' n + (if L' 7 n = (-2) then 0 else 1) ≤ afl L n + if L 7 n = (-2) then 0 else 1
    rcases h n (by omega) with z | z
    · rw [if_pos z]; omega
    · rw [z]; omega
theorem afl_lt {L L' : Lw} : ∀ n, (∀ g, g < n → L' 7 g = (-2) ∨ L' 7 g = L 7 g) → (∃ g, g < n ∧ ¬ L 7 g = (-2) ∧ L' 7 g = (-2)) → afl L' n < afl L n := by
  intro n
  induction n with
  | zero => intro _ ⟨g, hg, _⟩; exact absurd hg (Nat.not_lt_zero _)
  | succ n ih =>
    intro h ⟨g, hg, z1, z2⟩
    show afl L' n + (if L' 7 n = (-2) then 0 else 1) < afl L n + if L 7 n = (-2) then 0 else 1
    by_cases e : g = n
    · subst e
      have i := afl_le g (fun g' hg' => h g' (by omega))
      rw [if_pos z2, if_neg z1]; omega
    · have i := ih (fun g hg => h g (by omega)) ⟨g, by omega, z1, z2⟩
      rcases h n (by omega) with z | z
      · rw [if_pos z]; omega
      · rw [z]; omega
theorem afl_n (L : Lw) : ∀ n, afl L n ≤ n := by
  intro n
  induction n with
  | zero => exact Nat.le_refl _
  | succ n ih =>
    show afl L n + (if L 7 n = (-2) then 0 else 1) ≤ n + 1
    split <;> omega
theorem WF_brk {L : Lw} {hn gn s : Nat} (hW : WF L hn gn) (hs : s < 256) : WF (brk2 gn L s) hn gn := by
  by_cases c : L 1 s = (-1)
  · obtain ⟨w1, w2, w3, w4, w5, w6, w7, w8, w9, w10⟩ := hW
    have o : ∀ f i, f ≠ 1 → f ≠ 7 → brk2 gn L s f i = L f i := fun f i h1 h7 => brk_o h1 h7
    refine ⟨w1, w2, by rw [o 9 0 (by decide) (by decide)]; exact w3, by rw [o 9 1 (by decide) (by decide)]; exact w4, fun i hi => by rw [o 0 i (by decide) (by decide)]; exact w5 i hi, fun i hi => ?_, fun m hm => by rw [o 2 m (by decide) (by decide)]; exact w7 m hm, fun m hm => by rw [o 3 m (by decide) (by decide), o 4 m (by decide) (by decide), o 5 m (by decide) (by decide), o 6 m (by decide) (by decide)]; exact w8 m hm, fun g hg => ?_, by rw [o 9 3 (by decide) (by decide)]; exact w10⟩
    · rw [brk_1]
      by_cases z : i = s ∧ L 1 s = (-1)
      · rw [if_pos z]; exact Or.inr (Or.inl rfl)
      · rw [if_neg z]
        rcases w6 i hi with y | y | ⟨m, y1, y2, y3⟩
        · exact Or.inl y
        · exact Or.inr (Or.inl y)
        · exact Or.inr (Or.inr ⟨m, y1, y2, by rw [o 2 m (by decide) (by decide)]; exact y3⟩)
    · rw [o 8 g (by decide) (by decide), brk_7]
      refine ⟨?_, (w9 g hg).2⟩
      by_cases z : L 1 s = (-1) ∧ g < gn ∧ L 7 g = nI s
      · rw [if_pos z]; exact Or.inl rfl
      · rw [if_neg z]
        rcases (w9 g hg).1 with y | ⟨t, y1, y2, y3⟩
        · exact Or.inl y
        · refine Or.inr ⟨t, y1, y2, ?_⟩
          rw [brk_1, if_neg (fun x => z ⟨x.2, hg, by rw [← x.1]; exact y2⟩)]
          exact y3
  · unfold brk2
    rw [if_neg c]
    exact hW
theorem WF_bkF {hn gn : Nat} : ∀ (l : List Nat), (∀ s, s ∈ l → s < 256) → ∀ p : Lw × Nat, WF p.1 hn gn → WF (bkF gn l p).1 hn gn := by
  intro l
  induction l with
  | nil => intro _ p h; exact h
  | cons s l ih => intro hl p h; exact ih (fun s hs => hl s (List.mem_cons_of_mem _ hs)) (bkp gn p s) (WF_brk h (hl s List.mem_cons_self))
theorem sqG_of {L : Lw} {hn gn g : Nat} (hW : WF L hn gn) (hg : g < gn) (h7 : ¬ L 7 g = (-2)) : sqG L g < 256 ∧ L 7 g = nI (sqG L g) ∧ L 1 (sqG L g) = (-1) := by
  obtain ⟨t, ht, et, e1⟩ := (hW.2.2.2.2.2.2.2.2.1 g hg).1.resolve_left h7
  have e : sqG L g = t := by unfold sqG; rw [et, cl (by omega)]
  rw [e]
  exact ⟨ht, et, e1⟩
theorem ovC_lt {F : LF} {L : Lw} {hn gn : Nat} (hW : WF L hn gn) {g : Nat} (hg : g ≤ gn) : ∀ s, s ∈ ovC F L gn g → s < 256 := by
  intro s hs
  obtain ⟨-, g', a, b, c⟩ := (ov_P g).1 s hs
  have := (sqG_of hW (show g' < gn by omega) b).1
  rw [c] at this
  exact this
theorem WF_bks {F : LF} {L : Lw} {hn gn : Nat} (hW : WF L hn gn) : WF (bksL F gn L) hn gn := WF_bkF _ (ovC_lt hW (Nat.le_refl _)) (L, 0) hW
theorem WF_stl {F : LF} {hn gn : Nat} : ∀ (r : Nat) (L : Lw), WF L hn gn → WF (stl F gn r L).1 hn gn := by
  intro r
  induction r with
  | zero => intro L h; exact h
  | succ r ih =>
    intro L h
    by_cases c : ovC F L gn gn = []
    · rw [stl_e c]; exact h
    · rw [stl_s c]; exact ih _ (WF_bks h)
theorem afl_bks {F : LF} {L : Lw} {hn gn : Nat} (hW : WF L hn gn) (h : ¬ ovC F L gn gn = []) : afl (bksL F gn L) gn < afl L gn := by
  refine afl_lt gn (fun g hg => bk_7 _ (L, 0)) ?_
  obtain ⟨s, hs⟩ := List.exists_mem_of_ne_nil _ h
  obtain ⟨p, g', a, b, c⟩ := (ov_P gn).1 s hs
  obtain ⟨q1, q2, q3⟩ := sqG_of hW a b
  rw [c] at q1 q2 q3
  exact ⟨g', a, b, bk_dr a q1 _ (ovC_lt hW (Nat.le_refl _)) (L, 0) hs q3 q2⟩
theorem afl_0 {F : LF} {L : Lw} {gn : Nat} (h : afl L gn = 0) : ovC F L gn gn = [] := by
  have key : ∀ n, afl L n = 0 → ovC F L gn n = [] := by
    intro n
    induction n with
    | zero => intro _; rfl
    | succ n ih =>
      intro h
      have h2 : afl L n + (if L 7 n = (-2) then 0 else 1) = 0 := h
      unfold ovC
      by_cases c : L 7 n = (-2)
      · rw [if_pos c]; exact ih (by omega)
      · rw [if_neg c] at h2; omega
  exact key gn h
theorem take_s {l : List Nat} : ∀ {i : Nat}, i < l.length → l.take (i + 1) = l.take i ++ [l.getD i 0] := by
  induction l with
  | nil => intro i h; exact absurd h (Nat.not_lt_zero _)
  | cons a l ih =>
    intro i h
    cases i with
    | zero => rfl
    | succ i =>
      show a :: l.take (i + 1) = a :: (l.take i ++ [l.getD i 0])
      rw [ih (Nat.lt_of_succ_lt_succ h)]
theorem getD_s {l : List Nat} {s i : Nat} : (l ++ [s]).getD i 0 = if i < l.length then l.getD i 0 else if i = l.length then s else 0 := by
  induction l generalizing i with
  | nil =>
    cases i with
    | zero => rfl
    | succ i => rfl
  | cons a l ih =>
    cases i with
    | zero => rfl
    | succ i =>
      show (l ++ [s]).getD i 0 = if i + 1 < l.length + 1 then l.getD i 0 else if i + 1 = l.length + 1 then s else 0
      rw [ih]
      by_cases c : i < l.length
      · rw [if_pos c, if_pos (by omega)]
      · rw [if_neg c, if_neg (show ¬ i + 1 < l.length + 1 by omega)]
        by_cases c2 : i = l.length
        · rw [if_pos c2, if_pos (show i + 1 = l.length + 1 by omega)]
        · rw [if_neg c2, if_neg (show ¬ i + 1 = l.length + 1 by omega)]
theorem getD_mem {l : List Nat} : ∀ {i : Nat}, i < l.length → l.getD i 0 ∈ l := by
  induction l with
  | nil => intro i h; exact absurd h (Nat.not_lt_zero _)
  | cons a l ih =>
    intro i h
    cases i with
    | zero => exact List.mem_cons_self
    | succ i => exact List.mem_cons_of_mem _ (ih (Nat.lt_of_succ_lt_succ h))
theorem mem_getD {l : List Nat} {s : Nat} : s ∈ l → ∃ i, i < l.length ∧ l.getD i 0 = s := by
  induction l with
  | nil => intro h; exact absurd h List.not_mem_nil
  | cons a l ih =>
    intro h
    rcases List.mem_cons.mp h with e | e
    · exact ⟨0, Nat.succ_pos _, e.symm⟩
    · obtain ⟨i, h1, h2⟩ := ih e
      exact ⟨i + 1, Nat.succ_lt_succ h1, h2⟩
