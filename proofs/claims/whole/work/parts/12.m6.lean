/-! ===== what a call leaves as it was; the invariant ===== -/
def b2i (b : Bool) : Int32 := if b = true then 1 else 0
/-- of the class: the kept lake, the tape, the laws (but for their scratch), the flag -/
def CS (h h' : aH) : Prop := h'.2.2 = h.2.2 ∧ (∀ c, (13 ≤ c ∧ c ≤ 24) ∨ c = 38 ∨ (44 ≤ c ∧ c ≤ 48) ∨ (54 ≤ c ∧ c ≤ 58) → ∀ i, gA h' c i = gA h c i) ∧ (∀ j, gI h' 13 j = gI h 13 j) ∧ gI h' 0 10 = gI h 0 10 ∧ gI h' 37 1 = gI h 37 1 ∧ gI h' 43 2 = gI h 43 2 ∧ gI h' 43 6 = gI h 43 6 ∧ gI h' 53 2 = gI h 53 2 ∧ gI h' 53 6 = gI h 53 6
/-- of the reference: the tape, the law, what is kept -/
def MS (h h' : aH) : Prop := h'.2.2 = h.2.2 ∧ (∀ c, c = 1 ∨ (12 ≤ c ∧ c ≤ 17) ∨ (41 ≤ c ∧ c ≤ 46) → ∀ i, gA h' c i = gA h c i) ∧ (∀ c, 29 ≤ c ∧ c ≤ 31 → ∀ i, 256 ≤ i → gA h' c i = gA h c i) ∧ (∀ i, 8 ≤ i → gA h' 32 i = gA h 32 i) ∧ (∀ i, 1 ≤ i → gA h' 33 i = gA h 33 i) ∧ (∀ j, j = 1 ∨ j = 16 ∨ (60 ≤ j ∧ j ≤ 63) → gI h' 0 j = gI h 0 j)
theorem CS_rf {h : aH} : CS h h := ⟨rfl, fun _ _ _ => rfl, fun _ => rfl, rfl, rfl, rfl, rfl, rfl, rfl⟩
theorem MS_rf {h : aH} : MS h h := ⟨rfl, fun _ _ _ => rfl, fun _ _ _ _ => rfl, fun _ _ => rfl, fun _ _ => rfl, fun _ _ => rfl⟩
theorem CS_tr {a b c : aH} (x : CS a b) (y : CS b c) : CS a c := by
  obtain ⟨x1, x2, x3, x4, x5, x6, x7, x8, x9⟩ := x
  obtain ⟨y1, y2, y3, y4, y5, y6, y7, y8, y9⟩ := y
  exact ⟨y1.trans x1, fun c hc i => (y2 c hc i).trans (x2 c hc i), fun j => (y3 j).trans (x3 j), y4.trans x4, y5.trans x5, y6.trans x6, y7.trans x7, y8.trans x8, y9.trans x9⟩
theorem MS_tr {a b c : aH} (x : MS a b) (y : MS b c) : MS a c := by
  obtain ⟨x1, x2, x3, x4, x5, x6⟩ := x
  obtain ⟨y1, y2, y3, y4, y5, y6⟩ := y
  exact ⟨y1.trans x1, fun c hc i => (y2 c hc i).trans (x2 c hc i), fun c hc i hi => (y3 c hc i hi).trans (x3 c hc i hi), fun i hi => (y4 i hi).trans (x4 i hi), fun i hi => (y5 i hi).trans (x5 i hi), fun j hj => (y6 j hj).trans (x6 j hj)⟩
/-- a change of the lake 'now' or 'trial' alone -/
theorem CS_K {k : Nat} {h h' : aH} (hk : k = 1 ∨ k = 25) (hf : FrK k h h') : CS h h' := by
  have g : ∀ c, ¬ (k ≤ c ∧ c < k + 12) → (∀ i, gA h' c i = gA h c i) ∧ ∀ i, gI h' c i = gI h c i := hf.1
  exact ⟨hf.2, fun c hc i => (g c (by omega)).1 i, fun j => (g 13 (by omega)).2 j, (g 0 (by omega)).2 _, (g 37 (by omega)).2 _, (g 43 (by omega)).2 _, (g 43 (by omega)).2 _, (g 53 (by omega)).2 _, (g 53 (by omega)).2 _⟩
theorem MS_sA {h : aH} {c i : Nat} {v : Int32} (hc : ¬ (c = 1 ∨ (12 ≤ c ∧ c ≤ 17) ∨ (41 ≤ c ∧ c ≤ 46))) (h1 : 29 ≤ c ∧ c ≤ 31 → i < 256) (h2 : c = 32 → i < 8) (h3 : c = 33 → i < 1) : MS h (sA h c i v) := by
  refine ⟨rfl, fun a ha j => ?_, fun a ha j hj => ?_, fun j hj => ?_, fun j hj => ?_, fun _ _ => rfl⟩
  · rw [gA_sA, if_neg (fun z => hc (by rw [← z.1]; exact ha))]
  · rw [gA_sA, if_neg (fun z => by have := h1 (by omega); omega)]
  · rw [gA_sA, if_neg (fun z => by have := h2 (by omega); omega)]
  · rw [gA_sA, if_neg (fun z => by have := h3 (by omega); omega)]
theorem MS_sI {h : aH} {j : Nat} {v : Int32} (hj : ¬ (j = 1 ∨ j = 16 ∨ (60 ≤ j ∧ j ≤ 63))) : MS h (sI h 0 j v) :=
  ⟨rfl, fun _ _ _ => rfl, fun _ _ _ _ => rfl, fun _ _ => rfl, fun _ _ => rfl, fun a ha => by rw [gI_sI, if_neg (fun z => hj (by rw [← z.2]; exact ha))]⟩
theorem LayM_2 {h h' : aH} (hf : h'.2.2 = h.2.2) (hL : LayM h) : LayM h' := hf.trans hL
/-- what is kept, in the reference's own rows -/
def RepK (h : aH) (L : Lw) : Prop :=
  (∀ i, i < 256 → gA h 29 (256 + i) = L 0 i ∧ gA h 30 (256 + i) = (if L 1 i = (-2) then 1 else 0) ∧ gA h 31 (256 + i) = (if L 1 i = (-2) then (-1) else L 1 i)) ∧
  (∀ i, i < 12 → gA h 41 i = L 2 i ∧ gA h 42 i = L 3 i ∧ gA h 43 i = L 4 i ∧ gA h 44 i = L 5 i ∧ gA h 45 i = L 6 i) ∧
  (∀ i, i < 8 → gA h 32 (8 + i) = L 7 i ∧ gA h 46 i = L 8 i) ∧
  gI h 0 61 = L 9 0 ∧ gI h 0 62 = L 9 1 ∧ gA h 33 1 = L 9 2 ∧ gI h 0 63 = L 9 3
theorem RepK_MS {h h' : aH} {L : Lw} (hm : MS h h') (hR : RepK h L) : RepK h' L := by
  obtain ⟨-, m2, m3, m4, m5, m6⟩ := hm
  refine ⟨fun i hi => ?_, fun i hi => ?_, fun i hi => ?_, ?_⟩
  · rw [m3 29 (by omega) _ (by omega), m3 30 (by omega) _ (by omega), m3 31 (by omega) _ (by omega)]
    exact hR.1 i hi
  · rw [m2 41 (by omega), m2 42 (by omega), m2 43 (by omega), m2 44 (by omega), m2 45 (by omega)]
    exact hR.2.1 i hi
  · rw [m4 _ (by omega), m2 46 (by omega)]
    exact hR.2.2.1 i hi
  · rw [m6 61 (by omega), m6 62 (by omega), m5 _ (by omega), m6 63 (by omega)]
    exact hR.2.2.2
theorem RepC_CS {h h' : aH} {L : Lw} (hc : CS h h') (hR : RepC h 13 L) : RepC h' 13 L := by
  obtain ⟨-, c2, c3, -⟩ := hc
  refine ⟨fun i hi => ?_, fun i hi => ?_, fun i hi => ?_, ?_⟩
  · rw [c2 _ (by omega), c2 _ (by omega), c2 _ (by omega), c2 _ (by omega)]
    exact hR.1 i hi
  · rw [c2 _ (by omega), c2 _ (by omega), c2 _ (by omega), c2 _ (by omega), c2 _ (by omega)]
    exact hR.2.1 i hi
  · rw [c2 _ (by omega), c2 _ (by omega)]
    exact hR.2.2.1 i hi
  · rw [c3, c3, c3, c3]
    exact hR.2.2.2
/-- the laws' own cells -/
def CL (h h' : aH) : Prop := h'.2.2 = h.2.2 ∧ (∀ c, (44 ≤ c ∧ c ≤ 48) ∨ (54 ≤ c ∧ c ≤ 58) → ∀ i, gA h' c i = gA h c i) ∧ gI h' 43 2 = gI h 43 2 ∧ gI h' 43 6 = gI h 43 6 ∧ gI h' 53 2 = gI h 53 2 ∧ gI h' 53 6 = gI h 53 6
def ML (h h' : aH) : Prop := h'.2.2 = h.2.2 ∧ (∀ c, 12 ≤ c ∧ c ≤ 17 → ∀ i, gA h' c i = gA h c i) ∧ gI h' 0 16 = gI h 0 16
theorem CL_of {h h' : aH} (c : CS h h') : CL h h' := ⟨c.1, fun a ha i => c.2.1 a (by omega) i, c.2.2.2.2.2.1, c.2.2.2.2.2.2.1, c.2.2.2.2.2.2.2.1, c.2.2.2.2.2.2.2.2⟩
theorem ML_of {h h' : aH} (m : MS h h') : ML h h' := ⟨m.1, fun a ha i => m.2.1 a (by omega) i, m.2.2.2.2.2 16 (by omega)⟩
/-- a relation of the two laws that reads nothing but their own cells, and knows how many CLAUSES there are -/
def LRok (LR : aH → aH → Prop) : Prop := (∀ hc hc' hm hm', CL hc hc' → ML hm hm' → LR hc hm → LR hc' hm') ∧ ∀ hc hm, LR hc hm → gI hc (gR hc 42 0) 6 = gI hm 0 16
/-- the tape: tn bytes are on it -/
def TapeR (hc hm : aH) (tn : Nat) (tb : Nat → Nat) : Prop := tn ≤ 220 ∧ gI hc 37 1 = nI tn ∧ gI hm 0 1 = nI tn ∧ ∀ i, i < 220 → tb i < 256 ∧ gA hc 38 i = nI (tb i) ∧ gA hm 1 i &&& 255 = nI (tb i)
theorem Tape_to {hc hc' hm hm' : aH} {tn : Nat} {tb : Nat → Nat} (c : CS hc hc') (m : MS hm hm') (h : TapeR hc hm tn tb) : TapeR hc' hm' tn tb := by
  refine ⟨h.1, c.2.2.2.2.1.trans h.2.1, (m.2.2.2.2.2 1 (by omega)).trans h.2.2.1, fun i hi => ?_⟩
  rw [c.2.1 38 (by omega), m.2.1 1 (by omega)]
  exact h.2.2.2 i hi
/-- the invariant, with its witnesses outside -/
def InvL (LR : aH → aH → Prop) (hc hm : aH) (L : Lw) (hn gn : Nat) (kp : Bool) (LK : Lw) (tn : Nat) (tb : Nat → Nat) (l d : Nat) : Prop :=
  LayC hc l d ∧ LayM hm ∧ RepC hc 1 L ∧ RepM hm L ∧ WF L hn gn ∧ gI hc 0 10 = b2i kp ∧ gI hm 0 60 = b2i kp ∧ (kp = true → RepC hc 13 LK ∧ RepK hm LK ∧ ∃ hk gk, WF LK hk gk) ∧ TapeR hc hm tn tb ∧ LR hc hm
def Inv (LR : aH → aH → Prop) (hc hm : aH) : Prop := ∃ (L : Lw) (hn gn : Nat) (kp : Bool) (LK : Lw) (tn : Nat) (tb : Nat → Nat) (l d : Nat), InvL LR hc hm L hn gn kp LK tn tb l d
theorem Inv_step {LR : aH → aH → Prop} (ok : LRok LR) {hc hm hc' hm' : aH} {L : Lw} {hn gn : Nat} {kp : Bool} {LK : Lw} {tn : Nat} {tb : Nat → Nat} {l d : Nat} (I : InvL LR hc hm L hn gn kp LK tn tb l d) {L' : Lw} {hn' gn' : Nat} (c : CS hc hc') (m : MS hm hm') (rc : RepC hc' 1 L') (rm : RepM hm' L') (w : WF L' hn' gn') : Inv LR hc' hm' := by
  obtain ⟨i1, i2, i3, i4, i5, i6, i7, i8, i9, i10⟩ := I
  exact ⟨L', hn', gn', kp, LK, tn, tb, l, d, LayC_2 c.1 i1, LayM_2 m.1 i2, rc, rm, w, c.2.2.2.1.trans i6, (m.2.2.2.2.2 60 (by omega)).trans i7, fun z => ⟨RepC_CS c (i8 z).1, RepK_MS m (i8 z).2.1, (i8 z).2.2⟩, Tape_to c m i9, ok.1 _ _ _ _ (CL_of c) (ML_of m) i10⟩
/-- nothing but scratch has changed -/
theorem Inv_same {LR : aH → aH → Prop} {hc hm : aH} {L : Lw} {hn gn : Nat} {kp : Bool} {LK : Lw} {tn : Nat} {tb : Nat → Nat} {l d : Nat} (I : InvL LR hc hm L hn gn kp LK tn tb l d) : Inv LR hc hm := ⟨L, hn, gn, kp, LK, tn, tb, l, d, I⟩
/-- rows of the reference after a change of one place -/
theorem RepM_now {h h' : aH} {L L' : Lw} (hR : RepM h L) (h1 : ∀ i, i < 256 → gA h' 2 i = L' 0 i ∧ gA h' 3 i = (if L' 1 i = (-2) then 1 else 0) ∧ gA h' 4 i = (if L' 1 i = (-2) then (-1) else L' 1 i)) (h2 : ∀ c i, 5 ≤ c → c ≤ 11 → gA h' c i = gA h c i) (h3 : ∀ f i, 2 ≤ f → L' f i = L f i) (h4 : ∀ j, gI h' 0 j = gI h 0 j) : RepM h' L' := by
  refine ⟨h1, fun i hi => ?_, fun i hi => ?_, ?_⟩
  · rw [h2 5 i (by omega) (by omega), h2 6 i (by omega) (by omega), h2 7 i (by omega) (by omega), h2 8 i (by omega) (by omega), h2 9 i (by omega) (by omega), h3 2 i (by omega), h3 3 i (by omega), h3 4 i (by omega), h3 5 i (by omega), h3 6 i (by omega)]
    exact hR.2.1 i hi
  · rw [h2 10 i (by omega) (by omega), h2 11 i (by omega) (by omega), h3 7 i (by omega), h3 8 i (by omega)]
    exact hR.2.2.1 i hi
  · rw [h4, h4, h4, h4, h3 9 0 (by omega), h3 9 1 (by omega), h3 9 2 (by omega), h3 9 3 (by omega)]
    exact hR.2.2.2
section Steps
variable {LR : aH → aH → Prop}
/-- SEED -/
theorem s_seed (ok : LRok LR) : st_seed (Inv LR) SC SM := by
  intro hc hm a1 hI
  obtain ⟨L, hn, gn, kp, LK, tn, tb, l, d, I⟩ := hI
  obtain ⟨i1, i2, i3, i4, i5, -⟩ := id I
  unfold f_X10_seed
  refine sp_within (fun h1 h2 => ?_) (fun h0 => ?_)
  · refine aIf_t (by decide) ?_
    rw [c_0_0 i1, co_1]
    refine ⟨trivial, fun h5 e5 => ?_⟩
    unfold f_X11_seed
    show f_X11_lies SM a1.toInt64 (Int32.toInt64 0) (Int32.toInt64 65535) hm _
    refine sp_lies (fun _ _ => ?_) (fun z => absurd ⟨h1, h2⟩ z)
    refine aIf_t (by decide) ?_
    intro h6 e6
    refine ⟨rfl, ?_⟩
    have u : ∀ f i, ¬ (f = 9 ∧ i = 3) → uL L 9 3 a1 f i = L f i := fun f i hf => uL_n hf
    have u1 : ∀ t, uL L 9 3 a1 1 t = L 1 t := fun t => u 1 t (by omega)
    have u4 : ∀ t, uL L 9 3 a1 4 t = L 4 t := fun t => u 4 t (by omega)
    subst e5
    subst e6
    refine Inv_step ok (L' := uL L 9 3 a1) (hn' := hn) (gn' := gn) I (CS_K (Or.inl rfl) FrK_sI) (MS_sI (by omega)) ?_ ?_ ?_
    · refine ⟨fun i hi => ?_, fun i hi => ?_, fun i hi => ?_, ?_⟩
      · rw [gaps_eq u1, warm_eq u1 u4, u 0 i (by omega), u1]
        exact i3.1 i hi
      · rw [u 2 i (by omega), u 3 i (by omega), u4, u 5 i (by omega), u 6 i (by omega)]
        exact i3.2.1 i hi
      · rw [u 7 i (by omega), u 8 i (by omega)]
        exact i3.2.2.1 i hi
      · rw [u 9 0 (by omega), u 9 1 (by omega), u 9 2 (by omega), uL_s]
        exact ⟨i3.2.2.2.1, i3.2.2.2.2.1, i3.2.2.2.2.2.1, rfl⟩
    · refine ⟨fun i hi => ?_, fun i hi => ?_, fun i hi => ?_, ?_⟩
      · rw [u 0 i (by omega), u1]
        exact i4.1 i hi
      · rw [u 2 i (by omega), u 3 i (by omega), u4, u 5 i (by omega), u 6 i (by omega)]
        exact i4.2.1 i hi
      · rw [u 7 i (by omega), u 8 i (by omega)]
        exact i4.2.2.1 i hi
      · rw [u 9 0 (by omega), u 9 1 (by omega), u 9 2 (by omega), uL_s]
        exact ⟨i4.2.2.2.1, i4.2.2.2.2.1, i4.2.2.2.2.2.1, rfl⟩
    · obtain ⟨w1, w2, w3, w4, w5, w6, w7, w8, w9, w10⟩ := i5
      refine ⟨w1, w2, by rw [u 9 0 (by omega)]; exact w3, by rw [u 9 1 (by omega)]; exact w4, fun i hi => by rw [u 0 i (by omega)]; exact w5 i hi, fun i hi => ?_, fun m hm => by rw [u 2 m (by omega)]; exact w7 m hm, fun m hm => ?_, fun g hg => ?_, ?_⟩
      · rw [u1]
        rcases w6 i hi with z | z | ⟨m, z1, z2, z3⟩
        · exact Or.inl z
        · exact Or.inr (Or.inl z)
        · exact Or.inr (Or.inr ⟨m, z1, z2, by rw [u 2 m (by omega)]; exact z3⟩)
      · rw [u 3 m (by omega), u4, u 5 m (by omega), u 6 m (by omega)]
        exact w8 m hm
      · rw [u 7 g (by omega), u 8 g (by omega)]
        refine ⟨?_, (w9 g hg).2⟩
        rcases (w9 g hg).1 with z | ⟨s, z1, z2, z3⟩
        · exact Or.inl z
        · exact Or.inr ⟨s, z1, z2, by rw [u1]; exact z3⟩
      · rw [uL_s]
        obtain ⟨j, hj, e⟩ := nI_of2 (x := a1) (M := 65535) (n := 65535) (by decide) (Int32.not_lt.mpr h1) h2
        exact ⟨j, hj, e⟩
  · refine aIf_f (by decide) ?_
    unfold f_X11_seed
    show f_X11_lies SM a1.toInt64 (Int32.toInt64 0) (Int32.toInt64 65535) hm _
    refine sp_lies (fun z1 z2 => absurd ⟨z1, z2⟩ h0) (fun _ => ?_)
    exact aIf_f (by decide) ⟨rfl, Inv_same I⟩
end Steps
