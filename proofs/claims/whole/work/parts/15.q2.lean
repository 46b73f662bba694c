/-! ===== the tape ===== -/
/-- as CS, MS, but for the tape -/
def CT (h h' : aH) : Prop := h'.2.2 = h.2.2 ∧ (∀ c, (13 ≤ c ∧ c ≤ 24) ∨ (44 ≤ c ∧ c ≤ 48) ∨ (54 ≤ c ∧ c ≤ 58) → ∀ i, gA h' c i = gA h c i) ∧ (∀ j, gI h' 13 j = gI h 13 j) ∧ gI h' 0 10 = gI h 0 10 ∧ gI h' 43 2 = gI h 43 2 ∧ gI h' 43 6 = gI h 43 6 ∧ gI h' 53 2 = gI h 53 2 ∧ gI h' 53 6 = gI h 53 6
def MT (h h' : aH) : Prop := h'.2.2 = h.2.2 ∧ (∀ c, (12 ≤ c ∧ c ≤ 17) ∨ (41 ≤ c ∧ c ≤ 46) → ∀ i, gA h' c i = gA h c i) ∧ (∀ c, 29 ≤ c ∧ c ≤ 31 → ∀ i, 256 ≤ i → gA h' c i = gA h c i) ∧ (∀ i, 8 ≤ i → gA h' 32 i = gA h 32 i) ∧ (∀ i, 1 ≤ i → gA h' 33 i = gA h 33 i) ∧ (∀ j, j = 16 ∨ (60 ≤ j ∧ j ≤ 63) → gI h' 0 j = gI h 0 j)
theorem CT_CS {h h' : aH} (c : CS h h') : CT h h' := ⟨c.1, fun a ha i => c.2.1 a (by omega) i, c.2.2.1, c.2.2.2.1, c.2.2.2.2.2⟩
theorem MT_MS {h h' : aH} (c : MS h h') : MT h h' := ⟨c.1, fun a ha i => c.2.1 a (by omega) i, c.2.2.1, c.2.2.2.1, c.2.2.2.2.1, fun j hj => c.2.2.2.2.2 j (by omega)⟩
theorem CT_tr {a b c : aH} (x : CT a b) (y : CT b c) : CT a c := by
  obtain ⟨x1, x2, x3, x4, x6, x7, x8, x9⟩ := x
  obtain ⟨y1, y2, y3, y4, y6, y7, y8, y9⟩ := y
  exact ⟨y1.trans x1, fun c hc i => (y2 c hc i).trans (x2 c hc i), fun j => (y3 j).trans (x3 j), y4.trans x4, y6.trans x6, y7.trans x7, y8.trans x8, y9.trans x9⟩
theorem MT_tr {a b c : aH} (x : MT a b) (y : MT b c) : MT a c := by
  obtain ⟨x1, x2, x3, x4, x5, x6⟩ := x
  obtain ⟨y1, y2, y3, y4, y5, y6⟩ := y
  exact ⟨y1.trans x1, fun c hc i => (y2 c hc i).trans (x2 c hc i), fun c hc i hi => (y3 c hc i hi).trans (x3 c hc i hi), fun i hi => (y4 i hi).trans (x4 i hi), fun i hi => (y5 i hi).trans (x5 i hi), fun j hj => (y6 j hj).trans (x6 j hj)⟩
theorem Inv_tape {LR : aH → aH → Prop} (ok : LRok LR) {hc hm hc' hm' : aH} {L : Lw} {hn gn : Nat} {kp : Bool} {LK : Lw} {tn : Nat} {tb : Nat → Nat} {l d : Nat} (I : InvL LR hc hm L hn gn kp LK tn tb l d) {L' : Lw} {hn' gn' tn' : Nat} {tb' : Nat → Nat} (c : CT hc hc') (m : MT hm hm') (rc : RepC hc' 1 L') (rm : RepM hm' L') (w : WF L' hn' gn') (t : TapeR hc' hm' tn' tb') : Inv LR hc' hm' := by
  obtain ⟨i1, i2, i3, i4, i5, i6, i7, i8, i9, i10⟩ := I
  obtain ⟨c1, c2, c3, c4, c5, c6, c7, c8⟩ := c
  obtain ⟨m1, m2, m3, m4, m5, m6⟩ := m
  refine ⟨L', hn', gn', kp, LK, tn', tb', l, d, LayC_2 c1 i1, LayM_2 m1 i2, rc, rm, w, c4.trans i6, (m6 60 (by omega)).trans i7, fun z => ⟨?_, ?_, (i8 z).2.2⟩, t, ok.1 _ _ _ _ ⟨c1, fun a ha i => c2 a (by omega) i, c5, c6, c7, c8⟩ ⟨m1, fun a ha i => m2 a (by omega) i, m6 16 (by omega)⟩ i10⟩
  · exact RepC_gA (fun c i h1 h2 => c2 c (by omega) i) c3 (i8 z).1
  · have hR := (i8 z).2.1
    refine ⟨fun i hi => ?_, fun i hi => ?_, fun i hi => ?_, ?_⟩
    · rw [m3 29 (by omega) _ (by omega), m3 30 (by omega) _ (by omega), m3 31 (by omega) _ (by omega)]
      exact hR.1 i hi
    · rw [m2 41 (by omega), m2 42 (by omega), m2 43 (by omega), m2 44 (by omega), m2 45 (by omega)]
      exact hR.2.1 i hi
    · rw [m4 _ (by omega), m2 46 (by omega)]
      exact hR.2.2.1 i hi
    · rw [m6 61 (by omega), m6 62 (by omega), m5 _ (by omega), m6 63 (by omega)]
      exact hR.2.2.2
/-- the class's tape holds b, its size is n; all else as in h -/
def TC (h h' : aH) (n : Nat) (b : Nat → Int32) : Prop := h'.2.2 = h.2.2 ∧ (∀ c i, c ≠ 38 → gA h' c i = gA h c i) ∧ (∀ c j, ¬ (c = 37 ∧ j = 1) → gI h' c j = gI h c j) ∧ gI h' 37 1 = nI n ∧ ∀ i, gA h' 38 i = b i
def TMr (h h' : aH) (n : Nat) (b : Nat → Int32) : Prop := h'.2.2 = h.2.2 ∧ (∀ c i, c ≠ 1 → gA h' c i = gA h c i) ∧ (∀ c j, ¬ (c = 0 ∧ j = 1) → gI h' c j = gI h c j) ∧ gI h' 0 1 = nI n ∧ ∀ i, gA h' 1 i = b i
theorem CT_TC {h h' : aH} {n : Nat} {b : Nat → Int32} (t : TC h h' n b) : CT h h' := ⟨t.1, fun c hc i => t.2.1 c i (by omega), fun j => t.2.2.1 _ _ (by omega), t.2.2.1 _ _ (by omega), t.2.2.1 _ _ (by omega), t.2.2.1 _ _ (by omega), t.2.2.1 _ _ (by omega), t.2.2.1 _ _ (by omega)⟩
theorem MT_TM {h h' : aH} {n : Nat} {b : Nat → Int32} (t : TMr h h' n b) : MT h h' := ⟨t.1, fun c hc i => t.2.1 c i (by omega), fun c hc i _ => t.2.1 c i (by omega), fun i _ => t.2.1 _ i (by omega), fun i _ => t.2.1 _ i (by omega), fun j hj => t.2.2.1 _ _ (by omega)⟩
def bt (x s : Int32) : Int32 := (x >>> (s &&& 31)) &&& 255
def bm (x s : Int32) : Int32 := (x >>> (s &&& 31)).toInt8.toInt32
def put1 (b : Nat → Int32) (n : Nat) (v : Int32) : Nat → Int32 := fun i => if i = n then v else b i
def put4 (f : Int32 → Int32 → Int32) (b : Nat → Int32) (n : Nat) (x : Int32) : Nat → Int32 := put1 (put1 (put1 (put1 b n (f x 24)) (n + 1) (f x 16)) (n + 1 + 1) (f x 8)) (n + 1 + 1 + 1) (f x 0)
theorem byte_and (y : Int32) : y.toInt8.toInt32 &&& 255 = y &&& 255 := by
  apply Int32.toBitVec_inj.mp
  have e : (y.toInt8.toInt32).toBitVec = (y.toBitVec.signExtend 8).signExtend 32 := rfl
  apply BitVec.eq_of_getLsbD_eq
  intro i hi
  rw [Int32.toBitVec_and, Int32.toBitVec_and, e, BitVec.getLsbD_and, BitVec.getLsbD_and]
  by_cases c : i < 8
  · rw [BitVec.getLsbD_signExtend, BitVec.getLsbD_signExtend]
    simp [hi, c]
  · have : ((255 : Int32).toBitVec).getLsbD i = false := by
      have : ∀ j, j < 32 → 8 ≤ j → ((255 : Int32).toBitVec).getLsbD j = false := by decide
      exact this i hi (by omega)
    rw [this, Bool.and_false, Bool.and_false]
theorem and255 (v : Int32) : ∃ n, n < 256 ∧ v &&& 255 = nI n := by
  have h1 : (v &&& 255).toBitVec.toNat ≤ 255 := by
    rw [Int32.toBitVec_and, BitVec.toNat_and]
    exact Nat.and_le_right
  refine ⟨(v &&& 255).toBitVec.toNat, by omega, ?_⟩
  apply Int32.toBitVec_inj.mp
  apply BitVec.eq_of_toNat_eq
  rw [← iI_nat]
  unfold iI
  rw [Int32.toBitVec_ofInt, BitVec.toNat_ofInt]
  omega
section Tape
variable {h h1 : aH} {l d n : Nat} {b : Nat → Int32}
theorem putC_step {x s : Int32} (hL : LayC h l d) (t : TC h h1 n b) (hn : n < 220) (hs : ¬ s < 0) {Q : aH → Prop} {m : Nat} (hq : ∀ h', TC h h' (n + 1) (put1 b n (bt x s)) → f_X8_putInt_16 SC 37 x Q m (s + (-8)) h') : f_X8_putInt_16 SC 37 x Q (m + 1) s h1 := by
  have hL1 := LayC_2 t.1 hL
  refine aIf_f hs ?_
  intro v ev
  rw [t.2.2.2.1] at ev
  subst ev
  rw [c_37_0 hL1, ca_38, vp_lt hn (by decide), cl (by omega)]
  refine ⟨trivial, fun h4 e4 v ev h6 e6 x2 ex => ?_⟩
  rw [e4, gI_sA, t.2.2.2.1] at ev
  subst ev ex
  refine hq h6 ?_
  subst e6 e4
  refine ⟨t.1, fun c i hc => ?_, fun c j hc => ?_, ?_, fun i => ?_⟩
  · rw [gA_sI, gA_sA, if_neg (fun z => hc z.1)]
    exact t.2.1 c i hc
  · rw [gI_sI, if_neg hc, gI_sA]
    exact t.2.2.1 c j hc
  · rw [gI_sI, if_pos ⟨rfl, rfl⟩, nI_1]
  · rw [gA_sI, gA_sA]
    unfold put1
    by_cases c : i = n
    · rw [if_pos ⟨rfl, c⟩, if_pos c]; rfl
    · rw [if_neg (fun z => c z.2), if_neg c]
      exact t.2.2.2.2 i
theorem sp_putInt {x : Int32} (hL : LayC h l d) (t : TC h h1 n b) (hn : n + 4 ≤ 220) {Q : aH → Prop} (hq : ∀ h', TC h h' (n + 4) (put4 bt b n x) → Q h') : f_X8_putInt SC 37 x h1 Q := by
  intro v ev
  rw [t.2.2.2.1] at ev
  subst ev
  refine aIf_t (by rw [show (4 : Int32) = nI 4 from rfl, nI_add]; exact nI_le (b := 220) hn (by decide)) ⟨5, ?_⟩
  refine putC_step hL t (by omega) (by decide) (fun h2 t2 => ?_)
  rw [show (24 : Int32) + (-8) = 16 from by decide]
  refine putC_step hL t2 (by omega) (by decide) (fun h3 t3 => ?_)
  rw [show (16 : Int32) + (-8) = 8 from by decide]
  refine putC_step hL t3 (by omega) (by decide) (fun h4 t4 => ?_)
  rw [show (8 : Int32) + (-8) = 0 from by decide]
  refine putC_step hL t4 (by omega) (by decide) (fun h5 t5 => ?_)
  exact aIf_t (by decide) (hq h5 t5)
theorem putM_step {x s : Int32} (hL : LayM h) (t : TMr h h1 n b) (hn : n < 220) (hs : ¬ s < 0) {Q : aH → Prop} {m : Nat} (hq : ∀ h', TMr h h' (n + 1) (put1 b n (bm x s)) → f_X11_push_3 SM 0 x Q m (s + (-8)) h') : f_X11_push_3 SM 0 x Q (m + 1) s h1 := by
  have hL1 := LayM_2 t.1 hL
  refine aIf_f hs ?_
  intro v ev
  rw [t.2.2.2.1] at ev
  subst ev
  rw [m_0 hL1, mi_1, vp_lt hn (by decide), cl (by omega)]
  refine ⟨trivial, ?_, fun h4 e4 v ev h6 e6 x2 ex => ?_⟩
  · show (Int32.toInt8 (Int8.toInt32 _)).toInt32 = _
    rw [Int8.toInt8_toInt32]
  rw [e4, gI_sA, t.2.2.2.1] at ev
  subst ev ex
  refine hq h6 ?_
  subst e6 e4
  refine ⟨t.1, fun c i hc => ?_, fun c j hc => ?_, ?_, fun i => ?_⟩
  · rw [gA_sI, gA_sA, if_neg (fun z => hc z.1)]
    exact t.2.1 c i hc
  · rw [gI_sI, if_neg hc, gI_sA]
    exact t.2.2.1 c j hc
  · rw [gI_sI, if_pos ⟨rfl, rfl⟩, nI_1]
  · rw [gA_sI, gA_sA]
    unfold put1
    by_cases c : i = n
    · rw [if_pos ⟨rfl, c⟩, if_pos c]; rfl
    · rw [if_neg (fun z => c z.2), if_neg c]
      exact t.2.2.2.2 i
theorem sr_push {x : Int32} (hL : LayM h) (t : TMr h h1 n b) (hn : n + 4 ≤ 220) {Q : aH → Prop} (hq : ∀ h', TMr h h' (n + 4) (put4 bm b n x) → Q h') : f_X11_push SM 0 x h1 Q := by
  refine ⟨5, ?_⟩
  refine putM_step hL t (by omega) (by decide) (fun h2 t2 => ?_)
  rw [show (24 : Int32) + (-8) = 16 from by decide]
  refine putM_step hL t2 (by omega) (by decide) (fun h3 t3 => ?_)
  rw [show (16 : Int32) + (-8) = 8 from by decide]
  refine putM_step hL t3 (by omega) (by decide) (fun h4 t4 => ?_)
  rw [show (8 : Int32) + (-8) = 0 from by decide]
  refine putM_step hL t4 (by omega) (by decide) (fun h5 t5 => ?_)
  exact aIf_t (by decide) (hq h5 t5)
end Tape
/-- bytes that are alike -/
def sameB (b b' : Nat → Int32) : Prop := ∀ i, i < 220 → b i = b' i &&& 255
theorem same1 {b b' : Nat → Int32} {n : Nat} {x s : Int32} (hb : sameB b b') : sameB (put1 b n (bt x s)) (put1 b' n (bm x s)) := by
  intro i hi
  unfold put1
  by_cases c : i = n
  · rw [if_pos c, if_pos c]
    unfold bm
    rw [byte_and]
    rfl
  · rw [if_neg c, if_neg c]; exact hb i hi
theorem same4 {b b' : Nat → Int32} {n : Nat} {x : Int32} (hb : sameB b b') : sameB (put4 bt b n x) (put4 bm b' n x) := same1 (same1 (same1 (same1 hb)))
theorem tape_of {hc hm : aH} {n : Nat} {b b' : Nat → Int32} (hn : n ≤ 220) (hb : sameB b b') (e1 : gI hc 37 1 = nI n) (e2 : gI hm 0 1 = nI n) (e3 : ∀ i, gA hc 38 i = b i) (e4 : ∀ i, gA hm 1 i = b' i) : ∃ tb, TapeR hc hm n tb := by
  refine ⟨fun i => (and255 (b' i)).choose, hn, e1, e2, fun i hi => ?_⟩
  have := (and255 (b' i)).choose_spec
  refine ⟨this.1, ?_, ?_⟩
  · rw [e3, hb i hi]; exact this.2
  · rw [e4]; exact this.2
section Steps7
variable {LR : aH → aH → Prop}
/-- FEED -/
theorem s_feed (ok : LRok LR) : st_feed (Inv LR) SC SM := by
  intro hc hm a1 a2 a3 a4 a5 hI
  obtain ⟨L, hn, gn, kp, LK, tn, tb, l, d, I⟩ := hI
  obtain ⟨i1, i2, i3, i4, i5, i6, i7, i8, i9, i10⟩ := id I
  obtain ⟨t1, t2, t3, t4⟩ := i9
  have tc : TC hc hc tn (gA hc 38) := ⟨rfl, fun _ _ _ => rfl, fun _ _ _ => rfl, t2, fun _ => rfl⟩
  have tm : TMr hm hm tn (gA hm 1) := ⟨rfl, fun _ _ _ => rfl, fun _ _ _ => rfl, t3, fun _ => rfl⟩
  have sb : sameB (gA hc 38) (gA hm 1) := fun i hi => (t4 i hi).2.1.trans (t4 i hi).2.2.symm
  have le : (nI tn + 20 ≤ 220) ↔ tn + 20 ≤ 220 := by
    rw [show (20 : Int32) = nI 20 from rfl, nI_add]
    exact nI_leI (b := 220) (by omega) (by decide)
  unfold f_X10_feed
  rw [c_0_3 i1, co_37]
  refine ⟨trivial, fun v ev => ?_⟩
  rw [t2] at ev
  subst ev
  refine aIf_i (fun c => ?_) (fun c => ?_)
  · have c' := le.mp c
    refine sp_putInt i1 tc (by omega) (fun h1 k1 => ?_)
    rw [c_0_3 (LayC_2 k1.1 i1), co_37]
    refine ⟨trivial, sp_putInt i1 k1 (by omega) (fun h2 k2 => ?_)⟩
    rw [c_0_3 (LayC_2 k2.1 i1), co_37]
    refine ⟨trivial, sp_putInt i1 k2 (by omega) (fun h3 k3 => ?_)⟩
    rw [c_0_3 (LayC_2 k3.1 i1), co_37]
    refine ⟨trivial, sp_putInt i1 k3 (by omega) (fun h4 k4 => ?_)⟩
    rw [c_0_3 (LayC_2 k4.1 i1), co_37]
    refine ⟨trivial, sp_putInt i1 k4 (by omega) (fun h5 k5 => ?_)⟩
    rw [c_0_3 (LayC_2 k5.1 i1), co_37]
    refine ⟨trivial, fun v ev => ?_⟩
    rw [k5.2.2.2.1] at ev
    subst ev
    intro v ev
    rw [t3] at ev
    subst ev
    refine aIf_t c ?_
    refine sr_push i2 tm (by omega) (fun g1 j1 => ?_)
    refine sr_push i2 j1 (by omega) (fun g2 j2 => ?_)
    refine sr_push i2 j2 (by omega) (fun g3 j3 => ?_)
    refine sr_push i2 j3 (by omega) (fun g4 j4 => ?_)
    refine sr_push i2 j4 (by omega) (fun g5 j5 => ?_)
    intro v ev
    rw [j5.2.2.2.1] at ev
    refine ⟨ev.symm, ?_⟩
    obtain ⟨tb', T⟩ := tape_of (by omega) (same4 (same4 (same4 (same4 (same4 sb))))) k5.2.2.2.1 j5.2.2.2.1 k5.2.2.2.2 j5.2.2.2.2
    exact Inv_tape ok I (CT_TC k5) (MT_TM j5) (RepC_gA (fun c i _ _ => k5.2.1 c i (by omega)) (fun j => k5.2.2.1 _ _ (by omega)) i3) (RepM_gA (fun c i _ _ => j5.2.1 c i (by omega)) (fun j _ _ => j5.2.2.1 _ _ (by omega)) i4) i5 T
  · intro v ev
    rw [t3] at ev
    subst ev
    exact aIf_f c ⟨rfl, Inv_same I⟩
end Steps7
