/-! ===== step: check ===== -/
theorem sh8 (x : Int32) : (x <<< (8 &&& 31)).toBitVec = x.toBitVec <<< 8 := rfl
theorem sh16 (x : Int32) : (x <<< (16 &&& 31)).toBitVec = x.toBitVec <<< 16 := rfl
theorem sh24 (x : Int32) : (x <<< (24 &&& 31)).toBitVec = x.toBitVec <<< 24 := rfl
theorem sh4 (a b c d : Int32) : (((((0 : Int32) <<< (8 &&& 31) ||| a) <<< (8 &&& 31) ||| b) <<< (8 &&& 31) ||| c) <<< (8 &&& 31) ||| d) = (((a <<< (24 &&& 31)) ||| (b <<< (16 &&& 31))) ||| (c <<< (8 &&& 31))) ||| d := by
  have z : (0 : Int32) <<< (8 &&& 31) ||| a = a := by
    rw [show (0 : Int32) <<< (8 &&& 31) = 0 from by decide, Int32.zero_or]
  rw [z]
  apply Int32.toBitVec_inj.mp
  rw [Int32.toBitVec_or, sh8, Int32.toBitVec_or, sh8, Int32.toBitVec_or, sh8, Int32.toBitVec_or, Int32.toBitVec_or, Int32.toBitVec_or, sh24, sh16, sh8]
  rw [BitVec.shiftLeft_or_distrib, BitVec.shiftLeft_or_distrib, BitVec.shiftLeft_or_distrib, ← BitVec.shiftLeft_add, ← BitVec.shiftLeft_add, ← BitVec.shiftLeft_add]
def numT (tb : Nat → Nat) (x : Nat) : Int32 := (((nI (tb (4 * x)) <<< (24 &&& 31)) ||| (nI (tb (4 * x + 1)) <<< (16 &&& 31))) ||| (nI (tb (4 * x + 2)) <<< (8 &&& 31))) ||| nI (tb (4 * x + 3))
def seenL (L : Lw) (s : Nat) : Int32 := if L 1 s = (-2) then (-1) else if L 1 s = (-1) then L 0 s else (-2)
def fwL (L : Lw) (tb : Nat → Nat) (y n : Nat) : Nat → Int32
  | 0 => (-1)
  | w + 1 => if numT tb (n - (w + 1)) = seenL L (16 * y + (n - (w + 1))) then fwL L tb y n w else nI (n - (w + 1))
theorem fwL_y {L : Lw} {tb : Nat → Nat} {y n w i : Nat} (hi : i + (w + 1) = n) (h : numT tb i = seenL L (16 * y + i)) : fwL L tb y n (w + 1) = fwL L tb y n w := by
  have e : n - (w + 1) = i := by omega
  show (if numT tb (n - (w + 1)) = seenL L (16 * y + (n - (w + 1))) then _ else _) = _
  rw [e, if_pos h]
theorem fwL_n {L : Lw} {tb : Nat → Nat} {y n w i : Nat} (hi : i + (w + 1) = n) (h : ¬ numT tb i = seenL L (16 * y + i)) : fwL L tb y n (w + 1) = nI i := by
  have e : n - (w + 1) = i := by omega
  show (if numT tb (n - (w + 1)) = seenL L (16 * y + (n - (w + 1))) then _ else _) = _
  rw [e, if_neg h]
section Chk
variable {h : aH} {l d k : Nat} {L : Lw} {hn gn : Nat} {Q : Int32 → aH → Prop} {tb : Nat → Nat}
theorem sp_byteAt (hL : LayC h l d) (ht : ∀ i, i < 220 → gA h 38 i = nI (tb i)) {j : Nat} (hj : j < 220) (hq : Q (nI (tb j)) h) : f_X8_byteAt SC 37 (nI j) h Q := by
  refine aIf_f (nI_pos (by omega)) (aIf_f (nI_ge (a := j) (b := 220) hj (by decide)) ?_)
  rw [c_37_0 hL, ca_38, vp_lt hj (by decide), cl (by omega), ht j hj]
  exact ⟨trivial, fun v ev => by subst ev; exact hq⟩
theorem sr_byteAt (hL : LayM h) (ht : ∀ i, i < 220 → gA h 1 i &&& 255 = nI (tb i)) {j : Nat} (hj : j < 220) (hq : Q (nI (tb j)) h) : f_X11_byteAt SM 0 (nI j) h Q := by
  unfold f_X11_byteAt
  rw [m_0 hL, mi_1, vp_lt hj (by decide), cl (by omega)]
  exact ⟨trivial, fun v ev => by subst ev; rw [ht j hj]; exact hq⟩
theorem sp_intAt (hL : LayC h l d) (ht : ∀ i, i < 220 → gA h 38 i = nI (tb i)) {x : Nat} (hx : x < 16) (hq : Q (numT tb x) h) : f_X8_intAt SC 37 (4 * nI x) h Q := by
  have e : (4 : Int32) * nI x = nI (4 * x) := by rw [show (4 : Int32) = nI 4 from rfl, pk_mul]
  unfold f_X8_intAt
  rw [e]
  refine sp_byteAt hL ht (by omega) ?_
  rw [show nI (4 * x) + 1 = nI (4 * x + 1) from nI_1 _]
  refine sp_byteAt hL ht (by omega) ?_
  rw [show nI (4 * x) + 2 = nI (4 * x + 2) from nI_add _ 2]
  refine sp_byteAt hL ht (by omega) ?_
  rw [show nI (4 * x) + 3 = nI (4 * x + 3) from nI_add _ 3]
  refine sp_byteAt hL ht (by omega) ?_
  exact hq
theorem sr_numberAt (hL : LayM h) (ht : ∀ i, i < 220 → gA h 1 i &&& 255 = nI (tb i)) {x : Nat} (hx : x < 16) (hq : Q (numT tb x) h) : f_X11_numberAt SM 0 (nI x) h Q := by
  have e : (4 : Int32) * nI x = nI (4 * x) := by rw [show (4 : Int32) = nI 4 from rfl, pk_mul]
  have st : ∀ (i w : Nat) (v : Int32), i < 4 → f_X11_numberAt_4 SM 0 (nI x) Q w ((v <<< (8 &&& 31)) ||| nI (tb (4 * x + i))) (nI (i + 1)) h → f_X11_numberAt_4 SM 0 (nI x) Q (w + 1) v (nI i) h := by
    intro i w v hi hq2
    refine aIf_f (nI_ge (a := i) (b := 4) hi (by decide)) ?_
    rw [m_0 hL, e, nI_add, mi_1, vp_lt (show 4 * x + i < 220 by omega) (by decide), cl (by omega)]
    refine ⟨trivial, fun v ev x2 e2 x3 e3 => ?_⟩
    subst ev
    rw [ht _ (by omega)] at e2
    rw [nI_1] at e3
    subst e2 e3
    exact hq2
  refine ⟨5, st 0 4 0 (by decide) (st 1 3 _ (by decide) (st 2 2 _ (by decide) (st 3 1 _ (by decide) ?_)))⟩
  refine aIf_t (by decide) ?_
  rw [sh4]
  exact hq
theorem sp_seenAt (hk : isLake k) (hL : LayC h l d) (hR : RepC h k L) {s : Nat} (hs : s < 256) (hq : Q (seenL L s) h) : f_X2_seenAt SC k (nI s) h Q := by
  unfold f_X2_seenAt
  refine sp_stateOf hk hL hR hs ?_
  unfold seenL at hq
  by_cases c : L 1 s = (-2)
  · rw [if_pos c] at hq
    rw [if_pos c]
    exact aIf_t (by decide) hq
  · rw [if_neg c] at hq
    rw [if_neg c]
    by_cases c2 : L 1 s = (-1)
    · rw [if_pos c2] at hq
      rw [if_pos c2]
      refine aIf_f (fun z => z rfl) ?_
      rw [lk_0 hk hL, li_1 hk, vp_lt hs (by decide), cl (by omega), (hR.1 s hs).1]
      exact ⟨trivial, fun v ev => by subst ev; exact hq⟩
    · rw [if_neg c2] at hq
      rw [if_neg c2]
      exact aIf_t (by decide) hq
theorem sp_firstWrong (hL : LayC h l d) (hR : RepC h 1 L) (ht : ∀ i, i < 220 → gA h 38 i = nI (tb i)) {y n : Nat} (hy : y < 16) (hn16 : n ≤ 16) (hq : Q (fwL L tb y n n) h) : f_X10_firstWrong SC 0 (nI y) (nI n) h Q := by
  have key : ∀ w i, i + w = n → Q (fwL L tb y n w) h → f_X10_firstWrong_2 SC 0 (nI y) (nI n) Q (w + 1) (nI i) h := by
    intro w
    induction w with
    | zero =>
      intro i hi hq
      exact aIf_t (nI_le (by omega) (by omega)) hq
    | succ w ih =>
      intro i hi hq
      refine aIf_f (nI_ge (by omega) (by omega)) ?_
      rw [c_0_3 hL, co_37]
      refine ⟨trivial, sp_intAt hL ht (by omega) ?_⟩
      show aObj SC (gR h 0 0) 1 flX2 ∧ f_X2_seenAt SC (gR h 0 0) (16 * nI y + nI i) h _
      rw [c_0_0 hL, co_1, sq_at]
      refine ⟨trivial, sp_seenAt (Or.inl rfl) hL hR (by omega) ?_⟩
      refine aIf_i (fun c => ?_) (fun c => ?_)
      · intro x ex
        rw [nI_1] at ex
        subst ex
        rw [fwL_y hi c] at hq
        exact ih (i + 1) (by omega) hq
      · rw [fwL_n hi c] at hq
        exact hq
  exact ⟨n + 1, key n 0 (by omega) hq⟩
theorem sr_check (hL : LayM h) (hM : RepM h L) (hW : WF L hn gn) (ht : ∀ i, i < 220 → gA h 1 i &&& 255 = nI (tb i)) {y n : Nat} (hy : y < 16) (hn16 : n ≤ 16) (hq : Q (fwL L tb y n n) h) : ∃ m, f_X11_check_39 SM 0 (nI y) (nI n) Q m 0 h := by
  have key : ∀ w i, i + w = n → Q (fwL L tb y n w) h → f_X11_check_39 SM 0 (nI y) (nI n) Q (w + 1) (nI i) h := by
    intro w
    induction w with
    | zero =>
      intro i hi hq
      exact aIf_t (nI_le (by omega) (by omega)) hq
    | succ w ih =>
      intro i hi hq
      refine aIf_f (nI_ge (by omega) (by omega)) ?_
      intro x ex
      rw [sq_at] at ex
      subst ex
      have hs : 16 * y + i < 256 := by omega
      refine sr_numberAt hL ht (by omega) ?_
      have nx : numT tb i = seenL L (16 * y + i) → ∀ x : Int32, x = nI i + 1 → f_X11_check_39 SM 0 (nI y) (nI n) Q (w + 1) x h := fun c x ex => by
        rw [nI_1] at ex
        subst ex
        rw [fwL_y hi c] at hq
        exact ih (i + 1) (by omega) hq
      have no : ¬ numT tb i = seenL L (16 * y + i) → Q (nI i) h := fun c => by rw [fwL_n hi c] at hq; exact hq
      unfold seenL at nx no
      rw [m_7 hL, mi_3, vp_lt hs (by decide), cl (by omega), (hM.1 _ hs).2.1]
      refine ⟨trivial, fun v ev => ?_⟩
      subst ev
      by_cases c : L 1 (16 * y + i) = (-2)
      · rw [if_pos c] at nx no
        rw [if_pos c]
        exact aIf_f (by decide) (aIf_i nx no)
      · rw [if_neg c] at nx no
        rw [if_neg c]
        refine aIf_t rfl ?_
        rw [m_8 hL, mi_4, vp_lt hs (by decide), (hM.1 _ hs).2.2, if_neg c]
        refine ⟨trivial, fun v ev => ?_⟩
        subst ev
        refine aIf_i (fun c2 => ?_) (fun c2 => ?_)
        · rw [if_pos c2] at nx no
          rw [m_6 hL, mi_2, vp_lt hs (by decide), (hM.1 _ hs).1]
          refine ⟨trivial, fun v ev => ?_⟩
          subst ev
          exact aIf_i nx no
        · rw [if_neg c2] at nx no
          exact aIf_i nx no
  exact ⟨n + 1, key n 0 (by omega) hq⟩
end Chk
section Steps9
variable {LR : aH → aH → Prop}
theorem TC_0 {h : aH} : TC h (sI h 37 1 0) 0 (gA h 38) := ⟨rfl, fun _ _ _ => rfl, fun c j hc => by rw [gI_sI, if_neg hc], by rw [gI_sI, if_pos ⟨rfl, rfl⟩]; rfl, fun _ => rfl⟩
theorem TMr_0 {h : aH} : TMr h (sI h 0 1 0) 0 (gA h 1) := ⟨rfl, fun _ _ _ => rfl, fun c j hc => by rw [gI_sI, if_neg hc], by rw [gI_sI, if_pos ⟨rfl, rfl⟩]; rfl, fun _ => rfl⟩
/-- CHECK -/
theorem s_check (ok : LRok LR) : st_check (Inv LR) SC SM := by
  intro hc hm a1 a2 hI
  obtain ⟨L, hn, gn, kp, LK, tn, tb, l, d, I⟩ := hI
  obtain ⟨i1, i2, i3, i4, i5, i6, i7, i8, i9, i10⟩ := id I
  obtain ⟨t1, t2, t3, t4⟩ := id i9
  unfold f_X10_check
  have side : ∀ Q : Int32 → aH → Prop, (0 ≤ a1 ∧ a1 ≤ 15 → Q 1 hm) → (¬ (0 ≤ a1 ∧ a1 ≤ 15) → Q 0 hm) → f_X11_isSide SM a1 hm Q := by
    intro Q q1 q0
    show f_X11_lies SM a1.toInt64 (Int32.toInt64 0) (Int32.toInt64 15) hm _
    exact sp_lies (fun x y => ⟨aB1, q1 ⟨x, y⟩⟩) (fun z => ⟨aB0, q0 z⟩)
  by_cases p1 : 0 ≤ a1 ∧ a1 ≤ 15
  rotate_left
  · refine wi_f p1 (aIf_t rfl ?_)
    exact side _ (fun z => absurd z p1) (fun _ => aIf_t rfl ⟨rfl, Inv_same I⟩)
  refine wi_t p1 (aIf_f (by decide) ?_)
  by_cases p2 : 0 ≤ a2 ∧ a2 ≤ 16
  rotate_left
  · refine wi_f p2 (aIf_t rfl ?_)
    refine side _ (fun _ => aIf_f (by decide) ?_) (fun z => absurd p1 z)
    exact li_f (b := 0) (c := 16) p2 (aIf_t rfl ⟨rfl, Inv_same I⟩)
  refine wi_t p2 (aIf_f (by decide) ?_)
  obtain ⟨y, hy, ey⟩ := nI_of2 (x := a1) (M := 15) (n := 15) (by decide) (Int32.not_lt.mpr p1.1) p1.2
  obtain ⟨n, hn16, en⟩ := nI_of2 (x := a2) (M := 16) (n := 16) (by decide) (Int32.not_lt.mpr p2.1) p2.2
  subst ey en
  rw [c_0_3 i1, co_37, t2]
  refine ⟨trivial, fun v ev => ?_⟩
  subst ev
  have e4 : (4 : Int32) * nI n = nI (4 * n) := by rw [show (4 : Int32) = nI 4 from rfl, pk_mul]
  have e5 : nI tn / 4 = nI (tn / 4) := pk_div (a := tn) (d := 4) (by omega) (by decide) (by decide)
  rw [e4]
  refine aIf_i (fun c => ?_) (fun c => ?_)
  · have c' := (nI_leI (by omega) (by omega)).mp c
    refine sp_firstWrong i1 i3 (fun i hi => (t4 i hi).2.1) (by omega) hn16 ?_
    rw [c_0_3 i1, co_37]
    refine ⟨trivial, fun h1 e1 => ?_⟩
    refine side _ (fun _ => aIf_f (by decide) ?_) (fun z => absurd p1 z)
    refine li_t (b := 0) (c := 16) p2 (aIf_f (by decide) ?_)
    intro v ev
    rw [t3] at ev
    subst ev
    rw [e5]
    refine aIf_t (nI_le (by omega) (by omega)) ?_
    intro h2 e2
    have tc : TC hc h1 0 (gA hc 38) := by rw [e1]; exact TC_0
    have tm : TMr hm h2 0 (gA hm 1) := by rw [e2]; exact TMr_0
    have sb : sameB (gA hc 38) (gA hm 1) := fun i hi => (t4 i hi).2.1.trans (t4 i hi).2.2.symm
    obtain ⟨tb', T⟩ := tape_of (by omega) sb tc.2.2.2.1 tm.2.2.2.1 tc.2.2.2.2 tm.2.2.2.2
    have r4 : RepM h2 L := RepM_gA (fun c i _ _ => tm.2.1 c i (by omega)) (fun j _ _ => tm.2.2.1 _ _ (by omega)) i4
    refine sr_check (LayM_2 tm.1 i2) r4 i5 (fun i hi => by rw [tm.2.2.2.2]; exact (t4 i hi).2.2) (by omega) hn16 ⟨rfl, ?_⟩
    exact Inv_tape ok I (CT_TC tc) (MT_TM tm) (RepC_gA (fun c i _ _ => tc.2.1 c i (by omega)) (fun j => tc.2.2.1 _ _ (by omega)) i3) r4 i5 T
  · refine side _ (fun _ => aIf_f (by decide) ?_) (fun z => absurd p1 z)
    refine li_t (b := 0) (c := 16) p2 (aIf_f (by decide) ?_)
    intro v ev
    rw [t3] at ev
    subst ev
    rw [e5]
    exact aIf_f (fun z => c (nI_le (by have := (nI_leI (by omega) (by omega)).mp z; omega) (by omega))) ⟨rfl, Inv_same I⟩
end Steps9
