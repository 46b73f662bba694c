/-! ===== step: fee ===== -/
def fbN (F : LF) (L : Lw) (sq wo : Nat → Nat) (load : Int32) : Nat → Nat
  | 0 => 0
  | i + 1 => if bearsL F L (sq i) < load then fbN F L sq wo load i else max (fbN F L sq wo load i) (wo i)
def fvN (F : LF) (L : Lw) (sq wo : Nat → Nat) (load : Int32) (best i : Nat) : Nat := if load ≤ bearsL F L (sq i) then 0 else wo i - best
def fsN (F : LF) (L : Lw) (sq wo : Nat → Nat) (load : Int32) (best : Nat) : Nat → Nat
  | 0 => 0
  | i + 1 => fsN F L sq wo load best i + fvN F L sq wo load best i
def foN (F : LF) (L : Lw) (sq wo : Nat → Nat) (load : Int32) (best : Nat) (wh : Option Nat) (i : Nat) : Nat := match wh with
  | none => 0
  | some w => if w < i then fvN F L sq wo load best w else 0
def faN (F : LF) (L : Lw) (sq wo : Nat → Nat) (load : Int32) (best : Nat) (wh : Option Nat) (i : Nat) : Nat := match wh with
  | none => fsN F L sq wo load best i
  | some w => if w < i then fvN F L sq wo load best w else 0
theorem max_nI {a b : Nat} (ha : a < 2 ^ 31) (hb : b < 2 ^ 31) : aMax (nI a) (nI b) = nI (max a b) := by
  unfold aMax
  by_cases c : a < b
  · rw [if_pos ((nI_ltI ha hb).mpr c), Nat.max_eq_right (by omega)]
  · rw [if_neg (fun z => c ((nI_ltI ha hb).mp z)), Nat.max_eq_left (by omega)]
theorem max0_sub {a b : Nat} (ha : a < 1000) (hb : b < 1000) : aMax 0 (nI a - nI b) = nI (a - b) := by
  have e : nI a - nI b = iI ((a : Int) - b) := iI_sub a b
  unfold aMax
  rw [e, show (0 : Int32) = iI 0 from rfl]
  by_cases c : b < a
  · rw [if_pos ((iI_lt (by omega) (by omega) (by omega) (by omega)).mpr (by omega)), ← iI_nat]
    congr 1
    omega
  · rw [if_neg (fun z => absurd ((iI_lt (by omega) (by omega) (by omega) (by omega)).mp z) (by omega)), show a - b = 0 by omega]
    rfl
section Fee
variable {h : aH} {l d k n : Nat} {L : Lw} {hn gn : Nat} {F : LF} {sq wo : Nat → Nat} {load : Int32} {Q : Int32 → aH → Prop}
theorem fb_lt (hw : ∀ i, i < n → wo i < 256) : ∀ i, i ≤ n → fbN F L sq wo load i < 256 := by
  intro i
  induction i with
  | zero => intro _; exact (by decide : 0 < 256)
  | succ i ih =>
    intro hi
    have a := ih (by omega)
    have b := hw i (by omega)
    show (if bearsL F L (sq i) < load then _ else _) < 256
    split
    · exact a
    · exact Nat.max_lt.mpr ⟨a, b⟩
theorem fv_lt {best i : Nat} (hw : wo i < 256) : fvN F L sq wo load best i < 256 := by
  unfold fvN
  split <;> omega
theorem fee_c2 (hL : LayC h l d) (hR : RepC h 1 L) (hW : WF L hn gn) (hF : LC h l F) (e : gI h 39 2 = nI n) (hn : n ≤ 10) (hs : ∀ j, j < n → gA h 40 j = nI (sq j) ∧ sq j < 256 ∧ gA h 41 j = nI (wo j) ∧ wo j < 256) {best : Nat} (hb : best < 256) {wh : Option Nat} (hw : ∀ w, wh = some w → w < n) (hq : ∀ h', SFC h h' → Q (nI (faN F L sq wo load best wh n)) h') : ∃ m, f_X10_feeOf_69 SC 0 load (enc wh) Q m (nI best) 0 0 h := by
  have hk : isLake 1 := Or.inl rfl
  have hl := lay_isLaw hL
  have f0 : faN F L sq wo load best wh 0 = 0 := by cases wh <;> rfl
  have key := up_loop (N := n) (P := fun w i => ∀ h', SFC h h' → f_X10_feeOf_69 SC 0 load (enc wh) Q w (nI best) (nI (faN F L sq wo load best wh i)) (nI i) h') ?_ ?_
  · have := key h SFC_rf
    rw [f0] at this
    exact ⟨n + 1, this⟩
  · intro h' f'
    have l' := LayC_2 f'.1 hL
    unfold f_X10_feeOf_69
    rw [c_0_4 l', co_39]
    refine ⟨trivial, fun v ev => ?_⟩
    rw [f'.2.2 _ _ (by decide), e] at ev
    subst ev
    exact aIf_t (nI_le (Nat.le_refl _) (by omega)) (hq h' f')
  · intro w i hi n1 h' f'
    have l' := LayC_2 f'.1 hL
    unfold f_X10_feeOf_69
    rw [c_0_4 l', co_39]
    refine ⟨trivial, fun v ev => ?_⟩
    rw [f'.2.2 _ _ (by decide), e] at ev
    subst ev
    refine aIf_f (nI_ge hi (by omega)) ?_
    have no : faN F L sq wo load best wh (i + 1) = faN F L sq wo load best wh i → f_X10_feeOf_97 SC 0 load (enc wh) Q (f_X10_feeOf_69 SC 0 load (enc wh) Q (w + 1)) (nI best) (nI (faN F L sq wo load best wh i)) (nI i) 0 h' := by
      intro z
      refine aIf_t rfl (fun x ex => ?_)
      rw [nI_1] at ex
      subst ex
      rw [z] at n1
      exact n1 h' f'
    have yes : faN F L sq wo load best wh (i + 1) = faN F L sq wo load best wh i + fvN F L sq wo load best i → f_X10_feeOf_97 SC 0 load (enc wh) Q (f_X10_feeOf_69 SC 0 load (enc wh) Q (w + 1)) (nI best) (nI (faN F L sq wo load best wh i)) (nI i) 1 h' := by
      intro z
      refine aIf_f (by decide) ?_
      rw [c_0_4 l', co_39, c_39_0 l', ca_40, vp_lt (show i < 40 by omega) (by decide), cl (by omega), f'.2.1 _ _ (by decide), (hs i hi).1]
      refine ⟨trivial, trivial, fun v ev => ?_⟩
      subst ev
      rw [c_0_5 l', co_42, c_0_0 l', co_1]
      refine ⟨trivial, trivial, sp_bears hk l' (RepC_SFC hk f' hR) hW (LC_SFC hl f' hF) (hs i hi).2.1 (fun h2 f2 => ?_)⟩
      rw [z] at n1
      have f3 := SFC_tr f' f2
      have l2 := LayC_2 f3.1 hL
      unfold fvN at n1
      refine aIf_i (fun c => ?_) (fun c => ?_)
      · rw [if_pos c] at n1
        intro x ex
        rw [nI_1] at ex
        subst ex
        exact n1 h2 f3
      · rw [if_neg c] at n1
        rw [c_0_4 l2, co_39, c_39_1 l2, ca_41, vp_lt (show i < 40 by omega) (by decide), f3.2.1 _ _ (by decide), (hs i hi).2.2.1]
        refine ⟨trivial, trivial, fun v ev v' ev' x ex y ey => ?_⟩
        subst ev
        rw [max0_sub (by have := (hs i hi).2.2.2; omega) (by omega)] at ev'
        subst ev'
        rw [nI_add] at ex
        rw [nI_1] at ey
        subst ex ey
        exact n1 h2 f3
    refine aIf_i (fun c => ?_) (fun c => aIf_i (fun c2 => ?_) (fun c2 => ?_))
    · refine yes ?_
      rcases wh with _ | w'
      · rfl
      · exact absurd c (nI_neg1 (by have := hw w' rfl; omega))
    · refine no ?_
      rcases wh with _ | w'
      · exact absurd rfl c
      · show (if w' < i + 1 then _ else _) = if w' < i then _ else _
        have : w' ≠ i := fun z => c2 (by rw [z]; rfl)
        by_cases y : w' < i
        · rw [if_pos y, if_pos (by omega)]
        · rw [if_neg y, if_neg (by omega)]
    · refine yes ?_
      rcases wh with _ | w'
      · exact absurd rfl c
      · have : w' = i := (nI_eq (by have := hw w' rfl; omega) (by omega)).mp (Classical.not_not.mp c2)
        subst this
        show (if w' < w' + 1 then _ else _) = (if w' < w' then _ else _) + _
        rw [if_pos (by omega), if_neg (by omega), Nat.zero_add]
theorem sp_feeOf (hL : LayC h l d) (hR : RepC h 1 L) (hW : WF L hn gn) (hF : LC h l F) (e : gI h 39 2 = nI n) (hn : n ≤ 10) (hs : ∀ j, j < n → gA h 40 j = nI (sq j) ∧ sq j < 256 ∧ gA h 41 j = nI (wo j) ∧ wo j < 256) {wh : Option Nat} (hw : ∀ w, wh = some w → w < n) (hq : ∀ h', SFC h h' → Q (nI (faN F L sq wo load (fbN F L sq wo load n) wh n)) h') : f_X10_feeOf SC 0 load (enc wh) h Q := by
  have hk : isLake 1 := Or.inl rfl
  have hl := lay_isLaw hL
  have bl := fb_lt (F := F) (L := L) (sq := sq) (wo := wo) (load := load) (n := n) (fun i hi => (hs i hi).2.2.2)
  have key := up_loop (N := n) (P := fun w i => ∀ h', SFC h h' → f_X10_feeOf_5 SC 0 load (enc wh) Q w (nI (fbN F L sq wo load i)) (nI i) h') ?_ ?_
  · exact ⟨n + 1, key h SFC_rf⟩
  · intro h' f'
    have l' := LayC_2 f'.1 hL
    unfold f_X10_feeOf_5
    rw [c_0_4 l', co_39]
    refine ⟨trivial, fun v ev => ?_⟩
    rw [f'.2.2 _ _ (by decide), e] at ev
    subst ev
    refine aIf_t (nI_le (Nat.le_refl _) (by omega)) ?_
    exact fee_c2 l' (RepC_SFC hk f' hR) hW (LC_SFC hl f' hF) ((f'.2.2 _ _ (by decide)).trans e) hn (fun j hj => by rw [f'.2.1 _ _ (by decide), f'.2.1 _ _ (by decide)]; exact hs j hj) (bl n (Nat.le_refl _)) hw (fun h2 f2 => hq h2 (SFC_tr f' f2))
  · intro w i hi n1 h' f'
    have l' := LayC_2 f'.1 hL
    unfold f_X10_feeOf_5
    rw [c_0_4 l', co_39]
    refine ⟨trivial, fun v ev => ?_⟩
    rw [f'.2.2 _ _ (by decide), e] at ev
    subst ev
    refine aIf_f (nI_ge hi (by omega)) ?_
    rw [c_39_0 l', ca_40, vp_lt (show i < 40 by omega) (by decide), cl (by omega), f'.2.1 _ _ (by decide), (hs i hi).1]
    refine ⟨trivial, fun v ev => ?_⟩
    subst ev
    rw [c_0_5 l', co_42, c_0_0 l', co_1]
    refine ⟨trivial, trivial, sp_bears hk l' (RepC_SFC hk f' hR) hW (LC_SFC hl f' hF) (hs i hi).2.1 (fun h2 f2 => ?_)⟩
    have f3 := SFC_tr f' f2
    have l2 := LayC_2 f3.1 hL
    unfold fbN at n1
    refine aIf_i (fun c => ?_) (fun c => ?_)
    · rw [if_pos c] at n1
      intro x ex
      rw [nI_1] at ex
      subst ex
      exact n1 h2 f3
    · rw [if_neg c] at n1
      rw [c_0_4 l2, co_39, c_39_1 l2, ca_41, vp_lt (show i < 40 by omega) (by decide), f3.2.1 _ _ (by decide), (hs i hi).2.2.1]
      refine ⟨trivial, trivial, fun v ev v' ev' x ex => ?_⟩
      subst ev
      rw [max_nI (by have := bl i (by omega); omega) (by have := (hs i hi).2.2.2; omega)] at ev'
      rw [nI_1] at ex
      subst ev' ex
      exact n1 h2 f3
theorem fee_m2 (hL : LayM h) (hM : RepM h L) (hW : WF L hn gn) (hF : LM h F) (hn : n ≤ 10) (hs : ∀ j, j < n → gA h 34 j = nI (sq j) ∧ sq j < 256 ∧ gA h 35 j = nI (wo j) ∧ wo j < 256) {best : Nat} (hb : best < 256) {wh : Option Nat} (hw : ∀ w, wh = some w → w < n) (hq : ∀ h', SFM h h' → Q (nI (faN F L sq wo load best wh n)) h') : ∃ m, f_X11_fee_153 SM 0 (nI n) load (enc wh) Q m (nI best) 0 0 0 h := by
  have f0 : foN F L sq wo load best wh 0 = 0 := by cases wh <;> rfl
  have key := up_loop (N := n) (P := fun w i => ∀ h', SFM h h' → f_X11_fee_153 SM 0 (nI n) load (enc wh) Q w (nI best) (nI (fsN F L sq wo load best i)) (nI (foN F L sq wo load best wh i)) (nI i) h') ?_ ?_
  · have := key h SFM_rf
    rw [f0] at this
    exact ⟨n + 1, this⟩
  · intro h' f'
    refine aIf_t (nI_le (Nat.le_refl _) (by omega)) ?_
    rcases wh with _ | w'
    · exact aIf_f (fun z => z rfl) (hq h' f')
    · exact aIf_t (nI_neg1 (by have := hw w' rfl; omega)) (hq h' f')
  · intro w i hi n1 h' f'
    have l' := LayM_2 f'.1 hL
    refine aIf_f (nI_ge hi (by omega)) ?_
    rw [m_52 l', mi_34, vp_lt (show i < 40 by omega) (by decide), cl (by omega), f'.2.1 _ _ (by decide), (hs i hi).1]
    refine ⟨trivial, fun v ev => ?_⟩
    subst ev
    refine sr_bears l' (RepM_SFM f' hM) hW (LM_SFM f' hF) (hs i hi).2.1 (fun h2 f2 => ?_)
    have f3 := SFM_tr f' f2
    have l2 := LayM_2 f3.1 hL
    have fin : ∀ s0 : Int32, s0 = nI (fvN F L sq wo load best i) → f_X11_fee_212 SM 0 (nI n) load (enc wh) Q (f_X11_fee_153 SM 0 (nI n) load (enc wh) Q (w + 1)) (nI best) (nI (fsN F L sq wo load best i)) (nI (foN F L sq wo load best wh i)) (nI i) s0 h2 := by
      intro s0 e0 x ex
      subst e0
      rw [nI_add] at ex
      subst ex
      refine aIf_i (fun c => ?_) (fun c => ?_)
      · intro y ey
        rw [nI_1] at ey
        subst ey
        have : foN F L sq wo load best wh (i + 1) = foN F L sq wo load best wh i := by
          rcases wh with _ | w'
          · rfl
          · show (if w' < i + 1 then _ else _) = if w' < i then _ else _
            have : w' ≠ i := fun z => c (by rw [z]; rfl)
            by_cases y : w' < i
            · rw [if_pos y, if_pos (by omega)]
            · rw [if_neg y, if_neg (by omega)]
        rw [this] at n1
        exact n1 h2 f3
      · intro y ey
        rw [nI_1] at ey
        subst ey
        have : foN F L sq wo load best wh (i + 1) = fvN F L sq wo load best i := by
          rcases wh with _ | w'
          · exact absurd (Classical.not_not.mp c) (nI_neg1 (by omega))
          · have : w' = i := ((nI_eq (by omega) (by have := hw w' rfl; omega)).mp (Classical.not_not.mp c)).symm
            subst this
            show (if w' < w' + 1 then _ else _) = _
            rw [if_pos (by omega)]
        rw [this] at n1
        exact n1 h2 f3
    have w35 : gA h2 35 i = nI (wo i) := (f3.2.1 _ _ (by decide)).trans (hs i hi).2.2.1
    have wl := (hs i hi).2.2.2
    unfold fvN at fin
    refine aIf_i (fun c => ?_) (fun c => ?_)
    · rw [if_pos c] at fin
      exact aIf_f (by decide) (fin 0 rfl)
    · rw [if_neg c] at fin
      rw [m_53 l2, mi_35, vp_lt (show i < 10 by omega) (by decide), w35]
      refine ⟨trivial, fun v ev => ?_⟩
      subst ev
      refine aIf_i (fun c2 => ?_) (fun c2 => ?_)
      · refine aIf_t rfl ⟨trivial, fun v ev => ?_⟩
        subst ev
        refine fin _ ?_
        have c3 := (nI_leI (by omega) (by omega)).mp c2
        rw [← iI_nat, ← iI_nat, iI_sub, ← iI_nat]
        congr 1
        omega
      · refine aIf_f (by decide) (fin 0 ?_)
        have c3 : ¬ best ≤ wo i := fun z => c2 ((nI_leI (by omega) (by omega)).mpr z)
        rw [show wo i - best = 0 by omega]
        rfl
theorem fee_m1 (hL : LayM h) (hM : RepM h L) (hW : WF L hn gn) (hF : LM h F) (hn : n ≤ 10) (hs : ∀ j, j < n → gA h 34 j = nI (sq j) ∧ sq j < 256 ∧ gA h 35 j = nI (wo j) ∧ wo j < 256) {wh : Option Nat} (hw : ∀ w, wh = some w → w < n) (hq : ∀ h', SFM h h' → Q (nI (faN F L sq wo load (fbN F L sq wo load n) wh n)) h') : ∃ m, f_X11_fee_96 SM 0 (nI n) load (enc wh) Q m 0 0 h := by
  have bl := fb_lt (F := F) (L := L) (sq := sq) (wo := wo) (load := load) (n := n) (fun i hi => (hs i hi).2.2.2)
  have key := up_loop (N := n) (P := fun w i => ∀ h', SFM h h' → f_X11_fee_96 SM 0 (nI n) load (enc wh) Q w (nI (fbN F L sq wo load i)) (nI i) h') ?_ ?_
  · exact ⟨n + 1, key h SFM_rf⟩
  · intro h' f'
    refine aIf_t (nI_le (Nat.le_refl _) (by omega)) ?_
    exact fee_m2 (LayM_2 f'.1 hL) (RepM_SFM f' hM) hW (LM_SFM f' hF) hn (fun j hj => by rw [f'.2.1 _ _ (by decide), f'.2.1 _ _ (by decide)]; exact hs j hj) (bl n (Nat.le_refl _)) hw (fun h2 f2 => hq h2 (SFM_tr f' f2))
  · intro w i hi n1 h' f'
    have l' := LayM_2 f'.1 hL
    refine aIf_f (nI_ge hi (by omega)) ?_
    rw [m_52 l', mi_34, vp_lt (show i < 40 by omega) (by decide), cl (by omega), f'.2.1 _ _ (by decide), (hs i hi).1]
    refine ⟨trivial, fun v ev => ?_⟩
    subst ev
    refine sr_bears l' (RepM_SFM f' hM) hW (LM_SFM f' hF) (hs i hi).2.1 (fun h2 f2 => ?_)
    have f3 := SFM_tr f' f2
    have l2 := LayM_2 f3.1 hL
    have w35 : gA h2 35 i = nI (wo i) := (f3.2.1 _ _ (by decide)).trans (hs i hi).2.2.1
    have wl := (hs i hi).2.2.2
    have b1 := bl i (by omega)
    unfold fbN at n1
    refine aIf_i (fun c => ?_) (fun c => ?_)
    · rw [if_pos c] at n1
      intro x ex
      rw [nI_1] at ex
      subst ex
      exact n1 h2 f3
    · rw [if_neg c] at n1
      rw [m_53 l2, mi_35, vp_lt (show i < 10 by omega) (by decide), w35]
      refine ⟨trivial, fun v ev => ?_⟩
      subst ev
      refine aIf_i (fun c2 => ?_) (fun c2 => ?_)
      · intro x ex
        rw [nI_1] at ex
        subst ex
        rw [Nat.max_eq_left ((nI_leI (by omega) (by omega)).mp c2)] at n1
        exact n1 h2 f3
      · refine ⟨trivial, fun v ev x ex => ?_⟩
        rw [nI_1] at ex
        subst ev ex
        have c3 : ¬ wo i ≤ fbN F L sq wo load i := fun z => c2 ((nI_leI (by omega) (by omega)).mpr z)
        rw [Nat.max_eq_right (by omega)] at n1
        exact n1 h2 f3
theorem sr_feeFirm (hL : LayM h) (hM : RepM h L) (hn : n ≤ 10) (hs : ∀ j, j < n → gA h 34 j = nI (sq j) ∧ sq j < 256) {wh : Int32} (h1 : (∀ i, i < n → L 1 (sq i) = (-1)) → ∃ m, f_X11_fee_96 SM 0 (nI n) load wh Q m 0 0 h) (h0 : ¬ (∀ i, i < n → L 1 (sq i) = (-1)) → Q (-2) h) : ∃ m, f_X11_fee_61 SM 0 (nI n) load wh Q m 0 h := by
  have key := up_loop (N := n) (P := fun w i => (∀ j, j < i → L 1 (sq j) = (-1)) → f_X11_fee_61 SM 0 (nI n) load wh Q w (nI i) h) ?_ ?_
  · exact ⟨n + 1, key (fun j hj => absurd hj (Nat.not_lt_zero _))⟩
  · intro hv
    exact aIf_t (nI_le (Nat.le_refl _) (by omega)) (h1 hv)
  · intro w i hi n1 hv
    refine aIf_f (nI_ge hi (by omega)) ?_
    rw [m_52 hL, mi_34, vp_lt (show i < 40 by omega) (by decide), cl (by omega), (hs i hi).1]
    refine ⟨trivial, fun v ev => ?_⟩
    subst ev
    refine sr_isIce hL hM (hs i hi).2 (fun c => aIf_t (by decide) ?_) (fun c => aIf_f (fun z => z rfl) (h0 (fun z => c (z i hi))))
    intro x ex
    rw [nI_1] at ex
    subst ex
    refine n1 (fun j hj => ?_)
    rcases Nat.lt_or_ge j i with z | z
    · exact hv j z
    · rw [show j = i by omega]; exact c
end Fee
/-- FEE -/
theorem s_fee : st_fee (Inv LR) SC SM := by
  intro hc hm a1 a2 a3 hI
  obtain ⟨L, hn, gn, kp, LK, tn, tb, l, d, I⟩ := hI
  obtain ⟨i1, i2, i3, i4, i5, i6, i7, i8, i9, i10⟩ := id I
  obtain ⟨t1, t2, t3, t4⟩ := id i9
  have hk : isLake 1 := Or.inl rfl
  have hl := lay_isLaw i1
  obtain ⟨F, F1, F2⟩ := LR_F i1 i10
  have load : ∀ Q : Int32 → aH → Prop, (0 ≤ a2 ∧ a2 ≤ 9999 → Q 1 hm) → (¬ (0 ≤ a2 ∧ a2 ≤ 9999) → Q 0 hm) → f_X11_isLoad SM a2 hm Q := by
    intro Q q1 q0
    show f_X11_lies SM a2.toInt64 (Int32.toInt64 0) (Int32.toInt64 9999) hm _
    exact sp_lies (fun x y => ⟨aB1, q1 ⟨x, y⟩⟩) (fun z => ⟨aB0, q0 z⟩)
  unfold f_X10_fee
  by_cases p1 : 1 ≤ a1 ∧ a1 ≤ 10
  rotate_left
  · refine wi_f p1 (aIf_t rfl ?_)
    exact li_f (b := 1) (c := 10) p1 (aIf_t rfl ⟨rfl, Inv_same I⟩)
  refine wi_t p1 (aIf_f (by decide) ?_)
  by_cases p2 : 0 ≤ a2 ∧ a2 ≤ 9999
  rotate_left
  · refine wi_f p2 (aIf_t rfl ?_)
    refine li_t (b := 1) (c := 10) p1 (aIf_f (by decide) ?_)
    exact load _ (fun z => absurd z p2) (fun _ => aIf_t rfl ⟨rfl, Inv_same I⟩)
  refine wi_t p2 (aIf_f (by decide) ?_)
  have p1' : 0 ≤ a1 := Int32.le_trans (by decide) p1.1
  obtain ⟨n, hn10, en⟩ := nI_of2 (x := a1) (M := 10) (n := 10) (by decide) (Int32.not_lt.mpr p1') p1.2
  subst en
  have n1 : 1 ≤ n := (nI_leI (a := 1) (by decide) (by omega)).mp p1.1
  have lo : ∀ Q : Int32 → aH → Prop, ((-1) ≤ a3 ∧ a3 ≤ nI n - 1 → Q 1 hm) → (¬ ((-1) ≤ a3 ∧ a3 ≤ nI n - 1) → Q 0 hm) → f_X11_lies SM (a3).toInt64 (-1) ((nI n - 1)).toInt64 hm Q := by
    intro Q q1 q0
    show f_X11_lies SM a3.toInt64 (Int32.toInt64 (-1)) _ hm _
    exact sp_lies (fun x y => q1 ⟨x, y⟩) (fun z => q0 z)
  have pre : ∀ Q : Int32 → aH → Prop, f_X11_lies SM (a3).toInt64 (-1) ((nI n - 1)).toInt64 hm (fun r52 h51 => aIf (r52 = 0) (Q (-3) h51) (∀ v54 : Int32, v54 = (gI h51 0 1) → aIf ((2 * nI n) ≤ v54) (f_X11_takesTwos SM 0 (nI n) h51 (fun r57 h56 => aIf (r57 = 0) (∃ m61, f_X11_fee_61 SM 0 (nI n) a2 a3 Q m61 0 h56) (Q (-2) h56))) (Q (-3) h51))) → f_X11_fee SM 0 (nI n) a2 a3 hm Q := by
    intro Q hq
    unfold f_X11_fee
    refine li_t (b := 1) (c := 10) p1 (aIf_f (by decide) ?_)
    exact load _ (fun _ => aIf_f (by decide) hq) (fun z => absurd p2 z)
  have m1 : nI n - 1 = iI ((n : Int) - 1) := iI_sub n 1
  have wh : (-1) ≤ a3 ∧ a3 ≤ nI n - 1 ↔ ¬ a3 < (-1) ∧ ¬ nI n ≤ a3 := by
    obtain ⟨z, z1, z2, ez⟩ := iI_of a3
    subst ez
    rw [m1, show (-1 : Int32) = iI (-1) from rfl, ← iI_nat, iI_le (by omega) (by omega) (by omega) (by omega), iI_le (by omega) (by omega) (by omega) (by omega), iI_lt (by omega) (by omega) (by omega) (by omega), iI_le (by omega) (by omega) (by omega) (by omega)]
    omega
  by_cases p3 : (-1) ≤ a3 ∧ a3 ≤ nI n - 1
  rotate_left
  · refine aIf_i (fun c => ?_) (fun c => aIf_i (fun c2 => ?_) (fun c2 => absurd (wh.mpr ⟨c, c2⟩) p3))
    · exact pre _ (lo _ (fun z => absurd z p3) (fun _ => aIf_t rfl ⟨rfl, Inv_same I⟩))
    · exact pre _ (lo _ (fun z => absurd z p3) (fun _ => aIf_t rfl ⟨rfl, Inv_same I⟩))
  refine aIf_f (wh.mp p3).1 (aIf_f (wh.mp p3).2 ?_)
  obtain ⟨w, ew, hw⟩ : ∃ w : Option Nat, a3 = enc w ∧ ∀ x, w = some x → x < n := by
    obtain ⟨z, z1, z2, ez⟩ := iI_of a3
    subst ez
    rw [m1, show (-1 : Int32) = iI (-1) from rfl, iI_le (by omega) (by omega) (by omega) (by omega), iI_le (by omega) (by omega) (by omega) (by omega)] at p3
    by_cases y : z = -1
    · subst y
      exact ⟨none, rfl, fun x ex => by cases ex⟩
    · refine ⟨some z.toNat, ?_, fun x ex => by cases ex; omega⟩
      rw [enc_some, ← iI_nat]
      congr 1
      omega
  subst ew
  rw [c_0_3 i1, co_37, t2, n2_mul]
  refine ⟨trivial, fun v ev => ?_⟩
  subst ev
  have pre2 : ∀ Q : Int32 → aH → Prop, aIf (nI (2 * n) ≤ nI tn) (f_X11_takesTwos SM 0 (nI n) hm (fun r57 h56 => aIf (r57 = 0) (∃ m61, f_X11_fee_61 SM 0 (nI n) a2 (enc w) Q m61 0 h56) (Q (-2) h56))) (Q (-3) hm) → f_X11_fee SM 0 (nI n) a2 (enc w) hm Q := by
    intro Q hq
    refine pre Q (lo _ (fun _ => aIf_f (by decide) ?_) (fun z => absurd p3 z))
    intro v ev
    rw [t3] at ev
    subst ev
    rw [n2_mul]
    exact hq
  refine aIf_i (fun c => ?_) (fun c => pre2 _ (aIf_f c ⟨rfl, Inv_same I⟩))
  rw [c_0_4 i1, co_39]
  refine ⟨trivial, sp_readPairs i1 (fun i hi => (t4 i hi).2.1) hn10 (fun h1 k1 => ?_)⟩
  have l1 := LayC_2 k1.1 i1
  have sqlt : ∀ j, j < n → tb (2 * j) < 256 ∧ tb (2 * j + 1) < 256 := fun j hj => ⟨(t4 _ (by omega)).1, (t4 _ (by omega)).1⟩
  have run : ∀ Q : Int32 → aH → Prop, (∀ g1, ToM hm g1 n n (fun i => tb (2 * i)) (fun i => tb (2 * i + 1)) → twL (fun i => tb (2 * i)) n → Q (-2) g1) → (∀ g1, ToM hm g1 n n (fun i => tb (2 * i)) (fun i => tb (2 * i + 1)) → ¬ twL (fun i => tb (2 * i)) n → ∃ m61, f_X11_fee_61 SM 0 (nI n) a2 (enc w) Q m61 0 g1) → f_X11_fee SM 0 (nI n) a2 (enc w) hm Q := fun Q q1 q0 => pre2 Q (aIf_t c (sr_takesTwos i2 (fun i hi => ⟨(t4 i hi).2.2, (t4 i hi).1⟩) hn10 (fun g1 j1 z => aIf_f (by decide) (q1 g1 j1 z)) (fun g1 j1 z => aIf_t rfl (q0 g1 j1 z))))
  have fin : ∀ h2 g1 g2, SFC h1 h2 → ToM hm g1 n n (fun i => tb (2 * i)) (fun i => tb (2 * i + 1)) → SFM g1 g2 → Inv LR h2 g2 := by
    intro h2 g1 g2 s2 j1 s1
    have T := tape_told i9 k1 j1
    exact Inv_tape LRok_LR I (CT_tr (CT_ToC k1) (CT_CS (CS_SFC s2))) (MT_tr (MT_ToM j1) (MT_MS (MS_SFM s1))) (RepC_SFC hk s2 (RepC_ToC hk k1 i3)) (RepM_SFM s1 (RepM_ToM j1 i4)) i5 (Tape_to (CS_SFC s2) (MS_SFM s1) T)
  rw [c_0_4 l1, co_39]
  refine ⟨trivial, sp_hasTwice (sq := fun i => tb (2 * i)) l1 k1.2.2.2.2.1 (by omega) n1 (fun j hj => ⟨(k1.2.2.2.2.2 j hj).1, (sqlt j hj).1⟩) (fun z => ?_) (fun z => ?_)⟩
  · refine aIf_t (by decide) (run _ (fun g1 j1 _ => ⟨rfl, fin h1 g1 g1 SFC_rf j1 SFM_rf⟩) (fun g1 j1 y => absurd z y))
  · refine aIf_f (fun z => z rfl) ?_
    rw [c_0_4 l1, co_39, c_0_0 l1, co_1]
    have r1 := RepC_ToC hk k1 i3
    have run2 : ∀ Q : Int32 → aH → Prop, (∀ g1, ToM hm g1 n n (fun i => tb (2 * i)) (fun i => tb (2 * i + 1)) → ∃ m61, f_X11_fee_61 SM 0 (nI n) a2 (enc w) Q m61 0 g1) → f_X11_fee SM 0 (nI n) a2 (enc w) hm Q := fun Q q => run Q (fun g1 j1 y => absurd y z) (fun g1 j1 _ => q g1 j1)
    refine ⟨trivial, trivial, sp_allFirm (sq := fun i => tb (2 * i)) hk l1 r1 k1.2.2.2.2.1 (by omega) (fun j hj => ⟨(k1.2.2.2.2.2 j hj).1, (sqlt j hj).1⟩) (fun y => ?_) (fun y => ?_)⟩
    · refine aIf_t (by decide) ?_
      refine sp_feeOf l1 r1 i5 (LC_ToC hl k1 F1) k1.2.2.2.2.1 hn10 (sq := fun i => tb (2 * i)) (wo := fun i => tb (2 * i + 1)) (fun j hj => ⟨(k1.2.2.2.2.2 j hj).1, (sqlt j hj).1, (k1.2.2.2.2.2 j hj).2, (sqlt j hj).2⟩) hw (fun h2 s2 => run2 _ (fun g1 j1 => ?_))
      have J2 := LayM_2 j1.1 i2
      have J4 := RepM_ToM j1 i4
      refine sr_feeFirm (sq := fun i => tb (2 * i)) J2 J4 hn10 (fun j hj => ⟨(j1.2.2.2.2.2 j hj).1, (sqlt j hj).1⟩) (fun _ => ?_) (fun x => absurd y x)
      exact fee_m1 J2 J4 i5 (LM_ToM j1 F2) hn10 (sq := fun i => tb (2 * i)) (wo := fun i => tb (2 * i + 1)) (fun j hj => ⟨(j1.2.2.2.2.2 j hj).1, (sqlt j hj).1, (j1.2.2.2.2.2 j hj).2, (sqlt j hj).2⟩) hw (fun g2 s1 => ⟨rfl, fin h2 g1 g2 s2 j1 s1⟩)
    · refine aIf_f (fun z => z rfl) (run2 _ (fun g1 j1 => ?_))
      exact sr_feeFirm (sq := fun i => tb (2 * i)) (LayM_2 j1.1 i2) (RepM_ToM j1 i4) hn10 (fun j hj => ⟨(j1.2.2.2.2.2 j hj).1, (sqlt j hj).1⟩) (fun x => absurd x y) (fun _ => ⟨rfl, fin h1 g1 g1 SFC_rf j1 SFM_rf⟩)
