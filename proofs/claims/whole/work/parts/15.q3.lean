/-! ===== steps: row, cut ===== -/
def holeD (L : Lw) (o : Option Nat) : Prop := match o with
  | none => False
  | some t => 0 ≤ L 1 t
def rowT (L : Lw) (s : Nat) (dx dy : Int) : Prop := ¬ (dx = 0 ∧ dy = 0) ∧ holeD L (besN s dx dy) ∧ (holeD L (besN s (2 * dx) (2 * dy)) ∨ holeD L (besN s (-dx) (-dy)))
def rowL (L : Lw) (s : Nat) : Prop := ∃ dx dy : Int, -3 ≤ dx ∧ dx ≤ 3 ∧ -3 ≤ dy ∧ dy ≤ 3 ∧ rowT L s dx dy
theorem iI_z {a : Int} (h1 : -1000 < a) (h2 : a < 1000) : iI a = 0 ↔ a = 0 := by
  rw [show (0 : Int32) = iI 0 from rfl, iI_eq (by omega) (by omega) (by omega) (by omega)]
theorem iI_2 (a : Int) : 2 * iI a = iI (2 * a) := iI_mul 2 a
section Row
variable {h : aH} {l d k : Nat} {L : Lw} {hn gn : Nat} {F : LF} {Q : Int32 → aH → Prop}
theorem sp_isHole (hk : isLake k) (hL : LayC h l d) (hR : RepC h k L) {s : Nat} (hs : s < 256) {dx dy : Int} (hx : -100 < dx ∧ dx < 100) (hy : -100 < dy ∧ dy < 100) (h1 : holeD L (besN s dx dy) → Q 1 h) (h0 : ¬ holeD L (besN s dx dy) → Q 0 h) : f_X2_isHole SC k (nI s) (iI dx) (iI dy) h Q := by
  refine sp_beside hs hx hy ?_
  rcases e : besN s dx dy with _ | t
  · rw [e] at h0
    exact aIf_t rfl (h0 id)
  · have ht := besN_lt e
    rw [e] at h0 h1
    rw [enc_some]
    refine aIf_f (nI_neg1 (by omega)) ?_
    rw [lk_1 hk hL, li_2 hk, vp_lt ht (by decide), cl (by omega), (hR.1 t ht).2.1]
    refine ⟨trivial, fun v ev => ?_⟩
    subst ev
    exact aIf_i (fun c => h0 (fun z => absurd c (Int32.not_lt.mpr z))) (fun c => h1 (Int32.not_lt.mp c))
theorem sr_isOpenAt (hL : LayM h) (hM : RepM h L) (hW : WF L hn gn) {o : Option Nat} (ho : ∀ t, o = some t → t < 256) (h1 : holeD L o → Q 1 h) (h0 : ¬ holeD L o → Q 0 h) : f_X11_isOpenAt SM 0 (enc o) h Q := by
  have hhn := hW.1
  rcases o with _ | t
  · exact aIf_t rfl (h0 id)
  · have ht := ho t rfl
    rw [enc_some]
    refine aIf_f (nI_neg1 (by omega)) ?_
    rw [m_8 hL, mi_4, vp_lt ht (by decide), cl (by omega), (hM.1 t ht).2.2]
    refine ⟨trivial, fun v ev => ?_⟩
    subst ev
    rcases hW.2.2.2.2.2.1 t ht with z | z | ⟨m, hm, z, -⟩
    · rw [z, if_neg (by decide)]
      exact aIf_t rfl (h0 (fun y => absurd (show 0 ≤ L 1 t from y) (by rw [z]; decide)))
    · rw [z, if_pos rfl]
      exact aIf_t rfl (h0 (fun y => absurd (show 0 ≤ L 1 t from y) (by rw [z]; decide)))
    · rw [z, if_neg (nI_neg2 (by omega))]
      exact aIf_f (nI_neg1 (by omega)) (h1 (show 0 ≤ L 1 t by rw [z]; exact nI_pos' (by omega)))
theorem sp_makesRow (hk : isLake k) (hL : LayC h l d) (hR : RepC h k L) {s : Nat} (hs : s < 256) (h1 : rowL L s → Q 1 h) (h0 : ¬ rowL L s → Q 0 h) : f_X2_makesRow SC k (nI s) h Q := by
  have st : ∀ (dx dy : Int) (K : Int32 → Int32 → aH → Prop), -3 ≤ dx → dx ≤ 3 → -3 ≤ dy → dy ≤ 3 → (¬ rowT L s dx dy → K (iI dx) (iI (dy + 1)) h) → aIf (¬ iI dx = 0) (f_X2_makesRow_29 SC k (nI s) Q K (iI dx) (iI dy) 1 h) (aIf (iI dy = 0) (f_X2_makesRow_29 SC k (nI s) Q K (iI dx) (iI dy) 0 h) (f_X2_makesRow_29 SC k (nI s) Q K (iI dx) (iI dy) 1 h)) := by
    intro dx dy K x1 x2 y1 y2 hK
    have ne : ¬ (dx = 0 ∧ dy = 0) → f_X2_makesRow_29 SC k (nI s) Q K (iI dx) (iI dy) 1 h := by
      intro z
      have next : ¬ rowT L s dx dy → ∀ x : Int32, x = iI dy + 1 → K (iI dx) x h := fun z x ex => by rw [ex, iI_1]; exact hK z
      have done : rowT L s dx dy → Q 1 h := fun r => h1 ⟨dx, dy, x1, x2, y1, y2, r⟩
      refine aIf_f (by decide) ?_
      refine sp_isHole hk hL hR hs (by omega) (by omega) (fun a => aIf_f (by decide) ?_) (fun a => aIf_t rfl (next (fun r => a r.2.1)))
      rw [iI_2, iI_2]
      refine sp_isHole hk hL hR hs (by omega) (by omega) (fun b => aIf_t (by decide) (done ⟨z, a, Or.inl b⟩)) (fun b => aIf_f (fun z => z rfl) ?_)
      rw [iI_neg, iI_neg]
      exact sp_isHole hk hL hR hs (by omega) (by omega) (fun c => aIf_f (by decide) (done ⟨z, a, Or.inr c⟩)) (fun c => aIf_t rfl (next (fun r => r.2.2.elim b c)))
    refine aIf_i (fun c => ne (fun z => c (by rw [z.1]; rfl))) (fun c => aIf_i (fun c2 => ?_) (fun c2 => ne (fun z => c2 (by rw [z.2]; rfl))))
    refine aIf_t rfl (fun x ex => ?_)
    rw [ex, iI_1]
    exact hK (fun r => r.1 ⟨(iI_z (by omega) (by omega)).mp (Classical.not_not.mp c), (iI_z (by omega) (by omega)).mp c2⟩)
  have inner : ∀ (dx : Int) (K3 : Int32 → aH → Prop), -3 ≤ dx → dx ≤ 3 → ((∀ y, -3 ≤ y → y ≤ 3 → ¬ rowT L s dx y) → K3 (iI (dx + 1)) h) → ∀ (w : Nat) (dy : Int), dy + w = 4 → -3 ≤ dy → (∀ y, -3 ≤ y → y < dy → ¬ rowT L s dx y) → f_X2_makesRow_11 SC k (nI s) Q K3 (w + 1) (iI dx) (iI dy) h := by
    intro dx K3 x1 x2 hK w
    induction w with
    | zero =>
      intro dy hd hd3 hv
      have : dy = 4 := by omega
      subst this
      refine aIf_t (by decide) (fun x ex => ?_)
      rw [ex, iI_1]
      exact hK (fun y y1 y2 => hv y y1 (by omega))
    | succ w ih =>
      intro dy hd hd3 hv
      refine aIf_f (fun z => absurd ((iI_lt (a := 3) (by omega) (by omega) (by omega) (by omega)).mp z) (by omega)) ?_
      refine st dx dy _ x1 x2 hd3 (by omega) (fun r => ih (dy + 1) (by omega) (by omega) (fun y y1 y2 => ?_))
      rcases Int.lt_or_le y dy with z | z
      · exact hv y y1 z
      · rw [show y = dy by omega]; exact r
  have outer : ∀ (w : Nat) (dx : Int), dx + w = 4 → -3 ≤ dx → (∀ x y, -3 ≤ x → x < dx → -3 ≤ y → y ≤ 3 → ¬ rowT L s x y) → f_X2_makesRow_3 SC k (nI s) Q (w + 1) (iI dx) h := by
    intro w
    induction w with
    | zero =>
      intro dx hd hd3 hv
      have : dx = 4 := by omega
      subst this
      exact aIf_t (by decide) (h0 (fun ⟨x, y, x1, x2, y1, y2, r⟩ => hv x y x1 (by omega) y1 y2 r))
    | succ w ih =>
      intro dx hd hd3 hv
      refine aIf_f (fun z => absurd ((iI_lt (a := 3) (by omega) (by omega) (by omega) (by omega)).mp z) (by omega)) ⟨8, ?_⟩
      refine inner dx _ hd3 (by omega) (fun r => ih (dx + 1) (by omega) (by omega) (fun x y x1 x2 y1 y2 => ?_)) 7 (-3) (by omega) (by omega) (fun y y1 y2 => by omega)
      rcases Int.lt_or_le x dx with z | z
      · exact hv x y x1 z y1 y2
      · rw [show x = dx by omega]; exact r y y1 y2
  have key := outer 7 (-3) (by omega) (by omega) (fun x y x1 x2 => by omega)
  rw [show iI (-3) = (-3) from by decide] at key
  exact ⟨8, key⟩
theorem sr_makesRow (hL : LayM h) (hM : RepM h L) (hW : WF L hn gn) {s : Nat} (hs : s < 256) (h1 : rowL L s → Q 1 h) (h0 : ¬ rowL L s → Q 0 h) : f_X11_makesRow SM 0 (nI s) h Q := by
  have st : ∀ (dx dy : Int) (K : Int32 → Int32 → aH → Prop), -3 ≤ dx → dx ≤ 3 → -3 ≤ dy → dy ≤ 3 → (¬ rowT L s dx dy → K (iI dx) (iI (dy + 1)) h) → aIf (¬ iI dx = 0) (f_X11_makesRow_27 SM 0 (nI s) Q K (iI dx) (iI dy) h) (aIf (¬ iI dy = 0) (f_X11_makesRow_27 SM 0 (nI s) Q K (iI dx) (iI dy) h) (∀ x3_22 : Int32, x3_22 = iI dy + 1 → K (iI dx) x3_22 h)) := by
    intro dx dy K x1 x2 y1 y2 hK
    have ne : ¬ (dx = 0 ∧ dy = 0) → f_X11_makesRow_27 SM 0 (nI s) Q K (iI dx) (iI dy) h := by
      intro z
      have next : ¬ rowT L s dx dy → ∀ x : Int32, x = iI dy + 1 → K (iI dx) x h := fun z x ex => by rw [ex, iI_1]; exact hK z
      have done : rowT L s dx dy → Q 1 h := fun r => h1 ⟨dx, dy, x1, x2, y1, y2, r⟩
      refine sr_aside hs (by omega) (by omega) ?_
      refine sr_isOpenAt hL hM hW (fun t ht => besN_lt ht) (fun a => aIf_f (by decide) ?_) (fun a => aIf_t rfl (next (fun r => a r.2.1)))
      rw [iI_2, iI_2]
      refine sr_aside hs (by omega) (by omega) ?_
      refine sr_isOpenAt hL hM hW (fun t ht => besN_lt ht) (fun b => aIf_t (by decide) (done ⟨z, a, Or.inl b⟩)) (fun b => aIf_f (fun z => z rfl) ?_)
      rw [iI_neg, iI_neg]
      refine sr_aside hs (by omega) (by omega) ?_
      exact sr_isOpenAt hL hM hW (fun t ht => besN_lt ht) (fun c => aIf_f (by decide) (done ⟨z, a, Or.inr c⟩)) (fun c => aIf_t rfl (next (fun r => r.2.2.elim b c)))
    refine aIf_i (fun c => ne (fun z => c (by rw [z.1]; rfl))) (fun c => aIf_i (fun c2 => ne (fun z => c2 (by rw [z.2]; rfl))) (fun c2 => ?_))
    intro x ex
    rw [ex, iI_1]
    exact hK (fun r => r.1 ⟨(iI_z (by omega) (by omega)).mp (Classical.not_not.mp c), (iI_z (by omega) (by omega)).mp (Classical.not_not.mp c2)⟩)
  have inner : ∀ (dx : Int) (K3 : Int32 → aH → Prop), -3 ≤ dx → dx ≤ 3 → ((∀ y, -3 ≤ y → y ≤ 3 → ¬ rowT L s dx y) → K3 (iI (dx + 1)) h) → ∀ (w : Nat) (dy : Int), dy + w = 4 → -3 ≤ dy → (∀ y, -3 ≤ y → y < dy → ¬ rowT L s dx y) → f_X11_makesRow_11 SM 0 (nI s) Q K3 (w + 1) (iI dx) (iI dy) h := by
    intro dx K3 x1 x2 hK w
    induction w with
    | zero =>
      intro dy hd hd3 hv
      have : dy = 4 := by omega
      subst this
      refine aIf_t (by decide) (fun x ex => ?_)
      rw [ex, iI_1]
      exact hK (fun y y1 y2 => hv y y1 (by omega))
    | succ w ih =>
      intro dy hd hd3 hv
      refine aIf_f (fun z => absurd ((iI_le (a := 4) (by omega) (by omega) (by omega) (by omega)).mp z) (by omega)) ?_
      refine st dx dy _ x1 x2 hd3 (by omega) (fun r => ih (dy + 1) (by omega) (by omega) (fun y y1 y2 => ?_))
      rcases Int.lt_or_le y dy with z | z
      · exact hv y y1 z
      · rw [show y = dy by omega]; exact r
  have outer : ∀ (w : Nat) (dx : Int), dx + w = 4 → -3 ≤ dx → (∀ x y, -3 ≤ x → x < dx → -3 ≤ y → y ≤ 3 → ¬ rowT L s x y) → f_X11_makesRow_3 SM 0 (nI s) Q (w + 1) (iI dx) h := by
    intro w
    induction w with
    | zero =>
      intro dx hd hd3 hv
      have : dx = 4 := by omega
      subst this
      exact aIf_t (by decide) (h0 (fun ⟨x, y, x1, x2, y1, y2, r⟩ => hv x y x1 (by omega) y1 y2 r))
    | succ w ih =>
      intro dx hd hd3 hv
      refine aIf_f (fun z => absurd ((iI_le (a := 4) (by omega) (by omega) (by omega) (by omega)).mp z) (by omega)) ⟨8, ?_⟩
      refine inner dx _ hd3 (by omega) (fun r => ih (dx + 1) (by omega) (by omega) (fun x y x1 x2 y1 y2 => ?_)) 7 (-3) (by omega) (by omega) (fun y y1 y2 => by omega)
      rcases Int.lt_or_le x dx with z | z
      · exact hv x y x1 z y1 y2
      · rw [show x = dx by omega]; exact r y y1 y2
  have key := outer 7 (-3) (by omega) (by omega) (fun x y x1 x2 => by omega)
  rw [show iI (-3) = (-3) from by decide] at key
  exact ⟨8, key⟩
end Row
section Steps8
variable {LR : aH → aH → Prop}
/-- ROW -/
theorem s_row : st_row (Inv LR) SC SM := by
  intro hc hm a1 a2 hI
  obtain ⟨L, hn, gn, kp, LK, tn, tb, l, d, I⟩ := hI
  obtain ⟨i1, i2, i3, i4, i5, i6, i7, i8, i9, i10⟩ := id I
  have hk : isLake 1 := Or.inl rfl
  unfold f_X10_row
  refine sp_has (fun m n hm1 hn1 e1 e2 => ?_) (fun c => ?_)
  · subst e1 e2
    have hs : 16 * n + m < 256 := by omega
    refine aIf_t (by decide) ?_
    show aObj SC (gR hc 0 0) 1 flX2 ∧ f_X2_makesRow SC (gR hc 0 0) (16 * nI n + nI m) hc _
    rw [c_0_0 i1, co_1, sq_at]
    have rf : ∀ Q : Int32 → aH → Prop, f_X11_makesRow SM 0 (nI (16 * n + m)) hm (fun r5 h4 => aIf (r5 = 0) (Q 0 h4) (Q 1 h4)) → f_X11_row SM 0 (nI m) (nI n) hm Q := by
      intro Q hq
      unfold f_X11_row
      refine sr_isSquare (fun m2 n2 b3 b4 b5 b6 => ?_) (fun z => absurd ⟨vp_in_nI hm1 (by decide), vp_in_nI hn1 (by decide)⟩ z)
      refine aIf_f (by decide) ?_
      rw [sq_at]
      exact hq
    refine ⟨trivial, sp_makesRow hk i1 i3 hs (fun r => aIf_f (by decide) (rf _ ?_)) (fun r => aIf_t rfl (rf _ ?_))⟩
    · exact sr_makesRow i2 i4 i5 hs (fun _ => aIf_f (by decide) ⟨rfl, Inv_same I⟩) (fun z => absurd r z)
    · exact sr_makesRow i2 i4 i5 hs (fun z => absurd z r) (fun _ => aIf_t rfl ⟨rfl, Inv_same I⟩)
  · refine aIf_f (fun z => z rfl) ?_
    unfold f_X11_row
    refine sr_isSquare (fun m2 n2 b3 b4 b5 b6 => absurd ⟨by rw [b5]; exact vp_in_nI b3 (by decide), by rw [b6]; exact vp_in_nI b4 (by decide)⟩ c) (fun _ => ?_)
    exact aIf_t rfl ⟨rfl, Inv_same I⟩
end Steps8
