/-! ===== step: rescue ===== -/
def cdS (E pl : Nat → Option Nat) (s j : Nat) : Bool := match sd s j with
  | none => false
  | some t => match E t, E s, pl s with
    | some y, some x, some p => decide (y + 1 + 1024 * p = x)
    | _, _, _ => false
def nxj (E pl : Nat → Option Nat) (s : Nat) : Nat := lst (cdS E pl s) 4
def nxs (E pl : Nat → Option Nat) (s : Nat) : Nat := (sd s (nxj E pl s)).getD s
def wkS (E pl : Nat → Option Nat) (s : Nat) : Nat → Nat
  | 0 => s
  | k + 1 => nxs E pl (wkS E pl s k)
section Wk
variable {pl E : Nat → Option Nat} {to : Nat}
theorem cd_t {s j t y x p : Nat} (h1 : sd s j = some t) (h2 : E t = some y) (h3 : E s = some x) (h4 : pl s = some p) : cdS E pl s j = true ↔ y + 1 + 1024 * p = x := by
  unfold cdS
  rw [h1]
  show (match E t, E s, pl s with
    | some y, some x, some p => decide (y + 1 + 1024 * p = x)
    | _, _, _ => false) = true ↔ _
  rw [h2, h3, h4]
  exact decide_eq_true_iff
theorem nx_of (hE : isE pl to 1024 E) {s x p : Nat} (hs : s < 256) (e : E s = some x) (hp : pl s = some p) (ne : s ≠ to) : nxj E pl s < 4 ∧ (∃ t y, sd s (nxj E pl s) = some t ∧ nxs E pl s = t ∧ t < 256 ∧ E t = some y ∧ y + 1 + 1024 * p = x) ∧ ∀ j, j < nxj E pl s → ¬ cdS E pl s j = true := by
  obtain ⟨-, -, z⟩ := hE.2.1 s x e
  obtain ⟨j, u, b, q, h1, h2, h3, h4, h5⟩ := z.resolve_left ne
  rw [hp] at h4
  cases h4
  have c := (cd_t h2 h3 e hp).mpr h5.symm
  obtain ⟨s1, s2⟩ := lst_sp (cdS E pl s) 4
  have lt : nxj E pl s < 4 := by
    rcases Nat.lt_or_ge (nxj E pl s) 4 with z | z
    · exact z
    · exact absurd c (s1 j (Nat.lt_of_lt_of_le h1 z))
  have d := s2 lt
  refine ⟨lt, ?_, s1⟩
  have d : cdS E pl s (nxj E pl s) = true := d
  rcases es : sd s (nxj E pl s) with _ | t
  · unfold cdS at d
    rw [es] at d
    cases d
  · rcases et : E t with _ | y
    · unfold cdS at d
      rw [es] at d
      have d : (match E t, E s, pl s with
        | some y, some x, some p => decide (y + 1 + 1024 * p = x)
        | _, _, _ => false) = true := d
      rw [et] at d
      cases d
    · exact ⟨t, y, rfl, by unfold nxs; rw [es]; rfl, sd_lt es, et, (cd_t es et e hp).mp d⟩
end Wk
theorem hs_f {S : aS} {a : Int32} {h : aH} {Q : Int32 → aH → Prop} (z : ¬ (0 ≤ a ∧ a ≤ 255)) (hq : Q 0 h) : f_X1_hasSquare S a h Q := by
  refine aIf_i (fun _ => hq) (fun c => aIf_i (fun _ => hq) (fun c2 => absurd ⟨Int32.not_lt.mp c, ?_⟩ z))
  obtain ⟨n, hn, e⟩ := nI_of c
  subst e
  have : ¬ 256 ≤ n := fun y => c2 ((nI_leI (a := 256) (by decide) (by omega)).mpr y)
  exact nI_le (b := 255) (by omega) (by decide)
section RsO
variable {h : aH} {l d to : Nat} {pl E : Nat → Option Nat}
theorem sp_nextFrom (hL : LayC h l d) (hE : isE pl to 1024 E) (pb : ∀ v q, pl v = some q → q ≤ 1) (hR : Rsd h pl E) {s x p : Nat} (hs : s < 256) (e : E s = some x) (hp : pl s = some p) (ne : s ≠ to) {Q : Int32 → aH → Prop} (hq : Q (nI (nxs E pl s)) h) : f_X6_nextFrom SC 73 (nI s) h Q := by
  obtain ⟨n1, ⟨t0, y0, a1, a2, a3, a4, a5⟩, n3⟩ := nx_of hE hs e hp ne
  have bx := E_bd hE pb x s e
  have p1 := pb s p hp
  unfold f_X6_nextFrom
  rw [c_73_1 hL, ca_75, vp_lt hs (by decide), cl (by omega), (hR s hs).2, e]
  refine ⟨trivial, fun v ev => ?_⟩
  subst ev
  rw [c_73_0 hL, ca_74, vp_lt hs (by decide), (hR s hs).1, hp]
  refine ⟨trivial, fun v ev x2 e2 => ?_⟩
  subst ev
  have e2 : x2 = nI y0 := by
    have e2 : x2 = nI x - nI p * 1024 - 1 := e2
    rw [e2, show (1024 : Int32) = nI 1024 from rfl, pk_mul, show (1 : Int32) = nI 1 from rfl, ← iI_nat, ← iI_nat, ← iI_nat, ← iI_nat, iI_sub, iI_sub]
    congr 1
    omega
  subst e2
  have key : ∀ w j, j + w = nxj E pl s → f_X6_nextFrom_22 SC 73 (nI s) Q (w + 1) (nI y0) (nI j) h := by
    intro w
    induction w with
    | zero =>
      intro j hj
      have ej : j = nxj E pl s := by omega
      subst ej
      refine aIf_f (nI_ge (a := nxj E pl s) (b := 4) n1 (by decide)) ?_
      refine sp_side hs n1 ?_
      rw [a1, enc_some]
      refine aIf_f (nI_neg1 (by omega)) ?_
      rw [c_73_1 hL, ca_75, vp_lt a3 (by decide), cl (by omega), (hR t0 a3).2, a4]
      refine ⟨trivial, fun v ev => ?_⟩
      subst ev
      refine aIf_f (fun z => z rfl) ?_
      rw [a2] at hq
      exact hq
    | succ w ih =>
      intro j hj
      have hj4 : j < 4 := by omega
      refine aIf_f (nI_ge (a := j) (b := 4) hj4 (by decide)) ?_
      refine sp_side hs hj4 ?_
      have nx : ∀ y : Int32, y = nI j + 1 → f_X6_nextFrom_22 SC 73 (nI s) Q (w + 1) (nI y0) y h := fun y ey => by
        rw [nI_1] at ey
        subst ey
        exact ih (j + 1) (by omega)
      rcases es : sd s j with _ | t
      · exact aIf_t rfl nx
      · have ht := sd_lt es
        rw [enc_some]
        refine aIf_f (nI_neg1 (by omega)) ?_
        rw [c_73_1 hL, ca_75, vp_lt ht (by decide), cl (by omega), (hR t ht).2]
        refine ⟨trivial, fun v ev => ?_⟩
        subst ev
        refine aIf_t (fun z => ?_) nx
        rcases et : E t with _ | y
        · rw [et] at z
          have z : nI 1073741824 = nI y0 := z
          have := (nI_eq (by decide) (by omega)).mp z
          omega
        · rw [et] at z
          have z : nI y = nI y0 := z
          have by' := E_bd hE pb y t et
          have := (nI_eq (by omega) (by omega)).mp z
          exact n3 j (by omega) ((cd_t es et e hp).mpr (by omega))
  exact ⟨_, key (nxj E pl s) 0 (by omega)⟩
theorem sr_next (hL : LayM h) (hE : isE pl to 1024 E) (pb : ∀ v q, pl v = some q → q ≤ 1) (hT : TR h pl (fun v => (E v).map ph)) {s x p : Nat} (hs : s < 256) (e : E s = some x) (hp : pl s = some p) (ne : s ≠ to) {a1 a2 a3 a4 x7 : Int32} {Q : Int32 → aH → Prop} {K : Int32 → Int32 → aH → Prop} (hq : K (nI (nxs E pl s)) (x7 + 1) h) : ∃ m, f_X11_rescue_157 SM 0 a1 a2 a3 a4 Q K m (nI s) x7 0 h := by
  obtain ⟨n1, ⟨t0, y0, b1, b2, b3, b4, b5⟩, n3⟩ := nx_of hE hs e hp ne
  have st : ∀ v a, E v = some a → a % 1024 ≤ 255 := fun v a e => by
    have := stp_le hE a v e
    have := rk_255 (E := E) (hE.2.1 v a e).1 e
    omega
  have bx := E_bd hE pb x s e
  have sx := st s x e
  have p1 := pb s p hp
  have eG : (fun v => (E v).map ph) s = some (ph x) := by show (E s).map ph = _; rw [e]; rfl
  have g39 : gA h 39 s = nI (ph x) := by
    rw [(hT s hs).2.1, eG]
    rfl
  have px : ph x < 1000000000 := by unfold ph; omega
  have key : ∀ w j, j + w = nxj E pl s → f_X11_rescue_157 SM 0 a1 a2 a3 a4 Q K (w + 1) (nI s) x7 (nI j) h := by
    intro w
    induction w with
    | zero =>
      intro j hj
      have ej : j = nxj E pl s := by omega
      subst ej
      have sy := st t0 y0 b4
      have eGt : (fun v => (E v).map ph) t0 = some (ph y0) := by show (E t0).map ph = _; rw [b4]; rfl
      unfold f_X11_rescue_157
      refine sr_takesBy hL hT pb hs n1 hp (fun hn => ?_) (fun t b hst hb => ?_)
      · have hz := (hn t0 b1).symm.trans eGt
        cases hz
      · rw [b1] at hst
        cases hst
        have hz := eGt.symm.trans hb
        cases hz
        rw [m_58 hL, mi_39, vp_lt hs (by decide), cl (by omega), g39]
        refine ⟨trivial, fun v ev => ?_⟩
        subst ev
        have eq : 1000 * p + 1 + ph y0 = ph x := by unfold ph; omega
        refine aIf_t (by rw [eq]) ?_
        refine sr_beside hs n1 ?_
        rw [b1, enc_some]
        intro y ey
        subst ey
        rw [b2] at hq
        exact hq
    | succ w ih =>
      intro j hj
      have hj4 : j < 4 := by omega
      have nx : ∀ y : Int32, y = nI j + 1 → f_X11_rescue_157 SM 0 a1 a2 a3 a4 Q K (w + 1) (nI s) x7 y h := fun y ey => by
        rw [nI_1] at ey
        subst ey
        exact ih (j + 1) (by omega)
      unfold f_X11_rescue_157
      refine sr_takesBy hL hT pb hs hj4 hp (fun hn => ?_) (fun t b hst hb => ?_)
      · rw [m_58 hL, mi_39, vp_lt hs (by decide), cl (by omega), g39]
        refine ⟨trivial, fun v ev => ?_⟩
        subst ev
        refine aIf_f (fun z => ?_) nx
        have z : nI 1000000000 = nI (ph x) := z
        have := (nI_eq (by decide) (by omega)).mp z
        omega
      · rw [m_58 hL, mi_39, vp_lt hs (by decide), cl (by omega), g39]
        refine ⟨trivial, fun v ev => ?_⟩
        subst ev
        refine aIf_f (fun z => ?_) nx
        have hb : (E t).map ph = some b := hb
        rcases et : E t with _ | y
        · rw [et] at hb; cases hb
        · rw [et] at hb
          have hb : ph y = b := Option.some.inj hb
          have by' := E_bd hE pb y t et
          have sy := st t y et
          have pby : ph y < 1000000000 := by unfold ph; omega
          have := (nI_eq (by omega) (by omega)).mp z
          refine n3 j (by omega) ((cd_t hst et e hp).mpr ?_)
          rw [← hb] at this
          unfold ph at this
          omega
  exact ⟨_, key (nxj E pl s) 0 (by omega)⟩
/-- along the way -/
theorem wk_of (hE : isE pl to 1024 E) {s x : Nat} (hs : s < 256) (e : E s = some x) : ∀ k, k ≤ x % 1024 → wkS E pl s k < 256 ∧ ∃ y p, E (wkS E pl s k) = some y ∧ pl (wkS E pl s k) = some p ∧ y % 1024 = x % 1024 - k ∧ (k < x % 1024 → wkS E pl s k ≠ to) := by
  have st : ∀ v a, E v = some a → a % 1024 ≤ 255 := fun v a e => by
    have := stp_le hE a v e
    have := rk_255 (E := E) (hE.2.1 v a e).1 e
    omega
  have nto : ∀ v y, E v = some y → 0 < y % 1024 → v ≠ to := fun v y ey h z => by
    subst z
    obtain ⟨-, ⟨q, hq⟩, -⟩ := hE.2.1 v y ey
    have := hE.1 q hq
    rw [ey] at this
    cases this
    omega
  intro k
  induction k with
  | zero =>
    intro _
    obtain ⟨-, ⟨q, hq⟩, -⟩ := hE.2.1 s x e
    exact ⟨hs, x, q, e, hq, by omega, fun z => nto s x e z⟩
  | succ k ih =>
    intro hk
    obtain ⟨i1, y, p, i2, i3, i4, i5⟩ := ih (by omega)
    obtain ⟨n1, ⟨t, y', a1, a2, a3, a4, a5⟩, -⟩ := nx_of hE i1 i2 i3 (i5 (by omega))
    have s1 := st _ y i2
    have s2 := st t y' a4
    obtain ⟨-, ⟨q, hq⟩, -⟩ := hE.2.1 t y' a4
    have e1 : wkS E pl s (k + 1) = t := a2
    rw [e1]
    refine ⟨a3, y', q, a4, hq, by omega, fun z => nto t y' a4 (by omega)⟩
end RsO
set_option maxHeartbeats 1000000 in
/-- RESCUE -/
theorem s_rescue : st_rescue (Inv LR) SC SM := by
  intro hc hm a1 a2 a3 a4 hI
  obtain ⟨L, hn, gn, kp, LK, tn, tb, l, d, I⟩ := hI
  obtain ⟨i1, i2, i3, i4, i5, i6, i7, i8, i9, i10⟩ := id I
  have hk : isLake 1 := Or.inl rfl
  obtain ⟨F, F1, F2⟩ := LR_F i1 i10
  unfold f_X10_rescue
  -- the last number asked for
  have w4 : ∀ (r : Int32), (r = 1 ∧ (0 ≤ a4 ∧ a4 ≤ 255) ∨ r = 0 ∧ ¬ (0 ≤ a4 ∧ a4 ≤ 255)) → f_X1_hasSquare SC a1 hc (fun r25 h24 => aIf (r25 = 0) (f_X11_rescue SM 0 a1 a2 a3 a4 hm (fun r' hm' => (-3) = r' ∧ Inv LR h24 hm')) (f_X1_hasSquare SC a2 h24 (fun r28 h27 => aIf (r28 = 0) (f_X11_rescue SM 0 a1 a2 a3 a4 hm (fun r' hm' => (-3) = r' ∧ Inv LR h27 hm')) (f_X10_within SC a3 1 9999 h27 (fun r31 h30 => aIf (r31 = 0) (f_X11_rescue SM 0 a1 a2 a3 a4 hm (fun r' hm' => (-3) = r' ∧ Inv LR h30 hm')) (aIf (a4 = (-1)) (f_X10_rescue_58 SC 0 a1 a2 a3 a4 (fun r hc' => f_X11_rescue SM 0 a1 a2 a3 a4 hm (fun r' hm' => r = r' ∧ Inv LR hc' hm')) h30) (aIf (a4 = 500) (f_X10_rescue_58 SC 0 a1 a2 a3 a4 (fun r hc' => f_X11_rescue SM 0 a1 a2 a3 a4 hm (fun r' hm' => r = r' ∧ Inv LR hc' hm')) h30) (aIf (¬ r = 0) (f_X10_rescue_58 SC 0 a1 a2 a3 a4 (fun r hc' => f_X11_rescue SM 0 a1 a2 a3 a4 hm (fun r' hm' => r = r' ∧ Inv LR hc' hm')) h30) (f_X11_rescue SM 0 a1 a2 a3 a4 hm (fun r' hm' => (-3) = r' ∧ Inv LR h30 hm')))))))))) := by
    intro r hr
    by_cases p1 : 0 ≤ a1 ∧ a1 ≤ 255
    rotate_left
    · exact hs_f p1 (aIf_t rfl (li_f (b := 0) (c := 255) p1 (aIf_t rfl ⟨rfl, Inv_same I⟩)))
    obtain ⟨fr, hfr, efr⟩ := Iof (x := a1) (M := 255) (by decide) p1.1 p1.2
    subst efr
    refine sp_hasSquare (by omega) (aIf_f (by decide) ?_)
    by_cases p2 : 0 ≤ a2 ∧ a2 ≤ 255
    rotate_left
    · refine hs_f p2 (aIf_t rfl ?_)
      refine li_t (b := 0) (c := 255) p1 (aIf_f (by decide) ?_)
      exact li_f (b := 0) (c := 255) p2 (aIf_t rfl ⟨rfl, Inv_same I⟩)
    obtain ⟨to, hto, eto⟩ := Iof (x := a2) (M := 255) (by decide) p2.1 p2.2
    subst eto
    refine sp_hasSquare (by omega) (aIf_f (by decide) ?_)
    by_cases p3 : 1 ≤ a3 ∧ a3 ≤ 9999
    rotate_left
    · refine wi_f p3 (aIf_t rfl ?_)
      refine li_t (b := 0) (c := 255) p1 (aIf_f (by decide) ?_)
      refine li_t (b := 0) (c := 255) p2 (aIf_f (by decide) ?_)
      exact li_f (b := 1) (c := 9999) p3 (aIf_t rfl ⟨rfl, Inv_same I⟩)
    refine wi_t p3 (aIf_f (by decide) ?_)
    have pre : ∀ Q : Int32 → aH → Prop, aIf (a4 = 500) (f_X11_rescue_62 SM 0 (nI fr) (nI to) a3 a4 Q hm) (f_X11_lies SM (a4).toInt64 (Int32.toInt64 (-1)) (Int32.toInt64 255) hm (fun r38 h37 => aIf (¬ r38 = 0) (f_X11_rescue_62 SM 0 (nI fr) (nI to) a3 a4 Q h37) (Q (-3) h37))) → f_X11_rescue SM 0 (nI fr) (nI to) a3 a4 hm Q := by
      intro Q hq
      refine li_t (b := 0) (c := 255) p1 (aIf_f (by decide) ?_)
      refine li_t (b := 0) (c := 255) p2 (aIf_f (by decide) ?_)
      exact li_t (b := 1) (c := 9999) p3 (aIf_f (by decide) hq)
    have m1 : (-1) ≤ a4 ∧ a4 ≤ 255 ↔ a4 = (-1) ∨ (0 ≤ a4 ∧ a4 ≤ 255) := by
      obtain ⟨z, z1, z2, ez⟩ := iI_of a4
      subst ez
      rw [show (-1 : Int32) = iI (-1) from rfl, show (0 : Int32) = iI 0 from rfl, show (255 : Int32) = iI 255 from rfl, iI_le (by omega) (by omega) (by omega) (by omega), iI_le (by omega) (by omega) (by omega) (by omega), iI_le (by omega) (by omega) (by omega) (by omega), iI_eq (by omega) (by omega) (by omega) (by omega)]
      omega
    suffices main : (a4 = (-1) ∨ a4 = 500 ∨ (0 ≤ a4 ∧ a4 ≤ 255)) → f_X10_rescue_58 SC 0 (nI fr) (nI to) a3 a4 (fun r hc' => f_X11_rescue SM 0 (nI fr) (nI to) a3 a4 hm (fun r' hm' => r = r' ∧ Inv LR hc' hm')) hc by
      refine aIf_i (fun c => main (Or.inl c)) (fun c => aIf_i (fun c1 => main (Or.inr (Or.inl c1))) (fun c1 => aIf_i (fun c2 => main (Or.inr (Or.inr ?_))) (fun c2 => pre _ (aIf_f c1 (li_f (b := -1) (c := 255) (fun z => ?_) (aIf_f (fun y => y rfl) ⟨rfl, Inv_same I⟩))))))
      · rcases hr with ⟨-, y⟩ | ⟨y, -⟩
        · exact y
        · exact absurd y c2
      · rcases hr with ⟨y, -⟩ | ⟨-, y⟩
        · exact absurd y (by rw [Classical.not_not.mp c2]; decide)
        · exact (m1.mp z).elim c y
    intro ok
    have ref : ∀ Q : Int32 → aH → Prop, f_X11_rescue_62 SM 0 (nI fr) (nI to) a3 a4 Q hm → f_X11_rescue SM 0 (nI fr) (nI to) a3 a4 hm Q := by
      intro Q hq
      refine pre Q (aIf_i (fun _ => hq) (fun c => li_t (b := -1) (c := 255) (m1.mpr ?_) (aIf_t (by decide) hq)))
      rcases ok with z | z | z
      · exact Or.inl z
      · exact absurd z c
      · exact Or.inr z
    have fr256 : fr < 256 := by omega
    have to256 : to < 256 := by omega
    have fin : ∀ h' g', RsF hc h' → SFR hm g' → Inv LR h' g' := fun h' g' f' s' => Inv_step LRok_LR I (CS_RsF f') (MS_SFR s') (RepC_RsF f' i3) (RepM_SFR s' i4) i5
    have run : ∀ Q : Int32 → aH → Prop, (∀ g' G, SFR hm g' → isE (plL F L a3) to 1000 G → TR g' (plL F L a3) G → aIf (encF FARm (G fr) < 1000000000) (∀ x5_17 : Int32, x5_17 = (encF FARm (G fr) - encF FARm (G fr) / 1000 * 1000) → aIf (a4 = (-1)) (aIf (¬ a4 = (-1)) (Q x5_17 g') (Q (encF FARm (G fr) / 1000) g')) (aIf (¬ a4 = 500) (aIf (a4 ≤ x5_17) (∃ m147, f_X11_rescue_147 SM 0 (nI fr) (nI to) a3 a4 Q m147 (nI fr) 0 g') (Q (-3) g')) (aIf (¬ a4 = (-1)) (Q x5_17 g') (Q (encF FARm (G fr) / 1000) g')))) (Q (-2) g')) → f_X11_rescue SM 0 (nI fr) (nI to) a3 a4 hm Q := by
      intro Q hq
      refine ref Q ?_
      unfold f_X11_rescue_62
      refine sr_laysTakes i2 i4 i5 F2 to256 (fun g' G s' hG t' => ?_)
      have lg := LayM_2 s'.1 i2
      rw [m_58 lg, mi_39, vp_lt fr256 (by decide), cl (by omega), (t' fr fr256).2.1]
      have hq' := hq g' G s' hG t'
      refine ⟨trivial, fun v ev => ?_⟩
      subst ev
      refine aIf_i (fun c => ⟨trivial, fun v ev => ?_⟩) (fun c => hq'.2 c)
      subst ev
      have hq'' := hq'.1 c
      intro x ex
      refine aIf_i (fun e => aIf_i (fun e' => absurd e e') (fun e' => ⟨trivial, fun v ev => ?_⟩)) (fun e => aIf_i (fun e2 => ?_) (fun e2 => aIf_i (fun e3 => ?_) (fun e3 => absurd (Classical.not_not.mp e3) e)))
      · subst ev
        exact ((hq'' x ex).1 e).2 e'
      · exact ((hq'' x ex).2 e).1 e2
      · exact (((hq'' x ex).2 e).2 e2).1 e3
    unfold f_X10_rescue_58
    rw [c_0_9 i1, co_73, c_0_0 i1, co_1, c_0_5 i1, co_42]
    refine ⟨trivial, trivial, trivial, sp_solveR i1 i3 i5 F1 fr256 to256 (fun h1 E a f1 hE ea r1 g1 => ?_) (fun h1 f1 no => ?_)⟩
    rotate_left
    · refine aIf_f (fun z => z rfl) (run _ (fun g' G s' hG t' => ?_))
      have gn : G fr = none := by
        rcases eg : G fr with _ | x
        · rfl
        · rcases ep : plL F L a3 to with _ | q
          · exact absurd eg (E_none hG ep x fr)
          · obtain ⟨E, hE⟩ := E_ex (plL F L a3) 1024 to256
            have := E_uniq hG (ph_E hE) ⟨q, ep⟩ fr
            rw [eg] at this
            have : some x = (E fr).map ph := this
            rw [no E hE] at this
            cases this
      rw [gn]
      exact aIf_f (by decide) ⟨rfl, fin h1 g' f1 s'⟩
    refine aIf_t (by decide) ?_
    have l1 := LayC_2 f1.1 i1
    obtain ⟨q0, hq0⟩ : ∃ q, plL F L a3 to = some q := by
      rcases ep : plL F L a3 to with _ | q
      · exact absurd ea (E_none hE ep a fr)
      · exact ⟨q, rfl⟩
    have ba := E_bd hE pl_1 a fr ea
    have sa : a % 1024 ≤ 255 := by
      have := stp_le hE a fr ea
      have := rk_255 (E := E) fr256 ea
      omega
    have p1a : ph a / 1000 = a / 1024 := by unfold ph; omega
    have p2a : ph a % 1000 = a % 1024 := by unfold ph; omega
    have pab : ph a < 1000000000 := by unfold ph; omega
    have run2 : ∀ Q : Int32 → aH → Prop, (∀ g', SFR hm g' → TR g' (plL F L a3) (fun v => (E v).map ph) → aIf (a4 = (-1)) (Q (nI (a / 1024)) g') (aIf (¬ a4 = 500) (aIf (a4 ≤ nI (a % 1024)) (∃ m147, f_X11_rescue_147 SM 0 (nI fr) (nI to) a3 a4 Q m147 (nI fr) 0 g') (Q (-3) g')) (Q (nI (a % 1024)) g'))) → f_X11_rescue SM 0 (nI fr) (nI to) a3 a4 hm Q := by
      intro Q hq
      refine run Q (fun g' G s' hG t' => ?_)
      have eqG := E_uniq hG (ph_E hE) ⟨q0, hq0⟩
      have eGf : G fr = some (ph a) := by
        rw [eqG fr]
        show (E fr).map ph = _
        rw [ea]
        rfl
      have t2 : TR g' (plL F L a3) (fun v => (E v).map ph) := fun v hv => by
        have := t' v hv
        rw [eqG v] at this
        exact this
      have hq' := hq g' s' t2
      rw [eGf]
      show aIf (nI (ph a) < 1000000000) _ _
      refine aIf_t ((nI_ltI (b := 1000000000) (by omega) (by decide)).mpr pab) (fun x ex => ?_)
      have ex : x = nI (ph a) - nI (ph a) / 1000 * 1000 := ex
      rw [show nI (ph a) - nI (ph a) / 1000 * 1000 = nI (ph a % 1000) from pk_rem (a := ph a) (d := 1000) (by omega) (by decide) (by decide), p2a] at ex
      subst ex
      have ed : nI (ph a) / 1000 = nI (a / 1024) := by
        rw [show nI (ph a) / 1000 = nI (ph a / 1000) from pk_div (a := ph a) (d := 1000) (by omega) (by decide) (by decide), p1a]
      refine aIf_i (fun e => aIf_f (fun y => y e) ?_) (fun e => aIf_i (fun e2 => aIf_i (fun e3 => ((hq'.2 e).1 e2).1 e3) (fun e3 => ((hq'.2 e).1 e2).2 e3)) (fun e2 => aIf_t e ((hq'.2 e).2 e2)))
      show Q (nI (ph a) / 1000) g'
      rw [ed]
      exact hq'.1 e
    have steps : ∀ Q : Int32 → aH → Prop, Q (nI (a % 1024)) h1 → f_X6_steps SC 73 h1 Q := by
      intro Q hq v ev
      rw [g1] at ev
      subst ev
      rw [c_73_1 l1, ca_75, vp_lt fr256 (by decide), cl (by omega), (r1 fr fr256).2, ea]
      refine ⟨trivial, fun v ev => ?_⟩
      subst ev
      show Q (nI a - nI a / 1024 * 1024) h1
      rw [show nI a - nI a / 1024 * 1024 = nI (a % 1024) from pk_rem (a := a) (d := 1024) (by omega) (by decide) (by decide)]
      exact hq
    rw [c_0_9 l1, co_73]
    refine aIf_i (fun n1 => aIf_i (fun n5 => ?_) (fun n5 => ?_)) (fun n1 => ?_)
    · -- a square of the way
      have p4 : 0 ≤ a4 ∧ a4 ≤ 255 := (ok.resolve_left n1).resolve_left n5
      obtain ⟨wh, hwh, ewh⟩ := Iof (x := a4) (M := 255) (by decide) p4.1 p4.2
      subst ewh
      refine ⟨trivial, steps _ ?_⟩
      refine aIf_i (fun c => ?_) (fun c => ?_)
      · have c := (nI_ltI (by omega) (by omega)).mp c
        refine run2 _ (fun g' s' t' => aIf_f n1 (aIf_t n5 (aIf_f (fun z => ?_) ⟨rfl, fin h1 g' f1 s'⟩)))
        have := (nI_leI (by omega) (by omega)).mp z
        omega
      · have c : ¬ a % 1024 < wh := fun z => c ((nI_ltI (by omega) (by omega)).mpr z)
        rw [c_0_9 l1, co_73]
        refine ⟨trivial, ?_⟩
        have wo := wk_of hE fr256 ea (pl := plL F L a3)
        intro v ev
        rw [g1] at ev
        subst ev
        have key : ∀ w q, q + w = wh → f_X6_squareAt_7 SC 73 (nI wh) (fun r15 h14 => f_X11_rescue SM 0 (nI fr) (nI to) a3 (nI wh) hm (fun r' hm' => r15 = r' ∧ Inv LR h14 hm')) (w + 1) (nI (wkS E (plL F L a3) fr q)) (nI q) h1 := by
          intro w
          induction w with
          | zero =>
            intro q hq
            refine aIf_t (nI_le (by omega) (by omega)) ?_
            have eq : q = wh := by omega
            subst eq
            refine run2 _ (fun g' s' t' => aIf_f n1 (aIf_t n5 (aIf_t (nI_le (by omega) (by omega)) ?_)))
            have lg := LayM_2 s'.1 i2
            have way : ∀ w p, p + w = q → f_X11_rescue_147 SM 0 (nI fr) (nI to) a3 (nI q) (fun r' hm' => nI (wkS E (plL F L a3) fr q) = r' ∧ Inv LR h1 hm') (w + 1) (nI (wkS E (plL F L a3) fr p)) (nI p) g' := by
              intro w
              induction w with
              | zero =>
                intro p hp
                have ep : p = q := by omega
                subst ep
                exact aIf_t (nI_le (Nat.le_refl _) (by omega)) ⟨rfl, fin h1 g' f1 s'⟩
              | succ w ih =>
                intro p hp
                refine aIf_f (nI_ge (by omega) (by omega)) ?_
                obtain ⟨o1, y, pp, o2, o3, o4, o5⟩ := wo p (by omega)
                refine sr_next lg hE pl_1 t' o1 o2 o3 (o5 (by omega)) ?_
                rw [nI_1]
                exact ih (p + 1) (by omega)
            exact ⟨_, way q 0 (by omega)⟩
          | succ w ih =>
            intro q hq
            refine aIf_f (nI_ge (by omega) (by omega)) (aIf_f (nI_ge (a := q) (b := 256) (by omega) (by decide)) ?_)
            obtain ⟨o1, y, pp, o2, o3, o4, o5⟩ := wo q (by omega)
            refine sp_nextFrom l1 hE pl_1 r1 o1 o2 o3 (o5 (by omega)) ?_
            intro x ex
            rw [nI_1] at ex
            subst ex
            exact ih (q + 1) (by omega)
        exact ⟨_, key wh 0 (by omega)⟩
    · refine ⟨trivial, steps _ ?_⟩
      exact run2 _ (fun g' s' t' => aIf_f n1 (aIf_f n5 ⟨rfl, fin h1 g' f1 s'⟩))
    · refine ⟨trivial, ?_⟩
      intro v ev
      rw [g1] at ev
      subst ev
      rw [c_73_1 l1, ca_75, vp_lt fr256 (by decide), cl (by omega), (r1 fr fr256).2, ea]
      refine ⟨trivial, fun v ev => ?_⟩
      subst ev
      show f_X11_rescue SM 0 (nI fr) (nI to) a3 a4 hm (fun r' hm' => nI a / 1024 = r' ∧ Inv LR h1 hm')
      rw [show nI a / 1024 = nI (a / 1024) from pk_div (a := a) (d := 1024) (by omega) (by decide) (by decide)]
      exact run2 _ (fun g' s' t' => aIf_t (Classical.not_not.mp n1) ⟨rfl, fin h1 g' f1 s'⟩)
  by_cases p4 : 0 ≤ a4 ∧ a4 ≤ 255
  · exact wi_t p4 (w4 1 (Or.inl ⟨rfl, p4⟩))
  · exact wi_f p4 (w4 0 (Or.inr ⟨rfl, p4⟩))
