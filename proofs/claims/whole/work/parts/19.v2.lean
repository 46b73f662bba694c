/-! ===== RESCUE: the class's costs are the least ones ===== -/
def plL (F : LF) (L : Lw) (wt : Int32) (s : Nat) : Option Nat := if L 1 s = (-1) then (if wt ≤ bearsL F L s then some 0 else if wt ≤ bearsL F L s + 100 then some 1 else none) else none
theorem pl_1 {F : LF} {L : Lw} {wt : Int32} : ∀ v q, plL F L wt v = some q → q ≤ 1 := by
  intro v q h
  unfold plL at h
  split at h
  · split at h
    · cases h; decide
    · split at h
      · cases h; decide
      · cases h
  · cases h
theorem E_none {pl : Nat → Option Nat} {to K : Nat} {E : Nat → Option Nat} (hE : isE pl to K E) (hp : pl to = none) : ∀ a v, ¬ E v = some a := by
  intro a
  induction a using Nat.strongRecOn with
  | ind a ih =>
    intro v e
    obtain ⟨hv, ⟨q, hq⟩, z⟩ := hE.2.1 v a e
    rcases z with z | ⟨j, u, b, p, h1, h2, h3, h4, h5⟩
    · subst z
      rw [hp] at hq; cases hq
    · exact ih b (by omega) u h3
theorem E_bd {pl : Nat → Option Nat} {to : Nat} {E : Nat → Option Nat} (hE : isE pl to 1024 E) (pb : ∀ v q, pl v = some q → q ≤ 1) : ∀ a v, E v = some a → a ≤ 262400 := by
  have key : ∀ a v, E v = some a → a ≤ 1025 * (rk E a + 1) := by
    intro a
    induction a using Nat.strongRecOn with
    | ind a ih =>
      intro v e
      obtain ⟨hv, ⟨q, hq⟩, z⟩ := hE.2.1 v a e
      rcases z with z | ⟨j, u, b, p, h1, h2, h3, h4, h5⟩
      · subst z
        have := hE.1 q hq
        rw [e] at this
        cases this
        have := pb v q hq
        omega
      · have i := ih b (by omega) u h3
        have r := rk_lt (E := E) (sd_lt h2) h3 (show b < a by omega)
        have := pb v p h4
        omega
  intro a v e
  have := key a v e
  have := rk_255 (E := E) (hE.2.1 v a e).1 e
  omega
/-- the class's rows when all is done -/
def Rsd (h : aH) (pl E : Nat → Option Nat) : Prop := ∀ v, v < 256 → gA h 74 v = encP (pl v) ∧ gA h 75 v = encF FARc (E v)
section RsD
variable {h : aH} {l d to : Nat} {pl E : Nat → Option Nat}
theorem sp_spread21 (hL : LayC h l d) (hE : isE pl to 1024 E) (hp : ∃ q, pl to = some q) (pb : ∀ v q, pl v = some q → q ≤ 1) {a1 : Int32} {Q : aH → Prop} (hq : ∀ h', RsG h h' → Rsd h' pl E → Q h') : ∀ w x4, x4 + w = 65536 → ∀ (h' : aH) (c : Nat → Option Nat) (qs : List Nat) (hd k p : Nat), hd < 256 → RsG h h' → QI h' pl c qs hd → PI pl to E c qs k p (1025 * (x4 + 1)) → (∀ v, v < 256 → v ∉ qs → Rx pl c v 4) → x4 + k ≤ 256 * (p + 1) → (k = 0 → qs = []) → f_X6_spreadFrom_21 SC 73 a1 Q (w + 1) (nI hd) (nI qs.length) (nI x4) h' := by
  have done : ∀ (h' : aH) (c : Nat → Option Nat) (hd k p B : Nat), RsG h h' → QI h' pl c [] hd → PI pl to E c [] k p B → (∀ v, v < 256 → v ∉ ([] : List Nat) → Rx pl c v 4) → Q h' := by
    intro h' c hd k p B f' q' p' rx
    have e := PI_end hE hp p' (fun u hu => rx u hu List.not_mem_nil)
    exact hq h' f' (fun v hv => by rw [← e v]; exact q'.1 v hv)
  intro w
  induction w with
  | zero =>
    intro x4 hx h' c qs hd k p hd256 f' q' p' rx m6 k0
    have e : x4 = 65536 := by omega
    have pp := p'.2.2.2.2.2.1
    have : k = 0 := by omega
    have e2 := k0 this
    subst e2
    refine aIf_t (by rw [e]; decide) (done h' c hd k p _ f' q' p' rx)
  | succ w ih =>
    intro x4 hx h' c qs hd k p hd256 f' q' p' rx m6 k0
    have l' := LayC_2 f'.1 hL
    refine aIf_f (nI_ge (a := x4) (b := 65536) (by omega) (by decide)) ?_
    rcases qs with _ | ⟨u, qs0⟩
    · exact aIf_t (by decide) (done h' c hd k p _ f' q' p' rx)
    · obtain ⟨q1, q2, q3, q4, q5⟩ := id q'
      obtain ⟨m1, m2, m4, m5, mk, mp, m8⟩ := id p'
      have k1 : 1 ≤ k := by
        rcases Nat.eq_zero_or_pos k with z | z
        · exact absurd (k0 z) (List.cons_ne_nil _ _)
        · exact z
      have ll := len_256 q4 q5
      have ll2 : (u :: qs0).length = qs0.length + 1 := List.length_cons
      have hu := q5 u List.mem_cons_self
      rw [List.nodup_cons] at q4
      obtain ⟨b, cb⟩ := m8 u List.mem_cons_self
      obtain ⟨-, -, bE, bB⟩ := m1 u b cb
      rw [ll2]
      refine aIf_f (fun z => absurd ((nI_leI (b := 0) (by omega) (by decide)).mp z) (by omega)) ?_
      have g76 : gA h' 76 hd = nI u := by
        have := q2 0 (by rw [ll2]; omega)
        rw [show (hd + 0) % 256 = hd by omega] at this
        exact this
      rw [c_73_2 l', ca_76, vp_lt hd256 (by decide), cl (by omega), g76]
      refine ⟨trivial, fun v ev x2 e2 x3 e3 => ?_⟩
      subst ev
      have eh : (nI hd + 1) - (nI hd + 1) / 256 * 256 = nI ((hd + 1) % 256) := by
        rw [nI_1]
        exact pk_rem (a := hd + 1) (d := 256) (by omega) (by decide) (by decide)
      rw [eh] at e2
      rw [pk_m1] at e3
      subst e2 e3
      rw [c_73_3 l', ca_77, vp_lt hu (by decide), cl (by omega)]
      refine ⟨trivial, fun h2 e2 => ?_⟩
      have f2 : RsG h h2 := by rw [e2]; exact RsG_tr f' (RsG_sA (by decide))
      have sh : ∀ i, (u :: qs0).getD (i + 1) 0 = qs0.getD i 0 := fun i => rfl
      refine ⟨5, sp_relax (h := h) (p := p) hL hE pb hu (by omega) ((hd + 1) % 256) (by omega) bB bE (fun h3 c3 qs3 k3 f3 q3' p3 rx3 m63 => ?_) 4 0 (by omega) h2 c qs0 (k - 1) f2 ⟨fun v hv => ?_, fun i hi => ?_, fun v hv => ?_, q4.2, fun v hv => q5 v (List.mem_cons_of_mem _ hv)⟩ ⟨fun v a ha => ?_, m2, m4, fun i a b' => ?_, by omega, mp, fun v hv => m8 v (List.mem_cons_of_mem _ hv)⟩ cb q4.1 (fun v hv nq vu => rx v hv (fun z => (List.mem_cons.mp z).elim vu nq)) (fun b' j v q e hj => absurd hj (Nat.not_lt_zero _)) (by omega)⟩
      · by_cases z : k3 = 0
        · by_cases y : qs3 = []
          · exact ih (x4 + 1) (by omega) h3 c3 qs3 _ k3 p (by omega) f3 q3' p3 rx3 m63 (fun _ => y)
          · subst z
            have p4 := PI_shift hE p3 rx3 y
            have l3 := len_256 q3'.2.2.2.1 q3'.2.2.2.2
            refine ih (x4 + 1) (by omega) h3 c3 qs3 _ qs3.length (p + 1) (by omega) f3 q3' p4 rx3 (by omega) (fun z => absurd (List.eq_nil_of_length_eq_zero z) y)
        · exact ih (x4 + 1) (by omega) h3 c3 qs3 _ k3 p (by omega) f3 q3' p3 rx3 m63 (fun y => absurd y z)
      · rw [e2, gA_o (by decide), gA_o (by decide)]
        exact q1 v hv
      · rw [e2, gA_o (by decide)]
        have := q2 (i + 1) (by rw [ll2]; omega)
        rw [sh i] at this
        rw [show ((hd + 1) % 256 + i) % 256 = (hd + (i + 1)) % 256 by omega]
        exact this
      · rw [e2]
        by_cases z : v = u
        · rw [z, gA_e]
          exact ⟨fun y => absurd y q4.1, fun _ => rfl⟩
        · rw [gA_p z]
          exact ⟨fun y => (q3 v hv).1 (List.mem_cons_of_mem _ y), fun y => (q3 v hv).2 (fun t => (List.mem_cons.mp t).elim z y)⟩
      · obtain ⟨a1', a2', a3', a4'⟩ := m1 v a ha
        exact ⟨a1', a2', a3', by omega⟩
      · have := m5 (i + 1) (by omega) (by rw [ll2]; omega)
        rw [sh i] at this
        exact this
theorem sp_spreadFrom (hL : LayC h l d) (hE : isE pl to 1024 E) (ht : to < 256) {q0 : Nat} (hp : pl to = some q0) (pb : ∀ v q, pl v = some q → q ≤ 1) (h74 : ∀ v, v < 256 → gA h 74 v = encP (pl v)) (h75 : ∀ v, v < 256 → gA h 75 v = if v = to then nI (1024 * q0) else nI FARc) (h77 : ∀ v, v < 256 → gA h 77 v = 0) {Q : aH → Prop} (hq : ∀ h', RsG h h' → Rsd h' pl E → Q h') : f_X6_spreadFrom SC 73 (nI to) h Q := by
  unfold f_X6_spreadFrom
  rw [c_73_2 hL, ca_76]
  refine ⟨vp_in_nI (n := 0) (by decide) (by decide), fun h1 e1 => ?_⟩
  have e1 : h1 = sA h 76 0 (nI to) := e1
  have l1 : LayC h1 l d := LayC_2 (by rw [e1]; rfl) hL
  rw [c_73_3 l1, ca_77, vp_lt ht (by decide), cl (by omega)]
  refine ⟨trivial, fun h2 e2 => ?_⟩
  have f2 : RsG h h2 := by rw [e2, e1]; exact RsG_tr (RsG_sA (by decide)) (RsG_sA (by decide))
  have q1 := pb to q0 hp
  let c : Nat → Option Nat := fun v => if v = to then some (1024 * q0) else none
  have ct : c to = some (1024 * q0) := if_pos rfl
  have co : ∀ v, v ≠ to → c v = none := fun v z => if_neg z
  have inv : ∀ v a, c v = some a → v = to ∧ a = 1024 * q0 := fun v a e => by
    by_cases z : v = to
    · rw [z, ct] at e; cases e; exact ⟨z, rfl⟩
    · rw [co v z] at e; cases e
  have k0 := sp_spread21 hL hE ⟨q0, hp⟩ pb (a1 := nI to) hq 65536 0 (by decide) h2 c [to] 0 1 0 (by decide) f2 ⟨fun v hv => ?_, fun i hi => ?_, fun v hv => ?_, List.nodup_cons.mpr ⟨List.not_mem_nil, List.nodup_nil⟩, fun v hv => by rw [List.mem_singleton] at hv; rw [hv]; exact ht⟩ ⟨fun v a e => ?_, fun q hq' => ?_, fun v e he hr => ?_, fun i a b => ?_, Nat.le_refl _, by decide, fun v hv => ?_⟩ (fun v hv nq b j t q e => ?_) (by decide) (fun z => absurd z (by decide))
  · exact ⟨_, k0⟩
  · rw [e2, gA_o (by decide), gA_o (by decide), e1, gA_o (by decide), gA_o (by decide), h75 v hv]
    refine ⟨h74 v hv, ?_⟩
    by_cases z : v = to
    · rw [if_pos z, z, ct]; rfl
    · rw [if_neg z, co v z]; rfl
  · have hi : i < 1 := hi
    have : i = 0 := by omega
    subst this
    rw [e2, gA_o (by decide), e1]
    exact gA_e
  · rw [e2, List.mem_singleton]
    by_cases z : v = to
    · rw [z, gA_e]; exact ⟨fun _ => rfl, fun y => absurd rfl y⟩
    · rw [gA_p z, e1, gA_o (by decide), h77 v hv]
      exact ⟨fun y => absurd y z, fun _ => rfl⟩
  · obtain ⟨z1, z2⟩ := inv v a e
    rw [z1, z2]
    exact ⟨ht, ⟨q0, hp⟩, ⟨_, hE.1 q0 hp, Nat.le_refl _⟩, by omega⟩
  · rw [hp] at hq'; cases hq'; exact ct
  · obtain ⟨hv, ⟨q, hq'⟩, z⟩ := hE.2.1 v e he
    rcases z with z | ⟨j, u, b, p, a1, a2, a3, a4, a5⟩
    · subst z
      have := hE.1 q0 hp
      rw [he] at this
      cases this
      exact ct
    · have := rk_lt (E := E) (sd_lt a2) a3 (show b < e by omega)
      omega
  · have b : i < 1 := b
    omega
  · rw [List.mem_singleton] at hv
    exact ⟨_, by rw [hv]; exact ct⟩
  · intro hj
    rw [co v (fun z => nq (by rw [z]; exact List.mem_singleton.mpr rfl))] at e
    cases e
theorem sp_solveR (hL : LayC h l d) {L : Lw} {hn gn : Nat} {F : LF} (hR : RepC h 1 L) (hW : WF L hn gn) (hF : LC h l F) {from_ : Nat} (hf : from_ < 256) (ht : to < 256) {wt : Int32} {Q : Int32 → aH → Prop} (h1 : ∀ h' E a, RsF h h' → isE (plL F L wt) to 1024 E → E from_ = some a → Rsd h' (plL F L wt) E → gI h' 73 4 = nI from_ → Q 1 h') (h0 : ∀ h', RsF h h' → (∀ E, isE (plL F L wt) to 1024 E → E from_ = none) → Q 0 h') : f_X6_solve SC 73 1 42 (nI from_) (nI to) wt h Q := by
  have hk : isLake 1 := Or.inl rfl
  have hl := lay_isLaw hL
  intro h2 e2
  have f2 : RsF h h2 := by rw [e2]; exact RsF_sI
  have key := up_loop (N := 256) (P := fun w i => ∀ h', RsF h h' → gI h' 73 4 = nI from_ → (∀ v, v < i → gA h' 74 v = encP (plL F L wt v) ∧ gA h' 75 v = nI FARc ∧ gA h' 77 v = 0) → f_X6_solve_8 SC 73 1 42 (nI from_) (nI to) wt Q w (nI i) h') ?_ ?_
  · exact ⟨257, key h2 f2 (by rw [e2, gI_sI, if_pos ⟨rfl, rfl⟩]) (fun v hv => absurd hv (Nat.not_lt_zero _))⟩
  · intro h' f' g' t'
    have l' := LayC_2 f'.1 hL
    refine aIf_t (by decide) ?_
    rw [c_73_0 l', ca_74, vp_lt hf (by decide), cl (by omega), (t' from_ hf).1]
    refine ⟨trivial, fun v ev => ?_⟩
    subst ev
    rcases ef : plL F L wt from_ with _ | qf
    · refine aIf_t rfl (h0 h' f' (fun E hE => ?_))
      rcases e : E from_ with _ | a
      · rfl
      · obtain ⟨-, ⟨q, hq⟩, -⟩ := hE.2.1 from_ a e
        rw [ef] at hq; cases hq
    · have qf1 := pl_1 from_ qf ef
      refine aIf_f (nI_neg1 (by omega)) ?_
      rw [ca_74, vp_lt ht (by decide), cl (by omega), (t' to ht).1]
      refine ⟨trivial, fun v ev => ?_⟩
      subst ev
      rcases et : plL F L wt to with _ | qt
      · refine aIf_f (fun z => z rfl) (h0 h' f' (fun E hE => ?_))
        rcases e : E from_ with _ | a
        · rfl
        · exact absurd e (E_none hE et a from_)
      · have qt1 := pl_1 to qt et
        refine aIf_t (nI_neg1 (by omega)) ?_
        refine ⟨trivial, fun v ev => ?_⟩
        subst ev
        rw [c_73_1 l', ca_75, vp_lt ht (by decide)]
        refine ⟨trivial, fun h3 e3 => ?_⟩
        have ek : encP (some qt) * 1024 = nI (1024 * qt) := by
          show nI qt * 1024 = _
          rw [show (1024 : Int32) = nI 1024 from rfl, pk_mul, Nat.mul_comm]
        rw [ek] at e3
        have f3 : RsF h h3 := by rw [e3]; exact RsF_tr f' (RsF_sA (by decide))
        have l3 := LayC_2 f3.1 hL
        obtain ⟨E, hE⟩ := E_ex (plL F L wt) 1024 ht
        refine sp_spreadFrom l3 hE ht et pl_1 (fun v hv => by rw [e3, gA_o (by decide)]; exact (t' v hv).1) (fun v hv => ?_) (fun v hv => by rw [e3, gA_o (by decide)]; exact (t' v hv).2.2) (fun h4 f4 r4 => ?_)
        · rw [e3]
          by_cases z : v = to
          · rw [z, gA_e, if_pos rfl]
          · rw [gA_p z, if_neg z]; exact (t' v hv).2.1
        · have fa := RsF_tr f3 (RsF_G f4)
          have l4 := LayC_2 fa.1 hL
          have st4 : gI h4 73 4 = nI from_ := by rw [f4.2.2, e3]; exact g'
          rw [c_73_1 l4, ca_75, vp_lt hf (by decide), (r4 from_ hf).2]
          refine ⟨trivial, fun v ev => ?_⟩
          subst ev
          rcases e : E from_ with _ | a
          · refine aIf_t rfl (h0 h4 fa (fun E' hE' => ?_))
            rw [← E_uniq hE hE' ⟨qt, et⟩ from_]
            exact e
          · have bd := E_bd hE pl_1 a from_ e
            refine aIf_f (fun z => ?_) (h1 h4 E a fa hE e r4 st4)
            have z : nI a = nI FARc := z
            have := (nI_eq (by omega) (by decide)).mp z
            have : a = 1073741824 := this
            omega
  · intro w i hi n1 h' f' g' t'
    have l' := LayC_2 f'.1 hL
    have r' := RepC_RsF f' hR
    refine aIf_f (nI_ge (a := i) (b := 256) hi (by decide)) ?_
    have lay : ∀ (h3 : aH), SFC h' h3 → ∀ r17 : Int32, r17 = encP (plL F L wt i) → aIn SC 0 (gR h' 73 0) (nI i) ∧ ∀ h19 : aH, h19 = sA h3 (gR h' 73 0) (nI i).toNatClampNeg r17 → aIn SC 0 (gR h19 73 1) (nI i) ∧ ∀ h21 : aH, h21 = sA h19 (gR h19 73 1) (nI i).toNatClampNeg 1073741824 → aIn SC 1 (gR h21 73 3) (nI i) ∧ ∀ h23 : aH, h23 = sA h21 (gR h21 73 3) (nI i).toNatClampNeg 0 → ∀ x6_24 : Int32, x6_24 = nI i + 1 → f_X6_solve_8 SC 73 1 42 (nI from_) (nI to) wt Q (w + 1) x6_24 h23 := by
      intro h3 f3 r17 er
      rw [c_73_0 l', ca_74, vp_lt hi (by decide), cl (by omega)]
      refine ⟨trivial, fun h4 e4 => ?_⟩
      have l4 : LayC h4 l d := LayC_2 (by rw [e4]; exact f3.1) l'
      rw [c_73_1 l4, ca_75, vp_lt hi (by decide)]
      refine ⟨trivial, fun h5 e5 => ?_⟩
      have l5 : LayC h5 l d := LayC_2 (by rw [e5]; rfl) l4
      rw [c_73_3 l5, ca_77, vp_lt hi (by decide)]
      refine ⟨trivial, fun h6 e6 y ey => ?_⟩
      rw [nI_1] at ey
      subst ey
      refine n1 h6 ?_ ?_ (fun v hv => ?_)
      · rw [e6, e5, e4]
        exact RsF_tr f' (RsF_tr (RsF_S f3) (RsF_tr (RsF_sA (by decide)) (RsF_tr (RsF_sA (by decide)) (RsF_sA (by decide)))))
      · rw [e6, gI_sA, e5, gI_sA, e4, gI_sA, f3.2.2 _ _ (by decide)]
        exact g'
      · by_cases z : v = i
        · rw [z, e6, gA_o (by decide), gA_o (by decide), gA_e, e5, gA_o (by decide), gA_e, e4, gA_e]
          exact ⟨er, rfl, rfl⟩
        · rw [e6, gA_o (by decide), gA_o (by decide), gA_p z, e5, gA_o (by decide), gA_p z, gA_o (by decide), e4, gA_p z, gA_o (by decide), gA_o (by decide), f3.2.1 74 v (by decide), f3.2.1 75 v (by decide), f3.2.1 77 v (by decide)]
          exact t' v (by omega)
    unfold f_X6_planksAt
    refine sp_isFirm hk l' r' hi (fun c => aIf_t (by decide) ?_) (fun c => aIf_f (fun z => z rfl) (lay h' SFC_rf _ (by unfold plL; rw [if_neg c]; rfl)))
    refine sp_bears hk l' r' hW (LC_RsF hl f' hF) hi (fun h3 f3 => ?_)
    refine aIf_i (fun c2 => aIf_i (fun c3 => lay h3 f3 _ ?_) (fun c3 => lay h3 f3 _ ?_)) (fun c2 => lay h3 f3 _ ?_)
    · unfold plL
      rw [if_pos c, if_neg (Int32.not_le.mpr c2), if_neg (Int32.not_le.mpr c3)]
      rfl
    · unfold plL
      rw [if_pos c, if_neg (Int32.not_le.mpr c2), if_pos (Int32.not_lt.mp c3)]
      rfl
    · unfold plL
      rw [if_pos c, if_pos (Int32.not_lt.mp c2)]
      rfl
end RsD
