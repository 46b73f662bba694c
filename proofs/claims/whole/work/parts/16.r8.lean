/-! ===== SOUND ===== -/
def ageL (F : LF) (L : Lw) : Nat → Lw
  | 0 => L
  | n + 1 => uL (thawL F (ageL F L n)) 9 2 (thawL F (ageL F L n) 9 2 + 1)
theorem age_o {F : LF} {L : Lw} {f i : Nat} (h0 : f ≠ 0) (h9 : ¬ (f = 9 ∧ i = 2)) : ∀ n, ageL F L n f i = L f i := by
  intro n
  induction n with
  | zero => rfl
  | succ n ih =>
    show uL (thawL F (ageL F L n)) 9 2 _ f i = _
    rw [uL_n h9]
    exact (thN_o (fun z => h0 z.1)).trans ih
theorem age_92 {F : LF} {L : Lw} : ∀ n, ageL F L n 9 2 = L 9 2 + nI n := by
  intro n
  induction n with
  | zero => exact (Int32.add_zero _).symm
  | succ n ih =>
    show uL (thawL F (ageL F L n)) 9 2 _ 9 2 = _
    have e : thawL F (ageL F L n) 9 2 = ageL F L n 9 2 := thN_o (fun z => absurd z.1 (by decide))
    rw [uL_s, e, ih, ← nI_1, Int32.add_assoc]
theorem WF_age {F : LF} {L : Lw} {hn gn : Nat} (hF : ∀ c most V, 0 ≤ most → 0 ≤ F c most V ∧ F c most V ≤ most) (hW : WF L hn gn) : ∀ n, WF (ageL F L n) hn gn := by
  intro n
  induction n with
  | zero => exact hW
  | succ n ih => exact WF_92 (WF_thN hF ih 256 (Nat.le_refl _))
theorem age_th {F : LF} {L : Lw} {n t : Nat} (ht : t < 256) (h1 : ¬ L 1 t = (-2)) : ageL F L (n + 1) 0 t = aMax 0 (ageL F L n 0 t - thawV F (ageL F L n) t) := by
  show uL (thawL F (ageL F L n)) 9 2 _ 0 t = _
  rw [uL_n (fun z => absurd z.1 (by decide))]
  show (if 0 = 0 ∧ t < 256 then thV F (ageL F L n) t else _) = _
  rw [if_pos ⟨rfl, ht⟩]
  unfold thV
  rw [if_neg]
  rw [age_o (by decide) (fun z => absurd z.1 (by decide))]
  exact h1
theorem age_kind {F : LF} {L : Lw} {n t : Nat} : kindL (ageL F L n) t = kindL L t := by
  unfold kindL
  rw [age_o (f := 1) (by decide) (fun z => absurd z.1 (by decide)), age_o (f := 3) (by decide) (fun z => absurd z.1 (by decide))]
theorem VS_age {F : LF} {L : Lw} {n t j : Nat} {kd : Int32} (h0 : j ≠ 0) (h5 : j ≠ 5) : VS (ageL F L n) t kd e0 j = VS L t kd e0 j := by
  rcases j with _ | _ | _ | _ | _ | _ | _ | j
  · exact absurd rfl h0
  · exact gaps_eq (fun t => age_o (by decide) (fun z => absurd z.1 (by decide)) n) t
  · exact warm_eq (fun t => age_o (by decide) (fun z => absurd z.1 (by decide)) n) (fun t => age_o (by decide) (fun z => absurd z.1 (by decide)) n) t
  · rfl
  · rfl
  · exact absurd rfl h5
  · rfl
  · rfl
/-- no firm NEIGHBOUR of s bears less than the load -/
def sndO (F : LF) (L : Lw) (s : Nat) (load : Int32) : Prop := ∀ j, j < 8 → ∀ t, adj s j = some t → L 1 t = (-1) → load ≤ bearsL F L t
def SndP (F : LF) (L : Lw) (s : Nat) (load : Int32) (r : Nat) : Prop := r ≤ 60 ∧ (∀ n, n < r → sndO F (ageL F L n) s load) ∧ (r = 60 ∨ ¬ sndO F (ageL F L r) s load)
theorem Snd_u {F : LF} {L : Lw} {s r r' : Nat} {load : Int32} (h : SndP F L s load r) (h' : SndP F L s load r') : r = r' := by
  obtain ⟨a1, a2, a3⟩ := h
  obtain ⟨b1, b2, b3⟩ := h'
  rcases Nat.lt_trichotomy r r' with z | z | z
  · rcases a3 with y | y
    · omega
    · exact absurd (b2 r z) y
  · exact z
  · rcases b3 with y | y
    · omega
    · exact absurd (a2 r' z) y
section Snd
variable {h : aH} {l d k : Nat} {L : Lw} {hn gn : Nat} {F : LF} {Q : Int32 → aH → Prop} {load : Int32}
theorem sp_saysV {V : Nat → Int32} (hl : isLaw l) (hL : LayC h l d) (hF : LC h l F) (hV : ∀ k, k < 12 → gA h (l + 6) k = V k) {c most : Int32} (hm : 0 ≤ most) (hq : ∀ h', SFC h h' → (∀ j, gA h' (l + 6) j = gA h (l + 6) j) → Q (F c most V) h') : f_X3_says SC l c most h Q := by
  obtain ⟨n, lt, H, W, h1, e⟩ := hF
  subst e
  exact sp_says hl hL h1 hV hm (fun h' hf => hq h' (SFC_HF hl hf) (fun j => hf.2.1 _ _ (by omega)))
theorem sp_bearingTime (hk : isLake k) (hL : LayC h l d) (hR : RepC h k L) (hW : WF L hn gn) (hF : LC h l F) {t : Nat} (ht : t < 256) (h1 : L 1 t = (-1)) {most : Nat} (hm : most ≤ 60) (hq : ∀ r h', r ≤ most → (∀ n, n < r → load ≤ bearsL F (ageL F L n) t) → (r = most ∨ ¬ load ≤ bearsL F (ageL F L r) t) → SFC h h' → Q (nI r) h') : f_X5_bearingTime SC 42 k (nI t) load (nI most) h Q := by
  have hl := lay_isLaw hL
  unfold f_X5_bearingTime
  refine sp_kindAt hk hL hR hW ht ?_
  rw [c_42_0 hL, lw_o hl]
  refine ⟨trivial, sp_lookAt hk hl hL hR ht (fun h1' f1 v1 => ?_)⟩
  have l1 := LayC_2 f1.1 hL
  have r1 := RepC_SFC hk f1 hR
  rw [lk_0 hk l1, li_1 hk, vp_lt ht (by decide), cl (by omega), (r1.1 t ht).1]
  refine ⟨trivial, fun v ev => ?_⟩
  subst ev
  have key := up_loop (N := most) (P := fun w i => ∀ h', SFC h h' → (∀ j, j < 12 → j ≠ 0 → j ≠ 5 → gA h' (l + 6) j = VS L t (kindL L t) e0 j) → (∀ n, n < i → load ≤ bearsL F (ageL F L n) t) → f_X5_bearingTime_25 SC 42 k (nI t) load (nI most) Q w (ageL F L i 0 t) (nI i) h') ?_ ?_
  · exact ⟨most + 1, key h1' f1 (fun j hj _ _ => v1 j hj) (fun n hn => absurd hn (Nat.not_lt_zero _))⟩
  · intro h' f' _ b'
    exact aIf_t (nI_le (Nat.le_refl _) (by omega)) (hq most h' (Nat.le_refl _) b' (Or.inl rfl) f')
  · intro w i hi n1 h' f' v' b'
    have l' := LayC_2 f'.1 hL
    have r' := RepC_SFC hk f' hR
    refine aIf_f (nI_ge hi (by omega)) ?_
    intro v ev
    rw [r'.2.2.2.2.2.1] at ev
    subst ev
    rw [c_42_0 l', lw_o hl, ← age_92 (F := F)]
    refine ⟨trivial, ?_⟩
    unfold f_X3_lookLater
    rw [lw_7 hl l', lwi_6 hl]
    refine ⟨vp_in_nI (n := 0) (by decide) (by decide), fun h2 e2 => ?_⟩
    have f2 : SFC h' h2 := by rw [e2]; exact SFC_sA (by unfold isLaw at hl; omega)
    have l2 := LayC_2 f2.1 l'
    rw [lw_7 hl l2, lwi_6 hl]
    refine ⟨vp_in_nI (n := 5) (by decide) (by decide), fun h3 e3 => ?_⟩
    have f3 : SFC h2 h3 := by rw [e3]; exact SFC_sA (by unfold isLaw at hl; omega)
    have l3 := LayC_2 f3.1 l2
    have fa := SFC_tr f' (SFC_tr f2 f3)
    have V3 : ∀ j, j < 12 → gA h3 (l + 6) j = VS (ageL F L i) t (kindL L t) e0 j := by
      intro j hj
      have e3' : h3 = sA h2 (l + 6) 5 (ageL F L i 9 2) := e3
      have e2' : h2 = sA h' (l + 6) 0 (ageL F L i 0 t) := e2
      rw [e3']
      by_cases c5 : j = 5
      · rw [c5, gA_e]; rfl
      · rw [gA_p c5, e2']
        by_cases c0 : j = 0
        · rw [c0, gA_e]; rfl
        · rw [gA_p c0, VS_age c0 c5]
          exact v' j hj c0 c5
    show aObj SC (gR h3 42 0) 2 flX3 ∧ f_X3_says SC (gR h3 42 0) 98 9999 h3 _
    rw [c_42_0 l3, lw_o hl]
    refine ⟨trivial, sp_saysV hl l3 (LC_SFC hl fa hF) V3 (by decide) (fun h4 f4 c4 => ?_)⟩
    have eb : F 98 9999 (VS (ageL F L i) t (kindL L t) e0) = bearsL F (ageL F L i) t := by
      unfold bearsL
      rw [age_kind]
    have eh : F 116 9 (VS (ageL F L i) t (kindL L t) e0) = thawV F (ageL F L i) t := by
      unfold thawV
      rw [age_kind]
    rw [eb]
    have fb := SFC_tr fa f4
    refine aIf_i (fun c => ?_) (fun c => hq i h4 (by omega) b' (Or.inr c) fb)
    have l4 := LayC_2 f4.1 l3
    rw [c_42_0 l4, lw_o hl]
    refine ⟨trivial, sp_saysV hl l4 (LC_SFC hl fb hF) (fun j hj => (c4 j).trans (V3 j hj)) (by decide) (fun h5 f5 c5 => ?_)⟩
    rw [eh]
    intro x ex y ey
    rw [nI_1] at ey
    rw [← age_th ht (by rw [h1]; decide)] at ex
    subst ex ey
    refine n1 h5 (SFC_tr fb f5) (fun j hj j0 j5 => ?_) (fun n hn => ?_)
    · rw [c5, c4, V3 j hj, VS_age j0 j5]
    · rcases Nat.lt_or_ge n i with z | z
      · exact b' n z
      · rw [show n = i by omega]; exact c
theorem sp_soundTime (hk : isLake k) (hL : LayC h l d) (hR : RepC h k L) (hW : WF L hn gn) (hF : LC h l F) {m s : Nat} (hm : m < 12) (hs : s < 256) (es : L 2 m = nI s) (hq : ∀ r h', SndP F L s load r → SFC h h' → Q (nI r) h') : f_X5_soundTime SC 42 k (nI m) load h Q := by
  have hl := lay_isLaw hL
  have key := up_loop (N := 8) (P := fun w i => ∀ (q : Nat) (h' : aH), SFC h h' → q ≤ 60 → (∀ n, n < q → ∀ j, j < i → ∀ t, adj s j = some t → L 1 t = (-1) → load ≤ bearsL F (ageL F L n) t) → (q = 60 ∨ ∃ j t, j < i ∧ adj s j = some t ∧ L 1 t = (-1) ∧ ¬ load ≤ bearsL F (ageL F L q) t) → f_X5_soundTime_7 SC 42 k (nI m) load Q w (nI q) (nI i) h') ?_ ?_
  · exact ⟨9, key 60 h SFC_rf (Nat.le_refl _) (fun n _ j hj => absurd hj (Nat.not_lt_zero _)) (Or.inl rfl)⟩
  · intro q h' f' q60 b' c'
    have e1 : ∀ n t, ageL F L n 1 t = L 1 t := fun n t => age_o (by decide) (fun z => absurd z.1 (by decide)) n
    refine aIf_t (by decide) (hq q h' ⟨q60, fun n hn j hj t ht h1 => b' n hn j hj t ht (by rw [← e1 n t]; exact h1), ?_⟩ f')
    rcases c' with z | ⟨j, t, a, b, c, e⟩
    · exact Or.inl z
    · exact Or.inr (fun z => e (z j a t b (by rw [e1]; exact c)))
  · intro w i hi n1 q h' f' q60 b' c'
    have l' := LayC_2 f'.1 hL
    have r' := RepC_SFC hk f' hR
    refine aIf_f (nI_ge (a := i) (b := 8) hi (by decide)) ?_
    rw [lk_4 hk l', li_5 hk, vp_lt hm (by decide), cl (by omega), (r'.2.1 m hm).1, es]
    refine ⟨trivial, fun v ev => ?_⟩
    subst ev
    refine sp_neighbour hs hi ?_
    have skip : (∀ t, adj s i = some t → ¬ L 1 t = (-1)) → ∀ x : Int32, x = nI i + 1 → f_X5_soundTime_7 SC 42 k (nI m) load Q (w + 1) (nI q) x h' := by
      intro no x ex
      rw [nI_1] at ex
      subst ex
      refine n1 q h' f' q60 (fun n hn j hj t ht h1 => ?_) ?_
      · rcases Nat.lt_or_ge j i with z | z
        · exact b' n hn j z t ht h1
        · rw [show j = i by omega] at ht
          exact absurd h1 (no t ht)
      · exact c'.imp id (fun ⟨j, t, a, b⟩ => ⟨j, t, by omega, b⟩)
    rcases e : adj s i with _ | t
    · exact aIf_t rfl (skip (fun t ht => by rw [e] at ht; cases ht))
    · have ht := adj_lt e
      rw [enc_some]
      refine aIf_f (nI_neg1 (by omega)) ?_
      refine sp_isFirm hk l' r' ht (fun c => aIf_f (by decide) ?_) (fun c => aIf_t rfl (skip (fun t' ht' => by rw [e] at ht'; cases ht'; exact c)))
      refine sp_bearingTime hk l' r' hW (LC_SFC hl f' hF) ht c q60 (fun r h2 rq rb rc f2 => ?_)
      intro x ex
      rw [nI_1] at ex
      subst ex
      refine n1 r h2 (SFC_tr f' f2) (by omega) (fun n hn j hj t' ht' h1 => ?_) ?_
      · rcases Nat.lt_or_ge j i with z | z
        · exact b' n (by omega) j z t' ht' h1
        · rw [show j = i by omega, e] at ht'
          cases ht'
          exact rb n hn
      · rcases rc with z | z
        · rw [z]
          exact c'.imp id (fun ⟨j, t, a, b⟩ => ⟨j, t, by omega, b⟩)
        · exact Or.inr ⟨i, t, by omega, e, c, z⟩
def sndD (F : LF) (L : Lw) (s : Nat) (load : Int32) (dx dy : Int) : Prop := ∀ t, besN s dx dy = some t → L 1 t = (-1) → load ≤ bearsL F L t
theorem dXY : ∀ j, j < 8 → (-1 ≤ dX j ∧ dX j ≤ 1) ∧ (-1 ≤ dY j ∧ dY j ≤ 1) := by decide
theorem dXY_of {dx dy : Int} (h1 : -1 ≤ dx ∧ dx ≤ 1) (h2 : -1 ≤ dy ∧ dy ≤ 1) (h : ¬ (dx = 0 ∧ dy = 0)) : ∃ j, j < 8 ∧ dX j = dx ∧ dY j = dy := by
  have a : dx = -1 ∨ dx = 0 ∨ dx = 1 := by omega
  have b : dy = -1 ∨ dy = 0 ∨ dy = 1 := by omega
  rcases a with a | a | a <;> rcases b with b | b | b <;> subst a b
  · exact ⟨0, by decide, rfl, rfl⟩
  · exact ⟨3, by decide, rfl, rfl⟩
  · exact ⟨5, by decide, rfl, rfl⟩
  · exact ⟨1, by decide, rfl, rfl⟩
  · exact absurd ⟨rfl, rfl⟩ h
  · exact ⟨6, by decide, rfl, rfl⟩
  · exact ⟨2, by decide, rfl, rfl⟩
  · exact ⟨4, by decide, rfl, rfl⟩
  · exact ⟨7, by decide, rfl, rfl⟩
theorem snd_D {s : Nat} (hs : s < 256) (h1 : ¬ L 1 s = (-1)) : sndO F L s load ↔ ∀ dx dy : Int, (-1 ≤ dx ∧ dx ≤ 1) → (-1 ≤ dy ∧ dy ≤ 1) → sndD F L s load dx dy := by
  constructor
  · intro h dx dy hx hy t ht e
    by_cases c : dx = 0 ∧ dy = 0
    · rw [c.1, c.2, bes0 s hs] at ht
      cases ht
      exact absurd e h1
    · obtain ⟨j, hj, e1, e2⟩ := dXY_of hx hy c
      refine h j hj t ?_ e
      unfold adj
      rw [e1, e2]
      exact ht
  · intro h j hj t ht e
    exact h (dX j) (dY j) (dXY j hj).1 (dXY j hj).2 t ht e
theorem sr_isSound (hL : LayM h) (hM : RepM h L) (hW : WF L hn gn) (hF : LM h F) {m s : Nat} (hm : m < 12) (hs : s < 256) (es : L 2 m = nI s) (hno : ¬ L 1 s = (-1)) (h1 : sndO F L s load → ∀ h', SFM h h' → Q 1 h') (h0 : ¬ sndO F L s load → ∀ h', SFM h h' → Q 0 h') : f_X11_isSound SM 0 (nI m) load h Q := by
  rw [snd_D hs hno] at h1 h0
  have inner : ∀ (dy : Int) (K2 : Int32 → aH → Prop), -1 ≤ dy → dy ≤ 1 → (∀ h', SFM h h' → (∀ x, -1 ≤ x → x ≤ 1 → sndD F L s load x dy) → K2 (iI (dy + 1)) h') → ∀ (w : Nat) (dx : Int) (h' : aH), dx + w = 2 → -1 ≤ dx → SFM h h' → (∀ x, -1 ≤ x → x < dx → sndD F L s load x dy) → f_X11_isSound_10 SM 0 (nI m) load Q K2 (w + 1) (iI dy) (iI dx) h' := by
    intro dy K2 y1 y2 hK w
    induction w with
    | zero =>
      intro dx h' hd hd3 f' hv
      have : dx = 2 := by omega
      subst this
      refine aIf_t (by decide) (fun x ex => ?_)
      rw [ex, iI_1]
      exact hK h' f' (fun x x1 x2 => hv x x1 (by omega))
    | succ w ih =>
      intro dx h' hd hd3 f' hv
      have l' := LayM_2 f'.1 hL
      have r' := RepM_SFM f' hM
      refine aIf_f (fun z => absurd ((iI_le (a := 2) (by omega) (by omega) (by omega) (by omega)).mp z) (by omega)) ?_
      rw [m_9 l', mi_5, vp_lt hm (by decide), cl (by omega), (r'.2.1 m hm).1, es]
      refine ⟨trivial, fun v ev => ?_⟩
      subst ev
      refine sr_aside hs (by omega) (by omega) ?_
      have next : ∀ h2, SFM h h2 → sndD F L s load dx dy → ∀ x : Int32, x = iI dx + 1 → f_X11_isSound_10 SM 0 (nI m) load Q K2 (w + 1) (iI dy) x h2 := by
        intro h2 f2 e x ex
        rw [iI_1] at ex
        subst ex
        refine ih (dx + 1) h2 (by omega) (by omega) f2 (fun x x1 x2 => ?_)
        rcases Int.lt_or_le x dx with z | z
        · exact hv x x1 z
        · rw [show x = dx by omega]; exact e
      rcases e : besN s dx dy with _ | t
      · exact aIf_t rfl (next h' f' (fun t ht => by rw [e] at ht; cases ht))
      · have ht := besN_lt e
        rw [enc_some]
        refine aIf_f (nI_neg1 (by omega)) ?_
        refine sr_isIce l' r' ht (fun c => aIf_f (by decide) ?_) (fun c => aIf_t rfl (next h' f' (fun t' ht' => by rw [e] at ht'; cases ht'; exact fun z => absurd z c)))
        refine sr_bears l' r' hW (LM_SFM f' hF) ht (fun h2 f2 => ?_)
        have f3 := SFM_tr f' f2
        refine aIf_i (fun c2 => next h2 f3 (fun t' ht' => by rw [e] at ht'; cases ht'; exact fun _ => c2)) (fun c2 => h0 (fun z => c2 (z dx dy (by omega) (by omega) t e c)) h2 f3)
  have outer : ∀ (w : Nat) (dy : Int) (h' : aH), dy + w = 2 → -1 ≤ dy → SFM h h' → (∀ y x, -1 ≤ y → y < dy → -1 ≤ x → x ≤ 1 → sndD F L s load x y) → f_X11_isSound_2 SM 0 (nI m) load Q (w + 1) (iI dy) h' := by
    intro w
    induction w with
    | zero =>
      intro dy h' hd hd3 f' hv
      have : dy = 2 := by omega
      subst this
      exact aIf_t (by decide) (h1 (fun dx dy hx hy => hv dy dx (by omega) (by omega) (by omega) (by omega)) h' f')
    | succ w ih =>
      intro dy h' hd hd3 f' hv
      refine aIf_f (fun z => absurd ((iI_le (a := 2) (by omega) (by omega) (by omega) (by omega)).mp z) (by omega)) ⟨4, ?_⟩
      have t := inner dy (f_X11_isSound_2 SM 0 (nI m) load Q (w + 1)) hd3 (by omega) (fun h2 f2 e => ih (dy + 1) h2 (by omega) (by omega) f2 (fun y x y1 y2 x1 x2 => by
        rcases Int.lt_or_le y dy with z | z
        · exact hv y x y1 z x1 x2
        · rw [show y = dy by omega]; exact e x x1 x2)) 3 (-1) h' (by omega) (by omega) f' (fun x x1 x2 => by omega)
      rw [show iI (-1) = (-1) from by decide] at t
      exact t
  have t := outer 3 (-1) h (by omega) (by omega) SFM_rf (fun y x y1 y2 => by omega)
  rw [show iI (-1) = (-1) from by decide] at t
  exact ⟨4, t⟩
theorem sr_soundFor (hL : LayM h) (hM : RepM h L) (hW : WF L hn gn) (hF : LM h F) {m s : Nat} (hm : m < 12) (hs : s < 256) (es : L 2 m = nI s) (hno : ¬ L 1 s = (-1)) (hq : ∀ r h', SndP F L s load r → MS h h' → LM h' F → (∀ c i, 34 ≤ c → gA h' c i = gA h c i) → RepM h' L → Q (nI r) h') : f_X11_soundFor SM 0 (nI m) load h Q := by
  have ran := LM_ran hF
  unfold f_X11_soundFor
  refine sr_aside0 hL hM (fun m1 g1 s1 a1 q1 => ?_)
  have k1 := LayM_A g1 hL
  have F1 : LM m1 F := LM_to (fun c hc i => g1.1 c i (by omega)) (gI_fr g1 0 16) hF
  have back : ∀ (h' : aH) (K : aH → Prop), MX m1 h' → (∀ h3, MS h h3 → LM h3 F → (∀ c i, 34 ≤ c → gA h3 c i = gA h c i) → RepM h3 L → K h3) → f_X11_putsBack SM 0 0 h' K := by
    intro h' K f' hK
    refine sr_back0 (LayM_2 f'.1 k1) hM (AS_to (fun c i c1 c2 => f'.2.1 c i (by omega)) a1) (fun c i hc => ?_) (fun j hj => ?_) (fun h3 f3 r3 => hK h3 (MS_tr s1 (MS_tr (MS_MX f') (MS_MX f3))) (LM_MX f3 (LM_MX f' F1)) (fun c i hc => ?_) r3)
    · rw [f'.2.1 c i (by omega), g1.1 c i (by omega)]
    · rw [f'.2.2 0 j (by omega), gI_fr g1 0 j]
    · rw [f3.2.1 c i (by omega), f'.2.1 c i (by omega), g1.1 c i (by omega)]
  have key := up_loop (N := 60) (P := fun w i => ∀ h', MX m1 h' → RepM h' (ageL F L i) → (∀ n, n < i → sndO F (ageL F L n) s load) → f_X11_soundFor_7 SM 0 (nI m) load Q w (nI i) h') ?_ ?_
  · exact ⟨61, key m1 MX_rf q1 (fun n hn => absurd hn (Nat.not_lt_zero _))⟩
  · intro h' f' r' b'
    refine aIf_t (by decide) ?_
    exact back h' _ f' (fun h3 s3 F3 t3 r3 => hq 60 h3 ⟨Nat.le_refl _, b', Or.inl rfl⟩ s3 F3 t3 r3)
  · intro w i hi n1 h' f' r' b'
    have l' := LayM_2 f'.1 k1
    have w' := WF_age ran hW i
    refine aIf_f (nI_ge (a := i) (b := 60) hi (by decide)) ?_
    refine sr_isSound l' r' w' (LM_MX f' F1) hm hs ((age_o (by decide) (fun z => absurd z.1 (by decide)) i).trans es) (by rw [age_o (by decide) (fun z => absurd z.1 (by decide))]; exact hno) (fun so h2 f2 => aIf_f (by decide) ?_) (fun so h2 f2 => aIf_t rfl ?_)
    · have fa := MX_tr f' (MX_S f2)
      refine sr_thawsAll (LayM_2 fa.1 k1) (RepM_SFM f2 r') w' (LM_MX fa F1) (fun h3 f3 r3 => ?_)
      intro v ev h4 e4 x ex
      rw [r3.2.2.2.2.2.1] at ev
      rw [nI_1] at ex
      subst ev ex
      refine n1 h4 (MX_tr fa (MX_tr f3 (by rw [e4]; exact MX_sI (by omega)))) ?_ (fun n hn => ?_)
      · rw [e4]
        exact repM_92 r3
      · rcases Nat.lt_or_ge n i with z | z
        · exact b' n z
        · rw [show n = i by omega]; exact so
    · exact back h2 _ (MX_tr f' (MX_S f2)) (fun h3 s3 F3 t3 r3 => hq i h3 ⟨by omega, b', Or.inr so⟩ s3 F3 t3 r3)
end Snd
/-- SOUND -/
theorem s_sound : st_sound (Inv LR) SC SM := by
  intro hc hm a1 a2 hI
  obtain ⟨L, hn, gn, kp, LK, tn, tb, l, d, I⟩ := hI
  obtain ⟨i1, i2, i3, i4, i5, i6, i7, i8, i9, i10⟩ := id I
  have hk : isLake 1 := Or.inl rfl
  have hhn := i5.1
  obtain ⟨F, F1, F2⟩ := LR_F i1 i10
  have load : ∀ Q : Int32 → aH → Prop, (0 ≤ a2 ∧ a2 ≤ 9999 → Q 1 hm) → (¬ (0 ≤ a2 ∧ a2 ≤ 9999) → Q 0 hm) → f_X11_isLoad SM a2 hm Q := by
    intro Q q1 q0
    show f_X11_lies SM a2.toInt64 (Int32.toInt64 0) (Int32.toInt64 9999) hm _
    exact sp_lies (fun x y => ⟨aB1, q1 ⟨x, y⟩⟩) (fun z => ⟨aB0, q0 z⟩)
  unfold f_X10_sound
  rw [c_0_0 i1, co_1]
  refine ⟨trivial, sp_isOpen hk i1 i3 i5 (fun m s hm1 hs e es e1 => ?_) (fun c => ?_)⟩
  · subst e
    refine aIf_f (by decide) ?_
    have o1 : ∀ Q : Int32 → aH → Prop, f_X11_isLoad SM a2 hm (fun r5 h4 => aIf (r5 = 0) (Q (-1) h4) (f_X11_soundFor SM 0 (nI m) a2 h4 (fun r8 h7 => Q r8 h7))) → f_X11_sound SM 0 (nI m) a2 hm Q := by
      intro Q hq
      unfold f_X11_sound
      exact sr_isOpen i2 i4 i5 (fun m2 s2 _ _ _ _ _ => aIf_f (by decide) hq) (fun z => absurd e1 (z m s hm1 rfl es hs))
    by_cases p2 : 0 ≤ a2 ∧ a2 ≤ 9999
    rotate_left
    · refine wi_f p2 (aIf_f (fun z => z rfl) (o1 _ ?_))
      exact load _ (fun z => absurd z p2) (fun _ => aIf_t rfl ⟨rfl, Inv_same I⟩)
    refine wi_t p2 (aIf_t (by decide) ?_)
    rw [c_0_5 i1, c_0_0 i1, co_42, co_1]
    refine ⟨trivial, trivial, sp_soundTime hk i1 i3 i5 F1 (by omega) hs es (fun r h1 sp f1 => o1 _ ?_)⟩
    refine load _ (fun _ => aIf_f (by decide) ?_) (fun z => absurd p2 z)
    refine sr_soundFor i2 i4 i5 F2 (by omega) hs es (by rw [e1]; exact nI_neg1 (by omega)) (fun r' h2 sp' s2 _ _ r2 => ⟨by rw [Snd_u sp sp'], ?_⟩)
    exact Inv_step LRok_LR I (CS_SFC f1) s2 (RepC_SFC hk f1 i3) r2 i5
  · refine aIf_t rfl ?_
    unfold f_X11_sound
    refine sr_isOpen i2 i4 i5 (fun m s hm1 hs e es e1 => absurd e1 (c m s hm1 e es hs)) (fun _ => ?_)
    exact aIf_t rfl ⟨rfl, Inv_same I⟩
