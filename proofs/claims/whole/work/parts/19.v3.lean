/-! ===== RESCUE: the reference's costs ===== -/
abbrev FARm : Nat := 1000000000
def encR (o : Option Nat) : Int32 := match o with
  | none => nI FARm
  | some p => nI (1000 * p)
/-- the reference: the law's scratch and the rows of RESCUE -/
def SFR (h h' : aH) : Prop := h'.2.2 = h.2.2 ∧ (∀ c i, ¬ (c = 25 ∨ c = 26 ∨ c = 39 ∨ c = 40) → gA h' c i = gA h c i) ∧ ∀ c j, ¬ (c = 0 ∧ 39 ≤ j ∧ j ≤ 42) → gI h' c j = gI h c j
theorem SFR_rf {h : aH} : SFR h h := ⟨rfl, fun _ _ _ => rfl, fun _ _ _ => rfl⟩
theorem SFR_tr {a b c : aH} (x : SFR a b) (y : SFR b c) : SFR a c := ⟨y.1.trans x.1, fun k i hk => (y.2.1 k i hk).trans (x.2.1 k i hk), fun k i hk => (y.2.2 k i hk).trans (x.2.2 k i hk)⟩
theorem SFR_S {a b : aH} (x : SFM a b) : SFR a b := ⟨x.1, fun c i hc => x.2.1 c i (by omega), x.2.2⟩
theorem SFR_sA {h : aH} {c i : Nat} {v : Int32} (hc : c = 39 ∨ c = 40) : SFR h (sA h c i v) := ⟨rfl, fun a j ha => by rw [gA_sA, if_neg (fun z => ha (by omega))], fun _ _ _ => rfl⟩
theorem RepM_SFR {h h' : aH} {L : Lw} (x : SFR h h') (hR : RepM h L) : RepM h' L := RepM_gA (fun c i h1 h2 => x.2.1 c i (by omega)) (fun j h1 h2 => x.2.2 _ _ (by omega)) hR
theorem LM_SFR {h h' : aH} {F : LF} (x : SFR h h') (hF : LM h F) : LM h' F := LM_to (fun c hc i => x.2.1 c i (by omega)) (x.2.2 _ _ (by omega)) hF
theorem MS_SFR {h h' : aH} (x : SFR h h') : MS h h' :=
  ⟨x.1, fun c hc i => x.2.1 c i (by omega), fun c hc i _ => x.2.1 c i (by omega), fun i _ => x.2.1 _ i (by omega), fun i _ => x.2.1 _ i (by omega), fun j hj => x.2.2 _ _ (by omega)⟩
/-- the rows hold the costs T -/
def TR (h : aH) (pl T : Nat → Option Nat) : Prop := ∀ v, v < 256 → gA h 40 v = encR (pl v) ∧ gA h 39 v = encF FARm (T v) ∧ ∀ a, T v = some a → a < FARm
/-- a way over side j costs that much -/
def tkO (pl T : Nat → Option Nat) (s j : Nat) : Option Nat := match sd s j with
  | none => none
  | some t => match T t, pl s with
    | some b, some p => some (1000 * p + 1 + b)
    | _, _ => none
section RsM
variable {h : aH} {to : Nat} {pl T E : Nat → Option Nat}
theorem sr_takesBy (hL : LayM h) (hT : TR h pl T) (pb : ∀ v q, pl v = some q → q ≤ 1) {s j q : Nat} (hs : s < 256) (hj : j < 4) (hp : pl s = some q) {Q : Int32 → aH → Prop} (hn : (∀ t, sd s j = some t → T t = none) → Q (nI FARm) h) (hs' : ∀ t b, sd s j = some t → T t = some b → Q (nI (1000 * q + 1 + b)) h) : f_X11_takesBy SM 0 (nI s) (nI j) h Q := by
  refine sr_beside hs hj ?_
  rcases es : sd s j with _ | t
  · exact aIf_t rfl (hn (fun t z => by rw [es] at z; cases z))
  · have ht := sd_lt es
    have q1 := pb s q hp
    rw [enc_some]
    refine aIf_f (nI_neg1 (by omega)) ?_
    rw [m_58 hL, mi_39, vp_lt ht (by decide), cl (by omega), (hT t ht).2.1]
    refine ⟨trivial, fun v ev => ?_⟩
    subst ev
    rcases et : T t with _ | b
    · exact aIf_f (fun z => z rfl) (hn (fun t' z => by rw [es] at z; cases z; exact et))
    · have hb := (hT t ht).2.2 b et
      have hb : b < 1000000000 := hb
      refine aIf_t (fun z => ?_) ?_
      · have z : nI b = nI 1000000000 := z
        have := (nI_eq (by omega) (by decide)).mp z
        omega
      · rw [m_59 hL, mi_40, vp_lt hs (by decide), cl (by omega), (hT s hs).1, hp]
        refine ⟨trivial, fun v ev => ⟨trivial, fun v' ev' => ?_⟩⟩
        subst ev ev'
        show Q (nI (1000 * q) + 1 + nI b) h
        rw [nI_1, nI_add]
        exact hs' t b es et
/-- what is known of the reference's costs -/
def nF (T : Nat → Option Nat) : Nat := cntB (fun v => (T v).isSome) 256
def PM (pl : Nat → Option Nat) (to : Nat) (E T : Nat → Option Nat) : Prop := (∀ v a, T v = some a → ∃ e, E v = some e ∧ e ≤ a) ∧ (∀ q, pl to = some q → T to = some (1000 * q)) ∧ ∀ v a, T v = some a → a ≤ 1001 * nF T
theorem nF_le (T : Nat → Option Nat) : nF T ≤ 256 := by
  have := cnt_mono (p := fun v => (T v).isSome) (q := fun _ => true) (fun _ _ => rfl) 256
  rw [cnt_all] at this
  exact this
def tv (T : Nat → Option Nat) (v : Nat) : Nat := match T v with
  | some a => a
  | none => FARm
def sT (T : Nat → Option Nat) : Nat → Nat
  | 0 => 0
  | n + 1 => sT T n + tv T n
theorem sT_lt {T T' : Nat → Option Nat} {s : Nat} (h1 : ∀ v, v ≠ s → T' v = T v) (h2 : tv T' s < tv T s) : ∀ n, (n ≤ s → sT T' n = sT T n) ∧ (s < n → sT T' n < sT T n) := by
  intro n
  induction n with
  | zero => exact ⟨fun _ => rfl, fun z => absurd z (Nat.not_lt_zero _)⟩
  | succ n ih =>
    refine ⟨fun z => ?_, fun z => ?_⟩
    · show sT T' n + tv T' n = sT T n + tv T n
      have e : tv T' n = tv T n := by unfold tv; rw [h1 n (by omega)]
      rw [ih.1 (by omega), e]
    · show sT T' n + tv T' n < sT T n + tv T n
      by_cases c : n = s
      · rw [c] at ih ⊢
        rw [ih.1 (Nat.le_refl _)]
        omega
      · have e : tv T' n = tv T n := by unfold tv; rw [h1 n c]
        have := ih.2 (by omega)
        omega
/-- s is as good as its sides below J let it be -/
def RxM (pl T : Nat → Option Nat) (to s J : Nat) : Prop := ∀ q, pl s = some q → s ≠ to → ∀ j t b, j < J → sd s j = some t → T t = some b → ∃ a, T s = some a ∧ a ≤ b + 1 + 1000 * q
theorem sr_sweeps (hL : LayM h) (hE : isE pl to 1000 E) (ht : to < 256) (pb : ∀ v q, pl v = some q → q ≤ 1) {a2 : Int32} {Q : aH → Prop} (hq : ∀ h', FrA (fun c => c = 39) h h' → TR h' pl E → Q h') (hp : ∃ q, pl to = some q) : ∀ M (h' : aH) (T : Nat → Option Nat) (x3 : Int32), ¬ x3 = 0 → FrA (fun c => c = 39) h h' → TR h' pl T → PM pl to E T → sT T 256 ≤ M → f_X11_laysTakes_113 SM 0 (nI to) a2 Q (M + 2) x3 h' := by
  have fin : ∀ (h' : aH) (T : Nat → Option Nat), FrA (fun c => c = 39) h h' → TR h' pl T → PM pl to E T → (∀ s, s < 256 → RxM pl T to s 4) → Q h' := by
    intro h' T f' t' p' rx
    have le := E_le (G := T) hE hp (fun q z => ⟨_, p'.2.1 q z, Nat.le_refl _⟩) (fun u b j v q e hu hj hs hq' => by
      by_cases z : v = to
      · subst z
        exact ⟨_, p'.2.1 q hq', by omega⟩
      · obtain ⟨sy, -⟩ := sd_sym hu hj hs
        exact rx v (sd_lt hs) q hq' z (3 - j) u b (by omega) sy e)
    have e : ∀ v, T v = E v := by
      intro v
      rcases e : E v with _ | x
      · rcases g : T v with _ | y
        · rfl
        · obtain ⟨z, z1, -⟩ := p'.1 v y g
          rw [e] at z1; cases z1
      · obtain ⟨y, y1, y2⟩ := le x v e
        obtain ⟨z, z1, z2⟩ := p'.1 v y y1
        rw [e] at z1
        cases z1
        rw [y1, show y = x by omega]
    exact hq h' f' (fun v hv => by rw [← e v]; exact t' v hv)
  intro M
  induction M using Nat.strongRecOn with
  | ind M ih =>
    intro h' T x3 hx f' t' p' sM
    refine aIf_f hx ?_
    -- one sweep
    have sweep := up_loop (N := 256) (P := fun w s => ∀ (h2 : aH) (T2 : Nat → Option Nat) (x : Int32), FrA (fun c => c = 39) h h2 → TR h2 pl T2 → PM pl to E T2 → (x = 0 ∧ T2 = T ∧ (∀ v, v < s → RxM pl T to v 4) ∨ ¬ x = 0 ∧ sT T2 256 < sT T 256) → f_X11_laysTakes_122 SM 0 (nI to) a2 Q (f_X11_laysTakes_113 SM 0 (nI to) a2 Q (M + 1)) w x (nI s) h2) ?_ ?_
    · exact ⟨257, sweep h' T 0 f' t' p' (Or.inl ⟨rfl, rfl, fun v hv => absurd hv (Nat.not_lt_zero _)⟩)⟩
    · intro h2 T2 x f2 t2 p2 z
      refine aIf_t (by decide) ?_
      rcases z with ⟨z1, z2, z3⟩ | ⟨z1, z2⟩
      · subst z1 z2
        exact aIf_t rfl (fin h2 T2 f2 t2 p2 z3)
      · obtain ⟨m, hm⟩ : ∃ m, M = m + 1 := ⟨M - 1, by omega⟩
        rw [hm]
        exact ih m (by omega) h2 T2 x z1 f2 t2 p2 (by omega)
    · intro u0 s hs n1 h2 T2 x f2 t2 p2 z
      refine aIf_f (nI_ge (a := s) (b := 256) hs (by decide)) ?_
      have next : ∀ (h3 : aH) (T3 : Nat → Option Nat) (x : Int32), FrA (fun c => c = 39) h h3 → TR h3 pl T3 → PM pl to E T3 → (x = 0 ∧ T3 = T ∧ (∀ v, v < s → RxM pl T to v 4) ∨ ¬ x = 0 ∧ sT T3 256 < sT T 256) → RxM pl T3 to s 4 → ∀ y : Int32, y = nI s + 1 → f_X11_laysTakes_122 SM 0 (nI to) a2 Q (f_X11_laysTakes_113 SM 0 (nI to) a2 Q (M + 1)) (u0 + 1) x y h3 := by
        intro h3 T3 x f3 t3 p3 z rs y ey
        rw [nI_1] at ey
        subst ey
        refine n1 h3 T3 x f3 t3 p3 (z.imp (fun ⟨a, b, c⟩ => ⟨a, b, fun v hv => ?_⟩) id)
        rcases Nat.lt_or_ge v s with q | q
        · exact c v q
        · rw [show v = s by omega, ← b]
          exact rs
      have sides : ∀ r j, j + r = 4 → ∀ (h3 : aH) (T3 : Nat → Option Nat) (x : Int32), FrA (fun c => c = 39) h h3 → TR h3 pl T3 → PM pl to E T3 → (x = 0 ∧ T3 = T ∧ (∀ v, v < s → RxM pl T to v 4) ∨ ¬ x = 0 ∧ sT T3 256 < sT T 256) → RxM pl T3 to s j → f_X11_laysTakes_133 SM 0 (nI to) a2 Q (f_X11_laysTakes_122 SM 0 (nI to) a2 Q (f_X11_laysTakes_113 SM 0 (nI to) a2 Q (M + 1)) (u0 + 1)) (r + 1) x (nI s) (nI j) h3 := by
        intro r
        induction r with
        | zero =>
          intro j hj h3 T3 x f3 t3 p3 z rs
          have : j = 4 := by omega
          subst this
          exact aIf_t (by decide) (next h3 T3 x f3 t3 p3 z rs)
        | succ r ihr =>
          intro j hj h3 T3 x f3 t3 p3 z rs
          have l3 := LayM_A f3 hL
          have hj4 : j < 4 := by omega
          refine aIf_f (nI_ge (a := j) (b := 4) hj4 (by decide)) ?_
          rw [m_59 l3, mi_40, vp_lt hs (by decide), cl (by omega), (t3 s hs).1]
          refine ⟨trivial, fun v ev => ?_⟩
          subst ev
          rcases eq : pl s with _ | q
          · exact aIf_t (by decide) (next h3 T3 x f3 t3 p3 z (fun q h => by rw [eq] at h; cases h))
          · have q1 := pb s q eq
            refine aIf_f (fun y => ?_) ?_
            · have y : nI 1000000000 ≤ nI (1000 * q) := y
              have := (nI_leI (by decide) (by omega)).mp y
              omega
            · refine aIf_i (fun y => next h3 T3 x f3 t3 p3 z (fun q' _ ne => absurd ((nI_eq (by omega) (by omega)).mp y) ne)) (fun y => ?_)
              have nto : s ≠ to := fun e => y (by rw [e])
              have nf := nF_le T3
              have stay : (∀ t b, sd s j = some t → T3 t = some b → ∃ a, T3 s = some a ∧ a ≤ b + 1 + 1000 * q) → ∀ y : Int32, y = nI j + 1 → f_X11_laysTakes_133 SM 0 (nI to) a2 Q (f_X11_laysTakes_122 SM 0 (nI to) a2 Q (f_X11_laysTakes_113 SM 0 (nI to) a2 Q (M + 1)) (u0 + 1)) (r + 1) x (nI s) y h3 := by
                intro hh y ey
                rw [nI_1] at ey
                subst ey
                refine ihr (j + 1) (by omega) h3 T3 x f3 t3 p3 z (fun q' hq' ne i t b hi hst hb => ?_)
                rcases Nat.lt_or_ge i j with g | g
                · exact rs q' hq' ne i t b g hst hb
                · rw [show i = j by omega] at hst
                  rw [eq] at hq'
                  cases hq'
                  exact hh t b hst hb
              have g39 : gA h3 39 s = encF FARm (T3 s) := (t3 s hs).2.1
              refine sr_takesBy l3 t3 pb hs hj4 eq (fun hn => ?_) (fun t b hst hb => ?_)
              · rw [m_58 l3, mi_39, vp_lt hs (by decide), g39]
                refine ⟨trivial, fun v ev => ?_⟩
                subst ev
                refine aIf_f (fun g => ?_) (stay (fun t b hst hb => by rw [hn t hst] at hb; cases hb))
                rcases e3 : T3 s with _ | a
                · rw [e3] at g
                  exact absurd g (by decide)
                · rw [e3] at g
                  have g : nI 1000000000 < nI a := g
                  have ha : a < 1000000000 := (t3 s hs).2.2 a e3
                  have := (nI_ltI (by decide) (by omega)).mp g
                  omega
              · rw [m_58 l3, mi_39, vp_lt hs (by decide), g39]
                refine ⟨trivial, fun v ev => ?_⟩
                subst ev
                have bb := p3.2.2 t b hb
                have tvs : encF FARm (T3 s) = nI (tv T3 s) := by
                  unfold tv
                  cases T3 s <;> rfl
                have tvb : tv T3 s ≤ 1000000000 := by
                  unfold tv
                  rcases e3 : T3 s with _ | a
                  · exact Nat.le_refl _
                  · have : a < 1000000000 := (t3 s hs).2.2 a e3
                    show a ≤ 1000000000
                    omega
                rw [tvs]
                refine aIf_i (fun g => ?_) (fun g => stay (fun t' b' hst' hb' => ?_))
                rotate_left
                · rw [hst] at hst'
                  cases hst'
                  rw [hb] at hb'
                  cases hb'
                  have g : ¬ 1000 * q + 1 + b < tv T3 s := fun y => g ((nI_ltI (by omega) (by omega)).mpr y)
                  unfold tv at g
                  rcases e3 : T3 s with _ | a
                  · rw [e3] at g
                    have g : ¬ 1000 * q + 1 + b < 1000000000 := g
                    omega
                  · rw [e3] at g
                    have g : ¬ 1000 * q + 1 + b < a := g
                    exact ⟨a, rfl, by omega⟩
                have g := (nI_ltI (by omega) (by omega)).mp g
                have ts := (sd_sym hs hj4 hst).2
                refine sr_takesBy l3 t3 pb hs hj4 eq (fun hn => by rw [hn t hst] at hb; cases hb) (fun t' b' hst' hb' => ?_)
                rw [hst] at hst'
                cases hst'
                rw [hb] at hb'
                cases hb'
                refine ⟨trivial, fun h4 e4 y ey => ?_⟩
                rw [nI_1] at ey
                subst ey
                obtain ⟨eb, eb1, eb2⟩ := p3.1 t b hb
                obtain ⟨es, es1, es2⟩ := hE.2.2 t eb (3 - j) s q eb1 (by omega) (sd_sym hs hj4 hst).1 eq
                let T4 : Nat → Option Nat := fun v => if v = s then some (1000 * q + 1 + b) else T3 v
                have T4s : T4 s = some (1000 * q + 1 + b) := if_pos rfl
                have T4o : ∀ v, v ≠ s → T4 v = T3 v := fun v z => if_neg z
                have tv4 : tv T4 s = 1000 * q + 1 + b := by unfold tv; rw [T4s]
                have nf4 : nF T3 ≤ nF T4 ∧ (T3 s = none → nF T4 = nF T3 + 1) := by
                  refine ⟨cnt_mono (fun v hv => ?_) 256, fun e => ?_⟩
                  · by_cases z : v = s
                    · rw [z, T4s]; rfl
                    · rw [T4o v z]; exact hv
                  · refine cntB_up (s := s) (by rw [e]; rfl) (by rw [T4s]; rfl) 256 hs (fun v hv => by rw [T4o v hv])
                have nf5 := nF_le T4
                have bd4 : 1000 * q + 1 + b ≤ 1001 * nF T4 := by
                  rcases e3 : T3 s with _ | a
                  · rw [nf4.2 e3]
                    omega
                  · have a1 := p3.2.2 s a e3
                    have g : 1000 * q + 1 + b < a := by
                      unfold tv at g
                      rw [e3] at g
                      exact g
                    have := nf4.1
                    omega
                have lt4 : sT T4 256 < sT T3 256 := (sT_lt T4o (by rw [tv4]; exact g) 256).2 hs
                have p4 : PM pl to E T4 := by
                  refine ⟨fun v a hv => ?_, fun q0 h0 => by rw [T4o to (fun e => nto e.symm)]; exact p3.2.1 q0 h0, fun v a hv => ?_⟩
                  · by_cases z : v = s
                    · rw [z, T4s] at hv
                      cases hv
                      rw [z]
                      exact ⟨es, es1, by omega⟩
                    · rw [T4o v z] at hv
                      exact p3.1 v a hv
                  · by_cases z : v = s
                    · rw [z, T4s] at hv
                      cases hv
                      exact bd4
                    · rw [T4o v z] at hv
                      have := p3.2.2 v a hv
                      have := nf4.1
                      omega
                refine ihr (j + 1) (by omega) h4 T4 1 ?_ (fun v hv => ?_) p4 (Or.inr ⟨by decide, ?_⟩) (fun q' hq' ne i t' b' hi hst' hb' => ?_)
                · rw [e4]
                  exact ⟨fun c i hc => by rw [gA_o hc]; exact f3.1 c i hc, f3.2⟩
                · by_cases z : v = s
                  · rw [z, T4s, e4, gA_o (by decide), gA_e]
                    refine ⟨(t3 s hs).1, rfl, fun a ha => ?_⟩
                    cases ha
                    show 1000 * q + 1 + b < 1000000000
                    omega
                  · rw [T4o v z, e4, gA_o (by decide), gA_p z]
                    exact t3 v hv
                · rcases z with ⟨-, z2, -⟩ | ⟨-, z2⟩
                  · rw [← z2]; exact lt4
                  · omega
                · rw [eq] at hq'
                  cases hq'
                  refine ⟨_, T4s, ?_⟩
                  have t's := (sd_sym hs (show i < 4 by omega) hst').2
                  rw [T4o t' t's] at hb'
                  rcases Nat.lt_or_ge i j with g2 | g2
                  · obtain ⟨a, a1, a2'⟩ := rs q eq ne i t' b' g2 hst' hb'
                    unfold tv at g
                    rw [a1] at g
                    have g : 1000 * q + 1 + b < a := g
                    omega
                  · rw [show i = j by omega, hst] at hst'
                    cases hst'
                    rw [hb] at hb'
                    cases hb'
                    omega
      exact ⟨5, sides 4 0 (by omega) h2 T2 x f2 t2 p2 z (fun q _ _ j t b hj => absurd hj (Nat.not_lt_zero _))⟩
theorem sr_laysTakes (hL : LayM h) {L : Lw} {hn gn : Nat} {F : LF} (hM : RepM h L) (hW : WF L hn gn) (hF : LM h F) (ht : to < 256) {wt : Int32} {Q : aH → Prop} (hq : ∀ h' E, SFR h h' → isE (plL F L wt) to 1000 E → TR h' (plL F L wt) E → Q h') : f_X11_laysTakes SM 0 (nI to) wt h Q := by
  have ran := LM_ran hF
  have key := up_loop (N := 256) (P := fun w s => ∀ h', SFR h h' → (∀ v, v < s → gA h' 40 v = encR (plL F L wt v) ∧ gA h' 39 v = nI FARm) → f_X11_laysTakes_2 SM 0 (nI to) wt Q w (nI s) h') ?_ ?_
  · exact ⟨257, key h SFR_rf (fun v hv => absurd hv (Nat.not_lt_zero _))⟩
  · intro h' f' t'
    have l' := LayM_2 f'.1 hL
    refine aIf_t (by decide) ?_
    rw [m_59 l', mi_40, vp_lt ht (by decide), cl (by omega), (t' to ht).1]
    refine ⟨trivial, fun v ev => ?_⟩
    subst ev
    rw [m_58 l', mi_39, vp_lt ht (by decide)]
    refine ⟨trivial, fun h2 e2 => ?_⟩
    have f2 : SFR h h2 := by rw [e2]; exact SFR_tr f' (SFR_sA (by decide))
    have l2 := LayM_2 f2.1 hL
    obtain ⟨E, hE⟩ := E_ex (plL F L wt) 1000 ht
    rw [m_59 l2, mi_40, vp_lt ht (by decide)]
    refine ⟨trivial, fun v ev => ?_⟩
    rw [e2, gA_o (by decide), (t' to ht).1] at ev
    subst ev
    let T : Nat → Option Nat := fun v => if v = to then (plL F L wt to).map (fun q => 1000 * q) else none
    have To : ∀ v, v ≠ to → T v = none := fun v z => if_neg z
    have Tt : T to = (plL F L wt to).map (fun q => 1000 * q) := if_pos rfl
    have t2 : TR h2 (plL F L wt) T := by
      intro v hv
      by_cases z : v = to
      · subst z
        rw [Tt, e2, gA_o (by decide), gA_e]
        refine ⟨(t' v hv).1, ?_, fun a ha => ?_⟩
        · cases plL F L wt v <;> rfl
        · rcases ep : plL F L wt v with _ | q
          · rw [ep] at ha; cases ha
          · rw [ep] at ha
            have ha : some (1000 * q) = some a := ha
            cases ha
            have := pl_1 v q ep
            show 1000 * q < 1000000000
            omega
      · rw [To v z, e2, gA_o (by decide), gA_p z]
        exact ⟨(t' v hv).1, (t' v hv).2, fun a ha => by cases ha⟩
    rcases ep : plL F L wt to with _ | q
    · refine aIf_t (by decide) ⟨1, aIf_t rfl (hq h2 E f2 hE (fun v hv => ?_))⟩
      have eE : E v = none := by
        rcases e : E v with _ | a
        · rfl
        · exact absurd e (E_none hE ep a v)
      have eT : T v = none := by
        by_cases z : v = to
        · rw [z, Tt, ep]; rfl
        · exact To v z
      rw [eE, ← eT]
      exact t2 v hv
    · have q1 := pl_1 to q ep
      refine aIf_f (fun y => ?_) ?_
      · have y : nI 1000000000 ≤ nI (1000 * q) := y
        have := (nI_leI (by decide) (by omega)).mp y
        omega
      · have Tq : T to = some (1000 * q) := by rw [Tt, ep]; rfl
        have only : ∀ v a, T v = some a → v = to ∧ a = 1000 * q := fun v a hv => by
          by_cases z : v = to
          · rw [z, Tq] at hv; cases hv; exact ⟨z, rfl⟩
          · rw [To v z] at hv; cases hv
        have n1 : 1 ≤ nF T := by
          have := cnt_lt (p := fun _ => false) (q := fun v => (T v).isSome) (fun _ z => by cases z) (s := to) (by decide) (by rw [Tq]; rfl) 256 ht
          have : 0 < nF T := Nat.lt_of_le_of_lt (Nat.zero_le _) this
          omega
        exact ⟨_, sr_sweeps l2 hE ht pl_1 (fun h3 f3 r3 => hq h3 E ⟨by rw [f3.2]; exact f2.1, fun c i hc => (f3.1 c i (by omega)).trans (f2.2.1 c i hc), fun c j hc => (gI_fr f3 c j).trans (f2.2.2 c j hc)⟩ hE r3) ⟨q, ep⟩ (sT T 256) h2 T 1 (by decide) ⟨fun _ _ _ => rfl, rfl⟩ t2 ⟨fun v a hv => by
          obtain ⟨z1, z2⟩ := only v a hv
          rw [z1, z2]
          exact ⟨_, hE.1 q ep, Nat.le_refl _⟩, fun q' hq' => by rw [ep] at hq'; cases hq'; exact Tq, fun v a hv => by
          obtain ⟨z1, z2⟩ := only v a hv
          omega⟩ (Nat.le_refl _)⟩
  · intro w s hs n1 h' f' t'
    have l' := LayM_2 f'.1 hL
    have r' := RepM_SFR f' hM
    refine aIf_f (nI_ge (a := s) (b := 256) hs (by decide)) ?_
    have lay : ∀ (h3 : aH), SFM h' h3 → ∀ r : Int32, r = encR (plL F L wt s) → aIn SM 0 (gR h3 0 59) (nI s) ∧ ∀ h4 : aH, h4 = sA h3 (gR h3 0 59) (nI s).toNatClampNeg r → aIn SM 0 (gR h4 0 58) (nI s) ∧ ∀ h5 : aH, h5 = sA h4 (gR h4 0 58) (nI s).toNatClampNeg 1000000000 → ∀ y : Int32, y = nI s + 1 → f_X11_laysTakes_2 SM 0 (nI to) wt Q (w + 1) y h5 := by
      intro h3 f3 r er
      have l3 := LayM_2 f3.1 l'
      rw [m_59 l3, mi_40, vp_lt hs (by decide), cl (by omega)]
      refine ⟨trivial, fun h4 e4 => ?_⟩
      have l4 : LayM h4 := LayM_2 (by rw [e4]; rfl) l3
      rw [m_58 l4, mi_39, vp_lt hs (by decide)]
      refine ⟨trivial, fun h5 e5 y ey => ?_⟩
      rw [nI_1] at ey
      subst ey
      refine n1 h5 ?_ (fun v hv => ?_)
      · rw [e5, e4]
        exact SFR_tr f' (SFR_tr (SFR_S f3) (SFR_tr (SFR_sA (by decide)) (SFR_sA (by decide))))
      · by_cases z : v = s
        · rw [z, e5, gA_o (by decide), gA_e, e4, gA_e]
          exact ⟨er, rfl⟩
        · rw [e5, gA_o (by decide), gA_p z, e4, gA_p z, gA_o (by decide), f3.2.1 40 v (by decide), f3.2.1 39 v (by decide)]
          exact t' v (by omega)
    refine sr_isIce l' r' hs (fun c => aIf_f (by decide) ?_) (fun c => aIf_t rfl ?_)
    rotate_left
    · refine aIf_t rfl (lay h' SFM_rf _ ?_)
      unfold plL
      rw [if_neg c]
      rfl
    · refine sr_bears l' r' hW (LM_SFR f' hF) hs (fun h3 f3 => ?_)
      have b0 : 0 ≤ bearsL F L s := (ran _ _ _ (by decide)).1
      have b1 : bearsL F L s ≤ 9999 := (ran _ _ _ (by decide)).2
      refine aIf_f (fun z => ?_) ?_
      · rw [z] at b0
        exact absurd b0 (by decide)
      · obtain ⟨bn, bn1, bn2⟩ := Iof (x := bearsL F L s) (M := 9999) (by decide) b0 b1
        have mono : wt ≤ bearsL F L s → wt ≤ bearsL F L s + 100 := fun z => Int32.le_trans z (by
          rw [bn2, show (100 : Int32) = nI 100 from rfl, nI_add]
          exact nI_le (by omega) (by omega))
        refine aIf_i (fun c2 => aIf_i (fun c3 => lay h3 f3 _ ?_) (fun c3 => lay h3 f3 _ ?_)) (fun c2 => lay h3 f3 _ ?_)
        · unfold plL
          rw [if_pos c, if_pos c3]
          rfl
        · unfold plL
          rw [if_pos c, if_neg c3, if_pos c2]
          rfl
        · unfold plL
          rw [if_pos c, if_neg (fun z => c2 (mono z)), if_neg c2]
          rfl
end RsM
