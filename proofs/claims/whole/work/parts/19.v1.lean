/-! ===== RESCUE: the class's queue ===== -/
theorem len_cnt : ∀ l : List Nat, l.Nodup → (∀ v, v ∈ l → v < 256) → l.length = cntB (fun v => decide (v ∈ l)) 256 := by
  intro l
  induction l with
  | nil =>
    intro _ _
    have : ∀ n, cntB (fun v => decide (v ∈ ([] : List Nat))) n = 0 := by
      intro n
      induction n with
      | zero => rfl
      | succ n ih =>
        show cntB (fun v => decide (v ∈ ([] : List Nat))) n + (if decide (n ∈ ([] : List Nat)) = true then 1 else 0) = 0
        rw [ih, decide_eq_false List.not_mem_nil]
        rfl
    exact (this 256).symm
  | cons a l ih =>
    intro nd hl
    rw [List.nodup_cons] at nd
    rw [List.length_cons, ih nd.2 (fun v hv => hl v (List.mem_cons_of_mem _ hv))]
    refine (cntB_up (s := a) (decide_eq_false nd.1) (decide_eq_true List.mem_cons_self) 256 (hl a List.mem_cons_self) (fun i hi => ?_)).symm
    by_cases c : i ∈ l
    · rw [decide_eq_true c, decide_eq_true (List.mem_cons_of_mem _ c)]
    · rw [decide_eq_false c, decide_eq_false (fun z => (List.mem_cons.mp z).elim hi c)]
theorem len_255 {l : List Nat} (nd : l.Nodup) (hl : ∀ v, v ∈ l → v < 256) {s : Nat} (hs : s < 256) (h : s ∉ l) : l.length ≤ 255 := by
  rw [len_cnt l nd hl]
  exact cnt_255 hs (fun z => h (of_decide_eq_true z))
theorem len_256 {l : List Nat} (nd : l.Nodup) (hl : ∀ v, v ∈ l → v < 256) : l.length ≤ 256 := by
  rw [len_cnt l nd hl]
  have := cnt_mono (p := fun v => decide (v ∈ l)) (q := fun _ => true) (fun _ _ => rfl) 256
  rw [cnt_all] at this
  exact this
def RsF (h h' : aH) : Prop := h'.2.2 = h.2.2 ∧ (∀ c i, ¬ ((74 ≤ c ∧ c ≤ 77) ∨ c = 49 ∨ c = 50 ∨ c = 59 ∨ c = 60) → gA h' c i = gA h c i) ∧ ∀ c j, ¬ (c = 73 ∧ j = 4) → ¬ ((c = 43 ∨ c = 53) ∧ j = 9) → gI h' c j = gI h c j
theorem RsF_rf {h : aH} : RsF h h := ⟨rfl, fun _ _ _ => rfl, fun _ _ _ _ => rfl⟩
theorem RsF_tr {a b c : aH} (x : RsF a b) (y : RsF b c) : RsF a c := ⟨y.1.trans x.1, fun k i hk => (y.2.1 k i hk).trans (x.2.1 k i hk), fun k i h1 h2 => (y.2.2 k i h1 h2).trans (x.2.2 k i h1 h2)⟩
theorem RsF_S {a b : aH} (x : SFC a b) : RsF a b := ⟨x.1, fun c i hc => x.2.1 c i (by omega), fun c j _ h2 => x.2.2 c j h2⟩
theorem RsF_sA {h : aH} {c i : Nat} {v : Int32} (hc : 74 ≤ c ∧ c ≤ 77) : RsF h (sA h c i v) := ⟨rfl, fun a j ha => by rw [gA_sA, if_neg (fun z => ha (Or.inl (by omega)))], fun _ _ _ _ => rfl⟩
theorem RsF_sI {h : aH} {v : Int32} : RsF h (sI h 73 4 v) := ⟨rfl, fun _ _ _ => rfl, fun a j ha _ => by rw [gI_sI, if_neg ha]⟩
theorem CS_RsF {h h' : aH} (x : RsF h h') : CS h h' :=
  ⟨x.1, fun c hc i => x.2.1 c i (by omega), fun j => x.2.2 _ _ (by omega) (by omega), x.2.2 _ _ (by omega) (by omega), x.2.2 _ _ (by omega) (by omega), x.2.2 _ _ (by omega) (by omega), x.2.2 _ _ (by omega) (by omega), x.2.2 _ _ (by omega) (by omega), x.2.2 _ _ (by omega) (by omega)⟩
theorem RepC_RsF {h h' : aH} {L : Lw} (x : RsF h h') (hR : RepC h 1 L) : RepC h' 1 L := RepC_gA (fun c i h1 h2 => x.2.1 c i (by omega)) (fun j => x.2.2 _ _ (by omega) (by omega)) hR
theorem LC_RsF {h h' : aH} {l : Nat} {F : LF} (hl : isLaw l) (x : RsF h h') (hF : LC h l F) : LC h' l F := by
  unfold isLaw at hl
  exact LC_to (fun c h1 h2 i => x.2.1 c i (by omega)) (x.2.2 _ _ (by omega) (by omega)) (x.2.2 _ _ (by omega) (by omega)) hF
/-- of the rows of RESCUE alone -/
def RsG (h h' : aH) : Prop := h'.2.2 = h.2.2 ∧ (∀ c i, ¬ (74 ≤ c ∧ c ≤ 77) → gA h' c i = gA h c i) ∧ ∀ c j, gI h' c j = gI h c j
theorem RsG_rf {h : aH} : RsG h h := ⟨rfl, fun _ _ _ => rfl, fun _ _ => rfl⟩
theorem RsG_tr {a b c : aH} (x : RsG a b) (y : RsG b c) : RsG a c := ⟨y.1.trans x.1, fun k i hk => (y.2.1 k i hk).trans (x.2.1 k i hk), fun k i => (y.2.2 k i).trans (x.2.2 k i)⟩
theorem RsG_sA {h : aH} {c i : Nat} {v : Int32} (hc : 74 ≤ c ∧ c ≤ 77) : RsG h (sA h c i v) := ⟨rfl, fun a j ha => by rw [gA_sA, if_neg (fun z => ha (by omega))], fun _ _ => rfl⟩
theorem RsF_G {a b : aH} (x : RsG a b) : RsF a b := ⟨x.1, fun c i hc => x.2.1 c i (by omega), fun c j _ _ => x.2.2 c j⟩
abbrev FARc : Nat := 1073741824
def encP (o : Option Nat) : Int32 := match o with
  | none => (-1)
  | some p => nI p
/-- the heap holds the costs c and the queue qs from hd on -/
def QI (h : aH) (pl c : Nat → Option Nat) (qs : List Nat) (hd : Nat) : Prop := (∀ v, v < 256 → gA h 74 v = encP (pl v) ∧ gA h 75 v = encF FARc (c v)) ∧ (∀ i, i < qs.length → gA h 76 ((hd + i) % 256) = nI (qs.getD i 0)) ∧ (∀ v, v < 256 → (v ∈ qs → gA h 77 v = 1) ∧ (v ∉ qs → gA h 77 v = 0)) ∧ qs.Nodup ∧ ∀ v, v ∈ qs → v < 256
def Rx (pl c : Nat → Option Nat) (u J : Nat) : Prop := ∀ b j v q, c u = some b → j < J → sd u j = some v → pl v = some q → ∃ a, c v = some a ∧ a ≤ b + 1 + 1024 * q
/-- what is known of the costs: B their bound, p the round, k of its squares still wait -/
def PI (pl : Nat → Option Nat) (to : Nat) (E c : Nat → Option Nat) (qs : List Nat) (k p B : Nat) : Prop := (∀ v a, c v = some a → v < 256 ∧ (∃ q, pl v = some q) ∧ (∃ e, E v = some e ∧ e ≤ a) ∧ a ≤ B) ∧ (∀ q, pl to = some q → c to = some (1024 * q)) ∧ (∀ v e, E v = some e → rk E e ≤ p → c v = some e) ∧ (∀ i, k ≤ i → i < qs.length → ∀ e, E (qs.getD i 0) = some e → p < rk E e) ∧ k ≤ qs.length ∧ p ≤ 255 ∧ ∀ v, v ∈ qs → ∃ a, c v = some a
section Rsm
variable {pl : Nat → Option Nat} {to : Nat} {E c : Nat → Option Nat} {qs : List Nat} {k p B : Nat}
/-- a round is over: the next begins -/
theorem PI_shift (hE : isE pl to 1024 E) (hP : PI pl to E c qs 0 p B) (hx : ∀ u, u < 256 → u ∉ qs → Rx pl c u 4) (ne : qs ≠ []) : PI pl to E c qs qs.length (p + 1) B := by
  obtain ⟨m1, m2, m4, m5, m6, m7, m8⟩ := hP
  have p255 : p + 1 ≤ 255 := by
    obtain ⟨v, hv⟩ := List.exists_mem_of_ne_nil _ ne
    obtain ⟨i, hi, ei⟩ := mem_getD hv
    obtain ⟨a, ha⟩ := m8 v hv
    obtain ⟨h1, -, ⟨e, h3, -⟩, -⟩ := m1 v a ha
    have := m5 i (Nat.zero_le _) hi e (by rw [ei]; exact h3)
    have := rk_255 (E := E) h1 h3
    omega
  refine ⟨m1, m2, fun v e he hr => ?_, fun i a b => by omega, Nat.le_refl _, p255, m8⟩
  obtain ⟨hv, ⟨q, hq⟩, z⟩ := hE.2.1 v e he
  rcases z with z | ⟨j, u, b, q', h1, h2, h3, h4, h5⟩
  · subst z
    have := hE.1 q hq
    rw [he] at this
    cases this
    exact m2 q hq
  · have hu := sd_lt h2
    have r := rk_lt (E := E) hu h3 (show b < e by omega)
    have cu := m4 u b h3 (by omega)
    have nq : u ∉ qs := fun hm => by
      obtain ⟨i, hi, ei⟩ := mem_getD hm
      have := m5 i (Nat.zero_le _) hi b (by rw [ei]; exact h3)
      omega
    obtain ⟨a, ca, le⟩ := hx u hu nq b (3 - j) v q' cu (by omega) (sd_sym hv h1 h2).1 h4
    obtain ⟨-, -, ⟨e', h6, h7⟩, -⟩ := m1 v a ca
    rw [he] at h6
    cases h6
    rw [ca, show a = e by omega]
/-- when nothing waits, the costs are the least ones -/
theorem PI_end (hE : isE pl to 1024 E) (hp : ∃ q, pl to = some q) (hP : PI pl to E c [] k p B) (hx : ∀ u, u < 256 → Rx pl c u 4) : ∀ v, c v = E v := by
  obtain ⟨m1, m2, -⟩ := hP
  have a := E_le (G := c) hE hp (fun q h => ⟨_, m2 q h, Nat.le_refl _⟩) (fun u b j v q e hu hj hs hq => hx u hu b j v q e hj hs hq)
  intro v
  rcases e : E v with _ | x
  · rcases g : c v with _ | y
    · rfl
    · obtain ⟨-, -, ⟨z, z1, -⟩, -⟩ := m1 v y g
      rw [e] at z1; cases z1
  · obtain ⟨y, y1, y2⟩ := a x v e
    obtain ⟨-, -, ⟨z, z1, z2⟩, -⟩ := m1 v y y1
    rw [e] at z1
    cases z1
    rw [y1, show y = x by omega]
end Rsm
section RsC
variable {h : aH} {l d to : Nat} {pl E : Nat → Option Nat}
theorem sp_isBettered (hL : LayC h l d) {c : Nat → Option Nat} {qs : List Nat} {hd : Nat} (hQ : QI h pl c qs hd) (pb : ∀ v q, pl v = some q → q ≤ 1) {v x : Nat} (hv : v < 256) (hx : x < 2 ^ 29) (hc : ∀ a, c v = some a → a < 2 ^ 29) {Q : Int32 → aH → Prop} (h1 : ∀ q h', pl v = some q → (∀ a, c v = some a → x + 1024 * q < a) → h' = sA h 75 v (nI (x + 1024 * q)) → Q 1 h') (h0 : (∀ q, pl v = some q → ∃ a, c v = some a ∧ a ≤ x + 1024 * q) → Q 0 h) : f_X6_isBettered SC 73 (nI v) (nI x) h Q := by
  obtain ⟨e74, e75⟩ := hQ.1 v hv
  unfold f_X6_isBettered
  rw [c_73_0 hL, ca_74, vp_lt hv (by decide), cl (by omega), e74]
  refine ⟨trivial, fun y ey => ?_⟩
  subst ey
  rcases ep : pl v with _ | q
  · exact aIf_t rfl (h0 (fun q z => by rw [ep] at z; cases z))
  · have q1 := pb v q ep
    refine aIf_f (nI_neg1 (by omega)) ?_
    refine ⟨trivial, fun y ey => ?_⟩
    subst ey
    rw [c_73_1 hL, ca_75, vp_lt hv (by decide), e75]
    refine ⟨trivial, fun y ey => ?_⟩
    subst ey
    have em : nI x + encP (some q) * 1024 = nI (x + 1024 * q) := by
      show nI x + nI q * 1024 = _
      rw [show (1024 : Int32) = nI 1024 from rfl, pk_mul, nI_add, Nat.mul_comm]
    rw [em]
    rcases ec : c v with _ | a
    · refine aIf_t ((nI_ltI (by omega) (by decide)).mpr (show x + 1024 * q < FARc by show x + 1024 * q < 1073741824; omega)) ?_
      refine ⟨trivial, fun y ey => ⟨trivial, fun h2 e2 => ?_⟩⟩
      subst ey
      rw [em] at e2
      exact h1 q h2 ep (fun a z => by rw [ec] at z; cases z) e2
    · have ha := hc a ec
      refine aIf_i (fun z => ?_) (fun z => h0 (fun q' eq' => ?_))
      · have z : nI (x + 1024 * q) < nI a := z
        have z := (nI_ltI (by omega) (by omega)).mp z
        refine ⟨trivial, fun y ey => ⟨trivial, fun h2 e2 => ?_⟩⟩
        subst ey
        rw [em] at e2
        exact h1 q h2 ep (fun a' z' => by rw [ec] at z'; cases z'; exact z) e2
      · rw [ep] at eq'
        cases eq'
        have z : ¬ nI (x + 1024 * q) < nI a := z
        have z : ¬ x + 1024 * q < a := fun y => z ((nI_ltI (by omega) (by omega)).mpr y)
        exact ⟨a, ec, by omega⟩
set_option maxHeartbeats 1000000 in
theorem sp_relax (hL : LayC h l d) (hE : isE pl to 1024 E) (pb : ∀ v q, pl v = some q → q ≤ 1) {a1 : Int32} {u b x4 p : Nat} (hu : u < 256) (hx4 : x4 < 65536) {K21 : Int32 → Int32 → Int32 → aH → Prop} {Q : aH → Prop} (hd : Nat) (hd256 : hd < 256) (hb : b ≤ 1025 * (x4 + 1)) (hbE : ∃ e, E u = some e ∧ e ≤ b) (hq : ∀ (h' : aH) (c : Nat → Option Nat) (qs : List Nat) (k : Nat), RsG h h' → QI h' pl c qs hd → PI pl to E c qs k p (1025 * (x4 + 2)) → (∀ v, v < 256 → v ∉ qs → Rx pl c v 4) → x4 + 1 + k ≤ 256 * (p + 1) → K21 (nI hd) (nI qs.length) (nI (x4 + 1)) h') : ∀ w j, j + w = 4 → ∀ (h' : aH) (c : Nat → Option Nat) (qs : List Nat) (k : Nat), RsG h h' → QI h' pl c qs hd → PI pl to E c qs k p (1025 * (x4 + 2)) → c u = some b → u ∉ qs → (∀ v, v < 256 → v ∉ qs → v ≠ u → Rx pl c v 4) → Rx pl c u j → x4 + 1 + k ≤ 256 * (p + 1) → f_X6_spreadFrom_62 SC 73 a1 Q K21 (w + 1) (nI hd) (nI qs.length) (nI x4) (nI u) (nI j) h' := by
  intro w
  induction w with
  | zero =>
    intro j hj h' c qs k f' q' p' cu nu rx ru m6
    have : j = 4 := by omega
    subst this
    refine aIf_t (by decide) (fun y ey => ?_)
    rw [nI_1] at ey
    subst ey
    refine hq h' c qs k f' q' p' (fun v hv nq => ?_) m6
    by_cases z : v = u
    · rw [z]; exact ru
    · exact rx v hv nq z
  | succ w ih =>
    intro j hj h' c qs k f' q' p' cu nu rx ru m6
    have l' := LayC_2 f'.1 hL
    have hj4 : j < 4 := by omega
    obtain ⟨m1, m2, m4, m5, mk, mp, m8⟩ := id p'
    have skip : (∀ v q, sd u j = some v → pl v = some q → ∃ a, c v = some a ∧ a ≤ b + 1 + 1024 * q) → ∀ y : Int32, y = nI j + 1 → f_X6_spreadFrom_62 SC 73 a1 Q K21 (w + 1) (nI hd) (nI qs.length) (nI x4) (nI u) y h' := by
      intro z y ey
      rw [nI_1] at ey
      subst ey
      refine ih (j + 1) (by omega) h' c qs k f' q' p' cu nu rx (fun b' i v q e hi hs hq' => ?_) m6
      rcases Nat.lt_or_ge i j with x | x
      · exact ru b' i v q e x hs hq'
      · rw [show i = j by omega] at hs
        rw [cu] at e
        cases e
        exact z v q hs hq'
    refine aIf_f (nI_ge (a := j) (b := 4) hj4 (by decide)) ?_
    refine sp_side hu hj4 ?_
    rcases es : sd u j with _ | v
    · exact aIf_t rfl (skip (fun v q z => by rw [es] at z; cases z))
    · have hv := sd_lt es
      obtain ⟨-, vu⟩ := sd_sym hu hj4 es
      rw [enc_some]
      refine aIf_f (nI_neg1 (by omega)) ?_
      have cU : gA h' 75 u = nI b := by
        rw [(q'.1 u hu).2, cu]
        rfl
      rw [c_73_1 l', ca_75, vp_lt hu (by decide), cl (by omega), cU]
      refine ⟨trivial, fun y ey => ?_⟩
      subst ey
      rw [nI_1]
      refine sp_isBettered l' q' pb hv (by omega) (fun a ca => by have := (m1 v a ca).2.2.2; omega) (fun q h2 hp lt e2 => aIf_f (by decide) ?_) (fun z => aIf_t rfl (skip (fun v' q' hs' hp' => ?_)))
      rotate_left
      · rw [es] at hs'
        cases hs'
        exact z q' hp'
      -- v is bettered
      have q1 := pb v q hp
      have f2 : RsG h' h2 := by rw [e2]; exact RsG_sA (by decide)
      have l2 := LayC_2 f2.1 l'
      have fa := RsG_tr f' f2
      obtain ⟨eu, eu1, eu2⟩ := hbE
      obtain ⟨ev, ev1, ev2⟩ := hE.2.2 u eu j v q eu1 hj4 es hp
      have nto : ∀ q0, pl to = some q0 → v ≠ to := fun q0 h0 z => by
        subst z
        have := lt _ (m2 q0 h0)
        have := hE.1 q0 h0
        rw [ev1] at this
        cases this
        omega
      have nrk : ∀ e, E v = some e → p < rk E e := fun e he => by
        rcases Nat.lt_or_ge p (rk E e) with z | z
        · exact z
        · have := lt _ (m4 v e he z)
          rw [ev1] at he
          cases he
          omega
      let c2 : Nat → Option Nat := fun x => if x = v then some (b + 1 + 1024 * q) else c x
      have c2v : c2 v = some (b + 1 + 1024 * q) := if_pos rfl
      have c2o : ∀ x, x ≠ v → c2 x = c x := fun x hx => if_neg hx
      have c2le : ∀ x a, c x = some a → ∃ a', c2 x = some a' ∧ a' ≤ a := fun x a hx => by
        by_cases z : x = v
        · subst z
          exact ⟨_, c2v, by have := lt a hx; omega⟩
        · exact ⟨a, by rw [c2o x z]; exact hx, Nat.le_refl _⟩
      have P2 : ∀ (qs2 : List Nat), (∀ i, k ≤ i → i < qs2.length → ∀ e, E (qs2.getD i 0) = some e → p < rk E e) → k ≤ qs2.length → (∀ x, x ∈ qs2 → x ∈ qs ∨ x = v) → PI pl to E c2 qs2 k p (1025 * (x4 + 2)) := by
        intro qs2 h5 h6 h7
        refine ⟨fun x a hx => ?_, fun q0 h0 => by rw [c2o to (fun z => nto q0 h0 z.symm)]; exact m2 q0 h0, fun x e he hr => ?_, h5, h6, mp, fun x hx => ?_⟩
        · by_cases z : x = v
          · subst z
            rw [c2v] at hx
            cases hx
            exact ⟨hv, ⟨q, hp⟩, ⟨ev, ev1, by omega⟩, by omega⟩
          · rw [c2o x z] at hx
            exact m1 x a hx
        · have : x ≠ v := fun z => by
            subst z
            have := nrk e he
            omega
          rw [c2o x this]
          exact m4 x e he hr
        · by_cases z : x = v
          · exact ⟨_, by rw [z]; exact c2v⟩
          · rcases h7 x hx with y | y
            · obtain ⟨a, ha⟩ := m8 x y
              exact ⟨a, by rw [c2o x z]; exact ha⟩
            · exact absurd y z
      have Rx2 : ∀ x J, x ≠ v → Rx pl c x J → Rx pl c2 x J := by
        intro x J nx hx b' i t q' e hi hs hp'
        rw [c2o x nx] at e
        obtain ⟨a, ha, le⟩ := hx b' i t q' e hi hs hp'
        obtain ⟨a', ha', le'⟩ := c2le t a ha
        exact ⟨a', ha', by omega⟩
      have RxU : Rx pl c2 u (j + 1) := by
        intro b' i t q' e hi hs hp'
        rw [c2o u (fun z => vu z.symm), cu] at e
        cases e
        rcases Nat.lt_or_ge i j with x | x
        · obtain ⟨a, ha, le⟩ := ru b i t q' cu x hs hp'
          obtain ⟨a', ha', le'⟩ := c2le t a ha
          exact ⟨a', ha', by omega⟩
        · rw [show i = j by omega, es] at hs
          cases hs
          rw [hp] at hp'
          cases hp'
          exact ⟨_, c2v, Nat.le_refl _⟩
      have e75' : ∀ x, x < 256 → gA h2 75 x = encF FARc (c2 x) := fun x hx => by
        by_cases z : x = v
        · rw [z, c2v, e2, gA_e]; rfl
        · rw [c2o x z, e2, gA_p z]; exact (q'.1 x hx).2
      rw [c_73_3 l2, ca_77, vp_lt hv (by decide), cl (by omega)]
      refine ⟨trivial, fun y ey => ?_⟩
      rw [e2, gA_o (by decide)] at ey
      subst ey
      by_cases wq : v ∈ qs
      · rw [(q'.2.2.1 v hv).1 wq]
        refine aIf_t (by decide) (fun y ey => ?_)
        rw [nI_1] at ey
        subst ey
        refine ih (j + 1) (by omega) h2 c2 qs k fa ⟨fun x hx => ⟨by rw [e2, gA_o (by decide)]; exact (q'.1 x hx).1, e75' x hx⟩, fun i hi => by rw [e2, gA_o (by decide)]; exact q'.2.1 i hi, fun x hx => by rw [e2, gA_o (by decide)]; exact q'.2.2.1 x hx, q'.2.2.2⟩ (P2 qs m5 mk (fun x hx => Or.inl hx)) (by rw [c2o u (fun z => vu z.symm)]; exact cu) nu (fun x hx nq xu => Rx2 x 4 (fun z => nq (by rw [z]; exact wq)) (rx x hx nq xu)) RxU m6
      · rw [(q'.2.2.1 v hv).2 wq]
        refine aIf_f (fun z => z rfl) ?_
        have len := len_255 q'.2.2.2.1 q'.2.2.2.2 hv wq
        refine ⟨trivial, fun h3 e3 => ?_⟩
        have l3 : LayC h3 l d := LayC_2 (by rw [e3]; rfl) l2
        have ei : (nI hd + nI qs.length) - (nI hd + nI qs.length) / 256 * 256 = nI ((hd + qs.length) % 256) := by
          rw [nI_add]
          exact pk_rem (a := hd + qs.length) (d := 256) (by omega) (by decide) (by decide)
        rw [ei, c_73_2 l3, ca_76, vp_lt (show (hd + qs.length) % 256 < 256 by omega) (by decide), cl (by omega)]
        refine ⟨trivial, fun h4 e4 y ey z ez => ?_⟩
        rw [nI_1] at ey ez
        subst ey ez
        have f4 : RsG h h4 := by
          rw [e4, e3]
          exact RsG_tr fa (RsG_tr (RsG_sA (by decide)) (RsG_sA (by decide)))
        have lenS : (qs ++ [v]).length = qs.length + 1 := by rw [List.length_append]; rfl
        have := ih (j + 1) (by omega) h4 c2 (qs ++ [v]) k f4 ⟨fun x hx => ?_, fun i hi => ?_, fun x hx => ?_, ?_, fun x hx => ?_⟩ (P2 (qs ++ [v]) (fun i a b' => ?_) (by omega) (fun x hx => by rw [List.mem_append, List.mem_singleton] at hx; exact hx)) (by rw [c2o u (fun z => vu z.symm)]; exact cu) (fun hm => by rw [List.mem_append, List.mem_singleton] at hm; exact hm.elim nu (fun z => vu z.symm)) (fun x hx nq xu => Rx2 x 4 (fun z => nq (by rw [z, List.mem_append, List.mem_singleton]; exact Or.inr rfl)) (rx x hx (fun z => nq (List.mem_append.mpr (Or.inl z))) xu)) RxU m6
        · rw [lenS] at this
          exact this
        · rw [e4, gA_o (by decide), gA_o (by decide), e3, gA_o (by decide), gA_o (by decide)]
          exact ⟨by rw [e2, gA_o (by decide)]; exact (q'.1 x hx).1, e75' x hx⟩
        · rw [lenS] at hi
          rw [getD_s, e4]
          by_cases y : i = qs.length
          · rw [y, gA_e, if_neg (Nat.lt_irrefl _), if_pos rfl]
          · rw [gA_p (by omega), if_pos (show i < qs.length by omega), e3, gA_o (by decide), e2, gA_o (by decide)]
            exact q'.2.1 i (by omega)
        · rw [e4, gA_o (by decide), e3, List.mem_append, List.mem_singleton]
          by_cases y : x = v
          · rw [y, gA_e]
            exact ⟨fun _ => rfl, fun z => absurd (Or.inr rfl) z⟩
          · rw [gA_p y, e2, gA_o (by decide)]
            exact ⟨fun z => (q'.2.2.1 x hx).1 (z.resolve_right y), fun z => (q'.2.2.1 x hx).2 (fun t => z (Or.inl t))⟩
        · refine List.nodup_append.mpr ⟨q'.2.2.2.1, List.nodup_cons.mpr ⟨List.not_mem_nil, List.nodup_nil⟩, fun a ha b' hb' => ?_⟩
          rw [List.mem_singleton] at hb'
          rw [hb']
          exact fun z => wq (by rw [← z]; exact ha)
        · rw [List.mem_append, List.mem_singleton] at hx
          rcases hx with z | z
          · exact q'.2.2.2.2 x z
          · rw [z]; exact hv
        · rw [lenS] at b'
          rw [getD_s]
          by_cases y : i = qs.length
          · rw [if_neg (by omega), if_pos y]; exact nrk
          · rw [if_pos (show i < qs.length by omega)]
            exact m5 i a (by omega)
end RsC
