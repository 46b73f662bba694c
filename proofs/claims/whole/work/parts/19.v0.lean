/-! ===== RESCUE: the least costs ===== -/
def eX (j : Nat) : Int := [0, -1, 1, 0].getD j 0
def eY (j : Nat) : Int := [-1, 0, 0, 1].getD j 0
def sd (s j : Nat) : Option Nat := besN s (eX j) (eY j)
theorem sd_lt {s j t : Nat} (h : sd s j = some t) : t < 256 := besN_lt h
theorem sd_sym1 : ∀ s, s < 256 → ∀ j, j < 4 → (match sd s j with
  | some t => decide (t < 256 ∧ sd t (3 - j) = some s ∧ t ≠ s)
  | none => true) = true := by decide +kernel
theorem sd_sym {s j t : Nat} (hs : s < 256) (hj : j < 4) (h : sd s j = some t) : sd t (3 - j) = some s ∧ t ≠ s := by
  have := sd_sym1 s hs j hj
  rw [h] at this
  exact (of_decide_eq_true this).2
/-- the costs E, with K for a PLANK -/
def isE (pl : Nat → Option Nat) (to K : Nat) (E : Nat → Option Nat) : Prop := (∀ p, pl to = some p → E to = some (K * p)) ∧ (∀ v a, E v = some a → v < 256 ∧ (∃ p, pl v = some p) ∧ (v = to ∨ ∃ j u b p, j < 4 ∧ sd v j = some u ∧ E u = some b ∧ pl v = some p ∧ a = b + 1 + K * p)) ∧ ∀ u b j v p, E u = some b → j < 4 → sd u j = some v → pl v = some p → ∃ a, E v = some a ∧ a ≤ b + 1 + K * p
def Wk (pl : Nat → Option Nat) (to K : Nat) : Nat → Nat → Nat → Prop
  | 0, v, a => v = to ∧ ∃ p, pl v = some p ∧ a = K * p
  | n + 1, v, a => v < 256 ∧ ∃ j u b p, j < 4 ∧ sd v j = some u ∧ Wk pl to K n u b ∧ pl v = some p ∧ a = b + 1 + K * p
theorem least {P : Nat → Prop} : ∀ n, P n → ∃ m, P m ∧ ∀ k, P k → m ≤ k := by
  intro n
  induction n using Nat.strongRecOn with
  | ind n ih =>
    intro h
    by_cases c : ∃ k, k < n ∧ P k
    · obtain ⟨k, a, b⟩ := c
      exact ih k a b
    · exact ⟨n, h, fun k hk => by
        rcases Nat.lt_or_ge k n with z | z
        · exact absurd ⟨k, z, hk⟩ c
        · exact z⟩
theorem E_ex (pl : Nat → Option Nat) {to : Nat} (K : Nat) (ht : to < 256) : ∃ E, isE pl to K E := by
  have ch : ∀ v, ∃ o : Option Nat, (∀ a, o = some a → (∃ n, Wk pl to K n v a) ∧ ∀ n k, Wk pl to K n v k → a ≤ k) ∧ (o = none → ∀ n k, ¬ Wk pl to K n v k) := by
    intro v
    by_cases c : ∃ a n, Wk pl to K n v a
    · obtain ⟨a, n, h⟩ := c
      obtain ⟨m, m1, m2⟩ := least (P := fun a => ∃ n, Wk pl to K n v a) a ⟨n, h⟩
      exact ⟨some m, fun b e => by cases e; exact ⟨m1, fun n k h => m2 k ⟨n, h⟩⟩, fun e => by cases e⟩
    · exact ⟨none, fun a e => by (cases e), fun _ n k h => c ⟨k, n, h⟩⟩
  obtain ⟨E, hE⟩ := Classical.axiomOfChoice ch
  have fin : ∀ v n k, Wk pl to K n v k → ∃ a, E v = some a ∧ a ≤ k := by
    intro v n k h
    rcases e : E v with _ | a
    · exact absurd h ((hE v).2 e n k)
    · exact ⟨a, rfl, ((hE v).1 a e).2 n k h⟩
  refine ⟨E, fun p hp => ?_, fun v a e => ?_, fun u b j v p e hj hs hp => ?_⟩
  · obtain ⟨a, e, le⟩ := fin to 0 (K * p) ⟨rfl, p, hp, rfl⟩
    obtain ⟨⟨n, h⟩, -⟩ := (hE to).1 a e
    have : K * p ≤ a := by
      cases n with
      | zero =>
        obtain ⟨-, q, h1, h2⟩ := h
        rw [hp] at h1; cases h1; omega
      | succ n =>
        obtain ⟨-, j, u, b, q, -, -, -, h1, h2⟩ := h
        rw [hp] at h1; cases h1; omega
    rw [e, show a = K * p by omega]
  · obtain ⟨⟨n, h⟩, mn⟩ := (hE v).1 a e
    cases n with
    | zero =>
      obtain ⟨h1, q, h2, -⟩ := h
      exact ⟨by rw [h1]; exact ht, ⟨q, h2⟩, Or.inl h1⟩
    | succ n =>
      obtain ⟨h0, j, u, b, q, h1, h2, h3, h4, h5⟩ := h
      obtain ⟨b', e', le⟩ := fin u n b h3
      obtain ⟨⟨n', h3'⟩, -⟩ := (hE u).1 b' e'
      have := mn (n' + 1) (b' + 1 + K * q) ⟨h0, j, u, b', q, h1, h2, h3', h4, rfl⟩
      exact ⟨h0, ⟨q, h4⟩, Or.inr ⟨j, u, b', q, h1, h2, e', h4, by omega⟩⟩
  · obtain ⟨⟨n, h⟩, -⟩ := (hE u).1 b e
    have u256 : u < 256 := by
      cases n with
      | zero => rw [h.1]; exact ht
      | succ n => exact h.1
    exact fin v (n + 1) (b + 1 + K * p) ⟨sd_lt hs, 3 - j, u, b, p, by omega, (sd_sym u256 hj hs).1, h, hp, rfl⟩
section Ec
variable {pl : Nat → Option Nat} {to K : Nat} {E G : Nat → Option Nat}
theorem E_le (hE : isE pl to K E) (hp : ∃ p, pl to = some p) (g1 : ∀ p, pl to = some p → ∃ a, G to = some a ∧ a ≤ K * p) (g3 : ∀ u b j v p, G u = some b → u < 256 → j < 4 → sd u j = some v → pl v = some p → ∃ a, G v = some a ∧ a ≤ b + 1 + K * p) : ∀ a v, E v = some a → ∃ b, G v = some b ∧ b ≤ a := by
  intro a
  induction a using Nat.strongRecOn with
  | ind a ih =>
    intro v e
    obtain ⟨hv, ⟨q, hq⟩, z⟩ := hE.2.1 v a e
    rcases z with z | ⟨j, u, b, p, h1, h2, h3, h4, h5⟩
    · subst z
      obtain ⟨b, x, y⟩ := g1 q hq
      have := hE.1 q hq
      rw [e] at this
      cases this
      exact ⟨b, x, y⟩
    · obtain ⟨b', x, y⟩ := ih b (by omega) u h3
      obtain ⟨a', x', y'⟩ := g3 u b' (3 - j) v p x (sd_lt h2) (by omega) (sd_sym hv h1 h2).1 h4
      exact ⟨a', x', by omega⟩
theorem E_uniq (hE : isE pl to K E) (hG : isE pl to K G) (hp : ∃ p, pl to = some p) : ∀ v, E v = G v := by
  have a := E_le (G := G) hE hp (fun p h => ⟨_, hG.1 p h, Nat.le_refl _⟩) (fun u b j v p e _ => hG.2.2 u b j v p e)
  have b := E_le (G := E) hG hp (fun p h => ⟨_, hE.1 p h, Nat.le_refl _⟩) (fun u b j v p e _ => hE.2.2 u b j v p e)
  intro v
  rcases e : E v with _ | x
  · rcases g : G v with _ | y
    · rfl
    · obtain ⟨z, z1, -⟩ := b y v g
      rw [e] at z1; cases z1
  · obtain ⟨y, y1, y2⟩ := a x v e
    obtain ⟨z, z1, z2⟩ := b y v y1
    rw [e] at z1
    cases z1
    rw [y1, show y = x by omega]
/-- how many squares cost less than a -/
def lsB (E : Nat → Option Nat) (a u : Nat) : Bool := match E u with
  | some b => decide (b < a)
  | none => false
def rk (E : Nat → Option Nat) (a : Nat) : Nat := cntB (lsB E a) 256
theorem cnt_mono {p q : Nat → Bool} (h : ∀ i, p i = true → q i = true) : ∀ n, cntB p n ≤ cntB q n := by
  intro n
  induction n with
  | zero => exact Nat.le_refl _
  | succ n ih =>
    show cntB p n + (if p n = true then 1 else 0) ≤ cntB q n + if q n = true then 1 else 0
    by_cases c : p n = true
    · rw [if_pos c, if_pos (h n c)]; omega
    · rw [if_neg c]; omega
theorem cnt_lt {p q : Nat → Bool} (h : ∀ i, p i = true → q i = true) {s : Nat} (h1 : ¬ p s = true) (h2 : q s = true) : ∀ n, s < n → cntB p n < cntB q n := by
  intro n
  induction n with
  | zero => intro z; exact absurd z (Nat.not_lt_zero _)
  | succ n ih =>
    intro hs
    show cntB p n + (if p n = true then 1 else 0) < cntB q n + if q n = true then 1 else 0
    by_cases e : s = n
    · subst e
      rw [if_neg h1, if_pos h2]
      have := cnt_mono h s
      omega
    · have := ih (by omega)
      by_cases c : p n = true
      · rw [if_pos c, if_pos (h n c)]; omega
      · rw [if_neg c]; omega
theorem cnt_all : ∀ n, cntB (fun _ => true) n = n := by
  intro n
  induction n with
  | zero => rfl
  | succ n ih =>
    show cntB (fun _ => true) n + 1 = n + 1
    rw [ih]
theorem cnt_255 {p : Nat → Bool} {s : Nat} (hs : s < 256) (h : ¬ p s = true) : cntB p 256 ≤ 255 := by
  have := cnt_lt (q := fun _ => true) (fun _ _ => rfl) h rfl 256 hs
  rw [cnt_all] at this
  omega
theorem ls_t {a u : Nat} : lsB E a u = true ↔ ∃ b, E u = some b ∧ b < a := by
  unfold lsB
  rcases e : E u with _ | b
  · exact ⟨fun z => (by cases z), fun ⟨b, z, _⟩ => (by cases z)⟩
  · constructor
    · intro z; exact ⟨b, rfl, of_decide_eq_true z⟩
    · rintro ⟨c, z, y⟩; cases z; exact decide_eq_true y
theorem rk_255 {v a : Nat} (hv : v < 256) (e : E v = some a) : rk E a ≤ 255 := cnt_255 hv (fun z => by
  obtain ⟨b, z1, z2⟩ := ls_t.mp z
  rw [e] at z1; cases z1; omega)
theorem rk_lt {u a b : Nat} (hu : u < 256) (e : E u = some b) (h : b < a) : rk E b < rk E a := cnt_lt (fun i z => by
  obtain ⟨c, z1, z2⟩ := ls_t.mp z
  exact ls_t.mpr ⟨c, z1, by omega⟩) (fun z => by
  obtain ⟨c, z1, z2⟩ := ls_t.mp z
  rw [e] at z1; cases z1; omega) (ls_t.mpr ⟨b, e, h⟩) 256 hu
/-- of 1024 for a PLANK what is left over are steps, fewer than the squares -/
theorem stp_le {E : Nat → Option Nat} (hE : isE pl to 1024 E) : ∀ a v, E v = some a → a % 1024 ≤ rk E a := by
  intro a
  induction a using Nat.strongRecOn with
  | ind a ih =>
    intro v e
    obtain ⟨hv, ⟨q, hq⟩, z⟩ := hE.2.1 v a e
    rcases z with z | ⟨j, u, b, p, h1, h2, h3, h4, h5⟩
    · subst z
      have := hE.1 q hq
      rw [e] at this
      cases this
      omega
    · have i := ih b (by omega) u h3
      have r := rk_lt (E := E) (sd_lt h2) h3 (show b < a by omega)
      have r2 := rk_255 (E := E) hv e
      omega
def ph (x : Nat) : Nat := x / 1024 * 1000 + x % 1024
theorem ph_E {E : Nat → Option Nat} (hE : isE pl to 1024 E) : isE pl to 1000 (fun v => (E v).map ph) := by
  have st : ∀ v a, E v = some a → a % 1024 ≤ 255 := fun v a e => by
    have := stp_le hE a v e
    have := rk_255 (E := E) (hE.2.1 v a e).1 e
    omega
  refine ⟨fun p hp => ?_, fun v a e => ?_, fun u b j v p e hj hs hp => ?_⟩
  · show (E to).map ph = _
    rw [hE.1 p hp]
    show some (ph (1024 * p)) = _
    unfold ph
    congr 1
    omega
  · rcases e1 : E v with _ | x
    · have e : (E v).map ph = some a := e
      rw [e1] at e; cases e
    · have e : (E v).map ph = some a := e
      rw [e1] at e
      have e : ph x = a := Option.some.inj e
      obtain ⟨hv, q, z⟩ := hE.2.1 v x e1
      refine ⟨hv, q, z.imp id ?_⟩
      rintro ⟨j, u, b, p, h1, h2, h3, h4, h5⟩
      refine ⟨j, u, ph b, p, h1, h2, by show (E u).map ph = _; rw [h3]; rfl, h4, ?_⟩
      have s1 := st v x e1
      have s2 := st u b h3
      rw [← e]
      unfold ph
      omega
  · rcases e1 : E u with _ | x
    · have e : (E u).map ph = some b := e
      rw [e1] at e; cases e
    · have e : (E u).map ph = some b := e
      rw [e1] at e
      have e : ph x = b := Option.some.inj e
      obtain ⟨a, h1, h2⟩ := hE.2.2 u x j v p e1 hj hs hp
      refine ⟨ph a, by show (E v).map ph = _; rw [h1]; rfl, ?_⟩
      have s1 := st v a h1
      have s2 := st u x e1
      rw [← e]
      unfold ph
      omega
end Ec
section Sides
variable {h : aH} {Q : Int32 → aH → Prop}
theorem gDX_iI : ∀ i, i < 4 → gDX i = iI (eX i) ∧ gDY i = iI (eY i) ∧ (-100 < eX i ∧ eX i < 100) ∧ (-100 < eY i ∧ eY i < 100) := by decide +kernel
theorem sp_side {S : aS} {s i : Nat} (hs : s < 256) (hi : i < 4) (hq : Q (enc (sd s i)) h) : f_X1_side S (nI s) (nI i) h Q := by
  unfold f_X1_side
  obtain ⟨e1, e2, b1, b2⟩ := gDX_iI i hi
  rw [vp_lt hi (by decide), cl (by omega), e1, e2]
  refine ⟨trivial, fun v ev => ⟨trivial, fun w ew => ?_⟩⟩
  subst ev ew
  exact sp_beside hs b1 b2 hq
theorem sr_beside {S : aS} {s i : Nat} (hs : s < 256) (hi : i < 4) (hq : Q (enc (sd s i)) h) : f_X11_beside S (nI s) (nI i) h Q := by
  have m1 : iI (-1) = (-1) := by decide
  have a : ∀ dx dy : Int, eX i = dx → eY i = dy → (-100 < dx ∧ dx < 100) → (-100 < dy ∧ dy < 100) → f_X11_aside S (nI s) (iI dx) (iI dy) h Q := fun dx dy e1 e2 b1 b2 => sr_aside hs b1 b2 (by
    unfold sd at hq
    rw [e1, e2] at hq
    exact hq)
  have z : i = 0 ∨ i = 1 ∨ i = 2 ∨ i = 3 := by omega
  rcases z with z | z | z | z <;> subst z
  · have t := a 0 (-1) rfl rfl (by omega) (by omega)
    rw [m1] at t
    exact aIf_f (fun y => y rfl) t
  · have t := a (-1) 0 rfl rfl (by omega) (by omega)
    rw [m1] at t
    exact aIf_t (by decide) (aIf_f (fun y => y rfl) t)
  · exact aIf_t (by decide) (aIf_t (by decide) (aIf_f (fun y => y rfl) (a 1 0 rfl rfl (by omega) (by omega))))
  · exact aIf_t (by decide) (aIf_t (by decide) (aIf_t (by decide) (a 0 1 rfl rfl (by omega) (by omega))))
end Sides
