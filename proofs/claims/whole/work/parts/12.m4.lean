/-! ===== what spreads from a square to its neighbours ===== -/
theorem sm_ac4 (a b c d : Int32) : a + b + (c + d) = a + c + (b + d) := by ac_rfl
theorem sm_add (f g : Nat → Int32) : ∀ n, sm (fun i => f i + g i) n = sm f n + sm g n := by
  intro n
  induction n with
  | zero => rfl
  | succ n ih =>
    rw [sm_s, sm_s, sm_s, ih]
    exact sm_ac4 _ _ _ _
theorem sm_congr {f g : Nat → Int32} : ∀ n, (∀ i, i < n → f i = g i) → sm f n = sm g n := by
  intro n
  induction n with
  | zero => intro _; rfl
  | succ n ih => intro hh; rw [sm_s, sm_s, ih (fun i hi => hh i (by omega)), hh n (by omega)]
theorem sm_rev8 (f : Nat → Int32) : sm (fun i => f (7 - i)) 8 = sm f 8 := by
  show 0 + f 7 + f 6 + f 5 + f 4 + f 3 + f 2 + f 1 + f 0 = 0 + f 0 + f 1 + f 2 + f 3 + f 4 + f 5 + f 6 + f 7
  ac_rfl
theorem adj_sym1 : ∀ s, s < 256 → ∀ i, i < 8 → (match adj s i with
  | some t => decide (t < 256 ∧ adj t (7 - i) = some s)
  | none => true) = true := by decide +kernel
theorem adj_sym {s i t : Nat} (hs : s < 256) (hi : i < 8) (h : adj s i = some t) : adj t (7 - i) = some s := by
  have := adj_sym1 s hs i hi
  rw [h] at this
  exact (of_decide_eq_true this).2
theorem adj_iff {s i t : Nat} (hs : s < 256) (ht : t < 256) (hi : i < 8) : adj s i = some t ↔ adj t (7 - i) = some s := by
  refine ⟨adj_sym hs hi, fun h => ?_⟩
  have := adj_sym ht (by omega) h
  rw [show 7 - (7 - i) = i by omega] at this
  exact this
theorem adj_lt {s i t : Nat} (h : adj s i = some t) : t < 256 := besN_lt h
/-- a sum over the neighbours, when one square's part changes -/
theorem nb_ch {T T' : Option Nat → Int32} {s : Nat} (hs : s < 256) {δ : Int32} (h0 : T' none = T none) (hne : ∀ t, t < 256 → t ≠ s → T' (some t) = T (some t)) (hd : T' (some s) = T (some s) + δ) {t : Nat} (ht : t < 256) : sm (fun i => T' (adj t i)) 8 = sm (fun i => T (adj t i)) 8 + sm (fun j => if adj s j = some t then δ else 0) 8 := by
  have e1 : sm (fun j => if adj s j = some t then δ else 0) 8 = sm (fun i => if adj t i = some s then δ else 0) 8 := by
    rw [← sm_rev8 (fun j => if adj s j = some t then δ else 0)]
    refine sm_congr 8 (fun i hi => ?_)
    by_cases c : adj t i = some s
    · rw [if_pos c, if_pos ((adj_iff ht hs hi).mp c)]
    · rw [if_neg c, if_neg (fun z => c ((adj_iff ht hs hi).mpr z))]
  rw [e1, ← sm_add]
  refine sm_congr 8 (fun i hi => ?_)
  by_cases c : adj t i = some s
  · rw [if_pos c, c, hd]
  · rw [if_neg c, Int32.add_zero]
    cases ha : adj t i with
    | none => exact h0
    | some u => exact hne u (adj_lt ha) (fun e => c (by rw [ha, e]))
theorem gaps_ch {L L' : Lw} {s : Nat} (hs : s < 256) {δ : Int32} (hne : ∀ t, t < 256 → t ≠ s → gapT L' (some t) = gapT L (some t)) (hd : gapT L' (some s) = gapT L (some s) + δ) {t : Nat} (ht : t < 256) : gapsL L' t = gapsL L t + sm (fun j => if adj s j = some t then δ else 0) 8 :=
  nb_ch (T := gapT L) (T' := gapT L') hs rfl hne hd ht
theorem warm_ch {L L' : Lw} {s : Nat} (hs : s < 256) {δ : Int32} (hne : ∀ t, t < 256 → t ≠ s → warT L' (some t) = warT L (some t)) (hd : warT L' (some s) = warT L (some s) + δ) {t : Nat} (ht : t < 256) : warmL L' t = warmL L t + (if t = s then δ else 0) + sm (fun j => if adj s j = some t then δ else 0) 8 := by
  unfold warmL
  rw [nb_ch (T := warT L) (T' := warT L') hs rfl hne hd ht]
  by_cases c : t = s
  · subst c
    rw [if_pos rfl, hd]
    ac_rfl
  · rw [if_neg c, hne t ht c, Int32.add_zero]
    ac_rfl
/-- all cells but those of X are as before; no int field, no reference has changed -/
def FrA (X : Nat → Prop) (h h' : aH) : Prop := (∀ c i, ¬ X c → gA h' c i = gA h c i) ∧ h'.2 = h.2
theorem gI_fr {X : Nat → Prop} {h h' : aH} (hf : FrA X h h') (c j : Nat) : gI h' c j = gI h c j := by
  unfold gI
  rw [hf.2]
theorem LayC_2 {h h' : aH} {l d : Nat} (hf : h'.2.2 = h.2.2) (hL : LayC h l d) : LayC h' l d := by
  have e : ∀ k j, gR h' k j = gR h k j := fun k j => by unfold gR; rw [hf]
  exact ⟨fun k j a b => (e k j).trans (hL.1 k j a b), (e _ _).trans hL.2.1, (e _ _).trans hL.2.2.1, hL.2.2.2⟩
theorem gSX_iI : ∀ i, i < 8 → gSX i = iI (dX i) ∧ gSY i = iI (dY i) ∧ (-100 < dX i ∧ dX i < 100) ∧ (-100 < dY i ∧ dY i < 100) := by decide +kernel
theorem sp_neighbour {S : aS} {s i : Nat} (hs : s < 256) (hi : i < 8) {h : aH} {Q : Int32 → aH → Prop} (hq : Q (enc (adj s i)) h) : f_X1_neighbour S (nI s) (nI i) h Q := by
  unfold f_X1_neighbour
  obtain ⟨e1, e2, b1, b2⟩ := gSX_iI i hi
  rw [vp_lt hi (by decide), cl (by omega), e1, e2]
  refine ⟨trivial, fun v ev => ⟨trivial, fun w ew => ?_⟩⟩
  subst ev
  subst ew
  exact sp_beside hs b1 b2 hq
theorem enc_some (t : Nat) : enc (some t) = nI t := rfl
theorem enc_none : enc none = (-1) := rfl
set_option maxHeartbeats 1000000 in
theorem sp_spread {h : aH} {l d k : Nat} (hk : isLake k) (hL : LayC h l d) {s : Nat} (hs : s < 256) {g w : Int32} {Q : aH → Prop} (hq : ∀ h', FrA (fun c => c = k + 3 ∨ c = k + 4) h h' → (∀ t, t < 256 → gA h' (k + 3) t = gA h (k + 3) t + sm (fun j => if adj s j = some t then g else 0) 8 ∧ gA h' (k + 4) t = gA h (k + 4) t + (if t = s then w else 0) + sm (fun j => if adj s j = some t then w else 0) 8) → Q h') : f_X2_spread SC k (nI s) g w h Q := by
  unfold f_X2_spread
  rw [lk_3 hk hL, li_4 hk, vp_lt hs (by decide), cl (by omega)]
  refine ⟨trivial, fun v ev => ⟨trivial, fun h1 e1 => ?_⟩⟩
  subst ev
  have key := up_loop (N := 8) (P := fun n i => ∀ h2 : aH, FrA (fun c => c = k + 3 ∨ c = k + 4) h h2 → (∀ t, t < 256 → gA h2 (k + 3) t = gA h (k + 3) t + sm (fun j => if adj s j = some t then g else 0) i ∧ gA h2 (k + 4) t = gA h (k + 4) t + (if t = s then w else 0) + sm (fun j => if adj s j = some t then w else 0) i) → f_X2_spread_13 SC k (nI s) g w Q n (nI i) h2) ?_ ?_
  · refine ⟨9, key h1 ?_ ?_⟩
    · subst e1
      refine ⟨fun c i hc => ?_, rfl⟩
      rw [gA_sA, if_neg (fun z => hc (Or.inr z.1))]
    · intro t ht
      subst e1
      rw [gA_sA, gA_sA, if_neg (fun z => absurd z.1 (by omega))]
      refine ⟨(Int32.add_zero _).symm, ?_⟩
      show _ = _ + 0
      rw [Int32.add_zero]
      by_cases c : t = s
      · subst c
        rw [if_pos ⟨rfl, rfl⟩, if_pos rfl]
      · rw [if_neg (fun z => c z.2), if_neg c, Int32.add_zero]
  · intro h2 hf hv
    exact aIf_t (by decide) (hq h2 hf hv)
  · intro n i hi n1 h2 hf hv
    refine aIf_f (nI_ge (a := i) (b := 8) hi (by decide)) ?_
    refine sp_neighbour hs hi ?_
    have hL2 : LayC h2 l d := LayC_2 (by rw [hf.2]) hL
    cases ha : adj s i with
    | none =>
      rw [enc_none]
      refine aIf_t rfl ?_
      intro x ex
      subst ex
      rw [nI_1]
      refine n1 h2 hf (fun t ht => ?_)
      have c2 : ¬ adj s i = some t := fun z => by rw [ha] at z; cases z
      rw [sm_s, sm_s, if_neg c2, if_neg c2, Int32.add_zero, Int32.add_zero]
      exact hv t ht
    | some u =>
      have hu := adj_lt ha
      rw [enc_some]
      refine aIf_f (nI_neg1 (by omega)) ?_
      rw [lk_2 hk hL2, li_3 hk, vp_lt hu (by decide), cl (by omega)]
      refine ⟨trivial, fun v ev => ⟨trivial, fun h3 e3 => ?_⟩⟩
      subst ev
      have hL3 : LayC h3 l d := LayC_2 (by rw [e3]; rfl) hL2
      rw [lk_3 hk hL3, li_4 hk, vp_lt hu (by decide)]
      refine ⟨trivial, fun v ev => ⟨trivial, fun h4 e4 x ex => ?_⟩⟩
      subst ev
      subst ex
      rw [nI_1]
      have v3 : ∀ t, gA h4 (k + 3) t = if t = u then gA h2 (k + 3) u + g else gA h2 (k + 3) t := fun t => by
        rw [e4, gA_sA, if_neg (fun z => absurd z.1 (by omega)), e3, gA_sA]
        by_cases c : t = u
        · rw [if_pos ⟨rfl, c⟩, if_pos c]
        · rw [if_neg (fun z => c z.2), if_neg c]
      have v4 : ∀ t, gA h4 (k + 4) t = if t = u then gA h2 (k + 4) u + w else gA h2 (k + 4) t := fun t => by
        rw [e4, gA_sA]
        have e5 : ∀ t, gA h3 (k + 4) t = gA h2 (k + 4) t := fun t => by rw [e3, gA_sA, if_neg (fun z => absurd z.1 (by omega))]
        by_cases c : t = u
        · rw [if_pos ⟨rfl, c⟩, if_pos c, e5]
        · rw [if_neg (fun z => c z.2), if_neg c, e5]
      refine n1 h4 ⟨fun c i hc => ?_, ?_⟩ (fun t ht => ?_)
      · rw [e4, gA_sA, if_neg (fun z => hc (Or.inr z.1)), e3, gA_sA, if_neg (fun z => hc (Or.inl z.1))]
        exact hf.1 c i hc
      · rw [e4, e3]
        exact hf.2
      · rw [sm_s, sm_s, v3, v4]
        by_cases c : t = u
        · subst c
          rw [if_pos rfl, if_pos rfl, ha, if_pos rfl, if_pos rfl, (hv t ht).1, (hv t ht).2]
          exact ⟨Int32.add_assoc _ _ _, Int32.add_assoc _ _ _⟩
        · have c2 : ¬ adj s i = some t := fun z => c (by rw [ha] at z; exact (Option.some.inj z).symm)
          rw [if_neg c, if_neg c, if_neg c2, if_neg c2, Int32.add_zero, Int32.add_zero]
          exact hv t ht
