/-! ===== changes of a lake: a hole comes or goes, ice breaks or is mended ===== -/
def FrK (k : Nat) (h h' : aH) : Prop := (∀ c, ¬ (k ≤ c ∧ c < k + 12) → (∀ i, gA h' c i = gA h c i) ∧ ∀ i, gI h' c i = gI h c i) ∧ h'.2.2 = h.2.2
theorem FrK_rf {k : Nat} {h : aH} : FrK k h h := ⟨fun _ _ => ⟨fun _ => rfl, fun _ => rfl⟩, rfl⟩
theorem FrK_tr {k : Nat} {h1 h2 h3 : aH} (a : FrK k h1 h2) (b : FrK k h2 h3) : FrK k h1 h3 := ⟨fun c hc => ⟨fun i => ((b.1 c hc).1 i).trans ((a.1 c hc).1 i), fun i => ((b.1 c hc).2 i).trans ((a.1 c hc).2 i)⟩, b.2.trans a.2⟩
theorem FrK_sA {k c i : Nat} {v : Int32} {h : aH} (h1 : k ≤ c) (h2 : c < k + 12) : FrK k h (sA h c i v) := ⟨fun a ha => ⟨fun j => by rw [gA_sA, if_neg (fun z => ha (by rw [z.1]; exact ⟨h1, h2⟩))], fun _ => rfl⟩, rfl⟩
theorem FrK_sI {k i : Nat} {v : Int32} {h : aH} : FrK k h (sI h k i v) := ⟨fun a ha => ⟨fun _ => rfl, fun j => by rw [gI_sI, if_neg (fun z => ha (by rw [z.1]; omega))]⟩, rfl⟩
theorem FrK_fr {k : Nat} {X : Nat → Prop} {h h' : aH} (hf : FrA X h h') (hX : ∀ c, X c → k ≤ c ∧ c < k + 12) : FrK k h h' := ⟨fun c hc => ⟨fun i => hf.1 c i (fun z => hc (hX c z)), fun i => gI_fr hf c i⟩, by rw [hf.2]⟩
theorem LayC_K {k : Nat} {h h' : aH} {l d : Nat} (hf : FrK k h h') (hL : LayC h l d) : LayC h' l d := LayC_2 hf.2 hL
/-- another lake isn't touched -/
theorem RepC_K {k k2 : Nat} {h h' : aH} {L : Lw} (hf : FrK k h h') (hd : k2 + 12 ≤ k ∨ k + 12 ≤ k2) (hR : RepC h k2 L) : RepC h' k2 L := by
  have a : ∀ c, k2 ≤ c → c < k2 + 12 → ∀ i, gA h' c i = gA h c i := fun c h1 h2 i => (hf.1 c (by omega)).1 i
  have b : ∀ i, gI h' k2 i = gI h k2 i := fun i => (hf.1 k2 (by omega)).2 i
  refine ⟨fun i hi => ?_, fun i hi => ?_, fun i hi => ?_, ?_⟩
  · rw [a _ (by omega) (by omega), a _ (by omega) (by omega), a _ (by omega) (by omega), a _ (by omega) (by omega)]
    exact hR.1 i hi
  · rw [a _ (by omega) (by omega), a _ (by omega) (by omega), a _ (by omega) (by omega), a _ (by omega) (by omega), a _ (by omega) (by omega)]
    exact hR.2.1 i hi
  · rw [a _ (by omega) (by omega), a _ (by omega) (by omega)]
    exact hR.2.2.1 i hi
  · rw [b, b, b, b]
    exact hR.2.2.2
theorem uL_s (L : Lw) (f i : Nat) (v : Int32) : uL L f i v f i = v := if_pos ⟨rfl, rfl⟩
theorem uL_n {L : Lw} {f i a b : Nat} {v : Int32} (h : ¬ (a = f ∧ b = i)) : uL L f i v a b = L a b := if_neg h
theorem rep_cover {h h' : aH} {k s : Nat} {L : Lw} {v g w : Int32} (hR : RepC h k L) (hs : s < 256) (hf : FrA (fun c => c = k + 3 ∨ c = k + 4) (sA h (k + 2) s v) h') (hv : ∀ t, t < 256 → gA h' (k + 3) t = gA (sA h (k + 2) s v) (k + 3) t + sm (fun j => if adj s j = some t then g else 0) 8 ∧ gA h' (k + 4) t = gA (sA h (k + 2) s v) (k + 4) t + (if t = s then w else 0) + sm (fun j => if adj s j = some t then w else 0) 8) (hg : gapT (uL L 1 s v) (some s) = gapT L (some s) + g) (hw : warT (uL L 1 s v) (some s) = warT L (some s) + w) : RepC h' k (uL L 1 s v) ∧ FrK k h h' := by
  have a : ∀ c i, c ≠ k + 3 → c ≠ k + 4 → gA h' c i = gA (sA h (k + 2) s v) c i := fun c i h1 h2 => hf.1 c i (fun z => z.elim h1 h2)
  have a2 : ∀ c i, c ≠ k + 2 → gA (sA h (k + 2) s v) c i = gA h c i := fun c i h1 => by rw [gA_sA, if_neg (fun z => h1 z.1)]
  have b : ∀ i, gI h' k i = gI h k i := fun i => gI_fr hf k i
  have u : ∀ f i, f ≠ 1 → uL L 1 s v f i = L f i := fun f i h1 => uL_n (fun z => h1 z.1)
  refine ⟨⟨fun i hi => ?_, fun i hi => ?_, fun i hi => ?_, ?_⟩, FrK_tr (FrK_sA (by omega) (by omega)) (FrK_fr hf (fun c z => by omega))⟩
  · refine ⟨?_, ?_, ?_, ?_⟩
    · rw [a _ _ (by omega) (by omega), a2 _ _ (by omega), u 0 i (by decide)]
      exact (hR.1 i hi).1
    · rw [a _ _ (by omega) (by omega), gA_sA]
      by_cases c : i = s
      · subst c; rw [if_pos ⟨rfl, rfl⟩, uL_s]
      · rw [if_neg (fun z => c z.2), uL_n (fun z => c z.2)]
        exact (hR.1 i hi).2.1
    · rw [(hv i hi).1, a2 _ _ (by omega), (hR.1 i hi).2.2.1]
      refine (gaps_ch hs (fun t ht hne => ?_) hg hi).symm
      show (if uL L 1 s v 1 t = (-1) then (0 : Int32) else 1) = if L 1 t = (-1) then 0 else 1
      rw [uL_n (fun z => hne z.2)]
    · rw [(hv i hi).2, a2 _ _ (by omega), (hR.1 i hi).2.2.2]
      refine (warm_ch hs (fun t ht hne => ?_) hw hi).symm
      show (if 0 ≤ uL L 1 s v 1 t then uL L 1 s v 4 (uL L 1 s v 1 t).toNatClampNeg else 0) = if 0 ≤ L 1 t then L 4 (L 1 t).toNatClampNeg else 0
      rw [uL_n (fun z => hne z.2), u 4 _ (by decide)]
  · rw [a _ _ (by omega) (by omega), a2 _ _ (by omega), a _ _ (by omega) (by omega), a2 _ _ (by omega), a _ _ (by omega) (by omega), a2 _ _ (by omega), a _ _ (by omega) (by omega), a2 _ _ (by omega), a _ _ (by omega) (by omega), a2 _ _ (by omega), u 2 i (by decide), u 3 i (by decide), u 4 i (by decide), u 5 i (by decide), u 6 i (by decide)]
    exact hR.2.1 i hi
  · rw [a _ _ (by omega) (by omega), a2 _ _ (by omega), a _ _ (by omega) (by omega), a2 _ _ (by omega), u 7 i (by decide), u 8 i (by decide)]
    exact hR.2.2.1 i hi
  · rw [b, b, b, b, u 9 0 (by decide), u 9 1 (by decide), u 9 2 (by decide), u 9 3 (by decide)]
    exact hR.2.2.2
section Chg
variable {h : aH} {l d k : Nat} {L : Lw} {hn gn : Nat} {Q : aH → Prop}
theorem gap_in {L : Lw} {s : Nat} (h1 : ¬ L 1 s = (-1)) : gapT L (some s) = 1 := if_neg h1
theorem gap_off {L : Lw} {s : Nat} (h1 : L 1 s = (-1)) : gapT L (some s) = 0 := if_pos h1
theorem war_neg {L : Lw} {s : Nat} (h1 : L 1 s < 0) : warT L (some s) = 0 := if_neg (fun z => absurd h1 (Int32.not_lt.mpr z))
theorem war_hole {L : Lw} {s m : Nat} (hm : m < 2 ^ 31) (h1 : L 1 s = nI m) : warT L (some s) = L 4 m := by
  show (if 0 ≤ L 1 s then L 4 (L 1 s).toNatClampNeg else 0) = L 4 m
  rw [h1, if_pos (nI_pos' hm), cl hm]
theorem sp_closeHole (hk : isLake k) (hL : LayC h l d) (hR : RepC h k L) (hW : WF L hn gn) {m s : Nat} (hm : m < hn) (hs : s < 256) (e2 : L 2 m = nI s) (e1 : L 1 s = nI m) (hq : ∀ h', FrK k h h' → RepC h' k (uL L 1 s (-1)) → Q h') : f_X2_closeHole SC k (nI m) h Q := by
  unfold f_X2_closeHole
  have hhn := hW.1
  rw [lk_4 hk hL, li_5 hk, vp_lt (show m < 12 by omega) (by decide), cl (by omega), (hR.2.1 m (by omega)).1, e2]
  refine ⟨trivial, fun v ev => ?_⟩
  subst ev
  rw [lk_1 hk hL, li_2 hk, vp_lt hs (by decide), cl (by omega)]
  refine ⟨trivial, fun h4 e4 => ?_⟩
  have hL4 : LayC h4 l d := LayC_2 (by rw [e4]; rfl) hL
  have e7 : gA h4 (k + 7) m = L 4 m := by
    rw [e4, gA_sA, if_neg (fun z => absurd z.1 (by omega))]
    exact (hR.2.1 m (by omega)).2.2.1
  rw [lk_6 hk hL4, li_7 hk, vp_lt (show m < 12 by omega) (by decide), e7]
  refine ⟨trivial, fun v ev => ?_⟩
  subst ev
  refine sp_spread hk hL4 hs (fun h' hf hv => ?_)
  subst e4
  have r := rep_cover hR hs hf hv (by rw [gap_off (uL_s _ _ _ _), gap_in (by rw [e1]; exact nI_neg1 (by omega))]; rfl) (by
    rw [war_neg (by rw [uL_s]; decide), war_hole (by omega) e1]
    exact (Int32.add_right_neg _).symm)
  exact hq h' r.2 r.1
theorem sp_mend (hk : isLake k) (hL : LayC h l d) (hR : RepC h k L) {s : Nat} (hs : s < 256) (h1 : L 1 s = (-2) → ∀ h', FrK k h h' → RepC h' k (uL L 1 s (-1)) → Q h') (h0 : ¬ L 1 s = (-2) → Q h) : f_X2_mend SC k (nI s) h Q := by
  unfold f_X2_mend
  refine sp_isBroken hk hL hR hs (fun c => ?_) (fun c => aIf_t rfl (h0 c))
  refine aIf_f (by decide) ?_
  rw [lk_1 hk hL, li_2 hk, vp_lt hs (by decide), cl (by omega)]
  refine ⟨trivial, fun h4 e4 => ?_⟩
  have hL4 : LayC h4 l d := LayC_2 (by rw [e4]; rfl) hL
  refine sp_spread hk hL4 hs (fun h' hf hv => ?_)
  subst e4
  have r := rep_cover hR hs hf hv (by rw [gap_off (uL_s _ _ _ _), gap_in (by rw [c]; decide)]; rfl) (by rw [war_neg (by rw [uL_s]; decide), war_neg (by rw [c]; decide)]; rfl)
  exact h1 c h' r.2 r.1
/-- the GROUPS below n that stand on s drown -/
def drownL (L : Lw) (s n : Nat) : Lw := fun a b => if a = 7 ∧ b < n ∧ L 7 b = nI s then (-2) else L a b
def breakL (L : Lw) (s gn : Nat) : Lw := drownL (uL L 1 s (-2)) s gn
theorem drown_n {L : Lw} {s n a b : Nat} (h : a ≠ 7) : drownL L s n a b = L a b := if_neg (fun z => h z.1)
theorem gaps_eq {L L' : Lw} (h1 : ∀ t, L' 1 t = L 1 t) (t : Nat) : gapsL L' t = gapsL L t := by
  unfold gapsL
  refine sm_congr 8 (fun i _ => ?_)
  cases adj t i with
  | none => rfl
  | some u => show (if L' 1 u = (-1) then (0 : Int32) else 1) = _; rw [h1]; rfl
theorem warm_eq {L L' : Lw} (h1 : ∀ t, L' 1 t = L 1 t) (h4 : ∀ t, L' 4 t = L 4 t) (t : Nat) : warmL L' t = warmL L t := by
  have e : ∀ o, warT L' o = warT L o := fun o => by
    cases o with
    | none => rfl
    | some u => show (if 0 ≤ L' 1 u then L' 4 (L' 1 u).toNatClampNeg else 0) = _; rw [h1, h4]; rfl
  unfold warmL
  rw [e, sm_congr (f := fun i => warT L' (adj t i)) (g := fun i => warT L (adj t i)) 8 (fun i _ => e (adj t i))]
theorem sp_breakAt (hk : isLake k) (hL : LayC h l d) (hR : RepC h k L) (hg : gn ≤ 8) (e91 : L 9 1 = nI gn) {s : Nat} (hs : s < 256) (h1 : L 1 s = (-1) → ∀ h', FrK k h h' → RepC h' k (breakL L s gn) → Q h') (h0 : ¬ L 1 s = (-1) → Q h) : f_X2_breakAt SC k (nI s) h Q := by
  unfold f_X2_breakAt
  refine sp_isFirm hk hL hR hs (fun c => ?_) (fun c => aIf_f (by decide) (h0 c))
  refine aIf_t (by decide) ?_
  rw [lk_1 hk hL, li_2 hk, vp_lt hs (by decide), cl (by omega)]
  refine ⟨trivial, fun h4 e4 => ?_⟩
  have hL4 : LayC h4 l d := LayC_2 (by rw [e4]; rfl) hL
  refine sp_spread hk hL4 hs (fun h' hf hv => ?_)
  subst e4
  have r := rep_cover hR hs hf hv (by rw [gap_off c, gap_in (by rw [uL_s]; decide)]; rfl) (by rw [war_neg (by rw [uL_s]; decide), war_neg (by rw [c]; decide)]; rfl)
  have key := up_loop (N := gn) (P := fun n i => ∀ h2 : aH, FrK k h h2 → RepC h2 k (drownL (uL L 1 s (-2)) s i) → f_X2_breakAt_26 SC k (nI s) Q n (nI i) h2) ?_ ?_
  · refine ⟨gn + 1, key h' r.2 ?_⟩
    have e : drownL (uL L 1 s (-2)) s 0 = uL L 1 s (-2) := by
      funext a b
      exact if_neg (fun z => absurd z.2.1 (Nat.not_lt_zero _))
    rw [e]
    exact r.1
  · intro h2 f2 r2 v ev
    have e12 : gI h2 k 12 = nI gn := by
      rw [r2.2.2.2.2.1, drown_n (by decide), uL_n (fun z => absurd z.1 (by decide))]
      exact e91
    rw [e12] at ev
    subst ev
    exact aIf_t (nI_le (Nat.le_refl _) (by omega)) (h1 c h2 f2 r2)
  · intro n i hi n1 h2 f2 r2 v ev
    have e12 : gI h2 k 12 = nI gn := by
      rw [r2.2.2.2.2.1, drown_n (by decide), uL_n (fun z => absurd z.1 (by decide))]
      exact e91
    rw [e12] at ev
    subst ev
    refine aIf_f (nI_ge hi (by omega)) ?_
    have hL2 : LayC h2 l d := LayC_K f2 hL
    have e7 : gA h2 (k + 10) i = L 7 i := by
      rw [(r2.2.2.1 i (by omega)).1]
      show (if 7 = 7 ∧ i < i ∧ uL L 1 s (-2) 7 i = nI s then (-2) else uL L 1 s (-2) 7 i) = L 7 i
      rw [if_neg (fun z => absurd z.2.1 (by omega)), uL_n (fun z => absurd z.1 (by decide))]
    rw [lk_10 hk hL2, li_10 hk, vp_lt (show i < 8 by omega) (by decide), cl (by omega), e7]
    refine ⟨trivial, fun v ev => ?_⟩
    subst ev
    refine aIf_i (fun c2 => ?_) (fun c2 => ?_)
    · intro x ex
      subst ex
      rw [nI_1]
      refine n1 h2 f2 ?_
      have e : drownL (uL L 1 s (-2)) s (i + 1) = drownL (uL L 1 s (-2)) s i := by
        funext a b
        show (if a = 7 ∧ b < i + 1 ∧ uL L 1 s (-2) 7 b = nI s then (-2) else uL L 1 s (-2) a b) = if a = 7 ∧ b < i ∧ uL L 1 s (-2) 7 b = nI s then (-2) else uL L 1 s (-2) a b
        by_cases z : a = 7 ∧ b < i ∧ uL L 1 s (-2) 7 b = nI s
        · rw [if_pos z, if_pos ⟨z.1, by omega, z.2.2⟩]
        · rw [if_neg z, if_neg]
          rintro ⟨z1, z2, z3⟩
          refine z ⟨z1, ?_, z3⟩
          rcases Nat.lt_or_ge b i with y | y
          · exact y
          · have : b = i := by omega
            subst this
            rw [uL_n (fun z => absurd z.1 (by decide))] at z3
            exact absurd z3 c2
      rw [e]
      exact r2
    · have c3 := Classical.not_not.mp c2
      refine ⟨trivial, fun h8 e8 x ex => ?_⟩
      subst ex
      rw [nI_1]
      have f8 : FrK k h2 h8 := by rw [e8]; exact FrK_sA (by omega) (by omega)
      refine n1 h8 (FrK_tr f2 f8) ?_
      have w : ∀ a b, a ≠ 7 → drownL (uL L 1 s (-2)) s (i + 1) a b = drownL (uL L 1 s (-2)) s i a b := fun a b ha => by rw [drown_n ha, drown_n ha]
      have a : ∀ c j, c ≠ k + 10 → gA h8 c j = gA h2 c j := fun c j hc => by rw [e8, gA_sA, if_neg (fun z => hc z.1)]
      have b : ∀ j, gI h8 k j = gI h2 k j := fun j => by rw [e8]; rfl
      refine ⟨fun j hj => ?_, fun j hj => ?_, fun j hj => ?_, ?_⟩
      · rw [a _ _ (by omega), a _ _ (by omega), a _ _ (by omega), a _ _ (by omega), w 0 j (by decide), w 1 j (by decide), gaps_eq (L' := drownL (uL L 1 s (-2)) s (i + 1)) (fun t => w 1 t (by decide)), warm_eq (L' := drownL (uL L 1 s (-2)) s (i + 1)) (fun t => w 1 t (by decide)) (fun t => w 4 t (by decide))]
        exact r2.1 j hj
      · rw [a _ _ (by omega), a _ _ (by omega), a _ _ (by omega), a _ _ (by omega), a _ _ (by omega), w 2 j (by decide), w 3 j (by decide), w 4 j (by decide), w 5 j (by decide), w 6 j (by decide)]
        exact r2.2.1 j hj
      · rw [a (k + 11) _ (by omega), w 8 j (by decide)]
        refine ⟨?_, (r2.2.2.1 j hj).2⟩
        rw [e8, gA_sA]
        show _ = if 7 = 7 ∧ j < i + 1 ∧ uL L 1 s (-2) 7 j = nI s then (-2) else uL L 1 s (-2) 7 j
        by_cases y : j = i
        · subst y
          rw [if_pos ⟨rfl, rfl⟩, if_pos ⟨rfl, by omega, by rw [uL_n (fun z => absurd z.1 (by decide))]; exact c3⟩]
        · rw [if_neg (fun z => y z.2), (r2.2.2.1 j hj).1]
          show (if 7 = 7 ∧ j < i ∧ uL L 1 s (-2) 7 j = nI s then (-2) else uL L 1 s (-2) 7 j) = _
          by_cases z : 7 = 7 ∧ j < i ∧ uL L 1 s (-2) 7 j = nI s
          · rw [if_pos z, if_pos ⟨rfl, by omega, z.2.2⟩]
          · rw [if_neg z, if_neg (fun z2 => z ⟨rfl, by omega, z2.2.2⟩)]
      · rw [b, b, b, b, w 9 0 (by decide), w 9 1 (by decide), w 9 2 (by decide), w 9 3 (by decide)]
        exact r2.2.2.2
end Chg
