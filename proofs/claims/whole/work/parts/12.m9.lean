/-! ===== a lake is copied (class); set aside and put back (reference) ===== -/
theorem cp {S : aS} {h : aH} {a b N : Nat} {x : Int32} {P : aH → Prop} (ha : a < S.1) (hb : b < S.1) (ka : S.2 a = .inr (0, N)) (kb : S.2 b = .inr (0, N)) (hx : ¬ x < 0) (hn : x.toNatClampNeg = N) (hq : P (sC h a 0 b 0 N)) : ∃ n1 n2, a < S.1 ∧ S.2 a = .inr (0, n1) ∧ b < S.1 ∧ S.2 b = .inr (0, n2) ∧ ¬ ((0 : Int32)) < 0 ∧ ¬ ((0 : Int32)) < 0 ∧ ¬ (x) < 0 ∧ ((0 : Int32)).toNatClampNeg + (x).toNatClampNeg ≤ n1 ∧ ((0 : Int32)).toNatClampNeg + (x).toNatClampNeg ≤ n2 ∧ ∀ h2 : aH, h2 = sC h a ((0 : Int32)).toNatClampNeg b ((0 : Int32)).toNatClampNeg (x).toNatClampNeg → P h2 := by
  refine ⟨N, N, ha, ka, hb, kb, by decide, by decide, hx, ?_, ?_, fun h2 e => ?_⟩
  · rw [hn, show (0 : Int32).toNatClampNeg = 0 from rfl]; omega
  · rw [hn, show (0 : Int32).toNatClampNeg = 0 from rfl]; omega
  · rw [e, hn]; exact hq
def cpLen (c : Nat) : Nat := [0, 256, 256, 256, 256, 12, 12, 12, 12, 12, 8, 8].getD c 0
def cpN (h : aH) (o k : Nat) : Nat → aH
  | 0 => h
  | m + 1 => sC (cpN h o k m) (o + (m + 1)) 0 (k + (m + 1)) 0 (cpLen (m + 1))
theorem cpN_2 (h : aH) (o k : Nat) : ∀ m, (cpN h o k m).2 = h.2 := by
  intro m
  induction m with
  | zero => rfl
  | succ m ih => exact ih
theorem cpN_o {h : aH} {o k : Nat} : ∀ m a i, ¬ (k < a ∧ a ≤ k + m) → gA (cpN h o k m) a i = gA h a i := by
  intro m
  induction m with
  | zero => intro a i _; rfl
  | succ m ih =>
    intro a i ha
    show gA (sC (cpN h o k m) _ 0 _ 0 _) a i = _
    rw [gA_sC, if_neg (by omega)]
    exact ih a i (by omega)
theorem cpN_e {h : aH} {o k : Nat} (hd : o + 12 ≤ k ∨ k + 12 ≤ o) : ∀ m, m ≤ 11 → ∀ c, 1 ≤ c → c ≤ m → ∀ i, i < cpLen c → gA (cpN h o k m) (k + c) i = gA h (o + c) i := by
  intro m
  induction m with
  | zero => intro _ c h1 h2; omega
  | succ m ih =>
    intro hm c h1 h2 i hi
    show gA (sC (cpN h o k m) (o + (m + 1)) 0 (k + (m + 1)) 0 (cpLen (m + 1))) (k + c) i = _
    rw [gA_sC]
    by_cases e : c = m + 1
    · subst e
      rw [if_pos rfl]
      unfold va_cpy
      rw [if_pos (by omega)]
      have : 0 + (i - 0) = i := by omega
      rw [this]
      exact cpN_o m (o + (m + 1)) i (by omega)
    · rw [if_neg (by omega)]
      exact ih (by omega) c h1 (by omega) i hi
theorem lake_cell {k : Nat} (hk : isLake k) : k + 12 ≤ 78 ∧ ∀ c, 1 ≤ c → c ≤ 11 → KX10 (k + c) = .inr (0, cpLen c) := by
  have key : ∀ k', k' = 1 ∨ k' = 13 ∨ k' = 25 → ∀ c, c < 12 → 1 ≤ c → KX10 (k' + c) = .inr (0, cpLen c) := by
    intro k' h
    rcases h with rfl | rfl | rfl <;> decide
  refine ⟨by rcases hk with rfl | rfl | rfl <;> decide, fun c h1 h2 => key k hk c (by omega) h1⟩
set_option maxHeartbeats 1000000 in
theorem sp_copyFrom {h : aH} {l d k o : Nat} {L : Lw} {Q : aH → Prop} (hk : isLake k) (ho : isLake o) (hd : o + 12 ≤ k ∨ k + 12 ≤ o) (hL : LayC h l d) (hR : RepC h o L) (hq : ∀ h', FrK k h h' → RepC h' k L → Q h') : f_X2_copyFrom SC k o h Q := by
  obtain ⟨k1, k2⟩ := lake_cell hk
  obtain ⟨o1, o2⟩ := lake_cell ho
  have Lm : ∀ m, LayC (cpN h o k m) l d := fun m => LayC_2 (by rw [cpN_2]) hL
  have st : ∀ (m : Nat) (x : Int32) (P : aH → Prop), m < 11 → ¬ x < 0 → x.toNatClampNeg = cpLen (m + 1) → P (cpN h o k (m + 1)) → _ := fun m x P hm hx hn hp => cp (S := SC) (h := cpN h o k m) (a := o + (m + 1)) (b := k + (m + 1)) (x := x) (P := P) (by show o + (m + 1) < 78; omega) (by show k + (m + 1) < 78; omega) (o2 _ (by omega) (by omega)) (k2 _ (by omega) (by omega)) hx hn hp
  unfold f_X2_copyFrom
  rw [lk_0 ho hL, lk_0 hk hL]
  refine st 0 _ _ (by decide) (by decide) (by decide) ?_
  rw [lk_1 ho (Lm 1), lk_1 hk (Lm 1)]
  refine st 1 _ _ (by decide) (by decide) (by decide) ?_
  rw [lk_2 ho (Lm 2), lk_2 hk (Lm 2)]
  refine st 2 _ _ (by decide) (by decide) (by decide) ?_
  rw [lk_3 ho (Lm 3), lk_3 hk (Lm 3)]
  refine st 3 _ _ (by decide) (by decide) (by decide) ?_
  rw [lk_4 ho (Lm 4), lk_4 hk (Lm 4)]
  refine st 4 _ _ (by decide) (by decide) (by decide) ?_
  rw [lk_5 ho (Lm 5), lk_5 hk (Lm 5)]
  refine st 5 _ _ (by decide) (by decide) (by decide) ?_
  rw [lk_6 ho (Lm 6), lk_6 hk (Lm 6)]
  refine st 6 _ _ (by decide) (by decide) (by decide) ?_
  rw [lk_7 ho (Lm 7), lk_7 hk (Lm 7)]
  refine st 7 _ _ (by decide) (by decide) (by decide) ?_
  rw [lk_8 ho (Lm 8), lk_8 hk (Lm 8)]
  refine st 8 _ _ (by decide) (by decide) (by decide) ?_
  rw [lk_10 ho (Lm 9), lk_10 hk (Lm 9)]
  refine st 9 _ _ (by decide) (by decide) (by decide) ?_
  rw [lk_11 ho (Lm 10), lk_11 hk (Lm 10)]
  refine st 10 _ _ (by decide) (by decide) (by decide) ?_
  intro v1 e1 h1 f1 v2 e2 h2 f2 v3 e3 h3 f3 v4 e4 h4 f4
  have gi : ∀ c j, gI (cpN h o k 11) c j = gI h c j := fun c j => by unfold gI; rw [cpN_2]
  have hok : o ≠ k := by omega
  have x1 : v1 = gI h o 9 := e1.trans (gi _ _)
  have x2 : v2 = gI h o 12 := by rw [e2, f1, gI_sI, if_neg (fun z => hok z.1)]; exact gi _ _
  have x3 : v3 = gI h o 13 := by rw [e3, f2, gI_sI, if_neg (fun z => hok z.1), f1, gI_sI, if_neg (fun z => hok z.1)]; exact gi _ _
  have x4 : v4 = gI h o 14 := by rw [e4, f3, gI_sI, if_neg (fun z => hok z.1), f2, gI_sI, if_neg (fun z => hok z.1), f1, gI_sI, if_neg (fun z => hok z.1)]; exact gi _ _
  have ga : ∀ c j, gA h4 c j = gA (cpN h o k 11) c j := fun c j => by rw [f4, f3, f2, f1]; rfl
  have ge : ∀ c, 1 ≤ c → c ≤ 11 → ∀ i, i < cpLen c → gA h4 (k + c) i = gA h (o + c) i := fun c a b i hi => (ga _ _).trans (cpN_e hd 11 (by decide) c a b i hi)
  refine hq h4 ⟨fun c hc => ⟨fun i => (ga c i).trans (cpN_o 11 c i (by omega)), fun i => ?_⟩, ?_⟩ ⟨fun i hi => ?_, fun i hi => ?_, fun i hi => ?_, ?_⟩
  · have ck : c ≠ k := by omega
    rw [f4, gI_sI, if_neg (fun z => ck z.1), f3, gI_sI, if_neg (fun z => ck z.1), f2, gI_sI, if_neg (fun z => ck z.1), f1, gI_sI, if_neg (fun z => ck z.1)]
    exact gi c i
  · rw [f4, f3, f2, f1]
    show (cpN h o k 11).2.2 = h.2.2
    rw [cpN_2]
  · rw [ge 1 (by decide) (by decide) i hi, ge 2 (by decide) (by decide) i hi, ge 3 (by decide) (by decide) i hi, ge 4 (by decide) (by decide) i hi]
    exact hR.1 i hi
  · rw [ge 5 (by decide) (by decide) i hi, ge 6 (by decide) (by decide) i hi, ge 7 (by decide) (by decide) i hi, ge 8 (by decide) (by decide) i hi, ge 9 (by decide) (by decide) i hi]
    exact hR.2.1 i hi
  · rw [ge 10 (by decide) (by decide) i hi, ge 11 (by decide) (by decide) i hi]
    exact hR.2.2.1 i hi
  · obtain ⟨r1, r2, r3, r4⟩ := hR.2.2.2
    refine ⟨?_, ?_, ?_, ?_⟩
    · rw [f4, gI_sI, if_neg (fun z => absurd z.2 (by decide)), f3, gI_sI, if_neg (fun z => absurd z.2 (by decide)), f2, gI_sI, if_neg (fun z => absurd z.2 (by decide)), f1, gI_sI, if_pos ⟨rfl, rfl⟩, x1]; exact r1
    · rw [f4, gI_sI, if_neg (fun z => absurd z.2 (by decide)), f3, gI_sI, if_neg (fun z => absurd z.2 (by decide)), f2, gI_sI, if_pos ⟨rfl, rfl⟩, x2]; exact r2
    · rw [f4, gI_sI, if_neg (fun z => absurd z.2 (by decide)), f3, gI_sI, if_pos ⟨rfl, rfl⟩, x3]; exact r3
    · rw [f4, gI_sI, if_pos ⟨rfl, rfl⟩, x4]; exact r4
