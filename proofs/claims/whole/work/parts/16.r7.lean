/-! ===== DRAW ===== -/
def luckN (x : Nat) : Nat := (25173 * x + 13849) % 65536
def dirX (d : Nat) : Int := if d = 1 then 1 else if d = 3 then -1 else 0
def dirY (d : Nat) : Int := if d = 0 then 1 else if d = 2 then -1 else 0
def driftL (gn : Nat) (L : Lw) : Lw :=
  if luckN (L 9 3).toNatClampNeg % 8 < gn ∧ ¬ L 7 (luckN (L 9 3).toNatClampNeg % 8) = (-2) then
    (match stpL (uL L 9 3 (nI (luckN (L 9 3).toNatClampNeg))) (luckN (L 9 3).toNatClampNeg % 8) (dirX (luckN (L 9 3).toNatClampNeg / 8 % 4)) (dirY (luckN (L 9 3).toNatClampNeg / 8 % 4)) with
    | some L' => L'
    | none => uL L 9 3 (nI (luckN (L 9 3).toNatClampNeg)))
  else uL L 9 3 (nI (luckN (L 9 3).toNatClampNeg))
theorem WF_93 {L : Lw} {hn gn x : Nat} (hW : WF L hn gn) (hx : x ≤ 65535) : WF (uL L 9 3 (nI x)) hn gn := by
  have u : ∀ f i, ¬ (f = 9 ∧ i = 3) → uL L 9 3 (nI x) f i = L f i := fun f i hf => uL_n hf
  obtain ⟨w1, w2, w3, w4, w5, w6, w7, w8, w9, w10⟩ := hW
  refine ⟨w1, w2, by rw [u 9 0 (by omega)]; exact w3, by rw [u 9 1 (by omega)]; exact w4, fun i hi => by rw [u 0 i (by omega)]; exact w5 i hi, fun i hi => ?_, fun m hm => by rw [u 2 m (by omega)]; exact w7 m hm, fun m hm => by rw [u 3 m (by omega), u 4 m (by omega), u 5 m (by omega), u 6 m (by omega)]; exact w8 m hm, fun g hg => ?_, ⟨x, hx, uL_s _ _ _ _⟩⟩
  · rw [u 1 i (by omega)]
    rcases w6 i hi with z | z | ⟨m, z1, z2, z3⟩
    · exact Or.inl z
    · exact Or.inr (Or.inl z)
    · exact Or.inr (Or.inr ⟨m, z1, z2, by rw [u 2 m (by omega)]; exact z3⟩)
  · rw [u 7 g (by omega), u 8 g (by omega)]
    refine ⟨?_, (w9 g hg).2⟩
    rcases (w9 g hg).1 with z | ⟨s, z1, z2, z3⟩
    · exact Or.inl z
    · exact Or.inr ⟨s, z1, z2, by rw [u 1 s (by omega)]; exact z3⟩
theorem rep_93 {h : aH} {k : Nat} {L : Lw} {v : Int32} (hR : RepC h k L) : RepC (sI h k 14 v) k (uL L 9 3 v) := by
  have u : ∀ f i, ¬ (f = 9 ∧ i = 3) → uL L 9 3 v f i = L f i := fun f i hf => uL_n hf
  refine ⟨fun i hi => ?_, fun i hi => ?_, fun i hi => ?_, ?_⟩
  · rw [gaps_eq (fun t => u 1 t (by omega)), warm_eq (fun t => u 1 t (by omega)) (fun t => u 4 t (by omega)), u 0 i (by omega), u 1 i (by omega)]
    exact hR.1 i hi
  · rw [u 2 i (by omega), u 3 i (by omega), u 4 i (by omega), u 5 i (by omega), u 6 i (by omega)]
    exact hR.2.1 i hi
  · rw [u 7 i (by omega), u 8 i (by omega)]
    exact hR.2.2.1 i hi
  · rw [gI_sI, if_neg (fun z => absurd z.2 (by decide)), gI_sI, if_neg (fun z => absurd z.2 (by decide)), gI_sI, if_neg (fun z => absurd z.2 (by decide)), gI_sI, if_pos ⟨rfl, rfl⟩, u 9 0 (by omega), u 9 1 (by omega), u 9 2 (by omega), uL_s]
    exact ⟨hR.2.2.2.1, hR.2.2.2.2.1, hR.2.2.2.2.2.1, rfl⟩
theorem repM_93 {h : aH} {L : Lw} {v : Int32} (hR : RepM h L) : RepM (sI h 0 5 v) (uL L 9 3 v) := by
  have u : ∀ f i, ¬ (f = 9 ∧ i = 3) → uL L 9 3 v f i = L f i := fun f i hf => uL_n hf
  refine ⟨fun i hi => ?_, fun i hi => ?_, fun i hi => ?_, ?_⟩
  · rw [u 0 i (by omega), u 1 i (by omega)]
    exact hR.1 i hi
  · rw [u 2 i (by omega), u 3 i (by omega), u 4 i (by omega), u 5 i (by omega), u 6 i (by omega)]
    exact hR.2.1 i hi
  · rw [u 7 i (by omega), u 8 i (by omega)]
    exact hR.2.2.1 i hi
  · rw [gI_sI, if_neg (fun z => absurd z.2 (by decide)), gI_sI, if_neg (fun z => absurd z.2 (by decide)), gI_sI, if_neg (fun z => absurd z.2 (by decide)), gI_sI, if_pos ⟨rfl, rfl⟩, u 9 0 (by omega), u 9 1 (by omega), u 9 2 (by omega), uL_s]
    exact ⟨hR.2.2.2.1, hR.2.2.2.2.1, hR.2.2.2.2.2.1, rfl⟩
theorem luck_c {x : Nat} (hx : x ≤ 65535) : (25173 * nI x + 13849) &&& 65535 = nI (luckN x) ∧ (25173 * nI x + 13849) - (25173 * nI x + 13849) / 65536 * 65536 = nI (luckN x) := by
  have e : (25173 : Int32) * nI x + 13849 = nI (25173 * x + 13849) := by
    rw [show (25173 : Int32) = nI 25173 from rfl, pk_mul, show (13849 : Int32) = nI 13849 from rfl, nI_add]
  rw [e]
  exact ⟨pk_andN (n := 25173 * x + 13849) (by omega) (m := 65535) 16 (by decide), pk_rem (a := 25173 * x + 13849) (d := 65536) (by omega) (by decide) (by decide)⟩
theorem luck_g {x : Nat} (hx : x ≤ 65535) : nI x &&& 7 = nI (x % 8) ∧ nI x - nI x / 8 * 8 = nI (x % 8) ∧ (nI x >>> (3 &&& 31)) &&& 3 = nI (x / 8 % 4) ∧ nI x / 8 - nI x / 8 / 4 * 4 = nI (x / 8 % 4) := by
  refine ⟨pk_andN (n := x) (by omega) (m := 7) 3 (by decide), pk_rem (a := x) (d := 8) (by omega) (by decide) (by decide), ?_, ?_⟩
  · rw [show nI x >>> (3 &&& 31) = nI (x / 8) from pk_shrN (n := x) (by omega) (3 &&& 31) 3 (by decide)]
    exact pk_andN (n := x / 8) (by omega) (m := 3) 2 (by decide)
  · rw [show nI x / 8 = nI (x / 8) from pk_div (a := x) (d := 8) (by omega) (by decide) (by decide)]
    exact pk_rem (a := x / 8) (d := 4) (by omega) (by decide) (by decide)
theorem lt4 {d : Nat} (h : d < 4) : d = 0 ∨ d = 1 ∨ d = 2 ∨ d = 3 := by omega
section Draw
variable {h : aH} {l d k : Nat} {L : Lw} {hn gn : Nat} {F : LF} {Q : aH → Prop}
theorem WF_drift (hW : WF L hn gn) : WF (driftL gn L) hn gn := by
  have w := WF_93 (x := luckN (L 9 3).toNatClampNeg) hW (by unfold luckN; omega)
  unfold driftL
  split
  · split
    · rename_i L' e
      exact WF_stp w e
    · exact w
  · exact w
theorem sp_drift (hk : isLake k) (hL : LayC h l d) (hR : RepC h k L) (hW : WF L hn gn) (hq : ∀ h', FrK k h h' → RepC h' k (driftL gn L) → Q h') : f_X2_drift SC k h Q := by
  have hgn := hW.2.1
  obtain ⟨x, hx, ex⟩ := hW.2.2.2.2.2.2.2.2.2
  have ec : (L 9 3).toNatClampNeg = x := by rw [ex, cl (by omega)]
  unfold driftL at hq
  rw [ec] at hq
  have hy : luckN x ≤ 65535 := by unfold luckN; omega
  obtain ⟨y1, y2, y3, y4⟩ := luck_g hy
  intro v ev h2 e2 v' ev' z ez
  rw [hR.2.2.2.2.2.2, ex] at ev
  subst ev
  rw [(luck_c hx).1] at e2
  have f2 : FrK k h h2 := by rw [e2]; exact FrK_sI
  have l2 := LayC_K f2 hL
  have r2 : RepC h2 k (uL L 9 3 (nI (luckN x))) := by rw [e2]; exact rep_93 hR
  have w2 := WF_93 (x := luckN x) hW hy
  have e14 : gI h2 k 14 = nI (luckN x) := by rw [e2, gI_sI, if_pos ⟨rfl, rfl⟩]
  rw [e14] at ev'
  subst ev'
  rw [y1] at ez
  subst ez
  have u7 : ∀ g, uL L 9 3 (nI (luckN x)) 7 g = L 7 g := fun g => uL_n (fun z => absurd z.1 (by decide))
  have eqg : ∀ g2, nI (luckN x % 8) = nI g2 → g2 < gn → g2 = luckN x % 8 := fun g2 e hg2 => ((nI_eq (by omega) (by omega)).mp e).symm
  refine sp_isAfloat hk l2 r2 w2 (fun g2 s hg2 hs e e7 _ => ?_) (fun c => ?_)
  · have eg := eqg g2 e hg2
    rw [eg] at hg2 e7
    have h7 : ¬ uL L 9 3 (nI (luckN x)) 7 (luckN x % 8) = (-2) := by rw [e7]; exact nI_neg2 (by omega)
    have h7' : ¬ L 7 (luckN x % 8) = (-2) := by rw [← u7]; exact h7
    rw [if_pos ⟨hg2, h7'⟩] at hq
    refine aIf_t (by decide) ?_
    intro v ev v' ev'
    rw [e14] at ev
    subst ev
    rw [y3] at ev'
    subst ev'
    have st : ∀ (dx dy : Int), dirX (luckN x / 8 % 4) = dx → dirY (luckN x / 8 % 4) = dy → (-100 < dx ∧ dx < 100) → (-100 < dy ∧ dy < 100) → f_X2_stepGroup SC k (nI (luckN x % 8)) (iI dx) (iI dy) h2 (fun r12 h11 => Q h11) := by
      intro dx dy ex ey bx bY
      rw [ex, ey] at hq
      refine sp_stepGroup hk l2 r2 w2 hg2 h7 bx bY (fun h3 L' e' f3 r3 => ?_) (fun e' => ?_)
      · rw [e'] at hq
        exact hq h3 (FrK_tr f2 f3) r3
      · rw [e'] at hq
        exact hq h2 f2 r2
    have dd : luckN x / 8 % 4 < 4 := by omega
    rcases lt4 dd with z | z | z | z
    · rw [z] at st ⊢
      exact aIf_t rfl (st 0 1 rfl rfl (by omega) (by omega))
    · rw [z] at st ⊢
      exact aIf_f (by decide) (aIf_t rfl (st 1 0 rfl rfl (by omega) (by omega)))
    · rw [z] at st ⊢
      have t := st 0 (-1) rfl rfl (by omega) (by omega)
      rw [show iI (-1) = (-1) from by decide] at t
      exact aIf_f (by decide) (aIf_f (by decide) (aIf_t rfl t))
    · rw [z] at st ⊢
      have t := st (-1) 0 rfl rfl (by omega) (by omega)
      rw [show iI (-1) = (-1) from by decide] at t
      exact aIf_f (by decide) (aIf_f (by decide) (aIf_f (by decide) t))
  · have no : ¬ (luckN x % 8 < gn ∧ ¬ L 7 (luckN x % 8) = (-2)) := fun z => z.2 (by rw [← u7]; exact c (luckN x % 8) z.1 rfl)
    rw [if_neg no] at hq
    exact aIf_f (fun z => z rfl) (hq h2 f2 r2)
theorem sr_drift (hL : LayM h) (hM : RepM h L) (hW : WF L hn gn) (hq : ∀ h', MS h h' → RepM h' (driftL gn L) → Q h') : ∀ v4 : Int32, v4 = (gI h 0 5) → ∀ h5 : aH, h5 = sI h 0 5 (((25173 * v4) + 13849) - ((25173 * v4) + 13849) / 65536 * 65536) → ∀ v6 : Int32, v6 = (gI h5 0 5) → ∀ v7 : Int32, v7 = (gI h5 0 5) → f_X11_wanders SM 0 (v6 - v6 / 8 * 8) ((v7 / 8) - (v7 / 8) / 4 * 4) h5 Q := by
  have hgn := hW.2.1
  obtain ⟨x, hx, ex⟩ := hW.2.2.2.2.2.2.2.2.2
  have ec : (L 9 3).toNatClampNeg = x := by rw [ex, cl (by omega)]
  unfold driftL at hq
  rw [ec] at hq
  have hy : luckN x ≤ 65535 := by unfold luckN; omega
  obtain ⟨y1, y2, y3, y4⟩ := luck_g hy
  intro v ev h2 e2 v' ev' v'' ev''
  rw [hM.2.2.2.2.2.2, ex] at ev
  subst ev
  rw [(luck_c hx).2] at e2
  have s2 : MS h h2 := by rw [e2]; exact MS_sI (by omega)
  have l2 : LayM h2 := LayM_2 s2.1 hL
  have r2 : RepM h2 (uL L 9 3 (nI (luckN x))) := by rw [e2]; exact repM_93 hM
  have w2 := WF_93 (x := luckN x) hW hy
  have e14 : gI h2 0 5 = nI (luckN x) := by rw [e2, gI_sI, if_pos ⟨rfl, rfl⟩]
  rw [e14] at ev' ev''
  subst ev' ev''
  rw [y2, y4]
  have u7 : ∀ g, uL L 9 3 (nI (luckN x)) 7 g = L 7 g := fun g => uL_n (fun z => absurd z.1 (by decide))
  have eqg : ∀ g2, nI (luckN x % 8) = nI g2 → g2 < gn → g2 = luckN x % 8 := fun g2 e hg2 => ((nI_eq (by omega) (by omega)).mp e).symm
  unfold f_X11_wanders
  refine sr_isGroup r2 w2 (fun g2 hg2 e => ?_) (fun c => ?_)
  · have eg := eqg g2 e hg2
    rw [eg] at hg2
    refine aIf_f (by decide) ?_
    rw [m_14 l2, mi_10, vp_lt (show luckN x % 8 < 8 by omega) (by decide), cl (by omega), (r2.2.2.1 _ (by omega)).1]
    refine ⟨trivial, fun v ev => ?_⟩
    subst ev
    refine aIf_i (fun h7 => ?_) (fun h7 => ?_)
    · have h7' : ¬ L 7 (luckN x % 8) = (-2) := by rw [← u7]; exact h7
      rw [if_pos ⟨hg2, h7'⟩] at hq
      obtain ⟨q1, q2, q3⟩ := sqG_of w2 hg2 h7
      rw [q2]
      refine ⟨trivial, fun v ev => ?_⟩
      subst ev
      have st : ∀ (dx dy : Int), dirX (luckN x / 8 % 4) = dx → dirY (luckN x / 8 % 4) = dy → (-100 < dx ∧ dx < 100) → (-100 < dy ∧ dy < 100) → ∀ a2, f_X11_wanders_63 SM 0 (nI (luckN x % 8)) a2 Q (iI dy) (iI dx) (nI (sqG (uL L 9 3 (nI (luckN x))) (luckN x % 8))) h2 := by
        intro dx dy ex ey bx bY a2
        rw [ex, ey] at hq
        unfold f_X11_wanders_63
        refine sr_aside q1 bx bY ?_
        unfold stpL at hq
        rcases e : besN (sqG (uL L 9 3 (nI (luckN x))) (luckN x % 8)) dx dy with _ | t
        · rw [e] at hq
          exact aIf_t rfl (hq h2 s2 r2)
        · rw [e] at hq
          have ht := besN_lt e
          have hq : ∀ h', MS h h' → RepM h' (match (if uL L 9 3 (nI (luckN x)) 1 t = (-1) then some (uL (uL L 9 3 (nI (luckN x))) 7 (luckN x % 8) (nI t)) else none) with | some L' => L' | none => uL L 9 3 (nI (luckN x))) → Q h' := hq
          rw [enc_some]
          refine aIf_f (nI_neg1 (by omega)) ?_
          refine sr_isIce l2 r2 ht (fun c => aIf_f (by decide) ?_) (fun c => aIf_t rfl ?_)
          · rw [if_pos c] at hq
            rw [m_14 l2, mi_10, vp_lt (show luckN x % 8 < 8 by omega) (by decide), cl (by omega)]
            refine ⟨trivial, fun h3 e3 => hq h3 ?_ ?_⟩
            · rw [e3]; exact MS_tr s2 (MS_sA (by omega) (by omega) (by omega) (by omega))
            · rw [e3]; exact repM_sq r2
          · rw [if_neg c] at hq
            exact hq h2 s2 r2
      have dd : luckN x / 8 % 4 < 4 := by omega
      rcases lt4 dd with z | z | z | z
      · rw [z] at st ⊢
        exact aIf_t (by decide) (aIf_t (by decide) (aIf_f (fun y => y rfl) (st 0 1 rfl rfl (by omega) (by omega) _)))
      · rw [z] at st ⊢
        exact aIf_f (fun y => y rfl) (aIf_t (by decide) (aIf_t (by decide) (st 1 0 rfl rfl (by omega) (by omega) _)))
      · rw [z] at st ⊢
        exact aIf_t (by decide) (aIf_t (by decide) (aIf_t (by decide) (aIf_f (fun y => y rfl) (st 0 (-1) rfl rfl (by omega) (by omega) _))))
      · rw [z] at st ⊢
        exact aIf_t (by decide) (aIf_f (fun y => y rfl) (aIf_t (by decide) (aIf_t (by decide) (st (-1) 0 rfl rfl (by omega) (by omega) _))))
    · have no : ¬ (luckN x % 8 < gn ∧ ¬ L 7 (luckN x % 8) = (-2)) := fun z => z.2 (by rw [← u7]; exact Classical.not_not.mp h7)
      rw [if_neg no] at hq
      exact hq h2 s2 r2
  · have no : ¬ (luckN x % 8 < gn ∧ ¬ L 7 (luckN x % 8) = (-2)) := fun z => c (luckN x % 8) z.1 rfl
    rw [if_neg no] at hq
    exact aIf_t rfl (hq h2 s2 r2)
theorem drn_drift (hW : WF L hn gn) : drnL (driftL gn L) gn = drnL L gn := by
  have a : ∀ (v : Int32), drnL (uL L 9 3 v) gn = drnL L gn := fun v => sm_congr gn (fun g _ => by rw [uL_n (fun z => absurd z.1 (by decide))])
  unfold driftL
  split
  · rename_i c
    split
    · rename_i L' e
      obtain ⟨t, ht, e1, e2⟩ := stp_of e
      rw [e2, ← a (nI (luckN (L 9 3).toNatClampNeg))]
      refine sm_congr gn (fun g hg => ?_)
      by_cases z : g = luckN (L 9 3).toNatClampNeg % 8
      · rw [z, uL_s, if_neg (nI_neg2 (by omega)), if_neg]
        rw [uL_n (fun z => absurd z.1 (by decide))]
        exact c.2
      · rw [uL_n (fun y => z y.2)]
    · exact a _
  · exact a _
end Draw
def drwL (F : LF) (hn gn : Nat) (L : Lw) : Nat → Lw
  | 0 => L
  | n + 1 => minL F hn gn (driftL gn (drwL F hn gn L n))
theorem WF_drw {F : LF} {L : Lw} {hn gn : Nat} (hF : ∀ c most V, 0 ≤ most → 0 ≤ F c most V ∧ F c most V ≤ most) (hW : WF L hn gn) : ∀ n, WF (drwL F hn gn L n) hn gn := by
  intro n
  induction n with
  | zero => exact hW
  | succ n ih => exact WF_min hF (WF_drift ih)
theorem tele (a b c : Int32) : a - b + (c - a) = c - b := by
  obtain ⟨x, -, -, e1⟩ := iI_of a
  obtain ⟨y, -, -, e2⟩ := iI_of b
  obtain ⟨z, -, -, e3⟩ := iI_of c
  subst e1 e2 e3
  rw [iI_sub, iI_sub, iI_add, iI_sub]
  congr 1
  omega
/-- DRAW -/
theorem s_draw : st_draw (Inv LR) SC SM := by
  intro hc hm a1 hI
  obtain ⟨L, hn, gn, kp, LK, tn, tb, l, d, I⟩ := hI
  obtain ⟨i1, i2, i3, i4, i5, i6, i7, i8, i9, i10⟩ := id I
  have hk : isLake 1 := Or.inl rfl
  have hl := lay_isLaw i1
  obtain ⟨F, F1, F2⟩ := LR_F i1 i10
  have ran := LM_ran F2
  unfold f_X10_draw
  by_cases p : 1 ≤ a1 ∧ a1 ≤ 60
  rotate_left
  · refine wi_f p (aIf_f (fun z => z rfl) ?_)
    exact hr_f p (aIf_f (fun z => z rfl) ⟨rfl, Inv_same I⟩)
  refine wi_t p (aIf_t (by decide) ?_)
  obtain ⟨n, n1, n60, en⟩ := hr_n p
  subst en
  have key := up_loop (N := n) (P := fun w i => ∀ h', FX 1 hc h' → RepC h' 1 (drwL F hn gn L i) → f_X10_draw_16 SC 0 (nI n) (fun r hc' => f_X11_draw SM 0 (nI n) hm (fun r' hm' => r = r' ∧ Inv LR hc' hm')) w (drnL (drwL F hn gn L i) gn - drnL L gn) (nI i) h') ?_ ?_
  · have k0 := key hc FX_rf i3
    rw [show drnL (drwL F hn gn L 0) gn - drnL L gn = 0 from Int32.sub_self _] at k0
    exact ⟨n + 1, k0⟩
  · intro h1 f1 r1
    refine aIf_t (nI_le (Nat.le_refl _) (by omega)) ?_
    refine hr_t p (aIf_t (by decide) ?_)
    refine sr_drownedMany i2 i4 i5 ?_
    have key2 := up_loop (N := n) (P := fun w i => ∀ h', MS hm h' → LM h' F → RepM h' (drwL F hn gn L i) → f_X11_draw_16 SM 0 (nI n) (fun r' hm' => drnL (drwL F hn gn L n) gn - drnL L gn = r' ∧ Inv LR h1 hm') w (drnL L gn) (nI i) h') ?_ ?_
    · exact ⟨n + 1, key2 hm MS_rf F2 i4⟩
    · intro h' s' F' r'
      refine aIf_t (nI_le (Nat.le_refl _) (by omega)) ?_
      refine sr_drownedMany (LayM_2 s'.1 i2) r' (WF_drw ran i5 n) ⟨rfl, ?_⟩
      exact Inv_step LRok_LR I (CS_FX (Or.inl rfl) f1) s' r1 r' (WF_drw ran i5 n)
    · intro w i hi n1 h' s' F' r'
      refine aIf_f (nI_ge hi (by omega)) ?_
      have l' := LayM_2 s'.1 i2
      have w' := WF_drw ran i5 i
      refine sr_drift l' r' w' (fun h2 s2 r2 => ?_)
      have F2' : LM h2 F := LM_to (ML_of s2).2.1 (ML_of s2).2.2 F'
      refine sr_minuteOne (LayM_2 s2.1 l') r2 (WF_drift w') F2' (fun h3 f3 r3 => ?_)
      intro x ex
      rw [nI_1] at ex
      subst ex
      exact n1 h3 (MS_tr s' (MS_tr s2 (MS_MX f3))) (LM_MX f3 F2') r3
  · intro w i hi n1 h' f' r'
    have l' := LayC_2 f'.1 i1
    have w' := WF_drw ran i5 i
    refine aIf_f (nI_ge hi (by omega)) ?_
    rw [c_0_0 l', co_1]
    refine ⟨trivial, sp_drift hk l' r' w' (fun h2 f2 r2 => ?_)⟩
    have fa := FX_tr f' (FX_K f2)
    have l2 := LayC_2 fa.1 i1
    rw [c_0_5 l2, c_0_0 l2, co_42, co_1]
    refine ⟨trivial, trivial, ?_⟩
    show f_X5_pass SC 42 1 (nI 1) h2 _
    refine sp_pass hk l2 r2 (WF_drift w') (LC_FX hk hl fa F1) (by decide) (fun h3 f3 r3 => ?_)
    intro x ex y ey
    rw [nI_1] at ey
    rw [drn_drift w', tele] at ex
    subst ex ey
    exact n1 h3 (FX_tr fa f3) r3
