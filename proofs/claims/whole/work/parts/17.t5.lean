/-! ===== step: closing ===== -/
theorem pc_inj {A q r : Nat} (hq : A.testBit q = true) (hr : A.testBit r = true) (h : pcN A q = pcN A r) : q = r := by
  rcases Nat.lt_trichotomy q r with z | z | z
  · have := pc_mono (A := A) (x := q + 1) (y := r) z
    rw [pc_s hq] at this
    omega
  · exact z
  · have := pc_mono (A := A) (x := r + 1) (y := q) z
    rw [pc_s hr] at this
    omega
theorem pc_pos {A : Nat} : ∀ n i, i < pcN A n → ∃ q, q < n ∧ A.testBit q = true ∧ pcN A q = i := by
  intro n
  induction n with
  | zero => intro i h; exact absurd h (Nat.not_lt_zero _)
  | succ n ih =>
    intro i h
    by_cases b : A.testBit n = true
    · rw [pc_s b] at h
      rcases Nat.lt_or_ge i (pcN A n) with z | z
      · obtain ⟨q, a, c⟩ := ih i z
        exact ⟨q, by omega, c⟩
      · exact ⟨n, by omega, b, by omega⟩
    · rw [pc_n b] at h
      obtain ⟨q, a, c⟩ := ih i h
      exact ⟨q, by omega, c⟩
theorem pc_hn {A hn : Nat} (hh : hn ≤ 12) (hA : A < 2 ^ hn) : pcN A hn = pcN A 12 := by
  have : ∀ k, hn + k ≤ 12 → pcN A (hn + k) = pcN A hn := by
    intro k
    induction k with
    | zero => intro _; rfl
    | succ k ih =>
      intro h
      have b : ¬ A.testBit (hn + k) = true := by
        rw [Nat.testBit_lt_two_pow (Nat.lt_of_lt_of_le hA (Nat.pow_le_pow_right (by decide) (by omega)))]
        decide
      show pcN A (hn + k + 1) = _
      rw [pc_n b, ih (by omega)]
  have := this (12 - hn) (by omega)
  rw [show hn + (12 - hn) = 12 by omega] at this
  exact this.symm
def Rl (A S D : Nat) : Prop := D < 2 ^ 12 ∧ ∀ q, q < 12 → D.testBit q = (A.testBit q && S.testBit (pcN A q))
theorem Rl_or {A S D q : Nat} (h : Rl A S D) (hq : q < 12) (hb : A.testBit q = true) : Rl A (S ||| 2 ^ pcN A q) (D ||| 2 ^ q) := by
  refine ⟨or_lt h.1 hq, fun r hr => ?_⟩
  rw [or_bit, or_bit, h.2 r hr]
  by_cases e : q = r
  · subst e
    rw [decide_eq_true rfl, decide_eq_true rfl, hb, Bool.or_true, Bool.or_true]
    rfl
  · rw [decide_eq_false e, Bool.or_false]
    cases b : A.testBit r with
    | false => rfl
    | true => rw [decide_eq_false (fun z => e (pc_inj hb b z)), Bool.or_false]
section ClX
variable {F : LF} {L : Lw} {hn gn : Nat} {load : Int32} {A t : Nat} {PH TK UN LS T UR T' : Nat → Nat}
theorem Rl_time (hW : WF L hn gn) (hK : Lnk F L load A 12 PH TK UN LS) {S D : Nat} (h : Rl A S D) : ∀ n, n ≤ 12 → tmN (kH L) D n = tmN TK S (pcN A n) := by
  intro n
  induction n with
  | zero => intro _; rfl
  | succ n ih =>
    intro hn1
    show tmN (kH L) D n + (if D.testBit n = true then kH L n else 0) = _
    rw [ih (by omega), h.2 n (by omega)]
    cases b : A.testBit n with
    | true =>
      rw [pc_s b, Bool.true_and]
      show _ = tmN TK S (pcN A n) + if S.testBit (pcN A n) = true then TK (pcN A n) else 0
      rw [(hK.2.2.2 n (by omega) b).2.1, (kH_eq hW (show n < 12 by omega)).1]
    | false =>
      rw [pc_n (by rw [b]; decide), Bool.false_and, if_neg (by decide), Nat.add_zero]
theorem Rl_sub (h12 : A < 2 ^ 12) {S D : Nat} (h : Rl A S D) : dfN D A = 0 := by
  refine (sub_iff h.1).mpr (fun i hi => ?_)
  rcases Nat.lt_or_ge i 12 with z | z
  · rw [h.2 i z] at hi
    cases b : A.testBit i with
    | true => rfl
    | false => rw [b, Bool.false_and] at hi; exact absurd hi (by decide)
  · rw [tb_lt h.1 z] at hi
    exact absurd hi (by decide)
/-- a candidate costs the same on both sides -/
theorem Rl_cost (hW : WF L hn gn) (hA : A < 2 ^ 12) (hAh : A < 2 ^ hn) (et : t = pcN A 12) (hK : Lnk F L load A 12 PH TK UN LS) (hU : ∀ q, q < hn → A.testBit q = true → SndP F L (sqH L q) load (UR q)) {S D q : Nat} (h : Rl A S D) (hq : q < 12) (hb : A.testBit q = true) (hS : ¬ S.testBit (pcN A q) = true) (e : T (S ||| 2 ^ pcN A q) = T' (D ||| 2 ^ q)) : crN (kH L) UR (lH L) T' hn D q = ctN TK UN LS T t S (pcN A q) := by
  have hhn := hW.1
  have ph := pc_hn hhn hAh
  have qh : q < hn := by
    rcases Nat.lt_or_ge q hn with z | z
    · exact z
    · rw [Nat.testBit_lt_two_pow (Nat.lt_of_lt_of_le hAh (Nat.pow_le_pow_right (by decide) z))] at hb
      exact absurd hb (by decide)
  have lt : pcN A q < t := by
    have := pc_mono (A := A) (x := q + 1) (y := 12) hq
    rw [pc_s hb] at this
    omega
  obtain ⟨k1, k2, k3, k4⟩ := hK.2.2.2 q hq hb
  have eu := Snd_u k4 (hU q qh hb)
  have tm := Rl_time hW hK (Rl_or h hq hb) hn hhn
  rw [ph, ← et, tm_or hS t lt] at tm
  unfold crN ctN
  rw [tm, eu, ← e, k3, (kH_eq hW hq).2]
  omega
theorem Rl_eq (hW : WF L hn gn) (hA : A < 2 ^ 12) (hAh : A < 2 ^ hn) (et : t = pcN A 12) (hK : Lnk F L load A 12 PH TK UN LS) (hU : ∀ q, q < hn → A.testBit q = true → SndP F L (sqH L q) load (UR q)) (t0 : T (2 ^ t - 1) = 0) (hR : ∀ S, S < 2 ^ t - 1 → mfO TK UN LS T t S t = some (T S)) (a0 : T' A = 0) (hR' : ∀ D, D < A → dfN D A = 0 → mfR (kH L) UR (lH L) T' hn A D hn = some (T' D)) : ∀ k S D, S + k = 2 ^ t - 1 → Rl A S D → T S = T' D := by
  have hhn := hW.1
  have ph := pc_hn hhn hAh
  have tp : 0 < 2 ^ t := Nat.two_pow_pos t
  intro k
  induction k using Nat.strongRecOn with
  | ind k ih =>
    intro S D hk h
    have hS : S < 2 ^ t := by omega
    have hsub := Rl_sub hA h
    by_cases z : k = 0
    · have eS : S = 2 ^ t - 1 := by omega
      have eD : D = A := by
        apply Nat.eq_of_testBit_eq
        intro i
        rcases Nat.lt_or_ge i 12 with y | y
        · rw [h.2 i y]
          cases b : A.testBit i with
          | false => rfl
          | true =>
            have := pc_mono (A := A) (x := i + 1) (y := 12) y
            rw [pc_s b] at this
            rw [eS, Nat.testBit_two_pow_sub_one, decide_eq_true (by omega)]
            rfl
        · rw [tb_lt h.1 y, tb_lt hA y]
      rw [eS, eD, t0, a0]
    · have lt : S < 2 ^ t - 1 := by omega
      have neq : ∀ q, q < 12 → A.testBit q = true → ¬ S.testBit (pcN A q) = true → T (S ||| 2 ^ pcN A q) = T' (D ||| 2 ^ q) := by
        intro q hq hb hs
        have lt2 : pcN A q < t := by
          have := pc_mono (A := A) (x := q + 1) (y := 12) hq
          rw [pc_s hb] at this
          omega
        have g1 := or_gt hs
        have g2 := or_lt hS lt2
        exact ih (2 ^ t - 1 - (S ||| 2 ^ pcN A q)) (by omega) _ _ (by omega) (Rl_or h hq hb)
      have both : ∀ n, n ≤ 12 → mfR (kH L) UR (lH L) T' hn A D n = mfO TK UN LS T t S (pcN A n) := by
        intro n
        induction n with
        | zero => intro _; rfl
        | succ n ihn =>
          intro hn1
          unfold mfR
          by_cases b : A.testBit n = true
          · rw [pc_s b]
            unfold mfO
            have dn := h.2 n (by omega)
            rw [b, Bool.true_and] at dn
            by_cases s : S.testBit (pcN A n) = true
            · rw [if_pos s, if_neg (fun y => ((df_t hA).mp y).2 (by rw [dn]; exact s))]
              exact ihn (by omega)
            · rw [if_neg s, if_pos ((df_t hA).mpr ⟨b, by rw [dn]; exact s⟩), ihn (by omega), Rl_cost hW hA hAh et hK hU h (by omega) b s (neq n (by omega) b s)]
          · rw [pc_n b, if_neg (fun y => b ((df_t hA).mp y).1)]
            exact ihn (by omega)
      have e1 := hR S lt
      have dl : D < A := by
        refine Nat.lt_of_le_of_ne (sub_le h.1 hsub) (fun e => ?_)
        obtain ⟨i, a, b⟩ := all_bit lt
        obtain ⟨q, c1, c2, c3⟩ := pc_pos (A := A) 12 i (by omega)
        have dn := h.2 q c1
        rw [c2, Bool.true_and, c3, e, c2] at dn
        exact b dn.symm
      have e2 := hR' D dl hsub
      rw [both hn hhn, ph, ← et, e1] at e2
      exact Option.some.inj e2
end ClX
section ClY
variable {h : aH} {L : Lw} {hn gn : Nat} {F : LF}
theorem sr_close58 (hL : LayM h) (hM : RepM h L) (hW : WF L hn gn) (hF : LM h F) {A : Nat} (hA : A < 2 ^ 12) (hAh : A < 2 ^ hn) {load a3 : Int32} {Q : Int32 → aH → Prop} (h1 : ∀ (h' : aH) (UR : Nat → Nat), MS h h' → RepM h' L → (∀ q, UR q ≤ 60) → (∀ q, q < hn → A.testBit q = true → gA h' 37 q = nI (UR q) ∧ SndP F L (sqH L q) load (UR q)) → (∀ q, q < 12 → A.testBit q = true → opn L q) → ∃ m, f_X11_closing_114 SM 0 (nI A) load a3 Q m (nI A) h') (h0 : ∀ h', MS h h' → RepM h' L → ¬ (∀ q, q < 12 → A.testBit q = true → opn L q) → Q (-2) h') : ∃ m, f_X11_closing_58 SM 0 (nI A) load a3 Q m 0 h := by
  have hhn := hW.1
  have key := up_loop (N := hn) (P := fun w x => ∀ (h' : aH) (UR : Nat → Nat), MS h h' → RepM h' L → LM h' F → (∀ q, UR q ≤ 60) → (∀ q, q < x → A.testBit q = true → opn L q ∧ gA h' 37 q = nI (UR q) ∧ SndP F L (sqH L q) load (UR q)) → f_X11_closing_58 SM 0 (nI A) load a3 Q w (nI x) h') ?_ ?_
  · exact ⟨hn + 1, key h (fun _ => 0) MS_rf hM hF (fun _ => Nat.zero_le _) (fun q hq => absurd hq (Nat.not_lt_zero _))⟩
  · intro h' UR s' r' _ b' c' v ev
    rw [r'.2.2.2.1.trans hW.2.2.1] at ev
    subst ev
    refine aIf_t (nI_le (Nat.le_refl _) (by omega)) (h1 h' UR s' r' b' (fun q hq hb => (c' q hq hb).2) (fun q hq hb => ?_))
    rcases Nat.lt_or_ge q hn with z | z
    · exact (c' q z hb).1
    · rw [Nat.testBit_lt_two_pow (Nat.lt_of_lt_of_le hAh (Nat.pow_le_pow_right (by decide) z))] at hb
      exact absurd hb (by decide)
  · intro w x hx n1 h' UR s' r' F' b' c' v ev
    have l' := LayM_2 s'.1 hL
    rw [r'.2.2.2.1.trans hW.2.2.1] at ev
    subst ev
    refine aIf_f (nI_ge hx (by omega)) ?_
    refine sr_has (by omega) (by omega) (fun b => aIf_t (by decide) ?_) (fun b => aIf_f (fun z => z rfl) (fun y ey => ?_))
    · refine sr_isOpenN l' r' hW hx (fun o => aIf_t (by decide) ?_) (fun o => aIf_f (fun z => z rfl) (h0 h' s' r' (fun z => o (z x (by omega) b))))
      obtain ⟨-, -, -, -, q5, q6⟩ := hole_of hW (show x < 12 by omega)
      have o1 : L 1 (sqH L x) = nI x := o
      refine sr_soundFor l' r' hW F' (show x < 12 by omega) q6 q5 (by rw [o1]; exact nI_neg1 (by omega)) (fun r h2 sp s2 F2 t2 r2 => ?_)
      have l2 := LayM_2 s2.1 l'
      rw [m_56 l', mi_37, vp_lt (show x < 12 by omega) (by decide), cl (by omega)]
      refine ⟨trivial, fun h3 e3 y ey => ?_⟩
      rw [nI_1] at ey
      subst ey e3
      refine n1 _ (fun q => if q = x then r else UR q) (MS_tr s' (MS_tr s2 (MS_sA (by omega) (by omega) (by omega) (by omega)))) (RepM_gA (fun c i _ _ => gA_o (by omega)) (fun j _ _ => rfl) r2) (LM_to (fun c hc i => gA_o (by omega)) rfl F2) (fun q => ?_) (fun q hq hb => ?_)
      · show (if q = x then r else UR q) ≤ 60
        split
        · exact sp.1
        · exact b' q
      · show opn L q ∧ gA _ 37 q = nI (if q = x then r else UR q) ∧ SndP F L (sqH L q) load (if q = x then r else UR q)
        by_cases z : q = x
        · rw [if_pos z, z, gA_e]
          exact ⟨o, rfl, sp⟩
        · rw [if_neg z, gA_p z, t2 37 q (by decide)]
          exact c' q (by omega) hb
    · rw [nI_1] at ey
      subst ey
      refine n1 h' UR s' r' F' b' (fun q hq hb => ?_)
      rcases Nat.lt_or_ge q x with z | z
      · exact c' q z hb
      · rw [show q = x by omega] at hb
        exact absurd hb b
end ClY
set_option maxHeartbeats 2000000 in
/-- CLOSING -/
theorem s_closing : st_closing (Inv LR) SC SM := by
  intro hc hm a1 a2 a3 hI
  obtain ⟨L, hn, gn, kp, LK, tn, tb, l, d, I⟩ := hI
  obtain ⟨i1, i2, i3, i4, i5, i6, i7, i8, i9, i10⟩ := id I
  have hk : isLake 1 := Or.inl rfl
  have hhn := i5.1
  obtain ⟨F, F1, F2⟩ := LR_F i1 i10
  have e9 : gI hc 1 9 = nI hn := i3.2.2.2.1.trans i5.2.2.1
  have e2 : gI hm 0 2 = nI hn := i4.2.2.2.1.trans i5.2.2.1
  have ph12 : 2 ^ hn ≤ 2 ^ 12 := Nat.pow_le_pow_right (by decide) hhn
  have ph12 : 2 ^ hn ≤ 4096 := ph12
  have php : 0 < 2 ^ hn := Nat.two_pow_pos hn
  have em : nI (2 ^ hn) - 1 = nI (2 ^ hn - 1) := by
    obtain ⟨m, hm⟩ : ∃ m, 2 ^ hn = m + 1 := ⟨2 ^ hn - 1, by omega⟩
    rw [hm]
    exact nI_pred _
  have rbad : ∀ Q : Int32 → aH → Prop, ¬ (1 ≤ a1 ∧ a1 ≤ nI (2 ^ hn - 1)) → Q (-3) hm → f_X11_closing SM 0 a1 a2 a3 hm Q := by
    intro Q p hq v ev
    rw [e2] at ev
    subst ev
    rw [sh1 (by omega), em]
    exact li_f (b := 1) (c := nI (2 ^ hn - 1)) p (aIf_t rfl hq)
  unfold f_X10_closing
  refine sp_bitCount ?_
  refine aIf_i (fun c => rbad _ (fun z => absurd c (Int32.not_lt.mpr (Int32.le_trans (by decide) z.1))) ⟨rfl, Inv_same I⟩) (fun c => ?_)
  obtain ⟨A, hA31, eA⟩ := nI_of c
  subst eA
  rw [c_0_0 i1, co_1, e9]
  refine ⟨trivial, fun v ev => ?_⟩
  subst ev
  have esh : nI A >>> (nI hn &&& 31) = nI (A / 2 ^ hn) := pk_shrN hA31 _ hn (sh_am hn (by omega))
  rw [esh]
  have dz : nI (A / 2 ^ hn) = 0 ↔ A < 2 ^ hn := by
    have lt : A / 2 ^ hn < 2 ^ 31 := Nat.lt_of_le_of_lt (Nat.div_le_self _ _) hA31
    rw [show (0 : Int32) = nI 0 from rfl, nI_eq lt (by decide)]
    exact Nat.div_eq_zero_iff_lt php
  refine aIf_i (fun c2 => rbad _ (fun z => c2 (dz.mpr ?_)) ⟨rfl, Inv_same I⟩) (fun c2 => ?_)
  · have := (nI_leI hA31 (by omega)).mp z.2
    omega
  have hAh := dz.mp (Classical.not_not.mp c2)
  have hA : A < 2 ^ 12 := by omega
  have hA' : A < 4096 := hA
  have pcl := pc_le A 12
  rw [bc_pc A hA']
  by_cases p1 : 1 ≤ nI (pcN A 12) ∧ nI (pcN A 12) ≤ 8
  rotate_left
  · refine wi_f p1 (aIf_t rfl ?_)
    by_cases z : A = 0
    · refine rbad _ (fun y => ?_) ⟨rfl, Inv_same I⟩
      rw [z] at y
      exact absurd y.1 (by decide)
    · have pz : pcN A 12 ≠ 0 := fun y => z (pc_z A hA' y)
      intro v ev
      rw [e2] at ev
      subst ev
      rw [sh1 (by omega), em]
      refine li_t (b := 1) (c := nI (2 ^ hn - 1)) ⟨nI_le (a := 1) (by omega) (by omega), nI_le (by omega) (by omega)⟩ (aIf_f (by decide) ?_)
      refine sr_sizeOf hA' ?_
      refine aIf_t ?_ ⟨rfl, Inv_same I⟩
      refine (nI_ltI (a := 8) (by decide) (by omega)).mpr ?_
      rcases Nat.lt_or_ge 8 (pcN A 12) with y | y
      · exact y
      · exact absurd ⟨nI_le (a := 1) (by omega) (by omega), nI_le (b := 8) y (by decide)⟩ p1
  refine wi_t p1 (aIf_f (by decide) ?_)
  have t1 : 1 ≤ pcN A 12 := (nI_leI (a := 1) (by decide) (by omega)).mp p1.1
  have t8 : pcN A 12 ≤ 8 := (nI_leI (b := 8) (by omega) (by decide)).mp p1.2
  have A1 : A ≠ 0 := fun z => by
    rw [z] at t1
    exact absurd t1 (by decide)
  have load : ∀ Q : Int32 → aH → Prop, (0 ≤ a2 ∧ a2 ≤ 9999 → Q 1 hm) → (¬ (0 ≤ a2 ∧ a2 ≤ 9999) → Q 0 hm) → f_X11_isLoad SM a2 hm Q := by
    intro Q q1 q0
    show f_X11_lies SM a2.toInt64 (Int32.toInt64 0) (Int32.toInt64 9999) hm _
    exact sp_lies (fun x y => ⟨aB1, q1 ⟨x, y⟩⟩) (fun z => ⟨aB0, q0 z⟩)
  have pre : ∀ Q : Int32 → aH → Prop, f_X11_isLoad SM a2 hm (fun r65 h64 => aIf (r65 = 0) (Q (-3) h64) (f_X11_sizeOf SM (nI A) h64 (fun r68 h67 => f_X11_lies SM (a3).toInt64 (-1) ((r68 - 1)).toInt64 h67 (fun r70 h69 => aIf (¬ r70 = 0) (∃ m58, f_X11_closing_58 SM 0 (nI A) a2 a3 Q m58 0 h69) (Q (-3) h69))))) → f_X11_closing SM 0 (nI A) a2 a3 hm Q := by
    intro Q hq v ev
    rw [e2] at ev
    subst ev
    rw [sh1 (by omega), em]
    refine li_t (b := 1) (c := nI (2 ^ hn - 1)) ⟨nI_le (a := 1) (by omega) (by omega), nI_le (by omega) (by omega)⟩ (aIf_f (by decide) ?_)
    refine sr_sizeOf hA' ?_
    exact aIf_f (fun z => absurd ((nI_ltI (a := 8) (by decide) (by omega)).mp z) (by omega)) hq
  by_cases p2 : 0 ≤ a2 ∧ a2 ≤ 9999
  rotate_left
  · refine wi_f p2 (aIf_t rfl (pre _ ?_))
    exact load _ (fun z => absurd z p2) (fun _ => aIf_t rfl ⟨rfl, Inv_same I⟩)
  refine wi_t p2 (aIf_f (by decide) ?_)
  have m1 : nI (pcN A 12) - 1 = iI ((pcN A 12 : Int) - 1) := iI_sub (pcN A 12) 1
  have wh : (-1) ≤ a3 ∧ a3 ≤ nI (pcN A 12) - 1 ↔ ¬ a3 < (-1) ∧ a3 < nI (pcN A 12) := by
    obtain ⟨z, z1, z2, ez⟩ := iI_of a3
    subst ez
    rw [m1, show (-1 : Int32) = iI (-1) from rfl, ← iI_nat, iI_le (by omega) (by omega) (by omega) (by omega), iI_le (by omega) (by omega) (by omega) (by omega), iI_lt (by omega) (by omega) (by omega) (by omega), iI_lt (by omega) (by omega) (by omega) (by omega)]
    omega
  have lo : ∀ Q : Int32 → aH → Prop, ((-1) ≤ a3 ∧ a3 ≤ nI (pcN A 12) - 1 → Q 1 hm) → (¬ ((-1) ≤ a3 ∧ a3 ≤ nI (pcN A 12) - 1) → Q 0 hm) → f_X11_lies SM (a3).toInt64 (-1) ((nI (pcN A 12) - 1)).toInt64 hm Q := by
    intro Q q1 q0
    show f_X11_lies SM a3.toInt64 (Int32.toInt64 (-1)) _ hm _
    exact sp_lies (fun x y => q1 ⟨x, y⟩) (fun z => q0 z)
  have pre2 : ∀ Q : Int32 → aH → Prop, ((-1) ≤ a3 ∧ a3 ≤ nI (pcN A 12) - 1 → ∃ m58, f_X11_closing_58 SM 0 (nI A) a2 a3 Q m58 0 hm) → (¬ ((-1) ≤ a3 ∧ a3 ≤ nI (pcN A 12) - 1) → Q (-3) hm) → f_X11_closing SM 0 (nI A) a2 a3 hm Q := by
    intro Q q1 q0
    refine pre Q (load _ (fun _ => aIf_f (by decide) ?_) (fun z => absurd p2 z))
    refine sr_sizeOf hA' ?_
    exact lo _ (fun z => aIf_t (by decide) (q1 z)) (fun z => aIf_f (fun y => y rfl) (q0 z))
  by_cases p3 : (-1) ≤ a3 ∧ a3 ≤ nI (pcN A 12) - 1
  rotate_left
  · refine aIf_i (fun c => pre2 _ (fun z => absurd z p3) (fun _ => ⟨rfl, Inv_same I⟩)) (fun c => aIf_i (fun c2 => absurd (wh.mpr ⟨c, c2⟩) p3) (fun c2 => pre2 _ (fun z => absurd z p3) (fun _ => ⟨rfl, Inv_same I⟩)))
  refine aIf_f (wh.mp p3).1 (aIf_t (wh.mp p3).2 ?_)
  obtain ⟨w, ew, hw⟩ : ∃ w : Option Nat, a3 = enc w ∧ ∀ x, w = some x → x < pcN A 12 := by
    obtain ⟨z, z1, z2, ez⟩ := iI_of a3
    subst ez
    rw [m1, show (-1 : Int32) = iI (-1) from rfl, iI_le (by omega) (by omega) (by omega) (by omega), iI_le (by omega) (by omega) (by omega) (by omega)] at p3
    by_cases y : z = -1
    · subst y
      exact ⟨none, rfl, fun x ex => by cases ex⟩
    · refine ⟨some z.toNat, ?_, fun x ex => by cases ex; omega⟩
      rw [enc_some, ← iI_nat]
      congr 1
      omega
  rw [c_0_0 i1, co_1]
  refine ⟨trivial, sp_allOpen hk i1 i3 i5 hA hAh (fun op => ?_) (fun op => ?_)⟩
  rotate_left
  · refine aIf_f (fun z => z rfl) (pre2 _ (fun _ => ?_) (fun z => absurd p3 z))
    exact sr_close58 i2 i4 i5 F2 hA hAh (fun h' UR s' r' _ _ o => absurd o op) (fun h' s' r' _ => ⟨rfl, Inv_step LRok_LR I CS_rf s' i3 r' i5⟩)
  refine aIf_t (by decide) ?_
  rw [c_0_8 i1, c_0_0 i1, c_0_5 i1, co_66, co_1, co_42]
  refine ⟨trivial, trivial, trivial, sp_solve i1 i3 i5 F1 hA t1 t8 (fun h1 PH TK UN LS T f1 c1 k1 => ?_)⟩
  have l1 := LayC_2 f1.1 i1
  obtain ⟨cl1, -, r1, r2, r3⟩ := id c1
  have hR : ∀ S, S < 2 ^ pcN A 12 - 1 → mfO TK UN LS T (pcN A 12) S (pcN A 12) = some (T S) := fun S hS => r3 S (Nat.zero_le _) hS
  have p8 : 2 ^ pcN A 12 ≤ 2 ^ 8 := Nat.pow_le_pow_right (by decide) t8
  have p8 : 2 ^ pcN A 12 ≤ 256 := p8
  have p1' : 0 < 2 ^ pcN A 12 := Nat.two_pow_pos _
  -- the reference up to its table
  have run : ∀ Q : Int32 → aH → Prop, (∀ (g' g'' : aH) (UR T' : Nat → Nat), MS hm g' → FrA (fun c => c = 38) g' g'' → RepM g'' L → (∀ q, UR q ≤ 60) → (∀ q, q < hn → A.testBit q = true → gA g'' 37 q = nI (UR q) ∧ SndP F L (sqH L q) a2 (UR q)) → RTR g'' (kH L) UR (lH L) T' hn A 0 → aIf (¬ a3 = (-1)) (∃ m243, f_X11_closing_243 SM 0 (nI A) a2 a3 Q m243 0 0 0 g'') (aIn SM 0 (gR g'' 0 57) 0 ∧ ∀ v35 : Int32, v35 = (gA g'' (gR g'' 0 57) ((0 : Int32)).toNatClampNeg) → Q v35 g'')) → f_X11_closing SM 0 (nI A) a2 a3 hm Q := by
    intro Q hq
    refine pre2 Q (fun _ => ?_) (fun z => absurd p3 z)
    refine sr_close58 i2 i4 i5 F2 hA hAh (fun g' UR s' r' bu cu o => ?_) (fun h' s' r' z => absurd op z)
    refine sr_table (LayM_2 s'.1 i2) r' i5 bu hA hAh (fun q hq hb => (cu q hq hb).1) (fun g'' T' f' rt => ?_)
    exact hq g' g'' UR T' s' f' (RepM_gA (fun c i _ _ => f'.1 c i (by omega)) (fun j _ _ => gI_fr f' 0 j) r') bu (fun q hq hb => by rw [f'.1 _ _ (by decide)]; exact cu q hq hb) rt
  have fin : ∀ g' g'', MS hm g' → FrA (fun c => c = 38) g' g'' → RepM g'' L → Inv LR h1 g'' := by
    intro g' g'' s' f' r'
    have ms : MS g' g'' := ⟨by rw [f'.2], fun c hc i => f'.1 c i (by omega), fun c hc i _ => f'.1 c i (by omega), fun i _ => f'.1 _ i (by omega), fun i _ => f'.1 _ i (by omega), fun j hj => gI_fr f' 0 j⟩
    exact Inv_step LRok_LR I (CS_ClF f1) (MS_tr s' ms) (RepC_ClF f1 i3) r' i5
  have eqs : ∀ (UR T' : Nat → Nat) (g : aH), (∀ q, q < hn → A.testBit q = true → gA g 37 q = nI (UR q) ∧ SndP F L (sqH L q) a2 (UR q)) → RTR g (kH L) UR (lH L) T' hn A 0 → ∀ S D, S < 2 ^ pcN A 12 → Rl A S D → T S = T' D := by
    intro UR T' g cu rt S D hS rl
    exact Rl_eq i5 hA hAh rfl k1 (fun q hq hb => (cu q hq hb).2) r2 hR (rt.2.1 (Nat.zero_le _)) (fun D hD hs => rt.2.2 D (Nat.zero_le _) hD hs) (2 ^ pcN A 12 - 1 - S) S D (by omega) rl
  have rl0 : Rl A 0 0 := ⟨by decide, fun q hq => by rw [Nat.zero_testBit, Nat.zero_testBit, Bool.and_false]⟩
  have sub0 : dfN 0 A = 0 := (sub_iff (by decide)).mpr (fun i hi => by rw [Nat.zero_testBit] at hi; exact absurd hi (by decide))
  rw [c_0_8 l1, co_66]
  refine aIf_i (fun ne => ?_) (fun ne => ?_)
  · rcases w with _ | p
    · exact absurd (by rw [ew]; rfl) ne
    have hp := hw p rfl
    rw [enc_some] at ew
    subst ew
    refine ⟨trivial, sp_holeAt l1 c1 t8 k1.1 k1.2.1 k1.2.2.1 hp ?_⟩
    refine run _ (fun g' g'' UR T' s' f' r' bu cu rt => aIf_t ne ?_)
    have lg : LayM g'' := LayM_A f' (LayM_2 s'.1 i2)
    have EQ := eqs UR T' g'' cu rt
    -- one step of the reference's way
    have step : ∀ (m q D : Nat) (x5 : Int32), q ≤ p → Rl A (stN TK UN LS T (pcN A 12) q) D → (∀ D', Rl A (stN TK UN LS T (pcN A 12) (q + 1)) D' → f_X11_closing_243 SM 0 (nI A) a2 (nI p) (fun r' hm' => nI (PH (nxN TK UN LS T (pcN A 12) (stN TK UN LS T (pcN A 12) p))) = r' ∧ Inv LR h1 hm') m (nI D') (nI (PH (nxN TK UN LS T (pcN A 12) (stN TK UN LS T (pcN A 12) q)))) (nI (q + 1)) g'') → f_X11_closing_243 SM 0 (nI A) a2 (nI p) (fun r' hm' => nI (PH (nxN TK UN LS T (pcN A 12) (stN TK UN LS T (pcN A 12) p))) = r' ∧ Inv LR h1 hm') (m + 1) (nI D) x5 (nI q) g'' := by
      intro m q D x5 hq rl hnx
      have D12 := rl.1
      have hsub := Rl_sub hA rl
      have lS := st_ne hR t8 (show q < pcN A 12 by omega)
      obtain ⟨n1, n2, n3, n4⟩ := nx_lt hR lS
      obtain ⟨q0, c1', c2', c3'⟩ := pc_pos (A := A) 12 _ n1
      have TD := EQ _ D (by omega) rl
      obtain ⟨g38, bT⟩ := rt.1 D (Nat.zero_le _) (sub_le D12 hsub) hsub
      have cnd : ∀ r, r < 12 → A.testBit r = true → ¬ (stN TK UN LS T (pcN A 12) q).testBit (pcN A r) = true → crN (kH L) UR (lH L) T' hn D r = ctN TK UN LS T (pcN A 12) (stN TK UN LS T (pcN A 12) q) (pcN A r) := by
        intro r hr hb hs
        have lt2 : pcN A r < pcN A 12 := by
          have := pc_mono (A := A) (x := r + 1) (y := 12) hr
          rw [pc_s hb] at this
          omega
        exact Rl_cost i5 hA hAh rfl k1 (fun q hq hb => (cu q hq hb).2) rl hr hb hs (EQ _ _ (or_lt (by omega) lt2) (Rl_or rl hr hb))
      have q0h : q0 < hn := by
        rcases Nat.lt_or_ge q0 hn with z | z
        · exact z
        · rw [Nat.testBit_lt_two_pow (Nat.lt_of_lt_of_le hAh (Nat.pow_le_pow_right (by decide) z))] at c2'
          exact absurd c2' (by decide)
      have dbit : ∀ r, r < 12 → A.testBit r = true → D.testBit r = (stN TK UN LS T (pcN A 12) q).testBit (pcN A r) := fun r hr hb => by rw [rl.2 r hr, hb, Bool.true_and]
      refine aIf_f (fun z => absurd ((nI_ltI (by omega) (by omega)).mp z) (by omega)) ?_
      have key : ∀ w x, x + w = q0 → f_X11_closing_252 SM 0 (nI A) a2 (nI p) (fun r' hm' => nI (PH (nxN TK UN LS T (pcN A 12) (stN TK UN LS T (pcN A 12) p))) = r' ∧ Inv LR h1 hm') (f_X11_closing_243 SM 0 (nI A) a2 (nI p) (fun r' hm' => nI (PH (nxN TK UN LS T (pcN A 12) (stN TK UN LS T (pcN A 12) p))) = r' ∧ Inv LR h1 hm') m) (w + 1) (nI D) (nI x) (nI q) g'' := by
        have dl2 := df_lt (D := D) hA
        intro w
        induction w with
        | zero =>
          intro x hx
          have ex0 : x = q0 := by omega
          subst ex0
          unfold f_X11_closing_252
          rw [nI_df hA D12]
          have ns : ¬ (stN TK UN LS T (pcN A 12) q).testBit (pcN A x) = true := by rw [c3']; exact n2
          have bit : (dfN A D).testBit x = true := (df_t hA).mpr ⟨c2', by rw [dbit x c1' c2']; exact ns⟩
          obtain ⟨a1', a2', a3'⟩ := sub_or D12 hA hsub bit
          have g1 := sub_le a3' a1'
          refine sr_has (by omega) (by omega) (fun b => aIf_f (by decide) ?_) (fun b => absurd bit b)
          refine sr_costBy lg r' i5 bu D12 q0h (cu x q0h c2').1 (rt.1 _ (Nat.zero_le _) g1 a1').1 ?_
          rw [m_57 lg, mi_38, vp_lt (show D < 4096 by omega) (by decide), cl (by omega), g38, cnd x c1' c2' ns, c3', n3, TD]
          refine ⟨trivial, fun v ev => ?_⟩
          subst ev
          refine aIf_t rfl (fun x4 e4 x6 e6 => ?_)
          have hp2 : 2 ^ x < 2 ^ 31 := Nat.pow_lt_pow_right (by decide) (by omega)
          rw [sh1 (by omega), nI_or (by omega) hp2] at e4
          rw [nI_1] at e6
          subst e4 e6
          have := hnx (D ||| 2 ^ x) (by
            show Rl A (stN TK UN LS T (pcN A 12) q ||| 2 ^ nxN TK UN LS T (pcN A 12) (stN TK UN LS T (pcN A 12) q)) (D ||| 2 ^ x)
            rw [← c3']
            exact Rl_or rl c1' c2')
          rw [← c3', (k1.2.2.2 x c1' c2').1] at this
          exact this
        | succ w ih =>
          intro x hx
          unfold f_X11_closing_252
          rw [nI_df hA D12]
          have nx := ih (x + 1) (by omega)
          refine sr_has (by omega) (by omega) (fun b => aIf_f (by decide) ?_) (fun b => aIf_t rfl (fun y ey => by rw [nI_1] at ey; subst ey; exact nx))
          obtain ⟨bA, bD⟩ := (df_t hA).mp b
          have ns : ¬ (stN TK UN LS T (pcN A 12) q).testBit (pcN A x) = true := by rw [← dbit x (by omega) bA]; exact bD
          obtain ⟨a1', a2', a3'⟩ := sub_or D12 hA hsub b
          have g1 := sub_le a3' a1'
          obtain ⟨g38', bT'⟩ := rt.1 _ (Nat.zero_le _) g1 a1'
          refine sr_costBy lg r' i5 bu D12 (by omega) (cu x (by omega) bA).1 g38' ?_
          rw [m_57 lg, mi_38, vp_lt (show D < 4096 by omega) (by decide), cl (by omega), g38]
          refine ⟨trivial, fun v ev => ?_⟩
          subst ev
          have li : pcN A x < nxN TK UN LS T (pcN A 12) (stN TK UN LS T (pcN A 12) q) := by
            have := pc_mono (A := A) (x := x + 1) (y := q0) (by omega)
            rw [pc_s bA] at this
            omega
          have nc := (n4 _ li).resolve_left ns
          rw [← cnd x (by omega) bA ns, TD] at nc
          have bc : crN (kH L) UR (lH L) T' hn D x < 2 ^ 31 := by
            have : lH L x ≤ 55 := Nat.min_le_left _ _
            unfold crN
            split <;> omega
          exact aIf_f (fun z => nc ((nI_eq bc (by omega)).mp z)) (fun y ey => by rw [nI_1] at ey; subst ey; exact nx)
      exact ⟨q0 + 1, key q0 0 (by omega)⟩
    have way : ∀ w q D (x5 : Int32), q + w = p → Rl A (stN TK UN LS T (pcN A 12) q) D → f_X11_closing_243 SM 0 (nI A) a2 (nI p) (fun r' hm' => nI (PH (nxN TK UN LS T (pcN A 12) (stN TK UN LS T (pcN A 12) p))) = r' ∧ Inv LR h1 hm') (w + 2) (nI D) x5 (nI q) g'' := by
      intro w
      induction w with
      | zero =>
        intro q D x5 hq rl
        refine step 1 q D x5 (by omega) rl (fun D' rl' => ?_)
        have e : q = p := by omega
        subst e
        exact aIf_t ((nI_ltI (by omega) (by omega)).mpr (by omega)) ⟨rfl, fin g' g'' s' f' r'⟩
      | succ w ih =>
        intro q D x5 hq rl
        exact step (w + 2) q D x5 (by omega) rl (fun D' rl' => ih (q + 1) D' _ (by omega) rl')
    exact ⟨_, way p 0 0 0 (by omega) rl0⟩
  · refine ⟨trivial, ?_⟩
    unfold f_X0_cost
    rw [c_66_6 l1, ca_72]
    refine ⟨vp_in_nI (n := 0) (by decide) (by decide), fun v ev => ?_⟩
    have ev : v = gA h1 72 0 := ev
    rw [(r1 0 (Nat.zero_le _) p1').1] at ev
    subst ev
    refine run _ (fun g' g'' UR T' s' f' r' bu cu rt => aIf_f ne ?_)
    have lg : LayM g'' := LayM_A f' (LayM_2 s'.1 i2)
    rw [m_57 lg, mi_38]
    refine ⟨vp_in_nI (n := 0) (by decide) (by decide), fun v ev => ?_⟩
    have ev : v = gA g'' 38 0 := ev
    rw [(rt.1 0 (Nat.zero_le _) (Nat.zero_le _) sub0).1] at ev
    subst ev
    exact ⟨by rw [eqs UR T' g'' cu rt 0 0 p1' rl0], fin g' g'' s' f' r'⟩
