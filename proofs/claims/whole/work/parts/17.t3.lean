/-! ===== CLOSING: the class's list ===== -/
def kN (L : Lw) (q : Nat) : Nat := (L 3 q).toNatClampNeg
def htN (L : Lw) (q : Nat) : Nat := (L 4 q).toNatClampNeg
def sqH (L : Lw) (q : Nat) : Nat := (L 2 q).toNatClampNeg
theorem hole_of {L : Lw} {hn gn q : Nat} (hW : WF L hn gn) (hq : q < 12) : L 3 q = nI (kN L q) ∧ kN L q ≤ 4 ∧ L 4 q = nI (htN L q) ∧ htN L q ≤ 9 ∧ L 2 q = nI (sqH L q) ∧ sqH L q < 256 := by
  obtain ⟨⟨v, a1, a2⟩, ⟨w, b1, b2⟩, -, -⟩ := hW.2.2.2.2.2.2.2.1 q hq
  obtain ⟨s, c1, c2⟩ := hW.2.2.2.2.2.2.1 q hq
  have e1 : kN L q = v := by unfold kN; rw [a2, cl (by omega)]
  have e2 : htN L q = w := by unfold htN; rw [b2, cl (by omega)]
  have e3 : sqH L q = s := by unfold sqH; rw [c2, cl (by omega)]
  rw [e1, e2, e3]
  exact ⟨a2, a1, b2, b1, c2, c1⟩
theorem pc_mono {A : Nat} : ∀ {x y : Nat}, x ≤ y → pcN A x ≤ pcN A y := by
  intro x y
  induction y with
  | zero => intro h; rw [show x = 0 by omega]; exact Nat.le_refl _
  | succ y ih =>
    intro h
    by_cases e : x = y + 1
    · rw [e]; exact Nat.le_refl _
    · have := ih (by omega)
      show pcN A x ≤ pcN A y + _
      omega
theorem pc_s {A x : Nat} (h : A.testBit x = true) : pcN A (x + 1) = pcN A x + 1 := by
  show pcN A x + (if A.testBit x = true then 1 else 0) = _
  rw [if_pos h]
theorem pc_n {A x : Nat} (h : ¬ A.testBit x = true) : pcN A (x + 1) = pcN A x := by
  show pcN A x + (if A.testBit x = true then 1 else 0) = _
  rw [if_neg h, Nat.add_zero]
/-- how the rows of the list hang together with the HOLES of A below x -/
def Lnk (F : LF) (L : Lw) (load : Int32) (A x : Nat) (PH TK UN LS : Nat → Nat) : Prop := (∀ i, TK i ≤ 5) ∧ (∀ i, UN i ≤ 60) ∧ (∀ i, LS i ≤ 55) ∧ ∀ q, q < x → A.testBit q = true → PH (pcN A q) = q ∧ TK (pcN A q) = 1 + kN L q ∧ LS (pcN A q) = 10 + 5 * htN L q ∧ SndP F L (sqH L q) load (UN (pcN A q))
section ClE
variable {h : aH} {l d : Nat} {L : Lw} {hn gn : Nat} {F : LF} {load : Int32}
theorem sp_list (hL : LayC h l d) (hR : RepC h 1 L) (hW : WF L hn gn) (hF : LC h l F) {A : Nat} (hA : A < 2 ^ 12) (h8 : pcN A 12 ≤ 8) {Q : aH → Prop} (hq : ∀ h' PH TK UN LS, ClF h h' → ClL h' (pcN A 12) PH TK UN LS → Lnk F L load A 12 PH TK UN LS → Q h') : f_X0_list SC 66 1 42 (nI A) load h Q := by
  have hk : isLake 1 := Or.inl rfl
  have hl := lay_isLaw hL
  intro h0 e0
  have key := up_loop (N := 12) (P := fun w x => ∀ (h' : aH) (PH TK UN LS : Nat → Nat), ClF h h' → ClL h' (pcN A x) PH TK UN LS → Lnk F L load A x PH TK UN LS → f_X0_list_8 SC 66 1 42 (nI A) load Q w (nI x) h') ?_ ?_
  · refine ⟨13, key h0 (fun _ => 0) (fun _ => 0) (fun _ => 0) (fun _ => 0) ?_ ⟨?_, fun i hi => absurd hi (Nat.not_lt_zero _)⟩ ⟨fun _ => Nat.zero_le _, fun _ => Nat.zero_le _, fun _ => Nat.zero_le _, fun q hq => absurd hq (Nat.not_lt_zero _)⟩⟩
    · rw [e0]; exact ClF_sI
    · rw [e0, gI_sI, if_pos ⟨rfl, rfl⟩]; rfl
  · intro h' PH TK UN LS f' c' k'
    exact aIf_t (by decide) (hq h' PH TK UN LS f' c' k')
  · intro w x hx n1 h' PH TK UN LS f' c' k'
    have l' := LayC_2 f'.1 hL
    have r' := RepC_ClF f' hR
    have cm := pc_mono (A := A) (x := x) (y := 12) (by omega)
    refine aIf_f (nI_ge (a := x) (b := 12) hx (by decide)) ?_
    intro v ev
    rw [c'.1] at ev
    subst ev
    refine aIf_i (fun c8 => ?_) (fun c8 => ?_)
    · have c8 := (nI_leI (a := 8) (by decide) (by omega)).mp c8
      have et : pcN A 12 = pcN A x := by omega
      refine hq h' PH TK UN LS f' (by rw [et]; exact c') ⟨k'.1, k'.2.1, k'.2.2.1, fun q hq hb => ?_⟩
      rcases Nat.lt_or_ge q x with z | z
      · exact k'.2.2.2 q z hb
      · have m1 := pc_mono (A := A) (x := x) (y := q) z
        have m2 := pc_mono (A := A) (x := q + 1) (y := 12) (by omega)
        rw [pc_s hb] at m2
        omega
    · have c8 : ¬ 8 ≤ pcN A x := fun z => c8 ((nI_leI (a := 8) (by decide) (by omega)).mpr z)
      rw [bitI (by omega) (by omega)]
      by_cases b : A.testBit x = true
      rotate_left
      · rw [if_neg b]
        refine aIf_t rfl (fun y ey => ?_)
        rw [nI_1] at ey
        subst ey
        refine n1 h' PH TK UN LS f' (by rw [pc_n b]; exact c') ⟨k'.1, k'.2.1, k'.2.2.1, fun q hq hb => ?_⟩
        rcases Nat.lt_or_ge q x with z | z
        · exact k'.2.2.2 q z hb
        · rw [show q = x by omega] at hb
          exact absurd hb b
      · rw [if_pos b]
        refine aIf_f (by decide) ?_
        obtain ⟨q1, q2, q3, q4, q5, q6⟩ := hole_of hW hx
        intro v ev
        rw [c'.1] at ev
        subst ev
        rw [c_66_0 l', ca_67, vp_lt (show pcN A x < 8 by omega) (by decide), cl (by omega)]
        refine ⟨trivial, fun h8' e8 v ev => ?_⟩
        have L8 : LayC h8' l d := LayC_2 (by rw [e8]; rfl) l'
        rw [e8, gI_sA, c'.1] at ev
        subst ev
        rw [lk_5 hk L8, li_6 hk, vp_lt hx (by decide), cl (by omega)]
        refine ⟨trivial, fun v ev => ?_⟩
        rw [e8, gA_o (by decide), (r'.2.1 x hx).2.1, q1] at ev
        subst ev
        rw [c_66_1 L8, ca_68, vp_lt (show pcN A x < 8 by omega) (by decide), cl (by omega)]
        refine ⟨trivial, fun h13 e13 v ev => ?_⟩
        have L13 : LayC h13 l d := LayC_2 (by rw [e13]; rfl) L8
        rw [e13, gI_sA, e8, gI_sA, c'.1] at ev
        subst ev
        have F13 : ClF h h13 := by
          rw [e13, e8]
          exact ClF_tr f' (ClF_tr (ClF_sA (by decide)) (ClF_sA (by decide)))
        refine sp_soundTime hk L13 (RepC_ClF F13 hR) hW (LC_ClF hl F13 hF) hx q6 q5 (fun r h15 sp f15 => ?_)
        rw [c_66_2 L13, ca_69, vp_lt (show pcN A x < 8 by omega) (by decide), cl (by omega)]
        refine ⟨trivial, fun h18 e18 v ev => ?_⟩
        have F18 : ClF h h18 := by
          rw [e18]
          exact ClF_tr F13 (ClF_tr (ClF_S f15) (ClF_sA (by decide)))
        have L18 := LayC_2 F18.1 hL
        have g15 : gI h15 66 4 = nI (pcN A x) := by
          rw [f15.2.2 _ _ (by decide), e13, gI_sA, e8, gI_sA]
          exact c'.1
        rw [e18, gI_sA, g15] at ev
        subst ev
        rw [lk_6 hk L18, li_7 hk, vp_lt hx (by decide), cl (by omega), ((RepC_ClF F18 hR).2.1 x hx).2.2.1, q3]
        refine ⟨trivial, fun v ev => ?_⟩
        subst ev
        rw [c_66_3 L18, ca_70, vp_lt (show pcN A x < 8 by omega) (by decide)]
        refine ⟨trivial, fun h23 e23 v ev h25 e25 y ey => ?_⟩
        rw [e23, gI_sA, e18, gI_sA, g15] at ev
        subst ev
        rw [nI_1] at ey
        subst ey
        have ek : (1 : Int32) + nI (kN L x) = nI (1 + kN L x) := nI_add 1 _
        have eh : (10 : Int32) + 5 * nI (htN L x) = nI (10 + 5 * htN L x) := by
          rw [show (5 : Int32) = nI 5 from rfl, pk_mul, show (10 : Int32) = nI 10 from rfl, nI_add]
        rw [ek] at e13
        rw [eh] at e23
        refine n1 h25 (fun i => if i = pcN A x then x else PH i) (fun i => if i = pcN A x then 1 + kN L x else TK i) (fun i => if i = pcN A x then r else UN i) (fun i => if i = pcN A x then 10 + 5 * htN L x else LS i) ?_ ?_ ⟨fun i => ?_, fun i => ?_, fun i => ?_, fun q hq hb => ?_⟩
        · rw [e25, e23]
          exact ClF_tr F18 (ClF_tr (ClF_sA (by decide)) ClF_sI)
        · rw [pc_s b]
          refine ⟨?_, fun i hi => ?_⟩
          · rw [e25, gI_sI, if_pos ⟨rfl, rfl⟩, nI_1]
          · have g67 : gA h25 67 i = if i = pcN A x then nI x else gA h' 67 i := by
              rw [e25, gA_sI, e23, gA_o (by decide), e18, gA_o (by decide), f15.2.1 _ _ (by decide), e13, gA_o (by decide), e8]
              by_cases z : i = pcN A x
              · rw [z, gA_e, if_pos rfl]
              · rw [gA_p z, if_neg z]
            have g68 : gA h25 68 i = if i = pcN A x then nI (1 + kN L x) else gA h' 68 i := by
              rw [e25, gA_sI, e23, gA_o (by decide), e18, gA_o (by decide), f15.2.1 _ _ (by decide), e13]
              by_cases z : i = pcN A x
              · rw [z, gA_e, if_pos rfl]
              · rw [gA_p z, if_neg z, e8, gA_o (by decide)]
            have g69 : gA h25 69 i = if i = pcN A x then nI r else gA h' 69 i := by
              rw [e25, gA_sI, e23, gA_o (by decide), e18]
              by_cases z : i = pcN A x
              · rw [z, gA_e, if_pos rfl]
              · rw [gA_p z, if_neg z, f15.2.1 _ _ (by decide), e13, gA_o (by decide), e8, gA_o (by decide)]
            have g70 : gA h25 70 i = if i = pcN A x then nI (10 + 5 * htN L x) else gA h' 70 i := by
              rw [e25, gA_sI, e23]
              by_cases z : i = pcN A x
              · rw [z, gA_e, if_pos rfl]
              · rw [gA_p z, if_neg z, e18, gA_o (by decide), f15.2.1 _ _ (by decide), e13, gA_o (by decide), e8, gA_o (by decide)]
            rw [g67, g68, g69, g70]
            show (if i = pcN A x then nI x else gA h' 67 i) = nI (if i = pcN A x then x else PH i) ∧ (if i = pcN A x then nI (1 + kN L x) else gA h' 68 i) = nI (if i = pcN A x then 1 + kN L x else TK i) ∧ (if i = pcN A x then nI r else gA h' 69 i) = nI (if i = pcN A x then r else UN i) ∧ (if i = pcN A x then nI (10 + 5 * htN L x) else gA h' 70 i) = nI (if i = pcN A x then 10 + 5 * htN L x else LS i)
            by_cases z : i = pcN A x
            · rw [if_pos z, if_pos z, if_pos z, if_pos z, if_pos z, if_pos z, if_pos z, if_pos z]
              exact ⟨rfl, rfl, rfl, rfl⟩
            · rw [if_neg z, if_neg z, if_neg z, if_neg z, if_neg z, if_neg z, if_neg z, if_neg z]
              exact c'.2 i (by omega)
        · show (if i = pcN A x then 1 + kN L x else TK i) ≤ 5
          split
          · omega
          · exact k'.1 i
        · show (if i = pcN A x then r else UN i) ≤ 60
          split
          · exact sp.1
          · exact k'.2.1 i
        · show (if i = pcN A x then 10 + 5 * htN L x else LS i) ≤ 55
          split
          · omega
          · exact k'.2.2.1 i
        · show (if pcN A q = pcN A x then x else PH (pcN A q)) = q ∧ (if pcN A q = pcN A x then 1 + kN L x else TK (pcN A q)) = _ ∧ (if pcN A q = pcN A x then 10 + 5 * htN L x else LS (pcN A q)) = _ ∧ SndP F L (sqH L q) load (if pcN A q = pcN A x then r else UN (pcN A q))
          by_cases z : q = x
          · rw [z, if_pos rfl, if_pos rfl, if_pos rfl, if_pos rfl]
            exact ⟨rfl, rfl, rfl, sp⟩
          · have m := pc_mono (A := A) (x := q + 1) (y := x) (by omega)
            rw [pc_s hb] at m
            have ne : ¬ pcN A q = pcN A x := by omega
            rw [if_neg ne, if_neg ne, if_neg ne, if_neg ne]
            exact k'.2.2.2 q (by omega) hb
theorem sp_solve (hL : LayC h l d) (hR : RepC h 1 L) (hW : WF L hn gn) (hF : LC h l F) {A : Nat} (hA : A < 2 ^ 12) (h1 : 1 ≤ pcN A 12) (h8 : pcN A 12 ≤ 8) {Q : aH → Prop} (hq : ∀ h' PH TK UN LS T, ClF h h' → Cls h' (pcN A 12) PH TK UN LS T → Lnk F L load A 12 PH TK UN LS → Q h') : f_X0_solve SC 66 1 42 (nI A) load h Q := by
  unfold f_X0_solve
  refine sp_list hL hR hW hF hA h8 (fun h1' PH TK UN LS f1 c1 k1 => ?_)
  have l1 := LayC_2 f1.1 hL
  have p8 : 2 ^ pcN A 12 ≤ 2 ^ 8 := Nat.pow_le_pow_right (by decide) h8
  have p8 : 2 ^ pcN A 12 ≤ 256 := p8
  have pp : 0 < 2 ^ pcN A 12 := Nat.two_pow_pos _
  intro v ev x ex
  rw [c1.1] at ev
  subst ev
  have em : nI (2 ^ pcN A 12) - 1 = nI (2 ^ pcN A 12 - 1) := by
    obtain ⟨m, hm⟩ : ∃ m, 2 ^ pcN A 12 = m + 1 := ⟨2 ^ pcN A 12 - 1, by omega⟩
    rw [hm]
    exact nI_pred _
  rw [sh1 (by omega), em] at ex
  subst ex
  rw [c_66_5 l1, ca_71]
  refine ⟨vp_in_nI (n := 0) (by decide) (by decide), fun h2 e2 => ?_⟩
  have e2 : h2 = sA h1' 71 0 0 := e2
  have f2 : ClF h1' h2 := by rw [e2]; exact ClF_sA (by decide)
  have l2 := LayC_2 f2.1 l1
  have c2 : ClL h2 (pcN A 12) PH TK UN LS := by
    refine ⟨by rw [e2]; exact c1.1, fun i hi => ?_⟩
    rw [e2, gA_o (by decide), gA_o (by decide), gA_o (by decide), gA_o (by decide)]
    exact c1.2 i hi
  refine sp_times l2 c2 h8 (by rw [e2, gA_e]) (fun h3 f3 o3 g3 t3 => ?_)
  have l3 := LayC_2 f3.1 l2
  have c3 : ClL h3 (pcN A 12) PH TK UN LS := ⟨g3, fun i hi => by rw [o3 67 i (by decide), o3 68 i (by decide), o3 69 i (by decide), o3 70 i (by decide)]; exact c2.2 i hi⟩
  refine sp_rests l3 c3 h1 h8 k1.1 k1.2.1 k1.2.2.1 t3 (fun h4 T f4 o4 g4 r4 => ?_)
  refine hq h4 PH TK UN LS T (ClF_tr f1 (ClF_tr f2 (ClF_tr f3 f4))) ⟨⟨g4, fun i hi => ?_⟩, fun S hS => ?_, r4⟩ k1
  · rw [o4 67 i (by decide), o4 68 i (by decide), o4 69 i (by decide), o4 70 i (by decide)]
    exact c3.2 i hi
  · rw [o4 71 S (by decide)]
    exact t3 S hS
theorem sp_allOpen (hk : isLake 1) (hL : LayC h l d) (hR : RepC h 1 L) (hW : WF L hn gn) {A : Nat} (hA : A < 2 ^ 12) (hAh : A < 2 ^ hn) {Q : Int32 → aH → Prop} (h1 : (∀ q, q < 12 → A.testBit q = true → opn L q) → Q 1 h) (h0 : ¬ (∀ q, q < 12 → A.testBit q = true → opn L q) → Q 0 h) : f_X2_allOpen SC 1 (nI A) h Q := by
  have key := up_loop (N := 12) (P := fun w x => (∀ q, q < x → A.testBit q = true → opn L q) → f_X2_allOpen_2 SC 1 (nI A) Q w (nI x) h) ?_ ?_
  · exact ⟨13, key (fun q hq => absurd hq (Nat.not_lt_zero _))⟩
  · intro hv
    exact aIf_t (by decide) (h1 hv)
  · intro w x hx n1 hv
    refine aIf_f (nI_ge (a := x) (b := 12) hx (by decide)) ?_
    rw [bitI (by omega) (by omega)]
    have nx : (A.testBit x = true → opn L x) → ∀ y : Int32, y = nI x + 1 → f_X2_allOpen_2 SC 1 (nI A) Q (w + 1) y h := fun z y ey => by
      rw [nI_1] at ey
      subst ey
      refine n1 (fun q hq hb => ?_)
      rcases Nat.lt_or_ge q x with u | u
      · exact hv q u hb
      · have e : q = x := by omega
        rw [e] at hb ⊢
        exact z hb
    by_cases b : A.testBit x = true
    · rw [if_pos b]
      refine aIf_f (by decide) ?_
      have xh : x < hn := by
        rcases Nat.lt_or_ge x hn with z | z
        · exact z
        · rw [Nat.testBit_lt_two_pow (Nat.lt_of_lt_of_le hAh (Nat.pow_le_pow_right (by decide) z))] at b
          exact absurd b (by decide)
      exact sp_isOpenN hk hL hR hW xh (fun o => aIf_t (by decide) (nx (fun _ => o))) (fun o => aIf_f (fun z => z rfl) (h0 (fun z => o (z x hx b))))
    · rw [if_neg b]
      exact aIf_t rfl (nx (fun z => absurd z b))
end ClE
