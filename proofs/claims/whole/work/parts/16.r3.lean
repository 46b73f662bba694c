/-! ===== the ice thaws ===== -/
def thV (F : LF) (L : Lw) (s : Nat) : Int32 := if L 1 s = (-2) then L 0 s else aMax 0 (L 0 s - thawV F L s)
def thN (F : LF) (L : Lw) (n : Nat) : Lw := fun a b => if a = 0 ∧ b < n then thV F L b else L a b
def thawL (F : LF) (L : Lw) : Lw := thN F L 256
theorem thN_o {F : LF} {L : Lw} {n a b : Nat} (h : ¬ (a = 0 ∧ b < n)) : thN F L n a b = L a b := if_neg h
theorem thN_0 {F : LF} {L : Lw} : thN F L 0 = L := by
  funext a b
  exact if_neg (fun z => absurd z.2 (Nat.not_lt_zero _))
theorem thN_s {F : LF} {L : Lw} {n : Nat} : thN F L (n + 1) = uL (thN F L n) 0 n (thV F L n) := by
  funext a b
  show (if a = 0 ∧ b < n + 1 then thV F L b else L a b) = if a = 0 ∧ b = n then thV F L n else if a = 0 ∧ b < n then thV F L b else L a b
  by_cases c : a = 0 ∧ b = n
  · rw [if_pos ⟨c.1, by omega⟩, if_pos c, c.2]
  · rw [if_neg c]
    by_cases c2 : a = 0 ∧ b < n
    · rw [if_pos c2, if_pos ⟨c2.1, by omega⟩]
    · rw [if_neg c2, if_neg (fun z => by omega)]
theorem uL_same {L : Lw} {f i : Nat} {v : Int32} (h : L f i = v) : uL L f i v = L := by
  funext a b
  show (if a = f ∧ b = i then v else L a b) = L a b
  by_cases c : a = f ∧ b = i
  · rw [if_pos c, c.1, c.2, h]
  · rw [if_neg c]
theorem thN_same {F : LF} {L : Lw} {n : Nat} (h : thV F L n = L 0 n) : thN F L (n + 1) = thN F L n := by
  rw [thN_s]
  refine uL_same ?_
  rw [thN_o (fun z => by omega), h]
theorem VS_eq {L L' : Lw} {s : Nat} {kd : Int32} (h0 : L' 0 s = L 0 s) (h : ∀ f i, f ≠ 0 → L' f i = L f i) : VS L' s kd e0 = VS L s kd e0 := by
  funext k
  rcases k with _ | _ | _ | _ | _ | _ | _ | k
  · exact h0
  · exact gaps_eq (fun t => h 1 t (by decide)) s
  · exact warm_eq (fun t => h 1 t (by decide)) (fun t => h 4 t (by decide)) s
  · rfl
  · rfl
  · exact h 9 2 (by decide)
  · rfl
  · rfl
theorem kind_eq {L L' : Lw} {s : Nat} (h : ∀ f i, f ≠ 0 → L' f i = L f i) : kindL L' s = kindL L s := by
  unfold kindL
  rw [h 1 s (by decide), h 3 _ (by decide)]
theorem Iof {x : Int32} {M : Nat} (hM : M < 2 ^ 31) (h1 : 0 ≤ x) (h2 : x ≤ nI M) : ∃ v, v ≤ M ∧ x = nI v := nI_of2 (x := x) (M := nI M) (n := M) (by rw [nI_toInt hM]) (Int32.not_lt.mpr h1) h2
theorem thV_nI {h : aH} {l : Nat} {F : LF} {L : Lw} {hn gn s : Nat} (hF : ∀ c most V, 0 ≤ most → 0 ≤ F c most V ∧ F c most V ≤ most) (hW : WF L hn gn) (hs : s < 256) : ∃ t v, t ≤ 99 ∧ v ≤ 9 ∧ L 0 s = nI t ∧ thawV F L s = nI v ∧ thV F L s = if L 1 s = (-2) then nI t else nI (t - v) := by
  obtain ⟨t, ht, et⟩ := hW.2.2.2.2.1 s hs
  obtain ⟨v, hv, ev⟩ := Iof (x := thawV F L s) (M := 9) (by decide) (hF _ _ _ (by decide)).1 (hF _ _ _ (by decide)).2
  refine ⟨t, v, ht, hv, et, ev, ?_⟩
  unfold thV
  rw [et, ev, max0_sub (by omega) (by omega)]
theorem thV_le {F : LF} {L : Lw} {hn gn s : Nat} (hF : ∀ c most V, 0 ≤ most → 0 ≤ F c most V ∧ F c most V ≤ most) (hW : WF L hn gn) (hs : s < 256) : ∃ t, t ≤ 99 ∧ thV F L s = nI t := by
  obtain ⟨t, v, a, b, c, d, e⟩ := thV_nI (h := hB) (l := 0) hF hW hs
  rw [e]
  by_cases z : L 1 s = (-2)
  · rw [if_pos z]; exact ⟨t, a, rfl⟩
  · rw [if_neg z]; exact ⟨t - v, by omega, rfl⟩
theorem WF_thN {F : LF} {L : Lw} {hn gn : Nat} (hF : ∀ c most V, 0 ≤ most → 0 ≤ F c most V ∧ F c most V ≤ most) (hW : WF L hn gn) : ∀ n, n ≤ 256 → WF (thN F L n) hn gn := by
  intro n
  induction n with
  | zero => intro _; rw [thN_0]; exact hW
  | succ n ih =>
    intro hn1
    obtain ⟨t, ht, et⟩ := thV_le hF hW (show n < 256 by omega)
    rw [thN_s, et]
    exact WF_thick (ih (by omega)) ht
theorem LC_ran {h : aH} {l : Nat} {F : LF} (hF : LC h l F) : ∀ c most V, 0 ≤ most → 0 ≤ F c most V ∧ F c most V ≤ most := fun c most V hm => LC_in hF hm
theorem LM_ran {h : aH} {F : LF} (hF : LM h F) : ∀ c most V, 0 ≤ most → 0 ≤ F c most V ∧ F c most V ≤ most := fun c most V hm => by
  obtain ⟨n, lt, H, W, h1, e⟩ := hF
  subst e
  exact lawF_in hm
section Thaw
variable {h : aH} {l d k : Nat} {L : Lw} {hn gn : Nat} {F : LF} {Q : aH → Prop}
theorem sp_thaw (hk : isLake k) (hL : LayC h l d) (hR : RepC h k L) (hW : WF L hn gn) (hF : LC h l F) (hq : ∀ h', FX k h h' → RepC h' k (thawL F L) → Q h') : f_X5_thaw SC 42 k h Q := by
  have hl := lay_isLaw hL
  have ran := LC_ran hF
  unfold f_X5_thaw
  rw [c_42_0 hL, lw_o hl]
  refine ⟨trivial, ?_⟩
  obtain ⟨n', lt, H, W, rl, eF⟩ := id hF
  refine sp_has_l hl hL rl (aIf_t (by decide) ?_) (fun no => aIf_f (fun z => z rfl) ?_)
  · have key := up_loop (N := 256) (P := fun w i => ∀ h', FX k h h' → RepC h' k (thN F L i) → f_X5_thaw_15 SC 42 k Q w (nI i) h') ?_ ?_
    · exact ⟨257, key h FX_rf (by rw [thN_0]; exact hR)⟩
    · intro h' f' r'
      exact aIf_t (by decide) (hq h' f' r')
    · intro w i hi n1 h' f' r'
      have l' := LayC_2 f'.1 hL
      have w' := WF_thN ran hW i (by omega)
      have hF' := LC_FX hk hl f' hF
      have e0' : thN F L i 0 i = L 0 i := thN_o (fun z => by omega)
      have e1' : thN F L i 1 i = L 1 i := thN_o (fun z => by omega)
      have eo : ∀ f j, f ≠ 0 → thN F L i f j = L f j := fun f j hf => thN_o (fun z => hf z.1)
      have same : thV F L i = L 0 i → ∀ h2, FX k h h2 → RepC h2 k (thN F L i) → ∀ x : Int32, x = nI i + 1 → f_X5_thaw_15 SC 42 k Q (w + 1) x h2 := by
        intro e h2 f2 r2 x ex
        rw [nI_1] at ex
        subst ex
        exact n1 h2 f2 (by rw [thN_same e]; exact r2)
      refine aIf_f (nI_ge (a := i) (b := 256) hi (by decide)) ?_
      rw [lk_0 hk l', li_1 hk, vp_lt hi (by decide), cl (by omega), (r'.1 i hi).1, e0']
      refine ⟨trivial, fun v ev => ?_⟩
      subst ev
      obtain ⟨t, u, b1, b2, b3, b4, b5⟩ := thV_nI (h := hB) (l := 0) ran hW hi
      refine aIf_i (fun c => same ?_ h' f' r') (fun c => ?_)
      · rw [b3] at c
        have : t = 0 := by have := (nI_leI (b := 0) (by omega) (by decide)).mp c; omega
        rw [b5, b3, this]
        by_cases z : L 1 i = (-2)
        · rw [if_pos z]
        · rw [if_neg z, show 0 - u = 0 by omega]
      · refine sp_isBroken hk l' r' hi (fun c2 => aIf_t (by decide) ?_) (fun c2 => aIf_f (fun z => z rfl) ?_)
        · rw [e1'] at c2
          exact same (if_pos c2) h' f' r'
        · rw [e1'] at c2
          refine sp_kindAt hk l' r' w' hi ?_
          rw [c_42_0 l', lw_o hl]
          refine ⟨trivial, sp_lookAt hk hl l' r' hi (fun h2 f2 v2 => ?_)⟩
          have l2 := LayC_2 f2.1 l'
          have r2 := RepC_SFC hk f2 r'
          rw [lk_0 hk l2, li_1 hk, vp_lt hi (by decide), (r2.1 i hi).1, e0']
          refine ⟨trivial, fun v ev => ?_⟩
          subst ev
          rw [c_42_0 l2, lw_o hl]
          rw [kind_eq eo, VS_eq e0' eo] at v2
          refine ⟨trivial, sp_saysF hl l2 (LC_SFC hl f2 hF') v2 (by decide) (fun h3 f3 => ?_)⟩
          intro v ev
          have ev : v = aMax 0 (L 0 i - thawV F L i) := ev
          have e5 : thV F L i = v := by rw [ev]; exact if_neg c2
          refine ⟨trivial, fun h4 e4 x ex => ?_⟩
          rw [nI_1] at ex
          subst ex
          have f23 := SFC_tr f2 f3
          refine n1 h4 (FX_tr f' (FX_tr (FX_S f23) (by rw [e4]; exact FX_K (FrK_sA (by omega) (by omega))))) ?_
          rw [thN_s, e5, e4]
          exact rep_thick (RepC_SFC hk f23 r')
  · refine hq h FX_rf ?_
    have e : thawL F L = L := by
      have z : ∀ s, s < 256 → thV F L s = L 0 s := by
        intro s hs
        obtain ⟨t, u, b1, b2, b3, b4, b5⟩ := thV_nI (h := hB) (l := 0) ran hW hs
        have u0 : u = 0 := by
          have e1 : thawV F L s = 0 := by
            unfold thawV
            rw [eF]
            exact lawF_no no
          rw [b4] at e1
          exact (nI_eq (b := 0) (by omega) (by decide)).mp e1
        rw [b5, b3, u0, Nat.sub_zero]
        split <;> rfl
      have : ∀ n, n ≤ 256 → thN F L n = L := by
        intro n
        induction n with
        | zero => intro _; exact thN_0
        | succ n ih => intro hn; rw [thN_same (z n (by omega))]; exact ih (by omega)
      exact this 256 (Nat.le_refl _)
    rw [e]
    exact hR
theorem repM_thick {h : aH} {s : Nat} {L : Lw} {v : Int32} (hM : RepM h L) : RepM (sA h 2 s v) (uL L 0 s v) := by
  have u : ∀ f i, f ≠ 0 → uL L 0 s v f i = L f i := fun f i hf => uL_n (fun z => hf z.1)
  refine RepM_now hM (fun i hi => ?_) (fun c i c1 c2 => by rw [gA_o (by omega)]) (fun f i hf => u f i (by omega)) (fun _ => rfl)
  rw [gA_o (c2 := 3) (by decide), gA_o (c2 := 4) (by decide), u 1 i (by decide)]
  refine ⟨?_, (hM.1 i hi).2⟩
  by_cases c : i = s
  · rw [c, gA_e, uL_s]
  · rw [gA_p c, uL_n (fun z => c z.2)]
    exact (hM.1 i hi).1
theorem sr_thawsAll (hL : LayM h) (hM : RepM h L) (hW : WF L hn gn) (hF : LM h F) (hq : ∀ h', MX h h' → RepM h' (thawL F L) → Q h') : f_X11_thawsAll SM 0 h Q := by
  have ran := LM_ran hF
  have two : ∀ h1, MX h h1 → RepM h1 L → (∀ i, i < 256 → gA h1 28 i = if L 1 i = (-2) then 0 else thawV F L i) → ∃ m, f_X11_thawsAll_50 SM 0 Q m 0 h1 := by
    intro h1 f1 r1 t1
    have key := up_loop (N := 256) (P := fun w i => ∀ h', MX h h' → (∀ j, gA h' 28 j = gA h1 28 j) → RepM h' (thN F L i) → f_X11_thawsAll_50 SM 0 Q w (nI i) h') ?_ ?_
    · exact ⟨257, key h1 f1 (fun _ => rfl) (by rw [thN_0]; exact r1)⟩
    · intro h' f' _ r'
      exact aIf_t (by decide) (hq h' f' r')
    · intro w i hi n1 h' f' c' r'
      have l' := LayM_2 f'.1 hL
      refine aIf_f (nI_ge (a := i) (b := 256) hi (by decide)) ?_
      obtain ⟨t, u, b1, b2, b3, b4, b5⟩ := thV_nI (h := hB) (l := 0) ran hW hi
      have e0' : thN F L i 0 i = nI t := (thN_o (fun z => by omega)).trans b3
      have e28 : gA h' 28 i = nI (if L 1 i = (-2) then 0 else u) := by
        rw [c', t1 i hi, b4]
        split <;> rfl
      have up : ∀ h2 v, h2 = sA h' 2 i v → thV F L i = v → ∀ x : Int32, x = nI i + 1 → f_X11_thawsAll_50 SM 0 Q (w + 1) x h2 := by
        intro h2 v e2 ev x ex
        rw [nI_1] at ex
        subst ex e2 ev
        refine n1 _ (MX_tr f' (MX_sA (by omega))) (fun j => by rw [gA_o (by decide)]; exact c' j) ?_
        rw [thN_s]
        exact repM_thick r'
      rw [m_6 l', mi_2, vp_lt hi (by decide), cl (by omega), (r'.1 i hi).1, e0']
      refine ⟨trivial, fun v ev => ?_⟩
      subst ev
      rw [m_46 l', mi_28, vp_lt hi (by decide), e28]
      refine ⟨trivial, fun v ev => ?_⟩
      subst ev
      by_cases z : L 1 i = (-2)
      · rw [if_pos z] at b5 ⊢
        refine aIf_t (nI_le (by omega) (by omega)) ?_
        refine ⟨trivial, fun v ev => ⟨trivial, fun v' ev' => ⟨trivial, fun h2 e2 => ?_⟩⟩⟩
        subst ev ev'
        exact up h2 _ e2 (by rw [b5]; exact (Int32.sub_zero _).symm)
      · rw [if_neg z] at b5 ⊢
        refine aIf_i (fun c => ?_) (fun c => ?_)
        · have c2 := (nI_leI (by omega) (by omega)).mp c
          refine ⟨trivial, fun v ev => ⟨trivial, fun v' ev' => ⟨trivial, fun h2 e2 => ?_⟩⟩⟩
          subst ev ev'
          refine up h2 _ e2 ?_
          rw [b5, ← iI_nat, ← iI_nat, ← iI_nat, iI_sub]
          congr 1
          omega
        · have c2 : ¬ u ≤ t := fun y => c (nI_le y (by omega))
          refine ⟨trivial, fun h2 e2 => up h2 _ e2 ?_⟩
          rw [b5, show t - u = 0 by omega]
          rfl
  have key := up_loop (N := 256) (P := fun w i => ∀ h', SFN h h' → (∀ j, j < i → gA h' 28 j = if L 1 j = (-2) then 0 else thawV F L j) → f_X11_thawsAll_2 SM 0 Q w (nI i) h') ?_ ?_
  · exact ⟨257, key h SFN_rf (fun j hj => absurd hj (Nat.not_lt_zero _))⟩
  · intro h' f' t'
    exact aIf_t (by decide) (two h' (MX_N f') (RepM_SFN f' hM) t')
  · intro w i hi n1 h' f' t'
    have l' := LayM_2 f'.1 hL
    have r' := RepM_SFN f' hM
    refine aIf_f (nI_ge (a := i) (b := 256) hi (by decide)) ?_
    have up : ∀ h2 h3 v, SFM h' h2 → h3 = sA h2 28 i v → (v = if L 1 i = (-2) then 0 else thawV F L i) → ∀ x : Int32, x = nI i + 1 → f_X11_thawsAll_2 SM 0 Q (w + 1) x h3 := by
      intro h2 h3 v f2 e3 ev x ex
      rw [nI_1] at ex
      subst ex e3
      refine n1 _ (SFN_tr f' (SFN_tr (SFN_S f2) (SFN_sA (by omega)))) (fun j hj => ?_)
      by_cases z : j = i
      · rw [z, gA_e]; exact ev
      · rw [gA_p z, f2.2.1 _ _ (by decide)]; exact t' j (by omega)
    rw [m_7 l', mi_3, vp_lt hi (by decide), cl (by omega), (r'.1 i hi).2.1]
    refine ⟨trivial, fun v ev => ?_⟩
    subst ev
    by_cases z : L 1 i = (-2)
    · rw [if_pos z] at up ⊢
      refine aIf_f (by decide) ?_
      rw [m_46 l', mi_28, vp_lt hi (by decide)]
      exact ⟨trivial, fun h2 e2 => up h' h2 0 SFM_rf e2 rfl⟩
    · rw [if_neg z] at up ⊢
      refine aIf_t rfl ?_
      refine sr_kindOn l' r' hW hi ?_
      refine sr_bySquare l' r' hW (LM_SFN f' hF) hi (by decide) (fun h2 f2 => ?_)
      rw [m_46 l', mi_28, vp_lt hi (by decide)]
      exact ⟨trivial, fun h3 e3 => up h2 h3 _ f2 e3 rfl⟩
end Thaw
