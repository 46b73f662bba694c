def nRm (f mc ms : Nat) : Room := { frames := f, cells := mc, slots := ms, locals := 40 * f }
theorem nRA_int (U : State) (c1 c2 : ClassId) (h1 : va_RA U c1 .int) (h2 : va_RA U c2 .int) : c1 = c2 := Option.some.inj (Eq.trans (Eq.symm h1) h2)
theorem nRA_boolean (U : State) (c1 c2 : ClassId) (h1 : va_RA U c1 .boolean) (h2 : va_RA U c2 .boolean) : c1 = c2 := Option.some.inj (Eq.trans (Eq.symm h1) h2)
theorem nRA_byte (U : State) (c1 c2 : ClassId) (h1 : va_RA U c1 .byte) (h2 : va_RA U c2 .byte) : c1 = c2 := Option.some.inj (Eq.trans (Eq.symm h1) h2)
theorem nCat (ad : Nat → Nat) (st : List nVal) : ((st.map (cv ad)).map fun v => v.category).sum = st.length := by
  induction st with
  | nil => rfl
  | cons v st ih =>
    rw [List.map_cons, List.map_cons, List.sum_cons, ih, List.length_cons]
    cases v <;> simp [cv, Value.category] <;> omega
section NWcalls
variable {l : Launch} {K : aK} {D : va_G} {cA : Nat → ClassId} {R : Room} {M : aM} {Qc : Array Value → State → Outcome → State → Prop} {ad0 : Nat → Nat} {n0 sz mc ms : Nat} {pc : Nat} {lv : List (Nat × nVal)} {st : List nVal} {n : Nat} {h : aH} {cs ss : Nat}
theorem nBlind {ad : Nat → Nat} {m sz' : Nat} {av : List Value} {h' : aH} : FrameBlind (va_Pc av (fun U => U.heap.size = sz' ∧ va_P D vwCl (nWs m K (D, ad, cA) h') U.heap ∧ va_K D vwCl (aTy (D, ad, cA)) U ∧ va_D (fun _ => True) (nWs m K (D, ad, cA) h') ∧ nNest U)) := fun a U g mk q => by
  obtain ⟨q0, q1, qP, qK, qD, qN⟩ := q
  exact ⟨q0, q1, qP, va_K.moved (u := U) (U := U.calling g mk a) (Vm.Alike.refl U.vm) qK, qD, fun a i x o hm => va_Nw.same rfl rfl (qN a i x o hm)⟩
theorem nw_ctor {y : MethodName} {by0 : ByteArray} {x z i k n1 mc1 ms1 : Nat} {av rest : List nVal} {h1 : aH} {rm : Room} (hM : nOk n h → ∀ (ad : Nat → Nat) (sz' : Nat), NM l K D cA rm (y, by0, x, none) ad n sz' (.inr k :: av) h n1 h1 mc1 ms1) (hok : nOk n h → nOk n1 h1) (hrc : rm.cells = mc1) (hrs : rm.slots = ms1) (hf : aMF (y, by0, x, none) z) (hy : y.name = "<init>") (hl : Cond.methodLink M.1.cls i y ∈ lw_tbl) (hi : Cond.instanceMethod y ∈ lw_tbl) (hz : av.length = z) (hst : st = av.reverse ++ .inr k :: rest) (hR : rm.frames + 1 ≤ R.frames ∧ 8 + (x + 11) + rm.locals ≤ R.locals) (hlv : ∀ q ∈ lv, nLt n q.2) (hrest : ∀ q ∈ rest, nLt n q) (hn0 : n0 ≤ n) (hr : rest.length ≤ 8) (hcs : cs + mc1 ≤ R.cells) (hss : ss + ms1 ≤ R.slots) (hd : decode M.2.1 pc = .ok (.invokespecial i, 3)) (kk : NW l K D cA R M Qc ad0 n0 sz mc ms (pc + 3) lv rest n1 h1 (cs + mc1) (ss + ms1)) : NW l K D cA R M Qc ad0 n0 sz mc ms pc lv st n h cs ss := fun p e0 s m a b q c H lo ls ad C O Ag P Dd S L => by
  have hsub : ∀ q, nA ad n H.size q → nA ad0 n0 sz q := fun q hq => by
    rcases hq with ⟨j, hj, e⟩ | hq
    · rw [e]; exact Dd.2 j _ (nWs_get (G := (D, ad, cA)) hj)
    · exact Or.inr (by have h1 := S.1; rw [C.2.2.2.2.2.2.2.2.1] at h1; omega)
  have hst' : st.map (cv ad) = (av.map (cv ad)).reverse ++ .ref (ad k) :: rest.map (cv ad) := by
    rw [hst, List.map_append, List.map_reverse, List.map_cons]
    rfl
  rw [hst']
  refine va_callv (va_runI (b := ad k) (As := av.map (cv ad)) (rest := rest.map (cv ad)) ⟨C.1, C.2.1, C.2.2.2.1, C.2.2.2.2.1, C.2.2.2.2.2.1⟩ (hM O ad H.size) ⟨callB_of z C.2.2.2.2.2.1 (aW0_good hf) rfl hrc hrs (C.2.2.2.2.2.1 _ (aT hf.2.1 rfl)) (C.2.2.2.2.2.1 _ (aT hl rfl)) hf.2.2.1 hR, hy, C.2.2.2.2.2.1 _ (aT hi rfl)⟩ ⟨nBlind, fun U hU hW => ⟨rfl, by rw [hU], by rw [hU]; exact P, va_K.moved hW.alike C.2.2.2.2.2.2.2.1, Dd.weaken (fun _ _ _ _ => trivial), nNest_warm hW C.2.2.2.2.2.2.2.2.2.2⟩⟩ rfl (by rw [List.length_map]; exact hz) L.1 rfl (lv_room (by rw [nCat]; exact hr)) hd ⟨hcs, hss⟩) S (fun q _ h => hsub q h) hsub (fun ad' t H1 lo1 ht hvm hp hB hz1 hk hS => ?_)
  have k2 := kk p e0 s m a b q c H1 lo1 ls ad' C (hok O) (fun i hi => (hp i (by omega)).trans (Ag i hi)) (by rw [← ht]; exact hB.1) (hB.2.weaken (fun _ _ _ h => hsub _ h)) hS (by rw [nl_ad hp hlv]; exact L)
  rw [st_ad hp hrest] at k2
  exact k2
theorem nw_ctorN {y : MethodName} {by0 : ByteArray} {x z i k n1 mc1 ms1 : Nat} {o : String} {av rest : List nVal} {h1 : aH} {rm : Room} (hM : nOk n h → ∀ (ad : Nat → Nat) (sz' : Nat), NM l K D cA rm (y, by0, x, none) ad n sz' (.inr k :: av) h n1 h1 mc1 ms1) (hok : nOk n h → nOk n1 h1) (hrc : rm.cells = mc1) (hrs : rm.slots = ms1) (hf : aMF (y, by0, x, none) z) (hy : y.name = "<init>") (hl : Cond.methodLinkNest M.1.cls i y o ∈ lw_tbl) (hi : Cond.instanceMethod y ∈ lw_tbl) (hz : av.length = z) (hst : st = av.reverse ++ .inr k :: rest) (hR : rm.frames + 1 ≤ R.frames ∧ 8 + (x + 11) + rm.locals ≤ R.locals) (hlv : ∀ q ∈ lv, nLt n q.2) (hrest : ∀ q ∈ rest, nLt n q) (hn0 : n0 ≤ n) (hr : rest.length ≤ 8) (hcs : cs + mc1 ≤ R.cells) (hss : ss + ms1 ≤ R.slots) (hd : decode M.2.1 pc = .ok (.invokespecial i, 3)) (kk : NW l K D cA R M Qc ad0 n0 sz mc ms (pc + 3) lv rest n1 h1 (cs + mc1) (ss + ms1)) : NW l K D cA R M Qc ad0 n0 sz mc ms pc lv st n h cs ss := fun p e0 s m a b q c H lo ls ad C O Ag P Dd S L => by
  have hsub : ∀ q, nA ad n H.size q → nA ad0 n0 sz q := fun q hq => by
    rcases hq with ⟨j, hj, e⟩ | hq
    · rw [e]; exact Dd.2 j _ (nWs_get (G := (D, ad, cA)) hj)
    · exact Or.inr (by have h1 := S.1; rw [C.2.2.2.2.2.2.2.2.1] at h1; omega)
  have hst' : st.map (cv ad) = (av.map (cv ad)).reverse ++ .ref (ad k) :: rest.map (cv ad) := by
    rw [hst, List.map_append, List.map_reverse, List.map_cons]
    rfl
  rw [hst']
  refine va_callv (va_runIN (b := ad k) (As := av.map (cv ad)) (rest := rest.map (cv ad)) ⟨C.1, C.2.1, C.2.2.2.1, C.2.2.2.2.1, C.2.2.2.2.2.1⟩ (hM O ad H.size) ⟨va_cnB z C.2.2.2.2.2.1 (aW0_good hf) rfl hrc hrs (C.2.2.2.2.2.2.2.2.2.2 _ _ _ _ hl) (C.2.2.2.2.2.1 _ (aT hf.2.1 rfl)) hf.2.2.1 hR, hy, C.2.2.2.2.2.1 _ (aT hi rfl)⟩ ⟨nBlind, fun U hU hW => ⟨rfl, by rw [hU], by rw [hU]; exact P, va_K.moved hW.alike C.2.2.2.2.2.2.2.1, Dd.weaken (fun _ _ _ _ => trivial), nNest_warm hW C.2.2.2.2.2.2.2.2.2.2⟩⟩ rfl (by rw [List.length_map]; exact hz) L.1 rfl (lv_room (by rw [nCat]; exact hr)) hd ⟨hcs, hss⟩) S (fun q _ h => hsub q h) hsub (fun ad' t H1 lo1 ht hvm hp hB hz1 hk hS => ?_)
  have k2 := kk p e0 s m a b q c H1 lo1 ls ad' C (hok O) (fun i hi => (hp i (by omega)).trans (Ag i hi)) (by rw [← ht]; exact hB.1) (hB.2.weaken (fun _ _ _ h => hsub _ h)) hS (by rw [nl_ad hp hlv]; exact L)
  rw [st_ad hp hrest] at k2
  exact k2
end NWcalls
def hFill (a1 a2 i : Nat) (h : aH) : aH := (fun a b => if a = a1 ∧ b < i then 50 else if a = a2 ∧ b < i then (-1) else h.1 a b, h.2.1, h.2.2)
theorem hFill_0 (a1 a2 : Nat) (h : aH) : hFill a1 a2 0 h = h := by
  unfold hFill
  simp
theorem hFill_s {a1 a2 : Nat} (hne : a1 ≠ a2) (i : Nat) (h : aH) : sA (sA (hFill a1 a2 i h) a1 i 50) a2 i (-1) = hFill a1 a2 (i + 1) h := by
  unfold hFill sA
  refine Prod.ext ?_ rfl
  funext a b
  show (if a = a2 ∧ b = i then (-1 : Int32) else if a = a1 ∧ b = i then 50 else if a = a1 ∧ b < i then 50 else if a = a2 ∧ b < i then (-1) else h.1 a b) = if a = a1 ∧ b < i + 1 then 50 else if a = a2 ∧ b < i + 1 then (-1) else h.1 a b
  by_cases c1 : a = a1
  · subst c1
    have c2 : ¬ a = a2 := hne
    by_cases c3 : b = i
    · subst c3; simp [c2]
    · by_cases c4 : b < i
      · simp [c2, c3, c4, show b < i + 1 by omega]
      · simp [c2, c3, c4, show ¬ b < i + 1 by omega]
  · by_cases c2 : a = a2
    · subst c2
      by_cases c3 : b = i
      · subst c3; simp [c1]
      · by_cases c4 : b < i
        · simp [c1, c3, c4, show b < i + 1 by omega]
        · simp [c1, c3, c4, show ¬ b < i + 1 by omega]
    · simp [c1, c2]
theorem nOk_fill {n : Nat} {h : aH} {a1 a2 i : Nat} (ho : nOk n h) (h1 : a1 < n) (h2 : a2 < n) : nOk n (hFill a1 a2 i h) := by
  refine ⟨fun a j ha => ho.1 a j ha, fun a j ha => ⟨(ho.2 a j ha).1, (ho.2 a j ha).2.1, ?_⟩⟩
  have c1 : a ≠ a1 := by omega
  have c2 : a ≠ a2 := by omega
  show (if a = a1 ∧ j < i then (50 : Int32) else if a = a2 ∧ j < i then (-1) else h.1 a j) = 0
  rw [if_neg (fun z => c1 z.1), if_neg (fun z => c2 z.1)]
  exact (ho.2 a j ha).2.2

def KX2 (j : Nat) : (Nat × List Bool) ⊕ (Nat × Nat) := ([.inl (1, flX2), .inr (0, 256), .inr (0, 256), .inr (0, 256), .inr (0, 256), .inr (0, 12), .inr (0, 12), .inr (0, 12), .inr (0, 12), .inr (0, 12), .inr (0, 8), .inr (0, 8)] : List ((Nat × List Bool) ⊕ (Nat × Nat))).getD j (.inr (0, 0))
abbrev M_X2_init : aM := (yX2_init, cX2_init, 2, none)
theorem mf_X2_init : aMF M_X2_init 0 := ⟨wd_33, wd_2, ⟨by decide +kernel, by decide +kernel, by decide +kernel⟩, by decide +kernel, by decide⟩
def hX2 (k : Nat) (h : aH) : aH := (hFill (k + 1) (k + 2) 256 (sI (sI (sI (sR (sR (sI (sR (sR (sR (sR (sR (sR (sR (sR (sR h k 0 (k + 1)) k 1 (k + 2)) k 2 (k + 3)) k 3 (k + 4)) k 4 (k + 5)) k 5 (k + 6)) k 6 (k + 7)) k 7 (k + 8)) k 8 (k + 9)) k 9 0) k 10 (k + 10)) k 11 (k + 11)) k 12 0) k 13 0) k 14 1))
set_option maxRecDepth 100000 in
theorem nok_X2 (k : Nat) {h : aH} (ho : nOk (k + 1) h) : nOk (k + 12) (hX2 k h) := (nOk_fill (nOk_sI (nOk_sI (nOk_sI (nOk_sR (nOk_succ (nOk_sR (nOk_succ (nOk_sI (nOk_sR (nOk_succ (nOk_sR (nOk_succ (nOk_sR (nOk_succ (nOk_sR (nOk_succ (nOk_sR (nOk_succ (nOk_sR (nOk_succ (nOk_sR (nOk_succ (nOk_sR (nOk_succ (nOk_sR (nOk_succ ho) (by omega) (by omega))) (by omega) (by omega))) (by omega) (by omega))) (by omega) (by omega))) (by omega) (by omega))) (by omega) (by omega))) (by omega) (by omega))) (by omega) (by omega))) (by omega) (by omega)) (by omega))) (by omega) (by omega))) (by omega) (by omega)) (by omega)) (by omega)) (by omega)) (by omega) (by omega))
set_option maxHeartbeats 4000000 in
set_option maxRecDepth 100000 in
theorem nloop_X2 {l : Launch} {K : aK} {D : va_G} {cA : Nat → ClassId} (k : Nat) (hk : k < 1000) (hK : ∀ j, j < 12 → K (k + j) = KX2 j) {h : aH} (g1 : gR h k 0 = (k + 1)) (g2 : gR h k 1 = (k + 2)) {ad0 : Nat → Nat} {sz : Nat} : ∀ (w i : Nat), i + w = 256 → NW l K D cA (nRm 1 11 1100) M_X2_init (nQ K D cA ad0 (k + 1) sz (k + 12) (hFill (k + 1) (k + 2) 256 h)) ad0 (k + 1) sz 11 1100 118 [(1, .inl (nI i)), (0, .inr k)] [] (k + 12) (hFill (k + 1) (k + 2) i h) 11 1100 := by
  intro w
  induction w with
  | zero =>
    intro i hi
    have e : i = 256 := by omega
    subst e
    refine nw_iload_n dX2_init_118 rfl 0 rfl ?_
    refine nw_sipush (v := 256) dX2_init_119 (by decide) ?_
    refine nw_icmp_ge (tgt := 146) dX2_init_122 (by decide) (fun c => ?_) (fun c => absurd (by decide) c)
    exact nw_vret rfl dX2_init_146 rfl rfl
  | succ w ih =>
    intro i hi
    refine nw_iload_n dX2_init_118 rfl 0 rfl ?_
    refine nw_sipush (v := 256) dX2_init_119 (by decide) ?_
    refine nw_icmp_ge (tgt := 146) dX2_init_122 (by decide) (fun c => absurd c (nI_ge (a := i) (b := 256) (by omega) (by omega))) (fun c => ?_)
    refine nw_aload_n dX2_init_125 rfl 1 rfl ?_
    refine nw_getR (v := (k + 1)) cf_X2 0 (by decide) rfl wd_35 (by omega) (hK 0 (by decide)) g1 (by unfold nMark; omega) dX2_init_126 ?_
    refine nw_iload_n dX2_init_129 rfl 0 rfl ?_
    refine nw_bipush (v := 50) dX2_init_130 (by decide) ?_
    refine nw_iastore (N := 256) (by omega) (hK 1 (by decide)) (vp_in_nI (by omega) (by omega)) dX2_init_132 ?_
    refine nw_aload_n dX2_init_133 rfl 1 rfl ?_
    refine nw_getR (v := (k + 2)) cf_X2 1 (by decide) rfl wd_39 (by omega) (hK 0 (by decide)) g2 (by unfold nMark; omega) dX2_init_134 ?_
    refine nw_iload_n dX2_init_137 rfl 0 rfl ?_
    refine nw_iconst (v := (-1)) dX2_init_138 (by decide) ?_
    refine nw_iastore (N := 256) (by omega) (hK 2 (by decide)) (vp_in_nI (by omega) (by omega)) dX2_init_139 ?_
    refine nw_iinc (v := nI (i + 1)) (lv' := [(1, .inl (nI (i + 1))), (0, .inr k)]) dX2_init_140 (w := 0) rfl (nI_1 i) (by decide) (fun _ => rfl) ?_
    refine nw_goto (tgt := 118) dX2_init_143 (by decide) ?_
    have e : (nI i).toNatClampNeg = i := nI_clamp (by omega)
    rw [e, hFill_s (by omega)]
    exact ih (i + 1) (by omega)
set_option maxHeartbeats 4000000 in
set_option maxRecDepth 100000 in
theorem nm_X2 {l : Launch} {K : aK} {D : va_G} {cA : Nat → ClassId} (k : Nat) (hk : k < 1000) (hK : ∀ j, j < 12 → K (k + j) = KX2 j) (h : aH) (ho : nOk (k + 1) h) : ∀ (ad0 : Nat → Nat) (sz : Nat), NM l K D cA (nRm 1 11 1100) M_X2_init ad0 (k + 1) sz [.inr k] h (k + 12) (hX2 k h) 11 1100 := by
  intro ad0 sz
  refine nm_of mf_X2_init rfl (fun _ => Nat.le_of_ble_eq_true rfl) (lv := [(0, .inr k)]) (fun _ => rfl) ho ?_
  refine nw_aload_n dX2_init_0 rfl 0 rfl ?_
  refine nw_objInit dX2_init_1 wd_34 wd_27 wd_28 (Nat.le_of_ble_eq_true rfl) (Nat.le_of_ble_eq_true rfl) ?_
  refine nw_aload_n dX2_init_4 rfl 0 rfl ?_
  refine nw_sipush (v := 256) dX2_init_5 (by decide) ?_
  refine nw_newa (t := 0) (N := 256) (ty := .int) dX2_init_8 wd_115 rfl (fun _ => rfl) nRA_int (fun _ => rfl) (hK 1 (by decide)) (by decide) (by decide) (by decide) (List.forall_mem_cons.mpr ⟨(show nLt _ (.inr k) by show k < _; omega), List.forall_mem_nil _⟩) (List.forall_mem_cons.mpr ⟨(show nLt _ (.inr k) by show k < _; omega), List.forall_mem_nil _⟩) (by omega) (Nat.le_of_ble_eq_true rfl) (Nat.le_of_ble_eq_true rfl) ?_
  refine nw_putF cf_X2 0 (by decide) rfl wd_35 rfl rfl (fun _ => rfl) (fun _ => rfl) (by omega) (by omega) (by unfold nMark; omega) (hK 0 (by decide)) dX2_init_10 ?_
  refine nw_aload_n dX2_init_13 rfl 0 rfl ?_
  refine nw_sipush (v := 256) dX2_init_14 (by decide) ?_
  refine nw_newa (t := 0) (N := 256) (ty := .int) dX2_init_17 wd_115 rfl (fun _ => rfl) nRA_int (fun _ => rfl) (hK 2 (by decide)) (by decide) (by decide) (by decide) (List.forall_mem_cons.mpr ⟨(show nLt _ (.inr k) by show k < _; omega), List.forall_mem_nil _⟩) (List.forall_mem_cons.mpr ⟨(show nLt _ (.inr k) by show k < _; omega), List.forall_mem_nil _⟩) (by omega) (Nat.le_of_ble_eq_true rfl) (Nat.le_of_ble_eq_true rfl) ?_
  refine nw_putF cf_X2 1 (by decide) rfl wd_39 rfl rfl (fun _ => rfl) (fun _ => rfl) (by omega) (by omega) (by unfold nMark; omega) (hK 0 (by decide)) dX2_init_19 ?_
  refine nw_aload_n dX2_init_22 rfl 0 rfl ?_
  refine nw_sipush (v := 256) dX2_init_23 (by decide) ?_
  refine nw_newa (t := 0) (N := 256) (ty := .int) dX2_init_26 wd_115 rfl (fun _ => rfl) nRA_int (fun _ => rfl) (hK 3 (by decide)) (by decide) (by decide) (by decide) (List.forall_mem_cons.mpr ⟨(show nLt _ (.inr k) by show k < _; omega), List.forall_mem_nil _⟩) (List.forall_mem_cons.mpr ⟨(show nLt _ (.inr k) by show k < _; omega), List.forall_mem_nil _⟩) (by omega) (Nat.le_of_ble_eq_true rfl) (Nat.le_of_ble_eq_true rfl) ?_
  refine nw_putF cf_X2 2 (by decide) rfl wd_40 rfl rfl (fun _ => rfl) (fun _ => rfl) (by omega) (by omega) (by unfold nMark; omega) (hK 0 (by decide)) dX2_init_28 ?_
  refine nw_aload_n dX2_init_31 rfl 0 rfl ?_
  refine nw_sipush (v := 256) dX2_init_32 (by decide) ?_
  refine nw_newa (t := 0) (N := 256) (ty := .int) dX2_init_35 wd_115 rfl (fun _ => rfl) nRA_int (fun _ => rfl) (hK 4 (by decide)) (by decide) (by decide) (by decide) (List.forall_mem_cons.mpr ⟨(show nLt _ (.inr k) by show k < _; omega), List.forall_mem_nil _⟩) (List.forall_mem_cons.mpr ⟨(show nLt _ (.inr k) by show k < _; omega), List.forall_mem_nil _⟩) (by omega) (Nat.le_of_ble_eq_true rfl) (Nat.le_of_ble_eq_true rfl) ?_
  refine nw_putF cf_X2 3 (by decide) rfl wd_43 rfl rfl (fun _ => rfl) (fun _ => rfl) (by omega) (by omega) (by unfold nMark; omega) (hK 0 (by decide)) dX2_init_37 ?_
  refine nw_aload_n dX2_init_40 rfl 0 rfl ?_
  refine nw_bipush (v := 12) dX2_init_41 (by decide) ?_
  refine nw_newa (t := 0) (N := 12) (ty := .int) dX2_init_43 wd_115 rfl (fun _ => rfl) nRA_int (fun _ => rfl) (hK 5 (by decide)) (by decide) (by decide) (by decide) (List.forall_mem_cons.mpr ⟨(show nLt _ (.inr k) by show k < _; omega), List.forall_mem_nil _⟩) (List.forall_mem_cons.mpr ⟨(show nLt _ (.inr k) by show k < _; omega), List.forall_mem_nil _⟩) (by omega) (Nat.le_of_ble_eq_true rfl) (Nat.le_of_ble_eq_true rfl) ?_
  refine nw_putF cf_X2 4 (by decide) rfl wd_46 rfl rfl (fun _ => rfl) (fun _ => rfl) (by omega) (by omega) (by unfold nMark; omega) (hK 0 (by decide)) dX2_init_45 ?_
  refine nw_aload_n dX2_init_48 rfl 0 rfl ?_
  refine nw_bipush (v := 12) dX2_init_49 (by decide) ?_
  refine nw_newa (t := 0) (N := 12) (ty := .int) dX2_init_51 wd_115 rfl (fun _ => rfl) nRA_int (fun _ => rfl) (hK 6 (by decide)) (by decide) (by decide) (by decide) (List.forall_mem_cons.mpr ⟨(show nLt _ (.inr k) by show k < _; omega), List.forall_mem_nil _⟩) (List.forall_mem_cons.mpr ⟨(show nLt _ (.inr k) by show k < _; omega), List.forall_mem_nil _⟩) (by omega) (Nat.le_of_ble_eq_true rfl) (Nat.le_of_ble_eq_true rfl) ?_
  refine nw_putF cf_X2 5 (by decide) rfl wd_51 rfl rfl (fun _ => rfl) (fun _ => rfl) (by omega) (by omega) (by unfold nMark; omega) (hK 0 (by decide)) dX2_init_53 ?_
  refine nw_aload_n dX2_init_56 rfl 0 rfl ?_
  refine nw_bipush (v := 12) dX2_init_57 (by decide) ?_
  refine nw_newa (t := 0) (N := 12) (ty := .int) dX2_init_59 wd_115 rfl (fun _ => rfl) nRA_int (fun _ => rfl) (hK 7 (by decide)) (by decide) (by decide) (by decide) (List.forall_mem_cons.mpr ⟨(show nLt _ (.inr k) by show k < _; omega), List.forall_mem_nil _⟩) (List.forall_mem_cons.mpr ⟨(show nLt _ (.inr k) by show k < _; omega), List.forall_mem_nil _⟩) (by omega) (Nat.le_of_ble_eq_true rfl) (Nat.le_of_ble_eq_true rfl) ?_
  refine nw_putF cf_X2 6 (by decide) rfl wd_55 rfl rfl (fun _ => rfl) (fun _ => rfl) (by omega) (by omega) (by unfold nMark; omega) (hK 0 (by decide)) dX2_init_61 ?_
  refine nw_aload_n dX2_init_64 rfl 0 rfl ?_
  refine nw_bipush (v := 12) dX2_init_65 (by decide) ?_
  refine nw_newa (t := 0) (N := 12) (ty := .int) dX2_init_67 wd_115 rfl (fun _ => rfl) nRA_int (fun _ => rfl) (hK 8 (by decide)) (by decide) (by decide) (by decide) (List.forall_mem_cons.mpr ⟨(show nLt _ (.inr k) by show k < _; omega), List.forall_mem_nil _⟩) (List.forall_mem_cons.mpr ⟨(show nLt _ (.inr k) by show k < _; omega), List.forall_mem_nil _⟩) (by omega) (Nat.le_of_ble_eq_true rfl) (Nat.le_of_ble_eq_true rfl) ?_
  refine nw_putF cf_X2 7 (by decide) rfl wd_58 rfl rfl (fun _ => rfl) (fun _ => rfl) (by omega) (by omega) (by unfold nMark; omega) (hK 0 (by decide)) dX2_init_69 ?_
  refine nw_aload_n dX2_init_72 rfl 0 rfl ?_
  refine nw_bipush (v := 12) dX2_init_73 (by decide) ?_
  refine nw_newa (t := 0) (N := 12) (ty := .int) dX2_init_75 wd_115 rfl (fun _ => rfl) nRA_int (fun _ => rfl) (hK 9 (by decide)) (by decide) (by decide) (by decide) (List.forall_mem_cons.mpr ⟨(show nLt _ (.inr k) by show k < _; omega), List.forall_mem_nil _⟩) (List.forall_mem_cons.mpr ⟨(show nLt _ (.inr k) by show k < _; omega), List.forall_mem_nil _⟩) (by omega) (Nat.le_of_ble_eq_true rfl) (Nat.le_of_ble_eq_true rfl) ?_
  refine nw_putF cf_X2 8 (by decide) rfl wd_61 rfl rfl (fun _ => rfl) (fun _ => rfl) (by omega) (by omega) (by unfold nMark; omega) (hK 0 (by decide)) dX2_init_77 ?_
  refine nw_aload_n dX2_init_80 rfl 0 rfl ?_
  refine nw_iconst (v := 0) dX2_init_81 (by decide) ?_
  refine nw_putI cf_X2 9 (by decide) rfl wd_64 rfl rfl rfl (by omega) (hK 0 (by decide)) dX2_init_82 ?_
  refine nw_aload_n dX2_init_85 rfl 0 rfl ?_
  refine nw_bipush (v := 8) dX2_init_86 (by decide) ?_
  refine nw_newa (t := 0) (N := 8) (ty := .int) dX2_init_88 wd_115 rfl (fun _ => rfl) nRA_int (fun _ => rfl) (hK 10 (by decide)) (by decide) (by decide) (by decide) (List.forall_mem_cons.mpr ⟨(show nLt _ (.inr k) by show k < _; omega), List.forall_mem_nil _⟩) (List.forall_mem_cons.mpr ⟨(show nLt _ (.inr k) by show k < _; omega), List.forall_mem_nil _⟩) (by omega) (Nat.le_of_ble_eq_true rfl) (Nat.le_of_ble_eq_true rfl) ?_
  refine nw_putF cf_X2 10 (by decide) rfl wd_68 rfl rfl (fun _ => rfl) (fun _ => rfl) (by omega) (by omega) (by unfold nMark; omega) (hK 0 (by decide)) dX2_init_90 ?_
  refine nw_aload_n dX2_init_93 rfl 0 rfl ?_
  refine nw_bipush (v := 8) dX2_init_94 (by decide) ?_
  refine nw_newa (t := 0) (N := 8) (ty := .int) dX2_init_96 wd_115 rfl (fun _ => rfl) nRA_int (fun _ => rfl) (hK 11 (by decide)) (by decide) (by decide) (by decide) (List.forall_mem_cons.mpr ⟨(show nLt _ (.inr k) by show k < _; omega), List.forall_mem_nil _⟩) (List.forall_mem_cons.mpr ⟨(show nLt _ (.inr k) by show k < _; omega), List.forall_mem_nil _⟩) (by omega) (Nat.le_of_ble_eq_true rfl) (Nat.le_of_ble_eq_true rfl) ?_
  refine nw_putF cf_X2 11 (by decide) rfl wd_72 rfl rfl (fun _ => rfl) (fun _ => rfl) (by omega) (by omega) (by unfold nMark; omega) (hK 0 (by decide)) dX2_init_98 ?_
  refine nw_aload_n dX2_init_101 rfl 0 rfl ?_
  refine nw_iconst (v := 0) dX2_init_102 (by decide) ?_
  refine nw_putI cf_X2 12 (by decide) rfl wd_75 rfl rfl rfl (by omega) (hK 0 (by decide)) dX2_init_103 ?_
  refine nw_aload_n dX2_init_106 rfl 0 rfl ?_
  refine nw_iconst (v := 0) dX2_init_107 (by decide) ?_
  refine nw_putI cf_X2 13 (by decide) rfl wd_78 rfl rfl rfl (by omega) (hK 0 (by decide)) dX2_init_108 ?_
  refine nw_aload_n dX2_init_111 rfl 0 rfl ?_
  refine nw_iconst (v := 1) dX2_init_112 (by decide) ?_
  refine nw_putI cf_X2 14 (by decide) rfl wd_82 rfl rfl rfl (by omega) (hK 0 (by decide)) dX2_init_113 ?_
  refine nw_iconst (v := 0) dX2_init_116 (by decide) ?_
  refine nw_istore_n (lv' := [(1, .inl 0), (0, .inr k)]) dX2_init_117 rfl (by decide) (fun _ => rfl) ?_
  have q := nloop_X2 (l := l) (K := K) (D := D) (cA := cA) k hk hK (h := (sI (sI (sI (sR (sR (sI (sR (sR (sR (sR (sR (sR (sR (sR (sR h k 0 (k + 1)) k 1 (k + 2)) k 2 (k + 3)) k 3 (k + 4)) k 4 (k + 5)) k 5 (k + 6)) k 6 (k + 7)) k 7 (k + 8)) k 8 (k + 9)) k 9 0) k 10 (k + 10)) k 11 (k + 11)) k 12 0) k 13 0) k 14 1)) (by simp [gR, sR, sI]) (by simp [gR, sR, sI]) (ad0 := ad0) (sz := sz) 256 0 rfl
  rw [hFill_0] at q
  exact q
def KX8 (j : Nat) : (Nat × List Bool) ⊕ (Nat × Nat) := ([.inl (7, flX8), .inr (0, 220)] : List ((Nat × List Bool) ⊕ (Nat × Nat))).getD j (.inr (0, 0))
abbrev M_X8_init : aM := (yX8_init, cX8_init, 1, none)
theorem mf_X8_init : aMF M_X8_init 0 := ⟨wd_120, wd_3, ⟨by decide +kernel, by decide +kernel, by decide +kernel⟩, by decide +kernel, by decide⟩
def hX8 (k : Nat) (h : aH) : aH := (sI (sR h k 0 (k + 1)) k 1 0)
set_option maxRecDepth 100000 in
theorem nok_X8 (k : Nat) {h : aH} (ho : nOk (k + 1) h) : nOk (k + 2) (hX8 k h) := (nOk_sI (nOk_sR (nOk_succ ho) (by omega) (by omega)) (by omega))
set_option maxHeartbeats 4000000 in
set_option maxRecDepth 100000 in
theorem nm_X8 {l : Launch} {K : aK} {D : va_G} {cA : Nat → ClassId} (k : Nat) (hk : k < 1000) (hK : ∀ j, j < 2 → K (k + j) = KX8 j) (h : aH) (ho : nOk (k + 1) h) : ∀ (ad0 : Nat → Nat) (sz : Nat), NM l K D cA (nRm 1 1 220) M_X8_init ad0 (k + 1) sz [.inr k] h (k + 2) (hX8 k h) 1 220 := by
  intro ad0 sz
  refine nm_of mf_X8_init rfl (fun _ => Nat.le_of_ble_eq_true rfl) (lv := [(0, .inr k)]) (fun _ => rfl) ho ?_
  refine nw_aload_n dX8_init_0 rfl 0 rfl ?_
  refine nw_objInit dX8_init_1 wd_121 wd_27 wd_28 (Nat.le_of_ble_eq_true rfl) (Nat.le_of_ble_eq_true rfl) ?_
  refine nw_aload_n dX8_init_4 rfl 0 rfl ?_
  refine nw_sipush (v := 220) dX8_init_5 (by decide) ?_
  refine nw_newa (t := 0) (N := 220) (ty := .int) dX8_init_8 wd_115 rfl (fun _ => rfl) nRA_int (fun _ => rfl) (hK 1 (by decide)) (by decide) (by decide) (by decide) (List.forall_mem_cons.mpr ⟨(show nLt _ (.inr k) by show k < _; omega), List.forall_mem_nil _⟩) (List.forall_mem_cons.mpr ⟨(show nLt _ (.inr k) by show k < _; omega), List.forall_mem_nil _⟩) (by omega) (Nat.le_of_ble_eq_true rfl) (Nat.le_of_ble_eq_true rfl) ?_
  refine nw_putF cf_X8 0 (by decide) rfl wd_122 rfl rfl (fun _ => rfl) (fun _ => rfl) (by omega) (by omega) (by unfold nMark; omega) (hK 0 (by decide)) dX8_init_10 ?_
  refine nw_aload_n dX8_init_13 rfl 0 rfl ?_
  refine nw_iconst (v := 0) dX8_init_14 (by decide) ?_
  refine nw_putI cf_X8 1 (by decide) rfl wd_124 rfl rfl rfl (by omega) (hK 0 (by decide)) dX8_init_15 ?_
  exact nw_vret rfl dX8_init_18 rfl rfl
def KX9 (j : Nat) : (Nat × List Bool) ⊕ (Nat × Nat) := ([.inl (8, flX9), .inr (0, 40), .inr (0, 40)] : List ((Nat × List Bool) ⊕ (Nat × Nat))).getD j (.inr (0, 0))
abbrev M_X9_init : aM := (yX9_init, cX9_init, 1, none)
theorem mf_X9_init : aMF M_X9_init 0 := ⟨wd_136, wd_4, ⟨by decide +kernel, by decide +kernel, by decide +kernel⟩, by decide +kernel, by decide⟩
def hX9 (k : Nat) (h : aH) : aH := (sI (sR (sR h k 0 (k + 1)) k 1 (k + 2)) k 2 0)
set_option maxRecDepth 100000 in
theorem nok_X9 (k : Nat) {h : aH} (ho : nOk (k + 1) h) : nOk (k + 3) (hX9 k h) := (nOk_sI (nOk_sR (nOk_succ (nOk_sR (nOk_succ ho) (by omega) (by omega))) (by omega) (by omega)) (by omega))
set_option maxHeartbeats 4000000 in
set_option maxRecDepth 100000 in
theorem nm_X9 {l : Launch} {K : aK} {D : va_G} {cA : Nat → ClassId} (k : Nat) (hk : k < 1000) (hK : ∀ j, j < 3 → K (k + j) = KX9 j) (h : aH) (ho : nOk (k + 1) h) : ∀ (ad0 : Nat → Nat) (sz : Nat), NM l K D cA (nRm 1 2 80) M_X9_init ad0 (k + 1) sz [.inr k] h (k + 3) (hX9 k h) 2 80 := by
  intro ad0 sz
  refine nm_of mf_X9_init rfl (fun _ => Nat.le_of_ble_eq_true rfl) (lv := [(0, .inr k)]) (fun _ => rfl) ho ?_
  refine nw_aload_n dX9_init_0 rfl 0 rfl ?_
  refine nw_objInit dX9_init_1 wd_137 wd_27 wd_28 (Nat.le_of_ble_eq_true rfl) (Nat.le_of_ble_eq_true rfl) ?_
  refine nw_aload_n dX9_init_4 rfl 0 rfl ?_
  refine nw_bipush (v := 40) dX9_init_5 (by decide) ?_
  refine nw_newa (t := 0) (N := 40) (ty := .int) dX9_init_7 wd_115 rfl (fun _ => rfl) nRA_int (fun _ => rfl) (hK 1 (by decide)) (by decide) (by decide) (by decide) (List.forall_mem_cons.mpr ⟨(show nLt _ (.inr k) by show k < _; omega), List.forall_mem_nil _⟩) (List.forall_mem_cons.mpr ⟨(show nLt _ (.inr k) by show k < _; omega), List.forall_mem_nil _⟩) (by omega) (Nat.le_of_ble_eq_true rfl) (Nat.le_of_ble_eq_true rfl) ?_
  refine nw_putF cf_X9 0 (by decide) rfl wd_138 rfl rfl (fun _ => rfl) (fun _ => rfl) (by omega) (by omega) (by unfold nMark; omega) (hK 0 (by decide)) dX9_init_9 ?_
  refine nw_aload_n dX9_init_12 rfl 0 rfl ?_
  refine nw_bipush (v := 40) dX9_init_13 (by decide) ?_
  refine nw_newa (t := 0) (N := 40) (ty := .int) dX9_init_15 wd_115 rfl (fun _ => rfl) nRA_int (fun _ => rfl) (hK 2 (by decide)) (by decide) (by decide) (by decide) (List.forall_mem_cons.mpr ⟨(show nLt _ (.inr k) by show k < _; omega), List.forall_mem_nil _⟩) (List.forall_mem_cons.mpr ⟨(show nLt _ (.inr k) by show k < _; omega), List.forall_mem_nil _⟩) (by omega) (Nat.le_of_ble_eq_true rfl) (Nat.le_of_ble_eq_true rfl) ?_
  refine nw_putF cf_X9 1 (by decide) rfl wd_141 rfl rfl (fun _ => rfl) (fun _ => rfl) (by omega) (by omega) (by unfold nMark; omega) (hK 0 (by decide)) dX9_init_17 ?_
  refine nw_aload_n dX9_init_20 rfl 0 rfl ?_
  refine nw_iconst (v := 0) dX9_init_21 (by decide) ?_
  refine nw_putI cf_X9 2 (by decide) rfl wd_144 rfl rfl rfl (by omega) (hK 0 (by decide)) dX9_init_22 ?_
  exact nw_vret rfl dX9_init_25 rfl rfl
def KX3 (j : Nat) : (Nat × List Bool) ⊕ (Nat × Nat) := ([.inl (2, flX3), .inr (0, 200), .inr (0, 200), .inr (0, 14), .inr (0, 14), .inr (0, 14), .inr (0, 12), .inr (0, 64)] : List ((Nat × List Bool) ⊕ (Nat × Nat))).getD j (.inr (0, 0))
abbrev M_X3_init : aM := (yX3_init, cX3_init, 1, none)
theorem mf_X3_init : aMF M_X3_init 0 := ⟨wd_165, wd_6, ⟨by decide +kernel, by decide +kernel, by decide +kernel⟩, by decide +kernel, by decide⟩
def hX3 (k : Nat) (h : aH) : aH := (sI (sR (sR (sI (sR (sR (sR (sI (sR (sR h k 0 (k + 1)) k 1 (k + 2)) k 2 0) k 3 (k + 3)) k 4 (k + 4)) k 5 (k + 5)) k 6 0) k 7 (k + 6)) k 8 (k + 7)) k 9 0)
set_option maxRecDepth 100000 in
theorem nok_X3 (k : Nat) {h : aH} (ho : nOk (k + 1) h) : nOk (k + 8) (hX3 k h) := (nOk_sI (nOk_sR (nOk_succ (nOk_sR (nOk_succ (nOk_sI (nOk_sR (nOk_succ (nOk_sR (nOk_succ (nOk_sR (nOk_succ (nOk_sI (nOk_sR (nOk_succ (nOk_sR (nOk_succ ho) (by omega) (by omega))) (by omega) (by omega)) (by omega))) (by omega) (by omega))) (by omega) (by omega))) (by omega) (by omega)) (by omega))) (by omega) (by omega))) (by omega) (by omega)) (by omega))
set_option maxHeartbeats 4000000 in
set_option maxRecDepth 100000 in
theorem nm_X3 {l : Launch} {K : aK} {D : va_G} {cA : Nat → ClassId} (k : Nat) (hk : k < 1000) (hK : ∀ j, j < 8 → K (k + j) = KX3 j) (h : aH) (ho : nOk (k + 1) h) : ∀ (ad0 : Nat → Nat) (sz : Nat), NM l K D cA (nRm 1 7 518) M_X3_init ad0 (k + 1) sz [.inr k] h (k + 8) (hX3 k h) 7 518 := by
  intro ad0 sz
  refine nm_of mf_X3_init rfl (fun _ => Nat.le_of_ble_eq_true rfl) (lv := [(0, .inr k)]) (fun _ => rfl) ho ?_
  refine nw_aload_n dX3_init_0 rfl 0 rfl ?_
  refine nw_objInit dX3_init_1 wd_166 wd_27 wd_28 (Nat.le_of_ble_eq_true rfl) (Nat.le_of_ble_eq_true rfl) ?_
  refine nw_aload_n dX3_init_4 rfl 0 rfl ?_
  refine nw_sipush (v := 200) dX3_init_5 (by decide) ?_
  refine nw_newa (t := 0) (N := 200) (ty := .int) dX3_init_8 wd_115 rfl (fun _ => rfl) nRA_int (fun _ => rfl) (hK 1 (by decide)) (by decide) (by decide) (by decide) (List.forall_mem_cons.mpr ⟨(show nLt _ (.inr k) by show k < _; omega), List.forall_mem_nil _⟩) (List.forall_mem_cons.mpr ⟨(show nLt _ (.inr k) by show k < _; omega), List.forall_mem_nil _⟩) (by omega) (Nat.le_of_ble_eq_true rfl) (Nat.le_of_ble_eq_true rfl) ?_
  refine nw_putF cf_X3 0 (by decide) rfl wd_167 rfl rfl (fun _ => rfl) (fun _ => rfl) (by omega) (by omega) (by unfold nMark; omega) (hK 0 (by decide)) dX3_init_10 ?_
  refine nw_aload_n dX3_init_13 rfl 0 rfl ?_
  refine nw_sipush (v := 200) dX3_init_14 (by decide) ?_
  refine nw_newa (t := 0) (N := 200) (ty := .int) dX3_init_17 wd_115 rfl (fun _ => rfl) nRA_int (fun _ => rfl) (hK 2 (by decide)) (by decide) (by decide) (by decide) (List.forall_mem_cons.mpr ⟨(show nLt _ (.inr k) by show k < _; omega), List.forall_mem_nil _⟩) (List.forall_mem_cons.mpr ⟨(show nLt _ (.inr k) by show k < _; omega), List.forall_mem_nil _⟩) (by omega) (Nat.le_of_ble_eq_true rfl) (Nat.le_of_ble_eq_true rfl) ?_
  refine nw_putF cf_X3 1 (by decide) rfl wd_168 rfl rfl (fun _ => rfl) (fun _ => rfl) (by omega) (by omega) (by unfold nMark; omega) (hK 0 (by decide)) dX3_init_19 ?_
  refine nw_aload_n dX3_init_22 rfl 0 rfl ?_
  refine nw_iconst (v := 0) dX3_init_23 (by decide) ?_
  refine nw_putI cf_X3 2 (by decide) rfl wd_169 rfl rfl rfl (by omega) (hK 0 (by decide)) dX3_init_24 ?_
  refine nw_aload_n dX3_init_27 rfl 0 rfl ?_
  refine nw_bipush (v := 14) dX3_init_28 (by decide) ?_
  refine nw_newa (t := 0) (N := 14) (ty := .int) dX3_init_30 wd_115 rfl (fun _ => rfl) nRA_int (fun _ => rfl) (hK 3 (by decide)) (by decide) (by decide) (by decide) (List.forall_mem_cons.mpr ⟨(show nLt _ (.inr k) by show k < _; omega), List.forall_mem_nil _⟩) (List.forall_mem_cons.mpr ⟨(show nLt _ (.inr k) by show k < _; omega), List.forall_mem_nil _⟩) (by omega) (Nat.le_of_ble_eq_true rfl) (Nat.le_of_ble_eq_true rfl) ?_
  refine nw_putF cf_X3 3 (by decide) rfl wd_170 rfl rfl (fun _ => rfl) (fun _ => rfl) (by omega) (by omega) (by unfold nMark; omega) (hK 0 (by decide)) dX3_init_32 ?_
  refine nw_aload_n dX3_init_35 rfl 0 rfl ?_
  refine nw_bipush (v := 14) dX3_init_36 (by decide) ?_
  refine nw_newa (t := 0) (N := 14) (ty := .int) dX3_init_38 wd_115 rfl (fun _ => rfl) nRA_int (fun _ => rfl) (hK 4 (by decide)) (by decide) (by decide) (by decide) (List.forall_mem_cons.mpr ⟨(show nLt _ (.inr k) by show k < _; omega), List.forall_mem_nil _⟩) (List.forall_mem_cons.mpr ⟨(show nLt _ (.inr k) by show k < _; omega), List.forall_mem_nil _⟩) (by omega) (Nat.le_of_ble_eq_true rfl) (Nat.le_of_ble_eq_true rfl) ?_
  refine nw_putF cf_X3 4 (by decide) rfl wd_171 rfl rfl (fun _ => rfl) (fun _ => rfl) (by omega) (by omega) (by unfold nMark; omega) (hK 0 (by decide)) dX3_init_40 ?_
  refine nw_aload_n dX3_init_43 rfl 0 rfl ?_
  refine nw_bipush (v := 14) dX3_init_44 (by decide) ?_
  refine nw_newa (t := 0) (N := 14) (ty := .int) dX3_init_46 wd_115 rfl (fun _ => rfl) nRA_int (fun _ => rfl) (hK 5 (by decide)) (by decide) (by decide) (by decide) (List.forall_mem_cons.mpr ⟨(show nLt _ (.inr k) by show k < _; omega), List.forall_mem_nil _⟩) (List.forall_mem_cons.mpr ⟨(show nLt _ (.inr k) by show k < _; omega), List.forall_mem_nil _⟩) (by omega) (Nat.le_of_ble_eq_true rfl) (Nat.le_of_ble_eq_true rfl) ?_
  refine nw_putF cf_X3 5 (by decide) rfl wd_172 rfl rfl (fun _ => rfl) (fun _ => rfl) (by omega) (by omega) (by unfold nMark; omega) (hK 0 (by decide)) dX3_init_48 ?_
  refine nw_aload_n dX3_init_51 rfl 0 rfl ?_
  refine nw_iconst (v := 0) dX3_init_52 (by decide) ?_
  refine nw_putI cf_X3 6 (by decide) rfl wd_173 rfl rfl rfl (by omega) (hK 0 (by decide)) dX3_init_53 ?_
  refine nw_aload_n dX3_init_56 rfl 0 rfl ?_
  refine nw_bipush (v := 12) dX3_init_57 (by decide) ?_
  refine nw_newa (t := 0) (N := 12) (ty := .int) dX3_init_59 wd_115 rfl (fun _ => rfl) nRA_int (fun _ => rfl) (hK 6 (by decide)) (by decide) (by decide) (by decide) (List.forall_mem_cons.mpr ⟨(show nLt _ (.inr k) by show k < _; omega), List.forall_mem_nil _⟩) (List.forall_mem_cons.mpr ⟨(show nLt _ (.inr k) by show k < _; omega), List.forall_mem_nil _⟩) (by omega) (Nat.le_of_ble_eq_true rfl) (Nat.le_of_ble_eq_true rfl) ?_
  refine nw_putF cf_X3 7 (by decide) rfl wd_175 rfl rfl (fun _ => rfl) (fun _ => rfl) (by omega) (by omega) (by unfold nMark; omega) (hK 0 (by decide)) dX3_init_61 ?_
  refine nw_aload_n dX3_init_64 rfl 0 rfl ?_
  refine nw_bipush (v := 64) dX3_init_65 (by decide) ?_
  refine nw_newa (t := 0) (N := 64) (ty := .int) dX3_init_67 wd_115 rfl (fun _ => rfl) nRA_int (fun _ => rfl) (hK 7 (by decide)) (by decide) (by decide) (by decide) (List.forall_mem_cons.mpr ⟨(show nLt _ (.inr k) by show k < _; omega), List.forall_mem_nil _⟩) (List.forall_mem_cons.mpr ⟨(show nLt _ (.inr k) by show k < _; omega), List.forall_mem_nil _⟩) (by omega) (Nat.le_of_ble_eq_true rfl) (Nat.le_of_ble_eq_true rfl) ?_
  refine nw_putF cf_X3 8 (by decide) rfl wd_176 rfl rfl (fun _ => rfl) (fun _ => rfl) (by omega) (by omega) (by unfold nMark; omega) (hK 0 (by decide)) dX3_init_69 ?_
  refine nw_aload_n dX3_init_72 rfl 0 rfl ?_
  refine nw_iconst (v := 0) dX3_init_73 (by decide) ?_
  refine nw_putI cf_X3 9 (by decide) rfl wd_177 rfl (by decide) (by decide) (by omega) (hK 0 (by decide)) dX3_init_74 ?_
  exact nw_vret rfl dX3_init_77 rfl rfl
def KX5 (j : Nat) : (Nat × List Bool) ⊕ (Nat × Nat) := ([.inl (4, flX5), .inl (2, flX3), .inr (0, 200), .inr (0, 200), .inr (0, 14), .inr (0, 14), .inr (0, 14), .inr (0, 12), .inr (0, 64), .inr (0, 8)] : List ((Nat × List Bool) ⊕ (Nat × Nat))).getD j (.inr (0, 0))
abbrev M_X5_init : aM := (yX5_init, cX5_init, 1, none)
theorem mf_X5_init : aMF M_X5_init 0 := ⟨wd_159, wd_5, ⟨by decide +kernel, by decide +kernel, by decide +kernel⟩, by decide +kernel, by decide⟩
def hX5 (k : Nat) (h : aH) : aH := (sR (sR (hX3 (k + 1) h) k 0 (k + 1)) k 1 (k + 9))
set_option maxRecDepth 100000 in
theorem nok_X5 (k : Nat) {h : aH} (ho : nOk (k + 1) h) : nOk (k + 10) (hX5 k h) := (nOk_sR (nOk_succ (nOk_sR (nok_X3 (k + 1) (nOk_succ ho)) (by omega) (by omega))) (by omega) (by omega))
set_option maxHeartbeats 4000000 in
set_option maxRecDepth 100000 in
theorem nm_X5 {l : Launch} {K : aK} {D : va_G} {cA : Nat → ClassId} (k : Nat) (hk : k < 900) (hK : ∀ j, j < 10 → K (k + j) = KX5 j) (h : aH) (ho : nOk (k + 1) h) : ∀ (ad0 : Nat → Nat) (sz : Nat), NM l K D cA (nRm 2 9 536) M_X5_init ad0 (k + 1) sz [.inr k] h (k + 10) (hX5 k h) 9 536 := by
  intro ad0 sz
  refine nm_of mf_X5_init rfl (fun _ => Nat.le_of_ble_eq_true rfl) (lv := [(0, .inr k)]) (fun _ => rfl) ho ?_
  refine nw_aload_n dX5_init_0 rfl 0 rfl ?_
  refine nw_objInit dX5_init_1 wd_160 wd_27 wd_28 (Nat.le_of_ble_eq_true rfl) (Nat.le_of_ble_eq_true rfl) ?_
  refine nw_aload_n dX5_init_4 rfl 0 rfl ?_
  refine nw_new dX5_init_5 cf_X3 wd_161 wd_162 wd_6 (hK 1 (by decide)) (by decide) (List.forall_mem_cons.mpr ⟨(show nLt _ (.inr k) by show k < _; omega), List.forall_mem_nil _⟩) (List.forall_mem_cons.mpr ⟨(show nLt _ (.inr k) by show k < _; omega), List.forall_mem_nil _⟩) (by unfold nMark; omega) (by omega) (Nat.le_of_ble_eq_true rfl) (Nat.le_of_ble_eq_true rfl) ?_
  refine nw_dup dX5_init_8 ?_
  refine nw_ctorN (av := []) (rest := [.inr (k + 1), .inr k]) (fun ho => nm_X3 (k + 1) (by omega) (fun j hj => by rw [Nat.add_assoc]; exact (hK (1 + j) (by omega)).trans ((by decide : ∀ j, j < 8 → KX5 (1 + j) = KX3 j) j hj)) _ ho) (fun ho => nok_X3 (k + 1) ho) rfl rfl mf_X3_init rfl wd_163 wd_164 rfl rfl ⟨Nat.le_of_ble_eq_true rfl, Nat.le_of_ble_eq_true rfl⟩ (List.forall_mem_cons.mpr ⟨(show nLt _ (.inr k) by show k < _; omega), List.forall_mem_nil _⟩) (List.forall_mem_cons.mpr ⟨(show nLt _ (.inr (k + 1)) by show (k + 1) < _; omega), List.forall_mem_cons.mpr ⟨(show nLt _ (.inr k) by show k < _; omega), List.forall_mem_nil _⟩⟩) (by omega) (Nat.le_of_ble_eq_true rfl) (Nat.le_of_ble_eq_true rfl) (Nat.le_of_ble_eq_true rfl) dX5_init_9 ?_
  refine nw_putR cf_X5 0 (by decide) rfl wd_199 rfl (fun _ => rfl) (fun _ => rfl) (by omega) (by omega) (by unfold nMark; omega) (hK 0 (by decide)) dX5_init_12 ?_
  refine nw_aload_n dX5_init_15 rfl 0 rfl ?_
  refine nw_bipush (v := 8) dX5_init_16 (by decide) ?_
  refine nw_newa (t := 0) (N := 8) (ty := .int) dX5_init_18 wd_115 rfl (fun _ => rfl) nRA_int (fun _ => rfl) (hK 9 (by decide)) (by decide) (by decide) (by decide) (List.forall_mem_cons.mpr ⟨(show nLt _ (.inr k) by show k < _; omega), List.forall_mem_nil _⟩) (List.forall_mem_cons.mpr ⟨(show nLt _ (.inr k) by show k < _; omega), List.forall_mem_nil _⟩) (by omega) (Nat.le_of_ble_eq_true rfl) (Nat.le_of_ble_eq_true rfl) ?_
  refine nw_putF cf_X5 1 (by decide) rfl wd_201 rfl rfl (fun _ => rfl) (fun _ => rfl) (by omega) (by omega) (by unfold nMark; omega) (hK 0 (by decide)) dX5_init_20 ?_
  exact nw_vret rfl dX5_init_23 rfl rfl
def KX4 (j : Nat) : (Nat × List Bool) ⊕ (Nat × Nat) := ([.inl (3, flX4), .inl (2, flX3), .inr (0, 200), .inr (0, 200), .inr (0, 14), .inr (0, 14), .inr (0, 14), .inr (0, 12), .inr (0, 64)] : List ((Nat × List Bool) ⊕ (Nat × Nat))).getD j (.inr (0, 0))
abbrev M_X4_init : aM := (yX4_init, cX4_init, 2, none)
theorem mf_X4_init : aMF M_X4_init 1 := ⟨wd_211, wd_7, ⟨by decide +kernel, by decide +kernel, by decide +kernel⟩, by decide +kernel, by decide⟩
def hX4 (k : Nat) (t : Nat) (h : aH) : aH := (sR (sI (sI (sI (sR (hX3 (k + 1) h) k 1 (k + 1)) k 2 0) k 3 0) k 4 0) k 0 t)
set_option maxRecDepth 100000 in
theorem nok_X4 (k : Nat) (t : Nat) (ht : t < k) {h : aH} (ho : nOk (k + 1) h) : nOk (k + 9) (hX4 k t h) := (nOk_sR (nOk_sI (nOk_sI (nOk_sI (nOk_sR (nok_X3 (k + 1) (nOk_succ ho)) (by omega) (by omega)) (by omega)) (by omega)) (by omega)) (by omega) (by omega))
set_option maxHeartbeats 4000000 in
set_option maxRecDepth 100000 in
theorem nm_X4 {l : Launch} {K : aK} {D : va_G} {cA : Nat → ClassId} (k : Nat) (hk : k < 900) (t : Nat) (ht : t < k) (hK : ∀ j, j < 9 → K (k + j) = KX4 j) (h : aH) (ho : nOk (k + 1) h) : ∀ (ad0 : Nat → Nat) (sz : Nat), NM l K D cA (nRm 2 8 528) M_X4_init ad0 (k + 1) sz [.inr k, .inr t] h (k + 9) (hX4 k t h) 8 528 := by
  intro ad0 sz
  refine nm_of mf_X4_init rfl (fun _ => Nat.le_of_ble_eq_true rfl) (lv := [(0, .inr k), (1, .inr t)]) (fun _ => rfl) ho ?_
  refine nw_aload_n dX4_init_0 rfl 0 rfl ?_
  refine nw_objInit dX4_init_1 wd_212 wd_27 wd_28 (Nat.le_of_ble_eq_true rfl) (Nat.le_of_ble_eq_true rfl) ?_
  refine nw_aload_n dX4_init_4 rfl 0 rfl ?_
  refine nw_new dX4_init_5 cf_X3 wd_213 wd_162 wd_6 (hK 1 (by decide)) (by decide) (List.forall_mem_cons.mpr ⟨(show nLt _ (.inr k) by show k < _; omega), List.forall_mem_cons.mpr ⟨(show nLt _ (.inr t) by show t < _; omega), List.forall_mem_nil _⟩⟩) (List.forall_mem_cons.mpr ⟨(show nLt _ (.inr k) by show k < _; omega), List.forall_mem_nil _⟩) (by unfold nMark; omega) (by omega) (Nat.le_of_ble_eq_true rfl) (Nat.le_of_ble_eq_true rfl) ?_
  refine nw_dup dX4_init_8 ?_
  refine nw_ctorN (av := []) (rest := [.inr (k + 1), .inr k]) (fun ho => nm_X3 (k + 1) (by omega) (fun j hj => by rw [Nat.add_assoc]; exact (hK (1 + j) (by omega)).trans ((by decide : ∀ j, j < 8 → KX4 (1 + j) = KX3 j) j hj)) _ ho) (fun ho => nok_X3 (k + 1) ho) rfl rfl mf_X3_init rfl wd_214 wd_164 rfl rfl ⟨Nat.le_of_ble_eq_true rfl, Nat.le_of_ble_eq_true rfl⟩ (List.forall_mem_cons.mpr ⟨(show nLt _ (.inr k) by show k < _; omega), List.forall_mem_cons.mpr ⟨(show nLt _ (.inr t) by show t < _; omega), List.forall_mem_nil _⟩⟩) (List.forall_mem_cons.mpr ⟨(show nLt _ (.inr (k + 1)) by show (k + 1) < _; omega), List.forall_mem_cons.mpr ⟨(show nLt _ (.inr k) by show k < _; omega), List.forall_mem_nil _⟩⟩) (by omega) (Nat.le_of_ble_eq_true rfl) (Nat.le_of_ble_eq_true rfl) (Nat.le_of_ble_eq_true rfl) dX4_init_9 ?_
  refine nw_putR cf_X4 1 (by decide) rfl wd_216 rfl (fun _ => rfl) (fun _ => rfl) (by omega) (by omega) (by unfold nMark; omega) (hK 0 (by decide)) dX4_init_12 ?_
  refine nw_aload_n dX4_init_15 rfl 0 rfl ?_
  refine nw_iconst (v := 0) dX4_init_16 (by decide) ?_
  refine nw_putI cf_X4 2 (by decide) rfl wd_217 rfl rfl rfl (by omega) (hK 0 (by decide)) dX4_init_17 ?_
  refine nw_aload_n dX4_init_20 rfl 0 rfl ?_
  refine nw_iconst (v := 0) dX4_init_21 (by decide) ?_
  refine nw_putI cf_X4 3 (by decide) rfl wd_218 rfl rfl rfl (by omega) (hK 0 (by decide)) dX4_init_22 ?_
  refine nw_aload_n dX4_init_25 rfl 0 rfl ?_
  refine nw_iconst (v := 0) dX4_init_26 (by decide) ?_
  refine nw_putI cf_X4 4 (by decide) rfl wd_219 rfl rfl rfl (by omega) (hK 0 (by decide)) dX4_init_27 ?_
  refine nw_aload_n dX4_init_30 rfl 0 rfl ?_
  refine nw_aload_n dX4_init_31 rfl 1 rfl ?_
  refine nw_putF cf_X4 0 (by decide) rfl wd_215 rfl rfl (fun _ => rfl) (fun _ => rfl) (by omega) (by omega) (by unfold nMark; omega) (hK 0 (by decide)) dX4_init_32 ?_
  exact nw_vret rfl dX4_init_35 rfl rfl
def KX7 (j : Nat) : (Nat × List Bool) ⊕ (Nat × Nat) := ([.inl (6, flX7), .inr (0, 1024), .inr (1, 10), .inr (0, 100), .inr (0, 10)] : List ((Nat × List Bool) ⊕ (Nat × Nat))).getD j (.inr (0, 0))
abbrev M_X7_init : aM := (yX7_init, cX7_init, 1, none)
theorem mf_X7_init : aMF M_X7_init 0 := ⟨wd_235, wd_8, ⟨by decide +kernel, by decide +kernel, by decide +kernel⟩, by decide +kernel, by decide⟩
def hX7 (k : Nat) (h : aH) : aH := (sR (sR (sR (sR h k 0 (k + 1)) k 1 (k + 2)) k 2 (k + 3)) k 3 (k + 4))
set_option maxRecDepth 100000 in
theorem nok_X7 (k : Nat) {h : aH} (ho : nOk (k + 1) h) : nOk (k + 5) (hX7 k h) := (nOk_sR (nOk_succ (nOk_sR (nOk_succ (nOk_sR (nOk_succ (nOk_sR (nOk_succ ho) (by omega) (by omega))) (by omega) (by omega))) (by omega) (by omega))) (by omega) (by omega))
set_option maxHeartbeats 4000000 in
set_option maxRecDepth 100000 in
theorem nm_X7 {l : Launch} {K : aK} {D : va_G} {cA : Nat → ClassId} (k : Nat) (hk : k < 1000) (hK : ∀ j, j < 5 → K (k + j) = KX7 j) (h : aH) (ho : nOk (k + 1) h) : ∀ (ad0 : Nat → Nat) (sz : Nat), NM l K D cA (nRm 1 4 1144) M_X7_init ad0 (k + 1) sz [.inr k] h (k + 5) (hX7 k h) 4 1144 := by
  intro ad0 sz
  refine nm_of mf_X7_init rfl (fun _ => Nat.le_of_ble_eq_true rfl) (lv := [(0, .inr k)]) (fun _ => rfl) ho ?_
  refine nw_aload_n dX7_init_0 rfl 0 rfl ?_
  refine nw_objInit dX7_init_1 wd_236 wd_27 wd_28 (Nat.le_of_ble_eq_true rfl) (Nat.le_of_ble_eq_true rfl) ?_
  refine nw_aload_n dX7_init_4 rfl 0 rfl ?_
  refine nw_sipush (v := 1024) dX7_init_5 (by decide) ?_
  refine nw_newa (t := 0) (N := 1024) (ty := .int) dX7_init_8 wd_115 rfl (fun _ => rfl) nRA_int (fun _ => rfl) (hK 1 (by decide)) (by decide) (by decide) (by decide) (List.forall_mem_cons.mpr ⟨(show nLt _ (.inr k) by show k < _; omega), List.forall_mem_nil _⟩) (List.forall_mem_cons.mpr ⟨(show nLt _ (.inr k) by show k < _; omega), List.forall_mem_nil _⟩) (by omega) (Nat.le_of_ble_eq_true rfl) (Nat.le_of_ble_eq_true rfl) ?_
  refine nw_putF cf_X7 0 (by decide) rfl wd_237 rfl rfl (fun _ => rfl) (fun _ => rfl) (by omega) (by omega) (by unfold nMark; omega) (hK 0 (by decide)) dX7_init_10 ?_
  refine nw_aload_n dX7_init_13 rfl 0 rfl ?_
  refine nw_bipush (v := 10) dX7_init_14 (by decide) ?_
  refine nw_newa (t := 1) (N := 10) (ty := .boolean) dX7_init_16 wd_250 rfl (fun _ => rfl) nRA_boolean (fun _ => rfl) (hK 2 (by decide)) (by decide) (by decide) (by decide) (List.forall_mem_cons.mpr ⟨(show nLt _ (.inr k) by show k < _; omega), List.forall_mem_nil _⟩) (List.forall_mem_cons.mpr ⟨(show nLt _ (.inr k) by show k < _; omega), List.forall_mem_nil _⟩) (by omega) (Nat.le_of_ble_eq_true rfl) (Nat.le_of_ble_eq_true rfl) ?_
  refine nw_putF cf_X7 1 (by decide) rfl wd_238 rfl rfl (fun _ => rfl) (fun _ => rfl) (by omega) (by omega) (by unfold nMark; omega) (hK 0 (by decide)) dX7_init_18 ?_
  refine nw_aload_n dX7_init_21 rfl 0 rfl ?_
  refine nw_bipush (v := 100) dX7_init_22 (by decide) ?_
  refine nw_newa (t := 0) (N := 100) (ty := .int) dX7_init_24 wd_115 rfl (fun _ => rfl) nRA_int (fun _ => rfl) (hK 3 (by decide)) (by decide) (by decide) (by decide) (List.forall_mem_cons.mpr ⟨(show nLt _ (.inr k) by show k < _; omega), List.forall_mem_nil _⟩) (List.forall_mem_cons.mpr ⟨(show nLt _ (.inr k) by show k < _; omega), List.forall_mem_nil _⟩) (by omega) (Nat.le_of_ble_eq_true rfl) (Nat.le_of_ble_eq_true rfl) ?_
  refine nw_putF cf_X7 2 (by decide) rfl wd_239 rfl rfl (fun _ => rfl) (fun _ => rfl) (by omega) (by omega) (by unfold nMark; omega) (hK 0 (by decide)) dX7_init_26 ?_
  refine nw_aload_n dX7_init_29 rfl 0 rfl ?_
  refine nw_bipush (v := 10) dX7_init_30 (by decide) ?_
  refine nw_newa (t := 0) (N := 10) (ty := .int) dX7_init_32 wd_115 rfl (fun _ => rfl) nRA_int (fun _ => rfl) (hK 4 (by decide)) (by decide) (by decide) (by decide) (List.forall_mem_cons.mpr ⟨(show nLt _ (.inr k) by show k < _; omega), List.forall_mem_nil _⟩) (List.forall_mem_cons.mpr ⟨(show nLt _ (.inr k) by show k < _; omega), List.forall_mem_nil _⟩) (by omega) (Nat.le_of_ble_eq_true rfl) (Nat.le_of_ble_eq_true rfl) ?_
  refine nw_putF cf_X7 3 (by decide) rfl wd_240 rfl rfl (fun _ => rfl) (fun _ => rfl) (by omega) (by omega) (by unfold nMark; omega) (hK 0 (by decide)) dX7_init_34 ?_
  exact nw_vret rfl dX7_init_37 rfl rfl
def KX0 (j : Nat) : (Nat × List Bool) ⊕ (Nat × Nat) := ([.inl (0, flX0), .inr (0, 8), .inr (0, 8), .inr (0, 8), .inr (0, 8), .inr (0, 256), .inr (0, 256)] : List ((Nat × List Bool) ⊕ (Nat × Nat))).getD j (.inr (0, 0))
abbrev M_X0_init : aM := (yX0_init, cX0_init, 1, none)
theorem mf_X0_init : aMF M_X0_init 0 := ⟨wd_255, wd_9, ⟨by decide +kernel, by decide +kernel, by decide +kernel⟩, by decide +kernel, by decide⟩
def hX0 (k : Nat) (h : aH) : aH := (sR (sR (sI (sR (sR (sR (sR h k 0 (k + 1)) k 1 (k + 2)) k 2 (k + 3)) k 3 (k + 4)) k 4 0) k 5 (k + 5)) k 6 (k + 6))
set_option maxRecDepth 100000 in
theorem nok_X0 (k : Nat) {h : aH} (ho : nOk (k + 1) h) : nOk (k + 7) (hX0 k h) := (nOk_sR (nOk_succ (nOk_sR (nOk_succ (nOk_sI (nOk_sR (nOk_succ (nOk_sR (nOk_succ (nOk_sR (nOk_succ (nOk_sR (nOk_succ ho) (by omega) (by omega))) (by omega) (by omega))) (by omega) (by omega))) (by omega) (by omega)) (by omega))) (by omega) (by omega))) (by omega) (by omega))
set_option maxHeartbeats 4000000 in
set_option maxRecDepth 100000 in
theorem nm_X0 {l : Launch} {K : aK} {D : va_G} {cA : Nat → ClassId} (k : Nat) (hk : k < 1000) (hK : ∀ j, j < 7 → K (k + j) = KX0 j) (h : aH) (ho : nOk (k + 1) h) : ∀ (ad0 : Nat → Nat) (sz : Nat), NM l K D cA (nRm 1 6 544) M_X0_init ad0 (k + 1) sz [.inr k] h (k + 7) (hX0 k h) 6 544 := by
  intro ad0 sz
  refine nm_of mf_X0_init rfl (fun _ => Nat.le_of_ble_eq_true rfl) (lv := [(0, .inr k)]) (fun _ => rfl) ho ?_
  refine nw_aload_n dX0_init_0 rfl 0 rfl ?_
  refine nw_objInit dX0_init_1 wd_256 wd_27 wd_28 (Nat.le_of_ble_eq_true rfl) (Nat.le_of_ble_eq_true rfl) ?_
  refine nw_aload_n dX0_init_4 rfl 0 rfl ?_
  refine nw_bipush (v := 8) dX0_init_5 (by decide) ?_
  refine nw_newa (t := 0) (N := 8) (ty := .int) dX0_init_7 wd_115 rfl (fun _ => rfl) nRA_int (fun _ => rfl) (hK 1 (by decide)) (by decide) (by decide) (by decide) (List.forall_mem_cons.mpr ⟨(show nLt _ (.inr k) by show k < _; omega), List.forall_mem_nil _⟩) (List.forall_mem_cons.mpr ⟨(show nLt _ (.inr k) by show k < _; omega), List.forall_mem_nil _⟩) (by omega) (Nat.le_of_ble_eq_true rfl) (Nat.le_of_ble_eq_true rfl) ?_
  refine nw_putF cf_X0 0 (by decide) rfl wd_257 rfl rfl (fun _ => rfl) (fun _ => rfl) (by omega) (by omega) (by unfold nMark; omega) (hK 0 (by decide)) dX0_init_9 ?_
  refine nw_aload_n dX0_init_12 rfl 0 rfl ?_
  refine nw_bipush (v := 8) dX0_init_13 (by decide) ?_
  refine nw_newa (t := 0) (N := 8) (ty := .int) dX0_init_15 wd_115 rfl (fun _ => rfl) nRA_int (fun _ => rfl) (hK 2 (by decide)) (by decide) (by decide) (by decide) (List.forall_mem_cons.mpr ⟨(show nLt _ (.inr k) by show k < _; omega), List.forall_mem_nil _⟩) (List.forall_mem_cons.mpr ⟨(show nLt _ (.inr k) by show k < _; omega), List.forall_mem_nil _⟩) (by omega) (Nat.le_of_ble_eq_true rfl) (Nat.le_of_ble_eq_true rfl) ?_
  refine nw_putF cf_X0 1 (by decide) rfl wd_258 rfl rfl (fun _ => rfl) (fun _ => rfl) (by omega) (by omega) (by unfold nMark; omega) (hK 0 (by decide)) dX0_init_17 ?_
  refine nw_aload_n dX0_init_20 rfl 0 rfl ?_
  refine nw_bipush (v := 8) dX0_init_21 (by decide) ?_
  refine nw_newa (t := 0) (N := 8) (ty := .int) dX0_init_23 wd_115 rfl (fun _ => rfl) nRA_int (fun _ => rfl) (hK 3 (by decide)) (by decide) (by decide) (by decide) (List.forall_mem_cons.mpr ⟨(show nLt _ (.inr k) by show k < _; omega), List.forall_mem_nil _⟩) (List.forall_mem_cons.mpr ⟨(show nLt _ (.inr k) by show k < _; omega), List.forall_mem_nil _⟩) (by omega) (Nat.le_of_ble_eq_true rfl) (Nat.le_of_ble_eq_true rfl) ?_
  refine nw_putF cf_X0 2 (by decide) rfl wd_259 rfl rfl (fun _ => rfl) (fun _ => rfl) (by omega) (by omega) (by unfold nMark; omega) (hK 0 (by decide)) dX0_init_25 ?_
  refine nw_aload_n dX0_init_28 rfl 0 rfl ?_
  refine nw_bipush (v := 8) dX0_init_29 (by decide) ?_
  refine nw_newa (t := 0) (N := 8) (ty := .int) dX0_init_31 wd_115 rfl (fun _ => rfl) nRA_int (fun _ => rfl) (hK 4 (by decide)) (by decide) (by decide) (by decide) (List.forall_mem_cons.mpr ⟨(show nLt _ (.inr k) by show k < _; omega), List.forall_mem_nil _⟩) (List.forall_mem_cons.mpr ⟨(show nLt _ (.inr k) by show k < _; omega), List.forall_mem_nil _⟩) (by omega) (Nat.le_of_ble_eq_true rfl) (Nat.le_of_ble_eq_true rfl) ?_
  refine nw_putF cf_X0 3 (by decide) rfl wd_260 rfl rfl (fun _ => rfl) (fun _ => rfl) (by omega) (by omega) (by unfold nMark; omega) (hK 0 (by decide)) dX0_init_33 ?_
  refine nw_aload_n dX0_init_36 rfl 0 rfl ?_
  refine nw_iconst (v := 0) dX0_init_37 (by decide) ?_
  refine nw_putI cf_X0 4 (by decide) rfl wd_261 rfl rfl rfl (by omega) (hK 0 (by decide)) dX0_init_38 ?_
  refine nw_aload_n dX0_init_41 rfl 0 rfl ?_
  refine nw_sipush (v := 256) dX0_init_42 (by decide) ?_
  refine nw_newa (t := 0) (N := 256) (ty := .int) dX0_init_45 wd_115 rfl (fun _ => rfl) nRA_int (fun _ => rfl) (hK 5 (by decide)) (by decide) (by decide) (by decide) (List.forall_mem_cons.mpr ⟨(show nLt _ (.inr k) by show k < _; omega), List.forall_mem_nil _⟩) (List.forall_mem_cons.mpr ⟨(show nLt _ (.inr k) by show k < _; omega), List.forall_mem_nil _⟩) (by omega) (Nat.le_of_ble_eq_true rfl) (Nat.le_of_ble_eq_true rfl) ?_
  refine nw_putF cf_X0 5 (by decide) rfl wd_262 rfl rfl (fun _ => rfl) (fun _ => rfl) (by omega) (by omega) (by unfold nMark; omega) (hK 0 (by decide)) dX0_init_47 ?_
  refine nw_aload_n dX0_init_50 rfl 0 rfl ?_
  refine nw_sipush (v := 256) dX0_init_51 (by decide) ?_
  refine nw_newa (t := 0) (N := 256) (ty := .int) dX0_init_54 wd_115 rfl (fun _ => rfl) nRA_int (fun _ => rfl) (hK 6 (by decide)) (by decide) (by decide) (by decide) (List.forall_mem_cons.mpr ⟨(show nLt _ (.inr k) by show k < _; omega), List.forall_mem_nil _⟩) (List.forall_mem_cons.mpr ⟨(show nLt _ (.inr k) by show k < _; omega), List.forall_mem_nil _⟩) (by omega) (Nat.le_of_ble_eq_true rfl) (Nat.le_of_ble_eq_true rfl) ?_
  refine nw_putF cf_X0 6 (by decide) rfl wd_263 rfl rfl (fun _ => rfl) (fun _ => rfl) (by omega) (by omega) (by unfold nMark; omega) (hK 0 (by decide)) dX0_init_56 ?_
  exact nw_vret rfl dX0_init_59 rfl rfl
def KX6 (j : Nat) : (Nat × List Bool) ⊕ (Nat × Nat) := ([.inl (5, flX6), .inr (0, 256), .inr (0, 256), .inr (0, 256), .inr (1, 256)] : List ((Nat × List Bool) ⊕ (Nat × Nat))).getD j (.inr (0, 0))
abbrev M_X6_init : aM := (yX6_init, cX6_init, 1, none)
theorem mf_X6_init : aMF M_X6_init 0 := ⟨wd_283, wd_10, ⟨by decide +kernel, by decide +kernel, by decide +kernel⟩, by decide +kernel, by decide⟩
def hX6 (k : Nat) (h : aH) : aH := (sI (sR (sR (sR (sR h k 0 (k + 1)) k 1 (k + 2)) k 2 (k + 3)) k 3 (k + 4)) k 4 0)
set_option maxRecDepth 100000 in
theorem nok_X6 (k : Nat) {h : aH} (ho : nOk (k + 1) h) : nOk (k + 5) (hX6 k h) := (nOk_sI (nOk_sR (nOk_succ (nOk_sR (nOk_succ (nOk_sR (nOk_succ (nOk_sR (nOk_succ ho) (by omega) (by omega))) (by omega) (by omega))) (by omega) (by omega))) (by omega) (by omega)) (by omega))
set_option maxHeartbeats 4000000 in
set_option maxRecDepth 100000 in
theorem nm_X6 {l : Launch} {K : aK} {D : va_G} {cA : Nat → ClassId} (k : Nat) (hk : k < 1000) (hK : ∀ j, j < 5 → K (k + j) = KX6 j) (h : aH) (ho : nOk (k + 1) h) : ∀ (ad0 : Nat → Nat) (sz : Nat), NM l K D cA (nRm 1 4 1024) M_X6_init ad0 (k + 1) sz [.inr k] h (k + 5) (hX6 k h) 4 1024 := by
  intro ad0 sz
  refine nm_of mf_X6_init rfl (fun _ => Nat.le_of_ble_eq_true rfl) (lv := [(0, .inr k)]) (fun _ => rfl) ho ?_
  refine nw_aload_n dX6_init_0 rfl 0 rfl ?_
  refine nw_objInit dX6_init_1 wd_284 wd_27 wd_28 (Nat.le_of_ble_eq_true rfl) (Nat.le_of_ble_eq_true rfl) ?_
  refine nw_aload_n dX6_init_4 rfl 0 rfl ?_
  refine nw_sipush (v := 256) dX6_init_5 (by decide) ?_
  refine nw_newa (t := 0) (N := 256) (ty := .int) dX6_init_8 wd_115 rfl (fun _ => rfl) nRA_int (fun _ => rfl) (hK 1 (by decide)) (by decide) (by decide) (by decide) (List.forall_mem_cons.mpr ⟨(show nLt _ (.inr k) by show k < _; omega), List.forall_mem_nil _⟩) (List.forall_mem_cons.mpr ⟨(show nLt _ (.inr k) by show k < _; omega), List.forall_mem_nil _⟩) (by omega) (Nat.le_of_ble_eq_true rfl) (Nat.le_of_ble_eq_true rfl) ?_
  refine nw_putF cf_X6 0 (by decide) rfl wd_285 rfl rfl (fun _ => rfl) (fun _ => rfl) (by omega) (by omega) (by unfold nMark; omega) (hK 0 (by decide)) dX6_init_10 ?_
  refine nw_aload_n dX6_init_13 rfl 0 rfl ?_
  refine nw_sipush (v := 256) dX6_init_14 (by decide) ?_
  refine nw_newa (t := 0) (N := 256) (ty := .int) dX6_init_17 wd_115 rfl (fun _ => rfl) nRA_int (fun _ => rfl) (hK 2 (by decide)) (by decide) (by decide) (by decide) (List.forall_mem_cons.mpr ⟨(show nLt _ (.inr k) by show k < _; omega), List.forall_mem_nil _⟩) (List.forall_mem_cons.mpr ⟨(show nLt _ (.inr k) by show k < _; omega), List.forall_mem_nil _⟩) (by omega) (Nat.le_of_ble_eq_true rfl) (Nat.le_of_ble_eq_true rfl) ?_
  refine nw_putF cf_X6 1 (by decide) rfl wd_286 rfl rfl (fun _ => rfl) (fun _ => rfl) (by omega) (by omega) (by unfold nMark; omega) (hK 0 (by decide)) dX6_init_19 ?_
  refine nw_aload_n dX6_init_22 rfl 0 rfl ?_
  refine nw_sipush (v := 256) dX6_init_23 (by decide) ?_
  refine nw_newa (t := 0) (N := 256) (ty := .int) dX6_init_26 wd_115 rfl (fun _ => rfl) nRA_int (fun _ => rfl) (hK 3 (by decide)) (by decide) (by decide) (by decide) (List.forall_mem_cons.mpr ⟨(show nLt _ (.inr k) by show k < _; omega), List.forall_mem_nil _⟩) (List.forall_mem_cons.mpr ⟨(show nLt _ (.inr k) by show k < _; omega), List.forall_mem_nil _⟩) (by omega) (Nat.le_of_ble_eq_true rfl) (Nat.le_of_ble_eq_true rfl) ?_
  refine nw_putF cf_X6 2 (by decide) rfl wd_287 rfl rfl (fun _ => rfl) (fun _ => rfl) (by omega) (by omega) (by unfold nMark; omega) (hK 0 (by decide)) dX6_init_28 ?_
  refine nw_aload_n dX6_init_31 rfl 0 rfl ?_
  refine nw_sipush (v := 256) dX6_init_32 (by decide) ?_
  refine nw_newa (t := 1) (N := 256) (ty := .boolean) dX6_init_35 wd_250 rfl (fun _ => rfl) nRA_boolean (fun _ => rfl) (hK 4 (by decide)) (by decide) (by decide) (by decide) (List.forall_mem_cons.mpr ⟨(show nLt _ (.inr k) by show k < _; omega), List.forall_mem_nil _⟩) (List.forall_mem_cons.mpr ⟨(show nLt _ (.inr k) by show k < _; omega), List.forall_mem_nil _⟩) (by omega) (Nat.le_of_ble_eq_true rfl) (Nat.le_of_ble_eq_true rfl) ?_
  refine nw_putF cf_X6 3 (by decide) rfl wd_288 rfl rfl (fun _ => rfl) (fun _ => rfl) (by omega) (by omega) (by unfold nMark; omega) (hK 0 (by decide)) dX6_init_37 ?_
  refine nw_aload_n dX6_init_40 rfl 0 rfl ?_
  refine nw_iconst (v := 0) dX6_init_41 (by decide) ?_
  refine nw_putI cf_X6 4 (by decide) rfl wd_289 rfl rfl rfl (by omega) (hK 0 (by decide)) dX6_init_42 ?_
  exact nw_vret rfl dX6_init_45 rfl rfl
def KX10 (j : Nat) : (Nat × List Bool) ⊕ (Nat × Nat) := ([.inl (9, flX10), .inl (1, flX2), .inr (0, 256), .inr (0, 256), .inr (0, 256), .inr (0, 256), .inr (0, 12), .inr (0, 12), .inr (0, 12), .inr (0, 12), .inr (0, 12), .inr (0, 8), .inr (0, 8), .inl (1, flX2), .inr (0, 256), .inr (0, 256), .inr (0, 256), .inr (0, 256), .inr (0, 12), .inr (0, 12), .inr (0, 12), .inr (0, 12), .inr (0, 12), .inr (0, 8), .inr (0, 8), .inl (1, flX2), .inr (0, 256), .inr (0, 256), .inr (0, 256), .inr (0, 256), .inr (0, 12), .inr (0, 12), .inr (0, 12), .inr (0, 12), .inr (0, 12), .inr (0, 8), .inr (0, 8), .inl (7, flX8), .inr (0, 220), .inl (8, flX9), .inr (0, 40), .inr (0, 40), .inl (4, flX5), .inl (2, flX3), .inr (0, 200), .inr (0, 200), .inr (0, 14), .inr (0, 14), .inr (0, 14), .inr (0, 12), .inr (0, 64), .inr (0, 8), .inl (3, flX4), .inl (2, flX3), .inr (0, 200), .inr (0, 200), .inr (0, 14), .inr (0, 14), .inr (0, 14), .inr (0, 12), .inr (0, 64), .inl (6, flX7), .inr (0, 1024), .inr (1, 10), .inr (0, 100), .inr (0, 10), .inl (0, flX0), .inr (0, 8), .inr (0, 8), .inr (0, 8), .inr (0, 8), .inr (0, 256), .inr (0, 256), .inl (5, flX6), .inr (0, 256), .inr (0, 256), .inr (0, 256), .inr (1, 256)] : List ((Nat × List Bool) ⊕ (Nat × Nat))).getD j (.inr (0, 0))
abbrev M_X10_init : aM := (yX10_init, cX10_init, 1, none)
theorem mf_X10_init : aMF M_X10_init 0 := ⟨wd_25, wd_1, ⟨by decide +kernel, by decide +kernel, by decide +kernel⟩, by decide +kernel, by decide⟩
def hX10 (h : aH) : aH := (sI (sR (hX6 73 (sR (hX0 66 (sR (hX7 61 (sR (hX4 52 37 (sR (hX5 42 (sR (hX9 39 (sR (hX8 37 (sR (hX2 25 (sR (hX2 13 (sR (hX2 1 h) 0 0 1)) 0 1 13)) 0 2 25)) 0 3 37)) 0 4 39)) 0 5 42)) 0 6 52)) 0 7 61)) 0 8 66)) 0 9 73) 0 10 0)
set_option maxRecDepth 100000 in
theorem nok_X10 {h : aH} (ho : nOk 1 h) : nOk 78 (hX10 h) := (nOk_sI (nOk_sR (nok_X6 73 (nOk_succ (nOk_sR (nok_X0 66 (nOk_succ (nOk_sR (nok_X7 61 (nOk_succ (nOk_sR (nok_X4 52 37 (by omega) (nOk_succ (nOk_sR (nok_X5 42 (nOk_succ (nOk_sR (nok_X9 39 (nOk_succ (nOk_sR (nok_X8 37 (nOk_succ (nOk_sR (nok_X2 25 (nOk_succ (nOk_sR (nok_X2 13 (nOk_succ (nOk_sR (nok_X2 1 (nOk_succ ho)) (by omega) (by omega)))) (by omega) (by omega)))) (by omega) (by omega)))) (by omega) (by omega)))) (by omega) (by omega)))) (by omega) (by omega)))) (by omega) (by omega)))) (by omega) (by omega)))) (by omega) (by omega)))) (by omega) (by omega)) (by omega))
set_option maxHeartbeats 4000000 in
set_option maxRecDepth 100000 in
theorem nm_X10 {l : Launch} {K : aK} {D : va_G} {cA : Nat → ClassId} (hK : ∀ j, j < 78 → K j = KX10 j) (h : aH) (ho : nOk 1 h) : ∀ (ad0 : Nat → Nat) (sz : Nat), NM l K D cA (nRm 3 77 7449) M_X10_init ad0 1 sz [.inr 0] h 78 (hX10 h) 77 7449 := by
  intro ad0 sz
  refine nm_of mf_X10_init rfl (fun _ => Nat.le_of_ble_eq_true rfl) (lv := [(0, .inr 0)]) (fun _ => rfl) ho ?_
  refine nw_aload_n dX10_init_0 rfl 0 rfl ?_
  refine nw_objInit dX10_init_1 wd_26 wd_27 wd_28 (Nat.le_of_ble_eq_true rfl) (Nat.le_of_ble_eq_true rfl) ?_
  refine nw_aload_n dX10_init_4 rfl 0 rfl ?_
  refine nw_new dX10_init_5 cf_X2 wd_29 wd_30 wd_2 (hK 1 (by decide)) (by decide) (List.forall_mem_cons.mpr ⟨(show nLt _ (.inr 0) by show 0 < _; omega), List.forall_mem_nil _⟩) (List.forall_mem_cons.mpr ⟨(show nLt _ (.inr 0) by show 0 < _; omega), List.forall_mem_nil _⟩) (by unfold nMark; omega) (by omega) (Nat.le_of_ble_eq_true rfl) (Nat.le_of_ble_eq_true rfl) ?_
  refine nw_dup dX10_init_8 ?_
  refine nw_ctor (av := []) (rest := [.inr 1, .inr 0]) (fun ho => nm_X2 1 (by omega) (fun j hj => (hK (1 + j) (by omega)).trans ((by decide : ∀ j, j < 12 → KX10 (1 + j) = KX2 j) j hj)) _ ho) (fun ho => nok_X2 1 ho) rfl rfl mf_X2_init rfl wd_31 wd_32 rfl rfl ⟨Nat.le_of_ble_eq_true rfl, Nat.le_of_ble_eq_true rfl⟩ (List.forall_mem_cons.mpr ⟨(show nLt _ (.inr 0) by show 0 < _; omega), List.forall_mem_nil _⟩) (List.forall_mem_cons.mpr ⟨(show nLt _ (.inr 1) by show 1 < _; omega), List.forall_mem_cons.mpr ⟨(show nLt _ (.inr 0) by show 0 < _; omega), List.forall_mem_nil _⟩⟩) (by omega) (Nat.le_of_ble_eq_true rfl) (Nat.le_of_ble_eq_true rfl) (Nat.le_of_ble_eq_true rfl) dX10_init_9 ?_
  refine nw_putF cf_X10 0 (by decide) rfl wd_301 rfl rfl (fun _ => rfl) (fun _ => rfl) (by omega) (by omega) (by unfold nMark; omega) (hK 0 (by decide)) dX10_init_12 ?_
  refine nw_aload_n dX10_init_15 rfl 0 rfl ?_
  refine nw_new dX10_init_16 cf_X2 wd_29 wd_30 wd_2 (hK 13 (by decide)) (by decide) (List.forall_mem_cons.mpr ⟨(show nLt _ (.inr 0) by show 0 < _; omega), List.forall_mem_nil _⟩) (List.forall_mem_cons.mpr ⟨(show nLt _ (.inr 0) by show 0 < _; omega), List.forall_mem_nil _⟩) (by unfold nMark; omega) (by omega) (Nat.le_of_ble_eq_true rfl) (Nat.le_of_ble_eq_true rfl) ?_
  refine nw_dup dX10_init_19 ?_
  refine nw_ctor (av := []) (rest := [.inr 13, .inr 0]) (fun ho => nm_X2 13 (by omega) (fun j hj => (hK (13 + j) (by omega)).trans ((by decide : ∀ j, j < 12 → KX10 (13 + j) = KX2 j) j hj)) _ ho) (fun ho => nok_X2 13 ho) rfl rfl mf_X2_init rfl wd_31 wd_32 rfl rfl ⟨Nat.le_of_ble_eq_true rfl, Nat.le_of_ble_eq_true rfl⟩ (List.forall_mem_cons.mpr ⟨(show nLt _ (.inr 0) by show 0 < _; omega), List.forall_mem_nil _⟩) (List.forall_mem_cons.mpr ⟨(show nLt _ (.inr 13) by show 13 < _; omega), List.forall_mem_cons.mpr ⟨(show nLt _ (.inr 0) by show 0 < _; omega), List.forall_mem_nil _⟩⟩) (by omega) (Nat.le_of_ble_eq_true rfl) (Nat.le_of_ble_eq_true rfl) (Nat.le_of_ble_eq_true rfl) dX10_init_20 ?_
  refine nw_putF cf_X10 1 (by decide) rfl wd_302 rfl rfl (fun _ => rfl) (fun _ => rfl) (by omega) (by omega) (by unfold nMark; omega) (hK 0 (by decide)) dX10_init_23 ?_
  refine nw_aload_n dX10_init_26 rfl 0 rfl ?_
  refine nw_new dX10_init_27 cf_X2 wd_29 wd_30 wd_2 (hK 25 (by decide)) (by decide) (List.forall_mem_cons.mpr ⟨(show nLt _ (.inr 0) by show 0 < _; omega), List.forall_mem_nil _⟩) (List.forall_mem_cons.mpr ⟨(show nLt _ (.inr 0) by show 0 < _; omega), List.forall_mem_nil _⟩) (by unfold nMark; omega) (by omega) (Nat.le_of_ble_eq_true rfl) (Nat.le_of_ble_eq_true rfl) ?_
  refine nw_dup dX10_init_30 ?_
  refine nw_ctor (av := []) (rest := [.inr 25, .inr 0]) (fun ho => nm_X2 25 (by omega) (fun j hj => (hK (25 + j) (by omega)).trans ((by decide : ∀ j, j < 12 → KX10 (25 + j) = KX2 j) j hj)) _ ho) (fun ho => nok_X2 25 ho) rfl rfl mf_X2_init rfl wd_31 wd_32 rfl rfl ⟨Nat.le_of_ble_eq_true rfl, Nat.le_of_ble_eq_true rfl⟩ (List.forall_mem_cons.mpr ⟨(show nLt _ (.inr 0) by show 0 < _; omega), List.forall_mem_nil _⟩) (List.forall_mem_cons.mpr ⟨(show nLt _ (.inr 25) by show 25 < _; omega), List.forall_mem_cons.mpr ⟨(show nLt _ (.inr 0) by show 0 < _; omega), List.forall_mem_nil _⟩⟩) (by omega) (Nat.le_of_ble_eq_true rfl) (Nat.le_of_ble_eq_true rfl) (Nat.le_of_ble_eq_true rfl) dX10_init_31 ?_
  refine nw_putF cf_X10 2 (by decide) rfl wd_303 rfl rfl (fun _ => rfl) (fun _ => rfl) (by omega) (by omega) (by unfold nMark; omega) (hK 0 (by decide)) dX10_init_34 ?_
  refine nw_aload_n dX10_init_37 rfl 0 rfl ?_
  refine nw_new dX10_init_38 cf_X8 wd_116 wd_117 wd_3 (hK 37 (by decide)) (by decide) (List.forall_mem_cons.mpr ⟨(show nLt _ (.inr 0) by show 0 < _; omega), List.forall_mem_nil _⟩) (List.forall_mem_cons.mpr ⟨(show nLt _ (.inr 0) by show 0 < _; omega), List.forall_mem_nil _⟩) (by unfold nMark; omega) (by omega) (Nat.le_of_ble_eq_true rfl) (Nat.le_of_ble_eq_true rfl) ?_
  refine nw_dup dX10_init_41 ?_
  refine nw_ctorN (av := []) (rest := [.inr 37, .inr 0]) (fun ho => nm_X8 37 (by omega) (fun j hj => (hK (37 + j) (by omega)).trans ((by decide : ∀ j, j < 2 → KX10 (37 + j) = KX8 j) j hj)) _ ho) (fun ho => nok_X8 37 ho) rfl rfl mf_X8_init rfl wd_118 wd_119 rfl rfl ⟨Nat.le_of_ble_eq_true rfl, Nat.le_of_ble_eq_true rfl⟩ (List.forall_mem_cons.mpr ⟨(show nLt _ (.inr 0) by show 0 < _; omega), List.forall_mem_nil _⟩) (List.forall_mem_cons.mpr ⟨(show nLt _ (.inr 37) by show 37 < _; omega), List.forall_mem_cons.mpr ⟨(show nLt _ (.inr 0) by show 0 < _; omega), List.forall_mem_nil _⟩⟩) (by omega) (Nat.le_of_ble_eq_true rfl) (Nat.le_of_ble_eq_true rfl) (Nat.le_of_ble_eq_true rfl) dX10_init_42 ?_
  refine nw_putF cf_X10 3 (by decide) rfl wd_304 rfl rfl (fun _ => rfl) (fun _ => rfl) (by omega) (by omega) (by unfold nMark; omega) (hK 0 (by decide)) dX10_init_45 ?_
  refine nw_aload_n dX10_init_48 rfl 0 rfl ?_
  refine nw_new dX10_init_49 cf_X9 wd_132 wd_133 wd_4 (hK 39 (by decide)) (by decide) (List.forall_mem_cons.mpr ⟨(show nLt _ (.inr 0) by show 0 < _; omega), List.forall_mem_nil _⟩) (List.forall_mem_cons.mpr ⟨(show nLt _ (.inr 0) by show 0 < _; omega), List.forall_mem_nil _⟩) (by unfold nMark; omega) (by omega) (Nat.le_of_ble_eq_true rfl) (Nat.le_of_ble_eq_true rfl) ?_
  refine nw_dup dX10_init_52 ?_
  refine nw_ctorN (av := []) (rest := [.inr 39, .inr 0]) (fun ho => nm_X9 39 (by omega) (fun j hj => (hK (39 + j) (by omega)).trans ((by decide : ∀ j, j < 3 → KX10 (39 + j) = KX9 j) j hj)) _ ho) (fun ho => nok_X9 39 ho) rfl rfl mf_X9_init rfl wd_134 wd_135 rfl rfl ⟨Nat.le_of_ble_eq_true rfl, Nat.le_of_ble_eq_true rfl⟩ (List.forall_mem_cons.mpr ⟨(show nLt _ (.inr 0) by show 0 < _; omega), List.forall_mem_nil _⟩) (List.forall_mem_cons.mpr ⟨(show nLt _ (.inr 39) by show 39 < _; omega), List.forall_mem_cons.mpr ⟨(show nLt _ (.inr 0) by show 0 < _; omega), List.forall_mem_nil _⟩⟩) (by omega) (Nat.le_of_ble_eq_true rfl) (Nat.le_of_ble_eq_true rfl) (Nat.le_of_ble_eq_true rfl) dX10_init_53 ?_
  refine nw_putF cf_X10 4 (by decide) rfl wd_305 rfl rfl (fun _ => rfl) (fun _ => rfl) (by omega) (by omega) (by unfold nMark; omega) (hK 0 (by decide)) dX10_init_56 ?_
  refine nw_aload_n dX10_init_59 rfl 0 rfl ?_
  refine nw_new dX10_init_60 cf_X5 wd_155 wd_156 wd_5 (hK 42 (by decide)) (by decide) (List.forall_mem_cons.mpr ⟨(show nLt _ (.inr 0) by show 0 < _; omega), List.forall_mem_nil _⟩) (List.forall_mem_cons.mpr ⟨(show nLt _ (.inr 0) by show 0 < _; omega), List.forall_mem_nil _⟩) (by unfold nMark; omega) (by omega) (Nat.le_of_ble_eq_true rfl) (Nat.le_of_ble_eq_true rfl) ?_
  refine nw_dup dX10_init_63 ?_
  refine nw_ctorN (av := []) (rest := [.inr 42, .inr 0]) (fun ho => nm_X5 42 (by omega) (fun j hj => (hK (42 + j) (by omega)).trans ((by decide : ∀ j, j < 10 → KX10 (42 + j) = KX5 j) j hj)) _ ho) (fun ho => nok_X5 42 ho) rfl rfl mf_X5_init rfl wd_157 wd_158 rfl rfl ⟨Nat.le_of_ble_eq_true rfl, Nat.le_of_ble_eq_true rfl⟩ (List.forall_mem_cons.mpr ⟨(show nLt _ (.inr 0) by show 0 < _; omega), List.forall_mem_nil _⟩) (List.forall_mem_cons.mpr ⟨(show nLt _ (.inr 42) by show 42 < _; omega), List.forall_mem_cons.mpr ⟨(show nLt _ (.inr 0) by show 0 < _; omega), List.forall_mem_nil _⟩⟩) (by omega) (Nat.le_of_ble_eq_true rfl) (Nat.le_of_ble_eq_true rfl) (Nat.le_of_ble_eq_true rfl) dX10_init_64 ?_
  refine nw_putF cf_X10 5 (by decide) rfl wd_306 rfl rfl (fun _ => rfl) (fun _ => rfl) (by omega) (by omega) (by unfold nMark; omega) (hK 0 (by decide)) dX10_init_67 ?_
  refine nw_aload_n dX10_init_70 rfl 0 rfl ?_
  refine nw_new dX10_init_71 cf_X4 wd_207 wd_208 wd_7 (hK 52 (by decide)) (by decide) (List.forall_mem_cons.mpr ⟨(show nLt _ (.inr 0) by show 0 < _; omega), List.forall_mem_nil _⟩) (List.forall_mem_cons.mpr ⟨(show nLt _ (.inr 0) by show 0 < _; omega), List.forall_mem_nil _⟩) (by unfold nMark; omega) (by omega) (Nat.le_of_ble_eq_true rfl) (Nat.le_of_ble_eq_true rfl) ?_
  refine nw_dup dX10_init_74 ?_
  refine nw_aload_n dX10_init_75 rfl 0 rfl ?_
  refine nw_getR (v := 37) cf_X10 3 (by decide) rfl wd_304 (by omega) (hK 0 (by decide)) rfl (by decide) dX10_init_76 ?_
  refine nw_ctor (av := [.inr 37]) (rest := [.inr 52, .inr 0]) (fun ho => nm_X4 52 (by omega) 37 (by omega) (fun j hj => (hK (52 + j) (by omega)).trans ((by decide : ∀ j, j < 9 → KX10 (52 + j) = KX4 j) j hj)) _ ho) (fun ho => nok_X4 52 37 (by omega) ho) rfl rfl mf_X4_init rfl wd_209 wd_210 rfl rfl ⟨Nat.le_of_ble_eq_true rfl, Nat.le_of_ble_eq_true rfl⟩ (List.forall_mem_cons.mpr ⟨(show nLt _ (.inr 0) by show 0 < _; omega), List.forall_mem_nil _⟩) (List.forall_mem_cons.mpr ⟨(show nLt _ (.inr 52) by show 52 < _; omega), List.forall_mem_cons.mpr ⟨(show nLt _ (.inr 0) by show 0 < _; omega), List.forall_mem_nil _⟩⟩) (by omega) (Nat.le_of_ble_eq_true rfl) (Nat.le_of_ble_eq_true rfl) (Nat.le_of_ble_eq_true rfl) dX10_init_79 ?_
  refine nw_putF cf_X10 6 (by decide) rfl wd_307 rfl rfl (fun _ => rfl) (fun _ => rfl) (by omega) (by omega) (by unfold nMark; omega) (hK 0 (by decide)) dX10_init_82 ?_
  refine nw_aload_n dX10_init_85 rfl 0 rfl ?_
  refine nw_new dX10_init_86 cf_X7 wd_231 wd_232 wd_8 (hK 61 (by decide)) (by decide) (List.forall_mem_cons.mpr ⟨(show nLt _ (.inr 0) by show 0 < _; omega), List.forall_mem_nil _⟩) (List.forall_mem_cons.mpr ⟨(show nLt _ (.inr 0) by show 0 < _; omega), List.forall_mem_nil _⟩) (by unfold nMark; omega) (by omega) (Nat.le_of_ble_eq_true rfl) (Nat.le_of_ble_eq_true rfl) ?_
  refine nw_dup dX10_init_89 ?_
  refine nw_ctorN (av := []) (rest := [.inr 61, .inr 0]) (fun ho => nm_X7 61 (by omega) (fun j hj => (hK (61 + j) (by omega)).trans ((by decide : ∀ j, j < 5 → KX10 (61 + j) = KX7 j) j hj)) _ ho) (fun ho => nok_X7 61 ho) rfl rfl mf_X7_init rfl wd_233 wd_234 rfl rfl ⟨Nat.le_of_ble_eq_true rfl, Nat.le_of_ble_eq_true rfl⟩ (List.forall_mem_cons.mpr ⟨(show nLt _ (.inr 0) by show 0 < _; omega), List.forall_mem_nil _⟩) (List.forall_mem_cons.mpr ⟨(show nLt _ (.inr 61) by show 61 < _; omega), List.forall_mem_cons.mpr ⟨(show nLt _ (.inr 0) by show 0 < _; omega), List.forall_mem_nil _⟩⟩) (by omega) (Nat.le_of_ble_eq_true rfl) (Nat.le_of_ble_eq_true rfl) (Nat.le_of_ble_eq_true rfl) dX10_init_90 ?_
  refine nw_putF cf_X10 7 (by decide) rfl wd_308 rfl rfl (fun _ => rfl) (fun _ => rfl) (by omega) (by omega) (by unfold nMark; omega) (hK 0 (by decide)) dX10_init_93 ?_
  refine nw_aload_n dX10_init_96 rfl 0 rfl ?_
  refine nw_new dX10_init_97 cf_X0 wd_251 wd_252 wd_9 (hK 66 (by decide)) (by decide) (List.forall_mem_cons.mpr ⟨(show nLt _ (.inr 0) by show 0 < _; omega), List.forall_mem_nil _⟩) (List.forall_mem_cons.mpr ⟨(show nLt _ (.inr 0) by show 0 < _; omega), List.forall_mem_nil _⟩) (by unfold nMark; omega) (by omega) (Nat.le_of_ble_eq_true rfl) (Nat.le_of_ble_eq_true rfl) ?_
  refine nw_dup dX10_init_100 ?_
  refine nw_ctorN (av := []) (rest := [.inr 66, .inr 0]) (fun ho => nm_X0 66 (by omega) (fun j hj => (hK (66 + j) (by omega)).trans ((by decide : ∀ j, j < 7 → KX10 (66 + j) = KX0 j) j hj)) _ ho) (fun ho => nok_X0 66 ho) rfl rfl mf_X0_init rfl wd_253 wd_254 rfl rfl ⟨Nat.le_of_ble_eq_true rfl, Nat.le_of_ble_eq_true rfl⟩ (List.forall_mem_cons.mpr ⟨(show nLt _ (.inr 0) by show 0 < _; omega), List.forall_mem_nil _⟩) (List.forall_mem_cons.mpr ⟨(show nLt _ (.inr 66) by show 66 < _; omega), List.forall_mem_cons.mpr ⟨(show nLt _ (.inr 0) by show 0 < _; omega), List.forall_mem_nil _⟩⟩) (by omega) (Nat.le_of_ble_eq_true rfl) (Nat.le_of_ble_eq_true rfl) (Nat.le_of_ble_eq_true rfl) dX10_init_101 ?_
  refine nw_putF cf_X10 8 (by decide) rfl wd_309 rfl rfl (fun _ => rfl) (fun _ => rfl) (by omega) (by omega) (by unfold nMark; omega) (hK 0 (by decide)) dX10_init_104 ?_
  refine nw_aload_n dX10_init_107 rfl 0 rfl ?_
  refine nw_new dX10_init_108 cf_X6 wd_279 wd_280 wd_10 (hK 73 (by decide)) (by decide) (List.forall_mem_cons.mpr ⟨(show nLt _ (.inr 0) by show 0 < _; omega), List.forall_mem_nil _⟩) (List.forall_mem_cons.mpr ⟨(show nLt _ (.inr 0) by show 0 < _; omega), List.forall_mem_nil _⟩) (by unfold nMark; omega) (by omega) (Nat.le_of_ble_eq_true rfl) (Nat.le_of_ble_eq_true rfl) ?_
  refine nw_dup dX10_init_111 ?_
  refine nw_ctorN (av := []) (rest := [.inr 73, .inr 0]) (fun ho => nm_X6 73 (by omega) (fun j hj => (hK (73 + j) (by omega)).trans ((by decide : ∀ j, j < 5 → KX10 (73 + j) = KX6 j) j hj)) _ ho) (fun ho => nok_X6 73 ho) rfl rfl mf_X6_init rfl wd_281 wd_282 rfl rfl ⟨Nat.le_of_ble_eq_true rfl, Nat.le_of_ble_eq_true rfl⟩ (List.forall_mem_cons.mpr ⟨(show nLt _ (.inr 0) by show 0 < _; omega), List.forall_mem_nil _⟩) (List.forall_mem_cons.mpr ⟨(show nLt _ (.inr 73) by show 73 < _; omega), List.forall_mem_cons.mpr ⟨(show nLt _ (.inr 0) by show 0 < _; omega), List.forall_mem_nil _⟩⟩) (by omega) (Nat.le_of_ble_eq_true rfl) (Nat.le_of_ble_eq_true rfl) (Nat.le_of_ble_eq_true rfl) dX10_init_112 ?_
  refine nw_putF cf_X10 9 (by decide) rfl wd_310 rfl rfl (fun _ => rfl) (fun _ => rfl) (by omega) (by omega) (by unfold nMark; omega) (hK 0 (by decide)) dX10_init_115 ?_
  refine nw_aload_n dX10_init_118 rfl 0 rfl ?_
  refine nw_iconst (v := 0) dX10_init_119 (by decide) ?_
  refine nw_putI cf_X10 10 (by decide) rfl wd_311 rfl (by decide) (by decide) (by omega) (hK 0 (by decide)) dX10_init_120 ?_
  exact nw_vret rfl dX10_init_123 rfl rfl
def KX11 (j : Nat) : (Nat × List Bool) ⊕ (Nat × Nat) := ([.inl (10, flX11), .inr (2, 220), .inr (0, 256), .inr (1, 256), .inr (0, 256), .inr (0, 12), .inr (0, 12), .inr (0, 12), .inr (0, 12), .inr (0, 12), .inr (0, 8), .inr (0, 8), .inr (0, 14), .inr (0, 14), .inr (0, 14), .inr (0, 14), .inr (0, 200), .inr (0, 200), .inr (0, 14), .inr (0, 14), .inr (0, 14), .inr (0, 14), .inr (0, 200), .inr (0, 200), .inr (0, 240), .inr (0, 240), .inr (1, 240), .inr (0, 8), .inr (0, 256), .inr (0, 512), .inr (1, 512), .inr (0, 512), .inr (0, 16), .inr (0, 2), .inr (0, 40), .inr (0, 10), .inr (1, 256), .inr (0, 12), .inr (0, 4096), .inr (0, 256), .inr (0, 256), .inr (0, 12), .inr (0, 12), .inr (0, 12), .inr (0, 12), .inr (0, 12), .inr (0, 8)] : List ((Nat × List Bool) ⊕ (Nat × Nat))).getD j (.inr (0, 0))
abbrev M_X11_init : aM := (yX11_init, cX11_init, 2, none)
theorem mf_X11_init : aMF M_X11_init 0 := ⟨wd_1034, wd_11, ⟨by decide +kernel, by decide +kernel, by decide +kernel⟩, by decide +kernel, by decide⟩
def hX11 (h : aH) : aH := (hFill 2 4 256 (sR (sR (sR (sR (sR (sR (sR (sR (sR (sR (sR (sR (sR (sR (sR (sR (sR (sR (sR (sR (sR (sR (sR (sR (sR (sR (sR (sR (sR (sR (sR (sR (sR (sR (sR (sR (sR (sR (sR (sR (sR (sR (sR (sR (sR (sI (sR h 0 0 1) 0 5 1) 0 6 2) 0 7 3) 0 8 4) 0 9 5) 0 10 6) 0 11 7) 0 12 8) 0 13 9) 0 14 10) 0 15 11) 0 17 12) 0 18 13) 0 19 14) 0 20 15) 0 21 16) 0 22 17) 0 23 18) 0 24 19) 0 25 20) 0 26 21) 0 27 22) 0 28 23) 0 38 24) 0 43 25) 0 44 26) 0 45 27) 0 46 28) 0 47 29) 0 48 30) 0 49 31) 0 50 32) 0 51 33) 0 52 34) 0 53 35) 0 55 36) 0 56 37) 0 57 38) 0 58 39) 0 59 40) 0 64 41) 0 65 42) 0 66 43) 0 67 44) 0 68 45) 0 69 46))
set_option maxRecDepth 100000 in
theorem nok_X11 {h : aH} (ho : nOk 1 h) : nOk 47 (hX11 h) := (nOk_fill (nOk_sR (nOk_succ (nOk_sR (nOk_succ (nOk_sR (nOk_succ (nOk_sR (nOk_succ (nOk_sR (nOk_succ (nOk_sR (nOk_succ (nOk_sR (nOk_succ (nOk_sR (nOk_succ (nOk_sR (nOk_succ (nOk_sR (nOk_succ (nOk_sR (nOk_succ (nOk_sR (nOk_succ (nOk_sR (nOk_succ (nOk_sR (nOk_succ (nOk_sR (nOk_succ (nOk_sR (nOk_succ (nOk_sR (nOk_succ (nOk_sR (nOk_succ (nOk_sR (nOk_succ (nOk_sR (nOk_succ (nOk_sR (nOk_succ (nOk_sR (nOk_succ (nOk_sR (nOk_succ (nOk_sR (nOk_succ (nOk_sR (nOk_succ (nOk_sR (nOk_succ (nOk_sR (nOk_succ (nOk_sR (nOk_succ (nOk_sR (nOk_succ (nOk_sR (nOk_succ (nOk_sR (nOk_succ (nOk_sR (nOk_succ (nOk_sR (nOk_succ (nOk_sR (nOk_succ (nOk_sR (nOk_succ (nOk_sR (nOk_succ (nOk_sR (nOk_succ (nOk_sR (nOk_succ (nOk_sR (nOk_succ (nOk_sR (nOk_succ (nOk_sR (nOk_succ (nOk_sR (nOk_succ (nOk_sR (nOk_succ (nOk_sR (nOk_succ (nOk_sR (nOk_succ (nOk_sI (nOk_sR (nOk_succ ho) (by omega) (by omega)) (by omega))) (by omega) (by omega))) (by omega) (by omega))) (by omega) (by omega))) (by omega) (by omega))) (by omega) (by omega))) (by omega) (by omega))) (by omega) (by omega))) (by omega) (by omega))) (by omega) (by omega))) (by omega) (by omega))) (by omega) (by omega))) (by omega) (by omega))) (by omega) (by omega))) (by omega) (by omega))) (by omega) (by omega))) (by omega) (by omega))) (by omega) (by omega))) (by omega) (by omega))) (by omega) (by omega))) (by omega) (by omega))) (by omega) (by omega))) (by omega) (by omega))) (by omega) (by omega))) (by omega) (by omega))) (by omega) (by omega))) (by omega) (by omega))) (by omega) (by omega))) (by omega) (by omega))) (by omega) (by omega))) (by omega) (by omega))) (by omega) (by omega))) (by omega) (by omega))) (by omega) (by omega))) (by omega) (by omega))) (by omega) (by omega))) (by omega) (by omega))) (by omega) (by omega))) (by omega) (by omega))) (by omega) (by omega))) (by omega) (by omega))) (by omega) (by omega))) (by omega) (by omega))) (by omega) (by omega))) (by omega) (by omega))) (by omega) (by omega)) (by omega) (by omega))
set_option maxHeartbeats 4000000 in
set_option maxRecDepth 100000 in
theorem nloop_X11 {l : Launch} {K : aK} {D : va_G} {cA : Nat → ClassId} (hK : ∀ j, j < 47 → K j = KX11 j) {h : aH} (g1 : gR h 0 6 = 2) (g2 : gR h 0 8 = 4) {ad0 : Nat → Nat} {sz : Nat} : ∀ (w i : Nat), i + w = 256 → NW l K D cA (nRm 1 46 9508) M_X11_init (nQ K D cA ad0 1 sz 47 (hFill 2 4 256 h)) ad0 1 sz 46 9508 397 [(1, .inl (nI i)), (0, .inr 0)] [] 47 (hFill 2 4 i h) 46 9508 := by
  intro w
  induction w with
  | zero =>
    intro i hi
    have e : i = 256 := by omega
    subst e
    refine nw_iload_n dX11_init_397 rfl 0 rfl ?_
    refine nw_sipush (v := 256) dX11_init_398 (by decide) ?_
    refine nw_icmp_ge (tgt := 425) dX11_init_401 (by decide) (fun c => ?_) (fun c => absurd (by decide) c)
    exact nw_vret rfl dX11_init_425 rfl rfl
  | succ w ih =>
    intro i hi
    refine nw_iload_n dX11_init_397 rfl 0 rfl ?_
    refine nw_sipush (v := 256) dX11_init_398 (by decide) ?_
    refine nw_icmp_ge (tgt := 425) dX11_init_401 (by decide) (fun c => absurd c (nI_ge (a := i) (b := 256) (by omega) (by omega))) (fun c => ?_)
    refine nw_aload_n dX11_init_404 rfl 1 rfl ?_
    refine nw_getR (v := 2) cf_X11 6 (by decide) rfl wd_1042 (by omega) (hK 0 (by decide)) g1 (by unfold nMark; omega) dX11_init_405 ?_
    refine nw_iload_n dX11_init_408 rfl 0 rfl ?_
    refine nw_bipush (v := 50) dX11_init_409 (by decide) ?_
    refine nw_iastore (N := 256) (by omega) (hK 2 (by decide)) (vp_in_nI (by omega) (by omega)) dX11_init_411 ?_
    refine nw_aload_n dX11_init_412 rfl 1 rfl ?_
    refine nw_getR (v := 4) cf_X11 8 (by decide) rfl wd_1044 (by omega) (hK 0 (by decide)) g2 (by unfold nMark; omega) dX11_init_413 ?_
    refine nw_iload_n dX11_init_416 rfl 0 rfl ?_
    refine nw_iconst (v := (-1)) dX11_init_417 (by decide) ?_
    refine nw_iastore (N := 256) (by omega) (hK 4 (by decide)) (vp_in_nI (by omega) (by omega)) dX11_init_418 ?_
    refine nw_iinc (v := nI (i + 1)) (lv' := [(1, .inl (nI (i + 1))), (0, .inr 0)]) dX11_init_419 (w := 0) rfl (nI_1 i) (by decide) (fun _ => rfl) ?_
    refine nw_goto (tgt := 397) dX11_init_422 (by decide) ?_
    have e : (nI i).toNatClampNeg = i := nI_clamp (by omega)
    rw [e, hFill_s (by omega)]
    exact ih (i + 1) (by omega)
set_option maxHeartbeats 4000000 in
set_option maxRecDepth 100000 in
theorem nm_X11 {l : Launch} {K : aK} {D : va_G} {cA : Nat → ClassId} (hK : ∀ j, j < 47 → K j = KX11 j) (h : aH) (ho : nOk 1 h) : ∀ (ad0 : Nat → Nat) (sz : Nat), NM l K D cA (nRm 1 46 9508) M_X11_init ad0 1 sz [.inr 0] h 47 (hX11 h) 46 9508 := by
  intro ad0 sz
  refine nm_of mf_X11_init rfl (fun _ => Nat.le_of_ble_eq_true rfl) (lv := [(0, .inr 0)]) (fun _ => rfl) ho ?_
  refine nw_aload_n dX11_init_0 rfl 0 rfl ?_
  refine nw_objInit dX11_init_1 wd_1035 wd_27 wd_28 (Nat.le_of_ble_eq_true rfl) (Nat.le_of_ble_eq_true rfl) ?_
  refine nw_aload_n dX11_init_4 rfl 0 rfl ?_
  refine nw_sipush (v := 220) dX11_init_5 (by decide) ?_
  refine nw_newa (t := 2) (N := 220) (ty := .byte) dX11_init_8 wd_552 rfl (fun _ => rfl) nRA_byte (fun _ => rfl) (hK 1 (by decide)) (by decide) (by decide) (by decide) (List.forall_mem_cons.mpr ⟨(show nLt _ (.inr 0) by show 0 < _; omega), List.forall_mem_nil _⟩) (List.forall_mem_cons.mpr ⟨(show nLt _ (.inr 0) by show 0 < _; omega), List.forall_mem_nil _⟩) (by omega) (Nat.le_of_ble_eq_true rfl) (Nat.le_of_ble_eq_true rfl) ?_
  refine nw_putF cf_X11 0 (by decide) rfl wd_1036 rfl rfl (fun _ => rfl) (fun _ => rfl) (by omega) (by omega) (by unfold nMark; omega) (hK 0 (by decide)) dX11_init_10 ?_
  refine nw_aload_n dX11_init_13 rfl 0 rfl ?_
  refine nw_iconst (v := 1) dX11_init_14 (by decide) ?_
  refine nw_putI cf_X11 5 (by decide) rfl wd_1041 rfl rfl rfl (by omega) (hK 0 (by decide)) dX11_init_15 ?_
  refine nw_aload_n dX11_init_18 rfl 0 rfl ?_
  refine nw_sipush (v := 256) dX11_init_19 (by decide) ?_
  refine nw_newa (t := 0) (N := 256) (ty := .int) dX11_init_22 wd_115 rfl (fun _ => rfl) nRA_int (fun _ => rfl) (hK 2 (by decide)) (by decide) (by decide) (by decide) (List.forall_mem_cons.mpr ⟨(show nLt _ (.inr 0) by show 0 < _; omega), List.forall_mem_nil _⟩) (List.forall_mem_cons.mpr ⟨(show nLt _ (.inr 0) by show 0 < _; omega), List.forall_mem_nil _⟩) (by omega) (Nat.le_of_ble_eq_true rfl) (Nat.le_of_ble_eq_true rfl) ?_
  refine nw_putF cf_X11 6 (by decide) rfl wd_1042 rfl rfl (fun _ => rfl) (fun _ => rfl) (by omega) (by omega) (by unfold nMark; omega) (hK 0 (by decide)) dX11_init_24 ?_
  refine nw_aload_n dX11_init_27 rfl 0 rfl ?_
  refine nw_sipush (v := 256) dX11_init_28 (by decide) ?_
  refine nw_newa (t := 1) (N := 256) (ty := .boolean) dX11_init_31 wd_250 rfl (fun _ => rfl) nRA_boolean (fun _ => rfl) (hK 3 (by decide)) (by decide) (by decide) (by decide) (List.forall_mem_cons.mpr ⟨(show nLt _ (.inr 0) by show 0 < _; omega), List.forall_mem_nil _⟩) (List.forall_mem_cons.mpr ⟨(show nLt _ (.inr 0) by show 0 < _; omega), List.forall_mem_nil _⟩) (by omega) (Nat.le_of_ble_eq_true rfl) (Nat.le_of_ble_eq_true rfl) ?_
  refine nw_putF cf_X11 7 (by decide) rfl wd_1043 rfl rfl (fun _ => rfl) (fun _ => rfl) (by omega) (by omega) (by unfold nMark; omega) (hK 0 (by decide)) dX11_init_33 ?_
  refine nw_aload_n dX11_init_36 rfl 0 rfl ?_
  refine nw_sipush (v := 256) dX11_init_37 (by decide) ?_
  refine nw_newa (t := 0) (N := 256) (ty := .int) dX11_init_40 wd_115 rfl (fun _ => rfl) nRA_int (fun _ => rfl) (hK 4 (by decide)) (by decide) (by decide) (by decide) (List.forall_mem_cons.mpr ⟨(show nLt _ (.inr 0) by show 0 < _; omega), List.forall_mem_nil _⟩) (List.forall_mem_cons.mpr ⟨(show nLt _ (.inr 0) by show 0 < _; omega), List.forall_mem_nil _⟩) (by omega) (Nat.le_of_ble_eq_true rfl) (Nat.le_of_ble_eq_true rfl) ?_
  refine nw_putF cf_X11 8 (by decide) rfl wd_1044 rfl rfl (fun _ => rfl) (fun _ => rfl) (by omega) (by omega) (by unfold nMark; omega) (hK 0 (by decide)) dX11_init_42 ?_
  refine nw_aload_n dX11_init_45 rfl 0 rfl ?_
  refine nw_bipush (v := 12) dX11_init_46 (by decide) ?_
  refine nw_newa (t := 0) (N := 12) (ty := .int) dX11_init_48 wd_115 rfl (fun _ => rfl) nRA_int (fun _ => rfl) (hK 5 (by decide)) (by decide) (by decide) (by decide) (List.forall_mem_cons.mpr ⟨(show nLt _ (.inr 0) by show 0 < _; omega), List.forall_mem_nil _⟩) (List.forall_mem_cons.mpr ⟨(show nLt _ (.inr 0) by show 0 < _; omega), List.forall_mem_nil _⟩) (by omega) (Nat.le_of_ble_eq_true rfl) (Nat.le_of_ble_eq_true rfl) ?_
  refine nw_putF cf_X11 9 (by decide) rfl wd_1045 rfl rfl (fun _ => rfl) (fun _ => rfl) (by omega) (by omega) (by unfold nMark; omega) (hK 0 (by decide)) dX11_init_50 ?_
  refine nw_aload_n dX11_init_53 rfl 0 rfl ?_
  refine nw_bipush (v := 12) dX11_init_54 (by decide) ?_
  refine nw_newa (t := 0) (N := 12) (ty := .int) dX11_init_56 wd_115 rfl (fun _ => rfl) nRA_int (fun _ => rfl) (hK 6 (by decide)) (by decide) (by decide) (by decide) (List.forall_mem_cons.mpr ⟨(show nLt _ (.inr 0) by show 0 < _; omega), List.forall_mem_nil _⟩) (List.forall_mem_cons.mpr ⟨(show nLt _ (.inr 0) by show 0 < _; omega), List.forall_mem_nil _⟩) (by omega) (Nat.le_of_ble_eq_true rfl) (Nat.le_of_ble_eq_true rfl) ?_
  refine nw_putF cf_X11 10 (by decide) rfl wd_1046 rfl rfl (fun _ => rfl) (fun _ => rfl) (by omega) (by omega) (by unfold nMark; omega) (hK 0 (by decide)) dX11_init_58 ?_
  refine nw_aload_n dX11_init_61 rfl 0 rfl ?_
  refine nw_bipush (v := 12) dX11_init_62 (by decide) ?_
  refine nw_newa (t := 0) (N := 12) (ty := .int) dX11_init_64 wd_115 rfl (fun _ => rfl) nRA_int (fun _ => rfl) (hK 7 (by decide)) (by decide) (by decide) (by decide) (List.forall_mem_cons.mpr ⟨(show nLt _ (.inr 0) by show 0 < _; omega), List.forall_mem_nil _⟩) (List.forall_mem_cons.mpr ⟨(show nLt _ (.inr 0) by show 0 < _; omega), List.forall_mem_nil _⟩) (by omega) (Nat.le_of_ble_eq_true rfl) (Nat.le_of_ble_eq_true rfl) ?_
  refine nw_putF cf_X11 11 (by decide) rfl wd_1047 rfl rfl (fun _ => rfl) (fun _ => rfl) (by omega) (by omega) (by unfold nMark; omega) (hK 0 (by decide)) dX11_init_66 ?_
  refine nw_aload_n dX11_init_69 rfl 0 rfl ?_
  refine nw_bipush (v := 12) dX11_init_70 (by decide) ?_
  refine nw_newa (t := 0) (N := 12) (ty := .int) dX11_init_72 wd_115 rfl (fun _ => rfl) nRA_int (fun _ => rfl) (hK 8 (by decide)) (by decide) (by decide) (by decide) (List.forall_mem_cons.mpr ⟨(show nLt _ (.inr 0) by show 0 < _; omega), List.forall_mem_nil _⟩) (List.forall_mem_cons.mpr ⟨(show nLt _ (.inr 0) by show 0 < _; omega), List.forall_mem_nil _⟩) (by omega) (Nat.le_of_ble_eq_true rfl) (Nat.le_of_ble_eq_true rfl) ?_
  refine nw_putF cf_X11 12 (by decide) rfl wd_1048 rfl rfl (fun _ => rfl) (fun _ => rfl) (by omega) (by omega) (by unfold nMark; omega) (hK 0 (by decide)) dX11_init_74 ?_
  refine nw_aload_n dX11_init_77 rfl 0 rfl ?_
  refine nw_bipush (v := 12) dX11_init_78 (by decide) ?_
  refine nw_newa (t := 0) (N := 12) (ty := .int) dX11_init_80 wd_115 rfl (fun _ => rfl) nRA_int (fun _ => rfl) (hK 9 (by decide)) (by decide) (by decide) (by decide) (List.forall_mem_cons.mpr ⟨(show nLt _ (.inr 0) by show 0 < _; omega), List.forall_mem_nil _⟩) (List.forall_mem_cons.mpr ⟨(show nLt _ (.inr 0) by show 0 < _; omega), List.forall_mem_nil _⟩) (by omega) (Nat.le_of_ble_eq_true rfl) (Nat.le_of_ble_eq_true rfl) ?_
  refine nw_putF cf_X11 13 (by decide) rfl wd_1049 rfl rfl (fun _ => rfl) (fun _ => rfl) (by omega) (by omega) (by unfold nMark; omega) (hK 0 (by decide)) dX11_init_82 ?_
  refine nw_aload_n dX11_init_85 rfl 0 rfl ?_
  refine nw_bipush (v := 8) dX11_init_86 (by decide) ?_
  refine nw_newa (t := 0) (N := 8) (ty := .int) dX11_init_88 wd_115 rfl (fun _ => rfl) nRA_int (fun _ => rfl) (hK 10 (by decide)) (by decide) (by decide) (by decide) (List.forall_mem_cons.mpr ⟨(show nLt _ (.inr 0) by show 0 < _; omega), List.forall_mem_nil _⟩) (List.forall_mem_cons.mpr ⟨(show nLt _ (.inr 0) by show 0 < _; omega), List.forall_mem_nil _⟩) (by omega) (Nat.le_of_ble_eq_true rfl) (Nat.le_of_ble_eq_true rfl) ?_
  refine nw_putF cf_X11 14 (by decide) rfl wd_1050 rfl rfl (fun _ => rfl) (fun _ => rfl) (by omega) (by omega) (by unfold nMark; omega) (hK 0 (by decide)) dX11_init_90 ?_
  refine nw_aload_n dX11_init_93 rfl 0 rfl ?_
  refine nw_bipush (v := 8) dX11_init_94 (by decide) ?_
  refine nw_newa (t := 0) (N := 8) (ty := .int) dX11_init_96 wd_115 rfl (fun _ => rfl) nRA_int (fun _ => rfl) (hK 11 (by decide)) (by decide) (by decide) (by decide) (List.forall_mem_cons.mpr ⟨(show nLt _ (.inr 0) by show 0 < _; omega), List.forall_mem_nil _⟩) (List.forall_mem_cons.mpr ⟨(show nLt _ (.inr 0) by show 0 < _; omega), List.forall_mem_nil _⟩) (by omega) (Nat.le_of_ble_eq_true rfl) (Nat.le_of_ble_eq_true rfl) ?_
  refine nw_putF cf_X11 15 (by decide) rfl wd_1051 rfl rfl (fun _ => rfl) (fun _ => rfl) (by omega) (by omega) (by unfold nMark; omega) (hK 0 (by decide)) dX11_init_98 ?_
  refine nw_aload_n dX11_init_101 rfl 0 rfl ?_
  refine nw_bipush (v := 14) dX11_init_102 (by decide) ?_
  refine nw_newa (t := 0) (N := 14) (ty := .int) dX11_init_104 wd_115 rfl (fun _ => rfl) nRA_int (fun _ => rfl) (hK 12 (by decide)) (by decide) (by decide) (by decide) (List.forall_mem_cons.mpr ⟨(show nLt _ (.inr 0) by show 0 < _; omega), List.forall_mem_nil _⟩) (List.forall_mem_cons.mpr ⟨(show nLt _ (.inr 0) by show 0 < _; omega), List.forall_mem_nil _⟩) (by omega) (Nat.le_of_ble_eq_true rfl) (Nat.le_of_ble_eq_true rfl) ?_
  refine nw_putF cf_X11 17 (by decide) rfl wd_1053 rfl rfl (fun _ => rfl) (fun _ => rfl) (by omega) (by omega) (by unfold nMark; omega) (hK 0 (by decide)) dX11_init_106 ?_
  refine nw_aload_n dX11_init_109 rfl 0 rfl ?_
  refine nw_bipush (v := 14) dX11_init_110 (by decide) ?_
  refine nw_newa (t := 0) (N := 14) (ty := .int) dX11_init_112 wd_115 rfl (fun _ => rfl) nRA_int (fun _ => rfl) (hK 13 (by decide)) (by decide) (by decide) (by decide) (List.forall_mem_cons.mpr ⟨(show nLt _ (.inr 0) by show 0 < _; omega), List.forall_mem_nil _⟩) (List.forall_mem_cons.mpr ⟨(show nLt _ (.inr 0) by show 0 < _; omega), List.forall_mem_nil _⟩) (by omega) (Nat.le_of_ble_eq_true rfl) (Nat.le_of_ble_eq_true rfl) ?_
  refine nw_putF cf_X11 18 (by decide) rfl wd_1054 rfl rfl (fun _ => rfl) (fun _ => rfl) (by omega) (by omega) (by unfold nMark; omega) (hK 0 (by decide)) dX11_init_114 ?_
  refine nw_aload_n dX11_init_117 rfl 0 rfl ?_
  refine nw_bipush (v := 14) dX11_init_118 (by decide) ?_
  refine nw_newa (t := 0) (N := 14) (ty := .int) dX11_init_120 wd_115 rfl (fun _ => rfl) nRA_int (fun _ => rfl) (hK 14 (by decide)) (by decide) (by decide) (by decide) (List.forall_mem_cons.mpr ⟨(show nLt _ (.inr 0) by show 0 < _; omega), List.forall_mem_nil _⟩) (List.forall_mem_cons.mpr ⟨(show nLt _ (.inr 0) by show 0 < _; omega), List.forall_mem_nil _⟩) (by omega) (Nat.le_of_ble_eq_true rfl) (Nat.le_of_ble_eq_true rfl) ?_
  refine nw_putF cf_X11 19 (by decide) rfl wd_1055 rfl rfl (fun _ => rfl) (fun _ => rfl) (by omega) (by omega) (by unfold nMark; omega) (hK 0 (by decide)) dX11_init_122 ?_
  refine nw_aload_n dX11_init_125 rfl 0 rfl ?_
  refine nw_bipush (v := 14) dX11_init_126 (by decide) ?_
  refine nw_newa (t := 0) (N := 14) (ty := .int) dX11_init_128 wd_115 rfl (fun _ => rfl) nRA_int (fun _ => rfl) (hK 15 (by decide)) (by decide) (by decide) (by decide) (List.forall_mem_cons.mpr ⟨(show nLt _ (.inr 0) by show 0 < _; omega), List.forall_mem_nil _⟩) (List.forall_mem_cons.mpr ⟨(show nLt _ (.inr 0) by show 0 < _; omega), List.forall_mem_nil _⟩) (by omega) (Nat.le_of_ble_eq_true rfl) (Nat.le_of_ble_eq_true rfl) ?_
  refine nw_putF cf_X11 20 (by decide) rfl wd_1056 rfl rfl (fun _ => rfl) (fun _ => rfl) (by omega) (by omega) (by unfold nMark; omega) (hK 0 (by decide)) dX11_init_130 ?_
  refine nw_aload_n dX11_init_133 rfl 0 rfl ?_
  refine nw_sipush (v := 200) dX11_init_134 (by decide) ?_
  refine nw_newa (t := 0) (N := 200) (ty := .int) dX11_init_137 wd_115 rfl (fun _ => rfl) nRA_int (fun _ => rfl) (hK 16 (by decide)) (by decide) (by decide) (by decide) (List.forall_mem_cons.mpr ⟨(show nLt _ (.inr 0) by show 0 < _; omega), List.forall_mem_nil _⟩) (List.forall_mem_cons.mpr ⟨(show nLt _ (.inr 0) by show 0 < _; omega), List.forall_mem_nil _⟩) (by omega) (Nat.le_of_ble_eq_true rfl) (Nat.le_of_ble_eq_true rfl) ?_
  refine nw_putF cf_X11 21 (by decide) rfl wd_1057 rfl rfl (fun _ => rfl) (fun _ => rfl) (by omega) (by omega) (by unfold nMark; omega) (hK 0 (by decide)) dX11_init_139 ?_
  refine nw_aload_n dX11_init_142 rfl 0 rfl ?_
  refine nw_sipush (v := 200) dX11_init_143 (by decide) ?_
  refine nw_newa (t := 0) (N := 200) (ty := .int) dX11_init_146 wd_115 rfl (fun _ => rfl) nRA_int (fun _ => rfl) (hK 17 (by decide)) (by decide) (by decide) (by decide) (List.forall_mem_cons.mpr ⟨(show nLt _ (.inr 0) by show 0 < _; omega), List.forall_mem_nil _⟩) (List.forall_mem_cons.mpr ⟨(show nLt _ (.inr 0) by show 0 < _; omega), List.forall_mem_nil _⟩) (by omega) (Nat.le_of_ble_eq_true rfl) (Nat.le_of_ble_eq_true rfl) ?_
  refine nw_putF cf_X11 22 (by decide) rfl wd_1058 rfl rfl (fun _ => rfl) (fun _ => rfl) (by omega) (by omega) (by unfold nMark; omega) (hK 0 (by decide)) dX11_init_148 ?_
  refine nw_aload_n dX11_init_151 rfl 0 rfl ?_
  refine nw_bipush (v := 14) dX11_init_152 (by decide) ?_
  refine nw_newa (t := 0) (N := 14) (ty := .int) dX11_init_154 wd_115 rfl (fun _ => rfl) nRA_int (fun _ => rfl) (hK 18 (by decide)) (by decide) (by decide) (by decide) (List.forall_mem_cons.mpr ⟨(show nLt _ (.inr 0) by show 0 < _; omega), List.forall_mem_nil _⟩) (List.forall_mem_cons.mpr ⟨(show nLt _ (.inr 0) by show 0 < _; omega), List.forall_mem_nil _⟩) (by omega) (Nat.le_of_ble_eq_true rfl) (Nat.le_of_ble_eq_true rfl) ?_
  refine nw_putF cf_X11 23 (by decide) rfl wd_1059 rfl rfl (fun _ => rfl) (fun _ => rfl) (by omega) (by omega) (by unfold nMark; omega) (hK 0 (by decide)) dX11_init_156 ?_
  refine nw_aload_n dX11_init_159 rfl 0 rfl ?_
  refine nw_bipush (v := 14) dX11_init_160 (by decide) ?_
  refine nw_newa (t := 0) (N := 14) (ty := .int) dX11_init_162 wd_115 rfl (fun _ => rfl) nRA_int (fun _ => rfl) (hK 19 (by decide)) (by decide) (by decide) (by decide) (List.forall_mem_cons.mpr ⟨(show nLt _ (.inr 0) by show 0 < _; omega), List.forall_mem_nil _⟩) (List.forall_mem_cons.mpr ⟨(show nLt _ (.inr 0) by show 0 < _; omega), List.forall_mem_nil _⟩) (by omega) (Nat.le_of_ble_eq_true rfl) (Nat.le_of_ble_eq_true rfl) ?_
  refine nw_putF cf_X11 24 (by decide) rfl wd_1060 rfl rfl (fun _ => rfl) (fun _ => rfl) (by omega) (by omega) (by unfold nMark; omega) (hK 0 (by decide)) dX11_init_164 ?_
  refine nw_aload_n dX11_init_167 rfl 0 rfl ?_
  refine nw_bipush (v := 14) dX11_init_168 (by decide) ?_
  refine nw_newa (t := 0) (N := 14) (ty := .int) dX11_init_170 wd_115 rfl (fun _ => rfl) nRA_int (fun _ => rfl) (hK 20 (by decide)) (by decide) (by decide) (by decide) (List.forall_mem_cons.mpr ⟨(show nLt _ (.inr 0) by show 0 < _; omega), List.forall_mem_nil _⟩) (List.forall_mem_cons.mpr ⟨(show nLt _ (.inr 0) by show 0 < _; omega), List.forall_mem_nil _⟩) (by omega) (Nat.le_of_ble_eq_true rfl) (Nat.le_of_ble_eq_true rfl) ?_
  refine nw_putF cf_X11 25 (by decide) rfl wd_1061 rfl rfl (fun _ => rfl) (fun _ => rfl) (by omega) (by omega) (by unfold nMark; omega) (hK 0 (by decide)) dX11_init_172 ?_
  refine nw_aload_n dX11_init_175 rfl 0 rfl ?_
  refine nw_bipush (v := 14) dX11_init_176 (by decide) ?_
  refine nw_newa (t := 0) (N := 14) (ty := .int) dX11_init_178 wd_115 rfl (fun _ => rfl) nRA_int (fun _ => rfl) (hK 21 (by decide)) (by decide) (by decide) (by decide) (List.forall_mem_cons.mpr ⟨(show nLt _ (.inr 0) by show 0 < _; omega), List.forall_mem_nil _⟩) (List.forall_mem_cons.mpr ⟨(show nLt _ (.inr 0) by show 0 < _; omega), List.forall_mem_nil _⟩) (by omega) (Nat.le_of_ble_eq_true rfl) (Nat.le_of_ble_eq_true rfl) ?_
  refine nw_putF cf_X11 26 (by decide) rfl wd_1062 rfl rfl (fun _ => rfl) (fun _ => rfl) (by omega) (by omega) (by unfold nMark; omega) (hK 0 (by decide)) dX11_init_180 ?_
  refine nw_aload_n dX11_init_183 rfl 0 rfl ?_
  refine nw_sipush (v := 200) dX11_init_184 (by decide) ?_
  refine nw_newa (t := 0) (N := 200) (ty := .int) dX11_init_187 wd_115 rfl (fun _ => rfl) nRA_int (fun _ => rfl) (hK 22 (by decide)) (by decide) (by decide) (by decide) (List.forall_mem_cons.mpr ⟨(show nLt _ (.inr 0) by show 0 < _; omega), List.forall_mem_nil _⟩) (List.forall_mem_cons.mpr ⟨(show nLt _ (.inr 0) by show 0 < _; omega), List.forall_mem_nil _⟩) (by omega) (Nat.le_of_ble_eq_true rfl) (Nat.le_of_ble_eq_true rfl) ?_
  refine nw_putF cf_X11 27 (by decide) rfl wd_1063 rfl rfl (fun _ => rfl) (fun _ => rfl) (by omega) (by omega) (by unfold nMark; omega) (hK 0 (by decide)) dX11_init_189 ?_
  refine nw_aload_n dX11_init_192 rfl 0 rfl ?_
  refine nw_sipush (v := 200) dX11_init_193 (by decide) ?_
  refine nw_newa (t := 0) (N := 200) (ty := .int) dX11_init_196 wd_115 rfl (fun _ => rfl) nRA_int (fun _ => rfl) (hK 23 (by decide)) (by decide) (by decide) (by decide) (List.forall_mem_cons.mpr ⟨(show nLt _ (.inr 0) by show 0 < _; omega), List.forall_mem_nil _⟩) (List.forall_mem_cons.mpr ⟨(show nLt _ (.inr 0) by show 0 < _; omega), List.forall_mem_nil _⟩) (by omega) (Nat.le_of_ble_eq_true rfl) (Nat.le_of_ble_eq_true rfl) ?_
  refine nw_putF cf_X11 28 (by decide) rfl wd_1064 rfl rfl (fun _ => rfl) (fun _ => rfl) (by omega) (by omega) (by unfold nMark; omega) (hK 0 (by decide)) dX11_init_198 ?_
  refine nw_aload_n dX11_init_201 rfl 0 rfl ?_
  refine nw_sipush (v := 240) dX11_init_202 (by decide) ?_
  refine nw_newa (t := 0) (N := 240) (ty := .int) dX11_init_205 wd_115 rfl (fun _ => rfl) nRA_int (fun _ => rfl) (hK 24 (by decide)) (by decide) (by decide) (by decide) (List.forall_mem_cons.mpr ⟨(show nLt _ (.inr 0) by show 0 < _; omega), List.forall_mem_nil _⟩) (List.forall_mem_cons.mpr ⟨(show nLt _ (.inr 0) by show 0 < _; omega), List.forall_mem_nil _⟩) (by omega) (Nat.le_of_ble_eq_true rfl) (Nat.le_of_ble_eq_true rfl) ?_
  refine nw_putF cf_X11 38 (by decide) rfl wd_1074 rfl rfl (fun _ => rfl) (fun _ => rfl) (by omega) (by omega) (by unfold nMark; omega) (hK 0 (by decide)) dX11_init_207 ?_
  refine nw_aload_n dX11_init_210 rfl 0 rfl ?_
  refine nw_sipush (v := 240) dX11_init_211 (by decide) ?_
  refine nw_newa (t := 0) (N := 240) (ty := .int) dX11_init_214 wd_115 rfl (fun _ => rfl) nRA_int (fun _ => rfl) (hK 25 (by decide)) (by decide) (by decide) (by decide) (List.forall_mem_cons.mpr ⟨(show nLt _ (.inr 0) by show 0 < _; omega), List.forall_mem_nil _⟩) (List.forall_mem_cons.mpr ⟨(show nLt _ (.inr 0) by show 0 < _; omega), List.forall_mem_nil _⟩) (by omega) (Nat.le_of_ble_eq_true rfl) (Nat.le_of_ble_eq_true rfl) ?_
  refine nw_putF cf_X11 43 (by decide) rfl wd_1079 rfl rfl (fun _ => rfl) (fun _ => rfl) (by omega) (by omega) (by unfold nMark; omega) (hK 0 (by decide)) dX11_init_216 ?_
  refine nw_aload_n dX11_init_219 rfl 0 rfl ?_
  refine nw_sipush (v := 240) dX11_init_220 (by decide) ?_
  refine nw_newa (t := 1) (N := 240) (ty := .boolean) dX11_init_223 wd_250 rfl (fun _ => rfl) nRA_boolean (fun _ => rfl) (hK 26 (by decide)) (by decide) (by decide) (by decide) (List.forall_mem_cons.mpr ⟨(show nLt _ (.inr 0) by show 0 < _; omega), List.forall_mem_nil _⟩) (List.forall_mem_cons.mpr ⟨(show nLt _ (.inr 0) by show 0 < _; omega), List.forall_mem_nil _⟩) (by omega) (Nat.le_of_ble_eq_true rfl) (Nat.le_of_ble_eq_true rfl) ?_
  refine nw_putF cf_X11 44 (by decide) rfl wd_1080 rfl rfl (fun _ => rfl) (fun _ => rfl) (by omega) (by omega) (by unfold nMark; omega) (hK 0 (by decide)) dX11_init_225 ?_
  refine nw_aload_n dX11_init_228 rfl 0 rfl ?_
  refine nw_bipush (v := 8) dX11_init_229 (by decide) ?_
  refine nw_newa (t := 0) (N := 8) (ty := .int) dX11_init_231 wd_115 rfl (fun _ => rfl) nRA_int (fun _ => rfl) (hK 27 (by decide)) (by decide) (by decide) (by decide) (List.forall_mem_cons.mpr ⟨(show nLt _ (.inr 0) by show 0 < _; omega), List.forall_mem_nil _⟩) (List.forall_mem_cons.mpr ⟨(show nLt _ (.inr 0) by show 0 < _; omega), List.forall_mem_nil _⟩) (by omega) (Nat.le_of_ble_eq_true rfl) (Nat.le_of_ble_eq_true rfl) ?_
  refine nw_putF cf_X11 45 (by decide) rfl wd_1081 rfl rfl (fun _ => rfl) (fun _ => rfl) (by omega) (by omega) (by unfold nMark; omega) (hK 0 (by decide)) dX11_init_233 ?_
  refine nw_aload_n dX11_init_236 rfl 0 rfl ?_
  refine nw_sipush (v := 256) dX11_init_237 (by decide) ?_
  refine nw_newa (t := 0) (N := 256) (ty := .int) dX11_init_240 wd_115 rfl (fun _ => rfl) nRA_int (fun _ => rfl) (hK 28 (by decide)) (by decide) (by decide) (by decide) (List.forall_mem_cons.mpr ⟨(show nLt _ (.inr 0) by show 0 < _; omega), List.forall_mem_nil _⟩) (List.forall_mem_cons.mpr ⟨(show nLt _ (.inr 0) by show 0 < _; omega), List.forall_mem_nil _⟩) (by omega) (Nat.le_of_ble_eq_true rfl) (Nat.le_of_ble_eq_true rfl) ?_
  refine nw_putF cf_X11 46 (by decide) rfl wd_1082 rfl rfl (fun _ => rfl) (fun _ => rfl) (by omega) (by omega) (by unfold nMark; omega) (hK 0 (by decide)) dX11_init_242 ?_
  refine nw_aload_n dX11_init_245 rfl 0 rfl ?_
  refine nw_sipush (v := 512) dX11_init_246 (by decide) ?_
  refine nw_newa (t := 0) (N := 512) (ty := .int) dX11_init_249 wd_115 rfl (fun _ => rfl) nRA_int (fun _ => rfl) (hK 29 (by decide)) (by decide) (by decide) (by decide) (List.forall_mem_cons.mpr ⟨(show nLt _ (.inr 0) by show 0 < _; omega), List.forall_mem_nil _⟩) (List.forall_mem_cons.mpr ⟨(show nLt _ (.inr 0) by show 0 < _; omega), List.forall_mem_nil _⟩) (by omega) (Nat.le_of_ble_eq_true rfl) (Nat.le_of_ble_eq_true rfl) ?_
  refine nw_putF cf_X11 47 (by decide) rfl wd_1083 rfl rfl (fun _ => rfl) (fun _ => rfl) (by omega) (by omega) (by unfold nMark; omega) (hK 0 (by decide)) dX11_init_251 ?_
  refine nw_aload_n dX11_init_254 rfl 0 rfl ?_
  refine nw_sipush (v := 512) dX11_init_255 (by decide) ?_
  refine nw_newa (t := 1) (N := 512) (ty := .boolean) dX11_init_258 wd_250 rfl (fun _ => rfl) nRA_boolean (fun _ => rfl) (hK 30 (by decide)) (by decide) (by decide) (by decide) (List.forall_mem_cons.mpr ⟨(show nLt _ (.inr 0) by show 0 < _; omega), List.forall_mem_nil _⟩) (List.forall_mem_cons.mpr ⟨(show nLt _ (.inr 0) by show 0 < _; omega), List.forall_mem_nil _⟩) (by omega) (Nat.le_of_ble_eq_true rfl) (Nat.le_of_ble_eq_true rfl) ?_
  refine nw_putF cf_X11 48 (by decide) rfl wd_1084 rfl rfl (fun _ => rfl) (fun _ => rfl) (by omega) (by omega) (by unfold nMark; omega) (hK 0 (by decide)) dX11_init_260 ?_
  refine nw_aload_n dX11_init_263 rfl 0 rfl ?_
  refine nw_sipush (v := 512) dX11_init_264 (by decide) ?_
  refine nw_newa (t := 0) (N := 512) (ty := .int) dX11_init_267 wd_115 rfl (fun _ => rfl) nRA_int (fun _ => rfl) (hK 31 (by decide)) (by decide) (by decide) (by decide) (List.forall_mem_cons.mpr ⟨(show nLt _ (.inr 0) by show 0 < _; omega), List.forall_mem_nil _⟩) (List.forall_mem_cons.mpr ⟨(show nLt _ (.inr 0) by show 0 < _; omega), List.forall_mem_nil _⟩) (by omega) (Nat.le_of_ble_eq_true rfl) (Nat.le_of_ble_eq_true rfl) ?_
  refine nw_putF cf_X11 49 (by decide) rfl wd_1085 rfl rfl (fun _ => rfl) (fun _ => rfl) (by omega) (by omega) (by unfold nMark; omega) (hK 0 (by decide)) dX11_init_269 ?_
  refine nw_aload_n dX11_init_272 rfl 0 rfl ?_
  refine nw_bipush (v := 16) dX11_init_273 (by decide) ?_
  refine nw_newa (t := 0) (N := 16) (ty := .int) dX11_init_275 wd_115 rfl (fun _ => rfl) nRA_int (fun _ => rfl) (hK 32 (by decide)) (by decide) (by decide) (by decide) (List.forall_mem_cons.mpr ⟨(show nLt _ (.inr 0) by show 0 < _; omega), List.forall_mem_nil _⟩) (List.forall_mem_cons.mpr ⟨(show nLt _ (.inr 0) by show 0 < _; omega), List.forall_mem_nil _⟩) (by omega) (Nat.le_of_ble_eq_true rfl) (Nat.le_of_ble_eq_true rfl) ?_
  refine nw_putF cf_X11 50 (by decide) rfl wd_1086 rfl rfl (fun _ => rfl) (fun _ => rfl) (by omega) (by omega) (by unfold nMark; omega) (hK 0 (by decide)) dX11_init_277 ?_
  refine nw_aload_n dX11_init_280 rfl 0 rfl ?_
  refine nw_iconst (v := 2) dX11_init_281 (by decide) ?_
  refine nw_newa (t := 0) (N := 2) (ty := .int) dX11_init_282 wd_115 rfl (fun _ => rfl) nRA_int (fun _ => rfl) (hK 33 (by decide)) (by decide) (by decide) (by decide) (List.forall_mem_cons.mpr ⟨(show nLt _ (.inr 0) by show 0 < _; omega), List.forall_mem_nil _⟩) (List.forall_mem_cons.mpr ⟨(show nLt _ (.inr 0) by show 0 < _; omega), List.forall_mem_nil _⟩) (by omega) (Nat.le_of_ble_eq_true rfl) (Nat.le_of_ble_eq_true rfl) ?_
  refine nw_putF cf_X11 51 (by decide) rfl wd_1087 rfl rfl (fun _ => rfl) (fun _ => rfl) (by omega) (by omega) (by unfold nMark; omega) (hK 0 (by decide)) dX11_init_284 ?_
  refine nw_aload_n dX11_init_287 rfl 0 rfl ?_
  refine nw_bipush (v := 40) dX11_init_288 (by decide) ?_
  refine nw_newa (t := 0) (N := 40) (ty := .int) dX11_init_290 wd_115 rfl (fun _ => rfl) nRA_int (fun _ => rfl) (hK 34 (by decide)) (by decide) (by decide) (by decide) (List.forall_mem_cons.mpr ⟨(show nLt _ (.inr 0) by show 0 < _; omega), List.forall_mem_nil _⟩) (List.forall_mem_cons.mpr ⟨(show nLt _ (.inr 0) by show 0 < _; omega), List.forall_mem_nil _⟩) (by omega) (Nat.le_of_ble_eq_true rfl) (Nat.le_of_ble_eq_true rfl) ?_
  refine nw_putF cf_X11 52 (by decide) rfl wd_1088 rfl rfl (fun _ => rfl) (fun _ => rfl) (by omega) (by omega) (by unfold nMark; omega) (hK 0 (by decide)) dX11_init_292 ?_
  refine nw_aload_n dX11_init_295 rfl 0 rfl ?_
  refine nw_bipush (v := 10) dX11_init_296 (by decide) ?_
  refine nw_newa (t := 0) (N := 10) (ty := .int) dX11_init_298 wd_115 rfl (fun _ => rfl) nRA_int (fun _ => rfl) (hK 35 (by decide)) (by decide) (by decide) (by decide) (List.forall_mem_cons.mpr ⟨(show nLt _ (.inr 0) by show 0 < _; omega), List.forall_mem_nil _⟩) (List.forall_mem_cons.mpr ⟨(show nLt _ (.inr 0) by show 0 < _; omega), List.forall_mem_nil _⟩) (by omega) (Nat.le_of_ble_eq_true rfl) (Nat.le_of_ble_eq_true rfl) ?_
  refine nw_putF cf_X11 53 (by decide) rfl wd_1089 rfl rfl (fun _ => rfl) (fun _ => rfl) (by omega) (by omega) (by unfold nMark; omega) (hK 0 (by decide)) dX11_init_300 ?_
  refine nw_aload_n dX11_init_303 rfl 0 rfl ?_
  refine nw_sipush (v := 256) dX11_init_304 (by decide) ?_
  refine nw_newa (t := 1) (N := 256) (ty := .boolean) dX11_init_307 wd_250 rfl (fun _ => rfl) nRA_boolean (fun _ => rfl) (hK 36 (by decide)) (by decide) (by decide) (by decide) (List.forall_mem_cons.mpr ⟨(show nLt _ (.inr 0) by show 0 < _; omega), List.forall_mem_nil _⟩) (List.forall_mem_cons.mpr ⟨(show nLt _ (.inr 0) by show 0 < _; omega), List.forall_mem_nil _⟩) (by omega) (Nat.le_of_ble_eq_true rfl) (Nat.le_of_ble_eq_true rfl) ?_
  refine nw_putF cf_X11 55 (by decide) rfl wd_1091 rfl rfl (fun _ => rfl) (fun _ => rfl) (by omega) (by omega) (by unfold nMark; omega) (hK 0 (by decide)) dX11_init_309 ?_
  refine nw_aload_n dX11_init_312 rfl 0 rfl ?_
  refine nw_bipush (v := 12) dX11_init_313 (by decide) ?_
  refine nw_newa (t := 0) (N := 12) (ty := .int) dX11_init_315 wd_115 rfl (fun _ => rfl) nRA_int (fun _ => rfl) (hK 37 (by decide)) (by decide) (by decide) (by decide) (List.forall_mem_cons.mpr ⟨(show nLt _ (.inr 0) by show 0 < _; omega), List.forall_mem_nil _⟩) (List.forall_mem_cons.mpr ⟨(show nLt _ (.inr 0) by show 0 < _; omega), List.forall_mem_nil _⟩) (by omega) (Nat.le_of_ble_eq_true rfl) (Nat.le_of_ble_eq_true rfl) ?_
  refine nw_putF cf_X11 56 (by decide) rfl wd_1092 rfl rfl (fun _ => rfl) (fun _ => rfl) (by omega) (by omega) (by unfold nMark; omega) (hK 0 (by decide)) dX11_init_317 ?_
  refine nw_aload_n dX11_init_320 rfl 0 rfl ?_
  refine nw_sipush (v := 4096) dX11_init_321 (by decide) ?_
  refine nw_newa (t := 0) (N := 4096) (ty := .int) dX11_init_324 wd_115 rfl (fun _ => rfl) nRA_int (fun _ => rfl) (hK 38 (by decide)) (by decide) (by decide) (by decide) (List.forall_mem_cons.mpr ⟨(show nLt _ (.inr 0) by show 0 < _; omega), List.forall_mem_nil _⟩) (List.forall_mem_cons.mpr ⟨(show nLt _ (.inr 0) by show 0 < _; omega), List.forall_mem_nil _⟩) (by omega) (Nat.le_of_ble_eq_true rfl) (Nat.le_of_ble_eq_true rfl) ?_
  refine nw_putF cf_X11 57 (by decide) rfl wd_1093 rfl rfl (fun _ => rfl) (fun _ => rfl) (by omega) (by omega) (by unfold nMark; omega) (hK 0 (by decide)) dX11_init_326 ?_
  refine nw_aload_n dX11_init_329 rfl 0 rfl ?_
  refine nw_sipush (v := 256) dX11_init_330 (by decide) ?_
  refine nw_newa (t := 0) (N := 256) (ty := .int) dX11_init_333 wd_115 rfl (fun _ => rfl) nRA_int (fun _ => rfl) (hK 39 (by decide)) (by decide) (by decide) (by decide) (List.forall_mem_cons.mpr ⟨(show nLt _ (.inr 0) by show 0 < _; omega), List.forall_mem_nil _⟩) (List.forall_mem_cons.mpr ⟨(show nLt _ (.inr 0) by show 0 < _; omega), List.forall_mem_nil _⟩) (by omega) (Nat.le_of_ble_eq_true rfl) (Nat.le_of_ble_eq_true rfl) ?_
  refine nw_putF cf_X11 58 (by decide) rfl wd_1094 rfl rfl (fun _ => rfl) (fun _ => rfl) (by omega) (by omega) (by unfold nMark; omega) (hK 0 (by decide)) dX11_init_335 ?_
  refine nw_aload_n dX11_init_338 rfl 0 rfl ?_
  refine nw_sipush (v := 256) dX11_init_339 (by decide) ?_
  refine nw_newa (t := 0) (N := 256) (ty := .int) dX11_init_342 wd_115 rfl (fun _ => rfl) nRA_int (fun _ => rfl) (hK 40 (by decide)) (by decide) (by decide) (by decide) (List.forall_mem_cons.mpr ⟨(show nLt _ (.inr 0) by show 0 < _; omega), List.forall_mem_nil _⟩) (List.forall_mem_cons.mpr ⟨(show nLt _ (.inr 0) by show 0 < _; omega), List.forall_mem_nil _⟩) (by omega) (Nat.le_of_ble_eq_true rfl) (Nat.le_of_ble_eq_true rfl) ?_
  refine nw_putF cf_X11 59 (by decide) rfl wd_1095 rfl rfl (fun _ => rfl) (fun _ => rfl) (by omega) (by omega) (by unfold nMark; omega) (hK 0 (by decide)) dX11_init_344 ?_
  refine nw_aload_n dX11_init_347 rfl 0 rfl ?_
  refine nw_bipush (v := 12) dX11_init_348 (by decide) ?_
  refine nw_newa (t := 0) (N := 12) (ty := .int) dX11_init_350 wd_115 rfl (fun _ => rfl) nRA_int (fun _ => rfl) (hK 41 (by decide)) (by decide) (by decide) (by decide) (List.forall_mem_cons.mpr ⟨(show nLt _ (.inr 0) by show 0 < _; omega), List.forall_mem_nil _⟩) (List.forall_mem_cons.mpr ⟨(show nLt _ (.inr 0) by show 0 < _; omega), List.forall_mem_nil _⟩) (by omega) (Nat.le_of_ble_eq_true rfl) (Nat.le_of_ble_eq_true rfl) ?_
  refine nw_putF cf_X11 64 (by decide) rfl wd_1100 rfl rfl (fun _ => rfl) (fun _ => rfl) (by omega) (by omega) (by unfold nMark; omega) (hK 0 (by decide)) dX11_init_352 ?_
  refine nw_aload_n dX11_init_355 rfl 0 rfl ?_
  refine nw_bipush (v := 12) dX11_init_356 (by decide) ?_
  refine nw_newa (t := 0) (N := 12) (ty := .int) dX11_init_358 wd_115 rfl (fun _ => rfl) nRA_int (fun _ => rfl) (hK 42 (by decide)) (by decide) (by decide) (by decide) (List.forall_mem_cons.mpr ⟨(show nLt _ (.inr 0) by show 0 < _; omega), List.forall_mem_nil _⟩) (List.forall_mem_cons.mpr ⟨(show nLt _ (.inr 0) by show 0 < _; omega), List.forall_mem_nil _⟩) (by omega) (Nat.le_of_ble_eq_true rfl) (Nat.le_of_ble_eq_true rfl) ?_
  refine nw_putF cf_X11 65 (by decide) rfl wd_1101 rfl rfl (fun _ => rfl) (fun _ => rfl) (by omega) (by omega) (by unfold nMark; omega) (hK 0 (by decide)) dX11_init_360 ?_
  refine nw_aload_n dX11_init_363 rfl 0 rfl ?_
  refine nw_bipush (v := 12) dX11_init_364 (by decide) ?_
  refine nw_newa (t := 0) (N := 12) (ty := .int) dX11_init_366 wd_115 rfl (fun _ => rfl) nRA_int (fun _ => rfl) (hK 43 (by decide)) (by decide) (by decide) (by decide) (List.forall_mem_cons.mpr ⟨(show nLt _ (.inr 0) by show 0 < _; omega), List.forall_mem_nil _⟩) (List.forall_mem_cons.mpr ⟨(show nLt _ (.inr 0) by show 0 < _; omega), List.forall_mem_nil _⟩) (by omega) (Nat.le_of_ble_eq_true rfl) (Nat.le_of_ble_eq_true rfl) ?_
  refine nw_putF cf_X11 66 (by decide) rfl wd_1102 rfl rfl (fun _ => rfl) (fun _ => rfl) (by omega) (by omega) (by unfold nMark; omega) (hK 0 (by decide)) dX11_init_368 ?_
  refine nw_aload_n dX11_init_371 rfl 0 rfl ?_
  refine nw_bipush (v := 12) dX11_init_372 (by decide) ?_
  refine nw_newa (t := 0) (N := 12) (ty := .int) dX11_init_374 wd_115 rfl (fun _ => rfl) nRA_int (fun _ => rfl) (hK 44 (by decide)) (by decide) (by decide) (by decide) (List.forall_mem_cons.mpr ⟨(show nLt _ (.inr 0) by show 0 < _; omega), List.forall_mem_nil _⟩) (List.forall_mem_cons.mpr ⟨(show nLt _ (.inr 0) by show 0 < _; omega), List.forall_mem_nil _⟩) (by omega) (Nat.le_of_ble_eq_true rfl) (Nat.le_of_ble_eq_true rfl) ?_
  refine nw_putF cf_X11 67 (by decide) rfl wd_1103 rfl rfl (fun _ => rfl) (fun _ => rfl) (by omega) (by omega) (by unfold nMark; omega) (hK 0 (by decide)) dX11_init_376 ?_
  refine nw_aload_n dX11_init_379 rfl 0 rfl ?_
  refine nw_bipush (v := 12) dX11_init_380 (by decide) ?_
  refine nw_newa (t := 0) (N := 12) (ty := .int) dX11_init_382 wd_115 rfl (fun _ => rfl) nRA_int (fun _ => rfl) (hK 45 (by decide)) (by decide) (by decide) (by decide) (List.forall_mem_cons.mpr ⟨(show nLt _ (.inr 0) by show 0 < _; omega), List.forall_mem_nil _⟩) (List.forall_mem_cons.mpr ⟨(show nLt _ (.inr 0) by show 0 < _; omega), List.forall_mem_nil _⟩) (by omega) (Nat.le_of_ble_eq_true rfl) (Nat.le_of_ble_eq_true rfl) ?_
  refine nw_putF cf_X11 68 (by decide) rfl wd_1104 rfl rfl (fun _ => rfl) (fun _ => rfl) (by omega) (by omega) (by unfold nMark; omega) (hK 0 (by decide)) dX11_init_384 ?_
  refine nw_aload_n dX11_init_387 rfl 0 rfl ?_
  refine nw_bipush (v := 8) dX11_init_388 (by decide) ?_
  refine nw_newa (t := 0) (N := 8) (ty := .int) dX11_init_390 wd_115 rfl (fun _ => rfl) nRA_int (fun _ => rfl) (hK 46 (by decide)) (by decide) (by decide) (by decide) (List.forall_mem_cons.mpr ⟨(show nLt _ (.inr 0) by show 0 < _; omega), List.forall_mem_nil _⟩) (List.forall_mem_cons.mpr ⟨(show nLt _ (.inr 0) by show 0 < _; omega), List.forall_mem_nil _⟩) (by omega) (Nat.le_of_ble_eq_true rfl) (Nat.le_of_ble_eq_true rfl) ?_
  refine nw_putF cf_X11 69 (by decide) rfl wd_1105 rfl rfl (fun _ => rfl) (fun _ => rfl) (by omega) (by omega) (by unfold nMark; omega) (hK 0 (by decide)) dX11_init_392 ?_
  refine nw_iconst (v := 0) dX11_init_395 (by decide) ?_
  refine nw_istore_n (lv' := [(1, .inl 0), (0, .inr 0)]) dX11_init_396 rfl (by decide) (fun _ => rfl) ?_
  have q := nloop_X11 (l := l) (K := K) (D := D) (cA := cA) hK (h := (sR (sR (sR (sR (sR (sR (sR (sR (sR (sR (sR (sR (sR (sR (sR (sR (sR (sR (sR (sR (sR (sR (sR (sR (sR (sR (sR (sR (sR (sR (sR (sR (sR (sR (sR (sR (sR (sR (sR (sR (sR (sR (sR (sR (sR (sI (sR h 0 0 1) 0 5 1) 0 6 2) 0 7 3) 0 8 4) 0 9 5) 0 10 6) 0 11 7) 0 12 8) 0 13 9) 0 14 10) 0 15 11) 0 17 12) 0 18 13) 0 19 14) 0 20 15) 0 21 16) 0 22 17) 0 23 18) 0 24 19) 0 25 20) 0 26 21) 0 27 22) 0 28 23) 0 38 24) 0 43 25) 0 44 26) 0 45 27) 0 46 28) 0 47 29) 0 48 30) 0 49 31) 0 50 32) 0 51 33) 0 52 34) 0 53 35) 0 55 36) 0 56 37) 0 57 38) 0 58 39) 0 59 40) 0 64 41) 0 65 42) 0 66 43) 0 67 44) 0 68 45) 0 69 46)) rfl rfl (ad0 := ad0) (sz := sz) 256 0 rfl
  rw [hFill_0] at q
  exact q
