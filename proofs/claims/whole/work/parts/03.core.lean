/-! ===== an abstract walk of one's own: a heap as functions of a cell's number and a place; all that a step needs of the machine stands in one context ===== -/
abbrev aM : Type := MethodName × ByteArray × Nat × Option FieldType
abbrev aK : Type := Nat → (Nat × List Bool) ⊕ (Nat × Nat)
abbrev aS : Type := Nat × aK
abbrev aG : Type := va_G × (Nat → Nat) × (Nat → ClassId)
abbrev aH : Type := (Nat → Nat → Int32) × (Nat → Nat → Int32) × (Nat → Nat → Nat)
def gA (h : aH) (k i : Nat) : Int32 := h.1 k i
def gI (h : aH) (k j : Nat) : Int32 := h.2.1 k j
def gR (h : aH) (k j : Nat) : Nat := h.2.2 k j
def sA (h : aH) (k i : Nat) (v : Int32) : aH := (fun a b => if a = k ∧ b = i then v else h.1 a b, h.2.1, h.2.2)
def sI (h : aH) (k j : Nat) (v : Int32) : aH := (h.1, fun a b => if a = k ∧ b = j then v else h.2.1 a b, h.2.2)
def sR (h : aH) (k j : Nat) (v : Nat) : aH := (h.1, h.2.1, fun a b => if a = k ∧ b = j then v else h.2.2 a b)
/-- n places of the array at cell k from place dp on become those of the array at cell k0 from sp on -/
def sC (h : aH) (k0 sp k dp n : Nat) : aH := (fun a b => if a = k then va_cpy (h.1 k0) (h.1 k) sp dp n b else h.1 a b, h.2.1, h.2.2)
def aV (ad : Nat → Nat) (h : aH) (k : Nat) (fl : List Bool) (j : Nat) : Value := if fl.getD j false = true then .ref (ad (gR h k j)) else .int (gI h k j)
def aFs (ad : Nat → Nat) (h : aH) (k : Nat) (fl : List Bool) : List Value := (List.range fl.length).map (aV ad h k fl)
def aE (G : aG) (K : aK) (h : aH) (k : Nat) : va_E := match K k with
  | .inl o => .inr (o.1, aFs G.2.1 h k o.2)
  | .inr a => .inl (G.2.2 a.1, a.2, .inl (gA h k))
def aWs (S : aS) (G : aG) (h : aH) : va_W := (List.range S.1).map (fun k => (G.2.1 k, aE G S.2 h k))
def aTy (G : aG) : List (ClassId × FieldType) := [(G.2.2 0, .int), (G.2.2 1, .boolean), (G.2.2 2, .byte)]
def aA (S : aS) (G : aG) : Nat → Prop := fun q => ∃ k, k < S.1 ∧ q = G.2.1 k
theorem a_set {α : Type} (f g : Nat → α) (n j : Nat) (e : α) (hj : g j = e) (h : ∀ i, i ≠ j → g i = f i) : ((List.range n).map f).set j e = (List.range n).map g := by
  apply List.ext_getElem?
  intro i
  by_cases hi : i = j
  · subst hi
    by_cases hn : i < n
    · rw [List.getElem?_set_self (by simpa using hn)]
      simp [hn, hj]
    · rw [List.getElem?_eq_none (by simpa using hn), List.getElem?_eq_none (by simpa using hn)]
  · rw [List.getElem?_set_ne (Ne.symm hi)]
    simp only [List.getElem?_map]
    cases hr : (List.range n)[i]? with
    | none => rfl
    | some b =>
      have hb : b = i := by
        have := List.getElem?_eq_some_iff.mp hr
        obtain ⟨h1, h2⟩ := this
        rw [List.getElem_range] at h2
        exact h2.symm
      subst hb
      simp [h b hi]
theorem aWs_get {S : aS} {G : aG} {h : aH} {k : Nat} (hk : k < S.1) : (aWs S G h)[k]? = some (G.2.1 k, aE G S.2 h k) := by
  simp [aWs, hk]
theorem aWs_obj {S : aS} {G : aG} {h : aH} {k ci : Nat} {fl : List Bool} (hk : k < S.1) (hS : S.2 k = .inl (ci, fl)) : (aWs S G h)[k]? = some (G.2.1 k, .inr (ci, aFs G.2.1 h k fl)) := by
  rw [aWs_get hk]; simp only [aE, hS]
theorem aWs_arr {S : aS} {G : aG} {h : aH} {k t n : Nat} (hk : k < S.1) (hS : S.2 k = .inr (t, n)) : (aWs S G h)[k]? = some (G.2.1 k, .inl (G.2.2 t, n, .inl (gA h k))) := by
  rw [aWs_get hk]; simp only [aE, hS]
theorem aFs_get {ad : Nat → Nat} {h : aH} {k j : Nat} {fl : List Bool} (hj : j < fl.length) : (aFs ad h k fl)[j]? = some (aV ad h k fl j) := by
  simp [aFs, hj]
theorem aWs_put {S : aS} {G : aG} {h h' : aH} {k : Nat} {e : va_E} (he : aE G S.2 h' k = e) (ho : ∀ a, a ≠ k → aE G S.2 h' a = aE G S.2 h a) : (aWs S G h).set k (G.2.1 k, e) = aWs S G h' := by
  unfold aWs
  apply a_set
  · rw [he]
  · intro i hi
    rw [ho i hi]
theorem aWs_sA {S : aS} {G : aG} {h : aH} {k t n : Nat} (hS : S.2 k = .inr (t, n)) (i : Nat) (v : Int32) : (aWs S G h).set k (G.2.1 k, .inl (G.2.2 t, n, .inl (upd (gA h k) i v))) = aWs S G (sA h k i v) := by
  apply aWs_put
  · have e : gA (sA h k i v) k = upd (gA h k) i v := by
      funext b
      simp [gA, sA, upd]
    simp only [aE, hS, e]
  · intro a ha
    have e : gA (sA h k i v) a = gA h a := by
      funext b
      simp [gA, sA, ha]
    simp only [aE]
    cases S.2 a with
    | inl o => rfl
    | inr q => simp only [e]
theorem aWs_sC {S : aS} {G : aG} {h : aH} {k t n : Nat} (hS : S.2 k = .inr (t, n)) (k0 sp dp m : Nat) : (aWs S G h).set k (G.2.1 k, .inl (G.2.2 t, n, .inl (va_cpy (gA h k0) (gA h k) sp dp m))) = aWs S G (sC h k0 sp k dp m) := by
  apply aWs_put
  · have e : gA (sC h k0 sp k dp m) k = va_cpy (gA h k0) (gA h k) sp dp m := by
      funext b
      simp [gA, sC, va_cpy]
    simp only [aE, hS, e]
  · intro a ha
    have e : gA (sC h k0 sp k dp m) a = gA h a := by
      funext b
      simp [gA, sC, ha]
    simp only [aE]
    cases S.2 a with
    | inl o => rfl
    | inr q => simp only [e]
theorem aWs_sI {S : aS} {G : aG} {h : aH} {k ci j : Nat} {fl : List Bool} (hS : S.2 k = .inl (ci, fl)) (hj : fl.getD j false = false) (v : Int32) : (aWs S G h).set k (G.2.1 k, .inr (ci, (aFs G.2.1 h k fl).set j (.int v))) = aWs S G (sI h k j v) := by
  apply aWs_put
  · have e : (aFs G.2.1 h k fl).set j (.int v) = aFs G.2.1 (sI h k j v) k fl := by
      unfold aFs
      apply a_set
      · simp [aV, hj, gI, sI]
      · intro i hi
        simp [aV, gI, gR, sI, hi]
    simp only [aE, hS, e]
  · intro a ha
    simp only [aE]
    cases S.2 a with
    | inl o =>
      have e : aFs G.2.1 (sI h k j v) a o.2 = aFs G.2.1 h a o.2 := by
        unfold aFs
        apply List.map_congr_left
        intro b _
        simp [aV, gI, gR, sI, ha]
      simp only [e]
    | inr q => rfl
theorem aWs_sR {S : aS} {G : aG} {h : aH} {k ci j : Nat} {fl : List Bool} (hS : S.2 k = .inl (ci, fl)) (hj : fl.getD j false = true) (v : Nat) : (aWs S G h).set k (G.2.1 k, .inr (ci, (aFs G.2.1 h k fl).set j (.ref (G.2.1 v)))) = aWs S G (sR h k j v) := by
  apply aWs_put
  · have e : (aFs G.2.1 h k fl).set j (.ref (G.2.1 v)) = aFs G.2.1 (sR h k j v) k fl := by
      unfold aFs
      apply a_set
      · simp [aV, hj, gR, sR]
      · intro i hi
        simp [aV, gI, gR, sR, hi]
    simp only [aE, hS, e]
  · intro a ha
    simp only [aE]
    cases S.2 a with
    | inl o =>
      have e : aFs G.2.1 (sR h k j v) a o.2 = aFs G.2.1 h a o.2 := by
        unfold aFs
        apply List.map_congr_left
        intro b _
        simp [aV, gI, gR, sR, ha]
      simp only [e]
    | inr q => rfl
-- what nobody writes: the Grid's four static rows, the String of the law's letters
def gSX (j : Nat) : Int32 := [-1, 0, 1, -1, 1, -1, 0, 1].getD j 0
def gSY (j : Nat) : Int32 := [-1, -1, -1, 0, 0, 1, 1, 1].getD j 0
def gDX (j : Nat) : Int32 := [0, -1, 1, 0].getD j 0
def gDY (j : Nat) : Int32 := [-1, 0, 0, 1].getD j 0
def aX1 (A : Nat → Prop) (U : State) (f : String) (N : Nat) (v : Nat → Int32) : Prop := ∃ t : Nat, va_Z "HoleFair$Grid" f "[I" (.ref t) A U U.heap ∧ va_T .int t N (fun j => .int (v j)) A U U.heap
def aXs (A : Nat → Prop) (U : State) : Prop := ∃ (adK adV : Nat → Nat), vk_R "HoleFair$LawReader" 87 "inhxymkspdwq" (adK 0) U ∧ vk_S 1 [12] [[105, 110, 104, 120, 121, 109, 107, 115, 112, 100, 119, 113]] adK adV A U U.heap ∧ va_Z "java/lang/String" "COMPACT_STRINGS" "Z" (.int 1) A U U.heap
def aX (A : Nat → Prop) (U : State) : Prop := aX1 A U "STEP_X" 8 gSX ∧ aX1 A U "STEP_Y" 8 gSY ∧ aX1 A U "SIDE_X" 4 gDX ∧ aX1 A U "SIDE_Y" 4 gDY ∧ aXs A U
theorem aX1_to {A : Nat → Prop} {s U : State} {f : String} {N : Nat} {v : Nat → Int32} (hvm : s.vm.Alike U.vm) (hq : ∀ a : Nat, a < s.heap.size → ¬ A a → U.heap[a]? = s.heap[a]?) (h : aX1 A s f N v) : aX1 A U f N v := by
  obtain ⟨t, h1, h2⟩ := h
  exact ⟨t, (h1.moved hvm).kept hq, (h2.moved hvm).kept hq⟩
theorem aX_to {A : Nat → Prop} {s U : State} (hW : s.WarmedH U.vm) (hq : ∀ a : Nat, a < s.heap.size → ¬ A a → U.heap[a]? = s.heap[a]?) (h : aX A s) : aX A U := by
  obtain ⟨h1, h2, h3, h4, adK, adV, h5, h6, h7⟩ := h
  exact ⟨aX1_to hW.alike hq h1, aX1_to hW.alike hq h2, aX1_to hW.alike hq h3, aX1_to hW.alike hq h4, adK, adV, h5.warm hW, (h6.moved hW.alike).kept hq, (h7.moved hW.alike).kept hq⟩
theorem aX_calling {A : Nat → Prop} {U : State} {g : JFrame} {mk : MethodId} {a : Array Value} (h : aX A U) : aX A (U.calling g mk a) := by
  obtain ⟨h1, h2, h3, h4, adK, adV, h5, h6, h7⟩ := h
  have hvm : U.vm.Alike (U.calling g mk a).vm := Vm.Alike.refl U.vm
  exact ⟨aX1_to hvm (fun _ _ _ => rfl) h1, aX1_to hvm (fun _ _ _ => rfl) h2, aX1_to hvm (fun _ _ _ => rfl) h3, aX1_to hvm (fun _ _ _ => rfl) h4, adK, adV, h5.same rfl, h6.moved hvm, h7.moved hvm⟩
def aRm (d : Nat) : Room := { frames := d, cells := 0, slots := 0, locals := 40 * d }
def aOK (S : aS) (G : aG) (h : aH) (U : State) : Prop := va_P G.1 vwCl (aWs S G h) U.heap ∧ va_K G.1 vwCl (aTy G) U ∧ va_D (aA S G) (aWs S G h) ∧ aX (aA S G) U
def aPo (S : aS) (G : aG) (h : aH) (U : State) : Prop := va_P G.1 vwCl (aWs S G h) U.heap
abbrev aW0 (M : aM) : List Cond := .code M.1 M.2.1 M.2.2.1 M.2.2.2 :: lw_tbl
def AMet (l : Launch) (S : aS) (G : aG) (d : Nat) (M : aM) (av : List Value) (h : aH) (Qc : Array Value → State → Outcome → State → Prop) : Prop := Met l M.1 (aW0 M) (aRm d) (va_Pc av (aOK S G h)) Qc 0 0 (aA S G)
abbrev AMi (l : Launch) (S : aS) (G : aG) (d : Nat) (M : aM) (av : List Value) (h : aH) (Q : Int32 → aH → Prop) : Prop := AMet l S G d M av h (va_Qi Q (aPo S G) (aA S G))
abbrev AMv (l : Launch) (S : aS) (G : aG) (d : Nat) (M : aM) (av : List Value) (h : aH) (Q : aH → Prop) : Prop := AMet l S G d M av h (va_Qv Q (aPo S G) (aA S G))
abbrev AMr (l : Launch) (S : aS) (G : aG) (d : Nat) (M : aM) (av : List Value) (h : aH) (Q : Nat → aH → Prop) : Prop := AMet l S G d M av h (va_Qr (fun u : Nat × aH => Q u.1 u.2) (fun u a t => a = G.2.1 u.1 ∧ aPo S G u.2 t) (aA S G))
def aC (S : aS) (G : aG) (M : aM) (p : Program) (s : State) (m : MethodId) (args : Array Value) (meth : Method) (c : Code) : Prop :=
  p.tables.exec = Jvm.exec ∧ c.code = M.2.1 ∧ meth.sig.returnType = M.2.2.2 ∧ c.maxLocals = M.2.2.1 ∧ s.vm.findClass M.1.cls = some m.cls ∧ (∀ w ∈ lw_tbl, w.before args s = true) ∧ meth.locks = false ∧ va_K G.1 vwCl (aTy G) s ∧ aX (aA S G) s
def aAt (S : aS) (G : aG) (h : aH) (s : State) (H : Heap) (locs : List Loc) : Prop := va_P G.1 vwCl (aWs S G h) H ∧ va_D (aA S G) (aWs S G h) ∧ va_S (aA S G) s.heap H locs
def AW (l : Launch) (S : aS) (G : aG) (d : Nat) (M : aM) (Qc : Array Value → State → Outcome → State → Prop) (pc : Nat) (lv : List (Nat × Value)) (st : List Value) (h : aH) : Prop :=
  ∀ (p : Program) (e : Env) (s : State) (m : MethodId) (args : Array Value) (below : List Frame) (meth : Method) (c : Code) (H : Heap) (locs : List Loc) (ls : Array Slot), aC S G M p s m args meth c → aAt S G h s H locs → lv_has ls M.2.2.1 lv →
    W p l e (aRm d) s m args below meth c H locs 0 0 (MQ below Qc args s 0 0 (aA S G)) (F0 m pc ls st)
/-- what is known of a method: its code stands in the tables -/
def aMF (M : aM) (n : Nat) : Prop := Cond.code M.1 M.2.1 M.2.2.1 M.2.2.2 ∈ lw_tbl ∧ Cond.initialized M.1.cls ∈ lw_tbl ∧ (M.1.cls ≠ "java/lang/invoke/MethodHandle" ∧ M.1.cls ≠ "java/lang/invoke/VarHandle" ∧ (parseMethodDescriptor M.1.desc).map (fun d => d.parameters.length) = some n) ∧ plainName M.1.cls = true ∧ M.2.2.1 ≤ 21
theorem lw_good : lw_tbl.all goodWord = true := by decide +kernel
theorem aW0_good {M : aM} {n : Nat} (hf : aMF M n) : GoodIn lw_tbl (aW0 M) := by
  have h0 : ∀ w ∈ lw_tbl, w ∈ lw_tbl ∧ ((w.onTables && w.keeps) = true ∨ ∃ ty, w = .arrayClass ty) := fun w hw => ⟨hw, good_of_word (List.all_eq_true.mp lw_good w hw)⟩
  intro w hw
  rcases List.mem_cons.mp hw with h | h
  · rw [h]; exact h0 _ hf.1
  · exact h0 w h
/-- an object of class number ci with these fields -/
def aObj (S : aS) (k ci : Nat) (fl : List Bool) : Prop := k < S.1 ∧ S.2 k = .inl (ci, fl)
/-- an array of type t (0 int, 1 boolean, 2 byte) that has the place i -/
def aIn (S : aS) (t k : Nat) (i : Int32) : Prop := ∃ n, k < S.1 ∧ S.2 k = .inr (t, n) ∧ vp_in i n
def aB (v : Int32) : Prop := narrow .boolean (.int v) = .int v ∧ fits .boolean (.int v) = true ∧ vp_nar .boolean v = v
section AWrules
variable {l : Launch} {S : aS} {G : aG} {d : Nat} {M : aM} {Qc : Array Value → State → Outcome → State → Prop} {pc : Nat} {lv : List (Nat × Value)} {st : List Value} {h : aH} {av : List Value}
theorem am_of {n : Nat} (hf : aMF M n) (hlen : (lg_sl av).length ≤ M.2.2.1) {lv0 : List (Nat × Value)} (hlv : lv_args 0 av = lv0) (k : AW l S G d M Qc 0 lv0 [] h) : AMet l S G d M av h Qc := by
  refine Met.ofW (cc := M.2.1) (maxL := M.2.2.1) (ret := M.2.2.2) hf.2.2.2.1 rfl ?_
  intro p e s m a below meth c s₁ B hml hv
  obtain ⟨rfl, hP, hK, hD, hX⟩ := hv
  have hl := lv_entry av (n := M.2.2.1) hlen
  rw [lg_entry_eq]
  rw [hlv] at hl
  exact k p e s m _ below meth c s.heap [] _ ⟨B.exec, B.bytes, B.returns, hml, findClass_of_methodNamed B.named, fun w hw => atoms_spec (ws := aW0 M) B.pre w (List.mem_cons_of_mem _ hw), B.notSynchronized, hK, hX⟩ ⟨hP, hD, va_S.rf⟩ hl
theorem am_mono {Q' : Array Value → State → Outcome → State → Prop} (h1 : AMet l S G d M av h Qc) (h2 : Qc = Q') : AMet l S G d M av h Q' := h2 ▸ h1
end AWrules
