/-! ===== an abstract walk of one's own: a heap as functions of a cell's number and a place; all that a step needs of the machine stands in one context ===== -/
abbrev aM : Type := MethodName × ByteArray × Nat × Option FieldType
abbrev aK : Type := Nat → (Nat × List Bool) ⊕ (Nat × Nat)
abbrev aS : Type := Nat × aK
abbrev aG : Type := va_G × (Nat → Nat) × (Nat → ClassId)
abbrev aH : Type := (Nat → Nat → Int32) × (Nat → Nat → Int32) × (Nat → Nat → Nat)
def gA (h : aH) (k i : Nat) : Int32 := h.1 k i
def gI (h : aH) (k j : Nat) : Int32 := h.2.1 k j
def gR (h : aH) (k j : Nat) : Nat := h.2.2 k j
def sA (h : aH) (k i : Nat) (v : Int32) : aH := (fun a b => if a = k ∧ b = i then v else h.1 a b, h.2.1, h.2.2)
def sI (h : aH) (k j : Nat) (v : Int32) : aH := (h.1, fun a b => if a = k ∧ b = j then v else h.2.1 a b, h.2.2)
def sR (h : aH) (k j : Nat) (v : Nat) : aH := (h.1, h.2.1, fun a b => if a = k ∧ b = j then v else h.2.2 a b)
/-- n places of the array at cell k from place dp on become those of the array at cell k0 from sp on -/
def sC (h : aH) (k0 sp k dp n : Nat) : aH := (fun a b => if a = k then va_cpy (h.1 k0) (h.1 k) sp dp n b else h.1 a b, h.2.1, h.2.2)
def aV (ad : Nat → Nat) (h : aH) (k : Nat) (fl : List Bool) (j : Nat) : Value := if (fl[j]?).getD false = true then .ref (ad (gR h k j)) else .int (gI h k j)
def aFs (ad : Nat → Nat) (h : aH) (k : Nat) (fl : List Bool) : List Value := (List.range fl.length).map (aV ad h k fl)
def aE (G : aG) (K : aK) (h : aH) (k : Nat) : va_E := match K k with
  | .inl o => .inr (o.1, aFs G.2.1 h k o.2)
  | .inr a => .inl (G.2.2 a.1, a.2, .inl (gA h k))
def aWs (S : aS) (G : aG) (h : aH) : va_W := (List.range S.1).map (fun k => (G.2.1 k, aE G S.2 h k))
def aTy (G : aG) : List (ClassId × FieldType) := [(G.2.2 0, .int), (G.2.2 1, .boolean), (G.2.2 2, .byte)]
def aA (S : aS) (G : aG) : Nat → Prop := fun q => ∃ k, k < S.1 ∧ q = G.2.1 k
theorem a_set {α : Type} (f g : Nat → α) (n j : Nat) (e : α) (hj : g j = e) (h : ∀ i, i ≠ j → g i = f i) : ((List.range n).map f).set j e = (List.range n).map g := by
  apply List.ext_getElem?
  intro i
  by_cases hi : i = j
  · subst hi
    by_cases hn : i < n
    · rw [List.getElem?_set_self (by simpa using hn)]
      simp [hn, hj]
    · rw [List.getElem?_eq_none (by simpa using hn), List.getElem?_eq_none (by simpa using hn)]
  · rw [List.getElem?_set_ne (Ne.symm hi)]
    simp only [List.getElem?_map]
    cases hr : (List.range n)[i]? with
    | none => rfl
    | some b =>
      have hb : b = i := by
        have := List.getElem?_eq_some_iff.mp hr
        obtain ⟨h1, h2⟩ := this
        rw [List.getElem_range] at h2
        exact h2.symm
      subst hb
      simp [h b hi]
theorem aWs_get {S : aS} {G : aG} {h : aH} {k : Nat} (hk : k < S.1) : (aWs S G h)[k]? = some (G.2.1 k, aE G S.2 h k) := by
  simp [aWs, hk]
theorem aWs_obj {S : aS} {G : aG} {h : aH} {k ci : Nat} {fl : List Bool} (hk : k < S.1) (hS : S.2 k = .inl (ci, fl)) : (aWs S G h)[k]? = some (G.2.1 k, .inr (ci, aFs G.2.1 h k fl)) := by
  rw [aWs_get hk]; simp only [aE, hS]
theorem aWs_arr {S : aS} {G : aG} {h : aH} {k t n : Nat} (hk : k < S.1) (hS : S.2 k = .inr (t, n)) : (aWs S G h)[k]? = some (G.2.1 k, .inl (G.2.2 t, n, .inl (gA h k))) := by
  rw [aWs_get hk]; simp only [aE, hS]
theorem aFs_get {ad : Nat → Nat} {h : aH} {k j : Nat} {fl : List Bool} (hj : j < fl.length) : (aFs ad h k fl)[j]? = some (aV ad h k fl j) := by
  simp [aFs, hj]
theorem aWs_put {S : aS} {G : aG} {h h' : aH} {k : Nat} {e : va_E} (he : aE G S.2 h' k = e) (ho : ∀ a, a ≠ k → aE G S.2 h' a = aE G S.2 h a) : (aWs S G h).set k (G.2.1 k, e) = aWs S G h' := by
  unfold aWs
  apply a_set
  · rw [he]
  · intro i hi
    rw [ho i hi]
theorem aWs_sA {S : aS} {G : aG} {h : aH} {k t n : Nat} (hS : S.2 k = .inr (t, n)) (i : Nat) (v : Int32) : (aWs S G h).set k (G.2.1 k, .inl (G.2.2 t, n, .inl (upd (gA h k) i v))) = aWs S G (sA h k i v) := by
  apply aWs_put
  · have e : gA (sA h k i v) k = upd (gA h k) i v := by
      funext b
      simp [gA, sA, upd]
    simp only [aE, hS, e]
  · intro a ha
    have e : gA (sA h k i v) a = gA h a := by
      funext b
      simp [gA, sA, ha]
    simp only [aE]
    cases S.2 a with
    | inl o => rfl
    | inr q => simp only [e]
theorem aWs_sC {S : aS} {G : aG} {h : aH} {k t n : Nat} (hS : S.2 k = .inr (t, n)) (k0 sp dp m : Nat) : (aWs S G h).set k (G.2.1 k, .inl (G.2.2 t, n, .inl (va_cpy (gA h k0) (gA h k) sp dp m))) = aWs S G (sC h k0 sp k dp m) := by
  apply aWs_put
  · have e : gA (sC h k0 sp k dp m) k = va_cpy (gA h k0) (gA h k) sp dp m := by
      funext b
      simp [gA, sC, va_cpy]
    simp only [aE, hS, e]
  · intro a ha
    have e : gA (sC h k0 sp k dp m) a = gA h a := by
      funext b
      simp [gA, sC, ha]
    simp only [aE]
    cases S.2 a with
    | inl o => rfl
    | inr q => simp only [e]
theorem aWs_sI {S : aS} {G : aG} {h : aH} {k ci j : Nat} {fl : List Bool} (hS : S.2 k = .inl (ci, fl)) (hj : (fl[j]?).getD false = false) (v : Int32) : (aWs S G h).set k (G.2.1 k, .inr (ci, (aFs G.2.1 h k fl).set j (.int v))) = aWs S G (sI h k j v) := by
  apply aWs_put
  · have e : (aFs G.2.1 h k fl).set j (.int v) = aFs G.2.1 (sI h k j v) k fl := by
      unfold aFs
      apply a_set
      · simp [aV, hj, gI, sI]
      · intro i hi
        simp [aV, gI, gR, sI, hi]
    simp only [aE, hS, e]
  · intro a ha
    simp only [aE]
    cases S.2 a with
    | inl o =>
      have e : aFs G.2.1 (sI h k j v) a o.2 = aFs G.2.1 h a o.2 := by
        unfold aFs
        apply List.map_congr_left
        intro b _
        simp [aV, gI, gR, sI, ha]
      simp only [e]
    | inr q => rfl
theorem aWs_sR {S : aS} {G : aG} {h : aH} {k ci j : Nat} {fl : List Bool} (hS : S.2 k = .inl (ci, fl)) (hj : (fl[j]?).getD false = true) (v : Nat) : (aWs S G h).set k (G.2.1 k, .inr (ci, (aFs G.2.1 h k fl).set j (.ref (G.2.1 v)))) = aWs S G (sR h k j v) := by
  apply aWs_put
  · have e : (aFs G.2.1 h k fl).set j (.ref (G.2.1 v)) = aFs G.2.1 (sR h k j v) k fl := by
      unfold aFs
      apply a_set
      · simp [aV, hj, gR, sR]
      · intro i hi
        simp [aV, gI, gR, sR, hi]
    simp only [aE, hS, e]
  · intro a ha
    simp only [aE]
    cases S.2 a with
    | inl o =>
      have e : aFs G.2.1 (sR h k j v) a o.2 = aFs G.2.1 h a o.2 := by
        unfold aFs
        apply List.map_congr_left
        intro b _
        simp [aV, gI, gR, sR, ha]
      simp only [e]
    | inr q => rfl
-- what nobody writes: the Grid's four static rows, the String of the law's letters
def gSX (j : Nat) : Int32 := [-1, 0, 1, -1, 1, -1, 0, 1].getD j 0
def gSY (j : Nat) : Int32 := [-1, -1, -1, 0, 0, 1, 1, 1].getD j 0
def gDX (j : Nat) : Int32 := [0, -1, 1, 0].getD j 0
def gDY (j : Nat) : Int32 := [-1, 0, 0, 1].getD j 0
def aX1 (A : Nat → Prop) (U : State) (f : String) (N : Nat) (v : Nat → Int32) : Prop := ∃ t : Nat, va_Z "HoleFair$Grid" f "[I" (.ref t) A U U.heap ∧ va_T .int t N (fun j => .int (v j)) A U U.heap
def aXs (A : Nat → Prop) (U : State) : Prop := ∃ (adK adV : Nat → Nat), vk_R "HoleFair$LawReader" 87 "inhxymkspdwq" (adK 0) U ∧ vk_S 1 [12] [[105, 110, 104, 120, 121, 109, 107, 115, 112, 100, 119, 113]] adK adV A U U.heap ∧ va_Z "java/lang/String" "COMPACT_STRINGS" "Z" (.int 1) A U U.heap
def aX (A : Nat → Prop) (U : State) : Prop := aX1 A U "STEP_X" 8 gSX ∧ aX1 A U "STEP_Y" 8 gSY ∧ aX1 A U "SIDE_X" 4 gDX ∧ aX1 A U "SIDE_Y" 4 gDY ∧ aXs A U
theorem aX1_to {A : Nat → Prop} {s U : State} {f : String} {N : Nat} {v : Nat → Int32} (hvm : s.vm.Alike U.vm) (hq : ∀ a : Nat, a < s.heap.size → ¬ A a → U.heap[a]? = s.heap[a]?) (h : aX1 A s f N v) : aX1 A U f N v := by
  obtain ⟨t, h1, h2⟩ := h
  exact ⟨t, (h1.moved hvm).kept hq, (h2.moved hvm).kept hq⟩
theorem aX_to {A : Nat → Prop} {s U : State} (hW : s.WarmedH U.vm) (hq : ∀ a : Nat, a < s.heap.size → ¬ A a → U.heap[a]? = s.heap[a]?) (h : aX A s) : aX A U := by
  obtain ⟨h1, h2, h3, h4, adK, adV, h5, h6, h7⟩ := h
  exact ⟨aX1_to hW.alike hq h1, aX1_to hW.alike hq h2, aX1_to hW.alike hq h3, aX1_to hW.alike hq h4, adK, adV, h5.warm hW, (h6.moved hW.alike).kept hq, (h7.moved hW.alike).kept hq⟩
theorem aX_calling {A : Nat → Prop} {U : State} {g : JFrame} {mk : MethodId} {a : Array Value} (h : aX A U) : aX A (U.calling g mk a) := by
  obtain ⟨h1, h2, h3, h4, adK, adV, h5, h6, h7⟩ := h
  have hvm : U.vm.Alike (U.calling g mk a).vm := Vm.Alike.refl U.vm
  exact ⟨aX1_to hvm (fun _ _ _ => rfl) h1, aX1_to hvm (fun _ _ _ => rfl) h2, aX1_to hvm (fun _ _ _ => rfl) h3, aX1_to hvm (fun _ _ _ => rfl) h4, adK, adV, h5.same rfl, h6.moved hvm, h7.moved hvm⟩
/-- the words that outlast every step -/
def aTb : List Cond := lw_tbl.filter goodWord
theorem aT {w : Cond} (h : w ∈ lw_tbl) (hg : goodWord w = true) : w ∈ aTb := List.mem_filter.mpr ⟨h, hg⟩
def aRm (d : Nat) : Room := { frames := d, cells := 0, slots := 0, locals := 40 * d }
def aOK (S : aS) (G : aG) (h : aH) (U : State) : Prop := va_P G.1 vwCl (aWs S G h) U.heap ∧ va_K G.1 vwCl (aTy G) U ∧ va_D (aA S G) (aWs S G h) ∧ aX (aA S G) U
def aPo (S : aS) (G : aG) (h : aH) (U : State) : Prop := va_P G.1 vwCl (aWs S G h) U.heap
abbrev aW0 (M : aM) : List Cond := .code M.1 M.2.1 M.2.2.1 M.2.2.2 :: aTb
def AMet (l : Launch) (S : aS) (G : aG) (d : Nat) (M : aM) (av : List Value) (h : aH) (Qc : Array Value → State → Outcome → State → Prop) : Prop := Met l M.1 (aW0 M) (aRm d) (va_Pc av (aOK S G h)) Qc 0 0 (aA S G)
abbrev AMi (l : Launch) (S : aS) (G : aG) (d : Nat) (M : aM) (av : List Value) (h : aH) (Q : Int32 → aH → Prop) : Prop := AMet l S G d M av h (va_Qi Q (aPo S G) (aA S G))
abbrev AMv (l : Launch) (S : aS) (G : aG) (d : Nat) (M : aM) (av : List Value) (h : aH) (Q : aH → Prop) : Prop := AMet l S G d M av h (va_Qv Q (aPo S G) (aA S G))
abbrev AMr (l : Launch) (S : aS) (G : aG) (d : Nat) (M : aM) (av : List Value) (h : aH) (Q : Nat → aH → Prop) : Prop := AMet l S G d M av h (va_Qr (fun u : Nat × aH => Q u.1 u.2) (fun u a t => a = G.2.1 u.1 ∧ aPo S G u.2 t) (aA S G))
def aC (S : aS) (G : aG) (M : aM) (p : Program) (s : State) (m : MethodId) (args : Array Value) (meth : Method) (c : Code) : Prop :=
  p.tables.exec = Jvm.exec ∧ c.code = M.2.1 ∧ meth.sig.returnType = M.2.2.2 ∧ c.maxLocals = M.2.2.1 ∧ s.vm.findClass M.1.cls = some m.cls ∧ (∀ w ∈ aTb, w.before args s = true) ∧ meth.locks = false ∧ va_K G.1 vwCl (aTy G) s ∧ aX (aA S G) s
def aAt (S : aS) (G : aG) (h : aH) (s : State) (H : Heap) (locs : List Loc) : Prop := va_P G.1 vwCl (aWs S G h) H ∧ va_D (aA S G) (aWs S G h) ∧ va_S (aA S G) s.heap H locs
def AW (l : Launch) (S : aS) (G : aG) (d : Nat) (M : aM) (Qc : Array Value → State → Outcome → State → Prop) (pc : Nat) (lv : List (Nat × Value)) (st : List Value) (h : aH) : Prop :=
  ∀ (p : Program) (e : Env) (s : State) (m : MethodId) (args : Array Value) (below : List Frame) (meth : Method) (c : Code) (H : Heap) (locs : List Loc) (ls : Array Slot), aC S G M p s m args meth c → aAt S G h s H locs → lv_has ls M.2.2.1 lv →
    W p l e (aRm d) s m args below meth c H locs 0 0 (MQ below Qc args s 0 0 (aA S G)) (F0 m pc ls st)
/-- what is known of a method: its code stands in the tables -/
def aMF (M : aM) (n : Nat) : Prop := Cond.code M.1 M.2.1 M.2.2.1 M.2.2.2 ∈ lw_tbl ∧ Cond.initialized M.1.cls ∈ lw_tbl ∧ (M.1.cls ≠ "java/lang/invoke/MethodHandle" ∧ M.1.cls ≠ "java/lang/invoke/VarHandle" ∧ (parseMethodDescriptor M.1.desc).map (fun d => d.parameters.length) = some n) ∧ plainName M.1.cls = true ∧ M.2.2.1 ≤ 21
theorem aW0_good {M : aM} {n : Nat} (hf : aMF M n) : GoodIn aTb (aW0 M) := by
  have h0 : ∀ w ∈ aTb, w ∈ aTb ∧ ((w.onTables && w.keeps) = true ∨ ∃ ty, w = .arrayClass ty) := fun w hw => ⟨hw, good_of_word (List.mem_filter.mp hw).2⟩
  intro w hw
  rcases List.mem_cons.mp hw with h | h
  · rw [h]; exact h0 _ (aT hf.1 rfl)
  · exact h0 w h
/-- an object of class number ci with these fields -/
def aObj (S : aS) (k ci : Nat) (fl : List Bool) : Prop := k < S.1 ∧ S.2 k = .inl (ci, fl)
/-- an array of type t (0 int, 1 boolean, 2 byte) that has the place i -/
def aIn (S : aS) (t k : Nat) (i : Int32) : Prop := ∃ n, k < S.1 ∧ S.2 k = .inr (t, n) ∧ vp_in i n
def aB (v : Int32) : Prop := narrow .boolean (.int v) = .int v ∧ fits .boolean (.int v) = true ∧ vp_nar .boolean v = v
section AWrules
variable {l : Launch} {S : aS} {G : aG} {d : Nat} {M : aM} {Qc : Array Value → State → Outcome → State → Prop} {pc : Nat} {lv : List (Nat × Value)} {st : List Value} {h : aH} {av : List Value}
theorem am_of {n : Nat} (hf : aMF M n) (hlen : (lg_sl av).length ≤ M.2.2.1) {lv0 : List (Nat × Value)} (hlv : lv_args 0 av = lv0) (k : AW l S G d M Qc 0 lv0 [] h) : AMet l S G d M av h Qc := by
  refine Met.ofW (cc := M.2.1) (maxL := M.2.2.1) (ret := M.2.2.2) hf.2.2.2.1 rfl ?_
  intro p e s m a below meth c s₁ B hml hv
  obtain ⟨rfl, hP, hK, hD, hX⟩ := hv
  have hl := lv_entry av (n := M.2.2.1) hlen
  rw [lg_entry_eq]
  rw [hlv] at hl
  exact k p e s m _ below meth c s.heap [] _ ⟨B.exec, B.bytes, B.returns, hml, findClass_of_methodNamed B.named, fun w hw => atoms_spec (ws := aW0 M) B.pre w (List.mem_cons_of_mem _ hw), B.notSynchronized, hK, hX⟩ ⟨hP, hD, va_S.rf⟩ hl
theorem am_mono {Q' : Array Value → State → Outcome → State → Prop} (h1 : AMet l S G d M av h Qc) (h2 : Qc = Q') : AMet l S G d M av h Q' := h2 ▸ h1
theorem aw_iadd {x y : Int32} (hd : decode M.2.1 pc = .ok (.iadd, 1)) (k : AW l S G d M Qc (pc + 1) lv (.int (x + y) :: st) h) : AW l S G d M Qc pc lv (.int y :: .int x :: st) h := fun p e s m a b q c H lo ls C A L => lv_iadd C.1 C.2.1 hd (k p e s m a b q c H lo ls C A L)
theorem aw_isub {x y : Int32} (hd : decode M.2.1 pc = .ok (.isub, 1)) (k : AW l S G d M Qc (pc + 1) lv (.int (x - y) :: st) h) : AW l S G d M Qc pc lv (.int y :: .int x :: st) h := fun p e s m a b q c H lo ls C A L => lv_isub C.1 C.2.1 hd (k p e s m a b q c H lo ls C A L)
theorem aw_imul {x y : Int32} (hd : decode M.2.1 pc = .ok (.imul, 1)) (k : AW l S G d M Qc (pc + 1) lv (.int (x * y) :: st) h) : AW l S G d M Qc pc lv (.int y :: .int x :: st) h := fun p e s m a b q c H lo ls C A L => lv_imul C.1 C.2.1 hd (k p e s m a b q c H lo ls C A L)
theorem aw_iand {x y : Int32} (hd : decode M.2.1 pc = .ok (.iand, 1)) (k : AW l S G d M Qc (pc + 1) lv (.int (x &&& y) :: st) h) : AW l S G d M Qc pc lv (.int y :: .int x :: st) h := fun p e s m a b q c H lo ls C A L => lv_iand C.1 C.2.1 hd (k p e s m a b q c H lo ls C A L)
theorem aw_ior {x y : Int32} (hd : decode M.2.1 pc = .ok (.ior, 1)) (k : AW l S G d M Qc (pc + 1) lv (.int (x ||| y) :: st) h) : AW l S G d M Qc pc lv (.int y :: .int x :: st) h := fun p e s m a b q c H lo ls C A L => lv_ior C.1 C.2.1 hd (k p e s m a b q c H lo ls C A L)
theorem aw_ixor {x y : Int32} (hd : decode M.2.1 pc = .ok (.ixor, 1)) (k : AW l S G d M Qc (pc + 1) lv (.int (x ^^^ y) :: st) h) : AW l S G d M Qc pc lv (.int y :: .int x :: st) h := fun p e s m a b q c H lo ls C A L => lv_ixor C.1 C.2.1 hd (k p e s m a b q c H lo ls C A L)
theorem aw_ishl {x y : Int32} (hd : decode M.2.1 pc = .ok (.ishl, 1)) (k : AW l S G d M Qc (pc + 1) lv (.int (x <<< (y &&& 31)) :: st) h) : AW l S G d M Qc pc lv (.int y :: .int x :: st) h := fun p e s m a b q c H lo ls C A L => lv_ishl C.1 C.2.1 hd (k p e s m a b q c H lo ls C A L)
theorem aw_ishr {x y : Int32} (hd : decode M.2.1 pc = .ok (.ishr, 1)) (k : AW l S G d M Qc (pc + 1) lv (.int (x >>> (y &&& 31)) :: st) h) : AW l S G d M Qc pc lv (.int y :: .int x :: st) h := fun p e s m a b q c H lo ls C A L => lv_ishr C.1 C.2.1 hd (k p e s m a b q c H lo ls C A L)
theorem aw_iushr {x y : Int32} (hd : decode M.2.1 pc = .ok (.iushr, 1)) (k : AW l S G d M Qc (pc + 1) lv (.int ((x.toUInt32 >>> (y.toUInt32 &&& Int32.toUInt32 31)).toInt32) :: st) h) : AW l S G d M Qc pc lv (.int y :: .int x :: st) h := fun p e s m a b q c H lo ls C A L => lv_iushr C.1 C.2.1 hd rfl (k p e s m a b q c H lo ls C A L)
theorem aw_idiv {x y : Int32} (hd : decode M.2.1 pc = .ok (.idiv, 1)) (hn : ¬ y = 0) (k : AW l S G d M Qc (pc + 1) lv (.int (x / y) :: st) h) : AW l S G d M Qc pc lv (.int y :: .int x :: st) h := fun p e s m a b q c H lo ls C A L => lv_idiv C.1 C.2.1 hd hn (k p e s m a b q c H lo ls C A L)
theorem aw_irem {x y : Int32} (hd : decode M.2.1 pc = .ok (.irem, 1)) (hn : ¬ y = 0) (k : AW l S G d M Qc (pc + 1) lv (.int (x - x / y * y) :: st) h) : AW l S G d M Qc pc lv (.int y :: .int x :: st) h := fun p e s m a b q c H lo ls C A L => lv_irem C.1 C.2.1 hd hn (k p e s m a b q c H lo ls C A L)
theorem aw_ineg {x : Int32} (hd : decode M.2.1 pc = .ok (.ineg, 1)) (k : AW l S G d M Qc (pc + 1) lv (.int (-x) :: st) h) : AW l S G d M Qc pc lv (.int x :: st) h := fun p e s m a b q c H lo ls C A L => lv_ineg C.1 C.2.1 hd (k p e s m a b q c H lo ls C A L)
theorem aw_iconst {n : Int} {v : Int32} (hd : decode M.2.1 pc = .ok (.iconst n, 1)) (hv : Int32.ofInt n = v) (k : AW l S G d M Qc (pc + 1) lv (.int v :: st) h) : AW l S G d M Qc pc lv (st) h := fun p e s m a b q c H lo ls C A L => lv_iconst C.1 C.2.1 hd hv (k p e s m a b q c H lo ls C A L)
theorem aw_bipush {n : Int} {v : Int32} (hd : decode M.2.1 pc = .ok (.bipush n, 2)) (hv : (Int8.ofInt n).toInt32 = v) (k : AW l S G d M Qc (pc + 2) lv (.int v :: st) h) : AW l S G d M Qc pc lv (st) h := fun p e s m a b q c H lo ls C A L => lv_bipush C.1 C.2.1 hd hv (k p e s m a b q c H lo ls C A L)
theorem aw_sipush {n : Int} {v : Int32} (hd : decode M.2.1 pc = .ok (.sipush n, 3)) (hv : (Int16.ofInt n).toInt32 = v) (k : AW l S G d M Qc (pc + 3) lv (.int v :: st) h) : AW l S G d M Qc pc lv (st) h := fun p e s m a b q c H lo ls C A L => lv_sipush C.1 C.2.1 hd hv (k p e s m a b q c H lo ls C A L)
theorem aw_lconst {n : Fin 2} {v : Int64} (hd : decode M.2.1 pc = .ok (.lconst n, 1)) (hv : Int64.ofNat (n : Nat) = v) (k : AW l S G d M Qc (pc + 1) lv (.long v :: st) h) : AW l S G d M Qc pc lv (st) h := fun p e s m a b q c H lo ls C A L => lv_lconst C.1 C.2.1 hd hv (k p e s m a b q c H lo ls C A L)
theorem aw_i2l {x : Int32} (hd : decode M.2.1 pc = .ok (.i2l, 1)) (k : AW l S G d M Qc (pc + 1) lv (.long x.toInt64 :: st) h) : AW l S G d M Qc pc lv (.int x :: st) h := fun p e s m a b q c H lo ls C A L => lv_i2l C.1 C.2.1 hd rfl (k p e s m a b q c H lo ls C A L)
theorem aw_i2b {x : Int32} (hd : decode M.2.1 pc = .ok (.i2b, 1)) (k : AW l S G d M Qc (pc + 1) lv (.int x.toInt8.toInt32 :: st) h) : AW l S G d M Qc pc lv (.int x :: st) h := fun p e s m a b q c H lo ls C A L => lv_i2b C.1 C.2.1 hd rfl (k p e s m a b q c H lo ls C A L)
theorem aw_i2c {x : Int32} (hd : decode M.2.1 pc = .ok (.i2c, 1)) (k : AW l S G d M Qc (pc + 1) lv (.int (x.toUInt32 % 65536).toInt32 :: st) h) : AW l S G d M Qc pc lv (.int x :: st) h := fun p e s m a b q c H lo ls C A L => lv_i2c C.1 C.2.1 hd rfl (k p e s m a b q c H lo ls C A L)
theorem aw_lcmp {x y : Int64} (hd : decode M.2.1 pc = .ok (.lcmp, 1)) (k : AW l S G d M Qc (pc + 1) lv (.int (lg_cmp x y) :: st) h) : AW l S G d M Qc pc lv (.long y :: .long x :: st) h := fun p e s m a b q c H lo ls C A L => W.lcmp C.1 C.2.1 hd (k p e s m a b q c H lo ls C A L)
theorem aw_dup {v : Value} (hd : decode M.2.1 pc = .ok (.dup, 1)) (hv : v.category = 1) (k : AW l S G d M Qc (pc + 1) lv (v :: v :: st) h) : AW l S G d M Qc pc lv (v :: st) h := fun p e s m a b q c H lo ls C A L => lv_dup C.1 C.2.1 hd hv (k p e s m a b q c H lo ls C A L)
theorem aw_dup2 {v w : Value} (hd : decode M.2.1 pc = .ok (.dup2, 1)) (hv : v.category = 1) (hw : w.category = 1) (k : AW l S G d M Qc (pc + 1) lv (v :: w :: v :: w :: st) h) : AW l S G d M Qc pc lv (v :: w :: st) h := fun p e s m a b q c H lo ls C A L => lv_dup2_11 C.1 C.2.1 hd hv hw (k p e s m a b q c H lo ls C A L)
theorem aw_pop {v : Value} (hd : decode M.2.1 pc = .ok (.pop, 1)) (hv : v.category = 1) (k : AW l S G d M Qc (pc + 1) lv (st) h) : AW l S G d M Qc pc lv (v :: st) h := fun p e s m a b q c H lo ls C A L => lv_pop C.1 C.2.1 hd hv (k p e s m a b q c H lo ls C A L)
theorem aw_iload_n {j : Fin 4} {i : Nat} {x : Int32} (hd : decode M.2.1 pc = .ok (.iload_n j, 1)) (hi : (j : Nat) = i) (n : Nat) (hl : lv[n]? = some (i, .int x)) (k : AW l S G d M Qc (pc + 1) lv (.int x :: st) h) : AW l S G d M Qc pc lv (st) h := fun p e s m a b q c H lo ls C A L => lv_iload_n C.1 C.2.1 hd hi (lv_at L n hl) (k p e s m a b q c H lo ls C A L)
theorem aw_iload {i : Nat} {x : Int32} (hd : decode M.2.1 pc = .ok (.iload i, 2)) (n : Nat) (hl : lv[n]? = some (i, .int x)) (k : AW l S G d M Qc (pc + 2) lv (.int x :: st) h) : AW l S G d M Qc pc lv (st) h := fun p e s m a b q c H lo ls C A L => lv_iload C.1 C.2.1 hd (lv_at L n hl) (k p e s m a b q c H lo ls C A L)
theorem aw_lload_n {j : Fin 4} {i : Nat} {x : Int64} (hd : decode M.2.1 pc = .ok (.lload_n j, 1)) (hi : (j : Nat) = i) (n : Nat) (hl : lv[n]? = some (i, .long x)) (k : AW l S G d M Qc (pc + 1) lv (.long x :: st) h) : AW l S G d M Qc pc lv (st) h := fun p e s m a b q c H lo ls C A L => lv_lload_n C.1 C.2.1 hd hi (lv_at L n hl) (k p e s m a b q c H lo ls C A L)
theorem aw_lload {i : Nat} {x : Int64} (hd : decode M.2.1 pc = .ok (.lload i, 2)) (n : Nat) (hl : lv[n]? = some (i, .long x)) (k : AW l S G d M Qc (pc + 2) lv (.long x :: st) h) : AW l S G d M Qc pc lv (st) h := fun p e s m a b q c H lo ls C A L => lv_lload C.1 C.2.1 hd (lv_at L n hl) (k p e s m a b q c H lo ls C A L)
theorem aw_aload_n {j : Fin 4} {i x : Nat} (hd : decode M.2.1 pc = .ok (.aload_n j, 1)) (hi : (j : Nat) = i) (n : Nat) (hl : lv[n]? = some (i, .ref x)) (k : AW l S G d M Qc (pc + 1) lv (.ref x :: st) h) : AW l S G d M Qc pc lv (st) h := fun p e s m a b q c H lo ls C A L => lv_aload_n C.1 C.2.1 hd hi (lv_at L n hl) (k p e s m a b q c H lo ls C A L)
theorem aw_aload {i x : Nat} (hd : decode M.2.1 pc = .ok (.aload i, 2)) (n : Nat) (hl : lv[n]? = some (i, .ref x)) (k : AW l S G d M Qc (pc + 2) lv (.ref x :: st) h) : AW l S G d M Qc pc lv (st) h := fun p e s m a b q c H lo ls C A L => lv_aload C.1 C.2.1 hd (lv_at L n hl) (k p e s m a b q c H lo ls C A L)
theorem aw_istore_n {j : Fin 4} {i : Nat} {x : Int32} {lv' : List (Nat × Value)} (hd : decode M.2.1 pc = .ok (.istore_n j, 1)) (hi : (j : Nat) = i) (hn : i < M.2.2.1) (hl : (i, Value.int x) :: lv.filter (fun q => !(q.1 == i) && !(q.1 + 1 == i && q.2.category == 2)) = lv') (k : AW l S G d M Qc (pc + 1) lv' st h) : AW l S G d M Qc pc lv (.int x :: st) h := fun p e s m a b q c H lo ls C A L => lv_istore_n C.1 C.2.1 hd hi L hn hl (fun ls' L' => k p e s m a b q c H lo ls' C A L')
theorem aw_istore {i : Nat} {x : Int32} {lv' : List (Nat × Value)} (hd : decode M.2.1 pc = .ok (.istore i, 2)) (hn : i < M.2.2.1) (hl : (i, Value.int x) :: lv.filter (fun q => !(q.1 == i) && !(q.1 + 1 == i && q.2.category == 2)) = lv') (k : AW l S G d M Qc (pc + 2) lv' st h) : AW l S G d M Qc pc lv (.int x :: st) h := fun p e s m a b q c H lo ls C A L => lv_istore C.1 C.2.1 hd L hn hl (fun ls' L' => k p e s m a b q c H lo ls' C A L')
theorem aw_astore_n {j : Fin 4} {i : Nat} {x : Nat} {lv' : List (Nat × Value)} (hd : decode M.2.1 pc = .ok (.astore_n j, 1)) (hi : (j : Nat) = i) (hn : i < M.2.2.1) (hl : (i, Value.ref x) :: lv.filter (fun q => !(q.1 == i) && !(q.1 + 1 == i && q.2.category == 2)) = lv') (k : AW l S G d M Qc (pc + 1) lv' st h) : AW l S G d M Qc pc lv (.ref x :: st) h := fun p e s m a b q c H lo ls C A L => lv_astore_n C.1 C.2.1 hd hi L hn hl (fun ls' L' => k p e s m a b q c H lo ls' C A L')
theorem aw_astore {i : Nat} {x : Nat} {lv' : List (Nat × Value)} (hd : decode M.2.1 pc = .ok (.astore i, 2)) (hn : i < M.2.2.1) (hl : (i, Value.ref x) :: lv.filter (fun q => !(q.1 == i) && !(q.1 + 1 == i && q.2.category == 2)) = lv') (k : AW l S G d M Qc (pc + 2) lv' st h) : AW l S G d M Qc pc lv (.ref x :: st) h := fun p e s m a b q c H lo ls C A L => lv_astore C.1 C.2.1 hd L hn hl (fun ls' L' => k p e s m a b q c H lo ls' C A L')
theorem aw_iinc {i n0 : Nat} {n : Int} {x v : Int32} {lv' : List (Nat × Value)} (hd : decode M.2.1 pc = .ok (.iinc i n, 3)) (hk : lv[n0]? = some (i, .int x)) (hv : x + Int32.ofInt n = v) (hn : i < M.2.2.1) (hl : (i, Value.int v) :: lv.filter (fun q => !(q.1 == i) && !(q.1 + 1 == i && q.2.category == 2)) = lv') (k : AW l S G d M Qc (pc + 3) lv' st h) : AW l S G d M Qc pc lv st h := fun p e s m a b q c H lo ls C A L => lv_iinc C.1 C.2.1 hd L hk hv hn hl (fun ls' L' => k p e s m a b q c H lo ls' C A L')
theorem aw_if_eq {x : Int32} {off : Int} {tgt : Nat} (hd : decode M.2.1 pc = .ok (.ifCond .eq off, 3)) (ht : (pc : Int) + off = (tgt : Int)) (k1 : x = 0 → AW l S G d M Qc tgt lv st h) (k2 : ¬ x = 0 → AW l S G d M Qc (pc + 3) lv st h) : AW l S G d M Qc pc lv (.int x :: st) h := fun p e s m a b q c H lo ls C A L => lv_if_eq C.1 C.2.1 hd ht (fun z => k1 z p e s m a b q c H lo ls C A L) (fun z => k2 z p e s m a b q c H lo ls C A L)
theorem aw_if_ne {x : Int32} {off : Int} {tgt : Nat} (hd : decode M.2.1 pc = .ok (.ifCond .ne off, 3)) (ht : (pc : Int) + off = (tgt : Int)) (k1 : ¬ x = 0 → AW l S G d M Qc tgt lv st h) (k2 : x = 0 → AW l S G d M Qc (pc + 3) lv st h) : AW l S G d M Qc pc lv (.int x :: st) h := fun p e s m a b q c H lo ls C A L => lv_if_ne C.1 C.2.1 hd ht (fun z => k1 z p e s m a b q c H lo ls C A L) (fun z => k2 z p e s m a b q c H lo ls C A L)
theorem aw_if_lt {x : Int32} {off : Int} {tgt : Nat} (hd : decode M.2.1 pc = .ok (.ifCond .lt off, 3)) (ht : (pc : Int) + off = (tgt : Int)) (k1 : x < 0 → AW l S G d M Qc tgt lv st h) (k2 : ¬ x < 0 → AW l S G d M Qc (pc + 3) lv st h) : AW l S G d M Qc pc lv (.int x :: st) h := fun p e s m a b q c H lo ls C A L => lv_if_lt C.1 C.2.1 hd ht (fun z => k1 z p e s m a b q c H lo ls C A L) (fun z => k2 z p e s m a b q c H lo ls C A L)
theorem aw_if_ge {x : Int32} {off : Int} {tgt : Nat} (hd : decode M.2.1 pc = .ok (.ifCond .ge off, 3)) (ht : (pc : Int) + off = (tgt : Int)) (k1 : 0 ≤ x → AW l S G d M Qc tgt lv st h) (k2 : ¬ 0 ≤ x → AW l S G d M Qc (pc + 3) lv st h) : AW l S G d M Qc pc lv (.int x :: st) h := fun p e s m a b q c H lo ls C A L => lv_if_ge C.1 C.2.1 hd ht (fun z => k1 z p e s m a b q c H lo ls C A L) (fun z => k2 z p e s m a b q c H lo ls C A L)
theorem aw_if_gt {x : Int32} {off : Int} {tgt : Nat} (hd : decode M.2.1 pc = .ok (.ifCond .gt off, 3)) (ht : (pc : Int) + off = (tgt : Int)) (k1 : 0 < x → AW l S G d M Qc tgt lv st h) (k2 : ¬ 0 < x → AW l S G d M Qc (pc + 3) lv st h) : AW l S G d M Qc pc lv (.int x :: st) h := fun p e s m a b q c H lo ls C A L => lv_if_gt C.1 C.2.1 hd ht (fun z => k1 z p e s m a b q c H lo ls C A L) (fun z => k2 z p e s m a b q c H lo ls C A L)
theorem aw_if_le {x : Int32} {off : Int} {tgt : Nat} (hd : decode M.2.1 pc = .ok (.ifCond .le off, 3)) (ht : (pc : Int) + off = (tgt : Int)) (k1 : x ≤ 0 → AW l S G d M Qc tgt lv st h) (k2 : ¬ x ≤ 0 → AW l S G d M Qc (pc + 3) lv st h) : AW l S G d M Qc pc lv (.int x :: st) h := fun p e s m a b q c H lo ls C A L => lv_if_le C.1 C.2.1 hd ht (fun z => k1 z p e s m a b q c H lo ls C A L) (fun z => k2 z p e s m a b q c H lo ls C A L)
theorem aw_icmp_eq {x y : Int32} {off : Int} {tgt : Nat} (hd : decode M.2.1 pc = .ok (.if_icmp .eq off, 3)) (ht : (pc : Int) + off = (tgt : Int)) (k1 : x = y → AW l S G d M Qc tgt lv st h) (k2 : ¬ x = y → AW l S G d M Qc (pc + 3) lv st h) : AW l S G d M Qc pc lv (.int y :: .int x :: st) h := fun p e s m a b q c H lo ls C A L => lv_icmp_eq C.1 C.2.1 hd ht (fun z => k1 z p e s m a b q c H lo ls C A L) (fun z => k2 z p e s m a b q c H lo ls C A L)
theorem aw_icmp_ne {x y : Int32} {off : Int} {tgt : Nat} (hd : decode M.2.1 pc = .ok (.if_icmp .ne off, 3)) (ht : (pc : Int) + off = (tgt : Int)) (k1 : ¬ x = y → AW l S G d M Qc tgt lv st h) (k2 : x = y → AW l S G d M Qc (pc + 3) lv st h) : AW l S G d M Qc pc lv (.int y :: .int x :: st) h := fun p e s m a b q c H lo ls C A L => lv_icmp_ne C.1 C.2.1 hd ht (fun z => k1 z p e s m a b q c H lo ls C A L) (fun z => k2 z p e s m a b q c H lo ls C A L)
theorem aw_icmp_lt {x y : Int32} {off : Int} {tgt : Nat} (hd : decode M.2.1 pc = .ok (.if_icmp .lt off, 3)) (ht : (pc : Int) + off = (tgt : Int)) (k1 : x < y → AW l S G d M Qc tgt lv st h) (k2 : ¬ x < y → AW l S G d M Qc (pc + 3) lv st h) : AW l S G d M Qc pc lv (.int y :: .int x :: st) h := fun p e s m a b q c H lo ls C A L => lv_icmp_lt C.1 C.2.1 hd ht (fun z => k1 z p e s m a b q c H lo ls C A L) (fun z => k2 z p e s m a b q c H lo ls C A L)
theorem aw_icmp_ge {x y : Int32} {off : Int} {tgt : Nat} (hd : decode M.2.1 pc = .ok (.if_icmp .ge off, 3)) (ht : (pc : Int) + off = (tgt : Int)) (k1 : y ≤ x → AW l S G d M Qc tgt lv st h) (k2 : ¬ y ≤ x → AW l S G d M Qc (pc + 3) lv st h) : AW l S G d M Qc pc lv (.int y :: .int x :: st) h := fun p e s m a b q c H lo ls C A L => lv_icmp_ge C.1 C.2.1 hd ht (fun z => k1 z p e s m a b q c H lo ls C A L) (fun z => k2 z p e s m a b q c H lo ls C A L)
theorem aw_icmp_gt {x y : Int32} {off : Int} {tgt : Nat} (hd : decode M.2.1 pc = .ok (.if_icmp .gt off, 3)) (ht : (pc : Int) + off = (tgt : Int)) (k1 : y < x → AW l S G d M Qc tgt lv st h) (k2 : ¬ y < x → AW l S G d M Qc (pc + 3) lv st h) : AW l S G d M Qc pc lv (.int y :: .int x :: st) h := fun p e s m a b q c H lo ls C A L => lv_icmp_gt C.1 C.2.1 hd ht (fun z => k1 z p e s m a b q c H lo ls C A L) (fun z => k2 z p e s m a b q c H lo ls C A L)
theorem aw_icmp_le {x y : Int32} {off : Int} {tgt : Nat} (hd : decode M.2.1 pc = .ok (.if_icmp .le off, 3)) (ht : (pc : Int) + off = (tgt : Int)) (k1 : x ≤ y → AW l S G d M Qc tgt lv st h) (k2 : ¬ x ≤ y → AW l S G d M Qc (pc + 3) lv st h) : AW l S G d M Qc pc lv (.int y :: .int x :: st) h := fun p e s m a b q c H lo ls C A L => lv_icmp_le C.1 C.2.1 hd ht (fun z => k1 z p e s m a b q c H lo ls C A L) (fun z => k2 z p e s m a b q c H lo ls C A L)
theorem aw_goto {off : Int} {tgt : Nat} (hd : decode M.2.1 pc = .ok (.goto off, 3)) (ht : (pc : Int) + off = (tgt : Int)) (k : AW l S G d M Qc tgt lv st h) : AW l S G d M Qc pc lv st h := fun p e s m a b q c H lo ls C A L => lv_goto C.1 C.2.1 hd ht (k p e s m a b q c H lo ls C A L)
theorem aw_tableIn {dflt lo hi : Int} {offs : Array Int} {len : Nat} {x : Int32} {off : Int} {tgt : Nat} (hd : decode M.2.1 pc = .ok (.tableswitch dflt lo hi offs, len)) (h1 : ¬ x.toInt < lo) (h2 : ¬ hi < x.toInt) (ho : offs[(x.toInt - lo).toNat]? = some off) (ht : (pc : Int) + off = (tgt : Int)) (k : AW l S G d M Qc tgt lv st h) : AW l S G d M Qc pc lv (.int x :: st) h := fun p e s m a b q c H lo ls C A L => lv_tableIn C.1 C.2.1 hd h1 h2 ho ht (k p e s m a b q c H lo ls C A L)
theorem aw_tableOut {dflt lo hi : Int} {offs : Array Int} {len : Nat} {x : Int32} {tgt : Nat} (hd : decode M.2.1 pc = .ok (.tableswitch dflt lo hi offs, len)) (hz : x.toInt < lo ∨ hi < x.toInt) (ht : (pc : Int) + dflt = (tgt : Int)) (k : AW l S G d M Qc tgt lv st h) : AW l S G d M Qc pc lv (.int x :: st) h := fun p e s m a b q c H lo ls C A L => lv_tableOut C.1 C.2.1 hd hz ht (k p e s m a b q c H lo ls C A L)
theorem aw_lookup {dflt : Int} {ps : Array (Int × Int)} {len : Nat} {x : Int32} {off : Int} {tgt : Nat} (hd : decode M.2.1 pc = .ok (.lookupswitch dflt ps, len)) (hp : (ps.toList.zip (ps.toList.drop 1)).all (fun (a, next) => a.1 < next.1) = true) (ho : Op.lookupswitch.offset ps.toList dflt x.toInt = off) (ht : (pc : Int) + off = (tgt : Int)) (k : AW l S G d M Qc tgt lv st h) : AW l S G d M Qc pc lv (.int x :: st) h := fun p e s m a b q c H lo ls C A L => lv_lookup C.1 C.2.1 hd hp ho ht (k p e s m a b q c H lo ls C A L)
theorem aw_ldc {i : Nat} {v : Int32} (hd : decode M.2.1 pc = .ok (.ldc i, 2)) (hw : Jvm.Cond.constant M.1.cls i v ∈ lw_tbl) (k : AW l S G d M Qc (pc + 2) lv (.int v :: st) h) : AW l S G d M Qc pc lv st h := fun p e s m a b q c H lo ls C A L => lv_ldc C.1 C.2.1 C.2.2.2.2.1 (C.2.2.2.2.2.1 _ (aT hw rfl)) hd (k p e s m a b q c H lo ls C A L)
theorem aw_ldcw {i : Nat} {v : Int32} (hd : decode M.2.1 pc = .ok (.ldc_w i, 3)) (hw : Jvm.Cond.constant M.1.cls i v ∈ lw_tbl) (k : AW l S G d M Qc (pc + 3) lv (.int v :: st) h) : AW l S G d M Qc pc lv st h := fun p e s m a b q c H lo ls C A L => lv_ldcw C.1 C.2.1 C.2.2.2.2.1 (C.2.2.2.2.2.1 _ (aT hw rfl)) hd (k p e s m a b q c H lo ls C A L)
theorem aw_ldc2 {i : Nat} {v : Int64} (hd : decode M.2.1 pc = .ok (.ldc2_w i, 3)) (hw : Jvm.Cond.constantLong M.1.cls i v ∈ lw_tbl) (k : AW l S G d M Qc (pc + 3) lv (.long v :: st) h) : AW l S G d M Qc pc lv st h := fun p e s m a b q c H lo ls C A L => lv_ldc2 C.1 C.2.1 C.2.2.2.2.1 (C.2.2.2.2.2.1 _ (aT hw rfl)) hd (k p e s m a b q c H lo ls C A L)
theorem aw_name {x : Int32} (k : ∀ y : Int32, y = x → AW l S G d M Qc pc lv (.int y :: st) h) : AW l S G d M Qc pc lv (.int x :: st) h := k x rfl
theorem aw_nameH {h0 : aH} (k : ∀ h : aH, h = h0 → AW l S G d M Qc pc lv st h) : AW l S G d M Qc pc lv st h0 := k h0 rfl
theorem aw_sub (ks : List Nat) {lv' : List (Nat × Value)} (hl : lv_pick lv ks = lv') (k : AW l S G d M Qc pc lv' st h) : AW l S G d M Qc pc lv st h := fun p e s m a b q c H lo ls C A L => k p e s m a b q c H lo ls C A (lv_sub L ks hl)

-- fields
/-- what is known of a class: number, name, fields -/
def aCF (ci : Nat) (C : String) (T : u_T) (N : Nat) (ty : Nat → FieldType) (fl : List Bool) : Prop := vwCl[ci]? = some (C, T, N) ∧ fl.length = N ∧ (∀ w ∈ u_ws C T N, w ∈ aTb) ∧ (∀ k, k < N → parseFieldDescriptor (T k).2.2.1 = some (ty k)) ∧ (∀ a, a < N → ∀ b, b < N → a ≠ b → (T a).2.1 ≠ (T b).2.1)
theorem aw_getI {ci : Nat} {C : String} {T : u_T} {N : Nat} {ty : Nat → FieldType} {fl : List Bool} {i k : Nat} (hF : aCF ci C T N ty fl) (j : Nat) (hj : j < N) (hb : (fl[j]?).getD false = false) (hw : Cond.fieldLink M.1.cls i (T j).1 (T j).2.1 (T j).2.2.1 ∈ lw_tbl) (hO : aObj S k ci fl) (hd : decode M.2.1 pc = .ok (.getfield i, 3)) (kk : AW l S G d M Qc (pc + 3) lv (.int (gI h k j) :: st) h) : AW l S G d M Qc pc lv (.ref (G.2.1 k) :: st) h := fun p e s m a b q c H lo ls CC A L => by
  obtain ⟨hc, hn, hin, hty, hnm⟩ := hF
  refine va_get CC.1 CC.2.1 CC.2.2.2.2.2.1 hin CC.2.2.2.2.1 CC.2.2.2.2.2.2.2.1 A.1 k (aWs_obj hO.1 hO.2) hc j hj (CC.2.2.2.2.2.1 _ (aT hw rfl)) (fun _ h9 => h9) (v := .int (gI h k j)) ?_ hd (kk p e s m a b q c H lo ls CC A L)
  rw [aFs_get (by omega)]
  simp only [aV, hb]
  rfl
theorem aw_getR {ci : Nat} {C : String} {T : u_T} {N : Nat} {ty : Nat → FieldType} {fl : List Bool} {i k : Nat} (hF : aCF ci C T N ty fl) (j : Nat) (hj : j < N) (hb : (fl[j]?).getD false = true) (hw : Cond.fieldLink M.1.cls i (T j).1 (T j).2.1 (T j).2.2.1 ∈ lw_tbl) (hO : aObj S k ci fl) (hd : decode M.2.1 pc = .ok (.getfield i, 3)) (kk : AW l S G d M Qc (pc + 3) lv (.ref (G.2.1 (gR h k j)) :: st) h) : AW l S G d M Qc pc lv (.ref (G.2.1 k) :: st) h := fun p e s m a b q c H lo ls CC A L => by
  obtain ⟨hc, hn, hin, hty, hnm⟩ := hF
  refine va_get CC.1 CC.2.1 CC.2.2.2.2.2.1 hin CC.2.2.2.2.1 CC.2.2.2.2.2.2.2.1 A.1 k (aWs_obj hO.1 hO.2) hc j hj (CC.2.2.2.2.2.1 _ (aT hw rfl)) (fun _ h9 => h9) (v := .ref (G.2.1 (gR h k j))) ?_ hd (kk p e s m a b q c H lo ls CC A L)
  rw [aFs_get (by omega)]
  simp only [aV, hb]
  rfl
theorem aw_putI {ci : Nat} {C : String} {T : u_T} {N : Nat} {ty : Nat → FieldType} {fl : List Bool} {i k : Nat} {v : Int32} (hF : aCF ci C T N ty fl) (j : Nat) (hj : j < N) (hb : (fl[j]?).getD false = false) (hw : Cond.fieldLink M.1.cls i (T j).1 (T j).2.1 (T j).2.2.1 ∈ lw_tbl) (hfin : (T j).2.2.2 = false) (hn : narrow (ty j) (.int v) = .int v) (hfit : fits (ty j) (.int v) = true) (hO : aObj S k ci fl) (hd : decode M.2.1 pc = .ok (.putfield i, 3)) (kk : AW l S G d M Qc (pc + 3) lv st (sI h k j v)) : AW l S G d M Qc pc lv (.int v :: .ref (G.2.1 k) :: st) h := fun p e s m a b q c H lo ls CC A L => by
  obtain ⟨hc, hN, hin, hty, hnm⟩ := hF
  refine va_put CC.1 CC.2.1 CC.2.2.2.2.2.1 hin ty hty hnm CC.2.2.2.2.1 CC.2.2.2.2.2.2.2.1 A.1 A.2.1 A.2.2 k (aWs_obj hO.1 hO.2) hc j hj (CC.2.2.2.2.2.1 _ (aT hw rfl)) (fun _ h9 => h9) hfin (hty j hj) hn hfit (by simp [aFs, hN, hj]) hd (fun H1 lo1 hP hD hS => ?_)
  rw [aWs_sI hO.2 hb v] at hP hD
  exact kk p e s m a b q c H1 lo1 ls CC ⟨hP, hD, hS⟩ L
theorem aw_putR {ci : Nat} {C : String} {T : u_T} {N : Nat} {ty : Nat → FieldType} {fl : List Bool} {i k v : Nat} (hF : aCF ci C T N ty fl) (j : Nat) (hj : j < N) (hb : (fl[j]?).getD false = true) (hw : Cond.fieldLink M.1.cls i (T j).1 (T j).2.1 (T j).2.2.1 ∈ lw_tbl) (hfin : (T j).2.2.2 = false) (hn : narrow (ty j) (.ref (G.2.1 v)) = .ref (G.2.1 v)) (hfit : fits (ty j) (.ref (G.2.1 v)) = true) (hO : aObj S k ci fl) (hd : decode M.2.1 pc = .ok (.putfield i, 3)) (kk : AW l S G d M Qc (pc + 3) lv st (sR h k j v)) : AW l S G d M Qc pc lv (.ref (G.2.1 v) :: .ref (G.2.1 k) :: st) h := fun p e s m a b q c H lo ls CC A L => by
  obtain ⟨hc, hN, hin, hty, hnm⟩ := hF
  refine va_put CC.1 CC.2.1 CC.2.2.2.2.2.1 hin ty hty hnm CC.2.2.2.2.1 CC.2.2.2.2.2.2.2.1 A.1 A.2.1 A.2.2 k (aWs_obj hO.1 hO.2) hc j hj (CC.2.2.2.2.2.1 _ (aT hw rfl)) (fun _ h9 => h9) hfin (hty j hj) hn hfit (by simp [aFs, hN, hj]) hd (fun H1 lo1 hP hD hS => ?_)
  rw [aWs_sR hO.2 hb v] at hP hD
  exact kk p e s m a b q c H1 lo1 ls CC ⟨hP, hD, hS⟩ L
-- arrays
theorem aw_iaload {k : Nat} {i : Int32} (hI : aIn S 0 k i) (hd : decode M.2.1 pc = .ok (.iaload, 1)) (kk : AW l S G d M Qc (pc + 1) lv (.int (gA h k i.toNatClampNeg) :: st) h) : AW l S G d M Qc pc lv (.int i :: .ref (G.2.1 k) :: st) h := fun p e s m a b q c H lo ls CC A L => by
  obtain ⟨n, h1, h2, h3⟩ := hI
  exact va_iald CC.1 CC.2.1 CC.2.2.2.2.2.2.2.1 A.1 k 0 (aWs_arr h1 h2) rfl h3 hd (kk p e s m a b q c H lo ls CC A L)
theorem aw_zaload {k : Nat} {i : Int32} (hI : aIn S 1 k i) (hd : decode M.2.1 pc = .ok (.baload, 1)) (kk : AW l S G d M Qc (pc + 1) lv (.int (gA h k i.toNatClampNeg) :: st) h) : AW l S G d M Qc pc lv (.int i :: .ref (G.2.1 k) :: st) h := fun p e s m a b q c H lo ls CC A L => by
  obtain ⟨n, h1, h2, h3⟩ := hI
  exact va_zald CC.1 CC.2.1 CC.2.2.2.2.2.2.2.1 A.1 k 1 (aWs_arr h1 h2) rfl h3 hd (kk p e s m a b q c H lo ls CC A L)
theorem aw_baload {k : Nat} {i : Int32} (hI : aIn S 2 k i) (hd : decode M.2.1 pc = .ok (.baload, 1)) (kk : AW l S G d M Qc (pc + 1) lv (.int (gA h k i.toNatClampNeg) :: st) h) : AW l S G d M Qc pc lv (.int i :: .ref (G.2.1 k) :: st) h := fun p e s m a b q c H lo ls CC A L => by
  obtain ⟨n, h1, h2, h3⟩ := hI
  exact va_bald CC.1 CC.2.1 CC.2.2.2.2.2.2.2.1 A.1 k 2 (aWs_arr h1 h2) rfl h3 hd (kk p e s m a b q c H lo ls CC A L)
theorem aw_iastore {k : Nat} {i v : Int32} (hI : aIn S 0 k i) (hd : decode M.2.1 pc = .ok (.iastore, 1)) (kk : AW l S G d M Qc (pc + 1) lv st (sA h k i.toNatClampNeg v)) : AW l S G d M Qc pc lv (.int v :: .int i :: .ref (G.2.1 k) :: st) h := fun p e s m a b q c H lo ls CC A L => by
  obtain ⟨n, h1, h2, h3⟩ := hI
  refine va_iast CC.1 CC.2.1 CC.2.2.2.2.2.2.2.1 A.1 A.2.1 A.2.2 k 0 (aWs_arr h1 h2) rfl h3 hd (fun H1 lo1 hP hD hS => ?_)
  rw [aWs_sA h2] at hP hD
  exact kk p e s m a b q c H1 lo1 ls CC ⟨hP, hD, hS⟩ L
theorem aw_zastore {k : Nat} {i v : Int32} (hI : aIn S 1 k i) (hv : vp_nar .boolean v = v) (hd : decode M.2.1 pc = .ok (.bastore, 1)) (kk : AW l S G d M Qc (pc + 1) lv st (sA h k i.toNatClampNeg v)) : AW l S G d M Qc pc lv (.int v :: .int i :: .ref (G.2.1 k) :: st) h := fun p e s m a b q c H lo ls CC A L => by
  obtain ⟨n, h1, h2, h3⟩ := hI
  refine va_zast CC.1 CC.2.1 CC.2.2.2.2.2.2.2.1 A.1 A.2.1 A.2.2 k 1 (aWs_arr h1 h2) rfl h3 hd (fun H1 lo1 hP hD hS => ?_)
  rw [hv, aWs_sA h2] at hP hD
  exact kk p e s m a b q c H1 lo1 ls CC ⟨hP, hD, hS⟩ L
theorem aw_bastore {k : Nat} {i v : Int32} (hI : aIn S 2 k i) (hv : vp_nar .byte v = v) (hd : decode M.2.1 pc = .ok (.bastore, 1)) (kk : AW l S G d M Qc (pc + 1) lv st (sA h k i.toNatClampNeg v)) : AW l S G d M Qc pc lv (.int v :: .int i :: .ref (G.2.1 k) :: st) h := fun p e s m a b q c H lo ls CC A L => by
  obtain ⟨n, h1, h2, h3⟩ := hI
  refine va_bast CC.1 CC.2.1 CC.2.2.2.2.2.2.2.1 A.1 A.2.1 A.2.2 k 2 (aWs_arr h1 h2) rfl h3 hd (fun H1 lo1 hP hD hS => ?_)
  rw [hv, aWs_sA h2] at hP hD
  exact kk p e s m a b q c H1 lo1 ls CC ⟨hP, hD, hS⟩ L
theorem aw_alen {k n : Nat} (h1 : k < S.1) (h2 : S.2 k = .inr (0, n)) (hd : decode M.2.1 pc = .ok (.arraylength, 1)) (kk : AW l S G d M Qc (pc + 1) lv (.int (Int32.ofNat n) :: st) h) : AW l S G d M Qc pc lv (.ref (G.2.1 k) :: st) h := fun p e s m a b q c H lo ls CC A L => va_alen CC.1 CC.2.1 CC.2.2.2.2.2.2.2.1 A.1 k 0 (aWs_arr h1 h2) (ty := .int) rfl rfl hd (kk p e s m a b q c H lo ls CC A L)
-- ends
theorem aw_iret {v : Int32} {Q : Int32 → aH → Prop} (hr : M.2.2.2 = some .int) (hq : Q v h) (hd : decode M.2.1 pc = .ok (.ireturn, 1)) : AW l S G d M (va_Qi Q (aPo S G) (aA S G)) pc lv [.int v] h := fun p e s m a b q c H lo ls C A L =>
  W.iret C.1 C.2.1 (C.2.2.1.trans hr) (fun t ht hW => ⟨⟨v, h, rfl, hq, by show va_P _ _ _ t.heap; rw [ht]; exact A.1⟩, A.2.2.F ht⟩) A.2.2.2.2 hd C.2.2.2.2.2.2.1
theorem aw_zret {v : Int32} {Q : Int32 → aH → Prop} (hr : M.2.2.2 = some .boolean) (hn : narrow .boolean (.int v) = .int v) (hq : Q v h) (hd : decode M.2.1 pc = .ok (.ireturn, 1)) : AW l S G d M (va_Qi Q (aPo S G) (aA S G)) pc lv [.int v] h := fun p e s m a b q c H lo ls C A L =>
  W.zret C.1 C.2.1 (C.2.2.1.trans hr) hn (fun t ht hW => ⟨⟨v, h, rfl, hq, by show va_P _ _ _ t.heap; rw [ht]; exact A.1⟩, A.2.2.F ht⟩) A.2.2.2.2 hd C.2.2.2.2.2.2.1
theorem aw_vret {Q : aH → Prop} (hr : M.2.2.2 = none) (hq : Q h) (hd : decode M.2.1 pc = .ok (.return_, 1)) : AW l S G d M (va_Qv Q (aPo S G) (aA S G)) pc lv [] h := fun p e s m a b q c H lo ls C A L =>
  W.vret C.1 C.2.1 (C.2.2.1.trans hr) (fun t ht hW => ⟨⟨h, rfl, hq, by show va_P _ _ _ t.heap; rw [ht]; exact A.1⟩, A.2.2.F ht⟩) A.2.2.2.2 hd C.2.2.2.2.2.2.1
theorem aw_aret {v : Nat} {n : String} {Q : Nat → aH → Prop} (hr : M.2.2.2 = some (.object n)) (hq : Q v h) (hd : decode M.2.1 pc = .ok (.areturn, 1)) : AW l S G d M (va_Qr (fun u : Nat × aH => Q u.1 u.2) (fun u a t => a = G.2.1 u.1 ∧ aPo S G u.2 t) (aA S G)) pc lv [.ref (G.2.1 v)] h := fun p e s m a b q c H lo ls C A L =>
  W.aret C.1 C.2.1 (C.2.2.1.trans hr) (Or.inl ⟨n, rfl⟩) (Or.inr ⟨_, rfl⟩) (fun t ht hW => ⟨⟨(v, h), G.2.1 v, rfl, hq, rfl, by show va_P _ _ _ t.heap; rw [ht]; exact A.1⟩, A.2.2.F ht⟩) A.2.2.2.2 hd C.2.2.2.2.2.2.1
-- calls
theorem aOK_blind {av : List Value} : FrameBlind (va_Pc av (aOK S G h)) := fun a U g mk q => by
  obtain ⟨q0, qP, qK, qD, qX⟩ := q
  exact ⟨q0, qP, va_K.moved (u := U) (U := U.calling g mk a) (Vm.Alike.refl U.vm) qK, qD, aX_calling qX⟩
theorem aOK_at {p : Program} {s : State} {m : MethodId} {args : Array Value} {meth : Method} {c : Code} {H : Heap} {lo : List Loc} (C : aC S G M p s m args meth c) (A : aAt S G h s H lo) {U : State} (hU : U.heap = H) (hW : s.WarmedH U.vm) : aOK S G h U := by
  obtain ⟨hP, hD, hS⟩ := A
  refine ⟨by rw [hU]; exact hP, va_K.moved hW.alike C.2.2.2.2.2.2.2.1, hD, aX_to hW (fun q h1 h2 => ?_) C.2.2.2.2.2.2.2.2⟩
  rw [hU]
  exact hS.2.1 q h1 h2
theorem aCB {N : aM} {n i : Nat} {p : Program} {s : State} {m : MethodId} {args : Array Value} {meth : Method} {c : Code} (C : aC S G M p s m args meth c) (hf : aMF N n) (hl : Cond.methodLink M.1.cls i N.1 ∈ lw_tbl) : CallB (aRm (d + 1)) s args M.1.cls i N.1 N.2.1 N.2.2.1 N.2.2.2 (aW0 N) (aRm d) 0 0 n :=
  callB_of n C.2.2.2.2.2.1 (aW0_good hf) rfl rfl rfl (C.2.2.2.2.2.1 _ (aT hf.2.1 rfl)) (C.2.2.2.2.2.1 _ (aT hl rfl)) hf.2.2.1 ⟨Nat.le_refl _, by have := hf.2.2.2.2; show 8 + (N.2.2.1 + 11) + 40 * d ≤ 40 * (d + 1); omega⟩
theorem aD_any {h1 h2 : aH} (hD : va_D (aA S G) (aWs S G h1)) : va_D (aA S G) (aWs S G h2) := by
  have lt : ∀ {h : aH} {i : Nat} {x : Nat × va_E}, (aWs S G h)[i]? = some x → i < S.1 := fun hi => by
    have := (List.getElem?_eq_some_iff.mp hi).1
    simpa [aWs] using this
  refine ⟨fun i j x y hi hj hxy => ?_, fun k q hk => ?_⟩
  · have hi' := lt hi
    have hj' := lt hj
    rw [aWs_get hi'] at hi
    rw [aWs_get hj'] at hj
    cases hi
    cases hj
    exact hD.1 i j _ _ (aWs_get hi') (aWs_get hj') hxy
  · have hk' := lt hk
    rw [aWs_get hk'] at hk
    cases hk
    exact ⟨k, hk', rfl⟩
theorem aw_callS_i {N : aM} {n i : Nat} {As rest : List Value} {Q : Int32 → aH → Prop} (hM : AMi l S G d N As h Q) (hf : aMF N n) (hl : Cond.methodLink M.1.cls i N.1 ∈ lw_tbl) (hs : Cond.static N.1 ∈ lw_tbl) (hn : As.length = n) (hst : st = As.reverse ++ rest) (hr : (rest.map fun v => v.category).sum ≤ 8) (hd : decode M.2.1 pc = .ok (.invokestatic i, 3)) (kk : ∀ r h', Q r h' → AW l S G (d + 1) M Qc (pc + 3) lv (.int r :: rest) h') : AW l S G (d + 1) M Qc pc lv st h := fun p e s m a b q c H lo ls C A L =>
  va_calli (va_runS (As := As) (rest := rest) ⟨C.1, C.2.1, C.2.2.2.1, C.2.2.2.2.1, C.2.2.2.2.2.1⟩ hM ⟨aCB C hf hl, C.2.2.2.2.2.1 _ (aT hs rfl)⟩ ⟨aOK_blind, fun U hU hW => ⟨rfl, aOK_at C A hU hW⟩⟩ rfl hn L.1 hst (lv_room hr) hd ⟨Nat.le_refl _, Nat.le_refl _⟩) A.2.2 (fun q _ h => h) (fun q h => h) (fun r h' t H1 lo1 ht hvm hp hB hz hk hS => kk r h' hp p e s m a b q c H1 lo1 ls C ⟨by rw [← ht]; exact hB, aD_any A.2.1, hS⟩ L)
theorem aw_callS_v {N : aM} {n i : Nat} {As rest : List Value} {Q : aH → Prop} (hM : AMv l S G d N As h Q) (hf : aMF N n) (hl : Cond.methodLink M.1.cls i N.1 ∈ lw_tbl) (hs : Cond.static N.1 ∈ lw_tbl) (hn : As.length = n) (hst : st = As.reverse ++ rest) (hr : (rest.map fun v => v.category).sum ≤ 8) (hd : decode M.2.1 pc = .ok (.invokestatic i, 3)) (kk : ∀ h', Q h' → AW l S G (d + 1) M Qc (pc + 3) lv (rest) h') : AW l S G (d + 1) M Qc pc lv st h := fun p e s m a b q c H lo ls C A L =>
  va_callv (va_runS (As := As) (rest := rest) ⟨C.1, C.2.1, C.2.2.2.1, C.2.2.2.2.1, C.2.2.2.2.2.1⟩ hM ⟨aCB C hf hl, C.2.2.2.2.2.1 _ (aT hs rfl)⟩ ⟨aOK_blind, fun U hU hW => ⟨rfl, aOK_at C A hU hW⟩⟩ rfl hn L.1 hst (lv_room hr) hd ⟨Nat.le_refl _, Nat.le_refl _⟩) A.2.2 (fun q _ h => h) (fun q h => h) (fun h' t H1 lo1 ht hvm hp hB hz hk hS => kk h' hp p e s m a b q c H1 lo1 ls C ⟨by rw [← ht]; exact hB, aD_any A.2.1, hS⟩ L)
theorem aw_callV_i {N : aM} {n i : Nat} {k ci N0 : Nat} {C0 : String} {T : u_T} {ty : Nat → FieldType} {fl : List Bool} {As rest : List Value} {Q : Int32 → aH → Prop} (hM : AMi l S G d N (.ref (G.2.1 k) :: As) h Q) (hf : aMF N n) (hl : Cond.methodLink M.1.cls i N.1 ∈ lw_tbl) (hi : Cond.instanceMethod N.1 ∈ lw_tbl) (hs : Cond.selects C0 N.1 N.1 ∈ lw_tbl) (hF : aCF ci C0 T N0 ty fl) (hO : aObj S k ci fl) (hn : As.length = n) (hst : st = As.reverse ++ .ref (G.2.1 k) :: rest) (hr : (rest.map fun v => v.category).sum ≤ 8) (hd : decode M.2.1 pc = .ok (.invokevirtual i, 3)) (kk : ∀ r h', Q r h' → AW l S G (d + 1) M Qc (pc + 3) lv (.int r :: rest) h') : AW l S G (d + 1) M Qc pc lv st h := fun p e s m a b q c H lo ls C A L =>
  va_calli (va_runV (C := C0) (As := As) (rest := rest) ⟨C.1, C.2.1, C.2.2.2.1, C.2.2.2.2.1, C.2.2.2.2.2.1⟩ hM ⟨aCB C hf hl, C.2.2.2.2.2.1 _ (aT hi rfl), C.2.2.2.2.2.1 _ (aT hs rfl)⟩ ⟨aOK_blind, va_recv C.2.2.2.2.2.2.2.1 A.1 hF.1 (aWs_obj hO.1 hO.2), fun U hU hW => ⟨rfl, aOK_at C A hU hW⟩⟩ rfl hn L.1 hst (lv_room hr) hd ⟨Nat.le_refl _, Nat.le_refl _⟩) A.2.2 (fun q _ h => h) (fun q h => h) (fun r h' t H1 lo1 ht hvm hp hB hz hk hS => kk r h' hp p e s m a b q c H1 lo1 ls C ⟨by rw [← ht]; exact hB, aD_any A.2.1, hS⟩ L)
theorem aw_callV_v {N : aM} {n i : Nat} {k ci N0 : Nat} {C0 : String} {T : u_T} {ty : Nat → FieldType} {fl : List Bool} {As rest : List Value} {Q : aH → Prop} (hM : AMv l S G d N (.ref (G.2.1 k) :: As) h Q) (hf : aMF N n) (hl : Cond.methodLink M.1.cls i N.1 ∈ lw_tbl) (hi : Cond.instanceMethod N.1 ∈ lw_tbl) (hs : Cond.selects C0 N.1 N.1 ∈ lw_tbl) (hF : aCF ci C0 T N0 ty fl) (hO : aObj S k ci fl) (hn : As.length = n) (hst : st = As.reverse ++ .ref (G.2.1 k) :: rest) (hr : (rest.map fun v => v.category).sum ≤ 8) (hd : decode M.2.1 pc = .ok (.invokevirtual i, 3)) (kk : ∀ h', Q h' → AW l S G (d + 1) M Qc (pc + 3) lv (rest) h') : AW l S G (d + 1) M Qc pc lv st h := fun p e s m a b q c H lo ls C A L =>
  va_callv (va_runV (C := C0) (As := As) (rest := rest) ⟨C.1, C.2.1, C.2.2.2.1, C.2.2.2.2.1, C.2.2.2.2.2.1⟩ hM ⟨aCB C hf hl, C.2.2.2.2.2.1 _ (aT hi rfl), C.2.2.2.2.2.1 _ (aT hs rfl)⟩ ⟨aOK_blind, va_recv C.2.2.2.2.2.2.2.1 A.1 hF.1 (aWs_obj hO.1 hO.2), fun U hU hW => ⟨rfl, aOK_at C A hU hW⟩⟩ rfl hn L.1 hst (lv_room hr) hd ⟨Nat.le_refl _, Nat.le_refl _⟩) A.2.2 (fun q _ h => h) (fun q h => h) (fun h' t H1 lo1 ht hvm hp hB hz hk hS => kk h' hp p e s m a b q c H1 lo1 ls C ⟨by rw [← ht]; exact hB, aD_any A.2.1, hS⟩ L)
theorem aw_callV_r {N : aM} {n i : Nat} {k ci N0 : Nat} {C0 : String} {T : u_T} {ty : Nat → FieldType} {fl : List Bool} {As rest : List Value} {Q : Nat → aH → Prop} (hM : AMr l S G d N (.ref (G.2.1 k) :: As) h Q) (hf : aMF N n) (hl : Cond.methodLink M.1.cls i N.1 ∈ lw_tbl) (hi : Cond.instanceMethod N.1 ∈ lw_tbl) (hs : Cond.selects C0 N.1 N.1 ∈ lw_tbl) (hF : aCF ci C0 T N0 ty fl) (hO : aObj S k ci fl) (hn : As.length = n) (hst : st = As.reverse ++ .ref (G.2.1 k) :: rest) (hr : (rest.map fun v => v.category).sum ≤ 8) (hd : decode M.2.1 pc = .ok (.invokevirtual i, 3)) (kk : ∀ r h', Q r h' → AW l S G (d + 1) M Qc (pc + 3) lv (.ref (G.2.1 r) :: rest) h') : AW l S G (d + 1) M Qc pc lv st h := fun p e s m a b q c H lo ls C A L =>
  va_callr (va_runV (C := C0) (As := As) (rest := rest) ⟨C.1, C.2.1, C.2.2.2.1, C.2.2.2.2.1, C.2.2.2.2.2.1⟩ hM ⟨aCB C hf hl, C.2.2.2.2.2.1 _ (aT hi rfl), C.2.2.2.2.2.1 _ (aT hs rfl)⟩ ⟨aOK_blind, va_recv C.2.2.2.2.2.2.2.1 A.1 hF.1 (aWs_obj hO.1 hO.2), fun U hU hW => ⟨rfl, aOK_at C A hU hW⟩⟩ rfl hn L.1 hst (lv_room hr) hd ⟨Nat.le_refl _, Nat.le_refl _⟩) A.2.2 (fun q _ h => h) (fun q h => h) (fun u ra t H1 lo1 ht hvm hp hB hz hk hS => by rw [hB.1]; exact kk u.1 u.2 hp p e s m a b q c H1 lo1 ls C ⟨by rw [← ht]; exact hB.2, aD_any A.2.1, hS⟩ L)
theorem aw_copy {i k0 k n0 n1 : Nat} {sp dp n : Int32} (hw : Cond.methodLink M.1.cls i arraycopyName ∈ lw_tbl) (hnat : Cond.native arraycopyName ∈ lw_tbl) (hstat : Cond.static arraycopyName ∈ lw_tbl) (hini : Cond.initialized "java/lang/System" ∈ lw_tbl) (h1 : k0 < S.1) (h2 : S.2 k0 = .inr (0, n0)) (h3 : k < S.1) (h4 : S.2 k = .inr (0, n1)) (g1 : ¬ sp < 0) (g2 : ¬ dp < 0) (g3 : ¬ n < 0) (g4 : sp.toNatClampNeg + n.toNatClampNeg ≤ n0) (g5 : dp.toNatClampNeg + n.toNatClampNeg ≤ n1) (hloc : (st.map fun v => v.category).sum + (nativeFrameWords "java/lang/System" "arraycopy" 5 + 11) ≤ 40) (hd : decode M.2.1 pc = .ok (.invokestatic i, 3)) (kk : AW l S G (d + 1) M Qc (pc + 3) lv st (sC h k0 sp.toNatClampNeg k dp.toNatClampNeg n.toNatClampNeg)) : AW l S G (d + 1) M Qc pc lv (.int n :: .int dp :: .ref (G.2.1 k) :: .int sp :: .ref (G.2.1 k0) :: st) h := fun p e s m a b q c H lo ls C A L => by
  refine va_copyi (ty := .int) C.1 C.2.1 (C.2.2.2.1.trans L.1.symm) C.2.2.2.2.1 (C.2.2.2.2.2.1 _ (aT hw rfl)) (C.2.2.2.2.2.1 _ (aT hnat rfl)) (C.2.2.2.2.2.1 _ (aT hstat rfl)) (C.2.2.2.2.2.1 _ (aT hini rfl)) C.2.2.2.2.2.2.2.1 A.1 A.2.1 A.2.2 k0 k 0 0 (aWs_arr h1 h2) (aWs_arr h3 h4) rfl rfl rfl g1 g2 g3 g4 g5 (fun _ _ => rfl) (by show 1 ≤ d + 1; omega) (by show _ ≤ 40 * (d + 1); omega) hd (fun H1 lo1 hP hD hS => ?_)
  rw [aWs_sC h4] at hP hD
  exact kk p e s m a b q c H1 lo1 ls C ⟨hP, hD, hS⟩ L
end AWrules
