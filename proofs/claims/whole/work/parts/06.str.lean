/-! ===== the String of the law's letters: nobody writes there ===== -/
abbrev tByt : List Int32 := [105, 110, 104, 120, 121, 109, 107, 115, 112, 100, 119, 113]
def tX (adK adV : Nat → Nat) (U : State) : Prop := vk_S 1 [12] [tByt] adK adV (fun _ => False) U U.heap ∧ va_Z "java/lang/String" "COMPACT_STRINGS" "Z" (.int 1) (fun _ => False) U U.heap
def tC (adK adV : Nat → Nat) (M : aM) (p : Program) (s : State) (m : MethodId) (args : Array Value) (meth : Method) (c : Code) : Prop :=
  p.tables.exec = Jvm.exec ∧ c.code = M.2.1 ∧ meth.sig.returnType = M.2.2.2 ∧ c.maxLocals = M.2.2.1 ∧ s.vm.findClass M.1.cls = some m.cls ∧ (∀ w ∈ aTb, w.before args s = true) ∧ meth.locks = false ∧ tX adK adV s
def TW (l : Launch) (d : Nat) (M : aM) (Qc : Array Value → State → Outcome → State → Prop) (adK adV : Nat → Nat) (pc : Nat) (lv : List (Nat × Value)) (st : List Value) : Prop :=
  ∀ (p : Program) (e : Env) (s : State) (m : MethodId) (args : Array Value) (below : List Frame) (meth : Method) (c : Code) (H : Heap) (locs : List Loc) (ls : Array Slot), tC adK adV M p s m args meth c → va_S (fun _ => False) s.heap H locs → lv_has ls M.2.2.1 lv →
    W p l e (aRm d) s m args below meth c H locs 0 0 (MQ below Qc args s 0 0 (fun _ => False)) (F0 m pc ls st)
abbrev tQ (v : Int32) : Array Value → State → Outcome → State → Prop := va_Qi (fun (r : Int32) (_ : Unit) => r = v) (fun _ _ => True) (fun _ => False)
def TM (l : Launch) (d : Nat) (M : aM) (adK adV : Nat → Nat) (av : List Value) (v : Int32) : Prop := Met l M.1 (aW0 M) (aRm d) (va_Pc av (tX adK adV)) (tQ v) 0 0 (fun _ => False)
def tMF (M : aM) (n : Nat) : Prop := Cond.code M.1 M.2.1 M.2.2.1 M.2.2.2 ∈ lw_tbl ∧ Cond.initialized M.1.cls ∈ lw_tbl ∧ (M.1.cls ≠ "java/lang/invoke/MethodHandle" ∧ M.1.cls ≠ "java/lang/invoke/VarHandle" ∧ (parseMethodDescriptor M.1.desc).map (fun d => d.parameters.length) = some n) ∧ plainFor M.1 = true ∧ M.2.2.1 ≤ 21
theorem tW0_good {M : aM} {n : Nat} (hf : tMF M n) : GoodIn aTb (aW0 M) := by
  have h0 : ∀ w ∈ aTb, w ∈ aTb ∧ ((w.onTables && w.keeps) = true ∨ ∃ ty, w = .arrayClass ty) := fun w hw => ⟨hw, good_of_word (List.mem_filter.mp hw).2⟩
  intro w hw
  rcases List.mem_cons.mp hw with h | h
  · rw [h]; exact h0 _ (aT hf.1 rfl)
  · exact h0 w h
theorem tX_to {adK adV : Nat → Nat} {s U : State} (hW : s.WarmedH U.vm) (hq : ∀ a : Nat, a < s.heap.size → U.heap[a]? = s.heap[a]?) (h : tX adK adV s) : tX adK adV U :=
  ⟨(h.1.moved hW.alike).kept (fun a h1 _ => hq a h1), (h.2.moved hW.alike).kept (fun a h1 _ => hq a h1)⟩
theorem tX_blind {adK adV : Nat → Nat} {av : List Value} : FrameBlind (va_Pc av (tX adK adV)) := fun a U g mk q => by
  obtain ⟨q0, q1, q2⟩ := q
  have hvm : U.vm.Alike (U.calling g mk a).vm := Vm.Alike.refl U.vm
  exact ⟨q0, q1.moved hvm, q2.moved hvm⟩
section TWrules
variable {l : Launch} {d : Nat} {M : aM} {Qc : Array Value → State → Outcome → State → Prop} {adK adV : Nat → Nat} {pc : Nat} {lv : List (Nat × Value)} {st : List Value}
theorem tw_iload_n {j : Fin 4} {i : Nat} {x : Int32} (hd : decode M.2.1 pc = .ok (.iload_n j, 1)) (hi : (j : Nat) = i) (n : Nat) (hl : lv[n]? = some (i, .int x)) (k : TW l d M Qc adK adV (pc + 1) lv (.int x :: st)) : TW l d M Qc adK adV pc lv (st) := fun p e s m a b q c H lo ls C A L => lv_iload_n C.1 C.2.1 hd hi (lv_at L n hl) (k p e s m a b q c H lo ls C A L)
theorem tw_iload {i : Nat} {x : Int32} (hd : decode M.2.1 pc = .ok (.iload i, 2)) (n : Nat) (hl : lv[n]? = some (i, .int x)) (k : TW l d M Qc adK adV (pc + 2) lv (.int x :: st)) : TW l d M Qc adK adV pc lv (st) := fun p e s m a b q c H lo ls C A L => lv_iload C.1 C.2.1 hd (lv_at L n hl) (k p e s m a b q c H lo ls C A L)
theorem tw_aload_n {j : Fin 4} {i x : Nat} (hd : decode M.2.1 pc = .ok (.aload_n j, 1)) (hi : (j : Nat) = i) (n : Nat) (hl : lv[n]? = some (i, .ref x)) (k : TW l d M Qc adK adV (pc + 1) lv (.ref x :: st)) : TW l d M Qc adK adV pc lv (st) := fun p e s m a b q c H lo ls C A L => lv_aload_n C.1 C.2.1 hd hi (lv_at L n hl) (k p e s m a b q c H lo ls C A L)
theorem tw_iconst {n : Int} {v : Int32} (hd : decode M.2.1 pc = .ok (.iconst n, 1)) (hv : Int32.ofInt n = v) (k : TW l d M Qc adK adV (pc + 1) lv (.int v :: st)) : TW l d M Qc adK adV pc lv (st) := fun p e s m a b q c H lo ls C A L => lv_iconst C.1 C.2.1 hd hv (k p e s m a b q c H lo ls C A L)
theorem tw_sipush {n : Int} {v : Int32} (hd : decode M.2.1 pc = .ok (.sipush n, 3)) (hv : (Int16.ofInt n).toInt32 = v) (k : TW l d M Qc adK adV (pc + 3) lv (.int v :: st)) : TW l d M Qc adK adV pc lv (st) := fun p e s m a b q c H lo ls C A L => lv_sipush C.1 C.2.1 hd hv (k p e s m a b q c H lo ls C A L)
theorem tw_i2b {x : Int32} (hd : decode M.2.1 pc = .ok (.i2b, 1)) (k : TW l d M Qc adK adV (pc + 1) lv (.int x.toInt8.toInt32 :: st)) : TW l d M Qc adK adV pc lv (.int x :: st) := fun p e s m a b q c H lo ls C A L => lv_i2b C.1 C.2.1 hd rfl (k p e s m a b q c H lo ls C A L)
theorem tw_ishr {x y : Int32} (hd : decode M.2.1 pc = .ok (.ishr, 1)) (k : TW l d M Qc adK adV (pc + 1) lv (.int (x >>> (y &&& 31)) :: st)) : TW l d M Qc adK adV pc lv (.int y :: .int x :: st) := fun p e s m a b q c H lo ls C A L => lv_ishr C.1 C.2.1 hd (k p e s m a b q c H lo ls C A L)
theorem tw_istore_n {j : Fin 4} {i : Nat} {x : Int32} {lv' : List (Nat × Value)} (hd : decode M.2.1 pc = .ok (.istore_n j, 1)) (hi : (j : Nat) = i) (hn : i < M.2.2.1) (hl : (i, Value.int x) :: lv.filter (fun q => !(q.1 == i) && !(q.1 + 1 == i && q.2.category == 2)) = lv') (k : TW l d M Qc adK adV (pc + 1) lv' st) : TW l d M Qc adK adV pc lv (.int x :: st) := fun p e s m a b q c H lo ls C A L => lv_istore_n C.1 C.2.1 hd hi L hn hl (fun ls' L' => k p e s m a b q c H lo ls' C A L')
theorem tw_istore {i : Nat} {x : Int32} {lv' : List (Nat × Value)} (hd : decode M.2.1 pc = .ok (.istore i, 2)) (hn : i < M.2.2.1) (hl : (i, Value.int x) :: lv.filter (fun q => !(q.1 == i) && !(q.1 + 1 == i && q.2.category == 2)) = lv') (k : TW l d M Qc adK adV (pc + 2) lv' st) : TW l d M Qc adK adV pc lv (.int x :: st) := fun p e s m a b q c H lo ls C A L => lv_istore C.1 C.2.1 hd L hn hl (fun ls' L' => k p e s m a b q c H lo ls' C A L')
theorem tw_iinc {i n0 : Nat} {n : Int} {x v : Int32} {lv' : List (Nat × Value)} (hd : decode M.2.1 pc = .ok (.iinc i n, 3)) (hk : lv[n0]? = some (i, .int x)) (hv : x + Int32.ofInt n = v) (hn : i < M.2.2.1) (hl : (i, Value.int v) :: lv.filter (fun q => !(q.1 == i) && !(q.1 + 1 == i && q.2.category == 2)) = lv') (k : TW l d M Qc adK adV (pc + 3) lv' st) : TW l d M Qc adK adV pc lv st := fun p e s m a b q c H lo ls C A L => lv_iinc C.1 C.2.1 hd L hk hv hn hl (fun ls' L' => k p e s m a b q c H lo ls' C A L')
theorem tw_if_eq {x : Int32} {off : Int} {tgt : Nat} (hd : decode M.2.1 pc = .ok (.ifCond .eq off, 3)) (ht : (pc : Int) + off = (tgt : Int)) (k1 : x = 0 → TW l d M Qc adK adV tgt lv st) (k2 : ¬ x = 0 → TW l d M Qc adK adV (pc + 3) lv st) : TW l d M Qc adK adV pc lv (.int x :: st) := fun p e s m a b q c H lo ls C A L => lv_if_eq C.1 C.2.1 hd ht (fun z => k1 z p e s m a b q c H lo ls C A L) (fun z => k2 z p e s m a b q c H lo ls C A L)
theorem tw_if_ne {x : Int32} {off : Int} {tgt : Nat} (hd : decode M.2.1 pc = .ok (.ifCond .ne off, 3)) (ht : (pc : Int) + off = (tgt : Int)) (k1 : ¬ x = 0 → TW l d M Qc adK adV tgt lv st) (k2 : x = 0 → TW l d M Qc adK adV (pc + 3) lv st) : TW l d M Qc adK adV pc lv (.int x :: st) := fun p e s m a b q c H lo ls C A L => lv_if_ne C.1 C.2.1 hd ht (fun z => k1 z p e s m a b q c H lo ls C A L) (fun z => k2 z p e s m a b q c H lo ls C A L)
theorem tw_if_lt {x : Int32} {off : Int} {tgt : Nat} (hd : decode M.2.1 pc = .ok (.ifCond .lt off, 3)) (ht : (pc : Int) + off = (tgt : Int)) (k1 : x < 0 → TW l d M Qc adK adV tgt lv st) (k2 : ¬ x < 0 → TW l d M Qc adK adV (pc + 3) lv st) : TW l d M Qc adK adV pc lv (.int x :: st) := fun p e s m a b q c H lo ls C A L => lv_if_lt C.1 C.2.1 hd ht (fun z => k1 z p e s m a b q c H lo ls C A L) (fun z => k2 z p e s m a b q c H lo ls C A L)
theorem tw_icmp_gt {x y : Int32} {off : Int} {tgt : Nat} (hd : decode M.2.1 pc = .ok (.if_icmp .gt off, 3)) (ht : (pc : Int) + off = (tgt : Int)) (k1 : y < x → TW l d M Qc adK adV tgt lv st) (k2 : ¬ y < x → TW l d M Qc adK adV (pc + 3) lv st) : TW l d M Qc adK adV pc lv (.int y :: .int x :: st) := fun p e s m a b q c H lo ls C A L => lv_icmp_gt C.1 C.2.1 hd ht (fun z => k1 z p e s m a b q c H lo ls C A L) (fun z => k2 z p e s m a b q c H lo ls C A L)
theorem tw_icmp_lt {x y : Int32} {off : Int} {tgt : Nat} (hd : decode M.2.1 pc = .ok (.if_icmp .lt off, 3)) (ht : (pc : Int) + off = (tgt : Int)) (k1 : x < y → TW l d M Qc adK adV tgt lv st) (k2 : ¬ x < y → TW l d M Qc adK adV (pc + 3) lv st) : TW l d M Qc adK adV pc lv (.int y :: .int x :: st) := fun p e s m a b q c H lo ls C A L => lv_icmp_lt C.1 C.2.1 hd ht (fun z => k1 z p e s m a b q c H lo ls C A L) (fun z => k2 z p e s m a b q c H lo ls C A L)
theorem tw_icmp_ge {x y : Int32} {off : Int} {tgt : Nat} (hd : decode M.2.1 pc = .ok (.if_icmp .ge off, 3)) (ht : (pc : Int) + off = (tgt : Int)) (k1 : y ≤ x → TW l d M Qc adK adV tgt lv st) (k2 : ¬ y ≤ x → TW l d M Qc adK adV (pc + 3) lv st) : TW l d M Qc adK adV pc lv (.int y :: .int x :: st) := fun p e s m a b q c H lo ls C A L => lv_icmp_ge C.1 C.2.1 hd ht (fun z => k1 z p e s m a b q c H lo ls C A L) (fun z => k2 z p e s m a b q c H lo ls C A L)
theorem tw_icmp_ne {x y : Int32} {off : Int} {tgt : Nat} (hd : decode M.2.1 pc = .ok (.if_icmp .ne off, 3)) (ht : (pc : Int) + off = (tgt : Int)) (k1 : ¬ x = y → TW l d M Qc adK adV tgt lv st) (k2 : x = y → TW l d M Qc adK adV (pc + 3) lv st) : TW l d M Qc adK adV pc lv (.int y :: .int x :: st) := fun p e s m a b q c H lo ls C A L => lv_icmp_ne C.1 C.2.1 hd ht (fun z => k1 z p e s m a b q c H lo ls C A L) (fun z => k2 z p e s m a b q c H lo ls C A L)
theorem tw_goto {off : Int} {tgt : Nat} (hd : decode M.2.1 pc = .ok (.goto off, 3)) (ht : (pc : Int) + off = (tgt : Int)) (k : TW l d M Qc adK adV tgt lv st) : TW l d M Qc adK adV pc lv st := fun p e s m a b q c H lo ls C A L => lv_goto C.1 C.2.1 hd ht (k p e s m a b q c H lo ls C A L)
theorem tm_of {n : Nat} {av : List Value} {v : Int32} (hf : tMF M n) (hlen : (lg_sl av).length ≤ M.2.2.1) {lv0 : List (Nat × Value)} (hlv : lv_args 0 av = lv0) (k : TW l d M (tQ v) adK adV 0 lv0 []) : TM l d M adK adV av v := by
  refine va_MetF (cc := M.2.1) (maxL := M.2.2.1) (ret := M.2.2.2) hf.2.2.2.1 rfl ?_
  intro p e s m a below meth c s₁ B hml hv
  obtain ⟨rfl, hX⟩ := hv
  have hl := lv_entry av (n := M.2.2.1) hlen
  rw [lg_entry_eq]
  rw [hlv] at hl
  exact k p e s m _ below meth c s.heap [] _ ⟨B.exec, B.bytes, B.returns, hml, findClass_of_methodNamed B.named, fun w hw => atoms_spec (ws := aW0 M) B.pre w (List.mem_cons_of_mem _ hw), B.notSynchronized, hX⟩ va_S.rf hl
theorem tw_iret {v : Int32} (hr : M.2.2.2 = some .int) (hd : decode M.2.1 pc = .ok (.ireturn, 1)) : TW l d M (tQ v) adK adV pc lv [.int v] := fun p e s m a b q c H lo ls C A L =>
  W.iret C.1 C.2.1 (C.2.2.1.trans hr) (fun t ht hW => ⟨⟨v, (), rfl, rfl, trivial⟩, A.F ht⟩) A.2.2 hd C.2.2.2.2.2.2.1
theorem tw_zret {v : Int32} {ty : FieldType} (hr : M.2.2.2 = some ty) (hn : narrow ty (.int v) = .int v) (hd : decode M.2.1 pc = .ok (.ireturn, 1)) : TW l d M (tQ v) adK adV pc lv [.int v] := fun p e s m a b q c H lo ls C A L =>
  W.zret C.1 C.2.1 (C.2.2.1.trans hr) hn (fun t ht hW => ⟨⟨v, (), rfl, rfl, trivial⟩, A.F ht⟩) A.2.2 hd C.2.2.2.2.2.2.1
theorem tw_gets {i : Nat} (hd : decode M.2.1 pc = .ok (.getstatic i, 3)) (hw : Cond.fieldLink M.1.cls i "java/lang/String" "COMPACT_STRINGS" "Z" ∈ lw_tbl) (k : TW l d M Qc adK adV (pc + 3) lv (.int 1 :: st)) : TW l d M Qc adK adV pc lv st := fun p e s m a b q c H lo ls C A L =>
  va_gets C.1 C.2.1 C.2.2.2.2.2.2.2.2 A C.2.2.2.2.1 (C.2.2.2.2.2.1 _ (aT hw rfl)) (fun _ h9 => h9) hd (k p e s m a b q c H lo ls C A L)
theorem tw_coder {i : Nat} (hd : decode M.2.1 pc = .ok (.getfield i, 3)) (hw : Cond.fieldLink M.1.cls i "java/lang/String" "coder" "B" ∈ lw_tbl) (k : TW l d M Qc adK adV (pc + 3) lv (.int 0 :: st)) : TW l d M Qc adK adV pc lv (.ref (adK 0) :: st) := fun p e s m a b q c H lo ls C A L =>
  vk_getf C.1 C.2.1 (C.2.2.2.2.2.2.2.1.1 0 (by omega)).2.1 A C.2.2.2.2.1 (C.2.2.2.2.2.1 _ (aT hw rfl)) (fun _ h9 => h9) hd (k p e s m a b q c H lo ls C A L)
theorem tw_value {i : Nat} (hd : decode M.2.1 pc = .ok (.getfield i, 3)) (hw : Cond.fieldLink M.1.cls i "java/lang/String" "value" "[B" ∈ lw_tbl) (k : TW l d M Qc adK adV (pc + 3) lv (.ref (adV 0) :: st)) : TW l d M Qc adK adV pc lv (.ref (adK 0) :: st) := fun p e s m a b q c H lo ls C A L =>
  vk_getf C.1 C.2.1 (C.2.2.2.2.2.2.2.1.1 0 (by omega)).2.2.1 A C.2.2.2.2.1 (C.2.2.2.2.2.1 _ (aT hw rfl)) (fun _ h9 => h9) hd (k p e s m a b q c H lo ls C A L)
theorem tw_alen (hd : decode M.2.1 pc = .ok (.arraylength, 1)) (k : TW l d M Qc adK adV (pc + 1) lv (.int 12 :: st)) : TW l d M Qc adK adV pc lv (.ref (adV 0) :: st) := fun p e s m a b q c H lo ls C A L =>
  va_tlen C.1 C.2.1 (C.2.2.2.2.2.2.2.1.1 0 (by omega)).2.2.2 A rfl hd (k p e s m a b q c H lo ls C A L)
theorem tw_baload {i : Int32} (hi : vp_in i 12) (hd : decode M.2.1 pc = .ok (.baload, 1)) (k : TW l d M Qc adK adV (pc + 1) lv (.int (tByt.getD i.toNatClampNeg 0) :: st)) : TW l d M Qc adK adV pc lv (.int i :: .ref (adV 0) :: st) := fun p e s m a b q c H lo ls C A L =>
  va_tb C.1 C.2.1 (C.2.2.2.2.2.2.2.1.1 0 (by omega)).2.2.2 A hi rfl hd (k p e s m a b q c H lo ls C A L)
theorem tw_mmax {i : Nat} {x y : Int32} (hw : Cond.methodLink M.1.cls i Lib.Math.max.name ∈ lw_tbl) (hs : Cond.static Lib.Math.max.name ∈ lw_tbl) (hi : Cond.initialized "java/lang/Math" ∈ lw_tbl) (hc : Cond.code Lib.Math.max.name Lib.Math.max.code 2 (some .int) ∈ lw_tbl) (hr : (st.map fun v => v.category).sum + 13 ≤ 40) (hd : decode M.2.1 pc = .ok (.invokestatic i, 3)) (k : TW l (d + 1) M Qc adK adV (pc + 3) lv (.int (if x < y then y else x) :: st)) : TW l (d + 1) M Qc adK adV pc lv (.int y :: .int x :: st) := fun p e s m a b q c H lo ls C A L =>
  va_mmax C.1 C.2.1 (C.2.2.2.1.trans L.1.symm) C.2.2.2.2.1 (C.2.2.2.2.2.1 _ (aT hw rfl)) (C.2.2.2.2.2.1 _ (aT hs rfl)) (C.2.2.2.2.2.1 _ (aT hi rfl)) (C.2.2.2.2.2.1 _ (aT hc rfl)) (by show 1 ≤ d + 1; omega) (by show _ ≤ 40 * (d + 1); omega) (Nat.le_refl _) (Nat.le_refl _) hd (k p e s m a b q c H lo ls C A L)
theorem tw_mmin {i : Nat} {x y : Int32} (hw : Cond.methodLink M.1.cls i Lib.Math.min.name ∈ lw_tbl) (hs : Cond.static Lib.Math.min.name ∈ lw_tbl) (hi : Cond.initialized "java/lang/Math" ∈ lw_tbl) (hc : Cond.code Lib.Math.min.name Lib.Math.min.code 2 (some .int) ∈ lw_tbl) (hr : (st.map fun v => v.category).sum + 13 ≤ 40) (hd : decode M.2.1 pc = .ok (.invokestatic i, 3)) (k : TW l (d + 1) M Qc adK adV (pc + 3) lv (.int (if y < x then y else x) :: st)) : TW l (d + 1) M Qc adK adV pc lv (.int y :: .int x :: st) := fun p e s m a b q c H lo ls C A L =>
  va_mmin C.1 C.2.1 (C.2.2.2.1.trans L.1.symm) C.2.2.2.2.1 (C.2.2.2.2.2.1 _ (aT hw rfl)) (C.2.2.2.2.2.1 _ (aT hs rfl)) (C.2.2.2.2.2.1 _ (aT hi rfl)) (C.2.2.2.2.2.1 _ (aT hc rfl)) (by show 1 ≤ d + 1; omega) (by show _ ≤ 40 * (d + 1); omega) (Nat.le_refl _) (Nat.le_refl _) hd (k p e s m a b q c H lo ls C A L)
theorem tCB {N : aM} {n i : Nat} {p : Program} {s : State} {m : MethodId} {args : Array Value} {meth : Method} {c : Code} (C : tC adK adV M p s m args meth c) (hf : tMF N n) (hl : Cond.methodLink M.1.cls i N.1 ∈ lw_tbl) : CallB (aRm (d + 1)) s args M.1.cls i N.1 N.2.1 N.2.2.1 N.2.2.2 (aW0 N) (aRm d) 0 0 n :=
  callB_of n C.2.2.2.2.2.1 (tW0_good hf) rfl rfl rfl (C.2.2.2.2.2.1 _ (aT hf.2.1 rfl)) (C.2.2.2.2.2.1 _ (aT hl rfl)) hf.2.2.1 ⟨Nat.le_refl _, by have := hf.2.2.2.2; show 8 + (N.2.2.1 + 11) + 40 * d ≤ 40 * (d + 1); omega⟩
theorem tw_callS {N : aM} {n i : Nat} {As rest : List Value} {v : Int32} (hM : TM l d N adK adV As v) (hf : tMF N n) (hl : Cond.methodLink M.1.cls i N.1 ∈ lw_tbl) (hs : Cond.static N.1 ∈ lw_tbl) (hn : As.length = n) (hst : st = As.reverse ++ rest) (hr : (rest.map fun v => v.category).sum ≤ 8) (hd : decode M.2.1 pc = .ok (.invokestatic i, 3)) (kk : TW l (d + 1) M Qc adK adV (pc + 3) lv (.int v :: rest)) : TW l (d + 1) M Qc adK adV pc lv st := fun p e s m a b q c H lo ls C A L =>
  va_calli (va_runS (As := As) (rest := rest) ⟨C.1, C.2.1, C.2.2.2.1, C.2.2.2.2.1, C.2.2.2.2.2.1⟩ hM ⟨tCB C hf hl, C.2.2.2.2.2.1 _ (aT hs rfl)⟩ ⟨tX_blind, fun U hU hW => ⟨rfl, tX_to hW (fun a h1 => by rw [hU]; exact A.2.1 a h1 id) C.2.2.2.2.2.2.2⟩⟩ rfl hn L.1 hst (lv_room hr) hd ⟨Nat.le_refl _, Nat.le_refl _⟩) A (fun q _ h => h) (fun q h => h) (fun r _ t H1 lo1 ht hvm hp hB hz hk hS => by subst hp; exact kk p e s m a b q c H1 lo1 ls C hS L)
theorem tw_callV {N : aM} {n i : Nat} {As rest : List Value} {v : Int32} (hM : TM l d N adK adV (.ref (adK 0) :: As) v) (hf : tMF N n) (hl : Cond.methodLink M.1.cls i N.1 ∈ lw_tbl) (hi : Cond.instanceMethod N.1 ∈ lw_tbl) (hs : Cond.selects "java/lang/String" N.1 N.1 ∈ lw_tbl) (hn : As.length = n) (hst : st = As.reverse ++ .ref (adK 0) :: rest) (hr : (rest.map fun v => v.category).sum ≤ 8) (hd : decode M.2.1 pc = .ok (.invokevirtual i, 3)) (kk : TW l (d + 1) M Qc adK adV (pc + 3) lv (.int v :: rest)) : TW l (d + 1) M Qc adK adV pc lv st := fun p e s m a b q c H lo ls C A L =>
  va_calli (va_runV (C := "java/lang/String") (As := As) (rest := rest) ⟨C.1, C.2.1, C.2.2.2.1, C.2.2.2.2.1, C.2.2.2.2.2.1⟩ hM ⟨tCB C hf hl, C.2.2.2.2.2.1 _ (aT hi rfl), C.2.2.2.2.2.1 _ (aT hs rfl)⟩ ⟨tX_blind, vk_recv C.2.2.2.2.2.2.2.1 (by omega) A, fun U hU hW => ⟨rfl, tX_to hW (fun a h1 => by rw [hU]; exact A.2.1 a h1 id) C.2.2.2.2.2.2.2⟩⟩ rfl hn L.1 hst (lv_room hr) hd ⟨Nat.le_refl _, Nat.le_refl _⟩) A (fun q _ h => h) (fun q h => h) (fun r _ t H1 lo1 ht hvm hp hB hz hk hS => by subst hp; exact kk p e s m a b q c H1 lo1 ls C hS L)
end TWrules
abbrev M_J1_canEncode_9a6ad : aM := (yJ1_canEncode_9a6ad, cJ1_canEncode_9a6ad, 1, (some .boolean))
theorem tf_J1_canEncode_9a6ad : tMF M_J1_canEncode_9a6ad 1 := ⟨wd_473, wd_14, ⟨by decide +kernel, by decide +kernel, by decide +kernel⟩, by decide +kernel, by decide⟩
abbrev M_J0_coder_7d493 : aM := (yJ0_coder_7d493, cJ0_coder_7d493, 1, (some .byte))
theorem tf_J0_coder_7d493 : tMF M_J0_coder_7d493 0 := ⟨wd_467, wd_13, ⟨by decide +kernel, by decide +kernel, by decide +kernel⟩, by decide +kernel, by decide⟩
abbrev M_J0_length_8abf5 : aM := (yJ0_length_8abf5, cJ0_length_8abf5, 1, (some .int))
theorem tf_J0_length_8abf5 : tMF M_J0_length_8abf5 0 := ⟨wd_463, wd_13, ⟨by decide +kernel, by decide +kernel, by decide +kernel⟩, by decide +kernel, by decide⟩
abbrev M_J0_isLatin1_aae02 : aM := (yJ0_isLatin1_aae02, cJ0_isLatin1_aae02, 1, (some .boolean))
theorem tf_J0_isLatin1_aae02 : tMF M_J0_isLatin1_aae02 0 := ⟨wd_457, wd_13, ⟨by decide +kernel, by decide +kernel, by decide +kernel⟩, by decide +kernel, by decide⟩
abbrev M_J1_indexOfChar_4cfef : aM := (yJ1_indexOfChar_4cfef, cJ1_indexOfChar_4cfef, 6, (some .int))
theorem tf_J1_indexOfChar_4cfef : tMF M_J1_indexOfChar_4cfef 4 := ⟨wd_482, wd_14, ⟨by decide +kernel, by decide +kernel, by decide +kernel⟩, by decide +kernel, by decide⟩
abbrev M_J1_indexOf_4cfef : aM := (yJ1_indexOf_4cfef, cJ1_indexOf_4cfef, 4, (some .int))
theorem tf_J1_indexOf_4cfef : tMF M_J1_indexOf_4cfef 4 := ⟨wd_470, wd_14, ⟨by decide +kernel, by decide +kernel, by decide +kernel⟩, by decide +kernel, by decide⟩
abbrev M_J0_indexOf_7cf53 : aM := (yJ0_indexOf_7cf53, cJ0_indexOf_7cf53, 3, (some .int))
theorem tf_J0_indexOf_7cf53 : tMF M_J0_indexOf_7cf53 2 := ⟨wd_453, wd_13, ⟨by decide +kernel, by decide +kernel, by decide +kernel⟩, by decide +kernel, by decide⟩
abbrev M_J0_indexOf_0f7a4 : aM := (yJ0_indexOf_0f7a4, cJ0_indexOf_0f7a4, 2, (some .int))
theorem tf_J0_indexOf_0f7a4 : tMF M_J0_indexOf_0f7a4 1 := ⟨wd_449, wd_13, ⟨by decide +kernel, by decide +kernel, by decide +kernel⟩, by decide +kernel, by decide⟩
theorem tm_canEncode {l : Launch} {adK adV : Nat → Nat} (d : Nat) (x : Int32) (h0 : 0 ≤ x) : TM l d M_J1_canEncode_9a6ad adK adV [.int x] (if 255 < x then 0 else 1) := by
  refine tm_of tf_J1_canEncode_9a6ad (Nat.le_of_ble_eq_true rfl) (lv0 := [(0, .int x)]) rfl ?_
  refine tw_iload_n dJ1_canEncode_9a6ad_0 rfl 0 rfl ?_
  refine tw_if_lt (tgt := 15) dJ1_canEncode_9a6ad_1 (by decide) (fun c => absurd c (Int32.not_lt.mpr h0)) (fun c => ?_)
  refine tw_iload_n dJ1_canEncode_9a6ad_4 rfl 0 rfl ?_
  refine tw_sipush (v := 255) dJ1_canEncode_9a6ad_5 (by decide) ?_
  refine tw_icmp_gt (tgt := 15) dJ1_canEncode_9a6ad_8 (by decide) (fun c => ?_) (fun c => ?_)
  · rw [if_pos c]
    refine tw_iconst (v := 0) dJ1_canEncode_9a6ad_15 (by decide) ?_
    exact tw_zret rfl rfl dJ1_canEncode_9a6ad_16
  · rw [if_neg c]
    refine tw_iconst (v := 1) dJ1_canEncode_9a6ad_11 (by decide) ?_
    refine tw_goto (tgt := 16) dJ1_canEncode_9a6ad_12 (by decide) ?_
    exact tw_zret rfl rfl dJ1_canEncode_9a6ad_16
theorem tm_coder {l : Launch} {adK adV : Nat → Nat} (d : Nat) : TM l d M_J0_coder_7d493 adK adV [.ref (adK 0)] 0 := by
  refine tm_of tf_J0_coder_7d493 (Nat.le_of_ble_eq_true rfl) (lv0 := [(0, .ref (adK 0))]) rfl ?_
  refine tw_gets dJ0_coder_7d493_0 wd_458 ?_
  refine tw_if_eq (tgt := 13) dJ0_coder_7d493_3 (by decide) (fun c => absurd c (by decide)) (fun c => ?_)
  refine tw_aload_n dJ0_coder_7d493_6 rfl 0 rfl ?_
  refine tw_coder dJ0_coder_7d493_7 wd_1698 ?_
  refine tw_goto (tgt := 14) dJ0_coder_7d493_10 (by decide) ?_
  exact tw_zret rfl rfl dJ0_coder_7d493_14
theorem tm_length {l : Launch} {adK adV : Nat → Nat} (d : Nat) : TM l (d + 1) M_J0_length_8abf5 adK adV [.ref (adK 0)] 12 := by
  refine tm_of tf_J0_length_8abf5 (Nat.le_of_ble_eq_true rfl) (lv0 := [(0, .ref (adK 0))]) rfl ?_
  refine tw_aload_n dJ0_length_8abf5_0 rfl 0 rfl ?_
  refine tw_value dJ0_length_8abf5_1 wd_1699 ?_
  refine tw_alen dJ0_length_8abf5_4 ?_
  refine tw_aload_n dJ0_length_8abf5_5 rfl 0 rfl ?_
  refine tw_callV (As := []) (rest := [.int 12]) (tm_coder d) tf_J0_coder_7d493 wd_464 wd_465 wd_466 rfl rfl (Nat.le_of_ble_eq_true rfl) dJ0_length_8abf5_6 ?_
  refine tw_ishr dJ0_length_8abf5_9 ?_
  have e : (12 : Int32) >>> (0 &&& 31) = 12 := by decide
  rw [e]
  exact tw_iret rfl dJ0_length_8abf5_10
theorem tm_isLatin1 {l : Launch} {adK adV : Nat → Nat} (d : Nat) : TM l d M_J0_isLatin1_aae02 adK adV [.ref (adK 0)] 1 := by
  refine tm_of tf_J0_isLatin1_aae02 (Nat.le_of_ble_eq_true rfl) (lv0 := [(0, .ref (adK 0))]) rfl ?_
  refine tw_gets dJ0_isLatin1_aae02_0 wd_458 ?_
  refine tw_if_eq (tgt := 17) dJ0_isLatin1_aae02_3 (by decide) (fun c => absurd c (by decide)) (fun c => ?_)
  refine tw_aload_n dJ0_isLatin1_aae02_6 rfl 0 rfl ?_
  refine tw_coder dJ0_isLatin1_aae02_7 wd_1698 ?_
  refine tw_if_ne (tgt := 17) dJ0_isLatin1_aae02_10 (by decide) (fun c => absurd rfl c) (fun c => ?_)
  refine tw_iconst (v := 1) dJ0_isLatin1_aae02_13 (by decide) ?_
  refine tw_goto (tgt := 18) dJ0_isLatin1_aae02_14 (by decide) ?_
  exact tw_zret rfl rfl dJ0_isLatin1_aae02_18
/-- the first place from i on that holds the byte y, else -1 -/
def tFind (y : Int32) : Nat → Nat → Int32
  | 0, _ => (-1)
  | n + 1, i => if tByt.getD i 0 = y then nI i else tFind y n (i + 1)
set_option maxRecDepth 100000 in
theorem tw_find {l : Launch} {adK adV : Nat → Nat} (d : Nat) {x y : Int32} : ∀ (n i : Nat), i + n = 12 → TW l d M_J1_indexOfChar_4cfef (tQ (tFind y n i)) adK adV 7 [(5, .int (nI i)), (4, .int y), (0, .ref (adV 0)), (1, .int x), (2, .int 0), (3, .int 12)] [] := by
  intro n
  induction n with
  | zero =>
    intro i hi
    have e : i = 12 := by omega
    subst e
    refine tw_iload dJ1_indexOfChar_4cfef_7 0 rfl ?_
    refine tw_iload_n dJ1_indexOfChar_4cfef_9 rfl 5 rfl ?_
    refine tw_icmp_ge (tgt := 31) dJ1_indexOfChar_4cfef_10 (by decide) (fun c => ?_) (fun c => absurd (by decide) c)
    refine tw_iconst (v := (-1)) dJ1_indexOfChar_4cfef_31 (by decide) ?_
    exact tw_iret rfl dJ1_indexOfChar_4cfef_32
  | succ n ih =>
    intro i hi
    refine tw_iload dJ1_indexOfChar_4cfef_7 0 rfl ?_
    refine tw_iload_n dJ1_indexOfChar_4cfef_9 rfl 5 rfl ?_
    refine tw_icmp_ge (tgt := 31) dJ1_indexOfChar_4cfef_10 (by decide) (fun c => absurd c (nI_ge (a := i) (b := 12) (by omega) (by omega))) (fun c => ?_)
    refine tw_aload_n dJ1_indexOfChar_4cfef_13 rfl 2 rfl ?_
    refine tw_iload dJ1_indexOfChar_4cfef_14 0 rfl ?_
    refine tw_baload (vp_in_nI (by omega) (by omega)) dJ1_indexOfChar_4cfef_16 ?_
    rw [nI_clamp (show i < 2 ^ 31 by omega)]
    refine tw_iload dJ1_indexOfChar_4cfef_17 1 rfl ?_
    refine tw_icmp_ne (tgt := 25) dJ1_indexOfChar_4cfef_19 (by decide) (fun c => ?_) (fun c => ?_)
    · rw [show tFind y (n + 1) i = tFind y n (i + 1) from if_neg c]
      refine tw_iinc (v := nI (i + 1)) (lv' := [(5, .int (nI (i + 1))), (4, .int y), (0, .ref (adV 0)), (1, .int x), (2, .int 0), (3, .int 12)]) dJ1_indexOfChar_4cfef_25 (n0 := 0) rfl (nI_1 i) (by decide) rfl ?_
      refine tw_goto (tgt := 7) dJ1_indexOfChar_4cfef_28 (by decide) ?_
      exact ih (i + 1) (by omega)
    · rw [show tFind y (n + 1) i = nI i from if_pos c]
      refine tw_iload dJ1_indexOfChar_4cfef_22 0 rfl ?_
      exact tw_iret rfl dJ1_indexOfChar_4cfef_24
theorem tm_indexOfChar {l : Launch} {adK adV : Nat → Nat} (d : Nat) (x : Int32) : TM l d M_J1_indexOfChar_4cfef adK adV [.ref (adV 0), .int x, .int 0, .int 12] (tFind x.toInt8.toInt32 12 0) := by
  refine tm_of tf_J1_indexOfChar_4cfef (Nat.le_of_ble_eq_true rfl) (lv0 := [(0, .ref (adV 0)), (1, .int x), (2, .int 0), (3, .int 12)]) rfl ?_
  refine tw_iload_n dJ1_indexOfChar_4cfef_0 rfl 1 rfl ?_
  refine tw_i2b dJ1_indexOfChar_4cfef_1 ?_
  refine tw_istore (lv' := [(4, .int x.toInt8.toInt32), (0, .ref (adV 0)), (1, .int x), (2, .int 0), (3, .int 12)]) dJ1_indexOfChar_4cfef_2 (by decide) rfl ?_
  refine tw_iload_n dJ1_indexOfChar_4cfef_4 rfl 3 rfl ?_
  refine tw_istore (lv' := [(5, .int 0), (4, .int x.toInt8.toInt32), (0, .ref (adV 0)), (1, .int x), (2, .int 0), (3, .int 12)]) dJ1_indexOfChar_4cfef_5 (by decide) rfl ?_
  exact tw_find d 12 0 rfl
theorem tFind_eq : ∀ n, n < 256 → tFind (nI n).toInt8.toInt32 12 0 = aLet (nI n) := by decide +kernel
theorem aLet_big {x : Int32} (h : 255 < x) : aLet x = (-1) := by
  have ne : ∀ y : Int32, y ≤ 255 → x ≠ y := fun y hy e => Int32.lt_irrefl (Int32.lt_of_lt_of_le (e ▸ h : (255 : Int32) < y) hy)
  unfold aLet
  rw [if_neg (ne 105 (by decide)), if_neg (ne 110 (by decide)), if_neg (ne 104 (by decide)), if_neg (ne 120 (by decide)), if_neg (ne 121 (by decide)), if_neg (ne 109 (by decide)), if_neg (ne 107 (by decide)), if_neg (ne 115 (by decide)), if_neg (ne 112 (by decide)), if_neg (ne 100 (by decide)), if_neg (ne 119 (by decide)), if_neg (ne 113 (by decide))]
theorem tm_lindexOf {l : Launch} {adK adV : Nat → Nat} (d : Nat) (x : Int32) (h0 : 0 ≤ x) : TM l (d + 1) M_J1_indexOf_4cfef adK adV [.ref (adV 0), .int x, .int 0, .int 12] (aLet x) := by
  refine tm_of tf_J1_indexOf_4cfef (Nat.le_of_ble_eq_true rfl) (lv0 := [(0, .ref (adV 0)), (1, .int x), (2, .int 0), (3, .int 12)]) rfl ?_
  refine tw_iload_n dJ1_indexOf_4cfef_0 rfl 1 rfl ?_
  refine tw_callS (As := [.int x]) (rest := []) (tm_canEncode d x h0) tf_J1_canEncode_9a6ad wd_471 wd_472 rfl rfl (Nat.le_of_ble_eq_true rfl) dJ1_indexOf_4cfef_1 ?_
  by_cases c : 255 < x
  · rw [if_pos c, aLet_big c]
    refine tw_if_ne (tgt := 9) dJ1_indexOf_4cfef_4 (by decide) (fun c => absurd rfl c) (fun c => ?_)
    refine tw_iconst (v := (-1)) dJ1_indexOf_4cfef_7 (by decide) ?_
    exact tw_iret rfl dJ1_indexOf_4cfef_8
  · rw [if_neg c]
    refine tw_if_ne (tgt := 9) dJ1_indexOf_4cfef_4 (by decide) (fun _ => ?_) (fun c => absurd c (by decide))
    refine tw_iload_n dJ1_indexOf_4cfef_9 rfl 2 rfl ?_
    refine tw_iconst (v := 0) dJ1_indexOf_4cfef_10 (by decide) ?_
    refine tw_mmax wd_474 wd_475 wd_15 wd_476 (Nat.le_of_ble_eq_true rfl) dJ1_indexOf_4cfef_11 ?_
    rw [if_neg (show ¬ (0 : Int32) < 0 by decide)]
    refine tw_istore_n (lv' := [(2, .int 0), (0, .ref (adV 0)), (1, .int x), (3, .int 12)]) dJ1_indexOf_4cfef_14 rfl (by decide) rfl ?_
    refine tw_iload_n dJ1_indexOf_4cfef_15 rfl 3 rfl ?_
    refine tw_aload_n dJ1_indexOf_4cfef_16 rfl 1 rfl ?_
    refine tw_alen dJ1_indexOf_4cfef_17 ?_
    refine tw_mmin wd_477 wd_478 wd_15 wd_479 (Nat.le_of_ble_eq_true rfl) dJ1_indexOf_4cfef_18 ?_
    rw [if_neg (show ¬ (12 : Int32) < 12 by decide)]
    refine tw_istore_n (lv' := [(3, .int 12), (2, .int 0), (0, .ref (adV 0)), (1, .int x)]) dJ1_indexOf_4cfef_21 rfl (by decide) rfl ?_
    refine tw_iload_n dJ1_indexOf_4cfef_22 rfl 1 rfl ?_
    refine tw_iload_n dJ1_indexOf_4cfef_23 rfl 0 rfl ?_
    refine tw_icmp_lt (tgt := 29) dJ1_indexOf_4cfef_24 (by decide) (fun _ => ?_) (fun c => absurd (by decide) c)
    refine tw_aload_n dJ1_indexOf_4cfef_29 rfl 2 rfl ?_
    refine tw_iload_n dJ1_indexOf_4cfef_30 rfl 3 rfl ?_
    refine tw_iload_n dJ1_indexOf_4cfef_31 rfl 1 rfl ?_
    refine tw_iload_n dJ1_indexOf_4cfef_32 rfl 0 rfl ?_
    refine tw_callS (As := [.ref (adV 0), .int x, .int 0, .int 12]) (rest := []) (tm_indexOfChar d x) tf_J1_indexOfChar_4cfef wd_480 wd_481 rfl rfl (Nat.le_of_ble_eq_true rfl) dJ1_indexOf_4cfef_33 ?_
    obtain ⟨j, hj, e⟩ := nI_of2 (x := x) (M := 255) (n := 255) (by decide) (Int32.not_lt.mpr h0) (Int32.not_lt.mp c)
    rw [e, tFind_eq j (by omega)]
    exact tw_iret rfl dJ1_indexOf_4cfef_36
theorem tm_indexOf2 {l : Launch} {adK adV : Nat → Nat} (d : Nat) (x : Int32) (h0 : 0 ≤ x) : TM l (d + 2) M_J0_indexOf_7cf53 adK adV [.ref (adK 0), .int x, .int 0] (aLet x) := by
  refine tm_of tf_J0_indexOf_7cf53 (Nat.le_of_ble_eq_true rfl) (lv0 := [(0, .ref (adK 0)), (1, .int x), (2, .int 0)]) rfl ?_
  refine tw_aload_n dJ0_indexOf_7cf53_0 rfl 0 rfl ?_
  refine tw_callV (As := []) (rest := []) (tm_isLatin1 (d + 1)) tf_J0_isLatin1_aae02 wd_454 wd_455 wd_456 rfl rfl (Nat.le_of_ble_eq_true rfl) dJ0_indexOf_7cf53_1 ?_
  refine tw_if_eq (tgt := 23) dJ0_indexOf_7cf53_4 (by decide) (fun c => absurd c (by decide)) (fun _ => ?_)
  refine tw_aload_n dJ0_indexOf_7cf53_7 rfl 0 rfl ?_
  refine tw_value dJ0_indexOf_7cf53_8 wd_1699 ?_
  refine tw_iload_n dJ0_indexOf_7cf53_11 rfl 1 rfl ?_
  refine tw_iload_n dJ0_indexOf_7cf53_12 rfl 2 rfl ?_
  refine tw_aload_n dJ0_indexOf_7cf53_13 rfl 0 rfl ?_
  refine tw_callV (As := []) (rest := [.int 0, .int x, .ref (adV 0)]) (tm_length d) tf_J0_length_8abf5 wd_460 wd_461 wd_462 rfl rfl (Nat.le_of_ble_eq_true rfl) dJ0_indexOf_7cf53_14 ?_
  refine tw_callS (As := [.ref (adV 0), .int x, .int 0, .int 12]) (rest := []) (tm_lindexOf d x h0) tf_J1_indexOf_4cfef wd_468 wd_469 rfl rfl (Nat.le_of_ble_eq_true rfl) dJ0_indexOf_7cf53_17 ?_
  refine tw_goto (tgt := 36) dJ0_indexOf_7cf53_20 (by decide) ?_
  exact tw_iret rfl dJ0_indexOf_7cf53_36
theorem tm_indexOf1 {l : Launch} {adK adV : Nat → Nat} (d : Nat) (x : Int32) (h0 : 0 ≤ x) : TM l (d + 3) M_J0_indexOf_0f7a4 adK adV [.ref (adK 0), .int x] (aLet x) := by
  refine tm_of tf_J0_indexOf_0f7a4 (Nat.le_of_ble_eq_true rfl) (lv0 := [(0, .ref (adK 0)), (1, .int x)]) rfl ?_
  refine tw_aload_n dJ0_indexOf_0f7a4_0 rfl 0 rfl ?_
  refine tw_iload_n dJ0_indexOf_0f7a4_1 rfl 1 rfl ?_
  refine tw_iconst (v := 0) dJ0_indexOf_0f7a4_2 (by decide) ?_
  refine tw_callV (As := [.int x, .int 0]) (rest := []) (tm_indexOf2 d x h0) tf_J0_indexOf_7cf53 wd_450 wd_451 wd_452 rfl rfl (Nat.le_of_ble_eq_true rfl) dJ0_indexOf_0f7a4_3 ?_
  exact tw_iret rfl dJ0_indexOf_0f7a4_6
theorem aw_letters {l : Launch} {S : aS} {G : aG} {d : Nat} {Qc : Array Value → State → Outcome → State → Prop} {lv : List (Nat × Value)} {h : aH} {x : Int32} (n : Nat) (hl : lv[n]? = some (1, .int x)) (k : AW l S G (d + 8) M_X4_letter Qc 15 lv [.int (aLet (x.toUInt32 % 65536).toInt32)] h) : AW l S G (d + 8) M_X4_letter Qc 8 lv [] h := fun p e s m a b q c H lo ls C A L => by
  obtain ⟨-, -, -, -, adK, adV, hR, hE, hZ⟩ := C.2.2.2.2.2.2.2.2
  refine va_ldcS C.1 C.2.1 C.2.2.2.2.1 hR dX4_letter_8 ?_
  refine lv_iload_n C.1 C.2.1 dX4_letter_10 rfl (lv_at L n hl) ?_
  refine lv_i2c C.1 C.2.1 dX4_letter_11 rfl ?_
  have h0 : 0 ≤ (x.toUInt32 % 65536).toInt32 := by
    rw [pk_char]
    exact nI_pos' (by have := Nat.mod_lt x.toBitVec.toNat (show 0 < 65536 by decide); omega)
  have hX : ∀ U : State, U.heap = H → s.WarmedH U.vm → tX adK adV U := fun U hU hW => ⟨((hE.moved hW.alike).kept (fun a h1 h2 => by rw [hU]; exact A.2.2.2.1 a h1 h2)).narrow (fun _ h => False.elim h), ((hZ.moved hW.alike).kept (fun a h1 h2 => by rw [hU]; exact A.2.2.2.1 a h1 h2)).narrow (fun _ h => False.elim h)⟩
  refine va_calli (A1 := fun _ => False) (va_runV (C := "java/lang/String") (As := [.int (x.toUInt32 % 65536).toInt32]) (rest := []) ⟨C.1, C.2.1, C.2.2.2.1, C.2.2.2.2.1, C.2.2.2.2.2.1⟩ (tm_indexOf1 (l := l) (adK := adK) (adV := adV) (d + 4) _ h0) ⟨callB_of 1 C.2.2.2.2.2.1 (tW0_good tf_J0_indexOf_0f7a4) rfl rfl rfl (C.2.2.2.2.2.1 _ (aT tf_J0_indexOf_0f7a4.2.1 rfl)) (C.2.2.2.2.2.1 _ (aT wd_446 rfl)) tf_J0_indexOf_0f7a4.2.2.1 ⟨Nat.le_refl _, by show 8 + (2 + 11) + 40 * (d + 4 + 3) ≤ 40 * (d + 8); omega⟩, C.2.2.2.2.2.1 _ (aT wd_447 rfl), C.2.2.2.2.2.1 _ (aT wd_448 rfl)⟩ ⟨tX_blind, vk_recv hE (by omega) A.2.2, fun U hU hW => ⟨rfl, hX U hU hW⟩⟩ rfl rfl L.1 rfl (lv_room (Nat.le_of_ble_eq_true rfl)) dX4_letter_12 ⟨Nat.le_refl _, Nat.le_refl _⟩) A.2.2 (fun q _ h => False.elim h) (fun q h => False.elim h) (fun r _ t H1 lo1 ht hvm hp hB hz hk hS => ?_)
  subst hp
  exact k p e s m a b q c H1 lo1 ls C ⟨A.1.kept (fun k q hq => hk _ (A.1 k q hq).lt id), A.2.1, hS⟩ L
