/-! ===== constructors: a world that grows; a reference field that isn't set yet holds null ===== -/
def nMark : Nat := 1000000
def nV (ad : Nat → Nat) (h : aH) (k : Nat) (fl : List Bool) (j : Nat) : Value := if (fl[j]?).getD false = true then (if gR h k j = nMark then .null else .ref (ad (gR h k j))) else .int (gI h k j)
def nFs (ad : Nat → Nat) (h : aH) (k : Nat) (fl : List Bool) : List Value := (List.range fl.length).map (nV ad h k fl)
def nE (G : aG) (K : aK) (h : aH) (k : Nat) : va_E := match K k with
  | .inl o => .inr (o.1, nFs G.2.1 h k o.2)
  | .inr a => .inl (G.2.2 a.1, a.2, .inl (gA h k))
def nWs (n : Nat) (K : aK) (G : aG) (h : aH) : va_W := (List.range n).map (fun k => (G.2.1 k, nE G K h k))
def hB : aH := (fun _ _ => 0, fun _ _ => 0, fun _ _ => nMark)
def nOk (n : Nat) (h : aH) : Prop := (∀ k j, k < n → gR h k j < n ∨ gR h k j = nMark) ∧ ∀ k j, n ≤ k → gI h k j = 0 ∧ gR h k j = nMark ∧ gA h k j = 0
abbrev nVal : Type := Int32 ⊕ Nat
def cv (ad : Nat → Nat) (v : nVal) : Value := match v with
  | .inl x => .int x
  | .inr k => .ref (ad k)
def nl (ad : Nat → Nat) (lv : List (Nat × nVal)) : List (Nat × Value) := lv.map (fun q => (q.1, cv ad q.2))
def nLt (n : Nat) (v : nVal) : Prop := match v with
  | .inl _ => True
  | .inr k => k < n
def nA (ad0 : Nat → Nat) (n0 sz : Nat) : Nat → Prop := fun q => (∃ k, k < n0 ∧ q = ad0 k) ∨ sz ≤ q
def nNest (U : State) : Prop := ∀ (a : String) (i : Nat) (x : MethodName) (o : String), Cond.methodLinkNest a i x o ∈ lw_tbl → va_Nw (.methodLinkNest a i x o) U
def nC (D : va_G) (cA : Nat → ClassId) (ad0 : Nat → Nat) (sz : Nat) (M : aM) (p : Program) (s : State) (m : MethodId) (args : Array Value) (meth : Method) (c : Code) : Prop :=
  p.tables.exec = Jvm.exec ∧ c.code = M.2.1 ∧ meth.sig.returnType = M.2.2.2 ∧ c.maxLocals = M.2.2.1 ∧ s.vm.findClass M.1.cls = some m.cls ∧ (∀ w ∈ aTb, w.before args s = true) ∧ meth.locks = false ∧ va_K D vwCl (aTy (D, ad0, cA)) s ∧ s.heap.size = sz ∧ meth.name = "<init>" ∧ nNest s
def NW (l : Launch) (K : aK) (D : va_G) (cA : Nat → ClassId) (R : Room) (M : aM) (Qc : Array Value → State → Outcome → State → Prop) (ad0 : Nat → Nat) (n0 sz mc ms : Nat) (pc : Nat) (lv : List (Nat × nVal)) (st : List nVal) (n : Nat) (h : aH) (cs ss : Nat) : Prop :=
  ∀ (p : Program) (e : Env) (s : State) (m : MethodId) (args : Array Value) (below : List Frame) (meth : Method) (c : Code) (H : Heap) (locs : List Loc) (ls : Array Slot) (ad : Nat → Nat), nC D cA ad0 sz M p s m args meth c → nOk n h → (∀ i, i < n0 → ad i = ad0 i) → va_P D vwCl (nWs n K (D, ad, cA) h) H → va_D (nA ad0 n0 sz) (nWs n K (D, ad, cA) h) → va_S (nA ad0 n0 sz) s.heap H locs → lv_has ls M.2.2.1 (nl ad lv) →
    W p l e R s m args below meth c H locs cs ss (MQ below Qc args s mc ms (nA ad0 n0 sz)) (F0 m pc ls (st.map (cv ad)))
def nQ (K : aK) (D : va_G) (cA : Nat → ClassId) (ad0 : Nat → Nat) (n0 sz n1 : Nat) (h1 : aH) : Array Value → State → Outcome → State → Prop :=
  va_Qv (fun ad' : Nat → Nat => ∀ i, i < n0 → ad' i = ad0 i) (fun ad' t => va_P D vwCl (nWs n1 K (D, ad', cA) h1) t.heap ∧ va_D (nA ad0 n0 sz) (nWs n1 K (D, ad', cA) h1)) (nA ad0 n0 sz)
def NM (l : Launch) (K : aK) (D : va_G) (cA : Nat → ClassId) (R : Room) (M : aM) (ad0 : Nat → Nat) (n0 sz : Nat) (av : List nVal) (h : aH) (n1 : Nat) (h1 : aH) (mc ms : Nat) : Prop :=
  Met l M.1 (aW0 M) R (va_Pc (av.map (cv ad0)) (fun U => U.heap.size = sz ∧ va_P D vwCl (nWs n0 K (D, ad0, cA) h) U.heap ∧ va_K D vwCl (aTy (D, ad0, cA)) U ∧ va_D (fun _ => True) (nWs n0 K (D, ad0, cA) h) ∧ nNest U)) (nQ K D cA ad0 n0 sz n1 h1) mc ms (nA ad0 n0 sz)
theorem nWs_get {n : Nat} {K : aK} {G : aG} {h : aH} {k : Nat} (hk : k < n) : (nWs n K G h)[k]? = some (G.2.1 k, nE G K h k) := by
  simp [nWs, hk]
theorem nWs_lt {n : Nat} {K : aK} {G : aG} {h : aH} {k : Nat} {q : Nat × va_E} (hq : (nWs n K G h)[k]? = some q) : k < n := by
  have := (List.getElem?_eq_some_iff.mp hq).1
  simpa [nWs] using this
theorem nWs_obj {n : Nat} {K : aK} {G : aG} {h : aH} {k ci : Nat} {fl : List Bool} (hk : k < n) (hS : K k = .inl (ci, fl)) : (nWs n K G h)[k]? = some (G.2.1 k, .inr (ci, nFs G.2.1 h k fl)) := by
  rw [nWs_get hk]; simp only [nE, hS]
theorem nWs_arr {n : Nat} {K : aK} {G : aG} {h : aH} {k t N : Nat} (hk : k < n) (hS : K k = .inr (t, N)) : (nWs n K G h)[k]? = some (G.2.1 k, .inl (G.2.2 t, N, .inl (gA h k))) := by
  rw [nWs_get hk]; simp only [nE, hS]
theorem nWs_put {n : Nat} {K : aK} {G : aG} {h h' : aH} {k : Nat} {e : va_E} (he : nE G K h' k = e) (ho : ∀ a, a ≠ k → nE G K h' a = nE G K h a) : (nWs n K G h).set k (G.2.1 k, e) = nWs n K G h' := by
  unfold nWs
  apply a_set
  · rw [he]
  · intro i hi
    rw [ho i hi]
theorem nWs_sA {n : Nat} {K : aK} {G : aG} {h : aH} {k t N : Nat} (hS : K k = .inr (t, N)) (i : Nat) (v : Int32) : (nWs n K G h).set k (G.2.1 k, .inl (G.2.2 t, N, .inl (upd (gA h k) i v))) = nWs n K G (sA h k i v) := by
  apply nWs_put
  · have e : gA (sA h k i v) k = upd (gA h k) i v := by
      funext b
      simp [gA, sA, upd]
    simp only [nE, hS, e]
  · intro a ha
    have e : gA (sA h k i v) a = gA h a := by
      funext b
      simp [gA, sA, ha]
    simp only [nE]
    cases K a with
    | inl o => rfl
    | inr q => simp only [e]
theorem nWs_sI {n : Nat} {K : aK} {G : aG} {h : aH} {k ci j : Nat} {fl : List Bool} (hS : K k = .inl (ci, fl)) (hj : (fl[j]?).getD false = false) (v : Int32) : (nWs n K G h).set k (G.2.1 k, .inr (ci, (nFs G.2.1 h k fl).set j (.int v))) = nWs n K G (sI h k j v) := by
  apply nWs_put
  · have e : (nFs G.2.1 h k fl).set j (.int v) = nFs G.2.1 (sI h k j v) k fl := by
      unfold nFs
      apply a_set
      · have e1 : gI (sI h k j v) k j = v := by simp [gI, sI]
        unfold nV
        rw [e1, hj]
        rfl
      · intro i hi
        have e1 : gI (sI h k j v) k i = gI h k i := by simp [gI, sI, hi]
        have e2 : gR (sI h k j v) k i = gR h k i := rfl
        unfold nV
        rw [e1, e2]
    simp only [nE, hS, e]
  · intro a ha
    simp only [nE]
    cases K a with
    | inl o =>
      have e : nFs G.2.1 (sI h k j v) a o.2 = nFs G.2.1 h a o.2 := by
        unfold nFs
        apply List.map_congr_left
        intro b _
        have e1 : gI (sI h k j v) a b = gI h a b := by simp [gI, sI, ha]
        have e2 : gR (sI h k j v) a b = gR h a b := rfl
        unfold nV
        rw [e1, e2]
      simp only [e]
    | inr q => rfl
theorem nWs_sR {n : Nat} {K : aK} {G : aG} {h : aH} {k ci j : Nat} {fl : List Bool} (hS : K k = .inl (ci, fl)) (hj : (fl[j]?).getD false = true) (v : Nat) (hv : v ≠ nMark) : (nWs n K G h).set k (G.2.1 k, .inr (ci, (nFs G.2.1 h k fl).set j (.ref (G.2.1 v)))) = nWs n K G (sR h k j v) := by
  apply nWs_put
  · have e : (nFs G.2.1 h k fl).set j (.ref (G.2.1 v)) = nFs G.2.1 (sR h k j v) k fl := by
      unfold nFs
      apply a_set
      · have e1 : gR (sR h k j v) k j = v := by simp [gR, sR]
        unfold nV
        rw [e1, hj, if_pos rfl, if_neg hv]
      · intro i hi
        have e1 : gI (sR h k j v) k i = gI h k i := rfl
        have e2 : gR (sR h k j v) k i = gR h k i := by simp [gR, sR, hi]
        unfold nV
        rw [e1, e2]
    simp only [nE, hS, e]
  · intro a ha
    simp only [nE]
    cases K a with
    | inl o =>
      have e : nFs G.2.1 (sR h k j v) a o.2 = nFs G.2.1 h a o.2 := by
        unfold nFs
        apply List.map_congr_left
        intro b _
        have e1 : gI (sR h k j v) a b = gI h a b := rfl
        have e2 : gR (sR h k j v) a b = gR h a b := by simp [gR, sR, ha]
        unfold nV
        rw [e1, e2]
      simp only [e]
    | inr q => rfl
theorem nFs_get {ad : Nat → Nat} {h : aH} {k j : Nat} {fl : List Bool} (hj : j < fl.length) : (nFs ad h k fl)[j]? = some (nV ad h k fl j) := by
  simp [nFs, hj]
/-- the same world under addresses that agree on its cells -/
theorem nWs_ad {n : Nat} {K : aK} {D : va_G} {cA : Nat → ClassId} {h : aH} {ad ad' : Nat → Nat} (hcl : ∀ k j, k < n → gR h k j < n ∨ gR h k j = nMark) (ha : ∀ i, i < n → ad' i = ad i) : nWs n K (D, ad', cA) h = nWs n K (D, ad, cA) h := by
  unfold nWs
  apply List.map_congr_left
  intro k hk
  have hk := List.mem_range.mp hk
  show (ad' k, nE (D, ad', cA) K h k) = (ad k, nE (D, ad, cA) K h k)
  rw [ha k hk]
  have e : nE (D, ad', cA) K h k = nE (D, ad, cA) K h k := by
    simp only [nE]
    cases K k with
    | inl o =>
      have e : nFs ad' h k o.2 = nFs ad h k o.2 := by
        unfold nFs
        apply List.map_congr_left
        intro j _
        simp only [nV]
        split
        · split
          · rfl
          · rename_i h1 h2
            rcases hcl k j hk with z | z
            · rw [ha _ z]
            · exact absurd z h2
        · rfl
      simp only [e]
    | inr q => rfl
  rw [e]
theorem nWs_succ {n : Nat} {K : aK} {G : aG} {h : aH} : nWs (n + 1) K G h = nWs n K G h ++ [(G.2.1 n, nE G K h n)] := by
  simp [nWs, List.range_succ]
theorem nOk_sA {n : Nat} {h : aH} {k i : Nat} {v : Int32} (ho : nOk n h) (hk : k < n) : nOk n (sA h k i v) := by
  refine ⟨fun a j ha => ho.1 a j ha, fun a j ha => ⟨(ho.2 a j ha).1, (ho.2 a j ha).2.1, ?_⟩⟩
  have : a ≠ k := by omega
  show (if a = k ∧ j = i then v else h.1 a j) = 0
  rw [if_neg (fun z => this z.1)]
  exact (ho.2 a j ha).2.2
theorem nOk_sI {n : Nat} {h : aH} {k i : Nat} {v : Int32} (ho : nOk n h) (hk : k < n) : nOk n (sI h k i v) := by
  refine ⟨fun a j ha => ho.1 a j ha, fun a j ha => ⟨?_, (ho.2 a j ha).2.1, (ho.2 a j ha).2.2⟩⟩
  have : a ≠ k := by omega
  show (if a = k ∧ j = i then v else h.2.1 a j) = 0
  rw [if_neg (fun z => this z.1)]
  exact (ho.2 a j ha).1
theorem nOk_sR {n : Nat} {h : aH} {k i v : Nat} (ho : nOk n h) (hk : k < n) (hv : v < n) : nOk n (sR h k i v) := by
  refine ⟨fun a j ha => ?_, fun a j ha => ⟨(ho.2 a j ha).1, ?_, (ho.2 a j ha).2.2⟩⟩
  · show (if a = k ∧ j = i then v else h.2.2 a j) < n ∨ (if a = k ∧ j = i then v else h.2.2 a j) = nMark
    by_cases c : a = k ∧ j = i
    · rw [if_pos c]; exact Or.inl hv
    · rw [if_neg c]; exact ho.1 a j ha
  · have : a ≠ k := by omega
    show (if a = k ∧ j = i then v else h.2.2 a j) = nMark
    rw [if_neg (fun z => this z.1)]
    exact (ho.2 a j ha).2.1
theorem nOk_succ {n : Nat} {h : aH} (ho : nOk n h) : nOk (n + 1) h := by
  refine ⟨fun a j ha => ?_, fun a j ha => ho.2 a j (by omega)⟩
  by_cases c : a < n
  · rcases ho.1 a j c with z | z
    · exact Or.inl (by omega)
    · exact Or.inr z
  · exact Or.inr (ho.2 a j (by omega)).2.1
theorem nOk_B (n : Nat) : nOk n hB := ⟨fun _ _ _ => Or.inr rfl, fun _ _ _ => ⟨rfl, rfl, rfl⟩⟩
theorem cv_ad {n : Nat} {ad ad' : Nat → Nat} (ha : ∀ i, i < n → ad' i = ad i) {v : nVal} (hv : nLt n v) : cv ad' v = cv ad v := by
  cases v with
  | inl x => rfl
  | inr k => show Value.ref (ad' k) = .ref (ad k); rw [ha k hv]
theorem nl_ad {n : Nat} {ad ad' : Nat → Nat} (ha : ∀ i, i < n → ad' i = ad i) {lv : List (Nat × nVal)} (hv : ∀ q ∈ lv, nLt n q.2) : nl ad' lv = nl ad lv := by
  unfold nl
  apply List.map_congr_left
  intro q hq
  rw [cv_ad ha (hv q hq)]
theorem st_ad {n : Nat} {ad ad' : Nat → Nat} (ha : ∀ i, i < n → ad' i = ad i) {st : List nVal} (hv : ∀ q ∈ st, nLt n q) : st.map (cv ad') = st.map (cv ad) := by
  apply List.map_congr_left
  intro q hq
  exact cv_ad ha (hv q hq)
theorem nNest_warm {s U : State} (hW : s.WarmedH U.vm) (h : nNest s) : nNest U := fun a i x o hm => va_Nw.warmM hW (h a i x o hm)
theorem nl_at {ad : Nat → Nat} {lv : List (Nat × nVal)} {n i : Nat} {v : nVal} (h : lv[n]? = some (i, v)) : (nl ad lv)[n]? = some (i, cv ad v) := by
  simp [nl, List.getElem?_map, h]
section NWrules
variable {l : Launch} {K : aK} {D : va_G} {cA : Nat → ClassId} {R : Room} {M : aM} {Qc : Array Value → State → Outcome → State → Prop} {ad0 : Nat → Nat} {n0 sz mc ms : Nat} {pc : Nat} {lv : List (Nat × nVal)} {st : List nVal} {n : Nat} {h : aH} {cs ss : Nat}
theorem nw_aload_n {j : Fin 4} {i k : Nat} (hd : decode M.2.1 pc = .ok (.aload_n j, 1)) (hi : (j : Nat) = i) (w : Nat) (hl : lv[w]? = some (i, .inr k)) (kk : NW l K D cA R M Qc ad0 n0 sz mc ms (pc + 1) lv (.inr k :: st) n h cs ss) : NW l K D cA R M Qc ad0 n0 sz mc ms pc lv st n h cs ss := fun p e s m a b q c H lo ls ad C O Ag P Dd S L => lv_aload_n C.1 C.2.1 hd hi (lv_at L w (nl_at hl)) (kk p e s m a b q c H lo ls ad C O Ag P Dd S L)
theorem nw_iload_n {j : Fin 4} {i : Nat} {x : Int32} (hd : decode M.2.1 pc = .ok (.iload_n j, 1)) (hi : (j : Nat) = i) (w : Nat) (hl : lv[w]? = some (i, .inl x)) (kk : NW l K D cA R M Qc ad0 n0 sz mc ms (pc + 1) lv (.inl x :: st) n h cs ss) : NW l K D cA R M Qc ad0 n0 sz mc ms pc lv st n h cs ss := fun p e s m a b q c H lo ls ad C O Ag P Dd S L => lv_iload_n C.1 C.2.1 hd hi (lv_at L w (nl_at hl)) (kk p e s m a b q c H lo ls ad C O Ag P Dd S L)
theorem nw_iconst {z : Int} {v : Int32} (hd : decode M.2.1 pc = .ok (.iconst z, 1)) (hv : Int32.ofInt z = v) (kk : NW l K D cA R M Qc ad0 n0 sz mc ms (pc + 1) lv (.inl v :: st) n h cs ss) : NW l K D cA R M Qc ad0 n0 sz mc ms pc lv st n h cs ss := fun p e s m a b q c H lo ls ad C O Ag P Dd S L => lv_iconst C.1 C.2.1 hd hv (kk p e s m a b q c H lo ls ad C O Ag P Dd S L)
theorem nw_bipush {z : Int} {v : Int32} (hd : decode M.2.1 pc = .ok (.bipush z, 2)) (hv : (Int8.ofInt z).toInt32 = v) (kk : NW l K D cA R M Qc ad0 n0 sz mc ms (pc + 2) lv (.inl v :: st) n h cs ss) : NW l K D cA R M Qc ad0 n0 sz mc ms pc lv st n h cs ss := fun p e s m a b q c H lo ls ad C O Ag P Dd S L => lv_bipush C.1 C.2.1 hd hv (kk p e s m a b q c H lo ls ad C O Ag P Dd S L)
theorem nw_sipush {z : Int} {v : Int32} (hd : decode M.2.1 pc = .ok (.sipush z, 3)) (hv : (Int16.ofInt z).toInt32 = v) (kk : NW l K D cA R M Qc ad0 n0 sz mc ms (pc + 3) lv (.inl v :: st) n h cs ss) : NW l K D cA R M Qc ad0 n0 sz mc ms pc lv st n h cs ss := fun p e s m a b q c H lo ls ad C O Ag P Dd S L => lv_sipush C.1 C.2.1 hd hv (kk p e s m a b q c H lo ls ad C O Ag P Dd S L)
theorem nw_dup {k : Nat} (hd : decode M.2.1 pc = .ok (.dup, 1)) (kk : NW l K D cA R M Qc ad0 n0 sz mc ms (pc + 1) lv (.inr k :: .inr k :: st) n h cs ss) : NW l K D cA R M Qc ad0 n0 sz mc ms pc lv (.inr k :: st) n h cs ss := fun p e s m a b q c H lo ls ad C O Ag P Dd S L => lv_dup C.1 C.2.1 hd rfl (kk p e s m a b q c H lo ls ad C O Ag P Dd S L)
theorem nw_istore_n {j : Fin 4} {i : Nat} {x : Int32} {lv' : List (Nat × nVal)} (hd : decode M.2.1 pc = .ok (.istore_n j, 1)) (hi : (j : Nat) = i) (hn : i < M.2.2.1) (hl : ∀ ad : Nat → Nat, (i, Value.int x) :: (nl ad lv).filter (fun q => !(q.1 == i) && !(q.1 + 1 == i && q.2.category == 2)) = nl ad lv') (kk : NW l K D cA R M Qc ad0 n0 sz mc ms (pc + 1) lv' st n h cs ss) : NW l K D cA R M Qc ad0 n0 sz mc ms pc lv (.inl x :: st) n h cs ss := fun p e s m a b q c H lo ls ad C O Ag P Dd S L => lv_istore_n C.1 C.2.1 hd hi L hn (hl ad) (fun ls' L' => kk p e s m a b q c H lo ls' ad C O Ag P Dd S L')
theorem nw_iinc {i w : Nat} {z : Int} {x v : Int32} {lv' : List (Nat × nVal)} (hd : decode M.2.1 pc = .ok (.iinc i z, 3)) (hk : lv[w]? = some (i, .inl x)) (hv : x + Int32.ofInt z = v) (hn : i < M.2.2.1) (hl : ∀ ad : Nat → Nat, (i, Value.int v) :: (nl ad lv).filter (fun q => !(q.1 == i) && !(q.1 + 1 == i && q.2.category == 2)) = nl ad lv') (kk : NW l K D cA R M Qc ad0 n0 sz mc ms (pc + 3) lv' st n h cs ss) : NW l K D cA R M Qc ad0 n0 sz mc ms pc lv st n h cs ss := fun p e s m a b q c H lo ls ad C O Ag P Dd S L => lv_iinc C.1 C.2.1 hd L (nl_at hk) hv hn (hl ad) (fun ls' L' => kk p e s m a b q c H lo ls' ad C O Ag P Dd S L')
theorem nw_icmp_ge {x y : Int32} {off : Int} {tgt : Nat} (hd : decode M.2.1 pc = .ok (.if_icmp .ge off, 3)) (ht : (pc : Int) + off = (tgt : Int)) (k1 : y ≤ x → NW l K D cA R M Qc ad0 n0 sz mc ms tgt lv st n h cs ss) (k2 : ¬ y ≤ x → NW l K D cA R M Qc ad0 n0 sz mc ms (pc + 3) lv st n h cs ss) : NW l K D cA R M Qc ad0 n0 sz mc ms pc lv (.inl y :: .inl x :: st) n h cs ss := fun p e s m a b q c H lo ls ad C O Ag P Dd S L => lv_icmp_ge C.1 C.2.1 hd ht (fun z => k1 z p e s m a b q c H lo ls ad C O Ag P Dd S L) (fun z => k2 z p e s m a b q c H lo ls ad C O Ag P Dd S L)
theorem nw_goto {off : Int} {tgt : Nat} (hd : decode M.2.1 pc = .ok (.goto off, 3)) (ht : (pc : Int) + off = (tgt : Int)) (kk : NW l K D cA R M Qc ad0 n0 sz mc ms tgt lv st n h cs ss) : NW l K D cA R M Qc ad0 n0 sz mc ms pc lv st n h cs ss := fun p e s m a b q c H lo ls ad C O Ag P Dd S L => lv_goto C.1 C.2.1 hd ht (kk p e s m a b q c H lo ls ad C O Ag P Dd S L)
theorem nw_objInit {i k : Nat} (hd : decode M.2.1 pc = .ok (.invokespecial i, 3)) (hw : Cond.methodLink M.1.cls i Lib.objectInit ∈ lw_tbl) (hi : Cond.instanceMethod Lib.objectInit ∈ lw_tbl) (hc : Cond.code Lib.objectInit ⟨#[0xb1]⟩ 1 none ∈ lw_tbl) (hf : 1 ≤ R.frames) (hlo : 12 ≤ R.locals) (kk : NW l K D cA R M Qc ad0 n0 sz mc ms (pc + 3) lv [] n h cs ss) : NW l K D cA R M Qc ad0 n0 sz mc ms pc lv [.inr k] n h cs ss := fun p e s m a b q c H lo ls ad C O Ag P Dd S L =>
  W.objInit C.1 C.2.1 C.2.2.2.2.1 (C.2.2.2.2.2.1 _ (aT hw rfl)) (C.2.2.2.2.2.1 _ (aT hi rfl)) (C.2.2.2.2.2.1 _ (aT hc rfl)) rfl (L.1.trans C.2.2.2.1.symm) rfl hd hf hlo (kk p e s m a b q c H lo ls ad C O Ag P Dd S L)
theorem nw_new {i ci N : Nat} {C0 : String} {T : u_T} {ty : Nat → FieldType} {fl : List Bool} (hd : decode M.2.1 pc = .ok (.new i, 3)) (hF : aCF ci C0 T N ty fl) (hw : Cond.classLink M.1.cls i C0 ∈ lw_tbl) (hi : Cond.instantiable C0 N ∈ lw_tbl) (hini : Cond.initialized C0 ∈ lw_tbl) (hK : K n = .inl (ci, fl)) (hdf : ∀ j, j < N → defaultValue (ty j) = if (fl[j]?).getD false = true then .null else .int 0) (hlv : ∀ q ∈ lv, nLt n q.2) (hst : ∀ q ∈ st, nLt n q) (hnn : n < nMark) (hn0 : n0 ≤ n) (hcs : cs + 1 ≤ R.cells) (hss : ss + N ≤ R.slots) (kk : NW l K D cA R M Qc ad0 n0 sz mc ms (pc + 3) lv (.inr n :: st) (n + 1) h (cs + 1) (ss + N)) : NW l K D cA R M Qc ad0 n0 sz mc ms pc lv st n h cs ss := fun p e0 s m a b q c H lo ls ad C O Ag P Dd S L => by
  obtain ⟨hc, hN, hin, hty, hnm⟩ := hF
  refine va_new (fs := nFs ad h n fl) C.1 C.2.1 C.2.2.2.2.2.1 hin ty hty C.2.2.2.2.1 (C.2.2.2.2.2.1 _ (aT hw rfl)) (C.2.2.2.2.2.1 _ (aT hi rfl)) (C.2.2.2.2.2.1 _ (aT hini rfl)) C.2.2.2.2.2.2.2.1 P Dd S (fun q hq => Or.inr (by rw [C.2.2.2.2.2.2.2.2.1] at hq; exact hq)) hc (fun j hj => ?_) hcs hss hd (fun q2 H1 hP hD hS => ?_)
  · rw [hdf j hj]
    unfold vp_V
    rw [List.getD_eq_getElem?_getD, nFs_get (by omega)]
    simp only [Option.getD_some, nV]
    obtain ⟨o1, o2, -⟩ := O.2 n j (Nat.le_refl n)
    rw [o1, o2]
    simp
  · have ha : ∀ i, i < n → va_up ad n q2 i = ad i := fun i hi => va_up_ne _ _ (by omega)
    have e : nWs (n + 1) K (D, va_up ad n q2, cA) h = nWs n K (D, ad, cA) h ++ [(q2, .inr (ci, nFs ad h n fl))] := by
      rw [nWs_succ, nWs_ad O.1 ha]
      have e1 : nE (D, va_up ad n q2, cA) K h n = .inr (ci, nFs ad h n fl) := by
        simp only [nE, hK]
        have e2 : nFs (va_up ad n q2) h n fl = nFs ad h n fl := by
          unfold nFs
          apply List.map_congr_left
          intro j _
          simp only [nV]
          rw [(O.2 n j (Nat.le_refl n)).2.1]
          simp
        simp only [e2]
      rw [e1]
      show _ ++ [(va_up ad n q2 n, _)] = _
      rw [va_up_self]
    rw [← e] at hP hD
    have k2 := kk p e0 s m a b q c H1 lo ls (va_up ad n q2) C (nOk_succ O) (fun i hi => (ha i (by omega)).trans (Ag i hi)) hP hD hS (by rw [nl_ad ha hlv]; exact L)
    have e3 : (Sum.inr n :: st : List nVal).map (cv (va_up ad n q2)) = .ref q2 :: st.map (cv ad) := by
      rw [List.map_cons, st_ad ha hst]
      show Value.ref (va_up ad n q2 n) :: _ = _
      rw [va_up_self]
    rw [e3] at k2
    exact k2
theorem nw_newa {atype : ArrayType} {t N : Nat} {ty : FieldType} {x : Int32} (hd : decode M.2.1 pc = .ok (.newarray atype, 2)) (hw : Cond.arrayClass (newarray.typeOf atype) ∈ lw_tbl) (hty : newarray.typeOf atype = ty) (hT : ∀ ad : Nat → Nat, (aTy (D, ad, cA))[t]? = some (cA t, ty)) (hu : ∀ (U : State) (c1 c2 : ClassId), va_RA U c1 ty → va_RA U c2 ty → c1 = c2) (hz : ∀ c : ClassId, vp_cell c (N, .inl (fun _ => 0)) = arrV c N (fun _ => defaultValue ty)) (hK : K n = .inr (t, N)) (hx : ¬ x < 0) (hN : x.toNatClampNeg = N) (hby : N * componentBytes ty ≤ 536870912) (hlv : ∀ q ∈ lv, nLt n q.2) (hst : ∀ q ∈ st, nLt n q) (hn0 : n0 ≤ n) (hcs : cs + 1 ≤ R.cells) (hss : ss + N ≤ R.slots) (kk : NW l K D cA R M Qc ad0 n0 sz mc ms (pc + 2) lv (.inr n :: st) (n + 1) h (cs + 1) (ss + N)) : NW l K D cA R M Qc ad0 n0 sz mc ms pc lv (.inl x :: st) n h cs ss := fun p e0 s m a b q c H lo ls ad C O Ag P Dd S L => by
  refine va_newa (a0 := (N, .inl (fun _ => 0))) C.1 C.2.1 (C.2.2.2.2.2.1 _ (aT hw rfl)) hty C.2.2.2.2.2.2.2.1 P Dd S (fun q hq => Or.inr (by rw [C.2.2.2.2.2.2.2.2.1] at hq; exact hq)) hz hx hN hby hcs hss hd (fun q2 c2 H1 hK2 hP hD hS => ?_)
  have hc2 : c2 = cA t := by
    have h1 := (hK2.2 3 (c2, ty) rfl).2
    have h2 := (C.2.2.2.2.2.2.2.1.2 t _ (hT ad0)).2
    exact hu s _ _ h1 h2
  subst hc2
  have ha : ∀ i, i < n → va_up ad n q2 i = ad i := fun i hi => va_up_ne _ _ (by omega)
  have e : nWs (n + 1) K (D, va_up ad n q2, cA) h = nWs n K (D, ad, cA) h ++ [(q2, .inl (cA t, N, .inl (fun _ => 0)))] := by
    rw [nWs_succ, nWs_ad O.1 ha]
    have e1 : nE (D, va_up ad n q2, cA) K h n = .inl (cA t, N, .inl (fun _ => 0)) := by
      simp only [nE, hK]
      have e2 : gA h n = fun _ => 0 := by
        funext j
        exact (O.2 n j (Nat.le_refl n)).2.2
      rw [e2]
    rw [e1]
    show _ ++ [(va_up ad n q2 n, _)] = _
    rw [va_up_self]
  rw [← e] at hP hD
  have k2 := kk p e0 s m a b q c H1 lo ls (va_up ad n q2) C (nOk_succ O) (fun i hi => (ha i (by omega)).trans (Ag i hi)) hP hD hS (by rw [nl_ad ha hlv]; exact L)
  have e3 : (Sum.inr n :: st : List nVal).map (cv (va_up ad n q2)) = .ref q2 :: st.map (cv ad) := by
    rw [List.map_cons, st_ad ha hst]
    show Value.ref (va_up ad n q2 n) :: _ = _
    rw [va_up_self]
  rw [e3] at k2
  exact k2
theorem nw_putI {ci : Nat} {C0 : String} {T : u_T} {N : Nat} {ty : Nat → FieldType} {fl : List Bool} {i k : Nat} {v : Int32} (hF : aCF ci C0 T N ty fl) (j : Nat) (hj : j < N) (hb : (fl[j]?).getD false = false) (hw : Cond.fieldLink M.1.cls i (T j).1 (T j).2.1 (T j).2.2.1 ∈ lw_tbl) (hfin : (T j).2.2.2 = false) (hn : narrow (ty j) (.int v) = .int v) (hfit : fits (ty j) (.int v) = true) (hk : k < n) (hK : K k = .inl (ci, fl)) (hd : decode M.2.1 pc = .ok (.putfield i, 3)) (kk : NW l K D cA R M Qc ad0 n0 sz mc ms (pc + 3) lv st n (sI h k j v) cs ss) : NW l K D cA R M Qc ad0 n0 sz mc ms pc lv (.inl v :: .inr k :: st) n h cs ss := fun p e0 s m a b q c H lo ls ad C O Ag P Dd S L => by
  obtain ⟨hc, hN, hin, hty, hnm⟩ := hF
  refine va_put C.1 C.2.1 C.2.2.2.2.2.1 hin ty hty hnm C.2.2.2.2.1 C.2.2.2.2.2.2.2.1 P Dd S k (nWs_obj (G := (D, ad, cA)) hk hK) hc j hj (C.2.2.2.2.2.1 _ (aT hw rfl)) (fun _ h9 => h9) hfin (hty j hj) hn hfit (by simp [nFs, hN, hj]) hd (fun H1 lo1 hP hD hS => ?_)
  have e := nWs_sI (n := n) (G := (D, ad, cA)) (h := h) hK hb v
  dsimp only at e hP hD
  rw [show cv ad (.inl v) = .int v from rfl, e] at hP hD
  exact kk p e0 s m a b q c H1 lo1 ls ad C (nOk_sI O hk) Ag hP hD hS L
theorem nw_putR {ci : Nat} {C0 : String} {T : u_T} {N : Nat} {ty : Nat → FieldType} {fl : List Bool} {i k v : Nat} (hF : aCF ci C0 T N ty fl) (j : Nat) (hj : j < N) (hb : (fl[j]?).getD false = true) (hw : Cond.fieldLink M.1.cls i (T j).1 (T j).2.1 (T j).2.2.1 ∈ lw_tbl) (hfin : (T j).2.2.2 = false) (hn : ∀ q : Nat, narrow (ty j) (.ref q) = .ref q) (hfit : ∀ q : Nat, fits (ty j) (.ref q) = true) (hk : k < n) (hv : v < n) (hm : v ≠ nMark) (hK : K k = .inl (ci, fl)) (hd : decode M.2.1 pc = .ok (.putfield i, 3)) (kk : NW l K D cA R M Qc ad0 n0 sz mc ms (pc + 3) lv st n (sR h k j v) cs ss) : NW l K D cA R M Qc ad0 n0 sz mc ms pc lv (.inr v :: .inr k :: st) n h cs ss := fun p e0 s m a b q c H lo ls ad C O Ag P Dd S L => by
  obtain ⟨hc, hN, hin, hty, hnm⟩ := hF
  refine va_put C.1 C.2.1 C.2.2.2.2.2.1 hin ty hty hnm C.2.2.2.2.1 C.2.2.2.2.2.2.2.1 P Dd S k (nWs_obj (G := (D, ad, cA)) hk hK) hc j hj (C.2.2.2.2.2.1 _ (aT hw rfl)) (fun _ h9 => h9) hfin (hty j hj) (hn _) (hfit _) (by simp [nFs, hN, hj]) hd (fun H1 lo1 hP hD hS => ?_)
  have e := nWs_sR (n := n) (G := (D, ad, cA)) (h := h) hK hb v hm
  dsimp only at e hP hD
  rw [show cv ad (.inr v) = .ref (ad v) from rfl, e] at hP hD
  exact kk p e0 s m a b q c H1 lo1 ls ad C (nOk_sR O hk hv) Ag hP hD hS L
theorem nw_putF {ci : Nat} {C0 : String} {T : u_T} {N : Nat} {ty : Nat → FieldType} {fl : List Bool} {i k v : Nat} (hF : aCF ci C0 T N ty fl) (j : Nat) (hj : j < N) (hb : (fl[j]?).getD false = true) (hw : Cond.fieldLink M.1.cls i (T j).1 (T j).2.1 (T j).2.2.1 ∈ lw_tbl) (hfin : (T j).2.2.2 = true) (hdecl : (T j).1 = M.1.cls) (hn : ∀ q : Nat, narrow (ty j) (.ref q) = .ref q) (hfit : ∀ q : Nat, fits (ty j) (.ref q) = true) (hk : k < n) (hv : v < n) (hm : v ≠ nMark) (hK : K k = .inl (ci, fl)) (hd : decode M.2.1 pc = .ok (.putfield i, 3)) (kk : NW l K D cA R M Qc ad0 n0 sz mc ms (pc + 3) lv st n (sR h k j v) cs ss) : NW l K D cA R M Qc ad0 n0 sz mc ms pc lv (.inr v :: .inr k :: st) n h cs ss := fun p e0 s m a b q c H lo ls ad C O Ag P Dd S L => by
  obtain ⟨hc, hN, hin, hty, hnm⟩ := hF
  refine va_putF C.1 C.2.1 C.2.2.2.2.2.1 hin ty hty hnm C.2.2.2.2.1 C.2.2.2.2.2.2.2.1 P Dd S k (nWs_obj (G := (D, ad, cA)) hk hK) hc j hj (C.2.2.2.2.2.1 _ (aT hw rfl)) (fun _ h9 => h9) hfin C.2.2.2.2.2.2.2.2.2.1 hdecl (hty j hj) (hn _) (hfit _) (by simp [nFs, hN, hj]) hd (fun H1 lo1 hP hD hS => ?_)
  have e := nWs_sR (n := n) (G := (D, ad, cA)) (h := h) hK hb v hm
  dsimp only at e hP hD
  rw [show cv ad (.inr v) = .ref (ad v) from rfl, e] at hP hD
  exact kk p e0 s m a b q c H1 lo1 ls ad C (nOk_sR O hk hv) Ag hP hD hS L
theorem nw_getR {ci : Nat} {C0 : String} {T : u_T} {N : Nat} {ty : Nat → FieldType} {fl : List Bool} {i k v : Nat} (hF : aCF ci C0 T N ty fl) (j : Nat) (hj : j < N) (hb : (fl[j]?).getD false = true) (hw : Cond.fieldLink M.1.cls i (T j).1 (T j).2.1 (T j).2.2.1 ∈ lw_tbl) (hk : k < n) (hK : K k = .inl (ci, fl)) (hv : gR h k j = v) (hm : v ≠ nMark) (hd : decode M.2.1 pc = .ok (.getfield i, 3)) (kk : NW l K D cA R M Qc ad0 n0 sz mc ms (pc + 3) lv (.inr v :: st) n h cs ss) : NW l K D cA R M Qc ad0 n0 sz mc ms pc lv (.inr k :: st) n h cs ss := fun p e0 s m a b q c H lo ls ad C O Ag P Dd S L => by
  obtain ⟨hc, hN, hin, hty, hnm⟩ := hF
  refine va_get C.1 C.2.1 C.2.2.2.2.2.1 hin C.2.2.2.2.1 C.2.2.2.2.2.2.2.1 P k (nWs_obj (G := (D, ad, cA)) hk hK) hc j hj (C.2.2.2.2.2.1 _ (aT hw rfl)) (fun _ h9 => h9) (v := .ref (ad v)) ?_ hd (kk p e0 s m a b q c H lo ls ad C O Ag P Dd S L)
  rw [nFs_get (by omega)]
  simp only [nV, hb, hv]
  simp [hm]
theorem nw_iastore {k N : Nat} {i v : Int32} (hk : k < n) (hK : K k = .inr (0, N)) (hi : vp_in i N) (hd : decode M.2.1 pc = .ok (.iastore, 1)) (kk : NW l K D cA R M Qc ad0 n0 sz mc ms (pc + 1) lv st n (sA h k i.toNatClampNeg v) cs ss) : NW l K D cA R M Qc ad0 n0 sz mc ms pc lv (.inl v :: .inl i :: .inr k :: st) n h cs ss := fun p e0 s m a b q c H lo ls ad C O Ag P Dd S L => by
  refine va_iast C.1 C.2.1 C.2.2.2.2.2.2.2.1 P Dd S k 0 (nWs_arr (G := (D, ad, cA)) hk hK) rfl hi hd (fun H1 lo1 hP hD hS => ?_)
  have e := nWs_sA (n := n) (G := (D, ad, cA)) (h := h) hK i.toNatClampNeg v
  dsimp only at e hP hD
  rw [e] at hP hD
  exact kk p e0 s m a b q c H1 lo1 ls ad C (nOk_sA O hk) Ag hP hD hS L
theorem nw_vret (hr : M.2.2.2 = none) (hd : decode M.2.1 pc = .ok (.return_, 1)) (h1 : cs = mc) (h2 : ss = ms) : NW l K D cA R M (nQ K D cA ad0 n0 sz n h) ad0 n0 sz mc ms pc lv [] n h cs ss := fun p e s m a b q c H lo ls ad C O Ag P Dd S L => by
  subst h1; subst h2
  exact W.vret C.1 C.2.1 (C.2.2.1.trans hr) (fun t ht hW => ⟨⟨ad, rfl, Ag, by rw [ht]; exact P, Dd⟩, S.F ht⟩) S.2.2 hd C.2.2.2.2.2.2.1
theorem nm_of {z : Nat} {av : List nVal} {n1 : Nat} {h1 : aH} (hf : aMF M z) (hin : M.1.name = "<init>") (hlen : ∀ ad : Nat → Nat, (lg_sl (av.map (cv ad))).length ≤ M.2.2.1) (hlv : ∀ ad : Nat → Nat, lv_args 0 (av.map (cv ad)) = nl ad lv) (ho : nOk n0 h) (k : NW l K D cA R M (nQ K D cA ad0 n0 sz n1 h1) ad0 n0 sz mc ms 0 lv [] n0 h 0 0) : NM l K D cA R M ad0 n0 sz av h n1 h1 mc ms := by
  refine Met.ofW (cc := M.2.1) (maxL := M.2.2.1) (ret := M.2.2.2) hf.2.2.2.1 rfl ?_
  intro p e s m a below meth c s₁ B hml hv
  obtain ⟨rfl, hsz, hP, hK, hD, hN⟩ := hv
  have hl := lv_entry (av.map (cv ad0)) (n := M.2.2.1) (hlen ad0)
  rw [lg_entry_eq]
  rw [hlv ad0] at hl
  have hD2 : va_D (nA ad0 n0 sz) (nWs n0 K (D, ad0, cA) h) := ⟨hD.1, fun k q hk => by
    have hk' := nWs_lt hk
    rw [nWs_get hk'] at hk
    cases hk
    exact Or.inl ⟨k, hk', rfl⟩⟩
  exact k p e s m _ below meth c s.heap [] _ ad0 ⟨B.exec, B.bytes, B.returns, hml, findClass_of_methodNamed B.named, fun w hw => atoms_spec (ws := aW0 M) B.pre w (List.mem_cons_of_mem _ hw), B.notSynchronized, hK, hsz, (name_of_methodNamed B.named B.method).1.trans hin, hN⟩ ho (fun _ _ => rfl) hP hD2 va_S.rf hl
end NWrules
