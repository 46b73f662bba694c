/-! ===== LAW: what a text means, once for both ===== -/
abbrev Rs : Type := Sum Int32 (Nat × Sem)
def er (c i : Nat) : Int32 := iI (-((1000 * c : Nat) : Int) - (i : Int))
theorem er_ne {c i : Nat} (h1 : 1 ≤ c) (h2 : c ≤ 9) (h3 : i ≤ 1000) : ¬ er c i = 0 := by
  unfold er
  rw [show (0 : Int32) = iI 0 from rfl, iI_eq (by omega) (by omega) (by omega) (by omega)]
  omega
abbrev isDg (c : Nat) : Prop := 48 ≤ c ∧ c ≤ 57
def letN (c : Nat) : Option Nat := if c = 105 then some 0 else if c = 110 then some 1 else if c = 104 then some 2 else if c = 120 then some 3 else if c = 121 then some 4 else if c = 109 then some 5 else if c = 107 then some 6 else if c = 115 then some 7 else if c = 112 then some 8 else if c = 100 then some 9 else if c = 119 then some 10 else if c = 113 then some 11 else none
def cmb (a : Option (Int32 × Sem)) (t : Sem) : Sem := match a with
  | none => t
  | some p => sBin p.1 p.2 t
def cmO (a : Option Sem) (t : Sem) : Sem := match a with
  | none => t
  | some f => sOr f t
section Spec
variable (n : Nat) (tb : Nat → Nat)
def tk (i : Nat) : Nat := if i < n then tb i else 0
def numL : Nat → Nat → Nat → Nat × Nat
  | 0, i, v => (i, v)
  | r + 1, i, v => if isDg (tk n tb i) then numL r (i + 1) (10 * v + (tk n tb i - 48)) else (i, v)
def numS (i : Nat) : Rs := if isDg (tk n tb (numL n tb 5 i 0).1) then .inl (er 2 (numL n tb 5 i 0).1) else .inr ((numL n tb 5 i 0).1, sNum (nI (numL n tb 5 i 0).2))
/-- an answer, and a sign that must follow it -/
def thenS (c : Nat) (r : Rs) : Rs := match r with
  | .inl e => .inl e
  | .inr p => if tk n tb p.1 = c then .inr (p.1 + 1, p.2) else .inl (er 1 p.1)
def facS (E : Nat → Rs) (d i : Nat) : Rs := if isDg (tk n tb i) then numS n tb i else if tk n tb i = 91 then (if 6 ≤ d then .inl (er 5 i) else thenS n tb 93 (E (i + 1))) else match letN (tk n tb i) with
  | some k => .inr (i + 1, sLt k)
  | none => .inl (er 1 i)
abbrev isPl (c : Nat) : Prop := c = 43 ∨ c = 45
abbrev isTm (c : Nat) : Prop := c = 42 ∨ c = 47 ∨ c = 37
def exlS (Fc : Nat → Rs) : Nat → Nat → Option (Int32 × Sem) → Sem → Rs
  | 0, j, acc, t => .inr (j, cmb acc t)
  | w + 1, j, acc, t => if isPl (tk n tb j) then (match Fc (j + 1) with
      | .inl e => .inl e
      | .inr p => exlS Fc w p.1 (some (nI (tk n tb j), cmb acc t)) p.2)
    else if isTm (tk n tb j) then (match Fc (j + 1) with
      | .inl e => .inl e
      | .inr p => exlS Fc w p.1 acc (sBin (nI (tk n tb j)) t p.2))
    else .inr (j, cmb acc t)
def exS : Nat → Nat → Nat → Rs
  | 0, _, i => .inl (er 5 i)
  | r + 1, d, i => match facS n tb (exS r (d + 1)) d i with
    | .inl e => .inl e
    | .inr p => exlS n tb (facS n tb (exS r (d + 1)) d) n p.1 none p.2
def exprS (d i : Nat) : Rs := exS n tb (7 - d) d i
abbrev isCm (c : Nat) : Prop := c = 60 ∨ c = 62 ∨ c = 61
def cmpS (d i : Nat) : Rs := match exprS n tb d i with
  | .inl e => .inl e
  | .inr p => if isCm (tk n tb p.1) then (match exprS n tb d (p.1 + 1) with
      | .inl e => .inl e
      | .inr q => .inr (q.1, sBin (nI (tk n tb p.1)) p.2 q.2))
    else .inl (er 1 p.1)
def negS (r : Rs) : Rs := match r with
  | .inl e => .inl e
  | .inr p => .inr (p.1, sNeg p.2)
def pieS (Pc Cd : Nat → Rs) (d i : Nat) : Rs := if tk n tb i = 33 then (if 6 ≤ d then .inl (er 5 i) else negS (Pc (i + 1))) else if tk n tb i = 40 then (if 6 ≤ d then .inl (er 5 i) else thenS n tb 41 (Cd (i + 1))) else cmpS n tb d i
def cdlS (Pc : Nat → Rs) : Nat → Nat → Option Sem → Sem → Rs
  | 0, j, o, a => .inr (j, cmO o a)
  | w + 1, j, o, a => if tk n tb j = 38 then (match Pc (j + 1) with
      | .inl e => .inl e
      | .inr p => cdlS Pc w p.1 o (sAnd a p.2))
    else if tk n tb j = 124 then (match Pc (j + 1) with
      | .inl e => .inl e
      | .inr p => cdlS Pc w p.1 (some (cmO o a)) p.2)
    else .inr (j, cmO o a)
/-- a piece (true) or a condition (false) -/
def pcS : Nat → Bool → Nat → Nat → Rs
  | 0, _, _, i => .inl (er 5 i)
  | r + 1, true, d, i => pieS n tb (pcS r true (d + 1)) (pcS r false (d + 1)) d i
  | r + 1, false, d, i => match pcS r true d i with
    | .inl e => .inl e
    | .inr p => cdlS n tb (pcS r true d) n p.1 none p.2
end Spec
