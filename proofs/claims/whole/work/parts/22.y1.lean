/-! ===== the two new objects ===== -/
def lake0 : Lw := fun f i => [(50 : Int32), -1, 0, 0, 0, 0, 0, 0, 0, if i = 3 then 1 else 0].getD f 0
theorem sm_0 : ∀ n, sm (fun _ => 0) n = 0 := by
  intro n
  induction n with
  | zero => rfl
  | succ n ih =>
    show sm (fun _ => 0) n + 0 = 0
    rw [ih]
    rfl
theorem gap_0 (s : Nat) : gapsL lake0 s = 0 := by
  unfold gapsL
  have e : (fun i => gapT lake0 (adj s i)) = fun _ => 0 := funext (fun i => by
    cases adj s i with
    | none => rfl
    | some t =>
      show (if lake0 1 t = (-1) then (0 : Int32) else 1) = 0
      exact if_pos rfl)
  rw [e]
  exact sm_0 8
theorem war_0 (o : Option Nat) : warT lake0 o = 0 := by
  cases o with
  | none => rfl
  | some t =>
    show (if 0 ≤ lake0 1 t then lake0 4 (lake0 1 t).toNatClampNeg else (0 : Int32)) = 0
    exact if_neg (show ¬ (0 : Int32) ≤ -1 by decide)
theorem warm_0 (s : Nat) : warmL lake0 s = 0 := by
  unfold warmL
  have e : (fun i => warT lake0 (adj s i)) = fun _ => 0 := funext (fun i => war_0 _)
  rw [e, sm_0, war_0]
  rfl
theorem new_A (a b : Nat) : gA (hX10 hB) a b = if a = 26 ∧ b < 256 then 50 else if a = 27 ∧ b < 256 then -1 else if a = 14 ∧ b < 256 then 50 else if a = 15 ∧ b < 256 then -1 else if a = 2 ∧ b < 256 then 50 else if a = 3 ∧ b < 256 then -1 else 0 := rfl
theorem new_M (a b : Nat) : gA (hX11 hB) a b = if a = 2 ∧ b < 256 then 50 else if a = 4 ∧ b < 256 then -1 else 0 := rfl
theorem new_0 {a b : Nat} (h : a ≠ 26 ∧ a ≠ 27 ∧ a ≠ 14 ∧ a ≠ 15 ∧ a ≠ 2 ∧ a ≠ 3) : gA (hX10 hB) a b = 0 := by
  rw [new_A, if_neg (by omega), if_neg (by omega), if_neg (by omega), if_neg (by omega), if_neg (by omega), if_neg (by omega)]
theorem new_m {a b : Nat} (h : a ≠ 2 ∧ a ≠ 4) : gA (hX11 hB) a b = 0 := by
  rw [new_M, if_neg (by omega), if_neg (by omega)]
theorem WF_0 : WF lake0 0 0 := by
  refine ⟨by decide, by decide, rfl, rfl, fun i _ => ⟨50, by decide, rfl⟩, fun i _ => Or.inl rfl, fun m _ => ⟨0, by decide, rfl⟩, fun m _ => ⟨⟨0, by decide, rfl⟩, ⟨0, by decide, rfl⟩, ⟨0, by decide, rfl⟩, ⟨0, by decide, rfl⟩⟩, fun g hg => absurd hg (Nat.not_lt_zero _), ⟨1, by decide, rfl⟩⟩
theorem i_new : Inv LR (hX10 hB) (hX11 hB) := by
  refine ⟨lake0, 0, 0, false, lake0, 0, fun _ => 0, 43, 53, ⟨fun _ _ _ _ => rfl, rfl, rfl, Or.inl ⟨rfl, rfl⟩⟩, rfl, ⟨fun i hi => ⟨?_, ?_, ?_, ?_⟩, fun i _ => ⟨?_, ?_, ?_, ?_, ?_⟩, fun i _ => ⟨?_, ?_⟩, rfl, rfl, rfl, rfl⟩, ⟨fun i hi => ⟨?_, ?_, ?_⟩, fun i _ => ⟨?_, ?_, ?_, ?_, ?_⟩, fun i _ => ⟨?_, ?_⟩, rfl, rfl, rfl, rfl⟩, WF_0, rfl, rfl, fun z => absurd z (by decide), ⟨by decide, rfl, rfl, fun i _ => ⟨show 0 < 256 by decide, ?_, ?_⟩⟩, ⟨Or.inl rfl, 0, fun _ => 0, fun _ _ => none, fun _ _ => none, ⟨0, by decide, by decide, rfl, rfl, fun k hk => absurd hk (Nat.not_lt_zero _)⟩, ⟨by decide, rfl, fun k hk => absurd hk (Nat.not_lt_zero _)⟩⟩⟩
  · rw [new_A, if_neg (by omega), if_neg (by omega), if_neg (by omega), if_neg (by omega), if_pos (by omega)]
    rfl
  · rw [new_A, if_neg (by omega), if_neg (by omega), if_neg (by omega), if_neg (by omega), if_neg (by omega), if_pos (by omega)]
    rfl
  · rw [gap_0]
    exact new_0 (by omega)
  · rw [warm_0]
    exact new_0 (by omega)
  · exact new_0 (by omega)
  · exact new_0 (by omega)
  · exact new_0 (by omega)
  · exact new_0 (by omega)
  · exact new_0 (by omega)
  · exact new_0 (by omega)
  · exact new_0 (by omega)
  · rw [new_M, if_pos (by omega)]
    rfl
  · exact new_m (by omega)
  · rw [new_M, if_neg (by omega), if_pos (by omega)]
    rfl
  · exact new_m (by omega)
  · exact new_m (by omega)
  · exact new_m (by omega)
  · exact new_m (by omega)
  · exact new_m (by omega)
  · exact new_m (by omega)
  · exact new_m (by omega)
  · exact new_0 (by omega)
  · rw [new_m (by omega)]
    show (0 : Int32) &&& 255 = nI 0
    decide
