/-! ===== numbers and squares ===== -/
def iI (z : Int) : Int32 := Int32.ofInt z
theorem iI_toInt {z : Int} (h1 : -2147483648 ≤ z) (h2 : z < 2147483648) : (iI z).toInt = z := Int32.toInt_ofInt_of_le h1 h2
theorem iI_nat (n : Nat) : iI (n : Int) = nI n := rfl
theorem iI_add (a b : Int) : iI a + iI b = iI (a + b) := (Int32.ofInt_add a b).symm
theorem iI_sub (a b : Int) : iI a - iI b = iI (a - b) := (Int32.ofInt_sub a b).symm
theorem iI_mul (a b : Int) : iI a * iI b = iI (a * b) := (Int32.ofInt_mul a b).symm
theorem iI_neg (a : Int) : -iI a = iI (-a) := (Int32.ofInt_neg a).symm
theorem iI_lt {a b : Int} (a1 : -2147483648 ≤ a) (a2 : a < 2147483648) (b1 : -2147483648 ≤ b) (b2 : b < 2147483648) : iI a < iI b ↔ a < b := by
  rw [Int32.lt_iff_toInt_lt, iI_toInt a1 a2, iI_toInt b1 b2]
theorem iI_le {a b : Int} (a1 : -2147483648 ≤ a) (a2 : a < 2147483648) (b1 : -2147483648 ≤ b) (b2 : b < 2147483648) : iI a ≤ iI b ↔ a ≤ b := by
  rw [Int32.le_iff_toInt_le, iI_toInt a1 a2, iI_toInt b1 b2]
theorem iI_eq {a b : Int} (a1 : -2147483648 ≤ a) (a2 : a < 2147483648) (b1 : -2147483648 ≤ b) (b2 : b < 2147483648) : iI a = iI b ↔ a = b := by
  rw [← Int32.toInt_inj, iI_toInt a1 a2, iI_toInt b1 b2]
/-- every Int32 is the number that it stands for -/
theorem iI_of (x : Int32) : ∃ z : Int, -2147483648 ≤ z ∧ z < 2147483648 ∧ x = iI z := ⟨x.toInt, Int32.le_toInt x, Int32.toInt_lt x, (Int32.ofInt_toInt x).symm⟩
def besN (s : Nat) (dx dy : Int) : Option Nat := if 0 ≤ ((s % 16 : Nat) : Int) + dx ∧ ((s % 16 : Nat) : Int) + dx < 16 ∧ 0 ≤ ((s / 16 : Nat) : Int) + dy ∧ ((s / 16 : Nat) : Int) + dy < 16 then some (16 * (((s / 16 : Nat) : Int) + dy) + (((s % 16 : Nat) : Int) + dx)).toNat else none
def enc (o : Option Nat) : Int32 := match o with
  | some t => nI t
  | none => (-1)
theorem besN_lt {s : Nat} {dx dy : Int} {t : Nat} (h : besN s dx dy = some t) : t < 256 := by
  unfold besN at h
  split at h
  · cases h; omega
  · cases h
theorem nI_x {s : Nat} (hs : s < 256) : nI s &&& 15 = nI (s % 16) := pk_andN (n := s) (by omega) (m := 15) 4 (by decide)
theorem nI_y {s : Nat} (hs : s < 256) : nI s >>> (4 &&& 31) = nI (s / 16) := pk_shrN (n := s) (by omega) (4 &&& 31) 4 (by decide)
theorem nI_mod {s : Nat} (hs : s < 256) : nI s - nI s / 16 * 16 = nI (s % 16) := pk_rem (a := s) (d := 16) (by omega) (by decide) (by decide)
theorem nI_div {s : Nat} (hs : s < 256) : nI s / 16 = nI (s / 16) := pk_div (a := s) (d := 16) (by omega) (by decide) (by decide)
theorem vp_in_iI {z : Int} {n : Nat} (h1 : -2147483648 ≤ z) (h2 : z < 2147483648) : vp_in (iI z) n ↔ 0 ≤ z ∧ z < n := by
  rw [vp_in_iff, iI_toInt h1 h2]
theorem sp_hasI {S : aS} {x y : Int} {h : aH} {Q : Int32 → aH → Prop} (hx : -1000 < x ∧ x < 1000) (hy : -1000 < y ∧ y < 1000) (h1 : (0 ≤ x ∧ x < 16 ∧ 0 ≤ y ∧ y < 16) → Q 1 h) (h0 : ¬ (0 ≤ x ∧ x < 16 ∧ 0 ≤ y ∧ y < 16) → Q 0 h) : f_X1_has S (iI x) (iI y) h Q := by
  refine sp_has (fun m n hm hn e1 e2 => h1 ?_) (fun z => h0 (fun w => z ?_))
  · rw [← iI_nat, iI_eq (by omega) (by omega) (by omega) (by omega)] at e1 e2
    omega
  · rw [vp_in_iI (by omega) (by omega), vp_in_iI (by omega) (by omega)]
    omega
theorem sp_beside {S : aS} {s : Nat} (hs : s < 256) {dx dy : Int} (hx : -100 < dx ∧ dx < 100) (hy : -100 < dy ∧ dy < 100) {h : aH} {Q : Int32 → aH → Prop} (hq : Q (enc (besN s dx dy)) h) : f_X1_beside S (nI s) (iI dx) (iI dy) h Q := by
  show ∀ x3 : Int32, x3 = (nI s &&& 15) + iI dx → ∀ x4 : Int32, x4 = (nI s >>> (4 &&& 31)) + iI dy → f_X1_has S x3 x4 h (fun r8 h7 => aIf (r8 = 0) (Q (-1) h7) (f_X1_at S x3 x4 h7 (fun r11 h10 => Q r11 h10)))
  intro x3 e3 x4 e4
  rw [nI_x hs, ← iI_nat, iI_add] at e3
  rw [nI_y hs, ← iI_nat, iI_add] at e4
  subst e3
  subst e4
  refine sp_hasI (by omega) (by omega) (fun c => ?_) (fun c => ?_)
  · refine aIf_f (by decide) ?_
    show Q (16 * iI _ + iI _) h
    have e : besN s dx dy = some (16 * (((s / 16 : Nat) : Int) + dy) + (((s % 16 : Nat) : Int) + dx)).toNat := if_pos c
    rw [e] at hq
    have e2 : (16 : Int32) * iI (((s / 16 : Nat) : Int) + dy) + iI (((s % 16 : Nat) : Int) + dx) = nI (16 * (((s / 16 : Nat) : Int) + dy) + (((s % 16 : Nat) : Int) + dx)).toNat := by
      rw [show (16 : Int32) = iI 16 from rfl, iI_mul, iI_add, ← iI_nat]
      congr 1
      omega
    rw [e2]
    exact hq
  · refine aIf_t (by decide) ?_
    have e : besN s dx dy = none := if_neg c
    rw [e] at hq
    exact hq
theorem sp_isSquare {S : aS} {x y : Int} {h : aH} {Q : Int32 → aH → Prop} (hx : -1000 < x ∧ x < 1000) (hy : -1000 < y ∧ y < 1000) (h1 : (0 ≤ x ∧ x < 16 ∧ 0 ≤ y ∧ y < 16) → Q 1 h) (h0 : ¬ (0 ≤ x ∧ x < 16 ∧ 0 ≤ y ∧ y < 16) → Q 0 h) : f_X11_isSquare S (iI x) (iI y) h Q := by
  have le : ∀ a b : Int, -1000 < a ∧ a < 1000 → -1000 < b ∧ b < 1000 → (iI a ≤ iI b ↔ a ≤ b) := fun a b ha hb => iI_le (by omega) (by omega) (by omega) (by omega)
  have side : ∀ (z : Int) (Q' : Int32 → aH → Prop), -1000 < z ∧ z < 1000 → ((0 ≤ z ∧ z < 16) → Q' 1 h) → (¬ (0 ≤ z ∧ z < 16) → Q' 0 h) → f_X11_isSide S (iI z) h Q' := by
    intro z Q' hz g1 g0
    show f_X11_lies S (iI z).toInt64 (iI 0).toInt64 (iI 15).toInt64 h _
    refine sp_lies (fun a b => ⟨aB1, g1 ?_⟩) (fun a => ⟨aB0, g0 (fun w => a ?_)⟩)
    · rw [le _ _ (by omega) (by omega)] at a b
      omega
    · rw [le _ _ (by omega) (by omega), le _ _ (by omega) (by omega)]
      omega
  unfold f_X11_isSquare
  refine side x _ hx (fun a => ?_) (fun a => aIf_t (by decide) (h0 (by omega)))
  refine aIf_f (by decide) ?_
  refine side y _ hy (fun b => ?_) (fun b => ?_)
  · first | exact aIf_f (by decide) (h1 (by omega)) | exact aIf_t (by decide) (h1 (by omega)) | exact ⟨aB1, h1 (by omega)⟩
  · first | exact aIf_t (by decide) (h0 (by omega)) | exact aIf_f (by decide) (h0 (by omega)) | exact ⟨aB0, h0 (by omega)⟩
