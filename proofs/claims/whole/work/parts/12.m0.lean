/-! ===== the pure side: layouts, and small rules ===== -/
abbrev SC : aS := (78, KX10)
abbrev SM : aS := (47, KX11)
theorem aIf_i {c A B : Prop} (h1 : c → A) (h2 : ¬ c → B) : aIf c A B := ⟨h1, h2⟩
theorem aIf_t {c A B : Prop} (hc : c) (h : A) : aIf c A B := ⟨fun _ => h, fun h2 => absurd hc h2⟩
theorem aIf_f {c A B : Prop} (hc : ¬ c) (h : B) : aIf c A B := ⟨fun h1 => absurd h1 hc, fun _ => h⟩
theorem aIf_T {A B : Prop} : aIf True A B ↔ A := ⟨fun h => h.1 trivial, fun h => ⟨fun _ => h, fun h2 => absurd trivial h2⟩⟩
theorem aIf_F {A B : Prop} : aIf False A B ↔ B := ⟨fun h => h.2 id, fun h => ⟨fun h1 => False.elim h1, fun _ => h⟩⟩
theorem aIf_pos {c A B : Prop} (hc : c) : aIf c A B ↔ A := ⟨fun h => h.1 hc, aIf_t hc⟩
theorem aIf_neg {c A B : Prop} (hc : ¬ c) : aIf c A B ↔ B := ⟨fun h => h.2 hc, aIf_f hc⟩
theorem z10 : ((1 : Int32) = 0) ↔ False := by decide
theorem z00 : ((0 : Int32) = 0) ↔ True := by decide
theorem gR_sA {h : aH} {k i : Nat} {v : Int32} : gR (sA h k i v) = gR h := rfl
theorem gR_sI {h : aH} {k i : Nat} {v : Int32} : gR (sI h k i v) = gR h := rfl
theorem gI_sA {h : aH} {k i : Nat} {v : Int32} : gI (sA h k i v) = gI h := rfl
theorem gA_sI {h : aH} {k i : Nat} {v : Int32} : gA (sI h k i v) = gA h := rfl
theorem gA_sA {h : aH} {k i a b : Nat} {v : Int32} : gA (sA h k i v) a b = if a = k ∧ b = i then v else gA h a b := rfl
theorem gI_sI {h : aH} {k i a b : Nat} {v : Int32} : gI (sI h k i v) a b = if a = k ∧ b = i then v else gI h a b := rfl
theorem gA_sC {h : aH} {k0 sp k dp n a b : Nat} : gA (sC h k0 sp k dp n) a b = if a = k then va_cpy (gA h k0) (gA h k) sp dp n b else gA h a b := rfl
theorem gR_sC {h : aH} {k0 sp k dp n : Nat} : gR (sC h k0 sp k dp n) = gR h := rfl
theorem gI_sC {h : aH} {k0 sp k dp n : Nat} : gI (sC h k0 sp k dp n) = gI h := rfl
theorem aB0 : aB 0 := ⟨rfl, rfl, rfl⟩
theorem aB1 : aB 1 := ⟨rfl, rfl, rfl⟩
/-- the reference's references: they never change -/
def LayM (h : aH) : Prop := h.2.2 = (hX11 hB).2.2
theorem rM {h : aH} (hL : LayM h) (k j v : Nat) (hv : (hX11 hB).2.2 k j = v) : gR h k j = v := by
  unfold gR
  rw [hL]
  exact hv
/-- the class's references: all stay but the two laws, which may change places -/
def LayC (h : aH) (l d : Nat) : Prop := (∀ k j, (k, j) ≠ (42, 0) → (k, j) ≠ (52, 1) → gR h k j = (hX10 hB).2.2 k j) ∧ gR h 42 0 = l ∧ gR h 52 1 = d ∧ ((l = 43 ∧ d = 53) ∨ (l = 53 ∧ d = 43))
theorem rC {h : aH} {l d : Nat} (hL : LayC h l d) (k j v : Nat) (h1 : (k, j) ≠ (42, 0)) (h2 : (k, j) ≠ (52, 1)) (hv : (hX10 hB).2.2 k j = v) : gR h k j = v := (hL.1 k j h1 h2).trans hv
theorem aIn_of {S : aS} {t k n : Nat} {i : Int32} (hk : k < S.1) (hK : S.2 k = .inr (t, n)) : aIn S t k i ↔ vp_in i n := by
  constructor
  · rintro ⟨m, h1, h2, h3⟩
    rw [hK] at h2
    cases h2
    exact h3
  · exact fun h => ⟨n, hk, hK, h⟩
theorem aObj_of {S : aS} {k ci : Nat} {fl : List Bool} (hk : k < S.1) (hK : S.2 k = .inl (ci, fl)) : aObj S k ci fl ↔ True := ⟨fun _ => trivial, fun _ => ⟨hk, hK⟩⟩
theorem m_0 {h : aH} (hL : LayM h) : gR h 0 0 = 1 := rM hL 0 0 1 rfl
theorem m_6 {h : aH} (hL : LayM h) : gR h 0 6 = 2 := rM hL 0 6 2 rfl
theorem m_7 {h : aH} (hL : LayM h) : gR h 0 7 = 3 := rM hL 0 7 3 rfl
theorem m_8 {h : aH} (hL : LayM h) : gR h 0 8 = 4 := rM hL 0 8 4 rfl
theorem m_9 {h : aH} (hL : LayM h) : gR h 0 9 = 5 := rM hL 0 9 5 rfl
theorem m_10 {h : aH} (hL : LayM h) : gR h 0 10 = 6 := rM hL 0 10 6 rfl
theorem m_11 {h : aH} (hL : LayM h) : gR h 0 11 = 7 := rM hL 0 11 7 rfl
theorem m_12 {h : aH} (hL : LayM h) : gR h 0 12 = 8 := rM hL 0 12 8 rfl
theorem m_13 {h : aH} (hL : LayM h) : gR h 0 13 = 9 := rM hL 0 13 9 rfl
theorem m_14 {h : aH} (hL : LayM h) : gR h 0 14 = 10 := rM hL 0 14 10 rfl
theorem m_15 {h : aH} (hL : LayM h) : gR h 0 15 = 11 := rM hL 0 15 11 rfl
theorem m_17 {h : aH} (hL : LayM h) : gR h 0 17 = 12 := rM hL 0 17 12 rfl
theorem m_18 {h : aH} (hL : LayM h) : gR h 0 18 = 13 := rM hL 0 18 13 rfl
theorem m_19 {h : aH} (hL : LayM h) : gR h 0 19 = 14 := rM hL 0 19 14 rfl
theorem m_20 {h : aH} (hL : LayM h) : gR h 0 20 = 15 := rM hL 0 20 15 rfl
theorem m_21 {h : aH} (hL : LayM h) : gR h 0 21 = 16 := rM hL 0 21 16 rfl
theorem m_22 {h : aH} (hL : LayM h) : gR h 0 22 = 17 := rM hL 0 22 17 rfl
theorem m_23 {h : aH} (hL : LayM h) : gR h 0 23 = 18 := rM hL 0 23 18 rfl
theorem m_24 {h : aH} (hL : LayM h) : gR h 0 24 = 19 := rM hL 0 24 19 rfl
theorem m_25 {h : aH} (hL : LayM h) : gR h 0 25 = 20 := rM hL 0 25 20 rfl
theorem m_26 {h : aH} (hL : LayM h) : gR h 0 26 = 21 := rM hL 0 26 21 rfl
theorem m_27 {h : aH} (hL : LayM h) : gR h 0 27 = 22 := rM hL 0 27 22 rfl
theorem m_28 {h : aH} (hL : LayM h) : gR h 0 28 = 23 := rM hL 0 28 23 rfl
theorem m_38 {h : aH} (hL : LayM h) : gR h 0 38 = 24 := rM hL 0 38 24 rfl
theorem m_43 {h : aH} (hL : LayM h) : gR h 0 43 = 25 := rM hL 0 43 25 rfl
theorem m_44 {h : aH} (hL : LayM h) : gR h 0 44 = 26 := rM hL 0 44 26 rfl
theorem m_45 {h : aH} (hL : LayM h) : gR h 0 45 = 27 := rM hL 0 45 27 rfl
theorem m_46 {h : aH} (hL : LayM h) : gR h 0 46 = 28 := rM hL 0 46 28 rfl
theorem m_47 {h : aH} (hL : LayM h) : gR h 0 47 = 29 := rM hL 0 47 29 rfl
theorem m_48 {h : aH} (hL : LayM h) : gR h 0 48 = 30 := rM hL 0 48 30 rfl
theorem m_49 {h : aH} (hL : LayM h) : gR h 0 49 = 31 := rM hL 0 49 31 rfl
theorem m_50 {h : aH} (hL : LayM h) : gR h 0 50 = 32 := rM hL 0 50 32 rfl
theorem m_51 {h : aH} (hL : LayM h) : gR h 0 51 = 33 := rM hL 0 51 33 rfl
theorem m_52 {h : aH} (hL : LayM h) : gR h 0 52 = 34 := rM hL 0 52 34 rfl
theorem m_53 {h : aH} (hL : LayM h) : gR h 0 53 = 35 := rM hL 0 53 35 rfl
theorem m_55 {h : aH} (hL : LayM h) : gR h 0 55 = 36 := rM hL 0 55 36 rfl
theorem m_56 {h : aH} (hL : LayM h) : gR h 0 56 = 37 := rM hL 0 56 37 rfl
theorem m_57 {h : aH} (hL : LayM h) : gR h 0 57 = 38 := rM hL 0 57 38 rfl
theorem m_58 {h : aH} (hL : LayM h) : gR h 0 58 = 39 := rM hL 0 58 39 rfl
theorem m_59 {h : aH} (hL : LayM h) : gR h 0 59 = 40 := rM hL 0 59 40 rfl
theorem m_64 {h : aH} (hL : LayM h) : gR h 0 64 = 41 := rM hL 0 64 41 rfl
theorem m_65 {h : aH} (hL : LayM h) : gR h 0 65 = 42 := rM hL 0 65 42 rfl
theorem m_66 {h : aH} (hL : LayM h) : gR h 0 66 = 43 := rM hL 0 66 43 rfl
theorem m_67 {h : aH} (hL : LayM h) : gR h 0 67 = 44 := rM hL 0 67 44 rfl
theorem m_68 {h : aH} (hL : LayM h) : gR h 0 68 = 45 := rM hL 0 68 45 rfl
theorem m_69 {h : aH} (hL : LayM h) : gR h 0 69 = 46 := rM hL 0 69 46 rfl
theorem mi_1 {i : Int32} : aIn SM 2 1 i ↔ vp_in i 220 := aIn_of (by decide) rfl
theorem mi_2 {i : Int32} : aIn SM 0 2 i ↔ vp_in i 256 := aIn_of (by decide) rfl
theorem mi_3 {i : Int32} : aIn SM 1 3 i ↔ vp_in i 256 := aIn_of (by decide) rfl
theorem mi_4 {i : Int32} : aIn SM 0 4 i ↔ vp_in i 256 := aIn_of (by decide) rfl
theorem mi_5 {i : Int32} : aIn SM 0 5 i ↔ vp_in i 12 := aIn_of (by decide) rfl
theorem mi_6 {i : Int32} : aIn SM 0 6 i ↔ vp_in i 12 := aIn_of (by decide) rfl
theorem mi_7 {i : Int32} : aIn SM 0 7 i ↔ vp_in i 12 := aIn_of (by decide) rfl
theorem mi_8 {i : Int32} : aIn SM 0 8 i ↔ vp_in i 12 := aIn_of (by decide) rfl
theorem mi_9 {i : Int32} : aIn SM 0 9 i ↔ vp_in i 12 := aIn_of (by decide) rfl
theorem mi_10 {i : Int32} : aIn SM 0 10 i ↔ vp_in i 8 := aIn_of (by decide) rfl
theorem mi_11 {i : Int32} : aIn SM 0 11 i ↔ vp_in i 8 := aIn_of (by decide) rfl
theorem mi_12 {i : Int32} : aIn SM 0 12 i ↔ vp_in i 14 := aIn_of (by decide) rfl
theorem mi_13 {i : Int32} : aIn SM 0 13 i ↔ vp_in i 14 := aIn_of (by decide) rfl
theorem mi_14 {i : Int32} : aIn SM 0 14 i ↔ vp_in i 14 := aIn_of (by decide) rfl
theorem mi_15 {i : Int32} : aIn SM 0 15 i ↔ vp_in i 14 := aIn_of (by decide) rfl
theorem mi_16 {i : Int32} : aIn SM 0 16 i ↔ vp_in i 200 := aIn_of (by decide) rfl
theorem mi_17 {i : Int32} : aIn SM 0 17 i ↔ vp_in i 200 := aIn_of (by decide) rfl
theorem mi_18 {i : Int32} : aIn SM 0 18 i ↔ vp_in i 14 := aIn_of (by decide) rfl
theorem mi_19 {i : Int32} : aIn SM 0 19 i ↔ vp_in i 14 := aIn_of (by decide) rfl
theorem mi_20 {i : Int32} : aIn SM 0 20 i ↔ vp_in i 14 := aIn_of (by decide) rfl
theorem mi_21 {i : Int32} : aIn SM 0 21 i ↔ vp_in i 14 := aIn_of (by decide) rfl
theorem mi_22 {i : Int32} : aIn SM 0 22 i ↔ vp_in i 200 := aIn_of (by decide) rfl
theorem mi_23 {i : Int32} : aIn SM 0 23 i ↔ vp_in i 200 := aIn_of (by decide) rfl
theorem mi_24 {i : Int32} : aIn SM 0 24 i ↔ vp_in i 240 := aIn_of (by decide) rfl
theorem mi_25 {i : Int32} : aIn SM 0 25 i ↔ vp_in i 240 := aIn_of (by decide) rfl
theorem mi_26 {i : Int32} : aIn SM 1 26 i ↔ vp_in i 240 := aIn_of (by decide) rfl
theorem mi_27 {i : Int32} : aIn SM 0 27 i ↔ vp_in i 8 := aIn_of (by decide) rfl
theorem mi_28 {i : Int32} : aIn SM 0 28 i ↔ vp_in i 256 := aIn_of (by decide) rfl
theorem mi_29 {i : Int32} : aIn SM 0 29 i ↔ vp_in i 512 := aIn_of (by decide) rfl
theorem mi_30 {i : Int32} : aIn SM 1 30 i ↔ vp_in i 512 := aIn_of (by decide) rfl
theorem mi_31 {i : Int32} : aIn SM 0 31 i ↔ vp_in i 512 := aIn_of (by decide) rfl
theorem mi_32 {i : Int32} : aIn SM 0 32 i ↔ vp_in i 16 := aIn_of (by decide) rfl
theorem mi_33 {i : Int32} : aIn SM 0 33 i ↔ vp_in i 2 := aIn_of (by decide) rfl
theorem mi_34 {i : Int32} : aIn SM 0 34 i ↔ vp_in i 40 := aIn_of (by decide) rfl
theorem mi_35 {i : Int32} : aIn SM 0 35 i ↔ vp_in i 10 := aIn_of (by decide) rfl
theorem mi_36 {i : Int32} : aIn SM 1 36 i ↔ vp_in i 256 := aIn_of (by decide) rfl
theorem mi_37 {i : Int32} : aIn SM 0 37 i ↔ vp_in i 12 := aIn_of (by decide) rfl
theorem mi_38 {i : Int32} : aIn SM 0 38 i ↔ vp_in i 4096 := aIn_of (by decide) rfl
theorem mi_39 {i : Int32} : aIn SM 0 39 i ↔ vp_in i 256 := aIn_of (by decide) rfl
theorem mi_40 {i : Int32} : aIn SM 0 40 i ↔ vp_in i 256 := aIn_of (by decide) rfl
theorem mi_41 {i : Int32} : aIn SM 0 41 i ↔ vp_in i 12 := aIn_of (by decide) rfl
theorem mi_42 {i : Int32} : aIn SM 0 42 i ↔ vp_in i 12 := aIn_of (by decide) rfl
theorem mi_43 {i : Int32} : aIn SM 0 43 i ↔ vp_in i 12 := aIn_of (by decide) rfl
theorem mi_44 {i : Int32} : aIn SM 0 44 i ↔ vp_in i 12 := aIn_of (by decide) rfl
theorem mi_45 {i : Int32} : aIn SM 0 45 i ↔ vp_in i 12 := aIn_of (by decide) rfl
theorem mi_46 {i : Int32} : aIn SM 0 46 i ↔ vp_in i 8 := aIn_of (by decide) rfl
theorem co_0 : aObj SC 0 9 flX10 ↔ True := aObj_of (by decide) rfl
theorem co_1 : aObj SC 1 1 flX2 ↔ True := aObj_of (by decide) rfl
theorem ca_2 {i : Int32} : aIn SC 0 2 i ↔ vp_in i 256 := aIn_of (by decide) rfl
theorem ca_3 {i : Int32} : aIn SC 0 3 i ↔ vp_in i 256 := aIn_of (by decide) rfl
theorem ca_4 {i : Int32} : aIn SC 0 4 i ↔ vp_in i 256 := aIn_of (by decide) rfl
theorem ca_5 {i : Int32} : aIn SC 0 5 i ↔ vp_in i 256 := aIn_of (by decide) rfl
theorem ca_6 {i : Int32} : aIn SC 0 6 i ↔ vp_in i 12 := aIn_of (by decide) rfl
theorem ca_7 {i : Int32} : aIn SC 0 7 i ↔ vp_in i 12 := aIn_of (by decide) rfl
theorem ca_8 {i : Int32} : aIn SC 0 8 i ↔ vp_in i 12 := aIn_of (by decide) rfl
theorem ca_9 {i : Int32} : aIn SC 0 9 i ↔ vp_in i 12 := aIn_of (by decide) rfl
theorem ca_10 {i : Int32} : aIn SC 0 10 i ↔ vp_in i 12 := aIn_of (by decide) rfl
theorem ca_11 {i : Int32} : aIn SC 0 11 i ↔ vp_in i 8 := aIn_of (by decide) rfl
theorem ca_12 {i : Int32} : aIn SC 0 12 i ↔ vp_in i 8 := aIn_of (by decide) rfl
theorem co_13 : aObj SC 13 1 flX2 ↔ True := aObj_of (by decide) rfl
theorem ca_14 {i : Int32} : aIn SC 0 14 i ↔ vp_in i 256 := aIn_of (by decide) rfl
theorem ca_15 {i : Int32} : aIn SC 0 15 i ↔ vp_in i 256 := aIn_of (by decide) rfl
theorem ca_16 {i : Int32} : aIn SC 0 16 i ↔ vp_in i 256 := aIn_of (by decide) rfl
theorem ca_17 {i : Int32} : aIn SC 0 17 i ↔ vp_in i 256 := aIn_of (by decide) rfl
theorem ca_18 {i : Int32} : aIn SC 0 18 i ↔ vp_in i 12 := aIn_of (by decide) rfl
theorem ca_19 {i : Int32} : aIn SC 0 19 i ↔ vp_in i 12 := aIn_of (by decide) rfl
theorem ca_20 {i : Int32} : aIn SC 0 20 i ↔ vp_in i 12 := aIn_of (by decide) rfl
theorem ca_21 {i : Int32} : aIn SC 0 21 i ↔ vp_in i 12 := aIn_of (by decide) rfl
theorem ca_22 {i : Int32} : aIn SC 0 22 i ↔ vp_in i 12 := aIn_of (by decide) rfl
theorem ca_23 {i : Int32} : aIn SC 0 23 i ↔ vp_in i 8 := aIn_of (by decide) rfl
theorem ca_24 {i : Int32} : aIn SC 0 24 i ↔ vp_in i 8 := aIn_of (by decide) rfl
theorem co_25 : aObj SC 25 1 flX2 ↔ True := aObj_of (by decide) rfl
theorem ca_26 {i : Int32} : aIn SC 0 26 i ↔ vp_in i 256 := aIn_of (by decide) rfl
theorem ca_27 {i : Int32} : aIn SC 0 27 i ↔ vp_in i 256 := aIn_of (by decide) rfl
theorem ca_28 {i : Int32} : aIn SC 0 28 i ↔ vp_in i 256 := aIn_of (by decide) rfl
theorem ca_29 {i : Int32} : aIn SC 0 29 i ↔ vp_in i 256 := aIn_of (by decide) rfl
theorem ca_30 {i : Int32} : aIn SC 0 30 i ↔ vp_in i 12 := aIn_of (by decide) rfl
theorem ca_31 {i : Int32} : aIn SC 0 31 i ↔ vp_in i 12 := aIn_of (by decide) rfl
theorem ca_32 {i : Int32} : aIn SC 0 32 i ↔ vp_in i 12 := aIn_of (by decide) rfl
theorem ca_33 {i : Int32} : aIn SC 0 33 i ↔ vp_in i 12 := aIn_of (by decide) rfl
theorem ca_34 {i : Int32} : aIn SC 0 34 i ↔ vp_in i 12 := aIn_of (by decide) rfl
theorem ca_35 {i : Int32} : aIn SC 0 35 i ↔ vp_in i 8 := aIn_of (by decide) rfl
theorem ca_36 {i : Int32} : aIn SC 0 36 i ↔ vp_in i 8 := aIn_of (by decide) rfl
theorem co_37 : aObj SC 37 7 flX8 ↔ True := aObj_of (by decide) rfl
theorem ca_38 {i : Int32} : aIn SC 0 38 i ↔ vp_in i 220 := aIn_of (by decide) rfl
theorem co_39 : aObj SC 39 8 flX9 ↔ True := aObj_of (by decide) rfl
theorem ca_40 {i : Int32} : aIn SC 0 40 i ↔ vp_in i 40 := aIn_of (by decide) rfl
theorem ca_41 {i : Int32} : aIn SC 0 41 i ↔ vp_in i 40 := aIn_of (by decide) rfl
theorem co_42 : aObj SC 42 4 flX5 ↔ True := aObj_of (by decide) rfl
theorem co_43 : aObj SC 43 2 flX3 ↔ True := aObj_of (by decide) rfl
theorem ca_44 {i : Int32} : aIn SC 0 44 i ↔ vp_in i 200 := aIn_of (by decide) rfl
theorem ca_45 {i : Int32} : aIn SC 0 45 i ↔ vp_in i 200 := aIn_of (by decide) rfl
theorem ca_46 {i : Int32} : aIn SC 0 46 i ↔ vp_in i 14 := aIn_of (by decide) rfl
theorem ca_47 {i : Int32} : aIn SC 0 47 i ↔ vp_in i 14 := aIn_of (by decide) rfl
theorem ca_48 {i : Int32} : aIn SC 0 48 i ↔ vp_in i 14 := aIn_of (by decide) rfl
theorem ca_49 {i : Int32} : aIn SC 0 49 i ↔ vp_in i 12 := aIn_of (by decide) rfl
theorem ca_50 {i : Int32} : aIn SC 0 50 i ↔ vp_in i 64 := aIn_of (by decide) rfl
theorem ca_51 {i : Int32} : aIn SC 0 51 i ↔ vp_in i 8 := aIn_of (by decide) rfl
theorem co_52 : aObj SC 52 3 flX4 ↔ True := aObj_of (by decide) rfl
theorem co_53 : aObj SC 53 2 flX3 ↔ True := aObj_of (by decide) rfl
theorem ca_54 {i : Int32} : aIn SC 0 54 i ↔ vp_in i 200 := aIn_of (by decide) rfl
theorem ca_55 {i : Int32} : aIn SC 0 55 i ↔ vp_in i 200 := aIn_of (by decide) rfl
theorem ca_56 {i : Int32} : aIn SC 0 56 i ↔ vp_in i 14 := aIn_of (by decide) rfl
theorem ca_57 {i : Int32} : aIn SC 0 57 i ↔ vp_in i 14 := aIn_of (by decide) rfl
theorem ca_58 {i : Int32} : aIn SC 0 58 i ↔ vp_in i 14 := aIn_of (by decide) rfl
theorem ca_59 {i : Int32} : aIn SC 0 59 i ↔ vp_in i 12 := aIn_of (by decide) rfl
theorem ca_60 {i : Int32} : aIn SC 0 60 i ↔ vp_in i 64 := aIn_of (by decide) rfl
theorem co_61 : aObj SC 61 6 flX7 ↔ True := aObj_of (by decide) rfl
theorem ca_62 {i : Int32} : aIn SC 0 62 i ↔ vp_in i 1024 := aIn_of (by decide) rfl
theorem ca_63 {i : Int32} : aIn SC 1 63 i ↔ vp_in i 10 := aIn_of (by decide) rfl
theorem ca_64 {i : Int32} : aIn SC 0 64 i ↔ vp_in i 100 := aIn_of (by decide) rfl
theorem ca_65 {i : Int32} : aIn SC 0 65 i ↔ vp_in i 10 := aIn_of (by decide) rfl
theorem co_66 : aObj SC 66 0 flX0 ↔ True := aObj_of (by decide) rfl
theorem ca_67 {i : Int32} : aIn SC 0 67 i ↔ vp_in i 8 := aIn_of (by decide) rfl
theorem ca_68 {i : Int32} : aIn SC 0 68 i ↔ vp_in i 8 := aIn_of (by decide) rfl
theorem ca_69 {i : Int32} : aIn SC 0 69 i ↔ vp_in i 8 := aIn_of (by decide) rfl
theorem ca_70 {i : Int32} : aIn SC 0 70 i ↔ vp_in i 8 := aIn_of (by decide) rfl
theorem ca_71 {i : Int32} : aIn SC 0 71 i ↔ vp_in i 256 := aIn_of (by decide) rfl
theorem ca_72 {i : Int32} : aIn SC 0 72 i ↔ vp_in i 256 := aIn_of (by decide) rfl
theorem co_73 : aObj SC 73 5 flX6 ↔ True := aObj_of (by decide) rfl
theorem ca_74 {i : Int32} : aIn SC 0 74 i ↔ vp_in i 256 := aIn_of (by decide) rfl
theorem ca_75 {i : Int32} : aIn SC 0 75 i ↔ vp_in i 256 := aIn_of (by decide) rfl
theorem ca_76 {i : Int32} : aIn SC 0 76 i ↔ vp_in i 256 := aIn_of (by decide) rfl
theorem ca_77 {i : Int32} : aIn SC 1 77 i ↔ vp_in i 256 := aIn_of (by decide) rfl
theorem c_0_0 {h : aH} {l d : Nat} (hL : LayC h l d) : gR h 0 0 = 1 := rC hL 0 0 1 (by decide) (by decide) rfl
theorem c_0_1 {h : aH} {l d : Nat} (hL : LayC h l d) : gR h 0 1 = 13 := rC hL 0 1 13 (by decide) (by decide) rfl
theorem c_0_2 {h : aH} {l d : Nat} (hL : LayC h l d) : gR h 0 2 = 25 := rC hL 0 2 25 (by decide) (by decide) rfl
theorem c_0_3 {h : aH} {l d : Nat} (hL : LayC h l d) : gR h 0 3 = 37 := rC hL 0 3 37 (by decide) (by decide) rfl
theorem c_0_4 {h : aH} {l d : Nat} (hL : LayC h l d) : gR h 0 4 = 39 := rC hL 0 4 39 (by decide) (by decide) rfl
theorem c_0_5 {h : aH} {l d : Nat} (hL : LayC h l d) : gR h 0 5 = 42 := rC hL 0 5 42 (by decide) (by decide) rfl
theorem c_0_6 {h : aH} {l d : Nat} (hL : LayC h l d) : gR h 0 6 = 52 := rC hL 0 6 52 (by decide) (by decide) rfl
theorem c_0_7 {h : aH} {l d : Nat} (hL : LayC h l d) : gR h 0 7 = 61 := rC hL 0 7 61 (by decide) (by decide) rfl
theorem c_0_8 {h : aH} {l d : Nat} (hL : LayC h l d) : gR h 0 8 = 66 := rC hL 0 8 66 (by decide) (by decide) rfl
theorem c_0_9 {h : aH} {l d : Nat} (hL : LayC h l d) : gR h 0 9 = 73 := rC hL 0 9 73 (by decide) (by decide) rfl
theorem c_1_0 {h : aH} {l d : Nat} (hL : LayC h l d) : gR h 1 0 = 2 := rC hL 1 0 2 (by decide) (by decide) rfl
theorem c_1_1 {h : aH} {l d : Nat} (hL : LayC h l d) : gR h 1 1 = 3 := rC hL 1 1 3 (by decide) (by decide) rfl
theorem c_1_2 {h : aH} {l d : Nat} (hL : LayC h l d) : gR h 1 2 = 4 := rC hL 1 2 4 (by decide) (by decide) rfl
theorem c_1_3 {h : aH} {l d : Nat} (hL : LayC h l d) : gR h 1 3 = 5 := rC hL 1 3 5 (by decide) (by decide) rfl
theorem c_1_4 {h : aH} {l d : Nat} (hL : LayC h l d) : gR h 1 4 = 6 := rC hL 1 4 6 (by decide) (by decide) rfl
theorem c_1_5 {h : aH} {l d : Nat} (hL : LayC h l d) : gR h 1 5 = 7 := rC hL 1 5 7 (by decide) (by decide) rfl
theorem c_1_6 {h : aH} {l d : Nat} (hL : LayC h l d) : gR h 1 6 = 8 := rC hL 1 6 8 (by decide) (by decide) rfl
theorem c_1_7 {h : aH} {l d : Nat} (hL : LayC h l d) : gR h 1 7 = 9 := rC hL 1 7 9 (by decide) (by decide) rfl
theorem c_1_8 {h : aH} {l d : Nat} (hL : LayC h l d) : gR h 1 8 = 10 := rC hL 1 8 10 (by decide) (by decide) rfl
theorem c_1_10 {h : aH} {l d : Nat} (hL : LayC h l d) : gR h 1 10 = 11 := rC hL 1 10 11 (by decide) (by decide) rfl
theorem c_1_11 {h : aH} {l d : Nat} (hL : LayC h l d) : gR h 1 11 = 12 := rC hL 1 11 12 (by decide) (by decide) rfl
theorem c_13_0 {h : aH} {l d : Nat} (hL : LayC h l d) : gR h 13 0 = 14 := rC hL 13 0 14 (by decide) (by decide) rfl
theorem c_13_1 {h : aH} {l d : Nat} (hL : LayC h l d) : gR h 13 1 = 15 := rC hL 13 1 15 (by decide) (by decide) rfl
theorem c_13_2 {h : aH} {l d : Nat} (hL : LayC h l d) : gR h 13 2 = 16 := rC hL 13 2 16 (by decide) (by decide) rfl
theorem c_13_3 {h : aH} {l d : Nat} (hL : LayC h l d) : gR h 13 3 = 17 := rC hL 13 3 17 (by decide) (by decide) rfl
theorem c_13_4 {h : aH} {l d : Nat} (hL : LayC h l d) : gR h 13 4 = 18 := rC hL 13 4 18 (by decide) (by decide) rfl
theorem c_13_5 {h : aH} {l d : Nat} (hL : LayC h l d) : gR h 13 5 = 19 := rC hL 13 5 19 (by decide) (by decide) rfl
theorem c_13_6 {h : aH} {l d : Nat} (hL : LayC h l d) : gR h 13 6 = 20 := rC hL 13 6 20 (by decide) (by decide) rfl
theorem c_13_7 {h : aH} {l d : Nat} (hL : LayC h l d) : gR h 13 7 = 21 := rC hL 13 7 21 (by decide) (by decide) rfl
theorem c_13_8 {h : aH} {l d : Nat} (hL : LayC h l d) : gR h 13 8 = 22 := rC hL 13 8 22 (by decide) (by decide) rfl
theorem c_13_10 {h : aH} {l d : Nat} (hL : LayC h l d) : gR h 13 10 = 23 := rC hL 13 10 23 (by decide) (by decide) rfl
theorem c_13_11 {h : aH} {l d : Nat} (hL : LayC h l d) : gR h 13 11 = 24 := rC hL 13 11 24 (by decide) (by decide) rfl
theorem c_25_0 {h : aH} {l d : Nat} (hL : LayC h l d) : gR h 25 0 = 26 := rC hL 25 0 26 (by decide) (by decide) rfl
theorem c_25_1 {h : aH} {l d : Nat} (hL : LayC h l d) : gR h 25 1 = 27 := rC hL 25 1 27 (by decide) (by decide) rfl
theorem c_25_2 {h : aH} {l d : Nat} (hL : LayC h l d) : gR h 25 2 = 28 := rC hL 25 2 28 (by decide) (by decide) rfl
theorem c_25_3 {h : aH} {l d : Nat} (hL : LayC h l d) : gR h 25 3 = 29 := rC hL 25 3 29 (by decide) (by decide) rfl
theorem c_25_4 {h : aH} {l d : Nat} (hL : LayC h l d) : gR h 25 4 = 30 := rC hL 25 4 30 (by decide) (by decide) rfl
theorem c_25_5 {h : aH} {l d : Nat} (hL : LayC h l d) : gR h 25 5 = 31 := rC hL 25 5 31 (by decide) (by decide) rfl
theorem c_25_6 {h : aH} {l d : Nat} (hL : LayC h l d) : gR h 25 6 = 32 := rC hL 25 6 32 (by decide) (by decide) rfl
theorem c_25_7 {h : aH} {l d : Nat} (hL : LayC h l d) : gR h 25 7 = 33 := rC hL 25 7 33 (by decide) (by decide) rfl
theorem c_25_8 {h : aH} {l d : Nat} (hL : LayC h l d) : gR h 25 8 = 34 := rC hL 25 8 34 (by decide) (by decide) rfl
theorem c_25_10 {h : aH} {l d : Nat} (hL : LayC h l d) : gR h 25 10 = 35 := rC hL 25 10 35 (by decide) (by decide) rfl
theorem c_25_11 {h : aH} {l d : Nat} (hL : LayC h l d) : gR h 25 11 = 36 := rC hL 25 11 36 (by decide) (by decide) rfl
theorem c_37_0 {h : aH} {l d : Nat} (hL : LayC h l d) : gR h 37 0 = 38 := rC hL 37 0 38 (by decide) (by decide) rfl
theorem c_39_0 {h : aH} {l d : Nat} (hL : LayC h l d) : gR h 39 0 = 40 := rC hL 39 0 40 (by decide) (by decide) rfl
theorem c_39_1 {h : aH} {l d : Nat} (hL : LayC h l d) : gR h 39 1 = 41 := rC hL 39 1 41 (by decide) (by decide) rfl
theorem c_42_1 {h : aH} {l d : Nat} (hL : LayC h l d) : gR h 42 1 = 51 := rC hL 42 1 51 (by decide) (by decide) rfl
theorem c_43_0 {h : aH} {l d : Nat} (hL : LayC h l d) : gR h 43 0 = 44 := rC hL 43 0 44 (by decide) (by decide) rfl
theorem c_43_1 {h : aH} {l d : Nat} (hL : LayC h l d) : gR h 43 1 = 45 := rC hL 43 1 45 (by decide) (by decide) rfl
theorem c_43_3 {h : aH} {l d : Nat} (hL : LayC h l d) : gR h 43 3 = 46 := rC hL 43 3 46 (by decide) (by decide) rfl
theorem c_43_4 {h : aH} {l d : Nat} (hL : LayC h l d) : gR h 43 4 = 47 := rC hL 43 4 47 (by decide) (by decide) rfl
theorem c_43_5 {h : aH} {l d : Nat} (hL : LayC h l d) : gR h 43 5 = 48 := rC hL 43 5 48 (by decide) (by decide) rfl
theorem c_43_7 {h : aH} {l d : Nat} (hL : LayC h l d) : gR h 43 7 = 49 := rC hL 43 7 49 (by decide) (by decide) rfl
theorem c_43_8 {h : aH} {l d : Nat} (hL : LayC h l d) : gR h 43 8 = 50 := rC hL 43 8 50 (by decide) (by decide) rfl
theorem c_52_0 {h : aH} {l d : Nat} (hL : LayC h l d) : gR h 52 0 = 37 := rC hL 52 0 37 (by decide) (by decide) rfl
theorem c_53_0 {h : aH} {l d : Nat} (hL : LayC h l d) : gR h 53 0 = 54 := rC hL 53 0 54 (by decide) (by decide) rfl
theorem c_53_1 {h : aH} {l d : Nat} (hL : LayC h l d) : gR h 53 1 = 55 := rC hL 53 1 55 (by decide) (by decide) rfl
theorem c_53_3 {h : aH} {l d : Nat} (hL : LayC h l d) : gR h 53 3 = 56 := rC hL 53 3 56 (by decide) (by decide) rfl
theorem c_53_4 {h : aH} {l d : Nat} (hL : LayC h l d) : gR h 53 4 = 57 := rC hL 53 4 57 (by decide) (by decide) rfl
theorem c_53_5 {h : aH} {l d : Nat} (hL : LayC h l d) : gR h 53 5 = 58 := rC hL 53 5 58 (by decide) (by decide) rfl
theorem c_53_7 {h : aH} {l d : Nat} (hL : LayC h l d) : gR h 53 7 = 59 := rC hL 53 7 59 (by decide) (by decide) rfl
theorem c_53_8 {h : aH} {l d : Nat} (hL : LayC h l d) : gR h 53 8 = 60 := rC hL 53 8 60 (by decide) (by decide) rfl
theorem c_61_0 {h : aH} {l d : Nat} (hL : LayC h l d) : gR h 61 0 = 62 := rC hL 61 0 62 (by decide) (by decide) rfl
theorem c_61_1 {h : aH} {l d : Nat} (hL : LayC h l d) : gR h 61 1 = 63 := rC hL 61 1 63 (by decide) (by decide) rfl
theorem c_61_2 {h : aH} {l d : Nat} (hL : LayC h l d) : gR h 61 2 = 64 := rC hL 61 2 64 (by decide) (by decide) rfl
theorem c_61_3 {h : aH} {l d : Nat} (hL : LayC h l d) : gR h 61 3 = 65 := rC hL 61 3 65 (by decide) (by decide) rfl
theorem c_66_0 {h : aH} {l d : Nat} (hL : LayC h l d) : gR h 66 0 = 67 := rC hL 66 0 67 (by decide) (by decide) rfl
theorem c_66_1 {h : aH} {l d : Nat} (hL : LayC h l d) : gR h 66 1 = 68 := rC hL 66 1 68 (by decide) (by decide) rfl
theorem c_66_2 {h : aH} {l d : Nat} (hL : LayC h l d) : gR h 66 2 = 69 := rC hL 66 2 69 (by decide) (by decide) rfl
theorem c_66_3 {h : aH} {l d : Nat} (hL : LayC h l d) : gR h 66 3 = 70 := rC hL 66 3 70 (by decide) (by decide) rfl
theorem c_66_5 {h : aH} {l d : Nat} (hL : LayC h l d) : gR h 66 5 = 71 := rC hL 66 5 71 (by decide) (by decide) rfl
theorem c_66_6 {h : aH} {l d : Nat} (hL : LayC h l d) : gR h 66 6 = 72 := rC hL 66 6 72 (by decide) (by decide) rfl
theorem c_73_0 {h : aH} {l d : Nat} (hL : LayC h l d) : gR h 73 0 = 74 := rC hL 73 0 74 (by decide) (by decide) rfl
theorem c_73_1 {h : aH} {l d : Nat} (hL : LayC h l d) : gR h 73 1 = 75 := rC hL 73 1 75 (by decide) (by decide) rfl
theorem c_73_2 {h : aH} {l d : Nat} (hL : LayC h l d) : gR h 73 2 = 76 := rC hL 73 2 76 (by decide) (by decide) rfl
theorem c_73_3 {h : aH} {l d : Nat} (hL : LayC h l d) : gR h 73 3 = 77 := rC hL 73 3 77 (by decide) (by decide) rfl
theorem c_42_0 {h : aH} {l d : Nat} (hL : LayC h l d) : gR h 42 0 = l := hL.2.1
theorem c_52_1 {h : aH} {l d : Nat} (hL : LayC h l d) : gR h 52 1 = d := hL.2.2.1
def isLake (k : Nat) : Prop := k = 1 ∨ k = 13 ∨ k = 25
theorem lk_o {k : Nat} (hk : isLake k) : aObj SC k 1 flX2 ↔ True := by rcases hk with rfl | rfl | rfl <;> exact aObj_of (by decide) rfl
theorem lk_0 {h : aH} {l d k : Nat} (hk : isLake k) (hL : LayC h l d) : gR h k 0 = k + 1 := by rcases hk with rfl | rfl | rfl <;> exact rC hL _ 0 _ (by decide) (by decide) rfl
theorem li_1 {k : Nat} {i : Int32} (hk : isLake k) : aIn SC 0 (k + 1) i ↔ vp_in i 256 := by rcases hk with rfl | rfl | rfl <;> exact aIn_of (by decide) rfl
theorem lk_1 {h : aH} {l d k : Nat} (hk : isLake k) (hL : LayC h l d) : gR h k 1 = k + 2 := by rcases hk with rfl | rfl | rfl <;> exact rC hL _ 1 _ (by decide) (by decide) rfl
theorem li_2 {k : Nat} {i : Int32} (hk : isLake k) : aIn SC 0 (k + 2) i ↔ vp_in i 256 := by rcases hk with rfl | rfl | rfl <;> exact aIn_of (by decide) rfl
theorem lk_2 {h : aH} {l d k : Nat} (hk : isLake k) (hL : LayC h l d) : gR h k 2 = k + 3 := by rcases hk with rfl | rfl | rfl <;> exact rC hL _ 2 _ (by decide) (by decide) rfl
theorem li_3 {k : Nat} {i : Int32} (hk : isLake k) : aIn SC 0 (k + 3) i ↔ vp_in i 256 := by rcases hk with rfl | rfl | rfl <;> exact aIn_of (by decide) rfl
theorem lk_3 {h : aH} {l d k : Nat} (hk : isLake k) (hL : LayC h l d) : gR h k 3 = k + 4 := by rcases hk with rfl | rfl | rfl <;> exact rC hL _ 3 _ (by decide) (by decide) rfl
theorem li_4 {k : Nat} {i : Int32} (hk : isLake k) : aIn SC 0 (k + 4) i ↔ vp_in i 256 := by rcases hk with rfl | rfl | rfl <;> exact aIn_of (by decide) rfl
theorem lk_4 {h : aH} {l d k : Nat} (hk : isLake k) (hL : LayC h l d) : gR h k 4 = k + 5 := by rcases hk with rfl | rfl | rfl <;> exact rC hL _ 4 _ (by decide) (by decide) rfl
theorem li_5 {k : Nat} {i : Int32} (hk : isLake k) : aIn SC 0 (k + 5) i ↔ vp_in i 12 := by rcases hk with rfl | rfl | rfl <;> exact aIn_of (by decide) rfl
theorem lk_5 {h : aH} {l d k : Nat} (hk : isLake k) (hL : LayC h l d) : gR h k 5 = k + 6 := by rcases hk with rfl | rfl | rfl <;> exact rC hL _ 5 _ (by decide) (by decide) rfl
theorem li_6 {k : Nat} {i : Int32} (hk : isLake k) : aIn SC 0 (k + 6) i ↔ vp_in i 12 := by rcases hk with rfl | rfl | rfl <;> exact aIn_of (by decide) rfl
theorem lk_6 {h : aH} {l d k : Nat} (hk : isLake k) (hL : LayC h l d) : gR h k 6 = k + 7 := by rcases hk with rfl | rfl | rfl <;> exact rC hL _ 6 _ (by decide) (by decide) rfl
theorem li_7 {k : Nat} {i : Int32} (hk : isLake k) : aIn SC 0 (k + 7) i ↔ vp_in i 12 := by rcases hk with rfl | rfl | rfl <;> exact aIn_of (by decide) rfl
theorem lk_7 {h : aH} {l d k : Nat} (hk : isLake k) (hL : LayC h l d) : gR h k 7 = k + 8 := by rcases hk with rfl | rfl | rfl <;> exact rC hL _ 7 _ (by decide) (by decide) rfl
theorem li_8 {k : Nat} {i : Int32} (hk : isLake k) : aIn SC 0 (k + 8) i ↔ vp_in i 12 := by rcases hk with rfl | rfl | rfl <;> exact aIn_of (by decide) rfl
theorem lk_8 {h : aH} {l d k : Nat} (hk : isLake k) (hL : LayC h l d) : gR h k 8 = k + 9 := by rcases hk with rfl | rfl | rfl <;> exact rC hL _ 8 _ (by decide) (by decide) rfl
theorem li_9 {k : Nat} {i : Int32} (hk : isLake k) : aIn SC 0 (k + 9) i ↔ vp_in i 12 := by rcases hk with rfl | rfl | rfl <;> exact aIn_of (by decide) rfl
theorem lk_10 {h : aH} {l d k : Nat} (hk : isLake k) (hL : LayC h l d) : gR h k 10 = k + 10 := by rcases hk with rfl | rfl | rfl <;> exact rC hL _ 10 _ (by decide) (by decide) rfl
theorem li_10 {k : Nat} {i : Int32} (hk : isLake k) : aIn SC 0 (k + 10) i ↔ vp_in i 8 := by rcases hk with rfl | rfl | rfl <;> exact aIn_of (by decide) rfl
theorem lk_11 {h : aH} {l d k : Nat} (hk : isLake k) (hL : LayC h l d) : gR h k 11 = k + 11 := by rcases hk with rfl | rfl | rfl <;> exact rC hL _ 11 _ (by decide) (by decide) rfl
theorem li_11 {k : Nat} {i : Int32} (hk : isLake k) : aIn SC 0 (k + 11) i ↔ vp_in i 8 := by rcases hk with rfl | rfl | rfl <;> exact aIn_of (by decide) rfl
theorem vp_lt {n N : Nat} (h : n < N) (hN : N < 2 ^ 31) : vp_in (nI n) N ↔ True := ⟨fun _ => trivial, fun _ => vp_in_nI h hN⟩
theorem cl {n : Nat} (h : n < 2 ^ 31) : (nI n).toNatClampNeg = n := nI_clamp h
theorem sp_within {S : aS} {a b c : Int32} {h : aH} {Q : Int32 → aH → Prop} (h1 : b ≤ a → a ≤ c → Q 1 h) (h0 : ¬ (b ≤ a ∧ a ≤ c) → Q 0 h) : f_X10_within S a b c h Q :=
  aIf_i (fun c1 => h0 (fun z => absurd c1 (Int32.not_lt.mpr z.1))) (fun c1 => aIf_i (fun c2 => h0 (fun z => absurd c2 (Int32.not_lt.mpr z.2))) (fun c2 => h1 (Int32.not_lt.mp c1) (Int32.not_lt.mp c2)))
theorem sp_has {S : aS} {x y : Int32} {h : aH} {Q : Int32 → aH → Prop} (h1 : ∀ m n : Nat, m < 16 → n < 16 → x = nI m → y = nI n → Q 1 h) (h0 : ¬ (vp_in x 16 ∧ vp_in y 16) → Q 0 h) : f_X1_has S x y h Q := by
  have key : ∀ z : Int32, ¬ z < 0 → ¬ (16 : Int32) ≤ z → ∃ n : Nat, n < 16 ∧ z = nI n := fun z a b => by
    rcases pk_ix z (n := 16) (by decide) with c | c | c
    · exact absurd c a
    · exact absurd c b
    · exact c
  have no : ∀ z : Int32, vp_in z 16 → ¬ z < 0 ∧ ¬ (16 : Int32) ≤ z := fun z a => by
    obtain ⟨j, hj, rfl⟩ := vp_in_of a (by decide)
    exact ⟨nI_pos (by omega), nI_ge (a := j) (b := 16) hj (by decide)⟩
  refine aIf_i (fun c1 => h0 (fun z => (no _ z.1).1 c1)) (fun c1 => aIf_i (fun c2 => h0 (fun z => (no _ z.1).2 c2)) (fun c2 => aIf_i (fun c3 => h0 (fun z => (no _ z.2).1 c3)) (fun c3 => aIf_i (fun c4 => h0 (fun z => (no _ z.2).2 c4)) (fun c4 => ?_))))
  obtain ⟨m, hm, e1⟩ := key x c1 c2
  obtain ⟨n, hn, e2⟩ := key y c3 c4
  exact h1 m n hm hn e1 e2
theorem lg_lt {x y : Int64} : lg_cmp x y < 0 ↔ x < y := by
  unfold lg_cmp
  by_cases c1 : x > y
  · rw [if_pos c1]
    exact ⟨fun h => absurd h (by decide), fun h => absurd (Int64.lt_trans c1 h) Int64.lt_irrefl⟩
  · rw [if_neg c1]
    by_cases c2 : x = y
    · rw [if_pos c2]
      exact ⟨fun h => absurd h (by decide), fun h => absurd (c2 ▸ h) Int64.lt_irrefl⟩
    · rw [if_neg c2]
      refine ⟨fun _ => ?_, fun _ => by decide⟩
      rw [Int64.lt_iff_toInt_lt]
      have h1 : ¬ y.toInt < x.toInt := fun z => c1 (Int64.lt_iff_toInt_lt.mpr z)
      have h2 : x.toInt ≠ y.toInt := fun z => c2 (Int64.toInt_inj.mp z)
      omega
theorem lg_gt {x y : Int64} : 0 < lg_cmp x y ↔ y < x := by
  unfold lg_cmp
  by_cases c1 : x > y
  · rw [if_pos c1]
    exact ⟨fun _ => c1, fun _ => by decide⟩
  · rw [if_neg c1]
    by_cases c2 : x = y
    · rw [if_pos c2]
      exact ⟨fun h => absurd h (by decide), fun h => absurd h c1⟩
    · rw [if_neg c2]
      exact ⟨fun h => absurd h (by decide), fun h => absurd h c1⟩
theorem sp_lies {S : aS} {a b c : Int32} {h : aH} {Q : Int32 → aH → Prop} (h1 : b ≤ a → a ≤ c → Q 1 h) (h0 : ¬ (b ≤ a ∧ a ≤ c) → Q 0 h) : f_X11_lies S a.toInt64 b.toInt64 c.toInt64 h Q := by
  have lt : ∀ x y : Int32, x.toInt64 < y.toInt64 ↔ x < y := fun x y => by
    rw [Int64.lt_iff_toInt_lt, Int32.lt_iff_toInt_lt, Int32.toInt_toInt64, Int32.toInt_toInt64]
  refine aIf_i (fun c1 => h0 (fun z => ?_)) (fun c1 => aIf_i (fun c2 => h0 (fun z => ?_)) (fun c2 => ?_))
  · rw [lg_lt, lt] at c1
    exact absurd c1 (Int32.not_lt.mpr z.1)
  · rw [lg_gt, lt] at c2
    exact absurd c2 (Int32.not_lt.mpr z.2)
  · rw [lg_lt, lt] at c1
    rw [lg_gt, lt] at c2
    exact h1 (Int32.not_lt.mp c1) (Int32.not_lt.mp c2)
