def fE (S : aS) : Nat → Nat → Int32 → aH → (aH → Prop) → Prop
  | 0 => fun _ _ _ _ => False
  | n + 1 => fun k a h Q => f_X4_expression (fun k a h Q => f_X4_factor (fE S n) S k a h Q) S k a h Q
theorem am_fE {l : Launch} {S : aS} {G : aG} : ∀ (n d : Nat) {k : Nat} {a1 : Int32} {h : aH} {Q : aH → Prop}, aObj S k 3 flX4 → fE S n k a1 h Q → AMv l S G (d + 2 * n + 8) M_X4_expression [.ref (G.2.1 k), .int a1] h Q := by
  intro n
  induction n with
  | zero => intro d k a1 h Q o H; exact False.elim H
  | succ n ih =>
    intro d k a1 h Q o H
    have e : d + 2 * (n + 1) + 8 = (d + 2 * n + 9) + 1 := by omega
    rw [e]
    exact am_X4_expression (d + 2 * n + 9) (F_X4_factor := fun k a h Q => f_X4_factor (fE S n) S k a h Q) (fun o H => am_X4_factor (d + 2 * n) (fun o H => ih d o H) o H) o H
def fP (S : aS) : Nat → Bool → Nat → Int32 → aH → (aH → Prop) → Prop
  | 0 => fun _ _ _ _ _ => False
  | n + 1 => fun b k a h Q => match b with
    | true => f_X4_piece (fP S n true) (fP S n false) (fE S 8) S k a h Q
    | false => f_X4_condition (fP S n true) S k a h Q
theorem am_fP {l : Launch} {S : aS} {G : aG} : ∀ (n d : Nat) {k : Nat} {a1 : Int32} {h : aH} {Q : aH → Prop}, aObj S k 3 flX4 → (fP S n true k a1 h Q → AMv l S G (d + 2 * n + 24) M_X4_piece [.ref (G.2.1 k), .int a1] h Q) ∧ (fP S n false k a1 h Q → AMv l S G (d + 2 * n + 24) M_X4_condition [.ref (G.2.1 k), .int a1] h Q) := by
  intro n
  induction n with
  | zero => intro d k a1 h Q o; exact ⟨fun H => False.elim H, fun H => False.elim H⟩
  | succ n ih =>
    intro d k a1 h Q o
    have e1 : d + 1 + 2 * n + 24 = (d + 2 * n + 24) + 1 := by omega
    have e2 : d + 2 * (n + 1) + 24 = (d + 2 * n + 24) + 2 := by omega
    have e3 : d + 2 * n + 1 + 2 * 8 + 8 = (d + 2 * n + 24) + 1 := by omega
    rw [e2]
    refine ⟨fun H => am_X4_piece (d + 2 * n + 24) (fun o H => ?_) (fun o H => ?_) (fun o H => ?_) o H, fun H => am_X4_condition (d + 2 * n + 24 + 1) (fun o H => ?_) o H⟩
    · rw [← e1]; exact (ih (d + 1) o).1 H
    · rw [← e1]; exact (ih (d + 1) o).2 H
    · rw [← e3]; exact am_fE 8 (d + 2 * n + 1) o H
    · rw [← e1]; exact (ih (d + 1) o).1 H
abbrev fR (S : aS) : Nat → Int32 → aH → (Int32 → aH → Prop) → Prop := fun k a h Q => f_X4_read (fE S 8) (fP S 16 false) S k a h Q
theorem am_fR {l : Launch} {S : aS} {G : aG} (d : Nat) {k : Nat} {a1 : Int32} {h : aH} {Q : Int32 → aH → Prop} (o : aObj S k 3 flX4) (H : fR S k a1 h Q) : AMi l S G (d + 57) M_X4_read [.ref (G.2.1 k), .int a1] h Q :=
  am_X4_read (d + 55) (fun o H => by have := am_fE (l := l) (G := G) 8 (d + 32) o H; exact this) (fun o H => by have := (am_fP (l := l) (G := G) 16 d o).2 H; exact this) o H
theorem am_lawR {l : Launch} {S : aS} {G : aG} (d : Nat) {k : Nat} {a1 : Int32} {h : aH} {Q : Int32 → aH → Prop} (o : aObj S k 9 flX10) (H : f_X10_law (fR S) S k a1 h Q) : AMi l S G (d + 58) M_X10_law [.ref (G.2.1 k), .int a1] h Q :=
  am_X10_law (d + 57) (fun o H => am_fR d o H) o H
theorem l_in {i j L : Nat} {v : Int32} (hv : v = nI j) (h : i + j < L) (hL : L ≤ 3584) : vp_in (nI i + v) L := by
  rw [hv, nI_add]
  exact vp_in_nI h (by omega)

def st_ice (Inv : aH → aH → Prop) (SC SM : aS) : Prop := ∀ (hc hm : aH) (a1 a2 a3 : Int32), Inv hc hm → f_X10_ice SC 0 a1 a2 a3 hc (fun r hc' => f_X11_ice SM 0 a1 a2 a3 hm (fun r' hm' => r = r' ∧ Inv hc' hm'))
set_option maxHeartbeats 4000000 in
set_option maxRecDepth 100000 in
theorem lc_ice {l : Launch} {SC SM : aS} {D : va_G} {cA : Nat → ClassId} {adC adM : Nat → Nat} {b L : Nat} {xs : Nat → Int32} {cN sN : Nat} {Inv : aH → aH → Prop} (hcN : cN ≤ 600000) (hsN : sN ≤ 7302250) (oC : aObj SC 0 9 flX10) (oM : aObj SM 0 10 flX11) (st : st_ice Inv SC SM) (hL : L ≤ 3584) {i : Nat} (hi : i + 7 ≤ L) {hc hm : aH} (hI : Inv hc hm) (hg : ∀ hc hm, Inv hc hm → LW l SC SM D cA adC adM b L xs cN sN 1032 [(0, .ref b), (1, .ref (adC 0)), (2, .ref (adM 0)), (3, .int (nI i))] [] hc hm) : LW l SC SM D cA adC adM b L xs cN sN 152 [(0, .ref b), (1, .ref (adC 0)), (2, .ref (adM 0)), (3, .int (nI i))] [] hc hm := by
  refine lw_aload_n dL_law_152 rfl 1 rfl ?_
  refine lw_aload_n dL_law_153 rfl 0 rfl ?_
  refine lw_iload_n dL_law_154 rfl 3 rfl ?_
  refine lw_iconst (v := 1) dL_law_155 (by decide) ?_
  refine lw_iadd dL_law_156 ?_
  refine lw_sld (l_in (j := 1) rfl (by omega) hL) dL_law_157 ?_
  refine lw_aload_n dL_law_158 rfl 0 rfl ?_
  refine lw_iload_n dL_law_159 rfl 3 rfl ?_
  refine lw_iconst (v := 2) dL_law_160 (by decide) ?_
  refine lw_iadd dL_law_161 ?_
  refine lw_sld (l_in (j := 2) rfl (by omega) hL) dL_law_162 ?_
  refine lw_aload_n dL_law_163 rfl 0 rfl ?_
  refine lw_iload_n dL_law_164 rfl 3 rfl ?_
  refine lw_iconst (v := 3) dL_law_165 (by decide) ?_
  refine lw_iadd dL_law_166 ?_
  refine lw_sld (l_in (j := 3) rfl (by omega) hL) dL_law_167 ?_
  refine lw_callC (k := 0) (As := [.int (xs (nI i + 1).toNatClampNeg), .int (xs (nI i + 2).toNatClampNeg), .int (xs (nI i + 3).toNatClampNeg)]) (rest := []) (am_X10_ice 0 oC (st _ _ _ _ _ hI)) (by decide) hcN hsN mf_X10_ice wd_335 wd_336 wd_337 cf_X10 oC rfl rfl (Nat.le_of_ble_eq_true rfl) dL_law_168 (fun r hc1 H => ?_)
  refine lw_aload_n dL_law_171 rfl 2 rfl ?_
  refine lw_aload_n dL_law_172 rfl 0 rfl ?_
  refine lw_iload_n dL_law_173 rfl 3 rfl ?_
  refine lw_iconst (v := 1) dL_law_174 (by decide) ?_
  refine lw_iadd dL_law_175 ?_
  refine lw_sld (l_in (j := 1) rfl (by omega) hL) dL_law_176 ?_
  refine lw_aload_n dL_law_177 rfl 0 rfl ?_
  refine lw_iload_n dL_law_178 rfl 3 rfl ?_
  refine lw_iconst (v := 2) dL_law_179 (by decide) ?_
  refine lw_iadd dL_law_180 ?_
  refine lw_sld (l_in (j := 2) rfl (by omega) hL) dL_law_181 ?_
  refine lw_aload_n dL_law_182 rfl 0 rfl ?_
  refine lw_iload_n dL_law_183 rfl 3 rfl ?_
  refine lw_iconst (v := 3) dL_law_184 (by decide) ?_
  refine lw_iadd dL_law_185 ?_
  refine lw_sld (l_in (j := 3) rfl (by omega) hL) dL_law_186 ?_
  refine lw_callM (k := 0) (As := [.int (xs (nI i + 1).toNatClampNeg), .int (xs (nI i + 2).toNatClampNeg), .int (xs (nI i + 3).toNatClampNeg)]) (rest := [.int r]) (am_X11_ice 0 oM H) (by decide) hcN hsN mf_X11_ice wd_1247 wd_1248 wd_1249 cf_X11 oM rfl rfl (Nat.le_of_ble_eq_true rfl) dL_law_187 (fun r1 hm1 H => ?_)
  refine lw_icmp_eq (tgt := 1032) dL_law_190 (by decide) H.1 ?_
  exact hg _ _ H.2
def st_feed (Inv : aH → aH → Prop) (SC SM : aS) : Prop := ∀ (hc hm : aH) (a1 a2 a3 a4 a5 : Int32), Inv hc hm → f_X10_feed SC 0 a1 a2 a3 a4 a5 hc (fun r hc' => f_X11_feed SM 0 a1 a2 a3 a4 a5 hm (fun r' hm' => r = r' ∧ Inv hc' hm'))
set_option maxHeartbeats 4000000 in
set_option maxRecDepth 100000 in
theorem lc_feed {l : Launch} {SC SM : aS} {D : va_G} {cA : Nat → ClassId} {adC adM : Nat → Nat} {b L : Nat} {xs : Nat → Int32} {cN sN : Nat} {Inv : aH → aH → Prop} (hcN : cN ≤ 600000) (hsN : sN ≤ 7302250) (oC : aObj SC 0 9 flX10) (oM : aObj SM 0 10 flX11) (st : st_feed Inv SC SM) (hL : L ≤ 3584) {i : Nat} (hi : i + 7 ≤ L) {hc hm : aH} (hI : Inv hc hm) (hg : ∀ hc hm, Inv hc hm → LW l SC SM D cA adC adM b L xs cN sN 1032 [(0, .ref b), (1, .ref (adC 0)), (2, .ref (adM 0)), (3, .int (nI i))] [] hc hm) : LW l SC SM D cA adC adM b L xs cN sN 195 [(0, .ref b), (1, .ref (adC 0)), (2, .ref (adM 0)), (3, .int (nI i))] [] hc hm := by
  refine lw_aload_n dL_law_195 rfl 1 rfl ?_
  refine lw_aload_n dL_law_196 rfl 0 rfl ?_
  refine lw_iload_n dL_law_197 rfl 3 rfl ?_
  refine lw_iconst (v := 1) dL_law_198 (by decide) ?_
  refine lw_iadd dL_law_199 ?_
  refine lw_sld (l_in (j := 1) rfl (by omega) hL) dL_law_200 ?_
  refine lw_aload_n dL_law_201 rfl 0 rfl ?_
  refine lw_iload_n dL_law_202 rfl 3 rfl ?_
  refine lw_iconst (v := 2) dL_law_203 (by decide) ?_
  refine lw_iadd dL_law_204 ?_
  refine lw_sld (l_in (j := 2) rfl (by omega) hL) dL_law_205 ?_
  refine lw_aload_n dL_law_206 rfl 0 rfl ?_
  refine lw_iload_n dL_law_207 rfl 3 rfl ?_
  refine lw_iconst (v := 3) dL_law_208 (by decide) ?_
  refine lw_iadd dL_law_209 ?_
  refine lw_sld (l_in (j := 3) rfl (by omega) hL) dL_law_210 ?_
  refine lw_aload_n dL_law_211 rfl 0 rfl ?_
  refine lw_iload_n dL_law_212 rfl 3 rfl ?_
  refine lw_iconst (v := 4) dL_law_213 (by decide) ?_
  refine lw_iadd dL_law_214 ?_
  refine lw_sld (l_in (j := 4) rfl (by omega) hL) dL_law_215 ?_
  refine lw_aload_n dL_law_216 rfl 0 rfl ?_
  refine lw_iload_n dL_law_217 rfl 3 rfl ?_
  refine lw_iconst (v := 5) dL_law_218 (by decide) ?_
  refine lw_iadd dL_law_219 ?_
  refine lw_sld (l_in (j := 5) rfl (by omega) hL) dL_law_220 ?_
  refine lw_callC (k := 0) (As := [.int (xs (nI i + 1).toNatClampNeg), .int (xs (nI i + 2).toNatClampNeg), .int (xs (nI i + 3).toNatClampNeg), .int (xs (nI i + 4).toNatClampNeg), .int (xs (nI i + 5).toNatClampNeg)]) (rest := []) (am_X10_feed 0 oC (st _ _ _ _ _ _ _ hI)) (by decide) hcN hsN mf_X10_feed wd_378 wd_379 wd_380 cf_X10 oC rfl rfl (Nat.le_of_ble_eq_true rfl) dL_law_221 (fun r hc1 H => ?_)
  refine lw_aload_n dL_law_224 rfl 2 rfl ?_
  refine lw_aload_n dL_law_225 rfl 0 rfl ?_
  refine lw_iload_n dL_law_226 rfl 3 rfl ?_
  refine lw_iconst (v := 1) dL_law_227 (by decide) ?_
  refine lw_iadd dL_law_228 ?_
  refine lw_sld (l_in (j := 1) rfl (by omega) hL) dL_law_229 ?_
  refine lw_aload_n dL_law_230 rfl 0 rfl ?_
  refine lw_iload_n dL_law_231 rfl 3 rfl ?_
  refine lw_iconst (v := 2) dL_law_232 (by decide) ?_
  refine lw_iadd dL_law_233 ?_
  refine lw_sld (l_in (j := 2) rfl (by omega) hL) dL_law_234 ?_
  refine lw_aload_n dL_law_235 rfl 0 rfl ?_
  refine lw_iload_n dL_law_236 rfl 3 rfl ?_
  refine lw_iconst (v := 3) dL_law_237 (by decide) ?_
  refine lw_iadd dL_law_238 ?_
  refine lw_sld (l_in (j := 3) rfl (by omega) hL) dL_law_239 ?_
  refine lw_aload_n dL_law_240 rfl 0 rfl ?_
  refine lw_iload_n dL_law_241 rfl 3 rfl ?_
  refine lw_iconst (v := 4) dL_law_242 (by decide) ?_
  refine lw_iadd dL_law_243 ?_
  refine lw_sld (l_in (j := 4) rfl (by omega) hL) dL_law_244 ?_
  refine lw_aload_n dL_law_245 rfl 0 rfl ?_
  refine lw_iload_n dL_law_246 rfl 3 rfl ?_
  refine lw_iconst (v := 5) dL_law_247 (by decide) ?_
  refine lw_iadd dL_law_248 ?_
  refine lw_sld (l_in (j := 5) rfl (by omega) hL) dL_law_249 ?_
  refine lw_callM (k := 0) (As := [.int (xs (nI i + 1).toNatClampNeg), .int (xs (nI i + 2).toNatClampNeg), .int (xs (nI i + 3).toNatClampNeg), .int (xs (nI i + 4).toNatClampNeg), .int (xs (nI i + 5).toNatClampNeg)]) (rest := [.int r]) (am_X11_feed 0 oM H) (by decide) hcN hsN mf_X11_feed wd_1262 wd_1263 wd_1264 cf_X11 oM rfl rfl (Nat.le_of_ble_eq_true rfl) dL_law_250 (fun r1 hm1 H => ?_)
  refine lw_icmp_eq (tgt := 1032) dL_law_253 (by decide) H.1 ?_
  exact hg _ _ H.2
def st_law (Inv : aH → aH → Prop) (SC SM : aS) : Prop := ∀ (hc hm : aH) (a1 : Int32), Inv hc hm → f_X10_law (fR SC) SC 0 a1 hc (fun r hc' => f_X11_law SM 0 a1 hm (fun r' hm' => r = r' ∧ Inv hc' hm'))
set_option maxHeartbeats 4000000 in
set_option maxRecDepth 100000 in
theorem lc_law {l : Launch} {SC SM : aS} {D : va_G} {cA : Nat → ClassId} {adC adM : Nat → Nat} {b L : Nat} {xs : Nat → Int32} {cN sN : Nat} {Inv : aH → aH → Prop} (hcN : cN ≤ 600000) (hsN : sN ≤ 7302250) (oC : aObj SC 0 9 flX10) (oM : aObj SM 0 10 flX11) (st : st_law Inv SC SM) (hL : L ≤ 3584) {i : Nat} (hi : i + 7 ≤ L) {hc hm : aH} (hI : Inv hc hm) (hg : ∀ hc hm, Inv hc hm → LW l SC SM D cA adC adM b L xs cN sN 1032 [(0, .ref b), (1, .ref (adC 0)), (2, .ref (adM 0)), (3, .int (nI i))] [] hc hm) : LW l SC SM D cA adC adM b L xs cN sN 258 [(0, .ref b), (1, .ref (adC 0)), (2, .ref (adM 0)), (3, .int (nI i))] [] hc hm := by
  refine lw_aload_n dL_law_258 rfl 1 rfl ?_
  refine lw_aload_n dL_law_259 rfl 0 rfl ?_
  refine lw_iload_n dL_law_260 rfl 3 rfl ?_
  refine lw_iconst (v := 1) dL_law_261 (by decide) ?_
  refine lw_iadd dL_law_262 ?_
  refine lw_sld (l_in (j := 1) rfl (by omega) hL) dL_law_263 ?_
  refine lw_callC (k := 0) (As := [.int (xs (nI i + 1).toNatClampNeg)]) (rest := []) (am_lawR 0 oC (st _ _ _ hI)) (by decide) hcN hsN mf_X10_law wd_386 wd_387 wd_388 cf_X10 oC rfl rfl (Nat.le_of_ble_eq_true rfl) dL_law_264 (fun r hc1 H => ?_)
  refine lw_aload_n dL_law_267 rfl 2 rfl ?_
  refine lw_aload_n dL_law_268 rfl 0 rfl ?_
  refine lw_iload_n dL_law_269 rfl 3 rfl ?_
  refine lw_iconst (v := 1) dL_law_270 (by decide) ?_
  refine lw_iadd dL_law_271 ?_
  refine lw_sld (l_in (j := 1) rfl (by omega) hL) dL_law_272 ?_
  refine lw_callM (k := 0) (As := [.int (xs (nI i + 1).toNatClampNeg)]) (rest := [.int r]) (am_X11_law 0 oM H) (by decide) hcN hsN mf_X11_law wd_1270 wd_1271 wd_1272 cf_X11 oM rfl rfl (Nat.le_of_ble_eq_true rfl) dL_law_273 (fun r1 hm1 H => ?_)
  refine lw_icmp_eq (tgt := 1032) dL_law_276 (by decide) H.1 ?_
  exact hg _ _ H.2
def st_cut (Inv : aH → aH → Prop) (SC SM : aS) : Prop := ∀ (hc hm : aH) (a1 a2 a3 a4 a5 a6 : Int32), Inv hc hm → f_X10_cut SC 0 a1 a2 a3 a4 a5 a6 hc (fun r hc' => f_X11_cut SM 0 a1 a2 a3 a4 a5 a6 hm (fun r' hm' => r = r' ∧ Inv hc' hm'))
set_option maxHeartbeats 4000000 in
set_option maxRecDepth 100000 in
theorem lc_cut {l : Launch} {SC SM : aS} {D : va_G} {cA : Nat → ClassId} {adC adM : Nat → Nat} {b L : Nat} {xs : Nat → Int32} {cN sN : Nat} {Inv : aH → aH → Prop} (hcN : cN ≤ 600000) (hsN : sN ≤ 7302250) (oC : aObj SC 0 9 flX10) (oM : aObj SM 0 10 flX11) (st : st_cut Inv SC SM) (hL : L ≤ 3584) {i : Nat} (hi : i + 7 ≤ L) {hc hm : aH} (hI : Inv hc hm) (hg : ∀ hc hm, Inv hc hm → LW l SC SM D cA adC adM b L xs cN sN 1032 [(0, .ref b), (1, .ref (adC 0)), (2, .ref (adM 0)), (3, .int (nI i))] [] hc hm) : LW l SC SM D cA adC adM b L xs cN sN 281 [(0, .ref b), (1, .ref (adC 0)), (2, .ref (adM 0)), (3, .int (nI i))] [] hc hm := by
  refine lw_aload_n dL_law_281 rfl 1 rfl ?_
  refine lw_aload_n dL_law_282 rfl 0 rfl ?_
  refine lw_iload_n dL_law_283 rfl 3 rfl ?_
  refine lw_iconst (v := 1) dL_law_284 (by decide) ?_
  refine lw_iadd dL_law_285 ?_
  refine lw_sld (l_in (j := 1) rfl (by omega) hL) dL_law_286 ?_
  refine lw_aload_n dL_law_287 rfl 0 rfl ?_
  refine lw_iload_n dL_law_288 rfl 3 rfl ?_
  refine lw_iconst (v := 2) dL_law_289 (by decide) ?_
  refine lw_iadd dL_law_290 ?_
  refine lw_sld (l_in (j := 2) rfl (by omega) hL) dL_law_291 ?_
  refine lw_aload_n dL_law_292 rfl 0 rfl ?_
  refine lw_iload_n dL_law_293 rfl 3 rfl ?_
  refine lw_iconst (v := 3) dL_law_294 (by decide) ?_
  refine lw_iadd dL_law_295 ?_
  refine lw_sld (l_in (j := 3) rfl (by omega) hL) dL_law_296 ?_
  refine lw_aload_n dL_law_297 rfl 0 rfl ?_
  refine lw_iload_n dL_law_298 rfl 3 rfl ?_
  refine lw_iconst (v := 4) dL_law_299 (by decide) ?_
  refine lw_iadd dL_law_300 ?_
  refine lw_sld (l_in (j := 4) rfl (by omega) hL) dL_law_301 ?_
  refine lw_aload_n dL_law_302 rfl 0 rfl ?_
  refine lw_iload_n dL_law_303 rfl 3 rfl ?_
  refine lw_iconst (v := 5) dL_law_304 (by decide) ?_
  refine lw_iadd dL_law_305 ?_
  refine lw_sld (l_in (j := 5) rfl (by omega) hL) dL_law_306 ?_
  refine lw_aload_n dL_law_307 rfl 0 rfl ?_
  refine lw_iload_n dL_law_308 rfl 3 rfl ?_
  refine lw_bipush (v := 6) dL_law_309 (by decide) ?_
  refine lw_iadd dL_law_311 ?_
  refine lw_sld (l_in (j := 6) rfl (by omega) hL) dL_law_312 ?_
  refine lw_callC (k := 0) (As := [.int (xs (nI i + 1).toNatClampNeg), .int (xs (nI i + 2).toNatClampNeg), .int (xs (nI i + 3).toNatClampNeg), .int (xs (nI i + 4).toNatClampNeg), .int (xs (nI i + 5).toNatClampNeg), .int (xs (nI i + 6).toNatClampNeg)]) (rest := []) (am_X10_cut 0 oC (st _ _ _ _ _ _ _ _ hI)) (by decide) hcN hsN mf_X10_cut wd_553 wd_554 wd_555 cf_X10 oC rfl rfl (Nat.le_of_ble_eq_true rfl) dL_law_313 (fun r hc1 H => ?_)
  refine lw_aload_n dL_law_316 rfl 2 rfl ?_
  refine lw_aload_n dL_law_317 rfl 0 rfl ?_
  refine lw_iload_n dL_law_318 rfl 3 rfl ?_
  refine lw_iconst (v := 1) dL_law_319 (by decide) ?_
  refine lw_iadd dL_law_320 ?_
  refine lw_sld (l_in (j := 1) rfl (by omega) hL) dL_law_321 ?_
  refine lw_aload_n dL_law_322 rfl 0 rfl ?_
  refine lw_iload_n dL_law_323 rfl 3 rfl ?_
  refine lw_iconst (v := 2) dL_law_324 (by decide) ?_
  refine lw_iadd dL_law_325 ?_
  refine lw_sld (l_in (j := 2) rfl (by omega) hL) dL_law_326 ?_
  refine lw_aload_n dL_law_327 rfl 0 rfl ?_
  refine lw_iload_n dL_law_328 rfl 3 rfl ?_
  refine lw_iconst (v := 3) dL_law_329 (by decide) ?_
  refine lw_iadd dL_law_330 ?_
  refine lw_sld (l_in (j := 3) rfl (by omega) hL) dL_law_331 ?_
  refine lw_aload_n dL_law_332 rfl 0 rfl ?_
  refine lw_iload_n dL_law_333 rfl 3 rfl ?_
  refine lw_iconst (v := 4) dL_law_334 (by decide) ?_
  refine lw_iadd dL_law_335 ?_
  refine lw_sld (l_in (j := 4) rfl (by omega) hL) dL_law_336 ?_
  refine lw_aload_n dL_law_337 rfl 0 rfl ?_
  refine lw_iload_n dL_law_338 rfl 3 rfl ?_
  refine lw_iconst (v := 5) dL_law_339 (by decide) ?_
  refine lw_iadd dL_law_340 ?_
  refine lw_sld (l_in (j := 5) rfl (by omega) hL) dL_law_341 ?_
  refine lw_aload_n dL_law_342 rfl 0 rfl ?_
  refine lw_iload_n dL_law_343 rfl 3 rfl ?_
  refine lw_bipush (v := 6) dL_law_344 (by decide) ?_
  refine lw_iadd dL_law_346 ?_
  refine lw_sld (l_in (j := 6) rfl (by omega) hL) dL_law_347 ?_
  refine lw_callM (k := 0) (As := [.int (xs (nI i + 1).toNatClampNeg), .int (xs (nI i + 2).toNatClampNeg), .int (xs (nI i + 3).toNatClampNeg), .int (xs (nI i + 4).toNatClampNeg), .int (xs (nI i + 5).toNatClampNeg), .int (xs (nI i + 6).toNatClampNeg)]) (rest := [.int r]) (am_X11_cut 0 oM H) (by decide) hcN hsN mf_X11_cut wd_1365 wd_1366 wd_1367 cf_X11 oM rfl rfl (Nat.le_of_ble_eq_true rfl) dL_law_348 (fun r1 hm1 H => ?_)
  refine lw_icmp_eq (tgt := 1032) dL_law_351 (by decide) H.1 ?_
  exact hg _ _ H.2
def st_shut (Inv : aH → aH → Prop) (SC SM : aS) : Prop := ∀ (hc hm : aH) (a1 : Int32), Inv hc hm → f_X10_shut SC 0 a1 hc (fun r hc' => f_X11_shut SM 0 a1 hm (fun r' hm' => r = r' ∧ Inv hc' hm'))
set_option maxHeartbeats 4000000 in
set_option maxRecDepth 100000 in
theorem lc_shut {l : Launch} {SC SM : aS} {D : va_G} {cA : Nat → ClassId} {adC adM : Nat → Nat} {b L : Nat} {xs : Nat → Int32} {cN sN : Nat} {Inv : aH → aH → Prop} (hcN : cN ≤ 600000) (hsN : sN ≤ 7302250) (oC : aObj SC 0 9 flX10) (oM : aObj SM 0 10 flX11) (st : st_shut Inv SC SM) (hL : L ≤ 3584) {i : Nat} (hi : i + 7 ≤ L) {hc hm : aH} (hI : Inv hc hm) (hg : ∀ hc hm, Inv hc hm → LW l SC SM D cA adC adM b L xs cN sN 1032 [(0, .ref b), (1, .ref (adC 0)), (2, .ref (adM 0)), (3, .int (nI i))] [] hc hm) : LW l SC SM D cA adC adM b L xs cN sN 356 [(0, .ref b), (1, .ref (adC 0)), (2, .ref (adM 0)), (3, .int (nI i))] [] hc hm := by
  refine lw_aload_n dL_law_356 rfl 1 rfl ?_
  refine lw_aload_n dL_law_357 rfl 0 rfl ?_
  refine lw_iload_n dL_law_358 rfl 3 rfl ?_
  refine lw_iconst (v := 1) dL_law_359 (by decide) ?_
  refine lw_iadd dL_law_360 ?_
  refine lw_sld (l_in (j := 1) rfl (by omega) hL) dL_law_361 ?_
  refine lw_callC (k := 0) (As := [.int (xs (nI i + 1).toNatClampNeg)]) (rest := []) (am_X10_shut 0 oC (st _ _ _ hI)) (by decide) hcN hsN mf_X10_shut wd_613 wd_614 wd_615 cf_X10 oC rfl rfl (Nat.le_of_ble_eq_true rfl) dL_law_362 (fun r hc1 H => ?_)
  refine lw_aload_n dL_law_365 rfl 2 rfl ?_
  refine lw_aload_n dL_law_366 rfl 0 rfl ?_
  refine lw_iload_n dL_law_367 rfl 3 rfl ?_
  refine lw_iconst (v := 1) dL_law_368 (by decide) ?_
  refine lw_iadd dL_law_369 ?_
  refine lw_sld (l_in (j := 1) rfl (by omega) hL) dL_law_370 ?_
  refine lw_callM (k := 0) (As := [.int (xs (nI i + 1).toNatClampNeg)]) (rest := [.int r]) (am_X11_shut 0 oM H) (by decide) hcN hsN mf_X11_shut wd_1442 wd_1443 wd_1444 cf_X11 oM rfl rfl (Nat.le_of_ble_eq_true rfl) dL_law_371 (fun r1 hm1 H => ?_)
  refine lw_icmp_eq (tgt := 1032) dL_law_374 (by decide) H.1 ?_
  exact hg _ _ H.2
def st_group (Inv : aH → aH → Prop) (SC SM : aS) : Prop := ∀ (hc hm : aH) (a1 a2 a3 : Int32), Inv hc hm → f_X10_group SC 0 a1 a2 a3 hc (fun r hc' => f_X11_group SM 0 a1 a2 a3 hm (fun r' hm' => r = r' ∧ Inv hc' hm'))
set_option maxHeartbeats 4000000 in
set_option maxRecDepth 100000 in
theorem lc_group {l : Launch} {SC SM : aS} {D : va_G} {cA : Nat → ClassId} {adC adM : Nat → Nat} {b L : Nat} {xs : Nat → Int32} {cN sN : Nat} {Inv : aH → aH → Prop} (hcN : cN ≤ 600000) (hsN : sN ≤ 7302250) (oC : aObj SC 0 9 flX10) (oM : aObj SM 0 10 flX11) (st : st_group Inv SC SM) (hL : L ≤ 3584) {i : Nat} (hi : i + 7 ≤ L) {hc hm : aH} (hI : Inv hc hm) (hg : ∀ hc hm, Inv hc hm → LW l SC SM D cA adC adM b L xs cN sN 1032 [(0, .ref b), (1, .ref (adC 0)), (2, .ref (adM 0)), (3, .int (nI i))] [] hc hm) : LW l SC SM D cA adC adM b L xs cN sN 379 [(0, .ref b), (1, .ref (adC 0)), (2, .ref (adM 0)), (3, .int (nI i))] [] hc hm := by
  refine lw_aload_n dL_law_379 rfl 1 rfl ?_
  refine lw_aload_n dL_law_380 rfl 0 rfl ?_
  refine lw_iload_n dL_law_381 rfl 3 rfl ?_
  refine lw_iconst (v := 1) dL_law_382 (by decide) ?_
  refine lw_iadd dL_law_383 ?_
  refine lw_sld (l_in (j := 1) rfl (by omega) hL) dL_law_384 ?_
  refine lw_aload_n dL_law_385 rfl 0 rfl ?_
  refine lw_iload_n dL_law_386 rfl 3 rfl ?_
  refine lw_iconst (v := 2) dL_law_387 (by decide) ?_
  refine lw_iadd dL_law_388 ?_
  refine lw_sld (l_in (j := 2) rfl (by omega) hL) dL_law_389 ?_
  refine lw_aload_n dL_law_390 rfl 0 rfl ?_
  refine lw_iload_n dL_law_391 rfl 3 rfl ?_
  refine lw_iconst (v := 3) dL_law_392 (by decide) ?_
  refine lw_iadd dL_law_393 ?_
  refine lw_sld (l_in (j := 3) rfl (by omega) hL) dL_law_394 ?_
  refine lw_callC (k := 0) (As := [.int (xs (nI i + 1).toNatClampNeg), .int (xs (nI i + 2).toNatClampNeg), .int (xs (nI i + 3).toNatClampNeg)]) (rest := []) (am_X10_group 0 oC (st _ _ _ _ _ hI)) (by decide) hcN hsN mf_X10_group wd_629 wd_630 wd_631 cf_X10 oC rfl rfl (Nat.le_of_ble_eq_true rfl) dL_law_395 (fun r hc1 H => ?_)
  refine lw_aload_n dL_law_398 rfl 2 rfl ?_
  refine lw_aload_n dL_law_399 rfl 0 rfl ?_
  refine lw_iload_n dL_law_400 rfl 3 rfl ?_
  refine lw_iconst (v := 1) dL_law_401 (by decide) ?_
  refine lw_iadd dL_law_402 ?_
  refine lw_sld (l_in (j := 1) rfl (by omega) hL) dL_law_403 ?_
  refine lw_aload_n dL_law_404 rfl 0 rfl ?_
  refine lw_iload_n dL_law_405 rfl 3 rfl ?_
  refine lw_iconst (v := 2) dL_law_406 (by decide) ?_
  refine lw_iadd dL_law_407 ?_
  refine lw_sld (l_in (j := 2) rfl (by omega) hL) dL_law_408 ?_
  refine lw_aload_n dL_law_409 rfl 0 rfl ?_
  refine lw_iload_n dL_law_410 rfl 3 rfl ?_
  refine lw_iconst (v := 3) dL_law_411 (by decide) ?_
  refine lw_iadd dL_law_412 ?_
  refine lw_sld (l_in (j := 3) rfl (by omega) hL) dL_law_413 ?_
  refine lw_callM (k := 0) (As := [.int (xs (nI i + 1).toNatClampNeg), .int (xs (nI i + 2).toNatClampNeg), .int (xs (nI i + 3).toNatClampNeg)]) (rest := [.int r]) (am_X11_group 0 oM H) (by decide) hcN hsN mf_X11_group wd_1454 wd_1455 wd_1456 cf_X11 oM rfl rfl (Nat.le_of_ble_eq_true rfl) dL_law_414 (fun r1 hm1 H => ?_)
  refine lw_icmp_eq (tgt := 1032) dL_law_417 (by decide) H.1 ?_
  exact hg _ _ H.2
def st_settle (Inv : aH → aH → Prop) (SC SM : aS) : Prop := ∀ (hc hm : aH), Inv hc hm → f_X10_settle SC 0  hc (fun r hc' => f_X11_settle SM 0  hm (fun r' hm' => r = r' ∧ Inv hc' hm'))
set_option maxHeartbeats 4000000 in
set_option maxRecDepth 100000 in
theorem lc_settle {l : Launch} {SC SM : aS} {D : va_G} {cA : Nat → ClassId} {adC adM : Nat → Nat} {b L : Nat} {xs : Nat → Int32} {cN sN : Nat} {Inv : aH → aH → Prop} (hcN : cN ≤ 600000) (hsN : sN ≤ 7302250) (oC : aObj SC 0 9 flX10) (oM : aObj SM 0 10 flX11) (st : st_settle Inv SC SM) (hL : L ≤ 3584) {i : Nat} (hi : i + 7 ≤ L) {hc hm : aH} (hI : Inv hc hm) (hg : ∀ hc hm, Inv hc hm → LW l SC SM D cA adC adM b L xs cN sN 1032 [(0, .ref b), (1, .ref (adC 0)), (2, .ref (adM 0)), (3, .int (nI i))] [] hc hm) : LW l SC SM D cA adC adM b L xs cN sN 422 [(0, .ref b), (1, .ref (adC 0)), (2, .ref (adM 0)), (3, .int (nI i))] [] hc hm := by
  refine lw_aload_n dL_law_422 rfl 1 rfl ?_
  refine lw_callC (k := 0) (As := []) (rest := []) (am_X10_settle 0 oC (st _ _ hI)) (by decide) hcN hsN mf_X10_settle wd_638 wd_639 wd_640 cf_X10 oC rfl rfl (Nat.le_of_ble_eq_true rfl) dL_law_423 (fun r hc1 H => ?_)
  refine lw_aload_n dL_law_426 rfl 2 rfl ?_
  refine lw_callM (k := 0) (As := []) (rest := [.int r]) (am_X11_settle 0 oM H) (by decide) hcN hsN mf_X11_settle wd_1458 wd_1459 wd_1460 cf_X11 oM rfl rfl (Nat.le_of_ble_eq_true rfl) dL_law_427 (fun r1 hm1 H => ?_)
  refine lw_icmp_eq (tgt := 1032) dL_law_430 (by decide) H.1 ?_
  exact hg _ _ H.2
def st_minutes (Inv : aH → aH → Prop) (SC SM : aS) : Prop := ∀ (hc hm : aH) (a1 : Int32), Inv hc hm → f_X10_minutes SC 0 a1 hc (fun r hc' => f_X11_minutes SM 0 a1 hm (fun r' hm' => r = r' ∧ Inv hc' hm'))
set_option maxHeartbeats 4000000 in
set_option maxRecDepth 100000 in
theorem lc_minutes {l : Launch} {SC SM : aS} {D : va_G} {cA : Nat → ClassId} {adC adM : Nat → Nat} {b L : Nat} {xs : Nat → Int32} {cN sN : Nat} {Inv : aH → aH → Prop} (hcN : cN ≤ 600000) (hsN : sN ≤ 7302250) (oC : aObj SC 0 9 flX10) (oM : aObj SM 0 10 flX11) (st : st_minutes Inv SC SM) (hL : L ≤ 3584) {i : Nat} (hi : i + 7 ≤ L) {hc hm : aH} (hI : Inv hc hm) (hg : ∀ hc hm, Inv hc hm → LW l SC SM D cA adC adM b L xs cN sN 1032 [(0, .ref b), (1, .ref (adC 0)), (2, .ref (adM 0)), (3, .int (nI i))] [] hc hm) : LW l SC SM D cA adC adM b L xs cN sN 435 [(0, .ref b), (1, .ref (adC 0)), (2, .ref (adM 0)), (3, .int (nI i))] [] hc hm := by
  refine lw_aload_n dL_law_435 rfl 1 rfl ?_
  refine lw_aload_n dL_law_436 rfl 0 rfl ?_
  refine lw_iload_n dL_law_437 rfl 3 rfl ?_
  refine lw_iconst (v := 1) dL_law_438 (by decide) ?_
  refine lw_iadd dL_law_439 ?_
  refine lw_sld (l_in (j := 1) rfl (by omega) hL) dL_law_440 ?_
  refine lw_callC (k := 0) (As := [.int (xs (nI i + 1).toNatClampNeg)]) (rest := []) (am_X10_minutes 0 oC (st _ _ _ hI)) (by decide) hcN hsN mf_X10_minutes wd_668 wd_669 wd_670 cf_X10 oC rfl rfl (Nat.le_of_ble_eq_true rfl) dL_law_441 (fun r hc1 H => ?_)
  refine lw_aload_n dL_law_444 rfl 2 rfl ?_
  refine lw_aload_n dL_law_445 rfl 0 rfl ?_
  refine lw_iload_n dL_law_446 rfl 3 rfl ?_
  refine lw_iconst (v := 1) dL_law_447 (by decide) ?_
  refine lw_iadd dL_law_448 ?_
  refine lw_sld (l_in (j := 1) rfl (by omega) hL) dL_law_449 ?_
  refine lw_callM (k := 0) (As := [.int (xs (nI i + 1).toNatClampNeg)]) (rest := [.int r]) (am_X11_minutes 0 oM H) (by decide) hcN hsN mf_X11_minutes wd_1482 wd_1483 wd_1484 cf_X11 oM rfl rfl (Nat.le_of_ble_eq_true rfl) dL_law_450 (fun r1 hm1 H => ?_)
  refine lw_icmp_eq (tgt := 1032) dL_law_453 (by decide) H.1 ?_
  exact hg _ _ H.2
def st_run (Inv : aH → aH → Prop) (SC SM : aS) : Prop := ∀ (hc hm : aH) (a1 a2 : Int32), Inv hc hm → f_X10_run SC 0 a1 a2 hc (fun r hc' => f_X11_run SM 0 a1 a2 hm (fun r' hm' => r = r' ∧ Inv hc' hm'))
set_option maxHeartbeats 4000000 in
set_option maxRecDepth 100000 in
theorem lc_run {l : Launch} {SC SM : aS} {D : va_G} {cA : Nat → ClassId} {adC adM : Nat → Nat} {b L : Nat} {xs : Nat → Int32} {cN sN : Nat} {Inv : aH → aH → Prop} (hcN : cN ≤ 600000) (hsN : sN ≤ 7302250) (oC : aObj SC 0 9 flX10) (oM : aObj SM 0 10 flX11) (st : st_run Inv SC SM) (hL : L ≤ 3584) {i : Nat} (hi : i + 7 ≤ L) {hc hm : aH} (hI : Inv hc hm) (hg : ∀ hc hm, Inv hc hm → LW l SC SM D cA adC adM b L xs cN sN 1032 [(0, .ref b), (1, .ref (adC 0)), (2, .ref (adM 0)), (3, .int (nI i))] [] hc hm) : LW l SC SM D cA adC adM b L xs cN sN 458 [(0, .ref b), (1, .ref (adC 0)), (2, .ref (adM 0)), (3, .int (nI i))] [] hc hm := by
  refine lw_aload_n dL_law_458 rfl 1 rfl ?_
  refine lw_aload_n dL_law_459 rfl 0 rfl ?_
  refine lw_iload_n dL_law_460 rfl 3 rfl ?_
  refine lw_iconst (v := 1) dL_law_461 (by decide) ?_
  refine lw_iadd dL_law_462 ?_
  refine lw_sld (l_in (j := 1) rfl (by omega) hL) dL_law_463 ?_
  refine lw_aload_n dL_law_464 rfl 0 rfl ?_
  refine lw_iload_n dL_law_465 rfl 3 rfl ?_
  refine lw_iconst (v := 2) dL_law_466 (by decide) ?_
  refine lw_iadd dL_law_467 ?_
  refine lw_sld (l_in (j := 2) rfl (by omega) hL) dL_law_468 ?_
  refine lw_callC (k := 0) (As := [.int (xs (nI i + 1).toNatClampNeg), .int (xs (nI i + 2).toNatClampNeg)]) (rest := []) (am_X10_run 0 oC (st _ _ _ _ hI)) (by decide) hcN hsN mf_X10_run wd_738 wd_739 wd_740 cf_X10 oC rfl rfl (Nat.le_of_ble_eq_true rfl) dL_law_469 (fun r hc1 H => ?_)
  refine lw_aload_n dL_law_472 rfl 2 rfl ?_
  refine lw_aload_n dL_law_473 rfl 0 rfl ?_
  refine lw_iload_n dL_law_474 rfl 3 rfl ?_
  refine lw_iconst (v := 1) dL_law_475 (by decide) ?_
  refine lw_iadd dL_law_476 ?_
  refine lw_sld (l_in (j := 1) rfl (by omega) hL) dL_law_477 ?_
  refine lw_aload_n dL_law_478 rfl 0 rfl ?_
  refine lw_iload_n dL_law_479 rfl 3 rfl ?_
  refine lw_iconst (v := 2) dL_law_480 (by decide) ?_
  refine lw_iadd dL_law_481 ?_
  refine lw_sld (l_in (j := 2) rfl (by omega) hL) dL_law_482 ?_
  refine lw_callM (k := 0) (As := [.int (xs (nI i + 1).toNatClampNeg), .int (xs (nI i + 2).toNatClampNeg)]) (rest := [.int r]) (am_X11_run 0 oM H) (by decide) hcN hsN mf_X11_run wd_1517 wd_1518 wd_1519 cf_X11 oM rfl rfl (Nat.le_of_ble_eq_true rfl) dL_law_483 (fun r1 hm1 H => ?_)
  refine lw_icmp_eq (tgt := 1032) dL_law_486 (by decide) H.1 ?_
  exact hg _ _ H.2
def st_square (Inv : aH → aH → Prop) (SC SM : aS) : Prop := ∀ (hc hm : aH) (a1 a2 a3 : Int32), Inv hc hm → f_X10_square SC 0 a1 a2 a3 hc (fun r hc' => f_X11_square SM 0 a1 a2 a3 hm (fun r' hm' => r = r' ∧ Inv hc' hm'))
set_option maxHeartbeats 4000000 in
set_option maxRecDepth 100000 in
theorem lc_square {l : Launch} {SC SM : aS} {D : va_G} {cA : Nat → ClassId} {adC adM : Nat → Nat} {b L : Nat} {xs : Nat → Int32} {cN sN : Nat} {Inv : aH → aH → Prop} (hcN : cN ≤ 600000) (hsN : sN ≤ 7302250) (oC : aObj SC 0 9 flX10) (oM : aObj SM 0 10 flX11) (st : st_square Inv SC SM) (hL : L ≤ 3584) {i : Nat} (hi : i + 7 ≤ L) {hc hm : aH} (hI : Inv hc hm) (hg : ∀ hc hm, Inv hc hm → LW l SC SM D cA adC adM b L xs cN sN 1032 [(0, .ref b), (1, .ref (adC 0)), (2, .ref (adM 0)), (3, .int (nI i))] [] hc hm) : LW l SC SM D cA adC adM b L xs cN sN 491 [(0, .ref b), (1, .ref (adC 0)), (2, .ref (adM 0)), (3, .int (nI i))] [] hc hm := by
  refine lw_aload_n dL_law_491 rfl 1 rfl ?_
  refine lw_aload_n dL_law_492 rfl 0 rfl ?_
  refine lw_iload_n dL_law_493 rfl 3 rfl ?_
  refine lw_iconst (v := 1) dL_law_494 (by decide) ?_
  refine lw_iadd dL_law_495 ?_
  refine lw_sld (l_in (j := 1) rfl (by omega) hL) dL_law_496 ?_
  refine lw_aload_n dL_law_497 rfl 0 rfl ?_
  refine lw_iload_n dL_law_498 rfl 3 rfl ?_
  refine lw_iconst (v := 2) dL_law_499 (by decide) ?_
  refine lw_iadd dL_law_500 ?_
  refine lw_sld (l_in (j := 2) rfl (by omega) hL) dL_law_501 ?_
  refine lw_aload_n dL_law_502 rfl 0 rfl ?_
  refine lw_iload_n dL_law_503 rfl 3 rfl ?_
  refine lw_iconst (v := 3) dL_law_504 (by decide) ?_
  refine lw_iadd dL_law_505 ?_
  refine lw_sld (l_in (j := 3) rfl (by omega) hL) dL_law_506 ?_
  refine lw_callC (k := 0) (As := [.int (xs (nI i + 1).toNatClampNeg), .int (xs (nI i + 2).toNatClampNeg), .int (xs (nI i + 3).toNatClampNeg)]) (rest := []) (am_X10_square 0 oC (st _ _ _ _ _ hI)) (by decide) hcN hsN mf_X10_square wd_754 wd_755 wd_756 cf_X10 oC rfl rfl (Nat.le_of_ble_eq_true rfl) dL_law_507 (fun r hc1 H => ?_)
  refine lw_aload_n dL_law_510 rfl 2 rfl ?_
  refine lw_aload_n dL_law_511 rfl 0 rfl ?_
  refine lw_iload_n dL_law_512 rfl 3 rfl ?_
  refine lw_iconst (v := 1) dL_law_513 (by decide) ?_
  refine lw_iadd dL_law_514 ?_
  refine lw_sld (l_in (j := 1) rfl (by omega) hL) dL_law_515 ?_
  refine lw_aload_n dL_law_516 rfl 0 rfl ?_
  refine lw_iload_n dL_law_517 rfl 3 rfl ?_
  refine lw_iconst (v := 2) dL_law_518 (by decide) ?_
  refine lw_iadd dL_law_519 ?_
  refine lw_sld (l_in (j := 2) rfl (by omega) hL) dL_law_520 ?_
  refine lw_aload_n dL_law_521 rfl 0 rfl ?_
  refine lw_iload_n dL_law_522 rfl 3 rfl ?_
  refine lw_iconst (v := 3) dL_law_523 (by decide) ?_
  refine lw_iadd dL_law_524 ?_
  refine lw_sld (l_in (j := 3) rfl (by omega) hL) dL_law_525 ?_
  refine lw_callM (k := 0) (As := [.int (xs (nI i + 1).toNatClampNeg), .int (xs (nI i + 2).toNatClampNeg), .int (xs (nI i + 3).toNatClampNeg)]) (rest := [.int r]) (am_X11_square 0 oM H) (by decide) hcN hsN mf_X11_square wd_1534 wd_1535 wd_1536 cf_X11 oM rfl rfl (Nat.le_of_ble_eq_true rfl) dL_law_526 (fun r1 hm1 H => ?_)
  refine lw_icmp_eq (tgt := 1032) dL_law_529 (by decide) H.1 ?_
  exact hg _ _ H.2
def st_holeIs (Inv : aH → aH → Prop) (SC SM : aS) : Prop := ∀ (hc hm : aH) (a1 a2 : Int32), Inv hc hm → f_X10_holeIs SC 0 a1 a2 hc (fun r hc' => f_X11_holeIs SM 0 a1 a2 hm (fun r' hm' => r = r' ∧ Inv hc' hm'))
set_option maxHeartbeats 4000000 in
set_option maxRecDepth 100000 in
theorem lc_holeIs {l : Launch} {SC SM : aS} {D : va_G} {cA : Nat → ClassId} {adC adM : Nat → Nat} {b L : Nat} {xs : Nat → Int32} {cN sN : Nat} {Inv : aH → aH → Prop} (hcN : cN ≤ 600000) (hsN : sN ≤ 7302250) (oC : aObj SC 0 9 flX10) (oM : aObj SM 0 10 flX11) (st : st_holeIs Inv SC SM) (hL : L ≤ 3584) {i : Nat} (hi : i + 7 ≤ L) {hc hm : aH} (hI : Inv hc hm) (hg : ∀ hc hm, Inv hc hm → LW l SC SM D cA adC adM b L xs cN sN 1032 [(0, .ref b), (1, .ref (adC 0)), (2, .ref (adM 0)), (3, .int (nI i))] [] hc hm) : LW l SC SM D cA adC adM b L xs cN sN 534 [(0, .ref b), (1, .ref (adC 0)), (2, .ref (adM 0)), (3, .int (nI i))] [] hc hm := by
  refine lw_aload_n dL_law_534 rfl 1 rfl ?_
  refine lw_aload_n dL_law_535 rfl 0 rfl ?_
  refine lw_iload_n dL_law_536 rfl 3 rfl ?_
  refine lw_iconst (v := 1) dL_law_537 (by decide) ?_
  refine lw_iadd dL_law_538 ?_
  refine lw_sld (l_in (j := 1) rfl (by omega) hL) dL_law_539 ?_
  refine lw_aload_n dL_law_540 rfl 0 rfl ?_
  refine lw_iload_n dL_law_541 rfl 3 rfl ?_
  refine lw_iconst (v := 2) dL_law_542 (by decide) ?_
  refine lw_iadd dL_law_543 ?_
  refine lw_sld (l_in (j := 2) rfl (by omega) hL) dL_law_544 ?_
  refine lw_callC (k := 0) (As := [.int (xs (nI i + 1).toNatClampNeg), .int (xs (nI i + 2).toNatClampNeg)]) (rest := []) (am_X10_holeIs 0 oC (st _ _ _ _ hI)) (by decide) hcN hsN mf_X10_holeIs wd_764 wd_765 wd_766 cf_X10 oC rfl rfl (Nat.le_of_ble_eq_true rfl) dL_law_545 (fun r hc1 H => ?_)
  refine lw_aload_n dL_law_548 rfl 2 rfl ?_
  refine lw_aload_n dL_law_549 rfl 0 rfl ?_
  refine lw_iload_n dL_law_550 rfl 3 rfl ?_
  refine lw_iconst (v := 1) dL_law_551 (by decide) ?_
  refine lw_iadd dL_law_552 ?_
  refine lw_sld (l_in (j := 1) rfl (by omega) hL) dL_law_553 ?_
  refine lw_aload_n dL_law_554 rfl 0 rfl ?_
  refine lw_iload_n dL_law_555 rfl 3 rfl ?_
  refine lw_iconst (v := 2) dL_law_556 (by decide) ?_
  refine lw_iadd dL_law_557 ?_
  refine lw_sld (l_in (j := 2) rfl (by omega) hL) dL_law_558 ?_
  refine lw_callM (k := 0) (As := [.int (xs (nI i + 1).toNatClampNeg), .int (xs (nI i + 2).toNatClampNeg)]) (rest := [.int r]) (am_X11_holeIs 0 oM H) (by decide) hcN hsN mf_X11_holeIs wd_1539 wd_1540 wd_1541 cf_X11 oM rfl rfl (Nat.le_of_ble_eq_true rfl) dL_law_559 (fun r1 hm1 H => ?_)
  refine lw_icmp_eq (tgt := 1032) dL_law_562 (by decide) H.1 ?_
  exact hg _ _ H.2
def st_groupIs (Inv : aH → aH → Prop) (SC SM : aS) : Prop := ∀ (hc hm : aH) (a1 a2 : Int32), Inv hc hm → f_X10_groupIs SC 0 a1 a2 hc (fun r hc' => f_X11_groupIs SM 0 a1 a2 hm (fun r' hm' => r = r' ∧ Inv hc' hm'))
set_option maxHeartbeats 4000000 in
set_option maxRecDepth 100000 in
theorem lc_groupIs {l : Launch} {SC SM : aS} {D : va_G} {cA : Nat → ClassId} {adC adM : Nat → Nat} {b L : Nat} {xs : Nat → Int32} {cN sN : Nat} {Inv : aH → aH → Prop} (hcN : cN ≤ 600000) (hsN : sN ≤ 7302250) (oC : aObj SC 0 9 flX10) (oM : aObj SM 0 10 flX11) (st : st_groupIs Inv SC SM) (hL : L ≤ 3584) {i : Nat} (hi : i + 7 ≤ L) {hc hm : aH} (hI : Inv hc hm) (hg : ∀ hc hm, Inv hc hm → LW l SC SM D cA adC adM b L xs cN sN 1032 [(0, .ref b), (1, .ref (adC 0)), (2, .ref (adM 0)), (3, .int (nI i))] [] hc hm) : LW l SC SM D cA adC adM b L xs cN sN 567 [(0, .ref b), (1, .ref (adC 0)), (2, .ref (adM 0)), (3, .int (nI i))] [] hc hm := by
  refine lw_aload_n dL_law_567 rfl 1 rfl ?_
  refine lw_aload_n dL_law_568 rfl 0 rfl ?_
  refine lw_iload_n dL_law_569 rfl 3 rfl ?_
  refine lw_iconst (v := 1) dL_law_570 (by decide) ?_
  refine lw_iadd dL_law_571 ?_
  refine lw_sld (l_in (j := 1) rfl (by omega) hL) dL_law_572 ?_
  refine lw_aload_n dL_law_573 rfl 0 rfl ?_
  refine lw_iload_n dL_law_574 rfl 3 rfl ?_
  refine lw_iconst (v := 2) dL_law_575 (by decide) ?_
  refine lw_iadd dL_law_576 ?_
  refine lw_sld (l_in (j := 2) rfl (by omega) hL) dL_law_577 ?_
  refine lw_callC (k := 0) (As := [.int (xs (nI i + 1).toNatClampNeg), .int (xs (nI i + 2).toNatClampNeg)]) (rest := []) (am_X10_groupIs 0 oC (st _ _ _ _ hI)) (by decide) hcN hsN mf_X10_groupIs wd_769 wd_770 wd_771 cf_X10 oC rfl rfl (Nat.le_of_ble_eq_true rfl) dL_law_578 (fun r hc1 H => ?_)
  refine lw_aload_n dL_law_581 rfl 2 rfl ?_
  refine lw_aload_n dL_law_582 rfl 0 rfl ?_
  refine lw_iload_n dL_law_583 rfl 3 rfl ?_
  refine lw_iconst (v := 1) dL_law_584 (by decide) ?_
  refine lw_iadd dL_law_585 ?_
  refine lw_sld (l_in (j := 1) rfl (by omega) hL) dL_law_586 ?_
  refine lw_aload_n dL_law_587 rfl 0 rfl ?_
  refine lw_iload_n dL_law_588 rfl 3 rfl ?_
  refine lw_iconst (v := 2) dL_law_589 (by decide) ?_
  refine lw_iadd dL_law_590 ?_
  refine lw_sld (l_in (j := 2) rfl (by omega) hL) dL_law_591 ?_
  refine lw_callM (k := 0) (As := [.int (xs (nI i + 1).toNatClampNeg), .int (xs (nI i + 2).toNatClampNeg)]) (rest := [.int r]) (am_X11_groupIs 0 oM H) (by decide) hcN hsN mf_X11_groupIs wd_1543 wd_1544 wd_1545 cf_X11 oM rfl rfl (Nat.le_of_ble_eq_true rfl) dL_law_592 (fun r1 hm1 H => ?_)
  refine lw_icmp_eq (tgt := 1032) dL_law_595 (by decide) H.1 ?_
  exact hg _ _ H.2
def st_draws (Inv : aH → aH → Prop) (SC SM : aS) : Prop := ∀ (hc hm : aH) (a1 a2 : Int32), Inv hc hm → f_X10_draws SC 0 a1 a2 hc (fun r hc' => f_X11_draws SM 0 a1 a2 hm (fun r' hm' => r = r' ∧ Inv hc' hm'))
set_option maxHeartbeats 4000000 in
set_option maxRecDepth 100000 in
theorem lc_draws {l : Launch} {SC SM : aS} {D : va_G} {cA : Nat → ClassId} {adC adM : Nat → Nat} {b L : Nat} {xs : Nat → Int32} {cN sN : Nat} {Inv : aH → aH → Prop} (hcN : cN ≤ 600000) (hsN : sN ≤ 7302250) (oC : aObj SC 0 9 flX10) (oM : aObj SM 0 10 flX11) (st : st_draws Inv SC SM) (hL : L ≤ 3584) {i : Nat} (hi : i + 7 ≤ L) {hc hm : aH} (hI : Inv hc hm) (hg : ∀ hc hm, Inv hc hm → LW l SC SM D cA adC adM b L xs cN sN 1032 [(0, .ref b), (1, .ref (adC 0)), (2, .ref (adM 0)), (3, .int (nI i))] [] hc hm) : LW l SC SM D cA adC adM b L xs cN sN 600 [(0, .ref b), (1, .ref (adC 0)), (2, .ref (adM 0)), (3, .int (nI i))] [] hc hm := by
  refine lw_aload_n dL_law_600 rfl 1 rfl ?_
  refine lw_aload_n dL_law_601 rfl 0 rfl ?_
  refine lw_iload_n dL_law_602 rfl 3 rfl ?_
  refine lw_iconst (v := 1) dL_law_603 (by decide) ?_
  refine lw_iadd dL_law_604 ?_
  refine lw_sld (l_in (j := 1) rfl (by omega) hL) dL_law_605 ?_
  refine lw_aload_n dL_law_606 rfl 0 rfl ?_
  refine lw_iload_n dL_law_607 rfl 3 rfl ?_
  refine lw_iconst (v := 2) dL_law_608 (by decide) ?_
  refine lw_iadd dL_law_609 ?_
  refine lw_sld (l_in (j := 2) rfl (by omega) hL) dL_law_610 ?_
  refine lw_callC (k := 0) (As := [.int (xs (nI i + 1).toNatClampNeg), .int (xs (nI i + 2).toNatClampNeg)]) (rest := []) (am_X10_draws 0 oC (st _ _ _ _ hI)) (by decide) hcN hsN mf_X10_draws wd_775 wd_776 wd_777 cf_X10 oC rfl rfl (Nat.le_of_ble_eq_true rfl) dL_law_611 (fun r hc1 H => ?_)
  refine lw_aload_n dL_law_614 rfl 2 rfl ?_
  refine lw_aload_n dL_law_615 rfl 0 rfl ?_
  refine lw_iload_n dL_law_616 rfl 3 rfl ?_
  refine lw_iconst (v := 1) dL_law_617 (by decide) ?_
  refine lw_iadd dL_law_618 ?_
  refine lw_sld (l_in (j := 1) rfl (by omega) hL) dL_law_619 ?_
  refine lw_aload_n dL_law_620 rfl 0 rfl ?_
  refine lw_iload_n dL_law_621 rfl 3 rfl ?_
  refine lw_iconst (v := 2) dL_law_622 (by decide) ?_
  refine lw_iadd dL_law_623 ?_
  refine lw_sld (l_in (j := 2) rfl (by omega) hL) dL_law_624 ?_
  refine lw_callM (k := 0) (As := [.int (xs (nI i + 1).toNatClampNeg), .int (xs (nI i + 2).toNatClampNeg)]) (rest := [.int r]) (am_X11_draws 0 oM H) (by decide) hcN hsN mf_X11_draws wd_1551 wd_1552 wd_1553 cf_X11 oM rfl rfl (Nat.le_of_ble_eq_true rfl) dL_law_625 (fun r1 hm1 H => ?_)
  refine lw_icmp_eq (tgt := 1032) dL_law_628 (by decide) H.1 ?_
  exact hg _ _ H.2
def st_sound (Inv : aH → aH → Prop) (SC SM : aS) : Prop := ∀ (hc hm : aH) (a1 a2 : Int32), Inv hc hm → f_X10_sound SC 0 a1 a2 hc (fun r hc' => f_X11_sound SM 0 a1 a2 hm (fun r' hm' => r = r' ∧ Inv hc' hm'))
set_option maxHeartbeats 4000000 in
set_option maxRecDepth 100000 in
theorem lc_sound {l : Launch} {SC SM : aS} {D : va_G} {cA : Nat → ClassId} {adC adM : Nat → Nat} {b L : Nat} {xs : Nat → Int32} {cN sN : Nat} {Inv : aH → aH → Prop} (hcN : cN ≤ 600000) (hsN : sN ≤ 7302250) (oC : aObj SC 0 9 flX10) (oM : aObj SM 0 10 flX11) (st : st_sound Inv SC SM) (hL : L ≤ 3584) {i : Nat} (hi : i + 7 ≤ L) {hc hm : aH} (hI : Inv hc hm) (hg : ∀ hc hm, Inv hc hm → LW l SC SM D cA adC adM b L xs cN sN 1032 [(0, .ref b), (1, .ref (adC 0)), (2, .ref (adM 0)), (3, .int (nI i))] [] hc hm) : LW l SC SM D cA adC adM b L xs cN sN 633 [(0, .ref b), (1, .ref (adC 0)), (2, .ref (adM 0)), (3, .int (nI i))] [] hc hm := by
  refine lw_aload_n dL_law_633 rfl 1 rfl ?_
  refine lw_aload_n dL_law_634 rfl 0 rfl ?_
  refine lw_iload_n dL_law_635 rfl 3 rfl ?_
  refine lw_iconst (v := 1) dL_law_636 (by decide) ?_
  refine lw_iadd dL_law_637 ?_
  refine lw_sld (l_in (j := 1) rfl (by omega) hL) dL_law_638 ?_
  refine lw_aload_n dL_law_639 rfl 0 rfl ?_
  refine lw_iload_n dL_law_640 rfl 3 rfl ?_
  refine lw_iconst (v := 2) dL_law_641 (by decide) ?_
  refine lw_iadd dL_law_642 ?_
  refine lw_sld (l_in (j := 2) rfl (by omega) hL) dL_law_643 ?_
  refine lw_callC (k := 0) (As := [.int (xs (nI i + 1).toNatClampNeg), .int (xs (nI i + 2).toNatClampNeg)]) (rest := []) (am_X10_sound 0 oC (st _ _ _ _ hI)) (by decide) hcN hsN mf_X10_sound wd_780 wd_781 wd_782 cf_X10 oC rfl rfl (Nat.le_of_ble_eq_true rfl) dL_law_644 (fun r hc1 H => ?_)
  refine lw_aload_n dL_law_647 rfl 2 rfl ?_
  refine lw_aload_n dL_law_648 rfl 0 rfl ?_
  refine lw_iload_n dL_law_649 rfl 3 rfl ?_
  refine lw_iconst (v := 1) dL_law_650 (by decide) ?_
  refine lw_iadd dL_law_651 ?_
  refine lw_sld (l_in (j := 1) rfl (by omega) hL) dL_law_652 ?_
  refine lw_aload_n dL_law_653 rfl 0 rfl ?_
  refine lw_iload_n dL_law_654 rfl 3 rfl ?_
  refine lw_iconst (v := 2) dL_law_655 (by decide) ?_
  refine lw_iadd dL_law_656 ?_
  refine lw_sld (l_in (j := 2) rfl (by omega) hL) dL_law_657 ?_
  refine lw_callM (k := 0) (As := [.int (xs (nI i + 1).toNatClampNeg), .int (xs (nI i + 2).toNatClampNeg)]) (rest := [.int r]) (am_X11_sound 0 oM H) (by decide) hcN hsN mf_X11_sound wd_1555 wd_1556 wd_1557 cf_X11 oM rfl rfl (Nat.le_of_ble_eq_true rfl) dL_law_658 (fun r1 hm1 H => ?_)
  refine lw_icmp_eq (tgt := 1032) dL_law_661 (by decide) H.1 ?_
  exact hg _ _ H.2
def st_places (Inv : aH → aH → Prop) (SC SM : aS) : Prop := ∀ (hc hm : aH) (a1 a2 : Int32), Inv hc hm → f_X10_places SC 0 a1 a2 hc (fun r hc' => f_X11_places SM 0 a1 a2 hm (fun r' hm' => r = r' ∧ Inv hc' hm'))
set_option maxHeartbeats 4000000 in
set_option maxRecDepth 100000 in
theorem lc_places {l : Launch} {SC SM : aS} {D : va_G} {cA : Nat → ClassId} {adC adM : Nat → Nat} {b L : Nat} {xs : Nat → Int32} {cN sN : Nat} {Inv : aH → aH → Prop} (hcN : cN ≤ 600000) (hsN : sN ≤ 7302250) (oC : aObj SC 0 9 flX10) (oM : aObj SM 0 10 flX11) (st : st_places Inv SC SM) (hL : L ≤ 3584) {i : Nat} (hi : i + 7 ≤ L) {hc hm : aH} (hI : Inv hc hm) (hg : ∀ hc hm, Inv hc hm → LW l SC SM D cA adC adM b L xs cN sN 1032 [(0, .ref b), (1, .ref (adC 0)), (2, .ref (adM 0)), (3, .int (nI i))] [] hc hm) : LW l SC SM D cA adC adM b L xs cN sN 666 [(0, .ref b), (1, .ref (adC 0)), (2, .ref (adM 0)), (3, .int (nI i))] [] hc hm := by
  refine lw_aload_n dL_law_666 rfl 1 rfl ?_
  refine lw_aload_n dL_law_667 rfl 0 rfl ?_
  refine lw_iload_n dL_law_668 rfl 3 rfl ?_
  refine lw_iconst (v := 1) dL_law_669 (by decide) ?_
  refine lw_iadd dL_law_670 ?_
  refine lw_sld (l_in (j := 1) rfl (by omega) hL) dL_law_671 ?_
  refine lw_aload_n dL_law_672 rfl 0 rfl ?_
  refine lw_iload_n dL_law_673 rfl 3 rfl ?_
  refine lw_iconst (v := 2) dL_law_674 (by decide) ?_
  refine lw_iadd dL_law_675 ?_
  refine lw_sld (l_in (j := 2) rfl (by omega) hL) dL_law_676 ?_
  refine lw_callC (k := 0) (As := [.int (xs (nI i + 1).toNatClampNeg), .int (xs (nI i + 2).toNatClampNeg)]) (rest := []) (am_X10_places 0 oC (st _ _ _ _ hI)) (by decide) hcN hsN mf_X10_places wd_797 wd_798 wd_799 cf_X10 oC rfl rfl (Nat.le_of_ble_eq_true rfl) dL_law_677 (fun r hc1 H => ?_)
  refine lw_aload_n dL_law_680 rfl 2 rfl ?_
  refine lw_aload_n dL_law_681 rfl 0 rfl ?_
  refine lw_iload_n dL_law_682 rfl 3 rfl ?_
  refine lw_iconst (v := 1) dL_law_683 (by decide) ?_
  refine lw_iadd dL_law_684 ?_
  refine lw_sld (l_in (j := 1) rfl (by omega) hL) dL_law_685 ?_
  refine lw_aload_n dL_law_686 rfl 0 rfl ?_
  refine lw_iload_n dL_law_687 rfl 3 rfl ?_
  refine lw_iconst (v := 2) dL_law_688 (by decide) ?_
  refine lw_iadd dL_law_689 ?_
  refine lw_sld (l_in (j := 2) rfl (by omega) hL) dL_law_690 ?_
  refine lw_callM (k := 0) (As := [.int (xs (nI i + 1).toNatClampNeg), .int (xs (nI i + 2).toNatClampNeg)]) (rest := [.int r]) (am_X11_places 0 oM H) (by decide) hcN hsN mf_X11_places wd_1571 wd_1572 wd_1573 cf_X11 oM rfl rfl (Nat.le_of_ble_eq_true rfl) dL_law_691 (fun r1 hm1 H => ?_)
  refine lw_icmp_eq (tgt := 1032) dL_law_694 (by decide) H.1 ?_
  exact hg _ _ H.2
def st_closing (Inv : aH → aH → Prop) (SC SM : aS) : Prop := ∀ (hc hm : aH) (a1 a2 a3 : Int32), Inv hc hm → f_X10_closing SC 0 a1 a2 a3 hc (fun r hc' => f_X11_closing SM 0 a1 a2 a3 hm (fun r' hm' => r = r' ∧ Inv hc' hm'))
set_option maxHeartbeats 4000000 in
set_option maxRecDepth 100000 in
theorem lc_closing {l : Launch} {SC SM : aS} {D : va_G} {cA : Nat → ClassId} {adC adM : Nat → Nat} {b L : Nat} {xs : Nat → Int32} {cN sN : Nat} {Inv : aH → aH → Prop} (hcN : cN ≤ 600000) (hsN : sN ≤ 7302250) (oC : aObj SC 0 9 flX10) (oM : aObj SM 0 10 flX11) (st : st_closing Inv SC SM) (hL : L ≤ 3584) {i : Nat} (hi : i + 7 ≤ L) {hc hm : aH} (hI : Inv hc hm) (hg : ∀ hc hm, Inv hc hm → LW l SC SM D cA adC adM b L xs cN sN 1032 [(0, .ref b), (1, .ref (adC 0)), (2, .ref (adM 0)), (3, .int (nI i))] [] hc hm) : LW l SC SM D cA adC adM b L xs cN sN 699 [(0, .ref b), (1, .ref (adC 0)), (2, .ref (adM 0)), (3, .int (nI i))] [] hc hm := by
  refine lw_aload_n dL_law_699 rfl 1 rfl ?_
  refine lw_aload_n dL_law_700 rfl 0 rfl ?_
  refine lw_iload_n dL_law_701 rfl 3 rfl ?_
  refine lw_iconst (v := 1) dL_law_702 (by decide) ?_
  refine lw_iadd dL_law_703 ?_
  refine lw_sld (l_in (j := 1) rfl (by omega) hL) dL_law_704 ?_
  refine lw_aload_n dL_law_705 rfl 0 rfl ?_
  refine lw_iload_n dL_law_706 rfl 3 rfl ?_
  refine lw_iconst (v := 2) dL_law_707 (by decide) ?_
  refine lw_iadd dL_law_708 ?_
  refine lw_sld (l_in (j := 2) rfl (by omega) hL) dL_law_709 ?_
  refine lw_aload_n dL_law_710 rfl 0 rfl ?_
  refine lw_iload_n dL_law_711 rfl 3 rfl ?_
  refine lw_iconst (v := 3) dL_law_712 (by decide) ?_
  refine lw_iadd dL_law_713 ?_
  refine lw_sld (l_in (j := 3) rfl (by omega) hL) dL_law_714 ?_
  refine lw_callC (k := 0) (As := [.int (xs (nI i + 1).toNatClampNeg), .int (xs (nI i + 2).toNatClampNeg), .int (xs (nI i + 3).toNatClampNeg)]) (rest := []) (am_X10_closing 0 oC (st _ _ _ _ _ hI)) (by decide) hcN hsN mf_X10_closing wd_858 wd_859 wd_860 cf_X10 oC rfl rfl (Nat.le_of_ble_eq_true rfl) dL_law_715 (fun r hc1 H => ?_)
  refine lw_aload_n dL_law_718 rfl 2 rfl ?_
  refine lw_aload_n dL_law_719 rfl 0 rfl ?_
  refine lw_iload_n dL_law_720 rfl 3 rfl ?_
  refine lw_iconst (v := 1) dL_law_721 (by decide) ?_
  refine lw_iadd dL_law_722 ?_
  refine lw_sld (l_in (j := 1) rfl (by omega) hL) dL_law_723 ?_
  refine lw_aload_n dL_law_724 rfl 0 rfl ?_
  refine lw_iload_n dL_law_725 rfl 3 rfl ?_
  refine lw_iconst (v := 2) dL_law_726 (by decide) ?_
  refine lw_iadd dL_law_727 ?_
  refine lw_sld (l_in (j := 2) rfl (by omega) hL) dL_law_728 ?_
  refine lw_aload_n dL_law_729 rfl 0 rfl ?_
  refine lw_iload_n dL_law_730 rfl 3 rfl ?_
  refine lw_iconst (v := 3) dL_law_731 (by decide) ?_
  refine lw_iadd dL_law_732 ?_
  refine lw_sld (l_in (j := 3) rfl (by omega) hL) dL_law_733 ?_
  refine lw_callM (k := 0) (As := [.int (xs (nI i + 1).toNatClampNeg), .int (xs (nI i + 2).toNatClampNeg), .int (xs (nI i + 3).toNatClampNeg)]) (rest := [.int r]) (am_X11_closing 0 oM H) (by decide) hcN hsN mf_X11_closing wd_1616 wd_1617 wd_1618 cf_X11 oM rfl rfl (Nat.le_of_ble_eq_true rfl) dL_law_734 (fun r1 hm1 H => ?_)
  refine lw_icmp_eq (tgt := 1032) dL_law_737 (by decide) H.1 ?_
  exact hg _ _ H.2
def st_rescue (Inv : aH → aH → Prop) (SC SM : aS) : Prop := ∀ (hc hm : aH) (a1 a2 a3 a4 : Int32), Inv hc hm → f_X10_rescue SC 0 a1 a2 a3 a4 hc (fun r hc' => f_X11_rescue SM 0 a1 a2 a3 a4 hm (fun r' hm' => r = r' ∧ Inv hc' hm'))
set_option maxHeartbeats 4000000 in
set_option maxRecDepth 100000 in
theorem lc_rescue {l : Launch} {SC SM : aS} {D : va_G} {cA : Nat → ClassId} {adC adM : Nat → Nat} {b L : Nat} {xs : Nat → Int32} {cN sN : Nat} {Inv : aH → aH → Prop} (hcN : cN ≤ 600000) (hsN : sN ≤ 7302250) (oC : aObj SC 0 9 flX10) (oM : aObj SM 0 10 flX11) (st : st_rescue Inv SC SM) (hL : L ≤ 3584) {i : Nat} (hi : i + 7 ≤ L) {hc hm : aH} (hI : Inv hc hm) (hg : ∀ hc hm, Inv hc hm → LW l SC SM D cA adC adM b L xs cN sN 1032 [(0, .ref b), (1, .ref (adC 0)), (2, .ref (adM 0)), (3, .int (nI i))] [] hc hm) : LW l SC SM D cA adC adM b L xs cN sN 742 [(0, .ref b), (1, .ref (adC 0)), (2, .ref (adM 0)), (3, .int (nI i))] [] hc hm := by
  refine lw_aload_n dL_law_742 rfl 1 rfl ?_
  refine lw_aload_n dL_law_743 rfl 0 rfl ?_
  refine lw_iload_n dL_law_744 rfl 3 rfl ?_
  refine lw_iconst (v := 1) dL_law_745 (by decide) ?_
  refine lw_iadd dL_law_746 ?_
  refine lw_sld (l_in (j := 1) rfl (by omega) hL) dL_law_747 ?_
  refine lw_aload_n dL_law_748 rfl 0 rfl ?_
  refine lw_iload_n dL_law_749 rfl 3 rfl ?_
  refine lw_iconst (v := 2) dL_law_750 (by decide) ?_
  refine lw_iadd dL_law_751 ?_
  refine lw_sld (l_in (j := 2) rfl (by omega) hL) dL_law_752 ?_
  refine lw_aload_n dL_law_753 rfl 0 rfl ?_
  refine lw_iload_n dL_law_754 rfl 3 rfl ?_
  refine lw_iconst (v := 3) dL_law_755 (by decide) ?_
  refine lw_iadd dL_law_756 ?_
  refine lw_sld (l_in (j := 3) rfl (by omega) hL) dL_law_757 ?_
  refine lw_aload_n dL_law_758 rfl 0 rfl ?_
  refine lw_iload_n dL_law_759 rfl 3 rfl ?_
  refine lw_iconst (v := 4) dL_law_760 (by decide) ?_
  refine lw_iadd dL_law_761 ?_
  refine lw_sld (l_in (j := 4) rfl (by omega) hL) dL_law_762 ?_
  refine lw_callC (k := 0) (As := [.int (xs (nI i + 1).toNatClampNeg), .int (xs (nI i + 2).toNatClampNeg), .int (xs (nI i + 3).toNatClampNeg), .int (xs (nI i + 4).toNatClampNeg)]) (rest := []) (am_X10_rescue 0 oC (st _ _ _ _ _ _ hI)) (by decide) hcN hsN mf_X10_rescue wd_895 wd_896 wd_897 cf_X10 oC rfl rfl (Nat.le_of_ble_eq_true rfl) dL_law_763 (fun r hc1 H => ?_)
  refine lw_aload_n dL_law_766 rfl 2 rfl ?_
  refine lw_aload_n dL_law_767 rfl 0 rfl ?_
  refine lw_iload_n dL_law_768 rfl 3 rfl ?_
  refine lw_iconst (v := 1) dL_law_769 (by decide) ?_
  refine lw_iadd dL_law_770 ?_
  refine lw_sld (l_in (j := 1) rfl (by omega) hL) dL_law_771 ?_
  refine lw_aload_n dL_law_772 rfl 0 rfl ?_
  refine lw_iload_n dL_law_773 rfl 3 rfl ?_
  refine lw_iconst (v := 2) dL_law_774 (by decide) ?_
  refine lw_iadd dL_law_775 ?_
  refine lw_sld (l_in (j := 2) rfl (by omega) hL) dL_law_776 ?_
  refine lw_aload_n dL_law_777 rfl 0 rfl ?_
  refine lw_iload_n dL_law_778 rfl 3 rfl ?_
  refine lw_iconst (v := 3) dL_law_779 (by decide) ?_
  refine lw_iadd dL_law_780 ?_
  refine lw_sld (l_in (j := 3) rfl (by omega) hL) dL_law_781 ?_
  refine lw_aload_n dL_law_782 rfl 0 rfl ?_
  refine lw_iload_n dL_law_783 rfl 3 rfl ?_
  refine lw_iconst (v := 4) dL_law_784 (by decide) ?_
  refine lw_iadd dL_law_785 ?_
  refine lw_sld (l_in (j := 4) rfl (by omega) hL) dL_law_786 ?_
  refine lw_callM (k := 0) (As := [.int (xs (nI i + 1).toNatClampNeg), .int (xs (nI i + 2).toNatClampNeg), .int (xs (nI i + 3).toNatClampNeg), .int (xs (nI i + 4).toNatClampNeg)]) (rest := [.int r]) (am_X11_rescue 0 oM H) (by decide) hcN hsN mf_X11_rescue wd_1630 wd_1631 wd_1632 cf_X11 oM rfl rfl (Nat.le_of_ble_eq_true rfl) dL_law_787 (fun r1 hm1 H => ?_)
  refine lw_icmp_eq (tgt := 1032) dL_law_790 (by decide) H.1 ?_
  exact hg _ _ H.2
def st_began (Inv : aH → aH → Prop) (SC SM : aS) : Prop := ∀ (hc hm : aH) (a1 a2 : Int32), Inv hc hm → f_X10_began SC 0 a1 a2 hc (fun r hc' => f_X11_began SM 0 a1 a2 hm (fun r' hm' => r = r' ∧ Inv hc' hm'))
set_option maxHeartbeats 4000000 in
set_option maxRecDepth 100000 in
theorem lc_began {l : Launch} {SC SM : aS} {D : va_G} {cA : Nat → ClassId} {adC adM : Nat → Nat} {b L : Nat} {xs : Nat → Int32} {cN sN : Nat} {Inv : aH → aH → Prop} (hcN : cN ≤ 600000) (hsN : sN ≤ 7302250) (oC : aObj SC 0 9 flX10) (oM : aObj SM 0 10 flX11) (st : st_began Inv SC SM) (hL : L ≤ 3584) {i : Nat} (hi : i + 7 ≤ L) {hc hm : aH} (hI : Inv hc hm) (hg : ∀ hc hm, Inv hc hm → LW l SC SM D cA adC adM b L xs cN sN 1032 [(0, .ref b), (1, .ref (adC 0)), (2, .ref (adM 0)), (3, .int (nI i))] [] hc hm) : LW l SC SM D cA adC adM b L xs cN sN 795 [(0, .ref b), (1, .ref (adC 0)), (2, .ref (adM 0)), (3, .int (nI i))] [] hc hm := by
  refine lw_aload_n dL_law_795 rfl 1 rfl ?_
  refine lw_aload_n dL_law_796 rfl 0 rfl ?_
  refine lw_iload_n dL_law_797 rfl 3 rfl ?_
  refine lw_iconst (v := 1) dL_law_798 (by decide) ?_
  refine lw_iadd dL_law_799 ?_
  refine lw_sld (l_in (j := 1) rfl (by omega) hL) dL_law_800 ?_
  refine lw_aload_n dL_law_801 rfl 0 rfl ?_
  refine lw_iload_n dL_law_802 rfl 3 rfl ?_
  refine lw_iconst (v := 2) dL_law_803 (by decide) ?_
  refine lw_iadd dL_law_804 ?_
  refine lw_sld (l_in (j := 2) rfl (by omega) hL) dL_law_805 ?_
  refine lw_callC (k := 0) (As := [.int (xs (nI i + 1).toNatClampNeg), .int (xs (nI i + 2).toNatClampNeg)]) (rest := []) (am_X10_began 0 oC (st _ _ _ _ hI)) (by decide) hcN hsN mf_X10_began wd_942 wd_943 wd_944 cf_X10 oC rfl rfl (Nat.le_of_ble_eq_true rfl) dL_law_806 (fun r hc1 H => ?_)
  refine lw_aload_n dL_law_809 rfl 2 rfl ?_
  refine lw_aload_n dL_law_810 rfl 0 rfl ?_
  refine lw_iload_n dL_law_811 rfl 3 rfl ?_
  refine lw_iconst (v := 1) dL_law_812 (by decide) ?_
  refine lw_iadd dL_law_813 ?_
  refine lw_sld (l_in (j := 1) rfl (by omega) hL) dL_law_814 ?_
  refine lw_aload_n dL_law_815 rfl 0 rfl ?_
  refine lw_iload_n dL_law_816 rfl 3 rfl ?_
  refine lw_iconst (v := 2) dL_law_817 (by decide) ?_
  refine lw_iadd dL_law_818 ?_
  refine lw_sld (l_in (j := 2) rfl (by omega) hL) dL_law_819 ?_
  refine lw_callM (k := 0) (As := [.int (xs (nI i + 1).toNatClampNeg), .int (xs (nI i + 2).toNatClampNeg)]) (rest := [.int r]) (am_X11_began 0 oM H) (by decide) hcN hsN mf_X11_began wd_1646 wd_1647 wd_1648 cf_X11 oM rfl rfl (Nat.le_of_ble_eq_true rfl) dL_law_820 (fun r1 hm1 H => ?_)
  refine lw_icmp_eq (tgt := 1032) dL_law_823 (by decide) H.1 ?_
  exact hg _ _ H.2
def st_fee (Inv : aH → aH → Prop) (SC SM : aS) : Prop := ∀ (hc hm : aH) (a1 a2 a3 : Int32), Inv hc hm → f_X10_fee SC 0 a1 a2 a3 hc (fun r hc' => f_X11_fee SM 0 a1 a2 a3 hm (fun r' hm' => r = r' ∧ Inv hc' hm'))
set_option maxHeartbeats 4000000 in
set_option maxRecDepth 100000 in
theorem lc_fee {l : Launch} {SC SM : aS} {D : va_G} {cA : Nat → ClassId} {adC adM : Nat → Nat} {b L : Nat} {xs : Nat → Int32} {cN sN : Nat} {Inv : aH → aH → Prop} (hcN : cN ≤ 600000) (hsN : sN ≤ 7302250) (oC : aObj SC 0 9 flX10) (oM : aObj SM 0 10 flX11) (st : st_fee Inv SC SM) (hL : L ≤ 3584) {i : Nat} (hi : i + 7 ≤ L) {hc hm : aH} (hI : Inv hc hm) (hg : ∀ hc hm, Inv hc hm → LW l SC SM D cA adC adM b L xs cN sN 1032 [(0, .ref b), (1, .ref (adC 0)), (2, .ref (adM 0)), (3, .int (nI i))] [] hc hm) : LW l SC SM D cA adC adM b L xs cN sN 828 [(0, .ref b), (1, .ref (adC 0)), (2, .ref (adM 0)), (3, .int (nI i))] [] hc hm := by
  refine lw_aload_n dL_law_828 rfl 1 rfl ?_
  refine lw_aload_n dL_law_829 rfl 0 rfl ?_
  refine lw_iload_n dL_law_830 rfl 3 rfl ?_
  refine lw_iconst (v := 1) dL_law_831 (by decide) ?_
  refine lw_iadd dL_law_832 ?_
  refine lw_sld (l_in (j := 1) rfl (by omega) hL) dL_law_833 ?_
  refine lw_aload_n dL_law_834 rfl 0 rfl ?_
  refine lw_iload_n dL_law_835 rfl 3 rfl ?_
  refine lw_iconst (v := 2) dL_law_836 (by decide) ?_
  refine lw_iadd dL_law_837 ?_
  refine lw_sld (l_in (j := 2) rfl (by omega) hL) dL_law_838 ?_
  refine lw_aload_n dL_law_839 rfl 0 rfl ?_
  refine lw_iload_n dL_law_840 rfl 3 rfl ?_
  refine lw_iconst (v := 3) dL_law_841 (by decide) ?_
  refine lw_iadd dL_law_842 ?_
  refine lw_sld (l_in (j := 3) rfl (by omega) hL) dL_law_843 ?_
  refine lw_callC (k := 0) (As := [.int (xs (nI i + 1).toNatClampNeg), .int (xs (nI i + 2).toNatClampNeg), .int (xs (nI i + 3).toNatClampNeg)]) (rest := []) (am_X10_fee 0 oC (st _ _ _ _ _ hI)) (by decide) hcN hsN mf_X10_fee wd_970 wd_971 wd_972 cf_X10 oC rfl rfl (Nat.le_of_ble_eq_true rfl) dL_law_844 (fun r hc1 H => ?_)
  refine lw_aload_n dL_law_847 rfl 2 rfl ?_
  refine lw_aload_n dL_law_848 rfl 0 rfl ?_
  refine lw_iload_n dL_law_849 rfl 3 rfl ?_
  refine lw_iconst (v := 1) dL_law_850 (by decide) ?_
  refine lw_iadd dL_law_851 ?_
  refine lw_sld (l_in (j := 1) rfl (by omega) hL) dL_law_852 ?_
  refine lw_aload_n dL_law_853 rfl 0 rfl ?_
  refine lw_iload_n dL_law_854 rfl 3 rfl ?_
  refine lw_iconst (v := 2) dL_law_855 (by decide) ?_
  refine lw_iadd dL_law_856 ?_
  refine lw_sld (l_in (j := 2) rfl (by omega) hL) dL_law_857 ?_
  refine lw_aload_n dL_law_858 rfl 0 rfl ?_
  refine lw_iload_n dL_law_859 rfl 3 rfl ?_
  refine lw_iconst (v := 3) dL_law_860 (by decide) ?_
  refine lw_iadd dL_law_861 ?_
  refine lw_sld (l_in (j := 3) rfl (by omega) hL) dL_law_862 ?_
  refine lw_callM (k := 0) (As := [.int (xs (nI i + 1).toNatClampNeg), .int (xs (nI i + 2).toNatClampNeg), .int (xs (nI i + 3).toNatClampNeg)]) (rest := [.int r]) (am_X11_fee 0 oM H) (by decide) hcN hsN mf_X11_fee wd_1655 wd_1656 wd_1657 cf_X11 oM rfl rfl (Nat.le_of_ble_eq_true rfl) dL_law_863 (fun r1 hm1 H => ?_)
  refine lw_icmp_eq (tgt := 1032) dL_law_866 (by decide) H.1 ?_
  exact hg _ _ H.2
def st_row (Inv : aH → aH → Prop) (SC SM : aS) : Prop := ∀ (hc hm : aH) (a1 a2 : Int32), Inv hc hm → f_X10_row SC 0 a1 a2 hc (fun r hc' => f_X11_row SM 0 a1 a2 hm (fun r' hm' => r = r' ∧ Inv hc' hm'))
set_option maxHeartbeats 4000000 in
set_option maxRecDepth 100000 in
theorem lc_row {l : Launch} {SC SM : aS} {D : va_G} {cA : Nat → ClassId} {adC adM : Nat → Nat} {b L : Nat} {xs : Nat → Int32} {cN sN : Nat} {Inv : aH → aH → Prop} (hcN : cN ≤ 600000) (hsN : sN ≤ 7302250) (oC : aObj SC 0 9 flX10) (oM : aObj SM 0 10 flX11) (st : st_row Inv SC SM) (hL : L ≤ 3584) {i : Nat} (hi : i + 7 ≤ L) {hc hm : aH} (hI : Inv hc hm) (hg : ∀ hc hm, Inv hc hm → LW l SC SM D cA adC adM b L xs cN sN 1032 [(0, .ref b), (1, .ref (adC 0)), (2, .ref (adM 0)), (3, .int (nI i))] [] hc hm) : LW l SC SM D cA adC adM b L xs cN sN 871 [(0, .ref b), (1, .ref (adC 0)), (2, .ref (adM 0)), (3, .int (nI i))] [] hc hm := by
  refine lw_aload_n dL_law_871 rfl 1 rfl ?_
  refine lw_aload_n dL_law_872 rfl 0 rfl ?_
  refine lw_iload_n dL_law_873 rfl 3 rfl ?_
  refine lw_iconst (v := 1) dL_law_874 (by decide) ?_
  refine lw_iadd dL_law_875 ?_
  refine lw_sld (l_in (j := 1) rfl (by omega) hL) dL_law_876 ?_
  refine lw_aload_n dL_law_877 rfl 0 rfl ?_
  refine lw_iload_n dL_law_878 rfl 3 rfl ?_
  refine lw_iconst (v := 2) dL_law_879 (by decide) ?_
  refine lw_iadd dL_law_880 ?_
  refine lw_sld (l_in (j := 2) rfl (by omega) hL) dL_law_881 ?_
  refine lw_callC (k := 0) (As := [.int (xs (nI i + 1).toNatClampNeg), .int (xs (nI i + 2).toNatClampNeg)]) (rest := []) (am_X10_row 0 oC (st _ _ _ _ hI)) (by decide) hcN hsN mf_X10_row wd_979 wd_980 wd_981 cf_X10 oC rfl rfl (Nat.le_of_ble_eq_true rfl) dL_law_882 (fun r hc1 H => ?_)
  refine lw_aload_n dL_law_885 rfl 2 rfl ?_
  refine lw_aload_n dL_law_886 rfl 0 rfl ?_
  refine lw_iload_n dL_law_887 rfl 3 rfl ?_
  refine lw_iconst (v := 1) dL_law_888 (by decide) ?_
  refine lw_iadd dL_law_889 ?_
  refine lw_sld (l_in (j := 1) rfl (by omega) hL) dL_law_890 ?_
  refine lw_aload_n dL_law_891 rfl 0 rfl ?_
  refine lw_iload_n dL_law_892 rfl 3 rfl ?_
  refine lw_iconst (v := 2) dL_law_893 (by decide) ?_
  refine lw_iadd dL_law_894 ?_
  refine lw_sld (l_in (j := 2) rfl (by omega) hL) dL_law_895 ?_
  refine lw_callM (k := 0) (As := [.int (xs (nI i + 1).toNatClampNeg), .int (xs (nI i + 2).toNatClampNeg)]) (rest := [.int r]) (am_X11_row 0 oM H) (by decide) hcN hsN mf_X11_row wd_1659 wd_1660 wd_1661 cf_X11 oM rfl rfl (Nat.le_of_ble_eq_true rfl) dL_law_896 (fun r1 hm1 H => ?_)
  refine lw_icmp_eq (tgt := 1032) dL_law_899 (by decide) H.1 ?_
  exact hg _ _ H.2
def st_seed (Inv : aH → aH → Prop) (SC SM : aS) : Prop := ∀ (hc hm : aH) (a1 : Int32), Inv hc hm → f_X10_seed SC 0 a1 hc (fun r hc' => f_X11_seed SM 0 a1 hm (fun r' hm' => r = r' ∧ Inv hc' hm'))
set_option maxHeartbeats 4000000 in
set_option maxRecDepth 100000 in
theorem lc_seed {l : Launch} {SC SM : aS} {D : va_G} {cA : Nat → ClassId} {adC adM : Nat → Nat} {b L : Nat} {xs : Nat → Int32} {cN sN : Nat} {Inv : aH → aH → Prop} (hcN : cN ≤ 600000) (hsN : sN ≤ 7302250) (oC : aObj SC 0 9 flX10) (oM : aObj SM 0 10 flX11) (st : st_seed Inv SC SM) (hL : L ≤ 3584) {i : Nat} (hi : i + 7 ≤ L) {hc hm : aH} (hI : Inv hc hm) (hg : ∀ hc hm, Inv hc hm → LW l SC SM D cA adC adM b L xs cN sN 1032 [(0, .ref b), (1, .ref (adC 0)), (2, .ref (adM 0)), (3, .int (nI i))] [] hc hm) : LW l SC SM D cA adC adM b L xs cN sN 904 [(0, .ref b), (1, .ref (adC 0)), (2, .ref (adM 0)), (3, .int (nI i))] [] hc hm := by
  refine lw_aload_n dL_law_904 rfl 1 rfl ?_
  refine lw_aload_n dL_law_905 rfl 0 rfl ?_
  refine lw_iload_n dL_law_906 rfl 3 rfl ?_
  refine lw_iconst (v := 1) dL_law_907 (by decide) ?_
  refine lw_iadd dL_law_908 ?_
  refine lw_sld (l_in (j := 1) rfl (by omega) hL) dL_law_909 ?_
  refine lw_callC (k := 0) (As := [.int (xs (nI i + 1).toNatClampNeg)]) (rest := []) (am_X10_seed 0 oC (st _ _ _ hI)) (by decide) hcN hsN mf_X10_seed wd_983 wd_984 wd_985 cf_X10 oC rfl rfl (Nat.le_of_ble_eq_true rfl) dL_law_910 (fun r hc1 H => ?_)
  refine lw_aload_n dL_law_913 rfl 2 rfl ?_
  refine lw_aload_n dL_law_914 rfl 0 rfl ?_
  refine lw_iload_n dL_law_915 rfl 3 rfl ?_
  refine lw_iconst (v := 1) dL_law_916 (by decide) ?_
  refine lw_iadd dL_law_917 ?_
  refine lw_sld (l_in (j := 1) rfl (by omega) hL) dL_law_918 ?_
  refine lw_callM (k := 0) (As := [.int (xs (nI i + 1).toNatClampNeg)]) (rest := [.int r]) (am_X11_seed 0 oM H) (by decide) hcN hsN mf_X11_seed wd_1663 wd_1664 wd_1665 cf_X11 oM rfl rfl (Nat.le_of_ble_eq_true rfl) dL_law_919 (fun r1 hm1 H => ?_)
  refine lw_icmp_eq (tgt := 1032) dL_law_922 (by decide) H.1 ?_
  exact hg _ _ H.2
def st_draw (Inv : aH → aH → Prop) (SC SM : aS) : Prop := ∀ (hc hm : aH) (a1 : Int32), Inv hc hm → f_X10_draw SC 0 a1 hc (fun r hc' => f_X11_draw SM 0 a1 hm (fun r' hm' => r = r' ∧ Inv hc' hm'))
set_option maxHeartbeats 4000000 in
set_option maxRecDepth 100000 in
theorem lc_draw {l : Launch} {SC SM : aS} {D : va_G} {cA : Nat → ClassId} {adC adM : Nat → Nat} {b L : Nat} {xs : Nat → Int32} {cN sN : Nat} {Inv : aH → aH → Prop} (hcN : cN ≤ 600000) (hsN : sN ≤ 7302250) (oC : aObj SC 0 9 flX10) (oM : aObj SM 0 10 flX11) (st : st_draw Inv SC SM) (hL : L ≤ 3584) {i : Nat} (hi : i + 7 ≤ L) {hc hm : aH} (hI : Inv hc hm) (hg : ∀ hc hm, Inv hc hm → LW l SC SM D cA adC adM b L xs cN sN 1032 [(0, .ref b), (1, .ref (adC 0)), (2, .ref (adM 0)), (3, .int (nI i))] [] hc hm) : LW l SC SM D cA adC adM b L xs cN sN 927 [(0, .ref b), (1, .ref (adC 0)), (2, .ref (adM 0)), (3, .int (nI i))] [] hc hm := by
  refine lw_aload_n dL_law_927 rfl 1 rfl ?_
  refine lw_aload_n dL_law_928 rfl 0 rfl ?_
  refine lw_iload_n dL_law_929 rfl 3 rfl ?_
  refine lw_iconst (v := 1) dL_law_930 (by decide) ?_
  refine lw_iadd dL_law_931 ?_
  refine lw_sld (l_in (j := 1) rfl (by omega) hL) dL_law_932 ?_
  refine lw_callC (k := 0) (As := [.int (xs (nI i + 1).toNatClampNeg)]) (rest := []) (am_X10_draw 0 oC (st _ _ _ hI)) (by decide) hcN hsN mf_X10_draw wd_988 wd_989 wd_990 cf_X10 oC rfl rfl (Nat.le_of_ble_eq_true rfl) dL_law_933 (fun r hc1 H => ?_)
  refine lw_aload_n dL_law_936 rfl 2 rfl ?_
  refine lw_aload_n dL_law_937 rfl 0 rfl ?_
  refine lw_iload_n dL_law_938 rfl 3 rfl ?_
  refine lw_iconst (v := 1) dL_law_939 (by decide) ?_
  refine lw_iadd dL_law_940 ?_
  refine lw_sld (l_in (j := 1) rfl (by omega) hL) dL_law_941 ?_
  refine lw_callM (k := 0) (As := [.int (xs (nI i + 1).toNatClampNeg)]) (rest := [.int r]) (am_X11_draw 0 oM H) (by decide) hcN hsN mf_X11_draw wd_1668 wd_1669 wd_1670 cf_X11 oM rfl rfl (Nat.le_of_ble_eq_true rfl) dL_law_942 (fun r1 hm1 H => ?_)
  refine lw_icmp_eq (tgt := 1032) dL_law_945 (by decide) H.1 ?_
  exact hg _ _ H.2
def st_keep (Inv : aH → aH → Prop) (SC SM : aS) : Prop := ∀ (hc hm : aH), Inv hc hm → f_X10_keep SC 0  hc (fun r hc' => f_X11_keep SM 0  hm (fun r' hm' => r = r' ∧ Inv hc' hm'))
set_option maxHeartbeats 4000000 in
set_option maxRecDepth 100000 in
theorem lc_keep {l : Launch} {SC SM : aS} {D : va_G} {cA : Nat → ClassId} {adC adM : Nat → Nat} {b L : Nat} {xs : Nat → Int32} {cN sN : Nat} {Inv : aH → aH → Prop} (hcN : cN ≤ 600000) (hsN : sN ≤ 7302250) (oC : aObj SC 0 9 flX10) (oM : aObj SM 0 10 flX11) (st : st_keep Inv SC SM) (hL : L ≤ 3584) {i : Nat} (hi : i + 7 ≤ L) {hc hm : aH} (hI : Inv hc hm) (hg : ∀ hc hm, Inv hc hm → LW l SC SM D cA adC adM b L xs cN sN 1032 [(0, .ref b), (1, .ref (adC 0)), (2, .ref (adM 0)), (3, .int (nI i))] [] hc hm) : LW l SC SM D cA adC adM b L xs cN sN 950 [(0, .ref b), (1, .ref (adC 0)), (2, .ref (adM 0)), (3, .int (nI i))] [] hc hm := by
  refine lw_aload_n dL_law_950 rfl 1 rfl ?_
  refine lw_callC (k := 0) (As := []) (rest := []) (am_X10_keep 0 oC (st _ _ hI)) (by decide) hcN hsN mf_X10_keep wd_999 wd_1000 wd_1001 cf_X10 oC rfl rfl (Nat.le_of_ble_eq_true rfl) dL_law_951 (fun r hc1 H => ?_)
  refine lw_aload_n dL_law_954 rfl 2 rfl ?_
  refine lw_callM (k := 0) (As := []) (rest := [.int r]) (am_X11_keep 0 oM H) (by decide) hcN hsN mf_X11_keep wd_1677 wd_1678 wd_1679 cf_X11 oM rfl rfl (Nat.le_of_ble_eq_true rfl) dL_law_955 (fun r1 hm1 H => ?_)
  refine lw_icmp_eq (tgt := 1032) dL_law_958 (by decide) H.1 ?_
  exact hg _ _ H.2
def st_undo (Inv : aH → aH → Prop) (SC SM : aS) : Prop := ∀ (hc hm : aH), Inv hc hm → f_X10_undo SC 0  hc (fun r hc' => f_X11_undo SM 0  hm (fun r' hm' => r = r' ∧ Inv hc' hm'))
set_option maxHeartbeats 4000000 in
set_option maxRecDepth 100000 in
theorem lc_undo {l : Launch} {SC SM : aS} {D : va_G} {cA : Nat → ClassId} {adC adM : Nat → Nat} {b L : Nat} {xs : Nat → Int32} {cN sN : Nat} {Inv : aH → aH → Prop} (hcN : cN ≤ 600000) (hsN : sN ≤ 7302250) (oC : aObj SC 0 9 flX10) (oM : aObj SM 0 10 flX11) (st : st_undo Inv SC SM) (hL : L ≤ 3584) {i : Nat} (hi : i + 7 ≤ L) {hc hm : aH} (hI : Inv hc hm) (hg : ∀ hc hm, Inv hc hm → LW l SC SM D cA adC adM b L xs cN sN 1032 [(0, .ref b), (1, .ref (adC 0)), (2, .ref (adM 0)), (3, .int (nI i))] [] hc hm) : LW l SC SM D cA adC adM b L xs cN sN 963 [(0, .ref b), (1, .ref (adC 0)), (2, .ref (adM 0)), (3, .int (nI i))] [] hc hm := by
  refine lw_aload_n dL_law_963 rfl 1 rfl ?_
  refine lw_callC (k := 0) (As := []) (rest := []) (am_X10_undo 0 oC (st _ _ hI)) (by decide) hcN hsN mf_X10_undo wd_1003 wd_1004 wd_1005 cf_X10 oC rfl rfl (Nat.le_of_ble_eq_true rfl) dL_law_964 (fun r hc1 H => ?_)
  refine lw_aload_n dL_law_967 rfl 2 rfl ?_
  refine lw_callM (k := 0) (As := []) (rest := [.int r]) (am_X11_undo 0 oM H) (by decide) hcN hsN mf_X11_undo wd_1681 wd_1682 wd_1683 cf_X11 oM rfl rfl (Nat.le_of_ble_eq_true rfl) dL_law_968 (fun r1 hm1 H => ?_)
  refine lw_icmp_eq (tgt := 1032) dL_law_971 (by decide) H.1 ?_
  exact hg _ _ H.2
def st_check (Inv : aH → aH → Prop) (SC SM : aS) : Prop := ∀ (hc hm : aH) (a1 a2 : Int32), Inv hc hm → f_X10_check SC 0 a1 a2 hc (fun r hc' => f_X11_check SM 0 a1 a2 hm (fun r' hm' => r = r' ∧ Inv hc' hm'))
set_option maxHeartbeats 4000000 in
set_option maxRecDepth 100000 in
theorem lc_check {l : Launch} {SC SM : aS} {D : va_G} {cA : Nat → ClassId} {adC adM : Nat → Nat} {b L : Nat} {xs : Nat → Int32} {cN sN : Nat} {Inv : aH → aH → Prop} (hcN : cN ≤ 600000) (hsN : sN ≤ 7302250) (oC : aObj SC 0 9 flX10) (oM : aObj SM 0 10 flX11) (st : st_check Inv SC SM) (hL : L ≤ 3584) {i : Nat} (hi : i + 7 ≤ L) {hc hm : aH} (hI : Inv hc hm) (hg : ∀ hc hm, Inv hc hm → LW l SC SM D cA adC adM b L xs cN sN 1032 [(0, .ref b), (1, .ref (adC 0)), (2, .ref (adM 0)), (3, .int (nI i))] [] hc hm) : LW l SC SM D cA adC adM b L xs cN sN 976 [(0, .ref b), (1, .ref (adC 0)), (2, .ref (adM 0)), (3, .int (nI i))] [] hc hm := by
  refine lw_aload_n dL_law_976 rfl 1 rfl ?_
  refine lw_aload_n dL_law_977 rfl 0 rfl ?_
  refine lw_iload_n dL_law_978 rfl 3 rfl ?_
  refine lw_iconst (v := 1) dL_law_979 (by decide) ?_
  refine lw_iadd dL_law_980 ?_
  refine lw_sld (l_in (j := 1) rfl (by omega) hL) dL_law_981 ?_
  refine lw_aload_n dL_law_982 rfl 0 rfl ?_
  refine lw_iload_n dL_law_983 rfl 3 rfl ?_
  refine lw_iconst (v := 2) dL_law_984 (by decide) ?_
  refine lw_iadd dL_law_985 ?_
  refine lw_sld (l_in (j := 2) rfl (by omega) hL) dL_law_986 ?_
  refine lw_callC (k := 0) (As := [.int (xs (nI i + 1).toNatClampNeg), .int (xs (nI i + 2).toNatClampNeg)]) (rest := []) (am_X10_check 0 oC (st _ _ _ _ hI)) (by decide) hcN hsN mf_X10_check wd_1007 wd_1008 wd_1009 cf_X10 oC rfl rfl (Nat.le_of_ble_eq_true rfl) dL_law_987 (fun r hc1 H => ?_)
  refine lw_aload_n dL_law_990 rfl 2 rfl ?_
  refine lw_aload_n dL_law_991 rfl 0 rfl ?_
  refine lw_iload_n dL_law_992 rfl 3 rfl ?_
  refine lw_iconst (v := 1) dL_law_993 (by decide) ?_
  refine lw_iadd dL_law_994 ?_
  refine lw_sld (l_in (j := 1) rfl (by omega) hL) dL_law_995 ?_
  refine lw_aload_n dL_law_996 rfl 0 rfl ?_
  refine lw_iload_n dL_law_997 rfl 3 rfl ?_
  refine lw_iconst (v := 2) dL_law_998 (by decide) ?_
  refine lw_iadd dL_law_999 ?_
  refine lw_sld (l_in (j := 2) rfl (by omega) hL) dL_law_1000 ?_
  refine lw_callM (k := 0) (As := [.int (xs (nI i + 1).toNatClampNeg), .int (xs (nI i + 2).toNatClampNeg)]) (rest := [.int r]) (am_X11_check 0 oM H) (by decide) hcN hsN mf_X11_check wd_1685 wd_1686 wd_1687 cf_X11 oM rfl rfl (Nat.le_of_ble_eq_true rfl) dL_law_1001 (fun r1 hm1 H => ?_)
  refine lw_icmp_eq (tgt := 1032) dL_law_1004 (by decide) H.1 ?_
  exact hg _ _ H.2
def st_count (Inv : aH → aH → Prop) (SC SM : aS) : Prop := ∀ (hc hm : aH) (a1 : Int32), Inv hc hm → f_X10_count SC 0 a1 hc (fun r hc' => f_X11_count SM 0 a1 hm (fun r' hm' => r = r' ∧ Inv hc' hm'))
set_option maxHeartbeats 4000000 in
set_option maxRecDepth 100000 in
theorem lc_count {l : Launch} {SC SM : aS} {D : va_G} {cA : Nat → ClassId} {adC adM : Nat → Nat} {b L : Nat} {xs : Nat → Int32} {cN sN : Nat} {Inv : aH → aH → Prop} (hcN : cN ≤ 600000) (hsN : sN ≤ 7302250) (oC : aObj SC 0 9 flX10) (oM : aObj SM 0 10 flX11) (st : st_count Inv SC SM) (hL : L ≤ 3584) {i : Nat} (hi : i + 7 ≤ L) {hc hm : aH} (hI : Inv hc hm) (hg : ∀ hc hm, Inv hc hm → LW l SC SM D cA adC adM b L xs cN sN 1032 [(0, .ref b), (1, .ref (adC 0)), (2, .ref (adM 0)), (3, .int (nI i))] [] hc hm) : LW l SC SM D cA adC adM b L xs cN sN 1009 [(0, .ref b), (1, .ref (adC 0)), (2, .ref (adM 0)), (3, .int (nI i))] [] hc hm := by
  refine lw_aload_n dL_law_1009 rfl 1 rfl ?_
  refine lw_aload_n dL_law_1010 rfl 0 rfl ?_
  refine lw_iload_n dL_law_1011 rfl 3 rfl ?_
  refine lw_iconst (v := 1) dL_law_1012 (by decide) ?_
  refine lw_iadd dL_law_1013 ?_
  refine lw_sld (l_in (j := 1) rfl (by omega) hL) dL_law_1014 ?_
  refine lw_callC (k := 0) (As := [.int (xs (nI i + 1).toNatClampNeg)]) (rest := []) (am_X10_count 0 oC (st _ _ _ hI)) (by decide) hcN hsN mf_X10_count wd_1025 wd_1026 wd_1027 cf_X10 oC rfl rfl (Nat.le_of_ble_eq_true rfl) dL_law_1015 (fun r hc1 H => ?_)
  refine lw_aload_n dL_law_1018 rfl 2 rfl ?_
  refine lw_aload_n dL_law_1019 rfl 0 rfl ?_
  refine lw_iload_n dL_law_1020 rfl 3 rfl ?_
  refine lw_iconst (v := 1) dL_law_1021 (by decide) ?_
  refine lw_iadd dL_law_1022 ?_
  refine lw_sld (l_in (j := 1) rfl (by omega) hL) dL_law_1023 ?_
  refine lw_callM (k := 0) (As := [.int (xs (nI i + 1).toNatClampNeg)]) (rest := [.int r]) (am_X11_count 0 oM H) (by decide) hcN hsN mf_X11_count wd_1694 wd_1695 wd_1696 cf_X11 oM rfl rfl (Nat.le_of_ble_eq_true rfl) dL_law_1024 (fun r1 hm1 H => ?_)
  refine lw_icmp_eq (tgt := 1032) dL_law_1027 (by decide) H.1 ?_
  exact hg _ _ H.2
set_option maxHeartbeats 4000000 in
set_option maxRecDepth 100000 in
theorem law_loop {l : Launch} {SC SM : aS} {D : va_G} {cA : Nat → ClassId} {adC adM : Nat → Nat} {b L : Nat} {xs : Nat → Int32} {cN sN : Nat} {Inv : aH → aH → Prop} (hcN : cN ≤ 600000) (hsN : sN ≤ 7302250) (oC : aObj SC 0 9 flX10) (oM : aObj SM 0 10 flX11) (s_ice : st_ice Inv SC SM) (s_feed : st_feed Inv SC SM) (s_law : st_law Inv SC SM) (s_cut : st_cut Inv SC SM) (s_shut : st_shut Inv SC SM) (s_group : st_group Inv SC SM) (s_settle : st_settle Inv SC SM) (s_minutes : st_minutes Inv SC SM) (s_run : st_run Inv SC SM) (s_square : st_square Inv SC SM) (s_holeIs : st_holeIs Inv SC SM) (s_groupIs : st_groupIs Inv SC SM) (s_draws : st_draws Inv SC SM) (s_sound : st_sound Inv SC SM) (s_places : st_places Inv SC SM) (s_closing : st_closing Inv SC SM) (s_rescue : st_rescue Inv SC SM) (s_began : st_began Inv SC SM) (s_fee : st_fee Inv SC SM) (s_row : st_row Inv SC SM) (s_seed : st_seed Inv SC SM) (s_draw : st_draw Inv SC SM) (s_keep : st_keep Inv SC SM) (s_undo : st_undo Inv SC SM) (s_check : st_check Inv SC SM) (s_count : st_count Inv SC SM) (hL : L ≤ 3584) : ∀ (n i : Nat), L + 1 ≤ i + n → i ≤ L + 7 → ∀ (hc hm : aH), Inv hc hm → LW l SC SM D cA adC adM b L xs cN sN 18 [(0, .ref b), (1, .ref (adC 0)), (2, .ref (adM 0)), (3, .int (nI i))] [] hc hm := by
  intro n
  induction n with
  | zero =>
    intro i h1 h2 hc hm hI
    refine lw_iload_n dL_law_18 rfl 3 rfl ?_
    refine lw_aload_n dL_law_19 rfl 0 rfl ?_
    refine lw_slen dL_law_20 ?_
    refine lw_bipush (v := 7) dL_law_21 (by decide) ?_
    refine lw_isub dL_law_23 ?_
    refine lw_icmp_gt (tgt := 1038) dL_law_24 (by decide) (fun c1 => ?_) (fun c1 => ?_)
    · refine lw_iconst (v := 1) dL_law_1038 (by decide) ?_
      exact lw_end hcN hsN dL_law_1039
    · refine absurd ?_ c1
      rw [Int32.lt_iff_toInt_lt]
      have e1 : (Int32.ofNat L - 7).toInt = (L : Int) - 7 := pk_sub_toInt (a := L) (b := 7) (by omega) (by omega)
      have e2 : (nI i).toInt = (i : Int) := nI_toInt (by omega)
      rw [e1, e2]
      omega
  | succ n ih =>
    intro i h1 h2 hc hm hI
    refine lw_iload_n dL_law_18 rfl 3 rfl ?_
    refine lw_aload_n dL_law_19 rfl 0 rfl ?_
    refine lw_slen dL_law_20 ?_
    refine lw_bipush (v := 7) dL_law_21 (by decide) ?_
    refine lw_isub dL_law_23 ?_
    refine lw_icmp_gt (tgt := 1038) dL_law_24 (by decide) (fun c1 => ?_) (fun c1 => ?_)
    · refine lw_iconst (v := 1) dL_law_1038 (by decide) ?_
      exact lw_end hcN hsN dL_law_1039
    · have hi : i + 7 ≤ L := by
        have e1 : (Int32.ofNat L - 7).toInt = (L : Int) - 7 := pk_sub_toInt (a := L) (b := 7) (by omega) (by omega)
        have e2 : (nI i).toInt = (i : Int) := nI_toInt (by omega)
        rw [Int32.lt_iff_toInt_lt, e1, e2] at c1
        omega
      have hg : ∀ hc hm, Inv hc hm → LW l SC SM D cA adC adM b L xs cN sN 1032 [(0, .ref b), (1, .ref (adC 0)), (2, .ref (adM 0)), (3, .int (nI i))] [] hc hm := fun hc hm hI => by
        refine lw_iinc (v := nI (i + 7)) (lv' := [(3, .int (nI (i + 7))), (0, .ref b), (1, .ref (adC 0)), (2, .ref (adM 0))]) dL_law_1032 (n0 := 3) rfl (by rw [← nI_add]; rfl) (by decide) rfl ?_
        refine lw_goto (tgt := 18) dL_law_1035 (by decide) ?_
        refine lw_sub (lv' := [(0, .ref b), (1, .ref (adC 0)), (2, .ref (adM 0)), (3, .int (nI (i + 7)))]) [1, 2, 3, 0] rfl ?_
        exact ih (i + 7) (by omega) (by omega) hc hm hI
      refine lw_aload_n dL_law_27 rfl 0 rfl ?_
      refine lw_iload_n dL_law_28 rfl 3 rfl ?_
      refine lw_sld (vp_in_nI (by omega) (by omega)) dL_law_29 ?_
      refine lw_bipush (v := 31) dL_law_30 (by decide) ?_
      refine lw_iand dL_law_32 ?_
      generalize xs (nI i).toNatClampNeg &&& 31 = z
      by_cases c_0 : z = 0
      · refine lw_tableIn (off := 119) (tgt := 152) dL_law_33 (by rw [c_0]; decide) (by rw [c_0]; decide) (by rw [c_0]; decide) (by decide) ?_
        exact lc_ice hcN hsN oC oM s_ice hL hi hI hg
      by_cases c_1 : z = 1
      · refine lw_tableIn (off := 162) (tgt := 195) dL_law_33 (by rw [c_1]; decide) (by rw [c_1]; decide) (by rw [c_1]; decide) (by decide) ?_
        exact lc_feed hcN hsN oC oM s_feed hL hi hI hg
      by_cases c_2 : z = 2
      · refine lw_tableIn (off := 225) (tgt := 258) dL_law_33 (by rw [c_2]; decide) (by rw [c_2]; decide) (by rw [c_2]; decide) (by decide) ?_
        exact lc_law hcN hsN oC oM s_law hL hi hI hg
      by_cases c_3 : z = 3
      · refine lw_tableIn (off := 248) (tgt := 281) dL_law_33 (by rw [c_3]; decide) (by rw [c_3]; decide) (by rw [c_3]; decide) (by decide) ?_
        exact lc_cut hcN hsN oC oM s_cut hL hi hI hg
      by_cases c_4 : z = 4
      · refine lw_tableIn (off := 323) (tgt := 356) dL_law_33 (by rw [c_4]; decide) (by rw [c_4]; decide) (by rw [c_4]; decide) (by decide) ?_
        exact lc_shut hcN hsN oC oM s_shut hL hi hI hg
      by_cases c_5 : z = 5
      · refine lw_tableIn (off := 346) (tgt := 379) dL_law_33 (by rw [c_5]; decide) (by rw [c_5]; decide) (by rw [c_5]; decide) (by decide) ?_
        exact lc_group hcN hsN oC oM s_group hL hi hI hg
      by_cases c_6 : z = 6
      · refine lw_tableIn (off := 389) (tgt := 422) dL_law_33 (by rw [c_6]; decide) (by rw [c_6]; decide) (by rw [c_6]; decide) (by decide) ?_
        exact lc_settle hcN hsN oC oM s_settle hL hi hI hg
      by_cases c_7 : z = 7
      · refine lw_tableIn (off := 402) (tgt := 435) dL_law_33 (by rw [c_7]; decide) (by rw [c_7]; decide) (by rw [c_7]; decide) (by decide) ?_
        exact lc_minutes hcN hsN oC oM s_minutes hL hi hI hg
      by_cases c_8 : z = 8
      · refine lw_tableIn (off := 425) (tgt := 458) dL_law_33 (by rw [c_8]; decide) (by rw [c_8]; decide) (by rw [c_8]; decide) (by decide) ?_
        exact lc_run hcN hsN oC oM s_run hL hi hI hg
      by_cases c_9 : z = 9
      · refine lw_tableIn (off := 458) (tgt := 491) dL_law_33 (by rw [c_9]; decide) (by rw [c_9]; decide) (by rw [c_9]; decide) (by decide) ?_
        exact lc_square hcN hsN oC oM s_square hL hi hI hg
      by_cases c_10 : z = 10
      · refine lw_tableIn (off := 501) (tgt := 534) dL_law_33 (by rw [c_10]; decide) (by rw [c_10]; decide) (by rw [c_10]; decide) (by decide) ?_
        exact lc_holeIs hcN hsN oC oM s_holeIs hL hi hI hg
      by_cases c_11 : z = 11
      · refine lw_tableIn (off := 534) (tgt := 567) dL_law_33 (by rw [c_11]; decide) (by rw [c_11]; decide) (by rw [c_11]; decide) (by decide) ?_
        exact lc_groupIs hcN hsN oC oM s_groupIs hL hi hI hg
      by_cases c_12 : z = 12
      · refine lw_tableIn (off := 567) (tgt := 600) dL_law_33 (by rw [c_12]; decide) (by rw [c_12]; decide) (by rw [c_12]; decide) (by decide) ?_
        exact lc_draws hcN hsN oC oM s_draws hL hi hI hg
      by_cases c_13 : z = 13
      · refine lw_tableIn (off := 600) (tgt := 633) dL_law_33 (by rw [c_13]; decide) (by rw [c_13]; decide) (by rw [c_13]; decide) (by decide) ?_
        exact lc_sound hcN hsN oC oM s_sound hL hi hI hg
      by_cases c_14 : z = 14
      · refine lw_tableIn (off := 633) (tgt := 666) dL_law_33 (by rw [c_14]; decide) (by rw [c_14]; decide) (by rw [c_14]; decide) (by decide) ?_
        exact lc_places hcN hsN oC oM s_places hL hi hI hg
      by_cases c_15 : z = 15
      · refine lw_tableIn (off := 666) (tgt := 699) dL_law_33 (by rw [c_15]; decide) (by rw [c_15]; decide) (by rw [c_15]; decide) (by decide) ?_
        exact lc_closing hcN hsN oC oM s_closing hL hi hI hg
      by_cases c_16 : z = 16
      · refine lw_tableIn (off := 709) (tgt := 742) dL_law_33 (by rw [c_16]; decide) (by rw [c_16]; decide) (by rw [c_16]; decide) (by decide) ?_
        exact lc_rescue hcN hsN oC oM s_rescue hL hi hI hg
      by_cases c_17 : z = 17
      · refine lw_tableIn (off := 762) (tgt := 795) dL_law_33 (by rw [c_17]; decide) (by rw [c_17]; decide) (by rw [c_17]; decide) (by decide) ?_
        exact lc_began hcN hsN oC oM s_began hL hi hI hg
      by_cases c_18 : z = 18
      · refine lw_tableIn (off := 795) (tgt := 828) dL_law_33 (by rw [c_18]; decide) (by rw [c_18]; decide) (by rw [c_18]; decide) (by decide) ?_
        exact lc_fee hcN hsN oC oM s_fee hL hi hI hg
      by_cases c_19 : z = 19
      · refine lw_tableIn (off := 838) (tgt := 871) dL_law_33 (by rw [c_19]; decide) (by rw [c_19]; decide) (by rw [c_19]; decide) (by decide) ?_
        exact lc_row hcN hsN oC oM s_row hL hi hI hg
      by_cases c_20 : z = 20
      · refine lw_tableIn (off := 871) (tgt := 904) dL_law_33 (by rw [c_20]; decide) (by rw [c_20]; decide) (by rw [c_20]; decide) (by decide) ?_
        exact lc_seed hcN hsN oC oM s_seed hL hi hI hg
      by_cases c_21 : z = 21
      · refine lw_tableIn (off := 894) (tgt := 927) dL_law_33 (by rw [c_21]; decide) (by rw [c_21]; decide) (by rw [c_21]; decide) (by decide) ?_
        exact lc_draw hcN hsN oC oM s_draw hL hi hI hg
      by_cases c_22 : z = 22
      · refine lw_tableIn (off := 917) (tgt := 950) dL_law_33 (by rw [c_22]; decide) (by rw [c_22]; decide) (by rw [c_22]; decide) (by decide) ?_
        exact lc_keep hcN hsN oC oM s_keep hL hi hI hg
      by_cases c_23 : z = 23
      · refine lw_tableIn (off := 930) (tgt := 963) dL_law_33 (by rw [c_23]; decide) (by rw [c_23]; decide) (by rw [c_23]; decide) (by decide) ?_
        exact lc_undo hcN hsN oC oM s_undo hL hi hI hg
      by_cases c_24 : z = 24
      · refine lw_tableIn (off := 943) (tgt := 976) dL_law_33 (by rw [c_24]; decide) (by rw [c_24]; decide) (by rw [c_24]; decide) (by decide) ?_
        exact lc_check hcN hsN oC oM s_check hL hi hI hg
      by_cases c_25 : z = 25
      · refine lw_tableIn (off := 976) (tgt := 1009) dL_law_33 (by rw [c_25]; decide) (by rw [c_25]; decide) (by rw [c_25]; decide) (by decide) ?_
        exact lc_count hcN hsN oC oM s_count hL hi hI hg
      have t_0 := a_ne (n := 0) (v := 0) (by decide) c_0
      have t_1 := a_ne (n := 1) (v := 1) (by decide) c_1
      have t_2 := a_ne (n := 2) (v := 2) (by decide) c_2
      have t_3 := a_ne (n := 3) (v := 3) (by decide) c_3
      have t_4 := a_ne (n := 4) (v := 4) (by decide) c_4
      have t_5 := a_ne (n := 5) (v := 5) (by decide) c_5
      have t_6 := a_ne (n := 6) (v := 6) (by decide) c_6
      have t_7 := a_ne (n := 7) (v := 7) (by decide) c_7
      have t_8 := a_ne (n := 8) (v := 8) (by decide) c_8
      have t_9 := a_ne (n := 9) (v := 9) (by decide) c_9
      have t_10 := a_ne (n := 10) (v := 10) (by decide) c_10
      have t_11 := a_ne (n := 11) (v := 11) (by decide) c_11
      have t_12 := a_ne (n := 12) (v := 12) (by decide) c_12
      have t_13 := a_ne (n := 13) (v := 13) (by decide) c_13
      have t_14 := a_ne (n := 14) (v := 14) (by decide) c_14
      have t_15 := a_ne (n := 15) (v := 15) (by decide) c_15
      have t_16 := a_ne (n := 16) (v := 16) (by decide) c_16
      have t_17 := a_ne (n := 17) (v := 17) (by decide) c_17
      have t_18 := a_ne (n := 18) (v := 18) (by decide) c_18
      have t_19 := a_ne (n := 19) (v := 19) (by decide) c_19
      have t_20 := a_ne (n := 20) (v := 20) (by decide) c_20
      have t_21 := a_ne (n := 21) (v := 21) (by decide) c_21
      have t_22 := a_ne (n := 22) (v := 22) (by decide) c_22
      have t_23 := a_ne (n := 23) (v := 23) (by decide) c_23
      have t_24 := a_ne (n := 24) (v := 24) (by decide) c_24
      have t_25 := a_ne (n := 25) (v := 25) (by decide) c_25
      refine lw_tableOut (tgt := 1032) dL_law_33 (by omega) (by decide) ?_
      exact hg hc hm hI

