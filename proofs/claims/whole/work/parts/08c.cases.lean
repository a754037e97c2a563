/-- the script can be read -/
def fh_scr (X : fh_X) (b L : Nat) (xs : Nat → Int32) : Prop := match X with
  | (_, _, _, s, _, _, _, _, _, _, A, _) => va_X b L xs s s.heap ∧ b < s.heap.size ∧ ¬ A b
def lvL (b x i : Nat) : List (Nat × Value) := [(0, va_rf (some b)), (1, va_rf (some x)), (2, va_rf (some (x + 32))), (3, .int (nI i))]
theorem fl_ld {X : fh_X} {R : Room} {nL : Nat} {z : Nat × Nat × Nat} {K : fh_K} {M : fh_M} {pc : Nat} {lv : List (Nat × Value)} {st : List Value} {cc : ByteArray} {own : String} {b L j : Nat} {xs : Nat → Int32} {v : Int32} (C : fh_C X nL cc own) (hs : fh_scr X b L xs) (hv : v = nI j) (hj : j < L) (hL : L ≤ 3072) (hd : decode cc pc = .ok (.iaload, 1)) (kk : fh_V X R nL z K M (pc + 1) lv (.int (xs j) :: st)) : fh_V X R nL z K M pc lv (.int v :: va_rf (some b) :: st) := by
  obtain ⟨p, l, e, s, m, args, below, meth, c, D, A, Q⟩ := X
  subst hv
  intro H locs ls hP hz hS hA hl
  refine va_sld C.1 C.2.1 hs.1 hs.2.1 hs.2.2 hS (vp_in_nI hj (by omega)) hd ?_
  rw [cl_n (by omega)]
  exact kk H locs ls hP hz hS hA hl
theorem fl_len {X : fh_X} {R : Room} {nL : Nat} {z : Nat × Nat × Nat} {K : fh_K} {M : fh_M} {pc : Nat} {lv : List (Nat × Value)} {st : List Value} {cc : ByteArray} {own : String} {b L : Nat} {xs : Nat → Int32} (C : fh_C X nL cc own) (hs : fh_scr X b L xs) (hd : decode cc pc = .ok (.arraylength, 1)) (kk : fh_V X R nL z K M (pc + 1) lv (.int (nI L) :: st)) : fh_V X R nL z K M pc lv (va_rf (some b) :: st) := by
  obtain ⟨p, l, e, s, m, args, below, meth, c, D, A, Q⟩ := X
  intro H locs ls hP hz hS hA hl
  exact va_slen C.1 C.2.1 hs.1 hs.2.1 hs.2.2 hS hd (kk H locs ls hP hz hS hA hl)
theorem fl_arg {X : fh_X} {R : Room} {z : Nat × Nat × Nat} {K : fh_K} {M : fh_M} {pc : Nat} {st : List Value} {cc : ByteArray} {own : String} {b L x i k : Nat} {xs : Nat → Int32} {n : Int} (C : fh_C X 4 cc own) (hs : fh_scr X b L xs) (hv : Int32.ofInt n = nI k) (hj : i + k < L) (hL : L ≤ 3072) (h0 : decode cc pc = .ok (.aload_n 0, 1)) (h1 : decode cc (pc + 1) = .ok (.iload_n 3, 1)) (h2 : decode cc (pc + 2) = .ok (.iconst n, 1)) (h3 : decode cc (pc + 3) = .ok (.iadd, 1)) (h4 : decode cc (pc + 4) = .ok (.iaload, 1)) (kk : fh_V X R 4 z K M (pc + 5) (lvL b x i) (.int (xs (i + k)) :: st)) : fh_V X R 4 z K M pc (lvL b x i) st := by
  refine fv_aload_n (x := some b) C 0 rfl rfl h0 ?_
  refine fv_iload_n (x := nI i) C 3 rfl rfl h1 ?_
  refine fv_iconst (v := nI k) C hv h2 ?_
  refine fv_iadd C h3 ?_
  exact fl_ld C hs (nI_add i k) hj hL h4 kk
/-- not 0, as a number -/
def bz (v : Int32) : Nat := if v = 0 then 0 else 1
theorem bz_le (v : Int32) : bz v ≤ 1 := by
  unfold bz
  by_cases h : v = 0
  · rw [if_pos h]; omega
  · rw [if_neg h]; omega
theorem fl_bool {X : fh_X} {R : Room} {nL : Nat} {z : Nat × Nat × Nat} {K : fh_K} {M : fh_M} {pc : Nat} {lv : List (Nat × Value)} {st : List Value} {cc : ByteArray} {own : String} {v : Int32} (C : fh_C X nL cc own) (h0 : decode cc pc = .ok (.ifCond .eq 7, 3)) (h1 : decode cc (pc + 3) = .ok (.iconst 1, 1)) (h2 : decode cc (pc + 4) = .ok (.goto 4, 3)) (h3 : decode cc (pc + 7) = .ok (.iconst 0, 1)) (kk : fh_V X R nL z K M (pc + 8) lv (.int (nI (bz v)) :: st)) : fh_V X R nL z K M pc lv (.int v :: st) := by
  refine fv_if_eq C (pc + 7) (by omega) h0 (fun h => ?_) (fun h => ?_)
  · refine fv_iconst (v := nI (bz v)) C (by unfold bz; rw [if_pos h]; decide) h3 ?_
    exact kk
  · refine fv_iconst (v := nI (bz v)) C (by unfold bz; rw [if_neg h]; decide) h1 ?_
    exact fv_goto C (pc + 8) (by omega) h2 kk
theorem cl_kind {sz : Nat} {K : fh_K} {M : fh_M} {x : Nat} {σ : sT} (hI : Inv sz K M x σ) : (K x).1 = 10 + 1 := by rw [ck0 hI.2.1]
theorem ml_kind {sz : Nat} {K : fh_K} {M : fh_M} {x : Nat} {σ : sT} (hI : Inv sz K M x σ) : (K (x + 32)).1 = 11 + 1 := by rw [hI.2.2.2.1.1]
theorem lc_0 {X : fh_X} {b L x i sz zc zs : Nat} {xs : Nat → Int32} {K : fh_K} {M : fh_M} {σ : sT} (C : fh_C X 4 cL_law RL) (hs : fh_scr X b L xs) (hL : L ≤ 3072) (hi : i + 6 ≤ L) (hI : Inv sz K M x σ) (hc : zc + 3 ≤ 600000) (hz : zs + 169 ≤ 7302250) (nx : ∀ sz K M σ, Inv sz K M x σ → fh_V X room_1 4 (sz, zc + 3, zs + 169) K M 860 (lvL b x i) []) : fh_V X room_1 4 (sz, zc, zs) K M 128 (lvL b x i) [] := by
  obtain ⟨r, M1, M2, σ1, h1, h2, hI1⟩ := op_feed hI (xs (i + 1)) (xs (i + 2)) (xs (i + 3)) (xs (i + 4)) (xs (i + 5))
  have k1 := cl_kind hI
  have k2 := ml_kind hI1
  refine fv_aload_n C 1 rfl rfl dL_law_128 ?_
  refine fl_arg (k := 1) C hs (by decide) (by omega) hL dL_law_129 dL_law_130 dL_law_131 dL_law_132 dL_law_133 ?_
  refine fl_arg (k := 2) C hs (by decide) (by omega) hL dL_law_134 dL_law_135 dL_law_136 dL_law_137 dL_law_138 ?_
  refine fl_arg (k := 3) C hs (by decide) (by omega) hL dL_law_139 dL_law_140 dL_law_141 dL_law_142 dL_law_143 ?_
  refine fl_arg (k := 4) C hs (by decide) (by omega) hL dL_law_144 dL_law_145 dL_law_146 dL_law_147 dL_law_148 ?_
  refine fl_arg (k := 5) C hs (by decide) (by omega) hL dL_law_149 dL_law_150 dL_law_151 dL_law_152 dL_law_153 ?_
  refine fv_callV [.int (xs (i + 1)), .int (xs (i + 2)), .int (xs (i + 3)), .int (xs (i + 4)), .int (xs (i + 5))] C mi_X10_feed ms_X10_feed lk_RL_13 rfl k1 (r_X10_feed _ _ _ h1) ⟨Nat.le_of_ble_eq_true rfl, Nat.le_of_ble_eq_true rfl⟩ ⟨(by show zc + 0 ≤ 600000; omega), (by show zs + 0 ≤ 7302250; omega)⟩ rfl rfl (by simp [va_rf_cat, cat_i, cat_l]) dL_law_154 ?_
  refine fv_aload_n C 2 rfl rfl dL_law_157 ?_
  refine fl_arg (k := 1) C hs (by decide) (by omega) hL dL_law_158 dL_law_159 dL_law_160 dL_law_161 dL_law_162 ?_
  refine fl_arg (k := 2) C hs (by decide) (by omega) hL dL_law_163 dL_law_164 dL_law_165 dL_law_166 dL_law_167 ?_
  refine fl_arg (k := 3) C hs (by decide) (by omega) hL dL_law_168 dL_law_169 dL_law_170 dL_law_171 dL_law_172 ?_
  refine fl_arg (k := 4) C hs (by decide) (by omega) hL dL_law_173 dL_law_174 dL_law_175 dL_law_176 dL_law_177 ?_
  refine fl_arg (k := 5) C hs (by decide) (by omega) hL dL_law_178 dL_law_179 dL_law_180 dL_law_181 dL_law_182 ?_
  refine fv_callV [.int (xs (i + 1)), .int (xs (i + 2)), .int (xs (i + 3)), .int (xs (i + 4)), .int (xs (i + 5))] C mi_X11_feed ms_X11_feed lk_RL_17 rfl k2 (r_X11_feed _ _ _ h2) ⟨Nat.le_of_ble_eq_true rfl, Nat.le_of_ble_eq_true rfl⟩ ⟨(by show zc + 0 + 0 ≤ 600000; omega), (by show zs + 0 + 0 ≤ 7302250; omega)⟩ rfl rfl (by simp [va_rf_cat, cat_i, cat_l]) dL_law_183 ?_
  refine fv_icmp_eq C 860 (by decide) dL_law_186 (fun _ => ?_) (fun q => absurd rfl q)
  refine fv_widen (cc := ⟨#[]⟩) (own := "") (mc := zc + 3) (ms := zs + 169) (by show zc + 0 + 0 ≤ zc + 3; omega) (by show zs + 0 + 0 ≤ zs + 169; omega) ?_
  exact nx _ _ _ _ hI1
theorem lc_1 {X : fh_X} {b L x i sz zc zs : Nat} {xs : Nat → Int32} {K : fh_K} {M : fh_M} {σ : sT} (C : fh_C X 4 cL_law RL) (hs : fh_scr X b L xs) (hL : L ≤ 3072) (hi : i + 6 ≤ L) (hI : Inv sz K M x σ) (hc : zc + 3 ≤ 600000) (hz : zs + 169 ≤ 7302250) (nx : ∀ sz K M σ, Inv sz K M x σ → fh_V X room_1 4 (sz, zc + 3, zs + 169) K M 860 (lvL b x i) []) : fh_V X room_1 4 (sz, zc, zs) K M 191 (lvL b x i) [] := by
  obtain ⟨r, sz1, K1, M1, M2, σ1, h1, h2, hI1⟩ := op_make hI (xs (i + 1)) (xs (i + 2)) (xs (i + 4)) (bz (xs (i + 3))) (bz_le _)
  have k1 := cl_kind hI
  have k2 := ml_kind hI1
  refine fv_aload_n C 1 rfl rfl dL_law_191 ?_
  refine fl_arg (k := 1) C hs (by decide) (by omega) hL dL_law_192 dL_law_193 dL_law_194 dL_law_195 dL_law_196 ?_
  refine fl_arg (k := 2) C hs (by decide) (by omega) hL dL_law_197 dL_law_198 dL_law_199 dL_law_200 dL_law_201 ?_
  refine fl_arg (k := 3) C hs (by decide) (by omega) hL dL_law_202 dL_law_203 dL_law_204 dL_law_205 dL_law_206 ?_
  refine fl_bool C dL_law_207 dL_law_210 dL_law_211 dL_law_214 ?_
  refine fl_arg (k := 4) C hs (by decide) (by omega) hL dL_law_215 dL_law_216 dL_law_217 dL_law_218 dL_law_219 ?_
  refine fv_callV [.int (xs (i + 1)), .int (xs (i + 2)), .int (nI (bz (xs (i + 3)))), .int (xs (i + 4))] C mi_X10_make ms_X10_make lk_RL_18 rfl k1 (r_X10_make _ _ _ h1) ⟨Nat.le_of_ble_eq_true rfl, Nat.le_of_ble_eq_true rfl⟩ ⟨(by show zc + 3 ≤ 600000; omega), (by show zs + 164 ≤ 7302250; omega)⟩ rfl rfl (by simp [va_rf_cat, cat_i, cat_l]) dL_law_220 ?_
  refine fv_aload_n C 2 rfl rfl dL_law_223 ?_
  refine fl_arg (k := 1) C hs (by decide) (by omega) hL dL_law_224 dL_law_225 dL_law_226 dL_law_227 dL_law_228 ?_
  refine fl_arg (k := 2) C hs (by decide) (by omega) hL dL_law_229 dL_law_230 dL_law_231 dL_law_232 dL_law_233 ?_
  refine fl_arg (k := 3) C hs (by decide) (by omega) hL dL_law_234 dL_law_235 dL_law_236 dL_law_237 dL_law_238 ?_
  refine fl_bool C dL_law_239 dL_law_242 dL_law_243 dL_law_246 ?_
  refine fl_arg (k := 4) C hs (by decide) (by omega) hL dL_law_247 dL_law_248 dL_law_249 dL_law_250 dL_law_251 ?_
  refine fv_callV [.int (xs (i + 1)), .int (xs (i + 2)), .int (nI (bz (xs (i + 3)))), .int (xs (i + 4))] C mi_X11_make ms_X11_make lk_RL_22 rfl k2 (r_X11_make _ _ _ h2) ⟨Nat.le_of_ble_eq_true rfl, Nat.le_of_ble_eq_true rfl⟩ ⟨(by show zc + 3 + 0 ≤ 600000; omega), (by show zs + 164 + 0 ≤ 7302250; omega)⟩ rfl rfl (by simp [va_rf_cat, cat_i, cat_l]) dL_law_252 ?_
  refine fv_icmp_eq C 860 (by decide) dL_law_255 (fun _ => ?_) (fun q => absurd rfl q)
  refine fv_widen (cc := ⟨#[]⟩) (own := "") (mc := zc + 3) (ms := zs + 169) (by show zc + 3 + 0 ≤ zc + 3; omega) (by show zs + 164 + 0 ≤ zs + 169; omega) ?_
  exact nx _ _ _ _ hI1
theorem lc_2 {X : fh_X} {b L x i sz zc zs : Nat} {xs : Nat → Int32} {K : fh_K} {M : fh_M} {σ : sT} (C : fh_C X 4 cL_law RL) (hs : fh_scr X b L xs) (hL : L ≤ 3072) (hi : i + 6 ≤ L) (hI : Inv sz K M x σ) (hc : zc + 3 ≤ 600000) (hz : zs + 169 ≤ 7302250) (nx : ∀ sz K M σ, Inv sz K M x σ → fh_V X room_1 4 (sz, zc + 3, zs + 169) K M 860 (lvL b x i) []) : fh_V X room_1 4 (sz, zc, zs) K M 260 (lvL b x i) [] := by
  obtain ⟨r, sz1, K1, M1, M2, σ1, h1, h2, hI1⟩ := op_file hI (xs (i + 1))
  have k1 := cl_kind hI
  have k2 := ml_kind hI1
  refine fv_aload_n C 1 rfl rfl dL_law_260 ?_
  refine fl_arg (k := 1) C hs (by decide) (by omega) hL dL_law_261 dL_law_262 dL_law_263 dL_law_264 dL_law_265 ?_
  refine fv_callV [.int (xs (i + 1))] C mi_X10_file ms_X10_file lk_RL_23 rfl k1 (r_X10_file _ _ _ h1) ⟨Nat.le_of_ble_eq_true rfl, Nat.le_of_ble_eq_true rfl⟩ ⟨(by show zc + 3 ≤ 600000; omega), (by show zs + 169 ≤ 7302250; omega)⟩ rfl rfl (by simp [va_rf_cat, cat_i, cat_l]) dL_law_266 ?_
  refine fv_aload_n C 2 rfl rfl dL_law_269 ?_
  refine fl_arg (k := 1) C hs (by decide) (by omega) hL dL_law_270 dL_law_271 dL_law_272 dL_law_273 dL_law_274 ?_
  refine fv_callV [.int (xs (i + 1))] C mi_X11_file ms_X11_file lk_RL_27 rfl k2 (r_X11_file _ _ _ h2) ⟨Nat.le_of_ble_eq_true rfl, Nat.le_of_ble_eq_true rfl⟩ ⟨(by show zc + 3 + 0 ≤ 600000; omega), (by show zs + 169 + 0 ≤ 7302250; omega)⟩ rfl rfl (by simp [va_rf_cat, cat_i, cat_l]) dL_law_275 ?_
  refine fv_icmp_eq C 860 (by decide) dL_law_278 (fun _ => ?_) (fun q => absurd rfl q)
  refine fv_widen (cc := ⟨#[]⟩) (own := "") (mc := zc + 3) (ms := zs + 169) (by show zc + 3 + 0 ≤ zc + 3; omega) (by show zs + 169 + 0 ≤ zs + 169; omega) ?_
  exact nx _ _ _ _ hI1
theorem lc_3 {X : fh_X} {b L x i sz zc zs : Nat} {xs : Nat → Int32} {K : fh_K} {M : fh_M} {σ : sT} (C : fh_C X 4 cL_law RL) (hs : fh_scr X b L xs) (hL : L ≤ 3072) (hi : i + 6 ≤ L) (hI : Inv sz K M x σ) (hc : zc + 3 ≤ 600000) (hz : zs + 169 ≤ 7302250) (nx : ∀ sz K M σ, Inv sz K M x σ → fh_V X room_1 4 (sz, zc + 3, zs + 169) K M 860 (lvL b x i) []) : fh_V X room_1 4 (sz, zc, zs) K M 283 (lvL b x i) [] := by
  obtain ⟨r, M1, M2, σ1, h1, h2, hI1⟩ := op_must hI (xs (i + 1)) (xs (i + 2))
  have k1 := cl_kind hI
  have k2 := ml_kind hI1
  refine fv_aload_n C 1 rfl rfl dL_law_283 ?_
  refine fl_arg (k := 1) C hs (by decide) (by omega) hL dL_law_284 dL_law_285 dL_law_286 dL_law_287 dL_law_288 ?_
  refine fl_arg (k := 2) C hs (by decide) (by omega) hL dL_law_289 dL_law_290 dL_law_291 dL_law_292 dL_law_293 ?_
  refine fv_callV [.int (xs (i + 1)), .int (xs (i + 2))] C mi_X10_must ms_X10_must lk_RL_28 rfl k1 (r_X10_must _ _ _ h1) ⟨Nat.le_of_ble_eq_true rfl, Nat.le_of_ble_eq_true rfl⟩ ⟨(by show zc + 0 ≤ 600000; omega), (by show zs + 0 ≤ 7302250; omega)⟩ rfl rfl (by simp [va_rf_cat, cat_i, cat_l]) dL_law_294 ?_
  refine fv_aload_n C 2 rfl rfl dL_law_297 ?_
  refine fl_arg (k := 1) C hs (by decide) (by omega) hL dL_law_298 dL_law_299 dL_law_300 dL_law_301 dL_law_302 ?_
  refine fl_arg (k := 2) C hs (by decide) (by omega) hL dL_law_303 dL_law_304 dL_law_305 dL_law_306 dL_law_307 ?_
  refine fv_callV [.int (xs (i + 1)), .int (xs (i + 2))] C mi_X11_must ms_X11_must lk_RL_32 rfl k2 (r_X11_must _ _ _ h2) ⟨Nat.le_of_ble_eq_true rfl, Nat.le_of_ble_eq_true rfl⟩ ⟨(by show zc + 0 + 0 ≤ 600000; omega), (by show zs + 0 + 0 ≤ 7302250; omega)⟩ rfl rfl (by simp [va_rf_cat, cat_i, cat_l]) dL_law_308 ?_
  refine fv_icmp_eq C 860 (by decide) dL_law_311 (fun _ => ?_) (fun q => absurd rfl q)
  refine fv_widen (cc := ⟨#[]⟩) (own := "") (mc := zc + 3) (ms := zs + 169) (by show zc + 0 + 0 ≤ zc + 3; omega) (by show zs + 0 + 0 ≤ zs + 169; omega) ?_
  exact nx _ _ _ _ hI1
theorem lc_4 {X : fh_X} {b L x i sz zc zs : Nat} {xs : Nat → Int32} {K : fh_K} {M : fh_M} {σ : sT} (C : fh_C X 4 cL_law RL) (hs : fh_scr X b L xs) (hL : L ≤ 3072) (hi : i + 6 ≤ L) (hI : Inv sz K M x σ) (hc : zc + 3 ≤ 600000) (hz : zs + 169 ≤ 7302250) (nx : ∀ sz K M σ, Inv sz K M x σ → fh_V X room_1 4 (sz, zc + 3, zs + 169) K M 860 (lvL b x i) []) : fh_V X room_1 4 (sz, zc, zs) K M 316 (lvL b x i) [] := by
  obtain ⟨r, M1, M2, σ1, h1, h2, hI1⟩ := op_machine hI (xs (i + 1)) (xs (i + 2)) (xs (i + 3))
  have k1 := cl_kind hI
  have k2 := ml_kind hI1
  refine fv_aload_n C 1 rfl rfl dL_law_316 ?_
  refine fl_arg (k := 1) C hs (by decide) (by omega) hL dL_law_317 dL_law_318 dL_law_319 dL_law_320 dL_law_321 ?_
  refine fl_arg (k := 2) C hs (by decide) (by omega) hL dL_law_322 dL_law_323 dL_law_324 dL_law_325 dL_law_326 ?_
  refine fl_arg (k := 3) C hs (by decide) (by omega) hL dL_law_327 dL_law_328 dL_law_329 dL_law_330 dL_law_331 ?_
  refine fv_callV [.int (xs (i + 1)), .int (xs (i + 2)), .int (xs (i + 3))] C mi_X10_machine ms_X10_machine lk_RL_33 rfl k1 (r_X10_machine _ _ _ h1) ⟨Nat.le_of_ble_eq_true rfl, Nat.le_of_ble_eq_true rfl⟩ ⟨(by show zc + 0 ≤ 600000; omega), (by show zs + 0 ≤ 7302250; omega)⟩ rfl rfl (by simp [va_rf_cat, cat_i, cat_l]) dL_law_332 ?_
  refine fv_aload_n C 2 rfl rfl dL_law_335 ?_
  refine fl_arg (k := 1) C hs (by decide) (by omega) hL dL_law_336 dL_law_337 dL_law_338 dL_law_339 dL_law_340 ?_
  refine fl_arg (k := 2) C hs (by decide) (by omega) hL dL_law_341 dL_law_342 dL_law_343 dL_law_344 dL_law_345 ?_
  refine fl_arg (k := 3) C hs (by decide) (by omega) hL dL_law_346 dL_law_347 dL_law_348 dL_law_349 dL_law_350 ?_
  refine fv_callV [.int (xs (i + 1)), .int (xs (i + 2)), .int (xs (i + 3))] C mi_X11_machine ms_X11_machine lk_RL_37 rfl k2 (r_X11_machine _ _ _ h2) ⟨Nat.le_of_ble_eq_true rfl, Nat.le_of_ble_eq_true rfl⟩ ⟨(by show zc + 0 + 0 ≤ 600000; omega), (by show zs + 0 + 0 ≤ 7302250; omega)⟩ rfl rfl (by simp [va_rf_cat, cat_i, cat_l]) dL_law_351 ?_
  refine fv_icmp_eq C 860 (by decide) dL_law_354 (fun _ => ?_) (fun q => absurd rfl q)
  refine fv_widen (cc := ⟨#[]⟩) (own := "") (mc := zc + 3) (ms := zs + 169) (by show zc + 0 + 0 ≤ zc + 3; omega) (by show zs + 0 + 0 ≤ zs + 169; omega) ?_
  exact nx _ _ _ _ hI1
theorem lc_5 {X : fh_X} {b L x i sz zc zs : Nat} {xs : Nat → Int32} {K : fh_K} {M : fh_M} {σ : sT} (C : fh_C X 4 cL_law RL) (hs : fh_scr X b L xs) (hL : L ≤ 3072) (hi : i + 6 ≤ L) (hI : Inv sz K M x σ) (hc : zc + 3 ≤ 600000) (hz : zs + 169 ≤ 7302250) (nx : ∀ sz K M σ, Inv sz K M x σ → fh_V X room_1 4 (sz, zc + 3, zs + 169) K M 860 (lvL b x i) []) : fh_V X room_1 4 (sz, zc, zs) K M 359 (lvL b x i) [] := by
  obtain ⟨r, M1, M2, σ1, h1, h2, hI1⟩ := op_reader hI (xs (i + 1)) (xs (i + 2))
  have k1 := cl_kind hI
  have k2 := ml_kind hI1
  refine fv_aload_n C 1 rfl rfl dL_law_359 ?_
  refine fl_arg (k := 1) C hs (by decide) (by omega) hL dL_law_360 dL_law_361 dL_law_362 dL_law_363 dL_law_364 ?_
  refine fl_arg (k := 2) C hs (by decide) (by omega) hL dL_law_365 dL_law_366 dL_law_367 dL_law_368 dL_law_369 ?_
  refine fv_callV [.int (xs (i + 1)), .int (xs (i + 2))] C mi_X10_reader ms_X10_reader lk_RL_38 rfl k1 (r_X10_reader _ _ _ h1) ⟨Nat.le_of_ble_eq_true rfl, Nat.le_of_ble_eq_true rfl⟩ ⟨(by show zc + 0 ≤ 600000; omega), (by show zs + 0 ≤ 7302250; omega)⟩ rfl rfl (by simp [va_rf_cat, cat_i, cat_l]) dL_law_370 ?_
  refine fv_aload_n C 2 rfl rfl dL_law_373 ?_
  refine fl_arg (k := 1) C hs (by decide) (by omega) hL dL_law_374 dL_law_375 dL_law_376 dL_law_377 dL_law_378 ?_
  refine fl_arg (k := 2) C hs (by decide) (by omega) hL dL_law_379 dL_law_380 dL_law_381 dL_law_382 dL_law_383 ?_
  refine fv_callV [.int (xs (i + 1)), .int (xs (i + 2))] C mi_X11_reader ms_X11_reader lk_RL_41 rfl k2 (r_X11_reader _ _ _ h2) ⟨Nat.le_of_ble_eq_true rfl, Nat.le_of_ble_eq_true rfl⟩ ⟨(by show zc + 0 + 0 ≤ 600000; omega), (by show zs + 0 + 0 ≤ 7302250; omega)⟩ rfl rfl (by simp [va_rf_cat, cat_i, cat_l]) dL_law_384 ?_
  refine fv_icmp_eq C 860 (by decide) dL_law_387 (fun _ => ?_) (fun q => absurd rfl q)
  refine fv_widen (cc := ⟨#[]⟩) (own := "") (mc := zc + 3) (ms := zs + 169) (by show zc + 0 + 0 ≤ zc + 3; omega) (by show zs + 0 + 0 ≤ zs + 169; omega) ?_
  exact nx _ _ _ _ hI1
theorem lc_6 {X : fh_X} {b L x i sz zc zs : Nat} {xs : Nat → Int32} {K : fh_K} {M : fh_M} {σ : sT} (C : fh_C X 4 cL_law RL) (hs : fh_scr X b L xs) (hL : L ≤ 3072) (hi : i + 6 ≤ L) (hI : Inv sz K M x σ) (hc : zc + 3 ≤ 600000) (hz : zs + 169 ≤ 7302250) (nx : ∀ sz K M σ, Inv sz K M x σ → fh_V X room_1 4 (sz, zc + 3, zs + 169) K M 860 (lvL b x i) []) : fh_V X room_1 4 (sz, zc, zs) K M 392 (lvL b x i) [] := by
  obtain ⟨r, sz1, K1, M1, M2, σ1, h1, h2, hI1⟩ := op_turner hI (xs (i + 1)) (xs (i + 2)) (xs (i + 3)) (xs (i + 4)) (xs (i + 5))
  have k1 := cl_kind hI
  have k2 := ml_kind hI1
  refine fv_aload_n C 1 rfl rfl dL_law_392 ?_
  refine fl_arg (k := 1) C hs (by decide) (by omega) hL dL_law_393 dL_law_394 dL_law_395 dL_law_396 dL_law_397 ?_
  refine fl_arg (k := 2) C hs (by decide) (by omega) hL dL_law_398 dL_law_399 dL_law_400 dL_law_401 dL_law_402 ?_
  refine fl_arg (k := 3) C hs (by decide) (by omega) hL dL_law_403 dL_law_404 dL_law_405 dL_law_406 dL_law_407 ?_
  refine fl_arg (k := 4) C hs (by decide) (by omega) hL dL_law_408 dL_law_409 dL_law_410 dL_law_411 dL_law_412 ?_
  refine fl_arg (k := 5) C hs (by decide) (by omega) hL dL_law_413 dL_law_414 dL_law_415 dL_law_416 dL_law_417 ?_
  refine fv_callV [.int (xs (i + 1)), .int (xs (i + 2)), .int (xs (i + 3)), .int (xs (i + 4)), .int (xs (i + 5))] C mi_X10_turner ms_X10_turner lk_RL_42 rfl k1 (r_X10_turner _ _ _ h1) ⟨Nat.le_of_ble_eq_true rfl, Nat.le_of_ble_eq_true rfl⟩ ⟨(by show zc + 1 ≤ 600000; omega), (by show zs + 5 ≤ 7302250; omega)⟩ rfl rfl (by simp [va_rf_cat, cat_i, cat_l]) dL_law_418 ?_
  refine fv_aload_n C 2 rfl rfl dL_law_421 ?_
  refine fl_arg (k := 1) C hs (by decide) (by omega) hL dL_law_422 dL_law_423 dL_law_424 dL_law_425 dL_law_426 ?_
  refine fl_arg (k := 2) C hs (by decide) (by omega) hL dL_law_427 dL_law_428 dL_law_429 dL_law_430 dL_law_431 ?_
  refine fl_arg (k := 3) C hs (by decide) (by omega) hL dL_law_432 dL_law_433 dL_law_434 dL_law_435 dL_law_436 ?_
  refine fl_arg (k := 4) C hs (by decide) (by omega) hL dL_law_437 dL_law_438 dL_law_439 dL_law_440 dL_law_441 ?_
  refine fl_arg (k := 5) C hs (by decide) (by omega) hL dL_law_442 dL_law_443 dL_law_444 dL_law_445 dL_law_446 ?_
  refine fv_callV [.int (xs (i + 1)), .int (xs (i + 2)), .int (xs (i + 3)), .int (xs (i + 4)), .int (xs (i + 5))] C mi_X11_turner ms_X11_turner lk_RL_45 rfl k2 (r_X11_turner _ _ _ h2) ⟨Nat.le_of_ble_eq_true rfl, Nat.le_of_ble_eq_true rfl⟩ ⟨(by show zc + 1 + 0 ≤ 600000; omega), (by show zs + 5 + 0 ≤ 7302250; omega)⟩ rfl rfl (by simp [va_rf_cat, cat_i, cat_l]) dL_law_447 ?_
  refine fv_icmp_eq C 860 (by decide) dL_law_450 (fun _ => ?_) (fun q => absurd rfl q)
  refine fv_widen (cc := ⟨#[]⟩) (own := "") (mc := zc + 3) (ms := zs + 169) (by show zc + 1 + 0 ≤ zc + 3; omega) (by show zs + 5 + 0 ≤ zs + 169; omega) ?_
  exact nx _ _ _ _ hI1
theorem lc_7 {X : fh_X} {b L x i sz zc zs : Nat} {xs : Nat → Int32} {K : fh_K} {M : fh_M} {σ : sT} (C : fh_C X 4 cL_law RL) (hs : fh_scr X b L xs) (hL : L ≤ 3072) (hi : i + 6 ≤ L) (hI : Inv sz K M x σ) (hc : zc + 3 ≤ 600000) (hz : zs + 169 ≤ 7302250) (nx : ∀ sz K M σ, Inv sz K M x σ → fh_V X room_1 4 (sz, zc + 3, zs + 169) K M 860 (lvL b x i) []) : fh_V X room_1 4 (sz, zc, zs) K M 455 (lvL b x i) [] := by
  obtain ⟨r, M1, M2, σ1, h1, h2, hI1⟩ := op_year hI (xs (i + 1))
  have k1 := cl_kind hI
  have k2 := ml_kind hI1
  refine fv_aload_n C 1 rfl rfl dL_law_455 ?_
  refine fl_arg (k := 1) C hs (by decide) (by omega) hL dL_law_456 dL_law_457 dL_law_458 dL_law_459 dL_law_460 ?_
  refine fv_callV [.int (xs (i + 1))] C mi_X10_year ms_X10_year lk_RL_46 rfl k1 (r_X10_year _ _ _ h1) ⟨Nat.le_of_ble_eq_true rfl, Nat.le_of_ble_eq_true rfl⟩ ⟨(by show zc + 0 ≤ 600000; omega), (by show zs + 0 ≤ 7302250; omega)⟩ rfl rfl (by simp [va_rf_cat, cat_i, cat_l]) dL_law_461 ?_
  refine fv_aload_n C 2 rfl rfl dL_law_464 ?_
  refine fl_arg (k := 1) C hs (by decide) (by omega) hL dL_law_465 dL_law_466 dL_law_467 dL_law_468 dL_law_469 ?_
  refine fv_callV [.int (xs (i + 1))] C mi_X11_year ms_X11_year lk_RL_50 rfl k2 (r_X11_year _ _ _ h2) ⟨Nat.le_of_ble_eq_true rfl, Nat.le_of_ble_eq_true rfl⟩ ⟨(by show zc + 0 + 0 ≤ 600000; omega), (by show zs + 0 + 0 ≤ 7302250; omega)⟩ rfl rfl (by simp [va_rf_cat, cat_i, cat_l]) dL_law_470 ?_
  refine fv_icmp_eq C 860 (by decide) dL_law_473 (fun _ => ?_) (fun q => absurd rfl q)
  refine fv_widen (cc := ⟨#[]⟩) (own := "") (mc := zc + 3) (ms := zs + 169) (by show zc + 0 + 0 ≤ zc + 3; omega) (by show zs + 0 + 0 ≤ zs + 169; omega) ?_
  exact nx _ _ _ _ hI1
theorem lc_8 {X : fh_X} {b L x i sz zc zs : Nat} {xs : Nat → Int32} {K : fh_K} {M : fh_M} {σ : sT} (C : fh_C X 4 cL_law RL) (hs : fh_scr X b L xs) (hL : L ≤ 3072) (hi : i + 6 ≤ L) (hI : Inv sz K M x σ) (hc : zc + 3 ≤ 600000) (hz : zs + 169 ≤ 7302250) (nx : ∀ sz K M σ, Inv sz K M x σ → fh_V X room_1 4 (sz, zc + 3, zs + 169) K M 860 (lvL b x i) []) : fh_V X room_1 4 (sz, zc, zs) K M 478 (lvL b x i) [] := by
  obtain ⟨r, M1, M2, σ1, h1, h2, hI1⟩ := op_bends hI (xs (i + 1)) (xs (i + 2))
  have k1 := cl_kind hI
  have k2 := ml_kind hI1
  refine fv_aload_n C 1 rfl rfl dL_law_478 ?_
  refine fl_arg (k := 1) C hs (by decide) (by omega) hL dL_law_479 dL_law_480 dL_law_481 dL_law_482 dL_law_483 ?_
  refine fl_arg (k := 2) C hs (by decide) (by omega) hL dL_law_484 dL_law_485 dL_law_486 dL_law_487 dL_law_488 ?_
  refine fv_callV [.int (xs (i + 1)), .int (xs (i + 2))] C mi_X10_bends ms_X10_bends lk_RL_51 rfl k1 (r_X10_bends _ _ _ h1) ⟨Nat.le_of_ble_eq_true rfl, Nat.le_of_ble_eq_true rfl⟩ ⟨(by show zc + 0 ≤ 600000; omega), (by show zs + 0 ≤ 7302250; omega)⟩ rfl rfl (by simp [va_rf_cat, cat_i, cat_l]) dL_law_489 ?_
  refine fv_aload_n C 2 rfl rfl dL_law_492 ?_
  refine fl_arg (k := 1) C hs (by decide) (by omega) hL dL_law_493 dL_law_494 dL_law_495 dL_law_496 dL_law_497 ?_
  refine fl_arg (k := 2) C hs (by decide) (by omega) hL dL_law_498 dL_law_499 dL_law_500 dL_law_501 dL_law_502 ?_
  refine fv_callV [.int (xs (i + 1)), .int (xs (i + 2))] C mi_X11_bends ms_X11_bends lk_RL_55 rfl k2 (r_X11_bends _ _ _ h2) ⟨Nat.le_of_ble_eq_true rfl, Nat.le_of_ble_eq_true rfl⟩ ⟨(by show zc + 0 + 0 ≤ 600000; omega), (by show zs + 0 + 0 ≤ 7302250; omega)⟩ rfl rfl (by simp [va_rf_cat, cat_i, cat_l]) dL_law_503 ?_
  refine fv_icmp_eq C 860 (by decide) dL_law_506 (fun _ => ?_) (fun q => absurd rfl q)
  refine fv_widen (cc := ⟨#[]⟩) (own := "") (mc := zc + 3) (ms := zs + 169) (by show zc + 0 + 0 ≤ zc + 3; omega) (by show zs + 0 + 0 ≤ zs + 169; omega) ?_
  exact nx _ _ _ _ hI1
theorem lc_9 {X : fh_X} {b L x i sz zc zs : Nat} {xs : Nat → Int32} {K : fh_K} {M : fh_M} {σ : sT} (C : fh_C X 4 cL_law RL) (hs : fh_scr X b L xs) (hL : L ≤ 3072) (hi : i + 6 ≤ L) (hI : Inv sz K M x σ) (hc : zc + 3 ≤ 600000) (hz : zs + 169 ≤ 7302250) (nx : ∀ sz K M σ, Inv sz K M x σ → fh_V X room_1 4 (sz, zc + 3, zs + 169) K M 860 (lvL b x i) []) : fh_V X room_1 4 (sz, zc, zs) K M 511 (lvL b x i) [] := by
  obtain ⟨r, M2, σ1, h1, h2, hI1⟩ := op_know hI (xs (i + 1))
  have k1 := cl_kind hI
  have k2 := ml_kind hI1
  refine fv_aload_n C 1 rfl rfl dL_law_511 ?_
  refine fl_arg (k := 1) C hs (by decide) (by omega) hL dL_law_512 dL_law_513 dL_law_514 dL_law_515 dL_law_516 ?_
  refine fv_callV [.int (xs (i + 1))] C mi_X10_know ms_X10_know lk_RL_56 rfl k1 (r_X10_know _ _ _ h1) ⟨Nat.le_of_ble_eq_true rfl, Nat.le_of_ble_eq_true rfl⟩ ⟨(by show zc + 0 ≤ 600000; omega), (by show zs + 0 ≤ 7302250; omega)⟩ rfl rfl (by simp [va_rf_cat, cat_i, cat_l]) dL_law_517 ?_
  refine fv_aload_n C 2 rfl rfl dL_law_520 ?_
  refine fl_arg (k := 1) C hs (by decide) (by omega) hL dL_law_521 dL_law_522 dL_law_523 dL_law_524 dL_law_525 ?_
  refine fv_callV [.int (xs (i + 1))] C mi_X11_know ms_X11_know lk_RL_59 rfl k2 (r_X11_know _ _ _ h2) ⟨Nat.le_of_ble_eq_true rfl, Nat.le_of_ble_eq_true rfl⟩ ⟨(by show zc + 0 + 0 ≤ 600000; omega), (by show zs + 0 + 0 ≤ 7302250; omega)⟩ rfl rfl (by simp [va_rf_cat, cat_i, cat_l]) dL_law_526 ?_
  refine fv_icmp_eq C 860 (by decide) dL_law_529 (fun _ => ?_) (fun q => absurd rfl q)
  refine fv_widen (cc := ⟨#[]⟩) (own := "") (mc := zc + 3) (ms := zs + 169) (by show zc + 0 + 0 ≤ zc + 3; omega) (by show zs + 0 + 0 ≤ zs + 169; omega) ?_
  exact nx _ _ _ _ hI1
theorem lc_10 {X : fh_X} {b L x i sz zc zs : Nat} {xs : Nat → Int32} {K : fh_K} {M : fh_M} {σ : sT} (C : fh_C X 4 cL_law RL) (hs : fh_scr X b L xs) (hL : L ≤ 3072) (hi : i + 6 ≤ L) (hI : Inv sz K M x σ) (hc : zc + 3 ≤ 600000) (hz : zs + 169 ≤ 7302250) (nx : ∀ sz K M σ, Inv sz K M x σ → fh_V X room_1 4 (sz, zc + 3, zs + 169) K M 860 (lvL b x i) []) : fh_V X room_1 4 (sz, zc, zs) K M 534 (lvL b x i) [] := by
  obtain ⟨r, M1, M2, σ1, h1, h2, hI1⟩ := op_record hI (xs (i + 1)) (xs (i + 2)) (xs (i + 3))
  have k1 := cl_kind hI
  have k2 := ml_kind hI1
  refine fv_aload_n C 1 rfl rfl dL_law_534 ?_
  refine fl_arg (k := 1) C hs (by decide) (by omega) hL dL_law_535 dL_law_536 dL_law_537 dL_law_538 dL_law_539 ?_
  refine fl_arg (k := 2) C hs (by decide) (by omega) hL dL_law_540 dL_law_541 dL_law_542 dL_law_543 dL_law_544 ?_
  refine fl_arg (k := 3) C hs (by decide) (by omega) hL dL_law_545 dL_law_546 dL_law_547 dL_law_548 dL_law_549 ?_
  refine fv_callV [.int (xs (i + 1)), .int (xs (i + 2)), .int (xs (i + 3))] C mi_X10_record ms_X10_record lk_RL_60 rfl k1 (r_X10_record _ _ _ h1) ⟨Nat.le_of_ble_eq_true rfl, Nat.le_of_ble_eq_true rfl⟩ ⟨(by show zc + 0 ≤ 600000; omega), (by show zs + 0 ≤ 7302250; omega)⟩ rfl rfl (by simp [va_rf_cat, cat_i, cat_l]) dL_law_550 ?_
  refine fv_aload_n C 2 rfl rfl dL_law_553 ?_
  refine fl_arg (k := 1) C hs (by decide) (by omega) hL dL_law_554 dL_law_555 dL_law_556 dL_law_557 dL_law_558 ?_
  refine fl_arg (k := 2) C hs (by decide) (by omega) hL dL_law_559 dL_law_560 dL_law_561 dL_law_562 dL_law_563 ?_
  refine fl_arg (k := 3) C hs (by decide) (by omega) hL dL_law_564 dL_law_565 dL_law_566 dL_law_567 dL_law_568 ?_
  refine fv_callV [.int (xs (i + 1)), .int (xs (i + 2)), .int (xs (i + 3))] C mi_X11_record ms_X11_record lk_RL_64 rfl k2 (r_X11_record _ _ _ h2) ⟨Nat.le_of_ble_eq_true rfl, Nat.le_of_ble_eq_true rfl⟩ ⟨(by show zc + 0 + 0 ≤ 600000; omega), (by show zs + 0 + 0 ≤ 7302250; omega)⟩ rfl rfl (by simp [va_rf_cat, cat_i, cat_l]) dL_law_569 ?_
  refine fv_icmp_eq C 860 (by decide) dL_law_572 (fun _ => ?_) (fun q => absurd rfl q)
  refine fv_widen (cc := ⟨#[]⟩) (own := "") (mc := zc + 3) (ms := zs + 169) (by show zc + 0 + 0 ≤ zc + 3; omega) (by show zs + 0 + 0 ≤ zs + 169; omega) ?_
  exact nx _ _ _ _ hI1
theorem lc_11 {X : fh_X} {b L x i sz zc zs : Nat} {xs : Nat → Int32} {K : fh_K} {M : fh_M} {σ : sT} (C : fh_C X 4 cL_law RL) (hs : fh_scr X b L xs) (hL : L ≤ 3072) (hi : i + 6 ≤ L) (hI : Inv sz K M x σ) (hc : zc + 3 ≤ 600000) (hz : zs + 169 ≤ 7302250) (nx : ∀ sz K M σ, Inv sz K M x σ → fh_V X room_1 4 (sz, zc + 3, zs + 169) K M 860 (lvL b x i) []) : fh_V X room_1 4 (sz, zc, zs) K M 577 (lvL b x i) [] := by
  obtain ⟨r, sz1, K1, M1, M2, σ1, h1, h2, hI1⟩ := op_turn hI (xs (i + 1)) (xs (i + 2))
  have k1 := cl_kind hI
  have k2 := ml_kind hI1
  refine fv_aload_n C 1 rfl rfl dL_law_577 ?_
  refine fl_arg (k := 1) C hs (by decide) (by omega) hL dL_law_578 dL_law_579 dL_law_580 dL_law_581 dL_law_582 ?_
  refine fl_arg (k := 2) C hs (by decide) (by omega) hL dL_law_583 dL_law_584 dL_law_585 dL_law_586 dL_law_587 ?_
  refine fv_callV [.int (xs (i + 1)), .int (xs (i + 2))] C mi_X10_turn ms_X10_turn lk_RL_65 rfl k1 (r_X10_turn _ _ _ h1) ⟨Nat.le_of_ble_eq_true rfl, Nat.le_of_ble_eq_true rfl⟩ ⟨(by show zc + 3 ≤ 600000; omega), (by show zs + 169 ≤ 7302250; omega)⟩ rfl rfl (by simp [va_rf_cat, cat_i, cat_l]) dL_law_588 ?_
  refine fv_aload_n C 2 rfl rfl dL_law_591 ?_
  refine fl_arg (k := 1) C hs (by decide) (by omega) hL dL_law_592 dL_law_593 dL_law_594 dL_law_595 dL_law_596 ?_
  refine fl_arg (k := 2) C hs (by decide) (by omega) hL dL_law_597 dL_law_598 dL_law_599 dL_law_600 dL_law_601 ?_
  refine fv_callV [.int (xs (i + 1)), .int (xs (i + 2))] C mi_X11_turn ms_X11_turn lk_RL_68 rfl k2 (r_X11_turn _ _ _ h2) ⟨Nat.le_of_ble_eq_true rfl, Nat.le_of_ble_eq_true rfl⟩ ⟨(by show zc + 3 + 0 ≤ 600000; omega), (by show zs + 169 + 0 ≤ 7302250; omega)⟩ rfl rfl (by simp [va_rf_cat, cat_i, cat_l]) dL_law_602 ?_
  refine fv_icmp_eq C 860 (by decide) dL_law_605 (fun _ => ?_) (fun q => absurd rfl q)
  refine fv_widen (cc := ⟨#[]⟩) (own := "") (mc := zc + 3) (ms := zs + 169) (by show zc + 3 + 0 ≤ zc + 3; omega) (by show zs + 169 + 0 ≤ zs + 169; omega) ?_
  exact nx _ _ _ _ hI1
theorem lc_12 {X : fh_X} {b L x i sz zc zs : Nat} {xs : Nat → Int32} {K : fh_K} {M : fh_M} {σ : sT} (C : fh_C X 4 cL_law RL) (hs : fh_scr X b L xs) (hL : L ≤ 3072) (hi : i + 6 ≤ L) (hI : Inv sz K M x σ) (hc : zc + 3 ≤ 600000) (hz : zs + 169 ≤ 7302250) (nx : ∀ sz K M σ, Inv sz K M x σ → fh_V X room_1 4 (sz, zc + 3, zs + 169) K M 860 (lvL b x i) []) : fh_V X room_1 4 (sz, zc, zs) K M 610 (lvL b x i) [] := by
  obtain ⟨r, M1, M2, σ1, h1, h2, hI1⟩ := op_kept hI (xs (i + 1)) (xs (i + 2))
  have k1 := cl_kind hI
  have k2 := ml_kind hI1
  refine fv_aload_n C 1 rfl rfl dL_law_610 ?_
  refine fl_arg (k := 1) C hs (by decide) (by omega) hL dL_law_611 dL_law_612 dL_law_613 dL_law_614 dL_law_615 ?_
  refine fl_arg (k := 2) C hs (by decide) (by omega) hL dL_law_616 dL_law_617 dL_law_618 dL_law_619 dL_law_620 ?_
  refine fv_callV [.int (xs (i + 1)), .int (xs (i + 2))] C mi_X10_kept ms_X10_kept lk_RL_69 rfl k1 (r_X10_kept _ _ _ h1) ⟨Nat.le_of_ble_eq_true rfl, Nat.le_of_ble_eq_true rfl⟩ ⟨(by show zc + 0 ≤ 600000; omega), (by show zs + 0 ≤ 7302250; omega)⟩ rfl rfl (by simp [va_rf_cat, cat_i, cat_l]) dL_law_621 ?_
  refine fv_aload_n C 2 rfl rfl dL_law_624 ?_
  refine fl_arg (k := 1) C hs (by decide) (by omega) hL dL_law_625 dL_law_626 dL_law_627 dL_law_628 dL_law_629 ?_
  refine fl_arg (k := 2) C hs (by decide) (by omega) hL dL_law_630 dL_law_631 dL_law_632 dL_law_633 dL_law_634 ?_
  refine fv_callV [.int (xs (i + 1)), .int (xs (i + 2))] C mi_X11_kept ms_X11_kept lk_RL_72 rfl k2 (r_X11_kept _ _ _ h2) ⟨Nat.le_of_ble_eq_true rfl, Nat.le_of_ble_eq_true rfl⟩ ⟨(by show zc + 0 + 0 ≤ 600000; omega), (by show zs + 0 + 0 ≤ 7302250; omega)⟩ rfl rfl (by simp [va_rf_cat, cat_i, cat_l]) dL_law_635 ?_
  refine fv_icmp_eq C 860 (by decide) dL_law_638 (fun _ => ?_) (fun q => absurd rfl q)
  refine fv_widen (cc := ⟨#[]⟩) (own := "") (mc := zc + 3) (ms := zs + 169) (by show zc + 0 + 0 ≤ zc + 3; omega) (by show zs + 0 + 0 ≤ zs + 169; omega) ?_
  exact nx _ _ _ _ hI1
theorem lc_13 {X : fh_X} {b L x i sz zc zs : Nat} {xs : Nat → Int32} {K : fh_K} {M : fh_M} {σ : sT} (C : fh_C X 4 cL_law RL) (hs : fh_scr X b L xs) (hL : L ≤ 3072) (hi : i + 6 ≤ L) (hI : Inv sz K M x σ) (hc : zc + 3 ≤ 600000) (hz : zs + 169 ≤ 7302250) (nx : ∀ sz K M σ, Inv sz K M x σ → fh_V X room_1 4 (sz, zc + 3, zs + 169) K M 860 (lvL b x i) []) : fh_V X room_1 4 (sz, zc, zs) K M 643 (lvL b x i) [] := by
  obtain ⟨r, M1, M2, σ1, h1, h2, hI1⟩ := op_road hI (xs (i + 1)) (xs (i + 2))
  have k1 := cl_kind hI
  have k2 := ml_kind hI1
  refine fv_aload_n C 1 rfl rfl dL_law_643 ?_
  refine fl_arg (k := 1) C hs (by decide) (by omega) hL dL_law_644 dL_law_645 dL_law_646 dL_law_647 dL_law_648 ?_
  refine fl_arg (k := 2) C hs (by decide) (by omega) hL dL_law_649 dL_law_650 dL_law_651 dL_law_652 dL_law_653 ?_
  refine fv_callV [.int (xs (i + 1)), .int (xs (i + 2))] C mi_X10_road ms_X10_road lk_RL_73 rfl k1 (r_X10_road _ _ _ h1) ⟨Nat.le_of_ble_eq_true rfl, Nat.le_of_ble_eq_true rfl⟩ ⟨(by show zc + 0 ≤ 600000; omega), (by show zs + 0 ≤ 7302250; omega)⟩ rfl rfl (by simp [va_rf_cat, cat_i, cat_l]) dL_law_654 ?_
  refine fv_aload_n C 2 rfl rfl dL_law_657 ?_
  refine fl_arg (k := 1) C hs (by decide) (by omega) hL dL_law_658 dL_law_659 dL_law_660 dL_law_661 dL_law_662 ?_
  refine fl_arg (k := 2) C hs (by decide) (by omega) hL dL_law_663 dL_law_664 dL_law_665 dL_law_666 dL_law_667 ?_
  refine fv_callV [.int (xs (i + 1)), .int (xs (i + 2))] C mi_X11_road ms_X11_road lk_RL_76 rfl k2 (r_X11_road _ _ _ h2) ⟨Nat.le_of_ble_eq_true rfl, Nat.le_of_ble_eq_true rfl⟩ ⟨(by show zc + 0 + 0 ≤ 600000; omega), (by show zs + 0 + 0 ≤ 7302250; omega)⟩ rfl rfl (by simp [va_rf_cat, cat_i, cat_l]) dL_law_668 ?_
  refine fv_icmp_eq C 860 (by decide) dL_law_671 (fun _ => ?_) (fun q => absurd rfl q)
  refine fv_widen (cc := ⟨#[]⟩) (own := "") (mc := zc + 3) (ms := zs + 169) (by show zc + 0 + 0 ≤ zc + 3; omega) (by show zs + 0 + 0 ≤ zs + 169; omega) ?_
  exact nx _ _ _ _ hI1
theorem lc_14 {X : fh_X} {b L x i sz zc zs : Nat} {xs : Nat → Int32} {K : fh_K} {M : fh_M} {σ : sT} (C : fh_C X 4 cL_law RL) (hs : fh_scr X b L xs) (hL : L ≤ 3072) (hi : i + 6 ≤ L) (hI : Inv sz K M x σ) (hc : zc + 3 ≤ 600000) (hz : zs + 169 ≤ 7302250) (nx : ∀ sz K M σ, Inv sz K M x σ → fh_V X room_1 4 (sz, zc + 3, zs + 169) K M 860 (lvL b x i) []) : fh_V X room_1 4 (sz, zc, zs) K M 676 (lvL b x i) [] := by
  obtain ⟨r, h1, h2⟩ := op_step hI (xs (i + 1))
  have k1 := cl_kind hI
  have k2 := ml_kind hI
  refine fv_aload_n C 1 rfl rfl dL_law_676 ?_
  refine fl_arg (k := 1) C hs (by decide) (by omega) hL dL_law_677 dL_law_678 dL_law_679 dL_law_680 dL_law_681 ?_
  refine fv_callV [.int (xs (i + 1))] C mi_X10_step ms_X10_step lk_RL_77 rfl k1 (r_X10_step _ _ _ h1) ⟨Nat.le_of_ble_eq_true rfl, Nat.le_of_ble_eq_true rfl⟩ ⟨(by show zc + 0 ≤ 600000; omega), (by show zs + 0 ≤ 7302250; omega)⟩ rfl rfl (by simp [va_rf_cat, cat_i, cat_l]) dL_law_682 ?_
  refine fv_aload_n C 2 rfl rfl dL_law_685 ?_
  refine fl_arg (k := 1) C hs (by decide) (by omega) hL dL_law_686 dL_law_687 dL_law_688 dL_law_689 dL_law_690 ?_
  refine fv_callV [.int (xs (i + 1))] C mi_X11_step ms_X11_step lk_RL_80 rfl k2 (r_X11_step _ _ _ h2) ⟨Nat.le_of_ble_eq_true rfl, Nat.le_of_ble_eq_true rfl⟩ ⟨(by show zc + 0 + 0 ≤ 600000; omega), (by show zs + 0 + 0 ≤ 7302250; omega)⟩ rfl rfl (by simp [va_rf_cat, cat_i, cat_l]) dL_law_691 ?_
  refine fv_icmp_eq C 860 (by decide) dL_law_694 (fun _ => ?_) (fun q => absurd rfl q)
  refine fv_widen (cc := ⟨#[]⟩) (own := "") (mc := zc + 3) (ms := zs + 169) (by show zc + 0 + 0 ≤ zc + 3; omega) (by show zs + 0 + 0 ≤ zs + 169; omega) ?_
  exact nx _ _ _ _ hI
theorem lc_15 {X : fh_X} {b L x i sz zc zs : Nat} {xs : Nat → Int32} {K : fh_K} {M : fh_M} {σ : sT} (C : fh_C X 4 cL_law RL) (hs : fh_scr X b L xs) (hL : L ≤ 3072) (hi : i + 6 ≤ L) (hI : Inv sz K M x σ) (hc : zc + 3 ≤ 600000) (hz : zs + 169 ≤ 7302250) (nx : ∀ sz K M σ, Inv sz K M x σ → fh_V X room_1 4 (sz, zc + 3, zs + 169) K M 860 (lvL b x i) []) : fh_V X room_1 4 (sz, zc, zs) K M 699 (lvL b x i) [] := by
  obtain ⟨r, M1, M2, σ1, h1, h2, hI1⟩ := op_last hI (xs (i + 1)) (nI (bz (xs (i + 2))))
  have k1 := cl_kind hI
  have k2 := ml_kind hI1
  refine fv_aload_n C 1 rfl rfl dL_law_699 ?_
  refine fl_arg (k := 1) C hs (by decide) (by omega) hL dL_law_700 dL_law_701 dL_law_702 dL_law_703 dL_law_704 ?_
  refine fl_arg (k := 2) C hs (by decide) (by omega) hL dL_law_705 dL_law_706 dL_law_707 dL_law_708 dL_law_709 ?_
  refine fl_bool C dL_law_710 dL_law_713 dL_law_714 dL_law_717 ?_
  refine fv_callV [.int (xs (i + 1)), .int (nI (bz (xs (i + 2))))] C mi_X10_last ms_X10_last lk_RL_81 rfl k1 (r_X10_last _ _ _ h1) ⟨Nat.le_of_ble_eq_true rfl, Nat.le_of_ble_eq_true rfl⟩ ⟨(by show zc + 0 ≤ 600000; omega), (by show zs + 0 ≤ 7302250; omega)⟩ rfl rfl (by simp [va_rf_cat, cat_i, cat_l]) dL_law_718 ?_
  refine fv_aload_n C 2 rfl rfl dL_law_721 ?_
  refine fl_arg (k := 1) C hs (by decide) (by omega) hL dL_law_722 dL_law_723 dL_law_724 dL_law_725 dL_law_726 ?_
  refine fl_arg (k := 2) C hs (by decide) (by omega) hL dL_law_727 dL_law_728 dL_law_729 dL_law_730 dL_law_731 ?_
  refine fl_bool C dL_law_732 dL_law_735 dL_law_736 dL_law_739 ?_
  refine fv_callV [.int (xs (i + 1)), .int (nI (bz (xs (i + 2))))] C mi_X11_last ms_X11_last lk_RL_85 rfl k2 (r_X11_last _ _ _ h2) ⟨Nat.le_of_ble_eq_true rfl, Nat.le_of_ble_eq_true rfl⟩ ⟨(by show zc + 0 + 0 ≤ 600000; omega), (by show zs + 0 + 0 ≤ 7302250; omega)⟩ rfl rfl (by simp [va_rf_cat, cat_i, cat_l]) dL_law_740 ?_
  refine fv_icmp_eq C 860 (by decide) dL_law_743 (fun _ => ?_) (fun q => absurd rfl q)
  refine fv_widen (cc := ⟨#[]⟩) (own := "") (mc := zc + 3) (ms := zs + 169) (by show zc + 0 + 0 ≤ zc + 3; omega) (by show zs + 0 + 0 ≤ zs + 169; omega) ?_
  exact nx _ _ _ _ hI1
theorem lc_16 {X : fh_X} {b L x i sz zc zs : Nat} {xs : Nat → Int32} {K : fh_K} {M : fh_M} {σ : sT} (C : fh_C X 4 cL_law RL) (hs : fh_scr X b L xs) (hL : L ≤ 3072) (hi : i + 6 ≤ L) (hI : Inv sz K M x σ) (hc : zc + 3 ≤ 600000) (hz : zs + 169 ≤ 7302250) (nx : ∀ sz K M σ, Inv sz K M x σ → fh_V X room_1 4 (sz, zc + 3, zs + 169) K M 860 (lvL b x i) []) : fh_V X room_1 4 (sz, zc, zs) K M 748 (lvL b x i) [] := by
  obtain ⟨r, M1, M2, σ1, h1, h2, hI1⟩ := op_plan hI (xs (i + 1))
  have k1 := cl_kind hI
  have k2 := ml_kind hI1
  refine fv_aload_n C 1 rfl rfl dL_law_748 ?_
  refine fl_arg (k := 1) C hs (by decide) (by omega) hL dL_law_749 dL_law_750 dL_law_751 dL_law_752 dL_law_753 ?_
  refine fv_callV [.int (xs (i + 1))] C mi_X10_plan ms_X10_plan lk_RL_86 rfl k1 (r_X10_plan _ _ _ h1) ⟨Nat.le_of_ble_eq_true rfl, Nat.le_of_ble_eq_true rfl⟩ ⟨(by show zc + 0 ≤ 600000; omega), (by show zs + 0 ≤ 7302250; omega)⟩ rfl rfl (by simp [va_rf_cat, cat_i, cat_l]) dL_law_754 ?_
  refine fv_aload_n C 2 rfl rfl dL_law_757 ?_
  refine fl_arg (k := 1) C hs (by decide) (by omega) hL dL_law_758 dL_law_759 dL_law_760 dL_law_761 dL_law_762 ?_
  refine fv_callV [.int (xs (i + 1))] C mi_X11_plan ms_X11_plan lk_RL_89 rfl k2 (r_X11_plan _ _ _ h2) ⟨Nat.le_of_ble_eq_true rfl, Nat.le_of_ble_eq_true rfl⟩ ⟨(by show zc + 0 + 0 ≤ 600000; omega), (by show zs + 0 + 0 ≤ 7302250; omega)⟩ rfl rfl (by simp [va_rf_cat, cat_i, cat_l]) dL_law_763 ?_
  refine fv_icmp_eq C 860 (by decide) dL_law_766 (fun _ => ?_) (fun q => absurd rfl q)
  refine fv_widen (cc := ⟨#[]⟩) (own := "") (mc := zc + 3) (ms := zs + 169) (by show zc + 0 + 0 ≤ zc + 3; omega) (by show zs + 0 + 0 ≤ zs + 169; omega) ?_
  exact nx _ _ _ _ hI1
theorem lc_17 {X : fh_X} {b L x i sz zc zs : Nat} {xs : Nat → Int32} {K : fh_K} {M : fh_M} {σ : sT} (C : fh_C X 4 cL_law RL) (hs : fh_scr X b L xs) (hL : L ≤ 3072) (hi : i + 6 ≤ L) (hI : Inv sz K M x σ) (hc : zc + 3 ≤ 600000) (hz : zs + 169 ≤ 7302250) (nx : ∀ sz K M σ, Inv sz K M x σ → fh_V X room_1 4 (sz, zc + 3, zs + 169) K M 860 (lvL b x i) []) : fh_V X room_1 4 (sz, zc, zs) K M 771 (lvL b x i) [] := by
  obtain ⟨r, M1, M2, σ1, h1, h2, hI1⟩ := op_goal hI (xs (i + 1)) (xs (i + 2))
  have k1 := cl_kind hI
  have k2 := ml_kind hI1
  refine fv_aload_n C 1 rfl rfl dL_law_771 ?_
  refine fl_arg (k := 1) C hs (by decide) (by omega) hL dL_law_772 dL_law_773 dL_law_774 dL_law_775 dL_law_776 ?_
  refine fl_arg (k := 2) C hs (by decide) (by omega) hL dL_law_777 dL_law_778 dL_law_779 dL_law_780 dL_law_781 ?_
  refine fv_callV [.int (xs (i + 1)), .int (xs (i + 2))] C mi_X10_goal ms_X10_goal lk_RL_90 rfl k1 (r_X10_goal _ _ _ h1) ⟨Nat.le_of_ble_eq_true rfl, Nat.le_of_ble_eq_true rfl⟩ ⟨(by show zc + 0 ≤ 600000; omega), (by show zs + 0 ≤ 7302250; omega)⟩ rfl rfl (by simp [va_rf_cat, cat_i, cat_l]) dL_law_782 ?_
  refine fv_aload_n C 2 rfl rfl dL_law_785 ?_
  refine fl_arg (k := 1) C hs (by decide) (by omega) hL dL_law_786 dL_law_787 dL_law_788 dL_law_789 dL_law_790 ?_
  refine fl_arg (k := 2) C hs (by decide) (by omega) hL dL_law_791 dL_law_792 dL_law_793 dL_law_794 dL_law_795 ?_
  refine fv_callV [.int (xs (i + 1)), .int (xs (i + 2))] C mi_X11_goal ms_X11_goal lk_RL_93 rfl k2 (r_X11_goal _ _ _ h2) ⟨Nat.le_of_ble_eq_true rfl, Nat.le_of_ble_eq_true rfl⟩ ⟨(by show zc + 0 + 0 ≤ 600000; omega), (by show zs + 0 + 0 ≤ 7302250; omega)⟩ rfl rfl (by simp [va_rf_cat, cat_i, cat_l]) dL_law_796 ?_
  refine fv_icmp_eq C 860 (by decide) dL_law_799 (fun _ => ?_) (fun q => absurd rfl q)
  refine fv_widen (cc := ⟨#[]⟩) (own := "") (mc := zc + 3) (ms := zs + 169) (by show zc + 0 + 0 ≤ zc + 3; omega) (by show zs + 0 + 0 ≤ zs + 169; omega) ?_
  exact nx _ _ _ _ hI1
theorem lc_18 {X : fh_X} {b L x i sz zc zs : Nat} {xs : Nat → Int32} {K : fh_K} {M : fh_M} {σ : sT} (C : fh_C X 4 cL_law RL) (hs : fh_scr X b L xs) (hL : L ≤ 3072) (hi : i + 6 ≤ L) (hI : Inv sz K M x σ) (hc : zc + 3 ≤ 600000) (hz : zs + 169 ≤ 7302250) (nx : ∀ sz K M σ, Inv sz K M x σ → fh_V X room_1 4 (sz, zc + 3, zs + 169) K M 860 (lvL b x i) []) : fh_V X room_1 4 (sz, zc, zs) K M 804 (lvL b x i) [] := by
  obtain ⟨r, M2, σ1, h1, h2, hI1⟩ := op_look hI (xs (i + 1)) (xs (i + 2))
  have k1 := cl_kind hI
  have k2 := ml_kind hI1
  refine fv_aload_n C 1 rfl rfl dL_law_804 ?_
  refine fl_arg (k := 1) C hs (by decide) (by omega) hL dL_law_805 dL_law_806 dL_law_807 dL_law_808 dL_law_809 ?_
  refine fl_arg (k := 2) C hs (by decide) (by omega) hL dL_law_810 dL_law_811 dL_law_812 dL_law_813 dL_law_814 ?_
  refine fv_callV [.int (xs (i + 1)), .int (xs (i + 2))] C mi_X10_look ms_X10_look lk_RL_94 rfl k1 (r_X10_look _ _ _ h1) ⟨Nat.le_of_ble_eq_true rfl, Nat.le_of_ble_eq_true rfl⟩ ⟨(by show zc + 0 ≤ 600000; omega), (by show zs + 0 ≤ 7302250; omega)⟩ rfl rfl (by simp [va_rf_cat, cat_i, cat_l]) dL_law_815 ?_
  refine fv_aload_n C 2 rfl rfl dL_law_818 ?_
  refine fl_arg (k := 1) C hs (by decide) (by omega) hL dL_law_819 dL_law_820 dL_law_821 dL_law_822 dL_law_823 ?_
  refine fl_arg (k := 2) C hs (by decide) (by omega) hL dL_law_824 dL_law_825 dL_law_826 dL_law_827 dL_law_828 ?_
  refine fv_callV [.int (xs (i + 1)), .int (xs (i + 2))] C mi_X11_look ms_X11_look lk_RL_97 rfl k2 (r_X11_look _ _ _ h2) ⟨Nat.le_of_ble_eq_true rfl, Nat.le_of_ble_eq_true rfl⟩ ⟨(by show zc + 0 + 0 ≤ 600000; omega), (by show zs + 0 + 0 ≤ 7302250; omega)⟩ rfl rfl (by simp [va_rf_cat, cat_i, cat_l]) dL_law_829 ?_
  refine fv_icmp_eq C 860 (by decide) dL_law_832 (fun _ => ?_) (fun q => absurd rfl q)
  refine fv_widen (cc := ⟨#[]⟩) (own := "") (mc := zc + 3) (ms := zs + 169) (by show zc + 0 + 0 ≤ zc + 3; omega) (by show zs + 0 + 0 ≤ zs + 169; omega) ?_
  exact nx _ _ _ _ hI1
theorem lc_19 {X : fh_X} {b L x i sz zc zs : Nat} {xs : Nat → Int32} {K : fh_K} {M : fh_M} {σ : sT} (C : fh_C X 4 cL_law RL) (hs : fh_scr X b L xs) (hL : L ≤ 3072) (hi : i + 6 ≤ L) (hI : Inv sz K M x σ) (hc : zc + 3 ≤ 600000) (hz : zs + 169 ≤ 7302250) (nx : ∀ sz K M σ, Inv sz K M x σ → fh_V X room_1 4 (sz, zc + 3, zs + 169) K M 860 (lvL b x i) []) : fh_V X room_1 4 (sz, zc, zs) K M 837 (lvL b x i) [] := by
  obtain ⟨r, M1, M2, σ1, h1, h2, hI1⟩ := op_count hI (xs (i + 1))
  have k1 := cl_kind hI
  have k2 := ml_kind hI1
  refine fv_aload_n C 1 rfl rfl dL_law_837 ?_
  refine fl_arg (k := 1) C hs (by decide) (by omega) hL dL_law_838 dL_law_839 dL_law_840 dL_law_841 dL_law_842 ?_
  refine fv_callV [.int (xs (i + 1))] C mi_X10_count ms_X10_count lk_RL_98 rfl k1 (r_X10_count _ _ _ h1) ⟨Nat.le_of_ble_eq_true rfl, Nat.le_of_ble_eq_true rfl⟩ ⟨(by show zc + 0 ≤ 600000; omega), (by show zs + 0 ≤ 7302250; omega)⟩ rfl rfl (by simp [va_rf_cat, cat_i, cat_l]) dL_law_843 ?_
  refine fv_aload_n C 2 rfl rfl dL_law_846 ?_
  refine fl_arg (k := 1) C hs (by decide) (by omega) hL dL_law_847 dL_law_848 dL_law_849 dL_law_850 dL_law_851 ?_
  refine fv_callV [.int (xs (i + 1))] C mi_X11_count ms_X11_count lk_RL_101 rfl k2 (r_X11_count _ _ _ h2) ⟨Nat.le_of_ble_eq_true rfl, Nat.le_of_ble_eq_true rfl⟩ ⟨(by show zc + 0 + 0 ≤ 600000; omega), (by show zs + 0 + 0 ≤ 7302250; omega)⟩ rfl rfl (by simp [va_rf_cat, cat_i, cat_l]) dL_law_852 ?_
  refine fv_icmp_eq C 860 (by decide) dL_law_855 (fun _ => ?_) (fun q => absurd rfl q)
  refine fv_widen (cc := ⟨#[]⟩) (own := "") (mc := zc + 3) (ms := zs + 169) (by show zc + 0 + 0 ≤ zc + 3; omega) (by show zs + 0 + 0 ≤ zs + 169; omega) ?_
  exact nx _ _ _ _ hI1
