theorem lp_go {L i : Nat} (hL : L ≤ 3072) (hi : i ≤ 3072) (h : ¬ nI L - nI 6 < nI i) : i + 6 ≤ L := by
  by_cases z : 6 ≤ L
  · rw [n_m z] at h
    by_cases q : i + 6 ≤ L
    · exact q
    · exact absurd (nI_lt (show L - 6 < i by omega) (by omega)) h
  · exfalso
    apply h
    rw [fa_lt, nI_toInt (show i < 2 ^ 31 by omega)]
    have : L = 0 ∨ L = 1 ∨ L = 2 ∨ L = 3 ∨ L = 4 ∨ L = 5 := by omega
    have e : (nI L - nI 6).toInt < 0 := by
      rcases this with rfl | rfl | rfl | rfl | rfl | rfl <;> decide
    omega
abbrev lX (p : Program) (l : Launch) (e : Env) (s : State) (m : MethodId) (b : Nat) (below : List Frame) (meth : Method) (c : Code) (D : fh_D) : fh_X := (p, l, e, s, m, #[Value.ref b], below, meth, c, D, (fun q => s.heap.size ≤ q), lw_Z below #[Value.ref b] s)
/-- THE LAW'S LOOP -/
theorem law_loop {p : Program} {l : Launch} {e : Env} {s : State} {m : MethodId} {b : Nat} {below : List Frame} {meth : Method} {c : Code} {D : fh_D} {L x : Nat} {xs : Nat → Int32} (hL : L ≤ 3072) (C : fh_C (lX p l e s m b below meth c D) 4 cL_law RL) (hs : fh_scr (lX p l e s m b below meth c D) b L xs) (hr : meth.sig.returnType = ret) :
    ∀ n j sz K M σ, L < 6 * j + 6 * n → 6 * j ≤ L → Inv sz K M x σ → fh_V (lX p l e s m b below meth c D) room_1 4 (sz, 100 + 3 * j, 5000 + 169 * j) K M 18 (lvL b x (6 * j)) [] := by
  intro n
  induction n with
  | zero => intro j sz K M σ h1 h2; omega
  | succ n ih =>
    intro j sz K M σ h1 h2 hI
    refine fv_iload_n (x := nI (6 * j)) C 3 rfl rfl dL_law_18 ?_
    refine fv_aload_n (x := some b) C 0 rfl rfl dL_law_19 ?_
    refine fl_len C hs dL_law_20 ?_
    refine fv_bipush (v := nI 6) C (by decide) dL_law_21 ?_
    refine fv_isub C dL_law_23 ?_
    refine fv_icmp_gt C 866 (by decide) dL_law_24 (fun q => ?_) (fun q => ?_)
    · refine fv_iconst (v := 1) C (by decide) dL_law_866 ?_
      intro H locs ls hP hz hS hA hl
      refine va_forget (fun q hq => hS.2.2 q hq) ?_
      refine W.widen (k := 600000) (n := 7302250) (by show 100 + 3 * j ≤ 600000; omega) (by show 5000 + 169 * j ≤ 7302250; omega) ?_
      exact lw_ret C.1 C.2.1 hr C.2.2.2.2.2.2.1 dL_law_867
    · have hi6 : 6 * j + 6 ≤ L := lp_go hL (by omega) q
      have nx : ∀ sz K M σ, Inv sz K M x σ → fh_V (lX p l e s m b below meth c D) room_1 4 (sz, 100 + 3 * j + 3, 5000 + 169 * j + 169) K M 860 (lvL b x (6 * j)) [] := by
        intro sz K M σ hI
        rw [show 100 + 3 * j + 3 = 100 + 3 * (j + 1) by omega, show 5000 + 169 * j + 169 = 5000 + 169 * (j + 1) by omega]
        refine fv_iinc (v := nI (6 * (j + 1))) (lv' := [(3, .int (nI (6 * (j + 1)))), (0, va_rf (some b)), (1, va_rf (some x)), (2, va_rf (some (x + 32)))]) C 3 rfl (by rw [show Int32.ofInt 6 = nI 6 by decide, nI_add]; rfl) (by decide) (by simp [lvL, va_rf_cat]) dL_law_860 ?_
        refine fv_goto C 18 (by decide) dL_law_863 ?_
        refine fv_sub (cc := ⟨#[]⟩) (own := "") (lv' := lvL b x (6 * (j + 1))) [1, 2, 3, 0] rfl ?_
        exact ih (j + 1) sz K M σ (by omega) (by omega) hI
      refine fv_aload_n (x := some b) C 0 rfl rfl dL_law_27 ?_
      refine fv_iload_n (x := nI (6 * j)) C 3 rfl rfl dL_law_28 ?_
      refine fl_ld C hs rfl (show 6 * j < L by omega) hL dL_law_29 ?_
      refine fv_bipush (v := 31) C (by decide) dL_law_30 ?_
      refine fv_iand C dL_law_32 ?_
      generalize xs (6 * j) &&& 31 = v
      by_cases hv : v.toInt < 0 ∨ 19 < v.toInt
      · refine fv_tsOut C 860 hv (by decide) dL_law_33 ?_
        refine fv_widen (cc := ⟨#[]⟩) (own := "") (mc := 100 + 3 * j + 3) (ms := 5000 + 169 * j + 169) (by show 100 + 3 * j ≤ _; omega) (by show 5000 + 169 * j ≤ _; omega) ?_
        exact nx _ _ _ _ hI
      have : v.toInt = 0 ∨ v.toInt = 1 ∨ v.toInt = 2 ∨ v.toInt = 3 ∨ v.toInt = 4 ∨ v.toInt = 5 ∨ v.toInt = 6 ∨ v.toInt = 7 ∨ v.toInt = 8 ∨ v.toInt = 9 ∨ v.toInt = 10 ∨ v.toInt = 11 ∨ v.toInt = 12 ∨ v.toInt = 13 ∨ v.toInt = 14 ∨ v.toInt = 15 ∨ v.toInt = 16 ∨ v.toInt = 17 ∨ v.toInt = 18 ∨ v.toInt = 19 := by omega
      rcases this with h | h | h | h | h | h | h | h | h | h | h | h | h | h | h | h | h | h | h | h
      · exact fv_tsIn C 128 (off := 95) (by omega) (by omega) (by rw [h]; rfl) (by decide) dL_law_33 (lc_0 C hs hL hi6 hI (by omega) (by omega) nx)
      · exact fv_tsIn C 191 (off := 158) (by omega) (by omega) (by rw [h]; rfl) (by decide) dL_law_33 (lc_1 C hs hL hi6 hI (by omega) (by omega) nx)
      · exact fv_tsIn C 260 (off := 227) (by omega) (by omega) (by rw [h]; rfl) (by decide) dL_law_33 (lc_2 C hs hL hi6 hI (by omega) (by omega) nx)
      · exact fv_tsIn C 283 (off := 250) (by omega) (by omega) (by rw [h]; rfl) (by decide) dL_law_33 (lc_3 C hs hL hi6 hI (by omega) (by omega) nx)
      · exact fv_tsIn C 316 (off := 283) (by omega) (by omega) (by rw [h]; rfl) (by decide) dL_law_33 (lc_4 C hs hL hi6 hI (by omega) (by omega) nx)
      · exact fv_tsIn C 359 (off := 326) (by omega) (by omega) (by rw [h]; rfl) (by decide) dL_law_33 (lc_5 C hs hL hi6 hI (by omega) (by omega) nx)
      · exact fv_tsIn C 392 (off := 359) (by omega) (by omega) (by rw [h]; rfl) (by decide) dL_law_33 (lc_6 C hs hL hi6 hI (by omega) (by omega) nx)
      · exact fv_tsIn C 455 (off := 422) (by omega) (by omega) (by rw [h]; rfl) (by decide) dL_law_33 (lc_7 C hs hL hi6 hI (by omega) (by omega) nx)
      · exact fv_tsIn C 478 (off := 445) (by omega) (by omega) (by rw [h]; rfl) (by decide) dL_law_33 (lc_8 C hs hL hi6 hI (by omega) (by omega) nx)
      · exact fv_tsIn C 511 (off := 478) (by omega) (by omega) (by rw [h]; rfl) (by decide) dL_law_33 (lc_9 C hs hL hi6 hI (by omega) (by omega) nx)
      · exact fv_tsIn C 534 (off := 501) (by omega) (by omega) (by rw [h]; rfl) (by decide) dL_law_33 (lc_10 C hs hL hi6 hI (by omega) (by omega) nx)
      · exact fv_tsIn C 577 (off := 544) (by omega) (by omega) (by rw [h]; rfl) (by decide) dL_law_33 (lc_11 C hs hL hi6 hI (by omega) (by omega) nx)
      · exact fv_tsIn C 610 (off := 577) (by omega) (by omega) (by rw [h]; rfl) (by decide) dL_law_33 (lc_12 C hs hL hi6 hI (by omega) (by omega) nx)
      · exact fv_tsIn C 643 (off := 610) (by omega) (by omega) (by rw [h]; rfl) (by decide) dL_law_33 (lc_13 C hs hL hi6 hI (by omega) (by omega) nx)
      · exact fv_tsIn C 676 (off := 643) (by omega) (by omega) (by rw [h]; rfl) (by decide) dL_law_33 (lc_14 C hs hL hi6 hI (by omega) (by omega) nx)
      · exact fv_tsIn C 699 (off := 666) (by omega) (by omega) (by rw [h]; rfl) (by decide) dL_law_33 (lc_15 C hs hL hi6 hI (by omega) (by omega) nx)
      · exact fv_tsIn C 748 (off := 715) (by omega) (by omega) (by rw [h]; rfl) (by decide) dL_law_33 (lc_16 C hs hL hi6 hI (by omega) (by omega) nx)
      · exact fv_tsIn C 771 (off := 738) (by omega) (by omega) (by rw [h]; rfl) (by decide) dL_law_33 (lc_17 C hs hL hi6 hI (by omega) (by omega) nx)
      · exact fv_tsIn C 804 (off := 771) (by omega) (by omega) (by rw [h]; rfl) (by decide) dL_law_33 (lc_18 C hs hL hi6 hI (by omega) (by omega) nx)
      · exact fv_tsIn C 837 (off := 804) (by omega) (by omega) (by rw [h]; rfl) (by decide) dL_law_33 (lc_19 C hs hL hi6 hI (by omega) (by omega) nx)
theorem KL_0 (x : Nat) (v : Nat × Nat) : fh_uk (KL x []) x v = KL x [v] := KL_push (x := x) (n := 0) (l := []) (v := v) rfl
theorem St_clr {x n : Nat} {ps : List (Nat × Nat × Nat)} {T : List Nat} {M : fh_M} (hps : ps.all (fun q => q.1 != n) = true) (hT : ¬ n ∈ T) (hS : St x ps T M) : St x ps T (fh_clr M (x + n)) := by
  obtain ⟨M', h1, h2⟩ := s_new (α := fh_M) (x := x) (n := n) (l := List.replicate n (0, 0)) (v := (0, 0)) (f := fun _ M => some M) (P := fun r => ∃ M', r = some M' ∧ St x ps T M') rfl List.length_replicate hps hT hS (fun M h => ⟨M, rfl, h⟩)
  cases (show some (fh_clr M (x + n)) = some M' from h1)
  exact h2
def M00 : fh_M := (fun _ _ => 0, fun _ _ => 0, fun _ _ => none)
theorem St_0 (x : Nat) : St x [] [] M00 := ⟨fun _ _ => rfl, fun _ _ => rfl, fun i k h => absurd h List.not_mem_nil, fun _ _ _ => rfl⟩
/-- THE LAW, from its entry -/
theorem whole_start {p : Program} {e : Env} {s : State} {m : MethodId} {below : List Frame} {meth : Method} {c : Code} (l : Launch) {b L : Nat} {xs : Nat → Int32} (hL : L ≤ 3072) (C0 : lw_At p s m meth c b L xs) : W p l e room_1 s m #[Value.ref b] below meth c s.heap [] 0 0 (lw_Z below #[Value.ref b] s) (entryFrame m ([Value.ref b] : List Value).toArray 4) := by
  obtain ⟨hx, hb, hr, hml, hown, hts, hX, hbl, hlocks, hgv⟩ := C0
  obtain ⟨D, hK⟩ := lw_Ks hts
  have C : fh_C (lX p l e s m b below meth c D) 4 cL_law RL := ⟨hx, hb, hml, hown, fun w hw => hts w (List.mem_filter.mp hw).1, hK, hlocks, fun q h => h⟩
  have hs : fh_scr (lX p l e s m b below meth c D) b L xs := ⟨hX, hbl, Nat.not_le.mpr hbl⟩
  have hl := lv_entry ([Value.ref b]) (n := 4) (Nat.le_of_ble_eq_true rfl)
  rw [lg_entry_eq]
  obtain ⟨M1, e1, S1⟩ := c_init (St_clr (n := 0) rfl (by decide) (St_0 s.heap.size))
  obtain ⟨M2, e2, S2⟩ := m_init (St_clr (n := 32) (by decide) (by decide) S1)
  have hI := Inv_0 S2
  have V : fh_V (lX p l e s m b below meth c D) room_1 4 (s.heap.size, 0, 0) (KL s.heap.size []) M00 0 [(0, va_rf (some b))] [] := by
    refine fv_new C cl_RL_7 (by show 0 + 1 ≤ 600000; omega) (by show 0 + 15 ≤ 7302250; omega) dL_law_0 ?_
    refine fv_dupr C dL_law_3 ?_
    show fh_V (lX p l e s m b below meth c D) room_1 4 (s.heap.size + 1, 1, 15) (fh_uk (KL s.heap.size []) s.heap.size (11, 0)) (fh_clr M00 (s.heap.size + 0)) 4 _ _
    rw [KL_0]
    refine fv_callI [] C mi_X10_init rfl lk_RL_9 (r_X10_init _ _ _ e1) ⟨Nat.le_of_ble_eq_true rfl, Nat.le_of_ble_eq_true rfl⟩ ⟨(by show 1 + 31 ≤ 600000; omega), (by show 15 + 564 ≤ 7302250; omega)⟩ rfl rfl (by simp [va_rf_cat, cat_i, cat_l]) dL_law_4 ?_
    refine fv_astore_n (x := some s.heap.size) (lv' := [(1, va_rf (some s.heap.size)), (0, va_rf (some b))]) C rfl (by decide) (by simp [va_rf_cat]) dL_law_7 ?_
    refine fv_new C cl_RL_10 (by show 1 + 31 + 1 ≤ 600000; omega) (by show 15 + 564 + 43 ≤ 7302250; omega) dL_law_8 ?_
    refine fv_dupr C dL_law_11 ?_
    show fh_V (lX p l e s m b below meth c D) room_1 4 (s.heap.size + 33, 1 + 31 + 1, 15 + 564 + 43) (fh_uk (KL s.heap.size cIK) (s.heap.size + 32) (12, 0)) (fh_clr M1 (s.heap.size + 32)) 12 _ _
    rw [KL_push (show cIK.length = 32 from rfl)]
    refine fv_callI [] C mi_X11_init rfl lk_RL_12 (r_X11_init _ _ _ e2) ⟨Nat.le_of_ble_eq_true rfl, Nat.le_of_ble_eq_true rfl⟩ ⟨(by show 1 + 31 + 1 + 30 ≤ 600000; omega), (by show 15 + 564 + 43 + 3192 ≤ 7302250; omega)⟩ rfl rfl (by simp [va_rf_cat, cat_i, cat_l]) dL_law_12 ?_
    refine fv_astore_n (x := some (s.heap.size + 32)) (lv' := [(2, va_rf (some (s.heap.size + 32))), (1, va_rf (some s.heap.size)), (0, va_rf (some b))]) C rfl (by decide) (by simp [va_rf_cat]) dL_law_15 ?_
    refine fv_iconst (v := nI 0) C (by decide) dL_law_16 ?_
    refine fv_istore_n (i := 3) (x := nI 0) (lv' := [(3, .int (nI 0)), (2, va_rf (some (s.heap.size + 32))), (1, va_rf (some s.heap.size)), (0, va_rf (some b))]) C rfl (by decide) (by simp [va_rf_cat]) dL_law_17 ?_
    refine fv_sub (cc := ⟨#[]⟩) (own := "") (lv' := lvL b s.heap.size (6 * 0)) [3, 2, 1, 0] rfl ?_
    refine fv_widen (cc := ⟨#[]⟩) (own := "") (mc := 100 + 3 * 0) (ms := 5000 + 169 * 0) (by show 1 + 31 + 1 + 30 ≤ 100 + 3 * 0; omega) (by show 15 + 564 + 43 + 3192 ≤ 5000 + 169 * 0; omega) ?_
    exact law_loop hL C hs hr 513 0 _ _ _ _ (by omega) (by omega) hI
  exact V s.heap [] _ (fun a h => absurd (by unfold KL; by_cases z : a < s.heap.size <;> simp [z]) h) rfl va_S.rf (fun a h => absurd (by unfold KL; by_cases z : a < s.heap.size <;> simp [z]) h) hl
