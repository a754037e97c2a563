theorem carr_bit {h d k : Nat} (hk : k < 12) : (h &&& (4095 ^^^ d)).testBit k = (h.testBit k && !d.testBit k) := by
  rw [Nat.testBit_and, Nat.testBit_xor]
  have : (4095 : Nat).testBit k = true := by
    have : (4095 : Nat) = 2 ^ 12 - 1 := rfl
    rw [this, Nat.testBit_two_pow_sub_one]
    simp [hk]
  rw [this]
  simp
theorem m_has (K : fh_K) (M : fh_M) {h t : Nat} (hh : h < 65536) (ht : t < 32) : f_X11_has K M (nI h) (nI t) = some (if h.testBit t = true then 1 else 0) := by
  unfold f_X11_has
  by_cases e : h.testBit t = true
  · rw [if_pos ((bt1 hh ht).mpr e), if_pos e]
  · rw [if_neg (fun q => e ((bt1 hh ht).mp q)), if_neg e]
theorem m_goes {K : fh_K} {M : fh_M} {y : Nat} {σ : sT} {L : List R3} {i t : Nat} (hS : mS K M y) (hP : mP M y σ) (hV : Val σ) (hR : mRec M y L) (hl : L.length ≤ 29) (hL : ∀ q, q ∈ L → q.1 < 12) (ht : t < σ 0 19) (hi : i < L.length) : f_X11_goes K M y (nI i) (nI t) = some (if (carr σ t).testBit (atL L i).1 = true then 1 else 0) := by
  have hv := hV.1
  obtain ⟨t1, t2, t3, t4, t5, t6⟩ := hV.2.2.2.2.2.2.2 t ht
  obtain ⟨v1, v2, v3, v4, v5⟩ := hV.2.2.1 _ t2
  have e1 := (hR.2 i hi).1
  rw [← atL_eq hi] at e1
  have b1 := hL _ (atL_mem hi)
  unfold f_X11_goes
  rw [mo hS, mi21 hS rfl (by omega), cl_n (by omega), mP_a hP 16 t (by omega), mi6 hS rfl (by omega), mi27 hS rfl (by omega), cl_n (by omega), cl_n (by omega), e1, mP_a hP 4 _ (by omega), m_has K M (by omega) (by omega)]
  simp only [Option.bind_some]
  rw [mi22 hS rfl (by omega), mP_a hP 17 t (by omega), m_has K M (by omega) (by omega)]
  simp only [Option.bind_some]
  unfold carr
  rw [carr_bit b1]
  by_cases h1 : (σ 4 (σ 16 t)).testBit (atL L i).1 = true
  · rw [if_neg (by rw [if_pos h1]; decide), h1]
    by_cases h2 : (σ 17 t).testBit (atL L i).1 = true
    · rw [if_neg (by rw [if_pos h2]; decide), h2]; rfl
    · rw [if_pos (by rw [if_neg h2])]
      simp only [Bool.not_eq_true] at h2
      rw [h2]; rfl
  · rw [if_pos (by rw [if_neg h1])]
    simp only [Bool.not_eq_true] at h1
    rw [h1]; rfl
theorem m_tL98 {K : fh_K} {M : fh_M} {y : Nat} {σ : sT} {L : List R3} {t : Nat} {mk : Nat → Nat} {ms hs : Nat} {a : Nat → Nat} {v1 v3 : Int32} (hS : mS K M y) (hP : mP M y σ) (hV : Val σ) (hR : mRec M y L) (hl : L.length ≤ 29) (hL : ∀ q, q ∈ L → q.1 < 12) (ht : t < σ 0 19) :
    ∀ n i, L.length - i < n → i ≤ L.length → f_X11_turn_L98 K n y v1 (nI t) v3 (nI ((tb mk ms a (carr σ t) L i).length + hs)) (nI i) M = f_X11_turn_J141 K y v1 (nI t) v3 (nI ((tb mk ms a (carr σ t) L L.length).length + hs)) M := by
  intro n
  induction n with
  | zero => intro i q; exact absurd q (Nat.not_lt_zero _)
  | succ n ih =>
    intro i hn hi
    unfold f_X11_turn_L98 f_X11_turn_J132
    rw [mo hS, hR.1]
    by_cases hlt : i < L.length
    · have e3 := (hR.2 i hlt).2.2
      rw [← atL_eq hlt] at e3
      have nxt : (tb mk ms a (carr σ t) L (i + 1)).length = (tb mk ms a (carr σ t) L i).length + (tsg a (carr σ t) (atL L i)).length := by
        show (tb mk ms a (carr σ t) L i ++ tsg a (carr σ t) (atL L i)).length = _
        rw [List.length_append]
      rw [if_neg (nI_ge hlt (by omega)), m_goes hS hP hV hR hl hL ht hlt]
      simp only [Option.bind_some]
      rw [nI_1]
      by_cases hb : (carr σ t).testBit (atL L i).1 = true
      · rw [if_neg (by rw [if_pos hb]; decide), mi29 hS rfl (by omega), cl_n (by omega), e3, n_2, nI_add, nI_add]
        have : (tb mk ms a (carr σ t) L i).length + hs + (2 + (atL L i).2.2) = (tb mk ms a (carr σ t) L (i + 1)).length + hs := by
          rw [nxt]; unfold tsg; rw [if_pos hb, sg_len]; omega
        rw [this]
        exact ih (i + 1) (by omega) (by omega)
      · rw [if_pos (by rw [if_neg hb]), n_0, nI_add]
        have : (tb mk ms a (carr σ t) L i).length + hs + 0 = (tb mk ms a (carr σ t) L (i + 1)).length + hs := by
          rw [nxt]; unfold tsg; rw [if_neg hb]; rfl
        rw [this]
        exact ih (i + 1) (by omega) (by omega)
    · rw [if_pos (nI_le (by omega) (by omega)), show i = L.length by omega]
/-- the new file's bytes, as far as they are written -/
def mw (y nf : Nat) (M0 M : fh_M) (C : List Nat) : Prop := M.2 = M0.2 ∧ (∀ a j, a ≠ y + 7 → M.1 a j = M0.1 a j) ∧ ∀ j, M.1 (y + 7) j = if 60 * nf ≤ j ∧ j < 60 * nf + C.length then nI (lk C (j - 60 * nf)) else M0.1 (y + 7) j
theorem mw_S {K : fh_K} {y nf : Nat} {M0 M : fh_M} {C : List Nat} (h : mw y nf M0 M C) (hS : mS K M0 y) : mS K M y := mS_keep hS (fun _ _ _ => rfl) (by rw [h.1])
theorem mw_s {y nf : Nat} {M0 M : fh_M} {C : List Nat} (h : mw y nf M0 M C) (v : Nat) : mw y nf M0 (fh_si M (y + 7) (60 * nf + C.length) (nI v)) (C ++ [v]) := by
  refine ⟨h.1, fun a j z => by rw [fh_si_1, if_neg (by omega)]; exact h.2.1 a j z, fun j => ?_⟩
  rw [fh_si_1, List.length_append]
  show (if _ then _ else _) = if 60 * nf ≤ j ∧ j < 60 * nf + (C.length + 1) then _ else _
  by_cases z : j = 60 * nf + C.length
  · rw [if_pos ⟨rfl, z⟩, if_pos (by omega), lk_r (by omega), show j - 60 * nf - C.length = 0 by omega]; rfl
  · rw [if_neg (fun q => z q.2), h.2.2 j]
    by_cases z2 : 60 * nf ≤ j ∧ j < 60 * nf + C.length
    · rw [if_pos z2, if_pos (by omega), lk_l (by omega)]
    · rw [if_neg z2, if_neg (by omega)]
theorem m_tL162 {K : fh_K} {y nf m ms : Nat} {mk : Nat → Nat} {v1 v2 v4 : Int32} (M0 : fh_M) (hS0 : mS K M0 y) (hm : m < 12) (hms : ms ≤ 4) (hnf : nf < 40) (e3 : M0.1 (y + 3) m = nI ms) (e2 : ∀ k, k < ms → M0.1 (y + 2) (4 * m + k) = nI (mk k)) :
    ∀ n k M, ms - k < n → k ≤ ms → mw y nf M0 M ((List.range k).map mk) → ∃ M', f_X11_turn_L162 K n y v1 v2 (nI m) v4 (nI (60 * nf + k)) (nI k) M = f_X11_turn_J200 K y v1 v2 (nI m) v4 (nI (60 * nf + ms)) M' ∧ mw y nf M0 M' ((List.range ms).map mk) := by
  intro n
  induction n with
  | zero => intro k M q; exact absurd q (Nat.not_lt_zero _)
  | succ n ih =>
    intro k M hn hk hw
    have hS := mw_S hw hS0
    unfold f_X11_turn_L162
    rw [mo hS, mi5 hS rfl hm, cl_n (by omega), hw.2.1 _ _ (by omega), e3]
    by_cases h : k < ms
    · have e4 : (4 : Int32) * nI m + nI k = nI (4 * m + k) := by rw [n_4, pk_mul, nI_add]
      rw [if_neg (nI_ge h (by omega)), mi4 hS e4 (by omega), mi10 hS rfl (by omega), fb_eq, e4, cl_n (by omega), cl_n (by omega), hw.2.1 _ _ (by omega), e2 k h, nI_1, nI_1]
      have hw2 := mw_s hw (mk k)
      rw [show ((List.range k).map mk).length = k by simp] at hw2
      have : (List.range k).map mk ++ [mk k] = (List.range (k + 1)).map mk := by simp [List.range_succ]
      rw [this] at hw2
      exact ih (k + 1) _ (by omega) (by omega) hw2
    · rw [if_pos (nI_le (by omega) (by omega))]
      obtain rfl : k = ms := by omega
      exact ⟨M, rfl, hw⟩
theorem m_tL236 {K : fh_K} {y nf f i : Nat} {L : List R3} {a : Nat → Nat} {S : Nat} {v2 v3 v4 : Int32} {rec : Nat → Int32 → Int32 → Int32 → Int32 → Int32 → Int32 → fh_M → Option (Int32 × fh_M)} (M0 : fh_M) (hS0 : mS K M0 y) (hR : mRec M0 y L) (hl : L.length ≤ 29) (hL : ∀ q, q ∈ L → q.1 < 12 ∧ 2 ≤ q.2.1 ∧ q.2.1 + q.2.2 ≤ S) (hSz : S ≤ 60) (hf : f < nf) (hnf : nf < 40) (hby : ∀ k, k < S → M0.1 (y + 7) (60 * f + k) = nI (a k)) (hi : i < L.length) (C0 : List Nat) (hC : C0.length + ((atL L i).2.2 + 2) ≤ 60) :
    ∀ n z M, (atL L i).2.2 + 2 - z < n → z ≤ (atL L i).2.2 + 2 → mw y nf M0 M (C0 ++ sg a (atL L i) z) → ∃ M', f_X11_turn_L236 K rec n y (nI f) v2 v3 v4 (nI (60 * nf + (C0.length + z))) (nI i) (nI ((atL L i).2.1 - 2 + z)) M = f_X11_turn_J279 K rec y (nI f) v2 v3 v4 (nI (60 * nf + (C0.length + ((atL L i).2.2 + 2)))) (nI i) M' ∧ mw y nf M0 M' (C0 ++ sg a (atL L i) ((atL L i).2.2 + 2)) := by
  intro n
  induction n with
  | zero => intro z M q; exact absurd q (Nat.not_lt_zero _)
  | succ n ih =>
    intro z M hn hz hw
    have hS := mw_S hw hS0
    obtain ⟨-, e2, e3⟩ := hR.2 i hi
    rw [← atL_eq hi] at e2 e3
    obtain ⟨b1, b2, b3⟩ := hL _ (atL_mem hi)
    unfold f_X11_turn_L236
    rw [mo hS, mi28 hS rfl (by omega), mi29 hS rfl (by omega), cl_n (by omega), hw.2.1 _ _ (by omega), hw.2.1 _ _ (by omega), e2, e3, nI_add]
    by_cases h : z < (atL L i).2.2 + 2
    · have by1 : M.1 (y + 7) (60 * f + ((atL L i).2.1 - 2 + z)) = nI (a ((atL L i).2.1 - 2 + z)) := by
        rw [hw.2.2, if_neg (by omega)]; exact hby _ (by omega)
      rw [if_neg (nI_ge (by omega) (by omega)), m_byteAt hS (by omega) (by omega) by1]
      simp only [Option.bind_some]
      rw [mi10 hS rfl (by omega), fb_eq, cl_n (by omega), nI_1, nI_1]
      have hw2 := mw_s hw (a ((atL L i).2.1 - 2 + z))
      rw [List.length_append, sg_len, List.append_assoc, ← sg_s] at hw2
      exact ih (z + 1) _ (by omega) (by omega) hw2
    · rw [if_pos (nI_le (by omega) (by omega))]
      obtain rfl : z = (atL L i).2.2 + 2 := by omega
      exact ⟨M, rfl, hw⟩
theorem m_tL203 {K : fh_K} {y nf f t : Nat} {σ : sT} {L : List R3} {mk : Nat → Nat} {ms : Nat} {a : Nat → Nat} {S : Nat} {v3 v4 : Int32} (M0 : fh_M) (hS0 : mS K M0 y) (hP0 : mP M0 y σ) (hV : Val σ) (hR : mRec M0 y L) (hl : L.length ≤ 29) (hL : ∀ q, q ∈ L → q.1 < 12 ∧ 2 ≤ q.2.1 ∧ q.2.1 + q.2.2 ≤ S) (hSz : S ≤ 60) (hf : f < nf) (hnf : nf < 40) (hby : ∀ k, k < S → M0.1 (y + 7) (60 * f + k) = nI (a k)) (ht : t < σ 0 19) (hT : (tb mk ms a (carr σ t) L L.length).length ≤ 60) :
    ∀ n i M, L.length - i < n → i ≤ L.length → mw y nf M0 M (tb mk ms a (carr σ t) L i) → ∃ M', f_X11_turn_L203 K n y (nI f) (nI t) v3 v4 (nI (60 * nf + (tb mk ms a (carr σ t) L i).length)) (nI i) M = f_X11_turn_J285 K y (nI f) v3 v4 (nI (60 * nf + (tb mk ms a (carr σ t) L L.length).length)) M' ∧ mw y nf M0 M' (tb mk ms a (carr σ t) L L.length) := by
  intro n
  induction n with
  | zero => intro i M q; exact absurd q (Nat.not_lt_zero _)
  | succ n ih =>
    intro i M hn hi hw
    have hS := mw_S hw hS0
    have hRM : mRec M y L := ⟨by rw [hw.2.1 _ _ (by omega)]; exact hR.1, fun j hj => by rw [hw.2.1 _ _ (by omega), hw.2.1 _ _ (by omega), hw.2.1 _ _ (by omega)]; exact hR.2 j hj⟩
    have goesE : ∀ i, i < L.length → f_X11_goes K M y (nI i) (nI t) = some (if (carr σ t).testBit (atL L i).1 = true then 1 else 0) := by
      intro i hi
      have g0 := m_goes hS0 hP0 hV hR hl (fun q hq => (hL q hq).1) ht hi
      have hv := hV.1
      obtain ⟨t1, t2, t3, t4, t5, t6⟩ := hV.2.2.2.2.2.2.2 t ht
      rw [← g0]
      unfold f_X11_goes
      rw [mo hS, mo hS0, mi21 hS rfl (by omega), mi21 hS0 rfl (by omega), hw.2.1 (y + 16) _ (by omega), cl_n (by omega), mP_a hP0 16 t (by omega), mi6 hS rfl (by omega), mi6 hS0 rfl (by omega), mi27 hS rfl (by omega), mi27 hS0 rfl (by omega), mi22 hS rfl (by omega), mi22 hS0 rfl (by omega), hw.2.1 (y + 4) _ (by omega), hw.2.1 (y + 20) _ (by omega), hw.2.1 (y + 17) _ (by omega)]
      rfl
    unfold f_X11_turn_L203
    rw [mo hS, hRM.1]
    by_cases hlt : i < L.length
    · have nxt : tb mk ms a (carr σ t) L (i + 1) = tb mk ms a (carr σ t) L i ++ tsg a (carr σ t) (atL L i) := rfl
      have e2 := (hRM.2 i hlt).2.1
      rw [← atL_eq hlt] at e2
      obtain ⟨b1, b2, b3⟩ := hL _ (atL_mem hlt)
      have mono := tb_mono (mk := mk) (ms := ms) (a := a) (cr := carr σ t) (L := L) (i := i + 1) (L.length - (i + 1))
      rw [show i + 1 + (L.length - (i + 1)) = L.length by omega] at mono
      rw [if_neg (nI_ge hlt (by omega)), goesE i hlt]
      simp only [Option.bind_some]
      by_cases hb : (carr σ t).testBit (atL L i).1 = true
      · have tsl : tsg a (carr σ t) (atL L i) = sg a (atL L i) ((atL L i).2.2 + 2) := by unfold tsg; rw [if_pos hb]
        have lenE : (tb mk ms a (carr σ t) L (i + 1)).length = (tb mk ms a (carr σ t) L i).length + ((atL L i).2.2 + 2) := by rw [nxt, List.length_append, tsl, sg_len]
        rw [if_neg (by rw [if_pos hb]; decide), mi28 hS rfl (by omega), cl_n (by omega), e2, n_2, n_m b2]
        obtain ⟨M1, q1, q2⟩ := m_tL236 (K := K) (y := y) (nf := nf) (f := f) (i := i) (L := L) (a := a) (S := S) (v2 := nI t) (v3 := v3) (v4 := v4) (rec := f_X11_turn_L203 K n) M0 hS0 hR hl hL hSz hf hnf hby hlt (tb mk ms a (carr σ t) L i) (by omega) 4096 0 M (by omega) (by omega) (by rw [show sg a (atL L i) 0 = [] from rfl, List.append_nil]; exact hw)
        rw [Nat.add_zero, Nat.add_zero] at q1
        rw [q1]
        unfold f_X11_turn_J279
        rw [nI_1, ← lenE]
        exact ih (i + 1) M1 (by omega) (by omega) (by rw [nxt, tsl]; exact q2)
      · rw [if_pos (by rw [if_neg hb])]
        unfold f_X11_turn_J279
        rw [nI_1]
        have e : tb mk ms a (carr σ t) L (i + 1) = tb mk ms a (carr σ t) L i := by rw [nxt]; unfold tsg; rw [if_neg hb, List.append_nil]
        have := ih (i + 1) M (by omega) (by omega) (by rw [e]; exact hw)
        rw [e] at this
        exact this
    · rw [if_pos (nI_le (by omega) (by omega))]
      have : i = L.length := by omega
      subst this
      exact ⟨M, rfl, hw⟩
theorem m_tL297 {K : fh_K} {y nf : Nat} {M0 M : fh_M} {C : List Nat} {v1 v3 v4 : Int32} (hS0 : mS K M0 y) (hw : mw y nf M0 M C) (hC : C.length ≤ 60) (hnf : nf < 40) :
    ∀ n k, C.length - k < n → k ≤ C.length → f_X11_turn_L297 K n y v1 v3 v4 (nI (60 * nf + C.length)) (nI (smN (lk C) k)) (nI (60 * nf + k)) M = f_X11_turn_J322 K y v1 v3 v4 (nI (60 * nf + C.length)) (nI (smN (lk C) C.length)) M := by
  have hS := mw_S hw hS0
  intro n
  induction n with
  | zero => intro k q; exact absurd q (Nat.not_lt_zero _)
  | succ n ih =>
    intro k hn hk
    unfold f_X11_turn_L297
    by_cases h : k < C.length
    · rw [if_neg (nI_ge (by omega) (by omega)), mo hS, mi10 hS rfl (by omega), cl_n (by omega), hw.2.2, if_pos (by omega), Nat.add_sub_cancel_left, nI_add, nI_1]
      exact ih (k + 1) (by omega) (by omega)
    · rw [if_pos (nI_le (by omega) (by omega)), show k = C.length by omega]
/-- what the model's turn writes -/
def mtW (y nf f : Nat) (M M' : fh_M) (C : List Nat) : Prop := M'.2 = M.2 ∧ (∀ b k, ¬ (b = y + 7 ∨ (b = y + 8 ∧ k = nf) ∨ (b = y + 10 ∧ k = nf) ∨ (b = y ∧ k = 9)) → M'.1 b k = M.1 b k) ∧ (∀ j, M'.1 (y + 7) j = if 60 * nf ≤ j ∧ j < 60 * nf + C.length then nI (lk C (j - 60 * nf)) else M.1 (y + 7) j) ∧ M'.1 (y + 8) nf = nI C.length ∧ M'.1 (y + 10) nf = nI f ∧ M'.1 y 9 = nI (nf + 1)
theorem m_tJ344 {K : fh_K} {y nf f : Nat} {M0 M : fh_M} {C : List Nat} (hS0 : mS K M0 y) (hw : mw y nf M0 M C) (hnf : nf < 40) (h9 : M0.1 y 9 = nI nf) : ∃ M', f_X11_turn_J344 K y (nI f) (nI C.length) M = some (nI nf, M') ∧ mtW y nf f M0 M' C := by
  have hS := mw_S hw hS0
  have z0 : M.1 y 9 = nI nf := by rw [hw.2.1 _ _ (by omega)]; exact h9
  have z1 : (fh_si M (y + 8) nf (nI C.length)).1 y 9 = nI nf := by rw [fh_si_1, if_neg (by omega)]; exact z0
  have z2 : (fh_si (fh_si M (y + 8) nf (nI C.length)) (y + 10) nf (nI f)).1 y 9 = nI nf := by rw [fh_si_1, if_neg (by omega)]; exact z1
  unfold f_X11_turn_J344
  rw [mo hS, mi11 hS z0 hnf, fb_eq, z0, cl_n (by omega), mi13 (mS_si hS _ _ _) z1 hnf, fb_eq, z1, cl_n (by omega), fb_eq, z2, nI_1, fh_si_1, if_pos ⟨rfl, rfl⟩, n_1, n_m (by omega)]
  refine ⟨_, rfl, hw.1, fun b k z => ?_, fun j => ?_, ?_, ?_, ?_⟩
  · rw [fh_si_1, if_neg (by omega), fh_si_1, if_neg (by omega), fh_si_1, if_neg (by omega)]; exact hw.2.1 b k (by omega)
  · rw [fh_si_1, if_neg (by omega), fh_si_1, if_neg (by omega), fh_si_1, if_neg (by omega)]; exact hw.2.2 j
  · rw [fh_si_1, if_neg (by omega), fh_si_1, if_neg (by omega), fh_si_1, if_pos ⟨rfl, rfl⟩]
  · rw [fh_si_1, if_neg (by omega), fh_si_1, if_pos ⟨rfl, rfl⟩]
  · rw [fh_si_1, if_pos ⟨rfl, rfl⟩]
theorem m_turnB {K : fh_K} {M : fh_M} {y : Nat} {σ : sT} {f t : Nat} (hS : mS K M y) (hP : mP M y σ) (hV : Val σ) (hR : mRec M y (sR σ f)) (hf : f < σ 0 9) (hnf : σ 0 9 < 40) (ht : t < σ 0 19) :
    ∃ r M', f_X11_turn_J92 K y (nI f) (nI t) (nI (σ 16 t)) (nI (σ 5 (σ 16 t))) (nI (σ 3 (σ 16 t))) M = some (r, M') ∧ (((tf (mF σ (σ 16 t)) (σ 3 (σ 16 t)) (σ 5 (σ 16 t)) (cF σ f) (carr σ t) (sR σ f)).length ≤ 60 ∧ r = nI (σ 0 9) ∧ mtW y (σ 0 9) f M M' (tf (mF σ (σ 16 t)) (σ 3 (σ 16 t)) (σ 5 (σ 16 t)) (cF σ f) (carr σ t) (sR σ f))) ∨ (60 < (tf (mF σ (σ 16 t)) (σ 3 (σ 16 t)) (σ 5 (σ 16 t)) (cF σ f) (carr σ t) (sR σ f)).length ∧ r = -1 ∧ M' = M)) := by
  have hv := hV.1
  obtain ⟨t1, t2, t3, t4, t5, t6⟩ := hV.2.2.2.2.2.2.2 t ht
  obtain ⟨v1, v2, v3, v4, v5⟩ := hV.2.2.1 _ t2
  obtain ⟨w1, w2, -⟩ := hV.2.2.2.1 f hf
  have hl := sR_len hV hf
  have hL : ∀ q, q ∈ sR σ f → q.1 < 12 ∧ 2 ≤ q.2.1 ∧ q.2.1 + q.2.2 ≤ σ 8 f := fun q hq => sR_in hV hq
  have hlen := tb_le (mk := mF σ (σ 16 t)) (ms := σ 3 (σ 16 t)) (a := cF σ f) (cr := carr σ t) (L := sR σ f) (fun q hq => by have := hL q hq; omega) (sR σ f).length (Nat.le_refl _)
  have tfl : (tf (mF σ (σ 16 t)) (σ 3 (σ 16 t)) (σ 5 (σ 16 t)) (cF σ f) (carr σ t) (sR σ f)).length = (tb (mF σ (σ 16 t)) (σ 3 (σ 16 t)) (cF σ f) (carr σ t) (sR σ f) (sR σ f).length).length + σ 5 (σ 16 t) := by
    unfold tf
    rw [List.length_append]
    by_cases h : σ 5 (σ 16 t) = 1
    · rw [h, if_pos rfl]; rfl
    · rw [if_neg h, show σ 5 (σ 16 t) = 0 by omega]; rfl
  have start : f_X11_turn_J92 K y (nI f) (nI t) (nI (σ 16 t)) (nI (σ 5 (σ 16 t))) (nI (σ 3 (σ 16 t))) M = f_X11_turn_J141 K y (nI f) (nI t) (nI (σ 16 t)) (nI (tf (mF σ (σ 16 t)) (σ 3 (σ 16 t)) (σ 5 (σ 16 t)) (cF σ f) (carr σ t) (sR σ f)).length) M := by
    unfold f_X11_turn_J92
    rw [nI_add, tfl]
    have := m_tL98 (K := K) (M := M) (y := y) (σ := σ) (L := sR σ f) (t := t) (mk := mF σ (σ 16 t)) (ms := σ 3 (σ 16 t)) (hs := σ 5 (σ 16 t)) (a := cF σ f) (v1 := nI f) (v3 := nI (σ 16 t)) hS hP hV hR hl (fun q hq => (hL q hq).1) ht 4096 0 (by omega) (by omega)
    rw [show (tb (mF σ (σ 16 t)) (σ 3 (σ 16 t)) (cF σ f) (carr σ t) (sR σ f) 0).length = σ 3 (σ 16 t) by simp [tb]] at this
    exact this
  rw [start]
  unfold f_X11_turn_J141
  rw [n_60]
  by_cases h60 : (tf (mF σ (σ 16 t)) (σ 3 (σ 16 t)) (σ 5 (σ 16 t)) (cF σ f) (carr σ t) (sR σ f)).length ≤ 60
  · rw [if_pos (nI_le h60 (by omega)), mo hS, mP_s hP 9 (by omega), pk_mul]
    obtain ⟨M1, a1, a2⟩ := m_tL162 (K := K) (y := y) (nf := σ 0 9) (m := σ 16 t) (ms := σ 3 (σ 16 t)) (mk := mF σ (σ 16 t)) (v1 := nI f) (v2 := nI t) (v4 := nI (tf (mF σ (σ 16 t)) (σ 3 (σ 16 t)) (σ 5 (σ 16 t)) (cF σ f) (carr σ t) (sR σ f)).length) M hS (by omega) v2 hnf (mP_a hP 3 _ (by omega)) (fun k _ => mP_a hP 2 _ (by omega)) 4096 0 M (by omega) (by omega) ⟨rfl, fun _ _ _ => rfl, fun j => by rw [if_neg (by simp)]⟩
    have e0 : (nI (60 * σ 0 9 + 0)) = nI (60 * σ 0 9) := rfl
    rw [e0] at a1
    rw [show (0 : Int32) = nI 0 from rfl, a1]
    unfold f_X11_turn_J200
    obtain ⟨M2, b1, b2⟩ := m_tL203 (K := K) (y := y) (nf := σ 0 9) (f := f) (t := t) (σ := σ) (L := sR σ f) (mk := mF σ (σ 16 t)) (ms := σ 3 (σ 16 t)) (a := cF σ f) (S := σ 8 f) (v3 := nI (σ 16 t)) (v4 := nI (tf (mF σ (σ 16 t)) (σ 3 (σ 16 t)) (σ 5 (σ 16 t)) (cF σ f) (carr σ t) (sR σ f)).length) M hS hP hV hR hl hL w2 hf hnf (fun k _ => mP_a hP 7 _ (by omega)) ht (by omega) 4096 0 M1 (by omega) (by omega) a2
    rw [show (tb (mF σ (σ 16 t)) (σ 3 (σ 16 t)) (cF σ f) (carr σ t) (sR σ f) 0).length = σ 3 (σ 16 t) by simp [tb]] at b1
    rw [show (0 : Int32) = nI 0 from rfl, b1]
    have hS2 := mw_S b2 hS
    unfold f_X11_turn_J285
    rw [mo hS2, b2.2.1 _ _ (by omega), mP_s hP 9 (by omega), n_60, pk_mul]
    have l297 := m_tL297 (K := K) (v1 := nI f) (v3 := nI (σ 16 t)) (v4 := nI (tf (mF σ (σ 16 t)) (σ 3 (σ 16 t)) (σ 5 (σ 16 t)) (cF σ f) (carr σ t) (sR σ f)).length) hS b2 (by omega) hnf 4096 0 (by omega) (by omega)
    rw [Nat.add_zero] at l297
    rw [show (0 : Int32) = nI (smN (lk (tb (mF σ (σ 16 t)) (σ 3 (σ 16 t)) (cF σ f) (carr σ t) (sR σ f) (sR σ f).length)) 0) from rfl, l297]
    unfold f_X11_turn_J322
    rw [mo hS2, mi7 hS2 rfl (by omega), cl_n (by omega), b2.2.1 _ _ (by omega), mP_a hP 5 _ (by omega)]
    by_cases hh : σ 5 (σ 16 t) = 0
    · have tfE : tf (mF σ (σ 16 t)) (σ 3 (σ 16 t)) (σ 5 (σ 16 t)) (cF σ f) (carr σ t) (sR σ f) = tb (mF σ (σ 16 t)) (σ 3 (σ 16 t)) (cF σ f) (carr σ t) (sR σ f) (sR σ f).length := by unfold tf; rw [if_neg (by omega), List.append_nil]
      rw [hh, if_pos nI_0]
      rw [hh] at tfE h60
      rw [tfE] at h60 ⊢
      obtain ⟨M3, c1, c2⟩ := m_tJ344 (f := f) hS b2 hnf (mP_s hP 9 (by omega))
      exact ⟨_, M3, c1, Or.inl ⟨h60, rfl, c2⟩⟩
    · have hh1 : σ 5 (σ 16 t) = 1 := by omega
      have tfE : tf (mF σ (σ 16 t)) (σ 3 (σ 16 t)) (σ 5 (σ 16 t)) (cF σ f) (carr σ t) (sR σ f) = tb (mF σ (σ 16 t)) (σ 3 (σ 16 t)) (cF σ f) (carr σ t) (sR σ f) (sR σ f).length ++ [smN (lk (tb (mF σ (σ 16 t)) (σ 3 (σ 16 t)) (cF σ f) (carr σ t) (sR σ f) (sR σ f).length)) (tb (mF σ (σ 16 t)) (σ 3 (σ 16 t)) (cF σ f) (carr σ t) (sR σ f) (sR σ f).length).length % 256] := by unfold tf; rw [if_pos hh1]
      have cb : ∀ k, lk (tb (mF σ (σ 16 t)) (σ 3 (σ 16 t)) (cF σ f) (carr σ t) (sR σ f) (sR σ f).length) k < 256 := fun k => lkb_lt (fun v hv => lk_lt (fun k => (hV.2.1 _).2.1) (fun k => (hV.2.1 _).2.2) _ v hv) k
      have smb := smN_le (lk (tb (mF σ (σ 16 t)) (σ 3 (σ 16 t)) (cF σ f) (carr σ t) (sR σ f) (sR σ f).length)) cb (tb (mF σ (σ 16 t)) (σ 3 (σ 16 t)) (cF σ f) (carr σ t) (sR σ f) (sR σ f).length).length
      rw [if_neg (nI_ne0 (by omega) (by omega)), mi10 hS2 rfl (by omega), fb_eq, cl_n (by omega), n_256, pk_rem (by omega) (by omega) (by omega)]
      have W := mw_s b2 (smN (lk (tb (mF σ (σ 16 t)) (σ 3 (σ 16 t)) (cF σ f) (carr σ t) (sR σ f) (sR σ f).length)) (tb (mF σ (σ 16 t)) (σ 3 (σ 16 t)) (cF σ f) (carr σ t) (sR σ f) (sR σ f).length).length % 256)
      rw [← tfE] at W
      obtain ⟨M3, c1, c2⟩ := m_tJ344 (f := f) hS W hnf (mP_s hP 9 (by omega))
      exact ⟨_, M3, c1, Or.inl ⟨h60, rfl, c2⟩⟩
  · rw [if_neg (nI_ge (by omega) (by omega))]
    exact ⟨-1, M, rfl, Or.inr ⟨by omega, rfl, rfl⟩⟩
