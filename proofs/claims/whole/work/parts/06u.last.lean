theorem m_lives {K : fh_K} {M : fh_M} {y m : Nat} {σ : sT} (v : Int32) (hS : mS K M y) (hP : mP M y σ) (hm : m < 8) : f_X11_lives K M y (nI m) v = some (kI (lvN σ v m)) := by
  unfold f_X11_lives lvN
  rw [kI_s]
  by_cases h : v = 0
  · rw [if_pos h, if_pos h, mo hS, mi15 hS rfl hm, cl_n (by omega), mP_a hP 12 m (by omega)]
  · rw [if_neg h, if_neg h, mo hS, mi14 hS rfl hm, cl_n (by omega), mP_a hP 11 m (by omega)]
def uE (y : Nat) (M M' : fh_M) : Prop := M'.2 = M.2 ∧ ∀ a k, a ≠ y + 29 → M'.1 a k = M.1 a k
theorem uE_tr {y : Nat} {M M1 M2 : fh_M} (h : uE y M M1) (h2 : uE y M1 M2) : uE y M M2 := ⟨h2.1.trans h.1, fun a k q => (h2.2 a k q).trans (h.2 a k q)⟩
theorem uE_G {y : Nat} {M M1 : fh_M} (h : uE y M M1) : mG y M M1 := ⟨h.1, fun a k q => h.2 a k (fun z => q (by unfold mZ; omega))⟩
theorem uE_si {y k : Nat} {M : fh_M} {v : Int32} : uE y M (fh_si M (y + 29) k v) := ⟨rfl, fun b j z => by rw [fh_si_1, if_neg (fun q => z q.1)]⟩
def uRow (M : fh_M) (y k : Nat) (W : Nat → Nat) : Prop := ∀ j, j < 12 → M.1 (y + 29) (12 * k + j) = kI (W j)
theorem uRow_si {M : fh_M} {y k i : Nat} {W : Nat → Nat} {v : Int32} (h : uRow M y k W) (hi : ¬ (12 * k ≤ i ∧ i < 12 * k + 12)) : uRow (fh_si M (y + 29) i v) y k W := fun j hj => by rw [fh_si_1, if_neg (by omega)]; exact h j hj
theorem m_lL28 {K : fh_K} {y k : Nat} {σ : sT} {v v3 v4 : Int32} {rec : Nat → Int32 → Int32 → Int32 → Int32 → fh_M → Option (Int32 × fh_M)} (M0 : fh_M) (hS0 : mS K M0 y) (hk : k ≤ 4) :
    ∀ n i M, 12 - i < n → i ≤ 12 → uE y M0 M → (∀ q, q < k → uRow M y q (uN σ v q)) → (∀ j, j < i → M.1 (y + 29) (12 * k + j) = kI 0) → ∃ M', f_X11_lastOf_L28 K rec n y v v3 v4 (nI k) (nI i) M = f_X11_lastOf_J55 K rec y v v3 v4 (nI k) M' ∧ uE y M0 M' ∧ (∀ q, q < k → uRow M' y q (uN σ v q)) ∧ uRow M' y k (fun _ => 0) := by
  intro n
  induction n with
  | zero => intro i M q; exact absurd q (Nat.not_lt_zero _)
  | succ n ih =>
    intro i M hn hi hE hU hF
    have hS := mG_S (uE_G hE) hS0
    unfold f_X11_lastOf_L28
    rw [n_12]
    by_cases hlt : i < 12
    · have e : nI 12 * nI k + nI i = nI (12 * k + i) := by rw [pk_mul, nI_add]
      rw [if_neg (nI_ge hlt (by omega)), mo hS, mi39 hS e (by omega), fb_eq, e, cl_n (by omega), nI_1]
      refine ih (i + 1) _ (by omega) (by omega) (uE_tr hE uE_si) (fun q hq => uRow_si (hU q hq) (by omega)) (fun j hj => ?_)
      rw [fh_si_1]
      by_cases z : j = i
      · rw [if_pos ⟨rfl, by rw [z]⟩]; rfl
      · rw [if_neg (by omega)]; exact hF j (by omega)
    · rw [if_pos (nI_le (by omega) (by omega))]
      exact ⟨M, rfl, hE, hU, fun j hj => hF j (by omega)⟩
theorem m_lL58 {K : fh_K} {y : Nat} {σ : sT} {v v3 v4 : Int32} {rec : Nat → Int32 → Int32 → Int32 → Int32 → fh_M → Option (Int32 × fh_M)} (M0 : fh_M) (hS0 : mS K M0 y) (hP0 : mP M0 y σ) (hV : Val σ) :
    ∀ n r M, σ 0 16 - r < n → r ≤ σ 0 16 → uE y M0 M → uRow M y 0 (rdm σ v r) → ∃ M', f_X11_lastOf_L58 K rec n y v v3 v4 (nI 0) (nI r) M = f_X11_lastOf_J129 K rec y v v3 v4 (nI 0) M' ∧ uE y M0 M' ∧ uRow M' y 0 (uN σ v 0) := by
  have hv := hV.1
  intro n
  induction n with
  | zero => intro r M q; exact absurd q (Nat.not_lt_zero _)
  | succ n ih =>
    intro r M hn hr hE hF
    have hS := mG_S (uE_G hE) hS0
    have hP := mG_P (uE_G hE) hP0
    unfold f_X11_lastOf_L58 f_X11_lastOf_J123
    rw [mo hS, mP_s hP 16 (by omega)]
    by_cases hlt : r < σ 0 16
    · obtain ⟨t1, t2⟩ := hV.2.2.2.2.2.2.1 r hlt
      have l1 := lvN_le hV v t2
      have l3 := rdm_le hV v r hr (σ 13 r)
      rw [if_neg (nI_ge hlt (by omega)), if_pos nI_0, mi18 hS rfl (by omega), cl_n (by omega), mP_a hP 14 r (by omega), m_lives v hS hP t2]
      simp only [Option.bind_some]
      have h0 := hF (σ 13 r) (by omega)
      rw [Nat.mul_zero, Nat.zero_add] at h0
      rw [mi17 hS rfl (by omega), mP_a hP 13 r (by omega), mi39 hS rfl (by omega), cl_n (by omega), h0, fb_eq, nI_1]
      by_cases z : lvN σ v (σ 14 r) ≤ rdm σ v r (σ 13 r)
      · rw [if_pos ((kI_le (by omega) (by omega)).mpr z)]
        refine ih (r + 1) M (by omega) (by omega) hE (fun j hj => ?_)
        rw [hF j hj]
        show _ = kI (if σ 13 r = j then max (rdm σ v r j) (lvN σ v (σ 14 r)) else rdm σ v r j)
        by_cases w : σ 13 r = j
        · rw [if_pos w, ← w, Nat.max_eq_left z]
        · rw [if_neg w]
      · rw [if_neg (fun q => z ((kI_le (by omega) (by omega)).mp q))]
        refine ih (r + 1) _ (by omega) (by omega) (uE_tr hE uE_si) (fun j hj => ?_)
        rw [fh_si_1]
        show _ = kI (if σ 13 r = j then max (rdm σ v r j) (lvN σ v (σ 14 r)) else rdm σ v r j)
        by_cases w : σ 13 r = j
        · rw [if_pos ⟨rfl, by omega⟩, if_pos w, ← w, Nat.max_eq_right (by omega)]
        · rw [if_neg (by omega), if_neg w]; exact hF j hj
    · rw [if_pos (nI_le (by omega) (by omega))]
      have : r = σ 0 16 := by omega
      subst this
      exact ⟨M, rfl, hE, hF⟩
theorem m_lL132 {K : fh_K} {y k : Nat} {σ : sT} {v v3 v4 : Int32} {rec : Nat → Int32 → Int32 → Int32 → Int32 → fh_M → Option (Int32 × fh_M)} (M0 : fh_M) (hS0 : mS K M0 y) (hP0 : mP M0 y σ) (hV : Val σ) (hk : k < 4) :
    ∀ n t M, σ 0 19 - t < n → t ≤ σ 0 19 → uE y M0 M → (∀ q, q < k + 1 → uRow M y q (uN σ v q)) → uRow M y (k + 1) (tnm σ v (fun _ => 0) (uN σ v k) t) → ∃ M', f_X11_lastOf_L132 K rec n y v v3 v4 (nI (k + 1)) (nI t) M = f_X11_lastOf_J253 K rec y v v3 v4 (nI (k + 1)) M' ∧ uE y M0 M' ∧ ∀ q, q < k + 1 + 1 → uRow M' y q (uN σ v q) := by
  have hv := hV.1
  intro n
  induction n with
  | zero => intro t M q; exact absurd q (Nat.not_lt_zero _)
  | succ n ih =>
    intro t M hn ht hE hU hF
    have hS := mG_S (uE_G hE) hS0
    have hP := mG_P (uE_G hE) hP0
    unfold f_X11_lastOf_L132
    rw [mo hS, mP_s hP 19 (by omega)]
    by_cases hlt : t < σ 0 19
    · obtain ⟨t1, t2, t3, t4, t5, t6⟩ := hV.2.2.2.2.2.2.2 t hlt
      have l1 := lvN_le hV v t6
      have l2 := uN_le hV v k (σ 16 t)
      have l3 := tnm_le (σ := σ) v (I := fun _ => 0) (fun _ => Nat.zero_le _) (uN_le hV v k) t (σ 15 t)
      have e1 : (12 : Int32) * (nI (k + 1) - 1) + nI (σ 16 t) = nI (12 * k + σ 16 t) := by rw [nI_pred, n_12, pk_mul, nI_add]
      have e2 : (12 : Int32) * nI (k + 1) + nI (σ 15 t) = nI (12 * (k + 1) + σ 15 t) := by rw [n_12, pk_mul, nI_add]
      rw [if_neg (nI_ge hlt (by omega)), if_neg (nI_nle (by omega) (by omega)), mi21 hS rfl (by omega), cl_n (by omega), mP_a hP 16 t (by omega), e1, mi39 hS rfl (by omega), mi24 hS rfl (by omega), mP_a hP 19 t (by omega), m_lives v hS hP t6]
      simp only [Option.bind_some]
      rw [cl_n (by omega), hU k (by omega) (σ 16 t) (by omega)]
      have body : ∀ (w : Nat), w = min (uN σ v k (σ 16 t)) (lvN σ v (σ 19 t)) → ∃ M', f_X11_lastOf_J202 K rec (f_X11_lastOf_L132 K rec n) y v v3 v4 (nI (k + 1)) (nI t) (kI w) M = f_X11_lastOf_J253 K rec y v v3 v4 (nI (k + 1)) M' ∧ uE y M0 M' ∧ ∀ q, q < k + 1 + 1 → uRow M' y q (uN σ v q) := by
        intro w hw
        unfold f_X11_lastOf_J202 f_X11_lastOf_J247
        rw [mo hS, mi20 hS rfl (by omega), cl_n (by omega), mP_a hP 15 t (by omega), e2, mi39 hS rfl (by omega), cl_n (by omega), hF (σ 15 t) (by omega), fb_eq, nI_1]
        by_cases z : w ≤ tnm σ v (fun _ => 0) (uN σ v k) t (σ 15 t)
        · rw [if_pos ((kI_le (by omega) (by omega)).mpr z)]
          refine ih (t + 1) M (by omega) (by omega) hE hU (fun j hj => ?_)
          rw [hF j hj]
          show _ = kI (if σ 15 t = j then max (tnm σ v (fun _ => 0) (uN σ v k) t j) (min (uN σ v k (σ 16 t)) (lvN σ v (σ 19 t))) else tnm σ v (fun _ => 0) (uN σ v k) t j)
          by_cases u : σ 15 t = j
          · rw [if_pos u, ← u, ← hw, Nat.max_eq_left z]
          · rw [if_neg u]
        · rw [if_neg (fun q => z ((kI_le (by omega) (by omega)).mp q))]
          refine ih (t + 1) _ (by omega) (by omega) (uE_tr hE uE_si) (fun q hq => uRow_si (hU q hq) (by omega)) (fun j hj => ?_)
          rw [fh_si_1]
          show _ = kI (if σ 15 t = j then max (tnm σ v (fun _ => 0) (uN σ v k) t j) (min (uN σ v k (σ 16 t)) (lvN σ v (σ 19 t))) else tnm σ v (fun _ => 0) (uN σ v k) t j)
          by_cases u : σ 15 t = j
          · rw [if_pos ⟨rfl, by omega⟩, if_pos u, ← u, ← hw, Nat.max_eq_right (by omega)]
          · rw [if_neg (by omega), if_neg u]; exact hF j hj
      by_cases z : uN σ v k (σ 16 t) ≤ lvN σ v (σ 19 t)
      · rw [if_pos ((kI_le (by omega) (by omega)).mpr z)]
        exact body _ (by omega)
      · rw [if_neg (fun q => z ((kI_le (by omega) (by omega)).mp q))]
        exact body _ (by omega)
    · rw [if_pos (nI_le (by omega) (by omega))]
      have : t = σ 0 19 := by omega
      subst this
      refine ⟨M, rfl, hE, fun q hq => ?_⟩
      by_cases z : q = k + 1
      · subst z; exact hF
      · exact hU q (by omega)
theorem m_lRow {K : fh_K} {y k : Nat} {σ : sT} {v v3 v4 : Int32} {rec : Nat → Int32 → Int32 → Int32 → Int32 → fh_M → Option (Int32 × fh_M)} (M : fh_M) (hS : mS K M y) (hP : mP M y σ) (hV : Val σ) (hk : k ≤ 4) (hU : ∀ q, q < k → uRow M y q (uN σ v q)) :
    ∃ M', f_X11_lastOf_L28 K rec 4096 y v v3 v4 (nI k) (nI 0) M = f_X11_lastOf_J253 K rec y v v3 v4 (nI k) M' ∧ uE y M M' ∧ ∀ q, q < k + 1 → uRow M' y q (uN σ v q) := by
  have hv := hV.1
  obtain ⟨M1, q1, q2, q3, q4⟩ := m_lL28 (σ := σ) (v := v) (v3 := v3) (v4 := v4) (rec := rec) M hS hk 4096 0 M (by omega) (by omega) ⟨rfl, fun _ _ _ => rfl⟩ hU (fun j hj => absurd hj (Nat.not_lt_zero _))
  rw [q1]
  unfold f_X11_lastOf_J55
  have hS1 := mG_S (uE_G q2) hS
  have hP1 := mG_P (uE_G q2) hP
  cases k with
  | zero =>
    obtain ⟨M2, w1, w2, w3⟩ := m_lL58 (v := v) (v3 := v3) (v4 := v4) (rec := rec) M hS hP hV 4096 0 M1 (by omega) (by omega) q2 q4
    rw [show (0 : Int32) = nI 0 from rfl, w1]
    have hS2 := mG_S (uE_G w2) hS
    have hP2 := mG_P (uE_G w2) hP
    unfold f_X11_lastOf_J129
    refine ⟨M2, ?_, w2, fun q hq => ?_⟩
    · unfold f_X11_lastOf_L132
      rw [mo hS2, if_pos (show nI 0 ≤ 0 by decide), ite_self]
    · rw [show q = 0 by omega]; exact w3
  | succ k =>
    have e : f_X11_lastOf_L58 K rec 4096 y v v3 v4 (nI (k + 1)) 0 M1 = f_X11_lastOf_J129 K rec y v v3 v4 (nI (k + 1)) M1 := by
      unfold f_X11_lastOf_L58
      rw [mo hS1, if_neg (nI_ne0 (by omega) (by omega)), ite_self]
    rw [e]
    unfold f_X11_lastOf_J129
    rw [n_0]
    exact m_lL132 M hS hP hV (by omega) 4096 0 M1 (by omega) (by omega) q2 q3 q4
def mbN (σ : sT) (v : Int32) (m : Nat) : Nat → Nat
  | 0 => 0
  | k + 1 => max (mbN σ v m k) (uN σ v k m)
theorem mbN_mx (σ : sT) (v : Int32) (m : Nat) : ∀ k, mbN σ v m (k + 1) = mxN σ v k m := by
  intro k
  induction k with
  | zero => show max 0 _ = _; rw [Nat.zero_max]; rfl
  | succ k ih => show max (mbN σ v m (k + 1)) _ = _; rw [ih]; rfl
theorem mbN_le {σ : sT} (hV : Val σ) (v : Int32) (m : Nat) : ∀ k, mbN σ v m k ≤ 1000 := by
  intro k
  induction k with
  | zero => exact Nat.zero_le _
  | succ k ih =>
    have := uN_le hV v k m
    show max _ _ ≤ 1000
    omega
theorem m_lL19 {K : fh_K} {y m : Nat} {σ : sT} {v : Int32} (M0 : fh_M) (hS0 : mS K M0 y) (hP0 : mP M0 y σ) (hV : Val σ) (hm : m < 12) :
    ∀ n k M, 5 - k < n → k ≤ 5 → uE y M0 M → (∀ q, q < k → uRow M y q (uN σ v q)) → ∃ M', f_X11_lastOf_L19 K n y v (nI m) (kI (mbN σ v m k)) (nI k) M = some (kI (mbN σ v m 5), M') ∧ uE y M0 M' := by
  intro n
  induction n with
  | zero => intro k M q; exact absurd q (Nat.not_lt_zero _)
  | succ n ih =>
    intro k M hn hk hE hU
    have hS := mG_S (uE_G hE) hS0
    have hP := mG_P (uE_G hE) hP0
    unfold f_X11_lastOf_L19
    rw [n_4]
    by_cases hlt : k ≤ 4
    · rw [if_neg (nI_nlt hlt (by omega)), n_0]
      obtain ⟨M1, q1, q2, q3⟩ := m_lRow (v := v) (v3 := nI m) (v4 := kI (mbN σ v m k)) (rec := f_X11_lastOf_L19 K n) M hS hP hV hlt hU
      rw [q1]
      have hS1 := mG_S (uE_G q2) hS
      have e : (12 : Int32) * nI k + nI m = nI (12 * k + m) := by rw [n_12, pk_mul, nI_add]
      have l1 := mbN_le hV v m k
      have l2 := uN_le hV v k m
      unfold f_X11_lastOf_J253 f_X11_lastOf_J287
      rw [mo hS1, e, mi39 hS1 rfl (by omega), cl_n (by omega), q3 k (by omega) m hm, nI_1]
      by_cases z : uN σ v k m ≤ mbN σ v m k
      · rw [if_pos ((kI_le (by omega) (by omega)).mpr z)]
        have := ih (k + 1) M1 (by omega) (by omega) (uE_tr hE q2) q3
        rw [show mbN σ v m (k + 1) = mbN σ v m k from Nat.max_eq_left z] at this
        exact this
      · rw [if_neg (fun q => z ((kI_le (by omega) (by omega)).mp q))]
        have := ih (k + 1) M1 (by omega) (by omega) (uE_tr hE q2) q3
        rw [show mbN σ v m (k + 1) = uN σ v k m from Nat.max_eq_right (by omega)] at this
        exact this
    · rw [if_pos (nI_lt (by omega) (by omega))]
      have : k = 5 := by omega
      subst this
      exact ⟨M, rfl, hE⟩
/-- the last year of a file, one more -/
noncomputable def laN (σ : sT) (v : Int32) (f : Nat) : Nat := if sK σ f = 0 then 0 else eN σ v 4 (sK σ f - 1)
theorem laN_le {σ : sT} (hV : Val σ) (v : Int32) (f : Nat) : laN σ v f ≤ 1000 := by
  unfold laN
  split
  · exact Nat.zero_le _
  · exact eN_le hV v 4 _
theorem m_lastOf {K : fh_K} {M : fh_M} {y : Nat} {σ : sT} {f : Nat} (v : Int32) (hS : mS K M y) (hP : mP M y σ) (hV : Val σ) (hf : f < σ 0 9) :
    ∃ M', f_X11_lastOf K M y (nI f) v = some (kI (laN σ v f), M') ∧ mG y M M' := by
  have hv := hV.1
  obtain ⟨M1, q1, q2, q3⟩ := m_knows hS hP hV hf
  have hS1 := mE_S q2 hS
  have hP1 := mG_P (mG_E q2) hP
  have hsk := sK_le σ f
  unfold f_X11_lastOf laN
  rw [mo hS, q1, fc2_some]
  cases hq : sK σ f with
  | zero =>
    rw [if_pos kI_0, if_pos rfl]
    exact ⟨M1, rfl, mG_E q2⟩
  | succ m =>
    rw [if_neg (fun q => by rw [kI_m1 (by omega)] at q; omega), if_neg (by omega), kI_s, Nat.add_sub_cancel]
    obtain ⟨M2, w1, w2⟩ := m_lL19 (v := v) (m := m) M1 hS1 hP1 hV (by omega) 4096 0 M1 (by omega) (by omega) ⟨rfl, fun _ _ _ => rfl⟩ (fun q hq => absurd hq (Nat.not_lt_zero _))
    rw [mbN_mx, ← eN_mx] at w1
    exact ⟨M2, w1, mG_tr (mG_E q2) (uE_G w2)⟩
theorem c_lastY {K : fh_K} {M : fh_M} {x q : Nat} {V : Nat → Nat} (hS : cS K M x) (h20 : rowI M (x + 20) V) (hq : q ≤ 12) : f_X6_lastYearOf K M (x + 19) (kI q) = some (kI (if q = 0 then 0 else V (q - 1))) := by
  unfold f_X6_lastYearOf
  cases q with
  | zero => rw [kI_0, if_pos (by decide), if_pos rfl, kI_0]
  | succ q => rw [kI_s, if_neg (nI_pos (by omega)), n_12, if_neg (nI_ge (by omega) (by omega)), fo_ok (ck19 hS), cr19_0 hS, fi_ok (ck20 hS) rfl (by omega) (by omega), cl_n (by omega), h20 q (by omega), if_neg (by omega), Nat.add_sub_cancel]
/-- LAST -/
theorem op_last {sz : Nat} {K : fh_K} {M : fh_M} {x : Nat} {σ : sT} (hI : Inv sz K M x σ) (v w : Int32) : Op sz K M x (fun K M x => f_X10_last K M x v w) (fun K M y => f_X11_last K M y v w) := by
  obtain ⟨hV, s1, p1, s2, p2, k1, k2⟩ := id hI
  have hv := hV.1
  have bad : (v < 0 ∨ nI (σ 0 9) ≤ v) → Op sz K M x (fun K M x => f_X10_last K M x v w) (fun K M y => f_X11_last K M y v w) := by
    intro h
    refine ⟨-1, M, M, σ, ?_, ?_, hI⟩
    · show f_X10_last K M x v w = _
      unfold f_X10_last; rw [co s1, c_fileOut s1 p1 h]; rfl
    · show f_X11_last K M (x + 32) v w = _
      unfold f_X11_last; rw [mo s2, m_fileOut s2 p2 hV h]; rfl
  rcases pk_ix v (n := σ 0 9) (by omega) with h | h | ⟨f, hf, rfl⟩
  · exact bad (Or.inl h)
  · exact bad (Or.inr h)
  · obtain ⟨a, ab, h1, h2, h3, g1, g2, g3, g4, g5, g6, g7, g8, g9, -⟩ := p1.2.2.2.2.2.2.2.1 f hf
    obtain ⟨M1, q1, q2, q3⟩ := c_measure w s1 p1 hV
    have hI1 := Inv_cG hI (sE_G q2)
    obtain ⟨-, s1', p1', s2', p2', -⟩ := id hI1
    obtain ⟨M2, w1, w2⟩ := m_lastOf w s2' p2' hV hf
    have hsk := sK_le σ f
    refine ⟨kI (laN σ w f), M1, M2, σ, ?_, ?_, Inv_mG hI1 w2⟩
    · show f_X10_last K M x (nI f) w = _
      unfold f_X10_last
      rw [co s1, c_fileIn s1 p1 hV hf, h1]
      simp only [Option.bind_some]
      rw [if_neg (fun q => by cases q), cr0_8 s1, fo_ok (ck19 s1), cr0_5 s1, cr0_6 s1, cr0_4 s1, q1]
      simp only [Option.bind_some]
      rw [fo_ok g1, cr0_8 s1', fo_ok (ck19 s1'), q2.2 _ _ (by omega) (by omega), g9, c_lastY s1' q3 (by omega)]
      rfl
    · show f_X11_last K M1 (x + 32) (nI f) w = _
      unfold f_X11_last
      rw [mo s2', m_fileIn s2' p2' hV hf]
      simp only [Option.bind_some]
      rw [if_neg (show ¬ (1 : Int32) = 0 by decide), w1, fc2_some]
/-- COUNT -/
noncomputable def n6 (σ : sT) : Nat → Nat
  | 0 => 0
  | f + 1 => if sK σ f = 0 then n6 σ f + 1 else n6 σ f
noncomputable def n7 (σ : sT) : Nat → Nat
  | 0 => 0
  | f + 1 => if laN σ 0 f < σ 0 2 + 1 then n7 σ f + 1 else n7 σ f
theorem c_knowIn {K : fh_K} {M : fh_M} {x f : Nat} {σ : sT} (hS : cS K M x) (hP : cP K M x σ) (hV : Val σ) (hf : f < σ 0 9) : f_X10_know K M x (nI f) = some (kI (sK σ f)) := by
  obtain ⟨a, ab, h1, h2, h3, g1, g2, g3, g4, g5, g6, g7, g8, g9, -⟩ := hP.2.2.2.2.2.2.2.1 f hf
  unfold f_X10_know
  rw [co hS, c_fileIn hS hP hV hf, h1]
  simp only [Option.bind_some]
  rw [if_neg (fun q => by cases q), fo_ok g1, g9]
theorem c_cnt6 {K : fh_K} {M : fh_M} {x : Nat} {σ : sT} (hS : cS K M x) (hP : cP K M x σ) (hV : Val σ) : ∀ n f, σ 0 9 - f < n → f ≤ σ 0 9 → f_X10_filesWithoutMake_L4 K M n x (nI (n6 σ f)) (nI f) = some (nI (n6 σ (σ 0 9))) := by
  have hv := hV.1
  intro n
  induction n with
  | zero => intro f q; exact absurd q (Nat.not_lt_zero _)
  | succ n ih =>
    intro f hn hf
    unfold f_X10_filesWithoutMake_L4 f_X10_filesWithoutMake_J24
    rw [co hS, hP.1.2.1]
    by_cases hlt : f < σ 0 9
    · have hsk := sK_le σ f
      rw [if_neg (nI_ge hlt (by omega)), c_knowIn hS hP hV hlt]
      simp only [Option.bind_some]
      rw [nI_1, nI_1]
      have := ih (f + 1) (by omega) (by omega)
      by_cases z : sK σ f = 0
      · rw [if_pos ((kI_m1 (by omega)).mpr z)]
        rw [show n6 σ (f + 1) = n6 σ f + 1 from if_pos z] at this
        exact this
      · rw [if_neg (fun q => z ((kI_m1 (by omega)).mp q))]
        rw [show n6 σ (f + 1) = n6 σ f from if_neg z] at this
        exact this
    · rw [if_pos (nI_le (by omega) (by omega)), show f = σ 0 9 by omega]
theorem m_cnt6 {K : fh_K} {y : Nat} {σ : sT} (M0 : fh_M) (hS0 : mS K M0 y) (hP0 : mP M0 y σ) (hV : Val σ) : ∀ n f M, σ 0 9 - f < n → f ≤ σ 0 9 → mG y M0 M → ∃ M', f_X11_count_L80 K n y (nI (n6 σ f)) (nI f) M = some (nI (n6 σ (σ 0 9)), M') ∧ mG y M0 M' := by
  have hv := hV.1
  intro n
  induction n with
  | zero => intro f M q; exact absurd q (Nat.not_lt_zero _)
  | succ n ih =>
    intro f M hn hf hG
    have hS := mG_S hG hS0
    have hP := mG_P hG hP0
    unfold f_X11_count_L80 f_X11_count_J103
    rw [mo hS, mP_s hP 9 (by omega)]
    by_cases hlt : f < σ 0 9
    · have hsk := sK_le σ f
      obtain ⟨M1, q1, q2, -⟩ := m_knows hS hP hV hlt
      rw [if_neg (nI_ge hlt (by omega)), q1, fc2_some, nI_1, nI_1]
      have := ih (f + 1) M1 (by omega) (by omega) (mG_tr hG (mG_E q2))
      by_cases z : sK σ f = 0
      · rw [if_pos ((kI_m1 (by omega)).mpr z)]
        rw [show n6 σ (f + 1) = n6 σ f + 1 from if_pos z] at this
        exact this
      · rw [if_neg (fun q => z ((kI_m1 (by omega)).mp q)), n_0, nI_add, Nat.add_zero]
        rw [show n6 σ (f + 1) = n6 σ f from if_neg z] at this
        exact this
    · rw [if_pos (nI_le (by omega) (by omega)), show f = σ 0 9 by omega]
      exact ⟨M, rfl, hG⟩
theorem c_cnt7 {K : fh_K} {M : fh_M} {x : Nat} {σ : sT} (hS : cS K M x) (hP : cP K M x σ) (hV : Val σ) (h20 : rowI M (x + 20) (eN σ 0 4)) : ∀ n f, σ 0 9 - f < n → f ≤ σ 0 9 → f_X10_filesBeyondReading_L24 K n x (nI (n7 σ f)) (nI f) M = some (nI (n7 σ (σ 0 9)), M) := by
  have hv := hV.1
  intro n
  induction n with
  | zero => intro f q; exact absurd q (Nat.not_lt_zero _)
  | succ n ih =>
    intro f hn hf
    unfold f_X10_filesBeyondReading_L24 f_X10_filesBeyondReading_J54
    rw [co hS, hP.1.2.1]
    by_cases hlt : f < σ 0 9
    · have hsk := sK_le σ f
      have hla := laN_le hV 0 f
      rw [if_neg (nI_ge hlt (by omega)), c_knowIn hS hP hV hlt]
      simp only [Option.bind_some]
      rw [cr0_8 hS, fo_ok (ck19 hS), c_lastY hS h20 (by omega)]
      simp only [Option.bind_some]
      rw [hP.1.2.2, nI_1, nI_1, ← kI_s, show (if sK σ f = 0 then 0 else eN σ 0 4 (sK σ f - 1)) = laN σ 0 f from rfl]
      have := ih (f + 1) (by omega) (by omega)
      by_cases z : laN σ 0 f < σ 0 2 + 1
      · rw [if_neg (fun q => by rw [kI_le (by omega) (by omega)] at q; omega)]
        rw [show n7 σ (f + 1) = n7 σ f + 1 from if_pos z] at this
        exact this
      · rw [if_pos ((kI_le (by omega) (by omega)).mpr (by omega))]
        rw [show n7 σ (f + 1) = n7 σ f from if_neg z] at this
        exact this
    · rw [if_pos (nI_le (by omega) (by omega)), show f = σ 0 9 by omega]
theorem m_cnt7 {K : fh_K} {y : Nat} {σ : sT} (M0 : fh_M) (hS0 : mS K M0 y) (hP0 : mP M0 y σ) (hV : Val σ) : ∀ n f M, σ 0 9 - f < n → f ≤ σ 0 9 → mG y M0 M → ∃ M', f_X11_count_L115 K n y (nI (n7 σ f)) (nI f) M = some (nI (n7 σ (σ 0 9)), M') ∧ mG y M0 M' := by
  have hv := hV.1
  intro n
  induction n with
  | zero => intro f M q; exact absurd q (Nat.not_lt_zero _)
  | succ n ih =>
    intro f M hn hf hG
    have hS := mG_S hG hS0
    have hP := mG_P hG hP0
    unfold f_X11_count_L115 f_X11_count_J142
    rw [mo hS, mP_s hP 9 (by omega)]
    by_cases hlt : f < σ 0 9
    · have hla := laN_le hV 0 f
      obtain ⟨M1, q1, q2⟩ := m_lastOf 0 hS hP hV hlt
      have hP1 := mG_P q2 hP
      rw [if_neg (nI_ge hlt (by omega)), q1, fc2_some, mP_s hP1 2 (by omega), nI_1, nI_1, ← kI_s]
      have := ih (f + 1) M1 (by omega) (by omega) (mG_tr hG q2)
      by_cases z : laN σ 0 f < σ 0 2 + 1
      · rw [if_neg (fun q => by rw [kI_le (by omega) (by omega)] at q; omega)]
        rw [show n7 σ (f + 1) = n7 σ f + 1 from if_pos z] at this
        exact this
      · rw [if_pos ((kI_le (by omega) (by omega)).mpr (by omega)), n_0, nI_add, Nat.add_zero]
        rw [show n7 σ (f + 1) = n7 σ f from if_neg z] at this
        exact this
    · rw [if_pos (nI_le (by omega) (by omega)), show f = σ 0 9 by omega]
      exact ⟨M, rfl, hG⟩
theorem op_count {sz : Nat} {K : fh_K} {M : fh_M} {x : Nat} {σ : sT} (hI : Inv sz K M x σ) (v : Int32) : Op sz K M x (fun K M x => f_X10_count K M x v) (fun K M y => f_X11_count K M y v) := by
  obtain ⟨hV, s1, p1, s2, p2, k1, k2⟩ := id hI
  have hv := hV.1
  unfold Op
  simp only
  unfold f_X10_count f_X11_count
  by_cases v0 : v = 0
  · simp only [if_pos v0]
    exact ⟨nI (σ 0 3), M, M, σ, by rw [co s1, p1.1.1], by rw [mo s2, mP_s p2 3 (by omega)], hI⟩
  simp only [if_neg v0]
  by_cases v1 : v = 1
  · simp only [if_pos v1]
    exact ⟨nI (σ 0 9), M, M, σ, by rw [co s1, p1.1.2.1], by rw [mo s2, mP_s p2 9 (by omega)], hI⟩
  simp only [if_neg v1]
  by_cases v2 : v = 2
  · simp only [if_pos v2]
    exact ⟨nI (σ 0 16), M, M, σ, by rw [co s1, cr0_5 s1, fo_ok (ck10 s1), p1.2.2.2.1.1], by rw [mo s2, mP_s p2 16 (by omega)], hI⟩
  simp only [if_neg v2]
  by_cases v3 : v = 3
  · simp only [if_pos v3]
    exact ⟨nI (σ 0 19), M, M, σ, by rw [co s1, cr0_6 s1, fo_ok (ck13 s1), p1.2.2.2.2.1], by rw [mo s2, mP_s p2 19 (by omega)], hI⟩
  simp only [if_neg v3]
  by_cases v4 : v = 4
  · simp only [if_pos v4]
    exact ⟨nI (σ 0 2), M, M, σ, by rw [co s1, p1.1.2.2], by rw [mo s2, mP_s p2 2 (by omega)], hI⟩
  simp only [if_neg v4]
  by_cases v5 : v = 5
  · simp only [if_pos v5]
    exact ⟨nI (σ 0 1), M, M, σ, by rw [co s1, cr0_0 s1, fo_ok (ck1 s1), p1.2.1.1], by rw [mo s2, mP_s p2 1 (by omega)], hI⟩
  simp only [if_neg v5]
  by_cases v6 : v = 6
  · simp only [if_pos v6]
    obtain ⟨M2, q1, q2⟩ := m_cnt6 M s2 p2 hV 4096 0 M (by omega) (by omega) (mG_rf _ _)
    refine ⟨_, M, M2, σ, ?_, q1, Inv_mG hI q2⟩
    unfold f_X10_filesWithoutMake
    have := c_cnt6 s1 p1 hV 4096 0 (by omega) (by omega)
    rw [co s1, n_0]
    rw [show n6 σ 0 = 0 from rfl] at this
    rw [this]
    rfl
  simp only [if_neg v6]
  by_cases v7 : v = 7
  · simp only [if_pos v7]
    obtain ⟨M1, q1, q2, q3⟩ := c_measure 0 s1 p1 hV
    have hI1 := Inv_cG hI (sE_G q2)
    obtain ⟨-, s1', p1', s2', p2', -⟩ := id hI1
    obtain ⟨M2, w1, w2⟩ := m_cnt7 M1 s2' p2' hV 4096 0 M1 (by omega) (by omega) (mG_rf _ _)
    refine ⟨_, M1, M2, σ, ?_, w1, Inv_mG hI1 w2⟩
    unfold f_X10_filesBeyondReading
    have := c_cnt7 s1' p1' hV q3 4096 0 (by omega) (by omega)
    rw [show n7 σ 0 = 0 from rfl] at this
    rw [co s1, co s1, cr0_8 s1, fo_ok (ck19 s1), cr0_5 s1, cr0_6 s1, cr0_4 s1, q1]
    simp only [Option.bind_some]
    rw [n_0, this, fc2_some]
  simp only [if_neg v7]
  exact ⟨-1, M, M, σ, rfl, rfl, hI⟩
