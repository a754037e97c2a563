theorem kI_toInt {p : Nat} (h : p < 2 ^ 31) : (kI p).toInt = (p : Int) - 1 := by
  cases p with
  | zero => decide
  | succ p => rw [kI_s, nI_toInt (by omega)]; omega
theorem kI_lt {p q : Nat} (hp : p < 2 ^ 31) (hq : q < 2 ^ 31) : kI p < kI q ↔ p < q := by
  rw [fa_lt, kI_toInt hp, kI_toInt hq]; omega
theorem kI_le {p q : Nat} (hp : p < 2 ^ 31) (hq : q < 2 ^ 31) : kI p ≤ kI q ↔ p ≤ q := by
  rw [fa_le, kI_toInt hp, kI_toInt hq]; omega
theorem kI_max {p q : Nat} (hp : p < 2 ^ 31) (hq : q < 2 ^ 31) : (if kI p < kI q then kI q else kI p) = kI (max p q) := by
  by_cases h : p < q
  · rw [if_pos ((kI_lt hp hq).mpr h), Nat.max_eq_right (by omega)]
  · rw [if_neg (fun z => h ((kI_lt hp hq).mp z)), Nat.max_eq_left (by omega)]
theorem kI_min {p q : Nat} (hp : p < 2 ^ 31) (hq : q < 2 ^ 31) : (if kI p < kI q then kI p else kI q) = kI (min p q) := by
  by_cases h : p < q
  · rw [if_pos ((kI_lt hp hq).mpr h), Nat.min_eq_left (by omega)]
  · rw [if_neg (fun z => h ((kI_lt hp hq).mp z)), Nat.min_eq_right (by omega)]
/-- a machine's last year, one more -/
def lvN (σ : sT) (v : Int32) (m : Nat) : Nat := (if v = 0 then σ 12 m else σ 11 m) + 1
theorem lvN_le {σ : sT} (hV : Val σ) (v : Int32) {m : Nat} (hm : m < 8) : lvN σ v m ≤ 1000 := by
  have := hV.2.2.2.2.2.1 m hm
  unfold lvN
  split <;> omega
def rdm (σ : sT) (v : Int32) : Nat → Nat → Nat
  | 0, _ => 0
  | r + 1, j => if σ 13 r = j then max (rdm σ v r j) (lvN σ v (σ 14 r)) else rdm σ v r j
def tnm (σ : sT) (v : Int32) (I V : Nat → Nat) : Nat → Nat → Nat
  | 0, j => I j
  | t + 1, j => if σ 15 t = j then max (tnm σ v I V t j) (min (V (σ 16 t)) (lvN σ v (σ 19 t))) else tnm σ v I V t j
def uN (σ : sT) (v : Int32) : Nat → Nat → Nat
  | 0 => rdm σ v (σ 0 16)
  | k + 1 => tnm σ v (fun _ => 0) (uN σ v k) (σ 0 19)
def eN (σ : sT) (v : Int32) : Nat → Nat → Nat
  | 0 => rdm σ v (σ 0 16)
  | k + 1 => tnm σ v (eN σ v k) (eN σ v k) (σ 0 19)
def mxN (σ : sT) (v : Int32) : Nat → Nat → Nat
  | 0 => uN σ v 0
  | k + 1 => fun j => max (mxN σ v k j) (uN σ v (k + 1) j)
theorem tnm_i (σ : sT) (v : Int32) (I V : Nat → Nat) : ∀ t j, tnm σ v I V t j = max (I j) (tnm σ v (fun _ => 0) V t j) := by
  intro t
  induction t with
  | zero => intro j; simp [tnm]
  | succ t ih =>
    intro j
    show (if σ 15 t = j then max (tnm σ v I V t j) (min (V (σ 16 t)) (lvN σ v (σ 19 t))) else tnm σ v I V t j) = max (I j) (if σ 15 t = j then max (tnm σ v (fun _ => 0) V t j) (min (V (σ 16 t)) (lvN σ v (σ 19 t))) else tnm σ v (fun _ => 0) V t j)
    rw [ih j]
    by_cases h : σ 15 t = j
    · rw [if_pos h, if_pos h, Nat.max_assoc]
    · rw [if_neg h, if_neg h]
theorem tnm_m (σ : sT) (v : Int32) (V W : Nat → Nat) : ∀ t j, tnm σ v (fun _ => 0) (fun x => max (V x) (W x)) t j = max (tnm σ v (fun _ => 0) V t j) (tnm σ v (fun _ => 0) W t j) := by
  intro t
  induction t with
  | zero => intro j; rfl
  | succ t ih =>
    intro j
    show (if σ 15 t = j then max (tnm σ v (fun _ => 0) (fun x => max (V x) (W x)) t j) (min (max (V (σ 16 t)) (W (σ 16 t))) (lvN σ v (σ 19 t))) else tnm σ v (fun _ => 0) (fun x => max (V x) (W x)) t j) = max (if σ 15 t = j then max (tnm σ v (fun _ => 0) V t j) (min (V (σ 16 t)) (lvN σ v (σ 19 t))) else tnm σ v (fun _ => 0) V t j) (if σ 15 t = j then max (tnm σ v (fun _ => 0) W t j) (min (W (σ 16 t)) (lvN σ v (σ 19 t))) else tnm σ v (fun _ => 0) W t j)
    rw [ih j]
    by_cases h : σ 15 t = j
    · rw [if_pos h, if_pos h, if_pos h]
      omega
    · rw [if_neg h, if_neg h, if_neg h]
theorem mxN_0 (σ : sT) (v : Int32) : ∀ k j, max (uN σ v 0 j) (tnm σ v (fun _ => 0) (mxN σ v k) (σ 0 19) j) = mxN σ v (k + 1) j := by
  intro k
  induction k with
  | zero => intro j; rfl
  | succ k ih =>
    intro j
    have h1 : tnm σ v (fun _ => 0) (mxN σ v (k + 1)) (σ 0 19) j = max (tnm σ v (fun _ => 0) (mxN σ v k) (σ 0 19) j) (uN σ v (k + 2) j) := tnm_m σ v (mxN σ v k) (uN σ v (k + 1)) (σ 0 19) j
    show _ = max (mxN σ v (k + 1) j) (uN σ v (k + 2) j)
    rw [h1, ← ih j, Nat.max_assoc]
theorem mxN_ge (σ : sT) (v : Int32) : ∀ k j, uN σ v 0 j ≤ mxN σ v k j := by
  intro k
  induction k with
  | zero => intro j; exact Nat.le_refl _
  | succ k ih => intro j; exact Nat.le_trans (ih j) (Nat.le_max_left _ _)
theorem eN_mx (σ : sT) (v : Int32) : ∀ k, eN σ v k = mxN σ v k := by
  intro k
  induction k with
  | zero => rfl
  | succ k ih =>
    funext j
    show tnm σ v (eN σ v k) (eN σ v k) (σ 0 19) j = _
    rw [ih, tnm_i]
    have h1 := mxN_0 σ v k j
    have h2 := mxN_ge σ v k j
    have h3 : mxN σ v (k + 1) j = max (mxN σ v k j) (uN σ v (k + 1) j) := rfl
    omega
theorem rdm_le {σ : sT} (hV : Val σ) (v : Int32) : ∀ r, r ≤ σ 0 16 → ∀ j, rdm σ v r j ≤ 1000 := by
  intro r
  induction r with
  | zero => intro _ j; exact Nat.zero_le _
  | succ r ih =>
    intro hr j
    show (if σ 13 r = j then max (rdm σ v r j) (lvN σ v (σ 14 r)) else rdm σ v r j) ≤ 1000
    have h1 := ih (by omega) j
    have h2 := lvN_le hV v (hV.2.2.2.2.2.2.1 r (by omega)).2
    split <;> omega
theorem tnm_le {σ : sT} (v : Int32) {I V : Nat → Nat} (hI : ∀ j, I j ≤ 1000) (hW : ∀ j, V j ≤ 1000) : ∀ t j, tnm σ v I V t j ≤ 1000 := by
  intro t
  induction t with
  | zero => intro j; exact hI j
  | succ t ih =>
    intro j
    show (if σ 15 t = j then max (tnm σ v I V t j) (min (V (σ 16 t)) (lvN σ v (σ 19 t))) else tnm σ v I V t j) ≤ 1000
    have h1 := ih j
    have h2 := hW (σ 16 t)
    split <;> omega
theorem uN_le {σ : sT} (hV : Val σ) (v : Int32) : ∀ k j, uN σ v k j ≤ 1000 := by
  intro k
  induction k with
  | zero => intro j; exact rdm_le hV v _ (Nat.le_refl _) j
  | succ k ih => intro j; exact tnm_le v (fun _ => Nat.zero_le _) ih _ j
theorem eN_le {σ : sT} (hV : Val σ) (v : Int32) : ∀ k j, eN σ v k j ≤ 1000 := by
  intro k
  induction k with
  | zero => intro j; exact rdm_le hV v _ (Nat.le_refl _) j
  | succ k ih => intro j; exact tnm_le v ih ih _ j
/-- a row filled -/
theorem c_fillL {K : fh_K} {ab N : Nat} {v : Int32} (h : K ab = (13, N)) (hN : N ≤ 4000) (M0 : fh_M) : ∀ n i M, N - i < n → i ≤ N → M.2 = M0.2 → (∀ b k, b ≠ ab → M.1 b k = M0.1 b k) → (∀ k, k < i → M.1 ab k = v) → ∃ M', f_J7_fill_53178_L5 K n (some ab) v (nI i) (nI N) M = some M' ∧ M'.2 = M0.2 ∧ (∀ b k, b ≠ ab → M'.1 b k = M0.1 b k) ∧ ∀ k, k < N → M'.1 ab k = v := by
  intro n
  induction n with
  | zero => intro i M q; exact absurd q (Nat.not_lt_zero _)
  | succ n ih =>
    intro i M hn hi e2 e1 e
    unfold f_J7_fill_53178_L5
    by_cases hlt : i < N
    · rw [if_neg (nI_ge hlt (by omega)), fi_ok h rfl hlt (by omega), fb_eq, cl_n (by omega), nI_1]
      refine ih (i + 1) _ (by omega) (by omega) e2 (fun b k z => by rw [fh_si_1, if_neg (fun q => z q.1)]; exact e1 b k z) (fun k hk => ?_)
      by_cases z : k = i
      · rw [fh_si_1, if_pos ⟨rfl, z⟩]
      · rw [fh_si_1, if_neg (fun q => z q.2)]; exact e k (by omega)
    · rw [if_pos (nI_le (by omega) (by omega))]
      exact ⟨M, rfl, e2, e1, fun k hk => e k (by omega)⟩
theorem c_fill {K : fh_K} {M : fh_M} {ab N : Nat} (v : Int32) (h : K ab = (13, N)) (hN : N ≤ 4000) : ∃ M', f_J7_fill_53178 K M (some ab) v = some M' ∧ M'.2 = M.2 ∧ (∀ b k, b ≠ ab → M'.1 b k = M.1 b k) ∧ ∀ k, k < N → M'.1 ab k = v := by
  unfold f_J7_fill_53178
  rw [fa_ok h, h]
  exact c_fillL h hN M 4096 0 M (by omega) (by omega) rfl (fun _ _ _ => rfl) (fun k hk => absurd hk (Nat.not_lt_zero _))
theorem c_endOf {K : fh_K} {M : fh_M} {x m : Nat} {σ : sT} (v : Int32) (hS : cS K M x) (hP : cP K M x σ) (hm : m < 8) : f_X1_endOf K M (x + 7) (nI m) v = some (kI (lvN σ v m)) := by
  unfold f_X1_endOf lvN
  rw [fo_ok (ck7 hS), c_machIn hm]
  simp only [Option.bind_some]
  rw [if_neg (show ¬ (1 : Int32) = 0 by decide), cr7_0 hS, cr7_1 hS, fi_ok (ck8 hS) rfl hm (by omega), fi_ok (ck9 hS) rfl hm (by omega), cl_n (by omega), (hP.2.2.1 m hm).1, (hP.2.2.1 m hm).2, kI_s]
  by_cases h : v = 0
  · rw [if_pos h, if_pos h]
  · rw [if_neg h, if_neg h]
/-- the spans' rows alone are changed -/
def sE (x : Nat) (M M' : fh_M) : Prop := M'.2 = M.2 ∧ ∀ a k, a ≠ x + 20 → a ≠ x + 21 → M'.1 a k = M.1 a k
theorem sE_tr {x : Nat} {M M1 M2 : fh_M} (h : sE x M M1) (h2 : sE x M1 M2) : sE x M M2 := ⟨h2.1.trans h.1, fun a k q1 q2 => (h2.2 a k q1 q2).trans (h.2 a k q1 q2)⟩
theorem sE_G {x : Nat} {M M1 : fh_M} (h : sE x M M1) : cG x M M1 := ⟨fun a k q => h.2 a k (fun z => q (by unfold cZ; omega)) (fun z => q (by unfold cZ; omega)), fun a k _ => by rw [h.1], fun a k _ => by rw [h.1]⟩
theorem sE_si {x a k : Nat} {M : fh_M} {v : Int32} (h : a = x + 20 ∨ a = x + 21) : sE x M (fh_si M a k v) := ⟨rfl, fun b j z1 z2 => by rw [fh_si_1, if_neg (by omega)]⟩
theorem sE_ri {x a : Nat} {M : fh_M} {g : Nat → Int32} (h : a = x + 20 ∨ a = x + 21) : sE x M (fh_ri M a g) := ⟨rfl, fun b j z1 z2 => by rw [fh_ri_1, if_neg (by omega)]⟩
def rowI (M : fh_M) (a : Nat) (V : Nat → Nat) : Prop := ∀ j, j < 12 → M.1 a j = kI (V j)
theorem c_stepBL {K : fh_K} {x : Nat} {σ : sT} {v : Int32} {V : Nat → Nat} (M0 : fh_M) (s0 : cS K M0 x) (p0 : cP K M0 x σ) (hV : Val σ) (hW : ∀ j, V j ≤ 1000) :
    ∀ n t M, σ 0 19 - t < n → t ≤ σ 0 19 → sE x M0 M → rowI M (x + 20) V → rowI M (x + 21) (tnm σ v V V t) → ∃ M', f_X6_goOneStepBack_L18 K n (x + 19) (some (x + 13)) (some (x + 7)) v (nI t) M = some M' ∧ sE x M0 M' ∧ rowI M' (x + 20) (tnm σ v V V (σ 0 19)) := by
  have hv := hV.1
  intro n
  induction n with
  | zero => intro t M q; exact absurd q (Nat.not_lt_zero _)
  | succ n ih =>
    intro t M hn ht hE h20 h21
    have s1 := cG_S (sE_G hE) s0
    have p1 := cG_P (sE_G hE) p0
    unfold f_X6_goOneStepBack_L18
    rw [fo_ok (ck13 s1), p1.2.2.2.2.1]
    by_cases hlt : t < σ 0 19
    · obtain ⟨ta, b1, b2, b3, b4, b5, b6, b7, b8⟩ := p1.2.2.2.2.2.2.2.2.1 t hlt
      obtain ⟨t1, t2, t3, t4, t5, t6⟩ := hV.2.2.2.2.2.2.2 t hlt
      rw [if_neg (nI_ge hlt (by omega)), c_at s1 p1 hV hlt, b1]
      simp only [Option.bind_some]
      rw [if_neg (fun q => by cases q), fo_ok b3, fo_ok (ck7 s1), b8, c_endOf v s1 p1 t6]
      simp only [Option.bind_some]
      have l1 := lvN_le hV v t6
      have l2 := hW (σ 16 t)
      have l3 := tnm_le (σ := σ) v hW hW t (σ 15 t)
      rw [fo_ok (ck19 s1), cr19_0 s1, cr19_1 s1, b4, b5, fi_ok (ck20 s1) rfl (by omega) (by omega), fi_ok (ck21 s1) rfl (by omega) (by omega), fb_eq, cl_n (by omega), cl_n (by omega), h20 _ (by omega), h21 _ (by omega), kI_min (by omega) (by omega), kI_max (by omega) (by omega)]
      unfold f_X6_goOneStepBack_J90
      rw [nI_1]
      refine ih (t + 1) _ (by omega) (by omega) (sE_tr hE (sE_si (Or.inr rfl))) (fun j hj => by rw [fh_si_1, if_neg (by omega)]; exact h20 j hj) (fun j hj => ?_)
      rw [fh_si_1]
      show _ = kI (if σ 15 t = j then max (tnm σ v V V t j) (min (V (σ 16 t)) (lvN σ v (σ 19 t))) else tnm σ v V V t j)
      by_cases z : σ 15 t = j
      · rw [if_pos ⟨rfl, z.symm⟩, if_pos z, z]
      · rw [if_neg (fun q => z q.2.symm), if_neg z]; exact h21 j hj
    · have : t = σ 0 19 := by omega
      subst this
      rw [if_pos (nI_le (by omega) (by omega))]
      unfold f_X6_goOneStepBack_J96
      rw [fo_ok (ck19 s1), cr19_0 s1, cr19_1 s1]
      unfold fq
      simp only [ck20 s1, ck21 s1]
      rw [if_pos ⟨trivial, trivial, by decide, by decide, by decide, by decide, by decide⟩, fb_eq]
      refine ⟨_, rfl, sE_tr hE (sE_ri (Or.inl rfl)), fun j hj => ?_⟩
      rw [fh_ri_1, if_pos rfl]
      show va_cpy (M.1 (x + 21)) (M.1 (x + 20)) 0 0 12 j = _
      rw [pk_cpy_in (Nat.zero_le _) (by omega), Nat.zero_add, Nat.sub_zero]
      exact h21 j hj
theorem c_stepB {K : fh_K} {x : Nat} {σ : sT} {v : Int32} {V : Nat → Nat} {M : fh_M} (s1 : cS K M x) (p1 : cP K M x σ) (hV : Val σ) (hW : ∀ j, V j ≤ 1000) (h20 : rowI M (x + 20) V) :
    ∃ M', f_X6_goOneStepBack K M (x + 19) (some (x + 13)) (some (x + 7)) v = some M' ∧ sE x M M' ∧ rowI M' (x + 20) (tnm σ v V V (σ 0 19)) := by
  have hv := hV.1
  unfold f_X6_goOneStepBack
  rw [fo_ok (ck19 s1), cr19_0 s1, cr19_1 s1]
  unfold fq
  simp only [ck20 s1, ck21 s1]
  rw [if_pos ⟨trivial, trivial, by decide, by decide, by decide, by decide, by decide⟩, fb_eq]
  have E1 : sE x M (fh_ri M (x + 21) (va_cpy (M.1 (x + 20)) (M.1 (x + 21)) 0 0 12)) := sE_ri (Or.inr rfl)
  refine c_stepBL M s1 p1 hV hW 4096 0 _ (by omega) (by omega) E1 (fun j hj => ?_) (fun j hj => ?_)
  · rw [fh_ri_1, if_neg (by omega)]; exact h20 j hj
  · rw [fh_ri_1, if_pos rfl]
    show va_cpy (M.1 (x + 20)) (M.1 (x + 21)) 0 0 12 j = _
    rw [pk_cpy_in (Nat.zero_le _) (by omega), Nat.zero_add, Nat.sub_zero]
    exact h20 j hj
theorem c_measL {K : fh_K} {x : Nat} {σ : sT} {v : Int32} (M0 : fh_M) (s0 : cS K M0 x) (p0 : cP K M0 x σ) (hV : Val σ) :
    ∀ n k M, 4 - k < n → k ≤ 4 → sE x M0 M → rowI M (x + 20) (eN σ v k) → ∃ M', f_X6_measure_L72 K n (x + 19) (some (x + 13)) (some (x + 7)) v (nI (k + 1)) M = some M' ∧ sE x M0 M' ∧ rowI M' (x + 20) (eN σ v 4) := by
  intro n
  induction n with
  | zero => intro k M q; exact absurd q (Nat.not_lt_zero _)
  | succ n ih =>
    intro k M hn hk hE h20
    have s1 := cG_S (sE_G hE) s0
    have p1 := cG_P (sE_G hE) p0
    unfold f_X6_measure_L72
    rw [n_4]
    by_cases hlt : k < 4
    · rw [if_neg (nI_nlt (by omega) (by omega)), fo_ok (ck19 s1)]
      obtain ⟨M1, q1, q2, q3⟩ := c_stepB (v := v) s1 p1 hV (eN_le hV v k) h20
      rw [q1]
      simp only [Option.bind_some]
      rw [nI_1]
      exact ih (k + 1) M1 (by omega) (by omega) (sE_tr hE q2) q3
    · rw [if_pos (nI_lt (by omega) (by omega))]
      have : k = 4 := by omega
      subst this
      exact ⟨M, rfl, hE, h20⟩
theorem c_measR {K : fh_K} {x : Nat} {σ : sT} {v : Int32} (M0 : fh_M) (s0 : cS K M0 x) (p0 : cP K M0 x σ) (hV : Val σ) :
    ∀ n r M, σ 0 16 - r < n → r ≤ σ 0 16 → sE x M0 M → rowI M (x + 20) (rdm σ v r) → ∃ M', f_X6_measure_L11 K n (x + 19) (some (x + 10)) (some (x + 13)) (some (x + 7)) v (nI r) M = some M' ∧ sE x M0 M' ∧ rowI M' (x + 20) (eN σ v 4) := by
  have hv := hV.1
  intro n
  induction n with
  | zero => intro r M q; exact absurd q (Nat.not_lt_zero _)
  | succ n ih =>
    intro r M hn hr hE h20
    have s1 := cG_S (sE_G hE) s0
    have p1 := cG_P (sE_G hE) p0
    unfold f_X6_measure_L11
    rw [fo_ok (ck10 s1), p1.2.2.2.1.1]
    by_cases hlt : r < σ 0 16
    · obtain ⟨t1, t2⟩ := hV.2.2.2.2.2.2.1 r hlt
      obtain ⟨g1, g2⟩ := p1.2.2.2.1.2 r hlt
      rw [if_neg (nI_ge hlt (by omega)), cr10_0 s1, cr10_1 s1, fi_ok (ck11 s1) rfl (by omega) (by omega), fi_ok (ck12 s1) rfl (by omega) (by omega), fo_ok (ck7 s1), cl_n (by omega), g1, g2, c_endOf v s1 p1 t2]
      simp only [Option.bind_some]
      have l1 := lvN_le hV v t2
      have l3 := rdm_le hV v r hr (σ 13 r)
      rw [fo_ok (ck19 s1), cr19_0 s1, fi_ok (ck20 s1) rfl (by omega) (by omega), fb_eq, cl_n (by omega), h20 _ (by omega), kI_max (by omega) (by omega), nI_1]
      refine ih (r + 1) _ (by omega) (by omega) (sE_tr hE (sE_si (Or.inl rfl))) (fun j hj => ?_)
      rw [fh_si_1]
      show _ = kI (if σ 13 r = j then max (rdm σ v r j) (lvN σ v (σ 14 r)) else rdm σ v r j)
      by_cases z : σ 13 r = j
      · rw [if_pos ⟨rfl, z.symm⟩, if_pos z, z]
      · rw [if_neg (fun q => z q.2.symm), if_neg z]; exact h20 j hj
    · rw [if_pos (nI_le (by omega) (by omega))]
      have : r = σ 0 16 := by omega
      subst this
      exact c_measL M0 s0 p0 hV 4096 0 M (by omega) (by omega) hE h20
theorem c_measure {K : fh_K} {M : fh_M} {x : Nat} {σ : sT} (v : Int32) (s1 : cS K M x) (p1 : cP K M x σ) (hV : Val σ) : ∃ M', f_X6_measure K M (x + 19) (some (x + 10)) (some (x + 13)) (some (x + 7)) v = some M' ∧ sE x M M' ∧ rowI M' (x + 20) (eN σ v 4) := by
  have hv := hV.1
  unfold f_X6_measure
  rw [fo_ok (ck19 s1), cr19_0 s1]
  obtain ⟨M1, q1, q2, q3, q4⟩ := c_fill (M := M) (-1) (ck20 s1) (by omega)
  rw [q1]
  simp only [Option.bind_some]
  have e0 : rowI M1 (x + 20) (rdm σ v 0) := fun j hj => by rw [q4 j hj]; rfl
  have e1 : sE x M M1 := ⟨q2, fun a k z1 _ => q3 a k z1⟩
  rw [n_0]
  exact c_measR M s1 p1 hV 4096 0 M1 (by omega) (by omega) e1 e0
