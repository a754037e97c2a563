theorem PK_t {σ : sT} {N m0 k t m v r : Nat} (hV : Val σ) (hk : k ≤ 3) (ht : t < σ 0 19) (h : PK σ N m0 k t m v) (hr : MK σ N m0 k (σ 15 t) r) (hto : σ 16 t = m) (hok : okT σ N t) (p0 : List Nat) (a1 : isP σ N m0 (σ 15 t) p0) (a2 : p0.length = k) (a3 : r = key σ p0) : PK σ N m0 k (t + 1) m (min v (key σ (p0 ++ [t]))) := by
  have hv := hV.1
  refine ⟨fun p s hp hl hs ho hm => ?_, ?_⟩
  · by_cases e : s = t
    · subst e
      have h1 := hr.1 p hp hl
      rw [a3] at h1
      have h2 := key_mono (s := s) hV (by omega) a1 hp (by omega) (by omega) h1
      omega
    · have := h.1 p s hp hl (by omega) ho hm
      omega
  · by_cases e : v ≤ key σ (p0 ++ [t])
    · rw [Nat.min_eq_left e]
      rcases h.2 with h2 | ⟨p, s, b1, b2, b3, b4, b5, b6⟩
      · exact Or.inl h2
      · exact Or.inr ⟨p, s, b1, b2, by omega, b4, b5, b6⟩
    · rw [Nat.min_eq_right (by omega)]
      exact Or.inr ⟨p0, t, a1, a2, by omega, hok, hto, rfl⟩
theorem c_carr {K : fh_K} {M : fh_M} {ta N c : Nat} (h : K ta = (9, 0)) (hc : M.1 ta 2 = nI c) (hN : N < 4096) : f_X8_carriesAll K M ta (nI N) = some (if N &&& (4095 ^^^ c) = 0 then 1 else 0) := by
  have hle : N &&& (4095 ^^^ c) ≤ N := Nat.and_le_left
  unfold f_X8_carriesAll
  rw [fo_ok h, hc, andn hN]
  by_cases e : N &&& (4095 ^^^ c) = 0
  · rw [e, if_pos nI_0, if_pos rfl]
  · rw [if_neg (nI_ne0 (by omega) (by omega)), if_neg e]
theorem c_goL131 {K : fh_K} {x : Nat} {R B W : Nat → Nat} (M0 : fh_M) (s0 : cS K M0 x) (hR0 : ∀ m, m < 12 → B m ≤ INF ∧ W m ≤ INF) :
    ∀ n m M, 12 - m < n → m ≤ 12 → lE x M0 M → rowL M (x + 18) W → rowL M (x + 17) (fun j => if j < m then W j else R j) → rowL M (x + 16) (fun j => if j < m then min (B j) (W j) else B j) → ∃ M', f_X5_goOneStep_L131 K n (x + 15) (nI m) M = some M' ∧ lE x M0 M' ∧ rowL M' (x + 17) W ∧ rowL M' (x + 16) (fun j => min (B j) (W j)) := by
  intro n
  induction n with
  | zero => intro m M q; exact absurd q (Nat.not_lt_zero _)
  | succ n ih =>
    intro m M hn hm hE h18 h17 h16
    replace h17 : ∀ j, j < 12 → M.2.1 (x + 17) j = lN (if j < m then W j else R j) := h17
    replace h16 : ∀ j, j < 12 → M.2.1 (x + 16) j = lN (if j < m then min (B j) (W j) else B j) := h16
    have s1 := cG_S (lE_G hE) s0
    unfold f_X5_goOneStep_L131
    rw [n_12]
    by_cases hlt : m < 12
    · obtain ⟨b1, b2⟩ := hR0 m hlt
      have e16 : (fh_sl M (x + 17) m (lN (W m))).2.1 (x + 16) m = lN (B m) := by
        rw [fh_sl_21, if_neg (by omega), h16 m hlt, if_neg (by omega)]
      have e18 : (fh_sl M (x + 17) m (lN (W m))).2.1 (x + 18) m = lN (W m) := by
        rw [fh_sl_21, if_neg (by omega)]; exact h18 m hlt
      rw [if_neg (nI_ge hlt (by omega)), fo_ok (ck15 s1), cr15_2 s1, cr15_1 s1, fi_ok (ck18 s1) rfl hlt (by omega), fi_ok (ck17 s1) rfl hlt (by omega), fb_eq, cl_n (by omega), h18 m hlt, fh_sl_22, cr15_0 s1, cr15_2 s1, fi_ok (ck16 s1) rfl hlt (by omega), fi_ok (ck18 s1) rfl hlt (by omega), fb_eq, e16, e18, lN_minI b1 b2, nI_1]
      refine ih (m + 1) _ (by omega) (by omega) (lE_tr hE (lE_tr (lE_sl (Or.inr (Or.inl rfl))) (lE_sl (Or.inl rfl)))) (fun j hj => ?_) (fun j hj => ?_) (fun j hj => ?_)
      · rw [fh_sl_21, if_neg (by omega), fh_sl_21, if_neg (by omega)]; exact h18 j hj
      · rw [fh_sl_21, if_neg (by omega), fh_sl_21]
        show _ = lN (if j < m + 1 then W j else R j)
        by_cases z : j = m
        · rw [if_pos ⟨rfl, z⟩, if_pos (by omega), z]
        · rw [if_neg (fun q => z q.2), h17 j hj]
          by_cases z2 : j < m
          · rw [if_pos z2, if_pos (by omega)]
          · rw [if_neg z2, if_neg (by omega)]
      · rw [fh_sl_21]
        show _ = lN (if j < m + 1 then min (B j) (W j) else B j)
        by_cases z : j = m
        · rw [if_pos ⟨rfl, z⟩, if_pos (by omega), z]
        · rw [if_neg (fun q => z q.2), fh_sl_21, if_neg (by omega), h16 j hj]
          by_cases z2 : j < m
          · rw [if_pos z2, if_pos (by omega)]
          · rw [if_neg z2, if_neg (by omega)]
    · rw [if_pos (nI_le (by omega) (by omega))]
      refine ⟨M, rfl, hE, fun j hj => ?_, fun j hj => ?_⟩
      · rw [h17 j hj, if_pos (by omega)]
      · rw [h16 j hj, if_pos (by omega)]
theorem c_goL13 {K : fh_K} {x N m0 k : Nat} {σ : sT} {R B : Nat → Nat} (M0 : fh_M) (s0 : cS K M0 x) (p0 : cP K M0 x σ) (hV : Val σ) (hN : N < 4096) (hk : k ≤ 3) (hR : ∀ m, m < 12 → MK σ N m0 k m (R m)) (hB : ∀ m, m < 12 → BK σ N m0 k m (B m)) :
    ∀ n t M (W : Nat → Nat), σ 0 19 - t < n → t ≤ σ 0 19 → lE x M0 M → rowL M (x + 16) B → rowL M (x + 17) R → rowL M (x + 18) W → (∀ m, m < 12 → PK σ N m0 k t m (W m)) → ∃ M' W', f_X5_goOneStep_L13 K n (x + 15) (nI N) (some (x + 13)) (some (x + 7)) (nI (σ 0 2)) (nI t) M = some M' ∧ lE x M0 M' ∧ rowL M' (x + 17) W' ∧ (∀ m, m < 12 → MK σ N m0 (k + 1) m (W' m)) ∧ rowL M' (x + 16) (fun j => min (B j) (W' j)) := by
  have hv := hV.1
  intro n
  induction n with
  | zero => intro t M W q; exact absurd q (Nat.not_lt_zero _)
  | succ n ih =>
    intro t M W hn ht hE h16 h17 h18 hP
    have s1 := cG_S (lE_G hE) s0
    have p1 := cG_P (lE_G hE) p0
    unfold f_X5_goOneStep_L13
    rw [fo_ok (ck13 s1), p1.2.2.2.2.1]
    by_cases hlt : t < σ 0 19
    · obtain ⟨ta, b1, b2, b3, b4, b5, b6, b7, b8⟩ := p1.2.2.2.2.2.2.2.2.1 t hlt
      obtain ⟨t1, t2, t3, t4, t5, t6⟩ := hV.2.2.2.2.2.2.2 t hlt
      have hmf := hR (σ 15 t) (by omega)
      have hrI := mk_v hV (by omega) hmf
      have skip : (∀ m, m < 12 → PK σ N m0 k (t + 1) m (W m)) → ∃ M' W', f_X5_goOneStep_J122 K (f_X5_goOneStep_L13 K n) (x + 15) (nI N) (some (x + 13)) (some (x + 7)) (nI (σ 0 2)) (nI t) M = some M' ∧ lE x M0 M' ∧ rowL M' (x + 17) W' ∧ (∀ m, m < 12 → MK σ N m0 (k + 1) m (W' m)) ∧ rowL M' (x + 16) (fun j => min (B j) (W' j)) := by
        intro h
        unfold f_X5_goOneStep_J122
        rw [nI_1]
        exact ih (t + 1) M W (by omega) (by omega) hE h16 h17 h18 h
      rw [if_neg (nI_ge hlt (by omega)), c_at s1 p1 hV hlt, b1, Option.bind_some, if_neg (fun q => by cases q), fo_ok (ck15 s1), fo_ok b3, cr15_1 s1, b4, fi_ok (ck17 s1) rfl (by omega) (by omega), cl_n (by omega), h17 _ (by omega), lN_inf]
      by_cases hinf : R (σ 15 t) = INF
      · rw [if_pos (by rw [lg_cmp_eq, hinf])]
        exact skip (fun m hm => PK_n hV hk (hP m hm) hmf (fun q => q.2.2 hinf))
      · rw [if_neg (fun q => hinf (by
            rw [lg_cmp_eq, pk_lEQ (by unfold INF at hrI; omega) (by unfold INF; omega)] at q
            exact q)), c_carr b3 b6 hN, Option.bind_some]
        by_cases hc : N &&& (4095 ^^^ carr σ t) = 0
        · rw [if_neg (by rw [if_pos hc]; decide), fo_ok (ck7 s1), b8, c_live s1 p1 t6, Option.bind_some]
          by_cases hl : σ 11 (σ 19 t) < σ 0 2
          · rw [if_pos (by rw [if_pos (nI_lt hl (by omega))])]
            exact skip (fun m hm => PK_n hV hk (hP m hm) hmf (fun q => q.2.1.1 hl))
          · have hle := (hV.2.2.2.2.2.1 _ t6)
            rw [if_neg (by rw [if_neg (nI_nlt (by omega) (by omega))]; decide)]
            have hok : okT σ N t := ⟨hl, hc⟩
            obtain ⟨q0, a1, a2, a3⟩ := hmf.2.resolve_left hinf
            obtain ⟨c1, c2⟩ := isP_b hV q0 _ _ a1
            have c3 := rcs_15 c1 (by omega)
            have c4 := pk_v hV hk (by omega) (hP (σ 16 t) (by omega))
            have c5 : key σ (q0 ++ [t]) < 2 ^ 40 := (key_lt hV ((isP_snoc q0 m0 (σ 16 t) t).mpr ⟨a1, hlt, hok, rfl⟩) (by simp [a2]; omega)).1
            have ext : f_X5_extended K M (lN (R (σ 15 t))) (nI t) (M.1 ta 3) = some (lN (key σ (q0 ++ [t]))) := by
              rw [a3, b7, key_s]
              exact c_ext K M (by omega) (by omega) c3 (by omega) t5
            rw [ext, Option.bind_some, cr15_2 s1, b5, fi_ok (ck18 s1) rfl (by omega) (by omega), fb_eq, cl_n (by omega), h18 _ (by omega), lN_minI c4 (by unfold INF; omega)]
            unfold f_X5_goOneStep_J122
            rw [nI_1]
            refine ih (t + 1) _ (fun j => if j = σ 16 t then min (W j) (key σ (q0 ++ [t])) else W j) (by omega) (by omega) (lE_tr hE (lE_sl (Or.inr (Or.inr rfl)))) (fun j hj => ?_) (fun j hj => ?_) (fun j hj => ?_) (fun m hm => ?_)
            · rw [fh_sl_21, if_neg (by omega)]; exact h16 j hj
            · rw [fh_sl_21, if_neg (by omega)]; exact h17 j hj
            · rw [fh_sl_21]
              show _ = lN (if j = σ 16 t then min (W j) (key σ (q0 ++ [t])) else W j)
              by_cases z : j = σ 16 t
              · rw [if_pos ⟨rfl, z⟩, if_pos z, z]
              · rw [if_neg (fun q => z q.2), if_neg z]; exact h18 j hj
            · show PK σ N m0 k (t + 1) m (if m = σ 16 t then min (W m) (key σ (q0 ++ [t])) else W m)
              by_cases z : m = σ 16 t
              · rw [if_pos z]
                exact PK_t hV hk hlt (hP m hm) hmf z.symm hok q0 a1 a2 a3
              · rw [if_neg z]
                exact PK_n hV hk (hP m hm) hmf (fun q => z q.1.symm)
        · rw [if_pos (by rw [if_neg hc])]
          exact skip (fun m hm => PK_n hV hk (hP m hm) hmf (fun q => hc q.2.1.2))
    · rw [if_pos (nI_le (by omega) (by omega))]
      have : t = σ 0 19 := by omega
      subst this
      unfold f_X5_goOneStep_J128
      obtain ⟨M', q1, q2, q3, q4⟩ := c_goL131 (R := R) (B := B) (W := W) M s1 (fun m hm => ⟨bk_v hV (by omega) (hB m hm), pk_v hV hk (Nat.le_refl _) (hP m hm)⟩) 4096 0 M (by omega) (by omega) (lE_rf x M) h18 (fun j hj => by rw [h17 j hj]; show _ = lN (if j < 0 then W j else R j); rw [if_neg (Nat.not_lt_zero _)]) (fun j hj => by rw [h16 j hj]; show _ = lN (if j < 0 then min (B j) (W j) else B j); rw [if_neg (Nat.not_lt_zero _)])
      exact ⟨M', W, q1, lE_tr hE q2, q3, fun m hm => PK_M (hP m hm), q4⟩
theorem c_go {K : fh_K} {x N m0 k : Nat} {σ : sT} {R B : Nat → Nat} {M : fh_M} (s1 : cS K M x) (p1 : cP K M x σ) (hV : Val σ) (hN : N < 4096) (hk : k ≤ 3) (h17 : rowL M (x + 17) R) (hR : ∀ m, m < 12 → MK σ N m0 k m (R m)) (h16 : rowL M (x + 16) B) (hB : ∀ m, m < 12 → BK σ N m0 k m (B m)) :
    ∃ M' R' B', f_X5_goOneStep K M (x + 15) (nI N) (some (x + 13)) (some (x + 7)) (nI (σ 0 2)) = some M' ∧ lE x M M' ∧ rowL M' (x + 17) R' ∧ (∀ m, m < 12 → MK σ N m0 (k + 1) m (R' m)) ∧ rowL M' (x + 16) B' ∧ ∀ m, m < 12 → BK σ N m0 (k + 1) m (B' m) := by
  have hv := hV.1
  obtain ⟨M1, q1, q2, q3, q4, q5⟩ := c_fillJ (M := M) 9223372036854775807 (ck18 s1) (by omega)
  have E1 : lE x M M1 := ⟨q2, q3, fun a k z1 z2 z3 => q4 a k z3⟩
  obtain ⟨M2, W, w1, w2, w3, w4, w5⟩ := c_goL13 (K := K) (x := x) (N := N) (m0 := m0) (k := k) (σ := σ) (R := R) (B := B) M s1 p1 hV hN hk hR hB 4096 0 M1 (fun _ => INF) (by omega) (by omega) E1 (fun j hj => by rw [q4 _ _ (by omega)]; exact h16 j hj) (fun j hj => by rw [q4 _ _ (by omega)]; exact h17 j hj) (fun j hj => q5 j hj) (fun m hm => PK_0)
  refine ⟨M2, W, _, ?_, w2, w3, w4, w5, fun m hm => BK_s (hB m hm) (w4 m hm)⟩
  unfold f_X5_goOneStep
  rw [fo_ok (ck15 s1), cr15_2 s1, q1, Option.bind_some, n_0]
  exact w1
theorem c_seL {K : fh_K} {x N m0 : Nat} {σ : sT} (M0 : fh_M) (s0 : cS K M0 x) (p0 : cP K M0 x σ) (hV : Val σ) (hN : N < 4096) :
    ∀ n k M (R B : Nat → Nat), 4 - k < n → k ≤ 4 → lE x M0 M → rowL M (x + 17) R → (∀ m, m < 12 → MK σ N m0 k m (R m)) → rowL M (x + 16) B → (∀ m, m < 12 → BK σ N m0 k m (B m)) → ∃ M' B', f_X5_search_L69 K n (x + 15) (some (x + 13)) (some (x + 7)) (nI (σ 0 2)) (nI N) (nI (k + 1)) M = some M' ∧ lE x M0 M' ∧ rowL M' (x + 16) B' ∧ ∀ m, m < 12 → BK σ N m0 4 m (B' m) := by
  intro n
  induction n with
  | zero => intro k M R B q; exact absurd q (Nat.not_lt_zero _)
  | succ n ih =>
    intro k M R B hn hk hE h17 hR h16 hB
    have s1 := cG_S (lE_G hE) s0
    have p1 := cG_P (lE_G hE) p0
    unfold f_X5_search_L69
    rw [n_4]
    by_cases hlt : k < 4
    · rw [if_neg (nI_nlt (by omega) (by omega)), fo_ok (ck15 s1)]
      obtain ⟨M1, R', B', q1, q2, q3, q4, q5, q6⟩ := c_go s1 p1 hV hN (by omega) h17 hR h16 hB
      rw [q1, Option.bind_some, nI_1]
      exact ih (k + 1) M1 R' B' (by omega) (by omega) (lE_tr hE q2) q3 q4 q5 q6
    · rw [if_pos (nI_lt (by omega) (by omega))]
      have : k = 4 := by omega
      subst this
      exact ⟨M, B, rfl, hE, h16, hB⟩
/-- what must be kept of a file -/
noncomputable def nd (σ : sT) (f : Nat) : Nat := σ 9 f &&& hsF 0 (sR σ f)
theorem nd_lt {σ : sT} {f : Nat} (hV : Val σ) (hf : f < σ 0 9) : nd σ f < 4096 := by
  have := (hV.2.2.2.1 f hf).2.2.1
  exact Nat.lt_of_le_of_lt Nat.and_le_left (by omega)
def bstR (σ : sT) (N q : Nat) (B : Nat → Nat) : Prop := (q = 0 ∧ ∀ m, m < 12 → B m = INF) ∨ ∃ m0, q = m0 + 1 ∧ ∀ m, m < 12 → BK σ N m0 4 m (B m)
theorem c_search {K : fh_K} {M : fh_M} {x f a : Nat} {σ : sT} (hV : Val σ) (s1 : cS K M x) (p1 : cP K M x σ) (hf : f < σ 0 9) (h1 : M.2.2 (x + 6) f = some a) :
    ∃ M' B, f_X5_search K M (x + 15) (some a) (some (x + 13)) (some (x + 7)) (nI (σ 0 2)) = some M' ∧ lE x M M' ∧ rowL M' (x + 16) B ∧ bstR σ (nd σ f) (sK σ f) B := by
  have hv := hV.1
  obtain ⟨a', ab, d1, d2, d3, d4, d5, d6, d7, d8, d9, d10, d11, d12, d13, d14, -⟩ := p1.2.2.2.2.2.2.2.1 f hf
  cases h1.symm.trans d1
  obtain ⟨M3, q1, q2, q3, q4, q5⟩ := c_fillJ (M := M) 9223372036854775807 (ck16 s1) (by omega)
  have E3 : lE x M M3 := ⟨q2, q3, fun b k z1 _ _ => q4 b k z1⟩
  have s3 := cG_S (lE_G E3) s1
  obtain ⟨M5, w1, w2, w3, w4, w5⟩ := c_fillJ (M := M3) 9223372036854775807 (ck17 s3) (by omega)
  have E5 : lE x M M5 := lE_tr E3 ⟨w2, w3, fun b k _ z2 _ => w4 b k z2⟩
  have s5 := cG_S (lE_G E5) s1
  have p5 := cG_P (lE_G E5) p1
  have r16 : rowL M5 (x + 16) (fun _ => INF) := fun j hj => by rw [w4 _ _ (by omega)]; exact q5 j hj
  have r17 : rowL M5 (x + 17) (fun _ => INF) := fun j hj => w5 j hj
  have hsk := sK_le σ f
  unfold f_X5_search
  rw [fo_ok (ck15 s1), cr15_0 s1, q1, Option.bind_some, cr15_1 s3, w1, Option.bind_some, fo_ok d4, E5.1, d12, n_12]
  cases hq : sK σ f with
  | zero =>
    rw [kI_0, if_pos (by decide)]
    exact ⟨M5, _, rfl, E5, r16, Or.inl ⟨rfl, fun _ _ => rfl⟩⟩
  | succ m0 =>
    rw [kI_s, if_neg (nI_pos (by omega)), if_pos (nI_lt (by omega) (by omega)), cr15_0 s5, fi_ok (ck16 s5) rfl (by omega) (by omega), fb_eq, cl_n (by omega), fh_sl_22, cr15_1 s5, fi_ok (ck17 s5) rfl (by omega) (by omega), fb_eq, fh_sl_1, fh_sl_1, E5.1, d11, d14, fa_and]
    have E6 : lE x M (fh_sl (fh_sl M5 (x + 16) m0 0) (x + 17) m0 0) := lE_tr E5 (lE_tr (lE_sl (Or.inl rfl)) (lE_sl (Or.inr (Or.inl rfl))))
    have sel := c_seL (K := K) (x := x) (N := nd σ f) (m0 := m0) M s1 p1 hV (nd_lt hV hf) 4096 0 _ (fun m => if m = m0 then 0 else INF) (fun m => if m = m0 then 0 else INF) (by omega) (by omega) E6 (fun j hj => ?_) (fun m hm => MK_0 σ (nd σ f) m0 m) (fun j hj => ?_) (fun m hm => BK_0 σ (nd σ f) m0 m)
    · obtain ⟨M', B', z1, z2, z3, z4⟩ := sel
      exact ⟨M', B', z1, z2, z3, Or.inr ⟨m0, rfl, z4⟩⟩
    · rw [fh_sl_21]
      show _ = lN (if j = m0 then 0 else INF)
      by_cases z : j = m0
      · rw [if_pos ⟨rfl, z⟩, if_pos z]; rfl
      · rw [if_neg (fun q => z q.2), if_neg z, fh_sl_21, if_neg (by omega)]; exact r17 j hj
    · rw [fh_sl_21, if_neg (by omega), fh_sl_21]
      show _ = lN (if j = m0 then 0 else INF)
      by_cases z : j = m0
      · rw [if_pos ⟨rfl, z⟩, if_pos z]; rfl
      · rw [if_neg (fun q => z q.2), if_neg z]; exact r16 j hj
theorem c_bestTo {K : fh_K} {M : fh_M} {x m : Nat} {B : Nat → Nat} (s1 : cS K M x) (h16 : rowL M (x + 16) B) (hm : m < 12) : f_X5_bestTo K M (x + 15) (nI m) = some (lN (B m)) := by
  unfold f_X5_bestTo
  rw [if_neg (nI_pos (by omega)), n_12, if_neg (nI_ge hm (by omega)), fo_ok (ck15 s1), cr15_0 s1, fi_ok (ck16 s1) rfl hm (by omega), cl_n (by omega), h16 m hm]
