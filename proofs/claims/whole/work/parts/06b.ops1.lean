/-- two states with the same makes and bytes -/
theorem kn_ag {σ σ' : sT} {f : Nat} (hm : ∀ c m, (2 ≤ c ∧ c ≤ 6) → σ' c m = σ c m) (h7 : ∀ k, cF σ' f k = cF σ f k) (h8 : σ' 8 f = σ 8 f) : (∀ m, sMk σ' f m = sMk σ f m ∧ sB σ' f m = sB σ f m ∧ sL σ' f m = sL σ f m) ∧ ∀ n, kn σ' f n = kn σ f n := by
  have e7 : cF σ' f = cF σ f := funext h7
  have e2 : ∀ m, mF σ' m = mF σ m := fun m => funext fun k => hm 2 _ (by omega)
  have h1 : ∀ m, sMk σ' f m = sMk σ f m ∧ sB σ' f m = sB σ f m ∧ sL σ' f m = sL σ f m := by
    intro m
    unfold sMk sB sL
    rw [e7, e2, h8, hm 3 m (by omega), hm 4 m (by omega), hm 5 m (by omega)]
    exact ⟨rfl, rfl, rfl⟩
  refine ⟨h1, fun n => ?_⟩
  induction n with
  | zero => rfl
  | succ n ih =>
    unfold kn
    rw [(h1 n).1, (h1 n).2.1, ih, hm 6 n (by omega)]
theorem sR_ag {σ σ' : sT} {f : Nat} (hm : ∀ c m, (2 ≤ c ∧ c ≤ 6) → σ' c m = σ c m) (h7 : ∀ k, cF σ' f k = cF σ f k) (h8 : σ' 8 f = σ 8 f) (h3 : σ' 0 3 = σ 0 3) : sK σ' f = sK σ f ∧ sR σ' f = sR σ f := by
  obtain ⟨g1, g2⟩ := kn_ag hm h7 h8
  have e : sK σ' f = sK σ f := by unfold sK; rw [g2, h3]
  refine ⟨e, ?_⟩
  unfold sR
  rw [e]
  cases sK σ f with
  | zero => rfl
  | succ m => exact (g1 m).2.2
theorem root_ag {σ σ' : sT} (h : ∀ j, σ' 10 j = σ 10 j) : ∀ n f, root σ' n f = root σ n f := by
  intro n
  induction n with
  | zero => intro f; rfl
  | succ n ih => intro f; unfold root; rw [h, ih]
theorem isSrc_ag {σ σ' : sT} (h : ∀ j, σ' 10 j = σ 10 j) (h9 : σ' 0 9 = σ 0 9) (f : Nat) : isSrc σ' f = isSrc σ f := by
  unfold isSrc
  rw [h9]
  exact propext ⟨fun ⟨g, a, b⟩ => ⟨g, a, by rw [← h]; exact b⟩, fun ⟨g, a, b⟩ => ⟨g, a, by rw [h]; exact b⟩⟩
/-- the same makes, files (but MUST) and turners -/
def sDy (σ σ' : sT) : Prop := (∀ c j, (2 ≤ c ∧ c ≤ 8) ∨ c = 10 ∨ (15 ≤ c ∧ c ≤ 19) → σ' c j = σ c j) ∧ σ' 0 3 = σ 0 3 ∧ σ' 0 9 = σ 0 9 ∧ σ' 0 19 = σ 0 19
theorem cFl_sig {K : fh_K} {M : fh_M} {x i : Nat} {σ σ' : sT} (h : cFl K M x σ i) (hs : sDy σ σ') (h9 : σ' 9 i = σ 9 i) : cFl K M x σ' i := by
  obtain ⟨s1, s2, s3, s4⟩ := hs
  have e10 : ∀ j, σ' 10 j = σ 10 j := fun j => s1 10 j (by omega)
  have e7 : ∀ k, cF σ' i k = cF σ i k := fun k => s1 7 _ (by omega)
  obtain ⟨r1, r2⟩ := sR_ag (f := i) (fun c m q => s1 c m (by omega)) e7 (s1 8 i (by omega)) s2
  have r3 := (kn_ag (f := i) (fun c m q => s1 c m (by omega)) e7 (s1 8 i (by omega))).2 (σ 0 3)
  obtain ⟨a, ab, h1, h2, h3, g1, g2, g3, g4, g5, g6, g7, g8, g9, g10, g11, g12⟩ := h
  refine ⟨a, ab, h1, h2, h3, g1, g2, ?_, fun k hk => ?_, ?_, ?_, ?_, ?_, ?_, ?_, ?_, ?_⟩
  · rw [s1 8 i (by omega)]; exact g3
  · rw [e7]; exact g4 k (by rw [← s1 8 i (by omega)]; exact hk)
  · rw [e10]; exact g5
  · rw [root_ag e10]; exact g6
  · rw [isSrc_ag e10 s3]; exact g7
  · rw [h9]; exact g8
  · rw [r1]; exact g9
  · rw [s2, r3]; exact g10
  · rw [r2]; exact g11
  · rw [r2]; exact g12
theorem c_fileIn {K : fh_K} {M : fh_M} {x i : Nat} {σ : sT} (hS : cS K M x) (hP : cP K M x σ) (hV : Val σ) (hi : i < σ 0 9) : f_X10_fileAt K M x (nI i) = some (M.2.2 (x + 6) i) := by
  have hv := hV.1
  unfold f_X10_fileAt
  rw [if_neg (nI_pos (by omega)), co hS, hP.1.2.1, if_neg (nI_ge hi (by omega)), cr0_3 hS, fi_ok (ck6 hS) rfl (by omega) (by omega), cl_n (by omega)]
theorem c_fileOut {K : fh_K} {M : fh_M} {x : Nat} {v : Int32} {σ : sT} (hS : cS K M x) (hP : cP K M x σ) (h : v < 0 ∨ nI (σ 0 9) ≤ v) : f_X10_fileAt K M x v = some none := by
  unfold f_X10_fileAt
  by_cases h0 : v < 0
  · rw [if_pos h0]
  · rw [if_neg h0, co hS, hP.1.2.1, if_pos (h.resolve_left h0)]
theorem c_makeIn {K : fh_K} {M : fh_M} {x i : Nat} {σ : sT} (hS : cS K M x) (hP : cP K M x σ) (hV : Val σ) (hi : i < σ 0 3) : f_X10_makeAt K M x (nI i) = some (M.2.2 (x + 5) i) := by
  have hv := hV.1
  unfold f_X10_makeAt
  rw [if_neg (nI_pos (by omega)), co hS, hP.1.1, if_neg (nI_ge hi (by omega)), cr0_2 hS, fi_ok (ck5 hS) rfl (by omega) (by omega), cl_n (by omega)]
theorem c_makeOut {K : fh_K} {M : fh_M} {x : Nat} {v : Int32} {σ : sT} (hS : cS K M x) (hP : cP K M x σ) (h : v < 0 ∨ nI (σ 0 3) ≤ v) : f_X10_makeAt K M x v = some none := by
  unfold f_X10_makeAt
  by_cases h0 : v < 0
  · rw [if_pos h0]
  · rw [if_neg h0, co hS, hP.1.1, if_pos (h.resolve_left h0)]
theorem lies_in {i n : Nat} (hn : n ≤ 65536) (hi : i < n) : ¬ nI i < 0 ∧ ¬ (nI n - 1 < nI i) := by
  refine ⟨nI_pos (by omega), ?_⟩
  rw [n_1, n_m (by omega), nI_ltI (by omega) (by omega)]
  omega
theorem lies_out {v : Int32} {n : Nat} (hn : n ≤ 65536) (h : v < 0 ∨ nI n ≤ v) : v < 0 ∨ nI n - 1 < v := by
  rcases h with h | h
  · exact Or.inl h
  · refine Or.inr ?_
    rw [fa_le, nI_toInt (by omega)] at h
    rw [fa_lt, n_1, pk_sub_toInt (by omega) (by omega)]
    omega
theorem m_fileIn {K : fh_K} {M : fh_M} {y i : Nat} {σ : sT} (hS : mS K M y) (hP : mP M y σ) (hV : Val σ) (hi : i < σ 0 9) : f_X11_isFile K M y (nI i) = some 1 := by
  have hv := hV.1
  unfold f_X11_isFile
  obtain ⟨h1, h2⟩ := lies_in (n := σ 0 9) (by omega) hi
  rw [mo hS, mP_s hP 9 (by omega), m_lies, if_neg h1, if_neg h2]
  rfl
theorem m_fileOut {K : fh_K} {M : fh_M} {y : Nat} {v : Int32} {σ : sT} (hS : mS K M y) (hP : mP M y σ) (hV : Val σ) (h : v < 0 ∨ nI (σ 0 9) ≤ v) : f_X11_isFile K M y v = some 0 := by
  have hv := hV.1
  unfold f_X11_isFile
  rw [mo hS, mP_s hP 9 (by omega), m_lies]
  rcases lies_out (n := σ 0 9) (by omega) h with h | h
  · rw [if_pos h]; rfl
  · rw [if_pos h, ite_self]; rfl
theorem m_makeIn {K : fh_K} {M : fh_M} {y i : Nat} {σ : sT} (hS : mS K M y) (hP : mP M y σ) (hV : Val σ) (hi : i < σ 0 3) : f_X11_isMake K M y (nI i) = some 1 := by
  have hv := hV.1
  unfold f_X11_isMake
  obtain ⟨h1, h2⟩ := lies_in (n := σ 0 3) (by omega) hi
  rw [mo hS, mP_s hP 3 (by omega), m_lies, if_neg h1, if_neg h2]
  rfl
theorem m_makeOut {K : fh_K} {M : fh_M} {y : Nat} {v : Int32} {σ : sT} (hS : mS K M y) (hP : mP M y σ) (hV : Val σ) (h : v < 0 ∨ nI (σ 0 3) ≤ v) : f_X11_isMake K M y v = some 0 := by
  have hv := hV.1
  unfold f_X11_isMake
  rw [mo hS, mP_s hP 3 (by omega), m_lies]
  rcases lies_out (n := σ 0 3) (by omega) h with h | h
  · rw [if_pos h]; rfl
  · rw [if_pos h, ite_self]; rfl
theorem m_machIn {K : fh_K} {M : fh_M} {i : Nat} (hi : i < 8) : f_X11_isMachine K M (nI i) = some 1 := by
  unfold f_X11_isMachine
  rw [m_lies, if_neg (nI_pos (by omega)), show (7 : Int32) = nI 7 from rfl, if_neg (nI_nlt (by omega) (by omega))]
  rfl
theorem m_machOut {K : fh_K} {M : fh_M} {v : Int32} (h : v < 0 ∨ nI 8 ≤ v) : f_X11_isMachine K M v = some 0 := by
  unfold f_X11_isMachine
  rw [m_lies]
  rcases lies_out (n := 8) (by omega) h with h | h
  · rw [if_pos h]; rfl
  · rw [show nI 8 - 1 = 7 from rfl] at h
    rw [if_pos h, ite_self]; rfl
theorem c_machIn {K : fh_K} {M : fh_M} {t i : Nat} (hi : i < 8) : f_X1_knows K M t (nI i) = some 1 := by
  unfold f_X1_knows
  rw [if_neg (nI_pos (by omega)), n_8, if_neg (nI_ge hi (by omega))]
theorem c_machOut {K : fh_K} {M : fh_M} {t : Nat} {v : Int32} (h : v < 0 ∨ nI 8 ≤ v) : f_X1_knows K M t v = some 0 := by
  unfold f_X1_knows
  by_cases h0 : v < 0
  · rw [if_pos h0]
  · rw [if_neg h0, n_8, if_pos (h.resolve_left h0)]
theorem nrange {v : Int32} {n : Nat} (hn : n < 65536) : (v < 0 ∨ nI n < v) ∨ ∃ j, j ≤ n ∧ v = nI j := by
  rcases pk_ix v (n := n + 1) (by omega) with h | h | ⟨j, h, e⟩
  · exact Or.inl (Or.inl h)
  · refine Or.inl (Or.inr ?_)
    rw [fa_le, nI_toInt (by omega)] at h
    rw [fa_lt, nI_toInt (by omega)]
    omega
  · exact Or.inr ⟨j, by omega, e⟩
theorem c_propIn {K : fh_K} {M : fh_M} {i : Nat} (hi : i ≤ 4095) : f_X10_areProperties K M (nI i) = some 1 := by
  unfold f_X10_areProperties
  rw [if_neg (nI_pos (by omega)), n_4095, if_neg (nI_nlt hi (by omega))]
theorem c_propOut {K : fh_K} {M : fh_M} {v : Int32} (h : v < 0 ∨ nI 4095 < v) : f_X10_areProperties K M v = some 0 := by
  unfold f_X10_areProperties
  by_cases h0 : v < 0
  · rw [if_pos h0]
  · rw [if_neg h0, n_4095, if_pos (h.resolve_left h0)]
theorem m_liesIn {K : fh_K} {M : fh_M} {i n : Nat} (hn : n ≤ 65536) (hi : i ≤ n) : f_X11_lies K M (nI i) 0 (nI n) = some 1 := by
  rw [m_lies, if_neg (nI_pos (by omega)), if_neg (nI_nlt hi (by omega))]
theorem m_liesOut {K : fh_K} {M : fh_M} {v w : Int32} (h : v < 0 ∨ w < v) : f_X11_lies K M v 0 w = some 0 := by
  rw [m_lies]
  by_cases h0 : v < 0
  · rw [if_pos h0]
  · rw [if_neg h0, if_pos (h.resolve_left h0)]
theorem c_yearIn {K : fh_K} {M : fh_M} {i : Nat} (hi : i ≤ 999) : f_X10_isYear K M (nI i) = some 1 := by
  unfold f_X10_isYear
  rw [if_neg (nI_pos (by omega)), n_999, if_neg (nI_nlt hi (by omega))]
theorem c_yearOut {K : fh_K} {M : fh_M} {v : Int32} (h : v < 0 ∨ nI 999 < v) : f_X10_isYear K M v = some 0 := by
  unfold f_X10_isYear
  by_cases h0 : v < 0
  · rw [if_pos h0]
  · rw [if_neg h0, n_999, if_pos (h.resolve_left h0)]
/-- what an operation must do -/
def Op (sz : Nat) (K : fh_K) (M : fh_M) (x : Nat) (cf mf : fh_K → fh_M → Nat → Option (Int32 × fh_M)) : Prop := ∃ r M1 M2 σ', cf K M x = some (r, M1) ∧ mf K M1 (x + 32) = some (r, M2) ∧ Inv sz K M2 x σ'
/-- the class's cells beside the pools -/
theorem cP_flat {K : fh_K} {M M' : fh_M} {x : Nat} {σ σ' : sT} (hP : cP K M x σ) (hs : sDy σ σ') (h9 : ∀ i, i < σ 0 9 → σ' 9 i = σ 9 i) (hI : ∀ a k, x + 63 ≤ a → M'.1 a k = M.1 a k) (hR : M'.2.2 = M.2.2) (h2 : M'.2.1 = M.2.1) (h37 : σ' 0 37 = σ 0 37) (h28 : ∀ k, σ' 28 k = σ 28 k)
    (hx : M'.1 x 11 = M.1 x 11 ∧ M'.1 x 12 = M.1 x 12 ∧ M'.1 x 13 = nI (σ' 0 2)) (ht : M'.1 (x + 1) 1 = nI (σ' 0 1) ∧ ∀ k, k < σ' 0 1 → M'.1 (x + 2) k = nI (σ' 1 k)) (hm : ∀ j, j < 8 → M'.1 (x + 8) j = nI (σ' 11 j) ∧ M'.1 (x + 9) j = nI (σ' 12 j)) (hr : M'.1 (x + 10) 2 = nI (σ' 0 16) ∧ ∀ r, r < σ' 0 16 → M'.1 (x + 11) r = nI (σ' 13 r) ∧ M'.1 (x + 12) r = nI (σ' 14 r)) (h13 : M'.1 (x + 13) 1 = M.1 (x + 13) 1) : cP K M' x σ' := by
  obtain ⟨⟨a1, a2, a3⟩, -, -, -, e1, ⟨p, p1, p2, p3⟩, g1, g2, g3, g4⟩ := hP
  obtain ⟨s1, s2, s3, s4⟩ := id hs
  have e28 : rowC (σ' 28) (σ' 0 37) = rowC (σ 28) (σ 0 37) := by rw [h37, show σ' 28 = σ 28 from funext h28]
  refine ⟨⟨?_, ?_, hx.2.2⟩, ht, hm, hr, ?_, ⟨p, p1, ?_, ?_⟩, fun i hi => ?_, fun i hi => ?_, fun t ht => ?_, fun i j hi hj e => ?_⟩
  · rw [hx.1, s2]; exact a1
  · rw [hx.2.1, s3]; exact a2
  · rw [h13, s4]; exact e1
  · rw [h2, e28, h37]; exact p2
  · intro k hk; rw [h28]; exact p3 k (by rw [← h37]; exact hk)
  · rw [s2] at hi
    exact cMk_keep (g1 i hi) (by rw [hR]) (fun _ _ _ => rfl) (fun a k q _ _ => hI a k q) (fun a k q _ => by rw [hR]) (s1 3 i (by omega)) (s1 4 i (by omega)) (s1 5 i (by omega)) (s1 6 i (by omega)) (fun k _ => s1 2 _ (by omega))
  · rw [s3] at hi
    exact cFl_sig (cFl_keep (g2 i hi) (by rw [hR]) (fun _ _ _ => rfl) (fun a k q _ => hI a k q) (fun a k q _ => by rw [hR])) hs (h9 i hi)
  · rw [s4] at ht
    exact cTn_keep (g3 t ht) (by rw [hR]) (fun _ _ _ => rfl) (fun a k q _ _ => hI a k q) (fun c q1 q2 => s1 c t (by omega)) (s1 4 _ (by omega))
  · rw [hR] at e
    rw [s3] at hi hj
    exact g4 i j hi hj e
theorem fh_u_s {α : Type} (f : Nat → Nat → α) (a k : Nat) (v : α) : fh_u f a k v a k = v := by simp [fh_u]
theorem fh_u_o {α : Type} (f : Nat → Nat → α) (a k : Nat) (v : α) {b j : Nat} (h : ¬ (b = a ∧ j = k)) : fh_u f a k v b j = f b j := by simp [fh_u, h]
/-- YEAR -/
theorem op_year {sz : Nat} {K : fh_K} {M : fh_M} {x : Nat} {σ : sT} (hI : Inv sz K M x σ) (v : Int32) : Op sz K M x (fun K M x => f_X10_year K M x v) (fun K M y => f_X11_year K M y v) := by
  obtain ⟨hV, s1, p1, s2, p2, k1, k2⟩ := id hI
  have hv := hV.1
  have bad : f_X10_isYearToCome K M x v = some 0 → f_X11_lies K M v (nI (σ 0 2)) 999 = some 0 → Op sz K M x (fun K M x => f_X10_year K M x v) (fun K M y => f_X11_year K M y v) := by
    intro q1 q2
    refine ⟨0, M, M, σ, ?_, ?_, hI⟩
    · show f_X10_year K M x v = _
      unfold f_X10_year; rw [co s1, q1]; rfl
    · show f_X11_year K M (x + 32) v = _
      unfold f_X11_year; rw [mo s2, mP_s p2 2 (by omega), q2]; rfl
  have e999 : (999 : Int32) = nI 999 := rfl
  rcases nrange (v := v) (n := 999) (by omega) with h | ⟨j, hj, rfl⟩
  · refine bad ?_ ?_
    · unfold f_X10_isYearToCome; rw [c_yearOut h]; rfl
    · rw [m_lies]
      by_cases q : v < nI (σ 0 2)
      · rw [if_pos q]
      · rw [if_neg q]
        rcases h with h | h
        · exfalso; apply q
          rw [fa_lt] at h ⊢
          rw [nI_toInt (by omega)]
          have : (0 : Int32).toInt = 0 := by decide
          omega
        · rw [e999, if_pos h]
  · by_cases q : j < σ 0 2
    · refine bad ?_ ?_
      · unfold f_X10_isYearToCome; rw [c_yearIn hj]
        simp only [Option.bind_some]
        rw [if_neg (show ¬ (1 : Int32) = 0 by decide), co s1, p1.1.2.2, if_pos (nI_lt q (by omega))]
      · rw [m_lies, if_pos (nI_lt q (by omega))]
    · have y1 : f_X10_year K M x (nI j) = some (1, fh_si M x 13 (nI j)) := by
        unfold f_X10_year f_X10_isYearToCome
        rw [co s1, c_yearIn hj]
        simp only [Option.bind_some]
        rw [if_neg (show ¬ (1 : Int32) = 0 by decide), co s1, p1.1.2.2, if_neg (nI_nlt (by omega) (by omega))]
        rfl
      have s2' : mS K (fh_si M x 13 (nI j)) (x + 32) := mS_si s2 _ _ _
      have p2' : mP (fh_si M x 13 (nI j)) (x + 32) σ := mP_keep p2 (fun a k q1 q2 => by rw [fh_si_1, if_neg (by omega)])
      have y2 : f_X11_year K (fh_si M x 13 (nI j)) (x + 32) (nI j) = some (1, fh_si (fh_si M x 13 (nI j)) (x + 32) 2 (nI j)) := by
        unfold f_X11_year
        rw [mo s2', mP_s p2' 2 (by omega), m_lies, if_neg (nI_nlt (by omega) (by omega)), e999, if_neg (nI_nlt hj (by omega))]
        rfl
      refine ⟨1, _, _, fh_u σ 0 2 j, y1, y2, ?_, s1, ?_, s2, ?_, k1, k2⟩
      · obtain ⟨v0, v1, v2, v3, v4, v5, v6, v7⟩ := hV
        exact ⟨⟨v0.1, hj, v0.2.2⟩, v1, v2, v3, v4, v5, v6, v7⟩
      · refine cP_flat p1 ⟨fun c j q => fh_u_o _ _ _ _ (by omega), rfl, rfl, rfl⟩ (fun i _ => rfl) (fun a k q => ?_) rfl rfl rfl (fun _ => rfl) ⟨?_, ?_, ?_⟩ ⟨?_, fun k hk => ?_⟩ (fun j hj => ⟨?_, ?_⟩) ⟨?_, fun r hr => ⟨?_, ?_⟩⟩ ?_
        · rw [fh_si_1, if_neg (by omega), fh_si_1, if_neg (by omega)]
        · rw [fh_si_1, if_neg (by omega), fh_si_1, if_neg (by omega)]
        · rw [fh_si_1, if_neg (by omega), fh_si_1, if_neg (by omega)]
        · rw [fh_si_1, if_neg (by omega), fh_si_1, if_pos ⟨rfl, rfl⟩]; rfl
        · rw [fh_si_1, if_neg (by omega), fh_si_1, if_neg (by omega)]; exact p1.2.1.1
        · rw [fh_si_1, if_neg (by omega), fh_si_1, if_neg (by omega)]; exact p1.2.1.2 k hk
        · rw [fh_si_1, if_neg (by omega), fh_si_1, if_neg (by omega)]; exact (p1.2.2.1 j hj).1
        · rw [fh_si_1, if_neg (by omega), fh_si_1, if_neg (by omega)]; exact (p1.2.2.1 j hj).2
        · rw [fh_si_1, if_neg (by omega), fh_si_1, if_neg (by omega)]; exact p1.2.2.2.1.1
        · rw [fh_si_1, if_neg (by omega), fh_si_1, if_neg (by omega)]; exact (p1.2.2.2.1.2 r hr).1
        · rw [fh_si_1, if_neg (by omega), fh_si_1, if_neg (by omega)]; exact (p1.2.2.2.1.2 r hr).2
        · rw [fh_si_1, if_neg (by omega), fh_si_1, if_neg (by omega)]
      · obtain ⟨h1, h2, h3, h4⟩ := p2'
        refine ⟨fun k hk => ?_, fun j hj => ?_, fun c j hc => ?_, fun j => ?_⟩
        · by_cases e : k = 2
          · subst e; rw [fh_si_1, if_pos ⟨rfl, rfl⟩]; rfl
          · rw [fh_si_1, if_neg (by omega), h1 k hk, fh_u_o _ _ _ _ (by omega)]
        · rw [fh_si_1, if_neg (by omega)]; exact h2 j hj
        · rw [fh_si_1, if_neg (by omega), fh_u_o _ _ _ _ (by omega)]; exact h3 c j hc
        · rw [fh_si_1, if_neg (by omega)]; exact h4 j
