theorem root_st {σ : sT} (h : ∀ j, j < 40 → σ 10 j ≤ j) : ∀ n m f, f < n → f < m → f < 40 → root σ n f = root σ m f := by
  intro n
  induction n with
  | zero => intro m f q; exact absurd q (Nat.not_lt_zero _)
  | succ n ih =>
    intro m f h1 h2 h3
    obtain ⟨m, rfl⟩ : ∃ k, m = k + 1 := ⟨m - 1, by omega⟩
    unfold root
    by_cases z : σ 10 f = 0
    · rw [if_pos z, if_pos z]
    · rw [if_neg z, if_neg z]
      have := h f h3
      exact ih m _ (by omega) (by omega) (by omega)
/-- as cFm_ag, but the mark of a source is new -/
theorem cFm_ag2 {K K' : fh_K} {M M' : fh_M} {x i n a : Nat} {σ σ' : sT} (h : cFm K M x σ i n a) (hr : M'.2.2 (x + 6) i = M.2.2 (x + 6) i) (hK : ∀ b, x + 63 ≤ b → K b ≠ (0, 0) → K' b = K b) (hIa : ∀ k, k ≠ 3 → M'.1 a k = M.1 a k) (hI : ∀ b k, x + 63 ≤ b → (K b).1 = 13 → M'.1 b k = M.1 b k) (hR : ∀ b k, x + 63 ≤ b → K b ≠ (0, 0) → M'.2.2 b k = M.2.2 b k)
    (hm : ∀ m, m < n → σ' 3 m = σ 3 m ∧ σ' 4 m = σ 4 m ∧ σ' 5 m = σ 5 m ∧ σ' 6 m = σ 6 m ∧ ∀ k, k < σ 3 m → mF σ' m k = mF σ m k) (h7 : ∀ k, k < σ 8 i → cF σ' i k = cF σ i k) (h8 : σ' 8 i = σ 8 i) (h1 : 1 ≤ σ 8 i) (h9 : σ' 9 i = σ 9 i) (h10 : σ' 10 i = σ 10 i) (hro : root σ' 40 i = root σ 40 i) (hs : (isSrc σ' i ∧ M'.1 a 3 = 1) ∨ (¬ isSrc σ' i ∧ M'.1 a 3 = 0)) : cFm K' M' x σ' i n a := by
  obtain ⟨ab, q1, q2, q3, g1, g2, g3, g4, g5, g6, g7, g8, g9, g10, g11, g12⟩ := h
  have na : K a ≠ (0, 0) := by rw [g1]; decide
  have nab : K ab ≠ (0, 0) := by rw [g3]; exact fun q => by cases q
  obtain ⟨r1, r2⟩ := sRn_ag3 hm h7 h8 h1
  refine ⟨ab, hr.trans q1, q2, q3, ?_, ?_, ?_, fun k hk => ?_, ?_, ?_, hs, ?_, ?_, ?_, ?_, ?_⟩
  · rw [hK a q2 na]; exact g1
  · rw [hR a 0 q2 na]; exact g2
  · rw [hK ab q3 nab, h8]; exact g3
  · rw [h8] at hk
    rw [hI ab k q3 (by rw [g3]), h7 k hk]; exact g4 k hk
  · rw [hIa _ (by omega), h10]; exact g5
  · rw [hIa _ (by omega), hro]; exact g6
  · rw [hIa _ (by omega), h9]; exact g8
  · rw [hIa _ (by omega), r1]; exact g9
  · rw [hIa _ (by omega), r1]; exact g10
  · rw [hIa _ (by omega), r2]; exact g11
  · rw [hIa _ (by omega), r2]; exact g12
theorem c_at {K : fh_K} {M : fh_M} {x t : Nat} {σ : sT} (hS : cS K M x) (hP : cP K M x σ) (hV : Val σ) (ht : t < σ 0 19) : f_X9_at K M (x + 13) (nI t) = some (M.2.2 (x + 14) t) := by
  have hv := hV.1
  unfold f_X9_at
  rw [if_neg (nI_pos (by omega)), fo_ok (ck13 hS), hP.2.2.2.2.1, if_neg (nI_ge ht (by omega)), cr13_0 hS, fi_ok (ck14 hS) rfl (by omega) (by omega), cl_n (by omega)]
theorem c_atOut {K : fh_K} {M : fh_M} {x : Nat} {v : Int32} {σ : sT} (hS : cS K M x) (hP : cP K M x σ) (h : v < 0 ∨ nI (σ 0 19) ≤ v) : f_X9_at K M (x + 13) v = some none := by
  unfold f_X9_at
  by_cases h0 : v < 0
  · rw [if_pos h0]
  · rw [if_neg h0, fo_ok (ck13 hS), hP.2.2.2.2.1, if_pos (h.resolve_left h0)]
theorem c_live {K : fh_K} {M : fh_M} {x m : Nat} {σ : sT} {w : Int32} (hS : cS K M x) (hP : cP K M x σ) (hm : m < 8) : f_X1_liveSurely K M (x + 7) (nI m) w = some (if nI (σ 11 m) < w then 0 else 1) := by
  unfold f_X1_liveSurely f_X1_endOf
  rw [fo_ok (ck7 hS), fo_ok (ck7 hS), c_machIn hm]
  simp only [Option.bind_some]
  rw [if_neg (show ¬ (1 : Int32) = 0 by decide), if_neg (show ¬ (1 : Int32) = 0 by decide), cr7_0 hS, fi_ok (ck8 hS) rfl hm (by omega), cl_n (by omega), (hP.2.2.1 m hm).1]
  simp only [Option.bind_some]
  by_cases h : nI (σ 11 m) < w
  · rw [if_pos h, if_pos h]
  · rw [if_neg h, if_neg h]
/-- TURN -/
theorem op_turn {sz : Nat} {K : fh_K} {M : fh_M} {x : Nat} {σ : sT} (hI : Inv sz K M x σ) (v w : Int32) : OpA sz K M x (fun sz K M x => f_X10_turn sz K M x v w) (fun K M y => f_X11_turn K M y v w) := by
  obtain ⟨hV, s1, p1, s2, p2, k1, k2⟩ := id hI
  have hv := hV.1
  have turE : ∃ o, f_X9_at K M (x + 13) w = some o := by
    rcases pk_ix w (n := σ 0 19) (by omega) with h | h | ⟨t, ht, rfl⟩
    · exact ⟨_, c_atOut s1 p1 (Or.inl h)⟩
    · exact ⟨_, c_atOut s1 p1 (Or.inr h)⟩
    · exact ⟨_, c_at s1 p1 hV ht⟩
  have badf : (v < 0 ∨ nI (σ 0 9) ≤ v) → OpA sz K M x (fun sz K M x => f_X10_turn sz K M x v w) (fun K M y => f_X11_turn K M y v w) := by
    intro h
    obtain ⟨o, ho⟩ := turE
    refine ⟨-1, sz, K, M, M, σ, ?_, ?_, hI⟩
    · show f_X10_turn sz K M x v w = _
      unfold f_X10_turn; rw [co s1, c_fileOut s1 p1 h]
      simp only [Option.bind_some]
      rw [cr0_6 s1, fo_ok (ck13 s1), ho]; rfl
    · show f_X11_turn K M (x + 32) v w = _
      unfold f_X11_turn; rw [mo s2, m_fileOut s2 p2 hV h]; rfl
  rcases pk_ix v (n := σ 0 9) (by omega) with h | h | ⟨f, hf, rfl⟩
  · exact badf (Or.inl h)
  · exact badf (Or.inr h)
  obtain ⟨a, ab, h1, h2, h3, g1, g2, g3, g4, g5, g6, g7, g8, g9, g10, g11, g12⟩ := p1.2.2.2.2.2.2.2.1 f hf
  have badt : (w < 0 ∨ nI (σ 0 19) ≤ w) → OpA sz K M x (fun sz K M x => f_X10_turn sz K M x (nI f) w) (fun K M y => f_X11_turn K M y (nI f) w) := by
    intro h
    refine ⟨-1, sz, K, M, M, σ, ?_, ?_, hI⟩
    · show f_X10_turn sz K M x (nI f) w = _
      unfold f_X10_turn; rw [co s1, c_fileIn s1 p1 hV hf, h1]
      simp only [Option.bind_some]
      rw [cr0_6 s1, fo_ok (ck13 s1), c_atOut s1 p1 h]; rfl
    · show f_X11_turn K M (x + 32) (nI f) w = _
      unfold f_X11_turn; rw [mo s2, m_fileIn s2 p2 hV hf]
      simp only [Option.bind_some]
      rw [if_neg (show ¬ (1 : Int32) = 0 by decide), mP_s p2 19 (by omega), m_liesOut (lies_out (by omega) h)]; rfl
  rcases pk_ix w (n := σ 0 19) (by omega) with h | h | ⟨t, ht, rfl⟩
  · exact badt (Or.inl h)
  · exact badt (Or.inr h)
  obtain ⟨ta, b1, b2, b3, b4, b5, b6, b7, b8⟩ := p1.2.2.2.2.2.2.2.2.1 t ht
  obtain ⟨t1, t2, t3, t4, t5, t6⟩ := hV.2.2.2.2.2.2.2 t ht
  obtain ⟨v1, v2, v3, v4, v5⟩ := hV.2.2.1 _ t2
  have hsk := sK_le σ f
  have cpre : f_X10_turn sz K M x (nI f) (nI t) = if kI (sK σ f) = nI (σ 15 t) then (if (if nI (σ 11 (σ 19 t)) < nI (σ 0 2) then (0 : Int32) else 1) = 0 then some (-1, sz, K, M) else if nI (σ 0 9) < 40 then fc2 (f_X10_draftTurned K M x (some a) (some ta)) (fun r9 M10 => if r9 = 0 then some (-1, sz, K, M10) else fb (fh_si M10 a 3 1) fun M11 => fo K 0 (M11.2.2 x 1) fun a12 => fc4 (f_X0_firstBytes sz K M11 a12 (M11.1 a12 1)) fun r13 w16 K15 M14 => fo K15 7 (some a) fun a17 => fo K15 10 (some x) fun a18 => fc4 (f_X10_store w16 K15 M14 a18 r13 (nI f) (M14.1 a17 2)) fun r19 w22 K21 M20 => some (r19, w22, K21, M20)) else some (-1, sz, K, M)) else some (-1, sz, K, M) := by
    unfold f_X10_turn
    rw [co s1, c_fileIn s1 p1 hV hf, h1]
    simp only [Option.bind_some]
    rw [cr0_6 s1, fo_ok (ck13 s1), c_at s1 p1 hV ht, b1]
    simp only [Option.bind_some]
    rw [if_neg (fun q => by cases q), if_neg (fun q => by cases q), fo_ok g1, fo_ok b3, g9, b4, cr0_4 s1, fo_ok (ck7 s1), b8, p1.1.2.2, p1.1.2.1, c_live s1 p1 t6]
    rfl
  have mpre : ∀ {K' : fh_K} {M1 : fh_M}, mS K' M1 (x + 32) → mP M1 (x + 32) σ → ∃ M5, mE (x + 32) M1 M5 ∧ mRec M5 (x + 32) (sR σ f) ∧ f_X11_turn K' M1 (x + 32) (nI f) (nI t) = if kI (sK σ f) = nI (σ 15 t) then (if nI (σ 11 (σ 19 t)) < nI (σ 0 2) then some (-1, M5) else if nI (σ 0 9) = 40 then some (-1, M5) else f_X11_turn_J92 K' (x + 32) (nI f) (nI t) (nI (σ 16 t)) (nI (σ 5 (σ 16 t))) (nI (σ 3 (σ 16 t))) M5) else some (-1, M5) := by
    intro K' M1 hS1 hP1
    obtain ⟨M5, q1, q2, q3⟩ := m_knows hS1 hP1 hV hf
    refine ⟨M5, q2, q3, ?_⟩
    have hS5 := mE_S q2 hS1
    have hP5 := mG_P (mG_E q2) hP1
    obtain ⟨l1, l2⟩ := lies_in (n := σ 0 19) (by omega) ht
    unfold f_X11_turn
    rw [mo hS1, m_fileIn hS1 hP1 hV hf]
    simp only [Option.bind_some]
    rw [if_neg (show ¬ (1 : Int32) = 0 by decide), mP_s hP1 19 (by omega), m_lies, if_neg l1, if_neg l2]
    simp only [Option.bind_some]
    rw [if_neg (show ¬ (1 : Int32) = 0 by decide), q1, fc2_some, mi20 hS5 rfl (by omega), cl_n (by omega), mP_a hP5 15 t (by omega), mi24 hS5 rfl (by omega), mP_a hP5 19 t (by omega), mi14 hS5 rfl t6, cl_n (by omega), mP_a hP5 11 _ (by omega), mP_s hP5 2 (by omega), mP_s hP5 9 (by omega), mi21 hS5 rfl (by omega), mP_a hP5 16 t (by omega), mi5 hS5 rfl (by omega), mi7 hS5 rfl (by omega), cl_n (by omega), mP_a hP5 5 _ (by omega), mP_a hP5 3 _ (by omega)]
    by_cases e : nI (σ 5 (σ 16 t)) = 0
    · have : σ 5 (σ 16 t) = 0 := by
        apply Nat.eq_zero_of_not_pos
        exact fun q => nI_ne0 q (by omega) e
      rw [this, if_pos nI_0]; rfl
    · have : σ 5 (σ 16 t) = 1 := by
        have : σ 5 (σ 16 t) ≠ 0 := fun q => e (by rw [q]; rfl)
        omega
      rw [this, if_neg (show ¬ nI 1 = 0 by decide)]; rfl
  by_cases hk : kI (sK σ f) = nI (σ 15 t)
  rotate_left
  · rw [if_neg hk] at cpre
    obtain ⟨M5, q1, q2, q3⟩ := mpre s2 p2
    rw [if_neg hk] at q3
    exact ⟨-1, sz, K, M, M5, σ, cpre, q3, Inv_mG hI (mG_E q1)⟩
  rw [if_pos hk] at cpre
  by_cases hl : nI (σ 11 (σ 19 t)) < nI (σ 0 2)
  · rw [if_pos hl, if_pos rfl] at cpre
    obtain ⟨M5, q1, q2, q3⟩ := mpre s2 p2
    rw [if_pos hk, if_pos hl] at q3
    exact ⟨-1, sz, K, M, M5, σ, cpre, q3, Inv_mG hI (mG_E q1)⟩
  rw [if_neg hl, if_neg (show ¬ (1 : Int32) = 0 by decide)] at cpre
  by_cases hf40 : σ 0 9 = 40
  · rw [hf40, if_neg (show ¬ nI 40 < 40 by decide)] at cpre
    obtain ⟨M5, q1, q2, q3⟩ := mpre s2 p2
    rw [if_pos hk, if_neg hl, hf40, if_pos (show nI 40 = 40 from rfl)] at q3
    exact ⟨-1, sz, K, M, M5, σ, cpre, q3, Inv_mG hI (mG_E q1)⟩
  have hnf : σ 0 9 < 40 := by omega
  rw [n_40, if_pos (nI_lt hnf (by omega))] at cpre
  obtain ⟨rd, Md, e1, e2, e3⟩ := c_dt hV s1 p1 hf ht h1 b1
  rw [e1, fc2_some] at cpre
  have hId := Inv_cG hI e2
  obtain ⟨-, sd, pd, s2d, p2d, -⟩ := id hId
  rcases e3 with ⟨e3, rfl, e4⟩ | ⟨e3, rfl⟩
  rotate_left
  · rw [if_pos rfl] at cpre
    obtain ⟨M5, q1, q2, q3⟩ := mpre s2d p2d
    rw [if_pos hk, if_neg hl, n_40, if_neg (fun q => hf40 (n_inj (b := 40) (by omega) (by omega) q))] at q3
    have hS5 := mE_S q1 s2d
    have hP5 := mG_P (mG_E q1) p2d
    obtain ⟨r, M6, z1, z2⟩ := m_turnB hS5 hP5 hV q2 hf hnf ht
    rcases z2 with ⟨z2, -⟩ | ⟨z2, z3, z4⟩
    · omega
    · refine ⟨-1, sz, K, Md, M5, σ, cpre, q3.trans ?_, Inv_mG hId (mG_E q1)⟩
      rw [z1, z3, z4]
  rw [if_neg (show ¬ (1 : Int32) = 0 by decide), fb_eq] at cpre
  generalize hC : tf (mF σ (σ 16 t)) (σ 3 (σ 16 t)) (σ 5 (σ 16 t)) (cF σ f) (carr σ t) (sR σ f) = C at e3 e4
  have hC256 : ∀ k, lk C k < 256 := fun k => by rw [← hC]; exact tf_lt (fun k => (hV.2.1 _).2.1) (fun k => (hV.2.1 _).2.2) k
  have hC1 : 1 ≤ C.length := by
    have q1 := tb_mono (mk := mF σ (σ 16 t)) (ms := σ 3 (σ 16 t)) (a := cF σ f) (cr := carr σ t) (L := sR σ f) (i := 0) (sR σ f).length
    rw [Nat.zero_add, show (tb (mF σ (σ 16 t)) (σ 3 (σ 16 t)) (cF σ f) (carr σ t) (sR σ f) 0).length = σ 3 (σ 16 t) by simp [tb]] at q1
    rw [← hC]
    unfold tf
    rw [List.length_append]
    omega
  -- the new state
  generalize hσ : (fun c j => if c = 7 ∧ 60 * σ 0 9 ≤ j ∧ j < 60 * σ 0 9 + C.length then lk C (j - 60 * σ 0 9) else if c = 8 ∧ j = σ 0 9 then C.length else if c = 10 ∧ j = σ 0 9 then f + 1 else if c = 0 ∧ j = 9 then σ 0 9 + 1 else σ c j : sT) = σ'
  have eo : ∀ c j, c ≠ 7 → c ≠ 8 → c ≠ 10 → ¬ (c = 0 ∧ j = 9) → σ' c j = σ c j := fun c j z1 z2 z3 z4 => by
    rw [← hσ]; simp only
    rw [if_neg (by omega), if_neg (by omega), if_neg (by omega), if_neg (by omega)]
  have e7 : ∀ j, σ' 7 j = if 60 * σ 0 9 ≤ j ∧ j < 60 * σ 0 9 + C.length then lk C (j - 60 * σ 0 9) else σ 7 j := fun j => by
    rw [← hσ]
    show (if 7 = 7 ∧ _ then _ else if 7 = 8 ∧ _ then _ else if 7 = 10 ∧ _ then _ else if 7 = 0 ∧ _ then _ else _) = _
    by_cases z : 60 * σ 0 9 ≤ j ∧ j < 60 * σ 0 9 + C.length
    · rw [if_pos ⟨rfl, z⟩, if_pos z]
    · rw [if_neg (fun q => z q.2), if_neg (by omega), if_neg (by omega), if_neg (by omega), if_neg z]
  have e8 : ∀ j, σ' 8 j = if j = σ 0 9 then C.length else σ 8 j := fun j => by
    rw [← hσ]
    show (if 8 = 7 ∧ _ then _ else if 8 = 8 ∧ _ then _ else if 8 = 10 ∧ _ then _ else if 8 = 0 ∧ _ then _ else _) = _
    by_cases z : j = σ 0 9
    · rw [if_neg (by omega), if_pos ⟨rfl, z⟩, if_pos z]
    · rw [if_neg (by omega), if_neg (by omega), if_neg (by omega), if_neg (by omega), if_neg z]
  have e10 : ∀ j, σ' 10 j = if j = σ 0 9 then f + 1 else σ 10 j := fun j => by
    rw [← hσ]
    show (if 10 = 7 ∧ _ then _ else if 10 = 8 ∧ _ then _ else if 10 = 10 ∧ _ then _ else if 10 = 0 ∧ _ then _ else _) = _
    by_cases z : j = σ 0 9
    · rw [if_neg (by omega), if_neg (by omega), if_pos ⟨rfl, z⟩, if_pos z]
    · rw [if_neg (by omega), if_neg (by omega), if_neg (by omega), if_neg (by omega), if_neg z]
  have e09 : σ' 0 9 = σ 0 9 + 1 := by rw [← hσ]; simp
  have e03 : σ' 0 3 = σ 0 3 := eo 0 3 (by omega) (by omega) (by omega) (by omega)
  have cF' : ∀ i, i < σ 0 9 → ∀ k, k < σ 8 i → cF σ' i k = cF σ i k := fun i hi k hk => by
    have := (hV.2.2.2.1 i hi).2.1
    unfold cF
    rw [e7, if_neg (by omega)]
  have src' : ∀ i, i < σ 0 9 → (isSrc σ' i ↔ i = f ∨ isSrc σ i) := fun i hi => by
    unfold isSrc
    rw [e09]
    constructor
    · rintro ⟨g, z1, z2⟩
      rw [e10] at z2
      by_cases z : g = σ 0 9
      · rw [if_pos z] at z2; exact Or.inl (by omega)
      · rw [if_neg z] at z2; exact Or.inr ⟨g, by omega, z2⟩
    · rintro (z | ⟨g, z1, z2⟩)
      · exact ⟨σ 0 9, by omega, by rw [e10, if_pos rfl]; omega⟩
      · exact ⟨g, by omega, by rw [e10, if_neg (by omega)]; exact z2⟩
  have srcn : ¬ isSrc σ' (σ 0 9) := by
    rintro ⟨g, z1, z2⟩
    rw [e09] at z1
    rw [e10] at z2
    by_cases z : g = σ 0 9
    · rw [if_pos z] at z2; omega
    · rw [if_neg z] at z2
      have := (hV.2.2.2.1 g (by omega)).2.2.2
      omega
  have ro' : ∀ n i, i < σ 0 9 → root σ' n i = root σ n i := fun n i hi => root_ag3 (b := σ 0 9) (fun j hj => ⟨by rw [e10, if_neg (by omega)], (hV.2.2.2.1 j hj).2.2.2⟩) n i hi
  have ro9 : root σ 39 f = root σ 40 f := by
    obtain ⟨-, -, -, v3, -⟩ := hV
    have aux : ∀ n m g, g < n → g < m → g < σ 0 9 → root σ n g = root σ m g := by
      intro n
      induction n with
      | zero => intro m g q; exact absurd q (Nat.not_lt_zero _)
      | succ n ih =>
        intro m g z1 z2 z3
        obtain ⟨m, rfl⟩ : ∃ k, m = k + 1 := ⟨m - 1, by omega⟩
        unfold root
        by_cases z : σ 10 g = 0
        · rw [if_pos z, if_pos z]
        · rw [if_neg z, if_neg z]
          have := (v3 g z3).2.2.2
          exact ih m _ (by omega) (by omega) (by omega)
    exact aux 39 40 f (by omega) (by omega) hf
  have fr10 : σ' 10 (σ 0 9) = f + 1 := by rw [e10, if_pos rfl]
  have ron : root σ' 40 (σ 0 9) = root σ 40 f := by
    show (if σ' 10 (σ 0 9) = 0 then _ else root σ' 39 (σ' 10 (σ 0 9) - 1)) = _
    rw [fr10, if_neg (by omega), Nat.add_sub_cancel, ro' 39 f hf, ro9]
  have hV' : Val σ' := by
    obtain ⟨v0, v1, v2, v3, v4, v5, v6, v7⟩ := id hV
    refine ⟨⟨by rw [eo 0 1 (by omega) (by omega) (by omega) (by omega)]; omega, by rw [eo 0 2 (by omega) (by omega) (by omega) (by omega)]; omega, by omega, by omega, by rw [eo 0 16 (by omega) (by omega) (by omega) (by omega)]; omega, by rw [eo 0 19 (by omega) (by omega) (by omega) (by omega)]; omega, by rw [eo 0 37 (by omega) (by omega) (by omega) (by omega)]; omega⟩, fun j => ⟨?_, ?_, ?_⟩, fun m hm => ?_, fun f hf => ?_, fun f hf => ?_, fun j hj => ?_, fun r hr => ?_, fun t ht => ?_⟩
    · rw [eo 1 j (by omega) (by omega) (by omega) (by omega)]; exact (v1 j).1
    · rw [eo 2 j (by omega) (by omega) (by omega) (by omega)]; exact (v1 j).2.1
    · rw [e7]
      by_cases z : 60 * σ 0 9 ≤ j ∧ j < 60 * σ 0 9 + C.length
      · rw [if_pos z]; exact hC256 _
      · rw [if_neg z]; exact (v1 j).2.2
    · rw [e03] at hm
      rw [eo 3 m (by omega) (by omega) (by omega) (by omega), eo 4 m (by omega) (by omega) (by omega) (by omega), eo 5 m (by omega) (by omega) (by omega) (by omega), eo 6 m (by omega) (by omega) (by omega) (by omega)]; exact v2 m hm
    · rw [e8, e10, eo 9 f (by omega) (by omega) (by omega) (by omega)]
      by_cases z : f = σ 0 9
      · rw [if_pos z, if_pos z, v4 f (by omega)]; omega
      · rw [if_neg z, if_neg z]; exact v3 f (by omega)
    · rw [eo 9 f (by omega) (by omega) (by omega) (by omega)]; exact v4 f (by omega)
    · rw [eo 11 j (by omega) (by omega) (by omega) (by omega), eo 12 j (by omega) (by omega) (by omega) (by omega)]; exact v5 j hj
    · rw [eo 0 16 (by omega) (by omega) (by omega) (by omega)] at hr
      rw [e03, eo 13 r (by omega) (by omega) (by omega) (by omega), eo 14 r (by omega) (by omega) (by omega) (by omega)]; exact v6 r hr
    · rw [eo 0 19 (by omega) (by omega) (by omega) (by omega)] at ht
      rw [e03, eo 15 t (by omega) (by omega) (by omega) (by omega), eo 16 t (by omega) (by omega) (by omega) (by omega), eo 17 t (by omega) (by omega) (by omega) (by omega), eo 18 t (by omega) (by omega) (by omega) (by omega), eo 19 t (by omega) (by omega) (by omega) (by omega)]; exact v7 t ht
  -- the class
  generalize hM11 : fh_si Md a 3 1 = M11 at cpre
  have i11 : ∀ b k, ¬ (b = a ∧ k = 3) → M11.1 b k = Md.1 b k := fun b k z => by rw [← hM11, fh_si_1, if_neg z]
  have r11 : M11.2 = Md.2 := by rw [← hM11]; rfl
  have s11 : cS K M11 x := cS_keep sd (fun _ _ _ => rfl) (fun b k _ _ _ _ => by rw [r11])
  have t11 : M11.1 (x + 3) 1 = nI C.length := by rw [i11 _ _ (by omega)]; exact e4.1
  obtain ⟨M4, a1, a2, a3⟩ := c_first (sz := sz) (n := C.length) (n' := C.length) (ck3 s11) (cr3_0 s11) (ck4 s11) (by omega) t11 (Nat.le_refl _) hC1 e3 (k1 sz (by omega))
  rw [cr0_1 s11, fo_ok (ck3 s11), t11, a1, fc4_some] at cpre
  generalize hK5 : fh_uk K sz (13, C.length) = K5 at cpre
  have k5s : K5 sz = (13, C.length) := by rw [← hK5]; exact uk_s _ _ _
  have k5 : ∀ b, b ≠ sz → K5 b = K b := fun b h => by rw [← hK5]; exact uk_o _ _ _ h
  have i4 : ∀ b k, b ≠ sz → M4.1 b k = M11.1 b k := fun b k z => by rw [(a2 b z).1]
  have r4 : ∀ b k, b ≠ sz → M4.2.2 b k = Md.2.2 b k := fun b k z => by rw [(a2 b z).2.2, r11]
  have s4 : cS K5 M4 x := cS_keep sd (fun b z1 z2 => k5 b (by omega)) (fun b k z1 z2 _ _ => r4 b k (by omega))
  have asz : a ≠ sz := fun q => by rw [q, k1 sz (by omega)] at g1; cases g1
  have asz1 : a ≠ sz + 1 := fun q => by rw [q, k1 (sz + 1) (by omega)] at g1; cases g1
  obtain ⟨⟨pd1, pd2, pd3⟩, ⟨pe1, pe2⟩, pf1, ⟨pg3, pg4⟩, ph1, ⟨pp, ph2, ph3, ph4⟩, pm1, pm2, pm3, pm4⟩ := id pd
  have h1d : Md.2.2 (x + 6) f = some a := by rw [e2.2.2 _ _ (by omega)]; exact h1
  have nz0 : ∀ b, K b ≠ (0, 0) → b ≠ sz ∧ b ≠ sz + 1 := fun b h => ⟨fun q => h (by rw [q]; exact k1 _ (by omega)), fun q => h (by rw [q]; exact k1 _ (by omega))⟩
  have mks : ∀ {Kn : fh_K} {Mn : fh_M} (m : Nat), m < σ 0 3 → Mn.2.2 (x + 5) m = Md.2.2 (x + 5) m → (∀ b, x + 63 ≤ b → K b ≠ (0, 0) → Kn b = K b) → (∀ b k, x + 63 ≤ b → K b ≠ (0, 0) → K b ≠ (8, 0) → Mn.1 b k = Md.1 b k) → (∀ b k, x + 63 ≤ b → K b ≠ (0, 0) → Mn.2.2 b k = Md.2.2 b k) → cMk Kn Mn x σ' m := fun m hm z1 z2 z3 z4 => cMk_keep (pm1 m hm) z1 z2 z3 z4 (eo 3 m (by omega) (by omega) (by omega) (by omega)) (eo 4 m (by omega) (by omega) (by omega) (by omega)) (eo 5 m (by omega) (by omega) (by omega) (by omega)) (eo 6 m (by omega) (by omega) (by omega) (by omega)) (fun k _ => eo 2 _ (by omega) (by omega) (by omega) (by omega))
  have na8 : ∀ b, K b ≠ (8, 0) → b ≠ a := fun b h q => h (by rw [q]; exact g1)
  obtain ⟨M9, b1', b2', b3', b4', b5', b6'⟩ := c_store (K := K5) (M := M4) (x := x) (sz := sz + 1) (σ := σ') (i := σ 0 9) (nm := σ 0 3) (ab := sz) (S := C.length) s4 (by rw [k5 _ (by omega)]; exact k1 _ (by omega)) (by omega) (by omega) k5s (by rw [i4 _ _ (by omega), i11 _ _ (by omega)]; exact pd2) hnf (by rw [i4 _ _ (by omega), i11 _ _ (by omega)]; exact pd1) (by omega)
    (fun m hm => mks m hm (r4 _ _ (by omega)) (fun b z1 z2 => k5 b (nz0 b z2).1) (fun b k z1 z2 z3 => (i4 b k (nz0 b z2).1).trans (i11 b k (fun q => na8 b z3 q.1))) (fun b k z1 z2 => r4 b k (nz0 b z2).1))
    (fun m hm => hV'.2.2.1 m (by rw [e03]; exact hm)) (by rw [e8, if_pos rfl]) (by omega) (fun j => (hV'.2.1 j).2) (fun k hk => by
      rw [a3 k hk, i11 _ _ (by omega), e4.2 k hk]
      unfold cF
      rw [e7, if_pos (by omega), Nat.add_sub_cancel_left]) srcn (by rw [eo 9 _ (by omega) (by omega) (by omega) (by omega)]; exact hV.2.2.2.2.1 _ (Nat.le_refl _))
  rw [fr10, kI_s, ron] at b1'
  generalize hK6 : fh_uk K5 (sz + 1) (8, 0) = K6 at b1' b2'
  have k6 : ∀ b, b ≠ sz → b ≠ sz + 1 → K6 b = K b := fun b h h' => by rw [← hK6, uk_o _ _ _ h']; exact k5 b h
  have i1 : ∀ b k, b ≠ sz → b ≠ sz + 1 → ¬ rq (x + 22) b k → ¬ (b = x ∧ k = 12) → ¬ (b = a ∧ k = 3) → M9.1 b k = Md.1 b k := fun b k z1 z2 z3 z4 z5 => ((b3' b k z2 z3 z4).trans (i4 b k z1)).trans (i11 b k z5)
  have r1 : ∀ b k, b ≠ sz → b ≠ sz + 1 → ¬ (b = x + 22 ∧ k = 3) → ¬ (b = x + 6 ∧ k = σ 0 9) → M9.2.2 b k = Md.2.2 b k := fun b k z1 z2 z3 z4 => (b6' b k z2 z3 z4).trans (r4 b k z1)
  have sc : cS K6 M9 x := cS_keep sd (fun b z1 z2 => k6 b (by omega) (by omega)) (fun b k z1 z2 z3 z4 => r1 b k (by omega) (by omega) (by omega) (by omega))
  have y1 : f_X10_turn sz K M x (nI f) (nI t) = some (nI (σ 0 9), sz + 1 + 1, K6, M9) := by
    rw [cpre, fo_ok (show K5 a = (7 + 1, 0) by rw [k5 a asz]; exact g1), co s4, i4 a 2 asz, i11 a 2 (by omega)]
    have : Md.1 a 2 = nI (root σ 40 f) := by rw [e2.1 _ _ (by unfold cZ; omega)]; exact g6
    rw [this, b1', fc4_some]
  have a3' : M9.1 a 3 = 1 := by
    rw [b3' a 3 asz1 (by unfold rq; omega) (by omega), i4 a 3 asz, ← hM11, fh_si_1, if_pos ⟨rfl, rfl⟩]
  have pc : cP K6 M9 x σ' := by
    refine ⟨⟨?_, ?_, ?_⟩, ⟨?_, fun k hk => ?_⟩, fun j hj => ⟨?_, ?_⟩, ⟨?_, fun r hr => ⟨?_, ?_⟩⟩, ?_, ⟨pp, ph2, ?_, ?_⟩, fun m hm => ?_, fun i hi => ?_, fun t ht => ?_, fun i j hi hj e => ?_⟩
    · rw [i1 _ _ (by omega) (by omega) (by unfold rq; omega) (by omega) (by omega), e03]; exact pd1
    · rw [e09]; exact b4'
    · rw [i1 _ _ (by omega) (by omega) (by unfold rq; omega) (by omega) (by omega), eo 0 2 (by omega) (by omega) (by omega) (by omega)]; exact pd3
    · rw [i1 _ _ (by omega) (by omega) (by unfold rq; omega) (by omega) (by omega), eo 0 1 (by omega) (by omega) (by omega) (by omega)]; exact pe1
    · rw [eo 0 1 (by omega) (by omega) (by omega) (by omega)] at hk
      rw [i1 _ _ (by omega) (by omega) (by unfold rq; omega) (by omega) (by omega), eo 1 k (by omega) (by omega) (by omega) (by omega)]; exact pe2 k hk
    · rw [i1 _ _ (by omega) (by omega) (by unfold rq; omega) (by omega) (by omega), eo 11 j (by omega) (by omega) (by omega) (by omega)]; exact (pf1 j hj).1
    · rw [i1 _ _ (by omega) (by omega) (by unfold rq; omega) (by omega) (by omega), eo 12 j (by omega) (by omega) (by omega) (by omega)]; exact (pf1 j hj).2
    · rw [i1 _ _ (by omega) (by omega) (by unfold rq; omega) (by omega) (by omega), eo 0 16 (by omega) (by omega) (by omega) (by omega)]; exact pg3
    · rw [i1 _ _ (by omega) (by omega) (by unfold rq; omega) (by omega) (by omega), eo 13 r (by omega) (by omega) (by omega) (by omega)]; exact (pg4 r (by rw [eo 0 16 (by omega) (by omega) (by omega) (by omega)] at hr; exact hr)).1
    · rw [i1 _ _ (by omega) (by omega) (by unfold rq; omega) (by omega) (by omega), eo 14 r (by omega) (by omega) (by omega) (by omega)]; exact (pg4 r (by rw [eo 0 16 (by omega) (by omega) (by omega) (by omega)] at hr; exact hr)).2
    · rw [i1 _ _ (by omega) (by omega) (by unfold rq; omega) (by omega) (by omega), eo 0 19 (by omega) (by omega) (by omega) (by omega)]; exact ph1
    · have q28 : σ' 28 = σ 28 := funext fun k => eo 28 k (by omega) (by omega) (by omega) (by omega)
      rw [eo 0 37 (by omega) (by omega) (by omega) (by omega), q28]
      have : M9.2.1 x = Md.2.1 x := by rw [b5' x (by omega), (a2 x (by omega)).2.1, r11]
      rw [this]; exact ph3
    · intro k hk
      rw [eo 0 37 (by omega) (by omega) (by omega) (by omega)] at hk
      rw [eo 28 k (by omega) (by omega) (by omega) (by omega)]; exact ph4 k hk
    · rw [e03] at hm
      exact mks m hm (r1 _ _ (by omega) (by omega) (by omega) (by omega)) (fun b z1 z2 => k6 b (nz0 b z2).1 (nz0 b z2).2) (fun b k z1 z2 z3 => i1 b k (nz0 b z2).1 (nz0 b z2).2 (by unfold rq; omega) (by omega) (fun q => na8 b z3 q.1)) (fun b k z1 z2 => r1 b k (nz0 b z2).1 (nz0 b z2).2 (by omega) (by omega))
    · by_cases z : i = σ 0 9
      · subst z
        refine cFl_m.mpr ⟨sz + 1, ?_⟩
        rw [e03]; exact b2'
      · have hi' : i < σ 0 9 := by omega
        obtain ⟨c, hF⟩ := cFl_m.mp (pm2 i hi')
        refine cFl_m.mpr ⟨c, ?_⟩
        rw [e03]
        have hF' := hF
        obtain ⟨cb, w1, w2, w3, w4, -, -, -, -, -, w10, -⟩ := hF'
        have nc := nz0 c (by rw [w4]; decide)
        have mkk : ∀ m, m < σ 0 3 → σ' 3 m = σ 3 m ∧ σ' 4 m = σ 4 m ∧ σ' 5 m = σ 5 m ∧ σ' 6 m = σ 6 m ∧ ∀ k, k < σ 3 m → mF σ' m k = mF σ m k := fun m hm => ⟨eo 3 m (by omega) (by omega) (by omega) (by omega), eo 4 m (by omega) (by omega) (by omega) (by omega), eo 5 m (by omega) (by omega) (by omega) (by omega), eo 6 m (by omega) (by omega) (by omega) (by omega), fun k _ => eo 2 _ (by omega) (by omega) (by omega) (by omega)⟩
        refine cFm_ag2 hF (r1 _ _ (by omega) (by omega) (by omega) (by omega)) (fun b z1 z2 => k6 b (nz0 b z2).1 (nz0 b z2).2) (fun k zk => i1 c k nc.1 nc.2 (by unfold rq; omega) (by omega) (fun q => zk q.2)) (fun b k z1 z2 => ?_) (fun b k z1 z2 => r1 b k (nz0 b z2).1 (nz0 b z2).2 (by omega) (by omega)) mkk (cF' i hi') (by rw [e8, if_neg z]) (hV.2.2.2.1 i hi').1 (eo 9 i (by omega) (by omega) (by omega) (by omega)) (by rw [e10, if_neg z]) (ro' 40 i hi') ?_
        · have nb := nz0 b (fun q => by rw [q] at z2; cases z2)
          exact i1 b k nb.1 nb.2 (by unfold rq; omega) (by omega) (fun q => by rw [q.1, g1] at z2; cases z2)
        · rw [src' i hi']
          by_cases zf : i = f
          · refine Or.inl ⟨Or.inl zf, ?_⟩
            rw [zf, h1d] at w1
            cases w1
            exact a3'
          · have ca : c ≠ a := fun q => zf (pm4 i f hi' hf (by rw [w1, h1d, q]))
            rw [i1 c 3 nc.1 nc.2 (by unfold rq; omega) (by omega) (fun q => ca q.1)]
            rcases w10 with ⟨w10, w11⟩ | ⟨w10, w11⟩
            · exact Or.inl ⟨Or.inr w10, w11⟩
            · exact Or.inr ⟨fun q => q.elim zf w10, w11⟩
    · rw [eo 0 19 (by omega) (by omega) (by omega) (by omega)] at ht
      exact cTn_keep (pm3 t ht) (r1 _ _ (by omega) (by omega) (by omega) (by omega)) (fun b z1 z2 => k6 b (nz0 b z2).1 (nz0 b z2).2) (fun b k z1 z2 z3 => i1 b k (nz0 b z2).1 (nz0 b z2).2 (by unfold rq; omega) (by omega) (fun q => na8 b z3 q.1)) (fun c z1 z2 => eo c t (by omega) (by omega) (by omega) (by omega)) (eo 4 _ (by omega) (by omega) (by omega) (by omega))
    · have nsz : ∀ i, i < σ 0 9 → M9.2.2 (x + 6) i ≠ some (sz + 1) := fun i hi q => by
        rw [r1 _ _ (by omega) (by omega) (by omega) (by omega)] at q
        obtain ⟨c, cb, w1, w2, w3, w4, -⟩ := pm2 i hi
        rw [q] at w1
        cases w1
        rw [k1 (sz + 1) (by omega)] at w4
        cases w4
      obtain ⟨abn, n1, -⟩ := id b2'
      by_cases zi : i = σ 0 9
      · by_cases zj : j = σ 0 9
        · omega
        · rw [zi, n1] at e
          exact absurd e.symm (nsz j (by omega))
      · by_cases zj : j = σ 0 9
        · rw [zj, n1] at e
          exact absurd e (nsz i (by omega))
        · rw [r1 _ _ (by omega) (by omega) (by omega) (by omega), r1 _ _ (by omega) (by omega) (by omega) (by omega)] at e
          exact pm4 i j (by omega) (by omega) e
  -- the model
  have s2' : mS K6 M9 (x + 32) := mS_keep s2d (fun b z1 z2 => k6 b (by omega) (by omega)) (by funext k; exact r1 _ _ (by omega) (by omega) (by omega) (by omega))
  have p2' : mP M9 (x + 32) σ := mP_keep p2d (fun b k z1 z2 => i1 b k (by omega) (by omega) (by unfold rq; omega) (by omega) (by omega))
  obtain ⟨M5, q1, q2, q3⟩ := mpre s2' p2'
  rw [if_pos hk, if_neg hl, n_40, if_neg (fun q => hf40 (n_inj (b := 40) (by omega) (by omega) q))] at q3
  have hS5 := mE_S q1 s2'
  have hP5 := mG_P (mG_E q1) p2'
  obtain ⟨r, M3, z1, z2⟩ := m_turnB hS5 hP5 hV q2 hf hnf ht
  rw [hC] at z2
  rcases z2 with ⟨-, rfl, u2, u1, u7, u8, u10, u9⟩ | ⟨z2, -⟩
  rotate_left
  · omega
  obtain ⟨sc', pc'⟩ := c_other (M' := M3) sc pc ⟨fun b k z => (u1 b k (by omega)).trans (q1.2 b k (by unfold mq; omega)), u2.trans q1.1⟩
  refine ⟨_, sz + 1 + 1, K6, M9, M3, σ', y1, q3.trans z1, hV', sc', pc', mS_keep hS5 (fun _ _ _ => rfl) (by rw [u2]), ?_, fun b hb => by rw [k6 b (by omega) (by omega)]; exact k1 b (by omega), by omega⟩
  obtain ⟨h1, h2, h3, h4⟩ := hP5
  refine ⟨fun j hj => ?_, fun j hj => ?_, fun c j hc => ?_, fun j => ?_⟩
  · by_cases z2 : j = 9
    · subst z2; rw [e09]; exact u9
    · rw [u1 _ _ (by omega), eo 0 j (by omega) (by omega) (by omega) (by omega)]; exact h1 j hj
  · rw [u1 _ _ (by omega), eo 1 j (by omega) (by omega) (by omega) (by omega)]; exact h2 j hj
  · by_cases z7 : c = 7
    · subst z7
      rw [e7, u7 j]
      by_cases z : 60 * σ 0 9 ≤ j ∧ j < 60 * σ 0 9 + C.length
      · rw [if_pos z, if_pos z]
      · rw [if_neg z, if_neg z]; exact h3 7 j (by omega)
    · by_cases z8 : c = 8
      · subst z8
        rw [e8]
        by_cases z : j = σ 0 9
        · rw [if_pos z, z]; exact u8
        · rw [if_neg z, u1 _ _ (by omega)]; exact h3 8 j (by omega)
      · rw [u1 _ _ (by omega), eo c j z7 z8 (by omega) (by omega)]; exact h3 c j hc
  · rw [e10]
    by_cases z : j = σ 0 9
    · rw [if_pos z, z, kI_s]; exact u10
    · rw [if_neg z, u1 _ _ (by omega)]; exact h4 j
