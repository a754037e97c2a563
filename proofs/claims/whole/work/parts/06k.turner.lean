theorem andn {h d : Nat} (hh : h < 4096) : nI h &&& (nI d ^^^ (-1)) = nI (h &&& (4095 ^^^ d)) := by
  apply Int32.toBitVec_inj.1
  show BitVec.ofNat 32 h &&& (BitVec.ofNat 32 d ^^^ (-1 : Int32).toBitVec) = BitVec.ofNat 32 (h &&& (4095 ^^^ d))
  rw [show (-1 : Int32).toBitVec = BitVec.allOnes 32 by decide]
  apply BitVec.eq_of_getLsbD_eq
  intro i hi
  rw [BitVec.getLsbD_and, BitVec.getLsbD_xor, BitVec.getLsbD_ofNat, BitVec.getLsbD_ofNat, BitVec.getLsbD_ofNat, BitVec.getLsbD_allOnes, Nat.testBit_and, Nat.testBit_xor]
  by_cases z : i < 12
  · have e : Nat.testBit 4095 i = true := by
      rw [show (4095 : Nat) = 2 ^ 12 - 1 from rfl, Nat.testBit_two_pow_sub_one]; simpa using z
    rw [e]
    simp [hi, Bool.xor_comm]
  · have e : h.testBit i = false := Nat.testBit_lt_two_pow (Nat.lt_of_lt_of_le (show h < 2 ^ 12 from hh) (Nat.pow_le_pow_right (by omega) (show 12 ≤ i by omega)))
    rw [e]; simp
/-- TURNER -/
theorem op_turner {sz : Nat} {K : fh_K} {M : fh_M} {x : Nat} {σ : sT} (hI : Inv sz K M x σ) (v1 v2 v3 v4 v5 : Int32) : OpA sz K M x (fun sz K M x => f_X10_turner sz K M x v1 v2 v3 v4 v5) (fun K M y => f_X11_turner K M y v1 v2 v3 v4 v5) := by
  obtain ⟨hV, s1, p1, s2, p2, k1, k2⟩ := id hI
  have hv := hV.1
  have no : f_X10_turner sz K M x v1 v2 v3 v4 v5 = some (-1, sz, K, M) → f_X11_turner K M (x + 32) v1 v2 v3 v4 v5 = some (-1, M) → OpA sz K M x (fun sz K M x => f_X10_turner sz K M x v1 v2 v3 v4 v5) (fun K M y => f_X11_turner K M y v1 v2 v3 v4 v5) := fun a b => ⟨-1, sz, K, M, M, σ, a, b, hI⟩
  have mk : ∀ w, (f_X10_makeAt K M x w = some none ∧ f_X11_isMake K M (x + 32) w = some 0) ∨ ∃ m, m < σ 0 3 ∧ w = nI m := by
    intro w
    rcases pk_ix w (n := σ 0 3) (by omega) with h | h | ⟨m, hm, rfl⟩
    · exact Or.inl ⟨c_makeOut s1 p1 (Or.inl h), m_makeOut s2 p2 hV (Or.inl h)⟩
    · exact Or.inl ⟨c_makeOut s1 p1 (Or.inr h), m_makeOut s2 p2 hV (Or.inr h)⟩
    · exact Or.inr ⟨m, hm, rfl⟩
  have mkS : ∀ w, ∃ o, f_X10_makeAt K M x w = some o := by
    intro w
    rcases mk w with h | ⟨m, hm, rfl⟩
    · exact ⟨_, h.1⟩
    · exact ⟨_, c_makeIn s1 p1 hV hm⟩
  rcases mk v1 with ⟨c1, m1⟩ | ⟨a, ha, rfl⟩
  · obtain ⟨o, ho⟩ := mkS v2
    refine no ?_ ?_
    · unfold f_X10_turner; rw [co s1, ho, c1]; rfl
    · unfold f_X11_turner; rw [mo s2, m1]; rfl
  obtain ⟨aa, aak, ea, -⟩ := p1.2.2.2.2.2.2.1 a ha
  rcases mk v2 with ⟨c1, m1⟩ | ⟨b, hb, rfl⟩
  · refine no ?_ ?_
    · unfold f_X10_turner; rw [co s1, c1, c_makeIn s1 p1 hV ha, ea]; rfl
    · unfold f_X11_turner; rw [mo s2, m_makeIn s2 p2 hV ha, m1]; rfl
  obtain ⟨bb, bbk, eb, hbx, -, hkb, -⟩ := p1.2.2.2.2.2.2.1 b hb
  have cpre : f_X10_turner sz K M x (nI a) (nI b) v3 v4 v5 = if nI a = nI b then some (-1, sz, K, M) else (f_X10_areProperties K M v3).bind fun r4 => if r4 = 0 then some (-1, sz, K, M) else if v4 < 0 then some (-1, sz, K, M) else if 9999 < v4 then some (-1, sz, K, M) else (f_X1_knows K M (x + 7) v5).bind fun r6 => if r6 = 0 then some (-1, sz, K, M) else fc4 (f_X9_add sz K M (x + 13) (nI a) (nI b) (nI (σ 4 b) &&& (v3 ^^^ (-1))) v4 v5) fun r9 w12 K11 M10 => some (r9, w12, K11, M10) := by
    unfold f_X10_turner
    rw [co s1, c_makeIn s1 p1 hV hb, c_makeIn s1 p1 hV ha, ea, eb]
    simp only [Option.bind_some]
    rw [if_neg (fun q => by cases q), if_neg (fun q => by cases q), cr0_4 s1, fo_ok (ck7 s1), fo_ok hkb.1, cr0_6 s1, fo_ok (ck13 s1), hkb.2.2.2.1]
  have mpre : ∀ (K' : fh_K) (M1 : fh_M), mS K' M1 (x + 32) → mP M1 (x + 32) σ → f_X11_turner K' M1 (x + 32) (nI a) (nI b) v3 v4 v5 = if nI a = nI b then some (-1, M1) else (f_X11_lies K' M1 v3 0 4095).bind fun r4 => if r4 = 0 then some (-1, M1) else (f_X11_lies K' M1 v4 0 9999).bind fun r5 => if r5 = 0 then some (-1, M1) else (f_X11_isMachine K' M1 v5).bind fun r6 => if r6 = 0 then some (-1, M1) else if nI (σ 0 19) = 24 then some (-1, M1) else some (nI (σ 0 19), fh_si (fh_si (fh_si (fh_si (fh_si (fh_si M1 (x + 32 + 15) (σ 0 19) (nI a)) (x + 32 + 16) (σ 0 19) (nI b)) (x + 32 + 17) (σ 0 19) v3) (x + 32 + 18) (σ 0 19) v4) (x + 32 + 19) (σ 0 19) v5) (x + 32) 19 (nI (σ 0 19 + 1))) := by
    intro K' M1 hS1 hP1
    have q0 : M1.1 (x + 32) 19 = nI (σ 0 19) := mP_s hP1 19 (by omega)
    unfold f_X11_turner
    rw [mo hS1, m_makeIn hS1 hP1 hV ha, m_makeIn hS1 hP1 hV hb, q0]
    simp only [Option.bind_some]
    rw [if_neg (show ¬ (1 : Int32) = 0 by decide), if_neg (show ¬ (1 : Int32) = 0 by decide)]
    by_cases full : nI (σ 0 19) = 24
    · simp only [if_pos full]
    · have lt : σ 0 19 < 24 := by
        rcases Nat.lt_or_ge (σ 0 19) 24 with z | z
        · exact z
        · exact absurd (show nI (σ 0 19) = 24 by rw [show σ 0 19 = 24 by omega]; rfl) full
      simp only [if_neg full]
      have z1 : (fh_si M1 (x + 32 + 15) (σ 0 19) (nI a)).1 (x + 32) 19 = nI (σ 0 19) := by rw [fh_si_1, if_neg (by omega)]; exact q0
      have z2 : (fh_si (fh_si M1 (x + 32 + 15) (σ 0 19) (nI a)) (x + 32 + 16) (σ 0 19) (nI b)).1 (x + 32) 19 = nI (σ 0 19) := by rw [fh_si_1, if_neg (by omega)]; exact z1
      have z3 : (fh_si (fh_si (fh_si M1 (x + 32 + 15) (σ 0 19) (nI a)) (x + 32 + 16) (σ 0 19) (nI b)) (x + 32 + 17) (σ 0 19) v3).1 (x + 32) 19 = nI (σ 0 19) := by rw [fh_si_1, if_neg (by omega)]; exact z2
      have z4 : (fh_si (fh_si (fh_si (fh_si M1 (x + 32 + 15) (σ 0 19) (nI a)) (x + 32 + 16) (σ 0 19) (nI b)) (x + 32 + 17) (σ 0 19) v3) (x + 32 + 18) (σ 0 19) v4).1 (x + 32) 19 = nI (σ 0 19) := by rw [fh_si_1, if_neg (by omega)]; exact z3
      have z5 : (fh_si (fh_si (fh_si (fh_si (fh_si M1 (x + 32 + 15) (σ 0 19) (nI a)) (x + 32 + 16) (σ 0 19) (nI b)) (x + 32 + 17) (σ 0 19) v3) (x + 32 + 18) (σ 0 19) v4) (x + 32 + 19) (σ 0 19) v5).1 (x + 32) 19 = nI (σ 0 19) := by rw [fh_si_1, if_neg (by omega)]; exact z4
      rw [mi20 hS1 rfl lt, fb_eq, cl_n (by omega), mi21 (mS_si hS1 _ _ _) z1 lt, fb_eq, z1, cl_n (by omega), mi22 (mS_si (mS_si hS1 _ _ _) _ _ _) z2 lt, fb_eq, z2, cl_n (by omega), mi23 (mS_si (mS_si (mS_si hS1 _ _ _) _ _ _) _ _ _) z3 lt, fb_eq, z3, cl_n (by omega), mi24 (mS_si (mS_si (mS_si (mS_si hS1 _ _ _) _ _ _) _ _ _) _ _ _) z4 lt, fb_eq, z4, cl_n (by omega), fb_eq, z5, nI_1]
      have z6 : (fh_si (fh_si (fh_si (fh_si (fh_si (fh_si M1 (x + 32 + 15) (σ 0 19) (nI a)) (x + 32 + 16) (σ 0 19) (nI b)) (x + 32 + 17) (σ 0 19) v3) (x + 32 + 18) (σ 0 19) v4) (x + 32 + 19) (σ 0 19) v5) (x + 32) 19 (nI (σ 0 19 + 1))).1 (x + 32) 19 - 1 = nI (σ 0 19) := by rw [fh_si_1, if_pos ⟨rfl, rfl⟩, n_1, n_m (by omega)]; rfl
      rw [z6]
  by_cases hab : a = b
  · refine no ?_ ?_
    · rw [cpre, if_pos (by rw [hab])]
    · rw [mpre K M s2 p2, if_pos (by rw [hab])]
  have nab : ¬ nI a = nI b := fun q => hab (n_inj (by omega) (by omega) q)
  rw [if_neg nab] at cpre
  simp only [if_neg nab] at mpre
  rcases nrange (v := v3) (n := 4095) (by omega) with h | ⟨d, hd, rfl⟩
  · refine no ?_ ?_
    · rw [cpre, c_propOut h]; rfl
    · rw [mpre K M s2 p2, n_4095, m_liesOut h]; rfl
  rw [c_propIn hd] at cpre
  simp only [Option.bind_some] at cpre
  rw [if_neg (show ¬ (1 : Int32) = 0 by decide)] at cpre
  simp only [n_4095, m_liesIn (show 4095 ≤ 65536 by omega) hd, Option.bind_some, show ¬ (1 : Int32) = 0 by decide, if_false] at mpre
  rcases nrange (v := v4) (n := 9999) (by omega) with h | ⟨p, hp, rfl⟩
  · refine no ?_ ?_
    · rw [cpre]
      by_cases z : v4 < 0
      · rw [if_pos z]
      · rw [if_neg z, n_9999, if_pos (h.resolve_left z)]
    · rw [mpre K M s2 p2, n_9999, m_liesOut h]; rfl
  rw [if_neg (nI_pos (by omega)), n_9999, if_neg (nI_nlt hp (by omega))] at cpre
  simp only [n_9999, m_liesIn (show 9999 ≤ 65536 by omega) hp, Option.bind_some, show ¬ (1 : Int32) = 0 by decide, if_false] at mpre
  have badm : (v5 < 0 ∨ nI 8 ≤ v5) → OpA sz K M x (fun sz K M x => f_X10_turner sz K M x (nI a) (nI b) (nI d) (nI p) v5) (fun K M y => f_X11_turner K M y (nI a) (nI b) (nI d) (nI p) v5) := by
    intro h
    refine no ?_ ?_
    · rw [cpre, c_machOut h]; rfl
    · rw [mpre K M s2 p2, m_machOut h]; rfl
  rcases pk_ix v5 (n := 8) (by omega) with h | h | ⟨w, hw, rfl⟩
  · exact badm (Or.inl h)
  · exact badm (Or.inr h)
  rw [c_machIn hw] at cpre
  simp only [Option.bind_some] at cpre
  rw [if_neg (show ¬ (1 : Int32) = 0 by decide), andn (hV.2.2.1 b hb).2.2.1] at cpre
  simp only [m_machIn hw, Option.bind_some, show ¬ (1 : Int32) = 0 by decide, if_false] at mpre
  by_cases full : σ 0 19 = 24
  · refine no ?_ ?_
    · rw [cpre]; unfold f_X9_add
      rw [fo_ok (ck13 s1), p1.2.2.2.2.1, full, if_neg (show ¬ nI 24 < 24 by decide)]; rfl
    · rw [mpre K M s2 p2, full, if_pos (show nI 24 = 24 from rfl)]
  have lt : σ 0 19 < 24 := by omega
  have hksz : K sz = (0, 0) := k1 sz (Nat.le_refl _)
  generalize hK' : fh_uk K sz (9, 0) = K'
  have k's : K' sz = (9, 0) := by rw [← hK']; exact uk_s _ _ _
  have k' : ∀ q, q ≠ sz → K' q = K q := fun q h => by rw [← hK']; exact uk_o _ _ _ h
  have nz : ∀ q, K q ≠ (0, 0) → q ≠ sz := fun q h e => h (by rw [e]; exact hksz)
  generalize hcr : σ 4 b &&& (4095 ^^^ d) = cr at cpre
  obtain ⟨M5, t1, t2, t3, t4, t5, t6, t7⟩ : ∃ M5, f_X8_init K' (fh_clr M sz) sz (nI a) (nI b) (nI cr) (nI p) (nI w) = some M5 ∧ fr sz M M5 ∧ M5.1 sz 0 = nI a ∧ M5.1 sz 1 = nI b ∧ M5.1 sz 2 = nI cr ∧ M5.1 sz 3 = nI p ∧ M5.1 sz 4 = nI w := by
    unfold f_X8_init
    rw [fo_ok k's]
    simp only [fb_eq]
    refine ⟨_, rfl, fr_tr (fr_clr sz M) (fr_tr (fr_tr (fr_tr (fr_tr fr_si fr_si) fr_si) fr_si) fr_si), ?_, ?_, ?_, ?_, ?_⟩
    all_goals simp [fh_si_1]
  have y1 : f_X10_turner sz K M x (nI a) (nI b) (nI d) (nI p) (nI w) = some (nI (σ 0 19), sz + 1, K', fh_si (fh_sr M5 (x + 14) (σ 0 19) (some sz)) (x + 13) 1 (nI (σ 0 19 + 1))) := by
    rw [cpre]; unfold f_X9_add
    have q13 : (fh_sr M5 (x + 14) (σ 0 19) (some sz)).1 (x + 13) 1 = nI (σ 0 19) := by rw [fh_sr_1, (t2 (x + 13) (by omega)).1]; exact p1.2.2.2.2.1
    rw [fo_ok (ck13 s1), p1.2.2.2.2.1, n_24, if_pos (nI_lt lt (by omega)), fb_eq, fb_eq, show (8 + 1, 0) = ((9, 0) : Nat × Nat) from rfl, hK', t1]
    simp only [Option.bind_some]
    rw [cr13_0 s1, fi_ok (by rw [k' _ (by omega)]; exact ck14 s1) rfl lt (by omega), fo_ok k's, fb_eq, cl_n (by omega), fo_ok (ci := 9) (n := 0) (by rw [k' _ (by omega)]; exact ck13 s1), fb_eq, q13, nI_1, fh_si_1, if_pos ⟨rfl, rfl⟩, n_1, n_m (by omega)]
    rfl
  generalize hM1 : fh_si (fh_sr M5 (x + 14) (σ 0 19) (some sz)) (x + 13) 1 (nI (σ 0 19 + 1)) = M1 at y1
  have i1 : ∀ q k, q ≠ sz → ¬ (q = x + 13 ∧ k = 1) → M1.1 q k = M.1 q k := fun q k z1 z2 => by rw [← hM1, fh_si_1, if_neg z2, fh_sr_1, (t2 q z1).1]
  have r1 : ∀ q k, q ≠ sz → ¬ (q = x + 14 ∧ k = σ 0 19) → M1.2.2 q k = M.2.2 q k := fun q k z1 z2 => by rw [← hM1, fh_si_22, fh_sr_22, if_neg z2, (t2 q z1).2.2]
  have j1 : ∀ q, q ≠ sz → M1.2.1 q = M.2.1 q := fun q z => by rw [← hM1, fh_si_21, fh_sr_21, (t2 q z).2.1]
  have is : ∀ k, M1.1 sz k = M5.1 sz k := fun k => by rw [← hM1, fh_si_1, if_neg (by omega), fh_sr_1]
  generalize hσ : fh_u (fh_u (fh_u (fh_u (fh_u (fh_u σ 15 (σ 0 19) a) 16 (σ 0 19) b) 17 (σ 0 19) d) 18 (σ 0 19) p) 19 (σ 0 19) w) 0 19 (σ 0 19 + 1) = σ'
  have eo : ∀ c j, ¬ (15 ≤ c ∧ c ≤ 19 ∧ j = σ 0 19) → ¬ (c = 0 ∧ j = 19) → σ' c j = σ c j := fun c j z1 z2 => by
    rw [← hσ, fh_u_o _ _ _ _ (by omega), fh_u_o _ _ _ _ (by omega), fh_u_o _ _ _ _ (by omega), fh_u_o _ _ _ _ (by omega), fh_u_o _ _ _ _ (by omega), fh_u_o _ _ _ _ (by omega)]
  have e19 : σ' 0 19 = σ 0 19 + 1 := by rw [← hσ, fh_u_s]
  have n15 : σ' 15 (σ 0 19) = a := by rw [← hσ, fh_u_o _ _ _ _ (by omega), fh_u_o _ _ _ _ (by omega), fh_u_o _ _ _ _ (by omega), fh_u_o _ _ _ _ (by omega), fh_u_o _ _ _ _ (by omega), fh_u_s]
  have n16 : σ' 16 (σ 0 19) = b := by rw [← hσ, fh_u_o _ _ _ _ (by omega), fh_u_o _ _ _ _ (by omega), fh_u_o _ _ _ _ (by omega), fh_u_o _ _ _ _ (by omega), fh_u_s]
  have n17 : σ' 17 (σ 0 19) = d := by rw [← hσ, fh_u_o _ _ _ _ (by omega), fh_u_o _ _ _ _ (by omega), fh_u_o _ _ _ _ (by omega), fh_u_s]
  have n18 : σ' 18 (σ 0 19) = p := by rw [← hσ, fh_u_o _ _ _ _ (by omega), fh_u_o _ _ _ _ (by omega), fh_u_s]
  have n19 : σ' 19 (σ 0 19) = w := by rw [← hσ, fh_u_o _ _ _ _ (by omega), fh_u_s]
  have e0 : ∀ k, k ≠ 19 → σ' 0 k = σ 0 k := fun k h => eo 0 k (by omega) (by omega)
  have hV' : Val σ' := by
    obtain ⟨v0, v1, v2, v3, v4, v5, v6, v7⟩ := id hV
    refine ⟨⟨by rw [e0 _ (by omega)]; omega, by rw [e0 _ (by omega)]; omega, by rw [e0 _ (by omega)]; omega, by rw [e0 _ (by omega)]; omega, by rw [e0 _ (by omega)]; omega, by omega, by rw [e0 _ (by omega)]; omega⟩, fun j => ?_, fun m hm => ?_, fun f hf => ?_, fun f hf => ?_, fun j hj => ?_, fun r hr => ?_, fun t ht => ?_⟩
    · rw [eo _ _ (by omega) (by omega), eo _ _ (by omega) (by omega), eo _ _ (by omega) (by omega)]; exact v1 j
    · rw [e0 _ (by omega)] at hm; rw [eo 3 _ (by omega) (by omega), eo 4 _ (by omega) (by omega), eo 5 _ (by omega) (by omega), eo 6 _ (by omega) (by omega)]; exact v2 m hm
    · rw [e0 _ (by omega)] at hf; rw [eo 8 _ (by omega) (by omega), eo 9 _ (by omega) (by omega), eo 10 _ (by omega) (by omega)]; exact v3 f hf
    · rw [e0 _ (by omega)] at hf; rw [eo 9 _ (by omega) (by omega)]; exact v4 f hf
    · rw [eo 11 _ (by omega) (by omega), eo 12 _ (by omega) (by omega)]; exact v5 j hj
    · rw [e0 _ (by omega)] at hr; rw [e0 _ (by omega), eo 13 _ (by omega) (by omega), eo 14 _ (by omega) (by omega)]; exact v6 r hr
    · rw [e0 3 (by omega)]
      by_cases z : t = σ 0 19
      · rw [z, n15, n16, n17, n18, n19]; omega
      · rw [eo 15 _ (by omega) (by omega), eo 16 _ (by omega) (by omega), eo 17 _ (by omega) (by omega), eo 18 _ (by omega) (by omega), eo 19 _ (by omega) (by omega)]; exact v7 t (by omega)
  have sc : cS K' M1 x := cS_keep s1 (fun q z1 z2 => k' q (by omega)) (fun q k z1 z2 _ z4 => r1 q k (by omega) (by omega))
  have pc : cP K' M1 x σ' := by
    obtain ⟨⟨c1, c2, c3⟩, ⟨d1, d2⟩, f1, ⟨g3, g4⟩, h1, ⟨pp, h2, h3, h4⟩, m1, m2, m3, m4⟩ := id p1
    refine ⟨⟨?_, ?_, ?_⟩, ⟨?_, fun k hk => ?_⟩, fun j hj => ⟨?_, ?_⟩, ⟨?_, fun r hr => ⟨?_, ?_⟩⟩, ?_, ⟨pp, h2, ?_, ?_⟩, fun m hm => ?_, fun i hi => ?_, fun t ht => ?_, fun i j hi hj e => ?_⟩
    · rw [i1 _ _ (by omega) (by omega), e0 _ (by omega)]; exact c1
    · rw [i1 _ _ (by omega) (by omega), e0 _ (by omega)]; exact c2
    · rw [i1 _ _ (by omega) (by omega), e0 _ (by omega)]; exact c3
    · rw [i1 _ _ (by omega) (by omega), e0 _ (by omega)]; exact d1
    · rw [e0 _ (by omega)] at hk; rw [i1 _ _ (by omega) (by omega), eo _ _ (by omega) (by omega)]; exact d2 k hk
    · rw [i1 _ _ (by omega) (by omega), eo _ _ (by omega) (by omega)]; exact (f1 j hj).1
    · rw [i1 _ _ (by omega) (by omega), eo _ _ (by omega) (by omega)]; exact (f1 j hj).2
    · rw [i1 _ _ (by omega) (by omega), e0 _ (by omega)]; exact g3
    · rw [e0 _ (by omega)] at hr; rw [i1 _ _ (by omega) (by omega), eo _ _ (by omega) (by omega)]; exact (g4 r hr).1
    · rw [e0 _ (by omega)] at hr; rw [i1 _ _ (by omega) (by omega), eo _ _ (by omega) (by omega)]; exact (g4 r hr).2
    · rw [← hM1, fh_si_1, if_pos ⟨rfl, rfl⟩, e19]
    · have q28 : σ' 28 = σ 28 := funext fun k => eo 28 k (by omega) (by omega)
      rw [e0 37 (by omega), q28, j1 x (by omega)]; exact h3
    · intro k hk
      rw [e0 37 (by omega)] at hk
      rw [eo 28 k (by omega) (by omega)]; exact h4 k hk
    · rw [e0 _ (by omega)] at hm
      exact cMk_keep (m1 m hm) (r1 _ _ (by omega) (by omega)) (fun q z1 z2 => k' q (nz q z2)) (fun q k z1 z2 _ => i1 q k (nz q z2) (by omega)) (fun q k z1 z2 => r1 q k (nz q z2) (by omega)) (eo 3 m (by omega) (by omega)) (eo 4 m (by omega) (by omega)) (eo 5 m (by omega) (by omega)) (eo 6 m (by omega) (by omega)) (fun k _ => eo 2 _ (by omega) (by omega))
    · rw [e0 _ (by omega)] at hi
      obtain ⟨aa, hF⟩ := cFl_m.mp (m2 i hi)
      refine cFl_m.mpr ⟨aa, ?_⟩
      rw [e0 3 (by omega)]
      have hF' := hF
      obtain ⟨ab, -, w2, w3, w4, -⟩ := hF'
      refine cFm_ag hF (r1 _ _ (by omega) (by omega)) (fun q z1 z2 => k' q (nz q z2)) (fun k => i1 aa k (nz aa (by rw [w4]; decide)) (by omega)) (fun q k z1 z2 => i1 q k (nz q (fun e => by rw [e] at z2; cases z2)) (by omega)) (fun q k z1 z2 => r1 q k (nz q z2) (by omega)) (fun m hm => ⟨eo 3 m (by omega) (by omega), eo 4 m (by omega) (by omega), eo 5 m (by omega) (by omega), eo 6 m (by omega) (by omega), fun k _ => eo 2 _ (by omega) (by omega)⟩) (fun k _ => eo 7 _ (by omega) (by omega)) (eo 8 i (by omega) (by omega)) (hV.2.2.2.1 i hi).1 (eo 9 i (by omega) (by omega)) (eo 10 i (by omega) (by omega)) (root_ag (fun j => eo 10 j (by omega) (by omega)) 40 i) (by rw [isSrc_ag (fun j => eo 10 j (by omega) (by omega)) (e0 9 (by omega))])
    · by_cases z : t = σ 0 19
      · subst z
        refine ⟨sz, by rw [← hM1, fh_si_22, fh_sr_22, if_pos ⟨rfl, rfl⟩], k2, k's, ?_, ?_, ?_, ?_, ?_⟩
        · rw [is, n15]; exact t3
        · rw [is, n16]; exact t4
        · unfold carr
          rw [is, n16, n17, eo 4 _ (by omega) (by omega), hcr]; exact t5
        · rw [is, n18]; exact t6
        · rw [is, n19]; exact t7
      · have ht' : t < σ 0 19 := by omega
        exact cTn_keep (m3 t ht') (r1 _ _ (by omega) (by omega)) (fun q z1 z2 => k' q (nz q z2)) (fun q k z1 z2 _ => i1 q k (nz q z2) (by omega)) (fun c z1 z2 => eo c t (by omega) (by omega)) (eo 4 _ (by omega) (by omega))
    · rw [e0 _ (by omega)] at hi hj
      rw [r1 _ _ (by omega) (by omega), r1 _ _ (by omega) (by omega)] at e
      exact m4 i j hi hj e
  have s2' : mS K' M1 (x + 32) := mS_keep s2 (fun q z1 z2 => k' q (by omega)) (by funext k; exact r1 _ _ (by omega) (by omega))
  have p2' : mP M1 (x + 32) σ := mP_keep p2 (fun q k z1 z2 => i1 q k (by omega) (by omega))
  have y2 := mpre K' M1 s2' p2'
  rw [n_24, if_neg (fun q => full (n_inj (b := 24) (by omega) (by omega) q))] at y2
  generalize hM3 : fh_si (fh_si (fh_si (fh_si (fh_si (fh_si M1 (x + 32 + 15) (σ 0 19) (nI a)) (x + 32 + 16) (σ 0 19) (nI b)) (x + 32 + 17) (σ 0 19) (nI d)) (x + 32 + 18) (σ 0 19) (nI p)) (x + 32 + 19) (σ 0 19) (nI w)) (x + 32) 19 (nI (σ 0 19 + 1)) = M3 at y2
  have u2 : M3.2 = M1.2 := by rw [← hM3]; rfl
  have u1 : ∀ q k, ¬ (x + 47 ≤ q ∧ q ≤ x + 51 ∧ k = σ 0 19) → ¬ (q = x + 32 ∧ k = 19) → M3.1 q k = M1.1 q k := fun q k z1 z2 => by
    rw [← hM3, fh_si_1, if_neg (by omega), fh_si_1, if_neg (by omega), fh_si_1, if_neg (by omega), fh_si_1, if_neg (by omega), fh_si_1, if_neg (by omega), fh_si_1, if_neg (by omega)]
  obtain ⟨sc', pc'⟩ := c_other (M' := M3) sc pc ⟨fun q k z => u1 q k (by omega) (by omega), u2⟩
  refine ⟨_, sz + 1, K', M1, M3, σ', y1, y2, hV', sc', pc', mS_keep s2' (fun _ _ _ => rfl) (by rw [u2]), ?_, fun q hq => by rw [k' q (by omega)]; exact k1 q (by omega), by omega⟩
  obtain ⟨h1, h2, h3, h4⟩ := p2'
  refine ⟨fun j hj => ?_, fun j hj => ?_, fun c j hc => ?_, fun j => ?_⟩
  · by_cases z : j = 19
    · subst z; rw [← hM3, fh_si_1, if_pos ⟨rfl, rfl⟩, e19]
    · rw [u1 _ _ (by omega) (by omega), e0 j z]; exact h1 j hj
  · rw [u1 _ _ (by omega) (by omega), eo 1 j (by omega) (by omega)]; exact h2 j hj
  · by_cases z : 15 ≤ c ∧ c ≤ 19 ∧ j = σ 0 19
    · obtain ⟨z1, z2, rfl⟩ := z
      rcases (show c = 15 ∨ c = 16 ∨ c = 17 ∨ c = 18 ∨ c = 19 by omega) with rfl | rfl | rfl | rfl | rfl
      · rw [n15, ← hM3, fh_si_1, if_neg (by omega), fh_si_1, if_neg (by omega), fh_si_1, if_neg (by omega), fh_si_1, if_neg (by omega), fh_si_1, if_neg (by omega), fh_si_1, if_pos ⟨rfl, rfl⟩]
      · rw [n16, ← hM3, fh_si_1, if_neg (by omega), fh_si_1, if_neg (by omega), fh_si_1, if_neg (by omega), fh_si_1, if_neg (by omega), fh_si_1, if_pos ⟨rfl, rfl⟩]
      · rw [n17, ← hM3, fh_si_1, if_neg (by omega), fh_si_1, if_neg (by omega), fh_si_1, if_neg (by omega), fh_si_1, if_pos ⟨rfl, rfl⟩]
      · rw [n18, ← hM3, fh_si_1, if_neg (by omega), fh_si_1, if_neg (by omega), fh_si_1, if_pos ⟨rfl, rfl⟩]
      · rw [n19, ← hM3, fh_si_1, if_neg (by omega), fh_si_1, if_pos ⟨rfl, rfl⟩]
    · rw [u1 _ _ (by omega) (by omega), eo c j z (by omega)]; exact h3 c j hc
  · rw [u1 _ _ (by omega) (by omega), eo 10 j (by omega) (by omega)]; exact h4 j
