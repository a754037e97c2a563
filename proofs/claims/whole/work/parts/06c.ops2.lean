def OpR (sz : Nat) (K : fh_K) (M : fh_M) (x : Nat) (cf : fh_K → fh_M → Nat → Option Int32) (mf : fh_K → fh_M → Nat → Option (Int32 × fh_M)) : Prop := ∃ r M2 σ', cf K M x = some r ∧ mf K M (x + 32) = some (r, M2) ∧ Inv sz K M2 x σ'
/-- KNOW -/
theorem op_know {sz : Nat} {K : fh_K} {M : fh_M} {x : Nat} {σ : sT} (hI : Inv sz K M x σ) (v : Int32) : OpR sz K M x (fun K M x => f_X10_know K M x v) (fun K M y => f_X11_know K M y v) := by
  obtain ⟨hV, s1, p1, s2, p2, k1, k2⟩ := id hI
  have hv := hV.1
  have bad : (v < 0 ∨ nI (σ 0 9) ≤ v) → OpR sz K M x (fun K M x => f_X10_know K M x v) (fun K M y => f_X11_know K M y v) := by
    intro h
    refine ⟨-1, M, σ, ?_, ?_, hI⟩
    · show f_X10_know K M x v = _
      unfold f_X10_know; rw [co s1, c_fileOut s1 p1 h]; rfl
    · show f_X11_know K M (x + 32) v = _
      unfold f_X11_know; rw [mo s2, m_fileOut s2 p2 hV h]; rfl
  rcases pk_ix v (n := σ 0 9) (by omega) with h | h | ⟨i, hi, rfl⟩
  · exact bad (Or.inl h)
  · exact bad (Or.inr h)
  · obtain ⟨a, ab, h1, h2, h3, g1, g2, g3, g4, g5, g6, g7, g8, g9, -⟩ := p1.2.2.2.2.2.2.2.1 i hi
    obtain ⟨M2, q1, q2, -⟩ := m_knows s2 p2 hV hi
    refine ⟨kI (sK σ i), M2, σ, ?_, ?_, Inv_mG hI (mG_E q2)⟩
    · show f_X10_know K M x (nI i) = _
      unfold f_X10_know
      rw [co s1, c_fileIn s1 p1 hV hi, h1]
      simp only [Option.bind_some]
      rw [if_neg (fun q => by cases q), fo_ok g1, g9]
    · show f_X11_know K M (x + 32) (nI i) = _
      unfold f_X11_know
      rw [mo s2, m_fileIn s2 p2 hV hi]
      simp only [Option.bind_some]
      rw [if_neg (show ¬ (1 : Int32) = 0 by decide), q1]
      rfl
/-- the class reads a file of the house by a make of the house -/
theorem s_readBy {K : fh_K} {M : fh_M} {x r : Nat} {σ : sT} {i m a ab : Nat} (hV : Val σ) (s1 : cS K M x) (p1 : cP K M x σ) (hr : r = x + 22 ∨ r = x + 27) (hi : i < σ 0 9) (hm : m < σ 0 3) (h1 : M.2.2 (x + 6) i = some a) (g2 : M.2.2 a 0 = some ab) :
    ∃ M', f_X4_readBy K M r (M.2.2 (x + 5) m) (some ab) = some M' ∧ rE r M M' ∧ M'.2.2 r 3 = some ab ∧ ((sMk σ i m ∧ rOut M M' r (sL σ i m) (sB σ i m)) ∨ (¬ sMk σ i m ∧ M'.1 r 4 = nI 0 ∧ M'.1 r 5 = nI 0 ∧ M'.1 r 6 = -2)) := by
  obtain ⟨am, ak, e1, e2, e3, hk, -⟩ := p1.2.2.2.2.2.2.1 m hm
  obtain ⟨a', ab', d1, d2, d3, -, d5, d6, d7, -⟩ := p1.2.2.2.2.2.2.2.1 i hi
  cases h1.symm.trans d1
  cases g2.symm.trans d5
  obtain ⟨v0, v1, v2, v3, -⟩ := hV
  obtain ⟨b1, b2, b3, b4, b5⟩ := v2 m hm
  obtain ⟨c1, c2, -⟩ := v3 i hi
  rw [e1]
  have hS : rS K M r := by rcases hr with rfl | rfl; exact cS_rd s1; exact cS_ro s1
  exact c_readBy hS hk d6 b3 (fun k => (v1 _).2.2) (fun k => (v1 _).2.1) c2 b1 b2 b4 d7 (by omega)
/-- BENDS -/
theorem op_bends {sz : Nat} {K : fh_K} {M : fh_M} {x : Nat} {σ : sT} (hI : Inv sz K M x σ) (v w : Int32) : Op sz K M x (fun K M x => f_X10_bends K M x v w) (fun K M y => f_X11_bends K M y v w) := by
  obtain ⟨hV, s1, p1, s2, p2, k1, k2⟩ := id hI
  have hv := hV.1
  -- the makes
  have mk : ∀ w, (f_X10_makeAt K M x w = some none ∧ f_X11_isMake K M (x + 32) w = some 0) ∨ ∃ m, m < σ 0 3 ∧ w = nI m := by
    intro w
    rcases pk_ix w (n := σ 0 3) (by omega) with h | h | ⟨m, hm, rfl⟩
    · exact Or.inl ⟨c_makeOut s1 p1 (Or.inl h), m_makeOut s2 p2 hV (Or.inl h)⟩
    · exact Or.inl ⟨c_makeOut s1 p1 (Or.inr h), m_makeOut s2 p2 hV (Or.inr h)⟩
    · exact Or.inr ⟨m, hm, rfl⟩
  have mkS : ∀ w, ∃ o, f_X10_makeAt K M x w = some o := by
    intro w
    rcases mk w with h | ⟨m, hm, rfl⟩
    · exact ⟨_, h.1⟩
    · exact ⟨_, c_makeIn s1 p1 hV hm⟩
  have bad : (v < 0 ∨ nI (σ 0 9) ≤ v) → Op sz K M x (fun K M x => f_X10_bends K M x v w) (fun K M y => f_X11_bends K M y v w) := by
    intro h
    obtain ⟨o, ho⟩ := mkS w
    refine ⟨-1, M, M, σ, ?_, ?_, hI⟩
    · show f_X10_bends K M x v w = _
      unfold f_X10_bends; rw [co s1, c_fileOut s1 p1 h, ho]; rfl
    · show f_X11_bends K M (x + 32) v w = _
      unfold f_X11_bends; rw [mo s2, m_fileOut s2 p2 hV h]; rfl
  rcases pk_ix v (n := σ 0 9) (by omega) with h | h | ⟨i, hi, rfl⟩
  · exact bad (Or.inl h)
  · exact bad (Or.inr h)
  · obtain ⟨a, ab, h1, h2, h3, g1, g2, -⟩ := p1.2.2.2.2.2.2.2.1 i hi
    rcases mk w with ⟨e1, e2⟩ | ⟨m, hm, rfl⟩
    · refine ⟨-1, M, M, σ, ?_, ?_, hI⟩
      · show f_X10_bends K M x (nI i) w = _
        unfold f_X10_bends; rw [co s1, c_fileIn s1 p1 hV hi, e1, h1]; rfl
      · show f_X11_bends K M (x + 32) (nI i) w = _
        unfold f_X11_bends; rw [mo s2, m_fileIn s2 p2 hV hi, e2]; rfl
    · obtain ⟨M1, q1, q2, q3, q4⟩ := s_readBy hV s1 p1 (Or.inl rfl) hi hm h1 g2
      have hI1 := Inv_cG hI (cG_rd q2)
      obtain ⟨-, s1', p1', s2', p2', -⟩ := id hI1
      obtain ⟨M2, z1, z2⟩ := s_reads s2' p2' hV hi hm
      have c1 : f_X10_bends K M x (nI i) (nI m) = some (M1.1 (x + 22) 6, M1) := by
        unfold f_X10_bends
        rw [co s1, c_fileIn s1 p1 hV hi, c_makeIn s1 p1 hV hm, h1]
        simp only [Option.bind_some]
        obtain ⟨am, ak, em, -⟩ := p1.2.2.2.2.2.2.1 m hm
        rw [if_neg (fun q => by cases q), if_neg (fun q => by rw [em] at q; cases q), fo_ok g1, cr0_9 s1, fo_ok (ck22 s1), g2, q1]
        simp only [Option.bind_some]
        rw [cr0_9 s1', fo_ok (ck22 s1')]
      have m1 : f_X11_bends K M1 (x + 32) (nI i) (nI m) = fc2 (f_X11_reads K M1 (x + 32) (nI i) (nI m)) fun r4 M5 => if r4 = 0 then some (-2, M5) else some (M5.1 (x + 32) 26, M5) := by
        unfold f_X11_bends
        rw [mo s2', m_fileIn s2' p2' hV hi]
        simp only [Option.bind_some]
        rw [if_neg (show ¬ (1 : Int32) = 0 by decide), m_makeIn s2' p2' hV hm]
        simp only [Option.bind_some]
        rw [if_neg (show ¬ (1 : Int32) = 0 by decide)]
      refine ⟨M1.1 (x + 22) 6, M1, M2, σ, c1, ?_, Inv_mG hI1 (mG_E z1)⟩
      show f_X11_bends K M1 (x + 32) (nI i) (nI m) = _
      rw [m1]
      rcases z2 with ⟨y1, y2, y3, y4⟩ | ⟨y1, y2⟩
      · rw [y2, fc2_some, if_neg (show ¬ (1 : Int32) = 0 by decide), y4]
        rcases q4 with ⟨-, q5⟩ | ⟨q5, -⟩
        · rw [q5.2.2.1]
        · exact absurd y1 q5
      · rw [y2, fc2_some, if_pos rfl]
        rcases q4 with ⟨q5, -⟩ | ⟨-, -, -, q5⟩
        · exact absurd q5 y1
        · rw [q5]
/-- the reading's rows hold a list -/
def rRec (M : fh_M) (r : Nat) (L : List (Nat × Nat × Nat)) : Prop := M.1 r 4 = nI L.length ∧ M.1 r 5 = nI (hsF 0 L) ∧ ∀ (i : Nat) (h : i < L.length), M.1 (r + 1) i = nI L[i].1 ∧ M.1 (r + 2) i = nI L[i].2.2 ∧ M.1 (r + 3) i = nI L[i].2.1
theorem rRec_of {M M' : fh_M} {r b : Nat} {L : List (Nat × Nat × Nat)} (h : rOut M M' r L b) : rRec M' r L := by
  obtain ⟨h1, h2, h0, h3, h4, h5⟩ := h
  refine ⟨h1, h2, fun i hi => ⟨?_, ?_, ?_⟩⟩
  · have := lf_at (L.map (fun q => q.1)) (M.1 (r + 1)) 0 i (by simpa using hi)
    rw [h3]; rw [Nat.zero_add] at this; rw [this]; simp
  · have := lf_at (L.map (fun q => q.2.2)) (M.1 (r + 2)) 0 i (by simpa using hi)
    rw [h4]; rw [Nat.zero_add] at this; rw [this]; simp
  · have := lf_at (L.map (fun q => q.2.1)) (M.1 (r + 3)) 0 i (by simpa using hi)
    rw [h5]; rw [Nat.zero_add] at this; rw [this]; simp
/-- by its own make -/
theorem s_own {K : fh_K} {M : fh_M} {x r : Nat} {σ : sT} {i a ab : Nat} (hV : Val σ) (s1 : cS K M x) (p1 : cP K M x σ) (hr : r = x + 22 ∨ r = x + 27) (hi : i < σ 0 9) (h1 : M.2.2 (x + 6) i = some a) (g2 : M.2.2 a 0 = some ab) :
    ∃ M', f_X10_readByOwnMake K M x (some a) (some r) = some M' ∧ rE r M M' ∧ rRec M' r (sR σ i) ∧ (sK σ i ≠ 0 → M'.2.2 r 3 = some ab) := by
  have hv := hV.1
  obtain ⟨a', ab', d1, d2, d3, d4, d5, d6, d7, d8, d9, d10, d11, d12, -⟩ := p1.2.2.2.2.2.2.2.1 i hi
  cases h1.symm.trans d1
  cases g2.symm.trans d5
  have hS : rS K M r := by rcases hr with rfl | rfl; exact cS_rd s1; exact cS_ro s1
  unfold f_X10_readByOwnMake
  rw [fo_ok d4, co s1, d12]
  have hsk := sK_le σ i
  cases hq : sK σ i with
  | zero =>
    rw [kI_0, c_makeOut s1 p1 (Or.inl (by decide))]
    simp only [Option.bind_some]
    rw [if_pos trivial, ro hS]
    unfold f_X4_clear
    rw [ro hS]
    refine ⟨fh_si (fh_si (fh_si M r 4 0) r 5 0) r 6 0, rfl, rE_I (rI_tr (rI_tr (rI_si (Or.inl ⟨rfl, Or.inl rfl⟩)) (rI_si (Or.inl ⟨rfl, Or.inr (Or.inl rfl)⟩))) (rI_si (Or.inl ⟨rfl, Or.inr (Or.inr rfl)⟩))), ?_, fun q => absurd rfl q⟩
    unfold sR
    rw [hq]
    refine ⟨?_, ?_, fun j hj => absurd hj (Nat.not_lt_zero _)⟩
    · rw [fh_si_1, if_neg (by omega), fh_si_1, if_neg (by omega), fh_si_1, if_pos ⟨rfl, rfl⟩]; rfl
    · rw [fh_si_1, if_neg (by omega), fh_si_1, if_pos ⟨rfl, rfl⟩]; rfl
  | succ m =>
    obtain ⟨hm1, -, hm2⟩ := kn_mk σ i _ m hq
    obtain ⟨am, ak, em, -⟩ := p1.2.2.2.2.2.2.1 m hm2
    obtain ⟨M1, q1, q2, q3, q4⟩ := s_readBy hV s1 p1 hr hi hm2 h1 g2
    rw [kI_s, c_makeIn s1 p1 hV hm2]
    simp only [Option.bind_some]
    rw [if_neg (fun q => by rw [em] at q; cases q), ro hS, g2, q1]
    refine ⟨M1, rfl, q2, ?_, fun _ => q3⟩
    unfold sR
    rw [hq]
    rcases q4 with ⟨-, q5⟩ | ⟨q5, -⟩
    · exact rRec_of q5
    · exact absurd hm1 q5
theorem sR_len {σ : sT} {i : Nat} (hV : Val σ) (hi : i < σ 0 9) : (sR σ i).length ≤ 29 := by
  unfold sR
  have hsk := sK_le σ i
  cases hq : sK σ i with
  | zero => exact Nat.zero_le _
  | succ m =>
    obtain ⟨hm1, -, hm2⟩ := kn_mk σ i _ m hq
    have b1 := (hV.2.2.1 m hm2).1
    have c2 := (hV.2.2.2.1 i hi).2.1
    have := pz_len (cF σ i) (σ 4 m) (enN (σ 8 i) (σ 3 m) (σ 5 m)) 61 (σ 3 m) (enN_ge hm1.1)
    have h3 := enN_le (σ 8 i) (σ 3 m) (σ 5 m)
    show (pz _ _ _ _ _).1.length ≤ 29
    omega
/-- RECORD -/
theorem op_record {sz : Nat} {K : fh_K} {M : fh_M} {x : Nat} {σ : sT} (hI : Inv sz K M x σ) (v w u : Int32) : Op sz K M x (fun K M x => f_X10_record K M x v w u) (fun K M y => f_X11_record K M y v w u) := by
  obtain ⟨hV, s1, p1, s2, p2, k1, k2⟩ := id hI
  have hv := hV.1
  have bad : (v < 0 ∨ nI (σ 0 9) ≤ v) → Op sz K M x (fun K M x => f_X10_record K M x v w u) (fun K M y => f_X11_record K M y v w u) := by
    intro h
    refine ⟨-1, M, M, σ, ?_, ?_, hI⟩
    · show f_X10_record K M x v w u = _
      unfold f_X10_record; rw [co s1, c_fileOut s1 p1 h]; rfl
    · show f_X11_record K M (x + 32) v w u = _
      unfold f_X11_record; rw [mo s2, m_fileOut s2 p2 hV h]; rfl
  rcases pk_ix v (n := σ 0 9) (by omega) with h | h | ⟨i, hi, rfl⟩
  · exact bad (Or.inl h)
  · exact bad (Or.inr h)
  · obtain ⟨a, ab, h1, h2, h3, g1, g2, -⟩ := p1.2.2.2.2.2.2.2.1 i hi
    obtain ⟨M1, q1, q2, q3, -⟩ := s_own hV s1 p1 (Or.inl rfl) hi h1 g2
    have hI1 := Inv_cG hI (cG_rd q2)
    obtain ⟨-, s1', p1', s2', p2', -⟩ := id hI1
    obtain ⟨M2, z1, z2, z3⟩ := m_knows s2' p2' hV hi
    have hlen := sR_len hV hi
    have hsk := sK_le σ i
    have hE2 := Inv_mG hI1 (mG_E z2)
    have s2'' := mE_S z2 s2'
    have c1 : f_X10_record K M x (nI i) w u = if w < 0 then some (-1, M1) else if w < nI (sR σ i).length then (if u = 0 then fi K 13 (M1.2.2 (x + 22) 0) w fun a7 => some (M1.1 a7 w.toNatClampNeg, M1) else if u = 1 then fi K 13 (M1.2.2 (x + 22) 1) w fun a9 => some (M1.1 a9 w.toNatClampNeg, M1) else if u = 2 then fi K 13 (M1.2.2 (x + 22) 2) w fun a11 => some (M1.1 a11 w.toNatClampNeg, M1) else some (-1, M1)) else some (-1, M1) := by
      unfold f_X10_record
      rw [co s1, c_fileIn s1 p1 hV hi, h1]
      simp only [Option.bind_some]
      rw [if_neg (fun q => by cases q), cr0_9 s1, q1]
      simp only [Option.bind_some]
      rw [cr0_9 s1', fo_ok (ck22 s1'), q3.1]
    have m1 : f_X11_record K M1 (x + 32) (nI i) w u = if kI (sK σ i) = -1 then some (-1, M2) else (f_X11_lies K M2 w 0 (nI (sR σ i).length - 1)).bind fun r5 => if r5 = 0 then some (-1, M2) else if u = 0 then fi K 13 (M2.2.2 (x + 32) 27) w fun a10 => some (M2.1 a10 w.toNatClampNeg, M2) else if u = 1 then fi K 13 (M2.2.2 (x + 32) 29) w fun a8 => some (M2.1 a8 w.toNatClampNeg, M2) else if u = 2 then fi K 13 (M2.2.2 (x + 32) 28) w fun a6 => some (M2.1 a6 w.toNatClampNeg, M2) else some (-1, M2) := by
      unfold f_X11_record
      rw [mo s2', m_fileIn s2' p2' hV hi]
      simp only [Option.bind_some]
      rw [if_neg (show ¬ (1 : Int32) = 0 by decide), z1, fc2_some, z3.1]
    have out : (w < 0 ∨ nI (sR σ i).length ≤ w) → Op sz K M x (fun K M x => f_X10_record K M x (nI i) w u) (fun K M y => f_X11_record K M y (nI i) w u) := by
      intro hw
      refine ⟨-1, M1, M2, σ, ?_, ?_, hE2⟩
      · show f_X10_record K M x (nI i) w u = _
        rw [c1]
        by_cases h0 : w < 0
        · rw [if_pos h0]
        · have h5 : ¬ w < nI (sR σ i).length := by
            have h6 := hw.resolve_left h0
            rw [fa_le] at h6
            rw [fa_lt]; omega
          rw [if_neg h0, if_neg h5]
      · show f_X11_record K M1 (x + 32) (nI i) w u = _
        rw [m1]
        by_cases h0 : kI (sK σ i) = -1
        · rw [if_pos h0]
        · rw [if_neg h0, m_liesOut (lies_out (by omega) hw)]
          rfl
    rcases pk_ix w (n := (sR σ i).length) (by omega) with h | h | ⟨j, hj, rfl⟩
    · exact out (Or.inl h)
    · exact out (Or.inr h)
    · have hkn : ¬ kI (sK σ i) = -1 := by
        rw [kI_m1 (by omega)]
        intro q
        unfold sR at hj
        rw [q] at hj
        exact absurd hj (Nat.not_lt_zero _)
      obtain ⟨l1, l2⟩ := lies_in (n := (sR σ i).length) (by omega) hj
      obtain ⟨t1, t2, t3⟩ := q3.2.2 j hj
      obtain ⟨y1, y2, y3⟩ := z3.2 j hj
      rw [if_neg (nI_pos (by omega)), if_pos (nI_lt hj (by omega))] at c1
      rw [if_neg hkn, m_lies, if_neg l1, if_neg l2] at m1
      simp only [Option.bind_some] at m1
      rw [if_neg (show ¬ (1 : Int32) = 0 by decide)] at m1
      rw [cr22_0 s1', cr22_1 s1', cr22_2 s1', fi_ok (ck23 s1') rfl (by omega) (by omega), fi_ok (ck24 s1') rfl (by omega) (by omega), fi_ok (ck25 s1') rfl (by omega) (by omega), cl_n (by omega)] at c1
      rw [mi27 s2'' rfl (by omega), mi28 s2'' rfl (by omega), mi29 s2'' rfl (by omega), cl_n (by omega)] at m1
      have t1 : M1.1 (x + 23) j = _ := t1
      have t2 : M1.1 (x + 24) j = _ := t2
      have t3 : M1.1 (x + 25) j = _ := t3
      rw [t1, t2, t3] at c1
      rw [y1, y2, y3] at m1
      refine ⟨if u = 0 then nI (sR σ i)[j].1 else if u = 1 then nI (sR σ i)[j].2.2 else if u = 2 then nI (sR σ i)[j].2.1 else -1, M1, M2, σ, ?_, ?_, hE2⟩
      · show f_X10_record K M x (nI i) (nI j) u = _
        rw [c1]
        by_cases u0 : u = 0
        · simp only [if_pos u0]
        · simp only [if_neg u0]
          by_cases u1 : u = 1
          · simp only [if_pos u1]
          · simp only [if_neg u1]
            by_cases u2 : u = 2
            · simp only [if_pos u2]
            · simp only [if_neg u2]
      · show f_X11_record K M1 (x + 32) (nI i) (nI j) u = _
        rw [m1]
        by_cases u0 : u = 0
        · simp only [if_pos u0]
        · simp only [if_neg u0]
          by_cases u1 : u = 1
          · simp only [if_pos u1]
          · simp only [if_neg u1]
            by_cases u2 : u = 2
            · simp only [if_pos u2]
            · simp only [if_neg u2]
