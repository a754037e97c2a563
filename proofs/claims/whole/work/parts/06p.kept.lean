theorem c_keptL {K : fh_K} {M : fh_M} {x : Nat} {A B : List R3} {a b : Nat → Nat} {S S' : Nat} (s1 : cS K M x) (h : rIn K M (x + 22) A a S) (h' : rIn K M (x + 27) B b S') :
    ∀ n t, 12 - t < n → t ≤ 12 → f_X10_kept_L49 K n x (nI (kp a b A B t)) (nI t) M = some (nI (kp a b A B 12), M) := by
  intro n
  induction n with
  | zero => intro t q; exact absurd q (Nat.not_lt_zero _)
  | succ n ih =>
    intro t hn ht
    have hlt := hsF_lt (k := 12) A 0 (by decide) (fun q hq => (h.2.2.2.2.2.1 q hq).1)
    unfold f_X10_kept_L49 f_X10_kept_J96
    rw [n_12]
    by_cases h12 : t < 12
    · rw [if_neg (nI_ge h12 (by omega)), co s1, cr0_9 s1, ro h.1, h.2.1.2.1, c_holds K M (by omega) (by omega)]
      simp only [Option.bind_some]
      rw [cr0_10 s1, or1 (by omega), nI_1]
      by_cases hb : (hsF 0 A).testBit t = true
      · rw [if_neg (by rw [if_pos ⟨h12, hb⟩]; decide)]
        obtain ⟨v, z1, z2⟩ := c_agrees (t := t) h h' h12
        rw [z1]
        simp only [Option.bind_some]
        rcases z2 with ⟨z2, rfl⟩ | ⟨z2, rfl⟩
        · rw [if_neg (show ¬ (1 : Int32) = 0 by decide), ← kp_y ⟨z2, hasT_bit.mp hb⟩]
          exact ih (t + 1) (by omega) (by omega)
        · rw [if_pos rfl, ← kp_n (fun q => z2 q.1)]
          exact ih (t + 1) (by omega) (by omega)
      · rw [if_pos (by rw [if_neg (fun q => hb q.2)]), ← kp_n (fun q => hb (hasT_bit.mpr q.2))]
        exact ih (t + 1) (by omega) (by omega)
    · rw [if_pos (nI_le (by omega) (by omega)), show t = 12 by omega]
theorem m_keptL {K : fh_K} {M : fh_M} {y : Nat} {A B : List R3} {f g : Nat} {a b : Nat → Nat} {S S' : Nat} (h : wIn K M y A B f g a b S S') :
    ∀ n t, 12 - t < n → t ≤ 12 → f_X11_kept_L114 K n y (nI f) (nI g) (nI (kp a b A B t)) (nI t) M = some (nI (kp a b A B 12), M) := by
  intro n
  induction n with
  | zero => intro t q; exact absurd q (Nat.not_lt_zero _)
  | succ n ih =>
    intro t hn ht
    unfold f_X11_kept_L114 f_X11_kept_J141
    rw [n_12]
    by_cases h12 : t < 12
    · rw [if_neg (nI_ge h12 (by omega)), mo h.1]
      obtain ⟨v, z1, z2⟩ := m_isKept (t := t) h h12
      rw [z1]
      simp only [Option.bind_some]
      rw [or1 (by omega), nI_1]
      rcases z2 with ⟨z2, rfl⟩ | ⟨z2, rfl⟩
      · rw [if_neg (show ¬ (1 : Int32) = 0 by decide), ← kp_y z2]
        exact ih (t + 1) (by omega) (by omega)
      · rw [if_pos rfl, ← kp_n z2]
        exact ih (t + 1) (by omega) (by omega)
    · rw [if_pos (nI_le (by omega) (by omega)), show t = 12 by omega]
/-- the model's scratch for records, both rows -/
def mZ2 (y : Nat) (M M' : fh_M) : Prop := M'.2 = M.2 ∧ ∀ a k, ¬ (a = y + 23 ∨ a = y + 24 ∨ a = y + 25) → M'.1 a k = M.1 a k
theorem m_copyL {K : fh_K} {y : Nat} {A : List R3} {v1 v2 : Int32} (hA : A.length ≤ 29) (M0 : fh_M) (hS0 : mS K M0 y) (hR : mRec M0 y A) (h30 : M0.1 y 30 = nI A.length) :
    ∀ n i M, A.length - i < n → i ≤ A.length → mZ2 y M0 M → (∀ j, j < i → M.1 (y + 23) j = nI (atL A j).1 ∧ M.1 (y + 24) j = nI (atL A j).2.1 ∧ M.1 (y + 25) j = nI (atL A j).2.2) → ∃ M', f_X11_kept_L44 K n y v1 v2 (nI i) M = f_X11_kept_J101 K y v1 v2 M' ∧ mZ2 y M0 M' ∧ ∀ j, j < A.length → M'.1 (y + 23) j = nI (atL A j).1 ∧ M'.1 (y + 24) j = nI (atL A j).2.1 ∧ M'.1 (y + 25) j = nI (atL A j).2.2 := by
  intro n
  induction n with
  | zero => intro i M q; exact absurd q (Nat.not_lt_zero _)
  | succ n ih =>
    intro i M hn hi hz hall
    have hS : mS K M y := mS_keep hS0 (fun _ _ _ => rfl) (by rw [hz.1])
    unfold f_X11_kept_L44
    rw [mo hS, hz.2 y 30 (by omega), h30]
    by_cases hlt : i < A.length
    · obtain ⟨g1, g2, g3⟩ := hR.2 i hlt
      rw [← atL_eq hlt] at g1 g2 g3
      rw [if_neg (nI_ge hlt (by omega)), mi27 hS rfl (by omega), mi31 hS rfl (by omega), cl_n (by omega), fb_eq, hz.2 _ _ (by omega), g1]
      rw [mi28 (mS_si hS _ _ _) rfl (by omega), mi32 (mS_si hS _ _ _) rfl (by omega), fb_eq, fh_si_1, if_neg (by omega), hz.2 _ _ (by omega), g2]
      rw [mi29 (mS_si (mS_si hS _ _ _) _ _ _) rfl (by omega), mi33 (mS_si (mS_si hS _ _ _) _ _ _) rfl (by omega), fb_eq, fh_si_1, if_neg (by omega), fh_si_1, if_neg (by omega), hz.2 _ _ (by omega), g3, nI_1]
      refine ih (i + 1) _ (by omega) (by omega) ⟨hz.1, fun a k q => ?_⟩ (fun j hj => ?_)
      · rw [fh_si_1, if_neg (by omega), fh_si_1, if_neg (by omega), fh_si_1, if_neg (by omega)]
        exact hz.2 a k q
      · by_cases e : j = i
        · subst e
          refine ⟨?_, ?_, ?_⟩
          · rw [fh_si_1, if_neg (by omega), fh_si_1, if_neg (by omega), fh_si_1, if_pos ⟨rfl, rfl⟩]
          · rw [fh_si_1, if_neg (by omega), fh_si_1, if_pos ⟨rfl, rfl⟩]
          · rw [fh_si_1, if_pos ⟨rfl, rfl⟩]
        · obtain ⟨q1, q2, q3⟩ := hall j (by omega)
          refine ⟨?_, ?_, ?_⟩
          · rw [fh_si_1, if_neg (by omega), fh_si_1, if_neg (by omega), fh_si_1, if_neg (by omega)]; exact q1
          · rw [fh_si_1, if_neg (by omega), fh_si_1, if_neg (by omega), fh_si_1, if_neg (by omega)]; exact q2
          · rw [fh_si_1, if_neg (by omega), fh_si_1, if_neg (by omega), fh_si_1, if_neg (by omega)]; exact q3
    · rw [if_pos (nI_le (by omega) (by omega))]
      exact ⟨M, rfl, hz, fun j hj => hall j (by omega)⟩
theorem m_kept {K : fh_K} {M : fh_M} {y : Nat} {σ : sT} {f g : Nat} (hS : mS K M y) (hP : mP M y σ) (hV : Val σ) (hf : f < σ 0 9) (hg : g < σ 0 9) :
    ∃ M', f_X11_kept K M y (nI f) (nI g) = some (nI (kp (cF σ f) (cF σ g) (sR σ f) (sR σ g) 12), M') ∧ mG y M M' := by
  have hv := hV.1
  have hAl := sR_len hV hf
  have hBl := sR_len hV hg
  obtain ⟨M1, q1, q2, q3⟩ := m_knows hS hP hV hf
  have hS1 := mE_S q2 hS
  have hP1 := mG_P (mG_E q2) hP
  have step : f_X11_kept K M y (nI f) (nI g) = f_X11_kept_J38 K y (nI f) (nI g) (nI (sR σ f).length) (some y) M1 := by
    unfold f_X11_kept
    rw [mo hS, m_fileIn hS hP hV hf]
    simp only [Option.bind_some]
    rw [if_neg (show ¬ (1 : Int32) = 0 by decide), m_fileIn hS hP hV hg]
    simp only [Option.bind_some]
    rw [if_neg (show ¬ (1 : Int32) = 0 by decide), q1, fc2_some, q3.1]
    have hsk := sK_le σ f
    by_cases h0 : sK σ f = 0
    · rw [if_pos ((kI_m1 (by omega)).mpr h0)]
      have : (sR σ f).length = 0 := by unfold sR; rw [h0]; rfl
      rw [this]
      rfl
    · rw [if_neg (fun q => h0 ((kI_m1 (by omega)).mp q))]
  rw [step]
  unfold f_X11_kept_J38
  rw [mo hS1, fb_eq]
  have hS2 : mS K (fh_si M1 y 30 (nI (sR σ f).length)) y := mS_si hS1 _ _ _
  have e30 : (fh_si M1 y 30 (nI (sR σ f).length)).1 y 30 = nI (sR σ f).length := by rw [fh_si_1, if_pos ⟨rfl, rfl⟩]
  have hR2 : mRec (fh_si M1 y 30 (nI (sR σ f).length)) y (sR σ f) := by
    refine ⟨by rw [fh_si_1, if_neg (by omega)]; exact q3.1, fun i hi => ?_⟩
    rw [fh_si_1, if_neg (by omega), fh_si_1, if_neg (by omega), fh_si_1, if_neg (by omega)]
    exact q3.2 i hi
  obtain ⟨M3, c1, c2, c3⟩ := m_copyL (v1 := nI f) (v2 := nI g) hAl _ hS2 hR2 e30 4096 0 _ (by omega) (by omega) ⟨rfl, fun _ _ _ => rfl⟩ (fun j hj => absurd hj (Nat.not_lt_zero _))
  rw [n_0, c1]
  have hG3 : mG y M M3 := by
    refine mG_tr (mG_E q2) (mG_tr (mG_si (a := y) (k := 30) (v := nI (sR σ f).length) (by unfold mZ; omega)) ⟨c2.1, fun a k q => c2.2 a k (fun z => q (by unfold mZ; omega))⟩)
  have hS3 := mG_S hG3 hS
  have hP3 := mG_P hG3 hP
  unfold f_X11_kept_J101
  obtain ⟨M4, d1, d2, d3⟩ := m_knows hS3 hP3 hV hg
  rw [mo hS3, d1, fc2_some]
  have hS4 := mE_S d2 hS3
  have hG4 : mG y M M4 := mG_tr hG3 (mG_E d2)
  have hP4 := mG_P hG4 hP
  obtain ⟨f1, f2, -⟩ := hV.2.2.2.1 f hf
  obtain ⟨g1, g2, -⟩ := hV.2.2.2.1 g hg
  have w : wIn K M4 y (sR σ f) (sR σ g) f g (cF σ f) (cF σ g) (σ 8 f) (σ 8 g) := by
    refine ⟨hS4, d3, ⟨?_, fun i hi => ?_⟩, ⟨hAl, hBl, f2, g2, by omega, by omega⟩, fun k => ⟨(hV.2.1 _).2.2, (hV.2.1 _).2.2⟩, fun q hq => sR_in hV hq, fun q hq => sR_in hV hq, fun k hk => mP_a hP4 7 _ (by omega), fun k hk => mP_a hP4 7 _ (by omega)⟩
    · rw [d2.2 _ _ (by unfold mq; omega), c2.2 _ _ (by omega)]; exact e30
    · rw [d2.2 _ _ (by unfold mq; omega), d2.2 _ _ (by unfold mq; omega), d2.2 _ _ (by unfold mq; omega)]
      exact c3 i hi
  exact ⟨M4, m_keptL w 4096 0 (by omega) (by omega), hG4⟩
/-- KEPT -/
theorem op_kept {sz : Nat} {K : fh_K} {M : fh_M} {x : Nat} {σ : sT} (hI : Inv sz K M x σ) (v w : Int32) : Op sz K M x (fun K M x => f_X10_kept K M x v w) (fun K M y => f_X11_kept K M y v w) := by
  obtain ⟨hV, s1, p1, s2, p2, k1, k2⟩ := id hI
  have hv := hV.1
  have flS : ∀ w, (w < 0 ∨ nI (σ 0 9) ≤ w) ∨ ∃ i, i < σ 0 9 ∧ w = nI i := by
    intro w
    rcases pk_ix w (n := σ 0 9) (by omega) with h | h | h
    · exact Or.inl (Or.inl h)
    · exact Or.inl (Or.inr h)
    · exact Or.inr h
  have flE : ∀ w, ∃ o, f_X10_fileAt K M x w = some o := by
    intro w
    rcases flS w with h | ⟨i, hi, rfl⟩
    · exact ⟨_, c_fileOut s1 p1 h⟩
    · exact ⟨_, c_fileIn s1 p1 hV hi⟩
  rcases flS v with h | ⟨f, hf, rfl⟩
  · obtain ⟨o, ho⟩ := flE w
    refine ⟨-1, M, M, σ, ?_, ?_, hI⟩
    · show f_X10_kept K M x v w = _
      unfold f_X10_kept; rw [co s1, c_fileOut s1 p1 h, ho]; rfl
    · show f_X11_kept K M (x + 32) v w = _
      unfold f_X11_kept; rw [mo s2, m_fileOut s2 p2 hV h]; rfl
  obtain ⟨a, ab, h1, h2, h3, g1, g2, g3, g4, -⟩ := p1.2.2.2.2.2.2.2.1 f hf
  rcases flS w with h | ⟨g, hg, rfl⟩
  · refine ⟨-1, M, M, σ, ?_, ?_, hI⟩
    · show f_X10_kept K M x (nI f) w = _
      unfold f_X10_kept; rw [co s1, c_fileIn s1 p1 hV hf, c_fileOut s1 p1 h, h1]; rfl
    · show f_X11_kept K M (x + 32) (nI f) w = _
      unfold f_X11_kept; rw [mo s2, m_fileIn s2 p2 hV hf, m_fileOut s2 p2 hV h]; rfl
  obtain ⟨a', ab', h1', h2', h3', g1', g2', g3', g4', -⟩ := p1.2.2.2.2.2.2.2.1 g hg
  obtain ⟨M1, q1, q2, q3, q4⟩ := s_own hV s1 p1 (Or.inl rfl) hf h1 g2
  have hI1 := Inv_cG hI (cG_rd q2)
  obtain ⟨-, s1', p1', s2', p2', -⟩ := id hI1
  have r1 : M1.2.2 (x + 6) g = some a' := by rw [q2.2.1 _ _ (by omega)]; exact h1'
  have r2 : M1.2.2 a' 0 = some ab' := by rw [q2.2.1 _ _ (by omega)]; exact g2'
  obtain ⟨M2, z1, z2, z3, z4⟩ := s_own hV s1' p1' (Or.inr rfl) hg r1 r2
  have hG2 : cG x M M2 := cG_tr (cG_rd q2) (cG_ro z2)
  have hI2 := Inv_cG hI hG2
  obtain ⟨-, s1'', p1'', s2'', p2'', -⟩ := id hI2
  obtain ⟨f1, f2, -⟩ := hV.2.2.2.1 f hf
  obtain ⟨g1', g2'', -⟩ := hV.2.2.2.1 g hg
  have ne : ∀ i, sR σ i ≠ [] → sK σ i ≠ 0 := fun i h q => h (by unfold sR; rw [q])
  have bts : ∀ b k, x + 63 ≤ b → M2.1 b k = M.1 b k := fun b k q => hG2.1 b k (by unfold cZ; omega)
  have in1 : rIn K M2 (x + 22) (sR σ f) (cF σ f) (σ 8 f) := by
    refine ⟨cS_rd s1'', ⟨?_, ?_, fun i hi => ?_⟩, sR_len hV hf, f2, fun k => (hV.2.1 _).2.2, fun q hq => sR_in hV hq, fun q => ⟨ab, ?_, g3, fun k hk => ?_⟩⟩
    · rw [z2.2.2 _ _ (by unfold rq; omega)]; exact q3.1
    · rw [z2.2.2 _ _ (by unfold rq; omega)]; exact q3.2.1
    · rw [z2.2.2 _ _ (by unfold rq; omega), z2.2.2 _ _ (by unfold rq; omega), z2.2.2 _ _ (by unfold rq; omega)]; exact q3.2.2 i hi
    · rw [z2.2.1 _ _ (by omega)]; exact q4 (ne f q)
    · rw [bts _ _ h3]; exact g4 k hk
  have in2 : rIn K M2 (x + 27) (sR σ g) (cF σ g) (σ 8 g) := by
    refine ⟨cS_ro s1'', z3, sR_len hV hg, g2'', fun k => (hV.2.1 _).2.2, fun q hq => sR_in hV hq, fun q => ⟨ab', z4 (ne g q), g3', fun k hk => ?_⟩⟩
    rw [bts _ _ h3']; exact g4' k hk
  obtain ⟨M3, m1, m2⟩ := m_kept s2'' p2'' hV hf hg
  refine ⟨_, M2, M3, σ, ?_, m1, Inv_mG hI2 m2⟩
  show f_X10_kept K M x (nI f) (nI g) = _
  unfold f_X10_kept
  rw [co s1, c_fileIn s1 p1 hV hf, c_fileIn s1 p1 hV hg, h1, h1']
  simp only [Option.bind_some]
  rw [if_neg (fun q => by cases q), if_neg (fun q => by cases q), cr0_9 s1, q1]
  simp only [Option.bind_some]
  rw [cr0_10 s1', z1]
  simp only [Option.bind_some]
  exact c_keptL s1'' in1 in2 4096 0 (by omega) (by omega)
