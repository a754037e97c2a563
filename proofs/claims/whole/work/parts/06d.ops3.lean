theorem cFl_at {K : fh_K} {M M' : fh_M} {x i : Nat} {σ : sT} (h : cFl K M x σ i) (hr : M'.2.2 = M.2.2) (hIa : ∀ a, M.2.2 (x + 6) i = some a → ∀ k, M'.1 a k = M.1 a k) (hI : ∀ a k, x + 63 ≤ a → (K a).1 = 13 → M'.1 a k = M.1 a k) : cFl K M' x σ i := by
  obtain ⟨a, ab, h1, h2, h3, g1, g2, g3, g4, g5, g6, g7, g8, g9, g10, g11, g12⟩ := h
  have e := hIa a h1
  refine ⟨a, ab, by rw [hr]; exact h1, h2, h3, g1, by rw [hr]; exact g2, g3, ?_, ?_, ?_, ?_, ?_, ?_, ?_, ?_, ?_⟩
  · intro k hk; rw [hI ab k h3 (by rw [g3])]; exact g4 k hk
  · rw [e]; exact g5
  · rw [e]; exact g6
  · rw [e]; exact g7
  · rw [e]; exact g8
  · rw [e]; exact g9
  · rw [e]; exact g10
  · rw [e]; exact g11
  · rw [e]; exact g12
/-- MUST -/
theorem op_must {sz : Nat} {K : fh_K} {M : fh_M} {x : Nat} {σ : sT} (hI : Inv sz K M x σ) (v w : Int32) : Op sz K M x (fun K M x => f_X10_must K M x v w) (fun K M y => f_X11_must K M y v w) := by
  obtain ⟨hV, s1, p1, s2, p2, k1, k2⟩ := id hI
  have hv := hV.1
  have bad : (v < 0 ∨ nI (σ 0 9) ≤ v) → Op sz K M x (fun K M x => f_X10_must K M x v w) (fun K M y => f_X11_must K M y v w) := by
    intro h
    refine ⟨0, M, M, σ, ?_, ?_, hI⟩
    · show f_X10_must K M x v w = _
      unfold f_X10_must; rw [co s1, c_fileOut s1 p1 h]; rfl
    · show f_X11_must K M (x + 32) v w = _
      unfold f_X11_must; rw [mo s2, m_fileOut s2 p2 hV h]; rfl
  rcases pk_ix v (n := σ 0 9) (by omega) with h | h | ⟨i, hi, rfl⟩
  · exact bad (Or.inl h)
  · exact bad (Or.inr h)
  · obtain ⟨a, ab, h1, h2, h3, g1, g2, g3, g4, g5, g6, g7, g8, g9, g10, g11, g12⟩ := p1.2.2.2.2.2.2.2.1 i hi
    rcases nrange (v := w) (n := 4095) (by omega) with h | ⟨j, hj, rfl⟩
    · refine ⟨0, M, M, σ, ?_, ?_, hI⟩
      · show f_X10_must K M x (nI i) w = _
        unfold f_X10_must; rw [co s1, c_fileIn s1 p1 hV hi, h1, c_propOut h]; rfl
      · show f_X11_must K M (x + 32) (nI i) w = _
        unfold f_X11_must; rw [mo s2, m_fileIn s2 p2 hV hi, n_4095, m_liesOut h]; rfl
    · have y1 : f_X10_must K M x (nI i) (nI j) = some (1, fh_si M a 4 (nI j)) := by
        unfold f_X10_must
        rw [co s1, c_fileIn s1 p1 hV hi, h1, c_propIn hj]
        simp only [Option.bind_some]
        rw [if_neg (fun q => by cases q), if_neg (show ¬ (1 : Int32) = 0 by decide), fo_ok g1]
        rfl
      generalize hM1 : fh_si M a 4 (nI j) = M1 at y1
      have e1 : ∀ b k, ¬ (b = a ∧ k = 4) → M1.1 b k = M.1 b k := fun b k q => by rw [← hM1, fh_si_1, if_neg q]
      have e2 : M1.2 = M.2 := by rw [← hM1]; rfl
      have s2' : mS K M1 (x + 32) := by rw [← hM1]; exact mS_si s2 _ _ _
      have p2' : mP M1 (x + 32) σ := mP_keep p2 (fun b k q1 q2 => e1 b k (by omega))
      have y2 : f_X11_must K M1 (x + 32) (nI i) (nI j) = some (1, fh_si M1 (x + 32 + 9) i (nI j)) := by
        unfold f_X11_must
        rw [mo s2', m_fileIn s2' p2' hV hi, n_4095, m_liesIn (by omega) hj]
        simp only [Option.bind_some]
        rw [if_neg (show ¬ (1 : Int32) = 0 by decide), if_neg (show ¬ (1 : Int32) = 0 by decide), mi12 s2' rfl (by omega), cl_n (by omega)]
        rfl
      have hs : sDy σ (fh_u σ 9 i j) := ⟨fun c j q => fh_u_o _ _ _ _ (by omega), rfl, rfl, rfl⟩
      -- the class's cells behind the class's step
      have pc : cP K M1 x (fh_u σ 9 i j) := by
        obtain ⟨⟨a1, a2, a3⟩, ⟨b1, b2⟩, c1, ⟨d1, d2⟩, f1, ⟨p, q1, q2⟩, m1, m2, m3, m4⟩ := id p1
        refine ⟨⟨?_, ?_, ?_⟩, ⟨?_, fun k hk => ?_⟩, fun j hj => ⟨?_, ?_⟩, ⟨?_, fun r hr => ⟨?_, ?_⟩⟩, ?_, ⟨p, q1, ?_⟩, fun n hn => ?_, fun n hn => ?_, fun t ht => ?_, fun n k hn hk e => ?_⟩
        · rw [e1 _ _ (by omega)]; exact a1
        · rw [e1 _ _ (by omega)]; exact a2
        · rw [e1 _ _ (by omega)]; exact a3
        · rw [e1 _ _ (by omega)]; exact b1
        · rw [e1 _ _ (by omega)]; exact b2 k hk
        · rw [e1 _ _ (by omega)]; exact (c1 j hj).1
        · rw [e1 _ _ (by omega)]; exact (c1 j hj).2
        · rw [e1 _ _ (by omega)]; exact d1
        · rw [e1 _ _ (by omega)]; exact (d2 r hr).1
        · rw [e1 _ _ (by omega)]; exact (d2 r hr).2
        · rw [e1 _ _ (by omega)]; exact f1
        · rw [e2]; exact q2
        · exact cMk_keep (m1 n hn) (by rw [e2]) (fun _ _ _ => rfl) (fun b k q z z8 => e1 b k (fun q => z8 (by rw [q.1]; exact g1))) (fun b k q _ => by rw [e2]) rfl rfl rfl rfl (fun _ _ => rfl)
        · by_cases en : n = i
          · subst en
            obtain ⟨ra, rb⟩ := sR_ag (f := n) (σ := σ) (σ' := fh_u σ 9 n j) (fun c m q => fh_u_o _ _ _ _ (by omega)) (fun k => fh_u_o _ _ _ _ (by omega)) (fh_u_o _ _ _ _ (by omega)) rfl
            have rc := (kn_ag (f := n) (σ := σ) (σ' := fh_u σ 9 n j) (fun c m q => fh_u_o _ _ _ _ (by omega)) (fun k => fh_u_o _ _ _ _ (by omega)) (fh_u_o _ _ _ _ (by omega))).2 (σ 0 3)
            refine ⟨a, ab, by rw [e2]; exact h1, h2, h3, g1, by rw [e2]; exact g2, g3, ?_, ?_, ?_, ?_, ?_, ?_, ?_, ?_, ?_⟩
            · intro k hk
              rw [e1 ab k (fun q => by rw [q.1, g1] at g3; cases g3)]; exact g4 k hk
            · rw [e1 _ _ (by omega)]; exact g5
            · rw [e1 _ _ (by omega)]; exact g6
            · rw [e1 _ _ (by omega)]; exact g7
            · rw [← hM1, fh_si_1, if_pos ⟨rfl, rfl⟩, fh_u_s]
            · rw [e1 _ _ (by omega), ra]; exact g9
            · rw [e1 _ _ (by omega), show fh_u σ 9 n j 0 3 = σ 0 3 from rfl, rc]; exact g10
            · rw [e1 _ _ (by omega), rb]; exact g11
            · rw [e1 _ _ (by omega), rb]; exact g12
          · refine cFl_sig (cFl_at (m2 n hn) (by rw [e2]) (fun b hb k => e1 b k (fun q => en (m4 n i hn hi (by rw [hb, h1, q.1])))) (fun b k q z => e1 b k (fun q => by rw [q.1, g1] at z; cases z))) hs (fh_u_o _ _ _ _ (by omega))
        · exact cTn_keep (m3 t ht) (by rw [e2]) (fun _ _ _ => rfl) (fun b k q z z8 => e1 b k (fun q => z8 (by rw [q.1]; exact g1))) (fun c q1 q2 => fh_u_o _ _ _ _ (by omega)) rfl
        · rw [e2] at e; exact m4 n k hn hk e
      have s1' : cS K M1 x := cS_keep s1 (fun _ _ _ => rfl) (fun b k _ _ _ _ => by rw [e2])
      obtain ⟨s1'', pc''⟩ := c_other (M' := fh_si M1 (x + 32 + 9) i (nI j)) s1' pc ⟨fun b k q => by rw [fh_si_1, if_neg (by omega)], rfl⟩
      refine ⟨1, M1, _, fh_u σ 9 i j, y1, y2, ?_, s1'', pc'', mS_si s2' _ _ _, ?_, k1, k2⟩
      · obtain ⟨v0, v1, v2, v3, v4, v5, v6, v7⟩ := hV
        refine ⟨v0, v1, v2, fun f hf => ?_, fun f hf => ?_, v5, v6, v7⟩
        · obtain ⟨z1, z2, z3, z4⟩ := v3 f hf
          refine ⟨z1, z2, ?_, z4⟩
          by_cases e : f = i
          · subst e; rw [fh_u_s]; omega
          · rw [fh_u_o _ _ _ _ (by omega)]; exact z3
        · rw [fh_u_o _ _ _ _ (fun q => by have : σ 0 9 ≤ f := hf; omega)]; exact v4 f hf
      · obtain ⟨h1, h2, h3, h4⟩ := p2'
        refine ⟨fun k hk => ?_, fun j hj => ?_, fun c j' hc => ?_, fun j => ?_⟩
        · rw [fh_si_1, if_neg (by omega)]; exact h1 k hk
        · rw [fh_si_1, if_neg (by omega)]; exact h2 j hj
        · by_cases e : c = 9 ∧ j' = i
          · obtain ⟨rfl, rfl⟩ := e
            rw [fh_si_1, if_pos ⟨rfl, rfl⟩, fh_u_s]
          · rw [fh_si_1, if_neg (by omega), fh_u_o _ _ _ _ e]; exact h3 c j' hc
        · rw [fh_si_1, if_neg (by omega)]; exact h4 j
/-- MACHINE -/
theorem op_machine {sz : Nat} {K : fh_K} {M : fh_M} {x : Nat} {σ : sT} (hI : Inv sz K M x σ) (v w u : Int32) : Op sz K M x (fun K M x => f_X10_machine K M x v w u) (fun K M y => f_X11_machine K M y v w u) := by
  obtain ⟨hV, s1, p1, s2, p2, k1, k2⟩ := id hI
  have hv := hV.1
  have no : f_X10_machine K M x v w u = some (0, M) → f_X11_machine K M (x + 32) v w u = some (0, M) → Op sz K M x (fun K M x => f_X10_machine K M x v w u) (fun K M y => f_X11_machine K M y v w u) := fun a b => ⟨0, M, M, σ, a, b, hI⟩
  have badm : (v < 0 ∨ nI 8 ≤ v) → Op sz K M x (fun K M x => f_X10_machine K M x v w u) (fun K M y => f_X11_machine K M y v w u) := by
    intro h
    refine no ?_ ?_
    · unfold f_X10_machine; rw [co s1, cr0_4 s1, fo_ok (ck7 s1), c_machOut h]; rfl
    · unfold f_X11_machine; rw [m_machOut h]; rfl
  rcases pk_ix v (n := 8) (by omega) with h | h | ⟨i, hi, rfl⟩
  · exact badm (Or.inl h)
  · exact badm (Or.inr h)
  rcases nrange (v := w) (n := 999) (by omega) with h | ⟨j, hj, rfl⟩
  · refine no ?_ ?_
    · unfold f_X10_machine; rw [co s1, cr0_4 s1, fo_ok (ck7 s1), c_machIn hi, c_yearOut h]; rfl
    · unfold f_X11_machine; rw [m_machIn hi, n_999, m_liesOut h]; rfl
  have cpre : ∀ u, f_X10_machine K M x (nI i) (nI j) u = (f_X10_isYear K M u).bind fun r5 => if r5 = 0 then some (0, M) else if nI j ≤ u then (f_X1_setEnds K M (x + 7) (nI i) (nI j) u).bind fun M7 => some (1, M7) else some (0, M) := by
    intro u
    unfold f_X10_machine; rw [co s1, cr0_4 s1, fo_ok (ck7 s1), c_machIn hi, c_yearIn hj]
    rfl
  have mpre : ∀ M1 : fh_M, mS K M1 (x + 32) → ∀ u, f_X11_machine K M1 (x + 32) (nI i) (nI j) u = (f_X11_lies K M1 u (nI j) 999).bind fun r3 => if r3 = 0 then some (0, M1) else some (1, fh_si (fh_si M1 (x + 32 + 11) i (nI j)) (x + 32 + 12) i u) := by
    intro M1 hS1 u
    unfold f_X11_machine; rw [m_machIn hi, n_999, m_liesIn (by omega) hj]
    simp only [Option.bind_some]
    rw [if_neg (show ¬ (1 : Int32) = 0 by decide), if_neg (show ¬ (1 : Int32) = 0 by decide), mo hS1, mi14 hS1 rfl hi, fb_eq, mi15 (mS_si hS1 _ _ _) rfl hi, fb_eq, cl_n (by omega)]
  rcases nrange (v := u) (n := 999) (by omega) with h | ⟨q, hq, rfl⟩
  · refine no ?_ ?_
    · rw [cpre, c_yearOut h]; rfl
    · rw [mpre M s2, m_lies]
      by_cases z : u < nI j
      · rw [if_pos z]; rfl
      · rw [if_neg z]
        rcases h with h | h
        · exfalso; apply z
          rw [fa_lt] at h ⊢
          rw [nI_toInt (by omega)]
          have : (0 : Int32).toInt = 0 := by decide
          omega
        · rw [n_999, if_pos h]; rfl
  by_cases hle : j ≤ q
  · have y1 : f_X10_machine K M x (nI i) (nI j) (nI q) = some (1, fh_si (fh_si M (x + 8) i (nI j)) (x + 9) i (nI q)) := by
      rw [cpre, c_yearIn hq]
      simp only [Option.bind_some]
      rw [if_neg (show ¬ (1 : Int32) = 0 by decide), if_pos (nI_le hle (by omega))]
      unfold f_X1_setEnds
      rw [fo_ok (ck7 s1), c_machIn hi]
      simp only [Option.bind_some]
      rw [if_neg (show ¬ (1 : Int32) = 0 by decide), cr7_0 s1, fi_ok (ck8 s1) rfl hi (by omega), fb_eq, fh_si_22, cr7_1 s1, fi_ok (ck9 s1) rfl hi (by omega), fb_eq, cl_n (by omega)]
      rfl
    generalize hM1 : fh_si (fh_si M (x + 8) i (nI j)) (x + 9) i (nI q) = M1 at y1
    have e1 : ∀ b k, ¬ (b = x + 8 ∨ b = x + 9) → M1.1 b k = M.1 b k := fun b k z => by rw [← hM1, fh_si_1, if_neg (by omega), fh_si_1, if_neg (by omega)]
    have e2 : M1.2 = M.2 := by rw [← hM1]; rfl
    have s2' : mS K M1 (x + 32) := by rw [← hM1]; exact mS_si (mS_si s2 _ _ _) _ _ _
    have p2' : mP M1 (x + 32) σ := mP_keep p2 (fun b k q1 q2 => e1 b k (by omega))
    have y2 : f_X11_machine K M1 (x + 32) (nI i) (nI j) (nI q) = some (1, fh_si (fh_si M1 (x + 32 + 11) i (nI j)) (x + 32 + 12) i (nI q)) := by
      rw [mpre M1 s2', m_lies, if_neg (nI_nlt hle (by omega)), n_999, if_neg (nI_nlt hq (by omega))]
      rfl
    generalize hσ : fh_u (fh_u σ 11 i j) 12 i q = σ'
    have eσ : ∀ c k, ¬ (c = 11 ∨ c = 12) → σ' c k = σ c k := fun c k z => by rw [← hσ, fh_u_o _ _ _ _ (by omega), fh_u_o _ _ _ _ (by omega)]
    have e11 : ∀ k, σ' 11 k = if k = i then j else σ 11 k := fun k => by
      rw [← hσ, fh_u_o _ _ _ _ (by omega)]
      by_cases z : k = i
      · subst z; rw [fh_u_s, if_pos rfl]
      · rw [fh_u_o _ _ _ _ (by omega), if_neg z]
    have e12 : ∀ k, σ' 12 k = if k = i then q else σ 12 k := fun k => by
      rw [← hσ]
      by_cases z : k = i
      · subst z; rw [fh_u_s, if_pos rfl]
      · rw [fh_u_o _ _ _ _ (by omega), fh_u_o _ _ _ _ (by omega), if_neg z]
    have pc : cP K M1 x σ' := by
      refine cP_flat p1 ⟨fun c k z => eσ c k (by omega), eσ _ _ (by omega), eσ _ _ (by omega), eσ _ _ (by omega)⟩ (fun k _ => eσ _ _ (by omega)) (fun b k z => e1 b k (by omega)) (by rw [e2]) (by rw [e2]) (eσ _ _ (by omega)) (fun k => eσ _ _ (by omega)) ⟨e1 _ _ (by omega), e1 _ _ (by omega), by rw [e1 _ _ (by omega), eσ _ _ (by omega)]; exact p1.1.2.2⟩ ⟨by rw [e1 _ _ (by omega), eσ _ _ (by omega)]; exact p1.2.1.1, fun k hk => by rw [e1 _ _ (by omega), eσ _ _ (by omega)]; exact p1.2.1.2 k (by rw [← eσ 0 1 (by omega)]; exact hk)⟩ (fun k hk => ⟨?_, ?_⟩) ⟨by rw [e1 _ _ (by omega), eσ _ _ (by omega)]; exact p1.2.2.2.1.1, fun r hr => ?_⟩ (e1 _ _ (by omega))
      · rw [e11, ← hM1, fh_si_1, if_neg (by omega), fh_si_1]
        by_cases z : k = i
        · rw [if_pos ⟨rfl, z⟩, if_pos z]
        · rw [if_neg (by omega), if_neg z]; exact (p1.2.2.1 k hk).1
      · rw [e12, ← hM1, fh_si_1]
        by_cases z : k = i
        · rw [if_pos ⟨rfl, z⟩, if_pos z]
        · rw [if_neg (by omega), fh_si_1, if_neg (by omega), if_neg z]; exact (p1.2.2.1 k hk).2
      · rw [e1 _ _ (by omega), e1 _ _ (by omega), eσ _ _ (by omega), eσ _ _ (by omega)]
        exact p1.2.2.2.1.2 r (by rw [← eσ 0 16 (by omega)]; exact hr)
    have s1' : cS K M1 x := cS_keep s1 (fun _ _ _ => rfl) (fun b k _ _ _ _ => by rw [e2])
    obtain ⟨s1'', pc''⟩ := c_other (M' := fh_si (fh_si M1 (x + 32 + 11) i (nI j)) (x + 32 + 12) i (nI q)) s1' pc ⟨fun b k z => by rw [fh_si_1, if_neg (by omega), fh_si_1, if_neg (by omega)], rfl⟩
    refine ⟨1, M1, _, σ', y1, y2, ?_, s1'', pc'', mS_si (mS_si s2' _ _ _) _ _ _, ?_, k1, k2⟩
    · obtain ⟨v0, v1, v2, v3, v4, v5, v6, v7⟩ := hV
      have z0 : ∀ k, σ' 0 k = σ 0 k := fun k => eσ 0 k (by omega)
      refine ⟨?_, fun k => ?_, fun m hm => ?_, fun f hf => ?_, fun f hf => ?_, fun k hk => ?_, fun r hr => ?_, fun t ht => ?_⟩
      · simp only [z0]; exact v0
      · rw [eσ _ _ (by omega), eσ _ _ (by omega), eσ _ _ (by omega)]; exact v1 k
      · rw [z0] at hm; simp only [eσ _ _ (show ¬ (3 = 11 ∨ 3 = 12) by omega), eσ _ _ (show ¬ (4 = 11 ∨ 4 = 12) by omega), eσ _ _ (show ¬ (5 = 11 ∨ 5 = 12) by omega), eσ _ _ (show ¬ (6 = 11 ∨ 6 = 12) by omega)]; exact v2 m hm
      · rw [z0] at hf; simp only [eσ _ _ (show ¬ (8 = 11 ∨ 8 = 12) by omega), eσ _ _ (show ¬ (9 = 11 ∨ 9 = 12) by omega), eσ _ _ (show ¬ (10 = 11 ∨ 10 = 12) by omega)]; exact v3 f hf
      · rw [z0] at hf; rw [eσ _ _ (by omega)]; exact v4 f hf
      · rw [e11, e12]
        have := v5 k hk
        by_cases z : k = i
        · rw [if_pos z, if_pos z]; omega
        · rw [if_neg z, if_neg z]; exact this
      · rw [z0] at hr; simp only [z0, eσ _ _ (show ¬ (13 = 11 ∨ 13 = 12) by omega), eσ _ _ (show ¬ (14 = 11 ∨ 14 = 12) by omega)]; exact v6 r hr
      · rw [z0] at ht; simp only [z0, eσ _ _ (show ¬ (15 = 11 ∨ 15 = 12) by omega), eσ _ _ (show ¬ (16 = 11 ∨ 16 = 12) by omega), eσ _ _ (show ¬ (17 = 11 ∨ 17 = 12) by omega), eσ _ _ (show ¬ (18 = 11 ∨ 18 = 12) by omega), eσ _ _ (show ¬ (19 = 11 ∨ 19 = 12) by omega)]; exact v7 t ht
    · obtain ⟨h1, h2, h3, h4⟩ := p2'
      refine ⟨fun k hk => ?_, fun k hk => ?_, fun c k hc => ?_, fun k => ?_⟩
      · rw [fh_si_1, if_neg (by omega), fh_si_1, if_neg (by omega), eσ _ _ (by omega)]; exact h1 k hk
      · rw [fh_si_1, if_neg (by omega), fh_si_1, if_neg (by omega), eσ _ _ (by omega)]; exact h2 k hk
      · by_cases z : c = 11
        · subst z
          rw [fh_si_1, if_neg (by omega), fh_si_1, e11]
          by_cases z : k = i
          · rw [if_pos ⟨rfl, z⟩, if_pos z]
          · rw [if_neg (by omega), if_neg z]; exact h3 11 k (by omega)
        · by_cases z : c = 12
          · subst z
            rw [fh_si_1, e12]
            by_cases z : k = i
            · rw [if_pos ⟨rfl, z⟩, if_pos z]
            · rw [if_neg (by omega), fh_si_1, if_neg (by omega), if_neg z]; exact h3 12 k (by omega)
          · rw [fh_si_1, if_neg (by omega), fh_si_1, if_neg (by omega), eσ _ _ (by omega)]; exact h3 c k hc
      · rw [fh_si_1, if_neg (by omega), fh_si_1, if_neg (by omega), eσ _ _ (by omega)]; exact h4 k
  · refine no ?_ ?_
    · rw [cpre, c_yearIn hq]
      simp only [Option.bind_some]
      rw [if_neg (show ¬ (1 : Int32) = 0 by decide), if_neg (nI_ge (by omega) (by omega))]
    · rw [mpre M s2, m_lies, if_pos (nI_lt (by omega) (by omega))]; rfl
