theorem Val_of {σ σ' : sT} (hV : Val σ) (hs : sDy σ σ') (h9 : ∀ i, σ' 9 i = σ 9 i) (s01 : σ' 0 1 ≤ 80) (s02 : σ' 0 2 ≤ 999) (s16 : σ' 0 16 ≤ 24) (s37 : σ' 0 37 ≤ 4) (t1 : ∀ j, σ' 1 j < 256) (t5 : ∀ j, j < 8 → σ' 11 j ≤ σ' 12 j ∧ σ' 12 j ≤ 999) (t6 : ∀ r, r < σ' 0 16 → σ' 13 r < σ 0 3 ∧ σ' 14 r < 8) : Val σ' := by
  obtain ⟨v0, v1, v2, v3, v4, v5, v6, v7⟩ := hV
  obtain ⟨e, e3, e9, e19⟩ := hs
  refine ⟨⟨s01, s02, by rw [e3]; exact v0.2.2.1, by rw [e9]; exact v0.2.2.2.1, s16, by rw [e19]; exact v0.2.2.2.2.2.1, s37⟩, fun k => ⟨t1 k, ?_, ?_⟩, fun m hm => ?_, fun f hf => ?_, fun f hf => ?_, t5, fun r hr => ?_, fun t ht => ?_⟩
  · rw [e 2 k (by omega)]; exact (v1 k).2.1
  · rw [e 7 k (by omega)]; exact (v1 k).2.2
  · rw [e3] at hm; rw [e 3 m (by omega), e 4 m (by omega), e 5 m (by omega), e 6 m (by omega)]; exact v2 m hm
  · rw [e9] at hf; rw [e 8 f (by omega), h9, e 10 f (by omega)]; exact v3 f hf
  · rw [e9] at hf; rw [h9]; exact v4 f hf
  · rw [e3]; exact t6 r hr
  · rw [e19] at ht; rw [e3, e 15 t (by omega), e 16 t (by omega), e 17 t (by omega), e 18 t (by omega), e 19 t (by omega)]; exact v7 t ht
theorem c_isTold {K : fh_K} {M : fh_M} {x : Nat} {σ : sT} (s1 : cS K M x) (p1 : cP K M x σ) (hV : Val σ) {m k : Nat} (hm : m < 12) (hk : k < 8) :
    ∀ (n r : Nat), σ 0 16 - r < n → r ≤ σ 0 16 → ((∃ q, r ≤ q ∧ q < σ 0 16 ∧ σ 13 q = m ∧ σ 14 q = k) ∧ f_X3_isTold_L2 K M n (x + 10) (nI m) (nI k) (nI r) = some 1) ∨ ((¬ ∃ q, r ≤ q ∧ q < σ 0 16 ∧ σ 13 q = m ∧ σ 14 q = k) ∧ f_X3_isTold_L2 K M n (x + 10) (nI m) (nI k) (nI r) = some 0) := by
  have hv := hV.1
  intro n
  induction n with
  | zero => intro r h; exact absurd h (Nat.not_lt_zero _)
  | succ n ih =>
    intro r hn hr
    unfold f_X3_isTold_L2 f_X3_isTold_J32
    rw [fo_ok (ck10 s1), p1.2.2.2.1.1]
    by_cases h : r < σ 0 16
    · obtain ⟨d1, d2⟩ := p1.2.2.2.1.2 r h
      obtain ⟨w1, w2⟩ := hV.2.2.2.2.2.2.1 r h
      rw [if_neg (nI_ge h (by omega)), cr10_0 s1, fi_ok (ck11 s1) rfl (by omega) (by omega), cr10_1 s1, fi_ok (ck12 s1) rfl (by omega) (by omega), cl_n (by omega), d1, d2, nI_1]
      have nxt : ¬ (σ 13 r = m ∧ σ 14 r = k) → ((∃ q, r ≤ q ∧ q < σ 0 16 ∧ σ 13 q = m ∧ σ 14 q = k) ∧ f_X3_isTold_L2 K M n (x + 10) (nI m) (nI k) (nI (r + 1)) = some 1) ∨ ((¬ ∃ q, r ≤ q ∧ q < σ 0 16 ∧ σ 13 q = m ∧ σ 14 q = k) ∧ f_X3_isTold_L2 K M n (x + 10) (nI m) (nI k) (nI (r + 1)) = some 0) := by
        intro hne
        rcases ih (r + 1) (by omega) (by omega) with ⟨⟨q, q1, q2, q3⟩, e⟩ | ⟨q1, e⟩
        · exact Or.inl ⟨⟨q, by omega, q2, q3⟩, e⟩
        · refine Or.inr ⟨?_, e⟩
          rintro ⟨q, z1, z2, z3⟩
          by_cases eq : q = r
          · rw [eq] at z3; exact hne z3
          · exact q1 ⟨q, by omega, z2, z3⟩
      by_cases e1 : σ 13 r = m
      · rw [if_pos (by rw [e1])]
        by_cases e2 : σ 14 r = k
        · rw [if_pos (by rw [e2])]
          exact Or.inl ⟨⟨r, Nat.le_refl _, h, e1, e2⟩, rfl⟩
        · rw [if_neg (fun z => e2 (n_inj (by omega) (by omega) z))]
          exact nxt (fun z => e2 z.2)
      · rw [if_neg (fun z => e1 (n_inj (by omega) (by omega) z))]
        exact nxt (fun z => e1 z.1)
    · rw [if_pos (nI_le (by omega) (by omega))]
      exact Or.inr ⟨by rintro ⟨q, z1, z2, -⟩; omega, rfl⟩
theorem m_told {K : fh_K} {M : fh_M} {y : Nat} {σ : sT} (s2 : mS K M y) (p2 : mP M y σ) (hV : Val σ) {m k : Nat} (hm : m < 12) (hk : k < 8) :
    ∀ (n r : Nat), σ 0 16 - r < n → r ≤ σ 0 16 → ((∃ q, r ≤ q ∧ q < σ 0 16 ∧ σ 13 q = m ∧ σ 14 q = k) ∧ f_X11_reader_L28 K n y (nI m) (nI k) (nI r) M = some (0, M)) ∨ ((¬ ∃ q, r ≤ q ∧ q < σ 0 16 ∧ σ 13 q = m ∧ σ 14 q = k) ∧ f_X11_reader_L28 K n y (nI m) (nI k) (nI r) M = f_X11_reader_J64 K y (nI m) (nI k) M) := by
  have hv := hV.1
  intro n
  induction n with
  | zero => intro r h; exact absurd h (Nat.not_lt_zero _)
  | succ n ih =>
    intro r hn hr
    unfold f_X11_reader_L28 f_X11_reader_J58
    rw [mo s2, mP_s p2 16 (by omega)]
    by_cases h : r < σ 0 16
    · obtain ⟨w1, w2⟩ := hV.2.2.2.2.2.2.1 r h
      rw [if_neg (nI_ge h (by omega)), mi17 s2 rfl (by omega), mi18 s2 rfl (by omega), cl_n (by omega), mP_a p2 13 r (by omega), mP_a p2 14 r (by omega), nI_1]
      have nxt : ¬ (σ 13 r = m ∧ σ 14 r = k) → ((∃ q, r ≤ q ∧ q < σ 0 16 ∧ σ 13 q = m ∧ σ 14 q = k) ∧ f_X11_reader_L28 K n y (nI m) (nI k) (nI (r + 1)) M = some (0, M)) ∨ ((¬ ∃ q, r ≤ q ∧ q < σ 0 16 ∧ σ 13 q = m ∧ σ 14 q = k) ∧ f_X11_reader_L28 K n y (nI m) (nI k) (nI (r + 1)) M = f_X11_reader_J64 K y (nI m) (nI k) M) := by
        intro hne
        rcases ih (r + 1) (by omega) (by omega) with ⟨⟨q, q1, q2, q3⟩, e⟩ | ⟨q1, e⟩
        · exact Or.inl ⟨⟨q, by omega, q2, q3⟩, e⟩
        · refine Or.inr ⟨?_, e⟩
          rintro ⟨q, z1, z2, z3⟩
          by_cases eq : q = r
          · rw [eq] at z3; exact hne z3
          · exact q1 ⟨q, by omega, z2, z3⟩
      by_cases e1 : σ 13 r = m
      · rw [if_pos (by rw [e1])]
        by_cases e2 : σ 14 r = k
        · rw [if_pos (by rw [e2])]
          exact Or.inl ⟨⟨r, Nat.le_refl _, h, e1, e2⟩, rfl⟩
        · rw [if_neg (fun z => e2 (n_inj (by omega) (by omega) z))]
          exact nxt (fun z => e2 z.2)
      · rw [if_neg (fun z => e1 (n_inj (by omega) (by omega) z))]
        exact nxt (fun z => e1 z.1)
    · rw [if_pos (nI_le (by omega) (by omega))]
      exact Or.inr ⟨by rintro ⟨q, z1, z2, -⟩; omega, rfl⟩
/-- READER -/
theorem op_reader {sz : Nat} {K : fh_K} {M : fh_M} {x : Nat} {σ : sT} (hI : Inv sz K M x σ) (v w : Int32) : Op sz K M x (fun K M x => f_X10_reader K M x v w) (fun K M y => f_X11_reader K M y v w) := by
  obtain ⟨hV, s1, p1, s2, p2, k1, k2⟩ := id hI
  have hv := hV.1
  have no : f_X10_reader K M x v w = some (0, M) → f_X11_reader K M (x + 32) v w = some (0, M) → Op sz K M x (fun K M x => f_X10_reader K M x v w) (fun K M y => f_X11_reader K M y v w) := fun a b => ⟨0, M, M, σ, a, b, hI⟩
  have badm : (v < 0 ∨ nI (σ 0 3) ≤ v) → Op sz K M x (fun K M x => f_X10_reader K M x v w) (fun K M y => f_X11_reader K M y v w) := by
    intro h
    refine no ?_ ?_
    · unfold f_X10_reader; rw [co s1, c_makeOut s1 p1 h]; rfl
    · unfold f_X11_reader; rw [mo s2, m_makeOut s2 p2 hV h]; rfl
  rcases pk_ix v (n := σ 0 3) (by omega) with h | h | ⟨m, hm, rfl⟩
  · exact badm (Or.inl h)
  · exact badm (Or.inr h)
  obtain ⟨am, ak, em, -⟩ := p1.2.2.2.2.2.2.1 m hm
  have badk : (w < 0 ∨ nI 8 ≤ w) → Op sz K M x (fun K M x => f_X10_reader K M x (nI m) w) (fun K M y => f_X11_reader K M y (nI m) w) := by
    intro h
    refine no ?_ ?_
    · unfold f_X10_reader; rw [co s1, c_makeIn s1 p1 hV hm, em, cr0_4 s1, fo_ok (ck7 s1), c_machOut h]; rfl
    · unfold f_X11_reader; rw [mo s2, m_makeIn s2 p2 hV hm, m_machOut h]; rfl
  rcases pk_ix w (n := 8) (by omega) with h | h | ⟨k, hk, rfl⟩
  · exact badk (Or.inl h)
  · exact badk (Or.inr h)
  have cpre : f_X10_reader K M x (nI m) (nI k) = fc2 (f_X3_add K M (x + 10) (nI m) (nI k)) fun r6 M7 => fz r6 <| some (r6, M7) := by
    unfold f_X10_reader
    rw [co s1, c_makeIn s1 p1 hV hm, em, cr0_4 s1, fo_ok (ck7 s1), c_machIn hk, cr0_5 s1, fo_ok (ck10 s1)]
    rfl
  have mpre : ∀ M1, mS K M1 (x + 32) → mP M1 (x + 32) σ → f_X11_reader K M1 (x + 32) (nI m) (nI k) = if nI (σ 0 16) = 24 then some (0, M1) else f_X11_reader_L28 K 4096 (x + 32) (nI m) (nI k) 0 M1 := by
    intro M1 hS1 hP1
    unfold f_X11_reader
    rw [mo hS1, m_makeIn hS1 hP1 hV hm, m_machIn hk, mP_s hP1 16 (by omega)]
    rfl
  by_cases full : σ 0 16 = 24
  · refine no ?_ ?_
    · rw [cpre]; unfold f_X3_add
      rw [fo_ok (ck10 s1), p1.2.2.2.1.1, full, if_pos (show (24 : Int32) ≤ nI 24 by decide)]; rfl
    · rw [mpre M s2 p2, full, if_pos (show nI 24 = 24 from rfl)]
  have hnf : ¬ nI (σ 0 16) = 24 := fun z => full (n_inj (b := 24) (by omega) (by omega) z)
  have cadd : ∀ b : Int32, f_X3_isTold K M (x + 10) (nI m) (nI k) = some b → f_X3_add K M (x + 10) (nI m) (nI k) = if b = 0 then some (1, fh_si (fh_si (fh_si M (x + 11) (σ 0 16) (nI m)) (x + 12) (σ 0 16) (nI k)) (x + 10) 2 (nI (σ 0 16 + 1))) else some (0, M) := by
    intro b hb
    unfold f_X3_add
    rw [fo_ok (ck10 s1), p1.2.2.2.1.1, n_24, if_neg (nI_ge (by omega) (by omega)), hb]
    simp only [Option.bind_some]
    have d1 : (fh_si M (x + 11) (σ 0 16) (nI m)).1 (x + 10) 2 = nI (σ 0 16) := by rw [fh_si_1, if_neg (by omega)]; exact p1.2.2.2.1.1
    have d2 : (fh_si (fh_si M (x + 11) (σ 0 16) (nI m)) (x + 12) (σ 0 16) (nI k)).1 (x + 10) 2 = nI (σ 0 16) := by rw [fh_si_1, if_neg (by omega)]; exact d1
    rw [cr10_0 s1, fi_ok (ck11 s1) rfl (by omega) (by omega), fb_eq, cl_n (by omega), fh_si_22, cr10_1 s1, d1, fi_ok (ck12 s1) rfl (by omega) (by omega), fb_eq, cl_n (by omega), fb_eq, d2, nI_1]
  have tc := c_isTold s1 p1 hV (m := m) (k := k) (by omega) hk 4096 0 (by omega) (by omega)
  rcases tc with ⟨ht, e⟩ | ⟨ht, e⟩
  · have e' : f_X3_isTold K M (x + 10) (nI m) (nI k) = some 1 := e
    refine no ?_ ?_
    · rw [cpre, cadd 1 e', if_neg (show ¬ (1 : Int32) = 0 by decide)]; rfl
    · rw [mpre M s2 p2, if_neg hnf]
      rcases m_told s2 p2 hV (m := m) (k := k) (by omega) hk 4096 0 (by omega) (by omega) with ⟨-, z⟩ | ⟨z, -⟩
      · exact z
      · exact absurd ht z
  · have e' : f_X3_isTold K M (x + 10) (nI m) (nI k) = some 0 := e
    have y1 : f_X10_reader K M x (nI m) (nI k) = some (1, fh_si (fh_si (fh_si M (x + 11) (σ 0 16) (nI m)) (x + 12) (σ 0 16) (nI k)) (x + 10) 2 (nI (σ 0 16 + 1))) := by
      rw [cpre, cadd 0 e', if_pos rfl]; rfl
    generalize hM1 : fh_si (fh_si (fh_si M (x + 11) (σ 0 16) (nI m)) (x + 12) (σ 0 16) (nI k)) (x + 10) 2 (nI (σ 0 16 + 1)) = M1 at y1
    have e1 : ∀ b j, ¬ (b = x + 10 ∨ b = x + 11 ∨ b = x + 12) → M1.1 b j = M.1 b j := fun b j z => by rw [← hM1, fh_si_1, if_neg (by omega), fh_si_1, if_neg (by omega), fh_si_1, if_neg (by omega)]
    have e2 : M1.2 = M.2 := by rw [← hM1]; rfl
    have s2' : mS K M1 (x + 32) := by rw [← hM1]; exact mS_si (mS_si (mS_si s2 _ _ _) _ _ _) _ _ _
    have p2' : mP M1 (x + 32) σ := mP_keep p2 (fun b k q1 q2 => e1 b k (by omega))
    have y2 : f_X11_reader K M1 (x + 32) (nI m) (nI k) = some (1, fh_si (fh_si (fh_si M1 (x + 32 + 13) (σ 0 16) (nI m)) (x + 32 + 14) (σ 0 16) (nI k)) (x + 32) 16 (nI (σ 0 16 + 1))) := by
      rw [mpre M1 s2' p2', if_neg hnf]
      rcases m_told s2' p2' hV (m := m) (k := k) (by omega) hk 4096 0 (by omega) (by omega) with ⟨z, -⟩ | ⟨-, z⟩
      · exact absurd z ht
      · refine z.trans ?_
        unfold f_X11_reader_J64
        have d1 : (fh_si M1 (x + 32 + 13) (σ 0 16) (nI m)).1 (x + 32) 16 = nI (σ 0 16) := by rw [fh_si_1, if_neg (by omega)]; exact mP_s p2' 16 (by omega)
        have d2 : (fh_si (fh_si M1 (x + 32 + 13) (σ 0 16) (nI m)) (x + 32 + 14) (σ 0 16) (nI k)).1 (x + 32) 16 = nI (σ 0 16) := by rw [fh_si_1, if_neg (by omega)]; exact d1
        rw [mo s2', mi17 s2' (mP_s p2' 16 (by omega)) (by omega), fb_eq, mP_s p2' 16 (by omega), cl_n (by omega), mi18 (mS_si s2' _ _ _) d1 (by omega), fb_eq, d1, cl_n (by omega), fb_eq, d2, nI_1]
    generalize hσ : fh_u (fh_u (fh_u σ 13 (σ 0 16) m) 14 (σ 0 16) k) 0 16 (σ 0 16 + 1) = σ'
    have eσ : ∀ c j, ¬ (c = 13 ∨ c = 14 ∨ (c = 0 ∧ j = 16)) → σ' c j = σ c j := fun c j z => by rw [← hσ, fh_u_o _ _ _ _ (by omega), fh_u_o _ _ _ _ (by omega), fh_u_o _ _ _ _ (by omega)]
    have e16 : σ' 0 16 = σ 0 16 + 1 := by rw [← hσ, fh_u_s]
    have e13 : ∀ j, σ' 13 j = if j = σ 0 16 then m else σ 13 j := fun j => by
      rw [← hσ, fh_u_o _ _ _ _ (by omega), fh_u_o _ _ _ _ (by omega)]
      by_cases z : j = σ 0 16
      · rw [z, fh_u_s, if_pos rfl]
      · rw [fh_u_o _ _ _ _ (by omega), if_neg z]
    have e14 : ∀ j, σ' 14 j = if j = σ 0 16 then k else σ 14 j := fun j => by
      rw [← hσ, fh_u_o _ _ _ _ (by omega)]
      by_cases z : j = σ 0 16
      · rw [z, fh_u_s, if_pos rfl]
      · rw [fh_u_o _ _ _ _ (by omega), fh_u_o _ _ _ _ (by omega), if_neg z]
    have hdy : sDy σ σ' := ⟨fun c j z => eσ c j (by omega), eσ _ _ (by omega), eσ _ _ (by omega), eσ _ _ (by omega)⟩
    have pc : cP K M1 x σ' := by
      refine cP_flat p1 hdy (fun j _ => eσ _ _ (by omega)) (fun b j z => e1 b j (by omega)) (by rw [e2]) (by rw [e2]) (eσ _ _ (by omega)) (fun j => eσ _ _ (by omega)) ⟨e1 _ _ (by omega), e1 _ _ (by omega), by rw [e1 _ _ (by omega), eσ _ _ (by omega)]; exact p1.1.2.2⟩ ⟨by rw [e1 _ _ (by omega), eσ _ _ (by omega)]; exact p1.2.1.1, fun j hj => by rw [e1 _ _ (by omega), eσ _ _ (by omega)]; exact p1.2.1.2 j (by rw [← eσ 0 1 (by omega)]; exact hj)⟩ (fun j hj => ⟨by rw [e1 _ _ (by omega), eσ _ _ (by omega)]; exact (p1.2.2.1 j hj).1, by rw [e1 _ _ (by omega), eσ _ _ (by omega)]; exact (p1.2.2.1 j hj).2⟩) ⟨?_, fun r hr => ⟨?_, ?_⟩⟩ (e1 _ _ (by omega))
      · rw [e16, ← hM1, fh_si_1, if_pos ⟨rfl, rfl⟩]
      · rw [e13, ← hM1, fh_si_1, if_neg (by omega), fh_si_1, if_neg (by omega), fh_si_1]
        by_cases z : r = σ 0 16
        · rw [if_pos ⟨rfl, z⟩, if_pos z]
        · rw [if_neg (by omega), if_neg z]; exact (p1.2.2.2.1.2 r (by omega)).1
      · rw [e14, ← hM1, fh_si_1, if_neg (by omega), fh_si_1]
        by_cases z : r = σ 0 16
        · rw [if_pos ⟨rfl, z⟩, if_pos z]
        · rw [if_neg (by omega), fh_si_1, if_neg (by omega), if_neg z]; exact (p1.2.2.2.1.2 r (by omega)).2
    have s1' : cS K M1 x := cS_keep s1 (fun _ _ _ => rfl) (fun b k _ _ _ _ => by rw [e2])
    obtain ⟨s1'', pc''⟩ := c_other (M' := fh_si (fh_si (fh_si M1 (x + 32 + 13) (σ 0 16) (nI m)) (x + 32 + 14) (σ 0 16) (nI k)) (x + 32) 16 (nI (σ 0 16 + 1))) s1' pc ⟨fun b k z => by rw [fh_si_1, if_neg (by omega), fh_si_1, if_neg (by omega), fh_si_1, if_neg (by omega)], rfl⟩
    refine ⟨1, M1, _, σ', y1, y2, ?_, s1'', pc'', mS_si (mS_si (mS_si s2' _ _ _) _ _ _) _ _ _, ?_, k1, k2⟩
    · refine Val_of hV hdy (fun j => eσ _ _ (by omega)) (by rw [eσ _ _ (by omega)]; omega) (by rw [eσ _ _ (by omega)]; omega) (by omega) (by rw [eσ _ _ (by omega)]; omega) (fun j => by rw [eσ _ _ (by omega)]; exact (hV.2.1 j).1) (fun j hj => by rw [eσ _ _ (by omega), eσ _ _ (by omega)]; exact hV.2.2.2.2.2.1 j hj) (fun r hr => ?_)
      rw [e13, e14]
      by_cases z : r = σ 0 16
      · rw [if_pos z, if_pos z]; exact ⟨hm, hk⟩
      · rw [if_neg z, if_neg z]; exact hV.2.2.2.2.2.2.1 r (by omega)
    · obtain ⟨h1, h2, h3, h4⟩ := p2'
      refine ⟨fun j hj => ?_, fun j hj => ?_, fun c j hc => ?_, fun j => ?_⟩
      · by_cases z : j = 16
        · subst z; rw [fh_si_1, if_pos ⟨rfl, rfl⟩, e16]
        · rw [fh_si_1, if_neg (by omega), fh_si_1, if_neg (by omega), fh_si_1, if_neg (by omega), eσ _ _ (by omega)]; exact h1 j hj
      · rw [fh_si_1, if_neg (by omega), fh_si_1, if_neg (by omega), fh_si_1, if_neg (by omega), eσ _ _ (by omega)]; exact h2 j hj
      · by_cases z : c = 13
        · subst z
          rw [fh_si_1, if_neg (by omega), fh_si_1, if_neg (by omega), fh_si_1, e13]
          by_cases z : j = σ 0 16
          · rw [if_pos ⟨rfl, z⟩, if_pos z]
          · rw [if_neg (by omega), if_neg z]; exact h3 13 j (by omega)
        · by_cases z : c = 14
          · subst z
            rw [fh_si_1, if_neg (by omega), fh_si_1, e14]
            by_cases z : j = σ 0 16
            · rw [if_pos ⟨rfl, z⟩, if_pos z]
            · rw [if_neg (by omega), fh_si_1, if_neg (by omega), if_neg z]; exact h3 14 j (by omega)
          · rw [fh_si_1, if_neg (by omega), fh_si_1, if_neg (by omega), fh_si_1, if_neg (by omega), eσ _ _ (by omega)]; exact h3 c j hc
      · rw [fh_si_1, if_neg (by omega), fh_si_1, if_neg (by omega), fh_si_1, if_neg (by omega), eσ _ _ (by omega)]; exact h4 j
