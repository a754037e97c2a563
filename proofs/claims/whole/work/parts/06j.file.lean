def OpA (sz : Nat) (K : fh_K) (M : fh_M) (x : Nat) (cf : Nat → fh_K → fh_M → Nat → Option (Int32 × Nat × fh_K × fh_M)) (mf : fh_K → fh_M → Nat → Option (Int32 × fh_M)) : Prop := ∃ r sz' K' M1 M2 σ', cf sz K M x = some (r, sz', K', M1) ∧ mf K' M1 (x + 32) = some (r, M2) ∧ Inv sz' K' M2 x σ'
theorem fc4_some {α β γ : Type} (d : α) (a : Nat) (b : fh_K) (c : β) (f : α → Nat → fh_K → β → Option γ) : fc4 (some (d, a, b, c)) f = f d a b c := rfl
theorem m_fileL {K : fh_K} {y n nf : Nat} {σ : sT} (hn : n ≤ 60) (hnf : nf < 40) (hM0 : fh_M) (hP : ∀ j, j < 80 → hM0.1 (y + 1) j &&& 255 = nI (σ 1 j)) (h9 : hM0.1 y 9 = nI nf) (hS0 : mS K hM0 y) :
    ∀ (N k : Nat) (M : fh_M), n - k < N → k ≤ n → M.2 = hM0.2 → (∀ a j, a ≠ y + 7 → M.1 a j = hM0.1 a j) → (∀ j, M.1 (y + 7) j = if 60 * nf ≤ j ∧ j < 60 * nf + k then nI (σ 1 (j - 60 * nf)) else hM0.1 (y + 7) j) →
      ∃ M', f_X11_file_L31 K N y (nI n) (nI k) M = f_X11_file_J66 K y (nI n) M' ∧ M'.2 = hM0.2 ∧ (∀ a j, a ≠ y + 7 → M'.1 a j = hM0.1 a j) ∧ ∀ j, M'.1 (y + 7) j = if 60 * nf ≤ j ∧ j < 60 * nf + n then nI (σ 1 (j - 60 * nf)) else hM0.1 (y + 7) j := by
  intro N
  induction N with
  | zero => intro k M h; exact absurd h (Nat.not_lt_zero _)
  | succ N ih =>
    intro k M hN hk e2 e1 e7
    have hS : mS K M y := mS_keep hS0 (fun _ _ _ => rfl) (by rw [e2])
    unfold f_X11_file_L31
    by_cases h : k < n
    · have e : (60 : Int32) * nI nf + nI k = nI (60 * nf + k) := by rw [n_60, pk_mul, nI_add]
      rw [if_neg (nI_ge h (by omega)), mo hS, mi0 hS rfl (by omega), e1 y 9 (by omega), h9, mi10 hS e (by omega), fb_eq, e, cl_n (by omega), cl_n (by omega), e1 (y + 1) k (by omega), hP k (by omega), nI_1]
      refine ih (k + 1) _ (by omega) (by omega) e2 (fun a j z => by rw [fh_si_1, if_neg (by omega)]; exact e1 a j z) (fun j => ?_)
      rw [fh_si_1]
      by_cases z : j = 60 * nf + k
      · rw [if_pos ⟨rfl, z⟩, if_pos (by omega), z, Nat.add_sub_cancel_left]
      · rw [if_neg (fun q => z q.2), e7 j]
        by_cases z2 : 60 * nf ≤ j ∧ j < 60 * nf + k
        · rw [if_pos z2, if_pos (by omega)]
        · rw [if_neg z2, if_neg (by omega)]
    · obtain rfl : k = n := by omega
      rw [if_pos (nI_le (Nat.le_refl _) (by omega))]
      exact ⟨M, rfl, e2, e1, e7⟩
/-- FILE -/
theorem op_file {sz : Nat} {K : fh_K} {M : fh_M} {x : Nat} {σ : sT} (hI : Inv sz K M x σ) (v : Int32) : OpA sz K M x (fun sz K M x => f_X10_file sz K M x v) (fun K M y => f_X11_file K M y v) := by
  obtain ⟨hV, s1, p1, s2, p2, k1, k2⟩ := id hI
  have hv := hV.1
  have t1 := p1.2.1.1
  have no : f_X10_file sz K M x v = some (-1, sz, K, M) → f_X11_file K M (x + 32) v = some (-1, M) → OpA sz K M x (fun sz K M x => f_X10_file sz K M x v) (fun K M y => f_X11_file K M y v) := fun a b => ⟨-1, sz, K, M, M, σ, a, b, hI⟩
  have e1 : (1 : Int32) = nI 1 := rfl
  rcases nrange (v := v) (n := 60) (by omega) with h | ⟨n, hn, rfl⟩
  · refine no ?_ ?_
    · unfold f_X10_file
      by_cases z : v < 1
      · rw [if_pos z]
      · rw [if_neg z]
        rcases h with h | h
        · exfalso; apply z
          rw [fa_lt] at h ⊢
          have q0 : (0 : Int32).toInt = 0 := by decide
          have q1 : (1 : Int32).toInt = 1 := by decide
          omega
        · rw [n_60, if_pos h]
    · unfold f_X11_file
      rw [m_lies]
      by_cases z : v < 1
      · rw [if_pos z]; rfl
      · rw [if_neg z]
        rcases h with h | h
        · exfalso; apply z
          rw [fa_lt] at h ⊢
          have q0 : (0 : Int32).toInt = 0 := by decide
          have q1 : (1 : Int32).toInt = 1 := by decide
          omega
        · rw [n_60, if_pos h]; rfl
  by_cases hn0 : n = 0
  · subst hn0
    exact no rfl rfl
  have g1 : ¬ nI n < 1 := by rw [e1]; exact nI_nlt (by omega) (by omega)
  have g2 : ¬ (60 : Int32) < nI n := by rw [n_60]; exact nI_nlt hn (by omega)
  have mpre : ∀ (K' : fh_K) (M1 : fh_M), mS K' M1 (x + 32) → mP M1 (x + 32) σ → f_X11_file K' M1 (x + 32) (nI n) = if nI (σ 0 9) = 40 then some (-1, M1) else if nI n ≤ nI (σ 0 1) then f_X11_file_L31 K' 4096 (x + 32) (nI n) 0 M1 else some (-1, M1) := by
    intro K' M1 hS1 hP1
    unfold f_X11_file
    rw [m_lies, if_neg g1, if_neg g2]
    simp only [Option.bind_some]
    rw [if_neg (show ¬ (1 : Int32) = 0 by decide), mo hS1, mP_s hP1 9 (by omega), mP_s hP1 1 (by omega)]
  have cpre : f_X10_file sz K M x (nI n) = if nI (σ 0 1) < nI n then some (-1, sz, K, M) else if nI (σ 0 9) < 40 then fc4 (f_X0_firstBytes sz K M (x + 1) (nI n)) fun r3 w6 K5 M4 => fo K5 10 (some x) fun a7 => fc4 (f_X10_store w6 K5 M4 a7 (r3) ((-1)) (M4.1 a7 12)) fun r8 w11 K10 M9 => fo K10 10 (some x) fun a12 => fo K10 0 (M9.2.2 a12 0) fun a13 => (f_X0_clear K10 M9 a13).bind fun M15 => some (r8, w11, K10, M15) else some (-1, sz, K, M) := by
    unfold f_X10_file
    rw [if_neg g1, if_neg g2, co s1, cr0_0 s1, fo_ok (ck1 s1), t1, p1.1.2.1]
  by_cases ht : ¬ n ≤ σ 0 1
  · refine no ?_ ?_
    · rw [cpre, if_pos (nI_lt (by omega) (by omega))]
    · rw [mpre K M s2 p2, if_neg (nI_ge (by omega) (by omega)), ite_self]
  replace ht : n ≤ σ 0 1 := by omega
  by_cases hf : σ 0 9 = 40
  · refine no ?_ ?_
    · rw [cpre, if_neg (nI_nlt ht (by omega)), hf, if_neg (show ¬ nI 40 < 40 by decide)]
    · rw [mpre K M s2 p2, hf, if_pos (show nI 40 = 40 from rfl)]
  -- the new state
  generalize hσ : (fun c j => if c = 7 ∧ 60 * σ 0 9 ≤ j ∧ j < 60 * σ 0 9 + n then σ 1 (j - 60 * σ 0 9) else if c = 8 ∧ j = σ 0 9 then n else if c = 10 ∧ j = σ 0 9 then 0 else if c = 0 ∧ j = 9 then σ 0 9 + 1 else if c = 0 ∧ j = 1 then 0 else σ c j : sT) = σ'
  have eo : ∀ c j, c ≠ 7 → c ≠ 8 → c ≠ 10 → ¬ (c = 0 ∧ (j = 9 ∨ j = 1)) → σ' c j = σ c j := fun c j z1 z2 z3 z4 => by
    rw [← hσ]; simp only
    rw [if_neg (by omega), if_neg (by omega), if_neg (by omega), if_neg (by omega), if_neg (by omega)]
  have e7 : ∀ j, σ' 7 j = if 60 * σ 0 9 ≤ j ∧ j < 60 * σ 0 9 + n then σ 1 (j - 60 * σ 0 9) else σ 7 j := fun j => by
    rw [← hσ]
    show (if 7 = 7 ∧ _ then _ else if 7 = 8 ∧ _ then _ else if 7 = 10 ∧ _ then _ else if 7 = 0 ∧ _ then _ else if 7 = 0 ∧ _ then _ else _) = _
    by_cases z : 60 * σ 0 9 ≤ j ∧ j < 60 * σ 0 9 + n
    · rw [if_pos ⟨rfl, z⟩, if_pos z]
    · rw [if_neg (fun q => z q.2), if_neg (by omega), if_neg (by omega), if_neg (by omega), if_neg (by omega), if_neg z]
  have e8 : ∀ j, σ' 8 j = if j = σ 0 9 then n else σ 8 j := fun j => by
    rw [← hσ]
    show (if 8 = 7 ∧ _ then _ else if 8 = 8 ∧ _ then _ else if 8 = 10 ∧ _ then _ else if 8 = 0 ∧ _ then _ else if 8 = 0 ∧ _ then _ else _) = _
    by_cases z : j = σ 0 9
    · rw [if_neg (by omega), if_pos ⟨rfl, z⟩, if_pos z]
    · rw [if_neg (by omega), if_neg (by omega), if_neg (by omega), if_neg (by omega), if_neg (by omega), if_neg z]
  have e10 : ∀ j, σ' 10 j = if j = σ 0 9 then 0 else σ 10 j := fun j => by
    rw [← hσ]
    show (if 10 = 7 ∧ _ then _ else if 10 = 8 ∧ _ then _ else if 10 = 10 ∧ _ then _ else if 10 = 0 ∧ _ then _ else if 10 = 0 ∧ _ then _ else _) = _
    by_cases z : j = σ 0 9
    · rw [if_neg (by omega), if_neg (by omega), if_pos ⟨rfl, z⟩, if_pos z]
    · rw [if_neg (by omega), if_neg (by omega), if_neg (by omega), if_neg (by omega), if_neg (by omega), if_neg z]
  have e09 : σ' 0 9 = σ 0 9 + 1 := by rw [← hσ]; simp
  have e01 : σ' 0 1 = 0 := by rw [← hσ]; simp
  have e03 : σ' 0 3 = σ 0 3 := eo 0 3 (by omega) (by omega) (by omega) (by omega)
  have cF' : ∀ i, i < σ 0 9 → ∀ k, k < σ 8 i → cF σ' i k = cF σ i k := fun i hi k hk => by
    have := (hV.2.2.2.1 i hi).2.1
    unfold cF
    rw [e7, if_neg (by omega)]
  have src' : ∀ i, i < σ 0 9 → (isSrc σ' i ↔ isSrc σ i) := fun i hi => by
    unfold isSrc
    rw [e09]
    constructor
    · rintro ⟨g, z1, z2⟩
      rw [e10] at z2
      by_cases z : g = σ 0 9
      · rw [if_pos z] at z2; omega
      · rw [if_neg z] at z2; exact ⟨g, by omega, z2⟩
    · rintro ⟨g, z1, z2⟩
      exact ⟨g, by omega, by rw [e10, if_neg (by omega)]; exact z2⟩
  have srcn : ¬ isSrc σ' (σ 0 9) := by
    rintro ⟨g, z1, z2⟩
    rw [e09] at z1
    rw [e10] at z2
    by_cases z : g = σ 0 9
    · rw [if_pos z] at z2; omega
    · rw [if_neg z] at z2
      have := (hV.2.2.2.1 g (by omega)).2.2.2
      omega
  have ro' : ∀ i, i < σ 0 9 → root σ' 40 i = root σ 40 i := fun i hi => root_ag3 (b := σ 0 9) (fun j hj => ⟨by rw [e10, if_neg (by omega)], (hV.2.2.2.1 j hj).2.2.2⟩) 40 i hi
  have ron : root σ' 40 (σ 0 9) = σ 0 9 := by
    show (if σ' 10 (σ 0 9) = 0 then _ else _) = _
    rw [if_pos (by rw [e10, if_pos rfl])]
  have fr10 : σ' 10 (σ 0 9) = 0 := by rw [e10, if_pos rfl]
  have hV' : Val σ' := by
    obtain ⟨v0, v1, v2, v3, v4, v5, v6, v7⟩ := id hV
    refine ⟨⟨by omega, by rw [eo 0 2 (by omega) (by omega) (by omega) (by omega)]; omega, by omega, by omega, by rw [eo 0 16 (by omega) (by omega) (by omega) (by omega)]; omega, by rw [eo 0 19 (by omega) (by omega) (by omega) (by omega)]; omega, by rw [eo 0 37 (by omega) (by omega) (by omega) (by omega)]; omega⟩, fun j => ⟨?_, ?_, ?_⟩, fun m hm => ?_, fun f hf => ?_, fun f hf => ?_, fun j hj => ?_, fun r hr => ?_, fun t ht => ?_⟩
    · rw [eo 1 j (by omega) (by omega) (by omega) (by omega)]; exact (v1 j).1
    · rw [eo 2 j (by omega) (by omega) (by omega) (by omega)]; exact (v1 j).2.1
    · rw [e7]
      by_cases z : 60 * σ 0 9 ≤ j ∧ j < 60 * σ 0 9 + n
      · rw [if_pos z]; exact (v1 _).1
      · rw [if_neg z]; exact (v1 j).2.2
    · rw [e03] at hm
      rw [eo 3 m (by omega) (by omega) (by omega) (by omega), eo 4 m (by omega) (by omega) (by omega) (by omega), eo 5 m (by omega) (by omega) (by omega) (by omega), eo 6 m (by omega) (by omega) (by omega) (by omega)]; exact v2 m hm
    · rw [e8, e10, eo 9 f (by omega) (by omega) (by omega) (by omega)]
      by_cases z : f = σ 0 9
      · rw [if_pos z, if_pos z, v4 f (by omega)]; omega
      · rw [if_neg z, if_neg z]; exact v3 f (by omega)
    · rw [eo 9 f (by omega) (by omega) (by omega) (by omega)]; exact v4 f (by omega)
    · rw [eo 11 j (by omega) (by omega) (by omega) (by omega), eo 12 j (by omega) (by omega) (by omega) (by omega)]; exact v5 j hj
    · rw [eo 0 16 (by omega) (by omega) (by omega) (by omega)] at hr
      rw [e03, eo 13 r (by omega) (by omega) (by omega) (by omega), eo 14 r (by omega) (by omega) (by omega) (by omega)]; exact v6 r hr
    · rw [eo 0 19 (by omega) (by omega) (by omega) (by omega)] at ht
      rw [e03, eo 15 t (by omega) (by omega) (by omega) (by omega), eo 16 t (by omega) (by omega) (by omega) (by omega), eo 17 t (by omega) (by omega) (by omega) (by omega), eo 18 t (by omega) (by omega) (by omega) (by omega), eo 19 t (by omega) (by omega) (by omega) (by omega)]; exact v7 t ht
  -- the class
  obtain ⟨M4, a1, a2, a3⟩ := c_first (sz := sz) (ck1 s1) (cr1_0 s1) (ck2 s1) (by omega) t1 ht (by omega) (by omega) (k1 sz (by omega))
  generalize hK5 : fh_uk K sz (13, n) = K5 at a1
  have k5s : K5 sz = (13, n) := by rw [← hK5]; exact uk_s _ _ _
  have k5 : ∀ b, b ≠ sz → K5 b = K b := fun b h => by rw [← hK5]; exact uk_o _ _ _ h
  have i4 : ∀ b k, b ≠ sz → M4.1 b k = M.1 b k := fun b k z => by rw [(a2 b z).1]
  have r4 : ∀ b k, b ≠ sz → M4.2.2 b k = M.2.2 b k := fun b k z => by rw [(a2 b z).2.2]
  have s4 : cS K5 M4 x := cS_keep s1 (fun b z1 z2 => k5 b (by omega)) (fun b k z1 z2 _ _ => r4 b k (by omega))
  have mks : ∀ {Kn : fh_K} {Mn : fh_M} (m : Nat), m < σ 0 3 → Mn.2.2 (x + 5) m = M.2.2 (x + 5) m → (∀ b, x + 63 ≤ b → K b ≠ (0, 0) → Kn b = K b) → (∀ b k, x + 63 ≤ b → K b ≠ (0, 0) → K b ≠ (8, 0) → Mn.1 b k = M.1 b k) → (∀ b k, x + 63 ≤ b → K b ≠ (0, 0) → Mn.2.2 b k = M.2.2 b k) → cMk Kn Mn x σ' m := fun m hm z1 z2 z3 z4 => cMk_keep (p1.2.2.2.2.2.2.1 m hm) z1 z2 z3 z4 (eo 3 m (by omega) (by omega) (by omega) (by omega)) (eo 4 m (by omega) (by omega) (by omega) (by omega)) (eo 5 m (by omega) (by omega) (by omega) (by omega)) (eo 6 m (by omega) (by omega) (by omega) (by omega)) (fun k _ => eo 2 _ (by omega) (by omega) (by omega) (by omega))
  obtain ⟨M9, b1, b2, b3, b4, b5, b6⟩ := c_store (K := K5) (M := M4) (x := x) (sz := sz + 1) (σ := σ') (i := σ 0 9) (nm := σ 0 3) (ab := sz) (S := n) s4 (by rw [k5 _ (by omega)]; exact k1 _ (by omega)) (by omega) (by omega) k5s (by rw [i4 _ _ (by omega)]; exact p1.1.2.1) (by omega) (by rw [i4 _ _ (by omega)]; exact p1.1.1) (by omega)
    (fun m hm => mks m hm (r4 _ _ (by omega)) (fun b z1 z2 => k5 b (fun q => z2 (by rw [q]; exact k1 _ (Nat.le_refl _)))) (fun b k z1 z2 _ => i4 b k (fun q => z2 (by rw [q]; exact k1 _ (Nat.le_refl _)))) (fun b k z1 z2 => r4 b k (fun q => z2 (by rw [q]; exact k1 _ (Nat.le_refl _)))))
    (fun m hm => hV'.2.2.1 m (by rw [e03]; exact hm)) (by rw [e8, if_pos rfl]) (by omega) (fun j => (hV'.2.1 j).2) (fun k hk => by
      rw [a3 k hk, p1.2.1.2 k (by omega)]
      unfold cF
      rw [e7, if_pos (by omega), Nat.add_sub_cancel_left]) srcn (by rw [eo 9 _ (by omega) (by omega) (by omega) (by omega)]; exact hV.2.2.2.2.1 _ (Nat.le_refl _))
  rw [fr10, kI_0, ron] at b1
  generalize hK6 : fh_uk K5 (sz + 1) (8, 0) = K6 at b1 b2
  have k6 : ∀ b, b ≠ sz → b ≠ sz + 1 → K6 b = K b := fun b h h' => by rw [← hK6, uk_o _ _ _ h']; exact k5 b h
  have nz : ∀ b, K b ≠ (0, 0) → b ≠ sz ∧ b ≠ sz + 1 := fun b h => ⟨fun q => h (by rw [q]; exact k1 _ (by omega)), fun q => h (by rw [q]; exact k1 _ (by omega))⟩
  have i9 : ∀ b k, b ≠ sz → b ≠ sz + 1 → ¬ rq (x + 22) b k → ¬ (b = x ∧ k = 12) → M9.1 b k = M.1 b k := fun b k z1 z2 z3 z4 => (b3 b k z2 z3 z4).trans (i4 b k z1)
  have r9 : ∀ b k, b ≠ sz → b ≠ sz + 1 → ¬ (b = x + 22 ∧ k = 3) → ¬ (b = x + 6 ∧ k = σ 0 9) → M9.2.2 b k = M.2.2 b k := fun b k z1 z2 z3 z4 => (b6 b k z2 z3 z4).trans (r4 b k z1)
  have s9 : cS K6 M9 x := cS_keep s1 (fun b z1 z2 => k6 b (by omega) (by omega)) (fun b k z1 z2 z3 z4 => r9 b k (by omega) (by omega) (by omega) (by omega))
  have y1 : f_X10_file sz K M x (nI n) = some (nI (σ 0 9), sz + 1 + 1, K6, fh_si M9 (x + 1) 1 0) := by
    rw [cpre, if_neg (nI_nlt ht (by omega)), n_40, if_pos (nI_lt (by omega) (by omega)), a1, fc4_some, co s4, i4 x 12 (by omega), p1.1.2.1, b1, fc4_some, co s9, cr0_0 s9, fo_ok (ck1 s9)]
    unfold f_X0_clear
    rw [fo_ok (ck1 s9)]
    rfl
  generalize hM1 : fh_si M9 (x + 1) 1 0 = M1 at y1
  have i1 : ∀ b k, b ≠ sz → b ≠ sz + 1 → ¬ rq (x + 22) b k → ¬ (b = x ∧ k = 12) → ¬ (b = x + 1) → M1.1 b k = M.1 b k := fun b k z1 z2 z3 z4 z5 => by rw [← hM1, fh_si_1, if_neg (fun q => z5 q.1)]; exact i9 b k z1 z2 z3 z4
  have r1 : ∀ b k, b ≠ sz → b ≠ sz + 1 → ¬ (b = x + 22 ∧ k = 3) → ¬ (b = x + 6 ∧ k = σ 0 9) → M1.2.2 b k = M.2.2 b k := fun b k z1 z2 z3 z4 => by rw [← hM1]; exact r9 b k z1 z2 z3 z4
  have sc : cS K6 M1 x := cS_keep s1 (fun b z1 z2 => k6 b (by omega) (by omega)) (fun b k z1 z2 z3 z4 => r1 b k (by omega) (by omega) (by omega) (by omega))
  obtain ⟨abn, n1, n2, n3, n4, n5, n6, n7, n8, n9, n10, n11, n12, n13, n14, n15⟩ := id b2
  have new : cFm K6 M1 x σ' (σ 0 9) (σ 0 3) (sz + 1) := by
    have q0 : ∀ b k, ¬ (b = x + 1) → M1.1 b k = M9.1 b k := fun b k z => by rw [← hM1, fh_si_1, if_neg (fun q => z q.1)]
    have q2 : M1.2.2 = M9.2.2 := by rw [← hM1]; rfl
    refine ⟨abn, by rw [q2]; exact n1, n2, n3, n4, by rw [q2]; exact n5, n6, fun k hk => by rw [q0 _ _ (by omega)]; exact n7 k hk, ?_, ?_, ?_, ?_, ?_, ?_, ?_, ?_⟩
    all_goals rw [q0 _ _ (by omega)]
    · exact n8
    · exact n9
    · exact n10
    · exact n11
    · exact n12
    · exact n13
    · exact n14
    · exact n15
  have pc : cP K6 M1 x σ' := by
    obtain ⟨⟨c1, c2, c3⟩, ⟨d1, d2⟩, f1, ⟨g3, g4⟩, h1, ⟨p, h2, h3, h4⟩, m1, m2, m3, m4⟩ := id p1
    refine ⟨⟨?_, ?_, ?_⟩, ⟨?_, fun k hk => by omega⟩, fun j hj => ⟨?_, ?_⟩, ⟨?_, fun r hr => ⟨?_, ?_⟩⟩, ?_, ⟨p, h2, ?_, ?_⟩, fun m hm => ?_, fun i hi => ?_, fun t ht => ?_, fun i j hi hj e => ?_⟩
    · rw [i1 _ _ (by omega) (by omega) (by unfold rq; omega) (by omega) (by omega), e03]; exact c1
    · rw [← hM1, fh_si_1, if_neg (by omega), e09]; exact b4
    · rw [i1 _ _ (by omega) (by omega) (by unfold rq; omega) (by omega) (by omega), eo 0 2 (by omega) (by omega) (by omega) (by omega)]; exact c3
    · rw [← hM1, fh_si_1, if_pos ⟨rfl, rfl⟩, e01]; rfl
    · rw [i1 _ _ (by omega) (by omega) (by unfold rq; omega) (by omega) (by omega), eo 11 j (by omega) (by omega) (by omega) (by omega)]; exact (f1 j hj).1
    · rw [i1 _ _ (by omega) (by omega) (by unfold rq; omega) (by omega) (by omega), eo 12 j (by omega) (by omega) (by omega) (by omega)]; exact (f1 j hj).2
    · rw [i1 _ _ (by omega) (by omega) (by unfold rq; omega) (by omega) (by omega), eo 0 16 (by omega) (by omega) (by omega) (by omega)]; exact g3
    · rw [i1 _ _ (by omega) (by omega) (by unfold rq; omega) (by omega) (by omega), eo 13 r (by omega) (by omega) (by omega) (by omega)]; exact (g4 r (by rw [eo 0 16 (by omega) (by omega) (by omega) (by omega)] at hr; exact hr)).1
    · rw [i1 _ _ (by omega) (by omega) (by unfold rq; omega) (by omega) (by omega), eo 14 r (by omega) (by omega) (by omega) (by omega)]; exact (g4 r (by rw [eo 0 16 (by omega) (by omega) (by omega) (by omega)] at hr; exact hr)).2
    · rw [i1 _ _ (by omega) (by omega) (by unfold rq; omega) (by omega) (by omega), eo 0 19 (by omega) (by omega) (by omega) (by omega)]; exact h1
    · have q28 : σ' 28 = σ 28 := funext fun k => eo 28 k (by omega) (by omega) (by omega) (by omega)
      rw [eo 0 37 (by omega) (by omega) (by omega) (by omega), q28]
      have : M1.2.1 x = M.2.1 x := by rw [← hM1]; show M9.2.1 x = _; rw [b5 x (by omega), (a2 x (by omega)).2.1]
      rw [this]; exact h3
    · intro k hk
      rw [eo 0 37 (by omega) (by omega) (by omega) (by omega)] at hk
      rw [eo 28 k (by omega) (by omega) (by omega) (by omega)]; exact h4 k hk
    · rw [e03] at hm
      exact mks m hm (r1 _ _ (by omega) (by omega) (by omega) (by omega)) (fun b z1 z2 => k6 b (nz b z2).1 (nz b z2).2) (fun b k z1 z2 _ => i1 b k (nz b z2).1 (nz b z2).2 (by unfold rq; omega) (by omega) (by omega)) (fun b k z1 z2 => r1 b k (nz b z2).1 (nz b z2).2 (by omega) (by omega))
    · by_cases z : i = σ 0 9
      · subst z
        refine cFl_m.mpr ⟨sz + 1, ?_⟩
        rw [e03]; exact new
      · have hi' : i < σ 0 9 := by omega
        obtain ⟨a, hF⟩ := cFl_m.mp (m2 i hi')
        refine cFl_m.mpr ⟨a, ?_⟩
        rw [e03]
        have hF' := hF
        obtain ⟨ab, -, w2, w3, w4, -⟩ := hF'
        have na := nz a (by rw [w4]; decide)
        refine cFm_ag hF (r1 _ _ (by omega) (by omega) (by omega) (by omega)) (fun b z1 z2 => k6 b (nz b z2).1 (nz b z2).2) (fun k => i1 a k na.1 na.2 (by unfold rq; omega) (by omega) (by omega)) (fun b k z1 z2 => ?_) (fun b k z1 z2 => r1 b k (nz b z2).1 (nz b z2).2 (by omega) (by omega)) (fun m hm => ⟨eo 3 m (by omega) (by omega) (by omega) (by omega), eo 4 m (by omega) (by omega) (by omega) (by omega), eo 5 m (by omega) (by omega) (by omega) (by omega), eo 6 m (by omega) (by omega) (by omega) (by omega), fun k _ => eo 2 _ (by omega) (by omega) (by omega) (by omega)⟩) (cF' i hi') (by rw [e8, if_neg z]) (hV.2.2.2.1 i hi').1 (eo 9 i (by omega) (by omega) (by omega) (by omega)) (by rw [e10, if_neg z]) (ro' i hi') (src' i hi')
        have nb := nz b (fun q => by rw [q] at z2; cases z2)
        exact i1 b k nb.1 nb.2 (by unfold rq; omega) (by omega) (by omega)
    · rw [eo 0 19 (by omega) (by omega) (by omega) (by omega)] at ht
      exact cTn_keep (m3 t ht) (r1 _ _ (by omega) (by omega) (by omega) (by omega)) (fun b z1 z2 => k6 b (nz b z2).1 (nz b z2).2) (fun b k z1 z2 _ => i1 b k (nz b z2).1 (nz b z2).2 (by unfold rq; omega) (by omega) (by omega)) (fun c z1 z2 => eo c t (by omega) (by omega) (by omega) (by omega)) (eo 4 _ (by omega) (by omega) (by omega) (by omega))
    · have nsz : ∀ i, i < σ 0 9 → M1.2.2 (x + 6) i ≠ some (sz + 1) := fun i hi q => by
        rw [r1 _ _ (by omega) (by omega) (by omega) (by omega)] at q
        obtain ⟨a, ab, w1, w2, w3, w4, -⟩ := m2 i hi
        rw [q] at w1
        cases w1
        rw [k1 (sz + 1) (by omega)] at w4
        cases w4
      have n1' : M1.2.2 (x + 6) (σ 0 9) = some (sz + 1) := by rw [← hM1]; exact n1
      by_cases zi : i = σ 0 9
      · by_cases zj : j = σ 0 9
        · omega
        · rw [zi, n1'] at e
          exact absurd e.symm (nsz j (by omega))
      · by_cases zj : j = σ 0 9
        · rw [zj, n1'] at e
          exact absurd e (nsz i (by omega))
        · rw [r1 _ _ (by omega) (by omega) (by omega) (by omega), r1 _ _ (by omega) (by omega) (by omega) (by omega)] at e
          exact m4 i j (by omega) (by omega) e
  -- the model
  have s2' : mS K6 M1 (x + 32) := mS_keep s2 (fun b z1 z2 => k6 b (by omega) (by omega)) (by funext k; exact r1 _ _ (by omega) (by omega) (by omega) (by omega))
  have p2' : mP M1 (x + 32) σ := mP_keep p2 (fun b k z1 z2 => i1 b k (by omega) (by omega) (by unfold rq; omega) (by omega) (by omega))
  obtain ⟨M2, c1, c2, c3, c4⟩ := m_fileL (K := K6) (y := x + 32) (n := n) (nf := σ 0 9) (σ := σ) hn (by omega) M1 p2'.2.1 (mP_s p2' 9 (by omega)) s2' 4096 0 M1 (by omega) (by omega) rfl (fun _ _ _ => rfl) (fun j => by rw [if_neg (by omega)])
  have s2'' : mS K6 M2 (x + 32) := mS_keep s2' (fun _ _ _ => rfl) (by rw [c2])
  have q9 : M2.1 (x + 32) 9 = nI (σ 0 9) := by rw [c3 _ _ (by omega)]; exact mP_s p2' 9 (by omega)
  have y2 : f_X11_file K6 M1 (x + 32) (nI n) = some (nI (σ 0 9), fh_si (fh_si (fh_si (fh_si M2 (x + 32) 1 0) (x + 32 + 8) (σ 0 9) (nI n)) (x + 32 + 10) (σ 0 9) (-1)) (x + 32) 9 (nI (σ 0 9 + 1))) := by
    rw [mpre K6 M1 s2' p2', n_40, if_neg (fun q => hf (n_inj (b := 40) (by omega) (by omega) q)), if_pos (nI_le ht (by omega))]
    refine c1.trans ?_
    unfold f_X11_file_J66
    have z1 : (fh_si M2 (x + 32) 1 0).1 (x + 32) 9 = nI (σ 0 9) := by rw [fh_si_1, if_neg (by omega)]; exact q9
    have z2 : (fh_si (fh_si M2 (x + 32) 1 0) (x + 32 + 8) (σ 0 9) (nI n)).1 (x + 32) 9 = nI (σ 0 9) := by rw [fh_si_1, if_neg (by omega)]; exact z1
    have z3 : (fh_si (fh_si (fh_si M2 (x + 32) 1 0) (x + 32 + 8) (σ 0 9) (nI n)) (x + 32 + 10) (σ 0 9) (-1)).1 (x + 32) 9 = nI (σ 0 9) := by rw [fh_si_1, if_neg (by omega)]; exact z2
    rw [mo s2'', fb_eq, mi11 (mS_si s2'' _ _ _) z1 (by omega), fb_eq, z1, cl_n (by omega), mi13 (mS_si (mS_si s2'' _ _ _) _ _ _) z2 (by omega), fb_eq, z2, cl_n (by omega), fb_eq, z3, nI_1, fh_si_1, if_pos ⟨rfl, rfl⟩, n_1, n_m (by omega)]
    rfl
  generalize hM3 : fh_si (fh_si (fh_si (fh_si M2 (x + 32) 1 0) (x + 32 + 8) (σ 0 9) (nI n)) (x + 32 + 10) (σ 0 9) (-1)) (x + 32) 9 (nI (σ 0 9 + 1)) = M3 at y2
  have u2 : M3.2 = M1.2 := by rw [← hM3]; exact c2
  have u1 : ∀ b k, ¬ (b = x + 39 ∨ b = x + 40 ∨ b = x + 42 ∨ (b = x + 32 ∧ (k = 1 ∨ k = 9))) → M3.1 b k = M1.1 b k := fun b k z => by
    rw [← hM3, fh_si_1, if_neg (by omega), fh_si_1, if_neg (by omega), fh_si_1, if_neg (by omega), fh_si_1, if_neg (by omega)]; exact c3 b k (by omega)
  obtain ⟨sc', pc'⟩ := c_other (M' := M3) sc pc ⟨fun b k z => u1 b k (by omega), u2⟩
  refine ⟨_, sz + 1 + 1, K6, M1, M3, σ', y1, y2, hV', sc', pc', mS_keep s2' (fun _ _ _ => rfl) (by rw [u2]), ?_, fun b hb => by rw [k6 b (by omega) (by omega)]; exact k1 b (by omega), by omega⟩
  obtain ⟨h1, h2, h3, h4⟩ := p2'
  refine ⟨fun j hj => ?_, fun j hj => ?_, fun c j hc => ?_, fun j => ?_⟩
  · by_cases z1 : j = 1
    · subst z1; rw [← hM3, fh_si_1, if_neg (by omega), fh_si_1, if_neg (by omega), fh_si_1, if_neg (by omega), fh_si_1, if_pos ⟨rfl, rfl⟩, e01]; rfl
    · by_cases z2 : j = 9
      · subst z2; rw [← hM3, fh_si_1, if_pos ⟨rfl, rfl⟩, e09]
      · rw [u1 _ _ (by omega), eo 0 j (by omega) (by omega) (by omega) (by omega)]; exact h1 j hj
  · rw [u1 _ _ (by omega), eo 1 j (by omega) (by omega) (by omega) (by omega)]; exact h2 j hj
  · by_cases z7 : c = 7
    · subst z7
      rw [e7, ← hM3, fh_si_1, if_neg (by omega), fh_si_1, if_neg (by omega), fh_si_1, if_neg (by omega), fh_si_1, if_neg (by omega), c4 j]
      by_cases z : 60 * σ 0 9 ≤ j ∧ j < 60 * σ 0 9 + n
      · rw [if_pos z, if_pos z]
      · rw [if_neg z, if_neg z]; exact h3 7 j (by omega)
    · by_cases z8 : c = 8
      · subst z8
        rw [e8, ← hM3, fh_si_1, if_neg (by omega), fh_si_1, if_neg (by omega), fh_si_1]
        by_cases z : j = σ 0 9
        · rw [if_pos ⟨rfl, z⟩, if_pos z]
        · rw [if_neg (fun q => z q.2), if_neg z, fh_si_1, if_neg (by omega), c3 _ _ (by omega)]; exact h3 8 j (by omega)
      · rw [u1 _ _ (by omega), eo c j z7 z8 (by omega) (by omega)]; exact h3 c j hc
  · rw [e10, ← hM3, fh_si_1, if_neg (by omega), fh_si_1]
    by_cases z : j = σ 0 9
    · rw [if_pos ⟨rfl, z⟩, if_pos z]; rfl
    · rw [if_neg (fun q => z q.2), if_neg z, fh_si_1, if_neg (by omega), fh_si_1, if_neg (by omega), c3 _ _ (by omega)]; exact h4 j
