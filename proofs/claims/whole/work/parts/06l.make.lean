def jA (K : fh_K) (x : Nat) (M M' : fh_M) : Prop := (∀ b k, ¬ rq (x + 22) b k → ¬ (x + 63 ≤ b ∧ K b = (8, 0)) → M'.1 b k = M.1 b k) ∧ M'.2.1 = M.2.1 ∧ ∀ b k, ¬ (b = x + 22 ∧ k = 3) → M'.2.2 b k = M.2.2 b k
theorem c_makeL {K : fh_K} {x sz : Nat} {σ : sT} {nf nm : Nat} {fa : Nat → Nat} (hn12 : nm < 12) (hnf : nf ≤ 40) (hv2 : 1 ≤ σ 3 nm ∧ σ 3 nm ≤ 4 ∧ σ 4 nm < 4096 ∧ σ 5 nm ≤ 1 ∧ σ 6 nm ≤ 3) (hv3 : ∀ i, i < nf → 1 ≤ σ 8 i ∧ σ 8 i ≤ 60) (hv1 : ∀ j, σ 2 j < 256 ∧ σ 7 j < 256) (hinj : ∀ i j, i < nf → j < nf → fa i = fa j → i = j) :
    ∀ (N f : Nat) (M : fh_M), nf - f < N → f ≤ nf → cS K M x → M.1 x 11 = nI (nm + 1) → M.1 x 12 = nI nf → cMk K M x σ nm → (∀ i, i < nf → cFm K M x σ i (if i < f then nm + 1 else nm) (fa i)) →
      ∃ M', f_X10_make_L104 N x (nI nm) (nI f) sz K M = some (nI nm, sz, K, M') ∧ jA K x M M' ∧ ∀ i, i < nf → cFm K M' x σ i (nm + 1) (fa i) := by
  intro N
  induction N with
  | zero => intro f M h; exact absurd h (Nat.not_lt_zero _)
  | succ N ih =>
    intro f M hN hf s1 h11 h12 hMk hF
    unfold f_X10_make_L104
    rw [co s1, h12]
    by_cases h : f < nf
    · have hFf := hF f h
      rw [if_neg (by omega : ¬ f < f)] at hFf
      have hFf' := hFf
      obtain ⟨ab, w1, w2, w3, w4, -⟩ := hFf'
      rw [if_neg (nI_ge h (by omega)), cr0_3 s1, fi_ok (ck6 s1) rfl (by omega) (by omega), cl_n (by omega), w1]
      obtain ⟨M1, q1, q2, q3⟩ := c_judge s1 h11 (by omega) (by omega) hMk hFf hv2 (hv3 f h) hv1
      rw [q1]
      simp only [Option.bind_some]
      rw [nI_1]
      obtain ⟨M2, z1, z2, z3⟩ := ih (f + 1) M1 (by omega) (by omega) (jE_S q2 s1) (by rw [q2.1 _ _ (by unfold rq; omega) (by omega)]; exact h11) (by rw [q2.1 _ _ (by unfold rq; omega) (by omega)]; exact h12) (cMk_jE q2 hMk w4) (fun i hi => by
        by_cases e : i = f
        · subst e
          rw [if_pos (by omega)]; exact q3
        · have := cFm_jE q2 (hF i hi) (fun z => e (hinj i f hi h z)) w4
          by_cases z : i < f
          · rw [if_pos z] at this; rw [if_pos (by omega)]; exact this
          · rw [if_neg z] at this; rw [if_neg (by omega)]; exact this)
      refine ⟨M2, z1, ⟨fun b k y1 y2 => (z2.1 b k y1 y2).trans (q2.1 b k y1 (fun y => y2 (by rw [y.1]; exact ⟨w2, w4⟩))), z2.2.1.trans q2.2.1, fun b k y => (z2.2.2 b k y).trans (q2.2.2 b k y)⟩, z3⟩
    · rw [if_pos (nI_le (by omega) (by omega))]
      refine ⟨M, rfl, ⟨fun _ _ _ _ => rfl, rfl, fun _ _ _ => rfl⟩, fun i hi => ?_⟩
      have := hF i hi
      rw [if_pos (by omega)] at this
      exact this
theorem m_makeL {K : fh_K} {y n nm : Nat} {σ : sT} (hn : n ≤ 4) (hnm : nm < 12) (hM0 : fh_M) (hP : ∀ j, j < 80 → hM0.1 (y + 1) j &&& 255 = nI (σ 1 j)) (h3 : hM0.1 y 3 = nI nm) (hS0 : mS K hM0 y) (v2 v3 v4 : Int32) :
    ∀ (N k : Nat) (M : fh_M), n - k < N → k ≤ n → M.2 = hM0.2 → (∀ a j, a ≠ y + 2 → M.1 a j = hM0.1 a j) → (∀ j, M.1 (y + 2) j = if 4 * nm ≤ j ∧ j < 4 * nm + k then nI (σ 1 (j - 4 * nm)) else hM0.1 (y + 2) j) →
      ∃ M', f_X11_make_L52 K N y (nI n) v2 v3 v4 (nI k) M = f_X11_make_J89 K y (nI n) v2 v3 v4 M' ∧ M'.2 = hM0.2 ∧ (∀ a j, a ≠ y + 2 → M'.1 a j = hM0.1 a j) ∧ ∀ j, M'.1 (y + 2) j = if 4 * nm ≤ j ∧ j < 4 * nm + n then nI (σ 1 (j - 4 * nm)) else hM0.1 (y + 2) j := by
  intro N
  induction N with
  | zero => intro k M h; exact absurd h (Nat.not_lt_zero _)
  | succ N ih =>
    intro k M hN hk e2 e1 e7
    have hS : mS K M y := mS_keep hS0 (fun _ _ _ => rfl) (by rw [e2])
    unfold f_X11_make_L52
    by_cases h : k < n
    · have e : (4 : Int32) * nI nm + nI k = nI (4 * nm + k) := by rw [n_4, pk_mul, nI_add]
      rw [if_neg (nI_ge h (by omega)), mo hS, mi0 hS rfl (by omega), e1 y 3 (by omega), h3, mi4 hS e (by omega), fb_eq, e, cl_n (by omega), cl_n (by omega), e1 (y + 1) k (by omega), hP k (by omega), nI_1]
      refine ih (k + 1) _ (by omega) (by omega) e2 (fun a j z => by rw [fh_si_1, if_neg (by omega)]; exact e1 a j z) (fun j => ?_)
      rw [fh_si_1]
      by_cases z : j = 4 * nm + k
      · rw [if_pos ⟨rfl, z⟩, if_pos (by omega), z, Nat.add_sub_cancel_left]
      · rw [if_neg (fun q => z q.2), e7 j]
        by_cases z2 : 4 * nm ≤ j ∧ j < 4 * nm + k
        · rw [if_pos z2, if_pos (by omega)]
        · rw [if_neg z2, if_neg (by omega)]
    · obtain rfl : k = n := by omega
      rw [if_pos (nI_le (Nat.le_refl _) (by omega))]
      exact ⟨M, rfl, e2, e1, e7⟩
theorem nar_z {v : Nat} (h : v ≤ 1) : vp_nar .boolean (nI v) = nI v := by
  rcases (show v = 0 ∨ v = 1 by omega) with rfl | rfl <;> rfl
/-- MAKE -/
theorem op_make {sz : Nat} {K : fh_K} {M : fh_M} {x : Nat} {σ : sT} (hI : Inv sz K M x σ) (v1 v2 v4 : Int32) (s : Nat) (hs1 : s ≤ 1) : OpA sz K M x (fun sz K M x => f_X10_make sz K M x v1 v2 (nI s) v4) (fun K M y => f_X11_make K M y v1 v2 (nI s) v4) := by
  obtain ⟨hV, s1, p1, s2, p2, k1, k2⟩ := id hI
  have hv := hV.1
  have t1 := p1.2.1.1
  have no : f_X10_make sz K M x v1 v2 (nI s) v4 = some (-1, sz, K, M) → f_X11_make K M (x + 32) v1 v2 (nI s) v4 = some (-1, M) → OpA sz K M x (fun sz K M x => f_X10_make sz K M x v1 v2 (nI s) v4) (fun K M y => f_X11_make K M y v1 v2 (nI s) v4) := fun a b => ⟨-1, sz, K, M, M, σ, a, b, hI⟩
  have q01 : (0 : Int32).toInt = 0 := by decide
  have q11 : (1 : Int32).toInt = 1 := by decide
  rcases nrange (v := v1) (n := 4) (by omega) with h | ⟨n, hn, rfl⟩
  · have z1 : ¬ v1 < 1 → nI 4 < v1 := fun z => by
      rcases h with h | h
      · exfalso; apply z; rw [fa_lt] at h ⊢; omega
      · exact h
    refine no ?_ ?_
    · unfold f_X10_make
      by_cases z : v1 < 1
      · rw [if_pos z]
      · rw [if_neg z, n_4, if_pos (z1 z)]
    · unfold f_X11_make
      rw [m_lies]
      by_cases z : v1 < 1
      · rw [if_pos z]; rfl
      · rw [if_neg z, n_4, if_pos (z1 z)]; rfl
  by_cases hn0 : n = 0
  · subst hn0
    exact no rfl rfl
  have g1 : ¬ nI n < 1 := by rw [n_1]; exact nI_nlt (by omega) (by omega)
  have g2 : ¬ (4 : Int32) < nI n := by rw [n_4]; exact nI_nlt hn (by omega)
  have mpre : ∀ (K' : fh_K) (M1 : fh_M), mS K' M1 (x + 32) → mP M1 (x + 32) σ → f_X11_make K' M1 (x + 32) (nI n) v2 (nI s) v4 = (f_X11_lies K' M1 v2 0 4095).bind fun r2 => if r2 = 0 then some (-1, M1) else (f_X11_lies K' M1 v4 0 3).bind fun r3 => if r3 = 0 then some (-1, M1) else if nI (σ 0 3) = 12 then some (-1, M1) else if nI n ≤ nI (σ 0 1) then f_X11_make_L52 K' 4096 (x + 32) (nI n) v2 (nI s) v4 0 M1 else some (-1, M1) := by
    intro K' M1 hS1 hP1
    unfold f_X11_make
    rw [m_lies, if_neg g1, if_neg g2]
    simp only [Option.bind_some]
    rw [if_neg (show ¬ (1 : Int32) = 0 by decide), mo hS1, mP_s hP1 3 (by omega), mP_s hP1 1 (by omega)]
  have cpre : f_X10_make sz K M x (nI n) v2 (nI s) v4 = if nI (σ 0 1) < nI n then some (-1, sz, K, M) else if nI (σ 0 3) < 12 then (f_X10_areProperties K M v2).bind fun r3 => if r3 = 0 then some (-1, sz, K, M) else if v4 < 0 then some (-1, sz, K, M) else if v4 ≤ 3 then fb (fh_uk K sz (2 + 1, 0)) fun K4 => fb (fh_clr M sz) fun M5 => fo K4 10 (some x) fun a6 => fo K4 0 (M5.2.2 a6 0) fun a7 => fc4 (f_X0_firstBytes (sz + 1) K4 M5 a7 (nI n)) fun r8 w11 K10 M9 => (f_X2_init K10 M9 sz r8 v2 (nI s) v4).bind fun M13 => fi K10 17 (some (x + 5)) (nI (σ 0 3)) fun a14 => fo K10 2 (some sz) fun a15 => fb (fh_sr M13 a14 (nI (σ 0 3)).toNatClampNeg (some a15)) fun M16 => fo K10 10 (some x) fun a17 => fb (fh_si M16 a17 11 ((M16.1 a17 11) + 1)) fun M18 => fo K10 0 (M18.2.2 a17 0) fun a19 => (f_X0_clear K10 M18 a19).bind fun M21 => f_X10_make_L104 4096 x (nI (σ 0 3)) 0 w11 K10 M21 else some (-1, sz, K, M) else some (-1, sz, K, M) := by
    unfold f_X10_make
    rw [if_neg g1, if_neg g2, co s1, cr0_0 s1, fo_ok (ck1 s1), t1, p1.1.1, cr0_2 s1]
  rcases nrange (v := v2) (n := 4095) (by omega) with h | ⟨pr, hpr, rfl⟩
  · refine no ?_ ?_
    · rw [cpre, c_propOut h]
      simp only [Option.bind_some, ↓reduceIte, ite_self]
    · rw [mpre K M s2 p2, n_4095, m_liesOut h]; rfl
  rw [c_propIn hpr] at cpre
  simp only [Option.bind_some, show ¬ (1 : Int32) = 0 by decide, if_false] at cpre
  simp only [n_4095, m_liesIn (show 4095 ≤ 65536 by omega) hpr, Option.bind_some, show ¬ (1 : Int32) = 0 by decide, if_false] at mpre
  rcases nrange (v := v4) (n := 3) (by omega) with h | ⟨bd, hbd, rfl⟩
  · refine no ?_ ?_
    · rw [cpre]
      by_cases z : v4 < 0
      · simp only [if_pos z, ite_self]
      · have z3 : ¬ v4 ≤ 3 := by
          have h' := h.resolve_left z
          rw [fa_lt] at h'
          rw [fa_le]
          have q3 : (nI 3).toInt = 3 := by decide
          have q3' : (3 : Int32).toInt = 3 := by decide
          omega
        simp only [if_neg z, if_neg z3, ite_self]
    · rw [mpre K M s2 p2, n_3, m_liesOut h]; rfl
  rw [if_neg (nI_pos (by omega)), n_3, if_pos (nI_le hbd (by omega))] at cpre
  simp only [n_3, m_liesIn (show 3 ≤ 65536 by omega) hbd, Option.bind_some, show ¬ (1 : Int32) = 0 by decide, if_false] at mpre
  by_cases ht : ¬ n ≤ σ 0 1
  · refine no ?_ ?_
    · rw [cpre, if_pos (nI_lt (by omega) (by omega))]
    · rw [mpre K M s2 p2, if_neg (nI_ge (by omega) (by omega)), ite_self]
  replace ht : n ≤ σ 0 1 := by omega
  by_cases hf : σ 0 3 = 12
  · refine no ?_ ?_
    · rw [cpre, if_neg (nI_nlt ht (by omega)), hf, if_neg (show ¬ nI 12 < 12 by decide)]
    · rw [mpre K M s2 p2, hf, if_pos (show nI 12 = 12 from rfl)]
  have hlt : σ 0 3 < 12 := by omega
  -- the new state
  generalize hσ : (fun c j => if c = 2 ∧ 4 * σ 0 3 ≤ j ∧ j < 4 * σ 0 3 + n then σ 1 (j - 4 * σ 0 3) else if c = 3 ∧ j = σ 0 3 then n else if c = 4 ∧ j = σ 0 3 then pr else if c = 5 ∧ j = σ 0 3 then s else if c = 6 ∧ j = σ 0 3 then bd else if c = 0 ∧ j = 3 then σ 0 3 + 1 else if c = 0 ∧ j = 1 then 0 else σ c j : sT) = σ'
  have eo : ∀ c j, ¬ (2 ≤ c ∧ c ≤ 6) → ¬ (c = 0 ∧ (j = 3 ∨ j = 1)) → σ' c j = σ c j := fun c j z1 z2 => by
    rw [← hσ]; simp only
    rw [if_neg (by omega), if_neg (by omega), if_neg (by omega), if_neg (by omega), if_neg (by omega), if_neg (by omega), if_neg (by omega)]
  have em : ∀ c j, 3 ≤ c → c ≤ 6 → j ≠ σ 0 3 → σ' c j = σ c j := fun c j z1 z2 z3 => by
    rw [← hσ]; simp only
    rw [if_neg (by omega), if_neg (by omega), if_neg (by omega), if_neg (by omega), if_neg (by omega), if_neg (by omega), if_neg (by omega)]
  have e2 : ∀ j, σ' 2 j = if 4 * σ 0 3 ≤ j ∧ j < 4 * σ 0 3 + n then σ 1 (j - 4 * σ 0 3) else σ 2 j := fun j => by
    rw [← hσ]
    show (if 2 = 2 ∧ _ then _ else if 2 = 3 ∧ _ then _ else if 2 = 4 ∧ _ then _ else if 2 = 5 ∧ _ then _ else if 2 = 6 ∧ _ then _ else if 2 = 0 ∧ _ then _ else if 2 = 0 ∧ _ then _ else _) = _
    by_cases z : 4 * σ 0 3 ≤ j ∧ j < 4 * σ 0 3 + n
    · rw [if_pos ⟨rfl, z⟩, if_pos z]
    · rw [if_neg (fun q => z q.2), if_neg (by omega), if_neg (by omega), if_neg (by omega), if_neg (by omega), if_neg (by omega), if_neg (by omega), if_neg z]
  have n3 : σ' 3 (σ 0 3) = n := by rw [← hσ]; simp
  have n4 : σ' 4 (σ 0 3) = pr := by rw [← hσ]; simp
  have n5 : σ' 5 (σ 0 3) = s := by rw [← hσ]; simp
  have n6 : σ' 6 (σ 0 3) = bd := by rw [← hσ]; simp
  have e03 : σ' 0 3 = σ 0 3 + 1 := by rw [← hσ]; simp
  have e01 : σ' 0 1 = 0 := by rw [← hσ]; simp
  have e0 : ∀ k, k ≠ 3 → k ≠ 1 → σ' 0 k = σ 0 k := fun k z1 z2 => eo 0 k (by omega) (by omega)
  have mF' : ∀ m, m < σ 0 3 → ∀ k, k < σ 3 m → mF σ' m k = mF σ m k := fun m hm k hk => by
    have := (hV.2.2.1 m hm).2.1
    unfold mF
    rw [e2, if_neg (by omega)]
  have hV' : Val σ' := by
    obtain ⟨v0, v1, v2, v3, v4, v5, v6, v7⟩ := id hV
    refine ⟨⟨by omega, by rw [e0 _ (by omega) (by omega)]; omega, by omega, by rw [e0 _ (by omega) (by omega)]; omega, by rw [e0 _ (by omega) (by omega)]; omega, by rw [e0 _ (by omega) (by omega)]; omega, by rw [e0 _ (by omega) (by omega)]; omega⟩, fun j => ⟨?_, ?_, ?_⟩, fun m hm => ?_, fun f hf => ?_, fun f hf => ?_, fun j hj => ?_, fun r hr => ?_, fun t ht => ?_⟩
    · rw [eo 1 j (by omega) (by omega)]; exact (v1 j).1
    · rw [e2]
      by_cases z : 4 * σ 0 3 ≤ j ∧ j < 4 * σ 0 3 + n
      · rw [if_pos z]; exact (v1 _).1
      · rw [if_neg z]; exact (v1 j).2.1
    · rw [eo 7 j (by omega) (by omega)]; exact (v1 j).2.2
    · by_cases z : m = σ 0 3
      · subst z; rw [n3, n4, n5, n6]; omega
      · rw [em 3 m (by omega) (by omega) z, em 4 m (by omega) (by omega) z, em 5 m (by omega) (by omega) z, em 6 m (by omega) (by omega) z]; exact v2 m (by omega)
    · rw [e0 _ (by omega) (by omega)] at hf
      rw [eo 8 f (by omega) (by omega), eo 9 f (by omega) (by omega), eo 10 f (by omega) (by omega)]; exact v3 f hf
    · rw [e0 _ (by omega) (by omega)] at hf
      rw [eo 9 f (by omega) (by omega)]; exact v4 f hf
    · rw [eo 11 j (by omega) (by omega), eo 12 j (by omega) (by omega)]; exact v5 j hj
    · rw [e0 _ (by omega) (by omega)] at hr
      rw [e03, eo 13 r (by omega) (by omega), eo 14 r (by omega) (by omega)]
      have := v6 r hr; omega
    · rw [e0 _ (by omega) (by omega)] at ht
      rw [e03, eo 15 t (by omega) (by omega), eo 16 t (by omega) (by omega), eo 17 t (by omega) (by omega), eo 18 t (by omega) (by omega), eo 19 t (by omega) (by omega)]
      have := v7 t ht; omega
  -- the class
  have kz0 : K sz = (0, 0) := k1 _ (by omega)
  have kz1 : K (sz + 1) = (0, 0) := k1 _ (by omega)
  generalize hK4 : fh_uk K sz (3, 0) = K4
  have k4s : K4 sz = (3, 0) := by rw [← hK4]; exact uk_s _ _ _
  have k4 : ∀ b, b ≠ sz → K4 b = K b := fun b h => by rw [← hK4]; exact uk_o _ _ _ h
  have f5 := fr_clr sz M
  have s5 : cS K4 (fh_clr M sz) x := cS_keep s1 (fun b z1 z2 => k4 b (by omega)) (fun b k z1 z2 _ _ => by rw [(f5 b (by omega)).2.2])
  obtain ⟨M9, a1, a2, a3⟩ := c_first (sz := sz + 1) (K := K4) (M := fh_clr M sz) (ck1 s5) (cr1_0 s5) (ck2 s5) (by omega) (by rw [(f5 _ (by omega)).1]; exact t1) ht (by omega) (by omega) (by rw [k4 _ (by omega)]; exact kz1)
  generalize hK10 : fh_uk K4 (sz + 1) (13, n) = K10 at a1
  have k10a : K10 (sz + 1) = (13, n) := by rw [← hK10]; exact uk_s _ _ _
  have k10s : K10 sz = (3, 0) := by rw [← hK10, uk_o _ _ _ (by omega)]; exact k4s
  have k10 : ∀ b, b ≠ sz → b ≠ sz + 1 → K10 b = K b := fun b h h' => by rw [← hK10, uk_o _ _ _ h']; exact k4 b h
  have nz : ∀ b, K b ≠ (0, 0) → b ≠ sz ∧ b ≠ sz + 1 := fun b h => ⟨fun q => h (by rw [q]; exact kz0), fun q => h (by rw [q]; exact kz1)⟩
  obtain ⟨M13, b1, b2, b3, b4, b5, b6⟩ : ∃ M13, f_X2_init K10 M9 sz (some (sz + 1)) (nI pr) (nI s) (nI bd) = some M13 ∧ fr sz M9 M13 ∧ M13.2.2 sz 0 = some (sz + 1) ∧ M13.1 sz 1 = nI pr ∧ M13.1 sz 2 = nI s ∧ M13.1 sz 3 = nI bd := by
    unfold f_X2_init
    rw [fo_ok k10s]
    have ez : ∀ z : Option fh_M, fz (nI s) z = z := fun z => by
      rcases (show s = 0 ∨ s = 1 by omega) with rfl | rfl <;> rfl
    simp only [fb_eq, ez]
    refine ⟨_, rfl, fr_tr (fr_tr (fr_tr fr_sr fr_si) fr_si) fr_si, ?_, ?_, ?_, ?_⟩
    · rw [fh_si_22, fh_si_22, fh_si_22, fh_sr_22, if_pos ⟨rfl, rfl⟩]
    all_goals simp [fh_si_1]
  have i13 : ∀ b k, b ≠ sz → b ≠ sz + 1 → M13.1 b k = M.1 b k := fun b k z1 z2 => by rw [(b2 b z1).1, (a2 b z2).1, (f5 b z1).1]
  have r13 : ∀ b k, b ≠ sz → b ≠ sz + 1 → M13.2.2 b k = M.2.2 b k := fun b k z1 z2 => by rw [(b2 b z1).2.2, (a2 b z2).2.2, (f5 b z1).2.2]
  have j13 : ∀ b, b ≠ sz → b ≠ sz + 1 → M13.2.1 b = M.2.1 b := fun b z1 z2 => by rw [(b2 b z1).2.1, (a2 b z2).2.1, (f5 b z1).2.1]
  have s13 : cS K10 M13 x := cS_keep s1 (fun b z1 z2 => k10 b (by omega) (by omega)) (fun b k z1 z2 _ _ => r13 b k (by omega) (by omega))
  generalize hM21 : fh_si (fh_si (fh_sr M13 (x + 5) (σ 0 3) (some sz)) x 11 (nI (σ 0 3 + 1))) (x + 1) 1 0 = M21
  have i21 : ∀ b k, b ≠ sz → b ≠ sz + 1 → ¬ (b = x ∧ k = 11) → ¬ (b = x + 1 ∧ k = 1) → M21.1 b k = M.1 b k := fun b k z1 z2 z3 z4 => by rw [← hM21, fh_si_1, if_neg z4, fh_si_1, if_neg z3, fh_sr_1]; exact i13 b k z1 z2
  have r21 : ∀ b k, b ≠ sz → b ≠ sz + 1 → ¬ (b = x + 5 ∧ k = σ 0 3) → M21.2.2 b k = M.2.2 b k := fun b k z1 z2 z3 => by rw [← hM21, fh_si_22, fh_si_22, fh_sr_22, if_neg z3]; exact r13 b k z1 z2
  have j21 : ∀ b, b ≠ sz → b ≠ sz + 1 → M21.2.1 b = M.2.1 b := fun b z1 z2 => by rw [← hM21]; exact j13 b z1 z2
  have s21 : cS K10 M21 x := cS_keep s1 (fun b z1 z2 => k10 b (by omega) (by omega)) (fun b k z1 z2 _ z4 => r21 b k (by omega) (by omega) (by omega))
  have hpre2 : f_X10_make sz K M x (nI n) (nI pr) (nI s) (nI bd) = f_X10_make_L104 4096 x (nI (σ 0 3)) 0 (sz + 1 + 1) K10 M21 := by
    rw [cpre, if_neg (nI_nlt ht (by omega)), n_12, if_pos (nI_lt hlt (by omega)), fb_eq, fb_eq, show (2 + 1, 0) = ((3, 0) : Nat × Nat) from rfl, hK4, co s5, cr0_0 s5, fo_ok (ck1 s5), a1, fc4_some, b1]
    simp only [Option.bind_some]
    have z11 : (fh_sr M13 (x + 5) (σ 0 3) (some sz)).1 x 11 = nI (σ 0 3) := by rw [fh_sr_1, i13 _ _ (by omega) (by omega)]; exact p1.1.1
    rw [fi_ok (ck5 s13) rfl hlt (by omega), fo_ok k10s, fb_eq, cl_n (by omega), co s13, fb_eq, z11, nI_1]
    have sM : cS K10 (fh_si (fh_sr M13 (x + 5) (σ 0 3) (some sz)) x 11 (nI (σ 0 3 + 1))) x := cS_keep s13 (fun _ _ _ => rfl) (fun b k z1 z2 _ z4 => by rw [fh_si_22, fh_sr_22, if_neg (by omega)])
    rw [cr0_0 sM, fo_ok (ck1 sM)]
    unfold f_X0_clear
    rw [fo_ok (ck1 sM), fb_eq, hM21]
    rfl
  have mks : ∀ {Mn : fh_M} (m : Nat), m < σ 0 3 → Mn.2.2 (x + 5) m = M.2.2 (x + 5) m → (∀ b k, x + 63 ≤ b → K b ≠ (0, 0) → K b ≠ (8, 0) → Mn.1 b k = M.1 b k) → (∀ b k, x + 63 ≤ b → K b ≠ (0, 0) → Mn.2.2 b k = M.2.2 b k) → cMk K10 Mn x σ' m := fun m hm z1 z3 z4 => cMk_keep (p1.2.2.2.2.2.2.1 m hm) z1 (fun b z1 z2 => k10 b (nz b z2).1 (nz b z2).2) z3 z4 (em 3 m (by omega) (by omega) (by omega)) (em 4 m (by omega) (by omega) (by omega)) (em 5 m (by omega) (by omega) (by omega)) (em 6 m (by omega) (by omega) (by omega)) (mF' m hm)
  have mkn : cMk K10 M21 x σ' (σ 0 3) := by
    refine ⟨sz, sz + 1, by rw [← hM21, fh_si_22, fh_si_22, fh_sr_22, if_pos ⟨rfl, rfl⟩], k2, by omega, ⟨k10s, ?_, by rw [n3]; exact k10a, ?_, ?_, fun k hk => ?_⟩, ?_⟩
    · rw [← hM21, fh_si_22, fh_si_22, fh_sr_22, if_neg (by omega)]; exact b3
    · rw [← hM21, fh_si_1, if_neg (by omega), fh_si_1, if_neg (by omega), fh_sr_1, n4]; exact b4
    · rw [← hM21, fh_si_1, if_neg (by omega), fh_si_1, if_neg (by omega), fh_sr_1, n5]; exact b5
    · rw [n3] at hk
      rw [← hM21, fh_si_1, if_neg (by omega), fh_si_1, if_neg (by omega), fh_sr_1, (b2 (sz + 1) (by omega)).1, a3 k hk, (f5 (x + 2) (by omega)).1, p1.2.1.2 k (by omega)]
      unfold mF
      rw [e2, if_pos (by omega), Nat.add_sub_cancel_left]
    · rw [← hM21, fh_si_1, if_neg (by omega), fh_si_1, if_neg (by omega), fh_sr_1, n6]; exact b6
  -- the files' addresses
  have hfa : ∀ i, i < σ 0 9 → cFm K M x σ i (σ 0 3) ((M.2.2 (x + 6) i).getD 0) := fun i hi => by
    obtain ⟨a, hF⟩ := cFl_m.mp (p1.2.2.2.2.2.2.2.1 i hi)
    have hF' := hF
    obtain ⟨ab, w1, -⟩ := hF'
    rw [w1]; exact hF
  have hF21 : ∀ i, i < σ 0 9 → cFm K10 M21 x σ' i (if i < 0 then σ 0 3 + 1 else σ 0 3) ((M.2.2 (x + 6) i).getD 0) := fun i hi => by
    rw [if_neg (by omega)]
    have hF := hfa i hi
    have hF' := hF
    obtain ⟨ab, w1, w2, w3, w4, -⟩ := hF'
    have na := nz _ (show K ((M.2.2 (x + 6) i).getD 0) ≠ (0, 0) by rw [w4]; decide)
    refine cFm_ag hF (r21 _ _ (by omega) (by omega) (by omega)) (fun b z1 z2 => k10 b (nz b z2).1 (nz b z2).2) (fun k => i21 _ k na.1 na.2 (by omega) (by omega)) (fun b k z1 z2 => ?_) (fun b k z1 z2 => r21 b k (nz b z2).1 (nz b z2).2 (by omega)) (fun m hm => ⟨em 3 m (by omega) (by omega) (by omega), em 4 m (by omega) (by omega) (by omega), em 5 m (by omega) (by omega) (by omega), em 6 m (by omega) (by omega) (by omega), mF' m hm⟩) (fun k _ => eo 7 _ (by omega) (by omega)) (eo 8 i (by omega) (by omega)) (hV.2.2.2.1 i hi).1 (eo 9 i (by omega) (by omega)) (eo 10 i (by omega) (by omega)) (root_ag (fun j => eo 10 j (by omega) (by omega)) 40 i) (by rw [isSrc_ag (fun j => eo 10 j (by omega) (by omega)) (e0 9 (by omega) (by omega))])
    have nb := nz b (fun q => by rw [q] at z2; cases z2)
    exact i21 b k nb.1 nb.2 (by omega) (by omega)
  have hinj : ∀ i j, i < σ 0 9 → j < σ 0 9 → (M.2.2 (x + 6) i).getD 0 = (M.2.2 (x + 6) j).getD 0 → i = j := fun i j hi hj e => by
    obtain ⟨-, w1, -⟩ := hfa i hi
    obtain ⟨-, w2, -⟩ := hfa j hj
    exact p1.2.2.2.2.2.2.2.2.2 i j hi hj (by rw [w1, w2, e])
  obtain ⟨M1, d1, d2, d3⟩ := c_makeL (K := K10) (x := x) (sz := sz + 1 + 1) (σ := σ') (nf := σ 0 9) (nm := σ 0 3) (fa := fun i => (M.2.2 (x + 6) i).getD 0) hlt (by omega) (hV'.2.2.1 _ (by omega)) (fun i hi => by rw [eo 8 i (by omega) (by omega)]; exact ⟨(hV.2.2.2.1 i hi).1, (hV.2.2.2.1 i hi).2.1⟩) (fun j => (hV'.2.1 j).2) hinj 4096 0 M21 (by omega) (by omega) s21 (by rw [← hM21, fh_si_1, if_neg (by omega), fh_si_1, if_pos ⟨rfl, rfl⟩]) (by rw [i21 _ _ (by omega) (by omega) (by omega) (by omega)]; exact p1.1.2.1) mkn hF21
  have y1 := hpre2.trans d1
  have i1 : ∀ b k, b ≠ sz → b ≠ sz + 1 → ¬ (b = x ∧ k = 11) → ¬ (b = x + 1 ∧ k = 1) → ¬ rq (x + 22) b k → ¬ (x + 63 ≤ b ∧ K b = (8, 0)) → M1.1 b k = M.1 b k := fun b k z1 z2 z3 z4 z5 z6 => (d2.1 b k z5 (fun q => z6 ⟨q.1, by rw [← k10 b z1 z2]; exact q.2⟩)).trans (i21 b k z1 z2 z3 z4)
  have r1 : ∀ b k, b ≠ sz → b ≠ sz + 1 → ¬ (b = x + 5 ∧ k = σ 0 3) → ¬ (b = x + 22 ∧ k = 3) → M1.2.2 b k = M.2.2 b k := fun b k z1 z2 z3 z4 => (d2.2.2 b k z4).trans (r21 b k z1 z2 z3)
  have sc : cS K10 M1 x := cS_keep s1 (fun b z1 z2 => k10 b (by omega) (by omega)) (fun b k z1 z2 _ z4 => r1 b k (by omega) (by omega) (by omega) (by omega))
  have pc : cP K10 M1 x σ' := by
    obtain ⟨⟨c1, c2, c3⟩, ⟨u1, u2⟩, f1, ⟨g3, g4⟩, h1, ⟨pp, h2, h3, h4⟩, m1, m2, m3, m4⟩ := id p1
    refine ⟨⟨?_, ?_, ?_⟩, ⟨?_, fun k hk => by omega⟩, fun j hj => ⟨?_, ?_⟩, ⟨?_, fun r hr => ⟨?_, ?_⟩⟩, ?_, ⟨pp, h2, ?_, ?_⟩, fun m hm => ?_, fun i hi => ?_, fun t ht => ?_, fun i j hi hj e => ?_⟩
    · rw [d2.1 _ _ (by unfold rq; omega) (by omega), ← hM21, fh_si_1, if_neg (by omega), fh_si_1, if_pos ⟨rfl, rfl⟩, e03]
    · rw [i1 _ _ (by omega) (by omega) (by omega) (by omega) (by unfold rq; omega) (by omega), e0 _ (by omega) (by omega)]; exact c2
    · rw [i1 _ _ (by omega) (by omega) (by omega) (by omega) (by unfold rq; omega) (by omega), e0 _ (by omega) (by omega)]; exact c3
    · rw [d2.1 _ _ (by unfold rq; omega) (by omega), ← hM21, fh_si_1, if_pos ⟨rfl, rfl⟩, e01]; rfl
    · rw [i1 _ _ (by omega) (by omega) (by omega) (by omega) (by unfold rq; omega) (by omega), eo 11 j (by omega) (by omega)]; exact (f1 j hj).1
    · rw [i1 _ _ (by omega) (by omega) (by omega) (by omega) (by unfold rq; omega) (by omega), eo 12 j (by omega) (by omega)]; exact (f1 j hj).2
    · rw [i1 _ _ (by omega) (by omega) (by omega) (by omega) (by unfold rq; omega) (by omega), e0 _ (by omega) (by omega)]; exact g3
    · rw [e0 _ (by omega) (by omega)] at hr
      rw [i1 _ _ (by omega) (by omega) (by omega) (by omega) (by unfold rq; omega) (by omega), eo 13 r (by omega) (by omega)]; exact (g4 r hr).1
    · rw [e0 _ (by omega) (by omega)] at hr
      rw [i1 _ _ (by omega) (by omega) (by omega) (by omega) (by unfold rq; omega) (by omega), eo 14 r (by omega) (by omega)]; exact (g4 r hr).2
    · rw [i1 _ _ (by omega) (by omega) (by omega) (by omega) (by unfold rq; omega) (by omega), e0 _ (by omega) (by omega)]; exact h1
    · have q28 : σ' 28 = σ 28 := funext fun k => eo 28 k (by omega) (by omega)
      rw [e0 37 (by omega) (by omega), q28, d2.2.1, j21 x (by omega) (by omega)]; exact h3
    · intro k hk
      rw [e0 37 (by omega) (by omega)] at hk
      rw [eo 28 k (by omega) (by omega)]; exact h4 k hk
    · by_cases z : m = σ 0 3
      · subst z
        refine cMk_keep mkn (d2.2.2 _ _ (by omega)) (fun _ _ _ => rfl) (fun b k z1 z2 z3 => d2.1 b k (by unfold rq; omega) (fun q => z3 q.2)) (fun b k z1 z2 => d2.2.2 b k (by omega)) rfl rfl rfl rfl (fun _ _ => rfl)
      · exact mks m (by omega) (r1 _ _ (by omega) (by omega) (by omega) (by omega)) (fun b k z1 z2 z3 => i1 b k (nz b z2).1 (nz b z2).2 (by omega) (by omega) (by unfold rq; omega) (fun q => z3 q.2)) (fun b k z1 z2 => r1 b k (nz b z2).1 (nz b z2).2 (by omega) (by omega))
    · rw [e0 _ (by omega) (by omega)] at hi
      refine cFl_m.mpr ⟨(M.2.2 (x + 6) i).getD 0, ?_⟩
      rw [e03]; exact d3 i hi
    · rw [e0 _ (by omega) (by omega)] at ht
      have v7 := hV.2.2.2.2.2.2.2 t ht
      exact cTn_keep (m3 t ht) (r1 _ _ (by omega) (by omega) (by omega) (by omega)) (fun b z1 z2 => k10 b (nz b z2).1 (nz b z2).2) (fun b k z1 z2 z3 => i1 b k (nz b z2).1 (nz b z2).2 (by omega) (by omega) (by unfold rq; omega) (fun q => z3 q.2)) (fun c z1 z2 => eo c t (by omega) (by omega)) (em 4 _ (by omega) (by omega) (by omega))
    · rw [e0 _ (by omega) (by omega)] at hi hj
      rw [r1 _ _ (by omega) (by omega) (by omega) (by omega), r1 _ _ (by omega) (by omega) (by omega) (by omega)] at e
      exact m4 i j hi hj e
  -- the model
  have s2' : mS K10 M1 (x + 32) := mS_keep s2 (fun b z1 z2 => k10 b (by omega) (by omega)) (by funext k; exact r1 _ _ (by omega) (by omega) (by omega) (by omega))
  have p2' : mP M1 (x + 32) σ := mP_keep p2 (fun b k z1 z2 => i1 b k (by omega) (by omega) (by omega) (by omega) (by unfold rq; omega) (by omega))
  obtain ⟨M2, c1, c2, c3, c4⟩ := m_makeL (K := K10) (y := x + 32) (n := n) (nm := σ 0 3) (σ := σ) hn hlt M1 p2'.2.1 (mP_s p2' 3 (by omega)) s2' (nI pr) (nI s) (nI bd) 4096 0 M1 (by omega) (by omega) rfl (fun _ _ _ => rfl) (fun j => by rw [if_neg (by omega)])
  have s2'' : mS K10 M2 (x + 32) := mS_keep s2' (fun _ _ _ => rfl) (by rw [c2])
  have q3 : M2.1 (x + 32) 3 = nI (σ 0 3) := by rw [c3 _ _ (by omega)]; exact mP_s p2' 3 (by omega)
  have y2 : f_X11_make K10 M1 (x + 32) (nI n) (nI pr) (nI s) (nI bd) = some (nI (σ 0 3), fh_si (fh_si (fh_si (fh_si (fh_si (fh_si M2 (x + 32) 1 0) (x + 32 + 3) (σ 0 3) (nI n)) (x + 32 + 4) (σ 0 3) (nI pr)) (x + 32 + 5) (σ 0 3) (nI s)) (x + 32 + 6) (σ 0 3) (nI bd)) (x + 32) 3 (nI (σ 0 3 + 1))) := by
    rw [mpre K10 M1 s2' p2', n_12, if_neg (fun q => hf (n_inj (b := 12) (by omega) (by omega) q)), if_pos (nI_le ht (by omega))]
    refine c1.trans ?_
    unfold f_X11_make_J89
    have z1 : (fh_si M2 (x + 32) 1 0).1 (x + 32) 3 = nI (σ 0 3) := by rw [fh_si_1, if_neg (by omega)]; exact q3
    have z2 : (fh_si (fh_si M2 (x + 32) 1 0) (x + 32 + 3) (σ 0 3) (nI n)).1 (x + 32) 3 = nI (σ 0 3) := by rw [fh_si_1, if_neg (by omega)]; exact z1
    have z3 : (fh_si (fh_si (fh_si M2 (x + 32) 1 0) (x + 32 + 3) (σ 0 3) (nI n)) (x + 32 + 4) (σ 0 3) (nI pr)).1 (x + 32) 3 = nI (σ 0 3) := by rw [fh_si_1, if_neg (by omega)]; exact z2
    have z4 : (fh_si (fh_si (fh_si (fh_si M2 (x + 32) 1 0) (x + 32 + 3) (σ 0 3) (nI n)) (x + 32 + 4) (σ 0 3) (nI pr)) (x + 32 + 5) (σ 0 3) (nI s)).1 (x + 32) 3 = nI (σ 0 3) := by rw [fh_si_1, if_neg (by omega)]; exact z3
    have z5 : (fh_si (fh_si (fh_si (fh_si (fh_si M2 (x + 32) 1 0) (x + 32 + 3) (σ 0 3) (nI n)) (x + 32 + 4) (σ 0 3) (nI pr)) (x + 32 + 5) (σ 0 3) (nI s)) (x + 32 + 6) (σ 0 3) (nI bd)).1 (x + 32) 3 = nI (σ 0 3) := by rw [fh_si_1, if_neg (by omega)]; exact z4
    rw [mo s2'', fb_eq, mi5 (mS_si s2'' _ _ _) z1 hlt, fb_eq, z1, cl_n (by omega), mi6 (mS_si (mS_si s2'' _ _ _) _ _ _) z2 hlt, fb_eq, z2, cl_n (by omega), mi7 (mS_si (mS_si (mS_si s2'' _ _ _) _ _ _) _ _ _) z3 hlt, fb_eq, z3, cl_n (by omega), nar_z hs1, mi8 (mS_si (mS_si (mS_si (mS_si s2'' _ _ _) _ _ _) _ _ _) _ _ _) z4 hlt, fb_eq, z4, cl_n (by omega), fb_eq, z5, nI_1]
    have z6 : (fh_si (fh_si (fh_si (fh_si (fh_si (fh_si M2 (x + 32) 1 0) (x + 32 + 3) (σ 0 3) (nI n)) (x + 32 + 4) (σ 0 3) (nI pr)) (x + 32 + 5) (σ 0 3) (nI s)) (x + 32 + 6) (σ 0 3) (nI bd)) (x + 32) 3 (nI (σ 0 3 + 1))).1 (x + 32) 3 - 1 = nI (σ 0 3) := by rw [fh_si_1, if_pos ⟨rfl, rfl⟩, n_1, n_m (by omega)]; rfl
    rw [z6]
  generalize hM3 : fh_si (fh_si (fh_si (fh_si (fh_si (fh_si M2 (x + 32) 1 0) (x + 32 + 3) (σ 0 3) (nI n)) (x + 32 + 4) (σ 0 3) (nI pr)) (x + 32 + 5) (σ 0 3) (nI s)) (x + 32 + 6) (σ 0 3) (nI bd)) (x + 32) 3 (nI (σ 0 3 + 1)) = M3 at y2
  have u2 : M3.2 = M1.2 := by rw [← hM3]; exact c2
  have u1 : ∀ b k, ¬ (b = x + 34 ∨ (x + 35 ≤ b ∧ b ≤ x + 38 ∧ k = σ 0 3) ∨ (b = x + 32 ∧ (k = 1 ∨ k = 3))) → M3.1 b k = M1.1 b k := fun b k z => by
    rw [← hM3, fh_si_1, if_neg (by omega), fh_si_1, if_neg (by omega), fh_si_1, if_neg (by omega), fh_si_1, if_neg (by omega), fh_si_1, if_neg (by omega), fh_si_1, if_neg (by omega)]; exact c3 b k (by omega)
  obtain ⟨sc', pc'⟩ := c_other (M' := M3) sc pc ⟨fun b k z => u1 b k (by omega), u2⟩
  refine ⟨_, sz + 1 + 1, K10, M1, M3, σ', y1, y2, hV', sc', pc', mS_keep s2' (fun _ _ _ => rfl) (by rw [u2]), ?_, fun b hb => by rw [k10 b (by omega) (by omega)]; exact k1 b (by omega), by omega⟩
  obtain ⟨h1, h2, h3, h4⟩ := p2'
  refine ⟨fun j hj => ?_, fun j hj => ?_, fun c j hc => ?_, fun j => ?_⟩
  · by_cases z1 : j = 1
    · subst z1; rw [← hM3, fh_si_1, if_neg (by omega), fh_si_1, if_neg (by omega), fh_si_1, if_neg (by omega), fh_si_1, if_neg (by omega), fh_si_1, if_neg (by omega), fh_si_1, if_pos ⟨rfl, rfl⟩, e01]; rfl
    · by_cases z2 : j = 3
      · subst z2; rw [← hM3, fh_si_1, if_pos ⟨rfl, rfl⟩, e03]
      · rw [u1 _ _ (by omega), e0 j z2 z1]; exact h1 j hj
  · rw [u1 _ _ (by omega), eo 1 j (by omega) (by omega)]; exact h2 j hj
  · by_cases z2 : c = 2
    · subst z2
      rw [e2, ← hM3, fh_si_1, if_neg (by omega), fh_si_1, if_neg (by omega), fh_si_1, if_neg (by omega), fh_si_1, if_neg (by omega), fh_si_1, if_neg (by omega), fh_si_1, if_neg (by omega), c4 j]
      by_cases z : 4 * σ 0 3 ≤ j ∧ j < 4 * σ 0 3 + n
      · rw [if_pos z, if_pos z]
      · rw [if_neg z, if_neg z]; exact h3 2 j (by omega)
    · by_cases z : 3 ≤ c ∧ c ≤ 6 ∧ j = σ 0 3
      · obtain ⟨y3, y4, rfl⟩ := z
        rcases (show c = 3 ∨ c = 4 ∨ c = 5 ∨ c = 6 by omega) with rfl | rfl | rfl | rfl
        · rw [n3, ← hM3, fh_si_1, if_neg (by omega), fh_si_1, if_neg (by omega), fh_si_1, if_neg (by omega), fh_si_1, if_neg (by omega), fh_si_1, if_pos ⟨rfl, rfl⟩]
        · rw [n4, ← hM3, fh_si_1, if_neg (by omega), fh_si_1, if_neg (by omega), fh_si_1, if_neg (by omega), fh_si_1, if_pos ⟨rfl, rfl⟩]
        · rw [n5, ← hM3, fh_si_1, if_neg (by omega), fh_si_1, if_neg (by omega), fh_si_1, if_pos ⟨rfl, rfl⟩]
        · rw [n6, ← hM3, fh_si_1, if_neg (by omega), fh_si_1, if_pos ⟨rfl, rfl⟩]
      · rw [u1 _ _ (by omega)]
        by_cases z5 : 3 ≤ c ∧ c ≤ 6
        · rw [em c j z5.1 z5.2 (fun q => z ⟨z5.1, z5.2, q⟩)]; exact h3 c j hc
        · rw [eo c j (by omega) (by omega)]; exact h3 c j hc
  · rw [u1 _ _ (by omega), eo 10 j (by omega) (by omega)]; exact h4 j
