/-- the model's price of a row of k turners from m -/
def cA (M : fh_M) (y k m : Nat) : Nat := (M.1 (y + 26) (12 * k + m)).toNatClampNeg
theorem don_c {σ : sT} {N g : Nat} {M : fh_M} {y : Nat} (hV : Val σ) (h : don σ N g 5 M y) (k m : Nat) (hk : k < 5) (hm : m < 12) : M.1 (y + 26) (12 * k + m) = nI (cA M y k m) ∧ Cst σ N g k m (cA M y k m) := by
  obtain ⟨v, v1, v2⟩ := h k hk m hm
  have hv := (cst_v hV (by omega) v2).1
  unfold FAR at hv
  unfold cA
  rw [v1, cl_n (by omega)]
  exact ⟨rfl, v2⟩
/-- only the road's row changed -/
def m27 (y : Nat) (M M' : fh_M) : Prop := M'.2 = M.2 ∧ ∀ a k, a ≠ y + 27 → M'.1 a k = M.1 a k
theorem m27_G {y : Nat} {M M' : fh_M} (h : m27 y M M') : mG y M M' := ⟨h.1, fun a k q => h.2 a k (fun z => q (by unfold mZ; omega))⟩
theorem m27_tr {y : Nat} {M M1 M2 : fh_M} (h : m27 y M M1) (h2 : m27 y M1 M2) : m27 y M M2 := ⟨h2.1.trans h.1, fun a k q => (h2.2 a k q).trans (h.2 a k q)⟩
theorem m27_si {y : Nat} {M : fh_M} {k : Nat} {v : Int32} : m27 y M (fh_si M (y + 27) k v) := ⟨rfl, fun a j q => by rw [fh_si_1, if_neg (fun z => q z.1)]⟩
/-- a turner that begins a cheapest row -/
def gdT (σ : sT) (N : Nat) (C : Nat → Nat → Nat) (r c t : Nat) : Prop := σ 15 t = c ∧ okT σ N t ∧ C r (σ 16 t) + σ 18 t = C (r + 1) c
theorem gd_of {σ : sT} {N g r c t : Nat} {C : Nat → Nat → Nat} (hV : Val σ) (hr : r ≤ 3) (hc : c < 12) (hC : ∀ k m, k < 5 → m < 12 → Cst σ N g k m (C k m)) {q : List Nat} (hp : isP σ N c g (t :: q)) (hl : q.length = r) (he : pcs σ (t :: q) = C (r + 1) c) : t < σ 0 19 ∧ gdT σ N C r c t ∧ pcs σ q = C r (σ 16 t) ∧ C r (σ 16 t) ≠ FAR := by
  have hv := hV.1
  obtain ⟨⟨h1, h2, h3⟩, h4⟩ := hp
  obtain ⟨t1, t2, t3, t4, t5, t6⟩ := hV.2.2.2.2.2.2.2 t h1
  have e : σ 18 t + pcs σ q = C (r + 1) c := he
  have c1 := hC r (σ 16 t) (by omega) (by omega)
  have c2 := hC (r + 1) c (by omega) hc
  have a1 := c1.1 q h4 hl
  have b := (isP_b hV q _ _ h4).2
  rw [hl] at b
  have nf : C r (σ 16 t) ≠ FAR := by unfold FAR; omega
  obtain ⟨q0, d1, d2, d3⟩ := c1.2.resolve_left nf
  have a2 := c2.1 (t :: q0) ⟨⟨h1, h2, h3⟩, d1⟩ (by simp [d2])
  have a3 : C (r + 1) c ≤ σ 18 t + pcs σ q0 := a2
  exact ⟨h1, ⟨h3, h2, by omega⟩, by omega, nf⟩
theorem m_find {K : fh_K} {y N g b r c : Nat} {σ : sT} {v6 : Int32} {C : Nat → Nat → Nat} {M : fh_M} (rec1 : Nat → Int32 → Int32 → Int32 → Int32 → Int32 → fh_M → Option (Int32 × fh_M)) (hV : Val σ) (hN : N < 4096) (hr : r ≤ 3) (hc : c < 12) (s1 : mS K M y) (p1 : mP M y σ) (hC : ∀ k m, k < 5 → m < 12 → M.1 (y + 26) (12 * k + m) = nI (C k m) ∧ Cst σ N g k m (C k m)) {t0 : Nat} (ht0 : t0 < σ 0 19) (hg : gdT σ N C r c t0) :
    ∀ n t, t0 - t < n → t ≤ t0 → (∀ s, s < t → ¬ gdT σ N C r c s) → ∃ s, s ≤ t0 ∧ gdT σ N C r c s ∧ (∀ u, u < s → ¬ gdT σ N C r c u) ∧ f_X11_bestRoad_L127 K rec1 n y (nI N) (nI c) (nI b) v6 (nI (r + 1)) (nI t) M = f_X11_bestRoad_J199 K rec1 y (nI N) (nI b) v6 (nI (r + 1)) (nI s) M := by
  have hv := hV.1
  intro n
  induction n with
  | zero => intro t q; exact absurd q (Nat.not_lt_zero _)
  | succ n ih =>
    intro t hn ht hs
    have hlt : t < σ 0 19 := by omega
    obtain ⟨t1, t2, t3, t4, t5, t6⟩ := hV.2.2.2.2.2.2.2 t hlt
    obtain ⟨c1, c2⟩ := hC r (σ 16 t) (by omega) (by omega)
    obtain ⟨d1, d2⟩ := hC (r + 1) c (by omega) hc
    have f1 := (cst_v hV (by omega) c2).1
    have f2 := (cst_v hV (by omega) d2).1
    unfold FAR at f1 f2
    unfold f_X11_bestRoad_L127
    rw [mo s1, mi20 s1 rfl (by omega), cl_n (by omega), mP_a p1 15 t (by omega)]
    unfold f_X11_bestRoad_J193
    rw [nI_1]
    have skip : ¬ gdT σ N C r c t → ∃ s, s ≤ t0 ∧ gdT σ N C r c s ∧ (∀ u, u < s → ¬ gdT σ N C r c u) ∧ f_X11_bestRoad_L127 K rec1 n y (nI N) (nI c) (nI b) v6 (nI (r + 1)) (nI (t + 1)) M = f_X11_bestRoad_J199 K rec1 y (nI N) (nI b) v6 (nI (r + 1)) (nI s) M := by
      intro q
      have : t ≠ t0 := fun z => q (z ▸ hg)
      refine ih (t + 1) (by omega) (by omega) (fun s hs' => ?_)
      by_cases z : s = t
      · rw [z]; exact q
      · exact hs s (by omega)
    by_cases h1 : σ 15 t = c
    · rw [if_pos (by rw [h1])]
      rcases m_may s1 p1 hV hlt hN with ⟨o1, o2⟩ | ⟨o1, o2⟩
      · rw [o2, Option.bind_some, if_neg (by decide), mi21 s1 rfl (by omega), mP_a p1 16 t (by omega), n_1, n_m (by omega), Nat.add_sub_cancel, i12, mi34 s1 rfl (by omega), cl_n (by omega), c1, mi23 s1 rfl (by omega), mP_a p1 18 t (by omega), i12, mi34 s1 rfl (by omega), cl_n (by omega), d1, nI_add]
        by_cases h2 : C r (σ 16 t) + σ 18 t = C (r + 1) c
        · rw [if_pos (by rw [h2])]
          exact ⟨t, ht, ⟨h1, o1, h2⟩, hs, rfl⟩
        · rw [if_neg (fun q => h2 ((nI_eq (by omega) (by omega)).mp q))]
          exact skip (fun q => h2 q.2.2)
      · rw [o2, Option.bind_some, if_pos rfl]
        exact skip (fun q => o1 q.2.1)
    · rw [if_neg (fun q => h1 ((nI_eq (by omega) (by omega)).mp q))]
      exact skip (fun q => h1 q.1)
theorem m_recon {K : fh_K} {y N g b : Nat} {σ : sT} {v6 : Int32} {C : Nat → Nat → Nat} (hV : Val σ) (hN : N < 4096) (hb : b ≤ 4) (M0 : fh_M) (s0 : mS K M0 y) (p0 : mP M0 y σ) (hC : ∀ k m, k < 5 → m < 12 → M0.1 (y + 26) (12 * k + m) = nI (C k m) ∧ Cst σ N g k m (C k m)) :
    ∀ r c n M, r < n → r ≤ b → c < 12 → C r c ≠ FAR → m27 y M0 M → ∃ M' q, f_X11_bestRoad_L119 K n y (nI N) (nI c) (nI b) v6 (nI r) M = some (v6, M') ∧ m27 y M0 M' ∧ isP σ N c g q ∧ q.length = r ∧ pcs σ q = C r c ∧ (∀ q', isP σ N c g q' → q'.length = r → pcs σ q' = C r c → rcs q ≤ rcs q') ∧ (∀ i, i < r → M'.1 (y + 27) (b - r + i) = nI (q.getD i 0)) ∧ ∀ i, i < b - r → M'.1 (y + 27) i = M.1 (y + 27) i := by
  have hv := hV.1
  intro r
  induction r with
  | zero =>
    intro c n M hn hr hc hf hE
    cases n with
    | zero => exact absurd hn (Nat.not_lt_zero _)
    | succ n =>
      obtain ⟨p, a1, a2, a3⟩ := (hC 0 c (by omega) hc).2.2.resolve_left hf
      have : p = [] := List.length_eq_zero_iff.mp a2
      subst this
      unfold f_X11_bestRoad_L119
      rw [if_pos (show nI 0 ≤ 0 by decide)]
      exact ⟨M, [], rfl, hE, a1, rfl, a3.symm, fun _ _ _ _ => Nat.zero_le _, fun i hi => absurd hi (Nat.not_lt_zero _), fun _ _ => rfl⟩
  | succ r ih =>
    intro c n M hn hr hc hf hE
    cases n with
    | zero => exact absurd hn (Nat.not_lt_zero _)
    | succ n =>
      have s1 := mG_S (m27_G hE) s0
      have p1 := mG_P (m27_G hE) p0
      have hC1 : ∀ k m, k < 5 → m < 12 → M.1 (y + 26) (12 * k + m) = nI (C k m) ∧ Cst σ N g k m (C k m) := fun k m hk hm => by rw [hE.2 _ _ (by omega)]; exact hC k m hk hm
      have hC2 : ∀ k m, k < 5 → m < 12 → Cst σ N g k m (C k m) := fun k m hk hm => (hC k m hk hm).2
      obtain ⟨p, a1, a2, a3⟩ := (hC2 (r + 1) c (by omega) hc).2.resolve_left hf
      cases p with
      | nil => cases a2
      | cons t0 q0 =>
        obtain ⟨g1, g2, g3, g4⟩ := gd_of hV (by omega) hc hC2 a1 (by simpa using a2) a3.symm
        unfold f_X11_bestRoad_L119
        rw [if_neg (by rw [n_0]; exact nI_ge (by omega) (by omega)), n_0]
        obtain ⟨s, e1, e2, e3, e4⟩ := m_find (K := K) (y := y) (N := N) (b := b) (v6 := v6) (M := M) (f_X11_bestRoad_L119 K n) hV hN (show r ≤ 3 by omega) hc s1 p1 hC1 g1 g2 4096 0 (by omega) (Nat.zero_le _) (fun s hs => absurd hs (Nat.not_lt_zero _))
        rw [e4]
        have hs : s < σ 0 19 := by omega
        obtain ⟨t1, t2, t3, t4, t5, t6⟩ := hV.2.2.2.2.2.2.2 s hs
        unfold f_X11_bestRoad_J199
        have s3 : mS K (fh_si M (y + 27) (b - (r + 1)) (nI s)) y := mG_S (m27_G m27_si) s1
        have p3 : mP (fh_si M (y + 27) (b - (r + 1)) (nI s)) y σ := mG_P (m27_G m27_si) p1
        rw [mo s1, n_m (by omega), mi36 s1 rfl (by omega), fb_eq, cl_n (by omega), mi21 s3 rfl (by omega), cl_n (by omega), mP_a p3 16 s (by omega), n_m1 (by omega), Nat.add_sub_cancel]
        have nf : C r (σ 16 s) ≠ FAR := by
          have h1 := e2.2.2
          have h2 := (cst_v hV (by omega) (hC2 (r + 1) c (by omega) hc)).2 hf
          unfold FAR
          omega
        obtain ⟨M', q, w1, w2, w3, w4, w5, w6, w7, w8⟩ := ih (σ 16 s) n _ (by omega) (by omega) (by omega) nf (m27_tr hE m27_si)
        refine ⟨M', s :: q, w1, w2, ⟨⟨hs, e2.2.1, e2.1⟩, w3⟩, by simp [w4], ?_, ?_, ?_, ?_⟩
        · show σ 18 s + pcs σ q = C (r + 1) c
          rw [w5]
          have := e2.2.2
          omega
        · intro q' hq hl he
          cases q' with
          | nil => cases hl
          | cons t' q'' =>
            have hl' : q''.length = r := by simpa using hl
            obtain ⟨f1, f2, f3, f4⟩ := gd_of hV (by omega) hc hC2 hq hl' he
            show s * 32 ^ q.length + rcs q ≤ t' * 32 ^ q''.length + rcs q''
            rw [w4, hl']
            have le : s ≤ t' := by
              by_cases z : s ≤ t'
              · exact z
              · exact absurd f2 (e3 t' (by omega))
            by_cases z : s = t'
            · subst z
              have := w6 q'' hq.2 hl' f3
              omega
            · have h1 := rcs_lt q (fun u hu => by have := (isP_b hV q _ _ w3).1 u hu; omega)
              rw [w4] at h1
              have h2 : (s + 1) * 32 ^ r ≤ t' * 32 ^ r := Nat.mul_le_mul_right _ (by omega)
              rw [Nat.add_mul, Nat.one_mul] at h2
              omega
        · intro i hi
          cases i with
          | zero =>
            rw [List.getD_cons_zero, Nat.add_zero, w8 _ (by omega), fh_si_1, if_pos ⟨rfl, rfl⟩]
          | succ i =>
            rw [List.getD_cons_succ, show b - (r + 1) + (i + 1) = b - r + i by omega]
            exact w7 i (by omega)
        · intro i hi
          rw [w8 i (by omega), fh_si_1, if_neg (by omega)]
theorem m_choose {K : fh_K} {y N c : Nat} {C : Nat → Nat → Nat} {M : fh_M} (hc : c < 12) (s1 : mS K M y) (hC : ∀ k m, k < 5 → m < 12 → M.1 (y + 26) (12 * k + m) = nI (C k m) ∧ C k m ≤ FAR) :
    ∀ n i b, 5 - i < n → i ≤ 5 → b < i → (∀ j, j < i → C b c ≤ C j c ∧ (j < b → C b c < C j c)) → ∃ b', b' < 5 ∧ (∀ j, j < 5 → C b' c ≤ C j c ∧ (j < b' → C b' c < C j c)) ∧ f_X11_bestRoad_L40 K n y (nI N) (nI c) (nI b) (nI i) M = f_X11_bestRoad_J85 K y (nI N) (nI c) (nI b') M := by
  intro n
  induction n with
  | zero => intro i b q; exact absurd q (Nat.not_lt_zero _)
  | succ n ih =>
    intro i b hn hi hb hj
    unfold f_X11_bestRoad_L40
    by_cases hlt : i < 5
    · obtain ⟨a1, a2⟩ := hC i c hlt hc
      obtain ⟨b1, b2⟩ := hC b c (by omega) hc
      unfold FAR at a2 b2
      rw [n_4, if_neg (nI_nlt (by omega) (by omega)), mo s1, i12, mi34 s1 rfl (by omega), cl_n (by omega), a1, i12, mi34 s1 rfl (by omega), cl_n (by omega), b1]
      unfold f_X11_bestRoad_J79
      rw [nI_1]
      by_cases hle : C b c ≤ C i c
      · rw [if_pos (nI_le hle (by omega))]
        refine ih (i + 1) b (by omega) (by omega) (by omega) (fun j hj' => ?_)
        by_cases z : j = i
        · rw [z]; exact ⟨hle, fun q => by omega⟩
        · exact hj j (by omega)
      · rw [if_neg (nI_ge (by omega) (by omega))]
        refine ih (i + 1) i (by omega) (by omega) (by omega) (fun j hj' => ?_)
        by_cases z : j = i
        · rw [z]; exact ⟨Nat.le_refl _, fun q => by omega⟩
        · have := hj j (by omega); omega
    · rw [n_4, if_pos (nI_lt (by omega) (by omega))]
      have : i = 5 := by omega
      subst this
      exact ⟨b, hb, hj, rfl⟩
/-- the plan's cells are as they were -/
def mB (y : Nat) (M M' : fh_M) : Prop := (∀ k, k = 40 ∨ k = 41 → M'.1 y k = M.1 y k) ∧ ∀ k, M'.1 (y + 30) k = M.1 (y + 30) k
theorem mB_tr {y : Nat} {M M1 M2 : fh_M} (h : mB y M M1) (h2 : mB y M1 M2) : mB y M M2 := ⟨fun k q => (h2.1 k q).trans (h.1 k q), fun k => (h2.2 k).trans (h.2 k)⟩
theorem mB_E {y : Nat} {M M' : fh_M} (h : mE y M M') : mB y M M' := ⟨fun k q => h.2 _ _ (by unfold mq; omega), fun k => h.2 _ _ (by unfold mq; omega)⟩
theorem mB_26 {y : Nat} {M M' : fh_M} (h : m26 y M M') : mB y M M' := ⟨fun k q => h.2 _ _ (by omega), fun k => h.2 _ _ (by omega)⟩
theorem mB_27 {y : Nat} {M M' : fh_M} (h : m27 y M M') : mB y M M' := ⟨fun k q => h.2 _ _ (by omega), fun k => h.2 _ _ (by omega)⟩
theorem mB_35 {y : Nat} {M : fh_M} {v : Int32} : mB y M (fh_si M y 35 v) := ⟨fun k q => by rw [fh_si_1, if_neg (by omega)], fun k => by rw [fh_si_1, if_neg (by omega)]⟩
/-- the road of a file to a make: none, or the best -/
def bstM (σ : sT) (f g : Nat) (P : Option (List Nat)) : Prop := match P with
  | none => ∀ m0 p, sK σ f = m0 + 1 → isP σ (nd σ f) m0 g p → p.length ≤ 4 → False
  | some P => ∃ m0, sK σ f = m0 + 1 ∧ isP σ (nd σ f) m0 g P ∧ P.length ≤ 4 ∧ ∀ q, isP σ (nd σ f) m0 g q → q.length ≤ 4 → key σ P ≤ key σ q
theorem m_best {K : fh_K} {M : fh_M} {y f g : Nat} {σ : sT} (hV : Val σ) (s0 : mS K M y) (p0 : mP M y σ) (hf : f < σ 0 9) (hg : g < σ 0 3) :
    ∃ M' P, (mG y M M' ∧ mB y M M') ∧ bstM σ f g P ∧ ((P = none ∧ f_X11_bestRoad K M y (nI f) (nI g) = some (-1, M')) ∨ ∃ L, P = some L ∧ f_X11_bestRoad K M y (nI f) (nI g) = some (nI (pcs σ L), M') ∧ M'.1 y 35 = nI L.length ∧ ∀ i, i < L.length → M'.1 (y + 27) i = nI (L.getD i 0)) := by
  have hv := hV.1
  have hN := nd_lt hV hf
  obtain ⟨M1, q1, q2, q3⟩ := m_prop s0 p0 hV hf
  have s1 := mE_S q2 s0
  have p1 := mG_P (mG_E q2) p0
  obtain ⟨M2, w1, w2, w3⟩ := m_knows s1 p1 hV hf
  have G2 := mG_tr (mG_E q2) (mG_E w2)
  have H2 := mB_tr (mB_E q2) (mB_E w2)
  have s2 := mG_S G2 s0
  have p2 := mG_P G2 p0
  have hsk := sK_le σ f
  unfold f_X11_bestRoad
  rw [mo s0, mi12 s0 rfl (by omega), q1, fc2_some, w1, fc2_some, cl_n (by omega), mP_a p0 9 f (by omega), fa_and]
  cases hq : sK σ f with
  | zero =>
    rw [kI_0, if_pos rfl]
    exact ⟨M2, none, ⟨G2, H2⟩, (fun m0 p e => absurd (hq.symm.trans e) (by omega)), Or.inl ⟨rfl, rfl⟩⟩
  | succ m0 =>
    rw [kI_s, if_neg (n_ne_m1 (by omega))]
    obtain ⟨M3, r1, r2, r3⟩ := m_meas hV hN (show g < 12 by omega) s2 p2
    have G3 := mG_tr G2 (m26_G r2)
    have H3 := mB_tr H2 (mB_26 r2)
    have s3 := mG_S G3 s0
    have p3 := mG_P G3 p0
    have hC := don_c hV r3
    have hC' : ∀ k m, k < 5 → m < 12 → M3.1 (y + 26) (12 * k + m) = nI (cA M3 y k m) ∧ cA M3 y k m ≤ FAR := fun k m hk hm => ⟨(hC k m hk hm).1, (cst_v hV (by omega) (hC k m hk hm).2).1⟩
    rw [show nI (σ 9 f &&& hsF 0 (sR σ f)) = nI (nd σ f) from rfl, r1, Option.bind_some, n_0, n_1]
    obtain ⟨b, b1, b2, b3⟩ := m_choose (N := nd σ f) (show m0 < 12 by omega) s3 hC' 4096 1 0 (by omega) (by omega) (by omega) (fun j hj => by have : j = 0 := by omega
                                                                                                                                              subst this; exact ⟨Nat.le_refl _, fun q => absurd q (Nat.not_lt_zero _)⟩)
    rw [b3]
    unfold f_X11_bestRoad_J85
    rw [mo s3, i12, mi34 s3 rfl (by omega), cl_n (by omega), (hC' b m0 b1 (by omega)).1, n_FAR]
    have bf := (hC' b m0 b1 (by omega)).2
    have bF := bf
    unfold FAR at bF
    by_cases hlt : cA M3 y b m0 < FAR
    · rw [if_pos (nI_lt hlt (by unfold FAR; omega)), fb_eq]
      have g4 : mG y M3 (fh_si M3 y 35 (nI b)) := mG_si (Or.inl ⟨rfl, by omega⟩)
      have s4 := mG_S g4 s3
      have p4 := mG_P g4 p3
      obtain ⟨M5, P, z1, z2, z3, z4, z5, z6, z7, z8⟩ := m_recon (K := K) (y := y) (N := nd σ f) (g := g) (b := b) (v6 := nI (cA M3 y b m0)) (C := cA M3 y) hV hN (by omega) _ s4 p4 (fun k m hk hm => by rw [fh_si_1, if_neg (by omega)]; exact hC k m hk hm) b m0 4096 _ (by omega) (Nat.le_refl _) (by omega) (by omega) ⟨rfl, fun _ _ _ => rfl⟩
      refine ⟨M5, some P, ⟨mG_tr G3 (mG_tr g4 (m27_G z2)), mB_tr H3 (mB_tr mB_35 (mB_27 z2))⟩, ⟨m0, hq, z3, by omega, fun q h1 h2 => ?_⟩, Or.inr ⟨P, rfl, by rw [z1, z5], by rw [z2.2 _ _ (by omega), fh_si_1, if_pos ⟨rfl, rfl⟩, z4], fun i hi => ?_⟩⟩
      · have k1 := (isP_b hV P _ _ z3).1
        have k2 := (isP_b hV q _ _ h1).1
        unfold key
        rw [kN_le (rcs_20 k1 (by omega)) (rcs_20 k2 h2)]
        have c1 := b2 q.length (by omega)
        have c2 := (hC q.length m0 (by omega) (by omega)).2.1 q h1 rfl
        rw [z5, z4]
        by_cases y1 : cA M3 y b m0 < pcs σ q
        · left; omega
        · have y2 : pcs σ q = cA M3 y b m0 := by omega
          by_cases y3 : q.length = b
          · right
            refine ⟨by omega, z6 q h1 y3 y2⟩
          · left
            omega
      · have := z7 i (by omega)
        rw [Nat.sub_self, Nat.zero_add] at this
        exact this
    · rw [if_neg (nI_nlt (by omega) (by omega))]
      refine ⟨M3, none, ⟨G3, H3⟩, fun m p e h1 h2 => ?_, Or.inl ⟨rfl, rfl⟩⟩
      rw [hq] at e
      have : m0 = m := by omega
      subst this
      have c1 := b2 p.length (by omega)
      have c2 := (hC p.length m0 (by omega) (by omega)).2.1 p h1 rfl
      have c3 := (isP_b hV p _ _ h1).2
      unfold FAR at hlt
      omega
