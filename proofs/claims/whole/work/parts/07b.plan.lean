theorem bv_le {σ : sT} {f m : Nat} (hV : Val σ) : bv σ f m ≤ INF := by
  by_cases h : ∃ P, bstM σ f m (some P)
  · obtain ⟨P, hP⟩ := h
    rw [bv_some hP]
    have := (bst_lt hV hP).1
    unfold INF
    omega
  · unfold bv
    rw [dif_neg h]
    exact Nat.le_refl _
/-- the class's goal of a file -/
theorem c_cheap {K : fh_K} {M : fh_M} {x f a w : Nat} {σ : sT} (hV : Val σ) (s1 : cS K M x) (p1 : cP K M x σ) (hf : f < σ 0 9) (h1 : M.2.2 (x + 6) f = some a) :
    ∃ M', f_X10_cheapestGoal K M x (some a) (nI (oM σ w (σ 0 16))) = some (kI (gl σ f w (σ 0 3)).1, M') ∧ lE x M M' ∧ ∀ m, m < 12 → f_X5_bestTo K M' (x + 15) (nI m) = some (lN (bv σ f m)) := by
  have hv := hV.1
  obtain ⟨M1, q1, q2, q3⟩ := bestM_cl hV s1 p1 hf h1
  refine ⟨M1, ?_, q2, q3⟩
  have s1' := cG_S (lE_G q2) s1
  have p1' := cG_P (lE_G q2) p1
  unfold f_X10_cheapestGoal
  rw [co s1, cr0_7 s1, fo_ok (ck15 s1), cr0_6 s1, cr0_4 s1, p1.1.2.2, q1, Option.bind_some, n_0, lN_inf]
  exact c_cheapL hV s1' p1' q3 (fun m _ => bv_le hV) 4096 0 (by omega) (Nat.zero_le _)
/-- two rows of the same length -/
theorem m_lex {K : fh_K} {M : fh_M} {y N : Nat} (s1 : mS K M y) (hN : N ≤ 4) (h35 : M.1 y 35 = nI N) : ∀ (A B : List Nat) i n, A.length = B.length → i + A.length = N → A.length < n → (∀ t, t ∈ A → t < 32) → (∀ t, t ∈ B → t < 32) → (∀ j, j < A.length → M.1 (y + 27) (i + j) = nI (A.getD j 0)) → (∀ j, j < B.length → M.1 (y + 30) (i + j) = nI (B.getD j 0)) → f_X11_isBetter_L52 K M n y (nI i) = some (if rcs A < rcs B then 1 else 0) := by
  intro A
  induction A with
  | nil =>
    intro B i n hl hi hn _ _ _ _
    cases n with
    | zero => exact absurd hn (Nat.not_lt_zero _)
    | succ n =>
      have : B = [] := List.length_eq_zero_iff.mp hl.symm
      subst this
      unfold f_X11_isBetter_L52
      rw [mo s1, h35, if_pos (nI_le (by simp at hi; omega) (by omega)), if_neg (Nat.lt_irrefl _)]
  | cons a A ih =>
    intro B i n hl hi hn hA hB h27 h30
    cases n with
    | zero => exact absurd hn (Nat.not_lt_zero _)
    | succ n =>
      cases B with
      | nil => cases hl
      | cons b B =>
        have hl' : A.length = B.length := by simpa using hl
        rw [List.length_cons] at hi hn
        have ha := hA a (by simp)
        have hb := hB b (by simp)
        have e27 : M.1 (y + 27) i = nI a := h27 0 (by simp)
        have e30 : M.1 (y + 30) i = nI b := h30 0 (by simp)
        have lA := rcs_lt A (fun t ht => hA t (by simp [ht]))
        have lB := rcs_lt B (fun t ht => hB t (by simp [ht]))
        unfold f_X11_isBetter_L52
        rw [mo s1, h35, if_neg (nI_ge (by omega) (by omega)), mi36 s1 rfl (by omega), mi42 s1 rfl (by omega), cl_n (by omega), e27, e30]
        have ea : rcs (a :: A) = a * 32 ^ A.length + rcs A := rfl
        have eb : rcs (b :: B) = b * 32 ^ A.length + rcs B := by rw [hl']; rfl
        rw [← hl'] at lB
        rw [ea, eb]
        by_cases h : a = b
        · subst h
          rw [if_pos rfl, nI_1, ih B (i + 1) n hl' (by omega) (by omega) (fun t ht => hA t (by simp [ht])) (fun t ht => hB t (by simp [ht])) (fun j hj => by
            have := h27 (j + 1) (by simp; omega)
            rw [List.getD_cons_succ] at this
            rw [show i + 1 + j = i + (j + 1) by omega]; exact this) (fun j hj => by
            have := h30 (j + 1) (by simp; omega)
            rw [List.getD_cons_succ] at this
            rw [show i + 1 + j = i + (j + 1) by omega]; exact this)]
          by_cases z : rcs A < rcs B
          · rw [if_pos z, if_pos (by omega)]
          · rw [if_neg z, if_neg (by omega)]
        · rw [if_neg (fun q => h ((nI_eq (by omega) (by omega)).mp q))]
          unfold f_X11_isBetter_J75
          rw [mo s1, mi36 s1 rfl (by omega), mi42 s1 rfl (by omega), cl_n (by omega), e27, e30]
          by_cases z : a < b
          · have h2 : (a + 1) * 32 ^ A.length ≤ b * 32 ^ A.length := Nat.mul_le_mul_right _ (by omega)
            rw [Nat.add_mul, Nat.one_mul] at h2
            rw [if_neg (nI_ge (by omega) (by omega)), if_pos (by omega)]
          · have h2 : (b + 1) * 32 ^ A.length ≤ a * 32 ^ A.length := Nat.mul_le_mul_right _ (by omega)
            rw [Nat.add_mul, Nat.one_mul] at h2
            rw [if_pos (nI_le (by omega) (by omega)), if_neg (by omega)]
/-- the plan's cells hold a row -/
def plR (M : fh_M) (y : Nat) (σ : sT) (Q : List Nat) : Prop := M.1 y 40 = nI (pcs σ Q) ∧ M.1 y 41 = nI Q.length ∧ ∀ i, i < Q.length → M.1 (y + 30) i = nI (Q.getD i 0)
def okR (σ : sT) (Q : List Nat) : Prop := pcs σ Q < 2 ^ 17 ∧ rcs Q < 2 ^ 20 ∧ Q.length ≤ 4 ∧ ∀ t, t ∈ Q → t < 24
theorem m_better {K : fh_K} {M : fh_M} {y : Nat} {σ : sT} {L Q : List Nat} (s1 : mS K M y) (hL : okR σ L) (hQ : okR σ Q) (h35 : M.1 y 35 = nI L.length) (h27 : ∀ i, i < L.length → M.1 (y + 27) i = nI (L.getD i 0)) (hp : plR M y σ Q) : f_X11_isBetter K M y (nI (pcs σ L)) = some (if key σ L < key σ Q then 1 else 0) := by
  obtain ⟨l1, l2, l3, l4⟩ := hL
  obtain ⟨r1, r2, r3, r4⟩ := hQ
  obtain ⟨e40, e41, e30⟩ := hp
  have hk : key σ L < key σ Q ↔ ¬ (pcs σ Q * 8 + Q.length < pcs σ L * 8 + L.length ∨ (pcs σ Q * 8 + Q.length = pcs σ L * 8 + L.length ∧ rcs Q ≤ rcs L)) := by
    rw [← kN_le r2 l2]
    unfold key
    omega
  unfold f_X11_isBetter
  rw [mo s1, e40, e41, h35]
  by_cases h1 : pcs σ L = pcs σ Q
  · rw [if_pos (by rw [h1])]
    by_cases h2 : L.length = Q.length
    · rw [if_pos (by rw [h2]), n_0, m_lex s1 l3 h35 L Q 0 4096 h2 (Nat.zero_add _) (by omega) (fun t ht => by have := l4 t ht; omega) (fun t ht => by have := r4 t ht; omega) (fun j hj => by rw [Nat.zero_add]; exact h27 j hj) (fun j hj => by rw [Nat.zero_add]; exact e30 j hj)]
      by_cases z : rcs L < rcs Q
      · rw [if_pos z, if_pos (hk.mpr (by omega))]
      · rw [if_neg z, if_neg (fun q => hk.mp q (by omega))]; rfl
    · rw [if_neg (fun q => h2 ((nI_eq (by omega) (by omega)).mp q))]
      by_cases z : L.length < Q.length
      · rw [if_neg (nI_ge z (by omega)), if_pos (hk.mpr (by omega))]
      · rw [if_pos (nI_le (by omega) (by omega)), if_neg (fun q => hk.mp q (by omega))]
  · rw [if_neg (fun q => h1 ((nI_eq (by omega) (by omega)).mp q))]
    by_cases z : pcs σ L < pcs σ Q
    · rw [if_neg (nI_ge z (by omega)), if_pos (hk.mpr (by omega))]
    · rw [if_pos (nI_le (by omega) (by omega)), if_neg (fun q => hk.mp q (by omega))]
theorem m_copy {K : fh_K} {y w f m : Nat} {L : List Nat} {rec5 : Nat → Int32 → Int32 → Int32 → Int32 → fh_M → Option (Int32 × fh_M)} (hL : L.length ≤ 4) (M0 : fh_M) (s0 : mS K M0 y) (h35 : M0.1 y 35 = nI L.length) (h27 : ∀ i, i < L.length → M0.1 (y + 27) i = nI (L.getD i 0)) :
    ∀ n i M, L.length - i < n → i ≤ L.length → M.2 = M0.2 → (∀ a k, a ≠ y + 30 → M.1 a k = M0.1 a k) → (∀ j, j < i → M.1 (y + 30) j = nI (L.getD j 0)) → ∃ M', f_X11_goalOf_L79 K rec5 n y (nI w) (nI f) (nI m) (nI m) (nI i) M = rec5 y (nI w) (nI f) (nI m) (nI (m + 1)) M' ∧ M'.2 = M0.2 ∧ (∀ a k, a ≠ y + 30 → M'.1 a k = M0.1 a k) ∧ ∀ j, j < L.length → M'.1 (y + 30) j = nI (L.getD j 0) := by
  intro n
  induction n with
  | zero => intro i M q; exact absurd q (Nat.not_lt_zero _)
  | succ n ih =>
    intro i M hn hi e1 e2 e3
    have s1 : mS K M y := mS_keep s0 (fun _ _ _ => rfl) (by rw [e1])
    unfold f_X11_goalOf_L79
    rw [mo s1, e2 y 35 (by omega), h35]
    by_cases hlt : i < L.length
    · rw [if_neg (nI_ge hlt (by omega)), mi36 s1 rfl (by omega), mi42 s1 rfl (by omega), fb_eq, cl_n (by omega), e2 (y + 27) i (by omega), h27 i hlt, nI_1]
      refine ih (i + 1) _ (by omega) (by omega) e1 (fun a k z => ?_) (fun j hj => ?_)
      · rw [fh_si_1, if_neg (fun q => z q.1)]; exact e2 a k z
      · rw [fh_si_1]
        by_cases z : j = i
        · rw [z, if_pos ⟨rfl, rfl⟩]
        · rw [if_neg (fun q => z q.2)]; exact e3 j (by omega)
    · rw [if_pos (nI_le (by omega) (by omega))]
      have : i = L.length := by omega
      subst this
      unfold f_X11_goalOf_J108
      rw [nI_1]
      exact ⟨M, rfl, e1, e2, e3⟩
/-- the plan's cells, when there is a goal -/
def plG (M : fh_M) (y : Nat) (σ : sT) (q : Nat × Nat) : Prop := q.1 ≠ 0 → ∃ Q, okR σ Q ∧ q.2 = key σ Q ∧ plR M y σ Q
theorem plG_B {M M' : fh_M} {y : Nat} {σ : sT} {q : Nat × Nat} (h : mB y M M') (hp : plG M y σ q) : plG M' y σ q := by
  intro z
  obtain ⟨Q, a, b, c1, c2, c3⟩ := hp z
  exact ⟨Q, a, b, by rw [h.1 40 (by omega)]; exact c1, by rw [h.1 41 (by omega)]; exact c2, fun i hi => by rw [h.2]; exact c3 i hi⟩
theorem m_goalL {K : fh_K} {y w f : Nat} {σ : sT} (hV : Val σ) (hw : w ≤ 999) (hf : f < σ 0 9) (M0 : fh_M) (s0 : mS K M0 y) (p0 : mP M0 y σ) :
    ∀ n m M, σ 0 3 - m < n → m ≤ σ 0 3 → mG y M0 M → plG M y σ (gl σ f w m) → ∃ M', f_X11_goalOf_L5 K n y (nI w) (nI f) (kI (gl σ f w m).1) (nI m) M = some (kI (gl σ f w (σ 0 3)).1, M') ∧ mG y M0 M' ∧ plG M' y σ (gl σ f w (σ 0 3)) := by
  have hv := hV.1
  intro n
  induction n with
  | zero => intro m M q; exact absurd q (Nat.not_lt_zero _)
  | succ n ih =>
    intro m M hn hm hE hp
    have s1 := mG_S hE s0
    have p1 := mG_P hE p0
    unfold f_X11_goalOf_L5
    rw [mo s1, mP_s p1 3 (by omega)]
    by_cases hlt : m < σ 0 3
    · rw [if_neg (nI_ge hlt (by omega))]
      have nx : ∀ M1, mG y M M1 → mB y M M1 → ¬ (opn σ w m ∧ bv σ f m < (gl σ f w m).2) → ∃ M', f_X11_goalOf_J108 K (f_X11_goalOf_L5 K n) y (nI w) (nI f) (kI (gl σ f w m).1) (nI m) M1 = some (kI (gl σ f w (σ 0 3)).1, M') ∧ mG y M0 M' ∧ plG M' y σ (gl σ f w (σ 0 3)) := by
        intro M1 g1 g2 z
        unfold f_X11_goalOf_J108
        rw [nI_1, ← gl_n z]
        exact ih (m + 1) M1 (by omega) (by omega) (mG_tr hE g1) (by rw [gl_n z]; exact plG_B g2 hp)
      rcases m_isRead hV s1 p1 hw (show m < 12 by omega) with ⟨o1, o2⟩ | ⟨o1, o2⟩
      · rw [o2, Option.bind_some, if_neg (by decide)]
        obtain ⟨M1, P, ⟨z1, z2⟩, z3, z4⟩ := m_best hV s1 p1 hf hlt
        rcases z4 with ⟨rfl, z4⟩ | ⟨L, rfl, z4, z5, z6⟩
        · rw [z4, fc2_some, if_pos rfl]
          refine nx M1 z1 z2 (fun q => ?_)
          have h1 := bv_none z3
          have h2 : (gl σ f w m).2 ≤ INF := by
            rcases gl_in (σ := σ) (f := f) (w := w) m with ⟨_, e⟩ | ⟨_, _, _, e, e2⟩
            · omega
            · omega
          have := q.2
          omega
        · obtain ⟨l1, l2, l3, l4, l5⟩ := bst_lt hV z3
          have hLo : okR σ L := ⟨l2, l3, l4, l5⟩
          have eb := bv_some z3
          have s2 := mG_S z1 s1
          rw [z4, fc2_some, if_neg (n_ne_m1 (by omega))]
          have yes : bv σ f m < (gl σ f w m).2 → ∃ M', f_X11_goalOf_J59 K (f_X11_goalOf_L5 K n) y (nI w) (nI f) (nI m) (nI (pcs σ L)) M1 = some (kI (gl σ f w (σ 0 3)).1, M') ∧ mG y M0 M' ∧ plG M' y σ (gl σ f w (σ 0 3)) := by
            intro z
            have e := gl_y ⟨o1, z⟩
            unfold f_X11_goalOf_J59
            rw [mo s2, fb_eq, fb_eq]
            have e35 : (fh_si M1 y 40 (nI (pcs σ L))).1 y 35 = nI L.length := by rw [fh_si_1, if_neg (by omega)]; exact z5
            rw [e35]
            have g3 : mG y M1 (fh_si (fh_si M1 y 40 (nI (pcs σ L))) y 41 (nI L.length)) := mG_tr (mG_si (Or.inl ⟨rfl, by omega⟩)) (mG_si (Or.inl ⟨rfl, by omega⟩))
            have s3 := mG_S g3 s2
            obtain ⟨M4, w1, w2, w3, w4⟩ := m_copy (K := K) (y := y) (w := w) (f := f) (m := m) (L := L) (rec5 := f_X11_goalOf_L5 K n) l4 _ s3 (by rw [fh_si_1, if_neg (by omega), fh_si_1, if_neg (by omega)]; exact z5) (fun i hi => by rw [fh_si_1, if_neg (by omega), fh_si_1, if_neg (by omega)]; exact z6 i hi) 4096 0 _ (by omega) (Nat.zero_le _) rfl (fun _ _ _ => rfl) (fun j hj => absurd hj (Nat.not_lt_zero _))
            rw [n_0, w1]
            have g4 : mG y M M4 := mG_tr z1 (mG_tr g3 ⟨w2, fun a k q => w3 a k (fun r => q (by unfold mZ; omega))⟩)
            have := ih (m + 1) M4 (by omega) (by omega) (mG_tr hE g4) (by
              rw [e]
              intro _
              refine ⟨L, hLo, eb, ?_, ?_, w4⟩
              · rw [w3 _ _ (by omega), fh_si_1, if_neg (by omega), fh_si_1, if_pos ⟨rfl, rfl⟩]
              · rw [w3 _ _ (by omega), fh_si_1, if_pos ⟨rfl, rfl⟩])
            rw [e, kI_s] at this
            exact this
          rcases gl_in (σ := σ) (f := f) (w := w) m with ⟨e1, e2⟩ | ⟨g, e0, e1, e2, e3⟩
          · rw [if_pos (by rw [e1]; rfl)]
            exact yes (by rw [e2, eb]; unfold INF; omega)
          · obtain ⟨Q, q1, q2, q3⟩ := plG_B z2 hp (by omega)
            rw [if_neg (by rw [e1, kI_s]; exact n_ne_m1 (by omega)), m_better s2 hLo q1 z5 z6 q3, Option.bind_some]
            by_cases h : key σ L < key σ Q
            · rw [if_neg (by rw [if_pos h]; decide)]
              exact yes (by rw [q2, eb]; exact h)
            · rw [if_pos (by rw [if_neg h])]
              exact nx M1 z1 z2 (fun q => h (by rw [← q2, ← eb]; exact q.2))
      · rw [o2, Option.bind_some, if_pos rfl]
        exact nx M (mG_rf y M) ⟨fun _ _ => rfl, fun _ => rfl⟩ (fun q => o1 q.1)
    · rw [if_pos (nI_le (by omega) (by omega))]
      have : m = σ 0 3 := by omega
      subst this
      exact ⟨M, rfl, hE, hp⟩
theorem m_goalOf {K : fh_K} {M : fh_M} {y w f : Nat} {σ : sT} (hV : Val σ) (hw : w ≤ 999) (hf : f < σ 0 9) (s0 : mS K M y) (p0 : mP M y σ) : ∃ M', f_X11_goalOf K M y (nI w) (nI f) = some (kI (gl σ f w (σ 0 3)).1, M') ∧ mG y M M' ∧ plG M' y σ (gl σ f w (σ 0 3)) := by
  have hv := hV.1
  unfold f_X11_goalOf
  rw [n_0]
  exact m_goalL hV hw hf M s0 p0 4096 0 M (by omega) (Nat.zero_le _) (mG_rf y M) (fun q => absurd rfl q)
/-- a file that is planned -/
def pn (σ : sT) (f : Nat) : Prop := ¬ isSrc σ f ∧ sK σ f ≠ 0
theorem c_planned {K : fh_K} {M : fh_M} {x f a : Nat} {σ : sT} (p1 : cP K M x σ) (hV : Val σ) (hf : f < σ 0 9) (h1 : M.2.2 (x + 6) f = some a) : (pn σ f ∧ f_X10_isPlanned K M (some a) = some 1) ∨ (¬ pn σ f ∧ f_X10_isPlanned K M (some a) = some 0) := by
  have hv := hV.1
  have hsk := sK_le σ f
  obtain ⟨a', ab, d1, d2, d3, d4, d5, d6, d7, d8, d9, d10, d11, d12, -⟩ := p1.2.2.2.2.2.2.2.1 f hf
  cases h1.symm.trans d1
  unfold f_X10_isPlanned pn
  rw [if_neg (fun q => by cases q), fo_ok d4, d12]
  rcases d10 with ⟨e1, e2⟩ | ⟨e1, e2⟩
  · rw [e2, if_neg (by decide)]
    exact Or.inr ⟨fun q => q.1 e1, rfl⟩
  · rw [e2, if_pos rfl]
    by_cases h : sK σ f = 0
    · rw [if_pos ((kI_m1 (by omega)).mpr h)]
      exact Or.inr ⟨fun q => q.2 h, rfl⟩
    · rw [if_neg (fun q => h ((kI_m1 (by omega)).mp q))]
      exact Or.inl ⟨⟨e1, h⟩, rfl⟩
theorem m_plannedL {K : fh_K} {M : fh_M} {y f : Nat} {σ : sT} (hV : Val σ) (hf : f < σ 0 9) (s1 : mS K M y) (p1 : mP M y σ) : ∀ n g, σ 0 9 - g < n → g ≤ σ 0 9 → (∀ j, j < g → σ 10 j ≠ f + 1) → ∃ M', mG y M M' ∧ ((pn σ f ∧ f_X11_isPlanned_L2 K n y (nI f) (nI g) M = some (1, M')) ∨ (¬ pn σ f ∧ f_X11_isPlanned_L2 K n y (nI f) (nI g) M = some (0, M'))) := by
  have hv := hV.1
  have hsk := sK_le σ f
  intro n
  induction n with
  | zero => intro g q; exact absurd q (Nat.not_lt_zero _)
  | succ n ih =>
    intro g hn hg hj
    unfold f_X11_isPlanned_L2
    rw [mo s1, mP_s p1 9 (by omega)]
    by_cases hlt : g < σ 0 9
    · have hb := (hV.2.2.2.1 g hlt).2.2.2
      rw [if_neg (nI_ge hlt (by omega)), mi13 s1 rfl (by omega), cl_n (by omega), p1.2.2.2 g]
      by_cases h : σ 10 g = f + 1
      · rw [if_pos (by rw [h, kI_s])]
        exact ⟨M, mG_rf y M, Or.inr ⟨fun q => q.1 ⟨g, hlt, h⟩, rfl⟩⟩
      · rw [if_neg (fun q => h ((kI_inj (by omega) (by omega)).mp (q.trans (kI_s f).symm))), nI_1]
        exact ih (g + 1) (by omega) (by omega) (fun j hj' => by
          by_cases e : j = g
          · rw [e]; exact h
          · exact hj j (by omega))
    · rw [if_pos (nI_le (by omega) (by omega))]
      unfold f_X11_isPlanned_J28
      obtain ⟨M', q1, q2, -⟩ := m_knows s1 p1 hV hf
      have ns : ¬ isSrc σ f := fun ⟨g', a, b⟩ => hj g' (by omega) b
      refine ⟨M', mG_E q2, ?_⟩
      rw [mo s1, q1, fc2_some]
      by_cases h : sK σ f = 0
      · rw [if_pos ((kI_m1 (by omega)).mpr h)]
        exact Or.inr ⟨fun q => q.2 h, rfl⟩
      · rw [if_neg (fun q => h ((kI_m1 (by omega)).mp q))]
        exact Or.inl ⟨⟨ns, h⟩, rfl⟩
theorem m_planned {K : fh_K} {M : fh_M} {y f : Nat} {σ : sT} (hV : Val σ) (hf : f < σ 0 9) (s1 : mS K M y) (p1 : mP M y σ) : ∃ M', mG y M M' ∧ ((pn σ f ∧ f_X11_isPlanned K M y (nI f) = some (1, M')) ∨ (¬ pn σ f ∧ f_X11_isPlanned K M y (nI f) = some (0, M'))) := by
  have hv := hV.1
  unfold f_X11_isPlanned
  rw [n_0]
  exact m_plannedL hV hf s1 p1 4096 0 (by omega) (Nat.zero_le _) (fun j hj => absurd hj (Nat.not_lt_zero _))
theorem yr {K : fh_K} {M M' : fh_M} {x : Nat} {σ : sT} (hV : Val σ) (s1 : cS K M x) (p1 : cP K M x σ) (v : Int32) : (f_X10_isYearToCome K M x v = some 0 ∧ f_X11_lies K M' v (nI (σ 0 2)) 999 = some 0) ∨ ∃ j, j ≤ 999 ∧ v = nI j ∧ f_X10_isYearToCome K M x v = some 1 ∧ f_X11_lies K M' v (nI (σ 0 2)) 999 = some 1 := by
  have hv := hV.1
  have e999 : (999 : Int32) = nI 999 := rfl
  rcases nrange (v := v) (n := 999) (by omega) with h | ⟨j, hj, rfl⟩
  · refine Or.inl ⟨?_, ?_⟩
    · unfold f_X10_isYearToCome; rw [c_yearOut h]; rfl
    · rw [m_lies]
      by_cases q : v < nI (σ 0 2)
      · rw [if_pos q]
      · rw [if_neg q]
        rcases h with h | h
        · exfalso; apply q
          rw [fa_lt] at h ⊢
          rw [nI_toInt (by omega)]
          have : (0 : Int32).toInt = 0 := by decide
          omega
        · rw [e999, if_pos h]
  · by_cases q : j < σ 0 2
    · refine Or.inl ⟨?_, ?_⟩
      · unfold f_X10_isYearToCome; rw [c_yearIn hj]
        simp only [Option.bind_some]
        rw [if_neg (show ¬ (1 : Int32) = 0 by decide), co s1, p1.1.2.2, if_pos (nI_lt q (by omega))]
      · rw [m_lies, if_pos (nI_lt q (by omega))]
    · refine Or.inr ⟨j, hj, rfl, ?_, ?_⟩
      · unfold f_X10_isYearToCome; rw [c_yearIn hj]
        simp only [Option.bind_some]
        rw [if_neg (show ¬ (1 : Int32) = 0 by decide), co s1, p1.1.2.2, if_neg (nI_nlt (by omega) (by omega))]
      · rw [m_lies, if_neg (nI_nlt (by omega) (by omega)), e999, if_neg (nI_nlt hj (by omega))]
/-- GOAL -/
theorem op_goal {sz : Nat} {K : fh_K} {M : fh_M} {x : Nat} {σ : sT} (hI : Inv sz K M x σ) (v w : Int32) : Op sz K M x (fun K M x => f_X10_goal K M x v w) (fun K M y => f_X11_goal K M y v w) := by
  obtain ⟨hV, s1, p1, s2, p2, k1, k2⟩ := id hI
  have hv := hV.1
  have flE : ∃ o, f_X10_fileAt K M x w = some o := by
    rcases pk_ix3 w (n := σ 0 9) (by omega) with h | ⟨i, hi, rfl⟩
    · exact ⟨_, c_fileOut s1 p1 h⟩
    · exact ⟨_, c_fileIn s1 p1 hV hi⟩
  rcases yr (M' := M) hV s1 p1 v with ⟨y1, y2⟩ | ⟨j, hj, rfl, y1, y2⟩
  · obtain ⟨o, ho⟩ := flE
    refine ⟨-1, M, M, σ, ?_, ?_, hI⟩
    · show f_X10_goal K M x v w = _
      unfold f_X10_goal; rw [co s1, ho, Option.bind_some, y1]; rfl
    · show f_X11_goal K M (x + 32) v w = _
      unfold f_X11_goal; rw [mo s2, mP_s p2 2 (by omega), y2]; rfl
  rcases pk_ix3 w (n := σ 0 9) (by omega) with h | ⟨f, hf, rfl⟩
  · refine ⟨-1, M, M, σ, ?_, ?_, hI⟩
    · show f_X10_goal K M x (nI j) w = _
      unfold f_X10_goal; rw [co s1, c_fileOut s1 p1 h, Option.bind_some, y1]; rfl
    · show f_X11_goal K M (x + 32) (nI j) w = _
      unfold f_X11_goal; rw [mo s2, mP_s p2 2 (by omega), y2, Option.bind_some, if_neg (by decide), m_fileOut s2 p2 hV h]; rfl
  obtain ⟨a, ab, h1, -⟩ := p1.2.2.2.2.2.2.2.1 f hf
  rcases c_planned p1 hV hf h1 with ⟨n1, n2⟩ | ⟨n1, n2⟩
  · obtain ⟨M1, q1, q2, -⟩ := c_cheap (w := j) hV s1 p1 hf h1
    have hI1 := Inv_cG hI (lE_G q2)
    obtain ⟨-, s1', p1', s2', p2', -⟩ := id hI1
    obtain ⟨M2, g2, z⟩ := m_planned hV hf s2' p2'
    have z2 := (z.resolve_right (fun q => q.1 n1)).2
    obtain ⟨M3, r1, r2, -⟩ := m_goalOf (w := j) hV hj hf (mG_S g2 s2') (mG_P g2 p2')
    refine ⟨kI (gl σ f j (σ 0 3)).1, M1, M3, σ, ?_, ?_, Inv_mG hI1 (mG_tr g2 r2)⟩
    · show f_X10_goal K M x (nI j) (nI f) = _
      unfold f_X10_goal
      rw [co s1, c_fileIn s1 p1 hV hf, h1, Option.bind_some, y1, Option.bind_some, if_neg (by decide), n2, Option.bind_some, if_neg (by decide), cr0_5 s1, fo_ok (ck10 s1), cr0_4 s1, c_open hV s1 p1 hj, Option.bind_some, q1, fc2_some]
    · show f_X11_goal K M1 (x + 32) (nI j) (nI f) = _
      have y2' : f_X11_lies K M1 (nI j) (nI (σ 0 2)) 999 = some 1 := by
        rw [m_lies] at y2 ⊢; exact y2
      unfold f_X11_goal
      rw [mo s2', mP_s p2' 2 (by omega), y2', Option.bind_some, if_neg (by decide), m_fileIn s2' p2' hV hf, Option.bind_some, if_neg (by decide), z2, fc2_some, if_neg (by decide), r1, fc2_some]
  · obtain ⟨M2, g2, z⟩ := m_planned hV hf s2 p2
    have z2 := (z.resolve_left (fun q => n1 q.1)).2
    refine ⟨-1, M, M2, σ, ?_, ?_, Inv_mG hI g2⟩
    · show f_X10_goal K M x (nI j) (nI f) = _
      unfold f_X10_goal
      rw [co s1, c_fileIn s1 p1 hV hf, h1, Option.bind_some, y1, Option.bind_some, if_neg (by decide), n2]
      rfl
    · show f_X11_goal K M (x + 32) (nI j) (nI f) = _
      unfold f_X11_goal
      rw [mo s2, mP_s p2 2 (by omega), y2, Option.bind_some, if_neg (by decide), m_fileIn s2 p2 hV hf, Option.bind_some, if_neg (by decide), z2, fc2_some, if_pos rfl]
/-- the plan: the sum, and whether a file has no goal -/
noncomputable def pS (σ : sT) (w : Nat) : Nat → Nat × Nat
  | 0 => (0, 0)
  | f + 1 => @ite _ (pn σ f) (Classical.propDecidable _) (if (gl σ f w (σ 0 3)).1 = 0 then ((pS σ w f).1, 1) else ((pS σ w f).1 + (gl σ f w (σ 0 3)).2 / 2 ^ 23, (pS σ w f).2)) (pS σ w f)
theorem pS_n {σ : sT} {w f : Nat} (h : ¬ pn σ f) : pS σ w (f + 1) = pS σ w f := by
  show @ite _ _ (Classical.propDecidable _) _ _ = _
  rw [if_neg h]
theorem pS_0 {σ : sT} {w f : Nat} (h : pn σ f) (h0 : (gl σ f w (σ 0 3)).1 = 0) : pS σ w (f + 1) = ((pS σ w f).1, 1) := by
  show @ite _ _ (Classical.propDecidable _) _ _ = _
  rw [if_pos h, if_pos h0]
theorem pS_1 {σ : sT} {w f : Nat} (h : pn σ f) (h0 : ¬ (gl σ f w (σ 0 3)).1 = 0) : pS σ w (f + 1) = ((pS σ w f).1 + (gl σ f w (σ 0 3)).2 / 2 ^ 23, (pS σ w f).2) := by
  show @ite _ _ (Classical.propDecidable _) _ _ = _
  rw [if_pos h, if_neg h0]
theorem pS_m {σ : sT} {w f : Nat} (h : (pS σ w f).2 = 1) : ∀ d, (pS σ w (f + d)).2 = 1 := by
  intro d
  induction d with
  | zero => exact h
  | succ d ih =>
    show (pS σ w (f + d + 1)).2 = 1
    by_cases z : pn σ (f + d)
    · by_cases z0 : (gl σ (f + d) w (σ 0 3)).1 = 0
      · rw [pS_0 z z0]
      · rw [pS_1 z z0]; exact ih
    · rw [pS_n z]; exact ih
theorem key_pr {σ : sT} {Q : List Nat} (h : okR σ Q) : key σ Q / 2 ^ 23 = pcs σ Q := by
  obtain ⟨a, b, c, d⟩ := h
  unfold key kN
  omega
/-- what the goal's road is -/
theorem gl_Q {σ : sT} {f w : Nat} (hV : Val σ) (h0 : ¬ (gl σ f w (σ 0 3)).1 = 0) : ∃ m Q, m < σ 0 3 ∧ (gl σ f w (σ 0 3)).1 = m + 1 ∧ okR σ Q ∧ bv σ f m = key σ Q ∧ (gl σ f w (σ 0 3)).2 = key σ Q := by
  rcases gl_in (σ := σ) (f := f) (w := w) (σ 0 3) with ⟨e1, e2⟩ | ⟨m, e0, e1, e2, e3⟩
  · exact absurd e1 h0
  · by_cases h : ∃ P, bstM σ f m (some P)
    · obtain ⟨P, hP⟩ := h
      obtain ⟨l1, l2, l3, l4, l5⟩ := bst_lt hV hP
      exact ⟨m, P, e0, e1, ⟨l2, l3, l4, l5⟩, bv_some hP, by rw [e2, bv_some hP]⟩
    · unfold bv at e3
      rw [dif_neg h] at e3
      exact absurd e3 (Nat.lt_irrefl _)
theorem c_planL {K : fh_K} {x w : Nat} {σ : sT} (hV : Val σ) (M0 : fh_M) (s0 : cS K M0 x) (p0 : cP K M0 x σ) : ∀ n f M, σ 0 9 - f < n → f ≤ σ 0 9 → lE x M0 M → (pS σ w f).2 = 0 → ∃ M', f_X10_plan_L28 K n x (nI (oM σ w (σ 0 16))) (nI (pS σ w f).1) (nI f) M = some (if (pS σ w (σ 0 9)).2 = 0 then nI (pS σ w (σ 0 9)).1 else -2, M') ∧ lE x M0 M' := by
  have hv := hV.1
  intro n
  induction n with
  | zero => intro f M q; exact absurd q (Nat.not_lt_zero _)
  | succ n ih =>
    intro f M hn hf hE h0
    have s1 := cG_S (lE_G hE) s0
    have p1 := cG_P (lE_G hE) p0
    unfold f_X10_plan_L28
    rw [co s1, p1.1.2.1]
    by_cases hlt : f < σ 0 9
    · obtain ⟨a, ab, h1, -⟩ := p1.2.2.2.2.2.2.2.1 f hlt
      rw [if_neg (nI_ge hlt (by omega)), cr0_3 s1, fi_ok (ck6 s1) rfl (by omega) (by omega), cl_n (by omega), h1]
      unfold f_X10_plan_J87
      rw [nI_1]
      rcases c_planned p1 hV hlt h1 with ⟨n1, n2⟩ | ⟨n1, n2⟩
      · rw [n2, Option.bind_some, if_neg (by decide)]
        obtain ⟨M1, q1, q2, q3⟩ := c_cheap (w := w) hV s1 p1 hlt h1
        have s2 := cG_S (lE_G q2) s1
        rw [q1, fc2_some]
        by_cases z : (gl σ f w (σ 0 3)).1 = 0
        · rw [z, if_pos kI_0]
          refine ⟨M1, ?_, lE_tr hE q2⟩
          have e := pS_m (σ := σ) (w := w) (f := f + 1) (by rw [pS_0 n1 z]) (σ 0 9 - (f + 1))
          rw [show f + 1 + (σ 0 9 - (f + 1)) = σ 0 9 by omega] at e
          rw [if_neg (by omega)]
        · obtain ⟨m, Q, e1, e2, e3, e4, e5⟩ := gl_Q hV z
          rw [e2, kI_s, if_neg (n_ne_m1 (by omega)), cr0_7 s2, fo_ok (ck15 s2), q3 m (by omega), Option.bind_some, e4]
          have hpr : f_X5_priceOf K M1 (lN (key σ Q)) = some (nI (pcs σ Q)) := by
            unfold key
            exact k_price K M1 e3.1 (by have := e3.2.2.1; omega) e3.2.1
          rw [hpr, Option.bind_some, nI_add]
          have e := pS_1 (w := w) n1 z
          rw [e5, key_pr e3] at e
          have := ih (f + 1) M1 (by omega) (by omega) (lE_tr hE q2) (by rw [e]; exact h0)
          rw [e] at this
          exact this
      · rw [n2, Option.bind_some, if_pos rfl, ← pS_n (w := w) n1]
        exact ih (f + 1) M (by omega) (by omega) hE (by rw [pS_n n1]; exact h0)
    · rw [if_pos (nI_le (by omega) (by omega))]
      have : f = σ 0 9 := by omega
      subst this
      exact ⟨M, by rw [if_pos h0], hE⟩
theorem m_planL {K : fh_K} {y w : Nat} {σ : sT} (hV : Val σ) (hw : w ≤ 999) (M0 : fh_M) (s0 : mS K M0 y) (p0 : mP M0 y σ) : ∀ n f M, σ 0 9 - f < n → f ≤ σ 0 9 → mG y M0 M → (pS σ w f).2 ≤ 1 → ∃ M', f_X11_plan_L23 K n y (nI w) (nI (pS σ w f).1) (nI (pS σ w f).2) (nI f) M = some (if (pS σ w (σ 0 9)).2 = 0 then nI (pS σ w (σ 0 9)).1 else -2, M') ∧ mG y M0 M' := by
  have hv := hV.1
  intro n
  induction n with
  | zero => intro f M q; exact absurd q (Nat.not_lt_zero _)
  | succ n ih =>
    intro f M hn hf hE h0
    have s1 := mG_S hE s0
    have p1 := mG_P hE p0
    unfold f_X11_plan_L23
    rw [mo s1, mP_s p1 9 (by omega)]
    by_cases hlt : f < σ 0 9
    · rw [if_neg (nI_ge hlt (by omega))]
      unfold f_X11_plan_J67
      rw [nI_1]
      obtain ⟨M1, g1, z⟩ := m_planned hV hlt s1 p1
      have s2 := mG_S g1 s1
      have p2 := mG_P g1 p1
      rcases z with ⟨n1, n2⟩ | ⟨n1, n2⟩
      · rw [n2, fc2_some, if_neg (by decide)]
        obtain ⟨M2, q1, q2, q3⟩ := m_goalOf (w := w) hV hw hlt s2 p2
        rw [q1, fc2_some]
        have E2 := mG_tr hE (mG_tr g1 q2)
        by_cases z : (gl σ f w (σ 0 3)).1 = 0
        · rw [z, if_pos kI_0]
          have e := pS_0 n1 z
          have := ih (f + 1) M2 (by omega) (by omega) E2 (by rw [e]; exact Nat.le_refl _)
          rw [e] at this
          exact this
        · obtain ⟨m, Q, e1, e2, e3, e4, e5⟩ := gl_Q hV z
          obtain ⟨Q', f1, f2, f3, -⟩ := q3 z
          rw [e2, kI_s, if_neg (n_ne_m1 (by omega)), f3, nI_add]
          have e := pS_1 (w := w) n1 z
          rw [f2, key_pr f1] at e
          have := ih (f + 1) M2 (by omega) (by omega) E2 (by rw [e]; exact h0)
          rw [e] at this
          exact this
      · rw [n2, fc2_some, if_pos rfl, ← pS_n (w := w) n1]
        exact ih (f + 1) M1 (by omega) (by omega) (mG_tr hE g1) (by rw [pS_n n1]; exact h0)
    · rw [if_pos (nI_le (by omega) (by omega))]
      have : f = σ 0 9 := by omega
      subst this
      unfold f_X11_plan_J73
      refine ⟨M, ?_, hE⟩
      by_cases z : (pS σ w (σ 0 9)).2 = 0
      · rw [z, if_pos nI_0, if_pos rfl]
      · rw [if_neg (nI_ne0 (by omega) (by omega)), if_neg z]
/-- PLAN -/
theorem op_plan {sz : Nat} {K : fh_K} {M : fh_M} {x : Nat} {σ : sT} (hI : Inv sz K M x σ) (v : Int32) : Op sz K M x (fun K M x => f_X10_plan K M x v) (fun K M y => f_X11_plan K M y v) := by
  obtain ⟨hV, s1, p1, s2, p2, k1, k2⟩ := id hI
  have hv := hV.1
  rcases yr (M' := M) hV s1 p1 v with ⟨y1, y2⟩ | ⟨j, hj, rfl, y1, y2⟩
  · refine ⟨-1, M, M, σ, ?_, ?_, hI⟩
    · show f_X10_plan K M x v = _
      unfold f_X10_plan; rw [co s1, y1]; rfl
    · show f_X11_plan K M (x + 32) v = _
      unfold f_X11_plan; rw [mo s2, mP_s p2 2 (by omega), y2]; rfl
  · obtain ⟨M1, q1, q2⟩ := c_planL (w := j) hV M s1 p1 4096 0 M (by omega) (Nat.zero_le _) (lE_rf x M) rfl
    have hI1 := Inv_cG hI (lE_G q2)
    obtain ⟨-, s1', p1', s2', p2', -⟩ := id hI1
    obtain ⟨M2, r1, r2⟩ := m_planL (w := j) hV hj M1 s2' p2' 4096 0 M1 (by omega) (Nat.zero_le _) (mG_rf _ M1) (Nat.zero_le _)
    refine ⟨if (pS σ j (σ 0 9)).2 = 0 then nI (pS σ j (σ 0 9)).1 else -2, M1, M2, σ, ?_, ?_, Inv_mG hI1 r2⟩
    · show f_X10_plan K M x (nI j) = _
      unfold f_X10_plan
      rw [co s1, y1, Option.bind_some, if_neg (by decide), cr0_5 s1, fo_ok (ck10 s1), cr0_4 s1, c_open hV s1 p1 hj, Option.bind_some, n_0]
      exact q1
    · show f_X11_plan K M1 (x + 32) (nI j) = _
      have y2' : f_X11_lies K M1 (nI j) (nI (σ 0 2)) 999 = some 1 := by
        rw [m_lies] at y2 ⊢; exact y2
      unfold f_X11_plan
      rw [mo s2', mP_s p2' 2 (by omega), y2', Option.bind_some, if_neg (by decide), n_0]
      exact r1
