/-- a make that a reader still opens in year w -/
def opn (σ : sT) (w m : Nat) : Prop := ∃ r, r < σ 0 16 ∧ σ 13 r = m ∧ ¬ σ 11 (σ 14 r) < w
def oM (σ : sT) (w : Nat) : Nat → Nat
  | 0 => 0
  | r + 1 => if σ 11 (σ 14 r) < w then oM σ w r else oM σ w r ||| 2 ^ σ 13 r
theorem oM_bit (σ : sT) (w m : Nat) : ∀ n, (oM σ w n).testBit m = true ↔ ∃ r, r < n ∧ σ 13 r = m ∧ ¬ σ 11 (σ 14 r) < w := by
  intro n
  induction n with
  | zero =>
    show (0 : Nat).testBit m = true ↔ _
    rw [Nat.zero_testBit]
    exact ⟨fun h => absurd h (by decide), fun ⟨r, h, _⟩ => absurd h (Nat.not_lt_zero _)⟩
  | succ n ih =>
    show (if σ 11 (σ 14 n) < w then oM σ w n else oM σ w n ||| 2 ^ σ 13 n).testBit m = true ↔ _
    by_cases h : σ 11 (σ 14 n) < w
    · rw [if_pos h, ih]
      constructor
      · rintro ⟨r, a, b⟩; exact ⟨r, by omega, b⟩
      · rintro ⟨r, a, b, c⟩
        by_cases e : r = n
        · subst e; exact absurd h c
        · exact ⟨r, by omega, b, c⟩
    · rw [if_neg h, Nat.testBit_or, Nat.testBit_two_pow]
      simp only [Bool.or_eq_true, decide_eq_true_eq]
      rw [ih]
      constructor
      · rintro (⟨r, a, b⟩ | e)
        · exact ⟨r, by omega, b⟩
        · exact ⟨n, by omega, e, h⟩
      · rintro ⟨r, a, b, c⟩
        by_cases e : r = n
        · subst e; exact Or.inr b
        · exact Or.inl ⟨r, by omega, b, c⟩
theorem oM_lt {σ : sT} {w : Nat} (hV : Val σ) : ∀ n, n ≤ σ 0 16 → oM σ w n < 2 ^ 12 := by
  have hv := hV.1
  intro n
  induction n with
  | zero => intro _; show 0 < 2 ^ 12; omega
  | succ n ih =>
    intro hn
    have h1 := ih (by omega)
    have h2 := (hV.2.2.2.2.2.2.1 n (by omega)).1
    show (if σ 11 (σ 14 n) < w then oM σ w n else oM σ w n ||| 2 ^ σ 13 n) < 2 ^ 12
    by_cases h : σ 11 (σ 14 n) < w
    · rw [if_pos h]; exact h1
    · rw [if_neg h]
      exact Nat.or_lt_two_pow h1 (Nat.pow_lt_pow_right (by omega) (by omega))
theorem c_openL {K : fh_K} {M : fh_M} {x w : Nat} {σ : sT} (hV : Val σ) (s1 : cS K M x) (p1 : cP K M x σ) (hw : w ≤ 999) : ∀ n r, σ 0 16 - r < n → r ≤ σ 0 16 → f_X3_makesOpenIn_L5 K M n (x + 10) (some (x + 7)) (nI w) (nI (oM σ w r)) (nI r) = some (nI (oM σ w (σ 0 16))) := by
  have hv := hV.1
  intro n
  induction n with
  | zero => intro r q; exact absurd q (Nat.not_lt_zero _)
  | succ n ih =>
    intro r hn hr
    unfold f_X3_makesOpenIn_L5
    rw [fo_ok (ck10 s1), p1.2.2.2.1.1]
    by_cases hlt : r < σ 0 16
    · obtain ⟨a1, a2⟩ := p1.2.2.2.1.2 r hlt
      obtain ⟨b1, b2⟩ := hV.2.2.2.2.2.2.1 r hlt
      have b3 := hV.2.2.2.2.2.1 _ b2
      rw [if_neg (nI_ge hlt (by omega)), cr10_1 s1, fi_ok (ck12 s1) rfl (by omega) (by omega), fo_ok (ck7 s1), cl_n (by omega), a2, c_live s1 p1 b2, Option.bind_some]
      unfold f_X3_makesOpenIn_J41
      rw [nI_1]
      by_cases h : σ 11 (σ 14 r) < w
      · rw [if_pos (by rw [if_pos (nI_lt h (by omega))])]
        have e : oM σ w (r + 1) = oM σ w r := if_pos h
        rw [← e]
        exact ih (r + 1) (by omega) (by omega)
      · rw [if_neg (by rw [if_neg (nI_nlt (by omega) (by omega))]; decide), cr10_0 s1, fi_ok (ck11 s1) rfl (by omega) (by omega), a1, or1 (by omega)]
        have e : oM σ w (r + 1) = oM σ w r ||| 2 ^ σ 13 r := if_neg h
        rw [← e]
        exact ih (r + 1) (by omega) (by omega)
    · rw [if_pos (nI_le (by omega) (by omega))]
      have : r = σ 0 16 := by omega
      rw [this]
theorem c_open {K : fh_K} {M : fh_M} {x w : Nat} {σ : sT} (hV : Val σ) (s1 : cS K M x) (p1 : cP K M x σ) (hw : w ≤ 999) : f_X3_makesOpenIn K M (x + 10) (some (x + 7)) (nI w) = some (nI (oM σ w (σ 0 16))) := by
  have hv := hV.1
  unfold f_X3_makesOpenIn
  rw [n_0]
  exact c_openL hV s1 p1 hw 4096 0 (by omega) (by omega)
theorem m_isRead {K : fh_K} {M : fh_M} {y w m : Nat} {σ : sT} (hV : Val σ) (s1 : mS K M y) (p1 : mP M y σ) (hw : w ≤ 999) (hm : m < 12) : (opn σ w m ∧ f_X11_isRead K M y (nI m) (nI w) = some 1) ∨ (¬ opn σ w m ∧ f_X11_isRead K M y (nI m) (nI w) = some 0) := by
  have hv := hV.1
  have go : ∀ n r, σ 0 16 - r < n → r ≤ σ 0 16 → (∀ q, q < r → ¬ (σ 13 q = m ∧ ¬ σ 11 (σ 14 q) < w)) → (opn σ w m ∧ f_X11_isRead_L2 K M n y (nI m) (nI w) (nI r) = some 1) ∨ (¬ opn σ w m ∧ f_X11_isRead_L2 K M n y (nI m) (nI w) (nI r) = some 0) := by
    intro n
    induction n with
    | zero => intro r q; exact absurd q (Nat.not_lt_zero _)
    | succ n ih =>
      intro r hn hr hq
      unfold f_X11_isRead_L2
      rw [mo s1, mP_s p1 16 (by omega)]
      by_cases hlt : r < σ 0 16
      · obtain ⟨b1, b2⟩ := hV.2.2.2.2.2.2.1 r hlt
        have b3 := hV.2.2.2.2.2.1 _ b2
        rw [if_neg (nI_ge hlt (by omega)), mi17 s1 rfl (by omega), cl_n (by omega), mP_a p1 13 r (by omega)]
        unfold f_X11_isRead_J37
        rw [nI_1]
        have nx : ¬ (σ 13 r = m ∧ ¬ σ 11 (σ 14 r) < w) → (opn σ w m ∧ f_X11_isRead_L2 K M n y (nI m) (nI w) (nI (r + 1)) = some 1) ∨ (¬ opn σ w m ∧ f_X11_isRead_L2 K M n y (nI m) (nI w) (nI (r + 1)) = some 0) := by
          intro z
          refine ih (r + 1) (by omega) (by omega) (fun q hq' => ?_)
          by_cases e : q = r
          · rw [e]; exact z
          · exact hq q (by omega)
        by_cases h : σ 13 r = m
        · rw [if_pos (by rw [h]), mi18 s1 rfl (by omega), mP_a p1 14 r (by omega), mi14 s1 rfl b2, cl_n (by omega), mP_a p1 11 _ (by omega)]
          by_cases h2 : σ 11 (σ 14 r) < w
          · rw [if_pos (nI_lt h2 (by omega))]
            exact nx (fun q => q.2 h2)
          · rw [if_neg (nI_nlt (by omega) (by omega))]
            exact Or.inl ⟨⟨r, hlt, h, h2⟩, rfl⟩
        · rw [if_neg (fun q => h ((nI_eq (by omega) (by omega)).mp q))]
          exact nx (fun q => h q.1)
      · rw [if_pos (nI_le (by omega) (by omega))]
        refine Or.inr ⟨fun ⟨q, a, b⟩ => hq q (by omega) b, rfl⟩
  unfold f_X11_isRead
  rw [n_0]
  exact go 4096 0 (by omega) (by omega) (fun q hq => absurd hq (Nat.not_lt_zero _))
/-- the goal of a file, one more than its number, and the number of its road -/
noncomputable def gl (σ : sT) (f w : Nat) : Nat → Nat × Nat
  | 0 => (0, INF)
  | m + 1 => @ite _ (opn σ w m ∧ bv σ f m < (gl σ f w m).2) (Classical.propDecidable _) (m + 1, bv σ f m) (gl σ f w m)
theorem gl_y {σ : sT} {f w m : Nat} (h : opn σ w m ∧ bv σ f m < (gl σ f w m).2) : gl σ f w (m + 1) = (m + 1, bv σ f m) := by
  show @ite _ _ (Classical.propDecidable _) _ _ = _
  rw [if_pos h]
theorem gl_n {σ : sT} {f w m : Nat} (h : ¬ (opn σ w m ∧ bv σ f m < (gl σ f w m).2)) : gl σ f w (m + 1) = gl σ f w m := by
  show @ite _ _ (Classical.propDecidable _) _ _ = _
  rw [if_neg h]
theorem gl_in {σ : sT} {f w : Nat} : ∀ n, ((gl σ f w n).1 = 0 ∧ (gl σ f w n).2 = INF) ∨ ∃ m, m < n ∧ (gl σ f w n).1 = m + 1 ∧ (gl σ f w n).2 = bv σ f m ∧ bv σ f m < INF := by
  intro n
  induction n with
  | zero => exact Or.inl ⟨rfl, rfl⟩
  | succ n ih =>
    by_cases h : opn σ w n ∧ bv σ f n < (gl σ f w n).2
    · rw [gl_y h]
      refine Or.inr ⟨n, by omega, rfl, rfl, ?_⟩
      rcases ih with ⟨_, e⟩ | ⟨m, _, _, e, e2⟩
      · rw [← e]; exact h.2
      · have := h.2; omega
    · rw [gl_n h]
      rcases ih with e | ⟨m, a, b⟩
      · exact Or.inl e
      · exact Or.inr ⟨m, by omega, b⟩
theorem c_cheapL {K : fh_K} {M : fh_M} {x f w : Nat} {σ : sT} (hV : Val σ) (s1 : cS K M x) (p1 : cP K M x σ) (hb : ∀ m, m < 12 → f_X5_bestTo K M (x + 15) (nI m) = some (lN (bv σ f m))) (hbv : ∀ m, m < 12 → bv σ f m ≤ INF) : ∀ n m, σ 0 3 - m < n → m ≤ σ 0 3 → f_X10_cheapestGoal_L30 K n x (nI (oM σ w (σ 0 16))) (kI (gl σ f w m).1) (lN (gl σ f w m).2) (nI m) M = some (kI (gl σ f w (σ 0 3)).1, M) := by
  have hv := hV.1
  intro n
  induction n with
  | zero => intro m q; exact absurd q (Nat.not_lt_zero _)
  | succ n ih =>
    intro m hn hm
    unfold f_X10_cheapestGoal_L30
    rw [co s1, p1.1.1]
    by_cases hlt : m < σ 0 3
    · have ho := oM_lt (w := w) hV (σ 0 16) (Nat.le_refl _)
      have hbm := hbv m (by omega)
      have hgl : (gl σ f w m).2 ≤ INF := by
        rcases gl_in (σ := σ) (f := f) (w := w) m with ⟨_, e⟩ | ⟨_, _, _, e, e2⟩
        · omega
        · omega
      unfold INF at hbm hgl
      rw [if_neg (nI_ge hlt (by omega))]
      unfold f_X10_cheapestGoal_J78
      rw [nI_1]
      have nx : ¬ (opn σ w m ∧ bv σ f m < (gl σ f w m).2) → f_X10_cheapestGoal_L30 K n x (nI (oM σ w (σ 0 16))) (kI (gl σ f w m).1) (lN (gl σ f w m).2) (nI (m + 1)) M = some (kI (gl σ f w (σ 0 3)).1, M) := by
        intro z
        have := ih (m + 1) (by omega) (by omega)
        rw [gl_n z] at this
        exact this
      by_cases h : opn σ w m
      · rw [if_pos ((bt1 (by omega) (by omega)).mpr ((oM_bit σ w m _).mpr h)), cr0_7 s1, fo_ok (ck15 s1), hb m (by omega), Option.bind_some]
        by_cases h2 : bv σ f m < (gl σ f w m).2
        · rw [if_neg (fun q => by
            rw [lg_cmp_ge] at q
            exact absurd ((pk_lLE (by omega) (by omega)).mp q) (by omega)), Option.bind_some]
          have := ih (m + 1) (by omega) (by omega)
          rw [gl_y ⟨h, h2⟩, kI_s] at this
          exact this
        · rw [if_pos (by
            rw [lg_cmp_ge]
            exact (pk_lLE (by omega) (by omega)).mpr (by omega))]
          exact nx (fun q => h2 q.2)
      · rw [if_neg (fun q => h ((oM_bit σ w m _).mp ((bt1 (by omega) (by omega)).mp q)))]
        exact nx (fun q => h q.1)
    · rw [if_pos (nI_le (by omega) (by omega))]
      have : m = σ 0 3 := by omega
      rw [this]
