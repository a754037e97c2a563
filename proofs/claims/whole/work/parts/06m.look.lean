theorem pz_in (c : Nat → Nat) (h en : Nat) : ∀ n p q, q ∈ (pz c h en n p).1 → q.1 < 12 ∧ p + 2 ≤ q.2.1 ∧ q.2.1 + q.2.2 ≤ en := by
  intro n
  induction n with
  | zero => intro p q hq; simp [pz] at hq
  | succ n ih =>
    intro p q hq
    unfold pz at hq
    by_cases h1 : p < en
    · rw [if_pos h1] at hq
      by_cases h2 : p + 1 < en ∧ p + 2 + c (p + 1) ≤ en
      · rw [if_pos h2] at hq
        by_cases h3 : c p < 12 ∧ h.testBit (c p) = true
        · rw [if_pos h3] at hq
          simp only [List.mem_cons] at hq
          rcases hq with rfl | hq
          · exact ⟨h3.1, Nat.le_refl _, h2.2⟩
          · have := ih _ q hq; omega
        · rw [if_neg h3] at hq
          have := ih _ q hq; omega
      · rw [if_neg h2] at hq; simp at hq
    · rw [if_neg h1] at hq; simp at hq
theorem sR_in {σ : sT} {i : Nat} (hV : Val σ) {q : Nat × Nat × Nat} (hq : q ∈ sR σ i) : q.1 < 12 ∧ 2 ≤ q.2.1 ∧ q.2.1 + q.2.2 ≤ σ 8 i := by
  unfold sR at hq
  cases hk : sK σ i with
  | zero => rw [hk] at hq; simp at hq
  | succ m =>
    rw [hk] at hq
    have h1 := pz_in _ _ _ _ _ _ hq
    have h3 := enN_le (σ 8 i) (σ 3 m) (σ 5 m)
    omega
theorem hsF_take {L : List (Nat × Nat × Nat)} {i : Nat} (h : i < L.length) : hsF 0 (L.take (i + 1)) = hsF 0 (L.take i) ||| 2 ^ L[i].1 := by
  unfold hsF
  rw [List.take_succ_eq_append_getElem h, List.foldl_append]
  rfl
theorem m_propL {K : fh_K} {y : Nat} {M : fh_M} {L : List (Nat × Nat × Nat)} {v2 : Int32} (hS : mS K M y) (hR : mRec M y L) (hl : L.length ≤ 29) (hL : ∀ q, q ∈ L → q.1 < 12) :
    ∀ (n i : Nat), L.length - i < n → i ≤ L.length → f_X11_properties_L11 K n y v2 (nI (hsF 0 (L.take i))) (nI i) M = f_X11_properties_J38 K v2 (nI (hsF 0 L)) M := by
  intro n
  induction n with
  | zero => intro i h; exact absurd h (Nat.not_lt_zero _)
  | succ n ih =>
    intro i hn hi
    unfold f_X11_properties_L11
    rw [mo hS, hR.1]
    by_cases h : i < L.length
    · rw [if_neg (nI_ge h (by omega)), mi27 hS rfl (by omega), cl_n (by omega), (hR.2 i h).1, or1 (by have := hL _ (List.getElem_mem h); omega), nI_1, ← hsF_take h]
      exact ih (i + 1) (by omega) (by omega)
    · rw [if_pos (nI_le (by omega) (by omega)), List.take_of_length_le (by omega)]
theorem m_prop {K : fh_K} {M : fh_M} {y : Nat} {σ : sT} {f : Nat} (hS : mS K M y) (hP : mP M y σ) (hV : Val σ) (hf : f < σ 0 9) :
    ∃ M', f_X11_properties K M y (nI f) = some (nI (hsF 0 (sR σ f)), M') ∧ mE y M M' ∧ mRec M' y (sR σ f) := by
  obtain ⟨M', q1, q2, q3⟩ := m_knows hS hP hV hf
  refine ⟨M', ?_, q2, q3⟩
  unfold f_X11_properties
  have hl := sR_len hV hf
  rw [mo hS, q1, fc2_some]
  have := m_propL (v2 := kI (sK σ f)) (mE_S q2 hS) q3 hl (fun q z => (sR_in hV z).1) 4096 0 (by omega) (by omega)
  refine this.trans ?_
  unfold f_X11_properties_J38
  have hsk := sK_le σ f
  have hv := hV.1
  by_cases h0 : sK σ f = 0
  · rw [if_pos ((kI_m1 (by omega)).mpr h0)]
    unfold sR
    rw [h0]
    rfl
  · rw [if_neg (fun q => h0 ((kI_m1 (by omega)).mp q))]
theorem m_rootL {K : fh_K} {y : Nat} {M : fh_M} {σ : sT} (hS : mS K M y) (hP : mP M y σ) (hV : Val σ) :
    ∀ (n k f : Nat), f < k → k ≤ n → f < σ 0 9 → f_X11_look_L127 K n y (nI f) M = some (nI (root σ k f), M) := by
  have hv := hV.1
  intro n
  induction n with
  | zero => intro k f h1 h2; omega
  | succ n ih =>
    intro k f h1 h2 hf
    obtain ⟨k, rfl⟩ : ∃ j, k = j + 1 := ⟨k - 1, by omega⟩
    unfold f_X11_look_L127 root
    rw [mo hS, mi13 hS rfl (by omega), cl_n (by omega), hP.2.2.2 f]
    have h10 := (hV.2.2.2.1 f hf).2.2.2
    by_cases h0 : σ 10 f = 0
    · rw [h0, if_pos kI_0, if_pos rfl]
    · rw [if_neg (fun q => h0 ((kI_m1 (by omega)).mp q)), if_neg h0]
      obtain ⟨g, hg⟩ : ∃ g, σ 10 f = g + 1 := ⟨σ 10 f - 1, by omega⟩
      rw [hg, kI_s, Nat.add_sub_cancel]
      exact ih k g (by omega) (by omega) (by omega)
theorem ge100 {w : Int32} (h : ¬ w < 100) : ∃ j, 100 ≤ j ∧ j < 2 ^ 31 ∧ w = nI j := by
  have e0 : (0 : Int32).toInt = 0 := by decide
  have e1 : (100 : Int32).toInt = 100 := by decide
  have h0 : ¬ w < 0 := by
    rw [fa_lt] at h ⊢
    omega
  obtain ⟨j, hj, rfl⟩ := nI_of h0
  refine ⟨j, ?_, hj, rfl⟩
  rw [fa_lt, nI_toInt hj] at h
  omega
/-- LOOK -/
theorem op_look {sz : Nat} {K : fh_K} {M : fh_M} {x : Nat} {σ : sT} (hI : Inv sz K M x σ) (v w : Int32) : OpR sz K M x (fun K M x => f_X10_look K M x v w) (fun K M y => f_X11_look K M y v w) := by
  obtain ⟨hV, s1, p1, s2, p2, k1, k2⟩ := id hI
  have hv := hV.1
  have bad : (v < 0 ∨ nI (σ 0 9) ≤ v) → OpR sz K M x (fun K M x => f_X10_look K M x v w) (fun K M y => f_X11_look K M y v w) := by
    intro h
    refine ⟨-1, M, σ, ?_, ?_, hI⟩
    · show f_X10_look K M x v w = _
      unfold f_X10_look; rw [co s1, c_fileOut s1 p1 h]; rfl
    · show f_X11_look K M (x + 32) v w = _
      unfold f_X11_look; rw [mo s2, m_fileOut s2 p2 hV h]; rfl
  rcases pk_ix v (n := σ 0 9) (by omega) with h | h | ⟨i, hi, rfl⟩
  · exact bad (Or.inl h)
  · exact bad (Or.inr h)
  · obtain ⟨a, ab, h1, h2, h3, g1, g2, g3, g4, g5, g6, g7, g8, g9, g10, g11, g12⟩ := p1.2.2.2.2.2.2.2.1 i hi
    obtain ⟨b1, b2, b3, b4⟩ := hV.2.2.2.1 i hi
    have c1 : f_X10_look K M x (nI i) w = if w = 0 then some (nI (σ 8 i)) else if w = 1 then some (nI (sR σ i).length) else if w = 2 then some (nI (hsF 0 (sR σ i))) else if w = 3 then some (nI (σ 9 i)) else if w = 4 then some (kI (σ 10 i)) else if w = 5 then some (nI (root σ 40 i)) else f_X10_byteAsked K M (some ab) w := by
      unfold f_X10_look
      rw [co s1, c_fileIn s1 p1 hV hi, h1]
      simp only [Option.bind_some]
      rw [if_neg (fun q => by cases q)]
      simp only [fo_ok g1]
      rw [g2, fa_ok g3, g3, g12, g11, g8, g5, g6]
      simp
    have m1 : f_X11_look K M (x + 32) (nI i) w = (f_X11_lies K M (w - 100) 0 (nI (σ 8 i) - 1)).bind fun r4 => if r4 = 0 then (if w = 0 then some (nI (σ 8 i), M) else if w = 1 then (fc2 (f_X11_knows K M (x + 32) (nI i)) fun r7 M8 => if r7 = -1 then some (0, M8) else some (M8.1 (x + 32) 25, M8)) else if w = 2 then (fc2 (f_X11_properties K M (x + 32) (nI i)) fun r11 M12 => some (r11, M12)) else if w = 3 then some (nI (σ 9 i), M) else if w = 4 then some (kI (σ 10 i), M) else if w = 5 then some (nI (root σ 40 i), M) else some (-1, M)) else (f_X11_byteAt K M (x + 32) (nI i) (w - 100)).bind fun r18 => some (r18, M) := by
      unfold f_X11_look
      rw [mo s2, m_fileIn s2 p2 hV hi]
      simp only [Option.bind_some]
      rw [if_neg (show ¬ (1 : Int32) = 0 by decide), mi11 s2 rfl (by omega), cl_n (by omega), mP_a p2 8 i (by omega), mi12 s2 rfl (by omega), mi13 s2 rfl (by omega), mP_a p2 9 i (by omega), p2.2.2.2 i, m_rootL s2 p2 hV 4096 40 i (by omega) (by omega) hi]
    have outw : (w - 100 < 0 ∨ nI (σ 8 i) ≤ w - 100) → OpR sz K M x (fun K M x => f_X10_look K M x (nI i) w) (fun K M y => f_X11_look K M y (nI i) w) := by
      intro hw
      rw [m_liesOut (lies_out (by omega) hw)] at m1
      simp only [Option.bind_some] at m1
      rw [if_pos trivial] at m1
      by_cases w0 : w = 0
      · rw [if_pos w0] at c1 m1
        exact ⟨_, _, σ, c1, m1, hI⟩
      rw [if_neg w0] at c1 m1
      by_cases w1 : w = 1
      · rw [if_pos w1] at c1 m1
        obtain ⟨M2, q1, q2, q3⟩ := m_knows s2 p2 hV hi
        refine ⟨_, M2, σ, c1, m1.trans ?_, Inv_mG hI (mG_E q2)⟩
        rw [q1, fc2_some, q3.1]
        have hsk := sK_le σ i
        by_cases h0 : sK σ i = 0
        · rw [if_pos ((kI_m1 (by omega)).mpr h0)]
          unfold sR
          rw [h0]
          rfl
        · rw [if_neg (fun q => h0 ((kI_m1 (by omega)).mp q))]
      rw [if_neg w1] at c1 m1
      by_cases w2 : w = 2
      · rw [if_pos w2] at c1 m1
        obtain ⟨M2, q1, q2, q3⟩ := m_prop s2 p2 hV hi
        refine ⟨_, M2, σ, c1, m1.trans ?_, Inv_mG hI (mG_E q2)⟩
        rw [q1, fc2_some]
      rw [if_neg w2] at c1 m1
      by_cases w3 : w = 3
      · rw [if_pos w3] at c1 m1
        exact ⟨_, _, σ, c1, m1, hI⟩
      rw [if_neg w3] at c1 m1
      by_cases w4 : w = 4
      · rw [if_pos w4] at c1 m1
        exact ⟨_, _, σ, c1, m1, hI⟩
      rw [if_neg w4] at c1 m1
      by_cases w5 : w = 5
      · rw [if_pos w5] at c1 m1
        exact ⟨_, _, σ, c1, m1, hI⟩
      rw [if_neg w5] at c1 m1
      refine ⟨-1, M, σ, c1.trans ?_, m1, hI⟩
      unfold f_X10_byteAsked
      by_cases hlt : w < 100
      · rw [if_pos hlt]
      · rw [if_neg hlt, fa_ok g3, g3]
        have hno : ¬ (w - 100 < nI (σ 8 i)) := by
          intro hlt2
          rcases hw with hw | hw
          · obtain ⟨j, this, hj, rfl⟩ := ge100 hlt
            rw [show (100 : Int32) = nI 100 from rfl] at hw
            rw [n_m this] at hw
            exact nI_pos (by omega) hw
          · rw [fa_le] at hw
            rw [fa_lt] at hlt2
            omega
        exact if_neg hno
    rcases pk_ix (w - 100) (n := σ 8 i) (by omega) with h | h | ⟨j, hj, e⟩
    · exact outw (Or.inl h)
    · exact outw (Or.inr h)
    · have ew : w = nI (j + 100) := by
        have : w = (w - 100) + 100 := by simp
        rw [this, e]
        exact nI_add j 100
      obtain ⟨l1, l2⟩ := lies_in (n := σ 8 i) (by omega) hj
      rw [e, m_lies, if_neg l1, if_neg l2] at m1
      simp only [Option.bind_some] at m1
      rw [if_neg (show ¬ (1 : Int32) = 0 by decide), m_byteAt s2 (by omega) (by omega) (mP_a p2 7 _ (by omega))] at m1
      have nw : ∀ k, k < 6 → ¬ w = nI k := fun k hk q => by
        rw [ew] at q
        have := n_inj (by omega) (by omega) q
        omega
      rw [if_neg (show ¬ w = 0 from nw 0 (by omega)), if_neg (show ¬ w = 1 from nw 1 (by omega)), if_neg (show ¬ w = 2 from nw 2 (by omega)), if_neg (show ¬ w = 3 from nw 3 (by omega)), if_neg (show ¬ w = 4 from nw 4 (by omega)), if_neg (show ¬ w = 5 from nw 5 (by omega))] at c1
      refine ⟨_, M, σ, c1.trans ?_, m1, hI⟩
      unfold f_X10_byteAsked
      have hlt : ¬ w < 100 := by
        rw [ew]
        exact nI_nlt (b := 100) (by omega) (by omega)
      rw [if_neg hlt, fa_ok g3, g3, e, if_pos (nI_lt hj (by omega)), fi_ok g3 rfl hj (by omega), cl_n (by omega), g4 j hj]
      rfl
/-- STEP -/
theorem rowC_lt (f : Nat → Nat) : ∀ n, (∀ k, k < n → f k < 32) → rowC f n < 32 ^ n := by
  intro n
  induction n with
  | zero => intro _; exact Nat.one_pos
  | succ n ih =>
    intro h
    have h1 := ih (fun k hk => h k (by omega))
    have h2 := h n (by omega)
    show rowC f n * 32 + f n < 32 ^ (n + 1)
    rw [Nat.pow_succ]
    omega
theorem rowC_at (f : Nat → Nat) : ∀ n i, (∀ k, k < n → f k < 32) → i < n → rowC f n / 32 ^ (n - 1 - i) % 32 = f i := by
  intro n
  induction n with
  | zero => intro i _ h; omega
  | succ n ih =>
    intro i h hi
    have h2 := h n (by omega)
    show (rowC f n * 32 + f n) / 32 ^ (n + 1 - 1 - i) % 32 = f i
    by_cases e : i = n
    · subst e
      rw [show i + 1 - 1 - i = 0 by omega, Nat.pow_zero, Nat.div_one]
      omega
    · have e2 : n + 1 - 1 - i = (n - 1 - i) + 1 := by omega
      rw [e2, Nat.pow_succ, Nat.mul_comm (32 ^ (n - 1 - i)) 32, ← Nat.div_div_eq_div_mul]
      have : (rowC f n * 32 + f n) / 32 = rowC f n := by omega
      rw [this]
      exact ih i (fun k hk => h k (by omega)) (by omega)
