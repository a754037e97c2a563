/-- the records by the best of the first m makes -/
noncomputable def sRn (σ : sT) (f m : Nat) : List (Nat × Nat × Nat) := match (kn σ f m).1 with
  | 0 => []
  | k + 1 => sL σ f k
theorem sRn_s (σ : sT) (f : Nat) : sRn σ f (σ 0 3) = sR σ f := rfl
/-- a file whose make is weighed against the first m makes -/
def cFm (K : fh_K) (M : fh_M) (x : Nat) (σ : sT) (i m a : Nat) : Prop := ∃ ab, M.2.2 (x + 6) i = some a ∧ x + 63 ≤ a ∧ x + 63 ≤ ab ∧ K a = (8, 0) ∧ M.2.2 a 0 = some ab ∧ K ab = (13, σ 8 i) ∧ (∀ k, k < σ 8 i → M.1 ab k = nI (cF σ i k)) ∧ M.1 a 1 = kI (σ 10 i) ∧ M.1 a 2 = nI (root σ 40 i) ∧ ((isSrc σ i ∧ M.1 a 3 = 1) ∨ (¬ isSrc σ i ∧ M.1 a 3 = 0)) ∧ M.1 a 4 = nI (σ 9 i) ∧ M.1 a 5 = kI (kn σ i m).1 ∧ M.1 a 6 = nI (kn σ i m).2 ∧ M.1 a 7 = nI (hsF 0 (sRn σ i m)) ∧ M.1 a 8 = nI (sRn σ i m).length
theorem cFl_m {K : fh_K} {M : fh_M} {x : Nat} {σ : sT} {i : Nat} : cFl K M x σ i ↔ ∃ a, cFm K M x σ i (σ 0 3) a := Iff.rfl
/-- what a judgement may change -/
def jE (x a : Nat) (M M' : fh_M) : Prop := (∀ b k, ¬ rq (x + 22) b k → ¬ (b = a ∧ 5 ≤ k ∧ k ≤ 8) → M'.1 b k = M.1 b k) ∧ M'.2.1 = M.2.1 ∧ ∀ b k, ¬ (b = x + 22 ∧ k = 3) → M'.2.2 b k = M.2.2 b k
theorem jE_tr {x a : Nat} {M M1 M2 : fh_M} (h : jE x a M M1) (h2 : jE x a M1 M2) : jE x a M M2 := ⟨fun b k q1 q2 => (h2.1 b k q1 q2).trans (h.1 b k q1 q2), h2.2.1.trans h.2.1, fun b k q => (h2.2.2 b k q).trans (h.2.2 b k q)⟩
theorem jE_r {x a : Nat} {M M1 : fh_M} (h : rE (x + 22) M M1) : jE x a M M1 := ⟨fun b k q _ => h.2.2 b k q, h.1, h.2.1⟩
theorem jE_si {x a k : Nat} {M : fh_M} {v : Int32} (h : 5 ≤ k ∧ k ≤ 8) : jE x a M (fh_si M a k v) := ⟨fun b j _ q => by rw [fh_si_1, if_neg (fun z => q ⟨z.1, by omega, by omega⟩)], rfl, fun _ _ _ => rfl⟩
theorem jE_S {K : fh_K} {x a : Nat} {M M' : fh_M} (h : jE x a M M') (hS : cS K M x) : cS K M' x := cS_keep hS (fun _ _ _ => rfl) (fun b k _ _ q _ => h.2.2 b k (by omega))
/-- what does not change of a file -/
theorem cFm_jE {K : fh_K} {x a b : Nat} {M M' : fh_M} {σ : sT} {i m : Nat} (h : jE x a M M') (hF : cFm K M x σ i m b) (hab : b ≠ a) (ha : K a = (8, 0)) : cFm K M' x σ i m b := by
  obtain ⟨ab, h1, h2, h3, g1, g2, g3, g4, g5, g6, g7, g8, g9, g10, g11, g12⟩ := hF
  have e : ∀ k, M'.1 b k = M.1 b k := fun k => h.1 b k (by unfold rq; omega) (fun q => hab q.1)
  refine ⟨ab, by rw [h.2.2 _ _ (by omega)]; exact h1, h2, h3, g1, by rw [h.2.2 _ _ (by omega)]; exact g2, g3, fun k hk => ?_, ?_, ?_, ?_, ?_, ?_, ?_, ?_, ?_⟩
  · rw [h.1 ab k (by unfold rq; omega) (fun q => by rw [q.1, ha] at g3; cases g3)]; exact g4 k hk
  · rw [e]; exact g5
  · rw [e]; exact g6
  · rw [e]; exact g7
  · rw [e]; exact g8
  · rw [e]; exact g9
  · rw [e]; exact g10
  · rw [e]; exact g11
  · rw [e]; exact g12
theorem c_judge {K : fh_K} {M : fh_M} {x : Nat} {σ : sT} {i m nm a : Nat} (s1 : cS K M x) (hnm : M.1 x 11 = nI nm) (hm : m < nm) (hn12 : nm ≤ 12) (hMk : cMk K M x σ m) (hF : cFm K M x σ i m a)
    (hv2 : 1 ≤ σ 3 m ∧ σ 3 m ≤ 4 ∧ σ 4 m < 4096 ∧ σ 5 m ≤ 1 ∧ σ 6 m ≤ 3) (hv3 : 1 ≤ σ 8 i ∧ σ 8 i ≤ 60) (hv1 : ∀ j, σ 2 j < 256 ∧ σ 7 j < 256) :
    ∃ M', f_X10_judge K M x (some a) (nI m) = some M' ∧ jE x a M M' ∧ cFm K M' x σ i (m + 1) a := by
  obtain ⟨am, ak, e1, e2, e3, hk, e5⟩ := hMk
  obtain ⟨ab, h1, h2, h3, g1, g2, g3, g4, g5, g6, g7, g8, g9, g10, g11, g12⟩ := hF
  obtain ⟨b1, b2, b3, b4, b5⟩ := hv2
  have hmk : f_X10_makeAt K M x (nI m) = some (some am) := by
    unfold f_X10_makeAt
    rw [if_neg (nI_pos (by omega)), co s1, hnm, if_neg (nI_ge hm (by omega)), cr0_2 s1, fi_ok (ck5 s1) rfl (by omega) (by omega), cl_n (by omega), e1]
  obtain ⟨M6, q1, q2, q3, q4⟩ := c_readBy (c := cF σ i) (mk := mF σ m) (cS_rd s1) hk g3 b3 (fun k => (hv1 _).2) (fun k => (hv1 _).1) hv3.2 b1 b2 b4 g4 (by omega)
  replace q4 : (sMk σ i m ∧ rOut M M6 (x + 22) (sL σ i m) (sB σ i m)) ∨ (¬ sMk σ i m ∧ M6.1 (x + 22) 4 = nI 0 ∧ M6.1 (x + 22) 5 = nI 0 ∧ M6.1 (x + 22) 6 = -2) := q4
  have s6 : cS K M6 x := cG_S (cG_rd q2) s1
  have ea : ∀ k, M6.1 a k = M.1 a k := fun k => q2.2.2 a k (by unfold rq; omega)
  have hkl := kn_le σ i m
  have hBl := sB_le σ i m
  -- nothing is changed of the file
  have stay : kn σ i (m + 1) = kn σ i m → cFm K M6 x σ i (m + 1) a := by
    intro e
    have eR : sRn σ i (m + 1) = sRn σ i m := by unfold sRn; rw [e]
    refine ⟨ab, by rw [q2.2.1 _ _ (by omega)]; exact h1, h2, h3, g1, by rw [q2.2.1 _ _ (by omega)]; exact g2, g3, fun k hk => ?_, ?_, ?_, ?_, ?_, ?_, ?_, ?_, ?_⟩
    · rw [q2.2.2 ab k (by unfold rq; omega)]; exact g4 k hk
    · rw [ea]; exact g5
    · rw [ea]; exact g6
    · rw [ea]; exact g7
    · rw [ea]; exact g8
    · rw [ea, e]; exact g9
    · rw [ea, e]; exact g10
    · rw [ea, eR]; exact g11
    · rw [ea, eR]; exact g12
  unfold f_X10_judge
  rw [co s1, hmk]
  simp only [Option.bind_some]
  rw [if_neg (fun q => by cases q), if_neg (fun q => by cases q), fo_ok g1, cr0_9 s1, fo_ok (ck22 s1), g2, q1]
  simp only [Option.bind_some]
  rw [cr0_9 s6, fo_ok (ck22 s6)]
  rcases q4 with ⟨hmb, r4, r5, r6, -⟩ | ⟨hmb, r4, r5, r6⟩
  · rw [r6]
    have hE3 : M6.1 am 3 = nI (σ 6 m) := by rw [q2.2.2 am 3 (by unfold rq; omega)]; exact e5
    rw [if_neg (fun q => by
      have := congrArg Int32.toInt q
      rw [nI_toInt (by omega)] at this
      have e : (-2 : Int32).toInt = -2 := by decide
      omega), fo_ok hk.1, hE3, ea, g10]
    by_cases c1 : sB σ i m ≤ σ 6 m
    · rw [if_pos (nI_le c1 (by omega))]
      by_cases c2 : (kn σ i m).2 ≤ sB σ i m
      · rw [if_pos (nI_le c2 (by omega))]
        exact ⟨M6, rfl, jE_r q2, stay (kn_n (fun q => by omega))⟩
      · rw [if_neg (nI_ge (by omega) (by omega)), fb_eq]
        have e := kn_y (σ := σ) (f := i) (n := m) ⟨hmb, c1, by omega⟩
        have x22 : ∀ (N : fh_M), N.2 = M6.2 → N.2.2 x 9 = some (x + 22) := fun N z => by rw [z]; exact cr0_9 s6
        simp only [fh_si_22, cr0_9 s6, fo_ok (ck22 s6), fb_eq]
        have ne : a ≠ x + 22 := by omega
        have v6 : (fh_si M6 a 5 (nI m)).1 (x + 22) 6 = nI (sB σ i m) := by rw [fh_si_1, if_neg (by omega)]; exact r6
        have v5 : (fh_si (fh_si M6 a 5 (nI m)) a 6 (nI (sB σ i m))).1 (x + 22) 5 = nI (hsF 0 (sL σ i m)) := by rw [fh_si_1, if_neg (by omega), fh_si_1, if_neg (by omega)]; exact r5
        have v4 : (fh_si (fh_si (fh_si M6 a 5 (nI m)) a 6 (nI (sB σ i m))) a 7 (nI (hsF 0 (sL σ i m)))).1 (x + 22) 4 = nI (sL σ i m).length := by rw [fh_si_1, if_neg (by omega), fh_si_1, if_neg (by omega), fh_si_1, if_neg (by omega)]; exact r4
        rw [v6, v5, v4]
        generalize hM7 : fh_si (fh_si (fh_si (fh_si M6 a 5 (nI m)) a 6 (nI (sB σ i m))) a 7 (nI (hsF 0 (sL σ i m)))) a 8 (nI (sL σ i m).length) = M7
        have hj : jE x a M M7 := by
          rw [← hM7]
          exact jE_tr (jE_tr (jE_tr (jE_tr (jE_r q2) (jE_si (by omega))) (jE_si (by omega))) (jE_si (by omega))) (jE_si (by omega))
        have e7 : ∀ k, k < 5 → M7.1 a k = M.1 a k := fun k hk => hj.1 a k (by unfold rq; omega) (by omega)
        have eR : sRn σ i (m + 1) = sL σ i m := by unfold sRn; rw [e]
        refine ⟨M7, rfl, hj, ab, by rw [hj.2.2 _ _ (by omega)]; exact h1, h2, h3, g1, by rw [hj.2.2 _ _ (by omega)]; exact g2, g3, fun k hk => ?_, ?_, ?_, ?_, ?_, ?_, ?_, ?_, ?_⟩
        · rw [hj.1 ab k (by unfold rq; omega) (fun q => by rw [q.1, g1] at g3; cases g3)]; exact g4 k hk
        · rw [e7 1 (by omega)]; exact g5
        · rw [e7 2 (by omega)]; exact g6
        · rw [e7 3 (by omega)]; exact g7
        · rw [e7 4 (by omega)]; exact g8
        · rw [e, kI_s, ← hM7, fh_si_1, if_neg (by omega), fh_si_1, if_neg (by omega), fh_si_1, if_neg (by omega), fh_si_1, if_pos ⟨rfl, rfl⟩]
        · rw [e, ← hM7, fh_si_1, if_neg (by omega), fh_si_1, if_neg (by omega), fh_si_1, if_pos ⟨rfl, rfl⟩]
        · rw [eR, ← hM7, fh_si_1, if_neg (by omega), fh_si_1, if_pos ⟨rfl, rfl⟩]
        · rw [eR, ← hM7, fh_si_1, if_pos ⟨rfl, rfl⟩]
    · rw [if_neg (nI_ge (by omega) (by omega))]
      exact ⟨M6, rfl, jE_r q2, stay (kn_n (fun q => c1 q.2.1))⟩
  · rw [r6, if_pos rfl]
    exact ⟨M6, rfl, jE_r q2, stay (kn_n (fun q => hmb q.1))⟩
