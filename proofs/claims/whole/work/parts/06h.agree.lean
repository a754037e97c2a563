theorem pz_cg {c c' : Nat → Nat} {hd en : Nat} (h : ∀ k, k < en → c' k = c k) : ∀ n p, pz c' hd en n p = pz c hd en n p := by
  intro n
  induction n with
  | zero => intro p; rfl
  | succ n ih =>
    intro p
    unfold pz
    by_cases h1 : p < en
    · rw [if_pos h1, if_pos h1, h p h1]
      by_cases h2 : p + 1 < en
      · rw [h (p + 1) h2, ih]
      · rw [if_neg (fun q => h2 q.1), if_neg (fun q => h2 q.1)]
    · rw [if_neg h1, if_neg h1]
theorem smN_cg {c c' : Nat → Nat} : ∀ n, (∀ k, k < n → c' k = c k) → smN c' n = smN c n := by
  intro n
  induction n with
  | zero => intro _; rfl
  | succ n ih => intro h; unfold smN; rw [ih (fun k hk => h k (by omega)), h n (by omega)]
theorem rd_cg {c c' : Nat → Nat} {hd S ms hs : Nat} (h : ∀ k, k < S → c' k = c k) (hms : 1 ≤ S) : rdQ c' hd S ms hs = rdQ c hd S ms hs ∧ rdL c' hd S ms hs = rdL c hd S ms hs ∧ rdB c' hd S ms hs = rdB c hd S ms hs := by
  have e : rdQ c' hd S ms hs = rdQ c hd S ms hs := by
    unfold rdQ
    exact pz_cg (fun k hk => h k (Nat.lt_of_lt_of_le hk (enN_le S ms hs))) 61 ms
  refine ⟨e, by unfold rdL; rw [e], ?_⟩
  unfold rdB b0N
  rw [e, smN_cg (S - 1) (fun k hk => h k (by omega)), h (S - 1) (by omega)]
theorem mkB_cg {c c' mk mk' : Nat → Nat} {S ms : Nat} (h : ∀ k, k < S → c' k = c k) (hm : ∀ k, k < ms → mk' k = mk k) : mkB c' mk' S ms = mkB c mk S ms := by
  unfold mkB
  refine propext ⟨fun q => ⟨q.1, fun k hk => ?_⟩, fun q => ⟨q.1, fun k hk => ?_⟩⟩
  · rw [← h k (by omega), ← hm k hk]; exact q.2 k hk
  · rw [h k (by omega), hm k hk]; exact q.2 k hk
/-- the same first n makes, and the same file -/
theorem kn_ag3 {σ σ' : sT} {f : Nat} : ∀ (n : Nat), (∀ m, m < n → σ' 3 m = σ 3 m ∧ σ' 4 m = σ 4 m ∧ σ' 5 m = σ 5 m ∧ σ' 6 m = σ 6 m ∧ ∀ k, k < σ 3 m → mF σ' m k = mF σ m k) → (∀ k, k < σ 8 f → cF σ' f k = cF σ f k) → σ' 8 f = σ 8 f → 1 ≤ σ 8 f → (∀ m, m < n → sMk σ' f m = sMk σ f m ∧ sB σ' f m = sB σ f m ∧ sL σ' f m = sL σ f m) ∧ kn σ' f n = kn σ f n := by
  intro n hm h7 h8 h1
  have g : ∀ m, m < n → sMk σ' f m = sMk σ f m ∧ sB σ' f m = sB σ f m ∧ sL σ' f m = sL σ f m := by
    intro m hmn
    obtain ⟨e3, e4, e5, e6, e2⟩ := hm m hmn
    unfold sMk sB sL
    rw [e3, e4, e5, h8]
    obtain ⟨-, r2, r3⟩ := rd_cg (hd := σ 4 m) (ms := σ 3 m) (hs := σ 5 m) h7 h1
    exact ⟨mkB_cg h7 e2, r3, r2⟩
  refine ⟨g, ?_⟩
  induction n with
  | zero => rfl
  | succ n ih =>
    have i1 := ih (fun m q => hm m (by omega)) (fun m q => g m (by omega))
    unfold kn
    rw [(g n (by omega)).1, (g n (by omega)).2.1, i1, (hm n (by omega)).2.2.2.1]
theorem sRn_ag3 {σ σ' : sT} {f n : Nat} (hm : ∀ m, m < n → σ' 3 m = σ 3 m ∧ σ' 4 m = σ 4 m ∧ σ' 5 m = σ 5 m ∧ σ' 6 m = σ 6 m ∧ ∀ k, k < σ 3 m → mF σ' m k = mF σ m k) (h7 : ∀ k, k < σ 8 f → cF σ' f k = cF σ f k) (h8 : σ' 8 f = σ 8 f) (h1 : 1 ≤ σ 8 f) : kn σ' f n = kn σ f n ∧ sRn σ' f n = sRn σ f n := by
  obtain ⟨g1, g2⟩ := kn_ag3 n hm h7 h8 h1
  refine ⟨g2, ?_⟩
  unfold sRn
  rw [g2]
  cases hq : (kn σ f n).1 with
  | zero => rfl
  | succ k =>
    obtain ⟨-, -, q⟩ := kn_mk σ f n k hq
    exact (g1 k q).2.2
theorem root_ag3 {σ σ' : sT} {b : Nat} (h : ∀ j, j < b → σ' 10 j = σ 10 j ∧ σ 10 j ≤ j) : ∀ n f, f < b → root σ' n f = root σ n f := by
  intro n
  induction n with
  | zero => intro f _; rfl
  | succ n ih =>
    intro f hf
    unfold root
    rw [(h f hf).1]
    by_cases z : σ 10 f = 0
    · rw [if_pos z, if_pos z]
    · rw [if_neg z, if_neg z]
      have := (h f hf).2
      exact ih _ (by omega)
/-- a file's picture, carried to another state and heap -/
theorem cFm_ag {K K' : fh_K} {M M' : fh_M} {x i n a : Nat} {σ σ' : sT} (h : cFm K M x σ i n a) (hr : M'.2.2 (x + 6) i = M.2.2 (x + 6) i) (hK : ∀ b, x + 63 ≤ b → K b ≠ (0, 0) → K' b = K b) (hIa : ∀ k, M'.1 a k = M.1 a k) (hI : ∀ b k, x + 63 ≤ b → (K b).1 = 13 → M'.1 b k = M.1 b k) (hR : ∀ b k, x + 63 ≤ b → K b ≠ (0, 0) → M'.2.2 b k = M.2.2 b k)
    (hm : ∀ m, m < n → σ' 3 m = σ 3 m ∧ σ' 4 m = σ 4 m ∧ σ' 5 m = σ 5 m ∧ σ' 6 m = σ 6 m ∧ ∀ k, k < σ 3 m → mF σ' m k = mF σ m k) (h7 : ∀ k, k < σ 8 i → cF σ' i k = cF σ i k) (h8 : σ' 8 i = σ 8 i) (h1 : 1 ≤ σ 8 i) (h9 : σ' 9 i = σ 9 i) (h10 : σ' 10 i = σ 10 i) (hro : root σ' 40 i = root σ 40 i) (hs : isSrc σ' i ↔ isSrc σ i) : cFm K' M' x σ' i n a := by
  obtain ⟨ab, q1, q2, q3, g1, g2, g3, g4, g5, g6, g7, g8, g9, g10, g11, g12⟩ := h
  have na : K a ≠ (0, 0) := by rw [g1]; decide
  have nab : K ab ≠ (0, 0) := by rw [g3]; exact fun q => by cases q
  obtain ⟨r1, r2⟩ := sRn_ag3 hm h7 h8 h1
  refine ⟨ab, hr.trans q1, q2, q3, ?_, ?_, ?_, fun k hk => ?_, ?_, ?_, ?_, ?_, ?_, ?_, ?_, ?_⟩
  · rw [hK a q2 na]; exact g1
  · rw [hR a 0 q2 na]; exact g2
  · rw [hK ab q3 nab, h8]; exact g3
  · rw [h8] at hk
    rw [hI ab k q3 (by rw [g3]), h7 k hk]; exact g4 k hk
  · rw [hIa, h10]; exact g5
  · rw [hIa, hro]; exact g6
  · rw [hIa, hs]; exact g7
  · rw [hIa, h9]; exact g8
  · rw [hIa, r1]; exact g9
  · rw [hIa, r1]; exact g10
  · rw [hIa, r2]; exact g11
  · rw [hIa, r2]; exact g12
/-- but for one new cell, nothing is changed -/
def fr (q : Nat) (M M' : fh_M) : Prop := ∀ b, b ≠ q → M'.1 b = M.1 b ∧ M'.2.1 b = M.2.1 b ∧ M'.2.2 b = M.2.2 b
theorem fr_clr (q : Nat) (M : fh_M) : fr q M (fh_clr M q) := fun b h => ⟨(fh_r_ne h).symm, (fh_r_ne h).symm, (fh_r_ne h).symm⟩
theorem fr_tr {q : Nat} {M M1 M2 : fh_M} (h : fr q M M1) (h2 : fr q M1 M2) : fr q M M2 := fun b z => ⟨(h2 b z).1.trans (h b z).1, (h2 b z).2.1.trans (h b z).2.1, (h2 b z).2.2.trans (h b z).2.2⟩
theorem fr_ri {q : Nat} {M : fh_M} {g : Nat → Int32} : fr q M (fh_ri M q g) := fun b h => ⟨(fh_r_ne h).symm, rfl, rfl⟩
theorem fr_si {q k : Nat} {M : fh_M} {v : Int32} : fr q M (fh_si M q k v) := fun b h => ⟨(fh_u_ne h).symm, rfl, rfl⟩
theorem fr_sr {q k : Nat} {M : fh_M} {v : Option Nat} : fr q M (fh_sr M q k v) := fun b h => ⟨rfl, rfl, (fh_u_ne h).symm⟩
theorem uk_s (K : fh_K) (q : Nat) (v : Nat × Nat) : fh_uk K q v q = v := by simp [fh_uk]
theorem uk_o (K : fh_K) (q : Nat) (v : Nat × Nat) {b : Nat} (h : b ≠ q) : fh_uk K q v b = K b := by simp [fh_uk, h]
theorem c_copyOf {sz : Nat} {K : fh_K} {M : fh_M} {ab S n : Nat} (h3 : K ab = (13, S)) (hS : S ≤ 80) (hn : n ≤ S) (hsz : K sz = (0, 0)) : ∃ M', f_J7_copyOf_59c91 sz K M (some ab) (nI n) = some (some sz, sz + 1, fh_uk K sz (13, n), M') ∧ fr sz M M' ∧ ∀ j, j < n → M'.1 sz j = M.1 ab j := by
  have ne : ab ≠ sz := fun q => by rw [q, hsz] at h3; cases h3
  unfold f_J7_copyOf_59c91
  rw [fa_ok h3, h3]
  simp only
  by_cases e : n = S
  · subst e
    rw [if_pos rfl]
    unfold fle
    rw [if_pos hS, fb_eq, fb_eq, fa_ok (uk_s K sz (13, n))]
    refine ⟨_, rfl, fr_tr (fr_clr sz M) fr_ri, fun j _ => ?_⟩
    rw [fh_ri_1, if_pos rfl]
  · rw [if_neg (fun q => e (n_inj (by omega) (by omega) q))]
    unfold fn
    rw [if_pos ⟨nI_pos (by omega), by rw [cl_n (by omega)]; omega⟩, cl_n (by omega)]
    simp only [fb_eq]
    have hk : fh_uk K sz (13, n) ab = (13, S) := by rw [uk_o _ _ _ ne]; exact h3
    rw [fa_ok hk, hk]
    simp only
    rw [if_pos (nI_lt (by omega) (by omega))]
    unfold fq
    simp only [hk, uk_s]
    rw [if_pos ⟨trivial, trivial, by decide, by decide, nI_pos (by omega), by rw [cl_n (by omega)]; show 0 + n ≤ S; omega, by rw [cl_n (by omega)]; show 0 + n ≤ n; omega⟩, cl_n (by omega)]
    refine ⟨_, rfl, fr_tr (fr_clr sz M) fr_ri, fun j hj => ?_⟩
    rw [fh_ri_1, if_pos rfl]
    show va_cpy ((fh_clr M sz).1 ab) ((fh_clr M sz).1 sz) 0 0 n j = _
    rw [pk_cpy_in (Nat.zero_le _) (by omega), (fr_clr sz M ab ne).1, Nat.zero_add, Nat.sub_zero]
theorem c_first {sz : Nat} {K : fh_K} {M : fh_M} {t ab S n n' : Nat} (h1 : K t = (1, 0)) (h2 : M.2.2 t 0 = some ab) (h3 : K ab = (13, S)) (hS : S ≤ 80) (hn' : M.1 t 1 = nI n') (h : n ≤ n') (hn0 : 1 ≤ n) (hn'S : n' ≤ S) (hsz : K sz = (0, 0)) : ∃ M', f_X0_firstBytes sz K M t (nI n) = some (some sz, sz + 1, fh_uk K sz (13, n), M') ∧ fr sz M M' ∧ ∀ j, j < n → M'.1 sz j = M.1 ab j := by
  obtain ⟨M', a, b, c⟩ := c_copyOf (M := M) h3 hS (show n ≤ S by omega) hsz
  refine ⟨M', ?_, b, c⟩
  unfold f_X0_firstBytes
  have e : (if nI n' < nI n then nI n' else nI n) = nI n := if_neg (nI_nlt h (by omega))
  rw [fo_ok h1, hn', e, h2, if_pos (show (0 : Int32) < nI n from nI_lt (a := 0) (by omega) (by omega)), a]
  rfl
