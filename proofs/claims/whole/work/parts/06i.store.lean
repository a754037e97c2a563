theorem cMk_jE {K : fh_K} {x a i : Nat} {M M' : fh_M} {σ : sT} (h : jE x a M M') (hM : cMk K M x σ i) (ha : K a = (8, 0)) : cMk K M' x σ i := by
  refine cMk_keep hM (h.2.2 _ _ (by omega)) (fun _ _ _ => rfl) (fun b k q z z8 => h.1 b k (by unfold rq; omega) (fun w => z8 (by rw [w.1]; exact ha))) (fun b k q _ => h.2.2 b k (by omega)) rfl rfl rfl rfl (fun _ _ => rfl)
theorem c_storeL {K : fh_K} {x sz : Nat} {σ : sT} {i nm a : Nat} {v4 : Int32} (hn12 : nm ≤ 12) (hv2 : ∀ m, m < nm → 1 ≤ σ 3 m ∧ σ 3 m ≤ 4 ∧ σ 4 m < 4096 ∧ σ 5 m ≤ 1 ∧ σ 6 m ≤ 3) (hv3 : 1 ≤ σ 8 i ∧ σ 8 i ≤ 60) (hv1 : ∀ j, σ 2 j < 256 ∧ σ 7 j < 256) (ha : K a = (8, 0)) (hax : x + 63 ≤ a) :
    ∀ (n m : Nat) (M : fh_M), nm - m < n → m ≤ nm → cS K M x → M.1 x 11 = nI nm → (∀ m, m < nm → cMk K M x σ m) → cFm K M x σ i m a →
      ∃ M', f_X10_store_L40 n x v4 (some a) (nI m) sz K M = some (v4, sz, K, M') ∧ jE x a M M' ∧ cFm K M' x σ i nm a := by
  intro n
  induction n with
  | zero => intro m M h; exact absurd h (Nat.not_lt_zero _)
  | succ n ih =>
    intro m M hn hm s1 h11 hMk hF
    unfold f_X10_store_L40
    rw [co s1, h11]
    by_cases h : m < nm
    · rw [if_neg (nI_ge h (by omega))]
      obtain ⟨M1, q1, q2, q3⟩ := c_judge s1 h11 h hn12 (hMk m h) hF (hv2 m h) hv3 hv1
      rw [q1]
      simp only [Option.bind_some]
      rw [nI_1]
      obtain ⟨M2, w1, w2, w3⟩ := ih (m + 1) M1 (by omega) (by omega) (jE_S q2 s1) (by rw [q2.1 _ _ (by unfold rq; omega) (by omega)]; exact h11) (fun k hk => cMk_jE q2 (hMk k hk) ha) q3
      exact ⟨M2, w1, jE_tr q2 w2, w3⟩
    · rw [if_pos (nI_le (by omega) (by omega))]
      obtain rfl : m = nm := by omega
      exact ⟨M, rfl, ⟨fun _ _ _ _ => rfl, rfl, fun _ _ _ => rfl⟩, hF⟩
theorem c_fileInit {K : fh_K} {M : fh_M} {q : Nat} {p1 : Option Nat} {p2 p3 : Int32} (h : K q = (8, 0)) : ∃ M', f_X7_init K M q p1 p2 p3 = some M' ∧ fr q M M' ∧ M'.2.2 q 0 = p1 ∧ M'.1 q 1 = p2 ∧ M'.1 q 2 = p3 ∧ M'.1 q 3 = 0 ∧ M'.1 q 4 = 0 ∧ M'.1 q 5 = -1 ∧ M'.1 q 6 = 4 ∧ M'.1 q 7 = 0 ∧ M'.1 q 8 = 0 := by
  unfold f_X7_init
  rw [fo_ok h]
  simp only [fb_eq]
  refine ⟨_, rfl, fr_tr (fr_tr (fr_tr (fr_tr (fr_tr (fr_tr (fr_tr (fr_tr fr_si fr_si) fr_si) fr_si) fr_si) fr_si) fr_sr) fr_si) fr_si, ?_, ?_, ?_, ?_, ?_, ?_, ?_, ?_, ?_⟩
  · rw [fh_si_22, fh_si_22, fh_sr_22, if_pos ⟨rfl, rfl⟩]
  all_goals simp [fh_si_1, fh_sr_1]
theorem c_store {K : fh_K} {M : fh_M} {x sz : Nat} {σ : sT} {i nm ab S : Nat} (s1 : cS K M x) (hsz : K sz = (0, 0)) (hx : x + 63 ≤ sz) (hab : x + 63 ≤ ab) (hKab : K ab = (13, S)) (h12 : M.1 x 12 = nI i) (hi : i < 40) (h11 : M.1 x 11 = nI nm) (hn12 : nm ≤ 12) (hMk : ∀ m, m < nm → cMk K M x σ m) (hv2 : ∀ m, m < nm → 1 ≤ σ 3 m ∧ σ 3 m ≤ 4 ∧ σ 4 m < 4096 ∧ σ 5 m ≤ 1 ∧ σ 6 m ≤ 3) (hS : σ 8 i = S) (hv3 : 1 ≤ S ∧ S ≤ 60) (hv1 : ∀ j, σ 2 j < 256 ∧ σ 7 j < 256) (hby : ∀ k, k < S → M.1 ab k = nI (cF σ i k)) (hsrc : ¬ isSrc σ i) (h9 : σ 9 i = 0) :
    ∃ M', f_X10_store sz K M x (some ab) (kI (σ 10 i)) (nI (root σ 40 i)) = some (nI i, sz + 1, fh_uk K sz (8, 0), M') ∧ cFm (fh_uk K sz (8, 0)) M' x σ i nm sz ∧ (∀ b k, b ≠ sz → ¬ rq (x + 22) b k → ¬ (b = x ∧ k = 12) → M'.1 b k = M.1 b k) ∧ M'.1 x 12 = nI (i + 1) ∧ (∀ b, b ≠ sz → M'.2.1 b = M.2.1 b) ∧ ∀ b k, b ≠ sz → ¬ (b = x + 22 ∧ k = 3) → ¬ (b = x + 6 ∧ k = i) → M'.2.2 b k = M.2.2 b k := by
  have neab : ab ≠ sz := fun q => by rw [q, hsz] at hKab; cases hKab
  generalize hK' : fh_uk K sz (8, 0) = K'
  have k1 : K' sz = (8, 0) := by rw [← hK']; exact uk_s _ _ _
  have k2 : ∀ b, b ≠ sz → K' b = K b := fun b h => by rw [← hK']; exact uk_o _ _ _ h
  unfold f_X10_store
  rw [co s1, fb_eq, fb_eq, show (7 + 1, 0) = ((8, 0) : Nat × Nat) from rfl, hK', h12]
  obtain ⟨M5, a1, a2, a3, a4, a5, a6, a7, a8, a9, a10, a11⟩ := c_fileInit (M := fh_clr M sz) (p1 := some ab) (p2 := kI (σ 10 i)) (p3 := nI (root σ 40 i)) k1
  rw [a1]
  simp only [Option.bind_some]
  have f5 : fr sz M M5 := fr_tr (fr_clr sz M) a2
  have s5 : cS K' M5 x := cS_keep s1 (fun b z1 z2 => k2 b (by omega)) (fun b k z1 z2 _ _ => by rw [(f5 b (by omega)).2.2])
  rw [co s5, cr0_3 s5, fi_ok (ck6 s5) rfl hi (by omega), fo_ok k1, fb_eq, fb_eq, cl_n (by omega)]
  have e12 : (fh_sr M5 (x + 6) i (some sz)).1 x 12 = nI i := by rw [fh_sr_1, (f5 x (by omega)).1]; exact h12
  rw [e12, nI_1]
  generalize hM10 : fh_si (fh_sr M5 (x + 6) i (some sz)) x 12 (nI (i + 1)) = M10
  have i10 : ∀ b k, b ≠ sz → ¬ (b = x ∧ k = 12) → M10.1 b k = M.1 b k := fun b k z1 z2 => by rw [← hM10, fh_si_1, if_neg z2, fh_sr_1, (f5 b z1).1]
  have isz : ∀ k, M10.1 sz k = M5.1 sz k := fun k => by rw [← hM10, fh_si_1, if_neg (by omega), fh_sr_1]
  have r10 : ∀ b k, b ≠ sz → ¬ (b = x + 6 ∧ k = i) → M10.2.2 b k = M.2.2 b k := fun b k z1 z2 => by rw [← hM10, fh_si_22, fh_sr_22, if_neg z2, (f5 b z1).2.2]
  have rsz : M10.2.2 sz 0 = some ab := by rw [← hM10, fh_si_22, fh_sr_22, if_neg (by omega)]; exact a3
  have r6 : M10.2.2 (x + 6) i = some sz := by rw [← hM10, fh_si_22, fh_sr_22, if_pos ⟨rfl, rfl⟩]
  have j10 : ∀ b, b ≠ sz → M10.2.1 b = M.2.1 b := fun b z => by rw [← hM10, fh_si_21, fh_sr_21, (f5 b z).2.1]
  have s10 : cS K' M10 x := cS_keep s1 (fun b z1 z2 => k2 b (by omega)) (fun b k z1 z2 _ z4 => r10 b k (by omega) (by omega))
  have mk10 : ∀ m, m < nm → cMk K' M10 x σ m := fun m hm => cMk_keep (hMk m hm) (r10 _ _ (by omega) (by omega)) (fun b z1 z2 => k2 b (fun q => z2 (by rw [q]; exact hsz))) (fun b k z1 z2 _ => i10 b k (fun q => z2 (by rw [q]; exact hsz)) (by omega)) (fun b k z1 z2 => r10 b k (fun q => z2 (by rw [q]; exact hsz)) (by omega)) rfl rfl rfl rfl (fun _ _ => rfl)
  have F0 : cFm K' M10 x σ i 0 sz := by
    refine ⟨ab, r6, hx, hab, k1, rsz, by rw [k2 ab neab, hS]; exact hKab, fun k hk => ?_, ?_, ?_, Or.inr ⟨hsrc, ?_⟩, ?_, ?_, ?_, ?_, ?_⟩
    · rw [i10 ab k neab (by omega)]; exact hby k (by rw [← hS]; exact hk)
    · rw [isz]; exact a4
    · rw [isz]; exact a5
    · rw [isz]; exact a6
    · rw [isz, h9]; exact a7
    · rw [isz]; exact a8
    · rw [isz]; exact a9
    · rw [isz]; exact a10
    · rw [isz]; exact a11
  obtain ⟨M', w1, w2, w3⟩ := c_storeL (K := K') (x := x) (sz := sz + 1) (σ := σ) (i := i) (nm := nm) (a := sz) (v4 := nI i) hn12 hv2 (by rw [hS]; exact hv3) hv1 k1 hx 4096 0 M10 (by omega) (by omega) s10 (by rw [i10 _ _ (by omega) (by omega)]; exact h11) mk10 F0
  refine ⟨M', w1, w3, fun b k z1 z2 z3 => (w2.1 b k z2 (fun q => z1 q.1)).trans (i10 b k z1 z3), ?_, fun b z => by rw [w2.2.1]; exact j10 b z, fun b k z1 z2 z3 => (w2.2.2 b k z2).trans (r10 b k z1 z3)⟩
  rw [w2.1 _ _ (by unfold rq; omega) (by omega), ← hM10, fh_si_1, if_pos ⟨rfl, rfl⟩]
