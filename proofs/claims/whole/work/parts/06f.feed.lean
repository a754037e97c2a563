/-- m ints are written from place n on, and the count stands at n + m -/
def wrt (t ab : Nat) (M M' : fh_M) (n m : Nat) (g : Nat → Int32) : Prop := M'.2 = M.2 ∧ M'.1 t 1 = nI (n + m) ∧ (∀ j, M'.1 ab j = if n ≤ j ∧ j < n + m then g (j - n) else M.1 ab j) ∧ ∀ a k, a ≠ ab → ¬ (a = t ∧ k = 1) → M'.1 a k = M.1 a k
theorem wrt_tr {t ab : Nat} {M M1 M2 : fh_M} {n m1 m2 : Nat} {g1 g2 : Nat → Int32} (h : wrt t ab M M1 n m1 g1) (h2 : wrt t ab M1 M2 (n + m1) m2 g2) : wrt t ab M M2 n (m1 + m2) (fun i => if i < m1 then g1 i else g2 (i - m1)) := by
  refine ⟨h2.1.trans h.1, by rw [h2.2.1, Nat.add_assoc], fun j => ?_, fun a k q1 q2 => (h2.2.2.2 a k q1 q2).trans (h.2.2.2 a k q1 q2)⟩
  rw [h2.2.2.1 j]
  by_cases z : n + m1 ≤ j ∧ j < n + m1 + m2
  · rw [if_pos z, if_pos (by omega)]
    show _ = if j - n < m1 then g1 (j - n) else g2 (j - n - m1)
    rw [if_neg (by omega)]
    congr 1; omega
  · rw [if_neg z, h.2.2.1 j]
    by_cases z2 : n ≤ j ∧ j < n + m1
    · rw [if_pos z2, if_pos (by omega)]
      show _ = if j - n < m1 then g1 (j - n) else g2 (j - n - m1)
      rw [if_pos (by omega)]
    · rw [if_neg z2, if_neg (by omega)]
theorem wrt_1 {t ab : Nat} {M : fh_M} {n : Nat} {v : Int32} (h : t ≠ ab) : wrt t ab M (fh_si (fh_si M ab n v) t 1 (nI (n + 1))) n 1 (fun _ => v) := by
  refine ⟨rfl, by rw [fh_si_1, if_pos ⟨rfl, rfl⟩], fun j => ?_, fun a k q1 q2 => ?_⟩
  · rw [fh_si_1, if_neg (fun q => h q.1.symm), fh_si_1]
    by_cases z : j = n
    · rw [if_pos ⟨rfl, z⟩, if_pos (by omega)]
    · rw [if_neg (fun q => z q.2), if_neg (by omega)]
  · rw [fh_si_1, if_neg q2, fh_si_1, if_neg (fun q => q1 q.1)]
/-- a byte of a word -/
def wb8 (v : Int32) (k : Nat) : Nat := (v >>> (nI k &&& 31)).toBitVec.toNat % 256
theorem wb8_lt (v : Int32) (k : Nat) : wb8 v k < 256 := Nat.mod_lt _ (by omega)
theorem wb8_and (v : Int32) (k : Nat) : (v >>> (nI k &&& 31)) &&& 255 = nI (wb8 v k) := pk_and _ 8 (by decide)
theorem c_addByte {K : fh_K} {M : fh_M} {t ab S n : Nat} {v : Int32} (h1 : K t = (1, 0)) (h2 : M.2.2 t 0 = some ab) (h3 : K ab = (13, S)) (hS : S ≤ 80) (hn : M.1 t 1 = nI n) (hlt : n < S) : f_X0_addByte K M t v = some (1, fh_si (fh_si M ab n (v &&& 255)) t 1 (nI (n + 1))) := by
  have ne : t ≠ ab := fun q => by rw [q, h3] at h1; cases h1
  unfold f_X0_addByte
  rw [fo_ok h1, h2, fa_ok h3, h3, hn]
  simp only
  rw [if_pos (nI_lt hlt (by omega)), fi_ok h3 rfl hlt (by omega), fb_eq, fb_eq, cl_n (by omega), fh_si_1, if_neg (fun q => ne q.1), hn, nI_1]
theorem c_addW1 {K : fh_K} {M : fh_M} {t ab S n k N : Nat} {v : Int32} (h1 : K t = (1, 0)) (h2 : M.2.2 t 0 = some ab) (h3 : K ab = (13, S)) (hS : S ≤ 80) (hn : M.1 t 1 = nI n) (hlt : n < S) (hk : k ≤ 24) : ∃ M', f_X0_addWord_L3 K (N + 1) t v (nI k) M = f_X0_addWord_L3 K N t v (nI k + (-8)) M' ∧ wrt t ab M M' n 1 (fun _ => nI (wb8 v k)) := by
  have ne : t ≠ ab := fun q => by rw [q, h3] at h1; cases h1
  refine ⟨_, ?_, wrt_1 ne⟩
  show (if nI k < 0 then _ else _) = _
  rw [if_neg (nI_pos (by omega)), fo_ok h1, c_addByte h1 h2 h3 hS hn hlt, wb8_and]
  rfl
def w4b (v : Int32) (i : Nat) : Nat := wb8 v (24 - 8 * i)
theorem c_addWord {K : fh_K} {M : fh_M} {t ab S n : Nat} {v : Int32} (h1 : K t = (1, 0)) (h2 : M.2.2 t 0 = some ab) (h3 : K ab = (13, S)) (hS : S ≤ 80) (hn : M.1 t 1 = nI n) (hlt : n + 4 ≤ S) : ∃ M', f_X0_addWord K M t v = some M' ∧ wrt t ab M M' n 4 (fun i => nI (w4b v i)) := by
  obtain ⟨M1, a1, b1⟩ := c_addW1 (k := 24) (N := 4095) (v := v) h1 h2 h3 hS hn (by omega) (by omega)
  obtain ⟨M2, a2, b2⟩ := c_addW1 (k := 16) (N := 4094) (v := v) h1 (by rw [b1.1]; exact h2) h3 hS b1.2.1 (by omega) (by omega)
  have b12 := wrt_tr b1 b2
  obtain ⟨M3, a3, b3⟩ := c_addW1 (k := 8) (N := 4093) (v := v) h1 (by rw [b12.1]; exact h2) h3 hS b12.2.1 (by omega) (by omega)
  have b13 := wrt_tr b12 b3
  obtain ⟨M4, a4, b4⟩ := c_addW1 (k := 0) (N := 4092) (v := v) h1 (by rw [b13.1]; exact h2) h3 hS b13.2.1 (by omega) (by omega)
  have b14 := wrt_tr b13 b4
  refine ⟨M4, ?_, b14.1, b14.2.1, fun j => ?_, b14.2.2.2⟩
  · unfold f_X0_addWord
    refine a1.trans ?_
    rw [show nI 24 + (-8) = nI 16 from rfl]
    refine a2.trans ?_
    rw [show nI 16 + (-8) = nI 8 from rfl]
    refine a3.trans ?_
    rw [show nI 8 + (-8) = nI 0 from rfl]
    refine a4.trans ?_
    unfold f_X0_addWord_L3
    rw [if_pos (show nI 0 + (-8) < 0 by decide)]
  · rw [b14.2.2.1 j]
    by_cases z : n ≤ j ∧ j < n + 4
    · rw [if_pos z, if_pos (by omega)]
      obtain ⟨i, rfl⟩ : ∃ i, j = n + i := ⟨j - n, by omega⟩
      rw [Nat.add_sub_cancel_left]
      rcases (show i = 0 ∨ i = 1 ∨ i = 2 ∨ i = 3 by omega) with rfl | rfl | rfl | rfl <;> rfl
    · rw [if_neg z, if_neg (by omega)]
theorem m_pushW1 {K : fh_K} {M : fh_M} {y n k N : Nat} {v : Int32} (hS : mS K M y) (hn : M.1 y 1 = nI n) (hlt : n < 80) (hk : k ≤ 24) : ∃ M', f_X11_push_L3 K (N + 1) y v (nI k) M = f_X11_push_L3 K N y v (nI k + (-8)) M' ∧ wrt y (y + 1) M M' n 1 (fun _ => (v >>> (nI k &&& 31)).toInt8.toInt32) := by
  refine ⟨_, ?_, wrt_1 (by omega)⟩
  show (if nI k < 0 then _ else _) = _
  rw [if_neg (nI_pos (by omega)), mo hS, mi0 hS hn hlt, fb_eq, fb_eq, hn, cl_n (by omega), fh_si_1, if_neg (by omega), hn, nI_1, pk_vb]
theorem m_push {K : fh_K} {M : fh_M} {y n : Nat} {v : Int32} (hS : mS K M y) (hn : M.1 y 1 = nI n) (hlt : n + 4 ≤ 80) : ∃ M', f_X11_push K M y v = some M' ∧ wrt y (y + 1) M M' n 4 (fun i => (v >>> (nI (24 - 8 * i) &&& 31)).toInt8.toInt32) := by
  have kS : ∀ M', M'.2 = M.2 → mS K M' y := fun M' e => mS_keep hS (fun _ _ _ => rfl) (by rw [e])
  obtain ⟨M1, a1, b1⟩ := m_pushW1 (k := 24) (N := 4095) (v := v) hS hn (by omega) (by omega)
  obtain ⟨M2, a2, b2⟩ := m_pushW1 (k := 16) (N := 4094) (v := v) (kS M1 b1.1) b1.2.1 (by omega) (by omega)
  have b12 := wrt_tr b1 b2
  obtain ⟨M3, a3, b3⟩ := m_pushW1 (k := 8) (N := 4093) (v := v) (kS M2 b12.1) b12.2.1 (by omega) (by omega)
  have b13 := wrt_tr b12 b3
  obtain ⟨M4, a4, b4⟩ := m_pushW1 (k := 0) (N := 4092) (v := v) (kS M3 b13.1) b13.2.1 (by omega) (by omega)
  have b14 := wrt_tr b13 b4
  refine ⟨M4, ?_, b14.1, b14.2.1, fun j => ?_, b14.2.2.2⟩
  · unfold f_X11_push
    refine a1.trans ?_
    rw [show nI 24 + (-8) = nI 16 from rfl]
    refine a2.trans ?_
    rw [show nI 16 + (-8) = nI 8 from rfl]
    refine a3.trans ?_
    rw [show nI 8 + (-8) = nI 0 from rfl]
    refine a4.trans ?_
    unfold f_X11_push_L3
    rw [if_pos (show nI 0 + (-8) < 0 by decide)]
  · rw [b14.2.2.1 j]
    by_cases z : n ≤ j ∧ j < n + 4
    · rw [if_pos z, if_pos (by omega)]
      obtain ⟨i, rfl⟩ : ∃ i, j = n + i := ⟨j - n, by omega⟩
      rw [Nat.add_sub_cancel_left]
      rcases (show i = 0 ∨ i = 1 ∨ i = 2 ∨ i = 3 by omega) with rfl | rfl | rfl | rfl <;> rfl
    · rw [if_neg z, if_neg (by omega)]
/-- five in a row -/
def g5 {α : Type} (g : Int32 → Nat → α) (a b c d e : Int32) (i : Nat) : α := if i < 4 then g a i else if i < 8 then g b (i - 4) else if i < 12 then g c (i - 8) else if i < 16 then g d (i - 12) else g e (i - 16)
theorem wrt_5 {t ab : Nat} {M M1 M2 M3 M4 M5 : fh_M} {n : Nat} {g : Int32 → Nat → Int32} {a b c d e : Int32} (h1 : wrt t ab M M1 n 4 (g a)) (h2 : wrt t ab M1 M2 (n + 4) 4 (g b)) (h3 : wrt t ab M2 M3 (n + 8) 4 (g c)) (h4 : wrt t ab M3 M4 (n + 12) 4 (g d)) (h5 : wrt t ab M4 M5 (n + 16) 4 (g e)) : wrt t ab M M5 n 20 (g5 g a b c d e) := by
  have q := wrt_tr (wrt_tr (wrt_tr (wrt_tr h1 h2) h3) h4) h5
  refine ⟨q.1, q.2.1, fun j => ?_, q.2.2.2⟩
  rw [q.2.2.1 j]
  by_cases z : n ≤ j ∧ j < n + 20
  · rw [if_pos z, if_pos (by omega)]
    unfold g5
    generalize j - n = i
    show (if i < 4 + 4 + 4 + 4 then (if i < 4 + 4 + 4 then (if i < 4 + 4 then (if i < 4 then g a i else g b (i - 4)) else g c (i - (4 + 4))) else g d (i - (4 + 4 + 4))) else g e (i - (4 + 4 + 4 + 4))) = _
    by_cases z1 : i < 4
    · rw [if_pos (show i < 4 + 4 + 4 + 4 by omega), if_pos (show i < 4 + 4 + 4 by omega), if_pos (show i < 4 + 4 by omega), if_pos z1, if_pos z1]
    · by_cases z2 : i < 8
      · rw [if_pos (show i < 4 + 4 + 4 + 4 by omega), if_pos (show i < 4 + 4 + 4 by omega), if_pos (show i < 4 + 4 by omega), if_neg z1, if_neg z1, if_pos z2]
      · by_cases z3 : i < 12
        · rw [if_pos (show i < 4 + 4 + 4 + 4 by omega), if_pos (show i < 4 + 4 + 4 by omega), if_neg (show ¬ i < 4 + 4 by omega), if_neg z1, if_neg z2, if_pos z3]
        · by_cases z4 : i < 16
          · rw [if_pos (show i < 4 + 4 + 4 + 4 by omega), if_neg (show ¬ i < 4 + 4 + 4 by omega), if_neg z1, if_neg z2, if_neg z3, if_pos z4]
          · rw [if_neg (show ¬ i < 4 + 4 + 4 + 4 by omega), if_neg z1, if_neg z2, if_neg z3, if_neg z4]
  · rw [if_neg z, if_neg (by omega)]
theorem bp_b (x : Int32) : x.toInt8.toInt32 &&& 255 = x &&& 255 := by
  apply Int32.toBitVec_inj.mp
  rw [Int32.toBitVec_and, Int32.toBitVec_and, Int8.toBitVec_toInt32, Int32.toBitVec_toInt8]
  apply BitVec.eq_of_getLsbD_eq
  intro i hi
  rw [BitVec.getLsbD_and, BitVec.getLsbD_and]
  have hm : ∀ i < 32, 8 ≤ i → (255 : Int32).toBitVec.getLsbD i = false := by decide
  rcases Nat.lt_or_ge i 8 with z | z
  · rw [BitVec.getLsbD_signExtend, BitVec.getLsbD_signExtend, if_pos z, if_pos hi]
    simp only [z, hi, decide_true, Bool.true_and]
  · rw [hm i hi z]; simp
/-- FEED -/
theorem op_feed {sz : Nat} {K : fh_K} {M : fh_M} {x : Nat} {σ : sT} (hI : Inv sz K M x σ) (a b c d e : Int32) : Op sz K M x (fun K M x => f_X10_feed K M x a b c d e) (fun K M y => f_X11_feed K M y a b c d e) := by
  obtain ⟨hV, s1, p1, s2, p2, k1, k2⟩ := id hI
  have hv := hV.1
  have t1 := p1.2.1.1
  have room : f_X0_room K M (x + 1) = some (nI (80 - σ 0 1)) := by
    unfold f_X0_room
    rw [fo_ok (ck1 s1), cr1_0 s1, fa_ok (ck2 s1), ck2 s1, t1]
    simp only
    rw [n_m (by omega)]
  by_cases full : 60 < σ 0 1
  · refine ⟨-1, M, M, σ, ?_, ?_, hI⟩
    · show f_X10_feed K M x a b c d e = _
      unfold f_X10_feed
      rw [co s1, cr0_0 s1, fo_ok (ck1 s1), room]
      simp only [Option.bind_some]
      rw [n_20, if_neg (nI_ge (by omega) (by omega))]
    · show f_X11_feed K M (x + 32) a b c d e = _
      unfold f_X11_feed
      rw [mo s2, mP_s p2 1 (by omega), n_20, nI_add, n_80, if_neg (nI_ge (by omega) (by omega))]
  · have kR : ∀ M' : fh_M, M'.2 = M.2 → M'.2.2 (x + 1) 0 = some (x + 2) := fun M' q => by rw [q]; exact cr1_0 s1
    have kR0 : ∀ M' : fh_M, M'.2 = M.2 → M'.2.2 x 0 = some (x + 1) := fun M' q => by rw [q]; exact cr0_0 s1
    obtain ⟨C1, a1, w1⟩ := c_addWord (v := a) (ck1 s1) (cr1_0 s1) (ck2 s1) (by omega) t1 (by omega)
    obtain ⟨C2, a2, w2⟩ := c_addWord (v := b) (ck1 s1) (kR C1 w1.1) (ck2 s1) (by omega) w1.2.1 (by omega)
    have q2 := w2.1.trans w1.1
    obtain ⟨C3, a3, w3⟩ := c_addWord (v := c) (ck1 s1) (kR C2 q2) (ck2 s1) (by omega) w2.2.1 (by omega)
    have q3 := w3.1.trans q2
    obtain ⟨C4, a4, w4⟩ := c_addWord (v := d) (ck1 s1) (kR C3 q3) (ck2 s1) (by omega) w3.2.1 (by omega)
    have q4 := w4.1.trans q3
    obtain ⟨C5, a5, w5⟩ := c_addWord (v := e) (ck1 s1) (kR C4 q4) (ck2 s1) (by omega) w4.2.1 (by omega)
    have q5 := w5.1.trans q4
    have W := wrt_5 (g := fun v i => nI (w4b v i)) w1 w2 w3 w4 w5
    have y1 : f_X10_feed K M x a b c d e = some (nI (σ 0 1 + 20), C5) := by
      unfold f_X10_feed
      rw [co s1, cr0_0 s1, fo_ok (ck1 s1), room]
      simp only [Option.bind_some]
      rw [n_20, if_pos (nI_le (by omega) (by omega)), a1]
      simp only [Option.bind_some]
      rw [kR0 C1 w1.1, fo_ok (ck1 s1), a2]
      simp only [Option.bind_some]
      rw [kR0 C2 q2, fo_ok (ck1 s1), a3]
      simp only [Option.bind_some]
      rw [kR0 C3 q3, fo_ok (ck1 s1), a4]
      simp only [Option.bind_some]
      rw [kR0 C4 q4, fo_ok (ck1 s1), a5]
      simp only [Option.bind_some]
      rw [kR0 C5 q5, fo_ok (ck1 s1), W.2.1]
    have e1 : ∀ p k, ¬ (p = x + 1 ∨ p = x + 2) → C5.1 p k = M.1 p k := fun p k z => W.2.2.2 p k (by omega) (by omega)
    have s2' : mS K C5 (x + 32) := mS_keep s2 (fun _ _ _ => rfl) (by rw [q5])
    have p2' : mP C5 (x + 32) σ := mP_keep p2 (fun p k z1 z2 => e1 p k (by omega))
    have kM : ∀ M' : fh_M, M'.2 = C5.2 → mS K M' (x + 32) := fun M' q => mS_keep s2' (fun _ _ _ => rfl) (by rw [q])
    obtain ⟨D1, b1, u1⟩ := m_push (v := a) s2' (mP_s p2' 1 (by omega)) (by omega)
    obtain ⟨D2, b2, u2⟩ := m_push (v := b) (kM D1 u1.1) u1.2.1 (by omega)
    have r2 := u2.1.trans u1.1
    obtain ⟨D3, b3, u3⟩ := m_push (v := c) (kM D2 r2) u2.2.1 (by omega)
    have r3 := u3.1.trans r2
    obtain ⟨D4, b4, u4⟩ := m_push (v := d) (kM D3 r3) u3.2.1 (by omega)
    have r4 := u4.1.trans r3
    obtain ⟨D5, b5, u5⟩ := m_push (v := e) (kM D4 r4) u4.2.1 (by omega)
    have U := wrt_5 (g := fun v i => (v >>> (nI (24 - 8 * i) &&& 31)).toInt8.toInt32) u1 u2 u3 u4 u5
    have y2 : f_X11_feed K C5 (x + 32) a b c d e = some (nI (σ 0 1 + 20), D5) := by
      unfold f_X11_feed
      rw [mo s2', mP_s p2' 1 (by omega), n_20, nI_add, n_80, if_pos (nI_le (by omega) (by omega)), b1]
      simp only [Option.bind_some]
      rw [b2]
      simp only [Option.bind_some]
      rw [b3]
      simp only [Option.bind_some]
      rw [b4]
      simp only [Option.bind_some]
      rw [b5]
      simp only [Option.bind_some]
      rw [U.2.1]
    have f1 : ∀ p k, ¬ (p = x + 33 ∨ (p = x + 32 ∧ k = 1)) → D5.1 p k = C5.1 p k := fun p k z => U.2.2.2 p k (by omega) (by omega)
    generalize hσ : (fun p k => if p = 1 ∧ σ 0 1 ≤ k ∧ k < σ 0 1 + 20 then g5 w4b a b c d e (k - σ 0 1) else if p = 0 ∧ k = 1 then σ 0 1 + 20 else σ p k : sT) = σ'
    have eσ : ∀ p k, ¬ (p = 1 ∨ (p = 0 ∧ k = 1)) → σ' p k = σ p k := fun p k z => by rw [← hσ]; simp only; rw [if_neg (by omega), if_neg (by omega)]
    have e01 : σ' 0 1 = σ 0 1 + 20 := by rw [← hσ]; simp
    have e1k : ∀ k, σ' 1 k = if σ 0 1 ≤ k ∧ k < σ 0 1 + 20 then g5 w4b a b c d e (k - σ 0 1) else σ 1 k := fun k => by
      rw [← hσ]
      show (if 1 = 1 ∧ σ 0 1 ≤ k ∧ k < σ 0 1 + 20 then _ else if 1 = 0 ∧ k = 1 then _ else _) = _
      by_cases z : σ 0 1 ≤ k ∧ k < σ 0 1 + 20
      · rw [if_pos ⟨rfl, z⟩, if_pos z]
      · rw [if_neg (fun q => z q.2), if_neg z, if_neg (by omega)]
    have g5lt : ∀ i, g5 w4b a b c d e i < 256 := fun i => by
      unfold g5 w4b
      split
      · exact wb8_lt _ _
      · split
        · exact wb8_lt _ _
        · split
          · exact wb8_lt _ _
          · split
            · exact wb8_lt _ _
            · exact wb8_lt _ _
    have g5n : ∀ i, g5 (fun v i => nI (w4b v i)) a b c d e i = nI (g5 w4b a b c d e i) := fun i => by
      unfold g5
      split
      · rfl
      · split
        · rfl
        · split
          · rfl
          · split <;> rfl
    have g5m : ∀ i, g5 (fun v i => (v >>> (nI (24 - 8 * i) &&& 31)).toInt8.toInt32) a b c d e i &&& 255 = nI (g5 w4b a b c d e i) := fun i => by
      unfold g5
      split
      · rw [bp_b, wb8_and]; rfl
      · split
        · rw [bp_b, wb8_and]; rfl
        · split
          · rw [bp_b, wb8_and]; rfl
          · split <;> (rw [bp_b, wb8_and]; rfl)
    have hdy : sDy σ σ' := ⟨fun p k z => eσ p k (by omega), eσ _ _ (by omega), eσ _ _ (by omega), eσ _ _ (by omega)⟩
    have pc : cP K C5 x σ' := by
      refine cP_flat p1 hdy (fun j _ => eσ _ _ (by omega)) (fun p k z => e1 p k (by omega)) (by rw [q5]) (by rw [q5]) (eσ _ _ (by omega)) (fun j => eσ _ _ (by omega)) ⟨e1 _ _ (by omega), e1 _ _ (by omega), by rw [e1 _ _ (by omega), eσ _ _ (by omega)]; exact p1.1.2.2⟩ ⟨by rw [e01]; exact W.2.1, fun k hk => ?_⟩ (fun j hj => ⟨by rw [e1 _ _ (by omega), eσ _ _ (by omega)]; exact (p1.2.2.1 j hj).1, by rw [e1 _ _ (by omega), eσ _ _ (by omega)]; exact (p1.2.2.1 j hj).2⟩) ⟨by rw [e1 _ _ (by omega), eσ _ _ (by omega)]; exact p1.2.2.2.1.1, fun r hr => ?_⟩ (e1 _ _ (by omega))
      · rw [W.2.2.1 k, e1k]
        by_cases z : σ 0 1 ≤ k ∧ k < σ 0 1 + 20
        · rw [if_pos z, if_pos z, g5n]
        · rw [if_neg z, if_neg z]; exact p1.2.1.2 k (by omega)
      · rw [e1 _ _ (by omega), e1 _ _ (by omega), eσ _ _ (by omega), eσ _ _ (by omega)]
        exact p1.2.2.2.1.2 r (by rw [← eσ 0 16 (by omega)]; exact hr)
    have s1' : cS K C5 x := cS_keep s1 (fun _ _ _ => rfl) (fun p k _ _ _ _ => by rw [q5])
    obtain ⟨s1'', pc''⟩ := c_other (M' := D5) s1' pc ⟨fun p k z => f1 p k (by omega), U.1⟩
    refine ⟨_, C5, D5, σ', y1, y2, ?_, s1'', pc'', kM D5 U.1, ?_, k1, k2⟩
    · refine Val_of hV hdy (fun j => eσ _ _ (by omega)) (by omega) (by rw [eσ _ _ (by omega)]; omega) (by rw [eσ _ _ (by omega)]; omega) (by rw [eσ _ _ (by omega)]; omega) (fun j => ?_) (fun j hj => by rw [eσ _ _ (by omega), eσ _ _ (by omega)]; exact hV.2.2.2.2.2.1 j hj) (fun r hr => by rw [eσ _ _ (by omega), eσ _ _ (by omega)]; exact hV.2.2.2.2.2.2.1 r (by rw [← eσ 0 16 (by omega)]; exact hr))
      rw [e1k]
      by_cases z : σ 0 1 ≤ j ∧ j < σ 0 1 + 20
      · rw [if_pos z]; exact g5lt _
      · rw [if_neg z]; exact (hV.2.1 j).1
    · obtain ⟨h1, h2, h3, h4⟩ := p2'
      refine ⟨fun j hj => ?_, fun j hj => ?_, fun p j hc => ?_, fun j => ?_⟩
      · by_cases z : j = 1
        · subst z; rw [e01]; exact U.2.1
        · rw [f1 _ _ (by omega), eσ _ _ (by omega)]; exact h1 j hj
      · have := U.2.2.1 j
        rw [show x + 32 + 1 = x + 32 + 1 from rfl] at this
        rw [this, e1k]
        by_cases z : σ 0 1 ≤ j ∧ j < σ 0 1 + 20
        · rw [if_pos z, if_pos z, g5m]
        · rw [if_neg z, if_neg z]; exact h2 j hj
      · rw [f1 _ _ (by omega), eσ _ _ (by omega)]; exact h3 p j hc
      · rw [f1 _ _ (by omega), eσ _ _ (by omega)]; exact h4 j
