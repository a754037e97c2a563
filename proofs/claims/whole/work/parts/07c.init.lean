/-- the kinds of the cells from x on -/
def KL (x : Nat) (l : List (Nat × Nat)) : fh_K := fun a => if a < x then (0, 0) else l.getD (a - x) (0, 0)
theorem KL_at (x i : Nat) (l : List (Nat × Nat)) : KL x l (x + i) = l.getD i (0, 0) := by
  unfold KL
  rw [if_neg (by omega), Nat.add_sub_cancel_left]
theorem KL_push {x n : Nat} {l : List (Nat × Nat)} {v : Nat × Nat} (h : l.length = n) : fh_uk (KL x l) (x + n) v = KL x (l ++ [v]) := by
  funext a
  show (if a = x + n then v else KL x l a) = _
  by_cases e : a = x + n
  · rw [if_pos e, e, KL_at, List.getD_eq_getElem?_getD, ← h, List.getElem?_concat_length]
    rfl
  · rw [if_neg e]
    unfold KL
    by_cases z : a < x
    · rw [if_pos z, if_pos z]
    · rw [if_neg z, if_neg z, List.getD_eq_getElem?_getD, List.getD_eq_getElem?_getD]
      by_cases z2 : a - x < l.length
      · rw [List.getElem?_append_left z2]
      · rw [List.getElem?_eq_none (by omega), List.getElem?_eq_none (by rw [List.length_append]; show l.length + 1 ≤ a - x; omega)]
/-- the references from x on -/
def rfO (ps : List (Nat × Nat × Nat)) (i k : Nat) : Option Nat := (ps.find? (fun q => q.1 == i && q.2.1 == k)).map (fun q => q.2.2)
def rf (x : Nat) (ps : List (Nat × Nat × Nat)) (i k : Nat) : Option Nat := (rfO ps i k).map (fun j => x + j)
def St (x : Nat) (ps : List (Nat × Nat × Nat)) (T : List Nat) (M : fh_M) : Prop := (∀ i k, M.2.2 (x + i) k = rf x ps i k) ∧ (∀ a k, M.2.1 a k = 0) ∧ (∀ i k, i ∈ T → k < 8 → M.1 (x + i) k = 999) ∧ ∀ i k, ¬ i ∈ T → M.1 (x + i) k = 0
theorem st_0 {x : Nat} {ps : List (Nat × Nat × Nat)} {T : List Nat} {M : fh_M} {i k : Nat} (hS : St x ps T M) (h : ¬ i ∈ T) : M.1 (x + i) k = 0 := hS.2.2.2 i k h
theorem rfO_n {ps : List (Nat × Nat × Nat)} {n k : Nat} (h : ps.all (fun q => q.1 != n) = true) : rfO ps n k = none := by
  unfold rfO
  rw [List.find?_eq_none.mpr]
  · rfl
  · intro q hq z
    have := List.all_eq_true.mp h q hq
    simp at this z
    exact this z.1
theorem s_new {α : Type} {x n a : Nat} {l : List (Nat × Nat)} {ps : List (Nat × Nat × Nat)} {T : List Nat} {M : fh_M} {v : Nat × Nat} {f : fh_K → fh_M → Option α} {P : Option α → Prop} (ha : a = x + n) (hl : l.length = n) (hps : ps.all (fun q => q.1 != n) = true) (hT : ¬ n ∈ T) (hS : St x ps T M) (kk : ∀ M, St x ps T M → P (f (KL x (l ++ [v])) M)) : P (fb (fh_uk (KL x l) a v) fun K1 => fb (fh_clr M a) fun M2 => f K1 M2) := by
  subst ha
  rw [fb_eq, fb_eq, KL_push hl]
  refine kk _ ⟨fun i k => ?_, fun b k => ?_, fun i k hi hk => ?_, fun i k hi => ?_⟩
  · show (if x + i = x + n then none else M.2.2 (x + i) k) = _
    by_cases e : i = n
    · subst e
      rw [if_pos rfl]
      unfold rf
      rw [rfO_n hps]
      rfl
    · rw [if_neg (by omega)]; exact hS.1 i k
  · show (if b = x + n then 0 else M.2.1 b k) = 0
    by_cases e : b = x + n
    · rw [if_pos e]
    · rw [if_neg e]; exact hS.2.1 b k
  · show (if x + i = x + n then 0 else M.1 (x + i) k) = 999
    rw [if_neg (fun q => hT (by have : i = n := by omega
                                rw [← this]; exact hi))]
    exact hS.2.2.1 i k hi hk
  · show (if x + i = x + n then 0 else M.1 (x + i) k) = 0
    by_cases e : i = n
    · rw [if_pos (by omega)]
    · rw [if_neg (by omega)]; exact hS.2.2.2 i k hi
theorem s_fo {α : Type} {x i t ci : Nat} {l : List (Nat × Nat)} {f : Nat → Option α} {P : Option α → Prop} (ha : t = x + i) (hk : l.getD i (0, 0) = (ci + 1, 0)) (kk : P (f t)) : P (fo (KL x l) ci (some t) f) := by
  subst ha
  rw [fo_ok (n := 0) (by rw [KL_at]; exact hk)]
  exact kk
theorem s_fn {α : Type} {n : Int32} {b N : Nat} {f : Nat → Option α} {P : Option α → Prop} (h : n = nI N) (hN : N ≤ b) (hb : b ≤ 65536) (kk : P (f N)) : P (fn n b f) := by
  subst h
  unfold fn
  rw [cl_n (by omega), if_pos ⟨nI_pos (by omega), hN⟩]
  exact kk
theorem s_ref {α : Type} {x i j a k : Nat} {v : Option Nat} {ps : List (Nat × Nat × Nat)} {T : List Nat} {M : fh_M} {f : fh_M → Option α} {P : Option α → Prop} (ha : a = x + i) (hv : v = some (x + j)) (hS : St x ps T M) (kk : ∀ M, St x ((i, k, j) :: ps) T M → P (f M)) : P (fb (fh_sr M a k v) f) := by
  subst ha
  subst hv
  rw [fb_eq]
  refine kk _ ⟨fun i' k' => ?_, hS.2.1, hS.2.2.1, hS.2.2.2⟩
  rw [fh_sr_22, hS.1 i' k']
  unfold rf rfO
  rw [List.find?_cons]
  by_cases e : i = i' ∧ k = k'
  · obtain ⟨rfl, rfl⟩ := e
    rw [if_pos ⟨rfl, rfl⟩]
    simp
  · rw [if_neg (by omega), show ((i == i') && (k == k')) = false by
      simp only [Bool.and_eq_false_iff, beq_eq_false_iff_ne]
      omega]
theorem s_int {α : Type} {x i a k : Nat} {ps : List (Nat × Nat × Nat)} {T : List Nat} {M : fh_M} {f : fh_M → Option α} {P : Option α → Prop} (ha : a = x + i) (hi : ¬ i ∈ T) (hS : St x ps T M) (kk : ∀ M, St x ps T M → P (f M)) : P (fb (fh_si M a k 0) f) := by
  subst ha
  rw [fb_eq]
  refine kk _ ⟨hS.1, hS.2.1, fun j k' hj hk => ?_, fun j k' hj => ?_⟩
  · rw [fh_si_1, if_neg (fun q => hi (by have : j = i := by omega
                                         rw [← this]; exact hj))]
    exact hS.2.2.1 j k' hj hk
  · rw [fh_si_1]
    by_cases e : x + j = x + i ∧ k' = k
    · rw [if_pos e]
    · rw [if_neg e]; exact hS.2.2.2 j k' hj
theorem s_lng {α : Type} {x a k : Nat} {ps : List (Nat × Nat × Nat)} {T : List Nat} {M : fh_M} {f : fh_M → Option α} {P : Option α → Prop} (hS : St x ps T M) (kk : ∀ M, St x ps T M → P (f M)) : P (fb (fh_sl M a k 0) f) := by
  rw [fb_eq]
  refine kk _ ⟨hS.1, fun b k' => ?_, hS.2.2.1, hS.2.2.2⟩
  rw [fh_sl_21]
  by_cases e : b = a ∧ k' = k
  · rw [if_pos e]
  · rw [if_neg e]; exact hS.2.1 b k'
def Q3 {α : Type} (P : Option α → Prop) (f : Nat → fh_K → fh_M → Option α) (X : Option (Nat × fh_K × fh_M)) : Prop := ∃ w K' M', X = some (w, K', M') ∧ P (f w K' M')
theorem s_fc3 {α : Type} {P : Option α → Prop} {f : Nat → fh_K → fh_M → Option α} {X : Option (Nat × fh_K × fh_M)} (h : Q3 P f X) : P (fc3 X f) := by
  obtain ⟨w, K', M', rfl, h⟩ := h
  exact h
theorem s_fill {α : Type} {x i j a k : Nat} {l : List (Nat × Nat)} {ps : List (Nat × Nat × Nat)} {T : List Nat} {M : fh_M} {f : fh_M → Option α} {P : Option α → Prop} (ha : a = x + i) (hr : rfO ps i k = some j) (hk : l.getD j (0, 0) = (13, 8)) (hS : St x ps T M) (kk : ∀ M, St x ps (j :: T) M → P (f M)) : P ((f_J7_fill_53178 (KL x l) M (M.2.2 a k) 999).bind f) := by
  subst ha
  have e : M.2.2 (x + i) k = some (x + j) := by
    rw [hS.1 i k]
    unfold rf
    rw [hr]
    rfl
  obtain ⟨M1, q1, q2, q3, q4⟩ := c_fill (K := KL x l) (M := M) (ab := x + j) (N := 8) 999 (by rw [KL_at]; exact hk) (by omega)
  rw [e, q1, Option.bind_some]
  refine kk M1 ⟨fun i' k' => by rw [q2]; exact hS.1 i' k', fun b k' => by rw [q2]; exact hS.2.1 b k', fun i' k' hi hk' => ?_, fun i' k' hi => ?_⟩
  · by_cases z : i' = j
    · subst z; exact q4 k' hk'
    · rw [q3 _ _ (by omega)]
      exact hS.2.2.1 i' k' ((List.mem_cons.mp hi).resolve_left z) hk'
  · rw [q3 _ _ (fun q => hi (by have : i' = j := by omega
                                rw [this]; exact List.mem_cons_self))]
    exact hS.2.2.2 i' k' (fun q => hi (List.mem_cons_of_mem _ q))
/-- after both: the model's two rows of years too -/
def St9 (x : Nat) (ps : List (Nat × Nat × Nat)) (M : fh_M) : Prop := (∀ i k, M.2.2 (x + i) k = rf x ps i k) ∧ (∀ a k, M.2.1 a k = 0) ∧ (∀ i k, (i = 8 ∨ i = 9 ∨ i = 43 ∨ i = 44) → k < 8 → M.1 (x + i) k = 999) ∧ (∀ i k, (i = 43 ∨ i = 44) → 8 ≤ k → M.1 (x + i) k = 0) ∧ ∀ i k, i ≠ 8 → i ≠ 9 → i ≠ 43 → i ≠ 44 → M.1 (x + i) k = 0
theorem m_999 {x : Nat} {K : fh_K} {ps : List (Nat × Nat × Nat)} (M0 : fh_M) (hS : St x ps [9, 8] M0) (k0 : K (x + 32) = (12, 0)) (k1 : K (x + 43) = (13, 8)) (k2 : K (x + 44) = (13, 8)) (r1 : rfO ps 32 14 = some 43) (r2 : rfO ps 32 15 = some 44) :
    ∀ n j M, 8 - j < n → j ≤ 8 → M.2 = M0.2 → (∀ i k, i ≠ 43 ∧ i ≠ 44 → M.1 (x + i) k = M0.1 (x + i) k) → (∀ k, k < j → M.1 (x + 43) k = 999 ∧ M.1 (x + 44) k = 999) → (∀ k, j ≤ k → M.1 (x + 43) k = 0 ∧ M.1 (x + 44) k = 0) → ∃ M', f_X11_init_L244 n (x + 32) (nI j) (x + 63) K M = some (x + 63, K, M') ∧ St9 x ps M' := by
  have z1 : M0.2.2 (x + 32) 14 = some (x + 43) := by
    rw [hS.1 32 14]; unfold rf; rw [r1]; rfl
  have z2 : M0.2.2 (x + 32) 15 = some (x + 44) := by
    rw [hS.1 32 15]; unfold rf; rw [r2]; rfl
  intro n
  induction n with
  | zero => intro j M q; exact absurd q (Nat.not_lt_zero _)
  | succ n ih =>
    intro j M hn hj e1 e2 e3 e4
    unfold f_X11_init_L244
    rw [n_8]
    by_cases hlt : j < 8
    · rw [if_neg (nI_ge hlt (by omega)), fo_ok k0, e1, z1, fi_ok k1 rfl hlt (by omega), fb_eq, fh_si_22, e1, z2, fi_ok k2 rfl hlt (by omega), fb_eq, cl_n (by omega), nI_1]
      refine ih (j + 1) _ (by omega) (by omega) e1 (fun i k z => ?_) (fun k hk => ?_) (fun k hk => ?_)
      · rw [fh_si_1, if_neg (by omega), fh_si_1, if_neg (by omega)]; exact e2 i k z
      · by_cases z : k = j
        · subst z
          exact ⟨by rw [fh_si_1, if_neg (by omega), fh_si_1, if_pos ⟨rfl, rfl⟩], by rw [fh_si_1, if_pos ⟨rfl, rfl⟩]⟩
        · exact ⟨by rw [fh_si_1, if_neg (by omega), fh_si_1, if_neg (by omega)]; exact (e3 k (by omega)).1, by rw [fh_si_1, if_neg (by omega), fh_si_1, if_neg (by omega)]; exact (e3 k (by omega)).2⟩
      · exact ⟨by rw [fh_si_1, if_neg (by omega), fh_si_1, if_neg (by omega)]; exact (e4 k (by omega)).1, by rw [fh_si_1, if_neg (by omega), fh_si_1, if_neg (by omega)]; exact (e4 k (by omega)).2⟩
    · rw [if_pos (nI_le (by omega) (by omega))]
      have : j = 8 := by omega
      subst this
      refine ⟨M, rfl, fun i k => by rw [e1]; exact hS.1 i k, fun a k => by rw [e1]; exact hS.2.1 a k, fun i k hi hk => ?_, fun i k hi hk => ?_, fun i k h1 h2 h3 h4 => ?_⟩
      · rcases hi with rfl | rfl | rfl | rfl
        · rw [e2 8 k (by omega)]; exact hS.2.2.1 8 k (by decide) hk
        · rw [e2 9 k (by omega)]; exact hS.2.2.1 9 k (by decide) hk
        · exact (e3 k hk).1
        · exact (e3 k hk).2
      · rcases hi with rfl | rfl
        · exact (e4 k hk).1
        · exact (e4 k hk).2
      · rw [e2 i k ⟨h3, h4⟩]
        exact hS.2.2.2 i k (by simp [h1, h2])
def cIK : List (Nat × Nat) := [(11, 0), (1, 0), (13, 80), (1, 0), (13, 60), (17, 12), (18, 40), (2, 0), (13, 8), (13, 8), (4, 0), (13, 24), (13, 24), (10, 0), (19, 24), (6, 0), (16, 12), (16, 12), (16, 12), (7, 0), (13, 12), (13, 12), (5, 0), (13, 29), (13, 29), (13, 29), (13, 0), (5, 0), (13, 29), (13, 29), (13, 29), (13, 0)]
def cIP : List (Nat × Nat × Nat) := [(0, 10, 27), (27, 3, 31), (27, 2, 30), (27, 1, 29), (27, 0, 28), (0, 9, 22), (22, 3, 26), (22, 2, 25), (22, 1, 24), (22, 0, 23), (0, 8, 19), (19, 1, 21), (19, 0, 20), (0, 7, 15), (15, 2, 18), (15, 1, 17), (15, 0, 16), (0, 6, 13), (13, 0, 14), (0, 5, 10), (10, 1, 12), (10, 0, 11), (0, 4, 7), (7, 1, 9), (7, 0, 8), (0, 3, 6), (0, 2, 5), (0, 1, 3), (3, 0, 4), (0, 0, 1), (1, 0, 2)]
def mIK : List (Nat × Nat) := [(11, 0), (1, 0), (13, 80), (1, 0), (13, 60), (17, 12), (18, 40), (2, 0), (13, 8), (13, 8), (4, 0), (13, 24), (13, 24), (10, 0), (19, 24), (6, 0), (16, 12), (16, 12), (16, 12), (7, 0), (13, 12), (13, 12), (5, 0), (13, 29), (13, 29), (13, 29), (13, 0), (5, 0), (13, 29), (13, 29), (13, 29), (13, 0), (12, 0), (14, 80), (13, 48), (13, 12), (13, 12), (15, 12), (13, 12), (13, 2400), (13, 40), (13, 40), (13, 40), (13, 8), (13, 8), (13, 24), (13, 24), (13, 24), (13, 24), (13, 24), (13, 24), (13, 24), (13, 30), (13, 30), (13, 30), (13, 30), (13, 30), (13, 30), (13, 60), (13, 4), (13, 4), (13, 60), (13, 4)]
def mIP : List (Nat × Nat × Nat) := [(32, 42, 62), (32, 39, 61), (32, 38, 60), (32, 36, 59), (32, 34, 58), (32, 33, 57), (32, 32, 56), (32, 31, 55), (32, 29, 54), (32, 28, 53), (32, 27, 52), (32, 24, 51), (32, 23, 50), (32, 22, 49), (32, 21, 48), (32, 20, 47), (32, 18, 46), (32, 17, 45), (32, 15, 44), (32, 14, 43), (32, 13, 42), (32, 12, 41), (32, 11, 40), (32, 10, 39), (32, 8, 38), (32, 7, 37), (32, 6, 36), (32, 5, 35), (32, 4, 34), (32, 0, 33), (0, 10, 27), (27, 3, 31), (27, 2, 30), (27, 1, 29), (27, 0, 28), (0, 9, 22), (22, 3, 26), (22, 2, 25), (22, 1, 24), (22, 0, 23), (0, 8, 19), (19, 1, 21), (19, 0, 20), (0, 7, 15), (15, 2, 18), (15, 1, 17), (15, 0, 16), (0, 6, 13), (13, 0, 14), (0, 5, 10), (10, 1, 12), (10, 0, 11), (0, 4, 7), (7, 1, 9), (7, 0, 8), (0, 3, 6), (0, 2, 5), (0, 1, 3), (3, 0, 4), (0, 0, 1), (1, 0, 2)]
def cFin (x : Nat) (r : Option (Nat × fh_K × fh_M)) : Prop := ∃ M, r = some (x + 32, KL x cIK, M) ∧ St x cIP [9, 8] M
theorem c_init {x : Nat} {M : fh_M} (hS : St x [] [] M) : cFin x (f_X10_init (x + 1) (KL x [(11, 0)]) M x) := by
  unfold f_X10_init
  refine s_new (n := 1) (v := (1, 0)) rfl rfl (by decide) (by decide) hS (fun M hS => ?_)
  refine s_fc3 ?_
  (try unfold f_X0_init)
  refine s_fo (i := 1) rfl rfl ?_
  refine s_int (i := 1) rfl (by decide) hS (fun M hS => ?_)
  refine s_fn (N := 80) (by decide) (by decide) (by decide) ?_
  refine s_new (n := 2) (v := (13, 80)) rfl rfl (by decide) (by decide) hS (fun M hS => ?_)
  refine s_fo (i := 1) rfl rfl ?_
  refine s_ref (i := 1) (j := 2) rfl rfl hS (fun M hS => ?_)
  refine ⟨x + 3, _, M, rfl, ?_⟩
  refine s_fo (i := 0) rfl rfl ?_
  refine s_ref (i := 0) (j := 1) rfl rfl hS (fun M hS => ?_)
  refine s_new (n := 3) (v := (1, 0)) rfl rfl (by decide) (by decide) hS (fun M hS => ?_)
  refine s_fc3 ?_
  (try unfold f_X0_init)
  refine s_fo (i := 3) rfl rfl ?_
  refine s_int (i := 3) rfl (by decide) hS (fun M hS => ?_)
  refine s_fn (N := 60) (by decide) (by decide) (by decide) ?_
  refine s_new (n := 4) (v := (13, 60)) rfl rfl (by decide) (by decide) hS (fun M hS => ?_)
  refine s_fo (i := 3) rfl rfl ?_
  refine s_ref (i := 3) (j := 4) rfl rfl hS (fun M hS => ?_)
  refine ⟨x + 5, _, M, rfl, ?_⟩
  refine s_fo (i := 0) rfl rfl ?_
  refine s_ref (i := 0) (j := 3) rfl rfl hS (fun M hS => ?_)
  refine s_fn (N := 12) (by decide) (by decide) (by decide) ?_
  refine s_new (n := 5) (v := (17, 12)) rfl rfl (by decide) (by decide) hS (fun M hS => ?_)
  refine s_fo (i := 0) rfl rfl ?_
  refine s_ref (i := 0) (j := 5) rfl rfl hS (fun M hS => ?_)
  refine s_fn (N := 40) (by decide) (by decide) (by decide) ?_
  refine s_new (n := 6) (v := (18, 40)) rfl rfl (by decide) (by decide) hS (fun M hS => ?_)
  refine s_fo (i := 0) rfl rfl ?_
  refine s_ref (i := 0) (j := 6) rfl rfl hS (fun M hS => ?_)
  refine s_new (n := 7) (v := (2, 0)) rfl rfl (by decide) (by decide) hS (fun M hS => ?_)
  refine s_fc3 ?_
  (try unfold f_X1_init)
  refine s_fn (N := 8) (by decide) (by decide) (by decide) ?_
  refine s_new (n := 8) (v := (13, 8)) rfl rfl (by decide) (by decide) hS (fun M hS => ?_)
  refine s_fo (i := 7) rfl rfl ?_
  refine s_ref (i := 7) (j := 8) rfl rfl hS (fun M hS => ?_)
  refine s_fn (N := 8) (by decide) (by decide) (by decide) ?_
  refine s_new (n := 9) (v := (13, 8)) rfl rfl (by decide) (by decide) hS (fun M hS => ?_)
  refine s_fo (i := 7) rfl rfl ?_
  refine s_ref (i := 7) (j := 9) rfl rfl hS (fun M hS => ?_)
  refine s_fill (i := 7) (j := 8) rfl (by decide) rfl hS (fun M hS => ?_)
  refine s_fill (i := 7) (j := 9) rfl (by decide) rfl hS (fun M hS => ?_)
  refine ⟨x + 10, _, M, rfl, ?_⟩
  refine s_fo (i := 0) rfl rfl ?_
  refine s_ref (i := 0) (j := 7) rfl rfl hS (fun M hS => ?_)
  refine s_new (n := 10) (v := (4, 0)) rfl rfl (by decide) (by decide) hS (fun M hS => ?_)
  refine s_fc3 ?_
  (try unfold f_X3_init)
  refine s_fn (N := 24) (by decide) (by decide) (by decide) ?_
  refine s_new (n := 11) (v := (13, 24)) rfl rfl (by decide) (by decide) hS (fun M hS => ?_)
  refine s_fo (i := 10) rfl rfl ?_
  refine s_ref (i := 10) (j := 11) rfl rfl hS (fun M hS => ?_)
  refine s_fn (N := 24) (by decide) (by decide) (by decide) ?_
  refine s_new (n := 12) (v := (13, 24)) rfl rfl (by decide) (by decide) hS (fun M hS => ?_)
  refine s_fo (i := 10) rfl rfl ?_
  refine s_ref (i := 10) (j := 12) rfl rfl hS (fun M hS => ?_)
  refine s_int (i := 10) rfl (by decide) hS (fun M hS => ?_)
  refine ⟨x + 13, _, M, rfl, ?_⟩
  refine s_fo (i := 0) rfl rfl ?_
  refine s_ref (i := 0) (j := 10) rfl rfl hS (fun M hS => ?_)
  refine s_new (n := 13) (v := (10, 0)) rfl rfl (by decide) (by decide) hS (fun M hS => ?_)
  refine s_fc3 ?_
  (try unfold f_X9_init)
  refine s_fn (N := 24) (by decide) (by decide) (by decide) ?_
  refine s_new (n := 14) (v := (19, 24)) rfl rfl (by decide) (by decide) hS (fun M hS => ?_)
  refine s_fo (i := 13) rfl rfl ?_
  refine s_ref (i := 13) (j := 14) rfl rfl hS (fun M hS => ?_)
  refine s_int (i := 13) rfl (by decide) hS (fun M hS => ?_)
  refine ⟨x + 15, _, M, rfl, ?_⟩
  refine s_fo (i := 0) rfl rfl ?_
  refine s_ref (i := 0) (j := 13) rfl rfl hS (fun M hS => ?_)
  refine s_new (n := 15) (v := (6, 0)) rfl rfl (by decide) (by decide) hS (fun M hS => ?_)
  refine s_fc3 ?_
  (try unfold f_X5_init)
  refine s_fn (N := 12) (by decide) (by decide) (by decide) ?_
  refine s_new (n := 16) (v := (16, 12)) rfl rfl (by decide) (by decide) hS (fun M hS => ?_)
  refine s_fo (i := 15) rfl rfl ?_
  refine s_ref (i := 15) (j := 16) rfl rfl hS (fun M hS => ?_)
  refine s_fn (N := 12) (by decide) (by decide) (by decide) ?_
  refine s_new (n := 17) (v := (16, 12)) rfl rfl (by decide) (by decide) hS (fun M hS => ?_)
  refine s_fo (i := 15) rfl rfl ?_
  refine s_ref (i := 15) (j := 17) rfl rfl hS (fun M hS => ?_)
  refine s_fn (N := 12) (by decide) (by decide) (by decide) ?_
  refine s_new (n := 18) (v := (16, 12)) rfl rfl (by decide) (by decide) hS (fun M hS => ?_)
  refine s_fo (i := 15) rfl rfl ?_
  refine s_ref (i := 15) (j := 18) rfl rfl hS (fun M hS => ?_)
  refine ⟨x + 19, _, M, rfl, ?_⟩
  refine s_fo (i := 0) rfl rfl ?_
  refine s_ref (i := 0) (j := 15) rfl rfl hS (fun M hS => ?_)
  refine s_new (n := 19) (v := (7, 0)) rfl rfl (by decide) (by decide) hS (fun M hS => ?_)
  refine s_fc3 ?_
  (try unfold f_X6_init)
  refine s_fn (N := 12) (by decide) (by decide) (by decide) ?_
  refine s_new (n := 20) (v := (13, 12)) rfl rfl (by decide) (by decide) hS (fun M hS => ?_)
  refine s_fo (i := 19) rfl rfl ?_
  refine s_ref (i := 19) (j := 20) rfl rfl hS (fun M hS => ?_)
  refine s_fn (N := 12) (by decide) (by decide) (by decide) ?_
  refine s_new (n := 21) (v := (13, 12)) rfl rfl (by decide) (by decide) hS (fun M hS => ?_)
  refine s_fo (i := 19) rfl rfl ?_
  refine s_ref (i := 19) (j := 21) rfl rfl hS (fun M hS => ?_)
  refine ⟨x + 22, _, M, rfl, ?_⟩
  refine s_fo (i := 0) rfl rfl ?_
  refine s_ref (i := 0) (j := 19) rfl rfl hS (fun M hS => ?_)
  refine s_new (n := 22) (v := (5, 0)) rfl rfl (by decide) (by decide) hS (fun M hS => ?_)
  refine s_fc3 ?_
  (try unfold f_X4_init)
  refine s_fn (N := 29) (by decide) (by decide) (by decide) ?_
  refine s_new (n := 23) (v := (13, 29)) rfl rfl (by decide) (by decide) hS (fun M hS => ?_)
  refine s_fo (i := 22) rfl rfl ?_
  refine s_ref (i := 22) (j := 23) rfl rfl hS (fun M hS => ?_)
  refine s_fn (N := 29) (by decide) (by decide) (by decide) ?_
  refine s_new (n := 24) (v := (13, 29)) rfl rfl (by decide) (by decide) hS (fun M hS => ?_)
  refine s_fo (i := 22) rfl rfl ?_
  refine s_ref (i := 22) (j := 24) rfl rfl hS (fun M hS => ?_)
  refine s_fn (N := 29) (by decide) (by decide) (by decide) ?_
  refine s_new (n := 25) (v := (13, 29)) rfl rfl (by decide) (by decide) hS (fun M hS => ?_)
  refine s_fo (i := 22) rfl rfl ?_
  refine s_ref (i := 22) (j := 25) rfl rfl hS (fun M hS => ?_)
  refine s_fn (N := 0) (by decide) (by decide) (by decide) ?_
  refine s_new (n := 26) (v := (13, 0)) rfl rfl (by decide) (by decide) hS (fun M hS => ?_)
  refine s_fo (i := 22) rfl rfl ?_
  refine s_ref (i := 22) (j := 26) rfl rfl hS (fun M hS => ?_)
  refine s_int (i := 22) rfl (by decide) hS (fun M hS => ?_)
  refine s_int (i := 22) rfl (by decide) hS (fun M hS => ?_)
  refine s_int (i := 22) rfl (by decide) hS (fun M hS => ?_)
  refine ⟨x + 27, _, M, rfl, ?_⟩
  refine s_fo (i := 0) rfl rfl ?_
  refine s_ref (i := 0) (j := 22) rfl rfl hS (fun M hS => ?_)
  refine s_new (n := 27) (v := (5, 0)) rfl rfl (by decide) (by decide) hS (fun M hS => ?_)
  refine s_fc3 ?_
  (try unfold f_X4_init)
  refine s_fn (N := 29) (by decide) (by decide) (by decide) ?_
  refine s_new (n := 28) (v := (13, 29)) rfl rfl (by decide) (by decide) hS (fun M hS => ?_)
  refine s_fo (i := 27) rfl rfl ?_
  refine s_ref (i := 27) (j := 28) rfl rfl hS (fun M hS => ?_)
  refine s_fn (N := 29) (by decide) (by decide) (by decide) ?_
  refine s_new (n := 29) (v := (13, 29)) rfl rfl (by decide) (by decide) hS (fun M hS => ?_)
  refine s_fo (i := 27) rfl rfl ?_
  refine s_ref (i := 27) (j := 29) rfl rfl hS (fun M hS => ?_)
  refine s_fn (N := 29) (by decide) (by decide) (by decide) ?_
  refine s_new (n := 30) (v := (13, 29)) rfl rfl (by decide) (by decide) hS (fun M hS => ?_)
  refine s_fo (i := 27) rfl rfl ?_
  refine s_ref (i := 27) (j := 30) rfl rfl hS (fun M hS => ?_)
  refine s_fn (N := 0) (by decide) (by decide) (by decide) ?_
  refine s_new (n := 31) (v := (13, 0)) rfl rfl (by decide) (by decide) hS (fun M hS => ?_)
  refine s_fo (i := 27) rfl rfl ?_
  refine s_ref (i := 27) (j := 31) rfl rfl hS (fun M hS => ?_)
  refine s_int (i := 27) rfl (by decide) hS (fun M hS => ?_)
  refine s_int (i := 27) rfl (by decide) hS (fun M hS => ?_)
  refine s_int (i := 27) rfl (by decide) hS (fun M hS => ?_)
  refine ⟨x + 32, _, M, rfl, ?_⟩
  refine s_fo (i := 0) rfl rfl ?_
  refine s_ref (i := 0) (j := 27) rfl rfl hS (fun M hS => ?_)
  refine s_int (i := 0) rfl (by decide) hS (fun M hS => ?_)
  refine s_int (i := 0) rfl (by decide) hS (fun M hS => ?_)
  refine s_int (i := 0) rfl (by decide) hS (fun M hS => ?_)
  refine s_lng hS (fun M hS => ?_)
  exact ⟨M, rfl, hS⟩
def mFin (x : Nat) (r : Option (Nat × fh_K × fh_M)) : Prop := ∃ M, r = some (x + 63, KL x mIK, M) ∧ St9 x mIP M
theorem m_init {x : Nat} {M : fh_M} (hS : St x cIP [9, 8] M) : mFin x (f_X11_init (x + 33) (KL x (cIK ++ [(12, 0)])) M (x + 32)) := by
  unfold f_X11_init
  refine s_fn (N := 80) (by decide) (by decide) (by decide) ?_
  refine s_new (n := 33) (v := (14, 80)) rfl rfl (by decide) (by decide) hS (fun M hS => ?_)
  refine s_fo (i := 32) rfl rfl ?_
  refine s_ref (i := 32) (j := 33) rfl rfl hS (fun M hS => ?_)
  refine s_fn (N := 48) (by decide) (by decide) (by decide) ?_
  refine s_new (n := 34) (v := (13, 48)) rfl rfl (by decide) (by decide) hS (fun M hS => ?_)
  refine s_fo (i := 32) rfl rfl ?_
  refine s_ref (i := 32) (j := 34) rfl rfl hS (fun M hS => ?_)
  refine s_fn (N := 12) (by decide) (by decide) (by decide) ?_
  refine s_new (n := 35) (v := (13, 12)) rfl rfl (by decide) (by decide) hS (fun M hS => ?_)
  refine s_fo (i := 32) rfl rfl ?_
  refine s_ref (i := 32) (j := 35) rfl rfl hS (fun M hS => ?_)
  refine s_fn (N := 12) (by decide) (by decide) (by decide) ?_
  refine s_new (n := 36) (v := (13, 12)) rfl rfl (by decide) (by decide) hS (fun M hS => ?_)
  refine s_fo (i := 32) rfl rfl ?_
  refine s_ref (i := 32) (j := 36) rfl rfl hS (fun M hS => ?_)
  refine s_fn (N := 12) (by decide) (by decide) (by decide) ?_
  refine s_new (n := 37) (v := (15, 12)) rfl rfl (by decide) (by decide) hS (fun M hS => ?_)
  refine s_fo (i := 32) rfl rfl ?_
  refine s_ref (i := 32) (j := 37) rfl rfl hS (fun M hS => ?_)
  refine s_fn (N := 12) (by decide) (by decide) (by decide) ?_
  refine s_new (n := 38) (v := (13, 12)) rfl rfl (by decide) (by decide) hS (fun M hS => ?_)
  refine s_fo (i := 32) rfl rfl ?_
  refine s_ref (i := 32) (j := 38) rfl rfl hS (fun M hS => ?_)
  refine s_fn (N := 2400) (by decide) (by decide) (by decide) ?_
  refine s_new (n := 39) (v := (13, 2400)) rfl rfl (by decide) (by decide) hS (fun M hS => ?_)
  refine s_fo (i := 32) rfl rfl ?_
  refine s_ref (i := 32) (j := 39) rfl rfl hS (fun M hS => ?_)
  refine s_fn (N := 40) (by decide) (by decide) (by decide) ?_
  refine s_new (n := 40) (v := (13, 40)) rfl rfl (by decide) (by decide) hS (fun M hS => ?_)
  refine s_fo (i := 32) rfl rfl ?_
  refine s_ref (i := 32) (j := 40) rfl rfl hS (fun M hS => ?_)
  refine s_fn (N := 40) (by decide) (by decide) (by decide) ?_
  refine s_new (n := 41) (v := (13, 40)) rfl rfl (by decide) (by decide) hS (fun M hS => ?_)
  refine s_fo (i := 32) rfl rfl ?_
  refine s_ref (i := 32) (j := 41) rfl rfl hS (fun M hS => ?_)
  refine s_fn (N := 40) (by decide) (by decide) (by decide) ?_
  refine s_new (n := 42) (v := (13, 40)) rfl rfl (by decide) (by decide) hS (fun M hS => ?_)
  refine s_fo (i := 32) rfl rfl ?_
  refine s_ref (i := 32) (j := 42) rfl rfl hS (fun M hS => ?_)
  refine s_fn (N := 8) (by decide) (by decide) (by decide) ?_
  refine s_new (n := 43) (v := (13, 8)) rfl rfl (by decide) (by decide) hS (fun M hS => ?_)
  refine s_fo (i := 32) rfl rfl ?_
  refine s_ref (i := 32) (j := 43) rfl rfl hS (fun M hS => ?_)
  refine s_fn (N := 8) (by decide) (by decide) (by decide) ?_
  refine s_new (n := 44) (v := (13, 8)) rfl rfl (by decide) (by decide) hS (fun M hS => ?_)
  refine s_fo (i := 32) rfl rfl ?_
  refine s_ref (i := 32) (j := 44) rfl rfl hS (fun M hS => ?_)
  refine s_fn (N := 24) (by decide) (by decide) (by decide) ?_
  refine s_new (n := 45) (v := (13, 24)) rfl rfl (by decide) (by decide) hS (fun M hS => ?_)
  refine s_fo (i := 32) rfl rfl ?_
  refine s_ref (i := 32) (j := 45) rfl rfl hS (fun M hS => ?_)
  refine s_fn (N := 24) (by decide) (by decide) (by decide) ?_
  refine s_new (n := 46) (v := (13, 24)) rfl rfl (by decide) (by decide) hS (fun M hS => ?_)
  refine s_fo (i := 32) rfl rfl ?_
  refine s_ref (i := 32) (j := 46) rfl rfl hS (fun M hS => ?_)
  refine s_fn (N := 24) (by decide) (by decide) (by decide) ?_
  refine s_new (n := 47) (v := (13, 24)) rfl rfl (by decide) (by decide) hS (fun M hS => ?_)
  refine s_fo (i := 32) rfl rfl ?_
  refine s_ref (i := 32) (j := 47) rfl rfl hS (fun M hS => ?_)
  refine s_fn (N := 24) (by decide) (by decide) (by decide) ?_
  refine s_new (n := 48) (v := (13, 24)) rfl rfl (by decide) (by decide) hS (fun M hS => ?_)
  refine s_fo (i := 32) rfl rfl ?_
  refine s_ref (i := 32) (j := 48) rfl rfl hS (fun M hS => ?_)
  refine s_fn (N := 24) (by decide) (by decide) (by decide) ?_
  refine s_new (n := 49) (v := (13, 24)) rfl rfl (by decide) (by decide) hS (fun M hS => ?_)
  refine s_fo (i := 32) rfl rfl ?_
  refine s_ref (i := 32) (j := 49) rfl rfl hS (fun M hS => ?_)
  refine s_fn (N := 24) (by decide) (by decide) (by decide) ?_
  refine s_new (n := 50) (v := (13, 24)) rfl rfl (by decide) (by decide) hS (fun M hS => ?_)
  refine s_fo (i := 32) rfl rfl ?_
  refine s_ref (i := 32) (j := 50) rfl rfl hS (fun M hS => ?_)
  refine s_fn (N := 24) (by decide) (by decide) (by decide) ?_
  refine s_new (n := 51) (v := (13, 24)) rfl rfl (by decide) (by decide) hS (fun M hS => ?_)
  refine s_fo (i := 32) rfl rfl ?_
  refine s_ref (i := 32) (j := 51) rfl rfl hS (fun M hS => ?_)
  refine s_fn (N := 30) (by decide) (by decide) (by decide) ?_
  refine s_new (n := 52) (v := (13, 30)) rfl rfl (by decide) (by decide) hS (fun M hS => ?_)
  refine s_fo (i := 32) rfl rfl ?_
  refine s_ref (i := 32) (j := 52) rfl rfl hS (fun M hS => ?_)
  refine s_fn (N := 30) (by decide) (by decide) (by decide) ?_
  refine s_new (n := 53) (v := (13, 30)) rfl rfl (by decide) (by decide) hS (fun M hS => ?_)
  refine s_fo (i := 32) rfl rfl ?_
  refine s_ref (i := 32) (j := 53) rfl rfl hS (fun M hS => ?_)
  refine s_fn (N := 30) (by decide) (by decide) (by decide) ?_
  refine s_new (n := 54) (v := (13, 30)) rfl rfl (by decide) (by decide) hS (fun M hS => ?_)
  refine s_fo (i := 32) rfl rfl ?_
  refine s_ref (i := 32) (j := 54) rfl rfl hS (fun M hS => ?_)
  refine s_fn (N := 30) (by decide) (by decide) (by decide) ?_
  refine s_new (n := 55) (v := (13, 30)) rfl rfl (by decide) (by decide) hS (fun M hS => ?_)
  refine s_fo (i := 32) rfl rfl ?_
  refine s_ref (i := 32) (j := 55) rfl rfl hS (fun M hS => ?_)
  refine s_fn (N := 30) (by decide) (by decide) (by decide) ?_
  refine s_new (n := 56) (v := (13, 30)) rfl rfl (by decide) (by decide) hS (fun M hS => ?_)
  refine s_fo (i := 32) rfl rfl ?_
  refine s_ref (i := 32) (j := 56) rfl rfl hS (fun M hS => ?_)
  refine s_fn (N := 30) (by decide) (by decide) (by decide) ?_
  refine s_new (n := 57) (v := (13, 30)) rfl rfl (by decide) (by decide) hS (fun M hS => ?_)
  refine s_fo (i := 32) rfl rfl ?_
  refine s_ref (i := 32) (j := 57) rfl rfl hS (fun M hS => ?_)
  refine s_fn (N := 60) (by decide) (by decide) (by decide) ?_
  refine s_new (n := 58) (v := (13, 60)) rfl rfl (by decide) (by decide) hS (fun M hS => ?_)
  refine s_fo (i := 32) rfl rfl ?_
  refine s_ref (i := 32) (j := 58) rfl rfl hS (fun M hS => ?_)
  refine s_fn (N := 4) (by decide) (by decide) (by decide) ?_
  refine s_new (n := 59) (v := (13, 4)) rfl rfl (by decide) (by decide) hS (fun M hS => ?_)
  refine s_fo (i := 32) rfl rfl ?_
  refine s_ref (i := 32) (j := 59) rfl rfl hS (fun M hS => ?_)
  refine s_fn (N := 4) (by decide) (by decide) (by decide) ?_
  refine s_new (n := 60) (v := (13, 4)) rfl rfl (by decide) (by decide) hS (fun M hS => ?_)
  refine s_fo (i := 32) rfl rfl ?_
  refine s_ref (i := 32) (j := 60) rfl rfl hS (fun M hS => ?_)
  refine s_fn (N := 60) (by decide) (by decide) (by decide) ?_
  refine s_new (n := 61) (v := (13, 60)) rfl rfl (by decide) (by decide) hS (fun M hS => ?_)
  refine s_fo (i := 32) rfl rfl ?_
  refine s_ref (i := 32) (j := 61) rfl rfl hS (fun M hS => ?_)
  refine s_fn (N := 4) (by decide) (by decide) (by decide) ?_
  refine s_new (n := 62) (v := (13, 4)) rfl rfl (by decide) (by decide) hS (fun M hS => ?_)
  refine s_fo (i := 32) rfl rfl ?_
  refine s_ref (i := 32) (j := 62) rfl rfl hS (fun M hS => ?_)
  obtain ⟨M1, h1, h2⟩ := m_999 (x := x) (K := KL x mIK) M hS (by rw [KL_at]; rfl) (by rw [KL_at]; rfl) (by rw [KL_at]; rfl) (by decide) (by decide) 4096 0 M (by omega) (by omega) rfl (fun i k z => rfl) (fun k hk => absurd hk (Nat.not_lt_zero _)) (fun k _ => ⟨st_0 hS (by decide), st_0 hS (by decide)⟩)
  exact ⟨M1, h1, h2⟩
/-- the state at the beginning -/
def s0 : sT := fun c j => if c = 10 then 1 else if (c = 11 ∨ c = 12) ∧ j < 8 then 999 else 0
theorem s0_0 {c j : Nat} (h1 : c ≠ 10) (h2 : c ≠ 11) (h3 : c ≠ 12) : s0 c j = 0 := by
  unfold s0
  rw [if_neg h1, if_neg (by omega)]
theorem s0_9 {c j : Nat} (h : c = 11 ∨ c = 12) (hj : j < 8) : s0 c j = 999 := by
  unfold s0
  rw [if_neg (by omega), if_pos ⟨h, hj⟩]
theorem s0_8 {c j : Nat} (h : c = 11 ∨ c = 12) (hj : 8 ≤ j) : s0 c j = 0 := by
  unfold s0
  rw [if_neg (by omega), if_neg (by omega)]
theorem mR_o (x k : Nat) : mR (x + 32) k = (mR 32 k).map (fun j => x + j) := by
  simp only [mR, apply_ite (Option.map (fun j => x + j)), Option.map_some, Option.map_none, Nat.add_assoc]
theorem mR_n {y k : Nat} (h : 43 ≤ k) : mR y k = none := by
  unfold mR
  repeat rw [if_neg (by omega)]
theorem mIP_m : ∀ k, k < 43 → rfO mIP 32 k = mR 32 k := by decide
theorem mIP_n {k : Nat} (h : 43 ≤ k) : rfO mIP 32 k = none := by
  unfold rfO
  rw [List.find?_eq_none.mpr]
  · rfl
  · intro q hq z
    have : mIP.all (fun q => decide (q.2.1 < 43)) = true := by decide
    have := List.all_eq_true.mp this q hq
    simp at this z
    omega
/-- after both are made, all stands as it should -/
theorem Inv_0 {x : Nat} {M : fh_M} (hS : St9 x mIP M) : Inv (x + 63) (KL x mIK) M x s0 := by
  obtain ⟨h1, h2, h3, h4, h5⟩ := hS
  have kx : ∀ i v, mIK.getD i (0, 0) = v → KL x mIK (x + i) = v := fun i v h => by rw [KL_at]; exact h
  have rx : ∀ i k j, rfO mIP i k = some j → M.2.2 (x + i) k = some (x + j) := fun i k j h => by
    rw [h1 i k]
    unfold rf
    rw [h]
    rfl
  have ky : ∀ i v, mIK.getD (32 + i) (0, 0) = v → KL x mIK (x + 32 + i) = v := fun i v h => by rw [Nat.add_assoc, KL_at]; exact h
  refine ⟨⟨⟨?_, ?_, ?_, ?_, ?_, ?_, ?_⟩, fun j => ?_, fun m hm => ?_, fun f hf => ?_, fun f hf => ?_, fun j hj => ?_, fun r hr => ?_, fun t ht => ?_⟩, ?_, ?_, ?_, ?_, fun a ha => ?_, Nat.le_refl _⟩
  · rw [s0_0 (by omega) (by omega) (by omega)]; omega
  · rw [s0_0 (by omega) (by omega) (by omega)]; omega
  · rw [s0_0 (by omega) (by omega) (by omega)]; omega
  · rw [s0_0 (by omega) (by omega) (by omega)]; omega
  · rw [s0_0 (by omega) (by omega) (by omega)]; omega
  · rw [s0_0 (by omega) (by omega) (by omega)]; omega
  · rw [s0_0 (by omega) (by omega) (by omega)]; omega
  · rw [s0_0 (by omega) (by omega) (by omega), s0_0 (by omega) (by omega) (by omega), s0_0 (by omega) (by omega) (by omega)]; omega
  · rw [s0_0 (by omega) (by omega) (by omega)] at hm; omega
  · rw [s0_0 (by omega) (by omega) (by omega)] at hf; omega
  · rw [s0_0 (by omega) (by omega) (by omega)]
  · rw [s0_9 (by omega) hj, s0_9 (by omega) hj]; omega
  · rw [s0_0 (by omega) (by omega) (by omega)] at hr; omega
  · rw [s0_0 (by omega) (by omega) (by omega)] at ht; omega
  · exact ⟨kx 0 _ rfl, kx 1 _ rfl, kx 2 _ rfl, kx 3 _ rfl, kx 4 _ rfl, kx 5 _ rfl, kx 6 _ rfl, kx 7 _ rfl, kx 8 _ rfl, kx 9 _ rfl, kx 10 _ rfl, kx 11 _ rfl, kx 12 _ rfl, kx 13 _ rfl, kx 14 _ rfl, kx 15 _ rfl, kx 16 _ rfl, kx 17 _ rfl, kx 18 _ rfl, kx 19 _ rfl, kx 20 _ rfl, kx 21 _ rfl, kx 22 _ rfl, kx 23 _ rfl, kx 24 _ rfl, kx 25 _ rfl, kx 27 _ rfl, kx 28 _ rfl, kx 29 _ rfl, kx 30 _ rfl, rx 0 0 1 (by decide), rx 0 1 3 (by decide), rx 0 2 5 (by decide), rx 0 3 6 (by decide), rx 0 4 7 (by decide), rx 0 5 10 (by decide), rx 0 6 13 (by decide), rx 0 7 15 (by decide), rx 0 8 19 (by decide), rx 0 9 22 (by decide), rx 0 10 27 (by decide), rx 1 0 2 (by decide), rx 3 0 4 (by decide), rx 7 0 8 (by decide), rx 7 1 9 (by decide), rx 10 0 11 (by decide), rx 10 1 12 (by decide), rx 13 0 14 (by decide), rx 15 0 16 (by decide), rx 15 1 17 (by decide), rx 15 2 18 (by decide), rx 19 0 20 (by decide), rx 19 1 21 (by decide), rx 22 0 23 (by decide), rx 22 1 24 (by decide), rx 22 2 25 (by decide), rx 27 0 28 (by decide), rx 27 1 29 (by decide), rx 27 2 30 (by decide)⟩
  · refine ⟨⟨?_, ?_, ?_⟩, ⟨?_, fun k hk => ?_⟩, fun j hj => ⟨?_, ?_⟩, ⟨?_, fun r hr => ?_⟩, ?_, ⟨0, by omega, ?_, fun k hk => ?_⟩, fun i hi => ?_, fun i hi => ?_, fun t ht => ?_, fun i j hi => ?_⟩
    · rw [s0_0 (by omega) (by omega) (by omega)]; exact h5 0 11 (by omega) (by omega) (by omega) (by omega)
    · rw [s0_0 (by omega) (by omega) (by omega)]; exact h5 0 12 (by omega) (by omega) (by omega) (by omega)
    · rw [s0_0 (by omega) (by omega) (by omega)]; exact h5 0 13 (by omega) (by omega) (by omega) (by omega)
    · rw [s0_0 (by omega) (by omega) (by omega)]; exact h5 1 1 (by omega) (by omega) (by omega) (by omega)
    · rw [s0_0 (by omega) (by omega) (by omega)] at hk; omega
    · rw [s0_9 (by omega) hj]; exact h3 8 j (by omega) hj
    · rw [s0_9 (by omega) hj]; exact h3 9 j (by omega) hj
    · rw [s0_0 (by omega) (by omega) (by omega)]; exact h5 10 2 (by omega) (by omega) (by omega) (by omega)
    · rw [s0_0 (by omega) (by omega) (by omega)] at hr; omega
    · rw [s0_0 (by omega) (by omega) (by omega)]; exact h5 13 1 (by omega) (by omega) (by omega) (by omega)
    · rw [s0_0 (by omega) (by omega) (by omega)]; exact h2 x 14
    · rw [s0_0 (by omega) (by omega) (by omega)] at hk; omega
    · rw [s0_0 (by omega) (by omega) (by omega)] at hi; omega
    · rw [s0_0 (by omega) (by omega) (by omega)] at hi; omega
    · rw [s0_0 (by omega) (by omega) (by omega)] at ht; omega
    · rw [s0_0 (by omega) (by omega) (by omega)] at hi; omega
  · refine ⟨ky 0 _ rfl, ?_, ky 1 _ rfl, ky 2 _ rfl, ky 3 _ rfl, ky 4 _ rfl, ky 5 _ rfl, ky 6 _ rfl, ky 7 _ rfl, ky 8 _ rfl, ky 9 _ rfl, ky 10 _ rfl, ky 11 _ rfl, ky 12 _ rfl, ky 13 _ rfl, ky 14 _ rfl, ky 15 _ rfl, ky 16 _ rfl, ky 17 _ rfl, ky 18 _ rfl, ky 19 _ rfl, ky 20 _ rfl, ky 21 _ rfl, ky 22 _ rfl, ky 23 _ rfl, ky 24 _ rfl, ky 25 _ rfl, ky 26 _ rfl, ky 27 _ rfl, ky 28 _ rfl, ky 29 _ rfl, ky 30 _ rfl⟩
    funext k
    rw [h1 32 k, mR_o]
    unfold rf
    by_cases z : k < 43
    · rw [mIP_m k z]
    · rw [mIP_n (by omega), mR_n (by omega)]
  · refine ⟨fun k hk => ?_, fun j hj => ?_, fun c j hc => ?_, fun j => ?_⟩
    · rw [s0_0 (by omega) (by omega) (by omega)]; exact h5 32 k (by omega) (by omega) (by omega) (by omega)
    · rw [s0_0 (by omega) (by omega) (by omega), Nat.add_assoc, h5 33 j (by omega) (by omega) (by omega) (by omega)]; rfl
    · rw [Nat.add_assoc]
      by_cases z : c = 11 ∨ c = 12
      · by_cases z2 : j < 8
        · rw [s0_9 z z2, h3 _ j (by omega) z2]; rfl
        · rw [s0_8 z (by omega), h4 _ j (by omega) (by omega)]; rfl
      · rw [s0_0 (by omega) (by omega) (by omega), h5 _ j (by omega) (by omega) (by omega) (by omega)]; rfl
    · rw [Nat.add_assoc, h5 42 j (by omega) (by omega) (by omega) (by omega), show s0 10 j = 1 from rfl]; rfl
  · unfold KL
    rw [if_neg (by omega), List.getD_eq_getElem?_getD, List.getElem?_eq_none (by show 63 ≤ a - x; omega)]
    rfl
