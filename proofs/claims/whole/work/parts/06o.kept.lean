abbrev R3 : Type := Nat × Nat × Nat
def atL (L : List R3) (i : Nat) : R3 := L[i]?.getD (0, 0, 0)
theorem atL_eq {L : List R3} {i : Nat} (h : i < L.length) : atL L i = L[i] := by simp [atL, h]
theorem atL_mem {L : List R3} {i : Nat} (h : i < L.length) : atL L i ∈ L := by rw [atL_eq h]; exact List.getElem_mem h
/-- the next record with a tag -/
def nx (L : List R3) (t : Nat) : Nat → Nat
  | 0 => L.length
  | d + 1 => if (atL L (L.length - (d + 1))).1 = t then L.length - (d + 1) else nx L t d
def NX (L : List R3) (t i : Nat) : Nat := nx L t (L.length - i)
theorem NX_o {L : List R3} {t i : Nat} (h : L.length ≤ i) : NX L t i = L.length := by
  unfold NX
  rw [Nat.sub_eq_zero_of_le h]
  rfl
theorem NX_y {L : List R3} {t i : Nat} (h : i < L.length) (e : (atL L i).1 = t) : NX L t i = i := by
  obtain ⟨d, hd⟩ : ∃ d, L.length - i = d + 1 := ⟨L.length - i - 1, by omega⟩
  have e2 : L.length - (d + 1) = i := by omega
  unfold NX
  rw [hd]
  unfold nx
  rw [e2, if_pos e]
theorem NX_n {L : List R3} {t i : Nat} (h : i < L.length) (e : (atL L i).1 ≠ t) : NX L t i = NX L t (i + 1) := by
  obtain ⟨d, hd⟩ : ∃ d, L.length - i = d + 1 := ⟨L.length - i - 1, by omega⟩
  have e2 : L.length - (d + 1) = i := by omega
  have e3 : L.length - (i + 1) = d := by omega
  unfold NX
  rw [hd, e3]
  show (if (atL L (L.length - (d + 1))).1 = t then L.length - (d + 1) else nx L t d) = _
  rw [e2, if_neg e]
theorem NX_le (L : List R3) (t : Nat) : ∀ d i, L.length - i = d → NX L t i ≤ L.length := by
  intro d
  induction d with
  | zero => intro i h; rw [NX_o (by omega)]; exact Nat.le_refl _
  | succ d ih =>
    intro i h
    by_cases e : (atL L i).1 = t
    · rw [NX_y (by omega) e]; omega
    · rw [NX_n (by omega) e]; exact ih (i + 1) (by omega)
/-- two records with the same bytes -/
def smR (a b : Nat → Nat) (p q : R3) : Prop := p.2.2 = q.2.2 ∧ ∀ z, z < p.2.2 → a (p.2.1 + z) = b (q.2.1 + z)
/-- the records with a tag are the same, from place i and place k on -/
def agD (a b : Nat → Nat) (A B : List R3) (t : Nat) : Nat → Nat → Prop
  | 0, k => NX B t k = B.length
  | d + 1, k => ((atL A (A.length - (d + 1))).1 = t ∧ NX B t k < B.length ∧ smR a b (atL A (A.length - (d + 1))) (atL B (NX B t k)) ∧ agD a b A B t d (NX B t k + 1)) ∨ ((atL A (A.length - (d + 1))).1 ≠ t ∧ agD a b A B t d k)
def AG (a b : Nat → Nat) (A B : List R3) (t i k : Nat) : Prop := agD a b A B t (A.length - i) k
theorem AG_o {a b : Nat → Nat} {A B : List R3} {t i k : Nat} (h : A.length ≤ i) : AG a b A B t i k ↔ NX B t k = B.length := by
  unfold AG
  rw [Nat.sub_eq_zero_of_le h]
  exact Iff.rfl
theorem AG_i {a b : Nat → Nat} {A B : List R3} {t i k : Nat} (h : i < A.length) : AG a b A B t i k ↔ ((atL A i).1 = t ∧ NX B t k < B.length ∧ smR a b (atL A i) (atL B (NX B t k)) ∧ AG a b A B t (i + 1) (NX B t k + 1)) ∨ ((atL A i).1 ≠ t ∧ AG a b A B t (i + 1) k) := by
  obtain ⟨d, hd⟩ : ∃ d, A.length - i = d + 1 := ⟨A.length - i - 1, by omega⟩
  have e2 : A.length - (d + 1) = i := by omega
  have e3 : A.length - (i + 1) = d := by omega
  unfold AG
  rw [hd, e3]
  show (((atL A (A.length - (d + 1))).1 = t ∧ NX B t k < B.length ∧ smR a b (atL A (A.length - (d + 1))) (atL B (NX B t k)) ∧ agD a b A B t d (NX B t k + 1)) ∨ ((atL A (A.length - (d + 1))).1 ≠ t ∧ agD a b A B t d k)) ↔ _
  rw [e2]
theorem AG_y {a b : Nat → Nat} {A B : List R3} {t i k : Nat} (h : i < A.length) (e : (atL A i).1 = t) : AG a b A B t i k ↔ (NX B t k < B.length ∧ smR a b (atL A i) (atL B (NX B t k)) ∧ AG a b A B t (i + 1) (NX B t k + 1)) := by
  rw [AG_i h]
  exact ⟨fun q => q.elim (fun z => z.2) (fun z => absurd e z.1), fun q => Or.inl ⟨e, q⟩⟩
theorem AG_n {a b : Nat → Nat} {A B : List R3} {t i k : Nat} (h : i < A.length) (e : (atL A i).1 ≠ t) : AG a b A B t i k ↔ AG a b A B t (i + 1) k := by
  rw [AG_i h]
  exact ⟨fun q => q.elim (fun z => absurd z.1 e) (fun z => z.2), fun q => Or.inr ⟨e, q⟩⟩
/-- a reading with its bytes -/
def rIn (K : fh_K) (M : fh_M) (r : Nat) (L : List R3) (a : Nat → Nat) (S : Nat) : Prop := rS K M r ∧ rRec M r L ∧ L.length ≤ 29 ∧ S ≤ 60 ∧ (∀ k, a k < 256) ∧ (∀ q, q ∈ L → q.1 < 12 ∧ 2 ≤ q.2.1 ∧ q.2.1 + q.2.2 ≤ S) ∧ (L ≠ [] → ∃ ab, M.2.2 r 3 = some ab ∧ K ab = (13, S) ∧ ∀ k, k < S → M.1 ab k = nI (a k))
theorem rIn_at {K : fh_K} {M : fh_M} {r : Nat} {L : List R3} {a : Nat → Nat} {S i : Nat} (h : rIn K M r L a S) (hi : i < L.length) : M.1 (r + 1) i = nI (atL L i).1 ∧ M.1 (r + 2) i = nI (atL L i).2.2 ∧ M.1 (r + 3) i = nI (atL L i).2.1 ∧ (atL L i).1 < 12 ∧ (atL L i).2.1 + (atL L i).2.2 ≤ S ∧ S ≤ 60 := by
  obtain ⟨h1, h2, h3, h4, h5, h6, h7⟩ := h
  obtain ⟨g1, g2, g3⟩ := h2.2.2 i hi
  obtain ⟨q1, q2, q3⟩ := h6 _ (atL_mem hi)
  rw [← atL_eq hi] at g1 g2 g3
  exact ⟨g1, g2, g3, q1, q3, h4⟩
theorem c_nextL {K : fh_K} {M : fh_M} {r : Nat} {L : List R3} {a : Nat → Nat} {S t : Nat} (h : rIn K M r L a S) (ht : t < 12) : ∀ n i, L.length - i < n → i ≤ 30 → f_X4_nextWith_L2 K M n r (nI t) (nI i) = some (nI (NX L t i)) := by
  intro n
  induction n with
  | zero => intro i q; exact absurd q (Nat.not_lt_zero _)
  | succ n ih =>
    intro i hn hi
    have hl := h.2.2.1
    unfold f_X4_nextWith_L2 f_X4_nextWith_J28
    rw [ro h.1, h.2.1.1]
    by_cases hlt : i < L.length
    · obtain ⟨g1, g2, g3, g4, g5, -⟩ := rIn_at h hlt
      rw [if_neg (nI_ge hlt (by omega)), h.1.2.1, fi_ok h.1.2.2.2.2.1 rfl (by omega) (by omega), cl_n (by omega), g1]
      by_cases e : (atL L i).1 = t
      · rw [if_pos (by rw [e]), NX_y hlt e]
      · rw [if_neg (fun q => e (n_inj (by omega) (by omega) q)), NX_n hlt e, nI_1]
        exact ih (i + 1) (by omega) (by omega)
    · rw [if_pos (nI_le (by omega) (by omega)), NX_o (by omega), ro h.1, h.2.1.1]
theorem c_next {K : fh_K} {M : fh_M} {r : Nat} {L : List R3} {a : Nat → Nat} {S t : Nat} (h : rIn K M r L a S) (ht : t < 12) {i : Nat} (hi : i ≤ 30) : f_X4_nextWith K M r (nI t) (nI i) = some (nI (NX L t i)) := by
  have := h.2.2.1
  exact c_nextL h ht 4096 i (by omega) hi
theorem c_sameL {K : fh_K} {M : fh_M} {r r' : Nat} {A B : List R3} {a b : Nat → Nat} {S S' : Nat} (h : rIn K M r A a S) (h' : rIn K M r' B b S') {i k : Nat} (hi : i < A.length) (hk : k < B.length) (he : (atL A i).2.2 = (atL B k).2.2) :
    ∀ n z, (atL A i).2.2 - z < n → z ≤ (atL A i).2.2 → (∀ j, j < z → a ((atL A i).2.1 + j) = b ((atL B k).2.1 + j)) → ∃ v, f_X4_sameRecord_L20 K M n r (nI i) (some r') (nI k) (nI z) = some v ∧ ((smR a b (atL A i) (atL B k) ∧ v = 1) ∨ (¬ smR a b (atL A i) (atL B k) ∧ v = 0)) := by
  intro n
  induction n with
  | zero => intro z q; exact absurd q (Nat.not_lt_zero _)
  | succ n ih =>
    intro z hn hz hall
    have hl := h.2.2.1
    have hl' := h'.2.2.1
    obtain ⟨g1, g2, g3, g4, g5, g6⟩ := rIn_at h hi
    obtain ⟨d1, d2, d3, d4, d5, d6⟩ := rIn_at h' hk
    obtain ⟨ab, e1, e2, e3⟩ := h.2.2.2.2.2.2 (fun q => by rw [q] at hi; exact absurd hi (Nat.not_lt_zero _))
    obtain ⟨ab', e1', e2', e3'⟩ := h'.2.2.2.2.2.2 (fun q => by rw [q] at hk; exact absurd hk (Nat.not_lt_zero _))
    unfold f_X4_sameRecord_L20
    rw [ro h.1, h.1.2.2.1, fi_ok h.1.2.2.2.2.2.1 rfl (by omega) (by omega), cl_n (by omega), g2]
    by_cases hlt : z < (atL A i).2.2
    · rw [if_neg (nI_ge hlt (by omega)), h.1.2.2.2.1, fi_ok h.1.2.2.2.2.2.2 rfl (by omega) (by omega), g3, nI_add, e1, fi_ok e2 rfl (by omega) (by omega), ro h'.1, h'.1.2.2.2.1, fi_ok h'.1.2.2.2.2.2.2 rfl (by omega) (by omega), cl_n (n := k) (by omega), d3, nI_add, e1', fi_ok e2' rfl (by omega) (by omega), cl_n (by omega), cl_n (by omega), e3 _ (by omega), e3' _ (by omega)]
      have b1 := h.2.2.2.2.1 ((atL A i).2.1 + z)
      have b2 := h'.2.2.2.2.1 ((atL B k).2.1 + z)
      by_cases e : a ((atL A i).2.1 + z) = b ((atL B k).2.1 + z)
      · rw [if_pos (by rw [e]), nI_1]
        exact ih (z + 1) (by omega) (by omega) (fun j hj => by
          by_cases q : j = z
          · rw [q]; exact e
          · exact hall j (by omega))
      · rw [if_neg (fun q => e (n_inj (by omega) (by omega) q))]
        exact ⟨0, rfl, Or.inr ⟨fun q => e (q.2 z hlt), rfl⟩⟩
    · rw [if_pos (nI_le (by omega) (by omega))]
      exact ⟨1, rfl, Or.inl ⟨⟨he, fun j hj => hall j (by omega)⟩, rfl⟩⟩
theorem c_same {K : fh_K} {M : fh_M} {r r' : Nat} {A B : List R3} {a b : Nat → Nat} {S S' : Nat} (h : rIn K M r A a S) (h' : rIn K M r' B b S') {i k : Nat} (hi : i < A.length) (hk : k < B.length) :
    ∃ v, f_X4_sameRecord K M r (nI i) (some r') (nI k) = some v ∧ ((smR a b (atL A i) (atL B k) ∧ v = 1) ∨ (¬ smR a b (atL A i) (atL B k) ∧ v = 0)) := by
  have hl := h.2.2.1
  have hl' := h'.2.2.1
  obtain ⟨g1, g2, g3, g4, g5, g6⟩ := rIn_at h hi
  obtain ⟨d1, d2, d3, d4, d5, d6⟩ := rIn_at h' hk
  unfold f_X4_sameRecord
  rw [ro h.1, h.1.2.2.1, fi_ok h.1.2.2.2.2.2.1 rfl (by omega) (by omega), ro h'.1, h'.1.2.2.1, fi_ok h'.1.2.2.2.2.2.1 rfl (by omega) (by omega), cl_n (by omega), cl_n (by omega), g2, d2]
  by_cases e : (atL A i).2.2 = (atL B k).2.2
  · rw [if_pos (by rw [e])]
    exact c_sameL h h' hi hk e 4096 0 (by omega) (by omega) (fun j hj => absurd hj (Nat.not_lt_zero _))
  · rw [if_neg (fun q => e (n_inj (by omega) (by omega) q))]
    exact ⟨0, rfl, Or.inr ⟨fun q => e q.1, rfl⟩⟩
theorem c_agreesL {K : fh_K} {M : fh_M} {r r' : Nat} {A B : List R3} {a b : Nat → Nat} {S S' t : Nat} (h : rIn K M r A a S) (h' : rIn K M r' B b S') (ht : t < 12) :
    ∀ n d i k, A.length - i = d → d < n → i ≤ A.length → k ≤ 30 → ∃ v, f_X4_agrees_L10 K M n r (some r') (nI t) (nI (NX B t k)) (nI i) = some v ∧ ((AG a b A B t i k ∧ v = 1) ∨ (¬ AG a b A B t i k ∧ v = 0)) := by
  have hl := h.2.2.1
  have hl' := h'.2.2.1
  intro n d
  induction d generalizing n with
  | zero =>
    intro i k hd hn hi hk
    obtain ⟨n, rfl⟩ : ∃ m, n = m + 1 := ⟨n - 1, by omega⟩
    have hB := NX_le B t _ k rfl
    unfold f_X4_agrees_L10 f_X4_agrees_J66
    rw [ro h.1, h.2.1.1, if_pos (nI_le (by omega) (by omega)), ro h'.1, h'.2.1.1]
    by_cases e : NX B t k < B.length
    · rw [if_pos (nI_lt e (by omega))]
      exact ⟨0, rfl, Or.inr ⟨fun q => by rw [AG_o (by omega)] at q; omega, rfl⟩⟩
    · rw [if_neg (nI_nlt (by omega) (by omega))]
      exact ⟨1, rfl, Or.inl ⟨(AG_o (by omega)).mpr (by omega), rfl⟩⟩
  | succ d ih =>
    intro i k hd hn hi' hk
    have hB := NX_le B t _ k rfl
    have hi : i < A.length := by omega
    obtain ⟨g1, -, -, g4, -, -⟩ := rIn_at h hi
    obtain ⟨n, rfl⟩ : ∃ m, n = m + 1 := ⟨n - 1, by omega⟩
    unfold f_X4_agrees_L10
    rw [ro h.1, h.2.1.1, if_neg (nI_ge hi (by omega)), h.1.2.1, fi_ok h.1.2.2.2.2.1 rfl (by omega) (by omega), cl_n (by omega), g1]
    by_cases e : (atL A i).1 = t
    · rw [if_pos (by rw [e]), ro h'.1, h'.2.1.1]
      by_cases hlt : NX B t k < B.length
      · rw [if_neg (nI_ge hlt (by omega))]
        obtain ⟨v, q1, q2⟩ := c_same h h' hi hlt
        rw [q1]
        simp only [Option.bind_some]
        rcases q2 with ⟨q2, rfl⟩ | ⟨q2, rfl⟩
        · rw [if_neg (show ¬ (1 : Int32) = 0 by decide), nI_1, c_next h' ht (by omega)]
          simp only [Option.bind_some]
          unfold f_X4_agrees_J60
          rw [nI_1]
          obtain ⟨v, z1, z2⟩ := ih n (i + 1) (NX B t k + 1) (by omega) (by omega) (by omega) (by omega)
          refine ⟨v, z1, ?_⟩
          rw [AG_y hi e]
          rcases z2 with ⟨z2, z3⟩ | ⟨z2, z3⟩
          · exact Or.inl ⟨⟨hlt, q2, z2⟩, z3⟩
          · exact Or.inr ⟨fun q => z2 q.2.2, z3⟩
        · rw [if_pos rfl]
          exact ⟨0, rfl, Or.inr ⟨fun q => q2 ((AG_y hi e).mp q).2.1, rfl⟩⟩
      · rw [if_pos (nI_le (by omega) (by omega))]
        exact ⟨0, rfl, Or.inr ⟨fun q => hlt ((AG_y hi e).mp q).1, rfl⟩⟩
    · rw [if_neg (fun q => e (n_inj (by omega) (by omega) q))]
      unfold f_X4_agrees_J60
      rw [nI_1]
      obtain ⟨v, z1, z2⟩ := ih n (i + 1) k (by omega) (by omega) (by omega) hk
      refine ⟨v, z1, ?_⟩
      rw [AG_n hi e]
      exact z2
theorem c_agrees {K : fh_K} {M : fh_M} {r r' : Nat} {A B : List R3} {a b : Nat → Nat} {S S' t : Nat} (h : rIn K M r A a S) (h' : rIn K M r' B b S') (ht : t < 12) :
    ∃ v, f_X4_agrees K M r (some r') (nI t) = some v ∧ ((AG a b A B t 0 0 ∧ v = 1) ∨ (¬ AG a b A B t 0 0 ∧ v = 0)) := by
  have hl := h.2.2.1
  unfold f_X4_agrees
  rw [ro h'.1, n_0, c_next h' ht (by omega)]
  simp only [Option.bind_some]
  exact c_agreesL h h' ht 4096 _ 0 0 rfl (by omega) (by omega) (by omega)
/-- the model's two rows of records -/
def wIn (K : fh_K) (M : fh_M) (y : Nat) (A B : List R3) (f g : Nat) (a b : Nat → Nat) (S S' : Nat) : Prop := mS K M y ∧ mRec M y B ∧ (M.1 y 30 = nI A.length ∧ ∀ i, i < A.length → M.1 (y + 23) i = nI (atL A i).1 ∧ M.1 (y + 24) i = nI (atL A i).2.1 ∧ M.1 (y + 25) i = nI (atL A i).2.2) ∧ (A.length ≤ 29 ∧ B.length ≤ 29 ∧ S ≤ 60 ∧ S' ≤ 60 ∧ f < 40 ∧ g < 40) ∧ (∀ k, a k < 256 ∧ b k < 256) ∧ (∀ q, q ∈ A → q.1 < 12 ∧ 2 ≤ q.2.1 ∧ q.2.1 + q.2.2 ≤ S) ∧ (∀ q, q ∈ B → q.1 < 12 ∧ 2 ≤ q.2.1 ∧ q.2.1 + q.2.2 ≤ S') ∧ (∀ k, k < S → M.1 (y + 7) (60 * f + k) = nI (a k)) ∧ ∀ k, k < S' → M.1 (y + 7) (60 * g + k) = nI (b k)
theorem wIn_B {K : fh_K} {M : fh_M} {y : Nat} {A B : List R3} {f g : Nat} {a b : Nat → Nat} {S S' k : Nat} (h : wIn K M y A B f g a b S S') (hk : k < B.length) : M.1 (y + 20) k = nI (atL B k).1 ∧ M.1 (y + 21) k = nI (atL B k).2.1 ∧ M.1 (y + 22) k = nI (atL B k).2.2 ∧ (atL B k).1 < 12 ∧ (atL B k).2.1 + (atL B k).2.2 ≤ S' := by
  obtain ⟨h1, h2, h3, h4, h5, h6, h7, -⟩ := h
  obtain ⟨g1, g2, g3⟩ := h2.2 k hk
  obtain ⟨q1, q2, q3⟩ := h7 _ (atL_mem hk)
  rw [← atL_eq hk] at g1 g2 g3
  exact ⟨g1, g2, g3, q1, q3⟩
theorem m_alikeL {K : fh_K} {M : fh_M} {y : Nat} {A B : List R3} {f g : Nat} {a b : Nat → Nat} {S S' : Nat} (h : wIn K M y A B f g a b S S') {i k : Nat} (hi : i < A.length) (hk : k < B.length) (he : (atL A i).2.2 = (atL B k).2.2) :
    ∀ n z, (atL A i).2.2 - z < n → z ≤ (atL A i).2.2 → (∀ j, j < z → a ((atL A i).2.1 + j) = b ((atL B k).2.1 + j)) → ∃ v, f_X11_areAlike_L21 K M n y (nI f) (nI i) (nI g) (nI k) (nI z) = some v ∧ ((smR a b (atL A i) (atL B k) ∧ v = 1) ∨ (¬ smR a b (atL A i) (atL B k) ∧ v = 0)) := by
  obtain ⟨hS, -, h3, h4, h5, h6, h7, h8, h9⟩ := id h
  obtain ⟨d1, d2, d3, d4, d5⟩ := wIn_B h hk
  obtain ⟨g1, g2, g3⟩ := h3.2 i hi
  obtain ⟨q1, q2, q3⟩ := h6 _ (atL_mem hi)
  intro n
  induction n with
  | zero => intro z q; exact absurd q (Nat.not_lt_zero _)
  | succ n ih =>
    intro z hn hz hall
    unfold f_X11_areAlike_L21
    rw [mo hS, mi29 hS rfl (by omega), cl_n (by omega), d3]
    by_cases hlt : z < (atL A i).2.2
    · rw [if_neg (nI_ge (by omega) (by omega)), mi32 hS rfl (by omega), cl_n (by omega), g2, nI_add, m_byteAt hS (by omega) (by omega) (h8 _ (by omega))]
      simp only [Option.bind_some]
      rw [mi28 hS rfl (by omega), d2, nI_add, m_byteAt hS (by omega) (by omega) (h9 _ (by omega))]
      simp only [Option.bind_some]
      have b1 := (h5 ((atL A i).2.1 + z)).1
      have b2 := (h5 ((atL B k).2.1 + z)).2
      by_cases e : a ((atL A i).2.1 + z) = b ((atL B k).2.1 + z)
      · rw [if_pos (by rw [e]), nI_1]
        exact ih (z + 1) (by omega) (by omega) (fun j hj => by
          by_cases q : j = z
          · rw [q]; exact e
          · exact hall j (by omega))
      · rw [if_neg (fun q => e (n_inj (by omega) (by omega) q))]
        exact ⟨0, rfl, Or.inr ⟨fun q => e (q.2 z hlt), rfl⟩⟩
    · rw [if_pos (nI_le (by omega) (by omega))]
      exact ⟨1, rfl, Or.inl ⟨⟨he, fun j hj => hall j (by omega)⟩, rfl⟩⟩
theorem m_alike {K : fh_K} {M : fh_M} {y : Nat} {A B : List R3} {f g : Nat} {a b : Nat → Nat} {S S' : Nat} (h : wIn K M y A B f g a b S S') {i k : Nat} (hi : i < A.length) (hk : k < B.length) :
    ∃ v, f_X11_areAlike K M y (nI f) (nI i) (nI g) (nI k) = some v ∧ ((smR a b (atL A i) (atL B k) ∧ v = 1) ∨ (¬ smR a b (atL A i) (atL B k) ∧ v = 0)) := by
  obtain ⟨hS, -, h3, h4, h5, h6, h7, h8, h9⟩ := id h
  obtain ⟨d1, d2, d3, d4, d5⟩ := wIn_B h hk
  obtain ⟨g1, g2, g3⟩ := h3.2 i hi
  obtain ⟨q1, q2, q3⟩ := h6 _ (atL_mem hi)
  unfold f_X11_areAlike
  rw [mo hS, mi33 hS rfl (by omega), mi29 hS rfl (by omega), cl_n (by omega), cl_n (by omega), g3, d3]
  by_cases e : (atL A i).2.2 = (atL B k).2.2
  · rw [if_pos (by rw [e])]
    exact m_alikeL h hi hk e 4096 0 (by omega) (by omega) (fun j hj => absurd hj (Nat.not_lt_zero _))
  · rw [if_neg (fun q => e (n_inj (by omega) (by omega) q))]
    exact ⟨0, rfl, Or.inr ⟨fun q => e q.1, rfl⟩⟩
theorem m_keptL94 {K : fh_K} {M : fh_M} {y : Nat} {A B : List R3} {f g : Nat} {a b : Nat → Nat} {S S' t m : Nat} (h : wIn K M y A B f g a b S S') (ht : t < 12) (hm : m ≤ 40) :
    ∀ n k, B.length - k < n → k ≤ B.length → f_X11_isKept_L94 K M n y (nI t) (nI k) (nI m) = some (if 0 < m ∧ NX B t k = B.length then 1 else 0) := by
  obtain ⟨hS, hR, -, h4, -⟩ := id h
  intro n
  induction n with
  | zero => intro k q; exact absurd q (Nat.not_lt_zero _)
  | succ n ih =>
    intro k hn hk
    have fin : ∀ k, k ≤ B.length → NX B t k = k → f_X11_isKept_J120 K M y (nI k) (nI m) = some (if 0 < m ∧ NX B t k = B.length then 1 else 0) := by
      intro k hk e
      unfold f_X11_isKept_J120
      by_cases h0 : 0 < m
      · rw [if_neg (nI_nle h0 (by omega)), mo hS, hR.1, e]
        by_cases q : k = B.length
        · rw [if_pos (by rw [q]), if_pos ⟨h0, q⟩]
        · rw [if_neg (fun z => q (n_inj (by omega) (by omega) z)), if_neg (fun z => q z.2)]
      · rw [if_pos (by rw [n_0]; exact nI_le (by omega) (by omega)), if_neg (fun z => h0 z.1)]
    unfold f_X11_isKept_L94
    rw [mo hS, hR.1]
    by_cases hlt : k < B.length
    · obtain ⟨d1, d2, d3, d4, d5⟩ := wIn_B h hlt
      rw [if_neg (nI_ge hlt (by omega)), mi27 hS rfl (by omega), cl_n (by omega), d1]
      by_cases e : (atL B k).1 = t
      · rw [if_pos (by rw [e])]
        exact fin k hk (NX_y hlt e)
      · rw [if_neg (fun q => e (n_inj (by omega) (by omega) q)), NX_n hlt e, nI_1]
        exact ih (k + 1) (by omega) (by omega)
    · rw [if_pos (nI_le (by omega) (by omega))]
      exact fin k hk (by rw [NX_o (by omega)]; omega)
theorem m_keptL32 {K : fh_K} {M : fh_M} {y : Nat} {A B : List R3} {f g : Nat} {a b : Nat → Nat} {S S' t : Nat} (h : wIn K M y A B f g a b S S') (ht : t < 12) (v1 v2 v5 v6 : Int32) (rec9 : Nat → Int32 → Int32 → Int32 → Int32 → Int32 → Int32 → Option (Int32)) :
    ∀ n k, B.length - k < n → k ≤ B.length → f_X11_isKept_L32 K M rec9 n y v1 v2 (nI t) (nI k) v5 v6 = f_X11_isKept_J58 K M rec9 y v1 v2 (nI t) (nI (NX B t k)) v5 v6 := by
  obtain ⟨hS, hR, -, h4, -⟩ := id h
  intro n
  induction n with
  | zero => intro k q; exact absurd q (Nat.not_lt_zero _)
  | succ n ih =>
    intro k hn hk
    unfold f_X11_isKept_L32
    rw [mo hS, hR.1]
    by_cases hlt : k < B.length
    · obtain ⟨d1, d2, d3, d4, d5⟩ := wIn_B h hlt
      rw [if_neg (nI_ge hlt (by omega)), mi27 hS rfl (by omega), cl_n (by omega), d1]
      by_cases e : (atL B k).1 = t
      · rw [if_pos (by rw [e]), NX_y hlt e]
      · rw [if_neg (fun q => e (n_inj (by omega) (by omega) q)), NX_n hlt e, nI_1]
        exact ih (k + 1) (by omega) (by omega)
    · rw [if_pos (nI_le (by omega) (by omega)), NX_o (by omega)]
      rw [show k = B.length by omega]
def hasT (A : List R3) (t i : Nat) : Prop := ∃ j, i ≤ j ∧ j < A.length ∧ (atL A j).1 = t
theorem m_keptL9 {K : fh_K} {M : fh_M} {y : Nat} {A B : List R3} {f g : Nat} {a b : Nat → Nat} {S S' t : Nat} (h : wIn K M y A B f g a b S S') (ht : t < 12) :
    ∀ n i k m, A.length - i < n → i ≤ A.length → k ≤ B.length → m ≤ i → ∃ v, f_X11_isKept_L9 K M n y (nI f) (nI g) (nI t) (nI k) (nI m) (nI i) = some v ∧ (((AG a b A B t i k ∧ (0 < m ∨ hasT A t i)) ∧ v = 1) ∨ (¬ (AG a b A B t i k ∧ (0 < m ∨ hasT A t i)) ∧ v = 0)) := by
  obtain ⟨hS, hR, h3, h4, h5, h6, -⟩ := id h
  intro n
  induction n with
  | zero => intro i k m q; exact absurd q (Nat.not_lt_zero _)
  | succ n ih =>
    intro i k m hn hi hk hm
    have hB := NX_le B t _ k rfl
    unfold f_X11_isKept_L9
    rw [mo hS, h3.1]
    by_cases hlt : i < A.length
    · obtain ⟨g1, g2, g3⟩ := h3.2 i hlt
      obtain ⟨q1, q2, q3⟩ := h6 _ (atL_mem hlt)
      rw [if_neg (nI_ge hlt (by omega)), mi31 hS rfl (by omega), cl_n (by omega), g1]
      by_cases e : (atL A i).1 = t
      · rw [if_pos (by rw [e]), m_keptL32 h ht _ _ _ _ _ 4096 k (by omega) hk]
        unfold f_X11_isKept_J58 f_X11_isKept_J88
        rw [mo hS, hR.1]
        by_cases hl : NX B t k < B.length
        · rw [if_neg (fun q => by have := n_inj (by omega) (by omega) q; omega)]
          obtain ⟨v, z1, z2⟩ := m_alike h hlt hl
          rw [z1]
          simp only [Option.bind_some]
          rcases z2 with ⟨z2, rfl⟩ | ⟨z2, rfl⟩
          · rw [if_neg (show ¬ (1 : Int32) = 0 by decide), nI_1, nI_1, nI_1]
            obtain ⟨v, y1, y2⟩ := ih (i + 1) (NX B t k + 1) (m + 1) (by omega) (by omega) (by omega) (by omega)
            refine ⟨v, y1, ?_⟩
            rw [AG_y hlt e]
            rcases y2 with ⟨y2, y3⟩ | ⟨y2, y3⟩
            · exact Or.inl ⟨⟨⟨hl, z2, y2.1⟩, Or.inr ⟨i, Nat.le_refl _, hlt, e⟩⟩, y3⟩
            · exact Or.inr ⟨fun q => y2 ⟨q.1.2.2, Or.inl (by omega)⟩, y3⟩
          · rw [if_pos rfl]
            exact ⟨0, rfl, Or.inr ⟨fun q => z2 ((AG_y hlt e).mp q.1).2.1, rfl⟩⟩
        · rw [if_pos (by rw [show NX B t k = B.length by omega])]
          exact ⟨0, rfl, Or.inr ⟨fun q => hl ((AG_y hlt e).mp q.1).1, rfl⟩⟩
      · rw [if_neg (fun q => e (n_inj (by omega) (by omega) q))]
        unfold f_X11_isKept_J88
        rw [nI_1]
        obtain ⟨v, y1, y2⟩ := ih (i + 1) k m (by omega) (by omega) hk (by omega)
        refine ⟨v, y1, ?_⟩
        have hh : hasT A t (i + 1) ↔ hasT A t i := ⟨fun ⟨j, a, b, c⟩ => ⟨j, by omega, b, c⟩, fun ⟨j, a, b, c⟩ => ⟨j, by
          have : j ≠ i := fun z => e (by rw [← z]; exact c)
          omega, b, c⟩⟩
        rw [AG_n hlt e, ← hh]
        exact y2
    · rw [if_pos (nI_le (by omega) (by omega)), m_keptL94 h ht (by omega) 4096 k (by omega) hk, AG_o (by omega)]
      refine ⟨_, rfl, ?_⟩
      by_cases q : 0 < m ∧ NX B t k = B.length
      · rw [if_pos q]; exact Or.inl ⟨⟨q.2, Or.inl q.1⟩, rfl⟩
      · rw [if_neg q]; exact Or.inr ⟨fun z => q ⟨z.2.elim id (fun ⟨j, z1, z2, _⟩ => by omega), z.1⟩, rfl⟩
/-- a property is kept -/
def KP (a b : Nat → Nat) (A B : List R3) (t : Nat) : Prop := AG a b A B t 0 0 ∧ hasT A t 0
theorem m_isKept {K : fh_K} {M : fh_M} {y : Nat} {A B : List R3} {f g : Nat} {a b : Nat → Nat} {S S' t : Nat} (h : wIn K M y A B f g a b S S') (ht : t < 12) :
    ∃ v, f_X11_isKept K M y (nI f) (nI g) (nI t) = some v ∧ ((KP a b A B t ∧ v = 1) ∨ (¬ KP a b A B t ∧ v = 0)) := by
  have h4 := h.2.2.2.1
  obtain ⟨v, y1, y2⟩ := m_keptL9 h ht 4096 0 0 0 (by omega) (by omega) (by omega) (by omega)
  refine ⟨v, y1, ?_⟩
  rcases y2 with ⟨y2, y3⟩ | ⟨y2, y3⟩
  · exact Or.inl ⟨⟨y2.1, y2.2.resolve_left (by omega)⟩, y3⟩
  · exact Or.inr ⟨fun q => y2 ⟨q.1, Or.inr q.2⟩, y3⟩
noncomputable def kp (a b : Nat → Nat) (A B : List R3) : Nat → Nat
  | 0 => 0
  | t + 1 => @ite _ (KP a b A B t) (Classical.propDecidable _) (kp a b A B t ||| 2 ^ t) (kp a b A B t)
theorem kp_y {a b : Nat → Nat} {A B : List R3} {t : Nat} (h : KP a b A B t) : kp a b A B (t + 1) = kp a b A B t ||| 2 ^ t := by
  show @ite _ _ (Classical.propDecidable _) _ _ = _
  rw [if_pos h]
theorem kp_n {a b : Nat → Nat} {A B : List R3} {t : Nat} (h : ¬ KP a b A B t) : kp a b A B (t + 1) = kp a b A B t := by
  show @ite _ _ (Classical.propDecidable _) _ _ = _
  rw [if_neg h]
theorem hsF_bit (t : Nat) : ∀ (L : List R3) (h : Nat), (hsF h L).testBit t = true ↔ h.testBit t = true ∨ ∃ q, q ∈ L ∧ q.1 = t := by
  intro L
  induction L with
  | nil => intro h; simp [hsF]
  | cons p L ih =>
    intro h
    have e : hsF h (p :: L) = hsF (h ||| 2 ^ p.1) L := rfl
    rw [e, ih, Nat.testBit_or, Nat.testBit_two_pow]
    simp only [Bool.or_eq_true, decide_eq_true_eq, List.mem_cons]
    constructor
    · rintro ((h1 | h1) | ⟨q, h1, h2⟩)
      · exact Or.inl h1
      · exact Or.inr ⟨p, Or.inl rfl, h1⟩
      · exact Or.inr ⟨q, Or.inr h1, h2⟩
    · rintro (h1 | ⟨q, rfl | h1, h2⟩)
      · exact Or.inl (Or.inl h1)
      · exact Or.inl (Or.inr h2)
      · exact Or.inr ⟨q, h1, h2⟩
theorem hasT_bit {A : List R3} {t : Nat} : (hsF 0 A).testBit t = true ↔ hasT A t 0 := by
  rw [hsF_bit]
  constructor
  · rintro (h | ⟨q, h1, h2⟩)
    · simp at h
    · obtain ⟨j, hj, e⟩ := List.getElem_of_mem h1
      exact ⟨j, Nat.zero_le _, hj, by rw [atL_eq hj, e]; exact h2⟩
  · rintro ⟨j, -, hj, e⟩
    exact Or.inr ⟨atL A j, atL_mem hj, e⟩
theorem hsF_lt {k : Nat} : ∀ (L : List R3) (h : Nat), h < 2 ^ k → (∀ q, q ∈ L → q.1 < k) → hsF h L < 2 ^ k := by
  intro L
  induction L with
  | nil => intro h hh _; exact hh
  | cons p L ih =>
    intro h hh hL
    exact ih _ (Nat.or_lt_two_pow hh (Nat.pow_lt_pow_right (by omega) (hL p (by simp)))) (fun q hq => hL q (by simp [hq]))
