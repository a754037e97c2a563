/-- a turner that may be used, when N must be kept -/
def okT (σ : sT) (N t : Nat) : Prop := ¬ σ 11 (σ 19 t) < σ 0 2 ∧ N &&& (4095 ^^^ carr σ t) = 0
/-- a row of turners from a make to a make -/
def isP (σ : sT) (N : Nat) : Nat → Nat → List Nat → Prop
  | m, g, [] => m = g
  | m, g, t :: p => (t < σ 0 19 ∧ okT σ N t ∧ σ 15 t = m) ∧ isP σ N (σ 16 t) g p
theorem isP_snoc {σ : sT} {N : Nat} : ∀ (p : List Nat) (m g s : Nat), isP σ N m g (p ++ [s]) ↔ isP σ N m (σ 15 s) p ∧ s < σ 0 19 ∧ okT σ N s ∧ σ 16 s = g := by
  intro p
  induction p with
  | nil =>
    intro m g s
    show ((s < σ 0 19 ∧ okT σ N s ∧ σ 15 s = m) ∧ σ 16 s = g) ↔ m = σ 15 s ∧ s < σ 0 19 ∧ okT σ N s ∧ σ 16 s = g
    exact ⟨fun h => ⟨h.1.2.2.symm, h.1.1, h.1.2.1, h.2⟩, fun h => ⟨⟨h.2.1, h.2.2.1, h.1.symm⟩, h.2.2.2⟩⟩
  | cons t p ih =>
    intro m g s
    show ((t < σ 0 19 ∧ okT σ N t ∧ σ 15 t = m) ∧ isP σ N (σ 16 t) g (p ++ [s])) ↔ ((t < σ 0 19 ∧ okT σ N t ∧ σ 15 t = m) ∧ isP σ N (σ 16 t) (σ 15 s) p) ∧ s < σ 0 19 ∧ okT σ N s ∧ σ 16 s = g
    rw [ih]
    exact ⟨fun h => ⟨⟨h.1, h.2.1⟩, h.2.2⟩, fun h => ⟨h.1.1, h.1.2, h.2⟩⟩
theorem snoc_of {p : List Nat} {k : Nat} (h : p.length = k + 1) : ∃ q s, p = q ++ [s] ∧ q.length = k := by
  have hne : p ≠ [] := fun q => by rw [q] at h; cases h
  refine ⟨p.dropLast, p.getLast hne, (List.dropLast_concat_getLast hne).symm, ?_⟩
  rw [List.length_dropLast, h]
  rfl
def pcs (σ : sT) : List Nat → Nat
  | [] => 0
  | t :: p => σ 18 t + pcs σ p
theorem pcs_s (σ : sT) : ∀ (p : List Nat) (s : Nat), pcs σ (p ++ [s]) = pcs σ p + σ 18 s := by
  intro p
  induction p with
  | nil => intro s; simp [pcs]
  | cons t p ih => intro s; show σ 18 t + pcs σ (p ++ [s]) = σ 18 t + pcs σ p + σ 18 s; rw [ih]; omega
def rcs : List Nat → Nat
  | [] => 0
  | t :: p => t * 32 ^ p.length + rcs p
theorem rcs_s : ∀ (p : List Nat) (s : Nat), rcs (p ++ [s]) = rcs p * 32 + s := by
  intro p
  induction p with
  | nil => intro s; simp [rcs]
  | cons t p ih =>
    intro s
    show t * 32 ^ (p ++ [s]).length + rcs (p ++ [s]) = (t * 32 ^ p.length + rcs p) * 32 + s
    rw [ih, List.length_append, show [s].length = 1 from rfl, Nat.pow_succ, Nat.add_mul, Nat.mul_assoc]
    omega
theorem rcs_lt : ∀ (p : List Nat), (∀ t, t ∈ p → t < 32) → rcs p < 32 ^ p.length := by
  intro p
  induction p with
  | nil => intro _; exact Nat.one_pos
  | cons t p ih =>
    intro h
    have h1 := ih (fun s hs => h s (by simp [hs]))
    have h2 := h t (by simp)
    show t * 32 ^ p.length + rcs p < 32 ^ (p.length + 1)
    rw [Nat.pow_succ]
    have h3 : t * 32 ^ p.length ≤ 31 * 32 ^ p.length := Nat.mul_le_mul_right _ (by omega)
    omega
def key (σ : sT) (p : List Nat) : Nat := kN (pcs σ p) p.length (rcs p)
theorem isP_b {σ : sT} {N : Nat} (hV : Val σ) : ∀ (p : List Nat) (m g : Nat), isP σ N m g p → (∀ t, t ∈ p → t < 24) ∧ pcs σ p ≤ 9999 * p.length := by
  have hv := hV.1
  intro p
  induction p with
  | nil => intro m g _; exact ⟨fun t ht => by simp at ht, Nat.zero_le _⟩
  | cons t p ih =>
    intro m g h
    obtain ⟨⟨h1, h2, h3⟩, h4⟩ := h
    obtain ⟨i1, i2⟩ := ih _ _ h4
    have := (hV.2.2.2.2.2.2.2 t h1).2.2.2.2.1
    refine ⟨fun s hs => ?_, ?_⟩
    · rw [List.mem_cons] at hs
      rcases hs with rfl | hs
      · omega
      · exact i1 s hs
    · show σ 18 t + pcs σ p ≤ 9999 * (p.length + 1)
      omega
theorem rcs_20 {p : List Nat} (h : ∀ t, t ∈ p → t < 24) (hk : p.length ≤ 4) : rcs p < 2 ^ 20 := by
  have h1 := rcs_lt p (fun t ht => by have := h t ht; omega)
  have h2 : 32 ^ p.length ≤ 32 ^ 4 := Nat.pow_le_pow_right (by omega) hk
  omega
theorem rcs_15 {p : List Nat} (h : ∀ t, t ∈ p → t < 24) (hk : p.length ≤ 3) : rcs p < 2 ^ 15 := by
  have h1 := rcs_lt p (fun t ht => by have := h t ht; omega)
  have h2 : 32 ^ p.length ≤ 32 ^ 3 := Nat.pow_le_pow_right (by omega) hk
  omega
def INF : Nat := 9223372036854775807
theorem key_lt {σ : sT} {N m g : Nat} {p : List Nat} (hV : Val σ) (h : isP σ N m g p) (hk : p.length ≤ 4) : key σ p < 2 ^ 40 ∧ pcs σ p < 2 ^ 17 ∧ rcs p < 2 ^ 20 := by
  obtain ⟨h1, h2⟩ := isP_b hV p m g h
  have h3 := rcs_20 h1 hk
  exact ⟨kN_lt (by omega) (by omega) h3, by omega, h3⟩
/-- the least number of the rows of just k turners -/
def MK (σ : sT) (N m0 k m v : Nat) : Prop := (∀ p, isP σ N m0 m p → p.length = k → v ≤ key σ p) ∧ (v = INF ∨ ∃ p, isP σ N m0 m p ∧ p.length = k ∧ v = key σ p)
def BK (σ : sT) (N m0 k m v : Nat) : Prop := (∀ p, isP σ N m0 m p → p.length ≤ k → v ≤ key σ p) ∧ (v = INF ∨ ∃ p, isP σ N m0 m p ∧ p.length ≤ k ∧ v = key σ p)
def PK (σ : sT) (N m0 k t m v : Nat) : Prop := (∀ p s, isP σ N m0 (σ 15 s) p → p.length = k → s < t → okT σ N s → σ 16 s = m → v ≤ key σ (p ++ [s])) ∧ (v = INF ∨ ∃ p s, isP σ N m0 (σ 15 s) p ∧ p.length = k ∧ s < t ∧ okT σ N s ∧ σ 16 s = m ∧ v = key σ (p ++ [s]))
theorem PK_0 {σ : sT} {N m0 k m : Nat} : PK σ N m0 k 0 m INF := ⟨fun _ s _ _ q => absurd q (Nat.not_lt_zero _), Or.inl rfl⟩
theorem PK_M {σ : sT} {N m0 k m v : Nat} (h : PK σ N m0 k (σ 0 19) m v) : MK σ N m0 (k + 1) m v := by
  refine ⟨fun p hp hl => ?_, ?_⟩
  · obtain ⟨q, s, rfl, hq⟩ := snoc_of hl
    obtain ⟨h1, h2, h3, h4⟩ := (isP_snoc q m0 m s).mp hp
    exact h.1 q s h1 hq h2 h3 h4
  · rcases h.2 with h2 | ⟨p, s, a1, a2, a3, a4, a5, a6⟩
    · exact Or.inl h2
    · exact Or.inr ⟨p ++ [s], (isP_snoc p m0 m s).mpr ⟨a1, a3, a4, a5⟩, by simp [a2], a6⟩
theorem key_s (σ : sT) (p : List Nat) (s : Nat) : key σ (p ++ [s]) = kN (pcs σ p + σ 18 s) (p.length + 1) (rcs p * 32 + s) := by
  unfold key
  rw [pcs_s, rcs_s, List.length_append]
  rfl
theorem lexB {A C r r' B : Nat} (hr : r < B) (hr' : r' < B) : A * B + r ≤ C * B + r' ↔ A < C ∨ (A = C ∧ r ≤ r') := by
  rcases Nat.lt_trichotomy A C with q | q | q
  · have h : (A + 1) * B ≤ C * B := Nat.mul_le_mul_right _ q
    rw [Nat.add_mul, Nat.one_mul] at h
    constructor
    · intro _; exact Or.inl q
    · intro _; omega
  · subst q
    constructor
    · intro h; exact Or.inr ⟨rfl, by omega⟩
    · intro h; omega
  · have h : (C + 1) * B ≤ A * B := Nat.mul_le_mul_right _ q
    rw [Nat.add_mul, Nat.one_mul] at h
    constructor
    · intro _; omega
    · intro _; omega
theorem kN_le {a b L L' r r' : Nat} (hr : r < 2 ^ 20) (hr' : r' < 2 ^ 20) : kN a L r ≤ kN b L' r' ↔ a * 8 + L < b * 8 + L' ∨ (a * 8 + L = b * 8 + L' ∧ r ≤ r') := lexB hr hr'
theorem kN_mono {a b L r r' c s : Nat} (hr : r < 2 ^ 15) (hr' : r' < 2 ^ 15) (hs : s < 24) (h : kN a L r ≤ kN b L r') : kN (a + c) (L + 1) (r * 32 + s) ≤ kN (b + c) (L + 1) (r' * 32 + s) := by
  rw [kN_le (by omega) (by omega)] at h ⊢
  omega
theorem key_mono {σ : sT} {N m g : Nat} {p q : List Nat} {s : Nat} (hV : Val σ) (hs : s < 24) (hp : isP σ N m g p) (hq : isP σ N m g q) (hl : p.length = q.length) (hk : p.length ≤ 3) (h : key σ p ≤ key σ q) : key σ (p ++ [s]) ≤ key σ (q ++ [s]) := by
  obtain ⟨p1, p2⟩ := isP_b hV p m g hp
  obtain ⟨q1, q2⟩ := isP_b hV q m g hq
  have p3 := rcs_15 p1 hk
  have q3 := rcs_15 q1 (by omega)
  rw [key_s, key_s]
  unfold key at h
  rw [← hl] at h ⊢
  exact kN_mono p3 q3 hs h
/-- one turner more is looked at -/
theorem PK_s {σ : sT} {N m0 k t m v r : Nat} (hV : Val σ) (hk : k ≤ 3) (ht : t < σ 0 19) (h : PK σ N m0 k t m v) (hr : MK σ N m0 k (σ 15 t) r) (hto : σ 16 t = m) (hok : okT σ N t) (hR : r ≠ INF) (w : Nat) (hw : ∀ p, isP σ N m0 (σ 15 t) p → p.length = k → r = key σ p → w = key σ (p ++ [t])) : PK σ N m0 k (t + 1) m (min v w) := by
  have hv := hV.1
  obtain ⟨p0, a1, a2, a3⟩ := hr.2.resolve_left hR
  have hw0 := hw p0 a1 a2 a3
  refine ⟨fun p s hp hl hs ho hm => ?_, ?_⟩
  · by_cases e : s = t
    · subst e
      have h1 := hr.1 p hp hl
      rw [a3] at h1
      have h2 := key_mono (s := s) hV (by omega) a1 hp (by omega) (by omega) h1
      omega
    · have := h.1 p s hp hl (by omega) ho hm
      omega
  · by_cases e : v ≤ w
    · rw [Nat.min_eq_left e]
      rcases h.2 with h2 | ⟨p, s, b1, b2, b3, b4, b5, b6⟩
      · exact Or.inl h2
      · exact Or.inr ⟨p, s, b1, b2, by omega, b4, b5, b6⟩
    · rw [Nat.min_eq_right (by omega)]
      exact Or.inr ⟨p0, t, a1, a2, by omega, hok, hto, hw0⟩
theorem PK_n {σ : sT} {N m0 k t m v r : Nat} (hV : Val σ) (hk : k ≤ 3) (h : PK σ N m0 k t m v) (hr : MK σ N m0 k (σ 15 t) r) (hn : ¬ (σ 16 t = m ∧ okT σ N t ∧ r ≠ INF)) : PK σ N m0 k (t + 1) m v := by
  refine ⟨fun p s hp hl hs ho hm => ?_, ?_⟩
  · by_cases e : s = t
    · subst e
      exfalso
      apply hn
      refine ⟨hm, ho, fun q => ?_⟩
      have h1 := hr.1 p hp hl
      have h2 := (key_lt hV hp (by omega)).1
      rw [q] at h1
      unfold INF at h1
      omega
    · exact h.1 p s hp hl (by omega) ho hm
  · rcases h.2 with h2 | ⟨p, s, b1, b2, b3, b4, b5, b6⟩
    · exact Or.inl h2
    · exact Or.inr ⟨p, s, b1, b2, by omega, b4, b5, b6⟩
theorem BK_s {σ : sT} {N m0 k m v w : Nat} (h : BK σ N m0 k m v) (hw : MK σ N m0 (k + 1) m w) : BK σ N m0 (k + 1) m (min v w) := by
  refine ⟨fun p hp hl => ?_, ?_⟩
  · by_cases e : p.length = k + 1
    · have := hw.1 p hp e; omega
    · have := h.1 p hp (by omega); omega
  · by_cases e : v ≤ w
    · rw [Nat.min_eq_left e]
      rcases h.2 with h2 | ⟨p, b1, b2, b3⟩
      · exact Or.inl h2
      · exact Or.inr ⟨p, b1, by omega, b3⟩
    · rw [Nat.min_eq_right (by omega)]
      rcases hw.2 with h2 | ⟨p, b1, b2, b3⟩
      · exact Or.inl h2
      · exact Or.inr ⟨p, b1, by omega, b3⟩
theorem MK_0 (σ : sT) (N m0 m : Nat) : MK σ N m0 0 m (if m = m0 then 0 else INF) := by
  by_cases h : m = m0
  · rw [if_pos h]
    refine ⟨fun _ _ _ => Nat.zero_le _, Or.inr ⟨[], h.symm, rfl, by unfold key kN pcs rcs; simp⟩⟩
  · rw [if_neg h]
    refine ⟨fun p hp hl => ?_, Or.inl rfl⟩
    have : p = [] := List.length_eq_zero_iff.mp hl
    subst this
    exact absurd (show m0 = m from hp).symm h
theorem BK_0 (σ : sT) (N m0 m : Nat) : BK σ N m0 0 m (if m = m0 then 0 else INF) := by
  have h := MK_0 σ N m0 m
  refine ⟨fun p hp hl => h.1 p hp (by omega), ?_⟩
  rcases h.2 with h2 | ⟨p, b1, b2, b3⟩
  · exact Or.inl h2
  · exact Or.inr ⟨p, b1, by omega, b3⟩
theorem bk_v {σ : sT} {N m0 k m v : Nat} (hV : Val σ) (hk : k ≤ 4) (h : BK σ N m0 k m v) : v ≤ INF := by
  rcases h.2 with h2 | ⟨p, b1, b2, b3⟩
  · omega
  · have := (key_lt hV b1 (by omega)).1
    unfold INF
    omega
theorem mk_v {σ : sT} {N m0 k m v : Nat} (hV : Val σ) (hk : k ≤ 4) (h : MK σ N m0 k m v) : v ≤ INF := by
  rcases h.2 with h2 | ⟨p, b1, b2, b3⟩
  · omega
  · have := (key_lt hV b1 (by omega)).1
    unfold INF
    omega
theorem pk_v {σ : sT} {N m0 k t m v : Nat} (hV : Val σ) (hk : k ≤ 3) (ht : t ≤ σ 0 19) (h : PK σ N m0 k t m v) : v ≤ INF := by
  rcases h.2 with h2 | ⟨p, s, b1, b2, b3, b4, b5, b6⟩
  · omega
  · have := (key_lt hV ((isP_snoc p m0 m s).mpr ⟨b1, by omega, b4, b5⟩) (by simp [b2]; omega)).1
    unfold INF
    omega
theorem lN_inf : (9223372036854775807 : Int64) = lN INF := rfl
theorem lN_minI {a b : Nat} (ha : a ≤ INF) (hb : b ≤ INF) : (if lN b < lN a then lN b else lN a) = lN (min a b) := by
  unfold INF at ha hb
  by_cases h : b < a
  · rw [if_pos ((pk_lLT (by omega) (by omega)).mpr h), Nat.min_eq_right (by omega)]
  · rw [if_neg (fun q => h ((pk_lLT (by omega) (by omega)).mp q)), Nat.min_eq_left (by omega)]
/-- a row of long numbers -/
def rowL (M : fh_M) (a : Nat) (R : Nat → Nat) : Prop := ∀ m, m < 12 → M.2.1 a m = lN (R m)
/-- the roads' rows alone are changed -/
def lE (x : Nat) (M M' : fh_M) : Prop := M'.1 = M.1 ∧ M'.2.2 = M.2.2 ∧ ∀ a k, a ≠ x + 16 → a ≠ x + 17 → a ≠ x + 18 → M'.2.1 a k = M.2.1 a k
theorem lE_rf (x : Nat) (M : fh_M) : lE x M M := ⟨rfl, rfl, fun _ _ _ _ _ => rfl⟩
theorem lE_tr {x : Nat} {M M1 M2 : fh_M} (h : lE x M M1) (h2 : lE x M1 M2) : lE x M M2 := ⟨h2.1.trans h.1, h2.2.1.trans h.2.1, fun a k q1 q2 q3 => (h2.2.2 a k q1 q2 q3).trans (h.2.2 a k q1 q2 q3)⟩
theorem lE_G {x : Nat} {M M1 : fh_M} (h : lE x M M1) : cG x M M1 := ⟨fun a k _ => by rw [h.1], fun a k q => h.2.2 a k (fun z => q (Or.inl z)) (fun z => q (Or.inr (Or.inl z))) (fun z => q (Or.inr (Or.inr z))), fun a k _ => by rw [h.2.1]⟩
theorem lE_sl {x a k : Nat} {M : fh_M} {v : Int64} (h : a = x + 16 ∨ a = x + 17 ∨ a = x + 18) : lE x M (fh_sl M a k v) := ⟨rfl, rfl, fun b j z1 z2 z3 => by rw [fh_sl_21, if_neg (by omega)]⟩
theorem c_fillJL {K : fh_K} {ab N : Nat} {v : Int64} (h : K ab = (16, N)) (hN : N ≤ 4000) (M0 : fh_M) : ∀ n i M, N - i < n → i ≤ N → M.1 = M0.1 → M.2.2 = M0.2.2 → (∀ b k, b ≠ ab → M.2.1 b k = M0.2.1 b k) → (∀ k, k < i → M.2.1 ab k = v) → ∃ M', f_J7_fill_d0a16_L6 K n (some ab) v (nI i) (nI N) M = some M' ∧ M'.1 = M0.1 ∧ M'.2.2 = M0.2.2 ∧ (∀ b k, b ≠ ab → M'.2.1 b k = M0.2.1 b k) ∧ ∀ k, k < N → M'.2.1 ab k = v := by
  intro n
  induction n with
  | zero => intro i M q; exact absurd q (Nat.not_lt_zero _)
  | succ n ih =>
    intro i M hn hi e1 e2 e3 e
    unfold f_J7_fill_d0a16_L6
    by_cases hlt : i < N
    · rw [if_neg (nI_ge hlt (by omega)), fi_ok h rfl hlt (by omega), fb_eq, cl_n (by omega), nI_1]
      refine ih (i + 1) _ (by omega) (by omega) e1 e2 (fun b k z => by rw [fh_sl_21, if_neg (fun q => z q.1)]; exact e3 b k z) (fun k hk => ?_)
      by_cases z : k = i
      · rw [fh_sl_21, if_pos ⟨rfl, z⟩]
      · rw [fh_sl_21, if_neg (fun q => z q.2)]; exact e k (by omega)
    · rw [if_pos (nI_le (by omega) (by omega))]
      exact ⟨M, rfl, e1, e2, e3, fun k hk => e k (by omega)⟩
theorem c_fillJ {K : fh_K} {M : fh_M} {ab N : Nat} (v : Int64) (h : K ab = (16, N)) (hN : N ≤ 4000) : ∃ M', f_J7_fill_d0a16 K M (some ab) v = some M' ∧ M'.1 = M.1 ∧ M'.2.2 = M.2.2 ∧ (∀ b k, b ≠ ab → M'.2.1 b k = M.2.1 b k) ∧ ∀ k, k < N → M'.2.1 ab k = v := by
  unfold f_J7_fill_d0a16
  rw [fa_ok h, h]
  exact c_fillJL h hN M 4096 0 M (by omega) (by omega) rfl rfl (fun _ _ _ => rfl) (fun k hk => absurd hk (Nat.not_lt_zero _))
/-- a road with one turner more, as a number -/
theorem sh_or {a b k : Nat} {y : Int64} (hy : y.toBitVec.smod 64 = BitVec.ofNat 64 k) (hk : k < 64) (hb : b < 2 ^ k) (ha : a < 2 ^ 64) : lN a <<< y ||| lN b = lN (a * 2 ^ k + b) := by
  rw [g_shl hy hk rfl ha, fb_orL, ← Nat.shiftLeft_eq, Nat.shiftLeft_add_eq_or_of_lt hb]
theorem ext_v {p L R t c : Nat} (hp : p < 2 ^ 16) (hL : L ≤ 3) (hR : R < 2 ^ 15) (ht : t < 32) (hc : c ≤ 9999) : (((lN (p + c) <<< ((3 : Int32).toInt64 &&& 63)) ||| lN (L + 1)) <<< ((20 : Int32).toInt64 &&& 63)) ||| ((lN R <<< ((5 : Int32).toInt64 &&& 63)) ||| lN t) = lN (kN (p + c) (L + 1) (R * 32 + t)) := by
  rw [sh_or (k := 3) (by decide) (by omega) (by omega) (by omega), sh_or (k := 5) (by decide) (by omega) (by omega) (by omega), sh_or (k := 20) (by decide) (by omega) (by omega) (by omega)]
  unfold kN
  rw [show (2 : Nat) ^ 3 = 8 from rfl, show (2 : Nat) ^ 5 = 32 from rfl]
theorem ext_r {p L R : Nat} (hR : R < 2 ^ 20) : lN (kN p L R) &&& 1048575 = lN R := by
  rw [show (1048575 : Int64) = lN (2 ^ 20 - 1) from rfl, fb_andL, k_row hR]
theorem X5_ext {K : fh_K} {M : fh_M} {p0 : Int64} {p2 p3 r1 r2 : Int32} (h1 : f_X5_lengthOf K M p0 = some r1) (h2 : f_X5_priceOf K M p0 = some r2) : f_X5_extended K M p0 p2 p3 = some ((((((r2 + p3).toInt64) <<< ((3 : Int32).toInt64 &&& 63)) ||| ((r1 + 1).toInt64)) <<< ((20 : Int32).toInt64 &&& 63)) ||| (((p0 &&& 1048575) <<< ((5 : Int32).toInt64 &&& 63)) ||| (p2.toInt64))) := by
  unfold f_X5_extended
  rw [h1, Option.bind_some, h2, Option.bind_some]
theorem ext_w {q : Int64} {p L R t c : Nat} (hp : p < 2 ^ 16) (hL : L ≤ 3) (hR : R < 2 ^ 15) (ht : t < 32) (hc : c ≤ 9999) (hq : q = lN R) : ((((((nI p + nI c).toInt64) <<< ((3 : Int32).toInt64 &&& 63)) ||| ((nI L + 1).toInt64)) <<< ((20 : Int32).toInt64 &&& 63)) ||| ((q <<< ((5 : Int32).toInt64 &&& 63)) ||| ((nI t).toInt64))) = lN (kN (p + c) (L + 1) (R * 32 + t)) := by
  rw [nI_add, nI_1, nI_l (by omega), nI_l (by omega), nI_l (by omega), hq]
  exact ext_v hp hL hR ht hc
theorem c_ext (K : fh_K) (M : fh_M) {p L R t c : Nat} (hp : p < 2 ^ 16) (hL : L ≤ 3) (hR : R < 2 ^ 15) (ht : t < 32) (hc : c ≤ 9999) : f_X5_extended K M (lN (kN p L R)) (nI t) (nI c) = some (lN (kN (p + c) (L + 1) (R * 32 + t))) :=
  (X5_ext (k_len K M (by omega) (by omega) (by omega)) (k_price K M (by omega) (by omega) (by omega))).trans (congrArg some (ext_w hp hL hR ht hc (ext_r (by omega))))
