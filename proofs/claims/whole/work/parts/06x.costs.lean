theorem and0 {A B : Nat} : A &&& B = 0 ↔ ∀ i, A.testBit i = true → B.testBit i = false := by
  constructor
  · intro h i hi
    have := congrArg (fun n => n.testBit i) h
    rw [Nat.zero_testBit, Nat.testBit_and, hi] at this
    simpa using this
  · intro h
    apply Nat.eq_of_testBit_eq
    intro i
    rw [Nat.zero_testBit, Nat.testBit_and]
    cases hi : A.testBit i with
    | false => rfl
    | true => rw [h i hi]; rfl
theorem tb12 {A i : Nat} (h : A < 4096) (hi : A.testBit i = true) : i < 12 := by
  by_cases z : i < 12
  · exact z
  · have e : A.testBit i = false := Nat.testBit_lt_two_pow (Nat.lt_of_lt_of_le (show A < 2 ^ 12 from h) (Nat.pow_le_pow_right (by omega) (show 12 ≤ i by omega)))
    rw [e] at hi
    cases hi
theorem tbx (d : Nat) {i : Nat} (hi : i < 12) : (4095 ^^^ d).testBit i = !d.testBit i := by
  have e : Nat.testBit 4095 i = true := by
    rw [show (4095 : Nat) = 2 ^ 12 - 1 from rfl, Nat.testBit_two_pow_sub_one]; simpa using hi
  rw [Nat.testBit_xor, e]
  cases d.testBit i <;> rfl
theorem carr0 {N h d : Nat} (hN : N < 4096) : N &&& (4095 ^^^ (h &&& (4095 ^^^ d))) = 0 ↔ N &&& (4095 ^^^ h) = 0 ∧ N &&& d = 0 := by
  rw [and0, and0, and0]
  constructor
  · intro q
    refine ⟨fun i hi => ?_, fun i hi => ?_⟩
    · have hl := tb12 hN hi
      have := q i hi
      rw [tbx _ hl, Nat.testBit_and, tbx _ hl] at this
      rw [tbx _ hl]
      cases h1 : h.testBit i <;> cases h2 : d.testBit i <;> simp [h1, h2] at this ⊢
    · have hl := tb12 hN hi
      have := q i hi
      rw [tbx _ hl, Nat.testBit_and, tbx _ hl] at this
      cases h1 : h.testBit i <;> cases h2 : d.testBit i <;> simp [h1, h2] at this ⊢
  · rintro ⟨q1, q2⟩ i hi
    have hl := tb12 hN hi
    have a := q1 i hi
    have b := q2 i hi
    rw [tbx _ hl] at a
    rw [tbx _ hl, Nat.testBit_and, tbx _ hl]
    cases h1 : h.testBit i <;> cases h2 : d.testBit i <;> simp [h1, h2] at a b ⊢
theorem m_may {K : fh_K} {M : fh_M} {y t N : Nat} {σ : sT} (s2 : mS K M y) (p2 : mP M y σ) (hV : Val σ) (ht : t < σ 0 19) (hN : N < 4096) : (okT σ N t ∧ f_X11_mayTurn K M y (nI t) (nI N) = some 1) ∨ (¬ okT σ N t ∧ f_X11_mayTurn K M y (nI t) (nI N) = some 0) := by
  have hv := hV.1
  obtain ⟨t1, t2, t3, t4, t5, t6⟩ := hV.2.2.2.2.2.2.2 t ht
  obtain ⟨m1, m2, m3, m4, m5⟩ := hV.2.2.1 _ t2
  obtain ⟨l1, l2⟩ := hV.2.2.2.2.2.1 _ t6
  have hc := carr0 (N := N) (h := σ 4 (σ 16 t)) (d := σ 17 t) hN
  unfold f_X11_mayTurn okT carr
  rw [mo s2, mi24 s2 rfl (by omega), cl_n (by omega), mP_a p2 19 t (by omega), mi14 s2 rfl t6, cl_n (by omega), mP_a p2 11 _ (by omega), mP_s p2 2 (by omega)]
  by_cases h1 : σ 11 (σ 19 t) < σ 0 2
  · rw [if_pos (nI_lt h1 (by omega))]
    exact Or.inr ⟨fun q => q.1 h1, rfl⟩
  · rw [if_neg (nI_nlt (by omega) (by omega)), mi21 s2 rfl (by omega), mP_a p2 16 t (by omega), mi6 s2 rfl (by omega), cl_n (by omega), mP_a p2 4 _ (by omega), andn hN]
    have z1 : N &&& (4095 ^^^ σ 4 (σ 16 t)) ≤ N := Nat.and_le_left
    have z2 : N &&& σ 17 t ≤ N := Nat.and_le_left
    by_cases h2 : N &&& (4095 ^^^ σ 4 (σ 16 t)) = 0
    · rw [h2, if_pos nI_0, mi22 s2 rfl (by omega), mP_a p2 17 t (by omega), fa_and]
      by_cases h3 : N &&& σ 17 t = 0
      · rw [h3, if_pos nI_0]
        exact Or.inl ⟨⟨h1, hc.mpr ⟨h2, h3⟩⟩, rfl⟩
      · rw [if_neg (nI_ne0 (by omega) (by omega))]
        exact Or.inr ⟨fun q => h3 (hc.mp q.2).2, rfl⟩
    · rw [if_neg (nI_ne0 (by omega) (by omega))]
      exact Or.inr ⟨fun q => h2 (hc.mp q.2).1, rfl⟩
/-- the least price of the rows of just k turners to g -/
def FAR : Nat := 1000000
def Cst (σ : sT) (N g k m v : Nat) : Prop := (∀ p, isP σ N m g p → p.length = k → v ≤ pcs σ p) ∧ (v = FAR ∨ ∃ p, isP σ N m g p ∧ p.length = k ∧ v = pcs σ p)
def Cs1 (σ : sT) (N g k t m v : Nat) : Prop := (∀ p s, isP σ N (σ 16 s) g p → p.length = k → s < t → okT σ N s → σ 15 s = m → v ≤ pcs σ p + σ 18 s) ∧ (v = FAR ∨ ∃ p s, isP σ N (σ 16 s) g p ∧ p.length = k ∧ s < t ∧ okT σ N s ∧ σ 15 s = m ∧ v = pcs σ p + σ 18 s)
theorem Cs1_0 {σ : sT} {N g k m : Nat} : Cs1 σ N g k 0 m FAR := ⟨fun _ s _ _ q => absurd q (Nat.not_lt_zero _), Or.inl rfl⟩
theorem Cst_0 (σ : sT) (N g m : Nat) : Cst σ N g 0 m (if m = g then 0 else FAR) := by
  by_cases h : m = g
  · rw [if_pos h]
    exact ⟨fun _ _ _ => Nat.zero_le _, Or.inr ⟨[], h, rfl, rfl⟩⟩
  · rw [if_neg h]
    refine ⟨fun p hp hl => ?_, Or.inl rfl⟩
    have : p = [] := List.length_eq_zero_iff.mp hl
    subst this
    exact absurd hp h
theorem Cs1_M {σ : sT} {N g k m v : Nat} (h : Cs1 σ N g k (σ 0 19) m v) : Cst σ N g (k + 1) m v := by
  refine ⟨fun p hp hl => ?_, ?_⟩
  · cases p with
    | nil => cases hl
    | cons s q =>
      obtain ⟨⟨h1, h2, h3⟩, h4⟩ := hp
      have := h.1 q s h4 (by simpa using hl) h1 h2 h3
      show v ≤ σ 18 s + pcs σ q
      omega
  · rcases h.2 with h2 | ⟨p, s, a1, a2, a3, a4, a5, a6⟩
    · exact Or.inl h2
    · exact Or.inr ⟨s :: p, ⟨⟨a3, a4, a5⟩, a1⟩, by simp [a2], by show v = σ 18 s + pcs σ p; omega⟩
theorem cst_v {σ : sT} {N g k m v : Nat} (hV : Val σ) (hk : k ≤ 4) (h : Cst σ N g k m v) : v ≤ FAR ∧ (v ≠ FAR → v ≤ 9999 * k) := by
  rcases h.2 with h2 | ⟨p, b1, b2, b3⟩
  · exact ⟨by omega, fun q => absurd h2 q⟩
  · have := (isP_b hV p _ _ b1).2
    rw [b2] at this
    unfold FAR
    omega
theorem Cs1_n {σ : sT} {N g k t m v w : Nat} (h : Cs1 σ N g k t m v) (hw : Cst σ N g k (σ 16 t) w) (hn : okT σ N t → σ 15 t = m → v ≤ w + σ 18 t) : Cs1 σ N g k (t + 1) m v := by
  refine ⟨fun p s hp hl hs ho hm => ?_, ?_⟩
  · by_cases e : s = t
    · subst e
      have := hw.1 p hp hl
      have := hn ho hm
      omega
    · exact h.1 p s hp hl (by omega) ho hm
  · rcases h.2 with h2 | ⟨p, s, b1, b2, b3, b4, b5, b6⟩
    · exact Or.inl h2
    · exact Or.inr ⟨p, s, b1, b2, by omega, b4, b5, b6⟩
theorem Cs1_y {σ : sT} {N g k t m v w : Nat} (h : Cs1 σ N g k t m v) (hv : v ≤ FAR) (hw : Cst σ N g k (σ 16 t) w) (ho : okT σ N t) (hm : σ 15 t = m) (hl : w + σ 18 t < v) : Cs1 σ N g k (t + 1) m (w + σ 18 t) := by
  refine ⟨fun p s hp hl' hs ho' hm' => ?_, ?_⟩
  · by_cases e : s = t
    · subst e
      have := hw.1 p hp hl'
      omega
    · have := h.1 p s hp hl' (by omega) ho' hm'
      omega
  · rcases hw.2 with h2 | ⟨p, b1, b2, b3⟩
    · omega
    · exact Or.inr ⟨p, t, b1, b2, by omega, ho, hm, by omega⟩
theorem cs1_v {σ : sT} {N g k t m v : Nat} (hV : Val σ) (ht : t ≤ σ 0 19) (hk : k ≤ 4) (h : Cs1 σ N g k t m v) : v ≤ FAR := by
  rcases h.2 with h2 | ⟨p, s, b1, b2, b3, b4, b5, b6⟩
  · omega
  · have := (isP_b hV p _ _ b1).2
    have := (hV.2.2.2.2.2.2.2 s (by omega)).2.2.2.2.1
    rw [b2] at *
    unfold FAR
    omega
/-- the model's prices of the first k rows -/
def don (σ : sT) (N g k : Nat) (M : fh_M) (y : Nat) : Prop := ∀ k', k' < k → ∀ m, m < 12 → ∃ v, M.1 (y + 26) (12 * k' + m) = nI v ∧ Cst σ N g k' m v
theorem n_FAR : (1000000 : Int32) = nI FAR := rfl
theorem i12 (k m : Nat) : (12 : Int32) * nI k + nI m = nI (12 * k + m) := by rw [n_12, pk_mul, nI_add]
/-- only the prices changed -/
def m26 (y : Nat) (M M' : fh_M) : Prop := M'.2 = M.2 ∧ ∀ a k, a ≠ y + 26 → M'.1 a k = M.1 a k
theorem m26_G {y : Nat} {M M' : fh_M} (h : m26 y M M') : mG y M M' := ⟨h.1, fun a k q => h.2 a k (fun z => q (by unfold mZ; omega))⟩
theorem m26_tr {y : Nat} {M M1 M2 : fh_M} (h : m26 y M M1) (h2 : m26 y M1 M2) : m26 y M M2 := ⟨h2.1.trans h.1, fun a k q => (h2.2 a k q).trans (h.2 a k q)⟩
theorem m26_si {y : Nat} {M : fh_M} {k : Nat} {v : Int32} : m26 y M (fh_si M (y + 26) k v) := ⟨rfl, fun a j q => by rw [fh_si_1, if_neg (fun z => q z.1)]⟩
/-- the first of a row -/
theorem m_fill0 {K : fh_K} {y N g k : Nat} {σ : sT} (rec2 : Nat → Int32 → Int32 → Int32 → fh_M → Option fh_M) (hg : g < 12) (hk : k ≤ 4) (M0 : fh_M) (s0 : mS K M0 y) (h0 : don σ N g k M0 y) :
    ∀ n m M, 12 - m < n → m ≤ 12 → m26 y M0 M → don σ N g k M y → (∀ j, j < m → M.1 (y + 26) (12 * k + j) = nI (if k = 0 ∧ j = g then 0 else FAR)) →
      ∃ M1, f_X11_measures_L10 K rec2 n y (nI g) (nI N) (nI k) (nI m) M = f_X11_measures_J51 K rec2 y (nI g) (nI N) (nI k) M1 ∧ m26 y M0 M1 ∧ don σ N g k M1 y ∧ ∀ j, j < 12 → M1.1 (y + 26) (12 * k + j) = nI (if k = 0 ∧ j = g then 0 else FAR) := by
  intro n
  induction n with
  | zero => intro m M q; exact absurd q (Nat.not_lt_zero _)
  | succ n ih =>
    intro m M hn hm hE hd hr
    have s1 := mG_S (m26_G hE) s0
    unfold f_X11_measures_L10
    by_cases hlt : m < 12
    · rw [n_12, if_neg (nI_ge hlt (by omega)), ← n_12, mo s1, i12]
      have nx : ∀ w, w = (if k = 0 ∧ m = g then 0 else FAR) → ∃ M1, f_X11_measures_J44 K rec2 (f_X11_measures_L10 K rec2 n) y (nI g) (nI N) (nI k) (nI m) (nI w) (nI (12 * k + m)) (M.2.2 y 34) M = f_X11_measures_J51 K rec2 y (nI g) (nI N) (nI k) M1 ∧ m26 y M0 M1 ∧ don σ N g k M1 y ∧ ∀ j, j < 12 → M1.1 (y + 26) (12 * k + j) = nI (if k = 0 ∧ j = g then 0 else FAR) := by
        intro w hw
        unfold f_X11_measures_J44
        rw [mi34 s1 rfl (by omega), fb_eq, cl_n (by omega), nI_1]
        refine ih (m + 1) _ (by omega) (by omega) (m26_tr hE m26_si) (fun k' hk' j hj => ?_) (fun j hj => ?_)
        · obtain ⟨v, v1, v2⟩ := hd k' hk' j hj
          exact ⟨v, by rw [fh_si_1, if_neg (by omega)]; exact v1, v2⟩
        · rw [fh_si_1]
          by_cases z : j = m
          · rw [z, if_pos ⟨rfl, rfl⟩, hw]
          · rw [if_neg (by omega)]; exact hr j (by omega)
      by_cases hk0 : k = 0
      · subst hk0
        rw [if_pos nI_0]
        by_cases hmg : m = g
        · subst hmg
          rw [if_pos rfl, n_0]
          exact nx 0 (by rw [if_pos ⟨rfl, rfl⟩])
        · rw [if_neg (fun q => hmg ((nI_eq (by omega) (by omega)).mp q))]
          unfold f_X11_measures_J42
          rw [n_FAR]
          exact nx FAR (by rw [if_neg (fun q => hmg q.2)])
      · rw [if_neg (nI_ne0 (by omega) (by omega))]
        unfold f_X11_measures_J42
        rw [n_FAR]
        exact nx FAR (by rw [if_neg (fun q => hk0 q.1)])
    · rw [n_12, if_pos (nI_le (by omega) (by omega))]
      have : m = 12 := by omega
      subst this
      exact ⟨M, rfl, hE, hd, hr⟩
/-- a row after the turners before t -/
theorem m_relax {K : fh_K} {y N g k : Nat} {σ : sT} (rec2 : Nat → Int32 → Int32 → Int32 → fh_M → Option fh_M) (hV : Val σ) (hN : N < 4096) (hk : k ≤ 3) (M0 : fh_M) (s0 : mS K M0 y) (p0 : mP M0 y σ) :
    ∀ n t M, σ 0 19 - t < n → t ≤ σ 0 19 → m26 y M0 M → don σ N g (k + 1) M y → (∀ m, m < 12 → ∃ v, M.1 (y + 26) (12 * (k + 1) + m) = nI v ∧ Cs1 σ N g k t m v) →
      ∃ M1, f_X11_measures_L54 K rec2 n y (nI g) (nI N) (nI (k + 1)) (nI t) M = rec2 y (nI g) (nI N) (nI (k + 2)) M1 ∧ m26 y M0 M1 ∧ don σ N g (k + 2) M1 y := by
  have hv := hV.1
  intro n
  induction n with
  | zero => intro t M q; exact absurd q (Nat.not_lt_zero _)
  | succ n ih =>
    intro t M hn ht hE hd hr
    have s1 := mG_S (m26_G hE) s0
    have p1 := mG_P (m26_G hE) p0
    unfold f_X11_measures_L54
    rw [mo s1, mP_s p1 19 (by omega)]
    by_cases hlt : t < σ 0 19
    · obtain ⟨t1, t2, t3, t4, t5, t6⟩ := hV.2.2.2.2.2.2.2 t hlt
      obtain ⟨w, w1, w2⟩ := hd k (by omega) (σ 16 t) (by omega)
      obtain ⟨u, u1, u2⟩ := hr (σ 15 t) (by omega)
      have hw := (cst_v hV (by omega) w2).1
      have hu := cs1_v hV (by omega) (by omega) u2
      unfold FAR at hw hu
      rw [if_neg (nI_ge hlt (by omega)), if_neg (by rw [n_0]; exact nI_ge (by omega) (by omega)), mi21 s1 rfl (by omega), cl_n (by omega), mP_a p1 16 t (by omega), n_1, n_m (by omega), Nat.add_sub_cancel, i12, mi34 s1 rfl (by omega), cl_n (by omega), w1, mi23 s1 rfl (by omega), mP_a p1 18 t (by omega)]
      unfold f_X11_measures_J147
      rw [nI_1]
      have skip : (∀ m, m < 12 → m = σ 15 t → ∀ v, M.1 (y + 26) (12 * (k + 1) + m) = nI v → Cs1 σ N g k t m v → Cs1 σ N g k (t + 1) m v) → ∃ M1, f_X11_measures_L54 K rec2 n y (nI g) (nI N) (nI (k + 1)) (nI (t + 1)) M = rec2 y (nI g) (nI N) (nI (k + 2)) M1 ∧ m26 y M0 M1 ∧ don σ N g (k + 2) M1 y := by
        intro q
        refine ih (t + 1) M (by omega) (by omega) hE hd (fun m hm => ?_)
        obtain ⟨v, v1, v2⟩ := hr m hm
        by_cases z : m = σ 15 t
        · exact ⟨v, v1, q m hm z v v1 v2⟩
        · exact ⟨v, v1, Cs1_n v2 w2 (fun _ e => absurd e.symm z)⟩
      rcases m_may s1 p1 hV hlt hN with ⟨o1, o2⟩ | ⟨o1, o2⟩
      · rw [o2, Option.bind_some, if_neg (by decide), mi20 s1 rfl (by omega), mP_a p1 15 t (by omega), i12, mi34 s1 rfl (by omega), cl_n (by omega), u1, nI_add]
        by_cases hle : u ≤ w + σ 18 t
        · rw [if_pos (nI_le hle (by omega))]
          refine skip (fun m hm z v v1 v2 => ?_)
          subst z
          have hvv := cs1_v hV (by omega) (by omega) v2
          unfold FAR at hvv
          have : u = v := n_inj (by omega) (by omega) (u1.symm.trans v1)
          exact Cs1_n v2 w2 (fun _ _ => by omega)
        · rw [if_neg (nI_ge (by omega) (by omega)), fb_eq]
          refine ih (t + 1) _ (by omega) (by omega) (m26_tr hE m26_si) (fun k' hk' j hj => ?_) (fun m hm => ?_)
          · obtain ⟨v, v1, v2⟩ := hd k' hk' j hj
            exact ⟨v, by rw [fh_si_1, if_neg (by omega)]; exact v1, v2⟩
          · by_cases z : m = σ 15 t
            · rw [z]
              exact ⟨_, by rw [fh_si_1, if_pos ⟨rfl, rfl⟩], Cs1_y u2 (by unfold FAR; omega) w2 o1 rfl (by omega)⟩
            · obtain ⟨v, v1, v2⟩ := hr m hm
              exact ⟨v, by rw [fh_si_1, if_neg (by omega)]; exact v1, Cs1_n v2 w2 (fun _ e => absurd e.symm z)⟩
      · rw [o2, Option.bind_some, if_pos rfl]
        exact skip (fun m hm z v v1 v2 => Cs1_n v2 w2 (fun o _ => absurd o o1))
    · rw [if_pos (nI_le (by omega) (by omega))]
      have : t = σ 0 19 := by omega
      subst this
      unfold f_X11_measures_J153
      rw [nI_1]
      refine ⟨M, rfl, hE, fun k' hk' m hm => ?_⟩
      by_cases z : k' = k + 1
      · rw [z]
        obtain ⟨v, v1, v2⟩ := hr m hm
        exact ⟨v, v1, Cs1_M v2⟩
      · exact hd k' (by omega) m hm
theorem m_measL {K : fh_K} {y N g : Nat} {σ : sT} (hV : Val σ) (hN : N < 4096) (hg : g < 12) (M0 : fh_M) (s0 : mS K M0 y) (p0 : mP M0 y σ) :
    ∀ n k M, 5 - k < n → k ≤ 5 → m26 y M0 M → don σ N g k M y → ∃ M1, f_X11_measures_L2 K n y (nI g) (nI N) (nI k) M = some M1 ∧ m26 y M0 M1 ∧ don σ N g 5 M1 y := by
  have hv := hV.1
  intro n
  induction n with
  | zero => intro k M q; exact absurd q (Nat.not_lt_zero _)
  | succ n ih =>
    intro k M hn hk hE hd
    have s1 := mG_S (m26_G hE) s0
    have p1 := mG_P (m26_G hE) p0
    unfold f_X11_measures_L2
    by_cases hlt : k < 5
    · rw [n_4, if_neg (nI_nlt (by omega) (by omega)), n_0]
      obtain ⟨M1, q1, q2, q3, q4⟩ := m_fill0 (K := K) (N := N) (σ := σ) (f_X11_measures_L2 K n) hg (k := k) (by omega) M s1 hd 4096 0 M (by omega) (by omega) ⟨rfl, fun _ _ _ => rfl⟩ hd (fun j hj => absurd hj (Nat.not_lt_zero _))
      rw [q1]
      have E1 := m26_tr hE q2
      have s2 := mG_S (m26_G E1) s0
      have p2 := mG_P (m26_G E1) p0
      unfold f_X11_measures_J51
      cases k with
      | zero =>
        unfold f_X11_measures_L54
        have out : f_X11_measures_J153 K (f_X11_measures_L2 K n) y (nI g) (nI N) (nI 0) M1 = f_X11_measures_L2 K n y (nI g) (nI N) (nI 1) M1 := by
          unfold f_X11_measures_J153
          rw [nI_1]
        have d1 : don σ N g 1 M1 y := fun k' hk' m hm => by
          have : k' = 0 := by omega
          subst this
          refine ⟨_, q4 m hm, ?_⟩
          have := Cst_0 σ N g m
          by_cases z : m = g
          · rw [if_pos ⟨rfl, z⟩]; rw [if_pos z] at this; exact this
          · rw [if_neg (fun q => z q.2)]; rw [if_neg z] at this; exact this
        rw [mo s2, if_pos (show nI 0 ≤ 0 by decide), out]
        by_cases z : M1.1 y 19 ≤ 0
        · rw [if_pos z]
          exact ih 1 M1 (by omega) (by omega) E1 d1
        · rw [if_neg z]
          exact ih 1 M1 (by omega) (by omega) E1 d1
      | succ k =>
        rw [n_0]
        obtain ⟨M2, w1, w2, w3⟩ := m_relax (K := K) (g := g) (k := k) (f_X11_measures_L2 K n) hV hN (by omega) M1 s2 p2 4096 0 M1 (by omega) (by omega) ⟨rfl, fun _ _ _ => rfl⟩ q3 (fun m hm => ⟨FAR, by rw [q4 m hm, if_neg (fun q => by omega)], Cs1_0⟩)
        rw [w1]
        exact ih (k + 2) M2 (by omega) (by omega) (m26_tr E1 w2) w3
    · rw [n_4, if_pos (nI_lt (by omega) (by omega))]
      have : k = 5 := by omega
      subst this
      exact ⟨M, rfl, hE, hd⟩
theorem m_meas {K : fh_K} {M : fh_M} {y N g : Nat} {σ : sT} (hV : Val σ) (hN : N < 4096) (hg : g < 12) (s0 : mS K M y) (p0 : mP M y σ) : ∃ M1, f_X11_measures K M y (nI g) (nI N) = some M1 ∧ m26 y M M1 ∧ don σ N g 5 M1 y :=
  m_measL hV hN hg M s0 p0 4096 0 M (by omega) (by omega) ⟨rfl, fun _ _ _ => rfl⟩ (fun _ q => absurd q (Nat.not_lt_zero _))
