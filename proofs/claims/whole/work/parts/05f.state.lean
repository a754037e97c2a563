theorem fc2_some {α β γ : Type} (a : α) (b : β) (f : α → β → Option γ) : fc2 (some (a, b)) f = f a b := rfl
def kI (q : Nat) : Int32 := if q = 0 then -1 else nI (q - 1)
theorem kI_0 : kI 0 = -1 := rfl
theorem kI_s (q : Nat) : kI (q + 1) = nI q := by simp [kI]
theorem kI_m1 {q : Nat} (h : q < 2 ^ 31) : kI q = -1 ↔ q = 0 := by
  cases q with
  | zero => exact ⟨fun _ => rfl, fun _ => rfl⟩
  | succ q => rw [kI_s]; exact ⟨fun e => absurd e (n_ne_m1 (by omega)), fun e => by omega⟩
theorem kI_inj {p q : Nat} (hp : p < 2 ^ 31) (hq : q < 2 ^ 31) : kI p = kI q ↔ p = q := by
  cases p with
  | zero => rw [kI_0]; exact ⟨fun e => ((kI_m1 hq).mp e.symm).symm, fun e => by rw [← e]; rfl⟩
  | succ p =>
    cases q with
    | zero => rw [kI_0]; exact ⟨fun e => (kI_m1 hp).mp e, fun e => by rw [e]; rfl⟩
    | succ q => rw [kI_s, kI_s, nI_eq (by omega) (by omega)]; omega
abbrev sT : Type := Nat → Nat → Nat
def cF (σ : sT) (f : Nat) : Nat → Nat := fun k => σ 7 (60 * f + k)
def mF (σ : sT) (m : Nat) : Nat → Nat := fun k => σ 2 (4 * m + k)
def sMk (σ : sT) (f m : Nat) : Prop := mkB (cF σ f) (mF σ m) (σ 8 f) (σ 3 m)
def sL (σ : sT) (f m : Nat) : List (Nat × Nat × Nat) := rdL (cF σ f) (σ 4 m) (σ 8 f) (σ 3 m) (σ 5 m)
def sB (σ : sT) (f m : Nat) : Nat := rdB (cF σ f) (σ 4 m) (σ 8 f) (σ 3 m) (σ 5 m)
theorem sB_le (σ : sT) (f m : Nat) : sB σ f m ≤ 1 + σ 8 f := by
  unfold sB rdB rdQ
  have h1 := b0N_le (cF σ f) (σ 8 f) (σ 3 m) (σ 5 m)
  have h2 := pz_bends (cF σ f) (σ 4 m) (enN (σ 8 f) (σ 3 m) (σ 5 m)) 61 (σ 3 m)
  have h3 := enN_le (σ 8 f) (σ 3 m) (σ 5 m)
  omega
/-- the make of a file, one more than its number, and its bends -/
noncomputable def kn (σ : sT) (f : Nat) : Nat → Nat × Nat
  | 0 => (0, 4)
  | n + 1 => @ite _ (sMk σ f n ∧ sB σ f n ≤ σ 6 n ∧ sB σ f n < (kn σ f n).2) (Classical.propDecidable _) (n + 1, sB σ f n) (kn σ f n)
theorem kn_y {σ : sT} {f n : Nat} (h : sMk σ f n ∧ sB σ f n ≤ σ 6 n ∧ sB σ f n < (kn σ f n).2) : kn σ f (n + 1) = (n + 1, sB σ f n) := by
  show @ite _ _ (Classical.propDecidable _) _ _ = _
  rw [if_pos h]
theorem kn_n {σ : sT} {f n : Nat} (h : ¬ (sMk σ f n ∧ sB σ f n ≤ σ 6 n ∧ sB σ f n < (kn σ f n).2)) : kn σ f (n + 1) = kn σ f n := by
  show @ite _ _ (Classical.propDecidable _) _ _ = _
  rw [if_neg h]
theorem kn_le (σ : sT) (f : Nat) : ∀ n, (kn σ f n).1 ≤ n ∧ (kn σ f n).2 ≤ 4 ∧ ((kn σ f n).1 = 0 → (kn σ f n).2 = 4) := by
  intro n
  induction n with
  | zero => exact ⟨Nat.le_refl _, Nat.le_refl _, fun _ => rfl⟩
  | succ n ih =>
    by_cases h : sMk σ f n ∧ sB σ f n ≤ σ 6 n ∧ sB σ f n < (kn σ f n).2
    · rw [kn_y h]; exact ⟨Nat.le_refl _, by have := ih.2.1; show sB σ f n ≤ 4; omega, fun q => by simp at q⟩
    · rw [kn_n h]; exact ⟨by omega, ih.2⟩
/-- if there is a make, it marks the file -/
theorem kn_mk (σ : sT) (f : Nat) : ∀ n m, (kn σ f n).1 = m + 1 → sMk σ f m ∧ (kn σ f n).2 = sB σ f m ∧ m < n := by
  intro n
  induction n with
  | zero => intro m h; cases h
  | succ n ih =>
    intro m hm
    by_cases h : sMk σ f n ∧ sB σ f n ≤ σ 6 n ∧ sB σ f n < (kn σ f n).2
    · rw [kn_y h] at hm ⊢
      obtain rfl : n = m := by simpa using hm
      exact ⟨h.1, rfl, by omega⟩
    · rw [kn_n h] at hm ⊢
      obtain ⟨a, b, c⟩ := ih m hm
      exact ⟨a, b, by omega⟩
/-- what the numbers of a state may be -/
def Val (σ : sT) : Prop := (σ 0 1 ≤ 80 ∧ σ 0 2 ≤ 999 ∧ σ 0 3 ≤ 12 ∧ σ 0 9 ≤ 40 ∧ σ 0 16 ≤ 24 ∧ σ 0 19 ≤ 24 ∧ σ 0 37 ≤ 4) ∧ (∀ j, σ 1 j < 256 ∧ σ 2 j < 256 ∧ σ 7 j < 256) ∧ (∀ m, m < σ 0 3 → 1 ≤ σ 3 m ∧ σ 3 m ≤ 4 ∧ σ 4 m < 4096 ∧ σ 5 m ≤ 1 ∧ σ 6 m ≤ 3) ∧ (∀ f, f < σ 0 9 → 1 ≤ σ 8 f ∧ σ 8 f ≤ 60 ∧ σ 9 f < 4096 ∧ σ 10 f ≤ f) ∧ (∀ f, σ 0 9 ≤ f → σ 9 f = 0) ∧ (∀ j, j < 8 → σ 11 j ≤ σ 12 j ∧ σ 12 j ≤ 999) ∧ (∀ r, r < σ 0 16 → σ 13 r < σ 0 3 ∧ σ 14 r < 8) ∧ ∀ t, t < σ 0 19 → σ 15 t < σ 0 3 ∧ σ 16 t < σ 0 3 ∧ σ 15 t ≠ σ 16 t ∧ σ 17 t < 4096 ∧ σ 18 t ≤ 9999 ∧ σ 19 t < 8
/-- the model's cells hold the state -/
def mP (M : fh_M) (y : Nat) (σ : sT) : Prop := (∀ k, k = 1 ∨ k = 2 ∨ k = 3 ∨ k = 9 ∨ k = 16 ∨ k = 19 ∨ k = 37 → M.1 y k = nI (σ 0 k)) ∧ (∀ j, j < 80 → M.1 (y + 1) j &&& 255 = nI (σ 1 j)) ∧ (∀ c j, (2 ≤ c ∧ c ≤ 19 ∧ c ≠ 10) ∨ c = 28 → M.1 (y + c) j = nI (σ c j)) ∧ ∀ j, M.1 (y + 10) j = kI (σ 10 j)
def mZ (y a k : Nat) : Prop := (a = y ∧ (k = 25 ∨ k = 26 ∨ k = 30 ∨ k = 35 ∨ k = 40 ∨ k = 41)) ∨ (y + 20 ≤ a ∧ a ≤ y + 27) ∨ a = y + 29 ∨ a = y + 30
def mG (y : Nat) (M M' : fh_M) : Prop := M'.2 = M.2 ∧ ∀ a k, ¬ mZ y a k → M'.1 a k = M.1 a k
theorem mG_rf (y : Nat) (M : fh_M) : mG y M M := ⟨rfl, fun _ _ _ => rfl⟩
theorem mG_tr {y : Nat} {M M1 M2 : fh_M} (h : mG y M M1) (h2 : mG y M1 M2) : mG y M M2 := ⟨h2.1.trans h.1, fun a k q => (h2.2 a k q).trans (h.2 a k q)⟩
theorem mG_E {y : Nat} {M M1 : fh_M} (h : mE y M M1) : mG y M M1 := ⟨h.1, fun a k q => h.2 a k (fun z => q (by unfold mq at z; unfold mZ; omega))⟩
theorem mG_si {y : Nat} {M : fh_M} {a k : Nat} {v : Int32} (h : mZ y a k) : mG y M (fh_si M a k v) := ⟨rfl, fun b j q => by
  rw [fh_si_1, if_neg]
  rintro ⟨rfl, rfl⟩
  exact q h⟩
theorem mG_S {K : fh_K} {y : Nat} {M M' : fh_M} (h : mG y M M') (hS : mS K M y) : mS K M' y := by
  refine ⟨hS.1, ?_, hS.2.2⟩
  rw [h.1]; exact hS.2.1
theorem mG_P {y : Nat} {M M' : fh_M} {σ : sT} (h : mG y M M') (hP : mP M y σ) : mP M' y σ := by
  obtain ⟨h1, h2, h3, h4⟩ := hP
  refine ⟨fun k hk => ?_, fun j hj => ?_, fun c j hc => ?_, fun j => ?_⟩
  · rw [h.2 _ _ (by unfold mZ; omega)]; exact h1 k hk
  · rw [h.2 _ _ (by unfold mZ; omega)]; exact h2 j hj
  · rw [h.2 _ _ (by unfold mZ; omega)]; exact h3 c j hc
  · rw [h.2 _ _ (by unfold mZ; omega)]; exact h4 j
theorem mP_s {M : fh_M} {y : Nat} {σ : sT} (h : mP M y σ) (k : Nat) (hk : k = 1 ∨ k = 2 ∨ k = 3 ∨ k = 9 ∨ k = 16 ∨ k = 19 ∨ k = 37) : M.1 y k = nI (σ 0 k) := h.1 k hk
theorem mP_a {M : fh_M} {y : Nat} {σ : sT} (h : mP M y σ) (c j : Nat) (hc : (2 ≤ c ∧ c ≤ 19 ∧ c ≠ 10) ∨ c = 28) : M.1 (y + c) j = nI (σ c j) := h.2.2.1 c j hc
theorem mP_in {M : fh_M} {y : Nat} {σ : sT} (h : mP M y σ) (f m : Nat) : mIn M y f m (σ 8 f) (σ 3 m) (σ 5 m) (σ 4 m) (cF σ f) (mF σ m) := ⟨h.2.2.1 8 f (by omega), h.2.2.1 3 m (by omega), h.2.2.1 5 m (by omega), h.2.2.1 4 m (by omega), fun k _ => h.2.2.1 7 _ (by omega), fun k _ => h.2.2.1 2 _ (by omega)⟩
/-- the model's record rows hold a list -/
def mRec (M : fh_M) (y : Nat) (L : List (Nat × Nat × Nat)) : Prop := M.1 y 25 = nI L.length ∧ ∀ (i : Nat) (h : i < L.length), M.1 (y + 20) i = nI L[i].1 ∧ M.1 (y + 21) i = nI L[i].2.1 ∧ M.1 (y + 22) i = nI L[i].2.2
theorem mRec_of {M M' : fh_M} {y b : Nat} {L : List (Nat × Nat × Nat)} (h : mOut M M' y L b) : mRec M' y L := by
  obtain ⟨h1, h2, h3, h4, h5⟩ := h
  refine ⟨h1, fun i hi => ⟨?_, ?_, ?_⟩⟩
  · have := lf_at (L.map (fun q => q.1)) (M.1 (y + 20)) 0 i (by simpa using hi)
    rw [h3]; rw [Nat.zero_add] at this; rw [this]; simp
  · have := lf_at (L.map (fun q => q.2.1)) (M.1 (y + 21)) 0 i (by simpa using hi)
    rw [h4]; rw [Nat.zero_add] at this; rw [this]; simp
  · have := lf_at (L.map (fun q => q.2.2)) (M.1 (y + 22)) 0 i (by simpa using hi)
    rw [h5]; rw [Nat.zero_add] at this; rw [this]; simp
theorem s_reads {K : fh_K} {M : fh_M} {y : Nat} {σ : sT} {f m : Nat} (hS : mS K M y) (hP : mP M y σ) (hV : Val σ) (hf : f < σ 0 9) (hm : m < σ 0 3) :
    ∃ M', mE y M M' ∧ ((sMk σ f m ∧ f_X11_reads K M y (nI f) (nI m) = some (1, M') ∧ mRec M' y (sL σ f m) ∧ M'.1 y 26 = nI (sB σ f m)) ∨ (¬ sMk σ f m ∧ f_X11_reads K M y (nI f) (nI m) = some (0, M'))) := by
  obtain ⟨v0, v1, v2, v3, -⟩ := hV
  obtain ⟨a1, a2, a3, a4, a5⟩ := v2 m hm
  obtain ⟨b1, b2, b3⟩ := v3 f hf
  obtain ⟨M', h1, h2⟩ := m_reads (K := K) (y := y) (F := f) (m := m) hS (by omega) (by omega) a3 b2 (fun k => (v1 _).2.2) (fun k => (v1 _).2.1) a1 a2 a4 (mP_in hP f m)
  refine ⟨M', h1, ?_⟩
  rcases h2 with ⟨g1, g2, g3⟩ | ⟨g1, g2⟩
  · exact Or.inl ⟨g1, g2, mRec_of g3, g3.2.1⟩
  · exact Or.inr ⟨g1, g2⟩
/-- the records of a file, by its make -/
noncomputable def sK (σ : sT) (f : Nat) : Nat := (kn σ f (σ 0 3)).1
noncomputable def sR (σ : sT) (f : Nat) : List (Nat × Nat × Nat) := match sK σ f with
  | 0 => []
  | m + 1 => sL σ f m
theorem sK_le (σ : sT) (f : Nat) : sK σ f ≤ σ 0 3 := (kn_le σ f _).1
theorem m_knowsL {K : fh_K} {y : Nat} {σ : sT} {f : Nat} (hV : Val σ) (hf : f < σ 0 9) :
    ∀ (n m : Nat) (w : Int32) (M : fh_M), mS K M y → mP M y σ → σ 0 3 - m < n → m ≤ σ 0 3 → ((kn σ f m).1 ≠ 0 → w = nI (kn σ f m).2) →
      ∃ M', f_X11_knows_L7 K n y (nI f) (kI (kn σ f m).1) w (nI m) M = some (kI (sK σ f), M') ∧ mE y M M' ∧ mRec M' y (sR σ f) := by
  obtain ⟨v0, -, v2, -⟩ := id hV
  intro n
  induction n with
  | zero => intro m w M _ _ h; exact absurd h (Nat.not_lt_zero _)
  | succ n ih =>
    intro m w M hS hP hn hm hw
    unfold f_X11_knows_L7
    rw [mo hS, mP_s hP 3 (by omega)]
    have hkl := kn_le σ f m
    by_cases h : m < σ 0 3
    · obtain ⟨a1, a2, a3, a4, a5⟩ := v2 m h
      rw [if_neg (nI_ge h (by omega))]
      have hBl := sB_le σ f m
      obtain ⟨M1, hE, hcase⟩ := s_reads (f := f) hS hP hV hf h
      have hS1 := mE_S hE hS
      have hP1 := mG_P (mG_E hE) hP
      have onx : kn σ f (m + 1) = kn σ f m → ∃ M', f_X11_knows_L7 K n y (nI f) (kI (kn σ f m).1) w (nI (m + 1)) M1 = some (kI (sK σ f), M') ∧ mE y M M' ∧ mRec M' y (sR σ f) := by
        intro e
        have := ih (m + 1) w M1 hS1 hP1 (by omega) (by omega) (by rw [e]; exact hw)
        rw [e] at this
        obtain ⟨M', g1, g2, g3⟩ := this
        exact ⟨M', g1, mE_tr hE g2, g3⟩
      rcases hcase with ⟨g1, g2, g3, g4⟩ | ⟨g1, g2⟩
      · rw [g2, fc2_some, if_neg (show ¬ (1 : Int32) = 0 by decide), mi8 hS1 rfl (by omega), cl_n (by omega), mP_a hP1 6 m (by omega), g4]
        obtain ⟨-, -, -, v3, -⟩ := hV
        have b2 := (v3 f hf).2.1
        unfold f_X11_knows_J56 f_X11_knows_J64
        rw [nI_1]
        by_cases hb : sB σ f m ≤ σ 6 m
        · rw [if_neg (nI_nlt hb (by omega)), mo hS1, g4]
          have hyes : sB σ f m < (kn σ f m).2 → ∃ M', f_X11_knows_L7 K n y (nI f) (nI m) (nI (sB σ f m)) (nI (m + 1)) M1 = some (kI (sK σ f), M') ∧ mE y M M' ∧ mRec M' y (sR σ f) := by
            intro hlt
            have e := kn_y (σ := σ) (f := f) (n := m) ⟨g1, hb, hlt⟩
            have := ih (m + 1) (nI (sB σ f m)) M1 hS1 hP1 (by omega) (by omega) (by rw [e]; intro _; rfl)
            rw [e, kI_s] at this
            obtain ⟨M', q1, q2, q3⟩ := this
            exact ⟨M', q1, mE_tr hE q2, q3⟩
          by_cases h0 : (kn σ f m).1 = 0
          · rw [if_pos ((kI_m1 (by omega)).mpr h0)]
            exact hyes (by rw [hkl.2.2 h0]; omega)
          · rw [if_neg (fun q => h0 ((kI_m1 (by omega)).mp q)), hw h0]
            by_cases hlt : sB σ f m < (kn σ f m).2
            · rw [if_pos (nI_lt hlt (by omega))]
              exact hyes hlt
            · rw [if_neg (nI_nlt (by omega) (by omega)), ← hw h0]
              exact onx (kn_n (fun q => hlt q.2.2))
        · rw [if_pos (nI_lt (by omega) (by omega))]
          exact onx (kn_n (fun q => hb q.2.1))
      · rw [g2, fc2_some, if_pos rfl]
        unfold f_X11_knows_J64
        rw [nI_1]
        exact onx (kn_n (fun q => g1 q.1))
    · rw [if_pos (nI_le (by omega) (by omega))]
      obtain rfl : m = σ 0 3 := by omega
      unfold f_X11_knows_J70
      rw [show (kn σ f (σ 0 3)).1 = sK σ f from rfl]
      have hsk := sK_le σ f
      cases hq : sK σ f with
      | zero =>
        rw [if_pos kI_0, mo hS, fb_eq]
        refine ⟨_, rfl, mE_si (Or.inl ⟨rfl, Or.inl rfl⟩), ?_⟩
        unfold sR
        rw [hq]
        exact ⟨by rw [fh_si_1, if_pos ⟨rfl, rfl⟩]; rfl, fun i hi => absurd hi (Nat.not_lt_zero _)⟩
      | succ k =>
        rw [if_neg (fun q => by rw [kI_m1 (by omega)] at q; omega), mo hS, kI_s]
        obtain ⟨hm1, -, hkl2⟩ := kn_mk σ f _ k hq
        obtain ⟨M1, hE, hcase⟩ := s_reads (f := f) hS hP hV hf (show k < σ 0 3 by omega)
        rcases hcase with ⟨g1, g2, g3, g4⟩ | ⟨g1, g2⟩
        · rw [g2]
          refine ⟨M1, rfl, hE, ?_⟩
          unfold sR
          rw [hq]
          exact g3
        · exact absurd hm1 g1
/-- THE MODEL KNOWS the make of a file -/
theorem m_knows {K : fh_K} {M : fh_M} {y : Nat} {σ : sT} {f : Nat} (hS : mS K M y) (hP : mP M y σ) (hV : Val σ) (hf : f < σ 0 9) :
    ∃ M', f_X11_knows K M y (nI f) = some (kI (sK σ f), M') ∧ mE y M M' ∧ mRec M' y (sR σ f) := by
  have hv := hV.1
  exact m_knowsL hV hf 4096 0 0 M hS hP (by omega) (by omega) (fun h => absurd rfl h)
