/-- a make's cells -/
def kS (K : fh_K) (M : fh_M) (a ak ms hd hs : Nat) (mk : Nat → Nat) : Prop := K a = (3, 0) ∧ M.2.2 a 0 = some ak ∧ K ak = (13, ms) ∧ M.1 a 1 = nI hd ∧ M.1 a 2 = nI hs ∧ ∀ k, k < ms → M.1 ak k = nI (mk k)
theorem c_marksL {K : fh_K} {M : fh_M} {a ak ab S ms hd hs : Nat} {c mk : Nat → Nat} (hk : kS K M a ak ms hd hs mk) (hab : K ab = (13, S)) (hc : ∀ k, c k < 256) (hmk : ∀ k, mk k < 256) (hS : S ≤ 60) (hle : ms ≤ S) (hby : ∀ k, k < S → M.1 ab k = nI (c k)) :
    ∀ (n k : Nat), ms - k < n → k ≤ ms → f_X2_marks_L14 K M n a (some ab) (nI k) = some (if ∀ j, j < ms → k ≤ j → c j = mk j then 1 else 0) := by
  obtain ⟨h1, h2, h3, h4, h5, h6⟩ := hk
  intro n
  induction n with
  | zero => intro k h; exact absurd h (Nat.not_lt_zero _)
  | succ n ih =>
    intro k hn hk
    unfold f_X2_marks_L14
    rw [fo_ok h1, h2, fa_ok h3, h3]
    simp only
    by_cases h : k < ms
    · rw [if_neg (nI_ge h (by omega)), fi_ok hab rfl (by omega) (by omega), fi_ok h3 rfl h (by omega), cl_n (by omega), hby k (by omega), h6 k h]
      have q1 := hc k
      have q2 := hmk k
      by_cases hq : c k = mk k
      · rw [if_pos (by rw [hq]), nI_1, ih (k + 1) (by omega) (by omega)]
        congr 1
        by_cases hall : ∀ j, j < ms → k ≤ j → c j = mk j
        · rw [if_pos hall, if_pos (fun j hj hj2 => hall j hj (by omega))]
        · rw [if_neg hall, if_neg]
          intro hall2
          apply hall
          intro j hj hj2
          by_cases ej : j = k
          · rw [ej]; exact hq
          · exact hall2 j hj (by omega)
      · rw [if_neg (fun z => hq (n_inj (by omega) (by omega) z)), if_neg (fun hall => hq (hall k h (Nat.le_refl _)))]
    · rw [if_pos (nI_le (by omega) (by omega)), if_pos (fun j hj hj2 => by omega)]
theorem c_marks {K : fh_K} {M : fh_M} {a ak ab S ms hd hs : Nat} {c mk : Nat → Nat} (hk : kS K M a ak ms hd hs mk) (hab : K ab = (13, S)) (hc : ∀ k, c k < 256) (hmk : ∀ k, mk k < 256) (hS : S ≤ 60) (hms : ms ≤ 4) (hby : ∀ k, k < S → M.1 ab k = nI (c k)) :
    (mkB c mk S ms ∧ f_X2_marks K M a (some ab) = some 1) ∨ (¬ mkB c mk S ms ∧ f_X2_marks K M a (some ab) = some 0) := by
  unfold f_X2_marks
  rw [fa_ok hab, fo_ok hk.1, hk.2.1, fa_ok hk.2.2.1, hk.2.2.1, hab]
  simp only
  by_cases hle : ms ≤ S
  · rw [if_pos (nI_le hle (by omega)), n_0, c_marksL hk hab hc hmk hS hle hby 4096 0 (by omega) (by omega)]
    by_cases hall : ∀ j, j < ms → 0 ≤ j → c j = mk j
    · rw [if_pos hall]; exact Or.inl ⟨⟨hle, fun j hj => hall j hj (Nat.zero_le _)⟩, rfl⟩
    · rw [if_neg hall]; exact Or.inr ⟨fun q => hall (fun j hj _ => q.2 j hj), rfl⟩
  · rw [if_neg (nI_ge (by omega) (by omega))]
    exact Or.inr ⟨fun q => hle q.1, rfl⟩
theorem c_sumL {K : fh_K} {M : fh_M} {ab S e : Nat} {c : Nat → Nat} (hab : K ab = (13, S)) (hc : ∀ k, c k < 256) (hS : S ≤ 60) (he : e ≤ S) (hby : ∀ k, k < S → M.1 ab k = nI (c k)) :
    ∀ (n k : Nat), e - k < n → k ≤ e → f_X10_sumOfFirst_L4 K M n (some ab) (nI e) (nI (smN c k)) (nI k) = some (nI (smN c e % 256)) := by
  have fin : f_X10_sumOfFirst_J27 K M (nI (smN c e)) = some (nI (smN c e % 256)) := by
    unfold f_X10_sumOfFirst_J27
    have := smN_le c hc e
    rw [pk_andN (by omega) 8 (by decide)]
  intro n
  induction n with
  | zero => intro k h; exact absurd h (Nat.not_lt_zero _)
  | succ n ih =>
    intro k hn hk
    unfold f_X10_sumOfFirst_L4
    by_cases h : k < e
    · rw [if_neg (nI_ge h (by omega)), fa_ok hab, hab]
      simp only
      rw [if_neg (nI_ge (by omega) (by omega)), fi_ok hab rfl (by omega) (by omega), cl_n (by omega), hby k (by omega), nI_add, nI_1]
      exact ih (k + 1) (by omega) (by omega)
    · rw [if_pos (nI_le (by omega) (by omega)), show k = e by omega]
      exact fin
theorem c_sum {K : fh_K} {M : fh_M} {ab S e : Nat} {c : Nat → Nat} (hab : K ab = (13, S)) (hc : ∀ k, c k < 256) (hS : S ≤ 60) (he : e ≤ S) (hby : ∀ k, k < S → M.1 ab k = nI (c k)) : f_X10_sumOfFirst K M (some ab) (nI e) = some (nI (smN c e % 256)) := by
  unfold f_X10_sumOfFirst
  exact c_sumL hab hc hS he hby 4096 0 (by omega) (by omega)
def rE (r : Nat) (M M' : fh_M) : Prop := M'.2.1 = M.2.1 ∧ (∀ a k, ¬ (a = r ∧ k = 3) → M'.2.2 a k = M.2.2 a k) ∧ ∀ a k, ¬ rq r a k → M'.1 a k = M.1 a k
theorem rE_rf (r : Nat) (M : fh_M) : rE r M M := ⟨rfl, fun _ _ _ => rfl, fun _ _ _ => rfl⟩
theorem rE_tr {r : Nat} {M M1 M2 : fh_M} (h : rE r M M1) (h2 : rE r M1 M2) : rE r M M2 := ⟨h2.1.trans h.1, fun a k q => (h2.2.1 a k q).trans (h.2.1 a k q), fun a k q => (h2.2.2 a k q).trans (h.2.2 a k q)⟩
theorem rE_I {r : Nat} {M M1 : fh_M} (h : rI r M M1) : rE r M M1 := ⟨by rw [h.1], fun a k _ => by rw [h.1], h.2⟩
theorem rE_S {K : fh_K} {r : Nat} {M M' : fh_M} (h : rE r M M') (hS : rS K M r) : rS K M' r := by
  obtain ⟨h1, h2, h3, h4, h5⟩ := hS
  exact ⟨h1, by rw [h.2.1 _ _ (by omega)]; exact h2, by rw [h.2.1 _ _ (by omega)]; exact h3, by rw [h.2.1 _ _ (by omega)]; exact h4, h5⟩
/-- the make's cells are none of the reading's -/
theorem kS_apart {K : fh_K} {M : fh_M} {r a ak ms hd hs : Nat} {mk : Nat → Nat} (hS : rS K M r) (hk : kS K M a ak ms hd hs mk) (hms : ms ≤ 4) : (a ≠ r ∧ a ≠ r + 1 ∧ a ≠ r + 2 ∧ a ≠ r + 3) ∧ (ak ≠ r ∧ ak ≠ r + 1 ∧ ak ≠ r + 2 ∧ ak ≠ r + 3) := by
  obtain ⟨h1, -, -, -, h5, h6, h7⟩ := hS
  obtain ⟨g1, -, g3, -⟩ := hk
  refine ⟨⟨?_, ?_, ?_, ?_⟩, ?_, ?_, ?_, ?_⟩ <;> rintro rfl
  · rw [h1] at g1; cases g1
  · rw [h5] at g1; cases g1
  · rw [h6] at g1; cases g1
  · rw [h7] at g1; cases g1
  · rw [h1] at g3; cases g3
  · rw [h5] at g3; cases g3; omega
  · rw [h6] at g3; cases g3; omega
  · rw [h7] at g3; cases g3; omega
theorem kS_E {K : fh_K} {M M' : fh_M} {r a ak ms hd hs : Nat} {mk : Nat → Nat} (hS : rS K M r) (hk : kS K M a ak ms hd hs mk) (hms : ms ≤ 4) (hE : rE r M M') : kS K M' a ak ms hd hs mk := by
  obtain ⟨q1, q2⟩ := kS_apart hS hk hms
  obtain ⟨h1, h2, h3, h4, h5, h6⟩ := hk
  refine ⟨h1, ?_, h3, ?_, ?_, fun k hk => ?_⟩
  · rw [hE.2.1 _ _ (by omega)]; exact h2
  · rw [hE.2.2 _ _ (by unfold rq; omega)]; exact h4
  · rw [hE.2.2 _ _ (by unfold rq; omega)]; exact h5
  · rw [hE.2.2 _ _ (by unfold rq; omega)]; exact h6 k hk
def rOut (M M' : fh_M) (r : Nat) (L : List (Nat × Nat × Nat)) (b : Nat) : Prop := M'.1 r 4 = nI L.length ∧ M'.1 r 5 = nI (hsF 0 L) ∧ M'.1 r 6 = nI b ∧ M'.1 (r + 1) = lf (M.1 (r + 1)) 0 (L.map (fun q => q.1)) ∧ M'.1 (r + 2) = lf (M.1 (r + 2)) 0 (L.map (fun q => q.2.2)) ∧ M'.1 (r + 3) = lf (M.1 (r + 3)) 0 (L.map (fun q => q.2.1))
theorem c_J87 {K : fh_K} {M : fh_M} {r a ak ab S ms hd hs b en : Nat} {c mk : Nat → Nat} (hS : rS K M r) (hk : kS K M a ak ms hd hs mk) (hab : K ab = (13, S)) (hd4 : hd < 4096) (hc : ∀ k, c k < 256) (hS60 : S ≤ 60) (hms : 1 ≤ ms) (hms4 : ms ≤ 4) (hle : ms ≤ S) (hby : ∀ k, k < S → M.1 ab k = nI (c k)) (habr : ab ≠ r ∧ ab ≠ r + 1 ∧ ab ≠ r + 2 ∧ ab ≠ r + 3) (hsrc : M.2.2 r 3 = some ab) (hen : en = enN S ms hs) (h4 : M.1 r 4 = nI 0) (h5 : M.1 r 5 = nI 0) (h6 : M.1 r 6 = nI b) :
    ∃ M', f_X4_readBy_J87 K r (some a) (nI ms) (nI en) M = some M' ∧ rI r M M' ∧ rOut M M' r (rdL c hd S ms hs) (b + (rdQ c hd S ms hs).2) := by
  have e1 := enN_le S ms hs
  have e2 := enN_ge (hs := hs) hle
  subst hen
  unfold f_X4_readBy_J87 f_X4_readRecords
  rw [fo_ok hk.1, ro hS, hk.2.2.2.1]
  obtain ⟨M', g1, g2, g3, g4, g5, g6, g7, g8⟩ := c_readL (K := K) (r := r) (ab := ab) (S := S) (hd := hd) (en := enN S ms hs) (c := c) hd4 e1 hS60 hc habr hab 61 ms 4096 0 b 0 0 M hS hsrc (by omega) (by omega) e2 (by omega) hby h4 h5 h6 (by omega)
  rw [n_0, g1]
  refine ⟨M', rfl, g2, ?_, g4, g5, g6, g7, g8⟩
  rw [g3, Nat.zero_add]; rfl
/-- THE CLASS READS a file by a make -/
theorem c_readBy {K : fh_K} {M : fh_M} {r a ak ab S ms hd hs : Nat} {c mk : Nat → Nat} (hS : rS K M r) (hk : kS K M a ak ms hd hs mk) (hab : K ab = (13, S)) (hd4 : hd < 4096) (hc : ∀ k, c k < 256) (hmk : ∀ k, mk k < 256) (hS60 : S ≤ 60) (hms : 1 ≤ ms) (hms4 : ms ≤ 4) (hhs : hs ≤ 1) (hby : ∀ k, k < S → M.1 ab k = nI (c k)) (habr : ab ≠ r ∧ ab ≠ r + 1 ∧ ab ≠ r + 2 ∧ ab ≠ r + 3) :
    ∃ M', f_X4_readBy K M r (some a) (some ab) = some M' ∧ rE r M M' ∧ M'.2.2 r 3 = some ab ∧ ((mkB c mk S ms ∧ rOut M M' r (rdL c hd S ms hs) (rdB c hd S ms hs)) ∨ (¬ mkB c mk S ms ∧ M'.1 r 4 = nI 0 ∧ M'.1 r 5 = nI 0 ∧ M'.1 r 6 = -2)) := by
  unfold f_X4_readBy f_X4_clear
  rw [ro hS, ro hS]
  simp only [fb_eq, Option.bind_some]
  generalize hM4 : fh_sr (fh_si (fh_si (fh_si M r 4 0) r 5 0) r 6 0) r 3 (some ab) = M4
  have hE : rE r M M4 := by
    rw [← hM4]
    refine ⟨rfl, fun x k q => ?_, fun x k q => ?_⟩
    · rw [fh_sr_22, if_neg q]; rfl
    · unfold rq at q
      rw [fh_sr_1, fh_si_1, if_neg (by omega), fh_si_1, if_neg (by omega), fh_si_1, if_neg (by omega)]
  have s3 : M4.2.2 r 3 = some ab := by rw [← hM4, fh_sr_22, if_pos ⟨rfl, rfl⟩]
  have i4 : M4.1 r 4 = nI 0 := by rw [← hM4, fh_sr_1, fh_si_1, if_neg (by omega), fh_si_1, if_neg (by omega), fh_si_1, if_pos ⟨rfl, rfl⟩]; rfl
  have i5 : M4.1 r 5 = nI 0 := by rw [← hM4, fh_sr_1, fh_si_1, if_neg (by omega), fh_si_1, if_pos ⟨rfl, rfl⟩]; rfl
  have i6 : M4.1 r 6 = nI 0 := by rw [← hM4, fh_sr_1, fh_si_1, if_pos ⟨rfl, rfl⟩]; rfl
  have keep : ∀ cc, cc = 1 ∨ cc = 2 ∨ cc = 3 → M4.1 (r + cc) = M.1 (r + cc) := by
    intro cc hcc
    funext j
    rw [← hM4, fh_sr_1, fh_si_1, if_neg (by omega), fh_si_1, if_neg (by omega), fh_si_1, if_neg (by omega)]
  have hS4 := rE_S hE hS
  have hk4 := kS_E hS hk hms4 hE
  have hby4 : ∀ k, k < S → M4.1 ab k = nI (c k) := fun k q => by rw [hE.2.2 _ _ (by unfold rq; omega)]; exact hby k q
  rw [fo_ok hk.1]
  -- the end, from the bends of the sum on
  have main : ∀ (M5 : fh_M) (b en : Nat), rI r M4 M5 → (∀ cc, cc = 1 ∨ cc = 2 ∨ cc = 3 → M5.1 (r + cc) = M.1 (r + cc)) → M5.1 r 4 = nI 0 → M5.1 r 5 = nI 0 → M5.1 r 6 = nI b → b = b0N c S ms hs → en = enN S ms hs → ms ≤ S →
      ∃ M', f_X4_readBy_J87 K r (some a) (nI ms) (nI en) M5 = some M' ∧ rE r M M' ∧ M'.2.2 r 3 = some ab ∧ rOut M M' r (rdL c hd S ms hs) (rdB c hd S ms hs) := by
    intro M5 b en hI5 hkeep j4 j5 j6 hb0 hen hle
    have hE5 := rE_tr hE (rE_I hI5)
    obtain ⟨M', g1, g2, g3, g4, g5, g6, g7, g8⟩ := c_J87 (rE_S (rE_I hI5) hS4) (kS_E hS4 hk4 hms4 (rE_I hI5)) hab hd4 hc hS60 hms hms4 hle (fun k q => by rw [hI5.2 _ _ (by unfold rq; omega)]; exact hby4 k q) habr (by rw [hI5.1]; exact s3) hen j4 j5 j6
    refine ⟨M', g1, rE_tr hE5 (rE_I g2), by rw [g2.1, hI5.1]; exact s3, g3, g4, ?_, ?_, ?_, ?_⟩
    · rw [g5, hb0]; rfl
    · rw [g6, hkeep 1 (by omega)]
    · rw [g7, hkeep 2 (by omega)]
    · rw [g8, hkeep 3 (by omega)]
  rcases c_marks hk4 hab hc hmk hS60 hms4 hby4 with ⟨hmb, e⟩ | ⟨hmb, e⟩
  · rw [e]
    simp only [Option.bind_some]
    rw [if_neg (show ¬ (1 : Int32) = 0 by decide), hk4.2.1, fa_ok hk.2.2.1, fa_ok hab, hk.2.2.1, hab, hk4.2.2.2.2.1]
    simp only
    have hle := hmb.1
    -- no byte behind the mark, or no sum
    have h75 : (hs = 0 ∨ S ≤ ms) → ∃ M', f_X4_readBy_J75 K r (some a) (nI ms) (nI S) M4 = some M' ∧ rE r M M' ∧ M'.2.2 r 3 = some ab ∧ rOut M M' r (rdL c hd S ms hs) (rdB c hd S ms hs) := by
      intro hq
      unfold f_X4_readBy_J75
      rw [fo_ok hk.1, hk4.2.2.2.2.1]
      rcases (show hs = 0 ∨ hs = 1 by omega) with rfl | rfl
      · rw [if_pos (show nI 0 = 0 from rfl)]
        exact main M4 0 S (rI_rf _ _) keep i4 i5 i6 (by unfold b0N; rw [if_neg (by omega)]) (by unfold enN; rw [if_neg (fun z => by omega)]) hle
      · rw [if_neg (show ¬ nI 1 = 0 by decide), ro hS4, fb_eq]
        exact main (fh_si M4 r 6 1) 1 S (rI_si (Or.inl ⟨rfl, Or.inr (Or.inr rfl)⟩)) (fun cc hcc => by rw [← keep cc hcc]; funext j; rw [fh_si_1, if_neg (by omega)]) (by rw [fh_si_1, if_neg (by omega)]; exact i4) (by rw [fh_si_1, if_neg (by omega)]; exact i5) (by rw [fh_si_1, if_pos ⟨rfl, rfl⟩]; rfl) (by unfold b0N; rw [if_pos rfl, if_neg (fun z => by omega)]) (by unfold enN; rw [if_neg (fun z => by omega)]) hle
    rcases (show hs = 0 ∨ hs = 1 by omega) with rfl | rfl
    · rw [if_pos (show nI 0 = 0 from rfl)]
      obtain ⟨M', g1, g2, g3, g4⟩ := h75 (Or.inl rfl)
      exact ⟨M', g1, g2, g3, Or.inl ⟨hmb, g4⟩⟩
    · rw [if_neg (show ¬ nI 1 = 0 by decide)]
      by_cases hlt : ms < S
      · have e1 : nI S + (-1) = nI (S - 1) := n_m1 (by omega)
        rw [if_neg (nI_ge hlt (by omega)), e1, fi_ok hab rfl (by omega) (by omega), c_sum hab hc hS60 (by omega) hby4, cl_n (by omega), hby4 (S - 1) (by omega)]
        simp only [Option.bind_some]
        have q1 := hc (S - 1)
        unfold f_X4_readBy_J69
        rw [ro hS4, ro hS4, fb_eq, fb_eq]
        have fin : ∀ b : Nat, b = b0N c S ms 1 → ∃ M', f_X4_readBy_J87 K r (some a) (nI ms) (nI (S - 1)) (fh_si M4 r 6 (nI b)) = some M' ∧ rE r M M' ∧ M'.2.2 r 3 = some ab ∧ rOut M M' r (rdL c hd S ms 1) (rdB c hd S ms 1) := fun b hb0 =>
          main (fh_si M4 r 6 (nI b)) b (S - 1) (rI_si (Or.inl ⟨rfl, Or.inr (Or.inr rfl)⟩)) (fun cc hcc => by rw [← keep cc hcc]; funext j; rw [fh_si_1, if_neg (by omega)]) (by rw [fh_si_1, if_neg (by omega)]; exact i4) (by rw [fh_si_1, if_neg (by omega)]; exact i5) (by rw [fh_si_1, if_pos ⟨rfl, rfl⟩]) hb0 (by unfold enN; rw [if_pos ⟨rfl, hlt⟩]) hle
        by_cases hs : smN c (S - 1) % 256 = c (S - 1)
        · rw [if_pos (by rw [hs])]
          obtain ⟨M', g1, g2, g3, g4⟩ := fin 0 (by unfold b0N; rw [if_pos rfl, if_pos ⟨hlt, hs⟩])
          exact ⟨M', g1, g2, g3, Or.inl ⟨hmb, g4⟩⟩
        · rw [if_neg (fun q => hs (n_inj (by omega) (by omega) q.symm))]
          obtain ⟨M', g1, g2, g3, g4⟩ := fin 1 (by unfold b0N; rw [if_pos rfl, if_neg (fun q => hs q.2)])
          exact ⟨M', g1, g2, g3, Or.inl ⟨hmb, g4⟩⟩
      · rw [if_pos (nI_le (by omega) (by omega))]
        obtain ⟨M', g1, g2, g3, g4⟩ := h75 (Or.inr (by omega))
        exact ⟨M', g1, g2, g3, Or.inl ⟨hmb, g4⟩⟩
  · rw [e]
    simp only [Option.bind_some]
    rw [if_pos trivial]
    refine ⟨fh_si M4 r 6 (-2), rfl, rE_tr hE (rE_I (rI_si (Or.inl ⟨rfl, Or.inr (Or.inr rfl)⟩))), s3, Or.inr ⟨hmb, ?_, ?_, ?_⟩⟩
    · rw [fh_si_1, if_neg (by omega)]; exact i4
    · rw [fh_si_1, if_neg (by omega)]; exact i5
    · rw [fh_si_1, if_pos ⟨rfl, rfl⟩]
