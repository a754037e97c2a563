def mkB (c mk : Nat → Nat) (S ms : Nat) : Prop := ms ≤ S ∧ ∀ k, k < ms → c k = mk k
def smN (c : Nat → Nat) : Nat → Nat
  | 0 => 0
  | n + 1 => smN c n + c n
def enN (S ms hs : Nat) : Nat := if hs = 1 ∧ ms < S then S - 1 else S
def b0N (c : Nat → Nat) (S ms hs : Nat) : Nat := if hs = 1 then (if ms < S ∧ smN c (S - 1) % 256 = c (S - 1) then 0 else 1) else 0
def rdQ (c : Nat → Nat) (hd S ms hs : Nat) : List (Nat × Nat × Nat) × Nat := pz c hd (enN S ms hs) 61 ms
def rdL (c : Nat → Nat) (hd S ms hs : Nat) : List (Nat × Nat × Nat) := (rdQ c hd S ms hs).1
def rdB (c : Nat → Nat) (hd S ms hs : Nat) : Nat := b0N c S ms hs + (rdQ c hd S ms hs).2
theorem smN_le (c : Nat → Nat) (hc : ∀ k, c k < 256) : ∀ n, smN c n ≤ 255 * n := by
  intro n
  induction n with
  | zero => exact Nat.le_refl _
  | succ n ih => have := hc n; show smN c n + c n ≤ _; omega
theorem b0N_le (c : Nat → Nat) (S ms hs : Nat) : b0N c S ms hs ≤ 1 := by unfold b0N; split <;> (try split) <;> omega
theorem enN_le (S ms hs : Nat) : enN S ms hs ≤ S := by unfold enN; split <;> omega
theorem enN_ge {S ms hs : Nat} (h : ms ≤ S) : ms ≤ enN S ms hs := by unfold enN; split <;> omega
/-- what the model reads -/
def mIn (M : fh_M) (y F m S ms hs hd : Nat) (c mk : Nat → Nat) : Prop := M.1 (y + 8) F = nI S ∧ M.1 (y + 3) m = nI ms ∧ M.1 (y + 5) m = nI hs ∧ M.1 (y + 4) m = nI hd ∧ (∀ k, k < S → M.1 (y + 7) (60 * F + k) = nI (c k)) ∧ (∀ k, k < ms → M.1 (y + 2) (4 * m + k) = nI (mk k))
theorem mIn_E {M M' : fh_M} {y F m S ms hs hd : Nat} {c mk : Nat → Nat} (h : mIn M y F m S ms hs hd c mk) (e : mE y M M') : mIn M' y F m S ms hs hd c mk := by
  obtain ⟨h1, h2, h3, h4, h5, h6⟩ := h
  refine ⟨?_, ?_, ?_, ?_, fun k hk => ?_, fun k hk => ?_⟩
  · rw [e.2 _ _ (by unfold mq; omega)]; exact h1
  · rw [e.2 _ _ (by unfold mq; omega)]; exact h2
  · rw [e.2 _ _ (by unfold mq; omega)]; exact h3
  · rw [e.2 _ _ (by unfold mq; omega)]; exact h4
  · rw [e.2 _ _ (by unfold mq; omega)]; exact h5 k hk
  · rw [e.2 _ _ (by unfold mq; omega)]; exact h6 k hk
def mOut (M M' : fh_M) (y : Nat) (L : List (Nat × Nat × Nat)) (b : Nat) : Prop := M'.1 y 25 = nI L.length ∧ M'.1 y 26 = nI b ∧ M'.1 (y + 20) = lf (M.1 (y + 20)) 0 (L.map (fun q => q.1)) ∧ M'.1 (y + 21) = lf (M.1 (y + 21)) 0 (L.map (fun q => q.2.1)) ∧ M'.1 (y + 22) = lf (M.1 (y + 22)) 0 (L.map (fun q => q.2.2))
theorem m_J195 {K : fh_K} {y F m S ms hs hd b en : Nat} {c mk : Nat → Nat} {M : fh_M} (hS : mS K M y) (hF : F < 40) (hm : m < 12) (hhd : hd < 4096) (hSz : S ≤ 60) (hc : ∀ k, c k < 256) (hms : 1 ≤ ms) (hI : mIn M y F m S ms hs hd c mk) (hen : en = enN S ms hs) (hle : ms ≤ S) (hr : M.1 y 25 = nI 0) (hb : M.1 y 26 = nI b) :
    ∃ M', f_X11_reads_J195 K y (nI F) (nI m) (nI en) M = some (1, M') ∧ mE y M M' ∧ mOut M M' y (rdL c hd S ms hs) (b + (rdQ c hd S ms hs).2) := by
  obtain ⟨h1, h2, h3, h4, h5, h6⟩ := hI
  have e1 := enN_le S ms hs
  have e2 := enN_ge (hs := hs) hle
  unfold f_X11_reads_J195
  rw [mo hS, mi5 hS rfl (by omega), cl_n (by omega), h2]
  subst hen
  obtain ⟨M', g1, g2, g3, g4, g5, g6, g7⟩ := m_readsL (K := K) (y := y) (F := F) (m := m) (hd := hd) (en := enN S ms hs) (c := c) hF hm hhd (by omega) hc 61 ms 4096 0 b M hS (by omega) (by omega) e2 (fun k hk => h5 k (by omega)) h4 hr hb (by omega)
  refine ⟨M', g1, g2, ?_, g4, g5, g6, g7⟩
  rw [g3, Nat.zero_add]; rfl
theorem m_L110 {K : fh_K} {y F m S : Nat} {c : Nat → Nat} {M : fh_M} (hS : mS K M y) (hF : F < 40) (hSz : S ≤ 60) (hS1 : 1 ≤ S) (hc : ∀ k, c k < 256) (h1 : M.1 (y + 8) F = nI S) (h5 : ∀ k, k < S → M.1 (y + 7) (60 * F + k) = nI (c k)) (v2 v3 v4 : Int32) :
    ∀ (n k : Nat), S - 1 - k < n → k ≤ S - 1 → f_X11_reads_L110 K n y (nI F) v2 v3 v4 (nI (smN c k)) (nI k) M = f_X11_reads_J141 K y (nI F) v2 v3 v4 (nI (smN c (S - 1))) M := by
  intro n
  induction n with
  | zero => intro k h; exact absurd h (Nat.not_lt_zero _)
  | succ n ih =>
    intro k hn hk
    unfold f_X11_reads_L110
    rw [mo hS, mi11 hS rfl (by omega), cl_n (by omega), h1, n_1, n_m hS1]
    by_cases h : k < S - 1
    · rw [if_neg (nI_ge h (by omega)), m_byteAt hS hF (by omega) (h5 k (by omega))]
      simp only [Option.bind_some]
      rw [nI_add, nI_add]
      exact ih (k + 1) (by omega) (by omega)
    · rw [if_pos (nI_le (by omega) (by omega)), show k = S - 1 by omega]
theorem m_J141 {K : fh_K} {y F m S ms hd : Nat} {c mk : Nat → Nat} {M : fh_M} (hS : mS K M y) (hF : F < 40) (hm : m < 12) (hhd : hd < 4096) (hSz : S ≤ 60) (hc : ∀ k, c k < 256) (hms : 1 ≤ ms) (hI : mIn M y F m S ms 1 hd c mk) (hle : ms ≤ S) (hr : M.1 y 25 = nI 0) (hb : M.1 y 26 = nI 0) :
    ∃ M', f_X11_reads_J141 K y (nI F) (nI m) (nI S) (if ms < S then 1 else 0) (nI (smN c (S - 1))) M = some (1, M') ∧ mE y M M' ∧ mOut M M' y (rdL c hd S ms 1) (rdB c hd S ms 1) := by
  have hI' := hI
  obtain ⟨h1, h2, h3, h4, h5, h6⟩ := hI
  have hE1 : ∀ v, mE y M (fh_si M y 26 v) := fun v => mE_si (Or.inl ⟨rfl, Or.inr rfl⟩)
  have main : ∀ (s b en : Nat), s ≤ 1 → en = enN S ms 1 → nI S - nI s = nI en → b = b0N c S ms 1 → ∃ M', f_X11_reads_J195 K y (nI F) (nI m) (nI S - nI s) (fh_si M y 26 (nI 0 + nI b)) = some (1, M') ∧ mE y M M' ∧ mOut M M' y (rdL c hd S ms 1) (rdB c hd S ms 1) := by
    intro s b en _ hen hse hb0
    rw [hse]
    obtain ⟨M', g1, g2, g3, g4, g5, g6, g7⟩ := m_J195 (b := b) (M := fh_si M y 26 (nI 0 + nI b)) (mS_si hS _ _ _) hF hm hhd hSz hc hms (mIn_E hI' (hE1 _)) hen hle (by rw [fh_si_1, if_neg (by omega)]; exact hr) (by rw [fh_si_1, if_pos ⟨rfl, rfl⟩, nI_add, Nat.zero_add])
    refine ⟨M', g1, mE_tr (hE1 _) g2, g3, ?_, ?_, ?_, ?_⟩
    · rw [g4, hb0]; rfl
    · rw [g5]; congr 1; funext j; rw [fh_si_1, if_neg (by omega)]
    · rw [g6]; congr 1; funext j; rw [fh_si_1, if_neg (by omega)]
    · rw [g7]; congr 1; funext j; rw [fh_si_1, if_neg (by omega)]
  have hbig : smN c (S - 1) < 2 ^ 31 := by have := smN_le c hc (S - 1); omega
  unfold f_X11_reads_J141
  rw [mo hS, hb]
  by_cases hlt : ms < S
  · rw [if_pos hlt, if_neg (show ¬ (1 : Int32) = 0 by decide), mi11 hS rfl (by omega), cl_n (by omega), h1, n_1, n_m (by omega : 1 ≤ S), m_byteAt hS hF (by omega) (h5 (S - 1) (by omega))]
    simp only [Option.bind_some]
    rw [n_256, pk_rem hbig (by omega) (by omega)]
    unfold f_X11_reads_J177 f_X11_reads_J178 f_X11_reads_J193
    simp only [mo hS, fb_eq, ← n_1]
    simp only [show ¬ (1 : Int32) = 0 by decide, if_false]
    by_cases hs : smN c (S - 1) % 256 = c (S - 1)
    · rw [if_pos (by rw [hs])]
      exact main 1 0 (S - 1) (by omega) (by unfold enN; rw [if_pos ⟨rfl, hlt⟩]) (n_m (by omega)) (by unfold b0N; rw [if_pos rfl, if_pos ⟨hlt, hs⟩])
    · have := hc (S - 1)
      rw [if_neg (fun q => hs (n_inj (by omega) (by omega) q))]
      exact main 1 1 (S - 1) (by omega) (by unfold enN; rw [if_pos ⟨rfl, hlt⟩]) (n_m (by omega)) (by unfold b0N; rw [if_pos rfl, if_neg (fun q => hs q.2)])
  · rw [if_neg hlt, if_pos rfl]
    unfold f_X11_reads_J177 f_X11_reads_J178 f_X11_reads_J193
    rw [mo hS, fb_eq, if_pos rfl]
    exact main 0 1 S (by omega) (by unfold enN; rw [if_neg (fun q => hlt q.2)]) (n_m (by omega)) (by unfold b0N; rw [if_pos rfl, if_neg (fun q => hlt q.1)])
theorem m_J66 {K : fh_K} {y F m S ms hs hd : Nat} {c mk : Nat → Nat} {M : fh_M} (hS : mS K M y) (hF : F < 40) (hm : m < 12) (hhd : hd < 4096) (hSz : S ≤ 60) (hc : ∀ k, c k < 256) (hms : 1 ≤ ms) (hhs : hs ≤ 1) (hI : mIn M y F m S ms hs hd c mk) (hle : ms ≤ S) (hr : M.1 y 25 = nI 0) (hb : M.1 y 26 = nI 0) :
    ∃ M', f_X11_reads_J66 K y (nI F) (nI m) M = some (1, M') ∧ mE y M M' ∧ mOut M M' y (rdL c hd S ms hs) (rdB c hd S ms hs) := by
  have hI' := hI
  obtain ⟨h1, h2, h3, h4, h5, h6⟩ := hI
  unfold f_X11_reads_J66
  rw [mo hS, mi11 hS rfl (by omega), mi7 hS rfl (by omega), cl_n (by omega), cl_n (by omega), h1, h3]
  rcases (show hs = 0 ∨ hs = 1 by omega) with rfl | rfl
  · rw [if_pos (show nI 0 = 0 from rfl)]
    obtain ⟨M', g1, g2, g3⟩ := m_J195 (b := 0) (en := S) hS hF hm hhd hSz hc hms hI' (by unfold enN; rw [if_neg (fun q => by omega)]) hle hr hb
    refine ⟨M', g1, g2, ?_⟩
    unfold rdB b0N
    rw [if_neg (by omega)]
    exact g3
  · rw [if_neg (show ¬ nI 1 = 0 by decide), mi5 hS rfl (by omega), h2]
    have e : (if nI S ≤ nI ms then f_X11_reads_J102 K y (nI F) (nI m) (nI S) 0 M else f_X11_reads_J102 K y (nI F) (nI m) (nI S) 1 M) = f_X11_reads_J102 K y (nI F) (nI m) (nI S) (if ms < S then 1 else 0) M := by
      by_cases hlt : ms < S
      · rw [if_neg (nI_ge hlt (by omega)), if_pos hlt]
      · rw [if_pos (nI_le (by omega) (by omega)), if_neg hlt]
    rw [e]
    unfold f_X11_reads_J102
    have := m_L110 (m := m) hS hF hSz (by omega) hc h1 h5 (nI m) (nI S) (if ms < S then 1 else 0) 4096 0 (by omega) (by omega)
    rw [show (0 : Int32) = nI (smN c 0) from rfl, show (nI (smN c 0)) = nI 0 from rfl] at *
    rw [this]
    exact m_J141 hS hF hm hhd hSz hc hms hI' hle hr hb
theorem m_L29 {K : fh_K} {y F m S ms hs hd : Nat} {c mk : Nat → Nat} {M : fh_M} (hS : mS K M y) (hF : F < 40) (hm : m < 12) (hSz : S ≤ 60) (hc : ∀ k, c k < 256) (hmk : ∀ k, mk k < 256) (hms4 : ms ≤ 4) (hI : mIn M y F m S ms hs hd c mk) (hle : ms ≤ S) :
    ∀ (n k : Nat), ms - k < n → k ≤ ms → f_X11_reads_L29 K n y (nI F) (nI m) (nI k) M = if (∀ j, j < ms → k ≤ j → c j = mk j) then f_X11_reads_J66 K y (nI F) (nI m) M else some (0, M) := by
  obtain ⟨h1, h2, h3, h4, h5, h6⟩ := hI
  intro n
  induction n with
  | zero => intro k h; exact absurd h (Nat.not_lt_zero _)
  | succ n ih =>
    intro k hn hk
    unfold f_X11_reads_L29
    rw [mo hS, mi5 hS rfl (by omega), cl_n (by omega), h2]
    by_cases h : k < ms
    · have e : (4 : Int32) * nI m + nI k = nI (4 * m + k) := by rw [n_4, pk_mul, nI_add]
      rw [if_neg (nI_ge h (by omega)), m_byteAt hS hF (by omega) (h5 k (by omega))]
      simp only [Option.bind_some]
      rw [mi4 hS e (by omega), e, cl_n (by omega), h6 k h]
      have q1 := hc k
      have q2 := hmk k
      by_cases hq : c k = mk k
      · rw [if_pos (by rw [hq]), nI_1, ih (k + 1) (by omega) (by omega)]
        by_cases hall : ∀ j, j < ms → k ≤ j → c j = mk j
        · rw [if_pos hall, if_pos (fun j hj hj2 => hall j hj (by omega))]
        · rw [if_neg hall, if_neg]
          intro hall2
          apply hall
          intro j hj hj2
          by_cases ej : j = k
          · rw [ej]; exact hq
          · exact hall2 j hj (by omega)
      · rw [if_neg (fun z => hq (n_inj (by omega) (by omega) z)), if_neg (fun hall => hq (hall k h (Nat.le_refl _)))]
    · rw [if_pos (nI_le (by omega) (by omega)), if_pos (fun j hj hj2 => by omega)]
/-- THE MODEL READS a file by a make -/
theorem m_reads {K : fh_K} {y F m S ms hs hd : Nat} {c mk : Nat → Nat} {M : fh_M} (hS : mS K M y) (hF : F < 40) (hm : m < 12) (hhd : hd < 4096) (hSz : S ≤ 60) (hc : ∀ k, c k < 256) (hmk : ∀ k, mk k < 256) (hms : 1 ≤ ms) (hms4 : ms ≤ 4) (hhs : hs ≤ 1) (hI : mIn M y F m S ms hs hd c mk) :
    ∃ M', mE y M M' ∧ ((mkB c mk S ms ∧ f_X11_reads K M y (nI F) (nI m) = some (1, M') ∧ mOut M M' y (rdL c hd S ms hs) (rdB c hd S ms hs)) ∨ (¬ mkB c mk S ms ∧ f_X11_reads K M y (nI F) (nI m) = some (0, M'))) := by
  unfold f_X11_reads
  rw [mo hS, fb_eq, fb_eq]
  generalize hM3 : fh_si (fh_si M y 25 0) y 26 0 = M3
  have hE : mE y M M3 := by rw [← hM3]; exact mE_tr (mE_si (Or.inl ⟨rfl, Or.inl rfl⟩)) (mE_si (Or.inl ⟨rfl, Or.inr rfl⟩))
  have hS3 := mE_S hE hS
  have hI3 := mIn_E hI hE
  have r0 : M3.1 y 25 = nI 0 := by rw [← hM3, fh_si_1, if_neg (by omega), fh_si_1, if_pos ⟨rfl, rfl⟩]; rfl
  have b0 : M3.1 y 26 = nI 0 := by rw [← hM3, fh_si_1, if_pos ⟨rfl, rfl⟩]; rfl
  have keep : ∀ cc, cc = 20 ∨ cc = 21 ∨ cc = 22 → M3.1 (y + cc) = M.1 (y + cc) := by
    intro cc hcc
    funext j
    rw [← hM3, fh_si_1, if_neg (by omega), fh_si_1, if_neg (by omega)]
  rw [mi11 hS3 rfl (by omega), mi5 hS3 rfl (by omega), cl_n (by omega), cl_n (by omega), hI3.1, hI3.2.1]
  by_cases hle : ms ≤ S
  · rw [if_pos (nI_le hle (by omega)), n_0, m_L29 hS3 hF hm hSz hc hmk hms4 hI3 hle 4096 0 (by omega) (by omega)]
    by_cases hall : ∀ j, j < ms → 0 ≤ j → c j = mk j
    · rw [if_pos hall]
      obtain ⟨M', g1, g2, g3, g4, g5, g6, g7⟩ := m_J66 hS3 hF hm hhd hSz hc hms hhs hI3 hle r0 b0
      refine ⟨M', mE_tr hE g2, Or.inl ⟨⟨hle, fun k hk => hall k hk (Nat.zero_le _)⟩, g1, g3, g4, ?_, ?_, ?_⟩⟩
      · rw [g5, keep 20 (by omega)]
      · rw [g6, keep 21 (by omega)]
      · rw [g7, keep 22 (by omega)]
    · rw [if_neg hall]
      exact ⟨M3, hE, Or.inr ⟨fun q => hall (fun j hj _ => q.2 j hj), rfl⟩⟩
  · rw [if_neg (nI_ge (by omega) (by omega))]
    exact ⟨M3, hE, Or.inr ⟨fun q => hle q.1, rfl⟩⟩
