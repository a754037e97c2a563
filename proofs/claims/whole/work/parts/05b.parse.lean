theorem sh_31 : ∀ n, n < 32 → ((nI n &&& 31).toBitVec.smod 32).toNat = n := by decide
theorem bt1 {h t : Nat} (hh : h < 65536) (ht : t < 32) : ((nI h >>> (nI t &&& 31)) &&& 1) = 1 ↔ h.testBit t = true := by
  have e1 : nI h >>> (nI t &&& 31) = nI (h / 2 ^ t) := pk_shrN (by omega) _ t (sh_31 t ht)
  have hlt : h / 2 ^ t < 65536 := Nat.lt_of_le_of_lt (Nat.div_le_self _ _) hh
  have e2 : nI (h / 2 ^ t) &&& 1 = nI (h / 2 ^ t % 2) := pk_andN (by omega) 1 (by decide)
  rw [e1, e2, n_1, nI_eq (by omega) (by omega), Nat.testBit_eq_decide_div_mod_eq]
  simp
/-- the records from place p on, and the bends -/
def pz (c : Nat → Nat) (h en : Nat) : Nat → Nat → List (Nat × Nat × Nat) × Nat
  | 0, _ => ([], 0)
  | n + 1, p => if p < en then (if p + 1 < en ∧ p + 2 + c (p + 1) ≤ en then (if c p < 12 ∧ h.testBit (c p) = true then ((c p, p + 2, c (p + 1)) :: (pz c h en n (p + 2 + c (p + 1))).1, (pz c h en n (p + 2 + c (p + 1))).2) else ((pz c h en n (p + 2 + c (p + 1))).1, (pz c h en n (p + 2 + c (p + 1))).2 + 1)) else ([], 1)) else ([], 0)
theorem pz_len (c : Nat → Nat) (h en : Nat) : ∀ n p, p ≤ en → 2 * (pz c h en n p).1.length + p ≤ en := by
  intro n
  induction n with
  | zero => intro p hp; simpa [pz] using hp
  | succ n ih =>
    intro p hp
    unfold pz
    by_cases h1 : p < en
    · rw [if_pos h1]
      by_cases h2 : p + 1 < en ∧ p + 2 + c (p + 1) ≤ en
      · rw [if_pos h2]
        have := ih (p + 2 + c (p + 1)) h2.2
        by_cases h3 : c p < 12 ∧ h.testBit (c p) = true
        · rw [if_pos h3]; simp only [List.length_cons]; omega
        · rw [if_neg h3]; simp only; omega
      · rw [if_neg h2]; simp only [List.length_nil]; omega
    · rw [if_neg h1]; simp only [List.length_nil]; omega
theorem pz_bends (c : Nat → Nat) (h en : Nat) : ∀ n p, (pz c h en n p).2 ≤ en - p := by
  intro n
  induction n with
  | zero => intro p; simp [pz]
  | succ n ih =>
    intro p
    unfold pz
    by_cases h1 : p < en
    · rw [if_pos h1]
      by_cases h2 : p + 1 < en ∧ p + 2 + c (p + 1) ≤ en
      · rw [if_pos h2]
        have := ih (p + 2 + c (p + 1))
        by_cases h3 : c p < 12 ∧ h.testBit (c p) = true
        · rw [if_pos h3]; simp only; omega
        · rw [if_neg h3]; simp only; omega
      · rw [if_neg h2]; simp only; omega
    · rw [if_neg h1]; simp only; omega
/-- a row filled from place r on -/
def lf (f : Nat → Int32) (r : Nat) : List Nat → Nat → Int32
  | [] => f
  | t :: l => lf (fun j => if j = r then nI t else f j) (r + 1) l
theorem lf_lo : ∀ (l : List Nat) (f : Nat → Int32) (r j : Nat), j < r → lf f r l j = f j := by
  intro l
  induction l with
  | nil => intro f r j h; rfl
  | cons t l ih =>
    intro f r j h
    show lf _ (r + 1) l j = f j
    rw [ih _ _ _ (by omega)]
    exact if_neg (by omega)
theorem lf_at : ∀ (l : List Nat) (f : Nat → Int32) (r i : Nat) (h : i < l.length), lf f r l (r + i) = nI l[i] := by
  intro l
  induction l with
  | nil => intro f r i h; exact absurd h (Nat.not_lt_zero _)
  | cons t l ih =>
    intro f r i h
    show lf _ (r + 1) l (r + i) = _
    cases i with
    | zero =>
      rw [lf_lo _ _ _ _ (by omega)]
      exact if_pos rfl
    | succ i =>
      have := ih (fun j => if j = r then nI t else f j) (r + 1) i (by simpa using h)
      rw [show r + (i + 1) = r + 1 + i by omega, this]
      rfl
/-- the model's scratch of a reading -/
def mq (y a k : Nat) : Prop := (a = y ∧ (k = 25 ∨ k = 26)) ∨ a = y + 20 ∨ a = y + 21 ∨ a = y + 22
def mE (y : Nat) (M M' : fh_M) : Prop := M'.2 = M.2 ∧ ∀ a k, ¬ mq y a k → M'.1 a k = M.1 a k
theorem mE_rf (y : Nat) (M : fh_M) : mE y M M := ⟨rfl, fun _ _ _ => rfl⟩
theorem mE_tr {y : Nat} {M M1 M2 : fh_M} (h : mE y M M1) (h2 : mE y M1 M2) : mE y M M2 := ⟨h2.1.trans h.1, fun a k q => (h2.2 a k q).trans (h.2 a k q)⟩
theorem mE_si {y : Nat} {M : fh_M} {a k : Nat} {v : Int32} (h : mq y a k) : mE y M (fh_si M a k v) := ⟨rfl, fun b j q => by
  rw [fh_si_1, if_neg]
  rintro ⟨rfl, rfl⟩
  exact q h⟩
theorem mE_S {K : fh_K} {y : Nat} {M M' : fh_M} (h : mE y M M') (hS : mS K M y) : mS K M' y := by
  refine ⟨hS.1, ?_, hS.2.2⟩
  rw [h.1]; exact hS.2.1
theorem m_byteAt {K : fh_K} {M : fh_M} {y F k v : Nat} (hS : mS K M y) (hF : F < 40) (hk : k < 60) (hv : M.1 (y + 7) (60 * F + k) = nI v) : f_X11_byteAt K M y (nI F) (nI k) = some (nI v) := by
  have e : (60 : Int32) * nI F + nI k = nI (60 * F + k) := by rw [n_60, pk_mul, nI_add]
  unfold f_X11_byteAt
  rw [mo hS, mi10 hS e (by omega), e, cl_n (by omega), hv]
theorem m_lies (K : fh_K) (M : fh_M) (v lo hi : Int32) : f_X11_lies K M v lo hi = some (if v < lo then 0 else if hi < v then 0 else 1) := by
  unfold f_X11_lies
  by_cases h : v < lo <;> by_cases h2 : hi < v <;> simp [h, h2]
def mAdd (M : fh_M) (y r : Nat) (t bg ln : Int32) : fh_M := fh_si (fh_si (fh_si (fh_si M (y + 20) r t) (y + 21) r bg) (y + 22) r ln) y 25 (nI (r + 1))
theorem m_addR {β : Type} {K : fh_K} {M : fh_M} {y r : Nat} {t bg ln : Int32} {g : fh_M → Option β} (hS : mS K M y) (hr : M.1 y 25 = nI r) (hlt : r < 30) :
    (fo K 11 (some y) fun a49 => fi K 13 (M.2.2 a49 27) (M.1 a49 25) fun a50 => fb (fh_si M a50 (M.1 a49 25).toNatClampNeg t) fun M51 => fi K 13 (M51.2.2 a49 28) (M51.1 a49 25) fun a52 => fb (fh_si M51 a52 (M51.1 a49 25).toNatClampNeg bg) fun M53 => fi K 13 (M53.2.2 a49 29) (M53.1 a49 25) fun a54 => fb (fh_si M53 a54 (M53.1 a49 25).toNatClampNeg ln) fun M55 => fb (fh_si M55 a49 25 ((M55.1 a49 25) + 1)) fun M56 => g M56) = g (mAdd M y r t bg ln) := by
  rw [mo hS, mi27 hS hr (by omega), fb_eq, hr, cl_n (by omega)]
  have h1 : (fh_si M (y + 20) r t).1 y 25 = nI r := by rw [fh_si_1, if_neg (by omega)]; exact hr
  rw [mi28 (mS_si hS _ _ _) h1 (by omega), fb_eq, h1, cl_n (by omega)]
  have h2 : (fh_si (fh_si M (y + 20) r t) (y + 21) r bg).1 y 25 = nI r := by rw [fh_si_1, if_neg (by omega)]; exact h1
  rw [mi29 (mS_si (mS_si hS _ _ _) _ _ _) h2 (by omega), fb_eq, h2, cl_n (by omega)]
  have h3 : (fh_si (fh_si (fh_si M (y + 20) r t) (y + 21) r bg) (y + 22) r ln).1 y 25 = nI r := by rw [fh_si_1, if_neg (by omega)]; exact h2
  rw [fb_eq, h3, nI_1]
  rfl
theorem mAdd_E (M : fh_M) (y r : Nat) (t bg ln : Int32) : mE y M (mAdd M y r t bg ln) := mE_tr (mE_tr (mE_tr (mE_si (Or.inr (Or.inl rfl))) (mE_si (Or.inr (Or.inr (Or.inl rfl))))) (mE_si (Or.inr (Or.inr (Or.inr rfl))))) (mE_si (Or.inl ⟨rfl, Or.inl rfl⟩))
theorem mAdd_25 (M : fh_M) (y r : Nat) (t bg ln : Int32) : (mAdd M y r t bg ln).1 y 25 = nI (r + 1) := by simp [mAdd, fh_si_1]
theorem mAdd_26 (M : fh_M) (y r : Nat) (t bg ln : Int32) : (mAdd M y r t bg ln).1 y 26 = M.1 y 26 := by simp [mAdd, fh_si_1]
theorem mAdd_20 (M : fh_M) (y r : Nat) (t : Nat) (bg ln : Int32) : (mAdd M y r (nI t) bg ln).1 (y + 20) = fun j => if j = r then nI t else M.1 (y + 20) j := by funext j; simp [mAdd, fh_si_1]
theorem mAdd_21 (M : fh_M) (y r : Nat) (t : Int32) (bg : Nat) (ln : Int32) : (mAdd M y r t (nI bg) ln).1 (y + 21) = fun j => if j = r then nI bg else M.1 (y + 21) j := by funext j; simp [mAdd, fh_si_1]
theorem mAdd_22 (M : fh_M) (y r : Nat) (t bg : Int32) (ln : Nat) : (mAdd M y r t bg (nI ln)).1 (y + 22) = fun j => if j = r then nI ln else M.1 (y + 22) j := by funext j; simp [mAdd, fh_si_1]
/-- the step of the loop over records, model -/
theorem m_readsL {K : fh_K} {y F m hd en : Nat} {c : Nat → Nat} (hF : F < 40) (hm : m < 12) (hhd : hd < 4096) (hen : en ≤ 60) (hc : ∀ k, c k < 256) :
    ∀ (n p N r b : Nat) (M : fh_M), mS K M y → en - p < n → en - p < N → p ≤ en → (∀ k, k < en → M.1 (y + 7) (60 * F + k) = nI (c k)) → M.1 (y + 4) m = nI hd → M.1 y 25 = nI r → M.1 y 26 = nI b → 2 * r + (en - p) < 60 →
      ∃ M', f_X11_reads_L203 K N y (nI F) (nI m) (nI en) (nI p) M = some (1, M') ∧ mE y M M' ∧ M'.1 y 25 = nI (r + (pz c hd en n p).1.length) ∧ M'.1 y 26 = nI (b + (pz c hd en n p).2) ∧
        M'.1 (y + 20) = lf (M.1 (y + 20)) r ((pz c hd en n p).1.map (fun q => q.1)) ∧ M'.1 (y + 21) = lf (M.1 (y + 21)) r ((pz c hd en n p).1.map (fun q => q.2.1)) ∧ M'.1 (y + 22) = lf (M.1 (y + 22)) r ((pz c hd en n p).1.map (fun q => q.2.2)) := by
  intro n
  induction n with
  | zero => intro p N r b M _ h; exact absurd h (Nat.not_lt_zero _)
  | succ n ih =>
    intro p N r b M hS hn hN hp hby hh hr hb hrp
    obtain ⟨N, rfl⟩ : ∃ q, N = q + 1 := ⟨N - 1, by omega⟩
    unfold f_X11_reads_L203 pz
    by_cases h1 : p < en
    · have hle : ¬ nI en ≤ nI p := nI_ge h1 (by omega)
      rw [if_pos h1]
      simp only [if_neg hle]
      rw [mo hS, m_byteAt hS hF (by omega) (hby p h1)]
      simp only [Option.bind_some]
      -- the length
      have hlen : ∃ l : Nat, l < 256 ∧ (p + 1 < en → l = c (p + 1)) ∧ (¬ p + 1 < en → l = 60) ∧
          (if nI en ≤ nI p + 1 then f_X11_reads_J240 K (f_X11_reads_L203 K N) y (nI F) (nI m) (nI en) (nI p) (nI (c p)) 60 M
            else (f_X11_byteAt K M y (nI F) (nI p + 1)).bind fun r35 => f_X11_reads_J240 K (f_X11_reads_L203 K N) y (nI F) (nI m) (nI en) (nI p) (nI (c p)) r35 M) =
          f_X11_reads_J240 K (f_X11_reads_L203 K N) y (nI F) (nI m) (nI en) (nI p) (nI (c p)) (nI l) M := by
        by_cases h2 : p + 1 < en
        · refine ⟨c (p + 1), hc _, fun _ => rfl, fun q => absurd h2 q, ?_⟩
          rw [nI_1, if_neg (nI_ge h2 (by omega)), m_byteAt hS hF (by omega) (hby (p + 1) h2)]
          rfl
        · refine ⟨60, by omega, fun q => absurd q h2, fun _ => rfl, ?_⟩
          rw [nI_1, if_pos (nI_le (by omega) (by omega))]
          rfl
      obtain ⟨l, hl, hl1, hl2, e⟩ := hlen
      rw [e]
      clear e
      have hw : (p + 1 < en ∧ p + 2 + c (p + 1) ≤ en) ↔ p + 2 + l ≤ en := by
        by_cases h2 : p + 1 < en
        · rw [hl1 h2]; exact ⟨fun q => q.2, fun q => ⟨h2, q⟩⟩
        · rw [hl2 h2]; exact ⟨fun q => absurd q.1 h2, fun q => by omega⟩
      have hlc : p + 2 + l ≤ en → l = c (p + 1) := fun q => hl1 (hw.mpr q).1
      -- is it last?
      unfold f_X11_reads_J240
      have e3 : nI p + 2 + nI l = nI (p + 2 + l) := by rw [n_2, nI_add, nI_add]
      rw [e3]
      -- has the tag
      have htag : ∀ s0 : Int32, f_X11_reads_J258 K (f_X11_reads_L203 K N) y (nI F) (nI m) (nI en) (nI p) (nI (c p)) (nI l) s0 M = f_X11_reads_J286 K (f_X11_reads_L203 K N) y (nI F) (nI m) (nI en) (nI p) (nI (c p)) (nI l) s0 (if c p < 12 ∧ hd.testBit (c p) = true then 1 else 0) M := by
        intro s0
        unfold f_X11_reads_J258 f_X11_reads_J285
        by_cases h4 : c p < 12
        · rw [n_12, if_neg (nI_ge h4 (by omega)), mo hS, mi6 hS rfl (by omega), cl_n (by omega), hh]
          unfold f_X11_has
          by_cases h5 : hd.testBit (c p) = true
          · rw [if_pos ((bt1 (by omega) (by omega)).mpr h5), if_pos ⟨h4, h5⟩]
            rfl
          · rw [if_neg (fun q => h5 ((bt1 (by omega) (by omega)).mp q)), if_neg (fun q => h5 q.2)]
            rfl
        · have := hc p
          rw [n_12, if_pos (nI_le (by omega) (by omega)), if_neg (fun q => h4 q.1)]
      -- a bend, or none, and the rest
      have hbend : ∀ (s0 t0 : Int32), (s0 = 0 ∨ s0 = 1) → (t0 = 0 ∨ t0 = 1) → f_X11_reads_J286 K (f_X11_reads_L203 K N) y (nI F) (nI m) (nI en) (nI p) (nI (c p)) (nI l) s0 t0 M =
          f_X11_reads_J308 K (f_X11_reads_L203 K N) y (nI F) (nI m) (nI en) (nI p) (nI (c p)) (nI l) s0 t0 (if t0 = 1 ∧ s0 = 0 then 0 else 1) (nI b) (some y) M := by
        intro s0 t0 hs0 ht0
        unfold f_X11_reads_J286 f_X11_reads_J307
        rw [mo hS, hb]
        rcases hs0 with rfl | rfl <;> rcases ht0 with rfl | rfl <;> rfl
      have hJ8 : ∀ (s0 t0 b1 : Int32), f_X11_reads_J308 K (f_X11_reads_L203 K N) y (nI F) (nI m) (nI en) (nI p) (nI (c p)) (nI l) s0 t0 b1 (nI b) (some y) M =
          (if t0 = 0 then f_X11_reads_J367 K (f_X11_reads_L203 K N) y (nI F) (nI m) (nI en) (nI p) (nI l) s0 (fh_si M y 26 (nI b + b1)) else if s0 = 0 then f_X11_reads_J367 K (f_X11_reads_L203 K N) y (nI F) (nI m) (nI en) (nI p) (nI l) s0 (mAdd (fh_si M y 26 (nI b + b1)) y r (nI (c p)) (nI (p + 2)) (nI l)) else f_X11_reads_J367 K (f_X11_reads_L203 K N) y (nI F) (nI m) (nI en) (nI p) (nI l) s0 (fh_si M y 26 (nI b + b1))) := by
        intro s0 t0 b1
        unfold f_X11_reads_J308
        rw [mo hS, fb_eq]
        have h25 : (fh_si M y 26 (nI b + b1)).1 y 25 = nI r := by rw [fh_si_1, if_neg (by omega)]; exact hr
        have e9 : nI p + 2 = nI (p + 2) := by rw [n_2, nI_add]
        rw [m_addR (g := fun M56 => f_X11_reads_J367 K (f_X11_reads_L203 K N) y (nI F) (nI m) (nI en) (nI p) (nI l) s0 M56) (mS_si hS y 26 (nI b + b1)) h25 (by omega), e9]
      have hE1 : ∀ v, mE y M (fh_si M y 26 v) := fun v => mE_si (Or.inl ⟨rfl, Or.inr rfl⟩)
      by_cases h6 : p + 2 + l ≤ en
      · rw [if_pos (nI_le h6 (by omega)), htag, hbend 0 _ (Or.inl rfl) (by split <;> simp), if_pos (hw.mpr h6), hJ8]
        have hl3 := hlc h6
        rw [← hl3]
        by_cases h7 : c p < 12 ∧ hd.testBit (c p) = true
        · simp only [if_pos h7, show ¬ (1 : Int32) = 0 by decide, and_self, ↓reduceIte]
          unfold f_X11_reads_J367 f_X11_reads_J383
          rw [if_pos (rfl : (0 : Int32) = 0), e3]
          generalize hM1 : mAdd (fh_si M y 26 (nI b + 0)) y r (nI (c p)) (nI (p + 2)) (nI l) = M1
          have hE : mE y M M1 := by rw [← hM1]; exact mE_tr (hE1 _) (mAdd_E _ _ _ _ _ _)
          have h7' : ∀ k, k < en → M1.1 (y + 7) (60 * F + k) = nI (c k) := fun k hk => by rw [hE.2 _ _ (by unfold mq; omega)]; exact hby k hk
          have h4' : M1.1 (y + 4) m = nI hd := by rw [hE.2 _ _ (by unfold mq; omega)]; exact hh
          have h26 : M1.1 y 26 = nI b := by rw [← hM1, mAdd_26, fh_si_1, if_pos ⟨rfl, rfl⟩]; rw [n_0, nI_add]; rfl
          have hb20 : ∀ j, (fh_si M y 26 (nI b + 0)).1 (y + 20) j = M.1 (y + 20) j := fun j => by rw [fh_si_1, if_neg (by omega)]
          have hb21 : ∀ j, (fh_si M y 26 (nI b + 0)).1 (y + 21) j = M.1 (y + 21) j := fun j => by rw [fh_si_1, if_neg (by omega)]
          have hb22 : ∀ j, (fh_si M y 26 (nI b + 0)).1 (y + 22) j = M.1 (y + 22) j := fun j => by rw [fh_si_1, if_neg (by omega)]
          obtain ⟨M', g1, g2, g3, g4, g5, g6, g7⟩ := ih (p + 2 + l) N (r + 1) b M1 (mE_S hE hS) (by omega) (by omega) h6 h7' h4' (by rw [← hM1, mAdd_25]) h26 (by omega)
          refine ⟨M', g1, mE_tr hE g2, ?_, g4, ?_, ?_, ?_⟩
          · rw [g3]; simp only [List.length_cons]; congr 1; omega
          · rw [g5, ← hM1, mAdd_20]; simp only [hb20]; rfl
          · rw [g6, ← hM1, mAdd_21]; simp only [hb21]; rfl
          · rw [g7, ← hM1, mAdd_22]; simp only [hb22]; rfl
        · simp only [if_neg h7, show ¬ (0 : Int32) = 1 by decide, false_and, ↓reduceIte]
          unfold f_X11_reads_J367 f_X11_reads_J383
          rw [if_pos (rfl : (0 : Int32) = 0), e3]
          have hE := hE1 (nI b + 1)
          obtain ⟨M', g1, g2, g3, g4, g5, g6, g7⟩ := ih (p + 2 + l) N r (b + 1) (fh_si M y 26 (nI b + 1)) (mS_si hS _ _ _) (by omega) (by omega) h6 (fun k hk => by rw [hE.2 _ _ (by unfold mq; omega)]; exact hby k hk) (by rw [hE.2 _ _ (by unfold mq; omega)]; exact hh) (by rw [fh_si_1, if_neg (by omega)]; exact hr) (by rw [fh_si_1, if_pos ⟨rfl, rfl⟩, nI_1]) (by omega)
          refine ⟨M', g1, mE_tr hE g2, g3, ?_, ?_, ?_, ?_⟩
          · rw [g4]; congr 1; omega
          · rw [g5]; congr 1; funext j; rw [fh_si_1, if_neg (by omega)]
          · rw [g6]; congr 1; funext j; rw [fh_si_1, if_neg (by omega)]
          · rw [g7]; congr 1; funext j; rw [fh_si_1, if_neg (by omega)]
      · rw [if_neg (nI_ge (by omega) (by omega)), htag, hbend 1 _ (Or.inr rfl) (by split <;> simp), if_neg (fun q => h6 (hw.mp q)), hJ8]
        have e10 : (if (if c p < 12 ∧ hd.testBit (c p) = true then (1 : Int32) else 0) = 1 ∧ (1 : Int32) = 0 then (0 : Int32) else 1) = 1 := if_neg (fun q => by cases q.2)
        rw [e10, if_neg (show ¬ (1 : Int32) = 0 by decide)]
        simp only [ite_self]
        unfold f_X11_reads_J367 f_X11_reads_J383
        rw [if_neg (show ¬ (1 : Int32) = 0 by decide)]
        have hE := hE1 (nI b + 1)
        obtain ⟨N, rfl⟩ : ∃ q, N = q + 1 := ⟨N - 1, by omega⟩
        unfold f_X11_reads_L203
        rw [if_pos (nI_le (Nat.le_refl _) (by omega))]
        refine ⟨_, rfl, hE, ?_, ?_, ?_, ?_, ?_⟩
        · rw [fh_si_1, if_neg (by omega)]; exact hr
        · rw [fh_si_1, if_pos ⟨rfl, rfl⟩, nI_1]
        · funext j; rw [fh_si_1, if_neg (by omega)]; rfl
        · funext j; rw [fh_si_1, if_neg (by omega)]; rfl
        · funext j; rw [fh_si_1, if_neg (by omega)]; rfl
    · rw [if_neg h1, if_pos (nI_le (by omega) (by omega))]
      exact ⟨M, rfl, mE_rf y M, by simpa using hr, by simpa using hb, rfl, rfl, rfl⟩
