theorem fa_lt (a b : Int32) : a < b ↔ a.toInt < b.toInt := Int32.lt_iff_toInt_lt
theorem fa_le (a b : Int32) : a ≤ b ↔ a.toInt ≤ b.toInt := Int32.le_iff_toInt_le
theorem fa_eq (a b : Int32) : a = b ↔ a.toInt = b.toInt := Int32.toInt_inj.symm
theorem fa_and (a b : Nat) : nI a &&& nI b = nI (a &&& b) := by
  apply Int32.toBitVec_inj.1
  show BitVec.ofNat 32 a &&& BitVec.ofNat 32 b = BitVec.ofNat 32 (a &&& b)
  apply BitVec.eq_of_getLsbD_eq
  intro i hi
  simp [hi]
theorem fa_or (a b : Nat) : nI a ||| nI b = nI (a ||| b) := by
  apply Int32.toBitVec_inj.1
  show BitVec.ofNat 32 a ||| BitVec.ofNat 32 b = BitVec.ofNat 32 (a ||| b)
  apply BitVec.eq_of_getLsbD_eq
  intro i hi
  simp [hi]
theorem shl1 {t : Nat} (ht : t < 31) : (1 : Int32) <<< (nI t &&& 31) = nI (2 ^ t) := by
  have h1 : 2 ^ t < 2 ^ 31 := Nat.pow_lt_pow_right (by omega) ht
  have := pk_shlN (n := 1) (nI t &&& 31) t (sh_31 t (by omega)) (by omega)
  rw [Nat.one_mul] at this
  exact this
theorem or1 {h t : Nat} (ht : t < 31) : nI h ||| ((1 : Int32) <<< (nI t &&& 31)) = nI (h ||| 2 ^ t) := by rw [shl1 ht, fa_or]
/-- the properties of records -/
def hsF (h0 : Nat) (L : List (Nat × Nat × Nat)) : Nat := L.foldl (fun h q => h ||| 2 ^ q.1) h0
def rS (K : fh_K) (M : fh_M) (r : Nat) : Prop := K r = (5, 0) ∧ M.2.2 r 0 = some (r + 1) ∧ M.2.2 r 1 = some (r + 2) ∧ M.2.2 r 2 = some (r + 3) ∧ K (r + 1) = (13, 29) ∧ K (r + 2) = (13, 29) ∧ K (r + 3) = (13, 29)
def rq (r a k : Nat) : Prop := (a = r ∧ (k = 4 ∨ k = 5 ∨ k = 6)) ∨ a = r + 1 ∨ a = r + 2 ∨ a = r + 3
/-- ints alone changed, in the reading's scratch -/
def rI (r : Nat) (M M' : fh_M) : Prop := M'.2 = M.2 ∧ ∀ a k, ¬ rq r a k → M'.1 a k = M.1 a k
theorem rI_rf (r : Nat) (M : fh_M) : rI r M M := ⟨rfl, fun _ _ _ => rfl⟩
theorem rI_tr {r : Nat} {M M1 M2 : fh_M} (h : rI r M M1) (h2 : rI r M1 M2) : rI r M M2 := ⟨h2.1.trans h.1, fun a k q => (h2.2 a k q).trans (h.2 a k q)⟩
theorem rI_si {r : Nat} {M : fh_M} {a k : Nat} {v : Int32} (h : rq r a k) : rI r M (fh_si M a k v) := ⟨rfl, fun b j q => by
  rw [fh_si_1, if_neg]
  rintro ⟨rfl, rfl⟩
  exact q h⟩
theorem rI_S {K : fh_K} {r : Nat} {M M' : fh_M} (h : rI r M M') (hS : rS K M r) : rS K M' r := by
  unfold rS
  rw [h.1]; exact hS
theorem rS_si {K : fh_K} {r : Nat} {M : fh_M} (hS : rS K M r) (a k : Nat) (v : Int32) : rS K (fh_si M a k v) r := hS
theorem ro {α : Type} {K : fh_K} {M : fh_M} {r : Nat} {f : Nat → Option α} (h : rS K M r) : fo K 4 (some r) f = f r := fo_ok h.1
theorem c_holds (K : fh_K) (M : fh_M) {h t : Nat} (hh : h < 65536) (ht : t < 256) : f_X10_holds K M (nI h) (nI t) = some (if t < 12 ∧ h.testBit t = true then 1 else 0) := by
  unfold f_X10_holds
  rw [if_neg (nI_pos (by omega)), n_12]
  by_cases h1 : t < 12
  · rw [if_neg (nI_ge h1 (by omega))]
    by_cases h2 : h.testBit t = true
    · rw [if_pos ((bt1 hh (by omega)).mpr h2), if_pos ⟨h1, h2⟩]
    · rw [if_neg (fun q => h2 ((bt1 hh (by omega)).mp q)), if_neg (fun q => h2 q.2)]
  · rw [if_pos (nI_le (by omega) (by omega)), if_neg (fun q => h1 q.1)]
def rAdd (M : fh_M) (r s h : Nat) (t ln bg : Int32) : fh_M := fh_si (fh_si (fh_si (fh_si (fh_si M (r + 1) s t) (r + 2) s ln) (r + 3) s bg) r 4 (nI (s + 1))) r 5 (nI h)
theorem c_addRecord {K : fh_K} {M : fh_M} {r s h t : Nat} {ln bg : Int32} (hS : rS K M r) (hs : M.1 r 4 = nI s) (hh : M.1 r 5 = nI h) (hlt : s < 29) (ht : t < 12) : f_X4_addRecord K M r (nI t) ln bg = some (rAdd M r s (h ||| 2 ^ t) (nI t) ln bg) := by
  unfold f_X4_addRecord
  rw [ro hS, hs, n_29, if_pos (nI_lt hlt (by omega)), hS.2.1, fi_ok hS.2.2.2.2.1 rfl hlt (by omega), fb_eq, cl_n (by omega)]
  have h1 : (fh_si M (r + 1) s (nI t)).1 r 4 = nI s := by rw [fh_si_1, if_neg (by omega)]; exact hs
  rw [fh_si_22, h1, hS.2.2.1, fi_ok hS.2.2.2.2.2.1 rfl hlt (by omega), fb_eq, cl_n (by omega)]
  have h2 : (fh_si (fh_si M (r + 1) s (nI t)) (r + 2) s ln).1 r 4 = nI s := by rw [fh_si_1, if_neg (by omega)]; exact h1
  rw [fh_si_22, fh_si_22, h2, hS.2.2.2.1, fi_ok hS.2.2.2.2.2.2 rfl hlt (by omega), fb_eq, cl_n (by omega)]
  have h3 : (fh_si (fh_si (fh_si M (r + 1) s (nI t)) (r + 2) s ln) (r + 3) s bg).1 r 4 = nI s := by rw [fh_si_1, if_neg (by omega)]; exact h2
  rw [fb_eq, h3, nI_1, fb_eq]
  have h4 : (fh_si (fh_si (fh_si (fh_si M (r + 1) s (nI t)) (r + 2) s ln) (r + 3) s bg) r 4 (nI (s + 1))).1 r 5 = nI h := by
    rw [fh_si_1, if_neg (by omega), fh_si_1, if_neg (by omega), fh_si_1, if_neg (by omega), fh_si_1, if_neg (by omega)]; exact hh
  rw [h4, or1 (by omega)]
  rfl
theorem rAdd_I (M : fh_M) (r s h : Nat) (t ln bg : Int32) : rI r M (rAdd M r s h t ln bg) := rI_tr (rI_tr (rI_tr (rI_tr (rI_si (Or.inr (Or.inl rfl))) (rI_si (Or.inr (Or.inr (Or.inl rfl))))) (rI_si (Or.inr (Or.inr (Or.inr rfl))))) (rI_si (Or.inl ⟨rfl, Or.inl rfl⟩))) (rI_si (Or.inl ⟨rfl, Or.inr (Or.inl rfl)⟩))
theorem rAdd_4 (M : fh_M) (r s h : Nat) (t ln bg : Int32) : (rAdd M r s h t ln bg).1 r 4 = nI (s + 1) := by simp [rAdd, fh_si_1]
theorem rAdd_5 (M : fh_M) (r s h : Nat) (t ln bg : Int32) : (rAdd M r s h t ln bg).1 r 5 = nI h := by simp [rAdd, fh_si_1]
theorem rAdd_6 (M : fh_M) (r s h : Nat) (t ln bg : Int32) : (rAdd M r s h t ln bg).1 r 6 = M.1 r 6 := by simp [rAdd, fh_si_1]
theorem rAdd_t (M : fh_M) (r s h t : Nat) (ln bg : Int32) : (rAdd M r s h (nI t) ln bg).1 (r + 1) = fun j => if j = s then nI t else M.1 (r + 1) j := by funext j; simp [rAdd, fh_si_1]
theorem rAdd_l (M : fh_M) (r s h : Nat) (t : Int32) (ln : Nat) (bg : Int32) : (rAdd M r s h t (nI ln) bg).1 (r + 2) = fun j => if j = s then nI ln else M.1 (r + 2) j := by funext j; simp [rAdd, fh_si_1]
theorem rAdd_p (M : fh_M) (r s h : Nat) (t ln : Int32) (bg : Nat) : (rAdd M r s h t ln (nI bg)).1 (r + 3) = fun j => if j = s then nI bg else M.1 (r + 3) j := by funext j; simp [rAdd, fh_si_1]
/-- the loop over records, class -/
theorem c_readL {K : fh_K} {r ab S hd en : Nat} {c : Nat → Nat} (hhd : hd < 4096) (hen : en ≤ S) (hS60 : S ≤ 60) (hc : ∀ k, c k < 256) (hab : ab ≠ r ∧ ab ≠ r + 1 ∧ ab ≠ r + 2 ∧ ab ≠ r + 3) (hKab : K ab = (13, S)) :
    ∀ (n p N s b h0 d : Nat) (M : fh_M), rS K M r → M.2.2 r 3 = some ab → en - p < n → en - p < N → p ≤ en → d + (en - p) ≤ 60 → (∀ k, k < S → M.1 ab k = nI (c k)) → M.1 r 4 = nI s → M.1 r 5 = nI h0 → M.1 r 6 = nI b → 2 * s + (en - p) < 60 →
      ∃ M', f_X4_readRecords_L6 K N r (nI hd) (nI en) (nI p) (nI d) M = some M' ∧ rI r M M' ∧ M'.1 r 4 = nI (s + (pz c hd en n p).1.length) ∧ M'.1 r 5 = nI (hsF h0 (pz c hd en n p).1) ∧ M'.1 r 6 = nI (b + (pz c hd en n p).2) ∧
        M'.1 (r + 1) = lf (M.1 (r + 1)) s ((pz c hd en n p).1.map (fun q => q.1)) ∧ M'.1 (r + 2) = lf (M.1 (r + 2)) s ((pz c hd en n p).1.map (fun q => q.2.2)) ∧ M'.1 (r + 3) = lf (M.1 (r + 3)) s ((pz c hd en n p).1.map (fun q => q.2.1)) := by
  intro n
  induction n with
  | zero => intro p N s b h0 d M _ _ h; exact absurd h (Nat.not_lt_zero _)
  | succ n ih =>
    intro p N s b h0 d M hS hsrc hn hN hp hd60 hby hs hh hb hrp
    obtain ⟨N, rfl⟩ : ∃ q, N = q + 1 := ⟨N - 1, by omega⟩
    unfold f_X4_readRecords_L6 pz
    by_cases h1 : p < en
    · rw [if_pos h1, n_60, if_neg (nI_ge (by omega) (by omega)), if_neg (nI_ge h1 (by omega)), ro hS, hsrc, fi_ok hKab rfl (by omega) (by omega), cl_n (by omega), hby p (by omega)]
      have hlen : ∃ l : Nat, l < 256 ∧ (p + 1 < en → l = c (p + 1)) ∧ (¬ p + 1 < en → l = 0) ∧
          (if nI en ≤ nI p + 1 then f_X4_readRecords_J55 K (f_X4_readRecords_L6 K N) r (nI hd) (nI en) (nI d) (nI (c p)) (nI p + 2) 0 M
            else fi K 13 (some ab) (nI p + 1) fun a3 => f_X4_readRecords_J55 K (f_X4_readRecords_L6 K N) r (nI hd) (nI en) (nI d) (nI (c p)) (nI p + 2) (M.1 a3 (nI p + 1).toNatClampNeg) M) =
          f_X4_readRecords_J55 K (f_X4_readRecords_L6 K N) r (nI hd) (nI en) (nI d) (nI (c p)) (nI (p + 2)) (nI l) M := by
        have e2 : nI p + 2 = nI (p + 2) := by rw [n_2, nI_add]
        by_cases h2 : p + 1 < en
        · refine ⟨c (p + 1), hc _, fun _ => rfl, fun q => absurd h2 q, ?_⟩
          rw [nI_1, if_neg (nI_ge h2 (by omega)), fi_ok hKab rfl (by omega) (by omega), cl_n (by omega), hby (p + 1) (by omega), e2]
        · refine ⟨0, by omega, fun q => absurd q h2, fun _ => rfl, ?_⟩
          rw [nI_1, if_pos (nI_le (by omega) (by omega)), e2]
          rfl
      obtain ⟨l, hl, hl1, hl2, e⟩ := hlen
      rw [e]
      clear e
      have hw : (p + 1 < en ∧ p + 2 + c (p + 1) ≤ en) ↔ p + 2 + l ≤ en := by
        by_cases h2 : p + 1 < en
        · rw [hl1 h2]; exact ⟨fun q => q.2, fun q => ⟨h2, q⟩⟩
        · rw [hl2 h2]; exact ⟨fun q => absurd q.1 h2, fun q => by omega⟩
      have hlc : p + 2 + l ≤ en → l = c (p + 1) := fun q => hl1 (hw.mpr q).1
      have hcmp : (nI en - nI (p + 2) < nI l) ↔ ¬ p + 2 + l ≤ en := by
        rw [fa_lt, pk_sub_toInt (by omega) (by omega), nI_toInt (by omega)]
        omega
      unfold f_X4_readRecords_J55
      -- a bend and on
      have hJ100 : ∀ v9 : Int32, f_X4_readRecords_J100 K (f_X4_readRecords_L6 K N) r (nI hd) (nI en) (nI d) (nI (p + 2)) (nI l) v9 M = (if v9 = 0 then f_X4_readRecords_L6 K N r (nI hd) (nI en) (nI en) (nI (d + 1)) (fh_si M r 6 (nI (b + 1))) else f_X4_readRecords_L6 K N r (nI hd) (nI en) (nI (p + 2 + l)) (nI (d + 1)) (fh_si M r 6 (nI (b + 1)))) := by
        intro v9
        unfold f_X4_readRecords_J100 f_X4_readRecords_J110 f_X4_readRecords_J124
        rw [ro hS, fb_eq, hb, nI_1, nI_1, nI_add]
      have hE1 : ∀ v, rI r M (fh_si M r 6 v) := fun v => rI_si (Or.inl ⟨rfl, Or.inr (Or.inr rfl)⟩)
      have hby1 : ∀ M1, rI r M M1 → ∀ k, k < S → M1.1 ab k = nI (c k) := fun M1 hE k hk => by rw [hE.2 _ _ (by unfold rq; omega)]; exact hby k hk
      have hsrc1 : ∀ M1, rI r M M1 → M1.2.2 r 3 = some ab := fun M1 hE => by rw [hE.1]; exact hsrc
      by_cases h6 : p + 2 + l ≤ en
      · rw [if_neg (fun q => hcmp.mp q h6), if_pos (hw.mpr h6)]
        have hl3 := hlc h6
        rw [← hl3]
        unfold f_X4_readRecords_J71
        rw [if_neg (show ¬ (1 : Int32) = 0 by decide), c_holds K M (by omega) (hc p)]
        simp only [Option.bind_some]
        by_cases h7 : c p < 12 ∧ hd.testBit (c p) = true
        · simp only [if_pos h7, show ¬ (1 : Int32) = 0 by decide, ↓reduceIte]
          rw [ro hS, c_addRecord hS hs hh (by omega) h7.1]
          simp only [Option.bind_some]
          unfold f_X4_readRecords_J110 f_X4_readRecords_J124
          rw [if_neg (show ¬ (1 : Int32) = 0 by decide), nI_add, nI_1]
          generalize hM1 : rAdd M r s (h0 ||| 2 ^ c p) (nI (c p)) (nI l) (nI (p + 2)) = M1
          have hE : rI r M M1 := by rw [← hM1]; exact rAdd_I _ _ _ _ _ _ _
          obtain ⟨M', g1, g2, g3, g4, g5, g6, g7, g8⟩ := ih (p + 2 + l) N (s + 1) b (h0 ||| 2 ^ c p) (d + 1) M1 (rI_S hE hS) (hsrc1 M1 hE) (by omega) (by omega) h6 (by omega) (hby1 M1 hE) (by rw [← hM1, rAdd_4]) (by rw [← hM1, rAdd_5]) (by rw [← hM1, rAdd_6]; exact hb) (by omega)
          refine ⟨M', g1, rI_tr hE g2, ?_, g4, g5, ?_, ?_, ?_⟩
          · rw [g3]; simp only [List.length_cons]; congr 1; omega
          · rw [g6, ← hM1, rAdd_t]; rfl
          · rw [g7, ← hM1, rAdd_l]; rfl
          · rw [g8, ← hM1, rAdd_p]; rfl
        · simp only [if_neg h7, ↓reduceIte]
          rw [hJ100, if_neg (show ¬ (1 : Int32) = 0 by decide)]
          have hE := hE1 (nI (b + 1))
          obtain ⟨M', g1, g2, g3, g4, g5, g6, g7, g8⟩ := ih (p + 2 + l) N s (b + 1) h0 (d + 1) (fh_si M r 6 (nI (b + 1))) (rS_si hS _ _ _) hsrc (by omega) (by omega) h6 (by omega) (hby1 _ hE) (by rw [fh_si_1, if_neg (by omega)]; exact hs) (by rw [fh_si_1, if_neg (by omega)]; exact hh) (by rw [fh_si_1, if_pos ⟨rfl, rfl⟩]) (by omega)
          refine ⟨M', g1, rI_tr hE g2, g3, g4, ?_, ?_, ?_, ?_⟩
          · rw [g5]; congr 1; omega
          · rw [g6]; congr 1; funext j; rw [fh_si_1, if_neg (by omega)]
          · rw [g7]; congr 1; funext j; rw [fh_si_1, if_neg (by omega)]
          · rw [g8]; congr 1; funext j; rw [fh_si_1, if_neg (by omega)]
      · rw [if_pos (hcmp.mpr h6), if_neg (fun q => h6 (hw.mp q))]
        unfold f_X4_readRecords_J71
        rw [if_pos rfl, hJ100, if_pos rfl]
        have hE := hE1 (nI (b + 1))
        obtain ⟨N, rfl⟩ : ∃ q, N = q + 1 := ⟨N - 1, by omega⟩
        unfold f_X4_readRecords_L6
        have hout : ∃ M', (if 60 ≤ nI (d + 1) then some (fh_si M r 6 (nI (b + 1))) else if nI en ≤ nI en then some (fh_si M r 6 (nI (b + 1))) else none) = some M' := by
          split
          · exact ⟨_, rfl⟩
          · rw [if_pos (nI_le (Nat.le_refl _) (by omega))]; exact ⟨_, rfl⟩
        refine ⟨fh_si M r 6 (nI (b + 1)), ?_, hE, ?_, ?_, ?_, ?_, ?_, ?_⟩
        · split
          · rfl
          · rw [if_pos (nI_le (Nat.le_refl _) (by omega))]
        · rw [fh_si_1, if_neg (by omega)]; exact hs
        · rw [fh_si_1, if_neg (by omega)]; exact hh
        · rw [fh_si_1, if_pos ⟨rfl, rfl⟩]
        · funext j; rw [fh_si_1, if_neg (by omega)]; rfl
        · funext j; rw [fh_si_1, if_neg (by omega)]; rfl
        · funext j; rw [fh_si_1, if_neg (by omega)]; rfl
    · rw [if_neg h1]
      refine ⟨M, ?_, rI_rf r M, by simpa using hs, hh, by simpa using hb, rfl, rfl, rfl⟩
      split
      · rfl
      · rw [if_pos (nI_le (by omega) (by omega))]
