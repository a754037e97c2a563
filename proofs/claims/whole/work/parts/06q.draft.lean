def lk (C : List Nat) (k : Nat) : Nat := C[k]?.getD 0
theorem lk_l {C D : List Nat} {k : Nat} (h : k < C.length) : lk (C ++ D) k = lk C k := by unfold lk; rw [List.getElem?_append_left h]
theorem lk_r {C D : List Nat} {k : Nat} (h : C.length ≤ k) : lk (C ++ D) k = lk D (k - C.length) := by unfold lk; rw [List.getElem?_append_right h]
theorem lk_rg (g : Nat → Nat) {n k : Nat} (h : k < n) : lk ((List.range n).map g) k = g k := by unfold lk; simp [h]
/-- the bytes of a record, with tag and length -/
def sg (a : Nat → Nat) (q : R3) (n : Nat) : List Nat := (List.range n).map (fun z => a (q.2.1 - 2 + z))
theorem sg_len (a : Nat → Nat) (q : R3) (n : Nat) : (sg a q n).length = n := by simp [sg]
theorem sg_s (a : Nat → Nat) (q : R3) (n : Nat) : sg a q (n + 1) = sg a q n ++ [a (q.2.1 - 2 + n)] := by simp [sg, List.range_succ]
def tsg (a : Nat → Nat) (cr : Nat) (q : R3) : List Nat := if cr.testBit q.1 = true then sg a q (q.2.2 + 2) else []
/-- mark and the records that go, of the first i -/
def tb (mk : Nat → Nat) (ms : Nat) (a : Nat → Nat) (cr : Nat) (L : List R3) : Nat → List Nat
  | 0 => (List.range ms).map mk
  | i + 1 => tb mk ms a cr L i ++ tsg a cr (atL L i)
def tf (mk : Nat → Nat) (ms hs : Nat) (a : Nat → Nat) (cr : Nat) (L : List R3) : List Nat := tb mk ms a cr L L.length ++ (if hs = 1 then [smN (lk (tb mk ms a cr L L.length)) (tb mk ms a cr L L.length).length % 256] else [])
theorem tb_mono {mk : Nat → Nat} {ms : Nat} {a : Nat → Nat} {cr : Nat} {L : List R3} {i : Nat} : ∀ d, (tb mk ms a cr L i).length ≤ (tb mk ms a cr L (i + d)).length := by
  intro d
  induction d with
  | zero => exact Nat.le_refl _
  | succ d ih =>
    show _ ≤ (tb mk ms a cr L (i + d) ++ _).length
    rw [List.length_append]
    omega
theorem tb_le {mk : Nat → Nat} {ms : Nat} {a : Nat → Nat} {cr : Nat} {L : List R3} (hL : ∀ q, q ∈ L → q.2.2 ≤ 60) : ∀ i, i ≤ L.length → (tb mk ms a cr L i).length ≤ ms + 62 * i := by
  intro i
  induction i with
  | zero => intro _; simp [tb]
  | succ i ih =>
    intro hi
    show (tb mk ms a cr L i ++ tsg a cr (atL L i)).length ≤ _
    rw [List.length_append]
    have h1 := ih (by omega)
    have h2 := hL _ (atL_mem (L := L) (i := i) (by omega))
    have h3 : (tsg a cr (atL L i)).length ≤ 62 := by
      unfold tsg
      split
      · rw [sg_len]; omega
      · exact Nat.zero_le _
    omega
theorem lk_lt {mk : Nat → Nat} {ms : Nat} {a : Nat → Nat} {cr : Nat} {L : List R3} (hmk : ∀ k, mk k < 256) (ha : ∀ k, a k < 256) : ∀ i v, v ∈ tb mk ms a cr L i → v < 256 := by
  intro i
  induction i with
  | zero => intro v hv; simp [tb] at hv; obtain ⟨k, _, rfl⟩ := hv; exact hmk k
  | succ i ih =>
    intro v hv
    have hv : v ∈ tb mk ms a cr L i ++ tsg a cr (atL L i) := hv
    rw [List.mem_append] at hv
    rcases hv with hv | hv
    · exact ih v hv
    · unfold tsg at hv
      split at hv
      · simp [sg] at hv; obtain ⟨k, _, rfl⟩ := hv; exact ha _
      · simp at hv
theorem tf_lt {mk : Nat → Nat} {ms hs : Nat} {a : Nat → Nat} {cr : Nat} {L : List R3} (hmk : ∀ k, mk k < 256) (ha : ∀ k, a k < 256) (k : Nat) : lk (tf mk ms hs a cr L) k < 256 := by
  unfold lk
  cases h : (tf mk ms hs a cr L)[k]? with
  | none => decide
  | some v =>
    show v < 256
    have hv := List.mem_of_getElem? h
    unfold tf at hv
    rw [List.mem_append] at hv
    rcases hv with hv | hv
    · exact lk_lt hmk ha _ v hv
    · split at hv
      · simp at hv; omega
      · simp at hv
theorem lkb_lt {C : List Nat} (h : ∀ v, v ∈ C → v < 256) (k : Nat) : lk C k < 256 := by
  unfold lk
  cases h2 : C[k]? with
  | none => decide
  | some v => exact h v (List.mem_of_getElem? h2)
/-- a part put behind -/
theorem c_addPart {K : fh_K} {M : fh_M} {t ab sa S n st ln : Nat} (h1 : K t = (1, 0)) (h2 : M.2.2 t 0 = some ab) (h3 : K ab = (13, 60)) (hn : M.1 t 1 = nI n) (hn60 : n ≤ 60) (hsa : K sa = (13, S)) (hS : S ≤ 60) (hle : st + ln ≤ S) (hne : t ≠ ab) (hts : t ≠ sa) :
    (n + ln ≤ 60 ∧ ∃ M', f_X0_addPart K M t (some sa) (nI st) (nI ln) = some (1, M') ∧ wrt t ab M M' n ln (fun z => M.1 sa (st + z))) ∨ (60 < n + ln ∧ f_X0_addPart K M t (some sa) (nI st) (nI ln) = some (0, M)) := by
  have pre : f_X0_addPart K M t (some sa) (nI st) (nI ln) = if nI ln ≤ nI (60 - n) then fq K (some sa) (nI st) (M.2.2 t 0) (M.1 t 1) (nI ln) (fun a4 a5 => fb (fh_ri M a5 (va_cpy (M.1 a4) (M.1 a5) (nI st).toNatClampNeg (M.1 t 1).toNatClampNeg (nI ln).toNatClampNeg)) fun M7 => fb (fh_si M7 t 1 ((M7.1 t 1) + nI ln)) fun M8 => some (1, M8)) else some (0, M) := by
    unfold f_X0_addPart f_X0_room
    rw [if_neg (nI_pos (by omega)), if_neg (nI_pos (by omega)), fa_ok hsa, hsa]
    simp only
    rw [n_m (by omega), if_neg (nI_nlt (by omega) (by omega)), fo_ok h1, fo_ok h1, h2, fa_ok h3, h3, hn]
    simp only [Option.bind_some]
    rw [n_m hn60]
  by_cases h : n + ln ≤ 60
  · refine Or.inl ⟨h, ?_⟩
    rw [pre, if_pos (nI_le (by omega) (by omega)), h2, hn]
    unfold fq
    simp only [hsa, h3]
    rw [if_pos ⟨trivial, trivial, nI_pos (by omega), nI_pos (by omega), nI_pos (by omega), by rw [cl_n (by omega), cl_n (by omega)]; exact hle, by rw [cl_n (by omega), cl_n (by omega)]; exact h⟩, fb_eq, fb_eq, cl_n (by omega), cl_n (by omega), cl_n (by omega), fh_ri_1, if_neg hne, hn, nI_add]
    refine ⟨_, rfl, rfl, ?_, fun j => ?_, fun b k z1 z2 => ?_⟩
    · rw [fh_si_1, if_pos ⟨rfl, rfl⟩]
    · rw [fh_si_1, if_neg (fun q => hne q.1.symm), fh_ri_1, if_pos rfl]
      by_cases z : n ≤ j ∧ j < n + ln
      · rw [if_pos z, pk_cpy_in z.1 z.2]
      · rw [if_neg z, pk_cpy_out (by omega)]
    · rw [fh_si_1, if_neg z2, fh_ri_1, if_neg z1]
  · refine Or.inr ⟨by omega, ?_⟩
    rw [pre, if_neg (nI_ge (by omega) (by omega))]
/-- the draft holds a list -/
def dr (M : fh_M) (x : Nat) (C : List Nat) : Prop := M.1 (x + 3) 1 = nI C.length ∧ ∀ k, k < C.length → M.1 (x + 4) k = nI (lk C k)
def dE (x : Nat) (M M' : fh_M) : Prop := M'.2 = M.2 ∧ ∀ a k, a ≠ x + 3 → a ≠ x + 4 → M'.1 a k = M.1 a k
theorem dE_tr {x : Nat} {M M1 M2 : fh_M} (h : dE x M M1) (h2 : dE x M1 M2) : dE x M M2 := ⟨h2.1.trans h.1, fun a k q1 q2 => (h2.2 a k q1 q2).trans (h.2 a k q1 q2)⟩
theorem dE_G {x : Nat} {M M1 : fh_M} (h : dE x M M1) : cG x M M1 := ⟨fun a k q => h.2 a k (fun z => q (by unfold cZ; omega)) (fun z => q (by unfold cZ; omega)), fun a k _ => by rw [h.1], fun a k _ => by rw [h.1]⟩
theorem dE_w {x n m : Nat} {M M' : fh_M} {g : Nat → Int32} (h : wrt (x + 3) (x + 4) M M' n m g) : dE x M M' := ⟨h.1, fun a k q1 q2 => h.2.2.2 a k q2 (fun z => q1 z.1)⟩
theorem dr_w {x n m : Nat} {M M' : fh_M} {C D : List Nat} {g : Nat → Int32} (hd : dr M x C) (h : wrt (x + 3) (x + 4) M M' n m g) (hn : C.length = n) (hm : D.length = m) (hg : ∀ k, k < m → g k = nI (lk D k)) : dr M' x (C ++ D) := by
  refine ⟨by rw [h.2.1, List.length_append, hn, hm], fun k hk => ?_⟩
  rw [List.length_append] at hk
  rw [h.2.2.1 k]
  by_cases z : k < n
  · rw [if_neg (by omega), lk_l (by omega)]; exact hd.2 k (by omega)
  · rw [if_pos (by omega), lk_r (by omega), hn]; exact hg _ (by omega)
theorem c_dtL {K : fh_K} {x : Nat} {L : List R3} {a : Nat → Nat} {S cr ms fa' ta ab : Nat} {mk : Nat → Nat} {v3 : Option Nat} (M0 : fh_M) (s0 : cS K M0 x) (hR : rRec M0 (x + 22) L) (hLl : L.length ≤ 29) (hL : ∀ q, q ∈ L → q.1 < 12 ∧ 2 ≤ q.2.1 ∧ q.2.1 + q.2.2 ≤ S) (hS : S ≤ 60) (hcr : cr < 65536) (hf : K fa' = (8, 0)) (hfb : M0.2.2 fa' 0 = some ab) (hab : K ab = (13, S)) (habx : x + 63 ≤ ab) (hby : ∀ k, k < S → M0.1 ab k = nI (a k)) (ht : K ta = (9, 0)) (htx : x + 63 ≤ ta) (hc : M0.1 ta 2 = nI cr) :
    ∀ n i M, L.length - i < n → i ≤ L.length → dE x M0 M → dr M x (tb mk ms a cr L i) → (tb mk ms a cr L i).length ≤ 60 → ∃ r M', f_X10_draftTurned_L53 K n x (some fa') (some ta) v3 1 (nI i) M = f_X10_draftTurned_J133 K x v3 r M' ∧ dE x M0 M' ∧ (((tb mk ms a cr L L.length).length ≤ 60 ∧ r = 1 ∧ dr M' x (tb mk ms a cr L L.length)) ∨ (60 < (tb mk ms a cr L L.length).length ∧ r = 0)) := by
  intro n
  induction n with
  | zero => intro i M q; exact absurd q (Nat.not_lt_zero _)
  | succ n ih =>
    intro i M hn hi hE hd hle
    have s1 : cS K M x := cG_S (dE_G hE) s0
    have g : ∀ b k, b ≠ x + 3 → b ≠ x + 4 → M.1 b k = M0.1 b k := hE.2
    unfold f_X10_draftTurned_L53
    rw [co s1, cr0_9 s1, fo_ok (ck22 s1), g _ _ (by omega) (by omega), hR.1]
    by_cases hlt : i < L.length
    · obtain ⟨e1, e2, e3⟩ := hR.2.2 i hlt
      rw [← atL_eq hlt] at e1 e2 e3
      obtain ⟨b1, b2, b3⟩ := hL _ (atL_mem hlt)
      have nxt : tb mk ms a cr L (i + 1) = tb mk ms a cr L i ++ tsg a cr (atL L i) := rfl
      rw [if_neg (nI_ge hlt (by omega)), if_neg (show ¬ (1 : Int32) = 0 by decide), fo_ok ht, cr22_0 s1, fi_ok (ck23 s1) rfl (by omega) (by omega), cl_n (by omega), g ta 2 (by omega) (by omega), hc, g (x + 23) i (by omega) (by omega), show M0.1 (x + 23) i = nI (atL L i).1 from e1, c_holds K M hcr (by omega)]
      simp only [Option.bind_some]
      by_cases hb : cr.testBit (atL L i).1 = true
      · rw [if_neg (by rw [if_pos ⟨b1, hb⟩]; decide), fo_ok hf, cr22_2 s1, fi_ok (ck25 s1) rfl (by omega) (by omega), cr22_1 s1, fi_ok (ck24 s1) rfl (by omega) (by omega), cr0_1 s1, fo_ok (ck3 s1), g (x + 25) i (by omega) (by omega), show M0.1 (x + 25) i = nI (atL L i).2.1 from e3, g (x + 24) i (by omega) (by omega), show M0.1 (x + 24) i = nI (atL L i).2.2 from e2, n_2, n_m b2, nI_add, hE.1, hfb]
        have tsl : tsg a cr (atL L i) = sg a (atL L i) ((atL L i).2.2 + 2) := by unfold tsg; rw [if_pos hb]
        rcases c_addPart (K := K) (M := M) (t := x + 3) (ab := x + 4) (sa := ab) (S := S) (n := (tb mk ms a cr L i).length) (st := (atL L i).2.1 - 2) (ln := (atL L i).2.2 + 2) (ck3 s1) (cr3_0 s1) (ck4 s1) hd.1 hle hab hS (by omega) (by omega) (by omega) with ⟨z1, M', z2, z3⟩ | ⟨z1, z2⟩
        · rw [z2, fc2_some]
          unfold f_X10_draftTurned_J127
          rw [nI_1]
          have lenE : (tb mk ms a cr L (i + 1)).length = (tb mk ms a cr L i).length + ((atL L i).2.2 + 2) := by rw [nxt, List.length_append, tsl, sg_len]
          refine ih (i + 1) M' (by omega) (by omega) (dE_tr hE (dE_w z3)) ?_ (by omega)
          rw [nxt]
          refine dr_w hd z3 rfl (by rw [tsl, sg_len]) (fun k hk => ?_)
          rw [tsl]
          unfold sg
          rw [lk_rg _ hk, g _ _ (by omega) (by omega), hby _ (by omega)]
        · rw [z2, fc2_some]
          unfold f_X10_draftTurned_J127
          have lenE : (tb mk ms a cr L (i + 1)).length = (tb mk ms a cr L i).length + ((atL L i).2.2 + 2) := by rw [nxt, List.length_append, tsl, sg_len]
          have mono := tb_mono (mk := mk) (ms := ms) (a := a) (cr := cr) (L := L) (i := i + 1) (L.length - (i + 1))
          rw [show i + 1 + (L.length - (i + 1)) = L.length by omega] at mono
          refine ⟨0, M, ?_, hE, Or.inr ⟨by omega, rfl⟩⟩
          cases n with
          | zero => omega
          | succ n =>
            unfold f_X10_draftTurned_L53
            rw [co s1, cr0_9 s1, fo_ok (ck22 s1), if_pos rfl, ite_self]
      · rw [if_pos (by rw [if_neg (fun q => hb q.2)])]
        unfold f_X10_draftTurned_J127
        rw [nI_1]
        have e : tb mk ms a cr L (i + 1) = tb mk ms a cr L i := by rw [nxt]; unfold tsg; rw [if_neg hb, List.append_nil]
        refine ih (i + 1) M (by omega) (by omega) hE (by rw [e]; exact hd) (by rw [e]; exact hle)
    · rw [if_pos (nI_le (by omega) (by omega))]
      have : i = L.length := by omega
      subst this
      exact ⟨1, M, rfl, hE, Or.inl ⟨hle, rfl, hd⟩⟩
theorem c_sum2L {K : fh_K} {M : fh_M} {ab e : Nat} {c : Nat → Nat} (hab : K ab = (13, 60)) (hc : ∀ k, c k < 256) (he : e ≤ 60) (hby : ∀ k, k < e → M.1 ab k = nI (c k)) :
    ∀ (n k : Nat), e - k < n → k ≤ e → f_X10_sumOfFirst_L4 K M n (some ab) (nI e) (nI (smN c k)) (nI k) = some (nI (smN c e % 256)) := by
  have fin : f_X10_sumOfFirst_J27 K M (nI (smN c e)) = some (nI (smN c e % 256)) := by
    unfold f_X10_sumOfFirst_J27
    have := smN_le c hc e
    rw [pk_andN (by omega) 8 (by decide)]
  intro n
  induction n with
  | zero => intro k h; exact absurd h (Nat.not_lt_zero _)
  | succ n ih =>
    intro k hn hk
    unfold f_X10_sumOfFirst_L4
    by_cases h : k < e
    · rw [if_neg (nI_ge h (by omega)), fa_ok hab, hab]
      simp only
      rw [if_neg (nI_ge (by omega) (by omega)), fi_ok hab rfl (by omega) (by omega), cl_n (by omega), hby k (by omega), nI_add, nI_1]
      exact ih (k + 1) (by omega) (by omega)
    · rw [if_pos (nI_le (by omega) (by omega)), show k = e by omega]
      exact fin
theorem c_sum2 {K : fh_K} {M : fh_M} {ab e : Nat} {c : Nat → Nat} (hab : K ab = (13, 60)) (hc : ∀ k, c k < 256) (he : e ≤ 60) (hby : ∀ k, k < e → M.1 ab k = nI (c k)) : f_X10_sumOfFirst K M (some ab) (nI e) = some (nI (smN c e % 256)) := by
  unfold f_X10_sumOfFirst
  exact c_sum2L hab hc he hby 4096 0 (by omega) (by omega)
/-- the draft of a turned file -/
theorem c_dt {K : fh_K} {M : fh_M} {x : Nat} {σ : sT} {f t fa' ta : Nat} (hV : Val σ) (s1 : cS K M x) (p1 : cP K M x σ) (hf : f < σ 0 9) (ht : t < σ 0 19) (h1 : M.2.2 (x + 6) f = some fa') (h2 : M.2.2 (x + 14) t = some ta) :
    ∃ r M', f_X10_draftTurned K M x (some fa') (some ta) = some (r, M') ∧ cG x M M' ∧ (((tf (mF σ (σ 16 t)) (σ 3 (σ 16 t)) (σ 5 (σ 16 t)) (cF σ f) (carr σ t) (sR σ f)).length ≤ 60 ∧ r = 1 ∧ dr M' x (tf (mF σ (σ 16 t)) (σ 3 (σ 16 t)) (σ 5 (σ 16 t)) (cF σ f) (carr σ t) (sR σ f))) ∨ (60 < (tf (mF σ (σ 16 t)) (σ 3 (σ 16 t)) (σ 5 (σ 16 t)) (cF σ f) (carr σ t) (sR σ f)).length ∧ r = 0)) := by
  have hv := hV.1
  obtain ⟨fa1, ab, a1, a2, a3, a4, a5, a6, a7, -⟩ := p1.2.2.2.2.2.2.2.1 f hf
  cases h1.symm.trans a1
  obtain ⟨ta1, b1, b2, b3, b4, b5, b6, b7, b8⟩ := p1.2.2.2.2.2.2.2.2.1 t ht
  cases h2.symm.trans b1
  obtain ⟨-, t2, -⟩ := hV.2.2.2.2.2.2.2 t ht
  obtain ⟨ma, ka, c1, c2, c3, ⟨d1, d2, d3, d4, d5, d6⟩, c5⟩ := p1.2.2.2.2.2.2.1 _ t2
  obtain ⟨v1, v2, v3, v4, v5⟩ := hV.2.2.1 _ t2
  obtain ⟨w1, w2, -⟩ := hV.2.2.2.1 f hf
  obtain ⟨M5, q1, q2, q3, q4⟩ := s_own hV s1 p1 (Or.inl rfl) hf h1 a5
  have G5 := cG_rd q2
  have s5 := cG_S G5 s1
  generalize hM8 : fh_si M5 (x + 3) 1 0 = M8
  have E8 : dE x M5 M8 := ⟨by rw [← hM8]; rfl, fun a k z1 z2 => by rw [← hM8, fh_si_1, if_neg (by omega)]⟩
  have s8 := cG_S (dE_G E8) s5
  have hLl := sR_len hV hf
  have i5 : ∀ b k, x + 63 ≤ b → M5.1 b k = M.1 b k := fun b k z => G5.1 b k (by unfold cZ; omega)
  have r5 : ∀ b k, x + 63 ≤ b → M5.2.2 b k = M.2.2 b k := fun b k z => G5.2.2 b k (by omega)
  have hcr : carr σ t < 65536 := Nat.lt_of_le_of_lt Nat.and_le_left (by omega)
  have d8 : dr M8 x [] := ⟨by rw [← hM8, fh_si_1, if_pos ⟨rfl, rfl⟩]; rfl, fun k hk => absurd hk (Nat.not_lt_zero _)⟩
  rcases c_addPart (K := K) (M := M8) (t := x + 3) (ab := x + 4) (sa := ka) (S := σ 3 (σ 16 t)) (n := 0) (st := 0) (ln := σ 3 (σ 16 t)) (ck3 s8) (cr3_0 s8) (ck4 s8) d8.1 (by omega) d3 (by omega) (by omega) (by omega) (by omega) with ⟨z1, M13, z2, z3⟩ | ⟨z1, z2⟩
  · have d13 : dr M13 x (tb (mF σ (σ 16 t)) (σ 3 (σ 16 t)) (cF σ f) (carr σ t) (sR σ f) 0) := by
      have := dr_w (D := (List.range (σ 3 (σ 16 t))).map (mF σ (σ 16 t))) d8 z3 rfl (by simp) (fun k hk => ?_)
      · rw [List.nil_append] at this; exact this
      · rw [lk_rg _ hk, Nat.zero_add, E8.2 _ _ (by omega) (by omega), i5 _ _ c3]; exact d6 k hk
    have E13 : dE x M5 M13 := dE_tr E8 (dE_w z3)
    obtain ⟨r, M', y1, y2, y3⟩ := c_dtL (K := K) (x := x) (L := sR σ f) (a := cF σ f) (S := σ 8 f) (cr := carr σ t) (ms := σ 3 (σ 16 t)) (fa' := fa') (ta := ta) (ab := ab) (mk := mF σ (σ 16 t)) (v3 := some ma) M5 s5 q3 hLl (fun q hq => sR_in hV hq) w2 hcr a4 (by rw [r5 _ _ a2]; exact a5) a6 a3 (fun k hk => by rw [i5 _ _ a3]; exact a7 k hk) b3 b2 (by rw [i5 _ _ b2]; exact b6) 4096 0 M13 (by omega) (by omega) E13 d13 (by simp [tb]; omega)
    have pre : f_X10_draftTurned K M x (some fa') (some ta) = f_X10_draftTurned_J133 K x (some ma) r M' := by
      rw [← y1]
      unfold f_X10_draftTurned f_X0_clear
      rw [fo_ok b3, co s1, b5, c_makeIn s1 p1 hV t2, c1]
      simp only [Option.bind_some]
      rw [if_neg (fun q => by cases q), cr0_9 s1, q1]
      simp only [Option.bind_some]
      rw [cr0_1 s5, fo_ok (ck3 s5), fo_ok (ck3 s5), fb_eq]
      simp only [Option.bind_some]
      rw [hM8, fo_ok d1, E8.1, r5 _ _ c2, d2, fa_ok d3, d3, ← E8.1, cr0_1 s8, fo_ok (ck3 s8), show (0 : Int32) = nI 0 from rfl, z2, fc2_some]
    have G' : cG x M M' := cG_tr G5 (dE_G y2)
    have s' := cG_S G' s1
    have hs' : M'.1 ma 2 = nI (σ 5 (σ 16 t)) := by rw [G'.1 _ _ (by unfold cZ; omega)]; exact d5
    rcases y3 with ⟨y3, rfl, y4⟩ | ⟨y3, rfl⟩
    · by_cases hh : σ 5 (σ 16 t) = 0
      · refine ⟨1, M', ?_, G', Or.inl ?_⟩
        · rw [pre]
          unfold f_X10_draftTurned_J133
          rw [if_neg (show ¬ (1 : Int32) = 0 by decide), fo_ok d1, hs', hh, if_pos nI_0]
          rfl
        · unfold tf
          rw [if_neg (by omega), List.append_nil]
          exact ⟨y3, rfl, y4⟩
      · have hh1 : σ 5 (σ 16 t) = 1 := by omega
        have cb : ∀ k, lk (tb (mF σ (σ 16 t)) (σ 3 (σ 16 t)) (cF σ f) (carr σ t) (sR σ f) (sR σ f).length) k < 256 := fun k => lkb_lt (fun v hv => lk_lt (fun k => (hV.2.1 _).2.1) (fun k => (hV.2.1 _).2.2) _ v hv) k
        have sm : f_X10_sumOfFirst K M' (some (x + 4)) (M'.1 (x + 3) 1) = some (nI (smN (lk (tb (mF σ (σ 16 t)) (σ 3 (σ 16 t)) (cF σ f) (carr σ t) (sR σ f) (sR σ f).length)) (tb (mF σ (σ 16 t)) (σ 3 (σ 16 t)) (cF σ f) (carr σ t) (sR σ f) (sR σ f).length).length % 256)) := by
          rw [y4.1]
          exact c_sum2 (ck4 s') cb y3 y4.2
        have e : f_X10_draftTurned K M x (some fa') (some ta) = fc2 (f_X0_addByte K M' (x + 3) (nI (smN (lk (tb (mF σ (σ 16 t)) (σ 3 (σ 16 t)) (cF σ f) (carr σ t) (sR σ f) (sR σ f).length)) (tb (mF σ (σ 16 t)) (σ 3 (σ 16 t)) (cF σ f) (carr σ t) (sR σ f) (sR σ f).length).length % 256))) fun r33 M34 => fz r33 <| some (r33, M34) := by
          rw [pre]
          unfold f_X10_draftTurned_J133
          rw [if_neg (show ¬ (1 : Int32) = 0 by decide), fo_ok d1, hs', hh1, if_neg (show ¬ nI 1 = 0 by decide), co s', cr0_1 s', fo_ok (ck3 s'), cr3_0 s', sm]
          rfl
        unfold tf
        rw [hh1, if_pos rfl]
        generalize hC : tb (mF σ (σ 16 t)) (σ 3 (σ 16 t)) (cF σ f) (carr σ t) (sR σ f) (sR σ f).length = C at y3 y4 e
        generalize hs : smN (lk C) C.length % 256 = s at e
        have hs256 : s < 256 := by rw [← hs]; exact Nat.mod_lt _ (by omega)
        by_cases h60 : C.length < 60
        · rw [c_addByte (ck3 s') (cr3_0 s') (ck4 s') (by omega) y4.1 h60, fc2_some, fz_1] at e
          have W := wrt_1 (t := x + 3) (ab := x + 4) (M := M') (n := C.length) (v := nI s &&& 255) (by omega)
          refine ⟨1, _, e, cG_tr G' (dE_G (dE_w W)), Or.inl ⟨by simp; omega, rfl, ?_⟩⟩
          refine dr_w y4 W rfl rfl (fun k hk => ?_)
          have : k = 0 := by omega
          subst this
          rw [n_255, fa_and, show (255 : Nat) = 2 ^ 8 - 1 from rfl, Nat.and_two_pow_sub_one_eq_mod, Nat.mod_eq_of_lt hs256]
          rfl
        · have ad : f_X0_addByte K M' (x + 3) (nI s) = some (0, M') := by
            unfold f_X0_addByte
            rw [fo_ok (ck3 s'), cr3_0 s', fa_ok (ck4 s'), ck4 s', y4.1]
            simp only
            rw [if_neg (nI_nlt (by omega) (by omega))]
          rw [ad, fc2_some, fz_0] at e
          refine ⟨0, M', e, G', Or.inr ⟨by simp; omega, rfl⟩⟩
    · refine ⟨0, M', ?_, G', Or.inr ⟨?_, rfl⟩⟩
      · rw [pre]
        unfold f_X10_draftTurned_J133
        rw [if_pos rfl, fz_0]
      · unfold tf
        rw [List.length_append]
        omega
  · omega
