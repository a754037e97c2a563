theorem pk_ix3 (v : Int32) {n : Nat} (hn : n ≤ 65536) : (v < 0 ∨ nI n ≤ v) ∨ ∃ i, i < n ∧ v = nI i := by
  rcases pk_ix v (n := n) (by omega) with h | h | h
  · exact Or.inl (Or.inl h)
  · exact Or.inl (Or.inr h)
  · exact Or.inr h
/-- the number of the best road of a file to a make -/
noncomputable def bv (σ : sT) (f g : Nat) : Nat := @dite _ (∃ P, bstM σ f g (some P)) (Classical.propDecidable _) (fun h => key σ (Classical.choose h)) (fun _ => INF)
theorem bv_some {σ : sT} {f g : Nat} {P : List Nat} (h : bstM σ f g (some P)) : bv σ f g = key σ P := by
  have hx : ∃ P, bstM σ f g (some P) := ⟨P, h⟩
  unfold bv
  rw [dif_pos hx]
  obtain ⟨m0, a1, a2, a3, a4⟩ := Classical.choose_spec hx
  obtain ⟨m1, b1, b2, b3, b4⟩ := h
  have : m0 = m1 := by omega
  subst this
  exact Nat.le_antisymm (a4 P b2 b3) (b4 _ a2 a3)
theorem bv_none {σ : sT} {f g : Nat} (h : bstM σ f g none) : bv σ f g = INF := by
  have hx : ¬ ∃ P, bstM σ f g (some P) := by
    rintro ⟨P, m0, a1, a2, a3, a4⟩
    exact h m0 P a1 a2 a3
  unfold bv
  rw [dif_neg hx]
theorem bv_bk {σ : sT} {f m : Nat} {B : Nat → Nat} (hV : Val σ) (h : bstR σ (nd σ f) (sK σ f) B) (hm : m < 12) : B m = bv σ f m := by
  rcases h with ⟨h1, h2⟩ | ⟨m0, h1, h2⟩
  · rw [h2 m hm, bv_none (fun m0 p e => by omega)]
  · obtain ⟨b1, b2⟩ := h2 m hm
    rcases b2 with b2 | ⟨p, p1, p2, p3⟩
    · rw [b2, bv_none]
      intro m1 p e q1 q2
      have : m0 = m1 := by omega
      subst this
      have := b1 p q1 q2
      have := (key_lt hV q1 q2).1
      rw [b2] at *
      unfold INF at *
      omega
    · rw [bv_some (P := p) ⟨m0, h1, p1, p2, fun q q1 q2 => by rw [← p3]; exact b1 q q1 q2⟩, p3]
theorem bst_lt {σ : sT} {f g : Nat} {P : List Nat} (hV : Val σ) (h : bstM σ f g (some P)) : key σ P < 2 ^ 40 ∧ pcs σ P < 2 ^ 17 ∧ rcs P < 2 ^ 20 ∧ P.length ≤ 4 ∧ ∀ t, t ∈ P → t < 24 := by
  obtain ⟨m0, a1, a2, a3, a4⟩ := h
  obtain ⟨b1, b2, b3⟩ := key_lt hV a2 a3
  exact ⟨b1, b2, b3, a3, (isP_b hV P _ _ a2).1⟩
theorem rowC_rcs : ∀ n (L : List Nat) (f : Nat → Nat), L.length = n → (∀ j, j < n → f j = L.getD j 0) → rowC f n = rcs L := by
  intro n
  induction n with
  | zero =>
    intro L f h _
    have : L = [] := List.length_eq_zero_iff.mp h
    subst this
    rfl
  | succ n ih =>
    intro L f h hf
    obtain ⟨q, s, rfl, hq⟩ := snoc_of h
    rw [rcs_s]
    show rowC f n * 32 + f n = _
    rw [ih q f hq (fun j hj => by
      rw [hf j (by omega), List.getD_eq_getElem?_getD, List.getElem?_append_left (by omega), ← List.getD_eq_getElem?_getD]), hf n (by omega), List.getD_eq_getElem?_getD, ← hq, List.getElem?_concat_length]
    rfl
theorem getD_lt {L : List Nat} {n k : Nat} (h : ∀ t, t ∈ L → t < n) (hk : k < L.length) : L.getD k 0 < n := by
  rw [List.getD_eq_getElem?_getD, List.getElem?_eq_getElem hk]
  exact h _ (List.getElem_mem hk)
theorem cP_told {K : fh_K} {M M' : fh_M} {x : Nat} {σ σ' : sT} (hP : cP K M x σ) (hs : ∀ c j, ¬ (c = 0 ∧ j = 37) → c ≠ 28 → σ' c j = σ c j) (hI : ∀ a k, ¬ (x + 32 ≤ a ∧ a < x + 63) → M'.1 a k = M.1 a k) (hR : M'.2.2 = M.2.2) (ht : ∃ p, p < 2 ^ 17 ∧ M'.2.1 x 14 = lN ((p * 8 + σ' 0 37) * 2 ^ 20 + rowC (σ' 28) (σ' 0 37)) ∧ ∀ k, k < σ' 0 37 → σ' 28 k < 32) : cP K M' x σ' := by
  obtain ⟨⟨a1, a2, a3⟩, ⟨b1, b2⟩, c1, ⟨d1, d2⟩, e1, -, g1, g2, g3, g4⟩ := hP
  have hs1 : sDy σ σ' := ⟨fun c j q => hs c j (by omega) (by omega), hs 0 3 (by omega) (by omega), hs 0 9 (by omega) (by omega), hs 0 19 (by omega) (by omega)⟩
  obtain ⟨s1, s2, s3, s4⟩ := id hs1
  refine ⟨⟨?_, ?_, ?_⟩, ⟨?_, fun k hk => ?_⟩, fun j hj => ⟨?_, ?_⟩, ⟨?_, fun r hr => ⟨?_, ?_⟩⟩, ?_, ht, fun i hi => ?_, fun i hi => ?_, fun t ht => ?_, fun i j hi hj e => ?_⟩
  · rw [hI _ _ (by omega), s2]; exact a1
  · rw [hI _ _ (by omega), s3]; exact a2
  · rw [hI _ _ (by omega), hs 0 2 (by omega) (by omega)]; exact a3
  · rw [hI _ _ (by omega), hs 0 1 (by omega) (by omega)]; exact b1
  · rw [hs 0 1 (by omega) (by omega)] at hk
    rw [hI _ _ (by omega), hs 1 k (by omega) (by omega)]; exact b2 k hk
  · rw [hI _ _ (by omega), hs 11 j (by omega) (by omega)]; exact (c1 j hj).1
  · rw [hI _ _ (by omega), hs 12 j (by omega) (by omega)]; exact (c1 j hj).2
  · rw [hI _ _ (by omega), hs 0 16 (by omega) (by omega)]; exact d1
  · rw [hs 0 16 (by omega) (by omega)] at hr
    rw [hI _ _ (by omega), hs 13 r (by omega) (by omega)]; exact (d2 r hr).1
  · rw [hs 0 16 (by omega) (by omega)] at hr
    rw [hI _ _ (by omega), hs 14 r (by omega) (by omega)]; exact (d2 r hr).2
  · rw [hI _ _ (by omega), s4]; exact e1
  · rw [s2] at hi
    exact cMk_keep (g1 i hi) (by rw [hR]) (fun _ _ _ => rfl) (fun a k q _ _ => hI a k (by omega)) (fun a k q _ => by rw [hR]) (s1 3 i (by omega)) (s1 4 i (by omega)) (s1 5 i (by omega)) (s1 6 i (by omega)) (fun k _ => s1 2 _ (by omega))
  · rw [s3] at hi
    exact cFl_sig (cFl_keep (g2 i hi) (by rw [hR]) (fun _ _ _ => rfl) (fun a k q _ => hI a k (by omega)) (fun a k q _ => by rw [hR])) hs1 (hs 9 i (by omega) (by omega))
  · rw [s4] at ht
    exact cTn_keep (g3 t ht) (by rw [hR]) (fun _ _ _ => rfl) (fun a k q _ _ => hI a k (by omega)) (fun c q1 q2 => s1 c t (by omega)) (s1 4 _ (by omega))
  · rw [hR] at e
    rw [s3] at hi hj
    exact g4 i j hi hj e
theorem m_roadL {K : fh_K} {y : Nat} {L : List Nat} {v3 : Int32} (hL : L.length ≤ 4) (M0 : fh_M) (s0 : mS K M0 y) (h35 : M0.1 y 35 = nI L.length) (h27 : ∀ i, i < L.length → M0.1 (y + 27) i = nI (L.getD i 0)) :
    ∀ n i M, L.length - i < n → i ≤ L.length → M.2 = M0.2 → (∀ a k, a ≠ y + 28 → M.1 a k = M0.1 a k) → (∀ j, j < i → M.1 (y + 28) j = nI (L.getD j 0)) → (∀ j, i ≤ j → M.1 (y + 28) j = M0.1 (y + 28) j) → ∃ M', f_X11_road_L43 K n y v3 (nI i) M = some (v3, M') ∧ M'.2 = M0.2 ∧ (∀ a k, a ≠ y + 28 → M'.1 a k = M0.1 a k) ∧ (∀ j, j < L.length → M'.1 (y + 28) j = nI (L.getD j 0)) ∧ ∀ j, L.length ≤ j → M'.1 (y + 28) j = M0.1 (y + 28) j := by
  intro n
  induction n with
  | zero => intro i M q; exact absurd q (Nat.not_lt_zero _)
  | succ n ih =>
    intro i M hn hi e1 e2 e3 e4
    have s1 : mS K M y := mS_keep s0 (fun _ _ _ => rfl) (by rw [e1])
    unfold f_X11_road_L43
    rw [mo s1, e2 y 35 (by omega), h35]
    by_cases hlt : i < L.length
    · rw [if_neg (nI_ge hlt (by omega)), mi36 s1 rfl (by omega), mi38 s1 rfl (by omega), fb_eq, cl_n (by omega), e2 (y + 27) i (by omega), h27 i hlt, nI_1]
      refine ih (i + 1) _ (by omega) (by omega) e1 (fun a k z => ?_) (fun j hj => ?_) (fun j hj => ?_)
      · rw [fh_si_1, if_neg (fun q => z q.1)]; exact e2 a k z
      · rw [fh_si_1]
        by_cases z : j = i
        · rw [z, if_pos ⟨rfl, rfl⟩]
        · rw [if_neg (fun q => z q.2)]; exact e3 j (by omega)
      · rw [fh_si_1, if_neg (by omega)]; exact e4 j (by omega)
    · rw [if_pos (nI_le (by omega) (by omega))]
      have : i = L.length := by omega
      subst this
      exact ⟨M, rfl, e1, e2, e3, e4⟩
/-- the state after a road was told -/
def sT' (σ : sT) (L : List Nat) : sT := fun c j => if c = 0 ∧ j = 37 then L.length else if c = 28 then (if j < L.length then L.getD j 0 else σ 28 j) else σ c j
theorem sT'_o (σ : sT) (L : List Nat) (c j : Nat) (h1 : ¬ (c = 0 ∧ j = 37)) (h2 : c ≠ 28) : sT' σ L c j = σ c j := by
  unfold sT'
  rw [if_neg h1, if_neg h2]
theorem sT'_37 (σ : sT) (L : List Nat) : sT' σ L 0 37 = L.length := by unfold sT'; rw [if_pos ⟨rfl, rfl⟩]
theorem sT'_28 (σ : sT) (L : List Nat) (j : Nat) : sT' σ L 28 j = if j < L.length then L.getD j 0 else σ 28 j := by
  unfold sT'
  rw [if_neg (fun q => by omega), if_pos rfl]
theorem Val_told {σ : sT} {L : List Nat} (hV : Val σ) (hL : L.length ≤ 4) : Val (sT' σ L) := by
  obtain ⟨⟨v1, v2, v3, v4, v5, v6, v7⟩, w1, w2, w3, w4, w5, w6, w7⟩ := hV
  have o : ∀ c j, ¬ (c = 0 ∧ j = 37) → c ≠ 28 → sT' σ L c j = σ c j := sT'_o σ L
  refine ⟨⟨?_, ?_, ?_, ?_, ?_, ?_, ?_⟩, fun j => ?_, fun m hm => ?_, fun f hf => ?_, fun f hf => ?_, fun j hj => ?_, fun r hr => ?_, fun t ht => ?_⟩
  · rw [o _ _ (by omega) (by omega)]; exact v1
  · rw [o _ _ (by omega) (by omega)]; exact v2
  · rw [o _ _ (by omega) (by omega)]; exact v3
  · rw [o _ _ (by omega) (by omega)]; exact v4
  · rw [o _ _ (by omega) (by omega)]; exact v5
  · rw [o _ _ (by omega) (by omega)]; exact v6
  · rw [sT'_37]; exact hL
  · rw [o 1 _ (by omega) (by omega), o 2 _ (by omega) (by omega), o 7 _ (by omega) (by omega)]; exact w1 j
  · rw [o 0 3 (by omega) (by omega)] at hm
    rw [o 3 _ (by omega) (by omega), o 4 _ (by omega) (by omega), o 5 _ (by omega) (by omega), o 6 _ (by omega) (by omega)]; exact w2 m hm
  · rw [o 0 9 (by omega) (by omega)] at hf
    rw [o 8 _ (by omega) (by omega), o 9 _ (by omega) (by omega), o 10 _ (by omega) (by omega)]; exact w3 f hf
  · rw [o 0 9 (by omega) (by omega)] at hf
    rw [o 9 _ (by omega) (by omega)]; exact w4 f hf
  · rw [o 11 _ (by omega) (by omega), o 12 _ (by omega) (by omega)]; exact w5 j hj
  · rw [o 0 16 (by omega) (by omega)] at hr
    rw [o 13 _ (by omega) (by omega), o 14 _ (by omega) (by omega), o 0 3 (by omega) (by omega)]; exact w6 r hr
  · rw [o 0 19 (by omega) (by omega)] at ht
    rw [o 15 _ (by omega) (by omega), o 16 _ (by omega) (by omega), o 17 _ (by omega) (by omega), o 18 _ (by omega) (by omega), o 19 _ (by omega) (by omega), o 0 3 (by omega) (by omega)]; exact w7 t ht
theorem bestM_cl {K : fh_K} {M : fh_M} {x f a : Nat} {σ : sT} (hV : Val σ) (s1 : cS K M x) (p1 : cP K M x σ) (hf : f < σ 0 9) (h1 : M.2.2 (x + 6) f = some a) :
    ∃ M' , f_X5_search K M (x + 15) (some a) (some (x + 13)) (some (x + 7)) (nI (σ 0 2)) = some M' ∧ lE x M M' ∧ ∀ m, m < 12 → f_X5_bestTo K M' (x + 15) (nI m) = some (lN (bv σ f m)) := by
  obtain ⟨M', B, q1, q2, q3, q4⟩ := c_search hV s1 p1 hf h1
  refine ⟨M', q1, q2, fun m hm => ?_⟩
  rw [c_bestTo (cG_S (lE_G q2) s1) q3 hm, bv_bk hV q4 hm]
theorem inf_cmp {v : Nat} (hv : v ≤ INF) : lg_cmp (lN v) (9223372036854775807 : Int64) = 0 ↔ v = INF := by
  unfold INF at hv
  rw [lN_inf, lg_cmp_eq, pk_lEQ (by omega) (by unfold INF; omega)]
/-- ROAD -/
theorem op_road {sz : Nat} {K : fh_K} {M : fh_M} {x : Nat} {σ : sT} (hI : Inv sz K M x σ) (v w : Int32) : Op sz K M x (fun K M x => f_X10_road K M x v w) (fun K M y => f_X11_road K M y v w) := by
  obtain ⟨hV, s1, p1, s2, p2, k1, k2⟩ := id hI
  have hv := hV.1
  rcases pk_ix3 v (n := σ 0 9) (by omega) with h | ⟨f, hf, rfl⟩
  · refine ⟨-1, M, M, σ, ?_, ?_, hI⟩
    · show f_X10_road K M x v w = _
      unfold f_X10_road; rw [co s1, c_fileOut s1 p1 h]; rfl
    · show f_X11_road K M (x + 32) v w = _
      unfold f_X11_road; rw [mo s2, m_fileOut s2 p2 hV h]; rfl
  obtain ⟨a, ab, h1, h2, h3, g1, -⟩ := p1.2.2.2.2.2.2.2.1 f hf
  rcases pk_ix3 w (n := σ 0 3) (by omega) with h | ⟨g, hg, rfl⟩
  · refine ⟨-1, M, M, σ, ?_, ?_, hI⟩
    · show f_X10_road K M x (nI f) w = _
      unfold f_X10_road; rw [co s1, c_fileIn s1 p1 hV hf, h1, Option.bind_some, if_neg (fun q => by cases q), c_makeOut s1 p1 h]; rfl
    · show f_X11_road K M (x + 32) (nI f) w = _
      unfold f_X11_road; rw [mo s2, m_fileIn s2 p2 hV hf, m_makeOut s2 p2 hV h]; rfl
  obtain ⟨am, ak, i1, -⟩ := p1.2.2.2.2.2.2.1 g hg
  obtain ⟨M1, q1, q2, q3⟩ := bestM_cl hV s1 p1 hf h1
  have hI1 := Inv_cG hI (lE_G q2)
  obtain ⟨-, s1', p1', s2', p2', -⟩ := id hI1
  have hb := q3 g (by omega)
  -- the model's answer upon any cells that differ in the long numbers alone
  have mm : ∀ M9 : fh_M, M9.1 = M1.1 → M9.2.2 = M1.2.2 → mS K M9 (x + 32) ∧ mP M9 (x + 32) σ := fun M9 e1 e2 => ⟨mS_keep s2' (fun _ _ _ => rfl) (by rw [e2]), mP_keep p2' (fun a k _ _ => by rw [e1])⟩
  obtain ⟨M3, P, ⟨z1, -⟩, z2, z3⟩ := m_best hV s2' p2' hf hg
  have cl : f_X10_road K M x (nI f) (nI g) = (if (lg_cmp (lN (bv σ f g)) (9223372036854775807 : Int64)) = 0 then some ((-1), M1) else fb (fh_sl M1 x 14 (lN (bv σ f g))) fun M9 => (f_X5_priceOf K M9 (lN (bv σ f g))).bind fun r10 => some (r10, M9)) := by
    unfold f_X10_road
    rw [co s1, c_fileIn s1 p1 hV hf, h1, Option.bind_some, if_neg (fun q => by cases q), c_makeIn s1 p1 hV hg, i1, Option.bind_some, if_neg (fun q => by cases q), cr0_7 s1, fo_ok (ck15 s1), cr0_6 s1, cr0_4 s1, p1.1.2.2, q1, Option.bind_some, cr0_7 s1', fo_ok (ck15 s1'), hb, Option.bind_some]
  have ml : ∀ M9, mS K M9 (x + 32) → mP M9 (x + 32) σ → f_X11_road K M9 (x + 32) (nI f) (nI g) = (fc2 (f_X11_bestRoad K M9 (x + 32) (nI f) (nI g)) fun r4 M5 => if r4 = (-1) then some ((-1), M5) else fb (fh_si M5 (x + 32) 37 (M5.1 (x + 32) 35)) fun M6 => f_X11_road_L43 K 4096 (x + 32) (r4) (0) M6) := by
    intro M9 a1 a2
    unfold f_X11_road
    rw [mo a1, m_fileIn a1 a2 hV hf, Option.bind_some, if_neg (by decide), m_makeIn a1 a2 hV hg, Option.bind_some, if_neg (by decide)]
  cases P with
  | none =>
    rcases z3 with ⟨-, z3⟩ | ⟨L, e, -⟩
    · refine ⟨-1, M1, M3, σ, ?_, ?_, Inv_mG hI1 z1⟩
      · show f_X10_road K M x (nI f) (nI g) = _
        rw [cl, if_pos ((inf_cmp (by rw [bv_none z2]; exact Nat.le_refl _)).mpr (bv_none z2))]
      · show f_X11_road K M1 (x + 32) (nI f) (nI g) = _
        rw [ml M1 s2' p2', z3, fc2_some, if_pos rfl]
    · cases e
  | some L =>
    obtain ⟨l1, l2, l3, l4, l5⟩ := bst_lt hV z2
    have e0 := bv_some z2
    obtain ⟨s9, p9⟩ := mm (fh_sl M1 x 14 (lN (bv σ f g))) rfl rfl
    obtain ⟨M4, P', ⟨y1, -⟩, y2, y3⟩ := m_best hV s9 p9 hf hg
    cases P' with
    | none =>
      have := bv_none y2
      rw [e0] at this
      unfold INF at this
      omega
    | some L' =>
      rcases y3 with ⟨e, -⟩ | ⟨L'', e, y3, y4, y5⟩
      · cases e
      · cases e
        have e1 := bv_some y2
        obtain ⟨l1', l2', l3', l4', l5'⟩ := bst_lt hV y2
        have s4 := mG_S y1 s9
        have s5 : mS K (fh_si M4 (x + 32) 37 (M4.1 (x + 32) 35)) (x + 32) := mS_keep s4 (fun _ _ _ => rfl) rfl
        obtain ⟨M5, w1, w2, w3, w4, w5⟩ := m_roadL (K := K) (y := x + 32) (L := L') (v3 := nI (pcs σ L')) l4' _ s5 (by rw [fh_si_1, if_neg (by omega)]; exact y4) (fun i hi => by rw [fh_si_1, if_neg (by omega)]; exact y5 i hi) 4096 0 _ (by omega) (Nat.zero_le _) rfl (fun _ _ _ => rfl) (fun j hj => absurd hj (Nat.not_lt_zero _)) (fun _ _ => rfl)
        have c5 : ∀ a k, ¬ (x + 32 ≤ a ∧ a < x + 63) → M5.1 a k = M1.1 a k := fun a k q => by
          rw [w3 a k (by omega), fh_si_1, if_neg (by omega), (mG_cG y1).1 a k q]
          rfl
        have r5 : M5.2 = (fh_sl M1 x 14 (lN (bv σ f g))).2 := by rw [w2]; exact y1.1
        have r6 : M5.2.2 = M1.2.2 := by rw [r5]; rfl
        have hpr : ∀ M9, f_X5_priceOf K M9 (lN (bv σ f g)) = some (nI (pcs σ L')) := fun M9 => by
          rw [e1]
          unfold key
          exact k_price K M9 l2' (by omega) l3'
        refine ⟨nI (pcs σ L'), fh_sl M1 x 14 (lN (bv σ f g)), M5, sT' σ L', ?_, ?_, Val_told hV l4', ?_, ?_, ?_, ?_, k1, k2⟩
        · show f_X10_road K M x (nI f) (nI g) = _
          rw [cl, if_neg (fun q => by
            rw [inf_cmp (by rw [e1]; unfold INF; omega), e1] at q
            unfold INF at q
            omega), fb_eq, hpr, Option.bind_some]
        · show f_X11_road K _ (x + 32) (nI f) (nI g) = _
          rw [ml _ s9 p9, y3, fc2_some, if_neg (n_ne_m1 (by omega)), fb_eq, n_0, w1]
        · exact cS_keep s1' (fun _ _ _ => rfl) (fun a k _ _ _ _ => by rw [r6])
        · refine cP_told p1' (sT'_o σ L') c5 r6 ⟨pcs σ L', l2', ?_, fun k hk => ?_⟩
          · rw [r5, sT'_37, fh_sl_21, if_pos ⟨rfl, rfl⟩, e1, rowC_rcs L'.length L' (sT' σ L' 28) rfl (fun j hj => by rw [sT'_28, if_pos hj])]
            rfl
          · rw [sT'_37] at hk
            rw [sT'_28, if_pos hk]
            have := getD_lt l5' hk
            omega
        · exact mS_keep s5 (fun _ _ _ => rfl) (by rw [w2])
        · refine ⟨fun k hk => ?_, fun j hj => ?_, fun c j hc => ?_, fun j => ?_⟩
          · by_cases z : k = 37
            · rw [z, sT'_37, w3 _ _ (by omega), fh_si_1, if_pos ⟨rfl, rfl⟩]; exact y4
            · rw [sT'_o _ _ _ _ (by omega) (by omega), w3 _ _ (by omega), fh_si_1, if_neg (by omega)]
              exact mP_s (mG_P y1 p9) k hk
          · rw [sT'_o _ _ _ _ (by omega) (by omega), w3 _ _ (by omega), fh_si_1, if_neg (by omega)]
            exact (mG_P y1 p9).2.1 j hj
          · by_cases z : c = 28
            · rw [z, sT'_28]
              by_cases z2 : j < L'.length
              · rw [if_pos z2]; exact w4 j z2
              · rw [if_neg z2, w5 j (by omega), fh_si_1, if_neg (by omega)]
                exact mP_a (mG_P y1 p9) 28 j (by omega)
            · rw [sT'_o _ _ _ _ (by omega) z, w3 _ _ (by omega), fh_si_1, if_neg (by omega)]
              exact mP_a (mG_P y1 p9) c j hc
          · rw [sT'_o _ _ _ _ (by omega) (by omega), w3 _ _ (by omega), fh_si_1, if_neg (by omega)]
            exact (mG_P y1 p9).2.2.2 j
