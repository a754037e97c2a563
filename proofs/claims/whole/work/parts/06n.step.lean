theorem pf_lI {a : Nat} (h : a < 2 ^ 63) : (lN a).toInt = (a : Int) := lg_ofNat_toInt h
theorem pf_shr {a d : Nat} {D : Int64} (hD : (D.toBitVec.smod 64).toNat = d) (h : a < 2 ^ 62) : lN a >>> D = lN (a / 2 ^ d) := by
  have hd : a / 2 ^ d ≤ a := Nat.div_le_self _ _
  apply Int64.toInt_inj.mp
  have e : (lN a >>> D).toInt = (lN a).toInt >>> d := by
    rw [← hD]
    exact BitVec.toInt_sshiftRight ..
  rw [e, Int.shiftRight_eq_div_pow, pf_lI (by omega), pf_lI (by omega)]
  rfl
theorem g_shl {a k p : Nat} {y : Int64} (hy : y.toBitVec.smod 64 = BitVec.ofNat 64 k) (hk : k < 64) (hp : 2 ^ k = p) (ha : a < 2 ^ 64) : lN a <<< y = lN (a * p) := by
  subst hp
  apply Int64.toBitVec_inj.mp
  rw [Int64.toBitVec_shiftLeft, hy]
  apply BitVec.eq_of_toNat_eq
  have hb : (lN a).toBitVec.toNat = a := Nat.mod_eq_of_lt ha
  have hk' : (BitVec.ofNat 64 k).toNat = k := Nat.mod_eq_of_lt (by omega)
  have h : ((lN a).toBitVec <<< BitVec.ofNat 64 k).toNat = (a * 2 ^ k) % 2 ^ 64 := by simp only [BitVec.shiftLeft_eq', BitVec.toNat_shiftLeft, hb, hk', Nat.shiftLeft_eq]
  exact h
theorem fb_andL (a b : Nat) : lN a &&& lN b = lN (a &&& b) := by
  apply Int64.toBitVec_inj.1
  show BitVec.ofNat 64 a &&& BitVec.ofNat 64 b = BitVec.ofNat 64 (a &&& b)
  apply BitVec.eq_of_getLsbD_eq
  intro i hi
  simp [hi]
theorem fb_orL (a b : Nat) : lN a ||| lN b = lN (a ||| b) := by
  apply Int64.toBitVec_inj.1
  show BitVec.ofNat 64 a ||| BitVec.ofNat 64 b = BitVec.ofNat 64 (a ||| b)
  apply BitVec.eq_of_getLsbD_eq
  intro i hi
  simp [hi]
/-- a road as a number -/
def kN (p L R : Nat) : Nat := (p * 8 + L) * 2 ^ 20 + R
theorem kN_lt {p L R : Nat} (hp : p < 2 ^ 17) (hL : L < 8) (hR : R < 2 ^ 20) : kN p L R < 2 ^ 40 := by unfold kN; omega
theorem k_len (K : fh_K) (M : fh_M) {p L R : Nat} (hp : p < 2 ^ 17) (hL : L < 8) (hR : R < 2 ^ 20) : f_X5_lengthOf K M (lN (kN p L R)) = some (nI L) := by
  have h0 := kN_lt hp hL hR
  unfold f_X5_lengthOf
  rw [pf_shr (d := 20) (by decide) (by omega), lN_i, pk_andN (by omega) 3 (by decide)]
  congr 2
  unfold kN
  omega
theorem k_price (K : fh_K) (M : fh_M) {p L R : Nat} (hp : p < 2 ^ 17) (hL : L < 8) (hR : R < 2 ^ 20) : f_X5_priceOf K M (lN (kN p L R)) = some (nI p) := by
  have h0 := kN_lt hp hL hR
  unfold f_X5_priceOf
  rw [pf_shr (d := 23) (by decide) (by omega), lN_i]
  congr 2
  unfold kN
  omega
theorem k_row {p L R : Nat} (hR : R < 2 ^ 20) : kN p L R &&& (2 ^ 20 - 1) = R := by
  rw [Nat.and_two_pow_sub_one_eq_mod]
  unfold kN
  omega
/-- STEP -/
theorem op_step {sz : Nat} {K : fh_K} {M : fh_M} {x : Nat} {σ : sT} (hI : Inv sz K M x σ) (v : Int32) : ∃ r, f_X10_step K M x v = some r ∧ f_X11_step K M (x + 32) v = some r := by
  obtain ⟨hV, s1, p1, s2, p2, k1, k2⟩ := id hI
  have hv := hV.1
  obtain ⟨p, hp, e14, h28⟩ := p1.2.2.2.2.2.1
  have hR : rowC (σ 28) (σ 0 37) < 2 ^ 20 := by
    have h1 := rowC_lt (σ 28) (σ 0 37) h28
    have h2 : 32 ^ (σ 0 37) ≤ 32 ^ 4 := Nat.pow_le_pow_right (by omega) (by omega)
    omega
  have e14 : M.2.1 x 14 = lN (kN p (σ 0 37) (rowC (σ 28) (σ 0 37))) := e14
  have c1 : f_X10_step K M x v = if v < 0 then some (-1) else if v < nI (σ 0 37) then some ((((lN (kN p (σ 0 37) (rowC (σ 28) (σ 0 37)))).toInt32 &&& 1048575) >>> ((5 * ((nI (σ 0 37) - 1) - v)) &&& 31)) &&& 31) else some (-1) := by
    unfold f_X10_step f_X5_stepOf
    rw [co s1, e14, k_len K M hp (by omega) hR]
    simp
  have m1 : f_X11_step K M (x + 32) v = (f_X11_lies K M v 0 (nI (σ 0 37) - 1)).bind fun r2 => if r2 = 0 then some (-1) else fi K 13 (M.2.2 (x + 32) 38) v fun a3 => some (M.1 a3 v.toNatClampNeg) := by
    unfold f_X11_step
    rw [mo s2, mP_s p2 37 (by omega)]
  have out : (v < 0 ∨ nI (σ 0 37) ≤ v) → ∃ r, f_X10_step K M x v = some r ∧ f_X11_step K M (x + 32) v = some r := by
    intro h
    refine ⟨-1, ?_, ?_⟩
    · rw [c1]
      by_cases h0 : v < 0
      · rw [if_pos h0]
      · have h5 : ¬ v < nI (σ 0 37) := by
          have h6 := h.resolve_left h0
          rw [fa_le] at h6
          rw [fa_lt]; omega
        rw [if_neg h0, if_neg h5]
    · rw [m1, m_liesOut (lies_out (by omega) h)]
      rfl
  rcases pk_ix v (n := σ 0 37) (by omega) with h | h | ⟨i, hi, rfl⟩
  · exact out (Or.inl h)
  · exact out (Or.inr h)
  · refine ⟨nI (σ 28 i), ?_, ?_⟩
    · rw [c1, if_neg (nI_pos (by omega)), if_pos (nI_lt hi (by omega)), lN_i, show (1048575 : Int32) = nI (2 ^ 20 - 1) from rfl, fa_and, k_row hR, n_1, n_m (by omega), n_m (by omega), show (5 : Int32) = nI 5 from rfl, pk_mul, pk_shrN (by omega) _ (5 * (σ 0 37 - 1 - i)) (sh_31 _ (by omega))]
      have hle : rowC (σ 28) (σ 0 37) / 2 ^ (5 * (σ 0 37 - 1 - i)) ≤ rowC (σ 28) (σ 0 37) := Nat.div_le_self _ _
      rw [pk_andN (by omega) 5 (by decide), Nat.pow_mul]
      exact congrArg (fun z => some (nI z)) (rowC_at (σ 28) (σ 0 37) i h28 hi)
    · obtain ⟨l1, l2⟩ := lies_in (n := σ 0 37) (by omega) hi
      rw [m1, m_lies, if_neg l1, if_neg l2]
      simp only [Option.bind_some]
      rw [if_neg (show ¬ (1 : Int32) = 0 by decide), mi38 s2 rfl (by omega), cl_n (by omega), mP_a p2 28 i (by omega)]
