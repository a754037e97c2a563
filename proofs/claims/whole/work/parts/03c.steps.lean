def fb {α β : Type} (x : α) (f : α → Option β) : Option β := f x
theorem fb_s {α β : Type} {x : α} {f : α → Option β} {y : β} (h : fb x f = some y) : ∃ m, x = m ∧ f m = some y := ⟨x, rfl, h⟩
theorem fv_eqM {X : fh_X} {R : Room} {nL : Nat} {z : Nat × Nat × Nat} {K : fh_K} {M : fh_M} {pc : Nat} {lv : List (Nat × Value)} {st : List Value} {M' : fh_M} (e : M = M') (k : fh_V X R nL z K M' pc lv st) : fh_V X R nL z K M pc lv st := by rw [e]; exact k
theorem fv_eqK {X : fh_X} {R : Room} {nL : Nat} {z : Nat × Nat × Nat} {K : fh_K} {M : fh_M} {pc : Nat} {lv : List (Nat × Value)} {st : List Value} {K' : fh_K} (e : K = K') (k : fh_V X R nL z K' M pc lv st) : fh_V X R nL z K M pc lv st := by rw [e]; exact k
def fz {α : Type} (v : Int32) (x : Option α) : Option α := if v = 0 ∨ v = 1 then x else none
theorem fz_s {α : Type} {v : Int32} {x : Option α} {y : α} (h : fz v x = some y) : (v = 0 ∨ v = 1) ∧ x = some y := by
  by_cases hv : v = 0 ∨ v = 1
  · exact ⟨hv, by simpa [fz, hv] using h⟩
  · unfold fz at h; rw [if_neg hv] at h; cases h
def fn {α : Type} (n : Int32) (b : Nat) (f : Nat → Option α) : Option α := if ¬ n < 0 ∧ n.toNatClampNeg ≤ b then f n.toNatClampNeg else none
theorem fn_s {α : Type} {n : Int32} {b : Nat} {f : Nat → Option α} {x : α} (h : fn n b f = some x) : ∃ N, ¬ n < 0 ∧ n.toNatClampNeg = N ∧ N ≤ b ∧ f N = some x := by
  by_cases hv : ¬ n < 0 ∧ n.toNatClampNeg ≤ b
  · exact ⟨_, hv.1, rfl, hv.2, by unfold fn at h; rw [if_pos hv] at h; exact h⟩
  · unfold fn at h; rw [if_neg hv] at h; cases h
def fq {α : Type} (K : fh_K) (r0 : Option Nat) (sp : Int32) (r : Option Nat) (dp n : Int32) (f : Nat → Nat → Option α) : Option α := match r0, r with
  | some a0, some a => if (K a0).1 = 13 ∧ (K a).1 = 13 ∧ ¬ sp < 0 ∧ ¬ dp < 0 ∧ ¬ n < 0 ∧ sp.toNatClampNeg + n.toNatClampNeg ≤ (K a0).2 ∧ dp.toNatClampNeg + n.toNatClampNeg ≤ (K a).2 then f a0 a else none
  | _, _ => none
theorem fq_s {α : Type} {K : fh_K} {r0 : Option Nat} {sp : Int32} {r : Option Nat} {dp n : Int32} {f : Nat → Nat → Option α} {x : α} (h : fq K r0 sp r dp n f = some x) : ∃ a0 a, r0 = some a0 ∧ r = some a ∧ ((K a0).1 = 13 ∧ (K a).1 = 13 ∧ ¬ sp < 0 ∧ ¬ dp < 0 ∧ ¬ n < 0 ∧ sp.toNatClampNeg + n.toNatClampNeg ≤ (K a0).2 ∧ dp.toNatClampNeg + n.toNatClampNeg ≤ (K a).2) ∧ f a0 a = some x := by
  cases r0 with
  | none => cases h
  | some a0 =>
    cases r with
    | none => cases h
    | some a =>
      simp only [fq] at h
      split at h
      · rename_i hc; exact ⟨a0, a, rfl, rfl, hc, h⟩
      · cases h
def fc2 {α β γ : Type} (x : Option (α × β)) (f : α → β → Option γ) : Option γ := match x with
  | none => none
  | some q => f q.1 q.2
theorem fc2_s {α β γ : Type} {x : Option (α × β)} {f : α → β → Option γ} {y : γ} (h : fc2 x f = some y) : ∃ a b, x = some (a, b) ∧ f a b = some y := by
  cases x with
  | none => cases h
  | some q => exact ⟨q.1, q.2, rfl, h⟩
def fc3 {β γ : Type} (x : Option (Nat × fh_K × β)) (f : Nat → fh_K → β → Option γ) : Option γ := match x with
  | none => none
  | some q => f q.1 q.2.1 q.2.2
theorem fc3_s {β γ : Type} {x : Option (Nat × fh_K × β)} {f : Nat → fh_K → β → Option γ} {y : γ} (h : fc3 x f = some y) : ∃ a b c, x = some (a, b, c) ∧ f a b c = some y := by
  cases x with
  | none => cases h
  | some q => exact ⟨q.1, q.2.1, q.2.2, rfl, h⟩
def fc4 {α β γ : Type} (x : Option (α × Nat × fh_K × β)) (f : α → Nat → fh_K → β → Option γ) : Option γ := match x with
  | none => none
  | some q => f q.1 q.2.1 q.2.2.1 q.2.2.2
theorem fc4_s {α β γ : Type} {x : Option (α × Nat × fh_K × β)} {f : α → Nat → fh_K → β → Option γ} {y : γ} (h : fc4 x f = some y) : ∃ d a b c, x = some (d, a, b, c) ∧ f d a b c = some y := by
  cases x with
  | none => cases h
  | some q => exact ⟨q.1, q.2.1, q.2.2.1, q.2.2.2, rfl, h⟩
theorem fv_aast2 {X : fh_X} {R : Room} {nL : Nat} {z : Nat × Nat × Nat} {K : fh_K} {M : fh_M} {pc : Nat} {lv : List (Nat × Value)} {st : List Value} {cc : ByteArray} {own : String} (C : fh_C X nL cc own) {r rv : Option Nat} {a v ci t : Nat} {i : Int32} {q : vw_C} (t0 : Nat) (ht1 : 16 < t) (hc : vwCl[ci]? = some q) (hci : ci < 12) (hty : ∀ D : fh_D, (fh_tys D)[t0]? = some (D.2.2 t, .object q.1)) (hr : r = some a) (hk : (K a).1 = t) (hi : vp_in i (K a).2) (hrv : rv = some v) (hv : (K v).1 = ci + 1) (hd : decode cc pc = .ok (.aastore, 1)) (kk : fh_V X R nL z K (fh_sr M a i.toNatClampNeg (some v)) (pc + 1) lv st) : fh_V X R nL z K M pc lv (va_rf rv :: .int i :: va_rf r :: st) := by
  subst hrv
  exact fv_aast C t0 ht1 hc hci hty hr hk hi hv hd kk
def fle {α : Type} (n b : Nat) (x : Option α) : Option α := if n ≤ b then x else none
theorem fle_s {α : Type} {n b : Nat} {x : Option α} {y : α} (h : fle n b x = some y) : n ≤ b ∧ x = some y := by
  by_cases hv : n ≤ b
  · exact ⟨hv, by unfold fle at h; rw [if_pos hv] at h; exact h⟩
  · unfold fle at h; rw [if_neg hv] at h; cases h
theorem cat_i (x : Int32) : (Value.int x).category = 1 := rfl
theorem cat_l (x : Int64) : (Value.long x).category = 2 := rfl
theorem fs_1 {α : Type} {a b : α} (h : some a = some b) : a = b := Option.some.inj h
