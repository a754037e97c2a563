theorem fh_si_1 (M : fh_M) (a k : Nat) (v : Int32) (b j : Nat) : (fh_si M a k v).1 b j = if b = a ∧ j = k then v else M.1 b j := rfl
theorem fh_si_2 (M : fh_M) (a k : Nat) (v : Int32) : (fh_si M a k v).2 = M.2 := rfl
theorem fh_si_22 (M : fh_M) (a k : Nat) (v : Int32) : (fh_si M a k v).2.2 = M.2.2 := rfl
theorem fh_si_21 (M : fh_M) (a k : Nat) (v : Int32) : (fh_si M a k v).2.1 = M.2.1 := rfl
theorem fh_sr_1 (M : fh_M) (a k : Nat) (v : Option Nat) : (fh_sr M a k v).1 = M.1 := rfl
theorem fh_sr_21 (M : fh_M) (a k : Nat) (v : Option Nat) : (fh_sr M a k v).2.1 = M.2.1 := rfl
theorem fh_sr_22 (M : fh_M) (a k : Nat) (v : Option Nat) (b j : Nat) : (fh_sr M a k v).2.2 b j = if b = a ∧ j = k then v else M.2.2 b j := rfl
theorem fh_sl_1 (M : fh_M) (a k : Nat) (v : Int64) : (fh_sl M a k v).1 = M.1 := rfl
theorem fh_sl_22 (M : fh_M) (a k : Nat) (v : Int64) : (fh_sl M a k v).2.2 = M.2.2 := rfl
theorem fh_sl_21 (M : fh_M) (a k : Nat) (v : Int64) (b j : Nat) : (fh_sl M a k v).2.1 b j = if b = a ∧ j = k then v else M.2.1 b j := rfl
theorem fh_ri_1 (M : fh_M) (a : Nat) (g : Nat → Int32) (b j : Nat) : (fh_ri M a g).1 b j = if b = a then g j else M.1 b j := rfl
theorem fh_ri_2 (M : fh_M) (a : Nat) (g : Nat → Int32) : (fh_ri M a g).2 = M.2 := rfl
theorem fb_eq {α β : Type} (x : α) (f : α → Option β) : fb x f = f x := rfl
theorem fz_0 {α : Type} (x : Option α) : fz 0 x = x := rfl
theorem fz_1 {α : Type} (x : Option α) : fz 1 x = x := rfl
theorem fz_if {α : Type} (c : Prop) [Decidable c] (x : Option α) : fz (if c then 1 else 0) x = x := by by_cases h : c <;> simp [fz, h]
theorem fo_ok {α : Type} {K : fh_K} {ci a n : Nat} {f : Nat → Option α} (h : K a = (ci + 1, n)) : fo K ci (some a) f = f a := by simp [fo, h]
theorem fa_ok {α : Type} {K : fh_K} {t a n : Nat} {f : Nat → Option α} (h : K a = (t, n)) : fa K t (some a) f = f a := by simp [fa, h]
theorem fi_ok {α : Type} {K : fh_K} {t a n j : Nat} {i : Int32} {f : Nat → Option α} (h : K a = (t, n)) (hi : i = nI j) (hj : j < n) (hn : n ≤ 65536) : fi K t (some a) i f = f a := by
  subst hi
  have h1 : ¬ (nI j < 0 ∨ (K a).2 ≤ (nI j).toNatClampNeg) := by
    rw [h, nI_clamp (by omega)]
    exact fun q => q.elim (nI_pos (by omega)) (by simp; omega)
  simp only [fi]
  rw [if_pos ⟨by rw [h], h1⟩]
theorem cl_n {n : Nat} (h : n < 2 ^ 31) : (nI n).toNatClampNeg = n := nI_clamp h
theorem n_0 : (0 : Int32) = nI 0 := rfl
theorem n_1 : (1 : Int32) = nI 1 := rfl
theorem n_2 : (2 : Int32) = nI 2 := rfl
theorem n_3 : (3 : Int32) = nI 3 := rfl
theorem n_4 : (4 : Int32) = nI 4 := rfl
theorem n_8 : (8 : Int32) = nI 8 := rfl
theorem n_12 : (12 : Int32) = nI 12 := rfl
theorem n_20 : (20 : Int32) = nI 20 := rfl
theorem n_24 : (24 : Int32) = nI 24 := rfl
theorem n_29 : (29 : Int32) = nI 29 := rfl
theorem n_40 : (40 : Int32) = nI 40 := rfl
theorem n_60 : (60 : Int32) = nI 60 := rfl
theorem n_80 : (80 : Int32) = nI 80 := rfl
theorem n_255 : (255 : Int32) = nI 255 := rfl
theorem n_256 : (256 : Int32) = nI 256 := rfl
theorem n_999 : (999 : Int32) = nI 999 := rfl
theorem n_4095 : (4095 : Int32) = nI 4095 := rfl
theorem n_9999 : (9999 : Int32) = nI 9999 := rfl
theorem n_m {a b : Nat} (h : b ≤ a) : nI a - nI b = nI (a - b) := pk_sub h
theorem n_m1 {a : Nat} (h : 0 < a) : nI a + (-1) = nI (a - 1) := by
  obtain ⟨b, rfl⟩ : ∃ b, a = b + 1 := ⟨a - 1, by omega⟩
  exact pk_m1 b
theorem n_inj {a b : Nat} (ha : a < 2 ^ 31) (hb : b < 2 ^ 31) (h : nI a = nI b) : a = b := (nI_eq ha hb).mp h
theorem n_ne_m1 {a : Nat} (h : a < 2 ^ 31) : nI a ≠ -1 := by
  intro q
  have := congrArg Int32.toInt q
  rw [nI_toInt h] at this
  have e : (-1 : Int32).toInt = -1 := by decide
  omega
def mR (y : Nat) : Nat → Option Nat := fun k => if k = 0 then some (y + 1) else if k = 4 then some (y + 2) else if k = 5 then some (y + 3) else if k = 6 then some (y + 4) else if k = 7 then some (y + 5) else if k = 8 then some (y + 6) else if k = 10 then some (y + 7) else if k = 11 then some (y + 8) else if k = 12 then some (y + 9) else if k = 13 then some (y + 10) else if k = 14 then some (y + 11) else if k = 15 then some (y + 12) else if k = 17 then some (y + 13) else if k = 18 then some (y + 14) else if k = 20 then some (y + 15) else if k = 21 then some (y + 16) else if k = 22 then some (y + 17) else if k = 23 then some (y + 18) else if k = 24 then some (y + 19) else if k = 27 then some (y + 20) else if k = 28 then some (y + 21) else if k = 29 then some (y + 22) else if k = 31 then some (y + 23) else if k = 32 then some (y + 24) else if k = 33 then some (y + 25) else if k = 34 then some (y + 26) else if k = 36 then some (y + 27) else if k = 38 then some (y + 28) else if k = 39 then some (y + 29) else if k = 42 then some (y + 30) else none
def mS (K : fh_K) (M : fh_M) (y : Nat) : Prop := K y = (12, 0) ∧ M.2.2 y = mR y ∧ K (y + 1) = (14, 80) ∧ K (y + 2) = (13, 48) ∧ K (y + 3) = (13, 12) ∧ K (y + 4) = (13, 12) ∧ K (y + 5) = (15, 12) ∧ K (y + 6) = (13, 12) ∧ K (y + 7) = (13, 2400) ∧ K (y + 8) = (13, 40) ∧ K (y + 9) = (13, 40) ∧ K (y + 10) = (13, 40) ∧ K (y + 11) = (13, 8) ∧ K (y + 12) = (13, 8) ∧ K (y + 13) = (13, 24) ∧ K (y + 14) = (13, 24) ∧ K (y + 15) = (13, 24) ∧ K (y + 16) = (13, 24) ∧ K (y + 17) = (13, 24) ∧ K (y + 18) = (13, 24) ∧ K (y + 19) = (13, 24) ∧ K (y + 20) = (13, 30) ∧ K (y + 21) = (13, 30) ∧ K (y + 22) = (13, 30) ∧ K (y + 23) = (13, 30) ∧ K (y + 24) = (13, 30) ∧ K (y + 25) = (13, 30) ∧ K (y + 26) = (13, 60) ∧ K (y + 27) = (13, 4) ∧ K (y + 28) = (13, 4) ∧ K (y + 29) = (13, 60) ∧ K (y + 30) = (13, 4)
theorem mo {α : Type} {K : fh_K} {M : fh_M} {y : Nat} {f : Nat → Option α} (h : mS K M y) : fo K 11 (some y) f = f y := fo_ok h.1
theorem mk1 {K : fh_K} {M : fh_M} {y : Nat} (h : mS K M y) : K (y + 1) = (14, 80) := h.2.2.1
theorem mr0 {K : fh_K} {M : fh_M} {y : Nat} (h : mS K M y) : M.2.2 y 0 = some (y + 1) := by rw [h.2.1]; rfl
theorem mi0 {α : Type} {K : fh_K} {M : fh_M} {y j : Nat} {i : Int32} {f : Nat → Option α} (h : mS K M y) (hi : i = nI j) (hj : j < 80) : fi K 14 (M.2.2 y 0) i f = f (y + 1) := by rw [mr0 h]; exact fi_ok (mk1 h) hi hj (by decide)
theorem mk2 {K : fh_K} {M : fh_M} {y : Nat} (h : mS K M y) : K (y + 2) = (13, 48) := h.2.2.2.1
theorem mr4 {K : fh_K} {M : fh_M} {y : Nat} (h : mS K M y) : M.2.2 y 4 = some (y + 2) := by rw [h.2.1]; rfl
theorem mi4 {α : Type} {K : fh_K} {M : fh_M} {y j : Nat} {i : Int32} {f : Nat → Option α} (h : mS K M y) (hi : i = nI j) (hj : j < 48) : fi K 13 (M.2.2 y 4) i f = f (y + 2) := by rw [mr4 h]; exact fi_ok (mk2 h) hi hj (by decide)
theorem mk3 {K : fh_K} {M : fh_M} {y : Nat} (h : mS K M y) : K (y + 3) = (13, 12) := h.2.2.2.2.1
theorem mr5 {K : fh_K} {M : fh_M} {y : Nat} (h : mS K M y) : M.2.2 y 5 = some (y + 3) := by rw [h.2.1]; rfl
theorem mi5 {α : Type} {K : fh_K} {M : fh_M} {y j : Nat} {i : Int32} {f : Nat → Option α} (h : mS K M y) (hi : i = nI j) (hj : j < 12) : fi K 13 (M.2.2 y 5) i f = f (y + 3) := by rw [mr5 h]; exact fi_ok (mk3 h) hi hj (by decide)
theorem mk4 {K : fh_K} {M : fh_M} {y : Nat} (h : mS K M y) : K (y + 4) = (13, 12) := h.2.2.2.2.2.1
theorem mr6 {K : fh_K} {M : fh_M} {y : Nat} (h : mS K M y) : M.2.2 y 6 = some (y + 4) := by rw [h.2.1]; rfl
theorem mi6 {α : Type} {K : fh_K} {M : fh_M} {y j : Nat} {i : Int32} {f : Nat → Option α} (h : mS K M y) (hi : i = nI j) (hj : j < 12) : fi K 13 (M.2.2 y 6) i f = f (y + 4) := by rw [mr6 h]; exact fi_ok (mk4 h) hi hj (by decide)
theorem mk5 {K : fh_K} {M : fh_M} {y : Nat} (h : mS K M y) : K (y + 5) = (15, 12) := h.2.2.2.2.2.2.1
theorem mr7 {K : fh_K} {M : fh_M} {y : Nat} (h : mS K M y) : M.2.2 y 7 = some (y + 5) := by rw [h.2.1]; rfl
theorem mi7 {α : Type} {K : fh_K} {M : fh_M} {y j : Nat} {i : Int32} {f : Nat → Option α} (h : mS K M y) (hi : i = nI j) (hj : j < 12) : fi K 15 (M.2.2 y 7) i f = f (y + 5) := by rw [mr7 h]; exact fi_ok (mk5 h) hi hj (by decide)
theorem mk6 {K : fh_K} {M : fh_M} {y : Nat} (h : mS K M y) : K (y + 6) = (13, 12) := h.2.2.2.2.2.2.2.1
theorem mr8 {K : fh_K} {M : fh_M} {y : Nat} (h : mS K M y) : M.2.2 y 8 = some (y + 6) := by rw [h.2.1]; rfl
theorem mi8 {α : Type} {K : fh_K} {M : fh_M} {y j : Nat} {i : Int32} {f : Nat → Option α} (h : mS K M y) (hi : i = nI j) (hj : j < 12) : fi K 13 (M.2.2 y 8) i f = f (y + 6) := by rw [mr8 h]; exact fi_ok (mk6 h) hi hj (by decide)
theorem mk7 {K : fh_K} {M : fh_M} {y : Nat} (h : mS K M y) : K (y + 7) = (13, 2400) := h.2.2.2.2.2.2.2.2.1
theorem mr10 {K : fh_K} {M : fh_M} {y : Nat} (h : mS K M y) : M.2.2 y 10 = some (y + 7) := by rw [h.2.1]; rfl
theorem mi10 {α : Type} {K : fh_K} {M : fh_M} {y j : Nat} {i : Int32} {f : Nat → Option α} (h : mS K M y) (hi : i = nI j) (hj : j < 2400) : fi K 13 (M.2.2 y 10) i f = f (y + 7) := by rw [mr10 h]; exact fi_ok (mk7 h) hi hj (by decide)
theorem mk8 {K : fh_K} {M : fh_M} {y : Nat} (h : mS K M y) : K (y + 8) = (13, 40) := h.2.2.2.2.2.2.2.2.2.1
theorem mr11 {K : fh_K} {M : fh_M} {y : Nat} (h : mS K M y) : M.2.2 y 11 = some (y + 8) := by rw [h.2.1]; rfl
theorem mi11 {α : Type} {K : fh_K} {M : fh_M} {y j : Nat} {i : Int32} {f : Nat → Option α} (h : mS K M y) (hi : i = nI j) (hj : j < 40) : fi K 13 (M.2.2 y 11) i f = f (y + 8) := by rw [mr11 h]; exact fi_ok (mk8 h) hi hj (by decide)
theorem mk9 {K : fh_K} {M : fh_M} {y : Nat} (h : mS K M y) : K (y + 9) = (13, 40) := h.2.2.2.2.2.2.2.2.2.2.1
theorem mr12 {K : fh_K} {M : fh_M} {y : Nat} (h : mS K M y) : M.2.2 y 12 = some (y + 9) := by rw [h.2.1]; rfl
theorem mi12 {α : Type} {K : fh_K} {M : fh_M} {y j : Nat} {i : Int32} {f : Nat → Option α} (h : mS K M y) (hi : i = nI j) (hj : j < 40) : fi K 13 (M.2.2 y 12) i f = f (y + 9) := by rw [mr12 h]; exact fi_ok (mk9 h) hi hj (by decide)
theorem mk10 {K : fh_K} {M : fh_M} {y : Nat} (h : mS K M y) : K (y + 10) = (13, 40) := h.2.2.2.2.2.2.2.2.2.2.2.1
theorem mr13 {K : fh_K} {M : fh_M} {y : Nat} (h : mS K M y) : M.2.2 y 13 = some (y + 10) := by rw [h.2.1]; rfl
theorem mi13 {α : Type} {K : fh_K} {M : fh_M} {y j : Nat} {i : Int32} {f : Nat → Option α} (h : mS K M y) (hi : i = nI j) (hj : j < 40) : fi K 13 (M.2.2 y 13) i f = f (y + 10) := by rw [mr13 h]; exact fi_ok (mk10 h) hi hj (by decide)
theorem mk11 {K : fh_K} {M : fh_M} {y : Nat} (h : mS K M y) : K (y + 11) = (13, 8) := h.2.2.2.2.2.2.2.2.2.2.2.2.1
theorem mr14 {K : fh_K} {M : fh_M} {y : Nat} (h : mS K M y) : M.2.2 y 14 = some (y + 11) := by rw [h.2.1]; rfl
theorem mi14 {α : Type} {K : fh_K} {M : fh_M} {y j : Nat} {i : Int32} {f : Nat → Option α} (h : mS K M y) (hi : i = nI j) (hj : j < 8) : fi K 13 (M.2.2 y 14) i f = f (y + 11) := by rw [mr14 h]; exact fi_ok (mk11 h) hi hj (by decide)
theorem mk12 {K : fh_K} {M : fh_M} {y : Nat} (h : mS K M y) : K (y + 12) = (13, 8) := h.2.2.2.2.2.2.2.2.2.2.2.2.2.1
theorem mr15 {K : fh_K} {M : fh_M} {y : Nat} (h : mS K M y) : M.2.2 y 15 = some (y + 12) := by rw [h.2.1]; rfl
theorem mi15 {α : Type} {K : fh_K} {M : fh_M} {y j : Nat} {i : Int32} {f : Nat → Option α} (h : mS K M y) (hi : i = nI j) (hj : j < 8) : fi K 13 (M.2.2 y 15) i f = f (y + 12) := by rw [mr15 h]; exact fi_ok (mk12 h) hi hj (by decide)
theorem mk13 {K : fh_K} {M : fh_M} {y : Nat} (h : mS K M y) : K (y + 13) = (13, 24) := h.2.2.2.2.2.2.2.2.2.2.2.2.2.2.1
theorem mr17 {K : fh_K} {M : fh_M} {y : Nat} (h : mS K M y) : M.2.2 y 17 = some (y + 13) := by rw [h.2.1]; rfl
theorem mi17 {α : Type} {K : fh_K} {M : fh_M} {y j : Nat} {i : Int32} {f : Nat → Option α} (h : mS K M y) (hi : i = nI j) (hj : j < 24) : fi K 13 (M.2.2 y 17) i f = f (y + 13) := by rw [mr17 h]; exact fi_ok (mk13 h) hi hj (by decide)
theorem mk14 {K : fh_K} {M : fh_M} {y : Nat} (h : mS K M y) : K (y + 14) = (13, 24) := h.2.2.2.2.2.2.2.2.2.2.2.2.2.2.2.1
theorem mr18 {K : fh_K} {M : fh_M} {y : Nat} (h : mS K M y) : M.2.2 y 18 = some (y + 14) := by rw [h.2.1]; rfl
theorem mi18 {α : Type} {K : fh_K} {M : fh_M} {y j : Nat} {i : Int32} {f : Nat → Option α} (h : mS K M y) (hi : i = nI j) (hj : j < 24) : fi K 13 (M.2.2 y 18) i f = f (y + 14) := by rw [mr18 h]; exact fi_ok (mk14 h) hi hj (by decide)
theorem mk15 {K : fh_K} {M : fh_M} {y : Nat} (h : mS K M y) : K (y + 15) = (13, 24) := h.2.2.2.2.2.2.2.2.2.2.2.2.2.2.2.2.1
theorem mr20 {K : fh_K} {M : fh_M} {y : Nat} (h : mS K M y) : M.2.2 y 20 = some (y + 15) := by rw [h.2.1]; rfl
theorem mi20 {α : Type} {K : fh_K} {M : fh_M} {y j : Nat} {i : Int32} {f : Nat → Option α} (h : mS K M y) (hi : i = nI j) (hj : j < 24) : fi K 13 (M.2.2 y 20) i f = f (y + 15) := by rw [mr20 h]; exact fi_ok (mk15 h) hi hj (by decide)
theorem mk16 {K : fh_K} {M : fh_M} {y : Nat} (h : mS K M y) : K (y + 16) = (13, 24) := h.2.2.2.2.2.2.2.2.2.2.2.2.2.2.2.2.2.1
theorem mr21 {K : fh_K} {M : fh_M} {y : Nat} (h : mS K M y) : M.2.2 y 21 = some (y + 16) := by rw [h.2.1]; rfl
theorem mi21 {α : Type} {K : fh_K} {M : fh_M} {y j : Nat} {i : Int32} {f : Nat → Option α} (h : mS K M y) (hi : i = nI j) (hj : j < 24) : fi K 13 (M.2.2 y 21) i f = f (y + 16) := by rw [mr21 h]; exact fi_ok (mk16 h) hi hj (by decide)
theorem mk17 {K : fh_K} {M : fh_M} {y : Nat} (h : mS K M y) : K (y + 17) = (13, 24) := h.2.2.2.2.2.2.2.2.2.2.2.2.2.2.2.2.2.2.1
theorem mr22 {K : fh_K} {M : fh_M} {y : Nat} (h : mS K M y) : M.2.2 y 22 = some (y + 17) := by rw [h.2.1]; rfl
theorem mi22 {α : Type} {K : fh_K} {M : fh_M} {y j : Nat} {i : Int32} {f : Nat → Option α} (h : mS K M y) (hi : i = nI j) (hj : j < 24) : fi K 13 (M.2.2 y 22) i f = f (y + 17) := by rw [mr22 h]; exact fi_ok (mk17 h) hi hj (by decide)
theorem mk18 {K : fh_K} {M : fh_M} {y : Nat} (h : mS K M y) : K (y + 18) = (13, 24) := h.2.2.2.2.2.2.2.2.2.2.2.2.2.2.2.2.2.2.2.1
theorem mr23 {K : fh_K} {M : fh_M} {y : Nat} (h : mS K M y) : M.2.2 y 23 = some (y + 18) := by rw [h.2.1]; rfl
theorem mi23 {α : Type} {K : fh_K} {M : fh_M} {y j : Nat} {i : Int32} {f : Nat → Option α} (h : mS K M y) (hi : i = nI j) (hj : j < 24) : fi K 13 (M.2.2 y 23) i f = f (y + 18) := by rw [mr23 h]; exact fi_ok (mk18 h) hi hj (by decide)
theorem mk19 {K : fh_K} {M : fh_M} {y : Nat} (h : mS K M y) : K (y + 19) = (13, 24) := h.2.2.2.2.2.2.2.2.2.2.2.2.2.2.2.2.2.2.2.2.1
theorem mr24 {K : fh_K} {M : fh_M} {y : Nat} (h : mS K M y) : M.2.2 y 24 = some (y + 19) := by rw [h.2.1]; rfl
theorem mi24 {α : Type} {K : fh_K} {M : fh_M} {y j : Nat} {i : Int32} {f : Nat → Option α} (h : mS K M y) (hi : i = nI j) (hj : j < 24) : fi K 13 (M.2.2 y 24) i f = f (y + 19) := by rw [mr24 h]; exact fi_ok (mk19 h) hi hj (by decide)
theorem mk20 {K : fh_K} {M : fh_M} {y : Nat} (h : mS K M y) : K (y + 20) = (13, 30) := h.2.2.2.2.2.2.2.2.2.2.2.2.2.2.2.2.2.2.2.2.2.1
theorem mr27 {K : fh_K} {M : fh_M} {y : Nat} (h : mS K M y) : M.2.2 y 27 = some (y + 20) := by rw [h.2.1]; rfl
theorem mi27 {α : Type} {K : fh_K} {M : fh_M} {y j : Nat} {i : Int32} {f : Nat → Option α} (h : mS K M y) (hi : i = nI j) (hj : j < 30) : fi K 13 (M.2.2 y 27) i f = f (y + 20) := by rw [mr27 h]; exact fi_ok (mk20 h) hi hj (by decide)
theorem mk21 {K : fh_K} {M : fh_M} {y : Nat} (h : mS K M y) : K (y + 21) = (13, 30) := h.2.2.2.2.2.2.2.2.2.2.2.2.2.2.2.2.2.2.2.2.2.2.1
theorem mr28 {K : fh_K} {M : fh_M} {y : Nat} (h : mS K M y) : M.2.2 y 28 = some (y + 21) := by rw [h.2.1]; rfl
theorem mi28 {α : Type} {K : fh_K} {M : fh_M} {y j : Nat} {i : Int32} {f : Nat → Option α} (h : mS K M y) (hi : i = nI j) (hj : j < 30) : fi K 13 (M.2.2 y 28) i f = f (y + 21) := by rw [mr28 h]; exact fi_ok (mk21 h) hi hj (by decide)
theorem mk22 {K : fh_K} {M : fh_M} {y : Nat} (h : mS K M y) : K (y + 22) = (13, 30) := h.2.2.2.2.2.2.2.2.2.2.2.2.2.2.2.2.2.2.2.2.2.2.2.1
theorem mr29 {K : fh_K} {M : fh_M} {y : Nat} (h : mS K M y) : M.2.2 y 29 = some (y + 22) := by rw [h.2.1]; rfl
theorem mi29 {α : Type} {K : fh_K} {M : fh_M} {y j : Nat} {i : Int32} {f : Nat → Option α} (h : mS K M y) (hi : i = nI j) (hj : j < 30) : fi K 13 (M.2.2 y 29) i f = f (y + 22) := by rw [mr29 h]; exact fi_ok (mk22 h) hi hj (by decide)
theorem mk23 {K : fh_K} {M : fh_M} {y : Nat} (h : mS K M y) : K (y + 23) = (13, 30) := h.2.2.2.2.2.2.2.2.2.2.2.2.2.2.2.2.2.2.2.2.2.2.2.2.1
theorem mr31 {K : fh_K} {M : fh_M} {y : Nat} (h : mS K M y) : M.2.2 y 31 = some (y + 23) := by rw [h.2.1]; rfl
theorem mi31 {α : Type} {K : fh_K} {M : fh_M} {y j : Nat} {i : Int32} {f : Nat → Option α} (h : mS K M y) (hi : i = nI j) (hj : j < 30) : fi K 13 (M.2.2 y 31) i f = f (y + 23) := by rw [mr31 h]; exact fi_ok (mk23 h) hi hj (by decide)
theorem mk24 {K : fh_K} {M : fh_M} {y : Nat} (h : mS K M y) : K (y + 24) = (13, 30) := h.2.2.2.2.2.2.2.2.2.2.2.2.2.2.2.2.2.2.2.2.2.2.2.2.2.1
theorem mr32 {K : fh_K} {M : fh_M} {y : Nat} (h : mS K M y) : M.2.2 y 32 = some (y + 24) := by rw [h.2.1]; rfl
theorem mi32 {α : Type} {K : fh_K} {M : fh_M} {y j : Nat} {i : Int32} {f : Nat → Option α} (h : mS K M y) (hi : i = nI j) (hj : j < 30) : fi K 13 (M.2.2 y 32) i f = f (y + 24) := by rw [mr32 h]; exact fi_ok (mk24 h) hi hj (by decide)
theorem mk25 {K : fh_K} {M : fh_M} {y : Nat} (h : mS K M y) : K (y + 25) = (13, 30) := h.2.2.2.2.2.2.2.2.2.2.2.2.2.2.2.2.2.2.2.2.2.2.2.2.2.2.1
theorem mr33 {K : fh_K} {M : fh_M} {y : Nat} (h : mS K M y) : M.2.2 y 33 = some (y + 25) := by rw [h.2.1]; rfl
theorem mi33 {α : Type} {K : fh_K} {M : fh_M} {y j : Nat} {i : Int32} {f : Nat → Option α} (h : mS K M y) (hi : i = nI j) (hj : j < 30) : fi K 13 (M.2.2 y 33) i f = f (y + 25) := by rw [mr33 h]; exact fi_ok (mk25 h) hi hj (by decide)
theorem mk26 {K : fh_K} {M : fh_M} {y : Nat} (h : mS K M y) : K (y + 26) = (13, 60) := h.2.2.2.2.2.2.2.2.2.2.2.2.2.2.2.2.2.2.2.2.2.2.2.2.2.2.2.1
theorem mr34 {K : fh_K} {M : fh_M} {y : Nat} (h : mS K M y) : M.2.2 y 34 = some (y + 26) := by rw [h.2.1]; rfl
theorem mi34 {α : Type} {K : fh_K} {M : fh_M} {y j : Nat} {i : Int32} {f : Nat → Option α} (h : mS K M y) (hi : i = nI j) (hj : j < 60) : fi K 13 (M.2.2 y 34) i f = f (y + 26) := by rw [mr34 h]; exact fi_ok (mk26 h) hi hj (by decide)
theorem mk27 {K : fh_K} {M : fh_M} {y : Nat} (h : mS K M y) : K (y + 27) = (13, 4) := h.2.2.2.2.2.2.2.2.2.2.2.2.2.2.2.2.2.2.2.2.2.2.2.2.2.2.2.2.1
theorem mr36 {K : fh_K} {M : fh_M} {y : Nat} (h : mS K M y) : M.2.2 y 36 = some (y + 27) := by rw [h.2.1]; rfl
theorem mi36 {α : Type} {K : fh_K} {M : fh_M} {y j : Nat} {i : Int32} {f : Nat → Option α} (h : mS K M y) (hi : i = nI j) (hj : j < 4) : fi K 13 (M.2.2 y 36) i f = f (y + 27) := by rw [mr36 h]; exact fi_ok (mk27 h) hi hj (by decide)
theorem mk28 {K : fh_K} {M : fh_M} {y : Nat} (h : mS K M y) : K (y + 28) = (13, 4) := h.2.2.2.2.2.2.2.2.2.2.2.2.2.2.2.2.2.2.2.2.2.2.2.2.2.2.2.2.2.1
theorem mr38 {K : fh_K} {M : fh_M} {y : Nat} (h : mS K M y) : M.2.2 y 38 = some (y + 28) := by rw [h.2.1]; rfl
theorem mi38 {α : Type} {K : fh_K} {M : fh_M} {y j : Nat} {i : Int32} {f : Nat → Option α} (h : mS K M y) (hi : i = nI j) (hj : j < 4) : fi K 13 (M.2.2 y 38) i f = f (y + 28) := by rw [mr38 h]; exact fi_ok (mk28 h) hi hj (by decide)
theorem mk29 {K : fh_K} {M : fh_M} {y : Nat} (h : mS K M y) : K (y + 29) = (13, 60) := h.2.2.2.2.2.2.2.2.2.2.2.2.2.2.2.2.2.2.2.2.2.2.2.2.2.2.2.2.2.2.1
theorem mr39 {K : fh_K} {M : fh_M} {y : Nat} (h : mS K M y) : M.2.2 y 39 = some (y + 29) := by rw [h.2.1]; rfl
theorem mi39 {α : Type} {K : fh_K} {M : fh_M} {y j : Nat} {i : Int32} {f : Nat → Option α} (h : mS K M y) (hi : i = nI j) (hj : j < 60) : fi K 13 (M.2.2 y 39) i f = f (y + 29) := by rw [mr39 h]; exact fi_ok (mk29 h) hi hj (by decide)
theorem mk30 {K : fh_K} {M : fh_M} {y : Nat} (h : mS K M y) : K (y + 30) = (13, 4) := h.2.2.2.2.2.2.2.2.2.2.2.2.2.2.2.2.2.2.2.2.2.2.2.2.2.2.2.2.2.2.2
theorem mr42 {K : fh_K} {M : fh_M} {y : Nat} (h : mS K M y) : M.2.2 y 42 = some (y + 30) := by rw [h.2.1]; rfl
theorem mi42 {α : Type} {K : fh_K} {M : fh_M} {y j : Nat} {i : Int32} {f : Nat → Option α} (h : mS K M y) (hi : i = nI j) (hj : j < 4) : fi K 13 (M.2.2 y 42) i f = f (y + 30) := by rw [mr42 h]; exact fi_ok (mk30 h) hi hj (by decide)
theorem mS_si {K : fh_K} {M : fh_M} {y : Nat} (h : mS K M y) (a k : Nat) (v : Int32) : mS K (fh_si M a k v) y := h
