abbrev fh_M : Type := (Nat → Nat → Int32) × (Nat → Nat → Int64) × (Nat → Nat → Option Nat)
abbrev fh_K : Type := Nat → Nat × Nat
abbrev fh_D : Type := (Nat → ClassId) × (Nat → Nat → Nat) × (Nat → ClassId)
def fh_tab : List (List Nat) := [[2, 0], [2, 2], [2, 0, 0, 0], [2, 2, 0], [2, 2, 2, 2, 0, 0, 0], [2, 2, 2], [2, 2], [2, 0, 0, 0, 0, 0, 0, 0, 0], [0, 0, 0, 0, 0], [2, 0], [2, 2, 2, 2, 2, 2, 2, 2, 2, 2, 2, 0, 0, 0, 1], [2, 0, 0, 0, 2, 2, 2, 2, 2, 0, 2, 2, 2, 2, 2, 2, 0, 2, 2, 0, 2, 2, 2, 2, 2, 0, 0, 2, 2, 2, 0, 2, 2, 2, 2, 0, 2, 0, 2, 2, 0, 0, 2]]
def fh_fv (M : fh_M) (a k t : Nat) : Value := if t = 0 then .int (M.1 a k) else if t = 1 then .long (M.2.1 a k) else va_rf (M.2.2 a k)
def fh_fs (c : Nat) (M : fh_M) (a : Nat) : List Value := (fh_tab.getD c []).mapIdx (fun k t => fh_fv M a k t)
def fh_cell (D : fh_D) (K : fh_K) (M : fh_M) (a : Nat) : va_E :=
  if (K a).1 < 13 then .inr ((K a).1 - 1, fh_fs ((K a).1 - 1) M a) else if (K a).1 < 16 then .inl (D.2.2 (K a).1, (K a).2, .inl (M.1 a)) else if (K a).1 = 16 then .inl (D.2.2 16, (K a).2, .inr (.inl (M.2.1 a))) else .inl (D.2.2 (K a).1, (K a).2, .inr (.inr (.inr (.inr (M.2.2 a)))))
def fh_P (D : fh_D) (K : fh_K) (M : fh_M) (H : Heap) : Prop := ∀ a, (K a).1 ≠ 0 → va_at (D.1, D.2.1) vwCl (a, fh_cell D K M a) H
def fh_u {α : Type} (f : Nat → Nat → α) (a k : Nat) (v : α) : Nat → Nat → α := fun x j => if x = a ∧ j = k then v else f x j
def fh_r {α : Type} (f : Nat → Nat → α) (a : Nat) (g : Nat → α) : Nat → Nat → α := fun x j => if x = a then g j else f x j
def fh_si (M : fh_M) (a k : Nat) (v : Int32) : fh_M := (fh_u M.1 a k v, M.2)
def fh_sl (M : fh_M) (a k : Nat) (v : Int64) : fh_M := (M.1, fh_u M.2.1 a k v, M.2.2)
def fh_sr (M : fh_M) (a k : Nat) (v : Option Nat) : fh_M := (M.1, M.2.1, fh_u M.2.2 a k v)
def fh_ri (M : fh_M) (a : Nat) (g : Nat → Int32) : fh_M := (fh_r M.1 a g, M.2)
def fh_clr (M : fh_M) (a : Nat) : fh_M := (fh_r M.1 a (fun _ => 0), fh_r M.2.1 a (fun _ => 0), fh_r M.2.2 a (fun _ => none))
def fh_uk (K : fh_K) (a : Nat) (v : Nat × Nat) : fh_K := fun x => if x = a then v else K x
theorem fh_u_ne {α : Type} {f : Nat → Nat → α} {a k b : Nat} {v : α} (h : b ≠ a) : f b = fh_u f a k v b := by
  funext j; simp [fh_u, h]
theorem fh_r_ne {α : Type} {f : Nat → Nat → α} {a b : Nat} {g : Nat → α} (h : b ≠ a) : f b = fh_r f a g b := by
  funext j; simp [fh_r, h]
theorem fh_cell_congr {D : fh_D} {K : fh_K} {M M' : fh_M} {b : Nat} (h : M.1 b = M'.1 b ∧ M.2.1 b = M'.2.1 b ∧ M.2.2 b = M'.2.2 b) : fh_cell D K M b = fh_cell D K M' b := by
  obtain ⟨h1, h2, h3⟩ := h
  unfold fh_cell
  simp only [fh_fs, fh_fv, h1, h2, h3]
theorem fh_P_write {D : fh_D} {K : fh_K} {M M' : fh_M} {H H1 : Heap} {a : Nat} (hP : fh_P D K M H) (ha : va_at (D.1, D.2.1) vwCl (a, fh_cell D K M' a) H1) (ho : ∀ q : Nat, q ≠ a → H1[q]? = H[q]?) (hM : ∀ b, b ≠ a → M.1 b = M'.1 b ∧ M.2.1 b = M'.2.1 b ∧ M.2.2 b = M'.2.2 b) : fh_P D K M' H1 := by
  intro b hb
  by_cases e : b = a
  · subst e; exact ha
  · rw [← fh_cell_congr (hM b e)]
    exact (hP b hb).kept (ho b e)
theorem fh_cell_o {D : fh_D} {K : fh_K} {M : fh_M} {a ci : Nat} (h : (K a).1 = ci + 1) (hc : ci < 12) : fh_cell D K M a = .inr (ci, fh_fs ci M a) := by
  unfold fh_cell; rw [h, if_pos (by omega)]; rfl
theorem fh_cell_i {D : fh_D} {K : fh_K} {M : fh_M} {a t : Nat} (h : (K a).1 = t) (h1 : 13 ≤ t) (h2 : t < 16) : fh_cell D K M a = .inl (D.2.2 t, (K a).2, .inl (M.1 a)) := by
  unfold fh_cell; rw [h, if_neg (by omega), if_pos h2]
theorem fh_cell_l {D : fh_D} {K : fh_K} {M : fh_M} {a : Nat} (h : (K a).1 = 16) : fh_cell D K M a = .inl (D.2.2 16, (K a).2, .inr (.inl (M.2.1 a))) := by
  unfold fh_cell; rw [h]; rfl
theorem fh_cell_r {D : fh_D} {K : fh_K} {M : fh_M} {a t : Nat} (h : (K a).1 = t) (h1 : 16 < t) : fh_cell D K M a = .inl (D.2.2 t, (K a).2, .inr (.inr (.inr (.inr (M.2.2 a))))) := by
  unfold fh_cell; rw [h, if_neg (by omega), if_neg (by omega), if_neg (by omega)]
theorem fh_one {D : fh_D} {K : fh_K} {M : fh_M} {H : Heap} {a : Nat} {e : va_E} (hP : fh_P D K M H) (h0 : (K a).1 ≠ 0) (he : fh_cell D K M a = e) : va_P (D.1, D.2.1) vwCl [(a, e)] H := by
  intro k q hq
  cases k with
  | zero => cases hq; rw [← he]; exact hP a h0
  | succ k => simp at hq
def fh_tys (D : fh_D) : List (ClassId × FieldType) := [(D.2.2 13, .int), (D.2.2 14, .byte), (D.2.2 15, .boolean), (D.2.2 16, .long), (D.2.2 17, .object RX2), (D.2.2 18, .object RX7), (D.2.2 19, .object RX8)]
def fh_W : List Cond := lw_tbl.filter goodWord
def fh_nest : List (String × Nat × MethodName × String) := [("FileHouse", 42, ⟨"FileHouse$Readers", "<init>", "()V"⟩, "FileHouse"), ("FileHouse", 49, ⟨"FileHouse$Turners", "<init>", "()V"⟩, "FileHouse"), ("FileHouse", 56, ⟨"FileHouse$Roads", "<init>", "()V"⟩, "FileHouse"), ("FileHouse", 63, ⟨"FileHouse$Spans", "<init>", "()V"⟩, "FileHouse"), ("FileHouse", 70, ⟨"FileHouse$Reading", "<init>", "()V"⟩, "FileHouse"), ("FileHouse$Reading", 50, ⟨"FileHouse", "sumOfFirst", "([II)I"⟩, "FileHouse"), ("FileHouse$Reading", 61, ⟨"FileHouse", "holds", "(II)Z"⟩, "FileHouse")]
def fh_Ks (D : fh_D) (U : State) : Prop := va_K (D.1, D.2.1) vwCl (fh_tys D) U ∧ (∀ q ∈ fh_nest, va_Nw (.methodLinkNest q.1 q.2.1 q.2.2.1 q.2.2.2) U) ∧ va_Nw (.castable "[I" "java/lang/Cloneable") U ∧ (va_AO RX2 U ∧ va_AO RX7 U ∧ va_AO RX8 U)
theorem fh_Ks_warm {D : fh_D} {s U : State} (hW : s.WarmedH U.vm) (h : fh_Ks D s) : fh_Ks D U := ⟨va_K.moved hW.alike h.1, fun q hq => va_Nw.warmM hW (h.2.1 q hq), va_Nw.warmC hW h.2.2.1, h.2.2.2.1.moved hW.alike, h.2.2.2.2.1.moved hW.alike, h.2.2.2.2.2.moved hW.alike⟩
theorem fh_Ks_same {D : fh_D} {s U : State} (e : s.vm = U.vm) (h : fh_Ks D s) : fh_Ks D U := ⟨va_K.moved (by rw [← e]; exact Vm.Alike.refl _) h.1, fun q hq => va_Nw.same rfl e (h.2.1 q hq), va_Nw.same rfl e h.2.2.1, h.2.2.2.1.moved (by rw [← e]; exact Vm.Alike.refl _), h.2.2.2.2.1.moved (by rw [← e]; exact Vm.Alike.refl _), h.2.2.2.2.2.moved (by rw [← e]; exact Vm.Alike.refl _)⟩
abbrev fh_X : Type := Program × Launch × Env × State × MethodId × Array Value × List Frame × Method × Code × fh_D × (Nat → Prop) × (State → Prop)
def fh_V (X : fh_X) (R : Room) (nL : Nat) (z : Nat × Nat × Nat) (K : fh_K) (M : fh_M) (pc : Nat) (lv : List (Nat × Value)) (st : List Value) : Prop := match X with
  | (p, l, e, s, m, args, below, meth, c, D, A, Q) => ∀ (H : Heap) (locs : List Loc) (ls : Array Slot), fh_P D K M H → H.size = z.1 → va_S A s.heap H locs → (∀ a, (K a).1 ≠ 0 → A a) → lv_has ls nL lv → W p l e R s m args below meth c H locs z.2.1 z.2.2 Q (F0 m pc ls st)
def fh_C (X : fh_X) (nL : Nat) (cc : ByteArray) (own : String) : Prop := match X with
  | (p, l, e, s, m, args, below, meth, c, D, A, Q) => p.tables.exec = Jvm.exec ∧ c.code = cc ∧ c.maxLocals = nL ∧ s.vm.findClass own = some m.cls ∧ (∀ w ∈ fh_W, w.before args s = true) ∧ fh_Ks D s ∧ meth.locks = false ∧ (∀ q, s.heap.size ≤ q → A q)
theorem bx {α β : Type} {x : Option α} {f : α → Option β} {b : β} (h : x.bind f = some b) : ∃ a, x = some a ∧ f a = some b := Option.bind_eq_some_iff.mp h
theorem itT {α : Type} {c : Prop} {_ : Decidable c} {a b r : α} (hc : c) (h : (if c then a else b) = r) : a = r := by rw [if_pos hc] at h; exact h
theorem itF {α : Type} {c : Prop} {_ : Decidable c} {a b r : α} (hc : ¬ c) (h : (if c then a else b) = r) : b = r := by rw [if_neg hc] at h; exact h
/-- an object of class ci -/
def fo {α : Type} (K : fh_K) (ci : Nat) (r : Option Nat) (f : Nat → Option α) : Option α := match r with
  | none => none
  | some a => if (K a).1 = ci + 1 then f a else none
theorem fo_s {α : Type} {K : fh_K} {ci : Nat} {r : Option Nat} {f : Nat → Option α} {x : α} (h : fo K ci r f = some x) : ∃ a, r = some a ∧ (K a).1 = ci + 1 ∧ f a = some x := by
  cases r with
  | none => cases h
  | some a =>
    by_cases hk : (K a).1 = ci + 1
    · exact ⟨a, rfl, hk, by simpa [fo, hk] using h⟩
    · simp [fo, hk] at h
/-- an array of kind t -/
def fa {α : Type} (K : fh_K) (t : Nat) (r : Option Nat) (f : Nat → Option α) : Option α := match r with
  | none => none
  | some a => if (K a).1 = t then f a else none
theorem fa_s {α : Type} {K : fh_K} {t : Nat} {r : Option Nat} {f : Nat → Option α} {x : α} (h : fa K t r f = some x) : ∃ a, r = some a ∧ (K a).1 = t ∧ f a = some x := by
  cases r with
  | none => cases h
  | some a =>
    by_cases hk : (K a).1 = t
    · exact ⟨a, rfl, hk, by simpa [fa, hk] using h⟩
    · simp [fa, hk] at h
/-- an array of kind t, and a place in it -/
def fi {α : Type} (K : fh_K) (t : Nat) (r : Option Nat) (i : Int32) (f : Nat → Option α) : Option α := match r with
  | none => none
  | some a => if (K a).1 = t ∧ ¬ (i < 0 ∨ (K a).2 ≤ i.toNatClampNeg) then f a else none
theorem fi_s {α : Type} {K : fh_K} {t : Nat} {r : Option Nat} {i : Int32} {f : Nat → Option α} {x : α} (h : fi K t r i f = some x) : ∃ a, r = some a ∧ (K a).1 = t ∧ vp_in i (K a).2 ∧ f a = some x := by
  cases r with
  | none => cases h
  | some a =>
    by_cases hk : (K a).1 = t ∧ ¬ (i < 0 ∨ (K a).2 ≤ i.toNatClampNeg)
    · exact ⟨a, rfl, hk.1, hk.2, by simpa [fi, hk] using h⟩
    · simp only [fi] at h
      rw [if_neg hk] at h
      cases h
theorem va_rf_cat (r : Option Nat) : (va_rf r).category = 1 := by cases r <;> rfl
theorem fv_iconst {X : fh_X} {R : Room} {nL : Nat} {z : Nat × Nat × Nat} {K : fh_K} {M : fh_M} {pc : Nat} {lv : List (Nat × Value)} {st : List Value} {cc : ByteArray} {own : String} (C : fh_C X nL cc own) {n : Int} {v : Int32} (hv : Int32.ofInt n = v) (hd : decode cc pc = .ok (.iconst n, 1)) (k : fh_V X R nL z K M (pc + 1) lv (.int v :: st)) : fh_V X R nL z K M pc lv st := by
  obtain ⟨p, l, e, s, m, args, below, meth, c, D, A, Q⟩ := X
  exact fun H locs ls hP hz hS hA hl => lv_iconst C.1 C.2.1 hd hv (k H locs ls hP hz hS hA hl)
theorem fv_bipush {X : fh_X} {R : Room} {nL : Nat} {z : Nat × Nat × Nat} {K : fh_K} {M : fh_M} {pc : Nat} {lv : List (Nat × Value)} {st : List Value} {cc : ByteArray} {own : String} (C : fh_C X nL cc own) {n : Int} {v : Int32} (hv : (Int8.ofInt n).toInt32 = v) (hd : decode cc pc = .ok (.bipush n, 2)) (k : fh_V X R nL z K M (pc + 2) lv (.int v :: st)) : fh_V X R nL z K M pc lv st := by
  obtain ⟨p, l, e, s, m, args, below, meth, c, D, A, Q⟩ := X
  exact fun H locs ls hP hz hS hA hl => lv_bipush C.1 C.2.1 hd hv (k H locs ls hP hz hS hA hl)
theorem fv_sipush {X : fh_X} {R : Room} {nL : Nat} {z : Nat × Nat × Nat} {K : fh_K} {M : fh_M} {pc : Nat} {lv : List (Nat × Value)} {st : List Value} {cc : ByteArray} {own : String} (C : fh_C X nL cc own) {n : Int} {v : Int32} (hv : (Int16.ofInt n).toInt32 = v) (hd : decode cc pc = .ok (.sipush n, 3)) (k : fh_V X R nL z K M (pc + 3) lv (.int v :: st)) : fh_V X R nL z K M pc lv st := by
  obtain ⟨p, l, e, s, m, args, below, meth, c, D, A, Q⟩ := X
  exact fun H locs ls hP hz hS hA hl => lv_sipush C.1 C.2.1 hd hv (k H locs ls hP hz hS hA hl)
theorem fv_lconst {X : fh_X} {R : Room} {nL : Nat} {z : Nat × Nat × Nat} {K : fh_K} {M : fh_M} {pc : Nat} {lv : List (Nat × Value)} {st : List Value} {cc : ByteArray} {own : String} (C : fh_C X nL cc own) {n : Fin 2} {v : Int64} (hv : Int64.ofNat (n : Nat) = v) (hd : decode cc pc = .ok (.lconst n, 1)) (k : fh_V X R nL z K M (pc + 1) lv (.long v :: st)) : fh_V X R nL z K M pc lv st := by
  obtain ⟨p, l, e, s, m, args, below, meth, c, D, A, Q⟩ := X
  exact fun H locs ls hP hz hS hA hl => lv_lconst C.1 C.2.1 hd hv (k H locs ls hP hz hS hA hl)
theorem fv_null {X : fh_X} {R : Room} {nL : Nat} {z : Nat × Nat × Nat} {K : fh_K} {M : fh_M} {pc : Nat} {lv : List (Nat × Value)} {st : List Value} {cc : ByteArray} {own : String} (C : fh_C X nL cc own)  (hd : decode cc pc = .ok (.aconst_null, 1)) (k : fh_V X R nL z K M (pc + 1) lv (va_rf none :: st)) : fh_V X R nL z K M pc lv st := by
  obtain ⟨p, l, e, s, m, args, below, meth, c, D, A, Q⟩ := X
  exact fun H locs ls hP hz hS hA hl => lv_null C.1 C.2.1 hd (k H locs ls hP hz hS hA hl)
theorem fv_ldc {X : fh_X} {R : Room} {nL : Nat} {z : Nat × Nat × Nat} {K : fh_K} {M : fh_M} {pc : Nat} {lv : List (Nat × Value)} {st : List Value} {cc : ByteArray} {own : String} (C : fh_C X nL cc own) {index : Nat} {v : Int32} (hw : Cond.constant own index v ∈ fh_W) (hd : decode cc pc = .ok (.ldc index, 2)) (k : fh_V X R nL z K M (pc + 2) lv (.int v :: st)) : fh_V X R nL z K M pc lv st := by
  obtain ⟨p, l, e, s, m, args, below, meth, c, D, A, Q⟩ := X
  exact fun H locs ls hP hz hS hA hl => lv_ldc C.1 C.2.1 C.2.2.2.1 (C.2.2.2.2.1 _ hw) hd (k H locs ls hP hz hS hA hl)
theorem fv_ldc2 {X : fh_X} {R : Room} {nL : Nat} {z : Nat × Nat × Nat} {K : fh_K} {M : fh_M} {pc : Nat} {lv : List (Nat × Value)} {st : List Value} {cc : ByteArray} {own : String} (C : fh_C X nL cc own) {index : Nat} {v : Int64} (hw : Cond.constantLong own index v ∈ fh_W) (hd : decode cc pc = .ok (.ldc2_w index, 3)) (k : fh_V X R nL z K M (pc + 3) lv (.long v :: st)) : fh_V X R nL z K M pc lv st := by
  obtain ⟨p, l, e, s, m, args, below, meth, c, D, A, Q⟩ := X
  exact fun H locs ls hP hz hS hA hl => lv_ldc2 C.1 C.2.1 C.2.2.2.1 (C.2.2.2.2.1 _ hw) hd (k H locs ls hP hz hS hA hl)
theorem fv_iload_n {X : fh_X} {R : Room} {nL : Nat} {z : Nat × Nat × Nat} {K : fh_K} {M : fh_M} {pc : Nat} {lv : List (Nat × Value)} {st : List Value} {cc : ByteArray} {own : String} (C : fh_C X nL cc own) {kf : Fin 4} {i : Nat} {x : Int32} (j : Nat) (hi : (kf : Nat) = i) (hj : lv[j]? = some (i, .int x)) (hd : decode cc pc = .ok (.iload_n kf, 1)) (k : fh_V X R nL z K M (pc + 1) lv (.int x :: st)) : fh_V X R nL z K M pc lv st := by
  obtain ⟨p, l, e, s, m, args, below, meth, c, D, A, Q⟩ := X
  exact fun H locs ls hP hz hS hA hl => lv_iload_n C.1 C.2.1 hd hi (lv_at hl j hj) (k H locs ls hP hz hS hA hl)
theorem fv_iload {X : fh_X} {R : Room} {nL : Nat} {z : Nat × Nat × Nat} {K : fh_K} {M : fh_M} {pc : Nat} {lv : List (Nat × Value)} {st : List Value} {cc : ByteArray} {own : String} (C : fh_C X nL cc own) {i : Nat} {x : Int32} (j : Nat) (hj : lv[j]? = some (i, .int x)) (hd : decode cc pc = .ok (.iload i, 2)) (k : fh_V X R nL z K M (pc + 2) lv (.int x :: st)) : fh_V X R nL z K M pc lv st := by
  obtain ⟨p, l, e, s, m, args, below, meth, c, D, A, Q⟩ := X
  exact fun H locs ls hP hz hS hA hl => lv_iload C.1 C.2.1 hd (lv_at hl j hj) (k H locs ls hP hz hS hA hl)
theorem fv_lload_n {X : fh_X} {R : Room} {nL : Nat} {z : Nat × Nat × Nat} {K : fh_K} {M : fh_M} {pc : Nat} {lv : List (Nat × Value)} {st : List Value} {cc : ByteArray} {own : String} (C : fh_C X nL cc own) {kf : Fin 4} {i : Nat} {x : Int64} (j : Nat) (hi : (kf : Nat) = i) (hj : lv[j]? = some (i, .long x)) (hd : decode cc pc = .ok (.lload_n kf, 1)) (k : fh_V X R nL z K M (pc + 1) lv (.long x :: st)) : fh_V X R nL z K M pc lv st := by
  obtain ⟨p, l, e, s, m, args, below, meth, c, D, A, Q⟩ := X
  exact fun H locs ls hP hz hS hA hl => lv_lload_n C.1 C.2.1 hd hi (lv_at hl j hj) (k H locs ls hP hz hS hA hl)
theorem fv_lload {X : fh_X} {R : Room} {nL : Nat} {z : Nat × Nat × Nat} {K : fh_K} {M : fh_M} {pc : Nat} {lv : List (Nat × Value)} {st : List Value} {cc : ByteArray} {own : String} (C : fh_C X nL cc own) {i : Nat} {x : Int64} (j : Nat) (hj : lv[j]? = some (i, .long x)) (hd : decode cc pc = .ok (.lload i, 2)) (k : fh_V X R nL z K M (pc + 2) lv (.long x :: st)) : fh_V X R nL z K M pc lv st := by
  obtain ⟨p, l, e, s, m, args, below, meth, c, D, A, Q⟩ := X
  exact fun H locs ls hP hz hS hA hl => lv_lload C.1 C.2.1 hd (lv_at hl j hj) (k H locs ls hP hz hS hA hl)
theorem fv_aload_n {X : fh_X} {R : Room} {nL : Nat} {z : Nat × Nat × Nat} {K : fh_K} {M : fh_M} {pc : Nat} {lv : List (Nat × Value)} {st : List Value} {cc : ByteArray} {own : String} (C : fh_C X nL cc own) {kf : Fin 4} {i : Nat} {x : Option Nat} (j : Nat) (hi : (kf : Nat) = i) (hj : lv[j]? = some (i, va_rf x)) (hd : decode cc pc = .ok (.aload_n kf, 1)) (k : fh_V X R nL z K M (pc + 1) lv (va_rf x :: st)) : fh_V X R nL z K M pc lv st := by
  obtain ⟨p, l, e, s, m, args, below, meth, c, D, A, Q⟩ := X
  cases x with
  | none => exact fun H locs ls hP hz hS hA hl => lv_aload_nN C.1 C.2.1 hd hi (lv_at hl j hj) (k H locs ls hP hz hS hA hl)
  | some x => exact fun H locs ls hP hz hS hA hl => lv_aload_n C.1 C.2.1 hd hi (lv_at hl j hj) (k H locs ls hP hz hS hA hl)
theorem fv_aload {X : fh_X} {R : Room} {nL : Nat} {z : Nat × Nat × Nat} {K : fh_K} {M : fh_M} {pc : Nat} {lv : List (Nat × Value)} {st : List Value} {cc : ByteArray} {own : String} (C : fh_C X nL cc own) {i : Nat} {x : Option Nat} (j : Nat) (hj : lv[j]? = some (i, va_rf x)) (hd : decode cc pc = .ok (.aload i, 2)) (k : fh_V X R nL z K M (pc + 2) lv (va_rf x :: st)) : fh_V X R nL z K M pc lv st := by
  obtain ⟨p, l, e, s, m, args, below, meth, c, D, A, Q⟩ := X
  cases x with
  | none => exact fun H locs ls hP hz hS hA hl => lv_aloadN C.1 C.2.1 hd (lv_at hl j hj) (k H locs ls hP hz hS hA hl)
  | some x => exact fun H locs ls hP hz hS hA hl => lv_aload C.1 C.2.1 hd (lv_at hl j hj) (k H locs ls hP hz hS hA hl)
theorem fv_istore_n {X : fh_X} {R : Room} {nL : Nat} {z : Nat × Nat × Nat} {K : fh_K} {M : fh_M} {pc : Nat} {lv : List (Nat × Value)} {st : List Value} {cc : ByteArray} {own : String} (C : fh_C X nL cc own) {kf : Fin 4} {i : Nat} {x : Int32} {lv' : List (Nat × Value)} (hi : (kf : Nat) = i) (hn : i < nL) (hl0 : (i, Value.int x) :: lv.filter (fun q => !(q.1 == i) && !(q.1 + 1 == i && q.2.category == 2)) = lv') (hd : decode cc pc = .ok (.istore_n kf, 1)) (k : fh_V X R nL z K M (pc + 1) lv' st) : fh_V X R nL z K M pc lv (.int x :: st) := by
  obtain ⟨p, l, e, s, m, args, below, meth, c, D, A, Q⟩ := X
  exact fun H locs ls hP hz hS hA hl => lv_istore_n C.1 C.2.1 hd hi hl hn hl0 (fun ls hl => (k H locs ls hP hz hS hA hl))
theorem fv_istore {X : fh_X} {R : Room} {nL : Nat} {z : Nat × Nat × Nat} {K : fh_K} {M : fh_M} {pc : Nat} {lv : List (Nat × Value)} {st : List Value} {cc : ByteArray} {own : String} (C : fh_C X nL cc own) {i : Nat} {x : Int32} {lv' : List (Nat × Value)} (hn : i < nL) (hl0 : (i, Value.int x) :: lv.filter (fun q => !(q.1 == i) && !(q.1 + 1 == i && q.2.category == 2)) = lv') (hd : decode cc pc = .ok (.istore i, 2)) (k : fh_V X R nL z K M (pc + 2) lv' st) : fh_V X R nL z K M pc lv (.int x :: st) := by
  obtain ⟨p, l, e, s, m, args, below, meth, c, D, A, Q⟩ := X
  exact fun H locs ls hP hz hS hA hl => lv_istore C.1 C.2.1 hd hl hn hl0 (fun ls hl => (k H locs ls hP hz hS hA hl))
theorem fv_lstore_n {X : fh_X} {R : Room} {nL : Nat} {z : Nat × Nat × Nat} {K : fh_K} {M : fh_M} {pc : Nat} {lv : List (Nat × Value)} {st : List Value} {cc : ByteArray} {own : String} (C : fh_C X nL cc own) {kf : Fin 4} {i : Nat} {x : Int64} {lv' : List (Nat × Value)} (hi : (kf : Nat) = i) (hn : i + 1 < nL) (hl0 : (i, Value.long x) :: lv.filter (fun q => !(q.1 == i) && (!(q.1 == i + 1) && !(q.1 + 1 == i && q.2.category == 2))) = lv') (hd : decode cc pc = .ok (.lstore_n kf, 1)) (k : fh_V X R nL z K M (pc + 1) lv' st) : fh_V X R nL z K M pc lv (.long x :: st) := by
  obtain ⟨p, l, e, s, m, args, below, meth, c, D, A, Q⟩ := X
  exact fun H locs ls hP hz hS hA hl => lv_lstore_n C.1 C.2.1 hd hi hl hn hl0 (fun ls hl => (k H locs ls hP hz hS hA hl))
theorem fv_lstore {X : fh_X} {R : Room} {nL : Nat} {z : Nat × Nat × Nat} {K : fh_K} {M : fh_M} {pc : Nat} {lv : List (Nat × Value)} {st : List Value} {cc : ByteArray} {own : String} (C : fh_C X nL cc own) {i : Nat} {x : Int64} {lv' : List (Nat × Value)} (hn : i + 1 < nL) (hl0 : (i, Value.long x) :: lv.filter (fun q => !(q.1 == i) && (!(q.1 == i + 1) && !(q.1 + 1 == i && q.2.category == 2))) = lv') (hd : decode cc pc = .ok (.lstore i, 2)) (k : fh_V X R nL z K M (pc + 2) lv' st) : fh_V X R nL z K M pc lv (.long x :: st) := by
  obtain ⟨p, l, e, s, m, args, below, meth, c, D, A, Q⟩ := X
  exact fun H locs ls hP hz hS hA hl => lv_lstore C.1 C.2.1 hd hl hn hl0 (fun ls hl => (k H locs ls hP hz hS hA hl))
theorem fv_astore_n {X : fh_X} {R : Room} {nL : Nat} {z : Nat × Nat × Nat} {K : fh_K} {M : fh_M} {pc : Nat} {lv : List (Nat × Value)} {st : List Value} {cc : ByteArray} {own : String} (C : fh_C X nL cc own) {kf : Fin 4} {i : Nat} {x : Option Nat} {lv' : List (Nat × Value)} (hi : (kf : Nat) = i) (hn : i < nL) (hl0 : (i, va_rf x) :: lv.filter (fun q => !(q.1 == i) && !(q.1 + 1 == i && q.2.category == 2)) = lv') (hd : decode cc pc = .ok (.astore_n kf, 1)) (k : fh_V X R nL z K M (pc + 1) lv' st) : fh_V X R nL z K M pc lv (va_rf x :: st) := by
  obtain ⟨p, l, e, s, m, args, below, meth, c, D, A, Q⟩ := X
  cases x with
  | none => exact fun H locs ls hP hz hS hA hl => lv_astore_nN C.1 C.2.1 hd hi hl hn hl0 (fun ls hl => (k H locs ls hP hz hS hA hl))
  | some x => exact fun H locs ls hP hz hS hA hl => lv_astore_n C.1 C.2.1 hd hi hl hn hl0 (fun ls hl => (k H locs ls hP hz hS hA hl))
theorem fv_astore {X : fh_X} {R : Room} {nL : Nat} {z : Nat × Nat × Nat} {K : fh_K} {M : fh_M} {pc : Nat} {lv : List (Nat × Value)} {st : List Value} {cc : ByteArray} {own : String} (C : fh_C X nL cc own) {i : Nat} {x : Option Nat} {lv' : List (Nat × Value)} (hn : i < nL) (hl0 : (i, va_rf x) :: lv.filter (fun q => !(q.1 == i) && !(q.1 + 1 == i && q.2.category == 2)) = lv') (hd : decode cc pc = .ok (.astore i, 2)) (k : fh_V X R nL z K M (pc + 2) lv' st) : fh_V X R nL z K M pc lv (va_rf x :: st) := by
  obtain ⟨p, l, e, s, m, args, below, meth, c, D, A, Q⟩ := X
  cases x with
  | none => exact fun H locs ls hP hz hS hA hl => lv_astoreN C.1 C.2.1 hd hl hn hl0 (fun ls hl => (k H locs ls hP hz hS hA hl))
  | some x => exact fun H locs ls hP hz hS hA hl => lv_astore C.1 C.2.1 hd hl hn hl0 (fun ls hl => (k H locs ls hP hz hS hA hl))
theorem fv_iinc {X : fh_X} {R : Room} {nL : Nat} {z : Nat × Nat × Nat} {K : fh_K} {M : fh_M} {pc : Nat} {lv : List (Nat × Value)} {st : List Value} {cc : ByteArray} {own : String} (C : fh_C X nL cc own) {i : Nat} {n : Int} {x v : Int32} {lv' : List (Nat × Value)} (j : Nat) (hj : lv[j]? = some (i, .int x)) (hv : x + Int32.ofInt n = v) (hn : i < nL) (hl0 : (i, Value.int v) :: lv.filter (fun q => !(q.1 == i) && !(q.1 + 1 == i && q.2.category == 2)) = lv') (hd : decode cc pc = .ok (.iinc i n, 3)) (k : fh_V X R nL z K M (pc + 3) lv' st) : fh_V X R nL z K M pc lv st := by
  obtain ⟨p, l, e, s, m, args, below, meth, c, D, A, Q⟩ := X
  exact fun H locs ls hP hz hS hA hl => lv_iinc C.1 C.2.1 hd hl hj hv hn hl0 (fun ls hl => (k H locs ls hP hz hS hA hl))
theorem fv_iadd {X : fh_X} {R : Room} {nL : Nat} {z : Nat × Nat × Nat} {K : fh_K} {M : fh_M} {pc : Nat} {lv : List (Nat × Value)} {st : List Value} {cc : ByteArray} {own : String} (C : fh_C X nL cc own) {x y : Int32} (hd : decode cc pc = .ok (.iadd, 1)) (k : fh_V X R nL z K M (pc + 1) lv (.int (x + y) :: st)) : fh_V X R nL z K M pc lv (.int y :: .int x :: st) := by
  obtain ⟨p, l, e, s, m, args, below, meth, c, D, A, Q⟩ := X
  exact fun H locs ls hP hz hS hA hl => lv_iadd C.1 C.2.1 hd (k H locs ls hP hz hS hA hl)
theorem fv_isub {X : fh_X} {R : Room} {nL : Nat} {z : Nat × Nat × Nat} {K : fh_K} {M : fh_M} {pc : Nat} {lv : List (Nat × Value)} {st : List Value} {cc : ByteArray} {own : String} (C : fh_C X nL cc own) {x y : Int32} (hd : decode cc pc = .ok (.isub, 1)) (k : fh_V X R nL z K M (pc + 1) lv (.int (x - y) :: st)) : fh_V X R nL z K M pc lv (.int y :: .int x :: st) := by
  obtain ⟨p, l, e, s, m, args, below, meth, c, D, A, Q⟩ := X
  exact fun H locs ls hP hz hS hA hl => lv_isub C.1 C.2.1 hd (k H locs ls hP hz hS hA hl)
theorem fv_imul {X : fh_X} {R : Room} {nL : Nat} {z : Nat × Nat × Nat} {K : fh_K} {M : fh_M} {pc : Nat} {lv : List (Nat × Value)} {st : List Value} {cc : ByteArray} {own : String} (C : fh_C X nL cc own) {x y : Int32} (hd : decode cc pc = .ok (.imul, 1)) (k : fh_V X R nL z K M (pc + 1) lv (.int (x * y) :: st)) : fh_V X R nL z K M pc lv (.int y :: .int x :: st) := by
  obtain ⟨p, l, e, s, m, args, below, meth, c, D, A, Q⟩ := X
  exact fun H locs ls hP hz hS hA hl => lv_imul C.1 C.2.1 hd (k H locs ls hP hz hS hA hl)
theorem fv_iand {X : fh_X} {R : Room} {nL : Nat} {z : Nat × Nat × Nat} {K : fh_K} {M : fh_M} {pc : Nat} {lv : List (Nat × Value)} {st : List Value} {cc : ByteArray} {own : String} (C : fh_C X nL cc own) {x y : Int32} (hd : decode cc pc = .ok (.iand, 1)) (k : fh_V X R nL z K M (pc + 1) lv (.int (x &&& y) :: st)) : fh_V X R nL z K M pc lv (.int y :: .int x :: st) := by
  obtain ⟨p, l, e, s, m, args, below, meth, c, D, A, Q⟩ := X
  exact fun H locs ls hP hz hS hA hl => lv_iand C.1 C.2.1 hd (k H locs ls hP hz hS hA hl)
theorem fv_ior {X : fh_X} {R : Room} {nL : Nat} {z : Nat × Nat × Nat} {K : fh_K} {M : fh_M} {pc : Nat} {lv : List (Nat × Value)} {st : List Value} {cc : ByteArray} {own : String} (C : fh_C X nL cc own) {x y : Int32} (hd : decode cc pc = .ok (.ior, 1)) (k : fh_V X R nL z K M (pc + 1) lv (.int (x ||| y) :: st)) : fh_V X R nL z K M pc lv (.int y :: .int x :: st) := by
  obtain ⟨p, l, e, s, m, args, below, meth, c, D, A, Q⟩ := X
  exact fun H locs ls hP hz hS hA hl => lv_ior C.1 C.2.1 hd (k H locs ls hP hz hS hA hl)
theorem fv_ixor {X : fh_X} {R : Room} {nL : Nat} {z : Nat × Nat × Nat} {K : fh_K} {M : fh_M} {pc : Nat} {lv : List (Nat × Value)} {st : List Value} {cc : ByteArray} {own : String} (C : fh_C X nL cc own) {x y : Int32} (hd : decode cc pc = .ok (.ixor, 1)) (k : fh_V X R nL z K M (pc + 1) lv (.int (x ^^^ y) :: st)) : fh_V X R nL z K M pc lv (.int y :: .int x :: st) := by
  obtain ⟨p, l, e, s, m, args, below, meth, c, D, A, Q⟩ := X
  exact fun H locs ls hP hz hS hA hl => lv_ixor C.1 C.2.1 hd (k H locs ls hP hz hS hA hl)
theorem fv_ishl {X : fh_X} {R : Room} {nL : Nat} {z : Nat × Nat × Nat} {K : fh_K} {M : fh_M} {pc : Nat} {lv : List (Nat × Value)} {st : List Value} {cc : ByteArray} {own : String} (C : fh_C X nL cc own) {x y : Int32} (hd : decode cc pc = .ok (.ishl, 1)) (k : fh_V X R nL z K M (pc + 1) lv (.int (x <<< (y &&& 31)) :: st)) : fh_V X R nL z K M pc lv (.int y :: .int x :: st) := by
  obtain ⟨p, l, e, s, m, args, below, meth, c, D, A, Q⟩ := X
  exact fun H locs ls hP hz hS hA hl => lv_ishl C.1 C.2.1 hd (k H locs ls hP hz hS hA hl)
theorem fv_ishr {X : fh_X} {R : Room} {nL : Nat} {z : Nat × Nat × Nat} {K : fh_K} {M : fh_M} {pc : Nat} {lv : List (Nat × Value)} {st : List Value} {cc : ByteArray} {own : String} (C : fh_C X nL cc own) {x y : Int32} (hd : decode cc pc = .ok (.ishr, 1)) (k : fh_V X R nL z K M (pc + 1) lv (.int (x >>> (y &&& 31)) :: st)) : fh_V X R nL z K M pc lv (.int y :: .int x :: st) := by
  obtain ⟨p, l, e, s, m, args, below, meth, c, D, A, Q⟩ := X
  exact fun H locs ls hP hz hS hA hl => lv_ishr C.1 C.2.1 hd (k H locs ls hP hz hS hA hl)
theorem fv_irem {X : fh_X} {R : Room} {nL : Nat} {z : Nat × Nat × Nat} {K : fh_K} {M : fh_M} {pc : Nat} {lv : List (Nat × Value)} {st : List Value} {cc : ByteArray} {own : String} (C : fh_C X nL cc own) {x y : Int32} (hne : ¬ y = 0) (hd : decode cc pc = .ok (.irem, 1)) (k : fh_V X R nL z K M (pc + 1) lv (.int (x - x / y * y) :: st)) : fh_V X R nL z K M pc lv (.int y :: .int x :: st) := by
  obtain ⟨p, l, e, s, m, args, below, meth, c, D, A, Q⟩ := X
  exact fun H locs ls hP hz hS hA hl => lv_irem C.1 C.2.1 hd hne (k H locs ls hP hz hS hA hl)
theorem fv_ladd {X : fh_X} {R : Room} {nL : Nat} {z : Nat × Nat × Nat} {K : fh_K} {M : fh_M} {pc : Nat} {lv : List (Nat × Value)} {st : List Value} {cc : ByteArray} {own : String} (C : fh_C X nL cc own) {x y : Int64} (hd : decode cc pc = .ok (.ladd, 1)) (k : fh_V X R nL z K M (pc + 1) lv (.long (x + y) :: st)) : fh_V X R nL z K M pc lv (.long y :: .long x :: st) := by
  obtain ⟨p, l, e, s, m, args, below, meth, c, D, A, Q⟩ := X
  exact fun H locs ls hP hz hS hA hl => lv_ladd C.1 C.2.1 hd (k H locs ls hP hz hS hA hl)
theorem fv_land {X : fh_X} {R : Room} {nL : Nat} {z : Nat × Nat × Nat} {K : fh_K} {M : fh_M} {pc : Nat} {lv : List (Nat × Value)} {st : List Value} {cc : ByteArray} {own : String} (C : fh_C X nL cc own) {x y : Int64} (hd : decode cc pc = .ok (.land, 1)) (k : fh_V X R nL z K M (pc + 1) lv (.long (x &&& y) :: st)) : fh_V X R nL z K M pc lv (.long y :: .long x :: st) := by
  obtain ⟨p, l, e, s, m, args, below, meth, c, D, A, Q⟩ := X
  exact fun H locs ls hP hz hS hA hl => lv_land C.1 C.2.1 hd (k H locs ls hP hz hS hA hl)
theorem fv_lor {X : fh_X} {R : Room} {nL : Nat} {z : Nat × Nat × Nat} {K : fh_K} {M : fh_M} {pc : Nat} {lv : List (Nat × Value)} {st : List Value} {cc : ByteArray} {own : String} (C : fh_C X nL cc own) {x y : Int64} (hd : decode cc pc = .ok (.lor, 1)) (k : fh_V X R nL z K M (pc + 1) lv (.long (x ||| y) :: st)) : fh_V X R nL z K M pc lv (.long y :: .long x :: st) := by
  obtain ⟨p, l, e, s, m, args, below, meth, c, D, A, Q⟩ := X
  exact fun H locs ls hP hz hS hA hl => lv_lor C.1 C.2.1 hd (k H locs ls hP hz hS hA hl)
theorem fv_lshl {X : fh_X} {R : Room} {nL : Nat} {z : Nat × Nat × Nat} {K : fh_K} {M : fh_M} {pc : Nat} {lv : List (Nat × Value)} {st : List Value} {cc : ByteArray} {own : String} (C : fh_C X nL cc own) {x : Int64} {y : Int32} (hd : decode cc pc = .ok (.lshl, 1)) (k : fh_V X R nL z K M (pc + 1) lv (.long (x <<< (y.toInt64 &&& 63)) :: st)) : fh_V X R nL z K M pc lv (.int y :: .long x :: st) := by
  obtain ⟨p, l, e, s, m, args, below, meth, c, D, A, Q⟩ := X
  exact fun H locs ls hP hz hS hA hl => lv_lshl C.1 C.2.1 hd rfl (k H locs ls hP hz hS hA hl)
theorem fv_lshr {X : fh_X} {R : Room} {nL : Nat} {z : Nat × Nat × Nat} {K : fh_K} {M : fh_M} {pc : Nat} {lv : List (Nat × Value)} {st : List Value} {cc : ByteArray} {own : String} (C : fh_C X nL cc own) {x : Int64} {y : Int32} (hd : decode cc pc = .ok (.lshr, 1)) (k : fh_V X R nL z K M (pc + 1) lv (.long (x >>> (y.toInt64 &&& 63)) :: st)) : fh_V X R nL z K M pc lv (.int y :: .long x :: st) := by
  obtain ⟨p, l, e, s, m, args, below, meth, c, D, A, Q⟩ := X
  exact fun H locs ls hP hz hS hA hl => lv_lshr C.1 C.2.1 hd rfl (k H locs ls hP hz hS hA hl)
theorem fv_lcmp {X : fh_X} {R : Room} {nL : Nat} {z : Nat × Nat × Nat} {K : fh_K} {M : fh_M} {pc : Nat} {lv : List (Nat × Value)} {st : List Value} {cc : ByteArray} {own : String} (C : fh_C X nL cc own) {x y : Int64} (hd : decode cc pc = .ok (.lcmp, 1)) (k : fh_V X R nL z K M (pc + 1) lv (.int (lg_cmp x y) :: st)) : fh_V X R nL z K M pc lv (.long y :: .long x :: st) := by
  obtain ⟨p, l, e, s, m, args, below, meth, c, D, A, Q⟩ := X
  exact fun H locs ls hP hz hS hA hl => W.lcmp C.1 C.2.1 hd (k H locs ls hP hz hS hA hl)
theorem fv_i2l {X : fh_X} {R : Room} {nL : Nat} {z : Nat × Nat × Nat} {K : fh_K} {M : fh_M} {pc : Nat} {lv : List (Nat × Value)} {st : List Value} {cc : ByteArray} {own : String} (C : fh_C X nL cc own) {x : Int32} (hd : decode cc pc = .ok (.i2l, 1)) (k : fh_V X R nL z K M (pc + 1) lv (.long x.toInt64 :: st)) : fh_V X R nL z K M pc lv (.int x :: st) := by
  obtain ⟨p, l, e, s, m, args, below, meth, c, D, A, Q⟩ := X
  exact fun H locs ls hP hz hS hA hl => lv_i2l C.1 C.2.1 hd rfl (k H locs ls hP hz hS hA hl)
theorem fv_l2i {X : fh_X} {R : Room} {nL : Nat} {z : Nat × Nat × Nat} {K : fh_K} {M : fh_M} {pc : Nat} {lv : List (Nat × Value)} {st : List Value} {cc : ByteArray} {own : String} (C : fh_C X nL cc own) {x : Int64} (hd : decode cc pc = .ok (.l2i, 1)) (k : fh_V X R nL z K M (pc + 1) lv (.int x.toInt32 :: st)) : fh_V X R nL z K M pc lv (.long x :: st) := by
  obtain ⟨p, l, e, s, m, args, below, meth, c, D, A, Q⟩ := X
  exact fun H locs ls hP hz hS hA hl => lv_l2i C.1 C.2.1 hd rfl (k H locs ls hP hz hS hA hl)
theorem fv_i2b {X : fh_X} {R : Room} {nL : Nat} {z : Nat × Nat × Nat} {K : fh_K} {M : fh_M} {pc : Nat} {lv : List (Nat × Value)} {st : List Value} {cc : ByteArray} {own : String} (C : fh_C X nL cc own) {x : Int32} (hd : decode cc pc = .ok (.i2b, 1)) (k : fh_V X R nL z K M (pc + 1) lv (.int x.toInt8.toInt32 :: st)) : fh_V X R nL z K M pc lv (.int x :: st) := by
  obtain ⟨p, l, e, s, m, args, below, meth, c, D, A, Q⟩ := X
  exact fun H locs ls hP hz hS hA hl => lv_i2b C.1 C.2.1 hd rfl (k H locs ls hP hz hS hA hl)
theorem fv_dupi {X : fh_X} {R : Room} {nL : Nat} {z : Nat × Nat × Nat} {K : fh_K} {M : fh_M} {pc : Nat} {lv : List (Nat × Value)} {st : List Value} {cc : ByteArray} {own : String} (C : fh_C X nL cc own) {x : Int32} (hd : decode cc pc = .ok (.dup, 1)) (k : fh_V X R nL z K M (pc + 1) lv (.int x :: .int x :: st)) : fh_V X R nL z K M pc lv (.int x :: st) := by
  obtain ⟨p, l, e, s, m, args, below, meth, c, D, A, Q⟩ := X
  exact fun H locs ls hP hz hS hA hl => lv_dup C.1 C.2.1 hd rfl (k H locs ls hP hz hS hA hl)
theorem fv_dupr {X : fh_X} {R : Room} {nL : Nat} {z : Nat × Nat × Nat} {K : fh_K} {M : fh_M} {pc : Nat} {lv : List (Nat × Value)} {st : List Value} {cc : ByteArray} {own : String} (C : fh_C X nL cc own) {x : Option Nat} (hd : decode cc pc = .ok (.dup, 1)) (k : fh_V X R nL z K M (pc + 1) lv (va_rf x :: va_rf x :: st)) : fh_V X R nL z K M pc lv (va_rf x :: st) := by
  obtain ⟨p, l, e, s, m, args, below, meth, c, D, A, Q⟩ := X
  exact fun H locs ls hP hz hS hA hl => lv_dup C.1 C.2.1 hd (va_rf_cat x) (k H locs ls hP hz hS hA hl)
theorem fv_pop {X : fh_X} {R : Room} {nL : Nat} {z : Nat × Nat × Nat} {K : fh_K} {M : fh_M} {pc : Nat} {lv : List (Nat × Value)} {st : List Value} {cc : ByteArray} {own : String} (C : fh_C X nL cc own) {x : Int32} (hd : decode cc pc = .ok (.pop, 1)) (k : fh_V X R nL z K M (pc + 1) lv st) : fh_V X R nL z K M pc lv (.int x :: st) := by
  obtain ⟨p, l, e, s, m, args, below, meth, c, D, A, Q⟩ := X
  exact fun H locs ls hP hz hS hA hl => lv_pop C.1 C.2.1 hd rfl (k H locs ls hP hz hS hA hl)
theorem fv_icmp_eq {X : fh_X} {R : Room} {nL : Nat} {z : Nat × Nat × Nat} {K : fh_K} {M : fh_M} {pc : Nat} {lv : List (Nat × Value)} {st : List Value} {cc : ByteArray} {own : String} (C : fh_C X nL cc own) {x y : Int32} {off : Int} (tgt : Nat) (ht : (pc : Int) + off = (tgt : Int)) (hd : decode cc pc = .ok (.if_icmp .eq off, 3)) (kt : x = y → fh_V X R nL z K M tgt lv st) (kf : ¬ x = y → fh_V X R nL z K M (pc + 3) lv st) : fh_V X R nL z K M pc lv (.int y :: .int x :: st) := by
  obtain ⟨p, l, e, s, m, args, below, meth, c, D, A, Q⟩ := X
  exact fun H locs ls hP hz hS hA hl => lv_icmp_eq C.1 C.2.1 hd ht (fun q => kt q H locs ls hP hz hS hA hl) (fun q => kf q H locs ls hP hz hS hA hl)
theorem fv_icmp_ne {X : fh_X} {R : Room} {nL : Nat} {z : Nat × Nat × Nat} {K : fh_K} {M : fh_M} {pc : Nat} {lv : List (Nat × Value)} {st : List Value} {cc : ByteArray} {own : String} (C : fh_C X nL cc own) {x y : Int32} {off : Int} (tgt : Nat) (ht : (pc : Int) + off = (tgt : Int)) (hd : decode cc pc = .ok (.if_icmp .ne off, 3)) (kt : ¬ x = y → fh_V X R nL z K M tgt lv st) (kf : x = y → fh_V X R nL z K M (pc + 3) lv st) : fh_V X R nL z K M pc lv (.int y :: .int x :: st) := by
  obtain ⟨p, l, e, s, m, args, below, meth, c, D, A, Q⟩ := X
  exact fun H locs ls hP hz hS hA hl => lv_icmp_ne C.1 C.2.1 hd ht (fun q => kt q H locs ls hP hz hS hA hl) (fun q => kf q H locs ls hP hz hS hA hl)
theorem fv_icmp_lt {X : fh_X} {R : Room} {nL : Nat} {z : Nat × Nat × Nat} {K : fh_K} {M : fh_M} {pc : Nat} {lv : List (Nat × Value)} {st : List Value} {cc : ByteArray} {own : String} (C : fh_C X nL cc own) {x y : Int32} {off : Int} (tgt : Nat) (ht : (pc : Int) + off = (tgt : Int)) (hd : decode cc pc = .ok (.if_icmp .lt off, 3)) (kt : x < y → fh_V X R nL z K M tgt lv st) (kf : ¬ x < y → fh_V X R nL z K M (pc + 3) lv st) : fh_V X R nL z K M pc lv (.int y :: .int x :: st) := by
  obtain ⟨p, l, e, s, m, args, below, meth, c, D, A, Q⟩ := X
  exact fun H locs ls hP hz hS hA hl => lv_icmp_lt C.1 C.2.1 hd ht (fun q => kt q H locs ls hP hz hS hA hl) (fun q => kf q H locs ls hP hz hS hA hl)
theorem fv_icmp_ge {X : fh_X} {R : Room} {nL : Nat} {z : Nat × Nat × Nat} {K : fh_K} {M : fh_M} {pc : Nat} {lv : List (Nat × Value)} {st : List Value} {cc : ByteArray} {own : String} (C : fh_C X nL cc own) {x y : Int32} {off : Int} (tgt : Nat) (ht : (pc : Int) + off = (tgt : Int)) (hd : decode cc pc = .ok (.if_icmp .ge off, 3)) (kt : y ≤ x → fh_V X R nL z K M tgt lv st) (kf : ¬ y ≤ x → fh_V X R nL z K M (pc + 3) lv st) : fh_V X R nL z K M pc lv (.int y :: .int x :: st) := by
  obtain ⟨p, l, e, s, m, args, below, meth, c, D, A, Q⟩ := X
  exact fun H locs ls hP hz hS hA hl => lv_icmp_ge C.1 C.2.1 hd ht (fun q => kt q H locs ls hP hz hS hA hl) (fun q => kf q H locs ls hP hz hS hA hl)
theorem fv_icmp_gt {X : fh_X} {R : Room} {nL : Nat} {z : Nat × Nat × Nat} {K : fh_K} {M : fh_M} {pc : Nat} {lv : List (Nat × Value)} {st : List Value} {cc : ByteArray} {own : String} (C : fh_C X nL cc own) {x y : Int32} {off : Int} (tgt : Nat) (ht : (pc : Int) + off = (tgt : Int)) (hd : decode cc pc = .ok (.if_icmp .gt off, 3)) (kt : y < x → fh_V X R nL z K M tgt lv st) (kf : ¬ y < x → fh_V X R nL z K M (pc + 3) lv st) : fh_V X R nL z K M pc lv (.int y :: .int x :: st) := by
  obtain ⟨p, l, e, s, m, args, below, meth, c, D, A, Q⟩ := X
  exact fun H locs ls hP hz hS hA hl => lv_icmp_gt C.1 C.2.1 hd ht (fun q => kt q H locs ls hP hz hS hA hl) (fun q => kf q H locs ls hP hz hS hA hl)
theorem fv_icmp_le {X : fh_X} {R : Room} {nL : Nat} {z : Nat × Nat × Nat} {K : fh_K} {M : fh_M} {pc : Nat} {lv : List (Nat × Value)} {st : List Value} {cc : ByteArray} {own : String} (C : fh_C X nL cc own) {x y : Int32} {off : Int} (tgt : Nat) (ht : (pc : Int) + off = (tgt : Int)) (hd : decode cc pc = .ok (.if_icmp .le off, 3)) (kt : x ≤ y → fh_V X R nL z K M tgt lv st) (kf : ¬ x ≤ y → fh_V X R nL z K M (pc + 3) lv st) : fh_V X R nL z K M pc lv (.int y :: .int x :: st) := by
  obtain ⟨p, l, e, s, m, args, below, meth, c, D, A, Q⟩ := X
  exact fun H locs ls hP hz hS hA hl => lv_icmp_le C.1 C.2.1 hd ht (fun q => kt q H locs ls hP hz hS hA hl) (fun q => kf q H locs ls hP hz hS hA hl)
theorem fv_if_eq {X : fh_X} {R : Room} {nL : Nat} {z : Nat × Nat × Nat} {K : fh_K} {M : fh_M} {pc : Nat} {lv : List (Nat × Value)} {st : List Value} {cc : ByteArray} {own : String} (C : fh_C X nL cc own) {x : Int32} {off : Int} (tgt : Nat) (ht : (pc : Int) + off = (tgt : Int)) (hd : decode cc pc = .ok (.ifCond .eq off, 3)) (kt : x = 0 → fh_V X R nL z K M tgt lv st) (kf : ¬ x = 0 → fh_V X R nL z K M (pc + 3) lv st) : fh_V X R nL z K M pc lv (.int x :: st) := by
  obtain ⟨p, l, e, s, m, args, below, meth, c, D, A, Q⟩ := X
  exact fun H locs ls hP hz hS hA hl => lv_if_eq C.1 C.2.1 hd ht (fun q => kt q H locs ls hP hz hS hA hl) (fun q => kf q H locs ls hP hz hS hA hl)
theorem fv_if_ne {X : fh_X} {R : Room} {nL : Nat} {z : Nat × Nat × Nat} {K : fh_K} {M : fh_M} {pc : Nat} {lv : List (Nat × Value)} {st : List Value} {cc : ByteArray} {own : String} (C : fh_C X nL cc own) {x : Int32} {off : Int} (tgt : Nat) (ht : (pc : Int) + off = (tgt : Int)) (hd : decode cc pc = .ok (.ifCond .ne off, 3)) (kt : ¬ x = 0 → fh_V X R nL z K M tgt lv st) (kf : x = 0 → fh_V X R nL z K M (pc + 3) lv st) : fh_V X R nL z K M pc lv (.int x :: st) := by
  obtain ⟨p, l, e, s, m, args, below, meth, c, D, A, Q⟩ := X
  exact fun H locs ls hP hz hS hA hl => lv_if_ne C.1 C.2.1 hd ht (fun q => kt q H locs ls hP hz hS hA hl) (fun q => kf q H locs ls hP hz hS hA hl)
theorem fv_if_lt {X : fh_X} {R : Room} {nL : Nat} {z : Nat × Nat × Nat} {K : fh_K} {M : fh_M} {pc : Nat} {lv : List (Nat × Value)} {st : List Value} {cc : ByteArray} {own : String} (C : fh_C X nL cc own) {x : Int32} {off : Int} (tgt : Nat) (ht : (pc : Int) + off = (tgt : Int)) (hd : decode cc pc = .ok (.ifCond .lt off, 3)) (kt : x < 0 → fh_V X R nL z K M tgt lv st) (kf : ¬ x < 0 → fh_V X R nL z K M (pc + 3) lv st) : fh_V X R nL z K M pc lv (.int x :: st) := by
  obtain ⟨p, l, e, s, m, args, below, meth, c, D, A, Q⟩ := X
  exact fun H locs ls hP hz hS hA hl => lv_if_lt C.1 C.2.1 hd ht (fun q => kt q H locs ls hP hz hS hA hl) (fun q => kf q H locs ls hP hz hS hA hl)
theorem fv_if_ge {X : fh_X} {R : Room} {nL : Nat} {z : Nat × Nat × Nat} {K : fh_K} {M : fh_M} {pc : Nat} {lv : List (Nat × Value)} {st : List Value} {cc : ByteArray} {own : String} (C : fh_C X nL cc own) {x : Int32} {off : Int} (tgt : Nat) (ht : (pc : Int) + off = (tgt : Int)) (hd : decode cc pc = .ok (.ifCond .ge off, 3)) (kt : 0 ≤ x → fh_V X R nL z K M tgt lv st) (kf : ¬ 0 ≤ x → fh_V X R nL z K M (pc + 3) lv st) : fh_V X R nL z K M pc lv (.int x :: st) := by
  obtain ⟨p, l, e, s, m, args, below, meth, c, D, A, Q⟩ := X
  exact fun H locs ls hP hz hS hA hl => lv_if_ge C.1 C.2.1 hd ht (fun q => kt q H locs ls hP hz hS hA hl) (fun q => kf q H locs ls hP hz hS hA hl)
theorem fv_if_gt {X : fh_X} {R : Room} {nL : Nat} {z : Nat × Nat × Nat} {K : fh_K} {M : fh_M} {pc : Nat} {lv : List (Nat × Value)} {st : List Value} {cc : ByteArray} {own : String} (C : fh_C X nL cc own) {x : Int32} {off : Int} (tgt : Nat) (ht : (pc : Int) + off = (tgt : Int)) (hd : decode cc pc = .ok (.ifCond .gt off, 3)) (kt : 0 < x → fh_V X R nL z K M tgt lv st) (kf : ¬ 0 < x → fh_V X R nL z K M (pc + 3) lv st) : fh_V X R nL z K M pc lv (.int x :: st) := by
  obtain ⟨p, l, e, s, m, args, below, meth, c, D, A, Q⟩ := X
  exact fun H locs ls hP hz hS hA hl => lv_if_gt C.1 C.2.1 hd ht (fun q => kt q H locs ls hP hz hS hA hl) (fun q => kf q H locs ls hP hz hS hA hl)
theorem fv_if_le {X : fh_X} {R : Room} {nL : Nat} {z : Nat × Nat × Nat} {K : fh_K} {M : fh_M} {pc : Nat} {lv : List (Nat × Value)} {st : List Value} {cc : ByteArray} {own : String} (C : fh_C X nL cc own) {x : Int32} {off : Int} (tgt : Nat) (ht : (pc : Int) + off = (tgt : Int)) (hd : decode cc pc = .ok (.ifCond .le off, 3)) (kt : x ≤ 0 → fh_V X R nL z K M tgt lv st) (kf : ¬ x ≤ 0 → fh_V X R nL z K M (pc + 3) lv st) : fh_V X R nL z K M pc lv (.int x :: st) := by
  obtain ⟨p, l, e, s, m, args, below, meth, c, D, A, Q⟩ := X
  exact fun H locs ls hP hz hS hA hl => lv_if_le C.1 C.2.1 hd ht (fun q => kt q H locs ls hP hz hS hA hl) (fun q => kf q H locs ls hP hz hS hA hl)
theorem fv_goto {X : fh_X} {R : Room} {nL : Nat} {z : Nat × Nat × Nat} {K : fh_K} {M : fh_M} {pc : Nat} {lv : List (Nat × Value)} {st : List Value} {cc : ByteArray} {own : String} (C : fh_C X nL cc own) {off : Int} (tgt : Nat) (ht : (pc : Int) + off = (tgt : Int)) (hd : decode cc pc = .ok (.goto off, 3)) (k : fh_V X R nL z K M tgt lv st) : fh_V X R nL z K M pc lv st := by
  obtain ⟨p, l, e, s, m, args, below, meth, c, D, A, Q⟩ := X
  exact fun H locs ls hP hz hS hA hl => lv_goto C.1 C.2.1 hd ht (k H locs ls hP hz hS hA hl)
theorem fv_ifnull {X : fh_X} {R : Room} {nL : Nat} {z : Nat × Nat × Nat} {K : fh_K} {M : fh_M} {pc : Nat} {lv : List (Nat × Value)} {st : List Value} {cc : ByteArray} {own : String} (C : fh_C X nL cc own) {x : Option Nat} {off : Int} (tgt : Nat) (ht : (pc : Int) + off = (tgt : Int)) (hd : decode cc pc = .ok (.ifnull off, 3)) (kt : x = none → fh_V X R nL z K M tgt lv st) (kf : ¬ x = none → fh_V X R nL z K M (pc + 3) lv st) : fh_V X R nL z K M pc lv (va_rf x :: st) := by
  obtain ⟨p, l, e, s, m, args, below, meth, c, D, A, Q⟩ := X
  cases x with
  | none => exact fun H locs ls hP hz hS hA hl => lv_ifnullN C.1 C.2.1 hd ht (kt rfl H locs ls hP hz hS hA hl)
  | some x => exact fun H locs ls hP hz hS hA hl => lv_ifnull C.1 C.2.1 hd (kf (fun q => by cases q) H locs ls hP hz hS hA hl)
theorem fv_ifnonnull {X : fh_X} {R : Room} {nL : Nat} {z : Nat × Nat × Nat} {K : fh_K} {M : fh_M} {pc : Nat} {lv : List (Nat × Value)} {st : List Value} {cc : ByteArray} {own : String} (C : fh_C X nL cc own) {x : Option Nat} {off : Int} (tgt : Nat) (ht : (pc : Int) + off = (tgt : Int)) (hd : decode cc pc = .ok (.ifnonnull off, 3)) (kt : ¬ x = none → fh_V X R nL z K M tgt lv st) (kf : x = none → fh_V X R nL z K M (pc + 3) lv st) : fh_V X R nL z K M pc lv (va_rf x :: st) := by
  obtain ⟨p, l, e, s, m, args, below, meth, c, D, A, Q⟩ := X
  cases x with
  | none => exact fun H locs ls hP hz hS hA hl => lv_ifnonnullN C.1 C.2.1 hd (kf rfl H locs ls hP hz hS hA hl)
  | some x => exact fun H locs ls hP hz hS hA hl => lv_ifnonnull C.1 C.2.1 hd ht (kt (fun q => by cases q) H locs ls hP hz hS hA hl)
theorem fv_tsOut {X : fh_X} {R : Room} {nL : Nat} {z : Nat × Nat × Nat} {K : fh_K} {M : fh_M} {pc : Nat} {lv : List (Nat × Value)} {st : List Value} {cc : ByteArray} {own : String} (C : fh_C X nL cc own) {dflt lo hi : Int} {offs : Array Int} {len : Nat} {x : Int32} (tgt : Nat) (h : x.toInt < lo ∨ hi < x.toInt) (ht : (pc : Int) + dflt = (tgt : Int)) (hd : decode cc pc = .ok (.tableswitch dflt lo hi offs, len)) (k : fh_V X R nL z K M tgt lv st) : fh_V X R nL z K M pc lv (.int x :: st) := by
  obtain ⟨p, l, e, s, m, args, below, meth, c, D, A, Q⟩ := X
  exact fun H locs ls hP hz hS hA hl => lv_tableOut C.1 C.2.1 hd h ht (k H locs ls hP hz hS hA hl)
theorem fv_tsIn {X : fh_X} {R : Room} {nL : Nat} {z : Nat × Nat × Nat} {K : fh_K} {M : fh_M} {pc : Nat} {lv : List (Nat × Value)} {st : List Value} {cc : ByteArray} {own : String} (C : fh_C X nL cc own) {dflt lo hi : Int} {offs : Array Int} {len : Nat} {x : Int32} {off : Int} (tgt : Nat) (h1 : ¬ x.toInt < lo) (h2 : ¬ hi < x.toInt) (ho : offs[(x.toInt - lo).toNat]? = some off) (ht : (pc : Int) + off = (tgt : Int)) (hd : decode cc pc = .ok (.tableswitch dflt lo hi offs, len)) (k : fh_V X R nL z K M tgt lv st) : fh_V X R nL z K M pc lv (.int x :: st) := by
  obtain ⟨p, l, e, s, m, args, below, meth, c, D, A, Q⟩ := X
  exact fun H locs ls hP hz hS hA hl => lv_tableIn C.1 C.2.1 hd h1 h2 ho ht (k H locs ls hP hz hS hA hl)
theorem fv_sub {X : fh_X} {R : Room} {nL : Nat} {z : Nat × Nat × Nat} {K : fh_K} {M : fh_M} {pc : Nat} {lv : List (Nat × Value)} {st : List Value} {cc : ByteArray} {own : String} {lv' : List (Nat × Value)} (ks : List Nat) (hp : lv_pick lv ks = lv') (k : fh_V X R nL z K M pc lv' st) : fh_V X R nL z K M pc lv st := by
  obtain ⟨p, l, e, s, m, args, below, meth, c, D, A, Q⟩ := X
  exact fun H locs ls hP hz hS hA hl => k H locs ls hP hz hS hA (lv_sub hl ks hp)
