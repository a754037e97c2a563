def fh_fl (own : String) (index ci k t : Nat) (fin : Bool) (fty : FieldType) : Prop := ∃ (Cn : String) (T : u_T) (ty : Nat → FieldType) (N : Nat), vwCl[ci]? = some (Cn, T, N) ∧ (∀ w ∈ u_ws Cn T N, w ∈ fh_W) ∧ (∀ k, k < N → parseFieldDescriptor (T k).2.2.1 = some (ty k)) ∧ (∀ a, a < N → ∀ b, b < N → a ≠ b → (T a).2.1 ≠ (T b).2.1) ∧ ci < 12 ∧ k < N ∧ (fh_tab.getD ci []).length = N ∧ (fh_tab.getD ci [])[k]? = some t ∧ (T k).2.2.2 = fin ∧ ty k = fty ∧ (T k).1 = Cn ∧ Cond.fieldLink own index (T k).1 (T k).2.1 (T k).2.2.1 ∈ fh_W
theorem fh_fs_get {c k t : Nat} {M : fh_M} {a : Nat} (h : (fh_tab.getD c [])[k]? = some t) : (fh_fs c M a)[k]? = some (fh_fv M a k t) := by
  unfold fh_fs
  rw [List.getElem?_mapIdx, h]; rfl
theorem fh_fs_len (c : Nat) (M : fh_M) (a : Nat) : (fh_fs c M a).length = (fh_tab.getD c []).length := by
  unfold fh_fs; rw [List.length_mapIdx]
/-- one field is set -/
theorem fh_fs_set {c k t : Nat} {M M' : fh_M} {a : Nat} (h : (fh_tab.getD c [])[k]? = some t) (ho : ∀ j u, j ≠ k → fh_fv M' a j u = fh_fv M a j u) : (fh_fs c M a).set k (fh_fv M' a k t) = fh_fs c M' a := by
  apply List.ext_getElem?
  intro j
  rw [List.getElem?_set]
  have hk : k < (fh_tab.getD c []).length := (List.getElem?_eq_some_iff.mp h).1
  by_cases e : k = j
  · subst e
    rw [if_pos rfl, if_pos (by rw [fh_fs_len]; exact hk), fh_fs_get h]
  · rw [if_neg e]
    unfold fh_fs
    rw [List.getElem?_mapIdx, List.getElem?_mapIdx]
    cases (fh_tab.getD c [])[j]? with
    | none => rfl
    | some u => exact congrArg some (ho j u (fun q => e q.symm)).symm
theorem fh_get {p : Program} {l : Launch} {e : Env} {R : Room} {s : State} {m : MethodId} {args : Array Value} {below : List Frame} {meth : Method} {c : Code} {H : Heap} {locs : List Loc} {cells slots : Nat} {Q : State → Prop} {cc : ByteArray} {pc : Nat} {ls : Array Slot} {rest : List Value} {own : String} {D : fh_D} {K : fh_K} {M : fh_M} {a index ci k t : Nat} {fin : Bool} {fty : FieldType}
    (hx : p.tables.exec = Jvm.exec) (hb : c.code = cc) (hown : s.vm.findClass own = some m.cls) (hts : ∀ w ∈ fh_W, w.before args s = true) (hK : fh_Ks D s) (hF : fh_fl own index ci k t fin fty) (hP : fh_P D K M H) (hk : (K a).1 = ci + 1) (hd : decode cc pc = .ok (.getfield index, 3))
    (kk : W p l e R s m args below meth c H locs cells slots Q (F0 m (pc + 3) ls (fh_fv M a k t :: rest))) : W p l e R s m args below meth c H locs cells slots Q (F0 m pc ls (.ref a :: rest)) := by
  obtain ⟨Cn, T, ty, N, h1, h2, h3, h4, h5, h6, h7, h8, h9, h10, h11, h12⟩ := hF
  exact va_get (D := (D.1, D.2.1)) (ci := ci) hx hb hts h2 hown hK.1 (fh_one hP (by omega) (fh_cell_o hk h5)) 0 rfl h1 k h6 (hts _ h12) (fun _ q => q) (fh_fs_get h8) hd kk
theorem fh_put {p : Program} {l : Launch} {e : Env} {R : Room} {s : State} {m : MethodId} {args : Array Value} {below : List Frame} {meth : Method} {c : Code} {H : Heap} {locs : List Loc} {cells slots : Nat} {Q : State → Prop} {cc : ByteArray} {pc : Nat} {ls : Array Slot} {rest : List Value} {own : String} {D : fh_D} {K : fh_K} {M M' : fh_M} {A : Nat → Prop} {a index ci k t : Nat} {fin : Bool} {fty : FieldType}
    (hx : p.tables.exec = Jvm.exec) (hb : c.code = cc) (hown : s.vm.findClass own = some m.cls) (hts : ∀ w ∈ fh_W, w.before args s = true) (hK : fh_Ks D s) (hF : fh_fl own index ci k t fin fty) (hfin : fin = true → meth.name = "<init>" ∧ vwCl[ci]?.map (fun q => q.1) = some own) (hP : fh_P D K M H) (hS : va_S A s.heap H locs) (hA : A a) (hk : (K a).1 = ci + 1) (hn : narrow fty (fh_fv M' a k t) = fh_fv M' a k t) (hfit : fits fty (fh_fv M' a k t) = true) (ho : ∀ j u, j ≠ k → fh_fv M' a j u = fh_fv M a j u) (hM : ∀ b, b ≠ a → M.1 b = M'.1 b ∧ M.2.1 b = M'.2.1 b ∧ M.2.2 b = M'.2.2 b) (hd : decode cc pc = .ok (.putfield index, 3))
    (kk : ∀ (H1 : Heap) (locs1 : List Loc), fh_P D K M' H1 → H1.size = H.size → va_S A s.heap H1 locs1 → W p l e R s m args below meth c H1 locs1 cells slots Q (F0 m (pc + 3) ls rest)) : W p l e R s m args below meth c H locs cells slots Q (F0 m pc ls (fh_fv M' a k t :: .ref a :: rest)) := by
  obtain ⟨Cn, T, ty, N, hc, hin, hty, hnm, h5, hkN, h7, h8, h9, h10, h11, h12⟩ := hF
  have hat := hP a (by omega)
  rw [fh_cell_o hk h5] at hat
  have hl : k < (fh_fs ci M a).length := by rw [fh_fs_len, h7]; exact hkN
  have hap := va_apart (own := own) hts hin ty hty hnm hK.1 hc
  obtain ⟨r, h1, cell, q1, q2, q3, q4⟩ := hat
  have hr : r = (Cn, T, N) := Option.some.inj (h1.symm.trans hc)
  subst hr
  obtain ⟨hSl, hfc, kC, hkC, hkind⟩ := hK.1.1 ci _ hc
  obtain ⟨cf, kf, fi, f, hi, hsl⟩ := hSl k hkN
  have hlay := hts _ (hin _ (u_in_lay hkN))
  have hst := (u_facts hfc hkC (u_lays hts hin hkN) hi).1
  have hd2 : parseFieldDescriptor (T k).2.2.1 = some fty := by rw [hty k hkN, h10]
  have fin_ : ∀ H' : Heap, H'[a]? = some (cell.setSlot ((D.2.1) ci k) (fh_fv M' a k t)) → H'.size = H.size → (∀ q : Nat, q ≠ a → H'[q]? = H[q]?) → fh_P D K M' H' := by
    intro H' e1 e2 e3
    refine fh_P_write hP ?_ e3 hM
    rw [fh_cell_o hk h5, ← fh_fs_set h8 ho]
    exact ⟨_, hc, t_OB.to (V := updV (vp_V (fh_fs ci M a)) k (fh_fv M' a k t)) ⟨_, e1, q2, q3, t_set q4 hap hkN _⟩ (fun j _ => vp_updV_set hl _ j)⟩
  unfold u_lay at hlay
  cases fin with
  | false =>
    rw [if_neg (by rw [h9]; decide)] at hlay
    have h6 := u_store hfc hkC hkind hlay hi hd2 hn hfit
    refine W.putK hx hb (f := f) ⟨hown, hts _ h12, ⟨_, _, _, hi⟩, hst⟩ (by rw [q2]; exact h6) q1 q3 (by rw [hsl]; exact k2_hasslot (q4 k hkN)) rfl rfl hd fun H' e1 e2 e3 => ?_
    rw [hsl] at e1 ⊢
    exact kk H' _ (fin_ H' e1 e2 e3) e2 (hS.put e2 e3 hA)
  | true =>
    obtain ⟨hin2, hcn⟩ := hfin rfl
    rw [hc] at hcn
    have hdecl : (T k).1 = own := by rw [h11]; exact Option.some.inj hcn
    rw [if_pos h9] at hlay
    have hcf : m.cls = cf := by
      obtain ⟨_, _, c', _, _, _, -, -, hf', -, -, -, hown2, -⟩ := Cond.laysFinal_spec hlay
      have e1 : c' = cf := by have := hi.symm.trans hf'; simp at this; exact this.1.symm
      rw [hdecl] at hown2
      rw [← e1]; exact Option.some.inj (hown.symm.trans hown2)
    have h6 := u_fits hfc hkC hkind (Or.inr hlay) hi hd2 hn hfit
    refine W.putFinK hx hb hown (hts _ h12) hi hst hcf hin2 (by rw [q2]; exact h6) q1 q3 (by rw [hsl]; exact k2_hasslot (q4 k hkN)) rfl rfl hd fun H' e1 e2 e3 => ?_
    rw [hsl] at e1 ⊢
    exact kk H' _ (fin_ H' e1 e2 e3) e2 (hS.put e2 e3 hA)
theorem fv_getI {X : fh_X} {R : Room} {nL : Nat} {z : Nat × Nat × Nat} {K : fh_K} {M : fh_M} {pc : Nat} {lv : List (Nat × Value)} {st : List Value} {cc : ByteArray} {own : String} (C : fh_C X nL cc own) {r : Option Nat} {a index ci k : Nat} {fin : Bool} {fty : FieldType} (hF : fh_fl own index ci k 0 fin fty) (hr : r = some a) (hk : (K a).1 = ci + 1) (hd : decode cc pc = .ok (.getfield index, 3)) (kk : fh_V X R nL z K M (pc + 3) lv (.int (M.1 a k) :: st)) : fh_V X R nL z K M pc lv (va_rf r :: st) := by
  obtain ⟨p, l, e, s, m, args, below, meth, c, D, A, Q⟩ := X
  subst hr
  exact fun H locs ls hP hz hS hA hl => fh_get C.1 C.2.1 C.2.2.2.1 C.2.2.2.2.1 C.2.2.2.2.2.1 hF hP hk hd (kk H locs ls hP hz hS hA hl)
theorem fv_getJ {X : fh_X} {R : Room} {nL : Nat} {z : Nat × Nat × Nat} {K : fh_K} {M : fh_M} {pc : Nat} {lv : List (Nat × Value)} {st : List Value} {cc : ByteArray} {own : String} (C : fh_C X nL cc own) {r : Option Nat} {a index ci k : Nat} {fin : Bool} {fty : FieldType} (hF : fh_fl own index ci k 1 fin fty) (hr : r = some a) (hk : (K a).1 = ci + 1) (hd : decode cc pc = .ok (.getfield index, 3)) (kk : fh_V X R nL z K M (pc + 3) lv (.long (M.2.1 a k) :: st)) : fh_V X R nL z K M pc lv (va_rf r :: st) := by
  obtain ⟨p, l, e, s, m, args, below, meth, c, D, A, Q⟩ := X
  subst hr
  exact fun H locs ls hP hz hS hA hl => fh_get C.1 C.2.1 C.2.2.2.1 C.2.2.2.2.1 C.2.2.2.2.2.1 hF hP hk hd (kk H locs ls hP hz hS hA hl)
theorem fv_getR {X : fh_X} {R : Room} {nL : Nat} {z : Nat × Nat × Nat} {K : fh_K} {M : fh_M} {pc : Nat} {lv : List (Nat × Value)} {st : List Value} {cc : ByteArray} {own : String} (C : fh_C X nL cc own) {r : Option Nat} {a index ci k : Nat} {fin : Bool} {fty : FieldType} (hF : fh_fl own index ci k 2 fin fty) (hr : r = some a) (hk : (K a).1 = ci + 1) (hd : decode cc pc = .ok (.getfield index, 3)) (kk : fh_V X R nL z K M (pc + 3) lv (va_rf (M.2.2 a k) :: st)) : fh_V X R nL z K M pc lv (va_rf r :: st) := by
  obtain ⟨p, l, e, s, m, args, below, meth, c, D, A, Q⟩ := X
  subst hr
  exact fun H locs ls hP hz hS hA hl => fh_get C.1 C.2.1 C.2.2.2.1 C.2.2.2.2.1 C.2.2.2.2.2.1 hF hP hk hd (kk H locs ls hP hz hS hA hl)
theorem narrow_rf_o (r : Option Nat) (C : String) : narrow (.object C) (va_rf r) = va_rf r ∧ fits (.object C) (va_rf r) = true := by cases r <;> exact ⟨rfl, rfl⟩
theorem narrow_rf_a (r : Option Nat) (C : FieldType) : narrow (.array C) (va_rf r) = va_rf r ∧ fits (.array C) (va_rf r) = true := by cases r <;> exact ⟨rfl, rfl⟩
theorem narrow_z {v : Int32} (h : v = 0 ∨ v = 1) : narrow .boolean (.int v) = .int v ∧ fits .boolean (.int v) = true := by
  rcases h with rfl | rfl <;> exact ⟨rfl, rfl⟩
theorem narrow_i (v : Int32) : narrow .int (.int v) = .int v ∧ fits .int (.int v) = true := ⟨rfl, rfl⟩
theorem narrow_l (v : Int64) : narrow .long (.long v) = .long v ∧ fits .long (.long v) = true := ⟨rfl, rfl⟩
theorem fh_fv_fh_si_k (M : fh_M) (a k : Nat) (v : Int32) : fh_fv (fh_si M a k v) a k 0 = .int v := by simp [fh_fv, fh_si, fh_u]
theorem fh_fv_fh_si_o (M : fh_M) (a k : Nat) (v : Int32) (j u : Nat) (h : j ≠ k) : fh_fv (fh_si M a k v) a j u = fh_fv M a j u := by simp [fh_fv, fh_si, fh_u, h]
theorem fh_ne_fh_si (M : fh_M) (a k : Nat) (v : Int32) (b : Nat) (h : b ≠ a) : M.1 b = (fh_si M a k v).1 b ∧ M.2.1 b = (fh_si M a k v).2.1 b ∧ M.2.2 b = (fh_si M a k v).2.2 b := by
  refine ⟨?_, ?_, ?_⟩ <;> first | rfl | exact fh_u_ne h
theorem fv_putI {X : fh_X} {R : Room} {nL : Nat} {z : Nat × Nat × Nat} {K : fh_K} {M : fh_M} {pc : Nat} {lv : List (Nat × Value)} {st : List Value} {cc : ByteArray} {own : String} (C : fh_C X nL cc own) {r : Option Nat} {a index ci k : Nat} {fin : Bool} {fty : FieldType} {v : Int32} (hF : fh_fl own index ci k 0 false fty) (hr : r = some a) (hk : (K a).1 = ci + 1) (hn : narrow fty (.int v) = .int v ∧ fits fty (.int v) = true) (hd : decode cc pc = .ok (.putfield index, 3)) (kk : fh_V X R nL z K (fh_si M a k v) (pc + 3) lv st) : fh_V X R nL z K M pc lv (.int v :: va_rf r :: st) := by
  obtain ⟨p, l, e, s, m, args, below, meth, c, D, A, Q⟩ := X
  subst hr
  have e0 := fh_fv_fh_si_k M a k v
  intro H locs ls hP hz hS hA hl
  have := fh_put (M' := fh_si M a k v) (ls := ls) (rest := st) (pc := pc) (cells := z.2.1) (slots := z.2.2) (p := p) (l := l) (e := e) (R := R) (s := s) (m := m) (args := args) (below := below) (meth := meth) (c := c) (Q := Q) C.1 C.2.1 C.2.2.2.1 C.2.2.2.2.1 C.2.2.2.2.2.1 hF (fun q => by cases q) hP hS (hA a (by omega)) hk (by rw [e0]; exact hn.1) (by rw [e0]; exact hn.2) (fh_fv_fh_si_o M a k v) (fh_ne_fh_si M a k v) hd (fun H1 locs1 hP1 hz1 hS1 => kk H1 locs1 ls hP1 (hz1.trans hz) hS1 hA hl)
  rw [e0] at this
  exact this
theorem fv_putFI {X : fh_X} {R : Room} {nL : Nat} {z : Nat × Nat × Nat} {K : fh_K} {M : fh_M} {pc : Nat} {lv : List (Nat × Value)} {st : List Value} {cc : ByteArray} {own : String} (C : fh_C X nL cc own) {r : Option Nat} {a index ci k : Nat} {fin : Bool} {fty : FieldType} {v : Int32} (hF : fh_fl own index ci k 0 true fty) (hr : r = some a) (hk : (K a).1 = ci + 1) (hcn : vwCl[ci]?.map (fun q => q.1) = some own) (hnm : X.2.2.2.2.2.2.2.1.name = "<init>") (hn : narrow fty (.int v) = .int v ∧ fits fty (.int v) = true) (hd : decode cc pc = .ok (.putfield index, 3)) (kk : fh_V X R nL z K (fh_si M a k v) (pc + 3) lv st) : fh_V X R nL z K M pc lv (.int v :: va_rf r :: st) := by
  obtain ⟨p, l, e, s, m, args, below, meth, c, D, A, Q⟩ := X
  subst hr
  have e0 := fh_fv_fh_si_k M a k v
  intro H locs ls hP hz hS hA hl
  have := fh_put (M' := fh_si M a k v) (ls := ls) (rest := st) (pc := pc) (cells := z.2.1) (slots := z.2.2) (p := p) (l := l) (e := e) (R := R) (s := s) (m := m) (args := args) (below := below) (meth := meth) (c := c) (Q := Q) C.1 C.2.1 C.2.2.2.1 C.2.2.2.2.1 C.2.2.2.2.2.1 hF (fun _ => ⟨hnm, hcn⟩) hP hS (hA a (by omega)) hk (by rw [e0]; exact hn.1) (by rw [e0]; exact hn.2) (fh_fv_fh_si_o M a k v) (fh_ne_fh_si M a k v) hd (fun H1 locs1 hP1 hz1 hS1 => kk H1 locs1 ls hP1 (hz1.trans hz) hS1 hA hl)
  rw [e0] at this
  exact this
theorem fh_fv_fh_sl_k (M : fh_M) (a k : Nat) (v : Int64) : fh_fv (fh_sl M a k v) a k 1 = .long v := by simp [fh_fv, fh_sl, fh_u]
theorem fh_fv_fh_sl_o (M : fh_M) (a k : Nat) (v : Int64) (j u : Nat) (h : j ≠ k) : fh_fv (fh_sl M a k v) a j u = fh_fv M a j u := by simp [fh_fv, fh_sl, fh_u, h]
theorem fh_ne_fh_sl (M : fh_M) (a k : Nat) (v : Int64) (b : Nat) (h : b ≠ a) : M.1 b = (fh_sl M a k v).1 b ∧ M.2.1 b = (fh_sl M a k v).2.1 b ∧ M.2.2 b = (fh_sl M a k v).2.2 b := by
  refine ⟨?_, ?_, ?_⟩ <;> first | rfl | exact fh_u_ne h
theorem fv_putJ {X : fh_X} {R : Room} {nL : Nat} {z : Nat × Nat × Nat} {K : fh_K} {M : fh_M} {pc : Nat} {lv : List (Nat × Value)} {st : List Value} {cc : ByteArray} {own : String} (C : fh_C X nL cc own) {r : Option Nat} {a index ci k : Nat} {fin : Bool} {fty : FieldType} {v : Int64} (hF : fh_fl own index ci k 1 false fty) (hr : r = some a) (hk : (K a).1 = ci + 1) (hn : narrow fty (.long v) = .long v ∧ fits fty (.long v) = true) (hd : decode cc pc = .ok (.putfield index, 3)) (kk : fh_V X R nL z K (fh_sl M a k v) (pc + 3) lv st) : fh_V X R nL z K M pc lv (.long v :: va_rf r :: st) := by
  obtain ⟨p, l, e, s, m, args, below, meth, c, D, A, Q⟩ := X
  subst hr
  have e0 := fh_fv_fh_sl_k M a k v
  intro H locs ls hP hz hS hA hl
  have := fh_put (M' := fh_sl M a k v) (ls := ls) (rest := st) (pc := pc) (cells := z.2.1) (slots := z.2.2) (p := p) (l := l) (e := e) (R := R) (s := s) (m := m) (args := args) (below := below) (meth := meth) (c := c) (Q := Q) C.1 C.2.1 C.2.2.2.1 C.2.2.2.2.1 C.2.2.2.2.2.1 hF (fun q => by cases q) hP hS (hA a (by omega)) hk (by rw [e0]; exact hn.1) (by rw [e0]; exact hn.2) (fh_fv_fh_sl_o M a k v) (fh_ne_fh_sl M a k v) hd (fun H1 locs1 hP1 hz1 hS1 => kk H1 locs1 ls hP1 (hz1.trans hz) hS1 hA hl)
  rw [e0] at this
  exact this
theorem fv_putFJ {X : fh_X} {R : Room} {nL : Nat} {z : Nat × Nat × Nat} {K : fh_K} {M : fh_M} {pc : Nat} {lv : List (Nat × Value)} {st : List Value} {cc : ByteArray} {own : String} (C : fh_C X nL cc own) {r : Option Nat} {a index ci k : Nat} {fin : Bool} {fty : FieldType} {v : Int64} (hF : fh_fl own index ci k 1 true fty) (hr : r = some a) (hk : (K a).1 = ci + 1) (hcn : vwCl[ci]?.map (fun q => q.1) = some own) (hnm : X.2.2.2.2.2.2.2.1.name = "<init>") (hn : narrow fty (.long v) = .long v ∧ fits fty (.long v) = true) (hd : decode cc pc = .ok (.putfield index, 3)) (kk : fh_V X R nL z K (fh_sl M a k v) (pc + 3) lv st) : fh_V X R nL z K M pc lv (.long v :: va_rf r :: st) := by
  obtain ⟨p, l, e, s, m, args, below, meth, c, D, A, Q⟩ := X
  subst hr
  have e0 := fh_fv_fh_sl_k M a k v
  intro H locs ls hP hz hS hA hl
  have := fh_put (M' := fh_sl M a k v) (ls := ls) (rest := st) (pc := pc) (cells := z.2.1) (slots := z.2.2) (p := p) (l := l) (e := e) (R := R) (s := s) (m := m) (args := args) (below := below) (meth := meth) (c := c) (Q := Q) C.1 C.2.1 C.2.2.2.1 C.2.2.2.2.1 C.2.2.2.2.2.1 hF (fun _ => ⟨hnm, hcn⟩) hP hS (hA a (by omega)) hk (by rw [e0]; exact hn.1) (by rw [e0]; exact hn.2) (fh_fv_fh_sl_o M a k v) (fh_ne_fh_sl M a k v) hd (fun H1 locs1 hP1 hz1 hS1 => kk H1 locs1 ls hP1 (hz1.trans hz) hS1 hA hl)
  rw [e0] at this
  exact this
theorem fh_fv_fh_sr_k (M : fh_M) (a k : Nat) (v : Option Nat) : fh_fv (fh_sr M a k v) a k 2 = va_rf v := by simp [fh_fv, fh_sr, fh_u]
theorem fh_fv_fh_sr_o (M : fh_M) (a k : Nat) (v : Option Nat) (j u : Nat) (h : j ≠ k) : fh_fv (fh_sr M a k v) a j u = fh_fv M a j u := by simp [fh_fv, fh_sr, fh_u, h]
theorem fh_ne_fh_sr (M : fh_M) (a k : Nat) (v : Option Nat) (b : Nat) (h : b ≠ a) : M.1 b = (fh_sr M a k v).1 b ∧ M.2.1 b = (fh_sr M a k v).2.1 b ∧ M.2.2 b = (fh_sr M a k v).2.2 b := by
  refine ⟨?_, ?_, ?_⟩ <;> first | rfl | exact fh_u_ne h
theorem fv_putR {X : fh_X} {R : Room} {nL : Nat} {z : Nat × Nat × Nat} {K : fh_K} {M : fh_M} {pc : Nat} {lv : List (Nat × Value)} {st : List Value} {cc : ByteArray} {own : String} (C : fh_C X nL cc own) {r : Option Nat} {a index ci k : Nat} {fin : Bool} {fty : FieldType} {v : Option Nat} (hF : fh_fl own index ci k 2 false fty) (hr : r = some a) (hk : (K a).1 = ci + 1) (hn : narrow fty (va_rf v) = va_rf v ∧ fits fty (va_rf v) = true) (hd : decode cc pc = .ok (.putfield index, 3)) (kk : fh_V X R nL z K (fh_sr M a k v) (pc + 3) lv st) : fh_V X R nL z K M pc lv (va_rf v :: va_rf r :: st) := by
  obtain ⟨p, l, e, s, m, args, below, meth, c, D, A, Q⟩ := X
  subst hr
  have e0 := fh_fv_fh_sr_k M a k v
  intro H locs ls hP hz hS hA hl
  have := fh_put (M' := fh_sr M a k v) (ls := ls) (rest := st) (pc := pc) (cells := z.2.1) (slots := z.2.2) (p := p) (l := l) (e := e) (R := R) (s := s) (m := m) (args := args) (below := below) (meth := meth) (c := c) (Q := Q) C.1 C.2.1 C.2.2.2.1 C.2.2.2.2.1 C.2.2.2.2.2.1 hF (fun q => by cases q) hP hS (hA a (by omega)) hk (by rw [e0]; exact hn.1) (by rw [e0]; exact hn.2) (fh_fv_fh_sr_o M a k v) (fh_ne_fh_sr M a k v) hd (fun H1 locs1 hP1 hz1 hS1 => kk H1 locs1 ls hP1 (hz1.trans hz) hS1 hA hl)
  rw [e0] at this
  exact this
theorem fv_putFR {X : fh_X} {R : Room} {nL : Nat} {z : Nat × Nat × Nat} {K : fh_K} {M : fh_M} {pc : Nat} {lv : List (Nat × Value)} {st : List Value} {cc : ByteArray} {own : String} (C : fh_C X nL cc own) {r : Option Nat} {a index ci k : Nat} {fin : Bool} {fty : FieldType} {v : Option Nat} (hF : fh_fl own index ci k 2 true fty) (hr : r = some a) (hk : (K a).1 = ci + 1) (hcn : vwCl[ci]?.map (fun q => q.1) = some own) (hnm : X.2.2.2.2.2.2.2.1.name = "<init>") (hn : narrow fty (va_rf v) = va_rf v ∧ fits fty (va_rf v) = true) (hd : decode cc pc = .ok (.putfield index, 3)) (kk : fh_V X R nL z K (fh_sr M a k v) (pc + 3) lv st) : fh_V X R nL z K M pc lv (va_rf v :: va_rf r :: st) := by
  obtain ⟨p, l, e, s, m, args, below, meth, c, D, A, Q⟩ := X
  subst hr
  have e0 := fh_fv_fh_sr_k M a k v
  intro H locs ls hP hz hS hA hl
  have := fh_put (M' := fh_sr M a k v) (ls := ls) (rest := st) (pc := pc) (cells := z.2.1) (slots := z.2.2) (p := p) (l := l) (e := e) (R := R) (s := s) (m := m) (args := args) (below := below) (meth := meth) (c := c) (Q := Q) C.1 C.2.1 C.2.2.2.1 C.2.2.2.2.1 C.2.2.2.2.2.1 hF (fun _ => ⟨hnm, hcn⟩) hP hS (hA a (by omega)) hk (by rw [e0]; exact hn.1) (by rw [e0]; exact hn.2) (fh_fv_fh_sr_o M a k v) (fh_ne_fh_sr M a k v) hd (fun H1 locs1 hP1 hz1 hS1 => kk H1 locs1 ls hP1 (hz1.trans hz) hS1 hA hl)
  rw [e0] at this
  exact this
theorem fv_iald {X : fh_X} {R : Room} {nL : Nat} {z : Nat × Nat × Nat} {K : fh_K} {M : fh_M} {pc : Nat} {lv : List (Nat × Value)} {st : List Value} {cc : ByteArray} {own : String} (C : fh_C X nL cc own) {r : Option Nat} {a : Nat} {i : Int32} (hr : r = some a) (hk : (K a).1 = 13) (hi : vp_in i (K a).2) (hd : decode cc pc = .ok (.iaload, 1)) (kk : fh_V X R nL z K M (pc + 1) lv (.int (M.1 a i.toNatClampNeg) :: st)) : fh_V X R nL z K M pc lv (.int i :: va_rf r :: st) := by
  obtain ⟨p, l, e, s, m, args, below, meth, c, D, A, Q⟩ := X
  subst hr
  exact fun H locs ls hP hz hS hA hl => va_iald C.1 C.2.1 C.2.2.2.2.2.1.1 (fh_one hP (by omega) (fh_cell_i hk (by decide) (by decide))) 0 0 rfl rfl hi hd (kk H locs ls hP hz hS hA hl)
theorem fv_bald {X : fh_X} {R : Room} {nL : Nat} {z : Nat × Nat × Nat} {K : fh_K} {M : fh_M} {pc : Nat} {lv : List (Nat × Value)} {st : List Value} {cc : ByteArray} {own : String} (C : fh_C X nL cc own) {r : Option Nat} {a : Nat} {i : Int32} (hr : r = some a) (hk : (K a).1 = 14) (hi : vp_in i (K a).2) (hd : decode cc pc = .ok (.baload, 1)) (kk : fh_V X R nL z K M (pc + 1) lv (.int (M.1 a i.toNatClampNeg) :: st)) : fh_V X R nL z K M pc lv (.int i :: va_rf r :: st) := by
  obtain ⟨p, l, e, s, m, args, below, meth, c, D, A, Q⟩ := X
  subst hr
  exact fun H locs ls hP hz hS hA hl => va_bald C.1 C.2.1 C.2.2.2.2.2.1.1 (fh_one hP (by omega) (fh_cell_i hk (by decide) (by decide))) 0 1 rfl rfl hi hd (kk H locs ls hP hz hS hA hl)
theorem fv_zald {X : fh_X} {R : Room} {nL : Nat} {z : Nat × Nat × Nat} {K : fh_K} {M : fh_M} {pc : Nat} {lv : List (Nat × Value)} {st : List Value} {cc : ByteArray} {own : String} (C : fh_C X nL cc own) {r : Option Nat} {a : Nat} {i : Int32} (hr : r = some a) (hk : (K a).1 = 15) (hi : vp_in i (K a).2) (hd : decode cc pc = .ok (.baload, 1)) (kk : fh_V X R nL z K M (pc + 1) lv (.int (M.1 a i.toNatClampNeg) :: st)) : fh_V X R nL z K M pc lv (.int i :: va_rf r :: st) := by
  obtain ⟨p, l, e, s, m, args, below, meth, c, D, A, Q⟩ := X
  subst hr
  exact fun H locs ls hP hz hS hA hl => va_zald C.1 C.2.1 C.2.2.2.2.2.1.1 (fh_one hP (by omega) (fh_cell_i hk (by decide) (by decide))) 0 2 rfl rfl hi hd (kk H locs ls hP hz hS hA hl)
theorem fv_lald {X : fh_X} {R : Room} {nL : Nat} {z : Nat × Nat × Nat} {K : fh_K} {M : fh_M} {pc : Nat} {lv : List (Nat × Value)} {st : List Value} {cc : ByteArray} {own : String} (C : fh_C X nL cc own) {r : Option Nat} {a : Nat} {i : Int32} (hr : r = some a) (hk : (K a).1 = 16) (hi : vp_in i (K a).2) (hd : decode cc pc = .ok (.laload, 1)) (kk : fh_V X R nL z K M (pc + 1) lv (.long (M.2.1 a i.toNatClampNeg) :: st)) : fh_V X R nL z K M pc lv (.int i :: va_rf r :: st) := by
  obtain ⟨p, l, e, s, m, args, below, meth, c, D, A, Q⟩ := X
  subst hr
  exact fun H locs ls hP hz hS hA hl => va_lald C.1 C.2.1 C.2.2.2.2.2.1.1 (fh_one hP (by omega) (fh_cell_l hk)) 0 3 rfl rfl hi hd (kk H locs ls hP hz hS hA hl)
theorem fv_aald {X : fh_X} {R : Room} {nL : Nat} {z : Nat × Nat × Nat} {K : fh_K} {M : fh_M} {pc : Nat} {lv : List (Nat × Value)} {st : List Value} {cc : ByteArray} {own : String} (C : fh_C X nL cc own) {r : Option Nat} {a : Nat} {i : Int32} {t : Nat} (t0 : Nat) {Cn : String} (ht : t = t0 + 13) (ht1 : 16 < t) (hty : ∀ D : fh_D, (fh_tys D)[t0]? = some (D.2.2 t, .object Cn)) (hr : r = some a) (hk : (K a).1 = t) (hi : vp_in i (K a).2) (hd : decode cc pc = .ok (.aaload, 1)) (kk : fh_V X R nL z K M (pc + 1) lv (va_rf (M.2.2 a i.toNatClampNeg) :: st)) : fh_V X R nL z K M pc lv (.int i :: va_rf r :: st) := by
  obtain ⟨p, l, e, s, m, args, below, meth, c, D, A, Q⟩ := X
  subst hr
  exact fun H locs ls hP hz hS hA hl => va_aldq C.1 C.2.1 C.2.2.2.2.2.1.1 (fh_one hP (by omega) (fh_cell_r hk ht1)) 0 t0 rfl (hty D) hi hd (kk H locs ls hP hz hS hA hl)
theorem fv_alen {X : fh_X} {R : Room} {nL : Nat} {z : Nat × Nat × Nat} {K : fh_K} {M : fh_M} {pc : Nat} {lv : List (Nat × Value)} {st : List Value} {cc : ByteArray} {own : String} (C : fh_C X nL cc own) {r : Option Nat} {a t : Nat} (t0 : Nat) {ty : FieldType} (ht : 13 ≤ t) (hty : ∀ D : fh_D, (fh_tys D)[t0]? = some (D.2.2 t, ty)) (hr : r = some a) (hk : (K a).1 = t) (hd : decode cc pc = .ok (.arraylength, 1)) (kk : fh_V X R nL z K M (pc + 1) lv (.int (nI (K a).2) :: st)) : fh_V X R nL z K M pc lv (va_rf r :: st) := by
  obtain ⟨p, l, e, s, m, args, below, meth, c, D, A, Q⟩ := X
  subst hr
  intro H locs ls hP hz hS hA hl
  have k0 := kk H locs ls hP hz hS hA hl
  rcases Nat.lt_or_ge t 16 with h | h
  · exact va_alen C.1 C.2.1 C.2.2.2.2.2.1.1 (fh_one hP (by omega) (fh_cell_i hk ht h)) 0 t0 rfl (hty D) rfl hd k0
  · rcases Nat.lt_or_ge 16 t with h2 | h2
    · exact va_alen C.1 C.2.1 C.2.2.2.2.2.1.1 (fh_one hP (by omega) (fh_cell_r hk h2)) 0 t0 rfl (hty D) rfl hd k0
    · obtain rfl : t = 16 := by omega
      exact va_alen C.1 C.2.1 C.2.2.2.2.2.1.1 (fh_one hP (by omega) (fh_cell_l hk)) 0 t0 rfl (hty D) rfl hd k0
theorem fh_si_row (M : fh_M) (a k : Nat) (v : Int32) : (fh_si M a k v).1 a = upd (M.1 a) k v := by funext j; simp [fh_si, fh_u, upd]
theorem fh_sl_row (M : fh_M) (a k : Nat) (v : Int64) : (fh_sl M a k v).2.1 a = vp_updL (M.2.1 a) k v := by funext j; simp [fh_sl, fh_u, vp_updL]
theorem fh_sr_row (M : fh_M) (a k : Nat) (v : Option Nat) : (fh_sr M a k v).2.2 a = va_up (M.2.2 a) k v := by funext j; simp [fh_sr, fh_u, va_up]
theorem fv_iast {X : fh_X} {R : Room} {nL : Nat} {z : Nat × Nat × Nat} {K : fh_K} {M : fh_M} {pc : Nat} {lv : List (Nat × Value)} {st : List Value} {cc : ByteArray} {own : String} (C : fh_C X nL cc own) {r : Option Nat} {a : Nat} {i : Int32} {x : Int32} (hr : r = some a) (hk : (K a).1 = 13) (hi : vp_in i (K a).2) (hd : decode cc pc = .ok (.iastore, 1)) (kk : fh_V X R nL z K (fh_si M a i.toNatClampNeg x) (pc + 1) lv st) : fh_V X R nL z K M pc lv (.int x :: .int i :: va_rf r :: st) := by
  obtain ⟨p, l, e, s, m, args, below, meth, c, D, A, Q⟩ := X
  subst hr
  intro H locs ls hP hz hS hA hl
  have hcell := hP a (by omega)
  rw [fh_cell_i hk (by decide) (by decide)] at hcell
  refine W.iast C.1 C.2.1 (rest := st) hcell ((C.2.2.2.2.2.1.1.2 0 _ rfl).1 (K a).2 (fun j => .int (M.1 a j))) (fun q => by cases q) (by show ¬ (i < 0 ∨ (arrV _ _ _).slots.size ≤ _); rw [arrV_size]; exact hi) rfl rfl hd fun H1 e0 z0 oq => ?_
  refine kk H1 _ ls (fh_P_write hP ?_ oq (fh_ne_fh_si M a _ _)) (z0.trans hz) (hS.put z0 oq (hA a (by omega))) hA hl
  rw [fh_cell_i hk (by decide) (by decide), fh_si_row]
  show H1[a]? = some (vp_cell _ _)
  rw [e0, vp_cell_i, vp_cell_i, arrV_store]
  congr 2
  funext q
  by_cases hq : q = i.toNatClampNeg
  · subst hq
    simp [updV, upd, vp_nar]
    try rfl
  · simp [updV, upd, hq]
theorem fv_bast {X : fh_X} {R : Room} {nL : Nat} {z : Nat × Nat × Nat} {K : fh_K} {M : fh_M} {pc : Nat} {lv : List (Nat × Value)} {st : List Value} {cc : ByteArray} {own : String} (C : fh_C X nL cc own) {r : Option Nat} {a : Nat} {i : Int32} {x : Int32} (hr : r = some a) (hk : (K a).1 = 14) (hi : vp_in i (K a).2) (hd : decode cc pc = .ok (.bastore, 1)) (kk : fh_V X R nL z K (fh_si M a i.toNatClampNeg (vp_nar .byte x)) (pc + 1) lv st) : fh_V X R nL z K M pc lv (.int x :: .int i :: va_rf r :: st) := by
  obtain ⟨p, l, e, s, m, args, below, meth, c, D, A, Q⟩ := X
  subst hr
  intro H locs ls hP hz hS hA hl
  have hcell := hP a (by omega)
  rw [fh_cell_i hk (by decide) (by decide)] at hcell
  refine W.bast C.1 C.2.1 (rest := st) hcell ((C.2.2.2.2.2.1.1.2 1 _ rfl).1 (K a).2 (fun j => .int (M.1 a j))) (fun q => by cases q) (by show ¬ (i < 0 ∨ (arrV _ _ _).slots.size ≤ _); rw [arrV_size]; exact hi) rfl rfl hd fun H1 e0 z0 oq => ?_
  refine kk H1 _ ls (fh_P_write hP ?_ oq (fh_ne_fh_si M a _ _)) (z0.trans hz) (hS.put z0 oq (hA a (by omega))) hA hl
  rw [fh_cell_i hk (by decide) (by decide), fh_si_row]
  show H1[a]? = some (vp_cell _ _)
  rw [e0, vp_cell_i, vp_cell_i, arrV_store]
  congr 2
  funext q
  by_cases hq : q = i.toNatClampNeg
  · subst hq
    simp [updV, upd, vp_nar]
    try rfl
  · simp [updV, upd, hq]
theorem fv_zast {X : fh_X} {R : Room} {nL : Nat} {z : Nat × Nat × Nat} {K : fh_K} {M : fh_M} {pc : Nat} {lv : List (Nat × Value)} {st : List Value} {cc : ByteArray} {own : String} (C : fh_C X nL cc own) {r : Option Nat} {a : Nat} {i : Int32} {x : Int32} (hr : r = some a) (hk : (K a).1 = 15) (hi : vp_in i (K a).2) (hd : decode cc pc = .ok (.bastore, 1)) (kk : fh_V X R nL z K (fh_si M a i.toNatClampNeg (vp_nar .boolean x)) (pc + 1) lv st) : fh_V X R nL z K M pc lv (.int x :: .int i :: va_rf r :: st) := by
  obtain ⟨p, l, e, s, m, args, below, meth, c, D, A, Q⟩ := X
  subst hr
  intro H locs ls hP hz hS hA hl
  have hcell := hP a (by omega)
  rw [fh_cell_i hk (by decide) (by decide)] at hcell
  refine W.zast C.1 C.2.1 (rest := st) hcell ((C.2.2.2.2.2.1.1.2 2 _ rfl).1 (K a).2 (fun j => .int (M.1 a j))) (fun q => by cases q) (by show ¬ (i < 0 ∨ (arrV _ _ _).slots.size ≤ _); rw [arrV_size]; exact hi) rfl rfl hd fun H1 e0 z0 oq => ?_
  refine kk H1 _ ls (fh_P_write hP ?_ oq (fh_ne_fh_si M a _ _)) (z0.trans hz) (hS.put z0 oq (hA a (by omega))) hA hl
  rw [fh_cell_i hk (by decide) (by decide), fh_si_row]
  show H1[a]? = some (vp_cell _ _)
  rw [e0, vp_cell_i, vp_cell_i, arrV_store]
  congr 2
  funext q
  by_cases hq : q = i.toNatClampNeg
  · subst hq
    simp [updV, upd, vp_nar]
    try rfl
  · simp [updV, upd, hq]
theorem fv_last {X : fh_X} {R : Room} {nL : Nat} {z : Nat × Nat × Nat} {K : fh_K} {M : fh_M} {pc : Nat} {lv : List (Nat × Value)} {st : List Value} {cc : ByteArray} {own : String} (C : fh_C X nL cc own) {r : Option Nat} {a : Nat} {i : Int32} {x : Int64} (hr : r = some a) (hk : (K a).1 = 16) (hi : vp_in i (K a).2) (hd : decode cc pc = .ok (.lastore, 1)) (kk : fh_V X R nL z K (fh_sl M a i.toNatClampNeg x) (pc + 1) lv st) : fh_V X R nL z K M pc lv (.long x :: .int i :: va_rf r :: st) := by
  obtain ⟨p, l, e, s, m, args, below, meth, c, D, A, Q⟩ := X
  subst hr
  intro H locs ls hP hz hS hA hl
  have hcell := hP a (by omega)
  rw [fh_cell_l hk] at hcell
  refine W.last C.1 C.2.1 (rest := st) hcell ((C.2.2.2.2.2.1.1.2 3 _ rfl).1 (K a).2 (fun j => .long (M.2.1 a j))) (fun q => by cases q) (by show ¬ (i < 0 ∨ (arrV _ _ _).slots.size ≤ _); rw [arrV_size]; exact hi) rfl rfl hd fun H1 e0 z0 oq => ?_
  refine kk H1 _ ls (fh_P_write hP ?_ oq (fh_ne_fh_sl M a _ _)) (z0.trans hz) (hS.put z0 oq (hA a (by omega))) hA hl
  rw [fh_cell_l hk, fh_sl_row]
  show H1[a]? = some (vp_cell _ _)
  rw [e0, vp_cell_l, vp_cell_l, arrV_store]
  congr 2
  funext q
  by_cases hq : q = i.toNatClampNeg
  · subst hq
    simp [updV, vp_updL]
  · simp [updV, vp_updL, hq]
