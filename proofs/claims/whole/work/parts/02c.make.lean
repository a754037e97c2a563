theorem fv_aast {X : fh_X} {R : Room} {nL : Nat} {z : Nat × Nat × Nat} {K : fh_K} {M : fh_M} {pc : Nat} {lv : List (Nat × Value)} {st : List Value} {cc : ByteArray} {own : String} (C : fh_C X nL cc own) {r : Option Nat} {a v ci t : Nat} {i : Int32} {q : vw_C} (t0 : Nat) (ht1 : 16 < t) (hc : vwCl[ci]? = some q) (hci : ci < 12) (hty : ∀ D : fh_D, (fh_tys D)[t0]? = some (D.2.2 t, .object q.1)) (hr : r = some a) (hk : (K a).1 = t) (hi : vp_in i (K a).2) (hv : (K v).1 = ci + 1) (hd : decode cc pc = .ok (.aastore, 1)) (kk : fh_V X R nL z K (fh_sr M a i.toNatClampNeg (some v)) (pc + 1) lv st) : fh_V X R nL z K M pc lv (va_rf (some v) :: .int i :: va_rf r :: st) := by
  obtain ⟨p, l, e, s, m, args, below, meth, c, D, A, Q⟩ := X
  subst hr
  intro H locs ls hP hz hS hA hl
  have hK := C.2.2.2.2.2.1.1
  have hlt : i.toNatClampNeg < (K a).2 := Nat.not_le.mp fun q => hi (Or.inr q)
  have h0 : ¬ i < 0 := fun q => hi (Or.inl q)
  have hcell := hP a (by omega)
  rw [fh_cell_r hk ht1] at hcell
  have hcv := hP v (by omega)
  rw [fh_cell_o hv hci] at hcv
  obtain ⟨r', hr', cellV, g1, g2, g3, -⟩ := hcv
  have hcls := (hK.1 ci q hc).2
  obtain ⟨kA, comp, k1, k2, k3, -⟩ := (hK.2 t0 _ (hty D)).2
  have hcomp : comp = D.1 ci := Option.some.inj (k3.symm.trans hcls.1)
  subst hcomp
  obtain ⟨kC, hkC, -⟩ := hcls.2
  refine W.aast C.1 C.2.1 (rest := st) hcell (fun q h => by cases h) (fun h => by cases h) k1 k2 rfl hkC ⟨h0, by show _ < (arrV _ _ _).slots.size; rw [arrV_size]; exact hlt⟩ g1 (fun q h => by rw [g3] at h; cases h) (by rw [g2]; exact hkC) (by rw [g2]; exact va_assign hcls) rfl rfl hd fun H1 e0 z0 oq => ?_
  refine kk H1 _ ls (fh_P_write hP ?_ oq (fh_ne_fh_sr M a _ _)) (z0.trans hz) (hS.put z0 oq (hA a (by omega))) hA hl
  rw [fh_cell_r hk ht1, fh_sr_row]
  show H1[a]? = some (vp_cell _ _)
  rw [e0, vp_cell_q, vp_cell_q, arrV_store]
  congr 2
  funext q
  by_cases hq : q = i.toNatClampNeg
  · subst hq
    simp [updV, va_up, va_rf]
  · simp [updV, va_up, hq]
/-- a cell more, at the heap's end -/
theorem fh_P_push {D : fh_D} {K : fh_K} {M : fh_M} {H H1 : Heap} {q : Nat × Nat} (hP : fh_P D K M H) (h1 : va_at (D.1, D.2.1) vwCl (H.size, fh_cell D (fh_uk K H.size q) (fh_clr M H.size) H.size) H1) (ho : ∀ x : Nat, x < H.size → H1[x]? = H[x]?) : fh_P D (fh_uk K H.size q) (fh_clr M H.size) H1 := by
  intro b hb
  by_cases e : b = H.size
  · subst e; exact h1
  · have hKb : fh_uk K H.size q b = K b := by simp [fh_uk, e]
    rw [hKb] at hb
    have hlt := (hP b hb).lt
    have hce : fh_cell D (fh_uk K H.size q) (fh_clr M H.size) b = fh_cell D K M b := by
      have h2 : fh_cell D (fh_uk K H.size q) (fh_clr M H.size) b = fh_cell D K (fh_clr M H.size) b := by unfold fh_cell; rw [hKb]
      rw [h2]
      exact (fh_cell_congr ⟨fh_r_ne e, fh_r_ne e, fh_r_ne e⟩).symm
    rw [hce]
    exact (hP b hb).kept (ho b hlt)
theorem fh_S_push {A : Nat → Prop} {H0 H H1 : Heap} {locs : List Loc} (hS : va_S A H0 H locs) (z1 : H1.size = H.size + 1) (o1 : ∀ x : Nat, x < H.size → H1[x]? = H[x]?) : va_S A H0 H1 locs := ⟨Nat.le_trans hS.1 (by omega), fun x h1 h2 => (o1 x (Nat.lt_of_lt_of_le h1 hS.1)).trans (hS.2.1 x h1 h2), hS.2.2⟩
theorem fh_A_push {A : Nat → Prop} {K : fh_K} {n : Nat} {q : Nat × Nat} (hA : ∀ a, (K a).1 ≠ 0 → A a) (hn : A n) : ∀ a, (fh_uk K n q a).1 ≠ 0 → A a := by
  intro a ha
  by_cases e : a = n
  · subst e; exact hn
  · exact hA a (by simpa [fh_uk, e] using ha)
def fh_cl (own : String) (index ci N : Nat) : Prop := ∃ (Cn : String) (T : u_T) (ty : Nat → FieldType), vwCl[ci]? = some (Cn, T, N) ∧ (∀ w ∈ u_ws Cn T N, w ∈ fh_W) ∧ (∀ k, k < N → parseFieldDescriptor (T k).2.2.1 = some (ty k)) ∧ ci < 12 ∧ (fh_tab.getD ci []).length = N ∧ (∀ k, k < N → (defaultValue (ty k) = .int 0 ∧ (fh_tab.getD ci [])[k]? = some 0) ∨ (defaultValue (ty k) = .long 0 ∧ (fh_tab.getD ci [])[k]? = some 1) ∨ (defaultValue (ty k) = .null ∧ (fh_tab.getD ci [])[k]? = some 2)) ∧ Cond.classLink own index Cn ∈ fh_W ∧ Cond.instantiable Cn N ∈ fh_W ∧ Cond.initialized Cn ∈ fh_W
theorem fv_new {X : fh_X} {R : Room} {nL : Nat} {z : Nat × Nat × Nat} {K : fh_K} {M : fh_M} {pc : Nat} {lv : List (Nat × Value)} {st : List Value} {cc : ByteArray} {own : String} (C : fh_C X nL cc own) {index ci N : Nat} (hF : fh_cl own index ci N) (hcells : z.2.1 + 1 ≤ R.cells) (hslots : z.2.2 + N ≤ R.slots) (hd : decode cc pc = .ok (.new index, 3)) (kk : fh_V X R nL (z.1 + 1, z.2.1 + 1, z.2.2 + N) (fh_uk K z.1 (ci + 1, 0)) (fh_clr M z.1) (pc + 3) lv (va_rf (some z.1) :: st)) : fh_V X R nL z K M pc lv st := by
  obtain ⟨p, l, e, s, m, args, below, meth, c, D, A, Q⟩ := X
  obtain ⟨Cn, T, ty, h1, h2, h3, h4, h5, h6, h7, h8, h9⟩ := hF
  intro H locs ls hP hz hS hA hl
  have hts := C.2.2.2.2.1
  have hKn := C.2.2.2.2.2.1.1.1 ci _ h1
  refine W.newcK C.1 C.2.1 C.2.2.2.1 (hts _ h7) (hts _ h8) (hts _ h9) rfl hd hcells hslots hKn.2.1 hz fun H1 kC hkC e1 z1 o1 => ?_
  obtain ⟨zs, zc, zl⟩ := z
  have hz : H.size = zs := hz
  subst hz
  have hAn := C.2.2.2.2.2.2.2 H.size hS.1
  refine kk H1 locs ls (fh_P_push hP ?_ o1) z1 (fh_S_push hS z1 o1) (fh_A_push hA hAn) hl
  rw [fh_cell_o (ci := ci) (by simp [fh_uk]) h4]
  refine ⟨_, h1, (u_born ty hts h2 hKn hkC e1 h3).to (fun j hj => ?_)⟩
  unfold vp_V
  rw [List.getD_eq_getElem?_getD]
  rcases h6 j hj with ⟨d1, d2⟩ | ⟨d1, d2⟩ | ⟨d1, d2⟩
  · rw [fh_fs_get d2, d1]; simp [fh_fv, fh_clr, fh_r]
  · rw [fh_fs_get d2, d1]; simp [fh_fv, fh_clr, fh_r]
  · rw [fh_fs_get d2, d1]; simp [fh_fv, fh_clr, fh_r, va_rf]
theorem fv_newI {X : fh_X} {R : Room} {nL : Nat} {z : Nat × Nat × Nat} {K : fh_K} {M : fh_M} {pc : Nat} {lv : List (Nat × Value)} {st : List Value} {cc : ByteArray} {own : String} (C : fh_C X nL cc own) {n : Int32} {N : Nat} (hw : Cond.arrayClass .int ∈ fh_W) (hn : ¬ n < 0) (hN : n.toNatClampNeg = N) (hb : N ≤ 10000) (hcells : z.2.1 + 1 ≤ R.cells) (hslots : z.2.2 + N ≤ R.slots) (hd : decode cc pc = .ok (.newarray .int, 2)) (kk : fh_V X R nL (z.1 + 1, z.2.1 + 1, z.2.2 + N) (fh_uk K z.1 (13, N)) (fh_clr M z.1) (pc + 2) lv (va_rf (some z.1) :: st)) : fh_V X R nL z K M pc lv (.int n :: st) := by
  obtain ⟨p, l, e, s, m, args, below, meth, c, D, A, Q⟩ := X
  intro H locs ls hP hz hS hA hl
  have hts := C.2.2.2.2.1
  refine va_newaK (atype := .int) C.1 C.2.1 (hts _ hw) rfl hd (rest := st) rfl hn hN (by show N * _ ≤ 536870912; simp only [newarray.typeOf, componentBytes]; omega) hcells hslots hz fun H1 cA e1 z1 o1 hAr hNm => ?_
  obtain ⟨zs, zc, zl⟩ := z
  have hz : H.size = zs := hz
  subst hz
  have hcA : cA = D.2.2 13 := Option.some.inj (hNm.symm.trans (C.2.2.2.2.2.1.1.2 0 _ rfl).2)
  subst hcA
  have hAn := C.2.2.2.2.2.2.2 H.size hS.1
  refine kk H1 locs ls (fh_P_push hP ?_ o1) z1 (fh_S_push hS z1 o1) (fh_A_push hA hAn) hl
  rw [fh_cell_i (t := 13) (by simp [fh_uk]) (by decide) (by decide)]
  show H1[H.size]? = some (vp_cell _ _)
  rw [e1]
  simp [fh_uk, fh_clr, fh_r, vp_cell_i, newarray.typeOf, defaultValue]
theorem fv_newB {X : fh_X} {R : Room} {nL : Nat} {z : Nat × Nat × Nat} {K : fh_K} {M : fh_M} {pc : Nat} {lv : List (Nat × Value)} {st : List Value} {cc : ByteArray} {own : String} (C : fh_C X nL cc own) {n : Int32} {N : Nat} (hw : Cond.arrayClass .byte ∈ fh_W) (hn : ¬ n < 0) (hN : n.toNatClampNeg = N) (hb : N ≤ 10000) (hcells : z.2.1 + 1 ≤ R.cells) (hslots : z.2.2 + N ≤ R.slots) (hd : decode cc pc = .ok (.newarray .byte, 2)) (kk : fh_V X R nL (z.1 + 1, z.2.1 + 1, z.2.2 + N) (fh_uk K z.1 (14, N)) (fh_clr M z.1) (pc + 2) lv (va_rf (some z.1) :: st)) : fh_V X R nL z K M pc lv (.int n :: st) := by
  obtain ⟨p, l, e, s, m, args, below, meth, c, D, A, Q⟩ := X
  intro H locs ls hP hz hS hA hl
  have hts := C.2.2.2.2.1
  refine va_newaK (atype := .byte) C.1 C.2.1 (hts _ hw) rfl hd (rest := st) rfl hn hN (by show N * _ ≤ 536870912; simp only [newarray.typeOf, componentBytes]; omega) hcells hslots hz fun H1 cA e1 z1 o1 hAr hNm => ?_
  obtain ⟨zs, zc, zl⟩ := z
  have hz : H.size = zs := hz
  subst hz
  have hcA : cA = D.2.2 14 := Option.some.inj (hNm.symm.trans (C.2.2.2.2.2.1.1.2 1 _ rfl).2)
  subst hcA
  have hAn := C.2.2.2.2.2.2.2 H.size hS.1
  refine kk H1 locs ls (fh_P_push hP ?_ o1) z1 (fh_S_push hS z1 o1) (fh_A_push hA hAn) hl
  rw [fh_cell_i (t := 14) (by simp [fh_uk]) (by decide) (by decide)]
  show H1[H.size]? = some (vp_cell _ _)
  rw [e1]
  simp [fh_uk, fh_clr, fh_r, vp_cell_i, newarray.typeOf, defaultValue]
theorem fv_newZ {X : fh_X} {R : Room} {nL : Nat} {z : Nat × Nat × Nat} {K : fh_K} {M : fh_M} {pc : Nat} {lv : List (Nat × Value)} {st : List Value} {cc : ByteArray} {own : String} (C : fh_C X nL cc own) {n : Int32} {N : Nat} (hw : Cond.arrayClass .boolean ∈ fh_W) (hn : ¬ n < 0) (hN : n.toNatClampNeg = N) (hb : N ≤ 10000) (hcells : z.2.1 + 1 ≤ R.cells) (hslots : z.2.2 + N ≤ R.slots) (hd : decode cc pc = .ok (.newarray .boolean, 2)) (kk : fh_V X R nL (z.1 + 1, z.2.1 + 1, z.2.2 + N) (fh_uk K z.1 (15, N)) (fh_clr M z.1) (pc + 2) lv (va_rf (some z.1) :: st)) : fh_V X R nL z K M pc lv (.int n :: st) := by
  obtain ⟨p, l, e, s, m, args, below, meth, c, D, A, Q⟩ := X
  intro H locs ls hP hz hS hA hl
  have hts := C.2.2.2.2.1
  refine va_newaK (atype := .boolean) C.1 C.2.1 (hts _ hw) rfl hd (rest := st) rfl hn hN (by show N * _ ≤ 536870912; simp only [newarray.typeOf, componentBytes]; omega) hcells hslots hz fun H1 cA e1 z1 o1 hAr hNm => ?_
  obtain ⟨zs, zc, zl⟩ := z
  have hz : H.size = zs := hz
  subst hz
  have hcA : cA = D.2.2 15 := Option.some.inj (hNm.symm.trans (C.2.2.2.2.2.1.1.2 2 _ rfl).2)
  subst hcA
  have hAn := C.2.2.2.2.2.2.2 H.size hS.1
  refine kk H1 locs ls (fh_P_push hP ?_ o1) z1 (fh_S_push hS z1 o1) (fh_A_push hA hAn) hl
  rw [fh_cell_i (t := 15) (by simp [fh_uk]) (by decide) (by decide)]
  show H1[H.size]? = some (vp_cell _ _)
  rw [e1]
  simp [fh_uk, fh_clr, fh_r, vp_cell_i, newarray.typeOf, defaultValue]
theorem fv_newJ {X : fh_X} {R : Room} {nL : Nat} {z : Nat × Nat × Nat} {K : fh_K} {M : fh_M} {pc : Nat} {lv : List (Nat × Value)} {st : List Value} {cc : ByteArray} {own : String} (C : fh_C X nL cc own) {n : Int32} {N : Nat} (hw : Cond.arrayClass .long ∈ fh_W) (hn : ¬ n < 0) (hN : n.toNatClampNeg = N) (hb : N ≤ 10000) (hcells : z.2.1 + 1 ≤ R.cells) (hslots : z.2.2 + N ≤ R.slots) (hd : decode cc pc = .ok (.newarray .long, 2)) (kk : fh_V X R nL (z.1 + 1, z.2.1 + 1, z.2.2 + N) (fh_uk K z.1 (16, N)) (fh_clr M z.1) (pc + 2) lv (va_rf (some z.1) :: st)) : fh_V X R nL z K M pc lv (.int n :: st) := by
  obtain ⟨p, l, e, s, m, args, below, meth, c, D, A, Q⟩ := X
  intro H locs ls hP hz hS hA hl
  have hts := C.2.2.2.2.1
  refine va_newaK (atype := .long) C.1 C.2.1 (hts _ hw) rfl hd (rest := st) rfl hn hN (by show N * _ ≤ 536870912; simp only [newarray.typeOf, componentBytes]; omega) hcells hslots hz fun H1 cA e1 z1 o1 hAr hNm => ?_
  obtain ⟨zs, zc, zl⟩ := z
  have hz : H.size = zs := hz
  subst hz
  have hcA : cA = D.2.2 16 := Option.some.inj (hNm.symm.trans (C.2.2.2.2.2.1.1.2 3 _ rfl).2)
  subst hcA
  have hAn := C.2.2.2.2.2.2.2 H.size hS.1
  refine kk H1 locs ls (fh_P_push hP ?_ o1) z1 (fh_S_push hS z1 o1) (fh_A_push hA hAn) hl
  rw [fh_cell_l (by simp [fh_uk])]
  show H1[H.size]? = some (vp_cell _ _)
  rw [e1]
  simp [fh_uk, fh_clr, fh_r, vp_cell_l, newarray.typeOf, defaultValue]
theorem fv_newQ {X : fh_X} {R : Room} {nL : Nat} {z : Nat × Nat × Nat} {K : fh_K} {M : fh_M} {pc : Nat} {lv : List (Nat × Value)} {st : List Value} {cc : ByteArray} {own : String} (C : fh_C X nL cc own) {n : Int32} {N index t : Nat} {Cn : String} (t0 : Nat) (ht1 : 16 < t) (hty : ∀ D : fh_D, (fh_tys D)[t0]? = some (D.2.2 t, .object Cn)) (hAO : ∀ D U, fh_Ks D U → va_AO Cn U) (hw : Cond.classLink own index Cn ∈ fh_W) (hn : ¬ n < 0) (hN : n.toNatClampNeg = N) (hb : N ≤ 10000) (hcells : z.2.1 + 1 ≤ R.cells) (hslots : z.2.2 + N ≤ R.slots) (hd : decode cc pc = .ok (.anewarray index, 3)) (kk : fh_V X R nL (z.1 + 1, z.2.1 + 1, z.2.2 + N) (fh_uk K z.1 (t, N)) (fh_clr M z.1) (pc + 3) lv (va_rf (some z.1) :: st)) : fh_V X R nL z K M pc lv (.int n :: st) := by
  obtain ⟨p, l, e, s, m, args, below, meth, c, D, A, Q⟩ := X
  intro H locs ls hP hz hS hA hl
  have hts := C.2.2.2.2.1
  subst hN
  refine W.anew C.1 C.2.1 C.2.2.2.1 (hts _ hw) (va_AO.use (hAO D s C.2.2.2.2.2.1)) rfl hd (rest := st) rfl hn (by omega) hcells hslots fun cA kA comp f1 f2 f3 f4 => ?_
  obtain ⟨zs, zc, zl⟩ := z
  have hz : H.size = zs := hz
  subst hz
  have hcA : cA = D.2.2 t := by
    obtain ⟨_, _, _, _, _, q⟩ := (C.2.2.2.2.2.1.1.2 t0 _ (hty D)).2
    exact Option.some.inj (f1.symm.trans q)
  subst hcA
  generalize hH1 : H.push ({ cls := D.2.2 t, slots := Array.replicate n.toNatClampNeg .null, vm := .none } : Cell) = H1
  have z1 : H1.size = H.size + 1 := by rw [← hH1, Array.size_push]
  have e1 : H1[H.size]? = some (arrV (D.2.2 t) n.toNatClampNeg (fun _ => .null)) := by rw [← hH1, Array.getElem?_push_size, ← arrV_new]
  have o1 : ∀ q : Nat, q < H.size → H1[q]? = H[q]? := fun q hq => by rw [← hH1, Array.getElem?_push, if_neg (Nat.ne_of_lt hq)]
  have hAn := C.2.2.2.2.2.2.2 H.size hS.1
  refine kk H1 locs ls (fh_P_push hP ?_ o1) z1 (fh_S_push hS z1 o1) (fh_A_push hA hAn) hl
  rw [fh_cell_r (t := t) (by simp [fh_uk]) ht1]
  show H1[H.size]? = some (vp_cell _ _)
  rw [e1]
  simp [fh_uk, fh_clr, fh_r, vp_cell_q, va_rf]
