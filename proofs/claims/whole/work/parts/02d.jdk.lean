theorem fv_max {X : fh_X} {R : Room} {nL : Nat} {z : Nat × Nat × Nat} {K : fh_K} {M : fh_M} {pc : Nat} {lv : List (Nat × Value)} {st : List Value} {cc : ByteArray} {own : String} (C : fh_C X nL cc own) {index : Nat} {x y : Int32} (h1 : Cond.methodLink own index Lib.Math.max.name ∈ fh_W) (h2 : Cond.static Lib.Math.max.name ∈ fh_W) (h3 : Cond.initialized "java/lang/Math" ∈ fh_W) (h4 : Cond.code Lib.Math.max.name Lib.Math.max.code 2 (some .int) ∈ fh_W) (hf : 1 ≤ R.frames) (hlo : (st.map fun v => v.category).sum + 13 ≤ R.locals) (hc : z.2.1 ≤ R.cells) (hs : z.2.2 ≤ R.slots) (hd : decode cc pc = .ok (.invokestatic index, 3)) (k : fh_V X R nL z K M (pc + 3) lv (.int (if x < y then y else x) :: st)) : fh_V X R nL z K M pc lv (.int y :: .int x :: st) := by
  obtain ⟨p, l, e, s, m, args, below, meth, c, D, A, Q⟩ := X
  have hts := C.2.2.2.2.1
  exact fun H locs ls hP hz hS hA hl => va_mmax C.1 C.2.1 (C.2.2.1.trans hl.1.symm) C.2.2.2.1 (hts _ h1) (hts _ h2) (hts _ h3) (hts _ h4) hf hlo hc hs hd (k H locs ls hP hz hS hA hl)
theorem fv_min {X : fh_X} {R : Room} {nL : Nat} {z : Nat × Nat × Nat} {K : fh_K} {M : fh_M} {pc : Nat} {lv : List (Nat × Value)} {st : List Value} {cc : ByteArray} {own : String} (C : fh_C X nL cc own) {index : Nat} {x y : Int32} (h1 : Cond.methodLink own index Lib.Math.min.name ∈ fh_W) (h2 : Cond.static Lib.Math.min.name ∈ fh_W) (h3 : Cond.initialized "java/lang/Math" ∈ fh_W) (h4 : Cond.code Lib.Math.min.name Lib.Math.min.code 2 (some .int) ∈ fh_W) (hf : 1 ≤ R.frames) (hlo : (st.map fun v => v.category).sum + 13 ≤ R.locals) (hc : z.2.1 ≤ R.cells) (hs : z.2.2 ≤ R.slots) (hd : decode cc pc = .ok (.invokestatic index, 3)) (k : fh_V X R nL z K M (pc + 3) lv (.int (if y < x then y else x) :: st)) : fh_V X R nL z K M pc lv (.int y :: .int x :: st) := by
  obtain ⟨p, l, e, s, m, args, below, meth, c, D, A, Q⟩ := X
  have hts := C.2.2.2.2.1
  exact fun H locs ls hP hz hS hA hl => va_mmin C.1 C.2.1 (C.2.2.1.trans hl.1.symm) C.2.2.2.1 (hts _ h1) (hts _ h2) (hts _ h3) (hts _ h4) hf hlo hc hs hd (k H locs ls hP hz hS hA hl)
theorem fv_minL {X : fh_X} {R : Room} {nL : Nat} {z : Nat × Nat × Nat} {K : fh_K} {M : fh_M} {pc : Nat} {lv : List (Nat × Value)} {st : List Value} {cc : ByteArray} {own : String} (C : fh_C X nL cc own) {index : Nat} {x y : Int64} (h1 : Cond.methodLink own index Lib.MathLoose.min_long.x ∈ fh_W) (h2 : Cond.static Lib.MathLoose.min_long.x ∈ fh_W) (h3 : Cond.initialized "java/lang/Math" ∈ fh_W) (h4 : Cond.code Lib.MathLoose.min_long.x Lib.MathLoose.min_long.code 4 (some .long) ∈ fh_W) (hf : 1 ≤ R.frames) (hlo : (st.map fun v => v.category).sum + 15 ≤ R.locals) (hc : z.2.1 ≤ R.cells) (hs : z.2.2 ≤ R.slots) (hd : decode cc pc = .ok (.invokestatic index, 3)) (k : fh_V X R nL z K M (pc + 3) lv (.long (if y < x then y else x) :: st)) : fh_V X R nL z K M pc lv (.long y :: .long x :: st) := by
  obtain ⟨p, l, e, s, m, args, below, meth, c, D, A, Q⟩ := X
  have hts := C.2.2.2.2.1
  exact fun H locs ls hP hz hS hA hl => va_mmin_long C.1 C.2.1 (C.2.2.1.trans hl.1.symm) C.2.2.2.1 (hts _ h1) (hts _ h2) (hts _ h3) (hts _ h4) hf hlo hc hs hd (k H locs ls hP hz hS hA hl)
theorem fv_objInit {X : fh_X} {R : Room} {nL : Nat} {z : Nat × Nat × Nat} {K : fh_K} {M : fh_M} {pc : Nat} {lv : List (Nat × Value)} {st : List Value} {cc : ByteArray} {own : String} (C : fh_C X nL cc own) {index a : Nat} (h1 : Cond.methodLink own index objectInit ∈ fh_W) (h2 : Cond.instanceMethod objectInit ∈ fh_W) (h3 : Cond.code objectInit ⟨#[0xb1]⟩ 1 none ∈ fh_W) (hf : 1 ≤ R.frames) (hlo : (st.map fun v => v.category).sum + 12 ≤ R.locals) (hd : decode cc pc = .ok (.invokespecial index, 3)) (k : fh_V X R nL z K M (pc + 3) lv st) : fh_V X R nL z K M pc lv (va_rf (some a) :: st) := by
  obtain ⟨p, l, e, s, m, args, below, meth, c, D, A, Q⟩ := X
  have hts := C.2.2.2.2.1
  exact fun H locs ls hP hz hS hA hl => W.objInit C.1 C.2.1 C.2.2.2.1 (hts _ h1) (hts _ h2) (hts _ h3) (g := F0 m pc ls (.ref a :: st)) (rest := st) rfl (hl.1.trans C.2.2.1.symm) rfl hd hf (by show 2 * 0 + _ + 12 ≤ _; omega) (k H locs ls hP hz hS hA hl)
theorem fh_nn (x : Int32) (hx : ¬ x < 0) : x.toInt = (x.toNatClampNeg : Int) := by
  have h0 : (0 : Int) ≤ x.toInt := by
    have := Int32.not_lt.mp hx
    simpa using Int32.le_iff_toInt_le.mp this
  show x.toInt = ((x.toInt.toNat : Nat) : Int)
  omega
theorem fh_ne_ri (M : fh_M) (a : Nat) (g : Nat → Int32) (b : Nat) (h : b ≠ a) : M.1 b = (fh_ri M a g).1 b ∧ M.2.1 b = (fh_ri M a g).2.1 b ∧ M.2.2 b = (fh_ri M a g).2.2 b := ⟨fh_r_ne h, rfl, rfl⟩
theorem fh_ri_row (M : fh_M) (a : Nat) (g : Nat → Int32) : (fh_ri M a g).1 a = g := by funext j; simp [fh_ri, fh_r]
theorem fv_copy {X : fh_X} {R : Room} {nL : Nat} {z : Nat × Nat × Nat} {K : fh_K} {M : fh_M} {pc : Nat} {lv : List (Nat × Value)} {st : List Value} {cc : ByteArray} {own : String} (C : fh_C X nL cc own) {index a a0 : Nat} {r r0 : Option Nat} {sp dp n : Int32} (h1 : Cond.methodLink own index arraycopyName ∈ fh_W) (h2 : Cond.native arraycopyName ∈ fh_W) (h3 : Cond.static arraycopyName ∈ fh_W) (h4 : Cond.initialized "java/lang/System" ∈ fh_W) (hr0 : r0 = some a0) (hr : r = some a) (hk0 : (K a0).1 = 13) (hk : (K a).1 = 13) (g1 : ¬ sp < 0) (g2 : ¬ dp < 0) (g3 : ¬ n < 0) (g4 : sp.toNatClampNeg + n.toNatClampNeg ≤ (K a0).2) (g5 : dp.toNatClampNeg + n.toNatClampNeg ≤ (K a).2) (hf : 1 ≤ R.frames) (hlo : (st.map fun v => v.category).sum + (nativeFrameWords "java/lang/System" "arraycopy" 5 + 11) ≤ R.locals) (hd : decode cc pc = .ok (.invokestatic index, 3)) (k : fh_V X R nL z K (fh_ri M a (va_cpy (M.1 a0) (M.1 a) sp.toNatClampNeg dp.toNatClampNeg n.toNatClampNeg)) (pc + 3) lv st) : fh_V X R nL z K M pc lv (.int n :: .int dp :: va_rf r :: .int sp :: va_rf r0 :: st) := by
  obtain ⟨p, l, e, s, m, args, below, meth, c, D, A, Q⟩ := X
  subst hr; subst hr0
  have hts := C.2.2.2.2.1
  have hK := C.2.2.2.2.2.1.1
  intro H locs ls hP hz hS hA hl T hT X
  have hc0 := hP a0 (by omega)
  rw [fh_cell_i hk0 (by decide) (by decide)] at hc0
  have hc1 := hP a (by omega)
  rw [fh_cell_i hk (by decide) (by decide)] at hc1
  have hc0 : H[a0]? = some (vp_cell (D.2.2 13) ((K a0).2, .inl (M.1 a0))) := hc0
  have hc1 : H[a]? = some (vp_cell (D.2.2 13) ((K a).2, .inl (M.1 a))) := hc1
  obtain ⟨-, k0, hk0', cm0, hkk0⟩ := (hK.2 0 _ rfl).1 (K a0).2 (fun j => .int (M.1 a0 j))
  obtain ⟨-, k1, hk1', cm1, hkk1⟩ := (hK.2 0 _ rfl).1 (K a).2 (fun j => .int (M.1 a j))
  obtain ⟨vm', X', step⟩ := X.arraycopy C.1 C.2.2.2.1 (hts _ h1) (hts _ h2) (hts _ h3) (hts _ h4) (src := a0) (dst := a) (cs := vp_cell (D.2.2 13) ((K a0).2, .inl (M.1 a0))) (cd := vp_cell (D.2.2 13) ((K a).2, .inl (M.1 a))) (srcPos := sp) (destPos := dp) (n := n) (by rw [hT]; exact hc0) (by rw [hT]; exact hc1)
    (fun _ h => by cases h) (fun _ h => by cases h) (fun h => by cases h) (fun h => by cases h) hk0' hk1' hkk0 hkk1 (by rfl) g1 g2 g3
    (by rw [fh_nn sp g1, fh_nn n g3]; show ¬ _ > ((arrV (D.2.2 13) (K a0).2 (fun j => .int (M.1 a0 j))).slots.size : Int); rw [arrV_size]; omega)
    (by rw [fh_nn dp g2, fh_nn n g3]; show ¬ _ > ((arrV (D.2.2 13) (K a).2 (fun j => .int (M.1 a j))).slots.size : Int); rw [arrV_size]; omega)
    (fun vm₁ _ i hi => by
      have e : (vp_cell (D.2.2 13) ((K a0).2, .inl (M.1 a0))).slots.getD (sp.toNatClampNeg + i) .null = .int (M.1 a0 (sp.toNatClampNeg + i)) := by
        show (arrV (D.2.2 13) (K a0).2 (fun j => .int (M.1 a0 j))).slots.getD _ _ = _
        rw [Array.getD_eq_getD_getElem?, arrV_read _ _ (by omega)]
        rfl
      refine ⟨?_, ?_⟩
      · rw [e]; rfl
      · rw [e]
        exact trivial)
    (g := F0 m pc ls (.int n :: .int dp :: .ref a :: .int sp :: .ref a0 :: st)) rfl (by rw [C.2.2.1]; exact hl.1) (rest := st) rfl (by rw [C.2.1]; exact hd) hf (by show 2 * 0 + _ + _ ≤ _; omega)
  have e1 : copied (vp_cell (D.2.2 13) ((K a0).2, .inl (M.1 a0))) (vp_cell (D.2.2 13) ((K a).2, .inl (M.1 a))) sp dp n = vp_cell (D.2.2 13) ((K a).2, .inl (va_cpy (M.1 a0) (M.1 a) sp.toNatClampNeg dp.toNatClampNeg n.toNatClampNeg)) := va_copied (fun z => .int z) (D.2.2 13) (D.2.2 13) (M.1 a0) (M.1 a) g4
  rw [e1] at X' step
  have hlt : a < H.size := (Array.getElem?_eq_some_iff.mp hc1).1
  have hheap : ((T.setVm vm').setCell a (vp_cell (D.2.2 13) ((K a).2, .inl (va_cpy (M.1 a0) (M.1 a) sp.toNatClampNeg dp.toNatClampNeg n.toNatClampNeg)))).heap = H.setIfInBounds a (vp_cell (D.2.2 13) ((K a).2, .inl (va_cpy (M.1 a0) (M.1 a) sp.toNatClampNeg dp.toNatClampNeg n.toNatClampNeg))) := by rw [← hT]; rfl
  have oq : ∀ q : Nat, q ≠ a → (H.setIfInBounds a (vp_cell (D.2.2 13) ((K a).2, .inl (va_cpy (M.1 a0) (M.1 a) sp.toNatClampNeg dp.toNatClampNeg n.toNatClampNeg))))[q]? = H[q]? := fun q hq => by simp [Array.getElem?_setIfInBounds, Ne.symm hq]
  have hP' : fh_P D K (fh_ri M a (va_cpy (M.1 a0) (M.1 a) sp.toNatClampNeg dp.toNatClampNeg n.toNatClampNeg)) (H.setIfInBounds a (vp_cell (D.2.2 13) ((K a).2, .inl (va_cpy (M.1 a0) (M.1 a) sp.toNatClampNeg dp.toNatClampNeg n.toNatClampNeg)))) := by
    refine fh_P_write hP ?_ oq (fh_ne_ri M a _)
    rw [fh_cell_i hk (by decide) (by decide), fh_ri_row]
    show (H.setIfInBounds a _)[a]? = some (vp_cell _ _)
    simp [Array.getElem?_setIfInBounds, hlt]
  obtain ⟨t, a1, b1⟩ := k _ _ ls hP' (by simpa using hz) ⟨by simp; exact hS.1, fun q g1 g2 => by
      rw [oq q (fun e => g2 (by rw [e]; exact hA a (by omega)))]
      exact hS.2.1 q g1 g2, fun q hq => by
      rcases List.mem_append.mp hq with h | h
      · exact hS.2.2 q h
      · obtain ⟨z, -, hz⟩ := List.mem_map.mp h
        rw [← hz]
        exact hA a (by omega)⟩ hA hl _ hheap X'
  exact ⟨t, step t a1, b1⟩
theorem fv_clone {X : fh_X} {R : Room} {nL : Nat} {z : Nat × Nat × Nat} {K : fh_K} {M : fh_M} {pc : Nat} {lv : List (Nat × Value)} {st : List Value} {cc : ByteArray} {own : String} (C : fh_C X nL cc own) {index a : Nat} {r : Option Nat} (h1 : Cond.methodLink own index ⟨"[I", "clone", "()Ljava/lang/Object;"⟩ ∈ fh_W) (h2 : Cond.sameMethod "[I" "java/lang/Object" "clone" "()Ljava/lang/Object;" ∈ fh_W) (h3 : Cond.native ⟨"java/lang/Object", "clone", "()Ljava/lang/Object;"⟩ ∈ fh_W) (h4 : Cond.instanceMethod ⟨"java/lang/Object", "clone", "()Ljava/lang/Object;"⟩ ∈ fh_W) (h5 : Cond.selects "[I" ⟨"[I", "clone", "()Ljava/lang/Object;"⟩ ⟨"java/lang/Object", "clone", "()Ljava/lang/Object;"⟩ ∈ fh_W) (hr : r = some a) (hk : (K a).1 = 13) (hf : 1 ≤ R.frames) (hlo : (st.map fun v => v.category).sum + 14 ≤ R.locals) (hcells : z.2.1 + 1 ≤ R.cells) (hslots : z.2.2 + (K a).2 ≤ R.slots) (hd : decode cc pc = .ok (.invokevirtual index, 3)) (kk : fh_V X R nL (z.1 + 1, z.2.1 + 1, z.2.2 + (K a).2) (fh_uk K z.1 (13, (K a).2)) (fh_ri (fh_clr M z.1) z.1 (M.1 a)) (pc + 3) lv (va_rf (some z.1) :: st)) : fh_V X R nL z K M pc lv (va_rf r :: st) := by
  obtain ⟨p, l, e, s, m, args, below, meth, c, D, A, Q⟩ := X
  subst hr
  have hts := C.2.2.2.2.1
  have hK := C.2.2.2.2.2.1.1
  intro H locs ls hP hz hS hA hl T hT X
  obtain ⟨zs, zc, zl⟩ := z
  have hz : H.size = zs := hz
  subst hz
  have hnm := (hK.2 0 _ rfl).2
  obtain ⟨c0, t0', f1, f2, f3⟩ := Cond.castable_spec (va_Nw.use (A := args) rfl C.2.2.2.2.2.1.2.2.1)
  cases hnm.symm.trans f1
  have hc1 := hP a (by omega)
  rw [fh_cell_i hk (by decide) (by decide)] at hc1
  have hc1 : H[a]? = some (vp_cell (D.2.2 13) ((K a).2, .inl (M.1 a))) := hc1
  have hsz : (vp_cell (D.2.2 13) ((K a).2, .inl (M.1 a))).slots.size = (K a).2 := arrV_size _ _ _
  obtain ⟨-, kA, hkA, comp, hkind⟩ := State.isArrayOf_alike X.warmed.alike ((hK.2 0 _ rfl).1 0 (fun _ => .null))
  obtain ⟨-, kS, hkS, compS, hkindS⟩ := (hK.2 0 _ rfl).1 0 (fun _ => .null)
  obtain ⟨vm', X', stp⟩ := X.cloneArray C.1 C.2.2.2.1 (hts _ h1) (hts _ h2) (hts _ h3) (hts _ h4) (hts _ h5) (a := a) (cell := vp_cell (D.2.2 13) ((K a).2, .inl (M.1 a))) (by rw [hT]; exact hc1) (fun k h => by cases h) (fun h => by cases h) hnm f2 f3
    (fun i v hv => by
      have hk' : T.vm.classes[D.2.2 13]? = some kA := hkA
      have hv2 : fits .int v = true := by
        have hlt : i < (K a).2 := by rw [← hsz]; exact (Array.getElem?_eq_some_iff.mp hv).1
        have e : (arrV (D.2.2 13) (K a).2 (fun j => .int (M.1 a j))).slots[i]? = some v := hv
        rw [arrV_read _ _ hlt] at e
        cases e; rfl
      show State.fitsSlot T (D.2.2 13) .none i v = true
      simpa [State.fitsSlot, State.slotType?, hk', hkind] using hv2)
    (g := F0 m pc ls (.ref a :: st)) rfl (by rw [C.2.2.1]; exact hl.1) rfl (by rw [C.2.1]; exact hd) hf (by show 2 * 0 + _ + 14 ≤ _; omega) hcells (by rw [hsz]; exact hslots) (hloader := Vm.clonesLoader_of_array hkS hkindS)
  rw [hsz] at X'
  generalize hH1 : H.push (vp_cell (D.2.2 13) ((K a).2, .inl (M.1 a))) = H1
  have z1 : H1.size = H.size + 1 := by rw [← hH1, Array.size_push]
  have e1 : H1[H.size]? = some (vp_cell (D.2.2 13) ((K a).2, .inl (M.1 a))) := by rw [← hH1, Array.getElem?_push_size]
  have o1 : ∀ q : Nat, q < H.size → H1[q]? = H[q]? := fun q hq => by rw [← hH1, Array.getElem?_push, if_neg (Nat.ne_of_lt hq)]
  have hAn := C.2.2.2.2.2.2.2 H.size hS.1
  have hP1 : fh_P D (fh_uk K H.size (13, (K a).2)) (fh_ri (fh_clr M H.size) H.size (M.1 a)) H1 := by
    intro b hb
    by_cases e : b = H.size
    · subst e
      rw [fh_cell_i (t := 13) (by simp [fh_uk]) (by decide) (by decide), fh_ri_row]
      show H1[H.size]? = some (vp_cell _ _)
      rw [e1]
      simp [fh_uk]
    · have hKb : fh_uk K H.size (13, (K a).2) b = K b := by simp [fh_uk, e]
      rw [hKb] at hb
      have hce : fh_cell D (fh_uk K H.size (13, (K a).2)) (fh_ri (fh_clr M H.size) H.size (M.1 a)) b = fh_cell D K M b := by
        have h2 : fh_cell D (fh_uk K H.size (13, (K a).2)) (fh_ri (fh_clr M H.size) H.size (M.1 a)) b = fh_cell D K (fh_ri (fh_clr M H.size) H.size (M.1 a)) b := by unfold fh_cell; rw [hKb]
        rw [h2]
        exact (fh_cell_congr ⟨(fh_r_ne e).trans (fh_r_ne e), fh_r_ne e, fh_r_ne e⟩).symm
      rw [hce]
      exact (hP b hb).kept (o1 b (hP b hb).lt)
  obtain ⟨t, b1, b2⟩ := kk H1 locs ls hP1 z1 (fh_S_push hS z1 o1) (fh_A_push hA hAn) hl ((T.setVm vm').pushCell (vp_cell (D.2.2 13) ((K a).2, .inl (M.1 a)))) (by rw [← hH1, ← hT]; rfl) X'
  refine ⟨t, stp t ?_, b2⟩
  rw [hT]
  exact b1
theorem fv_castI {X : fh_X} {R : Room} {nL : Nat} {z : Nat × Nat × Nat} {K : fh_K} {M : fh_M} {pc : Nat} {lv : List (Nat × Value)} {st : List Value} {cc : ByteArray} {own : String} (C : fh_C X nL cc own) {index a : Nat} {r : Option Nat} (h1 : Cond.classLink own index "[I" ∈ fh_W) (hr : r = some a) (hk : (K a).1 = 13) (hd : decode cc pc = .ok (.checkcast index, 3)) (k : fh_V X R nL z K M (pc + 3) lv (va_rf r :: st)) : fh_V X R nL z K M pc lv (va_rf r :: st) := by
  obtain ⟨p, l, e, s, m, args, below, meth, c, D, A, Q⟩ := X
  subst hr
  exact fun H locs ls hP hz hS hA hl => va_castA C.1 C.2.1 C.2.2.2.1 (C.2.2.2.2.1 _ h1) (fh_one hP (by omega) (fh_cell_i hk (by decide) (by decide))) 0 rfl (C.2.2.2.2.2.1.1.2 0 _ rfl).2 hd (k H locs ls hP hz hS hA hl)
