def fh_Pc (D : fh_D) (K : fh_K) (M : fh_M) (sz : Nat) (A : Nat → Prop) (av : List Value) : Array Value → State → Prop := fun v U => v = av.toArray ∧ U.heap.size = sz ∧ fh_P D K M U.heap ∧ fh_Ks D U ∧ (∀ a, (K a).1 ≠ 0 → A a) ∧ (∀ q, sz ≤ q → A q)
def fh_Qc (D : fh_D) (ov : Option Value) (K : fh_K) (M : fh_M) (sz : Nat) (A : Nat → Prop) : Array Value → State → Outcome → State → Prop := fun _ st o t => (o = .returned ov ∧ fh_P D K M t.heap ∧ t.heap.size = sz ∧ (∀ a, (K a).1 ≠ 0 → A a)) ∧ va_F A st t
def fh_Met (l : Launch) (y : MethodName) (cc : ByteArray) (maxL : Nat) (ret : Option FieldType) (rm : Room) (D : fh_D) (K : fh_K) (M : fh_M) (sz : Nat) (A : Nat → Prop) (av : List Value) (ov : Option Value) (K' : fh_K) (M' : fh_M) (sz' : Nat) : Prop := Met l y (Cond.code y cc maxL ret :: fh_W) rm (fh_Pc D K M sz A av) (fh_Qc D ov K' M' sz' A) rm.cells rm.slots A
def fh_E (X : fh_X) (R : Room) (ret : Option FieldType) (ov : Option Value) (K : fh_K) (M : fh_M) (sz : Nat) : Prop := match X with
  | (p, l, e, s, m, args, below, meth, c, D, A, Q) => meth.sig.returnType = ret ∧ Q = MQ below (fh_Qc D ov K M sz A) args s R.cells R.slots A
theorem fh_blind {D : fh_D} {K : fh_K} {M : fh_M} {sz : Nat} {A : Nat → Prop} {av : List Value} : FrameBlind (fh_Pc D K M sz A av) := fun a U g mk q => ⟨q.1, q.2.1, q.2.2.1, fh_Ks_same rfl q.2.2.2.1, q.2.2.2.2⟩
theorem fh_good : ∀ w ∈ fh_W, w ∈ fh_W ∧ ((w.onTables && w.keeps) = true ∨ ∃ ty, w = .arrayClass ty) := fun w h => ⟨h, good_of_word (List.mem_filter.mp h).2⟩
theorem fh_goodC {w : Cond} (hw : w ∈ fh_W) : GoodIn fh_W (w :: fh_W) := fun x h => (List.mem_cons.mp h).elim (fun e => by rw [e]; exact fh_good w hw) (fun h => fh_good x h)
theorem fv_widen {X : fh_X} {R : Room} {nL : Nat} {z : Nat × Nat × Nat} {K : fh_K} {M : fh_M} {pc : Nat} {lv : List (Nat × Value)} {st : List Value} {cc : ByteArray} {own : String} {mc ms : Nat} (h1 : z.2.1 ≤ mc) (h2 : z.2.2 ≤ ms) (k : fh_V X R nL (z.1, mc, ms) K M pc lv st) : fh_V X R nL z K M pc lv st := by
  obtain ⟨p, l, e, s, m, args, below, meth, c, D, A, Q⟩ := X
  exact fun H locs ls hP hz hS hA hl => W.widen (k := mc) (n := ms) h1 h2 (k H locs ls hP hz hS hA hl)
theorem fv_iret {X : fh_X} {R : Room} {nL : Nat} {z : Nat × Nat × Nat} {K : fh_K} {M : fh_M} {pc : Nat} {lv : List (Nat × Value)} {st : List Value} {cc : ByteArray} {own : String} {v : Int32} {sz : Nat} (C : fh_C X nL cc own) (E : fh_E X R (some .int) (some (.int v)) K M sz) (hd : decode cc pc = .ok (.ireturn, 1)) : fh_V X R nL (sz, R.cells, R.slots) K M pc lv [.int v] := by
  obtain ⟨p, l, e, s, m, args, below, meth, c, D, A, Q⟩ := X
  obtain ⟨E1, E2⟩ := E
  subst E2
  exact fun H locs ls hP hz hS hA hl => W.iret C.1 C.2.1 E1 (fun t ht hW => ⟨⟨rfl, by rw [ht]; exact hP, by rw [ht]; exact hz, hA⟩, hS.F ht⟩) hS.2.2 hd C.2.2.2.2.2.2.1
theorem fv_zret {X : fh_X} {R : Room} {nL : Nat} {z : Nat × Nat × Nat} {K : fh_K} {M : fh_M} {pc : Nat} {lv : List (Nat × Value)} {st : List Value} {cc : ByteArray} {own : String} {v : Int32} {sz : Nat} (C : fh_C X nL cc own) (E : fh_E X R (some .boolean) (some (.int v)) K M sz) (hv : v = 0 ∨ v = 1) (hd : decode cc pc = .ok (.ireturn, 1)) : fh_V X R nL (sz, R.cells, R.slots) K M pc lv [.int v] := by
  obtain ⟨p, l, e, s, m, args, below, meth, c, D, A, Q⟩ := X
  obtain ⟨E1, E2⟩ := E
  subst E2
  exact fun H locs ls hP hz hS hA hl => W.zret C.1 C.2.1 E1 (narrow_z hv).1 (fun t ht hW => ⟨⟨rfl, by rw [ht]; exact hP, by rw [ht]; exact hz, hA⟩, hS.F ht⟩) hS.2.2 hd C.2.2.2.2.2.2.1
theorem fv_lret {X : fh_X} {R : Room} {nL : Nat} {z : Nat × Nat × Nat} {K : fh_K} {M : fh_M} {pc : Nat} {lv : List (Nat × Value)} {st : List Value} {cc : ByteArray} {own : String} {v : Int64} {sz : Nat} (C : fh_C X nL cc own) (E : fh_E X R (some .long) (some (.long v)) K M sz) (hd : decode cc pc = .ok (.lreturn, 1)) : fh_V X R nL (sz, R.cells, R.slots) K M pc lv [.long v] := by
  obtain ⟨p, l, e, s, m, args, below, meth, c, D, A, Q⟩ := X
  obtain ⟨E1, E2⟩ := E
  subst E2
  exact fun H locs ls hP hz hS hA hl => W.lret C.1 C.2.1 E1 (fun t ht hW => ⟨⟨rfl, by rw [ht]; exact hP, by rw [ht]; exact hz, hA⟩, hS.F ht⟩) hS.2.2 hd C.2.2.2.2.2.2.1
theorem fv_vret {X : fh_X} {R : Room} {nL : Nat} {z : Nat × Nat × Nat} {K : fh_K} {M : fh_M} {pc : Nat} {lv : List (Nat × Value)} {st : List Value} {cc : ByteArray} {own : String} {sz : Nat} (C : fh_C X nL cc own) (E : fh_E X R none none K M sz) (hd : decode cc pc = .ok (.return_, 1)) : fh_V X R nL (sz, R.cells, R.slots) K M pc lv [] := by
  obtain ⟨p, l, e, s, m, args, below, meth, c, D, A, Q⟩ := X
  obtain ⟨E1, E2⟩ := E
  subst E2
  exact fun H locs ls hP hz hS hA hl => W.vret C.1 C.2.1 E1 (fun t ht hW => ⟨⟨rfl, by rw [ht]; exact hP, by rw [ht]; exact hz, hA⟩, hS.F ht⟩) hS.2.2 hd C.2.2.2.2.2.2.1
theorem fv_aret {X : fh_X} {R : Room} {nL : Nat} {z : Nat × Nat × Nat} {K : fh_K} {M : fh_M} {pc : Nat} {lv : List (Nat × Value)} {st : List Value} {cc : ByteArray} {own : String} {v : Option Nat} {rt : FieldType} {sz : Nat} (C : fh_C X nL cc own) (E : fh_E X R (some rt) (some (va_rf v)) K M sz) (hrt : (∃ n, rt = .object n) ∨ ∃ t, rt = .array t) (hd : decode cc pc = .ok (.areturn, 1)) : fh_V X R nL (sz, R.cells, R.slots) K M pc lv [va_rf v] := by
  obtain ⟨p, l, e, s, m, args, below, meth, c, D, A, Q⟩ := X
  obtain ⟨E1, E2⟩ := E
  subst E2
  exact fun H locs ls hP hz hS hA hl => W.aret C.1 C.2.1 E1 hrt (by cases v with | none => exact Or.inl rfl | some v => exact Or.inr ⟨v, rfl⟩) (fun t ht hW => ⟨⟨rfl, by rw [ht]; exact hP, by rw [ht]; exact hz, hA⟩, hS.F ht⟩) hS.2.2 hd C.2.2.2.2.2.2.1
/-- behind a call -/
theorem fh_after {p : Program} {l : Launch} {e : Env} {s : State} {m : MethodId} {args : Array Value} {below : List Frame} {meth : Method} {c : Code} {D : fh_D} {A : Nat → Prop} {Q : State → Prop} {R : Room} {nL mc ms sz' cells slots : Nat} {H : Heap} {locs : List Loc} {K' : fh_K} {M' : fh_M} {pc : Nat} {ls : Array Slot} {lv : List (Nat × Value)} {st stk : List Value} {a : Array Value} {ov : Option Value} (hS : va_S A s.heap H locs) (hl : lv_has ls nL lv)
    (hr : va_Run p l e R s m args below meth c H locs cells slots mc ms (F0 m pc ls stk) st (fh_Qc D ov K' M' sz' A a) A)
    (kk : fh_V (p, l, e, s, m, args, below, meth, c, D, A, Q) R nL (sz', cells + mc, slots + ms) K' M' (pc + 3) lv (ov.toList ++ st)) : W p l e R s m args below meth c H locs cells slots Q (F0 m pc ls stk) := by
  intro T hT X
  obtain ⟨v, st₀, t, T', L, h0, X', hL, e1, e2, ⟨⟨hv, hp, hsz, hA'⟩, hz, hk⟩, stp⟩ := hr T hT X
  cases hv
  rw [h0] at hz hk
  rw [← e1] at hp hsz hz hk
  obtain ⟨t2, a1, b1⟩ := kk T'.heap (locs ++ L) ls hp hsz ⟨Nat.le_trans hS.1 hz, fun q h1 h2 => (hk q (Nat.lt_of_lt_of_le h1 hS.1) h2).trans (hS.2.1 q h1 h2), fun q hq => (List.mem_append.mp hq).elim (hS.2.2 q) (hL q)⟩ hA' hl T' rfl X'
  exact ⟨t2, stp t2 a1, b1⟩
def fh_ms (y : MethodName) (bytes : ByteArray) (maxL : Nat) (ret : Option FieldType) (n : Nat) : Prop := Cond.code y bytes maxL ret ∈ fh_W ∧ Cond.static y ∈ fh_W ∧ Cond.initialized y.cls ∈ fh_W ∧ y.cls ≠ "java/lang/invoke/MethodHandle" ∧ y.cls ≠ "java/lang/invoke/VarHandle" ∧ (parseMethodDescriptor y.desc).map (fun d => d.parameters.length) = some n
def fh_mv (y : MethodName) (bytes : ByteArray) (maxL : Nat) (ret : Option FieldType) (n ci : Nat) : Prop := Cond.code y bytes maxL ret ∈ fh_W ∧ Cond.instanceMethod y ∈ fh_W ∧ Cond.initialized y.cls ∈ fh_W ∧ y.cls ≠ "java/lang/invoke/MethodHandle" ∧ y.cls ≠ "java/lang/invoke/VarHandle" ∧ (parseMethodDescriptor y.desc).map (fun d => d.parameters.length) = some n ∧ ci < 12 ∧ ∃ q : vw_C, vwCl[ci]? = some q ∧ q.1 = y.cls
theorem fh_preS {p : Program} {s : State} {D : fh_D} {A : Nat → Prop} {K : fh_K} {M : fh_M} {H : Heap} {locs : List Loc} {sz : Nat} {As : List Value} (hP : fh_P D K M H) (hz : H.size = sz) (hS : va_S A s.heap H locs) (hA : ∀ a, (K a).1 ≠ 0 → A a) (hK : fh_Ks D s) (hq : ∀ q, s.heap.size ≤ q → A q) : PreS s H (fh_Pc D K M sz A As) As := ⟨fh_blind, fun U hU hW => ⟨rfl, by rw [hU]; exact hz, by rw [hU]; exact hP, fh_Ks_warm hW hK, hA, fun q h => hq q (Nat.le_trans hS.1 (by omega))⟩⟩
theorem fv_callS {X : fh_X} {R : Room} {nL : Nat} {z : Nat × Nat × Nat} {K : fh_K} {M : fh_M} {pc : Nat} {lv : List (Nat × Value)} {st : List Value} {cc : ByteArray} {own : String} {y : MethodName} {bytes : ByteArray} {maxL n index sz' : Nat} {ret : Option FieldType} {rm : Room} {stk : List Value} {ov : Option Value} {K' : fh_K} {M' : fh_M} (As : List Value) (C : fh_C X nL cc own) (mi : fh_ms y bytes maxL ret n) (hlk : Cond.methodLink own index y ∈ fh_W) (hM : fh_Met X.2.1 y bytes maxL ret rm X.2.2.2.2.2.2.2.2.2.1 K M z.1 X.2.2.2.2.2.2.2.2.2.2.1 As ov K' M' sz') (hR : rm.frames + 1 ≤ R.frames ∧ 8 + (maxL + 11) + rm.locals ≤ R.locals) (hcs : z.2.1 + rm.cells ≤ R.cells ∧ z.2.2 + rm.slots ≤ R.slots) (hn : As.length = n) (hst : stk = As.reverse ++ st) (hro : (st.map fun v => v.category).sum ≤ 8) (hd : decode cc pc = .ok (.invokestatic index, 3)) (kk : fh_V X R nL (sz', z.2.1 + rm.cells, z.2.2 + rm.slots) K' M' (pc + 3) lv (ov.toList ++ st)) : fh_V X R nL z K M pc lv stk := by
  obtain ⟨p, l, e, s, m, args, below, meth, c, D, A, Q⟩ := X
  subst hst
  intro H locs ls hP hz hS hA hl
  have hts := C.2.2.2.2.1
  exact fh_after hS hl (va_runS (As := As) (rest := st) ⟨C.1, C.2.1, C.2.2.1, C.2.2.2.1, hts⟩ hM ⟨callB_of n hts (fh_goodC mi.1) rfl rfl rfl (hts _ mi.2.2.1) (hts _ hlk) mi.2.2.2 hR, hts _ mi.2.1⟩ (fh_preS (p := p) hP hz hS hA C.2.2.2.2.2.1 C.2.2.2.2.2.2.2) rfl hn hl.1 rfl (lv_room hro) hd hcs) kk
theorem fv_callSN {X : fh_X} {R : Room} {nL : Nat} {z : Nat × Nat × Nat} {K : fh_K} {M : fh_M} {pc : Nat} {lv : List (Nat × Value)} {st : List Value} {cc : ByteArray} {own : String} {y : MethodName} {bytes : ByteArray} {maxL n index sz' : Nat} {host : String} {ret : Option FieldType} {rm : Room} {stk : List Value} {ov : Option Value} {K' : fh_K} {M' : fh_M} (As : List Value) (C : fh_C X nL cc own) (mi : fh_ms y bytes maxL ret n) (hlk : (own, index, y, host) ∈ fh_nest) (hM : fh_Met X.2.1 y bytes maxL ret rm X.2.2.2.2.2.2.2.2.2.1 K M z.1 X.2.2.2.2.2.2.2.2.2.2.1 As ov K' M' sz') (hR : rm.frames + 1 ≤ R.frames ∧ 8 + (maxL + 11) + rm.locals ≤ R.locals) (hcs : z.2.1 + rm.cells ≤ R.cells ∧ z.2.2 + rm.slots ≤ R.slots) (hn : As.length = n) (hst : stk = As.reverse ++ st) (hro : (st.map fun v => v.category).sum ≤ 8) (hd : decode cc pc = .ok (.invokestatic index, 3)) (kk : fh_V X R nL (sz', z.2.1 + rm.cells, z.2.2 + rm.slots) K' M' (pc + 3) lv (ov.toList ++ st)) : fh_V X R nL z K M pc lv stk := by
  obtain ⟨p, l, e, s, m, args, below, meth, c, D, A, Q⟩ := X
  subst hst
  intro H locs ls hP hz hS hA hl
  have hts := C.2.2.2.2.1
  exact fh_after hS hl (va_runSN (As := As) (rest := st) ⟨C.1, C.2.1, C.2.2.1, C.2.2.2.1, hts⟩ hM ⟨va_cnB n hts (fh_goodC mi.1) rfl rfl rfl (C.2.2.2.2.2.1.2.1 _ hlk) (hts _ mi.2.2.1) mi.2.2.2 hR, hts _ mi.2.1, trivial⟩ (fh_preS (p := p) hP hz hS hA C.2.2.2.2.2.1 C.2.2.2.2.2.2.2) rfl hn hl.1 rfl (lv_room hro) hd hcs) kk
theorem fv_callV {X : fh_X} {R : Room} {nL : Nat} {z : Nat × Nat × Nat} {K : fh_K} {M : fh_M} {pc : Nat} {lv : List (Nat × Value)} {st : List Value} {cc : ByteArray} {own : String} {y : MethodName} {bytes : ByteArray} {maxL n index sz' ci b : Nat} {ret : Option FieldType} {rm : Room} {stk : List Value} {ov : Option Value} {K' : fh_K} {M' : fh_M} {r : Option Nat} (As : List Value) (C : fh_C X nL cc own) (mi : fh_mv y bytes maxL ret n ci) (hsel : Cond.selects y.cls y y ∈ fh_W) (hlk : Cond.methodLink own index y ∈ fh_W) (hr : r = some b) (hk : (K b).1 = ci + 1) (hM : fh_Met X.2.1 y bytes maxL ret rm X.2.2.2.2.2.2.2.2.2.1 K M z.1 X.2.2.2.2.2.2.2.2.2.2.1 (va_rf (some b) :: As) ov K' M' sz') (hR : rm.frames + 1 ≤ R.frames ∧ 8 + (maxL + 11) + rm.locals ≤ R.locals) (hcs : z.2.1 + rm.cells ≤ R.cells ∧ z.2.2 + rm.slots ≤ R.slots) (hn : As.length = n) (hst : stk = As.reverse ++ va_rf r :: st) (hro : (st.map fun v => v.category).sum ≤ 8) (hd : decode cc pc = .ok (.invokevirtual index, 3)) (kk : fh_V X R nL (sz', z.2.1 + rm.cells, z.2.2 + rm.slots) K' M' (pc + 3) lv (ov.toList ++ st)) : fh_V X R nL z K M pc lv stk := by
  obtain ⟨p, l, e, s, m, args, below, meth, c, D, A, Q⟩ := X
  subst hst; subst hr
  intro H locs ls hP hz hS hA hl
  have hts := C.2.2.2.2.1
  obtain ⟨m1, m2, m3, m4, m5, m6, m7, q, m8, m9⟩ := mi
  have hS' := fh_preS (p := p) (As := va_rf (some b) :: As) hP hz hS hA C.2.2.2.2.2.1 C.2.2.2.2.2.2.2
  have hrc := va_recv (D := (D.1, D.2.1)) C.2.2.2.2.2.1.1 (fh_one hP (by omega) (fh_cell_o hk m7)) m8 (q0 := 0) rfl
  rw [m9] at hrc
  exact fh_after hS hl (va_runV (C := y.cls) (b := b) (As := As) (rest := st) ⟨C.1, C.2.1, C.2.2.1, C.2.2.2.1, hts⟩ hM ⟨callB_of n hts (fh_goodC m1) rfl rfl rfl (hts _ m3) (hts _ hlk) ⟨m4, m5, m6⟩ hR, hts _ m2, hts _ hsel⟩ ⟨hS'.1, hrc, hS'.2⟩ rfl hn hl.1 rfl (lv_room hro) hd hcs) kk
theorem fv_callI {X : fh_X} {R : Room} {nL : Nat} {z : Nat × Nat × Nat} {K : fh_K} {M : fh_M} {pc : Nat} {lv : List (Nat × Value)} {st : List Value} {cc : ByteArray} {own : String} {y : MethodName} {bytes : ByteArray} {maxL n index sz' ci b : Nat} {rm : Room} {stk : List Value} {ov : Option Value} {K' : fh_K} {M' : fh_M} (As : List Value) (C : fh_C X nL cc own) (mi : fh_mv y bytes maxL none n ci) (hy : y.name = "<init>") (hlk : Cond.methodLink own index y ∈ fh_W) (hM : fh_Met X.2.1 y bytes maxL none rm X.2.2.2.2.2.2.2.2.2.1 K M z.1 X.2.2.2.2.2.2.2.2.2.2.1 (va_rf (some b) :: As) ov K' M' sz') (hR : rm.frames + 1 ≤ R.frames ∧ 8 + (maxL + 11) + rm.locals ≤ R.locals) (hcs : z.2.1 + rm.cells ≤ R.cells ∧ z.2.2 + rm.slots ≤ R.slots) (hn : As.length = n) (hst : stk = As.reverse ++ va_rf (some b) :: st) (hro : (st.map fun v => v.category).sum ≤ 8) (hd : decode cc pc = .ok (.invokespecial index, 3)) (kk : fh_V X R nL (sz', z.2.1 + rm.cells, z.2.2 + rm.slots) K' M' (pc + 3) lv (ov.toList ++ st)) : fh_V X R nL z K M pc lv stk := by
  obtain ⟨p, l, e, s, m, args, below, meth, c, D, A, Q⟩ := X
  subst hst
  intro H locs ls hP hz hS hA hl
  have hts := C.2.2.2.2.1
  obtain ⟨m1, m2, m3, m4, m5, m6, m7, q, m8, m9⟩ := mi
  have hS' := fh_preS (p := p) (As := va_rf (some b) :: As) hP hz hS hA C.2.2.2.2.2.1 C.2.2.2.2.2.2.2
  exact fh_after hS hl (va_runI (b := b) (As := As) (rest := st) ⟨C.1, C.2.1, C.2.2.1, C.2.2.2.1, hts⟩ hM ⟨callB_of n hts (fh_goodC m1) rfl rfl rfl (hts _ m3) (hts _ hlk) ⟨m4, m5, m6⟩ hR, hy, hts _ m2⟩ hS' rfl hn hl.1 rfl (lv_room hro) hd hcs) kk
theorem fv_callIN {X : fh_X} {R : Room} {nL : Nat} {z : Nat × Nat × Nat} {K : fh_K} {M : fh_M} {pc : Nat} {lv : List (Nat × Value)} {st : List Value} {cc : ByteArray} {own : String} {y : MethodName} {bytes : ByteArray} {maxL n index sz' ci b : Nat} {host : String} {rm : Room} {stk : List Value} {ov : Option Value} {K' : fh_K} {M' : fh_M} (As : List Value) (C : fh_C X nL cc own) (mi : fh_mv y bytes maxL none n ci) (hy : y.name = "<init>") (hlk : (own, index, y, host) ∈ fh_nest) (hM : fh_Met X.2.1 y bytes maxL none rm X.2.2.2.2.2.2.2.2.2.1 K M z.1 X.2.2.2.2.2.2.2.2.2.2.1 (va_rf (some b) :: As) ov K' M' sz') (hR : rm.frames + 1 ≤ R.frames ∧ 8 + (maxL + 11) + rm.locals ≤ R.locals) (hcs : z.2.1 + rm.cells ≤ R.cells ∧ z.2.2 + rm.slots ≤ R.slots) (hn : As.length = n) (hst : stk = As.reverse ++ va_rf (some b) :: st) (hro : (st.map fun v => v.category).sum ≤ 8) (hd : decode cc pc = .ok (.invokespecial index, 3)) (kk : fh_V X R nL (sz', z.2.1 + rm.cells, z.2.2 + rm.slots) K' M' (pc + 3) lv (ov.toList ++ st)) : fh_V X R nL z K M pc lv stk := by
  obtain ⟨p, l, e, s, m, args, below, meth, c, D, A, Q⟩ := X
  subst hst
  intro H locs ls hP hz hS hA hl
  have hts := C.2.2.2.2.1
  obtain ⟨m1, m2, m3, m4, m5, m6, m7, q, m8, m9⟩ := mi
  have hS' := fh_preS (p := p) (As := va_rf (some b) :: As) hP hz hS hA C.2.2.2.2.2.1 C.2.2.2.2.2.2.2
  exact fh_after hS hl (va_runIN (b := b) (As := As) (rest := st) ⟨C.1, C.2.1, C.2.2.1, C.2.2.2.1, hts⟩ hM ⟨va_cnB n hts (fh_goodC m1) rfl rfl rfl (C.2.2.2.2.2.1.2.1 _ hlk) (hts _ m3) ⟨m4, m5, m6⟩ hR, hy, hts _ m2⟩ hS' rfl hn hl.1 rfl (lv_room hro) hd hcs) kk
/-- a contract out of its walk -/
theorem fh_enter {l : Launch} {y : MethodName} {cc : ByteArray} {maxL : Nat} {ret : Option FieldType} {rm : Room} {D : fh_D} {K : fh_K} {M : fh_M} {sz : Nat} {A : Nat → Prop} {av : List Value} {ov : Option Value} {K' : fh_K} {M' : fh_M} {sz' : Nat} {lv : List (Nat × Value)} (hy : plainName y.cls = true) (hlen : (lg_sl av).length ≤ maxL) (hlv : lv_args 0 av = lv)
    (body : ∀ X : fh_X, fh_C X maxL cc y.cls → fh_E X rm ret ov K' M' sz' → X.2.2.2.2.2.2.2.1.name = y.name → X.2.1 = l → X.2.2.2.2.2.2.2.2.2.1 = D → X.2.2.2.2.2.2.2.2.2.2.1 = A → fh_V X rm maxL (sz, 0, 0) K M 0 lv []) : fh_Met l y cc maxL ret rm D K M sz A av ov K' M' sz' := by
  refine Met.ofW (cc := cc) (maxL := maxL) (ret := ret) hy rfl ?_
  intro p e s m args below meth c s₁ B hml hv
  obtain ⟨rfl, hsz, hP, hK, hA, hq⟩ := hv
  have hts := atoms_spec (ws := Cond.code y cc maxL ret :: fh_W) B.pre
  have hown : s.vm.findClass y.cls = some m.cls := findClass_of_methodNamed B.named
  have hl := lv_entry av (n := maxL) hlen
  rw [hlv] at hl
  rw [lg_entry_eq]
  subst hsz
  exact body (p, l, e, s, m, av.toArray, below, meth, c, D, A, MQ below (fh_Qc D ov K' M' sz' A) av.toArray s rm.cells rm.slots A) ⟨B.exec, B.bytes, hml, hown, fun w hw => hts w (List.mem_cons_of_mem _ hw), hK, B.notSynchronized, hq⟩ ⟨B.returns, rfl⟩ (name_of_methodNamed B.named B.method).1 rfl rfl rfl s.heap [] _ hP rfl va_S.rf hA hl
