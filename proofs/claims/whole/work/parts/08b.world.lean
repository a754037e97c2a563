theorem lw_Ks {s : State} {args : Array Value} (hts : ∀ w ∈ lw_tbl, w.before args s = true) : ∃ D : fh_D, fh_Ks D s := by
  have htf : ∀ w ∈ fh_W, w.before args s = true := fun w hw => hts w (List.mem_filter.mp hw).1
  obtain ⟨c0, i0, h0⟩ := u_known (C := RX0) (T := TX0) (N := 2) (n := 2) htf iw_0 (hts (.instantiable RX0 2) (by decide +kernel))
  obtain ⟨c1, i1, h1⟩ := u_known (C := RX1) (T := TX1) (N := 2) (n := 2) htf iw_1 (hts (.instantiable RX1 2) (by decide +kernel))
  obtain ⟨c2, i2, h2⟩ := u_known (C := RX2) (T := TX2) (N := 4) (n := 4) htf iw_2 (hts (.instantiable RX2 4) (by decide +kernel))
  obtain ⟨c3, i3, h3⟩ := u_known (C := RX3) (T := TX3) (N := 3) (n := 3) htf iw_3 (hts (.instantiable RX3 3) (by decide +kernel))
  obtain ⟨c4, i4, h4⟩ := u_known (C := RX4) (T := TX4) (N := 7) (n := 7) htf iw_4 (hts (.instantiable RX4 7) (by decide +kernel))
  obtain ⟨c5, i5, h5⟩ := u_known (C := RX5) (T := TX5) (N := 3) (n := 3) htf iw_5 (hts (.instantiable RX5 3) (by decide +kernel))
  obtain ⟨c6, i6, h6⟩ := u_known (C := RX6) (T := TX6) (N := 2) (n := 2) htf iw_6 (hts (.instantiable RX6 2) (by decide +kernel))
  obtain ⟨c7, i7, h7⟩ := u_known (C := RX7) (T := TX7) (N := 9) (n := 9) htf iw_7 (hts (.instantiable RX7 9) (by decide +kernel))
  obtain ⟨c8, i8, h8⟩ := u_known (C := RX8) (T := TX8) (N := 5) (n := 5) htf iw_8 (hts (.instantiable RX8 5) (by decide +kernel))
  obtain ⟨c9, i9, h9⟩ := u_known (C := RX9) (T := TX9) (N := 2) (n := 2) htf iw_9 (hts (.instantiable RX9 2) (by decide +kernel))
  obtain ⟨c10, i10, h10⟩ := u_known (C := RX10) (T := TX10) (N := 15) (n := 15) htf iw_10 (hts (.instantiable RX10 15) (by decide +kernel))
  obtain ⟨c11, i11, h11⟩ := u_known (C := RX11) (T := TX11) (N := 43) (n := 43) htf iw_11 (hts (.instantiable RX11 43) (by decide +kernel))
  obtain ⟨a13, k13, p13, f13, g13, q13⟩ := Cond.arrayClass_spec (htf _ ac_int)
  obtain ⟨a14, k14, p14, f14, g14, q14⟩ := Cond.arrayClass_spec (htf _ ac_byte)
  obtain ⟨a15, k15, p15, f15, g15, q15⟩ := Cond.arrayClass_spec (htf _ ac_boolean)
  obtain ⟨a16, k16, p16, f16, g16, q16⟩ := Cond.arrayClass_spec (htf _ ac_long)
  have o17 : va_AO RX2 s := va_AO.of (hts (.arrayOver (.object RX2)) (by decide +kernel))
  obtain ⟨p17, a17, k17, e17, -, g17, q17, f17⟩ := Cond.arrayOver_spec o17
  have o18 : va_AO RX7 s := va_AO.of (hts (.arrayOver (.object RX7)) (by decide +kernel))
  obtain ⟨p18, a18, k18, e18, -, g18, q18, f18⟩ := Cond.arrayOver_spec o18
  have o19 : va_AO RX8 s := va_AO.of (hts (.arrayOver (.object RX8)) (by decide +kernel))
  obtain ⟨p19, a19, k19, e19, -, g19, q19, f19⟩ := Cond.arrayOver_spec o19
  refine ⟨(fun k => if k = 0 then c0 else if k = 1 then c1 else if k = 2 then c2 else if k = 3 then c3 else if k = 4 then c4 else if k = 5 then c5 else if k = 6 then c6 else if k = 7 then c7 else if k = 8 then c8 else if k = 9 then c9 else if k = 10 then c10 else c11, fun k => if k = 0 then i0 else if k = 1 then i1 else if k = 2 then i2 else if k = 3 then i3 else if k = 4 then i4 else if k = 5 then i5 else if k = 6 then i6 else if k = 7 then i7 else if k = 8 then i8 else if k = 9 then i9 else if k = 10 then i10 else i11, fun k => if k = 13 then a13 else if k = 14 then a14 else if k = 15 then a15 else if k = 16 then a16 else if k = 17 then a17 else if k = 18 then a18 else a19), ⟨⟨fun k q hq => ?_, fun k q hq => ?_⟩, fun q hq => ?_, ?_, o17, o18, o19⟩⟩
  · match k, hq with
    | 0, hq => cases hq; exact h0
    | 1, hq => cases hq; exact h1
    | 2, hq => cases hq; exact h2
    | 3, hq => cases hq; exact h3
    | 4, hq => cases hq; exact h4
    | 5, hq => cases hq; exact h5
    | 6, hq => cases hq; exact h6
    | 7, hq => cases hq; exact h7
    | 8, hq => cases hq; exact h8
    | 9, hq => cases hq; exact h9
    | 10, hq => cases hq; exact h10
    | 11, hq => cases hq; exact h11
    | k + 12, hq => simp [vwCl] at hq
  · match k, hq with
    | 0, hq => cases hq; exact ⟨fun n z => ⟨fun k h => (by cases h), k13, g13, p13, q13⟩, f13⟩
    | 1, hq => cases hq; exact ⟨fun n z => ⟨fun k h => (by cases h), k14, g14, p14, q14⟩, f14⟩
    | 2, hq => cases hq; exact ⟨fun n z => ⟨fun k h => (by cases h), k15, g15, p15, q15⟩, f15⟩
    | 3, hq => cases hq; exact ⟨fun n z => ⟨fun k h => (by cases h), k16, g16, p16, q16⟩, f16⟩
    | 4, hq => cases hq; exact ⟨fun n z => ⟨fun k h => (by cases h), k17, g17, p17, q17⟩, k17, p17, g17, q17, e17, f17⟩
    | 5, hq => cases hq; exact ⟨fun n z => ⟨fun k h => (by cases h), k18, g18, p18, q18⟩, k18, p18, g18, q18, e18, f18⟩
    | 6, hq => cases hq; exact ⟨fun n z => ⟨fun k h => (by cases h), k19, g19, p19, q19⟩, k19, p19, g19, q19, e19, f19⟩
    | k + 7, hq => simp [fh_tys] at hq
  · have hall : ∀ q ∈ fh_nest, Cond.methodLinkNest q.1 q.2.1 q.2.2.1 q.2.2.2 ∈ lw_tbl := by decide +kernel
    exact va_Nw.of rfl (hts _ (hall q hq))
  · exact va_Nw.of rfl (hts (.castable "[I" "java/lang/Cloneable") (by decide +kernel))
