def f_X4_init (sz : Nat) (K : fh_K) (M : fh_M) (t : Nat) : Option (Nat × fh_K × fh_M) :=
  fn (29) 29 fun N1 =>
    fb (fh_uk K sz (13, N1)) fun K2 =>
    fb (fh_clr M sz) fun M3 =>
    fo K2 4 (some t) fun a4 =>
    fb (fh_sr M3 a4 0 (some sz)) fun M5 =>
    fn (29) 29 fun N6 =>
    fb (fh_uk K2 (sz + 1) (13, N6)) fun K7 =>
    fb (fh_clr M5 (sz + 1)) fun M8 =>
    fo K7 4 (some t) fun a9 =>
    fb (fh_sr M8 a9 1 (some (sz + 1))) fun M10 =>
    fn (29) 29 fun N11 =>
    fb (fh_uk K7 (sz + 2) (13, N11)) fun K12 =>
    fb (fh_clr M10 (sz + 2)) fun M13 =>
    fo K12 4 (some t) fun a14 =>
    fb (fh_sr M13 a14 2 (some (sz + 2))) fun M15 =>
    fn (0) 0 fun N16 =>
    fb (fh_uk K12 (sz + 3) (13, N16)) fun K17 =>
    fb (fh_clr M15 (sz + 3)) fun M18 =>
    fo K17 4 (some t) fun a19 =>
    fb (fh_sr M18 a19 3 (some (sz + 3))) fun M20 =>
    fb (fh_si M20 a19 4 (0)) fun M21 =>
    fb (fh_si M21 a19 5 (0)) fun M22 =>
    fb (fh_si M22 a19 6 (0)) fun M23 =>
    some (sz + 4, K17, M23)
def f_X4_clear (K : fh_K) (M : fh_M) (t : Nat) : Option (fh_M) :=
  fo K 4 (some t) fun a1 =>
    fb (fh_si M a1 4 (0)) fun M2 =>
    fb (fh_si M2 a1 5 (0)) fun M3 =>
    fb (fh_si M3 a1 6 (0)) fun M4 =>
    some M4
def f_X10_sumOfFirst_J27 (K : fh_K) (M : fh_M) (v2 : Int32) : Option (Int32) :=
  some (v2 &&& 255)
def f_X10_sumOfFirst_L4 (K : fh_K) (M : fh_M) : Nat → Option Nat → Int32 → Int32 → Int32 → Option (Int32)
  | 0 => fun _ _ _ _ => none
  | n + 1 => fun v0 v1 v2 v3 =>
    if v1 ≤ v3 then
      f_X10_sumOfFirst_J27 K M (v2) 
    else
      fa K 13 (v0) fun a1 =>
        if (nI (K a1).2) ≤ v3 then
        f_X10_sumOfFirst_J27 K M (v2) 
      else
        fi K 13 (v0) (v3) fun a2 =>
          f_X10_sumOfFirst_L4 K M n (v0) (v1) (v2 + (M.1 a2 v3.toNatClampNeg)) (v3 + 1) 
def f_X10_sumOfFirst (K : fh_K) (M : fh_M) (p0 : Option Nat) (p1 : Int32) : Option (Int32) :=
  f_X10_sumOfFirst_L4 K M 4096 (p0) (p1) (0) (0) 
def f_X10_holds (K : fh_K) (M : fh_M) (p0 : Int32) (p1 : Int32) : Option (Int32) :=
  if p1 < 0 then
    some 0
  else
    if 12 ≤ p1 then
      some 0
    else
      if ((p0 >>> (p1 &&& 31)) &&& 1) = 1 then
        some 1
      else
        some 0
def f_X4_addRecord (K : fh_K) (M : fh_M) (t : Nat) (p1 : Int32) (p2 : Int32) (p3 : Int32) : Option (fh_M) :=
  fo K 4 (some t) fun a1 =>
    if (M.1 a1 4) < 29 then
    fi K 13 (M.2.2 a1 0) (M.1 a1 4) fun a2 =>
      fb (fh_si M a2 (M.1 a1 4).toNatClampNeg (p1)) fun M3 =>
      fi K 13 (M3.2.2 a1 1) (M3.1 a1 4) fun a4 =>
      fb (fh_si M3 a4 (M3.1 a1 4).toNatClampNeg (p2)) fun M5 =>
      fi K 13 (M5.2.2 a1 2) (M5.1 a1 4) fun a6 =>
      fb (fh_si M5 a6 (M5.1 a1 4).toNatClampNeg (p3)) fun M7 =>
      fb (fh_si M7 a1 4 ((M7.1 a1 4) + 1)) fun M8 =>
      fb (fh_si M8 a1 5 ((M8.1 a1 5) ||| (1 <<< (p1 &&& 31)))) fun M9 =>
      some M9
  else
    some M
def f_X4_readRecords_J124 (K : fh_K) (rec6 : Nat → Int32 → Int32 → Int32 → Int32 → fh_M → Option (fh_M)) (t : Nat) (v1 : Int32) (v3 : Int32) (v5 : Int32) (s0 : Int32) (M : fh_M) : Option (fh_M) :=
  rec6 t (v1) (v3) (s0) (v5 + 1) M
def f_X4_readRecords_J110 (K : fh_K) (rec6 : Nat → Int32 → Int32 → Int32 → Int32 → fh_M → Option (fh_M)) (t : Nat) (v1 : Int32) (v3 : Int32) (v5 : Int32) (v7 : Int32) (v8 : Int32) (v9 : Int32) (M : fh_M) : Option (fh_M) :=
  if v9 = 0 then
    f_X4_readRecords_J124 K rec6 t (v1) (v3) (v5) (v3) M
  else
    f_X4_readRecords_J124 K rec6 t (v1) (v3) (v5) (v7 + v8) M
def f_X4_readRecords_J100 (K : fh_K) (rec6 : Nat → Int32 → Int32 → Int32 → Int32 → fh_M → Option (fh_M)) (t : Nat) (v1 : Int32) (v3 : Int32) (v5 : Int32) (v7 : Int32) (v8 : Int32) (v9 : Int32) (M : fh_M) : Option (fh_M) :=
  fo K 4 (some t) fun a15 =>
    fb (fh_si M a15 6 ((M.1 a15 6) + 1)) fun M16 =>
    f_X4_readRecords_J110 K rec6 t (v1) (v3) (v5) (v7) (v8) (v9) M16
def f_X4_readRecords_J71 (K : fh_K) (rec6 : Nat → Int32 → Int32 → Int32 → Int32 → fh_M → Option (fh_M)) (t : Nat) (v1 : Int32) (v3 : Int32) (v5 : Int32) (v6 : Int32) (v7 : Int32) (v8 : Int32) (s0 : Int32) (M : fh_M) : Option (fh_M) :=
  if s0 = 0 then
    f_X4_readRecords_J100 K rec6 t (v1) (v3) (v5) (v7) (v8) (s0) M
  else
    (f_X10_holds K M (v1) (v6)).bind fun r8 =>
      if r8 = 0 then
      f_X4_readRecords_J100 K rec6 t (v1) (v3) (v5) (v7) (v8) (s0) M
    else
      fo K 4 (some t) fun a9 =>
        (f_X4_addRecord K M a9 (v6) (v8) (v7)).bind fun M11 =>
        f_X4_readRecords_J110 K rec6 t (v1) (v3) (v5) (v7) (v8) (s0) M11
def f_X4_readRecords_J55 (K : fh_K) (rec6 : Nat → Int32 → Int32 → Int32 → Int32 → fh_M → Option (fh_M)) (t : Nat) (v1 : Int32) (v3 : Int32) (v5 : Int32) (v6 : Int32) (v7 : Int32) (s0 : Int32) (M : fh_M) : Option (fh_M) :=
  if (v3 - v7) < s0 then
    f_X4_readRecords_J71 K rec6 t (v1) (v3) (v5) (v6) (v7) (s0) (0) M
  else
    f_X4_readRecords_J71 K rec6 t (v1) (v3) (v5) (v6) (v7) (s0) (1) M
def f_X4_readRecords_L6 (K : fh_K) : Nat → Nat → Int32 → Int32 → Int32 → Int32 → fh_M → Option (fh_M)
  | 0 => fun _ _ _ _ _ _ => none
  | n + 1 => fun t v1 v3 v4 v5 M =>
    if 60 ≤ v5 then
      some M
    else
      if v3 ≤ v4 then
        some M
      else
        fo K 4 (some t) fun a1 =>
          fi K 13 (M.2.2 a1 3) (v4) fun a2 =>
          if v3 ≤ (v4 + 1) then
          f_X4_readRecords_J55 K (f_X4_readRecords_L6 K n) t (v1) (v3) (v5) (M.1 a2 v4.toNatClampNeg) (v4 + 2) (0) M
        else
          fi K 13 (M.2.2 a1 3) (v4 + 1) fun a3 =>
            f_X4_readRecords_J55 K (f_X4_readRecords_L6 K n) t (v1) (v3) (v5) (M.1 a2 v4.toNatClampNeg) (v4 + 2) (M.1 a3 (v4 + 1).toNatClampNeg) M
def f_X4_readRecords (K : fh_K) (M : fh_M) (t : Nat) (p1 : Int32) (p2 : Int32) (p3 : Int32) : Option (fh_M) :=
  f_X4_readRecords_L6 K 4096 t (p1) (p3) (p2) (0) M
def f_X4_readBy_J87 (K : fh_K) (t : Nat) (v1 : Option Nat) (v3 : Int32) (v4 : Int32) (M : fh_M) : Option (fh_M) :=
  fo K 2 (v1) fun a18 =>
    fo K 4 (some t) fun a19 =>
    (f_X4_readRecords K M a19 (M.1 a18 1) (v3) (v4)).bind fun M21 =>
    some M21
def f_X4_readBy_J75 (K : fh_K) (t : Nat) (v1 : Option Nat) (v3 : Int32) (v4 : Int32) (M : fh_M) : Option (fh_M) :=
  fo K 2 (v1) fun a22 =>
    if (M.1 a22 2) = 0 then
    f_X4_readBy_J87 K t (v1) (v3) (v4) M
  else
    fo K 4 (some t) fun a23 =>
      fb (fh_si M a23 6 (1)) fun M24 =>
      f_X4_readBy_J87 K t (v1) (v3) (v4) M24
def f_X4_readBy_J69 (K : fh_K) (t : Nat) (v1 : Option Nat) (v3 : Int32) (v4 : Int32) (s0 : Int32) (s1 : Option Nat) (M : fh_M) : Option (fh_M) :=
  fo K 4 (s1) fun a16 =>
    fb (fh_si M a16 6 (s0)) fun M17 =>
    f_X4_readBy_J87 K t (v1) (v3) (v4) M17
def f_X4_readBy (K : fh_K) (M : fh_M) (t : Nat) (p1 : Option Nat) (p2 : Option Nat) : Option (fh_M) :=
  fo K 4 (some t) fun a1 =>
    (f_X4_clear K M a1).bind fun M3 =>
    fb (fh_sr M3 a1 3 (p2)) fun M4 =>
    fo K 2 (p1) fun a5 =>
    (f_X2_marks K M4 a5 (p2)).bind fun r6 =>
    if r6 = 0 then
    fb (fh_si M4 a1 6 ((-2))) fun M14 =>
      some M14
  else
    fa K 13 (M4.2.2 a5 0) fun a7 =>
      fa K 13 (p2) fun a8 =>
      if (M4.1 a5 2) = 0 then
      f_X4_readBy_J75 K t (p1) (nI (K a7).2) (nI (K a8).2) M4
    else
      if (nI (K a8).2) ≤ (nI (K a7).2) then
        f_X4_readBy_J75 K t (p1) (nI (K a7).2) (nI (K a8).2) M4
      else
        fi K 13 (p2) ((nI (K a8).2) + (-1)) fun a9 =>
          (f_X10_sumOfFirst K M4 (p2) ((nI (K a8).2) + (-1))).bind fun r10 =>
          if (M4.1 a9 ((nI (K a8).2) + (-1)).toNatClampNeg) = r10 then
          f_X4_readBy_J69 K t (p1) (nI (K a7).2) ((nI (K a8).2) + (-1)) (0) (some t) M4
        else
          f_X4_readBy_J69 K t (p1) (nI (K a7).2) ((nI (K a8).2) + (-1)) (1) (some t) M4
def f_X4_nextWith_J28 (K : fh_K) (M : fh_M) (t : Nat) : Option (Int32) :=
  fo K 4 (some t) fun a5 =>
    some (M.1 a5 4)
def f_X4_nextWith_L2 (K : fh_K) (M : fh_M) : Nat → Nat → Int32 → Int32 → Option (Int32)
  | 0 => fun _ _ _ => none
  | n + 1 => fun t v1 v3 =>
    fo K 4 (some t) fun a1 =>
      if (M.1 a1 4) ≤ v3 then
      f_X4_nextWith_J28 K M t 
    else
      fi K 13 (M.2.2 a1 0) (v3) fun a2 =>
        if (M.1 a2 v3.toNatClampNeg) = v1 then
        some v3
      else
        f_X4_nextWith_L2 K M n t (v1) (v3 + 1) 
def f_X4_nextWith (K : fh_K) (M : fh_M) (t : Nat) (p1 : Int32) (p2 : Int32) : Option (Int32) :=
  f_X4_nextWith_L2 K M 4096 t (p1) (p2) 
def f_X4_sameRecord_L20 (K : fh_K) (M : fh_M) : Nat → Nat → Int32 → Option Nat → Int32 → Int32 → Option (Int32)
  | 0 => fun _ _ _ _ _ => none
  | n + 1 => fun t v1 v2 v3 v4 =>
    fo K 4 (some t) fun a6 =>
      fi K 13 (M.2.2 a6 1) (v1) fun a7 =>
      if (M.1 a7 v1.toNatClampNeg) ≤ v4 then
      some 1
    else
      fi K 13 (M.2.2 a6 2) (v1) fun a8 =>
        fi K 13 (M.2.2 a6 3) ((M.1 a8 v1.toNatClampNeg) + v4) fun a9 =>
        fo K 4 (v2) fun a10 =>
        fi K 13 (M.2.2 a10 2) (v3) fun a11 =>
        fi K 13 (M.2.2 a10 3) ((M.1 a11 v3.toNatClampNeg) + v4) fun a12 =>
        if (M.1 a9 ((M.1 a8 v1.toNatClampNeg) + v4).toNatClampNeg) = (M.1 a12 ((M.1 a11 v3.toNatClampNeg) + v4).toNatClampNeg) then
        f_X4_sameRecord_L20 K M n t (v1) (v2) (v3) (v4 + 1) 
      else
        some 0
def f_X4_sameRecord (K : fh_K) (M : fh_M) (t : Nat) (p1 : Int32) (p2 : Option Nat) (p3 : Int32) : Option (Int32) :=
  fo K 4 (some t) fun a1 =>
    fi K 13 (M.2.2 a1 1) (p1) fun a2 =>
    fo K 4 (p2) fun a3 =>
    fi K 13 (M.2.2 a3 1) (p3) fun a4 =>
    if (M.1 a2 p1.toNatClampNeg) = (M.1 a4 p3.toNatClampNeg) then
    f_X4_sameRecord_L20 K M 4096 t (p1) (p2) (p3) (0) 
  else
    some 0
def f_X4_agrees_J66 (K : fh_K) (M : fh_M) (v1 : Option Nat) (v3 : Int32) : Option (Int32) :=
  fo K 4 (v1) fun a12 =>
    if v3 < (M.1 a12 4) then
    some 0
  else
    some 1
def f_X4_agrees_J60 (K : fh_K) (M : fh_M) (rec10 : Nat → Option Nat → Int32 → Int32 → Int32 → Option (Int32)) (t : Nat) (v1 : Option Nat) (v2 : Int32) (v3 : Int32) (v4 : Int32) : Option (Int32) :=
  rec10 t (v1) (v2) (v3) (v4 + 1) 
def f_X4_agrees_L10 (K : fh_K) (M : fh_M) : Nat → Nat → Option Nat → Int32 → Int32 → Int32 → Option (Int32)
  | 0 => fun _ _ _ _ _ => none
  | n + 1 => fun t v1 v2 v3 v4 =>
    fo K 4 (some t) fun a3 =>
      if (M.1 a3 4) ≤ v4 then
      f_X4_agrees_J66 K M (v1) (v3) 
    else
      fi K 13 (M.2.2 a3 0) (v4) fun a4 =>
        if (M.1 a4 v4.toNatClampNeg) = v2 then
        fo K 4 (v1) fun a5 =>
          if (M.1 a5 4) ≤ v3 then
          some 0
        else
          (f_X4_sameRecord K M a3 (v4) (v1) (v3)).bind fun r6 =>
            if r6 = 0 then
            some 0
          else
            (f_X4_nextWith K M a5 (v2) (v3 + 1)).bind fun r7 =>
              f_X4_agrees_J60 K M (f_X4_agrees_L10 K M n) t (v1) (v2) (r7) (v4) 
      else
        f_X4_agrees_J60 K M (f_X4_agrees_L10 K M n) t (v1) (v2) (v3) (v4) 
def f_X4_agrees (K : fh_K) (M : fh_M) (t : Nat) (p1 : Option Nat) (p2 : Int32) : Option (Int32) :=
  fo K 4 (p1) fun a1 =>
    (f_X4_nextWith K M a1 (p2) (0)).bind fun r2 =>
    f_X4_agrees_L10 K M 4096 t (p1) (p2) (r2) (0) 
abbrev rm_X4_init : Room := { frames := 1, cells := 4, slots := 87, locals := 24 }
set_option maxRecDepth 10000 in
theorem r_X4_init (l : Launch) (D : fh_D) (A : Nat → Prop) {K : fh_K} {sz : Nat} {M : fh_M} {M' : fh_M} {K' : fh_K} {sz' : Nat} {t : Nat} (h : f_X4_init sz K M t = some (sz', K', M')) : fh_Met l yX4_init cX4_init 1 none rm_X4_init D K M sz A [va_rf (some t)] none K' M' sz' := by
  refine fh_enter (by decide) (by simp [lg_sl, va_rf_cat, cat_i, cat_l]) (lv := [(0, va_rf (some t))]) (by simp [lv_args, va_rf_cat, cat_i, cat_l]) ?_
  intro X C E hnm _ _ _
  replace C : fh_C X 1 cX4_init RX4 := C
  unfold f_X4_init at h
  refine fv_aload_n C 0 rfl rfl dX4_init_0 ?_
  refine fv_objInit C lk_RX4_3 jw_oi_instanceMethod jw_oi_code (Nat.le_of_ble_eq_true rfl) (by simp [va_rf_cat, cat_i, cat_l]) dX4_init_1 ?_
  refine fv_aload_n C 0 rfl rfl dX4_init_4 ?_
  refine fv_bipush (v := 29) C (by decide) dX4_init_5 ?_
  replace h := fn_s h
  obtain ⟨N1, pN1, qN1, bN1, h⟩ := h
  replace h := fb_s h
  obtain ⟨K2, eK2, h⟩ := h
  replace h := fb_s h
  obtain ⟨M3, eM3, h⟩ := h
  refine fv_newI C ac_int pN1 qN1 (Nat.le_trans bN1 (by decide)) (Nat.le_of_ble_eq_true rfl) (by show 0 + N1 ≤ _; exact Nat.le_trans (Nat.add_le_add_left bN1 _) (Nat.le_of_ble_eq_true rfl)) dX4_init_7 ?_
  refine fv_eqK eK2 (fv_eqM eM3 ?_)
  refine fv_widen (mc := 1) (ms := 29) (cc := ⟨#[]⟩) (own := "") (Nat.le_of_ble_eq_true rfl) (by exact Nat.add_le_add_left bN1 _) ?_
  replace h := fo_s h
  obtain ⟨a4, ea4, ka4, h⟩ := h
  replace h := fb_s h
  obtain ⟨M5, eM5, h⟩ := h
  refine fv_putFR (fin := true) C fl_RX4_9 ea4 ka4 rfl hnm (narrow_rf_a _ _) dX4_init_9 (fv_eqM eM5 ?_)
  refine fv_aload_n C 0 rfl rfl dX4_init_12 ?_
  refine fv_bipush (v := 29) C (by decide) dX4_init_13 ?_
  replace h := fn_s h
  obtain ⟨N6, pN6, qN6, bN6, h⟩ := h
  replace h := fb_s h
  obtain ⟨K7, eK7, h⟩ := h
  replace h := fb_s h
  obtain ⟨M8, eM8, h⟩ := h
  refine fv_newI C ac_int pN6 qN6 (Nat.le_trans bN6 (by decide)) (Nat.le_of_ble_eq_true rfl) (by show 29 + N6 ≤ _; exact Nat.le_trans (Nat.add_le_add_left bN6 _) (Nat.le_of_ble_eq_true rfl)) dX4_init_15 ?_
  refine fv_eqK eK7 (fv_eqM eM8 ?_)
  refine fv_widen (mc := 2) (ms := 58) (cc := ⟨#[]⟩) (own := "") (Nat.le_of_ble_eq_true rfl) (by exact Nat.add_le_add_left bN6 _) ?_
  replace h := fo_s h
  obtain ⟨a9, ea9, ka9, h⟩ := h
  replace h := fb_s h
  obtain ⟨M10, eM10, h⟩ := h
  refine fv_putFR (fin := true) C fl_RX4_15 ea9 ka9 rfl hnm (narrow_rf_a _ _) dX4_init_17 (fv_eqM eM10 ?_)
  refine fv_aload_n C 0 rfl rfl dX4_init_20 ?_
  refine fv_bipush (v := 29) C (by decide) dX4_init_21 ?_
  replace h := fn_s h
  obtain ⟨N11, pN11, qN11, bN11, h⟩ := h
  replace h := fb_s h
  obtain ⟨K12, eK12, h⟩ := h
  replace h := fb_s h
  obtain ⟨M13, eM13, h⟩ := h
  refine fv_newI C ac_int pN11 qN11 (Nat.le_trans bN11 (by decide)) (Nat.le_of_ble_eq_true rfl) (by show 58 + N11 ≤ _; exact Nat.le_trans (Nat.add_le_add_left bN11 _) (Nat.le_of_ble_eq_true rfl)) dX4_init_23 ?_
  refine fv_eqK eK12 (fv_eqM eM13 ?_)
  refine fv_widen (mc := 3) (ms := 87) (cc := ⟨#[]⟩) (own := "") (Nat.le_of_ble_eq_true rfl) (by exact Nat.add_le_add_left bN11 _) ?_
  replace h := fo_s h
  obtain ⟨a14, ea14, ka14, h⟩ := h
  replace h := fb_s h
  obtain ⟨M15, eM15, h⟩ := h
  refine fv_putFR (fin := true) C fl_RX4_18 ea14 ka14 rfl hnm (narrow_rf_a _ _) dX4_init_25 (fv_eqM eM15 ?_)
  refine fv_aload_n C 0 rfl rfl dX4_init_28 ?_
  refine fv_iconst (v := 0) C (by decide) dX4_init_29 ?_
  replace h := fn_s h
  obtain ⟨N16, pN16, qN16, bN16, h⟩ := h
  replace h := fb_s h
  obtain ⟨K17, eK17, h⟩ := h
  replace h := fb_s h
  obtain ⟨M18, eM18, h⟩ := h
  refine fv_newI C ac_int pN16 qN16 (Nat.le_trans bN16 (by decide)) (Nat.le_of_ble_eq_true rfl) (by show 87 + N16 ≤ _; exact Nat.le_trans (Nat.add_le_add_left bN16 _) (Nat.le_of_ble_eq_true rfl)) dX4_init_30 ?_
  refine fv_eqK eK17 (fv_eqM eM18 ?_)
  refine fv_widen (mc := 4) (ms := 87) (cc := ⟨#[]⟩) (own := "") (Nat.le_of_ble_eq_true rfl) (by exact Nat.add_le_add_left bN16 _) ?_
  replace h := fo_s h
  obtain ⟨a19, ea19, ka19, h⟩ := h
  replace h := fb_s h
  obtain ⟨M20, eM20, h⟩ := h
  refine fv_putR (fin := false) C fl_RX4_21 ea19 ka19 (narrow_rf_a _ _) dX4_init_32 (fv_eqM eM20 ?_)
  refine fv_aload_n C 0 rfl rfl dX4_init_35 ?_
  refine fv_iconst (v := 0) C (by decide) dX4_init_36 ?_
  replace h := fb_s h
  obtain ⟨M21, eM21, h⟩ := h
  refine fv_putI (fin := false) C fl_RX4_24 ea19 ka19 (narrow_i _) dX4_init_37 (fv_eqM eM21 ?_)
  refine fv_aload_n C 0 rfl rfl dX4_init_40 ?_
  refine fv_iconst (v := 0) C (by decide) dX4_init_41 ?_
  replace h := fb_s h
  obtain ⟨M22, eM22, h⟩ := h
  refine fv_putI (fin := false) C fl_RX4_28 ea19 ka19 (narrow_i _) dX4_init_42 (fv_eqM eM22 ?_)
  refine fv_aload_n C 0 rfl rfl dX4_init_45 ?_
  refine fv_iconst (v := 0) C (by decide) dX4_init_46 ?_
  replace h := fb_s h
  obtain ⟨M23, eM23, h⟩ := h
  refine fv_putI (fin := false) C fl_RX4_31 ea19 ka19 (narrow_i _) dX4_init_47 (fv_eqM eM23 ?_)
  cases h
  exact fv_vret (z := (0, 0, 0)) (st := []) C E dX4_init_50
abbrev rm_X4_clear : Room := { frames := 0, cells := 0, slots := 0, locals := 0 }
set_option maxRecDepth 10000 in
theorem r_X4_clear (l : Launch) (D : fh_D) (A : Nat → Prop) {K : fh_K} {sz : Nat} {M : fh_M} {M' : fh_M} {t : Nat} (h : f_X4_clear K M t = some M') : fh_Met l yX4_clear cX4_clear 1 none rm_X4_clear D K M sz A [va_rf (some t)] none K M' sz := by
  refine fh_enter (by decide) (by simp [lg_sl, va_rf_cat, cat_i, cat_l]) (lv := [(0, va_rf (some t))]) (by simp [lv_args, va_rf_cat, cat_i, cat_l]) ?_
  intro X C E hnm _ _ _
  replace C : fh_C X 1 cX4_clear RX4 := C
  unfold f_X4_clear at h
  refine fv_aload_n C 0 rfl rfl dX4_clear_0 ?_
  refine fv_iconst (v := 0) C (by decide) dX4_clear_1 ?_
  replace h := fo_s h
  obtain ⟨a1, ea1, ka1, h⟩ := h
  replace h := fb_s h
  obtain ⟨M2, eM2, h⟩ := h
  refine fv_putI (fin := false) C fl_RX4_24 ea1 ka1 (narrow_i _) dX4_clear_2 (fv_eqM eM2 ?_)
  refine fv_aload_n C 0 rfl rfl dX4_clear_5 ?_
  refine fv_iconst (v := 0) C (by decide) dX4_clear_6 ?_
  replace h := fb_s h
  obtain ⟨M3, eM3, h⟩ := h
  refine fv_putI (fin := false) C fl_RX4_28 ea1 ka1 (narrow_i _) dX4_clear_7 (fv_eqM eM3 ?_)
  refine fv_aload_n C 0 rfl rfl dX4_clear_10 ?_
  refine fv_iconst (v := 0) C (by decide) dX4_clear_11 ?_
  replace h := fb_s h
  obtain ⟨M4, eM4, h⟩ := h
  refine fv_putI (fin := false) C fl_RX4_31 ea1 ka1 (narrow_i _) dX4_clear_12 (fv_eqM eM4 ?_)
  cases h
  exact fv_vret (z := (0, 0, 0)) (st := []) C E dX4_clear_15
abbrev rm_X10_sumOfFirst : Room := { frames := 0, cells := 0, slots := 0, locals := 0 }
set_option maxRecDepth 10000 in
theorem r_X10_sumOfFirst_J27 {X : fh_X} {K : fh_K} {sz : Nat} {M : fh_M} {r : Int32} (C : fh_C X 4 cX10_sumOfFirst RX10) (E : fh_E X rm_X10_sumOfFirst (some .int) (some (.int r)) K M sz) (v2 : Int32) (h : f_X10_sumOfFirst_J27 K M v2 = some r) : fh_V X rm_X10_sumOfFirst 4 (sz, 0, 0) K M 27 [(2, .int v2)] [] := by
  unfold f_X10_sumOfFirst_J27 at h
  refine fv_iload_n C 0 rfl rfl dX10_sumOfFirst_27 ?_
  refine fv_sipush (v := 255) C (by decide) dX10_sumOfFirst_28 ?_
  refine fv_iand C dX10_sumOfFirst_31 ?_
  cases h
  exact fv_iret (z := (0, 0, 0)) (st := []) C E dX10_sumOfFirst_32
set_option maxRecDepth 10000 in
theorem r_X10_sumOfFirst_L4 {X : fh_X} {K : fh_K} {sz : Nat} {M : fh_M} {r : Int32} (C : fh_C X 4 cX10_sumOfFirst RX10) (E : fh_E X rm_X10_sumOfFirst (some .int) (some (.int r)) K M sz) : ∀ (n : Nat) (v0 : Option Nat) (v1 : Int32) (v2 : Int32) (v3 : Int32), f_X10_sumOfFirst_L4 K M n v0 v1 v2 v3 = some r → fh_V X rm_X10_sumOfFirst 4 (sz, 0, 0) K M 4 [(0, va_rf (v0)), (1, .int v1), (2, .int v2), (3, .int v3)] [] := by
  intro n
  induction n with
  | zero => intro v0 v1 v2 v3 h; cases h
  | succ n ih =>
    intro v0 v1 v2 v3 h
    unfold f_X10_sumOfFirst_L4 at h
    refine fv_iload_n C 3 rfl rfl dX10_sumOfFirst_4 ?_
    refine fv_iload_n C 1 rfl rfl dX10_sumOfFirst_5 ?_
    refine fv_icmp_ge C 27 (by decide) dX10_sumOfFirst_6 (fun c4 => ?_) (fun c4 => ?_)
    · replace h := itT c4 h
      refine fv_sub (cc := ⟨#[]⟩) (own := "") [2] rfl ?_
      exact r_X10_sumOfFirst_J27 C E  _ h
    · replace h := itF c4 h
      refine fv_iload_n C 3 rfl rfl dX10_sumOfFirst_9 ?_
      refine fv_aload_n C 0 rfl rfl dX10_sumOfFirst_10 ?_
      replace h := fa_s h
      obtain ⟨a1, ea1, ka1, h⟩ := h
      refine fv_alen C 0 (by decide) (fun _ => rfl) ea1 ka1 dX10_sumOfFirst_11 ?_
      refine fv_icmp_ge C 27 (by decide) dX10_sumOfFirst_12 (fun c3 => ?_) (fun c3 => ?_)
      · replace h := itT c3 h
        refine fv_sub (cc := ⟨#[]⟩) (own := "") [2] rfl ?_
        exact r_X10_sumOfFirst_J27 C E  _ h
      · replace h := itF c3 h
        refine fv_iload_n C 2 rfl rfl dX10_sumOfFirst_15 ?_
        refine fv_aload_n C 0 rfl rfl dX10_sumOfFirst_16 ?_
        refine fv_iload_n C 3 rfl rfl dX10_sumOfFirst_17 ?_
        replace h := fi_s h
        obtain ⟨a2, ea2, ka2, ia2, h⟩ := h
        refine fv_iald C ea2 ka2 ia2 dX10_sumOfFirst_18 ?_
        refine fv_iadd C dX10_sumOfFirst_19 ?_
        refine fv_istore_n (i := 2) (lv' := [(2, .int (v2 + (M.1 a2 v3.toNatClampNeg))), (0, va_rf (v0)), (1, .int v1), (3, .int v3)]) C rfl (by decide) (by first | rfl | simp [va_rf_cat]) dX10_sumOfFirst_20 ?_
        refine fv_iinc (v := v3 + 1) (lv' := [(3, .int (v3 + 1)), (2, .int (v2 + (M.1 a2 v3.toNatClampNeg))), (0, va_rf (v0)), (1, .int v1)]) C 3 rfl (by first | rfl | exact congrArg _ (by decide)) (by decide) (by first | rfl | simp [va_rf_cat]) dX10_sumOfFirst_21 ?_
        refine fv_goto C 4 (by decide) dX10_sumOfFirst_24 ?_
        refine fv_sub (cc := ⟨#[]⟩) (own := "") [2, 3, 1, 0] rfl ?_
        exact ih _ _ _ _ h
set_option maxRecDepth 10000 in
theorem r_X10_sumOfFirst (l : Launch) (D : fh_D) (A : Nat → Prop) {K : fh_K} {sz : Nat} {M : fh_M} {r : Int32} {p0 : Option Nat} {p1 : Int32} (h : f_X10_sumOfFirst K M p0 p1 = some r) : fh_Met l yX10_sumOfFirst cX10_sumOfFirst 4 (some .int) rm_X10_sumOfFirst D K M sz A [va_rf p0, .int p1] (some (.int r)) K M sz := by
  refine fh_enter (by decide) (by simp [lg_sl, va_rf_cat, cat_i, cat_l]) (lv := [(0, va_rf p0), (1, .int p1)]) (by simp [lv_args, va_rf_cat, cat_i, cat_l]) ?_
  intro X C E hnm _ _ _
  replace C : fh_C X 4 cX10_sumOfFirst RX10 := C
  unfold f_X10_sumOfFirst at h
  refine fv_iconst (v := 0) C (by decide) dX10_sumOfFirst_0 ?_
  refine fv_istore_n (i := 2) (lv' := [(2, .int 0), (0, va_rf (p0)), (1, .int p1)]) C rfl (by decide) (by first | rfl | simp [va_rf_cat]) dX10_sumOfFirst_1 ?_
  refine fv_iconst (v := 0) C (by decide) dX10_sumOfFirst_2 ?_
  refine fv_istore_n (i := 3) (lv' := [(3, .int 0), (2, .int 0), (0, va_rf (p0)), (1, .int p1)]) C rfl (by decide) (by first | rfl | simp [va_rf_cat]) dX10_sumOfFirst_3 ?_
  refine fv_sub (cc := ⟨#[]⟩) (own := "") [2, 3, 1, 0] rfl ?_
  exact r_X10_sumOfFirst_L4 C E  4096 _ _ _ _ h
abbrev rm_X10_holds : Room := { frames := 0, cells := 0, slots := 0, locals := 0 }
set_option maxRecDepth 10000 in
theorem r_X10_holds (l : Launch) (D : fh_D) (A : Nat → Prop) {K : fh_K} {sz : Nat} {M : fh_M} {r : Int32} {p0 : Int32} {p1 : Int32} (h : f_X10_holds K M p0 p1 = some r) : fh_Met l yX10_holds cX10_holds 2 (some .boolean) rm_X10_holds D K M sz A [.int p0, .int p1] (some (.int r)) K M sz := by
  refine fh_enter (by decide) (by simp [lg_sl, va_rf_cat, cat_i, cat_l]) (lv := [(0, .int p0), (1, .int p1)]) (by simp [lv_args, va_rf_cat, cat_i, cat_l]) ?_
  intro X C E hnm _ _ _
  replace C : fh_C X 2 cX10_holds RX10 := C
  unfold f_X10_holds at h
  refine fv_iload_n C 1 rfl rfl dX10_holds_0 ?_
  refine fv_if_lt C 23 (by decide) dX10_holds_1 (fun c3 => ?_) (fun c3 => ?_)
  · replace h := itT c3 h
    refine fv_iconst (v := 0) C (by decide) dX10_holds_23 ?_
    cases h
    exact fv_zret (z := (0, 0, 0)) (st := []) C E (Or.inl rfl) dX10_holds_24
  · replace h := itF c3 h
    refine fv_iload_n C 1 rfl rfl dX10_holds_4 ?_
    refine fv_bipush (v := 12) C (by decide) dX10_holds_5 ?_
    refine fv_icmp_ge C 23 (by decide) dX10_holds_7 (fun c2 => ?_) (fun c2 => ?_)
    · replace h := itT c2 h
      refine fv_iconst (v := 0) C (by decide) dX10_holds_23 ?_
      cases h
      exact fv_zret (z := (0, 0, 0)) (st := []) C E (Or.inl rfl) dX10_holds_24
    · replace h := itF c2 h
      refine fv_iload_n C 0 rfl rfl dX10_holds_10 ?_
      refine fv_iload_n C 1 rfl rfl dX10_holds_11 ?_
      refine fv_ishr C dX10_holds_12 ?_
      refine fv_iconst (v := 1) C (by decide) dX10_holds_13 ?_
      refine fv_iand C dX10_holds_14 ?_
      refine fv_iconst (v := 1) C (by decide) dX10_holds_15 ?_
      refine fv_icmp_ne C 23 (by decide) dX10_holds_16 (fun c1 => ?_) (fun c1 => ?_)
      · replace h := itF c1 h
        refine fv_iconst (v := 0) C (by decide) dX10_holds_23 ?_
        cases h
        exact fv_zret (z := (0, 0, 0)) (st := []) C E (Or.inl rfl) dX10_holds_24
      · replace h := itT c1 h
        refine fv_iconst (v := 1) C (by decide) dX10_holds_19 ?_
        refine fv_goto C 24 (by decide) dX10_holds_20 ?_
        cases h
        exact fv_zret (z := (0, 0, 0)) (st := []) C E (Or.inr rfl) dX10_holds_24
abbrev rm_X4_addRecord : Room := { frames := 0, cells := 0, slots := 0, locals := 0 }
set_option maxRecDepth 10000 in
theorem r_X4_addRecord (l : Launch) (D : fh_D) (A : Nat → Prop) {K : fh_K} {sz : Nat} {M : fh_M} {M' : fh_M} {t : Nat} {p1 : Int32} {p2 : Int32} {p3 : Int32} (h : f_X4_addRecord K M t p1 p2 p3 = some M') : fh_Met l yX4_addRecord cX4_addRecord 4 none rm_X4_addRecord D K M sz A [va_rf (some t), .int p1, .int p2, .int p3] none K M' sz := by
  refine fh_enter (by decide) (by simp [lg_sl, va_rf_cat, cat_i, cat_l]) (lv := [(0, va_rf (some t)), (1, .int p1), (2, .int p2), (3, .int p3)]) (by simp [lv_args, va_rf_cat, cat_i, cat_l]) ?_
  intro X C E hnm _ _ _
  replace C : fh_C X 4 cX4_addRecord RX4 := C
  unfold f_X4_addRecord at h
  refine fv_aload_n C 0 rfl rfl dX4_addRecord_0 ?_
  replace h := fo_s h
  obtain ⟨a1, ea1, ka1, h⟩ := h
  refine fv_getI C fl_RX4_24 ea1 ka1 dX4_addRecord_1 ?_
  refine fv_bipush (v := 29) C (by decide) dX4_addRecord_4 ?_
  refine fv_icmp_lt C 10 (by decide) dX4_addRecord_6 (fun c10 => ?_) (fun c10 => ?_)
  · replace h := itT c10 h
    refine fv_aload_n C 0 rfl rfl dX4_addRecord_10 ?_
    refine fv_getR C fl_RX4_9 ea1 ka1 dX4_addRecord_11 ?_
    refine fv_aload_n C 0 rfl rfl dX4_addRecord_14 ?_
    refine fv_getI C fl_RX4_24 ea1 ka1 dX4_addRecord_15 ?_
    refine fv_iload_n C 1 rfl rfl dX4_addRecord_18 ?_
    replace h := fi_s h
    obtain ⟨a2, ea2, ka2, ia2, h⟩ := h
    replace h := fb_s h
    obtain ⟨M3, eM3, h⟩ := h
    refine fv_iast C ea2 ka2 ia2 dX4_addRecord_19 (fv_eqM eM3 ?_)
    refine fv_aload_n C 0 rfl rfl dX4_addRecord_20 ?_
    refine fv_getR C fl_RX4_15 ea1 ka1 dX4_addRecord_21 ?_
    refine fv_aload_n C 0 rfl rfl dX4_addRecord_24 ?_
    refine fv_getI C fl_RX4_24 ea1 ka1 dX4_addRecord_25 ?_
    refine fv_iload_n C 2 rfl rfl dX4_addRecord_28 ?_
    replace h := fi_s h
    obtain ⟨a4, ea4, ka4, ia4, h⟩ := h
    replace h := fb_s h
    obtain ⟨M5, eM5, h⟩ := h
    refine fv_iast C ea4 ka4 ia4 dX4_addRecord_29 (fv_eqM eM5 ?_)
    refine fv_aload_n C 0 rfl rfl dX4_addRecord_30 ?_
    refine fv_getR C fl_RX4_18 ea1 ka1 dX4_addRecord_31 ?_
    refine fv_aload_n C 0 rfl rfl dX4_addRecord_34 ?_
    refine fv_getI C fl_RX4_24 ea1 ka1 dX4_addRecord_35 ?_
    refine fv_iload_n C 3 rfl rfl dX4_addRecord_38 ?_
    replace h := fi_s h
    obtain ⟨a6, ea6, ka6, ia6, h⟩ := h
    replace h := fb_s h
    obtain ⟨M7, eM7, h⟩ := h
    refine fv_iast C ea6 ka6 ia6 dX4_addRecord_39 (fv_eqM eM7 ?_)
    refine fv_aload_n C 0 rfl rfl dX4_addRecord_40 ?_
    refine fv_dupr C dX4_addRecord_41 ?_
    refine fv_getI C fl_RX4_24 ea1 ka1 dX4_addRecord_42 ?_
    refine fv_iconst (v := 1) C (by decide) dX4_addRecord_45 ?_
    refine fv_iadd C dX4_addRecord_46 ?_
    replace h := fb_s h
    obtain ⟨M8, eM8, h⟩ := h
    refine fv_putI (fin := false) C fl_RX4_24 ea1 ka1 (narrow_i _) dX4_addRecord_47 (fv_eqM eM8 ?_)
    refine fv_aload_n C 0 rfl rfl dX4_addRecord_50 ?_
    refine fv_dupr C dX4_addRecord_51 ?_
    refine fv_getI C fl_RX4_28 ea1 ka1 dX4_addRecord_52 ?_
    refine fv_iconst (v := 1) C (by decide) dX4_addRecord_55 ?_
    refine fv_iload_n C 1 rfl rfl dX4_addRecord_56 ?_
    refine fv_ishl C dX4_addRecord_57 ?_
    refine fv_ior C dX4_addRecord_58 ?_
    replace h := fb_s h
    obtain ⟨M9, eM9, h⟩ := h
    refine fv_putI (fin := false) C fl_RX4_28 ea1 ka1 (narrow_i _) dX4_addRecord_59 (fv_eqM eM9 ?_)
    cases h
    exact fv_vret (z := (0, 0, 0)) (st := []) C E dX4_addRecord_62
  · replace h := itF c10 h
    cases h
    exact fv_vret (z := (0, 0, 0)) (st := []) C E dX4_addRecord_9
abbrev rm_X4_readRecords : Room := { frames := 1, cells := 0, slots := 0, locals := 23 }
set_option maxRecDepth 10000 in
theorem r_X4_readRecords_J124 {X : fh_X} {K : fh_K} {sz : Nat} {M' : fh_M} (C : fh_C X 10 cX4_readRecords RX4) (E : fh_E X rm_X4_readRecords none none K M' sz) {rec6 : Nat → Int32 → Int32 → Int32 → Int32 → fh_M → Option (fh_M)} (hrec6 : ∀ (t : Nat) (v1 : Int32) (v3 : Int32) (v4 : Int32) (v5 : Int32) (M : fh_M), rec6 t v1 v3 v4 v5 M = some M' → fh_V X rm_X4_readRecords 10 (sz, 0, 0) K M 6 [(0, va_rf (some t)), (1, .int v1), (3, .int v3), (4, .int v4), (5, .int v5)] []) (t : Nat) (v1 : Int32) (v3 : Int32) (v5 : Int32) (s0 : Int32) (M : fh_M) (h : f_X4_readRecords_J124 K rec6 t v1 v3 v5 s0 M = some M') : fh_V X rm_X4_readRecords 10 (sz, 0, 0) K M 124 [(0, va_rf (some t)), (1, .int v1), (3, .int v3), (5, .int v5)] [.int s0] := by
  unfold f_X4_readRecords_J124 at h
  refine fv_istore (i := 4) (lv' := [(4, .int s0), (0, va_rf (some t)), (1, .int v1), (3, .int v3), (5, .int v5)]) C (by decide) (by first | rfl | simp [va_rf_cat]) dX4_readRecords_124 ?_
  refine fv_iinc (v := v5 + 1) (lv' := [(5, .int (v5 + 1)), (4, .int s0), (0, va_rf (some t)), (1, .int v1), (3, .int v3)]) C 4 rfl (by first | rfl | exact congrArg _ (by decide)) (by decide) (by first | rfl | simp [va_rf_cat]) dX4_readRecords_126 ?_
  refine fv_goto C 6 (by decide) dX4_readRecords_129 ?_
  refine fv_sub (cc := ⟨#[]⟩) (own := "") [2, 3, 4, 1, 0] rfl ?_
  exact hrec6 _ _ _ _ _ _ h
set_option maxRecDepth 10000 in
theorem r_X4_readRecords_J110 {X : fh_X} {K : fh_K} {sz : Nat} {M' : fh_M} (C : fh_C X 10 cX4_readRecords RX4) (E : fh_E X rm_X4_readRecords none none K M' sz) {rec6 : Nat → Int32 → Int32 → Int32 → Int32 → fh_M → Option (fh_M)} (hrec6 : ∀ (t : Nat) (v1 : Int32) (v3 : Int32) (v4 : Int32) (v5 : Int32) (M : fh_M), rec6 t v1 v3 v4 v5 M = some M' → fh_V X rm_X4_readRecords 10 (sz, 0, 0) K M 6 [(0, va_rf (some t)), (1, .int v1), (3, .int v3), (4, .int v4), (5, .int v5)] []) (t : Nat) (v1 : Int32) (v3 : Int32) (v5 : Int32) (v7 : Int32) (v8 : Int32) (v9 : Int32) (M : fh_M) (h : f_X4_readRecords_J110 K rec6 t v1 v3 v5 v7 v8 v9 M = some M') : fh_V X rm_X4_readRecords 10 (sz, 0, 0) K M 110 [(0, va_rf (some t)), (1, .int v1), (3, .int v3), (5, .int v5), (7, .int v7), (8, .int v8), (9, .int v9)] [] := by
  unfold f_X4_readRecords_J110 at h
  refine fv_iload C 6 rfl dX4_readRecords_110 ?_
  refine fv_if_eq C 123 (by decide) dX4_readRecords_112 (fun c14 => ?_) (fun c14 => ?_)
  · replace h := itT c14 h
    refine fv_iload_n C 2 rfl rfl dX4_readRecords_123 ?_
    refine fv_sub (cc := ⟨#[]⟩) (own := "") [0, 1, 2, 3] rfl ?_
    exact r_X4_readRecords_J124 C E hrec6 _ _ _ _ _ _ h
  · replace h := itF c14 h
    refine fv_iload C 4 rfl dX4_readRecords_115 ?_
    refine fv_iload C 5 rfl dX4_readRecords_117 ?_
    refine fv_iadd C dX4_readRecords_119 ?_
    refine fv_goto C 124 (by decide) dX4_readRecords_120 ?_
    refine fv_sub (cc := ⟨#[]⟩) (own := "") [0, 1, 2, 3] rfl ?_
    exact r_X4_readRecords_J124 C E hrec6 _ _ _ _ _ _ h
set_option maxRecDepth 10000 in
theorem r_X4_readRecords_J100 {X : fh_X} {K : fh_K} {sz : Nat} {M' : fh_M} (C : fh_C X 10 cX4_readRecords RX4) (E : fh_E X rm_X4_readRecords none none K M' sz) {rec6 : Nat → Int32 → Int32 → Int32 → Int32 → fh_M → Option (fh_M)} (hrec6 : ∀ (t : Nat) (v1 : Int32) (v3 : Int32) (v4 : Int32) (v5 : Int32) (M : fh_M), rec6 t v1 v3 v4 v5 M = some M' → fh_V X rm_X4_readRecords 10 (sz, 0, 0) K M 6 [(0, va_rf (some t)), (1, .int v1), (3, .int v3), (4, .int v4), (5, .int v5)] []) (t : Nat) (v1 : Int32) (v3 : Int32) (v5 : Int32) (v7 : Int32) (v8 : Int32) (v9 : Int32) (M : fh_M) (h : f_X4_readRecords_J100 K rec6 t v1 v3 v5 v7 v8 v9 M = some M') : fh_V X rm_X4_readRecords 10 (sz, 0, 0) K M 100 [(0, va_rf (some t)), (1, .int v1), (3, .int v3), (5, .int v5), (7, .int v7), (8, .int v8), (9, .int v9)] [] := by
  unfold f_X4_readRecords_J100 at h
  refine fv_aload_n C 0 rfl rfl dX4_readRecords_100 ?_
  refine fv_dupr C dX4_readRecords_101 ?_
  replace h := fo_s h
  obtain ⟨a15, ea15, ka15, h⟩ := h
  refine fv_getI C fl_RX4_31 ea15 ka15 dX4_readRecords_102 ?_
  refine fv_iconst (v := 1) C (by decide) dX4_readRecords_105 ?_
  refine fv_iadd C dX4_readRecords_106 ?_
  replace h := fb_s h
  obtain ⟨M16, eM16, h⟩ := h
  refine fv_putI (fin := false) C fl_RX4_31 ea15 ka15 (narrow_i _) dX4_readRecords_107 (fv_eqM eM16 ?_)
  refine fv_sub (cc := ⟨#[]⟩) (own := "") [0, 1, 2, 3, 4, 5, 6] rfl ?_
  exact r_X4_readRecords_J110 C E hrec6 _ _ _ _ _ _ _ _ h
set_option maxRecDepth 10000 in
theorem r_X4_readRecords_J71 {X : fh_X} {K : fh_K} {sz : Nat} {M' : fh_M} (C : fh_C X 10 cX4_readRecords RX4) (E : fh_E X rm_X4_readRecords none none K M' sz) {rec6 : Nat → Int32 → Int32 → Int32 → Int32 → fh_M → Option (fh_M)} (hrec6 : ∀ (t : Nat) (v1 : Int32) (v3 : Int32) (v4 : Int32) (v5 : Int32) (M : fh_M), rec6 t v1 v3 v4 v5 M = some M' → fh_V X rm_X4_readRecords 10 (sz, 0, 0) K M 6 [(0, va_rf (some t)), (1, .int v1), (3, .int v3), (4, .int v4), (5, .int v5)] []) (t : Nat) (v1 : Int32) (v3 : Int32) (v5 : Int32) (v6 : Int32) (v7 : Int32) (v8 : Int32) (s0 : Int32) (M : fh_M) (h : f_X4_readRecords_J71 K rec6 t v1 v3 v5 v6 v7 v8 s0 M = some M') : fh_V X rm_X4_readRecords 10 (sz, 0, 0) K M 71 [(0, va_rf (some t)), (1, .int v1), (3, .int v3), (5, .int v5), (6, .int v6), (7, .int v7), (8, .int v8)] [.int s0] := by
  unfold f_X4_readRecords_J71 at h
  refine fv_istore (i := 9) (lv' := [(9, .int s0), (0, va_rf (some t)), (1, .int v1), (3, .int v3), (5, .int v5), (6, .int v6), (7, .int v7), (8, .int v8)]) C (by decide) (by first | rfl | simp [va_rf_cat]) dX4_readRecords_71 ?_
  refine fv_iload C 0 rfl dX4_readRecords_73 ?_
  refine fv_if_eq C 100 (by decide) dX4_readRecords_75 (fun c13 => ?_) (fun c13 => ?_)
  · replace h := itT c13 h
    refine fv_sub (cc := ⟨#[]⟩) (own := "") [1, 2, 3, 4, 6, 7, 0] rfl ?_
    exact r_X4_readRecords_J100 C E hrec6 _ _ _ _ _ _ _ _ h
  · replace h := itF c13 h
    refine fv_iload_n C 2 rfl rfl dX4_readRecords_78 ?_
    refine fv_iload C 5 rfl dX4_readRecords_79 ?_
    replace h := bx h
    obtain ⟨r8, er8, h⟩ := h
    refine fv_callSN [.int v1, .int v6] C mi_X10_holds ln_RX4_61 (r_X10_holds _ _ _ er8) ⟨Nat.le_of_ble_eq_true rfl, Nat.le_of_ble_eq_true rfl⟩ ⟨Nat.le_of_ble_eq_true rfl, Nat.le_of_ble_eq_true rfl⟩ rfl rfl (by simp [va_rf_cat, cat_i, cat_l]) dX4_readRecords_81 ?_
    show fh_V X rm_X4_readRecords 10 (sz, 0, 0) K M _ _ [.int r8]
    refine fv_if_eq C 100 (by decide) dX4_readRecords_84 (fun c12 => ?_) (fun c12 => ?_)
    · replace h := itT c12 h
      refine fv_sub (cc := ⟨#[]⟩) (own := "") [1, 2, 3, 4, 6, 7, 0] rfl ?_
      exact r_X4_readRecords_J100 C E hrec6 _ _ _ _ _ _ _ _ h
    · replace h := itF c12 h
      refine fv_aload_n C 1 rfl rfl dX4_readRecords_87 ?_
      refine fv_iload C 5 rfl dX4_readRecords_88 ?_
      refine fv_iload C 7 rfl dX4_readRecords_90 ?_
      refine fv_iload C 6 rfl dX4_readRecords_92 ?_
      replace h := fo_s h
      obtain ⟨a9, ea9, ka9, h⟩ := h
      replace h := bx h
      obtain ⟨M11, er10, h⟩ := h
      refine fv_callV [.int v6, .int v8, .int v7] C mi_X4_addRecord ms_X4_addRecord lk_RX4_65 ea9 ka9 (r_X4_addRecord _ _ _ er10) ⟨Nat.le_of_ble_eq_true rfl, Nat.le_of_ble_eq_true rfl⟩ ⟨Nat.le_of_ble_eq_true rfl, Nat.le_of_ble_eq_true rfl⟩ rfl rfl (by simp [va_rf_cat, cat_i, cat_l]) dX4_readRecords_94 ?_
      show fh_V X rm_X4_readRecords 10 (sz, 0, 0) K M11 _ _ []
      refine fv_goto C 110 (by decide) dX4_readRecords_97 ?_
      refine fv_sub (cc := ⟨#[]⟩) (own := "") [1, 2, 3, 4, 6, 7, 0] rfl ?_
      exact r_X4_readRecords_J110 C E hrec6 _ _ _ _ _ _ _ _ h
set_option maxRecDepth 10000 in
theorem r_X4_readRecords_J55 {X : fh_X} {K : fh_K} {sz : Nat} {M' : fh_M} (C : fh_C X 10 cX4_readRecords RX4) (E : fh_E X rm_X4_readRecords none none K M' sz) {rec6 : Nat → Int32 → Int32 → Int32 → Int32 → fh_M → Option (fh_M)} (hrec6 : ∀ (t : Nat) (v1 : Int32) (v3 : Int32) (v4 : Int32) (v5 : Int32) (M : fh_M), rec6 t v1 v3 v4 v5 M = some M' → fh_V X rm_X4_readRecords 10 (sz, 0, 0) K M 6 [(0, va_rf (some t)), (1, .int v1), (3, .int v3), (4, .int v4), (5, .int v5)] []) (t : Nat) (v1 : Int32) (v3 : Int32) (v5 : Int32) (v6 : Int32) (v7 : Int32) (s0 : Int32) (M : fh_M) (h : f_X4_readRecords_J55 K rec6 t v1 v3 v5 v6 v7 s0 M = some M') : fh_V X rm_X4_readRecords 10 (sz, 0, 0) K M 55 [(0, va_rf (some t)), (1, .int v1), (3, .int v3), (5, .int v5), (6, .int v6), (7, .int v7)] [.int s0] := by
  unfold f_X4_readRecords_J55 at h
  refine fv_istore (i := 8) (lv' := [(8, .int s0), (0, va_rf (some t)), (1, .int v1), (3, .int v3), (5, .int v5), (6, .int v6), (7, .int v7)]) C (by decide) (by first | rfl | simp [va_rf_cat]) dX4_readRecords_55 ?_
  refine fv_iload C 0 rfl dX4_readRecords_57 ?_
  refine fv_iload_n C 3 rfl rfl dX4_readRecords_59 ?_
  refine fv_iload C 6 rfl dX4_readRecords_60 ?_
  refine fv_isub C dX4_readRecords_62 ?_
  refine fv_icmp_gt C 70 (by decide) dX4_readRecords_63 (fun c7 => ?_) (fun c7 => ?_)
  · replace h := itT c7 h
    refine fv_iconst (v := 0) C (by decide) dX4_readRecords_70 ?_
    refine fv_sub (cc := ⟨#[]⟩) (own := "") [1, 2, 3, 4, 5, 6, 0] rfl ?_
    exact r_X4_readRecords_J71 C E hrec6 _ _ _ _ _ _ _ _ _ h
  · replace h := itF c7 h
    refine fv_iconst (v := 1) C (by decide) dX4_readRecords_66 ?_
    refine fv_goto C 71 (by decide) dX4_readRecords_67 ?_
    refine fv_sub (cc := ⟨#[]⟩) (own := "") [1, 2, 3, 4, 5, 6, 0] rfl ?_
    exact r_X4_readRecords_J71 C E hrec6 _ _ _ _ _ _ _ _ _ h
set_option maxRecDepth 10000 in
theorem r_X4_readRecords_L6 {X : fh_X} {K : fh_K} {sz : Nat} {M' : fh_M} (C : fh_C X 10 cX4_readRecords RX4) (E : fh_E X rm_X4_readRecords none none K M' sz) : ∀ (n : Nat) (t : Nat) (v1 : Int32) (v3 : Int32) (v4 : Int32) (v5 : Int32) (M : fh_M), f_X4_readRecords_L6 K n t v1 v3 v4 v5 M = some M' → fh_V X rm_X4_readRecords 10 (sz, 0, 0) K M 6 [(0, va_rf (some t)), (1, .int v1), (3, .int v3), (4, .int v4), (5, .int v5)] [] := by
  intro n
  induction n with
  | zero => intro t v1 v3 v4 v5 M h; cases h
  | succ n ih =>
    intro t v1 v3 v4 v5 M h
    unfold f_X4_readRecords_L6 at h
    refine fv_iload C 4 rfl dX4_readRecords_6 ?_
    refine fv_bipush (v := 60) C (by decide) dX4_readRecords_8 ?_
    refine fv_icmp_ge C 132 (by decide) dX4_readRecords_10 (fun c6 => ?_) (fun c6 => ?_)
    · replace h := itT c6 h
      cases h
      exact fv_vret (z := (0, 0, 0)) (st := []) C E dX4_readRecords_132
    · replace h := itF c6 h
      refine fv_iload C 3 rfl dX4_readRecords_13 ?_
      refine fv_iload_n C 2 rfl rfl dX4_readRecords_15 ?_
      refine fv_icmp_ge C 132 (by decide) dX4_readRecords_16 (fun c5 => ?_) (fun c5 => ?_)
      · replace h := itT c5 h
        cases h
        exact fv_vret (z := (0, 0, 0)) (st := []) C E dX4_readRecords_132
      · replace h := itF c5 h
        refine fv_aload_n C 0 rfl rfl dX4_readRecords_19 ?_
        replace h := fo_s h
        obtain ⟨a1, ea1, ka1, h⟩ := h
        refine fv_getR C fl_RX4_21 ea1 ka1 dX4_readRecords_20 ?_
        refine fv_iload C 3 rfl dX4_readRecords_23 ?_
        replace h := fi_s h
        obtain ⟨a2, ea2, ka2, ia2, h⟩ := h
        refine fv_iald C ea2 ka2 ia2 dX4_readRecords_25 ?_
        refine fv_istore (i := 6) (lv' := [(6, .int (M.1 a2 v4.toNatClampNeg)), (0, va_rf (some t)), (1, .int v1), (3, .int v3), (4, .int v4), (5, .int v5)]) C (by decide) (by first | rfl | simp [va_rf_cat]) dX4_readRecords_26 ?_
        refine fv_iload C 4 rfl dX4_readRecords_28 ?_
        refine fv_iconst (v := 2) C (by decide) dX4_readRecords_30 ?_
        refine fv_iadd C dX4_readRecords_31 ?_
        refine fv_istore (i := 7) (lv' := [(7, .int (v4 + 2)), (6, .int (M.1 a2 v4.toNatClampNeg)), (0, va_rf (some t)), (1, .int v1), (3, .int v3), (4, .int v4), (5, .int v5)]) C (by decide) (by first | rfl | simp [va_rf_cat]) dX4_readRecords_32 ?_
        refine fv_iload C 5 rfl dX4_readRecords_34 ?_
        refine fv_iconst (v := 1) C (by decide) dX4_readRecords_36 ?_
        refine fv_iadd C dX4_readRecords_37 ?_
        refine fv_iload_n C 4 rfl rfl dX4_readRecords_38 ?_
        refine fv_icmp_ge C 54 (by decide) dX4_readRecords_39 (fun c4 => ?_) (fun c4 => ?_)
        · replace h := itT c4 h
          refine fv_iconst (v := 0) C (by decide) dX4_readRecords_54 ?_
          refine fv_sub (cc := ⟨#[]⟩) (own := "") [2, 3, 4, 6, 1, 0] rfl ?_
          exact r_X4_readRecords_J55 C E ih _ _ _ _ _ _ _ _ h
        · replace h := itF c4 h
          refine fv_aload_n C 2 rfl rfl dX4_readRecords_42 ?_
          refine fv_getR C fl_RX4_21 ea1 ka1 dX4_readRecords_43 ?_
          refine fv_iload C 5 rfl dX4_readRecords_46 ?_
          refine fv_iconst (v := 1) C (by decide) dX4_readRecords_48 ?_
          refine fv_iadd C dX4_readRecords_49 ?_
          replace h := fi_s h
          obtain ⟨a3, ea3, ka3, ia3, h⟩ := h
          refine fv_iald C ea3 ka3 ia3 dX4_readRecords_50 ?_
          refine fv_goto C 55 (by decide) dX4_readRecords_51 ?_
          refine fv_sub (cc := ⟨#[]⟩) (own := "") [2, 3, 4, 6, 1, 0] rfl ?_
          exact r_X4_readRecords_J55 C E ih _ _ _ _ _ _ _ _ h
set_option maxRecDepth 10000 in
theorem r_X4_readRecords (l : Launch) (D : fh_D) (A : Nat → Prop) {K : fh_K} {sz : Nat} {M : fh_M} {M' : fh_M} {t : Nat} {p1 : Int32} {p2 : Int32} {p3 : Int32} (h : f_X4_readRecords K M t p1 p2 p3 = some M') : fh_Met l yX4_readRecords cX4_readRecords 10 none rm_X4_readRecords D K M sz A [va_rf (some t), .int p1, .int p2, .int p3] none K M' sz := by
  refine fh_enter (by decide) (by simp [lg_sl, va_rf_cat, cat_i, cat_l]) (lv := [(0, va_rf (some t)), (1, .int p1), (2, .int p2), (3, .int p3)]) (by simp [lv_args, va_rf_cat, cat_i, cat_l]) ?_
  intro X C E hnm _ _ _
  replace C : fh_C X 10 cX4_readRecords RX4 := C
  unfold f_X4_readRecords at h
  refine fv_iload_n C 2 rfl rfl dX4_readRecords_0 ?_
  refine fv_istore (i := 4) (lv' := [(4, .int p2), (0, va_rf (some t)), (1, .int p1), (2, .int p2), (3, .int p3)]) C (by decide) (by first | rfl | simp [va_rf_cat]) dX4_readRecords_1 ?_
  refine fv_iconst (v := 0) C (by decide) dX4_readRecords_3 ?_
  refine fv_istore (i := 5) (lv' := [(5, .int 0), (4, .int p2), (0, va_rf (some t)), (1, .int p1), (2, .int p2), (3, .int p3)]) C (by decide) (by first | rfl | simp [va_rf_cat]) dX4_readRecords_4 ?_
  refine fv_sub (cc := ⟨#[]⟩) (own := "") [2, 3, 5, 1, 0] rfl ?_
  exact r_X4_readRecords_L6 C E  4096 _ _ _ _ _ _ h
abbrev rm_X4_readBy : Room := { frames := 2, cells := 0, slots := 0, locals := 52 }
set_option maxRecDepth 10000 in
theorem r_X4_readBy_J87 {X : fh_X} {K : fh_K} {sz : Nat} {M' : fh_M} (C : fh_C X 5 cX4_readBy RX4) (E : fh_E X rm_X4_readBy none none K M' sz) (t : Nat) (v1 : Option Nat) (v3 : Int32) (v4 : Int32) (M : fh_M) (h : f_X4_readBy_J87 K t v1 v3 v4 M = some M') : fh_V X rm_X4_readBy 5 (sz, 0, 0) K M 87 [(0, va_rf (some t)), (1, va_rf (v1)), (3, .int v3), (4, .int v4)] [] := by
  unfold f_X4_readBy_J87 at h
  refine fv_aload_n C 0 rfl rfl dX4_readBy_87 ?_
  refine fv_aload_n C 1 rfl rfl dX4_readBy_88 ?_
  replace h := fo_s h
  obtain ⟨a18, ea18, ka18, h⟩ := h
  refine fv_getI C fl_RX4_54 ea18 ka18 dX4_readBy_89 ?_
  refine fv_iload_n C 2 rfl rfl dX4_readBy_92 ?_
  refine fv_iload C 3 rfl dX4_readBy_93 ?_
  replace h := fo_s h
  obtain ⟨a19, ea19, ka19, h⟩ := h
  replace h := bx h
  obtain ⟨M21, er20, h⟩ := h
  refine fv_callV [.int (M.1 a18 1), .int v3, .int v4] C mi_X4_readRecords ms_X4_readRecords lk_RX4_57 ea19 ka19 (r_X4_readRecords _ _ _ er20) ⟨Nat.le_of_ble_eq_true rfl, Nat.le_of_ble_eq_true rfl⟩ ⟨Nat.le_of_ble_eq_true rfl, Nat.le_of_ble_eq_true rfl⟩ rfl rfl (by simp [va_rf_cat, cat_i, cat_l]) dX4_readBy_95 ?_
  show fh_V X rm_X4_readBy 5 (sz, 0, 0) K M21 _ _ []
  cases h
  exact fv_vret (z := (0, 0, 0)) (st := []) C E dX4_readBy_98
set_option maxRecDepth 10000 in
theorem r_X4_readBy_J75 {X : fh_X} {K : fh_K} {sz : Nat} {M' : fh_M} (C : fh_C X 5 cX4_readBy RX4) (E : fh_E X rm_X4_readBy none none K M' sz) (t : Nat) (v1 : Option Nat) (v3 : Int32) (v4 : Int32) (M : fh_M) (h : f_X4_readBy_J75 K t v1 v3 v4 M = some M') : fh_V X rm_X4_readBy 5 (sz, 0, 0) K M 75 [(0, va_rf (some t)), (1, va_rf (v1)), (3, .int v3), (4, .int v4)] [] := by
  unfold f_X4_readBy_J75 at h
  refine fv_aload_n C 1 rfl rfl dX4_readBy_75 ?_
  replace h := fo_s h
  obtain ⟨a22, ea22, ka22, h⟩ := h
  refine fv_getI C fl_RX4_46 ea22 ka22 dX4_readBy_76 ?_
  refine fv_if_eq C 87 (by decide) dX4_readBy_79 (fun c25 => ?_) (fun c25 => ?_)
  · replace h := itT c25 h
    refine fv_sub (cc := ⟨#[]⟩) (own := "") [0, 1, 2, 3] rfl ?_
    exact r_X4_readBy_J87 C E  _ _ _ _ _ h
  · replace h := itF c25 h
    refine fv_aload_n C 0 rfl rfl dX4_readBy_82 ?_
    refine fv_iconst (v := 1) C (by decide) dX4_readBy_83 ?_
    replace h := fo_s h
    obtain ⟨a23, ea23, ka23, h⟩ := h
    replace h := fb_s h
    obtain ⟨M24, eM24, h⟩ := h
    refine fv_putI (fin := false) C fl_RX4_31 ea23 ka23 (narrow_i _) dX4_readBy_84 (fv_eqM eM24 ?_)
    refine fv_sub (cc := ⟨#[]⟩) (own := "") [0, 1, 2, 3] rfl ?_
    exact r_X4_readBy_J87 C E  _ _ _ _ _ h
set_option maxRecDepth 10000 in
theorem r_X4_readBy_J69 {X : fh_X} {K : fh_K} {sz : Nat} {M' : fh_M} (C : fh_C X 5 cX4_readBy RX4) (E : fh_E X rm_X4_readBy none none K M' sz) (t : Nat) (v1 : Option Nat) (v3 : Int32) (v4 : Int32) (s0 : Int32) (s1 : Option Nat) (M : fh_M) (h : f_X4_readBy_J69 K t v1 v3 v4 s0 s1 M = some M') : fh_V X rm_X4_readBy 5 (sz, 0, 0) K M 69 [(0, va_rf (some t)), (1, va_rf (v1)), (3, .int v3), (4, .int v4)] [.int s0, va_rf (s1)] := by
  unfold f_X4_readBy_J69 at h
  replace h := fo_s h
  obtain ⟨a16, ea16, ka16, h⟩ := h
  replace h := fb_s h
  obtain ⟨M17, eM17, h⟩ := h
  refine fv_putI (fin := false) C fl_RX4_31 ea16 ka16 (narrow_i _) dX4_readBy_69 (fv_eqM eM17 ?_)
  refine fv_goto C 87 (by decide) dX4_readBy_72 ?_
  refine fv_sub (cc := ⟨#[]⟩) (own := "") [0, 1, 2, 3] rfl ?_
  exact r_X4_readBy_J87 C E  _ _ _ _ _ h
set_option maxRecDepth 10000 in
theorem r_X4_readBy (l : Launch) (D : fh_D) (A : Nat → Prop) {K : fh_K} {sz : Nat} {M : fh_M} {M' : fh_M} {t : Nat} {p1 : Option Nat} {p2 : Option Nat} (h : f_X4_readBy K M t p1 p2 = some M') : fh_Met l yX4_readBy cX4_readBy 5 none rm_X4_readBy D K M sz A [va_rf (some t), va_rf p1, va_rf p2] none K M' sz := by
  refine fh_enter (by decide) (by simp [lg_sl, va_rf_cat, cat_i, cat_l]) (lv := [(0, va_rf (some t)), (1, va_rf p1), (2, va_rf p2)]) (by simp [lv_args, va_rf_cat, cat_i, cat_l]) ?_
  intro X C E hnm _ _ _
  replace C : fh_C X 5 cX4_readBy RX4 := C
  unfold f_X4_readBy at h
  refine fv_aload_n C 0 rfl rfl dX4_readBy_0 ?_
  replace h := fo_s h
  obtain ⟨a1, ea1, ka1, h⟩ := h
  replace h := bx h
  obtain ⟨M3, er2, h⟩ := h
  refine fv_callV [] C mi_X4_clear ms_X4_clear lk_RX4_34 ea1 ka1 (r_X4_clear _ _ _ er2) ⟨Nat.le_of_ble_eq_true rfl, Nat.le_of_ble_eq_true rfl⟩ ⟨Nat.le_of_ble_eq_true rfl, Nat.le_of_ble_eq_true rfl⟩ rfl rfl (by simp [va_rf_cat, cat_i, cat_l]) dX4_readBy_1 ?_
  show fh_V X rm_X4_readBy 5 (sz, 0, 0) K M3 _ _ []
  refine fv_aload_n C 0 rfl rfl dX4_readBy_4 ?_
  refine fv_aload_n C 2 rfl rfl dX4_readBy_5 ?_
  replace h := fb_s h
  obtain ⟨M4, eM4, h⟩ := h
  refine fv_putR (fin := false) C fl_RX4_21 ea1 ka1 (narrow_rf_a _ _) dX4_readBy_6 (fv_eqM eM4 ?_)
  refine fv_aload_n C 1 rfl rfl dX4_readBy_9 ?_
  refine fv_aload_n C 2 rfl rfl dX4_readBy_10 ?_
  replace h := fo_s h
  obtain ⟨a5, ea5, ka5, h⟩ := h
  replace h := bx h
  obtain ⟨r6, er6, h⟩ := h
  refine fv_callV [va_rf (p2)] C mi_X2_marks ms_X2_marks lk_RX4_37 ea5 ka5 (r_X2_marks _ _ _ er6) ⟨Nat.le_of_ble_eq_true rfl, Nat.le_of_ble_eq_true rfl⟩ ⟨Nat.le_of_ble_eq_true rfl, Nat.le_of_ble_eq_true rfl⟩ rfl rfl (by simp [va_rf_cat, cat_i, cat_l]) dX4_readBy_11 ?_
  show fh_V X rm_X4_readBy 5 (sz, 0, 0) K M4 _ _ [.int r6]
  refine fv_if_ne C 24 (by decide) dX4_readBy_14 (fun c15 => ?_) (fun c15 => ?_)
  · replace h := itF c15 h
    refine fv_aload_n C 1 rfl rfl dX4_readBy_24 ?_
    refine fv_getR C fl_RX4_43 ea5 ka5 dX4_readBy_25 ?_
    replace h := fa_s h
    obtain ⟨a7, ea7, ka7, h⟩ := h
    refine fv_alen C 0 (by decide) (fun _ => rfl) ea7 ka7 dX4_readBy_28 ?_
    refine fv_istore_n (i := 3) (lv' := [(3, .int (nI (K a7).2)), (0, va_rf (some t)), (1, va_rf (p1)), (2, va_rf (p2))]) C rfl (by decide) (by first | rfl | simp [va_rf_cat]) dX4_readBy_29 ?_
    refine fv_aload_n C 3 rfl rfl dX4_readBy_30 ?_
    replace h := fa_s h
    obtain ⟨a8, ea8, ka8, h⟩ := h
    refine fv_alen C 0 (by decide) (fun _ => rfl) ea8 ka8 dX4_readBy_31 ?_
    refine fv_istore (i := 4) (lv' := [(4, .int (nI (K a8).2)), (3, .int (nI (K a7).2)), (0, va_rf (some t)), (1, va_rf (p1)), (2, va_rf (p2))]) C (by decide) (by first | rfl | simp [va_rf_cat]) dX4_readBy_32 ?_
    refine fv_aload_n C 3 rfl rfl dX4_readBy_34 ?_
    refine fv_getI C fl_RX4_46 ea5 ka5 dX4_readBy_35 ?_
    refine fv_if_eq C 75 (by decide) dX4_readBy_38 (fun c13 => ?_) (fun c13 => ?_)
    · replace h := itT c13 h
      refine fv_sub (cc := ⟨#[]⟩) (own := "") [2, 3, 1, 0] rfl ?_
      exact r_X4_readBy_J75 C E  _ _ _ _ _ h
    · replace h := itF c13 h
      refine fv_iload C 0 rfl dX4_readBy_41 ?_
      refine fv_iload_n C 1 rfl rfl dX4_readBy_43 ?_
      refine fv_icmp_le C 75 (by decide) dX4_readBy_44 (fun c12 => ?_) (fun c12 => ?_)
      · replace h := itT c12 h
        refine fv_sub (cc := ⟨#[]⟩) (own := "") [2, 3, 1, 0] rfl ?_
        exact r_X4_readBy_J75 C E  _ _ _ _ _ h
      · replace h := itF c12 h
        refine fv_iinc (v := (nI (K a8).2) + (-1)) (lv' := [(4, .int ((nI (K a8).2) + (-1))), (3, .int (nI (K a7).2)), (0, va_rf (some t)), (1, va_rf (p1)), (2, va_rf (p2))]) C 0 rfl (by first | rfl | exact congrArg _ (by decide)) (by decide) (by first | rfl | simp [va_rf_cat]) dX4_readBy_47 ?_
        refine fv_aload_n C 2 rfl rfl dX4_readBy_50 ?_
        refine fv_aload_n C 4 rfl rfl dX4_readBy_51 ?_
        refine fv_iload C 0 rfl dX4_readBy_52 ?_
        replace h := fi_s h
        obtain ⟨a9, ea9, ka9, ia9, h⟩ := h
        refine fv_iald C ea9 ka9 ia9 dX4_readBy_54 ?_
        refine fv_aload_n C 4 rfl rfl dX4_readBy_55 ?_
        refine fv_iload C 0 rfl dX4_readBy_56 ?_
        replace h := bx h
        obtain ⟨r10, er10, h⟩ := h
        refine fv_callSN [va_rf (p2), .int ((nI (K a8).2) + (-1))] C mi_X10_sumOfFirst ln_RX4_50 (r_X10_sumOfFirst _ _ _ er10) ⟨Nat.le_of_ble_eq_true rfl, Nat.le_of_ble_eq_true rfl⟩ ⟨Nat.le_of_ble_eq_true rfl, Nat.le_of_ble_eq_true rfl⟩ rfl rfl (by simp [va_rf_cat, cat_i, cat_l]) dX4_readBy_58 ?_
        show fh_V X rm_X4_readBy 5 (sz, 0, 0) K M4 _ _ [.int r10, .int (M4.1 a9 ((nI (K a8).2) + (-1)).toNatClampNeg), va_rf (some t)]
        refine fv_icmp_ne C 68 (by decide) dX4_readBy_61 (fun c11 => ?_) (fun c11 => ?_)
        · replace h := itF c11 h
          refine fv_iconst (v := 1) C (by decide) dX4_readBy_68 ?_
          refine fv_sub (cc := ⟨#[]⟩) (own := "") [2, 3, 1, 0] rfl ?_
          exact r_X4_readBy_J69 C E  _ _ _ _ _ _ _ h
        · replace h := itT c11 h
          refine fv_iconst (v := 0) C (by decide) dX4_readBy_64 ?_
          refine fv_goto C 69 (by decide) dX4_readBy_65 ?_
          refine fv_sub (cc := ⟨#[]⟩) (own := "") [2, 3, 1, 0] rfl ?_
          exact r_X4_readBy_J69 C E  _ _ _ _ _ _ _ h
  · replace h := itT c15 h
    refine fv_aload_n C 0 rfl rfl dX4_readBy_17 ?_
    refine fv_bipush (v := -2) C (by decide) dX4_readBy_18 ?_
    replace h := fb_s h
    obtain ⟨M14, eM14, h⟩ := h
    refine fv_putI (fin := false) C fl_RX4_31 ea1 ka1 (narrow_i _) dX4_readBy_20 (fv_eqM eM14 ?_)
    cases h
    exact fv_vret (z := (0, 0, 0)) (st := []) C E dX4_readBy_23
abbrev rm_X4_nextWith : Room := { frames := 0, cells := 0, slots := 0, locals := 0 }
set_option maxRecDepth 10000 in
theorem r_X4_nextWith_J28 {X : fh_X} {K : fh_K} {sz : Nat} {M : fh_M} {r : Int32} (C : fh_C X 4 cX4_nextWith RX4) (E : fh_E X rm_X4_nextWith (some .int) (some (.int r)) K M sz) (t : Nat) (h : f_X4_nextWith_J28 K M t = some r) : fh_V X rm_X4_nextWith 4 (sz, 0, 0) K M 28 [(0, va_rf (some t))] [] := by
  unfold f_X4_nextWith_J28 at h
  refine fv_aload_n C 0 rfl rfl dX4_nextWith_28 ?_
  replace h := fo_s h
  obtain ⟨a5, ea5, ka5, h⟩ := h
  refine fv_getI C fl_RX4_24 ea5 ka5 dX4_nextWith_29 ?_
  cases h
  exact fv_iret (z := (0, 0, 0)) (st := []) C E dX4_nextWith_32
set_option maxRecDepth 10000 in
theorem r_X4_nextWith_L2 {X : fh_X} {K : fh_K} {sz : Nat} {M : fh_M} {r : Int32} (C : fh_C X 4 cX4_nextWith RX4) (E : fh_E X rm_X4_nextWith (some .int) (some (.int r)) K M sz) : ∀ (n : Nat) (t : Nat) (v1 : Int32) (v3 : Int32), f_X4_nextWith_L2 K M n t v1 v3 = some r → fh_V X rm_X4_nextWith 4 (sz, 0, 0) K M 2 [(0, va_rf (some t)), (1, .int v1), (3, .int v3)] [] := by
  intro n
  induction n with
  | zero => intro t v1 v3 h; cases h
  | succ n ih =>
    intro t v1 v3 h
    unfold f_X4_nextWith_L2 at h
    refine fv_iload_n C 2 rfl rfl dX4_nextWith_2 ?_
    refine fv_aload_n C 0 rfl rfl dX4_nextWith_3 ?_
    replace h := fo_s h
    obtain ⟨a1, ea1, ka1, h⟩ := h
    refine fv_getI C fl_RX4_24 ea1 ka1 dX4_nextWith_4 ?_
    refine fv_icmp_ge C 28 (by decide) dX4_nextWith_7 (fun c4 => ?_) (fun c4 => ?_)
    · replace h := itT c4 h
      refine fv_sub (cc := ⟨#[]⟩) (own := "") [0] rfl ?_
      exact r_X4_nextWith_J28 C E  _ h
    · replace h := itF c4 h
      refine fv_aload_n C 0 rfl rfl dX4_nextWith_10 ?_
      refine fv_getR C fl_RX4_9 ea1 ka1 dX4_nextWith_11 ?_
      refine fv_iload_n C 2 rfl rfl dX4_nextWith_14 ?_
      replace h := fi_s h
      obtain ⟨a2, ea2, ka2, ia2, h⟩ := h
      refine fv_iald C ea2 ka2 ia2 dX4_nextWith_15 ?_
      refine fv_iload_n C 1 rfl rfl dX4_nextWith_16 ?_
      refine fv_icmp_ne C 22 (by decide) dX4_nextWith_17 (fun c3 => ?_) (fun c3 => ?_)
      · replace h := itF c3 h
        refine fv_iinc (v := v3 + 1) (lv' := [(3, .int (v3 + 1)), (0, va_rf (some t)), (1, .int v1)]) C 2 rfl (by first | rfl | exact congrArg _ (by decide)) (by decide) (by first | rfl | simp [va_rf_cat]) dX4_nextWith_22 ?_
        refine fv_goto C 2 (by decide) dX4_nextWith_25 ?_
        refine fv_sub (cc := ⟨#[]⟩) (own := "") [1, 2, 0] rfl ?_
        exact ih _ _ _ h
      · replace h := itT c3 h
        refine fv_iload_n C 2 rfl rfl dX4_nextWith_20 ?_
        cases h
        exact fv_iret (z := (0, 0, 0)) (st := []) C E dX4_nextWith_21
set_option maxRecDepth 10000 in
theorem r_X4_nextWith (l : Launch) (D : fh_D) (A : Nat → Prop) {K : fh_K} {sz : Nat} {M : fh_M} {r : Int32} {t : Nat} {p1 : Int32} {p2 : Int32} (h : f_X4_nextWith K M t p1 p2 = some r) : fh_Met l yX4_nextWith cX4_nextWith 4 (some .int) rm_X4_nextWith D K M sz A [va_rf (some t), .int p1, .int p2] (some (.int r)) K M sz := by
  refine fh_enter (by decide) (by simp [lg_sl, va_rf_cat, cat_i, cat_l]) (lv := [(0, va_rf (some t)), (1, .int p1), (2, .int p2)]) (by simp [lv_args, va_rf_cat, cat_i, cat_l]) ?_
  intro X C E hnm _ _ _
  replace C : fh_C X 4 cX4_nextWith RX4 := C
  unfold f_X4_nextWith at h
  refine fv_iload_n C 2 rfl rfl dX4_nextWith_0 ?_
  refine fv_istore_n (i := 3) (lv' := [(3, .int p2), (0, va_rf (some t)), (1, .int p1), (2, .int p2)]) C rfl (by decide) (by first | rfl | simp [va_rf_cat]) dX4_nextWith_1 ?_
  refine fv_sub (cc := ⟨#[]⟩) (own := "") [1, 2, 0] rfl ?_
  exact r_X4_nextWith_L2 C E  4096 _ _ _ h
abbrev rm_X4_sameRecord : Room := { frames := 0, cells := 0, slots := 0, locals := 0 }
set_option maxRecDepth 10000 in
theorem r_X4_sameRecord_L20 {X : fh_X} {K : fh_K} {sz : Nat} {M : fh_M} {r : Int32} (C : fh_C X 5 cX4_sameRecord RX4) (E : fh_E X rm_X4_sameRecord (some .boolean) (some (.int r)) K M sz) : ∀ (n : Nat) (t : Nat) (v1 : Int32) (v2 : Option Nat) (v3 : Int32) (v4 : Int32), f_X4_sameRecord_L20 K M n t v1 v2 v3 v4 = some r → fh_V X rm_X4_sameRecord 5 (sz, 0, 0) K M 20 [(0, va_rf (some t)), (1, .int v1), (2, va_rf (v2)), (3, .int v3), (4, .int v4)] [] := by
  intro n
  induction n with
  | zero => intro t v1 v2 v3 v4 h; cases h
  | succ n ih =>
    intro t v1 v2 v3 v4 h
    unfold f_X4_sameRecord_L20 at h
    refine fv_iload C 4 rfl dX4_sameRecord_20 ?_
    refine fv_aload_n C 0 rfl rfl dX4_sameRecord_22 ?_
    replace h := fo_s h
    obtain ⟨a6, ea6, ka6, h⟩ := h
    refine fv_getR C fl_RX4_15 ea6 ka6 dX4_sameRecord_23 ?_
    refine fv_iload_n C 1 rfl rfl dX4_sameRecord_26 ?_
    replace h := fi_s h
    obtain ⟨a7, ea7, ka7, ia7, h⟩ := h
    refine fv_iald C ea7 ka7 ia7 dX4_sameRecord_27 ?_
    refine fv_icmp_ge C 70 (by decide) dX4_sameRecord_28 (fun c14 => ?_) (fun c14 => ?_)
    · replace h := itT c14 h
      refine fv_iconst (v := 1) C (by decide) dX4_sameRecord_70 ?_
      cases h
      exact fv_zret (z := (0, 0, 0)) (st := []) C E (Or.inr rfl) dX4_sameRecord_71
    · replace h := itF c14 h
      refine fv_aload_n C 0 rfl rfl dX4_sameRecord_31 ?_
      refine fv_getR C fl_RX4_21 ea6 ka6 dX4_sameRecord_32 ?_
      refine fv_aload_n C 0 rfl rfl dX4_sameRecord_35 ?_
      refine fv_getR C fl_RX4_18 ea6 ka6 dX4_sameRecord_36 ?_
      refine fv_iload_n C 1 rfl rfl dX4_sameRecord_39 ?_
      replace h := fi_s h
      obtain ⟨a8, ea8, ka8, ia8, h⟩ := h
      refine fv_iald C ea8 ka8 ia8 dX4_sameRecord_40 ?_
      refine fv_iload C 4 rfl dX4_sameRecord_41 ?_
      refine fv_iadd C dX4_sameRecord_43 ?_
      replace h := fi_s h
      obtain ⟨a9, ea9, ka9, ia9, h⟩ := h
      refine fv_iald C ea9 ka9 ia9 dX4_sameRecord_44 ?_
      refine fv_aload_n C 2 rfl rfl dX4_sameRecord_45 ?_
      replace h := fo_s h
      obtain ⟨a10, ea10, ka10, h⟩ := h
      refine fv_getR C fl_RX4_21 ea10 ka10 dX4_sameRecord_46 ?_
      refine fv_aload_n C 2 rfl rfl dX4_sameRecord_49 ?_
      refine fv_getR C fl_RX4_18 ea10 ka10 dX4_sameRecord_50 ?_
      refine fv_iload_n C 3 rfl rfl dX4_sameRecord_53 ?_
      replace h := fi_s h
      obtain ⟨a11, ea11, ka11, ia11, h⟩ := h
      refine fv_iald C ea11 ka11 ia11 dX4_sameRecord_54 ?_
      refine fv_iload C 4 rfl dX4_sameRecord_55 ?_
      refine fv_iadd C dX4_sameRecord_57 ?_
      replace h := fi_s h
      obtain ⟨a12, ea12, ka12, ia12, h⟩ := h
      refine fv_iald C ea12 ka12 ia12 dX4_sameRecord_58 ?_
      refine fv_icmp_eq C 64 (by decide) dX4_sameRecord_59 (fun c13 => ?_) (fun c13 => ?_)
      · replace h := itT c13 h
        refine fv_iinc (v := v4 + 1) (lv' := [(4, .int (v4 + 1)), (0, va_rf (some t)), (1, .int v1), (2, va_rf (v2)), (3, .int v3)]) C 4 rfl (by first | rfl | exact congrArg _ (by decide)) (by decide) (by first | rfl | simp [va_rf_cat]) dX4_sameRecord_64 ?_
        refine fv_goto C 20 (by decide) dX4_sameRecord_67 ?_
        refine fv_sub (cc := ⟨#[]⟩) (own := "") [1, 2, 3, 4, 0] rfl ?_
        exact ih _ _ _ _ _ h
      · replace h := itF c13 h
        refine fv_iconst (v := 0) C (by decide) dX4_sameRecord_62 ?_
        cases h
        exact fv_zret (z := (0, 0, 0)) (st := []) C E (Or.inl rfl) dX4_sameRecord_63
set_option maxRecDepth 10000 in
theorem r_X4_sameRecord (l : Launch) (D : fh_D) (A : Nat → Prop) {K : fh_K} {sz : Nat} {M : fh_M} {r : Int32} {t : Nat} {p1 : Int32} {p2 : Option Nat} {p3 : Int32} (h : f_X4_sameRecord K M t p1 p2 p3 = some r) : fh_Met l yX4_sameRecord cX4_sameRecord 5 (some .boolean) rm_X4_sameRecord D K M sz A [va_rf (some t), .int p1, va_rf p2, .int p3] (some (.int r)) K M sz := by
  refine fh_enter (by decide) (by simp [lg_sl, va_rf_cat, cat_i, cat_l]) (lv := [(0, va_rf (some t)), (1, .int p1), (2, va_rf p2), (3, .int p3)]) (by simp [lv_args, va_rf_cat, cat_i, cat_l]) ?_
  intro X C E hnm _ _ _
  replace C : fh_C X 5 cX4_sameRecord RX4 := C
  unfold f_X4_sameRecord at h
  refine fv_aload_n C 0 rfl rfl dX4_sameRecord_0 ?_
  replace h := fo_s h
  obtain ⟨a1, ea1, ka1, h⟩ := h
  refine fv_getR C fl_RX4_15 ea1 ka1 dX4_sameRecord_1 ?_
  refine fv_iload_n C 1 rfl rfl dX4_sameRecord_4 ?_
  replace h := fi_s h
  obtain ⟨a2, ea2, ka2, ia2, h⟩ := h
  refine fv_iald C ea2 ka2 ia2 dX4_sameRecord_5 ?_
  refine fv_aload_n C 2 rfl rfl dX4_sameRecord_6 ?_
  replace h := fo_s h
  obtain ⟨a3, ea3, ka3, h⟩ := h
  refine fv_getR C fl_RX4_15 ea3 ka3 dX4_sameRecord_7 ?_
  refine fv_iload_n C 3 rfl rfl dX4_sameRecord_10 ?_
  replace h := fi_s h
  obtain ⟨a4, ea4, ka4, ia4, h⟩ := h
  refine fv_iald C ea4 ka4 ia4 dX4_sameRecord_11 ?_
  refine fv_icmp_eq C 17 (by decide) dX4_sameRecord_12 (fun c5 => ?_) (fun c5 => ?_)
  · replace h := itT c5 h
    refine fv_iconst (v := 0) C (by decide) dX4_sameRecord_17 ?_
    refine fv_istore (i := 4) (lv' := [(4, .int 0), (0, va_rf (some t)), (1, .int p1), (2, va_rf (p2)), (3, .int p3)]) C (by decide) (by first | rfl | simp [va_rf_cat]) dX4_sameRecord_18 ?_
    refine fv_sub (cc := ⟨#[]⟩) (own := "") [1, 2, 3, 4, 0] rfl ?_
    exact r_X4_sameRecord_L20 C E  4096 _ _ _ _ _ h
  · replace h := itF c5 h
    refine fv_iconst (v := 0) C (by decide) dX4_sameRecord_15 ?_
    cases h
    exact fv_zret (z := (0, 0, 0)) (st := []) C E (Or.inl rfl) dX4_sameRecord_16
abbrev rm_X4_agrees : Room := { frames := 1, cells := 0, slots := 0, locals := 24 }
set_option maxRecDepth 10000 in
theorem r_X4_agrees_J66 {X : fh_X} {K : fh_K} {sz : Nat} {M : fh_M} {r : Int32} (C : fh_C X 5 cX4_agrees RX4) (E : fh_E X rm_X4_agrees (some .boolean) (some (.int r)) K M sz) (v1 : Option Nat) (v3 : Int32) (h : f_X4_agrees_J66 K M v1 v3 = some r) : fh_V X rm_X4_agrees 5 (sz, 0, 0) K M 66 [(1, va_rf (v1)), (3, .int v3)] [] := by
  unfold f_X4_agrees_J66 at h
  refine fv_iload_n C 1 rfl rfl dX4_agrees_66 ?_
  refine fv_aload_n C 0 rfl rfl dX4_agrees_67 ?_
  replace h := fo_s h
  obtain ⟨a12, ea12, ka12, h⟩ := h
  refine fv_getI C fl_RX4_24 ea12 ka12 dX4_agrees_68 ?_
  refine fv_icmp_lt C 78 (by decide) dX4_agrees_71 (fun c13 => ?_) (fun c13 => ?_)
  · replace h := itT c13 h
    refine fv_iconst (v := 0) C (by decide) dX4_agrees_78 ?_
    cases h
    exact fv_zret (z := (0, 0, 0)) (st := []) C E (Or.inl rfl) dX4_agrees_79
  · replace h := itF c13 h
    refine fv_iconst (v := 1) C (by decide) dX4_agrees_74 ?_
    refine fv_goto C 79 (by decide) dX4_agrees_75 ?_
    cases h
    exact fv_zret (z := (0, 0, 0)) (st := []) C E (Or.inr rfl) dX4_agrees_79
set_option maxRecDepth 10000 in
theorem r_X4_agrees_J60 {X : fh_X} {K : fh_K} {sz : Nat} {M : fh_M} {r : Int32} (C : fh_C X 5 cX4_agrees RX4) (E : fh_E X rm_X4_agrees (some .boolean) (some (.int r)) K M sz) {rec10 : Nat → Option Nat → Int32 → Int32 → Int32 → Option (Int32)} (hrec10 : ∀ (t : Nat) (v1 : Option Nat) (v2 : Int32) (v3 : Int32) (v4 : Int32), rec10 t v1 v2 v3 v4 = some r → fh_V X rm_X4_agrees 5 (sz, 0, 0) K M 10 [(0, va_rf (some t)), (1, va_rf (v1)), (2, .int v2), (3, .int v3), (4, .int v4)] []) (t : Nat) (v1 : Option Nat) (v2 : Int32) (v3 : Int32) (v4 : Int32) (h : f_X4_agrees_J60 K M rec10 t v1 v2 v3 v4 = some r) : fh_V X rm_X4_agrees 5 (sz, 0, 0) K M 60 [(0, va_rf (some t)), (1, va_rf (v1)), (2, .int v2), (3, .int v3), (4, .int v4)] [] := by
  unfold f_X4_agrees_J60 at h
  refine fv_iinc (v := v4 + 1) (lv' := [(4, .int (v4 + 1)), (0, va_rf (some t)), (1, va_rf (v1)), (2, .int v2), (3, .int v3)]) C 4 rfl (by first | rfl | exact congrArg _ (by decide)) (by decide) (by first | rfl | simp [va_rf_cat]) dX4_agrees_60 ?_
  refine fv_goto C 10 (by decide) dX4_agrees_63 ?_
  refine fv_sub (cc := ⟨#[]⟩) (own := "") [1, 2, 3, 4, 0] rfl ?_
  exact hrec10 _ _ _ _ _ h
set_option maxRecDepth 10000 in
theorem r_X4_agrees_L10 {X : fh_X} {K : fh_K} {sz : Nat} {M : fh_M} {r : Int32} (C : fh_C X 5 cX4_agrees RX4) (E : fh_E X rm_X4_agrees (some .boolean) (some (.int r)) K M sz) : ∀ (n : Nat) (t : Nat) (v1 : Option Nat) (v2 : Int32) (v3 : Int32) (v4 : Int32), f_X4_agrees_L10 K M n t v1 v2 v3 v4 = some r → fh_V X rm_X4_agrees 5 (sz, 0, 0) K M 10 [(0, va_rf (some t)), (1, va_rf (v1)), (2, .int v2), (3, .int v3), (4, .int v4)] [] := by
  intro n
  induction n with
  | zero => intro t v1 v2 v3 v4 h; cases h
  | succ n ih =>
    intro t v1 v2 v3 v4 h
    unfold f_X4_agrees_L10 at h
    refine fv_iload C 4 rfl dX4_agrees_10 ?_
    refine fv_aload_n C 0 rfl rfl dX4_agrees_12 ?_
    replace h := fo_s h
    obtain ⟨a3, ea3, ka3, h⟩ := h
    refine fv_getI C fl_RX4_24 ea3 ka3 dX4_agrees_13 ?_
    refine fv_icmp_ge C 66 (by decide) dX4_agrees_16 (fun c11 => ?_) (fun c11 => ?_)
    · replace h := itT c11 h
      refine fv_sub (cc := ⟨#[]⟩) (own := "") [1, 3] rfl ?_
      exact r_X4_agrees_J66 C E  _ _ h
    · replace h := itF c11 h
      refine fv_aload_n C 0 rfl rfl dX4_agrees_19 ?_
      refine fv_getR C fl_RX4_9 ea3 ka3 dX4_agrees_20 ?_
      refine fv_iload C 4 rfl dX4_agrees_23 ?_
      replace h := fi_s h
      obtain ⟨a4, ea4, ka4, ia4, h⟩ := h
      refine fv_iald C ea4 ka4 ia4 dX4_agrees_25 ?_
      refine fv_iload_n C 2 rfl rfl dX4_agrees_26 ?_
      refine fv_icmp_ne C 60 (by decide) dX4_agrees_27 (fun c10 => ?_) (fun c10 => ?_)
      · replace h := itF c10 h
        refine fv_sub (cc := ⟨#[]⟩) (own := "") [0, 1, 2, 3, 4] rfl ?_
        exact r_X4_agrees_J60 C E ih _ _ _ _ _ h
      · replace h := itT c10 h
        refine fv_iload_n C 3 rfl rfl dX4_agrees_30 ?_
        refine fv_aload_n C 1 rfl rfl dX4_agrees_31 ?_
        replace h := fo_s h
        obtain ⟨a5, ea5, ka5, h⟩ := h
        refine fv_getI C fl_RX4_24 ea5 ka5 dX4_agrees_32 ?_
        refine fv_icmp_ge C 49 (by decide) dX4_agrees_35 (fun c9 => ?_) (fun c9 => ?_)
        · replace h := itT c9 h
          refine fv_iconst (v := 0) C (by decide) dX4_agrees_49 ?_
          cases h
          exact fv_zret (z := (0, 0, 0)) (st := []) C E (Or.inl rfl) dX4_agrees_50
        · replace h := itF c9 h
          refine fv_aload_n C 0 rfl rfl dX4_agrees_38 ?_
          refine fv_iload C 4 rfl dX4_agrees_39 ?_
          refine fv_aload_n C 1 rfl rfl dX4_agrees_41 ?_
          refine fv_iload_n C 3 rfl rfl dX4_agrees_42 ?_
          replace h := bx h
          obtain ⟨r6, er6, h⟩ := h
          refine fv_callV [.int v4, va_rf (v1), .int v3] C mi_X4_sameRecord ms_X4_sameRecord lk_RX4_72 ea3 ka3 (r_X4_sameRecord _ _ _ er6) ⟨Nat.le_of_ble_eq_true rfl, Nat.le_of_ble_eq_true rfl⟩ ⟨Nat.le_of_ble_eq_true rfl, Nat.le_of_ble_eq_true rfl⟩ rfl rfl (by simp [va_rf_cat, cat_i, cat_l]) dX4_agrees_43 ?_
          show fh_V X rm_X4_agrees 5 (sz, 0, 0) K M _ _ [.int r6]
          refine fv_if_ne C 51 (by decide) dX4_agrees_46 (fun c8 => ?_) (fun c8 => ?_)
          · replace h := itF c8 h
            refine fv_aload_n C 1 rfl rfl dX4_agrees_51 ?_
            refine fv_iload_n C 2 rfl rfl dX4_agrees_52 ?_
            refine fv_iload_n C 3 rfl rfl dX4_agrees_53 ?_
            refine fv_iconst (v := 1) C (by decide) dX4_agrees_54 ?_
            refine fv_iadd C dX4_agrees_55 ?_
            replace h := bx h
            obtain ⟨r7, er7, h⟩ := h
            refine fv_callV [.int v2, .int (v3 + 1)] C mi_X4_nextWith ms_X4_nextWith lk_RX4_68 ea5 ka5 (r_X4_nextWith _ _ _ er7) ⟨Nat.le_of_ble_eq_true rfl, Nat.le_of_ble_eq_true rfl⟩ ⟨Nat.le_of_ble_eq_true rfl, Nat.le_of_ble_eq_true rfl⟩ rfl rfl (by simp [va_rf_cat, cat_i, cat_l]) dX4_agrees_56 ?_
            show fh_V X rm_X4_agrees 5 (sz, 0, 0) K M _ _ [.int r7]
            refine fv_istore_n (i := 3) (lv' := [(3, .int r7), (0, va_rf (some t)), (1, va_rf (v1)), (2, .int v2), (4, .int v4)]) C rfl (by decide) (by first | rfl | simp [va_rf_cat]) dX4_agrees_59 ?_
            refine fv_sub (cc := ⟨#[]⟩) (own := "") [1, 2, 3, 0, 4] rfl ?_
            exact r_X4_agrees_J60 C E ih _ _ _ _ _ h
          · replace h := itT c8 h
            refine fv_iconst (v := 0) C (by decide) dX4_agrees_49 ?_
            cases h
            exact fv_zret (z := (0, 0, 0)) (st := []) C E (Or.inl rfl) dX4_agrees_50
set_option maxRecDepth 10000 in
theorem r_X4_agrees (l : Launch) (D : fh_D) (A : Nat → Prop) {K : fh_K} {sz : Nat} {M : fh_M} {r : Int32} {t : Nat} {p1 : Option Nat} {p2 : Int32} (h : f_X4_agrees K M t p1 p2 = some r) : fh_Met l yX4_agrees cX4_agrees 5 (some .boolean) rm_X4_agrees D K M sz A [va_rf (some t), va_rf p1, .int p2] (some (.int r)) K M sz := by
  refine fh_enter (by decide) (by simp [lg_sl, va_rf_cat, cat_i, cat_l]) (lv := [(0, va_rf (some t)), (1, va_rf p1), (2, .int p2)]) (by simp [lv_args, va_rf_cat, cat_i, cat_l]) ?_
  intro X C E hnm _ _ _
  replace C : fh_C X 5 cX4_agrees RX4 := C
  unfold f_X4_agrees at h
  refine fv_aload_n C 1 rfl rfl dX4_agrees_0 ?_
  refine fv_iload_n C 2 rfl rfl dX4_agrees_1 ?_
  refine fv_iconst (v := 0) C (by decide) dX4_agrees_2 ?_
  replace h := fo_s h
  obtain ⟨a1, ea1, ka1, h⟩ := h
  replace h := bx h
  obtain ⟨r2, er2, h⟩ := h
  refine fv_callV [.int p2, .int 0] C mi_X4_nextWith ms_X4_nextWith lk_RX4_68 ea1 ka1 (r_X4_nextWith _ _ _ er2) ⟨Nat.le_of_ble_eq_true rfl, Nat.le_of_ble_eq_true rfl⟩ ⟨Nat.le_of_ble_eq_true rfl, Nat.le_of_ble_eq_true rfl⟩ rfl rfl (by simp [va_rf_cat, cat_i, cat_l]) dX4_agrees_3 ?_
  show fh_V X rm_X4_agrees 5 (sz, 0, 0) K M _ _ [.int r2]
  refine fv_istore_n (i := 3) (lv' := [(3, .int r2), (0, va_rf (some t)), (1, va_rf (p1)), (2, .int p2)]) C rfl (by decide) (by first | rfl | simp [va_rf_cat]) dX4_agrees_6 ?_
  refine fv_iconst (v := 0) C (by decide) dX4_agrees_7 ?_
  refine fv_istore (i := 4) (lv' := [(4, .int 0), (3, .int r2), (0, va_rf (some t)), (1, va_rf (p1)), (2, .int p2)]) C (by decide) (by first | rfl | simp [va_rf_cat]) dX4_agrees_8 ?_
  refine fv_sub (cc := ⟨#[]⟩) (own := "") [2, 3, 4, 1, 0] rfl ?_
  exact r_X4_agrees_L10 C E  4096 _ _ _ _ _ h
