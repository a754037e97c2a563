def f_X0_init (sz : Nat) (K : fh_K) (M : fh_M) (t : Nat) (p1 : Int32) : Option (Nat × fh_K × fh_M) :=
  fo K 0 (some t) fun a1 =>
    fb (fh_si M a1 1 (0)) fun M2 =>
    fn (if p1 < 0 then 0 else p1) 80 fun N3 =>
    fb (fh_uk K sz (13, N3)) fun K4 =>
    fb (fh_clr M2 sz) fun M5 =>
    fo K4 0 (some t) fun a6 =>
    fb (fh_sr M5 a6 0 (some sz)) fun M7 =>
    some (sz + 1, K4, M7)
def f_X0_clear (K : fh_K) (M : fh_M) (t : Nat) : Option (fh_M) :=
  fo K 0 (some t) fun a1 =>
    fb (fh_si M a1 1 (0)) fun M2 =>
    some M2
def f_X0_room (K : fh_K) (M : fh_M) (t : Nat) : Option (Int32) :=
  fo K 0 (some t) fun a1 =>
    fa K 13 (M.2.2 a1 0) fun a2 =>
    some ((nI (K a2).2) - (M.1 a1 1))
def f_X0_addByte (K : fh_K) (M : fh_M) (t : Nat) (p1 : Int32) : Option (Int32 × fh_M) :=
  fo K 0 (some t) fun a1 =>
    fa K 13 (M.2.2 a1 0) fun a2 =>
    if (M.1 a1 1) < (nI (K a2).2) then
    fi K 13 (M.2.2 a1 0) (M.1 a1 1) fun a3 =>
      fb (fh_si M a3 (M.1 a1 1).toNatClampNeg (p1 &&& 255)) fun M4 =>
      fb (fh_si M4 a1 1 ((M4.1 a1 1) + 1)) fun M5 =>
      some (1, M5)
  else
    some (0, M)
def f_X0_addWord_L3 (K : fh_K) : Nat → Nat → Int32 → Int32 → fh_M → Option (fh_M)
  | 0 => fun _ _ _ _ => none
  | n + 1 => fun t v1 v2 M =>
    if v2 < 0 then
      some M
    else
      fo K 0 (some t) fun a1 =>
        fc2 (f_X0_addByte K M a1 (v1 >>> (v2 &&& 31))) fun r2 M3 =>
        f_X0_addWord_L3 K n t (v1) (v2 + (-8)) M3
def f_X0_addWord (K : fh_K) (M : fh_M) (t : Nat) (p1 : Int32) : Option (fh_M) :=
  f_X0_addWord_L3 K 4096 t (p1) (24) M
def f_X0_addPart (K : fh_K) (M : fh_M) (t : Nat) (p1 : Option Nat) (p2 : Int32) (p3 : Int32) : Option (Int32 × fh_M) :=
  if p2 < 0 then
    some (0, M)
  else
    if p3 < 0 then
      some (0, M)
    else
      fa K 13 (p1) fun a1 =>
        if ((nI (K a1).2) - p2) < p3 then
        some (0, M)
      else
        fo K 0 (some t) fun a2 =>
          (f_X0_room K M a2).bind fun r3 =>
          if p3 ≤ r3 then
          fq K (p1) (p2) (M.2.2 a2 0) (M.1 a2 1) (p3) fun a4 a5 =>
            fb (fh_ri M a5 (va_cpy (M.1 a4) (M.1 a5) p2.toNatClampNeg (M.1 a2 1).toNatClampNeg p3.toNatClampNeg)) fun M7 =>
            fb (fh_si M7 a2 1 ((M7.1 a2 1) + p3)) fun M8 =>
            some (1, M8)
        else
          some (0, M)
def f_J7_copyOf_59c91 (sz : Nat) (K : fh_K) (M : fh_M) (p0 : Option Nat) (p1 : Int32) : Option (Option Nat × Nat × fh_K × fh_M) :=
  fa K 13 (p0) fun a1 =>
    if p1 = (nI (K a1).2) then
    fle (K a1).2 80 <|
      fb (fh_uk K sz (13, (K a1).2)) fun K11 =>
      fb (fh_ri (fh_clr M sz) sz (M.1 a1)) fun M12 =>
      fa K11 13 (some sz) fun a13 =>
      some (some sz, sz + 1, K11, M12)
  else
    fn (p1) 80 fun N2 =>
      fb (fh_uk K sz (13, N2)) fun K3 =>
      fb (fh_clr M sz) fun M4 =>
      fa K3 13 (p0) fun a5 =>
      fq K3 (p0) (0) (some sz) (0) (if p1 < (nI (K3 a5).2) then p1 else nI (K3 a5).2) fun a6 a7 =>
      fb (fh_ri M4 a7 (va_cpy (M4.1 a6) (M4.1 a7) (0 : Int32).toNatClampNeg (0 : Int32).toNatClampNeg (if p1 < (nI (K3 a5).2) then p1 else nI (K3 a5).2).toNatClampNeg)) fun M9 =>
      some (some sz, sz + 1, K3, M9)
def f_X0_firstBytes (sz : Nat) (K : fh_K) (M : fh_M) (t : Nat) (p1 : Int32) : Option (Option Nat × Nat × fh_K × fh_M) :=
  fo K 0 (some t) fun a1 =>
    fc4 (f_J7_copyOf_59c91 sz K M (M.2.2 a1 0) (if 0 < (if (M.1 a1 1) < p1 then M.1 a1 1 else p1) then if (M.1 a1 1) < p1 then M.1 a1 1 else p1 else 0)) fun r2 w5 K4 M3 =>
    some (r2, w5, K4, M3)
def f_J7_fill_53178_L5 (K : fh_K) : Nat → Option Nat → Int32 → Int32 → Int32 → fh_M → Option (fh_M)
  | 0 => fun _ _ _ _ _ => none
  | n + 1 => fun v0 v1 v2 v3 M =>
    if v3 ≤ v2 then
      some M
    else
      fi K 13 (v0) (v2) fun a2 =>
        fb (fh_si M a2 v2.toNatClampNeg (v1)) fun M3 =>
        f_J7_fill_53178_L5 K n (v0) (v1) (v2 + 1) (v3) M3
def f_J7_fill_53178 (K : fh_K) (M : fh_M) (p0 : Option Nat) (p1 : Int32) : Option (fh_M) :=
  fa K 13 (p0) fun a1 =>
    f_J7_fill_53178_L5 K 4096 (p0) (p1) (0) (nI (K a1).2) M
def f_X1_init (sz : Nat) (K : fh_K) (M : fh_M) (t : Nat) : Option (Nat × fh_K × fh_M) :=
  fn (8) 8 fun N1 =>
    fb (fh_uk K sz (13, N1)) fun K2 =>
    fb (fh_clr M sz) fun M3 =>
    fo K2 1 (some t) fun a4 =>
    fb (fh_sr M3 a4 0 (some sz)) fun M5 =>
    fn (8) 8 fun N6 =>
    fb (fh_uk K2 (sz + 1) (13, N6)) fun K7 =>
    fb (fh_clr M5 (sz + 1)) fun M8 =>
    fo K7 1 (some t) fun a9 =>
    fb (fh_sr M8 a9 1 (some (sz + 1))) fun M10 =>
    (f_J7_fill_53178 K7 M10 (M10.2.2 a9 0) (999)).bind fun M12 =>
    (f_J7_fill_53178 K7 M12 (M12.2.2 a9 1) (999)).bind fun M14 =>
    some (sz + 2, K7, M14)
def f_X1_knows (K : fh_K) (M : fh_M) (t : Nat) (p1 : Int32) : Option (Int32) :=
  if p1 < 0 then
    some 0
  else
    if 8 ≤ p1 then
      some 0
    else
      some 1
def f_X1_setEnds (K : fh_K) (M : fh_M) (t : Nat) (p1 : Int32) (p2 : Int32) (p3 : Int32) : Option (fh_M) :=
  fo K 1 (some t) fun a1 =>
    (f_X1_knows K M a1 (p1)).bind fun r2 =>
    if r2 = 0 then
    some M
  else
    fi K 13 (M.2.2 a1 0) (p1) fun a3 =>
      fb (fh_si M a3 p1.toNatClampNeg (p2)) fun M4 =>
      fi K 13 (M4.2.2 a1 1) (p1) fun a5 =>
      fb (fh_si M4 a5 p1.toNatClampNeg (p3)) fun M6 =>
      some M6
def f_X1_endOf (K : fh_K) (M : fh_M) (t : Nat) (p1 : Int32) (p2 : Int32) : Option (Int32) :=
  fo K 1 (some t) fun a1 =>
    (f_X1_knows K M a1 (p1)).bind fun r2 =>
    if r2 = 0 then
    some (-1)
  else
    if p2 = 0 then
      fi K 13 (M.2.2 a1 1) (p1) fun a3 =>
        some (M.1 a3 p1.toNatClampNeg)
    else
      fi K 13 (M.2.2 a1 0) (p1) fun a4 =>
        some (M.1 a4 p1.toNatClampNeg)
def f_X1_liveSurely (K : fh_K) (M : fh_M) (t : Nat) (p1 : Int32) (p2 : Int32) : Option (Int32) :=
  fo K 1 (some t) fun a1 =>
    (f_X1_endOf K M a1 (p1) (1)).bind fun r2 =>
    if r2 < p2 then
    some 0
  else
    some 1
def f_X2_init (K : fh_K) (M : fh_M) (t : Nat) (p1 : Option Nat) (p2 : Int32) (p3 : Int32) (p4 : Int32) : Option (fh_M) :=
  fo K 2 (some t) fun a1 =>
    fb (fh_sr M a1 0 (p1)) fun M2 =>
    fb (fh_si M2 a1 1 (p2)) fun M3 =>
    fz (p3) <|
    fb (fh_si M3 a1 2 (p3)) fun M5 =>
    fb (fh_si M5 a1 3 (p4)) fun M6 =>
    some M6
def f_X2_marks_L14 (K : fh_K) (M : fh_M) : Nat → Nat → Option Nat → Int32 → Option (Int32)
  | 0 => fun _ _ _ => none
  | n + 1 => fun t v1 v2 =>
    fo K 2 (some t) fun a5 =>
      fa K 13 (M.2.2 a5 0) fun a6 =>
      if (nI (K a6).2) ≤ v2 then
      some 1
    else
      fi K 13 (v1) (v2) fun a7 =>
        fi K 13 (M.2.2 a5 0) (v2) fun a8 =>
        if (M.1 a7 v2.toNatClampNeg) = (M.1 a8 v2.toNatClampNeg) then
        f_X2_marks_L14 K M n t (v1) (v2 + 1) 
      else
        some 0
def f_X2_marks (K : fh_K) (M : fh_M) (t : Nat) (p1 : Option Nat) : Option (Int32) :=
  fa K 13 (p1) fun a1 =>
    fo K 2 (some t) fun a2 =>
    fa K 13 (M.2.2 a2 0) fun a3 =>
    if (nI (K a3).2) ≤ (nI (K a1).2) then
    f_X2_marks_L14 K M 4096 t (p1) (0) 
  else
    some 0
def f_J7_fill_d0a16_L6 (K : fh_K) : Nat → Option Nat → Int64 → Int32 → Int32 → fh_M → Option (fh_M)
  | 0 => fun _ _ _ _ _ => none
  | n + 1 => fun v0 v1 v3 v4 M =>
    if v4 ≤ v3 then
      some M
    else
      fi K 16 (v0) (v3) fun a2 =>
        fb (fh_sl M a2 v3.toNatClampNeg (v1)) fun M3 =>
        f_J7_fill_d0a16_L6 K n (v0) (v1) (v3 + 1) (v4) M3
def f_J7_fill_d0a16 (K : fh_K) (M : fh_M) (p0 : Option Nat) (p1 : Int64) : Option (fh_M) :=
  fa K 16 (p0) fun a1 =>
    f_J7_fill_d0a16_L6 K 4096 (p0) (p1) (0) (nI (K a1).2) M
def f_X8_carriesAll (K : fh_K) (M : fh_M) (t : Nat) (p1 : Int32) : Option (Int32) :=
  fo K 8 (some t) fun a1 =>
    if (p1 &&& ((M.1 a1 2) ^^^ (-1))) = 0 then
    some 1
  else
    some 0
def f_X7_init (K : fh_K) (M : fh_M) (t : Nat) (p1 : Option Nat) (p2 : Int32) (p3 : Int32) : Option (fh_M) :=
  fo K 7 (some t) fun a1 =>
    fb (fh_si M a1 3 (0)) fun M2 =>
    fb (fh_si M2 a1 4 (0)) fun M3 =>
    fb (fh_si M3 a1 5 ((-1))) fun M4 =>
    fb (fh_si M4 a1 6 (4)) fun M5 =>
    fb (fh_si M5 a1 7 (0)) fun M6 =>
    fb (fh_si M6 a1 8 (0)) fun M7 =>
    fb (fh_sr M7 a1 0 (p1)) fun M8 =>
    fb (fh_si M8 a1 1 (p2)) fun M9 =>
    fb (fh_si M9 a1 2 (p3)) fun M10 =>
    some M10
def f_X8_init (K : fh_K) (M : fh_M) (t : Nat) (p1 : Int32) (p2 : Int32) (p3 : Int32) (p4 : Int32) (p5 : Int32) : Option (fh_M) :=
  fo K 8 (some t) fun a1 =>
    fb (fh_si M a1 0 (p1)) fun M2 =>
    fb (fh_si M2 a1 1 (p2)) fun M3 =>
    fb (fh_si M3 a1 2 (p3)) fun M4 =>
    fb (fh_si M4 a1 3 (p4)) fun M5 =>
    fb (fh_si M5 a1 4 (p5)) fun M6 =>
    some M6
abbrev rm_X0_init : Room := { frames := 1, cells := 1, slots := 80, locals := 24 }
set_option maxRecDepth 10000 in
theorem r_X0_init (l : Launch) (D : fh_D) (A : Nat → Prop) {K : fh_K} {sz : Nat} {M : fh_M} {M' : fh_M} {K' : fh_K} {sz' : Nat} {t : Nat} {p1 : Int32} (h : f_X0_init sz K M t p1 = some (sz', K', M')) : fh_Met l yX0_init cX0_init 2 none rm_X0_init D K M sz A [va_rf (some t), .int p1] none K' M' sz' := by
  refine fh_enter (by decide) (by simp [lg_sl, va_rf_cat, cat_i, cat_l]) (lv := [(0, va_rf (some t)), (1, .int p1)]) (by simp [lv_args, va_rf_cat, cat_i, cat_l]) ?_
  intro X C E hnm _ _ _
  replace C : fh_C X 2 cX0_init RX0 := C
  unfold f_X0_init at h
  refine fv_aload_n C 0 rfl rfl dX0_init_0 ?_
  refine fv_objInit C lk_RX0_3 jw_oi_instanceMethod jw_oi_code (Nat.le_of_ble_eq_true rfl) (by simp [va_rf_cat, cat_i, cat_l]) dX0_init_1 ?_
  refine fv_aload_n C 0 rfl rfl dX0_init_4 ?_
  refine fv_iconst (v := 0) C (by decide) dX0_init_5 ?_
  replace h := fo_s h
  obtain ⟨a1, ea1, ka1, h⟩ := h
  replace h := fb_s h
  obtain ⟨M2, eM2, h⟩ := h
  refine fv_putI (fin := false) C fl_RX0_9 ea1 ka1 (narrow_i _) dX0_init_6 (fv_eqM eM2 ?_)
  refine fv_aload_n C 0 rfl rfl dX0_init_9 ?_
  refine fv_iload_n C 1 rfl rfl dX0_init_10 ?_
  refine fv_iconst (v := 0) C (by decide) dX0_init_11 ?_
  refine fv_max C lk_RX0_15 jw_max_static ji_Math jw_max_code (Nat.le_of_ble_eq_true rfl) (by simp [va_rf_cat, cat_i, cat_l]) (Nat.le_of_ble_eq_true rfl) (Nat.le_of_ble_eq_true rfl) dX0_init_12 ?_
  replace h := fn_s h
  obtain ⟨N3, pN3, qN3, bN3, h⟩ := h
  replace h := fb_s h
  obtain ⟨K4, eK4, h⟩ := h
  replace h := fb_s h
  obtain ⟨M5, eM5, h⟩ := h
  refine fv_newI C ac_int pN3 qN3 (Nat.le_trans bN3 (by decide)) (Nat.le_of_ble_eq_true rfl) (by show 0 + N3 ≤ _; exact Nat.le_trans (Nat.add_le_add_left bN3 _) (Nat.le_of_ble_eq_true rfl)) dX0_init_15 ?_
  refine fv_eqK eK4 (fv_eqM eM5 ?_)
  refine fv_widen (mc := 1) (ms := 80) (cc := ⟨#[]⟩) (own := "") (Nat.le_of_ble_eq_true rfl) (by exact Nat.add_le_add_left bN3 _) ?_
  replace h := fo_s h
  obtain ⟨a6, ea6, ka6, h⟩ := h
  replace h := fb_s h
  obtain ⟨M7, eM7, h⟩ := h
  refine fv_putFR (fin := true) C fl_RX0_21 ea6 ka6 rfl hnm (narrow_rf_a _ _) dX0_init_17 (fv_eqM eM7 ?_)
  cases h
  exact fv_vret (z := (0, 0, 0)) (st := []) C E dX0_init_20
abbrev rm_X0_clear : Room := { frames := 0, cells := 0, slots := 0, locals := 0 }
set_option maxRecDepth 10000 in
theorem r_X0_clear (l : Launch) (D : fh_D) (A : Nat → Prop) {K : fh_K} {sz : Nat} {M : fh_M} {M' : fh_M} {t : Nat} (h : f_X0_clear K M t = some M') : fh_Met l yX0_clear cX0_clear 1 none rm_X0_clear D K M sz A [va_rf (some t)] none K M' sz := by
  refine fh_enter (by decide) (by simp [lg_sl, va_rf_cat, cat_i, cat_l]) (lv := [(0, va_rf (some t))]) (by simp [lv_args, va_rf_cat, cat_i, cat_l]) ?_
  intro X C E hnm _ _ _
  replace C : fh_C X 1 cX0_clear RX0 := C
  unfold f_X0_clear at h
  refine fv_aload_n C 0 rfl rfl dX0_clear_0 ?_
  refine fv_iconst (v := 0) C (by decide) dX0_clear_1 ?_
  replace h := fo_s h
  obtain ⟨a1, ea1, ka1, h⟩ := h
  replace h := fb_s h
  obtain ⟨M2, eM2, h⟩ := h
  refine fv_putI (fin := false) C fl_RX0_9 ea1 ka1 (narrow_i _) dX0_clear_2 (fv_eqM eM2 ?_)
  cases h
  exact fv_vret (z := (0, 0, 0)) (st := []) C E dX0_clear_5
abbrev rm_X0_room : Room := { frames := 0, cells := 0, slots := 0, locals := 0 }
set_option maxRecDepth 10000 in
theorem r_X0_room (l : Launch) (D : fh_D) (A : Nat → Prop) {K : fh_K} {sz : Nat} {M : fh_M} {r : Int32} {t : Nat} (h : f_X0_room K M t = some r) : fh_Met l yX0_room cX0_room 1 (some .int) rm_X0_room D K M sz A [va_rf (some t)] (some (.int r)) K M sz := by
  refine fh_enter (by decide) (by simp [lg_sl, va_rf_cat, cat_i, cat_l]) (lv := [(0, va_rf (some t))]) (by simp [lv_args, va_rf_cat, cat_i, cat_l]) ?_
  intro X C E hnm _ _ _
  replace C : fh_C X 1 cX0_room RX0 := C
  unfold f_X0_room at h
  refine fv_aload_n C 0 rfl rfl dX0_room_0 ?_
  replace h := fo_s h
  obtain ⟨a1, ea1, ka1, h⟩ := h
  refine fv_getR C fl_RX0_21 ea1 ka1 dX0_room_1 ?_
  replace h := fa_s h
  obtain ⟨a2, ea2, ka2, h⟩ := h
  refine fv_alen C 0 (by decide) (fun _ => rfl) ea2 ka2 dX0_room_4 ?_
  refine fv_aload_n C 0 rfl rfl dX0_room_5 ?_
  refine fv_getI C fl_RX0_9 ea1 ka1 dX0_room_6 ?_
  refine fv_isub C dX0_room_9 ?_
  cases h
  exact fv_iret (z := (0, 0, 0)) (st := []) C E dX0_room_10
abbrev rm_X0_addByte : Room := { frames := 0, cells := 0, slots := 0, locals := 0 }
set_option maxRecDepth 10000 in
theorem r_X0_addByte (l : Launch) (D : fh_D) (A : Nat → Prop) {K : fh_K} {sz : Nat} {M : fh_M} {M' : fh_M} {r : Int32} {t : Nat} {p1 : Int32} (h : f_X0_addByte K M t p1 = some (r, M')) : fh_Met l yX0_addByte cX0_addByte 2 (some .boolean) rm_X0_addByte D K M sz A [va_rf (some t), .int p1] (some (.int r)) K M' sz := by
  refine fh_enter (by decide) (by simp [lg_sl, va_rf_cat, cat_i, cat_l]) (lv := [(0, va_rf (some t)), (1, .int p1)]) (by simp [lv_args, va_rf_cat, cat_i, cat_l]) ?_
  intro X C E hnm _ _ _
  replace C : fh_C X 2 cX0_addByte RX0 := C
  unfold f_X0_addByte at h
  refine fv_aload_n C 0 rfl rfl dX0_addByte_0 ?_
  replace h := fo_s h
  obtain ⟨a1, ea1, ka1, h⟩ := h
  refine fv_getI C fl_RX0_9 ea1 ka1 dX0_addByte_1 ?_
  refine fv_aload_n C 0 rfl rfl dX0_addByte_4 ?_
  refine fv_getR C fl_RX0_21 ea1 ka1 dX0_addByte_5 ?_
  replace h := fa_s h
  obtain ⟨a2, ea2, ka2, h⟩ := h
  refine fv_alen C 0 (by decide) (fun _ => rfl) ea2 ka2 dX0_addByte_8 ?_
  refine fv_icmp_lt C 14 (by decide) dX0_addByte_9 (fun c6 => ?_) (fun c6 => ?_)
  · replace h := itT c6 h
    refine fv_aload_n C 0 rfl rfl dX0_addByte_14 ?_
    refine fv_getR C fl_RX0_21 ea1 ka1 dX0_addByte_15 ?_
    refine fv_aload_n C 0 rfl rfl dX0_addByte_18 ?_
    refine fv_getI C fl_RX0_9 ea1 ka1 dX0_addByte_19 ?_
    refine fv_iload_n C 1 rfl rfl dX0_addByte_22 ?_
    refine fv_sipush (v := 255) C (by decide) dX0_addByte_23 ?_
    refine fv_iand C dX0_addByte_26 ?_
    replace h := fi_s h
    obtain ⟨a3, ea3, ka3, ia3, h⟩ := h
    replace h := fb_s h
    obtain ⟨M4, eM4, h⟩ := h
    refine fv_iast C ea3 ka3 ia3 dX0_addByte_27 (fv_eqM eM4 ?_)
    refine fv_aload_n C 0 rfl rfl dX0_addByte_28 ?_
    refine fv_dupr C dX0_addByte_29 ?_
    refine fv_getI C fl_RX0_9 ea1 ka1 dX0_addByte_30 ?_
    refine fv_iconst (v := 1) C (by decide) dX0_addByte_33 ?_
    refine fv_iadd C dX0_addByte_34 ?_
    replace h := fb_s h
    obtain ⟨M5, eM5, h⟩ := h
    refine fv_putI (fin := false) C fl_RX0_9 ea1 ka1 (narrow_i _) dX0_addByte_35 (fv_eqM eM5 ?_)
    refine fv_iconst (v := 1) C (by decide) dX0_addByte_38 ?_
    cases h
    exact fv_zret (z := (0, 0, 0)) (st := []) C E (Or.inr rfl) dX0_addByte_39
  · replace h := itF c6 h
    refine fv_iconst (v := 0) C (by decide) dX0_addByte_12 ?_
    cases h
    exact fv_zret (z := (0, 0, 0)) (st := []) C E (Or.inl rfl) dX0_addByte_13
abbrev rm_X0_addWord : Room := { frames := 1, cells := 0, slots := 0, locals := 21 }
set_option maxRecDepth 10000 in
theorem r_X0_addWord_L3 {X : fh_X} {K : fh_K} {sz : Nat} {M' : fh_M} (C : fh_C X 3 cX0_addWord RX0) (E : fh_E X rm_X0_addWord none none K M' sz) : ∀ (n : Nat) (t : Nat) (v1 : Int32) (v2 : Int32) (M : fh_M), f_X0_addWord_L3 K n t v1 v2 M = some M' → fh_V X rm_X0_addWord 3 (sz, 0, 0) K M 3 [(0, va_rf (some t)), (1, .int v1), (2, .int v2)] [] := by
  intro n
  induction n with
  | zero => intro t v1 v2 M h; cases h
  | succ n ih =>
    intro t v1 v2 M h
    unfold f_X0_addWord_L3 at h
    refine fv_iload_n C 2 rfl rfl dX0_addWord_3 ?_
    refine fv_if_lt C 21 (by decide) dX0_addWord_4 (fun c4 => ?_) (fun c4 => ?_)
    · replace h := itT c4 h
      cases h
      exact fv_vret (z := (0, 0, 0)) (st := []) C E dX0_addWord_21
    · replace h := itF c4 h
      refine fv_aload_n C 0 rfl rfl dX0_addWord_7 ?_
      refine fv_iload_n C 1 rfl rfl dX0_addWord_8 ?_
      refine fv_iload_n C 2 rfl rfl dX0_addWord_9 ?_
      refine fv_ishr C dX0_addWord_10 ?_
      replace h := fo_s h
      obtain ⟨a1, ea1, ka1, h⟩ := h
      replace h := fc2_s h
      obtain ⟨r2, M3, er2, h⟩ := h
      refine fv_callV [.int (v1 >>> (v2 &&& 31))] C mi_X0_addByte ms_X0_addByte lk_RX0_25 ea1 ka1 (r_X0_addByte _ _ _ er2) ⟨Nat.le_of_ble_eq_true rfl, Nat.le_of_ble_eq_true rfl⟩ ⟨Nat.le_of_ble_eq_true rfl, Nat.le_of_ble_eq_true rfl⟩ rfl rfl (by simp [va_rf_cat, cat_i, cat_l]) dX0_addWord_11 ?_
      show fh_V X rm_X0_addWord 3 (sz, 0, 0) K M3 _ _ [.int r2]
      refine fv_pop C dX0_addWord_14 ?_
      refine fv_iinc (v := v2 + (-8)) (lv' := [(2, .int (v2 + (-8))), (0, va_rf (some t)), (1, .int v1)]) C 2 rfl (by first | rfl | exact congrArg _ (by decide)) (by decide) (by first | rfl | simp [va_rf_cat]) dX0_addWord_15 ?_
      refine fv_goto C 3 (by decide) dX0_addWord_18 ?_
      refine fv_sub (cc := ⟨#[]⟩) (own := "") [1, 2, 0] rfl ?_
      exact ih _ _ _ _ h
set_option maxRecDepth 10000 in
theorem r_X0_addWord (l : Launch) (D : fh_D) (A : Nat → Prop) {K : fh_K} {sz : Nat} {M : fh_M} {M' : fh_M} {t : Nat} {p1 : Int32} (h : f_X0_addWord K M t p1 = some M') : fh_Met l yX0_addWord cX0_addWord 3 none rm_X0_addWord D K M sz A [va_rf (some t), .int p1] none K M' sz := by
  refine fh_enter (by decide) (by simp [lg_sl, va_rf_cat, cat_i, cat_l]) (lv := [(0, va_rf (some t)), (1, .int p1)]) (by simp [lv_args, va_rf_cat, cat_i, cat_l]) ?_
  intro X C E hnm _ _ _
  replace C : fh_C X 3 cX0_addWord RX0 := C
  unfold f_X0_addWord at h
  refine fv_bipush (v := 24) C (by decide) dX0_addWord_0 ?_
  refine fv_istore_n (i := 2) (lv' := [(2, .int 24), (0, va_rf (some t)), (1, .int p1)]) C rfl (by decide) (by first | rfl | simp [va_rf_cat]) dX0_addWord_2 ?_
  refine fv_sub (cc := ⟨#[]⟩) (own := "") [1, 2, 0] rfl ?_
  exact r_X0_addWord_L3 C E  4096 _ _ _ _ h
abbrev rm_X0_addPart : Room := { frames := 1, cells := 0, slots := 0, locals := 60 }
set_option maxRecDepth 10000 in
theorem r_X0_addPart (l : Launch) (D : fh_D) (A : Nat → Prop) {K : fh_K} {sz : Nat} {M : fh_M} {M' : fh_M} {r : Int32} {t : Nat} {p1 : Option Nat} {p2 : Int32} {p3 : Int32} (h : f_X0_addPart K M t p1 p2 p3 = some (r, M')) : fh_Met l yX0_addPart cX0_addPart 4 (some .boolean) rm_X0_addPart D K M sz A [va_rf (some t), va_rf p1, .int p2, .int p3] (some (.int r)) K M' sz := by
  refine fh_enter (by decide) (by simp [lg_sl, va_rf_cat, cat_i, cat_l]) (lv := [(0, va_rf (some t)), (1, va_rf p1), (2, .int p2), (3, .int p3)]) (by simp [lv_args, va_rf_cat, cat_i, cat_l]) ?_
  intro X C E hnm _ _ _
  replace C : fh_C X 4 cX0_addPart RX0 := C
  unfold f_X0_addPart at h
  refine fv_iload_n C 2 rfl rfl dX0_addPart_0 ?_
  refine fv_if_lt C 24 (by decide) dX0_addPart_1 (fun c12 => ?_) (fun c12 => ?_)
  · replace h := itT c12 h
    refine fv_iconst (v := 0) C (by decide) dX0_addPart_24 ?_
    cases h
    exact fv_zret (z := (0, 0, 0)) (st := []) C E (Or.inl rfl) dX0_addPart_25
  · replace h := itF c12 h
    refine fv_iload_n C 3 rfl rfl dX0_addPart_4 ?_
    refine fv_if_lt C 24 (by decide) dX0_addPart_5 (fun c11 => ?_) (fun c11 => ?_)
    · replace h := itT c11 h
      refine fv_iconst (v := 0) C (by decide) dX0_addPart_24 ?_
      cases h
      exact fv_zret (z := (0, 0, 0)) (st := []) C E (Or.inl rfl) dX0_addPart_25
    · replace h := itF c11 h
      refine fv_iload_n C 3 rfl rfl dX0_addPart_8 ?_
      refine fv_aload_n C 1 rfl rfl dX0_addPart_9 ?_
      replace h := fa_s h
      obtain ⟨a1, ea1, ka1, h⟩ := h
      refine fv_alen C 0 (by decide) (fun _ => rfl) ea1 ka1 dX0_addPart_10 ?_
      refine fv_iload_n C 2 rfl rfl dX0_addPart_11 ?_
      refine fv_isub C dX0_addPart_12 ?_
      refine fv_icmp_gt C 24 (by decide) dX0_addPart_13 (fun c10 => ?_) (fun c10 => ?_)
      · replace h := itT c10 h
        refine fv_iconst (v := 0) C (by decide) dX0_addPart_24 ?_
        cases h
        exact fv_zret (z := (0, 0, 0)) (st := []) C E (Or.inl rfl) dX0_addPart_25
      · replace h := itF c10 h
        refine fv_iload_n C 3 rfl rfl dX0_addPart_16 ?_
        refine fv_aload_n C 0 rfl rfl dX0_addPart_17 ?_
        replace h := fo_s h
        obtain ⟨a2, ea2, ka2, h⟩ := h
        replace h := bx h
        obtain ⟨r3, er3, h⟩ := h
        refine fv_callV [] C mi_X0_room ms_X0_room lk_RX0_29 ea2 ka2 (r_X0_room _ _ _ er3) ⟨Nat.le_of_ble_eq_true rfl, Nat.le_of_ble_eq_true rfl⟩ ⟨Nat.le_of_ble_eq_true rfl, Nat.le_of_ble_eq_true rfl⟩ rfl rfl (by simp [va_rf_cat, cat_i, cat_l]) dX0_addPart_18 ?_
        show fh_V X rm_X0_addPart 4 (sz, 0, 0) K M _ _ [.int r3, .int p3]
        refine fv_icmp_le C 26 (by decide) dX0_addPart_21 (fun c9 => ?_) (fun c9 => ?_)
        · replace h := itT c9 h
          refine fv_aload_n C 1 rfl rfl dX0_addPart_26 ?_
          refine fv_iload_n C 2 rfl rfl dX0_addPart_27 ?_
          refine fv_aload_n C 0 rfl rfl dX0_addPart_28 ?_
          refine fv_getR C fl_RX0_21 ea2 ka2 dX0_addPart_29 ?_
          refine fv_aload_n C 0 rfl rfl dX0_addPart_32 ?_
          refine fv_getI C fl_RX0_9 ea2 ka2 dX0_addPart_33 ?_
          refine fv_iload_n C 3 rfl rfl dX0_addPart_36 ?_
          replace h := fq_s h
          obtain ⟨a4, a5, ea4, ea5, q6, h⟩ := h
          replace h := fb_s h
          obtain ⟨M7, eM7, h⟩ := h
          refine fv_copy C lk_RX0_33 jw_copy_native jw_copy_static ji_System ea4 ea5 q6.1 q6.2.1 q6.2.2.1 q6.2.2.2.1 q6.2.2.2.2.1 q6.2.2.2.2.2.1 q6.2.2.2.2.2.2 (by decide) (by simp [va_rf_cat, cat_i, cat_l, nativeFrameWords]) dX0_addPart_37 (fv_eqM eM7 ?_)
          refine fv_aload_n C 0 rfl rfl dX0_addPart_40 ?_
          refine fv_dupr C dX0_addPart_41 ?_
          refine fv_getI C fl_RX0_9 ea2 ka2 dX0_addPart_42 ?_
          refine fv_iload_n C 3 rfl rfl dX0_addPart_45 ?_
          refine fv_iadd C dX0_addPart_46 ?_
          replace h := fb_s h
          obtain ⟨M8, eM8, h⟩ := h
          refine fv_putI (fin := false) C fl_RX0_9 ea2 ka2 (narrow_i _) dX0_addPart_47 (fv_eqM eM8 ?_)
          refine fv_iconst (v := 1) C (by decide) dX0_addPart_50 ?_
          cases h
          exact fv_zret (z := (0, 0, 0)) (st := []) C E (Or.inr rfl) dX0_addPart_51
        · replace h := itF c9 h
          refine fv_iconst (v := 0) C (by decide) dX0_addPart_24 ?_
          cases h
          exact fv_zret (z := (0, 0, 0)) (st := []) C E (Or.inl rfl) dX0_addPart_25
abbrev rm_J7_copyOf_59c91 : Room := { frames := 1, cells := 2, slots := 160, locals := 60 }
set_option maxRecDepth 10000 in
theorem r_J7_copyOf_59c91 (l : Launch) (D : fh_D) (A : Nat → Prop) {K : fh_K} {sz : Nat} {M : fh_M} {M' : fh_M} {K' : fh_K} {sz' : Nat} {r : Option Nat} {p0 : Option Nat} {p1 : Int32} (h : f_J7_copyOf_59c91 sz K M p0 p1 = some (r, sz', K', M')) : fh_Met l yJ7_copyOf_59c91 cJ7_copyOf_59c91 3 (some (.array .int)) rm_J7_copyOf_59c91 D K M sz A [va_rf p0, .int p1] (some (va_rf r)) K' M' sz' := by
  refine fh_enter (by decide) (by simp [lg_sl, va_rf_cat, cat_i, cat_l]) (lv := [(0, va_rf p0), (1, .int p1)]) (by simp [lv_args, va_rf_cat, cat_i, cat_l]) ?_
  intro X C E hnm _ _ _
  replace C : fh_C X 3 cJ7_copyOf_59c91 RJ7 := C
  unfold f_J7_copyOf_59c91 at h
  refine fv_iload_n C 1 rfl rfl dJ7_copyOf_59c91_0 ?_
  refine fv_aload_n C 0 rfl rfl dJ7_copyOf_59c91_1 ?_
  replace h := fa_s h
  obtain ⟨a1, ea1, ka1, h⟩ := h
  refine fv_alen C 0 (by decide) (fun _ => rfl) ea1 ka1 dJ7_copyOf_59c91_2 ?_
  refine fv_icmp_ne C 14 (by decide) dJ7_copyOf_59c91_3 (fun c14 => ?_) (fun c14 => ?_)
  · replace h := itF c14 h
    refine fv_iload_n C 1 rfl rfl dJ7_copyOf_59c91_14 ?_
    replace h := fn_s h
    obtain ⟨N2, pN2, qN2, bN2, h⟩ := h
    replace h := fb_s h
    obtain ⟨K3, eK3, h⟩ := h
    replace h := fb_s h
    obtain ⟨M4, eM4, h⟩ := h
    refine fv_newI C ac_int pN2 qN2 (Nat.le_trans bN2 (by decide)) (Nat.le_of_ble_eq_true rfl) (by show 0 + N2 ≤ _; exact Nat.le_trans (Nat.add_le_add_left bN2 _) (Nat.le_of_ble_eq_true rfl)) dJ7_copyOf_59c91_15 ?_
    refine fv_eqK eK3 (fv_eqM eM4 ?_)
    refine fv_widen (mc := 1) (ms := 80) (cc := ⟨#[]⟩) (own := "") (Nat.le_of_ble_eq_true rfl) (by exact Nat.add_le_add_left bN2 _) ?_
    refine fv_astore_n (i := 2) (lv' := [(2, va_rf (some sz)), (0, va_rf (p0)), (1, .int p1)]) C rfl (by decide) (by first | rfl | simp [va_rf_cat]) dJ7_copyOf_59c91_17 ?_
    refine fv_aload_n C 1 rfl rfl dJ7_copyOf_59c91_18 ?_
    refine fv_iconst (v := 0) C (by decide) dJ7_copyOf_59c91_19 ?_
    refine fv_aload_n C 0 rfl rfl dJ7_copyOf_59c91_20 ?_
    refine fv_iconst (v := 0) C (by decide) dJ7_copyOf_59c91_21 ?_
    refine fv_aload_n C 1 rfl rfl dJ7_copyOf_59c91_22 ?_
    replace h := fa_s h
    obtain ⟨a5, ea5, ka5, h⟩ := h
    refine fv_alen C 0 (by decide) (fun _ => rfl) ea5 ka5 dJ7_copyOf_59c91_23 ?_
    refine fv_iload_n C 2 rfl rfl dJ7_copyOf_59c91_24 ?_
    refine fv_min C lk_RJ7_304 jw_min_static ji_Math jw_min_code (Nat.le_of_ble_eq_true rfl) (by simp [va_rf_cat, cat_i, cat_l]) (Nat.le_of_ble_eq_true rfl) (Nat.le_of_ble_eq_true rfl) dJ7_copyOf_59c91_25 ?_
    replace h := fq_s h
    obtain ⟨a6, a7, ea6, ea7, q8, h⟩ := h
    replace h := fb_s h
    obtain ⟨M9, eM9, h⟩ := h
    refine fv_copy C lk_RJ7_150 jw_copy_native jw_copy_static ji_System ea6 ea7 q8.1 q8.2.1 q8.2.2.1 q8.2.2.2.1 q8.2.2.2.2.1 q8.2.2.2.2.2.1 q8.2.2.2.2.2.2 (by decide) (by simp [va_rf_cat, cat_i, cat_l, nativeFrameWords]) dJ7_copyOf_59c91_28 (fv_eqM eM9 ?_)
    refine fv_aload_n C 0 rfl rfl dJ7_copyOf_59c91_31 ?_
    refine fv_widen (mc := 2) (ms := 160) (cc := ⟨#[]⟩) (own := "") (Nat.le_of_ble_eq_true rfl) (Nat.le_of_ble_eq_true rfl) ?_
    cases h
    exact fv_aret (z := (0, 0, 0)) (st := []) C E (Or.inr ⟨_, rfl⟩) dJ7_copyOf_59c91_32
  · replace h := itT c14 h
    refine fv_aload_n C 0 rfl rfl dJ7_copyOf_59c91_6 ?_
    replace h := fle_s h
    obtain ⟨b10, h⟩ := h
    replace h := fb_s h
    obtain ⟨K11, eK11, h⟩ := h
    replace h := fb_s h
    obtain ⟨M12, eM12, h⟩ := h
    refine fv_clone C lk_RJ7_316 jc_same jc_native jc_inst jc_sel ea1 ka1 (Nat.le_of_ble_eq_true rfl) (by simp [va_rf_cat, cat_i, cat_l]) (Nat.le_of_ble_eq_true rfl) (by show 0 + (K a1).2 ≤ _; exact Nat.le_trans (Nat.add_le_add_left b10 _) (Nat.le_of_ble_eq_true rfl)) dJ7_copyOf_59c91_7 ?_
    refine fv_eqK eK11 (fv_eqM eM12 ?_)
    refine fv_widen (mc := 1) (ms := 80) (cc := ⟨#[]⟩) (own := "") (Nat.le_of_ble_eq_true rfl) (by exact Nat.add_le_add_left b10 _) ?_
    replace h := fa_s h
    obtain ⟨a13, ea13, ka13, h⟩ := h
    refine fv_castI C ck_RJ7_317 ea13 ka13 dJ7_copyOf_59c91_10 ?_
    refine fv_widen (mc := 2) (ms := 160) (cc := ⟨#[]⟩) (own := "") (Nat.le_of_ble_eq_true rfl) (Nat.le_of_ble_eq_true rfl) ?_
    cases h
    exact fv_aret (z := (0, 0, 0)) (st := []) C E (Or.inr ⟨_, rfl⟩) dJ7_copyOf_59c91_13
abbrev rm_X0_firstBytes : Room := { frames := 2, cells := 2, slots := 160, locals := 82 }
set_option maxRecDepth 10000 in
theorem r_X0_firstBytes (l : Launch) (D : fh_D) (A : Nat → Prop) {K : fh_K} {sz : Nat} {M : fh_M} {M' : fh_M} {K' : fh_K} {sz' : Nat} {r : Option Nat} {t : Nat} {p1 : Int32} (h : f_X0_firstBytes sz K M t p1 = some (r, sz', K', M')) : fh_Met l yX0_firstBytes cX0_firstBytes 2 (some (.array .int)) rm_X0_firstBytes D K M sz A [va_rf (some t), .int p1] (some (va_rf r)) K' M' sz' := by
  refine fh_enter (by decide) (by simp [lg_sl, va_rf_cat, cat_i, cat_l]) (lv := [(0, va_rf (some t)), (1, .int p1)]) (by simp [lv_args, va_rf_cat, cat_i, cat_l]) ?_
  intro X C E hnm _ _ _
  replace C : fh_C X 2 cX0_firstBytes RX0 := C
  unfold f_X0_firstBytes at h
  refine fv_aload_n C 0 rfl rfl dX0_firstBytes_0 ?_
  replace h := fo_s h
  obtain ⟨a1, ea1, ka1, h⟩ := h
  refine fv_getR C fl_RX0_21 ea1 ka1 dX0_firstBytes_1 ?_
  refine fv_iconst (v := 0) C (by decide) dX0_firstBytes_4 ?_
  refine fv_iload_n C 1 rfl rfl dX0_firstBytes_5 ?_
  refine fv_aload_n C 0 rfl rfl dX0_firstBytes_6 ?_
  refine fv_getI C fl_RX0_9 ea1 ka1 dX0_firstBytes_7 ?_
  refine fv_min C lk_RX0_39 jw_min_static ji_Math jw_min_code (Nat.le_of_ble_eq_true rfl) (by simp [va_rf_cat, cat_i, cat_l]) (Nat.le_of_ble_eq_true rfl) (Nat.le_of_ble_eq_true rfl) dX0_firstBytes_10 ?_
  refine fv_max C lk_RX0_15 jw_max_static ji_Math jw_max_code (Nat.le_of_ble_eq_true rfl) (by simp [va_rf_cat, cat_i, cat_l]) (Nat.le_of_ble_eq_true rfl) (Nat.le_of_ble_eq_true rfl) dX0_firstBytes_13 ?_
  replace h := fc4_s h
  obtain ⟨r2, w5, K4, M3, er2, h⟩ := h
  refine fv_callS [va_rf (M.2.2 a1 0), .int (if 0 < (if (M.1 a1 1) < p1 then M.1 a1 1 else p1) then if (M.1 a1 1) < p1 then M.1 a1 1 else p1 else 0)] C mi_J7_copyOf_59c91 lk_RX0_42 (r_J7_copyOf_59c91 _ _ _ er2) ⟨Nat.le_of_ble_eq_true rfl, Nat.le_of_ble_eq_true rfl⟩ ⟨Nat.le_of_ble_eq_true rfl, Nat.le_of_ble_eq_true rfl⟩ rfl rfl (by simp [va_rf_cat, cat_i, cat_l]) dX0_firstBytes_16 ?_
  show fh_V X rm_X0_firstBytes 2 (w5, 2, 160) K4 M3 _ _ [va_rf (r2)]
  cases h
  exact fv_aret (z := (0, 0, 0)) (st := []) C E (Or.inr ⟨_, rfl⟩) dX0_firstBytes_19
abbrev rm_J7_fill_53178 : Room := { frames := 0, cells := 0, slots := 0, locals := 0 }
set_option maxRecDepth 10000 in
theorem r_J7_fill_53178_L5 {X : fh_X} {K : fh_K} {sz : Nat} {M' : fh_M} (C : fh_C X 4 cJ7_fill_53178 RJ7) (E : fh_E X rm_J7_fill_53178 none none K M' sz) : ∀ (n : Nat) (v0 : Option Nat) (v1 : Int32) (v2 : Int32) (v3 : Int32) (M : fh_M), f_J7_fill_53178_L5 K n v0 v1 v2 v3 M = some M' → fh_V X rm_J7_fill_53178 4 (sz, 0, 0) K M 5 [(0, va_rf (v0)), (1, .int v1), (2, .int v2), (3, .int v3)] [] := by
  intro n
  induction n with
  | zero => intro v0 v1 v2 v3 M h; cases h
  | succ n ih =>
    intro v0 v1 v2 v3 M h
    unfold f_J7_fill_53178_L5 at h
    refine fv_iload_n C 2 rfl rfl dJ7_fill_53178_5 ?_
    refine fv_iload_n C 3 rfl rfl dJ7_fill_53178_6 ?_
    refine fv_icmp_ge C 20 (by decide) dJ7_fill_53178_7 (fun c4 => ?_) (fun c4 => ?_)
    · replace h := itT c4 h
      cases h
      exact fv_vret (z := (0, 0, 0)) (st := []) C E dJ7_fill_53178_20
    · replace h := itF c4 h
      refine fv_aload_n C 0 rfl rfl dJ7_fill_53178_10 ?_
      refine fv_iload_n C 2 rfl rfl dJ7_fill_53178_11 ?_
      refine fv_iload_n C 1 rfl rfl dJ7_fill_53178_12 ?_
      replace h := fi_s h
      obtain ⟨a2, ea2, ka2, ia2, h⟩ := h
      replace h := fb_s h
      obtain ⟨M3, eM3, h⟩ := h
      refine fv_iast C ea2 ka2 ia2 dJ7_fill_53178_13 (fv_eqM eM3 ?_)
      refine fv_iinc (v := v2 + 1) (lv' := [(2, .int (v2 + 1)), (0, va_rf (v0)), (1, .int v1), (3, .int v3)]) C 2 rfl (by first | rfl | exact congrArg _ (by decide)) (by decide) (by first | rfl | simp [va_rf_cat]) dJ7_fill_53178_14 ?_
      refine fv_goto C 5 (by decide) dJ7_fill_53178_17 ?_
      refine fv_sub (cc := ⟨#[]⟩) (own := "") [1, 2, 0, 3] rfl ?_
      exact ih _ _ _ _ _ h
set_option maxRecDepth 10000 in
theorem r_J7_fill_53178 (l : Launch) (D : fh_D) (A : Nat → Prop) {K : fh_K} {sz : Nat} {M : fh_M} {M' : fh_M} {p0 : Option Nat} {p1 : Int32} (h : f_J7_fill_53178 K M p0 p1 = some M') : fh_Met l yJ7_fill_53178 cJ7_fill_53178 4 none rm_J7_fill_53178 D K M sz A [va_rf p0, .int p1] none K M' sz := by
  refine fh_enter (by decide) (by simp [lg_sl, va_rf_cat, cat_i, cat_l]) (lv := [(0, va_rf p0), (1, .int p1)]) (by simp [lv_args, va_rf_cat, cat_i, cat_l]) ?_
  intro X C E hnm _ _ _
  replace C : fh_C X 4 cJ7_fill_53178 RJ7 := C
  unfold f_J7_fill_53178 at h
  refine fv_iconst (v := 0) C (by decide) dJ7_fill_53178_0 ?_
  refine fv_istore_n (i := 2) (lv' := [(2, .int 0), (0, va_rf (p0)), (1, .int p1)]) C rfl (by decide) (by first | rfl | simp [va_rf_cat]) dJ7_fill_53178_1 ?_
  refine fv_aload_n C 1 rfl rfl dJ7_fill_53178_2 ?_
  replace h := fa_s h
  obtain ⟨a1, ea1, ka1, h⟩ := h
  refine fv_alen C 0 (by decide) (fun _ => rfl) ea1 ka1 dJ7_fill_53178_3 ?_
  refine fv_istore_n (i := 3) (lv' := [(3, .int (nI (K a1).2)), (2, .int 0), (0, va_rf (p0)), (1, .int p1)]) C rfl (by decide) (by first | rfl | simp [va_rf_cat]) dJ7_fill_53178_4 ?_
  refine fv_sub (cc := ⟨#[]⟩) (own := "") [2, 3, 1, 0] rfl ?_
  exact r_J7_fill_53178_L5 C E  4096 _ _ _ _ _ h
abbrev rm_X1_init : Room := { frames := 1, cells := 2, slots := 16, locals := 24 }
set_option maxRecDepth 10000 in
theorem r_X1_init (l : Launch) (D : fh_D) (A : Nat → Prop) {K : fh_K} {sz : Nat} {M : fh_M} {M' : fh_M} {K' : fh_K} {sz' : Nat} {t : Nat} (h : f_X1_init sz K M t = some (sz', K', M')) : fh_Met l yX1_init cX1_init 1 none rm_X1_init D K M sz A [va_rf (some t)] none K' M' sz' := by
  refine fh_enter (by decide) (by simp [lg_sl, va_rf_cat, cat_i, cat_l]) (lv := [(0, va_rf (some t))]) (by simp [lv_args, va_rf_cat, cat_i, cat_l]) ?_
  intro X C E hnm _ _ _
  replace C : fh_C X 1 cX1_init RX1 := C
  unfold f_X1_init at h
  refine fv_aload_n C 0 rfl rfl dX1_init_0 ?_
  refine fv_objInit C lk_RX1_3 jw_oi_instanceMethod jw_oi_code (Nat.le_of_ble_eq_true rfl) (by simp [va_rf_cat, cat_i, cat_l]) dX1_init_1 ?_
  refine fv_aload_n C 0 rfl rfl dX1_init_4 ?_
  refine fv_bipush (v := 8) C (by decide) dX1_init_5 ?_
  replace h := fn_s h
  obtain ⟨N1, pN1, qN1, bN1, h⟩ := h
  replace h := fb_s h
  obtain ⟨K2, eK2, h⟩ := h
  replace h := fb_s h
  obtain ⟨M3, eM3, h⟩ := h
  refine fv_newI C ac_int pN1 qN1 (Nat.le_trans bN1 (by decide)) (Nat.le_of_ble_eq_true rfl) (by show 0 + N1 ≤ _; exact Nat.le_trans (Nat.add_le_add_left bN1 _) (Nat.le_of_ble_eq_true rfl)) dX1_init_7 ?_
  refine fv_eqK eK2 (fv_eqM eM3 ?_)
  refine fv_widen (mc := 1) (ms := 8) (cc := ⟨#[]⟩) (own := "") (Nat.le_of_ble_eq_true rfl) (by exact Nat.add_le_add_left bN1 _) ?_
  replace h := fo_s h
  obtain ⟨a4, ea4, ka4, h⟩ := h
  replace h := fb_s h
  obtain ⟨M5, eM5, h⟩ := h
  refine fv_putFR (fin := true) C fl_RX1_9 ea4 ka4 rfl hnm (narrow_rf_a _ _) dX1_init_9 (fv_eqM eM5 ?_)
  refine fv_aload_n C 0 rfl rfl dX1_init_12 ?_
  refine fv_bipush (v := 8) C (by decide) dX1_init_13 ?_
  replace h := fn_s h
  obtain ⟨N6, pN6, qN6, bN6, h⟩ := h
  replace h := fb_s h
  obtain ⟨K7, eK7, h⟩ := h
  replace h := fb_s h
  obtain ⟨M8, eM8, h⟩ := h
  refine fv_newI C ac_int pN6 qN6 (Nat.le_trans bN6 (by decide)) (Nat.le_of_ble_eq_true rfl) (by show 8 + N6 ≤ _; exact Nat.le_trans (Nat.add_le_add_left bN6 _) (Nat.le_of_ble_eq_true rfl)) dX1_init_15 ?_
  refine fv_eqK eK7 (fv_eqM eM8 ?_)
  refine fv_widen (mc := 2) (ms := 16) (cc := ⟨#[]⟩) (own := "") (Nat.le_of_ble_eq_true rfl) (by exact Nat.add_le_add_left bN6 _) ?_
  replace h := fo_s h
  obtain ⟨a9, ea9, ka9, h⟩ := h
  replace h := fb_s h
  obtain ⟨M10, eM10, h⟩ := h
  refine fv_putFR (fin := true) C fl_RX1_15 ea9 ka9 rfl hnm (narrow_rf_a _ _) dX1_init_17 (fv_eqM eM10 ?_)
  refine fv_aload_n C 0 rfl rfl dX1_init_20 ?_
  refine fv_getR C fl_RX1_9 ea9 ka9 dX1_init_21 ?_
  refine fv_sipush (v := 999) C (by decide) dX1_init_24 ?_
  replace h := bx h
  obtain ⟨M12, er11, h⟩ := h
  refine fv_callS [va_rf (M10.2.2 a9 0), .int 999] C mi_J7_fill_53178 lk_RX1_18 (r_J7_fill_53178 _ _ _ er11) ⟨Nat.le_of_ble_eq_true rfl, Nat.le_of_ble_eq_true rfl⟩ ⟨Nat.le_of_ble_eq_true rfl, Nat.le_of_ble_eq_true rfl⟩ rfl rfl (by simp [va_rf_cat, cat_i, cat_l]) dX1_init_27 ?_
  show fh_V X rm_X1_init 1 (sz + 2, 2, 16) K7 M12 _ _ []
  refine fv_aload_n C 0 rfl rfl dX1_init_30 ?_
  refine fv_getR C fl_RX1_15 ea9 ka9 dX1_init_31 ?_
  refine fv_sipush (v := 999) C (by decide) dX1_init_34 ?_
  replace h := bx h
  obtain ⟨M14, er13, h⟩ := h
  refine fv_callS [va_rf (M12.2.2 a9 1), .int 999] C mi_J7_fill_53178 lk_RX1_18 (r_J7_fill_53178 _ _ _ er13) ⟨Nat.le_of_ble_eq_true rfl, Nat.le_of_ble_eq_true rfl⟩ ⟨Nat.le_of_ble_eq_true rfl, Nat.le_of_ble_eq_true rfl⟩ rfl rfl (by simp [va_rf_cat, cat_i, cat_l]) dX1_init_37 ?_
  show fh_V X rm_X1_init 1 (sz + 2, 2, 16) K7 M14 _ _ []
  cases h
  exact fv_vret (z := (0, 0, 0)) (st := []) C E dX1_init_40
abbrev rm_X1_knows : Room := { frames := 0, cells := 0, slots := 0, locals := 0 }
set_option maxRecDepth 10000 in
theorem r_X1_knows (l : Launch) (D : fh_D) (A : Nat → Prop) {K : fh_K} {sz : Nat} {M : fh_M} {r : Int32} {t : Nat} {p1 : Int32} (h : f_X1_knows K M t p1 = some r) : fh_Met l yX1_knows cX1_knows 2 (some .boolean) rm_X1_knows D K M sz A [va_rf (some t), .int p1] (some (.int r)) K M sz := by
  refine fh_enter (by decide) (by simp [lg_sl, va_rf_cat, cat_i, cat_l]) (lv := [(0, va_rf (some t)), (1, .int p1)]) (by simp [lv_args, va_rf_cat, cat_i, cat_l]) ?_
  intro X C E hnm _ _ _
  replace C : fh_C X 2 cX1_knows RX1 := C
  unfold f_X1_knows at h
  refine fv_iload_n C 1 rfl rfl dX1_knows_0 ?_
  refine fv_if_lt C 14 (by decide) dX1_knows_1 (fun c2 => ?_) (fun c2 => ?_)
  · replace h := itT c2 h
    refine fv_iconst (v := 0) C (by decide) dX1_knows_14 ?_
    cases h
    exact fv_zret (z := (0, 0, 0)) (st := []) C E (Or.inl rfl) dX1_knows_15
  · replace h := itF c2 h
    refine fv_iload_n C 1 rfl rfl dX1_knows_4 ?_
    refine fv_bipush (v := 8) C (by decide) dX1_knows_5 ?_
    refine fv_icmp_ge C 14 (by decide) dX1_knows_7 (fun c1 => ?_) (fun c1 => ?_)
    · replace h := itT c1 h
      refine fv_iconst (v := 0) C (by decide) dX1_knows_14 ?_
      cases h
      exact fv_zret (z := (0, 0, 0)) (st := []) C E (Or.inl rfl) dX1_knows_15
    · replace h := itF c1 h
      refine fv_iconst (v := 1) C (by decide) dX1_knows_10 ?_
      refine fv_goto C 15 (by decide) dX1_knows_11 ?_
      cases h
      exact fv_zret (z := (0, 0, 0)) (st := []) C E (Or.inr rfl) dX1_knows_15
abbrev rm_X1_setEnds : Room := { frames := 1, cells := 0, slots := 0, locals := 21 }
set_option maxRecDepth 10000 in
theorem r_X1_setEnds (l : Launch) (D : fh_D) (A : Nat → Prop) {K : fh_K} {sz : Nat} {M : fh_M} {M' : fh_M} {t : Nat} {p1 : Int32} {p2 : Int32} {p3 : Int32} (h : f_X1_setEnds K M t p1 p2 p3 = some M') : fh_Met l yX1_setEnds cX1_setEnds 4 none rm_X1_setEnds D K M sz A [va_rf (some t), .int p1, .int p2, .int p3] none K M' sz := by
  refine fh_enter (by decide) (by simp [lg_sl, va_rf_cat, cat_i, cat_l]) (lv := [(0, va_rf (some t)), (1, .int p1), (2, .int p2), (3, .int p3)]) (by simp [lv_args, va_rf_cat, cat_i, cat_l]) ?_
  intro X C E hnm _ _ _
  replace C : fh_C X 4 cX1_setEnds RX1 := C
  unfold f_X1_setEnds at h
  refine fv_aload_n C 0 rfl rfl dX1_setEnds_0 ?_
  refine fv_iload_n C 1 rfl rfl dX1_setEnds_1 ?_
  replace h := fo_s h
  obtain ⟨a1, ea1, ka1, h⟩ := h
  replace h := bx h
  obtain ⟨r2, er2, h⟩ := h
  refine fv_callV [.int p1] C mi_X1_knows ms_X1_knows lk_RX1_24 ea1 ka1 (r_X1_knows _ _ _ er2) ⟨Nat.le_of_ble_eq_true rfl, Nat.le_of_ble_eq_true rfl⟩ ⟨Nat.le_of_ble_eq_true rfl, Nat.le_of_ble_eq_true rfl⟩ rfl rfl (by simp [va_rf_cat, cat_i, cat_l]) dX1_setEnds_2 ?_
  show fh_V X rm_X1_setEnds 4 (sz, 0, 0) K M _ _ [.int r2]
  refine fv_if_eq C 22 (by decide) dX1_setEnds_5 (fun c7 => ?_) (fun c7 => ?_)
  · replace h := itT c7 h
    cases h
    exact fv_vret (z := (0, 0, 0)) (st := []) C E dX1_setEnds_22
  · replace h := itF c7 h
    refine fv_aload_n C 0 rfl rfl dX1_setEnds_8 ?_
    refine fv_getR C fl_RX1_9 ea1 ka1 dX1_setEnds_9 ?_
    refine fv_iload_n C 1 rfl rfl dX1_setEnds_12 ?_
    refine fv_iload_n C 2 rfl rfl dX1_setEnds_13 ?_
    replace h := fi_s h
    obtain ⟨a3, ea3, ka3, ia3, h⟩ := h
    replace h := fb_s h
    obtain ⟨M4, eM4, h⟩ := h
    refine fv_iast C ea3 ka3 ia3 dX1_setEnds_14 (fv_eqM eM4 ?_)
    refine fv_aload_n C 0 rfl rfl dX1_setEnds_15 ?_
    refine fv_getR C fl_RX1_15 ea1 ka1 dX1_setEnds_16 ?_
    refine fv_iload_n C 1 rfl rfl dX1_setEnds_19 ?_
    refine fv_iload_n C 3 rfl rfl dX1_setEnds_20 ?_
    replace h := fi_s h
    obtain ⟨a5, ea5, ka5, ia5, h⟩ := h
    replace h := fb_s h
    obtain ⟨M6, eM6, h⟩ := h
    refine fv_iast C ea5 ka5 ia5 dX1_setEnds_21 (fv_eqM eM6 ?_)
    cases h
    exact fv_vret (z := (0, 0, 0)) (st := []) C E dX1_setEnds_22
abbrev rm_X1_endOf : Room := { frames := 1, cells := 0, slots := 0, locals := 21 }
set_option maxRecDepth 10000 in
theorem r_X1_endOf (l : Launch) (D : fh_D) (A : Nat → Prop) {K : fh_K} {sz : Nat} {M : fh_M} {r : Int32} {t : Nat} {p1 : Int32} {p2 : Int32} (h : f_X1_endOf K M t p1 p2 = some r) : fh_Met l yX1_endOf cX1_endOf 3 (some .int) rm_X1_endOf D K M sz A [va_rf (some t), .int p1, .int p2] (some (.int r)) K M sz := by
  refine fh_enter (by decide) (by simp [lg_sl, va_rf_cat, cat_i, cat_l]) (lv := [(0, va_rf (some t)), (1, .int p1), (2, .int p2)]) (by simp [lv_args, va_rf_cat, cat_i, cat_l]) ?_
  intro X C E hnm _ _ _
  replace C : fh_C X 3 cX1_endOf RX1 := C
  unfold f_X1_endOf at h
  refine fv_aload_n C 0 rfl rfl dX1_endOf_0 ?_
  refine fv_iload_n C 1 rfl rfl dX1_endOf_1 ?_
  replace h := fo_s h
  obtain ⟨a1, ea1, ka1, h⟩ := h
  replace h := bx h
  obtain ⟨r2, er2, h⟩ := h
  refine fv_callV [.int p1] C mi_X1_knows ms_X1_knows lk_RX1_24 ea1 ka1 (r_X1_knows _ _ _ er2) ⟨Nat.le_of_ble_eq_true rfl, Nat.le_of_ble_eq_true rfl⟩ ⟨Nat.le_of_ble_eq_true rfl, Nat.le_of_ble_eq_true rfl⟩ rfl rfl (by simp [va_rf_cat, cat_i, cat_l]) dX1_endOf_2 ?_
  show fh_V X rm_X1_endOf 3 (sz, 0, 0) K M _ _ [.int r2]
  refine fv_if_ne C 10 (by decide) dX1_endOf_5 (fun c6 => ?_) (fun c6 => ?_)
  · replace h := itF c6 h
    refine fv_iload_n C 2 rfl rfl dX1_endOf_10 ?_
    refine fv_if_eq C 23 (by decide) dX1_endOf_11 (fun c5 => ?_) (fun c5 => ?_)
    · replace h := itT c5 h
      refine fv_aload_n C 0 rfl rfl dX1_endOf_23 ?_
      refine fv_getR C fl_RX1_15 ea1 ka1 dX1_endOf_24 ?_
      refine fv_iload_n C 1 rfl rfl dX1_endOf_27 ?_
      replace h := fi_s h
      obtain ⟨a3, ea3, ka3, ia3, h⟩ := h
      refine fv_iald C ea3 ka3 ia3 dX1_endOf_28 ?_
      cases h
      exact fv_iret (z := (0, 0, 0)) (st := []) C E dX1_endOf_29
    · replace h := itF c5 h
      refine fv_aload_n C 0 rfl rfl dX1_endOf_14 ?_
      refine fv_getR C fl_RX1_9 ea1 ka1 dX1_endOf_15 ?_
      refine fv_iload_n C 1 rfl rfl dX1_endOf_18 ?_
      replace h := fi_s h
      obtain ⟨a4, ea4, ka4, ia4, h⟩ := h
      refine fv_iald C ea4 ka4 ia4 dX1_endOf_19 ?_
      refine fv_goto C 29 (by decide) dX1_endOf_20 ?_
      cases h
      exact fv_iret (z := (0, 0, 0)) (st := []) C E dX1_endOf_29
  · replace h := itT c6 h
    refine fv_iconst (v := -1) C (by decide) dX1_endOf_8 ?_
    cases h
    exact fv_iret (z := (0, 0, 0)) (st := []) C E dX1_endOf_9
abbrev rm_X1_liveSurely : Room := { frames := 2, cells := 0, slots := 0, locals := 43 }
set_option maxRecDepth 10000 in
theorem r_X1_liveSurely (l : Launch) (D : fh_D) (A : Nat → Prop) {K : fh_K} {sz : Nat} {M : fh_M} {r : Int32} {t : Nat} {p1 : Int32} {p2 : Int32} (h : f_X1_liveSurely K M t p1 p2 = some r) : fh_Met l yX1_liveSurely cX1_liveSurely 3 (some .boolean) rm_X1_liveSurely D K M sz A [va_rf (some t), .int p1, .int p2] (some (.int r)) K M sz := by
  refine fh_enter (by decide) (by simp [lg_sl, va_rf_cat, cat_i, cat_l]) (lv := [(0, va_rf (some t)), (1, .int p1), (2, .int p2)]) (by simp [lv_args, va_rf_cat, cat_i, cat_l]) ?_
  intro X C E hnm _ _ _
  replace C : fh_C X 3 cX1_liveSurely RX1 := C
  unfold f_X1_liveSurely at h
  refine fv_iload_n C 2 rfl rfl dX1_liveSurely_0 ?_
  refine fv_aload_n C 0 rfl rfl dX1_liveSurely_1 ?_
  refine fv_iload_n C 1 rfl rfl dX1_liveSurely_2 ?_
  refine fv_iconst (v := 1) C (by decide) dX1_liveSurely_3 ?_
  replace h := fo_s h
  obtain ⟨a1, ea1, ka1, h⟩ := h
  replace h := bx h
  obtain ⟨r2, er2, h⟩ := h
  refine fv_callV [.int p1, .int 1] C mi_X1_endOf ms_X1_endOf lk_RX1_28 ea1 ka1 (r_X1_endOf _ _ _ er2) ⟨Nat.le_of_ble_eq_true rfl, Nat.le_of_ble_eq_true rfl⟩ ⟨Nat.le_of_ble_eq_true rfl, Nat.le_of_ble_eq_true rfl⟩ rfl rfl (by simp [va_rf_cat, cat_i, cat_l]) dX1_liveSurely_4 ?_
  show fh_V X rm_X1_liveSurely 3 (sz, 0, 0) K M _ _ [.int r2, .int p2]
  refine fv_icmp_gt C 14 (by decide) dX1_liveSurely_7 (fun c3 => ?_) (fun c3 => ?_)
  · replace h := itT c3 h
    refine fv_iconst (v := 0) C (by decide) dX1_liveSurely_14 ?_
    cases h
    exact fv_zret (z := (0, 0, 0)) (st := []) C E (Or.inl rfl) dX1_liveSurely_15
  · replace h := itF c3 h
    refine fv_iconst (v := 1) C (by decide) dX1_liveSurely_10 ?_
    refine fv_goto C 15 (by decide) dX1_liveSurely_11 ?_
    cases h
    exact fv_zret (z := (0, 0, 0)) (st := []) C E (Or.inr rfl) dX1_liveSurely_15
abbrev rm_X2_init : Room := { frames := 1, cells := 0, slots := 0, locals := 24 }
set_option maxRecDepth 10000 in
theorem r_X2_init (l : Launch) (D : fh_D) (A : Nat → Prop) {K : fh_K} {sz : Nat} {M : fh_M} {M' : fh_M} {t : Nat} {p1 : Option Nat} {p2 : Int32} {p3 : Int32} {p4 : Int32} (h : f_X2_init K M t p1 p2 p3 p4 = some M') : fh_Met l yX2_init cX2_init 5 none rm_X2_init D K M sz A [va_rf (some t), va_rf p1, .int p2, .int p3, .int p4] none K M' sz := by
  refine fh_enter (by decide) (by simp [lg_sl, va_rf_cat, cat_i, cat_l]) (lv := [(0, va_rf (some t)), (1, va_rf p1), (2, .int p2), (3, .int p3), (4, .int p4)]) (by simp [lv_args, va_rf_cat, cat_i, cat_l]) ?_
  intro X C E hnm _ _ _
  replace C : fh_C X 5 cX2_init RX2 := C
  unfold f_X2_init at h
  refine fv_aload_n C 0 rfl rfl dX2_init_0 ?_
  refine fv_objInit C lk_RX2_1 jw_oi_instanceMethod jw_oi_code (Nat.le_of_ble_eq_true rfl) (by simp [va_rf_cat, cat_i, cat_l]) dX2_init_1 ?_
  refine fv_aload_n C 0 rfl rfl dX2_init_4 ?_
  refine fv_aload_n C 1 rfl rfl dX2_init_5 ?_
  replace h := fo_s h
  obtain ⟨a1, ea1, ka1, h⟩ := h
  replace h := fb_s h
  obtain ⟨M2, eM2, h⟩ := h
  refine fv_putFR (fin := true) C fl_RX2_7 ea1 ka1 rfl hnm (narrow_rf_a _ _) dX2_init_6 (fv_eqM eM2 ?_)
  refine fv_aload_n C 0 rfl rfl dX2_init_9 ?_
  refine fv_iload_n C 2 rfl rfl dX2_init_10 ?_
  replace h := fb_s h
  obtain ⟨M3, eM3, h⟩ := h
  refine fv_putFI (fin := true) C fl_RX2_13 ea1 ka1 rfl hnm (narrow_i _) dX2_init_11 (fv_eqM eM3 ?_)
  refine fv_aload_n C 0 rfl rfl dX2_init_14 ?_
  refine fv_iload_n C 3 rfl rfl dX2_init_15 ?_
  replace h := fz_s h
  obtain ⟨z4, h⟩ := h
  replace h := fb_s h
  obtain ⟨M5, eM5, h⟩ := h
  refine fv_putFI (fin := true) C fl_RX2_17 ea1 ka1 rfl hnm (narrow_z z4) dX2_init_16 (fv_eqM eM5 ?_)
  refine fv_aload_n C 0 rfl rfl dX2_init_19 ?_
  refine fv_iload C 4 rfl dX2_init_20 ?_
  replace h := fb_s h
  obtain ⟨M6, eM6, h⟩ := h
  refine fv_putFI (fin := true) C fl_RX2_21 ea1 ka1 rfl hnm (narrow_i _) dX2_init_22 (fv_eqM eM6 ?_)
  cases h
  exact fv_vret (z := (0, 0, 0)) (st := []) C E dX2_init_25
abbrev rm_X2_marks : Room := { frames := 0, cells := 0, slots := 0, locals := 0 }
set_option maxRecDepth 10000 in
theorem r_X2_marks_L14 {X : fh_X} {K : fh_K} {sz : Nat} {M : fh_M} {r : Int32} (C : fh_C X 3 cX2_marks RX2) (E : fh_E X rm_X2_marks (some .boolean) (some (.int r)) K M sz) : ∀ (n : Nat) (t : Nat) (v1 : Option Nat) (v2 : Int32), f_X2_marks_L14 K M n t v1 v2 = some r → fh_V X rm_X2_marks 3 (sz, 0, 0) K M 14 [(0, va_rf (some t)), (1, va_rf (v1)), (2, .int v2)] [] := by
  intro n
  induction n with
  | zero => intro t v1 v2 h; cases h
  | succ n ih =>
    intro t v1 v2 h
    unfold f_X2_marks_L14 at h
    refine fv_iload_n C 2 rfl rfl dX2_marks_14 ?_
    refine fv_aload_n C 0 rfl rfl dX2_marks_15 ?_
    replace h := fo_s h
    obtain ⟨a5, ea5, ka5, h⟩ := h
    refine fv_getR C fl_RX2_7 ea5 ka5 dX2_marks_16 ?_
    replace h := fa_s h
    obtain ⟨a6, ea6, ka6, h⟩ := h
    refine fv_alen C 0 (by decide) (fun _ => rfl) ea6 ka6 dX2_marks_19 ?_
    refine fv_icmp_ge C 43 (by decide) dX2_marks_20 (fun c10 => ?_) (fun c10 => ?_)
    · replace h := itT c10 h
      refine fv_iconst (v := 1) C (by decide) dX2_marks_43 ?_
      cases h
      exact fv_zret (z := (0, 0, 0)) (st := []) C E (Or.inr rfl) dX2_marks_44
    · replace h := itF c10 h
      refine fv_aload_n C 1 rfl rfl dX2_marks_23 ?_
      refine fv_iload_n C 2 rfl rfl dX2_marks_24 ?_
      replace h := fi_s h
      obtain ⟨a7, ea7, ka7, ia7, h⟩ := h
      refine fv_iald C ea7 ka7 ia7 dX2_marks_25 ?_
      refine fv_aload_n C 0 rfl rfl dX2_marks_26 ?_
      refine fv_getR C fl_RX2_7 ea5 ka5 dX2_marks_27 ?_
      refine fv_iload_n C 2 rfl rfl dX2_marks_30 ?_
      replace h := fi_s h
      obtain ⟨a8, ea8, ka8, ia8, h⟩ := h
      refine fv_iald C ea8 ka8 ia8 dX2_marks_31 ?_
      refine fv_icmp_eq C 37 (by decide) dX2_marks_32 (fun c9 => ?_) (fun c9 => ?_)
      · replace h := itT c9 h
        refine fv_iinc (v := v2 + 1) (lv' := [(2, .int (v2 + 1)), (0, va_rf (some t)), (1, va_rf (v1))]) C 2 rfl (by first | rfl | exact congrArg _ (by decide)) (by decide) (by first | rfl | simp [va_rf_cat]) dX2_marks_37 ?_
        refine fv_goto C 14 (by decide) dX2_marks_40 ?_
        refine fv_sub (cc := ⟨#[]⟩) (own := "") [1, 2, 0] rfl ?_
        exact ih _ _ _ h
      · replace h := itF c9 h
        refine fv_iconst (v := 0) C (by decide) dX2_marks_35 ?_
        cases h
        exact fv_zret (z := (0, 0, 0)) (st := []) C E (Or.inl rfl) dX2_marks_36
set_option maxRecDepth 10000 in
theorem r_X2_marks (l : Launch) (D : fh_D) (A : Nat → Prop) {K : fh_K} {sz : Nat} {M : fh_M} {r : Int32} {t : Nat} {p1 : Option Nat} (h : f_X2_marks K M t p1 = some r) : fh_Met l yX2_marks cX2_marks 3 (some .boolean) rm_X2_marks D K M sz A [va_rf (some t), va_rf p1] (some (.int r)) K M sz := by
  refine fh_enter (by decide) (by simp [lg_sl, va_rf_cat, cat_i, cat_l]) (lv := [(0, va_rf (some t)), (1, va_rf p1)]) (by simp [lv_args, va_rf_cat, cat_i, cat_l]) ?_
  intro X C E hnm _ _ _
  replace C : fh_C X 3 cX2_marks RX2 := C
  unfold f_X2_marks at h
  refine fv_aload_n C 1 rfl rfl dX2_marks_0 ?_
  replace h := fa_s h
  obtain ⟨a1, ea1, ka1, h⟩ := h
  refine fv_alen C 0 (by decide) (fun _ => rfl) ea1 ka1 dX2_marks_1 ?_
  refine fv_aload_n C 0 rfl rfl dX2_marks_2 ?_
  replace h := fo_s h
  obtain ⟨a2, ea2, ka2, h⟩ := h
  refine fv_getR C fl_RX2_7 ea2 ka2 dX2_marks_3 ?_
  replace h := fa_s h
  obtain ⟨a3, ea3, ka3, h⟩ := h
  refine fv_alen C 0 (by decide) (fun _ => rfl) ea3 ka3 dX2_marks_6 ?_
  refine fv_icmp_ge C 12 (by decide) dX2_marks_7 (fun c4 => ?_) (fun c4 => ?_)
  · replace h := itT c4 h
    refine fv_iconst (v := 0) C (by decide) dX2_marks_12 ?_
    refine fv_istore_n (i := 2) (lv' := [(2, .int 0), (0, va_rf (some t)), (1, va_rf (p1))]) C rfl (by decide) (by first | rfl | simp [va_rf_cat]) dX2_marks_13 ?_
    refine fv_sub (cc := ⟨#[]⟩) (own := "") [1, 2, 0] rfl ?_
    exact r_X2_marks_L14 C E  4096 _ _ _ h
  · replace h := itF c4 h
    refine fv_iconst (v := 0) C (by decide) dX2_marks_10 ?_
    cases h
    exact fv_zret (z := (0, 0, 0)) (st := []) C E (Or.inl rfl) dX2_marks_11
abbrev rm_J7_fill_d0a16 : Room := { frames := 0, cells := 0, slots := 0, locals := 0 }
set_option maxRecDepth 10000 in
theorem r_J7_fill_d0a16_L6 {X : fh_X} {K : fh_K} {sz : Nat} {M' : fh_M} (C : fh_C X 5 cJ7_fill_d0a16 RJ7) (E : fh_E X rm_J7_fill_d0a16 none none K M' sz) : ∀ (n : Nat) (v0 : Option Nat) (v1 : Int64) (v3 : Int32) (v4 : Int32) (M : fh_M), f_J7_fill_d0a16_L6 K n v0 v1 v3 v4 M = some M' → fh_V X rm_J7_fill_d0a16 5 (sz, 0, 0) K M 6 [(0, va_rf (v0)), (1, .long (v1)), (3, .int v3), (4, .int v4)] [] := by
  intro n
  induction n with
  | zero => intro v0 v1 v3 v4 M h; cases h
  | succ n ih =>
    intro v0 v1 v3 v4 M h
    unfold f_J7_fill_d0a16_L6 at h
    refine fv_iload_n C 2 rfl rfl dJ7_fill_d0a16_6 ?_
    refine fv_iload C 3 rfl dJ7_fill_d0a16_7 ?_
    refine fv_icmp_ge C 22 (by decide) dJ7_fill_d0a16_9 (fun c4 => ?_) (fun c4 => ?_)
    · replace h := itT c4 h
      cases h
      exact fv_vret (z := (0, 0, 0)) (st := []) C E dJ7_fill_d0a16_22
    · replace h := itF c4 h
      refine fv_aload_n C 0 rfl rfl dJ7_fill_d0a16_12 ?_
      refine fv_iload_n C 2 rfl rfl dJ7_fill_d0a16_13 ?_
      refine fv_lload_n C 1 rfl rfl dJ7_fill_d0a16_14 ?_
      replace h := fi_s h
      obtain ⟨a2, ea2, ka2, ia2, h⟩ := h
      replace h := fb_s h
      obtain ⟨M3, eM3, h⟩ := h
      refine fv_last C ea2 ka2 ia2 dJ7_fill_d0a16_15 (fv_eqM eM3 ?_)
      refine fv_iinc (v := v3 + 1) (lv' := [(3, .int (v3 + 1)), (0, va_rf (v0)), (1, .long (v1)), (4, .int v4)]) C 2 rfl (by first | rfl | exact congrArg _ (by decide)) (by decide) (by first | rfl | simp [va_rf_cat]) dJ7_fill_d0a16_16 ?_
      refine fv_goto C 6 (by decide) dJ7_fill_d0a16_19 ?_
      refine fv_sub (cc := ⟨#[]⟩) (own := "") [1, 2, 0, 3] rfl ?_
      exact ih _ _ _ _ _ h
set_option maxRecDepth 10000 in
theorem r_J7_fill_d0a16 (l : Launch) (D : fh_D) (A : Nat → Prop) {K : fh_K} {sz : Nat} {M : fh_M} {M' : fh_M} {p0 : Option Nat} {p1 : Int64} (h : f_J7_fill_d0a16 K M p0 p1 = some M') : fh_Met l yJ7_fill_d0a16 cJ7_fill_d0a16 5 none rm_J7_fill_d0a16 D K M sz A [va_rf p0, .long p1] none K M' sz := by
  refine fh_enter (by decide) (by simp [lg_sl, va_rf_cat, cat_i, cat_l]) (lv := [(0, va_rf p0), (1, .long p1)]) (by simp [lv_args, va_rf_cat, cat_i, cat_l]) ?_
  intro X C E hnm _ _ _
  replace C : fh_C X 5 cJ7_fill_d0a16 RJ7 := C
  unfold f_J7_fill_d0a16 at h
  refine fv_iconst (v := 0) C (by decide) dJ7_fill_d0a16_0 ?_
  refine fv_istore_n (i := 3) (lv' := [(3, .int 0), (0, va_rf (p0)), (1, .long (p1))]) C rfl (by decide) (by first | rfl | simp [va_rf_cat]) dJ7_fill_d0a16_1 ?_
  refine fv_aload_n C 1 rfl rfl dJ7_fill_d0a16_2 ?_
  replace h := fa_s h
  obtain ⟨a1, ea1, ka1, h⟩ := h
  refine fv_alen C 3 (by decide) (fun _ => rfl) ea1 ka1 dJ7_fill_d0a16_3 ?_
  refine fv_istore (i := 4) (lv' := [(4, .int (nI (K a1).2)), (3, .int 0), (0, va_rf (p0)), (1, .long (p1))]) C (by decide) (by first | rfl | simp [va_rf_cat]) dJ7_fill_d0a16_4 ?_
  refine fv_sub (cc := ⟨#[]⟩) (own := "") [2, 3, 1, 0] rfl ?_
  exact r_J7_fill_d0a16_L6 C E  4096 _ _ _ _ _ h
abbrev rm_X8_carriesAll : Room := { frames := 0, cells := 0, slots := 0, locals := 0 }
set_option maxRecDepth 10000 in
theorem r_X8_carriesAll (l : Launch) (D : fh_D) (A : Nat → Prop) {K : fh_K} {sz : Nat} {M : fh_M} {r : Int32} {t : Nat} {p1 : Int32} (h : f_X8_carriesAll K M t p1 = some r) : fh_Met l yX8_carriesAll cX8_carriesAll 2 (some .boolean) rm_X8_carriesAll D K M sz A [va_rf (some t), .int p1] (some (.int r)) K M sz := by
  refine fh_enter (by decide) (by simp [lg_sl, va_rf_cat, cat_i, cat_l]) (lv := [(0, va_rf (some t)), (1, .int p1)]) (by simp [lv_args, va_rf_cat, cat_i, cat_l]) ?_
  intro X C E hnm _ _ _
  replace C : fh_C X 2 cX8_carriesAll RX8 := C
  unfold f_X8_carriesAll at h
  refine fv_iload_n C 1 rfl rfl dX8_carriesAll_0 ?_
  refine fv_aload_n C 0 rfl rfl dX8_carriesAll_1 ?_
  replace h := fo_s h
  obtain ⟨a1, ea1, ka1, h⟩ := h
  refine fv_getI C fl_RX8_16 ea1 ka1 dX8_carriesAll_2 ?_
  refine fv_iconst (v := -1) C (by decide) dX8_carriesAll_5 ?_
  refine fv_ixor C dX8_carriesAll_6 ?_
  refine fv_iand C dX8_carriesAll_7 ?_
  refine fv_if_ne C 15 (by decide) dX8_carriesAll_8 (fun c2 => ?_) (fun c2 => ?_)
  · replace h := itF c2 h
    refine fv_iconst (v := 0) C (by decide) dX8_carriesAll_15 ?_
    cases h
    exact fv_zret (z := (0, 0, 0)) (st := []) C E (Or.inl rfl) dX8_carriesAll_16
  · replace h := itT c2 h
    refine fv_iconst (v := 1) C (by decide) dX8_carriesAll_11 ?_
    refine fv_goto C 16 (by decide) dX8_carriesAll_12 ?_
    cases h
    exact fv_zret (z := (0, 0, 0)) (st := []) C E (Or.inr rfl) dX8_carriesAll_16
abbrev rm_X7_init : Room := { frames := 1, cells := 0, slots := 0, locals := 24 }
set_option maxRecDepth 10000 in
theorem r_X7_init (l : Launch) (D : fh_D) (A : Nat → Prop) {K : fh_K} {sz : Nat} {M : fh_M} {M' : fh_M} {t : Nat} {p1 : Option Nat} {p2 : Int32} {p3 : Int32} (h : f_X7_init K M t p1 p2 p3 = some M') : fh_Met l yX7_init cX7_init 4 none rm_X7_init D K M sz A [va_rf (some t), va_rf p1, .int p2, .int p3] none K M' sz := by
  refine fh_enter (by decide) (by simp [lg_sl, va_rf_cat, cat_i, cat_l]) (lv := [(0, va_rf (some t)), (1, va_rf p1), (2, .int p2), (3, .int p3)]) (by simp [lv_args, va_rf_cat, cat_i, cat_l]) ?_
  intro X C E hnm _ _ _
  replace C : fh_C X 4 cX7_init RX7 := C
  unfold f_X7_init at h
  refine fv_aload_n C 0 rfl rfl dX7_init_0 ?_
  refine fv_objInit C lk_RX7_3 jw_oi_instanceMethod jw_oi_code (Nat.le_of_ble_eq_true rfl) (by simp [va_rf_cat, cat_i, cat_l]) dX7_init_1 ?_
  refine fv_aload_n C 0 rfl rfl dX7_init_4 ?_
  refine fv_iconst (v := 0) C (by decide) dX7_init_5 ?_
  replace h := fo_s h
  obtain ⟨a1, ea1, ka1, h⟩ := h
  replace h := fb_s h
  obtain ⟨M2, eM2, h⟩ := h
  refine fv_putI (fin := false) C fl_RX7_9 ea1 ka1 (narrow_z (Or.inl rfl)) dX7_init_6 (fv_eqM eM2 ?_)
  refine fv_aload_n C 0 rfl rfl dX7_init_9 ?_
  refine fv_iconst (v := 0) C (by decide) dX7_init_10 ?_
  replace h := fb_s h
  obtain ⟨M3, eM3, h⟩ := h
  refine fv_putI (fin := false) C fl_RX7_15 ea1 ka1 (narrow_i _) dX7_init_11 (fv_eqM eM3 ?_)
  refine fv_aload_n C 0 rfl rfl dX7_init_14 ?_
  refine fv_iconst (v := -1) C (by decide) dX7_init_15 ?_
  replace h := fb_s h
  obtain ⟨M4, eM4, h⟩ := h
  refine fv_putI (fin := false) C fl_RX7_19 ea1 ka1 (narrow_i _) dX7_init_16 (fv_eqM eM4 ?_)
  refine fv_aload_n C 0 rfl rfl dX7_init_19 ?_
  refine fv_iconst (v := 4) C (by decide) dX7_init_20 ?_
  replace h := fb_s h
  obtain ⟨M5, eM5, h⟩ := h
  refine fv_putI (fin := false) C fl_RX7_22 ea1 ka1 (narrow_i _) dX7_init_21 (fv_eqM eM5 ?_)
  refine fv_aload_n C 0 rfl rfl dX7_init_24 ?_
  refine fv_iconst (v := 0) C (by decide) dX7_init_25 ?_
  replace h := fb_s h
  obtain ⟨M6, eM6, h⟩ := h
  refine fv_putI (fin := false) C fl_RX7_25 ea1 ka1 (narrow_i _) dX7_init_26 (fv_eqM eM6 ?_)
  refine fv_aload_n C 0 rfl rfl dX7_init_29 ?_
  refine fv_iconst (v := 0) C (by decide) dX7_init_30 ?_
  replace h := fb_s h
  obtain ⟨M7, eM7, h⟩ := h
  refine fv_putI (fin := false) C fl_RX7_28 ea1 ka1 (narrow_i _) dX7_init_31 (fv_eqM eM7 ?_)
  refine fv_aload_n C 0 rfl rfl dX7_init_34 ?_
  refine fv_aload_n C 1 rfl rfl dX7_init_35 ?_
  replace h := fb_s h
  obtain ⟨M8, eM8, h⟩ := h
  refine fv_putFR (fin := true) C fl_RX7_31 ea1 ka1 rfl hnm (narrow_rf_a _ _) dX7_init_36 (fv_eqM eM8 ?_)
  refine fv_aload_n C 0 rfl rfl dX7_init_39 ?_
  refine fv_iload_n C 2 rfl rfl dX7_init_40 ?_
  replace h := fb_s h
  obtain ⟨M9, eM9, h⟩ := h
  refine fv_putFI (fin := true) C fl_RX7_35 ea1 ka1 rfl hnm (narrow_i _) dX7_init_41 (fv_eqM eM9 ?_)
  refine fv_aload_n C 0 rfl rfl dX7_init_44 ?_
  refine fv_iload_n C 3 rfl rfl dX7_init_45 ?_
  replace h := fb_s h
  obtain ⟨M10, eM10, h⟩ := h
  refine fv_putFI (fin := true) C fl_RX7_38 ea1 ka1 rfl hnm (narrow_i _) dX7_init_46 (fv_eqM eM10 ?_)
  cases h
  exact fv_vret (z := (0, 0, 0)) (st := []) C E dX7_init_49
abbrev rm_X8_init : Room := { frames := 1, cells := 0, slots := 0, locals := 24 }
set_option maxRecDepth 10000 in
theorem r_X8_init (l : Launch) (D : fh_D) (A : Nat → Prop) {K : fh_K} {sz : Nat} {M : fh_M} {M' : fh_M} {t : Nat} {p1 : Int32} {p2 : Int32} {p3 : Int32} {p4 : Int32} {p5 : Int32} (h : f_X8_init K M t p1 p2 p3 p4 p5 = some M') : fh_Met l yX8_init cX8_init 6 none rm_X8_init D K M sz A [va_rf (some t), .int p1, .int p2, .int p3, .int p4, .int p5] none K M' sz := by
  refine fh_enter (by decide) (by simp [lg_sl, va_rf_cat, cat_i, cat_l]) (lv := [(0, va_rf (some t)), (1, .int p1), (2, .int p2), (3, .int p3), (4, .int p4), (5, .int p5)]) (by simp [lv_args, va_rf_cat, cat_i, cat_l]) ?_
  intro X C E hnm _ _ _
  replace C : fh_C X 6 cX8_init RX8 := C
  unfold f_X8_init at h
  refine fv_aload_n C 0 rfl rfl dX8_init_0 ?_
  refine fv_objInit C lk_RX8_1 jw_oi_instanceMethod jw_oi_code (Nat.le_of_ble_eq_true rfl) (by simp [va_rf_cat, cat_i, cat_l]) dX8_init_1 ?_
  refine fv_aload_n C 0 rfl rfl dX8_init_4 ?_
  refine fv_iload_n C 1 rfl rfl dX8_init_5 ?_
  replace h := fo_s h
  obtain ⟨a1, ea1, ka1, h⟩ := h
  replace h := fb_s h
  obtain ⟨M2, eM2, h⟩ := h
  refine fv_putFI (fin := true) C fl_RX8_7 ea1 ka1 rfl hnm (narrow_i _) dX8_init_6 (fv_eqM eM2 ?_)
  refine fv_aload_n C 0 rfl rfl dX8_init_9 ?_
  refine fv_iload_n C 2 rfl rfl dX8_init_10 ?_
  replace h := fb_s h
  obtain ⟨M3, eM3, h⟩ := h
  refine fv_putFI (fin := true) C fl_RX8_13 ea1 ka1 rfl hnm (narrow_i _) dX8_init_11 (fv_eqM eM3 ?_)
  refine fv_aload_n C 0 rfl rfl dX8_init_14 ?_
  refine fv_iload_n C 3 rfl rfl dX8_init_15 ?_
  replace h := fb_s h
  obtain ⟨M4, eM4, h⟩ := h
  refine fv_putFI (fin := true) C fl_RX8_16 ea1 ka1 rfl hnm (narrow_i _) dX8_init_16 (fv_eqM eM4 ?_)
  refine fv_aload_n C 0 rfl rfl dX8_init_19 ?_
  refine fv_iload C 4 rfl dX8_init_20 ?_
  replace h := fb_s h
  obtain ⟨M5, eM5, h⟩ := h
  refine fv_putFI (fin := true) C fl_RX8_19 ea1 ka1 rfl hnm (narrow_i _) dX8_init_22 (fv_eqM eM5 ?_)
  refine fv_aload_n C 0 rfl rfl dX8_init_25 ?_
  refine fv_iload C 5 rfl dX8_init_26 ?_
  replace h := fb_s h
  obtain ⟨M6, eM6, h⟩ := h
  refine fv_putFI (fin := true) C fl_RX8_22 ea1 ka1 rfl hnm (narrow_i _) dX8_init_28 (fv_eqM eM6 ?_)
  cases h
  exact fv_vret (z := (0, 0, 0)) (st := []) C E dX8_init_31
