def f_X0_clear (K : fh_K) (M : fh_M) (t : Nat) : Option (fh_M) :=
  fo K 0 (some t) fun a1 =>
    fb (fh_si M a1 1 (0)) fun M2 =>
    some M2
def f_X0_room (K : fh_K) (M : fh_M) (t : Nat) : Option (Int32) :=
  fo K 0 (some t) fun a1 =>
    fa K 13 (M.2.2 a1 0) fun a2 =>
    some ((nI (K a2).2) - (M.1 a1 1))
def f_X0_addByte (K : fh_K) (M : fh_M) (t : Nat) (p1 : Int32) : Option (Int32 × fh_M) :=
  fo K 0 (some t) fun a1 =>
    fa K 13 (M.2.2 a1 0) fun a2 =>
    if (M.1 a1 1) < (nI (K a2).2) then
    fi K 13 (M.2.2 a1 0) (M.1 a1 1) fun a3 =>
      fb (fh_si M a3 (M.1 a1 1).toNatClampNeg (p1 &&& 255)) fun M4 =>
      fb (fh_si M4 a1 1 ((M4.1 a1 1) + 1)) fun M5 =>
      some (1, M5)
  else
    some (0, M)
def f_X0_addWord_L3 (K : fh_K) : Nat → Nat → Int32 → Int32 → fh_M → Option (fh_M)
  | 0 => fun _ _ _ _ => none
  | n + 1 => fun t v1 v2 M =>
    if v2 < 0 then
      some M
    else
      fo K 0 (some t) fun a1 =>
        fc2 (f_X0_addByte K M a1 (v1 >>> (v2 &&& 31))) fun r2 M3 =>
        f_X0_addWord_L3 K n t (v1) (v2 + (-8)) M3
def f_X0_addWord (K : fh_K) (M : fh_M) (t : Nat) (p1 : Int32) : Option (fh_M) :=
  f_X0_addWord_L3 K 4096 t (p1) (24) M
def f_X0_addPart (K : fh_K) (M : fh_M) (t : Nat) (p1 : Option Nat) (p2 : Int32) (p3 : Int32) : Option (Int32 × fh_M) :=
  if p2 < 0 then
    some (0, M)
  else
    if p3 < 0 then
      some (0, M)
    else
      fa K 13 (p1) fun a1 =>
        if ((nI (K a1).2) - p2) < p3 then
        some (0, M)
      else
        fo K 0 (some t) fun a2 =>
          (f_X0_room K M a2).bind fun r3 =>
          if p3 ≤ r3 then
          fq K (p1) (p2) (M.2.2 a2 0) (M.1 a2 1) (p3) fun a4 a5 =>
            fb (fh_ri M a5 (va_cpy (M.1 a4) (M.1 a5) p2.toNatClampNeg (M.1 a2 1).toNatClampNeg p3.toNatClampNeg)) fun M7 =>
            fb (fh_si M7 a2 1 ((M7.1 a2 1) + p3)) fun M8 =>
            some (1, M8)
        else
          some (0, M)
def f_X1_knows (K : fh_K) (M : fh_M) (t : Nat) (p1 : Int32) : Option (Int32) :=
  if p1 < 0 then
    some 0
  else
    if 8 ≤ p1 then
      some 0
    else
      some 1
def f_X1_setEnds (K : fh_K) (M : fh_M) (t : Nat) (p1 : Int32) (p2 : Int32) (p3 : Int32) : Option (fh_M) :=
  fo K 1 (some t) fun a1 =>
    (f_X1_knows K M a1 (p1)).bind fun r2 =>
    if r2 = 0 then
    some M
  else
    fi K 13 (M.2.2 a1 0) (p1) fun a3 =>
      fb (fh_si M a3 p1.toNatClampNeg (p2)) fun M4 =>
      fi K 13 (M4.2.2 a1 1) (p1) fun a5 =>
      fb (fh_si M4 a5 p1.toNatClampNeg (p3)) fun M6 =>
      some M6
def f_X1_endOf (K : fh_K) (M : fh_M) (t : Nat) (p1 : Int32) (p2 : Int32) : Option (Int32) :=
  fo K 1 (some t) fun a1 =>
    (f_X1_knows K M a1 (p1)).bind fun r2 =>
    if r2 = 0 then
    some (-1)
  else
    if p2 = 0 then
      fi K 13 (M.2.2 a1 1) (p1) fun a3 =>
        some (M.1 a3 p1.toNatClampNeg)
    else
      fi K 13 (M.2.2 a1 0) (p1) fun a4 =>
        some (M.1 a4 p1.toNatClampNeg)
def f_X1_liveSurely (K : fh_K) (M : fh_M) (t : Nat) (p1 : Int32) (p2 : Int32) : Option (Int32) :=
  fo K 1 (some t) fun a1 =>
    (f_X1_endOf K M a1 (p1) (1)).bind fun r2 =>
    if r2 < p2 then
    some 0
  else
    some 1
abbrev rm_X0_clear : Room := { frames := 0, cells := 0, slots := 0, locals := 0 }
set_option maxRecDepth 10000 in
theorem r_X0_clear (l : Launch) (D : fh_D) (A : Nat → Prop) {K : fh_K} {sz : Nat} {M : fh_M} {M' : fh_M} {t : Nat} (h : f_X0_clear K M t = some M') : fh_Met l yX0_clear cX0_clear 1 none rm_X0_clear D K M sz A [va_rf (some t)] none K M' sz := by
  refine fh_enter (by decide) (by simp [lg_sl, va_rf_cat, cat_i, cat_l]) (lv := [(0, va_rf (some t))]) (by simp [lv_args, va_rf_cat, cat_i, cat_l]) ?_
  intro X C E hnm _ _ _
  replace C : fh_C X 1 cX0_clear RX0 := C
  unfold f_X0_clear at h
  refine fv_aload_n C 0 rfl rfl dX0_clear_0 ?_
  refine fv_iconst (v := 0) C (by decide) dX0_clear_1 ?_
  replace h := fo_s h
  obtain ⟨a1, ea1, ka1, h⟩ := h
  replace h := fb_s h
  obtain ⟨M2, eM2, h⟩ := h
  refine fv_putI (fin := false) C fl_RX0_9 ea1 ka1 (narrow_i _) dX0_clear_2 (fv_eqM eM2 ?_)
  cases h
  exact fv_vret (z := (0, 0, 0)) (st := []) C E dX0_clear_5
abbrev rm_X0_room : Room := { frames := 0, cells := 0, slots := 0, locals := 0 }
set_option maxRecDepth 10000 in
theorem r_X0_room (l : Launch) (D : fh_D) (A : Nat → Prop) {K : fh_K} {sz : Nat} {M : fh_M} {r : Int32} {t : Nat} (h : f_X0_room K M t = some r) : fh_Met l yX0_room cX0_room 1 (some .int) rm_X0_room D K M sz A [va_rf (some t)] (some (.int r)) K M sz := by
  refine fh_enter (by decide) (by simp [lg_sl, va_rf_cat, cat_i, cat_l]) (lv := [(0, va_rf (some t))]) (by simp [lv_args, va_rf_cat, cat_i, cat_l]) ?_
  intro X C E hnm _ _ _
  replace C : fh_C X 1 cX0_room RX0 := C
  unfold f_X0_room at h
  refine fv_aload_n C 0 rfl rfl dX0_room_0 ?_
  replace h := fo_s h
  obtain ⟨a1, ea1, ka1, h⟩ := h
  refine fv_getR C fl_RX0_21 ea1 ka1 dX0_room_1 ?_
  replace h := fa_s h
  obtain ⟨a2, ea2, ka2, h⟩ := h
  refine fv_alen C 0 (by decide) (fun _ => rfl) ea2 ka2 dX0_room_4 ?_
  refine fv_aload_n C 0 rfl rfl dX0_room_5 ?_
  refine fv_getI C fl_RX0_9 ea1 ka1 dX0_room_6 ?_
  refine fv_isub C dX0_room_9 ?_
  cases h
  exact fv_iret (z := (0, 0, 0)) (st := []) C E dX0_room_10
abbrev rm_X0_addByte : Room := { frames := 0, cells := 0, slots := 0, locals := 0 }
set_option maxRecDepth 10000 in
theorem r_X0_addByte (l : Launch) (D : fh_D) (A : Nat → Prop) {K : fh_K} {sz : Nat} {M : fh_M} {M' : fh_M} {r : Int32} {t : Nat} {p1 : Int32} (h : f_X0_addByte K M t p1 = some (r, M')) : fh_Met l yX0_addByte cX0_addByte 2 (some .boolean) rm_X0_addByte D K M sz A [va_rf (some t), .int p1] (some (.int r)) K M' sz := by
  refine fh_enter (by decide) (by simp [lg_sl, va_rf_cat, cat_i, cat_l]) (lv := [(0, va_rf (some t)), (1, .int p1)]) (by simp [lv_args, va_rf_cat, cat_i, cat_l]) ?_
  intro X C E hnm _ _ _
  replace C : fh_C X 2 cX0_addByte RX0 := C
  unfold f_X0_addByte at h
  refine fv_aload_n C 0 rfl rfl dX0_addByte_0 ?_
  replace h := fo_s h
  obtain ⟨a1, ea1, ka1, h⟩ := h
  refine fv_getI C fl_RX0_9 ea1 ka1 dX0_addByte_1 ?_
  refine fv_aload_n C 0 rfl rfl dX0_addByte_4 ?_
  refine fv_getR C fl_RX0_21 ea1 ka1 dX0_addByte_5 ?_
  replace h := fa_s h
  obtain ⟨a2, ea2, ka2, h⟩ := h
  refine fv_alen C 0 (by decide) (fun _ => rfl) ea2 ka2 dX0_addByte_8 ?_
  refine fv_icmp_lt C 14 (by decide) dX0_addByte_9 (fun c6 => ?_) (fun c6 => ?_)
  · replace h := itT c6 h
    refine fv_aload_n C 0 rfl rfl dX0_addByte_14 ?_
    refine fv_getR C fl_RX0_21 ea1 ka1 dX0_addByte_15 ?_
    refine fv_aload_n C 0 rfl rfl dX0_addByte_18 ?_
    refine fv_getI C fl_RX0_9 ea1 ka1 dX0_addByte_19 ?_
    refine fv_iload_n C 1 rfl rfl dX0_addByte_22 ?_
    refine fv_sipush (v := 255) C (by decide) dX0_addByte_23 ?_
    refine fv_iand C dX0_addByte_26 ?_
    replace h := fi_s h
    obtain ⟨a3, ea3, ka3, ia3, h⟩ := h
    replace h := fb_s h
    obtain ⟨M4, eM4, h⟩ := h
    refine fv_iast C ea3 ka3 ia3 dX0_addByte_27 (fv_eqM eM4 ?_)
    refine fv_aload_n C 0 rfl rfl dX0_addByte_28 ?_
    refine fv_dupr C dX0_addByte_29 ?_
    refine fv_getI C fl_RX0_9 ea1 ka1 dX0_addByte_30 ?_
    refine fv_iconst (v := 1) C (by decide) dX0_addByte_33 ?_
    refine fv_iadd C dX0_addByte_34 ?_
    replace h := fb_s h
    obtain ⟨M5, eM5, h⟩ := h
    refine fv_putI (fin := false) C fl_RX0_9 ea1 ka1 (narrow_i _) dX0_addByte_35 (fv_eqM eM5 ?_)
    refine fv_iconst (v := 1) C (by decide) dX0_addByte_38 ?_
    cases h
    exact fv_zret (z := (0, 0, 0)) (st := []) C E (Or.inr rfl) dX0_addByte_39
  · replace h := itF c6 h
    refine fv_iconst (v := 0) C (by decide) dX0_addByte_12 ?_
    cases h
    exact fv_zret (z := (0, 0, 0)) (st := []) C E (Or.inl rfl) dX0_addByte_13
abbrev rm_X0_addWord : Room := { frames := 1, cells := 0, slots := 0, locals := 21 }
set_option maxRecDepth 10000 in
theorem r_X0_addWord_L3 {X : fh_X} {K : fh_K} {sz : Nat} {M' : fh_M} (C : fh_C X 3 cX0_addWord RX0) (E : fh_E X rm_X0_addWord none none K M' sz) : ∀ (n : Nat) (t : Nat) (v1 : Int32) (v2 : Int32) (M : fh_M), f_X0_addWord_L3 K n t v1 v2 M = some M' → fh_V X rm_X0_addWord 3 (sz, 0, 0) K M 3 [(0, va_rf (some t)), (1, .int v1), (2, .int v2)] [] := by
  intro n
  induction n with
  | zero => intro t v1 v2 M h; cases h
  | succ n ih =>
    intro t v1 v2 M h
    unfold f_X0_addWord_L3 at h
    refine fv_iload_n C 2 rfl rfl dX0_addWord_3 ?_
    refine fv_if_lt C 21 (by decide) dX0_addWord_4 (fun c4 => ?_) (fun c4 => ?_)
    · replace h := itT c4 h
      cases h
      exact fv_vret (z := (0, 0, 0)) (st := []) C E dX0_addWord_21
    · replace h := itF c4 h
      refine fv_aload_n C 0 rfl rfl dX0_addWord_7 ?_
      refine fv_iload_n C 1 rfl rfl dX0_addWord_8 ?_
      refine fv_iload_n C 2 rfl rfl dX0_addWord_9 ?_
      refine fv_ishr C dX0_addWord_10 ?_
      replace h := fo_s h
      obtain ⟨a1, ea1, ka1, h⟩ := h
      replace h := fc2_s h
      obtain ⟨r2, M3, er2, h⟩ := h
      refine fv_callV [.int (v1 >>> (v2 &&& 31))] C mi_X0_addByte ms_X0_addByte lk_RX0_25 ea1 ka1 (r_X0_addByte _ _ _ er2) ⟨Nat.le_of_ble_eq_true rfl, Nat.le_of_ble_eq_true rfl⟩ ⟨Nat.le_of_ble_eq_true rfl, Nat.le_of_ble_eq_true rfl⟩ rfl rfl (by simp [va_rf_cat, cat_i, cat_l]) dX0_addWord_11 ?_
      show fh_V X rm_X0_addWord 3 (sz, 0, 0) K M3 _ _ [.int r2]
      refine fv_pop C dX0_addWord_14 ?_
      refine fv_iinc (v := v2 + (-8)) (lv' := [(2, .int (v2 + (-8))), (0, va_rf (some t)), (1, .int v1)]) C 2 rfl (by first | rfl | exact congrArg _ (by decide)) (by decide) (by first | rfl | simp [va_rf_cat]) dX0_addWord_15 ?_
      refine fv_goto C 3 (by decide) dX0_addWord_18 ?_
      refine fv_sub (cc := ⟨#[]⟩) (own := "") [1, 2, 0] rfl ?_
      exact ih _ _ _ _ h
set_option maxRecDepth 10000 in
theorem r_X0_addWord (l : Launch) (D : fh_D) (A : Nat → Prop) {K : fh_K} {sz : Nat} {M : fh_M} {M' : fh_M} {t : Nat} {p1 : Int32} (h : f_X0_addWord K M t p1 = some M') : fh_Met l yX0_addWord cX0_addWord 3 none rm_X0_addWord D K M sz A [va_rf (some t), .int p1] none K M' sz := by
  refine fh_enter (by decide) (by simp [lg_sl, va_rf_cat, cat_i, cat_l]) (lv := [(0, va_rf (some t)), (1, .int p1)]) (by simp [lv_args, va_rf_cat, cat_i, cat_l]) ?_
  intro X C E hnm _ _ _
  replace C : fh_C X 3 cX0_addWord RX0 := C
  unfold f_X0_addWord at h
  refine fv_bipush (v := 24) C (by decide) dX0_addWord_0 ?_
  refine fv_istore_n (lv' := [(2, .int 24), (0, va_rf (some t)), (1, .int p1)]) C rfl (by decide) (by first | rfl | simp [va_rf_cat]) dX0_addWord_2 ?_
  refine fv_sub (cc := ⟨#[]⟩) (own := "") [1, 2, 0] rfl ?_
  exact r_X0_addWord_L3 C E  4096 _ _ _ _ h
abbrev rm_X0_addPart : Room := { frames := 1, cells := 0, slots := 0, locals := 60 }
set_option maxRecDepth 10000 in
theorem r_X0_addPart (l : Launch) (D : fh_D) (A : Nat → Prop) {K : fh_K} {sz : Nat} {M : fh_M} {M' : fh_M} {r : Int32} {t : Nat} {p1 : Option Nat} {p2 : Int32} {p3 : Int32} (h : f_X0_addPart K M t p1 p2 p3 = some (r, M')) : fh_Met l yX0_addPart cX0_addPart 4 (some .boolean) rm_X0_addPart D K M sz A [va_rf (some t), va_rf p1, .int p2, .int p3] (some (.int r)) K M' sz := by
  refine fh_enter (by decide) (by simp [lg_sl, va_rf_cat, cat_i, cat_l]) (lv := [(0, va_rf (some t)), (1, va_rf p1), (2, .int p2), (3, .int p3)]) (by simp [lv_args, va_rf_cat, cat_i, cat_l]) ?_
  intro X C E hnm _ _ _
  replace C : fh_C X 4 cX0_addPart RX0 := C
  unfold f_X0_addPart at h
  refine fv_iload_n C 2 rfl rfl dX0_addPart_0 ?_
  refine fv_if_lt C 24 (by decide) dX0_addPart_1 (fun c12 => ?_) (fun c12 => ?_)
  · replace h := itT c12 h
    refine fv_iconst (v := 0) C (by decide) dX0_addPart_24 ?_
    cases h
    exact fv_zret (z := (0, 0, 0)) (st := []) C E (Or.inl rfl) dX0_addPart_25
  · replace h := itF c12 h
    refine fv_iload_n C 3 rfl rfl dX0_addPart_4 ?_
    refine fv_if_lt C 24 (by decide) dX0_addPart_5 (fun c11 => ?_) (fun c11 => ?_)
    · replace h := itT c11 h
      refine fv_iconst (v := 0) C (by decide) dX0_addPart_24 ?_
      cases h
      exact fv_zret (z := (0, 0, 0)) (st := []) C E (Or.inl rfl) dX0_addPart_25
    · replace h := itF c11 h
      refine fv_iload_n C 3 rfl rfl dX0_addPart_8 ?_
      refine fv_aload_n C 1 rfl rfl dX0_addPart_9 ?_
      replace h := fa_s h
      obtain ⟨a1, ea1, ka1, h⟩ := h
      refine fv_alen C 0 (by decide) (fun _ => rfl) ea1 ka1 dX0_addPart_10 ?_
      refine fv_iload_n C 2 rfl rfl dX0_addPart_11 ?_
      refine fv_isub C dX0_addPart_12 ?_
      refine fv_icmp_gt C 24 (by decide) dX0_addPart_13 (fun c10 => ?_) (fun c10 => ?_)
      · replace h := itT c10 h
        refine fv_iconst (v := 0) C (by decide) dX0_addPart_24 ?_
        cases h
        exact fv_zret (z := (0, 0, 0)) (st := []) C E (Or.inl rfl) dX0_addPart_25
      · replace h := itF c10 h
        refine fv_iload_n C 3 rfl rfl dX0_addPart_16 ?_
        refine fv_aload_n C 0 rfl rfl dX0_addPart_17 ?_
        replace h := fo_s h
        obtain ⟨a2, ea2, ka2, h⟩ := h
        replace h := bx h
        obtain ⟨r3, er3, h⟩ := h
        refine fv_callV [] C mi_X0_room ms_X0_room lk_RX0_29 ea2 ka2 (r_X0_room _ _ _ er3) ⟨Nat.le_of_ble_eq_true rfl, Nat.le_of_ble_eq_true rfl⟩ ⟨Nat.le_of_ble_eq_true rfl, Nat.le_of_ble_eq_true rfl⟩ rfl rfl (by simp [va_rf_cat, cat_i, cat_l]) dX0_addPart_18 ?_
        show fh_V X rm_X0_addPart 4 (sz, 0, 0) K M _ _ [.int r3, .int p3]
        refine fv_icmp_le C 26 (by decide) dX0_addPart_21 (fun c9 => ?_) (fun c9 => ?_)
        · replace h := itT c9 h
          refine fv_aload_n C 1 rfl rfl dX0_addPart_26 ?_
          refine fv_iload_n C 2 rfl rfl dX0_addPart_27 ?_
          refine fv_aload_n C 0 rfl rfl dX0_addPart_28 ?_
          refine fv_getR C fl_RX0_21 ea2 ka2 dX0_addPart_29 ?_
          refine fv_aload_n C 0 rfl rfl dX0_addPart_32 ?_
          refine fv_getI C fl_RX0_9 ea2 ka2 dX0_addPart_33 ?_
          refine fv_iload_n C 3 rfl rfl dX0_addPart_36 ?_
          replace h := fq_s h
          obtain ⟨a4, a5, ea4, ea5, q6, h⟩ := h
          replace h := fb_s h
          obtain ⟨M7, eM7, h⟩ := h
          refine fv_copy C lk_RX0_33 jw_copy_native jw_copy_static ji_System ea4 ea5 q6.1 q6.2.1 q6.2.2.1 q6.2.2.2.1 q6.2.2.2.2.1 q6.2.2.2.2.2.1 q6.2.2.2.2.2.2 (by decide) (by simp [va_rf_cat, cat_i, cat_l, nativeFrameWords]) dX0_addPart_37 (fv_eqM eM7 ?_)
          refine fv_aload_n C 0 rfl rfl dX0_addPart_40 ?_
          refine fv_dupr C dX0_addPart_41 ?_
          refine fv_getI C fl_RX0_9 ea2 ka2 dX0_addPart_42 ?_
          refine fv_iload_n C 3 rfl rfl dX0_addPart_45 ?_
          refine fv_iadd C dX0_addPart_46 ?_
          replace h := fb_s h
          obtain ⟨M8, eM8, h⟩ := h
          refine fv_putI (fin := false) C fl_RX0_9 ea2 ka2 (narrow_i _) dX0_addPart_47 (fv_eqM eM8 ?_)
          refine fv_iconst (v := 1) C (by decide) dX0_addPart_50 ?_
          cases h
          exact fv_zret (z := (0, 0, 0)) (st := []) C E (Or.inr rfl) dX0_addPart_51
        · replace h := itF c9 h
          refine fv_iconst (v := 0) C (by decide) dX0_addPart_24 ?_
          cases h
          exact fv_zret (z := (0, 0, 0)) (st := []) C E (Or.inl rfl) dX0_addPart_25
abbrev rm_X1_knows : Room := { frames := 0, cells := 0, slots := 0, locals := 0 }
set_option maxRecDepth 10000 in
theorem r_X1_knows (l : Launch) (D : fh_D) (A : Nat → Prop) {K : fh_K} {sz : Nat} {M : fh_M} {r : Int32} {t : Nat} {p1 : Int32} (h : f_X1_knows K M t p1 = some r) : fh_Met l yX1_knows cX1_knows 2 (some .boolean) rm_X1_knows D K M sz A [va_rf (some t), .int p1] (some (.int r)) K M sz := by
  refine fh_enter (by decide) (by simp [lg_sl, va_rf_cat, cat_i, cat_l]) (lv := [(0, va_rf (some t)), (1, .int p1)]) (by simp [lv_args, va_rf_cat, cat_i, cat_l]) ?_
  intro X C E hnm _ _ _
  replace C : fh_C X 2 cX1_knows RX1 := C
  unfold f_X1_knows at h
  refine fv_iload_n C 1 rfl rfl dX1_knows_0 ?_
  refine fv_if_lt C 14 (by decide) dX1_knows_1 (fun c2 => ?_) (fun c2 => ?_)
  · replace h := itT c2 h
    refine fv_iconst (v := 0) C (by decide) dX1_knows_14 ?_
    cases h
    exact fv_zret (z := (0, 0, 0)) (st := []) C E (Or.inl rfl) dX1_knows_15
  · replace h := itF c2 h
    refine fv_iload_n C 1 rfl rfl dX1_knows_4 ?_
    refine fv_bipush (v := 8) C (by decide) dX1_knows_5 ?_
    refine fv_icmp_ge C 14 (by decide) dX1_knows_7 (fun c1 => ?_) (fun c1 => ?_)
    · replace h := itT c1 h
      refine fv_iconst (v := 0) C (by decide) dX1_knows_14 ?_
      cases h
      exact fv_zret (z := (0, 0, 0)) (st := []) C E (Or.inl rfl) dX1_knows_15
    · replace h := itF c1 h
      refine fv_iconst (v := 1) C (by decide) dX1_knows_10 ?_
      refine fv_goto C 15 (by decide) dX1_knows_11 ?_
      cases h
      exact fv_zret (z := (0, 0, 0)) (st := []) C E (Or.inr rfl) dX1_knows_15
abbrev rm_X1_setEnds : Room := { frames := 1, cells := 0, slots := 0, locals := 21 }
set_option maxRecDepth 10000 in
theorem r_X1_setEnds (l : Launch) (D : fh_D) (A : Nat → Prop) {K : fh_K} {sz : Nat} {M : fh_M} {M' : fh_M} {t : Nat} {p1 : Int32} {p2 : Int32} {p3 : Int32} (h : f_X1_setEnds K M t p1 p2 p3 = some M') : fh_Met l yX1_setEnds cX1_setEnds 4 none rm_X1_setEnds D K M sz A [va_rf (some t), .int p1, .int p2, .int p3] none K M' sz := by
  refine fh_enter (by decide) (by simp [lg_sl, va_rf_cat, cat_i, cat_l]) (lv := [(0, va_rf (some t)), (1, .int p1), (2, .int p2), (3, .int p3)]) (by simp [lv_args, va_rf_cat, cat_i, cat_l]) ?_
  intro X C E hnm _ _ _
  replace C : fh_C X 4 cX1_setEnds RX1 := C
  unfold f_X1_setEnds at h
  refine fv_aload_n C 0 rfl rfl dX1_setEnds_0 ?_
  refine fv_iload_n C 1 rfl rfl dX1_setEnds_1 ?_
  replace h := fo_s h
  obtain ⟨a1, ea1, ka1, h⟩ := h
  replace h := bx h
  obtain ⟨r2, er2, h⟩ := h
  refine fv_callV [.int p1] C mi_X1_knows ms_X1_knows lk_RX1_24 ea1 ka1 (r_X1_knows _ _ _ er2) ⟨Nat.le_of_ble_eq_true rfl, Nat.le_of_ble_eq_true rfl⟩ ⟨Nat.le_of_ble_eq_true rfl, Nat.le_of_ble_eq_true rfl⟩ rfl rfl (by simp [va_rf_cat, cat_i, cat_l]) dX1_setEnds_2 ?_
  show fh_V X rm_X1_setEnds 4 (sz, 0, 0) K M _ _ [.int r2]
  refine fv_if_eq C 22 (by decide) dX1_setEnds_5 (fun c7 => ?_) (fun c7 => ?_)
  · replace h := itT c7 h
    cases h
    exact fv_vret (z := (0, 0, 0)) (st := []) C E dX1_setEnds_22
  · replace h := itF c7 h
    refine fv_aload_n C 0 rfl rfl dX1_setEnds_8 ?_
    refine fv_getR C fl_RX1_9 ea1 ka1 dX1_setEnds_9 ?_
    refine fv_iload_n C 1 rfl rfl dX1_setEnds_12 ?_
    refine fv_iload_n C 2 rfl rfl dX1_setEnds_13 ?_
    replace h := fi_s h
    obtain ⟨a3, ea3, ka3, ia3, h⟩ := h
    replace h := fb_s h
    obtain ⟨M4, eM4, h⟩ := h
    refine fv_iast C ea3 ka3 ia3 dX1_setEnds_14 (fv_eqM eM4 ?_)
    refine fv_aload_n C 0 rfl rfl dX1_setEnds_15 ?_
    refine fv_getR C fl_RX1_15 ea1 ka1 dX1_setEnds_16 ?_
    refine fv_iload_n C 1 rfl rfl dX1_setEnds_19 ?_
    refine fv_iload_n C 3 rfl rfl dX1_setEnds_20 ?_
    replace h := fi_s h
    obtain ⟨a5, ea5, ka5, ia5, h⟩ := h
    replace h := fb_s h
    obtain ⟨M6, eM6, h⟩ := h
    refine fv_iast C ea5 ka5 ia5 dX1_setEnds_21 (fv_eqM eM6 ?_)
    cases h
    exact fv_vret (z := (0, 0, 0)) (st := []) C E dX1_setEnds_22
abbrev rm_X1_endOf : Room := { frames := 1, cells := 0, slots := 0, locals := 21 }
set_option maxRecDepth 10000 in
theorem r_X1_endOf (l : Launch) (D : fh_D) (A : Nat → Prop) {K : fh_K} {sz : Nat} {M : fh_M} {r : Int32} {t : Nat} {p1 : Int32} {p2 : Int32} (h : f_X1_endOf K M t p1 p2 = some r) : fh_Met l yX1_endOf cX1_endOf 3 (some .int) rm_X1_endOf D K M sz A [va_rf (some t), .int p1, .int p2] (some (.int r)) K M sz := by
  refine fh_enter (by decide) (by simp [lg_sl, va_rf_cat, cat_i, cat_l]) (lv := [(0, va_rf (some t)), (1, .int p1), (2, .int p2)]) (by simp [lv_args, va_rf_cat, cat_i, cat_l]) ?_
  intro X C E hnm _ _ _
  replace C : fh_C X 3 cX1_endOf RX1 := C
  unfold f_X1_endOf at h
  refine fv_aload_n C 0 rfl rfl dX1_endOf_0 ?_
  refine fv_iload_n C 1 rfl rfl dX1_endOf_1 ?_
  replace h := fo_s h
  obtain ⟨a1, ea1, ka1, h⟩ := h
  replace h := bx h
  obtain ⟨r2, er2, h⟩ := h
  refine fv_callV [.int p1] C mi_X1_knows ms_X1_knows lk_RX1_24 ea1 ka1 (r_X1_knows _ _ _ er2) ⟨Nat.le_of_ble_eq_true rfl, Nat.le_of_ble_eq_true rfl⟩ ⟨Nat.le_of_ble_eq_true rfl, Nat.le_of_ble_eq_true rfl⟩ rfl rfl (by simp [va_rf_cat, cat_i, cat_l]) dX1_endOf_2 ?_
  show fh_V X rm_X1_endOf 3 (sz, 0, 0) K M _ _ [.int r2]
  refine fv_if_ne C 10 (by decide) dX1_endOf_5 (fun c6 => ?_) (fun c6 => ?_)
  · replace h := itF c6 h
    refine fv_iload_n C 2 rfl rfl dX1_endOf_10 ?_
    refine fv_if_eq C 23 (by decide) dX1_endOf_11 (fun c5 => ?_) (fun c5 => ?_)
    · replace h := itT c5 h
      refine fv_aload_n C 0 rfl rfl dX1_endOf_23 ?_
      refine fv_getR C fl_RX1_15 ea1 ka1 dX1_endOf_24 ?_
      refine fv_iload_n C 1 rfl rfl dX1_endOf_27 ?_
      replace h := fi_s h
      obtain ⟨a3, ea3, ka3, ia3, h⟩ := h
      refine fv_iald C ea3 ka3 ia3 dX1_endOf_28 ?_
      cases h
      exact fv_iret (z := (0, 0, 0)) (st := []) C E dX1_endOf_29
    · replace h := itF c5 h
      refine fv_aload_n C 0 rfl rfl dX1_endOf_14 ?_
      refine fv_getR C fl_RX1_9 ea1 ka1 dX1_endOf_15 ?_
      refine fv_iload_n C 1 rfl rfl dX1_endOf_18 ?_
      replace h := fi_s h
      obtain ⟨a4, ea4, ka4, ia4, h⟩ := h
      refine fv_iald C ea4 ka4 ia4 dX1_endOf_19 ?_
      refine fv_goto C 29 (by decide) dX1_endOf_20 ?_
      cases h
      exact fv_iret (z := (0, 0, 0)) (st := []) C E dX1_endOf_29
  · replace h := itT c6 h
    refine fv_iconst (v := -1) C (by decide) dX1_endOf_8 ?_
    cases h
    exact fv_iret (z := (0, 0, 0)) (st := []) C E dX1_endOf_9
abbrev rm_X1_liveSurely : Room := { frames := 2, cells := 0, slots := 0, locals := 43 }
set_option maxRecDepth 10000 in
theorem r_X1_liveSurely (l : Launch) (D : fh_D) (A : Nat → Prop) {K : fh_K} {sz : Nat} {M : fh_M} {r : Int32} {t : Nat} {p1 : Int32} {p2 : Int32} (h : f_X1_liveSurely K M t p1 p2 = some r) : fh_Met l yX1_liveSurely cX1_liveSurely 3 (some .boolean) rm_X1_liveSurely D K M sz A [va_rf (some t), .int p1, .int p2] (some (.int r)) K M sz := by
  refine fh_enter (by decide) (by simp [lg_sl, va_rf_cat, cat_i, cat_l]) (lv := [(0, va_rf (some t)), (1, .int p1), (2, .int p2)]) (by simp [lv_args, va_rf_cat, cat_i, cat_l]) ?_
  intro X C E hnm _ _ _
  replace C : fh_C X 3 cX1_liveSurely RX1 := C
  unfold f_X1_liveSurely at h
  refine fv_iload_n C 2 rfl rfl dX1_liveSurely_0 ?_
  refine fv_aload_n C 0 rfl rfl dX1_liveSurely_1 ?_
  refine fv_iload_n C 1 rfl rfl dX1_liveSurely_2 ?_
  refine fv_iconst (v := 1) C (by decide) dX1_liveSurely_3 ?_
  replace h := fo_s h
  obtain ⟨a1, ea1, ka1, h⟩ := h
  replace h := bx h
  obtain ⟨r2, er2, h⟩ := h
  refine fv_callV [.int p1, .int 1] C mi_X1_endOf ms_X1_endOf lk_RX1_28 ea1 ka1 (r_X1_endOf _ _ _ er2) ⟨Nat.le_of_ble_eq_true rfl, Nat.le_of_ble_eq_true rfl⟩ ⟨Nat.le_of_ble_eq_true rfl, Nat.le_of_ble_eq_true rfl⟩ rfl rfl (by simp [va_rf_cat, cat_i, cat_l]) dX1_liveSurely_4 ?_
  show fh_V X rm_X1_liveSurely 3 (sz, 0, 0) K M _ _ [.int r2, .int p2]
  refine fv_icmp_gt C 14 (by decide) dX1_liveSurely_7 (fun c3 => ?_) (fun c3 => ?_)
  · replace h := itT c3 h
    refine fv_iconst (v := 0) C (by decide) dX1_liveSurely_14 ?_
    cases h
    exact fv_zret (z := (0, 0, 0)) (st := []) C E (Or.inl rfl) dX1_liveSurely_15
  · replace h := itF c3 h
    refine fv_iconst (v := 1) C (by decide) dX1_liveSurely_10 ?_
    refine fv_goto C 15 (by decide) dX1_liveSurely_11 ?_
    cases h
    exact fv_zret (z := (0, 0, 0)) (st := []) C E (Or.inr rfl) dX1_liveSurely_15
