def f_X3_init (sz : Nat) (K : fh_K) (M : fh_M) (t : Nat) : Option (Nat × fh_K × fh_M) :=
  fn (24) 24 fun N1 =>
    fb (fh_uk K sz (13, N1)) fun K2 =>
    fb (fh_clr M sz) fun M3 =>
    fo K2 3 (some t) fun a4 =>
    fb (fh_sr M3 a4 0 (some sz)) fun M5 =>
    fn (24) 24 fun N6 =>
    fb (fh_uk K2 (sz + 1) (13, N6)) fun K7 =>
    fb (fh_clr M5 (sz + 1)) fun M8 =>
    fo K7 3 (some t) fun a9 =>
    fb (fh_sr M8 a9 1 (some (sz + 1))) fun M10 =>
    fb (fh_si M10 a9 2 (0)) fun M11 =>
    some (sz + 2, K7, M11)
def f_X3_isTold_J32 (K : fh_K) (M : fh_M) (rec2 : Nat → Int32 → Int32 → Int32 → Option (Int32)) (t : Nat) (v1 : Int32) (v2 : Int32) (v3 : Int32) : Option (Int32) :=
  rec2 t (v1) (v2) (v3 + 1) 
def f_X3_isTold_L2 (K : fh_K) (M : fh_M) : Nat → Nat → Int32 → Int32 → Int32 → Option (Int32)
  | 0 => fun _ _ _ _ => none
  | n + 1 => fun t v1 v2 v3 =>
    fo K 3 (some t) fun a1 =>
      if (M.1 a1 2) ≤ v3 then
      some 0
    else
      fi K 13 (M.2.2 a1 0) (v3) fun a2 =>
        if (M.1 a2 v3.toNatClampNeg) = v1 then
        fi K 13 (M.2.2 a1 1) (v3) fun a3 =>
          if (M.1 a3 v3.toNatClampNeg) = v2 then
          some 1
        else
          f_X3_isTold_J32 K M (f_X3_isTold_L2 K M n) t (v1) (v2) (v3) 
      else
        f_X3_isTold_J32 K M (f_X3_isTold_L2 K M n) t (v1) (v2) (v3) 
def f_X3_isTold (K : fh_K) (M : fh_M) (t : Nat) (p1 : Int32) (p2 : Int32) : Option (Int32) :=
  f_X3_isTold_L2 K M 4096 t (p1) (p2) (0) 
def f_X3_add (K : fh_K) (M : fh_M) (t : Nat) (p1 : Int32) (p2 : Int32) : Option (Int32 × fh_M) :=
  fo K 3 (some t) fun a1 =>
    if 24 ≤ (M.1 a1 2) then
    some (0, M)
  else
    (f_X3_isTold K M a1 (p1) (p2)).bind fun r2 =>
      if r2 = 0 then
      fi K 13 (M.2.2 a1 0) (M.1 a1 2) fun a3 =>
        fb (fh_si M a3 (M.1 a1 2).toNatClampNeg (p1)) fun M4 =>
        fi K 13 (M4.2.2 a1 1) (M4.1 a1 2) fun a5 =>
        fb (fh_si M4 a5 (M4.1 a1 2).toNatClampNeg (p2)) fun M6 =>
        fb (fh_si M6 a1 2 ((M6.1 a1 2) + 1)) fun M7 =>
        some (1, M7)
    else
      some (0, M)
def f_X3_makesOpenIn_J41 (K : fh_K) (M : fh_M) (rec5 : Nat → Option Nat → Int32 → Int32 → Int32 → Option (Int32)) (t : Nat) (v1 : Option Nat) (v2 : Int32) (v3 : Int32) (v4 : Int32) : Option (Int32) :=
  rec5 t (v1) (v2) (v3) (v4 + 1) 
def f_X3_makesOpenIn_L5 (K : fh_K) (M : fh_M) : Nat → Nat → Option Nat → Int32 → Int32 → Int32 → Option (Int32)
  | 0 => fun _ _ _ _ _ => none
  | n + 1 => fun t v1 v2 v3 v4 =>
    fo K 3 (some t) fun a1 =>
      if (M.1 a1 2) ≤ v4 then
      some v3
    else
      fi K 13 (M.2.2 a1 1) (v4) fun a2 =>
        fo K 1 (v1) fun a3 =>
        (f_X1_liveSurely K M a3 (M.1 a2 v4.toNatClampNeg) (v2)).bind fun r4 =>
        if r4 = 0 then
        f_X3_makesOpenIn_J41 K M (f_X3_makesOpenIn_L5 K M n) t (v1) (v2) (v3) (v4) 
      else
        fi K 13 (M.2.2 a1 0) (v4) fun a5 =>
          f_X3_makesOpenIn_J41 K M (f_X3_makesOpenIn_L5 K M n) t (v1) (v2) (v3 ||| (1 <<< ((M.1 a5 v4.toNatClampNeg) &&& 31))) (v4) 
def f_X3_makesOpenIn (K : fh_K) (M : fh_M) (t : Nat) (p1 : Option Nat) (p2 : Int32) : Option (Int32) :=
  f_X3_makesOpenIn_L5 K M 4096 t (p1) (p2) (0) (0) 
def f_X5_init (sz : Nat) (K : fh_K) (M : fh_M) (t : Nat) : Option (Nat × fh_K × fh_M) :=
  fn (12) 12 fun N1 =>
    fb (fh_uk K sz (16, N1)) fun K2 =>
    fb (fh_clr M sz) fun M3 =>
    fo K2 5 (some t) fun a4 =>
    fb (fh_sr M3 a4 0 (some sz)) fun M5 =>
    fn (12) 12 fun N6 =>
    fb (fh_uk K2 (sz + 1) (16, N6)) fun K7 =>
    fb (fh_clr M5 (sz + 1)) fun M8 =>
    fo K7 5 (some t) fun a9 =>
    fb (fh_sr M8 a9 1 (some (sz + 1))) fun M10 =>
    fn (12) 12 fun N11 =>
    fb (fh_uk K7 (sz + 2) (16, N11)) fun K12 =>
    fb (fh_clr M10 (sz + 2)) fun M13 =>
    fo K12 5 (some t) fun a14 =>
    fb (fh_sr M13 a14 2 (some (sz + 2))) fun M15 =>
    some (sz + 3, K12, M15)
def f_X5_priceOf (K : fh_K) (M : fh_M) (p0 : Int64) : Option (Int32) :=
  some ((p0 >>> ((23 : Int32).toInt64 &&& 63)).toInt32)
def f_X5_lengthOf (K : fh_K) (M : fh_M) (p0 : Int64) : Option (Int32) :=
  some (((p0 >>> ((20 : Int32).toInt64 &&& 63)).toInt32) &&& 7)
def f_X5_stepOf (K : fh_K) (M : fh_M) (p0 : Int64) (p2 : Int32) : Option (Int32) :=
  (f_X5_lengthOf K M (p0)).bind fun r1 =>
    if p2 < 0 then
    some (-1)
  else
    if p2 < r1 then
      some ((((p0.toInt32) &&& 1048575) >>> ((5 * ((r1 - 1) - p2)) &&& 31)) &&& 31)
    else
      some (-1)
def f_X5_extended (K : fh_K) (M : fh_M) (p0 : Int64) (p2 : Int32) (p3 : Int32) : Option (Int64) :=
  (f_X5_lengthOf K M (p0)).bind fun r1 =>
    (f_X5_priceOf K M (p0)).bind fun r2 =>
    some ((((((r2 + p3).toInt64) <<< ((3 : Int32).toInt64 &&& 63)) ||| ((r1 + 1).toInt64)) <<< ((20 : Int32).toInt64 &&& 63)) ||| (((p0 &&& 1048575) <<< ((5 : Int32).toInt64 &&& 63)) ||| (p2.toInt64)))
def f_X5_bestTo (K : fh_K) (M : fh_M) (t : Nat) (p1 : Int32) : Option (Int64) :=
  if p1 < 0 then
    some 9223372036854775807
  else
    if 12 ≤ p1 then
      some 9223372036854775807
    else
      fo K 5 (some t) fun a1 =>
        fi K 16 (M.2.2 a1 0) (p1) fun a2 =>
        some (M.2.1 a2 p1.toNatClampNeg)
def f_X9_at (K : fh_K) (M : fh_M) (t : Nat) (p1 : Int32) : Option (Option Nat) :=
  if p1 < 0 then
    some none
  else
    fo K 9 (some t) fun a1 =>
      if (M.1 a1 1) ≤ p1 then
      some none
    else
      fi K 19 (M.2.2 a1 0) (p1) fun a2 =>
        some (M.2.2 a2 p1.toNatClampNeg)
def f_X5_goOneStep_L131 (K : fh_K) : Nat → Nat → Int32 → fh_M → Option (fh_M)
  | 0 => fun _ _ _ => none
  | n + 1 => fun t v5 M =>
    if 12 ≤ v5 then
      some M
    else
      fo K 5 (some t) fun a20 =>
        fi K 16 (M.2.2 a20 2) (v5) fun a21 =>
        fi K 16 (M.2.2 a20 1) (v5) fun a22 =>
        fb (fh_sl M a22 v5.toNatClampNeg (M.2.1 a21 v5.toNatClampNeg)) fun M23 =>
        fi K 16 (M23.2.2 a20 0) (v5) fun a24 =>
        fi K 16 (M23.2.2 a20 2) (v5) fun a25 =>
        fb (fh_sl M23 a24 v5.toNatClampNeg (if (M23.2.1 a25 v5.toNatClampNeg) < (M23.2.1 a24 v5.toNatClampNeg) then M23.2.1 a25 v5.toNatClampNeg else M23.2.1 a24 v5.toNatClampNeg)) fun M26 =>
        f_X5_goOneStep_L131 K n t (v5 + 1) M26
def f_X5_goOneStep_J128 (K : fh_K) (t : Nat) (M : fh_M) : Option (fh_M) :=
  f_X5_goOneStep_L131 K 4096 t (0) M
def f_X5_goOneStep_J122 (K : fh_K) (rec13 : Nat → Int32 → Option Nat → Option Nat → Int32 → Int32 → fh_M → Option (fh_M)) (t : Nat) (v1 : Int32) (v2 : Option Nat) (v3 : Option Nat) (v4 : Int32) (v5 : Int32) (M : fh_M) : Option (fh_M) :=
  rec13 t (v1) (v2) (v3) (v4) (v5 + 1) M
def f_X5_goOneStep_L13 (K : fh_K) : Nat → Nat → Int32 → Option Nat → Option Nat → Int32 → Int32 → fh_M → Option (fh_M)
  | 0 => fun _ _ _ _ _ _ _ => none
  | n + 1 => fun t v1 v2 v3 v4 v5 M =>
    fo K 9 (v2) fun a4 =>
      if (M.1 a4 1) ≤ v5 then
      f_X5_goOneStep_J128 K t M
    else
      (f_X9_at K M a4 (v5)).bind fun r5 =>
        if r5 = none then
        f_X5_goOneStep_J122 K (f_X5_goOneStep_L13 K n) t (v1) (v2) (v3) (v4) (v5) M
      else
        fo K 5 (some t) fun a6 =>
          fo K 8 (r5) fun a7 =>
          fi K 16 (M.2.2 a6 1) (M.1 a7 0) fun a8 =>
          if (lg_cmp (M.2.1 a8 (M.1 a7 0).toNatClampNeg) (9223372036854775807 : Int64)) = 0 then
          f_X5_goOneStep_J122 K (f_X5_goOneStep_L13 K n) t (v1) (v2) (v3) (v4) (v5) M
        else
          (f_X8_carriesAll K M a7 (v1)).bind fun r9 =>
            if r9 = 0 then
            f_X5_goOneStep_J122 K (f_X5_goOneStep_L13 K n) t (v1) (v2) (v3) (v4) (v5) M
          else
            fo K 1 (v3) fun a10 =>
              (f_X1_liveSurely K M a10 (M.1 a7 4) (v4)).bind fun r11 =>
              if r11 = 0 then
              f_X5_goOneStep_J122 K (f_X5_goOneStep_L13 K n) t (v1) (v2) (v3) (v4) (v5) M
            else
              (f_X5_extended K M (M.2.1 a8 (M.1 a7 0).toNatClampNeg) (v5) (M.1 a7 3)).bind fun r12 =>
                fi K 16 (M.2.2 a6 2) (M.1 a7 1) fun a13 =>
                fb (fh_sl M a13 (M.1 a7 1).toNatClampNeg (if r12 < (M.2.1 a13 (M.1 a7 1).toNatClampNeg) then r12 else M.2.1 a13 (M.1 a7 1).toNatClampNeg)) fun M14 =>
                f_X5_goOneStep_J122 K (f_X5_goOneStep_L13 K n) t (v1) (v2) (v3) (v4) (v5) M14
def f_X5_goOneStep (K : fh_K) (M : fh_M) (t : Nat) (p1 : Int32) (p2 : Option Nat) (p3 : Option Nat) (p4 : Int32) : Option (fh_M) :=
  fo K 5 (some t) fun a1 =>
    (f_J7_fill_d0a16 K M (M.2.2 a1 2) (9223372036854775807)).bind fun M3 =>
    f_X5_goOneStep_L13 K 4096 t (p1) (p2) (p3) (p4) (0) M3
def f_X5_search_L69 (K : fh_K) : Nat → Nat → Option Nat → Option Nat → Int32 → Int32 → Int32 → fh_M → Option (fh_M)
  | 0 => fun _ _ _ _ _ _ _ => none
  | n + 1 => fun t v2 v3 v4 v6 v7 M =>
    if 4 < v7 then
      some M
    else
      fo K 5 (some t) fun a13 =>
        (f_X5_goOneStep K M a13 (v6) (v2) (v3) (v4)).bind fun M15 =>
        f_X5_search_L69 K n t (v2) (v3) (v4) (v6) (v7 + 1) M15
def f_X5_search (K : fh_K) (M : fh_M) (t : Nat) (p1 : Option Nat) (p2 : Option Nat) (p3 : Option Nat) (p4 : Int32) : Option (fh_M) :=
  fo K 5 (some t) fun a1 =>
    (f_J7_fill_d0a16 K M (M.2.2 a1 0) (9223372036854775807)).bind fun M3 =>
    (f_J7_fill_d0a16 K M3 (M3.2.2 a1 1) (9223372036854775807)).bind fun M5 =>
    fo K 7 (p1) fun a6 =>
    if (M5.1 a6 5) < 0 then
    some M5
  else
    if (M5.1 a6 5) < 12 then
      fi K 16 (M5.2.2 a1 0) (M5.1 a6 5) fun a7 =>
        fb (fh_sl M5 a7 (M5.1 a6 5).toNatClampNeg (0)) fun M8 =>
        fi K 16 (M8.2.2 a1 1) (M5.1 a6 5) fun a9 =>
        fb (fh_sl M8 a9 (M5.1 a6 5).toNatClampNeg (0)) fun M10 =>
        f_X5_search_L69 K 4096 t (p2) (p3) (p4) ((M10.1 a6 4) &&& (M10.1 a6 7)) (1) M10
    else
      some M5
def f_X6_init (sz : Nat) (K : fh_K) (M : fh_M) (t : Nat) : Option (Nat × fh_K × fh_M) :=
  fn (12) 12 fun N1 =>
    fb (fh_uk K sz (13, N1)) fun K2 =>
    fb (fh_clr M sz) fun M3 =>
    fo K2 6 (some t) fun a4 =>
    fb (fh_sr M3 a4 0 (some sz)) fun M5 =>
    fn (12) 12 fun N6 =>
    fb (fh_uk K2 (sz + 1) (13, N6)) fun K7 =>
    fb (fh_clr M5 (sz + 1)) fun M8 =>
    fo K7 6 (some t) fun a9 =>
    fb (fh_sr M8 a9 1 (some (sz + 1))) fun M10 =>
    some (sz + 2, K7, M10)
def f_X6_goOneStepBack_J96 (K : fh_K) (t : Nat) (M : fh_M) : Option (fh_M) :=
  fo K 6 (some t) fun a17 =>
    fq K (M.2.2 a17 1) (0) (M.2.2 a17 0) (0) (12) fun a18 a19 =>
    fb (fh_ri M a19 (va_cpy (M.1 a18) (M.1 a19) (0 : Int32).toNatClampNeg (0 : Int32).toNatClampNeg (12 : Int32).toNatClampNeg)) fun M21 =>
    some M21
def f_X6_goOneStepBack_J90 (K : fh_K) (rec18 : Nat → Option Nat → Option Nat → Int32 → Int32 → fh_M → Option (fh_M)) (t : Nat) (v1 : Option Nat) (v2 : Option Nat) (v3 : Int32) (v4 : Int32) (M : fh_M) : Option (fh_M) :=
  rec18 t (v1) (v2) (v3) (v4 + 1) M
def f_X6_goOneStepBack_L18 (K : fh_K) : Nat → Nat → Option Nat → Option Nat → Int32 → Int32 → fh_M → Option (fh_M)
  | 0 => fun _ _ _ _ _ _ => none
  | n + 1 => fun t v1 v2 v3 v4 M =>
    fo K 9 (v1) fun a6 =>
      if (M.1 a6 1) ≤ v4 then
      f_X6_goOneStepBack_J96 K t M
    else
      (f_X9_at K M a6 (v4)).bind fun r7 =>
        if r7 = none then
        f_X6_goOneStepBack_J90 K (f_X6_goOneStepBack_L18 K n) t (v1) (v2) (v3) (v4) M
      else
        fo K 8 (r7) fun a8 =>
          fo K 1 (v2) fun a9 =>
          (f_X1_endOf K M a9 (M.1 a8 4) (v3)).bind fun r10 =>
          fo K 6 (some t) fun a11 =>
          fi K 13 (M.2.2 a11 0) (M.1 a8 1) fun a12 =>
          fi K 13 (M.2.2 a11 1) (M.1 a8 0) fun a13 =>
          fb (fh_si M a13 (M.1 a8 0).toNatClampNeg (if (M.1 a13 (M.1 a8 0).toNatClampNeg) < (if (M.1 a12 (M.1 a8 1).toNatClampNeg) < r10 then M.1 a12 (M.1 a8 1).toNatClampNeg else r10) then if (M.1 a12 (M.1 a8 1).toNatClampNeg) < r10 then M.1 a12 (M.1 a8 1).toNatClampNeg else r10 else M.1 a13 (M.1 a8 0).toNatClampNeg)) fun M14 =>
          f_X6_goOneStepBack_J90 K (f_X6_goOneStepBack_L18 K n) t (v1) (v2) (v3) (v4) M14
def f_X6_goOneStepBack (K : fh_K) (M : fh_M) (t : Nat) (p1 : Option Nat) (p2 : Option Nat) (p3 : Int32) : Option (fh_M) :=
  fo K 6 (some t) fun a1 =>
    fq K (M.2.2 a1 0) (0) (M.2.2 a1 1) (0) (12) fun a2 a3 =>
    fb (fh_ri M a3 (va_cpy (M.1 a2) (M.1 a3) (0 : Int32).toNatClampNeg (0 : Int32).toNatClampNeg (12 : Int32).toNatClampNeg)) fun M5 =>
    f_X6_goOneStepBack_L18 K 4096 t (p1) (p2) (p3) (0) M5
def f_X6_measure_L72 (K : fh_K) : Nat → Nat → Option Nat → Option Nat → Int32 → Int32 → fh_M → Option (fh_M)
  | 0 => fun _ _ _ _ _ _ => none
  | n + 1 => fun t v2 v3 v4 v5 M =>
    if 4 < v5 then
      some M
    else
      fo K 6 (some t) fun a13 =>
        (f_X6_goOneStepBack K M a13 (v2) (v3) (v4)).bind fun M15 =>
        f_X6_measure_L72 K n t (v2) (v3) (v4) (v5 + 1) M15
def f_X6_measure_J69 (K : fh_K) (t : Nat) (v2 : Option Nat) (v3 : Option Nat) (v4 : Int32) (M : fh_M) : Option (fh_M) :=
  f_X6_measure_L72 K 4096 t (v2) (v3) (v4) (1) M
def f_X6_measure_L11 (K : fh_K) : Nat → Nat → Option Nat → Option Nat → Option Nat → Int32 → Int32 → fh_M → Option (fh_M)
  | 0 => fun _ _ _ _ _ _ _ => none
  | n + 1 => fun t v1 v2 v3 v4 v5 M =>
    fo K 3 (v1) fun a4 =>
      if (M.1 a4 2) ≤ v5 then
      f_X6_measure_J69 K t (v2) (v3) (v4) M
    else
      fi K 13 (M.2.2 a4 0) (v5) fun a5 =>
        fi K 13 (M.2.2 a4 1) (v5) fun a6 =>
        fo K 1 (v3) fun a7 =>
        (f_X1_endOf K M a7 (M.1 a6 v5.toNatClampNeg) (v4)).bind fun r8 =>
        fo K 6 (some t) fun a9 =>
        fi K 13 (M.2.2 a9 0) (M.1 a5 v5.toNatClampNeg) fun a10 =>
        fb (fh_si M a10 (M.1 a5 v5.toNatClampNeg).toNatClampNeg (if (M.1 a10 (M.1 a5 v5.toNatClampNeg).toNatClampNeg) < r8 then r8 else M.1 a10 (M.1 a5 v5.toNatClampNeg).toNatClampNeg)) fun M11 =>
        f_X6_measure_L11 K n t (v1) (v2) (v3) (v4) (v5 + 1) M11
def f_X6_measure (K : fh_K) (M : fh_M) (t : Nat) (p1 : Option Nat) (p2 : Option Nat) (p3 : Option Nat) (p4 : Int32) : Option (fh_M) :=
  fo K 6 (some t) fun a1 =>
    (f_J7_fill_53178 K M (M.2.2 a1 0) ((-1))).bind fun M3 =>
    f_X6_measure_L11 K 4096 t (p1) (p2) (p3) (p4) (0) M3
def f_X6_lastYearOf (K : fh_K) (M : fh_M) (t : Nat) (p1 : Int32) : Option (Int32) :=
  if p1 < 0 then
    some (-1)
  else
    if 12 ≤ p1 then
      some (-1)
    else
      fo K 6 (some t) fun a1 =>
        fi K 13 (M.2.2 a1 0) (p1) fun a2 =>
        some (M.1 a2 p1.toNatClampNeg)
def f_X9_init (sz : Nat) (K : fh_K) (M : fh_M) (t : Nat) : Option (Nat × fh_K × fh_M) :=
  fn (24) 24 fun N1 =>
    fb (fh_uk K sz (19, N1)) fun K2 =>
    fb (fh_clr M sz) fun M3 =>
    fo K2 9 (some t) fun a4 =>
    fb (fh_sr M3 a4 0 (some sz)) fun M5 =>
    fb (fh_si M5 a4 1 (0)) fun M6 =>
    some (sz + 1, K2, M6)
def f_X9_add (sz : Nat) (K : fh_K) (M : fh_M) (t : Nat) (p1 : Int32) (p2 : Int32) (p3 : Int32) (p4 : Int32) (p5 : Int32) : Option (Int32 × Nat × fh_K × fh_M) :=
  fo K 9 (some t) fun a1 =>
    if (M.1 a1 1) < 24 then
    fb (fh_uk K sz (8 + 1, 0)) fun K2 =>
      fb (fh_clr M sz) fun M3 =>
      (f_X8_init K2 M3 sz (p1) (p2) (p3) (p4) (p5)).bind fun M5 =>
      fi K2 19 (M.2.2 a1 0) (M.1 a1 1) fun a6 =>
      fo K2 8 (some sz) fun a7 =>
      fb (fh_sr M5 a6 (M.1 a1 1).toNatClampNeg (some a7)) fun M8 =>
      fo K2 9 (some t) fun a9 =>
      fb (fh_si M8 a9 1 ((M8.1 a9 1) + 1)) fun M10 =>
      some ((M10.1 a9 1) - 1, sz + 1, K2, M10)
  else
    some ((-1), sz, K, M)
abbrev rm_X3_init : Room := { frames := 1, cells := 2, slots := 48, locals := 24 }
set_option maxRecDepth 10000 in
theorem r_X3_init (l : Launch) (D : fh_D) (A : Nat → Prop) {K : fh_K} {sz : Nat} {M : fh_M} {M' : fh_M} {K' : fh_K} {sz' : Nat} {t : Nat} (h : f_X3_init sz K M t = some (sz', K', M')) : fh_Met l yX3_init cX3_init 1 none rm_X3_init D K M sz A [va_rf (some t)] none K' M' sz' := by
  refine fh_enter (by decide) (by simp [lg_sl, va_rf_cat, cat_i, cat_l]) (lv := [(0, va_rf (some t))]) (by simp [lv_args, va_rf_cat, cat_i, cat_l]) ?_
  intro X C E hnm _ _ _
  replace C : fh_C X 1 cX3_init RX3 := C
  unfold f_X3_init at h
  refine fv_aload_n C 0 rfl rfl dX3_init_0 ?_
  refine fv_objInit C lk_RX3_3 jw_oi_instanceMethod jw_oi_code (Nat.le_of_ble_eq_true rfl) (by simp [va_rf_cat, cat_i, cat_l]) dX3_init_1 ?_
  refine fv_aload_n C 0 rfl rfl dX3_init_4 ?_
  refine fv_bipush (v := 24) C (by decide) dX3_init_5 ?_
  replace h := fn_s h
  obtain ⟨N1, pN1, qN1, bN1, h⟩ := h
  replace h := fb_s h
  obtain ⟨K2, eK2, h⟩ := h
  replace h := fb_s h
  obtain ⟨M3, eM3, h⟩ := h
  refine fv_newI C ac_int pN1 qN1 (Nat.le_trans bN1 (by decide)) (Nat.le_of_ble_eq_true rfl) (by show 0 + N1 ≤ _; exact Nat.le_trans (Nat.add_le_add_left bN1 _) (Nat.le_of_ble_eq_true rfl)) dX3_init_7 ?_
  refine fv_eqK eK2 (fv_eqM eM3 ?_)
  refine fv_widen (mc := 1) (ms := 24) (cc := ⟨#[]⟩) (own := "") (Nat.le_of_ble_eq_true rfl) (by exact Nat.add_le_add_left bN1 _) ?_
  replace h := fo_s h
  obtain ⟨a4, ea4, ka4, h⟩ := h
  replace h := fb_s h
  obtain ⟨M5, eM5, h⟩ := h
  refine fv_putFR (fin := true) C fl_RX3_9 ea4 ka4 rfl hnm (narrow_rf_a _ _) dX3_init_9 (fv_eqM eM5 ?_)
  refine fv_aload_n C 0 rfl rfl dX3_init_12 ?_
  refine fv_bipush (v := 24) C (by decide) dX3_init_13 ?_
  replace h := fn_s h
  obtain ⟨N6, pN6, qN6, bN6, h⟩ := h
  replace h := fb_s h
  obtain ⟨K7, eK7, h⟩ := h
  replace h := fb_s h
  obtain ⟨M8, eM8, h⟩ := h
  refine fv_newI C ac_int pN6 qN6 (Nat.le_trans bN6 (by decide)) (Nat.le_of_ble_eq_true rfl) (by show 24 + N6 ≤ _; exact Nat.le_trans (Nat.add_le_add_left bN6 _) (Nat.le_of_ble_eq_true rfl)) dX3_init_15 ?_
  refine fv_eqK eK7 (fv_eqM eM8 ?_)
  refine fv_widen (mc := 2) (ms := 48) (cc := ⟨#[]⟩) (own := "") (Nat.le_of_ble_eq_true rfl) (by exact Nat.add_le_add_left bN6 _) ?_
  replace h := fo_s h
  obtain ⟨a9, ea9, ka9, h⟩ := h
  replace h := fb_s h
  obtain ⟨M10, eM10, h⟩ := h
  refine fv_putFR (fin := true) C fl_RX3_15 ea9 ka9 rfl hnm (narrow_rf_a _ _) dX3_init_17 (fv_eqM eM10 ?_)
  refine fv_aload_n C 0 rfl rfl dX3_init_20 ?_
  refine fv_iconst (v := 0) C (by decide) dX3_init_21 ?_
  replace h := fb_s h
  obtain ⟨M11, eM11, h⟩ := h
  refine fv_putI (fin := false) C fl_RX3_18 ea9 ka9 (narrow_i _) dX3_init_22 (fv_eqM eM11 ?_)
  cases h
  exact fv_vret (z := (0, 0, 0)) (st := []) C E dX3_init_25
abbrev rm_X3_isTold : Room := { frames := 0, cells := 0, slots := 0, locals := 0 }
set_option maxRecDepth 10000 in
theorem r_X3_isTold_J32 {X : fh_X} {K : fh_K} {sz : Nat} {M : fh_M} {r : Int32} (C : fh_C X 4 cX3_isTold RX3) (E : fh_E X rm_X3_isTold (some .boolean) (some (.int r)) K M sz) {rec2 : Nat → Int32 → Int32 → Int32 → Option (Int32)} (hrec2 : ∀ (t : Nat) (v1 : Int32) (v2 : Int32) (v3 : Int32), rec2 t v1 v2 v3 = some r → fh_V X rm_X3_isTold 4 (sz, 0, 0) K M 2 [(0, va_rf (some t)), (1, .int v1), (2, .int v2), (3, .int v3)] []) (t : Nat) (v1 : Int32) (v2 : Int32) (v3 : Int32) (h : f_X3_isTold_J32 K M rec2 t v1 v2 v3 = some r) : fh_V X rm_X3_isTold 4 (sz, 0, 0) K M 32 [(0, va_rf (some t)), (1, .int v1), (2, .int v2), (3, .int v3)] [] := by
  unfold f_X3_isTold_J32 at h
  refine fv_iinc (v := v3 + 1) (lv' := [(3, .int (v3 + 1)), (0, va_rf (some t)), (1, .int v1), (2, .int v2)]) C 3 rfl (by first | rfl | exact congrArg _ (by decide)) (by decide) (by first | rfl | simp [va_rf_cat]) dX3_isTold_32 ?_
  refine fv_goto C 2 (by decide) dX3_isTold_35 ?_
  refine fv_sub (cc := ⟨#[]⟩) (own := "") [1, 2, 3, 0] rfl ?_
  exact hrec2 _ _ _ _ h
set_option maxRecDepth 10000 in
theorem r_X3_isTold_L2 {X : fh_X} {K : fh_K} {sz : Nat} {M : fh_M} {r : Int32} (C : fh_C X 4 cX3_isTold RX3) (E : fh_E X rm_X3_isTold (some .boolean) (some (.int r)) K M sz) : ∀ (n : Nat) (t : Nat) (v1 : Int32) (v2 : Int32) (v3 : Int32), f_X3_isTold_L2 K M n t v1 v2 v3 = some r → fh_V X rm_X3_isTold 4 (sz, 0, 0) K M 2 [(0, va_rf (some t)), (1, .int v1), (2, .int v2), (3, .int v3)] [] := by
  intro n
  induction n with
  | zero => intro t v1 v2 v3 h; cases h
  | succ n ih =>
    intro t v1 v2 v3 h
    unfold f_X3_isTold_L2 at h
    refine fv_iload_n C 3 rfl rfl dX3_isTold_2 ?_
    refine fv_aload_n C 0 rfl rfl dX3_isTold_3 ?_
    replace h := fo_s h
    obtain ⟨a1, ea1, ka1, h⟩ := h
    refine fv_getI C fl_RX3_18 ea1 ka1 dX3_isTold_4 ?_
    refine fv_icmp_ge C 38 (by decide) dX3_isTold_7 (fun c6 => ?_) (fun c6 => ?_)
    · replace h := itT c6 h
      refine fv_iconst (v := 0) C (by decide) dX3_isTold_38 ?_
      cases h
      exact fv_zret (z := (0, 0, 0)) (st := []) C E (Or.inl rfl) dX3_isTold_39
    · replace h := itF c6 h
      refine fv_aload_n C 0 rfl rfl dX3_isTold_10 ?_
      refine fv_getR C fl_RX3_9 ea1 ka1 dX3_isTold_11 ?_
      refine fv_iload_n C 3 rfl rfl dX3_isTold_14 ?_
      replace h := fi_s h
      obtain ⟨a2, ea2, ka2, ia2, h⟩ := h
      refine fv_iald C ea2 ka2 ia2 dX3_isTold_15 ?_
      refine fv_iload_n C 1 rfl rfl dX3_isTold_16 ?_
      refine fv_icmp_ne C 32 (by decide) dX3_isTold_17 (fun c5 => ?_) (fun c5 => ?_)
      · replace h := itF c5 h
        refine fv_sub (cc := ⟨#[]⟩) (own := "") [0, 1, 2, 3] rfl ?_
        exact r_X3_isTold_J32 C E ih _ _ _ _ h
      · replace h := itT c5 h
        refine fv_aload_n C 0 rfl rfl dX3_isTold_20 ?_
        refine fv_getR C fl_RX3_15 ea1 ka1 dX3_isTold_21 ?_
        refine fv_iload_n C 3 rfl rfl dX3_isTold_24 ?_
        replace h := fi_s h
        obtain ⟨a3, ea3, ka3, ia3, h⟩ := h
        refine fv_iald C ea3 ka3 ia3 dX3_isTold_25 ?_
        refine fv_iload_n C 2 rfl rfl dX3_isTold_26 ?_
        refine fv_icmp_ne C 32 (by decide) dX3_isTold_27 (fun c4 => ?_) (fun c4 => ?_)
        · replace h := itF c4 h
          refine fv_sub (cc := ⟨#[]⟩) (own := "") [0, 1, 2, 3] rfl ?_
          exact r_X3_isTold_J32 C E ih _ _ _ _ h
        · replace h := itT c4 h
          refine fv_iconst (v := 1) C (by decide) dX3_isTold_30 ?_
          cases h
          exact fv_zret (z := (0, 0, 0)) (st := []) C E (Or.inr rfl) dX3_isTold_31
set_option maxRecDepth 10000 in
theorem r_X3_isTold (l : Launch) (D : fh_D) (A : Nat → Prop) {K : fh_K} {sz : Nat} {M : fh_M} {r : Int32} {t : Nat} {p1 : Int32} {p2 : Int32} (h : f_X3_isTold K M t p1 p2 = some r) : fh_Met l yX3_isTold cX3_isTold 4 (some .boolean) rm_X3_isTold D K M sz A [va_rf (some t), .int p1, .int p2] (some (.int r)) K M sz := by
  refine fh_enter (by decide) (by simp [lg_sl, va_rf_cat, cat_i, cat_l]) (lv := [(0, va_rf (some t)), (1, .int p1), (2, .int p2)]) (by simp [lv_args, va_rf_cat, cat_i, cat_l]) ?_
  intro X C E hnm _ _ _
  replace C : fh_C X 4 cX3_isTold RX3 := C
  unfold f_X3_isTold at h
  refine fv_iconst (v := 0) C (by decide) dX3_isTold_0 ?_
  refine fv_istore_n (i := 3) (lv' := [(3, .int 0), (0, va_rf (some t)), (1, .int p1), (2, .int p2)]) C rfl (by decide) (by first | rfl | simp [va_rf_cat]) dX3_isTold_1 ?_
  refine fv_sub (cc := ⟨#[]⟩) (own := "") [1, 2, 3, 0] rfl ?_
  exact r_X3_isTold_L2 C E  4096 _ _ _ _ h
abbrev rm_X3_add : Room := { frames := 1, cells := 0, slots := 0, locals := 23 }
set_option maxRecDepth 10000 in
theorem r_X3_add (l : Launch) (D : fh_D) (A : Nat → Prop) {K : fh_K} {sz : Nat} {M : fh_M} {M' : fh_M} {r : Int32} {t : Nat} {p1 : Int32} {p2 : Int32} (h : f_X3_add K M t p1 p2 = some (r, M')) : fh_Met l yX3_add cX3_add 3 (some .boolean) rm_X3_add D K M sz A [va_rf (some t), .int p1, .int p2] (some (.int r)) K M' sz := by
  refine fh_enter (by decide) (by simp [lg_sl, va_rf_cat, cat_i, cat_l]) (lv := [(0, va_rf (some t)), (1, .int p1), (2, .int p2)]) (by simp [lv_args, va_rf_cat, cat_i, cat_l]) ?_
  intro X C E hnm _ _ _
  replace C : fh_C X 3 cX3_add RX3 := C
  unfold f_X3_add at h
  refine fv_aload_n C 0 rfl rfl dX3_add_0 ?_
  replace h := fo_s h
  obtain ⟨a1, ea1, ka1, h⟩ := h
  refine fv_getI C fl_RX3_18 ea1 ka1 dX3_add_1 ?_
  refine fv_bipush (v := 24) C (by decide) dX3_add_4 ?_
  refine fv_icmp_ge C 18 (by decide) dX3_add_6 (fun c9 => ?_) (fun c9 => ?_)
  · replace h := itT c9 h
    refine fv_iconst (v := 0) C (by decide) dX3_add_18 ?_
    cases h
    exact fv_zret (z := (0, 0, 0)) (st := []) C E (Or.inl rfl) dX3_add_19
  · replace h := itF c9 h
    refine fv_aload_n C 0 rfl rfl dX3_add_9 ?_
    refine fv_iload_n C 1 rfl rfl dX3_add_10 ?_
    refine fv_iload_n C 2 rfl rfl dX3_add_11 ?_
    replace h := bx h
    obtain ⟨r2, er2, h⟩ := h
    refine fv_callV [.int p1, .int p2] C mi_X3_isTold ms_X3_isTold lk_RX3_22 ea1 ka1 (r_X3_isTold _ _ _ er2) ⟨Nat.le_of_ble_eq_true rfl, Nat.le_of_ble_eq_true rfl⟩ ⟨Nat.le_of_ble_eq_true rfl, Nat.le_of_ble_eq_true rfl⟩ rfl rfl (by simp [va_rf_cat, cat_i, cat_l]) dX3_add_12 ?_
    show fh_V X rm_X3_add 3 (sz, 0, 0) K M _ _ [.int r2]
    refine fv_if_eq C 20 (by decide) dX3_add_15 (fun c8 => ?_) (fun c8 => ?_)
    · replace h := itT c8 h
      refine fv_aload_n C 0 rfl rfl dX3_add_20 ?_
      refine fv_getR C fl_RX3_9 ea1 ka1 dX3_add_21 ?_
      refine fv_aload_n C 0 rfl rfl dX3_add_24 ?_
      refine fv_getI C fl_RX3_18 ea1 ka1 dX3_add_25 ?_
      refine fv_iload_n C 1 rfl rfl dX3_add_28 ?_
      replace h := fi_s h
      obtain ⟨a3, ea3, ka3, ia3, h⟩ := h
      replace h := fb_s h
      obtain ⟨M4, eM4, h⟩ := h
      refine fv_iast C ea3 ka3 ia3 dX3_add_29 (fv_eqM eM4 ?_)
      refine fv_aload_n C 0 rfl rfl dX3_add_30 ?_
      refine fv_getR C fl_RX3_15 ea1 ka1 dX3_add_31 ?_
      refine fv_aload_n C 0 rfl rfl dX3_add_34 ?_
      refine fv_getI C fl_RX3_18 ea1 ka1 dX3_add_35 ?_
      refine fv_iload_n C 2 rfl rfl dX3_add_38 ?_
      replace h := fi_s h
      obtain ⟨a5, ea5, ka5, ia5, h⟩ := h
      replace h := fb_s h
      obtain ⟨M6, eM6, h⟩ := h
      refine fv_iast C ea5 ka5 ia5 dX3_add_39 (fv_eqM eM6 ?_)
      refine fv_aload_n C 0 rfl rfl dX3_add_40 ?_
      refine fv_dupr C dX3_add_41 ?_
      refine fv_getI C fl_RX3_18 ea1 ka1 dX3_add_42 ?_
      refine fv_iconst (v := 1) C (by decide) dX3_add_45 ?_
      refine fv_iadd C dX3_add_46 ?_
      replace h := fb_s h
      obtain ⟨M7, eM7, h⟩ := h
      refine fv_putI (fin := false) C fl_RX3_18 ea1 ka1 (narrow_i _) dX3_add_47 (fv_eqM eM7 ?_)
      refine fv_iconst (v := 1) C (by decide) dX3_add_50 ?_
      cases h
      exact fv_zret (z := (0, 0, 0)) (st := []) C E (Or.inr rfl) dX3_add_51
    · replace h := itF c8 h
      refine fv_iconst (v := 0) C (by decide) dX3_add_18 ?_
      cases h
      exact fv_zret (z := (0, 0, 0)) (st := []) C E (Or.inl rfl) dX3_add_19
abbrev rm_X3_makesOpenIn : Room := { frames := 3, cells := 0, slots := 0, locals := 65 }
set_option maxRecDepth 10000 in
theorem r_X3_makesOpenIn_J41 {X : fh_X} {K : fh_K} {sz : Nat} {M : fh_M} {r : Int32} (C : fh_C X 5 cX3_makesOpenIn RX3) (E : fh_E X rm_X3_makesOpenIn (some .int) (some (.int r)) K M sz) {rec5 : Nat → Option Nat → Int32 → Int32 → Int32 → Option (Int32)} (hrec5 : ∀ (t : Nat) (v1 : Option Nat) (v2 : Int32) (v3 : Int32) (v4 : Int32), rec5 t v1 v2 v3 v4 = some r → fh_V X rm_X3_makesOpenIn 5 (sz, 0, 0) K M 5 [(0, va_rf (some t)), (1, va_rf (v1)), (2, .int v2), (3, .int v3), (4, .int v4)] []) (t : Nat) (v1 : Option Nat) (v2 : Int32) (v3 : Int32) (v4 : Int32) (h : f_X3_makesOpenIn_J41 K M rec5 t v1 v2 v3 v4 = some r) : fh_V X rm_X3_makesOpenIn 5 (sz, 0, 0) K M 41 [(0, va_rf (some t)), (1, va_rf (v1)), (2, .int v2), (3, .int v3), (4, .int v4)] [] := by
  unfold f_X3_makesOpenIn_J41 at h
  refine fv_iinc (v := v4 + 1) (lv' := [(4, .int (v4 + 1)), (0, va_rf (some t)), (1, va_rf (v1)), (2, .int v2), (3, .int v3)]) C 4 rfl (by first | rfl | exact congrArg _ (by decide)) (by decide) (by first | rfl | simp [va_rf_cat]) dX3_makesOpenIn_41 ?_
  refine fv_goto C 5 (by decide) dX3_makesOpenIn_44 ?_
  refine fv_sub (cc := ⟨#[]⟩) (own := "") [1, 2, 3, 4, 0] rfl ?_
  exact hrec5 _ _ _ _ _ h
set_option maxRecDepth 10000 in
theorem r_X3_makesOpenIn_L5 {X : fh_X} {K : fh_K} {sz : Nat} {M : fh_M} {r : Int32} (C : fh_C X 5 cX3_makesOpenIn RX3) (E : fh_E X rm_X3_makesOpenIn (some .int) (some (.int r)) K M sz) : ∀ (n : Nat) (t : Nat) (v1 : Option Nat) (v2 : Int32) (v3 : Int32) (v4 : Int32), f_X3_makesOpenIn_L5 K M n t v1 v2 v3 v4 = some r → fh_V X rm_X3_makesOpenIn 5 (sz, 0, 0) K M 5 [(0, va_rf (some t)), (1, va_rf (v1)), (2, .int v2), (3, .int v3), (4, .int v4)] [] := by
  intro n
  induction n with
  | zero => intro t v1 v2 v3 v4 h; cases h
  | succ n ih =>
    intro t v1 v2 v3 v4 h
    unfold f_X3_makesOpenIn_L5 at h
    refine fv_iload C 4 rfl dX3_makesOpenIn_5 ?_
    refine fv_aload_n C 0 rfl rfl dX3_makesOpenIn_7 ?_
    replace h := fo_s h
    obtain ⟨a1, ea1, ka1, h⟩ := h
    refine fv_getI C fl_RX3_18 ea1 ka1 dX3_makesOpenIn_8 ?_
    refine fv_icmp_ge C 47 (by decide) dX3_makesOpenIn_11 (fun c7 => ?_) (fun c7 => ?_)
    · replace h := itT c7 h
      refine fv_iload_n C 3 rfl rfl dX3_makesOpenIn_47 ?_
      cases h
      exact fv_iret (z := (0, 0, 0)) (st := []) C E dX3_makesOpenIn_48
    · replace h := itF c7 h
      refine fv_aload_n C 1 rfl rfl dX3_makesOpenIn_14 ?_
      refine fv_aload_n C 0 rfl rfl dX3_makesOpenIn_15 ?_
      refine fv_getR C fl_RX3_15 ea1 ka1 dX3_makesOpenIn_16 ?_
      refine fv_iload C 4 rfl dX3_makesOpenIn_19 ?_
      replace h := fi_s h
      obtain ⟨a2, ea2, ka2, ia2, h⟩ := h
      refine fv_iald C ea2 ka2 ia2 dX3_makesOpenIn_21 ?_
      refine fv_iload_n C 2 rfl rfl dX3_makesOpenIn_22 ?_
      replace h := fo_s h
      obtain ⟨a3, ea3, ka3, h⟩ := h
      replace h := bx h
      obtain ⟨r4, er4, h⟩ := h
      refine fv_callV [.int (M.1 a2 v4.toNatClampNeg), .int v2] C mi_X1_liveSurely ms_X1_liveSurely lk_RX3_26 ea3 ka3 (r_X1_liveSurely _ _ _ er4) ⟨Nat.le_of_ble_eq_true rfl, Nat.le_of_ble_eq_true rfl⟩ ⟨Nat.le_of_ble_eq_true rfl, Nat.le_of_ble_eq_true rfl⟩ rfl rfl (by simp [va_rf_cat, cat_i, cat_l]) dX3_makesOpenIn_23 ?_
      show fh_V X rm_X3_makesOpenIn 5 (sz, 0, 0) K M _ _ [.int r4]
      refine fv_if_eq C 41 (by decide) dX3_makesOpenIn_26 (fun c6 => ?_) (fun c6 => ?_)
      · replace h := itT c6 h
        refine fv_sub (cc := ⟨#[]⟩) (own := "") [0, 1, 2, 3, 4] rfl ?_
        exact r_X3_makesOpenIn_J41 C E ih _ _ _ _ _ h
      · replace h := itF c6 h
        refine fv_iload_n C 3 rfl rfl dX3_makesOpenIn_29 ?_
        refine fv_iconst (v := 1) C (by decide) dX3_makesOpenIn_30 ?_
        refine fv_aload_n C 0 rfl rfl dX3_makesOpenIn_31 ?_
        refine fv_getR C fl_RX3_9 ea1 ka1 dX3_makesOpenIn_32 ?_
        refine fv_iload C 4 rfl dX3_makesOpenIn_35 ?_
        replace h := fi_s h
        obtain ⟨a5, ea5, ka5, ia5, h⟩ := h
        refine fv_iald C ea5 ka5 ia5 dX3_makesOpenIn_37 ?_
        refine fv_ishl C dX3_makesOpenIn_38 ?_
        refine fv_ior C dX3_makesOpenIn_39 ?_
        refine fv_istore_n (i := 3) (lv' := [(3, .int (v3 ||| (1 <<< ((M.1 a5 v4.toNatClampNeg) &&& 31)))), (0, va_rf (some t)), (1, va_rf (v1)), (2, .int v2), (4, .int v4)]) C rfl (by decide) (by first | rfl | simp [va_rf_cat]) dX3_makesOpenIn_40 ?_
        refine fv_sub (cc := ⟨#[]⟩) (own := "") [1, 2, 3, 0, 4] rfl ?_
        exact r_X3_makesOpenIn_J41 C E ih _ _ _ _ _ h
set_option maxRecDepth 10000 in
theorem r_X3_makesOpenIn (l : Launch) (D : fh_D) (A : Nat → Prop) {K : fh_K} {sz : Nat} {M : fh_M} {r : Int32} {t : Nat} {p1 : Option Nat} {p2 : Int32} (h : f_X3_makesOpenIn K M t p1 p2 = some r) : fh_Met l yX3_makesOpenIn cX3_makesOpenIn 5 (some .int) rm_X3_makesOpenIn D K M sz A [va_rf (some t), va_rf p1, .int p2] (some (.int r)) K M sz := by
  refine fh_enter (by decide) (by simp [lg_sl, va_rf_cat, cat_i, cat_l]) (lv := [(0, va_rf (some t)), (1, va_rf p1), (2, .int p2)]) (by simp [lv_args, va_rf_cat, cat_i, cat_l]) ?_
  intro X C E hnm _ _ _
  replace C : fh_C X 5 cX3_makesOpenIn RX3 := C
  unfold f_X3_makesOpenIn at h
  refine fv_iconst (v := 0) C (by decide) dX3_makesOpenIn_0 ?_
  refine fv_istore_n (i := 3) (lv' := [(3, .int 0), (0, va_rf (some t)), (1, va_rf (p1)), (2, .int p2)]) C rfl (by decide) (by first | rfl | simp [va_rf_cat]) dX3_makesOpenIn_1 ?_
  refine fv_iconst (v := 0) C (by decide) dX3_makesOpenIn_2 ?_
  refine fv_istore (i := 4) (lv' := [(4, .int 0), (3, .int 0), (0, va_rf (some t)), (1, va_rf (p1)), (2, .int p2)]) C (by decide) (by first | rfl | simp [va_rf_cat]) dX3_makesOpenIn_3 ?_
  refine fv_sub (cc := ⟨#[]⟩) (own := "") [2, 3, 4, 1, 0] rfl ?_
  exact r_X3_makesOpenIn_L5 C E  4096 _ _ _ _ _ h
abbrev rm_X5_init : Room := { frames := 1, cells := 3, slots := 36, locals := 24 }
set_option maxRecDepth 10000 in
theorem r_X5_init (l : Launch) (D : fh_D) (A : Nat → Prop) {K : fh_K} {sz : Nat} {M : fh_M} {M' : fh_M} {K' : fh_K} {sz' : Nat} {t : Nat} (h : f_X5_init sz K M t = some (sz', K', M')) : fh_Met l yX5_init cX5_init 1 none rm_X5_init D K M sz A [va_rf (some t)] none K' M' sz' := by
  refine fh_enter (by decide) (by simp [lg_sl, va_rf_cat, cat_i, cat_l]) (lv := [(0, va_rf (some t))]) (by simp [lv_args, va_rf_cat, cat_i, cat_l]) ?_
  intro X C E hnm _ _ _
  replace C : fh_C X 1 cX5_init RX5 := C
  unfold f_X5_init at h
  refine fv_aload_n C 0 rfl rfl dX5_init_0 ?_
  refine fv_objInit C lk_RX5_3 jw_oi_instanceMethod jw_oi_code (Nat.le_of_ble_eq_true rfl) (by simp [va_rf_cat, cat_i, cat_l]) dX5_init_1 ?_
  refine fv_aload_n C 0 rfl rfl dX5_init_4 ?_
  refine fv_bipush (v := 12) C (by decide) dX5_init_5 ?_
  replace h := fn_s h
  obtain ⟨N1, pN1, qN1, bN1, h⟩ := h
  replace h := fb_s h
  obtain ⟨K2, eK2, h⟩ := h
  replace h := fb_s h
  obtain ⟨M3, eM3, h⟩ := h
  refine fv_newJ C ac_long pN1 qN1 (Nat.le_trans bN1 (by decide)) (Nat.le_of_ble_eq_true rfl) (by show 0 + N1 ≤ _; exact Nat.le_trans (Nat.add_le_add_left bN1 _) (Nat.le_of_ble_eq_true rfl)) dX5_init_7 ?_
  refine fv_eqK eK2 (fv_eqM eM3 ?_)
  refine fv_widen (mc := 1) (ms := 12) (cc := ⟨#[]⟩) (own := "") (Nat.le_of_ble_eq_true rfl) (by exact Nat.add_le_add_left bN1 _) ?_
  replace h := fo_s h
  obtain ⟨a4, ea4, ka4, h⟩ := h
  replace h := fb_s h
  obtain ⟨M5, eM5, h⟩ := h
  refine fv_putFR (fin := true) C fl_RX5_9 ea4 ka4 rfl hnm (narrow_rf_a _ _) dX5_init_9 (fv_eqM eM5 ?_)
  refine fv_aload_n C 0 rfl rfl dX5_init_12 ?_
  refine fv_bipush (v := 12) C (by decide) dX5_init_13 ?_
  replace h := fn_s h
  obtain ⟨N6, pN6, qN6, bN6, h⟩ := h
  replace h := fb_s h
  obtain ⟨K7, eK7, h⟩ := h
  replace h := fb_s h
  obtain ⟨M8, eM8, h⟩ := h
  refine fv_newJ C ac_long pN6 qN6 (Nat.le_trans bN6 (by decide)) (Nat.le_of_ble_eq_true rfl) (by show 12 + N6 ≤ _; exact Nat.le_trans (Nat.add_le_add_left bN6 _) (Nat.le_of_ble_eq_true rfl)) dX5_init_15 ?_
  refine fv_eqK eK7 (fv_eqM eM8 ?_)
  refine fv_widen (mc := 2) (ms := 24) (cc := ⟨#[]⟩) (own := "") (Nat.le_of_ble_eq_true rfl) (by exact Nat.add_le_add_left bN6 _) ?_
  replace h := fo_s h
  obtain ⟨a9, ea9, ka9, h⟩ := h
  replace h := fb_s h
  obtain ⟨M10, eM10, h⟩ := h
  refine fv_putFR (fin := true) C fl_RX5_15 ea9 ka9 rfl hnm (narrow_rf_a _ _) dX5_init_17 (fv_eqM eM10 ?_)
  refine fv_aload_n C 0 rfl rfl dX5_init_20 ?_
  refine fv_bipush (v := 12) C (by decide) dX5_init_21 ?_
  replace h := fn_s h
  obtain ⟨N11, pN11, qN11, bN11, h⟩ := h
  replace h := fb_s h
  obtain ⟨K12, eK12, h⟩ := h
  replace h := fb_s h
  obtain ⟨M13, eM13, h⟩ := h
  refine fv_newJ C ac_long pN11 qN11 (Nat.le_trans bN11 (by decide)) (Nat.le_of_ble_eq_true rfl) (by show 24 + N11 ≤ _; exact Nat.le_trans (Nat.add_le_add_left bN11 _) (Nat.le_of_ble_eq_true rfl)) dX5_init_23 ?_
  refine fv_eqK eK12 (fv_eqM eM13 ?_)
  refine fv_widen (mc := 3) (ms := 36) (cc := ⟨#[]⟩) (own := "") (Nat.le_of_ble_eq_true rfl) (by exact Nat.add_le_add_left bN11 _) ?_
  replace h := fo_s h
  obtain ⟨a14, ea14, ka14, h⟩ := h
  replace h := fb_s h
  obtain ⟨M15, eM15, h⟩ := h
  refine fv_putFR (fin := true) C fl_RX5_18 ea14 ka14 rfl hnm (narrow_rf_a _ _) dX5_init_25 (fv_eqM eM15 ?_)
  cases h
  exact fv_vret (z := (0, 0, 0)) (st := []) C E dX5_init_28
abbrev rm_X5_priceOf : Room := { frames := 0, cells := 0, slots := 0, locals := 0 }
set_option maxRecDepth 10000 in
theorem r_X5_priceOf (l : Launch) (D : fh_D) (A : Nat → Prop) {K : fh_K} {sz : Nat} {M : fh_M} {r : Int32} {p0 : Int64} (h : f_X5_priceOf K M p0 = some r) : fh_Met l yX5_priceOf cX5_priceOf 2 (some .int) rm_X5_priceOf D K M sz A [.long p0] (some (.int r)) K M sz := by
  refine fh_enter (by decide) (by simp [lg_sl, va_rf_cat, cat_i, cat_l]) (lv := [(0, .long p0)]) (by simp [lv_args, va_rf_cat, cat_i, cat_l]) ?_
  intro X C E hnm _ _ _
  replace C : fh_C X 2 cX5_priceOf RX5 := C
  unfold f_X5_priceOf at h
  refine fv_lload_n C 0 rfl rfl dX5_priceOf_0 ?_
  refine fv_bipush (v := 23) C (by decide) dX5_priceOf_1 ?_
  refine fv_lshr C dX5_priceOf_3 ?_
  refine fv_l2i C dX5_priceOf_4 ?_
  cases h
  exact fv_iret (z := (0, 0, 0)) (st := []) C E dX5_priceOf_5
abbrev rm_X5_lengthOf : Room := { frames := 0, cells := 0, slots := 0, locals := 0 }
set_option maxRecDepth 10000 in
theorem r_X5_lengthOf (l : Launch) (D : fh_D) (A : Nat → Prop) {K : fh_K} {sz : Nat} {M : fh_M} {r : Int32} {p0 : Int64} (h : f_X5_lengthOf K M p0 = some r) : fh_Met l yX5_lengthOf cX5_lengthOf 2 (some .int) rm_X5_lengthOf D K M sz A [.long p0] (some (.int r)) K M sz := by
  refine fh_enter (by decide) (by simp [lg_sl, va_rf_cat, cat_i, cat_l]) (lv := [(0, .long p0)]) (by simp [lv_args, va_rf_cat, cat_i, cat_l]) ?_
  intro X C E hnm _ _ _
  replace C : fh_C X 2 cX5_lengthOf RX5 := C
  unfold f_X5_lengthOf at h
  refine fv_lload_n C 0 rfl rfl dX5_lengthOf_0 ?_
  refine fv_bipush (v := 20) C (by decide) dX5_lengthOf_1 ?_
  refine fv_lshr C dX5_lengthOf_3 ?_
  refine fv_l2i C dX5_lengthOf_4 ?_
  refine fv_bipush (v := 7) C (by decide) dX5_lengthOf_5 ?_
  refine fv_iand C dX5_lengthOf_7 ?_
  cases h
  exact fv_iret (z := (0, 0, 0)) (st := []) C E dX5_lengthOf_8
abbrev rm_X5_stepOf : Room := { frames := 1, cells := 0, slots := 0, locals := 21 }
set_option maxRecDepth 10000 in
theorem r_X5_stepOf (l : Launch) (D : fh_D) (A : Nat → Prop) {K : fh_K} {sz : Nat} {M : fh_M} {r : Int32} {p0 : Int64} {p2 : Int32} (h : f_X5_stepOf K M p0 p2 = some r) : fh_Met l yX5_stepOf cX5_stepOf 5 (some .int) rm_X5_stepOf D K M sz A [.long p0, .int p2] (some (.int r)) K M sz := by
  refine fh_enter (by decide) (by simp [lg_sl, va_rf_cat, cat_i, cat_l]) (lv := [(0, .long p0), (2, .int p2)]) (by simp [lv_args, va_rf_cat, cat_i, cat_l]) ?_
  intro X C E hnm _ _ _
  replace C : fh_C X 5 cX5_stepOf RX5 := C
  unfold f_X5_stepOf at h
  refine fv_lload_n C 0 rfl rfl dX5_stepOf_0 ?_
  replace h := bx h
  obtain ⟨r1, er1, h⟩ := h
  refine fv_callS [.long (p0)] C mi_X5_lengthOf lk_RX5_21 (r_X5_lengthOf _ _ _ er1) ⟨Nat.le_of_ble_eq_true rfl, Nat.le_of_ble_eq_true rfl⟩ ⟨Nat.le_of_ble_eq_true rfl, Nat.le_of_ble_eq_true rfl⟩ rfl rfl (by simp [va_rf_cat, cat_i, cat_l]) dX5_stepOf_1 ?_
  show fh_V X rm_X5_stepOf 5 (sz, 0, 0) K M _ _ [.int r1]
  refine fv_istore_n (i := 3) (lv' := [(3, .int r1), (0, .long (p0)), (2, .int p2)]) C rfl (by decide) (by first | rfl | simp [va_rf_cat]) dX5_stepOf_4 ?_
  refine fv_iload_n C 2 rfl rfl dX5_stepOf_5 ?_
  refine fv_if_lt C 14 (by decide) dX5_stepOf_6 (fun c3 => ?_) (fun c3 => ?_)
  · replace h := itT c3 h
    refine fv_iconst (v := -1) C (by decide) dX5_stepOf_14 ?_
    cases h
    exact fv_iret (z := (0, 0, 0)) (st := []) C E dX5_stepOf_15
  · replace h := itF c3 h
    refine fv_iload_n C 2 rfl rfl dX5_stepOf_9 ?_
    refine fv_iload_n C 0 rfl rfl dX5_stepOf_10 ?_
    refine fv_icmp_lt C 16 (by decide) dX5_stepOf_11 (fun c2 => ?_) (fun c2 => ?_)
    · replace h := itT c2 h
      refine fv_lload_n C 1 rfl rfl dX5_stepOf_16 ?_
      refine fv_l2i C dX5_stepOf_17 ?_
      refine fv_ldc C kc_RX5_25 dX5_stepOf_18 ?_
      refine fv_iand C dX5_stepOf_20 ?_
      refine fv_istore (i := 4) (lv' := [(4, .int ((p0.toInt32) &&& 1048575)), (3, .int r1), (0, .long (p0)), (2, .int p2)]) C (by decide) (by first | rfl | simp [va_rf_cat]) dX5_stepOf_21 ?_
      refine fv_iload C 0 rfl dX5_stepOf_23 ?_
      refine fv_iconst (v := 5) C (by decide) dX5_stepOf_25 ?_
      refine fv_iload_n C 1 rfl rfl dX5_stepOf_26 ?_
      refine fv_iconst (v := 1) C (by decide) dX5_stepOf_27 ?_
      refine fv_isub C dX5_stepOf_28 ?_
      refine fv_iload_n C 3 rfl rfl dX5_stepOf_29 ?_
      refine fv_isub C dX5_stepOf_30 ?_
      refine fv_imul C dX5_stepOf_31 ?_
      refine fv_ishr C dX5_stepOf_32 ?_
      refine fv_bipush (v := 31) C (by decide) dX5_stepOf_33 ?_
      refine fv_iand C dX5_stepOf_35 ?_
      cases h
      exact fv_iret (z := (0, 0, 0)) (st := []) C E dX5_stepOf_36
    · replace h := itF c2 h
      refine fv_iconst (v := -1) C (by decide) dX5_stepOf_14 ?_
      cases h
      exact fv_iret (z := (0, 0, 0)) (st := []) C E dX5_stepOf_15
abbrev rm_X5_extended : Room := { frames := 1, cells := 0, slots := 0, locals := 21 }
set_option maxRecDepth 10000 in
theorem r_X5_extended (l : Launch) (D : fh_D) (A : Nat → Prop) {K : fh_K} {sz : Nat} {M : fh_M} {r : Int64} {p0 : Int64} {p2 : Int32} {p3 : Int32} (h : f_X5_extended K M p0 p2 p3 = some r) : fh_Met l yX5_extended cX5_extended 10 (some .long) rm_X5_extended D K M sz A [.long p0, .int p2, .int p3] (some (.long r)) K M sz := by
  refine fh_enter (by decide) (by simp [lg_sl, va_rf_cat, cat_i, cat_l]) (lv := [(0, .long p0), (2, .int p2), (3, .int p3)]) (by simp [lv_args, va_rf_cat, cat_i, cat_l]) ?_
  intro X C E hnm _ _ _
  replace C : fh_C X 10 cX5_extended RX5 := C
  unfold f_X5_extended at h
  refine fv_lload_n C 0 rfl rfl dX5_extended_0 ?_
  refine fv_ldc2 C kl_RX5_26 dX5_extended_1 ?_
  refine fv_land C dX5_extended_4 ?_
  refine fv_iconst (v := 5) C (by decide) dX5_extended_5 ?_
  refine fv_lshl C dX5_extended_6 ?_
  refine fv_iload_n C 1 rfl rfl dX5_extended_7 ?_
  refine fv_i2l C dX5_extended_8 ?_
  refine fv_lor C dX5_extended_9 ?_
  refine fv_lstore (i := 4) (lv' := [(4, .long (((p0 &&& 1048575) <<< ((5 : Int32).toInt64 &&& 63)) ||| (p2.toInt64))), (0, .long (p0)), (2, .int p2), (3, .int p3)]) C (by decide) (by first | rfl | simp [va_rf_cat]) dX5_extended_10 ?_
  refine fv_lload_n C 1 rfl rfl dX5_extended_12 ?_
  replace h := bx h
  obtain ⟨r1, er1, h⟩ := h
  refine fv_callS [.long (p0)] C mi_X5_lengthOf lk_RX5_21 (r_X5_lengthOf _ _ _ er1) ⟨Nat.le_of_ble_eq_true rfl, Nat.le_of_ble_eq_true rfl⟩ ⟨Nat.le_of_ble_eq_true rfl, Nat.le_of_ble_eq_true rfl⟩ rfl rfl (by simp [va_rf_cat, cat_i, cat_l]) dX5_extended_13 ?_
  show fh_V X rm_X5_extended 10 (sz, 0, 0) K M _ _ [.int r1]
  refine fv_iconst (v := 1) C (by decide) dX5_extended_16 ?_
  refine fv_iadd C dX5_extended_17 ?_
  refine fv_i2l C dX5_extended_18 ?_
  refine fv_lstore (i := 6) (lv' := [(6, .long ((r1 + 1).toInt64)), (4, .long (((p0 &&& 1048575) <<< ((5 : Int32).toInt64 &&& 63)) ||| (p2.toInt64))), (0, .long (p0)), (2, .int p2), (3, .int p3)]) C (by decide) (by first | rfl | simp [va_rf_cat]) dX5_extended_19 ?_
  refine fv_lload_n C 2 rfl rfl dX5_extended_21 ?_
  replace h := bx h
  obtain ⟨r2, er2, h⟩ := h
  refine fv_callS [.long (p0)] C mi_X5_priceOf lk_RX5_28 (r_X5_priceOf _ _ _ er2) ⟨Nat.le_of_ble_eq_true rfl, Nat.le_of_ble_eq_true rfl⟩ ⟨Nat.le_of_ble_eq_true rfl, Nat.le_of_ble_eq_true rfl⟩ rfl rfl (by simp [va_rf_cat, cat_i, cat_l]) dX5_extended_22 ?_
  show fh_V X rm_X5_extended 10 (sz, 0, 0) K M _ _ [.int r2]
  refine fv_iload_n C 4 rfl rfl dX5_extended_25 ?_
  refine fv_iadd C dX5_extended_26 ?_
  refine fv_i2l C dX5_extended_27 ?_
  refine fv_lstore (i := 8) (lv' := [(8, .long ((r2 + p3).toInt64)), (6, .long ((r1 + 1).toInt64)), (4, .long (((p0 &&& 1048575) <<< ((5 : Int32).toInt64 &&& 63)) ||| (p2.toInt64))), (0, .long (p0)), (2, .int p2), (3, .int p3)]) C (by decide) (by first | rfl | simp [va_rf_cat]) dX5_extended_28 ?_
  refine fv_lload C 0 rfl dX5_extended_30 ?_
  refine fv_iconst (v := 3) C (by decide) dX5_extended_32 ?_
  refine fv_lshl C dX5_extended_33 ?_
  refine fv_lload C 1 rfl dX5_extended_34 ?_
  refine fv_lor C dX5_extended_36 ?_
  refine fv_bipush (v := 20) C (by decide) dX5_extended_37 ?_
  refine fv_lshl C dX5_extended_39 ?_
  refine fv_lload C 2 rfl dX5_extended_40 ?_
  refine fv_lor C dX5_extended_42 ?_
  cases h
  exact fv_lret (z := (0, 0, 0)) (st := []) C E dX5_extended_43
abbrev rm_X5_bestTo : Room := { frames := 0, cells := 0, slots := 0, locals := 0 }
set_option maxRecDepth 10000 in
theorem r_X5_bestTo (l : Launch) (D : fh_D) (A : Nat → Prop) {K : fh_K} {sz : Nat} {M : fh_M} {r : Int64} {t : Nat} {p1 : Int32} (h : f_X5_bestTo K M t p1 = some r) : fh_Met l yX5_bestTo cX5_bestTo 2 (some .long) rm_X5_bestTo D K M sz A [va_rf (some t), .int p1] (some (.long r)) K M sz := by
  refine fh_enter (by decide) (by simp [lg_sl, va_rf_cat, cat_i, cat_l]) (lv := [(0, va_rf (some t)), (1, .int p1)]) (by simp [lv_args, va_rf_cat, cat_i, cat_l]) ?_
  intro X C E hnm _ _ _
  replace C : fh_C X 2 cX5_bestTo RX5 := C
  unfold f_X5_bestTo at h
  refine fv_iload_n C 1 rfl rfl dX5_bestTo_0 ?_
  refine fv_if_lt C 19 (by decide) dX5_bestTo_1 (fun c4 => ?_) (fun c4 => ?_)
  · replace h := itT c4 h
    refine fv_ldc2 C kl_RX5_31 dX5_bestTo_19 ?_
    cases h
    exact fv_lret (z := (0, 0, 0)) (st := []) C E dX5_bestTo_22
  · replace h := itF c4 h
    refine fv_iload_n C 1 rfl rfl dX5_bestTo_4 ?_
    refine fv_bipush (v := 12) C (by decide) dX5_bestTo_5 ?_
    refine fv_icmp_ge C 19 (by decide) dX5_bestTo_7 (fun c3 => ?_) (fun c3 => ?_)
    · replace h := itT c3 h
      refine fv_ldc2 C kl_RX5_31 dX5_bestTo_19 ?_
      cases h
      exact fv_lret (z := (0, 0, 0)) (st := []) C E dX5_bestTo_22
    · replace h := itF c3 h
      refine fv_aload_n C 0 rfl rfl dX5_bestTo_10 ?_
      replace h := fo_s h
      obtain ⟨a1, ea1, ka1, h⟩ := h
      refine fv_getR C fl_RX5_9 ea1 ka1 dX5_bestTo_11 ?_
      refine fv_iload_n C 1 rfl rfl dX5_bestTo_14 ?_
      replace h := fi_s h
      obtain ⟨a2, ea2, ka2, ia2, h⟩ := h
      refine fv_lald C ea2 ka2 ia2 dX5_bestTo_15 ?_
      refine fv_goto C 22 (by decide) dX5_bestTo_16 ?_
      cases h
      exact fv_lret (z := (0, 0, 0)) (st := []) C E dX5_bestTo_22
abbrev rm_X9_at : Room := { frames := 0, cells := 0, slots := 0, locals := 0 }
set_option maxRecDepth 10000 in
theorem r_X9_at (l : Launch) (D : fh_D) (A : Nat → Prop) {K : fh_K} {sz : Nat} {M : fh_M} {r : Option Nat} {t : Nat} {p1 : Int32} (h : f_X9_at K M t p1 = some r) : fh_Met l yX9_at cX9_at 2 (some (.object "FileHouse$Turner")) rm_X9_at D K M sz A [va_rf (some t), .int p1] (some (va_rf r)) K M sz := by
  refine fh_enter (by decide) (by simp [lg_sl, va_rf_cat, cat_i, cat_l]) (lv := [(0, va_rf (some t)), (1, .int p1)]) (by simp [lv_args, va_rf_cat, cat_i, cat_l]) ?_
  intro X C E hnm _ _ _
  replace C : fh_C X 2 cX9_at RX9 := C
  unfold f_X9_at at h
  refine fv_iload_n C 1 rfl rfl dX9_at_0 ?_
  refine fv_if_lt C 21 (by decide) dX9_at_1 (fun c4 => ?_) (fun c4 => ?_)
  · replace h := itT c4 h
    refine fv_null C dX9_at_21 ?_
    cases h
    exact fv_aret (z := (0, 0, 0)) (st := []) C E (Or.inl ⟨_, rfl⟩) dX9_at_22
  · replace h := itF c4 h
    refine fv_iload_n C 1 rfl rfl dX9_at_4 ?_
    refine fv_aload_n C 0 rfl rfl dX9_at_5 ?_
    replace h := fo_s h
    obtain ⟨a1, ea1, ka1, h⟩ := h
    refine fv_getI C fl_RX9_17 ea1 ka1 dX9_at_6 ?_
    refine fv_icmp_ge C 21 (by decide) dX9_at_9 (fun c3 => ?_) (fun c3 => ?_)
    · replace h := itT c3 h
      refine fv_null C dX9_at_21 ?_
      cases h
      exact fv_aret (z := (0, 0, 0)) (st := []) C E (Or.inl ⟨_, rfl⟩) dX9_at_22
    · replace h := itF c3 h
      refine fv_aload_n C 0 rfl rfl dX9_at_12 ?_
      refine fv_getR C fl_RX9_11 ea1 ka1 dX9_at_13 ?_
      refine fv_iload_n C 1 rfl rfl dX9_at_16 ?_
      replace h := fi_s h
      obtain ⟨a2, ea2, ka2, ia2, h⟩ := h
      refine fv_aald (t := 19) C 6 rfl (by decide) (fun _ => rfl) ea2 ka2 ia2 dX9_at_17 ?_
      refine fv_goto C 22 (by decide) dX9_at_18 ?_
      cases h
      exact fv_aret (z := (0, 0, 0)) (st := []) C E (Or.inl ⟨_, rfl⟩) dX9_at_22
abbrev rm_X5_goOneStep : Room := { frames := 3, cells := 0, slots := 0, locals := 65 }
set_option maxRecDepth 10000 in
theorem r_X5_goOneStep_L131 {X : fh_X} {K : fh_K} {sz : Nat} {M' : fh_M} (C : fh_C X 9 cX5_goOneStep RX5) (E : fh_E X rm_X5_goOneStep none none K M' sz) : ∀ (n : Nat) (t : Nat) (v5 : Int32) (M : fh_M), f_X5_goOneStep_L131 K n t v5 M = some M' → fh_V X rm_X5_goOneStep 9 (sz, 0, 0) K M 131 [(0, va_rf (some t)), (5, .int v5)] [] := by
  intro n
  induction n with
  | zero => intro t v5 M h; cases h
  | succ n ih =>
    intro t v5 M h
    unfold f_X5_goOneStep_L131 at h
    refine fv_iload C 1 rfl dX5_goOneStep_131 ?_
    refine fv_bipush (v := 12) C (by decide) dX5_goOneStep_133 ?_
    refine fv_icmp_ge C 182 (by decide) dX5_goOneStep_135 (fun c27 => ?_) (fun c27 => ?_)
    · replace h := itT c27 h
      cases h
      exact fv_vret (z := (0, 0, 0)) (st := []) C E dX5_goOneStep_182
    · replace h := itF c27 h
      refine fv_aload_n C 0 rfl rfl dX5_goOneStep_138 ?_
      replace h := fo_s h
      obtain ⟨a20, ea20, ka20, h⟩ := h
      refine fv_getR C fl_RX5_15 ea20 ka20 dX5_goOneStep_139 ?_
      refine fv_iload C 1 rfl dX5_goOneStep_142 ?_
      refine fv_aload_n C 0 rfl rfl dX5_goOneStep_144 ?_
      refine fv_getR C fl_RX5_18 ea20 ka20 dX5_goOneStep_145 ?_
      refine fv_iload C 1 rfl dX5_goOneStep_148 ?_
      replace h := fi_s h
      obtain ⟨a21, ea21, ka21, ia21, h⟩ := h
      refine fv_lald C ea21 ka21 ia21 dX5_goOneStep_150 ?_
      replace h := fi_s h
      obtain ⟨a22, ea22, ka22, ia22, h⟩ := h
      replace h := fb_s h
      obtain ⟨M23, eM23, h⟩ := h
      refine fv_last C ea22 ka22 ia22 dX5_goOneStep_151 (fv_eqM eM23 ?_)
      refine fv_aload_n C 0 rfl rfl dX5_goOneStep_152 ?_
      refine fv_getR C fl_RX5_9 ea20 ka20 dX5_goOneStep_153 ?_
      refine fv_iload C 1 rfl dX5_goOneStep_156 ?_
      refine fv_aload_n C 0 rfl rfl dX5_goOneStep_158 ?_
      refine fv_getR C fl_RX5_9 ea20 ka20 dX5_goOneStep_159 ?_
      refine fv_iload C 1 rfl dX5_goOneStep_162 ?_
      replace h := fi_s h
      obtain ⟨a24, ea24, ka24, ia24, h⟩ := h
      refine fv_lald C ea24 ka24 ia24 dX5_goOneStep_164 ?_
      refine fv_aload_n C 0 rfl rfl dX5_goOneStep_165 ?_
      refine fv_getR C fl_RX5_18 ea20 ka20 dX5_goOneStep_166 ?_
      refine fv_iload C 1 rfl dX5_goOneStep_169 ?_
      replace h := fi_s h
      obtain ⟨a25, ea25, ka25, ia25, h⟩ := h
      refine fv_lald C ea25 ka25 ia25 dX5_goOneStep_171 ?_
      refine fv_minL C lk_RX5_92 jw_minL_static ji_Math jw_minL_code (Nat.le_of_ble_eq_true rfl) (by simp [va_rf_cat, cat_i, cat_l]) (Nat.le_of_ble_eq_true rfl) (Nat.le_of_ble_eq_true rfl) dX5_goOneStep_172 ?_
      replace h := fb_s h
      obtain ⟨M26, eM26, h⟩ := h
      refine fv_last C ea24 ka24 ia24 dX5_goOneStep_175 (fv_eqM eM26 ?_)
      refine fv_iinc (v := v5 + 1) (lv' := [(5, .int (v5 + 1)), (0, va_rf (some t))]) C 1 rfl (by first | rfl | exact congrArg _ (by decide)) (by decide) (by first | rfl | simp [va_rf_cat]) dX5_goOneStep_176 ?_
      refine fv_goto C 131 (by decide) dX5_goOneStep_179 ?_
      refine fv_sub (cc := ⟨#[]⟩) (own := "") [1, 0] rfl ?_
      exact ih _ _ _ h
set_option maxRecDepth 10000 in
theorem r_X5_goOneStep_J128 {X : fh_X} {K : fh_K} {sz : Nat} {M' : fh_M} (C : fh_C X 9 cX5_goOneStep RX5) (E : fh_E X rm_X5_goOneStep none none K M' sz) (t : Nat) (M : fh_M) (h : f_X5_goOneStep_J128 K t M = some M') : fh_V X rm_X5_goOneStep 9 (sz, 0, 0) K M 128 [(0, va_rf (some t))] [] := by
  unfold f_X5_goOneStep_J128 at h
  refine fv_iconst (v := 0) C (by decide) dX5_goOneStep_128 ?_
  refine fv_istore (i := 5) (lv' := [(5, .int 0), (0, va_rf (some t))]) C (by decide) (by first | rfl | simp [va_rf_cat]) dX5_goOneStep_129 ?_
  refine fv_sub (cc := ⟨#[]⟩) (own := "") [1, 0] rfl ?_
  exact r_X5_goOneStep_L131 C E  4096 _ _ _ h
set_option maxRecDepth 10000 in
theorem r_X5_goOneStep_J122 {X : fh_X} {K : fh_K} {sz : Nat} {M' : fh_M} (C : fh_C X 9 cX5_goOneStep RX5) (E : fh_E X rm_X5_goOneStep none none K M' sz) {rec13 : Nat → Int32 → Option Nat → Option Nat → Int32 → Int32 → fh_M → Option (fh_M)} (hrec13 : ∀ (t : Nat) (v1 : Int32) (v2 : Option Nat) (v3 : Option Nat) (v4 : Int32) (v5 : Int32) (M : fh_M), rec13 t v1 v2 v3 v4 v5 M = some M' → fh_V X rm_X5_goOneStep 9 (sz, 0, 0) K M 13 [(0, va_rf (some t)), (1, .int v1), (2, va_rf (v2)), (3, va_rf (v3)), (4, .int v4), (5, .int v5)] []) (t : Nat) (v1 : Int32) (v2 : Option Nat) (v3 : Option Nat) (v4 : Int32) (v5 : Int32) (M : fh_M) (h : f_X5_goOneStep_J122 K rec13 t v1 v2 v3 v4 v5 M = some M') : fh_V X rm_X5_goOneStep 9 (sz, 0, 0) K M 122 [(0, va_rf (some t)), (1, .int v1), (2, va_rf (v2)), (3, va_rf (v3)), (4, .int v4), (5, .int v5)] [] := by
  unfold f_X5_goOneStep_J122 at h
  refine fv_iinc (v := v5 + 1) (lv' := [(5, .int (v5 + 1)), (0, va_rf (some t)), (1, .int v1), (2, va_rf (v2)), (3, va_rf (v3)), (4, .int v4)]) C 5 rfl (by first | rfl | exact congrArg _ (by decide)) (by decide) (by first | rfl | simp [va_rf_cat]) dX5_goOneStep_122 ?_
  refine fv_goto C 13 (by decide) dX5_goOneStep_125 ?_
  refine fv_sub (cc := ⟨#[]⟩) (own := "") [1, 2, 3, 4, 5, 0] rfl ?_
  exact hrec13 _ _ _ _ _ _ _ h
set_option maxRecDepth 10000 in
theorem r_X5_goOneStep_L13 {X : fh_X} {K : fh_K} {sz : Nat} {M' : fh_M} (C : fh_C X 9 cX5_goOneStep RX5) (E : fh_E X rm_X5_goOneStep none none K M' sz) : ∀ (n : Nat) (t : Nat) (v1 : Int32) (v2 : Option Nat) (v3 : Option Nat) (v4 : Int32) (v5 : Int32) (M : fh_M), f_X5_goOneStep_L13 K n t v1 v2 v3 v4 v5 M = some M' → fh_V X rm_X5_goOneStep 9 (sz, 0, 0) K M 13 [(0, va_rf (some t)), (1, .int v1), (2, va_rf (v2)), (3, va_rf (v3)), (4, .int v4), (5, .int v5)] [] := by
  intro n
  induction n with
  | zero => intro t v1 v2 v3 v4 v5 M h; cases h
  | succ n ih =>
    intro t v1 v2 v3 v4 v5 M h
    unfold f_X5_goOneStep_L13 at h
    refine fv_iload C 5 rfl dX5_goOneStep_13 ?_
    refine fv_aload_n C 2 rfl rfl dX5_goOneStep_15 ?_
    replace h := fo_s h
    obtain ⟨a4, ea4, ka4, h⟩ := h
    refine fv_getI C fl_RX5_55 ea4 ka4 dX5_goOneStep_16 ?_
    refine fv_icmp_ge C 128 (by decide) dX5_goOneStep_19 (fun c19 => ?_) (fun c19 => ?_)
    · replace h := itT c19 h
      refine fv_sub (cc := ⟨#[]⟩) (own := "") [0] rfl ?_
      exact r_X5_goOneStep_J128 C E  _ _ h
    · replace h := itF c19 h
      refine fv_aload_n C 2 rfl rfl dX5_goOneStep_22 ?_
      refine fv_iload C 5 rfl dX5_goOneStep_23 ?_
      replace h := bx h
      obtain ⟨r5, er5, h⟩ := h
      refine fv_callV [.int v5] C mi_X9_at ms_X9_at lk_RX5_60 ea4 ka4 (r_X9_at _ _ _ er5) ⟨Nat.le_of_ble_eq_true rfl, Nat.le_of_ble_eq_true rfl⟩ ⟨Nat.le_of_ble_eq_true rfl, Nat.le_of_ble_eq_true rfl⟩ rfl rfl (by simp [va_rf_cat, cat_i, cat_l]) dX5_goOneStep_25 ?_
      show fh_V X rm_X5_goOneStep 9 (sz, 0, 0) K M _ _ [va_rf (r5)]
      refine fv_astore (i := 6) (lv' := [(6, va_rf (r5)), (0, va_rf (some t)), (1, .int v1), (2, va_rf (v2)), (3, va_rf (v3)), (4, .int v4), (5, .int v5)]) C (by decide) (by first | rfl | simp [va_rf_cat]) dX5_goOneStep_28 ?_
      refine fv_aload C 0 rfl dX5_goOneStep_30 ?_
      refine fv_ifnull C 122 (by decide) dX5_goOneStep_32 (fun c18 => ?_) (fun c18 => ?_)
      · replace h := itT c18 h
        refine fv_sub (cc := ⟨#[]⟩) (own := "") [1, 2, 3, 4, 5, 6] rfl ?_
        exact r_X5_goOneStep_J122 C E ih _ _ _ _ _ _ _ h
      · replace h := itF c18 h
        refine fv_aload_n C 1 rfl rfl dX5_goOneStep_35 ?_
        replace h := fo_s h
        obtain ⟨a6, ea6, ka6, h⟩ := h
        refine fv_getR C fl_RX5_15 ea6 ka6 dX5_goOneStep_36 ?_
        refine fv_aload C 0 rfl dX5_goOneStep_39 ?_
        replace h := fo_s h
        obtain ⟨a7, ea7, ka7, h⟩ := h
        refine fv_getI C fl_RX5_64 ea7 ka7 dX5_goOneStep_41 ?_
        replace h := fi_s h
        obtain ⟨a8, ea8, ka8, ia8, h⟩ := h
        refine fv_lald C ea8 ka8 ia8 dX5_goOneStep_44 ?_
        refine fv_ldc2 C kl_RX5_31 dX5_goOneStep_45 ?_
        refine fv_lcmp C dX5_goOneStep_48 ?_
        refine fv_if_eq C 122 (by decide) dX5_goOneStep_49 (fun c17 => ?_) (fun c17 => ?_)
        · replace h := itT c17 h
          refine fv_sub (cc := ⟨#[]⟩) (own := "") [1, 2, 3, 4, 5, 6] rfl ?_
          exact r_X5_goOneStep_J122 C E ih _ _ _ _ _ _ _ h
        · replace h := itF c17 h
          refine fv_aload C 0 rfl dX5_goOneStep_52 ?_
          refine fv_iload_n C 2 rfl rfl dX5_goOneStep_54 ?_
          replace h := bx h
          obtain ⟨r9, er9, h⟩ := h
          refine fv_callV [.int v1] C mi_X8_carriesAll ms_X8_carriesAll lk_RX5_69 ea7 ka7 (r_X8_carriesAll _ _ _ er9) ⟨Nat.le_of_ble_eq_true rfl, Nat.le_of_ble_eq_true rfl⟩ ⟨Nat.le_of_ble_eq_true rfl, Nat.le_of_ble_eq_true rfl⟩ rfl rfl (by simp [va_rf_cat, cat_i, cat_l]) dX5_goOneStep_55 ?_
          show fh_V X rm_X5_goOneStep 9 (sz, 0, 0) K M _ _ [.int r9]
          refine fv_if_eq C 122 (by decide) dX5_goOneStep_58 (fun c16 => ?_) (fun c16 => ?_)
          · replace h := itT c16 h
            refine fv_sub (cc := ⟨#[]⟩) (own := "") [1, 2, 3, 4, 5, 6] rfl ?_
            exact r_X5_goOneStep_J122 C E ih _ _ _ _ _ _ _ h
          · replace h := itF c16 h
            refine fv_aload_n C 4 rfl rfl dX5_goOneStep_61 ?_
            refine fv_aload C 0 rfl dX5_goOneStep_62 ?_
            refine fv_getI C fl_RX5_73 ea7 ka7 dX5_goOneStep_64 ?_
            refine fv_iload C 5 rfl dX5_goOneStep_67 ?_
            replace h := fo_s h
            obtain ⟨a10, ea10, ka10, h⟩ := h
            replace h := bx h
            obtain ⟨r11, er11, h⟩ := h
            refine fv_callV [.int (M.1 a7 4), .int v4] C mi_X1_liveSurely ms_X1_liveSurely lk_RX5_76 ea10 ka10 (r_X1_liveSurely _ _ _ er11) ⟨Nat.le_of_ble_eq_true rfl, Nat.le_of_ble_eq_true rfl⟩ ⟨Nat.le_of_ble_eq_true rfl, Nat.le_of_ble_eq_true rfl⟩ rfl rfl (by simp [va_rf_cat, cat_i, cat_l]) dX5_goOneStep_69 ?_
            show fh_V X rm_X5_goOneStep 9 (sz, 0, 0) K M _ _ [.int r11]
            refine fv_if_eq C 122 (by decide) dX5_goOneStep_72 (fun c15 => ?_) (fun c15 => ?_)
            · replace h := itT c15 h
              refine fv_sub (cc := ⟨#[]⟩) (own := "") [1, 2, 3, 4, 5, 6] rfl ?_
              exact r_X5_goOneStep_J122 C E ih _ _ _ _ _ _ _ h
            · replace h := itF c15 h
              refine fv_aload_n C 1 rfl rfl dX5_goOneStep_75 ?_
              refine fv_getR C fl_RX5_15 ea6 ka6 dX5_goOneStep_76 ?_
              refine fv_aload C 0 rfl dX5_goOneStep_79 ?_
              refine fv_getI C fl_RX5_64 ea7 ka7 dX5_goOneStep_81 ?_
              refine fv_lald C ea8 ka8 ia8 dX5_goOneStep_84 ?_
              refine fv_iload C 6 rfl dX5_goOneStep_85 ?_
              refine fv_aload C 0 rfl dX5_goOneStep_87 ?_
              refine fv_getI C fl_RX5_82 ea7 ka7 dX5_goOneStep_89 ?_
              replace h := bx h
              obtain ⟨r12, er12, h⟩ := h
              refine fv_callS [.long (M.2.1 a8 (M.1 a7 0).toNatClampNeg), .int v5, .int (M.1 a7 3)] C mi_X5_extended lk_RX5_85 (r_X5_extended _ _ _ er12) ⟨Nat.le_of_ble_eq_true rfl, Nat.le_of_ble_eq_true rfl⟩ ⟨Nat.le_of_ble_eq_true rfl, Nat.le_of_ble_eq_true rfl⟩ rfl rfl (by simp [va_rf_cat, cat_i, cat_l]) dX5_goOneStep_92 ?_
              show fh_V X rm_X5_goOneStep 9 (sz, 0, 0) K M _ _ [.long (r12)]
              refine fv_lstore (i := 7) (lv' := [(7, .long (r12)), (6, va_rf (r5)), (0, va_rf (some t)), (1, .int v1), (2, va_rf (v2)), (3, va_rf (v3)), (4, .int v4), (5, .int v5)]) C (by decide) (by first | rfl | simp [va_rf_cat]) dX5_goOneStep_95 ?_
              refine fv_aload_n C 2 rfl rfl dX5_goOneStep_97 ?_
              refine fv_getR C fl_RX5_18 ea6 ka6 dX5_goOneStep_98 ?_
              refine fv_aload C 1 rfl dX5_goOneStep_101 ?_
              refine fv_getI C fl_RX5_89 ea7 ka7 dX5_goOneStep_103 ?_
              refine fv_aload_n C 2 rfl rfl dX5_goOneStep_106 ?_
              refine fv_getR C fl_RX5_18 ea6 ka6 dX5_goOneStep_107 ?_
              refine fv_aload C 1 rfl dX5_goOneStep_110 ?_
              refine fv_getI C fl_RX5_89 ea7 ka7 dX5_goOneStep_112 ?_
              replace h := fi_s h
              obtain ⟨a13, ea13, ka13, ia13, h⟩ := h
              refine fv_lald C ea13 ka13 ia13 dX5_goOneStep_115 ?_
              refine fv_lload C 0 rfl dX5_goOneStep_116 ?_
              refine fv_minL C lk_RX5_92 jw_minL_static ji_Math jw_minL_code (Nat.le_of_ble_eq_true rfl) (by simp [va_rf_cat, cat_i, cat_l]) (Nat.le_of_ble_eq_true rfl) (Nat.le_of_ble_eq_true rfl) dX5_goOneStep_118 ?_
              replace h := fb_s h
              obtain ⟨M14, eM14, h⟩ := h
              refine fv_last C ea13 ka13 ia13 dX5_goOneStep_121 (fv_eqM eM14 ?_)
              refine fv_sub (cc := ⟨#[]⟩) (own := "") [2, 3, 4, 5, 6, 7] rfl ?_
              exact r_X5_goOneStep_J122 C E ih _ _ _ _ _ _ _ h
set_option maxRecDepth 10000 in
theorem r_X5_goOneStep (l : Launch) (D : fh_D) (A : Nat → Prop) {K : fh_K} {sz : Nat} {M : fh_M} {M' : fh_M} {t : Nat} {p1 : Int32} {p2 : Option Nat} {p3 : Option Nat} {p4 : Int32} (h : f_X5_goOneStep K M t p1 p2 p3 p4 = some M') : fh_Met l yX5_goOneStep cX5_goOneStep 9 none rm_X5_goOneStep D K M sz A [va_rf (some t), .int p1, va_rf p2, va_rf p3, .int p4] none K M' sz := by
  refine fh_enter (by decide) (by simp [lg_sl, va_rf_cat, cat_i, cat_l]) (lv := [(0, va_rf (some t)), (1, .int p1), (2, va_rf p2), (3, va_rf p3), (4, .int p4)]) (by simp [lv_args, va_rf_cat, cat_i, cat_l]) ?_
  intro X C E hnm _ _ _
  replace C : fh_C X 9 cX5_goOneStep RX5 := C
  unfold f_X5_goOneStep at h
  refine fv_aload_n C 0 rfl rfl dX5_goOneStep_0 ?_
  replace h := fo_s h
  obtain ⟨a1, ea1, ka1, h⟩ := h
  refine fv_getR C fl_RX5_18 ea1 ka1 dX5_goOneStep_1 ?_
  refine fv_ldc2 C kl_RX5_31 dX5_goOneStep_4 ?_
  replace h := bx h
  obtain ⟨M3, er2, h⟩ := h
  refine fv_callS [va_rf (M.2.2 a1 2), .long (9223372036854775807)] C mi_J7_fill_d0a16 lk_RX5_33 (r_J7_fill_d0a16 _ _ _ er2) ⟨Nat.le_of_ble_eq_true rfl, Nat.le_of_ble_eq_true rfl⟩ ⟨Nat.le_of_ble_eq_true rfl, Nat.le_of_ble_eq_true rfl⟩ rfl rfl (by simp [va_rf_cat, cat_i, cat_l]) dX5_goOneStep_7 ?_
  show fh_V X rm_X5_goOneStep 9 (sz, 0, 0) K M3 _ _ []
  refine fv_iconst (v := 0) C (by decide) dX5_goOneStep_10 ?_
  refine fv_istore (i := 5) (lv' := [(5, .int 0), (0, va_rf (some t)), (1, .int p1), (2, va_rf (p2)), (3, va_rf (p3)), (4, .int p4)]) C (by decide) (by first | rfl | simp [va_rf_cat]) dX5_goOneStep_11 ?_
  refine fv_sub (cc := ⟨#[]⟩) (own := "") [1, 2, 3, 4, 5, 0] rfl ?_
  exact r_X5_goOneStep_L13 C E  4096 _ _ _ _ _ _ _ h
abbrev rm_X5_search : Room := { frames := 4, cells := 0, slots := 0, locals := 93 }
set_option maxRecDepth 10000 in
theorem r_X5_search_L69 {X : fh_X} {K : fh_K} {sz : Nat} {M' : fh_M} (C : fh_C X 8 cX5_search RX5) (E : fh_E X rm_X5_search none none K M' sz) : ∀ (n : Nat) (t : Nat) (v2 : Option Nat) (v3 : Option Nat) (v4 : Int32) (v6 : Int32) (v7 : Int32) (M : fh_M), f_X5_search_L69 K n t v2 v3 v4 v6 v7 M = some M' → fh_V X rm_X5_search 8 (sz, 0, 0) K M 69 [(0, va_rf (some t)), (2, va_rf (v2)), (3, va_rf (v3)), (4, .int v4), (6, .int v6), (7, .int v7)] [] := by
  intro n
  induction n with
  | zero => intro t v2 v3 v4 v6 v7 M h; cases h
  | succ n ih =>
    intro t v2 v3 v4 v6 v7 M h
    unfold f_X5_search_L69 at h
    refine fv_iload C 5 rfl dX5_search_69 ?_
    refine fv_iconst (v := 4) C (by decide) dX5_search_71 ?_
    refine fv_icmp_gt C 91 (by decide) dX5_search_72 (fun c16 => ?_) (fun c16 => ?_)
    · replace h := itT c16 h
      cases h
      exact fv_vret (z := (0, 0, 0)) (st := []) C E dX5_search_91
    · replace h := itF c16 h
      refine fv_aload_n C 0 rfl rfl dX5_search_75 ?_
      refine fv_iload C 4 rfl dX5_search_76 ?_
      refine fv_aload_n C 1 rfl rfl dX5_search_78 ?_
      refine fv_aload_n C 2 rfl rfl dX5_search_79 ?_
      refine fv_iload C 3 rfl dX5_search_80 ?_
      replace h := fo_s h
      obtain ⟨a13, ea13, ka13, h⟩ := h
      replace h := bx h
      obtain ⟨M15, er14, h⟩ := h
      refine fv_callV [.int v6, va_rf (v2), va_rf (v3), .int v4] C mi_X5_goOneStep ms_X5_goOneStep lk_RX5_51 ea13 ka13 (r_X5_goOneStep _ _ _ er14) ⟨Nat.le_of_ble_eq_true rfl, Nat.le_of_ble_eq_true rfl⟩ ⟨Nat.le_of_ble_eq_true rfl, Nat.le_of_ble_eq_true rfl⟩ rfl rfl (by simp [va_rf_cat, cat_i, cat_l]) dX5_search_82 ?_
      show fh_V X rm_X5_search 8 (sz, 0, 0) K M15 _ _ []
      refine fv_iinc (v := v7 + 1) (lv' := [(7, .int (v7 + 1)), (0, va_rf (some t)), (2, va_rf (v2)), (3, va_rf (v3)), (4, .int v4), (6, .int v6)]) C 5 rfl (by first | rfl | exact congrArg _ (by decide)) (by decide) (by first | rfl | simp [va_rf_cat]) dX5_search_85 ?_
      refine fv_goto C 69 (by decide) dX5_search_88 ?_
      refine fv_sub (cc := ⟨#[]⟩) (own := "") [1, 2, 3, 4, 5, 0] rfl ?_
      exact ih _ _ _ _ _ _ _ h
set_option maxRecDepth 10000 in
theorem r_X5_search (l : Launch) (D : fh_D) (A : Nat → Prop) {K : fh_K} {sz : Nat} {M : fh_M} {M' : fh_M} {t : Nat} {p1 : Option Nat} {p2 : Option Nat} {p3 : Option Nat} {p4 : Int32} (h : f_X5_search K M t p1 p2 p3 p4 = some M') : fh_Met l yX5_search cX5_search 8 none rm_X5_search D K M sz A [va_rf (some t), va_rf p1, va_rf p2, va_rf p3, .int p4] none K M' sz := by
  refine fh_enter (by decide) (by simp [lg_sl, va_rf_cat, cat_i, cat_l]) (lv := [(0, va_rf (some t)), (1, va_rf p1), (2, va_rf p2), (3, va_rf p3), (4, .int p4)]) (by simp [lv_args, va_rf_cat, cat_i, cat_l]) ?_
  intro X C E hnm _ _ _
  replace C : fh_C X 8 cX5_search RX5 := C
  unfold f_X5_search at h
  refine fv_aload_n C 0 rfl rfl dX5_search_0 ?_
  replace h := fo_s h
  obtain ⟨a1, ea1, ka1, h⟩ := h
  refine fv_getR C fl_RX5_9 ea1 ka1 dX5_search_1 ?_
  refine fv_ldc2 C kl_RX5_31 dX5_search_4 ?_
  replace h := bx h
  obtain ⟨M3, er2, h⟩ := h
  refine fv_callS [va_rf (M.2.2 a1 0), .long (9223372036854775807)] C mi_J7_fill_d0a16 lk_RX5_33 (r_J7_fill_d0a16 _ _ _ er2) ⟨Nat.le_of_ble_eq_true rfl, Nat.le_of_ble_eq_true rfl⟩ ⟨Nat.le_of_ble_eq_true rfl, Nat.le_of_ble_eq_true rfl⟩ rfl rfl (by simp [va_rf_cat, cat_i, cat_l]) dX5_search_7 ?_
  show fh_V X rm_X5_search 8 (sz, 0, 0) K M3 _ _ []
  refine fv_aload_n C 0 rfl rfl dX5_search_10 ?_
  refine fv_getR C fl_RX5_15 ea1 ka1 dX5_search_11 ?_
  refine fv_ldc2 C kl_RX5_31 dX5_search_14 ?_
  replace h := bx h
  obtain ⟨M5, er4, h⟩ := h
  refine fv_callS [va_rf (M3.2.2 a1 1), .long (9223372036854775807)] C mi_J7_fill_d0a16 lk_RX5_33 (r_J7_fill_d0a16 _ _ _ er4) ⟨Nat.le_of_ble_eq_true rfl, Nat.le_of_ble_eq_true rfl⟩ ⟨Nat.le_of_ble_eq_true rfl, Nat.le_of_ble_eq_true rfl⟩ rfl rfl (by simp [va_rf_cat, cat_i, cat_l]) dX5_search_17 ?_
  show fh_V X rm_X5_search 8 (sz, 0, 0) K M5 _ _ []
  refine fv_aload_n C 1 rfl rfl dX5_search_20 ?_
  replace h := fo_s h
  obtain ⟨a6, ea6, ka6, h⟩ := h
  refine fv_getI C fl_RX5_39 ea6 ka6 dX5_search_21 ?_
  refine fv_istore (i := 5) (lv' := [(5, .int (M5.1 a6 5)), (0, va_rf (some t)), (1, va_rf (p1)), (2, va_rf (p2)), (3, va_rf (p3)), (4, .int p4)]) C (by decide) (by first | rfl | simp [va_rf_cat]) dX5_search_24 ?_
  refine fv_iload C 0 rfl dX5_search_26 ?_
  refine fv_if_lt C 38 (by decide) dX5_search_28 (fun c12 => ?_) (fun c12 => ?_)
  · replace h := itT c12 h
    cases h
    exact fv_vret (z := (0, 0, 0)) (st := []) C E dX5_search_38
  · replace h := itF c12 h
    refine fv_iload C 0 rfl dX5_search_31 ?_
    refine fv_bipush (v := 12) C (by decide) dX5_search_33 ?_
    refine fv_icmp_lt C 39 (by decide) dX5_search_35 (fun c11 => ?_) (fun c11 => ?_)
    · replace h := itT c11 h
      refine fv_aload_n C 1 rfl rfl dX5_search_39 ?_
      refine fv_getR C fl_RX5_9 ea1 ka1 dX5_search_40 ?_
      refine fv_iload C 0 rfl dX5_search_43 ?_
      refine fv_lconst (v := 0) C (by decide) dX5_search_45 ?_
      replace h := fi_s h
      obtain ⟨a7, ea7, ka7, ia7, h⟩ := h
      replace h := fb_s h
      obtain ⟨M8, eM8, h⟩ := h
      refine fv_last C ea7 ka7 ia7 dX5_search_46 (fv_eqM eM8 ?_)
      refine fv_aload_n C 1 rfl rfl dX5_search_47 ?_
      refine fv_getR C fl_RX5_15 ea1 ka1 dX5_search_48 ?_
      refine fv_iload C 0 rfl dX5_search_51 ?_
      refine fv_lconst (v := 0) C (by decide) dX5_search_53 ?_
      replace h := fi_s h
      obtain ⟨a9, ea9, ka9, ia9, h⟩ := h
      replace h := fb_s h
      obtain ⟨M10, eM10, h⟩ := h
      refine fv_last C ea9 ka9 ia9 dX5_search_54 (fv_eqM eM10 ?_)
      refine fv_aload_n C 2 rfl rfl dX5_search_55 ?_
      refine fv_getI C fl_RX5_45 ea6 ka6 dX5_search_56 ?_
      refine fv_aload_n C 2 rfl rfl dX5_search_59 ?_
      refine fv_getI C fl_RX5_48 ea6 ka6 dX5_search_60 ?_
      refine fv_iand C dX5_search_63 ?_
      refine fv_istore (i := 6) (lv' := [(6, .int ((M10.1 a6 4) &&& (M10.1 a6 7))), (5, .int (M5.1 a6 5)), (0, va_rf (some t)), (1, va_rf (p1)), (2, va_rf (p2)), (3, va_rf (p3)), (4, .int p4)]) C (by decide) (by first | rfl | simp [va_rf_cat]) dX5_search_64 ?_
      refine fv_iconst (v := 1) C (by decide) dX5_search_66 ?_
      refine fv_istore (i := 7) (lv' := [(7, .int 1), (6, .int ((M10.1 a6 4) &&& (M10.1 a6 7))), (5, .int (M5.1 a6 5)), (0, va_rf (some t)), (1, va_rf (p1)), (2, va_rf (p2)), (3, va_rf (p3)), (4, .int p4)]) C (by decide) (by first | rfl | simp [va_rf_cat]) dX5_search_67 ?_
      refine fv_sub (cc := ⟨#[]⟩) (own := "") [3, 5, 6, 7, 1, 0] rfl ?_
      exact r_X5_search_L69 C E  4096 _ _ _ _ _ _ _ h
    · replace h := itF c11 h
      cases h
      exact fv_vret (z := (0, 0, 0)) (st := []) C E dX5_search_38
abbrev rm_X6_init : Room := { frames := 1, cells := 2, slots := 24, locals := 24 }
set_option maxRecDepth 10000 in
theorem r_X6_init (l : Launch) (D : fh_D) (A : Nat → Prop) {K : fh_K} {sz : Nat} {M : fh_M} {M' : fh_M} {K' : fh_K} {sz' : Nat} {t : Nat} (h : f_X6_init sz K M t = some (sz', K', M')) : fh_Met l yX6_init cX6_init 1 none rm_X6_init D K M sz A [va_rf (some t)] none K' M' sz' := by
  refine fh_enter (by decide) (by simp [lg_sl, va_rf_cat, cat_i, cat_l]) (lv := [(0, va_rf (some t))]) (by simp [lv_args, va_rf_cat, cat_i, cat_l]) ?_
  intro X C E hnm _ _ _
  replace C : fh_C X 1 cX6_init RX6 := C
  unfold f_X6_init at h
  refine fv_aload_n C 0 rfl rfl dX6_init_0 ?_
  refine fv_objInit C lk_RX6_3 jw_oi_instanceMethod jw_oi_code (Nat.le_of_ble_eq_true rfl) (by simp [va_rf_cat, cat_i, cat_l]) dX6_init_1 ?_
  refine fv_aload_n C 0 rfl rfl dX6_init_4 ?_
  refine fv_bipush (v := 12) C (by decide) dX6_init_5 ?_
  replace h := fn_s h
  obtain ⟨N1, pN1, qN1, bN1, h⟩ := h
  replace h := fb_s h
  obtain ⟨K2, eK2, h⟩ := h
  replace h := fb_s h
  obtain ⟨M3, eM3, h⟩ := h
  refine fv_newI C ac_int pN1 qN1 (Nat.le_trans bN1 (by decide)) (Nat.le_of_ble_eq_true rfl) (by show 0 + N1 ≤ _; exact Nat.le_trans (Nat.add_le_add_left bN1 _) (Nat.le_of_ble_eq_true rfl)) dX6_init_7 ?_
  refine fv_eqK eK2 (fv_eqM eM3 ?_)
  refine fv_widen (mc := 1) (ms := 12) (cc := ⟨#[]⟩) (own := "") (Nat.le_of_ble_eq_true rfl) (by exact Nat.add_le_add_left bN1 _) ?_
  replace h := fo_s h
  obtain ⟨a4, ea4, ka4, h⟩ := h
  replace h := fb_s h
  obtain ⟨M5, eM5, h⟩ := h
  refine fv_putFR (fin := true) C fl_RX6_9 ea4 ka4 rfl hnm (narrow_rf_a _ _) dX6_init_9 (fv_eqM eM5 ?_)
  refine fv_aload_n C 0 rfl rfl dX6_init_12 ?_
  refine fv_bipush (v := 12) C (by decide) dX6_init_13 ?_
  replace h := fn_s h
  obtain ⟨N6, pN6, qN6, bN6, h⟩ := h
  replace h := fb_s h
  obtain ⟨K7, eK7, h⟩ := h
  replace h := fb_s h
  obtain ⟨M8, eM8, h⟩ := h
  refine fv_newI C ac_int pN6 qN6 (Nat.le_trans bN6 (by decide)) (Nat.le_of_ble_eq_true rfl) (by show 12 + N6 ≤ _; exact Nat.le_trans (Nat.add_le_add_left bN6 _) (Nat.le_of_ble_eq_true rfl)) dX6_init_15 ?_
  refine fv_eqK eK7 (fv_eqM eM8 ?_)
  refine fv_widen (mc := 2) (ms := 24) (cc := ⟨#[]⟩) (own := "") (Nat.le_of_ble_eq_true rfl) (by exact Nat.add_le_add_left bN6 _) ?_
  replace h := fo_s h
  obtain ⟨a9, ea9, ka9, h⟩ := h
  replace h := fb_s h
  obtain ⟨M10, eM10, h⟩ := h
  refine fv_putFR (fin := true) C fl_RX6_15 ea9 ka9 rfl hnm (narrow_rf_a _ _) dX6_init_17 (fv_eqM eM10 ?_)
  cases h
  exact fv_vret (z := (0, 0, 0)) (st := []) C E dX6_init_20
abbrev rm_X6_goOneStepBack : Room := { frames := 2, cells := 0, slots := 0, locals := 60 }
set_option maxRecDepth 10000 in
theorem r_X6_goOneStepBack_J96 {X : fh_X} {K : fh_K} {sz : Nat} {M' : fh_M} (C : fh_C X 7 cX6_goOneStepBack RX6) (E : fh_E X rm_X6_goOneStepBack none none K M' sz) (t : Nat) (M : fh_M) (h : f_X6_goOneStepBack_J96 K t M = some M') : fh_V X rm_X6_goOneStepBack 7 (sz, 0, 0) K M 96 [(0, va_rf (some t))] [] := by
  unfold f_X6_goOneStepBack_J96 at h
  refine fv_aload_n C 0 rfl rfl dX6_goOneStepBack_96 ?_
  replace h := fo_s h
  obtain ⟨a17, ea17, ka17, h⟩ := h
  refine fv_getR C fl_RX6_15 ea17 ka17 dX6_goOneStepBack_97 ?_
  refine fv_iconst (v := 0) C (by decide) dX6_goOneStepBack_100 ?_
  refine fv_aload_n C 0 rfl rfl dX6_goOneStepBack_101 ?_
  refine fv_getR C fl_RX6_9 ea17 ka17 dX6_goOneStepBack_102 ?_
  refine fv_iconst (v := 0) C (by decide) dX6_goOneStepBack_105 ?_
  refine fv_bipush (v := 12) C (by decide) dX6_goOneStepBack_106 ?_
  replace h := fq_s h
  obtain ⟨a18, a19, ea18, ea19, q20, h⟩ := h
  replace h := fb_s h
  obtain ⟨M21, eM21, h⟩ := h
  refine fv_copy C lk_RX6_52 jw_copy_native jw_copy_static ji_System ea18 ea19 q20.1 q20.2.1 q20.2.2.1 q20.2.2.2.1 q20.2.2.2.2.1 q20.2.2.2.2.2.1 q20.2.2.2.2.2.2 (by decide) (by simp [va_rf_cat, cat_i, cat_l, nativeFrameWords]) dX6_goOneStepBack_108 (fv_eqM eM21 ?_)
  cases h
  exact fv_vret (z := (0, 0, 0)) (st := []) C E dX6_goOneStepBack_111
set_option maxRecDepth 10000 in
theorem r_X6_goOneStepBack_J90 {X : fh_X} {K : fh_K} {sz : Nat} {M' : fh_M} (C : fh_C X 7 cX6_goOneStepBack RX6) (E : fh_E X rm_X6_goOneStepBack none none K M' sz) {rec18 : Nat → Option Nat → Option Nat → Int32 → Int32 → fh_M → Option (fh_M)} (hrec18 : ∀ (t : Nat) (v1 : Option Nat) (v2 : Option Nat) (v3 : Int32) (v4 : Int32) (M : fh_M), rec18 t v1 v2 v3 v4 M = some M' → fh_V X rm_X6_goOneStepBack 7 (sz, 0, 0) K M 18 [(0, va_rf (some t)), (1, va_rf (v1)), (2, va_rf (v2)), (3, .int v3), (4, .int v4)] []) (t : Nat) (v1 : Option Nat) (v2 : Option Nat) (v3 : Int32) (v4 : Int32) (M : fh_M) (h : f_X6_goOneStepBack_J90 K rec18 t v1 v2 v3 v4 M = some M') : fh_V X rm_X6_goOneStepBack 7 (sz, 0, 0) K M 90 [(0, va_rf (some t)), (1, va_rf (v1)), (2, va_rf (v2)), (3, .int v3), (4, .int v4)] [] := by
  unfold f_X6_goOneStepBack_J90 at h
  refine fv_iinc (v := v4 + 1) (lv' := [(4, .int (v4 + 1)), (0, va_rf (some t)), (1, va_rf (v1)), (2, va_rf (v2)), (3, .int v3)]) C 4 rfl (by first | rfl | exact congrArg _ (by decide)) (by decide) (by first | rfl | simp [va_rf_cat]) dX6_goOneStepBack_90 ?_
  refine fv_goto C 18 (by decide) dX6_goOneStepBack_93 ?_
  refine fv_sub (cc := ⟨#[]⟩) (own := "") [1, 2, 3, 4, 0] rfl ?_
  exact hrec18 _ _ _ _ _ _ h
set_option maxRecDepth 10000 in
theorem r_X6_goOneStepBack_L18 {X : fh_X} {K : fh_K} {sz : Nat} {M' : fh_M} (C : fh_C X 7 cX6_goOneStepBack RX6) (E : fh_E X rm_X6_goOneStepBack none none K M' sz) : ∀ (n : Nat) (t : Nat) (v1 : Option Nat) (v2 : Option Nat) (v3 : Int32) (v4 : Int32) (M : fh_M), f_X6_goOneStepBack_L18 K n t v1 v2 v3 v4 M = some M' → fh_V X rm_X6_goOneStepBack 7 (sz, 0, 0) K M 18 [(0, va_rf (some t)), (1, va_rf (v1)), (2, va_rf (v2)), (3, .int v3), (4, .int v4)] [] := by
  intro n
  induction n with
  | zero => intro t v1 v2 v3 v4 M h; cases h
  | succ n ih =>
    intro t v1 v2 v3 v4 M h
    unfold f_X6_goOneStepBack_L18 at h
    refine fv_iload C 4 rfl dX6_goOneStepBack_18 ?_
    refine fv_aload_n C 1 rfl rfl dX6_goOneStepBack_20 ?_
    replace h := fo_s h
    obtain ⟨a6, ea6, ka6, h⟩ := h
    refine fv_getI C fl_RX6_58 ea6 ka6 dX6_goOneStepBack_21 ?_
    refine fv_icmp_ge C 96 (by decide) dX6_goOneStepBack_24 (fun c16 => ?_) (fun c16 => ?_)
    · replace h := itT c16 h
      refine fv_sub (cc := ⟨#[]⟩) (own := "") [0] rfl ?_
      exact r_X6_goOneStepBack_J96 C E  _ _ h
    · replace h := itF c16 h
      refine fv_aload_n C 1 rfl rfl dX6_goOneStepBack_27 ?_
      refine fv_iload C 4 rfl dX6_goOneStepBack_28 ?_
      replace h := bx h
      obtain ⟨r7, er7, h⟩ := h
      refine fv_callV [.int v4] C mi_X9_at ms_X9_at lk_RX6_61 ea6 ka6 (r_X9_at _ _ _ er7) ⟨Nat.le_of_ble_eq_true rfl, Nat.le_of_ble_eq_true rfl⟩ ⟨Nat.le_of_ble_eq_true rfl, Nat.le_of_ble_eq_true rfl⟩ rfl rfl (by simp [va_rf_cat, cat_i, cat_l]) dX6_goOneStepBack_30 ?_
      show fh_V X rm_X6_goOneStepBack 7 (sz, 0, 0) K M _ _ [va_rf (r7)]
      refine fv_astore (i := 5) (lv' := [(5, va_rf (r7)), (0, va_rf (some t)), (1, va_rf (v1)), (2, va_rf (v2)), (3, .int v3), (4, .int v4)]) C (by decide) (by first | rfl | simp [va_rf_cat]) dX6_goOneStepBack_33 ?_
      refine fv_aload C 0 rfl dX6_goOneStepBack_35 ?_
      refine fv_ifnull C 90 (by decide) dX6_goOneStepBack_37 (fun c15 => ?_) (fun c15 => ?_)
      · replace h := itT c15 h
        refine fv_sub (cc := ⟨#[]⟩) (own := "") [1, 2, 3, 4, 5] rfl ?_
        exact r_X6_goOneStepBack_J90 C E ih _ _ _ _ _ _ h
      · replace h := itF c15 h
        refine fv_aload_n C 3 rfl rfl dX6_goOneStepBack_40 ?_
        refine fv_aload C 0 rfl dX6_goOneStepBack_41 ?_
        replace h := fo_s h
        obtain ⟨a8, ea8, ka8, h⟩ := h
        refine fv_getI C fl_RX6_65 ea8 ka8 dX6_goOneStepBack_43 ?_
        refine fv_iload_n C 4 rfl rfl dX6_goOneStepBack_46 ?_
        replace h := fo_s h
        obtain ⟨a9, ea9, ka9, h⟩ := h
        replace h := bx h
        obtain ⟨r10, er10, h⟩ := h
        refine fv_callV [.int (M.1 a8 4), .int v3] C mi_X1_endOf ms_X1_endOf lk_RX6_36 ea9 ka9 (r_X1_endOf _ _ _ er10) ⟨Nat.le_of_ble_eq_true rfl, Nat.le_of_ble_eq_true rfl⟩ ⟨Nat.le_of_ble_eq_true rfl, Nat.le_of_ble_eq_true rfl⟩ rfl rfl (by simp [va_rf_cat, cat_i, cat_l]) dX6_goOneStepBack_47 ?_
        show fh_V X rm_X6_goOneStepBack 7 (sz, 0, 0) K M _ _ [.int r10]
        refine fv_aload_n C 1 rfl rfl dX6_goOneStepBack_50 ?_
        replace h := fo_s h
        obtain ⟨a11, ea11, ka11, h⟩ := h
        refine fv_getR C fl_RX6_9 ea11 ka11 dX6_goOneStepBack_51 ?_
        refine fv_aload C 0 rfl dX6_goOneStepBack_54 ?_
        refine fv_getI C fl_RX6_70 ea8 ka8 dX6_goOneStepBack_56 ?_
        replace h := fi_s h
        obtain ⟨a12, ea12, ka12, ia12, h⟩ := h
        refine fv_iald C ea12 ka12 ia12 dX6_goOneStepBack_59 ?_
        refine fv_min C lk_RX6_73 jw_min_static ji_Math jw_min_code (Nat.le_of_ble_eq_true rfl) (by simp [va_rf_cat, cat_i, cat_l]) (Nat.le_of_ble_eq_true rfl) (Nat.le_of_ble_eq_true rfl) dX6_goOneStepBack_60 ?_
        refine fv_istore (i := 6) (lv' := [(6, .int (if (M.1 a12 (M.1 a8 1).toNatClampNeg) < r10 then M.1 a12 (M.1 a8 1).toNatClampNeg else r10)), (5, va_rf (r7)), (0, va_rf (some t)), (1, va_rf (v1)), (2, va_rf (v2)), (3, .int v3), (4, .int v4)]) C (by decide) (by first | rfl | simp [va_rf_cat]) dX6_goOneStepBack_63 ?_
        refine fv_aload_n C 2 rfl rfl dX6_goOneStepBack_65 ?_
        refine fv_getR C fl_RX6_15 ea11 ka11 dX6_goOneStepBack_66 ?_
        refine fv_aload C 1 rfl dX6_goOneStepBack_69 ?_
        refine fv_getI C fl_RX6_76 ea8 ka8 dX6_goOneStepBack_71 ?_
        refine fv_aload_n C 2 rfl rfl dX6_goOneStepBack_74 ?_
        refine fv_getR C fl_RX6_15 ea11 ka11 dX6_goOneStepBack_75 ?_
        refine fv_aload C 1 rfl dX6_goOneStepBack_78 ?_
        refine fv_getI C fl_RX6_76 ea8 ka8 dX6_goOneStepBack_80 ?_
        replace h := fi_s h
        obtain ⟨a13, ea13, ka13, ia13, h⟩ := h
        refine fv_iald C ea13 ka13 ia13 dX6_goOneStepBack_83 ?_
        refine fv_iload C 0 rfl dX6_goOneStepBack_84 ?_
        refine fv_max C lk_RX6_42 jw_max_static ji_Math jw_max_code (Nat.le_of_ble_eq_true rfl) (by simp [va_rf_cat, cat_i, cat_l]) (Nat.le_of_ble_eq_true rfl) (Nat.le_of_ble_eq_true rfl) dX6_goOneStepBack_86 ?_
        replace h := fb_s h
        obtain ⟨M14, eM14, h⟩ := h
        refine fv_iast C ea13 ka13 ia13 dX6_goOneStepBack_89 (fv_eqM eM14 ?_)
        refine fv_sub (cc := ⟨#[]⟩) (own := "") [2, 3, 4, 5, 6] rfl ?_
        exact r_X6_goOneStepBack_J90 C E ih _ _ _ _ _ _ h
set_option maxRecDepth 10000 in
theorem r_X6_goOneStepBack (l : Launch) (D : fh_D) (A : Nat → Prop) {K : fh_K} {sz : Nat} {M : fh_M} {M' : fh_M} {t : Nat} {p1 : Option Nat} {p2 : Option Nat} {p3 : Int32} (h : f_X6_goOneStepBack K M t p1 p2 p3 = some M') : fh_Met l yX6_goOneStepBack cX6_goOneStepBack 7 none rm_X6_goOneStepBack D K M sz A [va_rf (some t), va_rf p1, va_rf p2, .int p3] none K M' sz := by
  refine fh_enter (by decide) (by simp [lg_sl, va_rf_cat, cat_i, cat_l]) (lv := [(0, va_rf (some t)), (1, va_rf p1), (2, va_rf p2), (3, .int p3)]) (by simp [lv_args, va_rf_cat, cat_i, cat_l]) ?_
  intro X C E hnm _ _ _
  replace C : fh_C X 7 cX6_goOneStepBack RX6 := C
  unfold f_X6_goOneStepBack at h
  refine fv_aload_n C 0 rfl rfl dX6_goOneStepBack_0 ?_
  replace h := fo_s h
  obtain ⟨a1, ea1, ka1, h⟩ := h
  refine fv_getR C fl_RX6_9 ea1 ka1 dX6_goOneStepBack_1 ?_
  refine fv_iconst (v := 0) C (by decide) dX6_goOneStepBack_4 ?_
  refine fv_aload_n C 0 rfl rfl dX6_goOneStepBack_5 ?_
  refine fv_getR C fl_RX6_15 ea1 ka1 dX6_goOneStepBack_6 ?_
  refine fv_iconst (v := 0) C (by decide) dX6_goOneStepBack_9 ?_
  refine fv_bipush (v := 12) C (by decide) dX6_goOneStepBack_10 ?_
  replace h := fq_s h
  obtain ⟨a2, a3, ea2, ea3, q4, h⟩ := h
  replace h := fb_s h
  obtain ⟨M5, eM5, h⟩ := h
  refine fv_copy C lk_RX6_52 jw_copy_native jw_copy_static ji_System ea2 ea3 q4.1 q4.2.1 q4.2.2.1 q4.2.2.2.1 q4.2.2.2.2.1 q4.2.2.2.2.2.1 q4.2.2.2.2.2.2 (by decide) (by simp [va_rf_cat, cat_i, cat_l, nativeFrameWords]) dX6_goOneStepBack_12 (fv_eqM eM5 ?_)
  refine fv_iconst (v := 0) C (by decide) dX6_goOneStepBack_15 ?_
  refine fv_istore (i := 4) (lv' := [(4, .int 0), (0, va_rf (some t)), (1, va_rf (p1)), (2, va_rf (p2)), (3, .int p3)]) C (by decide) (by first | rfl | simp [va_rf_cat]) dX6_goOneStepBack_16 ?_
  refine fv_sub (cc := ⟨#[]⟩) (own := "") [1, 2, 3, 4, 0] rfl ?_
  exact r_X6_goOneStepBack_L18 C E  4096 _ _ _ _ _ _ h
abbrev rm_X6_measure : Room := { frames := 3, cells := 0, slots := 0, locals := 86 }
set_option maxRecDepth 10000 in
theorem r_X6_measure_L72 {X : fh_X} {K : fh_K} {sz : Nat} {M' : fh_M} (C : fh_C X 8 cX6_measure RX6) (E : fh_E X rm_X6_measure none none K M' sz) : ∀ (n : Nat) (t : Nat) (v2 : Option Nat) (v3 : Option Nat) (v4 : Int32) (v5 : Int32) (M : fh_M), f_X6_measure_L72 K n t v2 v3 v4 v5 M = some M' → fh_V X rm_X6_measure 8 (sz, 0, 0) K M 72 [(0, va_rf (some t)), (2, va_rf (v2)), (3, va_rf (v3)), (4, .int v4), (5, .int v5)] [] := by
  intro n
  induction n with
  | zero => intro t v2 v3 v4 v5 M h; cases h
  | succ n ih =>
    intro t v2 v3 v4 v5 M h
    unfold f_X6_measure_L72 at h
    refine fv_iload C 4 rfl dX6_measure_72 ?_
    refine fv_iconst (v := 4) C (by decide) dX6_measure_74 ?_
    refine fv_icmp_gt C 92 (by decide) dX6_measure_75 (fun c16 => ?_) (fun c16 => ?_)
    · replace h := itT c16 h
      cases h
      exact fv_vret (z := (0, 0, 0)) (st := []) C E dX6_measure_92
    · replace h := itF c16 h
      refine fv_aload_n C 0 rfl rfl dX6_measure_78 ?_
      refine fv_aload_n C 1 rfl rfl dX6_measure_79 ?_
      refine fv_aload_n C 2 rfl rfl dX6_measure_80 ?_
      refine fv_iload C 3 rfl dX6_measure_81 ?_
      replace h := fo_s h
      obtain ⟨a13, ea13, ka13, h⟩ := h
      replace h := bx h
      obtain ⟨M15, er14, h⟩ := h
      refine fv_callV [va_rf (v2), va_rf (v3), .int v4] C mi_X6_goOneStepBack ms_X6_goOneStepBack lk_RX6_48 ea13 ka13 (r_X6_goOneStepBack _ _ _ er14) ⟨Nat.le_of_ble_eq_true rfl, Nat.le_of_ble_eq_true rfl⟩ ⟨Nat.le_of_ble_eq_true rfl, Nat.le_of_ble_eq_true rfl⟩ rfl rfl (by simp [va_rf_cat, cat_i, cat_l]) dX6_measure_83 ?_
      show fh_V X rm_X6_measure 8 (sz, 0, 0) K M15 _ _ []
      refine fv_iinc (v := v5 + 1) (lv' := [(5, .int (v5 + 1)), (0, va_rf (some t)), (2, va_rf (v2)), (3, va_rf (v3)), (4, .int v4)]) C 4 rfl (by first | rfl | exact congrArg _ (by decide)) (by decide) (by first | rfl | simp [va_rf_cat]) dX6_measure_86 ?_
      refine fv_goto C 72 (by decide) dX6_measure_89 ?_
      refine fv_sub (cc := ⟨#[]⟩) (own := "") [1, 2, 3, 4, 0] rfl ?_
      exact ih _ _ _ _ _ _ h
set_option maxRecDepth 10000 in
theorem r_X6_measure_J69 {X : fh_X} {K : fh_K} {sz : Nat} {M' : fh_M} (C : fh_C X 8 cX6_measure RX6) (E : fh_E X rm_X6_measure none none K M' sz) (t : Nat) (v2 : Option Nat) (v3 : Option Nat) (v4 : Int32) (M : fh_M) (h : f_X6_measure_J69 K t v2 v3 v4 M = some M') : fh_V X rm_X6_measure 8 (sz, 0, 0) K M 69 [(0, va_rf (some t)), (2, va_rf (v2)), (3, va_rf (v3)), (4, .int v4)] [] := by
  unfold f_X6_measure_J69 at h
  refine fv_iconst (v := 1) C (by decide) dX6_measure_69 ?_
  refine fv_istore (i := 5) (lv' := [(5, .int 1), (0, va_rf (some t)), (2, va_rf (v2)), (3, va_rf (v3)), (4, .int v4)]) C (by decide) (by first | rfl | simp [va_rf_cat]) dX6_measure_70 ?_
  refine fv_sub (cc := ⟨#[]⟩) (own := "") [1, 2, 3, 4, 0] rfl ?_
  exact r_X6_measure_L72 C E  4096 _ _ _ _ _ _ h
set_option maxRecDepth 10000 in
theorem r_X6_measure_L11 {X : fh_X} {K : fh_K} {sz : Nat} {M' : fh_M} (C : fh_C X 8 cX6_measure RX6) (E : fh_E X rm_X6_measure none none K M' sz) : ∀ (n : Nat) (t : Nat) (v1 : Option Nat) (v2 : Option Nat) (v3 : Option Nat) (v4 : Int32) (v5 : Int32) (M : fh_M), f_X6_measure_L11 K n t v1 v2 v3 v4 v5 M = some M' → fh_V X rm_X6_measure 8 (sz, 0, 0) K M 11 [(0, va_rf (some t)), (1, va_rf (v1)), (2, va_rf (v2)), (3, va_rf (v3)), (4, .int v4), (5, .int v5)] [] := by
  intro n
  induction n with
  | zero => intro t v1 v2 v3 v4 v5 M h; cases h
  | succ n ih =>
    intro t v1 v2 v3 v4 v5 M h
    unfold f_X6_measure_L11 at h
    refine fv_iload C 5 rfl dX6_measure_11 ?_
    refine fv_aload_n C 1 rfl rfl dX6_measure_13 ?_
    replace h := fo_s h
    obtain ⟨a4, ea4, ka4, h⟩ := h
    refine fv_getI C fl_RX6_24 ea4 ka4 dX6_measure_14 ?_
    refine fv_icmp_ge C 69 (by decide) dX6_measure_17 (fun c12 => ?_) (fun c12 => ?_)
    · replace h := itT c12 h
      refine fv_sub (cc := ⟨#[]⟩) (own := "") [0, 2, 3, 4] rfl ?_
      exact r_X6_measure_J69 C E  _ _ _ _ _ h
    · replace h := itF c12 h
      refine fv_aload_n C 1 rfl rfl dX6_measure_20 ?_
      refine fv_getR C fl_RX6_30 ea4 ka4 dX6_measure_21 ?_
      refine fv_iload C 5 rfl dX6_measure_24 ?_
      replace h := fi_s h
      obtain ⟨a5, ea5, ka5, ia5, h⟩ := h
      refine fv_iald C ea5 ka5 ia5 dX6_measure_26 ?_
      refine fv_istore (i := 6) (lv' := [(6, .int (M.1 a5 v5.toNatClampNeg)), (0, va_rf (some t)), (1, va_rf (v1)), (2, va_rf (v2)), (3, va_rf (v3)), (4, .int v4), (5, .int v5)]) C (by decide) (by first | rfl | simp [va_rf_cat]) dX6_measure_27 ?_
      refine fv_aload_n C 4 rfl rfl dX6_measure_29 ?_
      refine fv_aload_n C 2 rfl rfl dX6_measure_30 ?_
      refine fv_getR C fl_RX6_33 ea4 ka4 dX6_measure_31 ?_
      refine fv_iload C 6 rfl dX6_measure_34 ?_
      replace h := fi_s h
      obtain ⟨a6, ea6, ka6, ia6, h⟩ := h
      refine fv_iald C ea6 ka6 ia6 dX6_measure_36 ?_
      refine fv_iload C 5 rfl dX6_measure_37 ?_
      replace h := fo_s h
      obtain ⟨a7, ea7, ka7, h⟩ := h
      replace h := bx h
      obtain ⟨r8, er8, h⟩ := h
      refine fv_callV [.int (M.1 a6 v5.toNatClampNeg), .int v4] C mi_X1_endOf ms_X1_endOf lk_RX6_36 ea7 ka7 (r_X1_endOf _ _ _ er8) ⟨Nat.le_of_ble_eq_true rfl, Nat.le_of_ble_eq_true rfl⟩ ⟨Nat.le_of_ble_eq_true rfl, Nat.le_of_ble_eq_true rfl⟩ rfl rfl (by simp [va_rf_cat, cat_i, cat_l]) dX6_measure_39 ?_
      show fh_V X rm_X6_measure 8 (sz, 0, 0) K M _ _ [.int r8]
      refine fv_istore (i := 7) (lv' := [(7, .int r8), (6, .int (M.1 a5 v5.toNatClampNeg)), (0, va_rf (some t)), (1, va_rf (v1)), (2, va_rf (v2)), (3, va_rf (v3)), (4, .int v4), (5, .int v5)]) C (by decide) (by first | rfl | simp [va_rf_cat]) dX6_measure_42 ?_
      refine fv_aload_n C 2 rfl rfl dX6_measure_44 ?_
      replace h := fo_s h
      obtain ⟨a9, ea9, ka9, h⟩ := h
      refine fv_getR C fl_RX6_9 ea9 ka9 dX6_measure_45 ?_
      refine fv_iload C 1 rfl dX6_measure_48 ?_
      refine fv_aload_n C 2 rfl rfl dX6_measure_50 ?_
      refine fv_getR C fl_RX6_9 ea9 ka9 dX6_measure_51 ?_
      refine fv_iload C 1 rfl dX6_measure_54 ?_
      replace h := fi_s h
      obtain ⟨a10, ea10, ka10, ia10, h⟩ := h
      refine fv_iald C ea10 ka10 ia10 dX6_measure_56 ?_
      refine fv_iload C 0 rfl dX6_measure_57 ?_
      refine fv_max C lk_RX6_42 jw_max_static ji_Math jw_max_code (Nat.le_of_ble_eq_true rfl) (by simp [va_rf_cat, cat_i, cat_l]) (Nat.le_of_ble_eq_true rfl) (Nat.le_of_ble_eq_true rfl) dX6_measure_59 ?_
      replace h := fb_s h
      obtain ⟨M11, eM11, h⟩ := h
      refine fv_iast C ea10 ka10 ia10 dX6_measure_62 (fv_eqM eM11 ?_)
      refine fv_iinc (v := v5 + 1) (lv' := [(5, .int (v5 + 1)), (7, .int r8), (6, .int (M.1 a5 v5.toNatClampNeg)), (0, va_rf (some t)), (1, va_rf (v1)), (2, va_rf (v2)), (3, va_rf (v3)), (4, .int v4)]) C 7 rfl (by first | rfl | exact congrArg _ (by decide)) (by decide) (by first | rfl | simp [va_rf_cat]) dX6_measure_63 ?_
      refine fv_goto C 11 (by decide) dX6_measure_66 ?_
      refine fv_sub (cc := ⟨#[]⟩) (own := "") [3, 4, 5, 6, 7, 0] rfl ?_
      exact ih _ _ _ _ _ _ _ h
set_option maxRecDepth 10000 in
theorem r_X6_measure (l : Launch) (D : fh_D) (A : Nat → Prop) {K : fh_K} {sz : Nat} {M : fh_M} {M' : fh_M} {t : Nat} {p1 : Option Nat} {p2 : Option Nat} {p3 : Option Nat} {p4 : Int32} (h : f_X6_measure K M t p1 p2 p3 p4 = some M') : fh_Met l yX6_measure cX6_measure 8 none rm_X6_measure D K M sz A [va_rf (some t), va_rf p1, va_rf p2, va_rf p3, .int p4] none K M' sz := by
  refine fh_enter (by decide) (by simp [lg_sl, va_rf_cat, cat_i, cat_l]) (lv := [(0, va_rf (some t)), (1, va_rf p1), (2, va_rf p2), (3, va_rf p3), (4, .int p4)]) (by simp [lv_args, va_rf_cat, cat_i, cat_l]) ?_
  intro X C E hnm _ _ _
  replace C : fh_C X 8 cX6_measure RX6 := C
  unfold f_X6_measure at h
  refine fv_aload_n C 0 rfl rfl dX6_measure_0 ?_
  replace h := fo_s h
  obtain ⟨a1, ea1, ka1, h⟩ := h
  refine fv_getR C fl_RX6_9 ea1 ka1 dX6_measure_1 ?_
  refine fv_iconst (v := -1) C (by decide) dX6_measure_4 ?_
  replace h := bx h
  obtain ⟨M3, er2, h⟩ := h
  refine fv_callS [va_rf (M.2.2 a1 0), .int ((-1))] C mi_J7_fill_53178 lk_RX6_18 (r_J7_fill_53178 _ _ _ er2) ⟨Nat.le_of_ble_eq_true rfl, Nat.le_of_ble_eq_true rfl⟩ ⟨Nat.le_of_ble_eq_true rfl, Nat.le_of_ble_eq_true rfl⟩ rfl rfl (by simp [va_rf_cat, cat_i, cat_l]) dX6_measure_5 ?_
  show fh_V X rm_X6_measure 8 (sz, 0, 0) K M3 _ _ []
  refine fv_iconst (v := 0) C (by decide) dX6_measure_8 ?_
  refine fv_istore (i := 5) (lv' := [(5, .int 0), (0, va_rf (some t)), (1, va_rf (p1)), (2, va_rf (p2)), (3, va_rf (p3)), (4, .int p4)]) C (by decide) (by first | rfl | simp [va_rf_cat]) dX6_measure_9 ?_
  refine fv_sub (cc := ⟨#[]⟩) (own := "") [1, 2, 3, 4, 5, 0] rfl ?_
  exact r_X6_measure_L11 C E  4096 _ _ _ _ _ _ _ h
abbrev rm_X6_lastYearOf : Room := { frames := 0, cells := 0, slots := 0, locals := 0 }
set_option maxRecDepth 10000 in
theorem r_X6_lastYearOf (l : Launch) (D : fh_D) (A : Nat → Prop) {K : fh_K} {sz : Nat} {M : fh_M} {r : Int32} {t : Nat} {p1 : Int32} (h : f_X6_lastYearOf K M t p1 = some r) : fh_Met l yX6_lastYearOf cX6_lastYearOf 2 (some .int) rm_X6_lastYearOf D K M sz A [va_rf (some t), .int p1] (some (.int r)) K M sz := by
  refine fh_enter (by decide) (by simp [lg_sl, va_rf_cat, cat_i, cat_l]) (lv := [(0, va_rf (some t)), (1, .int p1)]) (by simp [lv_args, va_rf_cat, cat_i, cat_l]) ?_
  intro X C E hnm _ _ _
  replace C : fh_C X 2 cX6_lastYearOf RX6 := C
  unfold f_X6_lastYearOf at h
  refine fv_iload_n C 1 rfl rfl dX6_lastYearOf_0 ?_
  refine fv_if_lt C 19 (by decide) dX6_lastYearOf_1 (fun c4 => ?_) (fun c4 => ?_)
  · replace h := itT c4 h
    refine fv_iconst (v := -1) C (by decide) dX6_lastYearOf_19 ?_
    cases h
    exact fv_iret (z := (0, 0, 0)) (st := []) C E dX6_lastYearOf_20
  · replace h := itF c4 h
    refine fv_iload_n C 1 rfl rfl dX6_lastYearOf_4 ?_
    refine fv_bipush (v := 12) C (by decide) dX6_lastYearOf_5 ?_
    refine fv_icmp_ge C 19 (by decide) dX6_lastYearOf_7 (fun c3 => ?_) (fun c3 => ?_)
    · replace h := itT c3 h
      refine fv_iconst (v := -1) C (by decide) dX6_lastYearOf_19 ?_
      cases h
      exact fv_iret (z := (0, 0, 0)) (st := []) C E dX6_lastYearOf_20
    · replace h := itF c3 h
      refine fv_aload_n C 0 rfl rfl dX6_lastYearOf_10 ?_
      replace h := fo_s h
      obtain ⟨a1, ea1, ka1, h⟩ := h
      refine fv_getR C fl_RX6_9 ea1 ka1 dX6_lastYearOf_11 ?_
      refine fv_iload_n C 1 rfl rfl dX6_lastYearOf_14 ?_
      replace h := fi_s h
      obtain ⟨a2, ea2, ka2, ia2, h⟩ := h
      refine fv_iald C ea2 ka2 ia2 dX6_lastYearOf_15 ?_
      refine fv_goto C 20 (by decide) dX6_lastYearOf_16 ?_
      cases h
      exact fv_iret (z := (0, 0, 0)) (st := []) C E dX6_lastYearOf_20
abbrev rm_X9_init : Room := { frames := 1, cells := 1, slots := 24, locals := 24 }
set_option maxRecDepth 10000 in
theorem r_X9_init (l : Launch) (D : fh_D) (A : Nat → Prop) {K : fh_K} {sz : Nat} {M : fh_M} {M' : fh_M} {K' : fh_K} {sz' : Nat} {t : Nat} (h : f_X9_init sz K M t = some (sz', K', M')) : fh_Met l yX9_init cX9_init 1 none rm_X9_init D K M sz A [va_rf (some t)] none K' M' sz' := by
  refine fh_enter (by decide) (by simp [lg_sl, va_rf_cat, cat_i, cat_l]) (lv := [(0, va_rf (some t))]) (by simp [lv_args, va_rf_cat, cat_i, cat_l]) ?_
  intro X C E hnm _ _ _
  replace C : fh_C X 1 cX9_init RX9 := C
  unfold f_X9_init at h
  refine fv_aload_n C 0 rfl rfl dX9_init_0 ?_
  refine fv_objInit C lk_RX9_3 jw_oi_instanceMethod jw_oi_code (Nat.le_of_ble_eq_true rfl) (by simp [va_rf_cat, cat_i, cat_l]) dX9_init_1 ?_
  refine fv_aload_n C 0 rfl rfl dX9_init_4 ?_
  refine fv_bipush (v := 24) C (by decide) dX9_init_5 ?_
  replace h := fn_s h
  obtain ⟨N1, pN1, qN1, bN1, h⟩ := h
  replace h := fb_s h
  obtain ⟨K2, eK2, h⟩ := h
  replace h := fb_s h
  obtain ⟨M3, eM3, h⟩ := h
  refine fv_newQ (t := 19) C 6 (by decide) (fun _ => rfl) (fun _ _ q => q.2.2.2.2.2) ck_RX9_9 pN1 qN1 (Nat.le_trans bN1 (by decide)) (Nat.le_of_ble_eq_true rfl) (by show 0 + N1 ≤ _; exact Nat.le_trans (Nat.add_le_add_left bN1 _) (Nat.le_of_ble_eq_true rfl)) dX9_init_7 ?_
  refine fv_eqK eK2 (fv_eqM eM3 ?_)
  refine fv_widen (mc := 1) (ms := 24) (cc := ⟨#[]⟩) (own := "") (Nat.le_of_ble_eq_true rfl) (by exact Nat.add_le_add_left bN1 _) ?_
  replace h := fo_s h
  obtain ⟨a4, ea4, ka4, h⟩ := h
  replace h := fb_s h
  obtain ⟨M5, eM5, h⟩ := h
  refine fv_putFR (fin := true) C fl_RX9_11 ea4 ka4 rfl hnm (narrow_rf_a _ _) dX9_init_10 (fv_eqM eM5 ?_)
  refine fv_aload_n C 0 rfl rfl dX9_init_13 ?_
  refine fv_iconst (v := 0) C (by decide) dX9_init_14 ?_
  replace h := fb_s h
  obtain ⟨M6, eM6, h⟩ := h
  refine fv_putI (fin := false) C fl_RX9_17 ea4 ka4 (narrow_i _) dX9_init_15 (fv_eqM eM6 ?_)
  cases h
  exact fv_vret (z := (0, 0, 0)) (st := []) C E dX9_init_18
abbrev rm_X9_add : Room := { frames := 2, cells := 1, slots := 5, locals := 49 }
set_option maxRecDepth 10000 in
theorem r_X9_add (l : Launch) (D : fh_D) (A : Nat → Prop) {K : fh_K} {sz : Nat} {M : fh_M} {M' : fh_M} {K' : fh_K} {sz' : Nat} {r : Int32} {t : Nat} {p1 : Int32} {p2 : Int32} {p3 : Int32} {p4 : Int32} {p5 : Int32} (h : f_X9_add sz K M t p1 p2 p3 p4 p5 = some (r, sz', K', M')) : fh_Met l yX9_add cX9_add 6 (some .int) rm_X9_add D K M sz A [va_rf (some t), .int p1, .int p2, .int p3, .int p4, .int p5] (some (.int r)) K' M' sz' := by
  refine fh_enter (by decide) (by simp [lg_sl, va_rf_cat, cat_i, cat_l]) (lv := [(0, va_rf (some t)), (1, .int p1), (2, .int p2), (3, .int p3), (4, .int p4), (5, .int p5)]) (by simp [lv_args, va_rf_cat, cat_i, cat_l]) ?_
  intro X C E hnm _ _ _
  replace C : fh_C X 6 cX9_add RX9 := C
  unfold f_X9_add at h
  refine fv_aload_n C 0 rfl rfl dX9_add_0 ?_
  replace h := fo_s h
  obtain ⟨a1, ea1, ka1, h⟩ := h
  refine fv_getI C fl_RX9_17 ea1 ka1 dX9_add_1 ?_
  refine fv_bipush (v := 24) C (by decide) dX9_add_4 ?_
  refine fv_icmp_lt C 11 (by decide) dX9_add_6 (fun c11 => ?_) (fun c11 => ?_)
  · replace h := itT c11 h
    refine fv_aload_n C 0 rfl rfl dX9_add_11 ?_
    refine fv_getR C fl_RX9_11 ea1 ka1 dX9_add_12 ?_
    refine fv_aload_n C 0 rfl rfl dX9_add_15 ?_
    refine fv_getI C fl_RX9_17 ea1 ka1 dX9_add_16 ?_
    replace h := fb_s h
    obtain ⟨K2, eK2, h⟩ := h
    replace h := fb_s h
    obtain ⟨M3, eM3, h⟩ := h
    refine fv_new C cl_RX9_9 (Nat.le_of_ble_eq_true rfl) (Nat.le_of_ble_eq_true rfl) dX9_add_19 ?_
    refine fv_eqK eK2 (fv_eqM eM3 ?_)
    refine fv_dupr C dX9_add_22 ?_
    refine fv_iload_n C 1 rfl rfl dX9_add_23 ?_
    refine fv_iload_n C 2 rfl rfl dX9_add_24 ?_
    refine fv_iload_n C 3 rfl rfl dX9_add_25 ?_
    refine fv_iload C 4 rfl dX9_add_26 ?_
    refine fv_iload C 5 rfl dX9_add_28 ?_
    replace h := bx h
    obtain ⟨M5, er4, h⟩ := h
    refine fv_callI (b := sz) [.int p1, .int p2, .int p3, .int p4, .int p5] C mi_X8_init rfl lk_RX9_21 (r_X8_init _ _ _ er4) ⟨Nat.le_of_ble_eq_true rfl, Nat.le_of_ble_eq_true rfl⟩ ⟨Nat.le_of_ble_eq_true rfl, Nat.le_of_ble_eq_true rfl⟩ rfl rfl (by simp [va_rf_cat, cat_i, cat_l]) dX9_add_30 ?_
    show fh_V X rm_X9_add 6 (sz + 1, 1, 5) K2 M5 _ _ [va_rf (some sz), .int (M.1 a1 1), va_rf (M.2.2 a1 0)]
    replace h := fi_s h
    obtain ⟨a6, ea6, ka6, ia6, h⟩ := h
    replace h := fo_s h
    obtain ⟨a7, ea7, ka7, h⟩ := h
    replace h := fb_s h
    obtain ⟨M8, eM8, h⟩ := h
    refine fv_aast2 (ci := 8) (t := 19) C 6 (by decide) rfl (by decide) (fun _ => rfl) ea6 ka6 ia6 ea7 ka7 dX9_add_33 (fv_eqM eM8 ?_)
    refine fv_aload_n C 0 rfl rfl dX9_add_34 ?_
    refine fv_dupr C dX9_add_35 ?_
    replace h := fo_s h
    obtain ⟨a9, ea9, ka9, h⟩ := h
    refine fv_getI C fl_RX9_17 ea9 ka9 dX9_add_36 ?_
    refine fv_iconst (v := 1) C (by decide) dX9_add_39 ?_
    refine fv_iadd C dX9_add_40 ?_
    replace h := fb_s h
    obtain ⟨M10, eM10, h⟩ := h
    refine fv_putI (fin := false) C fl_RX9_17 ea9 ka9 (narrow_i _) dX9_add_41 (fv_eqM eM10 ?_)
    refine fv_aload_n C 0 rfl rfl dX9_add_44 ?_
    refine fv_getI C fl_RX9_17 ea9 ka9 dX9_add_45 ?_
    refine fv_iconst (v := 1) C (by decide) dX9_add_48 ?_
    refine fv_isub C dX9_add_49 ?_
    cases h
    exact fv_iret (z := (0, 0, 0)) (st := []) C E dX9_add_50
  · replace h := itF c11 h
    refine fv_iconst (v := -1) C (by decide) dX9_add_9 ?_
    refine fv_widen (mc := 1) (ms := 5) (cc := ⟨#[]⟩) (own := "") (Nat.le_of_ble_eq_true rfl) (Nat.le_of_ble_eq_true rfl) ?_
    cases h
    exact fv_iret (z := (0, 0, 0)) (st := []) C E dX9_add_10
