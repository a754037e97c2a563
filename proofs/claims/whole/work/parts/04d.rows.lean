def f_X10_init (sz : Nat) (K : fh_K) (M : fh_M) (t : Nat) : Option (Nat × fh_K × fh_M) :=
  fb (fh_uk K sz (0 + 1, 0)) fun K1 =>
    fb (fh_clr M sz) fun M2 =>
    fc3 (f_X0_init (sz + 1) K1 M2 sz (80)) fun w6 K5 M4 =>
    fo K5 10 (some t) fun a7 =>
    fb (fh_sr M4 a7 0 (some sz)) fun M8 =>
    fb (fh_uk K5 w6 (0 + 1, 0)) fun K9 =>
    fb (fh_clr M8 w6) fun M10 =>
    fc3 (f_X0_init (w6 + 1) K9 M10 w6 (60)) fun w14 K13 M12 =>
    fo K13 10 (some t) fun a15 =>
    fb (fh_sr M12 a15 1 (some w6)) fun M16 =>
    fn (12) 12 fun N17 =>
    fb (fh_uk K13 w14 (17, N17)) fun K18 =>
    fb (fh_clr M16 w14) fun M19 =>
    fo K18 10 (some t) fun a20 =>
    fb (fh_sr M19 a20 2 (some w14)) fun M21 =>
    fn (40) 40 fun N22 =>
    fb (fh_uk K18 (w14 + 1) (18, N22)) fun K23 =>
    fb (fh_clr M21 (w14 + 1)) fun M24 =>
    fo K23 10 (some t) fun a25 =>
    fb (fh_sr M24 a25 3 (some (w14 + 1))) fun M26 =>
    fb (fh_uk K23 (w14 + 2) (1 + 1, 0)) fun K27 =>
    fb (fh_clr M26 (w14 + 2)) fun M28 =>
    fc3 (f_X1_init (w14 + 3) K27 M28 (w14 + 2)) fun w32 K31 M30 =>
    fo K31 10 (some t) fun a33 =>
    fb (fh_sr M30 a33 4 (some (w14 + 2))) fun M34 =>
    fb (fh_uk K31 w32 (3 + 1, 0)) fun K35 =>
    fb (fh_clr M34 w32) fun M36 =>
    fc3 (f_X3_init (w32 + 1) K35 M36 w32) fun w40 K39 M38 =>
    fo K39 10 (some t) fun a41 =>
    fb (fh_sr M38 a41 5 (some w32)) fun M42 =>
    fb (fh_uk K39 w40 (9 + 1, 0)) fun K43 =>
    fb (fh_clr M42 w40) fun M44 =>
    fc3 (f_X9_init (w40 + 1) K43 M44 w40) fun w48 K47 M46 =>
    fo K47 10 (some t) fun a49 =>
    fb (fh_sr M46 a49 6 (some w40)) fun M50 =>
    fb (fh_uk K47 w48 (5 + 1, 0)) fun K51 =>
    fb (fh_clr M50 w48) fun M52 =>
    fc3 (f_X5_init (w48 + 1) K51 M52 w48) fun w56 K55 M54 =>
    fo K55 10 (some t) fun a57 =>
    fb (fh_sr M54 a57 7 (some w48)) fun M58 =>
    fb (fh_uk K55 w56 (6 + 1, 0)) fun K59 =>
    fb (fh_clr M58 w56) fun M60 =>
    fc3 (f_X6_init (w56 + 1) K59 M60 w56) fun w64 K63 M62 =>
    fo K63 10 (some t) fun a65 =>
    fb (fh_sr M62 a65 8 (some w56)) fun M66 =>
    fb (fh_uk K63 w64 (4 + 1, 0)) fun K67 =>
    fb (fh_clr M66 w64) fun M68 =>
    fc3 (f_X4_init (w64 + 1) K67 M68 w64) fun w72 K71 M70 =>
    fo K71 10 (some t) fun a73 =>
    fb (fh_sr M70 a73 9 (some w64)) fun M74 =>
    fb (fh_uk K71 w72 (4 + 1, 0)) fun K75 =>
    fb (fh_clr M74 w72) fun M76 =>
    fc3 (f_X4_init (w72 + 1) K75 M76 w72) fun w80 K79 M78 =>
    fo K79 10 (some t) fun a81 =>
    fb (fh_sr M78 a81 10 (some w72)) fun M82 =>
    fb (fh_si M82 a81 11 (0)) fun M83 =>
    fb (fh_si M83 a81 12 (0)) fun M84 =>
    fb (fh_si M84 a81 13 (0)) fun M85 =>
    fb (fh_sl M85 a81 14 (0)) fun M86 =>
    some (w80, K79, M86)
def f_X10_feed (K : fh_K) (M : fh_M) (t : Nat) (p1 : Int32) (p2 : Int32) (p3 : Int32) (p4 : Int32) (p5 : Int32) : Option (Int32 × fh_M) :=
  fo K 10 (some t) fun a1 =>
    fo K 0 (M.2.2 a1 0) fun a2 =>
    (f_X0_room K M a2).bind fun r3 =>
    if 20 ≤ r3 then
    (f_X0_addWord K M a2 (p1)).bind fun M5 =>
      fo K 0 (M5.2.2 a1 0) fun a6 =>
      (f_X0_addWord K M5 a6 (p2)).bind fun M8 =>
      fo K 0 (M8.2.2 a1 0) fun a9 =>
      (f_X0_addWord K M8 a9 (p3)).bind fun M11 =>
      fo K 0 (M11.2.2 a1 0) fun a12 =>
      (f_X0_addWord K M11 a12 (p4)).bind fun M14 =>
      fo K 0 (M14.2.2 a1 0) fun a15 =>
      (f_X0_addWord K M14 a15 (p5)).bind fun M17 =>
      fo K 0 (M17.2.2 a1 0) fun a18 =>
      some (M17.1 a18 1, M17)
  else
    some ((-1), M)
def f_X10_areProperties (K : fh_K) (M : fh_M) (p0 : Int32) : Option (Int32) :=
  if p0 < 0 then
    some 0
  else
    if 4095 < p0 then
      some 0
    else
      some 1
def f_X10_makeAt (K : fh_K) (M : fh_M) (t : Nat) (p1 : Int32) : Option (Option Nat) :=
  if p1 < 0 then
    some none
  else
    fo K 10 (some t) fun a1 =>
      if (M.1 a1 11) ≤ p1 then
      some none
    else
      fi K 17 (M.2.2 a1 2) (p1) fun a2 =>
        some (M.2.2 a2 p1.toNatClampNeg)
def f_X10_judge (K : fh_K) (M : fh_M) (t : Nat) (p1 : Option Nat) (p2 : Int32) : Option (fh_M) :=
  fo K 10 (some t) fun a1 =>
    (f_X10_makeAt K M a1 (p2)).bind fun r2 =>
    if p1 = none then
    some M
  else
    if r2 = none then
      some M
    else
      fo K 7 (p1) fun a3 =>
        fo K 4 (M.2.2 a1 9) fun a4 =>
        (f_X4_readBy K M a4 (r2) (M.2.2 a3 0)).bind fun M6 =>
        fo K 4 (M6.2.2 a1 9) fun a7 =>
        if (M6.1 a7 6) = (-2) then
        some M6
      else
        fo K 2 (r2) fun a8 =>
          if (M6.1 a7 6) ≤ (M6.1 a8 3) then
          if (M6.1 a3 6) ≤ (M6.1 a7 6) then
            some M6
          else
            fb (fh_si M6 a3 5 (p2)) fun M9 =>
              fo K 4 (M9.2.2 a1 9) fun a10 =>
              fb (fh_si M9 a3 6 (M9.1 a10 6)) fun M11 =>
              fo K 4 (M11.2.2 a1 9) fun a12 =>
              fb (fh_si M11 a3 7 (M11.1 a12 5)) fun M13 =>
              fo K 4 (M13.2.2 a1 9) fun a14 =>
              fb (fh_si M13 a3 8 (M13.1 a14 4)) fun M15 =>
              some M15
        else
          some M6
def f_X10_make_L104 : Nat → Nat → Int32 → Int32 → Nat → fh_K → fh_M → Option (Int32 × Nat × fh_K × fh_M)
  | 0 => fun _ _ _ _ _ _ => none
  | n + 1 => fun t v5 v6 sz K M =>
    fo K 10 (some t) fun a29 =>
      if (M.1 a29 12) ≤ v6 then
      some (v5, sz, K, M)
    else
      fi K 18 (M.2.2 a29 3) (v6) fun a30 =>
        (f_X10_judge K M a29 (M.2.2 a30 v6.toNatClampNeg) (v5)).bind fun M32 =>
        f_X10_make_L104 n t (v5) (v6 + 1) sz K M32
def f_X10_make (sz : Nat) (K : fh_K) (M : fh_M) (t : Nat) (p1 : Int32) (p2 : Int32) (p3 : Int32) (p4 : Int32) : Option (Int32 × Nat × fh_K × fh_M) :=
  if p1 < 1 then
    some ((-1), sz, K, M)
  else
    if 4 < p1 then
      some ((-1), sz, K, M)
    else
      fo K 10 (some t) fun a1 =>
        fo K 0 (M.2.2 a1 0) fun a2 =>
        if (M.1 a2 1) < p1 then
        some ((-1), sz, K, M)
      else
        if (M.1 a1 11) < 12 then
          (f_X10_areProperties K M (p2)).bind fun r3 =>
            if r3 = 0 then
            some ((-1), sz, K, M)
          else
            if p4 < 0 then
              some ((-1), sz, K, M)
            else
              if p4 ≤ 3 then
                fb (fh_uk K sz (2 + 1, 0)) fun K4 =>
                  fb (fh_clr M sz) fun M5 =>
                  fo K4 10 (some t) fun a6 =>
                  fo K4 0 (M5.2.2 a6 0) fun a7 =>
                  fc4 (f_X0_firstBytes (sz + 1) K4 M5 a7 (p1)) fun r8 w11 K10 M9 =>
                  (f_X2_init K10 M9 sz (r8) (p2) (p3) (p4)).bind fun M13 =>
                  fi K10 17 (M.2.2 a1 2) (M.1 a1 11) fun a14 =>
                  fo K10 2 (some sz) fun a15 =>
                  fb (fh_sr M13 a14 (M.1 a1 11).toNatClampNeg (some a15)) fun M16 =>
                  fo K10 10 (some t) fun a17 =>
                  fb (fh_si M16 a17 11 ((M16.1 a17 11) + 1)) fun M18 =>
                  fo K10 0 (M18.2.2 a17 0) fun a19 =>
                  (f_X0_clear K10 M18 a19).bind fun M21 =>
                  f_X10_make_L104 4096 t (M.1 a1 11) (0) w11 K10 M21
              else
                some ((-1), sz, K, M)
        else
          some ((-1), sz, K, M)
def f_X10_store_L40 : Nat → Nat → Int32 → Option Nat → Int32 → Nat → fh_K → fh_M → Option (Int32 × Nat × fh_K × fh_M)
  | 0 => fun _ _ _ _ _ _ _ => none
  | n + 1 => fun t v4 v5 v6 sz K M =>
    fo K 10 (some t) fun a11 =>
      if (M.1 a11 11) ≤ v6 then
      some (v4, sz, K, M)
    else
      (f_X10_judge K M a11 (v5) (v6)).bind fun M13 =>
        f_X10_store_L40 n t (v4) (v5) (v6 + 1) sz K M13
def f_X10_store (sz : Nat) (K : fh_K) (M : fh_M) (t : Nat) (p1 : Option Nat) (p2 : Int32) (p3 : Int32) : Option (Int32 × Nat × fh_K × fh_M) :=
  fo K 10 (some t) fun a1 =>
    fb (fh_uk K sz (7 + 1, 0)) fun K2 =>
    fb (fh_clr M sz) fun M3 =>
    (f_X7_init K2 M3 sz (p1) (p2) (p3)).bind fun M5 =>
    fo K2 10 (some t) fun a6 =>
    fi K2 18 (M5.2.2 a6 3) (M.1 a1 12) fun a7 =>
    fo K2 7 (some sz) fun a8 =>
    fb (fh_sr M5 a7 (M.1 a1 12).toNatClampNeg (some a8)) fun M9 =>
    fb (fh_si M9 a6 12 ((M9.1 a6 12) + 1)) fun M10 =>
    f_X10_store_L40 4096 t (M.1 a1 12) (some sz) (0) (sz + 1) K2 M10
def f_X10_file (sz : Nat) (K : fh_K) (M : fh_M) (t : Nat) (p1 : Int32) : Option (Int32 × Nat × fh_K × fh_M) :=
  if p1 < 1 then
    some ((-1), sz, K, M)
  else
    if 60 < p1 then
      some ((-1), sz, K, M)
    else
      fo K 10 (some t) fun a1 =>
        fo K 0 (M.2.2 a1 0) fun a2 =>
        if (M.1 a2 1) < p1 then
        some ((-1), sz, K, M)
      else
        if (M.1 a1 12) < 40 then
          fc4 (f_X0_firstBytes sz K M a2 (p1)) fun r3 w6 K5 M4 =>
            fo K5 10 (some t) fun a7 =>
            fc4 (f_X10_store w6 K5 M4 a7 (r3) ((-1)) (M4.1 a7 12)) fun r8 w11 K10 M9 =>
            fo K10 10 (some t) fun a12 =>
            fo K10 0 (M9.2.2 a12 0) fun a13 =>
            (f_X0_clear K10 M9 a13).bind fun M15 =>
            some (r8, w11, K10, M15)
        else
          some ((-1), sz, K, M)
def f_X10_fileAt (K : fh_K) (M : fh_M) (t : Nat) (p1 : Int32) : Option (Option Nat) :=
  if p1 < 0 then
    some none
  else
    fo K 10 (some t) fun a1 =>
      if (M.1 a1 12) ≤ p1 then
      some none
    else
      fi K 18 (M.2.2 a1 3) (p1) fun a2 =>
        some (M.2.2 a2 p1.toNatClampNeg)
def f_X10_must (K : fh_K) (M : fh_M) (t : Nat) (p1 : Int32) (p2 : Int32) : Option (Int32 × fh_M) :=
  fo K 10 (some t) fun a1 =>
    (f_X10_fileAt K M a1 (p1)).bind fun r2 =>
    if r2 = none then
    some (0, M)
  else
    (f_X10_areProperties K M (p2)).bind fun r3 =>
      if r3 = 0 then
      some (0, M)
    else
      fo K 7 (r2) fun a4 =>
        fb (fh_si M a4 4 (p2)) fun M5 =>
        some (1, M5)
def f_X10_isYear (K : fh_K) (M : fh_M) (p0 : Int32) : Option (Int32) :=
  if p0 < 0 then
    some 0
  else
    if 999 < p0 then
      some 0
    else
      some 1
def f_X10_machine (K : fh_K) (M : fh_M) (t : Nat) (p1 : Int32) (p2 : Int32) (p3 : Int32) : Option (Int32 × fh_M) :=
  fo K 10 (some t) fun a1 =>
    fo K 1 (M.2.2 a1 4) fun a2 =>
    (f_X1_knows K M a2 (p1)).bind fun r3 =>
    if r3 = 0 then
    some (0, M)
  else
    (f_X10_isYear K M (p2)).bind fun r4 =>
      if r4 = 0 then
      some (0, M)
    else
      (f_X10_isYear K M (p3)).bind fun r5 =>
        if r5 = 0 then
        some (0, M)
      else
        if p2 ≤ p3 then
          (f_X1_setEnds K M a2 (p1) (p2) (p3)).bind fun M7 =>
            some (1, M7)
        else
          some (0, M)
def f_X10_reader (K : fh_K) (M : fh_M) (t : Nat) (p1 : Int32) (p2 : Int32) : Option (Int32 × fh_M) :=
  fo K 10 (some t) fun a1 =>
    (f_X10_makeAt K M a1 (p1)).bind fun r2 =>
    if r2 = none then
    some (0, M)
  else
    fo K 1 (M.2.2 a1 4) fun a3 =>
      (f_X1_knows K M a3 (p2)).bind fun r4 =>
      if r4 = 0 then
      some (0, M)
    else
      fo K 3 (M.2.2 a1 5) fun a5 =>
        fc2 (f_X3_add K M a5 (p1) (p2)) fun r6 M7 =>
        fz (r6) <| some (r6, M7)
def f_X10_turner (sz : Nat) (K : fh_K) (M : fh_M) (t : Nat) (p1 : Int32) (p2 : Int32) (p3 : Int32) (p4 : Int32) (p5 : Int32) : Option (Int32 × Nat × fh_K × fh_M) :=
  fo K 10 (some t) fun a1 =>
    (f_X10_makeAt K M a1 (p2)).bind fun r2 =>
    (f_X10_makeAt K M a1 (p1)).bind fun r3 =>
    if r3 = none then
    some ((-1), sz, K, M)
  else
    if r2 = none then
      some ((-1), sz, K, M)
    else
      if p1 = p2 then
        some ((-1), sz, K, M)
      else
        (f_X10_areProperties K M (p3)).bind fun r4 =>
          if r4 = 0 then
          some ((-1), sz, K, M)
        else
          if p4 < 0 then
            some ((-1), sz, K, M)
          else
            if 9999 < p4 then
              some ((-1), sz, K, M)
            else
              fo K 1 (M.2.2 a1 4) fun a5 =>
                (f_X1_knows K M a5 (p5)).bind fun r6 =>
                if r6 = 0 then
                some ((-1), sz, K, M)
              else
                fo K 2 (r2) fun a7 =>
                  fo K 9 (M.2.2 a1 6) fun a8 =>
                  fc4 (f_X9_add sz K M a8 (p1) (p2) ((M.1 a7 1) &&& (p3 ^^^ (-1))) (p4) (p5)) fun r9 w12 K11 M10 =>
                  some (r9, w12, K11, M10)
def f_X10_isYearToCome (K : fh_K) (M : fh_M) (t : Nat) (p1 : Int32) : Option (Int32) :=
  (f_X10_isYear K M (p1)).bind fun r1 =>
    if r1 = 0 then
    some 0
  else
    fo K 10 (some t) fun a2 =>
      if p1 < (M.1 a2 13) then
      some 0
    else
      some 1
def f_X10_year (K : fh_K) (M : fh_M) (t : Nat) (p1 : Int32) : Option (Int32 × fh_M) :=
  fo K 10 (some t) fun a1 =>
    (f_X10_isYearToCome K M a1 (p1)).bind fun r2 =>
    if r2 = 0 then
    some (0, M)
  else
    fb (fh_si M a1 13 (p1)) fun M3 =>
      some (1, M3)
def f_X10_bends (K : fh_K) (M : fh_M) (t : Nat) (p1 : Int32) (p2 : Int32) : Option (Int32 × fh_M) :=
  fo K 10 (some t) fun a1 =>
    (f_X10_fileAt K M a1 (p1)).bind fun r2 =>
    (f_X10_makeAt K M a1 (p2)).bind fun r3 =>
    if r2 = none then
    some ((-1), M)
  else
    if r3 = none then
      some ((-1), M)
    else
      fo K 7 (r2) fun a4 =>
        fo K 4 (M.2.2 a1 9) fun a5 =>
        (f_X4_readBy K M a5 (r3) (M.2.2 a4 0)).bind fun M7 =>
        fo K 4 (M7.2.2 a1 9) fun a8 =>
        some (M7.1 a8 6, M7)
def f_X10_know (K : fh_K) (M : fh_M) (t : Nat) (p1 : Int32) : Option (Int32) :=
  fo K 10 (some t) fun a1 =>
    (f_X10_fileAt K M a1 (p1)).bind fun r2 =>
    if r2 = none then
    some (-1)
  else
    fo K 7 (r2) fun a3 =>
      some (M.1 a3 5)
def f_X10_readByOwnMake (K : fh_K) (M : fh_M) (t : Nat) (p1 : Option Nat) (p2 : Option Nat) : Option (fh_M) :=
  fo K 7 (p1) fun a1 =>
    fo K 10 (some t) fun a2 =>
    (f_X10_makeAt K M a2 (M.1 a1 5)).bind fun r3 =>
    if r3 = none then
    fo K 4 (p2) fun a7 =>
      (f_X4_clear K M a7).bind fun M9 =>
      some M9
  else
    fo K 4 (p2) fun a4 =>
      (f_X4_readBy K M a4 (r3) (M.2.2 a1 0)).bind fun M6 =>
      some M6
def f_X10_record (K : fh_K) (M : fh_M) (t : Nat) (p1 : Int32) (p2 : Int32) (p3 : Int32) : Option (Int32 × fh_M) :=
  fo K 10 (some t) fun a1 =>
    (f_X10_fileAt K M a1 (p1)).bind fun r2 =>
    if r2 = none then
    some ((-1), M)
  else
    (f_X10_readByOwnMake K M a1 (r2) (M.2.2 a1 9)).bind fun M4 =>
      if p2 < 0 then
      some ((-1), M4)
    else
      fo K 4 (M4.2.2 a1 9) fun a5 =>
        if p2 < (M4.1 a5 4) then
        if p3 = 0 then
          fi K 13 (M4.2.2 a5 0) (p2) fun a7 =>
            some (M4.1 a7 p2.toNatClampNeg, M4)
        else
        if p3 = 1 then
          fi K 13 (M4.2.2 a5 1) (p2) fun a9 =>
            some (M4.1 a9 p2.toNatClampNeg, M4)
        else
        if p3 = 2 then
          fi K 13 (M4.2.2 a5 2) (p2) fun a11 =>
            some (M4.1 a11 p2.toNatClampNeg, M4)
        else
          some ((-1), M4)
      else
        some ((-1), M4)
def f_X10_draftTurned_J133 (K : fh_K) (t : Nat) (v3 : Option Nat) (v4 : Int32) (M : fh_M) : Option (Int32 × fh_M) :=
  if v4 = 0 then
    fz (v4) <| some (v4, M)
  else
    fo K 2 (v3) fun a29 =>
      if (M.1 a29 2) = 0 then
      fz (v4) <| some (v4, M)
    else
      fo K 10 (some t) fun a30 =>
        fo K 0 (M.2.2 a30 1) fun a31 =>
        (f_X10_sumOfFirst K M (M.2.2 a31 0) (M.1 a31 1)).bind fun r32 =>
        fc2 (f_X0_addByte K M a31 (r32)) fun r33 M34 =>
        fz (r33) <| some (r33, M34)
def f_X10_draftTurned_J127 (K : fh_K) (rec53 : Nat → Option Nat → Option Nat → Option Nat → Int32 → Int32 → fh_M → Option (Int32 × fh_M)) (t : Nat) (v1 : Option Nat) (v2 : Option Nat) (v3 : Option Nat) (v4 : Int32) (v5 : Int32) (M : fh_M) : Option (Int32 × fh_M) :=
  rec53 t (v1) (v2) (v3) (v4) (v5 + 1) M
def f_X10_draftTurned_L53 (K : fh_K) : Nat → Nat → Option Nat → Option Nat → Option Nat → Int32 → Int32 → fh_M → Option (Int32 × fh_M)
  | 0 => fun _ _ _ _ _ _ _ => none
  | n + 1 => fun t v1 v2 v3 v4 v5 M =>
    fo K 10 (some t) fun a15 =>
      fo K 4 (M.2.2 a15 9) fun a16 =>
      if (M.1 a16 4) ≤ v5 then
      f_X10_draftTurned_J133 K t (v3) (v4) M
    else
      if v4 = 0 then
        f_X10_draftTurned_J133 K t (v3) (v4) M
      else
        fo K 8 (v2) fun a17 =>
          fi K 13 (M.2.2 a16 0) (v5) fun a18 =>
          (f_X10_holds K M (M.1 a17 2) (M.1 a18 v5.toNatClampNeg)).bind fun r19 =>
          if r19 = 0 then
          f_X10_draftTurned_J127 K (f_X10_draftTurned_L53 K n) t (v1) (v2) (v3) (v4) (v5) M
        else
          fo K 7 (v1) fun a20 =>
            fi K 13 (M.2.2 a16 2) (v5) fun a21 =>
            fi K 13 (M.2.2 a16 1) (v5) fun a22 =>
            fo K 0 (M.2.2 a15 1) fun a23 =>
            fc2 (f_X0_addPart K M a23 (M.2.2 a20 0) ((M.1 a21 v5.toNatClampNeg) - 2) ((M.1 a22 v5.toNatClampNeg) + 2)) fun r24 M25 =>
            f_X10_draftTurned_J127 K (f_X10_draftTurned_L53 K n) t (v1) (v2) (v3) (r24) (v5) M25
def f_X10_draftTurned (K : fh_K) (M : fh_M) (t : Nat) (p1 : Option Nat) (p2 : Option Nat) : Option (Int32 × fh_M) :=
  fo K 8 (p2) fun a1 =>
    fo K 10 (some t) fun a2 =>
    (f_X10_makeAt K M a2 (M.1 a1 1)).bind fun r3 =>
    if r3 = none then
    some (0, M)
  else
    (f_X10_readByOwnMake K M a2 (p1) (M.2.2 a2 9)).bind fun M5 =>
      fo K 0 (M5.2.2 a2 1) fun a6 =>
      (f_X0_clear K M5 a6).bind fun M8 =>
      fo K 2 (r3) fun a9 =>
      fa K 13 (M8.2.2 a9 0) fun a10 =>
      fo K 0 (M8.2.2 a2 1) fun a11 =>
      fc2 (f_X0_addPart K M8 a11 (M8.2.2 a9 0) (0) (nI (K a10).2)) fun r12 M13 =>
      f_X10_draftTurned_L53 K 4096 t (p1) (p2) (r3) (r12) (0) M13
def f_X10_turn (sz : Nat) (K : fh_K) (M : fh_M) (t : Nat) (p1 : Int32) (p2 : Int32) : Option (Int32 × Nat × fh_K × fh_M) :=
  fo K 10 (some t) fun a1 =>
    (f_X10_fileAt K M a1 (p1)).bind fun r2 =>
    fo K 9 (M.2.2 a1 6) fun a3 =>
    (f_X9_at K M a3 (p2)).bind fun r4 =>
    if r2 = none then
    some ((-1), sz, K, M)
  else
    if r4 = none then
      some ((-1), sz, K, M)
    else
      fo K 7 (r2) fun a5 =>
        fo K 8 (r4) fun a6 =>
        if (M.1 a5 5) = (M.1 a6 0) then
        fo K 1 (M.2.2 a1 4) fun a7 =>
          (f_X1_liveSurely K M a7 (M.1 a6 4) (M.1 a1 13)).bind fun r8 =>
          if r8 = 0 then
          some ((-1), sz, K, M)
        else
          if (M.1 a1 12) < 40 then
            fc2 (f_X10_draftTurned K M a1 (r2) (r4)) fun r9 M10 =>
              if r9 = 0 then
              some ((-1), sz, K, M10)
            else
              fb (fh_si M10 a5 3 (1)) fun M11 =>
                fo K 0 (M11.2.2 a1 1) fun a12 =>
                fc4 (f_X0_firstBytes sz K M11 a12 (M11.1 a12 1)) fun r13 w16 K15 M14 =>
                fo K15 7 (r2) fun a17 =>
                fo K15 10 (some t) fun a18 =>
                fc4 (f_X10_store w16 K15 M14 a18 (r13) (p1) (M14.1 a17 2)) fun r19 w22 K21 M20 =>
                some (r19, w22, K21, M20)
          else
            some ((-1), sz, K, M)
      else
        some ((-1), sz, K, M)
def f_X10_kept_J96 (K : fh_K) (rec49 : Nat → Int32 → Int32 → fh_M → Option (Int32 × fh_M)) (t : Nat) (v5 : Int32) (v6 : Int32) (M : fh_M) : Option (Int32 × fh_M) :=
  rec49 t (v5) (v6 + 1) M
def f_X10_kept_L49 (K : fh_K) : Nat → Nat → Int32 → Int32 → fh_M → Option (Int32 × fh_M)
  | 0 => fun _ _ _ _ => none
  | n + 1 => fun t v5 v6 M =>
    if 12 ≤ v6 then
      some (v5, M)
    else
      fo K 10 (some t) fun a10 =>
        fo K 4 (M.2.2 a10 9) fun a11 =>
        (f_X10_holds K M (M.1 a11 5) (v6)).bind fun r12 =>
        if r12 = 0 then
        f_X10_kept_J96 K (f_X10_kept_L49 K n) t (v5) (v6) M
      else
        (f_X4_agrees K M a11 (M.2.2 a10 10) (v6)).bind fun r13 =>
          if r13 = 0 then
          f_X10_kept_J96 K (f_X10_kept_L49 K n) t (v5) (v6) M
        else
          f_X10_kept_J96 K (f_X10_kept_L49 K n) t (v5 ||| (1 <<< (v6 &&& 31))) (v6) M
def f_X10_kept (K : fh_K) (M : fh_M) (t : Nat) (p1 : Int32) (p2 : Int32) : Option (Int32 × fh_M) :=
  fo K 10 (some t) fun a1 =>
    (f_X10_fileAt K M a1 (p1)).bind fun r2 =>
    (f_X10_fileAt K M a1 (p2)).bind fun r3 =>
    if r2 = none then
    some ((-1), M)
  else
    if r3 = none then
      some ((-1), M)
    else
      (f_X10_readByOwnMake K M a1 (r2) (M.2.2 a1 9)).bind fun M5 =>
        (f_X10_readByOwnMake K M5 a1 (r3) (M5.2.2 a1 10)).bind fun M7 =>
        f_X10_kept_L49 K 4096 t (0) (0) M7
def f_X10_road (K : fh_K) (M : fh_M) (t : Nat) (p1 : Int32) (p2 : Int32) : Option (Int32 × fh_M) :=
  fo K 10 (some t) fun a1 =>
    (f_X10_fileAt K M a1 (p1)).bind fun r2 =>
    if r2 = none then
    some ((-1), M)
  else
    (f_X10_makeAt K M a1 (p2)).bind fun r3 =>
      if r3 = none then
      some ((-1), M)
    else
      fo K 5 (M.2.2 a1 7) fun a4 =>
        (f_X5_search K M a4 (r2) (M.2.2 a1 6) (M.2.2 a1 4) (M.1 a1 13)).bind fun M6 =>
        fo K 5 (M6.2.2 a1 7) fun a7 =>
        (f_X5_bestTo K M6 a7 (p2)).bind fun r8 =>
        if (lg_cmp r8 (9223372036854775807 : Int64)) = 0 then
        some ((-1), M6)
      else
        fb (fh_sl M6 a1 14 (r8)) fun M9 =>
          (f_X5_priceOf K M9 (r8)).bind fun r10 =>
          some (r10, M9)
def f_X10_step (K : fh_K) (M : fh_M) (t : Nat) (p1 : Int32) : Option (Int32) :=
  fo K 10 (some t) fun a1 =>
    (f_X5_stepOf K M (M.2.1 a1 14) (p1)).bind fun r2 =>
    some r2
def f_X10_last (K : fh_K) (M : fh_M) (t : Nat) (p1 : Int32) (p2 : Int32) : Option (Int32 × fh_M) :=
  fo K 10 (some t) fun a1 =>
    (f_X10_fileAt K M a1 (p1)).bind fun r2 =>
    if r2 = none then
    some ((-1), M)
  else
    fo K 6 (M.2.2 a1 8) fun a3 =>
      (f_X6_measure K M a3 (M.2.2 a1 5) (M.2.2 a1 6) (M.2.2 a1 4) (p2)).bind fun M5 =>
      fo K 7 (r2) fun a6 =>
      fo K 6 (M5.2.2 a1 8) fun a7 =>
      (f_X6_lastYearOf K M5 a7 (M5.1 a6 5)).bind fun r8 =>
      some (r8, M5)
def f_X10_isPlanned (K : fh_K) (M : fh_M) (p0 : Option Nat) : Option (Int32) :=
  if p0 = none then
    some 0
  else
    fo K 7 (p0) fun a1 =>
      if (M.1 a1 3) = 0 then
      if (M.1 a1 5) = (-1) then
        some 0
      else
        some 1
    else
      some 0
def f_X10_cheapestGoal_J78 (K : fh_K) (rec30 : Nat → Int32 → Int32 → Int64 → Int32 → fh_M → Option (Int32 × fh_M)) (t : Nat) (v2 : Int32) (v3 : Int32) (v4 : Int64) (v6 : Int32) (M : fh_M) : Option (Int32 × fh_M) :=
  rec30 t (v2) (v3) (v4) (v6 + 1) M
def f_X10_cheapestGoal_L30 (K : fh_K) : Nat → Nat → Int32 → Int32 → Int64 → Int32 → fh_M → Option (Int32 × fh_M)
  | 0 => fun _ _ _ _ _ _ => none
  | n + 1 => fun t v2 v3 v4 v6 M =>
    fo K 10 (some t) fun a5 =>
      if (M.1 a5 11) ≤ v6 then
      some (v3, M)
    else
      if ((v2 >>> (v6 &&& 31)) &&& 1) = 1 then
        fo K 5 (M.2.2 a5 7) fun a6 =>
          (f_X5_bestTo K M a6 (v6)).bind fun r7 =>
          if 0 ≤ (lg_cmp r7 v4) then
          f_X10_cheapestGoal_J78 K (f_X10_cheapestGoal_L30 K n) t (v2) (v3) (v4) (v6) M
        else
          (f_X5_bestTo K M a6 (v6)).bind fun r8 =>
            f_X10_cheapestGoal_J78 K (f_X10_cheapestGoal_L30 K n) t (v2) (v6) (r8) (v6) M
      else
        f_X10_cheapestGoal_J78 K (f_X10_cheapestGoal_L30 K n) t (v2) (v3) (v4) (v6) M
def f_X10_cheapestGoal (K : fh_K) (M : fh_M) (t : Nat) (p1 : Option Nat) (p2 : Int32) : Option (Int32 × fh_M) :=
  fo K 10 (some t) fun a1 =>
    fo K 5 (M.2.2 a1 7) fun a2 =>
    (f_X5_search K M a2 (p1) (M.2.2 a1 6) (M.2.2 a1 4) (M.1 a1 13)).bind fun M4 =>
    f_X10_cheapestGoal_L30 K 4096 t (p2) ((-1)) (9223372036854775807) (0) M4
def f_X10_plan_J87 (K : fh_K) (rec28 : Nat → Int32 → Int32 → Int32 → fh_M → Option (Int32 × fh_M)) (t : Nat) (v2 : Int32) (v3 : Int32) (v4 : Int32) (M : fh_M) : Option (Int32 × fh_M) :=
  rec28 t (v2) (v3) (v4 + 1) M
def f_X10_plan_L28 (K : fh_K) : Nat → Nat → Int32 → Int32 → Int32 → fh_M → Option (Int32 × fh_M)
  | 0 => fun _ _ _ _ _ => none
  | n + 1 => fun t v2 v3 v4 M =>
    fo K 10 (some t) fun a6 =>
      if (M.1 a6 12) ≤ v4 then
      some (v3, M)
    else
      fi K 18 (M.2.2 a6 3) (v4) fun a7 =>
        (f_X10_isPlanned K M (M.2.2 a7 v4.toNatClampNeg)).bind fun r8 =>
        if r8 = 0 then
        f_X10_plan_J87 K (f_X10_plan_L28 K n) t (v2) (v3) (v4) M
      else
        fc2 (f_X10_cheapestGoal K M a6 (M.2.2 a7 v4.toNatClampNeg) (v2)) fun r9 M10 =>
          if r9 = (-1) then
          some ((-2), M10)
        else
          fo K 5 (M10.2.2 a6 7) fun a11 =>
            (f_X5_bestTo K M10 a11 (r9)).bind fun r12 =>
            (f_X5_priceOf K M10 (r12)).bind fun r13 =>
            f_X10_plan_J87 K (f_X10_plan_L28 K n) t (v2) (v3 + r13) (v4) M10
def f_X10_plan (K : fh_K) (M : fh_M) (t : Nat) (p1 : Int32) : Option (Int32 × fh_M) :=
  fo K 10 (some t) fun a1 =>
    (f_X10_isYearToCome K M a1 (p1)).bind fun r2 =>
    if r2 = 0 then
    some ((-1), M)
  else
    fo K 3 (M.2.2 a1 5) fun a3 =>
      (f_X3_makesOpenIn K M a3 (M.2.2 a1 4) (p1)).bind fun r4 =>
      f_X10_plan_L28 K 4096 t (r4) (0) (0) M
def f_X10_goal (K : fh_K) (M : fh_M) (t : Nat) (p1 : Int32) (p2 : Int32) : Option (Int32 × fh_M) :=
  fo K 10 (some t) fun a1 =>
    (f_X10_fileAt K M a1 (p2)).bind fun r2 =>
    (f_X10_isYearToCome K M a1 (p1)).bind fun r3 =>
    if r3 = 0 then
    some ((-1), M)
  else
    (f_X10_isPlanned K M (r2)).bind fun r4 =>
      if r4 = 0 then
      some ((-1), M)
    else
      fo K 3 (M.2.2 a1 5) fun a5 =>
        (f_X3_makesOpenIn K M a5 (M.2.2 a1 4) (p1)).bind fun r6 =>
        fc2 (f_X10_cheapestGoal K M a1 (r2) (r6)) fun r7 M8 =>
        some (r7, M8)
def f_X10_byteAsked (K : fh_K) (M : fh_M) (p0 : Option Nat) (p1 : Int32) : Option (Int32) :=
  if p1 < 100 then
    some (-1)
  else
    fa K 13 (p0) fun a1 =>
      if (p1 - 100) < (nI (K a1).2) then
      fi K 13 (p0) (p1 - 100) fun a2 =>
        some (M.1 a2 (p1 - 100).toNatClampNeg)
    else
      some (-1)
def f_X10_look (K : fh_K) (M : fh_M) (t : Nat) (p1 : Int32) (p2 : Int32) : Option (Int32) :=
  fo K 10 (some t) fun a1 =>
    (f_X10_fileAt K M a1 (p1)).bind fun r2 =>
    if r2 = none then
    some (-1)
  else
    if p2 = 0 then
      fo K 7 (r2) fun a4 =>
        fa K 13 (M.2.2 a4 0) fun a5 =>
        some (nI (K a5).2)
    else
    if p2 = 1 then
      fo K 7 (r2) fun a7 =>
        some (M.1 a7 8)
    else
    if p2 = 2 then
      fo K 7 (r2) fun a9 =>
        some (M.1 a9 7)
    else
    if p2 = 3 then
      fo K 7 (r2) fun a11 =>
        some (M.1 a11 4)
    else
    if p2 = 4 then
      fo K 7 (r2) fun a13 =>
        some (M.1 a13 1)
    else
    if p2 = 5 then
      fo K 7 (r2) fun a15 =>
        some (M.1 a15 2)
    else
      fo K 7 (r2) fun a16 =>
        (f_X10_byteAsked K M (M.2.2 a16 0) (p2)).bind fun r17 =>
        some r17
def f_X10_filesWithoutMake_J24 (K : fh_K) (M : fh_M) (rec4 : Nat → Int32 → Int32 → Option (Int32)) (t : Nat) (v1 : Int32) (v2 : Int32) : Option (Int32) :=
  rec4 t (v1) (v2 + 1) 
def f_X10_filesWithoutMake_L4 (K : fh_K) (M : fh_M) : Nat → Nat → Int32 → Int32 → Option (Int32)
  | 0 => fun _ _ _ => none
  | n + 1 => fun t v1 v2 =>
    fo K 10 (some t) fun a1 =>
      if (M.1 a1 12) ≤ v2 then
      some v1
    else
      (f_X10_know K M a1 (v2)).bind fun r2 =>
        if r2 = (-1) then
        f_X10_filesWithoutMake_J24 K M (f_X10_filesWithoutMake_L4 K M n) t (v1 + 1) (v2) 
      else
        f_X10_filesWithoutMake_J24 K M (f_X10_filesWithoutMake_L4 K M n) t (v1) (v2) 
def f_X10_filesWithoutMake (K : fh_K) (M : fh_M) (t : Nat) : Option (Int32) :=
  f_X10_filesWithoutMake_L4 K M 4096 t (0) (0) 
def f_X10_filesBeyondReading_J54 (K : fh_K) (rec24 : Nat → Int32 → Int32 → fh_M → Option (Int32 × fh_M)) (t : Nat) (v1 : Int32) (v2 : Int32) (M : fh_M) : Option (Int32 × fh_M) :=
  rec24 t (v1) (v2 + 1) M
def f_X10_filesBeyondReading_L24 (K : fh_K) : Nat → Nat → Int32 → Int32 → fh_M → Option (Int32 × fh_M)
  | 0 => fun _ _ _ _ => none
  | n + 1 => fun t v1 v2 M =>
    fo K 10 (some t) fun a5 =>
      if (M.1 a5 12) ≤ v2 then
      some (v1, M)
    else
      (f_X10_know K M a5 (v2)).bind fun r6 =>
        fo K 6 (M.2.2 a5 8) fun a7 =>
        (f_X6_lastYearOf K M a7 (r6)).bind fun r8 =>
        if (M.1 a5 13) ≤ r8 then
        f_X10_filesBeyondReading_J54 K (f_X10_filesBeyondReading_L24 K n) t (v1) (v2) M
      else
        f_X10_filesBeyondReading_J54 K (f_X10_filesBeyondReading_L24 K n) t (v1 + 1) (v2) M
def f_X10_filesBeyondReading (K : fh_K) (M : fh_M) (t : Nat) : Option (Int32 × fh_M) :=
  fo K 10 (some t) fun a1 =>
    fo K 6 (M.2.2 a1 8) fun a2 =>
    (f_X6_measure K M a2 (M.2.2 a1 5) (M.2.2 a1 6) (M.2.2 a1 4) (0)).bind fun M4 =>
    f_X10_filesBeyondReading_L24 K 4096 t (0) (0) M4
def f_X10_count (K : fh_K) (M : fh_M) (t : Nat) (p1 : Int32) : Option (Int32 × fh_M) :=
  if p1 = 0 then
    fo K 10 (some t) fun a2 =>
      some (M.1 a2 11, M)
  else
  if p1 = 1 then
    fo K 10 (some t) fun a4 =>
      some (M.1 a4 12, M)
  else
  if p1 = 2 then
    fo K 10 (some t) fun a6 =>
      fo K 3 (M.2.2 a6 5) fun a7 =>
      some (M.1 a7 2, M)
  else
  if p1 = 3 then
    fo K 10 (some t) fun a9 =>
      fo K 9 (M.2.2 a9 6) fun a10 =>
      some (M.1 a10 1, M)
  else
  if p1 = 4 then
    fo K 10 (some t) fun a12 =>
      some (M.1 a12 13, M)
  else
  if p1 = 5 then
    fo K 10 (some t) fun a14 =>
      fo K 0 (M.2.2 a14 0) fun a15 =>
      some (M.1 a15 1, M)
  else
  if p1 = 6 then
    fo K 10 (some t) fun a17 =>
      (f_X10_filesWithoutMake K M a17).bind fun r18 =>
      some (r18, M)
  else
  if p1 = 7 then
    fo K 10 (some t) fun a20 =>
      fc2 (f_X10_filesBeyondReading K M a20) fun r21 M22 =>
      some (r21, M22)
  else
    some ((-1), M)
abbrev rm_X10_init : Room := { frames := 2, cells := 31, slots := 564, locals := 45 }
set_option maxRecDepth 10000 in
theorem r_X10_init (l : Launch) (D : fh_D) (A : Nat → Prop) {K : fh_K} {sz : Nat} {M : fh_M} {M' : fh_M} {K' : fh_K} {sz' : Nat} {t : Nat} (h : f_X10_init sz K M t = some (sz', K', M')) : fh_Met l yX10_init cX10_init 1 none rm_X10_init D K M sz A [va_rf (some t)] none K' M' sz' := by
  refine fh_enter (by decide) (by simp [lg_sl, va_rf_cat, cat_i, cat_l]) (lv := [(0, va_rf (some t))]) (by simp [lv_args, va_rf_cat, cat_i, cat_l]) ?_
  intro X C E hnm _ _ _
  replace C : fh_C X 1 cX10_init RX10 := C
  unfold f_X10_init at h
  refine fv_aload_n C 0 rfl rfl dX10_init_0 ?_
  refine fv_objInit C lk_RX10_1 jw_oi_instanceMethod jw_oi_code (Nat.le_of_ble_eq_true rfl) (by simp [va_rf_cat, cat_i, cat_l]) dX10_init_1 ?_
  refine fv_aload_n C 0 rfl rfl dX10_init_4 ?_
  replace h := fb_s h
  obtain ⟨K1, eK1, h⟩ := h
  replace h := fb_s h
  obtain ⟨M2, eM2, h⟩ := h
  refine fv_new C cl_RX10_7 (Nat.le_of_ble_eq_true rfl) (Nat.le_of_ble_eq_true rfl) dX10_init_5 ?_
  refine fv_eqK eK1 (fv_eqM eM2 ?_)
  refine fv_dupr C dX10_init_8 ?_
  refine fv_bipush (v := 80) C (by decide) dX10_init_9 ?_
  replace h := fc3_s h
  obtain ⟨w6, K5, M4, er3, h⟩ := h
  refine fv_callI (b := sz) [.int 80] C mi_X0_init rfl lk_RX10_11 (r_X0_init _ _ _ er3) ⟨Nat.le_of_ble_eq_true rfl, Nat.le_of_ble_eq_true rfl⟩ ⟨Nat.le_of_ble_eq_true rfl, Nat.le_of_ble_eq_true rfl⟩ rfl rfl (by simp [va_rf_cat, cat_i, cat_l]) dX10_init_11 ?_
  show fh_V X rm_X10_init 1 (w6, 2, 82) K5 M4 _ _ [va_rf (some sz), va_rf (some t)]
  replace h := fo_s h
  obtain ⟨a7, ea7, ka7, h⟩ := h
  replace h := fb_s h
  obtain ⟨M8, eM8, h⟩ := h
  refine fv_putFR (fin := true) C fl_RX10_14 ea7 ka7 rfl hnm (narrow_rf_o _ _) dX10_init_14 (fv_eqM eM8 ?_)
  refine fv_aload_n C 0 rfl rfl dX10_init_17 ?_
  replace h := fb_s h
  obtain ⟨K9, eK9, h⟩ := h
  replace h := fb_s h
  obtain ⟨M10, eM10, h⟩ := h
  refine fv_new C cl_RX10_7 (Nat.le_of_ble_eq_true rfl) (Nat.le_of_ble_eq_true rfl) dX10_init_18 ?_
  refine fv_eqK eK9 (fv_eqM eM10 ?_)
  refine fv_dupr C dX10_init_21 ?_
  refine fv_bipush (v := 60) C (by decide) dX10_init_22 ?_
  replace h := fc3_s h
  obtain ⟨w14, K13, M12, er11, h⟩ := h
  refine fv_callI (b := w6) [.int 60] C mi_X0_init rfl lk_RX10_11 (r_X0_init _ _ _ er11) ⟨Nat.le_of_ble_eq_true rfl, Nat.le_of_ble_eq_true rfl⟩ ⟨Nat.le_of_ble_eq_true rfl, Nat.le_of_ble_eq_true rfl⟩ rfl rfl (by simp [va_rf_cat, cat_i, cat_l]) dX10_init_24 ?_
  show fh_V X rm_X10_init 1 (w14, 4, 164) K13 M12 _ _ [va_rf (some w6), va_rf (some t)]
  replace h := fo_s h
  obtain ⟨a15, ea15, ka15, h⟩ := h
  replace h := fb_s h
  obtain ⟨M16, eM16, h⟩ := h
  refine fv_putFR (fin := true) C fl_RX10_18 ea15 ka15 rfl hnm (narrow_rf_o _ _) dX10_init_27 (fv_eqM eM16 ?_)
  refine fv_aload_n C 0 rfl rfl dX10_init_30 ?_
  refine fv_bipush (v := 12) C (by decide) dX10_init_31 ?_
  replace h := fn_s h
  obtain ⟨N17, pN17, qN17, bN17, h⟩ := h
  replace h := fb_s h
  obtain ⟨K18, eK18, h⟩ := h
  replace h := fb_s h
  obtain ⟨M19, eM19, h⟩ := h
  refine fv_newQ (t := 17) C 4 (by decide) (fun _ => rfl) (fun _ _ q => q.2.2.2.1) ck_RX10_21 pN17 qN17 (Nat.le_trans bN17 (by decide)) (Nat.le_of_ble_eq_true rfl) (by show 164 + N17 ≤ _; exact Nat.le_trans (Nat.add_le_add_left bN17 _) (Nat.le_of_ble_eq_true rfl)) dX10_init_33 ?_
  refine fv_eqK eK18 (fv_eqM eM19 ?_)
  refine fv_widen (mc := 5) (ms := 176) (cc := ⟨#[]⟩) (own := "") (Nat.le_of_ble_eq_true rfl) (by exact Nat.add_le_add_left bN17 _) ?_
  replace h := fo_s h
  obtain ⟨a20, ea20, ka20, h⟩ := h
  replace h := fb_s h
  obtain ⟨M21, eM21, h⟩ := h
  refine fv_putFR (fin := true) C fl_RX10_23 ea20 ka20 rfl hnm (narrow_rf_a _ _) dX10_init_36 (fv_eqM eM21 ?_)
  refine fv_aload_n C 0 rfl rfl dX10_init_39 ?_
  refine fv_bipush (v := 40) C (by decide) dX10_init_40 ?_
  replace h := fn_s h
  obtain ⟨N22, pN22, qN22, bN22, h⟩ := h
  replace h := fb_s h
  obtain ⟨K23, eK23, h⟩ := h
  replace h := fb_s h
  obtain ⟨M24, eM24, h⟩ := h
  refine fv_newQ (t := 18) C 5 (by decide) (fun _ => rfl) (fun _ _ q => q.2.2.2.2.1) ck_RX10_27 pN22 qN22 (Nat.le_trans bN22 (by decide)) (Nat.le_of_ble_eq_true rfl) (by show 176 + N22 ≤ _; exact Nat.le_trans (Nat.add_le_add_left bN22 _) (Nat.le_of_ble_eq_true rfl)) dX10_init_42 ?_
  refine fv_eqK eK23 (fv_eqM eM24 ?_)
  refine fv_widen (mc := 6) (ms := 216) (cc := ⟨#[]⟩) (own := "") (Nat.le_of_ble_eq_true rfl) (by exact Nat.add_le_add_left bN22 _) ?_
  replace h := fo_s h
  obtain ⟨a25, ea25, ka25, h⟩ := h
  replace h := fb_s h
  obtain ⟨M26, eM26, h⟩ := h
  refine fv_putFR (fin := true) C fl_RX10_29 ea25 ka25 rfl hnm (narrow_rf_a _ _) dX10_init_45 (fv_eqM eM26 ?_)
  refine fv_aload_n C 0 rfl rfl dX10_init_48 ?_
  replace h := fb_s h
  obtain ⟨K27, eK27, h⟩ := h
  replace h := fb_s h
  obtain ⟨M28, eM28, h⟩ := h
  refine fv_new C cl_RX10_33 (Nat.le_of_ble_eq_true rfl) (Nat.le_of_ble_eq_true rfl) dX10_init_49 ?_
  refine fv_eqK eK27 (fv_eqM eM28 ?_)
  refine fv_dupr C dX10_init_52 ?_
  replace h := fc3_s h
  obtain ⟨w32, K31, M30, er29, h⟩ := h
  refine fv_callI (b := (w14 + 2)) [] C mi_X1_init rfl lk_RX10_35 (r_X1_init _ _ _ er29) ⟨Nat.le_of_ble_eq_true rfl, Nat.le_of_ble_eq_true rfl⟩ ⟨Nat.le_of_ble_eq_true rfl, Nat.le_of_ble_eq_true rfl⟩ rfl rfl (by simp [va_rf_cat, cat_i, cat_l]) dX10_init_53 ?_
  show fh_V X rm_X10_init 1 (w32, 9, 234) K31 M30 _ _ [va_rf (some (w14 + 2)), va_rf (some t)]
  replace h := fo_s h
  obtain ⟨a33, ea33, ka33, h⟩ := h
  replace h := fb_s h
  obtain ⟨M34, eM34, h⟩ := h
  refine fv_putFR (fin := true) C fl_RX10_36 ea33 ka33 rfl hnm (narrow_rf_o _ _) dX10_init_56 (fv_eqM eM34 ?_)
  refine fv_aload_n C 0 rfl rfl dX10_init_59 ?_
  replace h := fb_s h
  obtain ⟨K35, eK35, h⟩ := h
  replace h := fb_s h
  obtain ⟨M36, eM36, h⟩ := h
  refine fv_new C cl_RX10_40 (Nat.le_of_ble_eq_true rfl) (Nat.le_of_ble_eq_true rfl) dX10_init_60 ?_
  refine fv_eqK eK35 (fv_eqM eM36 ?_)
  refine fv_dupr C dX10_init_63 ?_
  replace h := fc3_s h
  obtain ⟨w40, K39, M38, er37, h⟩ := h
  refine fv_callIN (b := w32) [] C mi_X3_init rfl ln_RX10_42 (r_X3_init _ _ _ er37) ⟨Nat.le_of_ble_eq_true rfl, Nat.le_of_ble_eq_true rfl⟩ ⟨Nat.le_of_ble_eq_true rfl, Nat.le_of_ble_eq_true rfl⟩ rfl rfl (by simp [va_rf_cat, cat_i, cat_l]) dX10_init_64 ?_
  show fh_V X rm_X10_init 1 (w40, 12, 285) K39 M38 _ _ [va_rf (some w32), va_rf (some t)]
  replace h := fo_s h
  obtain ⟨a41, ea41, ka41, h⟩ := h
  replace h := fb_s h
  obtain ⟨M42, eM42, h⟩ := h
  refine fv_putFR (fin := true) C fl_RX10_43 ea41 ka41 rfl hnm (narrow_rf_o _ _) dX10_init_67 (fv_eqM eM42 ?_)
  refine fv_aload_n C 0 rfl rfl dX10_init_70 ?_
  replace h := fb_s h
  obtain ⟨K43, eK43, h⟩ := h
  replace h := fb_s h
  obtain ⟨M44, eM44, h⟩ := h
  refine fv_new C cl_RX10_47 (Nat.le_of_ble_eq_true rfl) (Nat.le_of_ble_eq_true rfl) dX10_init_71 ?_
  refine fv_eqK eK43 (fv_eqM eM44 ?_)
  refine fv_dupr C dX10_init_74 ?_
  replace h := fc3_s h
  obtain ⟨w48, K47, M46, er45, h⟩ := h
  refine fv_callIN (b := w40) [] C mi_X9_init rfl ln_RX10_49 (r_X9_init _ _ _ er45) ⟨Nat.le_of_ble_eq_true rfl, Nat.le_of_ble_eq_true rfl⟩ ⟨Nat.le_of_ble_eq_true rfl, Nat.le_of_ble_eq_true rfl⟩ rfl rfl (by simp [va_rf_cat, cat_i, cat_l]) dX10_init_75 ?_
  show fh_V X rm_X10_init 1 (w48, 14, 311) K47 M46 _ _ [va_rf (some w40), va_rf (some t)]
  replace h := fo_s h
  obtain ⟨a49, ea49, ka49, h⟩ := h
  replace h := fb_s h
  obtain ⟨M50, eM50, h⟩ := h
  refine fv_putFR (fin := true) C fl_RX10_50 ea49 ka49 rfl hnm (narrow_rf_o _ _) dX10_init_78 (fv_eqM eM50 ?_)
  refine fv_aload_n C 0 rfl rfl dX10_init_81 ?_
  replace h := fb_s h
  obtain ⟨K51, eK51, h⟩ := h
  replace h := fb_s h
  obtain ⟨M52, eM52, h⟩ := h
  refine fv_new C cl_RX10_54 (Nat.le_of_ble_eq_true rfl) (Nat.le_of_ble_eq_true rfl) dX10_init_82 ?_
  refine fv_eqK eK51 (fv_eqM eM52 ?_)
  refine fv_dupr C dX10_init_85 ?_
  replace h := fc3_s h
  obtain ⟨w56, K55, M54, er53, h⟩ := h
  refine fv_callIN (b := w48) [] C mi_X5_init rfl ln_RX10_56 (r_X5_init _ _ _ er53) ⟨Nat.le_of_ble_eq_true rfl, Nat.le_of_ble_eq_true rfl⟩ ⟨Nat.le_of_ble_eq_true rfl, Nat.le_of_ble_eq_true rfl⟩ rfl rfl (by simp [va_rf_cat, cat_i, cat_l]) dX10_init_86 ?_
  show fh_V X rm_X10_init 1 (w56, 18, 350) K55 M54 _ _ [va_rf (some w48), va_rf (some t)]
  replace h := fo_s h
  obtain ⟨a57, ea57, ka57, h⟩ := h
  replace h := fb_s h
  obtain ⟨M58, eM58, h⟩ := h
  refine fv_putFR (fin := true) C fl_RX10_57 ea57 ka57 rfl hnm (narrow_rf_o _ _) dX10_init_89 (fv_eqM eM58 ?_)
  refine fv_aload_n C 0 rfl rfl dX10_init_92 ?_
  replace h := fb_s h
  obtain ⟨K59, eK59, h⟩ := h
  replace h := fb_s h
  obtain ⟨M60, eM60, h⟩ := h
  refine fv_new C cl_RX10_61 (Nat.le_of_ble_eq_true rfl) (Nat.le_of_ble_eq_true rfl) dX10_init_93 ?_
  refine fv_eqK eK59 (fv_eqM eM60 ?_)
  refine fv_dupr C dX10_init_96 ?_
  replace h := fc3_s h
  obtain ⟨w64, K63, M62, er61, h⟩ := h
  refine fv_callIN (b := w56) [] C mi_X6_init rfl ln_RX10_63 (r_X6_init _ _ _ er61) ⟨Nat.le_of_ble_eq_true rfl, Nat.le_of_ble_eq_true rfl⟩ ⟨Nat.le_of_ble_eq_true rfl, Nat.le_of_ble_eq_true rfl⟩ rfl rfl (by simp [va_rf_cat, cat_i, cat_l]) dX10_init_97 ?_
  show fh_V X rm_X10_init 1 (w64, 21, 376) K63 M62 _ _ [va_rf (some w56), va_rf (some t)]
  replace h := fo_s h
  obtain ⟨a65, ea65, ka65, h⟩ := h
  replace h := fb_s h
  obtain ⟨M66, eM66, h⟩ := h
  refine fv_putFR (fin := true) C fl_RX10_64 ea65 ka65 rfl hnm (narrow_rf_o _ _) dX10_init_100 (fv_eqM eM66 ?_)
  refine fv_aload_n C 0 rfl rfl dX10_init_103 ?_
  replace h := fb_s h
  obtain ⟨K67, eK67, h⟩ := h
  replace h := fb_s h
  obtain ⟨M68, eM68, h⟩ := h
  refine fv_new C cl_RX10_68 (Nat.le_of_ble_eq_true rfl) (Nat.le_of_ble_eq_true rfl) dX10_init_104 ?_
  refine fv_eqK eK67 (fv_eqM eM68 ?_)
  refine fv_dupr C dX10_init_107 ?_
  replace h := fc3_s h
  obtain ⟨w72, K71, M70, er69, h⟩ := h
  refine fv_callIN (b := w64) [] C mi_X4_init rfl ln_RX10_70 (r_X4_init _ _ _ er69) ⟨Nat.le_of_ble_eq_true rfl, Nat.le_of_ble_eq_true rfl⟩ ⟨Nat.le_of_ble_eq_true rfl, Nat.le_of_ble_eq_true rfl⟩ rfl rfl (by simp [va_rf_cat, cat_i, cat_l]) dX10_init_108 ?_
  show fh_V X rm_X10_init 1 (w72, 26, 470) K71 M70 _ _ [va_rf (some w64), va_rf (some t)]
  replace h := fo_s h
  obtain ⟨a73, ea73, ka73, h⟩ := h
  replace h := fb_s h
  obtain ⟨M74, eM74, h⟩ := h
  refine fv_putFR (fin := true) C fl_RX10_71 ea73 ka73 rfl hnm (narrow_rf_o _ _) dX10_init_111 (fv_eqM eM74 ?_)
  refine fv_aload_n C 0 rfl rfl dX10_init_114 ?_
  replace h := fb_s h
  obtain ⟨K75, eK75, h⟩ := h
  replace h := fb_s h
  obtain ⟨M76, eM76, h⟩ := h
  refine fv_new C cl_RX10_68 (Nat.le_of_ble_eq_true rfl) (Nat.le_of_ble_eq_true rfl) dX10_init_115 ?_
  refine fv_eqK eK75 (fv_eqM eM76 ?_)
  refine fv_dupr C dX10_init_118 ?_
  replace h := fc3_s h
  obtain ⟨w80, K79, M78, er77, h⟩ := h
  refine fv_callIN (b := w72) [] C mi_X4_init rfl ln_RX10_70 (r_X4_init _ _ _ er77) ⟨Nat.le_of_ble_eq_true rfl, Nat.le_of_ble_eq_true rfl⟩ ⟨Nat.le_of_ble_eq_true rfl, Nat.le_of_ble_eq_true rfl⟩ rfl rfl (by simp [va_rf_cat, cat_i, cat_l]) dX10_init_119 ?_
  show fh_V X rm_X10_init 1 (w80, 31, 564) K79 M78 _ _ [va_rf (some w72), va_rf (some t)]
  replace h := fo_s h
  obtain ⟨a81, ea81, ka81, h⟩ := h
  replace h := fb_s h
  obtain ⟨M82, eM82, h⟩ := h
  refine fv_putFR (fin := true) C fl_RX10_75 ea81 ka81 rfl hnm (narrow_rf_o _ _) dX10_init_122 (fv_eqM eM82 ?_)
  refine fv_aload_n C 0 rfl rfl dX10_init_125 ?_
  refine fv_iconst (v := 0) C (by decide) dX10_init_126 ?_
  replace h := fb_s h
  obtain ⟨M83, eM83, h⟩ := h
  refine fv_putI (fin := false) C fl_RX10_78 ea81 ka81 (narrow_i _) dX10_init_127 (fv_eqM eM83 ?_)
  refine fv_aload_n C 0 rfl rfl dX10_init_130 ?_
  refine fv_iconst (v := 0) C (by decide) dX10_init_131 ?_
  replace h := fb_s h
  obtain ⟨M84, eM84, h⟩ := h
  refine fv_putI (fin := false) C fl_RX10_82 ea81 ka81 (narrow_i _) dX10_init_132 (fv_eqM eM84 ?_)
  refine fv_aload_n C 0 rfl rfl dX10_init_135 ?_
  refine fv_iconst (v := 0) C (by decide) dX10_init_136 ?_
  replace h := fb_s h
  obtain ⟨M85, eM85, h⟩ := h
  refine fv_putI (fin := false) C fl_RX10_85 ea81 ka81 (narrow_i _) dX10_init_137 (fv_eqM eM85 ?_)
  refine fv_aload_n C 0 rfl rfl dX10_init_140 ?_
  refine fv_lconst (v := 0) C (by decide) dX10_init_141 ?_
  replace h := fb_s h
  obtain ⟨M86, eM86, h⟩ := h
  refine fv_putJ (fin := false) C fl_RX10_88 ea81 ka81 (narrow_l _) dX10_init_142 (fv_eqM eM86 ?_)
  cases h
  exact fv_vret (z := (0, 0, 0)) (st := []) C E dX10_init_145
abbrev rm_X10_feed : Room := { frames := 2, cells := 0, slots := 0, locals := 43 }
set_option maxRecDepth 10000 in
theorem r_X10_feed (l : Launch) (D : fh_D) (A : Nat → Prop) {K : fh_K} {sz : Nat} {M : fh_M} {M' : fh_M} {r : Int32} {t : Nat} {p1 : Int32} {p2 : Int32} {p3 : Int32} {p4 : Int32} {p5 : Int32} (h : f_X10_feed K M t p1 p2 p3 p4 p5 = some (r, M')) : fh_Met l yX10_feed cX10_feed 6 (some .int) rm_X10_feed D K M sz A [va_rf (some t), .int p1, .int p2, .int p3, .int p4, .int p5] (some (.int r)) K M' sz := by
  refine fh_enter (by decide) (by simp [lg_sl, va_rf_cat, cat_i, cat_l]) (lv := [(0, va_rf (some t)), (1, .int p1), (2, .int p2), (3, .int p3), (4, .int p4), (5, .int p5)]) (by simp [lv_args, va_rf_cat, cat_i, cat_l]) ?_
  intro X C E hnm _ _ _
  replace C : fh_C X 6 cX10_feed RX10 := C
  unfold f_X10_feed at h
  refine fv_aload_n C 0 rfl rfl dX10_feed_0 ?_
  replace h := fo_s h
  obtain ⟨a1, ea1, ka1, h⟩ := h
  refine fv_getR C fl_RX10_14 ea1 ka1 dX10_feed_1 ?_
  replace h := fo_s h
  obtain ⟨a2, ea2, ka2, h⟩ := h
  replace h := bx h
  obtain ⟨r3, er3, h⟩ := h
  refine fv_callV [] C mi_X0_room ms_X0_room lk_RX10_92 ea2 ka2 (r_X0_room _ _ _ er3) ⟨Nat.le_of_ble_eq_true rfl, Nat.le_of_ble_eq_true rfl⟩ ⟨Nat.le_of_ble_eq_true rfl, Nat.le_of_ble_eq_true rfl⟩ rfl rfl (by simp [va_rf_cat, cat_i, cat_l]) dX10_feed_4 ?_
  show fh_V X rm_X10_feed 6 (sz, 0, 0) K M _ _ [.int r3]
  refine fv_bipush (v := 20) C (by decide) dX10_feed_7 ?_
  refine fv_icmp_ge C 14 (by decide) dX10_feed_9 (fun c19 => ?_) (fun c19 => ?_)
  · replace h := itT c19 h
    refine fv_aload_n C 0 rfl rfl dX10_feed_14 ?_
    refine fv_getR C fl_RX10_14 ea1 ka1 dX10_feed_15 ?_
    refine fv_iload_n C 1 rfl rfl dX10_feed_18 ?_
    replace h := bx h
    obtain ⟨M5, er4, h⟩ := h
    refine fv_callV [.int p1] C mi_X0_addWord ms_X0_addWord lk_RX10_96 ea2 ka2 (r_X0_addWord _ _ _ er4) ⟨Nat.le_of_ble_eq_true rfl, Nat.le_of_ble_eq_true rfl⟩ ⟨Nat.le_of_ble_eq_true rfl, Nat.le_of_ble_eq_true rfl⟩ rfl rfl (by simp [va_rf_cat, cat_i, cat_l]) dX10_feed_19 ?_
    show fh_V X rm_X10_feed 6 (sz, 0, 0) K M5 _ _ []
    refine fv_aload_n C 0 rfl rfl dX10_feed_22 ?_
    refine fv_getR C fl_RX10_14 ea1 ka1 dX10_feed_23 ?_
    refine fv_iload_n C 2 rfl rfl dX10_feed_26 ?_
    replace h := fo_s h
    obtain ⟨a6, ea6, ka6, h⟩ := h
    replace h := bx h
    obtain ⟨M8, er7, h⟩ := h
    refine fv_callV [.int p2] C mi_X0_addWord ms_X0_addWord lk_RX10_96 ea6 ka6 (r_X0_addWord _ _ _ er7) ⟨Nat.le_of_ble_eq_true rfl, Nat.le_of_ble_eq_true rfl⟩ ⟨Nat.le_of_ble_eq_true rfl, Nat.le_of_ble_eq_true rfl⟩ rfl rfl (by simp [va_rf_cat, cat_i, cat_l]) dX10_feed_27 ?_
    show fh_V X rm_X10_feed 6 (sz, 0, 0) K M8 _ _ []
    refine fv_aload_n C 0 rfl rfl dX10_feed_30 ?_
    refine fv_getR C fl_RX10_14 ea1 ka1 dX10_feed_31 ?_
    refine fv_iload_n C 3 rfl rfl dX10_feed_34 ?_
    replace h := fo_s h
    obtain ⟨a9, ea9, ka9, h⟩ := h
    replace h := bx h
    obtain ⟨M11, er10, h⟩ := h
    refine fv_callV [.int p3] C mi_X0_addWord ms_X0_addWord lk_RX10_96 ea9 ka9 (r_X0_addWord _ _ _ er10) ⟨Nat.le_of_ble_eq_true rfl, Nat.le_of_ble_eq_true rfl⟩ ⟨Nat.le_of_ble_eq_true rfl, Nat.le_of_ble_eq_true rfl⟩ rfl rfl (by simp [va_rf_cat, cat_i, cat_l]) dX10_feed_35 ?_
    show fh_V X rm_X10_feed 6 (sz, 0, 0) K M11 _ _ []
    refine fv_aload_n C 0 rfl rfl dX10_feed_38 ?_
    refine fv_getR C fl_RX10_14 ea1 ka1 dX10_feed_39 ?_
    refine fv_iload C 4 rfl dX10_feed_42 ?_
    replace h := fo_s h
    obtain ⟨a12, ea12, ka12, h⟩ := h
    replace h := bx h
    obtain ⟨M14, er13, h⟩ := h
    refine fv_callV [.int p4] C mi_X0_addWord ms_X0_addWord lk_RX10_96 ea12 ka12 (r_X0_addWord _ _ _ er13) ⟨Nat.le_of_ble_eq_true rfl, Nat.le_of_ble_eq_true rfl⟩ ⟨Nat.le_of_ble_eq_true rfl, Nat.le_of_ble_eq_true rfl⟩ rfl rfl (by simp [va_rf_cat, cat_i, cat_l]) dX10_feed_44 ?_
    show fh_V X rm_X10_feed 6 (sz, 0, 0) K M14 _ _ []
    refine fv_aload_n C 0 rfl rfl dX10_feed_47 ?_
    refine fv_getR C fl_RX10_14 ea1 ka1 dX10_feed_48 ?_
    refine fv_iload C 5 rfl dX10_feed_51 ?_
    replace h := fo_s h
    obtain ⟨a15, ea15, ka15, h⟩ := h
    replace h := bx h
    obtain ⟨M17, er16, h⟩ := h
    refine fv_callV [.int p5] C mi_X0_addWord ms_X0_addWord lk_RX10_96 ea15 ka15 (r_X0_addWord _ _ _ er16) ⟨Nat.le_of_ble_eq_true rfl, Nat.le_of_ble_eq_true rfl⟩ ⟨Nat.le_of_ble_eq_true rfl, Nat.le_of_ble_eq_true rfl⟩ rfl rfl (by simp [va_rf_cat, cat_i, cat_l]) dX10_feed_53 ?_
    show fh_V X rm_X10_feed 6 (sz, 0, 0) K M17 _ _ []
    refine fv_aload_n C 0 rfl rfl dX10_feed_56 ?_
    refine fv_getR C fl_RX10_14 ea1 ka1 dX10_feed_57 ?_
    replace h := fo_s h
    obtain ⟨a18, ea18, ka18, h⟩ := h
    refine fv_getI C fl_RX10_99 ea18 ka18 dX10_feed_60 ?_
    cases h
    exact fv_iret (z := (0, 0, 0)) (st := []) C E dX10_feed_63
  · replace h := itF c19 h
    refine fv_iconst (v := -1) C (by decide) dX10_feed_12 ?_
    cases h
    exact fv_iret (z := (0, 0, 0)) (st := []) C E dX10_feed_13
abbrev rm_X10_areProperties : Room := { frames := 0, cells := 0, slots := 0, locals := 0 }
set_option maxRecDepth 10000 in
theorem r_X10_areProperties (l : Launch) (D : fh_D) (A : Nat → Prop) {K : fh_K} {sz : Nat} {M : fh_M} {r : Int32} {p0 : Int32} (h : f_X10_areProperties K M p0 = some r) : fh_Met l yX10_areProperties cX10_areProperties 1 (some .boolean) rm_X10_areProperties D K M sz A [.int p0] (some (.int r)) K M sz := by
  refine fh_enter (by decide) (by simp [lg_sl, va_rf_cat, cat_i, cat_l]) (lv := [(0, .int p0)]) (by simp [lv_args, va_rf_cat, cat_i, cat_l]) ?_
  intro X C E hnm _ _ _
  replace C : fh_C X 1 cX10_areProperties RX10 := C
  unfold f_X10_areProperties at h
  refine fv_iload_n C 0 rfl rfl dX10_areProperties_0 ?_
  refine fv_if_lt C 15 (by decide) dX10_areProperties_1 (fun c2 => ?_) (fun c2 => ?_)
  · replace h := itT c2 h
    refine fv_iconst (v := 0) C (by decide) dX10_areProperties_15 ?_
    cases h
    exact fv_zret (z := (0, 0, 0)) (st := []) C E (Or.inl rfl) dX10_areProperties_16
  · replace h := itF c2 h
    refine fv_iload_n C 0 rfl rfl dX10_areProperties_4 ?_
    refine fv_sipush (v := 4095) C (by decide) dX10_areProperties_5 ?_
    refine fv_icmp_gt C 15 (by decide) dX10_areProperties_8 (fun c1 => ?_) (fun c1 => ?_)
    · replace h := itT c1 h
      refine fv_iconst (v := 0) C (by decide) dX10_areProperties_15 ?_
      cases h
      exact fv_zret (z := (0, 0, 0)) (st := []) C E (Or.inl rfl) dX10_areProperties_16
    · replace h := itF c1 h
      refine fv_iconst (v := 1) C (by decide) dX10_areProperties_11 ?_
      refine fv_goto C 16 (by decide) dX10_areProperties_12 ?_
      cases h
      exact fv_zret (z := (0, 0, 0)) (st := []) C E (Or.inr rfl) dX10_areProperties_16
abbrev rm_X10_makeAt : Room := { frames := 0, cells := 0, slots := 0, locals := 0 }
set_option maxRecDepth 10000 in
theorem r_X10_makeAt (l : Launch) (D : fh_D) (A : Nat → Prop) {K : fh_K} {sz : Nat} {M : fh_M} {r : Option Nat} {t : Nat} {p1 : Int32} (h : f_X10_makeAt K M t p1 = some r) : fh_Met l yX10_makeAt cX10_makeAt 2 (some (.object "FileHouse$Make")) rm_X10_makeAt D K M sz A [va_rf (some t), .int p1] (some (va_rf r)) K M sz := by
  refine fh_enter (by decide) (by simp [lg_sl, va_rf_cat, cat_i, cat_l]) (lv := [(0, va_rf (some t)), (1, .int p1)]) (by simp [lv_args, va_rf_cat, cat_i, cat_l]) ?_
  intro X C E hnm _ _ _
  replace C : fh_C X 2 cX10_makeAt RX10 := C
  unfold f_X10_makeAt at h
  refine fv_iload_n C 1 rfl rfl dX10_makeAt_0 ?_
  refine fv_if_lt C 21 (by decide) dX10_makeAt_1 (fun c4 => ?_) (fun c4 => ?_)
  · replace h := itT c4 h
    refine fv_null C dX10_makeAt_21 ?_
    cases h
    exact fv_aret (z := (0, 0, 0)) (st := []) C E (Or.inl ⟨_, rfl⟩) dX10_makeAt_22
  · replace h := itF c4 h
    refine fv_iload_n C 1 rfl rfl dX10_makeAt_4 ?_
    refine fv_aload_n C 0 rfl rfl dX10_makeAt_5 ?_
    replace h := fo_s h
    obtain ⟨a1, ea1, ka1, h⟩ := h
    refine fv_getI C fl_RX10_78 ea1 ka1 dX10_makeAt_6 ?_
    refine fv_icmp_ge C 21 (by decide) dX10_makeAt_9 (fun c3 => ?_) (fun c3 => ?_)
    · replace h := itT c3 h
      refine fv_null C dX10_makeAt_21 ?_
      cases h
      exact fv_aret (z := (0, 0, 0)) (st := []) C E (Or.inl ⟨_, rfl⟩) dX10_makeAt_22
    · replace h := itF c3 h
      refine fv_aload_n C 0 rfl rfl dX10_makeAt_12 ?_
      refine fv_getR C fl_RX10_23 ea1 ka1 dX10_makeAt_13 ?_
      refine fv_iload_n C 1 rfl rfl dX10_makeAt_16 ?_
      replace h := fi_s h
      obtain ⟨a2, ea2, ka2, ia2, h⟩ := h
      refine fv_aald (t := 17) C 4 rfl (by decide) (fun _ => rfl) ea2 ka2 ia2 dX10_makeAt_17 ?_
      refine fv_goto C 22 (by decide) dX10_makeAt_18 ?_
      cases h
      exact fv_aret (z := (0, 0, 0)) (st := []) C E (Or.inl ⟨_, rfl⟩) dX10_makeAt_22
abbrev rm_X10_judge : Room := { frames := 3, cells := 0, slots := 0, locals := 76 }
set_option maxRecDepth 10000 in
theorem r_X10_judge (l : Launch) (D : fh_D) (A : Nat → Prop) {K : fh_K} {sz : Nat} {M : fh_M} {M' : fh_M} {t : Nat} {p1 : Option Nat} {p2 : Int32} (h : f_X10_judge K M t p1 p2 = some M') : fh_Met l yX10_judge cX10_judge 4 none rm_X10_judge D K M sz A [va_rf (some t), va_rf p1, .int p2] none K M' sz := by
  refine fh_enter (by decide) (by simp [lg_sl, va_rf_cat, cat_i, cat_l]) (lv := [(0, va_rf (some t)), (1, va_rf p1), (2, .int p2)]) (by simp [lv_args, va_rf_cat, cat_i, cat_l]) ?_
  intro X C E hnm _ _ _
  replace C : fh_C X 4 cX10_judge RX10 := C
  unfold f_X10_judge at h
  refine fv_aload_n C 0 rfl rfl dX10_judge_0 ?_
  refine fv_iload_n C 2 rfl rfl dX10_judge_1 ?_
  replace h := fo_s h
  obtain ⟨a1, ea1, ka1, h⟩ := h
  replace h := bx h
  obtain ⟨r2, er2, h⟩ := h
  refine fv_callV [.int p2] C mi_X10_makeAt ms_X10_makeAt lk_RX10_141 ea1 ka1 (r_X10_makeAt _ _ _ er2) ⟨Nat.le_of_ble_eq_true rfl, Nat.le_of_ble_eq_true rfl⟩ ⟨Nat.le_of_ble_eq_true rfl, Nat.le_of_ble_eq_true rfl⟩ rfl rfl (by simp [va_rf_cat, cat_i, cat_l]) dX10_judge_2 ?_
  show fh_V X rm_X10_judge 4 (sz, 0, 0) K M _ _ [va_rf (r2)]
  refine fv_astore_n (i := 3) (lv' := [(3, va_rf (r2)), (0, va_rf (some t)), (1, va_rf (p1)), (2, .int p2)]) C rfl (by decide) (by first | rfl | simp [va_rf_cat]) dX10_judge_5 ?_
  refine fv_aload_n C 2 rfl rfl dX10_judge_6 ?_
  refine fv_ifnull C 14 (by decide) dX10_judge_7 (fun c20 => ?_) (fun c20 => ?_)
  · replace h := itT c20 h
    cases h
    exact fv_vret (z := (0, 0, 0)) (st := []) C E dX10_judge_14
  · replace h := itF c20 h
    refine fv_aload_n C 0 rfl rfl dX10_judge_10 ?_
    refine fv_ifnonnull C 15 (by decide) dX10_judge_11 (fun c19 => ?_) (fun c19 => ?_)
    · replace h := itF c19 h
      refine fv_aload_n C 1 rfl rfl dX10_judge_15 ?_
      refine fv_getR C fl_RX10_71 ea1 ka1 dX10_judge_16 ?_
      refine fv_aload_n C 0 rfl rfl dX10_judge_19 ?_
      refine fv_aload_n C 2 rfl rfl dX10_judge_20 ?_
      replace h := fo_s h
      obtain ⟨a3, ea3, ka3, h⟩ := h
      refine fv_getR C fl_RX10_158 ea3 ka3 dX10_judge_21 ?_
      replace h := fo_s h
      obtain ⟨a4, ea4, ka4, h⟩ := h
      replace h := bx h
      obtain ⟨M6, er5, h⟩ := h
      refine fv_callV [va_rf (r2), va_rf (M.2.2 a3 0)] C mi_X4_readBy ms_X4_readBy lk_RX10_162 ea4 ka4 (r_X4_readBy _ _ _ er5) ⟨Nat.le_of_ble_eq_true rfl, Nat.le_of_ble_eq_true rfl⟩ ⟨Nat.le_of_ble_eq_true rfl, Nat.le_of_ble_eq_true rfl⟩ rfl rfl (by simp [va_rf_cat, cat_i, cat_l]) dX10_judge_24 ?_
      show fh_V X rm_X10_judge 4 (sz, 0, 0) K M6 _ _ []
      refine fv_aload_n C 1 rfl rfl dX10_judge_27 ?_
      refine fv_getR C fl_RX10_71 ea1 ka1 dX10_judge_28 ?_
      replace h := fo_s h
      obtain ⟨a7, ea7, ka7, h⟩ := h
      refine fv_getI C fl_RX10_166 ea7 ka7 dX10_judge_31 ?_
      refine fv_bipush (v := -2) C (by decide) dX10_judge_34 ?_
      refine fv_icmp_eq C 53 (by decide) dX10_judge_36 (fun c18 => ?_) (fun c18 => ?_)
      · replace h := itT c18 h
        cases h
        exact fv_vret (z := (0, 0, 0)) (st := []) C E dX10_judge_53
      · replace h := itF c18 h
        refine fv_aload_n C 1 rfl rfl dX10_judge_39 ?_
        refine fv_getR C fl_RX10_71 ea1 ka1 dX10_judge_40 ?_
        refine fv_getI C fl_RX10_166 ea7 ka7 dX10_judge_43 ?_
        refine fv_aload_n C 0 rfl rfl dX10_judge_46 ?_
        replace h := fo_s h
        obtain ⟨a8, ea8, ka8, h⟩ := h
        refine fv_getI C fl_RX10_280 ea8 ka8 dX10_judge_47 ?_
        refine fv_icmp_le C 54 (by decide) dX10_judge_50 (fun c17 => ?_) (fun c17 => ?_)
        · replace h := itT c17 h
          refine fv_aload_n C 1 rfl rfl dX10_judge_54 ?_
          refine fv_getR C fl_RX10_71 ea1 ka1 dX10_judge_55 ?_
          refine fv_getI C fl_RX10_166 ea7 ka7 dX10_judge_58 ?_
          refine fv_aload_n C 2 rfl rfl dX10_judge_61 ?_
          refine fv_getI C fl_RX10_283 ea3 ka3 dX10_judge_62 ?_
          refine fv_icmp_ge C 106 (by decide) dX10_judge_65 (fun c16 => ?_) (fun c16 => ?_)
          · replace h := itT c16 h
            cases h
            exact fv_vret (z := (0, 0, 0)) (st := []) C E dX10_judge_106
          · replace h := itF c16 h
            refine fv_aload_n C 2 rfl rfl dX10_judge_68 ?_
            refine fv_iload_n C 3 rfl rfl dX10_judge_69 ?_
            replace h := fb_s h
            obtain ⟨M9, eM9, h⟩ := h
            refine fv_putI (fin := false) C fl_RX10_169 ea3 ka3 (narrow_i _) dX10_judge_70 (fv_eqM eM9 ?_)
            refine fv_aload_n C 2 rfl rfl dX10_judge_73 ?_
            refine fv_aload_n C 1 rfl rfl dX10_judge_74 ?_
            refine fv_getR C fl_RX10_71 ea1 ka1 dX10_judge_75 ?_
            replace h := fo_s h
            obtain ⟨a10, ea10, ka10, h⟩ := h
            refine fv_getI C fl_RX10_166 ea10 ka10 dX10_judge_78 ?_
            replace h := fb_s h
            obtain ⟨M11, eM11, h⟩ := h
            refine fv_putI (fin := false) C fl_RX10_283 ea3 ka3 (narrow_i _) dX10_judge_81 (fv_eqM eM11 ?_)
            refine fv_aload_n C 2 rfl rfl dX10_judge_84 ?_
            refine fv_aload_n C 1 rfl rfl dX10_judge_85 ?_
            refine fv_getR C fl_RX10_71 ea1 ka1 dX10_judge_86 ?_
            replace h := fo_s h
            obtain ⟨a12, ea12, ka12, h⟩ := h
            refine fv_getI C fl_RX10_212 ea12 ka12 dX10_judge_89 ?_
            replace h := fb_s h
            obtain ⟨M13, eM13, h⟩ := h
            refine fv_putI (fin := false) C fl_RX10_263 ea3 ka3 (narrow_i _) dX10_judge_92 (fv_eqM eM13 ?_)
            refine fv_aload_n C 2 rfl rfl dX10_judge_95 ?_
            refine fv_aload_n C 1 rfl rfl dX10_judge_96 ?_
            refine fv_getR C fl_RX10_71 ea1 ka1 dX10_judge_97 ?_
            replace h := fo_s h
            obtain ⟨a14, ea14, ka14, h⟩ := h
            refine fv_getI C fl_RX10_176 ea14 ka14 dX10_judge_100 ?_
            replace h := fb_s h
            obtain ⟨M15, eM15, h⟩ := h
            refine fv_putI (fin := false) C fl_RX10_260 ea3 ka3 (narrow_i _) dX10_judge_103 (fv_eqM eM15 ?_)
            cases h
            exact fv_vret (z := (0, 0, 0)) (st := []) C E dX10_judge_106
        · replace h := itF c17 h
          cases h
          exact fv_vret (z := (0, 0, 0)) (st := []) C E dX10_judge_53
    · replace h := itT c19 h
      cases h
      exact fv_vret (z := (0, 0, 0)) (st := []) C E dX10_judge_14
abbrev rm_X10_make : Room := { frames := 4, cells := 3, slots := 164, locals := 103 }
set_option maxRecDepth 10000 in
theorem r_X10_make_L104 {X : fh_X} {M' : fh_M} {K' : fh_K} {sz' : Nat} {r : Int32} (C : fh_C X 7 cX10_make RX10) (E : fh_E X rm_X10_make (some .int) (some (.int r)) K' M' sz') : ∀ (n : Nat) (t : Nat) (v5 : Int32) (v6 : Int32) (sz : Nat) (K : fh_K) (M : fh_M), f_X10_make_L104 n t v5 v6 sz K M = some (r, sz', K', M') → fh_V X rm_X10_make 7 (sz, 3, 164) K M 104 [(0, va_rf (some t)), (5, .int v5), (6, .int v6)] [] := by
  intro n
  induction n with
  | zero => intro t v5 v6 sz K M h; cases h
  | succ n ih =>
    intro t v5 v6 sz K M h
    unfold f_X10_make_L104 at h
    refine fv_iload C 2 rfl dX10_make_104 ?_
    refine fv_aload_n C 0 rfl rfl dX10_make_106 ?_
    replace h := fo_s h
    obtain ⟨a29, ea29, ka29, h⟩ := h
    refine fv_getI C fl_RX10_82 ea29 ka29 dX10_make_107 ?_
    refine fv_icmp_ge C 132 (by decide) dX10_make_110 (fun c33 => ?_) (fun c33 => ?_)
    · replace h := itT c33 h
      refine fv_iload C 1 rfl dX10_make_132 ?_
      cases h
      exact fv_iret (z := (0, 0, 0)) (st := []) C E dX10_make_134
    · replace h := itF c33 h
      refine fv_aload_n C 0 rfl rfl dX10_make_113 ?_
      refine fv_aload_n C 0 rfl rfl dX10_make_114 ?_
      refine fv_getR C fl_RX10_29 ea29 ka29 dX10_make_115 ?_
      refine fv_iload C 2 rfl dX10_make_118 ?_
      replace h := fi_s h
      obtain ⟨a30, ea30, ka30, ia30, h⟩ := h
      refine fv_aald (t := 18) C 5 rfl (by decide) (fun _ => rfl) ea30 ka30 ia30 dX10_make_120 ?_
      refine fv_iload C 1 rfl dX10_make_121 ?_
      replace h := bx h
      obtain ⟨M32, er31, h⟩ := h
      refine fv_callV [va_rf (M.2.2 a30 v6.toNatClampNeg), .int v5] C mi_X10_judge ms_X10_judge lk_RX10_116 ea29 ka29 (r_X10_judge _ _ _ er31) ⟨Nat.le_of_ble_eq_true rfl, Nat.le_of_ble_eq_true rfl⟩ ⟨Nat.le_of_ble_eq_true rfl, Nat.le_of_ble_eq_true rfl⟩ rfl rfl (by simp [va_rf_cat, cat_i, cat_l]) dX10_make_123 ?_
      show fh_V X rm_X10_make 7 (sz, 3, 164) K M32 _ _ []
      refine fv_iinc (v := v6 + 1) (lv' := [(6, .int (v6 + 1)), (0, va_rf (some t)), (5, .int v5)]) C 2 rfl (by first | rfl | exact congrArg _ (by decide)) (by decide) (by first | rfl | simp [va_rf_cat]) dX10_make_126 ?_
      refine fv_goto C 104 (by decide) dX10_make_129 ?_
      refine fv_sub (cc := ⟨#[]⟩) (own := "") [1, 2, 0] rfl ?_
      exact ih _ _ _ _ _ _ h
set_option maxRecDepth 10000 in
theorem r_X10_make (l : Launch) (D : fh_D) (A : Nat → Prop) {K : fh_K} {sz : Nat} {M : fh_M} {M' : fh_M} {K' : fh_K} {sz' : Nat} {r : Int32} {t : Nat} {p1 : Int32} {p2 : Int32} {p3 : Int32} {p4 : Int32} (h : f_X10_make sz K M t p1 p2 p3 p4 = some (r, sz', K', M')) : fh_Met l yX10_make cX10_make 7 (some .int) rm_X10_make D K M sz A [va_rf (some t), .int p1, .int p2, .int p3, .int p4] (some (.int r)) K' M' sz' := by
  refine fh_enter (by decide) (by simp [lg_sl, va_rf_cat, cat_i, cat_l]) (lv := [(0, va_rf (some t)), (1, .int p1), (2, .int p2), (3, .int p3), (4, .int p4)]) (by simp [lv_args, va_rf_cat, cat_i, cat_l]) ?_
  intro X C E hnm _ _ _
  replace C : fh_C X 7 cX10_make RX10 := C
  unfold f_X10_make at h
  refine fv_iload_n C 1 rfl rfl dX10_make_0 ?_
  refine fv_iconst (v := 1) C (by decide) dX10_make_1 ?_
  refine fv_icmp_lt C 30 (by decide) dX10_make_2 (fun c28 => ?_) (fun c28 => ?_)
  · replace h := itT c28 h
    refine fv_iconst (v := -1) C (by decide) dX10_make_30 ?_
    refine fv_widen (mc := 3) (ms := 164) (cc := ⟨#[]⟩) (own := "") (Nat.le_of_ble_eq_true rfl) (Nat.le_of_ble_eq_true rfl) ?_
    cases h
    exact fv_iret (z := (0, 0, 0)) (st := []) C E dX10_make_31
  · replace h := itF c28 h
    refine fv_iload_n C 1 rfl rfl dX10_make_5 ?_
    refine fv_iconst (v := 4) C (by decide) dX10_make_6 ?_
    refine fv_icmp_gt C 30 (by decide) dX10_make_7 (fun c27 => ?_) (fun c27 => ?_)
    · replace h := itT c27 h
      refine fv_iconst (v := -1) C (by decide) dX10_make_30 ?_
      refine fv_widen (mc := 3) (ms := 164) (cc := ⟨#[]⟩) (own := "") (Nat.le_of_ble_eq_true rfl) (Nat.le_of_ble_eq_true rfl) ?_
      cases h
      exact fv_iret (z := (0, 0, 0)) (st := []) C E dX10_make_31
    · replace h := itF c27 h
      refine fv_iload_n C 1 rfl rfl dX10_make_10 ?_
      refine fv_aload_n C 0 rfl rfl dX10_make_11 ?_
      replace h := fo_s h
      obtain ⟨a1, ea1, ka1, h⟩ := h
      refine fv_getR C fl_RX10_14 ea1 ka1 dX10_make_12 ?_
      replace h := fo_s h
      obtain ⟨a2, ea2, ka2, h⟩ := h
      refine fv_getI C fl_RX10_99 ea2 ka2 dX10_make_15 ?_
      refine fv_icmp_gt C 30 (by decide) dX10_make_18 (fun c26 => ?_) (fun c26 => ?_)
      · replace h := itT c26 h
        refine fv_iconst (v := -1) C (by decide) dX10_make_30 ?_
        refine fv_widen (mc := 3) (ms := 164) (cc := ⟨#[]⟩) (own := "") (Nat.le_of_ble_eq_true rfl) (Nat.le_of_ble_eq_true rfl) ?_
        cases h
        exact fv_iret (z := (0, 0, 0)) (st := []) C E dX10_make_31
      · replace h := itF c26 h
        refine fv_aload_n C 0 rfl rfl dX10_make_21 ?_
        refine fv_getI C fl_RX10_78 ea1 ka1 dX10_make_22 ?_
        refine fv_bipush (v := 12) C (by decide) dX10_make_25 ?_
        refine fv_icmp_lt C 32 (by decide) dX10_make_27 (fun c25 => ?_) (fun c25 => ?_)
        · replace h := itT c25 h
          refine fv_iload_n C 2 rfl rfl dX10_make_32 ?_
          replace h := bx h
          obtain ⟨r3, er3, h⟩ := h
          refine fv_callS [.int p2] C mi_X10_areProperties lk_RX10_102 (r_X10_areProperties _ _ _ er3) ⟨Nat.le_of_ble_eq_true rfl, Nat.le_of_ble_eq_true rfl⟩ ⟨Nat.le_of_ble_eq_true rfl, Nat.le_of_ble_eq_true rfl⟩ rfl rfl (by simp [va_rf_cat, cat_i, cat_l]) dX10_make_33 ?_
          show fh_V X rm_X10_make 7 (sz, 0, 0) K M _ _ [.int r3]
          refine fv_if_eq C 50 (by decide) dX10_make_36 (fun c24 => ?_) (fun c24 => ?_)
          · replace h := itT c24 h
            refine fv_iconst (v := -1) C (by decide) dX10_make_50 ?_
            refine fv_widen (mc := 3) (ms := 164) (cc := ⟨#[]⟩) (own := "") (Nat.le_of_ble_eq_true rfl) (Nat.le_of_ble_eq_true rfl) ?_
            cases h
            exact fv_iret (z := (0, 0, 0)) (st := []) C E dX10_make_51
          · replace h := itF c24 h
            refine fv_iload C 4 rfl dX10_make_39 ?_
            refine fv_if_lt C 50 (by decide) dX10_make_41 (fun c23 => ?_) (fun c23 => ?_)
            · replace h := itT c23 h
              refine fv_iconst (v := -1) C (by decide) dX10_make_50 ?_
              refine fv_widen (mc := 3) (ms := 164) (cc := ⟨#[]⟩) (own := "") (Nat.le_of_ble_eq_true rfl) (Nat.le_of_ble_eq_true rfl) ?_
              cases h
              exact fv_iret (z := (0, 0, 0)) (st := []) C E dX10_make_51
            · replace h := itF c23 h
              refine fv_iload C 4 rfl dX10_make_44 ?_
              refine fv_iconst (v := 3) C (by decide) dX10_make_46 ?_
              refine fv_icmp_le C 52 (by decide) dX10_make_47 (fun c22 => ?_) (fun c22 => ?_)
              · replace h := itT c22 h
                refine fv_aload_n C 0 rfl rfl dX10_make_52 ?_
                refine fv_getI C fl_RX10_78 ea1 ka1 dX10_make_53 ?_
                refine fv_istore (i := 5) (lv' := [(5, .int (M.1 a1 11)), (0, va_rf (some t)), (1, .int p1), (2, .int p2), (3, .int p3), (4, .int p4)]) C (by decide) (by first | rfl | simp [va_rf_cat]) dX10_make_56 ?_
                refine fv_aload_n C 1 rfl rfl dX10_make_58 ?_
                refine fv_getR C fl_RX10_23 ea1 ka1 dX10_make_59 ?_
                refine fv_iload C 0 rfl dX10_make_62 ?_
                replace h := fb_s h
                obtain ⟨K4, eK4, h⟩ := h
                replace h := fb_s h
                obtain ⟨M5, eM5, h⟩ := h
                refine fv_new C cl_RX10_21 (Nat.le_of_ble_eq_true rfl) (Nat.le_of_ble_eq_true rfl) dX10_make_64 ?_
                refine fv_eqK eK4 (fv_eqM eM5 ?_)
                refine fv_dupr C dX10_make_67 ?_
                refine fv_aload_n C 1 rfl rfl dX10_make_68 ?_
                replace h := fo_s h
                obtain ⟨a6, ea6, ka6, h⟩ := h
                refine fv_getR C fl_RX10_14 ea6 ka6 dX10_make_69 ?_
                refine fv_iload_n C 2 rfl rfl dX10_make_72 ?_
                replace h := fo_s h
                obtain ⟨a7, ea7, ka7, h⟩ := h
                replace h := fc4_s h
                obtain ⟨r8, w11, K10, M9, er8, h⟩ := h
                refine fv_callV [.int p1] C mi_X0_firstBytes ms_X0_firstBytes lk_RX10_106 ea7 ka7 (r_X0_firstBytes _ _ _ er8) ⟨Nat.le_of_ble_eq_true rfl, Nat.le_of_ble_eq_true rfl⟩ ⟨Nat.le_of_ble_eq_true rfl, Nat.le_of_ble_eq_true rfl⟩ rfl rfl (by simp [va_rf_cat, cat_i, cat_l]) dX10_make_73 ?_
                show fh_V X rm_X10_make 7 (w11, 3, 164) K10 M9 _ _ [va_rf (r8), va_rf (some sz), va_rf (some sz), .int (M.1 a1 11), va_rf (M.2.2 a1 2)]
                refine fv_iload_n C 3 rfl rfl dX10_make_76 ?_
                refine fv_iload_n C 4 rfl rfl dX10_make_77 ?_
                refine fv_iload C 5 rfl dX10_make_78 ?_
                replace h := bx h
                obtain ⟨M13, er12, h⟩ := h
                refine fv_callI (b := sz) [va_rf (r8), .int p2, .int p3, .int p4] C mi_X2_init rfl lk_RX10_110 (r_X2_init _ _ _ er12) ⟨Nat.le_of_ble_eq_true rfl, Nat.le_of_ble_eq_true rfl⟩ ⟨Nat.le_of_ble_eq_true rfl, Nat.le_of_ble_eq_true rfl⟩ rfl rfl (by simp [va_rf_cat, cat_i, cat_l]) dX10_make_80 ?_
                show fh_V X rm_X10_make 7 (w11, 3, 164) K10 M13 _ _ [va_rf (some sz), .int (M.1 a1 11), va_rf (M.2.2 a1 2)]
                replace h := fi_s h
                obtain ⟨a14, ea14, ka14, ia14, h⟩ := h
                replace h := fo_s h
                obtain ⟨a15, ea15, ka15, h⟩ := h
                replace h := fb_s h
                obtain ⟨M16, eM16, h⟩ := h
                refine fv_aast2 (ci := 2) (t := 17) C 4 (by decide) rfl (by decide) (fun _ => rfl) ea14 ka14 ia14 ea15 ka15 dX10_make_83 (fv_eqM eM16 ?_)
                refine fv_aload_n C 1 rfl rfl dX10_make_84 ?_
                refine fv_dupr C dX10_make_85 ?_
                replace h := fo_s h
                obtain ⟨a17, ea17, ka17, h⟩ := h
                refine fv_getI C fl_RX10_78 ea17 ka17 dX10_make_86 ?_
                refine fv_iconst (v := 1) C (by decide) dX10_make_89 ?_
                refine fv_iadd C dX10_make_90 ?_
                replace h := fb_s h
                obtain ⟨M18, eM18, h⟩ := h
                refine fv_putI (fin := false) C fl_RX10_78 ea17 ka17 (narrow_i _) dX10_make_91 (fv_eqM eM18 ?_)
                refine fv_aload_n C 1 rfl rfl dX10_make_94 ?_
                refine fv_getR C fl_RX10_14 ea17 ka17 dX10_make_95 ?_
                replace h := fo_s h
                obtain ⟨a19, ea19, ka19, h⟩ := h
                replace h := bx h
                obtain ⟨M21, er20, h⟩ := h
                refine fv_callV [] C mi_X0_clear ms_X0_clear lk_RX10_113 ea19 ka19 (r_X0_clear _ _ _ er20) ⟨Nat.le_of_ble_eq_true rfl, Nat.le_of_ble_eq_true rfl⟩ ⟨Nat.le_of_ble_eq_true rfl, Nat.le_of_ble_eq_true rfl⟩ rfl rfl (by simp [va_rf_cat, cat_i, cat_l]) dX10_make_98 ?_
                show fh_V X rm_X10_make 7 (w11, 3, 164) K10 M21 _ _ []
                refine fv_iconst (v := 0) C (by decide) dX10_make_101 ?_
                refine fv_istore (i := 6) (lv' := [(6, .int 0), (5, .int (M.1 a1 11)), (0, va_rf (some t)), (1, .int p1), (2, .int p2), (3, .int p3), (4, .int p4)]) C (by decide) (by first | rfl | simp [va_rf_cat]) dX10_make_102 ?_
                refine fv_sub (cc := ⟨#[]⟩) (own := "") [2, 1, 0] rfl ?_
                exact r_X10_make_L104 C E  4096 _ _ _ _ _ _ h
              · replace h := itF c22 h
                refine fv_iconst (v := -1) C (by decide) dX10_make_50 ?_
                refine fv_widen (mc := 3) (ms := 164) (cc := ⟨#[]⟩) (own := "") (Nat.le_of_ble_eq_true rfl) (Nat.le_of_ble_eq_true rfl) ?_
                cases h
                exact fv_iret (z := (0, 0, 0)) (st := []) C E dX10_make_51
        · replace h := itF c25 h
          refine fv_iconst (v := -1) C (by decide) dX10_make_30 ?_
          refine fv_widen (mc := 3) (ms := 164) (cc := ⟨#[]⟩) (own := "") (Nat.le_of_ble_eq_true rfl) (Nat.le_of_ble_eq_true rfl) ?_
          cases h
          exact fv_iret (z := (0, 0, 0)) (st := []) C E dX10_make_31
abbrev rm_X10_store : Room := { frames := 4, cells := 1, slots := 9, locals := 99 }
set_option maxRecDepth 10000 in
theorem r_X10_store_L40 {X : fh_X} {M' : fh_M} {K' : fh_K} {sz' : Nat} {r : Int32} (C : fh_C X 7 cX10_store RX10) (E : fh_E X rm_X10_store (some .int) (some (.int r)) K' M' sz') : ∀ (n : Nat) (t : Nat) (v4 : Int32) (v5 : Option Nat) (v6 : Int32) (sz : Nat) (K : fh_K) (M : fh_M), f_X10_store_L40 n t v4 v5 v6 sz K M = some (r, sz', K', M') → fh_V X rm_X10_store 7 (sz, 1, 9) K M 40 [(0, va_rf (some t)), (4, .int v4), (5, va_rf (v5)), (6, .int v6)] [] := by
  intro n
  induction n with
  | zero => intro t v4 v5 v6 sz K M h; cases h
  | succ n ih =>
    intro t v4 v5 v6 sz K M h
    unfold f_X10_store_L40 at h
    refine fv_iload C 3 rfl dX10_store_40 ?_
    refine fv_aload_n C 0 rfl rfl dX10_store_42 ?_
    replace h := fo_s h
    obtain ⟨a11, ea11, ka11, h⟩ := h
    refine fv_getI C fl_RX10_78 ea11 ka11 dX10_store_43 ?_
    refine fv_icmp_ge C 63 (by decide) dX10_store_46 (fun c14 => ?_) (fun c14 => ?_)
    · replace h := itT c14 h
      refine fv_iload C 1 rfl dX10_store_63 ?_
      cases h
      exact fv_iret (z := (0, 0, 0)) (st := []) C E dX10_store_65
    · replace h := itF c14 h
      refine fv_aload_n C 0 rfl rfl dX10_store_49 ?_
      refine fv_aload C 2 rfl dX10_store_50 ?_
      refine fv_iload C 3 rfl dX10_store_52 ?_
      replace h := bx h
      obtain ⟨M13, er12, h⟩ := h
      refine fv_callV [va_rf (v5), .int v6] C mi_X10_judge ms_X10_judge lk_RX10_116 ea11 ka11 (r_X10_judge _ _ _ er12) ⟨Nat.le_of_ble_eq_true rfl, Nat.le_of_ble_eq_true rfl⟩ ⟨Nat.le_of_ble_eq_true rfl, Nat.le_of_ble_eq_true rfl⟩ rfl rfl (by simp [va_rf_cat, cat_i, cat_l]) dX10_store_54 ?_
      show fh_V X rm_X10_store 7 (sz, 1, 9) K M13 _ _ []
      refine fv_iinc (v := v6 + 1) (lv' := [(6, .int (v6 + 1)), (0, va_rf (some t)), (4, .int v4), (5, va_rf (v5))]) C 3 rfl (by first | rfl | exact congrArg _ (by decide)) (by decide) (by first | rfl | simp [va_rf_cat]) dX10_store_57 ?_
      refine fv_goto C 40 (by decide) dX10_store_60 ?_
      refine fv_sub (cc := ⟨#[]⟩) (own := "") [1, 2, 3, 0] rfl ?_
      exact ih _ _ _ _ _ _ _ h
set_option maxRecDepth 10000 in
theorem r_X10_store (l : Launch) (D : fh_D) (A : Nat → Prop) {K : fh_K} {sz : Nat} {M : fh_M} {M' : fh_M} {K' : fh_K} {sz' : Nat} {r : Int32} {t : Nat} {p1 : Option Nat} {p2 : Int32} {p3 : Int32} (h : f_X10_store sz K M t p1 p2 p3 = some (r, sz', K', M')) : fh_Met l yX10_store cX10_store 7 (some .int) rm_X10_store D K M sz A [va_rf (some t), va_rf p1, .int p2, .int p3] (some (.int r)) K' M' sz' := by
  refine fh_enter (by decide) (by simp [lg_sl, va_rf_cat, cat_i, cat_l]) (lv := [(0, va_rf (some t)), (1, va_rf p1), (2, .int p2), (3, .int p3)]) (by simp [lv_args, va_rf_cat, cat_i, cat_l]) ?_
  intro X C E hnm _ _ _
  replace C : fh_C X 7 cX10_store RX10 := C
  unfold f_X10_store at h
  refine fv_aload_n C 0 rfl rfl dX10_store_0 ?_
  replace h := fo_s h
  obtain ⟨a1, ea1, ka1, h⟩ := h
  refine fv_getI C fl_RX10_82 ea1 ka1 dX10_store_1 ?_
  refine fv_istore (i := 4) (lv' := [(4, .int (M.1 a1 12)), (0, va_rf (some t)), (1, va_rf (p1)), (2, .int p2), (3, .int p3)]) C (by decide) (by first | rfl | simp [va_rf_cat]) dX10_store_4 ?_
  replace h := fb_s h
  obtain ⟨K2, eK2, h⟩ := h
  replace h := fb_s h
  obtain ⟨M3, eM3, h⟩ := h
  refine fv_new C cl_RX10_27 (Nat.le_of_ble_eq_true rfl) (Nat.le_of_ble_eq_true rfl) dX10_store_6 ?_
  refine fv_eqK eK2 (fv_eqM eM3 ?_)
  refine fv_dupr C dX10_store_9 ?_
  refine fv_aload_n C 2 rfl rfl dX10_store_10 ?_
  refine fv_iload_n C 3 rfl rfl dX10_store_11 ?_
  refine fv_iload_n C 4 rfl rfl dX10_store_12 ?_
  replace h := bx h
  obtain ⟨M5, er4, h⟩ := h
  refine fv_callI (b := sz) [va_rf (p1), .int p2, .int p3] C mi_X7_init rfl lk_RX10_277 (r_X7_init _ _ _ er4) ⟨Nat.le_of_ble_eq_true rfl, Nat.le_of_ble_eq_true rfl⟩ ⟨Nat.le_of_ble_eq_true rfl, Nat.le_of_ble_eq_true rfl⟩ rfl rfl (by simp [va_rf_cat, cat_i, cat_l]) dX10_store_13 ?_
  show fh_V X rm_X10_store 7 (sz + 1, 1, 9) K2 M5 _ _ [va_rf (some sz)]
  refine fv_astore (i := 5) (lv' := [(5, va_rf (some sz)), (4, .int (M.1 a1 12)), (0, va_rf (some t)), (1, va_rf (p1)), (2, .int p2), (3, .int p3)]) C (by decide) (by first | rfl | simp [va_rf_cat]) dX10_store_16 ?_
  refine fv_aload_n C 2 rfl rfl dX10_store_18 ?_
  replace h := fo_s h
  obtain ⟨a6, ea6, ka6, h⟩ := h
  refine fv_getR C fl_RX10_29 ea6 ka6 dX10_store_19 ?_
  refine fv_iload C 1 rfl dX10_store_22 ?_
  refine fv_aload C 0 rfl dX10_store_24 ?_
  replace h := fi_s h
  obtain ⟨a7, ea7, ka7, ia7, h⟩ := h
  replace h := fo_s h
  obtain ⟨a8, ea8, ka8, h⟩ := h
  replace h := fb_s h
  obtain ⟨M9, eM9, h⟩ := h
  refine fv_aast2 (ci := 7) (t := 18) C 5 (by decide) rfl (by decide) (fun _ => rfl) ea7 ka7 ia7 ea8 ka8 dX10_store_26 (fv_eqM eM9 ?_)
  refine fv_aload_n C 2 rfl rfl dX10_store_27 ?_
  refine fv_dupr C dX10_store_28 ?_
  refine fv_getI C fl_RX10_82 ea6 ka6 dX10_store_29 ?_
  refine fv_iconst (v := 1) C (by decide) dX10_store_32 ?_
  refine fv_iadd C dX10_store_33 ?_
  replace h := fb_s h
  obtain ⟨M10, eM10, h⟩ := h
  refine fv_putI (fin := false) C fl_RX10_82 ea6 ka6 (narrow_i _) dX10_store_34 (fv_eqM eM10 ?_)
  refine fv_iconst (v := 0) C (by decide) dX10_store_37 ?_
  refine fv_istore (i := 6) (lv' := [(6, .int 0), (5, va_rf (some sz)), (4, .int (M.1 a1 12)), (0, va_rf (some t)), (1, va_rf (p1)), (2, .int p2), (3, .int p3)]) C (by decide) (by first | rfl | simp [va_rf_cat]) dX10_store_38 ?_
  refine fv_sub (cc := ⟨#[]⟩) (own := "") [3, 2, 1, 0] rfl ?_
  exact r_X10_store_L40 C E  4096 _ _ _ _ _ _ _ h
abbrev rm_X10_file : Room := { frames := 5, cells := 3, slots := 169, locals := 125 }
set_option maxRecDepth 10000 in
theorem r_X10_file (l : Launch) (D : fh_D) (A : Nat → Prop) {K : fh_K} {sz : Nat} {M : fh_M} {M' : fh_M} {K' : fh_K} {sz' : Nat} {r : Int32} {t : Nat} {p1 : Int32} (h : f_X10_file sz K M t p1 = some (r, sz', K', M')) : fh_Met l yX10_file cX10_file 3 (some .int) rm_X10_file D K M sz A [va_rf (some t), .int p1] (some (.int r)) K' M' sz' := by
  refine fh_enter (by decide) (by simp [lg_sl, va_rf_cat, cat_i, cat_l]) (lv := [(0, va_rf (some t)), (1, .int p1)]) (by simp [lv_args, va_rf_cat, cat_i, cat_l]) ?_
  intro X C E hnm _ _ _
  replace C : fh_C X 3 cX10_file RX10 := C
  unfold f_X10_file at h
  refine fv_iload_n C 1 rfl rfl dX10_file_0 ?_
  refine fv_iconst (v := 1) C (by decide) dX10_file_1 ?_
  refine fv_icmp_lt C 31 (by decide) dX10_file_2 (fun c19 => ?_) (fun c19 => ?_)
  · replace h := itT c19 h
    refine fv_iconst (v := -1) C (by decide) dX10_file_31 ?_
    refine fv_widen (mc := 3) (ms := 169) (cc := ⟨#[]⟩) (own := "") (Nat.le_of_ble_eq_true rfl) (Nat.le_of_ble_eq_true rfl) ?_
    cases h
    exact fv_iret (z := (0, 0, 0)) (st := []) C E dX10_file_32
  · replace h := itF c19 h
    refine fv_iload_n C 1 rfl rfl dX10_file_5 ?_
    refine fv_bipush (v := 60) C (by decide) dX10_file_6 ?_
    refine fv_icmp_gt C 31 (by decide) dX10_file_8 (fun c18 => ?_) (fun c18 => ?_)
    · replace h := itT c18 h
      refine fv_iconst (v := -1) C (by decide) dX10_file_31 ?_
      refine fv_widen (mc := 3) (ms := 169) (cc := ⟨#[]⟩) (own := "") (Nat.le_of_ble_eq_true rfl) (Nat.le_of_ble_eq_true rfl) ?_
      cases h
      exact fv_iret (z := (0, 0, 0)) (st := []) C E dX10_file_32
    · replace h := itF c18 h
      refine fv_iload_n C 1 rfl rfl dX10_file_11 ?_
      refine fv_aload_n C 0 rfl rfl dX10_file_12 ?_
      replace h := fo_s h
      obtain ⟨a1, ea1, ka1, h⟩ := h
      refine fv_getR C fl_RX10_14 ea1 ka1 dX10_file_13 ?_
      replace h := fo_s h
      obtain ⟨a2, ea2, ka2, h⟩ := h
      refine fv_getI C fl_RX10_99 ea2 ka2 dX10_file_16 ?_
      refine fv_icmp_gt C 31 (by decide) dX10_file_19 (fun c17 => ?_) (fun c17 => ?_)
      · replace h := itT c17 h
        refine fv_iconst (v := -1) C (by decide) dX10_file_31 ?_
        refine fv_widen (mc := 3) (ms := 169) (cc := ⟨#[]⟩) (own := "") (Nat.le_of_ble_eq_true rfl) (Nat.le_of_ble_eq_true rfl) ?_
        cases h
        exact fv_iret (z := (0, 0, 0)) (st := []) C E dX10_file_32
      · replace h := itF c17 h
        refine fv_aload_n C 0 rfl rfl dX10_file_22 ?_
        refine fv_getI C fl_RX10_82 ea1 ka1 dX10_file_23 ?_
        refine fv_bipush (v := 40) C (by decide) dX10_file_26 ?_
        refine fv_icmp_lt C 33 (by decide) dX10_file_28 (fun c16 => ?_) (fun c16 => ?_)
        · replace h := itT c16 h
          refine fv_aload_n C 0 rfl rfl dX10_file_33 ?_
          refine fv_aload_n C 0 rfl rfl dX10_file_34 ?_
          refine fv_getR C fl_RX10_14 ea1 ka1 dX10_file_35 ?_
          refine fv_iload_n C 1 rfl rfl dX10_file_38 ?_
          replace h := fc4_s h
          obtain ⟨r3, w6, K5, M4, er3, h⟩ := h
          refine fv_callV [.int p1] C mi_X0_firstBytes ms_X0_firstBytes lk_RX10_106 ea2 ka2 (r_X0_firstBytes _ _ _ er3) ⟨Nat.le_of_ble_eq_true rfl, Nat.le_of_ble_eq_true rfl⟩ ⟨Nat.le_of_ble_eq_true rfl, Nat.le_of_ble_eq_true rfl⟩ rfl rfl (by simp [va_rf_cat, cat_i, cat_l]) dX10_file_39 ?_
          show fh_V X rm_X10_file 3 (w6, 2, 160) K5 M4 _ _ [va_rf (r3), va_rf (some t)]
          refine fv_iconst (v := -1) C (by decide) dX10_file_42 ?_
          refine fv_aload_n C 0 rfl rfl dX10_file_43 ?_
          replace h := fo_s h
          obtain ⟨a7, ea7, ka7, h⟩ := h
          refine fv_getI C fl_RX10_82 ea7 ka7 dX10_file_44 ?_
          replace h := fc4_s h
          obtain ⟨r8, w11, K10, M9, er8, h⟩ := h
          refine fv_callV [va_rf (r3), .int ((-1)), .int (M4.1 a7 12)] C mi_X10_store ms_X10_store lk_RX10_120 ea7 ka7 (r_X10_store _ _ _ er8) ⟨Nat.le_of_ble_eq_true rfl, Nat.le_of_ble_eq_true rfl⟩ ⟨Nat.le_of_ble_eq_true rfl, Nat.le_of_ble_eq_true rfl⟩ rfl rfl (by simp [va_rf_cat, cat_i, cat_l]) dX10_file_47 ?_
          show fh_V X rm_X10_file 3 (w11, 3, 169) K10 M9 _ _ [.int r8]
          refine fv_istore_n (i := 2) (lv' := [(2, .int r8), (0, va_rf (some t)), (1, .int p1)]) C rfl (by decide) (by first | rfl | simp [va_rf_cat]) dX10_file_50 ?_
          refine fv_aload_n C 1 rfl rfl dX10_file_51 ?_
          replace h := fo_s h
          obtain ⟨a12, ea12, ka12, h⟩ := h
          refine fv_getR C fl_RX10_14 ea12 ka12 dX10_file_52 ?_
          replace h := fo_s h
          obtain ⟨a13, ea13, ka13, h⟩ := h
          replace h := bx h
          obtain ⟨M15, er14, h⟩ := h
          refine fv_callV [] C mi_X0_clear ms_X0_clear lk_RX10_113 ea13 ka13 (r_X0_clear _ _ _ er14) ⟨Nat.le_of_ble_eq_true rfl, Nat.le_of_ble_eq_true rfl⟩ ⟨Nat.le_of_ble_eq_true rfl, Nat.le_of_ble_eq_true rfl⟩ rfl rfl (by simp [va_rf_cat, cat_i, cat_l]) dX10_file_55 ?_
          show fh_V X rm_X10_file 3 (w11, 3, 169) K10 M15 _ _ []
          refine fv_iload_n C 0 rfl rfl dX10_file_58 ?_
          cases h
          exact fv_iret (z := (0, 0, 0)) (st := []) C E dX10_file_59
        · replace h := itF c16 h
          refine fv_iconst (v := -1) C (by decide) dX10_file_31 ?_
          refine fv_widen (mc := 3) (ms := 169) (cc := ⟨#[]⟩) (own := "") (Nat.le_of_ble_eq_true rfl) (Nat.le_of_ble_eq_true rfl) ?_
          cases h
          exact fv_iret (z := (0, 0, 0)) (st := []) C E dX10_file_32
abbrev rm_X10_fileAt : Room := { frames := 0, cells := 0, slots := 0, locals := 0 }
set_option maxRecDepth 10000 in
theorem r_X10_fileAt (l : Launch) (D : fh_D) (A : Nat → Prop) {K : fh_K} {sz : Nat} {M : fh_M} {r : Option Nat} {t : Nat} {p1 : Int32} (h : f_X10_fileAt K M t p1 = some r) : fh_Met l yX10_fileAt cX10_fileAt 2 (some (.object "FileHouse$StoredFile")) rm_X10_fileAt D K M sz A [va_rf (some t), .int p1] (some (va_rf r)) K M sz := by
  refine fh_enter (by decide) (by simp [lg_sl, va_rf_cat, cat_i, cat_l]) (lv := [(0, va_rf (some t)), (1, .int p1)]) (by simp [lv_args, va_rf_cat, cat_i, cat_l]) ?_
  intro X C E hnm _ _ _
  replace C : fh_C X 2 cX10_fileAt RX10 := C
  unfold f_X10_fileAt at h
  refine fv_iload_n C 1 rfl rfl dX10_fileAt_0 ?_
  refine fv_if_lt C 21 (by decide) dX10_fileAt_1 (fun c4 => ?_) (fun c4 => ?_)
  · replace h := itT c4 h
    refine fv_null C dX10_fileAt_21 ?_
    cases h
    exact fv_aret (z := (0, 0, 0)) (st := []) C E (Or.inl ⟨_, rfl⟩) dX10_fileAt_22
  · replace h := itF c4 h
    refine fv_iload_n C 1 rfl rfl dX10_fileAt_4 ?_
    refine fv_aload_n C 0 rfl rfl dX10_fileAt_5 ?_
    replace h := fo_s h
    obtain ⟨a1, ea1, ka1, h⟩ := h
    refine fv_getI C fl_RX10_82 ea1 ka1 dX10_fileAt_6 ?_
    refine fv_icmp_ge C 21 (by decide) dX10_fileAt_9 (fun c3 => ?_) (fun c3 => ?_)
    · replace h := itT c3 h
      refine fv_null C dX10_fileAt_21 ?_
      cases h
      exact fv_aret (z := (0, 0, 0)) (st := []) C E (Or.inl ⟨_, rfl⟩) dX10_fileAt_22
    · replace h := itF c3 h
      refine fv_aload_n C 0 rfl rfl dX10_fileAt_12 ?_
      refine fv_getR C fl_RX10_29 ea1 ka1 dX10_fileAt_13 ?_
      refine fv_iload_n C 1 rfl rfl dX10_fileAt_16 ?_
      replace h := fi_s h
      obtain ⟨a2, ea2, ka2, ia2, h⟩ := h
      refine fv_aald (t := 18) C 5 rfl (by decide) (fun _ => rfl) ea2 ka2 ia2 dX10_fileAt_17 ?_
      refine fv_goto C 22 (by decide) dX10_fileAt_18 ?_
      cases h
      exact fv_aret (z := (0, 0, 0)) (st := []) C E (Or.inl ⟨_, rfl⟩) dX10_fileAt_22
abbrev rm_X10_must : Room := { frames := 1, cells := 0, slots := 0, locals := 21 }
set_option maxRecDepth 10000 in
theorem r_X10_must (l : Launch) (D : fh_D) (A : Nat → Prop) {K : fh_K} {sz : Nat} {M : fh_M} {M' : fh_M} {r : Int32} {t : Nat} {p1 : Int32} {p2 : Int32} (h : f_X10_must K M t p1 p2 = some (r, M')) : fh_Met l yX10_must cX10_must 4 (some .boolean) rm_X10_must D K M sz A [va_rf (some t), .int p1, .int p2] (some (.int r)) K M' sz := by
  refine fh_enter (by decide) (by simp [lg_sl, va_rf_cat, cat_i, cat_l]) (lv := [(0, va_rf (some t)), (1, .int p1), (2, .int p2)]) (by simp [lv_args, va_rf_cat, cat_i, cat_l]) ?_
  intro X C E hnm _ _ _
  replace C : fh_C X 4 cX10_must RX10 := C
  unfold f_X10_must at h
  refine fv_aload_n C 0 rfl rfl dX10_must_0 ?_
  refine fv_iload_n C 1 rfl rfl dX10_must_1 ?_
  replace h := fo_s h
  obtain ⟨a1, ea1, ka1, h⟩ := h
  replace h := bx h
  obtain ⟨r2, er2, h⟩ := h
  refine fv_callV [.int p1] C mi_X10_fileAt ms_X10_fileAt lk_RX10_124 ea1 ka1 (r_X10_fileAt _ _ _ er2) ⟨Nat.le_of_ble_eq_true rfl, Nat.le_of_ble_eq_true rfl⟩ ⟨Nat.le_of_ble_eq_true rfl, Nat.le_of_ble_eq_true rfl⟩ rfl rfl (by simp [va_rf_cat, cat_i, cat_l]) dX10_must_2 ?_
  show fh_V X rm_X10_must 4 (sz, 0, 0) K M _ _ [va_rf (r2)]
  refine fv_astore_n (i := 3) (lv' := [(3, va_rf (r2)), (0, va_rf (some t)), (1, .int p1), (2, .int p2)]) C rfl (by decide) (by first | rfl | simp [va_rf_cat]) dX10_must_5 ?_
  refine fv_aload_n C 0 rfl rfl dX10_must_6 ?_
  refine fv_ifnull C 17 (by decide) dX10_must_7 (fun c7 => ?_) (fun c7 => ?_)
  · replace h := itT c7 h
    refine fv_iconst (v := 0) C (by decide) dX10_must_17 ?_
    cases h
    exact fv_zret (z := (0, 0, 0)) (st := []) C E (Or.inl rfl) dX10_must_18
  · replace h := itF c7 h
    refine fv_iload_n C 3 rfl rfl dX10_must_10 ?_
    replace h := bx h
    obtain ⟨r3, er3, h⟩ := h
    refine fv_callS [.int p2] C mi_X10_areProperties lk_RX10_102 (r_X10_areProperties _ _ _ er3) ⟨Nat.le_of_ble_eq_true rfl, Nat.le_of_ble_eq_true rfl⟩ ⟨Nat.le_of_ble_eq_true rfl, Nat.le_of_ble_eq_true rfl⟩ rfl rfl (by simp [va_rf_cat, cat_i, cat_l]) dX10_must_11 ?_
    show fh_V X rm_X10_must 4 (sz, 0, 0) K M _ _ [.int r3]
    refine fv_if_ne C 19 (by decide) dX10_must_14 (fun c6 => ?_) (fun c6 => ?_)
    · replace h := itF c6 h
      refine fv_aload_n C 0 rfl rfl dX10_must_19 ?_
      refine fv_iload_n C 3 rfl rfl dX10_must_20 ?_
      replace h := fo_s h
      obtain ⟨a4, ea4, ka4, h⟩ := h
      replace h := fb_s h
      obtain ⟨M5, eM5, h⟩ := h
      refine fv_putI (fin := false) C fl_RX10_128 ea4 ka4 (narrow_i _) dX10_must_21 (fv_eqM eM5 ?_)
      refine fv_iconst (v := 1) C (by decide) dX10_must_24 ?_
      cases h
      exact fv_zret (z := (0, 0, 0)) (st := []) C E (Or.inr rfl) dX10_must_25
    · replace h := itT c6 h
      refine fv_iconst (v := 0) C (by decide) dX10_must_17 ?_
      cases h
      exact fv_zret (z := (0, 0, 0)) (st := []) C E (Or.inl rfl) dX10_must_18
abbrev rm_X10_isYear : Room := { frames := 0, cells := 0, slots := 0, locals := 0 }
set_option maxRecDepth 10000 in
theorem r_X10_isYear (l : Launch) (D : fh_D) (A : Nat → Prop) {K : fh_K} {sz : Nat} {M : fh_M} {r : Int32} {p0 : Int32} (h : f_X10_isYear K M p0 = some r) : fh_Met l yX10_isYear cX10_isYear 1 (some .boolean) rm_X10_isYear D K M sz A [.int p0] (some (.int r)) K M sz := by
  refine fh_enter (by decide) (by simp [lg_sl, va_rf_cat, cat_i, cat_l]) (lv := [(0, .int p0)]) (by simp [lv_args, va_rf_cat, cat_i, cat_l]) ?_
  intro X C E hnm _ _ _
  replace C : fh_C X 1 cX10_isYear RX10 := C
  unfold f_X10_isYear at h
  refine fv_iload_n C 0 rfl rfl dX10_isYear_0 ?_
  refine fv_if_lt C 15 (by decide) dX10_isYear_1 (fun c2 => ?_) (fun c2 => ?_)
  · replace h := itT c2 h
    refine fv_iconst (v := 0) C (by decide) dX10_isYear_15 ?_
    cases h
    exact fv_zret (z := (0, 0, 0)) (st := []) C E (Or.inl rfl) dX10_isYear_16
  · replace h := itF c2 h
    refine fv_iload_n C 0 rfl rfl dX10_isYear_4 ?_
    refine fv_sipush (v := 999) C (by decide) dX10_isYear_5 ?_
    refine fv_icmp_gt C 15 (by decide) dX10_isYear_8 (fun c1 => ?_) (fun c1 => ?_)
    · replace h := itT c1 h
      refine fv_iconst (v := 0) C (by decide) dX10_isYear_15 ?_
      cases h
      exact fv_zret (z := (0, 0, 0)) (st := []) C E (Or.inl rfl) dX10_isYear_16
    · replace h := itF c1 h
      refine fv_iconst (v := 1) C (by decide) dX10_isYear_11 ?_
      refine fv_goto C 16 (by decide) dX10_isYear_12 ?_
      cases h
      exact fv_zret (z := (0, 0, 0)) (st := []) C E (Or.inr rfl) dX10_isYear_16
abbrev rm_X10_machine : Room := { frames := 2, cells := 0, slots := 0, locals := 44 }
set_option maxRecDepth 10000 in
theorem r_X10_machine (l : Launch) (D : fh_D) (A : Nat → Prop) {K : fh_K} {sz : Nat} {M : fh_M} {M' : fh_M} {r : Int32} {t : Nat} {p1 : Int32} {p2 : Int32} {p3 : Int32} (h : f_X10_machine K M t p1 p2 p3 = some (r, M')) : fh_Met l yX10_machine cX10_machine 4 (some .boolean) rm_X10_machine D K M sz A [va_rf (some t), .int p1, .int p2, .int p3] (some (.int r)) K M' sz := by
  refine fh_enter (by decide) (by simp [lg_sl, va_rf_cat, cat_i, cat_l]) (lv := [(0, va_rf (some t)), (1, .int p1), (2, .int p2), (3, .int p3)]) (by simp [lv_args, va_rf_cat, cat_i, cat_l]) ?_
  intro X C E hnm _ _ _
  replace C : fh_C X 4 cX10_machine RX10 := C
  unfold f_X10_machine at h
  refine fv_aload_n C 0 rfl rfl dX10_machine_0 ?_
  replace h := fo_s h
  obtain ⟨a1, ea1, ka1, h⟩ := h
  refine fv_getR C fl_RX10_36 ea1 ka1 dX10_machine_1 ?_
  refine fv_iload_n C 1 rfl rfl dX10_machine_4 ?_
  replace h := fo_s h
  obtain ⟨a2, ea2, ka2, h⟩ := h
  replace h := bx h
  obtain ⟨r3, er3, h⟩ := h
  refine fv_callV [.int p1] C mi_X1_knows ms_X1_knows lk_RX10_131 ea2 ka2 (r_X1_knows _ _ _ er3) ⟨Nat.le_of_ble_eq_true rfl, Nat.le_of_ble_eq_true rfl⟩ ⟨Nat.le_of_ble_eq_true rfl, Nat.le_of_ble_eq_true rfl⟩ rfl rfl (by simp [va_rf_cat, cat_i, cat_l]) dX10_machine_5 ?_
  show fh_V X rm_X10_machine 4 (sz, 0, 0) K M _ _ [.int r3]
  refine fv_if_eq C 30 (by decide) dX10_machine_8 (fun c11 => ?_) (fun c11 => ?_)
  · replace h := itT c11 h
    refine fv_iconst (v := 0) C (by decide) dX10_machine_30 ?_
    cases h
    exact fv_zret (z := (0, 0, 0)) (st := []) C E (Or.inl rfl) dX10_machine_31
  · replace h := itF c11 h
    refine fv_iload_n C 2 rfl rfl dX10_machine_11 ?_
    replace h := bx h
    obtain ⟨r4, er4, h⟩ := h
    refine fv_callS [.int p2] C mi_X10_isYear lk_RX10_134 (r_X10_isYear _ _ _ er4) ⟨Nat.le_of_ble_eq_true rfl, Nat.le_of_ble_eq_true rfl⟩ ⟨Nat.le_of_ble_eq_true rfl, Nat.le_of_ble_eq_true rfl⟩ rfl rfl (by simp [va_rf_cat, cat_i, cat_l]) dX10_machine_12 ?_
    show fh_V X rm_X10_machine 4 (sz, 0, 0) K M _ _ [.int r4]
    refine fv_if_eq C 30 (by decide) dX10_machine_15 (fun c10 => ?_) (fun c10 => ?_)
    · replace h := itT c10 h
      refine fv_iconst (v := 0) C (by decide) dX10_machine_30 ?_
      cases h
      exact fv_zret (z := (0, 0, 0)) (st := []) C E (Or.inl rfl) dX10_machine_31
    · replace h := itF c10 h
      refine fv_iload_n C 3 rfl rfl dX10_machine_18 ?_
      replace h := bx h
      obtain ⟨r5, er5, h⟩ := h
      refine fv_callS [.int p3] C mi_X10_isYear lk_RX10_134 (r_X10_isYear _ _ _ er5) ⟨Nat.le_of_ble_eq_true rfl, Nat.le_of_ble_eq_true rfl⟩ ⟨Nat.le_of_ble_eq_true rfl, Nat.le_of_ble_eq_true rfl⟩ rfl rfl (by simp [va_rf_cat, cat_i, cat_l]) dX10_machine_19 ?_
      show fh_V X rm_X10_machine 4 (sz, 0, 0) K M _ _ [.int r5]
      refine fv_if_eq C 30 (by decide) dX10_machine_22 (fun c9 => ?_) (fun c9 => ?_)
      · replace h := itT c9 h
        refine fv_iconst (v := 0) C (by decide) dX10_machine_30 ?_
        cases h
        exact fv_zret (z := (0, 0, 0)) (st := []) C E (Or.inl rfl) dX10_machine_31
      · replace h := itF c9 h
        refine fv_iload_n C 3 rfl rfl dX10_machine_25 ?_
        refine fv_iload_n C 2 rfl rfl dX10_machine_26 ?_
        refine fv_icmp_ge C 32 (by decide) dX10_machine_27 (fun c8 => ?_) (fun c8 => ?_)
        · replace h := itT c8 h
          refine fv_aload_n C 0 rfl rfl dX10_machine_32 ?_
          refine fv_getR C fl_RX10_36 ea1 ka1 dX10_machine_33 ?_
          refine fv_iload_n C 1 rfl rfl dX10_machine_36 ?_
          refine fv_iload_n C 2 rfl rfl dX10_machine_37 ?_
          refine fv_iload_n C 3 rfl rfl dX10_machine_38 ?_
          replace h := bx h
          obtain ⟨M7, er6, h⟩ := h
          refine fv_callV [.int p1, .int p2, .int p3] C mi_X1_setEnds ms_X1_setEnds lk_RX10_137 ea2 ka2 (r_X1_setEnds _ _ _ er6) ⟨Nat.le_of_ble_eq_true rfl, Nat.le_of_ble_eq_true rfl⟩ ⟨Nat.le_of_ble_eq_true rfl, Nat.le_of_ble_eq_true rfl⟩ rfl rfl (by simp [va_rf_cat, cat_i, cat_l]) dX10_machine_39 ?_
          show fh_V X rm_X10_machine 4 (sz, 0, 0) K M7 _ _ []
          refine fv_iconst (v := 1) C (by decide) dX10_machine_42 ?_
          cases h
          exact fv_zret (z := (0, 0, 0)) (st := []) C E (Or.inr rfl) dX10_machine_43
        · replace h := itF c8 h
          refine fv_iconst (v := 0) C (by decide) dX10_machine_30 ?_
          cases h
          exact fv_zret (z := (0, 0, 0)) (st := []) C E (Or.inl rfl) dX10_machine_31
abbrev rm_X10_reader : Room := { frames := 2, cells := 0, slots := 0, locals := 45 }
set_option maxRecDepth 10000 in
theorem r_X10_reader (l : Launch) (D : fh_D) (A : Nat → Prop) {K : fh_K} {sz : Nat} {M : fh_M} {M' : fh_M} {r : Int32} {t : Nat} {p1 : Int32} {p2 : Int32} (h : f_X10_reader K M t p1 p2 = some (r, M')) : fh_Met l yX10_reader cX10_reader 3 (some .boolean) rm_X10_reader D K M sz A [va_rf (some t), .int p1, .int p2] (some (.int r)) K M' sz := by
  refine fh_enter (by decide) (by simp [lg_sl, va_rf_cat, cat_i, cat_l]) (lv := [(0, va_rf (some t)), (1, .int p1), (2, .int p2)]) (by simp [lv_args, va_rf_cat, cat_i, cat_l]) ?_
  intro X C E hnm _ _ _
  replace C : fh_C X 3 cX10_reader RX10 := C
  unfold f_X10_reader at h
  refine fv_aload_n C 0 rfl rfl dX10_reader_0 ?_
  refine fv_iload_n C 1 rfl rfl dX10_reader_1 ?_
  replace h := fo_s h
  obtain ⟨a1, ea1, ka1, h⟩ := h
  replace h := bx h
  obtain ⟨r2, er2, h⟩ := h
  refine fv_callV [.int p1] C mi_X10_makeAt ms_X10_makeAt lk_RX10_141 ea1 ka1 (r_X10_makeAt _ _ _ er2) ⟨Nat.le_of_ble_eq_true rfl, Nat.le_of_ble_eq_true rfl⟩ ⟨Nat.le_of_ble_eq_true rfl, Nat.le_of_ble_eq_true rfl⟩ rfl rfl (by simp [va_rf_cat, cat_i, cat_l]) dX10_reader_2 ?_
  show fh_V X rm_X10_reader 3 (sz, 0, 0) K M _ _ [va_rf (r2)]
  refine fv_ifnull C 19 (by decide) dX10_reader_5 (fun c9 => ?_) (fun c9 => ?_)
  · replace h := itT c9 h
    refine fv_iconst (v := 0) C (by decide) dX10_reader_19 ?_
    cases h
    exact fv_zret (z := (0, 0, 0)) (st := []) C E (Or.inl rfl) dX10_reader_20
  · replace h := itF c9 h
    refine fv_aload_n C 0 rfl rfl dX10_reader_8 ?_
    refine fv_getR C fl_RX10_36 ea1 ka1 dX10_reader_9 ?_
    refine fv_iload_n C 2 rfl rfl dX10_reader_12 ?_
    replace h := fo_s h
    obtain ⟨a3, ea3, ka3, h⟩ := h
    replace h := bx h
    obtain ⟨r4, er4, h⟩ := h
    refine fv_callV [.int p2] C mi_X1_knows ms_X1_knows lk_RX10_131 ea3 ka3 (r_X1_knows _ _ _ er4) ⟨Nat.le_of_ble_eq_true rfl, Nat.le_of_ble_eq_true rfl⟩ ⟨Nat.le_of_ble_eq_true rfl, Nat.le_of_ble_eq_true rfl⟩ rfl rfl (by simp [va_rf_cat, cat_i, cat_l]) dX10_reader_13 ?_
    show fh_V X rm_X10_reader 3 (sz, 0, 0) K M _ _ [.int r4]
    refine fv_if_ne C 21 (by decide) dX10_reader_16 (fun c8 => ?_) (fun c8 => ?_)
    · replace h := itF c8 h
      refine fv_aload_n C 0 rfl rfl dX10_reader_21 ?_
      refine fv_getR C fl_RX10_43 ea1 ka1 dX10_reader_22 ?_
      refine fv_iload_n C 1 rfl rfl dX10_reader_25 ?_
      refine fv_iload_n C 2 rfl rfl dX10_reader_26 ?_
      replace h := fo_s h
      obtain ⟨a5, ea5, ka5, h⟩ := h
      replace h := fc2_s h
      obtain ⟨r6, M7, er6, h⟩ := h
      refine fv_callV [.int p1, .int p2] C mi_X3_add ms_X3_add lk_RX10_145 ea5 ka5 (r_X3_add _ _ _ er6) ⟨Nat.le_of_ble_eq_true rfl, Nat.le_of_ble_eq_true rfl⟩ ⟨Nat.le_of_ble_eq_true rfl, Nat.le_of_ble_eq_true rfl⟩ rfl rfl (by simp [va_rf_cat, cat_i, cat_l]) dX10_reader_27 ?_
      show fh_V X rm_X10_reader 3 (sz, 0, 0) K M7 _ _ [.int r6]
      replace h := fz_s h
      obtain ⟨hz, h⟩ := h
      cases h
      exact fv_zret (z := (0, 0, 0)) (st := []) C E hz dX10_reader_30
    · replace h := itT c8 h
      refine fv_iconst (v := 0) C (by decide) dX10_reader_19 ?_
      cases h
      exact fv_zret (z := (0, 0, 0)) (st := []) C E (Or.inl rfl) dX10_reader_20
abbrev rm_X10_turner : Room := { frames := 3, cells := 1, slots := 5, locals := 74 }
set_option maxRecDepth 10000 in
theorem r_X10_turner (l : Launch) (D : fh_D) (A : Nat → Prop) {K : fh_K} {sz : Nat} {M : fh_M} {M' : fh_M} {K' : fh_K} {sz' : Nat} {r : Int32} {t : Nat} {p1 : Int32} {p2 : Int32} {p3 : Int32} {p4 : Int32} {p5 : Int32} (h : f_X10_turner sz K M t p1 p2 p3 p4 p5 = some (r, sz', K', M')) : fh_Met l yX10_turner cX10_turner 7 (some .int) rm_X10_turner D K M sz A [va_rf (some t), .int p1, .int p2, .int p3, .int p4, .int p5] (some (.int r)) K' M' sz' := by
  refine fh_enter (by decide) (by simp [lg_sl, va_rf_cat, cat_i, cat_l]) (lv := [(0, va_rf (some t)), (1, .int p1), (2, .int p2), (3, .int p3), (4, .int p4), (5, .int p5)]) (by simp [lv_args, va_rf_cat, cat_i, cat_l]) ?_
  intro X C E hnm _ _ _
  replace C : fh_C X 7 cX10_turner RX10 := C
  unfold f_X10_turner at h
  refine fv_aload_n C 0 rfl rfl dX10_turner_0 ?_
  refine fv_iload_n C 2 rfl rfl dX10_turner_1 ?_
  replace h := fo_s h
  obtain ⟨a1, ea1, ka1, h⟩ := h
  replace h := bx h
  obtain ⟨r2, er2, h⟩ := h
  refine fv_callV [.int p2] C mi_X10_makeAt ms_X10_makeAt lk_RX10_141 ea1 ka1 (r_X10_makeAt _ _ _ er2) ⟨Nat.le_of_ble_eq_true rfl, Nat.le_of_ble_eq_true rfl⟩ ⟨Nat.le_of_ble_eq_true rfl, Nat.le_of_ble_eq_true rfl⟩ rfl rfl (by simp [va_rf_cat, cat_i, cat_l]) dX10_turner_2 ?_
  show fh_V X rm_X10_turner 7 (sz, 0, 0) K M _ _ [va_rf (r2)]
  refine fv_astore (i := 6) (lv' := [(6, va_rf (r2)), (0, va_rf (some t)), (1, .int p1), (2, .int p2), (3, .int p3), (4, .int p4), (5, .int p5)]) C (by decide) (by first | rfl | simp [va_rf_cat]) dX10_turner_5 ?_
  refine fv_aload_n C 1 rfl rfl dX10_turner_7 ?_
  refine fv_iload_n C 2 rfl rfl dX10_turner_8 ?_
  replace h := bx h
  obtain ⟨r3, er3, h⟩ := h
  refine fv_callV [.int p1] C mi_X10_makeAt ms_X10_makeAt lk_RX10_141 ea1 ka1 (r_X10_makeAt _ _ _ er3) ⟨Nat.le_of_ble_eq_true rfl, Nat.le_of_ble_eq_true rfl⟩ ⟨Nat.le_of_ble_eq_true rfl, Nat.le_of_ble_eq_true rfl⟩ rfl rfl (by simp [va_rf_cat, cat_i, cat_l]) dX10_turner_9 ?_
  show fh_V X rm_X10_turner 7 (sz, 0, 0) K M _ _ [va_rf (r3)]
  refine fv_ifnull C 25 (by decide) dX10_turner_12 (fun c19 => ?_) (fun c19 => ?_)
  · replace h := itT c19 h
    refine fv_iconst (v := -1) C (by decide) dX10_turner_25 ?_
    refine fv_widen (mc := 1) (ms := 5) (cc := ⟨#[]⟩) (own := "") (Nat.le_of_ble_eq_true rfl) (Nat.le_of_ble_eq_true rfl) ?_
    cases h
    exact fv_iret (z := (0, 0, 0)) (st := []) C E dX10_turner_26
  · replace h := itF c19 h
    refine fv_aload C 0 rfl dX10_turner_15 ?_
    refine fv_ifnull C 25 (by decide) dX10_turner_17 (fun c18 => ?_) (fun c18 => ?_)
    · replace h := itT c18 h
      refine fv_iconst (v := -1) C (by decide) dX10_turner_25 ?_
      refine fv_widen (mc := 1) (ms := 5) (cc := ⟨#[]⟩) (own := "") (Nat.le_of_ble_eq_true rfl) (Nat.le_of_ble_eq_true rfl) ?_
      cases h
      exact fv_iret (z := (0, 0, 0)) (st := []) C E dX10_turner_26
    · replace h := itF c18 h
      refine fv_iload_n C 2 rfl rfl dX10_turner_20 ?_
      refine fv_iload_n C 3 rfl rfl dX10_turner_21 ?_
      refine fv_icmp_ne C 27 (by decide) dX10_turner_22 (fun c17 => ?_) (fun c17 => ?_)
      · replace h := itF c17 h
        refine fv_iload_n C 4 rfl rfl dX10_turner_27 ?_
        replace h := bx h
        obtain ⟨r4, er4, h⟩ := h
        refine fv_callS [.int p3] C mi_X10_areProperties lk_RX10_102 (r_X10_areProperties _ _ _ er4) ⟨Nat.le_of_ble_eq_true rfl, Nat.le_of_ble_eq_true rfl⟩ ⟨Nat.le_of_ble_eq_true rfl, Nat.le_of_ble_eq_true rfl⟩ rfl rfl (by simp [va_rf_cat, cat_i, cat_l]) dX10_turner_28 ?_
        show fh_V X rm_X10_turner 7 (sz, 0, 0) K M _ _ [.int r4]
        refine fv_if_eq C 59 (by decide) dX10_turner_31 (fun c16 => ?_) (fun c16 => ?_)
        · replace h := itT c16 h
          refine fv_iconst (v := -1) C (by decide) dX10_turner_59 ?_
          refine fv_widen (mc := 1) (ms := 5) (cc := ⟨#[]⟩) (own := "") (Nat.le_of_ble_eq_true rfl) (Nat.le_of_ble_eq_true rfl) ?_
          cases h
          exact fv_iret (z := (0, 0, 0)) (st := []) C E dX10_turner_60
        · replace h := itF c16 h
          refine fv_iload C 5 rfl dX10_turner_34 ?_
          refine fv_if_lt C 59 (by decide) dX10_turner_36 (fun c15 => ?_) (fun c15 => ?_)
          · replace h := itT c15 h
            refine fv_iconst (v := -1) C (by decide) dX10_turner_59 ?_
            refine fv_widen (mc := 1) (ms := 5) (cc := ⟨#[]⟩) (own := "") (Nat.le_of_ble_eq_true rfl) (Nat.le_of_ble_eq_true rfl) ?_
            cases h
            exact fv_iret (z := (0, 0, 0)) (st := []) C E dX10_turner_60
          · replace h := itF c15 h
            refine fv_iload C 5 rfl dX10_turner_39 ?_
            refine fv_sipush (v := 9999) C (by decide) dX10_turner_41 ?_
            refine fv_icmp_gt C 59 (by decide) dX10_turner_44 (fun c14 => ?_) (fun c14 => ?_)
            · replace h := itT c14 h
              refine fv_iconst (v := -1) C (by decide) dX10_turner_59 ?_
              refine fv_widen (mc := 1) (ms := 5) (cc := ⟨#[]⟩) (own := "") (Nat.le_of_ble_eq_true rfl) (Nat.le_of_ble_eq_true rfl) ?_
              cases h
              exact fv_iret (z := (0, 0, 0)) (st := []) C E dX10_turner_60
            · replace h := itF c14 h
              refine fv_aload_n C 1 rfl rfl dX10_turner_47 ?_
              refine fv_getR C fl_RX10_36 ea1 ka1 dX10_turner_48 ?_
              refine fv_iload C 6 rfl dX10_turner_51 ?_
              replace h := fo_s h
              obtain ⟨a5, ea5, ka5, h⟩ := h
              replace h := bx h
              obtain ⟨r6, er6, h⟩ := h
              refine fv_callV [.int p5] C mi_X1_knows ms_X1_knows lk_RX10_131 ea5 ka5 (r_X1_knows _ _ _ er6) ⟨Nat.le_of_ble_eq_true rfl, Nat.le_of_ble_eq_true rfl⟩ ⟨Nat.le_of_ble_eq_true rfl, Nat.le_of_ble_eq_true rfl⟩ rfl rfl (by simp [va_rf_cat, cat_i, cat_l]) dX10_turner_53 ?_
              show fh_V X rm_X10_turner 7 (sz, 0, 0) K M _ _ [.int r6]
              refine fv_if_ne C 61 (by decide) dX10_turner_56 (fun c13 => ?_) (fun c13 => ?_)
              · replace h := itF c13 h
                refine fv_aload_n C 1 rfl rfl dX10_turner_61 ?_
                refine fv_getR C fl_RX10_50 ea1 ka1 dX10_turner_62 ?_
                refine fv_iload_n C 2 rfl rfl dX10_turner_65 ?_
                refine fv_iload_n C 3 rfl rfl dX10_turner_66 ?_
                refine fv_aload C 0 rfl dX10_turner_67 ?_
                replace h := fo_s h
                obtain ⟨a7, ea7, ka7, h⟩ := h
                refine fv_getI C fl_RX10_149 ea7 ka7 dX10_turner_69 ?_
                refine fv_iload_n C 4 rfl rfl dX10_turner_72 ?_
                refine fv_iconst (v := -1) C (by decide) dX10_turner_73 ?_
                refine fv_ixor C dX10_turner_74 ?_
                refine fv_iand C dX10_turner_75 ?_
                refine fv_iload C 5 rfl dX10_turner_76 ?_
                refine fv_iload C 6 rfl dX10_turner_78 ?_
                replace h := fo_s h
                obtain ⟨a8, ea8, ka8, h⟩ := h
                replace h := fc4_s h
                obtain ⟨r9, w12, K11, M10, er9, h⟩ := h
                refine fv_callV [.int p1, .int p2, .int ((M.1 a7 1) &&& (p3 ^^^ (-1))), .int p4, .int p5] C mi_X9_add ms_X9_add lk_RX10_152 ea8 ka8 (r_X9_add _ _ _ er9) ⟨Nat.le_of_ble_eq_true rfl, Nat.le_of_ble_eq_true rfl⟩ ⟨Nat.le_of_ble_eq_true rfl, Nat.le_of_ble_eq_true rfl⟩ rfl rfl (by simp [va_rf_cat, cat_i, cat_l]) dX10_turner_80 ?_
                show fh_V X rm_X10_turner 7 (w12, 1, 5) K11 M10 _ _ [.int r9]
                cases h
                exact fv_iret (z := (0, 0, 0)) (st := []) C E dX10_turner_83
              · replace h := itT c13 h
                refine fv_iconst (v := -1) C (by decide) dX10_turner_59 ?_
                refine fv_widen (mc := 1) (ms := 5) (cc := ⟨#[]⟩) (own := "") (Nat.le_of_ble_eq_true rfl) (Nat.le_of_ble_eq_true rfl) ?_
                cases h
                exact fv_iret (z := (0, 0, 0)) (st := []) C E dX10_turner_60
      · replace h := itT c17 h
        refine fv_iconst (v := -1) C (by decide) dX10_turner_25 ?_
        refine fv_widen (mc := 1) (ms := 5) (cc := ⟨#[]⟩) (own := "") (Nat.le_of_ble_eq_true rfl) (Nat.le_of_ble_eq_true rfl) ?_
        cases h
        exact fv_iret (z := (0, 0, 0)) (st := []) C E dX10_turner_26
abbrev rm_X10_isYearToCome : Room := { frames := 1, cells := 0, slots := 0, locals := 20 }
set_option maxRecDepth 10000 in
theorem r_X10_isYearToCome (l : Launch) (D : fh_D) (A : Nat → Prop) {K : fh_K} {sz : Nat} {M : fh_M} {r : Int32} {t : Nat} {p1 : Int32} (h : f_X10_isYearToCome K M t p1 = some r) : fh_Met l yX10_isYearToCome cX10_isYearToCome 2 (some .boolean) rm_X10_isYearToCome D K M sz A [va_rf (some t), .int p1] (some (.int r)) K M sz := by
  refine fh_enter (by decide) (by simp [lg_sl, va_rf_cat, cat_i, cat_l]) (lv := [(0, va_rf (some t)), (1, .int p1)]) (by simp [lv_args, va_rf_cat, cat_i, cat_l]) ?_
  intro X C E hnm _ _ _
  replace C : fh_C X 2 cX10_isYearToCome RX10 := C
  unfold f_X10_isYearToCome at h
  refine fv_iload_n C 1 rfl rfl dX10_isYearToCome_0 ?_
  replace h := bx h
  obtain ⟨r1, er1, h⟩ := h
  refine fv_callS [.int p1] C mi_X10_isYear lk_RX10_134 (r_X10_isYear _ _ _ er1) ⟨Nat.le_of_ble_eq_true rfl, Nat.le_of_ble_eq_true rfl⟩ ⟨Nat.le_of_ble_eq_true rfl, Nat.le_of_ble_eq_true rfl⟩ rfl rfl (by simp [va_rf_cat, cat_i, cat_l]) dX10_isYearToCome_1 ?_
  show fh_V X rm_X10_isYearToCome 2 (sz, 0, 0) K M _ _ [.int r1]
  refine fv_if_eq C 19 (by decide) dX10_isYearToCome_4 (fun c4 => ?_) (fun c4 => ?_)
  · replace h := itT c4 h
    refine fv_iconst (v := 0) C (by decide) dX10_isYearToCome_19 ?_
    cases h
    exact fv_zret (z := (0, 0, 0)) (st := []) C E (Or.inl rfl) dX10_isYearToCome_20
  · replace h := itF c4 h
    refine fv_iload_n C 1 rfl rfl dX10_isYearToCome_7 ?_
    refine fv_aload_n C 0 rfl rfl dX10_isYearToCome_8 ?_
    replace h := fo_s h
    obtain ⟨a2, ea2, ka2, h⟩ := h
    refine fv_getI C fl_RX10_85 ea2 ka2 dX10_isYearToCome_9 ?_
    refine fv_icmp_lt C 19 (by decide) dX10_isYearToCome_12 (fun c3 => ?_) (fun c3 => ?_)
    · replace h := itT c3 h
      refine fv_iconst (v := 0) C (by decide) dX10_isYearToCome_19 ?_
      cases h
      exact fv_zret (z := (0, 0, 0)) (st := []) C E (Or.inl rfl) dX10_isYearToCome_20
    · replace h := itF c3 h
      refine fv_iconst (v := 1) C (by decide) dX10_isYearToCome_15 ?_
      refine fv_goto C 20 (by decide) dX10_isYearToCome_16 ?_
      cases h
      exact fv_zret (z := (0, 0, 0)) (st := []) C E (Or.inr rfl) dX10_isYearToCome_20
abbrev rm_X10_year : Room := { frames := 2, cells := 0, slots := 0, locals := 41 }
set_option maxRecDepth 10000 in
theorem r_X10_year (l : Launch) (D : fh_D) (A : Nat → Prop) {K : fh_K} {sz : Nat} {M : fh_M} {M' : fh_M} {r : Int32} {t : Nat} {p1 : Int32} (h : f_X10_year K M t p1 = some (r, M')) : fh_Met l yX10_year cX10_year 2 (some .boolean) rm_X10_year D K M sz A [va_rf (some t), .int p1] (some (.int r)) K M' sz := by
  refine fh_enter (by decide) (by simp [lg_sl, va_rf_cat, cat_i, cat_l]) (lv := [(0, va_rf (some t)), (1, .int p1)]) (by simp [lv_args, va_rf_cat, cat_i, cat_l]) ?_
  intro X C E hnm _ _ _
  replace C : fh_C X 2 cX10_year RX10 := C
  unfold f_X10_year at h
  refine fv_aload_n C 0 rfl rfl dX10_year_0 ?_
  refine fv_iload_n C 1 rfl rfl dX10_year_1 ?_
  replace h := fo_s h
  obtain ⟨a1, ea1, ka1, h⟩ := h
  replace h := bx h
  obtain ⟨r2, er2, h⟩ := h
  refine fv_callV [.int p1] C mi_X10_isYearToCome ms_X10_isYearToCome lk_RX10_155 ea1 ka1 (r_X10_isYearToCome _ _ _ er2) ⟨Nat.le_of_ble_eq_true rfl, Nat.le_of_ble_eq_true rfl⟩ ⟨Nat.le_of_ble_eq_true rfl, Nat.le_of_ble_eq_true rfl⟩ rfl rfl (by simp [va_rf_cat, cat_i, cat_l]) dX10_year_2 ?_
  show fh_V X rm_X10_year 2 (sz, 0, 0) K M _ _ [.int r2]
  refine fv_if_ne C 10 (by decide) dX10_year_5 (fun c4 => ?_) (fun c4 => ?_)
  · replace h := itF c4 h
    refine fv_aload_n C 0 rfl rfl dX10_year_10 ?_
    refine fv_iload_n C 1 rfl rfl dX10_year_11 ?_
    replace h := fb_s h
    obtain ⟨M3, eM3, h⟩ := h
    refine fv_putI (fin := false) C fl_RX10_85 ea1 ka1 (narrow_i _) dX10_year_12 (fv_eqM eM3 ?_)
    refine fv_iconst (v := 1) C (by decide) dX10_year_15 ?_
    cases h
    exact fv_zret (z := (0, 0, 0)) (st := []) C E (Or.inr rfl) dX10_year_16
  · replace h := itT c4 h
    refine fv_iconst (v := 0) C (by decide) dX10_year_8 ?_
    cases h
    exact fv_zret (z := (0, 0, 0)) (st := []) C E (Or.inl rfl) dX10_year_9
abbrev rm_X10_bends : Room := { frames := 3, cells := 0, slots := 0, locals := 76 }
set_option maxRecDepth 10000 in
theorem r_X10_bends (l : Launch) (D : fh_D) (A : Nat → Prop) {K : fh_K} {sz : Nat} {M : fh_M} {M' : fh_M} {r : Int32} {t : Nat} {p1 : Int32} {p2 : Int32} (h : f_X10_bends K M t p1 p2 = some (r, M')) : fh_Met l yX10_bends cX10_bends 5 (some .int) rm_X10_bends D K M sz A [va_rf (some t), .int p1, .int p2] (some (.int r)) K M' sz := by
  refine fh_enter (by decide) (by simp [lg_sl, va_rf_cat, cat_i, cat_l]) (lv := [(0, va_rf (some t)), (1, .int p1), (2, .int p2)]) (by simp [lv_args, va_rf_cat, cat_i, cat_l]) ?_
  intro X C E hnm _ _ _
  replace C : fh_C X 5 cX10_bends RX10 := C
  unfold f_X10_bends at h
  refine fv_aload_n C 0 rfl rfl dX10_bends_0 ?_
  refine fv_iload_n C 1 rfl rfl dX10_bends_1 ?_
  replace h := fo_s h
  obtain ⟨a1, ea1, ka1, h⟩ := h
  replace h := bx h
  obtain ⟨r2, er2, h⟩ := h
  refine fv_callV [.int p1] C mi_X10_fileAt ms_X10_fileAt lk_RX10_124 ea1 ka1 (r_X10_fileAt _ _ _ er2) ⟨Nat.le_of_ble_eq_true rfl, Nat.le_of_ble_eq_true rfl⟩ ⟨Nat.le_of_ble_eq_true rfl, Nat.le_of_ble_eq_true rfl⟩ rfl rfl (by simp [va_rf_cat, cat_i, cat_l]) dX10_bends_2 ?_
  show fh_V X rm_X10_bends 5 (sz, 0, 0) K M _ _ [va_rf (r2)]
  refine fv_astore_n (i := 3) (lv' := [(3, va_rf (r2)), (0, va_rf (some t)), (1, .int p1), (2, .int p2)]) C rfl (by decide) (by first | rfl | simp [va_rf_cat]) dX10_bends_5 ?_
  refine fv_aload_n C 1 rfl rfl dX10_bends_6 ?_
  refine fv_iload_n C 3 rfl rfl dX10_bends_7 ?_
  replace h := bx h
  obtain ⟨r3, er3, h⟩ := h
  refine fv_callV [.int p2] C mi_X10_makeAt ms_X10_makeAt lk_RX10_141 ea1 ka1 (r_X10_makeAt _ _ _ er3) ⟨Nat.le_of_ble_eq_true rfl, Nat.le_of_ble_eq_true rfl⟩ ⟨Nat.le_of_ble_eq_true rfl, Nat.le_of_ble_eq_true rfl⟩ rfl rfl (by simp [va_rf_cat, cat_i, cat_l]) dX10_bends_8 ?_
  show fh_V X rm_X10_bends 5 (sz, 0, 0) K M _ _ [va_rf (r3)]
  refine fv_astore (i := 4) (lv' := [(4, va_rf (r3)), (3, va_rf (r2)), (0, va_rf (some t)), (1, .int p1), (2, .int p2)]) C (by decide) (by first | rfl | simp [va_rf_cat]) dX10_bends_11 ?_
  refine fv_aload_n C 1 rfl rfl dX10_bends_13 ?_
  refine fv_ifnull C 22 (by decide) dX10_bends_14 (fun c10 => ?_) (fun c10 => ?_)
  · replace h := itT c10 h
    refine fv_iconst (v := -1) C (by decide) dX10_bends_22 ?_
    cases h
    exact fv_iret (z := (0, 0, 0)) (st := []) C E dX10_bends_23
  · replace h := itF c10 h
    refine fv_aload C 0 rfl dX10_bends_17 ?_
    refine fv_ifnonnull C 24 (by decide) dX10_bends_19 (fun c9 => ?_) (fun c9 => ?_)
    · replace h := itF c9 h
      refine fv_aload_n C 2 rfl rfl dX10_bends_24 ?_
      refine fv_getR C fl_RX10_71 ea1 ka1 dX10_bends_25 ?_
      refine fv_aload C 0 rfl dX10_bends_28 ?_
      refine fv_aload_n C 1 rfl rfl dX10_bends_30 ?_
      replace h := fo_s h
      obtain ⟨a4, ea4, ka4, h⟩ := h
      refine fv_getR C fl_RX10_158 ea4 ka4 dX10_bends_31 ?_
      replace h := fo_s h
      obtain ⟨a5, ea5, ka5, h⟩ := h
      replace h := bx h
      obtain ⟨M7, er6, h⟩ := h
      refine fv_callV [va_rf (r3), va_rf (M.2.2 a4 0)] C mi_X4_readBy ms_X4_readBy lk_RX10_162 ea5 ka5 (r_X4_readBy _ _ _ er6) ⟨Nat.le_of_ble_eq_true rfl, Nat.le_of_ble_eq_true rfl⟩ ⟨Nat.le_of_ble_eq_true rfl, Nat.le_of_ble_eq_true rfl⟩ rfl rfl (by simp [va_rf_cat, cat_i, cat_l]) dX10_bends_34 ?_
      show fh_V X rm_X10_bends 5 (sz, 0, 0) K M7 _ _ []
      refine fv_aload_n C 2 rfl rfl dX10_bends_37 ?_
      refine fv_getR C fl_RX10_71 ea1 ka1 dX10_bends_38 ?_
      replace h := fo_s h
      obtain ⟨a8, ea8, ka8, h⟩ := h
      refine fv_getI C fl_RX10_166 ea8 ka8 dX10_bends_41 ?_
      cases h
      exact fv_iret (z := (0, 0, 0)) (st := []) C E dX10_bends_44
    · replace h := itT c9 h
      refine fv_iconst (v := -1) C (by decide) dX10_bends_22 ?_
      cases h
      exact fv_iret (z := (0, 0, 0)) (st := []) C E dX10_bends_23
abbrev rm_X10_know : Room := { frames := 1, cells := 0, slots := 0, locals := 21 }
set_option maxRecDepth 10000 in
theorem r_X10_know (l : Launch) (D : fh_D) (A : Nat → Prop) {K : fh_K} {sz : Nat} {M : fh_M} {r : Int32} {t : Nat} {p1 : Int32} (h : f_X10_know K M t p1 = some r) : fh_Met l yX10_know cX10_know 3 (some .int) rm_X10_know D K M sz A [va_rf (some t), .int p1] (some (.int r)) K M sz := by
  refine fh_enter (by decide) (by simp [lg_sl, va_rf_cat, cat_i, cat_l]) (lv := [(0, va_rf (some t)), (1, .int p1)]) (by simp [lv_args, va_rf_cat, cat_i, cat_l]) ?_
  intro X C E hnm _ _ _
  replace C : fh_C X 3 cX10_know RX10 := C
  unfold f_X10_know at h
  refine fv_aload_n C 0 rfl rfl dX10_know_0 ?_
  refine fv_iload_n C 1 rfl rfl dX10_know_1 ?_
  replace h := fo_s h
  obtain ⟨a1, ea1, ka1, h⟩ := h
  replace h := bx h
  obtain ⟨r2, er2, h⟩ := h
  refine fv_callV [.int p1] C mi_X10_fileAt ms_X10_fileAt lk_RX10_124 ea1 ka1 (r_X10_fileAt _ _ _ er2) ⟨Nat.le_of_ble_eq_true rfl, Nat.le_of_ble_eq_true rfl⟩ ⟨Nat.le_of_ble_eq_true rfl, Nat.le_of_ble_eq_true rfl⟩ rfl rfl (by simp [va_rf_cat, cat_i, cat_l]) dX10_know_2 ?_
  show fh_V X rm_X10_know 3 (sz, 0, 0) K M _ _ [va_rf (r2)]
  refine fv_astore_n (i := 2) (lv' := [(2, va_rf (r2)), (0, va_rf (some t)), (1, .int p1)]) C rfl (by decide) (by first | rfl | simp [va_rf_cat]) dX10_know_5 ?_
  refine fv_aload_n C 0 rfl rfl dX10_know_6 ?_
  refine fv_ifnonnull C 14 (by decide) dX10_know_7 (fun c4 => ?_) (fun c4 => ?_)
  · replace h := itF c4 h
    refine fv_aload_n C 0 rfl rfl dX10_know_14 ?_
    replace h := fo_s h
    obtain ⟨a3, ea3, ka3, h⟩ := h
    refine fv_getI C fl_RX10_169 ea3 ka3 dX10_know_15 ?_
    cases h
    exact fv_iret (z := (0, 0, 0)) (st := []) C E dX10_know_18
  · replace h := itT c4 h
    refine fv_iconst (v := -1) C (by decide) dX10_know_10 ?_
    refine fv_goto C 18 (by decide) dX10_know_11 ?_
    cases h
    exact fv_iret (z := (0, 0, 0)) (st := []) C E dX10_know_18
abbrev rm_X10_readByOwnMake : Room := { frames := 3, cells := 0, slots := 0, locals := 76 }
set_option maxRecDepth 10000 in
theorem r_X10_readByOwnMake (l : Launch) (D : fh_D) (A : Nat → Prop) {K : fh_K} {sz : Nat} {M : fh_M} {M' : fh_M} {t : Nat} {p1 : Option Nat} {p2 : Option Nat} (h : f_X10_readByOwnMake K M t p1 p2 = some M') : fh_Met l yX10_readByOwnMake cX10_readByOwnMake 4 none rm_X10_readByOwnMake D K M sz A [va_rf (some t), va_rf p1, va_rf p2] none K M' sz := by
  refine fh_enter (by decide) (by simp [lg_sl, va_rf_cat, cat_i, cat_l]) (lv := [(0, va_rf (some t)), (1, va_rf p1), (2, va_rf p2)]) (by simp [lv_args, va_rf_cat, cat_i, cat_l]) ?_
  intro X C E hnm _ _ _
  replace C : fh_C X 4 cX10_readByOwnMake RX10 := C
  unfold f_X10_readByOwnMake at h
  refine fv_aload_n C 0 rfl rfl dX10_readByOwnMake_0 ?_
  refine fv_aload_n C 1 rfl rfl dX10_readByOwnMake_1 ?_
  replace h := fo_s h
  obtain ⟨a1, ea1, ka1, h⟩ := h
  refine fv_getI C fl_RX10_169 ea1 ka1 dX10_readByOwnMake_2 ?_
  replace h := fo_s h
  obtain ⟨a2, ea2, ka2, h⟩ := h
  replace h := bx h
  obtain ⟨r3, er3, h⟩ := h
  refine fv_callV [.int (M.1 a1 5)] C mi_X10_makeAt ms_X10_makeAt lk_RX10_141 ea2 ka2 (r_X10_makeAt _ _ _ er3) ⟨Nat.le_of_ble_eq_true rfl, Nat.le_of_ble_eq_true rfl⟩ ⟨Nat.le_of_ble_eq_true rfl, Nat.le_of_ble_eq_true rfl⟩ rfl rfl (by simp [va_rf_cat, cat_i, cat_l]) dX10_readByOwnMake_5 ?_
  show fh_V X rm_X10_readByOwnMake 4 (sz, 0, 0) K M _ _ [va_rf (r3)]
  refine fv_astore_n (i := 3) (lv' := [(3, va_rf (r3)), (0, va_rf (some t)), (1, va_rf (p1)), (2, va_rf (p2))]) C rfl (by decide) (by first | rfl | simp [va_rf_cat]) dX10_readByOwnMake_8 ?_
  refine fv_aload_n C 0 rfl rfl dX10_readByOwnMake_9 ?_
  refine fv_ifnonnull C 20 (by decide) dX10_readByOwnMake_10 (fun c10 => ?_) (fun c10 => ?_)
  · replace h := itF c10 h
    refine fv_aload_n C 3 rfl rfl dX10_readByOwnMake_20 ?_
    refine fv_aload_n C 0 rfl rfl dX10_readByOwnMake_21 ?_
    refine fv_aload_n C 2 rfl rfl dX10_readByOwnMake_22 ?_
    refine fv_getR C fl_RX10_158 ea1 ka1 dX10_readByOwnMake_23 ?_
    replace h := fo_s h
    obtain ⟨a4, ea4, ka4, h⟩ := h
    replace h := bx h
    obtain ⟨M6, er5, h⟩ := h
    refine fv_callV [va_rf (r3), va_rf (M.2.2 a1 0)] C mi_X4_readBy ms_X4_readBy lk_RX10_162 ea4 ka4 (r_X4_readBy _ _ _ er5) ⟨Nat.le_of_ble_eq_true rfl, Nat.le_of_ble_eq_true rfl⟩ ⟨Nat.le_of_ble_eq_true rfl, Nat.le_of_ble_eq_true rfl⟩ rfl rfl (by simp [va_rf_cat, cat_i, cat_l]) dX10_readByOwnMake_26 ?_
    show fh_V X rm_X10_readByOwnMake 4 (sz, 0, 0) K M6 _ _ []
    cases h
    exact fv_vret (z := (0, 0, 0)) (st := []) C E dX10_readByOwnMake_29
  · replace h := itT c10 h
    refine fv_aload_n C 3 rfl rfl dX10_readByOwnMake_13 ?_
    replace h := fo_s h
    obtain ⟨a7, ea7, ka7, h⟩ := h
    replace h := bx h
    obtain ⟨M9, er8, h⟩ := h
    refine fv_callV [] C mi_X4_clear ms_X4_clear lk_RX10_284 ea7 ka7 (r_X4_clear _ _ _ er8) ⟨Nat.le_of_ble_eq_true rfl, Nat.le_of_ble_eq_true rfl⟩ ⟨Nat.le_of_ble_eq_true rfl, Nat.le_of_ble_eq_true rfl⟩ rfl rfl (by simp [va_rf_cat, cat_i, cat_l]) dX10_readByOwnMake_14 ?_
    show fh_V X rm_X10_readByOwnMake 4 (sz, 0, 0) K M9 _ _ []
    refine fv_goto C 29 (by decide) dX10_readByOwnMake_17 ?_
    cases h
    exact fv_vret (z := (0, 0, 0)) (st := []) C E dX10_readByOwnMake_29
abbrev rm_X10_record : Room := { frames := 4, cells := 0, slots := 0, locals := 99 }
set_option maxRecDepth 10000 in
theorem r_X10_record (l : Launch) (D : fh_D) (A : Nat → Prop) {K : fh_K} {sz : Nat} {M : fh_M} {M' : fh_M} {r : Int32} {t : Nat} {p1 : Int32} {p2 : Int32} {p3 : Int32} (h : f_X10_record K M t p1 p2 p3 = some (r, M')) : fh_Met l yX10_record cX10_record 5 (some .int) rm_X10_record D K M sz A [va_rf (some t), .int p1, .int p2, .int p3] (some (.int r)) K M' sz := by
  refine fh_enter (by decide) (by simp [lg_sl, va_rf_cat, cat_i, cat_l]) (lv := [(0, va_rf (some t)), (1, .int p1), (2, .int p2), (3, .int p3)]) (by simp [lv_args, va_rf_cat, cat_i, cat_l]) ?_
  intro X C E hnm _ _ _
  replace C : fh_C X 5 cX10_record RX10 := C
  unfold f_X10_record at h
  refine fv_aload_n C 0 rfl rfl dX10_record_0 ?_
  refine fv_iload_n C 1 rfl rfl dX10_record_1 ?_
  replace h := fo_s h
  obtain ⟨a1, ea1, ka1, h⟩ := h
  replace h := bx h
  obtain ⟨r2, er2, h⟩ := h
  refine fv_callV [.int p1] C mi_X10_fileAt ms_X10_fileAt lk_RX10_124 ea1 ka1 (r_X10_fileAt _ _ _ er2) ⟨Nat.le_of_ble_eq_true rfl, Nat.le_of_ble_eq_true rfl⟩ ⟨Nat.le_of_ble_eq_true rfl, Nat.le_of_ble_eq_true rfl⟩ rfl rfl (by simp [va_rf_cat, cat_i, cat_l]) dX10_record_2 ?_
  show fh_V X rm_X10_record 5 (sz, 0, 0) K M _ _ [va_rf (r2)]
  refine fv_astore (i := 4) (lv' := [(4, va_rf (r2)), (0, va_rf (some t)), (1, .int p1), (2, .int p2), (3, .int p3)]) C (by decide) (by first | rfl | simp [va_rf_cat]) dX10_record_5 ?_
  refine fv_aload C 0 rfl dX10_record_7 ?_
  refine fv_ifnonnull C 14 (by decide) dX10_record_9 (fun c14 => ?_) (fun c14 => ?_)
  · replace h := itF c14 h
    refine fv_aload_n C 1 rfl rfl dX10_record_14 ?_
    refine fv_aload C 0 rfl dX10_record_15 ?_
    refine fv_aload_n C 1 rfl rfl dX10_record_17 ?_
    refine fv_getR C fl_RX10_71 ea1 ka1 dX10_record_18 ?_
    replace h := bx h
    obtain ⟨M4, er3, h⟩ := h
    refine fv_callV [va_rf (r2), va_rf (M.2.2 a1 9)] C mi_X10_readByOwnMake ms_X10_readByOwnMake lk_RX10_172 ea1 ka1 (r_X10_readByOwnMake _ _ _ er3) ⟨Nat.le_of_ble_eq_true rfl, Nat.le_of_ble_eq_true rfl⟩ ⟨Nat.le_of_ble_eq_true rfl, Nat.le_of_ble_eq_true rfl⟩ rfl rfl (by simp [va_rf_cat, cat_i, cat_l]) dX10_record_21 ?_
    show fh_V X rm_X10_record 5 (sz, 0, 0) K M4 _ _ []
    refine fv_iload_n C 3 rfl rfl dX10_record_24 ?_
    refine fv_if_lt C 39 (by decide) dX10_record_25 (fun c13 => ?_) (fun c13 => ?_)
    · replace h := itT c13 h
      refine fv_iconst (v := -1) C (by decide) dX10_record_39 ?_
      cases h
      exact fv_iret (z := (0, 0, 0)) (st := []) C E dX10_record_40
    · replace h := itF c13 h
      refine fv_iload_n C 3 rfl rfl dX10_record_28 ?_
      refine fv_aload_n C 1 rfl rfl dX10_record_29 ?_
      refine fv_getR C fl_RX10_71 ea1 ka1 dX10_record_30 ?_
      replace h := fo_s h
      obtain ⟨a5, ea5, ka5, h⟩ := h
      refine fv_getI C fl_RX10_176 ea5 ka5 dX10_record_33 ?_
      refine fv_icmp_lt C 41 (by decide) dX10_record_36 (fun c12 => ?_) (fun c12 => ?_)
      · replace h := itT c12 h
        refine fv_iload_n C 4 rfl rfl dX10_record_41 ?_
        rcases Classical.em (p3 = 0) with c6 | c6
        · replace h := itT c6 h
          refine fv_tsIn (off := 26) C 68 (by rw [c6]; decide) (by rw [c6]; decide) (by rw [c6]; decide) (by decide) dX10_record_42 ?_
          refine fv_aload_n C 1 rfl rfl dX10_record_68 ?_
          refine fv_getR C fl_RX10_71 ea1 ka1 dX10_record_69 ?_
          refine fv_getR C fl_RX10_177 ea5 ka5 dX10_record_72 ?_
          refine fv_iload_n C 3 rfl rfl dX10_record_75 ?_
          replace h := fi_s h
          obtain ⟨a7, ea7, ka7, ia7, h⟩ := h
          refine fv_iald C ea7 ka7 ia7 dX10_record_76 ?_
          cases h
          exact fv_iret (z := (0, 0, 0)) (st := []) C E dX10_record_77
        replace h := itF c6 h
        rcases Classical.em (p3 = 1) with c8 | c8
        · replace h := itT c8 h
          refine fv_tsIn (off := 36) C 78 (by rw [c8]; decide) (by rw [c8]; decide) (by rw [c8]; decide) (by decide) dX10_record_42 ?_
          refine fv_aload_n C 1 rfl rfl dX10_record_78 ?_
          refine fv_getR C fl_RX10_71 ea1 ka1 dX10_record_79 ?_
          refine fv_getR C fl_RX10_180 ea5 ka5 dX10_record_82 ?_
          refine fv_iload_n C 3 rfl rfl dX10_record_85 ?_
          replace h := fi_s h
          obtain ⟨a9, ea9, ka9, ia9, h⟩ := h
          refine fv_iald C ea9 ka9 ia9 dX10_record_86 ?_
          cases h
          exact fv_iret (z := (0, 0, 0)) (st := []) C E dX10_record_87
        replace h := itF c8 h
        rcases Classical.em (p3 = 2) with c10 | c10
        · replace h := itT c10 h
          refine fv_tsIn (off := 46) C 88 (by rw [c10]; decide) (by rw [c10]; decide) (by rw [c10]; decide) (by decide) dX10_record_42 ?_
          refine fv_aload_n C 1 rfl rfl dX10_record_88 ?_
          refine fv_getR C fl_RX10_71 ea1 ka1 dX10_record_89 ?_
          refine fv_getR C fl_RX10_183 ea5 ka5 dX10_record_92 ?_
          refine fv_iload_n C 3 rfl rfl dX10_record_95 ?_
          replace h := fi_s h
          obtain ⟨a11, ea11, ka11, ia11, h⟩ := h
          refine fv_iald C ea11 ka11 ia11 dX10_record_96 ?_
          cases h
          exact fv_iret (z := (0, 0, 0)) (st := []) C E dX10_record_97
        replace h := itF c10 h
        refine fv_tsOut C 98 (by have := lv_neT c6 (show (0 : Int32).toInt = 0 by decide); have := lv_neT c8 (show (1 : Int32).toInt = 1 by decide); have := lv_neT c10 (show (2 : Int32).toInt = 2 by decide); omega) (by decide) dX10_record_42 ?_
        refine fv_iconst (v := -1) C (by decide) dX10_record_98 ?_
        cases h
        exact fv_iret (z := (0, 0, 0)) (st := []) C E dX10_record_99
      · replace h := itF c12 h
        refine fv_iconst (v := -1) C (by decide) dX10_record_39 ?_
        cases h
        exact fv_iret (z := (0, 0, 0)) (st := []) C E dX10_record_40
  · replace h := itT c14 h
    refine fv_iconst (v := -1) C (by decide) dX10_record_12 ?_
    cases h
    exact fv_iret (z := (0, 0, 0)) (st := []) C E dX10_record_13
abbrev rm_X10_draftTurned : Room := { frames := 4, cells := 0, slots := 0, locals := 99 }
set_option maxRecDepth 10000 in
theorem r_X10_draftTurned_J133 {X : fh_X} {K : fh_K} {sz : Nat} {M' : fh_M} {r : Int32} (C : fh_C X 6 cX10_draftTurned RX10) (E : fh_E X rm_X10_draftTurned (some .boolean) (some (.int r)) K M' sz) (t : Nat) (v3 : Option Nat) (v4 : Int32) (M : fh_M) (h : f_X10_draftTurned_J133 K t v3 v4 M = some (r, M')) : fh_V X rm_X10_draftTurned 6 (sz, 0, 0) K M 133 [(0, va_rf (some t)), (3, va_rf (v3)), (4, .int v4)] [] := by
  unfold f_X10_draftTurned_J133 at h
  refine fv_iload C 2 rfl dX10_draftTurned_133 ?_
  refine fv_if_eq C 171 (by decide) dX10_draftTurned_135 (fun c36 => ?_) (fun c36 => ?_)
  · replace h := itT c36 h
    refine fv_iload C 2 rfl dX10_draftTurned_171 ?_
    replace h := fz_s h
    obtain ⟨hz, h⟩ := h
    cases h
    exact fv_zret (z := (0, 0, 0)) (st := []) C E hz dX10_draftTurned_173
  · replace h := itF c36 h
    refine fv_aload_n C 1 rfl rfl dX10_draftTurned_138 ?_
    replace h := fo_s h
    obtain ⟨a29, ea29, ka29, h⟩ := h
    refine fv_getI C fl_RX10_298 ea29 ka29 dX10_draftTurned_139 ?_
    refine fv_if_eq C 171 (by decide) dX10_draftTurned_142 (fun c35 => ?_) (fun c35 => ?_)
    · replace h := itT c35 h
      refine fv_iload C 2 rfl dX10_draftTurned_171 ?_
      replace h := fz_s h
      obtain ⟨hz, h⟩ := h
      cases h
      exact fv_zret (z := (0, 0, 0)) (st := []) C E hz dX10_draftTurned_173
    · replace h := itF c35 h
      refine fv_aload_n C 0 rfl rfl dX10_draftTurned_145 ?_
      replace h := fo_s h
      obtain ⟨a30, ea30, ka30, h⟩ := h
      refine fv_getR C fl_RX10_18 ea30 ka30 dX10_draftTurned_146 ?_
      refine fv_aload_n C 0 rfl rfl dX10_draftTurned_149 ?_
      refine fv_getR C fl_RX10_18 ea30 ka30 dX10_draftTurned_150 ?_
      replace h := fo_s h
      obtain ⟨a31, ea31, ka31, h⟩ := h
      refine fv_getR C fl_RX10_301 ea31 ka31 dX10_draftTurned_153 ?_
      refine fv_aload_n C 0 rfl rfl dX10_draftTurned_156 ?_
      refine fv_getR C fl_RX10_18 ea30 ka30 dX10_draftTurned_157 ?_
      refine fv_getI C fl_RX10_99 ea31 ka31 dX10_draftTurned_160 ?_
      replace h := bx h
      obtain ⟨r32, er32, h⟩ := h
      refine fv_callS [va_rf (M.2.2 a31 0), .int (M.1 a31 1)] C mi_X10_sumOfFirst lk_RX10_302 (r_X10_sumOfFirst _ _ _ er32) ⟨Nat.le_of_ble_eq_true rfl, Nat.le_of_ble_eq_true rfl⟩ ⟨Nat.le_of_ble_eq_true rfl, Nat.le_of_ble_eq_true rfl⟩ rfl rfl (by simp [va_rf_cat, cat_i, cat_l]) dX10_draftTurned_163 ?_
      show fh_V X rm_X10_draftTurned 6 (sz, 0, 0) K M _ _ [.int r32, va_rf (M.2.2 a30 1)]
      replace h := fc2_s h
      obtain ⟨r33, M34, er33, h⟩ := h
      refine fv_callV [.int r32] C mi_X0_addByte ms_X0_addByte lk_RX10_305 ea31 ka31 (r_X0_addByte _ _ _ er33) ⟨Nat.le_of_ble_eq_true rfl, Nat.le_of_ble_eq_true rfl⟩ ⟨Nat.le_of_ble_eq_true rfl, Nat.le_of_ble_eq_true rfl⟩ rfl rfl (by simp [va_rf_cat, cat_i, cat_l]) dX10_draftTurned_166 ?_
      show fh_V X rm_X10_draftTurned 6 (sz, 0, 0) K M34 _ _ [.int r33]
      refine fv_istore (i := 4) (lv' := [(4, .int r33), (0, va_rf (some t)), (3, va_rf (v3))]) C (by decide) (by first | rfl | simp [va_rf_cat]) dX10_draftTurned_169 ?_
      refine fv_iload C 0 rfl dX10_draftTurned_171 ?_
      replace h := fz_s h
      obtain ⟨hz, h⟩ := h
      cases h
      exact fv_zret (z := (0, 0, 0)) (st := []) C E hz dX10_draftTurned_173
set_option maxRecDepth 10000 in
theorem r_X10_draftTurned_J127 {X : fh_X} {K : fh_K} {sz : Nat} {M' : fh_M} {r : Int32} (C : fh_C X 6 cX10_draftTurned RX10) (E : fh_E X rm_X10_draftTurned (some .boolean) (some (.int r)) K M' sz) {rec53 : Nat → Option Nat → Option Nat → Option Nat → Int32 → Int32 → fh_M → Option (Int32 × fh_M)} (hrec53 : ∀ (t : Nat) (v1 : Option Nat) (v2 : Option Nat) (v3 : Option Nat) (v4 : Int32) (v5 : Int32) (M : fh_M), rec53 t v1 v2 v3 v4 v5 M = some (r, M') → fh_V X rm_X10_draftTurned 6 (sz, 0, 0) K M 53 [(0, va_rf (some t)), (1, va_rf (v1)), (2, va_rf (v2)), (3, va_rf (v3)), (4, .int v4), (5, .int v5)] []) (t : Nat) (v1 : Option Nat) (v2 : Option Nat) (v3 : Option Nat) (v4 : Int32) (v5 : Int32) (M : fh_M) (h : f_X10_draftTurned_J127 K rec53 t v1 v2 v3 v4 v5 M = some (r, M')) : fh_V X rm_X10_draftTurned 6 (sz, 0, 0) K M 127 [(0, va_rf (some t)), (1, va_rf (v1)), (2, va_rf (v2)), (3, va_rf (v3)), (4, .int v4), (5, .int v5)] [] := by
  unfold f_X10_draftTurned_J127 at h
  refine fv_iinc (v := v5 + 1) (lv' := [(5, .int (v5 + 1)), (0, va_rf (some t)), (1, va_rf (v1)), (2, va_rf (v2)), (3, va_rf (v3)), (4, .int v4)]) C 5 rfl (by first | rfl | exact congrArg _ (by decide)) (by decide) (by first | rfl | simp [va_rf_cat]) dX10_draftTurned_127 ?_
  refine fv_goto C 53 (by decide) dX10_draftTurned_130 ?_
  refine fv_sub (cc := ⟨#[]⟩) (own := "") [1, 2, 3, 4, 5, 0] rfl ?_
  exact hrec53 _ _ _ _ _ _ _ h
set_option maxRecDepth 10000 in
theorem r_X10_draftTurned_L53 {X : fh_X} {K : fh_K} {sz : Nat} {M' : fh_M} {r : Int32} (C : fh_C X 6 cX10_draftTurned RX10) (E : fh_E X rm_X10_draftTurned (some .boolean) (some (.int r)) K M' sz) : ∀ (n : Nat) (t : Nat) (v1 : Option Nat) (v2 : Option Nat) (v3 : Option Nat) (v4 : Int32) (v5 : Int32) (M : fh_M), f_X10_draftTurned_L53 K n t v1 v2 v3 v4 v5 M = some (r, M') → fh_V X rm_X10_draftTurned 6 (sz, 0, 0) K M 53 [(0, va_rf (some t)), (1, va_rf (v1)), (2, va_rf (v2)), (3, va_rf (v3)), (4, .int v4), (5, .int v5)] [] := by
  intro n
  induction n with
  | zero => intro t v1 v2 v3 v4 v5 M h; cases h
  | succ n ih =>
    intro t v1 v2 v3 v4 v5 M h
    unfold f_X10_draftTurned_L53 at h
    refine fv_iload C 5 rfl dX10_draftTurned_53 ?_
    refine fv_aload_n C 0 rfl rfl dX10_draftTurned_55 ?_
    replace h := fo_s h
    obtain ⟨a15, ea15, ka15, h⟩ := h
    refine fv_getR C fl_RX10_71 ea15 ka15 dX10_draftTurned_56 ?_
    replace h := fo_s h
    obtain ⟨a16, ea16, ka16, h⟩ := h
    refine fv_getI C fl_RX10_176 ea16 ka16 dX10_draftTurned_59 ?_
    refine fv_icmp_ge C 133 (by decide) dX10_draftTurned_62 (fun c28 => ?_) (fun c28 => ?_)
    · replace h := itT c28 h
      refine fv_sub (cc := ⟨#[]⟩) (own := "") [0, 3, 4] rfl ?_
      exact r_X10_draftTurned_J133 C E  _ _ _ _ h
    · replace h := itF c28 h
      refine fv_iload C 4 rfl dX10_draftTurned_65 ?_
      refine fv_if_eq C 133 (by decide) dX10_draftTurned_67 (fun c27 => ?_) (fun c27 => ?_)
      · replace h := itT c27 h
        refine fv_sub (cc := ⟨#[]⟩) (own := "") [0, 3, 4] rfl ?_
        exact r_X10_draftTurned_J133 C E  _ _ _ _ h
      · replace h := itF c27 h
        refine fv_aload_n C 2 rfl rfl dX10_draftTurned_70 ?_
        replace h := fo_s h
        obtain ⟨a17, ea17, ka17, h⟩ := h
        refine fv_getI C fl_RX10_295 ea17 ka17 dX10_draftTurned_71 ?_
        refine fv_aload_n C 0 rfl rfl dX10_draftTurned_74 ?_
        refine fv_getR C fl_RX10_71 ea15 ka15 dX10_draftTurned_75 ?_
        refine fv_getR C fl_RX10_177 ea16 ka16 dX10_draftTurned_78 ?_
        refine fv_iload C 5 rfl dX10_draftTurned_81 ?_
        replace h := fi_s h
        obtain ⟨a18, ea18, ka18, ia18, h⟩ := h
        refine fv_iald C ea18 ka18 ia18 dX10_draftTurned_83 ?_
        replace h := bx h
        obtain ⟨r19, er19, h⟩ := h
        refine fv_callS [.int (M.1 a17 2), .int (M.1 a18 v5.toNatClampNeg)] C mi_X10_holds lk_RX10_215 (r_X10_holds _ _ _ er19) ⟨Nat.le_of_ble_eq_true rfl, Nat.le_of_ble_eq_true rfl⟩ ⟨Nat.le_of_ble_eq_true rfl, Nat.le_of_ble_eq_true rfl⟩ rfl rfl (by simp [va_rf_cat, cat_i, cat_l]) dX10_draftTurned_84 ?_
        show fh_V X rm_X10_draftTurned 6 (sz, 0, 0) K M _ _ [.int r19]
        refine fv_if_eq C 127 (by decide) dX10_draftTurned_87 (fun c26 => ?_) (fun c26 => ?_)
        · replace h := itT c26 h
          refine fv_sub (cc := ⟨#[]⟩) (own := "") [0, 1, 2, 3, 4, 5] rfl ?_
          exact r_X10_draftTurned_J127 C E ih _ _ _ _ _ _ _ h
        · replace h := itF c26 h
          refine fv_aload_n C 0 rfl rfl dX10_draftTurned_90 ?_
          refine fv_getR C fl_RX10_18 ea15 ka15 dX10_draftTurned_91 ?_
          refine fv_aload_n C 1 rfl rfl dX10_draftTurned_94 ?_
          replace h := fo_s h
          obtain ⟨a20, ea20, ka20, h⟩ := h
          refine fv_getR C fl_RX10_158 ea20 ka20 dX10_draftTurned_95 ?_
          refine fv_aload_n C 0 rfl rfl dX10_draftTurned_98 ?_
          refine fv_getR C fl_RX10_71 ea15 ka15 dX10_draftTurned_99 ?_
          refine fv_getR C fl_RX10_183 ea16 ka16 dX10_draftTurned_102 ?_
          refine fv_iload C 5 rfl dX10_draftTurned_105 ?_
          replace h := fi_s h
          obtain ⟨a21, ea21, ka21, ia21, h⟩ := h
          refine fv_iald C ea21 ka21 ia21 dX10_draftTurned_107 ?_
          refine fv_iconst (v := 2) C (by decide) dX10_draftTurned_108 ?_
          refine fv_isub C dX10_draftTurned_109 ?_
          refine fv_aload_n C 0 rfl rfl dX10_draftTurned_110 ?_
          refine fv_getR C fl_RX10_71 ea15 ka15 dX10_draftTurned_111 ?_
          refine fv_getR C fl_RX10_180 ea16 ka16 dX10_draftTurned_114 ?_
          refine fv_iload C 5 rfl dX10_draftTurned_117 ?_
          replace h := fi_s h
          obtain ⟨a22, ea22, ka22, ia22, h⟩ := h
          refine fv_iald C ea22 ka22 ia22 dX10_draftTurned_119 ?_
          refine fv_iconst (v := 2) C (by decide) dX10_draftTurned_120 ?_
          refine fv_iadd C dX10_draftTurned_121 ?_
          replace h := fo_s h
          obtain ⟨a23, ea23, ka23, h⟩ := h
          replace h := fc2_s h
          obtain ⟨r24, M25, er24, h⟩ := h
          refine fv_callV [va_rf (M.2.2 a20 0), .int ((M.1 a21 v5.toNatClampNeg) - 2), .int ((M.1 a22 v5.toNatClampNeg) + 2)] C mi_X0_addPart ms_X0_addPart lk_RX10_291 ea23 ka23 (r_X0_addPart _ _ _ er24) ⟨Nat.le_of_ble_eq_true rfl, Nat.le_of_ble_eq_true rfl⟩ ⟨Nat.le_of_ble_eq_true rfl, Nat.le_of_ble_eq_true rfl⟩ rfl rfl (by simp [va_rf_cat, cat_i, cat_l]) dX10_draftTurned_122 ?_
          show fh_V X rm_X10_draftTurned 6 (sz, 0, 0) K M25 _ _ [.int r24]
          refine fv_istore (i := 4) (lv' := [(4, .int r24), (0, va_rf (some t)), (1, va_rf (v1)), (2, va_rf (v2)), (3, va_rf (v3)), (5, .int v5)]) C (by decide) (by first | rfl | simp [va_rf_cat]) dX10_draftTurned_125 ?_
          refine fv_sub (cc := ⟨#[]⟩) (own := "") [1, 2, 3, 4, 0, 5] rfl ?_
          exact r_X10_draftTurned_J127 C E ih _ _ _ _ _ _ _ h
set_option maxRecDepth 10000 in
theorem r_X10_draftTurned (l : Launch) (D : fh_D) (A : Nat → Prop) {K : fh_K} {sz : Nat} {M : fh_M} {M' : fh_M} {r : Int32} {t : Nat} {p1 : Option Nat} {p2 : Option Nat} (h : f_X10_draftTurned K M t p1 p2 = some (r, M')) : fh_Met l yX10_draftTurned cX10_draftTurned 6 (some .boolean) rm_X10_draftTurned D K M sz A [va_rf (some t), va_rf p1, va_rf p2] (some (.int r)) K M' sz := by
  refine fh_enter (by decide) (by simp [lg_sl, va_rf_cat, cat_i, cat_l]) (lv := [(0, va_rf (some t)), (1, va_rf p1), (2, va_rf p2)]) (by simp [lv_args, va_rf_cat, cat_i, cat_l]) ?_
  intro X C E hnm _ _ _
  replace C : fh_C X 6 cX10_draftTurned RX10 := C
  unfold f_X10_draftTurned at h
  refine fv_aload_n C 0 rfl rfl dX10_draftTurned_0 ?_
  refine fv_aload_n C 2 rfl rfl dX10_draftTurned_1 ?_
  replace h := fo_s h
  obtain ⟨a1, ea1, ka1, h⟩ := h
  refine fv_getI C fl_RX10_285 ea1 ka1 dX10_draftTurned_2 ?_
  replace h := fo_s h
  obtain ⟨a2, ea2, ka2, h⟩ := h
  replace h := bx h
  obtain ⟨r3, er3, h⟩ := h
  refine fv_callV [.int (M.1 a1 1)] C mi_X10_makeAt ms_X10_makeAt lk_RX10_141 ea2 ka2 (r_X10_makeAt _ _ _ er3) ⟨Nat.le_of_ble_eq_true rfl, Nat.le_of_ble_eq_true rfl⟩ ⟨Nat.le_of_ble_eq_true rfl, Nat.le_of_ble_eq_true rfl⟩ rfl rfl (by simp [va_rf_cat, cat_i, cat_l]) dX10_draftTurned_5 ?_
  show fh_V X rm_X10_draftTurned 6 (sz, 0, 0) K M _ _ [va_rf (r3)]
  refine fv_astore_n (i := 3) (lv' := [(3, va_rf (r3)), (0, va_rf (some t)), (1, va_rf (p1)), (2, va_rf (p2))]) C rfl (by decide) (by first | rfl | simp [va_rf_cat]) dX10_draftTurned_8 ?_
  refine fv_aload_n C 0 rfl rfl dX10_draftTurned_9 ?_
  refine fv_ifnonnull C 15 (by decide) dX10_draftTurned_10 (fun c14 => ?_) (fun c14 => ?_)
  · replace h := itF c14 h
    refine fv_aload_n C 1 rfl rfl dX10_draftTurned_15 ?_
    refine fv_aload_n C 2 rfl rfl dX10_draftTurned_16 ?_
    refine fv_aload_n C 1 rfl rfl dX10_draftTurned_17 ?_
    refine fv_getR C fl_RX10_71 ea2 ka2 dX10_draftTurned_18 ?_
    replace h := bx h
    obtain ⟨M5, er4, h⟩ := h
    refine fv_callV [va_rf (p1), va_rf (M.2.2 a2 9)] C mi_X10_readByOwnMake ms_X10_readByOwnMake lk_RX10_172 ea2 ka2 (r_X10_readByOwnMake _ _ _ er4) ⟨Nat.le_of_ble_eq_true rfl, Nat.le_of_ble_eq_true rfl⟩ ⟨Nat.le_of_ble_eq_true rfl, Nat.le_of_ble_eq_true rfl⟩ rfl rfl (by simp [va_rf_cat, cat_i, cat_l]) dX10_draftTurned_21 ?_
    show fh_V X rm_X10_draftTurned 6 (sz, 0, 0) K M5 _ _ []
    refine fv_aload_n C 1 rfl rfl dX10_draftTurned_24 ?_
    refine fv_getR C fl_RX10_18 ea2 ka2 dX10_draftTurned_25 ?_
    replace h := fo_s h
    obtain ⟨a6, ea6, ka6, h⟩ := h
    replace h := bx h
    obtain ⟨M8, er7, h⟩ := h
    refine fv_callV [] C mi_X0_clear ms_X0_clear lk_RX10_113 ea6 ka6 (r_X0_clear _ _ _ er7) ⟨Nat.le_of_ble_eq_true rfl, Nat.le_of_ble_eq_true rfl⟩ ⟨Nat.le_of_ble_eq_true rfl, Nat.le_of_ble_eq_true rfl⟩ rfl rfl (by simp [va_rf_cat, cat_i, cat_l]) dX10_draftTurned_28 ?_
    show fh_V X rm_X10_draftTurned 6 (sz, 0, 0) K M8 _ _ []
    refine fv_aload_n C 1 rfl rfl dX10_draftTurned_31 ?_
    refine fv_getR C fl_RX10_18 ea2 ka2 dX10_draftTurned_32 ?_
    refine fv_aload_n C 0 rfl rfl dX10_draftTurned_35 ?_
    replace h := fo_s h
    obtain ⟨a9, ea9, ka9, h⟩ := h
    refine fv_getR C fl_RX10_288 ea9 ka9 dX10_draftTurned_36 ?_
    refine fv_iconst (v := 0) C (by decide) dX10_draftTurned_39 ?_
    refine fv_aload_n C 0 rfl rfl dX10_draftTurned_40 ?_
    refine fv_getR C fl_RX10_288 ea9 ka9 dX10_draftTurned_41 ?_
    replace h := fa_s h
    obtain ⟨a10, ea10, ka10, h⟩ := h
    refine fv_alen C 0 (by decide) (fun _ => rfl) ea10 ka10 dX10_draftTurned_44 ?_
    replace h := fo_s h
    obtain ⟨a11, ea11, ka11, h⟩ := h
    replace h := fc2_s h
    obtain ⟨r12, M13, er12, h⟩ := h
    refine fv_callV [va_rf (M8.2.2 a9 0), .int 0, .int (nI (K a10).2)] C mi_X0_addPart ms_X0_addPart lk_RX10_291 ea11 ka11 (r_X0_addPart _ _ _ er12) ⟨Nat.le_of_ble_eq_true rfl, Nat.le_of_ble_eq_true rfl⟩ ⟨Nat.le_of_ble_eq_true rfl, Nat.le_of_ble_eq_true rfl⟩ rfl rfl (by simp [va_rf_cat, cat_i, cat_l]) dX10_draftTurned_45 ?_
    show fh_V X rm_X10_draftTurned 6 (sz, 0, 0) K M13 _ _ [.int r12]
    refine fv_istore (i := 4) (lv' := [(4, .int r12), (3, va_rf (r3)), (0, va_rf (some t)), (1, va_rf (p1)), (2, va_rf (p2))]) C (by decide) (by first | rfl | simp [va_rf_cat]) dX10_draftTurned_48 ?_
    refine fv_iconst (v := 0) C (by decide) dX10_draftTurned_50 ?_
    refine fv_istore (i := 5) (lv' := [(5, .int 0), (4, .int r12), (3, va_rf (r3)), (0, va_rf (some t)), (1, va_rf (p1)), (2, va_rf (p2))]) C (by decide) (by first | rfl | simp [va_rf_cat]) dX10_draftTurned_51 ?_
    refine fv_sub (cc := ⟨#[]⟩) (own := "") [3, 4, 5, 2, 1, 0] rfl ?_
    exact r_X10_draftTurned_L53 C E  4096 _ _ _ _ _ _ _ h
  · replace h := itT c14 h
    refine fv_iconst (v := 0) C (by decide) dX10_draftTurned_13 ?_
    cases h
    exact fv_zret (z := (0, 0, 0)) (st := []) C E (Or.inl rfl) dX10_draftTurned_14
abbrev rm_X10_turn : Room := { frames := 5, cells := 3, slots := 169, locals := 125 }
set_option maxRecDepth 10000 in
theorem r_X10_turn (l : Launch) (D : fh_D) (A : Nat → Prop) {K : fh_K} {sz : Nat} {M : fh_M} {M' : fh_M} {K' : fh_K} {sz' : Nat} {r : Int32} {t : Nat} {p1 : Int32} {p2 : Int32} (h : f_X10_turn sz K M t p1 p2 = some (r, sz', K', M')) : fh_Met l yX10_turn cX10_turn 5 (some .int) rm_X10_turn D K M sz A [va_rf (some t), .int p1, .int p2] (some (.int r)) K' M' sz' := by
  refine fh_enter (by decide) (by simp [lg_sl, va_rf_cat, cat_i, cat_l]) (lv := [(0, va_rf (some t)), (1, .int p1), (2, .int p2)]) (by simp [lv_args, va_rf_cat, cat_i, cat_l]) ?_
  intro X C E hnm _ _ _
  replace C : fh_C X 5 cX10_turn RX10 := C
  unfold f_X10_turn at h
  refine fv_aload_n C 0 rfl rfl dX10_turn_0 ?_
  refine fv_iload_n C 1 rfl rfl dX10_turn_1 ?_
  replace h := fo_s h
  obtain ⟨a1, ea1, ka1, h⟩ := h
  replace h := bx h
  obtain ⟨r2, er2, h⟩ := h
  refine fv_callV [.int p1] C mi_X10_fileAt ms_X10_fileAt lk_RX10_124 ea1 ka1 (r_X10_fileAt _ _ _ er2) ⟨Nat.le_of_ble_eq_true rfl, Nat.le_of_ble_eq_true rfl⟩ ⟨Nat.le_of_ble_eq_true rfl, Nat.le_of_ble_eq_true rfl⟩ rfl rfl (by simp [va_rf_cat, cat_i, cat_l]) dX10_turn_2 ?_
  show fh_V X rm_X10_turn 5 (sz, 0, 0) K M _ _ [va_rf (r2)]
  refine fv_astore_n (i := 3) (lv' := [(3, va_rf (r2)), (0, va_rf (some t)), (1, .int p1), (2, .int p2)]) C rfl (by decide) (by first | rfl | simp [va_rf_cat]) dX10_turn_5 ?_
  refine fv_aload_n C 1 rfl rfl dX10_turn_6 ?_
  refine fv_getR C fl_RX10_50 ea1 ka1 dX10_turn_7 ?_
  refine fv_iload_n C 3 rfl rfl dX10_turn_10 ?_
  replace h := fo_s h
  obtain ⟨a3, ea3, ka3, h⟩ := h
  replace h := bx h
  obtain ⟨r4, er4, h⟩ := h
  refine fv_callV [.int p2] C mi_X9_at ms_X9_at lk_RX10_186 ea3 ka3 (r_X9_at _ _ _ er4) ⟨Nat.le_of_ble_eq_true rfl, Nat.le_of_ble_eq_true rfl⟩ ⟨Nat.le_of_ble_eq_true rfl, Nat.le_of_ble_eq_true rfl⟩ rfl rfl (by simp [va_rf_cat, cat_i, cat_l]) dX10_turn_11 ?_
  show fh_V X rm_X10_turn 5 (sz, 0, 0) K M _ _ [va_rf (r4)]
  refine fv_astore (i := 4) (lv' := [(4, va_rf (r4)), (3, va_rf (r2)), (0, va_rf (some t)), (1, .int p1), (2, .int p2)]) C (by decide) (by first | rfl | simp [va_rf_cat]) dX10_turn_14 ?_
  refine fv_aload_n C 1 rfl rfl dX10_turn_16 ?_
  refine fv_ifnull C 37 (by decide) dX10_turn_17 (fun c28 => ?_) (fun c28 => ?_)
  · replace h := itT c28 h
    refine fv_iconst (v := -1) C (by decide) dX10_turn_37 ?_
    refine fv_widen (mc := 3) (ms := 169) (cc := ⟨#[]⟩) (own := "") (Nat.le_of_ble_eq_true rfl) (Nat.le_of_ble_eq_true rfl) ?_
    cases h
    exact fv_iret (z := (0, 0, 0)) (st := []) C E dX10_turn_38
  · replace h := itF c28 h
    refine fv_aload C 0 rfl dX10_turn_20 ?_
    refine fv_ifnull C 37 (by decide) dX10_turn_22 (fun c27 => ?_) (fun c27 => ?_)
    · replace h := itT c27 h
      refine fv_iconst (v := -1) C (by decide) dX10_turn_37 ?_
      refine fv_widen (mc := 3) (ms := 169) (cc := ⟨#[]⟩) (own := "") (Nat.le_of_ble_eq_true rfl) (Nat.le_of_ble_eq_true rfl) ?_
      cases h
      exact fv_iret (z := (0, 0, 0)) (st := []) C E dX10_turn_38
    · replace h := itF c27 h
      refine fv_aload_n C 1 rfl rfl dX10_turn_25 ?_
      replace h := fo_s h
      obtain ⟨a5, ea5, ka5, h⟩ := h
      refine fv_getI C fl_RX10_169 ea5 ka5 dX10_turn_26 ?_
      refine fv_aload C 0 rfl dX10_turn_29 ?_
      replace h := fo_s h
      obtain ⟨a6, ea6, ka6, h⟩ := h
      refine fv_getI C fl_RX10_190 ea6 ka6 dX10_turn_31 ?_
      refine fv_icmp_eq C 39 (by decide) dX10_turn_34 (fun c26 => ?_) (fun c26 => ?_)
      · replace h := itT c26 h
        refine fv_aload_n C 2 rfl rfl dX10_turn_39 ?_
        refine fv_getR C fl_RX10_36 ea1 ka1 dX10_turn_40 ?_
        refine fv_aload C 0 rfl dX10_turn_43 ?_
        refine fv_getI C fl_RX10_195 ea6 ka6 dX10_turn_45 ?_
        refine fv_aload_n C 2 rfl rfl dX10_turn_48 ?_
        refine fv_getI C fl_RX10_85 ea1 ka1 dX10_turn_49 ?_
        replace h := fo_s h
        obtain ⟨a7, ea7, ka7, h⟩ := h
        replace h := bx h
        obtain ⟨r8, er8, h⟩ := h
        refine fv_callV [.int (M.1 a6 4), .int (M.1 a1 13)] C mi_X1_liveSurely ms_X1_liveSurely lk_RX10_198 ea7 ka7 (r_X1_liveSurely _ _ _ er8) ⟨Nat.le_of_ble_eq_true rfl, Nat.le_of_ble_eq_true rfl⟩ ⟨Nat.le_of_ble_eq_true rfl, Nat.le_of_ble_eq_true rfl⟩ rfl rfl (by simp [va_rf_cat, cat_i, cat_l]) dX10_turn_52 ?_
        show fh_V X rm_X10_turn 5 (sz, 0, 0) K M _ _ [.int r8]
        refine fv_if_eq C 67 (by decide) dX10_turn_55 (fun c25 => ?_) (fun c25 => ?_)
        · replace h := itT c25 h
          refine fv_iconst (v := -1) C (by decide) dX10_turn_67 ?_
          refine fv_widen (mc := 3) (ms := 169) (cc := ⟨#[]⟩) (own := "") (Nat.le_of_ble_eq_true rfl) (Nat.le_of_ble_eq_true rfl) ?_
          cases h
          exact fv_iret (z := (0, 0, 0)) (st := []) C E dX10_turn_68
        · replace h := itF c25 h
          refine fv_aload_n C 2 rfl rfl dX10_turn_58 ?_
          refine fv_getI C fl_RX10_82 ea1 ka1 dX10_turn_59 ?_
          refine fv_bipush (v := 40) C (by decide) dX10_turn_62 ?_
          refine fv_icmp_lt C 69 (by decide) dX10_turn_64 (fun c24 => ?_) (fun c24 => ?_)
          · replace h := itT c24 h
            refine fv_aload_n C 2 rfl rfl dX10_turn_69 ?_
            refine fv_aload_n C 1 rfl rfl dX10_turn_70 ?_
            refine fv_aload C 0 rfl dX10_turn_71 ?_
            replace h := fc2_s h
            obtain ⟨r9, M10, er9, h⟩ := h
            refine fv_callV [va_rf (r2), va_rf (r4)] C mi_X10_draftTurned ms_X10_draftTurned lk_RX10_201 ea1 ka1 (r_X10_draftTurned _ _ _ er9) ⟨Nat.le_of_ble_eq_true rfl, Nat.le_of_ble_eq_true rfl⟩ ⟨Nat.le_of_ble_eq_true rfl, Nat.le_of_ble_eq_true rfl⟩ rfl rfl (by simp [va_rf_cat, cat_i, cat_l]) dX10_turn_73 ?_
            show fh_V X rm_X10_turn 5 (sz, 0, 0) K M10 _ _ [.int r9]
            refine fv_if_ne C 81 (by decide) dX10_turn_76 (fun c23 => ?_) (fun c23 => ?_)
            · replace h := itF c23 h
              refine fv_aload_n C 1 rfl rfl dX10_turn_81 ?_
              refine fv_iconst (v := 1) C (by decide) dX10_turn_82 ?_
              replace h := fb_s h
              obtain ⟨M11, eM11, h⟩ := h
              refine fv_putI (fin := false) C fl_RX10_205 ea5 ka5 (narrow_z (Or.inr rfl)) dX10_turn_83 (fv_eqM eM11 ?_)
              refine fv_aload_n C 2 rfl rfl dX10_turn_86 ?_
              refine fv_aload_n C 2 rfl rfl dX10_turn_87 ?_
              refine fv_getR C fl_RX10_18 ea1 ka1 dX10_turn_88 ?_
              refine fv_aload_n C 2 rfl rfl dX10_turn_91 ?_
              refine fv_getR C fl_RX10_18 ea1 ka1 dX10_turn_92 ?_
              replace h := fo_s h
              obtain ⟨a12, ea12, ka12, h⟩ := h
              refine fv_getI C fl_RX10_99 ea12 ka12 dX10_turn_95 ?_
              replace h := fc4_s h
              obtain ⟨r13, w16, K15, M14, er13, h⟩ := h
              refine fv_callV [.int (M11.1 a12 1)] C mi_X0_firstBytes ms_X0_firstBytes lk_RX10_106 ea12 ka12 (r_X0_firstBytes _ _ _ er13) ⟨Nat.le_of_ble_eq_true rfl, Nat.le_of_ble_eq_true rfl⟩ ⟨Nat.le_of_ble_eq_true rfl, Nat.le_of_ble_eq_true rfl⟩ rfl rfl (by simp [va_rf_cat, cat_i, cat_l]) dX10_turn_98 ?_
              show fh_V X rm_X10_turn 5 (w16, 2, 160) K15 M14 _ _ [va_rf (r13), va_rf (some t)]
              refine fv_iload_n C 3 rfl rfl dX10_turn_101 ?_
              refine fv_aload_n C 1 rfl rfl dX10_turn_102 ?_
              replace h := fo_s h
              obtain ⟨a17, ea17, ka17, h⟩ := h
              refine fv_getI C fl_RX10_209 ea17 ka17 dX10_turn_103 ?_
              replace h := fo_s h
              obtain ⟨a18, ea18, ka18, h⟩ := h
              replace h := fc4_s h
              obtain ⟨r19, w22, K21, M20, er19, h⟩ := h
              refine fv_callV [va_rf (r13), .int p1, .int (M14.1 a17 2)] C mi_X10_store ms_X10_store lk_RX10_120 ea18 ka18 (r_X10_store _ _ _ er19) ⟨Nat.le_of_ble_eq_true rfl, Nat.le_of_ble_eq_true rfl⟩ ⟨Nat.le_of_ble_eq_true rfl, Nat.le_of_ble_eq_true rfl⟩ rfl rfl (by simp [va_rf_cat, cat_i, cat_l]) dX10_turn_106 ?_
              show fh_V X rm_X10_turn 5 (w22, 3, 169) K21 M20 _ _ [.int r19]
              cases h
              exact fv_iret (z := (0, 0, 0)) (st := []) C E dX10_turn_109
            · replace h := itT c23 h
              refine fv_iconst (v := -1) C (by decide) dX10_turn_79 ?_
              refine fv_widen (mc := 3) (ms := 169) (cc := ⟨#[]⟩) (own := "") (Nat.le_of_ble_eq_true rfl) (Nat.le_of_ble_eq_true rfl) ?_
              cases h
              exact fv_iret (z := (0, 0, 0)) (st := []) C E dX10_turn_80
          · replace h := itF c24 h
            refine fv_iconst (v := -1) C (by decide) dX10_turn_67 ?_
            refine fv_widen (mc := 3) (ms := 169) (cc := ⟨#[]⟩) (own := "") (Nat.le_of_ble_eq_true rfl) (Nat.le_of_ble_eq_true rfl) ?_
            cases h
            exact fv_iret (z := (0, 0, 0)) (st := []) C E dX10_turn_68
      · replace h := itF c26 h
        refine fv_iconst (v := -1) C (by decide) dX10_turn_37 ?_
        refine fv_widen (mc := 3) (ms := 169) (cc := ⟨#[]⟩) (own := "") (Nat.le_of_ble_eq_true rfl) (Nat.le_of_ble_eq_true rfl) ?_
        cases h
        exact fv_iret (z := (0, 0, 0)) (st := []) C E dX10_turn_38
abbrev rm_X10_kept : Room := { frames := 4, cells := 0, slots := 0, locals := 99 }
set_option maxRecDepth 10000 in
theorem r_X10_kept_J96 {X : fh_X} {K : fh_K} {sz : Nat} {M' : fh_M} {r : Int32} (C : fh_C X 7 cX10_kept RX10) (E : fh_E X rm_X10_kept (some .int) (some (.int r)) K M' sz) {rec49 : Nat → Int32 → Int32 → fh_M → Option (Int32 × fh_M)} (hrec49 : ∀ (t : Nat) (v5 : Int32) (v6 : Int32) (M : fh_M), rec49 t v5 v6 M = some (r, M') → fh_V X rm_X10_kept 7 (sz, 0, 0) K M 49 [(0, va_rf (some t)), (5, .int v5), (6, .int v6)] []) (t : Nat) (v5 : Int32) (v6 : Int32) (M : fh_M) (h : f_X10_kept_J96 K rec49 t v5 v6 M = some (r, M')) : fh_V X rm_X10_kept 7 (sz, 0, 0) K M 96 [(0, va_rf (some t)), (5, .int v5), (6, .int v6)] [] := by
  unfold f_X10_kept_J96 at h
  refine fv_iinc (v := v6 + 1) (lv' := [(6, .int (v6 + 1)), (0, va_rf (some t)), (5, .int v5)]) C 2 rfl (by first | rfl | exact congrArg _ (by decide)) (by decide) (by first | rfl | simp [va_rf_cat]) dX10_kept_96 ?_
  refine fv_goto C 49 (by decide) dX10_kept_99 ?_
  refine fv_sub (cc := ⟨#[]⟩) (own := "") [1, 2, 0] rfl ?_
  exact hrec49 _ _ _ _ h
set_option maxRecDepth 10000 in
theorem r_X10_kept_L49 {X : fh_X} {K : fh_K} {sz : Nat} {M' : fh_M} {r : Int32} (C : fh_C X 7 cX10_kept RX10) (E : fh_E X rm_X10_kept (some .int) (some (.int r)) K M' sz) : ∀ (n : Nat) (t : Nat) (v5 : Int32) (v6 : Int32) (M : fh_M), f_X10_kept_L49 K n t v5 v6 M = some (r, M') → fh_V X rm_X10_kept 7 (sz, 0, 0) K M 49 [(0, va_rf (some t)), (5, .int v5), (6, .int v6)] [] := by
  intro n
  induction n with
  | zero => intro t v5 v6 M h; cases h
  | succ n ih =>
    intro t v5 v6 M h
    unfold f_X10_kept_L49 at h
    refine fv_iload C 2 rfl dX10_kept_49 ?_
    refine fv_bipush (v := 12) C (by decide) dX10_kept_51 ?_
    refine fv_icmp_ge C 102 (by decide) dX10_kept_53 (fun c16 => ?_) (fun c16 => ?_)
    · replace h := itT c16 h
      refine fv_iload C 1 rfl dX10_kept_102 ?_
      cases h
      exact fv_iret (z := (0, 0, 0)) (st := []) C E dX10_kept_104
    · replace h := itF c16 h
      refine fv_aload_n C 0 rfl rfl dX10_kept_56 ?_
      replace h := fo_s h
      obtain ⟨a10, ea10, ka10, h⟩ := h
      refine fv_getR C fl_RX10_71 ea10 ka10 dX10_kept_57 ?_
      replace h := fo_s h
      obtain ⟨a11, ea11, ka11, h⟩ := h
      refine fv_getI C fl_RX10_212 ea11 ka11 dX10_kept_60 ?_
      refine fv_iload C 2 rfl dX10_kept_63 ?_
      replace h := bx h
      obtain ⟨r12, er12, h⟩ := h
      refine fv_callS [.int (M.1 a11 5), .int v6] C mi_X10_holds lk_RX10_215 (r_X10_holds _ _ _ er12) ⟨Nat.le_of_ble_eq_true rfl, Nat.le_of_ble_eq_true rfl⟩ ⟨Nat.le_of_ble_eq_true rfl, Nat.le_of_ble_eq_true rfl⟩ rfl rfl (by simp [va_rf_cat, cat_i, cat_l]) dX10_kept_65 ?_
      show fh_V X rm_X10_kept 7 (sz, 0, 0) K M _ _ [.int r12]
      refine fv_if_eq C 96 (by decide) dX10_kept_68 (fun c15 => ?_) (fun c15 => ?_)
      · replace h := itT c15 h
        refine fv_sub (cc := ⟨#[]⟩) (own := "") [0, 1, 2] rfl ?_
        exact r_X10_kept_J96 C E ih _ _ _ _ h
      · replace h := itF c15 h
        refine fv_aload_n C 0 rfl rfl dX10_kept_71 ?_
        refine fv_getR C fl_RX10_71 ea10 ka10 dX10_kept_72 ?_
        refine fv_aload_n C 0 rfl rfl dX10_kept_75 ?_
        refine fv_getR C fl_RX10_75 ea10 ka10 dX10_kept_76 ?_
        refine fv_iload C 2 rfl dX10_kept_79 ?_
        replace h := bx h
        obtain ⟨r13, er13, h⟩ := h
        refine fv_callV [va_rf (M.2.2 a10 10), .int v6] C mi_X4_agrees ms_X4_agrees lk_RX10_218 ea11 ka11 (r_X4_agrees _ _ _ er13) ⟨Nat.le_of_ble_eq_true rfl, Nat.le_of_ble_eq_true rfl⟩ ⟨Nat.le_of_ble_eq_true rfl, Nat.le_of_ble_eq_true rfl⟩ rfl rfl (by simp [va_rf_cat, cat_i, cat_l]) dX10_kept_81 ?_
        show fh_V X rm_X10_kept 7 (sz, 0, 0) K M _ _ [.int r13]
        refine fv_if_eq C 96 (by decide) dX10_kept_84 (fun c14 => ?_) (fun c14 => ?_)
        · replace h := itT c14 h
          refine fv_sub (cc := ⟨#[]⟩) (own := "") [0, 1, 2] rfl ?_
          exact r_X10_kept_J96 C E ih _ _ _ _ h
        · replace h := itF c14 h
          refine fv_iload C 1 rfl dX10_kept_87 ?_
          refine fv_iconst (v := 1) C (by decide) dX10_kept_89 ?_
          refine fv_iload C 2 rfl dX10_kept_90 ?_
          refine fv_ishl C dX10_kept_92 ?_
          refine fv_ior C dX10_kept_93 ?_
          refine fv_istore (i := 5) (lv' := [(5, .int (v5 ||| (1 <<< (v6 &&& 31)))), (0, va_rf (some t)), (6, .int v6)]) C (by decide) (by first | rfl | simp [va_rf_cat]) dX10_kept_94 ?_
          refine fv_sub (cc := ⟨#[]⟩) (own := "") [1, 0, 2] rfl ?_
          exact r_X10_kept_J96 C E ih _ _ _ _ h
set_option maxRecDepth 10000 in
theorem r_X10_kept (l : Launch) (D : fh_D) (A : Nat → Prop) {K : fh_K} {sz : Nat} {M : fh_M} {M' : fh_M} {r : Int32} {t : Nat} {p1 : Int32} {p2 : Int32} (h : f_X10_kept K M t p1 p2 = some (r, M')) : fh_Met l yX10_kept cX10_kept 7 (some .int) rm_X10_kept D K M sz A [va_rf (some t), .int p1, .int p2] (some (.int r)) K M' sz := by
  refine fh_enter (by decide) (by simp [lg_sl, va_rf_cat, cat_i, cat_l]) (lv := [(0, va_rf (some t)), (1, .int p1), (2, .int p2)]) (by simp [lv_args, va_rf_cat, cat_i, cat_l]) ?_
  intro X C E hnm _ _ _
  replace C : fh_C X 7 cX10_kept RX10 := C
  unfold f_X10_kept at h
  refine fv_aload_n C 0 rfl rfl dX10_kept_0 ?_
  refine fv_iload_n C 1 rfl rfl dX10_kept_1 ?_
  replace h := fo_s h
  obtain ⟨a1, ea1, ka1, h⟩ := h
  replace h := bx h
  obtain ⟨r2, er2, h⟩ := h
  refine fv_callV [.int p1] C mi_X10_fileAt ms_X10_fileAt lk_RX10_124 ea1 ka1 (r_X10_fileAt _ _ _ er2) ⟨Nat.le_of_ble_eq_true rfl, Nat.le_of_ble_eq_true rfl⟩ ⟨Nat.le_of_ble_eq_true rfl, Nat.le_of_ble_eq_true rfl⟩ rfl rfl (by simp [va_rf_cat, cat_i, cat_l]) dX10_kept_2 ?_
  show fh_V X rm_X10_kept 7 (sz, 0, 0) K M _ _ [va_rf (r2)]
  refine fv_astore_n (i := 3) (lv' := [(3, va_rf (r2)), (0, va_rf (some t)), (1, .int p1), (2, .int p2)]) C rfl (by decide) (by first | rfl | simp [va_rf_cat]) dX10_kept_5 ?_
  refine fv_aload_n C 1 rfl rfl dX10_kept_6 ?_
  refine fv_iload_n C 3 rfl rfl dX10_kept_7 ?_
  replace h := bx h
  obtain ⟨r3, er3, h⟩ := h
  refine fv_callV [.int p2] C mi_X10_fileAt ms_X10_fileAt lk_RX10_124 ea1 ka1 (r_X10_fileAt _ _ _ er3) ⟨Nat.le_of_ble_eq_true rfl, Nat.le_of_ble_eq_true rfl⟩ ⟨Nat.le_of_ble_eq_true rfl, Nat.le_of_ble_eq_true rfl⟩ rfl rfl (by simp [va_rf_cat, cat_i, cat_l]) dX10_kept_8 ?_
  show fh_V X rm_X10_kept 7 (sz, 0, 0) K M _ _ [va_rf (r3)]
  refine fv_astore (i := 4) (lv' := [(4, va_rf (r3)), (3, va_rf (r2)), (0, va_rf (some t)), (1, .int p1), (2, .int p2)]) C (by decide) (by first | rfl | simp [va_rf_cat]) dX10_kept_11 ?_
  refine fv_aload_n C 1 rfl rfl dX10_kept_13 ?_
  refine fv_ifnull C 22 (by decide) dX10_kept_14 (fun c9 => ?_) (fun c9 => ?_)
  · replace h := itT c9 h
    refine fv_iconst (v := -1) C (by decide) dX10_kept_22 ?_
    cases h
    exact fv_iret (z := (0, 0, 0)) (st := []) C E dX10_kept_23
  · replace h := itF c9 h
    refine fv_aload C 0 rfl dX10_kept_17 ?_
    refine fv_ifnonnull C 24 (by decide) dX10_kept_19 (fun c8 => ?_) (fun c8 => ?_)
    · replace h := itF c8 h
      refine fv_aload_n C 2 rfl rfl dX10_kept_24 ?_
      refine fv_aload_n C 1 rfl rfl dX10_kept_25 ?_
      refine fv_aload_n C 2 rfl rfl dX10_kept_26 ?_
      refine fv_getR C fl_RX10_71 ea1 ka1 dX10_kept_27 ?_
      replace h := bx h
      obtain ⟨M5, er4, h⟩ := h
      refine fv_callV [va_rf (r2), va_rf (M.2.2 a1 9)] C mi_X10_readByOwnMake ms_X10_readByOwnMake lk_RX10_172 ea1 ka1 (r_X10_readByOwnMake _ _ _ er4) ⟨Nat.le_of_ble_eq_true rfl, Nat.le_of_ble_eq_true rfl⟩ ⟨Nat.le_of_ble_eq_true rfl, Nat.le_of_ble_eq_true rfl⟩ rfl rfl (by simp [va_rf_cat, cat_i, cat_l]) dX10_kept_30 ?_
      show fh_V X rm_X10_kept 7 (sz, 0, 0) K M5 _ _ []
      refine fv_aload_n C 2 rfl rfl dX10_kept_33 ?_
      refine fv_aload C 0 rfl dX10_kept_34 ?_
      refine fv_aload_n C 2 rfl rfl dX10_kept_36 ?_
      refine fv_getR C fl_RX10_75 ea1 ka1 dX10_kept_37 ?_
      replace h := bx h
      obtain ⟨M7, er6, h⟩ := h
      refine fv_callV [va_rf (r3), va_rf (M5.2.2 a1 10)] C mi_X10_readByOwnMake ms_X10_readByOwnMake lk_RX10_172 ea1 ka1 (r_X10_readByOwnMake _ _ _ er6) ⟨Nat.le_of_ble_eq_true rfl, Nat.le_of_ble_eq_true rfl⟩ ⟨Nat.le_of_ble_eq_true rfl, Nat.le_of_ble_eq_true rfl⟩ rfl rfl (by simp [va_rf_cat, cat_i, cat_l]) dX10_kept_40 ?_
      show fh_V X rm_X10_kept 7 (sz, 0, 0) K M7 _ _ []
      refine fv_iconst (v := 0) C (by decide) dX10_kept_43 ?_
      refine fv_istore (i := 5) (lv' := [(5, .int 0), (4, va_rf (r3)), (3, va_rf (r2)), (0, va_rf (some t)), (1, .int p1), (2, .int p2)]) C (by decide) (by first | rfl | simp [va_rf_cat]) dX10_kept_44 ?_
      refine fv_iconst (v := 0) C (by decide) dX10_kept_46 ?_
      refine fv_istore (i := 6) (lv' := [(6, .int 0), (5, .int 0), (4, va_rf (r3)), (3, va_rf (r2)), (0, va_rf (some t)), (1, .int p1), (2, .int p2)]) C (by decide) (by first | rfl | simp [va_rf_cat]) dX10_kept_47 ?_
      refine fv_sub (cc := ⟨#[]⟩) (own := "") [4, 1, 0] rfl ?_
      exact r_X10_kept_L49 C E  4096 _ _ _ _ h
    · replace h := itT c8 h
      refine fv_iconst (v := -1) C (by decide) dX10_kept_22 ?_
      cases h
      exact fv_iret (z := (0, 0, 0)) (st := []) C E dX10_kept_23
abbrev rm_X10_road : Room := { frames := 5, cells := 0, slots := 0, locals := 120 }
set_option maxRecDepth 10000 in
theorem r_X10_road (l : Launch) (D : fh_D) (A : Nat → Prop) {K : fh_K} {sz : Nat} {M : fh_M} {M' : fh_M} {r : Int32} {t : Nat} {p1 : Int32} {p2 : Int32} (h : f_X10_road K M t p1 p2 = some (r, M')) : fh_Met l yX10_road cX10_road 6 (some .int) rm_X10_road D K M sz A [va_rf (some t), .int p1, .int p2] (some (.int r)) K M' sz := by
  refine fh_enter (by decide) (by simp [lg_sl, va_rf_cat, cat_i, cat_l]) (lv := [(0, va_rf (some t)), (1, .int p1), (2, .int p2)]) (by simp [lv_args, va_rf_cat, cat_i, cat_l]) ?_
  intro X C E hnm _ _ _
  replace C : fh_C X 6 cX10_road RX10 := C
  unfold f_X10_road at h
  refine fv_aload_n C 0 rfl rfl dX10_road_0 ?_
  refine fv_iload_n C 1 rfl rfl dX10_road_1 ?_
  replace h := fo_s h
  obtain ⟨a1, ea1, ka1, h⟩ := h
  replace h := bx h
  obtain ⟨r2, er2, h⟩ := h
  refine fv_callV [.int p1] C mi_X10_fileAt ms_X10_fileAt lk_RX10_124 ea1 ka1 (r_X10_fileAt _ _ _ er2) ⟨Nat.le_of_ble_eq_true rfl, Nat.le_of_ble_eq_true rfl⟩ ⟨Nat.le_of_ble_eq_true rfl, Nat.le_of_ble_eq_true rfl⟩ rfl rfl (by simp [va_rf_cat, cat_i, cat_l]) dX10_road_2 ?_
  show fh_V X rm_X10_road 6 (sz, 0, 0) K M _ _ [va_rf (r2)]
  refine fv_astore_n (i := 3) (lv' := [(3, va_rf (r2)), (0, va_rf (some t)), (1, .int p1), (2, .int p2)]) C rfl (by decide) (by first | rfl | simp [va_rf_cat]) dX10_road_5 ?_
  refine fv_aload_n C 0 rfl rfl dX10_road_6 ?_
  refine fv_ifnull C 18 (by decide) dX10_road_7 (fun c13 => ?_) (fun c13 => ?_)
  · replace h := itT c13 h
    refine fv_iconst (v := -1) C (by decide) dX10_road_18 ?_
    cases h
    exact fv_iret (z := (0, 0, 0)) (st := []) C E dX10_road_19
  · replace h := itF c13 h
    refine fv_aload_n C 1 rfl rfl dX10_road_10 ?_
    refine fv_iload_n C 3 rfl rfl dX10_road_11 ?_
    replace h := bx h
    obtain ⟨r3, er3, h⟩ := h
    refine fv_callV [.int p2] C mi_X10_makeAt ms_X10_makeAt lk_RX10_141 ea1 ka1 (r_X10_makeAt _ _ _ er3) ⟨Nat.le_of_ble_eq_true rfl, Nat.le_of_ble_eq_true rfl⟩ ⟨Nat.le_of_ble_eq_true rfl, Nat.le_of_ble_eq_true rfl⟩ rfl rfl (by simp [va_rf_cat, cat_i, cat_l]) dX10_road_12 ?_
    show fh_V X rm_X10_road 6 (sz, 0, 0) K M _ _ [va_rf (r3)]
    refine fv_ifnonnull C 20 (by decide) dX10_road_15 (fun c12 => ?_) (fun c12 => ?_)
    · replace h := itF c12 h
      refine fv_aload_n C 1 rfl rfl dX10_road_20 ?_
      refine fv_getR C fl_RX10_57 ea1 ka1 dX10_road_21 ?_
      refine fv_aload_n C 0 rfl rfl dX10_road_24 ?_
      refine fv_aload_n C 1 rfl rfl dX10_road_25 ?_
      refine fv_getR C fl_RX10_50 ea1 ka1 dX10_road_26 ?_
      refine fv_aload_n C 1 rfl rfl dX10_road_29 ?_
      refine fv_getR C fl_RX10_36 ea1 ka1 dX10_road_30 ?_
      refine fv_aload_n C 1 rfl rfl dX10_road_33 ?_
      refine fv_getI C fl_RX10_85 ea1 ka1 dX10_road_34 ?_
      replace h := fo_s h
      obtain ⟨a4, ea4, ka4, h⟩ := h
      replace h := bx h
      obtain ⟨M6, er5, h⟩ := h
      refine fv_callV [va_rf (r2), va_rf (M.2.2 a1 6), va_rf (M.2.2 a1 4), .int (M.1 a1 13)] C mi_X5_search ms_X5_search lk_RX10_222 ea4 ka4 (r_X5_search _ _ _ er5) ⟨Nat.le_of_ble_eq_true rfl, Nat.le_of_ble_eq_true rfl⟩ ⟨Nat.le_of_ble_eq_true rfl, Nat.le_of_ble_eq_true rfl⟩ rfl rfl (by simp [va_rf_cat, cat_i, cat_l]) dX10_road_37 ?_
      show fh_V X rm_X10_road 6 (sz, 0, 0) K M6 _ _ []
      refine fv_aload_n C 1 rfl rfl dX10_road_40 ?_
      refine fv_getR C fl_RX10_57 ea1 ka1 dX10_road_41 ?_
      refine fv_iload_n C 3 rfl rfl dX10_road_44 ?_
      replace h := fo_s h
      obtain ⟨a7, ea7, ka7, h⟩ := h
      replace h := bx h
      obtain ⟨r8, er8, h⟩ := h
      refine fv_callV [.int p2] C mi_X5_bestTo ms_X5_bestTo lk_RX10_226 ea7 ka7 (r_X5_bestTo _ _ _ er8) ⟨Nat.le_of_ble_eq_true rfl, Nat.le_of_ble_eq_true rfl⟩ ⟨Nat.le_of_ble_eq_true rfl, Nat.le_of_ble_eq_true rfl⟩ rfl rfl (by simp [va_rf_cat, cat_i, cat_l]) dX10_road_45 ?_
      show fh_V X rm_X10_road 6 (sz, 0, 0) K M6 _ _ [.long (r8)]
      refine fv_lstore (i := 4) (lv' := [(4, .long (r8)), (3, va_rf (r2)), (0, va_rf (some t)), (1, .int p1), (2, .int p2)]) C (by decide) (by first | rfl | simp [va_rf_cat]) dX10_road_48 ?_
      refine fv_lload C 0 rfl dX10_road_50 ?_
      refine fv_ldc2 C kl_RX10_230 dX10_road_52 ?_
      refine fv_lcmp C dX10_road_55 ?_
      refine fv_if_ne C 61 (by decide) dX10_road_56 (fun c11 => ?_) (fun c11 => ?_)
      · replace h := itF c11 h
        refine fv_aload_n C 2 rfl rfl dX10_road_61 ?_
        refine fv_lload C 0 rfl dX10_road_62 ?_
        replace h := fb_s h
        obtain ⟨M9, eM9, h⟩ := h
        refine fv_putJ (fin := false) C fl_RX10_88 ea1 ka1 (narrow_l _) dX10_road_64 (fv_eqM eM9 ?_)
        refine fv_lload C 0 rfl dX10_road_67 ?_
        replace h := bx h
        obtain ⟨r10, er10, h⟩ := h
        refine fv_callS [.long (r8)] C mi_X5_priceOf lk_RX10_232 (r_X5_priceOf _ _ _ er10) ⟨Nat.le_of_ble_eq_true rfl, Nat.le_of_ble_eq_true rfl⟩ ⟨Nat.le_of_ble_eq_true rfl, Nat.le_of_ble_eq_true rfl⟩ rfl rfl (by simp [va_rf_cat, cat_i, cat_l]) dX10_road_69 ?_
        show fh_V X rm_X10_road 6 (sz, 0, 0) K M9 _ _ [.int r10]
        cases h
        exact fv_iret (z := (0, 0, 0)) (st := []) C E dX10_road_72
      · replace h := itT c11 h
        refine fv_iconst (v := -1) C (by decide) dX10_road_59 ?_
        cases h
        exact fv_iret (z := (0, 0, 0)) (st := []) C E dX10_road_60
    · replace h := itT c12 h
      refine fv_iconst (v := -1) C (by decide) dX10_road_18 ?_
      cases h
      exact fv_iret (z := (0, 0, 0)) (st := []) C E dX10_road_19
abbrev rm_X10_step : Room := { frames := 2, cells := 0, slots := 0, locals := 45 }
set_option maxRecDepth 10000 in
theorem r_X10_step (l : Launch) (D : fh_D) (A : Nat → Prop) {K : fh_K} {sz : Nat} {M : fh_M} {r : Int32} {t : Nat} {p1 : Int32} (h : f_X10_step K M t p1 = some r) : fh_Met l yX10_step cX10_step 2 (some .int) rm_X10_step D K M sz A [va_rf (some t), .int p1] (some (.int r)) K M sz := by
  refine fh_enter (by decide) (by simp [lg_sl, va_rf_cat, cat_i, cat_l]) (lv := [(0, va_rf (some t)), (1, .int p1)]) (by simp [lv_args, va_rf_cat, cat_i, cat_l]) ?_
  intro X C E hnm _ _ _
  replace C : fh_C X 2 cX10_step RX10 := C
  unfold f_X10_step at h
  refine fv_aload_n C 0 rfl rfl dX10_step_0 ?_
  replace h := fo_s h
  obtain ⟨a1, ea1, ka1, h⟩ := h
  refine fv_getJ C fl_RX10_88 ea1 ka1 dX10_step_1 ?_
  refine fv_iload_n C 1 rfl rfl dX10_step_4 ?_
  replace h := bx h
  obtain ⟨r2, er2, h⟩ := h
  refine fv_callS [.long (M.2.1 a1 14), .int p1] C mi_X5_stepOf lk_RX10_236 (r_X5_stepOf _ _ _ er2) ⟨Nat.le_of_ble_eq_true rfl, Nat.le_of_ble_eq_true rfl⟩ ⟨Nat.le_of_ble_eq_true rfl, Nat.le_of_ble_eq_true rfl⟩ rfl rfl (by simp [va_rf_cat, cat_i, cat_l]) dX10_step_5 ?_
  show fh_V X rm_X10_step 2 (sz, 0, 0) K M _ _ [.int r2]
  cases h
  exact fv_iret (z := (0, 0, 0)) (st := []) C E dX10_step_8
abbrev rm_X10_last : Room := { frames := 4, cells := 0, slots := 0, locals := 113 }
set_option maxRecDepth 10000 in
theorem r_X10_last (l : Launch) (D : fh_D) (A : Nat → Prop) {K : fh_K} {sz : Nat} {M : fh_M} {M' : fh_M} {r : Int32} {t : Nat} {p1 : Int32} {p2 : Int32} (h : f_X10_last K M t p1 p2 = some (r, M')) : fh_Met l yX10_last cX10_last 4 (some .int) rm_X10_last D K M sz A [va_rf (some t), .int p1, .int p2] (some (.int r)) K M' sz := by
  refine fh_enter (by decide) (by simp [lg_sl, va_rf_cat, cat_i, cat_l]) (lv := [(0, va_rf (some t)), (1, .int p1), (2, .int p2)]) (by simp [lv_args, va_rf_cat, cat_i, cat_l]) ?_
  intro X C E hnm _ _ _
  replace C : fh_C X 4 cX10_last RX10 := C
  unfold f_X10_last at h
  refine fv_aload_n C 0 rfl rfl dX10_last_0 ?_
  refine fv_iload_n C 1 rfl rfl dX10_last_1 ?_
  replace h := fo_s h
  obtain ⟨a1, ea1, ka1, h⟩ := h
  replace h := bx h
  obtain ⟨r2, er2, h⟩ := h
  refine fv_callV [.int p1] C mi_X10_fileAt ms_X10_fileAt lk_RX10_124 ea1 ka1 (r_X10_fileAt _ _ _ er2) ⟨Nat.le_of_ble_eq_true rfl, Nat.le_of_ble_eq_true rfl⟩ ⟨Nat.le_of_ble_eq_true rfl, Nat.le_of_ble_eq_true rfl⟩ rfl rfl (by simp [va_rf_cat, cat_i, cat_l]) dX10_last_2 ?_
  show fh_V X rm_X10_last 4 (sz, 0, 0) K M _ _ [va_rf (r2)]
  refine fv_astore_n (i := 3) (lv' := [(3, va_rf (r2)), (0, va_rf (some t)), (1, .int p1), (2, .int p2)]) C rfl (by decide) (by first | rfl | simp [va_rf_cat]) dX10_last_5 ?_
  refine fv_aload_n C 0 rfl rfl dX10_last_6 ?_
  refine fv_ifnonnull C 12 (by decide) dX10_last_7 (fun c9 => ?_) (fun c9 => ?_)
  · replace h := itF c9 h
    refine fv_aload_n C 1 rfl rfl dX10_last_12 ?_
    refine fv_getR C fl_RX10_64 ea1 ka1 dX10_last_13 ?_
    refine fv_aload_n C 1 rfl rfl dX10_last_16 ?_
    refine fv_getR C fl_RX10_43 ea1 ka1 dX10_last_17 ?_
    refine fv_aload_n C 1 rfl rfl dX10_last_20 ?_
    refine fv_getR C fl_RX10_50 ea1 ka1 dX10_last_21 ?_
    refine fv_aload_n C 1 rfl rfl dX10_last_24 ?_
    refine fv_getR C fl_RX10_36 ea1 ka1 dX10_last_25 ?_
    refine fv_iload_n C 3 rfl rfl dX10_last_28 ?_
    replace h := fo_s h
    obtain ⟨a3, ea3, ka3, h⟩ := h
    replace h := bx h
    obtain ⟨M5, er4, h⟩ := h
    refine fv_callV [va_rf (M.2.2 a1 5), va_rf (M.2.2 a1 6), va_rf (M.2.2 a1 4), .int p2] C mi_X6_measure ms_X6_measure lk_RX10_240 ea3 ka3 (r_X6_measure _ _ _ er4) ⟨Nat.le_of_ble_eq_true rfl, Nat.le_of_ble_eq_true rfl⟩ ⟨Nat.le_of_ble_eq_true rfl, Nat.le_of_ble_eq_true rfl⟩ rfl rfl (by simp [va_rf_cat, cat_i, cat_l]) dX10_last_29 ?_
    show fh_V X rm_X10_last 4 (sz, 0, 0) K M5 _ _ []
    refine fv_aload_n C 1 rfl rfl dX10_last_32 ?_
    refine fv_getR C fl_RX10_64 ea1 ka1 dX10_last_33 ?_
    refine fv_aload_n C 0 rfl rfl dX10_last_36 ?_
    replace h := fo_s h
    obtain ⟨a6, ea6, ka6, h⟩ := h
    refine fv_getI C fl_RX10_169 ea6 ka6 dX10_last_37 ?_
    replace h := fo_s h
    obtain ⟨a7, ea7, ka7, h⟩ := h
    replace h := bx h
    obtain ⟨r8, er8, h⟩ := h
    refine fv_callV [.int (M5.1 a6 5)] C mi_X6_lastYearOf ms_X6_lastYearOf lk_RX10_244 ea7 ka7 (r_X6_lastYearOf _ _ _ er8) ⟨Nat.le_of_ble_eq_true rfl, Nat.le_of_ble_eq_true rfl⟩ ⟨Nat.le_of_ble_eq_true rfl, Nat.le_of_ble_eq_true rfl⟩ rfl rfl (by simp [va_rf_cat, cat_i, cat_l]) dX10_last_40 ?_
    show fh_V X rm_X10_last 4 (sz, 0, 0) K M5 _ _ [.int r8]
    cases h
    exact fv_iret (z := (0, 0, 0)) (st := []) C E dX10_last_43
  · replace h := itT c9 h
    refine fv_iconst (v := -1) C (by decide) dX10_last_10 ?_
    cases h
    exact fv_iret (z := (0, 0, 0)) (st := []) C E dX10_last_11
abbrev rm_X10_isPlanned : Room := { frames := 0, cells := 0, slots := 0, locals := 0 }
set_option maxRecDepth 10000 in
theorem r_X10_isPlanned (l : Launch) (D : fh_D) (A : Nat → Prop) {K : fh_K} {sz : Nat} {M : fh_M} {r : Int32} {p0 : Option Nat} (h : f_X10_isPlanned K M p0 = some r) : fh_Met l yX10_isPlanned cX10_isPlanned 1 (some .boolean) rm_X10_isPlanned D K M sz A [va_rf p0] (some (.int r)) K M sz := by
  refine fh_enter (by decide) (by simp [lg_sl, va_rf_cat, cat_i, cat_l]) (lv := [(0, va_rf p0)]) (by simp [lv_args, va_rf_cat, cat_i, cat_l]) ?_
  intro X C E hnm _ _ _
  replace C : fh_C X 1 cX10_isPlanned RX10 := C
  unfold f_X10_isPlanned at h
  refine fv_aload_n C 0 rfl rfl dX10_isPlanned_0 ?_
  refine fv_ifnull C 23 (by decide) dX10_isPlanned_1 (fun c4 => ?_) (fun c4 => ?_)
  · replace h := itT c4 h
    refine fv_iconst (v := 0) C (by decide) dX10_isPlanned_23 ?_
    cases h
    exact fv_zret (z := (0, 0, 0)) (st := []) C E (Or.inl rfl) dX10_isPlanned_24
  · replace h := itF c4 h
    refine fv_aload_n C 0 rfl rfl dX10_isPlanned_4 ?_
    replace h := fo_s h
    obtain ⟨a1, ea1, ka1, h⟩ := h
    refine fv_getI C fl_RX10_205 ea1 ka1 dX10_isPlanned_5 ?_
    refine fv_if_ne C 23 (by decide) dX10_isPlanned_8 (fun c3 => ?_) (fun c3 => ?_)
    · replace h := itF c3 h
      refine fv_iconst (v := 0) C (by decide) dX10_isPlanned_23 ?_
      cases h
      exact fv_zret (z := (0, 0, 0)) (st := []) C E (Or.inl rfl) dX10_isPlanned_24
    · replace h := itT c3 h
      refine fv_aload_n C 0 rfl rfl dX10_isPlanned_11 ?_
      refine fv_getI C fl_RX10_169 ea1 ka1 dX10_isPlanned_12 ?_
      refine fv_iconst (v := -1) C (by decide) dX10_isPlanned_15 ?_
      refine fv_icmp_eq C 23 (by decide) dX10_isPlanned_16 (fun c2 => ?_) (fun c2 => ?_)
      · replace h := itT c2 h
        refine fv_iconst (v := 0) C (by decide) dX10_isPlanned_23 ?_
        cases h
        exact fv_zret (z := (0, 0, 0)) (st := []) C E (Or.inl rfl) dX10_isPlanned_24
      · replace h := itF c2 h
        refine fv_iconst (v := 1) C (by decide) dX10_isPlanned_19 ?_
        refine fv_goto C 24 (by decide) dX10_isPlanned_20 ?_
        cases h
        exact fv_zret (z := (0, 0, 0)) (st := []) C E (Or.inr rfl) dX10_isPlanned_24
abbrev rm_X10_cheapestGoal : Room := { frames := 5, cells := 0, slots := 0, locals := 120 }
set_option maxRecDepth 10000 in
theorem r_X10_cheapestGoal_J78 {X : fh_X} {K : fh_K} {sz : Nat} {M' : fh_M} {r : Int32} (C : fh_C X 7 cX10_cheapestGoal RX10) (E : fh_E X rm_X10_cheapestGoal (some .int) (some (.int r)) K M' sz) {rec30 : Nat → Int32 → Int32 → Int64 → Int32 → fh_M → Option (Int32 × fh_M)} (hrec30 : ∀ (t : Nat) (v2 : Int32) (v3 : Int32) (v4 : Int64) (v6 : Int32) (M : fh_M), rec30 t v2 v3 v4 v6 M = some (r, M') → fh_V X rm_X10_cheapestGoal 7 (sz, 0, 0) K M 30 [(0, va_rf (some t)), (2, .int v2), (3, .int v3), (4, .long (v4)), (6, .int v6)] []) (t : Nat) (v2 : Int32) (v3 : Int32) (v4 : Int64) (v6 : Int32) (M : fh_M) (h : f_X10_cheapestGoal_J78 K rec30 t v2 v3 v4 v6 M = some (r, M')) : fh_V X rm_X10_cheapestGoal 7 (sz, 0, 0) K M 78 [(0, va_rf (some t)), (2, .int v2), (3, .int v3), (4, .long (v4)), (6, .int v6)] [] := by
  unfold f_X10_cheapestGoal_J78 at h
  refine fv_iinc (v := v6 + 1) (lv' := [(6, .int (v6 + 1)), (0, va_rf (some t)), (2, .int v2), (3, .int v3), (4, .long (v4))]) C 4 rfl (by first | rfl | exact congrArg _ (by decide)) (by decide) (by first | rfl | simp [va_rf_cat]) dX10_cheapestGoal_78 ?_
  refine fv_goto C 30 (by decide) dX10_cheapestGoal_81 ?_
  refine fv_sub (cc := ⟨#[]⟩) (own := "") [1, 2, 3, 4, 0] rfl ?_
  exact hrec30 _ _ _ _ _ _ h
set_option maxRecDepth 10000 in
theorem r_X10_cheapestGoal_L30 {X : fh_X} {K : fh_K} {sz : Nat} {M' : fh_M} {r : Int32} (C : fh_C X 7 cX10_cheapestGoal RX10) (E : fh_E X rm_X10_cheapestGoal (some .int) (some (.int r)) K M' sz) : ∀ (n : Nat) (t : Nat) (v2 : Int32) (v3 : Int32) (v4 : Int64) (v6 : Int32) (M : fh_M), f_X10_cheapestGoal_L30 K n t v2 v3 v4 v6 M = some (r, M') → fh_V X rm_X10_cheapestGoal 7 (sz, 0, 0) K M 30 [(0, va_rf (some t)), (2, .int v2), (3, .int v3), (4, .long (v4)), (6, .int v6)] [] := by
  intro n
  induction n with
  | zero => intro t v2 v3 v4 v6 M h; cases h
  | succ n ih =>
    intro t v2 v3 v4 v6 M h
    unfold f_X10_cheapestGoal_L30 at h
    refine fv_iload C 4 rfl dX10_cheapestGoal_30 ?_
    refine fv_aload_n C 0 rfl rfl dX10_cheapestGoal_32 ?_
    replace h := fo_s h
    obtain ⟨a5, ea5, ka5, h⟩ := h
    refine fv_getI C fl_RX10_78 ea5 ka5 dX10_cheapestGoal_33 ?_
    refine fv_icmp_ge C 84 (by decide) dX10_cheapestGoal_36 (fun c11 => ?_) (fun c11 => ?_)
    · replace h := itT c11 h
      refine fv_iload_n C 2 rfl rfl dX10_cheapestGoal_84 ?_
      cases h
      exact fv_iret (z := (0, 0, 0)) (st := []) C E dX10_cheapestGoal_85
    · replace h := itF c11 h
      refine fv_iload_n C 1 rfl rfl dX10_cheapestGoal_39 ?_
      refine fv_iload C 4 rfl dX10_cheapestGoal_40 ?_
      refine fv_ishr C dX10_cheapestGoal_42 ?_
      refine fv_iconst (v := 1) C (by decide) dX10_cheapestGoal_43 ?_
      refine fv_iand C dX10_cheapestGoal_44 ?_
      refine fv_iconst (v := 1) C (by decide) dX10_cheapestGoal_45 ?_
      refine fv_icmp_ne C 78 (by decide) dX10_cheapestGoal_46 (fun c10 => ?_) (fun c10 => ?_)
      · replace h := itF c10 h
        refine fv_sub (cc := ⟨#[]⟩) (own := "") [0, 1, 2, 3, 4] rfl ?_
        exact r_X10_cheapestGoal_J78 C E ih _ _ _ _ _ _ h
      · replace h := itT c10 h
        refine fv_aload_n C 0 rfl rfl dX10_cheapestGoal_49 ?_
        refine fv_getR C fl_RX10_57 ea5 ka5 dX10_cheapestGoal_50 ?_
        refine fv_iload C 4 rfl dX10_cheapestGoal_53 ?_
        replace h := fo_s h
        obtain ⟨a6, ea6, ka6, h⟩ := h
        replace h := bx h
        obtain ⟨r7, er7, h⟩ := h
        refine fv_callV [.int v6] C mi_X5_bestTo ms_X5_bestTo lk_RX10_226 ea6 ka6 (r_X5_bestTo _ _ _ er7) ⟨Nat.le_of_ble_eq_true rfl, Nat.le_of_ble_eq_true rfl⟩ ⟨Nat.le_of_ble_eq_true rfl, Nat.le_of_ble_eq_true rfl⟩ rfl rfl (by simp [va_rf_cat, cat_i, cat_l]) dX10_cheapestGoal_55 ?_
        show fh_V X rm_X10_cheapestGoal 7 (sz, 0, 0) K M _ _ [.long (r7)]
        refine fv_lload C 3 rfl dX10_cheapestGoal_58 ?_
        refine fv_lcmp C dX10_cheapestGoal_60 ?_
        refine fv_if_ge C 78 (by decide) dX10_cheapestGoal_61 (fun c9 => ?_) (fun c9 => ?_)
        · replace h := itT c9 h
          refine fv_sub (cc := ⟨#[]⟩) (own := "") [0, 1, 2, 3, 4] rfl ?_
          exact r_X10_cheapestGoal_J78 C E ih _ _ _ _ _ _ h
        · replace h := itF c9 h
          refine fv_aload_n C 0 rfl rfl dX10_cheapestGoal_64 ?_
          refine fv_getR C fl_RX10_57 ea5 ka5 dX10_cheapestGoal_65 ?_
          refine fv_iload C 4 rfl dX10_cheapestGoal_68 ?_
          replace h := bx h
          obtain ⟨r8, er8, h⟩ := h
          refine fv_callV [.int v6] C mi_X5_bestTo ms_X5_bestTo lk_RX10_226 ea6 ka6 (r_X5_bestTo _ _ _ er8) ⟨Nat.le_of_ble_eq_true rfl, Nat.le_of_ble_eq_true rfl⟩ ⟨Nat.le_of_ble_eq_true rfl, Nat.le_of_ble_eq_true rfl⟩ rfl rfl (by simp [va_rf_cat, cat_i, cat_l]) dX10_cheapestGoal_70 ?_
          show fh_V X rm_X10_cheapestGoal 7 (sz, 0, 0) K M _ _ [.long (r8)]
          refine fv_lstore (i := 4) (lv' := [(4, .long (r8)), (0, va_rf (some t)), (2, .int v2), (3, .int v3), (6, .int v6)]) C (by decide) (by first | rfl | simp [va_rf_cat]) dX10_cheapestGoal_73 ?_
          refine fv_iload C 4 rfl dX10_cheapestGoal_75 ?_
          refine fv_istore_n (i := 3) (lv' := [(3, .int v6), (4, .long (r8)), (0, va_rf (some t)), (2, .int v2), (6, .int v6)]) C rfl (by decide) (by first | rfl | simp [va_rf_cat]) dX10_cheapestGoal_77 ?_
          refine fv_sub (cc := ⟨#[]⟩) (own := "") [2, 3, 0, 1, 4] rfl ?_
          exact r_X10_cheapestGoal_J78 C E ih _ _ _ _ _ _ h
set_option maxRecDepth 10000 in
theorem r_X10_cheapestGoal (l : Launch) (D : fh_D) (A : Nat → Prop) {K : fh_K} {sz : Nat} {M : fh_M} {M' : fh_M} {r : Int32} {t : Nat} {p1 : Option Nat} {p2 : Int32} (h : f_X10_cheapestGoal K M t p1 p2 = some (r, M')) : fh_Met l yX10_cheapestGoal cX10_cheapestGoal 7 (some .int) rm_X10_cheapestGoal D K M sz A [va_rf (some t), va_rf p1, .int p2] (some (.int r)) K M' sz := by
  refine fh_enter (by decide) (by simp [lg_sl, va_rf_cat, cat_i, cat_l]) (lv := [(0, va_rf (some t)), (1, va_rf p1), (2, .int p2)]) (by simp [lv_args, va_rf_cat, cat_i, cat_l]) ?_
  intro X C E hnm _ _ _
  replace C : fh_C X 7 cX10_cheapestGoal RX10 := C
  unfold f_X10_cheapestGoal at h
  refine fv_aload_n C 0 rfl rfl dX10_cheapestGoal_0 ?_
  replace h := fo_s h
  obtain ⟨a1, ea1, ka1, h⟩ := h
  refine fv_getR C fl_RX10_57 ea1 ka1 dX10_cheapestGoal_1 ?_
  refine fv_aload_n C 1 rfl rfl dX10_cheapestGoal_4 ?_
  refine fv_aload_n C 0 rfl rfl dX10_cheapestGoal_5 ?_
  refine fv_getR C fl_RX10_50 ea1 ka1 dX10_cheapestGoal_6 ?_
  refine fv_aload_n C 0 rfl rfl dX10_cheapestGoal_9 ?_
  refine fv_getR C fl_RX10_36 ea1 ka1 dX10_cheapestGoal_10 ?_
  refine fv_aload_n C 0 rfl rfl dX10_cheapestGoal_13 ?_
  refine fv_getI C fl_RX10_85 ea1 ka1 dX10_cheapestGoal_14 ?_
  replace h := fo_s h
  obtain ⟨a2, ea2, ka2, h⟩ := h
  replace h := bx h
  obtain ⟨M4, er3, h⟩ := h
  refine fv_callV [va_rf (p1), va_rf (M.2.2 a1 6), va_rf (M.2.2 a1 4), .int (M.1 a1 13)] C mi_X5_search ms_X5_search lk_RX10_222 ea2 ka2 (r_X5_search _ _ _ er3) ⟨Nat.le_of_ble_eq_true rfl, Nat.le_of_ble_eq_true rfl⟩ ⟨Nat.le_of_ble_eq_true rfl, Nat.le_of_ble_eq_true rfl⟩ rfl rfl (by simp [va_rf_cat, cat_i, cat_l]) dX10_cheapestGoal_17 ?_
  show fh_V X rm_X10_cheapestGoal 7 (sz, 0, 0) K M4 _ _ []
  refine fv_iconst (v := -1) C (by decide) dX10_cheapestGoal_20 ?_
  refine fv_istore_n (i := 3) (lv' := [(3, .int ((-1))), (0, va_rf (some t)), (1, va_rf (p1)), (2, .int p2)]) C rfl (by decide) (by first | rfl | simp [va_rf_cat]) dX10_cheapestGoal_21 ?_
  refine fv_ldc2 C kl_RX10_230 dX10_cheapestGoal_22 ?_
  refine fv_lstore (i := 4) (lv' := [(4, .long (9223372036854775807)), (3, .int ((-1))), (0, va_rf (some t)), (1, va_rf (p1)), (2, .int p2)]) C (by decide) (by first | rfl | simp [va_rf_cat]) dX10_cheapestGoal_25 ?_
  refine fv_iconst (v := 0) C (by decide) dX10_cheapestGoal_27 ?_
  refine fv_istore (i := 6) (lv' := [(6, .int 0), (4, .long (9223372036854775807)), (3, .int ((-1))), (0, va_rf (some t)), (1, va_rf (p1)), (2, .int p2)]) C (by decide) (by first | rfl | simp [va_rf_cat]) dX10_cheapestGoal_28 ?_
  refine fv_sub (cc := ⟨#[]⟩) (own := "") [3, 5, 2, 1, 0] rfl ?_
  exact r_X10_cheapestGoal_L30 C E  4096 _ _ _ _ _ _ h
abbrev rm_X10_plan : Room := { frames := 6, cells := 0, slots := 0, locals := 146 }
set_option maxRecDepth 10000 in
theorem r_X10_plan_J87 {X : fh_X} {K : fh_K} {sz : Nat} {M' : fh_M} {r : Int32} (C : fh_C X 7 cX10_plan RX10) (E : fh_E X rm_X10_plan (some .int) (some (.int r)) K M' sz) {rec28 : Nat → Int32 → Int32 → Int32 → fh_M → Option (Int32 × fh_M)} (hrec28 : ∀ (t : Nat) (v2 : Int32) (v3 : Int32) (v4 : Int32) (M : fh_M), rec28 t v2 v3 v4 M = some (r, M') → fh_V X rm_X10_plan 7 (sz, 0, 0) K M 28 [(0, va_rf (some t)), (2, .int v2), (3, .int v3), (4, .int v4)] []) (t : Nat) (v2 : Int32) (v3 : Int32) (v4 : Int32) (M : fh_M) (h : f_X10_plan_J87 K rec28 t v2 v3 v4 M = some (r, M')) : fh_V X rm_X10_plan 7 (sz, 0, 0) K M 87 [(0, va_rf (some t)), (2, .int v2), (3, .int v3), (4, .int v4)] [] := by
  unfold f_X10_plan_J87 at h
  refine fv_iinc (v := v4 + 1) (lv' := [(4, .int (v4 + 1)), (0, va_rf (some t)), (2, .int v2), (3, .int v3)]) C 3 rfl (by first | rfl | exact congrArg _ (by decide)) (by decide) (by first | rfl | simp [va_rf_cat]) dX10_plan_87 ?_
  refine fv_goto C 28 (by decide) dX10_plan_90 ?_
  refine fv_sub (cc := ⟨#[]⟩) (own := "") [1, 2, 3, 0] rfl ?_
  exact hrec28 _ _ _ _ _ h
set_option maxRecDepth 10000 in
theorem r_X10_plan_L28 {X : fh_X} {K : fh_K} {sz : Nat} {M' : fh_M} {r : Int32} (C : fh_C X 7 cX10_plan RX10) (E : fh_E X rm_X10_plan (some .int) (some (.int r)) K M' sz) : ∀ (n : Nat) (t : Nat) (v2 : Int32) (v3 : Int32) (v4 : Int32) (M : fh_M), f_X10_plan_L28 K n t v2 v3 v4 M = some (r, M') → fh_V X rm_X10_plan 7 (sz, 0, 0) K M 28 [(0, va_rf (some t)), (2, .int v2), (3, .int v3), (4, .int v4)] [] := by
  intro n
  induction n with
  | zero => intro t v2 v3 v4 M h; cases h
  | succ n ih =>
    intro t v2 v3 v4 M h
    unfold f_X10_plan_L28 at h
    refine fv_iload C 3 rfl dX10_plan_28 ?_
    refine fv_aload_n C 0 rfl rfl dX10_plan_30 ?_
    replace h := fo_s h
    obtain ⟨a6, ea6, ka6, h⟩ := h
    refine fv_getI C fl_RX10_82 ea6 ka6 dX10_plan_31 ?_
    refine fv_icmp_ge C 93 (by decide) dX10_plan_34 (fun c16 => ?_) (fun c16 => ?_)
    · replace h := itT c16 h
      refine fv_iload_n C 2 rfl rfl dX10_plan_93 ?_
      cases h
      exact fv_iret (z := (0, 0, 0)) (st := []) C E dX10_plan_94
    · replace h := itF c16 h
      refine fv_aload_n C 0 rfl rfl dX10_plan_37 ?_
      refine fv_getR C fl_RX10_29 ea6 ka6 dX10_plan_38 ?_
      refine fv_iload C 3 rfl dX10_plan_41 ?_
      replace h := fi_s h
      obtain ⟨a7, ea7, ka7, ia7, h⟩ := h
      refine fv_aald (t := 18) C 5 rfl (by decide) (fun _ => rfl) ea7 ka7 ia7 dX10_plan_43 ?_
      refine fv_astore (i := 5) (lv' := [(5, va_rf (M.2.2 a7 v4.toNatClampNeg)), (0, va_rf (some t)), (2, .int v2), (3, .int v3), (4, .int v4)]) C (by decide) (by first | rfl | simp [va_rf_cat]) dX10_plan_44 ?_
      refine fv_aload C 0 rfl dX10_plan_46 ?_
      replace h := bx h
      obtain ⟨r8, er8, h⟩ := h
      refine fv_callS [va_rf (M.2.2 a7 v4.toNatClampNeg)] C mi_X10_isPlanned lk_RX10_252 (r_X10_isPlanned _ _ _ er8) ⟨Nat.le_of_ble_eq_true rfl, Nat.le_of_ble_eq_true rfl⟩ ⟨Nat.le_of_ble_eq_true rfl, Nat.le_of_ble_eq_true rfl⟩ rfl rfl (by simp [va_rf_cat, cat_i, cat_l]) dX10_plan_48 ?_
      show fh_V X rm_X10_plan 7 (sz, 0, 0) K M _ _ [.int r8]
      refine fv_if_eq C 87 (by decide) dX10_plan_51 (fun c15 => ?_) (fun c15 => ?_)
      · replace h := itT c15 h
        refine fv_sub (cc := ⟨#[]⟩) (own := "") [1, 2, 3, 4] rfl ?_
        exact r_X10_plan_J87 C E ih _ _ _ _ _ h
      · replace h := itF c15 h
        refine fv_aload_n C 1 rfl rfl dX10_plan_54 ?_
        refine fv_aload C 0 rfl dX10_plan_55 ?_
        refine fv_iload_n C 2 rfl rfl dX10_plan_57 ?_
        replace h := fc2_s h
        obtain ⟨r9, M10, er9, h⟩ := h
        refine fv_callV [va_rf (M.2.2 a7 v4.toNatClampNeg), .int v2] C mi_X10_cheapestGoal ms_X10_cheapestGoal lk_RX10_256 ea6 ka6 (r_X10_cheapestGoal _ _ _ er9) ⟨Nat.le_of_ble_eq_true rfl, Nat.le_of_ble_eq_true rfl⟩ ⟨Nat.le_of_ble_eq_true rfl, Nat.le_of_ble_eq_true rfl⟩ rfl rfl (by simp [va_rf_cat, cat_i, cat_l]) dX10_plan_58 ?_
        show fh_V X rm_X10_plan 7 (sz, 0, 0) K M10 _ _ [.int r9]
        refine fv_istore (i := 6) (lv' := [(6, .int r9), (5, va_rf (M.2.2 a7 v4.toNatClampNeg)), (0, va_rf (some t)), (2, .int v2), (3, .int v3), (4, .int v4)]) C (by decide) (by first | rfl | simp [va_rf_cat]) dX10_plan_61 ?_
        refine fv_iload C 0 rfl dX10_plan_63 ?_
        refine fv_iconst (v := -1) C (by decide) dX10_plan_65 ?_
        refine fv_icmp_ne C 72 (by decide) dX10_plan_66 (fun c14 => ?_) (fun c14 => ?_)
        · replace h := itF c14 h
          refine fv_iload_n C 4 rfl rfl dX10_plan_72 ?_
          refine fv_aload_n C 2 rfl rfl dX10_plan_73 ?_
          refine fv_getR C fl_RX10_57 ea6 ka6 dX10_plan_74 ?_
          refine fv_iload C 0 rfl dX10_plan_77 ?_
          replace h := fo_s h
          obtain ⟨a11, ea11, ka11, h⟩ := h
          replace h := bx h
          obtain ⟨r12, er12, h⟩ := h
          refine fv_callV [.int r9] C mi_X5_bestTo ms_X5_bestTo lk_RX10_226 ea11 ka11 (r_X5_bestTo _ _ _ er12) ⟨Nat.le_of_ble_eq_true rfl, Nat.le_of_ble_eq_true rfl⟩ ⟨Nat.le_of_ble_eq_true rfl, Nat.le_of_ble_eq_true rfl⟩ rfl rfl (by simp [va_rf_cat, cat_i, cat_l]) dX10_plan_79 ?_
          show fh_V X rm_X10_plan 7 (sz, 0, 0) K M10 _ _ [.long (r12), .int v3]
          replace h := bx h
          obtain ⟨r13, er13, h⟩ := h
          refine fv_callS [.long (r12)] C mi_X5_priceOf lk_RX10_232 (r_X5_priceOf _ _ _ er13) ⟨Nat.le_of_ble_eq_true rfl, Nat.le_of_ble_eq_true rfl⟩ ⟨Nat.le_of_ble_eq_true rfl, Nat.le_of_ble_eq_true rfl⟩ rfl rfl (by simp [va_rf_cat, cat_i, cat_l]) dX10_plan_82 ?_
          show fh_V X rm_X10_plan 7 (sz, 0, 0) K M10 _ _ [.int r13, .int v3]
          refine fv_iadd C dX10_plan_85 ?_
          refine fv_istore_n (i := 3) (lv' := [(3, .int (v3 + r13)), (6, .int r9), (5, va_rf (M.2.2 a7 v4.toNatClampNeg)), (0, va_rf (some t)), (2, .int v2), (4, .int v4)]) C rfl (by decide) (by first | rfl | simp [va_rf_cat]) dX10_plan_86 ?_
          refine fv_sub (cc := ⟨#[]⟩) (own := "") [3, 4, 0, 5] rfl ?_
          exact r_X10_plan_J87 C E ih _ _ _ _ _ h
        · replace h := itT c14 h
          refine fv_bipush (v := -2) C (by decide) dX10_plan_69 ?_
          cases h
          exact fv_iret (z := (0, 0, 0)) (st := []) C E dX10_plan_71
set_option maxRecDepth 10000 in
theorem r_X10_plan (l : Launch) (D : fh_D) (A : Nat → Prop) {K : fh_K} {sz : Nat} {M : fh_M} {M' : fh_M} {r : Int32} {t : Nat} {p1 : Int32} (h : f_X10_plan K M t p1 = some (r, M')) : fh_Met l yX10_plan cX10_plan 7 (some .int) rm_X10_plan D K M sz A [va_rf (some t), .int p1] (some (.int r)) K M' sz := by
  refine fh_enter (by decide) (by simp [lg_sl, va_rf_cat, cat_i, cat_l]) (lv := [(0, va_rf (some t)), (1, .int p1)]) (by simp [lv_args, va_rf_cat, cat_i, cat_l]) ?_
  intro X C E hnm _ _ _
  replace C : fh_C X 7 cX10_plan RX10 := C
  unfold f_X10_plan at h
  refine fv_aload_n C 0 rfl rfl dX10_plan_0 ?_
  refine fv_iload_n C 1 rfl rfl dX10_plan_1 ?_
  replace h := fo_s h
  obtain ⟨a1, ea1, ka1, h⟩ := h
  replace h := bx h
  obtain ⟨r2, er2, h⟩ := h
  refine fv_callV [.int p1] C mi_X10_isYearToCome ms_X10_isYearToCome lk_RX10_155 ea1 ka1 (r_X10_isYearToCome _ _ _ er2) ⟨Nat.le_of_ble_eq_true rfl, Nat.le_of_ble_eq_true rfl⟩ ⟨Nat.le_of_ble_eq_true rfl, Nat.le_of_ble_eq_true rfl⟩ rfl rfl (by simp [va_rf_cat, cat_i, cat_l]) dX10_plan_2 ?_
  show fh_V X rm_X10_plan 7 (sz, 0, 0) K M _ _ [.int r2]
  refine fv_if_ne C 10 (by decide) dX10_plan_5 (fun c5 => ?_) (fun c5 => ?_)
  · replace h := itF c5 h
    refine fv_aload_n C 0 rfl rfl dX10_plan_10 ?_
    refine fv_getR C fl_RX10_43 ea1 ka1 dX10_plan_11 ?_
    refine fv_aload_n C 0 rfl rfl dX10_plan_14 ?_
    refine fv_getR C fl_RX10_36 ea1 ka1 dX10_plan_15 ?_
    refine fv_iload_n C 1 rfl rfl dX10_plan_18 ?_
    replace h := fo_s h
    obtain ⟨a3, ea3, ka3, h⟩ := h
    replace h := bx h
    obtain ⟨r4, er4, h⟩ := h
    refine fv_callV [va_rf (M.2.2 a1 4), .int p1] C mi_X3_makesOpenIn ms_X3_makesOpenIn lk_RX10_248 ea3 ka3 (r_X3_makesOpenIn _ _ _ er4) ⟨Nat.le_of_ble_eq_true rfl, Nat.le_of_ble_eq_true rfl⟩ ⟨Nat.le_of_ble_eq_true rfl, Nat.le_of_ble_eq_true rfl⟩ rfl rfl (by simp [va_rf_cat, cat_i, cat_l]) dX10_plan_19 ?_
    show fh_V X rm_X10_plan 7 (sz, 0, 0) K M _ _ [.int r4]
    refine fv_istore_n (i := 2) (lv' := [(2, .int r4), (0, va_rf (some t)), (1, .int p1)]) C rfl (by decide) (by first | rfl | simp [va_rf_cat]) dX10_plan_22 ?_
    refine fv_iconst (v := 0) C (by decide) dX10_plan_23 ?_
    refine fv_istore_n (i := 3) (lv' := [(3, .int 0), (2, .int r4), (0, va_rf (some t)), (1, .int p1)]) C rfl (by decide) (by first | rfl | simp [va_rf_cat]) dX10_plan_24 ?_
    refine fv_iconst (v := 0) C (by decide) dX10_plan_25 ?_
    refine fv_istore (i := 4) (lv' := [(4, .int 0), (3, .int 0), (2, .int r4), (0, va_rf (some t)), (1, .int p1)]) C (by decide) (by first | rfl | simp [va_rf_cat]) dX10_plan_26 ?_
    refine fv_sub (cc := ⟨#[]⟩) (own := "") [3, 2, 1, 0] rfl ?_
    exact r_X10_plan_L28 C E  4096 _ _ _ _ _ h
  · replace h := itT c5 h
    refine fv_iconst (v := -1) C (by decide) dX10_plan_8 ?_
    cases h
    exact fv_iret (z := (0, 0, 0)) (st := []) C E dX10_plan_9
abbrev rm_X10_goal : Room := { frames := 6, cells := 0, slots := 0, locals := 146 }
set_option maxRecDepth 10000 in
theorem r_X10_goal (l : Launch) (D : fh_D) (A : Nat → Prop) {K : fh_K} {sz : Nat} {M : fh_M} {M' : fh_M} {r : Int32} {t : Nat} {p1 : Int32} {p2 : Int32} (h : f_X10_goal K M t p1 p2 = some (r, M')) : fh_Met l yX10_goal cX10_goal 4 (some .int) rm_X10_goal D K M sz A [va_rf (some t), .int p1, .int p2] (some (.int r)) K M' sz := by
  refine fh_enter (by decide) (by simp [lg_sl, va_rf_cat, cat_i, cat_l]) (lv := [(0, va_rf (some t)), (1, .int p1), (2, .int p2)]) (by simp [lv_args, va_rf_cat, cat_i, cat_l]) ?_
  intro X C E hnm _ _ _
  replace C : fh_C X 4 cX10_goal RX10 := C
  unfold f_X10_goal at h
  refine fv_aload_n C 0 rfl rfl dX10_goal_0 ?_
  refine fv_iload_n C 2 rfl rfl dX10_goal_1 ?_
  replace h := fo_s h
  obtain ⟨a1, ea1, ka1, h⟩ := h
  replace h := bx h
  obtain ⟨r2, er2, h⟩ := h
  refine fv_callV [.int p2] C mi_X10_fileAt ms_X10_fileAt lk_RX10_124 ea1 ka1 (r_X10_fileAt _ _ _ er2) ⟨Nat.le_of_ble_eq_true rfl, Nat.le_of_ble_eq_true rfl⟩ ⟨Nat.le_of_ble_eq_true rfl, Nat.le_of_ble_eq_true rfl⟩ rfl rfl (by simp [va_rf_cat, cat_i, cat_l]) dX10_goal_2 ?_
  show fh_V X rm_X10_goal 4 (sz, 0, 0) K M _ _ [va_rf (r2)]
  refine fv_astore_n (i := 3) (lv' := [(3, va_rf (r2)), (0, va_rf (some t)), (1, .int p1), (2, .int p2)]) C rfl (by decide) (by first | rfl | simp [va_rf_cat]) dX10_goal_5 ?_
  refine fv_aload_n C 1 rfl rfl dX10_goal_6 ?_
  refine fv_iload_n C 2 rfl rfl dX10_goal_7 ?_
  replace h := bx h
  obtain ⟨r3, er3, h⟩ := h
  refine fv_callV [.int p1] C mi_X10_isYearToCome ms_X10_isYearToCome lk_RX10_155 ea1 ka1 (r_X10_isYearToCome _ _ _ er3) ⟨Nat.le_of_ble_eq_true rfl, Nat.le_of_ble_eq_true rfl⟩ ⟨Nat.le_of_ble_eq_true rfl, Nat.le_of_ble_eq_true rfl⟩ rfl rfl (by simp [va_rf_cat, cat_i, cat_l]) dX10_goal_8 ?_
  show fh_V X rm_X10_goal 4 (sz, 0, 0) K M _ _ [.int r3]
  refine fv_if_eq C 21 (by decide) dX10_goal_11 (fun c10 => ?_) (fun c10 => ?_)
  · replace h := itT c10 h
    refine fv_iconst (v := -1) C (by decide) dX10_goal_21 ?_
    cases h
    exact fv_iret (z := (0, 0, 0)) (st := []) C E dX10_goal_22
  · replace h := itF c10 h
    refine fv_aload_n C 0 rfl rfl dX10_goal_14 ?_
    replace h := bx h
    obtain ⟨r4, er4, h⟩ := h
    refine fv_callS [va_rf (r2)] C mi_X10_isPlanned lk_RX10_252 (r_X10_isPlanned _ _ _ er4) ⟨Nat.le_of_ble_eq_true rfl, Nat.le_of_ble_eq_true rfl⟩ ⟨Nat.le_of_ble_eq_true rfl, Nat.le_of_ble_eq_true rfl⟩ rfl rfl (by simp [va_rf_cat, cat_i, cat_l]) dX10_goal_15 ?_
    show fh_V X rm_X10_goal 4 (sz, 0, 0) K M _ _ [.int r4]
    refine fv_if_ne C 23 (by decide) dX10_goal_18 (fun c9 => ?_) (fun c9 => ?_)
    · replace h := itF c9 h
      refine fv_aload_n C 1 rfl rfl dX10_goal_23 ?_
      refine fv_aload_n C 0 rfl rfl dX10_goal_24 ?_
      refine fv_aload_n C 1 rfl rfl dX10_goal_25 ?_
      refine fv_getR C fl_RX10_43 ea1 ka1 dX10_goal_26 ?_
      refine fv_aload_n C 1 rfl rfl dX10_goal_29 ?_
      refine fv_getR C fl_RX10_36 ea1 ka1 dX10_goal_30 ?_
      refine fv_iload_n C 2 rfl rfl dX10_goal_33 ?_
      replace h := fo_s h
      obtain ⟨a5, ea5, ka5, h⟩ := h
      replace h := bx h
      obtain ⟨r6, er6, h⟩ := h
      refine fv_callV [va_rf (M.2.2 a1 4), .int p1] C mi_X3_makesOpenIn ms_X3_makesOpenIn lk_RX10_248 ea5 ka5 (r_X3_makesOpenIn _ _ _ er6) ⟨Nat.le_of_ble_eq_true rfl, Nat.le_of_ble_eq_true rfl⟩ ⟨Nat.le_of_ble_eq_true rfl, Nat.le_of_ble_eq_true rfl⟩ rfl rfl (by simp [va_rf_cat, cat_i, cat_l]) dX10_goal_34 ?_
      show fh_V X rm_X10_goal 4 (sz, 0, 0) K M _ _ [.int r6, va_rf (r2), va_rf (some t)]
      replace h := fc2_s h
      obtain ⟨r7, M8, er7, h⟩ := h
      refine fv_callV [va_rf (r2), .int r6] C mi_X10_cheapestGoal ms_X10_cheapestGoal lk_RX10_256 ea1 ka1 (r_X10_cheapestGoal _ _ _ er7) ⟨Nat.le_of_ble_eq_true rfl, Nat.le_of_ble_eq_true rfl⟩ ⟨Nat.le_of_ble_eq_true rfl, Nat.le_of_ble_eq_true rfl⟩ rfl rfl (by simp [va_rf_cat, cat_i, cat_l]) dX10_goal_37 ?_
      show fh_V X rm_X10_goal 4 (sz, 0, 0) K M8 _ _ [.int r7]
      cases h
      exact fv_iret (z := (0, 0, 0)) (st := []) C E dX10_goal_40
    · replace h := itT c9 h
      refine fv_iconst (v := -1) C (by decide) dX10_goal_21 ?_
      cases h
      exact fv_iret (z := (0, 0, 0)) (st := []) C E dX10_goal_22
abbrev rm_X10_byteAsked : Room := { frames := 0, cells := 0, slots := 0, locals := 0 }
set_option maxRecDepth 10000 in
theorem r_X10_byteAsked (l : Launch) (D : fh_D) (A : Nat → Prop) {K : fh_K} {sz : Nat} {M : fh_M} {r : Int32} {p0 : Option Nat} {p1 : Int32} (h : f_X10_byteAsked K M p0 p1 = some r) : fh_Met l yX10_byteAsked cX10_byteAsked 2 (some .int) rm_X10_byteAsked D K M sz A [va_rf p0, .int p1] (some (.int r)) K M sz := by
  refine fh_enter (by decide) (by simp [lg_sl, va_rf_cat, cat_i, cat_l]) (lv := [(0, va_rf p0), (1, .int p1)]) (by simp [lv_args, va_rf_cat, cat_i, cat_l]) ?_
  intro X C E hnm _ _ _
  replace C : fh_C X 2 cX10_byteAsked RX10 := C
  unfold f_X10_byteAsked at h
  refine fv_iload_n C 1 rfl rfl dX10_byteAsked_0 ?_
  refine fv_bipush (v := 100) C (by decide) dX10_byteAsked_1 ?_
  refine fv_icmp_lt C 15 (by decide) dX10_byteAsked_3 (fun c4 => ?_) (fun c4 => ?_)
  · replace h := itT c4 h
    refine fv_iconst (v := -1) C (by decide) dX10_byteAsked_15 ?_
    cases h
    exact fv_iret (z := (0, 0, 0)) (st := []) C E dX10_byteAsked_16
  · replace h := itF c4 h
    refine fv_iload_n C 1 rfl rfl dX10_byteAsked_6 ?_
    refine fv_bipush (v := 100) C (by decide) dX10_byteAsked_7 ?_
    refine fv_isub C dX10_byteAsked_9 ?_
    refine fv_aload_n C 0 rfl rfl dX10_byteAsked_10 ?_
    replace h := fa_s h
    obtain ⟨a1, ea1, ka1, h⟩ := h
    refine fv_alen C 0 (by decide) (fun _ => rfl) ea1 ka1 dX10_byteAsked_11 ?_
    refine fv_icmp_lt C 17 (by decide) dX10_byteAsked_12 (fun c3 => ?_) (fun c3 => ?_)
    · replace h := itT c3 h
      refine fv_aload_n C 0 rfl rfl dX10_byteAsked_17 ?_
      refine fv_iload_n C 1 rfl rfl dX10_byteAsked_18 ?_
      refine fv_bipush (v := 100) C (by decide) dX10_byteAsked_19 ?_
      refine fv_isub C dX10_byteAsked_21 ?_
      replace h := fi_s h
      obtain ⟨a2, ea2, ka2, ia2, h⟩ := h
      refine fv_iald C ea2 ka2 ia2 dX10_byteAsked_22 ?_
      cases h
      exact fv_iret (z := (0, 0, 0)) (st := []) C E dX10_byteAsked_23
    · replace h := itF c3 h
      refine fv_iconst (v := -1) C (by decide) dX10_byteAsked_15 ?_
      cases h
      exact fv_iret (z := (0, 0, 0)) (st := []) C E dX10_byteAsked_16
abbrev rm_X10_look : Room := { frames := 1, cells := 0, slots := 0, locals := 21 }
set_option maxRecDepth 10000 in
theorem r_X10_look (l : Launch) (D : fh_D) (A : Nat → Prop) {K : fh_K} {sz : Nat} {M : fh_M} {r : Int32} {t : Nat} {p1 : Int32} {p2 : Int32} (h : f_X10_look K M t p1 p2 = some r) : fh_Met l yX10_look cX10_look 4 (some .int) rm_X10_look D K M sz A [va_rf (some t), .int p1, .int p2] (some (.int r)) K M sz := by
  refine fh_enter (by decide) (by simp [lg_sl, va_rf_cat, cat_i, cat_l]) (lv := [(0, va_rf (some t)), (1, .int p1), (2, .int p2)]) (by simp [lv_args, va_rf_cat, cat_i, cat_l]) ?_
  intro X C E hnm _ _ _
  replace C : fh_C X 4 cX10_look RX10 := C
  unfold f_X10_look at h
  refine fv_aload_n C 0 rfl rfl dX10_look_0 ?_
  refine fv_iload_n C 1 rfl rfl dX10_look_1 ?_
  replace h := fo_s h
  obtain ⟨a1, ea1, ka1, h⟩ := h
  replace h := bx h
  obtain ⟨r2, er2, h⟩ := h
  refine fv_callV [.int p1] C mi_X10_fileAt ms_X10_fileAt lk_RX10_124 ea1 ka1 (r_X10_fileAt _ _ _ er2) ⟨Nat.le_of_ble_eq_true rfl, Nat.le_of_ble_eq_true rfl⟩ ⟨Nat.le_of_ble_eq_true rfl, Nat.le_of_ble_eq_true rfl⟩ rfl rfl (by simp [va_rf_cat, cat_i, cat_l]) dX10_look_2 ?_
  show fh_V X rm_X10_look 4 (sz, 0, 0) K M _ _ [va_rf (r2)]
  refine fv_astore_n (i := 3) (lv' := [(3, va_rf (r2)), (0, va_rf (some t)), (1, .int p1), (2, .int p2)]) C rfl (by decide) (by first | rfl | simp [va_rf_cat]) dX10_look_5 ?_
  refine fv_aload_n C 0 rfl rfl dX10_look_6 ?_
  refine fv_ifnonnull C 12 (by decide) dX10_look_7 (fun c18 => ?_) (fun c18 => ?_)
  · replace h := itF c18 h
    refine fv_iload_n C 3 rfl rfl dX10_look_12 ?_
    rcases Classical.em (p2 = 0) with c3 | c3
    · replace h := itT c3 h
      refine fv_tsIn (off := 39) C 52 (by rw [c3]; decide) (by rw [c3]; decide) (by rw [c3]; decide) (by decide) dX10_look_13 ?_
      refine fv_aload_n C 0 rfl rfl dX10_look_52 ?_
      replace h := fo_s h
      obtain ⟨a4, ea4, ka4, h⟩ := h
      refine fv_getR C fl_RX10_158 ea4 ka4 dX10_look_53 ?_
      replace h := fa_s h
      obtain ⟨a5, ea5, ka5, h⟩ := h
      refine fv_alen C 0 (by decide) (fun _ => rfl) ea5 ka5 dX10_look_56 ?_
      cases h
      exact fv_iret (z := (0, 0, 0)) (st := []) C E dX10_look_57
    replace h := itF c3 h
    rcases Classical.em (p2 = 1) with c6 | c6
    · replace h := itT c6 h
      refine fv_tsIn (off := 45) C 58 (by rw [c6]; decide) (by rw [c6]; decide) (by rw [c6]; decide) (by decide) dX10_look_13 ?_
      refine fv_aload_n C 0 rfl rfl dX10_look_58 ?_
      replace h := fo_s h
      obtain ⟨a7, ea7, ka7, h⟩ := h
      refine fv_getI C fl_RX10_260 ea7 ka7 dX10_look_59 ?_
      cases h
      exact fv_iret (z := (0, 0, 0)) (st := []) C E dX10_look_62
    replace h := itF c6 h
    rcases Classical.em (p2 = 2) with c8 | c8
    · replace h := itT c8 h
      refine fv_tsIn (off := 50) C 63 (by rw [c8]; decide) (by rw [c8]; decide) (by rw [c8]; decide) (by decide) dX10_look_13 ?_
      refine fv_aload_n C 0 rfl rfl dX10_look_63 ?_
      replace h := fo_s h
      obtain ⟨a9, ea9, ka9, h⟩ := h
      refine fv_getI C fl_RX10_263 ea9 ka9 dX10_look_64 ?_
      cases h
      exact fv_iret (z := (0, 0, 0)) (st := []) C E dX10_look_67
    replace h := itF c8 h
    rcases Classical.em (p2 = 3) with c10 | c10
    · replace h := itT c10 h
      refine fv_tsIn (off := 55) C 68 (by rw [c10]; decide) (by rw [c10]; decide) (by rw [c10]; decide) (by decide) dX10_look_13 ?_
      refine fv_aload_n C 0 rfl rfl dX10_look_68 ?_
      replace h := fo_s h
      obtain ⟨a11, ea11, ka11, h⟩ := h
      refine fv_getI C fl_RX10_128 ea11 ka11 dX10_look_69 ?_
      cases h
      exact fv_iret (z := (0, 0, 0)) (st := []) C E dX10_look_72
    replace h := itF c10 h
    rcases Classical.em (p2 = 4) with c12 | c12
    · replace h := itT c12 h
      refine fv_tsIn (off := 60) C 73 (by rw [c12]; decide) (by rw [c12]; decide) (by rw [c12]; decide) (by decide) dX10_look_13 ?_
      refine fv_aload_n C 0 rfl rfl dX10_look_73 ?_
      replace h := fo_s h
      obtain ⟨a13, ea13, ka13, h⟩ := h
      refine fv_getI C fl_RX10_264 ea13 ka13 dX10_look_74 ?_
      cases h
      exact fv_iret (z := (0, 0, 0)) (st := []) C E dX10_look_77
    replace h := itF c12 h
    rcases Classical.em (p2 = 5) with c14 | c14
    · replace h := itT c14 h
      refine fv_tsIn (off := 65) C 78 (by rw [c14]; decide) (by rw [c14]; decide) (by rw [c14]; decide) (by decide) dX10_look_13 ?_
      refine fv_aload_n C 0 rfl rfl dX10_look_78 ?_
      replace h := fo_s h
      obtain ⟨a15, ea15, ka15, h⟩ := h
      refine fv_getI C fl_RX10_209 ea15 ka15 dX10_look_79 ?_
      cases h
      exact fv_iret (z := (0, 0, 0)) (st := []) C E dX10_look_82
    replace h := itF c14 h
    refine fv_tsOut C 83 (by have := lv_neT c3 (show (0 : Int32).toInt = 0 by decide); have := lv_neT c6 (show (1 : Int32).toInt = 1 by decide); have := lv_neT c8 (show (2 : Int32).toInt = 2 by decide); have := lv_neT c10 (show (3 : Int32).toInt = 3 by decide); have := lv_neT c12 (show (4 : Int32).toInt = 4 by decide); have := lv_neT c14 (show (5 : Int32).toInt = 5 by decide); omega) (by decide) dX10_look_13 ?_
    refine fv_aload_n C 0 rfl rfl dX10_look_83 ?_
    replace h := fo_s h
    obtain ⟨a16, ea16, ka16, h⟩ := h
    refine fv_getR C fl_RX10_158 ea16 ka16 dX10_look_84 ?_
    refine fv_iload_n C 3 rfl rfl dX10_look_87 ?_
    replace h := bx h
    obtain ⟨r17, er17, h⟩ := h
    refine fv_callS [va_rf (M.2.2 a16 0), .int p2] C mi_X10_byteAsked lk_RX10_265 (r_X10_byteAsked _ _ _ er17) ⟨Nat.le_of_ble_eq_true rfl, Nat.le_of_ble_eq_true rfl⟩ ⟨Nat.le_of_ble_eq_true rfl, Nat.le_of_ble_eq_true rfl⟩ rfl rfl (by simp [va_rf_cat, cat_i, cat_l]) dX10_look_88 ?_
    show fh_V X rm_X10_look 4 (sz, 0, 0) K M _ _ [.int r17]
    cases h
    exact fv_iret (z := (0, 0, 0)) (st := []) C E dX10_look_91
  · replace h := itT c18 h
    refine fv_iconst (v := -1) C (by decide) dX10_look_10 ?_
    cases h
    exact fv_iret (z := (0, 0, 0)) (st := []) C E dX10_look_11
abbrev rm_X10_filesWithoutMake : Room := { frames := 2, cells := 0, slots := 0, locals := 43 }
set_option maxRecDepth 10000 in
theorem r_X10_filesWithoutMake_J24 {X : fh_X} {K : fh_K} {sz : Nat} {M : fh_M} {r : Int32} (C : fh_C X 3 cX10_filesWithoutMake RX10) (E : fh_E X rm_X10_filesWithoutMake (some .int) (some (.int r)) K M sz) {rec4 : Nat → Int32 → Int32 → Option (Int32)} (hrec4 : ∀ (t : Nat) (v1 : Int32) (v2 : Int32), rec4 t v1 v2 = some r → fh_V X rm_X10_filesWithoutMake 3 (sz, 0, 0) K M 4 [(0, va_rf (some t)), (1, .int v1), (2, .int v2)] []) (t : Nat) (v1 : Int32) (v2 : Int32) (h : f_X10_filesWithoutMake_J24 K M rec4 t v1 v2 = some r) : fh_V X rm_X10_filesWithoutMake 3 (sz, 0, 0) K M 24 [(0, va_rf (some t)), (1, .int v1), (2, .int v2)] [] := by
  unfold f_X10_filesWithoutMake_J24 at h
  refine fv_iinc (v := v2 + 1) (lv' := [(2, .int (v2 + 1)), (0, va_rf (some t)), (1, .int v1)]) C 2 rfl (by first | rfl | exact congrArg _ (by decide)) (by decide) (by first | rfl | simp [va_rf_cat]) dX10_filesWithoutMake_24 ?_
  refine fv_goto C 4 (by decide) dX10_filesWithoutMake_27 ?_
  refine fv_sub (cc := ⟨#[]⟩) (own := "") [1, 2, 0] rfl ?_
  exact hrec4 _ _ _ h
set_option maxRecDepth 10000 in
theorem r_X10_filesWithoutMake_L4 {X : fh_X} {K : fh_K} {sz : Nat} {M : fh_M} {r : Int32} (C : fh_C X 3 cX10_filesWithoutMake RX10) (E : fh_E X rm_X10_filesWithoutMake (some .int) (some (.int r)) K M sz) : ∀ (n : Nat) (t : Nat) (v1 : Int32) (v2 : Int32), f_X10_filesWithoutMake_L4 K M n t v1 v2 = some r → fh_V X rm_X10_filesWithoutMake 3 (sz, 0, 0) K M 4 [(0, va_rf (some t)), (1, .int v1), (2, .int v2)] [] := by
  intro n
  induction n with
  | zero => intro t v1 v2 h; cases h
  | succ n ih =>
    intro t v1 v2 h
    unfold f_X10_filesWithoutMake_L4 at h
    refine fv_iload_n C 2 rfl rfl dX10_filesWithoutMake_4 ?_
    refine fv_aload_n C 0 rfl rfl dX10_filesWithoutMake_5 ?_
    replace h := fo_s h
    obtain ⟨a1, ea1, ka1, h⟩ := h
    refine fv_getI C fl_RX10_82 ea1 ka1 dX10_filesWithoutMake_6 ?_
    refine fv_icmp_ge C 30 (by decide) dX10_filesWithoutMake_9 (fun c4 => ?_) (fun c4 => ?_)
    · replace h := itT c4 h
      refine fv_iload_n C 1 rfl rfl dX10_filesWithoutMake_30 ?_
      cases h
      exact fv_iret (z := (0, 0, 0)) (st := []) C E dX10_filesWithoutMake_31
    · replace h := itF c4 h
      refine fv_aload_n C 0 rfl rfl dX10_filesWithoutMake_12 ?_
      refine fv_iload_n C 2 rfl rfl dX10_filesWithoutMake_13 ?_
      replace h := bx h
      obtain ⟨r2, er2, h⟩ := h
      refine fv_callV [.int v2] C mi_X10_know ms_X10_know lk_RX10_308 ea1 ka1 (r_X10_know _ _ _ er2) ⟨Nat.le_of_ble_eq_true rfl, Nat.le_of_ble_eq_true rfl⟩ ⟨Nat.le_of_ble_eq_true rfl, Nat.le_of_ble_eq_true rfl⟩ rfl rfl (by simp [va_rf_cat, cat_i, cat_l]) dX10_filesWithoutMake_14 ?_
      show fh_V X rm_X10_filesWithoutMake 3 (sz, 0, 0) K M _ _ [.int r2]
      refine fv_iconst (v := -1) C (by decide) dX10_filesWithoutMake_17 ?_
      refine fv_icmp_ne C 24 (by decide) dX10_filesWithoutMake_18 (fun c3 => ?_) (fun c3 => ?_)
      · replace h := itF c3 h
        refine fv_sub (cc := ⟨#[]⟩) (own := "") [0, 1, 2] rfl ?_
        exact r_X10_filesWithoutMake_J24 C E ih _ _ _ h
      · replace h := itT c3 h
        refine fv_iinc (v := v1 + 1) (lv' := [(1, .int (v1 + 1)), (0, va_rf (some t)), (2, .int v2)]) C 1 rfl (by first | rfl | exact congrArg _ (by decide)) (by decide) (by first | rfl | simp [va_rf_cat]) dX10_filesWithoutMake_21 ?_
        refine fv_sub (cc := ⟨#[]⟩) (own := "") [1, 0, 2] rfl ?_
        exact r_X10_filesWithoutMake_J24 C E ih _ _ _ h
set_option maxRecDepth 10000 in
theorem r_X10_filesWithoutMake (l : Launch) (D : fh_D) (A : Nat → Prop) {K : fh_K} {sz : Nat} {M : fh_M} {r : Int32} {t : Nat} (h : f_X10_filesWithoutMake K M t = some r) : fh_Met l yX10_filesWithoutMake cX10_filesWithoutMake 3 (some .int) rm_X10_filesWithoutMake D K M sz A [va_rf (some t)] (some (.int r)) K M sz := by
  refine fh_enter (by decide) (by simp [lg_sl, va_rf_cat, cat_i, cat_l]) (lv := [(0, va_rf (some t))]) (by simp [lv_args, va_rf_cat, cat_i, cat_l]) ?_
  intro X C E hnm _ _ _
  replace C : fh_C X 3 cX10_filesWithoutMake RX10 := C
  unfold f_X10_filesWithoutMake at h
  refine fv_iconst (v := 0) C (by decide) dX10_filesWithoutMake_0 ?_
  refine fv_istore_n (i := 1) (lv' := [(1, .int 0), (0, va_rf (some t))]) C rfl (by decide) (by first | rfl | simp [va_rf_cat]) dX10_filesWithoutMake_1 ?_
  refine fv_iconst (v := 0) C (by decide) dX10_filesWithoutMake_2 ?_
  refine fv_istore_n (i := 2) (lv' := [(2, .int 0), (1, .int 0), (0, va_rf (some t))]) C rfl (by decide) (by first | rfl | simp [va_rf_cat]) dX10_filesWithoutMake_3 ?_
  refine fv_sub (cc := ⟨#[]⟩) (own := "") [2, 1, 0] rfl ?_
  exact r_X10_filesWithoutMake_L4 C E  4096 _ _ _ h
abbrev rm_X10_filesBeyondReading : Room := { frames := 4, cells := 0, slots := 0, locals := 113 }
set_option maxRecDepth 10000 in
theorem r_X10_filesBeyondReading_J54 {X : fh_X} {K : fh_K} {sz : Nat} {M' : fh_M} {r : Int32} (C : fh_C X 3 cX10_filesBeyondReading RX10) (E : fh_E X rm_X10_filesBeyondReading (some .int) (some (.int r)) K M' sz) {rec24 : Nat → Int32 → Int32 → fh_M → Option (Int32 × fh_M)} (hrec24 : ∀ (t : Nat) (v1 : Int32) (v2 : Int32) (M : fh_M), rec24 t v1 v2 M = some (r, M') → fh_V X rm_X10_filesBeyondReading 3 (sz, 0, 0) K M 24 [(0, va_rf (some t)), (1, .int v1), (2, .int v2)] []) (t : Nat) (v1 : Int32) (v2 : Int32) (M : fh_M) (h : f_X10_filesBeyondReading_J54 K rec24 t v1 v2 M = some (r, M')) : fh_V X rm_X10_filesBeyondReading 3 (sz, 0, 0) K M 54 [(0, va_rf (some t)), (1, .int v1), (2, .int v2)] [] := by
  unfold f_X10_filesBeyondReading_J54 at h
  refine fv_iinc (v := v2 + 1) (lv' := [(2, .int (v2 + 1)), (0, va_rf (some t)), (1, .int v1)]) C 2 rfl (by first | rfl | exact congrArg _ (by decide)) (by decide) (by first | rfl | simp [va_rf_cat]) dX10_filesBeyondReading_54 ?_
  refine fv_goto C 24 (by decide) dX10_filesBeyondReading_57 ?_
  refine fv_sub (cc := ⟨#[]⟩) (own := "") [1, 2, 0] rfl ?_
  exact hrec24 _ _ _ _ h
set_option maxRecDepth 10000 in
theorem r_X10_filesBeyondReading_L24 {X : fh_X} {K : fh_K} {sz : Nat} {M' : fh_M} {r : Int32} (C : fh_C X 3 cX10_filesBeyondReading RX10) (E : fh_E X rm_X10_filesBeyondReading (some .int) (some (.int r)) K M' sz) : ∀ (n : Nat) (t : Nat) (v1 : Int32) (v2 : Int32) (M : fh_M), f_X10_filesBeyondReading_L24 K n t v1 v2 M = some (r, M') → fh_V X rm_X10_filesBeyondReading 3 (sz, 0, 0) K M 24 [(0, va_rf (some t)), (1, .int v1), (2, .int v2)] [] := by
  intro n
  induction n with
  | zero => intro t v1 v2 M h; cases h
  | succ n ih =>
    intro t v1 v2 M h
    unfold f_X10_filesBeyondReading_L24 at h
    refine fv_iload_n C 2 rfl rfl dX10_filesBeyondReading_24 ?_
    refine fv_aload_n C 0 rfl rfl dX10_filesBeyondReading_25 ?_
    replace h := fo_s h
    obtain ⟨a5, ea5, ka5, h⟩ := h
    refine fv_getI C fl_RX10_82 ea5 ka5 dX10_filesBeyondReading_26 ?_
    refine fv_icmp_ge C 60 (by decide) dX10_filesBeyondReading_29 (fun c10 => ?_) (fun c10 => ?_)
    · replace h := itT c10 h
      refine fv_iload_n C 1 rfl rfl dX10_filesBeyondReading_60 ?_
      cases h
      exact fv_iret (z := (0, 0, 0)) (st := []) C E dX10_filesBeyondReading_61
    · replace h := itF c10 h
      refine fv_aload_n C 0 rfl rfl dX10_filesBeyondReading_32 ?_
      refine fv_getR C fl_RX10_64 ea5 ka5 dX10_filesBeyondReading_33 ?_
      refine fv_aload_n C 0 rfl rfl dX10_filesBeyondReading_36 ?_
      refine fv_iload_n C 2 rfl rfl dX10_filesBeyondReading_37 ?_
      replace h := bx h
      obtain ⟨r6, er6, h⟩ := h
      refine fv_callV [.int v2] C mi_X10_know ms_X10_know lk_RX10_308 ea5 ka5 (r_X10_know _ _ _ er6) ⟨Nat.le_of_ble_eq_true rfl, Nat.le_of_ble_eq_true rfl⟩ ⟨Nat.le_of_ble_eq_true rfl, Nat.le_of_ble_eq_true rfl⟩ rfl rfl (by simp [va_rf_cat, cat_i, cat_l]) dX10_filesBeyondReading_38 ?_
      show fh_V X rm_X10_filesBeyondReading 3 (sz, 0, 0) K M _ _ [.int r6, va_rf (M.2.2 a5 8)]
      replace h := fo_s h
      obtain ⟨a7, ea7, ka7, h⟩ := h
      replace h := bx h
      obtain ⟨r8, er8, h⟩ := h
      refine fv_callV [.int r6] C mi_X6_lastYearOf ms_X6_lastYearOf lk_RX10_244 ea7 ka7 (r_X6_lastYearOf _ _ _ er8) ⟨Nat.le_of_ble_eq_true rfl, Nat.le_of_ble_eq_true rfl⟩ ⟨Nat.le_of_ble_eq_true rfl, Nat.le_of_ble_eq_true rfl⟩ rfl rfl (by simp [va_rf_cat, cat_i, cat_l]) dX10_filesBeyondReading_41 ?_
      show fh_V X rm_X10_filesBeyondReading 3 (sz, 0, 0) K M _ _ [.int r8]
      refine fv_aload_n C 0 rfl rfl dX10_filesBeyondReading_44 ?_
      refine fv_getI C fl_RX10_85 ea5 ka5 dX10_filesBeyondReading_45 ?_
      refine fv_icmp_ge C 54 (by decide) dX10_filesBeyondReading_48 (fun c9 => ?_) (fun c9 => ?_)
      · replace h := itT c9 h
        refine fv_sub (cc := ⟨#[]⟩) (own := "") [0, 1, 2] rfl ?_
        exact r_X10_filesBeyondReading_J54 C E ih _ _ _ _ h
      · replace h := itF c9 h
        refine fv_iinc (v := v1 + 1) (lv' := [(1, .int (v1 + 1)), (0, va_rf (some t)), (2, .int v2)]) C 1 rfl (by first | rfl | exact congrArg _ (by decide)) (by decide) (by first | rfl | simp [va_rf_cat]) dX10_filesBeyondReading_51 ?_
        refine fv_sub (cc := ⟨#[]⟩) (own := "") [1, 0, 2] rfl ?_
        exact r_X10_filesBeyondReading_J54 C E ih _ _ _ _ h
set_option maxRecDepth 10000 in
theorem r_X10_filesBeyondReading (l : Launch) (D : fh_D) (A : Nat → Prop) {K : fh_K} {sz : Nat} {M : fh_M} {M' : fh_M} {r : Int32} {t : Nat} (h : f_X10_filesBeyondReading K M t = some (r, M')) : fh_Met l yX10_filesBeyondReading cX10_filesBeyondReading 3 (some .int) rm_X10_filesBeyondReading D K M sz A [va_rf (some t)] (some (.int r)) K M' sz := by
  refine fh_enter (by decide) (by simp [lg_sl, va_rf_cat, cat_i, cat_l]) (lv := [(0, va_rf (some t))]) (by simp [lv_args, va_rf_cat, cat_i, cat_l]) ?_
  intro X C E hnm _ _ _
  replace C : fh_C X 3 cX10_filesBeyondReading RX10 := C
  unfold f_X10_filesBeyondReading at h
  refine fv_aload_n C 0 rfl rfl dX10_filesBeyondReading_0 ?_
  replace h := fo_s h
  obtain ⟨a1, ea1, ka1, h⟩ := h
  refine fv_getR C fl_RX10_64 ea1 ka1 dX10_filesBeyondReading_1 ?_
  refine fv_aload_n C 0 rfl rfl dX10_filesBeyondReading_4 ?_
  refine fv_getR C fl_RX10_43 ea1 ka1 dX10_filesBeyondReading_5 ?_
  refine fv_aload_n C 0 rfl rfl dX10_filesBeyondReading_8 ?_
  refine fv_getR C fl_RX10_50 ea1 ka1 dX10_filesBeyondReading_9 ?_
  refine fv_aload_n C 0 rfl rfl dX10_filesBeyondReading_12 ?_
  refine fv_getR C fl_RX10_36 ea1 ka1 dX10_filesBeyondReading_13 ?_
  refine fv_iconst (v := 0) C (by decide) dX10_filesBeyondReading_16 ?_
  replace h := fo_s h
  obtain ⟨a2, ea2, ka2, h⟩ := h
  replace h := bx h
  obtain ⟨M4, er3, h⟩ := h
  refine fv_callV [va_rf (M.2.2 a1 5), va_rf (M.2.2 a1 6), va_rf (M.2.2 a1 4), .int 0] C mi_X6_measure ms_X6_measure lk_RX10_240 ea2 ka2 (r_X6_measure _ _ _ er3) ⟨Nat.le_of_ble_eq_true rfl, Nat.le_of_ble_eq_true rfl⟩ ⟨Nat.le_of_ble_eq_true rfl, Nat.le_of_ble_eq_true rfl⟩ rfl rfl (by simp [va_rf_cat, cat_i, cat_l]) dX10_filesBeyondReading_17 ?_
  show fh_V X rm_X10_filesBeyondReading 3 (sz, 0, 0) K M4 _ _ []
  refine fv_iconst (v := 0) C (by decide) dX10_filesBeyondReading_20 ?_
  refine fv_istore_n (i := 1) (lv' := [(1, .int 0), (0, va_rf (some t))]) C rfl (by decide) (by first | rfl | simp [va_rf_cat]) dX10_filesBeyondReading_21 ?_
  refine fv_iconst (v := 0) C (by decide) dX10_filesBeyondReading_22 ?_
  refine fv_istore_n (i := 2) (lv' := [(2, .int 0), (1, .int 0), (0, va_rf (some t))]) C rfl (by decide) (by first | rfl | simp [va_rf_cat]) dX10_filesBeyondReading_23 ?_
  refine fv_sub (cc := ⟨#[]⟩) (own := "") [2, 1, 0] rfl ?_
  exact r_X10_filesBeyondReading_L24 C E  4096 _ _ _ _ h
abbrev rm_X10_count : Room := { frames := 5, cells := 0, slots := 0, locals := 135 }
set_option maxRecDepth 10000 in
theorem r_X10_count (l : Launch) (D : fh_D) (A : Nat → Prop) {K : fh_K} {sz : Nat} {M : fh_M} {M' : fh_M} {r : Int32} {t : Nat} {p1 : Int32} (h : f_X10_count K M t p1 = some (r, M')) : fh_Met l yX10_count cX10_count 2 (some .int) rm_X10_count D K M sz A [va_rf (some t), .int p1] (some (.int r)) K M' sz := by
  refine fh_enter (by decide) (by simp [lg_sl, va_rf_cat, cat_i, cat_l]) (lv := [(0, va_rf (some t)), (1, .int p1)]) (by simp [lv_args, va_rf_cat, cat_i, cat_l]) ?_
  intro X C E hnm _ _ _
  replace C : fh_C X 2 cX10_count RX10 := C
  unfold f_X10_count at h
  refine fv_iload_n C 1 rfl rfl dX10_count_0 ?_
  rcases Classical.em (p1 = 0) with c1 | c1
  · replace h := itT c1 h
    refine fv_tsIn (off := 47) C 48 (by rw [c1]; decide) (by rw [c1]; decide) (by rw [c1]; decide) (by decide) dX10_count_1 ?_
    refine fv_aload_n C 0 rfl rfl dX10_count_48 ?_
    replace h := fo_s h
    obtain ⟨a2, ea2, ka2, h⟩ := h
    refine fv_getI C fl_RX10_78 ea2 ka2 dX10_count_49 ?_
    cases h
    exact fv_iret (z := (0, 0, 0)) (st := []) C E dX10_count_52
  replace h := itF c1 h
  rcases Classical.em (p1 = 1) with c3 | c3
  · replace h := itT c3 h
    refine fv_tsIn (off := 52) C 53 (by rw [c3]; decide) (by rw [c3]; decide) (by rw [c3]; decide) (by decide) dX10_count_1 ?_
    refine fv_aload_n C 0 rfl rfl dX10_count_53 ?_
    replace h := fo_s h
    obtain ⟨a4, ea4, ka4, h⟩ := h
    refine fv_getI C fl_RX10_82 ea4 ka4 dX10_count_54 ?_
    cases h
    exact fv_iret (z := (0, 0, 0)) (st := []) C E dX10_count_57
  replace h := itF c3 h
  rcases Classical.em (p1 = 2) with c5 | c5
  · replace h := itT c5 h
    refine fv_tsIn (off := 57) C 58 (by rw [c5]; decide) (by rw [c5]; decide) (by rw [c5]; decide) (by decide) dX10_count_1 ?_
    refine fv_aload_n C 0 rfl rfl dX10_count_58 ?_
    replace h := fo_s h
    obtain ⟨a6, ea6, ka6, h⟩ := h
    refine fv_getR C fl_RX10_43 ea6 ka6 dX10_count_59 ?_
    replace h := fo_s h
    obtain ⟨a7, ea7, ka7, h⟩ := h
    refine fv_getI C fl_RX10_269 ea7 ka7 dX10_count_62 ?_
    cases h
    exact fv_iret (z := (0, 0, 0)) (st := []) C E dX10_count_65
  replace h := itF c5 h
  rcases Classical.em (p1 = 3) with c8 | c8
  · replace h := itT c8 h
    refine fv_tsIn (off := 65) C 66 (by rw [c8]; decide) (by rw [c8]; decide) (by rw [c8]; decide) (by decide) dX10_count_1 ?_
    refine fv_aload_n C 0 rfl rfl dX10_count_66 ?_
    replace h := fo_s h
    obtain ⟨a9, ea9, ka9, h⟩ := h
    refine fv_getR C fl_RX10_50 ea9 ka9 dX10_count_67 ?_
    replace h := fo_s h
    obtain ⟨a10, ea10, ka10, h⟩ := h
    refine fv_getI C fl_RX10_270 ea10 ka10 dX10_count_70 ?_
    cases h
    exact fv_iret (z := (0, 0, 0)) (st := []) C E dX10_count_73
  replace h := itF c8 h
  rcases Classical.em (p1 = 4) with c11 | c11
  · replace h := itT c11 h
    refine fv_tsIn (off := 73) C 74 (by rw [c11]; decide) (by rw [c11]; decide) (by rw [c11]; decide) (by decide) dX10_count_1 ?_
    refine fv_aload_n C 0 rfl rfl dX10_count_74 ?_
    replace h := fo_s h
    obtain ⟨a12, ea12, ka12, h⟩ := h
    refine fv_getI C fl_RX10_85 ea12 ka12 dX10_count_75 ?_
    cases h
    exact fv_iret (z := (0, 0, 0)) (st := []) C E dX10_count_78
  replace h := itF c11 h
  rcases Classical.em (p1 = 5) with c13 | c13
  · replace h := itT c13 h
    refine fv_tsIn (off := 78) C 79 (by rw [c13]; decide) (by rw [c13]; decide) (by rw [c13]; decide) (by decide) dX10_count_1 ?_
    refine fv_aload_n C 0 rfl rfl dX10_count_79 ?_
    replace h := fo_s h
    obtain ⟨a14, ea14, ka14, h⟩ := h
    refine fv_getR C fl_RX10_14 ea14 ka14 dX10_count_80 ?_
    replace h := fo_s h
    obtain ⟨a15, ea15, ka15, h⟩ := h
    refine fv_getI C fl_RX10_99 ea15 ka15 dX10_count_83 ?_
    cases h
    exact fv_iret (z := (0, 0, 0)) (st := []) C E dX10_count_86
  replace h := itF c13 h
  rcases Classical.em (p1 = 6) with c16 | c16
  · replace h := itT c16 h
    refine fv_tsIn (off := 86) C 87 (by rw [c16]; decide) (by rw [c16]; decide) (by rw [c16]; decide) (by decide) dX10_count_1 ?_
    refine fv_aload_n C 0 rfl rfl dX10_count_87 ?_
    replace h := fo_s h
    obtain ⟨a17, ea17, ka17, h⟩ := h
    replace h := bx h
    obtain ⟨r18, er18, h⟩ := h
    refine fv_callV [] C mi_X10_filesWithoutMake ms_X10_filesWithoutMake lk_RX10_271 ea17 ka17 (r_X10_filesWithoutMake _ _ _ er18) ⟨Nat.le_of_ble_eq_true rfl, Nat.le_of_ble_eq_true rfl⟩ ⟨Nat.le_of_ble_eq_true rfl, Nat.le_of_ble_eq_true rfl⟩ rfl rfl (by simp [va_rf_cat, cat_i, cat_l]) dX10_count_88 ?_
    show fh_V X rm_X10_count 2 (sz, 0, 0) K M _ _ [.int r18]
    cases h
    exact fv_iret (z := (0, 0, 0)) (st := []) C E dX10_count_91
  replace h := itF c16 h
  rcases Classical.em (p1 = 7) with c19 | c19
  · replace h := itT c19 h
    refine fv_tsIn (off := 91) C 92 (by rw [c19]; decide) (by rw [c19]; decide) (by rw [c19]; decide) (by decide) dX10_count_1 ?_
    refine fv_aload_n C 0 rfl rfl dX10_count_92 ?_
    replace h := fo_s h
    obtain ⟨a20, ea20, ka20, h⟩ := h
    replace h := fc2_s h
    obtain ⟨r21, M22, er21, h⟩ := h
    refine fv_callV [] C mi_X10_filesBeyondReading ms_X10_filesBeyondReading lk_RX10_274 ea20 ka20 (r_X10_filesBeyondReading _ _ _ er21) ⟨Nat.le_of_ble_eq_true rfl, Nat.le_of_ble_eq_true rfl⟩ ⟨Nat.le_of_ble_eq_true rfl, Nat.le_of_ble_eq_true rfl⟩ rfl rfl (by simp [va_rf_cat, cat_i, cat_l]) dX10_count_93 ?_
    show fh_V X rm_X10_count 2 (sz, 0, 0) K M22 _ _ [.int r21]
    cases h
    exact fv_iret (z := (0, 0, 0)) (st := []) C E dX10_count_96
  replace h := itF c19 h
  refine fv_tsOut C 97 (by have := lv_neT c1 (show (0 : Int32).toInt = 0 by decide); have := lv_neT c3 (show (1 : Int32).toInt = 1 by decide); have := lv_neT c5 (show (2 : Int32).toInt = 2 by decide); have := lv_neT c8 (show (3 : Int32).toInt = 3 by decide); have := lv_neT c11 (show (4 : Int32).toInt = 4 by decide); have := lv_neT c13 (show (5 : Int32).toInt = 5 by decide); have := lv_neT c16 (show (6 : Int32).toInt = 6 by decide); have := lv_neT c19 (show (7 : Int32).toInt = 7 by decide); omega) (by decide) dX10_count_1 ?_
  refine fv_iconst (v := -1) C (by decide) dX10_count_97 ?_
  cases h
  exact fv_iret (z := (0, 0, 0)) (st := []) C E dX10_count_98
