def f_X11_init_L244 : Nat → Nat → Int32 → Nat → fh_K → fh_M → Option (Nat × fh_K × fh_M)
  | 0 => fun _ _ _ _ _ => none
  | n + 1 => fun t v1 sz K M =>
    if 8 ≤ v1 then
      some (sz, K, M)
    else
      fo K 11 (some t) fun a151 =>
        fi K 13 (M.2.2 a151 14) (v1) fun a152 =>
        fb (fh_si M a152 v1.toNatClampNeg (999)) fun M153 =>
        fi K 13 (M153.2.2 a151 15) (v1) fun a154 =>
        fb (fh_si M153 a154 v1.toNatClampNeg (999)) fun M155 =>
        f_X11_init_L244 n t (v1 + 1) sz K M155
def f_X11_init (sz : Nat) (K : fh_K) (M : fh_M) (t : Nat) : Option (Nat × fh_K × fh_M) :=
  fn (80) 80 fun N1 =>
    fb (fh_uk K sz (14, N1)) fun K2 =>
    fb (fh_clr M sz) fun M3 =>
    fo K2 11 (some t) fun a4 =>
    fb (fh_sr M3 a4 0 (some sz)) fun M5 =>
    fn (48) 48 fun N6 =>
    fb (fh_uk K2 (sz + 1) (13, N6)) fun K7 =>
    fb (fh_clr M5 (sz + 1)) fun M8 =>
    fo K7 11 (some t) fun a9 =>
    fb (fh_sr M8 a9 4 (some (sz + 1))) fun M10 =>
    fn (12) 12 fun N11 =>
    fb (fh_uk K7 (sz + 2) (13, N11)) fun K12 =>
    fb (fh_clr M10 (sz + 2)) fun M13 =>
    fo K12 11 (some t) fun a14 =>
    fb (fh_sr M13 a14 5 (some (sz + 2))) fun M15 =>
    fn (12) 12 fun N16 =>
    fb (fh_uk K12 (sz + 3) (13, N16)) fun K17 =>
    fb (fh_clr M15 (sz + 3)) fun M18 =>
    fo K17 11 (some t) fun a19 =>
    fb (fh_sr M18 a19 6 (some (sz + 3))) fun M20 =>
    fn (12) 12 fun N21 =>
    fb (fh_uk K17 (sz + 4) (15, N21)) fun K22 =>
    fb (fh_clr M20 (sz + 4)) fun M23 =>
    fo K22 11 (some t) fun a24 =>
    fb (fh_sr M23 a24 7 (some (sz + 4))) fun M25 =>
    fn (12) 12 fun N26 =>
    fb (fh_uk K22 (sz + 5) (13, N26)) fun K27 =>
    fb (fh_clr M25 (sz + 5)) fun M28 =>
    fo K27 11 (some t) fun a29 =>
    fb (fh_sr M28 a29 8 (some (sz + 5))) fun M30 =>
    fn (2400) 2400 fun N31 =>
    fb (fh_uk K27 (sz + 6) (13, N31)) fun K32 =>
    fb (fh_clr M30 (sz + 6)) fun M33 =>
    fo K32 11 (some t) fun a34 =>
    fb (fh_sr M33 a34 10 (some (sz + 6))) fun M35 =>
    fn (40) 40 fun N36 =>
    fb (fh_uk K32 (sz + 7) (13, N36)) fun K37 =>
    fb (fh_clr M35 (sz + 7)) fun M38 =>
    fo K37 11 (some t) fun a39 =>
    fb (fh_sr M38 a39 11 (some (sz + 7))) fun M40 =>
    fn (40) 40 fun N41 =>
    fb (fh_uk K37 (sz + 8) (13, N41)) fun K42 =>
    fb (fh_clr M40 (sz + 8)) fun M43 =>
    fo K42 11 (some t) fun a44 =>
    fb (fh_sr M43 a44 12 (some (sz + 8))) fun M45 =>
    fn (40) 40 fun N46 =>
    fb (fh_uk K42 (sz + 9) (13, N46)) fun K47 =>
    fb (fh_clr M45 (sz + 9)) fun M48 =>
    fo K47 11 (some t) fun a49 =>
    fb (fh_sr M48 a49 13 (some (sz + 9))) fun M50 =>
    fn (8) 8 fun N51 =>
    fb (fh_uk K47 (sz + 10) (13, N51)) fun K52 =>
    fb (fh_clr M50 (sz + 10)) fun M53 =>
    fo K52 11 (some t) fun a54 =>
    fb (fh_sr M53 a54 14 (some (sz + 10))) fun M55 =>
    fn (8) 8 fun N56 =>
    fb (fh_uk K52 (sz + 11) (13, N56)) fun K57 =>
    fb (fh_clr M55 (sz + 11)) fun M58 =>
    fo K57 11 (some t) fun a59 =>
    fb (fh_sr M58 a59 15 (some (sz + 11))) fun M60 =>
    fn (24) 24 fun N61 =>
    fb (fh_uk K57 (sz + 12) (13, N61)) fun K62 =>
    fb (fh_clr M60 (sz + 12)) fun M63 =>
    fo K62 11 (some t) fun a64 =>
    fb (fh_sr M63 a64 17 (some (sz + 12))) fun M65 =>
    fn (24) 24 fun N66 =>
    fb (fh_uk K62 (sz + 13) (13, N66)) fun K67 =>
    fb (fh_clr M65 (sz + 13)) fun M68 =>
    fo K67 11 (some t) fun a69 =>
    fb (fh_sr M68 a69 18 (some (sz + 13))) fun M70 =>
    fn (24) 24 fun N71 =>
    fb (fh_uk K67 (sz + 14) (13, N71)) fun K72 =>
    fb (fh_clr M70 (sz + 14)) fun M73 =>
    fo K72 11 (some t) fun a74 =>
    fb (fh_sr M73 a74 20 (some (sz + 14))) fun M75 =>
    fn (24) 24 fun N76 =>
    fb (fh_uk K72 (sz + 15) (13, N76)) fun K77 =>
    fb (fh_clr M75 (sz + 15)) fun M78 =>
    fo K77 11 (some t) fun a79 =>
    fb (fh_sr M78 a79 21 (some (sz + 15))) fun M80 =>
    fn (24) 24 fun N81 =>
    fb (fh_uk K77 (sz + 16) (13, N81)) fun K82 =>
    fb (fh_clr M80 (sz + 16)) fun M83 =>
    fo K82 11 (some t) fun a84 =>
    fb (fh_sr M83 a84 22 (some (sz + 16))) fun M85 =>
    fn (24) 24 fun N86 =>
    fb (fh_uk K82 (sz + 17) (13, N86)) fun K87 =>
    fb (fh_clr M85 (sz + 17)) fun M88 =>
    fo K87 11 (some t) fun a89 =>
    fb (fh_sr M88 a89 23 (some (sz + 17))) fun M90 =>
    fn (24) 24 fun N91 =>
    fb (fh_uk K87 (sz + 18) (13, N91)) fun K92 =>
    fb (fh_clr M90 (sz + 18)) fun M93 =>
    fo K92 11 (some t) fun a94 =>
    fb (fh_sr M93 a94 24 (some (sz + 18))) fun M95 =>
    fn (30) 30 fun N96 =>
    fb (fh_uk K92 (sz + 19) (13, N96)) fun K97 =>
    fb (fh_clr M95 (sz + 19)) fun M98 =>
    fo K97 11 (some t) fun a99 =>
    fb (fh_sr M98 a99 27 (some (sz + 19))) fun M100 =>
    fn (30) 30 fun N101 =>
    fb (fh_uk K97 (sz + 20) (13, N101)) fun K102 =>
    fb (fh_clr M100 (sz + 20)) fun M103 =>
    fo K102 11 (some t) fun a104 =>
    fb (fh_sr M103 a104 28 (some (sz + 20))) fun M105 =>
    fn (30) 30 fun N106 =>
    fb (fh_uk K102 (sz + 21) (13, N106)) fun K107 =>
    fb (fh_clr M105 (sz + 21)) fun M108 =>
    fo K107 11 (some t) fun a109 =>
    fb (fh_sr M108 a109 29 (some (sz + 21))) fun M110 =>
    fn (30) 30 fun N111 =>
    fb (fh_uk K107 (sz + 22) (13, N111)) fun K112 =>
    fb (fh_clr M110 (sz + 22)) fun M113 =>
    fo K112 11 (some t) fun a114 =>
    fb (fh_sr M113 a114 31 (some (sz + 22))) fun M115 =>
    fn (30) 30 fun N116 =>
    fb (fh_uk K112 (sz + 23) (13, N116)) fun K117 =>
    fb (fh_clr M115 (sz + 23)) fun M118 =>
    fo K117 11 (some t) fun a119 =>
    fb (fh_sr M118 a119 32 (some (sz + 23))) fun M120 =>
    fn (30) 30 fun N121 =>
    fb (fh_uk K117 (sz + 24) (13, N121)) fun K122 =>
    fb (fh_clr M120 (sz + 24)) fun M123 =>
    fo K122 11 (some t) fun a124 =>
    fb (fh_sr M123 a124 33 (some (sz + 24))) fun M125 =>
    fn (60) 60 fun N126 =>
    fb (fh_uk K122 (sz + 25) (13, N126)) fun K127 =>
    fb (fh_clr M125 (sz + 25)) fun M128 =>
    fo K127 11 (some t) fun a129 =>
    fb (fh_sr M128 a129 34 (some (sz + 25))) fun M130 =>
    fn (4) 4 fun N131 =>
    fb (fh_uk K127 (sz + 26) (13, N131)) fun K132 =>
    fb (fh_clr M130 (sz + 26)) fun M133 =>
    fo K132 11 (some t) fun a134 =>
    fb (fh_sr M133 a134 36 (some (sz + 26))) fun M135 =>
    fn (4) 4 fun N136 =>
    fb (fh_uk K132 (sz + 27) (13, N136)) fun K137 =>
    fb (fh_clr M135 (sz + 27)) fun M138 =>
    fo K137 11 (some t) fun a139 =>
    fb (fh_sr M138 a139 38 (some (sz + 27))) fun M140 =>
    fn (60) 60 fun N141 =>
    fb (fh_uk K137 (sz + 28) (13, N141)) fun K142 =>
    fb (fh_clr M140 (sz + 28)) fun M143 =>
    fo K142 11 (some t) fun a144 =>
    fb (fh_sr M143 a144 39 (some (sz + 28))) fun M145 =>
    fn (4) 4 fun N146 =>
    fb (fh_uk K142 (sz + 29) (13, N146)) fun K147 =>
    fb (fh_clr M145 (sz + 29)) fun M148 =>
    fo K147 11 (some t) fun a149 =>
    fb (fh_sr M148 a149 42 (some (sz + 29))) fun M150 =>
    f_X11_init_L244 4096 t (0) (sz + 30) K147 M150
def f_X11_lies (K : fh_K) (M : fh_M) (p0 : Int32) (p1 : Int32) (p2 : Int32) : Option (Int32) :=
  if p0 < p1 then
    some 0
  else
    if p2 < p0 then
      some 0
    else
      some 1
def f_X11_has (K : fh_K) (M : fh_M) (p0 : Int32) (p1 : Int32) : Option (Int32) :=
  if ((p0 >>> (p1 &&& 31)) &&& 1) = 1 then
    some 1
  else
    some 0
def f_X11_push_L3 (K : fh_K) : Nat → Nat → Int32 → Int32 → fh_M → Option (fh_M)
  | 0 => fun _ _ _ _ => none
  | n + 1 => fun t v1 v2 M =>
    if v2 < 0 then
      some M
    else
      fo K 11 (some t) fun a1 =>
        fi K 14 (M.2.2 a1 0) (M.1 a1 1) fun a2 =>
        fb (fh_si M a2 (M.1 a1 1).toNatClampNeg (vp_nar .byte ((v1 >>> (v2 &&& 31)).toInt8.toInt32))) fun M3 =>
        fb (fh_si M3 a1 1 ((M3.1 a1 1) + 1)) fun M4 =>
        f_X11_push_L3 K n t (v1) (v2 + (-8)) M4
def f_X11_push (K : fh_K) (M : fh_M) (t : Nat) (p1 : Int32) : Option (fh_M) :=
  f_X11_push_L3 K 4096 t (p1) (24) M
def f_X11_feed (K : fh_K) (M : fh_M) (t : Nat) (p1 : Int32) (p2 : Int32) (p3 : Int32) (p4 : Int32) (p5 : Int32) : Option (Int32 × fh_M) :=
  fo K 11 (some t) fun a1 =>
    if ((M.1 a1 1) + 20) ≤ 80 then
    (f_X11_push K M a1 (p1)).bind fun M3 =>
      (f_X11_push K M3 a1 (p2)).bind fun M5 =>
      (f_X11_push K M5 a1 (p3)).bind fun M7 =>
      (f_X11_push K M7 a1 (p4)).bind fun M9 =>
      (f_X11_push K M9 a1 (p5)).bind fun M11 =>
      some (M11.1 a1 1, M11)
  else
    some ((-1), M)
def f_X11_make_J89 (K : fh_K) (t : Nat) (v1 : Int32) (v2 : Int32) (v3 : Int32) (v4 : Int32) (M : fh_M) : Option (Int32 × fh_M) :=
  fo K 11 (some t) fun a15 =>
    fb (fh_si M a15 1 (0)) fun M16 =>
    fi K 13 (M16.2.2 a15 5) (M16.1 a15 3) fun a17 =>
    fb (fh_si M16 a17 (M16.1 a15 3).toNatClampNeg (v1)) fun M18 =>
    fi K 13 (M18.2.2 a15 6) (M18.1 a15 3) fun a19 =>
    fb (fh_si M18 a19 (M18.1 a15 3).toNatClampNeg (v2)) fun M20 =>
    fi K 15 (M20.2.2 a15 7) (M20.1 a15 3) fun a21 =>
    fb (fh_si M20 a21 (M20.1 a15 3).toNatClampNeg (vp_nar .boolean (v3))) fun M22 =>
    fi K 13 (M22.2.2 a15 8) (M22.1 a15 3) fun a23 =>
    fb (fh_si M22 a23 (M22.1 a15 3).toNatClampNeg (v4)) fun M24 =>
    fb (fh_si M24 a15 3 ((M24.1 a15 3) + 1)) fun M25 =>
    some ((M25.1 a15 3) - 1, M25)
def f_X11_make_L52 (K : fh_K) : Nat → Nat → Int32 → Int32 → Int32 → Int32 → Int32 → fh_M → Option (Int32 × fh_M)
  | 0 => fun _ _ _ _ _ _ _ => none
  | n + 1 => fun t v1 v2 v3 v4 v5 M =>
    if v1 ≤ v5 then
      f_X11_make_J89 K t (v1) (v2) (v3) (v4) M
    else
      fo K 11 (some t) fun a10 =>
        fi K 14 (M.2.2 a10 0) (v5) fun a11 =>
        fi K 13 (M.2.2 a10 4) ((4 * (M.1 a10 3)) + v5) fun a12 =>
        fb (fh_si M a12 ((4 * (M.1 a10 3)) + v5).toNatClampNeg ((M.1 a11 v5.toNatClampNeg) &&& 255)) fun M13 =>
        f_X11_make_L52 K n t (v1) (v2) (v3) (v4) (v5 + 1) M13
def f_X11_make (K : fh_K) (M : fh_M) (t : Nat) (p1 : Int32) (p2 : Int32) (p3 : Int32) (p4 : Int32) : Option (Int32 × fh_M) :=
  (f_X11_lies K M (p1) (1) (4)).bind fun r1 =>
    if r1 = 0 then
    some ((-1), M)
  else
    (f_X11_lies K M (p2) (0) (4095)).bind fun r2 =>
      if r2 = 0 then
      some ((-1), M)
    else
      (f_X11_lies K M (p4) (0) (3)).bind fun r3 =>
        if r3 = 0 then
        some ((-1), M)
      else
        fo K 11 (some t) fun a4 =>
          if (M.1 a4 3) = 12 then
          some ((-1), M)
        else
          if p1 ≤ (M.1 a4 1) then
            f_X11_make_L52 K 4096 t (p1) (p2) (p3) (p4) (0) M
          else
            some ((-1), M)
def f_X11_file_J66 (K : fh_K) (t : Nat) (v1 : Int32) (M : fh_M) : Option (Int32 × fh_M) :=
  fo K 11 (some t) fun a11 =>
    fb (fh_si M a11 1 (0)) fun M12 =>
    fi K 13 (M12.2.2 a11 11) (M12.1 a11 9) fun a13 =>
    fb (fh_si M12 a13 (M12.1 a11 9).toNatClampNeg (v1)) fun M14 =>
    fi K 13 (M14.2.2 a11 13) (M14.1 a11 9) fun a15 =>
    fb (fh_si M14 a15 (M14.1 a11 9).toNatClampNeg ((-1))) fun M16 =>
    fb (fh_si M16 a11 9 ((M16.1 a11 9) + 1)) fun M17 =>
    some ((M17.1 a11 9) - 1, M17)
def f_X11_file_L31 (K : fh_K) : Nat → Nat → Int32 → Int32 → fh_M → Option (Int32 × fh_M)
  | 0 => fun _ _ _ _ => none
  | n + 1 => fun t v1 v2 M =>
    if v1 ≤ v2 then
      f_X11_file_J66 K t (v1) M
    else
      fo K 11 (some t) fun a6 =>
        fi K 14 (M.2.2 a6 0) (v2) fun a7 =>
        fi K 13 (M.2.2 a6 10) ((60 * (M.1 a6 9)) + v2) fun a8 =>
        fb (fh_si M a8 ((60 * (M.1 a6 9)) + v2).toNatClampNeg ((M.1 a7 v2.toNatClampNeg) &&& 255)) fun M9 =>
        f_X11_file_L31 K n t (v1) (v2 + 1) M9
def f_X11_file (K : fh_K) (M : fh_M) (t : Nat) (p1 : Int32) : Option (Int32 × fh_M) :=
  (f_X11_lies K M (p1) (1) (60)).bind fun r1 =>
    if r1 = 0 then
    some ((-1), M)
  else
    fo K 11 (some t) fun a2 =>
      if (M.1 a2 9) = 40 then
      some ((-1), M)
    else
      if p1 ≤ (M.1 a2 1) then
        f_X11_file_L31 K 4096 t (p1) (0) M
      else
        some ((-1), M)
def f_X11_isFile (K : fh_K) (M : fh_M) (t : Nat) (p1 : Int32) : Option (Int32) :=
  fo K 11 (some t) fun a1 =>
    (f_X11_lies K M (p1) (0) ((M.1 a1 9) - 1)).bind fun r2 =>
    fz (r2) <| some r2
def f_X11_isMake (K : fh_K) (M : fh_M) (t : Nat) (p1 : Int32) : Option (Int32) :=
  fo K 11 (some t) fun a1 =>
    (f_X11_lies K M (p1) (0) ((M.1 a1 3) - 1)).bind fun r2 =>
    fz (r2) <| some r2
def f_X11_isMachine (K : fh_K) (M : fh_M) (p0 : Int32) : Option (Int32) :=
  (f_X11_lies K M (p0) (0) (7)).bind fun r1 =>
    fz (r1) <| some r1
def f_X11_must (K : fh_K) (M : fh_M) (t : Nat) (p1 : Int32) (p2 : Int32) : Option (Int32 × fh_M) :=
  fo K 11 (some t) fun a1 =>
    (f_X11_isFile K M a1 (p1)).bind fun r2 =>
    if r2 = 0 then
    some (0, M)
  else
    (f_X11_lies K M (p2) (0) (4095)).bind fun r3 =>
      if r3 = 0 then
      some (0, M)
    else
      fi K 13 (M.2.2 a1 12) (p1) fun a4 =>
        fb (fh_si M a4 p1.toNatClampNeg (p2)) fun M5 =>
        some (1, M5)
def f_X11_machine (K : fh_K) (M : fh_M) (t : Nat) (p1 : Int32) (p2 : Int32) (p3 : Int32) : Option (Int32 × fh_M) :=
  (f_X11_isMachine K M (p1)).bind fun r1 =>
    if r1 = 0 then
    some (0, M)
  else
    (f_X11_lies K M (p2) (0) (999)).bind fun r2 =>
      if r2 = 0 then
      some (0, M)
    else
      (f_X11_lies K M (p3) (p2) (999)).bind fun r3 =>
        if r3 = 0 then
        some (0, M)
      else
        fo K 11 (some t) fun a4 =>
          fi K 13 (M.2.2 a4 14) (p1) fun a5 =>
          fb (fh_si M a5 p1.toNatClampNeg (p2)) fun M6 =>
          fi K 13 (M6.2.2 a4 15) (p1) fun a7 =>
          fb (fh_si M6 a7 p1.toNatClampNeg (p3)) fun M8 =>
          some (1, M8)
def f_X11_reader_J64 (K : fh_K) (t : Nat) (v1 : Int32) (v2 : Int32) (M : fh_M) : Option (Int32 × fh_M) :=
  fo K 11 (some t) fun a13 =>
    fi K 13 (M.2.2 a13 17) (M.1 a13 16) fun a14 =>
    fb (fh_si M a14 (M.1 a13 16).toNatClampNeg (v1)) fun M15 =>
    fi K 13 (M15.2.2 a13 18) (M15.1 a13 16) fun a16 =>
    fb (fh_si M15 a16 (M15.1 a13 16).toNatClampNeg (v2)) fun M17 =>
    fb (fh_si M17 a13 16 ((M17.1 a13 16) + 1)) fun M18 =>
    some (1, M18)
def f_X11_reader_J58 (K : fh_K) (rec28 : Nat → Int32 → Int32 → Int32 → fh_M → Option (Int32 × fh_M)) (t : Nat) (v1 : Int32) (v2 : Int32) (v3 : Int32) (M : fh_M) : Option (Int32 × fh_M) :=
  rec28 t (v1) (v2) (v3 + 1) M
def f_X11_reader_L28 (K : fh_K) : Nat → Nat → Int32 → Int32 → Int32 → fh_M → Option (Int32 × fh_M)
  | 0 => fun _ _ _ _ _ => none
  | n + 1 => fun t v1 v2 v3 M =>
    fo K 11 (some t) fun a7 =>
      if (M.1 a7 16) ≤ v3 then
      f_X11_reader_J64 K t (v1) (v2) M
    else
      fi K 13 (M.2.2 a7 17) (v3) fun a8 =>
        if (M.1 a8 v3.toNatClampNeg) = v1 then
        fi K 13 (M.2.2 a7 18) (v3) fun a9 =>
          if (M.1 a9 v3.toNatClampNeg) = v2 then
          some (0, M)
        else
          f_X11_reader_J58 K (f_X11_reader_L28 K n) t (v1) (v2) (v3) M
      else
        f_X11_reader_J58 K (f_X11_reader_L28 K n) t (v1) (v2) (v3) M
def f_X11_reader (K : fh_K) (M : fh_M) (t : Nat) (p1 : Int32) (p2 : Int32) : Option (Int32 × fh_M) :=
  fo K 11 (some t) fun a1 =>
    (f_X11_isMake K M a1 (p1)).bind fun r2 =>
    if r2 = 0 then
    some (0, M)
  else
    (f_X11_isMachine K M (p2)).bind fun r3 =>
      if r3 = 0 then
      some (0, M)
    else
      if (M.1 a1 16) = 24 then
        some (0, M)
      else
        f_X11_reader_L28 K 4096 t (p1) (p2) (0) M
def f_X11_turner (K : fh_K) (M : fh_M) (t : Nat) (p1 : Int32) (p2 : Int32) (p3 : Int32) (p4 : Int32) (p5 : Int32) : Option (Int32 × fh_M) :=
  fo K 11 (some t) fun a1 =>
    (f_X11_isMake K M a1 (p1)).bind fun r2 =>
    if r2 = 0 then
    some ((-1), M)
  else
    (f_X11_isMake K M a1 (p2)).bind fun r3 =>
      if r3 = 0 then
      some ((-1), M)
    else
      if p1 = p2 then
        some ((-1), M)
      else
        (f_X11_lies K M (p3) (0) (4095)).bind fun r4 =>
          if r4 = 0 then
          some ((-1), M)
        else
          (f_X11_lies K M (p4) (0) (9999)).bind fun r5 =>
            if r5 = 0 then
            some ((-1), M)
          else
            (f_X11_isMachine K M (p5)).bind fun r6 =>
              if r6 = 0 then
              some ((-1), M)
            else
              if (M.1 a1 19) = 24 then
                some ((-1), M)
              else
                fi K 13 (M.2.2 a1 20) (M.1 a1 19) fun a7 =>
                  fb (fh_si M a7 (M.1 a1 19).toNatClampNeg (p1)) fun M8 =>
                  fi K 13 (M8.2.2 a1 21) (M8.1 a1 19) fun a9 =>
                  fb (fh_si M8 a9 (M8.1 a1 19).toNatClampNeg (p2)) fun M10 =>
                  fi K 13 (M10.2.2 a1 22) (M10.1 a1 19) fun a11 =>
                  fb (fh_si M10 a11 (M10.1 a1 19).toNatClampNeg (p3)) fun M12 =>
                  fi K 13 (M12.2.2 a1 23) (M12.1 a1 19) fun a13 =>
                  fb (fh_si M12 a13 (M12.1 a1 19).toNatClampNeg (p4)) fun M14 =>
                  fi K 13 (M14.2.2 a1 24) (M14.1 a1 19) fun a15 =>
                  fb (fh_si M14 a15 (M14.1 a1 19).toNatClampNeg (p5)) fun M16 =>
                  fb (fh_si M16 a1 19 ((M16.1 a1 19) + 1)) fun M17 =>
                  some ((M17.1 a1 19) - 1, M17)
def f_X11_year (K : fh_K) (M : fh_M) (t : Nat) (p1 : Int32) : Option (Int32 × fh_M) :=
  fo K 11 (some t) fun a1 =>
    (f_X11_lies K M (p1) (M.1 a1 2) (999)).bind fun r2 =>
    if r2 = 0 then
    some (0, M)
  else
    fb (fh_si M a1 2 (p1)) fun M3 =>
      some (1, M3)
def f_X11_byteAt (K : fh_K) (M : fh_M) (t : Nat) (p1 : Int32) (p2 : Int32) : Option (Int32) :=
  fo K 11 (some t) fun a1 =>
    fi K 13 (M.2.2 a1 10) ((60 * p1) + p2) fun a2 =>
    some (M.1 a2 ((60 * p1) + p2).toNatClampNeg)
def f_X11_reads_J383 (K : fh_K) (rec203 : Nat → Int32 → Int32 → Int32 → Int32 → fh_M → Option (Int32 × fh_M)) (t : Nat) (v1 : Int32) (v2 : Int32) (v3 : Int32) (s0 : Int32) (M : fh_M) : Option (Int32 × fh_M) :=
  rec203 t (v1) (v2) (v3) (s0) M
def f_X11_reads_J367 (K : fh_K) (rec203 : Nat → Int32 → Int32 → Int32 → Int32 → fh_M → Option (Int32 × fh_M)) (t : Nat) (v1 : Int32) (v2 : Int32) (v3 : Int32) (v4 : Int32) (v6 : Int32) (v7 : Int32) (M : fh_M) : Option (Int32 × fh_M) :=
  if v7 = 0 then
    f_X11_reads_J383 K rec203 t (v1) (v2) (v3) ((v4 + 2) + v6) M
  else
    f_X11_reads_J383 K rec203 t (v1) (v2) (v3) (v3) M
def f_X11_reads_J308 (K : fh_K) (rec203 : Nat → Int32 → Int32 → Int32 → Int32 → fh_M → Option (Int32 × fh_M)) (t : Nat) (v1 : Int32) (v2 : Int32) (v3 : Int32) (v4 : Int32) (v5 : Int32) (v6 : Int32) (v7 : Int32) (v8 : Int32) (s0 : Int32) (s1 : Int32) (s2 : Option Nat) (M : fh_M) : Option (Int32 × fh_M) :=
  fo K 11 (s2) fun a47 =>
    fb (fh_si M a47 26 (s1 + s0)) fun M48 =>
    if v8 = 0 then
    f_X11_reads_J367 K rec203 t (v1) (v2) (v3) (v4) (v6) (v7) M48
  else
    if v7 = 0 then
      fo K 11 (some t) fun a49 =>
        fi K 13 (M48.2.2 a49 27) (M48.1 a49 25) fun a50 =>
        fb (fh_si M48 a50 (M48.1 a49 25).toNatClampNeg (v5)) fun M51 =>
        fi K 13 (M51.2.2 a49 28) (M51.1 a49 25) fun a52 =>
        fb (fh_si M51 a52 (M51.1 a49 25).toNatClampNeg (v4 + 2)) fun M53 =>
        fi K 13 (M53.2.2 a49 29) (M53.1 a49 25) fun a54 =>
        fb (fh_si M53 a54 (M53.1 a49 25).toNatClampNeg (v6)) fun M55 =>
        fb (fh_si M55 a49 25 ((M55.1 a49 25) + 1)) fun M56 =>
        f_X11_reads_J367 K rec203 t (v1) (v2) (v3) (v4) (v6) (v7) M56
    else
      f_X11_reads_J367 K rec203 t (v1) (v2) (v3) (v4) (v6) (v7) M48
def f_X11_reads_J307 (K : fh_K) (rec203 : Nat → Int32 → Int32 → Int32 → Int32 → fh_M → Option (Int32 × fh_M)) (t : Nat) (v1 : Int32) (v2 : Int32) (v3 : Int32) (v4 : Int32) (v5 : Int32) (v6 : Int32) (v7 : Int32) (v8 : Int32) (s0 : Int32) (s1 : Option Nat) (M : fh_M) : Option (Int32 × fh_M) :=
  f_X11_reads_J308 K rec203 t (v1) (v2) (v3) (v4) (v5) (v6) (v7) (v8) (1) (s0) (s1) M
def f_X11_reads_J286 (K : fh_K) (rec203 : Nat → Int32 → Int32 → Int32 → Int32 → fh_M → Option (Int32 × fh_M)) (t : Nat) (v1 : Int32) (v2 : Int32) (v3 : Int32) (v4 : Int32) (v5 : Int32) (v6 : Int32) (v7 : Int32) (s0 : Int32) (M : fh_M) : Option (Int32 × fh_M) :=
  fo K 11 (some t) fun a44 =>
    if s0 = 0 then
    f_X11_reads_J307 K rec203 t (v1) (v2) (v3) (v4) (v5) (v6) (v7) (s0) (M.1 a44 26) (some t) M
  else
    if v7 = 0 then
      f_X11_reads_J308 K rec203 t (v1) (v2) (v3) (v4) (v5) (v6) (v7) (s0) (0) (M.1 a44 26) (some t) M
    else
      f_X11_reads_J307 K rec203 t (v1) (v2) (v3) (v4) (v5) (v6) (v7) (s0) (M.1 a44 26) (some t) M
def f_X11_reads_J285 (K : fh_K) (rec203 : Nat → Int32 → Int32 → Int32 → Int32 → fh_M → Option (Int32 × fh_M)) (t : Nat) (v1 : Int32) (v2 : Int32) (v3 : Int32) (v4 : Int32) (v5 : Int32) (v6 : Int32) (v7 : Int32) (M : fh_M) : Option (Int32 × fh_M) :=
  f_X11_reads_J286 K rec203 t (v1) (v2) (v3) (v4) (v5) (v6) (v7) (0) M
def f_X11_reads_J258 (K : fh_K) (rec203 : Nat → Int32 → Int32 → Int32 → Int32 → fh_M → Option (Int32 × fh_M)) (t : Nat) (v1 : Int32) (v2 : Int32) (v3 : Int32) (v4 : Int32) (v5 : Int32) (v6 : Int32) (s0 : Int32) (M : fh_M) : Option (Int32 × fh_M) :=
  if 12 ≤ v5 then
    f_X11_reads_J285 K rec203 t (v1) (v2) (v3) (v4) (v5) (v6) (s0) M
  else
    fo K 11 (some t) fun a39 =>
      fi K 13 (M.2.2 a39 6) (v2) fun a40 =>
      (f_X11_has K M (M.1 a40 v2.toNatClampNeg) (v5)).bind fun r41 =>
      if r41 = 0 then
      f_X11_reads_J285 K rec203 t (v1) (v2) (v3) (v4) (v5) (v6) (s0) M
    else
      f_X11_reads_J286 K rec203 t (v1) (v2) (v3) (v4) (v5) (v6) (s0) (1) M
def f_X11_reads_J240 (K : fh_K) (rec203 : Nat → Int32 → Int32 → Int32 → Int32 → fh_M → Option (Int32 × fh_M)) (t : Nat) (v1 : Int32) (v2 : Int32) (v3 : Int32) (v4 : Int32) (v5 : Int32) (s0 : Int32) (M : fh_M) : Option (Int32 × fh_M) :=
  if ((v4 + 2) + s0) ≤ v3 then
    f_X11_reads_J258 K rec203 t (v1) (v2) (v3) (v4) (v5) (s0) (0) M
  else
    f_X11_reads_J258 K rec203 t (v1) (v2) (v3) (v4) (v5) (s0) (1) M
def f_X11_reads_L203 (K : fh_K) : Nat → Nat → Int32 → Int32 → Int32 → Int32 → fh_M → Option (Int32 × fh_M)
  | 0 => fun _ _ _ _ _ _ => none
  | n + 1 => fun t v1 v2 v3 v4 M =>
    if v3 ≤ v4 then
      some (1, M)
    else
      fo K 11 (some t) fun a33 =>
        (f_X11_byteAt K M a33 (v1) (v4)).bind fun r34 =>
        if v3 ≤ (v4 + 1) then
        f_X11_reads_J240 K (f_X11_reads_L203 K n) t (v1) (v2) (v3) (v4) (r34) (60) M
      else
        (f_X11_byteAt K M a33 (v1) (v4 + 1)).bind fun r35 =>
          f_X11_reads_J240 K (f_X11_reads_L203 K n) t (v1) (v2) (v3) (v4) (r34) (r35) M
def f_X11_reads_J195 (K : fh_K) (t : Nat) (v1 : Int32) (v2 : Int32) (v3 : Int32) (M : fh_M) : Option (Int32 × fh_M) :=
  fo K 11 (some t) fun a31 =>
    fi K 13 (M.2.2 a31 5) (v2) fun a32 =>
    f_X11_reads_L203 K 4096 t (v1) (v2) (v3) (M.1 a32 v2.toNatClampNeg) M
def f_X11_reads_J193 (K : fh_K) (t : Nat) (v1 : Int32) (v2 : Int32) (s0 : Int32) (s1 : Int32) (M : fh_M) : Option (Int32 × fh_M) :=
  f_X11_reads_J195 K t (v1) (v2) (s1 - s0) M
def f_X11_reads_J178 (K : fh_K) (t : Nat) (v1 : Int32) (v2 : Int32) (v3 : Int32) (v4 : Int32) (s0 : Int32) (s1 : Int32) (s2 : Option Nat) (M : fh_M) : Option (Int32 × fh_M) :=
  fo K 11 (s2) fun a28 =>
    fb (fh_si M a28 26 (s1 + s0)) fun M29 =>
    if v4 = 0 then
    f_X11_reads_J193 K t (v1) (v2) (0) (v3) M29
  else
    f_X11_reads_J193 K t (v1) (v2) (1) (v3) M29
def f_X11_reads_J177 (K : fh_K) (t : Nat) (v1 : Int32) (v2 : Int32) (v3 : Int32) (v4 : Int32) (s0 : Int32) (s1 : Option Nat) (M : fh_M) : Option (Int32 × fh_M) :=
  f_X11_reads_J178 K t (v1) (v2) (v3) (v4) (1) (s0) (s1) M
def f_X11_reads_J141 (K : fh_K) (t : Nat) (v1 : Int32) (v2 : Int32) (v3 : Int32) (v4 : Int32) (v5 : Int32) (M : fh_M) : Option (Int32 × fh_M) :=
  fo K 11 (some t) fun a23 =>
    if v4 = 0 then
    f_X11_reads_J177 K t (v1) (v2) (v3) (v4) (M.1 a23 26) (some t) M
  else
    fi K 13 (M.2.2 a23 11) (v1) fun a24 =>
      (f_X11_byteAt K M a23 (v1) ((M.1 a24 v1.toNatClampNeg) - 1)).bind fun r25 =>
      if (v5 - v5 / 256 * 256) = r25 then
      f_X11_reads_J178 K t (v1) (v2) (v3) (v4) (0) (M.1 a23 26) (some t) M
    else
      f_X11_reads_J177 K t (v1) (v2) (v3) (v4) (M.1 a23 26) (some t) M
def f_X11_reads_L110 (K : fh_K) : Nat → Nat → Int32 → Int32 → Int32 → Int32 → Int32 → Int32 → fh_M → Option (Int32 × fh_M)
  | 0 => fun _ _ _ _ _ _ _ _ => none
  | n + 1 => fun t v1 v2 v3 v4 v5 v6 M =>
    fo K 11 (some t) fun a19 =>
      fi K 13 (M.2.2 a19 11) (v1) fun a20 =>
      if ((M.1 a20 v1.toNatClampNeg) - 1) ≤ v6 then
      f_X11_reads_J141 K t (v1) (v2) (v3) (v4) (v5) M
    else
      (f_X11_byteAt K M a19 (v1) (v6)).bind fun r21 =>
        f_X11_reads_L110 K n t (v1) (v2) (v3) (v4) (v5 + r21) (v6 + 1) M
def f_X11_reads_J102 (K : fh_K) (t : Nat) (v1 : Int32) (v2 : Int32) (v3 : Int32) (s0 : Int32) (M : fh_M) : Option (Int32 × fh_M) :=
  f_X11_reads_L110 K 4096 t (v1) (v2) (v3) (s0) (0) (0) M
def f_X11_reads_J66 (K : fh_K) (t : Nat) (v1 : Int32) (v2 : Int32) (M : fh_M) : Option (Int32 × fh_M) :=
  fo K 11 (some t) fun a13 =>
    fi K 13 (M.2.2 a13 11) (v1) fun a14 =>
    fi K 15 (M.2.2 a13 7) (v2) fun a15 =>
    if (M.1 a15 v2.toNatClampNeg) = 0 then
    f_X11_reads_J195 K t (v1) (v2) (M.1 a14 v1.toNatClampNeg) M
  else
    fi K 13 (M.2.2 a13 5) (v2) fun a16 =>
      if (M.1 a14 v1.toNatClampNeg) ≤ (M.1 a16 v2.toNatClampNeg) then
      f_X11_reads_J102 K t (v1) (v2) (M.1 a14 v1.toNatClampNeg) (0) M
    else
      f_X11_reads_J102 K t (v1) (v2) (M.1 a14 v1.toNatClampNeg) (1) M
def f_X11_reads_L29 (K : fh_K) : Nat → Nat → Int32 → Int32 → Int32 → fh_M → Option (Int32 × fh_M)
  | 0 => fun _ _ _ _ _ => none
  | n + 1 => fun t v1 v2 v3 M =>
    fo K 11 (some t) fun a7 =>
      fi K 13 (M.2.2 a7 5) (v2) fun a8 =>
      if (M.1 a8 v2.toNatClampNeg) ≤ v3 then
      f_X11_reads_J66 K t (v1) (v2) M
    else
      (f_X11_byteAt K M a7 (v1) (v3)).bind fun r9 =>
        fi K 13 (M.2.2 a7 4) ((4 * v2) + v3) fun a10 =>
        if r9 = (M.1 a10 ((4 * v2) + v3).toNatClampNeg) then
        f_X11_reads_L29 K n t (v1) (v2) (v3 + 1) M
      else
        some (0, M)
def f_X11_reads (K : fh_K) (M : fh_M) (t : Nat) (p1 : Int32) (p2 : Int32) : Option (Int32 × fh_M) :=
  fo K 11 (some t) fun a1 =>
    fb (fh_si M a1 25 (0)) fun M2 =>
    fb (fh_si M2 a1 26 (0)) fun M3 =>
    fi K 13 (M3.2.2 a1 11) (p1) fun a4 =>
    fi K 13 (M3.2.2 a1 5) (p2) fun a5 =>
    if (M3.1 a5 p2.toNatClampNeg) ≤ (M3.1 a4 p1.toNatClampNeg) then
    f_X11_reads_L29 K 4096 t (p1) (p2) (0) M3
  else
    some (0, M3)
def f_X11_bends (K : fh_K) (M : fh_M) (t : Nat) (p1 : Int32) (p2 : Int32) : Option (Int32 × fh_M) :=
  fo K 11 (some t) fun a1 =>
    (f_X11_isFile K M a1 (p1)).bind fun r2 =>
    if r2 = 0 then
    some ((-1), M)
  else
    (f_X11_isMake K M a1 (p2)).bind fun r3 =>
      if r3 = 0 then
      some ((-1), M)
    else
      fc2 (f_X11_reads K M a1 (p1) (p2)) fun r4 M5 =>
        if r4 = 0 then
        some ((-2), M5)
      else
        some (M5.1 a1 26, M5)
def f_X11_knows_J70 (K : fh_K) (t : Nat) (v1 : Int32) (v2 : Int32) (M : fh_M) : Option (Int32 × fh_M) :=
  if v2 = (-1) then
    fo K 11 (some t) fun a14 =>
      fb (fh_si M a14 25 (0)) fun M15 =>
      some (v2, M15)
  else
    fo K 11 (some t) fun a11 =>
      fc2 (f_X11_reads K M a11 (v1) (v2)) fun r12 M13 =>
      some (v2, M13)
def f_X11_knows_J64 (K : fh_K) (rec7 : Nat → Int32 → Int32 → Int32 → Int32 → fh_M → Option (Int32 × fh_M)) (t : Nat) (v1 : Int32) (v2 : Int32) (v3 : Int32) (v4 : Int32) (M : fh_M) : Option (Int32 × fh_M) :=
  rec7 t (v1) (v2) (v3) (v4 + 1) M
def f_X11_knows_J56 (K : fh_K) (rec7 : Nat → Int32 → Int32 → Int32 → Int32 → fh_M → Option (Int32 × fh_M)) (t : Nat) (v1 : Int32) (v4 : Int32) (M : fh_M) : Option (Int32 × fh_M) :=
  fo K 11 (some t) fun a10 =>
    f_X11_knows_J64 K rec7 t (v1) (v4) (M.1 a10 26) (v4) M
def f_X11_knows_L7 (K : fh_K) : Nat → Nat → Int32 → Int32 → Int32 → Int32 → fh_M → Option (Int32 × fh_M)
  | 0 => fun _ _ _ _ _ _ => none
  | n + 1 => fun t v1 v2 v3 v4 M =>
    fo K 11 (some t) fun a1 =>
      if (M.1 a1 3) ≤ v4 then
      f_X11_knows_J70 K t (v1) (v2) M
    else
      fc2 (f_X11_reads K M a1 (v1) (v4)) fun r2 M3 =>
        if r2 = 0 then
        f_X11_knows_J64 K (f_X11_knows_L7 K n) t (v1) (v2) (v3) (v4) M3
      else
        fi K 13 (M3.2.2 a1 8) (v4) fun a4 =>
          if (M3.1 a4 v4.toNatClampNeg) < (M3.1 a1 26) then
          f_X11_knows_J64 K (f_X11_knows_L7 K n) t (v1) (v2) (v3) (v4) M3
        else
          if v2 = (-1) then
            f_X11_knows_J56 K (f_X11_knows_L7 K n) t (v1) (v4) M3
          else
            if (M3.1 a1 26) < v3 then
              f_X11_knows_J56 K (f_X11_knows_L7 K n) t (v1) (v4) M3
            else
              f_X11_knows_J64 K (f_X11_knows_L7 K n) t (v1) (v2) (v3) (v4) M3
def f_X11_knows (K : fh_K) (M : fh_M) (t : Nat) (p1 : Int32) : Option (Int32 × fh_M) :=
  f_X11_knows_L7 K 4096 t (p1) ((-1)) (0) (0) M
def f_X11_know (K : fh_K) (M : fh_M) (t : Nat) (p1 : Int32) : Option (Int32 × fh_M) :=
  fo K 11 (some t) fun a1 =>
    (f_X11_isFile K M a1 (p1)).bind fun r2 =>
    if r2 = 0 then
    some ((-1), M)
  else
    fc2 (f_X11_knows K M a1 (p1)) fun r3 M4 =>
      some (r3, M4)
def f_X11_record (K : fh_K) (M : fh_M) (t : Nat) (p1 : Int32) (p2 : Int32) (p3 : Int32) : Option (Int32 × fh_M) :=
  fo K 11 (some t) fun a1 =>
    (f_X11_isFile K M a1 (p1)).bind fun r2 =>
    if r2 = 0 then
    some ((-1), M)
  else
    fc2 (f_X11_knows K M a1 (p1)) fun r3 M4 =>
      if r3 = (-1) then
      some ((-1), M4)
    else
      (f_X11_lies K M4 (p2) (0) ((M4.1 a1 25) - 1)).bind fun r5 =>
        if r5 = 0 then
        some ((-1), M4)
      else
        if p3 = 0 then
          fi K 13 (M4.2.2 a1 27) (p2) fun a10 =>
            some (M4.1 a10 p2.toNatClampNeg, M4)
        else
          if p3 = 1 then
            fi K 13 (M4.2.2 a1 29) (p2) fun a8 =>
              some (M4.1 a8 p2.toNatClampNeg, M4)
          else
            if p3 = 2 then
              fi K 13 (M4.2.2 a1 28) (p2) fun a6 =>
                some (M4.1 a6 p2.toNatClampNeg, M4)
            else
              some ((-1), M4)
def f_X11_properties_J38 (K : fh_K) (v2 : Int32) (v3 : Int32) (M : fh_M) : Option (Int32 × fh_M) :=
  if v2 = (-1) then
    some (0, M)
  else
    some (v3, M)
def f_X11_properties_L11 (K : fh_K) : Nat → Nat → Int32 → Int32 → Int32 → fh_M → Option (Int32 × fh_M)
  | 0 => fun _ _ _ _ _ => none
  | n + 1 => fun t v2 v3 v4 M =>
    fo K 11 (some t) fun a4 =>
      if (M.1 a4 25) ≤ v4 then
      f_X11_properties_J38 K (v2) (v3) M
    else
      fi K 13 (M.2.2 a4 27) (v4) fun a5 =>
        f_X11_properties_L11 K n t (v2) (v3 ||| (1 <<< ((M.1 a5 v4.toNatClampNeg) &&& 31))) (v4 + 1) M
def f_X11_properties (K : fh_K) (M : fh_M) (t : Nat) (p1 : Int32) : Option (Int32 × fh_M) :=
  fo K 11 (some t) fun a1 =>
    fc2 (f_X11_knows K M a1 (p1)) fun r2 M3 =>
    f_X11_properties_L11 K 4096 t (r2) (0) (0) M3
def f_X11_goes (K : fh_K) (M : fh_M) (t : Nat) (p1 : Int32) (p2 : Int32) : Option (Int32) :=
  fo K 11 (some t) fun a1 =>
    fi K 13 (M.2.2 a1 21) (p2) fun a2 =>
    fi K 13 (M.2.2 a1 6) (M.1 a2 p2.toNatClampNeg) fun a3 =>
    fi K 13 (M.2.2 a1 27) (p1) fun a4 =>
    (f_X11_has K M (M.1 a3 (M.1 a2 p2.toNatClampNeg).toNatClampNeg) (M.1 a4 p1.toNatClampNeg)).bind fun r5 =>
    if r5 = 0 then
    some 0
  else
    fi K 13 (M.2.2 a1 22) (p2) fun a6 =>
      (f_X11_has K M (M.1 a6 p2.toNatClampNeg) (M.1 a4 p1.toNatClampNeg)).bind fun r7 =>
      if r7 = 0 then
      some 1
    else
      some 0
def f_X11_turn_J344 (K : fh_K) (t : Nat) (v1 : Int32) (v4 : Int32) (M : fh_M) : Option (Int32 × fh_M) :=
  fo K 11 (some t) fun a52 =>
    fi K 13 (M.2.2 a52 11) (M.1 a52 9) fun a53 =>
    fb (fh_si M a53 (M.1 a52 9).toNatClampNeg (v4)) fun M54 =>
    fi K 13 (M54.2.2 a52 13) (M54.1 a52 9) fun a55 =>
    fb (fh_si M54 a55 (M54.1 a52 9).toNatClampNeg (v1)) fun M56 =>
    fb (fh_si M56 a52 9 ((M56.1 a52 9) + 1)) fun M57 =>
    some ((M57.1 a52 9) - 1, M57)
def f_X11_turn_J322 (K : fh_K) (t : Nat) (v1 : Int32) (v3 : Int32) (v4 : Int32) (v5 : Int32) (v6 : Int32) (M : fh_M) : Option (Int32 × fh_M) :=
  fo K 11 (some t) fun a47 =>
    fi K 15 (M.2.2 a47 7) (v3) fun a48 =>
    if (M.1 a48 v3.toNatClampNeg) = 0 then
    f_X11_turn_J344 K t (v1) (v4) M
  else
    fi K 13 (M.2.2 a47 10) (v5) fun a49 =>
      fb (fh_si M a49 v5.toNatClampNeg (v6 - v6 / 256 * 256)) fun M50 =>
      f_X11_turn_J344 K t (v1) (v4) M50
def f_X11_turn_L297 (K : fh_K) : Nat → Nat → Int32 → Int32 → Int32 → Int32 → Int32 → Int32 → fh_M → Option (Int32 × fh_M)
  | 0 => fun _ _ _ _ _ _ _ _ => none
  | n + 1 => fun t v1 v3 v4 v5 v6 v7 M =>
    if v5 ≤ v7 then
      f_X11_turn_J322 K t (v1) (v3) (v4) (v5) (v6) M
    else
      fo K 11 (some t) fun a44 =>
        fi K 13 (M.2.2 a44 10) (v7) fun a45 =>
        f_X11_turn_L297 K n t (v1) (v3) (v4) (v5) (v6 + (M.1 a45 v7.toNatClampNeg)) (v7 + 1) M
def f_X11_turn_J285 (K : fh_K) (t : Nat) (v1 : Int32) (v3 : Int32) (v4 : Int32) (v5 : Int32) (M : fh_M) : Option (Int32 × fh_M) :=
  fo K 11 (some t) fun a43 =>
    f_X11_turn_L297 K 4096 t (v1) (v3) (v4) (v5) (0) (60 * (M.1 a43 9)) M
def f_X11_turn_J279 (K : fh_K) (rec203 : Nat → Int32 → Int32 → Int32 → Int32 → Int32 → Int32 → fh_M → Option (Int32 × fh_M)) (t : Nat) (v1 : Int32) (v2 : Int32) (v3 : Int32) (v4 : Int32) (v5 : Int32) (v6 : Int32) (M : fh_M) : Option (Int32 × fh_M) :=
  rec203 t (v1) (v2) (v3) (v4) (v5) (v6 + 1) M
def f_X11_turn_L236 (K : fh_K) (rec203 : Nat → Int32 → Int32 → Int32 → Int32 → Int32 → Int32 → fh_M → Option (Int32 × fh_M)) : Nat → Nat → Int32 → Int32 → Int32 → Int32 → Int32 → Int32 → Int32 → fh_M → Option (Int32 × fh_M)
  | 0 => fun _ _ _ _ _ _ _ _ _ => none
  | n + 1 => fun t v1 v2 v3 v4 v5 v6 v7 M =>
    fo K 11 (some t) fun a36 =>
      fi K 13 (M.2.2 a36 28) (v6) fun a37 =>
      fi K 13 (M.2.2 a36 29) (v6) fun a38 =>
      if ((M.1 a37 v6.toNatClampNeg) + (M.1 a38 v6.toNatClampNeg)) ≤ v7 then
      f_X11_turn_J279 K rec203 t (v1) (v2) (v3) (v4) (v5) (v6) M
    else
      (f_X11_byteAt K M a36 (v1) (v7)).bind fun r39 =>
        fi K 13 (M.2.2 a36 10) (v5) fun a40 =>
        fb (fh_si M a40 v5.toNatClampNeg (r39)) fun M41 =>
        f_X11_turn_L236 K rec203 n t (v1) (v2) (v3) (v4) (v5 + 1) (v6) (v7 + 1) M41
def f_X11_turn_L203 (K : fh_K) : Nat → Nat → Int32 → Int32 → Int32 → Int32 → Int32 → Int32 → fh_M → Option (Int32 × fh_M)
  | 0 => fun _ _ _ _ _ _ _ _ => none
  | n + 1 => fun t v1 v2 v3 v4 v5 v6 M =>
    fo K 11 (some t) fun a31 =>
      if (M.1 a31 25) ≤ v6 then
      f_X11_turn_J285 K t (v1) (v3) (v4) (v5) M
    else
      (f_X11_goes K M a31 (v6) (v2)).bind fun r32 =>
        if r32 = 0 then
        f_X11_turn_J279 K (f_X11_turn_L203 K n) t (v1) (v2) (v3) (v4) (v5) (v6) M
      else
        fi K 13 (M.2.2 a31 28) (v6) fun a33 =>
          f_X11_turn_L236 K (f_X11_turn_L203 K n) 4096 t (v1) (v2) (v3) (v4) (v5) (v6) ((M.1 a33 v6.toNatClampNeg) - 2) M
def f_X11_turn_J200 (K : fh_K) (t : Nat) (v1 : Int32) (v2 : Int32) (v3 : Int32) (v4 : Int32) (v5 : Int32) (M : fh_M) : Option (Int32 × fh_M) :=
  f_X11_turn_L203 K 4096 t (v1) (v2) (v3) (v4) (v5) (0) M
def f_X11_turn_L162 (K : fh_K) : Nat → Nat → Int32 → Int32 → Int32 → Int32 → Int32 → Int32 → fh_M → Option (Int32 × fh_M)
  | 0 => fun _ _ _ _ _ _ _ _ => none
  | n + 1 => fun t v1 v2 v3 v4 v5 v6 M =>
    fo K 11 (some t) fun a25 =>
      fi K 13 (M.2.2 a25 5) (v3) fun a26 =>
      if (M.1 a26 v3.toNatClampNeg) ≤ v6 then
      f_X11_turn_J200 K t (v1) (v2) (v3) (v4) (v5) M
    else
      fi K 13 (M.2.2 a25 4) ((4 * v3) + v6) fun a27 =>
        fi K 13 (M.2.2 a25 10) (v5) fun a28 =>
        fb (fh_si M a28 v5.toNatClampNeg (M.1 a27 ((4 * v3) + v6).toNatClampNeg)) fun M29 =>
        f_X11_turn_L162 K n t (v1) (v2) (v3) (v4) (v5 + 1) (v6 + 1) M29
def f_X11_turn_J141 (K : fh_K) (t : Nat) (v1 : Int32) (v2 : Int32) (v3 : Int32) (v4 : Int32) (M : fh_M) : Option (Int32 × fh_M) :=
  if v4 ≤ 60 then
    fo K 11 (some t) fun a23 =>
      f_X11_turn_L162 K 4096 t (v1) (v2) (v3) (v4) (60 * (M.1 a23 9)) (0) M
  else
    some ((-1), M)
def f_X11_turn_J132 (K : fh_K) (rec98 : Nat → Int32 → Int32 → Int32 → Int32 → Int32 → fh_M → Option (Int32 × fh_M)) (t : Nat) (v1 : Int32) (v2 : Int32) (v3 : Int32) (v5 : Int32) (s0 : Int32) (s1 : Int32) (M : fh_M) : Option (Int32 × fh_M) :=
  rec98 t (v1) (v2) (v3) (s1 + s0) (v5 + 1) M
def f_X11_turn_L98 (K : fh_K) : Nat → Nat → Int32 → Int32 → Int32 → Int32 → Int32 → fh_M → Option (Int32 × fh_M)
  | 0 => fun _ _ _ _ _ _ _ => none
  | n + 1 => fun t v1 v2 v3 v4 v5 M =>
    fo K 11 (some t) fun a18 =>
      if (M.1 a18 25) ≤ v5 then
      f_X11_turn_J141 K t (v1) (v2) (v3) (v4) M
    else
      (f_X11_goes K M a18 (v5) (v2)).bind fun r19 =>
        if r19 = 0 then
        f_X11_turn_J132 K (f_X11_turn_L98 K n) t (v1) (v2) (v3) (v5) (0) (v4) M
      else
        fi K 13 (M.2.2 a18 29) (v5) fun a20 =>
          f_X11_turn_J132 K (f_X11_turn_L98 K n) t (v1) (v2) (v3) (v5) (2 + (M.1 a20 v5.toNatClampNeg)) (v4) M
def f_X11_turn_J92 (K : fh_K) (t : Nat) (v1 : Int32) (v2 : Int32) (v3 : Int32) (s0 : Int32) (s1 : Int32) (M : fh_M) : Option (Int32 × fh_M) :=
  f_X11_turn_L98 K 4096 t (v1) (v2) (v3) (s1 + s0) (0) M
def f_X11_turn (K : fh_K) (M : fh_M) (t : Nat) (p1 : Int32) (p2 : Int32) : Option (Int32 × fh_M) :=
  fo K 11 (some t) fun a1 =>
    (f_X11_isFile K M a1 (p1)).bind fun r2 =>
    if r2 = 0 then
    some ((-1), M)
  else
    (f_X11_lies K M (p2) (0) ((M.1 a1 19) - 1)).bind fun r3 =>
      if r3 = 0 then
      some ((-1), M)
    else
      fc2 (f_X11_knows K M a1 (p1)) fun r4 M5 =>
        fi K 13 (M5.2.2 a1 20) (p2) fun a6 =>
        if r4 = (M5.1 a6 p2.toNatClampNeg) then
        fi K 13 (M5.2.2 a1 24) (p2) fun a7 =>
          fi K 13 (M5.2.2 a1 14) (M5.1 a7 p2.toNatClampNeg) fun a8 =>
          if (M5.1 a8 (M5.1 a7 p2.toNatClampNeg).toNatClampNeg) < (M5.1 a1 2) then
          some ((-1), M5)
        else
          if (M5.1 a1 9) = 40 then
            some ((-1), M5)
          else
            fi K 13 (M5.2.2 a1 21) (p2) fun a9 =>
              fi K 13 (M5.2.2 a1 5) (M5.1 a9 p2.toNatClampNeg) fun a10 =>
              fi K 15 (M5.2.2 a1 7) (M5.1 a9 p2.toNatClampNeg) fun a11 =>
              if (M5.1 a11 (M5.1 a9 p2.toNatClampNeg).toNatClampNeg) = 0 then
              f_X11_turn_J92 K t (p1) (p2) (M5.1 a9 p2.toNatClampNeg) (0) (M5.1 a10 (M5.1 a9 p2.toNatClampNeg).toNatClampNeg) M5
            else
              f_X11_turn_J92 K t (p1) (p2) (M5.1 a9 p2.toNatClampNeg) (1) (M5.1 a10 (M5.1 a9 p2.toNatClampNeg).toNatClampNeg) M5
      else
        some ((-1), M5)
def f_X11_areAlike_L21 (K : fh_K) (M : fh_M) : Nat → Nat → Int32 → Int32 → Int32 → Int32 → Int32 → Option (Int32)
  | 0 => fun _ _ _ _ _ _ => none
  | n + 1 => fun t v1 v2 v3 v4 v5 =>
    fo K 11 (some t) fun a5 =>
      fi K 13 (M.2.2 a5 29) (v4) fun a6 =>
      if (M.1 a6 v4.toNatClampNeg) ≤ v5 then
      some 1
    else
      fi K 13 (M.2.2 a5 32) (v2) fun a7 =>
        (f_X11_byteAt K M a5 (v1) ((M.1 a7 v2.toNatClampNeg) + v5)).bind fun r8 =>
        fi K 13 (M.2.2 a5 28) (v4) fun a9 =>
        (f_X11_byteAt K M a5 (v3) ((M.1 a9 v4.toNatClampNeg) + v5)).bind fun r10 =>
        if r8 = r10 then
        f_X11_areAlike_L21 K M n t (v1) (v2) (v3) (v4) (v5 + 1) 
      else
        some 0
def f_X11_areAlike (K : fh_K) (M : fh_M) (t : Nat) (p1 : Int32) (p2 : Int32) (p3 : Int32) (p4 : Int32) : Option (Int32) :=
  fo K 11 (some t) fun a1 =>
    fi K 13 (M.2.2 a1 33) (p2) fun a2 =>
    fi K 13 (M.2.2 a1 29) (p4) fun a3 =>
    if (M.1 a2 p2.toNatClampNeg) = (M.1 a3 p4.toNatClampNeg) then
    f_X11_areAlike_L21 K M 4096 t (p1) (p2) (p3) (p4) (0) 
  else
    some 0
def f_X11_isKept_J120 (K : fh_K) (M : fh_M) (t : Nat) (v4 : Int32) (v5 : Int32) : Option (Int32) :=
  if v5 ≤ 0 then
    some 0
  else
    fo K 11 (some t) fun a17 =>
      if v4 = (M.1 a17 25) then
      some 1
    else
      some 0
def f_X11_isKept_L94 (K : fh_K) (M : fh_M) : Nat → Nat → Int32 → Int32 → Int32 → Option (Int32)
  | 0 => fun _ _ _ _ => none
  | n + 1 => fun t v3 v4 v5 =>
    fo K 11 (some t) fun a13 =>
      if (M.1 a13 25) ≤ v4 then
      f_X11_isKept_J120 K M t (v4) (v5) 
    else
      fi K 13 (M.2.2 a13 27) (v4) fun a14 =>
        if (M.1 a14 v4.toNatClampNeg) = v3 then
        f_X11_isKept_J120 K M t (v4) (v5) 
      else
        f_X11_isKept_L94 K M n t (v3) (v4 + 1) (v5) 
def f_X11_isKept_J88 (K : fh_K) (M : fh_M) (rec9 : Nat → Int32 → Int32 → Int32 → Int32 → Int32 → Int32 → Option (Int32)) (t : Nat) (v1 : Int32) (v2 : Int32) (v3 : Int32) (v4 : Int32) (v5 : Int32) (v6 : Int32) : Option (Int32) :=
  rec9 t (v1) (v2) (v3) (v4) (v5) (v6 + 1) 
def f_X11_isKept_J58 (K : fh_K) (M : fh_M) (rec9 : Nat → Int32 → Int32 → Int32 → Int32 → Int32 → Int32 → Option (Int32)) (t : Nat) (v1 : Int32) (v2 : Int32) (v3 : Int32) (v4 : Int32) (v5 : Int32) (v6 : Int32) : Option (Int32) :=
  fo K 11 (some t) fun a9 =>
    if v4 = (M.1 a9 25) then
    some 0
  else
    (f_X11_areAlike K M a9 (v1) (v6) (v2) (v4)).bind fun r10 =>
      if r10 = 0 then
      some 0
    else
      f_X11_isKept_J88 K M rec9 t (v1) (v2) (v3) (v4 + 1) (v5 + 1) (v6) 
def f_X11_isKept_L32 (K : fh_K) (M : fh_M) (rec9 : Nat → Int32 → Int32 → Int32 → Int32 → Int32 → Int32 → Option (Int32)) : Nat → Nat → Int32 → Int32 → Int32 → Int32 → Int32 → Int32 → Option (Int32)
  | 0 => fun _ _ _ _ _ _ _ => none
  | n + 1 => fun t v1 v2 v3 v4 v5 v6 =>
    fo K 11 (some t) fun a5 =>
      if (M.1 a5 25) ≤ v4 then
      f_X11_isKept_J58 K M rec9 t (v1) (v2) (v3) (v4) (v5) (v6) 
    else
      fi K 13 (M.2.2 a5 27) (v4) fun a6 =>
        if (M.1 a6 v4.toNatClampNeg) = v3 then
        f_X11_isKept_J58 K M rec9 t (v1) (v2) (v3) (v4) (v5) (v6) 
      else
        f_X11_isKept_L32 K M rec9 n t (v1) (v2) (v3) (v4 + 1) (v5) (v6) 
def f_X11_isKept_L9 (K : fh_K) (M : fh_M) : Nat → Nat → Int32 → Int32 → Int32 → Int32 → Int32 → Int32 → Option (Int32)
  | 0 => fun _ _ _ _ _ _ _ => none
  | n + 1 => fun t v1 v2 v3 v4 v5 v6 =>
    fo K 11 (some t) fun a1 =>
      if (M.1 a1 30) ≤ v6 then
      f_X11_isKept_L94 K M 4096 t (v3) (v4) (v5) 
    else
      fi K 13 (M.2.2 a1 31) (v6) fun a2 =>
        if (M.1 a2 v6.toNatClampNeg) = v3 then
        f_X11_isKept_L32 K M (f_X11_isKept_L9 K M n) 4096 t (v1) (v2) (v3) (v4) (v5) (v6) 
      else
        f_X11_isKept_J88 K M (f_X11_isKept_L9 K M n) t (v1) (v2) (v3) (v4) (v5) (v6) 
def f_X11_isKept (K : fh_K) (M : fh_M) (t : Nat) (p1 : Int32) (p2 : Int32) (p3 : Int32) : Option (Int32) :=
  f_X11_isKept_L9 K M 4096 t (p1) (p2) (p3) (0) (0) (0) 
def f_X11_kept_J141 (K : fh_K) (rec114 : Nat → Int32 → Int32 → Int32 → Int32 → fh_M → Option (Int32 × fh_M)) (t : Nat) (v1 : Int32) (v2 : Int32) (v5 : Int32) (v6 : Int32) (M : fh_M) : Option (Int32 × fh_M) :=
  rec114 t (v1) (v2) (v5) (v6 + 1) M
def f_X11_kept_L114 (K : fh_K) : Nat → Nat → Int32 → Int32 → Int32 → Int32 → fh_M → Option (Int32 × fh_M)
  | 0 => fun _ _ _ _ _ _ => none
  | n + 1 => fun t v1 v2 v5 v6 M =>
    if 12 ≤ v6 then
      some (v5, M)
    else
      fo K 11 (some t) fun a25 =>
        (f_X11_isKept K M a25 (v1) (v2) (v6)).bind fun r26 =>
        if r26 = 0 then
        f_X11_kept_J141 K (f_X11_kept_L114 K n) t (v1) (v2) (v5) (v6) M
      else
        f_X11_kept_J141 K (f_X11_kept_L114 K n) t (v1) (v2) (v5 ||| (1 <<< (v6 &&& 31))) (v6) M
def f_X11_kept_J101 (K : fh_K) (t : Nat) (v1 : Int32) (v2 : Int32) (M : fh_M) : Option (Int32 × fh_M) :=
  fo K 11 (some t) fun a22 =>
    fc2 (f_X11_knows K M a22 (v2)) fun r23 M24 =>
    f_X11_kept_L114 K 4096 t (v1) (v2) (0) (0) M24
def f_X11_kept_L44 (K : fh_K) : Nat → Nat → Int32 → Int32 → Int32 → fh_M → Option (Int32 × fh_M)
  | 0 => fun _ _ _ _ _ => none
  | n + 1 => fun t v1 v2 v4 M =>
    fo K 11 (some t) fun a11 =>
      if (M.1 a11 30) ≤ v4 then
      f_X11_kept_J101 K t (v1) (v2) M
    else
      fi K 13 (M.2.2 a11 27) (v4) fun a12 =>
        fi K 13 (M.2.2 a11 31) (v4) fun a13 =>
        fb (fh_si M a13 v4.toNatClampNeg (M.1 a12 v4.toNatClampNeg)) fun M14 =>
        fi K 13 (M14.2.2 a11 28) (v4) fun a15 =>
        fi K 13 (M14.2.2 a11 32) (v4) fun a16 =>
        fb (fh_si M14 a16 v4.toNatClampNeg (M14.1 a15 v4.toNatClampNeg)) fun M17 =>
        fi K 13 (M17.2.2 a11 29) (v4) fun a18 =>
        fi K 13 (M17.2.2 a11 33) (v4) fun a19 =>
        fb (fh_si M17 a19 v4.toNatClampNeg (M17.1 a18 v4.toNatClampNeg)) fun M20 =>
        f_X11_kept_L44 K n t (v1) (v2) (v4 + 1) M20
def f_X11_kept_J38 (K : fh_K) (t : Nat) (v1 : Int32) (v2 : Int32) (s0 : Int32) (s1 : Option Nat) (M : fh_M) : Option (Int32 × fh_M) :=
  fo K 11 (s1) fun a9 =>
    fb (fh_si M a9 30 (s0)) fun M10 =>
    f_X11_kept_L44 K 4096 t (v1) (v2) (0) M10
def f_X11_kept (K : fh_K) (M : fh_M) (t : Nat) (p1 : Int32) (p2 : Int32) : Option (Int32 × fh_M) :=
  fo K 11 (some t) fun a1 =>
    (f_X11_isFile K M a1 (p1)).bind fun r2 =>
    if r2 = 0 then
    some ((-1), M)
  else
    (f_X11_isFile K M a1 (p2)).bind fun r3 =>
      if r3 = 0 then
      some ((-1), M)
    else
      fc2 (f_X11_knows K M a1 (p1)) fun r4 M5 =>
        if r4 = (-1) then
        f_X11_kept_J38 K t (p1) (p2) (0) (some t) M5
      else
        f_X11_kept_J38 K t (p1) (p2) (M5.1 a1 25) (some t) M5
def f_X11_mayTurn (K : fh_K) (M : fh_M) (t : Nat) (p1 : Int32) (p2 : Int32) : Option (Int32) :=
  fo K 11 (some t) fun a1 =>
    fi K 13 (M.2.2 a1 24) (p1) fun a2 =>
    fi K 13 (M.2.2 a1 14) (M.1 a2 p1.toNatClampNeg) fun a3 =>
    if (M.1 a3 (M.1 a2 p1.toNatClampNeg).toNatClampNeg) < (M.1 a1 2) then
    some 0
  else
    fi K 13 (M.2.2 a1 21) (p1) fun a4 =>
      fi K 13 (M.2.2 a1 6) (M.1 a4 p1.toNatClampNeg) fun a5 =>
      if (p2 &&& ((M.1 a5 (M.1 a4 p1.toNatClampNeg).toNatClampNeg) ^^^ (-1))) = 0 then
      fi K 13 (M.2.2 a1 22) (p1) fun a6 =>
        if (p2 &&& (M.1 a6 p1.toNatClampNeg)) = 0 then
        some 1
      else
        some 0
    else
      some 0
def f_X11_measures_J153 (K : fh_K) (rec2 : Nat → Int32 → Int32 → Int32 → fh_M → Option (fh_M)) (t : Nat) (v1 : Int32) (v2 : Int32) (v3 : Int32) (M : fh_M) : Option (fh_M) :=
  rec2 t (v1) (v2) (v3 + 1) M
def f_X11_measures_J147 (K : fh_K) (rec2 : Nat → Int32 → Int32 → Int32 → fh_M → Option (fh_M)) (rec54 : Nat → Int32 → Int32 → Int32 → Int32 → fh_M → Option (fh_M)) (t : Nat) (v1 : Int32) (v2 : Int32) (v3 : Int32) (v4 : Int32) (M : fh_M) : Option (fh_M) :=
  rec54 t (v1) (v2) (v3) (v4 + 1) M
def f_X11_measures_L54 (K : fh_K) (rec2 : Nat → Int32 → Int32 → Int32 → fh_M → Option (fh_M)) : Nat → Nat → Int32 → Int32 → Int32 → Int32 → fh_M → Option (fh_M)
  | 0 => fun _ _ _ _ _ _ => none
  | n + 1 => fun t v1 v2 v3 v4 M =>
    fo K 11 (some t) fun a8 =>
      if (M.1 a8 19) ≤ v4 then
      f_X11_measures_J153 K rec2 t (v1) (v2) (v3) M
    else
      if v3 ≤ 0 then
        f_X11_measures_J153 K rec2 t (v1) (v2) (v3) M
      else
        fi K 13 (M.2.2 a8 21) (v4) fun a9 =>
          fi K 13 (M.2.2 a8 34) ((12 * (v3 - 1)) + (M.1 a9 v4.toNatClampNeg)) fun a10 =>
          fi K 13 (M.2.2 a8 23) (v4) fun a11 =>
          (f_X11_mayTurn K M a8 (v4) (v2)).bind fun r12 =>
          if r12 = 0 then
          f_X11_measures_J147 K rec2 (f_X11_measures_L54 K rec2 n) t (v1) (v2) (v3) (v4) M
        else
          fi K 13 (M.2.2 a8 20) (v4) fun a13 =>
            fi K 13 (M.2.2 a8 34) ((12 * v3) + (M.1 a13 v4.toNatClampNeg)) fun a14 =>
            if (M.1 a14 ((12 * v3) + (M.1 a13 v4.toNatClampNeg)).toNatClampNeg) ≤ ((M.1 a10 ((12 * (v3 - 1)) + (M.1 a9 v4.toNatClampNeg)).toNatClampNeg) + (M.1 a11 v4.toNatClampNeg)) then
            f_X11_measures_J147 K rec2 (f_X11_measures_L54 K rec2 n) t (v1) (v2) (v3) (v4) M
          else
            fb (fh_si M a14 ((12 * v3) + (M.1 a13 v4.toNatClampNeg)).toNatClampNeg ((M.1 a10 ((12 * (v3 - 1)) + (M.1 a9 v4.toNatClampNeg)).toNatClampNeg) + (M.1 a11 v4.toNatClampNeg))) fun M15 =>
              f_X11_measures_J147 K rec2 (f_X11_measures_L54 K rec2 n) t (v1) (v2) (v3) (v4) M15
def f_X11_measures_J51 (K : fh_K) (rec2 : Nat → Int32 → Int32 → Int32 → fh_M → Option (fh_M)) (t : Nat) (v1 : Int32) (v2 : Int32) (v3 : Int32) (M : fh_M) : Option (fh_M) :=
  f_X11_measures_L54 K rec2 4096 t (v1) (v2) (v3) (0) M
def f_X11_measures_J44 (K : fh_K) (rec2 : Nat → Int32 → Int32 → Int32 → fh_M → Option (fh_M)) (rec10 : Nat → Int32 → Int32 → Int32 → Int32 → fh_M → Option (fh_M)) (t : Nat) (v1 : Int32) (v2 : Int32) (v3 : Int32) (v4 : Int32) (s0 : Int32) (s1 : Int32) (s2 : Option Nat) (M : fh_M) : Option (fh_M) :=
  fi K 13 (s2) (s1) fun a6 =>
    fb (fh_si M a6 s1.toNatClampNeg (s0)) fun M7 =>
    rec10 t (v1) (v2) (v3) (v4 + 1) M7
def f_X11_measures_J42 (K : fh_K) (rec2 : Nat → Int32 → Int32 → Int32 → fh_M → Option (fh_M)) (rec10 : Nat → Int32 → Int32 → Int32 → Int32 → fh_M → Option (fh_M)) (t : Nat) (v1 : Int32) (v2 : Int32) (v3 : Int32) (v4 : Int32) (s0 : Int32) (s1 : Option Nat) (M : fh_M) : Option (fh_M) :=
  f_X11_measures_J44 K rec2 rec10 t (v1) (v2) (v3) (v4) (1000000) (s0) (s1) M
def f_X11_measures_L10 (K : fh_K) (rec2 : Nat → Int32 → Int32 → Int32 → fh_M → Option (fh_M)) : Nat → Nat → Int32 → Int32 → Int32 → Int32 → fh_M → Option (fh_M)
  | 0 => fun _ _ _ _ _ _ => none
  | n + 1 => fun t v1 v2 v3 v4 M =>
    if 12 ≤ v4 then
      f_X11_measures_J51 K rec2 t (v1) (v2) (v3) M
    else
      fo K 11 (some t) fun a2 =>
        if v3 = 0 then
        if v4 = v1 then
          f_X11_measures_J44 K rec2 (f_X11_measures_L10 K rec2 n) t (v1) (v2) (v3) (v4) (0) ((12 * v3) + v4) (M.2.2 a2 34) M
        else
          f_X11_measures_J42 K rec2 (f_X11_measures_L10 K rec2 n) t (v1) (v2) (v3) (v4) ((12 * v3) + v4) (M.2.2 a2 34) M
      else
        f_X11_measures_J42 K rec2 (f_X11_measures_L10 K rec2 n) t (v1) (v2) (v3) (v4) ((12 * v3) + v4) (M.2.2 a2 34) M
def f_X11_measures_L2 (K : fh_K) : Nat → Nat → Int32 → Int32 → Int32 → fh_M → Option (fh_M)
  | 0 => fun _ _ _ _ _ => none
  | n + 1 => fun t v1 v2 v3 M =>
    if 4 < v3 then
      some M
    else
      f_X11_measures_L10 K (f_X11_measures_L2 K n) 4096 t (v1) (v2) (v3) (0) M
def f_X11_measures (K : fh_K) (M : fh_M) (t : Nat) (p1 : Int32) (p2 : Int32) : Option (fh_M) :=
  f_X11_measures_L2 K 4096 t (p1) (p2) (0) M
def f_X11_bestRoad_J199 (K : fh_K) (rec119 : Nat → Int32 → Int32 → Int32 → Int32 → Int32 → fh_M → Option (Int32 × fh_M)) (t : Nat) (v3 : Int32) (v5 : Int32) (v6 : Int32) (v7 : Int32) (v8 : Int32) (M : fh_M) : Option (Int32 × fh_M) :=
  fo K 11 (some t) fun a30 =>
    fi K 13 (M.2.2 a30 36) (v5 - v7) fun a31 =>
    fb (fh_si M a31 (v5 - v7).toNatClampNeg (v8)) fun M32 =>
    fi K 13 (M32.2.2 a30 21) (v8) fun a33 =>
    rec119 t (v3) (M32.1 a33 v8.toNatClampNeg) (v5) (v6) (v7 + (-1)) M32
def f_X11_bestRoad_J193 (K : fh_K) (rec119 : Nat → Int32 → Int32 → Int32 → Int32 → Int32 → fh_M → Option (Int32 × fh_M)) (rec127 : Nat → Int32 → Int32 → Int32 → Int32 → Int32 → Int32 → fh_M → Option (Int32 × fh_M)) (t : Nat) (v3 : Int32) (v4 : Int32) (v5 : Int32) (v6 : Int32) (v7 : Int32) (v8 : Int32) (M : fh_M) : Option (Int32 × fh_M) :=
  rec127 t (v3) (v4) (v5) (v6) (v7) (v8 + 1) M
def f_X11_bestRoad_L127 (K : fh_K) (rec119 : Nat → Int32 → Int32 → Int32 → Int32 → Int32 → fh_M → Option (Int32 × fh_M)) : Nat → Nat → Int32 → Int32 → Int32 → Int32 → Int32 → Int32 → fh_M → Option (Int32 × fh_M)
  | 0 => fun _ _ _ _ _ _ _ _ => none
  | n + 1 => fun t v3 v4 v5 v6 v7 v8 M =>
    fo K 11 (some t) fun a20 =>
      fi K 13 (M.2.2 a20 20) (v8) fun a21 =>
      if (M.1 a21 v8.toNatClampNeg) = v4 then
      (f_X11_mayTurn K M a20 (v8) (v3)).bind fun r22 =>
        if r22 = 0 then
        f_X11_bestRoad_J193 K rec119 (f_X11_bestRoad_L127 K rec119 n) t (v3) (v4) (v5) (v6) (v7) (v8) M
      else
        fi K 13 (M.2.2 a20 21) (v8) fun a23 =>
          fi K 13 (M.2.2 a20 34) ((12 * (v7 - 1)) + (M.1 a23 v8.toNatClampNeg)) fun a24 =>
          fi K 13 (M.2.2 a20 23) (v8) fun a25 =>
          fi K 13 (M.2.2 a20 34) ((12 * v7) + v4) fun a26 =>
          if ((M.1 a24 ((12 * (v7 - 1)) + (M.1 a23 v8.toNatClampNeg)).toNatClampNeg) + (M.1 a25 v8.toNatClampNeg)) = (M.1 a26 ((12 * v7) + v4).toNatClampNeg) then
          f_X11_bestRoad_J199 K rec119 t (v3) (v5) (v6) (v7) (v8) M
        else
          f_X11_bestRoad_J193 K rec119 (f_X11_bestRoad_L127 K rec119 n) t (v3) (v4) (v5) (v6) (v7) (v8) M
    else
      f_X11_bestRoad_J193 K rec119 (f_X11_bestRoad_L127 K rec119 n) t (v3) (v4) (v5) (v6) (v7) (v8) M
def f_X11_bestRoad_L119 (K : fh_K) : Nat → Nat → Int32 → Int32 → Int32 → Int32 → Int32 → fh_M → Option (Int32 × fh_M)
  | 0 => fun _ _ _ _ _ _ _ => none
  | n + 1 => fun t v3 v4 v5 v6 v7 M =>
    if v7 ≤ 0 then
      some (v6, M)
    else
      f_X11_bestRoad_L127 K (f_X11_bestRoad_L119 K n) 4096 t (v3) (v4) (v5) (v6) (v7) (0) M
def f_X11_bestRoad_J85 (K : fh_K) (t : Nat) (v3 : Int32) (v4 : Int32) (v5 : Int32) (M : fh_M) : Option (Int32 × fh_M) :=
  fo K 11 (some t) fun a15 =>
    fi K 13 (M.2.2 a15 34) ((12 * v5) + v4) fun a16 =>
    if (M.1 a16 ((12 * v5) + v4).toNatClampNeg) < 1000000 then
    fb (fh_si M a15 35 (v5)) fun M17 =>
      f_X11_bestRoad_L119 K 4096 t (v3) (v4) (v5) (M.1 a16 ((12 * v5) + v4).toNatClampNeg) (v5) M17
  else
    some ((-1), M)
def f_X11_bestRoad_J79 (K : fh_K) (rec40 : Nat → Int32 → Int32 → Int32 → Int32 → fh_M → Option (Int32 × fh_M)) (t : Nat) (v3 : Int32) (v4 : Int32) (v5 : Int32) (v6 : Int32) (M : fh_M) : Option (Int32 × fh_M) :=
  rec40 t (v3) (v4) (v5) (v6 + 1) M
def f_X11_bestRoad_L40 (K : fh_K) : Nat → Nat → Int32 → Int32 → Int32 → Int32 → fh_M → Option (Int32 × fh_M)
  | 0 => fun _ _ _ _ _ _ => none
  | n + 1 => fun t v3 v4 v5 v6 M =>
    if 4 < v6 then
      f_X11_bestRoad_J85 K t (v3) (v4) (v5) M
    else
      fo K 11 (some t) fun a10 =>
        fi K 13 (M.2.2 a10 34) ((12 * v6) + v4) fun a11 =>
        fi K 13 (M.2.2 a10 34) ((12 * v5) + v4) fun a12 =>
        if (M.1 a12 ((12 * v5) + v4).toNatClampNeg) ≤ (M.1 a11 ((12 * v6) + v4).toNatClampNeg) then
        f_X11_bestRoad_J79 K (f_X11_bestRoad_L40 K n) t (v3) (v4) (v5) (v6) M
      else
        f_X11_bestRoad_J79 K (f_X11_bestRoad_L40 K n) t (v3) (v4) (v6) (v6) M
def f_X11_bestRoad (K : fh_K) (M : fh_M) (t : Nat) (p1 : Int32) (p2 : Int32) : Option (Int32 × fh_M) :=
  fo K 11 (some t) fun a1 =>
    fi K 13 (M.2.2 a1 12) (p1) fun a2 =>
    fc2 (f_X11_properties K M a1 (p1)) fun r3 M4 =>
    fc2 (f_X11_knows K M4 a1 (p1)) fun r5 M6 =>
    if r5 = (-1) then
    some ((-1), M6)
  else
    (f_X11_measures K M6 a1 (p2) ((M.1 a2 p1.toNatClampNeg) &&& r3)).bind fun M8 =>
      f_X11_bestRoad_L40 K 4096 t ((M.1 a2 p1.toNatClampNeg) &&& r3) (r5) (0) (1) M8
def f_X11_road_L43 (K : fh_K) : Nat → Nat → Int32 → Int32 → fh_M → Option (Int32 × fh_M)
  | 0 => fun _ _ _ _ => none
  | n + 1 => fun t v3 v4 M =>
    fo K 11 (some t) fun a10 =>
      if (M.1 a10 35) ≤ v4 then
      some (v3, M)
    else
      fi K 13 (M.2.2 a10 36) (v4) fun a11 =>
        fi K 13 (M.2.2 a10 38) (v4) fun a12 =>
        fb (fh_si M a12 v4.toNatClampNeg (M.1 a11 v4.toNatClampNeg)) fun M13 =>
        f_X11_road_L43 K n t (v3) (v4 + 1) M13
def f_X11_road (K : fh_K) (M : fh_M) (t : Nat) (p1 : Int32) (p2 : Int32) : Option (Int32 × fh_M) :=
  fo K 11 (some t) fun a1 =>
    (f_X11_isFile K M a1 (p1)).bind fun r2 =>
    if r2 = 0 then
    some ((-1), M)
  else
    (f_X11_isMake K M a1 (p2)).bind fun r3 =>
      if r3 = 0 then
      some ((-1), M)
    else
      fc2 (f_X11_bestRoad K M a1 (p1) (p2)) fun r4 M5 =>
        if r4 = (-1) then
        some ((-1), M5)
      else
        fb (fh_si M5 a1 37 (M5.1 a1 35)) fun M6 =>
          f_X11_road_L43 K 4096 t (r4) (0) M6
def f_X11_step (K : fh_K) (M : fh_M) (t : Nat) (p1 : Int32) : Option (Int32) :=
  fo K 11 (some t) fun a1 =>
    (f_X11_lies K M (p1) (0) ((M.1 a1 37) - 1)).bind fun r2 =>
    if r2 = 0 then
    some (-1)
  else
    fi K 13 (M.2.2 a1 38) (p1) fun a3 =>
      some (M.1 a3 p1.toNatClampNeg)
def f_X11_lives (K : fh_K) (M : fh_M) (t : Nat) (p1 : Int32) (p2 : Int32) : Option (Int32) :=
  if p2 = 0 then
    fo K 11 (some t) fun a1 =>
      fi K 13 (M.2.2 a1 15) (p1) fun a2 =>
      some (M.1 a2 p1.toNatClampNeg)
  else
    fo K 11 (some t) fun a3 =>
      fi K 13 (M.2.2 a3 14) (p1) fun a4 =>
      some (M.1 a4 p1.toNatClampNeg)
def f_X11_lastOf_J287 (K : fh_K) (rec19 : Nat → Int32 → Int32 → Int32 → Int32 → fh_M → Option (Int32 × fh_M)) (t : Nat) (v2 : Int32) (v3 : Int32) (v5 : Int32) (s0 : Int32) (M : fh_M) : Option (Int32 × fh_M) :=
  rec19 t (v2) (v3) (s0) (v5 + 1) M
def f_X11_lastOf_J253 (K : fh_K) (rec19 : Nat → Int32 → Int32 → Int32 → Int32 → fh_M → Option (Int32 × fh_M)) (t : Nat) (v2 : Int32) (v3 : Int32) (v4 : Int32) (v5 : Int32) (M : fh_M) : Option (Int32 × fh_M) :=
  fo K 11 (some t) fun a34 =>
    fi K 13 (M.2.2 a34 39) ((12 * v5) + v3) fun a35 =>
    if (M.1 a35 ((12 * v5) + v3).toNatClampNeg) ≤ v4 then
    f_X11_lastOf_J287 K rec19 t (v2) (v3) (v5) (v4) M
  else
    f_X11_lastOf_J287 K rec19 t (v2) (v3) (v5) (M.1 a35 ((12 * v5) + v3).toNatClampNeg) M
def f_X11_lastOf_J247 (K : fh_K) (rec19 : Nat → Int32 → Int32 → Int32 → Int32 → fh_M → Option (Int32 × fh_M)) (rec132 : Nat → Int32 → Int32 → Int32 → Int32 → Int32 → fh_M → Option (Int32 × fh_M)) (t : Nat) (v2 : Int32) (v3 : Int32) (v4 : Int32) (v5 : Int32) (v6 : Int32) (M : fh_M) : Option (Int32 × fh_M) :=
  rec132 t (v2) (v3) (v4) (v5) (v6 + 1) M
def f_X11_lastOf_J202 (K : fh_K) (rec19 : Nat → Int32 → Int32 → Int32 → Int32 → fh_M → Option (Int32 × fh_M)) (rec132 : Nat → Int32 → Int32 → Int32 → Int32 → Int32 → fh_M → Option (Int32 × fh_M)) (t : Nat) (v2 : Int32) (v3 : Int32) (v4 : Int32) (v5 : Int32) (v6 : Int32) (s0 : Int32) (M : fh_M) : Option (Int32 × fh_M) :=
  fo K 11 (some t) fun a29 =>
    fi K 13 (M.2.2 a29 20) (v6) fun a30 =>
    fi K 13 (M.2.2 a29 39) ((12 * v5) + (M.1 a30 v6.toNatClampNeg)) fun a31 =>
    if s0 ≤ (M.1 a31 ((12 * v5) + (M.1 a30 v6.toNatClampNeg)).toNatClampNeg) then
    f_X11_lastOf_J247 K rec19 rec132 t (v2) (v3) (v4) (v5) (v6) M
  else
    fb (fh_si M a31 ((12 * v5) + (M.1 a30 v6.toNatClampNeg)).toNatClampNeg (s0)) fun M32 =>
      f_X11_lastOf_J247 K rec19 rec132 t (v2) (v3) (v4) (v5) (v6) M32
def f_X11_lastOf_L132 (K : fh_K) (rec19 : Nat → Int32 → Int32 → Int32 → Int32 → fh_M → Option (Int32 × fh_M)) : Nat → Nat → Int32 → Int32 → Int32 → Int32 → Int32 → fh_M → Option (Int32 × fh_M)
  | 0 => fun _ _ _ _ _ _ _ => none
  | n + 1 => fun t v2 v3 v4 v5 v6 M =>
    fo K 11 (some t) fun a20 =>
      if (M.1 a20 19) ≤ v6 then
      f_X11_lastOf_J253 K rec19 t (v2) (v3) (v4) (v5) M
    else
      if v5 ≤ 0 then
        f_X11_lastOf_J253 K rec19 t (v2) (v3) (v4) (v5) M
      else
        fi K 13 (M.2.2 a20 21) (v6) fun a21 =>
          fi K 13 (M.2.2 a20 39) ((12 * (v5 - 1)) + (M.1 a21 v6.toNatClampNeg)) fun a22 =>
          fi K 13 (M.2.2 a20 24) (v6) fun a23 =>
          (f_X11_lives K M a20 (M.1 a23 v6.toNatClampNeg) (v2)).bind fun r24 =>
          if (M.1 a22 ((12 * (v5 - 1)) + (M.1 a21 v6.toNatClampNeg)).toNatClampNeg) ≤ r24 then
          f_X11_lastOf_J202 K rec19 (f_X11_lastOf_L132 K rec19 n) t (v2) (v3) (v4) (v5) (v6) (M.1 a22 ((12 * (v5 - 1)) + (M.1 a21 v6.toNatClampNeg)).toNatClampNeg) M
        else
          (f_X11_lives K M a20 (M.1 a23 v6.toNatClampNeg) (v2)).bind fun r25 =>
            f_X11_lastOf_J202 K rec19 (f_X11_lastOf_L132 K rec19 n) t (v2) (v3) (v4) (v5) (v6) (r25) M
def f_X11_lastOf_J129 (K : fh_K) (rec19 : Nat → Int32 → Int32 → Int32 → Int32 → fh_M → Option (Int32 × fh_M)) (t : Nat) (v2 : Int32) (v3 : Int32) (v4 : Int32) (v5 : Int32) (M : fh_M) : Option (Int32 × fh_M) :=
  f_X11_lastOf_L132 K rec19 4096 t (v2) (v3) (v4) (v5) (0) M
def f_X11_lastOf_J123 (K : fh_K) (rec19 : Nat → Int32 → Int32 → Int32 → Int32 → fh_M → Option (Int32 × fh_M)) (rec58 : Nat → Int32 → Int32 → Int32 → Int32 → Int32 → fh_M → Option (Int32 × fh_M)) (t : Nat) (v2 : Int32) (v3 : Int32) (v4 : Int32) (v5 : Int32) (v6 : Int32) (M : fh_M) : Option (Int32 × fh_M) :=
  rec58 t (v2) (v3) (v4) (v5) (v6 + 1) M
def f_X11_lastOf_L58 (K : fh_K) (rec19 : Nat → Int32 → Int32 → Int32 → Int32 → fh_M → Option (Int32 × fh_M)) : Nat → Nat → Int32 → Int32 → Int32 → Int32 → Int32 → fh_M → Option (Int32 × fh_M)
  | 0 => fun _ _ _ _ _ _ _ => none
  | n + 1 => fun t v2 v3 v4 v5 v6 M =>
    fo K 11 (some t) fun a10 =>
      if (M.1 a10 16) ≤ v6 then
      f_X11_lastOf_J129 K rec19 t (v2) (v3) (v4) (v5) M
    else
      if v5 = 0 then
        fi K 13 (M.2.2 a10 18) (v6) fun a11 =>
          (f_X11_lives K M a10 (M.1 a11 v6.toNatClampNeg) (v2)).bind fun r12 =>
          fi K 13 (M.2.2 a10 17) (v6) fun a13 =>
          fi K 13 (M.2.2 a10 39) (M.1 a13 v6.toNatClampNeg) fun a14 =>
          if r12 ≤ (M.1 a14 (M.1 a13 v6.toNatClampNeg).toNatClampNeg) then
          f_X11_lastOf_J123 K rec19 (f_X11_lastOf_L58 K rec19 n) t (v2) (v3) (v4) (v5) (v6) M
        else
          (f_X11_lives K M a10 (M.1 a11 v6.toNatClampNeg) (v2)).bind fun r15 =>
            fb (fh_si M a14 (M.1 a13 v6.toNatClampNeg).toNatClampNeg (r15)) fun M16 =>
            f_X11_lastOf_J123 K rec19 (f_X11_lastOf_L58 K rec19 n) t (v2) (v3) (v4) (v5) (v6) M16
      else
        f_X11_lastOf_J129 K rec19 t (v2) (v3) (v4) (v5) M
def f_X11_lastOf_J55 (K : fh_K) (rec19 : Nat → Int32 → Int32 → Int32 → Int32 → fh_M → Option (Int32 × fh_M)) (t : Nat) (v2 : Int32) (v3 : Int32) (v4 : Int32) (v5 : Int32) (M : fh_M) : Option (Int32 × fh_M) :=
  f_X11_lastOf_L58 K rec19 4096 t (v2) (v3) (v4) (v5) (0) M
def f_X11_lastOf_L28 (K : fh_K) (rec19 : Nat → Int32 → Int32 → Int32 → Int32 → fh_M → Option (Int32 × fh_M)) : Nat → Nat → Int32 → Int32 → Int32 → Int32 → Int32 → fh_M → Option (Int32 × fh_M)
  | 0 => fun _ _ _ _ _ _ _ => none
  | n + 1 => fun t v2 v3 v4 v5 v6 M =>
    if 12 ≤ v6 then
      f_X11_lastOf_J55 K rec19 t (v2) (v3) (v4) (v5) M
    else
      fo K 11 (some t) fun a6 =>
        fi K 13 (M.2.2 a6 39) ((12 * v5) + v6) fun a7 =>
        fb (fh_si M a7 ((12 * v5) + v6).toNatClampNeg ((-1))) fun M8 =>
        f_X11_lastOf_L28 K rec19 n t (v2) (v3) (v4) (v5) (v6 + 1) M8
def f_X11_lastOf_L19 (K : fh_K) : Nat → Nat → Int32 → Int32 → Int32 → Int32 → fh_M → Option (Int32 × fh_M)
  | 0 => fun _ _ _ _ _ _ => none
  | n + 1 => fun t v2 v3 v4 v5 M =>
    if 4 < v5 then
      some (v4, M)
    else
      f_X11_lastOf_L28 K (f_X11_lastOf_L19 K n) 4096 t (v2) (v3) (v4) (v5) (0) M
def f_X11_lastOf (K : fh_K) (M : fh_M) (t : Nat) (p1 : Int32) (p2 : Int32) : Option (Int32 × fh_M) :=
  fo K 11 (some t) fun a1 =>
    fc2 (f_X11_knows K M a1 (p1)) fun r2 M3 =>
    if r2 = (-1) then
    some ((-1), M3)
  else
    f_X11_lastOf_L19 K 4096 t (p2) (r2) ((-1)) (0) M3
def f_X11_last (K : fh_K) (M : fh_M) (t : Nat) (p1 : Int32) (p2 : Int32) : Option (Int32 × fh_M) :=
  fo K 11 (some t) fun a1 =>
    (f_X11_isFile K M a1 (p1)).bind fun r2 =>
    if r2 = 0 then
    some ((-1), M)
  else
    fc2 (f_X11_lastOf K M a1 (p1) (p2)) fun r3 M4 =>
      some (r3, M4)
def f_X11_isRead_J37 (K : fh_K) (M : fh_M) (rec2 : Nat → Int32 → Int32 → Int32 → Option (Int32)) (t : Nat) (v1 : Int32) (v2 : Int32) (v3 : Int32) : Option (Int32) :=
  rec2 t (v1) (v2) (v3 + 1) 
def f_X11_isRead_L2 (K : fh_K) (M : fh_M) : Nat → Nat → Int32 → Int32 → Int32 → Option (Int32)
  | 0 => fun _ _ _ _ => none
  | n + 1 => fun t v1 v2 v3 =>
    fo K 11 (some t) fun a1 =>
      if (M.1 a1 16) ≤ v3 then
      some 0
    else
      fi K 13 (M.2.2 a1 17) (v3) fun a2 =>
        if (M.1 a2 v3.toNatClampNeg) = v1 then
        fi K 13 (M.2.2 a1 18) (v3) fun a3 =>
          fi K 13 (M.2.2 a1 14) (M.1 a3 v3.toNatClampNeg) fun a4 =>
          if (M.1 a4 (M.1 a3 v3.toNatClampNeg).toNatClampNeg) < v2 then
          f_X11_isRead_J37 K M (f_X11_isRead_L2 K M n) t (v1) (v2) (v3) 
        else
          some 1
      else
        f_X11_isRead_J37 K M (f_X11_isRead_L2 K M n) t (v1) (v2) (v3) 
def f_X11_isRead (K : fh_K) (M : fh_M) (t : Nat) (p1 : Int32) (p2 : Int32) : Option (Int32) :=
  f_X11_isRead_L2 K M 4096 t (p1) (p2) (0) 
def f_X11_isPlanned_J28 (K : fh_K) (t : Nat) (v1 : Int32) (M : fh_M) : Option (Int32 × fh_M) :=
  fo K 11 (some t) fun a5 =>
    fc2 (f_X11_knows K M a5 (v1)) fun r6 M7 =>
    if r6 = (-1) then
    some (0, M7)
  else
    some (1, M7)
def f_X11_isPlanned_L2 (K : fh_K) : Nat → Nat → Int32 → Int32 → fh_M → Option (Int32 × fh_M)
  | 0 => fun _ _ _ _ => none
  | n + 1 => fun t v1 v2 M =>
    fo K 11 (some t) fun a1 =>
      if (M.1 a1 9) ≤ v2 then
      f_X11_isPlanned_J28 K t (v1) M
    else
      fi K 13 (M.2.2 a1 13) (v2) fun a2 =>
        if (M.1 a2 v2.toNatClampNeg) = v1 then
        some (0, M)
      else
        f_X11_isPlanned_L2 K n t (v1) (v2 + 1) M
def f_X11_isPlanned (K : fh_K) (M : fh_M) (t : Nat) (p1 : Int32) : Option (Int32 × fh_M) :=
  f_X11_isPlanned_L2 K 4096 t (p1) (0) M
def f_X11_isBetter_J75 (K : fh_K) (M : fh_M) (t : Nat) (v2 : Int32) : Option (Int32) :=
  fo K 11 (some t) fun a11 =>
    fi K 13 (M.2.2 a11 36) (v2) fun a12 =>
    fi K 13 (M.2.2 a11 42) (v2) fun a13 =>
    if (M.1 a13 v2.toNatClampNeg) ≤ (M.1 a12 v2.toNatClampNeg) then
    some 0
  else
    some 1
def f_X11_isBetter_L52 (K : fh_K) (M : fh_M) : Nat → Nat → Int32 → Option (Int32)
  | 0 => fun _ _ => none
  | n + 1 => fun t v2 =>
    fo K 11 (some t) fun a6 =>
      if (M.1 a6 35) ≤ v2 then
      some 0
    else
      fi K 13 (M.2.2 a6 36) (v2) fun a7 =>
        fi K 13 (M.2.2 a6 42) (v2) fun a8 =>
        if (M.1 a7 v2.toNatClampNeg) = (M.1 a8 v2.toNatClampNeg) then
        f_X11_isBetter_L52 K M n t (v2 + 1) 
      else
        f_X11_isBetter_J75 K M t (v2) 
def f_X11_isBetter (K : fh_K) (M : fh_M) (t : Nat) (p1 : Int32) : Option (Int32) :=
  fo K 11 (some t) fun a1 =>
    if p1 = (M.1 a1 40) then
    if (M.1 a1 35) = (M.1 a1 41) then
      f_X11_isBetter_L52 K M 4096 t (0) 
    else
      if (M.1 a1 41) ≤ (M.1 a1 35) then
        some 0
      else
        some 1
  else
    if (M.1 a1 40) ≤ p1 then
      some 0
    else
      some 1
def f_X11_goalOf_J108 (K : fh_K) (rec5 : Nat → Int32 → Int32 → Int32 → Int32 → fh_M → Option (Int32 × fh_M)) (t : Nat) (v1 : Int32) (v2 : Int32) (v3 : Int32) (v4 : Int32) (M : fh_M) : Option (Int32 × fh_M) :=
  rec5 t (v1) (v2) (v3) (v4 + 1) M
def f_X11_goalOf_L79 (K : fh_K) (rec5 : Nat → Int32 → Int32 → Int32 → Int32 → fh_M → Option (Int32 × fh_M)) : Nat → Nat → Int32 → Int32 → Int32 → Int32 → Int32 → fh_M → Option (Int32 × fh_M)
  | 0 => fun _ _ _ _ _ _ _ => none
  | n + 1 => fun t v1 v2 v3 v4 v6 M =>
    fo K 11 (some t) fun a14 =>
      if (M.1 a14 35) ≤ v6 then
      f_X11_goalOf_J108 K rec5 t (v1) (v2) (v3) (v4) M
    else
      fi K 13 (M.2.2 a14 36) (v6) fun a15 =>
        fi K 13 (M.2.2 a14 42) (v6) fun a16 =>
        fb (fh_si M a16 v6.toNatClampNeg (M.1 a15 v6.toNatClampNeg)) fun M17 =>
        f_X11_goalOf_L79 K rec5 n t (v1) (v2) (v3) (v4) (v6 + 1) M17
def f_X11_goalOf_J59 (K : fh_K) (rec5 : Nat → Int32 → Int32 → Int32 → Int32 → fh_M → Option (Int32 × fh_M)) (t : Nat) (v1 : Int32) (v2 : Int32) (v4 : Int32) (v5 : Int32) (M : fh_M) : Option (Int32 × fh_M) :=
  fo K 11 (some t) fun a11 =>
    fb (fh_si M a11 40 (v5)) fun M12 =>
    fb (fh_si M12 a11 41 (M12.1 a11 35)) fun M13 =>
    f_X11_goalOf_L79 K rec5 4096 t (v1) (v2) (v4) (v4) (0) M13
def f_X11_goalOf_L5 (K : fh_K) : Nat → Nat → Int32 → Int32 → Int32 → Int32 → fh_M → Option (Int32 × fh_M)
  | 0 => fun _ _ _ _ _ _ => none
  | n + 1 => fun t v1 v2 v3 v4 M =>
    fo K 11 (some t) fun a1 =>
      if (M.1 a1 3) ≤ v4 then
      some (v3, M)
    else
      (f_X11_isRead K M a1 (v4) (v1)).bind fun r2 =>
        if r2 = 0 then
        f_X11_goalOf_J108 K (f_X11_goalOf_L5 K n) t (v1) (v2) (v3) (v4) M
      else
        fc2 (f_X11_bestRoad K M a1 (v2) (v4)) fun r3 M4 =>
          if r3 = (-1) then
          f_X11_goalOf_J108 K (f_X11_goalOf_L5 K n) t (v1) (v2) (v3) (v4) M4
        else
          if v3 = (-1) then
            f_X11_goalOf_J59 K (f_X11_goalOf_L5 K n) t (v1) (v2) (v4) (r3) M4
          else
            (f_X11_isBetter K M4 a1 (r3)).bind fun r5 =>
              if r5 = 0 then
              f_X11_goalOf_J108 K (f_X11_goalOf_L5 K n) t (v1) (v2) (v3) (v4) M4
            else
              f_X11_goalOf_J59 K (f_X11_goalOf_L5 K n) t (v1) (v2) (v4) (r3) M4
def f_X11_goalOf (K : fh_K) (M : fh_M) (t : Nat) (p1 : Int32) (p2 : Int32) : Option (Int32 × fh_M) :=
  f_X11_goalOf_L5 K 4096 t (p1) (p2) ((-1)) (0) M
def f_X11_plan_J73 (K : fh_K) (v2 : Int32) (v3 : Int32) (M : fh_M) : Option (Int32 × fh_M) :=
  if v3 = 0 then
    some (v2, M)
  else
    some ((-2), M)
def f_X11_plan_J67 (K : fh_K) (rec23 : Nat → Int32 → Int32 → Int32 → Int32 → fh_M → Option (Int32 × fh_M)) (t : Nat) (v1 : Int32) (v2 : Int32) (v3 : Int32) (v4 : Int32) (M : fh_M) : Option (Int32 × fh_M) :=
  rec23 t (v1) (v2) (v3) (v4 + 1) M
def f_X11_plan_L23 (K : fh_K) : Nat → Nat → Int32 → Int32 → Int32 → Int32 → fh_M → Option (Int32 × fh_M)
  | 0 => fun _ _ _ _ _ _ => none
  | n + 1 => fun t v1 v2 v3 v4 M =>
    fo K 11 (some t) fun a4 =>
      if (M.1 a4 9) ≤ v4 then
      f_X11_plan_J73 K (v2) (v3) M
    else
      fc2 (f_X11_isPlanned K M a4 (v4)) fun r5 M6 =>
        if r5 = 0 then
        f_X11_plan_J67 K (f_X11_plan_L23 K n) t (v1) (v2) (v3) (v4) M6
      else
        fc2 (f_X11_goalOf K M6 a4 (v1) (v4)) fun r7 M8 =>
          if r7 = (-1) then
          f_X11_plan_J67 K (f_X11_plan_L23 K n) t (v1) (v2) (1) (v4) M8
        else
          f_X11_plan_J67 K (f_X11_plan_L23 K n) t (v1) (v2 + (M8.1 a4 40)) (v3) (v4) M8
def f_X11_plan (K : fh_K) (M : fh_M) (t : Nat) (p1 : Int32) : Option (Int32 × fh_M) :=
  fo K 11 (some t) fun a1 =>
    (f_X11_lies K M (p1) (M.1 a1 2) (999)).bind fun r2 =>
    if r2 = 0 then
    some ((-1), M)
  else
    f_X11_plan_L23 K 4096 t (p1) (0) (0) (0) M
def f_X11_goal (K : fh_K) (M : fh_M) (t : Nat) (p1 : Int32) (p2 : Int32) : Option (Int32 × fh_M) :=
  fo K 11 (some t) fun a1 =>
    (f_X11_lies K M (p1) (M.1 a1 2) (999)).bind fun r2 =>
    if r2 = 0 then
    some ((-1), M)
  else
    (f_X11_isFile K M a1 (p2)).bind fun r3 =>
      if r3 = 0 then
      some ((-1), M)
    else
      fc2 (f_X11_isPlanned K M a1 (p2)) fun r4 M5 =>
        if r4 = 0 then
        some ((-1), M5)
      else
        fc2 (f_X11_goalOf K M5 a1 (p1) (p2)) fun r6 M7 =>
          some (r6, M7)
def f_X11_look_L127 (K : fh_K) : Nat → Nat → Int32 → fh_M → Option (Int32 × fh_M)
  | 0 => fun _ _ _ => none
  | n + 1 => fun t v3 M =>
    fo K 11 (some t) fun a21 =>
      fi K 13 (M.2.2 a21 13) (v3) fun a22 =>
      if (M.1 a22 v3.toNatClampNeg) = (-1) then
      some (v3, M)
    else
      f_X11_look_L127 K n t (M.1 a22 v3.toNatClampNeg) M
def f_X11_look (K : fh_K) (M : fh_M) (t : Nat) (p1 : Int32) (p2 : Int32) : Option (Int32 × fh_M) :=
  fo K 11 (some t) fun a1 =>
    (f_X11_isFile K M a1 (p1)).bind fun r2 =>
    if r2 = 0 then
    some ((-1), M)
  else
    fi K 13 (M.2.2 a1 11) (p1) fun a3 =>
      (f_X11_lies K M (p2 - 100) (0) ((M.1 a3 p1.toNatClampNeg) - 1)).bind fun r4 =>
      if r4 = 0 then
      if p2 = 0 then
        some (M.1 a3 p1.toNatClampNeg, M)
      else
      if p2 = 1 then
        fc2 (f_X11_knows K M a1 (p1)) fun r7 M8 =>
          if r7 = (-1) then
          some (0, M8)
        else
          some (M8.1 a1 25, M8)
      else
      if p2 = 2 then
        fc2 (f_X11_properties K M a1 (p1)) fun r11 M12 =>
          some (r11, M12)
      else
      if p2 = 3 then
        fi K 13 (M.2.2 a1 12) (p1) fun a14 =>
          some (M.1 a14 p1.toNatClampNeg, M)
      else
      if p2 = 4 then
        fi K 13 (M.2.2 a1 13) (p1) fun a16 =>
          some (M.1 a16 p1.toNatClampNeg, M)
      else
      if p2 = 5 then
        f_X11_look_L127 K 4096 t (p1) M
      else
        some ((-1), M)
    else
      (f_X11_byteAt K M a1 (p1) (p2 - 100)).bind fun r18 =>
        some (r18, M)
def f_X11_count_J142 (K : fh_K) (rec115 : Nat → Int32 → Int32 → fh_M → Option (Int32 × fh_M)) (t : Nat) (v3 : Int32) (s0 : Int32) (s1 : Int32) (M : fh_M) : Option (Int32 × fh_M) :=
  rec115 t (s1 + s0) (v3 + 1) M
def f_X11_count_L115 (K : fh_K) : Nat → Nat → Int32 → Int32 → fh_M → Option (Int32 × fh_M)
  | 0 => fun _ _ _ _ => none
  | n + 1 => fun t v2 v3 M =>
    fo K 11 (some t) fun a15 =>
      if (M.1 a15 9) ≤ v3 then
      some (v2, M)
    else
      fc2 (f_X11_lastOf K M a15 (v3) (0)) fun r16 M17 =>
        if (M17.1 a15 2) ≤ r16 then
        f_X11_count_J142 K (f_X11_count_L115 K n) t (v3) (0) (v2) M17
      else
        f_X11_count_J142 K (f_X11_count_L115 K n) t (v3) (1) (v2) M17
def f_X11_count_J103 (K : fh_K) (rec80 : Nat → Int32 → Int32 → fh_M → Option (Int32 × fh_M)) (t : Nat) (v3 : Int32) (s0 : Int32) (s1 : Int32) (M : fh_M) : Option (Int32 × fh_M) :=
  rec80 t (s1 + s0) (v3 + 1) M
def f_X11_count_L80 (K : fh_K) : Nat → Nat → Int32 → Int32 → fh_M → Option (Int32 × fh_M)
  | 0 => fun _ _ _ _ => none
  | n + 1 => fun t v2 v3 M =>
    fo K 11 (some t) fun a20 =>
      if (M.1 a20 9) ≤ v3 then
      some (v2, M)
    else
      fc2 (f_X11_knows K M a20 (v3)) fun r21 M22 =>
        if r21 = (-1) then
        f_X11_count_J103 K (f_X11_count_L80 K n) t (v3) (1) (v2) M22
      else
        f_X11_count_J103 K (f_X11_count_L80 K n) t (v3) (0) (v2) M22
def f_X11_count (K : fh_K) (M : fh_M) (t : Nat) (p1 : Int32) : Option (Int32 × fh_M) :=
  if p1 = 0 then
    fo K 11 (some t) fun a2 =>
      some (M.1 a2 3, M)
  else
  if p1 = 1 then
    fo K 11 (some t) fun a4 =>
      some (M.1 a4 9, M)
  else
  if p1 = 2 then
    fo K 11 (some t) fun a6 =>
      some (M.1 a6 16, M)
  else
  if p1 = 3 then
    fo K 11 (some t) fun a8 =>
      some (M.1 a8 19, M)
  else
  if p1 = 4 then
    fo K 11 (some t) fun a10 =>
      some (M.1 a10 2, M)
  else
  if p1 = 5 then
    fo K 11 (some t) fun a12 =>
      some (M.1 a12 1, M)
  else
  if p1 = 6 then
    f_X11_count_L80 K 4096 t (0) (0) M
  else
  if p1 = 7 then
    f_X11_count_L115 K 4096 t (0) (0) M
  else
    some ((-1), M)
abbrev rm_X11_init : Room := { frames := 1, cells := 30, slots := 3192, locals := 24 }
set_option maxRecDepth 10000 in
theorem r_X11_init_L244 {X : fh_X} {M' : fh_M} {K' : fh_K} {sz' : Nat} (C : fh_C X 2 cX11_init RX11) (hnm : X.2.2.2.2.2.2.2.1.name = "<init>") (E : fh_E X rm_X11_init none none K' M' sz') : ∀ (n : Nat) (t : Nat) (v1 : Int32) (sz : Nat) (K : fh_K) (M : fh_M), f_X11_init_L244 n t v1 sz K M = some (sz', K', M') → fh_V X rm_X11_init 2 (sz, 30, 3192) K M 244 [(0, va_rf (some t)), (1, .int v1)] [] := by
  intro n
  induction n with
  | zero => intro t v1 sz K M h; cases h
  | succ n ih =>
    intro t v1 sz K M h
    unfold f_X11_init_L244 at h
    refine fv_iload_n C 1 rfl rfl dX11_init_244 ?_
    refine fv_bipush (v := 8) C (by decide) dX11_init_245 ?_
    refine fv_icmp_ge C 274 (by decide) dX11_init_247 (fun c156 => ?_) (fun c156 => ?_)
    · replace h := itT c156 h
      cases h
      exact fv_vret (z := (0, 0, 0)) (st := []) C E dX11_init_274
    · replace h := itF c156 h
      refine fv_aload_n C 0 rfl rfl dX11_init_250 ?_
      replace h := fo_s h
      obtain ⟨a151, ea151, ka151, h⟩ := h
      refine fv_getR C fl_RX11_42 ea151 ka151 dX11_init_251 ?_
      refine fv_iload_n C 1 rfl rfl dX11_init_254 ?_
      refine fv_sipush (v := 999) C (by decide) dX11_init_255 ?_
      replace h := fi_s h
      obtain ⟨a152, ea152, ka152, ia152, h⟩ := h
      replace h := fb_s h
      obtain ⟨M153, eM153, h⟩ := h
      refine fv_iast C ea152 ka152 ia152 dX11_init_258 (fv_eqM eM153 ?_)
      refine fv_aload_n C 0 rfl rfl dX11_init_259 ?_
      refine fv_getR C fl_RX11_45 ea151 ka151 dX11_init_260 ?_
      refine fv_iload_n C 1 rfl rfl dX11_init_263 ?_
      refine fv_sipush (v := 999) C (by decide) dX11_init_264 ?_
      replace h := fi_s h
      obtain ⟨a154, ea154, ka154, ia154, h⟩ := h
      replace h := fb_s h
      obtain ⟨M155, eM155, h⟩ := h
      refine fv_iast C ea154 ka154 ia154 dX11_init_267 (fv_eqM eM155 ?_)
      refine fv_iinc (v := v1 + 1) (lv' := [(1, .int (v1 + 1)), (0, va_rf (some t))]) C 1 rfl (by first | rfl | exact congrArg _ (by decide)) (by decide) (by first | rfl | simp [va_rf_cat]) dX11_init_268 ?_
      refine fv_goto C 244 (by decide) dX11_init_271 ?_
      refine fv_sub (cc := ⟨#[]⟩) (own := "") [1, 0] rfl ?_
      exact ih _ _ _ _ _ h
set_option maxRecDepth 10000 in
theorem r_X11_init (l : Launch) (D : fh_D) (A : Nat → Prop) {K : fh_K} {sz : Nat} {M : fh_M} {M' : fh_M} {K' : fh_K} {sz' : Nat} {t : Nat} (h : f_X11_init sz K M t = some (sz', K', M')) : fh_Met l yX11_init cX11_init 2 none rm_X11_init D K M sz A [va_rf (some t)] none K' M' sz' := by
  refine fh_enter (by decide) (by simp [lg_sl, va_rf_cat, cat_i, cat_l]) (lv := [(0, va_rf (some t))]) (by simp [lv_args, va_rf_cat, cat_i, cat_l]) ?_
  intro X C E hnm _ _ _
  replace C : fh_C X 2 cX11_init RX11 := C
  unfold f_X11_init at h
  refine fv_aload_n C 0 rfl rfl dX11_init_0 ?_
  refine fv_objInit C lk_RX11_1 jw_oi_instanceMethod jw_oi_code (Nat.le_of_ble_eq_true rfl) (by simp [va_rf_cat, cat_i, cat_l]) dX11_init_1 ?_
  refine fv_aload_n C 0 rfl rfl dX11_init_4 ?_
  refine fv_bipush (v := 80) C (by decide) dX11_init_5 ?_
  replace h := fn_s h
  obtain ⟨N1, pN1, qN1, bN1, h⟩ := h
  replace h := fb_s h
  obtain ⟨K2, eK2, h⟩ := h
  replace h := fb_s h
  obtain ⟨M3, eM3, h⟩ := h
  refine fv_newB C ac_byte pN1 qN1 (Nat.le_trans bN1 (by decide)) (Nat.le_of_ble_eq_true rfl) (by show 0 + N1 ≤ _; exact Nat.le_trans (Nat.add_le_add_left bN1 _) (Nat.le_of_ble_eq_true rfl)) dX11_init_7 ?_
  refine fv_eqK eK2 (fv_eqM eM3 ?_)
  refine fv_widen (mc := 1) (ms := 80) (cc := ⟨#[]⟩) (own := "") (Nat.le_of_ble_eq_true rfl) (by exact Nat.add_le_add_left bN1 _) ?_
  replace h := fo_s h
  obtain ⟨a4, ea4, ka4, h⟩ := h
  replace h := fb_s h
  obtain ⟨M5, eM5, h⟩ := h
  refine fv_putFR (fin := true) C fl_RX11_7 ea4 ka4 rfl hnm (narrow_rf_a _ _) dX11_init_9 (fv_eqM eM5 ?_)
  refine fv_aload_n C 0 rfl rfl dX11_init_12 ?_
  refine fv_bipush (v := 48) C (by decide) dX11_init_13 ?_
  replace h := fn_s h
  obtain ⟨N6, pN6, qN6, bN6, h⟩ := h
  replace h := fb_s h
  obtain ⟨K7, eK7, h⟩ := h
  replace h := fb_s h
  obtain ⟨M8, eM8, h⟩ := h
  refine fv_newI C ac_int pN6 qN6 (Nat.le_trans bN6 (by decide)) (Nat.le_of_ble_eq_true rfl) (by show 80 + N6 ≤ _; exact Nat.le_trans (Nat.add_le_add_left bN6 _) (Nat.le_of_ble_eq_true rfl)) dX11_init_15 ?_
  refine fv_eqK eK7 (fv_eqM eM8 ?_)
  refine fv_widen (mc := 2) (ms := 128) (cc := ⟨#[]⟩) (own := "") (Nat.le_of_ble_eq_true rfl) (by exact Nat.add_le_add_left bN6 _) ?_
  replace h := fo_s h
  obtain ⟨a9, ea9, ka9, h⟩ := h
  replace h := fb_s h
  obtain ⟨M10, eM10, h⟩ := h
  refine fv_putFR (fin := true) C fl_RX11_13 ea9 ka9 rfl hnm (narrow_rf_a _ _) dX11_init_17 (fv_eqM eM10 ?_)
  refine fv_aload_n C 0 rfl rfl dX11_init_20 ?_
  refine fv_bipush (v := 12) C (by decide) dX11_init_21 ?_
  replace h := fn_s h
  obtain ⟨N11, pN11, qN11, bN11, h⟩ := h
  replace h := fb_s h
  obtain ⟨K12, eK12, h⟩ := h
  replace h := fb_s h
  obtain ⟨M13, eM13, h⟩ := h
  refine fv_newI C ac_int pN11 qN11 (Nat.le_trans bN11 (by decide)) (Nat.le_of_ble_eq_true rfl) (by show 128 + N11 ≤ _; exact Nat.le_trans (Nat.add_le_add_left bN11 _) (Nat.le_of_ble_eq_true rfl)) dX11_init_23 ?_
  refine fv_eqK eK12 (fv_eqM eM13 ?_)
  refine fv_widen (mc := 3) (ms := 140) (cc := ⟨#[]⟩) (own := "") (Nat.le_of_ble_eq_true rfl) (by exact Nat.add_le_add_left bN11 _) ?_
  replace h := fo_s h
  obtain ⟨a14, ea14, ka14, h⟩ := h
  replace h := fb_s h
  obtain ⟨M15, eM15, h⟩ := h
  refine fv_putFR (fin := true) C fl_RX11_17 ea14 ka14 rfl hnm (narrow_rf_a _ _) dX11_init_25 (fv_eqM eM15 ?_)
  refine fv_aload_n C 0 rfl rfl dX11_init_28 ?_
  refine fv_bipush (v := 12) C (by decide) dX11_init_29 ?_
  replace h := fn_s h
  obtain ⟨N16, pN16, qN16, bN16, h⟩ := h
  replace h := fb_s h
  obtain ⟨K17, eK17, h⟩ := h
  replace h := fb_s h
  obtain ⟨M18, eM18, h⟩ := h
  refine fv_newI C ac_int pN16 qN16 (Nat.le_trans bN16 (by decide)) (Nat.le_of_ble_eq_true rfl) (by show 140 + N16 ≤ _; exact Nat.le_trans (Nat.add_le_add_left bN16 _) (Nat.le_of_ble_eq_true rfl)) dX11_init_31 ?_
  refine fv_eqK eK17 (fv_eqM eM18 ?_)
  refine fv_widen (mc := 4) (ms := 152) (cc := ⟨#[]⟩) (own := "") (Nat.le_of_ble_eq_true rfl) (by exact Nat.add_le_add_left bN16 _) ?_
  replace h := fo_s h
  obtain ⟨a19, ea19, ka19, h⟩ := h
  replace h := fb_s h
  obtain ⟨M20, eM20, h⟩ := h
  refine fv_putFR (fin := true) C fl_RX11_20 ea19 ka19 rfl hnm (narrow_rf_a _ _) dX11_init_33 (fv_eqM eM20 ?_)
  refine fv_aload_n C 0 rfl rfl dX11_init_36 ?_
  refine fv_bipush (v := 12) C (by decide) dX11_init_37 ?_
  replace h := fn_s h
  obtain ⟨N21, pN21, qN21, bN21, h⟩ := h
  replace h := fb_s h
  obtain ⟨K22, eK22, h⟩ := h
  replace h := fb_s h
  obtain ⟨M23, eM23, h⟩ := h
  refine fv_newZ C ac_boolean pN21 qN21 (Nat.le_trans bN21 (by decide)) (Nat.le_of_ble_eq_true rfl) (by show 152 + N21 ≤ _; exact Nat.le_trans (Nat.add_le_add_left bN21 _) (Nat.le_of_ble_eq_true rfl)) dX11_init_39 ?_
  refine fv_eqK eK22 (fv_eqM eM23 ?_)
  refine fv_widen (mc := 5) (ms := 164) (cc := ⟨#[]⟩) (own := "") (Nat.le_of_ble_eq_true rfl) (by exact Nat.add_le_add_left bN21 _) ?_
  replace h := fo_s h
  obtain ⟨a24, ea24, ka24, h⟩ := h
  replace h := fb_s h
  obtain ⟨M25, eM25, h⟩ := h
  refine fv_putFR (fin := true) C fl_RX11_23 ea24 ka24 rfl hnm (narrow_rf_a _ _) dX11_init_41 (fv_eqM eM25 ?_)
  refine fv_aload_n C 0 rfl rfl dX11_init_44 ?_
  refine fv_bipush (v := 12) C (by decide) dX11_init_45 ?_
  replace h := fn_s h
  obtain ⟨N26, pN26, qN26, bN26, h⟩ := h
  replace h := fb_s h
  obtain ⟨K27, eK27, h⟩ := h
  replace h := fb_s h
  obtain ⟨M28, eM28, h⟩ := h
  refine fv_newI C ac_int pN26 qN26 (Nat.le_trans bN26 (by decide)) (Nat.le_of_ble_eq_true rfl) (by show 164 + N26 ≤ _; exact Nat.le_trans (Nat.add_le_add_left bN26 _) (Nat.le_of_ble_eq_true rfl)) dX11_init_47 ?_
  refine fv_eqK eK27 (fv_eqM eM28 ?_)
  refine fv_widen (mc := 6) (ms := 176) (cc := ⟨#[]⟩) (own := "") (Nat.le_of_ble_eq_true rfl) (by exact Nat.add_le_add_left bN26 _) ?_
  replace h := fo_s h
  obtain ⟨a29, ea29, ka29, h⟩ := h
  replace h := fb_s h
  obtain ⟨M30, eM30, h⟩ := h
  refine fv_putFR (fin := true) C fl_RX11_27 ea29 ka29 rfl hnm (narrow_rf_a _ _) dX11_init_49 (fv_eqM eM30 ?_)
  refine fv_aload_n C 0 rfl rfl dX11_init_52 ?_
  refine fv_sipush (v := 2400) C (by decide) dX11_init_53 ?_
  replace h := fn_s h
  obtain ⟨N31, pN31, qN31, bN31, h⟩ := h
  replace h := fb_s h
  obtain ⟨K32, eK32, h⟩ := h
  replace h := fb_s h
  obtain ⟨M33, eM33, h⟩ := h
  refine fv_newI C ac_int pN31 qN31 (Nat.le_trans bN31 (by decide)) (Nat.le_of_ble_eq_true rfl) (by show 176 + N31 ≤ _; exact Nat.le_trans (Nat.add_le_add_left bN31 _) (Nat.le_of_ble_eq_true rfl)) dX11_init_56 ?_
  refine fv_eqK eK32 (fv_eqM eM33 ?_)
  refine fv_widen (mc := 7) (ms := 2576) (cc := ⟨#[]⟩) (own := "") (Nat.le_of_ble_eq_true rfl) (by exact Nat.add_le_add_left bN31 _) ?_
  replace h := fo_s h
  obtain ⟨a34, ea34, ka34, h⟩ := h
  replace h := fb_s h
  obtain ⟨M35, eM35, h⟩ := h
  refine fv_putFR (fin := true) C fl_RX11_30 ea34 ka34 rfl hnm (narrow_rf_a _ _) dX11_init_58 (fv_eqM eM35 ?_)
  refine fv_aload_n C 0 rfl rfl dX11_init_61 ?_
  refine fv_bipush (v := 40) C (by decide) dX11_init_62 ?_
  replace h := fn_s h
  obtain ⟨N36, pN36, qN36, bN36, h⟩ := h
  replace h := fb_s h
  obtain ⟨K37, eK37, h⟩ := h
  replace h := fb_s h
  obtain ⟨M38, eM38, h⟩ := h
  refine fv_newI C ac_int pN36 qN36 (Nat.le_trans bN36 (by decide)) (Nat.le_of_ble_eq_true rfl) (by show 2576 + N36 ≤ _; exact Nat.le_trans (Nat.add_le_add_left bN36 _) (Nat.le_of_ble_eq_true rfl)) dX11_init_64 ?_
  refine fv_eqK eK37 (fv_eqM eM38 ?_)
  refine fv_widen (mc := 8) (ms := 2616) (cc := ⟨#[]⟩) (own := "") (Nat.le_of_ble_eq_true rfl) (by exact Nat.add_le_add_left bN36 _) ?_
  replace h := fo_s h
  obtain ⟨a39, ea39, ka39, h⟩ := h
  replace h := fb_s h
  obtain ⟨M40, eM40, h⟩ := h
  refine fv_putFR (fin := true) C fl_RX11_33 ea39 ka39 rfl hnm (narrow_rf_a _ _) dX11_init_66 (fv_eqM eM40 ?_)
  refine fv_aload_n C 0 rfl rfl dX11_init_69 ?_
  refine fv_bipush (v := 40) C (by decide) dX11_init_70 ?_
  replace h := fn_s h
  obtain ⟨N41, pN41, qN41, bN41, h⟩ := h
  replace h := fb_s h
  obtain ⟨K42, eK42, h⟩ := h
  replace h := fb_s h
  obtain ⟨M43, eM43, h⟩ := h
  refine fv_newI C ac_int pN41 qN41 (Nat.le_trans bN41 (by decide)) (Nat.le_of_ble_eq_true rfl) (by show 2616 + N41 ≤ _; exact Nat.le_trans (Nat.add_le_add_left bN41 _) (Nat.le_of_ble_eq_true rfl)) dX11_init_72 ?_
  refine fv_eqK eK42 (fv_eqM eM43 ?_)
  refine fv_widen (mc := 9) (ms := 2656) (cc := ⟨#[]⟩) (own := "") (Nat.le_of_ble_eq_true rfl) (by exact Nat.add_le_add_left bN41 _) ?_
  replace h := fo_s h
  obtain ⟨a44, ea44, ka44, h⟩ := h
  replace h := fb_s h
  obtain ⟨M45, eM45, h⟩ := h
  refine fv_putFR (fin := true) C fl_RX11_36 ea44 ka44 rfl hnm (narrow_rf_a _ _) dX11_init_74 (fv_eqM eM45 ?_)
  refine fv_aload_n C 0 rfl rfl dX11_init_77 ?_
  refine fv_bipush (v := 40) C (by decide) dX11_init_78 ?_
  replace h := fn_s h
  obtain ⟨N46, pN46, qN46, bN46, h⟩ := h
  replace h := fb_s h
  obtain ⟨K47, eK47, h⟩ := h
  replace h := fb_s h
  obtain ⟨M48, eM48, h⟩ := h
  refine fv_newI C ac_int pN46 qN46 (Nat.le_trans bN46 (by decide)) (Nat.le_of_ble_eq_true rfl) (by show 2656 + N46 ≤ _; exact Nat.le_trans (Nat.add_le_add_left bN46 _) (Nat.le_of_ble_eq_true rfl)) dX11_init_80 ?_
  refine fv_eqK eK47 (fv_eqM eM48 ?_)
  refine fv_widen (mc := 10) (ms := 2696) (cc := ⟨#[]⟩) (own := "") (Nat.le_of_ble_eq_true rfl) (by exact Nat.add_le_add_left bN46 _) ?_
  replace h := fo_s h
  obtain ⟨a49, ea49, ka49, h⟩ := h
  replace h := fb_s h
  obtain ⟨M50, eM50, h⟩ := h
  refine fv_putFR (fin := true) C fl_RX11_39 ea49 ka49 rfl hnm (narrow_rf_a _ _) dX11_init_82 (fv_eqM eM50 ?_)
  refine fv_aload_n C 0 rfl rfl dX11_init_85 ?_
  refine fv_bipush (v := 8) C (by decide) dX11_init_86 ?_
  replace h := fn_s h
  obtain ⟨N51, pN51, qN51, bN51, h⟩ := h
  replace h := fb_s h
  obtain ⟨K52, eK52, h⟩ := h
  replace h := fb_s h
  obtain ⟨M53, eM53, h⟩ := h
  refine fv_newI C ac_int pN51 qN51 (Nat.le_trans bN51 (by decide)) (Nat.le_of_ble_eq_true rfl) (by show 2696 + N51 ≤ _; exact Nat.le_trans (Nat.add_le_add_left bN51 _) (Nat.le_of_ble_eq_true rfl)) dX11_init_88 ?_
  refine fv_eqK eK52 (fv_eqM eM53 ?_)
  refine fv_widen (mc := 11) (ms := 2704) (cc := ⟨#[]⟩) (own := "") (Nat.le_of_ble_eq_true rfl) (by exact Nat.add_le_add_left bN51 _) ?_
  replace h := fo_s h
  obtain ⟨a54, ea54, ka54, h⟩ := h
  replace h := fb_s h
  obtain ⟨M55, eM55, h⟩ := h
  refine fv_putFR (fin := true) C fl_RX11_42 ea54 ka54 rfl hnm (narrow_rf_a _ _) dX11_init_90 (fv_eqM eM55 ?_)
  refine fv_aload_n C 0 rfl rfl dX11_init_93 ?_
  refine fv_bipush (v := 8) C (by decide) dX11_init_94 ?_
  replace h := fn_s h
  obtain ⟨N56, pN56, qN56, bN56, h⟩ := h
  replace h := fb_s h
  obtain ⟨K57, eK57, h⟩ := h
  replace h := fb_s h
  obtain ⟨M58, eM58, h⟩ := h
  refine fv_newI C ac_int pN56 qN56 (Nat.le_trans bN56 (by decide)) (Nat.le_of_ble_eq_true rfl) (by show 2704 + N56 ≤ _; exact Nat.le_trans (Nat.add_le_add_left bN56 _) (Nat.le_of_ble_eq_true rfl)) dX11_init_96 ?_
  refine fv_eqK eK57 (fv_eqM eM58 ?_)
  refine fv_widen (mc := 12) (ms := 2712) (cc := ⟨#[]⟩) (own := "") (Nat.le_of_ble_eq_true rfl) (by exact Nat.add_le_add_left bN56 _) ?_
  replace h := fo_s h
  obtain ⟨a59, ea59, ka59, h⟩ := h
  replace h := fb_s h
  obtain ⟨M60, eM60, h⟩ := h
  refine fv_putFR (fin := true) C fl_RX11_45 ea59 ka59 rfl hnm (narrow_rf_a _ _) dX11_init_98 (fv_eqM eM60 ?_)
  refine fv_aload_n C 0 rfl rfl dX11_init_101 ?_
  refine fv_bipush (v := 24) C (by decide) dX11_init_102 ?_
  replace h := fn_s h
  obtain ⟨N61, pN61, qN61, bN61, h⟩ := h
  replace h := fb_s h
  obtain ⟨K62, eK62, h⟩ := h
  replace h := fb_s h
  obtain ⟨M63, eM63, h⟩ := h
  refine fv_newI C ac_int pN61 qN61 (Nat.le_trans bN61 (by decide)) (Nat.le_of_ble_eq_true rfl) (by show 2712 + N61 ≤ _; exact Nat.le_trans (Nat.add_le_add_left bN61 _) (Nat.le_of_ble_eq_true rfl)) dX11_init_104 ?_
  refine fv_eqK eK62 (fv_eqM eM63 ?_)
  refine fv_widen (mc := 13) (ms := 2736) (cc := ⟨#[]⟩) (own := "") (Nat.le_of_ble_eq_true rfl) (by exact Nat.add_le_add_left bN61 _) ?_
  replace h := fo_s h
  obtain ⟨a64, ea64, ka64, h⟩ := h
  replace h := fb_s h
  obtain ⟨M65, eM65, h⟩ := h
  refine fv_putFR (fin := true) C fl_RX11_48 ea64 ka64 rfl hnm (narrow_rf_a _ _) dX11_init_106 (fv_eqM eM65 ?_)
  refine fv_aload_n C 0 rfl rfl dX11_init_109 ?_
  refine fv_bipush (v := 24) C (by decide) dX11_init_110 ?_
  replace h := fn_s h
  obtain ⟨N66, pN66, qN66, bN66, h⟩ := h
  replace h := fb_s h
  obtain ⟨K67, eK67, h⟩ := h
  replace h := fb_s h
  obtain ⟨M68, eM68, h⟩ := h
  refine fv_newI C ac_int pN66 qN66 (Nat.le_trans bN66 (by decide)) (Nat.le_of_ble_eq_true rfl) (by show 2736 + N66 ≤ _; exact Nat.le_trans (Nat.add_le_add_left bN66 _) (Nat.le_of_ble_eq_true rfl)) dX11_init_112 ?_
  refine fv_eqK eK67 (fv_eqM eM68 ?_)
  refine fv_widen (mc := 14) (ms := 2760) (cc := ⟨#[]⟩) (own := "") (Nat.le_of_ble_eq_true rfl) (by exact Nat.add_le_add_left bN66 _) ?_
  replace h := fo_s h
  obtain ⟨a69, ea69, ka69, h⟩ := h
  replace h := fb_s h
  obtain ⟨M70, eM70, h⟩ := h
  refine fv_putFR (fin := true) C fl_RX11_51 ea69 ka69 rfl hnm (narrow_rf_a _ _) dX11_init_114 (fv_eqM eM70 ?_)
  refine fv_aload_n C 0 rfl rfl dX11_init_117 ?_
  refine fv_bipush (v := 24) C (by decide) dX11_init_118 ?_
  replace h := fn_s h
  obtain ⟨N71, pN71, qN71, bN71, h⟩ := h
  replace h := fb_s h
  obtain ⟨K72, eK72, h⟩ := h
  replace h := fb_s h
  obtain ⟨M73, eM73, h⟩ := h
  refine fv_newI C ac_int pN71 qN71 (Nat.le_trans bN71 (by decide)) (Nat.le_of_ble_eq_true rfl) (by show 2760 + N71 ≤ _; exact Nat.le_trans (Nat.add_le_add_left bN71 _) (Nat.le_of_ble_eq_true rfl)) dX11_init_120 ?_
  refine fv_eqK eK72 (fv_eqM eM73 ?_)
  refine fv_widen (mc := 15) (ms := 2784) (cc := ⟨#[]⟩) (own := "") (Nat.le_of_ble_eq_true rfl) (by exact Nat.add_le_add_left bN71 _) ?_
  replace h := fo_s h
  obtain ⟨a74, ea74, ka74, h⟩ := h
  replace h := fb_s h
  obtain ⟨M75, eM75, h⟩ := h
  refine fv_putFR (fin := true) C fl_RX11_54 ea74 ka74 rfl hnm (narrow_rf_a _ _) dX11_init_122 (fv_eqM eM75 ?_)
  refine fv_aload_n C 0 rfl rfl dX11_init_125 ?_
  refine fv_bipush (v := 24) C (by decide) dX11_init_126 ?_
  replace h := fn_s h
  obtain ⟨N76, pN76, qN76, bN76, h⟩ := h
  replace h := fb_s h
  obtain ⟨K77, eK77, h⟩ := h
  replace h := fb_s h
  obtain ⟨M78, eM78, h⟩ := h
  refine fv_newI C ac_int pN76 qN76 (Nat.le_trans bN76 (by decide)) (Nat.le_of_ble_eq_true rfl) (by show 2784 + N76 ≤ _; exact Nat.le_trans (Nat.add_le_add_left bN76 _) (Nat.le_of_ble_eq_true rfl)) dX11_init_128 ?_
  refine fv_eqK eK77 (fv_eqM eM78 ?_)
  refine fv_widen (mc := 16) (ms := 2808) (cc := ⟨#[]⟩) (own := "") (Nat.le_of_ble_eq_true rfl) (by exact Nat.add_le_add_left bN76 _) ?_
  replace h := fo_s h
  obtain ⟨a79, ea79, ka79, h⟩ := h
  replace h := fb_s h
  obtain ⟨M80, eM80, h⟩ := h
  refine fv_putFR (fin := true) C fl_RX11_57 ea79 ka79 rfl hnm (narrow_rf_a _ _) dX11_init_130 (fv_eqM eM80 ?_)
  refine fv_aload_n C 0 rfl rfl dX11_init_133 ?_
  refine fv_bipush (v := 24) C (by decide) dX11_init_134 ?_
  replace h := fn_s h
  obtain ⟨N81, pN81, qN81, bN81, h⟩ := h
  replace h := fb_s h
  obtain ⟨K82, eK82, h⟩ := h
  replace h := fb_s h
  obtain ⟨M83, eM83, h⟩ := h
  refine fv_newI C ac_int pN81 qN81 (Nat.le_trans bN81 (by decide)) (Nat.le_of_ble_eq_true rfl) (by show 2808 + N81 ≤ _; exact Nat.le_trans (Nat.add_le_add_left bN81 _) (Nat.le_of_ble_eq_true rfl)) dX11_init_136 ?_
  refine fv_eqK eK82 (fv_eqM eM83 ?_)
  refine fv_widen (mc := 17) (ms := 2832) (cc := ⟨#[]⟩) (own := "") (Nat.le_of_ble_eq_true rfl) (by exact Nat.add_le_add_left bN81 _) ?_
  replace h := fo_s h
  obtain ⟨a84, ea84, ka84, h⟩ := h
  replace h := fb_s h
  obtain ⟨M85, eM85, h⟩ := h
  refine fv_putFR (fin := true) C fl_RX11_60 ea84 ka84 rfl hnm (narrow_rf_a _ _) dX11_init_138 (fv_eqM eM85 ?_)
  refine fv_aload_n C 0 rfl rfl dX11_init_141 ?_
  refine fv_bipush (v := 24) C (by decide) dX11_init_142 ?_
  replace h := fn_s h
  obtain ⟨N86, pN86, qN86, bN86, h⟩ := h
  replace h := fb_s h
  obtain ⟨K87, eK87, h⟩ := h
  replace h := fb_s h
  obtain ⟨M88, eM88, h⟩ := h
  refine fv_newI C ac_int pN86 qN86 (Nat.le_trans bN86 (by decide)) (Nat.le_of_ble_eq_true rfl) (by show 2832 + N86 ≤ _; exact Nat.le_trans (Nat.add_le_add_left bN86 _) (Nat.le_of_ble_eq_true rfl)) dX11_init_144 ?_
  refine fv_eqK eK87 (fv_eqM eM88 ?_)
  refine fv_widen (mc := 18) (ms := 2856) (cc := ⟨#[]⟩) (own := "") (Nat.le_of_ble_eq_true rfl) (by exact Nat.add_le_add_left bN86 _) ?_
  replace h := fo_s h
  obtain ⟨a89, ea89, ka89, h⟩ := h
  replace h := fb_s h
  obtain ⟨M90, eM90, h⟩ := h
  refine fv_putFR (fin := true) C fl_RX11_63 ea89 ka89 rfl hnm (narrow_rf_a _ _) dX11_init_146 (fv_eqM eM90 ?_)
  refine fv_aload_n C 0 rfl rfl dX11_init_149 ?_
  refine fv_bipush (v := 24) C (by decide) dX11_init_150 ?_
  replace h := fn_s h
  obtain ⟨N91, pN91, qN91, bN91, h⟩ := h
  replace h := fb_s h
  obtain ⟨K92, eK92, h⟩ := h
  replace h := fb_s h
  obtain ⟨M93, eM93, h⟩ := h
  refine fv_newI C ac_int pN91 qN91 (Nat.le_trans bN91 (by decide)) (Nat.le_of_ble_eq_true rfl) (by show 2856 + N91 ≤ _; exact Nat.le_trans (Nat.add_le_add_left bN91 _) (Nat.le_of_ble_eq_true rfl)) dX11_init_152 ?_
  refine fv_eqK eK92 (fv_eqM eM93 ?_)
  refine fv_widen (mc := 19) (ms := 2880) (cc := ⟨#[]⟩) (own := "") (Nat.le_of_ble_eq_true rfl) (by exact Nat.add_le_add_left bN91 _) ?_
  replace h := fo_s h
  obtain ⟨a94, ea94, ka94, h⟩ := h
  replace h := fb_s h
  obtain ⟨M95, eM95, h⟩ := h
  refine fv_putFR (fin := true) C fl_RX11_66 ea94 ka94 rfl hnm (narrow_rf_a _ _) dX11_init_154 (fv_eqM eM95 ?_)
  refine fv_aload_n C 0 rfl rfl dX11_init_157 ?_
  refine fv_bipush (v := 30) C (by decide) dX11_init_158 ?_
  replace h := fn_s h
  obtain ⟨N96, pN96, qN96, bN96, h⟩ := h
  replace h := fb_s h
  obtain ⟨K97, eK97, h⟩ := h
  replace h := fb_s h
  obtain ⟨M98, eM98, h⟩ := h
  refine fv_newI C ac_int pN96 qN96 (Nat.le_trans bN96 (by decide)) (Nat.le_of_ble_eq_true rfl) (by show 2880 + N96 ≤ _; exact Nat.le_trans (Nat.add_le_add_left bN96 _) (Nat.le_of_ble_eq_true rfl)) dX11_init_160 ?_
  refine fv_eqK eK97 (fv_eqM eM98 ?_)
  refine fv_widen (mc := 20) (ms := 2910) (cc := ⟨#[]⟩) (own := "") (Nat.le_of_ble_eq_true rfl) (by exact Nat.add_le_add_left bN96 _) ?_
  replace h := fo_s h
  obtain ⟨a99, ea99, ka99, h⟩ := h
  replace h := fb_s h
  obtain ⟨M100, eM100, h⟩ := h
  refine fv_putFR (fin := true) C fl_RX11_69 ea99 ka99 rfl hnm (narrow_rf_a _ _) dX11_init_162 (fv_eqM eM100 ?_)
  refine fv_aload_n C 0 rfl rfl dX11_init_165 ?_
  refine fv_bipush (v := 30) C (by decide) dX11_init_166 ?_
  replace h := fn_s h
  obtain ⟨N101, pN101, qN101, bN101, h⟩ := h
  replace h := fb_s h
  obtain ⟨K102, eK102, h⟩ := h
  replace h := fb_s h
  obtain ⟨M103, eM103, h⟩ := h
  refine fv_newI C ac_int pN101 qN101 (Nat.le_trans bN101 (by decide)) (Nat.le_of_ble_eq_true rfl) (by show 2910 + N101 ≤ _; exact Nat.le_trans (Nat.add_le_add_left bN101 _) (Nat.le_of_ble_eq_true rfl)) dX11_init_168 ?_
  refine fv_eqK eK102 (fv_eqM eM103 ?_)
  refine fv_widen (mc := 21) (ms := 2940) (cc := ⟨#[]⟩) (own := "") (Nat.le_of_ble_eq_true rfl) (by exact Nat.add_le_add_left bN101 _) ?_
  replace h := fo_s h
  obtain ⟨a104, ea104, ka104, h⟩ := h
  replace h := fb_s h
  obtain ⟨M105, eM105, h⟩ := h
  refine fv_putFR (fin := true) C fl_RX11_72 ea104 ka104 rfl hnm (narrow_rf_a _ _) dX11_init_170 (fv_eqM eM105 ?_)
  refine fv_aload_n C 0 rfl rfl dX11_init_173 ?_
  refine fv_bipush (v := 30) C (by decide) dX11_init_174 ?_
  replace h := fn_s h
  obtain ⟨N106, pN106, qN106, bN106, h⟩ := h
  replace h := fb_s h
  obtain ⟨K107, eK107, h⟩ := h
  replace h := fb_s h
  obtain ⟨M108, eM108, h⟩ := h
  refine fv_newI C ac_int pN106 qN106 (Nat.le_trans bN106 (by decide)) (Nat.le_of_ble_eq_true rfl) (by show 2940 + N106 ≤ _; exact Nat.le_trans (Nat.add_le_add_left bN106 _) (Nat.le_of_ble_eq_true rfl)) dX11_init_176 ?_
  refine fv_eqK eK107 (fv_eqM eM108 ?_)
  refine fv_widen (mc := 22) (ms := 2970) (cc := ⟨#[]⟩) (own := "") (Nat.le_of_ble_eq_true rfl) (by exact Nat.add_le_add_left bN106 _) ?_
  replace h := fo_s h
  obtain ⟨a109, ea109, ka109, h⟩ := h
  replace h := fb_s h
  obtain ⟨M110, eM110, h⟩ := h
  refine fv_putFR (fin := true) C fl_RX11_75 ea109 ka109 rfl hnm (narrow_rf_a _ _) dX11_init_178 (fv_eqM eM110 ?_)
  refine fv_aload_n C 0 rfl rfl dX11_init_181 ?_
  refine fv_bipush (v := 30) C (by decide) dX11_init_182 ?_
  replace h := fn_s h
  obtain ⟨N111, pN111, qN111, bN111, h⟩ := h
  replace h := fb_s h
  obtain ⟨K112, eK112, h⟩ := h
  replace h := fb_s h
  obtain ⟨M113, eM113, h⟩ := h
  refine fv_newI C ac_int pN111 qN111 (Nat.le_trans bN111 (by decide)) (Nat.le_of_ble_eq_true rfl) (by show 2970 + N111 ≤ _; exact Nat.le_trans (Nat.add_le_add_left bN111 _) (Nat.le_of_ble_eq_true rfl)) dX11_init_184 ?_
  refine fv_eqK eK112 (fv_eqM eM113 ?_)
  refine fv_widen (mc := 23) (ms := 3000) (cc := ⟨#[]⟩) (own := "") (Nat.le_of_ble_eq_true rfl) (by exact Nat.add_le_add_left bN111 _) ?_
  replace h := fo_s h
  obtain ⟨a114, ea114, ka114, h⟩ := h
  replace h := fb_s h
  obtain ⟨M115, eM115, h⟩ := h
  refine fv_putFR (fin := true) C fl_RX11_78 ea114 ka114 rfl hnm (narrow_rf_a _ _) dX11_init_186 (fv_eqM eM115 ?_)
  refine fv_aload_n C 0 rfl rfl dX11_init_189 ?_
  refine fv_bipush (v := 30) C (by decide) dX11_init_190 ?_
  replace h := fn_s h
  obtain ⟨N116, pN116, qN116, bN116, h⟩ := h
  replace h := fb_s h
  obtain ⟨K117, eK117, h⟩ := h
  replace h := fb_s h
  obtain ⟨M118, eM118, h⟩ := h
  refine fv_newI C ac_int pN116 qN116 (Nat.le_trans bN116 (by decide)) (Nat.le_of_ble_eq_true rfl) (by show 3000 + N116 ≤ _; exact Nat.le_trans (Nat.add_le_add_left bN116 _) (Nat.le_of_ble_eq_true rfl)) dX11_init_192 ?_
  refine fv_eqK eK117 (fv_eqM eM118 ?_)
  refine fv_widen (mc := 24) (ms := 3030) (cc := ⟨#[]⟩) (own := "") (Nat.le_of_ble_eq_true rfl) (by exact Nat.add_le_add_left bN116 _) ?_
  replace h := fo_s h
  obtain ⟨a119, ea119, ka119, h⟩ := h
  replace h := fb_s h
  obtain ⟨M120, eM120, h⟩ := h
  refine fv_putFR (fin := true) C fl_RX11_81 ea119 ka119 rfl hnm (narrow_rf_a _ _) dX11_init_194 (fv_eqM eM120 ?_)
  refine fv_aload_n C 0 rfl rfl dX11_init_197 ?_
  refine fv_bipush (v := 30) C (by decide) dX11_init_198 ?_
  replace h := fn_s h
  obtain ⟨N121, pN121, qN121, bN121, h⟩ := h
  replace h := fb_s h
  obtain ⟨K122, eK122, h⟩ := h
  replace h := fb_s h
  obtain ⟨M123, eM123, h⟩ := h
  refine fv_newI C ac_int pN121 qN121 (Nat.le_trans bN121 (by decide)) (Nat.le_of_ble_eq_true rfl) (by show 3030 + N121 ≤ _; exact Nat.le_trans (Nat.add_le_add_left bN121 _) (Nat.le_of_ble_eq_true rfl)) dX11_init_200 ?_
  refine fv_eqK eK122 (fv_eqM eM123 ?_)
  refine fv_widen (mc := 25) (ms := 3060) (cc := ⟨#[]⟩) (own := "") (Nat.le_of_ble_eq_true rfl) (by exact Nat.add_le_add_left bN121 _) ?_
  replace h := fo_s h
  obtain ⟨a124, ea124, ka124, h⟩ := h
  replace h := fb_s h
  obtain ⟨M125, eM125, h⟩ := h
  refine fv_putFR (fin := true) C fl_RX11_84 ea124 ka124 rfl hnm (narrow_rf_a _ _) dX11_init_202 (fv_eqM eM125 ?_)
  refine fv_aload_n C 0 rfl rfl dX11_init_205 ?_
  refine fv_bipush (v := 60) C (by decide) dX11_init_206 ?_
  replace h := fn_s h
  obtain ⟨N126, pN126, qN126, bN126, h⟩ := h
  replace h := fb_s h
  obtain ⟨K127, eK127, h⟩ := h
  replace h := fb_s h
  obtain ⟨M128, eM128, h⟩ := h
  refine fv_newI C ac_int pN126 qN126 (Nat.le_trans bN126 (by decide)) (Nat.le_of_ble_eq_true rfl) (by show 3060 + N126 ≤ _; exact Nat.le_trans (Nat.add_le_add_left bN126 _) (Nat.le_of_ble_eq_true rfl)) dX11_init_208 ?_
  refine fv_eqK eK127 (fv_eqM eM128 ?_)
  refine fv_widen (mc := 26) (ms := 3120) (cc := ⟨#[]⟩) (own := "") (Nat.le_of_ble_eq_true rfl) (by exact Nat.add_le_add_left bN126 _) ?_
  replace h := fo_s h
  obtain ⟨a129, ea129, ka129, h⟩ := h
  replace h := fb_s h
  obtain ⟨M130, eM130, h⟩ := h
  refine fv_putFR (fin := true) C fl_RX11_87 ea129 ka129 rfl hnm (narrow_rf_a _ _) dX11_init_210 (fv_eqM eM130 ?_)
  refine fv_aload_n C 0 rfl rfl dX11_init_213 ?_
  refine fv_iconst (v := 4) C (by decide) dX11_init_214 ?_
  replace h := fn_s h
  obtain ⟨N131, pN131, qN131, bN131, h⟩ := h
  replace h := fb_s h
  obtain ⟨K132, eK132, h⟩ := h
  replace h := fb_s h
  obtain ⟨M133, eM133, h⟩ := h
  refine fv_newI C ac_int pN131 qN131 (Nat.le_trans bN131 (by decide)) (Nat.le_of_ble_eq_true rfl) (by show 3120 + N131 ≤ _; exact Nat.le_trans (Nat.add_le_add_left bN131 _) (Nat.le_of_ble_eq_true rfl)) dX11_init_215 ?_
  refine fv_eqK eK132 (fv_eqM eM133 ?_)
  refine fv_widen (mc := 27) (ms := 3124) (cc := ⟨#[]⟩) (own := "") (Nat.le_of_ble_eq_true rfl) (by exact Nat.add_le_add_left bN131 _) ?_
  replace h := fo_s h
  obtain ⟨a134, ea134, ka134, h⟩ := h
  replace h := fb_s h
  obtain ⟨M135, eM135, h⟩ := h
  refine fv_putFR (fin := true) C fl_RX11_90 ea134 ka134 rfl hnm (narrow_rf_a _ _) dX11_init_217 (fv_eqM eM135 ?_)
  refine fv_aload_n C 0 rfl rfl dX11_init_220 ?_
  refine fv_iconst (v := 4) C (by decide) dX11_init_221 ?_
  replace h := fn_s h
  obtain ⟨N136, pN136, qN136, bN136, h⟩ := h
  replace h := fb_s h
  obtain ⟨K137, eK137, h⟩ := h
  replace h := fb_s h
  obtain ⟨M138, eM138, h⟩ := h
  refine fv_newI C ac_int pN136 qN136 (Nat.le_trans bN136 (by decide)) (Nat.le_of_ble_eq_true rfl) (by show 3124 + N136 ≤ _; exact Nat.le_trans (Nat.add_le_add_left bN136 _) (Nat.le_of_ble_eq_true rfl)) dX11_init_222 ?_
  refine fv_eqK eK137 (fv_eqM eM138 ?_)
  refine fv_widen (mc := 28) (ms := 3128) (cc := ⟨#[]⟩) (own := "") (Nat.le_of_ble_eq_true rfl) (by exact Nat.add_le_add_left bN136 _) ?_
  replace h := fo_s h
  obtain ⟨a139, ea139, ka139, h⟩ := h
  replace h := fb_s h
  obtain ⟨M140, eM140, h⟩ := h
  refine fv_putFR (fin := true) C fl_RX11_93 ea139 ka139 rfl hnm (narrow_rf_a _ _) dX11_init_224 (fv_eqM eM140 ?_)
  refine fv_aload_n C 0 rfl rfl dX11_init_227 ?_
  refine fv_bipush (v := 60) C (by decide) dX11_init_228 ?_
  replace h := fn_s h
  obtain ⟨N141, pN141, qN141, bN141, h⟩ := h
  replace h := fb_s h
  obtain ⟨K142, eK142, h⟩ := h
  replace h := fb_s h
  obtain ⟨M143, eM143, h⟩ := h
  refine fv_newI C ac_int pN141 qN141 (Nat.le_trans bN141 (by decide)) (Nat.le_of_ble_eq_true rfl) (by show 3128 + N141 ≤ _; exact Nat.le_trans (Nat.add_le_add_left bN141 _) (Nat.le_of_ble_eq_true rfl)) dX11_init_230 ?_
  refine fv_eqK eK142 (fv_eqM eM143 ?_)
  refine fv_widen (mc := 29) (ms := 3188) (cc := ⟨#[]⟩) (own := "") (Nat.le_of_ble_eq_true rfl) (by exact Nat.add_le_add_left bN141 _) ?_
  replace h := fo_s h
  obtain ⟨a144, ea144, ka144, h⟩ := h
  replace h := fb_s h
  obtain ⟨M145, eM145, h⟩ := h
  refine fv_putFR (fin := true) C fl_RX11_96 ea144 ka144 rfl hnm (narrow_rf_a _ _) dX11_init_232 (fv_eqM eM145 ?_)
  refine fv_aload_n C 0 rfl rfl dX11_init_235 ?_
  refine fv_iconst (v := 4) C (by decide) dX11_init_236 ?_
  replace h := fn_s h
  obtain ⟨N146, pN146, qN146, bN146, h⟩ := h
  replace h := fb_s h
  obtain ⟨K147, eK147, h⟩ := h
  replace h := fb_s h
  obtain ⟨M148, eM148, h⟩ := h
  refine fv_newI C ac_int pN146 qN146 (Nat.le_trans bN146 (by decide)) (Nat.le_of_ble_eq_true rfl) (by show 3188 + N146 ≤ _; exact Nat.le_trans (Nat.add_le_add_left bN146 _) (Nat.le_of_ble_eq_true rfl)) dX11_init_237 ?_
  refine fv_eqK eK147 (fv_eqM eM148 ?_)
  refine fv_widen (mc := 30) (ms := 3192) (cc := ⟨#[]⟩) (own := "") (Nat.le_of_ble_eq_true rfl) (by exact Nat.add_le_add_left bN146 _) ?_
  replace h := fo_s h
  obtain ⟨a149, ea149, ka149, h⟩ := h
  replace h := fb_s h
  obtain ⟨M150, eM150, h⟩ := h
  refine fv_putFR (fin := true) C fl_RX11_99 ea149 ka149 rfl hnm (narrow_rf_a _ _) dX11_init_239 (fv_eqM eM150 ?_)
  refine fv_iconst (v := 0) C (by decide) dX11_init_242 ?_
  refine fv_istore_n (i := 1) (lv' := [(1, .int 0), (0, va_rf (some t))]) C rfl (by decide) (by first | rfl | simp [va_rf_cat]) dX11_init_243 ?_
  refine fv_sub (cc := ⟨#[]⟩) (own := "") [1, 0] rfl ?_
  exact r_X11_init_L244 C hnm E  4096 _ _ _ _ _ h
abbrev rm_X11_lies : Room := { frames := 0, cells := 0, slots := 0, locals := 0 }
set_option maxRecDepth 10000 in
theorem r_X11_lies (l : Launch) (D : fh_D) (A : Nat → Prop) {K : fh_K} {sz : Nat} {M : fh_M} {r : Int32} {p0 : Int32} {p1 : Int32} {p2 : Int32} (h : f_X11_lies K M p0 p1 p2 = some r) : fh_Met l yX11_lies cX11_lies 3 (some .boolean) rm_X11_lies D K M sz A [.int p0, .int p1, .int p2] (some (.int r)) K M sz := by
  refine fh_enter (by decide) (by simp [lg_sl, va_rf_cat, cat_i, cat_l]) (lv := [(0, .int p0), (1, .int p1), (2, .int p2)]) (by simp [lv_args, va_rf_cat, cat_i, cat_l]) ?_
  intro X C E hnm _ _ _
  replace C : fh_C X 3 cX11_lies RX11 := C
  unfold f_X11_lies at h
  refine fv_iload_n C 0 rfl rfl dX11_lies_0 ?_
  refine fv_iload_n C 1 rfl rfl dX11_lies_1 ?_
  refine fv_icmp_lt C 14 (by decide) dX11_lies_2 (fun c2 => ?_) (fun c2 => ?_)
  · replace h := itT c2 h
    refine fv_iconst (v := 0) C (by decide) dX11_lies_14 ?_
    cases h
    exact fv_zret (z := (0, 0, 0)) (st := []) C E (Or.inl rfl) dX11_lies_15
  · replace h := itF c2 h
    refine fv_iload_n C 0 rfl rfl dX11_lies_5 ?_
    refine fv_iload_n C 2 rfl rfl dX11_lies_6 ?_
    refine fv_icmp_gt C 14 (by decide) dX11_lies_7 (fun c1 => ?_) (fun c1 => ?_)
    · replace h := itT c1 h
      refine fv_iconst (v := 0) C (by decide) dX11_lies_14 ?_
      cases h
      exact fv_zret (z := (0, 0, 0)) (st := []) C E (Or.inl rfl) dX11_lies_15
    · replace h := itF c1 h
      refine fv_iconst (v := 1) C (by decide) dX11_lies_10 ?_
      refine fv_goto C 15 (by decide) dX11_lies_11 ?_
      cases h
      exact fv_zret (z := (0, 0, 0)) (st := []) C E (Or.inr rfl) dX11_lies_15
abbrev rm_X11_has : Room := { frames := 0, cells := 0, slots := 0, locals := 0 }
set_option maxRecDepth 10000 in
theorem r_X11_has (l : Launch) (D : fh_D) (A : Nat → Prop) {K : fh_K} {sz : Nat} {M : fh_M} {r : Int32} {p0 : Int32} {p1 : Int32} (h : f_X11_has K M p0 p1 = some r) : fh_Met l yX11_has cX11_has 2 (some .boolean) rm_X11_has D K M sz A [.int p0, .int p1] (some (.int r)) K M sz := by
  refine fh_enter (by decide) (by simp [lg_sl, va_rf_cat, cat_i, cat_l]) (lv := [(0, .int p0), (1, .int p1)]) (by simp [lv_args, va_rf_cat, cat_i, cat_l]) ?_
  intro X C E hnm _ _ _
  replace C : fh_C X 2 cX11_has RX11 := C
  unfold f_X11_has at h
  refine fv_iload_n C 0 rfl rfl dX11_has_0 ?_
  refine fv_iload_n C 1 rfl rfl dX11_has_1 ?_
  refine fv_ishr C dX11_has_2 ?_
  refine fv_iconst (v := 1) C (by decide) dX11_has_3 ?_
  refine fv_iand C dX11_has_4 ?_
  refine fv_iconst (v := 1) C (by decide) dX11_has_5 ?_
  refine fv_icmp_ne C 13 (by decide) dX11_has_6 (fun c1 => ?_) (fun c1 => ?_)
  · replace h := itF c1 h
    refine fv_iconst (v := 0) C (by decide) dX11_has_13 ?_
    cases h
    exact fv_zret (z := (0, 0, 0)) (st := []) C E (Or.inl rfl) dX11_has_14
  · replace h := itT c1 h
    refine fv_iconst (v := 1) C (by decide) dX11_has_9 ?_
    refine fv_goto C 14 (by decide) dX11_has_10 ?_
    cases h
    exact fv_zret (z := (0, 0, 0)) (st := []) C E (Or.inr rfl) dX11_has_14
abbrev rm_X11_push : Room := { frames := 0, cells := 0, slots := 0, locals := 0 }
set_option maxRecDepth 10000 in
theorem r_X11_push_L3 {X : fh_X} {K : fh_K} {sz : Nat} {M' : fh_M} (C : fh_C X 3 cX11_push RX11) (E : fh_E X rm_X11_push none none K M' sz) : ∀ (n : Nat) (t : Nat) (v1 : Int32) (v2 : Int32) (M : fh_M), f_X11_push_L3 K n t v1 v2 M = some M' → fh_V X rm_X11_push 3 (sz, 0, 0) K M 3 [(0, va_rf (some t)), (1, .int v1), (2, .int v2)] [] := by
  intro n
  induction n with
  | zero => intro t v1 v2 M h; cases h
  | succ n ih =>
    intro t v1 v2 M h
    unfold f_X11_push_L3 at h
    refine fv_iload_n C 2 rfl rfl dX11_push_3 ?_
    refine fv_if_lt C 36 (by decide) dX11_push_4 (fun c5 => ?_) (fun c5 => ?_)
    · replace h := itT c5 h
      cases h
      exact fv_vret (z := (0, 0, 0)) (st := []) C E dX11_push_36
    · replace h := itF c5 h
      refine fv_aload_n C 0 rfl rfl dX11_push_7 ?_
      replace h := fo_s h
      obtain ⟨a1, ea1, ka1, h⟩ := h
      refine fv_getR C fl_RX11_7 ea1 ka1 dX11_push_8 ?_
      refine fv_aload_n C 0 rfl rfl dX11_push_11 ?_
      refine fv_getI C fl_RX11_102 ea1 ka1 dX11_push_12 ?_
      refine fv_iload_n C 1 rfl rfl dX11_push_15 ?_
      refine fv_iload_n C 2 rfl rfl dX11_push_16 ?_
      refine fv_ishr C dX11_push_17 ?_
      refine fv_i2b C dX11_push_18 ?_
      replace h := fi_s h
      obtain ⟨a2, ea2, ka2, ia2, h⟩ := h
      replace h := fb_s h
      obtain ⟨M3, eM3, h⟩ := h
      refine fv_bast C ea2 ka2 ia2 dX11_push_19 (fv_eqM eM3 ?_)
      refine fv_aload_n C 0 rfl rfl dX11_push_20 ?_
      refine fv_dupr C dX11_push_21 ?_
      refine fv_getI C fl_RX11_102 ea1 ka1 dX11_push_22 ?_
      refine fv_iconst (v := 1) C (by decide) dX11_push_25 ?_
      refine fv_iadd C dX11_push_26 ?_
      replace h := fb_s h
      obtain ⟨M4, eM4, h⟩ := h
      refine fv_putI (fin := false) C fl_RX11_102 ea1 ka1 (narrow_i _) dX11_push_27 (fv_eqM eM4 ?_)
      refine fv_iinc (v := v2 + (-8)) (lv' := [(2, .int (v2 + (-8))), (0, va_rf (some t)), (1, .int v1)]) C 2 rfl (by first | rfl | exact congrArg _ (by decide)) (by decide) (by first | rfl | simp [va_rf_cat]) dX11_push_30 ?_
      refine fv_goto C 3 (by decide) dX11_push_33 ?_
      refine fv_sub (cc := ⟨#[]⟩) (own := "") [1, 2, 0] rfl ?_
      exact ih _ _ _ _ h
set_option maxRecDepth 10000 in
theorem r_X11_push (l : Launch) (D : fh_D) (A : Nat → Prop) {K : fh_K} {sz : Nat} {M : fh_M} {M' : fh_M} {t : Nat} {p1 : Int32} (h : f_X11_push K M t p1 = some M') : fh_Met l yX11_push cX11_push 3 none rm_X11_push D K M sz A [va_rf (some t), .int p1] none K M' sz := by
  refine fh_enter (by decide) (by simp [lg_sl, va_rf_cat, cat_i, cat_l]) (lv := [(0, va_rf (some t)), (1, .int p1)]) (by simp [lv_args, va_rf_cat, cat_i, cat_l]) ?_
  intro X C E hnm _ _ _
  replace C : fh_C X 3 cX11_push RX11 := C
  unfold f_X11_push at h
  refine fv_bipush (v := 24) C (by decide) dX11_push_0 ?_
  refine fv_istore_n (i := 2) (lv' := [(2, .int 24), (0, va_rf (some t)), (1, .int p1)]) C rfl (by decide) (by first | rfl | simp [va_rf_cat]) dX11_push_2 ?_
  refine fv_sub (cc := ⟨#[]⟩) (own := "") [1, 2, 0] rfl ?_
  exact r_X11_push_L3 C E  4096 _ _ _ _ h
abbrev rm_X11_feed : Room := { frames := 1, cells := 0, slots := 0, locals := 22 }
set_option maxRecDepth 10000 in
theorem r_X11_feed (l : Launch) (D : fh_D) (A : Nat → Prop) {K : fh_K} {sz : Nat} {M : fh_M} {M' : fh_M} {r : Int32} {t : Nat} {p1 : Int32} {p2 : Int32} {p3 : Int32} {p4 : Int32} {p5 : Int32} (h : f_X11_feed K M t p1 p2 p3 p4 p5 = some (r, M')) : fh_Met l yX11_feed cX11_feed 6 (some .int) rm_X11_feed D K M sz A [va_rf (some t), .int p1, .int p2, .int p3, .int p4, .int p5] (some (.int r)) K M' sz := by
  refine fh_enter (by decide) (by simp [lg_sl, va_rf_cat, cat_i, cat_l]) (lv := [(0, va_rf (some t)), (1, .int p1), (2, .int p2), (3, .int p3), (4, .int p4), (5, .int p5)]) (by simp [lv_args, va_rf_cat, cat_i, cat_l]) ?_
  intro X C E hnm _ _ _
  replace C : fh_C X 6 cX11_feed RX11 := C
  unfold f_X11_feed at h
  refine fv_aload_n C 0 rfl rfl dX11_feed_0 ?_
  replace h := fo_s h
  obtain ⟨a1, ea1, ka1, h⟩ := h
  refine fv_getI C fl_RX11_102 ea1 ka1 dX11_feed_1 ?_
  refine fv_bipush (v := 20) C (by decide) dX11_feed_4 ?_
  refine fv_iadd C dX11_feed_6 ?_
  refine fv_bipush (v := 80) C (by decide) dX11_feed_7 ?_
  refine fv_icmp_le C 14 (by decide) dX11_feed_9 (fun c12 => ?_) (fun c12 => ?_)
  · replace h := itT c12 h
    refine fv_aload_n C 0 rfl rfl dX11_feed_14 ?_
    refine fv_iload_n C 1 rfl rfl dX11_feed_15 ?_
    replace h := bx h
    obtain ⟨M3, er2, h⟩ := h
    refine fv_callV [.int p1] C mi_X11_push ms_X11_push lk_RX11_106 ea1 ka1 (r_X11_push _ _ _ er2) ⟨Nat.le_of_ble_eq_true rfl, Nat.le_of_ble_eq_true rfl⟩ ⟨Nat.le_of_ble_eq_true rfl, Nat.le_of_ble_eq_true rfl⟩ rfl rfl (by simp [va_rf_cat, cat_i, cat_l]) dX11_feed_16 ?_
    show fh_V X rm_X11_feed 6 (sz, 0, 0) K M3 _ _ []
    refine fv_aload_n C 0 rfl rfl dX11_feed_19 ?_
    refine fv_iload_n C 2 rfl rfl dX11_feed_20 ?_
    replace h := bx h
    obtain ⟨M5, er4, h⟩ := h
    refine fv_callV [.int p2] C mi_X11_push ms_X11_push lk_RX11_106 ea1 ka1 (r_X11_push _ _ _ er4) ⟨Nat.le_of_ble_eq_true rfl, Nat.le_of_ble_eq_true rfl⟩ ⟨Nat.le_of_ble_eq_true rfl, Nat.le_of_ble_eq_true rfl⟩ rfl rfl (by simp [va_rf_cat, cat_i, cat_l]) dX11_feed_21 ?_
    show fh_V X rm_X11_feed 6 (sz, 0, 0) K M5 _ _ []
    refine fv_aload_n C 0 rfl rfl dX11_feed_24 ?_
    refine fv_iload_n C 3 rfl rfl dX11_feed_25 ?_
    replace h := bx h
    obtain ⟨M7, er6, h⟩ := h
    refine fv_callV [.int p3] C mi_X11_push ms_X11_push lk_RX11_106 ea1 ka1 (r_X11_push _ _ _ er6) ⟨Nat.le_of_ble_eq_true rfl, Nat.le_of_ble_eq_true rfl⟩ ⟨Nat.le_of_ble_eq_true rfl, Nat.le_of_ble_eq_true rfl⟩ rfl rfl (by simp [va_rf_cat, cat_i, cat_l]) dX11_feed_26 ?_
    show fh_V X rm_X11_feed 6 (sz, 0, 0) K M7 _ _ []
    refine fv_aload_n C 0 rfl rfl dX11_feed_29 ?_
    refine fv_iload C 4 rfl dX11_feed_30 ?_
    replace h := bx h
    obtain ⟨M9, er8, h⟩ := h
    refine fv_callV [.int p4] C mi_X11_push ms_X11_push lk_RX11_106 ea1 ka1 (r_X11_push _ _ _ er8) ⟨Nat.le_of_ble_eq_true rfl, Nat.le_of_ble_eq_true rfl⟩ ⟨Nat.le_of_ble_eq_true rfl, Nat.le_of_ble_eq_true rfl⟩ rfl rfl (by simp [va_rf_cat, cat_i, cat_l]) dX11_feed_32 ?_
    show fh_V X rm_X11_feed 6 (sz, 0, 0) K M9 _ _ []
    refine fv_aload_n C 0 rfl rfl dX11_feed_35 ?_
    refine fv_iload C 5 rfl dX11_feed_36 ?_
    replace h := bx h
    obtain ⟨M11, er10, h⟩ := h
    refine fv_callV [.int p5] C mi_X11_push ms_X11_push lk_RX11_106 ea1 ka1 (r_X11_push _ _ _ er10) ⟨Nat.le_of_ble_eq_true rfl, Nat.le_of_ble_eq_true rfl⟩ ⟨Nat.le_of_ble_eq_true rfl, Nat.le_of_ble_eq_true rfl⟩ rfl rfl (by simp [va_rf_cat, cat_i, cat_l]) dX11_feed_38 ?_
    show fh_V X rm_X11_feed 6 (sz, 0, 0) K M11 _ _ []
    refine fv_aload_n C 0 rfl rfl dX11_feed_41 ?_
    refine fv_getI C fl_RX11_102 ea1 ka1 dX11_feed_42 ?_
    cases h
    exact fv_iret (z := (0, 0, 0)) (st := []) C E dX11_feed_45
  · replace h := itF c12 h
    refine fv_iconst (v := -1) C (by decide) dX11_feed_12 ?_
    cases h
    exact fv_iret (z := (0, 0, 0)) (st := []) C E dX11_feed_13
abbrev rm_X11_make : Room := { frames := 1, cells := 0, slots := 0, locals := 22 }
set_option maxRecDepth 10000 in
theorem r_X11_make_J89 {X : fh_X} {K : fh_K} {sz : Nat} {M' : fh_M} {r : Int32} (C : fh_C X 6 cX11_make RX11) (E : fh_E X rm_X11_make (some .int) (some (.int r)) K M' sz) (t : Nat) (v1 : Int32) (v2 : Int32) (v3 : Int32) (v4 : Int32) (M : fh_M) (h : f_X11_make_J89 K t v1 v2 v3 v4 M = some (r, M')) : fh_V X rm_X11_make 6 (sz, 0, 0) K M 89 [(0, va_rf (some t)), (1, .int v1), (2, .int v2), (3, .int v3), (4, .int v4)] [] := by
  unfold f_X11_make_J89 at h
  refine fv_aload_n C 0 rfl rfl dX11_make_89 ?_
  refine fv_iconst (v := 0) C (by decide) dX11_make_90 ?_
  replace h := fo_s h
  obtain ⟨a15, ea15, ka15, h⟩ := h
  replace h := fb_s h
  obtain ⟨M16, eM16, h⟩ := h
  refine fv_putI (fin := false) C fl_RX11_102 ea15 ka15 (narrow_i _) dX11_make_91 (fv_eqM eM16 ?_)
  refine fv_aload_n C 0 rfl rfl dX11_make_94 ?_
  refine fv_getR C fl_RX11_17 ea15 ka15 dX11_make_95 ?_
  refine fv_aload_n C 0 rfl rfl dX11_make_98 ?_
  refine fv_getI C fl_RX11_114 ea15 ka15 dX11_make_99 ?_
  refine fv_iload_n C 1 rfl rfl dX11_make_102 ?_
  replace h := fi_s h
  obtain ⟨a17, ea17, ka17, ia17, h⟩ := h
  replace h := fb_s h
  obtain ⟨M18, eM18, h⟩ := h
  refine fv_iast C ea17 ka17 ia17 dX11_make_103 (fv_eqM eM18 ?_)
  refine fv_aload_n C 0 rfl rfl dX11_make_104 ?_
  refine fv_getR C fl_RX11_20 ea15 ka15 dX11_make_105 ?_
  refine fv_aload_n C 0 rfl rfl dX11_make_108 ?_
  refine fv_getI C fl_RX11_114 ea15 ka15 dX11_make_109 ?_
  refine fv_iload_n C 2 rfl rfl dX11_make_112 ?_
  replace h := fi_s h
  obtain ⟨a19, ea19, ka19, ia19, h⟩ := h
  replace h := fb_s h
  obtain ⟨M20, eM20, h⟩ := h
  refine fv_iast C ea19 ka19 ia19 dX11_make_113 (fv_eqM eM20 ?_)
  refine fv_aload_n C 0 rfl rfl dX11_make_114 ?_
  refine fv_getR C fl_RX11_23 ea15 ka15 dX11_make_115 ?_
  refine fv_aload_n C 0 rfl rfl dX11_make_118 ?_
  refine fv_getI C fl_RX11_114 ea15 ka15 dX11_make_119 ?_
  refine fv_iload_n C 3 rfl rfl dX11_make_122 ?_
  replace h := fi_s h
  obtain ⟨a21, ea21, ka21, ia21, h⟩ := h
  replace h := fb_s h
  obtain ⟨M22, eM22, h⟩ := h
  refine fv_zast C ea21 ka21 ia21 dX11_make_123 (fv_eqM eM22 ?_)
  refine fv_aload_n C 0 rfl rfl dX11_make_124 ?_
  refine fv_getR C fl_RX11_27 ea15 ka15 dX11_make_125 ?_
  refine fv_aload_n C 0 rfl rfl dX11_make_128 ?_
  refine fv_getI C fl_RX11_114 ea15 ka15 dX11_make_129 ?_
  refine fv_iload C 4 rfl dX11_make_132 ?_
  replace h := fi_s h
  obtain ⟨a23, ea23, ka23, ia23, h⟩ := h
  replace h := fb_s h
  obtain ⟨M24, eM24, h⟩ := h
  refine fv_iast C ea23 ka23 ia23 dX11_make_134 (fv_eqM eM24 ?_)
  refine fv_aload_n C 0 rfl rfl dX11_make_135 ?_
  refine fv_dupr C dX11_make_136 ?_
  refine fv_getI C fl_RX11_114 ea15 ka15 dX11_make_137 ?_
  refine fv_iconst (v := 1) C (by decide) dX11_make_140 ?_
  refine fv_iadd C dX11_make_141 ?_
  replace h := fb_s h
  obtain ⟨M25, eM25, h⟩ := h
  refine fv_putI (fin := false) C fl_RX11_114 ea15 ka15 (narrow_i _) dX11_make_142 (fv_eqM eM25 ?_)
  refine fv_aload_n C 0 rfl rfl dX11_make_145 ?_
  refine fv_getI C fl_RX11_114 ea15 ka15 dX11_make_146 ?_
  refine fv_iconst (v := 1) C (by decide) dX11_make_149 ?_
  refine fv_isub C dX11_make_150 ?_
  cases h
  exact fv_iret (z := (0, 0, 0)) (st := []) C E dX11_make_151
set_option maxRecDepth 10000 in
theorem r_X11_make_L52 {X : fh_X} {K : fh_K} {sz : Nat} {M' : fh_M} {r : Int32} (C : fh_C X 6 cX11_make RX11) (E : fh_E X rm_X11_make (some .int) (some (.int r)) K M' sz) : ∀ (n : Nat) (t : Nat) (v1 : Int32) (v2 : Int32) (v3 : Int32) (v4 : Int32) (v5 : Int32) (M : fh_M), f_X11_make_L52 K n t v1 v2 v3 v4 v5 M = some (r, M') → fh_V X rm_X11_make 6 (sz, 0, 0) K M 52 [(0, va_rf (some t)), (1, .int v1), (2, .int v2), (3, .int v3), (4, .int v4), (5, .int v5)] [] := by
  intro n
  induction n with
  | zero => intro t v1 v2 v3 v4 v5 M h; cases h
  | succ n ih =>
    intro t v1 v2 v3 v4 v5 M h
    unfold f_X11_make_L52 at h
    refine fv_iload C 5 rfl dX11_make_52 ?_
    refine fv_iload_n C 1 rfl rfl dX11_make_54 ?_
    refine fv_icmp_ge C 89 (by decide) dX11_make_55 (fun c14 => ?_) (fun c14 => ?_)
    · replace h := itT c14 h
      refine fv_sub (cc := ⟨#[]⟩) (own := "") [0, 1, 2, 3, 4] rfl ?_
      exact r_X11_make_J89 C E  _ _ _ _ _ _ h
    · replace h := itF c14 h
      refine fv_aload_n C 0 rfl rfl dX11_make_58 ?_
      replace h := fo_s h
      obtain ⟨a10, ea10, ka10, h⟩ := h
      refine fv_getR C fl_RX11_13 ea10 ka10 dX11_make_59 ?_
      refine fv_iconst (v := 4) C (by decide) dX11_make_62 ?_
      refine fv_aload_n C 0 rfl rfl dX11_make_63 ?_
      refine fv_getI C fl_RX11_114 ea10 ka10 dX11_make_64 ?_
      refine fv_imul C dX11_make_67 ?_
      refine fv_iload C 5 rfl dX11_make_68 ?_
      refine fv_iadd C dX11_make_70 ?_
      refine fv_aload_n C 0 rfl rfl dX11_make_71 ?_
      refine fv_getR C fl_RX11_7 ea10 ka10 dX11_make_72 ?_
      refine fv_iload C 5 rfl dX11_make_75 ?_
      replace h := fi_s h
      obtain ⟨a11, ea11, ka11, ia11, h⟩ := h
      refine fv_bald C ea11 ka11 ia11 dX11_make_77 ?_
      refine fv_sipush (v := 255) C (by decide) dX11_make_78 ?_
      refine fv_iand C dX11_make_81 ?_
      replace h := fi_s h
      obtain ⟨a12, ea12, ka12, ia12, h⟩ := h
      replace h := fb_s h
      obtain ⟨M13, eM13, h⟩ := h
      refine fv_iast C ea12 ka12 ia12 dX11_make_82 (fv_eqM eM13 ?_)
      refine fv_iinc (v := v5 + 1) (lv' := [(5, .int (v5 + 1)), (0, va_rf (some t)), (1, .int v1), (2, .int v2), (3, .int v3), (4, .int v4)]) C 5 rfl (by first | rfl | exact congrArg _ (by decide)) (by decide) (by first | rfl | simp [va_rf_cat]) dX11_make_83 ?_
      refine fv_goto C 52 (by decide) dX11_make_86 ?_
      refine fv_sub (cc := ⟨#[]⟩) (own := "") [1, 2, 3, 4, 5, 0] rfl ?_
      exact ih _ _ _ _ _ _ _ h
set_option maxRecDepth 10000 in
theorem r_X11_make (l : Launch) (D : fh_D) (A : Nat → Prop) {K : fh_K} {sz : Nat} {M : fh_M} {M' : fh_M} {r : Int32} {t : Nat} {p1 : Int32} {p2 : Int32} {p3 : Int32} {p4 : Int32} (h : f_X11_make K M t p1 p2 p3 p4 = some (r, M')) : fh_Met l yX11_make cX11_make 6 (some .int) rm_X11_make D K M sz A [va_rf (some t), .int p1, .int p2, .int p3, .int p4] (some (.int r)) K M' sz := by
  refine fh_enter (by decide) (by simp [lg_sl, va_rf_cat, cat_i, cat_l]) (lv := [(0, va_rf (some t)), (1, .int p1), (2, .int p2), (3, .int p3), (4, .int p4)]) (by simp [lv_args, va_rf_cat, cat_i, cat_l]) ?_
  intro X C E hnm _ _ _
  replace C : fh_C X 6 cX11_make RX11 := C
  unfold f_X11_make at h
  refine fv_iload_n C 1 rfl rfl dX11_make_0 ?_
  refine fv_iconst (v := 1) C (by decide) dX11_make_1 ?_
  refine fv_iconst (v := 4) C (by decide) dX11_make_2 ?_
  replace h := bx h
  obtain ⟨r1, er1, h⟩ := h
  refine fv_callS [.int p1, .int 1, .int 4] C mi_X11_lies lk_RX11_110 (r_X11_lies _ _ _ er1) ⟨Nat.le_of_ble_eq_true rfl, Nat.le_of_ble_eq_true rfl⟩ ⟨Nat.le_of_ble_eq_true rfl, Nat.le_of_ble_eq_true rfl⟩ rfl rfl (by simp [va_rf_cat, cat_i, cat_l]) dX11_make_3 ?_
  show fh_V X rm_X11_make 6 (sz, 0, 0) K M _ _ [.int r1]
  refine fv_if_eq C 47 (by decide) dX11_make_6 (fun c9 => ?_) (fun c9 => ?_)
  · replace h := itT c9 h
    refine fv_iconst (v := -1) C (by decide) dX11_make_47 ?_
    cases h
    exact fv_iret (z := (0, 0, 0)) (st := []) C E dX11_make_48
  · replace h := itF c9 h
    refine fv_iload_n C 2 rfl rfl dX11_make_9 ?_
    refine fv_iconst (v := 0) C (by decide) dX11_make_10 ?_
    refine fv_sipush (v := 4095) C (by decide) dX11_make_11 ?_
    replace h := bx h
    obtain ⟨r2, er2, h⟩ := h
    refine fv_callS [.int p2, .int 0, .int 4095] C mi_X11_lies lk_RX11_110 (r_X11_lies _ _ _ er2) ⟨Nat.le_of_ble_eq_true rfl, Nat.le_of_ble_eq_true rfl⟩ ⟨Nat.le_of_ble_eq_true rfl, Nat.le_of_ble_eq_true rfl⟩ rfl rfl (by simp [va_rf_cat, cat_i, cat_l]) dX11_make_14 ?_
    show fh_V X rm_X11_make 6 (sz, 0, 0) K M _ _ [.int r2]
    refine fv_if_eq C 47 (by decide) dX11_make_17 (fun c8 => ?_) (fun c8 => ?_)
    · replace h := itT c8 h
      refine fv_iconst (v := -1) C (by decide) dX11_make_47 ?_
      cases h
      exact fv_iret (z := (0, 0, 0)) (st := []) C E dX11_make_48
    · replace h := itF c8 h
      refine fv_iload C 4 rfl dX11_make_20 ?_
      refine fv_iconst (v := 0) C (by decide) dX11_make_22 ?_
      refine fv_iconst (v := 3) C (by decide) dX11_make_23 ?_
      replace h := bx h
      obtain ⟨r3, er3, h⟩ := h
      refine fv_callS [.int p4, .int 0, .int 3] C mi_X11_lies lk_RX11_110 (r_X11_lies _ _ _ er3) ⟨Nat.le_of_ble_eq_true rfl, Nat.le_of_ble_eq_true rfl⟩ ⟨Nat.le_of_ble_eq_true rfl, Nat.le_of_ble_eq_true rfl⟩ rfl rfl (by simp [va_rf_cat, cat_i, cat_l]) dX11_make_24 ?_
      show fh_V X rm_X11_make 6 (sz, 0, 0) K M _ _ [.int r3]
      refine fv_if_eq C 47 (by decide) dX11_make_27 (fun c7 => ?_) (fun c7 => ?_)
      · replace h := itT c7 h
        refine fv_iconst (v := -1) C (by decide) dX11_make_47 ?_
        cases h
        exact fv_iret (z := (0, 0, 0)) (st := []) C E dX11_make_48
      · replace h := itF c7 h
        refine fv_aload_n C 0 rfl rfl dX11_make_30 ?_
        replace h := fo_s h
        obtain ⟨a4, ea4, ka4, h⟩ := h
        refine fv_getI C fl_RX11_114 ea4 ka4 dX11_make_31 ?_
        refine fv_bipush (v := 12) C (by decide) dX11_make_34 ?_
        refine fv_icmp_eq C 47 (by decide) dX11_make_36 (fun c6 => ?_) (fun c6 => ?_)
        · replace h := itT c6 h
          refine fv_iconst (v := -1) C (by decide) dX11_make_47 ?_
          cases h
          exact fv_iret (z := (0, 0, 0)) (st := []) C E dX11_make_48
        · replace h := itF c6 h
          refine fv_iload_n C 1 rfl rfl dX11_make_39 ?_
          refine fv_aload_n C 0 rfl rfl dX11_make_40 ?_
          refine fv_getI C fl_RX11_102 ea4 ka4 dX11_make_41 ?_
          refine fv_icmp_le C 49 (by decide) dX11_make_44 (fun c5 => ?_) (fun c5 => ?_)
          · replace h := itT c5 h
            refine fv_iconst (v := 0) C (by decide) dX11_make_49 ?_
            refine fv_istore (i := 5) (lv' := [(5, .int 0), (0, va_rf (some t)), (1, .int p1), (2, .int p2), (3, .int p3), (4, .int p4)]) C (by decide) (by first | rfl | simp [va_rf_cat]) dX11_make_50 ?_
            refine fv_sub (cc := ⟨#[]⟩) (own := "") [1, 2, 3, 4, 5, 0] rfl ?_
            exact r_X11_make_L52 C E  4096 _ _ _ _ _ _ _ h
          · replace h := itF c5 h
            refine fv_iconst (v := -1) C (by decide) dX11_make_47 ?_
            cases h
            exact fv_iret (z := (0, 0, 0)) (st := []) C E dX11_make_48
abbrev rm_X11_file : Room := { frames := 1, cells := 0, slots := 0, locals := 22 }
set_option maxRecDepth 10000 in
theorem r_X11_file_J66 {X : fh_X} {K : fh_K} {sz : Nat} {M' : fh_M} {r : Int32} (C : fh_C X 3 cX11_file RX11) (E : fh_E X rm_X11_file (some .int) (some (.int r)) K M' sz) (t : Nat) (v1 : Int32) (M : fh_M) (h : f_X11_file_J66 K t v1 M = some (r, M')) : fh_V X rm_X11_file 3 (sz, 0, 0) K M 66 [(0, va_rf (some t)), (1, .int v1)] [] := by
  unfold f_X11_file_J66 at h
  refine fv_aload_n C 0 rfl rfl dX11_file_66 ?_
  refine fv_iconst (v := 0) C (by decide) dX11_file_67 ?_
  replace h := fo_s h
  obtain ⟨a11, ea11, ka11, h⟩ := h
  replace h := fb_s h
  obtain ⟨M12, eM12, h⟩ := h
  refine fv_putI (fin := false) C fl_RX11_102 ea11 ka11 (narrow_i _) dX11_file_68 (fv_eqM eM12 ?_)
  refine fv_aload_n C 0 rfl rfl dX11_file_71 ?_
  refine fv_getR C fl_RX11_33 ea11 ka11 dX11_file_72 ?_
  refine fv_aload_n C 0 rfl rfl dX11_file_75 ?_
  refine fv_getI C fl_RX11_117 ea11 ka11 dX11_file_76 ?_
  refine fv_iload_n C 1 rfl rfl dX11_file_79 ?_
  replace h := fi_s h
  obtain ⟨a13, ea13, ka13, ia13, h⟩ := h
  replace h := fb_s h
  obtain ⟨M14, eM14, h⟩ := h
  refine fv_iast C ea13 ka13 ia13 dX11_file_80 (fv_eqM eM14 ?_)
  refine fv_aload_n C 0 rfl rfl dX11_file_81 ?_
  refine fv_getR C fl_RX11_39 ea11 ka11 dX11_file_82 ?_
  refine fv_aload_n C 0 rfl rfl dX11_file_85 ?_
  refine fv_getI C fl_RX11_117 ea11 ka11 dX11_file_86 ?_
  refine fv_iconst (v := -1) C (by decide) dX11_file_89 ?_
  replace h := fi_s h
  obtain ⟨a15, ea15, ka15, ia15, h⟩ := h
  replace h := fb_s h
  obtain ⟨M16, eM16, h⟩ := h
  refine fv_iast C ea15 ka15 ia15 dX11_file_90 (fv_eqM eM16 ?_)
  refine fv_aload_n C 0 rfl rfl dX11_file_91 ?_
  refine fv_dupr C dX11_file_92 ?_
  refine fv_getI C fl_RX11_117 ea11 ka11 dX11_file_93 ?_
  refine fv_iconst (v := 1) C (by decide) dX11_file_96 ?_
  refine fv_iadd C dX11_file_97 ?_
  replace h := fb_s h
  obtain ⟨M17, eM17, h⟩ := h
  refine fv_putI (fin := false) C fl_RX11_117 ea11 ka11 (narrow_i _) dX11_file_98 (fv_eqM eM17 ?_)
  refine fv_aload_n C 0 rfl rfl dX11_file_101 ?_
  refine fv_getI C fl_RX11_117 ea11 ka11 dX11_file_102 ?_
  refine fv_iconst (v := 1) C (by decide) dX11_file_105 ?_
  refine fv_isub C dX11_file_106 ?_
  cases h
  exact fv_iret (z := (0, 0, 0)) (st := []) C E dX11_file_107
set_option maxRecDepth 10000 in
theorem r_X11_file_L31 {X : fh_X} {K : fh_K} {sz : Nat} {M' : fh_M} {r : Int32} (C : fh_C X 3 cX11_file RX11) (E : fh_E X rm_X11_file (some .int) (some (.int r)) K M' sz) : ∀ (n : Nat) (t : Nat) (v1 : Int32) (v2 : Int32) (M : fh_M), f_X11_file_L31 K n t v1 v2 M = some (r, M') → fh_V X rm_X11_file 3 (sz, 0, 0) K M 31 [(0, va_rf (some t)), (1, .int v1), (2, .int v2)] [] := by
  intro n
  induction n with
  | zero => intro t v1 v2 M h; cases h
  | succ n ih =>
    intro t v1 v2 M h
    unfold f_X11_file_L31 at h
    refine fv_iload_n C 2 rfl rfl dX11_file_31 ?_
    refine fv_iload_n C 1 rfl rfl dX11_file_32 ?_
    refine fv_icmp_ge C 66 (by decide) dX11_file_33 (fun c10 => ?_) (fun c10 => ?_)
    · replace h := itT c10 h
      refine fv_sub (cc := ⟨#[]⟩) (own := "") [0, 1] rfl ?_
      exact r_X11_file_J66 C E  _ _ _ h
    · replace h := itF c10 h
      refine fv_aload_n C 0 rfl rfl dX11_file_36 ?_
      replace h := fo_s h
      obtain ⟨a6, ea6, ka6, h⟩ := h
      refine fv_getR C fl_RX11_30 ea6 ka6 dX11_file_37 ?_
      refine fv_bipush (v := 60) C (by decide) dX11_file_40 ?_
      refine fv_aload_n C 0 rfl rfl dX11_file_42 ?_
      refine fv_getI C fl_RX11_117 ea6 ka6 dX11_file_43 ?_
      refine fv_imul C dX11_file_46 ?_
      refine fv_iload_n C 2 rfl rfl dX11_file_47 ?_
      refine fv_iadd C dX11_file_48 ?_
      refine fv_aload_n C 0 rfl rfl dX11_file_49 ?_
      refine fv_getR C fl_RX11_7 ea6 ka6 dX11_file_50 ?_
      refine fv_iload_n C 2 rfl rfl dX11_file_53 ?_
      replace h := fi_s h
      obtain ⟨a7, ea7, ka7, ia7, h⟩ := h
      refine fv_bald C ea7 ka7 ia7 dX11_file_54 ?_
      refine fv_sipush (v := 255) C (by decide) dX11_file_55 ?_
      refine fv_iand C dX11_file_58 ?_
      replace h := fi_s h
      obtain ⟨a8, ea8, ka8, ia8, h⟩ := h
      replace h := fb_s h
      obtain ⟨M9, eM9, h⟩ := h
      refine fv_iast C ea8 ka8 ia8 dX11_file_59 (fv_eqM eM9 ?_)
      refine fv_iinc (v := v2 + 1) (lv' := [(2, .int (v2 + 1)), (0, va_rf (some t)), (1, .int v1)]) C 2 rfl (by first | rfl | exact congrArg _ (by decide)) (by decide) (by first | rfl | simp [va_rf_cat]) dX11_file_60 ?_
      refine fv_goto C 31 (by decide) dX11_file_63 ?_
      refine fv_sub (cc := ⟨#[]⟩) (own := "") [1, 2, 0] rfl ?_
      exact ih _ _ _ _ h
set_option maxRecDepth 10000 in
theorem r_X11_file (l : Launch) (D : fh_D) (A : Nat → Prop) {K : fh_K} {sz : Nat} {M : fh_M} {M' : fh_M} {r : Int32} {t : Nat} {p1 : Int32} (h : f_X11_file K M t p1 = some (r, M')) : fh_Met l yX11_file cX11_file 3 (some .int) rm_X11_file D K M sz A [va_rf (some t), .int p1] (some (.int r)) K M' sz := by
  refine fh_enter (by decide) (by simp [lg_sl, va_rf_cat, cat_i, cat_l]) (lv := [(0, va_rf (some t)), (1, .int p1)]) (by simp [lv_args, va_rf_cat, cat_i, cat_l]) ?_
  intro X C E hnm _ _ _
  replace C : fh_C X 3 cX11_file RX11 := C
  unfold f_X11_file at h
  refine fv_iload_n C 1 rfl rfl dX11_file_0 ?_
  refine fv_iconst (v := 1) C (by decide) dX11_file_1 ?_
  refine fv_bipush (v := 60) C (by decide) dX11_file_2 ?_
  replace h := bx h
  obtain ⟨r1, er1, h⟩ := h
  refine fv_callS [.int p1, .int 1, .int 60] C mi_X11_lies lk_RX11_110 (r_X11_lies _ _ _ er1) ⟨Nat.le_of_ble_eq_true rfl, Nat.le_of_ble_eq_true rfl⟩ ⟨Nat.le_of_ble_eq_true rfl, Nat.le_of_ble_eq_true rfl⟩ rfl rfl (by simp [va_rf_cat, cat_i, cat_l]) dX11_file_4 ?_
  show fh_V X rm_X11_file 3 (sz, 0, 0) K M _ _ [.int r1]
  refine fv_if_eq C 27 (by decide) dX11_file_7 (fun c5 => ?_) (fun c5 => ?_)
  · replace h := itT c5 h
    refine fv_iconst (v := -1) C (by decide) dX11_file_27 ?_
    cases h
    exact fv_iret (z := (0, 0, 0)) (st := []) C E dX11_file_28
  · replace h := itF c5 h
    refine fv_aload_n C 0 rfl rfl dX11_file_10 ?_
    replace h := fo_s h
    obtain ⟨a2, ea2, ka2, h⟩ := h
    refine fv_getI C fl_RX11_117 ea2 ka2 dX11_file_11 ?_
    refine fv_bipush (v := 40) C (by decide) dX11_file_14 ?_
    refine fv_icmp_eq C 27 (by decide) dX11_file_16 (fun c4 => ?_) (fun c4 => ?_)
    · replace h := itT c4 h
      refine fv_iconst (v := -1) C (by decide) dX11_file_27 ?_
      cases h
      exact fv_iret (z := (0, 0, 0)) (st := []) C E dX11_file_28
    · replace h := itF c4 h
      refine fv_iload_n C 1 rfl rfl dX11_file_19 ?_
      refine fv_aload_n C 0 rfl rfl dX11_file_20 ?_
      refine fv_getI C fl_RX11_102 ea2 ka2 dX11_file_21 ?_
      refine fv_icmp_le C 29 (by decide) dX11_file_24 (fun c3 => ?_) (fun c3 => ?_)
      · replace h := itT c3 h
        refine fv_iconst (v := 0) C (by decide) dX11_file_29 ?_
        refine fv_istore_n (i := 2) (lv' := [(2, .int 0), (0, va_rf (some t)), (1, .int p1)]) C rfl (by decide) (by first | rfl | simp [va_rf_cat]) dX11_file_30 ?_
        refine fv_sub (cc := ⟨#[]⟩) (own := "") [1, 2, 0] rfl ?_
        exact r_X11_file_L31 C E  4096 _ _ _ _ h
      · replace h := itF c3 h
        refine fv_iconst (v := -1) C (by decide) dX11_file_27 ?_
        cases h
        exact fv_iret (z := (0, 0, 0)) (st := []) C E dX11_file_28
abbrev rm_X11_isFile : Room := { frames := 1, cells := 0, slots := 0, locals := 22 }
set_option maxRecDepth 10000 in
theorem r_X11_isFile (l : Launch) (D : fh_D) (A : Nat → Prop) {K : fh_K} {sz : Nat} {M : fh_M} {r : Int32} {t : Nat} {p1 : Int32} (h : f_X11_isFile K M t p1 = some r) : fh_Met l yX11_isFile cX11_isFile 2 (some .boolean) rm_X11_isFile D K M sz A [va_rf (some t), .int p1] (some (.int r)) K M sz := by
  refine fh_enter (by decide) (by simp [lg_sl, va_rf_cat, cat_i, cat_l]) (lv := [(0, va_rf (some t)), (1, .int p1)]) (by simp [lv_args, va_rf_cat, cat_i, cat_l]) ?_
  intro X C E hnm _ _ _
  replace C : fh_C X 2 cX11_isFile RX11 := C
  unfold f_X11_isFile at h
  refine fv_iload_n C 1 rfl rfl dX11_isFile_0 ?_
  refine fv_iconst (v := 0) C (by decide) dX11_isFile_1 ?_
  refine fv_aload_n C 0 rfl rfl dX11_isFile_2 ?_
  replace h := fo_s h
  obtain ⟨a1, ea1, ka1, h⟩ := h
  refine fv_getI C fl_RX11_117 ea1 ka1 dX11_isFile_3 ?_
  refine fv_iconst (v := 1) C (by decide) dX11_isFile_6 ?_
  refine fv_isub C dX11_isFile_7 ?_
  replace h := bx h
  obtain ⟨r2, er2, h⟩ := h
  refine fv_callS [.int p1, .int 0, .int ((M.1 a1 9) - 1)] C mi_X11_lies lk_RX11_110 (r_X11_lies _ _ _ er2) ⟨Nat.le_of_ble_eq_true rfl, Nat.le_of_ble_eq_true rfl⟩ ⟨Nat.le_of_ble_eq_true rfl, Nat.le_of_ble_eq_true rfl⟩ rfl rfl (by simp [va_rf_cat, cat_i, cat_l]) dX11_isFile_8 ?_
  show fh_V X rm_X11_isFile 2 (sz, 0, 0) K M _ _ [.int r2]
  replace h := fz_s h
  obtain ⟨hz, h⟩ := h
  cases h
  exact fv_zret (z := (0, 0, 0)) (st := []) C E hz dX11_isFile_11
abbrev rm_X11_isMake : Room := { frames := 1, cells := 0, slots := 0, locals := 22 }
set_option maxRecDepth 10000 in
theorem r_X11_isMake (l : Launch) (D : fh_D) (A : Nat → Prop) {K : fh_K} {sz : Nat} {M : fh_M} {r : Int32} {t : Nat} {p1 : Int32} (h : f_X11_isMake K M t p1 = some r) : fh_Met l yX11_isMake cX11_isMake 2 (some .boolean) rm_X11_isMake D K M sz A [va_rf (some t), .int p1] (some (.int r)) K M sz := by
  refine fh_enter (by decide) (by simp [lg_sl, va_rf_cat, cat_i, cat_l]) (lv := [(0, va_rf (some t)), (1, .int p1)]) (by simp [lv_args, va_rf_cat, cat_i, cat_l]) ?_
  intro X C E hnm _ _ _
  replace C : fh_C X 2 cX11_isMake RX11 := C
  unfold f_X11_isMake at h
  refine fv_iload_n C 1 rfl rfl dX11_isMake_0 ?_
  refine fv_iconst (v := 0) C (by decide) dX11_isMake_1 ?_
  refine fv_aload_n C 0 rfl rfl dX11_isMake_2 ?_
  replace h := fo_s h
  obtain ⟨a1, ea1, ka1, h⟩ := h
  refine fv_getI C fl_RX11_114 ea1 ka1 dX11_isMake_3 ?_
  refine fv_iconst (v := 1) C (by decide) dX11_isMake_6 ?_
  refine fv_isub C dX11_isMake_7 ?_
  replace h := bx h
  obtain ⟨r2, er2, h⟩ := h
  refine fv_callS [.int p1, .int 0, .int ((M.1 a1 3) - 1)] C mi_X11_lies lk_RX11_110 (r_X11_lies _ _ _ er2) ⟨Nat.le_of_ble_eq_true rfl, Nat.le_of_ble_eq_true rfl⟩ ⟨Nat.le_of_ble_eq_true rfl, Nat.le_of_ble_eq_true rfl⟩ rfl rfl (by simp [va_rf_cat, cat_i, cat_l]) dX11_isMake_8 ?_
  show fh_V X rm_X11_isMake 2 (sz, 0, 0) K M _ _ [.int r2]
  replace h := fz_s h
  obtain ⟨hz, h⟩ := h
  cases h
  exact fv_zret (z := (0, 0, 0)) (st := []) C E hz dX11_isMake_11
abbrev rm_X11_isMachine : Room := { frames := 1, cells := 0, slots := 0, locals := 22 }
set_option maxRecDepth 10000 in
theorem r_X11_isMachine (l : Launch) (D : fh_D) (A : Nat → Prop) {K : fh_K} {sz : Nat} {M : fh_M} {r : Int32} {p0 : Int32} (h : f_X11_isMachine K M p0 = some r) : fh_Met l yX11_isMachine cX11_isMachine 1 (some .boolean) rm_X11_isMachine D K M sz A [.int p0] (some (.int r)) K M sz := by
  refine fh_enter (by decide) (by simp [lg_sl, va_rf_cat, cat_i, cat_l]) (lv := [(0, .int p0)]) (by simp [lv_args, va_rf_cat, cat_i, cat_l]) ?_
  intro X C E hnm _ _ _
  replace C : fh_C X 1 cX11_isMachine RX11 := C
  unfold f_X11_isMachine at h
  refine fv_iload_n C 0 rfl rfl dX11_isMachine_0 ?_
  refine fv_iconst (v := 0) C (by decide) dX11_isMachine_1 ?_
  refine fv_bipush (v := 7) C (by decide) dX11_isMachine_2 ?_
  replace h := bx h
  obtain ⟨r1, er1, h⟩ := h
  refine fv_callS [.int p0, .int 0, .int 7] C mi_X11_lies lk_RX11_110 (r_X11_lies _ _ _ er1) ⟨Nat.le_of_ble_eq_true rfl, Nat.le_of_ble_eq_true rfl⟩ ⟨Nat.le_of_ble_eq_true rfl, Nat.le_of_ble_eq_true rfl⟩ rfl rfl (by simp [va_rf_cat, cat_i, cat_l]) dX11_isMachine_4 ?_
  show fh_V X rm_X11_isMachine 1 (sz, 0, 0) K M _ _ [.int r1]
  replace h := fz_s h
  obtain ⟨hz, h⟩ := h
  cases h
  exact fv_zret (z := (0, 0, 0)) (st := []) C E hz dX11_isMachine_7
abbrev rm_X11_must : Room := { frames := 2, cells := 0, slots := 0, locals := 43 }
set_option maxRecDepth 10000 in
theorem r_X11_must (l : Launch) (D : fh_D) (A : Nat → Prop) {K : fh_K} {sz : Nat} {M : fh_M} {M' : fh_M} {r : Int32} {t : Nat} {p1 : Int32} {p2 : Int32} (h : f_X11_must K M t p1 p2 = some (r, M')) : fh_Met l yX11_must cX11_must 3 (some .boolean) rm_X11_must D K M sz A [va_rf (some t), .int p1, .int p2] (some (.int r)) K M' sz := by
  refine fh_enter (by decide) (by simp [lg_sl, va_rf_cat, cat_i, cat_l]) (lv := [(0, va_rf (some t)), (1, .int p1), (2, .int p2)]) (by simp [lv_args, va_rf_cat, cat_i, cat_l]) ?_
  intro X C E hnm _ _ _
  replace C : fh_C X 3 cX11_must RX11 := C
  unfold f_X11_must at h
  refine fv_aload_n C 0 rfl rfl dX11_must_0 ?_
  refine fv_iload_n C 1 rfl rfl dX11_must_1 ?_
  replace h := fo_s h
  obtain ⟨a1, ea1, ka1, h⟩ := h
  replace h := bx h
  obtain ⟨r2, er2, h⟩ := h
  refine fv_callV [.int p1] C mi_X11_isFile ms_X11_isFile lk_RX11_120 ea1 ka1 (r_X11_isFile _ _ _ er2) ⟨Nat.le_of_ble_eq_true rfl, Nat.le_of_ble_eq_true rfl⟩ ⟨Nat.le_of_ble_eq_true rfl, Nat.le_of_ble_eq_true rfl⟩ rfl rfl (by simp [va_rf_cat, cat_i, cat_l]) dX11_must_2 ?_
  show fh_V X rm_X11_must 3 (sz, 0, 0) K M _ _ [.int r2]
  refine fv_if_eq C 19 (by decide) dX11_must_5 (fun c7 => ?_) (fun c7 => ?_)
  · replace h := itT c7 h
    refine fv_iconst (v := 0) C (by decide) dX11_must_19 ?_
    cases h
    exact fv_zret (z := (0, 0, 0)) (st := []) C E (Or.inl rfl) dX11_must_20
  · replace h := itF c7 h
    refine fv_iload_n C 2 rfl rfl dX11_must_8 ?_
    refine fv_iconst (v := 0) C (by decide) dX11_must_9 ?_
    refine fv_sipush (v := 4095) C (by decide) dX11_must_10 ?_
    replace h := bx h
    obtain ⟨r3, er3, h⟩ := h
    refine fv_callS [.int p2, .int 0, .int 4095] C mi_X11_lies lk_RX11_110 (r_X11_lies _ _ _ er3) ⟨Nat.le_of_ble_eq_true rfl, Nat.le_of_ble_eq_true rfl⟩ ⟨Nat.le_of_ble_eq_true rfl, Nat.le_of_ble_eq_true rfl⟩ rfl rfl (by simp [va_rf_cat, cat_i, cat_l]) dX11_must_13 ?_
    show fh_V X rm_X11_must 3 (sz, 0, 0) K M _ _ [.int r3]
    refine fv_if_ne C 21 (by decide) dX11_must_16 (fun c6 => ?_) (fun c6 => ?_)
    · replace h := itF c6 h
      refine fv_aload_n C 0 rfl rfl dX11_must_21 ?_
      refine fv_getR C fl_RX11_36 ea1 ka1 dX11_must_22 ?_
      refine fv_iload_n C 1 rfl rfl dX11_must_25 ?_
      refine fv_iload_n C 2 rfl rfl dX11_must_26 ?_
      replace h := fi_s h
      obtain ⟨a4, ea4, ka4, ia4, h⟩ := h
      replace h := fb_s h
      obtain ⟨M5, eM5, h⟩ := h
      refine fv_iast C ea4 ka4 ia4 dX11_must_27 (fv_eqM eM5 ?_)
      refine fv_iconst (v := 1) C (by decide) dX11_must_28 ?_
      cases h
      exact fv_zret (z := (0, 0, 0)) (st := []) C E (Or.inr rfl) dX11_must_29
    · replace h := itT c6 h
      refine fv_iconst (v := 0) C (by decide) dX11_must_19 ?_
      cases h
      exact fv_zret (z := (0, 0, 0)) (st := []) C E (Or.inl rfl) dX11_must_20
abbrev rm_X11_machine : Room := { frames := 2, cells := 0, slots := 0, locals := 42 }
set_option maxRecDepth 10000 in
theorem r_X11_machine (l : Launch) (D : fh_D) (A : Nat → Prop) {K : fh_K} {sz : Nat} {M : fh_M} {M' : fh_M} {r : Int32} {t : Nat} {p1 : Int32} {p2 : Int32} {p3 : Int32} (h : f_X11_machine K M t p1 p2 p3 = some (r, M')) : fh_Met l yX11_machine cX11_machine 4 (some .boolean) rm_X11_machine D K M sz A [va_rf (some t), .int p1, .int p2, .int p3] (some (.int r)) K M' sz := by
  refine fh_enter (by decide) (by simp [lg_sl, va_rf_cat, cat_i, cat_l]) (lv := [(0, va_rf (some t)), (1, .int p1), (2, .int p2), (3, .int p3)]) (by simp [lv_args, va_rf_cat, cat_i, cat_l]) ?_
  intro X C E hnm _ _ _
  replace C : fh_C X 4 cX11_machine RX11 := C
  unfold f_X11_machine at h
  refine fv_iload_n C 1 rfl rfl dX11_machine_0 ?_
  replace h := bx h
  obtain ⟨r1, er1, h⟩ := h
  refine fv_callS [.int p1] C mi_X11_isMachine lk_RX11_124 (r_X11_isMachine _ _ _ er1) ⟨Nat.le_of_ble_eq_true rfl, Nat.le_of_ble_eq_true rfl⟩ ⟨Nat.le_of_ble_eq_true rfl, Nat.le_of_ble_eq_true rfl⟩ rfl rfl (by simp [va_rf_cat, cat_i, cat_l]) dX11_machine_1 ?_
  show fh_V X rm_X11_machine 4 (sz, 0, 0) K M _ _ [.int r1]
  refine fv_if_eq C 29 (by decide) dX11_machine_4 (fun c11 => ?_) (fun c11 => ?_)
  · replace h := itT c11 h
    refine fv_iconst (v := 0) C (by decide) dX11_machine_29 ?_
    cases h
    exact fv_zret (z := (0, 0, 0)) (st := []) C E (Or.inl rfl) dX11_machine_30
  · replace h := itF c11 h
    refine fv_iload_n C 2 rfl rfl dX11_machine_7 ?_
    refine fv_iconst (v := 0) C (by decide) dX11_machine_8 ?_
    refine fv_sipush (v := 999) C (by decide) dX11_machine_9 ?_
    replace h := bx h
    obtain ⟨r2, er2, h⟩ := h
    refine fv_callS [.int p2, .int 0, .int 999] C mi_X11_lies lk_RX11_110 (r_X11_lies _ _ _ er2) ⟨Nat.le_of_ble_eq_true rfl, Nat.le_of_ble_eq_true rfl⟩ ⟨Nat.le_of_ble_eq_true rfl, Nat.le_of_ble_eq_true rfl⟩ rfl rfl (by simp [va_rf_cat, cat_i, cat_l]) dX11_machine_12 ?_
    show fh_V X rm_X11_machine 4 (sz, 0, 0) K M _ _ [.int r2]
    refine fv_if_eq C 29 (by decide) dX11_machine_15 (fun c10 => ?_) (fun c10 => ?_)
    · replace h := itT c10 h
      refine fv_iconst (v := 0) C (by decide) dX11_machine_29 ?_
      cases h
      exact fv_zret (z := (0, 0, 0)) (st := []) C E (Or.inl rfl) dX11_machine_30
    · replace h := itF c10 h
      refine fv_iload_n C 3 rfl rfl dX11_machine_18 ?_
      refine fv_iload_n C 2 rfl rfl dX11_machine_19 ?_
      refine fv_sipush (v := 999) C (by decide) dX11_machine_20 ?_
      replace h := bx h
      obtain ⟨r3, er3, h⟩ := h
      refine fv_callS [.int p3, .int p2, .int 999] C mi_X11_lies lk_RX11_110 (r_X11_lies _ _ _ er3) ⟨Nat.le_of_ble_eq_true rfl, Nat.le_of_ble_eq_true rfl⟩ ⟨Nat.le_of_ble_eq_true rfl, Nat.le_of_ble_eq_true rfl⟩ rfl rfl (by simp [va_rf_cat, cat_i, cat_l]) dX11_machine_23 ?_
      show fh_V X rm_X11_machine 4 (sz, 0, 0) K M _ _ [.int r3]
      refine fv_if_ne C 31 (by decide) dX11_machine_26 (fun c9 => ?_) (fun c9 => ?_)
      · replace h := itF c9 h
        refine fv_aload_n C 0 rfl rfl dX11_machine_31 ?_
        replace h := fo_s h
        obtain ⟨a4, ea4, ka4, h⟩ := h
        refine fv_getR C fl_RX11_42 ea4 ka4 dX11_machine_32 ?_
        refine fv_iload_n C 1 rfl rfl dX11_machine_35 ?_
        refine fv_iload_n C 2 rfl rfl dX11_machine_36 ?_
        replace h := fi_s h
        obtain ⟨a5, ea5, ka5, ia5, h⟩ := h
        replace h := fb_s h
        obtain ⟨M6, eM6, h⟩ := h
        refine fv_iast C ea5 ka5 ia5 dX11_machine_37 (fv_eqM eM6 ?_)
        refine fv_aload_n C 0 rfl rfl dX11_machine_38 ?_
        refine fv_getR C fl_RX11_45 ea4 ka4 dX11_machine_39 ?_
        refine fv_iload_n C 1 rfl rfl dX11_machine_42 ?_
        refine fv_iload_n C 3 rfl rfl dX11_machine_43 ?_
        replace h := fi_s h
        obtain ⟨a7, ea7, ka7, ia7, h⟩ := h
        replace h := fb_s h
        obtain ⟨M8, eM8, h⟩ := h
        refine fv_iast C ea7 ka7 ia7 dX11_machine_44 (fv_eqM eM8 ?_)
        refine fv_iconst (v := 1) C (by decide) dX11_machine_45 ?_
        cases h
        exact fv_zret (z := (0, 0, 0)) (st := []) C E (Or.inr rfl) dX11_machine_46
      · replace h := itT c9 h
        refine fv_iconst (v := 0) C (by decide) dX11_machine_29 ?_
        cases h
        exact fv_zret (z := (0, 0, 0)) (st := []) C E (Or.inl rfl) dX11_machine_30
abbrev rm_X11_reader : Room := { frames := 2, cells := 0, slots := 0, locals := 43 }
set_option maxRecDepth 10000 in
theorem r_X11_reader_J64 {X : fh_X} {K : fh_K} {sz : Nat} {M' : fh_M} {r : Int32} (C : fh_C X 4 cX11_reader RX11) (E : fh_E X rm_X11_reader (some .boolean) (some (.int r)) K M' sz) (t : Nat) (v1 : Int32) (v2 : Int32) (M : fh_M) (h : f_X11_reader_J64 K t v1 v2 M = some (r, M')) : fh_V X rm_X11_reader 4 (sz, 0, 0) K M 64 [(0, va_rf (some t)), (1, .int v1), (2, .int v2)] [] := by
  unfold f_X11_reader_J64 at h
  refine fv_aload_n C 0 rfl rfl dX11_reader_64 ?_
  replace h := fo_s h
  obtain ⟨a13, ea13, ka13, h⟩ := h
  refine fv_getR C fl_RX11_48 ea13 ka13 dX11_reader_65 ?_
  refine fv_aload_n C 0 rfl rfl dX11_reader_68 ?_
  refine fv_getI C fl_RX11_130 ea13 ka13 dX11_reader_69 ?_
  refine fv_iload_n C 1 rfl rfl dX11_reader_72 ?_
  replace h := fi_s h
  obtain ⟨a14, ea14, ka14, ia14, h⟩ := h
  replace h := fb_s h
  obtain ⟨M15, eM15, h⟩ := h
  refine fv_iast C ea14 ka14 ia14 dX11_reader_73 (fv_eqM eM15 ?_)
  refine fv_aload_n C 0 rfl rfl dX11_reader_74 ?_
  refine fv_getR C fl_RX11_51 ea13 ka13 dX11_reader_75 ?_
  refine fv_aload_n C 0 rfl rfl dX11_reader_78 ?_
  refine fv_getI C fl_RX11_130 ea13 ka13 dX11_reader_79 ?_
  refine fv_iload_n C 2 rfl rfl dX11_reader_82 ?_
  replace h := fi_s h
  obtain ⟨a16, ea16, ka16, ia16, h⟩ := h
  replace h := fb_s h
  obtain ⟨M17, eM17, h⟩ := h
  refine fv_iast C ea16 ka16 ia16 dX11_reader_83 (fv_eqM eM17 ?_)
  refine fv_aload_n C 0 rfl rfl dX11_reader_84 ?_
  refine fv_dupr C dX11_reader_85 ?_
  refine fv_getI C fl_RX11_130 ea13 ka13 dX11_reader_86 ?_
  refine fv_iconst (v := 1) C (by decide) dX11_reader_89 ?_
  refine fv_iadd C dX11_reader_90 ?_
  replace h := fb_s h
  obtain ⟨M18, eM18, h⟩ := h
  refine fv_putI (fin := false) C fl_RX11_130 ea13 ka13 (narrow_i _) dX11_reader_91 (fv_eqM eM18 ?_)
  refine fv_iconst (v := 1) C (by decide) dX11_reader_94 ?_
  cases h
  exact fv_zret (z := (0, 0, 0)) (st := []) C E (Or.inr rfl) dX11_reader_95
set_option maxRecDepth 10000 in
theorem r_X11_reader_J58 {X : fh_X} {K : fh_K} {sz : Nat} {M' : fh_M} {r : Int32} (C : fh_C X 4 cX11_reader RX11) (E : fh_E X rm_X11_reader (some .boolean) (some (.int r)) K M' sz) {rec28 : Nat → Int32 → Int32 → Int32 → fh_M → Option (Int32 × fh_M)} (hrec28 : ∀ (t : Nat) (v1 : Int32) (v2 : Int32) (v3 : Int32) (M : fh_M), rec28 t v1 v2 v3 M = some (r, M') → fh_V X rm_X11_reader 4 (sz, 0, 0) K M 28 [(0, va_rf (some t)), (1, .int v1), (2, .int v2), (3, .int v3)] []) (t : Nat) (v1 : Int32) (v2 : Int32) (v3 : Int32) (M : fh_M) (h : f_X11_reader_J58 K rec28 t v1 v2 v3 M = some (r, M')) : fh_V X rm_X11_reader 4 (sz, 0, 0) K M 58 [(0, va_rf (some t)), (1, .int v1), (2, .int v2), (3, .int v3)] [] := by
  unfold f_X11_reader_J58 at h
  refine fv_iinc (v := v3 + 1) (lv' := [(3, .int (v3 + 1)), (0, va_rf (some t)), (1, .int v1), (2, .int v2)]) C 3 rfl (by first | rfl | exact congrArg _ (by decide)) (by decide) (by first | rfl | simp [va_rf_cat]) dX11_reader_58 ?_
  refine fv_goto C 28 (by decide) dX11_reader_61 ?_
  refine fv_sub (cc := ⟨#[]⟩) (own := "") [1, 2, 3, 0] rfl ?_
  exact hrec28 _ _ _ _ _ h
set_option maxRecDepth 10000 in
theorem r_X11_reader_L28 {X : fh_X} {K : fh_K} {sz : Nat} {M' : fh_M} {r : Int32} (C : fh_C X 4 cX11_reader RX11) (E : fh_E X rm_X11_reader (some .boolean) (some (.int r)) K M' sz) : ∀ (n : Nat) (t : Nat) (v1 : Int32) (v2 : Int32) (v3 : Int32) (M : fh_M), f_X11_reader_L28 K n t v1 v2 v3 M = some (r, M') → fh_V X rm_X11_reader 4 (sz, 0, 0) K M 28 [(0, va_rf (some t)), (1, .int v1), (2, .int v2), (3, .int v3)] [] := by
  intro n
  induction n with
  | zero => intro t v1 v2 v3 M h; cases h
  | succ n ih =>
    intro t v1 v2 v3 M h
    unfold f_X11_reader_L28 at h
    refine fv_iload_n C 3 rfl rfl dX11_reader_28 ?_
    refine fv_aload_n C 0 rfl rfl dX11_reader_29 ?_
    replace h := fo_s h
    obtain ⟨a7, ea7, ka7, h⟩ := h
    refine fv_getI C fl_RX11_130 ea7 ka7 dX11_reader_30 ?_
    refine fv_icmp_ge C 64 (by decide) dX11_reader_33 (fun c12 => ?_) (fun c12 => ?_)
    · replace h := itT c12 h
      refine fv_sub (cc := ⟨#[]⟩) (own := "") [0, 1, 2] rfl ?_
      exact r_X11_reader_J64 C E  _ _ _ _ h
    · replace h := itF c12 h
      refine fv_aload_n C 0 rfl rfl dX11_reader_36 ?_
      refine fv_getR C fl_RX11_48 ea7 ka7 dX11_reader_37 ?_
      refine fv_iload_n C 3 rfl rfl dX11_reader_40 ?_
      replace h := fi_s h
      obtain ⟨a8, ea8, ka8, ia8, h⟩ := h
      refine fv_iald C ea8 ka8 ia8 dX11_reader_41 ?_
      refine fv_iload_n C 1 rfl rfl dX11_reader_42 ?_
      refine fv_icmp_ne C 58 (by decide) dX11_reader_43 (fun c11 => ?_) (fun c11 => ?_)
      · replace h := itF c11 h
        refine fv_sub (cc := ⟨#[]⟩) (own := "") [0, 1, 2, 3] rfl ?_
        exact r_X11_reader_J58 C E ih _ _ _ _ _ h
      · replace h := itT c11 h
        refine fv_aload_n C 0 rfl rfl dX11_reader_46 ?_
        refine fv_getR C fl_RX11_51 ea7 ka7 dX11_reader_47 ?_
        refine fv_iload_n C 3 rfl rfl dX11_reader_50 ?_
        replace h := fi_s h
        obtain ⟨a9, ea9, ka9, ia9, h⟩ := h
        refine fv_iald C ea9 ka9 ia9 dX11_reader_51 ?_
        refine fv_iload_n C 2 rfl rfl dX11_reader_52 ?_
        refine fv_icmp_ne C 58 (by decide) dX11_reader_53 (fun c10 => ?_) (fun c10 => ?_)
        · replace h := itF c10 h
          refine fv_sub (cc := ⟨#[]⟩) (own := "") [0, 1, 2, 3] rfl ?_
          exact r_X11_reader_J58 C E ih _ _ _ _ _ h
        · replace h := itT c10 h
          refine fv_iconst (v := 0) C (by decide) dX11_reader_56 ?_
          cases h
          exact fv_zret (z := (0, 0, 0)) (st := []) C E (Or.inl rfl) dX11_reader_57
set_option maxRecDepth 10000 in
theorem r_X11_reader (l : Launch) (D : fh_D) (A : Nat → Prop) {K : fh_K} {sz : Nat} {M : fh_M} {M' : fh_M} {r : Int32} {t : Nat} {p1 : Int32} {p2 : Int32} (h : f_X11_reader K M t p1 p2 = some (r, M')) : fh_Met l yX11_reader cX11_reader 4 (some .boolean) rm_X11_reader D K M sz A [va_rf (some t), .int p1, .int p2] (some (.int r)) K M' sz := by
  refine fh_enter (by decide) (by simp [lg_sl, va_rf_cat, cat_i, cat_l]) (lv := [(0, va_rf (some t)), (1, .int p1), (2, .int p2)]) (by simp [lv_args, va_rf_cat, cat_i, cat_l]) ?_
  intro X C E hnm _ _ _
  replace C : fh_C X 4 cX11_reader RX11 := C
  unfold f_X11_reader at h
  refine fv_aload_n C 0 rfl rfl dX11_reader_0 ?_
  refine fv_iload_n C 1 rfl rfl dX11_reader_1 ?_
  replace h := fo_s h
  obtain ⟨a1, ea1, ka1, h⟩ := h
  replace h := bx h
  obtain ⟨r2, er2, h⟩ := h
  refine fv_callV [.int p1] C mi_X11_isMake ms_X11_isMake lk_RX11_127 ea1 ka1 (r_X11_isMake _ _ _ er2) ⟨Nat.le_of_ble_eq_true rfl, Nat.le_of_ble_eq_true rfl⟩ ⟨Nat.le_of_ble_eq_true rfl, Nat.le_of_ble_eq_true rfl⟩ rfl rfl (by simp [va_rf_cat, cat_i, cat_l]) dX11_reader_2 ?_
  show fh_V X rm_X11_reader 4 (sz, 0, 0) K M _ _ [.int r2]
  refine fv_if_eq C 24 (by decide) dX11_reader_5 (fun c6 => ?_) (fun c6 => ?_)
  · replace h := itT c6 h
    refine fv_iconst (v := 0) C (by decide) dX11_reader_24 ?_
    cases h
    exact fv_zret (z := (0, 0, 0)) (st := []) C E (Or.inl rfl) dX11_reader_25
  · replace h := itF c6 h
    refine fv_iload_n C 2 rfl rfl dX11_reader_8 ?_
    replace h := bx h
    obtain ⟨r3, er3, h⟩ := h
    refine fv_callS [.int p2] C mi_X11_isMachine lk_RX11_124 (r_X11_isMachine _ _ _ er3) ⟨Nat.le_of_ble_eq_true rfl, Nat.le_of_ble_eq_true rfl⟩ ⟨Nat.le_of_ble_eq_true rfl, Nat.le_of_ble_eq_true rfl⟩ rfl rfl (by simp [va_rf_cat, cat_i, cat_l]) dX11_reader_9 ?_
    show fh_V X rm_X11_reader 4 (sz, 0, 0) K M _ _ [.int r3]
    refine fv_if_eq C 24 (by decide) dX11_reader_12 (fun c5 => ?_) (fun c5 => ?_)
    · replace h := itT c5 h
      refine fv_iconst (v := 0) C (by decide) dX11_reader_24 ?_
      cases h
      exact fv_zret (z := (0, 0, 0)) (st := []) C E (Or.inl rfl) dX11_reader_25
    · replace h := itF c5 h
      refine fv_aload_n C 0 rfl rfl dX11_reader_15 ?_
      refine fv_getI C fl_RX11_130 ea1 ka1 dX11_reader_16 ?_
      refine fv_bipush (v := 24) C (by decide) dX11_reader_19 ?_
      refine fv_icmp_ne C 26 (by decide) dX11_reader_21 (fun c4 => ?_) (fun c4 => ?_)
      · replace h := itF c4 h
        refine fv_iconst (v := 0) C (by decide) dX11_reader_26 ?_
        refine fv_istore_n (i := 3) (lv' := [(3, .int 0), (0, va_rf (some t)), (1, .int p1), (2, .int p2)]) C rfl (by decide) (by first | rfl | simp [va_rf_cat]) dX11_reader_27 ?_
        refine fv_sub (cc := ⟨#[]⟩) (own := "") [1, 2, 3, 0] rfl ?_
        exact r_X11_reader_L28 C E  4096 _ _ _ _ _ h
      · replace h := itT c4 h
        refine fv_iconst (v := 0) C (by decide) dX11_reader_24 ?_
        cases h
        exact fv_zret (z := (0, 0, 0)) (st := []) C E (Or.inl rfl) dX11_reader_25
abbrev rm_X11_turner : Room := { frames := 2, cells := 0, slots := 0, locals := 43 }
set_option maxRecDepth 10000 in
theorem r_X11_turner (l : Launch) (D : fh_D) (A : Nat → Prop) {K : fh_K} {sz : Nat} {M : fh_M} {M' : fh_M} {r : Int32} {t : Nat} {p1 : Int32} {p2 : Int32} {p3 : Int32} {p4 : Int32} {p5 : Int32} (h : f_X11_turner K M t p1 p2 p3 p4 p5 = some (r, M')) : fh_Met l yX11_turner cX11_turner 6 (some .int) rm_X11_turner D K M sz A [va_rf (some t), .int p1, .int p2, .int p3, .int p4, .int p5] (some (.int r)) K M' sz := by
  refine fh_enter (by decide) (by simp [lg_sl, va_rf_cat, cat_i, cat_l]) (lv := [(0, va_rf (some t)), (1, .int p1), (2, .int p2), (3, .int p3), (4, .int p4), (5, .int p5)]) (by simp [lv_args, va_rf_cat, cat_i, cat_l]) ?_
  intro X C E hnm _ _ _
  replace C : fh_C X 6 cX11_turner RX11 := C
  unfold f_X11_turner at h
  refine fv_aload_n C 0 rfl rfl dX11_turner_0 ?_
  refine fv_iload_n C 1 rfl rfl dX11_turner_1 ?_
  replace h := fo_s h
  obtain ⟨a1, ea1, ka1, h⟩ := h
  replace h := bx h
  obtain ⟨r2, er2, h⟩ := h
  refine fv_callV [.int p1] C mi_X11_isMake ms_X11_isMake lk_RX11_127 ea1 ka1 (r_X11_isMake _ _ _ er2) ⟨Nat.le_of_ble_eq_true rfl, Nat.le_of_ble_eq_true rfl⟩ ⟨Nat.le_of_ble_eq_true rfl, Nat.le_of_ble_eq_true rfl⟩ rfl rfl (by simp [va_rf_cat, cat_i, cat_l]) dX11_turner_2 ?_
  show fh_V X rm_X11_turner 6 (sz, 0, 0) K M _ _ [.int r2]
  refine fv_if_eq C 61 (by decide) dX11_turner_5 (fun c24 => ?_) (fun c24 => ?_)
  · replace h := itT c24 h
    refine fv_iconst (v := -1) C (by decide) dX11_turner_61 ?_
    cases h
    exact fv_iret (z := (0, 0, 0)) (st := []) C E dX11_turner_62
  · replace h := itF c24 h
    refine fv_aload_n C 0 rfl rfl dX11_turner_8 ?_
    refine fv_iload_n C 2 rfl rfl dX11_turner_9 ?_
    replace h := bx h
    obtain ⟨r3, er3, h⟩ := h
    refine fv_callV [.int p2] C mi_X11_isMake ms_X11_isMake lk_RX11_127 ea1 ka1 (r_X11_isMake _ _ _ er3) ⟨Nat.le_of_ble_eq_true rfl, Nat.le_of_ble_eq_true rfl⟩ ⟨Nat.le_of_ble_eq_true rfl, Nat.le_of_ble_eq_true rfl⟩ rfl rfl (by simp [va_rf_cat, cat_i, cat_l]) dX11_turner_10 ?_
    show fh_V X rm_X11_turner 6 (sz, 0, 0) K M _ _ [.int r3]
    refine fv_if_eq C 61 (by decide) dX11_turner_13 (fun c23 => ?_) (fun c23 => ?_)
    · replace h := itT c23 h
      refine fv_iconst (v := -1) C (by decide) dX11_turner_61 ?_
      cases h
      exact fv_iret (z := (0, 0, 0)) (st := []) C E dX11_turner_62
    · replace h := itF c23 h
      refine fv_iload_n C 1 rfl rfl dX11_turner_16 ?_
      refine fv_iload_n C 2 rfl rfl dX11_turner_17 ?_
      refine fv_icmp_eq C 61 (by decide) dX11_turner_18 (fun c22 => ?_) (fun c22 => ?_)
      · replace h := itT c22 h
        refine fv_iconst (v := -1) C (by decide) dX11_turner_61 ?_
        cases h
        exact fv_iret (z := (0, 0, 0)) (st := []) C E dX11_turner_62
      · replace h := itF c22 h
        refine fv_iload_n C 3 rfl rfl dX11_turner_21 ?_
        refine fv_iconst (v := 0) C (by decide) dX11_turner_22 ?_
        refine fv_sipush (v := 4095) C (by decide) dX11_turner_23 ?_
        replace h := bx h
        obtain ⟨r4, er4, h⟩ := h
        refine fv_callS [.int p3, .int 0, .int 4095] C mi_X11_lies lk_RX11_110 (r_X11_lies _ _ _ er4) ⟨Nat.le_of_ble_eq_true rfl, Nat.le_of_ble_eq_true rfl⟩ ⟨Nat.le_of_ble_eq_true rfl, Nat.le_of_ble_eq_true rfl⟩ rfl rfl (by simp [va_rf_cat, cat_i, cat_l]) dX11_turner_26 ?_
        show fh_V X rm_X11_turner 6 (sz, 0, 0) K M _ _ [.int r4]
        refine fv_if_eq C 61 (by decide) dX11_turner_29 (fun c21 => ?_) (fun c21 => ?_)
        · replace h := itT c21 h
          refine fv_iconst (v := -1) C (by decide) dX11_turner_61 ?_
          cases h
          exact fv_iret (z := (0, 0, 0)) (st := []) C E dX11_turner_62
        · replace h := itF c21 h
          refine fv_iload C 4 rfl dX11_turner_32 ?_
          refine fv_iconst (v := 0) C (by decide) dX11_turner_34 ?_
          refine fv_sipush (v := 9999) C (by decide) dX11_turner_35 ?_
          replace h := bx h
          obtain ⟨r5, er5, h⟩ := h
          refine fv_callS [.int p4, .int 0, .int 9999] C mi_X11_lies lk_RX11_110 (r_X11_lies _ _ _ er5) ⟨Nat.le_of_ble_eq_true rfl, Nat.le_of_ble_eq_true rfl⟩ ⟨Nat.le_of_ble_eq_true rfl, Nat.le_of_ble_eq_true rfl⟩ rfl rfl (by simp [va_rf_cat, cat_i, cat_l]) dX11_turner_38 ?_
          show fh_V X rm_X11_turner 6 (sz, 0, 0) K M _ _ [.int r5]
          refine fv_if_eq C 61 (by decide) dX11_turner_41 (fun c20 => ?_) (fun c20 => ?_)
          · replace h := itT c20 h
            refine fv_iconst (v := -1) C (by decide) dX11_turner_61 ?_
            cases h
            exact fv_iret (z := (0, 0, 0)) (st := []) C E dX11_turner_62
          · replace h := itF c20 h
            refine fv_iload C 5 rfl dX11_turner_44 ?_
            replace h := bx h
            obtain ⟨r6, er6, h⟩ := h
            refine fv_callS [.int p5] C mi_X11_isMachine lk_RX11_124 (r_X11_isMachine _ _ _ er6) ⟨Nat.le_of_ble_eq_true rfl, Nat.le_of_ble_eq_true rfl⟩ ⟨Nat.le_of_ble_eq_true rfl, Nat.le_of_ble_eq_true rfl⟩ rfl rfl (by simp [va_rf_cat, cat_i, cat_l]) dX11_turner_46 ?_
            show fh_V X rm_X11_turner 6 (sz, 0, 0) K M _ _ [.int r6]
            refine fv_if_eq C 61 (by decide) dX11_turner_49 (fun c19 => ?_) (fun c19 => ?_)
            · replace h := itT c19 h
              refine fv_iconst (v := -1) C (by decide) dX11_turner_61 ?_
              cases h
              exact fv_iret (z := (0, 0, 0)) (st := []) C E dX11_turner_62
            · replace h := itF c19 h
              refine fv_aload_n C 0 rfl rfl dX11_turner_52 ?_
              refine fv_getI C fl_RX11_133 ea1 ka1 dX11_turner_53 ?_
              refine fv_bipush (v := 24) C (by decide) dX11_turner_56 ?_
              refine fv_icmp_ne C 63 (by decide) dX11_turner_58 (fun c18 => ?_) (fun c18 => ?_)
              · replace h := itF c18 h
                refine fv_aload_n C 0 rfl rfl dX11_turner_63 ?_
                refine fv_getR C fl_RX11_54 ea1 ka1 dX11_turner_64 ?_
                refine fv_aload_n C 0 rfl rfl dX11_turner_67 ?_
                refine fv_getI C fl_RX11_133 ea1 ka1 dX11_turner_68 ?_
                refine fv_iload_n C 1 rfl rfl dX11_turner_71 ?_
                replace h := fi_s h
                obtain ⟨a7, ea7, ka7, ia7, h⟩ := h
                replace h := fb_s h
                obtain ⟨M8, eM8, h⟩ := h
                refine fv_iast C ea7 ka7 ia7 dX11_turner_72 (fv_eqM eM8 ?_)
                refine fv_aload_n C 0 rfl rfl dX11_turner_73 ?_
                refine fv_getR C fl_RX11_57 ea1 ka1 dX11_turner_74 ?_
                refine fv_aload_n C 0 rfl rfl dX11_turner_77 ?_
                refine fv_getI C fl_RX11_133 ea1 ka1 dX11_turner_78 ?_
                refine fv_iload_n C 2 rfl rfl dX11_turner_81 ?_
                replace h := fi_s h
                obtain ⟨a9, ea9, ka9, ia9, h⟩ := h
                replace h := fb_s h
                obtain ⟨M10, eM10, h⟩ := h
                refine fv_iast C ea9 ka9 ia9 dX11_turner_82 (fv_eqM eM10 ?_)
                refine fv_aload_n C 0 rfl rfl dX11_turner_83 ?_
                refine fv_getR C fl_RX11_60 ea1 ka1 dX11_turner_84 ?_
                refine fv_aload_n C 0 rfl rfl dX11_turner_87 ?_
                refine fv_getI C fl_RX11_133 ea1 ka1 dX11_turner_88 ?_
                refine fv_iload_n C 3 rfl rfl dX11_turner_91 ?_
                replace h := fi_s h
                obtain ⟨a11, ea11, ka11, ia11, h⟩ := h
                replace h := fb_s h
                obtain ⟨M12, eM12, h⟩ := h
                refine fv_iast C ea11 ka11 ia11 dX11_turner_92 (fv_eqM eM12 ?_)
                refine fv_aload_n C 0 rfl rfl dX11_turner_93 ?_
                refine fv_getR C fl_RX11_63 ea1 ka1 dX11_turner_94 ?_
                refine fv_aload_n C 0 rfl rfl dX11_turner_97 ?_
                refine fv_getI C fl_RX11_133 ea1 ka1 dX11_turner_98 ?_
                refine fv_iload C 4 rfl dX11_turner_101 ?_
                replace h := fi_s h
                obtain ⟨a13, ea13, ka13, ia13, h⟩ := h
                replace h := fb_s h
                obtain ⟨M14, eM14, h⟩ := h
                refine fv_iast C ea13 ka13 ia13 dX11_turner_103 (fv_eqM eM14 ?_)
                refine fv_aload_n C 0 rfl rfl dX11_turner_104 ?_
                refine fv_getR C fl_RX11_66 ea1 ka1 dX11_turner_105 ?_
                refine fv_aload_n C 0 rfl rfl dX11_turner_108 ?_
                refine fv_getI C fl_RX11_133 ea1 ka1 dX11_turner_109 ?_
                refine fv_iload C 5 rfl dX11_turner_112 ?_
                replace h := fi_s h
                obtain ⟨a15, ea15, ka15, ia15, h⟩ := h
                replace h := fb_s h
                obtain ⟨M16, eM16, h⟩ := h
                refine fv_iast C ea15 ka15 ia15 dX11_turner_114 (fv_eqM eM16 ?_)
                refine fv_aload_n C 0 rfl rfl dX11_turner_115 ?_
                refine fv_dupr C dX11_turner_116 ?_
                refine fv_getI C fl_RX11_133 ea1 ka1 dX11_turner_117 ?_
                refine fv_iconst (v := 1) C (by decide) dX11_turner_120 ?_
                refine fv_iadd C dX11_turner_121 ?_
                replace h := fb_s h
                obtain ⟨M17, eM17, h⟩ := h
                refine fv_putI (fin := false) C fl_RX11_133 ea1 ka1 (narrow_i _) dX11_turner_122 (fv_eqM eM17 ?_)
                refine fv_aload_n C 0 rfl rfl dX11_turner_125 ?_
                refine fv_getI C fl_RX11_133 ea1 ka1 dX11_turner_126 ?_
                refine fv_iconst (v := 1) C (by decide) dX11_turner_129 ?_
                refine fv_isub C dX11_turner_130 ?_
                cases h
                exact fv_iret (z := (0, 0, 0)) (st := []) C E dX11_turner_131
              · replace h := itT c18 h
                refine fv_iconst (v := -1) C (by decide) dX11_turner_61 ?_
                cases h
                exact fv_iret (z := (0, 0, 0)) (st := []) C E dX11_turner_62
abbrev rm_X11_year : Room := { frames := 1, cells := 0, slots := 0, locals := 22 }
set_option maxRecDepth 10000 in
theorem r_X11_year (l : Launch) (D : fh_D) (A : Nat → Prop) {K : fh_K} {sz : Nat} {M : fh_M} {M' : fh_M} {r : Int32} {t : Nat} {p1 : Int32} (h : f_X11_year K M t p1 = some (r, M')) : fh_Met l yX11_year cX11_year 2 (some .boolean) rm_X11_year D K M sz A [va_rf (some t), .int p1] (some (.int r)) K M' sz := by
  refine fh_enter (by decide) (by simp [lg_sl, va_rf_cat, cat_i, cat_l]) (lv := [(0, va_rf (some t)), (1, .int p1)]) (by simp [lv_args, va_rf_cat, cat_i, cat_l]) ?_
  intro X C E hnm _ _ _
  replace C : fh_C X 2 cX11_year RX11 := C
  unfold f_X11_year at h
  refine fv_iload_n C 1 rfl rfl dX11_year_0 ?_
  refine fv_aload_n C 0 rfl rfl dX11_year_1 ?_
  replace h := fo_s h
  obtain ⟨a1, ea1, ka1, h⟩ := h
  refine fv_getI C fl_RX11_136 ea1 ka1 dX11_year_2 ?_
  refine fv_sipush (v := 999) C (by decide) dX11_year_5 ?_
  replace h := bx h
  obtain ⟨r2, er2, h⟩ := h
  refine fv_callS [.int p1, .int (M.1 a1 2), .int 999] C mi_X11_lies lk_RX11_110 (r_X11_lies _ _ _ er2) ⟨Nat.le_of_ble_eq_true rfl, Nat.le_of_ble_eq_true rfl⟩ ⟨Nat.le_of_ble_eq_true rfl, Nat.le_of_ble_eq_true rfl⟩ rfl rfl (by simp [va_rf_cat, cat_i, cat_l]) dX11_year_8 ?_
  show fh_V X rm_X11_year 2 (sz, 0, 0) K M _ _ [.int r2]
  refine fv_if_ne C 16 (by decide) dX11_year_11 (fun c4 => ?_) (fun c4 => ?_)
  · replace h := itF c4 h
    refine fv_aload_n C 0 rfl rfl dX11_year_16 ?_
    refine fv_iload_n C 1 rfl rfl dX11_year_17 ?_
    replace h := fb_s h
    obtain ⟨M3, eM3, h⟩ := h
    refine fv_putI (fin := false) C fl_RX11_136 ea1 ka1 (narrow_i _) dX11_year_18 (fv_eqM eM3 ?_)
    refine fv_iconst (v := 1) C (by decide) dX11_year_21 ?_
    cases h
    exact fv_zret (z := (0, 0, 0)) (st := []) C E (Or.inr rfl) dX11_year_22
  · replace h := itT c4 h
    refine fv_iconst (v := 0) C (by decide) dX11_year_14 ?_
    cases h
    exact fv_zret (z := (0, 0, 0)) (st := []) C E (Or.inl rfl) dX11_year_15
abbrev rm_X11_byteAt : Room := { frames := 0, cells := 0, slots := 0, locals := 0 }
set_option maxRecDepth 10000 in
theorem r_X11_byteAt (l : Launch) (D : fh_D) (A : Nat → Prop) {K : fh_K} {sz : Nat} {M : fh_M} {r : Int32} {t : Nat} {p1 : Int32} {p2 : Int32} (h : f_X11_byteAt K M t p1 p2 = some r) : fh_Met l yX11_byteAt cX11_byteAt 3 (some .int) rm_X11_byteAt D K M sz A [va_rf (some t), .int p1, .int p2] (some (.int r)) K M sz := by
  refine fh_enter (by decide) (by simp [lg_sl, va_rf_cat, cat_i, cat_l]) (lv := [(0, va_rf (some t)), (1, .int p1), (2, .int p2)]) (by simp [lv_args, va_rf_cat, cat_i, cat_l]) ?_
  intro X C E hnm _ _ _
  replace C : fh_C X 3 cX11_byteAt RX11 := C
  unfold f_X11_byteAt at h
  refine fv_aload_n C 0 rfl rfl dX11_byteAt_0 ?_
  replace h := fo_s h
  obtain ⟨a1, ea1, ka1, h⟩ := h
  refine fv_getR C fl_RX11_30 ea1 ka1 dX11_byteAt_1 ?_
  refine fv_bipush (v := 60) C (by decide) dX11_byteAt_4 ?_
  refine fv_iload_n C 1 rfl rfl dX11_byteAt_6 ?_
  refine fv_imul C dX11_byteAt_7 ?_
  refine fv_iload_n C 2 rfl rfl dX11_byteAt_8 ?_
  refine fv_iadd C dX11_byteAt_9 ?_
  replace h := fi_s h
  obtain ⟨a2, ea2, ka2, ia2, h⟩ := h
  refine fv_iald C ea2 ka2 ia2 dX11_byteAt_10 ?_
  cases h
  exact fv_iret (z := (0, 0, 0)) (st := []) C E dX11_byteAt_11
abbrev rm_X11_reads : Room := { frames := 1, cells := 0, slots := 0, locals := 22 }
set_option maxRecDepth 10000 in
theorem r_X11_reads_J383 {X : fh_X} {K : fh_K} {sz : Nat} {M' : fh_M} {r : Int32} (C : fh_C X 9 cX11_reads RX11) (E : fh_E X rm_X11_reads (some .boolean) (some (.int r)) K M' sz) {rec203 : Nat → Int32 → Int32 → Int32 → Int32 → fh_M → Option (Int32 × fh_M)} (hrec203 : ∀ (t : Nat) (v1 : Int32) (v2 : Int32) (v3 : Int32) (v4 : Int32) (M : fh_M), rec203 t v1 v2 v3 v4 M = some (r, M') → fh_V X rm_X11_reads 9 (sz, 0, 0) K M 203 [(0, va_rf (some t)), (1, .int v1), (2, .int v2), (3, .int v3), (4, .int v4)] []) (t : Nat) (v1 : Int32) (v2 : Int32) (v3 : Int32) (s0 : Int32) (M : fh_M) (h : f_X11_reads_J383 K rec203 t v1 v2 v3 s0 M = some (r, M')) : fh_V X rm_X11_reads 9 (sz, 0, 0) K M 383 [(0, va_rf (some t)), (1, .int v1), (2, .int v2), (3, .int v3)] [.int s0] := by
  unfold f_X11_reads_J383 at h
  refine fv_istore (i := 4) (lv' := [(4, .int s0), (0, va_rf (some t)), (1, .int v1), (2, .int v2), (3, .int v3)]) C (by decide) (by first | rfl | simp [va_rf_cat]) dX11_reads_383 ?_
  refine fv_goto C 203 (by decide) dX11_reads_385 ?_
  refine fv_sub (cc := ⟨#[]⟩) (own := "") [1, 2, 3, 4, 0] rfl ?_
  exact hrec203 _ _ _ _ _ _ h
set_option maxRecDepth 10000 in
theorem r_X11_reads_J367 {X : fh_X} {K : fh_K} {sz : Nat} {M' : fh_M} {r : Int32} (C : fh_C X 9 cX11_reads RX11) (E : fh_E X rm_X11_reads (some .boolean) (some (.int r)) K M' sz) {rec203 : Nat → Int32 → Int32 → Int32 → Int32 → fh_M → Option (Int32 × fh_M)} (hrec203 : ∀ (t : Nat) (v1 : Int32) (v2 : Int32) (v3 : Int32) (v4 : Int32) (M : fh_M), rec203 t v1 v2 v3 v4 M = some (r, M') → fh_V X rm_X11_reads 9 (sz, 0, 0) K M 203 [(0, va_rf (some t)), (1, .int v1), (2, .int v2), (3, .int v3), (4, .int v4)] []) (t : Nat) (v1 : Int32) (v2 : Int32) (v3 : Int32) (v4 : Int32) (v6 : Int32) (v7 : Int32) (M : fh_M) (h : f_X11_reads_J367 K rec203 t v1 v2 v3 v4 v6 v7 M = some (r, M')) : fh_V X rm_X11_reads 9 (sz, 0, 0) K M 367 [(0, va_rf (some t)), (1, .int v1), (2, .int v2), (3, .int v3), (4, .int v4), (6, .int v6), (7, .int v7)] [] := by
  unfold f_X11_reads_J367 at h
  refine fv_iload C 6 rfl dX11_reads_367 ?_
  refine fv_if_eq C 376 (by decide) dX11_reads_369 (fun c59 => ?_) (fun c59 => ?_)
  · replace h := itT c59 h
    refine fv_iload C 4 rfl dX11_reads_376 ?_
    refine fv_iconst (v := 2) C (by decide) dX11_reads_378 ?_
    refine fv_iadd C dX11_reads_379 ?_
    refine fv_iload C 5 rfl dX11_reads_380 ?_
    refine fv_iadd C dX11_reads_382 ?_
    refine fv_sub (cc := ⟨#[]⟩) (own := "") [0, 1, 2, 3] rfl ?_
    exact r_X11_reads_J383 C E hrec203 _ _ _ _ _ _ h
  · replace h := itF c59 h
    refine fv_iload_n C 3 rfl rfl dX11_reads_372 ?_
    refine fv_goto C 383 (by decide) dX11_reads_373 ?_
    refine fv_sub (cc := ⟨#[]⟩) (own := "") [0, 1, 2, 3] rfl ?_
    exact r_X11_reads_J383 C E hrec203 _ _ _ _ _ _ h
set_option maxRecDepth 10000 in
theorem r_X11_reads_J308 {X : fh_X} {K : fh_K} {sz : Nat} {M' : fh_M} {r : Int32} (C : fh_C X 9 cX11_reads RX11) (E : fh_E X rm_X11_reads (some .boolean) (some (.int r)) K M' sz) {rec203 : Nat → Int32 → Int32 → Int32 → Int32 → fh_M → Option (Int32 × fh_M)} (hrec203 : ∀ (t : Nat) (v1 : Int32) (v2 : Int32) (v3 : Int32) (v4 : Int32) (M : fh_M), rec203 t v1 v2 v3 v4 M = some (r, M') → fh_V X rm_X11_reads 9 (sz, 0, 0) K M 203 [(0, va_rf (some t)), (1, .int v1), (2, .int v2), (3, .int v3), (4, .int v4)] []) (t : Nat) (v1 : Int32) (v2 : Int32) (v3 : Int32) (v4 : Int32) (v5 : Int32) (v6 : Int32) (v7 : Int32) (v8 : Int32) (s0 : Int32) (s1 : Int32) (s2 : Option Nat) (M : fh_M) (h : f_X11_reads_J308 K rec203 t v1 v2 v3 v4 v5 v6 v7 v8 s0 s1 s2 M = some (r, M')) : fh_V X rm_X11_reads 9 (sz, 0, 0) K M 308 [(0, va_rf (some t)), (1, .int v1), (2, .int v2), (3, .int v3), (4, .int v4), (5, .int v5), (6, .int v6), (7, .int v7), (8, .int v8)] [.int s0, .int s1, va_rf (s2)] := by
  unfold f_X11_reads_J308 at h
  refine fv_iadd C dX11_reads_308 ?_
  replace h := fo_s h
  obtain ⟨a47, ea47, ka47, h⟩ := h
  replace h := fb_s h
  obtain ⟨M48, eM48, h⟩ := h
  refine fv_putI (fin := false) C fl_RX11_142 ea47 ka47 (narrow_i _) dX11_reads_309 (fv_eqM eM48 ?_)
  refine fv_iload C 8 rfl dX11_reads_312 ?_
  refine fv_if_eq C 367 (by decide) dX11_reads_314 (fun c58 => ?_) (fun c58 => ?_)
  · replace h := itT c58 h
    refine fv_sub (cc := ⟨#[]⟩) (own := "") [0, 1, 2, 3, 4, 6, 7] rfl ?_
    exact r_X11_reads_J367 C E hrec203 _ _ _ _ _ _ _ _ h
  · replace h := itF c58 h
    refine fv_iload C 7 rfl dX11_reads_317 ?_
    refine fv_if_ne C 367 (by decide) dX11_reads_319 (fun c57 => ?_) (fun c57 => ?_)
    · replace h := itF c57 h
      refine fv_sub (cc := ⟨#[]⟩) (own := "") [0, 1, 2, 3, 4, 6, 7] rfl ?_
      exact r_X11_reads_J367 C E hrec203 _ _ _ _ _ _ _ _ h
    · replace h := itT c57 h
      refine fv_aload_n C 0 rfl rfl dX11_reads_322 ?_
      replace h := fo_s h
      obtain ⟨a49, ea49, ka49, h⟩ := h
      refine fv_getR C fl_RX11_69 ea49 ka49 dX11_reads_323 ?_
      refine fv_aload_n C 0 rfl rfl dX11_reads_326 ?_
      refine fv_getI C fl_RX11_139 ea49 ka49 dX11_reads_327 ?_
      refine fv_iload C 5 rfl dX11_reads_330 ?_
      replace h := fi_s h
      obtain ⟨a50, ea50, ka50, ia50, h⟩ := h
      replace h := fb_s h
      obtain ⟨M51, eM51, h⟩ := h
      refine fv_iast C ea50 ka50 ia50 dX11_reads_332 (fv_eqM eM51 ?_)
      refine fv_aload_n C 0 rfl rfl dX11_reads_333 ?_
      refine fv_getR C fl_RX11_72 ea49 ka49 dX11_reads_334 ?_
      refine fv_aload_n C 0 rfl rfl dX11_reads_337 ?_
      refine fv_getI C fl_RX11_139 ea49 ka49 dX11_reads_338 ?_
      refine fv_iload C 4 rfl dX11_reads_341 ?_
      refine fv_iconst (v := 2) C (by decide) dX11_reads_343 ?_
      refine fv_iadd C dX11_reads_344 ?_
      replace h := fi_s h
      obtain ⟨a52, ea52, ka52, ia52, h⟩ := h
      replace h := fb_s h
      obtain ⟨M53, eM53, h⟩ := h
      refine fv_iast C ea52 ka52 ia52 dX11_reads_345 (fv_eqM eM53 ?_)
      refine fv_aload_n C 0 rfl rfl dX11_reads_346 ?_
      refine fv_getR C fl_RX11_75 ea49 ka49 dX11_reads_347 ?_
      refine fv_aload_n C 0 rfl rfl dX11_reads_350 ?_
      refine fv_getI C fl_RX11_139 ea49 ka49 dX11_reads_351 ?_
      refine fv_iload C 6 rfl dX11_reads_354 ?_
      replace h := fi_s h
      obtain ⟨a54, ea54, ka54, ia54, h⟩ := h
      replace h := fb_s h
      obtain ⟨M55, eM55, h⟩ := h
      refine fv_iast C ea54 ka54 ia54 dX11_reads_356 (fv_eqM eM55 ?_)
      refine fv_aload_n C 0 rfl rfl dX11_reads_357 ?_
      refine fv_dupr C dX11_reads_358 ?_
      refine fv_getI C fl_RX11_139 ea49 ka49 dX11_reads_359 ?_
      refine fv_iconst (v := 1) C (by decide) dX11_reads_362 ?_
      refine fv_iadd C dX11_reads_363 ?_
      replace h := fb_s h
      obtain ⟨M56, eM56, h⟩ := h
      refine fv_putI (fin := false) C fl_RX11_139 ea49 ka49 (narrow_i _) dX11_reads_364 (fv_eqM eM56 ?_)
      refine fv_sub (cc := ⟨#[]⟩) (own := "") [0, 1, 2, 3, 4, 6, 7] rfl ?_
      exact r_X11_reads_J367 C E hrec203 _ _ _ _ _ _ _ _ h
set_option maxRecDepth 10000 in
theorem r_X11_reads_J307 {X : fh_X} {K : fh_K} {sz : Nat} {M' : fh_M} {r : Int32} (C : fh_C X 9 cX11_reads RX11) (E : fh_E X rm_X11_reads (some .boolean) (some (.int r)) K M' sz) {rec203 : Nat → Int32 → Int32 → Int32 → Int32 → fh_M → Option (Int32 × fh_M)} (hrec203 : ∀ (t : Nat) (v1 : Int32) (v2 : Int32) (v3 : Int32) (v4 : Int32) (M : fh_M), rec203 t v1 v2 v3 v4 M = some (r, M') → fh_V X rm_X11_reads 9 (sz, 0, 0) K M 203 [(0, va_rf (some t)), (1, .int v1), (2, .int v2), (3, .int v3), (4, .int v4)] []) (t : Nat) (v1 : Int32) (v2 : Int32) (v3 : Int32) (v4 : Int32) (v5 : Int32) (v6 : Int32) (v7 : Int32) (v8 : Int32) (s0 : Int32) (s1 : Option Nat) (M : fh_M) (h : f_X11_reads_J307 K rec203 t v1 v2 v3 v4 v5 v6 v7 v8 s0 s1 M = some (r, M')) : fh_V X rm_X11_reads 9 (sz, 0, 0) K M 307 [(0, va_rf (some t)), (1, .int v1), (2, .int v2), (3, .int v3), (4, .int v4), (5, .int v5), (6, .int v6), (7, .int v7), (8, .int v8)] [.int s0, va_rf (s1)] := by
  unfold f_X11_reads_J307 at h
  refine fv_iconst (v := 1) C (by decide) dX11_reads_307 ?_
  refine fv_sub (cc := ⟨#[]⟩) (own := "") [0, 1, 2, 3, 4, 5, 6, 7, 8] rfl ?_
  exact r_X11_reads_J308 C E hrec203 _ _ _ _ _ _ _ _ _ _ _ _ _ h
set_option maxRecDepth 10000 in
theorem r_X11_reads_J286 {X : fh_X} {K : fh_K} {sz : Nat} {M' : fh_M} {r : Int32} (C : fh_C X 9 cX11_reads RX11) (E : fh_E X rm_X11_reads (some .boolean) (some (.int r)) K M' sz) {rec203 : Nat → Int32 → Int32 → Int32 → Int32 → fh_M → Option (Int32 × fh_M)} (hrec203 : ∀ (t : Nat) (v1 : Int32) (v2 : Int32) (v3 : Int32) (v4 : Int32) (M : fh_M), rec203 t v1 v2 v3 v4 M = some (r, M') → fh_V X rm_X11_reads 9 (sz, 0, 0) K M 203 [(0, va_rf (some t)), (1, .int v1), (2, .int v2), (3, .int v3), (4, .int v4)] []) (t : Nat) (v1 : Int32) (v2 : Int32) (v3 : Int32) (v4 : Int32) (v5 : Int32) (v6 : Int32) (v7 : Int32) (s0 : Int32) (M : fh_M) (h : f_X11_reads_J286 K rec203 t v1 v2 v3 v4 v5 v6 v7 s0 M = some (r, M')) : fh_V X rm_X11_reads 9 (sz, 0, 0) K M 286 [(0, va_rf (some t)), (1, .int v1), (2, .int v2), (3, .int v3), (4, .int v4), (5, .int v5), (6, .int v6), (7, .int v7)] [.int s0] := by
  unfold f_X11_reads_J286 at h
  refine fv_istore (i := 8) (lv' := [(8, .int s0), (0, va_rf (some t)), (1, .int v1), (2, .int v2), (3, .int v3), (4, .int v4), (5, .int v5), (6, .int v6), (7, .int v7)]) C (by decide) (by first | rfl | simp [va_rf_cat]) dX11_reads_286 ?_
  refine fv_aload_n C 1 rfl rfl dX11_reads_288 ?_
  refine fv_dupr C dX11_reads_289 ?_
  replace h := fo_s h
  obtain ⟨a44, ea44, ka44, h⟩ := h
  refine fv_getI C fl_RX11_142 ea44 ka44 dX11_reads_290 ?_
  refine fv_iload C 0 rfl dX11_reads_293 ?_
  refine fv_if_eq C 307 (by decide) dX11_reads_295 (fun c46 => ?_) (fun c46 => ?_)
  · replace h := itT c46 h
    refine fv_sub (cc := ⟨#[]⟩) (own := "") [1, 2, 3, 4, 5, 6, 7, 8, 0] rfl ?_
    exact r_X11_reads_J307 C E hrec203 _ _ _ _ _ _ _ _ _ _ _ _ h
  · replace h := itF c46 h
    refine fv_iload C 8 rfl dX11_reads_298 ?_
    refine fv_if_ne C 307 (by decide) dX11_reads_300 (fun c45 => ?_) (fun c45 => ?_)
    · replace h := itF c45 h
      refine fv_sub (cc := ⟨#[]⟩) (own := "") [1, 2, 3, 4, 5, 6, 7, 8, 0] rfl ?_
      exact r_X11_reads_J307 C E hrec203 _ _ _ _ _ _ _ _ _ _ _ _ h
    · replace h := itT c45 h
      refine fv_iconst (v := 0) C (by decide) dX11_reads_303 ?_
      refine fv_goto C 308 (by decide) dX11_reads_304 ?_
      refine fv_sub (cc := ⟨#[]⟩) (own := "") [1, 2, 3, 4, 5, 6, 7, 8, 0] rfl ?_
      exact r_X11_reads_J308 C E hrec203 _ _ _ _ _ _ _ _ _ _ _ _ _ h
set_option maxRecDepth 10000 in
theorem r_X11_reads_J285 {X : fh_X} {K : fh_K} {sz : Nat} {M' : fh_M} {r : Int32} (C : fh_C X 9 cX11_reads RX11) (E : fh_E X rm_X11_reads (some .boolean) (some (.int r)) K M' sz) {rec203 : Nat → Int32 → Int32 → Int32 → Int32 → fh_M → Option (Int32 × fh_M)} (hrec203 : ∀ (t : Nat) (v1 : Int32) (v2 : Int32) (v3 : Int32) (v4 : Int32) (M : fh_M), rec203 t v1 v2 v3 v4 M = some (r, M') → fh_V X rm_X11_reads 9 (sz, 0, 0) K M 203 [(0, va_rf (some t)), (1, .int v1), (2, .int v2), (3, .int v3), (4, .int v4)] []) (t : Nat) (v1 : Int32) (v2 : Int32) (v3 : Int32) (v4 : Int32) (v5 : Int32) (v6 : Int32) (v7 : Int32) (M : fh_M) (h : f_X11_reads_J285 K rec203 t v1 v2 v3 v4 v5 v6 v7 M = some (r, M')) : fh_V X rm_X11_reads 9 (sz, 0, 0) K M 285 [(0, va_rf (some t)), (1, .int v1), (2, .int v2), (3, .int v3), (4, .int v4), (5, .int v5), (6, .int v6), (7, .int v7)] [] := by
  unfold f_X11_reads_J285 at h
  refine fv_iconst (v := 0) C (by decide) dX11_reads_285 ?_
  refine fv_sub (cc := ⟨#[]⟩) (own := "") [0, 1, 2, 3, 4, 5, 6, 7] rfl ?_
  exact r_X11_reads_J286 C E hrec203 _ _ _ _ _ _ _ _ _ _ h
set_option maxRecDepth 10000 in
theorem r_X11_reads_J258 {X : fh_X} {K : fh_K} {sz : Nat} {M' : fh_M} {r : Int32} (C : fh_C X 9 cX11_reads RX11) (E : fh_E X rm_X11_reads (some .boolean) (some (.int r)) K M' sz) {rec203 : Nat → Int32 → Int32 → Int32 → Int32 → fh_M → Option (Int32 × fh_M)} (hrec203 : ∀ (t : Nat) (v1 : Int32) (v2 : Int32) (v3 : Int32) (v4 : Int32) (M : fh_M), rec203 t v1 v2 v3 v4 M = some (r, M') → fh_V X rm_X11_reads 9 (sz, 0, 0) K M 203 [(0, va_rf (some t)), (1, .int v1), (2, .int v2), (3, .int v3), (4, .int v4)] []) (t : Nat) (v1 : Int32) (v2 : Int32) (v3 : Int32) (v4 : Int32) (v5 : Int32) (v6 : Int32) (s0 : Int32) (M : fh_M) (h : f_X11_reads_J258 K rec203 t v1 v2 v3 v4 v5 v6 s0 M = some (r, M')) : fh_V X rm_X11_reads 9 (sz, 0, 0) K M 258 [(0, va_rf (some t)), (1, .int v1), (2, .int v2), (3, .int v3), (4, .int v4), (5, .int v5), (6, .int v6)] [.int s0] := by
  unfold f_X11_reads_J258 at h
  refine fv_istore (i := 7) (lv' := [(7, .int s0), (0, va_rf (some t)), (1, .int v1), (2, .int v2), (3, .int v3), (4, .int v4), (5, .int v5), (6, .int v6)]) C (by decide) (by first | rfl | simp [va_rf_cat]) dX11_reads_258 ?_
  refine fv_iload C 6 rfl dX11_reads_260 ?_
  refine fv_bipush (v := 12) C (by decide) dX11_reads_262 ?_
  refine fv_icmp_ge C 285 (by decide) dX11_reads_264 (fun c43 => ?_) (fun c43 => ?_)
  · replace h := itT c43 h
    refine fv_sub (cc := ⟨#[]⟩) (own := "") [1, 2, 3, 4, 5, 6, 7, 0] rfl ?_
    exact r_X11_reads_J285 C E hrec203 _ _ _ _ _ _ _ _ _ h
  · replace h := itF c43 h
    refine fv_aload_n C 1 rfl rfl dX11_reads_267 ?_
    replace h := fo_s h
    obtain ⟨a39, ea39, ka39, h⟩ := h
    refine fv_getR C fl_RX11_20 ea39 ka39 dX11_reads_268 ?_
    refine fv_iload_n C 3 rfl rfl dX11_reads_271 ?_
    replace h := fi_s h
    obtain ⟨a40, ea40, ka40, ia40, h⟩ := h
    refine fv_iald C ea40 ka40 ia40 dX11_reads_272 ?_
    refine fv_iload C 6 rfl dX11_reads_273 ?_
    replace h := bx h
    obtain ⟨r41, er41, h⟩ := h
    refine fv_callS [.int (M.1 a40 v2.toNatClampNeg), .int v5] C mi_X11_has lk_RX11_149 (r_X11_has _ _ _ er41) ⟨Nat.le_of_ble_eq_true rfl, Nat.le_of_ble_eq_true rfl⟩ ⟨Nat.le_of_ble_eq_true rfl, Nat.le_of_ble_eq_true rfl⟩ rfl rfl (by simp [va_rf_cat, cat_i, cat_l]) dX11_reads_275 ?_
    show fh_V X rm_X11_reads 9 (sz, 0, 0) K M _ _ [.int r41]
    refine fv_if_eq C 285 (by decide) dX11_reads_278 (fun c42 => ?_) (fun c42 => ?_)
    · replace h := itT c42 h
      refine fv_sub (cc := ⟨#[]⟩) (own := "") [1, 2, 3, 4, 5, 6, 7, 0] rfl ?_
      exact r_X11_reads_J285 C E hrec203 _ _ _ _ _ _ _ _ _ h
    · replace h := itF c42 h
      refine fv_iconst (v := 1) C (by decide) dX11_reads_281 ?_
      refine fv_goto C 286 (by decide) dX11_reads_282 ?_
      refine fv_sub (cc := ⟨#[]⟩) (own := "") [1, 2, 3, 4, 5, 6, 7, 0] rfl ?_
      exact r_X11_reads_J286 C E hrec203 _ _ _ _ _ _ _ _ _ _ h
set_option maxRecDepth 10000 in
theorem r_X11_reads_J240 {X : fh_X} {K : fh_K} {sz : Nat} {M' : fh_M} {r : Int32} (C : fh_C X 9 cX11_reads RX11) (E : fh_E X rm_X11_reads (some .boolean) (some (.int r)) K M' sz) {rec203 : Nat → Int32 → Int32 → Int32 → Int32 → fh_M → Option (Int32 × fh_M)} (hrec203 : ∀ (t : Nat) (v1 : Int32) (v2 : Int32) (v3 : Int32) (v4 : Int32) (M : fh_M), rec203 t v1 v2 v3 v4 M = some (r, M') → fh_V X rm_X11_reads 9 (sz, 0, 0) K M 203 [(0, va_rf (some t)), (1, .int v1), (2, .int v2), (3, .int v3), (4, .int v4)] []) (t : Nat) (v1 : Int32) (v2 : Int32) (v3 : Int32) (v4 : Int32) (v5 : Int32) (s0 : Int32) (M : fh_M) (h : f_X11_reads_J240 K rec203 t v1 v2 v3 v4 v5 s0 M = some (r, M')) : fh_V X rm_X11_reads 9 (sz, 0, 0) K M 240 [(0, va_rf (some t)), (1, .int v1), (2, .int v2), (3, .int v3), (4, .int v4), (5, .int v5)] [.int s0] := by
  unfold f_X11_reads_J240 at h
  refine fv_istore (i := 6) (lv' := [(6, .int s0), (0, va_rf (some t)), (1, .int v1), (2, .int v2), (3, .int v3), (4, .int v4), (5, .int v5)]) C (by decide) (by first | rfl | simp [va_rf_cat]) dX11_reads_240 ?_
  refine fv_iload C 5 rfl dX11_reads_242 ?_
  refine fv_iconst (v := 2) C (by decide) dX11_reads_244 ?_
  refine fv_iadd C dX11_reads_245 ?_
  refine fv_iload C 0 rfl dX11_reads_246 ?_
  refine fv_iadd C dX11_reads_248 ?_
  refine fv_iload_n C 4 rfl rfl dX11_reads_249 ?_
  refine fv_icmp_le C 257 (by decide) dX11_reads_250 (fun c38 => ?_) (fun c38 => ?_)
  · replace h := itT c38 h
    refine fv_iconst (v := 0) C (by decide) dX11_reads_257 ?_
    refine fv_sub (cc := ⟨#[]⟩) (own := "") [1, 2, 3, 4, 5, 6, 0] rfl ?_
    exact r_X11_reads_J258 C E hrec203 _ _ _ _ _ _ _ _ _ h
  · replace h := itF c38 h
    refine fv_iconst (v := 1) C (by decide) dX11_reads_253 ?_
    refine fv_goto C 258 (by decide) dX11_reads_254 ?_
    refine fv_sub (cc := ⟨#[]⟩) (own := "") [1, 2, 3, 4, 5, 6, 0] rfl ?_
    exact r_X11_reads_J258 C E hrec203 _ _ _ _ _ _ _ _ _ h
set_option maxRecDepth 10000 in
theorem r_X11_reads_L203 {X : fh_X} {K : fh_K} {sz : Nat} {M' : fh_M} {r : Int32} (C : fh_C X 9 cX11_reads RX11) (E : fh_E X rm_X11_reads (some .boolean) (some (.int r)) K M' sz) : ∀ (n : Nat) (t : Nat) (v1 : Int32) (v2 : Int32) (v3 : Int32) (v4 : Int32) (M : fh_M), f_X11_reads_L203 K n t v1 v2 v3 v4 M = some (r, M') → fh_V X rm_X11_reads 9 (sz, 0, 0) K M 203 [(0, va_rf (some t)), (1, .int v1), (2, .int v2), (3, .int v3), (4, .int v4)] [] := by
  intro n
  induction n with
  | zero => intro t v1 v2 v3 v4 M h; cases h
  | succ n ih =>
    intro t v1 v2 v3 v4 M h
    unfold f_X11_reads_L203 at h
    refine fv_iload C 4 rfl dX11_reads_203 ?_
    refine fv_iload_n C 3 rfl rfl dX11_reads_205 ?_
    refine fv_icmp_ge C 388 (by decide) dX11_reads_206 (fun c37 => ?_) (fun c37 => ?_)
    · replace h := itT c37 h
      refine fv_iconst (v := 1) C (by decide) dX11_reads_388 ?_
      cases h
      exact fv_zret (z := (0, 0, 0)) (st := []) C E (Or.inr rfl) dX11_reads_389
    · replace h := itF c37 h
      refine fv_aload_n C 0 rfl rfl dX11_reads_209 ?_
      refine fv_iload_n C 1 rfl rfl dX11_reads_210 ?_
      refine fv_iload C 4 rfl dX11_reads_211 ?_
      replace h := fo_s h
      obtain ⟨a33, ea33, ka33, h⟩ := h
      replace h := bx h
      obtain ⟨r34, er34, h⟩ := h
      refine fv_callV [.int v1, .int v4] C mi_X11_byteAt ms_X11_byteAt lk_RX11_145 ea33 ka33 (r_X11_byteAt _ _ _ er34) ⟨Nat.le_of_ble_eq_true rfl, Nat.le_of_ble_eq_true rfl⟩ ⟨Nat.le_of_ble_eq_true rfl, Nat.le_of_ble_eq_true rfl⟩ rfl rfl (by simp [va_rf_cat, cat_i, cat_l]) dX11_reads_213 ?_
      show fh_V X rm_X11_reads 9 (sz, 0, 0) K M _ _ [.int r34]
      refine fv_istore (i := 5) (lv' := [(5, .int r34), (0, va_rf (some t)), (1, .int v1), (2, .int v2), (3, .int v3), (4, .int v4)]) C (by decide) (by first | rfl | simp [va_rf_cat]) dX11_reads_216 ?_
      refine fv_iload C 5 rfl dX11_reads_218 ?_
      refine fv_iconst (v := 1) C (by decide) dX11_reads_220 ?_
      refine fv_iadd C dX11_reads_221 ?_
      refine fv_iload_n C 4 rfl rfl dX11_reads_222 ?_
      refine fv_icmp_ge C 238 (by decide) dX11_reads_223 (fun c36 => ?_) (fun c36 => ?_)
      · replace h := itT c36 h
        refine fv_bipush (v := 60) C (by decide) dX11_reads_238 ?_
        refine fv_sub (cc := ⟨#[]⟩) (own := "") [1, 2, 3, 4, 5, 0] rfl ?_
        exact r_X11_reads_J240 C E ih _ _ _ _ _ _ _ _ h
      · replace h := itF c36 h
        refine fv_aload_n C 1 rfl rfl dX11_reads_226 ?_
        refine fv_iload_n C 2 rfl rfl dX11_reads_227 ?_
        refine fv_iload C 5 rfl dX11_reads_228 ?_
        refine fv_iconst (v := 1) C (by decide) dX11_reads_230 ?_
        refine fv_iadd C dX11_reads_231 ?_
        replace h := bx h
        obtain ⟨r35, er35, h⟩ := h
        refine fv_callV [.int v1, .int (v4 + 1)] C mi_X11_byteAt ms_X11_byteAt lk_RX11_145 ea33 ka33 (r_X11_byteAt _ _ _ er35) ⟨Nat.le_of_ble_eq_true rfl, Nat.le_of_ble_eq_true rfl⟩ ⟨Nat.le_of_ble_eq_true rfl, Nat.le_of_ble_eq_true rfl⟩ rfl rfl (by simp [va_rf_cat, cat_i, cat_l]) dX11_reads_232 ?_
        show fh_V X rm_X11_reads 9 (sz, 0, 0) K M _ _ [.int r35]
        refine fv_goto C 240 (by decide) dX11_reads_235 ?_
        refine fv_sub (cc := ⟨#[]⟩) (own := "") [1, 2, 3, 4, 5, 0] rfl ?_
        exact r_X11_reads_J240 C E ih _ _ _ _ _ _ _ _ h
set_option maxRecDepth 10000 in
theorem r_X11_reads_J195 {X : fh_X} {K : fh_K} {sz : Nat} {M' : fh_M} {r : Int32} (C : fh_C X 9 cX11_reads RX11) (E : fh_E X rm_X11_reads (some .boolean) (some (.int r)) K M' sz) (t : Nat) (v1 : Int32) (v2 : Int32) (v3 : Int32) (M : fh_M) (h : f_X11_reads_J195 K t v1 v2 v3 M = some (r, M')) : fh_V X rm_X11_reads 9 (sz, 0, 0) K M 195 [(0, va_rf (some t)), (1, .int v1), (2, .int v2), (3, .int v3)] [] := by
  unfold f_X11_reads_J195 at h
  refine fv_aload_n C 0 rfl rfl dX11_reads_195 ?_
  replace h := fo_s h
  obtain ⟨a31, ea31, ka31, h⟩ := h
  refine fv_getR C fl_RX11_17 ea31 ka31 dX11_reads_196 ?_
  refine fv_iload_n C 2 rfl rfl dX11_reads_199 ?_
  replace h := fi_s h
  obtain ⟨a32, ea32, ka32, ia32, h⟩ := h
  refine fv_iald C ea32 ka32 ia32 dX11_reads_200 ?_
  refine fv_istore (i := 4) (lv' := [(4, .int (M.1 a32 v2.toNatClampNeg)), (0, va_rf (some t)), (1, .int v1), (2, .int v2), (3, .int v3)]) C (by decide) (by first | rfl | simp [va_rf_cat]) dX11_reads_201 ?_
  refine fv_sub (cc := ⟨#[]⟩) (own := "") [1, 2, 3, 4, 0] rfl ?_
  exact r_X11_reads_L203 C E  4096 _ _ _ _ _ _ h
set_option maxRecDepth 10000 in
theorem r_X11_reads_J193 {X : fh_X} {K : fh_K} {sz : Nat} {M' : fh_M} {r : Int32} (C : fh_C X 9 cX11_reads RX11) (E : fh_E X rm_X11_reads (some .boolean) (some (.int r)) K M' sz) (t : Nat) (v1 : Int32) (v2 : Int32) (s0 : Int32) (s1 : Int32) (M : fh_M) (h : f_X11_reads_J193 K t v1 v2 s0 s1 M = some (r, M')) : fh_V X rm_X11_reads 9 (sz, 0, 0) K M 193 [(0, va_rf (some t)), (1, .int v1), (2, .int v2)] [.int s0, .int s1] := by
  unfold f_X11_reads_J193 at h
  refine fv_isub C dX11_reads_193 ?_
  refine fv_istore_n (i := 3) (lv' := [(3, .int (s1 - s0)), (0, va_rf (some t)), (1, .int v1), (2, .int v2)]) C rfl (by decide) (by first | rfl | simp [va_rf_cat]) dX11_reads_194 ?_
  refine fv_sub (cc := ⟨#[]⟩) (own := "") [1, 2, 3, 0] rfl ?_
  exact r_X11_reads_J195 C E  _ _ _ _ _ h
set_option maxRecDepth 10000 in
theorem r_X11_reads_J178 {X : fh_X} {K : fh_K} {sz : Nat} {M' : fh_M} {r : Int32} (C : fh_C X 9 cX11_reads RX11) (E : fh_E X rm_X11_reads (some .boolean) (some (.int r)) K M' sz) (t : Nat) (v1 : Int32) (v2 : Int32) (v3 : Int32) (v4 : Int32) (s0 : Int32) (s1 : Int32) (s2 : Option Nat) (M : fh_M) (h : f_X11_reads_J178 K t v1 v2 v3 v4 s0 s1 s2 M = some (r, M')) : fh_V X rm_X11_reads 9 (sz, 0, 0) K M 178 [(0, va_rf (some t)), (1, .int v1), (2, .int v2), (3, .int v3), (4, .int v4)] [.int s0, .int s1, va_rf (s2)] := by
  unfold f_X11_reads_J178 at h
  refine fv_iadd C dX11_reads_178 ?_
  replace h := fo_s h
  obtain ⟨a28, ea28, ka28, h⟩ := h
  replace h := fb_s h
  obtain ⟨M29, eM29, h⟩ := h
  refine fv_putI (fin := false) C fl_RX11_142 ea28 ka28 (narrow_i _) dX11_reads_179 (fv_eqM eM29 ?_)
  refine fv_iload_n C 3 rfl rfl dX11_reads_182 ?_
  refine fv_iload C 4 rfl dX11_reads_183 ?_
  refine fv_if_eq C 192 (by decide) dX11_reads_185 (fun c30 => ?_) (fun c30 => ?_)
  · replace h := itT c30 h
    refine fv_iconst (v := 0) C (by decide) dX11_reads_192 ?_
    refine fv_sub (cc := ⟨#[]⟩) (own := "") [0, 1, 2] rfl ?_
    exact r_X11_reads_J193 C E  _ _ _ _ _ _ h
  · replace h := itF c30 h
    refine fv_iconst (v := 1) C (by decide) dX11_reads_188 ?_
    refine fv_goto C 193 (by decide) dX11_reads_189 ?_
    refine fv_sub (cc := ⟨#[]⟩) (own := "") [0, 1, 2] rfl ?_
    exact r_X11_reads_J193 C E  _ _ _ _ _ _ h
set_option maxRecDepth 10000 in
theorem r_X11_reads_J177 {X : fh_X} {K : fh_K} {sz : Nat} {M' : fh_M} {r : Int32} (C : fh_C X 9 cX11_reads RX11) (E : fh_E X rm_X11_reads (some .boolean) (some (.int r)) K M' sz) (t : Nat) (v1 : Int32) (v2 : Int32) (v3 : Int32) (v4 : Int32) (s0 : Int32) (s1 : Option Nat) (M : fh_M) (h : f_X11_reads_J177 K t v1 v2 v3 v4 s0 s1 M = some (r, M')) : fh_V X rm_X11_reads 9 (sz, 0, 0) K M 177 [(0, va_rf (some t)), (1, .int v1), (2, .int v2), (3, .int v3), (4, .int v4)] [.int s0, va_rf (s1)] := by
  unfold f_X11_reads_J177 at h
  refine fv_iconst (v := 1) C (by decide) dX11_reads_177 ?_
  refine fv_sub (cc := ⟨#[]⟩) (own := "") [0, 1, 2, 3, 4] rfl ?_
  exact r_X11_reads_J178 C E  _ _ _ _ _ _ _ _ _ h
set_option maxRecDepth 10000 in
theorem r_X11_reads_J141 {X : fh_X} {K : fh_K} {sz : Nat} {M' : fh_M} {r : Int32} (C : fh_C X 9 cX11_reads RX11) (E : fh_E X rm_X11_reads (some .boolean) (some (.int r)) K M' sz) (t : Nat) (v1 : Int32) (v2 : Int32) (v3 : Int32) (v4 : Int32) (v5 : Int32) (M : fh_M) (h : f_X11_reads_J141 K t v1 v2 v3 v4 v5 M = some (r, M')) : fh_V X rm_X11_reads 9 (sz, 0, 0) K M 141 [(0, va_rf (some t)), (1, .int v1), (2, .int v2), (3, .int v3), (4, .int v4), (5, .int v5)] [] := by
  unfold f_X11_reads_J141 at h
  refine fv_aload_n C 0 rfl rfl dX11_reads_141 ?_
  refine fv_dupr C dX11_reads_142 ?_
  replace h := fo_s h
  obtain ⟨a23, ea23, ka23, h⟩ := h
  refine fv_getI C fl_RX11_142 ea23 ka23 dX11_reads_143 ?_
  refine fv_iload C 4 rfl dX11_reads_146 ?_
  refine fv_if_eq C 177 (by decide) dX11_reads_148 (fun c27 => ?_) (fun c27 => ?_)
  · replace h := itT c27 h
    refine fv_sub (cc := ⟨#[]⟩) (own := "") [0, 1, 2, 3, 4] rfl ?_
    exact r_X11_reads_J177 C E  _ _ _ _ _ _ _ _ h
  · replace h := itF c27 h
    refine fv_iload C 5 rfl dX11_reads_151 ?_
    refine fv_sipush (v := 256) C (by decide) dX11_reads_153 ?_
    refine fv_irem C (by decide) dX11_reads_156 ?_
    refine fv_aload_n C 0 rfl rfl dX11_reads_157 ?_
    refine fv_iload_n C 1 rfl rfl dX11_reads_158 ?_
    refine fv_aload_n C 0 rfl rfl dX11_reads_159 ?_
    refine fv_getR C fl_RX11_33 ea23 ka23 dX11_reads_160 ?_
    refine fv_iload_n C 1 rfl rfl dX11_reads_163 ?_
    replace h := fi_s h
    obtain ⟨a24, ea24, ka24, ia24, h⟩ := h
    refine fv_iald C ea24 ka24 ia24 dX11_reads_164 ?_
    refine fv_iconst (v := 1) C (by decide) dX11_reads_165 ?_
    refine fv_isub C dX11_reads_166 ?_
    replace h := bx h
    obtain ⟨r25, er25, h⟩ := h
    refine fv_callV [.int v1, .int ((M.1 a24 v1.toNatClampNeg) - 1)] C mi_X11_byteAt ms_X11_byteAt lk_RX11_145 ea23 ka23 (r_X11_byteAt _ _ _ er25) ⟨Nat.le_of_ble_eq_true rfl, Nat.le_of_ble_eq_true rfl⟩ ⟨Nat.le_of_ble_eq_true rfl, Nat.le_of_ble_eq_true rfl⟩ rfl rfl (by simp [va_rf_cat, cat_i, cat_l]) dX11_reads_167 ?_
    show fh_V X rm_X11_reads 9 (sz, 0, 0) K M _ _ [.int r25, .int (v5 - v5 / 256 * 256), .int (M.1 a23 26), va_rf (some t)]
    refine fv_icmp_ne C 177 (by decide) dX11_reads_170 (fun c26 => ?_) (fun c26 => ?_)
    · replace h := itF c26 h
      refine fv_sub (cc := ⟨#[]⟩) (own := "") [0, 1, 2, 3, 4] rfl ?_
      exact r_X11_reads_J177 C E  _ _ _ _ _ _ _ _ h
    · replace h := itT c26 h
      refine fv_iconst (v := 0) C (by decide) dX11_reads_173 ?_
      refine fv_goto C 178 (by decide) dX11_reads_174 ?_
      refine fv_sub (cc := ⟨#[]⟩) (own := "") [0, 1, 2, 3, 4] rfl ?_
      exact r_X11_reads_J178 C E  _ _ _ _ _ _ _ _ _ h
set_option maxRecDepth 10000 in
theorem r_X11_reads_L110 {X : fh_X} {K : fh_K} {sz : Nat} {M' : fh_M} {r : Int32} (C : fh_C X 9 cX11_reads RX11) (E : fh_E X rm_X11_reads (some .boolean) (some (.int r)) K M' sz) : ∀ (n : Nat) (t : Nat) (v1 : Int32) (v2 : Int32) (v3 : Int32) (v4 : Int32) (v5 : Int32) (v6 : Int32) (M : fh_M), f_X11_reads_L110 K n t v1 v2 v3 v4 v5 v6 M = some (r, M') → fh_V X rm_X11_reads 9 (sz, 0, 0) K M 110 [(0, va_rf (some t)), (1, .int v1), (2, .int v2), (3, .int v3), (4, .int v4), (5, .int v5), (6, .int v6)] [] := by
  intro n
  induction n with
  | zero => intro t v1 v2 v3 v4 v5 v6 M h; cases h
  | succ n ih =>
    intro t v1 v2 v3 v4 v5 v6 M h
    unfold f_X11_reads_L110 at h
    refine fv_iload C 6 rfl dX11_reads_110 ?_
    refine fv_aload_n C 0 rfl rfl dX11_reads_112 ?_
    replace h := fo_s h
    obtain ⟨a19, ea19, ka19, h⟩ := h
    refine fv_getR C fl_RX11_33 ea19 ka19 dX11_reads_113 ?_
    refine fv_iload_n C 1 rfl rfl dX11_reads_116 ?_
    replace h := fi_s h
    obtain ⟨a20, ea20, ka20, ia20, h⟩ := h
    refine fv_iald C ea20 ka20 ia20 dX11_reads_117 ?_
    refine fv_iconst (v := 1) C (by decide) dX11_reads_118 ?_
    refine fv_isub C dX11_reads_119 ?_
    refine fv_icmp_ge C 141 (by decide) dX11_reads_120 (fun c22 => ?_) (fun c22 => ?_)
    · replace h := itT c22 h
      refine fv_sub (cc := ⟨#[]⟩) (own := "") [0, 1, 2, 3, 4, 5] rfl ?_
      exact r_X11_reads_J141 C E  _ _ _ _ _ _ _ h
    · replace h := itF c22 h
      refine fv_iload C 5 rfl dX11_reads_123 ?_
      refine fv_aload_n C 0 rfl rfl dX11_reads_125 ?_
      refine fv_iload_n C 1 rfl rfl dX11_reads_126 ?_
      refine fv_iload C 6 rfl dX11_reads_127 ?_
      replace h := bx h
      obtain ⟨r21, er21, h⟩ := h
      refine fv_callV [.int v1, .int v6] C mi_X11_byteAt ms_X11_byteAt lk_RX11_145 ea19 ka19 (r_X11_byteAt _ _ _ er21) ⟨Nat.le_of_ble_eq_true rfl, Nat.le_of_ble_eq_true rfl⟩ ⟨Nat.le_of_ble_eq_true rfl, Nat.le_of_ble_eq_true rfl⟩ rfl rfl (by simp [va_rf_cat, cat_i, cat_l]) dX11_reads_129 ?_
      show fh_V X rm_X11_reads 9 (sz, 0, 0) K M _ _ [.int r21, .int v5]
      refine fv_iadd C dX11_reads_132 ?_
      refine fv_istore (i := 5) (lv' := [(5, .int (v5 + r21)), (0, va_rf (some t)), (1, .int v1), (2, .int v2), (3, .int v3), (4, .int v4), (6, .int v6)]) C (by decide) (by first | rfl | simp [va_rf_cat]) dX11_reads_133 ?_
      refine fv_iinc (v := v6 + 1) (lv' := [(6, .int (v6 + 1)), (5, .int (v5 + r21)), (0, va_rf (some t)), (1, .int v1), (2, .int v2), (3, .int v3), (4, .int v4)]) C 6 rfl (by first | rfl | exact congrArg _ (by decide)) (by decide) (by first | rfl | simp [va_rf_cat]) dX11_reads_135 ?_
      refine fv_goto C 110 (by decide) dX11_reads_138 ?_
      refine fv_sub (cc := ⟨#[]⟩) (own := "") [2, 3, 4, 5, 6, 1, 0] rfl ?_
      exact ih _ _ _ _ _ _ _ _ h
set_option maxRecDepth 10000 in
theorem r_X11_reads_J102 {X : fh_X} {K : fh_K} {sz : Nat} {M' : fh_M} {r : Int32} (C : fh_C X 9 cX11_reads RX11) (E : fh_E X rm_X11_reads (some .boolean) (some (.int r)) K M' sz) (t : Nat) (v1 : Int32) (v2 : Int32) (v3 : Int32) (s0 : Int32) (M : fh_M) (h : f_X11_reads_J102 K t v1 v2 v3 s0 M = some (r, M')) : fh_V X rm_X11_reads 9 (sz, 0, 0) K M 102 [(0, va_rf (some t)), (1, .int v1), (2, .int v2), (3, .int v3)] [.int s0] := by
  unfold f_X11_reads_J102 at h
  refine fv_istore (i := 4) (lv' := [(4, .int s0), (0, va_rf (some t)), (1, .int v1), (2, .int v2), (3, .int v3)]) C (by decide) (by first | rfl | simp [va_rf_cat]) dX11_reads_102 ?_
  refine fv_iconst (v := 0) C (by decide) dX11_reads_104 ?_
  refine fv_istore (i := 5) (lv' := [(5, .int 0), (4, .int s0), (0, va_rf (some t)), (1, .int v1), (2, .int v2), (3, .int v3)]) C (by decide) (by first | rfl | simp [va_rf_cat]) dX11_reads_105 ?_
  refine fv_iconst (v := 0) C (by decide) dX11_reads_107 ?_
  refine fv_istore (i := 6) (lv' := [(6, .int 0), (5, .int 0), (4, .int s0), (0, va_rf (some t)), (1, .int v1), (2, .int v2), (3, .int v3)]) C (by decide) (by first | rfl | simp [va_rf_cat]) dX11_reads_108 ?_
  refine fv_sub (cc := ⟨#[]⟩) (own := "") [3, 4, 5, 6, 2, 1, 0] rfl ?_
  exact r_X11_reads_L110 C E  4096 _ _ _ _ _ _ _ _ h
set_option maxRecDepth 10000 in
theorem r_X11_reads_J66 {X : fh_X} {K : fh_K} {sz : Nat} {M' : fh_M} {r : Int32} (C : fh_C X 9 cX11_reads RX11) (E : fh_E X rm_X11_reads (some .boolean) (some (.int r)) K M' sz) (t : Nat) (v1 : Int32) (v2 : Int32) (M : fh_M) (h : f_X11_reads_J66 K t v1 v2 M = some (r, M')) : fh_V X rm_X11_reads 9 (sz, 0, 0) K M 66 [(0, va_rf (some t)), (1, .int v1), (2, .int v2)] [] := by
  unfold f_X11_reads_J66 at h
  refine fv_aload_n C 0 rfl rfl dX11_reads_66 ?_
  replace h := fo_s h
  obtain ⟨a13, ea13, ka13, h⟩ := h
  refine fv_getR C fl_RX11_33 ea13 ka13 dX11_reads_67 ?_
  refine fv_iload_n C 1 rfl rfl dX11_reads_70 ?_
  replace h := fi_s h
  obtain ⟨a14, ea14, ka14, ia14, h⟩ := h
  refine fv_iald C ea14 ka14 ia14 dX11_reads_71 ?_
  refine fv_istore_n (i := 3) (lv' := [(3, .int (M.1 a14 v1.toNatClampNeg)), (0, va_rf (some t)), (1, .int v1), (2, .int v2)]) C rfl (by decide) (by first | rfl | simp [va_rf_cat]) dX11_reads_72 ?_
  refine fv_aload_n C 1 rfl rfl dX11_reads_73 ?_
  refine fv_getR C fl_RX11_23 ea13 ka13 dX11_reads_74 ?_
  refine fv_iload_n C 3 rfl rfl dX11_reads_77 ?_
  replace h := fi_s h
  obtain ⟨a15, ea15, ka15, ia15, h⟩ := h
  refine fv_zald C ea15 ka15 ia15 dX11_reads_78 ?_
  refine fv_if_eq C 195 (by decide) dX11_reads_79 (fun c18 => ?_) (fun c18 => ?_)
  · replace h := itT c18 h
    refine fv_sub (cc := ⟨#[]⟩) (own := "") [1, 2, 3, 0] rfl ?_
    exact r_X11_reads_J195 C E  _ _ _ _ _ h
  · replace h := itF c18 h
    refine fv_aload_n C 1 rfl rfl dX11_reads_82 ?_
    refine fv_getR C fl_RX11_33 ea13 ka13 dX11_reads_83 ?_
    refine fv_iload_n C 2 rfl rfl dX11_reads_86 ?_
    refine fv_iald C ea14 ka14 ia14 dX11_reads_87 ?_
    refine fv_aload_n C 1 rfl rfl dX11_reads_88 ?_
    refine fv_getR C fl_RX11_17 ea13 ka13 dX11_reads_89 ?_
    refine fv_iload_n C 3 rfl rfl dX11_reads_92 ?_
    replace h := fi_s h
    obtain ⟨a16, ea16, ka16, ia16, h⟩ := h
    refine fv_iald C ea16 ka16 ia16 dX11_reads_93 ?_
    refine fv_icmp_le C 101 (by decide) dX11_reads_94 (fun c17 => ?_) (fun c17 => ?_)
    · replace h := itT c17 h
      refine fv_iconst (v := 0) C (by decide) dX11_reads_101 ?_
      refine fv_sub (cc := ⟨#[]⟩) (own := "") [1, 2, 3, 0] rfl ?_
      exact r_X11_reads_J102 C E  _ _ _ _ _ _ h
    · replace h := itF c17 h
      refine fv_iconst (v := 1) C (by decide) dX11_reads_97 ?_
      refine fv_goto C 102 (by decide) dX11_reads_98 ?_
      refine fv_sub (cc := ⟨#[]⟩) (own := "") [1, 2, 3, 0] rfl ?_
      exact r_X11_reads_J102 C E  _ _ _ _ _ _ h
set_option maxRecDepth 10000 in
theorem r_X11_reads_L29 {X : fh_X} {K : fh_K} {sz : Nat} {M' : fh_M} {r : Int32} (C : fh_C X 9 cX11_reads RX11) (E : fh_E X rm_X11_reads (some .boolean) (some (.int r)) K M' sz) : ∀ (n : Nat) (t : Nat) (v1 : Int32) (v2 : Int32) (v3 : Int32) (M : fh_M), f_X11_reads_L29 K n t v1 v2 v3 M = some (r, M') → fh_V X rm_X11_reads 9 (sz, 0, 0) K M 29 [(0, va_rf (some t)), (1, .int v1), (2, .int v2), (3, .int v3)] [] := by
  intro n
  induction n with
  | zero => intro t v1 v2 v3 M h; cases h
  | succ n ih =>
    intro t v1 v2 v3 M h
    unfold f_X11_reads_L29 at h
    refine fv_iload_n C 3 rfl rfl dX11_reads_29 ?_
    refine fv_aload_n C 0 rfl rfl dX11_reads_30 ?_
    replace h := fo_s h
    obtain ⟨a7, ea7, ka7, h⟩ := h
    refine fv_getR C fl_RX11_17 ea7 ka7 dX11_reads_31 ?_
    refine fv_iload_n C 2 rfl rfl dX11_reads_34 ?_
    replace h := fi_s h
    obtain ⟨a8, ea8, ka8, ia8, h⟩ := h
    refine fv_iald C ea8 ka8 ia8 dX11_reads_35 ?_
    refine fv_icmp_ge C 66 (by decide) dX11_reads_36 (fun c12 => ?_) (fun c12 => ?_)
    · replace h := itT c12 h
      refine fv_sub (cc := ⟨#[]⟩) (own := "") [0, 1, 2] rfl ?_
      exact r_X11_reads_J66 C E  _ _ _ _ h
    · replace h := itF c12 h
      refine fv_aload_n C 0 rfl rfl dX11_reads_39 ?_
      refine fv_iload_n C 1 rfl rfl dX11_reads_40 ?_
      refine fv_iload_n C 3 rfl rfl dX11_reads_41 ?_
      replace h := bx h
      obtain ⟨r9, er9, h⟩ := h
      refine fv_callV [.int v1, .int v3] C mi_X11_byteAt ms_X11_byteAt lk_RX11_145 ea7 ka7 (r_X11_byteAt _ _ _ er9) ⟨Nat.le_of_ble_eq_true rfl, Nat.le_of_ble_eq_true rfl⟩ ⟨Nat.le_of_ble_eq_true rfl, Nat.le_of_ble_eq_true rfl⟩ rfl rfl (by simp [va_rf_cat, cat_i, cat_l]) dX11_reads_42 ?_
      show fh_V X rm_X11_reads 9 (sz, 0, 0) K M _ _ [.int r9]
      refine fv_aload_n C 0 rfl rfl dX11_reads_45 ?_
      refine fv_getR C fl_RX11_13 ea7 ka7 dX11_reads_46 ?_
      refine fv_iconst (v := 4) C (by decide) dX11_reads_49 ?_
      refine fv_iload_n C 2 rfl rfl dX11_reads_50 ?_
      refine fv_imul C dX11_reads_51 ?_
      refine fv_iload_n C 3 rfl rfl dX11_reads_52 ?_
      refine fv_iadd C dX11_reads_53 ?_
      replace h := fi_s h
      obtain ⟨a10, ea10, ka10, ia10, h⟩ := h
      refine fv_iald C ea10 ka10 ia10 dX11_reads_54 ?_
      refine fv_icmp_eq C 60 (by decide) dX11_reads_55 (fun c11 => ?_) (fun c11 => ?_)
      · replace h := itT c11 h
        refine fv_iinc (v := v3 + 1) (lv' := [(3, .int (v3 + 1)), (0, va_rf (some t)), (1, .int v1), (2, .int v2)]) C 3 rfl (by first | rfl | exact congrArg _ (by decide)) (by decide) (by first | rfl | simp [va_rf_cat]) dX11_reads_60 ?_
        refine fv_goto C 29 (by decide) dX11_reads_63 ?_
        refine fv_sub (cc := ⟨#[]⟩) (own := "") [1, 2, 3, 0] rfl ?_
        exact ih _ _ _ _ _ h
      · replace h := itF c11 h
        refine fv_iconst (v := 0) C (by decide) dX11_reads_58 ?_
        cases h
        exact fv_zret (z := (0, 0, 0)) (st := []) C E (Or.inl rfl) dX11_reads_59
set_option maxRecDepth 10000 in
theorem r_X11_reads (l : Launch) (D : fh_D) (A : Nat → Prop) {K : fh_K} {sz : Nat} {M : fh_M} {M' : fh_M} {r : Int32} {t : Nat} {p1 : Int32} {p2 : Int32} (h : f_X11_reads K M t p1 p2 = some (r, M')) : fh_Met l yX11_reads cX11_reads 9 (some .boolean) rm_X11_reads D K M sz A [va_rf (some t), .int p1, .int p2] (some (.int r)) K M' sz := by
  refine fh_enter (by decide) (by simp [lg_sl, va_rf_cat, cat_i, cat_l]) (lv := [(0, va_rf (some t)), (1, .int p1), (2, .int p2)]) (by simp [lv_args, va_rf_cat, cat_i, cat_l]) ?_
  intro X C E hnm _ _ _
  replace C : fh_C X 9 cX11_reads RX11 := C
  unfold f_X11_reads at h
  refine fv_aload_n C 0 rfl rfl dX11_reads_0 ?_
  refine fv_iconst (v := 0) C (by decide) dX11_reads_1 ?_
  replace h := fo_s h
  obtain ⟨a1, ea1, ka1, h⟩ := h
  replace h := fb_s h
  obtain ⟨M2, eM2, h⟩ := h
  refine fv_putI (fin := false) C fl_RX11_139 ea1 ka1 (narrow_i _) dX11_reads_2 (fv_eqM eM2 ?_)
  refine fv_aload_n C 0 rfl rfl dX11_reads_5 ?_
  refine fv_iconst (v := 0) C (by decide) dX11_reads_6 ?_
  replace h := fb_s h
  obtain ⟨M3, eM3, h⟩ := h
  refine fv_putI (fin := false) C fl_RX11_142 ea1 ka1 (narrow_i _) dX11_reads_7 (fv_eqM eM3 ?_)
  refine fv_aload_n C 0 rfl rfl dX11_reads_10 ?_
  refine fv_getR C fl_RX11_33 ea1 ka1 dX11_reads_11 ?_
  refine fv_iload_n C 1 rfl rfl dX11_reads_14 ?_
  replace h := fi_s h
  obtain ⟨a4, ea4, ka4, ia4, h⟩ := h
  refine fv_iald C ea4 ka4 ia4 dX11_reads_15 ?_
  refine fv_aload_n C 0 rfl rfl dX11_reads_16 ?_
  refine fv_getR C fl_RX11_17 ea1 ka1 dX11_reads_17 ?_
  refine fv_iload_n C 2 rfl rfl dX11_reads_20 ?_
  replace h := fi_s h
  obtain ⟨a5, ea5, ka5, ia5, h⟩ := h
  refine fv_iald C ea5 ka5 ia5 dX11_reads_21 ?_
  refine fv_icmp_ge C 27 (by decide) dX11_reads_22 (fun c6 => ?_) (fun c6 => ?_)
  · replace h := itT c6 h
    refine fv_iconst (v := 0) C (by decide) dX11_reads_27 ?_
    refine fv_istore_n (i := 3) (lv' := [(3, .int 0), (0, va_rf (some t)), (1, .int p1), (2, .int p2)]) C rfl (by decide) (by first | rfl | simp [va_rf_cat]) dX11_reads_28 ?_
    refine fv_sub (cc := ⟨#[]⟩) (own := "") [1, 2, 3, 0] rfl ?_
    exact r_X11_reads_L29 C E  4096 _ _ _ _ _ h
  · replace h := itF c6 h
    refine fv_iconst (v := 0) C (by decide) dX11_reads_25 ?_
    cases h
    exact fv_zret (z := (0, 0, 0)) (st := []) C E (Or.inl rfl) dX11_reads_26
abbrev rm_X11_bends : Room := { frames := 2, cells := 0, slots := 0, locals := 50 }
set_option maxRecDepth 10000 in
theorem r_X11_bends (l : Launch) (D : fh_D) (A : Nat → Prop) {K : fh_K} {sz : Nat} {M : fh_M} {M' : fh_M} {r : Int32} {t : Nat} {p1 : Int32} {p2 : Int32} (h : f_X11_bends K M t p1 p2 = some (r, M')) : fh_Met l yX11_bends cX11_bends 3 (some .int) rm_X11_bends D K M sz A [va_rf (some t), .int p1, .int p2] (some (.int r)) K M' sz := by
  refine fh_enter (by decide) (by simp [lg_sl, va_rf_cat, cat_i, cat_l]) (lv := [(0, va_rf (some t)), (1, .int p1), (2, .int p2)]) (by simp [lv_args, va_rf_cat, cat_i, cat_l]) ?_
  intro X C E hnm _ _ _
  replace C : fh_C X 3 cX11_bends RX11 := C
  unfold f_X11_bends at h
  refine fv_aload_n C 0 rfl rfl dX11_bends_0 ?_
  refine fv_iload_n C 1 rfl rfl dX11_bends_1 ?_
  replace h := fo_s h
  obtain ⟨a1, ea1, ka1, h⟩ := h
  replace h := bx h
  obtain ⟨r2, er2, h⟩ := h
  refine fv_callV [.int p1] C mi_X11_isFile ms_X11_isFile lk_RX11_120 ea1 ka1 (r_X11_isFile _ _ _ er2) ⟨Nat.le_of_ble_eq_true rfl, Nat.le_of_ble_eq_true rfl⟩ ⟨Nat.le_of_ble_eq_true rfl, Nat.le_of_ble_eq_true rfl⟩ rfl rfl (by simp [va_rf_cat, cat_i, cat_l]) dX11_bends_2 ?_
  show fh_V X rm_X11_bends 3 (sz, 0, 0) K M _ _ [.int r2]
  refine fv_if_eq C 16 (by decide) dX11_bends_5 (fun c8 => ?_) (fun c8 => ?_)
  · replace h := itT c8 h
    refine fv_iconst (v := -1) C (by decide) dX11_bends_16 ?_
    cases h
    exact fv_iret (z := (0, 0, 0)) (st := []) C E dX11_bends_17
  · replace h := itF c8 h
    refine fv_aload_n C 0 rfl rfl dX11_bends_8 ?_
    refine fv_iload_n C 2 rfl rfl dX11_bends_9 ?_
    replace h := bx h
    obtain ⟨r3, er3, h⟩ := h
    refine fv_callV [.int p2] C mi_X11_isMake ms_X11_isMake lk_RX11_127 ea1 ka1 (r_X11_isMake _ _ _ er3) ⟨Nat.le_of_ble_eq_true rfl, Nat.le_of_ble_eq_true rfl⟩ ⟨Nat.le_of_ble_eq_true rfl, Nat.le_of_ble_eq_true rfl⟩ rfl rfl (by simp [va_rf_cat, cat_i, cat_l]) dX11_bends_10 ?_
    show fh_V X rm_X11_bends 3 (sz, 0, 0) K M _ _ [.int r3]
    refine fv_if_ne C 18 (by decide) dX11_bends_13 (fun c7 => ?_) (fun c7 => ?_)
    · replace h := itF c7 h
      refine fv_aload_n C 0 rfl rfl dX11_bends_18 ?_
      refine fv_iload_n C 1 rfl rfl dX11_bends_19 ?_
      refine fv_iload_n C 2 rfl rfl dX11_bends_20 ?_
      replace h := fc2_s h
      obtain ⟨r4, M5, er4, h⟩ := h
      refine fv_callV [.int p1, .int p2] C mi_X11_reads ms_X11_reads lk_RX11_153 ea1 ka1 (r_X11_reads _ _ _ er4) ⟨Nat.le_of_ble_eq_true rfl, Nat.le_of_ble_eq_true rfl⟩ ⟨Nat.le_of_ble_eq_true rfl, Nat.le_of_ble_eq_true rfl⟩ rfl rfl (by simp [va_rf_cat, cat_i, cat_l]) dX11_bends_21 ?_
      show fh_V X rm_X11_bends 3 (sz, 0, 0) K M5 _ _ [.int r4]
      refine fv_if_eq C 34 (by decide) dX11_bends_24 (fun c6 => ?_) (fun c6 => ?_)
      · replace h := itT c6 h
        refine fv_bipush (v := -2) C (by decide) dX11_bends_34 ?_
        cases h
        exact fv_iret (z := (0, 0, 0)) (st := []) C E dX11_bends_36
      · replace h := itF c6 h
        refine fv_aload_n C 0 rfl rfl dX11_bends_27 ?_
        refine fv_getI C fl_RX11_142 ea1 ka1 dX11_bends_28 ?_
        refine fv_goto C 36 (by decide) dX11_bends_31 ?_
        cases h
        exact fv_iret (z := (0, 0, 0)) (st := []) C E dX11_bends_36
    · replace h := itT c7 h
      refine fv_iconst (v := -1) C (by decide) dX11_bends_16 ?_
      cases h
      exact fv_iret (z := (0, 0, 0)) (st := []) C E dX11_bends_17
abbrev rm_X11_knows : Room := { frames := 2, cells := 0, slots := 0, locals := 50 }
set_option maxRecDepth 10000 in
theorem r_X11_knows_J70 {X : fh_X} {K : fh_K} {sz : Nat} {M' : fh_M} {r : Int32} (C : fh_C X 5 cX11_knows RX11) (E : fh_E X rm_X11_knows (some .int) (some (.int r)) K M' sz) (t : Nat) (v1 : Int32) (v2 : Int32) (M : fh_M) (h : f_X11_knows_J70 K t v1 v2 M = some (r, M')) : fh_V X rm_X11_knows 5 (sz, 0, 0) K M 70 [(0, va_rf (some t)), (1, .int v1), (2, .int v2)] [] := by
  unfold f_X11_knows_J70 at h
  refine fv_iload_n C 2 rfl rfl dX11_knows_70 ?_
  refine fv_iconst (v := -1) C (by decide) dX11_knows_71 ?_
  refine fv_icmp_ne C 83 (by decide) dX11_knows_72 (fun c16 => ?_) (fun c16 => ?_)
  · replace h := itF c16 h
    refine fv_aload_n C 0 rfl rfl dX11_knows_83 ?_
    refine fv_iload_n C 1 rfl rfl dX11_knows_84 ?_
    refine fv_iload_n C 2 rfl rfl dX11_knows_85 ?_
    replace h := fo_s h
    obtain ⟨a11, ea11, ka11, h⟩ := h
    replace h := fc2_s h
    obtain ⟨r12, M13, er12, h⟩ := h
    refine fv_callV [.int v1, .int v2] C mi_X11_reads ms_X11_reads lk_RX11_153 ea11 ka11 (r_X11_reads _ _ _ er12) ⟨Nat.le_of_ble_eq_true rfl, Nat.le_of_ble_eq_true rfl⟩ ⟨Nat.le_of_ble_eq_true rfl, Nat.le_of_ble_eq_true rfl⟩ rfl rfl (by simp [va_rf_cat, cat_i, cat_l]) dX11_knows_86 ?_
    show fh_V X rm_X11_knows 5 (sz, 0, 0) K M13 _ _ [.int r12]
    refine fv_istore (i := 4) (lv' := [(4, .int r12), (0, va_rf (some t)), (1, .int v1), (2, .int v2)]) C (by decide) (by first | rfl | simp [va_rf_cat]) dX11_knows_89 ?_
    refine fv_iload_n C 3 rfl rfl dX11_knows_91 ?_
    cases h
    exact fv_iret (z := (0, 0, 0)) (st := []) C E dX11_knows_92
  · replace h := itT c16 h
    refine fv_aload_n C 0 rfl rfl dX11_knows_75 ?_
    refine fv_iconst (v := 0) C (by decide) dX11_knows_76 ?_
    replace h := fo_s h
    obtain ⟨a14, ea14, ka14, h⟩ := h
    replace h := fb_s h
    obtain ⟨M15, eM15, h⟩ := h
    refine fv_putI (fin := false) C fl_RX11_139 ea14 ka14 (narrow_i _) dX11_knows_77 (fv_eqM eM15 ?_)
    refine fv_goto C 91 (by decide) dX11_knows_80 ?_
    refine fv_iload_n C 2 rfl rfl dX11_knows_91 ?_
    cases h
    exact fv_iret (z := (0, 0, 0)) (st := []) C E dX11_knows_92
set_option maxRecDepth 10000 in
theorem r_X11_knows_J64 {X : fh_X} {K : fh_K} {sz : Nat} {M' : fh_M} {r : Int32} (C : fh_C X 5 cX11_knows RX11) (E : fh_E X rm_X11_knows (some .int) (some (.int r)) K M' sz) {rec7 : Nat → Int32 → Int32 → Int32 → Int32 → fh_M → Option (Int32 × fh_M)} (hrec7 : ∀ (t : Nat) (v1 : Int32) (v2 : Int32) (v3 : Int32) (v4 : Int32) (M : fh_M), rec7 t v1 v2 v3 v4 M = some (r, M') → fh_V X rm_X11_knows 5 (sz, 0, 0) K M 7 [(0, va_rf (some t)), (1, .int v1), (2, .int v2), (3, .int v3), (4, .int v4)] []) (t : Nat) (v1 : Int32) (v2 : Int32) (v3 : Int32) (v4 : Int32) (M : fh_M) (h : f_X11_knows_J64 K rec7 t v1 v2 v3 v4 M = some (r, M')) : fh_V X rm_X11_knows 5 (sz, 0, 0) K M 64 [(0, va_rf (some t)), (1, .int v1), (2, .int v2), (3, .int v3), (4, .int v4)] [] := by
  unfold f_X11_knows_J64 at h
  refine fv_iinc (v := v4 + 1) (lv' := [(4, .int (v4 + 1)), (0, va_rf (some t)), (1, .int v1), (2, .int v2), (3, .int v3)]) C 4 rfl (by first | rfl | exact congrArg _ (by decide)) (by decide) (by first | rfl | simp [va_rf_cat]) dX11_knows_64 ?_
  refine fv_goto C 7 (by decide) dX11_knows_67 ?_
  refine fv_sub (cc := ⟨#[]⟩) (own := "") [1, 2, 3, 4, 0] rfl ?_
  exact hrec7 _ _ _ _ _ _ h
set_option maxRecDepth 10000 in
theorem r_X11_knows_J56 {X : fh_X} {K : fh_K} {sz : Nat} {M' : fh_M} {r : Int32} (C : fh_C X 5 cX11_knows RX11) (E : fh_E X rm_X11_knows (some .int) (some (.int r)) K M' sz) {rec7 : Nat → Int32 → Int32 → Int32 → Int32 → fh_M → Option (Int32 × fh_M)} (hrec7 : ∀ (t : Nat) (v1 : Int32) (v2 : Int32) (v3 : Int32) (v4 : Int32) (M : fh_M), rec7 t v1 v2 v3 v4 M = some (r, M') → fh_V X rm_X11_knows 5 (sz, 0, 0) K M 7 [(0, va_rf (some t)), (1, .int v1), (2, .int v2), (3, .int v3), (4, .int v4)] []) (t : Nat) (v1 : Int32) (v4 : Int32) (M : fh_M) (h : f_X11_knows_J56 K rec7 t v1 v4 M = some (r, M')) : fh_V X rm_X11_knows 5 (sz, 0, 0) K M 56 [(0, va_rf (some t)), (1, .int v1), (4, .int v4)] [] := by
  unfold f_X11_knows_J56 at h
  refine fv_iload C 2 rfl dX11_knows_56 ?_
  refine fv_istore_n (i := 2) (lv' := [(2, .int v4), (0, va_rf (some t)), (1, .int v1), (4, .int v4)]) C rfl (by decide) (by first | rfl | simp [va_rf_cat]) dX11_knows_58 ?_
  refine fv_aload_n C 1 rfl rfl dX11_knows_59 ?_
  replace h := fo_s h
  obtain ⟨a10, ea10, ka10, h⟩ := h
  refine fv_getI C fl_RX11_142 ea10 ka10 dX11_knows_60 ?_
  refine fv_istore_n (i := 3) (lv' := [(3, .int (M.1 a10 26)), (2, .int v4), (0, va_rf (some t)), (1, .int v1), (4, .int v4)]) C rfl (by decide) (by first | rfl | simp [va_rf_cat]) dX11_knows_63 ?_
  refine fv_sub (cc := ⟨#[]⟩) (own := "") [2, 3, 1, 0, 4] rfl ?_
  exact r_X11_knows_J64 C E hrec7 _ _ _ _ _ _ h
set_option maxRecDepth 10000 in
theorem r_X11_knows_L7 {X : fh_X} {K : fh_K} {sz : Nat} {M' : fh_M} {r : Int32} (C : fh_C X 5 cX11_knows RX11) (E : fh_E X rm_X11_knows (some .int) (some (.int r)) K M' sz) : ∀ (n : Nat) (t : Nat) (v1 : Int32) (v2 : Int32) (v3 : Int32) (v4 : Int32) (M : fh_M), f_X11_knows_L7 K n t v1 v2 v3 v4 M = some (r, M') → fh_V X rm_X11_knows 5 (sz, 0, 0) K M 7 [(0, va_rf (some t)), (1, .int v1), (2, .int v2), (3, .int v3), (4, .int v4)] [] := by
  intro n
  induction n with
  | zero => intro t v1 v2 v3 v4 M h; cases h
  | succ n ih =>
    intro t v1 v2 v3 v4 M h
    unfold f_X11_knows_L7 at h
    refine fv_iload C 4 rfl dX11_knows_7 ?_
    refine fv_aload_n C 0 rfl rfl dX11_knows_9 ?_
    replace h := fo_s h
    obtain ⟨a1, ea1, ka1, h⟩ := h
    refine fv_getI C fl_RX11_114 ea1 ka1 dX11_knows_10 ?_
    refine fv_icmp_ge C 70 (by decide) dX11_knows_13 (fun c9 => ?_) (fun c9 => ?_)
    · replace h := itT c9 h
      refine fv_sub (cc := ⟨#[]⟩) (own := "") [0, 1, 2] rfl ?_
      exact r_X11_knows_J70 C E  _ _ _ _ h
    · replace h := itF c9 h
      refine fv_aload_n C 0 rfl rfl dX11_knows_16 ?_
      refine fv_iload_n C 1 rfl rfl dX11_knows_17 ?_
      refine fv_iload C 4 rfl dX11_knows_18 ?_
      replace h := fc2_s h
      obtain ⟨r2, M3, er2, h⟩ := h
      refine fv_callV [.int v1, .int v4] C mi_X11_reads ms_X11_reads lk_RX11_153 ea1 ka1 (r_X11_reads _ _ _ er2) ⟨Nat.le_of_ble_eq_true rfl, Nat.le_of_ble_eq_true rfl⟩ ⟨Nat.le_of_ble_eq_true rfl, Nat.le_of_ble_eq_true rfl⟩ rfl rfl (by simp [va_rf_cat, cat_i, cat_l]) dX11_knows_20 ?_
      show fh_V X rm_X11_knows 5 (sz, 0, 0) K M3 _ _ [.int r2]
      refine fv_if_eq C 64 (by decide) dX11_knows_23 (fun c8 => ?_) (fun c8 => ?_)
      · replace h := itT c8 h
        refine fv_sub (cc := ⟨#[]⟩) (own := "") [0, 1, 2, 3, 4] rfl ?_
        exact r_X11_knows_J64 C E ih _ _ _ _ _ _ h
      · replace h := itF c8 h
        refine fv_aload_n C 0 rfl rfl dX11_knows_26 ?_
        refine fv_getI C fl_RX11_142 ea1 ka1 dX11_knows_27 ?_
        refine fv_aload_n C 0 rfl rfl dX11_knows_30 ?_
        refine fv_getR C fl_RX11_27 ea1 ka1 dX11_knows_31 ?_
        refine fv_iload C 4 rfl dX11_knows_34 ?_
        replace h := fi_s h
        obtain ⟨a4, ea4, ka4, ia4, h⟩ := h
        refine fv_iald C ea4 ka4 ia4 dX11_knows_36 ?_
        refine fv_icmp_gt C 64 (by decide) dX11_knows_37 (fun c7 => ?_) (fun c7 => ?_)
        · replace h := itT c7 h
          refine fv_sub (cc := ⟨#[]⟩) (own := "") [0, 1, 2, 3, 4] rfl ?_
          exact r_X11_knows_J64 C E ih _ _ _ _ _ _ h
        · replace h := itF c7 h
          refine fv_iload_n C 2 rfl rfl dX11_knows_40 ?_
          refine fv_iconst (v := -1) C (by decide) dX11_knows_41 ?_
          refine fv_icmp_eq C 56 (by decide) dX11_knows_42 (fun c6 => ?_) (fun c6 => ?_)
          · replace h := itT c6 h
            refine fv_sub (cc := ⟨#[]⟩) (own := "") [0, 1, 4] rfl ?_
            exact r_X11_knows_J56 C E ih _ _ _ _ h
          · replace h := itF c6 h
            refine fv_aload_n C 0 rfl rfl dX11_knows_45 ?_
            refine fv_getI C fl_RX11_142 ea1 ka1 dX11_knows_46 ?_
            refine fv_iload_n C 3 rfl rfl dX11_knows_49 ?_
            refine fv_icmp_lt C 56 (by decide) dX11_knows_50 (fun c5 => ?_) (fun c5 => ?_)
            · replace h := itT c5 h
              refine fv_sub (cc := ⟨#[]⟩) (own := "") [0, 1, 4] rfl ?_
              exact r_X11_knows_J56 C E ih _ _ _ _ h
            · replace h := itF c5 h
              refine fv_goto C 64 (by decide) dX11_knows_53 ?_
              refine fv_sub (cc := ⟨#[]⟩) (own := "") [0, 1, 2, 3, 4] rfl ?_
              exact r_X11_knows_J64 C E ih _ _ _ _ _ _ h
set_option maxRecDepth 10000 in
theorem r_X11_knows (l : Launch) (D : fh_D) (A : Nat → Prop) {K : fh_K} {sz : Nat} {M : fh_M} {M' : fh_M} {r : Int32} {t : Nat} {p1 : Int32} (h : f_X11_knows K M t p1 = some (r, M')) : fh_Met l yX11_knows cX11_knows 5 (some .int) rm_X11_knows D K M sz A [va_rf (some t), .int p1] (some (.int r)) K M' sz := by
  refine fh_enter (by decide) (by simp [lg_sl, va_rf_cat, cat_i, cat_l]) (lv := [(0, va_rf (some t)), (1, .int p1)]) (by simp [lv_args, va_rf_cat, cat_i, cat_l]) ?_
  intro X C E hnm _ _ _
  replace C : fh_C X 5 cX11_knows RX11 := C
  unfold f_X11_knows at h
  refine fv_iconst (v := -1) C (by decide) dX11_knows_0 ?_
  refine fv_istore_n (i := 2) (lv' := [(2, .int ((-1))), (0, va_rf (some t)), (1, .int p1)]) C rfl (by decide) (by first | rfl | simp [va_rf_cat]) dX11_knows_1 ?_
  refine fv_iconst (v := 0) C (by decide) dX11_knows_2 ?_
  refine fv_istore_n (i := 3) (lv' := [(3, .int 0), (2, .int ((-1))), (0, va_rf (some t)), (1, .int p1)]) C rfl (by decide) (by first | rfl | simp [va_rf_cat]) dX11_knows_3 ?_
  refine fv_iconst (v := 0) C (by decide) dX11_knows_4 ?_
  refine fv_istore (i := 4) (lv' := [(4, .int 0), (3, .int 0), (2, .int ((-1))), (0, va_rf (some t)), (1, .int p1)]) C (by decide) (by first | rfl | simp [va_rf_cat]) dX11_knows_5 ?_
  refine fv_sub (cc := ⟨#[]⟩) (own := "") [3, 4, 2, 1, 0] rfl ?_
  exact r_X11_knows_L7 C E  4096 _ _ _ _ _ _ h
abbrev rm_X11_know : Room := { frames := 3, cells := 0, slots := 0, locals := 74 }
set_option maxRecDepth 10000 in
theorem r_X11_know (l : Launch) (D : fh_D) (A : Nat → Prop) {K : fh_K} {sz : Nat} {M : fh_M} {M' : fh_M} {r : Int32} {t : Nat} {p1 : Int32} (h : f_X11_know K M t p1 = some (r, M')) : fh_Met l yX11_know cX11_know 2 (some .int) rm_X11_know D K M sz A [va_rf (some t), .int p1] (some (.int r)) K M' sz := by
  refine fh_enter (by decide) (by simp [lg_sl, va_rf_cat, cat_i, cat_l]) (lv := [(0, va_rf (some t)), (1, .int p1)]) (by simp [lv_args, va_rf_cat, cat_i, cat_l]) ?_
  intro X C E hnm _ _ _
  replace C : fh_C X 2 cX11_know RX11 := C
  unfold f_X11_know at h
  refine fv_aload_n C 0 rfl rfl dX11_know_0 ?_
  refine fv_iload_n C 1 rfl rfl dX11_know_1 ?_
  replace h := fo_s h
  obtain ⟨a1, ea1, ka1, h⟩ := h
  replace h := bx h
  obtain ⟨r2, er2, h⟩ := h
  refine fv_callV [.int p1] C mi_X11_isFile ms_X11_isFile lk_RX11_120 ea1 ka1 (r_X11_isFile _ _ _ er2) ⟨Nat.le_of_ble_eq_true rfl, Nat.le_of_ble_eq_true rfl⟩ ⟨Nat.le_of_ble_eq_true rfl, Nat.le_of_ble_eq_true rfl⟩ rfl rfl (by simp [va_rf_cat, cat_i, cat_l]) dX11_know_2 ?_
  show fh_V X rm_X11_know 2 (sz, 0, 0) K M _ _ [.int r2]
  refine fv_if_eq C 16 (by decide) dX11_know_5 (fun c5 => ?_) (fun c5 => ?_)
  · replace h := itT c5 h
    refine fv_iconst (v := -1) C (by decide) dX11_know_16 ?_
    cases h
    exact fv_iret (z := (0, 0, 0)) (st := []) C E dX11_know_17
  · replace h := itF c5 h
    refine fv_aload_n C 0 rfl rfl dX11_know_8 ?_
    refine fv_iload_n C 1 rfl rfl dX11_know_9 ?_
    replace h := fc2_s h
    obtain ⟨r3, M4, er3, h⟩ := h
    refine fv_callV [.int p1] C mi_X11_knows ms_X11_knows lk_RX11_156 ea1 ka1 (r_X11_knows _ _ _ er3) ⟨Nat.le_of_ble_eq_true rfl, Nat.le_of_ble_eq_true rfl⟩ ⟨Nat.le_of_ble_eq_true rfl, Nat.le_of_ble_eq_true rfl⟩ rfl rfl (by simp [va_rf_cat, cat_i, cat_l]) dX11_know_10 ?_
    show fh_V X rm_X11_know 2 (sz, 0, 0) K M4 _ _ [.int r3]
    refine fv_goto C 17 (by decide) dX11_know_13 ?_
    cases h
    exact fv_iret (z := (0, 0, 0)) (st := []) C E dX11_know_17
abbrev rm_X11_record : Room := { frames := 3, cells := 0, slots := 0, locals := 74 }
set_option maxRecDepth 10000 in
theorem r_X11_record (l : Launch) (D : fh_D) (A : Nat → Prop) {K : fh_K} {sz : Nat} {M : fh_M} {M' : fh_M} {r : Int32} {t : Nat} {p1 : Int32} {p2 : Int32} {p3 : Int32} (h : f_X11_record K M t p1 p2 p3 = some (r, M')) : fh_Met l yX11_record cX11_record 4 (some .int) rm_X11_record D K M sz A [va_rf (some t), .int p1, .int p2, .int p3] (some (.int r)) K M' sz := by
  refine fh_enter (by decide) (by simp [lg_sl, va_rf_cat, cat_i, cat_l]) (lv := [(0, va_rf (some t)), (1, .int p1), (2, .int p2), (3, .int p3)]) (by simp [lv_args, va_rf_cat, cat_i, cat_l]) ?_
  intro X C E hnm _ _ _
  replace C : fh_C X 4 cX11_record RX11 := C
  unfold f_X11_record at h
  refine fv_aload_n C 0 rfl rfl dX11_record_0 ?_
  refine fv_iload_n C 1 rfl rfl dX11_record_1 ?_
  replace h := fo_s h
  obtain ⟨a1, ea1, ka1, h⟩ := h
  replace h := bx h
  obtain ⟨r2, er2, h⟩ := h
  refine fv_callV [.int p1] C mi_X11_isFile ms_X11_isFile lk_RX11_120 ea1 ka1 (r_X11_isFile _ _ _ er2) ⟨Nat.le_of_ble_eq_true rfl, Nat.le_of_ble_eq_true rfl⟩ ⟨Nat.le_of_ble_eq_true rfl, Nat.le_of_ble_eq_true rfl⟩ rfl rfl (by simp [va_rf_cat, cat_i, cat_l]) dX11_record_2 ?_
  show fh_V X rm_X11_record 4 (sz, 0, 0) K M _ _ [.int r2]
  refine fv_if_eq C 31 (by decide) dX11_record_5 (fun c14 => ?_) (fun c14 => ?_)
  · replace h := itT c14 h
    refine fv_iconst (v := -1) C (by decide) dX11_record_31 ?_
    cases h
    exact fv_iret (z := (0, 0, 0)) (st := []) C E dX11_record_32
  · replace h := itF c14 h
    refine fv_aload_n C 0 rfl rfl dX11_record_8 ?_
    refine fv_iload_n C 1 rfl rfl dX11_record_9 ?_
    replace h := fc2_s h
    obtain ⟨r3, M4, er3, h⟩ := h
    refine fv_callV [.int p1] C mi_X11_knows ms_X11_knows lk_RX11_156 ea1 ka1 (r_X11_knows _ _ _ er3) ⟨Nat.le_of_ble_eq_true rfl, Nat.le_of_ble_eq_true rfl⟩ ⟨Nat.le_of_ble_eq_true rfl, Nat.le_of_ble_eq_true rfl⟩ rfl rfl (by simp [va_rf_cat, cat_i, cat_l]) dX11_record_10 ?_
    show fh_V X rm_X11_record 4 (sz, 0, 0) K M4 _ _ [.int r3]
    refine fv_iconst (v := -1) C (by decide) dX11_record_13 ?_
    refine fv_icmp_eq C 31 (by decide) dX11_record_14 (fun c13 => ?_) (fun c13 => ?_)
    · replace h := itT c13 h
      refine fv_iconst (v := -1) C (by decide) dX11_record_31 ?_
      cases h
      exact fv_iret (z := (0, 0, 0)) (st := []) C E dX11_record_32
    · replace h := itF c13 h
      refine fv_iload_n C 2 rfl rfl dX11_record_17 ?_
      refine fv_iconst (v := 0) C (by decide) dX11_record_18 ?_
      refine fv_aload_n C 0 rfl rfl dX11_record_19 ?_
      refine fv_getI C fl_RX11_139 ea1 ka1 dX11_record_20 ?_
      refine fv_iconst (v := 1) C (by decide) dX11_record_23 ?_
      refine fv_isub C dX11_record_24 ?_
      replace h := bx h
      obtain ⟨r5, er5, h⟩ := h
      refine fv_callS [.int p2, .int 0, .int ((M4.1 a1 25) - 1)] C mi_X11_lies lk_RX11_110 (r_X11_lies _ _ _ er5) ⟨Nat.le_of_ble_eq_true rfl, Nat.le_of_ble_eq_true rfl⟩ ⟨Nat.le_of_ble_eq_true rfl, Nat.le_of_ble_eq_true rfl⟩ rfl rfl (by simp [va_rf_cat, cat_i, cat_l]) dX11_record_25 ?_
      show fh_V X rm_X11_record 4 (sz, 0, 0) K M4 _ _ [.int r5]
      refine fv_if_ne C 33 (by decide) dX11_record_28 (fun c12 => ?_) (fun c12 => ?_)
      · replace h := itF c12 h
        refine fv_iload_n C 3 rfl rfl dX11_record_33 ?_
        refine fv_if_ne C 46 (by decide) dX11_record_34 (fun c11 => ?_) (fun c11 => ?_)
        · replace h := itF c11 h
          refine fv_iload_n C 3 rfl rfl dX11_record_46 ?_
          refine fv_iconst (v := 1) C (by decide) dX11_record_47 ?_
          refine fv_icmp_ne C 60 (by decide) dX11_record_48 (fun c9 => ?_) (fun c9 => ?_)
          · replace h := itF c9 h
            refine fv_iload_n C 3 rfl rfl dX11_record_60 ?_
            refine fv_iconst (v := 2) C (by decide) dX11_record_61 ?_
            refine fv_icmp_ne C 74 (by decide) dX11_record_62 (fun c7 => ?_) (fun c7 => ?_)
            · replace h := itF c7 h
              refine fv_iconst (v := -1) C (by decide) dX11_record_74 ?_
              cases h
              exact fv_iret (z := (0, 0, 0)) (st := []) C E dX11_record_75
            · replace h := itT c7 h
              refine fv_aload_n C 0 rfl rfl dX11_record_65 ?_
              refine fv_getR C fl_RX11_72 ea1 ka1 dX11_record_66 ?_
              refine fv_iload_n C 2 rfl rfl dX11_record_69 ?_
              replace h := fi_s h
              obtain ⟨a6, ea6, ka6, ia6, h⟩ := h
              refine fv_iald C ea6 ka6 ia6 dX11_record_70 ?_
              refine fv_goto C 75 (by decide) dX11_record_71 ?_
              cases h
              exact fv_iret (z := (0, 0, 0)) (st := []) C E dX11_record_75
          · replace h := itT c9 h
            refine fv_aload_n C 0 rfl rfl dX11_record_51 ?_
            refine fv_getR C fl_RX11_75 ea1 ka1 dX11_record_52 ?_
            refine fv_iload_n C 2 rfl rfl dX11_record_55 ?_
            replace h := fi_s h
            obtain ⟨a8, ea8, ka8, ia8, h⟩ := h
            refine fv_iald C ea8 ka8 ia8 dX11_record_56 ?_
            refine fv_goto C 75 (by decide) dX11_record_57 ?_
            cases h
            exact fv_iret (z := (0, 0, 0)) (st := []) C E dX11_record_75
        · replace h := itT c11 h
          refine fv_aload_n C 0 rfl rfl dX11_record_37 ?_
          refine fv_getR C fl_RX11_69 ea1 ka1 dX11_record_38 ?_
          refine fv_iload_n C 2 rfl rfl dX11_record_41 ?_
          replace h := fi_s h
          obtain ⟨a10, ea10, ka10, ia10, h⟩ := h
          refine fv_iald C ea10 ka10 ia10 dX11_record_42 ?_
          refine fv_goto C 75 (by decide) dX11_record_43 ?_
          cases h
          exact fv_iret (z := (0, 0, 0)) (st := []) C E dX11_record_75
      · replace h := itT c12 h
        refine fv_iconst (v := -1) C (by decide) dX11_record_31 ?_
        cases h
        exact fv_iret (z := (0, 0, 0)) (st := []) C E dX11_record_32
abbrev rm_X11_properties : Room := { frames := 3, cells := 0, slots := 0, locals := 74 }
set_option maxRecDepth 10000 in
theorem r_X11_properties_J38 {X : fh_X} {K : fh_K} {sz : Nat} {M' : fh_M} {r : Int32} (C : fh_C X 5 cX11_properties RX11) (E : fh_E X rm_X11_properties (some .int) (some (.int r)) K M' sz) (v2 : Int32) (v3 : Int32) (M : fh_M) (h : f_X11_properties_J38 K v2 v3 M = some (r, M')) : fh_V X rm_X11_properties 5 (sz, 0, 0) K M 38 [(2, .int v2), (3, .int v3)] [] := by
  unfold f_X11_properties_J38 at h
  refine fv_iload_n C 0 rfl rfl dX11_properties_38 ?_
  refine fv_iconst (v := -1) C (by decide) dX11_properties_39 ?_
  refine fv_icmp_ne C 47 (by decide) dX11_properties_40 (fun c7 => ?_) (fun c7 => ?_)
  · replace h := itF c7 h
    refine fv_iload_n C 1 rfl rfl dX11_properties_47 ?_
    cases h
    exact fv_iret (z := (0, 0, 0)) (st := []) C E dX11_properties_48
  · replace h := itT c7 h
    refine fv_iconst (v := 0) C (by decide) dX11_properties_43 ?_
    refine fv_goto C 48 (by decide) dX11_properties_44 ?_
    cases h
    exact fv_iret (z := (0, 0, 0)) (st := []) C E dX11_properties_48
set_option maxRecDepth 10000 in
theorem r_X11_properties_L11 {X : fh_X} {K : fh_K} {sz : Nat} {M' : fh_M} {r : Int32} (C : fh_C X 5 cX11_properties RX11) (E : fh_E X rm_X11_properties (some .int) (some (.int r)) K M' sz) : ∀ (n : Nat) (t : Nat) (v2 : Int32) (v3 : Int32) (v4 : Int32) (M : fh_M), f_X11_properties_L11 K n t v2 v3 v4 M = some (r, M') → fh_V X rm_X11_properties 5 (sz, 0, 0) K M 11 [(0, va_rf (some t)), (2, .int v2), (3, .int v3), (4, .int v4)] [] := by
  intro n
  induction n with
  | zero => intro t v2 v3 v4 M h; cases h
  | succ n ih =>
    intro t v2 v3 v4 M h
    unfold f_X11_properties_L11 at h
    refine fv_iload C 3 rfl dX11_properties_11 ?_
    refine fv_aload_n C 0 rfl rfl dX11_properties_13 ?_
    replace h := fo_s h
    obtain ⟨a4, ea4, ka4, h⟩ := h
    refine fv_getI C fl_RX11_139 ea4 ka4 dX11_properties_14 ?_
    refine fv_icmp_ge C 38 (by decide) dX11_properties_17 (fun c6 => ?_) (fun c6 => ?_)
    · replace h := itT c6 h
      refine fv_sub (cc := ⟨#[]⟩) (own := "") [1, 2] rfl ?_
      exact r_X11_properties_J38 C E  _ _ _ h
    · replace h := itF c6 h
      refine fv_iload_n C 2 rfl rfl dX11_properties_20 ?_
      refine fv_iconst (v := 1) C (by decide) dX11_properties_21 ?_
      refine fv_aload_n C 0 rfl rfl dX11_properties_22 ?_
      refine fv_getR C fl_RX11_69 ea4 ka4 dX11_properties_23 ?_
      refine fv_iload C 3 rfl dX11_properties_26 ?_
      replace h := fi_s h
      obtain ⟨a5, ea5, ka5, ia5, h⟩ := h
      refine fv_iald C ea5 ka5 ia5 dX11_properties_28 ?_
      refine fv_ishl C dX11_properties_29 ?_
      refine fv_ior C dX11_properties_30 ?_
      refine fv_istore_n (i := 3) (lv' := [(3, .int (v3 ||| (1 <<< ((M.1 a5 v4.toNatClampNeg) &&& 31)))), (0, va_rf (some t)), (2, .int v2), (4, .int v4)]) C rfl (by decide) (by first | rfl | simp [va_rf_cat]) dX11_properties_31 ?_
      refine fv_iinc (v := v4 + 1) (lv' := [(4, .int (v4 + 1)), (3, .int (v3 ||| (1 <<< ((M.1 a5 v4.toNatClampNeg) &&& 31)))), (0, va_rf (some t)), (2, .int v2)]) C 3 rfl (by first | rfl | exact congrArg _ (by decide)) (by decide) (by first | rfl | simp [va_rf_cat]) dX11_properties_32 ?_
      refine fv_goto C 11 (by decide) dX11_properties_35 ?_
      refine fv_sub (cc := ⟨#[]⟩) (own := "") [2, 3, 1, 0] rfl ?_
      exact ih _ _ _ _ _ h
set_option maxRecDepth 10000 in
theorem r_X11_properties (l : Launch) (D : fh_D) (A : Nat → Prop) {K : fh_K} {sz : Nat} {M : fh_M} {M' : fh_M} {r : Int32} {t : Nat} {p1 : Int32} (h : f_X11_properties K M t p1 = some (r, M')) : fh_Met l yX11_properties cX11_properties 5 (some .int) rm_X11_properties D K M sz A [va_rf (some t), .int p1] (some (.int r)) K M' sz := by
  refine fh_enter (by decide) (by simp [lg_sl, va_rf_cat, cat_i, cat_l]) (lv := [(0, va_rf (some t)), (1, .int p1)]) (by simp [lv_args, va_rf_cat, cat_i, cat_l]) ?_
  intro X C E hnm _ _ _
  replace C : fh_C X 5 cX11_properties RX11 := C
  unfold f_X11_properties at h
  refine fv_aload_n C 0 rfl rfl dX11_properties_0 ?_
  refine fv_iload_n C 1 rfl rfl dX11_properties_1 ?_
  replace h := fo_s h
  obtain ⟨a1, ea1, ka1, h⟩ := h
  replace h := fc2_s h
  obtain ⟨r2, M3, er2, h⟩ := h
  refine fv_callV [.int p1] C mi_X11_knows ms_X11_knows lk_RX11_156 ea1 ka1 (r_X11_knows _ _ _ er2) ⟨Nat.le_of_ble_eq_true rfl, Nat.le_of_ble_eq_true rfl⟩ ⟨Nat.le_of_ble_eq_true rfl, Nat.le_of_ble_eq_true rfl⟩ rfl rfl (by simp [va_rf_cat, cat_i, cat_l]) dX11_properties_2 ?_
  show fh_V X rm_X11_properties 5 (sz, 0, 0) K M3 _ _ [.int r2]
  refine fv_istore_n (i := 2) (lv' := [(2, .int r2), (0, va_rf (some t)), (1, .int p1)]) C rfl (by decide) (by first | rfl | simp [va_rf_cat]) dX11_properties_5 ?_
  refine fv_iconst (v := 0) C (by decide) dX11_properties_6 ?_
  refine fv_istore_n (i := 3) (lv' := [(3, .int 0), (2, .int r2), (0, va_rf (some t)), (1, .int p1)]) C rfl (by decide) (by first | rfl | simp [va_rf_cat]) dX11_properties_7 ?_
  refine fv_iconst (v := 0) C (by decide) dX11_properties_8 ?_
  refine fv_istore (i := 4) (lv' := [(4, .int 0), (3, .int 0), (2, .int r2), (0, va_rf (some t)), (1, .int p1)]) C (by decide) (by first | rfl | simp [va_rf_cat]) dX11_properties_9 ?_
  refine fv_sub (cc := ⟨#[]⟩) (own := "") [3, 2, 1, 0] rfl ?_
  exact r_X11_properties_L11 C E  4096 _ _ _ _ _ h
abbrev rm_X11_goes : Room := { frames := 1, cells := 0, slots := 0, locals := 21 }
set_option maxRecDepth 10000 in
theorem r_X11_goes (l : Launch) (D : fh_D) (A : Nat → Prop) {K : fh_K} {sz : Nat} {M : fh_M} {r : Int32} {t : Nat} {p1 : Int32} {p2 : Int32} (h : f_X11_goes K M t p1 p2 = some r) : fh_Met l yX11_goes cX11_goes 3 (some .boolean) rm_X11_goes D K M sz A [va_rf (some t), .int p1, .int p2] (some (.int r)) K M sz := by
  refine fh_enter (by decide) (by simp [lg_sl, va_rf_cat, cat_i, cat_l]) (lv := [(0, va_rf (some t)), (1, .int p1), (2, .int p2)]) (by simp [lv_args, va_rf_cat, cat_i, cat_l]) ?_
  intro X C E hnm _ _ _
  replace C : fh_C X 3 cX11_goes RX11 := C
  unfold f_X11_goes at h
  refine fv_aload_n C 0 rfl rfl dX11_goes_0 ?_
  replace h := fo_s h
  obtain ⟨a1, ea1, ka1, h⟩ := h
  refine fv_getR C fl_RX11_20 ea1 ka1 dX11_goes_1 ?_
  refine fv_aload_n C 0 rfl rfl dX11_goes_4 ?_
  refine fv_getR C fl_RX11_57 ea1 ka1 dX11_goes_5 ?_
  refine fv_iload_n C 2 rfl rfl dX11_goes_8 ?_
  replace h := fi_s h
  obtain ⟨a2, ea2, ka2, ia2, h⟩ := h
  refine fv_iald C ea2 ka2 ia2 dX11_goes_9 ?_
  replace h := fi_s h
  obtain ⟨a3, ea3, ka3, ia3, h⟩ := h
  refine fv_iald C ea3 ka3 ia3 dX11_goes_10 ?_
  refine fv_aload_n C 0 rfl rfl dX11_goes_11 ?_
  refine fv_getR C fl_RX11_69 ea1 ka1 dX11_goes_12 ?_
  refine fv_iload_n C 1 rfl rfl dX11_goes_15 ?_
  replace h := fi_s h
  obtain ⟨a4, ea4, ka4, ia4, h⟩ := h
  refine fv_iald C ea4 ka4 ia4 dX11_goes_16 ?_
  replace h := bx h
  obtain ⟨r5, er5, h⟩ := h
  refine fv_callS [.int (M.1 a3 (M.1 a2 p2.toNatClampNeg).toNatClampNeg), .int (M.1 a4 p1.toNatClampNeg)] C mi_X11_has lk_RX11_149 (r_X11_has _ _ _ er5) ⟨Nat.le_of_ble_eq_true rfl, Nat.le_of_ble_eq_true rfl⟩ ⟨Nat.le_of_ble_eq_true rfl, Nat.le_of_ble_eq_true rfl⟩ rfl rfl (by simp [va_rf_cat, cat_i, cat_l]) dX11_goes_17 ?_
  show fh_V X rm_X11_goes 3 (sz, 0, 0) K M _ _ [.int r5]
  refine fv_if_eq C 45 (by decide) dX11_goes_20 (fun c9 => ?_) (fun c9 => ?_)
  · replace h := itT c9 h
    refine fv_iconst (v := 0) C (by decide) dX11_goes_45 ?_
    cases h
    exact fv_zret (z := (0, 0, 0)) (st := []) C E (Or.inl rfl) dX11_goes_46
  · replace h := itF c9 h
    refine fv_aload_n C 0 rfl rfl dX11_goes_23 ?_
    refine fv_getR C fl_RX11_60 ea1 ka1 dX11_goes_24 ?_
    refine fv_iload_n C 2 rfl rfl dX11_goes_27 ?_
    replace h := fi_s h
    obtain ⟨a6, ea6, ka6, ia6, h⟩ := h
    refine fv_iald C ea6 ka6 ia6 dX11_goes_28 ?_
    refine fv_aload_n C 0 rfl rfl dX11_goes_29 ?_
    refine fv_getR C fl_RX11_69 ea1 ka1 dX11_goes_30 ?_
    refine fv_iload_n C 1 rfl rfl dX11_goes_33 ?_
    refine fv_iald C ea4 ka4 ia4 dX11_goes_34 ?_
    replace h := bx h
    obtain ⟨r7, er7, h⟩ := h
    refine fv_callS [.int (M.1 a6 p2.toNatClampNeg), .int (M.1 a4 p1.toNatClampNeg)] C mi_X11_has lk_RX11_149 (r_X11_has _ _ _ er7) ⟨Nat.le_of_ble_eq_true rfl, Nat.le_of_ble_eq_true rfl⟩ ⟨Nat.le_of_ble_eq_true rfl, Nat.le_of_ble_eq_true rfl⟩ rfl rfl (by simp [va_rf_cat, cat_i, cat_l]) dX11_goes_35 ?_
    show fh_V X rm_X11_goes 3 (sz, 0, 0) K M _ _ [.int r7]
    refine fv_if_ne C 45 (by decide) dX11_goes_38 (fun c8 => ?_) (fun c8 => ?_)
    · replace h := itF c8 h
      refine fv_iconst (v := 0) C (by decide) dX11_goes_45 ?_
      cases h
      exact fv_zret (z := (0, 0, 0)) (st := []) C E (Or.inl rfl) dX11_goes_46
    · replace h := itT c8 h
      refine fv_iconst (v := 1) C (by decide) dX11_goes_41 ?_
      refine fv_goto C 46 (by decide) dX11_goes_42 ?_
      cases h
      exact fv_zret (z := (0, 0, 0)) (st := []) C E (Or.inr rfl) dX11_goes_46
abbrev rm_X11_turn : Room := { frames := 3, cells := 0, slots := 0, locals := 74 }
set_option maxRecDepth 10000 in
theorem r_X11_turn_J344 {X : fh_X} {K : fh_K} {sz : Nat} {M' : fh_M} {r : Int32} (C : fh_C X 8 cX11_turn RX11) (E : fh_E X rm_X11_turn (some .int) (some (.int r)) K M' sz) (t : Nat) (v1 : Int32) (v4 : Int32) (M : fh_M) (h : f_X11_turn_J344 K t v1 v4 M = some (r, M')) : fh_V X rm_X11_turn 8 (sz, 0, 0) K M 344 [(0, va_rf (some t)), (1, .int v1), (4, .int v4)] [] := by
  unfold f_X11_turn_J344 at h
  refine fv_aload_n C 0 rfl rfl dX11_turn_344 ?_
  replace h := fo_s h
  obtain ⟨a52, ea52, ka52, h⟩ := h
  refine fv_getR C fl_RX11_33 ea52 ka52 dX11_turn_345 ?_
  refine fv_aload_n C 0 rfl rfl dX11_turn_348 ?_
  refine fv_getI C fl_RX11_117 ea52 ka52 dX11_turn_349 ?_
  refine fv_iload C 2 rfl dX11_turn_352 ?_
  replace h := fi_s h
  obtain ⟨a53, ea53, ka53, ia53, h⟩ := h
  replace h := fb_s h
  obtain ⟨M54, eM54, h⟩ := h
  refine fv_iast C ea53 ka53 ia53 dX11_turn_354 (fv_eqM eM54 ?_)
  refine fv_aload_n C 0 rfl rfl dX11_turn_355 ?_
  refine fv_getR C fl_RX11_39 ea52 ka52 dX11_turn_356 ?_
  refine fv_aload_n C 0 rfl rfl dX11_turn_359 ?_
  refine fv_getI C fl_RX11_117 ea52 ka52 dX11_turn_360 ?_
  refine fv_iload_n C 1 rfl rfl dX11_turn_363 ?_
  replace h := fi_s h
  obtain ⟨a55, ea55, ka55, ia55, h⟩ := h
  replace h := fb_s h
  obtain ⟨M56, eM56, h⟩ := h
  refine fv_iast C ea55 ka55 ia55 dX11_turn_364 (fv_eqM eM56 ?_)
  refine fv_aload_n C 0 rfl rfl dX11_turn_365 ?_
  refine fv_dupr C dX11_turn_366 ?_
  refine fv_getI C fl_RX11_117 ea52 ka52 dX11_turn_367 ?_
  refine fv_iconst (v := 1) C (by decide) dX11_turn_370 ?_
  refine fv_iadd C dX11_turn_371 ?_
  replace h := fb_s h
  obtain ⟨M57, eM57, h⟩ := h
  refine fv_putI (fin := false) C fl_RX11_117 ea52 ka52 (narrow_i _) dX11_turn_372 (fv_eqM eM57 ?_)
  refine fv_aload_n C 0 rfl rfl dX11_turn_375 ?_
  refine fv_getI C fl_RX11_117 ea52 ka52 dX11_turn_376 ?_
  refine fv_iconst (v := 1) C (by decide) dX11_turn_379 ?_
  refine fv_isub C dX11_turn_380 ?_
  cases h
  exact fv_iret (z := (0, 0, 0)) (st := []) C E dX11_turn_381
set_option maxRecDepth 10000 in
theorem r_X11_turn_J322 {X : fh_X} {K : fh_K} {sz : Nat} {M' : fh_M} {r : Int32} (C : fh_C X 8 cX11_turn RX11) (E : fh_E X rm_X11_turn (some .int) (some (.int r)) K M' sz) (t : Nat) (v1 : Int32) (v3 : Int32) (v4 : Int32) (v5 : Int32) (v6 : Int32) (M : fh_M) (h : f_X11_turn_J322 K t v1 v3 v4 v5 v6 M = some (r, M')) : fh_V X rm_X11_turn 8 (sz, 0, 0) K M 322 [(0, va_rf (some t)), (1, .int v1), (3, .int v3), (4, .int v4), (5, .int v5), (6, .int v6)] [] := by
  unfold f_X11_turn_J322 at h
  refine fv_aload_n C 0 rfl rfl dX11_turn_322 ?_
  replace h := fo_s h
  obtain ⟨a47, ea47, ka47, h⟩ := h
  refine fv_getR C fl_RX11_23 ea47 ka47 dX11_turn_323 ?_
  refine fv_iload_n C 2 rfl rfl dX11_turn_326 ?_
  replace h := fi_s h
  obtain ⟨a48, ea48, ka48, ia48, h⟩ := h
  refine fv_zald C ea48 ka48 ia48 dX11_turn_327 ?_
  refine fv_if_eq C 344 (by decide) dX11_turn_328 (fun c51 => ?_) (fun c51 => ?_)
  · replace h := itT c51 h
    refine fv_sub (cc := ⟨#[]⟩) (own := "") [0, 1, 3] rfl ?_
    exact r_X11_turn_J344 C E  _ _ _ _ h
  · replace h := itF c51 h
    refine fv_aload_n C 0 rfl rfl dX11_turn_331 ?_
    refine fv_getR C fl_RX11_30 ea47 ka47 dX11_turn_332 ?_
    refine fv_iload C 4 rfl dX11_turn_335 ?_
    refine fv_iload C 5 rfl dX11_turn_337 ?_
    refine fv_sipush (v := 256) C (by decide) dX11_turn_339 ?_
    refine fv_irem C (by decide) dX11_turn_342 ?_
    replace h := fi_s h
    obtain ⟨a49, ea49, ka49, ia49, h⟩ := h
    replace h := fb_s h
    obtain ⟨M50, eM50, h⟩ := h
    refine fv_iast C ea49 ka49 ia49 dX11_turn_343 (fv_eqM eM50 ?_)
    refine fv_sub (cc := ⟨#[]⟩) (own := "") [0, 1, 3] rfl ?_
    exact r_X11_turn_J344 C E  _ _ _ _ h
set_option maxRecDepth 10000 in
theorem r_X11_turn_L297 {X : fh_X} {K : fh_K} {sz : Nat} {M' : fh_M} {r : Int32} (C : fh_C X 8 cX11_turn RX11) (E : fh_E X rm_X11_turn (some .int) (some (.int r)) K M' sz) : ∀ (n : Nat) (t : Nat) (v1 : Int32) (v3 : Int32) (v4 : Int32) (v5 : Int32) (v6 : Int32) (v7 : Int32) (M : fh_M), f_X11_turn_L297 K n t v1 v3 v4 v5 v6 v7 M = some (r, M') → fh_V X rm_X11_turn 8 (sz, 0, 0) K M 297 [(0, va_rf (some t)), (1, .int v1), (3, .int v3), (4, .int v4), (5, .int v5), (6, .int v6), (7, .int v7)] [] := by
  intro n
  induction n with
  | zero => intro t v1 v3 v4 v5 v6 v7 M h; cases h
  | succ n ih =>
    intro t v1 v3 v4 v5 v6 v7 M h
    unfold f_X11_turn_L297 at h
    refine fv_iload C 6 rfl dX11_turn_297 ?_
    refine fv_iload C 4 rfl dX11_turn_299 ?_
    refine fv_icmp_ge C 322 (by decide) dX11_turn_301 (fun c46 => ?_) (fun c46 => ?_)
    · replace h := itT c46 h
      refine fv_sub (cc := ⟨#[]⟩) (own := "") [0, 1, 2, 3, 4, 5] rfl ?_
      exact r_X11_turn_J322 C E  _ _ _ _ _ _ _ h
    · replace h := itF c46 h
      refine fv_iload C 5 rfl dX11_turn_304 ?_
      refine fv_aload_n C 0 rfl rfl dX11_turn_306 ?_
      replace h := fo_s h
      obtain ⟨a44, ea44, ka44, h⟩ := h
      refine fv_getR C fl_RX11_30 ea44 ka44 dX11_turn_307 ?_
      refine fv_iload C 6 rfl dX11_turn_310 ?_
      replace h := fi_s h
      obtain ⟨a45, ea45, ka45, ia45, h⟩ := h
      refine fv_iald C ea45 ka45 ia45 dX11_turn_312 ?_
      refine fv_iadd C dX11_turn_313 ?_
      refine fv_istore (i := 6) (lv' := [(6, .int (v6 + (M.1 a45 v7.toNatClampNeg))), (0, va_rf (some t)), (1, .int v1), (3, .int v3), (4, .int v4), (5, .int v5), (7, .int v7)]) C (by decide) (by first | rfl | simp [va_rf_cat]) dX11_turn_314 ?_
      refine fv_iinc (v := v7 + 1) (lv' := [(7, .int (v7 + 1)), (6, .int (v6 + (M.1 a45 v7.toNatClampNeg))), (0, va_rf (some t)), (1, .int v1), (3, .int v3), (4, .int v4), (5, .int v5)]) C 6 rfl (by first | rfl | exact congrArg _ (by decide)) (by decide) (by first | rfl | simp [va_rf_cat]) dX11_turn_316 ?_
      refine fv_goto C 297 (by decide) dX11_turn_319 ?_
      refine fv_sub (cc := ⟨#[]⟩) (own := "") [2, 3, 4, 5, 6, 1, 0] rfl ?_
      exact ih _ _ _ _ _ _ _ _ h
set_option maxRecDepth 10000 in
theorem r_X11_turn_J285 {X : fh_X} {K : fh_K} {sz : Nat} {M' : fh_M} {r : Int32} (C : fh_C X 8 cX11_turn RX11) (E : fh_E X rm_X11_turn (some .int) (some (.int r)) K M' sz) (t : Nat) (v1 : Int32) (v3 : Int32) (v4 : Int32) (v5 : Int32) (M : fh_M) (h : f_X11_turn_J285 K t v1 v3 v4 v5 M = some (r, M')) : fh_V X rm_X11_turn 8 (sz, 0, 0) K M 285 [(0, va_rf (some t)), (1, .int v1), (3, .int v3), (4, .int v4), (5, .int v5)] [] := by
  unfold f_X11_turn_J285 at h
  refine fv_iconst (v := 0) C (by decide) dX11_turn_285 ?_
  refine fv_istore (i := 6) (lv' := [(6, .int 0), (0, va_rf (some t)), (1, .int v1), (3, .int v3), (4, .int v4), (5, .int v5)]) C (by decide) (by first | rfl | simp [va_rf_cat]) dX11_turn_286 ?_
  refine fv_bipush (v := 60) C (by decide) dX11_turn_288 ?_
  refine fv_aload_n C 1 rfl rfl dX11_turn_290 ?_
  replace h := fo_s h
  obtain ⟨a43, ea43, ka43, h⟩ := h
  refine fv_getI C fl_RX11_117 ea43 ka43 dX11_turn_291 ?_
  refine fv_imul C dX11_turn_294 ?_
  refine fv_istore (i := 7) (lv' := [(7, .int (60 * (M.1 a43 9))), (6, .int 0), (0, va_rf (some t)), (1, .int v1), (3, .int v3), (4, .int v4), (5, .int v5)]) C (by decide) (by first | rfl | simp [va_rf_cat]) dX11_turn_295 ?_
  refine fv_sub (cc := ⟨#[]⟩) (own := "") [2, 3, 4, 5, 6, 1, 0] rfl ?_
  exact r_X11_turn_L297 C E  4096 _ _ _ _ _ _ _ _ h
set_option maxRecDepth 10000 in
theorem r_X11_turn_J279 {X : fh_X} {K : fh_K} {sz : Nat} {M' : fh_M} {r : Int32} (C : fh_C X 8 cX11_turn RX11) (E : fh_E X rm_X11_turn (some .int) (some (.int r)) K M' sz) {rec203 : Nat → Int32 → Int32 → Int32 → Int32 → Int32 → Int32 → fh_M → Option (Int32 × fh_M)} (hrec203 : ∀ (t : Nat) (v1 : Int32) (v2 : Int32) (v3 : Int32) (v4 : Int32) (v5 : Int32) (v6 : Int32) (M : fh_M), rec203 t v1 v2 v3 v4 v5 v6 M = some (r, M') → fh_V X rm_X11_turn 8 (sz, 0, 0) K M 203 [(0, va_rf (some t)), (1, .int v1), (2, .int v2), (3, .int v3), (4, .int v4), (5, .int v5), (6, .int v6)] []) (t : Nat) (v1 : Int32) (v2 : Int32) (v3 : Int32) (v4 : Int32) (v5 : Int32) (v6 : Int32) (M : fh_M) (h : f_X11_turn_J279 K rec203 t v1 v2 v3 v4 v5 v6 M = some (r, M')) : fh_V X rm_X11_turn 8 (sz, 0, 0) K M 279 [(0, va_rf (some t)), (1, .int v1), (2, .int v2), (3, .int v3), (4, .int v4), (5, .int v5), (6, .int v6)] [] := by
  unfold f_X11_turn_J279 at h
  refine fv_iinc (v := v6 + 1) (lv' := [(6, .int (v6 + 1)), (0, va_rf (some t)), (1, .int v1), (2, .int v2), (3, .int v3), (4, .int v4), (5, .int v5)]) C 6 rfl (by first | rfl | exact congrArg _ (by decide)) (by decide) (by first | rfl | simp [va_rf_cat]) dX11_turn_279 ?_
  refine fv_goto C 203 (by decide) dX11_turn_282 ?_
  refine fv_sub (cc := ⟨#[]⟩) (own := "") [1, 2, 3, 4, 5, 6, 0] rfl ?_
  exact hrec203 _ _ _ _ _ _ _ _ h
set_option maxRecDepth 10000 in
theorem r_X11_turn_L236 {X : fh_X} {K : fh_K} {sz : Nat} {M' : fh_M} {r : Int32} (C : fh_C X 8 cX11_turn RX11) (E : fh_E X rm_X11_turn (some .int) (some (.int r)) K M' sz) {rec203 : Nat → Int32 → Int32 → Int32 → Int32 → Int32 → Int32 → fh_M → Option (Int32 × fh_M)} (hrec203 : ∀ (t : Nat) (v1 : Int32) (v2 : Int32) (v3 : Int32) (v4 : Int32) (v5 : Int32) (v6 : Int32) (M : fh_M), rec203 t v1 v2 v3 v4 v5 v6 M = some (r, M') → fh_V X rm_X11_turn 8 (sz, 0, 0) K M 203 [(0, va_rf (some t)), (1, .int v1), (2, .int v2), (3, .int v3), (4, .int v4), (5, .int v5), (6, .int v6)] []) : ∀ (n : Nat) (t : Nat) (v1 : Int32) (v2 : Int32) (v3 : Int32) (v4 : Int32) (v5 : Int32) (v6 : Int32) (v7 : Int32) (M : fh_M), f_X11_turn_L236 K rec203 n t v1 v2 v3 v4 v5 v6 v7 M = some (r, M') → fh_V X rm_X11_turn 8 (sz, 0, 0) K M 236 [(0, va_rf (some t)), (1, .int v1), (2, .int v2), (3, .int v3), (4, .int v4), (5, .int v5), (6, .int v6), (7, .int v7)] [] := by
  intro n
  induction n with
  | zero => intro t v1 v2 v3 v4 v5 v6 v7 M h; cases h
  | succ n ih =>
    intro t v1 v2 v3 v4 v5 v6 v7 M h
    unfold f_X11_turn_L236 at h
    refine fv_iload C 7 rfl dX11_turn_236 ?_
    refine fv_aload_n C 0 rfl rfl dX11_turn_238 ?_
    replace h := fo_s h
    obtain ⟨a36, ea36, ka36, h⟩ := h
    refine fv_getR C fl_RX11_72 ea36 ka36 dX11_turn_239 ?_
    refine fv_iload C 6 rfl dX11_turn_242 ?_
    replace h := fi_s h
    obtain ⟨a37, ea37, ka37, ia37, h⟩ := h
    refine fv_iald C ea37 ka37 ia37 dX11_turn_244 ?_
    refine fv_aload_n C 0 rfl rfl dX11_turn_245 ?_
    refine fv_getR C fl_RX11_75 ea36 ka36 dX11_turn_246 ?_
    refine fv_iload C 6 rfl dX11_turn_249 ?_
    replace h := fi_s h
    obtain ⟨a38, ea38, ka38, ia38, h⟩ := h
    refine fv_iald C ea38 ka38 ia38 dX11_turn_251 ?_
    refine fv_iadd C dX11_turn_252 ?_
    refine fv_icmp_ge C 279 (by decide) dX11_turn_253 (fun c42 => ?_) (fun c42 => ?_)
    · replace h := itT c42 h
      refine fv_sub (cc := ⟨#[]⟩) (own := "") [0, 1, 2, 3, 4, 5, 6] rfl ?_
      exact r_X11_turn_J279 C E hrec203 _ _ _ _ _ _ _ _ h
    · replace h := itF c42 h
      refine fv_aload_n C 0 rfl rfl dX11_turn_256 ?_
      refine fv_getR C fl_RX11_30 ea36 ka36 dX11_turn_257 ?_
      refine fv_iload C 5 rfl dX11_turn_260 ?_
      refine fv_aload_n C 0 rfl rfl dX11_turn_262 ?_
      refine fv_iload_n C 1 rfl rfl dX11_turn_263 ?_
      refine fv_iload C 7 rfl dX11_turn_264 ?_
      replace h := bx h
      obtain ⟨r39, er39, h⟩ := h
      refine fv_callV [.int v1, .int v7] C mi_X11_byteAt ms_X11_byteAt lk_RX11_145 ea36 ka36 (r_X11_byteAt _ _ _ er39) ⟨Nat.le_of_ble_eq_true rfl, Nat.le_of_ble_eq_true rfl⟩ ⟨Nat.le_of_ble_eq_true rfl, Nat.le_of_ble_eq_true rfl⟩ rfl rfl (by simp [va_rf_cat, cat_i, cat_l]) dX11_turn_266 ?_
      show fh_V X rm_X11_turn 8 (sz, 0, 0) K M _ _ [.int r39, .int v5, va_rf (M.2.2 a36 10)]
      replace h := fi_s h
      obtain ⟨a40, ea40, ka40, ia40, h⟩ := h
      replace h := fb_s h
      obtain ⟨M41, eM41, h⟩ := h
      refine fv_iast C ea40 ka40 ia40 dX11_turn_269 (fv_eqM eM41 ?_)
      refine fv_iinc (v := v5 + 1) (lv' := [(5, .int (v5 + 1)), (0, va_rf (some t)), (1, .int v1), (2, .int v2), (3, .int v3), (4, .int v4), (6, .int v6), (7, .int v7)]) C 5 rfl (by first | rfl | exact congrArg _ (by decide)) (by decide) (by first | rfl | simp [va_rf_cat]) dX11_turn_270 ?_
      refine fv_iinc (v := v7 + 1) (lv' := [(7, .int (v7 + 1)), (5, .int (v5 + 1)), (0, va_rf (some t)), (1, .int v1), (2, .int v2), (3, .int v3), (4, .int v4), (6, .int v6)]) C 7 rfl (by first | rfl | exact congrArg _ (by decide)) (by decide) (by first | rfl | simp [va_rf_cat]) dX11_turn_273 ?_
      refine fv_goto C 236 (by decide) dX11_turn_276 ?_
      refine fv_sub (cc := ⟨#[]⟩) (own := "") [2, 3, 4, 5, 6, 1, 7, 0] rfl ?_
      exact ih _ _ _ _ _ _ _ _ _ h
set_option maxRecDepth 10000 in
theorem r_X11_turn_L203 {X : fh_X} {K : fh_K} {sz : Nat} {M' : fh_M} {r : Int32} (C : fh_C X 8 cX11_turn RX11) (E : fh_E X rm_X11_turn (some .int) (some (.int r)) K M' sz) : ∀ (n : Nat) (t : Nat) (v1 : Int32) (v2 : Int32) (v3 : Int32) (v4 : Int32) (v5 : Int32) (v6 : Int32) (M : fh_M), f_X11_turn_L203 K n t v1 v2 v3 v4 v5 v6 M = some (r, M') → fh_V X rm_X11_turn 8 (sz, 0, 0) K M 203 [(0, va_rf (some t)), (1, .int v1), (2, .int v2), (3, .int v3), (4, .int v4), (5, .int v5), (6, .int v6)] [] := by
  intro n
  induction n with
  | zero => intro t v1 v2 v3 v4 v5 v6 M h; cases h
  | succ n ih =>
    intro t v1 v2 v3 v4 v5 v6 M h
    unfold f_X11_turn_L203 at h
    refine fv_iload C 6 rfl dX11_turn_203 ?_
    refine fv_aload_n C 0 rfl rfl dX11_turn_205 ?_
    replace h := fo_s h
    obtain ⟨a31, ea31, ka31, h⟩ := h
    refine fv_getI C fl_RX11_139 ea31 ka31 dX11_turn_206 ?_
    refine fv_icmp_ge C 285 (by decide) dX11_turn_209 (fun c35 => ?_) (fun c35 => ?_)
    · replace h := itT c35 h
      refine fv_sub (cc := ⟨#[]⟩) (own := "") [0, 1, 3, 4, 5] rfl ?_
      exact r_X11_turn_J285 C E  _ _ _ _ _ _ h
    · replace h := itF c35 h
      refine fv_aload_n C 0 rfl rfl dX11_turn_212 ?_
      refine fv_iload C 6 rfl dX11_turn_213 ?_
      refine fv_iload_n C 2 rfl rfl dX11_turn_215 ?_
      replace h := bx h
      obtain ⟨r32, er32, h⟩ := h
      refine fv_callV [.int v6, .int v2] C mi_X11_goes ms_X11_goes lk_RX11_160 ea31 ka31 (r_X11_goes _ _ _ er32) ⟨Nat.le_of_ble_eq_true rfl, Nat.le_of_ble_eq_true rfl⟩ ⟨Nat.le_of_ble_eq_true rfl, Nat.le_of_ble_eq_true rfl⟩ rfl rfl (by simp [va_rf_cat, cat_i, cat_l]) dX11_turn_216 ?_
      show fh_V X rm_X11_turn 8 (sz, 0, 0) K M _ _ [.int r32]
      refine fv_if_ne C 225 (by decide) dX11_turn_219 (fun c34 => ?_) (fun c34 => ?_)
      · replace h := itF c34 h
        refine fv_aload_n C 0 rfl rfl dX11_turn_225 ?_
        refine fv_getR C fl_RX11_72 ea31 ka31 dX11_turn_226 ?_
        refine fv_iload C 6 rfl dX11_turn_229 ?_
        replace h := fi_s h
        obtain ⟨a33, ea33, ka33, ia33, h⟩ := h
        refine fv_iald C ea33 ka33 ia33 dX11_turn_231 ?_
        refine fv_iconst (v := 2) C (by decide) dX11_turn_232 ?_
        refine fv_isub C dX11_turn_233 ?_
        refine fv_istore (i := 7) (lv' := [(7, .int ((M.1 a33 v6.toNatClampNeg) - 2)), (0, va_rf (some t)), (1, .int v1), (2, .int v2), (3, .int v3), (4, .int v4), (5, .int v5), (6, .int v6)]) C (by decide) (by first | rfl | simp [va_rf_cat]) dX11_turn_234 ?_
        refine fv_sub (cc := ⟨#[]⟩) (own := "") [1, 2, 3, 4, 5, 6, 7, 0] rfl ?_
        exact r_X11_turn_L236 C E ih 4096 _ _ _ _ _ _ _ _ _ h
      · replace h := itT c34 h
        refine fv_goto C 279 (by decide) dX11_turn_222 ?_
        refine fv_sub (cc := ⟨#[]⟩) (own := "") [0, 1, 2, 3, 4, 5, 6] rfl ?_
        exact r_X11_turn_J279 C E ih _ _ _ _ _ _ _ _ h
set_option maxRecDepth 10000 in
theorem r_X11_turn_J200 {X : fh_X} {K : fh_K} {sz : Nat} {M' : fh_M} {r : Int32} (C : fh_C X 8 cX11_turn RX11) (E : fh_E X rm_X11_turn (some .int) (some (.int r)) K M' sz) (t : Nat) (v1 : Int32) (v2 : Int32) (v3 : Int32) (v4 : Int32) (v5 : Int32) (M : fh_M) (h : f_X11_turn_J200 K t v1 v2 v3 v4 v5 M = some (r, M')) : fh_V X rm_X11_turn 8 (sz, 0, 0) K M 200 [(0, va_rf (some t)), (1, .int v1), (2, .int v2), (3, .int v3), (4, .int v4), (5, .int v5)] [] := by
  unfold f_X11_turn_J200 at h
  refine fv_iconst (v := 0) C (by decide) dX11_turn_200 ?_
  refine fv_istore (i := 6) (lv' := [(6, .int 0), (0, va_rf (some t)), (1, .int v1), (2, .int v2), (3, .int v3), (4, .int v4), (5, .int v5)]) C (by decide) (by first | rfl | simp [va_rf_cat]) dX11_turn_201 ?_
  refine fv_sub (cc := ⟨#[]⟩) (own := "") [1, 2, 3, 4, 5, 6, 0] rfl ?_
  exact r_X11_turn_L203 C E  4096 _ _ _ _ _ _ _ _ h
set_option maxRecDepth 10000 in
theorem r_X11_turn_L162 {X : fh_X} {K : fh_K} {sz : Nat} {M' : fh_M} {r : Int32} (C : fh_C X 8 cX11_turn RX11) (E : fh_E X rm_X11_turn (some .int) (some (.int r)) K M' sz) : ∀ (n : Nat) (t : Nat) (v1 : Int32) (v2 : Int32) (v3 : Int32) (v4 : Int32) (v5 : Int32) (v6 : Int32) (M : fh_M), f_X11_turn_L162 K n t v1 v2 v3 v4 v5 v6 M = some (r, M') → fh_V X rm_X11_turn 8 (sz, 0, 0) K M 162 [(0, va_rf (some t)), (1, .int v1), (2, .int v2), (3, .int v3), (4, .int v4), (5, .int v5), (6, .int v6)] [] := by
  intro n
  induction n with
  | zero => intro t v1 v2 v3 v4 v5 v6 M h; cases h
  | succ n ih =>
    intro t v1 v2 v3 v4 v5 v6 M h
    unfold f_X11_turn_L162 at h
    refine fv_iload C 6 rfl dX11_turn_162 ?_
    refine fv_aload_n C 0 rfl rfl dX11_turn_164 ?_
    replace h := fo_s h
    obtain ⟨a25, ea25, ka25, h⟩ := h
    refine fv_getR C fl_RX11_17 ea25 ka25 dX11_turn_165 ?_
    refine fv_iload_n C 3 rfl rfl dX11_turn_168 ?_
    replace h := fi_s h
    obtain ⟨a26, ea26, ka26, ia26, h⟩ := h
    refine fv_iald C ea26 ka26 ia26 dX11_turn_169 ?_
    refine fv_icmp_ge C 200 (by decide) dX11_turn_170 (fun c30 => ?_) (fun c30 => ?_)
    · replace h := itT c30 h
      refine fv_sub (cc := ⟨#[]⟩) (own := "") [0, 1, 2, 3, 4, 5] rfl ?_
      exact r_X11_turn_J200 C E  _ _ _ _ _ _ _ h
    · replace h := itF c30 h
      refine fv_aload_n C 0 rfl rfl dX11_turn_173 ?_
      refine fv_getR C fl_RX11_30 ea25 ka25 dX11_turn_174 ?_
      refine fv_iload C 5 rfl dX11_turn_177 ?_
      refine fv_aload_n C 0 rfl rfl dX11_turn_179 ?_
      refine fv_getR C fl_RX11_13 ea25 ka25 dX11_turn_180 ?_
      refine fv_iconst (v := 4) C (by decide) dX11_turn_183 ?_
      refine fv_iload_n C 3 rfl rfl dX11_turn_184 ?_
      refine fv_imul C dX11_turn_185 ?_
      refine fv_iload C 6 rfl dX11_turn_186 ?_
      refine fv_iadd C dX11_turn_188 ?_
      replace h := fi_s h
      obtain ⟨a27, ea27, ka27, ia27, h⟩ := h
      refine fv_iald C ea27 ka27 ia27 dX11_turn_189 ?_
      replace h := fi_s h
      obtain ⟨a28, ea28, ka28, ia28, h⟩ := h
      replace h := fb_s h
      obtain ⟨M29, eM29, h⟩ := h
      refine fv_iast C ea28 ka28 ia28 dX11_turn_190 (fv_eqM eM29 ?_)
      refine fv_iinc (v := v5 + 1) (lv' := [(5, .int (v5 + 1)), (0, va_rf (some t)), (1, .int v1), (2, .int v2), (3, .int v3), (4, .int v4), (6, .int v6)]) C 5 rfl (by first | rfl | exact congrArg _ (by decide)) (by decide) (by first | rfl | simp [va_rf_cat]) dX11_turn_191 ?_
      refine fv_iinc (v := v6 + 1) (lv' := [(6, .int (v6 + 1)), (5, .int (v5 + 1)), (0, va_rf (some t)), (1, .int v1), (2, .int v2), (3, .int v3), (4, .int v4)]) C 6 rfl (by first | rfl | exact congrArg _ (by decide)) (by decide) (by first | rfl | simp [va_rf_cat]) dX11_turn_194 ?_
      refine fv_goto C 162 (by decide) dX11_turn_197 ?_
      refine fv_sub (cc := ⟨#[]⟩) (own := "") [2, 3, 4, 5, 6, 1, 0] rfl ?_
      exact ih _ _ _ _ _ _ _ _ h
set_option maxRecDepth 10000 in
theorem r_X11_turn_J141 {X : fh_X} {K : fh_K} {sz : Nat} {M' : fh_M} {r : Int32} (C : fh_C X 8 cX11_turn RX11) (E : fh_E X rm_X11_turn (some .int) (some (.int r)) K M' sz) (t : Nat) (v1 : Int32) (v2 : Int32) (v3 : Int32) (v4 : Int32) (M : fh_M) (h : f_X11_turn_J141 K t v1 v2 v3 v4 M = some (r, M')) : fh_V X rm_X11_turn 8 (sz, 0, 0) K M 141 [(0, va_rf (some t)), (1, .int v1), (2, .int v2), (3, .int v3), (4, .int v4)] [] := by
  unfold f_X11_turn_J141 at h
  refine fv_iload C 4 rfl dX11_turn_141 ?_
  refine fv_bipush (v := 60) C (by decide) dX11_turn_143 ?_
  refine fv_icmp_le C 150 (by decide) dX11_turn_145 (fun c24 => ?_) (fun c24 => ?_)
  · replace h := itT c24 h
    refine fv_bipush (v := 60) C (by decide) dX11_turn_150 ?_
    refine fv_aload_n C 0 rfl rfl dX11_turn_152 ?_
    replace h := fo_s h
    obtain ⟨a23, ea23, ka23, h⟩ := h
    refine fv_getI C fl_RX11_117 ea23 ka23 dX11_turn_153 ?_
    refine fv_imul C dX11_turn_156 ?_
    refine fv_istore (i := 5) (lv' := [(5, .int (60 * (M.1 a23 9))), (0, va_rf (some t)), (1, .int v1), (2, .int v2), (3, .int v3), (4, .int v4)]) C (by decide) (by first | rfl | simp [va_rf_cat]) dX11_turn_157 ?_
    refine fv_iconst (v := 0) C (by decide) dX11_turn_159 ?_
    refine fv_istore (i := 6) (lv' := [(6, .int 0), (5, .int (60 * (M.1 a23 9))), (0, va_rf (some t)), (1, .int v1), (2, .int v2), (3, .int v3), (4, .int v4)]) C (by decide) (by first | rfl | simp [va_rf_cat]) dX11_turn_160 ?_
    refine fv_sub (cc := ⟨#[]⟩) (own := "") [2, 3, 4, 5, 6, 1, 0] rfl ?_
    exact r_X11_turn_L162 C E  4096 _ _ _ _ _ _ _ _ h
  · replace h := itF c24 h
    refine fv_iconst (v := -1) C (by decide) dX11_turn_148 ?_
    cases h
    exact fv_iret (z := (0, 0, 0)) (st := []) C E dX11_turn_149
set_option maxRecDepth 10000 in
theorem r_X11_turn_J132 {X : fh_X} {K : fh_K} {sz : Nat} {M' : fh_M} {r : Int32} (C : fh_C X 8 cX11_turn RX11) (E : fh_E X rm_X11_turn (some .int) (some (.int r)) K M' sz) {rec98 : Nat → Int32 → Int32 → Int32 → Int32 → Int32 → fh_M → Option (Int32 × fh_M)} (hrec98 : ∀ (t : Nat) (v1 : Int32) (v2 : Int32) (v3 : Int32) (v4 : Int32) (v5 : Int32) (M : fh_M), rec98 t v1 v2 v3 v4 v5 M = some (r, M') → fh_V X rm_X11_turn 8 (sz, 0, 0) K M 98 [(0, va_rf (some t)), (1, .int v1), (2, .int v2), (3, .int v3), (4, .int v4), (5, .int v5)] []) (t : Nat) (v1 : Int32) (v2 : Int32) (v3 : Int32) (v5 : Int32) (s0 : Int32) (s1 : Int32) (M : fh_M) (h : f_X11_turn_J132 K rec98 t v1 v2 v3 v5 s0 s1 M = some (r, M')) : fh_V X rm_X11_turn 8 (sz, 0, 0) K M 132 [(0, va_rf (some t)), (1, .int v1), (2, .int v2), (3, .int v3), (5, .int v5)] [.int s0, .int s1] := by
  unfold f_X11_turn_J132 at h
  refine fv_iadd C dX11_turn_132 ?_
  refine fv_istore (i := 4) (lv' := [(4, .int (s1 + s0)), (0, va_rf (some t)), (1, .int v1), (2, .int v2), (3, .int v3), (5, .int v5)]) C (by decide) (by first | rfl | simp [va_rf_cat]) dX11_turn_133 ?_
  refine fv_iinc (v := v5 + 1) (lv' := [(5, .int (v5 + 1)), (4, .int (s1 + s0)), (0, va_rf (some t)), (1, .int v1), (2, .int v2), (3, .int v3)]) C 5 rfl (by first | rfl | exact congrArg _ (by decide)) (by decide) (by first | rfl | simp [va_rf_cat]) dX11_turn_135 ?_
  refine fv_goto C 98 (by decide) dX11_turn_138 ?_
  refine fv_sub (cc := ⟨#[]⟩) (own := "") [2, 3, 4, 5, 1, 0] rfl ?_
  exact hrec98 _ _ _ _ _ _ _ h
set_option maxRecDepth 10000 in
theorem r_X11_turn_L98 {X : fh_X} {K : fh_K} {sz : Nat} {M' : fh_M} {r : Int32} (C : fh_C X 8 cX11_turn RX11) (E : fh_E X rm_X11_turn (some .int) (some (.int r)) K M' sz) : ∀ (n : Nat) (t : Nat) (v1 : Int32) (v2 : Int32) (v3 : Int32) (v4 : Int32) (v5 : Int32) (M : fh_M), f_X11_turn_L98 K n t v1 v2 v3 v4 v5 M = some (r, M') → fh_V X rm_X11_turn 8 (sz, 0, 0) K M 98 [(0, va_rf (some t)), (1, .int v1), (2, .int v2), (3, .int v3), (4, .int v4), (5, .int v5)] [] := by
  intro n
  induction n with
  | zero => intro t v1 v2 v3 v4 v5 M h; cases h
  | succ n ih =>
    intro t v1 v2 v3 v4 v5 M h
    unfold f_X11_turn_L98 at h
    refine fv_iload C 5 rfl dX11_turn_98 ?_
    refine fv_aload_n C 0 rfl rfl dX11_turn_100 ?_
    replace h := fo_s h
    obtain ⟨a18, ea18, ka18, h⟩ := h
    refine fv_getI C fl_RX11_139 ea18 ka18 dX11_turn_101 ?_
    refine fv_icmp_ge C 141 (by decide) dX11_turn_104 (fun c22 => ?_) (fun c22 => ?_)
    · replace h := itT c22 h
      refine fv_sub (cc := ⟨#[]⟩) (own := "") [0, 1, 2, 3, 4] rfl ?_
      exact r_X11_turn_J141 C E  _ _ _ _ _ _ h
    · replace h := itF c22 h
      refine fv_iload C 4 rfl dX11_turn_107 ?_
      refine fv_aload_n C 0 rfl rfl dX11_turn_109 ?_
      refine fv_iload C 5 rfl dX11_turn_110 ?_
      refine fv_iload_n C 2 rfl rfl dX11_turn_112 ?_
      replace h := bx h
      obtain ⟨r19, er19, h⟩ := h
      refine fv_callV [.int v5, .int v2] C mi_X11_goes ms_X11_goes lk_RX11_160 ea18 ka18 (r_X11_goes _ _ _ er19) ⟨Nat.le_of_ble_eq_true rfl, Nat.le_of_ble_eq_true rfl⟩ ⟨Nat.le_of_ble_eq_true rfl, Nat.le_of_ble_eq_true rfl⟩ rfl rfl (by simp [va_rf_cat, cat_i, cat_l]) dX11_turn_113 ?_
      show fh_V X rm_X11_turn 8 (sz, 0, 0) K M _ _ [.int r19, .int v4]
      refine fv_if_eq C 131 (by decide) dX11_turn_116 (fun c21 => ?_) (fun c21 => ?_)
      · replace h := itT c21 h
        refine fv_iconst (v := 0) C (by decide) dX11_turn_131 ?_
        refine fv_sub (cc := ⟨#[]⟩) (own := "") [0, 1, 2, 3, 5] rfl ?_
        exact r_X11_turn_J132 C E ih _ _ _ _ _ _ _ _ h
      · replace h := itF c21 h
        refine fv_iconst (v := 2) C (by decide) dX11_turn_119 ?_
        refine fv_aload_n C 0 rfl rfl dX11_turn_120 ?_
        refine fv_getR C fl_RX11_75 ea18 ka18 dX11_turn_121 ?_
        refine fv_iload C 5 rfl dX11_turn_124 ?_
        replace h := fi_s h
        obtain ⟨a20, ea20, ka20, ia20, h⟩ := h
        refine fv_iald C ea20 ka20 ia20 dX11_turn_126 ?_
        refine fv_iadd C dX11_turn_127 ?_
        refine fv_goto C 132 (by decide) dX11_turn_128 ?_
        refine fv_sub (cc := ⟨#[]⟩) (own := "") [0, 1, 2, 3, 5] rfl ?_
        exact r_X11_turn_J132 C E ih _ _ _ _ _ _ _ _ h
set_option maxRecDepth 10000 in
theorem r_X11_turn_J92 {X : fh_X} {K : fh_K} {sz : Nat} {M' : fh_M} {r : Int32} (C : fh_C X 8 cX11_turn RX11) (E : fh_E X rm_X11_turn (some .int) (some (.int r)) K M' sz) (t : Nat) (v1 : Int32) (v2 : Int32) (v3 : Int32) (s0 : Int32) (s1 : Int32) (M : fh_M) (h : f_X11_turn_J92 K t v1 v2 v3 s0 s1 M = some (r, M')) : fh_V X rm_X11_turn 8 (sz, 0, 0) K M 92 [(0, va_rf (some t)), (1, .int v1), (2, .int v2), (3, .int v3)] [.int s0, .int s1] := by
  unfold f_X11_turn_J92 at h
  refine fv_iadd C dX11_turn_92 ?_
  refine fv_istore (i := 4) (lv' := [(4, .int (s1 + s0)), (0, va_rf (some t)), (1, .int v1), (2, .int v2), (3, .int v3)]) C (by decide) (by first | rfl | simp [va_rf_cat]) dX11_turn_93 ?_
  refine fv_iconst (v := 0) C (by decide) dX11_turn_95 ?_
  refine fv_istore (i := 5) (lv' := [(5, .int 0), (4, .int (s1 + s0)), (0, va_rf (some t)), (1, .int v1), (2, .int v2), (3, .int v3)]) C (by decide) (by first | rfl | simp [va_rf_cat]) dX11_turn_96 ?_
  refine fv_sub (cc := ⟨#[]⟩) (own := "") [2, 3, 4, 5, 1, 0] rfl ?_
  exact r_X11_turn_L98 C E  4096 _ _ _ _ _ _ _ h
set_option maxRecDepth 10000 in
theorem r_X11_turn (l : Launch) (D : fh_D) (A : Nat → Prop) {K : fh_K} {sz : Nat} {M : fh_M} {M' : fh_M} {r : Int32} {t : Nat} {p1 : Int32} {p2 : Int32} (h : f_X11_turn K M t p1 p2 = some (r, M')) : fh_Met l yX11_turn cX11_turn 8 (some .int) rm_X11_turn D K M sz A [va_rf (some t), .int p1, .int p2] (some (.int r)) K M' sz := by
  refine fh_enter (by decide) (by simp [lg_sl, va_rf_cat, cat_i, cat_l]) (lv := [(0, va_rf (some t)), (1, .int p1), (2, .int p2)]) (by simp [lv_args, va_rf_cat, cat_i, cat_l]) ?_
  intro X C E hnm _ _ _
  replace C : fh_C X 8 cX11_turn RX11 := C
  unfold f_X11_turn at h
  refine fv_aload_n C 0 rfl rfl dX11_turn_0 ?_
  refine fv_iload_n C 1 rfl rfl dX11_turn_1 ?_
  replace h := fo_s h
  obtain ⟨a1, ea1, ka1, h⟩ := h
  replace h := bx h
  obtain ⟨r2, er2, h⟩ := h
  refine fv_callV [.int p1] C mi_X11_isFile ms_X11_isFile lk_RX11_120 ea1 ka1 (r_X11_isFile _ _ _ er2) ⟨Nat.le_of_ble_eq_true rfl, Nat.le_of_ble_eq_true rfl⟩ ⟨Nat.le_of_ble_eq_true rfl, Nat.le_of_ble_eq_true rfl⟩ rfl rfl (by simp [va_rf_cat, cat_i, cat_l]) dX11_turn_2 ?_
  show fh_V X rm_X11_turn 8 (sz, 0, 0) K M _ _ [.int r2]
  refine fv_if_eq C 63 (by decide) dX11_turn_5 (fun c17 => ?_) (fun c17 => ?_)
  · replace h := itT c17 h
    refine fv_iconst (v := -1) C (by decide) dX11_turn_63 ?_
    cases h
    exact fv_iret (z := (0, 0, 0)) (st := []) C E dX11_turn_64
  · replace h := itF c17 h
    refine fv_iload_n C 2 rfl rfl dX11_turn_8 ?_
    refine fv_iconst (v := 0) C (by decide) dX11_turn_9 ?_
    refine fv_aload_n C 0 rfl rfl dX11_turn_10 ?_
    refine fv_getI C fl_RX11_133 ea1 ka1 dX11_turn_11 ?_
    refine fv_iconst (v := 1) C (by decide) dX11_turn_14 ?_
    refine fv_isub C dX11_turn_15 ?_
    replace h := bx h
    obtain ⟨r3, er3, h⟩ := h
    refine fv_callS [.int p2, .int 0, .int ((M.1 a1 19) - 1)] C mi_X11_lies lk_RX11_110 (r_X11_lies _ _ _ er3) ⟨Nat.le_of_ble_eq_true rfl, Nat.le_of_ble_eq_true rfl⟩ ⟨Nat.le_of_ble_eq_true rfl, Nat.le_of_ble_eq_true rfl⟩ rfl rfl (by simp [va_rf_cat, cat_i, cat_l]) dX11_turn_16 ?_
    show fh_V X rm_X11_turn 8 (sz, 0, 0) K M _ _ [.int r3]
    refine fv_if_eq C 63 (by decide) dX11_turn_19 (fun c16 => ?_) (fun c16 => ?_)
    · replace h := itT c16 h
      refine fv_iconst (v := -1) C (by decide) dX11_turn_63 ?_
      cases h
      exact fv_iret (z := (0, 0, 0)) (st := []) C E dX11_turn_64
    · replace h := itF c16 h
      refine fv_aload_n C 0 rfl rfl dX11_turn_22 ?_
      refine fv_iload_n C 1 rfl rfl dX11_turn_23 ?_
      replace h := fc2_s h
      obtain ⟨r4, M5, er4, h⟩ := h
      refine fv_callV [.int p1] C mi_X11_knows ms_X11_knows lk_RX11_156 ea1 ka1 (r_X11_knows _ _ _ er4) ⟨Nat.le_of_ble_eq_true rfl, Nat.le_of_ble_eq_true rfl⟩ ⟨Nat.le_of_ble_eq_true rfl, Nat.le_of_ble_eq_true rfl⟩ rfl rfl (by simp [va_rf_cat, cat_i, cat_l]) dX11_turn_24 ?_
      show fh_V X rm_X11_turn 8 (sz, 0, 0) K M5 _ _ [.int r4]
      refine fv_aload_n C 0 rfl rfl dX11_turn_27 ?_
      refine fv_getR C fl_RX11_54 ea1 ka1 dX11_turn_28 ?_
      refine fv_iload_n C 2 rfl rfl dX11_turn_31 ?_
      replace h := fi_s h
      obtain ⟨a6, ea6, ka6, ia6, h⟩ := h
      refine fv_iald C ea6 ka6 ia6 dX11_turn_32 ?_
      refine fv_icmp_ne C 63 (by decide) dX11_turn_33 (fun c15 => ?_) (fun c15 => ?_)
      · replace h := itF c15 h
        refine fv_iconst (v := -1) C (by decide) dX11_turn_63 ?_
        cases h
        exact fv_iret (z := (0, 0, 0)) (st := []) C E dX11_turn_64
      · replace h := itT c15 h
        refine fv_aload_n C 0 rfl rfl dX11_turn_36 ?_
        refine fv_getR C fl_RX11_42 ea1 ka1 dX11_turn_37 ?_
        refine fv_aload_n C 0 rfl rfl dX11_turn_40 ?_
        refine fv_getR C fl_RX11_66 ea1 ka1 dX11_turn_41 ?_
        refine fv_iload_n C 2 rfl rfl dX11_turn_44 ?_
        replace h := fi_s h
        obtain ⟨a7, ea7, ka7, ia7, h⟩ := h
        refine fv_iald C ea7 ka7 ia7 dX11_turn_45 ?_
        replace h := fi_s h
        obtain ⟨a8, ea8, ka8, ia8, h⟩ := h
        refine fv_iald C ea8 ka8 ia8 dX11_turn_46 ?_
        refine fv_aload_n C 0 rfl rfl dX11_turn_47 ?_
        refine fv_getI C fl_RX11_136 ea1 ka1 dX11_turn_48 ?_
        refine fv_icmp_lt C 63 (by decide) dX11_turn_51 (fun c14 => ?_) (fun c14 => ?_)
        · replace h := itT c14 h
          refine fv_iconst (v := -1) C (by decide) dX11_turn_63 ?_
          cases h
          exact fv_iret (z := (0, 0, 0)) (st := []) C E dX11_turn_64
        · replace h := itF c14 h
          refine fv_aload_n C 0 rfl rfl dX11_turn_54 ?_
          refine fv_getI C fl_RX11_117 ea1 ka1 dX11_turn_55 ?_
          refine fv_bipush (v := 40) C (by decide) dX11_turn_58 ?_
          refine fv_icmp_ne C 65 (by decide) dX11_turn_60 (fun c13 => ?_) (fun c13 => ?_)
          · replace h := itF c13 h
            refine fv_aload_n C 0 rfl rfl dX11_turn_65 ?_
            refine fv_getR C fl_RX11_57 ea1 ka1 dX11_turn_66 ?_
            refine fv_iload_n C 2 rfl rfl dX11_turn_69 ?_
            replace h := fi_s h
            obtain ⟨a9, ea9, ka9, ia9, h⟩ := h
            refine fv_iald C ea9 ka9 ia9 dX11_turn_70 ?_
            refine fv_istore_n (i := 3) (lv' := [(3, .int (M5.1 a9 p2.toNatClampNeg)), (0, va_rf (some t)), (1, .int p1), (2, .int p2)]) C rfl (by decide) (by first | rfl | simp [va_rf_cat]) dX11_turn_71 ?_
            refine fv_aload_n C 1 rfl rfl dX11_turn_72 ?_
            refine fv_getR C fl_RX11_17 ea1 ka1 dX11_turn_73 ?_
            refine fv_iload_n C 0 rfl rfl dX11_turn_76 ?_
            replace h := fi_s h
            obtain ⟨a10, ea10, ka10, ia10, h⟩ := h
            refine fv_iald C ea10 ka10 ia10 dX11_turn_77 ?_
            refine fv_aload_n C 1 rfl rfl dX11_turn_78 ?_
            refine fv_getR C fl_RX11_23 ea1 ka1 dX11_turn_79 ?_
            refine fv_iload_n C 0 rfl rfl dX11_turn_82 ?_
            replace h := fi_s h
            obtain ⟨a11, ea11, ka11, ia11, h⟩ := h
            refine fv_zald C ea11 ka11 ia11 dX11_turn_83 ?_
            refine fv_if_eq C 91 (by decide) dX11_turn_84 (fun c12 => ?_) (fun c12 => ?_)
            · replace h := itT c12 h
              refine fv_iconst (v := 0) C (by decide) dX11_turn_91 ?_
              refine fv_sub (cc := ⟨#[]⟩) (own := "") [1, 2, 3, 0] rfl ?_
              exact r_X11_turn_J92 C E  _ _ _ _ _ _ _ h
            · replace h := itF c12 h
              refine fv_iconst (v := 1) C (by decide) dX11_turn_87 ?_
              refine fv_goto C 92 (by decide) dX11_turn_88 ?_
              refine fv_sub (cc := ⟨#[]⟩) (own := "") [1, 2, 3, 0] rfl ?_
              exact r_X11_turn_J92 C E  _ _ _ _ _ _ _ h
          · replace h := itT c13 h
            refine fv_iconst (v := -1) C (by decide) dX11_turn_63 ?_
            cases h
            exact fv_iret (z := (0, 0, 0)) (st := []) C E dX11_turn_64
abbrev rm_X11_areAlike : Room := { frames := 1, cells := 0, slots := 0, locals := 22 }
set_option maxRecDepth 10000 in
theorem r_X11_areAlike_L21 {X : fh_X} {K : fh_K} {sz : Nat} {M : fh_M} {r : Int32} (C : fh_C X 6 cX11_areAlike RX11) (E : fh_E X rm_X11_areAlike (some .boolean) (some (.int r)) K M sz) : ∀ (n : Nat) (t : Nat) (v1 : Int32) (v2 : Int32) (v3 : Int32) (v4 : Int32) (v5 : Int32), f_X11_areAlike_L21 K M n t v1 v2 v3 v4 v5 = some r → fh_V X rm_X11_areAlike 6 (sz, 0, 0) K M 21 [(0, va_rf (some t)), (1, .int v1), (2, .int v2), (3, .int v3), (4, .int v4), (5, .int v5)] [] := by
  intro n
  induction n with
  | zero => intro t v1 v2 v3 v4 v5 h; cases h
  | succ n ih =>
    intro t v1 v2 v3 v4 v5 h
    unfold f_X11_areAlike_L21 at h
    refine fv_iload C 5 rfl dX11_areAlike_21 ?_
    refine fv_aload_n C 0 rfl rfl dX11_areAlike_23 ?_
    replace h := fo_s h
    obtain ⟨a5, ea5, ka5, h⟩ := h
    refine fv_getR C fl_RX11_75 ea5 ka5 dX11_areAlike_24 ?_
    refine fv_iload C 4 rfl dX11_areAlike_27 ?_
    replace h := fi_s h
    obtain ⟨a6, ea6, ka6, ia6, h⟩ := h
    refine fv_iald C ea6 ka6 ia6 dX11_areAlike_29 ?_
    refine fv_icmp_ge C 73 (by decide) dX11_areAlike_30 (fun c12 => ?_) (fun c12 => ?_)
    · replace h := itT c12 h
      refine fv_iconst (v := 1) C (by decide) dX11_areAlike_73 ?_
      cases h
      exact fv_zret (z := (0, 0, 0)) (st := []) C E (Or.inr rfl) dX11_areAlike_74
    · replace h := itF c12 h
      refine fv_aload_n C 0 rfl rfl dX11_areAlike_33 ?_
      refine fv_iload_n C 1 rfl rfl dX11_areAlike_34 ?_
      refine fv_aload_n C 0 rfl rfl dX11_areAlike_35 ?_
      refine fv_getR C fl_RX11_81 ea5 ka5 dX11_areAlike_36 ?_
      refine fv_iload_n C 2 rfl rfl dX11_areAlike_39 ?_
      replace h := fi_s h
      obtain ⟨a7, ea7, ka7, ia7, h⟩ := h
      refine fv_iald C ea7 ka7 ia7 dX11_areAlike_40 ?_
      refine fv_iload C 5 rfl dX11_areAlike_41 ?_
      refine fv_iadd C dX11_areAlike_43 ?_
      replace h := bx h
      obtain ⟨r8, er8, h⟩ := h
      refine fv_callV [.int v1, .int ((M.1 a7 v2.toNatClampNeg) + v5)] C mi_X11_byteAt ms_X11_byteAt lk_RX11_145 ea5 ka5 (r_X11_byteAt _ _ _ er8) ⟨Nat.le_of_ble_eq_true rfl, Nat.le_of_ble_eq_true rfl⟩ ⟨Nat.le_of_ble_eq_true rfl, Nat.le_of_ble_eq_true rfl⟩ rfl rfl (by simp [va_rf_cat, cat_i, cat_l]) dX11_areAlike_44 ?_
      show fh_V X rm_X11_areAlike 6 (sz, 0, 0) K M _ _ [.int r8]
      refine fv_aload_n C 0 rfl rfl dX11_areAlike_47 ?_
      refine fv_iload_n C 3 rfl rfl dX11_areAlike_48 ?_
      refine fv_aload_n C 0 rfl rfl dX11_areAlike_49 ?_
      refine fv_getR C fl_RX11_72 ea5 ka5 dX11_areAlike_50 ?_
      refine fv_iload C 4 rfl dX11_areAlike_53 ?_
      replace h := fi_s h
      obtain ⟨a9, ea9, ka9, ia9, h⟩ := h
      refine fv_iald C ea9 ka9 ia9 dX11_areAlike_55 ?_
      refine fv_iload C 5 rfl dX11_areAlike_56 ?_
      refine fv_iadd C dX11_areAlike_58 ?_
      replace h := bx h
      obtain ⟨r10, er10, h⟩ := h
      refine fv_callV [.int v3, .int ((M.1 a9 v4.toNatClampNeg) + v5)] C mi_X11_byteAt ms_X11_byteAt lk_RX11_145 ea5 ka5 (r_X11_byteAt _ _ _ er10) ⟨Nat.le_of_ble_eq_true rfl, Nat.le_of_ble_eq_true rfl⟩ ⟨Nat.le_of_ble_eq_true rfl, Nat.le_of_ble_eq_true rfl⟩ rfl rfl (by simp [va_rf_cat, cat_i, cat_l]) dX11_areAlike_59 ?_
      show fh_V X rm_X11_areAlike 6 (sz, 0, 0) K M _ _ [.int r10, .int r8]
      refine fv_icmp_eq C 67 (by decide) dX11_areAlike_62 (fun c11 => ?_) (fun c11 => ?_)
      · replace h := itT c11 h
        refine fv_iinc (v := v5 + 1) (lv' := [(5, .int (v5 + 1)), (0, va_rf (some t)), (1, .int v1), (2, .int v2), (3, .int v3), (4, .int v4)]) C 5 rfl (by first | rfl | exact congrArg _ (by decide)) (by decide) (by first | rfl | simp [va_rf_cat]) dX11_areAlike_67 ?_
        refine fv_goto C 21 (by decide) dX11_areAlike_70 ?_
        refine fv_sub (cc := ⟨#[]⟩) (own := "") [1, 2, 3, 4, 5, 0] rfl ?_
        exact ih _ _ _ _ _ _ h
      · replace h := itF c11 h
        refine fv_iconst (v := 0) C (by decide) dX11_areAlike_65 ?_
        cases h
        exact fv_zret (z := (0, 0, 0)) (st := []) C E (Or.inl rfl) dX11_areAlike_66
set_option maxRecDepth 10000 in
theorem r_X11_areAlike (l : Launch) (D : fh_D) (A : Nat → Prop) {K : fh_K} {sz : Nat} {M : fh_M} {r : Int32} {t : Nat} {p1 : Int32} {p2 : Int32} {p3 : Int32} {p4 : Int32} (h : f_X11_areAlike K M t p1 p2 p3 p4 = some r) : fh_Met l yX11_areAlike cX11_areAlike 6 (some .boolean) rm_X11_areAlike D K M sz A [va_rf (some t), .int p1, .int p2, .int p3, .int p4] (some (.int r)) K M sz := by
  refine fh_enter (by decide) (by simp [lg_sl, va_rf_cat, cat_i, cat_l]) (lv := [(0, va_rf (some t)), (1, .int p1), (2, .int p2), (3, .int p3), (4, .int p4)]) (by simp [lv_args, va_rf_cat, cat_i, cat_l]) ?_
  intro X C E hnm _ _ _
  replace C : fh_C X 6 cX11_areAlike RX11 := C
  unfold f_X11_areAlike at h
  refine fv_aload_n C 0 rfl rfl dX11_areAlike_0 ?_
  replace h := fo_s h
  obtain ⟨a1, ea1, ka1, h⟩ := h
  refine fv_getR C fl_RX11_84 ea1 ka1 dX11_areAlike_1 ?_
  refine fv_iload_n C 2 rfl rfl dX11_areAlike_4 ?_
  replace h := fi_s h
  obtain ⟨a2, ea2, ka2, ia2, h⟩ := h
  refine fv_iald C ea2 ka2 ia2 dX11_areAlike_5 ?_
  refine fv_aload_n C 0 rfl rfl dX11_areAlike_6 ?_
  refine fv_getR C fl_RX11_75 ea1 ka1 dX11_areAlike_7 ?_
  refine fv_iload C 4 rfl dX11_areAlike_10 ?_
  replace h := fi_s h
  obtain ⟨a3, ea3, ka3, ia3, h⟩ := h
  refine fv_iald C ea3 ka3 ia3 dX11_areAlike_12 ?_
  refine fv_icmp_eq C 18 (by decide) dX11_areAlike_13 (fun c4 => ?_) (fun c4 => ?_)
  · replace h := itT c4 h
    refine fv_iconst (v := 0) C (by decide) dX11_areAlike_18 ?_
    refine fv_istore (i := 5) (lv' := [(5, .int 0), (0, va_rf (some t)), (1, .int p1), (2, .int p2), (3, .int p3), (4, .int p4)]) C (by decide) (by first | rfl | simp [va_rf_cat]) dX11_areAlike_19 ?_
    refine fv_sub (cc := ⟨#[]⟩) (own := "") [1, 2, 3, 4, 5, 0] rfl ?_
    exact r_X11_areAlike_L21 C E  4096 _ _ _ _ _ _ h
  · replace h := itF c4 h
    refine fv_iconst (v := 0) C (by decide) dX11_areAlike_16 ?_
    cases h
    exact fv_zret (z := (0, 0, 0)) (st := []) C E (Or.inl rfl) dX11_areAlike_17
abbrev rm_X11_isKept : Room := { frames := 2, cells := 0, slots := 0, locals := 47 }
set_option maxRecDepth 10000 in
theorem r_X11_isKept_J120 {X : fh_X} {K : fh_K} {sz : Nat} {M : fh_M} {r : Int32} (C : fh_C X 7 cX11_isKept RX11) (E : fh_E X rm_X11_isKept (some .boolean) (some (.int r)) K M sz) (t : Nat) (v4 : Int32) (v5 : Int32) (h : f_X11_isKept_J120 K M t v4 v5 = some r) : fh_V X rm_X11_isKept 7 (sz, 0, 0) K M 120 [(0, va_rf (some t)), (4, .int v4), (5, .int v5)] [] := by
  unfold f_X11_isKept_J120 at h
  refine fv_iload C 2 rfl dX11_isKept_120 ?_
  refine fv_if_le C 138 (by decide) dX11_isKept_122 (fun c19 => ?_) (fun c19 => ?_)
  · replace h := itT c19 h
    refine fv_iconst (v := 0) C (by decide) dX11_isKept_138 ?_
    cases h
    exact fv_zret (z := (0, 0, 0)) (st := []) C E (Or.inl rfl) dX11_isKept_139
  · replace h := itF c19 h
    refine fv_iload C 1 rfl dX11_isKept_125 ?_
    refine fv_aload_n C 0 rfl rfl dX11_isKept_127 ?_
    replace h := fo_s h
    obtain ⟨a17, ea17, ka17, h⟩ := h
    refine fv_getI C fl_RX11_139 ea17 ka17 dX11_isKept_128 ?_
    refine fv_icmp_ne C 138 (by decide) dX11_isKept_131 (fun c18 => ?_) (fun c18 => ?_)
    · replace h := itF c18 h
      refine fv_iconst (v := 0) C (by decide) dX11_isKept_138 ?_
      cases h
      exact fv_zret (z := (0, 0, 0)) (st := []) C E (Or.inl rfl) dX11_isKept_139
    · replace h := itT c18 h
      refine fv_iconst (v := 1) C (by decide) dX11_isKept_134 ?_
      refine fv_goto C 139 (by decide) dX11_isKept_135 ?_
      cases h
      exact fv_zret (z := (0, 0, 0)) (st := []) C E (Or.inr rfl) dX11_isKept_139
set_option maxRecDepth 10000 in
theorem r_X11_isKept_L94 {X : fh_X} {K : fh_K} {sz : Nat} {M : fh_M} {r : Int32} (C : fh_C X 7 cX11_isKept RX11) (E : fh_E X rm_X11_isKept (some .boolean) (some (.int r)) K M sz) : ∀ (n : Nat) (t : Nat) (v3 : Int32) (v4 : Int32) (v5 : Int32), f_X11_isKept_L94 K M n t v3 v4 v5 = some r → fh_V X rm_X11_isKept 7 (sz, 0, 0) K M 94 [(0, va_rf (some t)), (3, .int v3), (4, .int v4), (5, .int v5)] [] := by
  intro n
  induction n with
  | zero => intro t v3 v4 v5 h; cases h
  | succ n ih =>
    intro t v3 v4 v5 h
    unfold f_X11_isKept_L94 at h
    refine fv_iload C 2 rfl dX11_isKept_94 ?_
    refine fv_aload_n C 0 rfl rfl dX11_isKept_96 ?_
    replace h := fo_s h
    obtain ⟨a13, ea13, ka13, h⟩ := h
    refine fv_getI C fl_RX11_139 ea13 ka13 dX11_isKept_97 ?_
    refine fv_icmp_ge C 120 (by decide) dX11_isKept_100 (fun c16 => ?_) (fun c16 => ?_)
    · replace h := itT c16 h
      refine fv_sub (cc := ⟨#[]⟩) (own := "") [0, 2, 3] rfl ?_
      exact r_X11_isKept_J120 C E  _ _ _ h
    · replace h := itF c16 h
      refine fv_aload_n C 0 rfl rfl dX11_isKept_103 ?_
      refine fv_getR C fl_RX11_69 ea13 ka13 dX11_isKept_104 ?_
      refine fv_iload C 2 rfl dX11_isKept_107 ?_
      replace h := fi_s h
      obtain ⟨a14, ea14, ka14, ia14, h⟩ := h
      refine fv_iald C ea14 ka14 ia14 dX11_isKept_109 ?_
      refine fv_iload_n C 1 rfl rfl dX11_isKept_110 ?_
      refine fv_icmp_eq C 120 (by decide) dX11_isKept_111 (fun c15 => ?_) (fun c15 => ?_)
      · replace h := itT c15 h
        refine fv_sub (cc := ⟨#[]⟩) (own := "") [0, 2, 3] rfl ?_
        exact r_X11_isKept_J120 C E  _ _ _ h
      · replace h := itF c15 h
        refine fv_iinc (v := v4 + 1) (lv' := [(4, .int (v4 + 1)), (0, va_rf (some t)), (3, .int v3), (5, .int v5)]) C 2 rfl (by first | rfl | exact congrArg _ (by decide)) (by decide) (by first | rfl | simp [va_rf_cat]) dX11_isKept_114 ?_
        refine fv_goto C 94 (by decide) dX11_isKept_117 ?_
        refine fv_sub (cc := ⟨#[]⟩) (own := "") [1, 2, 0, 3] rfl ?_
        exact ih _ _ _ _ h
set_option maxRecDepth 10000 in
theorem r_X11_isKept_J88 {X : fh_X} {K : fh_K} {sz : Nat} {M : fh_M} {r : Int32} (C : fh_C X 7 cX11_isKept RX11) (E : fh_E X rm_X11_isKept (some .boolean) (some (.int r)) K M sz) {rec9 : Nat → Int32 → Int32 → Int32 → Int32 → Int32 → Int32 → Option (Int32)} (hrec9 : ∀ (t : Nat) (v1 : Int32) (v2 : Int32) (v3 : Int32) (v4 : Int32) (v5 : Int32) (v6 : Int32), rec9 t v1 v2 v3 v4 v5 v6 = some r → fh_V X rm_X11_isKept 7 (sz, 0, 0) K M 9 [(0, va_rf (some t)), (1, .int v1), (2, .int v2), (3, .int v3), (4, .int v4), (5, .int v5), (6, .int v6)] []) (t : Nat) (v1 : Int32) (v2 : Int32) (v3 : Int32) (v4 : Int32) (v5 : Int32) (v6 : Int32) (h : f_X11_isKept_J88 K M rec9 t v1 v2 v3 v4 v5 v6 = some r) : fh_V X rm_X11_isKept 7 (sz, 0, 0) K M 88 [(0, va_rf (some t)), (1, .int v1), (2, .int v2), (3, .int v3), (4, .int v4), (5, .int v5), (6, .int v6)] [] := by
  unfold f_X11_isKept_J88 at h
  refine fv_iinc (v := v6 + 1) (lv' := [(6, .int (v6 + 1)), (0, va_rf (some t)), (1, .int v1), (2, .int v2), (3, .int v3), (4, .int v4), (5, .int v5)]) C 6 rfl (by first | rfl | exact congrArg _ (by decide)) (by decide) (by first | rfl | simp [va_rf_cat]) dX11_isKept_88 ?_
  refine fv_goto C 9 (by decide) dX11_isKept_91 ?_
  refine fv_sub (cc := ⟨#[]⟩) (own := "") [1, 2, 3, 4, 5, 6, 0] rfl ?_
  exact hrec9 _ _ _ _ _ _ _ h
set_option maxRecDepth 10000 in
theorem r_X11_isKept_J58 {X : fh_X} {K : fh_K} {sz : Nat} {M : fh_M} {r : Int32} (C : fh_C X 7 cX11_isKept RX11) (E : fh_E X rm_X11_isKept (some .boolean) (some (.int r)) K M sz) {rec9 : Nat → Int32 → Int32 → Int32 → Int32 → Int32 → Int32 → Option (Int32)} (hrec9 : ∀ (t : Nat) (v1 : Int32) (v2 : Int32) (v3 : Int32) (v4 : Int32) (v5 : Int32) (v6 : Int32), rec9 t v1 v2 v3 v4 v5 v6 = some r → fh_V X rm_X11_isKept 7 (sz, 0, 0) K M 9 [(0, va_rf (some t)), (1, .int v1), (2, .int v2), (3, .int v3), (4, .int v4), (5, .int v5), (6, .int v6)] []) (t : Nat) (v1 : Int32) (v2 : Int32) (v3 : Int32) (v4 : Int32) (v5 : Int32) (v6 : Int32) (h : f_X11_isKept_J58 K M rec9 t v1 v2 v3 v4 v5 v6 = some r) : fh_V X rm_X11_isKept 7 (sz, 0, 0) K M 58 [(0, va_rf (some t)), (1, .int v1), (2, .int v2), (3, .int v3), (4, .int v4), (5, .int v5), (6, .int v6)] [] := by
  unfold f_X11_isKept_J58 at h
  refine fv_iload C 4 rfl dX11_isKept_58 ?_
  refine fv_aload_n C 0 rfl rfl dX11_isKept_60 ?_
  replace h := fo_s h
  obtain ⟨a9, ea9, ka9, h⟩ := h
  refine fv_getI C fl_RX11_139 ea9 ka9 dX11_isKept_61 ?_
  refine fv_icmp_eq C 80 (by decide) dX11_isKept_64 (fun c12 => ?_) (fun c12 => ?_)
  · replace h := itT c12 h
    refine fv_iconst (v := 0) C (by decide) dX11_isKept_80 ?_
    cases h
    exact fv_zret (z := (0, 0, 0)) (st := []) C E (Or.inl rfl) dX11_isKept_81
  · replace h := itF c12 h
    refine fv_aload_n C 0 rfl rfl dX11_isKept_67 ?_
    refine fv_iload_n C 1 rfl rfl dX11_isKept_68 ?_
    refine fv_iload C 6 rfl dX11_isKept_69 ?_
    refine fv_iload_n C 2 rfl rfl dX11_isKept_71 ?_
    refine fv_iload C 4 rfl dX11_isKept_72 ?_
    replace h := bx h
    obtain ⟨r10, er10, h⟩ := h
    refine fv_callV [.int v1, .int v6, .int v2, .int v4] C mi_X11_areAlike ms_X11_areAlike lk_RX11_166 ea9 ka9 (r_X11_areAlike _ _ _ er10) ⟨Nat.le_of_ble_eq_true rfl, Nat.le_of_ble_eq_true rfl⟩ ⟨Nat.le_of_ble_eq_true rfl, Nat.le_of_ble_eq_true rfl⟩ rfl rfl (by simp [va_rf_cat, cat_i, cat_l]) dX11_isKept_74 ?_
    show fh_V X rm_X11_isKept 7 (sz, 0, 0) K M _ _ [.int r10]
    refine fv_if_ne C 82 (by decide) dX11_isKept_77 (fun c11 => ?_) (fun c11 => ?_)
    · replace h := itF c11 h
      refine fv_iinc (v := v4 + 1) (lv' := [(4, .int (v4 + 1)), (0, va_rf (some t)), (1, .int v1), (2, .int v2), (3, .int v3), (5, .int v5), (6, .int v6)]) C 4 rfl (by first | rfl | exact congrArg _ (by decide)) (by decide) (by first | rfl | simp [va_rf_cat]) dX11_isKept_82 ?_
      refine fv_iinc (v := v5 + 1) (lv' := [(5, .int (v5 + 1)), (4, .int (v4 + 1)), (0, va_rf (some t)), (1, .int v1), (2, .int v2), (3, .int v3), (6, .int v6)]) C 5 rfl (by first | rfl | exact congrArg _ (by decide)) (by decide) (by first | rfl | simp [va_rf_cat]) dX11_isKept_85 ?_
      refine fv_sub (cc := ⟨#[]⟩) (own := "") [2, 3, 4, 5, 1, 0, 6] rfl ?_
      exact r_X11_isKept_J88 C E hrec9 _ _ _ _ _ _ _ h
    · replace h := itT c11 h
      refine fv_iconst (v := 0) C (by decide) dX11_isKept_80 ?_
      cases h
      exact fv_zret (z := (0, 0, 0)) (st := []) C E (Or.inl rfl) dX11_isKept_81
set_option maxRecDepth 10000 in
theorem r_X11_isKept_L32 {X : fh_X} {K : fh_K} {sz : Nat} {M : fh_M} {r : Int32} (C : fh_C X 7 cX11_isKept RX11) (E : fh_E X rm_X11_isKept (some .boolean) (some (.int r)) K M sz) {rec9 : Nat → Int32 → Int32 → Int32 → Int32 → Int32 → Int32 → Option (Int32)} (hrec9 : ∀ (t : Nat) (v1 : Int32) (v2 : Int32) (v3 : Int32) (v4 : Int32) (v5 : Int32) (v6 : Int32), rec9 t v1 v2 v3 v4 v5 v6 = some r → fh_V X rm_X11_isKept 7 (sz, 0, 0) K M 9 [(0, va_rf (some t)), (1, .int v1), (2, .int v2), (3, .int v3), (4, .int v4), (5, .int v5), (6, .int v6)] []) : ∀ (n : Nat) (t : Nat) (v1 : Int32) (v2 : Int32) (v3 : Int32) (v4 : Int32) (v5 : Int32) (v6 : Int32), f_X11_isKept_L32 K M rec9 n t v1 v2 v3 v4 v5 v6 = some r → fh_V X rm_X11_isKept 7 (sz, 0, 0) K M 32 [(0, va_rf (some t)), (1, .int v1), (2, .int v2), (3, .int v3), (4, .int v4), (5, .int v5), (6, .int v6)] [] := by
  intro n
  induction n with
  | zero => intro t v1 v2 v3 v4 v5 v6 h; cases h
  | succ n ih =>
    intro t v1 v2 v3 v4 v5 v6 h
    unfold f_X11_isKept_L32 at h
    refine fv_iload C 4 rfl dX11_isKept_32 ?_
    refine fv_aload_n C 0 rfl rfl dX11_isKept_34 ?_
    replace h := fo_s h
    obtain ⟨a5, ea5, ka5, h⟩ := h
    refine fv_getI C fl_RX11_139 ea5 ka5 dX11_isKept_35 ?_
    refine fv_icmp_ge C 58 (by decide) dX11_isKept_38 (fun c8 => ?_) (fun c8 => ?_)
    · replace h := itT c8 h
      refine fv_sub (cc := ⟨#[]⟩) (own := "") [0, 1, 2, 3, 4, 5, 6] rfl ?_
      exact r_X11_isKept_J58 C E hrec9 _ _ _ _ _ _ _ h
    · replace h := itF c8 h
      refine fv_aload_n C 0 rfl rfl dX11_isKept_41 ?_
      refine fv_getR C fl_RX11_69 ea5 ka5 dX11_isKept_42 ?_
      refine fv_iload C 4 rfl dX11_isKept_45 ?_
      replace h := fi_s h
      obtain ⟨a6, ea6, ka6, ia6, h⟩ := h
      refine fv_iald C ea6 ka6 ia6 dX11_isKept_47 ?_
      refine fv_iload_n C 3 rfl rfl dX11_isKept_48 ?_
      refine fv_icmp_eq C 58 (by decide) dX11_isKept_49 (fun c7 => ?_) (fun c7 => ?_)
      · replace h := itT c7 h
        refine fv_sub (cc := ⟨#[]⟩) (own := "") [0, 1, 2, 3, 4, 5, 6] rfl ?_
        exact r_X11_isKept_J58 C E hrec9 _ _ _ _ _ _ _ h
      · replace h := itF c7 h
        refine fv_iinc (v := v4 + 1) (lv' := [(4, .int (v4 + 1)), (0, va_rf (some t)), (1, .int v1), (2, .int v2), (3, .int v3), (5, .int v5), (6, .int v6)]) C 4 rfl (by first | rfl | exact congrArg _ (by decide)) (by decide) (by first | rfl | simp [va_rf_cat]) dX11_isKept_52 ?_
        refine fv_goto C 32 (by decide) dX11_isKept_55 ?_
        refine fv_sub (cc := ⟨#[]⟩) (own := "") [1, 2, 3, 4, 0, 5, 6] rfl ?_
        exact ih _ _ _ _ _ _ _ h
set_option maxRecDepth 10000 in
theorem r_X11_isKept_L9 {X : fh_X} {K : fh_K} {sz : Nat} {M : fh_M} {r : Int32} (C : fh_C X 7 cX11_isKept RX11) (E : fh_E X rm_X11_isKept (some .boolean) (some (.int r)) K M sz) : ∀ (n : Nat) (t : Nat) (v1 : Int32) (v2 : Int32) (v3 : Int32) (v4 : Int32) (v5 : Int32) (v6 : Int32), f_X11_isKept_L9 K M n t v1 v2 v3 v4 v5 v6 = some r → fh_V X rm_X11_isKept 7 (sz, 0, 0) K M 9 [(0, va_rf (some t)), (1, .int v1), (2, .int v2), (3, .int v3), (4, .int v4), (5, .int v5), (6, .int v6)] [] := by
  intro n
  induction n with
  | zero => intro t v1 v2 v3 v4 v5 v6 h; cases h
  | succ n ih =>
    intro t v1 v2 v3 v4 v5 v6 h
    unfold f_X11_isKept_L9 at h
    refine fv_iload C 6 rfl dX11_isKept_9 ?_
    refine fv_aload_n C 0 rfl rfl dX11_isKept_11 ?_
    replace h := fo_s h
    obtain ⟨a1, ea1, ka1, h⟩ := h
    refine fv_getI C fl_RX11_163 ea1 ka1 dX11_isKept_12 ?_
    refine fv_icmp_ge C 94 (by decide) dX11_isKept_15 (fun c4 => ?_) (fun c4 => ?_)
    · replace h := itT c4 h
      refine fv_sub (cc := ⟨#[]⟩) (own := "") [0, 3, 4, 5] rfl ?_
      exact r_X11_isKept_L94 C E  4096 _ _ _ _ h
    · replace h := itF c4 h
      refine fv_aload_n C 0 rfl rfl dX11_isKept_18 ?_
      refine fv_getR C fl_RX11_78 ea1 ka1 dX11_isKept_19 ?_
      refine fv_iload C 6 rfl dX11_isKept_22 ?_
      replace h := fi_s h
      obtain ⟨a2, ea2, ka2, ia2, h⟩ := h
      refine fv_iald C ea2 ka2 ia2 dX11_isKept_24 ?_
      refine fv_iload_n C 3 rfl rfl dX11_isKept_25 ?_
      refine fv_icmp_eq C 32 (by decide) dX11_isKept_26 (fun c3 => ?_) (fun c3 => ?_)
      · replace h := itT c3 h
        refine fv_sub (cc := ⟨#[]⟩) (own := "") [0, 1, 2, 3, 4, 5, 6] rfl ?_
        exact r_X11_isKept_L32 C E ih 4096 _ _ _ _ _ _ _ h
      · replace h := itF c3 h
        refine fv_goto C 88 (by decide) dX11_isKept_29 ?_
        refine fv_sub (cc := ⟨#[]⟩) (own := "") [0, 1, 2, 3, 4, 5, 6] rfl ?_
        exact r_X11_isKept_J88 C E ih _ _ _ _ _ _ _ h
set_option maxRecDepth 10000 in
theorem r_X11_isKept (l : Launch) (D : fh_D) (A : Nat → Prop) {K : fh_K} {sz : Nat} {M : fh_M} {r : Int32} {t : Nat} {p1 : Int32} {p2 : Int32} {p3 : Int32} (h : f_X11_isKept K M t p1 p2 p3 = some r) : fh_Met l yX11_isKept cX11_isKept 7 (some .boolean) rm_X11_isKept D K M sz A [va_rf (some t), .int p1, .int p2, .int p3] (some (.int r)) K M sz := by
  refine fh_enter (by decide) (by simp [lg_sl, va_rf_cat, cat_i, cat_l]) (lv := [(0, va_rf (some t)), (1, .int p1), (2, .int p2), (3, .int p3)]) (by simp [lv_args, va_rf_cat, cat_i, cat_l]) ?_
  intro X C E hnm _ _ _
  replace C : fh_C X 7 cX11_isKept RX11 := C
  unfold f_X11_isKept at h
  refine fv_iconst (v := 0) C (by decide) dX11_isKept_0 ?_
  refine fv_istore (i := 4) (lv' := [(4, .int 0), (0, va_rf (some t)), (1, .int p1), (2, .int p2), (3, .int p3)]) C (by decide) (by first | rfl | simp [va_rf_cat]) dX11_isKept_1 ?_
  refine fv_iconst (v := 0) C (by decide) dX11_isKept_3 ?_
  refine fv_istore (i := 5) (lv' := [(5, .int 0), (4, .int 0), (0, va_rf (some t)), (1, .int p1), (2, .int p2), (3, .int p3)]) C (by decide) (by first | rfl | simp [va_rf_cat]) dX11_isKept_4 ?_
  refine fv_iconst (v := 0) C (by decide) dX11_isKept_6 ?_
  refine fv_istore (i := 6) (lv' := [(6, .int 0), (5, .int 0), (4, .int 0), (0, va_rf (some t)), (1, .int p1), (2, .int p2), (3, .int p3)]) C (by decide) (by first | rfl | simp [va_rf_cat]) dX11_isKept_7 ?_
  refine fv_sub (cc := ⟨#[]⟩) (own := "") [3, 4, 5, 6, 2, 1, 0] rfl ?_
  exact r_X11_isKept_L9 C E  4096 _ _ _ _ _ _ _ h
abbrev rm_X11_kept : Room := { frames := 3, cells := 0, slots := 0, locals := 74 }
set_option maxRecDepth 10000 in
theorem r_X11_kept_J141 {X : fh_X} {K : fh_K} {sz : Nat} {M' : fh_M} {r : Int32} (C : fh_C X 7 cX11_kept RX11) (E : fh_E X rm_X11_kept (some .int) (some (.int r)) K M' sz) {rec114 : Nat → Int32 → Int32 → Int32 → Int32 → fh_M → Option (Int32 × fh_M)} (hrec114 : ∀ (t : Nat) (v1 : Int32) (v2 : Int32) (v5 : Int32) (v6 : Int32) (M : fh_M), rec114 t v1 v2 v5 v6 M = some (r, M') → fh_V X rm_X11_kept 7 (sz, 0, 0) K M 114 [(0, va_rf (some t)), (1, .int v1), (2, .int v2), (5, .int v5), (6, .int v6)] []) (t : Nat) (v1 : Int32) (v2 : Int32) (v5 : Int32) (v6 : Int32) (M : fh_M) (h : f_X11_kept_J141 K rec114 t v1 v2 v5 v6 M = some (r, M')) : fh_V X rm_X11_kept 7 (sz, 0, 0) K M 141 [(0, va_rf (some t)), (1, .int v1), (2, .int v2), (5, .int v5), (6, .int v6)] [] := by
  unfold f_X11_kept_J141 at h
  refine fv_iinc (v := v6 + 1) (lv' := [(6, .int (v6 + 1)), (0, va_rf (some t)), (1, .int v1), (2, .int v2), (5, .int v5)]) C 4 rfl (by first | rfl | exact congrArg _ (by decide)) (by decide) (by first | rfl | simp [va_rf_cat]) dX11_kept_141 ?_
  refine fv_goto C 114 (by decide) dX11_kept_144 ?_
  refine fv_sub (cc := ⟨#[]⟩) (own := "") [1, 2, 3, 4, 0] rfl ?_
  exact hrec114 _ _ _ _ _ _ h
set_option maxRecDepth 10000 in
theorem r_X11_kept_L114 {X : fh_X} {K : fh_K} {sz : Nat} {M' : fh_M} {r : Int32} (C : fh_C X 7 cX11_kept RX11) (E : fh_E X rm_X11_kept (some .int) (some (.int r)) K M' sz) : ∀ (n : Nat) (t : Nat) (v1 : Int32) (v2 : Int32) (v5 : Int32) (v6 : Int32) (M : fh_M), f_X11_kept_L114 K n t v1 v2 v5 v6 M = some (r, M') → fh_V X rm_X11_kept 7 (sz, 0, 0) K M 114 [(0, va_rf (some t)), (1, .int v1), (2, .int v2), (5, .int v5), (6, .int v6)] [] := by
  intro n
  induction n with
  | zero => intro t v1 v2 v5 v6 M h; cases h
  | succ n ih =>
    intro t v1 v2 v5 v6 M h
    unfold f_X11_kept_L114 at h
    refine fv_iload C 4 rfl dX11_kept_114 ?_
    refine fv_bipush (v := 12) C (by decide) dX11_kept_116 ?_
    refine fv_icmp_ge C 147 (by decide) dX11_kept_118 (fun c28 => ?_) (fun c28 => ?_)
    · replace h := itT c28 h
      refine fv_iload C 3 rfl dX11_kept_147 ?_
      cases h
      exact fv_iret (z := (0, 0, 0)) (st := []) C E dX11_kept_149
    · replace h := itF c28 h
      refine fv_aload_n C 0 rfl rfl dX11_kept_121 ?_
      refine fv_iload_n C 1 rfl rfl dX11_kept_122 ?_
      refine fv_iload_n C 2 rfl rfl dX11_kept_123 ?_
      refine fv_iload C 4 rfl dX11_kept_124 ?_
      replace h := fo_s h
      obtain ⟨a25, ea25, ka25, h⟩ := h
      replace h := bx h
      obtain ⟨r26, er26, h⟩ := h
      refine fv_callV [.int v1, .int v2, .int v6] C mi_X11_isKept ms_X11_isKept lk_RX11_170 ea25 ka25 (r_X11_isKept _ _ _ er26) ⟨Nat.le_of_ble_eq_true rfl, Nat.le_of_ble_eq_true rfl⟩ ⟨Nat.le_of_ble_eq_true rfl, Nat.le_of_ble_eq_true rfl⟩ rfl rfl (by simp [va_rf_cat, cat_i, cat_l]) dX11_kept_126 ?_
      show fh_V X rm_X11_kept 7 (sz, 0, 0) K M _ _ [.int r26]
      refine fv_if_eq C 141 (by decide) dX11_kept_129 (fun c27 => ?_) (fun c27 => ?_)
      · replace h := itT c27 h
        refine fv_sub (cc := ⟨#[]⟩) (own := "") [0, 1, 2, 3, 4] rfl ?_
        exact r_X11_kept_J141 C E ih _ _ _ _ _ _ h
      · replace h := itF c27 h
        refine fv_iload C 3 rfl dX11_kept_132 ?_
        refine fv_iconst (v := 1) C (by decide) dX11_kept_134 ?_
        refine fv_iload C 4 rfl dX11_kept_135 ?_
        refine fv_ishl C dX11_kept_137 ?_
        refine fv_ior C dX11_kept_138 ?_
        refine fv_istore (i := 5) (lv' := [(5, .int (v5 ||| (1 <<< (v6 &&& 31)))), (0, va_rf (some t)), (1, .int v1), (2, .int v2), (6, .int v6)]) C (by decide) (by first | rfl | simp [va_rf_cat]) dX11_kept_139 ?_
        refine fv_sub (cc := ⟨#[]⟩) (own := "") [1, 2, 3, 0, 4] rfl ?_
        exact r_X11_kept_J141 C E ih _ _ _ _ _ _ h
set_option maxRecDepth 10000 in
theorem r_X11_kept_J101 {X : fh_X} {K : fh_K} {sz : Nat} {M' : fh_M} {r : Int32} (C : fh_C X 7 cX11_kept RX11) (E : fh_E X rm_X11_kept (some .int) (some (.int r)) K M' sz) (t : Nat) (v1 : Int32) (v2 : Int32) (M : fh_M) (h : f_X11_kept_J101 K t v1 v2 M = some (r, M')) : fh_V X rm_X11_kept 7 (sz, 0, 0) K M 101 [(0, va_rf (some t)), (1, .int v1), (2, .int v2)] [] := by
  unfold f_X11_kept_J101 at h
  refine fv_aload_n C 0 rfl rfl dX11_kept_101 ?_
  refine fv_iload_n C 2 rfl rfl dX11_kept_102 ?_
  replace h := fo_s h
  obtain ⟨a22, ea22, ka22, h⟩ := h
  replace h := fc2_s h
  obtain ⟨r23, M24, er23, h⟩ := h
  refine fv_callV [.int v2] C mi_X11_knows ms_X11_knows lk_RX11_156 ea22 ka22 (r_X11_knows _ _ _ er23) ⟨Nat.le_of_ble_eq_true rfl, Nat.le_of_ble_eq_true rfl⟩ ⟨Nat.le_of_ble_eq_true rfl, Nat.le_of_ble_eq_true rfl⟩ rfl rfl (by simp [va_rf_cat, cat_i, cat_l]) dX11_kept_103 ?_
  show fh_V X rm_X11_kept 7 (sz, 0, 0) K M24 _ _ [.int r23]
  refine fv_istore (i := 4) (lv' := [(4, .int r23), (0, va_rf (some t)), (1, .int v1), (2, .int v2)]) C (by decide) (by first | rfl | simp [va_rf_cat]) dX11_kept_106 ?_
  refine fv_iconst (v := 0) C (by decide) dX11_kept_108 ?_
  refine fv_istore (i := 5) (lv' := [(5, .int 0), (4, .int r23), (0, va_rf (some t)), (1, .int v1), (2, .int v2)]) C (by decide) (by first | rfl | simp [va_rf_cat]) dX11_kept_109 ?_
  refine fv_iconst (v := 0) C (by decide) dX11_kept_111 ?_
  refine fv_istore (i := 6) (lv' := [(6, .int 0), (5, .int 0), (4, .int r23), (0, va_rf (some t)), (1, .int v1), (2, .int v2)]) C (by decide) (by first | rfl | simp [va_rf_cat]) dX11_kept_112 ?_
  refine fv_sub (cc := ⟨#[]⟩) (own := "") [3, 4, 5, 1, 0] rfl ?_
  exact r_X11_kept_L114 C E  4096 _ _ _ _ _ _ h
set_option maxRecDepth 10000 in
theorem r_X11_kept_L44 {X : fh_X} {K : fh_K} {sz : Nat} {M' : fh_M} {r : Int32} (C : fh_C X 7 cX11_kept RX11) (E : fh_E X rm_X11_kept (some .int) (some (.int r)) K M' sz) : ∀ (n : Nat) (t : Nat) (v1 : Int32) (v2 : Int32) (v4 : Int32) (M : fh_M), f_X11_kept_L44 K n t v1 v2 v4 M = some (r, M') → fh_V X rm_X11_kept 7 (sz, 0, 0) K M 44 [(0, va_rf (some t)), (1, .int v1), (2, .int v2), (4, .int v4)] [] := by
  intro n
  induction n with
  | zero => intro t v1 v2 v4 M h; cases h
  | succ n ih =>
    intro t v1 v2 v4 M h
    unfold f_X11_kept_L44 at h
    refine fv_iload C 3 rfl dX11_kept_44 ?_
    refine fv_aload_n C 0 rfl rfl dX11_kept_46 ?_
    replace h := fo_s h
    obtain ⟨a11, ea11, ka11, h⟩ := h
    refine fv_getI C fl_RX11_163 ea11 ka11 dX11_kept_47 ?_
    refine fv_icmp_ge C 101 (by decide) dX11_kept_50 (fun c21 => ?_) (fun c21 => ?_)
    · replace h := itT c21 h
      refine fv_sub (cc := ⟨#[]⟩) (own := "") [0, 1, 2] rfl ?_
      exact r_X11_kept_J101 C E  _ _ _ _ h
    · replace h := itF c21 h
      refine fv_aload_n C 0 rfl rfl dX11_kept_53 ?_
      refine fv_getR C fl_RX11_78 ea11 ka11 dX11_kept_54 ?_
      refine fv_iload C 3 rfl dX11_kept_57 ?_
      refine fv_aload_n C 0 rfl rfl dX11_kept_59 ?_
      refine fv_getR C fl_RX11_69 ea11 ka11 dX11_kept_60 ?_
      refine fv_iload C 3 rfl dX11_kept_63 ?_
      replace h := fi_s h
      obtain ⟨a12, ea12, ka12, ia12, h⟩ := h
      refine fv_iald C ea12 ka12 ia12 dX11_kept_65 ?_
      replace h := fi_s h
      obtain ⟨a13, ea13, ka13, ia13, h⟩ := h
      replace h := fb_s h
      obtain ⟨M14, eM14, h⟩ := h
      refine fv_iast C ea13 ka13 ia13 dX11_kept_66 (fv_eqM eM14 ?_)
      refine fv_aload_n C 0 rfl rfl dX11_kept_67 ?_
      refine fv_getR C fl_RX11_81 ea11 ka11 dX11_kept_68 ?_
      refine fv_iload C 3 rfl dX11_kept_71 ?_
      refine fv_aload_n C 0 rfl rfl dX11_kept_73 ?_
      refine fv_getR C fl_RX11_72 ea11 ka11 dX11_kept_74 ?_
      refine fv_iload C 3 rfl dX11_kept_77 ?_
      replace h := fi_s h
      obtain ⟨a15, ea15, ka15, ia15, h⟩ := h
      refine fv_iald C ea15 ka15 ia15 dX11_kept_79 ?_
      replace h := fi_s h
      obtain ⟨a16, ea16, ka16, ia16, h⟩ := h
      replace h := fb_s h
      obtain ⟨M17, eM17, h⟩ := h
      refine fv_iast C ea16 ka16 ia16 dX11_kept_80 (fv_eqM eM17 ?_)
      refine fv_aload_n C 0 rfl rfl dX11_kept_81 ?_
      refine fv_getR C fl_RX11_84 ea11 ka11 dX11_kept_82 ?_
      refine fv_iload C 3 rfl dX11_kept_85 ?_
      refine fv_aload_n C 0 rfl rfl dX11_kept_87 ?_
      refine fv_getR C fl_RX11_75 ea11 ka11 dX11_kept_88 ?_
      refine fv_iload C 3 rfl dX11_kept_91 ?_
      replace h := fi_s h
      obtain ⟨a18, ea18, ka18, ia18, h⟩ := h
      refine fv_iald C ea18 ka18 ia18 dX11_kept_93 ?_
      replace h := fi_s h
      obtain ⟨a19, ea19, ka19, ia19, h⟩ := h
      replace h := fb_s h
      obtain ⟨M20, eM20, h⟩ := h
      refine fv_iast C ea19 ka19 ia19 dX11_kept_94 (fv_eqM eM20 ?_)
      refine fv_iinc (v := v4 + 1) (lv' := [(4, .int (v4 + 1)), (0, va_rf (some t)), (1, .int v1), (2, .int v2)]) C 3 rfl (by first | rfl | exact congrArg _ (by decide)) (by decide) (by first | rfl | simp [va_rf_cat]) dX11_kept_95 ?_
      refine fv_goto C 44 (by decide) dX11_kept_98 ?_
      refine fv_sub (cc := ⟨#[]⟩) (own := "") [1, 2, 3, 0] rfl ?_
      exact ih _ _ _ _ _ h
set_option maxRecDepth 10000 in
theorem r_X11_kept_J38 {X : fh_X} {K : fh_K} {sz : Nat} {M' : fh_M} {r : Int32} (C : fh_C X 7 cX11_kept RX11) (E : fh_E X rm_X11_kept (some .int) (some (.int r)) K M' sz) (t : Nat) (v1 : Int32) (v2 : Int32) (s0 : Int32) (s1 : Option Nat) (M : fh_M) (h : f_X11_kept_J38 K t v1 v2 s0 s1 M = some (r, M')) : fh_V X rm_X11_kept 7 (sz, 0, 0) K M 38 [(0, va_rf (some t)), (1, .int v1), (2, .int v2)] [.int s0, va_rf (s1)] := by
  unfold f_X11_kept_J38 at h
  replace h := fo_s h
  obtain ⟨a9, ea9, ka9, h⟩ := h
  replace h := fb_s h
  obtain ⟨M10, eM10, h⟩ := h
  refine fv_putI (fin := false) C fl_RX11_163 ea9 ka9 (narrow_i _) dX11_kept_38 (fv_eqM eM10 ?_)
  refine fv_iconst (v := 0) C (by decide) dX11_kept_41 ?_
  refine fv_istore (i := 4) (lv' := [(4, .int 0), (0, va_rf (some t)), (1, .int v1), (2, .int v2)]) C (by decide) (by first | rfl | simp [va_rf_cat]) dX11_kept_42 ?_
  refine fv_sub (cc := ⟨#[]⟩) (own := "") [1, 2, 3, 0] rfl ?_
  exact r_X11_kept_L44 C E  4096 _ _ _ _ _ h
set_option maxRecDepth 10000 in
theorem r_X11_kept (l : Launch) (D : fh_D) (A : Nat → Prop) {K : fh_K} {sz : Nat} {M : fh_M} {M' : fh_M} {r : Int32} {t : Nat} {p1 : Int32} {p2 : Int32} (h : f_X11_kept K M t p1 p2 = some (r, M')) : fh_Met l yX11_kept cX11_kept 7 (some .int) rm_X11_kept D K M sz A [va_rf (some t), .int p1, .int p2] (some (.int r)) K M' sz := by
  refine fh_enter (by decide) (by simp [lg_sl, va_rf_cat, cat_i, cat_l]) (lv := [(0, va_rf (some t)), (1, .int p1), (2, .int p2)]) (by simp [lv_args, va_rf_cat, cat_i, cat_l]) ?_
  intro X C E hnm _ _ _
  replace C : fh_C X 7 cX11_kept RX11 := C
  unfold f_X11_kept at h
  refine fv_aload_n C 0 rfl rfl dX11_kept_0 ?_
  refine fv_iload_n C 1 rfl rfl dX11_kept_1 ?_
  replace h := fo_s h
  obtain ⟨a1, ea1, ka1, h⟩ := h
  replace h := bx h
  obtain ⟨r2, er2, h⟩ := h
  refine fv_callV [.int p1] C mi_X11_isFile ms_X11_isFile lk_RX11_120 ea1 ka1 (r_X11_isFile _ _ _ er2) ⟨Nat.le_of_ble_eq_true rfl, Nat.le_of_ble_eq_true rfl⟩ ⟨Nat.le_of_ble_eq_true rfl, Nat.le_of_ble_eq_true rfl⟩ rfl rfl (by simp [va_rf_cat, cat_i, cat_l]) dX11_kept_2 ?_
  show fh_V X rm_X11_kept 7 (sz, 0, 0) K M _ _ [.int r2]
  refine fv_if_eq C 16 (by decide) dX11_kept_5 (fun c8 => ?_) (fun c8 => ?_)
  · replace h := itT c8 h
    refine fv_iconst (v := -1) C (by decide) dX11_kept_16 ?_
    cases h
    exact fv_iret (z := (0, 0, 0)) (st := []) C E dX11_kept_17
  · replace h := itF c8 h
    refine fv_aload_n C 0 rfl rfl dX11_kept_8 ?_
    refine fv_iload_n C 2 rfl rfl dX11_kept_9 ?_
    replace h := bx h
    obtain ⟨r3, er3, h⟩ := h
    refine fv_callV [.int p2] C mi_X11_isFile ms_X11_isFile lk_RX11_120 ea1 ka1 (r_X11_isFile _ _ _ er3) ⟨Nat.le_of_ble_eq_true rfl, Nat.le_of_ble_eq_true rfl⟩ ⟨Nat.le_of_ble_eq_true rfl, Nat.le_of_ble_eq_true rfl⟩ rfl rfl (by simp [va_rf_cat, cat_i, cat_l]) dX11_kept_10 ?_
    show fh_V X rm_X11_kept 7 (sz, 0, 0) K M _ _ [.int r3]
    refine fv_if_ne C 18 (by decide) dX11_kept_13 (fun c7 => ?_) (fun c7 => ?_)
    · replace h := itF c7 h
      refine fv_aload_n C 0 rfl rfl dX11_kept_18 ?_
      refine fv_iload_n C 1 rfl rfl dX11_kept_19 ?_
      replace h := fc2_s h
      obtain ⟨r4, M5, er4, h⟩ := h
      refine fv_callV [.int p1] C mi_X11_knows ms_X11_knows lk_RX11_156 ea1 ka1 (r_X11_knows _ _ _ er4) ⟨Nat.le_of_ble_eq_true rfl, Nat.le_of_ble_eq_true rfl⟩ ⟨Nat.le_of_ble_eq_true rfl, Nat.le_of_ble_eq_true rfl⟩ rfl rfl (by simp [va_rf_cat, cat_i, cat_l]) dX11_kept_20 ?_
      show fh_V X rm_X11_kept 7 (sz, 0, 0) K M5 _ _ [.int r4]
      refine fv_istore_n (i := 3) (lv' := [(3, .int r4), (0, va_rf (some t)), (1, .int p1), (2, .int p2)]) C rfl (by decide) (by first | rfl | simp [va_rf_cat]) dX11_kept_23 ?_
      refine fv_aload_n C 1 rfl rfl dX11_kept_24 ?_
      refine fv_iload_n C 0 rfl rfl dX11_kept_25 ?_
      refine fv_iconst (v := -1) C (by decide) dX11_kept_26 ?_
      refine fv_icmp_ne C 34 (by decide) dX11_kept_27 (fun c6 => ?_) (fun c6 => ?_)
      · replace h := itF c6 h
        refine fv_aload_n C 1 rfl rfl dX11_kept_34 ?_
        refine fv_getI C fl_RX11_139 ea1 ka1 dX11_kept_35 ?_
        refine fv_sub (cc := ⟨#[]⟩) (own := "") [1, 2, 3] rfl ?_
        exact r_X11_kept_J38 C E  _ _ _ _ _ _ h
      · replace h := itT c6 h
        refine fv_iconst (v := 0) C (by decide) dX11_kept_30 ?_
        refine fv_goto C 38 (by decide) dX11_kept_31 ?_
        refine fv_sub (cc := ⟨#[]⟩) (own := "") [1, 2, 3] rfl ?_
        exact r_X11_kept_J38 C E  _ _ _ _ _ _ h
    · replace h := itT c7 h
      refine fv_iconst (v := -1) C (by decide) dX11_kept_16 ?_
      cases h
      exact fv_iret (z := (0, 0, 0)) (st := []) C E dX11_kept_17
abbrev rm_X11_mayTurn : Room := { frames := 0, cells := 0, slots := 0, locals := 0 }
set_option maxRecDepth 10000 in
theorem r_X11_mayTurn (l : Launch) (D : fh_D) (A : Nat → Prop) {K : fh_K} {sz : Nat} {M : fh_M} {r : Int32} {t : Nat} {p1 : Int32} {p2 : Int32} (h : f_X11_mayTurn K M t p1 p2 = some r) : fh_Met l yX11_mayTurn cX11_mayTurn 3 (some .boolean) rm_X11_mayTurn D K M sz A [va_rf (some t), .int p1, .int p2] (some (.int r)) K M sz := by
  refine fh_enter (by decide) (by simp [lg_sl, va_rf_cat, cat_i, cat_l]) (lv := [(0, va_rf (some t)), (1, .int p1), (2, .int p2)]) (by simp [lv_args, va_rf_cat, cat_i, cat_l]) ?_
  intro X C E hnm _ _ _
  replace C : fh_C X 3 cX11_mayTurn RX11 := C
  unfold f_X11_mayTurn at h
  refine fv_aload_n C 0 rfl rfl dX11_mayTurn_0 ?_
  replace h := fo_s h
  obtain ⟨a1, ea1, ka1, h⟩ := h
  refine fv_getR C fl_RX11_42 ea1 ka1 dX11_mayTurn_1 ?_
  refine fv_aload_n C 0 rfl rfl dX11_mayTurn_4 ?_
  refine fv_getR C fl_RX11_66 ea1 ka1 dX11_mayTurn_5 ?_
  refine fv_iload_n C 1 rfl rfl dX11_mayTurn_8 ?_
  replace h := fi_s h
  obtain ⟨a2, ea2, ka2, ia2, h⟩ := h
  refine fv_iald C ea2 ka2 ia2 dX11_mayTurn_9 ?_
  replace h := fi_s h
  obtain ⟨a3, ea3, ka3, ia3, h⟩ := h
  refine fv_iald C ea3 ka3 ia3 dX11_mayTurn_10 ?_
  refine fv_aload_n C 0 rfl rfl dX11_mayTurn_11 ?_
  refine fv_getI C fl_RX11_136 ea1 ka1 dX11_mayTurn_12 ?_
  refine fv_icmp_lt C 51 (by decide) dX11_mayTurn_15 (fun c9 => ?_) (fun c9 => ?_)
  · replace h := itT c9 h
    refine fv_iconst (v := 0) C (by decide) dX11_mayTurn_51 ?_
    cases h
    exact fv_zret (z := (0, 0, 0)) (st := []) C E (Or.inl rfl) dX11_mayTurn_52
  · replace h := itF c9 h
    refine fv_iload_n C 2 rfl rfl dX11_mayTurn_18 ?_
    refine fv_aload_n C 0 rfl rfl dX11_mayTurn_19 ?_
    refine fv_getR C fl_RX11_20 ea1 ka1 dX11_mayTurn_20 ?_
    refine fv_aload_n C 0 rfl rfl dX11_mayTurn_23 ?_
    refine fv_getR C fl_RX11_57 ea1 ka1 dX11_mayTurn_24 ?_
    refine fv_iload_n C 1 rfl rfl dX11_mayTurn_27 ?_
    replace h := fi_s h
    obtain ⟨a4, ea4, ka4, ia4, h⟩ := h
    refine fv_iald C ea4 ka4 ia4 dX11_mayTurn_28 ?_
    replace h := fi_s h
    obtain ⟨a5, ea5, ka5, ia5, h⟩ := h
    refine fv_iald C ea5 ka5 ia5 dX11_mayTurn_29 ?_
    refine fv_iconst (v := -1) C (by decide) dX11_mayTurn_30 ?_
    refine fv_ixor C dX11_mayTurn_31 ?_
    refine fv_iand C dX11_mayTurn_32 ?_
    refine fv_if_ne C 51 (by decide) dX11_mayTurn_33 (fun c8 => ?_) (fun c8 => ?_)
    · replace h := itF c8 h
      refine fv_iconst (v := 0) C (by decide) dX11_mayTurn_51 ?_
      cases h
      exact fv_zret (z := (0, 0, 0)) (st := []) C E (Or.inl rfl) dX11_mayTurn_52
    · replace h := itT c8 h
      refine fv_iload_n C 2 rfl rfl dX11_mayTurn_36 ?_
      refine fv_aload_n C 0 rfl rfl dX11_mayTurn_37 ?_
      refine fv_getR C fl_RX11_60 ea1 ka1 dX11_mayTurn_38 ?_
      refine fv_iload_n C 1 rfl rfl dX11_mayTurn_41 ?_
      replace h := fi_s h
      obtain ⟨a6, ea6, ka6, ia6, h⟩ := h
      refine fv_iald C ea6 ka6 ia6 dX11_mayTurn_42 ?_
      refine fv_iand C dX11_mayTurn_43 ?_
      refine fv_if_ne C 51 (by decide) dX11_mayTurn_44 (fun c7 => ?_) (fun c7 => ?_)
      · replace h := itF c7 h
        refine fv_iconst (v := 0) C (by decide) dX11_mayTurn_51 ?_
        cases h
        exact fv_zret (z := (0, 0, 0)) (st := []) C E (Or.inl rfl) dX11_mayTurn_52
      · replace h := itT c7 h
        refine fv_iconst (v := 1) C (by decide) dX11_mayTurn_47 ?_
        refine fv_goto C 52 (by decide) dX11_mayTurn_48 ?_
        cases h
        exact fv_zret (z := (0, 0, 0)) (st := []) C E (Or.inr rfl) dX11_mayTurn_52
abbrev rm_X11_measures : Room := { frames := 1, cells := 0, slots := 0, locals := 22 }
set_option maxRecDepth 10000 in
theorem r_X11_measures_J153 {X : fh_X} {K : fh_K} {sz : Nat} {M' : fh_M} (C : fh_C X 6 cX11_measures RX11) (E : fh_E X rm_X11_measures none none K M' sz) {rec2 : Nat → Int32 → Int32 → Int32 → fh_M → Option (fh_M)} (hrec2 : ∀ (t : Nat) (v1 : Int32) (v2 : Int32) (v3 : Int32) (M : fh_M), rec2 t v1 v2 v3 M = some M' → fh_V X rm_X11_measures 6 (sz, 0, 0) K M 2 [(0, va_rf (some t)), (1, .int v1), (2, .int v2), (3, .int v3)] []) (t : Nat) (v1 : Int32) (v2 : Int32) (v3 : Int32) (M : fh_M) (h : f_X11_measures_J153 K rec2 t v1 v2 v3 M = some M') : fh_V X rm_X11_measures 6 (sz, 0, 0) K M 153 [(0, va_rf (some t)), (1, .int v1), (2, .int v2), (3, .int v3)] [] := by
  unfold f_X11_measures_J153 at h
  refine fv_iinc (v := v3 + 1) (lv' := [(3, .int (v3 + 1)), (0, va_rf (some t)), (1, .int v1), (2, .int v2)]) C 3 rfl (by first | rfl | exact congrArg _ (by decide)) (by decide) (by first | rfl | simp [va_rf_cat]) dX11_measures_153 ?_
  refine fv_goto C 2 (by decide) dX11_measures_156 ?_
  refine fv_sub (cc := ⟨#[]⟩) (own := "") [1, 2, 3, 0] rfl ?_
  exact hrec2 _ _ _ _ _ h
set_option maxRecDepth 10000 in
theorem r_X11_measures_J147 {X : fh_X} {K : fh_K} {sz : Nat} {M' : fh_M} (C : fh_C X 6 cX11_measures RX11) (E : fh_E X rm_X11_measures none none K M' sz) {rec2 : Nat → Int32 → Int32 → Int32 → fh_M → Option (fh_M)} (hrec2 : ∀ (t : Nat) (v1 : Int32) (v2 : Int32) (v3 : Int32) (M : fh_M), rec2 t v1 v2 v3 M = some M' → fh_V X rm_X11_measures 6 (sz, 0, 0) K M 2 [(0, va_rf (some t)), (1, .int v1), (2, .int v2), (3, .int v3)] []) {rec54 : Nat → Int32 → Int32 → Int32 → Int32 → fh_M → Option (fh_M)} (hrec54 : ∀ (t : Nat) (v1 : Int32) (v2 : Int32) (v3 : Int32) (v4 : Int32) (M : fh_M), rec54 t v1 v2 v3 v4 M = some M' → fh_V X rm_X11_measures 6 (sz, 0, 0) K M 54 [(0, va_rf (some t)), (1, .int v1), (2, .int v2), (3, .int v3), (4, .int v4)] []) (t : Nat) (v1 : Int32) (v2 : Int32) (v3 : Int32) (v4 : Int32) (M : fh_M) (h : f_X11_measures_J147 K rec2 rec54 t v1 v2 v3 v4 M = some M') : fh_V X rm_X11_measures 6 (sz, 0, 0) K M 147 [(0, va_rf (some t)), (1, .int v1), (2, .int v2), (3, .int v3), (4, .int v4)] [] := by
  unfold f_X11_measures_J147 at h
  refine fv_iinc (v := v4 + 1) (lv' := [(4, .int (v4 + 1)), (0, va_rf (some t)), (1, .int v1), (2, .int v2), (3, .int v3)]) C 4 rfl (by first | rfl | exact congrArg _ (by decide)) (by decide) (by first | rfl | simp [va_rf_cat]) dX11_measures_147 ?_
  refine fv_goto C 54 (by decide) dX11_measures_150 ?_
  refine fv_sub (cc := ⟨#[]⟩) (own := "") [1, 2, 3, 4, 0] rfl ?_
  exact hrec54 _ _ _ _ _ _ h
set_option maxRecDepth 10000 in
theorem r_X11_measures_L54 {X : fh_X} {K : fh_K} {sz : Nat} {M' : fh_M} (C : fh_C X 6 cX11_measures RX11) (E : fh_E X rm_X11_measures none none K M' sz) {rec2 : Nat → Int32 → Int32 → Int32 → fh_M → Option (fh_M)} (hrec2 : ∀ (t : Nat) (v1 : Int32) (v2 : Int32) (v3 : Int32) (M : fh_M), rec2 t v1 v2 v3 M = some M' → fh_V X rm_X11_measures 6 (sz, 0, 0) K M 2 [(0, va_rf (some t)), (1, .int v1), (2, .int v2), (3, .int v3)] []) : ∀ (n : Nat) (t : Nat) (v1 : Int32) (v2 : Int32) (v3 : Int32) (v4 : Int32) (M : fh_M), f_X11_measures_L54 K rec2 n t v1 v2 v3 v4 M = some M' → fh_V X rm_X11_measures 6 (sz, 0, 0) K M 54 [(0, va_rf (some t)), (1, .int v1), (2, .int v2), (3, .int v3), (4, .int v4)] [] := by
  intro n
  induction n with
  | zero => intro t v1 v2 v3 v4 M h; cases h
  | succ n ih =>
    intro t v1 v2 v3 v4 M h
    unfold f_X11_measures_L54 at h
    refine fv_iload C 4 rfl dX11_measures_54 ?_
    refine fv_aload_n C 0 rfl rfl dX11_measures_56 ?_
    replace h := fo_s h
    obtain ⟨a8, ea8, ka8, h⟩ := h
    refine fv_getI C fl_RX11_133 ea8 ka8 dX11_measures_57 ?_
    refine fv_icmp_ge C 153 (by decide) dX11_measures_60 (fun c19 => ?_) (fun c19 => ?_)
    · replace h := itT c19 h
      refine fv_sub (cc := ⟨#[]⟩) (own := "") [0, 1, 2, 3] rfl ?_
      exact r_X11_measures_J153 C E hrec2 _ _ _ _ _ h
    · replace h := itF c19 h
      refine fv_iload_n C 3 rfl rfl dX11_measures_63 ?_
      refine fv_if_le C 153 (by decide) dX11_measures_64 (fun c18 => ?_) (fun c18 => ?_)
      · replace h := itT c18 h
        refine fv_sub (cc := ⟨#[]⟩) (own := "") [0, 1, 2, 3] rfl ?_
        exact r_X11_measures_J153 C E hrec2 _ _ _ _ _ h
      · replace h := itF c18 h
        refine fv_aload_n C 0 rfl rfl dX11_measures_67 ?_
        refine fv_getR C fl_RX11_87 ea8 ka8 dX11_measures_68 ?_
        refine fv_bipush (v := 12) C (by decide) dX11_measures_71 ?_
        refine fv_iload_n C 3 rfl rfl dX11_measures_73 ?_
        refine fv_iconst (v := 1) C (by decide) dX11_measures_74 ?_
        refine fv_isub C dX11_measures_75 ?_
        refine fv_imul C dX11_measures_76 ?_
        refine fv_aload_n C 0 rfl rfl dX11_measures_77 ?_
        refine fv_getR C fl_RX11_57 ea8 ka8 dX11_measures_78 ?_
        refine fv_iload C 4 rfl dX11_measures_81 ?_
        replace h := fi_s h
        obtain ⟨a9, ea9, ka9, ia9, h⟩ := h
        refine fv_iald C ea9 ka9 ia9 dX11_measures_83 ?_
        refine fv_iadd C dX11_measures_84 ?_
        replace h := fi_s h
        obtain ⟨a10, ea10, ka10, ia10, h⟩ := h
        refine fv_iald C ea10 ka10 ia10 dX11_measures_85 ?_
        refine fv_aload_n C 0 rfl rfl dX11_measures_86 ?_
        refine fv_getR C fl_RX11_63 ea8 ka8 dX11_measures_87 ?_
        refine fv_iload C 4 rfl dX11_measures_90 ?_
        replace h := fi_s h
        obtain ⟨a11, ea11, ka11, ia11, h⟩ := h
        refine fv_iald C ea11 ka11 ia11 dX11_measures_92 ?_
        refine fv_iadd C dX11_measures_93 ?_
        refine fv_istore (i := 5) (lv' := [(5, .int ((M.1 a10 ((12 * (v3 - 1)) + (M.1 a9 v4.toNatClampNeg)).toNatClampNeg) + (M.1 a11 v4.toNatClampNeg))), (0, va_rf (some t)), (1, .int v1), (2, .int v2), (3, .int v3), (4, .int v4)]) C (by decide) (by first | rfl | simp [va_rf_cat]) dX11_measures_94 ?_
        refine fv_aload_n C 1 rfl rfl dX11_measures_96 ?_
        refine fv_iload C 5 rfl dX11_measures_97 ?_
        refine fv_iload_n C 3 rfl rfl dX11_measures_99 ?_
        replace h := bx h
        obtain ⟨r12, er12, h⟩ := h
        refine fv_callV [.int v4, .int v2] C mi_X11_mayTurn ms_X11_mayTurn lk_RX11_174 ea8 ka8 (r_X11_mayTurn _ _ _ er12) ⟨Nat.le_of_ble_eq_true rfl, Nat.le_of_ble_eq_true rfl⟩ ⟨Nat.le_of_ble_eq_true rfl, Nat.le_of_ble_eq_true rfl⟩ rfl rfl (by simp [va_rf_cat, cat_i, cat_l]) dX11_measures_100 ?_
        show fh_V X rm_X11_measures 6 (sz, 0, 0) K M _ _ [.int r12]
        refine fv_if_eq C 147 (by decide) dX11_measures_103 (fun c17 => ?_) (fun c17 => ?_)
        · replace h := itT c17 h
          refine fv_sub (cc := ⟨#[]⟩) (own := "") [1, 2, 3, 4, 5] rfl ?_
          exact r_X11_measures_J147 C E hrec2 ih _ _ _ _ _ _ h
        · replace h := itF c17 h
          refine fv_iload C 0 rfl dX11_measures_106 ?_
          refine fv_aload_n C 1 rfl rfl dX11_measures_108 ?_
          refine fv_getR C fl_RX11_87 ea8 ka8 dX11_measures_109 ?_
          refine fv_bipush (v := 12) C (by decide) dX11_measures_112 ?_
          refine fv_iload_n C 4 rfl rfl dX11_measures_114 ?_
          refine fv_imul C dX11_measures_115 ?_
          refine fv_aload_n C 1 rfl rfl dX11_measures_116 ?_
          refine fv_getR C fl_RX11_54 ea8 ka8 dX11_measures_117 ?_
          refine fv_iload C 5 rfl dX11_measures_120 ?_
          replace h := fi_s h
          obtain ⟨a13, ea13, ka13, ia13, h⟩ := h
          refine fv_iald C ea13 ka13 ia13 dX11_measures_122 ?_
          refine fv_iadd C dX11_measures_123 ?_
          replace h := fi_s h
          obtain ⟨a14, ea14, ka14, ia14, h⟩ := h
          refine fv_iald C ea14 ka14 ia14 dX11_measures_124 ?_
          refine fv_icmp_ge C 147 (by decide) dX11_measures_125 (fun c16 => ?_) (fun c16 => ?_)
          · replace h := itT c16 h
            refine fv_sub (cc := ⟨#[]⟩) (own := "") [1, 2, 3, 4, 5] rfl ?_
            exact r_X11_measures_J147 C E hrec2 ih _ _ _ _ _ _ h
          · replace h := itF c16 h
            refine fv_aload_n C 1 rfl rfl dX11_measures_128 ?_
            refine fv_getR C fl_RX11_87 ea8 ka8 dX11_measures_129 ?_
            refine fv_bipush (v := 12) C (by decide) dX11_measures_132 ?_
            refine fv_iload_n C 4 rfl rfl dX11_measures_134 ?_
            refine fv_imul C dX11_measures_135 ?_
            refine fv_aload_n C 1 rfl rfl dX11_measures_136 ?_
            refine fv_getR C fl_RX11_54 ea8 ka8 dX11_measures_137 ?_
            refine fv_iload C 5 rfl dX11_measures_140 ?_
            refine fv_iald C ea13 ka13 ia13 dX11_measures_142 ?_
            refine fv_iadd C dX11_measures_143 ?_
            refine fv_iload C 0 rfl dX11_measures_144 ?_
            replace h := fb_s h
            obtain ⟨M15, eM15, h⟩ := h
            refine fv_iast C ea14 ka14 ia14 dX11_measures_146 (fv_eqM eM15 ?_)
            refine fv_sub (cc := ⟨#[]⟩) (own := "") [1, 2, 3, 4, 5] rfl ?_
            exact r_X11_measures_J147 C E hrec2 ih _ _ _ _ _ _ h
set_option maxRecDepth 10000 in
theorem r_X11_measures_J51 {X : fh_X} {K : fh_K} {sz : Nat} {M' : fh_M} (C : fh_C X 6 cX11_measures RX11) (E : fh_E X rm_X11_measures none none K M' sz) {rec2 : Nat → Int32 → Int32 → Int32 → fh_M → Option (fh_M)} (hrec2 : ∀ (t : Nat) (v1 : Int32) (v2 : Int32) (v3 : Int32) (M : fh_M), rec2 t v1 v2 v3 M = some M' → fh_V X rm_X11_measures 6 (sz, 0, 0) K M 2 [(0, va_rf (some t)), (1, .int v1), (2, .int v2), (3, .int v3)] []) (t : Nat) (v1 : Int32) (v2 : Int32) (v3 : Int32) (M : fh_M) (h : f_X11_measures_J51 K rec2 t v1 v2 v3 M = some M') : fh_V X rm_X11_measures 6 (sz, 0, 0) K M 51 [(0, va_rf (some t)), (1, .int v1), (2, .int v2), (3, .int v3)] [] := by
  unfold f_X11_measures_J51 at h
  refine fv_iconst (v := 0) C (by decide) dX11_measures_51 ?_
  refine fv_istore (i := 4) (lv' := [(4, .int 0), (0, va_rf (some t)), (1, .int v1), (2, .int v2), (3, .int v3)]) C (by decide) (by first | rfl | simp [va_rf_cat]) dX11_measures_52 ?_
  refine fv_sub (cc := ⟨#[]⟩) (own := "") [1, 2, 3, 4, 0] rfl ?_
  exact r_X11_measures_L54 C E hrec2 4096 _ _ _ _ _ _ h
set_option maxRecDepth 10000 in
theorem r_X11_measures_J44 {X : fh_X} {K : fh_K} {sz : Nat} {M' : fh_M} (C : fh_C X 6 cX11_measures RX11) (E : fh_E X rm_X11_measures none none K M' sz) {rec2 : Nat → Int32 → Int32 → Int32 → fh_M → Option (fh_M)} (hrec2 : ∀ (t : Nat) (v1 : Int32) (v2 : Int32) (v3 : Int32) (M : fh_M), rec2 t v1 v2 v3 M = some M' → fh_V X rm_X11_measures 6 (sz, 0, 0) K M 2 [(0, va_rf (some t)), (1, .int v1), (2, .int v2), (3, .int v3)] []) {rec10 : Nat → Int32 → Int32 → Int32 → Int32 → fh_M → Option (fh_M)} (hrec10 : ∀ (t : Nat) (v1 : Int32) (v2 : Int32) (v3 : Int32) (v4 : Int32) (M : fh_M), rec10 t v1 v2 v3 v4 M = some M' → fh_V X rm_X11_measures 6 (sz, 0, 0) K M 10 [(0, va_rf (some t)), (1, .int v1), (2, .int v2), (3, .int v3), (4, .int v4)] []) (t : Nat) (v1 : Int32) (v2 : Int32) (v3 : Int32) (v4 : Int32) (s0 : Int32) (s1 : Int32) (s2 : Option Nat) (M : fh_M) (h : f_X11_measures_J44 K rec2 rec10 t v1 v2 v3 v4 s0 s1 s2 M = some M') : fh_V X rm_X11_measures 6 (sz, 0, 0) K M 44 [(0, va_rf (some t)), (1, .int v1), (2, .int v2), (3, .int v3), (4, .int v4)] [.int s0, .int s1, va_rf (s2)] := by
  unfold f_X11_measures_J44 at h
  replace h := fi_s h
  obtain ⟨a6, ea6, ka6, ia6, h⟩ := h
  replace h := fb_s h
  obtain ⟨M7, eM7, h⟩ := h
  refine fv_iast C ea6 ka6 ia6 dX11_measures_44 (fv_eqM eM7 ?_)
  refine fv_iinc (v := v4 + 1) (lv' := [(4, .int (v4 + 1)), (0, va_rf (some t)), (1, .int v1), (2, .int v2), (3, .int v3)]) C 4 rfl (by first | rfl | exact congrArg _ (by decide)) (by decide) (by first | rfl | simp [va_rf_cat]) dX11_measures_45 ?_
  refine fv_goto C 10 (by decide) dX11_measures_48 ?_
  refine fv_sub (cc := ⟨#[]⟩) (own := "") [1, 2, 3, 4, 0] rfl ?_
  exact hrec10 _ _ _ _ _ _ h
set_option maxRecDepth 10000 in
theorem r_X11_measures_J42 {X : fh_X} {K : fh_K} {sz : Nat} {M' : fh_M} (C : fh_C X 6 cX11_measures RX11) (E : fh_E X rm_X11_measures none none K M' sz) {rec2 : Nat → Int32 → Int32 → Int32 → fh_M → Option (fh_M)} (hrec2 : ∀ (t : Nat) (v1 : Int32) (v2 : Int32) (v3 : Int32) (M : fh_M), rec2 t v1 v2 v3 M = some M' → fh_V X rm_X11_measures 6 (sz, 0, 0) K M 2 [(0, va_rf (some t)), (1, .int v1), (2, .int v2), (3, .int v3)] []) {rec10 : Nat → Int32 → Int32 → Int32 → Int32 → fh_M → Option (fh_M)} (hrec10 : ∀ (t : Nat) (v1 : Int32) (v2 : Int32) (v3 : Int32) (v4 : Int32) (M : fh_M), rec10 t v1 v2 v3 v4 M = some M' → fh_V X rm_X11_measures 6 (sz, 0, 0) K M 10 [(0, va_rf (some t)), (1, .int v1), (2, .int v2), (3, .int v3), (4, .int v4)] []) (t : Nat) (v1 : Int32) (v2 : Int32) (v3 : Int32) (v4 : Int32) (s0 : Int32) (s1 : Option Nat) (M : fh_M) (h : f_X11_measures_J42 K rec2 rec10 t v1 v2 v3 v4 s0 s1 M = some M') : fh_V X rm_X11_measures 6 (sz, 0, 0) K M 42 [(0, va_rf (some t)), (1, .int v1), (2, .int v2), (3, .int v3), (4, .int v4)] [.int s0, va_rf (s1)] := by
  unfold f_X11_measures_J42 at h
  refine fv_ldc C kc_RX11_173 dX11_measures_42 ?_
  refine fv_sub (cc := ⟨#[]⟩) (own := "") [0, 1, 2, 3, 4] rfl ?_
  exact r_X11_measures_J44 C E hrec2 hrec10 _ _ _ _ _ _ _ _ _ h
set_option maxRecDepth 10000 in
theorem r_X11_measures_L10 {X : fh_X} {K : fh_K} {sz : Nat} {M' : fh_M} (C : fh_C X 6 cX11_measures RX11) (E : fh_E X rm_X11_measures none none K M' sz) {rec2 : Nat → Int32 → Int32 → Int32 → fh_M → Option (fh_M)} (hrec2 : ∀ (t : Nat) (v1 : Int32) (v2 : Int32) (v3 : Int32) (M : fh_M), rec2 t v1 v2 v3 M = some M' → fh_V X rm_X11_measures 6 (sz, 0, 0) K M 2 [(0, va_rf (some t)), (1, .int v1), (2, .int v2), (3, .int v3)] []) : ∀ (n : Nat) (t : Nat) (v1 : Int32) (v2 : Int32) (v3 : Int32) (v4 : Int32) (M : fh_M), f_X11_measures_L10 K rec2 n t v1 v2 v3 v4 M = some M' → fh_V X rm_X11_measures 6 (sz, 0, 0) K M 10 [(0, va_rf (some t)), (1, .int v1), (2, .int v2), (3, .int v3), (4, .int v4)] [] := by
  intro n
  induction n with
  | zero => intro t v1 v2 v3 v4 M h; cases h
  | succ n ih =>
    intro t v1 v2 v3 v4 M h
    unfold f_X11_measures_L10 at h
    refine fv_iload C 4 rfl dX11_measures_10 ?_
    refine fv_bipush (v := 12) C (by decide) dX11_measures_12 ?_
    refine fv_icmp_ge C 51 (by decide) dX11_measures_14 (fun c5 => ?_) (fun c5 => ?_)
    · replace h := itT c5 h
      refine fv_sub (cc := ⟨#[]⟩) (own := "") [0, 1, 2, 3] rfl ?_
      exact r_X11_measures_J51 C E hrec2 _ _ _ _ _ h
    · replace h := itF c5 h
      refine fv_aload_n C 0 rfl rfl dX11_measures_17 ?_
      replace h := fo_s h
      obtain ⟨a2, ea2, ka2, h⟩ := h
      refine fv_getR C fl_RX11_87 ea2 ka2 dX11_measures_18 ?_
      refine fv_bipush (v := 12) C (by decide) dX11_measures_21 ?_
      refine fv_iload_n C 3 rfl rfl dX11_measures_23 ?_
      refine fv_imul C dX11_measures_24 ?_
      refine fv_iload C 4 rfl dX11_measures_25 ?_
      refine fv_iadd C dX11_measures_27 ?_
      refine fv_iload_n C 3 rfl rfl dX11_measures_28 ?_
      refine fv_if_ne C 42 (by decide) dX11_measures_29 (fun c4 => ?_) (fun c4 => ?_)
      · replace h := itF c4 h
        refine fv_sub (cc := ⟨#[]⟩) (own := "") [0, 1, 2, 3, 4] rfl ?_
        exact r_X11_measures_J42 C E hrec2 ih _ _ _ _ _ _ _ _ h
      · replace h := itT c4 h
        refine fv_iload C 4 rfl dX11_measures_32 ?_
        refine fv_iload_n C 1 rfl rfl dX11_measures_34 ?_
        refine fv_icmp_ne C 42 (by decide) dX11_measures_35 (fun c3 => ?_) (fun c3 => ?_)
        · replace h := itF c3 h
          refine fv_sub (cc := ⟨#[]⟩) (own := "") [0, 1, 2, 3, 4] rfl ?_
          exact r_X11_measures_J42 C E hrec2 ih _ _ _ _ _ _ _ _ h
        · replace h := itT c3 h
          refine fv_iconst (v := 0) C (by decide) dX11_measures_38 ?_
          refine fv_goto C 44 (by decide) dX11_measures_39 ?_
          refine fv_sub (cc := ⟨#[]⟩) (own := "") [0, 1, 2, 3, 4] rfl ?_
          exact r_X11_measures_J44 C E hrec2 ih _ _ _ _ _ _ _ _ _ h
set_option maxRecDepth 10000 in
theorem r_X11_measures_L2 {X : fh_X} {K : fh_K} {sz : Nat} {M' : fh_M} (C : fh_C X 6 cX11_measures RX11) (E : fh_E X rm_X11_measures none none K M' sz) : ∀ (n : Nat) (t : Nat) (v1 : Int32) (v2 : Int32) (v3 : Int32) (M : fh_M), f_X11_measures_L2 K n t v1 v2 v3 M = some M' → fh_V X rm_X11_measures 6 (sz, 0, 0) K M 2 [(0, va_rf (some t)), (1, .int v1), (2, .int v2), (3, .int v3)] [] := by
  intro n
  induction n with
  | zero => intro t v1 v2 v3 M h; cases h
  | succ n ih =>
    intro t v1 v2 v3 M h
    unfold f_X11_measures_L2 at h
    refine fv_iload_n C 3 rfl rfl dX11_measures_2 ?_
    refine fv_iconst (v := 4) C (by decide) dX11_measures_3 ?_
    refine fv_icmp_gt C 159 (by decide) dX11_measures_4 (fun c1 => ?_) (fun c1 => ?_)
    · replace h := itT c1 h
      cases h
      exact fv_vret (z := (0, 0, 0)) (st := []) C E dX11_measures_159
    · replace h := itF c1 h
      refine fv_iconst (v := 0) C (by decide) dX11_measures_7 ?_
      refine fv_istore (i := 4) (lv' := [(4, .int 0), (0, va_rf (some t)), (1, .int v1), (2, .int v2), (3, .int v3)]) C (by decide) (by first | rfl | simp [va_rf_cat]) dX11_measures_8 ?_
      refine fv_sub (cc := ⟨#[]⟩) (own := "") [1, 2, 3, 4, 0] rfl ?_
      exact r_X11_measures_L10 C E ih 4096 _ _ _ _ _ _ h
set_option maxRecDepth 10000 in
theorem r_X11_measures (l : Launch) (D : fh_D) (A : Nat → Prop) {K : fh_K} {sz : Nat} {M : fh_M} {M' : fh_M} {t : Nat} {p1 : Int32} {p2 : Int32} (h : f_X11_measures K M t p1 p2 = some M') : fh_Met l yX11_measures cX11_measures 6 none rm_X11_measures D K M sz A [va_rf (some t), .int p1, .int p2] none K M' sz := by
  refine fh_enter (by decide) (by simp [lg_sl, va_rf_cat, cat_i, cat_l]) (lv := [(0, va_rf (some t)), (1, .int p1), (2, .int p2)]) (by simp [lv_args, va_rf_cat, cat_i, cat_l]) ?_
  intro X C E hnm _ _ _
  replace C : fh_C X 6 cX11_measures RX11 := C
  unfold f_X11_measures at h
  refine fv_iconst (v := 0) C (by decide) dX11_measures_0 ?_
  refine fv_istore_n (i := 3) (lv' := [(3, .int 0), (0, va_rf (some t)), (1, .int p1), (2, .int p2)]) C rfl (by decide) (by first | rfl | simp [va_rf_cat]) dX11_measures_1 ?_
  refine fv_sub (cc := ⟨#[]⟩) (own := "") [1, 2, 3, 0] rfl ?_
  exact r_X11_measures_L2 C E  4096 _ _ _ _ _ h
abbrev rm_X11_bestRoad : Room := { frames := 4, cells := 0, slots := 0, locals := 98 }
set_option maxRecDepth 10000 in
theorem r_X11_bestRoad_J199 {X : fh_X} {K : fh_K} {sz : Nat} {M' : fh_M} {r : Int32} (C : fh_C X 9 cX11_bestRoad RX11) (E : fh_E X rm_X11_bestRoad (some .int) (some (.int r)) K M' sz) {rec119 : Nat → Int32 → Int32 → Int32 → Int32 → Int32 → fh_M → Option (Int32 × fh_M)} (hrec119 : ∀ (t : Nat) (v3 : Int32) (v4 : Int32) (v5 : Int32) (v6 : Int32) (v7 : Int32) (M : fh_M), rec119 t v3 v4 v5 v6 v7 M = some (r, M') → fh_V X rm_X11_bestRoad 9 (sz, 0, 0) K M 119 [(0, va_rf (some t)), (3, .int v3), (4, .int v4), (5, .int v5), (6, .int v6), (7, .int v7)] []) (t : Nat) (v3 : Int32) (v5 : Int32) (v6 : Int32) (v7 : Int32) (v8 : Int32) (M : fh_M) (h : f_X11_bestRoad_J199 K rec119 t v3 v5 v6 v7 v8 M = some (r, M')) : fh_V X rm_X11_bestRoad 9 (sz, 0, 0) K M 199 [(0, va_rf (some t)), (3, .int v3), (5, .int v5), (6, .int v6), (7, .int v7), (8, .int v8)] [] := by
  unfold f_X11_bestRoad_J199 at h
  refine fv_aload_n C 0 rfl rfl dX11_bestRoad_199 ?_
  replace h := fo_s h
  obtain ⟨a30, ea30, ka30, h⟩ := h
  refine fv_getR C fl_RX11_90 ea30 ka30 dX11_bestRoad_200 ?_
  refine fv_iload C 2 rfl dX11_bestRoad_203 ?_
  refine fv_iload C 4 rfl dX11_bestRoad_205 ?_
  refine fv_isub C dX11_bestRoad_207 ?_
  refine fv_iload C 5 rfl dX11_bestRoad_208 ?_
  replace h := fi_s h
  obtain ⟨a31, ea31, ka31, ia31, h⟩ := h
  replace h := fb_s h
  obtain ⟨M32, eM32, h⟩ := h
  refine fv_iast C ea31 ka31 ia31 dX11_bestRoad_210 (fv_eqM eM32 ?_)
  refine fv_aload_n C 0 rfl rfl dX11_bestRoad_211 ?_
  refine fv_getR C fl_RX11_57 ea30 ka30 dX11_bestRoad_212 ?_
  refine fv_iload C 5 rfl dX11_bestRoad_215 ?_
  replace h := fi_s h
  obtain ⟨a33, ea33, ka33, ia33, h⟩ := h
  refine fv_iald C ea33 ka33 ia33 dX11_bestRoad_217 ?_
  refine fv_istore (i := 4) (lv' := [(4, .int (M32.1 a33 v8.toNatClampNeg)), (0, va_rf (some t)), (3, .int v3), (5, .int v5), (6, .int v6), (7, .int v7), (8, .int v8)]) C (by decide) (by first | rfl | simp [va_rf_cat]) dX11_bestRoad_218 ?_
  refine fv_iinc (v := v7 + (-1)) (lv' := [(7, .int (v7 + (-1))), (4, .int (M32.1 a33 v8.toNatClampNeg)), (0, va_rf (some t)), (3, .int v3), (5, .int v5), (6, .int v6), (8, .int v8)]) C 5 rfl (by first | rfl | exact congrArg _ (by decide)) (by decide) (by first | rfl | simp [va_rf_cat]) dX11_bestRoad_220 ?_
  refine fv_goto C 119 (by decide) dX11_bestRoad_223 ?_
  refine fv_sub (cc := ⟨#[]⟩) (own := "") [2, 3, 1, 4, 5, 0] rfl ?_
  exact hrec119 _ _ _ _ _ _ _ h
set_option maxRecDepth 10000 in
theorem r_X11_bestRoad_J193 {X : fh_X} {K : fh_K} {sz : Nat} {M' : fh_M} {r : Int32} (C : fh_C X 9 cX11_bestRoad RX11) (E : fh_E X rm_X11_bestRoad (some .int) (some (.int r)) K M' sz) {rec119 : Nat → Int32 → Int32 → Int32 → Int32 → Int32 → fh_M → Option (Int32 × fh_M)} (hrec119 : ∀ (t : Nat) (v3 : Int32) (v4 : Int32) (v5 : Int32) (v6 : Int32) (v7 : Int32) (M : fh_M), rec119 t v3 v4 v5 v6 v7 M = some (r, M') → fh_V X rm_X11_bestRoad 9 (sz, 0, 0) K M 119 [(0, va_rf (some t)), (3, .int v3), (4, .int v4), (5, .int v5), (6, .int v6), (7, .int v7)] []) {rec127 : Nat → Int32 → Int32 → Int32 → Int32 → Int32 → Int32 → fh_M → Option (Int32 × fh_M)} (hrec127 : ∀ (t : Nat) (v3 : Int32) (v4 : Int32) (v5 : Int32) (v6 : Int32) (v7 : Int32) (v8 : Int32) (M : fh_M), rec127 t v3 v4 v5 v6 v7 v8 M = some (r, M') → fh_V X rm_X11_bestRoad 9 (sz, 0, 0) K M 127 [(0, va_rf (some t)), (3, .int v3), (4, .int v4), (5, .int v5), (6, .int v6), (7, .int v7), (8, .int v8)] []) (t : Nat) (v3 : Int32) (v4 : Int32) (v5 : Int32) (v6 : Int32) (v7 : Int32) (v8 : Int32) (M : fh_M) (h : f_X11_bestRoad_J193 K rec119 rec127 t v3 v4 v5 v6 v7 v8 M = some (r, M')) : fh_V X rm_X11_bestRoad 9 (sz, 0, 0) K M 193 [(0, va_rf (some t)), (3, .int v3), (4, .int v4), (5, .int v5), (6, .int v6), (7, .int v7), (8, .int v8)] [] := by
  unfold f_X11_bestRoad_J193 at h
  refine fv_iinc (v := v8 + 1) (lv' := [(8, .int (v8 + 1)), (0, va_rf (some t)), (3, .int v3), (4, .int v4), (5, .int v5), (6, .int v6), (7, .int v7)]) C 6 rfl (by first | rfl | exact congrArg _ (by decide)) (by decide) (by first | rfl | simp [va_rf_cat]) dX11_bestRoad_193 ?_
  refine fv_goto C 127 (by decide) dX11_bestRoad_196 ?_
  refine fv_sub (cc := ⟨#[]⟩) (own := "") [1, 2, 3, 4, 5, 6, 0] rfl ?_
  exact hrec127 _ _ _ _ _ _ _ _ h
set_option maxRecDepth 10000 in
theorem r_X11_bestRoad_L127 {X : fh_X} {K : fh_K} {sz : Nat} {M' : fh_M} {r : Int32} (C : fh_C X 9 cX11_bestRoad RX11) (E : fh_E X rm_X11_bestRoad (some .int) (some (.int r)) K M' sz) {rec119 : Nat → Int32 → Int32 → Int32 → Int32 → Int32 → fh_M → Option (Int32 × fh_M)} (hrec119 : ∀ (t : Nat) (v3 : Int32) (v4 : Int32) (v5 : Int32) (v6 : Int32) (v7 : Int32) (M : fh_M), rec119 t v3 v4 v5 v6 v7 M = some (r, M') → fh_V X rm_X11_bestRoad 9 (sz, 0, 0) K M 119 [(0, va_rf (some t)), (3, .int v3), (4, .int v4), (5, .int v5), (6, .int v6), (7, .int v7)] []) : ∀ (n : Nat) (t : Nat) (v3 : Int32) (v4 : Int32) (v5 : Int32) (v6 : Int32) (v7 : Int32) (v8 : Int32) (M : fh_M), f_X11_bestRoad_L127 K rec119 n t v3 v4 v5 v6 v7 v8 M = some (r, M') → fh_V X rm_X11_bestRoad 9 (sz, 0, 0) K M 127 [(0, va_rf (some t)), (3, .int v3), (4, .int v4), (5, .int v5), (6, .int v6), (7, .int v7), (8, .int v8)] [] := by
  intro n
  induction n with
  | zero => intro t v3 v4 v5 v6 v7 v8 M h; cases h
  | succ n ih =>
    intro t v3 v4 v5 v6 v7 v8 M h
    unfold f_X11_bestRoad_L127 at h
    refine fv_aload_n C 0 rfl rfl dX11_bestRoad_127 ?_
    replace h := fo_s h
    obtain ⟨a20, ea20, ka20, h⟩ := h
    refine fv_getR C fl_RX11_54 ea20 ka20 dX11_bestRoad_128 ?_
    refine fv_iload C 6 rfl dX11_bestRoad_131 ?_
    replace h := fi_s h
    obtain ⟨a21, ea21, ka21, ia21, h⟩ := h
    refine fv_iald C ea21 ka21 ia21 dX11_bestRoad_133 ?_
    refine fv_iload C 2 rfl dX11_bestRoad_134 ?_
    refine fv_icmp_ne C 193 (by decide) dX11_bestRoad_136 (fun c29 => ?_) (fun c29 => ?_)
    · replace h := itF c29 h
      refine fv_sub (cc := ⟨#[]⟩) (own := "") [0, 1, 2, 3, 4, 5, 6] rfl ?_
      exact r_X11_bestRoad_J193 C E hrec119 ih _ _ _ _ _ _ _ _ h
    · replace h := itT c29 h
      refine fv_aload_n C 0 rfl rfl dX11_bestRoad_139 ?_
      refine fv_iload C 6 rfl dX11_bestRoad_140 ?_
      refine fv_iload_n C 1 rfl rfl dX11_bestRoad_142 ?_
      replace h := bx h
      obtain ⟨r22, er22, h⟩ := h
      refine fv_callV [.int v8, .int v3] C mi_X11_mayTurn ms_X11_mayTurn lk_RX11_174 ea20 ka20 (r_X11_mayTurn _ _ _ er22) ⟨Nat.le_of_ble_eq_true rfl, Nat.le_of_ble_eq_true rfl⟩ ⟨Nat.le_of_ble_eq_true rfl, Nat.le_of_ble_eq_true rfl⟩ rfl rfl (by simp [va_rf_cat, cat_i, cat_l]) dX11_bestRoad_143 ?_
      show fh_V X rm_X11_bestRoad 9 (sz, 0, 0) K M _ _ [.int r22]
      refine fv_if_eq C 193 (by decide) dX11_bestRoad_146 (fun c28 => ?_) (fun c28 => ?_)
      · replace h := itT c28 h
        refine fv_sub (cc := ⟨#[]⟩) (own := "") [0, 1, 2, 3, 4, 5, 6] rfl ?_
        exact r_X11_bestRoad_J193 C E hrec119 ih _ _ _ _ _ _ _ _ h
      · replace h := itF c28 h
        refine fv_aload_n C 0 rfl rfl dX11_bestRoad_149 ?_
        refine fv_getR C fl_RX11_87 ea20 ka20 dX11_bestRoad_150 ?_
        refine fv_bipush (v := 12) C (by decide) dX11_bestRoad_153 ?_
        refine fv_iload C 5 rfl dX11_bestRoad_155 ?_
        refine fv_iconst (v := 1) C (by decide) dX11_bestRoad_157 ?_
        refine fv_isub C dX11_bestRoad_158 ?_
        refine fv_imul C dX11_bestRoad_159 ?_
        refine fv_aload_n C 0 rfl rfl dX11_bestRoad_160 ?_
        refine fv_getR C fl_RX11_57 ea20 ka20 dX11_bestRoad_161 ?_
        refine fv_iload C 6 rfl dX11_bestRoad_164 ?_
        replace h := fi_s h
        obtain ⟨a23, ea23, ka23, ia23, h⟩ := h
        refine fv_iald C ea23 ka23 ia23 dX11_bestRoad_166 ?_
        refine fv_iadd C dX11_bestRoad_167 ?_
        replace h := fi_s h
        obtain ⟨a24, ea24, ka24, ia24, h⟩ := h
        refine fv_iald C ea24 ka24 ia24 dX11_bestRoad_168 ?_
        refine fv_aload_n C 0 rfl rfl dX11_bestRoad_169 ?_
        refine fv_getR C fl_RX11_63 ea20 ka20 dX11_bestRoad_170 ?_
        refine fv_iload C 6 rfl dX11_bestRoad_173 ?_
        replace h := fi_s h
        obtain ⟨a25, ea25, ka25, ia25, h⟩ := h
        refine fv_iald C ea25 ka25 ia25 dX11_bestRoad_175 ?_
        refine fv_iadd C dX11_bestRoad_176 ?_
        refine fv_aload_n C 0 rfl rfl dX11_bestRoad_177 ?_
        refine fv_getR C fl_RX11_87 ea20 ka20 dX11_bestRoad_178 ?_
        refine fv_bipush (v := 12) C (by decide) dX11_bestRoad_181 ?_
        refine fv_iload C 5 rfl dX11_bestRoad_183 ?_
        refine fv_imul C dX11_bestRoad_185 ?_
        refine fv_iload C 2 rfl dX11_bestRoad_186 ?_
        refine fv_iadd C dX11_bestRoad_188 ?_
        replace h := fi_s h
        obtain ⟨a26, ea26, ka26, ia26, h⟩ := h
        refine fv_iald C ea26 ka26 ia26 dX11_bestRoad_189 ?_
        refine fv_icmp_eq C 199 (by decide) dX11_bestRoad_190 (fun c27 => ?_) (fun c27 => ?_)
        · replace h := itT c27 h
          refine fv_sub (cc := ⟨#[]⟩) (own := "") [0, 1, 3, 4, 5, 6] rfl ?_
          exact r_X11_bestRoad_J199 C E hrec119 _ _ _ _ _ _ _ h
        · replace h := itF c27 h
          refine fv_sub (cc := ⟨#[]⟩) (own := "") [0, 1, 2, 3, 4, 5, 6] rfl ?_
          exact r_X11_bestRoad_J193 C E hrec119 ih _ _ _ _ _ _ _ _ h
set_option maxRecDepth 10000 in
theorem r_X11_bestRoad_L119 {X : fh_X} {K : fh_K} {sz : Nat} {M' : fh_M} {r : Int32} (C : fh_C X 9 cX11_bestRoad RX11) (E : fh_E X rm_X11_bestRoad (some .int) (some (.int r)) K M' sz) : ∀ (n : Nat) (t : Nat) (v3 : Int32) (v4 : Int32) (v5 : Int32) (v6 : Int32) (v7 : Int32) (M : fh_M), f_X11_bestRoad_L119 K n t v3 v4 v5 v6 v7 M = some (r, M') → fh_V X rm_X11_bestRoad 9 (sz, 0, 0) K M 119 [(0, va_rf (some t)), (3, .int v3), (4, .int v4), (5, .int v5), (6, .int v6), (7, .int v7)] [] := by
  intro n
  induction n with
  | zero => intro t v3 v4 v5 v6 v7 M h; cases h
  | succ n ih =>
    intro t v3 v4 v5 v6 v7 M h
    unfold f_X11_bestRoad_L119 at h
    refine fv_iload C 5 rfl dX11_bestRoad_119 ?_
    refine fv_if_le C 226 (by decide) dX11_bestRoad_121 (fun c19 => ?_) (fun c19 => ?_)
    · replace h := itT c19 h
      refine fv_iload C 4 rfl dX11_bestRoad_226 ?_
      cases h
      exact fv_iret (z := (0, 0, 0)) (st := []) C E dX11_bestRoad_228
    · replace h := itF c19 h
      refine fv_iconst (v := 0) C (by decide) dX11_bestRoad_124 ?_
      refine fv_istore (i := 8) (lv' := [(8, .int 0), (0, va_rf (some t)), (3, .int v3), (4, .int v4), (5, .int v5), (6, .int v6), (7, .int v7)]) C (by decide) (by first | rfl | simp [va_rf_cat]) dX11_bestRoad_125 ?_
      refine fv_sub (cc := ⟨#[]⟩) (own := "") [1, 2, 3, 4, 5, 6, 0] rfl ?_
      exact r_X11_bestRoad_L127 C E ih 4096 _ _ _ _ _ _ _ _ h
set_option maxRecDepth 10000 in
theorem r_X11_bestRoad_J85 {X : fh_X} {K : fh_K} {sz : Nat} {M' : fh_M} {r : Int32} (C : fh_C X 9 cX11_bestRoad RX11) (E : fh_E X rm_X11_bestRoad (some .int) (some (.int r)) K M' sz) (t : Nat) (v3 : Int32) (v4 : Int32) (v5 : Int32) (M : fh_M) (h : f_X11_bestRoad_J85 K t v3 v4 v5 M = some (r, M')) : fh_V X rm_X11_bestRoad 9 (sz, 0, 0) K M 85 [(0, va_rf (some t)), (3, .int v3), (4, .int v4), (5, .int v5)] [] := by
  unfold f_X11_bestRoad_J85 at h
  refine fv_aload_n C 0 rfl rfl dX11_bestRoad_85 ?_
  replace h := fo_s h
  obtain ⟨a15, ea15, ka15, h⟩ := h
  refine fv_getR C fl_RX11_87 ea15 ka15 dX11_bestRoad_86 ?_
  refine fv_bipush (v := 12) C (by decide) dX11_bestRoad_89 ?_
  refine fv_iload C 3 rfl dX11_bestRoad_91 ?_
  refine fv_imul C dX11_bestRoad_93 ?_
  refine fv_iload C 2 rfl dX11_bestRoad_94 ?_
  refine fv_iadd C dX11_bestRoad_96 ?_
  replace h := fi_s h
  obtain ⟨a16, ea16, ka16, ia16, h⟩ := h
  refine fv_iald C ea16 ka16 ia16 dX11_bestRoad_97 ?_
  refine fv_istore (i := 6) (lv' := [(6, .int (M.1 a16 ((12 * v5) + v4).toNatClampNeg)), (0, va_rf (some t)), (3, .int v3), (4, .int v4), (5, .int v5)]) C (by decide) (by first | rfl | simp [va_rf_cat]) dX11_bestRoad_98 ?_
  refine fv_iload C 0 rfl dX11_bestRoad_100 ?_
  refine fv_ldc C kc_RX11_173 dX11_bestRoad_102 ?_
  refine fv_icmp_lt C 109 (by decide) dX11_bestRoad_104 (fun c18 => ?_) (fun c18 => ?_)
  · replace h := itT c18 h
    refine fv_aload_n C 1 rfl rfl dX11_bestRoad_109 ?_
    refine fv_iload C 4 rfl dX11_bestRoad_110 ?_
    replace h := fb_s h
    obtain ⟨M17, eM17, h⟩ := h
    refine fv_putI (fin := false) C fl_RX11_184 ea15 ka15 (narrow_i _) dX11_bestRoad_112 (fv_eqM eM17 ?_)
    refine fv_iload C 4 rfl dX11_bestRoad_115 ?_
    refine fv_istore (i := 7) (lv' := [(7, .int v5), (6, .int (M.1 a16 ((12 * v5) + v4).toNatClampNeg)), (0, va_rf (some t)), (3, .int v3), (4, .int v4), (5, .int v5)]) C (by decide) (by first | rfl | simp [va_rf_cat]) dX11_bestRoad_117 ?_
    refine fv_sub (cc := ⟨#[]⟩) (own := "") [2, 3, 4, 5, 1, 0] rfl ?_
    exact r_X11_bestRoad_L119 C E  4096 _ _ _ _ _ _ _ h
  · replace h := itF c18 h
    refine fv_iconst (v := -1) C (by decide) dX11_bestRoad_107 ?_
    cases h
    exact fv_iret (z := (0, 0, 0)) (st := []) C E dX11_bestRoad_108
set_option maxRecDepth 10000 in
theorem r_X11_bestRoad_J79 {X : fh_X} {K : fh_K} {sz : Nat} {M' : fh_M} {r : Int32} (C : fh_C X 9 cX11_bestRoad RX11) (E : fh_E X rm_X11_bestRoad (some .int) (some (.int r)) K M' sz) {rec40 : Nat → Int32 → Int32 → Int32 → Int32 → fh_M → Option (Int32 × fh_M)} (hrec40 : ∀ (t : Nat) (v3 : Int32) (v4 : Int32) (v5 : Int32) (v6 : Int32) (M : fh_M), rec40 t v3 v4 v5 v6 M = some (r, M') → fh_V X rm_X11_bestRoad 9 (sz, 0, 0) K M 40 [(0, va_rf (some t)), (3, .int v3), (4, .int v4), (5, .int v5), (6, .int v6)] []) (t : Nat) (v3 : Int32) (v4 : Int32) (v5 : Int32) (v6 : Int32) (M : fh_M) (h : f_X11_bestRoad_J79 K rec40 t v3 v4 v5 v6 M = some (r, M')) : fh_V X rm_X11_bestRoad 9 (sz, 0, 0) K M 79 [(0, va_rf (some t)), (3, .int v3), (4, .int v4), (5, .int v5), (6, .int v6)] [] := by
  unfold f_X11_bestRoad_J79 at h
  refine fv_iinc (v := v6 + 1) (lv' := [(6, .int (v6 + 1)), (0, va_rf (some t)), (3, .int v3), (4, .int v4), (5, .int v5)]) C 4 rfl (by first | rfl | exact congrArg _ (by decide)) (by decide) (by first | rfl | simp [va_rf_cat]) dX11_bestRoad_79 ?_
  refine fv_goto C 40 (by decide) dX11_bestRoad_82 ?_
  refine fv_sub (cc := ⟨#[]⟩) (own := "") [1, 2, 3, 4, 0] rfl ?_
  exact hrec40 _ _ _ _ _ _ h
set_option maxRecDepth 10000 in
theorem r_X11_bestRoad_L40 {X : fh_X} {K : fh_K} {sz : Nat} {M' : fh_M} {r : Int32} (C : fh_C X 9 cX11_bestRoad RX11) (E : fh_E X rm_X11_bestRoad (some .int) (some (.int r)) K M' sz) : ∀ (n : Nat) (t : Nat) (v3 : Int32) (v4 : Int32) (v5 : Int32) (v6 : Int32) (M : fh_M), f_X11_bestRoad_L40 K n t v3 v4 v5 v6 M = some (r, M') → fh_V X rm_X11_bestRoad 9 (sz, 0, 0) K M 40 [(0, va_rf (some t)), (3, .int v3), (4, .int v4), (5, .int v5), (6, .int v6)] [] := by
  intro n
  induction n with
  | zero => intro t v3 v4 v5 v6 M h; cases h
  | succ n ih =>
    intro t v3 v4 v5 v6 M h
    unfold f_X11_bestRoad_L40 at h
    refine fv_iload C 4 rfl dX11_bestRoad_40 ?_
    refine fv_iconst (v := 4) C (by decide) dX11_bestRoad_42 ?_
    refine fv_icmp_gt C 85 (by decide) dX11_bestRoad_43 (fun c14 => ?_) (fun c14 => ?_)
    · replace h := itT c14 h
      refine fv_sub (cc := ⟨#[]⟩) (own := "") [0, 1, 2, 3] rfl ?_
      exact r_X11_bestRoad_J85 C E  _ _ _ _ _ h
    · replace h := itF c14 h
      refine fv_aload_n C 0 rfl rfl dX11_bestRoad_46 ?_
      replace h := fo_s h
      obtain ⟨a10, ea10, ka10, h⟩ := h
      refine fv_getR C fl_RX11_87 ea10 ka10 dX11_bestRoad_47 ?_
      refine fv_bipush (v := 12) C (by decide) dX11_bestRoad_50 ?_
      refine fv_iload C 4 rfl dX11_bestRoad_52 ?_
      refine fv_imul C dX11_bestRoad_54 ?_
      refine fv_iload C 2 rfl dX11_bestRoad_55 ?_
      refine fv_iadd C dX11_bestRoad_57 ?_
      replace h := fi_s h
      obtain ⟨a11, ea11, ka11, ia11, h⟩ := h
      refine fv_iald C ea11 ka11 ia11 dX11_bestRoad_58 ?_
      refine fv_aload_n C 0 rfl rfl dX11_bestRoad_59 ?_
      refine fv_getR C fl_RX11_87 ea10 ka10 dX11_bestRoad_60 ?_
      refine fv_bipush (v := 12) C (by decide) dX11_bestRoad_63 ?_
      refine fv_iload C 3 rfl dX11_bestRoad_65 ?_
      refine fv_imul C dX11_bestRoad_67 ?_
      refine fv_iload C 2 rfl dX11_bestRoad_68 ?_
      refine fv_iadd C dX11_bestRoad_70 ?_
      replace h := fi_s h
      obtain ⟨a12, ea12, ka12, ia12, h⟩ := h
      refine fv_iald C ea12 ka12 ia12 dX11_bestRoad_71 ?_
      refine fv_icmp_ge C 79 (by decide) dX11_bestRoad_72 (fun c13 => ?_) (fun c13 => ?_)
      · replace h := itT c13 h
        refine fv_sub (cc := ⟨#[]⟩) (own := "") [0, 1, 2, 3, 4] rfl ?_
        exact r_X11_bestRoad_J79 C E ih _ _ _ _ _ _ h
      · replace h := itF c13 h
        refine fv_iload C 4 rfl dX11_bestRoad_75 ?_
        refine fv_istore (i := 5) (lv' := [(5, .int v6), (0, va_rf (some t)), (3, .int v3), (4, .int v4), (6, .int v6)]) C (by decide) (by first | rfl | simp [va_rf_cat]) dX11_bestRoad_77 ?_
        refine fv_sub (cc := ⟨#[]⟩) (own := "") [1, 2, 3, 0, 4] rfl ?_
        exact r_X11_bestRoad_J79 C E ih _ _ _ _ _ _ h
set_option maxRecDepth 10000 in
theorem r_X11_bestRoad (l : Launch) (D : fh_D) (A : Nat → Prop) {K : fh_K} {sz : Nat} {M : fh_M} {M' : fh_M} {r : Int32} {t : Nat} {p1 : Int32} {p2 : Int32} (h : f_X11_bestRoad K M t p1 p2 = some (r, M')) : fh_Met l yX11_bestRoad cX11_bestRoad 9 (some .int) rm_X11_bestRoad D K M sz A [va_rf (some t), .int p1, .int p2] (some (.int r)) K M' sz := by
  refine fh_enter (by decide) (by simp [lg_sl, va_rf_cat, cat_i, cat_l]) (lv := [(0, va_rf (some t)), (1, .int p1), (2, .int p2)]) (by simp [lv_args, va_rf_cat, cat_i, cat_l]) ?_
  intro X C E hnm _ _ _
  replace C : fh_C X 9 cX11_bestRoad RX11 := C
  unfold f_X11_bestRoad at h
  refine fv_aload_n C 0 rfl rfl dX11_bestRoad_0 ?_
  replace h := fo_s h
  obtain ⟨a1, ea1, ka1, h⟩ := h
  refine fv_getR C fl_RX11_36 ea1 ka1 dX11_bestRoad_1 ?_
  refine fv_iload_n C 1 rfl rfl dX11_bestRoad_4 ?_
  replace h := fi_s h
  obtain ⟨a2, ea2, ka2, ia2, h⟩ := h
  refine fv_iald C ea2 ka2 ia2 dX11_bestRoad_5 ?_
  refine fv_aload_n C 0 rfl rfl dX11_bestRoad_6 ?_
  refine fv_iload_n C 1 rfl rfl dX11_bestRoad_7 ?_
  replace h := fc2_s h
  obtain ⟨r3, M4, er3, h⟩ := h
  refine fv_callV [.int p1] C mi_X11_properties ms_X11_properties lk_RX11_177 ea1 ka1 (r_X11_properties _ _ _ er3) ⟨Nat.le_of_ble_eq_true rfl, Nat.le_of_ble_eq_true rfl⟩ ⟨Nat.le_of_ble_eq_true rfl, Nat.le_of_ble_eq_true rfl⟩ rfl rfl (by simp [va_rf_cat, cat_i, cat_l]) dX11_bestRoad_8 ?_
  show fh_V X rm_X11_bestRoad 9 (sz, 0, 0) K M4 _ _ [.int r3, .int (M.1 a2 p1.toNatClampNeg)]
  refine fv_iand C dX11_bestRoad_11 ?_
  refine fv_istore_n (i := 3) (lv' := [(3, .int ((M.1 a2 p1.toNatClampNeg) &&& r3)), (0, va_rf (some t)), (1, .int p1), (2, .int p2)]) C rfl (by decide) (by first | rfl | simp [va_rf_cat]) dX11_bestRoad_12 ?_
  refine fv_aload_n C 1 rfl rfl dX11_bestRoad_13 ?_
  refine fv_iload_n C 2 rfl rfl dX11_bestRoad_14 ?_
  replace h := fc2_s h
  obtain ⟨r5, M6, er5, h⟩ := h
  refine fv_callV [.int p1] C mi_X11_knows ms_X11_knows lk_RX11_156 ea1 ka1 (r_X11_knows _ _ _ er5) ⟨Nat.le_of_ble_eq_true rfl, Nat.le_of_ble_eq_true rfl⟩ ⟨Nat.le_of_ble_eq_true rfl, Nat.le_of_ble_eq_true rfl⟩ rfl rfl (by simp [va_rf_cat, cat_i, cat_l]) dX11_bestRoad_15 ?_
  show fh_V X rm_X11_bestRoad 9 (sz, 0, 0) K M6 _ _ [.int r5]
  refine fv_istore (i := 4) (lv' := [(4, .int r5), (3, .int ((M.1 a2 p1.toNatClampNeg) &&& r3)), (0, va_rf (some t)), (1, .int p1), (2, .int p2)]) C (by decide) (by first | rfl | simp [va_rf_cat]) dX11_bestRoad_18 ?_
  refine fv_iload C 0 rfl dX11_bestRoad_20 ?_
  refine fv_iconst (v := -1) C (by decide) dX11_bestRoad_22 ?_
  refine fv_icmp_ne C 28 (by decide) dX11_bestRoad_23 (fun c9 => ?_) (fun c9 => ?_)
  · replace h := itF c9 h
    refine fv_aload_n C 2 rfl rfl dX11_bestRoad_28 ?_
    refine fv_iload_n C 4 rfl rfl dX11_bestRoad_29 ?_
    refine fv_iload_n C 1 rfl rfl dX11_bestRoad_30 ?_
    replace h := bx h
    obtain ⟨M8, er7, h⟩ := h
    refine fv_callV [.int p2, .int ((M.1 a2 p1.toNatClampNeg) &&& r3)] C mi_X11_measures ms_X11_measures lk_RX11_180 ea1 ka1 (r_X11_measures _ _ _ er7) ⟨Nat.le_of_ble_eq_true rfl, Nat.le_of_ble_eq_true rfl⟩ ⟨Nat.le_of_ble_eq_true rfl, Nat.le_of_ble_eq_true rfl⟩ rfl rfl (by simp [va_rf_cat, cat_i, cat_l]) dX11_bestRoad_31 ?_
    show fh_V X rm_X11_bestRoad 9 (sz, 0, 0) K M8 _ _ []
    refine fv_iconst (v := 0) C (by decide) dX11_bestRoad_34 ?_
    refine fv_istore (i := 5) (lv' := [(5, .int 0), (4, .int r5), (3, .int ((M.1 a2 p1.toNatClampNeg) &&& r3)), (0, va_rf (some t)), (1, .int p1), (2, .int p2)]) C (by decide) (by first | rfl | simp [va_rf_cat]) dX11_bestRoad_35 ?_
    refine fv_iconst (v := 1) C (by decide) dX11_bestRoad_37 ?_
    refine fv_istore (i := 6) (lv' := [(6, .int 1), (5, .int 0), (4, .int r5), (3, .int ((M.1 a2 p1.toNatClampNeg) &&& r3)), (0, va_rf (some t)), (1, .int p1), (2, .int p2)]) C (by decide) (by first | rfl | simp [va_rf_cat]) dX11_bestRoad_38 ?_
    refine fv_sub (cc := ⟨#[]⟩) (own := "") [4, 3, 2, 1, 0] rfl ?_
    exact r_X11_bestRoad_L40 C E  4096 _ _ _ _ _ _ h
  · replace h := itT c9 h
    refine fv_iconst (v := -1) C (by decide) dX11_bestRoad_26 ?_
    cases h
    exact fv_iret (z := (0, 0, 0)) (st := []) C E dX11_bestRoad_27
abbrev rm_X11_road : Room := { frames := 5, cells := 0, slots := 0, locals := 126 }
set_option maxRecDepth 10000 in
theorem r_X11_road_L43 {X : fh_X} {K : fh_K} {sz : Nat} {M' : fh_M} {r : Int32} (C : fh_C X 5 cX11_road RX11) (E : fh_E X rm_X11_road (some .int) (some (.int r)) K M' sz) : ∀ (n : Nat) (t : Nat) (v3 : Int32) (v4 : Int32) (M : fh_M), f_X11_road_L43 K n t v3 v4 M = some (r, M') → fh_V X rm_X11_road 5 (sz, 0, 0) K M 43 [(0, va_rf (some t)), (3, .int v3), (4, .int v4)] [] := by
  intro n
  induction n with
  | zero => intro t v3 v4 M h; cases h
  | succ n ih =>
    intro t v3 v4 M h
    unfold f_X11_road_L43 at h
    refine fv_iload C 2 rfl dX11_road_43 ?_
    refine fv_aload_n C 0 rfl rfl dX11_road_45 ?_
    replace h := fo_s h
    obtain ⟨a10, ea10, ka10, h⟩ := h
    refine fv_getI C fl_RX11_184 ea10 ka10 dX11_road_46 ?_
    refine fv_icmp_ge C 72 (by decide) dX11_road_49 (fun c14 => ?_) (fun c14 => ?_)
    · replace h := itT c14 h
      refine fv_iload_n C 1 rfl rfl dX11_road_72 ?_
      cases h
      exact fv_iret (z := (0, 0, 0)) (st := []) C E dX11_road_73
    · replace h := itF c14 h
      refine fv_aload_n C 0 rfl rfl dX11_road_52 ?_
      refine fv_getR C fl_RX11_93 ea10 ka10 dX11_road_53 ?_
      refine fv_iload C 2 rfl dX11_road_56 ?_
      refine fv_aload_n C 0 rfl rfl dX11_road_58 ?_
      refine fv_getR C fl_RX11_90 ea10 ka10 dX11_road_59 ?_
      refine fv_iload C 2 rfl dX11_road_62 ?_
      replace h := fi_s h
      obtain ⟨a11, ea11, ka11, ia11, h⟩ := h
      refine fv_iald C ea11 ka11 ia11 dX11_road_64 ?_
      replace h := fi_s h
      obtain ⟨a12, ea12, ka12, ia12, h⟩ := h
      replace h := fb_s h
      obtain ⟨M13, eM13, h⟩ := h
      refine fv_iast C ea12 ka12 ia12 dX11_road_65 (fv_eqM eM13 ?_)
      refine fv_iinc (v := v4 + 1) (lv' := [(4, .int (v4 + 1)), (0, va_rf (some t)), (3, .int v3)]) C 2 rfl (by first | rfl | exact congrArg _ (by decide)) (by decide) (by first | rfl | simp [va_rf_cat]) dX11_road_66 ?_
      refine fv_goto C 43 (by decide) dX11_road_69 ?_
      refine fv_sub (cc := ⟨#[]⟩) (own := "") [1, 2, 0] rfl ?_
      exact ih _ _ _ _ h
set_option maxRecDepth 10000 in
theorem r_X11_road (l : Launch) (D : fh_D) (A : Nat → Prop) {K : fh_K} {sz : Nat} {M : fh_M} {M' : fh_M} {r : Int32} {t : Nat} {p1 : Int32} {p2 : Int32} (h : f_X11_road K M t p1 p2 = some (r, M')) : fh_Met l yX11_road cX11_road 5 (some .int) rm_X11_road D K M sz A [va_rf (some t), .int p1, .int p2] (some (.int r)) K M' sz := by
  refine fh_enter (by decide) (by simp [lg_sl, va_rf_cat, cat_i, cat_l]) (lv := [(0, va_rf (some t)), (1, .int p1), (2, .int p2)]) (by simp [lv_args, va_rf_cat, cat_i, cat_l]) ?_
  intro X C E hnm _ _ _
  replace C : fh_C X 5 cX11_road RX11 := C
  unfold f_X11_road at h
  refine fv_aload_n C 0 rfl rfl dX11_road_0 ?_
  refine fv_iload_n C 1 rfl rfl dX11_road_1 ?_
  replace h := fo_s h
  obtain ⟨a1, ea1, ka1, h⟩ := h
  replace h := bx h
  obtain ⟨r2, er2, h⟩ := h
  refine fv_callV [.int p1] C mi_X11_isFile ms_X11_isFile lk_RX11_120 ea1 ka1 (r_X11_isFile _ _ _ er2) ⟨Nat.le_of_ble_eq_true rfl, Nat.le_of_ble_eq_true rfl⟩ ⟨Nat.le_of_ble_eq_true rfl, Nat.le_of_ble_eq_true rfl⟩ rfl rfl (by simp [va_rf_cat, cat_i, cat_l]) dX11_road_2 ?_
  show fh_V X rm_X11_road 5 (sz, 0, 0) K M _ _ [.int r2]
  refine fv_if_eq C 16 (by decide) dX11_road_5 (fun c9 => ?_) (fun c9 => ?_)
  · replace h := itT c9 h
    refine fv_iconst (v := -1) C (by decide) dX11_road_16 ?_
    cases h
    exact fv_iret (z := (0, 0, 0)) (st := []) C E dX11_road_17
  · replace h := itF c9 h
    refine fv_aload_n C 0 rfl rfl dX11_road_8 ?_
    refine fv_iload_n C 2 rfl rfl dX11_road_9 ?_
    replace h := bx h
    obtain ⟨r3, er3, h⟩ := h
    refine fv_callV [.int p2] C mi_X11_isMake ms_X11_isMake lk_RX11_127 ea1 ka1 (r_X11_isMake _ _ _ er3) ⟨Nat.le_of_ble_eq_true rfl, Nat.le_of_ble_eq_true rfl⟩ ⟨Nat.le_of_ble_eq_true rfl, Nat.le_of_ble_eq_true rfl⟩ rfl rfl (by simp [va_rf_cat, cat_i, cat_l]) dX11_road_10 ?_
    show fh_V X rm_X11_road 5 (sz, 0, 0) K M _ _ [.int r3]
    refine fv_if_ne C 18 (by decide) dX11_road_13 (fun c8 => ?_) (fun c8 => ?_)
    · replace h := itF c8 h
      refine fv_aload_n C 0 rfl rfl dX11_road_18 ?_
      refine fv_iload_n C 1 rfl rfl dX11_road_19 ?_
      refine fv_iload_n C 2 rfl rfl dX11_road_20 ?_
      replace h := fc2_s h
      obtain ⟨r4, M5, er4, h⟩ := h
      refine fv_callV [.int p1, .int p2] C mi_X11_bestRoad ms_X11_bestRoad lk_RX11_187 ea1 ka1 (r_X11_bestRoad _ _ _ er4) ⟨Nat.le_of_ble_eq_true rfl, Nat.le_of_ble_eq_true rfl⟩ ⟨Nat.le_of_ble_eq_true rfl, Nat.le_of_ble_eq_true rfl⟩ rfl rfl (by simp [va_rf_cat, cat_i, cat_l]) dX11_road_21 ?_
      show fh_V X rm_X11_road 5 (sz, 0, 0) K M5 _ _ [.int r4]
      refine fv_istore_n (i := 3) (lv' := [(3, .int r4), (0, va_rf (some t)), (1, .int p1), (2, .int p2)]) C rfl (by decide) (by first | rfl | simp [va_rf_cat]) dX11_road_24 ?_
      refine fv_iload_n C 0 rfl rfl dX11_road_25 ?_
      refine fv_iconst (v := -1) C (by decide) dX11_road_26 ?_
      refine fv_icmp_ne C 32 (by decide) dX11_road_27 (fun c7 => ?_) (fun c7 => ?_)
      · replace h := itF c7 h
        refine fv_aload_n C 1 rfl rfl dX11_road_32 ?_
        refine fv_aload_n C 1 rfl rfl dX11_road_33 ?_
        refine fv_getI C fl_RX11_184 ea1 ka1 dX11_road_34 ?_
        replace h := fb_s h
        obtain ⟨M6, eM6, h⟩ := h
        refine fv_putI (fin := false) C fl_RX11_190 ea1 ka1 (narrow_i _) dX11_road_37 (fv_eqM eM6 ?_)
        refine fv_iconst (v := 0) C (by decide) dX11_road_40 ?_
        refine fv_istore (i := 4) (lv' := [(4, .int 0), (3, .int r4), (0, va_rf (some t)), (1, .int p1), (2, .int p2)]) C (by decide) (by first | rfl | simp [va_rf_cat]) dX11_road_41 ?_
        refine fv_sub (cc := ⟨#[]⟩) (own := "") [2, 1, 0] rfl ?_
        exact r_X11_road_L43 C E  4096 _ _ _ _ h
      · replace h := itT c7 h
        refine fv_iconst (v := -1) C (by decide) dX11_road_30 ?_
        cases h
        exact fv_iret (z := (0, 0, 0)) (st := []) C E dX11_road_31
    · replace h := itT c8 h
      refine fv_iconst (v := -1) C (by decide) dX11_road_16 ?_
      cases h
      exact fv_iret (z := (0, 0, 0)) (st := []) C E dX11_road_17
abbrev rm_X11_step : Room := { frames := 1, cells := 0, slots := 0, locals := 22 }
set_option maxRecDepth 10000 in
theorem r_X11_step (l : Launch) (D : fh_D) (A : Nat → Prop) {K : fh_K} {sz : Nat} {M : fh_M} {r : Int32} {t : Nat} {p1 : Int32} (h : f_X11_step K M t p1 = some r) : fh_Met l yX11_step cX11_step 2 (some .int) rm_X11_step D K M sz A [va_rf (some t), .int p1] (some (.int r)) K M sz := by
  refine fh_enter (by decide) (by simp [lg_sl, va_rf_cat, cat_i, cat_l]) (lv := [(0, va_rf (some t)), (1, .int p1)]) (by simp [lv_args, va_rf_cat, cat_i, cat_l]) ?_
  intro X C E hnm _ _ _
  replace C : fh_C X 2 cX11_step RX11 := C
  unfold f_X11_step at h
  refine fv_iload_n C 1 rfl rfl dX11_step_0 ?_
  refine fv_iconst (v := 0) C (by decide) dX11_step_1 ?_
  refine fv_aload_n C 0 rfl rfl dX11_step_2 ?_
  replace h := fo_s h
  obtain ⟨a1, ea1, ka1, h⟩ := h
  refine fv_getI C fl_RX11_190 ea1 ka1 dX11_step_3 ?_
  refine fv_iconst (v := 1) C (by decide) dX11_step_6 ?_
  refine fv_isub C dX11_step_7 ?_
  replace h := bx h
  obtain ⟨r2, er2, h⟩ := h
  refine fv_callS [.int p1, .int 0, .int ((M.1 a1 37) - 1)] C mi_X11_lies lk_RX11_110 (r_X11_lies _ _ _ er2) ⟨Nat.le_of_ble_eq_true rfl, Nat.le_of_ble_eq_true rfl⟩ ⟨Nat.le_of_ble_eq_true rfl, Nat.le_of_ble_eq_true rfl⟩ rfl rfl (by simp [va_rf_cat, cat_i, cat_l]) dX11_step_8 ?_
  show fh_V X rm_X11_step 2 (sz, 0, 0) K M _ _ [.int r2]
  refine fv_if_eq C 23 (by decide) dX11_step_11 (fun c4 => ?_) (fun c4 => ?_)
  · replace h := itT c4 h
    refine fv_iconst (v := -1) C (by decide) dX11_step_23 ?_
    cases h
    exact fv_iret (z := (0, 0, 0)) (st := []) C E dX11_step_24
  · replace h := itF c4 h
    refine fv_aload_n C 0 rfl rfl dX11_step_14 ?_
    refine fv_getR C fl_RX11_93 ea1 ka1 dX11_step_15 ?_
    refine fv_iload_n C 1 rfl rfl dX11_step_18 ?_
    replace h := fi_s h
    obtain ⟨a3, ea3, ka3, ia3, h⟩ := h
    refine fv_iald C ea3 ka3 ia3 dX11_step_19 ?_
    refine fv_goto C 24 (by decide) dX11_step_20 ?_
    cases h
    exact fv_iret (z := (0, 0, 0)) (st := []) C E dX11_step_24
abbrev rm_X11_lives : Room := { frames := 0, cells := 0, slots := 0, locals := 0 }
set_option maxRecDepth 10000 in
theorem r_X11_lives (l : Launch) (D : fh_D) (A : Nat → Prop) {K : fh_K} {sz : Nat} {M : fh_M} {r : Int32} {t : Nat} {p1 : Int32} {p2 : Int32} (h : f_X11_lives K M t p1 p2 = some r) : fh_Met l yX11_lives cX11_lives 3 (some .int) rm_X11_lives D K M sz A [va_rf (some t), .int p1, .int p2] (some (.int r)) K M sz := by
  refine fh_enter (by decide) (by simp [lg_sl, va_rf_cat, cat_i, cat_l]) (lv := [(0, va_rf (some t)), (1, .int p1), (2, .int p2)]) (by simp [lv_args, va_rf_cat, cat_i, cat_l]) ?_
  intro X C E hnm _ _ _
  replace C : fh_C X 3 cX11_lives RX11 := C
  unfold f_X11_lives at h
  refine fv_iload_n C 2 rfl rfl dX11_lives_0 ?_
  refine fv_if_eq C 13 (by decide) dX11_lives_1 (fun c5 => ?_) (fun c5 => ?_)
  · replace h := itT c5 h
    refine fv_aload_n C 0 rfl rfl dX11_lives_13 ?_
    replace h := fo_s h
    obtain ⟨a1, ea1, ka1, h⟩ := h
    refine fv_getR C fl_RX11_45 ea1 ka1 dX11_lives_14 ?_
    refine fv_iload_n C 1 rfl rfl dX11_lives_17 ?_
    replace h := fi_s h
    obtain ⟨a2, ea2, ka2, ia2, h⟩ := h
    refine fv_iald C ea2 ka2 ia2 dX11_lives_18 ?_
    cases h
    exact fv_iret (z := (0, 0, 0)) (st := []) C E dX11_lives_19
  · replace h := itF c5 h
    refine fv_aload_n C 0 rfl rfl dX11_lives_4 ?_
    replace h := fo_s h
    obtain ⟨a3, ea3, ka3, h⟩ := h
    refine fv_getR C fl_RX11_42 ea3 ka3 dX11_lives_5 ?_
    refine fv_iload_n C 1 rfl rfl dX11_lives_8 ?_
    replace h := fi_s h
    obtain ⟨a4, ea4, ka4, ia4, h⟩ := h
    refine fv_iald C ea4 ka4 ia4 dX11_lives_9 ?_
    refine fv_goto C 19 (by decide) dX11_lives_10 ?_
    cases h
    exact fv_iret (z := (0, 0, 0)) (st := []) C E dX11_lives_19
abbrev rm_X11_lastOf : Room := { frames := 3, cells := 0, slots := 0, locals := 74 }
set_option maxRecDepth 10000 in
theorem r_X11_lastOf_J287 {X : fh_X} {K : fh_K} {sz : Nat} {M' : fh_M} {r : Int32} (C : fh_C X 8 cX11_lastOf RX11) (E : fh_E X rm_X11_lastOf (some .int) (some (.int r)) K M' sz) {rec19 : Nat → Int32 → Int32 → Int32 → Int32 → fh_M → Option (Int32 × fh_M)} (hrec19 : ∀ (t : Nat) (v2 : Int32) (v3 : Int32) (v4 : Int32) (v5 : Int32) (M : fh_M), rec19 t v2 v3 v4 v5 M = some (r, M') → fh_V X rm_X11_lastOf 8 (sz, 0, 0) K M 19 [(0, va_rf (some t)), (2, .int v2), (3, .int v3), (4, .int v4), (5, .int v5)] []) (t : Nat) (v2 : Int32) (v3 : Int32) (v5 : Int32) (s0 : Int32) (M : fh_M) (h : f_X11_lastOf_J287 K rec19 t v2 v3 v5 s0 M = some (r, M')) : fh_V X rm_X11_lastOf 8 (sz, 0, 0) K M 287 [(0, va_rf (some t)), (2, .int v2), (3, .int v3), (5, .int v5)] [.int s0] := by
  unfold f_X11_lastOf_J287 at h
  refine fv_istore (i := 4) (lv' := [(4, .int s0), (0, va_rf (some t)), (2, .int v2), (3, .int v3), (5, .int v5)]) C (by decide) (by first | rfl | simp [va_rf_cat]) dX11_lastOf_287 ?_
  refine fv_iinc (v := v5 + 1) (lv' := [(5, .int (v5 + 1)), (4, .int s0), (0, va_rf (some t)), (2, .int v2), (3, .int v3)]) C 4 rfl (by first | rfl | exact congrArg _ (by decide)) (by decide) (by first | rfl | simp [va_rf_cat]) dX11_lastOf_289 ?_
  refine fv_goto C 19 (by decide) dX11_lastOf_292 ?_
  refine fv_sub (cc := ⟨#[]⟩) (own := "") [2, 3, 4, 1, 0] rfl ?_
  exact hrec19 _ _ _ _ _ _ h
set_option maxRecDepth 10000 in
theorem r_X11_lastOf_J253 {X : fh_X} {K : fh_K} {sz : Nat} {M' : fh_M} {r : Int32} (C : fh_C X 8 cX11_lastOf RX11) (E : fh_E X rm_X11_lastOf (some .int) (some (.int r)) K M' sz) {rec19 : Nat → Int32 → Int32 → Int32 → Int32 → fh_M → Option (Int32 × fh_M)} (hrec19 : ∀ (t : Nat) (v2 : Int32) (v3 : Int32) (v4 : Int32) (v5 : Int32) (M : fh_M), rec19 t v2 v3 v4 v5 M = some (r, M') → fh_V X rm_X11_lastOf 8 (sz, 0, 0) K M 19 [(0, va_rf (some t)), (2, .int v2), (3, .int v3), (4, .int v4), (5, .int v5)] []) (t : Nat) (v2 : Int32) (v3 : Int32) (v4 : Int32) (v5 : Int32) (M : fh_M) (h : f_X11_lastOf_J253 K rec19 t v2 v3 v4 v5 M = some (r, M')) : fh_V X rm_X11_lastOf 8 (sz, 0, 0) K M 253 [(0, va_rf (some t)), (2, .int v2), (3, .int v3), (4, .int v4), (5, .int v5)] [] := by
  unfold f_X11_lastOf_J253 at h
  refine fv_aload_n C 0 rfl rfl dX11_lastOf_253 ?_
  replace h := fo_s h
  obtain ⟨a34, ea34, ka34, h⟩ := h
  refine fv_getR C fl_RX11_96 ea34 ka34 dX11_lastOf_254 ?_
  refine fv_bipush (v := 12) C (by decide) dX11_lastOf_257 ?_
  refine fv_iload C 4 rfl dX11_lastOf_259 ?_
  refine fv_imul C dX11_lastOf_261 ?_
  refine fv_iload_n C 2 rfl rfl dX11_lastOf_262 ?_
  refine fv_iadd C dX11_lastOf_263 ?_
  replace h := fi_s h
  obtain ⟨a35, ea35, ka35, ia35, h⟩ := h
  refine fv_iald C ea35 ka35 ia35 dX11_lastOf_264 ?_
  refine fv_iload C 3 rfl dX11_lastOf_265 ?_
  refine fv_icmp_le C 285 (by decide) dX11_lastOf_267 (fun c36 => ?_) (fun c36 => ?_)
  · replace h := itT c36 h
    refine fv_iload C 3 rfl dX11_lastOf_285 ?_
    refine fv_sub (cc := ⟨#[]⟩) (own := "") [0, 1, 2, 4] rfl ?_
    exact r_X11_lastOf_J287 C E hrec19 _ _ _ _ _ _ h
  · replace h := itF c36 h
    refine fv_aload_n C 0 rfl rfl dX11_lastOf_270 ?_
    refine fv_getR C fl_RX11_96 ea34 ka34 dX11_lastOf_271 ?_
    refine fv_bipush (v := 12) C (by decide) dX11_lastOf_274 ?_
    refine fv_iload C 4 rfl dX11_lastOf_276 ?_
    refine fv_imul C dX11_lastOf_278 ?_
    refine fv_iload_n C 2 rfl rfl dX11_lastOf_279 ?_
    refine fv_iadd C dX11_lastOf_280 ?_
    refine fv_iald C ea35 ka35 ia35 dX11_lastOf_281 ?_
    refine fv_goto C 287 (by decide) dX11_lastOf_282 ?_
    refine fv_sub (cc := ⟨#[]⟩) (own := "") [0, 1, 2, 4] rfl ?_
    exact r_X11_lastOf_J287 C E hrec19 _ _ _ _ _ _ h
set_option maxRecDepth 10000 in
theorem r_X11_lastOf_J247 {X : fh_X} {K : fh_K} {sz : Nat} {M' : fh_M} {r : Int32} (C : fh_C X 8 cX11_lastOf RX11) (E : fh_E X rm_X11_lastOf (some .int) (some (.int r)) K M' sz) {rec19 : Nat → Int32 → Int32 → Int32 → Int32 → fh_M → Option (Int32 × fh_M)} (hrec19 : ∀ (t : Nat) (v2 : Int32) (v3 : Int32) (v4 : Int32) (v5 : Int32) (M : fh_M), rec19 t v2 v3 v4 v5 M = some (r, M') → fh_V X rm_X11_lastOf 8 (sz, 0, 0) K M 19 [(0, va_rf (some t)), (2, .int v2), (3, .int v3), (4, .int v4), (5, .int v5)] []) {rec132 : Nat → Int32 → Int32 → Int32 → Int32 → Int32 → fh_M → Option (Int32 × fh_M)} (hrec132 : ∀ (t : Nat) (v2 : Int32) (v3 : Int32) (v4 : Int32) (v5 : Int32) (v6 : Int32) (M : fh_M), rec132 t v2 v3 v4 v5 v6 M = some (r, M') → fh_V X rm_X11_lastOf 8 (sz, 0, 0) K M 132 [(0, va_rf (some t)), (2, .int v2), (3, .int v3), (4, .int v4), (5, .int v5), (6, .int v6)] []) (t : Nat) (v2 : Int32) (v3 : Int32) (v4 : Int32) (v5 : Int32) (v6 : Int32) (M : fh_M) (h : f_X11_lastOf_J247 K rec19 rec132 t v2 v3 v4 v5 v6 M = some (r, M')) : fh_V X rm_X11_lastOf 8 (sz, 0, 0) K M 247 [(0, va_rf (some t)), (2, .int v2), (3, .int v3), (4, .int v4), (5, .int v5), (6, .int v6)] [] := by
  unfold f_X11_lastOf_J247 at h
  refine fv_iinc (v := v6 + 1) (lv' := [(6, .int (v6 + 1)), (0, va_rf (some t)), (2, .int v2), (3, .int v3), (4, .int v4), (5, .int v5)]) C 5 rfl (by first | rfl | exact congrArg _ (by decide)) (by decide) (by first | rfl | simp [va_rf_cat]) dX11_lastOf_247 ?_
  refine fv_goto C 132 (by decide) dX11_lastOf_250 ?_
  refine fv_sub (cc := ⟨#[]⟩) (own := "") [1, 2, 3, 4, 5, 0] rfl ?_
  exact hrec132 _ _ _ _ _ _ _ h
set_option maxRecDepth 10000 in
theorem r_X11_lastOf_J202 {X : fh_X} {K : fh_K} {sz : Nat} {M' : fh_M} {r : Int32} (C : fh_C X 8 cX11_lastOf RX11) (E : fh_E X rm_X11_lastOf (some .int) (some (.int r)) K M' sz) {rec19 : Nat → Int32 → Int32 → Int32 → Int32 → fh_M → Option (Int32 × fh_M)} (hrec19 : ∀ (t : Nat) (v2 : Int32) (v3 : Int32) (v4 : Int32) (v5 : Int32) (M : fh_M), rec19 t v2 v3 v4 v5 M = some (r, M') → fh_V X rm_X11_lastOf 8 (sz, 0, 0) K M 19 [(0, va_rf (some t)), (2, .int v2), (3, .int v3), (4, .int v4), (5, .int v5)] []) {rec132 : Nat → Int32 → Int32 → Int32 → Int32 → Int32 → fh_M → Option (Int32 × fh_M)} (hrec132 : ∀ (t : Nat) (v2 : Int32) (v3 : Int32) (v4 : Int32) (v5 : Int32) (v6 : Int32) (M : fh_M), rec132 t v2 v3 v4 v5 v6 M = some (r, M') → fh_V X rm_X11_lastOf 8 (sz, 0, 0) K M 132 [(0, va_rf (some t)), (2, .int v2), (3, .int v3), (4, .int v4), (5, .int v5), (6, .int v6)] []) (t : Nat) (v2 : Int32) (v3 : Int32) (v4 : Int32) (v5 : Int32) (v6 : Int32) (s0 : Int32) (M : fh_M) (h : f_X11_lastOf_J202 K rec19 rec132 t v2 v3 v4 v5 v6 s0 M = some (r, M')) : fh_V X rm_X11_lastOf 8 (sz, 0, 0) K M 202 [(0, va_rf (some t)), (2, .int v2), (3, .int v3), (4, .int v4), (5, .int v5), (6, .int v6)] [.int s0] := by
  unfold f_X11_lastOf_J202 at h
  refine fv_istore (i := 7) (lv' := [(7, .int s0), (0, va_rf (some t)), (2, .int v2), (3, .int v3), (4, .int v4), (5, .int v5), (6, .int v6)]) C (by decide) (by first | rfl | simp [va_rf_cat]) dX11_lastOf_202 ?_
  refine fv_iload C 0 rfl dX11_lastOf_204 ?_
  refine fv_aload_n C 1 rfl rfl dX11_lastOf_206 ?_
  replace h := fo_s h
  obtain ⟨a29, ea29, ka29, h⟩ := h
  refine fv_getR C fl_RX11_96 ea29 ka29 dX11_lastOf_207 ?_
  refine fv_bipush (v := 12) C (by decide) dX11_lastOf_210 ?_
  refine fv_iload C 5 rfl dX11_lastOf_212 ?_
  refine fv_imul C dX11_lastOf_214 ?_
  refine fv_aload_n C 1 rfl rfl dX11_lastOf_215 ?_
  refine fv_getR C fl_RX11_54 ea29 ka29 dX11_lastOf_216 ?_
  refine fv_iload C 6 rfl dX11_lastOf_219 ?_
  replace h := fi_s h
  obtain ⟨a30, ea30, ka30, ia30, h⟩ := h
  refine fv_iald C ea30 ka30 ia30 dX11_lastOf_221 ?_
  refine fv_iadd C dX11_lastOf_222 ?_
  replace h := fi_s h
  obtain ⟨a31, ea31, ka31, ia31, h⟩ := h
  refine fv_iald C ea31 ka31 ia31 dX11_lastOf_223 ?_
  refine fv_icmp_le C 247 (by decide) dX11_lastOf_224 (fun c33 => ?_) (fun c33 => ?_)
  · replace h := itT c33 h
    refine fv_sub (cc := ⟨#[]⟩) (own := "") [1, 2, 3, 4, 5, 6] rfl ?_
    exact r_X11_lastOf_J247 C E hrec19 hrec132 _ _ _ _ _ _ _ h
  · replace h := itF c33 h
    refine fv_aload_n C 1 rfl rfl dX11_lastOf_227 ?_
    refine fv_getR C fl_RX11_96 ea29 ka29 dX11_lastOf_228 ?_
    refine fv_bipush (v := 12) C (by decide) dX11_lastOf_231 ?_
    refine fv_iload C 5 rfl dX11_lastOf_233 ?_
    refine fv_imul C dX11_lastOf_235 ?_
    refine fv_aload_n C 1 rfl rfl dX11_lastOf_236 ?_
    refine fv_getR C fl_RX11_54 ea29 ka29 dX11_lastOf_237 ?_
    refine fv_iload C 6 rfl dX11_lastOf_240 ?_
    refine fv_iald C ea30 ka30 ia30 dX11_lastOf_242 ?_
    refine fv_iadd C dX11_lastOf_243 ?_
    refine fv_iload C 0 rfl dX11_lastOf_244 ?_
    replace h := fb_s h
    obtain ⟨M32, eM32, h⟩ := h
    refine fv_iast C ea31 ka31 ia31 dX11_lastOf_246 (fv_eqM eM32 ?_)
    refine fv_sub (cc := ⟨#[]⟩) (own := "") [1, 2, 3, 4, 5, 6] rfl ?_
    exact r_X11_lastOf_J247 C E hrec19 hrec132 _ _ _ _ _ _ _ h
set_option maxRecDepth 10000 in
theorem r_X11_lastOf_L132 {X : fh_X} {K : fh_K} {sz : Nat} {M' : fh_M} {r : Int32} (C : fh_C X 8 cX11_lastOf RX11) (E : fh_E X rm_X11_lastOf (some .int) (some (.int r)) K M' sz) {rec19 : Nat → Int32 → Int32 → Int32 → Int32 → fh_M → Option (Int32 × fh_M)} (hrec19 : ∀ (t : Nat) (v2 : Int32) (v3 : Int32) (v4 : Int32) (v5 : Int32) (M : fh_M), rec19 t v2 v3 v4 v5 M = some (r, M') → fh_V X rm_X11_lastOf 8 (sz, 0, 0) K M 19 [(0, va_rf (some t)), (2, .int v2), (3, .int v3), (4, .int v4), (5, .int v5)] []) : ∀ (n : Nat) (t : Nat) (v2 : Int32) (v3 : Int32) (v4 : Int32) (v5 : Int32) (v6 : Int32) (M : fh_M), f_X11_lastOf_L132 K rec19 n t v2 v3 v4 v5 v6 M = some (r, M') → fh_V X rm_X11_lastOf 8 (sz, 0, 0) K M 132 [(0, va_rf (some t)), (2, .int v2), (3, .int v3), (4, .int v4), (5, .int v5), (6, .int v6)] [] := by
  intro n
  induction n with
  | zero => intro t v2 v3 v4 v5 v6 M h; cases h
  | succ n ih =>
    intro t v2 v3 v4 v5 v6 M h
    unfold f_X11_lastOf_L132 at h
    refine fv_iload C 5 rfl dX11_lastOf_132 ?_
    refine fv_aload_n C 0 rfl rfl dX11_lastOf_134 ?_
    replace h := fo_s h
    obtain ⟨a20, ea20, ka20, h⟩ := h
    refine fv_getI C fl_RX11_133 ea20 ka20 dX11_lastOf_135 ?_
    refine fv_icmp_ge C 253 (by decide) dX11_lastOf_138 (fun c28 => ?_) (fun c28 => ?_)
    · replace h := itT c28 h
      refine fv_sub (cc := ⟨#[]⟩) (own := "") [0, 1, 2, 3, 4] rfl ?_
      exact r_X11_lastOf_J253 C E hrec19 _ _ _ _ _ _ h
    · replace h := itF c28 h
      refine fv_iload C 4 rfl dX11_lastOf_141 ?_
      refine fv_if_le C 253 (by decide) dX11_lastOf_143 (fun c27 => ?_) (fun c27 => ?_)
      · replace h := itT c27 h
        refine fv_sub (cc := ⟨#[]⟩) (own := "") [0, 1, 2, 3, 4] rfl ?_
        exact r_X11_lastOf_J253 C E hrec19 _ _ _ _ _ _ h
      · replace h := itF c27 h
        refine fv_aload_n C 0 rfl rfl dX11_lastOf_146 ?_
        refine fv_getR C fl_RX11_96 ea20 ka20 dX11_lastOf_147 ?_
        refine fv_bipush (v := 12) C (by decide) dX11_lastOf_150 ?_
        refine fv_iload C 4 rfl dX11_lastOf_152 ?_
        refine fv_iconst (v := 1) C (by decide) dX11_lastOf_154 ?_
        refine fv_isub C dX11_lastOf_155 ?_
        refine fv_imul C dX11_lastOf_156 ?_
        refine fv_aload_n C 0 rfl rfl dX11_lastOf_157 ?_
        refine fv_getR C fl_RX11_57 ea20 ka20 dX11_lastOf_158 ?_
        refine fv_iload C 5 rfl dX11_lastOf_161 ?_
        replace h := fi_s h
        obtain ⟨a21, ea21, ka21, ia21, h⟩ := h
        refine fv_iald C ea21 ka21 ia21 dX11_lastOf_163 ?_
        refine fv_iadd C dX11_lastOf_164 ?_
        replace h := fi_s h
        obtain ⟨a22, ea22, ka22, ia22, h⟩ := h
        refine fv_iald C ea22 ka22 ia22 dX11_lastOf_165 ?_
        refine fv_istore (i := 7) (lv' := [(7, .int (M.1 a22 ((12 * (v5 - 1)) + (M.1 a21 v6.toNatClampNeg)).toNatClampNeg)), (0, va_rf (some t)), (2, .int v2), (3, .int v3), (4, .int v4), (5, .int v5), (6, .int v6)]) C (by decide) (by first | rfl | simp [va_rf_cat]) dX11_lastOf_166 ?_
        refine fv_aload_n C 1 rfl rfl dX11_lastOf_168 ?_
        refine fv_aload_n C 1 rfl rfl dX11_lastOf_169 ?_
        refine fv_getR C fl_RX11_66 ea20 ka20 dX11_lastOf_170 ?_
        refine fv_iload C 6 rfl dX11_lastOf_173 ?_
        replace h := fi_s h
        obtain ⟨a23, ea23, ka23, ia23, h⟩ := h
        refine fv_iald C ea23 ka23 ia23 dX11_lastOf_175 ?_
        refine fv_iload_n C 2 rfl rfl dX11_lastOf_176 ?_
        replace h := bx h
        obtain ⟨r24, er24, h⟩ := h
        refine fv_callV [.int (M.1 a23 v6.toNatClampNeg), .int v2] C mi_X11_lives ms_X11_lives lk_RX11_193 ea20 ka20 (r_X11_lives _ _ _ er24) ⟨Nat.le_of_ble_eq_true rfl, Nat.le_of_ble_eq_true rfl⟩ ⟨Nat.le_of_ble_eq_true rfl, Nat.le_of_ble_eq_true rfl⟩ rfl rfl (by simp [va_rf_cat, cat_i, cat_l]) dX11_lastOf_177 ?_
        show fh_V X rm_X11_lastOf 8 (sz, 0, 0) K M _ _ [.int r24]
        refine fv_iload C 0 rfl dX11_lastOf_180 ?_
        refine fv_icmp_ge C 200 (by decide) dX11_lastOf_182 (fun c26 => ?_) (fun c26 => ?_)
        · replace h := itT c26 h
          refine fv_iload C 0 rfl dX11_lastOf_200 ?_
          refine fv_sub (cc := ⟨#[]⟩) (own := "") [1, 2, 3, 4, 5, 6] rfl ?_
          exact r_X11_lastOf_J202 C E hrec19 ih _ _ _ _ _ _ _ _ h
        · replace h := itF c26 h
          refine fv_aload_n C 1 rfl rfl dX11_lastOf_185 ?_
          refine fv_aload_n C 1 rfl rfl dX11_lastOf_186 ?_
          refine fv_getR C fl_RX11_66 ea20 ka20 dX11_lastOf_187 ?_
          refine fv_iload C 6 rfl dX11_lastOf_190 ?_
          refine fv_iald C ea23 ka23 ia23 dX11_lastOf_192 ?_
          refine fv_iload_n C 2 rfl rfl dX11_lastOf_193 ?_
          replace h := bx h
          obtain ⟨r25, er25, h⟩ := h
          refine fv_callV [.int (M.1 a23 v6.toNatClampNeg), .int v2] C mi_X11_lives ms_X11_lives lk_RX11_193 ea20 ka20 (r_X11_lives _ _ _ er25) ⟨Nat.le_of_ble_eq_true rfl, Nat.le_of_ble_eq_true rfl⟩ ⟨Nat.le_of_ble_eq_true rfl, Nat.le_of_ble_eq_true rfl⟩ rfl rfl (by simp [va_rf_cat, cat_i, cat_l]) dX11_lastOf_194 ?_
          show fh_V X rm_X11_lastOf 8 (sz, 0, 0) K M _ _ [.int r25]
          refine fv_goto C 202 (by decide) dX11_lastOf_197 ?_
          refine fv_sub (cc := ⟨#[]⟩) (own := "") [1, 2, 3, 4, 5, 6] rfl ?_
          exact r_X11_lastOf_J202 C E hrec19 ih _ _ _ _ _ _ _ _ h
set_option maxRecDepth 10000 in
theorem r_X11_lastOf_J129 {X : fh_X} {K : fh_K} {sz : Nat} {M' : fh_M} {r : Int32} (C : fh_C X 8 cX11_lastOf RX11) (E : fh_E X rm_X11_lastOf (some .int) (some (.int r)) K M' sz) {rec19 : Nat → Int32 → Int32 → Int32 → Int32 → fh_M → Option (Int32 × fh_M)} (hrec19 : ∀ (t : Nat) (v2 : Int32) (v3 : Int32) (v4 : Int32) (v5 : Int32) (M : fh_M), rec19 t v2 v3 v4 v5 M = some (r, M') → fh_V X rm_X11_lastOf 8 (sz, 0, 0) K M 19 [(0, va_rf (some t)), (2, .int v2), (3, .int v3), (4, .int v4), (5, .int v5)] []) (t : Nat) (v2 : Int32) (v3 : Int32) (v4 : Int32) (v5 : Int32) (M : fh_M) (h : f_X11_lastOf_J129 K rec19 t v2 v3 v4 v5 M = some (r, M')) : fh_V X rm_X11_lastOf 8 (sz, 0, 0) K M 129 [(0, va_rf (some t)), (2, .int v2), (3, .int v3), (4, .int v4), (5, .int v5)] [] := by
  unfold f_X11_lastOf_J129 at h
  refine fv_iconst (v := 0) C (by decide) dX11_lastOf_129 ?_
  refine fv_istore (i := 6) (lv' := [(6, .int 0), (0, va_rf (some t)), (2, .int v2), (3, .int v3), (4, .int v4), (5, .int v5)]) C (by decide) (by first | rfl | simp [va_rf_cat]) dX11_lastOf_130 ?_
  refine fv_sub (cc := ⟨#[]⟩) (own := "") [1, 2, 3, 4, 5, 0] rfl ?_
  exact r_X11_lastOf_L132 C E hrec19 4096 _ _ _ _ _ _ _ h
set_option maxRecDepth 10000 in
theorem r_X11_lastOf_J123 {X : fh_X} {K : fh_K} {sz : Nat} {M' : fh_M} {r : Int32} (C : fh_C X 8 cX11_lastOf RX11) (E : fh_E X rm_X11_lastOf (some .int) (some (.int r)) K M' sz) {rec19 : Nat → Int32 → Int32 → Int32 → Int32 → fh_M → Option (Int32 × fh_M)} (hrec19 : ∀ (t : Nat) (v2 : Int32) (v3 : Int32) (v4 : Int32) (v5 : Int32) (M : fh_M), rec19 t v2 v3 v4 v5 M = some (r, M') → fh_V X rm_X11_lastOf 8 (sz, 0, 0) K M 19 [(0, va_rf (some t)), (2, .int v2), (3, .int v3), (4, .int v4), (5, .int v5)] []) {rec58 : Nat → Int32 → Int32 → Int32 → Int32 → Int32 → fh_M → Option (Int32 × fh_M)} (hrec58 : ∀ (t : Nat) (v2 : Int32) (v3 : Int32) (v4 : Int32) (v5 : Int32) (v6 : Int32) (M : fh_M), rec58 t v2 v3 v4 v5 v6 M = some (r, M') → fh_V X rm_X11_lastOf 8 (sz, 0, 0) K M 58 [(0, va_rf (some t)), (2, .int v2), (3, .int v3), (4, .int v4), (5, .int v5), (6, .int v6)] []) (t : Nat) (v2 : Int32) (v3 : Int32) (v4 : Int32) (v5 : Int32) (v6 : Int32) (M : fh_M) (h : f_X11_lastOf_J123 K rec19 rec58 t v2 v3 v4 v5 v6 M = some (r, M')) : fh_V X rm_X11_lastOf 8 (sz, 0, 0) K M 123 [(0, va_rf (some t)), (2, .int v2), (3, .int v3), (4, .int v4), (5, .int v5), (6, .int v6)] [] := by
  unfold f_X11_lastOf_J123 at h
  refine fv_iinc (v := v6 + 1) (lv' := [(6, .int (v6 + 1)), (0, va_rf (some t)), (2, .int v2), (3, .int v3), (4, .int v4), (5, .int v5)]) C 5 rfl (by first | rfl | exact congrArg _ (by decide)) (by decide) (by first | rfl | simp [va_rf_cat]) dX11_lastOf_123 ?_
  refine fv_goto C 58 (by decide) dX11_lastOf_126 ?_
  refine fv_sub (cc := ⟨#[]⟩) (own := "") [1, 2, 3, 4, 5, 0] rfl ?_
  exact hrec58 _ _ _ _ _ _ _ h
set_option maxRecDepth 10000 in
theorem r_X11_lastOf_L58 {X : fh_X} {K : fh_K} {sz : Nat} {M' : fh_M} {r : Int32} (C : fh_C X 8 cX11_lastOf RX11) (E : fh_E X rm_X11_lastOf (some .int) (some (.int r)) K M' sz) {rec19 : Nat → Int32 → Int32 → Int32 → Int32 → fh_M → Option (Int32 × fh_M)} (hrec19 : ∀ (t : Nat) (v2 : Int32) (v3 : Int32) (v4 : Int32) (v5 : Int32) (M : fh_M), rec19 t v2 v3 v4 v5 M = some (r, M') → fh_V X rm_X11_lastOf 8 (sz, 0, 0) K M 19 [(0, va_rf (some t)), (2, .int v2), (3, .int v3), (4, .int v4), (5, .int v5)] []) : ∀ (n : Nat) (t : Nat) (v2 : Int32) (v3 : Int32) (v4 : Int32) (v5 : Int32) (v6 : Int32) (M : fh_M), f_X11_lastOf_L58 K rec19 n t v2 v3 v4 v5 v6 M = some (r, M') → fh_V X rm_X11_lastOf 8 (sz, 0, 0) K M 58 [(0, va_rf (some t)), (2, .int v2), (3, .int v3), (4, .int v4), (5, .int v5), (6, .int v6)] [] := by
  intro n
  induction n with
  | zero => intro t v2 v3 v4 v5 v6 M h; cases h
  | succ n ih =>
    intro t v2 v3 v4 v5 v6 M h
    unfold f_X11_lastOf_L58 at h
    refine fv_iload C 5 rfl dX11_lastOf_58 ?_
    refine fv_aload_n C 0 rfl rfl dX11_lastOf_60 ?_
    replace h := fo_s h
    obtain ⟨a10, ea10, ka10, h⟩ := h
    refine fv_getI C fl_RX11_130 ea10 ka10 dX11_lastOf_61 ?_
    refine fv_icmp_ge C 129 (by decide) dX11_lastOf_64 (fun c19 => ?_) (fun c19 => ?_)
    · replace h := itT c19 h
      refine fv_sub (cc := ⟨#[]⟩) (own := "") [0, 1, 2, 3, 4] rfl ?_
      exact r_X11_lastOf_J129 C E hrec19 _ _ _ _ _ _ h
    · replace h := itF c19 h
      refine fv_iload C 4 rfl dX11_lastOf_67 ?_
      refine fv_if_ne C 129 (by decide) dX11_lastOf_69 (fun c18 => ?_) (fun c18 => ?_)
      · replace h := itF c18 h
        refine fv_sub (cc := ⟨#[]⟩) (own := "") [0, 1, 2, 3, 4] rfl ?_
        exact r_X11_lastOf_J129 C E hrec19 _ _ _ _ _ _ h
      · replace h := itT c18 h
        refine fv_aload_n C 0 rfl rfl dX11_lastOf_72 ?_
        refine fv_aload_n C 0 rfl rfl dX11_lastOf_73 ?_
        refine fv_getR C fl_RX11_51 ea10 ka10 dX11_lastOf_74 ?_
        refine fv_iload C 5 rfl dX11_lastOf_77 ?_
        replace h := fi_s h
        obtain ⟨a11, ea11, ka11, ia11, h⟩ := h
        refine fv_iald C ea11 ka11 ia11 dX11_lastOf_79 ?_
        refine fv_iload_n C 1 rfl rfl dX11_lastOf_80 ?_
        replace h := bx h
        obtain ⟨r12, er12, h⟩ := h
        refine fv_callV [.int (M.1 a11 v6.toNatClampNeg), .int v2] C mi_X11_lives ms_X11_lives lk_RX11_193 ea10 ka10 (r_X11_lives _ _ _ er12) ⟨Nat.le_of_ble_eq_true rfl, Nat.le_of_ble_eq_true rfl⟩ ⟨Nat.le_of_ble_eq_true rfl, Nat.le_of_ble_eq_true rfl⟩ rfl rfl (by simp [va_rf_cat, cat_i, cat_l]) dX11_lastOf_81 ?_
        show fh_V X rm_X11_lastOf 8 (sz, 0, 0) K M _ _ [.int r12]
        refine fv_aload_n C 0 rfl rfl dX11_lastOf_84 ?_
        refine fv_getR C fl_RX11_96 ea10 ka10 dX11_lastOf_85 ?_
        refine fv_aload_n C 0 rfl rfl dX11_lastOf_88 ?_
        refine fv_getR C fl_RX11_48 ea10 ka10 dX11_lastOf_89 ?_
        refine fv_iload C 5 rfl dX11_lastOf_92 ?_
        replace h := fi_s h
        obtain ⟨a13, ea13, ka13, ia13, h⟩ := h
        refine fv_iald C ea13 ka13 ia13 dX11_lastOf_94 ?_
        replace h := fi_s h
        obtain ⟨a14, ea14, ka14, ia14, h⟩ := h
        refine fv_iald C ea14 ka14 ia14 dX11_lastOf_95 ?_
        refine fv_icmp_le C 123 (by decide) dX11_lastOf_96 (fun c17 => ?_) (fun c17 => ?_)
        · replace h := itT c17 h
          refine fv_sub (cc := ⟨#[]⟩) (own := "") [0, 1, 2, 3, 4, 5] rfl ?_
          exact r_X11_lastOf_J123 C E hrec19 ih _ _ _ _ _ _ _ h
        · replace h := itF c17 h
          refine fv_aload_n C 0 rfl rfl dX11_lastOf_99 ?_
          refine fv_getR C fl_RX11_96 ea10 ka10 dX11_lastOf_100 ?_
          refine fv_aload_n C 0 rfl rfl dX11_lastOf_103 ?_
          refine fv_getR C fl_RX11_48 ea10 ka10 dX11_lastOf_104 ?_
          refine fv_iload C 5 rfl dX11_lastOf_107 ?_
          refine fv_iald C ea13 ka13 ia13 dX11_lastOf_109 ?_
          refine fv_aload_n C 0 rfl rfl dX11_lastOf_110 ?_
          refine fv_aload_n C 0 rfl rfl dX11_lastOf_111 ?_
          refine fv_getR C fl_RX11_51 ea10 ka10 dX11_lastOf_112 ?_
          refine fv_iload C 5 rfl dX11_lastOf_115 ?_
          refine fv_iald C ea11 ka11 ia11 dX11_lastOf_117 ?_
          refine fv_iload_n C 1 rfl rfl dX11_lastOf_118 ?_
          replace h := bx h
          obtain ⟨r15, er15, h⟩ := h
          refine fv_callV [.int (M.1 a11 v6.toNatClampNeg), .int v2] C mi_X11_lives ms_X11_lives lk_RX11_193 ea10 ka10 (r_X11_lives _ _ _ er15) ⟨Nat.le_of_ble_eq_true rfl, Nat.le_of_ble_eq_true rfl⟩ ⟨Nat.le_of_ble_eq_true rfl, Nat.le_of_ble_eq_true rfl⟩ rfl rfl (by simp [va_rf_cat, cat_i, cat_l]) dX11_lastOf_119 ?_
          show fh_V X rm_X11_lastOf 8 (sz, 0, 0) K M _ _ [.int r15, .int (M.1 a13 v6.toNatClampNeg), va_rf (M.2.2 a10 39)]
          replace h := fb_s h
          obtain ⟨M16, eM16, h⟩ := h
          refine fv_iast C ea14 ka14 ia14 dX11_lastOf_122 (fv_eqM eM16 ?_)
          refine fv_sub (cc := ⟨#[]⟩) (own := "") [0, 1, 2, 3, 4, 5] rfl ?_
          exact r_X11_lastOf_J123 C E hrec19 ih _ _ _ _ _ _ _ h
set_option maxRecDepth 10000 in
theorem r_X11_lastOf_J55 {X : fh_X} {K : fh_K} {sz : Nat} {M' : fh_M} {r : Int32} (C : fh_C X 8 cX11_lastOf RX11) (E : fh_E X rm_X11_lastOf (some .int) (some (.int r)) K M' sz) {rec19 : Nat → Int32 → Int32 → Int32 → Int32 → fh_M → Option (Int32 × fh_M)} (hrec19 : ∀ (t : Nat) (v2 : Int32) (v3 : Int32) (v4 : Int32) (v5 : Int32) (M : fh_M), rec19 t v2 v3 v4 v5 M = some (r, M') → fh_V X rm_X11_lastOf 8 (sz, 0, 0) K M 19 [(0, va_rf (some t)), (2, .int v2), (3, .int v3), (4, .int v4), (5, .int v5)] []) (t : Nat) (v2 : Int32) (v3 : Int32) (v4 : Int32) (v5 : Int32) (M : fh_M) (h : f_X11_lastOf_J55 K rec19 t v2 v3 v4 v5 M = some (r, M')) : fh_V X rm_X11_lastOf 8 (sz, 0, 0) K M 55 [(0, va_rf (some t)), (2, .int v2), (3, .int v3), (4, .int v4), (5, .int v5)] [] := by
  unfold f_X11_lastOf_J55 at h
  refine fv_iconst (v := 0) C (by decide) dX11_lastOf_55 ?_
  refine fv_istore (i := 6) (lv' := [(6, .int 0), (0, va_rf (some t)), (2, .int v2), (3, .int v3), (4, .int v4), (5, .int v5)]) C (by decide) (by first | rfl | simp [va_rf_cat]) dX11_lastOf_56 ?_
  refine fv_sub (cc := ⟨#[]⟩) (own := "") [1, 2, 3, 4, 5, 0] rfl ?_
  exact r_X11_lastOf_L58 C E hrec19 4096 _ _ _ _ _ _ _ h
set_option maxRecDepth 10000 in
theorem r_X11_lastOf_L28 {X : fh_X} {K : fh_K} {sz : Nat} {M' : fh_M} {r : Int32} (C : fh_C X 8 cX11_lastOf RX11) (E : fh_E X rm_X11_lastOf (some .int) (some (.int r)) K M' sz) {rec19 : Nat → Int32 → Int32 → Int32 → Int32 → fh_M → Option (Int32 × fh_M)} (hrec19 : ∀ (t : Nat) (v2 : Int32) (v3 : Int32) (v4 : Int32) (v5 : Int32) (M : fh_M), rec19 t v2 v3 v4 v5 M = some (r, M') → fh_V X rm_X11_lastOf 8 (sz, 0, 0) K M 19 [(0, va_rf (some t)), (2, .int v2), (3, .int v3), (4, .int v4), (5, .int v5)] []) : ∀ (n : Nat) (t : Nat) (v2 : Int32) (v3 : Int32) (v4 : Int32) (v5 : Int32) (v6 : Int32) (M : fh_M), f_X11_lastOf_L28 K rec19 n t v2 v3 v4 v5 v6 M = some (r, M') → fh_V X rm_X11_lastOf 8 (sz, 0, 0) K M 28 [(0, va_rf (some t)), (2, .int v2), (3, .int v3), (4, .int v4), (5, .int v5), (6, .int v6)] [] := by
  intro n
  induction n with
  | zero => intro t v2 v3 v4 v5 v6 M h; cases h
  | succ n ih =>
    intro t v2 v3 v4 v5 v6 M h
    unfold f_X11_lastOf_L28 at h
    refine fv_iload C 5 rfl dX11_lastOf_28 ?_
    refine fv_bipush (v := 12) C (by decide) dX11_lastOf_30 ?_
    refine fv_icmp_ge C 55 (by decide) dX11_lastOf_32 (fun c9 => ?_) (fun c9 => ?_)
    · replace h := itT c9 h
      refine fv_sub (cc := ⟨#[]⟩) (own := "") [0, 1, 2, 3, 4] rfl ?_
      exact r_X11_lastOf_J55 C E hrec19 _ _ _ _ _ _ h
    · replace h := itF c9 h
      refine fv_aload_n C 0 rfl rfl dX11_lastOf_35 ?_
      replace h := fo_s h
      obtain ⟨a6, ea6, ka6, h⟩ := h
      refine fv_getR C fl_RX11_96 ea6 ka6 dX11_lastOf_36 ?_
      refine fv_bipush (v := 12) C (by decide) dX11_lastOf_39 ?_
      refine fv_iload C 4 rfl dX11_lastOf_41 ?_
      refine fv_imul C dX11_lastOf_43 ?_
      refine fv_iload C 5 rfl dX11_lastOf_44 ?_
      refine fv_iadd C dX11_lastOf_46 ?_
      refine fv_iconst (v := -1) C (by decide) dX11_lastOf_47 ?_
      replace h := fi_s h
      obtain ⟨a7, ea7, ka7, ia7, h⟩ := h
      replace h := fb_s h
      obtain ⟨M8, eM8, h⟩ := h
      refine fv_iast C ea7 ka7 ia7 dX11_lastOf_48 (fv_eqM eM8 ?_)
      refine fv_iinc (v := v6 + 1) (lv' := [(6, .int (v6 + 1)), (0, va_rf (some t)), (2, .int v2), (3, .int v3), (4, .int v4), (5, .int v5)]) C 5 rfl (by first | rfl | exact congrArg _ (by decide)) (by decide) (by first | rfl | simp [va_rf_cat]) dX11_lastOf_49 ?_
      refine fv_goto C 28 (by decide) dX11_lastOf_52 ?_
      refine fv_sub (cc := ⟨#[]⟩) (own := "") [1, 2, 3, 4, 5, 0] rfl ?_
      exact ih _ _ _ _ _ _ _ h
set_option maxRecDepth 10000 in
theorem r_X11_lastOf_L19 {X : fh_X} {K : fh_K} {sz : Nat} {M' : fh_M} {r : Int32} (C : fh_C X 8 cX11_lastOf RX11) (E : fh_E X rm_X11_lastOf (some .int) (some (.int r)) K M' sz) : ∀ (n : Nat) (t : Nat) (v2 : Int32) (v3 : Int32) (v4 : Int32) (v5 : Int32) (M : fh_M), f_X11_lastOf_L19 K n t v2 v3 v4 v5 M = some (r, M') → fh_V X rm_X11_lastOf 8 (sz, 0, 0) K M 19 [(0, va_rf (some t)), (2, .int v2), (3, .int v3), (4, .int v4), (5, .int v5)] [] := by
  intro n
  induction n with
  | zero => intro t v2 v3 v4 v5 M h; cases h
  | succ n ih =>
    intro t v2 v3 v4 v5 M h
    unfold f_X11_lastOf_L19 at h
    refine fv_iload C 4 rfl dX11_lastOf_19 ?_
    refine fv_iconst (v := 4) C (by decide) dX11_lastOf_21 ?_
    refine fv_icmp_gt C 295 (by decide) dX11_lastOf_22 (fun c5 => ?_) (fun c5 => ?_)
    · replace h := itT c5 h
      refine fv_iload C 3 rfl dX11_lastOf_295 ?_
      cases h
      exact fv_iret (z := (0, 0, 0)) (st := []) C E dX11_lastOf_297
    · replace h := itF c5 h
      refine fv_iconst (v := 0) C (by decide) dX11_lastOf_25 ?_
      refine fv_istore (i := 6) (lv' := [(6, .int 0), (0, va_rf (some t)), (2, .int v2), (3, .int v3), (4, .int v4), (5, .int v5)]) C (by decide) (by first | rfl | simp [va_rf_cat]) dX11_lastOf_26 ?_
      refine fv_sub (cc := ⟨#[]⟩) (own := "") [1, 2, 3, 4, 5, 0] rfl ?_
      exact r_X11_lastOf_L28 C E ih 4096 _ _ _ _ _ _ _ h
set_option maxRecDepth 10000 in
theorem r_X11_lastOf (l : Launch) (D : fh_D) (A : Nat → Prop) {K : fh_K} {sz : Nat} {M : fh_M} {M' : fh_M} {r : Int32} {t : Nat} {p1 : Int32} {p2 : Int32} (h : f_X11_lastOf K M t p1 p2 = some (r, M')) : fh_Met l yX11_lastOf cX11_lastOf 8 (some .int) rm_X11_lastOf D K M sz A [va_rf (some t), .int p1, .int p2] (some (.int r)) K M' sz := by
  refine fh_enter (by decide) (by simp [lg_sl, va_rf_cat, cat_i, cat_l]) (lv := [(0, va_rf (some t)), (1, .int p1), (2, .int p2)]) (by simp [lv_args, va_rf_cat, cat_i, cat_l]) ?_
  intro X C E hnm _ _ _
  replace C : fh_C X 8 cX11_lastOf RX11 := C
  unfold f_X11_lastOf at h
  refine fv_aload_n C 0 rfl rfl dX11_lastOf_0 ?_
  refine fv_iload_n C 1 rfl rfl dX11_lastOf_1 ?_
  replace h := fo_s h
  obtain ⟨a1, ea1, ka1, h⟩ := h
  replace h := fc2_s h
  obtain ⟨r2, M3, er2, h⟩ := h
  refine fv_callV [.int p1] C mi_X11_knows ms_X11_knows lk_RX11_156 ea1 ka1 (r_X11_knows _ _ _ er2) ⟨Nat.le_of_ble_eq_true rfl, Nat.le_of_ble_eq_true rfl⟩ ⟨Nat.le_of_ble_eq_true rfl, Nat.le_of_ble_eq_true rfl⟩ rfl rfl (by simp [va_rf_cat, cat_i, cat_l]) dX11_lastOf_2 ?_
  show fh_V X rm_X11_lastOf 8 (sz, 0, 0) K M3 _ _ [.int r2]
  refine fv_istore_n (i := 3) (lv' := [(3, .int r2), (0, va_rf (some t)), (1, .int p1), (2, .int p2)]) C rfl (by decide) (by first | rfl | simp [va_rf_cat]) dX11_lastOf_5 ?_
  refine fv_iload_n C 0 rfl rfl dX11_lastOf_6 ?_
  refine fv_iconst (v := -1) C (by decide) dX11_lastOf_7 ?_
  refine fv_icmp_ne C 13 (by decide) dX11_lastOf_8 (fun c4 => ?_) (fun c4 => ?_)
  · replace h := itF c4 h
    refine fv_iconst (v := -1) C (by decide) dX11_lastOf_13 ?_
    refine fv_istore (i := 4) (lv' := [(4, .int ((-1))), (3, .int r2), (0, va_rf (some t)), (1, .int p1), (2, .int p2)]) C (by decide) (by first | rfl | simp [va_rf_cat]) dX11_lastOf_14 ?_
    refine fv_iconst (v := 0) C (by decide) dX11_lastOf_16 ?_
    refine fv_istore (i := 5) (lv' := [(5, .int 0), (4, .int ((-1))), (3, .int r2), (0, va_rf (some t)), (1, .int p1), (2, .int p2)]) C (by decide) (by first | rfl | simp [va_rf_cat]) dX11_lastOf_17 ?_
    refine fv_sub (cc := ⟨#[]⟩) (own := "") [3, 5, 2, 1, 0] rfl ?_
    exact r_X11_lastOf_L19 C E  4096 _ _ _ _ _ _ h
  · replace h := itT c4 h
    refine fv_iconst (v := -1) C (by decide) dX11_lastOf_11 ?_
    cases h
    exact fv_iret (z := (0, 0, 0)) (st := []) C E dX11_lastOf_12
abbrev rm_X11_last : Room := { frames := 4, cells := 0, slots := 0, locals := 101 }
set_option maxRecDepth 10000 in
theorem r_X11_last (l : Launch) (D : fh_D) (A : Nat → Prop) {K : fh_K} {sz : Nat} {M : fh_M} {M' : fh_M} {r : Int32} {t : Nat} {p1 : Int32} {p2 : Int32} (h : f_X11_last K M t p1 p2 = some (r, M')) : fh_Met l yX11_last cX11_last 3 (some .int) rm_X11_last D K M sz A [va_rf (some t), .int p1, .int p2] (some (.int r)) K M' sz := by
  refine fh_enter (by decide) (by simp [lg_sl, va_rf_cat, cat_i, cat_l]) (lv := [(0, va_rf (some t)), (1, .int p1), (2, .int p2)]) (by simp [lv_args, va_rf_cat, cat_i, cat_l]) ?_
  intro X C E hnm _ _ _
  replace C : fh_C X 3 cX11_last RX11 := C
  unfold f_X11_last at h
  refine fv_aload_n C 0 rfl rfl dX11_last_0 ?_
  refine fv_iload_n C 1 rfl rfl dX11_last_1 ?_
  replace h := fo_s h
  obtain ⟨a1, ea1, ka1, h⟩ := h
  replace h := bx h
  obtain ⟨r2, er2, h⟩ := h
  refine fv_callV [.int p1] C mi_X11_isFile ms_X11_isFile lk_RX11_120 ea1 ka1 (r_X11_isFile _ _ _ er2) ⟨Nat.le_of_ble_eq_true rfl, Nat.le_of_ble_eq_true rfl⟩ ⟨Nat.le_of_ble_eq_true rfl, Nat.le_of_ble_eq_true rfl⟩ rfl rfl (by simp [va_rf_cat, cat_i, cat_l]) dX11_last_2 ?_
  show fh_V X rm_X11_last 3 (sz, 0, 0) K M _ _ [.int r2]
  refine fv_if_eq C 17 (by decide) dX11_last_5 (fun c5 => ?_) (fun c5 => ?_)
  · replace h := itT c5 h
    refine fv_iconst (v := -1) C (by decide) dX11_last_17 ?_
    cases h
    exact fv_iret (z := (0, 0, 0)) (st := []) C E dX11_last_18
  · replace h := itF c5 h
    refine fv_aload_n C 0 rfl rfl dX11_last_8 ?_
    refine fv_iload_n C 1 rfl rfl dX11_last_9 ?_
    refine fv_iload_n C 2 rfl rfl dX11_last_10 ?_
    replace h := fc2_s h
    obtain ⟨r3, M4, er3, h⟩ := h
    refine fv_callV [.int p1, .int p2] C mi_X11_lastOf ms_X11_lastOf lk_RX11_197 ea1 ka1 (r_X11_lastOf _ _ _ er3) ⟨Nat.le_of_ble_eq_true rfl, Nat.le_of_ble_eq_true rfl⟩ ⟨Nat.le_of_ble_eq_true rfl, Nat.le_of_ble_eq_true rfl⟩ rfl rfl (by simp [va_rf_cat, cat_i, cat_l]) dX11_last_11 ?_
    show fh_V X rm_X11_last 3 (sz, 0, 0) K M4 _ _ [.int r3]
    refine fv_goto C 18 (by decide) dX11_last_14 ?_
    cases h
    exact fv_iret (z := (0, 0, 0)) (st := []) C E dX11_last_18
abbrev rm_X11_isRead : Room := { frames := 0, cells := 0, slots := 0, locals := 0 }
set_option maxRecDepth 10000 in
theorem r_X11_isRead_J37 {X : fh_X} {K : fh_K} {sz : Nat} {M : fh_M} {r : Int32} (C : fh_C X 4 cX11_isRead RX11) (E : fh_E X rm_X11_isRead (some .boolean) (some (.int r)) K M sz) {rec2 : Nat → Int32 → Int32 → Int32 → Option (Int32)} (hrec2 : ∀ (t : Nat) (v1 : Int32) (v2 : Int32) (v3 : Int32), rec2 t v1 v2 v3 = some r → fh_V X rm_X11_isRead 4 (sz, 0, 0) K M 2 [(0, va_rf (some t)), (1, .int v1), (2, .int v2), (3, .int v3)] []) (t : Nat) (v1 : Int32) (v2 : Int32) (v3 : Int32) (h : f_X11_isRead_J37 K M rec2 t v1 v2 v3 = some r) : fh_V X rm_X11_isRead 4 (sz, 0, 0) K M 37 [(0, va_rf (some t)), (1, .int v1), (2, .int v2), (3, .int v3)] [] := by
  unfold f_X11_isRead_J37 at h
  refine fv_iinc (v := v3 + 1) (lv' := [(3, .int (v3 + 1)), (0, va_rf (some t)), (1, .int v1), (2, .int v2)]) C 3 rfl (by first | rfl | exact congrArg _ (by decide)) (by decide) (by first | rfl | simp [va_rf_cat]) dX11_isRead_37 ?_
  refine fv_goto C 2 (by decide) dX11_isRead_40 ?_
  refine fv_sub (cc := ⟨#[]⟩) (own := "") [1, 2, 3, 0] rfl ?_
  exact hrec2 _ _ _ _ h
set_option maxRecDepth 10000 in
theorem r_X11_isRead_L2 {X : fh_X} {K : fh_K} {sz : Nat} {M : fh_M} {r : Int32} (C : fh_C X 4 cX11_isRead RX11) (E : fh_E X rm_X11_isRead (some .boolean) (some (.int r)) K M sz) : ∀ (n : Nat) (t : Nat) (v1 : Int32) (v2 : Int32) (v3 : Int32), f_X11_isRead_L2 K M n t v1 v2 v3 = some r → fh_V X rm_X11_isRead 4 (sz, 0, 0) K M 2 [(0, va_rf (some t)), (1, .int v1), (2, .int v2), (3, .int v3)] [] := by
  intro n
  induction n with
  | zero => intro t v1 v2 v3 h; cases h
  | succ n ih =>
    intro t v1 v2 v3 h
    unfold f_X11_isRead_L2 at h
    refine fv_iload_n C 3 rfl rfl dX11_isRead_2 ?_
    refine fv_aload_n C 0 rfl rfl dX11_isRead_3 ?_
    replace h := fo_s h
    obtain ⟨a1, ea1, ka1, h⟩ := h
    refine fv_getI C fl_RX11_130 ea1 ka1 dX11_isRead_4 ?_
    refine fv_icmp_ge C 43 (by decide) dX11_isRead_7 (fun c7 => ?_) (fun c7 => ?_)
    · replace h := itT c7 h
      refine fv_iconst (v := 0) C (by decide) dX11_isRead_43 ?_
      cases h
      exact fv_zret (z := (0, 0, 0)) (st := []) C E (Or.inl rfl) dX11_isRead_44
    · replace h := itF c7 h
      refine fv_aload_n C 0 rfl rfl dX11_isRead_10 ?_
      refine fv_getR C fl_RX11_48 ea1 ka1 dX11_isRead_11 ?_
      refine fv_iload_n C 3 rfl rfl dX11_isRead_14 ?_
      replace h := fi_s h
      obtain ⟨a2, ea2, ka2, ia2, h⟩ := h
      refine fv_iald C ea2 ka2 ia2 dX11_isRead_15 ?_
      refine fv_iload_n C 1 rfl rfl dX11_isRead_16 ?_
      refine fv_icmp_ne C 37 (by decide) dX11_isRead_17 (fun c6 => ?_) (fun c6 => ?_)
      · replace h := itF c6 h
        refine fv_sub (cc := ⟨#[]⟩) (own := "") [0, 1, 2, 3] rfl ?_
        exact r_X11_isRead_J37 C E ih _ _ _ _ h
      · replace h := itT c6 h
        refine fv_aload_n C 0 rfl rfl dX11_isRead_20 ?_
        refine fv_getR C fl_RX11_42 ea1 ka1 dX11_isRead_21 ?_
        refine fv_aload_n C 0 rfl rfl dX11_isRead_24 ?_
        refine fv_getR C fl_RX11_51 ea1 ka1 dX11_isRead_25 ?_
        refine fv_iload_n C 3 rfl rfl dX11_isRead_28 ?_
        replace h := fi_s h
        obtain ⟨a3, ea3, ka3, ia3, h⟩ := h
        refine fv_iald C ea3 ka3 ia3 dX11_isRead_29 ?_
        replace h := fi_s h
        obtain ⟨a4, ea4, ka4, ia4, h⟩ := h
        refine fv_iald C ea4 ka4 ia4 dX11_isRead_30 ?_
        refine fv_iload_n C 2 rfl rfl dX11_isRead_31 ?_
        refine fv_icmp_lt C 37 (by decide) dX11_isRead_32 (fun c5 => ?_) (fun c5 => ?_)
        · replace h := itT c5 h
          refine fv_sub (cc := ⟨#[]⟩) (own := "") [0, 1, 2, 3] rfl ?_
          exact r_X11_isRead_J37 C E ih _ _ _ _ h
        · replace h := itF c5 h
          refine fv_iconst (v := 1) C (by decide) dX11_isRead_35 ?_
          cases h
          exact fv_zret (z := (0, 0, 0)) (st := []) C E (Or.inr rfl) dX11_isRead_36
set_option maxRecDepth 10000 in
theorem r_X11_isRead (l : Launch) (D : fh_D) (A : Nat → Prop) {K : fh_K} {sz : Nat} {M : fh_M} {r : Int32} {t : Nat} {p1 : Int32} {p2 : Int32} (h : f_X11_isRead K M t p1 p2 = some r) : fh_Met l yX11_isRead cX11_isRead 4 (some .boolean) rm_X11_isRead D K M sz A [va_rf (some t), .int p1, .int p2] (some (.int r)) K M sz := by
  refine fh_enter (by decide) (by simp [lg_sl, va_rf_cat, cat_i, cat_l]) (lv := [(0, va_rf (some t)), (1, .int p1), (2, .int p2)]) (by simp [lv_args, va_rf_cat, cat_i, cat_l]) ?_
  intro X C E hnm _ _ _
  replace C : fh_C X 4 cX11_isRead RX11 := C
  unfold f_X11_isRead at h
  refine fv_iconst (v := 0) C (by decide) dX11_isRead_0 ?_
  refine fv_istore_n (i := 3) (lv' := [(3, .int 0), (0, va_rf (some t)), (1, .int p1), (2, .int p2)]) C rfl (by decide) (by first | rfl | simp [va_rf_cat]) dX11_isRead_1 ?_
  refine fv_sub (cc := ⟨#[]⟩) (own := "") [1, 2, 3, 0] rfl ?_
  exact r_X11_isRead_L2 C E  4096 _ _ _ _ h
abbrev rm_X11_isPlanned : Room := { frames := 3, cells := 0, slots := 0, locals := 74 }
set_option maxRecDepth 10000 in
theorem r_X11_isPlanned_J28 {X : fh_X} {K : fh_K} {sz : Nat} {M' : fh_M} {r : Int32} (C : fh_C X 3 cX11_isPlanned RX11) (E : fh_E X rm_X11_isPlanned (some .boolean) (some (.int r)) K M' sz) (t : Nat) (v1 : Int32) (M : fh_M) (h : f_X11_isPlanned_J28 K t v1 M = some (r, M')) : fh_V X rm_X11_isPlanned 3 (sz, 0, 0) K M 28 [(0, va_rf (some t)), (1, .int v1)] [] := by
  unfold f_X11_isPlanned_J28 at h
  refine fv_aload_n C 0 rfl rfl dX11_isPlanned_28 ?_
  refine fv_iload_n C 1 rfl rfl dX11_isPlanned_29 ?_
  replace h := fo_s h
  obtain ⟨a5, ea5, ka5, h⟩ := h
  replace h := fc2_s h
  obtain ⟨r6, M7, er6, h⟩ := h
  refine fv_callV [.int v1] C mi_X11_knows ms_X11_knows lk_RX11_156 ea5 ka5 (r_X11_knows _ _ _ er6) ⟨Nat.le_of_ble_eq_true rfl, Nat.le_of_ble_eq_true rfl⟩ ⟨Nat.le_of_ble_eq_true rfl, Nat.le_of_ble_eq_true rfl⟩ rfl rfl (by simp [va_rf_cat, cat_i, cat_l]) dX11_isPlanned_30 ?_
  show fh_V X rm_X11_isPlanned 3 (sz, 0, 0) K M7 _ _ [.int r6]
  refine fv_iconst (v := -1) C (by decide) dX11_isPlanned_33 ?_
  refine fv_icmp_eq C 41 (by decide) dX11_isPlanned_34 (fun c8 => ?_) (fun c8 => ?_)
  · replace h := itT c8 h
    refine fv_iconst (v := 0) C (by decide) dX11_isPlanned_41 ?_
    cases h
    exact fv_zret (z := (0, 0, 0)) (st := []) C E (Or.inl rfl) dX11_isPlanned_42
  · replace h := itF c8 h
    refine fv_iconst (v := 1) C (by decide) dX11_isPlanned_37 ?_
    refine fv_goto C 42 (by decide) dX11_isPlanned_38 ?_
    cases h
    exact fv_zret (z := (0, 0, 0)) (st := []) C E (Or.inr rfl) dX11_isPlanned_42
set_option maxRecDepth 10000 in
theorem r_X11_isPlanned_L2 {X : fh_X} {K : fh_K} {sz : Nat} {M' : fh_M} {r : Int32} (C : fh_C X 3 cX11_isPlanned RX11) (E : fh_E X rm_X11_isPlanned (some .boolean) (some (.int r)) K M' sz) : ∀ (n : Nat) (t : Nat) (v1 : Int32) (v2 : Int32) (M : fh_M), f_X11_isPlanned_L2 K n t v1 v2 M = some (r, M') → fh_V X rm_X11_isPlanned 3 (sz, 0, 0) K M 2 [(0, va_rf (some t)), (1, .int v1), (2, .int v2)] [] := by
  intro n
  induction n with
  | zero => intro t v1 v2 M h; cases h
  | succ n ih =>
    intro t v1 v2 M h
    unfold f_X11_isPlanned_L2 at h
    refine fv_iload_n C 2 rfl rfl dX11_isPlanned_2 ?_
    refine fv_aload_n C 0 rfl rfl dX11_isPlanned_3 ?_
    replace h := fo_s h
    obtain ⟨a1, ea1, ka1, h⟩ := h
    refine fv_getI C fl_RX11_117 ea1 ka1 dX11_isPlanned_4 ?_
    refine fv_icmp_ge C 28 (by decide) dX11_isPlanned_7 (fun c4 => ?_) (fun c4 => ?_)
    · replace h := itT c4 h
      refine fv_sub (cc := ⟨#[]⟩) (own := "") [0, 1] rfl ?_
      exact r_X11_isPlanned_J28 C E  _ _ _ h
    · replace h := itF c4 h
      refine fv_aload_n C 0 rfl rfl dX11_isPlanned_10 ?_
      refine fv_getR C fl_RX11_39 ea1 ka1 dX11_isPlanned_11 ?_
      refine fv_iload_n C 2 rfl rfl dX11_isPlanned_14 ?_
      replace h := fi_s h
      obtain ⟨a2, ea2, ka2, ia2, h⟩ := h
      refine fv_iald C ea2 ka2 ia2 dX11_isPlanned_15 ?_
      refine fv_iload_n C 1 rfl rfl dX11_isPlanned_16 ?_
      refine fv_icmp_ne C 22 (by decide) dX11_isPlanned_17 (fun c3 => ?_) (fun c3 => ?_)
      · replace h := itF c3 h
        refine fv_iinc (v := v2 + 1) (lv' := [(2, .int (v2 + 1)), (0, va_rf (some t)), (1, .int v1)]) C 2 rfl (by first | rfl | exact congrArg _ (by decide)) (by decide) (by first | rfl | simp [va_rf_cat]) dX11_isPlanned_22 ?_
        refine fv_goto C 2 (by decide) dX11_isPlanned_25 ?_
        refine fv_sub (cc := ⟨#[]⟩) (own := "") [1, 2, 0] rfl ?_
        exact ih _ _ _ _ h
      · replace h := itT c3 h
        refine fv_iconst (v := 0) C (by decide) dX11_isPlanned_20 ?_
        cases h
        exact fv_zret (z := (0, 0, 0)) (st := []) C E (Or.inl rfl) dX11_isPlanned_21
set_option maxRecDepth 10000 in
theorem r_X11_isPlanned (l : Launch) (D : fh_D) (A : Nat → Prop) {K : fh_K} {sz : Nat} {M : fh_M} {M' : fh_M} {r : Int32} {t : Nat} {p1 : Int32} (h : f_X11_isPlanned K M t p1 = some (r, M')) : fh_Met l yX11_isPlanned cX11_isPlanned 3 (some .boolean) rm_X11_isPlanned D K M sz A [va_rf (some t), .int p1] (some (.int r)) K M' sz := by
  refine fh_enter (by decide) (by simp [lg_sl, va_rf_cat, cat_i, cat_l]) (lv := [(0, va_rf (some t)), (1, .int p1)]) (by simp [lv_args, va_rf_cat, cat_i, cat_l]) ?_
  intro X C E hnm _ _ _
  replace C : fh_C X 3 cX11_isPlanned RX11 := C
  unfold f_X11_isPlanned at h
  refine fv_iconst (v := 0) C (by decide) dX11_isPlanned_0 ?_
  refine fv_istore_n (i := 2) (lv' := [(2, .int 0), (0, va_rf (some t)), (1, .int p1)]) C rfl (by decide) (by first | rfl | simp [va_rf_cat]) dX11_isPlanned_1 ?_
  refine fv_sub (cc := ⟨#[]⟩) (own := "") [1, 2, 0] rfl ?_
  exact r_X11_isPlanned_L2 C E  4096 _ _ _ _ h
abbrev rm_X11_isBetter : Room := { frames := 0, cells := 0, slots := 0, locals := 0 }
set_option maxRecDepth 10000 in
theorem r_X11_isBetter_J75 {X : fh_X} {K : fh_K} {sz : Nat} {M : fh_M} {r : Int32} (C : fh_C X 3 cX11_isBetter RX11) (E : fh_E X rm_X11_isBetter (some .boolean) (some (.int r)) K M sz) (t : Nat) (v2 : Int32) (h : f_X11_isBetter_J75 K M t v2 = some r) : fh_V X rm_X11_isBetter 3 (sz, 0, 0) K M 75 [(0, va_rf (some t)), (2, .int v2)] [] := by
  unfold f_X11_isBetter_J75 at h
  refine fv_aload_n C 0 rfl rfl dX11_isBetter_75 ?_
  replace h := fo_s h
  obtain ⟨a11, ea11, ka11, h⟩ := h
  refine fv_getR C fl_RX11_90 ea11 ka11 dX11_isBetter_76 ?_
  refine fv_iload_n C 1 rfl rfl dX11_isBetter_79 ?_
  replace h := fi_s h
  obtain ⟨a12, ea12, ka12, ia12, h⟩ := h
  refine fv_iald C ea12 ka12 ia12 dX11_isBetter_80 ?_
  refine fv_aload_n C 0 rfl rfl dX11_isBetter_81 ?_
  refine fv_getR C fl_RX11_99 ea11 ka11 dX11_isBetter_82 ?_
  refine fv_iload_n C 1 rfl rfl dX11_isBetter_85 ?_
  replace h := fi_s h
  obtain ⟨a13, ea13, ka13, ia13, h⟩ := h
  refine fv_iald C ea13 ka13 ia13 dX11_isBetter_86 ?_
  refine fv_icmp_ge C 94 (by decide) dX11_isBetter_87 (fun c14 => ?_) (fun c14 => ?_)
  · replace h := itT c14 h
    refine fv_iconst (v := 0) C (by decide) dX11_isBetter_94 ?_
    cases h
    exact fv_zret (z := (0, 0, 0)) (st := []) C E (Or.inl rfl) dX11_isBetter_95
  · replace h := itF c14 h
    refine fv_iconst (v := 1) C (by decide) dX11_isBetter_90 ?_
    refine fv_goto C 95 (by decide) dX11_isBetter_91 ?_
    cases h
    exact fv_zret (z := (0, 0, 0)) (st := []) C E (Or.inr rfl) dX11_isBetter_95
set_option maxRecDepth 10000 in
theorem r_X11_isBetter_L52 {X : fh_X} {K : fh_K} {sz : Nat} {M : fh_M} {r : Int32} (C : fh_C X 3 cX11_isBetter RX11) (E : fh_E X rm_X11_isBetter (some .boolean) (some (.int r)) K M sz) : ∀ (n : Nat) (t : Nat) (v2 : Int32), f_X11_isBetter_L52 K M n t v2 = some r → fh_V X rm_X11_isBetter 3 (sz, 0, 0) K M 52 [(0, va_rf (some t)), (2, .int v2)] [] := by
  intro n
  induction n with
  | zero => intro t v2 h; cases h
  | succ n ih =>
    intro t v2 h
    unfold f_X11_isBetter_L52 at h
    refine fv_iload_n C 1 rfl rfl dX11_isBetter_52 ?_
    refine fv_aload_n C 0 rfl rfl dX11_isBetter_53 ?_
    replace h := fo_s h
    obtain ⟨a6, ea6, ka6, h⟩ := h
    refine fv_getI C fl_RX11_184 ea6 ka6 dX11_isBetter_54 ?_
    refine fv_icmp_ge C 102 (by decide) dX11_isBetter_57 (fun c10 => ?_) (fun c10 => ?_)
    · replace h := itT c10 h
      refine fv_iconst (v := 0) C (by decide) dX11_isBetter_102 ?_
      cases h
      exact fv_zret (z := (0, 0, 0)) (st := []) C E (Or.inl rfl) dX11_isBetter_103
    · replace h := itF c10 h
      refine fv_aload_n C 0 rfl rfl dX11_isBetter_60 ?_
      refine fv_getR C fl_RX11_90 ea6 ka6 dX11_isBetter_61 ?_
      refine fv_iload_n C 1 rfl rfl dX11_isBetter_64 ?_
      replace h := fi_s h
      obtain ⟨a7, ea7, ka7, ia7, h⟩ := h
      refine fv_iald C ea7 ka7 ia7 dX11_isBetter_65 ?_
      refine fv_aload_n C 0 rfl rfl dX11_isBetter_66 ?_
      refine fv_getR C fl_RX11_99 ea6 ka6 dX11_isBetter_67 ?_
      refine fv_iload_n C 1 rfl rfl dX11_isBetter_70 ?_
      replace h := fi_s h
      obtain ⟨a8, ea8, ka8, ia8, h⟩ := h
      refine fv_iald C ea8 ka8 ia8 dX11_isBetter_71 ?_
      refine fv_icmp_eq C 96 (by decide) dX11_isBetter_72 (fun c9 => ?_) (fun c9 => ?_)
      · replace h := itT c9 h
        refine fv_iinc (v := v2 + 1) (lv' := [(2, .int (v2 + 1)), (0, va_rf (some t))]) C 1 rfl (by first | rfl | exact congrArg _ (by decide)) (by decide) (by first | rfl | simp [va_rf_cat]) dX11_isBetter_96 ?_
        refine fv_goto C 52 (by decide) dX11_isBetter_99 ?_
        refine fv_sub (cc := ⟨#[]⟩) (own := "") [1, 0] rfl ?_
        exact ih _ _ h
      · replace h := itF c9 h
        refine fv_sub (cc := ⟨#[]⟩) (own := "") [0, 1] rfl ?_
        exact r_X11_isBetter_J75 C E  _ _ h
set_option maxRecDepth 10000 in
theorem r_X11_isBetter (l : Launch) (D : fh_D) (A : Nat → Prop) {K : fh_K} {sz : Nat} {M : fh_M} {r : Int32} {t : Nat} {p1 : Int32} (h : f_X11_isBetter K M t p1 = some r) : fh_Met l yX11_isBetter cX11_isBetter 3 (some .boolean) rm_X11_isBetter D K M sz A [va_rf (some t), .int p1] (some (.int r)) K M sz := by
  refine fh_enter (by decide) (by simp [lg_sl, va_rf_cat, cat_i, cat_l]) (lv := [(0, va_rf (some t)), (1, .int p1)]) (by simp [lv_args, va_rf_cat, cat_i, cat_l]) ?_
  intro X C E hnm _ _ _
  replace C : fh_C X 3 cX11_isBetter RX11 := C
  unfold f_X11_isBetter at h
  refine fv_iload_n C 1 rfl rfl dX11_isBetter_0 ?_
  refine fv_aload_n C 0 rfl rfl dX11_isBetter_1 ?_
  replace h := fo_s h
  obtain ⟨a1, ea1, ka1, h⟩ := h
  refine fv_getI C fl_RX11_200 ea1 ka1 dX11_isBetter_2 ?_
  refine fv_icmp_eq C 22 (by decide) dX11_isBetter_5 (fun c5 => ?_) (fun c5 => ?_)
  · replace h := itT c5 h
    refine fv_aload_n C 0 rfl rfl dX11_isBetter_22 ?_
    refine fv_getI C fl_RX11_184 ea1 ka1 dX11_isBetter_23 ?_
    refine fv_aload_n C 0 rfl rfl dX11_isBetter_26 ?_
    refine fv_getI C fl_RX11_203 ea1 ka1 dX11_isBetter_27 ?_
    refine fv_icmp_eq C 50 (by decide) dX11_isBetter_30 (fun c3 => ?_) (fun c3 => ?_)
    · replace h := itT c3 h
      refine fv_iconst (v := 0) C (by decide) dX11_isBetter_50 ?_
      refine fv_istore_n (i := 2) (lv' := [(2, .int 0), (0, va_rf (some t)), (1, .int p1)]) C rfl (by decide) (by first | rfl | simp [va_rf_cat]) dX11_isBetter_51 ?_
      refine fv_sub (cc := ⟨#[]⟩) (own := "") [1, 0] rfl ?_
      exact r_X11_isBetter_L52 C E  4096 _ _ h
    · replace h := itF c3 h
      refine fv_aload_n C 0 rfl rfl dX11_isBetter_33 ?_
      refine fv_getI C fl_RX11_184 ea1 ka1 dX11_isBetter_34 ?_
      refine fv_aload_n C 0 rfl rfl dX11_isBetter_37 ?_
      refine fv_getI C fl_RX11_203 ea1 ka1 dX11_isBetter_38 ?_
      refine fv_icmp_ge C 48 (by decide) dX11_isBetter_41 (fun c2 => ?_) (fun c2 => ?_)
      · replace h := itT c2 h
        refine fv_iconst (v := 0) C (by decide) dX11_isBetter_48 ?_
        cases h
        exact fv_zret (z := (0, 0, 0)) (st := []) C E (Or.inl rfl) dX11_isBetter_49
      · replace h := itF c2 h
        refine fv_iconst (v := 1) C (by decide) dX11_isBetter_44 ?_
        refine fv_goto C 49 (by decide) dX11_isBetter_45 ?_
        cases h
        exact fv_zret (z := (0, 0, 0)) (st := []) C E (Or.inr rfl) dX11_isBetter_49
  · replace h := itF c5 h
    refine fv_iload_n C 1 rfl rfl dX11_isBetter_8 ?_
    refine fv_aload_n C 0 rfl rfl dX11_isBetter_9 ?_
    refine fv_getI C fl_RX11_200 ea1 ka1 dX11_isBetter_10 ?_
    refine fv_icmp_ge C 20 (by decide) dX11_isBetter_13 (fun c4 => ?_) (fun c4 => ?_)
    · replace h := itT c4 h
      refine fv_iconst (v := 0) C (by decide) dX11_isBetter_20 ?_
      cases h
      exact fv_zret (z := (0, 0, 0)) (st := []) C E (Or.inl rfl) dX11_isBetter_21
    · replace h := itF c4 h
      refine fv_iconst (v := 1) C (by decide) dX11_isBetter_16 ?_
      refine fv_goto C 21 (by decide) dX11_isBetter_17 ?_
      cases h
      exact fv_zret (z := (0, 0, 0)) (st := []) C E (Or.inr rfl) dX11_isBetter_21
abbrev rm_X11_goalOf : Room := { frames := 5, cells := 0, slots := 0, locals := 126 }
set_option maxRecDepth 10000 in
theorem r_X11_goalOf_J108 {X : fh_X} {K : fh_K} {sz : Nat} {M' : fh_M} {r : Int32} (C : fh_C X 7 cX11_goalOf RX11) (E : fh_E X rm_X11_goalOf (some .int) (some (.int r)) K M' sz) {rec5 : Nat → Int32 → Int32 → Int32 → Int32 → fh_M → Option (Int32 × fh_M)} (hrec5 : ∀ (t : Nat) (v1 : Int32) (v2 : Int32) (v3 : Int32) (v4 : Int32) (M : fh_M), rec5 t v1 v2 v3 v4 M = some (r, M') → fh_V X rm_X11_goalOf 7 (sz, 0, 0) K M 5 [(0, va_rf (some t)), (1, .int v1), (2, .int v2), (3, .int v3), (4, .int v4)] []) (t : Nat) (v1 : Int32) (v2 : Int32) (v3 : Int32) (v4 : Int32) (M : fh_M) (h : f_X11_goalOf_J108 K rec5 t v1 v2 v3 v4 M = some (r, M')) : fh_V X rm_X11_goalOf 7 (sz, 0, 0) K M 108 [(0, va_rf (some t)), (1, .int v1), (2, .int v2), (3, .int v3), (4, .int v4)] [] := by
  unfold f_X11_goalOf_J108 at h
  refine fv_iinc (v := v4 + 1) (lv' := [(4, .int (v4 + 1)), (0, va_rf (some t)), (1, .int v1), (2, .int v2), (3, .int v3)]) C 4 rfl (by first | rfl | exact congrArg _ (by decide)) (by decide) (by first | rfl | simp [va_rf_cat]) dX11_goalOf_108 ?_
  refine fv_goto C 5 (by decide) dX11_goalOf_111 ?_
  refine fv_sub (cc := ⟨#[]⟩) (own := "") [1, 2, 3, 4, 0] rfl ?_
  exact hrec5 _ _ _ _ _ _ h
set_option maxRecDepth 10000 in
theorem r_X11_goalOf_L79 {X : fh_X} {K : fh_K} {sz : Nat} {M' : fh_M} {r : Int32} (C : fh_C X 7 cX11_goalOf RX11) (E : fh_E X rm_X11_goalOf (some .int) (some (.int r)) K M' sz) {rec5 : Nat → Int32 → Int32 → Int32 → Int32 → fh_M → Option (Int32 × fh_M)} (hrec5 : ∀ (t : Nat) (v1 : Int32) (v2 : Int32) (v3 : Int32) (v4 : Int32) (M : fh_M), rec5 t v1 v2 v3 v4 M = some (r, M') → fh_V X rm_X11_goalOf 7 (sz, 0, 0) K M 5 [(0, va_rf (some t)), (1, .int v1), (2, .int v2), (3, .int v3), (4, .int v4)] []) : ∀ (n : Nat) (t : Nat) (v1 : Int32) (v2 : Int32) (v3 : Int32) (v4 : Int32) (v6 : Int32) (M : fh_M), f_X11_goalOf_L79 K rec5 n t v1 v2 v3 v4 v6 M = some (r, M') → fh_V X rm_X11_goalOf 7 (sz, 0, 0) K M 79 [(0, va_rf (some t)), (1, .int v1), (2, .int v2), (3, .int v3), (4, .int v4), (6, .int v6)] [] := by
  intro n
  induction n with
  | zero => intro t v1 v2 v3 v4 v6 M h; cases h
  | succ n ih =>
    intro t v1 v2 v3 v4 v6 M h
    unfold f_X11_goalOf_L79 at h
    refine fv_iload C 5 rfl dX11_goalOf_79 ?_
    refine fv_aload_n C 0 rfl rfl dX11_goalOf_81 ?_
    replace h := fo_s h
    obtain ⟨a14, ea14, ka14, h⟩ := h
    refine fv_getI C fl_RX11_184 ea14 ka14 dX11_goalOf_82 ?_
    refine fv_icmp_ge C 108 (by decide) dX11_goalOf_85 (fun c18 => ?_) (fun c18 => ?_)
    · replace h := itT c18 h
      refine fv_sub (cc := ⟨#[]⟩) (own := "") [0, 1, 2, 3, 4] rfl ?_
      exact r_X11_goalOf_J108 C E hrec5 _ _ _ _ _ _ h
    · replace h := itF c18 h
      refine fv_aload_n C 0 rfl rfl dX11_goalOf_88 ?_
      refine fv_getR C fl_RX11_99 ea14 ka14 dX11_goalOf_89 ?_
      refine fv_iload C 5 rfl dX11_goalOf_92 ?_
      refine fv_aload_n C 0 rfl rfl dX11_goalOf_94 ?_
      refine fv_getR C fl_RX11_90 ea14 ka14 dX11_goalOf_95 ?_
      refine fv_iload C 5 rfl dX11_goalOf_98 ?_
      replace h := fi_s h
      obtain ⟨a15, ea15, ka15, ia15, h⟩ := h
      refine fv_iald C ea15 ka15 ia15 dX11_goalOf_100 ?_
      replace h := fi_s h
      obtain ⟨a16, ea16, ka16, ia16, h⟩ := h
      replace h := fb_s h
      obtain ⟨M17, eM17, h⟩ := h
      refine fv_iast C ea16 ka16 ia16 dX11_goalOf_101 (fv_eqM eM17 ?_)
      refine fv_iinc (v := v6 + 1) (lv' := [(6, .int (v6 + 1)), (0, va_rf (some t)), (1, .int v1), (2, .int v2), (3, .int v3), (4, .int v4)]) C 5 rfl (by first | rfl | exact congrArg _ (by decide)) (by decide) (by first | rfl | simp [va_rf_cat]) dX11_goalOf_102 ?_
      refine fv_goto C 79 (by decide) dX11_goalOf_105 ?_
      refine fv_sub (cc := ⟨#[]⟩) (own := "") [1, 2, 3, 4, 5, 0] rfl ?_
      exact ih _ _ _ _ _ _ _ h
set_option maxRecDepth 10000 in
theorem r_X11_goalOf_J59 {X : fh_X} {K : fh_K} {sz : Nat} {M' : fh_M} {r : Int32} (C : fh_C X 7 cX11_goalOf RX11) (E : fh_E X rm_X11_goalOf (some .int) (some (.int r)) K M' sz) {rec5 : Nat → Int32 → Int32 → Int32 → Int32 → fh_M → Option (Int32 × fh_M)} (hrec5 : ∀ (t : Nat) (v1 : Int32) (v2 : Int32) (v3 : Int32) (v4 : Int32) (M : fh_M), rec5 t v1 v2 v3 v4 M = some (r, M') → fh_V X rm_X11_goalOf 7 (sz, 0, 0) K M 5 [(0, va_rf (some t)), (1, .int v1), (2, .int v2), (3, .int v3), (4, .int v4)] []) (t : Nat) (v1 : Int32) (v2 : Int32) (v4 : Int32) (v5 : Int32) (M : fh_M) (h : f_X11_goalOf_J59 K rec5 t v1 v2 v4 v5 M = some (r, M')) : fh_V X rm_X11_goalOf 7 (sz, 0, 0) K M 59 [(0, va_rf (some t)), (1, .int v1), (2, .int v2), (4, .int v4), (5, .int v5)] [] := by
  unfold f_X11_goalOf_J59 at h
  refine fv_iload C 3 rfl dX11_goalOf_59 ?_
  refine fv_istore_n (i := 3) (lv' := [(3, .int v4), (0, va_rf (some t)), (1, .int v1), (2, .int v2), (4, .int v4), (5, .int v5)]) C rfl (by decide) (by first | rfl | simp [va_rf_cat]) dX11_goalOf_61 ?_
  refine fv_aload_n C 1 rfl rfl dX11_goalOf_62 ?_
  refine fv_iload C 5 rfl dX11_goalOf_63 ?_
  replace h := fo_s h
  obtain ⟨a11, ea11, ka11, h⟩ := h
  replace h := fb_s h
  obtain ⟨M12, eM12, h⟩ := h
  refine fv_putI (fin := false) C fl_RX11_200 ea11 ka11 (narrow_i _) dX11_goalOf_65 (fv_eqM eM12 ?_)
  refine fv_aload_n C 1 rfl rfl dX11_goalOf_68 ?_
  refine fv_aload_n C 1 rfl rfl dX11_goalOf_69 ?_
  refine fv_getI C fl_RX11_184 ea11 ka11 dX11_goalOf_70 ?_
  replace h := fb_s h
  obtain ⟨M13, eM13, h⟩ := h
  refine fv_putI (fin := false) C fl_RX11_203 ea11 ka11 (narrow_i _) dX11_goalOf_73 (fv_eqM eM13 ?_)
  refine fv_iconst (v := 0) C (by decide) dX11_goalOf_76 ?_
  refine fv_istore (i := 6) (lv' := [(6, .int 0), (3, .int v4), (0, va_rf (some t)), (1, .int v1), (2, .int v2), (4, .int v4), (5, .int v5)]) C (by decide) (by first | rfl | simp [va_rf_cat]) dX11_goalOf_77 ?_
  refine fv_sub (cc := ⟨#[]⟩) (own := "") [2, 3, 4, 1, 5, 0] rfl ?_
  exact r_X11_goalOf_L79 C E hrec5 4096 _ _ _ _ _ _ _ h
set_option maxRecDepth 10000 in
theorem r_X11_goalOf_L5 {X : fh_X} {K : fh_K} {sz : Nat} {M' : fh_M} {r : Int32} (C : fh_C X 7 cX11_goalOf RX11) (E : fh_E X rm_X11_goalOf (some .int) (some (.int r)) K M' sz) : ∀ (n : Nat) (t : Nat) (v1 : Int32) (v2 : Int32) (v3 : Int32) (v4 : Int32) (M : fh_M), f_X11_goalOf_L5 K n t v1 v2 v3 v4 M = some (r, M') → fh_V X rm_X11_goalOf 7 (sz, 0, 0) K M 5 [(0, va_rf (some t)), (1, .int v1), (2, .int v2), (3, .int v3), (4, .int v4)] [] := by
  intro n
  induction n with
  | zero => intro t v1 v2 v3 v4 M h; cases h
  | succ n ih =>
    intro t v1 v2 v3 v4 M h
    unfold f_X11_goalOf_L5 at h
    refine fv_iload C 4 rfl dX11_goalOf_5 ?_
    refine fv_aload_n C 0 rfl rfl dX11_goalOf_7 ?_
    replace h := fo_s h
    obtain ⟨a1, ea1, ka1, h⟩ := h
    refine fv_getI C fl_RX11_114 ea1 ka1 dX11_goalOf_8 ?_
    refine fv_icmp_ge C 114 (by decide) dX11_goalOf_11 (fun c10 => ?_) (fun c10 => ?_)
    · replace h := itT c10 h
      refine fv_iload_n C 3 rfl rfl dX11_goalOf_114 ?_
      cases h
      exact fv_iret (z := (0, 0, 0)) (st := []) C E dX11_goalOf_115
    · replace h := itF c10 h
      refine fv_aload_n C 0 rfl rfl dX11_goalOf_14 ?_
      refine fv_iload C 4 rfl dX11_goalOf_15 ?_
      refine fv_iload_n C 1 rfl rfl dX11_goalOf_17 ?_
      replace h := bx h
      obtain ⟨r2, er2, h⟩ := h
      refine fv_callV [.int v4, .int v1] C mi_X11_isRead ms_X11_isRead lk_RX11_206 ea1 ka1 (r_X11_isRead _ _ _ er2) ⟨Nat.le_of_ble_eq_true rfl, Nat.le_of_ble_eq_true rfl⟩ ⟨Nat.le_of_ble_eq_true rfl, Nat.le_of_ble_eq_true rfl⟩ rfl rfl (by simp [va_rf_cat, cat_i, cat_l]) dX11_goalOf_18 ?_
      show fh_V X rm_X11_goalOf 7 (sz, 0, 0) K M _ _ [.int r2]
      refine fv_if_ne C 27 (by decide) dX11_goalOf_21 (fun c9 => ?_) (fun c9 => ?_)
      · replace h := itF c9 h
        refine fv_aload_n C 0 rfl rfl dX11_goalOf_27 ?_
        refine fv_iload_n C 2 rfl rfl dX11_goalOf_28 ?_
        refine fv_iload C 4 rfl dX11_goalOf_29 ?_
        replace h := fc2_s h
        obtain ⟨r3, M4, er3, h⟩ := h
        refine fv_callV [.int v2, .int v4] C mi_X11_bestRoad ms_X11_bestRoad lk_RX11_187 ea1 ka1 (r_X11_bestRoad _ _ _ er3) ⟨Nat.le_of_ble_eq_true rfl, Nat.le_of_ble_eq_true rfl⟩ ⟨Nat.le_of_ble_eq_true rfl, Nat.le_of_ble_eq_true rfl⟩ rfl rfl (by simp [va_rf_cat, cat_i, cat_l]) dX11_goalOf_31 ?_
        show fh_V X rm_X11_goalOf 7 (sz, 0, 0) K M4 _ _ [.int r3]
        refine fv_istore (i := 5) (lv' := [(5, .int r3), (0, va_rf (some t)), (1, .int v1), (2, .int v2), (3, .int v3), (4, .int v4)]) C (by decide) (by first | rfl | simp [va_rf_cat]) dX11_goalOf_34 ?_
        refine fv_iload C 0 rfl dX11_goalOf_36 ?_
        refine fv_iconst (v := -1) C (by decide) dX11_goalOf_38 ?_
        refine fv_icmp_eq C 108 (by decide) dX11_goalOf_39 (fun c8 => ?_) (fun c8 => ?_)
        · replace h := itT c8 h
          refine fv_sub (cc := ⟨#[]⟩) (own := "") [1, 2, 3, 4, 5] rfl ?_
          exact r_X11_goalOf_J108 C E ih _ _ _ _ _ _ h
        · replace h := itF c8 h
          refine fv_iload_n C 4 rfl rfl dX11_goalOf_42 ?_
          refine fv_iconst (v := -1) C (by decide) dX11_goalOf_43 ?_
          refine fv_icmp_eq C 59 (by decide) dX11_goalOf_44 (fun c7 => ?_) (fun c7 => ?_)
          · replace h := itT c7 h
            refine fv_sub (cc := ⟨#[]⟩) (own := "") [1, 2, 3, 5, 0] rfl ?_
            exact r_X11_goalOf_J59 C E ih _ _ _ _ _ _ h
          · replace h := itF c7 h
            refine fv_aload_n C 1 rfl rfl dX11_goalOf_47 ?_
            refine fv_iload C 0 rfl dX11_goalOf_48 ?_
            replace h := bx h
            obtain ⟨r5, er5, h⟩ := h
            refine fv_callV [.int r3] C mi_X11_isBetter ms_X11_isBetter lk_RX11_209 ea1 ka1 (r_X11_isBetter _ _ _ er5) ⟨Nat.le_of_ble_eq_true rfl, Nat.le_of_ble_eq_true rfl⟩ ⟨Nat.le_of_ble_eq_true rfl, Nat.le_of_ble_eq_true rfl⟩ rfl rfl (by simp [va_rf_cat, cat_i, cat_l]) dX11_goalOf_50 ?_
            show fh_V X rm_X11_goalOf 7 (sz, 0, 0) K M4 _ _ [.int r5]
            refine fv_if_ne C 59 (by decide) dX11_goalOf_53 (fun c6 => ?_) (fun c6 => ?_)
            · replace h := itF c6 h
              refine fv_sub (cc := ⟨#[]⟩) (own := "") [1, 2, 3, 5, 0] rfl ?_
              exact r_X11_goalOf_J59 C E ih _ _ _ _ _ _ h
            · replace h := itT c6 h
              refine fv_goto C 108 (by decide) dX11_goalOf_56 ?_
              refine fv_sub (cc := ⟨#[]⟩) (own := "") [1, 2, 3, 4, 5] rfl ?_
              exact r_X11_goalOf_J108 C E ih _ _ _ _ _ _ h
      · replace h := itT c9 h
        refine fv_goto C 108 (by decide) dX11_goalOf_24 ?_
        refine fv_sub (cc := ⟨#[]⟩) (own := "") [0, 1, 2, 3, 4] rfl ?_
        exact r_X11_goalOf_J108 C E ih _ _ _ _ _ _ h
set_option maxRecDepth 10000 in
theorem r_X11_goalOf (l : Launch) (D : fh_D) (A : Nat → Prop) {K : fh_K} {sz : Nat} {M : fh_M} {M' : fh_M} {r : Int32} {t : Nat} {p1 : Int32} {p2 : Int32} (h : f_X11_goalOf K M t p1 p2 = some (r, M')) : fh_Met l yX11_goalOf cX11_goalOf 7 (some .int) rm_X11_goalOf D K M sz A [va_rf (some t), .int p1, .int p2] (some (.int r)) K M' sz := by
  refine fh_enter (by decide) (by simp [lg_sl, va_rf_cat, cat_i, cat_l]) (lv := [(0, va_rf (some t)), (1, .int p1), (2, .int p2)]) (by simp [lv_args, va_rf_cat, cat_i, cat_l]) ?_
  intro X C E hnm _ _ _
  replace C : fh_C X 7 cX11_goalOf RX11 := C
  unfold f_X11_goalOf at h
  refine fv_iconst (v := -1) C (by decide) dX11_goalOf_0 ?_
  refine fv_istore_n (i := 3) (lv' := [(3, .int ((-1))), (0, va_rf (some t)), (1, .int p1), (2, .int p2)]) C rfl (by decide) (by first | rfl | simp [va_rf_cat]) dX11_goalOf_1 ?_
  refine fv_iconst (v := 0) C (by decide) dX11_goalOf_2 ?_
  refine fv_istore (i := 4) (lv' := [(4, .int 0), (3, .int ((-1))), (0, va_rf (some t)), (1, .int p1), (2, .int p2)]) C (by decide) (by first | rfl | simp [va_rf_cat]) dX11_goalOf_3 ?_
  refine fv_sub (cc := ⟨#[]⟩) (own := "") [2, 3, 4, 1, 0] rfl ?_
  exact r_X11_goalOf_L5 C E  4096 _ _ _ _ _ _ h
abbrev rm_X11_plan : Room := { frames := 6, cells := 0, slots := 0, locals := 152 }
set_option maxRecDepth 10000 in
theorem r_X11_plan_J73 {X : fh_X} {K : fh_K} {sz : Nat} {M' : fh_M} {r : Int32} (C : fh_C X 5 cX11_plan RX11) (E : fh_E X rm_X11_plan (some .int) (some (.int r)) K M' sz) (v2 : Int32) (v3 : Int32) (M : fh_M) (h : f_X11_plan_J73 K v2 v3 M = some (r, M')) : fh_V X rm_X11_plan 5 (sz, 0, 0) K M 73 [(2, .int v2), (3, .int v3)] [] := by
  unfold f_X11_plan_J73 at h
  refine fv_iload_n C 1 rfl rfl dX11_plan_73 ?_
  refine fv_if_eq C 82 (by decide) dX11_plan_74 (fun c12 => ?_) (fun c12 => ?_)
  · replace h := itT c12 h
    refine fv_iload_n C 0 rfl rfl dX11_plan_82 ?_
    cases h
    exact fv_iret (z := (0, 0, 0)) (st := []) C E dX11_plan_83
  · replace h := itF c12 h
    refine fv_bipush (v := -2) C (by decide) dX11_plan_77 ?_
    refine fv_goto C 83 (by decide) dX11_plan_79 ?_
    cases h
    exact fv_iret (z := (0, 0, 0)) (st := []) C E dX11_plan_83
set_option maxRecDepth 10000 in
theorem r_X11_plan_J67 {X : fh_X} {K : fh_K} {sz : Nat} {M' : fh_M} {r : Int32} (C : fh_C X 5 cX11_plan RX11) (E : fh_E X rm_X11_plan (some .int) (some (.int r)) K M' sz) {rec23 : Nat → Int32 → Int32 → Int32 → Int32 → fh_M → Option (Int32 × fh_M)} (hrec23 : ∀ (t : Nat) (v1 : Int32) (v2 : Int32) (v3 : Int32) (v4 : Int32) (M : fh_M), rec23 t v1 v2 v3 v4 M = some (r, M') → fh_V X rm_X11_plan 5 (sz, 0, 0) K M 23 [(0, va_rf (some t)), (1, .int v1), (2, .int v2), (3, .int v3), (4, .int v4)] []) (t : Nat) (v1 : Int32) (v2 : Int32) (v3 : Int32) (v4 : Int32) (M : fh_M) (h : f_X11_plan_J67 K rec23 t v1 v2 v3 v4 M = some (r, M')) : fh_V X rm_X11_plan 5 (sz, 0, 0) K M 67 [(0, va_rf (some t)), (1, .int v1), (2, .int v2), (3, .int v3), (4, .int v4)] [] := by
  unfold f_X11_plan_J67 at h
  refine fv_iinc (v := v4 + 1) (lv' := [(4, .int (v4 + 1)), (0, va_rf (some t)), (1, .int v1), (2, .int v2), (3, .int v3)]) C 4 rfl (by first | rfl | exact congrArg _ (by decide)) (by decide) (by first | rfl | simp [va_rf_cat]) dX11_plan_67 ?_
  refine fv_goto C 23 (by decide) dX11_plan_70 ?_
  refine fv_sub (cc := ⟨#[]⟩) (own := "") [1, 2, 3, 4, 0] rfl ?_
  exact hrec23 _ _ _ _ _ _ h
set_option maxRecDepth 10000 in
theorem r_X11_plan_L23 {X : fh_X} {K : fh_K} {sz : Nat} {M' : fh_M} {r : Int32} (C : fh_C X 5 cX11_plan RX11) (E : fh_E X rm_X11_plan (some .int) (some (.int r)) K M' sz) : ∀ (n : Nat) (t : Nat) (v1 : Int32) (v2 : Int32) (v3 : Int32) (v4 : Int32) (M : fh_M), f_X11_plan_L23 K n t v1 v2 v3 v4 M = some (r, M') → fh_V X rm_X11_plan 5 (sz, 0, 0) K M 23 [(0, va_rf (some t)), (1, .int v1), (2, .int v2), (3, .int v3), (4, .int v4)] [] := by
  intro n
  induction n with
  | zero => intro t v1 v2 v3 v4 M h; cases h
  | succ n ih =>
    intro t v1 v2 v3 v4 M h
    unfold f_X11_plan_L23 at h
    refine fv_iload C 4 rfl dX11_plan_23 ?_
    refine fv_aload_n C 0 rfl rfl dX11_plan_25 ?_
    replace h := fo_s h
    obtain ⟨a4, ea4, ka4, h⟩ := h
    refine fv_getI C fl_RX11_117 ea4 ka4 dX11_plan_26 ?_
    refine fv_icmp_ge C 73 (by decide) dX11_plan_29 (fun c11 => ?_) (fun c11 => ?_)
    · replace h := itT c11 h
      refine fv_sub (cc := ⟨#[]⟩) (own := "") [2, 3] rfl ?_
      exact r_X11_plan_J73 C E  _ _ _ h
    · replace h := itF c11 h
      refine fv_aload_n C 0 rfl rfl dX11_plan_32 ?_
      refine fv_iload C 4 rfl dX11_plan_33 ?_
      replace h := fc2_s h
      obtain ⟨r5, M6, er5, h⟩ := h
      refine fv_callV [.int v4] C mi_X11_isPlanned ms_X11_isPlanned lk_RX11_212 ea4 ka4 (r_X11_isPlanned _ _ _ er5) ⟨Nat.le_of_ble_eq_true rfl, Nat.le_of_ble_eq_true rfl⟩ ⟨Nat.le_of_ble_eq_true rfl, Nat.le_of_ble_eq_true rfl⟩ rfl rfl (by simp [va_rf_cat, cat_i, cat_l]) dX11_plan_35 ?_
      show fh_V X rm_X11_plan 5 (sz, 0, 0) K M6 _ _ [.int r5]
      refine fv_if_ne C 44 (by decide) dX11_plan_38 (fun c10 => ?_) (fun c10 => ?_)
      · replace h := itF c10 h
        refine fv_aload_n C 0 rfl rfl dX11_plan_44 ?_
        refine fv_iload_n C 1 rfl rfl dX11_plan_45 ?_
        refine fv_iload C 4 rfl dX11_plan_46 ?_
        replace h := fc2_s h
        obtain ⟨r7, M8, er7, h⟩ := h
        refine fv_callV [.int v1, .int v4] C mi_X11_goalOf ms_X11_goalOf lk_RX11_215 ea4 ka4 (r_X11_goalOf _ _ _ er7) ⟨Nat.le_of_ble_eq_true rfl, Nat.le_of_ble_eq_true rfl⟩ ⟨Nat.le_of_ble_eq_true rfl, Nat.le_of_ble_eq_true rfl⟩ rfl rfl (by simp [va_rf_cat, cat_i, cat_l]) dX11_plan_48 ?_
        show fh_V X rm_X11_plan 5 (sz, 0, 0) K M8 _ _ [.int r7]
        refine fv_iconst (v := -1) C (by decide) dX11_plan_51 ?_
        refine fv_icmp_ne C 60 (by decide) dX11_plan_52 (fun c9 => ?_) (fun c9 => ?_)
        · replace h := itF c9 h
          refine fv_iload_n C 2 rfl rfl dX11_plan_60 ?_
          refine fv_aload_n C 0 rfl rfl dX11_plan_61 ?_
          refine fv_getI C fl_RX11_200 ea4 ka4 dX11_plan_62 ?_
          refine fv_iadd C dX11_plan_65 ?_
          refine fv_istore_n (i := 2) (lv' := [(2, .int (v2 + (M8.1 a4 40))), (0, va_rf (some t)), (1, .int v1), (3, .int v3), (4, .int v4)]) C rfl (by decide) (by first | rfl | simp [va_rf_cat]) dX11_plan_66 ?_
          refine fv_sub (cc := ⟨#[]⟩) (own := "") [1, 2, 0, 3, 4] rfl ?_
          exact r_X11_plan_J67 C E ih _ _ _ _ _ _ h
        · replace h := itT c9 h
          refine fv_iconst (v := 1) C (by decide) dX11_plan_55 ?_
          refine fv_istore_n (i := 3) (lv' := [(3, .int 1), (0, va_rf (some t)), (1, .int v1), (2, .int v2), (4, .int v4)]) C rfl (by decide) (by first | rfl | simp [va_rf_cat]) dX11_plan_56 ?_
          refine fv_goto C 67 (by decide) dX11_plan_57 ?_
          refine fv_sub (cc := ⟨#[]⟩) (own := "") [1, 2, 3, 0, 4] rfl ?_
          exact r_X11_plan_J67 C E ih _ _ _ _ _ _ h
      · replace h := itT c10 h
        refine fv_goto C 67 (by decide) dX11_plan_41 ?_
        refine fv_sub (cc := ⟨#[]⟩) (own := "") [0, 1, 2, 3, 4] rfl ?_
        exact r_X11_plan_J67 C E ih _ _ _ _ _ _ h
set_option maxRecDepth 10000 in
theorem r_X11_plan (l : Launch) (D : fh_D) (A : Nat → Prop) {K : fh_K} {sz : Nat} {M : fh_M} {M' : fh_M} {r : Int32} {t : Nat} {p1 : Int32} (h : f_X11_plan K M t p1 = some (r, M')) : fh_Met l yX11_plan cX11_plan 5 (some .int) rm_X11_plan D K M sz A [va_rf (some t), .int p1] (some (.int r)) K M' sz := by
  refine fh_enter (by decide) (by simp [lg_sl, va_rf_cat, cat_i, cat_l]) (lv := [(0, va_rf (some t)), (1, .int p1)]) (by simp [lv_args, va_rf_cat, cat_i, cat_l]) ?_
  intro X C E hnm _ _ _
  replace C : fh_C X 5 cX11_plan RX11 := C
  unfold f_X11_plan at h
  refine fv_iload_n C 1 rfl rfl dX11_plan_0 ?_
  refine fv_aload_n C 0 rfl rfl dX11_plan_1 ?_
  replace h := fo_s h
  obtain ⟨a1, ea1, ka1, h⟩ := h
  refine fv_getI C fl_RX11_136 ea1 ka1 dX11_plan_2 ?_
  refine fv_sipush (v := 999) C (by decide) dX11_plan_5 ?_
  replace h := bx h
  obtain ⟨r2, er2, h⟩ := h
  refine fv_callS [.int p1, .int (M.1 a1 2), .int 999] C mi_X11_lies lk_RX11_110 (r_X11_lies _ _ _ er2) ⟨Nat.le_of_ble_eq_true rfl, Nat.le_of_ble_eq_true rfl⟩ ⟨Nat.le_of_ble_eq_true rfl, Nat.le_of_ble_eq_true rfl⟩ rfl rfl (by simp [va_rf_cat, cat_i, cat_l]) dX11_plan_8 ?_
  show fh_V X rm_X11_plan 5 (sz, 0, 0) K M _ _ [.int r2]
  refine fv_if_ne C 16 (by decide) dX11_plan_11 (fun c3 => ?_) (fun c3 => ?_)
  · replace h := itF c3 h
    refine fv_iconst (v := 0) C (by decide) dX11_plan_16 ?_
    refine fv_istore_n (i := 2) (lv' := [(2, .int 0), (0, va_rf (some t)), (1, .int p1)]) C rfl (by decide) (by first | rfl | simp [va_rf_cat]) dX11_plan_17 ?_
    refine fv_iconst (v := 0) C (by decide) dX11_plan_18 ?_
    refine fv_istore_n (i := 3) (lv' := [(3, .int 0), (2, .int 0), (0, va_rf (some t)), (1, .int p1)]) C rfl (by decide) (by first | rfl | simp [va_rf_cat]) dX11_plan_19 ?_
    refine fv_iconst (v := 0) C (by decide) dX11_plan_20 ?_
    refine fv_istore (i := 4) (lv' := [(4, .int 0), (3, .int 0), (2, .int 0), (0, va_rf (some t)), (1, .int p1)]) C (by decide) (by first | rfl | simp [va_rf_cat]) dX11_plan_21 ?_
    refine fv_sub (cc := ⟨#[]⟩) (own := "") [3, 4, 2, 1, 0] rfl ?_
    exact r_X11_plan_L23 C E  4096 _ _ _ _ _ _ h
  · replace h := itT c3 h
    refine fv_iconst (v := -1) C (by decide) dX11_plan_14 ?_
    cases h
    exact fv_iret (z := (0, 0, 0)) (st := []) C E dX11_plan_15
abbrev rm_X11_goal : Room := { frames := 6, cells := 0, slots := 0, locals := 152 }
set_option maxRecDepth 10000 in
theorem r_X11_goal (l : Launch) (D : fh_D) (A : Nat → Prop) {K : fh_K} {sz : Nat} {M : fh_M} {M' : fh_M} {r : Int32} {t : Nat} {p1 : Int32} {p2 : Int32} (h : f_X11_goal K M t p1 p2 = some (r, M')) : fh_Met l yX11_goal cX11_goal 3 (some .int) rm_X11_goal D K M sz A [va_rf (some t), .int p1, .int p2] (some (.int r)) K M' sz := by
  refine fh_enter (by decide) (by simp [lg_sl, va_rf_cat, cat_i, cat_l]) (lv := [(0, va_rf (some t)), (1, .int p1), (2, .int p2)]) (by simp [lv_args, va_rf_cat, cat_i, cat_l]) ?_
  intro X C E hnm _ _ _
  replace C : fh_C X 3 cX11_goal RX11 := C
  unfold f_X11_goal at h
  refine fv_iload_n C 1 rfl rfl dX11_goal_0 ?_
  refine fv_aload_n C 0 rfl rfl dX11_goal_1 ?_
  replace h := fo_s h
  obtain ⟨a1, ea1, ka1, h⟩ := h
  refine fv_getI C fl_RX11_136 ea1 ka1 dX11_goal_2 ?_
  refine fv_sipush (v := 999) C (by decide) dX11_goal_5 ?_
  replace h := bx h
  obtain ⟨r2, er2, h⟩ := h
  refine fv_callS [.int p1, .int (M.1 a1 2), .int 999] C mi_X11_lies lk_RX11_110 (r_X11_lies _ _ _ er2) ⟨Nat.le_of_ble_eq_true rfl, Nat.le_of_ble_eq_true rfl⟩ ⟨Nat.le_of_ble_eq_true rfl, Nat.le_of_ble_eq_true rfl⟩ rfl rfl (by simp [va_rf_cat, cat_i, cat_l]) dX11_goal_8 ?_
  show fh_V X rm_X11_goal 3 (sz, 0, 0) K M _ _ [.int r2]
  refine fv_if_eq C 39 (by decide) dX11_goal_11 (fun c10 => ?_) (fun c10 => ?_)
  · replace h := itT c10 h
    refine fv_iconst (v := -1) C (by decide) dX11_goal_39 ?_
    cases h
    exact fv_iret (z := (0, 0, 0)) (st := []) C E dX11_goal_40
  · replace h := itF c10 h
    refine fv_aload_n C 0 rfl rfl dX11_goal_14 ?_
    refine fv_iload_n C 2 rfl rfl dX11_goal_15 ?_
    replace h := bx h
    obtain ⟨r3, er3, h⟩ := h
    refine fv_callV [.int p2] C mi_X11_isFile ms_X11_isFile lk_RX11_120 ea1 ka1 (r_X11_isFile _ _ _ er3) ⟨Nat.le_of_ble_eq_true rfl, Nat.le_of_ble_eq_true rfl⟩ ⟨Nat.le_of_ble_eq_true rfl, Nat.le_of_ble_eq_true rfl⟩ rfl rfl (by simp [va_rf_cat, cat_i, cat_l]) dX11_goal_16 ?_
    show fh_V X rm_X11_goal 3 (sz, 0, 0) K M _ _ [.int r3]
    refine fv_if_eq C 39 (by decide) dX11_goal_19 (fun c9 => ?_) (fun c9 => ?_)
    · replace h := itT c9 h
      refine fv_iconst (v := -1) C (by decide) dX11_goal_39 ?_
      cases h
      exact fv_iret (z := (0, 0, 0)) (st := []) C E dX11_goal_40
    · replace h := itF c9 h
      refine fv_aload_n C 0 rfl rfl dX11_goal_22 ?_
      refine fv_iload_n C 2 rfl rfl dX11_goal_23 ?_
      replace h := fc2_s h
      obtain ⟨r4, M5, er4, h⟩ := h
      refine fv_callV [.int p2] C mi_X11_isPlanned ms_X11_isPlanned lk_RX11_212 ea1 ka1 (r_X11_isPlanned _ _ _ er4) ⟨Nat.le_of_ble_eq_true rfl, Nat.le_of_ble_eq_true rfl⟩ ⟨Nat.le_of_ble_eq_true rfl, Nat.le_of_ble_eq_true rfl⟩ rfl rfl (by simp [va_rf_cat, cat_i, cat_l]) dX11_goal_24 ?_
      show fh_V X rm_X11_goal 3 (sz, 0, 0) K M5 _ _ [.int r4]
      refine fv_if_eq C 39 (by decide) dX11_goal_27 (fun c8 => ?_) (fun c8 => ?_)
      · replace h := itT c8 h
        refine fv_iconst (v := -1) C (by decide) dX11_goal_39 ?_
        cases h
        exact fv_iret (z := (0, 0, 0)) (st := []) C E dX11_goal_40
      · replace h := itF c8 h
        refine fv_aload_n C 0 rfl rfl dX11_goal_30 ?_
        refine fv_iload_n C 1 rfl rfl dX11_goal_31 ?_
        refine fv_iload_n C 2 rfl rfl dX11_goal_32 ?_
        replace h := fc2_s h
        obtain ⟨r6, M7, er6, h⟩ := h
        refine fv_callV [.int p1, .int p2] C mi_X11_goalOf ms_X11_goalOf lk_RX11_215 ea1 ka1 (r_X11_goalOf _ _ _ er6) ⟨Nat.le_of_ble_eq_true rfl, Nat.le_of_ble_eq_true rfl⟩ ⟨Nat.le_of_ble_eq_true rfl, Nat.le_of_ble_eq_true rfl⟩ rfl rfl (by simp [va_rf_cat, cat_i, cat_l]) dX11_goal_33 ?_
        show fh_V X rm_X11_goal 3 (sz, 0, 0) K M7 _ _ [.int r6]
        refine fv_goto C 40 (by decide) dX11_goal_36 ?_
        cases h
        exact fv_iret (z := (0, 0, 0)) (st := []) C E dX11_goal_40
abbrev rm_X11_look : Room := { frames := 4, cells := 0, slots := 0, locals := 98 }
set_option maxRecDepth 10000 in
theorem r_X11_look_L127 {X : fh_X} {K : fh_K} {sz : Nat} {M' : fh_M} {r : Int32} (C : fh_C X 4 cX11_look RX11) (E : fh_E X rm_X11_look (some .int) (some (.int r)) K M' sz) : ∀ (n : Nat) (t : Nat) (v3 : Int32) (M : fh_M), f_X11_look_L127 K n t v3 M = some (r, M') → fh_V X rm_X11_look 4 (sz, 0, 0) K M 127 [(0, va_rf (some t)), (3, .int v3)] [] := by
  intro n
  induction n with
  | zero => intro t v3 M h; cases h
  | succ n ih =>
    intro t v3 M h
    unfold f_X11_look_L127 at h
    refine fv_aload_n C 0 rfl rfl dX11_look_127 ?_
    replace h := fo_s h
    obtain ⟨a21, ea21, ka21, h⟩ := h
    refine fv_getR C fl_RX11_39 ea21 ka21 dX11_look_128 ?_
    refine fv_iload_n C 1 rfl rfl dX11_look_131 ?_
    replace h := fi_s h
    obtain ⟨a22, ea22, ka22, ia22, h⟩ := h
    refine fv_iald C ea22 ka22 ia22 dX11_look_132 ?_
    refine fv_iconst (v := -1) C (by decide) dX11_look_133 ?_
    refine fv_icmp_eq C 147 (by decide) dX11_look_134 (fun c23 => ?_) (fun c23 => ?_)
    · replace h := itT c23 h
      refine fv_iload_n C 1 rfl rfl dX11_look_147 ?_
      cases h
      exact fv_iret (z := (0, 0, 0)) (st := []) C E dX11_look_148
    · replace h := itF c23 h
      refine fv_aload_n C 0 rfl rfl dX11_look_137 ?_
      refine fv_getR C fl_RX11_39 ea21 ka21 dX11_look_138 ?_
      refine fv_iload_n C 1 rfl rfl dX11_look_141 ?_
      refine fv_iald C ea22 ka22 ia22 dX11_look_142 ?_
      refine fv_istore_n (i := 3) (lv' := [(3, .int (M.1 a22 v3.toNatClampNeg)), (0, va_rf (some t))]) C rfl (by decide) (by first | rfl | simp [va_rf_cat]) dX11_look_143 ?_
      refine fv_goto C 127 (by decide) dX11_look_144 ?_
      refine fv_sub (cc := ⟨#[]⟩) (own := "") [1, 0] rfl ?_
      exact ih _ _ _ h
set_option maxRecDepth 10000 in
theorem r_X11_look (l : Launch) (D : fh_D) (A : Nat → Prop) {K : fh_K} {sz : Nat} {M : fh_M} {M' : fh_M} {r : Int32} {t : Nat} {p1 : Int32} {p2 : Int32} (h : f_X11_look K M t p1 p2 = some (r, M')) : fh_Met l yX11_look cX11_look 4 (some .int) rm_X11_look D K M sz A [va_rf (some t), .int p1, .int p2] (some (.int r)) K M' sz := by
  refine fh_enter (by decide) (by simp [lg_sl, va_rf_cat, cat_i, cat_l]) (lv := [(0, va_rf (some t)), (1, .int p1), (2, .int p2)]) (by simp [lv_args, va_rf_cat, cat_i, cat_l]) ?_
  intro X C E hnm _ _ _
  replace C : fh_C X 4 cX11_look RX11 := C
  unfold f_X11_look at h
  refine fv_aload_n C 0 rfl rfl dX11_look_0 ?_
  refine fv_iload_n C 1 rfl rfl dX11_look_1 ?_
  replace h := fo_s h
  obtain ⟨a1, ea1, ka1, h⟩ := h
  replace h := bx h
  obtain ⟨r2, er2, h⟩ := h
  refine fv_callV [.int p1] C mi_X11_isFile ms_X11_isFile lk_RX11_120 ea1 ka1 (r_X11_isFile _ _ _ er2) ⟨Nat.le_of_ble_eq_true rfl, Nat.le_of_ble_eq_true rfl⟩ ⟨Nat.le_of_ble_eq_true rfl, Nat.le_of_ble_eq_true rfl⟩ rfl rfl (by simp [va_rf_cat, cat_i, cat_l]) dX11_look_2 ?_
  show fh_V X rm_X11_look 4 (sz, 0, 0) K M _ _ [.int r2]
  refine fv_if_ne C 10 (by decide) dX11_look_5 (fun c20 => ?_) (fun c20 => ?_)
  · replace h := itF c20 h
    refine fv_iload_n C 2 rfl rfl dX11_look_10 ?_
    refine fv_bipush (v := 100) C (by decide) dX11_look_11 ?_
    refine fv_isub C dX11_look_13 ?_
    refine fv_iconst (v := 0) C (by decide) dX11_look_14 ?_
    refine fv_aload_n C 0 rfl rfl dX11_look_15 ?_
    refine fv_getR C fl_RX11_33 ea1 ka1 dX11_look_16 ?_
    refine fv_iload_n C 1 rfl rfl dX11_look_19 ?_
    replace h := fi_s h
    obtain ⟨a3, ea3, ka3, ia3, h⟩ := h
    refine fv_iald C ea3 ka3 ia3 dX11_look_20 ?_
    refine fv_iconst (v := 1) C (by decide) dX11_look_21 ?_
    refine fv_isub C dX11_look_22 ?_
    replace h := bx h
    obtain ⟨r4, er4, h⟩ := h
    refine fv_callS [.int (p2 - 100), .int 0, .int ((M.1 a3 p1.toNatClampNeg) - 1)] C mi_X11_lies lk_RX11_110 (r_X11_lies _ _ _ er4) ⟨Nat.le_of_ble_eq_true rfl, Nat.le_of_ble_eq_true rfl⟩ ⟨Nat.le_of_ble_eq_true rfl, Nat.le_of_ble_eq_true rfl⟩ rfl rfl (by simp [va_rf_cat, cat_i, cat_l]) dX11_look_23 ?_
    show fh_V X rm_X11_look 4 (sz, 0, 0) K M _ _ [.int r4]
    refine fv_if_eq C 39 (by decide) dX11_look_26 (fun c19 => ?_) (fun c19 => ?_)
    · replace h := itT c19 h
      refine fv_iload_n C 2 rfl rfl dX11_look_39 ?_
      rcases Classical.em (p2 = 0) with c5 | c5
      · replace h := itT c5 h
        refine fv_tsIn (off := 40) C 80 (by rw [c5]; decide) (by rw [c5]; decide) (by rw [c5]; decide) (by decide) dX11_look_40 ?_
        refine fv_aload_n C 0 rfl rfl dX11_look_80 ?_
        refine fv_getR C fl_RX11_33 ea1 ka1 dX11_look_81 ?_
        refine fv_iload_n C 1 rfl rfl dX11_look_84 ?_
        refine fv_iald C ea3 ka3 ia3 dX11_look_85 ?_
        cases h
        exact fv_iret (z := (0, 0, 0)) (st := []) C E dX11_look_86
      replace h := itF c5 h
      rcases Classical.em (p2 = 1) with c6 | c6
      · replace h := itT c6 h
        refine fv_tsIn (off := 47) C 87 (by rw [c6]; decide) (by rw [c6]; decide) (by rw [c6]; decide) (by decide) dX11_look_40 ?_
        refine fv_aload_n C 0 rfl rfl dX11_look_87 ?_
        refine fv_iload_n C 1 rfl rfl dX11_look_88 ?_
        replace h := fc2_s h
        obtain ⟨r7, M8, er7, h⟩ := h
        refine fv_callV [.int p1] C mi_X11_knows ms_X11_knows lk_RX11_156 ea1 ka1 (r_X11_knows _ _ _ er7) ⟨Nat.le_of_ble_eq_true rfl, Nat.le_of_ble_eq_true rfl⟩ ⟨Nat.le_of_ble_eq_true rfl, Nat.le_of_ble_eq_true rfl⟩ rfl rfl (by simp [va_rf_cat, cat_i, cat_l]) dX11_look_89 ?_
        show fh_V X rm_X11_look 4 (sz, 0, 0) K M8 _ _ [.int r7]
        refine fv_iconst (v := -1) C (by decide) dX11_look_92 ?_
        refine fv_icmp_ne C 100 (by decide) dX11_look_93 (fun c9 => ?_) (fun c9 => ?_)
        · replace h := itF c9 h
          refine fv_aload_n C 0 rfl rfl dX11_look_100 ?_
          refine fv_getI C fl_RX11_139 ea1 ka1 dX11_look_101 ?_
          cases h
          exact fv_iret (z := (0, 0, 0)) (st := []) C E dX11_look_104
        · replace h := itT c9 h
          refine fv_iconst (v := 0) C (by decide) dX11_look_96 ?_
          refine fv_goto C 104 (by decide) dX11_look_97 ?_
          cases h
          exact fv_iret (z := (0, 0, 0)) (st := []) C E dX11_look_104
      replace h := itF c6 h
      rcases Classical.em (p2 = 2) with c10 | c10
      · replace h := itT c10 h
        refine fv_tsIn (off := 65) C 105 (by rw [c10]; decide) (by rw [c10]; decide) (by rw [c10]; decide) (by decide) dX11_look_40 ?_
        refine fv_aload_n C 0 rfl rfl dX11_look_105 ?_
        refine fv_iload_n C 1 rfl rfl dX11_look_106 ?_
        replace h := fc2_s h
        obtain ⟨r11, M12, er11, h⟩ := h
        refine fv_callV [.int p1] C mi_X11_properties ms_X11_properties lk_RX11_177 ea1 ka1 (r_X11_properties _ _ _ er11) ⟨Nat.le_of_ble_eq_true rfl, Nat.le_of_ble_eq_true rfl⟩ ⟨Nat.le_of_ble_eq_true rfl, Nat.le_of_ble_eq_true rfl⟩ rfl rfl (by simp [va_rf_cat, cat_i, cat_l]) dX11_look_107 ?_
        show fh_V X rm_X11_look 4 (sz, 0, 0) K M12 _ _ [.int r11]
        cases h
        exact fv_iret (z := (0, 0, 0)) (st := []) C E dX11_look_110
      replace h := itF c10 h
      rcases Classical.em (p2 = 3) with c13 | c13
      · replace h := itT c13 h
        refine fv_tsIn (off := 71) C 111 (by rw [c13]; decide) (by rw [c13]; decide) (by rw [c13]; decide) (by decide) dX11_look_40 ?_
        refine fv_aload_n C 0 rfl rfl dX11_look_111 ?_
        refine fv_getR C fl_RX11_36 ea1 ka1 dX11_look_112 ?_
        refine fv_iload_n C 1 rfl rfl dX11_look_115 ?_
        replace h := fi_s h
        obtain ⟨a14, ea14, ka14, ia14, h⟩ := h
        refine fv_iald C ea14 ka14 ia14 dX11_look_116 ?_
        cases h
        exact fv_iret (z := (0, 0, 0)) (st := []) C E dX11_look_117
      replace h := itF c13 h
      rcases Classical.em (p2 = 4) with c15 | c15
      · replace h := itT c15 h
        refine fv_tsIn (off := 78) C 118 (by rw [c15]; decide) (by rw [c15]; decide) (by rw [c15]; decide) (by decide) dX11_look_40 ?_
        refine fv_aload_n C 0 rfl rfl dX11_look_118 ?_
        refine fv_getR C fl_RX11_39 ea1 ka1 dX11_look_119 ?_
        refine fv_iload_n C 1 rfl rfl dX11_look_122 ?_
        replace h := fi_s h
        obtain ⟨a16, ea16, ka16, ia16, h⟩ := h
        refine fv_iald C ea16 ka16 ia16 dX11_look_123 ?_
        cases h
        exact fv_iret (z := (0, 0, 0)) (st := []) C E dX11_look_124
      replace h := itF c15 h
      rcases Classical.em (p2 = 5) with c17 | c17
      · replace h := itT c17 h
        refine fv_tsIn (off := 85) C 125 (by rw [c17]; decide) (by rw [c17]; decide) (by rw [c17]; decide) (by decide) dX11_look_40 ?_
        refine fv_iload_n C 1 rfl rfl dX11_look_125 ?_
        refine fv_istore_n (i := 3) (lv' := [(3, .int p1), (0, va_rf (some t)), (1, .int p1), (2, .int p2)]) C rfl (by decide) (by first | rfl | simp [va_rf_cat]) dX11_look_126 ?_
        refine fv_sub (cc := ⟨#[]⟩) (own := "") [1, 0] rfl ?_
        exact r_X11_look_L127 C E  4096 _ _ _ h
      replace h := itF c17 h
      refine fv_tsOut C 149 (by have := lv_neT c5 (show (0 : Int32).toInt = 0 by decide); have := lv_neT c6 (show (1 : Int32).toInt = 1 by decide); have := lv_neT c10 (show (2 : Int32).toInt = 2 by decide); have := lv_neT c13 (show (3 : Int32).toInt = 3 by decide); have := lv_neT c15 (show (4 : Int32).toInt = 4 by decide); have := lv_neT c17 (show (5 : Int32).toInt = 5 by decide); omega) (by decide) dX11_look_40 ?_
      refine fv_iconst (v := -1) C (by decide) dX11_look_149 ?_
      cases h
      exact fv_iret (z := (0, 0, 0)) (st := []) C E dX11_look_150
    · replace h := itF c19 h
      refine fv_aload_n C 0 rfl rfl dX11_look_29 ?_
      refine fv_iload_n C 1 rfl rfl dX11_look_30 ?_
      refine fv_iload_n C 2 rfl rfl dX11_look_31 ?_
      refine fv_bipush (v := 100) C (by decide) dX11_look_32 ?_
      refine fv_isub C dX11_look_34 ?_
      replace h := bx h
      obtain ⟨r18, er18, h⟩ := h
      refine fv_callV [.int p1, .int (p2 - 100)] C mi_X11_byteAt ms_X11_byteAt lk_RX11_145 ea1 ka1 (r_X11_byteAt _ _ _ er18) ⟨Nat.le_of_ble_eq_true rfl, Nat.le_of_ble_eq_true rfl⟩ ⟨Nat.le_of_ble_eq_true rfl, Nat.le_of_ble_eq_true rfl⟩ rfl rfl (by simp [va_rf_cat, cat_i, cat_l]) dX11_look_35 ?_
      show fh_V X rm_X11_look 4 (sz, 0, 0) K M _ _ [.int r18]
      cases h
      exact fv_iret (z := (0, 0, 0)) (st := []) C E dX11_look_38
  · replace h := itT c20 h
    refine fv_iconst (v := -1) C (by decide) dX11_look_8 ?_
    cases h
    exact fv_iret (z := (0, 0, 0)) (st := []) C E dX11_look_9
abbrev rm_X11_count : Room := { frames := 4, cells := 0, slots := 0, locals := 101 }
set_option maxRecDepth 10000 in
theorem r_X11_count_J142 {X : fh_X} {K : fh_K} {sz : Nat} {M' : fh_M} {r : Int32} (C : fh_C X 4 cX11_count RX11) (E : fh_E X rm_X11_count (some .int) (some (.int r)) K M' sz) {rec115 : Nat → Int32 → Int32 → fh_M → Option (Int32 × fh_M)} (hrec115 : ∀ (t : Nat) (v2 : Int32) (v3 : Int32) (M : fh_M), rec115 t v2 v3 M = some (r, M') → fh_V X rm_X11_count 4 (sz, 0, 0) K M 115 [(0, va_rf (some t)), (2, .int v2), (3, .int v3)] []) (t : Nat) (v3 : Int32) (s0 : Int32) (s1 : Int32) (M : fh_M) (h : f_X11_count_J142 K rec115 t v3 s0 s1 M = some (r, M')) : fh_V X rm_X11_count 4 (sz, 0, 0) K M 142 [(0, va_rf (some t)), (3, .int v3)] [.int s0, .int s1] := by
  unfold f_X11_count_J142 at h
  refine fv_iadd C dX11_count_142 ?_
  refine fv_istore_n (i := 2) (lv' := [(2, .int (s1 + s0)), (0, va_rf (some t)), (3, .int v3)]) C rfl (by decide) (by first | rfl | simp [va_rf_cat]) dX11_count_143 ?_
  refine fv_iinc (v := v3 + 1) (lv' := [(3, .int (v3 + 1)), (2, .int (s1 + s0)), (0, va_rf (some t))]) C 2 rfl (by first | rfl | exact congrArg _ (by decide)) (by decide) (by first | rfl | simp [va_rf_cat]) dX11_count_144 ?_
  refine fv_goto C 115 (by decide) dX11_count_147 ?_
  refine fv_sub (cc := ⟨#[]⟩) (own := "") [2, 1, 0] rfl ?_
  exact hrec115 _ _ _ _ h
set_option maxRecDepth 10000 in
theorem r_X11_count_L115 {X : fh_X} {K : fh_K} {sz : Nat} {M' : fh_M} {r : Int32} (C : fh_C X 4 cX11_count RX11) (E : fh_E X rm_X11_count (some .int) (some (.int r)) K M' sz) : ∀ (n : Nat) (t : Nat) (v2 : Int32) (v3 : Int32) (M : fh_M), f_X11_count_L115 K n t v2 v3 M = some (r, M') → fh_V X rm_X11_count 4 (sz, 0, 0) K M 115 [(0, va_rf (some t)), (2, .int v2), (3, .int v3)] [] := by
  intro n
  induction n with
  | zero => intro t v2 v3 M h; cases h
  | succ n ih =>
    intro t v2 v3 M h
    unfold f_X11_count_L115 at h
    refine fv_iload_n C 2 rfl rfl dX11_count_115 ?_
    refine fv_aload_n C 0 rfl rfl dX11_count_116 ?_
    replace h := fo_s h
    obtain ⟨a15, ea15, ka15, h⟩ := h
    refine fv_getI C fl_RX11_117 ea15 ka15 dX11_count_117 ?_
    refine fv_icmp_ge C 150 (by decide) dX11_count_120 (fun c19 => ?_) (fun c19 => ?_)
    · replace h := itT c19 h
      refine fv_iload_n C 1 rfl rfl dX11_count_150 ?_
      cases h
      exact fv_iret (z := (0, 0, 0)) (st := []) C E dX11_count_151
    · replace h := itF c19 h
      refine fv_iload_n C 1 rfl rfl dX11_count_123 ?_
      refine fv_aload_n C 0 rfl rfl dX11_count_124 ?_
      refine fv_iload_n C 2 rfl rfl dX11_count_125 ?_
      refine fv_iconst (v := 0) C (by decide) dX11_count_126 ?_
      replace h := fc2_s h
      obtain ⟨r16, M17, er16, h⟩ := h
      refine fv_callV [.int v3, .int 0] C mi_X11_lastOf ms_X11_lastOf lk_RX11_197 ea15 ka15 (r_X11_lastOf _ _ _ er16) ⟨Nat.le_of_ble_eq_true rfl, Nat.le_of_ble_eq_true rfl⟩ ⟨Nat.le_of_ble_eq_true rfl, Nat.le_of_ble_eq_true rfl⟩ rfl rfl (by simp [va_rf_cat, cat_i, cat_l]) dX11_count_127 ?_
      show fh_V X rm_X11_count 4 (sz, 0, 0) K M17 _ _ [.int r16, .int v2]
      refine fv_aload_n C 0 rfl rfl dX11_count_130 ?_
      refine fv_getI C fl_RX11_136 ea15 ka15 dX11_count_131 ?_
      refine fv_icmp_ge C 141 (by decide) dX11_count_134 (fun c18 => ?_) (fun c18 => ?_)
      · replace h := itT c18 h
        refine fv_iconst (v := 0) C (by decide) dX11_count_141 ?_
        refine fv_sub (cc := ⟨#[]⟩) (own := "") [0, 2] rfl ?_
        exact r_X11_count_J142 C E ih _ _ _ _ _ h
      · replace h := itF c18 h
        refine fv_iconst (v := 1) C (by decide) dX11_count_137 ?_
        refine fv_goto C 142 (by decide) dX11_count_138 ?_
        refine fv_sub (cc := ⟨#[]⟩) (own := "") [0, 2] rfl ?_
        exact r_X11_count_J142 C E ih _ _ _ _ _ h
set_option maxRecDepth 10000 in
theorem r_X11_count_J103 {X : fh_X} {K : fh_K} {sz : Nat} {M' : fh_M} {r : Int32} (C : fh_C X 4 cX11_count RX11) (E : fh_E X rm_X11_count (some .int) (some (.int r)) K M' sz) {rec80 : Nat → Int32 → Int32 → fh_M → Option (Int32 × fh_M)} (hrec80 : ∀ (t : Nat) (v2 : Int32) (v3 : Int32) (M : fh_M), rec80 t v2 v3 M = some (r, M') → fh_V X rm_X11_count 4 (sz, 0, 0) K M 80 [(0, va_rf (some t)), (2, .int v2), (3, .int v3)] []) (t : Nat) (v3 : Int32) (s0 : Int32) (s1 : Int32) (M : fh_M) (h : f_X11_count_J103 K rec80 t v3 s0 s1 M = some (r, M')) : fh_V X rm_X11_count 4 (sz, 0, 0) K M 103 [(0, va_rf (some t)), (3, .int v3)] [.int s0, .int s1] := by
  unfold f_X11_count_J103 at h
  refine fv_iadd C dX11_count_103 ?_
  refine fv_istore_n (i := 2) (lv' := [(2, .int (s1 + s0)), (0, va_rf (some t)), (3, .int v3)]) C rfl (by decide) (by first | rfl | simp [va_rf_cat]) dX11_count_104 ?_
  refine fv_iinc (v := v3 + 1) (lv' := [(3, .int (v3 + 1)), (2, .int (s1 + s0)), (0, va_rf (some t))]) C 2 rfl (by first | rfl | exact congrArg _ (by decide)) (by decide) (by first | rfl | simp [va_rf_cat]) dX11_count_105 ?_
  refine fv_goto C 80 (by decide) dX11_count_108 ?_
  refine fv_sub (cc := ⟨#[]⟩) (own := "") [2, 1, 0] rfl ?_
  exact hrec80 _ _ _ _ h
set_option maxRecDepth 10000 in
theorem r_X11_count_L80 {X : fh_X} {K : fh_K} {sz : Nat} {M' : fh_M} {r : Int32} (C : fh_C X 4 cX11_count RX11) (E : fh_E X rm_X11_count (some .int) (some (.int r)) K M' sz) : ∀ (n : Nat) (t : Nat) (v2 : Int32) (v3 : Int32) (M : fh_M), f_X11_count_L80 K n t v2 v3 M = some (r, M') → fh_V X rm_X11_count 4 (sz, 0, 0) K M 80 [(0, va_rf (some t)), (2, .int v2), (3, .int v3)] [] := by
  intro n
  induction n with
  | zero => intro t v2 v3 M h; cases h
  | succ n ih =>
    intro t v2 v3 M h
    unfold f_X11_count_L80 at h
    refine fv_iload_n C 2 rfl rfl dX11_count_80 ?_
    refine fv_aload_n C 0 rfl rfl dX11_count_81 ?_
    replace h := fo_s h
    obtain ⟨a20, ea20, ka20, h⟩ := h
    refine fv_getI C fl_RX11_117 ea20 ka20 dX11_count_82 ?_
    refine fv_icmp_ge C 111 (by decide) dX11_count_85 (fun c24 => ?_) (fun c24 => ?_)
    · replace h := itT c24 h
      refine fv_iload_n C 1 rfl rfl dX11_count_111 ?_
      cases h
      exact fv_iret (z := (0, 0, 0)) (st := []) C E dX11_count_112
    · replace h := itF c24 h
      refine fv_iload_n C 1 rfl rfl dX11_count_88 ?_
      refine fv_aload_n C 0 rfl rfl dX11_count_89 ?_
      refine fv_iload_n C 2 rfl rfl dX11_count_90 ?_
      replace h := fc2_s h
      obtain ⟨r21, M22, er21, h⟩ := h
      refine fv_callV [.int v3] C mi_X11_knows ms_X11_knows lk_RX11_156 ea20 ka20 (r_X11_knows _ _ _ er21) ⟨Nat.le_of_ble_eq_true rfl, Nat.le_of_ble_eq_true rfl⟩ ⟨Nat.le_of_ble_eq_true rfl, Nat.le_of_ble_eq_true rfl⟩ rfl rfl (by simp [va_rf_cat, cat_i, cat_l]) dX11_count_91 ?_
      show fh_V X rm_X11_count 4 (sz, 0, 0) K M22 _ _ [.int r21, .int v2]
      refine fv_iconst (v := -1) C (by decide) dX11_count_94 ?_
      refine fv_icmp_ne C 102 (by decide) dX11_count_95 (fun c23 => ?_) (fun c23 => ?_)
      · replace h := itF c23 h
        refine fv_iconst (v := 0) C (by decide) dX11_count_102 ?_
        refine fv_sub (cc := ⟨#[]⟩) (own := "") [0, 2] rfl ?_
        exact r_X11_count_J103 C E ih _ _ _ _ _ h
      · replace h := itT c23 h
        refine fv_iconst (v := 1) C (by decide) dX11_count_98 ?_
        refine fv_goto C 103 (by decide) dX11_count_99 ?_
        refine fv_sub (cc := ⟨#[]⟩) (own := "") [0, 2] rfl ?_
        exact r_X11_count_J103 C E ih _ _ _ _ _ h
set_option maxRecDepth 10000 in
theorem r_X11_count (l : Launch) (D : fh_D) (A : Nat → Prop) {K : fh_K} {sz : Nat} {M : fh_M} {M' : fh_M} {r : Int32} {t : Nat} {p1 : Int32} (h : f_X11_count K M t p1 = some (r, M')) : fh_Met l yX11_count cX11_count 4 (some .int) rm_X11_count D K M sz A [va_rf (some t), .int p1] (some (.int r)) K M' sz := by
  refine fh_enter (by decide) (by simp [lg_sl, va_rf_cat, cat_i, cat_l]) (lv := [(0, va_rf (some t)), (1, .int p1)]) (by simp [lv_args, va_rf_cat, cat_i, cat_l]) ?_
  intro X C E hnm _ _ _
  replace C : fh_C X 4 cX11_count RX11 := C
  unfold f_X11_count at h
  refine fv_iconst (v := 0) C (by decide) dX11_count_0 ?_
  refine fv_istore_n (i := 2) (lv' := [(2, .int 0), (0, va_rf (some t)), (1, .int p1)]) C rfl (by decide) (by first | rfl | simp [va_rf_cat]) dX11_count_1 ?_
  refine fv_iload_n C 2 rfl rfl dX11_count_2 ?_
  rcases Classical.em (p1 = 0) with c1 | c1
  · replace h := itT c1 h
    refine fv_tsIn (off := 45) C 48 (by rw [c1]; decide) (by rw [c1]; decide) (by rw [c1]; decide) (by decide) dX11_count_3 ?_
    refine fv_aload_n C 1 rfl rfl dX11_count_48 ?_
    replace h := fo_s h
    obtain ⟨a2, ea2, ka2, h⟩ := h
    refine fv_getI C fl_RX11_114 ea2 ka2 dX11_count_49 ?_
    cases h
    exact fv_iret (z := (0, 0, 0)) (st := []) C E dX11_count_52
  replace h := itF c1 h
  rcases Classical.em (p1 = 1) with c3 | c3
  · replace h := itT c3 h
    refine fv_tsIn (off := 50) C 53 (by rw [c3]; decide) (by rw [c3]; decide) (by rw [c3]; decide) (by decide) dX11_count_3 ?_
    refine fv_aload_n C 1 rfl rfl dX11_count_53 ?_
    replace h := fo_s h
    obtain ⟨a4, ea4, ka4, h⟩ := h
    refine fv_getI C fl_RX11_117 ea4 ka4 dX11_count_54 ?_
    cases h
    exact fv_iret (z := (0, 0, 0)) (st := []) C E dX11_count_57
  replace h := itF c3 h
  rcases Classical.em (p1 = 2) with c5 | c5
  · replace h := itT c5 h
    refine fv_tsIn (off := 55) C 58 (by rw [c5]; decide) (by rw [c5]; decide) (by rw [c5]; decide) (by decide) dX11_count_3 ?_
    refine fv_aload_n C 1 rfl rfl dX11_count_58 ?_
    replace h := fo_s h
    obtain ⟨a6, ea6, ka6, h⟩ := h
    refine fv_getI C fl_RX11_130 ea6 ka6 dX11_count_59 ?_
    cases h
    exact fv_iret (z := (0, 0, 0)) (st := []) C E dX11_count_62
  replace h := itF c5 h
  rcases Classical.em (p1 = 3) with c7 | c7
  · replace h := itT c7 h
    refine fv_tsIn (off := 60) C 63 (by rw [c7]; decide) (by rw [c7]; decide) (by rw [c7]; decide) (by decide) dX11_count_3 ?_
    refine fv_aload_n C 1 rfl rfl dX11_count_63 ?_
    replace h := fo_s h
    obtain ⟨a8, ea8, ka8, h⟩ := h
    refine fv_getI C fl_RX11_133 ea8 ka8 dX11_count_64 ?_
    cases h
    exact fv_iret (z := (0, 0, 0)) (st := []) C E dX11_count_67
  replace h := itF c7 h
  rcases Classical.em (p1 = 4) with c9 | c9
  · replace h := itT c9 h
    refine fv_tsIn (off := 65) C 68 (by rw [c9]; decide) (by rw [c9]; decide) (by rw [c9]; decide) (by decide) dX11_count_3 ?_
    refine fv_aload_n C 1 rfl rfl dX11_count_68 ?_
    replace h := fo_s h
    obtain ⟨a10, ea10, ka10, h⟩ := h
    refine fv_getI C fl_RX11_136 ea10 ka10 dX11_count_69 ?_
    cases h
    exact fv_iret (z := (0, 0, 0)) (st := []) C E dX11_count_72
  replace h := itF c9 h
  rcases Classical.em (p1 = 5) with c11 | c11
  · replace h := itT c11 h
    refine fv_tsIn (off := 70) C 73 (by rw [c11]; decide) (by rw [c11]; decide) (by rw [c11]; decide) (by decide) dX11_count_3 ?_
    refine fv_aload_n C 1 rfl rfl dX11_count_73 ?_
    replace h := fo_s h
    obtain ⟨a12, ea12, ka12, h⟩ := h
    refine fv_getI C fl_RX11_102 ea12 ka12 dX11_count_74 ?_
    cases h
    exact fv_iret (z := (0, 0, 0)) (st := []) C E dX11_count_77
  replace h := itF c11 h
  rcases Classical.em (p1 = 6) with c13 | c13
  · replace h := itT c13 h
    refine fv_tsIn (off := 75) C 78 (by rw [c13]; decide) (by rw [c13]; decide) (by rw [c13]; decide) (by decide) dX11_count_3 ?_
    refine fv_iconst (v := 0) C (by decide) dX11_count_78 ?_
    refine fv_istore_n (i := 3) (lv' := [(3, .int 0), (2, .int 0), (0, va_rf (some t)), (1, .int p1)]) C rfl (by decide) (by first | rfl | simp [va_rf_cat]) dX11_count_79 ?_
    refine fv_sub (cc := ⟨#[]⟩) (own := "") [2, 1, 0] rfl ?_
    exact r_X11_count_L80 C E  4096 _ _ _ _ h
  replace h := itF c13 h
  rcases Classical.em (p1 = 7) with c14 | c14
  · replace h := itT c14 h
    refine fv_tsIn (off := 110) C 113 (by rw [c14]; decide) (by rw [c14]; decide) (by rw [c14]; decide) (by decide) dX11_count_3 ?_
    refine fv_iconst (v := 0) C (by decide) dX11_count_113 ?_
    refine fv_istore_n (i := 3) (lv' := [(3, .int 0), (2, .int 0), (0, va_rf (some t)), (1, .int p1)]) C rfl (by decide) (by first | rfl | simp [va_rf_cat]) dX11_count_114 ?_
    refine fv_sub (cc := ⟨#[]⟩) (own := "") [2, 1, 0] rfl ?_
    exact r_X11_count_L115 C E  4096 _ _ _ _ h
  replace h := itF c14 h
  refine fv_tsOut C 152 (by have := lv_neT c1 (show (0 : Int32).toInt = 0 by decide); have := lv_neT c3 (show (1 : Int32).toInt = 1 by decide); have := lv_neT c5 (show (2 : Int32).toInt = 2 by decide); have := lv_neT c7 (show (3 : Int32).toInt = 3 by decide); have := lv_neT c9 (show (4 : Int32).toInt = 4 by decide); have := lv_neT c11 (show (5 : Int32).toInt = 5 by decide); have := lv_neT c13 (show (6 : Int32).toInt = 6 by decide); have := lv_neT c14 (show (7 : Int32).toInt = 7 by decide); omega) (by decide) dX11_count_3 ?_
  refine fv_iconst (v := -1) C (by decide) dX11_count_152 ?_
  cases h
  exact fv_iret (z := (0, 0, 0)) (st := []) C E dX11_count_153
