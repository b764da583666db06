def fX10_turnAll (s : mx_G) : Option (Int32 × mx_G) :=
  mv_bind (fX0_load s) fun _ s1 =>
  mv_bind (fX0_advance s1) fun x2 s3 =>
  mv_bind (fX0_store s3) fun _ s4 =>
  some (x2, s4)
def fX10_turn (s : mx_G) : Option (Int32 × mx_G) :=
  mv_bind (fX10_discontent s) fun x1 s2 =>
  if x1 = 0 then
    mv_bind (fX10_turnAll s2) fun x3 s4 =>
    some (x3, s4)
  else
    mv_bind (fX3_keep s2) fun _ s5 =>
    mv_bind (fX10_turnAll s5) fun x6 s7 =>
    some (x6, s7)
def fX10_chooseAnew (p1 : Int32) (s : mx_G) : Option (Int32 × mx_G) :=
  mv_bind (fX0_load s) fun _ s1 =>
  mv_bind (fX0_best p1 s1) fun x2 s3 =>
  mv_bind (fX9_chosenBy p1 s3) fun x4 s5 =>
  if x2 = x4 then
    some (0, s5)
  else
    mv_bind (fX9_setChosen p1 x2 s5) fun _ s6 =>
    some (1, s6)
def fX10_choose (p1 : Int32) (s : mx_G) : Option (Int32 × mx_G) :=
  mv_bind (fX9_isDomain p1 s) fun x1 s2 =>
  if x1 = 0 then
    some ((-1), s2)
  else
    mv_bind (fX0_load s2) fun _ s3 =>
    mv_bind (fX0_best p1 s3) fun x4 s5 =>
    mv_bind (fX9_chosenBy p1 s5) fun x6 s7 =>
    if x4 = x6 then
      mv_bind (fX10_chooseAnew p1 s7) fun x8 s9 =>
      some (x8, s9)
    else
      mv_bind (fX3_keep s7) fun _ s10 =>
      mv_bind (fX10_chooseAnew p1 s10) fun x11 s12 =>
      some (x11, s12)
def lX10_rest_22  : Nat → Int32 → mx_G → Option (Int32 × mx_G)
  | 0, _, _ => none
  | n + 1, a1, s0 =>
    if 40 < a1 then
      some ((-4), s0)
    else
      mv_bind (fX10_turnAll s0) fun x4 s5 =>
      mv_bind (fX10_discontent s5) fun x6 s7 =>
      if x6 = 0 then
        some (a1, s7)
      else
        lX10_rest_22 n (a1 + 1) s7
def fX10_rest (s : mx_G) : Option (Int32 × mx_G) :=
  mv_bind (fX10_discontent s) fun x1 s2 =>
  if x1 = 0 then
    some (0, s2)
  else
    mv_bind (fX3_keep s2) fun _ s3 =>
    lX10_rest_22 
     FU 1 s3
def fJI_bitCount (p0 : Int32) (s : mx_G) : Option (Int32 × mx_G) :=
  mv_let (p0 - ((mv_ushr p0 1) &&& 1431655765)) fun x1 =>
  mv_let ((x1 &&& 858993459) + ((mv_ushr x1 2) &&& 858993459)) fun x2 =>
  mv_let ((x2 + (mv_ushr x2 4)) &&& 252645135) fun x3 =>
  mv_let (x3 + (mv_ushr x3 8)) fun x4 =>
  mv_let (x4 + (mv_ushr x4 16)) fun x5 =>
  some (x5 &&& 63, s)
def fX10_clear (s : mx_G) : Option (Int32 × mx_G) :=
  mv_bind (fX9_choosers s) fun x1 s2 =>
  mv_bind (fJI_bitCount x1 s2) fun x3 s4 =>
  mv_let (x3 - 1) fun x5 =>
  if x5 = 0 then
    some ((-2), s4)
  else
    mv_bind (fX3_keep s4) fun _ s6 =>
    mv_bind (fX9_forgetChosen s6) fun _ s7 =>
    some (x5, s7)
def lX1_note_2 (a2 : Int32) : Nat → Int32 → mx_G → Option (Unit × mx_G)
  | 0, _, _ => none
  | n + 1, a3, s0 =>
    if 6 ≤ a3 then
      some ((), s0)
    else
      mv_bind (fX0_wayOf a3 s0) fun x1 s2 =>
      if ix ((a2 * 6) + a3) 366 = true then
        mv_let (gi s2 35 (Int32.toNatClampNeg ((a2 * 6) + a3)) x1) fun s3 =>
        lX1_note_2 a2 n (a3 + 1) s3
      else none
def fX1_note (p2 : Int32) (s : mx_G) : Option (Unit × mx_G) :=
  lX1_note_2 p2
   FU 0 s
def lX1_areAlike_2 (a1 : Int32) (a2 : Int32) : Nat → Int32 → mx_G → Option (Int32 × mx_G)
  | 0, _, _ => none
  | n + 1, a3, s0 =>
    if 6 ≤ a3 then
      some (1, s0)
    else
      if ix ((a1 * 6) + a3) 366 = true then
        if ix ((a2 * 6) + a3) 366 = true then
          if s0.1 35 (Int32.toNatClampNeg ((a1 * 6) + a3)) = s0.1 35 (Int32.toNatClampNeg ((a2 * 6) + a3)) then
            lX1_areAlike_2 a1 a2 n (a3 + 1) s0
          else
            some (0, s0)
        else none
      else none
def fX1_areAlike (p1 : Int32) (p2 : Int32) (s : mx_G) : Option (Int32 × mx_G) :=
  lX1_areAlike_2 p1 p2
   FU 0 s
def lX1_earlier_2 (a1 : Int32) : Nat → Int32 → mx_G → Option (Int32 × mx_G)
  | 0, _, _ => none
  | n + 1, a2, s0 =>
    if a1 ≤ a2 then
      some ((-1), s0)
    else
      mv_bind (fX1_areAlike a2 a1 s0) fun x1 s2 =>
      if x1 = 0 then
        lX1_earlier_2 a1 n (a2 + 1) s2
      else
        some (a2, s2)
def fX1_earlier (p1 : Int32) (s : mx_G) : Option (Int32 × mx_G) :=
  lX1_earlier_2 p1
   FU 0 s
def lX1_look_20 (k50 : Int32 → Int32 → mx_G → Option (Unit × mx_G)) : Nat → Int32 → mx_G → Option (Unit × mx_G)
  | 0, _, _ => none
  | n + 1, a3, s0 =>
    if 60 < a3 then
      some ((), s0)
    else
      mv_bind (fX0_advance s0) fun x4 s5 =>
      mv_bind (fX1_note a3 s5) fun _ s6 =>
      mv_bind (fX1_earlier a3 s6) fun x7 s8 =>
      if x7 < 0 then
        lX1_look_20 k50 n (a3 + 1) s8
      else
        k50 a3 x7 s8
def fX1_look (s : mx_G) : Option (Unit × mx_G) :=
  mv_let (gi s 34 0 (-4)) fun s1 =>
  mv_let (gi s1 34 1 (-4)) fun s2 =>
  mv_bind (fX1_note 0 s2) fun _ s3 =>
  lX1_look_20 
    (fun y10 y11 s9 =>
      mv_let (gi s9 34 0 y11) fun s12 =>
      mv_let (gi s12 34 1 (y10 - y11)) fun s13 =>
      some ((), s13)
    )
    FU 1 s3
def fX10_foreseen (p1 : Int32) (s : mx_G) : Option (Int32 × mx_G) :=
  if p1 < 0 then
    some ((-1), s)
  else
    if p1 ≤ 2 then
      mv_bind (fX0_load s) fun _ s1 =>
      mv_bind (fX1_look s1) fun _ s2 =>
      if p1 = 1 then
        some (s2.1 34 1, s2)
      else
        if p1 = 0 then
          if s2.1 34 1 = 1 then
            some (s2.1 34 0, s2)
          else
            some ((-4), s2)
        else
          some (s2.1 34 0, s2)
    else
      some ((-1), s)
def lX4_nextsOf_26  : Nat → Int32 → Int32 → mx_G → Option (Unit × mx_G)
  | 0, _, _, _ => none
  | n + 1, a4, a5, s0 =>
    if a5 < 1 then
      some ((), s0)
    else
      if ix a5 6 = true then
        mv_let (gi s0 44 (Int32.toNatClampNeg a5) (mv_rem a4 10)) fun s3 =>
        mv_let (a4 / 10) fun x4 =>
        lX4_nextsOf_26 n x4 (a5 + (-1)) s3
      else none
def fX4_nextsOf (p1 : Int32) (p2 : Int32) (s : mx_G) : Option (Unit × mx_G) :=
  if p1 < 0 then
    some ((), s)
  else
    if p1 < s.1 31 1 then
      if ix p1 2117 = true then
        mv_let (s.1 32 (Int32.toNatClampNeg p1)) fun x1 =>
        mv_let (p2 - 1) fun x2 =>
        lX4_nextsOf_26 
         FU x1 x2 s
      else none
    else
      some ((), s)
def lX0_walk_1_13 (a1 : Int32) (k67 : Int32 → Int32 → Int32 → Int32 → mx_G → Option (Unit × mx_G)) : Nat → Int32 → Int32 → Int32 → Int32 → mx_G → Option (Unit × mx_G)
  | 0, _, _, _, _, _ => none
  | n + 1, a3, a4, a5, a6, s0 =>
    if 6 ≤ a6 then
      k67 a3 a4 a5 a6 s0
    else
      if a5 ≤ 0 then
        k67 a3 a4 a5 a6 s0
      else
        if ix a5 6 = true then
          mv_let (s0.1 44 (Int32.toNatClampNeg a5)) fun x2 =>
          if x2 < 0 then
            some ((), s0)
          else
            if x2 < 6 then
              mv_let ((a3 * 10) + x2) fun x3 =>
              mv_let (a4 ||| (mv_shl 1 x2)) fun x4 =>
              lX0_walk_1_13 a1 k67 n x3 x4 x2 (a6 + 1) s0
            else
              some ((), s0)
        else none
def fX0_walk_1 (p1 : Int32) (s : mx_G) : Option (Unit × mx_G) :=
  mv_let (mv_shl 1 p1) fun x1 =>
  lX0_walk_1_13 p1
    (fun y6 y7 y8 y9 s5 =>
      if y8 = 0 then
        if ix p1 6 = true then
          mv_let (gi s5 10 (Int32.toNatClampNeg p1) y6) fun s10 =>
          if ix p1 6 = true then
            mv_let (gi s10 11 (Int32.toNatClampNeg p1) y7) fun s11 =>
            if ix p1 6 = true then
              if ix p1 6 = true then
                mv_let (gi s11 12 (Int32.toNatClampNeg p1) (s11.1 44 (Int32.toNatClampNeg p1))) fun s12 =>
                if ix p1 6 = true then
                  mv_let (gi s12 13 (Int32.toNatClampNeg p1) y9) fun s13 =>
                  some ((), s13)
                else none
              else none
            else none
          else none
        else none
      else
        some ((), s5)
    )
    FU p1 x1 p1 1 s
def lX0_follow_1_8 (a2 : Int32) : Nat → Int32 → mx_G → Option (Unit × mx_G)
  | 0, _, _ => none
  | n + 1, a3, s0 =>
    if 6 ≤ a3 then
      some ((), s0)
    else
      mv_bind (fX0_putNone a3 s0) fun _ s2 =>
      if a2 ≤ a3 then
        lX0_follow_1_8 a2 n (a3 + 1) s2
      else
        mv_bind (fX0_walk_1 a3 s2) fun _ s3 =>
        lX0_follow_1_8 a2 n (a3 + 1) s3
def fX0_follow_1 (p2 : Int32) (s : mx_G) : Option (Unit × mx_G) :=
  mv_bind (fX0_put 0 0 s) fun _ s1 =>
  lX0_follow_1_8 p2
   FU 1 s1
def fX10_stable (p1 : Int32) (p2 : Int32) (s : mx_G) : Option (Int32 × mx_G) :=
  if p1 < 0 then
    some ((-1), s)
  else
    mv_bind (fX9_isDomain p2 s) fun x1 s2 =>
    if x1 = 0 then
      some ((-1), s2)
    else
      mv_bind (fX10_stableOnes s2) fun x3 s4 =>
      if p1 < x3 then
        mv_bind (fX9_size s4) fun x5 s6 =>
        mv_bind (fX4_nextsOf p1 x5 s6) fun _ s7 =>
        mv_bind (fX9_size s7) fun x8 s9 =>
        mv_bind (fX0_follow_1 x8 s9) fun _ s10 =>
        mv_bind (fX0_wayOf p2 s10) fun x11 s12 =>
        some (x11, s12)
      else
        some ((-2), s4)
def lJA_fillL_6 (a1 : Int64) (a4 : Int32) : Nat → Int32 → mx_G → Option (Unit × mx_G)
  | 0, _, _ => none
  | n + 1, a3, s0 =>
    if a4 ≤ a3 then
      some ((), s0)
    else
      if ix a3 1956 = true then
        mv_let (gl s0 26 (Int32.toNatClampNeg a3) a1) fun s1 =>
        lJA_fillL_6 a1 a4 n (a3 + 1) s1
      else none
def fJA_fillL (p1 : Int64) (s : mx_G) : Option (Unit × mx_G) :=
  lJA_fillL_6 p1 1956
   FU 0 s
def lJA_fillL_1_6 (a1 : Int64) (a4 : Int32) : Nat → Int32 → mx_G → Option (Unit × mx_G)
  | 0, _, _ => none
  | n + 1, a3, s0 =>
    if a4 ≤ a3 then
      some ((), s0)
    else
      if ix a3 6 = true then
        mv_let (gl s0 27 (Int32.toNatClampNeg a3) a1) fun s1 =>
        lJA_fillL_1_6 a1 a4 n (a3 + 1) s1
      else none
def fJA_fillL_1 (p1 : Int64) (s : mx_G) : Option (Unit × mx_G) :=
  lJA_fillL_1_6 p1 6
   FU 0 s
def fX8_tailOf (p1 : Int32) (s : mx_G) : Option (Int32 × mx_G) :=
  if ix p1 326 = true then
    some (s.1 18 (Int32.toNatClampNeg p1), s)
  else none
def fX8_ownerOf (p1 : Int32) (s : mx_G) : Option (Int32 × mx_G) :=
  if ix p1 326 = true then
    some (s.1 17 (Int32.toNatClampNeg p1), s)
  else none
def fX5_mark (p1 : Int32) (p2 : Int32) (s : mx_G) : Option (Unit × mx_G) :=
  if ix ((p1 * 6) + (p2 / 64)) 1956 = true then
    if ix ((p1 * 6) + (p2 / 64)) 1956 = true then
      mv_let (gl s 26 (Int32.toNatClampNeg ((p1 * 6) + (p2 / 64))) ((s.2 26 (Int32.toNatClampNeg ((p1 * 6) + (p2 / 64)))) ||| (mv_lshl 1 (mv_rem p2 64)))) fun s1 =>
      some ((), s1)
    else none
  else none
def fX8_placeOf (p1 : Int32) (s : mx_G) : Option (Int32 × mx_G) :=
  if ix p1 326 = true then
    some (s.1 22 (Int32.toNatClampNeg p1), s)
  else none
def fX8_membersOf (p1 : Int32) (s : mx_G) : Option (Int32 × mx_G) :=
  if ix p1 326 = true then
    some (s.1 20 (Int32.toNatClampNeg p1), s)
  else none
def fX8_isBriefer (p1 : Int32) (p2 : Int32) (s : mx_G) : Option (Int32 × mx_G) :=
  if ix p1 326 = true then
    if ix p2 326 = true then
      if mv_rem (s.1 19 (Int32.toNatClampNeg p2)) 8000000 ≤ mv_rem (s.1 19 (Int32.toNatClampNeg p1)) 8000000 then
        some (0, s)
      else
        some (1, s)
    else none
  else none
def lX5_noteLeading_32 (a3 : Int32) (a4 : Int32) (a5 : Int32) (a6 : Int32) : Nat → Int32 → mx_G → Option (Unit × mx_G)
  | 0, _, _ => none
  | n + 1, a7, s0 =>
    mv_bind (fX8_placeOf a4 s0) fun x8 s9 =>
    if x8 ≤ a7 then
      some ((), s9)
    else
      mv_bind (fX8_rankedAt a6 a7 s9) fun x10 s11 =>
      mv_bind (fX8_membersOf x10 s11) fun x12 s13 =>
      mv_bind (fX8_secondOf x10 s13) fun x14 s15 =>
      mv_bind (fX9_takes a5 a6 x12 x14 s15) fun x16 s17 =>
      if x16 = 0 then
        mv_bind (fX5_mark x10 a3 s17) fun _ s18 =>
        lX5_noteLeading_32 a3 a4 a5 a6 n (a7 + 1) s18
      else
        mv_bind (fX8_isBriefer x10 a4 s17) fun x19 s20 =>
        if x19 = 0 then
          mv_bind (fX5_mark x10 a3 s20) fun _ s21 =>
          lX5_noteLeading_32 a3 a4 a5 a6 n (a7 + 1) s21
        else
          lX5_noteLeading_32 a3 a4 a5 a6 n (a7 + 1) s20
def fX5_noteLeading (p3 : Int32) (s : mx_G) : Option (Unit × mx_G) :=
  mv_bind (fX8_tailOf p3 s) fun x1 s2 =>
  mv_bind (fX8_ownerOf p3 s2) fun x3 s4 =>
  mv_bind (fX8_ownerOf x1 s4) fun x5 s6 =>
  mv_bind (fX5_mark x1 p3 s6) fun _ s7 =>
  lX5_noteLeading_32 p3 x1 x3 x5
   FU 0 s7
def fX5_has (p1 : Int32) (s : mx_G) : Option (Int32 × mx_G) :=
  if ix (p1 / 64) 6 = true then
    if lg_cmp ((mv_lushr (s.2 27 (Int32.toNatClampNeg (p1 / 64))) (mv_rem p1 64)) &&& 1) 0 = 0 then
      some (0, s)
    else
      some (1, s)
  else none
def lJA_fillL_2_6 (a1 : Int64) (a4 : Int32) : Nat → Int32 → mx_G → Option (Unit × mx_G)
  | 0, _, _ => none
  | n + 1, a3, s0 =>
    if a4 ≤ a3 then
      some ((), s0)
    else
      if ix a3 6 = true then
        mv_let (gl s0 28 (Int32.toNatClampNeg a3) a1) fun s1 =>
        lJA_fillL_2_6 a1 a4 n (a3 + 1) s1
      else none
def fJA_fillL_2 (p1 : Int64) (s : mx_G) : Option (Unit × mx_G) :=
  lJA_fillL_2_6 p1 6
   FU 0 s
def lJA_fillL_3_6 (a1 : Int64) (a4 : Int32) : Nat → Int32 → mx_G → Option (Unit × mx_G)
  | 0, _, _ => none
  | n + 1, a3, s0 =>
    if a4 ≤ a3 then
      some ((), s0)
    else
      if ix a3 6 = true then
        mv_let (gl s0 29 (Int32.toNatClampNeg a3) a1) fun s1 =>
        lJA_fillL_3_6 a1 a4 n (a3 + 1) s1
      else none
def fJA_fillL_3 (p1 : Int64) (s : mx_G) : Option (Unit × mx_G) :=
  lJA_fillL_3_6 p1 6
   FU 0 s
def lJA_fillL_4_6 (a1 : Int64) (a4 : Int32) : Nat → Int32 → mx_G → Option (Unit × mx_G)
  | 0, _, _ => none
  | n + 1, a3, s0 =>
    if a4 ≤ a3 then
      some ((), s0)
    else
      if ix a3 6 = true then
        mv_let (gl s0 30 (Int32.toNatClampNeg a3) a1) fun s1 =>
        lJA_fillL_4_6 a1 a4 n (a3 + 1) s1
      else none
def fJA_fillL_4 (p1 : Int64) (s : mx_G) : Option (Unit × mx_G) :=
  lJA_fillL_4_6 p1 6
   FU 0 s
def fJL_bitCount (p0 : Int64) (s : mx_G) : Option (Int32 × mx_G) :=
  mv_let (p0 - ((mv_lushr p0 1) &&& 6148914691236517205)) fun x1 =>
  mv_let ((x1 &&& 3689348814741910323) + ((mv_lushr x1 2) &&& 3689348814741910323)) fun x2 =>
  mv_let ((x2 + (mv_lushr x2 4)) &&& 1085102592571150095) fun x3 =>
  mv_let (x3 + (mv_lushr x3 8)) fun x4 =>
  mv_let (x4 + (mv_lushr x4 16)) fun x5 =>
  mv_let (x5 + (mv_lushr x5 32)) fun x6 =>
  some ((Int64.toInt32 x6) &&& 127, s)
def lX5_join_18 (a1 : Int32) (k70 : Int64 → mx_G → Option (Int32 × mx_G)) : Nat → Int64 → Int32 → mx_G → Option (Int32 × mx_G)
  | 0, _, _, _ => none
  | n + 1, a2, a4, s0 =>
    if 6 ≤ a4 then
      k70 a2 s0
    else
      if ix ((a1 * 6) + a4) 1956 = true then
        if ix a4 6 = true then
          mv_let ((s0.2 26 (Int32.toNatClampNeg ((a1 * 6) + a4))) &&& (s0.2 27 (Int32.toNatClampNeg a4))) fun x1 =>
          if ix a4 6 = true then
            if ix a4 6 = true then
              mv_let (gl s0 30 (Int32.toNatClampNeg a4) ((s0.2 30 (Int32.toNatClampNeg a4)) ||| x1)) fun s2 =>
              mv_let (a2 ||| x1) fun x3 =>
              lX5_join_18 a1 k70 n x3 (a4 + 1) s2
            else none
          else none
        else none
      else none
def fX5_join (p1 : Int32) (s : mx_G) : Option (Int32 × mx_G) :=
  if p1 < 0 then
    some (0, s)
  else
    if p1 < 326 then
      lX5_join_18 p1
        (fun y5 s4 =>
          if lg_cmp y5 0 = 0 then
            some (0, s4)
          else
            some (1, s4)
        )
        FU 0 0 s
    else
      some (0, s)
def lX5_spread_26 (a1 : Int32) (k73 : mx_G → Option (Int32 × mx_G)) : Nat → Int64 → Int32 → mx_G → Option (Int32 × mx_G)
  | 0, _, _, _ => none
  | n + 1, a2, a4, s0 =>
    if 64 ≤ a4 then
      k73 s0
    else
      if lg_cmp a2 0 = 0 then
        k73 s0
      else
        mv_let (a2 &&& (-a2)) fun x3 =>
        mv_bind (fJL_bitCount (x3 - 1) s0) fun x4 s5 =>
        mv_bind (fX5_join ((a1 * 64) + x4) s5) fun x6 s7 =>
        mv_let (a2 ^^^ x3) fun x8 =>
        lX5_spread_26 a1 k73 n x8 (a4 + 1) s7
def lX5_spread_10 (k79 : mx_G → Option (Int32 × mx_G)) : Nat → Int32 → mx_G → Option (Int32 × mx_G)
  | 0, _, _ => none
  | n + 1, a1, s0 =>
    if 6 ≤ a1 then
      k79 s0
    else
      if ix a1 6 = true then
        mv_let (s0.2 29 (Int32.toNatClampNeg a1)) fun x2 =>
        lX5_spread_26 a1
          (fun s9 =>
            lX5_spread_10 k79 n (a1 + 1) s9
          )
          FU x2 0 s0
      else none
def lX5_spread_83 (k142 : Int64 → mx_G → Option (Int32 × mx_G)) : Nat → Int64 → Int32 → mx_G → Option (Int32 × mx_G)
  | 0, _, _, _ => none
  | n + 1, a1, a3, s0 =>
    if 6 ≤ a3 then
      k142 a1 s0
    else
      if ix a3 6 = true then
        if ix a3 6 = true then
          if ix a3 6 = true then
            mv_let (gl s0 29 (Int32.toNatClampNeg a3) ((s0.2 30 (Int32.toNatClampNeg a3)) &&& ((s0.2 28 (Int32.toNatClampNeg a3)) ^^^ (-1)))) fun s11 =>
            if ix a3 6 = true then
              if ix a3 6 = true then
                if ix a3 6 = true then
                  mv_let (gl s11 28 (Int32.toNatClampNeg a3) ((s11.2 28 (Int32.toNatClampNeg a3)) ||| (s11.2 29 (Int32.toNatClampNeg a3)))) fun s12 =>
                  if ix a3 6 = true then
                    mv_let (a1 ||| (s12.2 29 (Int32.toNatClampNeg a3))) fun x13 =>
                    lX5_spread_83 k142 n x13 (a3 + 1) s12
                  else none
                else none
              else none
            else none
          else none
        else none
      else none
def fX5_spread (s : mx_G) : Option (Int32 × mx_G) :=
  mv_bind (fJA_fillL_4 0 s) fun _ s1 =>
  lX5_spread_10 
    (fun s10 =>
      lX5_spread_83 
        (fun y15 s14 =>
          if lg_cmp y15 0 = 0 then
            some (0, s14)
          else
            some (1, s14)
        )
        FU 0 0 s10
    )
    FU 0 s1
def fX5_has_1 (p1 : Int32) (s : mx_G) : Option (Int32 × mx_G) :=
  if ix (p1 / 64) 6 = true then
    if lg_cmp ((mv_lushr (s.2 29 (Int32.toNatClampNeg (p1 / 64))) (mv_rem p1 64)) &&& 1) 0 = 0 then
      some (0, s)
    else
      some (1, s)
  else none
def lX5_lengthThrough_36 (a1 : Int32) : Nat → Int32 → mx_G → Option (Int32 × mx_G)
  | 0, _, _ => none
  | n + 1, a2, s0 =>
    if 326 < a2 then
      some (0, s0)
    else
      mv_bind (fX5_spread s0) fun x4 s5 =>
      if x4 = 0 then
        some (0, s5)
      else
        mv_bind (fX5_has_1 a1 s5) fun x6 s7 =>
        if x6 = 0 then
          lX5_lengthThrough_36 a1 n (a2 + 1) s7
        else
          some (a2, s7)
def fX5_lengthThrough (p1 : Int32) (s : mx_G) : Option (Int32 × mx_G) :=
  mv_bind (fJA_fillL_2 0 s) fun _ s1 =>
  mv_bind (fJA_fillL_3 0 s1) fun _ s2 =>
  if ix (p1 / 64) 6 = true then
    if ix (p1 / 64) 6 = true then
      mv_let (gl s2 29 (Int32.toNatClampNeg (p1 / 64)) ((s2.2 29 (Int32.toNatClampNeg (p1 / 64))) ||| (mv_lshl 1 (mv_rem p1 64)))) fun s3 =>
      lX5_lengthThrough_36 p1
       FU 1 s3
    else none
  else none
def lX5_measure_2  : Nat → Int32 → mx_G → Option (Unit × mx_G)
  | 0, _, _ => none
  | n + 1, a2, s0 =>
    mv_bind (fX8_countAll s0) fun x1 s2 =>
    if x1 ≤ a2 then
      some ((), s2)
    else
      mv_bind (fX5_has a2 s2) fun x3 s4 =>
      mv_let (fun (q0_30 : Int32) (s_30 : mx_G) =>
        if q0_30 ≤ 0 then
          lX5_measure_2 n (a2 + 1) s_30
        else
          mv_let (gi s_30 25 1 ((s_30.1 25 1) + 1)) fun s5 =>
          mv_let (fun (q0_65 : Int32) (s_65 : mx_G) =>
            mv_let (gi s_65 25 0 q0_65) fun s6 =>
            if s6.1 25 2 = (-4) then
              mv_bind (fX8_numberOf a2 s6) fun x10 s11 =>
              mv_let (gi s11 25 2 x10) fun s12 =>
              lX5_measure_2 n (a2 + 1) s12
            else
              mv_bind (fX8_numberOf a2 s6) fun x7 s8 =>
              mv_let (gi s8 25 2 (mv_min (s6.1 25 2) x7)) fun s9 =>
              lX5_measure_2 n (a2 + 1) s9
          ) fun J65 =>
          if s5.1 25 0 = 0 then
            J65 q0_30 s5
          else
            J65 (mv_min (s5.1 25 0) q0_30) s5
      ) fun J30 =>
      if x3 = 0 then
        J30 0 s4
      else
        mv_bind (fX5_lengthThrough a2 s4) fun x13 s14 =>
        J30 x13 s14
def fX5_measure (s : mx_G) : Option (Unit × mx_G) :=
  lX5_measure_2 
   FU 0 s
def lX5_thinOut_12 (k68 : Int32 → mx_G → Option (Int32 × mx_G)) : Nat → Int32 → Int32 → mx_G → Option (Int32 × mx_G)
  | 0, _, _, _ => none
  | n + 1, a1, a2, s0 =>
    if 326 ≤ a2 then
      k68 a1 s0
    else
      mv_bind (fX5_has a2 s0) fun x2 s3 =>
      if x2 = 0 then
        lX5_thinOut_12 k68 n a1 (a2 + 1) s3
      else
        mv_bind (fX5_join a2 s3) fun x4 s5 =>
        if x4 = 0 then
          if ix (a2 / 64) 6 = true then
            if ix (a2 / 64) 6 = true then
              mv_let (gl s5 27 (Int32.toNatClampNeg (a2 / 64)) ((s5.2 27 (Int32.toNatClampNeg (a2 / 64))) &&& ((mv_lshl 1 (mv_rem a2 64)) ^^^ (-1)))) fun s6 =>
              lX5_thinOut_12 k68 n 1 (a2 + 1) s6
            else none
          else none
        else
          lX5_thinOut_12 k68 n a1 (a2 + 1) s5
def lX5_thinOut_70  : Nat → Int32 → Int32 → mx_G → Option (Int32 × mx_G)
  | 0, _, _, _ => none
  | n + 1, a1, a2, s0 =>
    if 6 ≤ a2 then
      if a1 &&& 1 = a1 then some (a1, s0) else none
    else
      mv_let (fun (q0_107 : Int32) (s_107 : mx_G) =>
        if ix a2 6 = true then
          if ix a2 6 = true then
            if ix a2 6 = true then
              mv_let (gl s_107 27 (Int32.toNatClampNeg a2) ((s_107.2 27 (Int32.toNatClampNeg a2)) &&& (s_107.2 30 (Int32.toNatClampNeg a2)))) fun s9 =>
              lX5_thinOut_70 n q0_107 (a2 + 1) s9
            else none
          else none
        else none
      ) fun J107 =>
      mv_let (fun (s_102 : mx_G) =>
        J107 1 s_102
      ) fun J102 =>
      if a1 = 0 then
        if ix a2 6 = true then
          if ix a2 6 = true then
            if lg_cmp ((s0.2 27 (Int32.toNatClampNeg a2)) &&& ((s0.2 30 (Int32.toNatClampNeg a2)) ^^^ (-1))) 0 = 0 then
              J107 0 s0
            else
              J102 s0
          else none
        else none
      else
        J102 s0
def fX5_thinOut (s : mx_G) : Option (Int32 × mx_G) :=
  mv_bind (fJA_fillL_4 0 s) fun _ s1 =>
  lX5_thinOut_12 
    (fun y8 s7 =>
      lX5_thinOut_70 
       FU y8 0 s7
    )
    FU 0 0 s1
def lX5_freshen_54 (k97 : mx_G → Option (Unit × mx_G)) : Nat → Int32 → mx_G → Option (Unit × mx_G)
  | 0, _, _ => none
  | n + 1, a3, s0 =>
    mv_bind (fX8_countAll s0) fun x11 s12 =>
    if x11 ≤ a3 then
      k97 s12
    else
      if ix (a3 / 64) 6 = true then
        if ix (a3 / 64) 6 = true then
          mv_let (gl s12 27 (Int32.toNatClampNeg (a3 / 64)) ((s12.2 27 (Int32.toNatClampNeg (a3 / 64))) ||| (mv_lshl 1 (mv_rem a3 64)))) fun s13 =>
          if a3 ≤ 0 then
            lX5_freshen_54 k97 n (a3 + 1) s13
          else
            mv_bind (fX5_noteLeading a3 s13) fun _ s14 =>
            lX5_freshen_54 k97 n (a3 + 1) s14
        else none
      else none
def lX5_freshen_102  : Nat → Int32 → Int32 → mx_G → Option (Unit × mx_G)
  | 0, _, _, _ => none
  | n + 1, a3, a4, s0 =>
    if 326 ≤ a4 then
      mv_bind (fX5_measure s0) fun _ s16 =>
      some ((), s16)
    else
      if a3 = 0 then
        mv_bind (fX5_measure s0) fun _ s17 =>
        some ((), s17)
      else
        mv_bind (fX5_thinOut s0) fun x18 s19 =>
        lX5_freshen_102 n x18 (a4 + 1) s19
def fX5_freshen (s : mx_G) : Option (Unit × mx_G) :=
  mv_bind (fX8_version s) fun x1 s2 =>
  if s.1 25 3 = x1 then
    some ((), s2)
  else
    mv_bind (fX8_version s2) fun x3 s4 =>
    mv_let (gi s4 25 3 x3) fun s5 =>
    mv_let (gi s5 25 0 0) fun s6 =>
    mv_let (gi s6 25 1 0) fun s7 =>
    mv_let (gi s7 25 2 (-4)) fun s8 =>
    mv_bind (fJA_fillL 0 s8) fun _ s9 =>
    mv_bind (fJA_fillL_1 0 s9) fun _ s10 =>
    lX5_freshen_54 
      (fun s15 =>
        lX5_freshen_102 
         FU 1 0 s15
      )
      FU 0 s10
def fX10_ring (p1 : Int32) (s : mx_G) : Option (Int32 × mx_G) :=
  if p1 < 0 then
    some ((-1), s)
  else
    if p1 ≤ 3 then
      mv_bind (fX8_freshen s) fun _ s1 =>
      mv_bind (fX5_freshen s1) fun _ s2 =>
      if p1 = 0 then
        if s2.1 25 0 ≤ 0 then
          some (0, s2)
        else
          some (1, s2)
      else
      if p1 = 1 then
        if s2.1 25 0 ≤ 0 then
          some ((-4), s2)
        else
          some (s2.1 25 0, s2)
      else
      if p1 = 2 then
        some (s2.1 25 1, s2)
      else
      some (s2.1 25 2, s2)
    else
      some ((-1), s)
def lX8_linkInDoubt_6 (a1 : Int32) (a2 : Int32) (a3 : Int32) (k81 : Int32 → mx_G → Option (Int32 × mx_G)) : Nat → Int32 → Int32 → mx_G → Option (Int32 × mx_G)
  | 0, _, _, _ => none
  | n + 1, a4, a5, s0 =>
    if ix a1 6 = true then
      if s0.1 23 (Int32.toNatClampNeg a1) ≤ a5 then
        k81 a4 s0
      else
        mv_bind (fX8_rankedAt a1 a5 s0) fun x1 s2 =>
        if ix x1 326 = true then
          mv_let (s2.1 21 (Int32.toNatClampNeg x1)) fun x3 =>
          mv_let (x3 &&& (a2 ^^^ (-1))) fun x4 =>
          if x3 &&& a3 = 0 then
            mv_let (fun (s_64 : mx_G) =>
              if x4 = 0 then
                some (0, s_64)
              else
                lX8_linkInDoubt_6 a1 a2 a3 k81 n x4 (a5 + 1) s_64
            ) fun J64 =>
            if a4 < 0 then
              J64 s2
            else
              mv_bind (fJI_bitCount x4 s2) fun x5 s6 =>
              mv_bind (fJI_bitCount a4 s6) fun x7 s8 =>
              if x7 ≤ x5 then
                if a4 = 0 then
                  some (0, s8)
                else
                  lX8_linkInDoubt_6 a1 a2 a3 k81 n a4 (a5 + 1) s8
              else
                J64 s8
          else
            if a4 = 0 then
              some (0, s2)
            else
              lX8_linkInDoubt_6 a1 a2 a3 k81 n a4 (a5 + 1) s2
        else none
    else none
def fX8_linkInDoubt (p1 : Int32) (p2 : Int32) (p3 : Int32) (s : mx_G) : Option (Int32 × mx_G) :=
  lX8_linkInDoubt_6 p1 p2 p3
    (fun y10 s9 =>
      if 0 ≤ y10 then
        some (y10 &&& (-y10), s9)
      else
        some ((-1), s9)
    )
    FU (-1) 0 s
def fX2_lasting : Nat → Int32 → Int32 → Int32 → Int32 → Int32 → mx_G → Option (Int64 × mx_G)
  | 0, _, _, _, _, _, _ => none
  | m + 1, p1, p2, p3, p4, p5, s =>
    mv_bind (fX8_linkInDoubt p1 p3 p4 s) fun x1 s2 =>
    if x1 = 0 then
      mv_bind (fX2_power p5 s2) fun x8 s9 =>
      some (x8, s9)
    else
      if x1 < 0 then
        some (0, s2)
      else
        if 0 < p5 then
          mv_let (fun (q0_65 : Int64) (s_65 : mx_G) =>
            if p2 = 0 then
              some (q0_65 + 0, s_65)
            else
              mv_bind (fX2_lasting m p1 p2 p3 (p4 ||| x1) (p5 - 1) s_65) fun x3 s4 =>
              mv_let ((Int32.toInt64 p2) * x3) fun x5 =>
              some (q0_65 + x5, s4)
          ) fun J65 =>
          if p2 = 10 then
            J65 0 s2
          else
            mv_bind (fX2_lasting m p1 p2 (p3 ||| x1) p4 (p5 - 1) s2) fun x6 s7 =>
            J65 ((Int32.toInt64 (10 - p2)) * x6) s7
        else
          some (0, s2)
def lX2_commonDivisor_9  : Nat → Int64 → Int64 → Int32 → mx_G → Option (Int64 × mx_G)
  | 0, _, _, _, _ => none
  | n + 1, a4, a6, a8, s0 =>
    if 200 ≤ a8 then
      some (a4, s0)
    else
      if lg_cmp a6 0 ≤ 0 then
        some (a4, s0)
      else
        if a6 = 0 then none else
        mv_let (mv_lrem a4 a6) fun x1 =>
        lX2_commonDivisor_9 n a6 x1 (a8 + 1) s0
def fX2_commonDivisor (p0 : Int64) (p2 : Int64) (s : mx_G) : Option (Int64 × mx_G) :=
  lX2_commonDivisor_9 
   FU p0 p2 0 s
def fX10_fail (p1 : Int32) (p2 : Int32) (p3 : Int32) (s : mx_G) : Option (Int64 × mx_G) :=
  mv_bind (fX9_isDomain p1 s) fun x1 s2 =>
  if x1 = 0 then
    some ((-1), s2)
  else
    if p2 < 0 then
      some ((-1), s2)
    else
      if 10 < p2 then
        some ((-1), s2)
      else
        if p3 < 0 then
          some ((-1), s2)
        else
          if p3 ≤ 1 then
            mv_bind (fX8_freshen s2) fun _ s3 =>
            mv_bind (fX2_lasting 18 p1 p2 0 0 15 s3) fun x4 s5 =>
            mv_bind (fX2_power 15 s5) fun x6 s7 =>
            mv_bind (fX2_commonDivisor x4 x6 s7) fun x8 s9 =>
            if 0 ≤ lg_cmp x8 1 then
              if p3 = 0 then
                if x8 = 0 then none else
                some (x4 / x8, s9)
              else
                if x8 = 0 then none else
                some (x6 / x8, s9)
            else
              some ((-1), s9)
          else
            some ((-1), s2)
def lX10_seen_27 (a1 : Int32) (a2 : Int32) (k63 : Int32 → mx_G → Option (Int32 × mx_G)) : Nat → Int32 → Int32 → mx_G → Option (Int32 × mx_G)
  | 0, _, _, _ => none
  | n + 1, a3, a4, s0 =>
    if 3 < a4 then
      k63 a3 s0
    else
      mv_bind (fX9_setManner a1 a4 s0) fun _ s5 =>
      mv_bind (fX10_discontent s5) fun x6 s7 =>
      if x6 = 0 then
        mv_let (a3 ||| (mv_shl 1 a4)) fun x8 =>
        lX10_seen_27 a1 a2 k63 n x8 (a4 + 1) s7
      else
        lX10_seen_27 a1 a2 k63 n a3 (a4 + 1) s7
def fX10_seen (p1 : Int32) (s : mx_G) : Option (Int32 × mx_G) :=
  mv_bind (fX9_isDomain p1 s) fun x1 s2 =>
  if x1 = 0 then
    some ((-1), s2)
  else
    mv_bind (fX9_mannerOf p1 s2) fun x3 s4 =>
    lX10_seen_27 p1 x3
      (fun y10 s9 =>
        mv_bind (fX9_setManner p1 x3 s9) fun _ s11 =>
        some (y10, s11)
      )
      FU 0 0 s4
def fX9_draw (s : mx_G) : Option (Int32 × mx_G) :=
  if ix 127 128 = true then
    some (s.1 2 (Int32.toNatClampNeg 127), s)
  else none
def fX9_setDraw (p1 : Int32) (s : mx_G) : Option (Unit × mx_G) :=
  if ix 127 128 = true then
    mv_let (gi s 2 (Int32.toNatClampNeg 127) p1) fun s1 =>
    some ((), s1)
  else none
def fX10_driftPair (p1 : Int32) (p2 : Int32) (p3 : Int32) (p4 : Int32) (s : mx_G) : Option (Unit × mx_G) :=
  if p1 = 0 then
    mv_bind (fX9_setLink p2 p3 (mv_rem p4 4) s) fun _ s1 =>
    some ((), s1)
  else
  if p1 = 1 then
    mv_bind (fX9_sortOf p2 p3 s) fun x2 s3 =>
    if x2 = 0 then
      some ((), s3)
    else
      mv_bind (fX9_turnCut p2 p3 s3) fun _ s4 =>
      some ((), s4)
  else
  if p1 = 2 then
    mv_bind (fX9_setLiking p2 p3 (mv_rem p4 10) s) fun _ s5 =>
    some ((), s5)
  else
  mv_bind (fX9_barsOf p2 s) fun x6 s7 =>
  mv_bind (fX9_setBars p2 (x6 ^^^ (mv_shl 1 p3)) s7) fun _ s8 =>
  some ((), s8)
def fX10_driftOnce (s : mx_G) : Option (Unit × mx_G) :=
  mv_bind (fX9_draw s) fun x1 s2 =>
  mv_let (((x1 * 1103515245) + 12345) &&& 2147483647) fun x3 =>
  mv_bind (fX9_setDraw x3 s2) fun _ s4 =>
  mv_bind (fX9_size s4) fun x5 s6 =>
  mv_let (mv_max 2 x5) fun x7 =>
  mv_let (x3 / 65536) fun x8 =>
  mv_let (x8 / 8) fun x9 =>
  if x7 = 0 then none else
  mv_let (mv_rem x9 x7) fun x10 =>
  if x7 = 0 then none else
  mv_let (mv_rem (x9 / 8) x7) fun x11 =>
  mv_let (x9 / 64) fun x12 =>
  mv_let (mv_rem x8 8) fun x13 =>
  if x13 = 3 then
    mv_bind (fX9_setManner x10 (mv_rem x12 4) s6) fun _ s14 =>
    some ((), s14)
  else
  if x13 = 4 then
    if x10 = x11 then
      some ((), s6)
    else
      mv_bind (fX10_driftPair (mv_rem x8 8) x10 x11 x12 s6) fun _ s15 =>
      some ((), s15)
  else
  if x13 = 5 then
    mv_bind (fX10_turnAll s6) fun x16 s17 =>
    some ((), s17)
  else
  if x13 = 6 then
    mv_bind (fX10_turnAll s6) fun x18 s19 =>
    some ((), s19)
  else
  if x13 = 7 then
    mv_bind (fX10_chooseAnew x10 s6) fun x20 s21 =>
    some ((), s21)
  else
  if x10 = x11 then
    some ((), s6)
  else
    mv_bind (fX10_driftPair (mv_rem x8 8) x10 x11 x12 s6) fun _ s22 =>
    some ((), s22)
def lX10_drift_15 (a1 : Int32) : Nat → Int32 → mx_G → Option (Int32 × mx_G)
  | 0, _, _ => none
  | n + 1, a2, s0 =>
    if a1 ≤ a2 then
      mv_bind (fX9_choosers s0) fun x1 s2 =>
      some (x1, s2)
    else
      mv_bind (fX3_keep s0) fun _ s3 =>
      mv_bind (fX10_driftOnce s3) fun _ s4 =>
      lX10_drift_15 a1 n (a2 + 1) s4
def fX10_drift (p1 : Int32) (s : mx_G) : Option (Int32 × mx_G) :=
  if p1 < 1 then
    some ((-1), s)
  else
    if p1 ≤ 40 then
      lX10_drift_15 p1
       FU 0 s
    else
      some ((-1), s)
def fX3_bringBack (s : mx_G) : Option (Unit × mx_G) :=
  if s.1 3 1 = 0 then
    some ((), s)
  else
    mv_let (gi s 3 1 ((s.1 3 1) - 1)) fun s1 =>
    mv_let (gi s1 3 2 (mv_rem (((s1.1 3 2) + 6) - 1) 6)) fun s2 =>
    if cp ((s2.1 3 2) * 128) 0 128 768 128 = true then
      mv_let (gs s2 2 (va_cpy (s2.1 4) (s2.1 2) (Int32.toNatClampNeg ((s2.1 3 2) * 128)) (Int32.toNatClampNeg 0) (Int32.toNatClampNeg 128))) fun s3 =>
      some ((), s3)
    else none
def fX10_undo (s : mx_G) : Option (Int32 × mx_G) :=
  mv_bind (fX3_known s) fun x1 s2 =>
  if x1 = 0 then
    some ((-4), s2)
  else
    mv_bind (fX3_bringBack s2) fun _ s3 =>
    mv_bind (fX3_known s3) fun x4 s5 =>
    some (x4, s5)
def fX10_seed (p1 : Int32) (s : mx_G) : Option (Int32 × mx_G) :=
  if 0 ≤ p1 then
    mv_bind (fX9_draw s) fun x1 s2 =>
    mv_bind (fX9_setDraw p1 s2) fun _ s3 =>
    some (x1, s3)
  else
    some ((-1), s)
def fX9_become (s : mx_G) : Option (Unit × mx_G) :=
  if cp 0 0 128 128 128 = true then
    mv_let (gs s 6 (va_cpy (s.1 2) (s.1 6) (Int32.toNatClampNeg 0) (Int32.toNatClampNeg 0) (Int32.toNatClampNeg 128))) fun s1 =>
    some ((), s1)
  else none
def fX3_become (s : mx_G) : Option (Unit × mx_G) :=
  if cp 0 0 768 768 768 = true then
    mv_let (gs s 8 (va_cpy (s.1 4) (s.1 8) (Int32.toNatClampNeg 0) (Int32.toNatClampNeg 0) (Int32.toNatClampNeg 768))) fun s1 =>
    mv_let (gi s1 7 1 (s1.1 3 1)) fun s2 =>
    mv_let (gi s2 7 2 (s2.1 3 2)) fun s3 =>
    some ((), s3)
  else none
def fX10_image (s : mx_G) : Option (Int32 × mx_G) :=
  mv_bind (fX9_become s) fun _ s1 =>
  mv_bind (fX3_become s1) fun _ s2 =>
  if 1 = 0 ∨ 1 = 1 then
    mv_let (gi s2 0 4 1) fun s3 =>
    some (1, s3)
  else none
def fX9_become_1 (s : mx_G) : Option (Unit × mx_G) :=
  if cp 0 0 128 128 128 = true then
    mv_let (gs s 2 (va_cpy (s.1 6) (s.1 2) (Int32.toNatClampNeg 0) (Int32.toNatClampNeg 0) (Int32.toNatClampNeg 128))) fun s1 =>
    some ((), s1)
  else none
def fX3_become_1 (s : mx_G) : Option (Unit × mx_G) :=
  if cp 0 0 768 768 768 = true then
    mv_let (gs s 4 (va_cpy (s.1 8) (s.1 4) (Int32.toNatClampNeg 0) (Int32.toNatClampNeg 0) (Int32.toNatClampNeg 768))) fun s1 =>
    mv_let (gi s1 3 1 (s1.1 7 1)) fun s2 =>
    mv_let (gi s2 3 2 (s2.1 7 2)) fun s3 =>
    some ((), s3)
  else none
def fX10_restore (s : mx_G) : Option (Int32 × mx_G) :=
  if s.1 0 4 = 0 then
    some ((-4), s)
  else
    mv_bind (fX9_become_1 s) fun _ s1 =>
    mv_bind (fX3_become_1 s1) fun _ s2 =>
    some (1, s2)
def fX6_isSheet (p0 : Int32) (s : mx_G) : Option (Int32 × mx_G) :=
  if p0 < 0 then
    some (0, s)
  else
    if 4 ≤ p0 then
      some (0, s)
    else
      some (1, s)
def fX6_isLane (p0 : Int32) (s : mx_G) : Option (Int32 × mx_G) :=
  if p0 < 0 then
    some (0, s)
  else
    if 3 < p0 then
      some (0, s)
    else
      some (1, s)
def fX6_isMissing (p1 : Int32) (s : mx_G) : Option (Int32 × mx_G) :=
  if ix p1 4 = true then
    if s.1 41 (Int32.toNatClampNeg p1) = (-1) then
      some (1, s)
    else
      some (0, s)
  else none
def fX6_holds (p1 : Int32) (p2 : Int32) (p3 : Int32) (s : mx_G) : Option (Int32 × mx_G) :=
  if p2 < 0 then
    some (0, s)
  else
    if p3 < 0 then
      some (0, s)
    else
      if ix p1 4 = true then
        if s.1 42 (Int32.toNatClampNeg p1) < p2 then
          some (0, s)
        else
          if ix p1 4 = true then
            if (s.1 42 (Int32.toNatClampNeg p1)) - p2 < p3 then
              some (0, s)
            else
              some (1, s)
          else none
      else none
def fX6_refusal (p1 : Int32) (p2 : Int32) (p3 : Int32) (p4 : Int32) (s : mx_G) : Option (Int32 × mx_G) :=
  mv_bind (fX6_isSheet p1 s) fun x1 s2 =>
  if x1 = 0 then
    some ((-1), s2)
  else
    mv_bind (fX6_isLane p2 s2) fun x3 s4 =>
    if x3 = 0 then
      some ((-1), s4)
    else
      mv_bind (fX6_isMissing p1 s4) fun x5 s6 =>
      if x5 = 0 then
        if ix p1 4 = true then
          if s6.1 41 (Int32.toNatClampNeg p1) = p2 then
            mv_bind (fX6_holds p1 p3 p4 s6) fun x7 s8 =>
            if x7 = 0 then
              some ((-13), s8)
            else
              some (0, s8)
          else
            some ((-12), s6)
        else none
      else
        some ((-11), s6)
def fX6_itemAt (p1 : Int32) (p2 : Int32) (s : mx_G) : Option (Int64 × mx_G) :=
  if ix ((p1 * 24) + p2) 96 = true then
    some (s.2 43 (Int32.toNatClampNeg ((p1 * 24) + p2)), s)
  else none
def lX10_tried_36 (a1 : Int32) (a3 : Int32) (a4 : Int32) (k103 : mx_G → Option (Int32 × mx_G)) : Nat → Int32 → mx_G → Option (Int32 × mx_G)
  | 0, _, _ => none
  | n + 1, a6, s0 =>
    if a4 ≤ a6 then
      k103 s0
    else
      mv_bind (fX6_itemAt a1 ((a3 + a6) - 1) s0) fun x5 s6 =>
      mv_let (fun (s_87 : mx_G) =>
        if ix a6 6 = true then
          mv_let (gi s_87 44 (Int32.toNatClampNeg a6) (Int64.toInt32 x5)) fun s7 =>
          lX10_tried_36 a1 a3 a4 k103 n (a6 + 1) s7
        else none
      ) fun J87 =>
      mv_let (fun (s_75 : mx_G) =>
        if lg_cmp x5 9 = 0 then
          J87 s_75
        else
          some ((-2), s_75)
      ) fun J75 =>
      if lg_cmp x5 0 < 0 then
        J75 s6
      else
        if lg_cmp x5 (Int32.toInt64 a4) < 0 then
          J87 s6
        else
          J75 s6
def fX10_tried (p1 : Int32) (p2 : Int32) (p3 : Int32) (s : mx_G) : Option (Int32 × mx_G) :=
  mv_bind (fX9_size s) fun x1 s2 =>
  mv_bind (fX6_refusal p1 p2 p3 (x1 - 1) s2) fun x3 s4 =>
  if x3 = 0 then
    lX10_tried_36 p1 p3 x1
      (fun s8 =>
        mv_bind (fX0_follow_1 x1 s8) fun _ s9 =>
        mv_bind (fX0_discontents s9) fun x10 s11 =>
        some (x10, s11)
      )
      FU 1 s4
  else
    some (x3, s4)
def fX0_secondOf (p1 : Int32) (s : mx_G) : Option (Int32 × mx_G) :=
  if ix p1 6 = true then
    some (s.1 12 (Int32.toNatClampNeg p1), s)
  else none
def fX6_narrowed (p0 : Int32) (p1 : Int64) (s : mx_G) : Option (Int64 × mx_G) :=
  if p0 = 0 then
    some (Int32.toInt64 (Int8.toInt32 (Int32.toInt8 (Int64.toInt32 p1))), s)
  else
  if p0 = 1 then
    some (Int32.toInt64 (Int16.toInt32 (Int32.toInt16 (Int64.toInt32 p1))), s)
  else
  if p0 = 2 then
    some (Int32.toInt64 (Int64.toInt32 p1), s)
  else
  some (p1, s)
def fX6_setItem (p1 : Int32) (p2 : Int32) (p3 : Int64) (s : mx_G) : Option (Unit × mx_G) :=
  if ix p1 4 = true then
    mv_bind (fX6_narrowed (s.1 41 (Int32.toNatClampNeg p1)) p3 s) fun x1 s2 =>
    if ix ((p1 * 24) + p2) 96 = true then
      mv_let (gl s2 43 (Int32.toNatClampNeg ((p1 * 24) + p2)) x1) fun s3 =>
      some ((), s3)
    else none
  else none
def lX10_film_47 (a1 : Int32) (a3 : Int32) (a4 : Int32) : Nat → Int32 → mx_G → Option (Int32 × mx_G)
  | 0, _, _ => none
  | n + 1, a6, s0 =>
    if a4 ≤ a6 then
      some (a4 - 1, s0)
    else
      mv_bind (fX0_secondOf a6 s0) fun x6 s7 =>
      mv_bind (fX6_setItem a1 ((a3 + a6) - 1) (Int32.toInt64 x6) s7) fun _ s8 =>
      lX10_film_47 a1 a3 a4 n (a6 + 1) s8
def fX10_film (p1 : Int32) (p2 : Int32) (p3 : Int32) (s : mx_G) : Option (Int32 × mx_G) :=
  mv_bind (fX9_size s) fun x1 s2 =>
  mv_bind (fX6_refusal p1 p2 p3 (x1 - 1) s2) fun x3 s4 =>
  if x3 = 0 then
    mv_bind (fX0_load s4) fun _ s5 =>
    lX10_film_47 p1 p3 x1
     FU 1 s5
  else
    some (x3, s4)
def lJA_fillLR_10 (a2 : Int32) (a3 : Int64) : Nat → Int32 → mx_G → Option (Unit × mx_G)
  | 0, _, _ => none
  | n + 1, a5, s0 =>
    if a2 ≤ a5 then
      some ((), s0)
    else
      if ix a5 96 = true then
        mv_let (gl s0 43 (Int32.toNatClampNeg a5) a3) fun s2 =>
        lJA_fillLR_10 a2 a3 n (a5 + 1) s2
      else none
def fJA_fillLR (p1 : Int32) (p2 : Int32) (p3 : Int64) (s : mx_G) : Option (Unit × mx_G) :=
  mv_bind (fJA_rangeCheck 96 p1 p2 s) fun _ s1 =>
  lJA_fillLR_10 p2 p3
   FU p1 s1
def fX6_renew (p1 : Int32) (p2 : Int32) (p3 : Int32) (s : mx_G) : Option (Unit × mx_G) :=
  if ix p1 4 = true then
    mv_let (gi s 41 (Int32.toNatClampNeg p1) p2) fun s1 =>
    if ix p1 4 = true then
      mv_let (gi s1 42 (Int32.toNatClampNeg p1) p3) fun s2 =>
      mv_bind (fJA_fillLR (p1 * 24) ((p1 + 1) * 24) 0 s2) fun _ s3 =>
      some ((), s3)
    else none
  else none
def fX10_sheet (p1 : Int32) (p2 : Int32) (p3 : Int32) (s : mx_G) : Option (Int32 × mx_G) :=
  mv_bind (fX6_isSheet p1 s) fun x1 s2 =>
  if x1 = 0 then
    some ((-1), s2)
  else
    mv_bind (fX6_isLane p2 s2) fun x3 s4 =>
    if x3 = 0 then
      some ((-1), s4)
    else
      if p3 ≤ 24 then
        if 0 ≤ p3 then
          mv_bind (fX6_renew p1 p2 p3 s4) fun _ s5 =>
          some (p3, s5)
        else
          some ((-14), s4)
      else
        some ((-1), s4)
def fX6_lengthOf (p1 : Int32) (s : mx_G) : Option (Int32 × mx_G) :=
  if ix p1 4 = true then
    some (s.1 42 (Int32.toNatClampNeg p1), s)
  else none
def fX6_lose (p1 : Int32) (s : mx_G) : Option (Unit × mx_G) :=
  if ix p1 4 = true then
    mv_let (gi s 41 (Int32.toNatClampNeg p1) (-1)) fun s1 =>
    if ix p1 4 = true then
      mv_let (gi s1 42 (Int32.toNatClampNeg p1) 0) fun s2 =>
      some ((), s2)
    else none
  else none
def fX10_drop (p1 : Int32) (s : mx_G) : Option (Int32 × mx_G) :=
  mv_bind (fX6_isSheet p1 s) fun x1 s2 =>
  if x1 = 0 then
    some ((-1), s2)
  else
    mv_bind (fX6_isMissing p1 s2) fun x3 s4 =>
    if x3 = 0 then
      mv_bind (fX6_lengthOf p1 s4) fun x5 s6 =>
      mv_bind (fX6_lose p1 s6) fun _ s7 =>
      some (x5, s7)
    else
      some ((-11), s4)
def fX10_item (p1 : Int32) (p2 : Int32) (p3 : Int32) (p4 : Int64) (s : mx_G) : Option (Int32 × mx_G) :=
  mv_bind (fX6_refusal p1 p2 p3 1 s) fun x1 s2 =>
  if x1 = 0 then
    mv_bind (fX6_setItem p1 p3 p4 s2) fun _ s3 =>
    some (1, s3)
  else
    some (x1, s2)
def fX6_laneOf (p1 : Int32) (s : mx_G) : Option (Int32 × mx_G) :=
  if ix p1 4 = true then
    some (s.1 41 (Int32.toNatClampNeg p1), s)
  else none
def fX6_move (p1 : Int32) (p2 : Int32) (p3 : Int32) (p4 : Int32) (p5 : Int32) (s : mx_G) : Option (Unit × mx_G) :=
  if cp ((p1 * 24) + p2) ((p3 * 24) + p4) p5 96 96 = true then
    mv_let (gt s 43 (va_cpy (s.2 43) (s.2 43) (Int32.toNatClampNeg ((p1 * 24) + p2)) (Int32.toNatClampNeg ((p3 * 24) + p4)) (Int32.toNatClampNeg p5))) fun s1 =>
    some ((), s1)
  else none
def fX10_copy (p1 : Int32) (p2 : Int32) (p3 : Int32) (p4 : Int32) (p5 : Int32) (s : mx_G) : Option (Int32 × mx_G) :=
  mv_bind (fX6_isSheet p1 s) fun x1 s2 =>
  if x1 = 0 then
    some ((-1), s2)
  else
    mv_bind (fX6_isSheet p3 s2) fun x3 s4 =>
    if x3 = 0 then
      some ((-1), s4)
    else
      mv_bind (fX6_isMissing p1 s4) fun x5 s6 =>
      if x5 = 0 then
        mv_bind (fX6_isMissing p3 s6) fun x7 s8 =>
        if x7 = 0 then
          mv_bind (fX6_laneOf p1 s8) fun x9 s10 =>
          mv_bind (fX6_laneOf p3 s10) fun x11 s12 =>
          if x9 = x11 then
            mv_bind (fX6_holds p1 p2 p5 s12) fun x13 s14 =>
            if x13 = 0 then
              some ((-13), s14)
            else
              mv_bind (fX6_holds p3 p4 p5 s14) fun x15 s16 =>
              if x15 = 0 then
                some ((-13), s16)
              else
                mv_bind (fX6_move p1 p2 p3 p4 p5 s16) fun _ s17 =>
                some (p5, s17)
          else
            some ((-12), s12)
        else
          some ((-11), s8)
      else
        some ((-11), s6)
def fX11_in (p0 : Int64) (p2 : Int64) (p4 : Int64) (s : mx_G) : Option (Int32 × mx_G) :=
  if lg_cmp p0 p2 < 0 then
    some (0, s)
  else
    if 0 < lg_cmp p0 p4 then
      some (0, s)
    else
      some (1, s)
def fX11_isDomain (p1 : Int32) (s : mx_G) : Option (Int32 × mx_G) :=
  if ix 0 128 = true then
    mv_bind (fX11_in (Int32.toInt64 p1) 0 (Int32.toInt64 ((s.1 46 (Int32.toNatClampNeg 0)) - 1)) s) fun x1 s2 =>
    if x1 &&& 1 = x1 then some (x1, s2) else none
  else none
def fX11_areTwo (p1 : Int32) (p2 : Int32) (s : mx_G) : Option (Int32 × mx_G) :=
  mv_bind (fX11_isDomain p1 s) fun x1 s2 =>
  if x1 = 0 then
    some (0, s2)
  else
    mv_bind (fX11_isDomain p2 s2) fun x3 s4 =>
    if x3 = 0 then
      some (0, s4)
    else
      if p1 = p2 then
        some (0, s4)
      else
        some (1, s4)
def fX11_pair (p0 : Int32) (p1 : Int32) (s : mx_G) : Option (Int32 × mx_G) :=
  some ((6 * p0) + p1, s)
def lX11_bring_3 (a1 : Int32) (a3 : Int32) (a4 : Int32) : Nat → Int32 → mx_G → Option (Unit × mx_G)
  | 0, _, _ => none
  | n + 1, a5, s0 =>
    if a4 ≤ a5 then
      some ((), s0)
    else
      if ix (a1 + a5) 128 = true then
        if ix (a3 + a5) 768 = true then
          mv_let (gi s0 47 (Int32.toNatClampNeg (a3 + a5)) (s0.1 46 (Int32.toNatClampNeg (a1 + a5)))) fun s1 =>
          lX11_bring_3 a1 a3 a4 n (a5 + 1) s1
        else none
      else none
def fX11_bring (p1 : Int32) (p3 : Int32) (p4 : Int32) (s : mx_G) : Option (Unit × mx_G) :=
  lX11_bring_3 p1 p3 p4
   FU 0 s
def lX11_bring_1_3 (a1 : Int32) (a3 : Int32) (a4 : Int32) : Nat → Int32 → mx_G → Option (Unit × mx_G)
  | 0, _, _ => none
  | n + 1, a5, s0 =>
    if a4 ≤ a5 then
      some ((), s0)
    else
      if ix (a1 + a5) 768 = true then
        if ix (a3 + a5) 768 = true then
          mv_let (gi s0 47 (Int32.toNatClampNeg (a3 + a5)) (s0.1 47 (Int32.toNatClampNeg (a1 + a5)))) fun s1 =>
          lX11_bring_1_3 a1 a3 a4 n (a5 + 1) s1
        else none
      else none
def fX11_bring_1 (p1 : Int32) (p3 : Int32) (p4 : Int32) (s : mx_G) : Option (Unit × mx_G) :=
  lX11_bring_1_3 p1 p3 p4
   FU 0 s
def fX11_notes (s : mx_G) : Option (Unit × mx_G) :=
  mv_let (fun (s_37 : mx_G) =>
    mv_bind (fX11_bring 0 (128 * (s_37.1 45 2)) 128 s_37) fun _ s1 =>
    mv_let (gi s1 45 2 ((s1.1 45 2) + 1)) fun s2 =>
    some ((), s2)
  ) fun J37 =>
  if s.1 45 2 = 6 then
    mv_bind (fX11_bring_1 128 0 640 s) fun _ s3 =>
    mv_let (gi s3 45 2 ((s3.1 45 2) - 1)) fun s4 =>
    J37 s4
  else
    J37 s
def fX11_links (p1 : Int32) (p2 : Int32) (p3 : Int32) (p4 : Int32) (s : mx_G) : Option (Unit × mx_G) :=
  mv_bind (fX11_pair p1 p2 s) fun x1 s2 =>
  if ix (1 + x1) 128 = true then
    mv_let (gi s2 46 (Int32.toNatClampNeg (1 + x1)) p3) fun s3 =>
    mv_bind (fX11_pair p2 p1 s3) fun x4 s5 =>
    mv_let (fun (q0_35 : Int32) (q1_35 : Int32) (s_35 : mx_G) =>
      if ix q1_35 128 = true then
        mv_let (gi s_35 46 (Int32.toNatClampNeg q1_35) q0_35) fun s6 =>
        mv_bind (fX11_pair p1 p2 s6) fun x7 s8 =>
        if ix (37 + x7) 128 = true then
          mv_let (gi s8 46 (Int32.toNatClampNeg (37 + x7)) p4) fun s9 =>
          mv_bind (fX11_pair p2 p1 s9) fun x10 s11 =>
          if ix (37 + x10) 128 = true then
            mv_let (gi s11 46 (Int32.toNatClampNeg (37 + x10)) p4) fun s12 =>
            some ((), s12)
          else none
        else none
      else none
    ) fun J35 =>
    if p3 = 0 then
      J35 0 (1 + x4) s5
    else
      J35 (4 - p3) (1 + x4) s5
  else none
def fX11_link (p1 : Int32) (p2 : Int32) (p3 : Int32) (s : mx_G) : Option (Int32 × mx_G) :=
  mv_bind (fX11_areTwo p1 p2 s) fun x1 s2 =>
  if x1 = 0 then
    some ((-1), s2)
  else
    mv_bind (fX11_in (Int32.toInt64 p3) 0 3 s2) fun x3 s4 =>
    if x3 = 0 then
      some ((-1), s4)
    else
      mv_bind (fX11_pair p1 p2 s4) fun x5 s6 =>
      if ix (1 + x5) 128 = true then
        mv_let (s6.1 46 (Int32.toNatClampNeg (1 + x5))) fun x7 =>
        mv_let (fun (s_62 : mx_G) =>
          mv_bind (fX11_notes s_62) fun _ s8 =>
          mv_bind (fX11_links p1 p2 p3 0 s8) fun _ s9 =>
          some (x7, s9)
        ) fun J62 =>
        if x7 = p3 then
          mv_bind (fX11_pair p1 p2 s6) fun x10 s11 =>
          if ix (37 + x10) 128 = true then
            if s11.1 46 (Int32.toNatClampNeg (37 + x10)) = 0 then
              some ((-2), s11)
            else
              J62 s11
          else none
        else
          J62 s6
      else none
def fX11_cut (p1 : Int32) (p2 : Int32) (s : mx_G) : Option (Int32 × mx_G) :=
  mv_bind (fX11_areTwo p1 p2 s) fun x1 s2 =>
  if x1 = 0 then
    some ((-1), s2)
  else
    mv_bind (fX11_pair p1 p2 s2) fun x3 s4 =>
    if ix (1 + x3) 128 = true then
      mv_let (s4.1 46 (Int32.toNatClampNeg (1 + x3))) fun x5 =>
      if x5 = 0 then
        some ((-4), s4)
      else
        mv_bind (fX11_notes s4) fun _ s6 =>
        mv_bind (fX11_pair p1 p2 s6) fun x7 s8 =>
        if ix (37 + x7) 128 = true then
          mv_bind (fX11_links p1 p2 x5 (1 - (s8.1 46 (Int32.toNatClampNeg (37 + x7)))) s8) fun _ s9 =>
          mv_bind (fX11_pair p1 p2 s9) fun x10 s11 =>
          if ix (37 + x10) 128 = true then
            some (s11.1 46 (Int32.toNatClampNeg (37 + x10)), s11)
          else none
        else none
    else none
def fX11_becomes (p1 : Int32) (p2 : Int32) (s : mx_G) : Option (Int32 × mx_G) :=
  if ix p1 128 = true then
    mv_let (s.1 46 (Int32.toNatClampNeg p1)) fun x1 =>
    if x1 = p2 then
      some ((-2), s)
    else
      mv_bind (fX11_notes s) fun _ s2 =>
      if ix p1 128 = true then
        mv_let (gi s2 46 (Int32.toNatClampNeg p1) p2) fun s3 =>
        some (x1, s3)
      else none
  else none
def fX11_like (p1 : Int32) (p2 : Int32) (p3 : Int32) (s : mx_G) : Option (Int32 × mx_G) :=
  mv_bind (fX11_areTwo p1 p2 s) fun x1 s2 =>
  if x1 = 0 then
    some ((-1), s2)
  else
    mv_bind (fX11_in (Int32.toInt64 p3) 0 9 s2) fun x3 s4 =>
    if x3 = 0 then
      some ((-1), s4)
    else
      mv_bind (fX11_pair p1 p2 s4) fun x5 s6 =>
      mv_bind (fX11_becomes (73 + x5) p3 s6) fun x7 s8 =>
      some (x7, s8)
def fX11_manner (p1 : Int32) (p2 : Int32) (s : mx_G) : Option (Int32 × mx_G) :=
  mv_bind (fX11_isDomain p1 s) fun x1 s2 =>
  if x1 = 0 then
    some ((-1), s2)
  else
    mv_bind (fX11_in (Int32.toInt64 p2) 0 3 s2) fun x3 s4 =>
    if x3 = 0 then
      some ((-1), s4)
    else
      mv_bind (fX11_becomes (109 + p1) p2 s4) fun x5 s6 =>
      some (x5, s6)
def fX11_has (p0 : Int32) (p1 : Int32) (s : mx_G) : Option (Int32 × mx_G) :=
  if (mv_shr p0 p1) &&& 1 = 1 then
    some (1, s)
  else
    some (0, s)
def fX11_bar (p1 : Int32) (p2 : Int32) (s : mx_G) : Option (Int32 × mx_G) :=
  mv_bind (fX11_isDomain p1 s) fun x1 s2 =>
  mv_let (fun (q0_41 : Int32) (s_41 : mx_G) =>
    if q0_41 = 0 then
      some ((-1), s_41)
    else
      mv_bind (fX11_becomes (115 + p1) p2 s_41) fun x3 s4 =>
      some (x3, s4)
  ) fun J41 =>
  mv_let (fun (s_40 : mx_G) =>
    J41 0 s_40
  ) fun J40 =>
  if x1 = 0 then
    J40 s2
  else
    if ix 0 128 = true then
      mv_bind (fX11_in (Int32.toInt64 p2) 0 (Int32.toInt64 ((mv_shl 1 (s2.1 46 (Int32.toNatClampNeg 0))) - 1)) s2) fun x5 s6 =>
      if x5 = 0 then
        J40 s6
      else
        mv_bind (fX11_has p2 p1 s6) fun x7 s8 =>
        if x7 = 0 then
          J41 1 s8
        else
          J40 s8
    else none
def lX11_domains_53 (a1 : Int32) (a2 : Int32) (a3 : Int32) (k121 : mx_G → Option (Int32 × mx_G)) : Nat → Int32 → mx_G → Option (Int32 × mx_G)
  | 0, _, _ => none
  | n + 1, a4, s0 =>
    if 6 ≤ a4 then
      k121 s0
    else
      mv_let (fun (s_71 : mx_G) =>
        mv_bind (fX11_pair a3 a4 s_71) fun x6 s7 =>
        if ix (1 + x6) 128 = true then
          mv_let (gi s7 46 (Int32.toNatClampNeg (1 + x6)) 0) fun s8 =>
          mv_bind (fX11_pair a3 a4 s8) fun x9 s10 =>
          if ix (37 + x9) 128 = true then
            mv_let (gi s10 46 (Int32.toNatClampNeg (37 + x9)) 0) fun s11 =>
            mv_bind (fX11_pair a3 a4 s11) fun x12 s13 =>
            if ix (73 + x12) 128 = true then
              mv_let (gi s13 46 (Int32.toNatClampNeg (73 + x12)) 0) fun s14 =>
              lX11_domains_53 a1 a2 a3 k121 n (a4 + 1) s14
            else none
          else none
        else none
      ) fun J71 =>
      if a1 ≤ a3 then
        J71 s0
      else
        if a4 < a1 then
          lX11_domains_53 a1 a2 a3 k121 n (a4 + 1) s0
        else
          J71 s0
def lX11_domains_44 (a1 : Int32) (a2 : Int32) : Nat → Int32 → mx_G → Option (Int32 × mx_G)
  | 0, _, _ => none
  | n + 1, a3, s0 =>
    if 6 ≤ a3 then
      some (a2, s0)
    else
      lX11_domains_53 a1 a2 a3
        (fun s15 =>
          mv_let (fun (q0_147 : Int32) (q1_147 : Int32) (s_147 : mx_G) =>
            if ix q1_147 128 = true then
              mv_let (gi s_147 46 (Int32.toNatClampNeg q1_147) q0_147) fun s16 =>
              mv_let (fun (q0_180 : Int32) (q1_180 : Int32) (s_180 : mx_G) =>
                if ix q1_180 128 = true then
                  mv_let (gi s_180 46 (Int32.toNatClampNeg q1_180) q0_180) fun s17 =>
                  if a3 = 0 then
                    if ix (121 + a3) 128 = true then
                      mv_let (gi s17 46 (Int32.toNatClampNeg (121 + a3)) 0) fun s19 =>
                      lX11_domains_44 a1 a2 n (a3 + 1) s19
                    else none
                  else
                    if ix (121 + a3) 128 = true then
                      mv_let (gi s17 46 (Int32.toNatClampNeg (121 + a3)) (-4)) fun s18 =>
                      lX11_domains_44 a1 a2 n (a3 + 1) s18
                    else none
                else none
              ) fun J180 =>
              if a3 < a1 then
                if ix (115 + a3) 128 = true then
                  J180 ((s16.1 46 (Int32.toNatClampNeg (115 + a3))) &&& ((mv_shl 1 a1) - 1)) (115 + a3) s16
                else none
              else
                J180 0 (115 + a3) s16
            else none
          ) fun J147 =>
          if a3 < a1 then
            if ix (109 + a3) 128 = true then
              J147 (s15.1 46 (Int32.toNatClampNeg (109 + a3))) (109 + a3) s15
            else none
          else
            J147 3 (109 + a3) s15
        )
        FU 0 s0
