def fX11_above (p1 : Int32) (p2 : Int32) (p3 : Int32) (s : mx_G) : Option (Int64 × mx_G) :=
  lX11_above_6 p1 p2 p3
    (fun y5 s4 =>
      lX11_above_59 p2 p3 y5
       FU 0 0 s4
    )
    FU 0 0 s
def lX11_fail_72 (a3 : Int32) (a5 : Int64) (a7 : Int64) (k97 : Int64 → mx_G → Option (Int64 × mx_G)) : Nat → Int64 → Int64 → mx_G → Option (Int64 × mx_G)
  | 0, _, _, _ => none
  | n + 1, a9, a11, s0 =>
    if lg_cmp a11 0 = 0 then
      k97 a9 s0
    else
      if a11 = 0 then none else
      mv_let (mv_lrem a9 a11) fun x14 =>
      lX11_fail_72 a3 a5 a7 k97 n a11 x14 s0
def fX11_fail (p1 : Int32) (p2 : Int32) (p3 : Int32) (s : mx_G) : Option (Int64 × mx_G) :=
  mv_bind (fX11_isDomain p1 s) fun x1 s2 =>
  if x1 = 0 then
    some ((-1), s2)
  else
    mv_bind (fX11_in (Int32.toInt64 p2) 0 10 s2) fun x3 s4 =>
    if x3 = 0 then
      some ((-1), s4)
    else
      mv_bind (fX11_in (Int32.toInt64 p3) 0 1 s4) fun x5 s6 =>
      if x5 = 0 then
        some ((-1), s6)
      else
        mv_bind (fX11_laysWays s6) fun _ s7 =>
        mv_bind (fX11_laysLinks s7) fun x8 s9 =>
        mv_bind (fX11_above p1 p2 x8 s9) fun x10 s11 =>
        mv_bind (fX11_power 10 x8 s11) fun x12 s13 =>
        lX11_fail_72 p3 x10 x12
          (fun y16 s15 =>
            if p3 = 0 then
              if y16 = 0 then none else
              some (x10 / y16, s15)
            else
              if y16 = 0 then none else
              some (x12 / y16, s15)
          )
          FU x10 x12 s13
def lX11_seen_29 (a1 : Int32) (a2 : Int32) (k70 : Int32 → mx_G → Option (Int32 × mx_G)) : Nat → Int32 → Int32 → mx_G → Option (Int32 × mx_G)
  | 0, _, _, _ => none
  | n + 1, a3, a4, s0 =>
    if 4 ≤ a4 then
      k70 a3 s0
    else
      if ix (109 + a1) 128 = true then
        mv_let (gi s0 46 (Int32.toNatClampNeg (109 + a1)) a4) fun s5 =>
        mv_bind (fX11_notContent s5) fun x6 s7 =>
        if x6 = 0 then
          mv_let (a3 ||| (mv_shl 1 a4)) fun x9 =>
          lX11_seen_29 a1 a2 k70 n x9 (a4 + 1) s7
        else
          mv_let (a3 ||| 0) fun x8 =>
          lX11_seen_29 a1 a2 k70 n x8 (a4 + 1) s7
      else none
def fX11_seen (p1 : Int32) (s : mx_G) : Option (Int32 × mx_G) :=
  mv_bind (fX11_isDomain p1 s) fun x1 s2 =>
  if x1 = 0 then
    some ((-1), s2)
  else
    if ix (109 + p1) 128 = true then
      mv_let (s2.1 46 (Int32.toNatClampNeg (109 + p1))) fun x3 =>
      mv_bind (fX11_thinks s2) fun _ s4 =>
      lX11_seen_29 p1 x3
        (fun y11 s10 =>
          if ix (109 + p1) 128 = true then
            mv_let (gi s10 46 (Int32.toNatClampNeg (109 + p1)) x3) fun s12 =>
            some (y11, s12)
          else none
        )
        FU 0 0 s4
    else none
def fX11_type (p1 : Int32) (s : mx_G) : Option (Int32 × mx_G) :=
  mv_bind (fX11_in (Int32.toInt64 p1) 32 126 s) fun x1 s2 =>
  if x1 = 0 then
    some ((-1), s2)
  else
    if s2.1 45 7 = 80 then
      some ((-3), s2)
    else
      if ix (s2.1 45 7) 80 = true then
        mv_let (gi s2 50 (Int32.toNatClampNeg (s2.1 45 7)) p1) fun s3 =>
        mv_let (gi s3 45 7 ((s3.1 45 7) + 1)) fun s4 =>
        some (s4.1 45 7, s4)
      else none
def lX11_looks_0 (k38 : mx_G → Option (Int32 × mx_G)) : Nat → mx_G → Option (Int32 × mx_G)
  | 0, _ => none
  | n + 1, s0 =>
    if s0.1 45 7 ≤ s0.1 45 24 then
      k38 s0
    else
      if ix (s0.1 45 24) 80 = true then
        if s0.1 50 (Int32.toNatClampNeg (s0.1 45 24)) = 32 then
          mv_let (gi s0 45 24 ((s0.1 45 24) + 1)) fun s1 =>
          lX11_looks_0 k38 n s1
        else
          k38 s0
      else none
def fX11_looks (s : mx_G) : Option (Int32 × mx_G) :=
  lX11_looks_0 
    (fun s2 =>
      if s2.1 45 7 ≤ s2.1 45 24 then
        some (0, s2)
      else
        if ix (s2.1 45 24) 80 = true then
          some (s2.1 50 (Int32.toNatClampNeg (s2.1 45 24)), s2)
        else none
    )
    FU  s
def fX11_reads (p1 : Int32) (s : mx_G) : Option (Unit × mx_G) :=
  mv_let (fun (q0_17 : Int32) (s_17 : mx_G) =>
    if q0_17 = 0 ∨ q0_17 = 1 then
      mv_let (gi s_17 45 25 q0_17) fun s1 =>
      if s1.1 45 25 = 0 then
        mv_let (gi s1 45 24 ((s1.1 45 24) + 1)) fun s2 =>
        some ((), s2)
      else
        mv_let (gi s1 45 24 ((s1.1 45 24) + 0)) fun s3 =>
        some ((), s3)
    else none
  ) fun J17 =>
  mv_let (fun (s_12 : mx_G) =>
    J17 1 s_12
  ) fun J12 =>
  if s.1 45 25 = 0 then
    if p1 = 0 then
      J12 s
    else
      J17 0 s
  else
    J12 s
def fX11_readsLink (s : mx_G) : Option (Unit × mx_G) :=
  mv_bind (fX11_looks s) fun x1 s2 =>
  mv_let (x1 - 48) fun x3 =>
  mv_bind (fX11_isDomain x3 s2) fun x4 s5 =>
  mv_bind (fX11_reads x4 s5) fun _ s6 =>
  mv_let (fun (q0_32 : Int32) (s_32 : mx_G) =>
    mv_let (fun (q0_64 : Int32) (s_64 : mx_G) =>
      mv_let (fun (q0_75 : Int32) (s_75 : mx_G) =>
        mv_bind (fX11_reads q0_75 s_75) fun _ s7 =>
        mv_let (fun (q0_96 : Int32) (s_96 : mx_G) =>
          mv_let (fun (q0_140 : Int32) (s_140 : mx_G) =>
            mv_bind (fX11_reads q0_140 s_140) fun _ s8 =>
            if s8.1 45 25 = 0 then
              mv_bind (fX11_looks s8) fun x9 s10 =>
              mv_let (fun (q0_165 : Int32) (s_165 : mx_G) =>
                mv_let (gi s_165 45 24 ((s_165.1 45 24) + q0_165)) fun s11 =>
                mv_bind (fX11_pair x3 q0_96 s11) fun x12 s13 =>
                if ix x12 36 = true then
                  mv_let (gi s13 66 (Int32.toNatClampNeg x12) q0_64) fun s14 =>
                  mv_bind (fX11_pair q0_96 x3 s14) fun x15 s16 =>
                  if ix x15 36 = true then
                    mv_let (gi s16 66 (Int32.toNatClampNeg x15) (4 - q0_64)) fun s17 =>
                    mv_bind (fX11_pair x3 q0_96 s17) fun x18 s19 =>
                    if ix x18 36 = true then
                      mv_let (gi s19 67 (Int32.toNatClampNeg x18) q0_165) fun s20 =>
                      mv_bind (fX11_pair q0_96 x3 s20) fun x21 s22 =>
                      if ix x21 36 = true then
                        mv_let (gi s22 67 (Int32.toNatClampNeg x21) q0_165) fun s23 =>
                        some ((), s23)
                      else none
                    else none
                  else none
                else none
              ) fun J165 =>
              if x9 = 33 then
                J165 1 s10
              else
                J165 0 s10
            else
              some ((), s8)
          ) fun J140 =>
          mv_let (fun (s_139 : mx_G) =>
            J140 0 s_139
          ) fun J139 =>
          if s_96.1 45 25 = 0 then
            mv_bind (fX11_isDomain q0_96 s_96) fun x24 s25 =>
            if x24 = 0 then
              J139 s25
            else
              if q0_96 = x3 then
                J139 s25
              else
                mv_bind (fX11_pair x3 q0_96 s25) fun x26 s27 =>
                if ix x26 36 = true then
                  if s27.1 66 (Int32.toNatClampNeg x26) = 0 then
                    J140 1 s27
                  else
                    J139 s27
                else none
          else
            J139 s_96
        ) fun J96 =>
        if s7.1 45 25 = 0 then
          mv_bind (fX11_looks s7) fun x28 s29 =>
          J96 (x28 - 48) s29
        else
          J96 0 s7
      ) fun J75 =>
      if q0_64 ≤ 0 then
        J75 0 s_64
      else
        J75 1 s_64
    ) fun J64 =>
    if q0_32 = 62 then
      J64 1 s_32
    else
      if q0_32 = 45 then
        J64 2 s_32
      else
        if q0_32 = 60 then
          J64 3 s_32
        else
          J64 0 s_32
  ) fun J32 =>
  if s6.1 45 25 = 0 then
    mv_bind (fX11_looks s6) fun x30 s31 =>
    J32 x30 s31
  else
    J32 0 s6
def lX11_readsAll_12 (k38 : mx_G → Option (Unit × mx_G)) : Nat → Int32 → mx_G → Option (Unit × mx_G)
  | 0, _, _ => none
  | n + 1, a1, s0 =>
    if 36 ≤ a1 then
      k38 s0
    else
      if ix a1 36 = true then
        mv_let (gi s0 66 (Int32.toNatClampNeg a1) 0) fun s3 =>
        if ix a1 36 = true then
          mv_let (gi s3 67 (Int32.toNatClampNeg a1) 0) fun s4 =>
          lX11_readsAll_12 k38 n (a1 + 1) s4
        else none
      else none
def lX11_readsAll_51 (k109 : mx_G → Option (Unit × mx_G)) : Nat → Int32 → mx_G → Option (Unit × mx_G)
  | 0, _, _ => none
  | n + 1, a1, s0 =>
    if a1 = 0 then
      k109 s0
    else
      if s0.1 45 25 = 0 then
        mv_bind (fX11_readsLink s0) fun _ s8 =>
        mv_let (fun (q0_87 : Int32) (s_87 : mx_G) =>
          if q0_87 = 0 then
            mv_let (gi s_87 45 24 ((s_87.1 45 24) + 0)) fun s9 =>
            lX11_readsAll_51 k109 n q0_87 s9
          else
            mv_let (gi s_87 45 24 ((s_87.1 45 24) + 1)) fun s10 =>
            lX11_readsAll_51 k109 n q0_87 s10
        ) fun J87 =>
        mv_let (fun (s_86 : mx_G) =>
          J87 0 s_86
        ) fun J86 =>
        if s8.1 45 25 = 0 then
          mv_bind (fX11_looks s8) fun x11 s12 =>
          if x11 = 44 then
            J87 1 s12
          else
            J86 s12
        else
          J86 s8
      else
        k109 s0
def fX11_readsAll (s : mx_G) : Option (Unit × mx_G) :=
  mv_let (gi s 45 24 0) fun s1 =>
  if 0 = 0 ∨ 0 = 1 then
    mv_let (gi s1 45 25 0) fun s2 =>
    lX11_readsAll_12 
      (fun s5 =>
        mv_bind (fX11_looks s5) fun x6 s7 =>
        mv_let (fun (q0_50 : Int32) (s_50 : mx_G) =>
          lX11_readsAll_51 
            (fun s13 =>
              if s13.1 45 25 = 0 then
                mv_bind (fX11_looks s13) fun x15 s16 =>
                if x15 = 0 then
                  if 0 = 0 ∨ 0 = 1 then
                    mv_let (gi s16 45 25 0) fun s17 =>
                    some ((), s17)
                  else none
                else
                  if 1 = 0 ∨ 1 = 1 then
                    mv_let (gi s16 45 25 1) fun s18 =>
                    some ((), s18)
                  else none
              else
                if 1 = 0 ∨ 1 = 1 then
                  mv_let (gi s13 45 25 1) fun s14 =>
                  some ((), s14)
                else none
            )
            FU q0_50 s_50
        ) fun J50 =>
        if x6 = 0 then
          J50 0 s7
        else
          J50 1 s7
      )
      FU 0 s2
  else none
def lX11_bring_5_3 (a1 : Int32) (a3 : Int32) (a4 : Int32) : Nat → Int32 → mx_G → Option (Unit × mx_G)
  | 0, _, _ => none
  | n + 1, a5, s0 =>
    if a4 ≤ a5 then
      some ((), s0)
    else
      if ix (a1 + a5) 36 = true then
        if ix (a3 + a5) 128 = true then
          mv_let (gi s0 46 (Int32.toNatClampNeg (a3 + a5)) (s0.1 66 (Int32.toNatClampNeg (a1 + a5)))) fun s1 =>
          lX11_bring_5_3 a1 a3 a4 n (a5 + 1) s1
        else none
      else none
def fX11_bring_5 (p1 : Int32) (p3 : Int32) (p4 : Int32) (s : mx_G) : Option (Unit × mx_G) :=
  lX11_bring_5_3 p1 p3 p4
   FU 0 s
def lX11_bring_6_3 (a1 : Int32) (a3 : Int32) (a4 : Int32) : Nat → Int32 → mx_G → Option (Unit × mx_G)
  | 0, _, _ => none
  | n + 1, a5, s0 =>
    if a4 ≤ a5 then
      some ((), s0)
    else
      if ix (a1 + a5) 36 = true then
        if ix (a3 + a5) 128 = true then
          mv_let (gi s0 46 (Int32.toNatClampNeg (a3 + a5)) (s0.1 67 (Int32.toNatClampNeg (a1 + a5)))) fun s1 =>
          lX11_bring_6_3 a1 a3 a4 n (a5 + 1) s1
        else none
      else none
def fX11_bring_6 (p1 : Int32) (p3 : Int32) (p4 : Int32) (s : mx_G) : Option (Unit × mx_G) :=
  lX11_bring_6_3 p1 p3 p4
   FU 0 s
def fX11_read (s : mx_G) : Option (Int32 × mx_G) :=
  mv_bind (fX11_readsAll s) fun _ s1 =>
  mv_bind (fX11_looks s1) fun x2 s3 =>
  mv_let (s3.1 45 24) fun x4 =>
  mv_let (gi s3 45 7 0) fun s5 =>
  if s5.1 45 25 = 0 then
    mv_bind (fX11_notes s5) fun _ s6 =>
    mv_bind (fX11_bring_5 0 1 36 s6) fun _ s7 =>
    mv_bind (fX11_bring_6 0 37 36 s7) fun _ s8 =>
    mv_bind (fX11_linkMany 1 s8) fun x9 s10 =>
    some (x9, s10)
  else
    some ((-20) - x4, s5)
def fX11_drifts (p1 : Int32) (s : mx_G) : Option (Unit × mx_G) :=
  mv_let (p1 / 8) fun x1 =>
  if ix 0 128 = true then
    if s.1 46 (Int32.toNatClampNeg 0) = 0 then none else
    mv_let (mv_rem x1 (s.1 46 (Int32.toNatClampNeg 0))) fun x2 =>
    if ix 0 128 = true then
      if s.1 46 (Int32.toNatClampNeg 0) = 0 then none else
      mv_let (mv_rem (x1 / 8) (s.1 46 (Int32.toNatClampNeg 0))) fun x3 =>
      mv_let (x1 / 64) fun x4 =>
      mv_let (mv_rem p1 8) fun x5 =>
      mv_bind (fX11_pair x2 x3 s) fun x6 s7 =>
      if x5 ≤ 6 then
        if x5 ≤ 4 then
          if x5 = 3 then
            if ix (109 + x2) 128 = true then
              mv_let (gi s7 46 (Int32.toNatClampNeg (109 + x2)) (mv_rem x4 4)) fun s12 =>
              some ((), s12)
            else none
          else
            mv_let (fun (s_125 : mx_G) =>
              mv_let (fun (s_180 : mx_G) =>
                mv_let (fun (s_210 : mx_G) =>
                  if x2 = x3 then
                    some ((), s_210)
                  else
                    if x5 = 4 then
                      if ix (115 + x2) 128 = true then
                        if ix (115 + x2) 128 = true then
                          mv_let (gi s_210 46 (Int32.toNatClampNeg (115 + x2)) ((s_210.1 46 (Int32.toNatClampNeg (115 + x2))) ^^^ (mv_shl 1 x3))) fun s8 =>
                          some ((), s8)
                        else none
                      else none
                    else
                      some ((), s_210)
                ) fun J210 =>
                if x2 = x3 then
                  J210 s_180
                else
                  if x5 = 2 then
                    if ix (73 + x6) 128 = true then
                      mv_let (gi s_180 46 (Int32.toNatClampNeg (73 + x6)) (mv_rem x4 10)) fun s9 =>
                      some ((), s9)
                    else none
                  else
                    J210 s_180
              ) fun J180 =>
              if x2 = x3 then
                J180 s_125
              else
                if x5 = 1 then
                  if ix (1 + x6) 128 = true then
                    if s_125.1 46 (Int32.toNatClampNeg (1 + x6)) ≤ 0 then
                      J180 s_125
                    else
                      if ix (1 + x6) 128 = true then
                        if ix (37 + x6) 128 = true then
                          mv_bind (fX11_links x2 x3 (s_125.1 46 (Int32.toNatClampNeg (1 + x6))) (1 - (s_125.1 46 (Int32.toNatClampNeg (37 + x6)))) s_125) fun _ s10 =>
                          some ((), s10)
                        else none
                      else none
                  else none
                else
                  J180 s_125
            ) fun J125 =>
            if x2 = x3 then
              J125 s7
            else
              if x5 = 0 then
                mv_bind (fX11_links x2 x3 (mv_rem x4 4) 0 s7) fun _ s11 =>
                some ((), s11)
              else
                J125 s7
        else
          mv_bind (fX11_turnsOnce s7) fun x13 s14 =>
          some ((), s14)
      else
        mv_bind (fX11_choosesAnew x2 s7) fun x15 s16 =>
        some ((), s16)
    else none
  else none
def lX11_drift_16 (a1 : Int32) : Nat → Int32 → mx_G → Option (Int32 × mx_G)
  | 0, _, _ => none
  | n + 1, a2, s0 =>
    if a1 ≤ a2 then
      mv_bind (fX11_chosenSet s0) fun x3 s4 =>
      some (x3, s4)
    else
      mv_bind (fX11_notes s0) fun _ s5 =>
      if ix 127 128 = true then
        mv_let (((Int32.toInt64 (s5.1 46 (Int32.toNatClampNeg 127))) * 1103515245) + 12345) fun x6 =>
        if ix 127 128 = true then
          mv_let (gi s5 46 (Int32.toNatClampNeg 127) (Int64.toInt32 (mv_lrem x6 2147483648))) fun s7 =>
          if ix 127 128 = true then
            mv_bind (fX11_drifts ((s7.1 46 (Int32.toNatClampNeg 127)) / 65536) s7) fun _ s8 =>
            lX11_drift_16 a1 n (a2 + 1) s8
          else none
        else none
      else none
def fX11_drift (p1 : Int32) (s : mx_G) : Option (Int32 × mx_G) :=
  mv_bind (fX11_in (Int32.toInt64 p1) 1 40 s) fun x1 s2 =>
  if x1 = 0 then
    some ((-1), s2)
  else
    lX11_drift_16 p1
     FU 0 s2
def lX11_bring_7_3 (a1 : Int32) (a3 : Int32) (a4 : Int32) : Nat → Int32 → mx_G → Option (Unit × mx_G)
  | 0, _, _ => none
  | n + 1, a5, s0 =>
    if a4 ≤ a5 then
      some ((), s0)
    else
      if ix (a1 + a5) 768 = true then
        if ix (a3 + a5) 128 = true then
          mv_let (gi s0 46 (Int32.toNatClampNeg (a3 + a5)) (s0.1 47 (Int32.toNatClampNeg (a1 + a5)))) fun s1 =>
          lX11_bring_7_3 a1 a3 a4 n (a5 + 1) s1
        else none
      else none
def fX11_bring_7 (p1 : Int32) (p3 : Int32) (p4 : Int32) (s : mx_G) : Option (Unit × mx_G) :=
  lX11_bring_7_3 p1 p3 p4
   FU 0 s
def fX11_undo (s : mx_G) : Option (Int32 × mx_G) :=
  if s.1 45 2 = 0 then
    some ((-4), s)
  else
    mv_let (gi s 45 2 ((s.1 45 2) - 1)) fun s1 =>
    mv_bind (fX11_bring_7 (128 * (s1.1 45 2)) 0 128 s1) fun _ s2 =>
    some (s2.1 45 2, s2)
def fX11_seed (p1 : Int32) (s : mx_G) : Option (Int32 × mx_G) :=
  if 0 ≤ p1 then
    if ix 127 128 = true then
      mv_let (s.1 46 (Int32.toNatClampNeg 127)) fun x1 =>
      if ix 127 128 = true then
        mv_let (gi s 46 (Int32.toNatClampNeg 127) p1) fun s2 =>
        some (x1, s2)
      else none
    else none
  else
    some ((-1), s)
def lX11_bring_8_3 (a1 : Int32) (a3 : Int32) (a4 : Int32) : Nat → Int32 → mx_G → Option (Unit × mx_G)
  | 0, _, _ => none
  | n + 1, a5, s0 =>
    if a4 ≤ a5 then
      some ((), s0)
    else
      if ix (a1 + a5) 128 = true then
        if ix (a3 + a5) 128 = true then
          mv_let (gi s0 48 (Int32.toNatClampNeg (a3 + a5)) (s0.1 46 (Int32.toNatClampNeg (a1 + a5)))) fun s1 =>
          lX11_bring_8_3 a1 a3 a4 n (a5 + 1) s1
        else none
      else none
def fX11_bring_8 (p1 : Int32) (p3 : Int32) (p4 : Int32) (s : mx_G) : Option (Unit × mx_G) :=
  lX11_bring_8_3 p1 p3 p4
   FU 0 s
def lX11_bring_9_3 (a1 : Int32) (a3 : Int32) (a4 : Int32) : Nat → Int32 → mx_G → Option (Unit × mx_G)
  | 0, _, _ => none
  | n + 1, a5, s0 =>
    if a4 ≤ a5 then
      some ((), s0)
    else
      if ix (a1 + a5) 768 = true then
        if ix (a3 + a5) 768 = true then
          mv_let (gi s0 49 (Int32.toNatClampNeg (a3 + a5)) (s0.1 47 (Int32.toNatClampNeg (a1 + a5)))) fun s1 =>
          lX11_bring_9_3 a1 a3 a4 n (a5 + 1) s1
        else none
      else none
def fX11_bring_9 (p1 : Int32) (p3 : Int32) (p4 : Int32) (s : mx_G) : Option (Unit × mx_G) :=
  lX11_bring_9_3 p1 p3 p4
   FU 0 s
def fX11_image (s : mx_G) : Option (Int32 × mx_G) :=
  mv_bind (fX11_bring_8 0 0 128 s) fun _ s1 =>
  mv_bind (fX11_bring_9 0 0 768 s1) fun _ s2 =>
  mv_let (gi s2 45 5 (s2.1 45 2)) fun s3 =>
  some (1, s3)
def lX11_bring_10_3 (a1 : Int32) (a3 : Int32) (a4 : Int32) : Nat → Int32 → mx_G → Option (Unit × mx_G)
  | 0, _, _ => none
  | n + 1, a5, s0 =>
    if a4 ≤ a5 then
      some ((), s0)
    else
      if ix (a1 + a5) 128 = true then
        if ix (a3 + a5) 128 = true then
          mv_let (gi s0 46 (Int32.toNatClampNeg (a3 + a5)) (s0.1 48 (Int32.toNatClampNeg (a1 + a5)))) fun s1 =>
          lX11_bring_10_3 a1 a3 a4 n (a5 + 1) s1
        else none
      else none
def fX11_bring_10 (p1 : Int32) (p3 : Int32) (p4 : Int32) (s : mx_G) : Option (Unit × mx_G) :=
  lX11_bring_10_3 p1 p3 p4
   FU 0 s
def lX11_bring_11_3 (a1 : Int32) (a3 : Int32) (a4 : Int32) : Nat → Int32 → mx_G → Option (Unit × mx_G)
  | 0, _, _ => none
  | n + 1, a5, s0 =>
    if a4 ≤ a5 then
      some ((), s0)
    else
      if ix (a1 + a5) 768 = true then
        if ix (a3 + a5) 768 = true then
          mv_let (gi s0 47 (Int32.toNatClampNeg (a3 + a5)) (s0.1 49 (Int32.toNatClampNeg (a1 + a5)))) fun s1 =>
          lX11_bring_11_3 a1 a3 a4 n (a5 + 1) s1
        else none
      else none
def fX11_bring_11 (p1 : Int32) (p3 : Int32) (p4 : Int32) (s : mx_G) : Option (Unit × mx_G) :=
  lX11_bring_11_3 p1 p3 p4
   FU 0 s
def fX11_restore (s : mx_G) : Option (Int32 × mx_G) :=
  if 0 ≤ s.1 45 5 then
    mv_bind (fX11_bring_10 0 0 128 s) fun _ s1 =>
    mv_bind (fX11_bring_11 0 0 768 s1) fun _ s2 =>
    mv_let (gi s2 45 2 (s2.1 45 5)) fun s3 =>
    some (1, s3)
  else
    some ((-4), s)
def fX11_isSheet (p0 : Int32) (p1 : Int32) (s : mx_G) : Option (Int32 × mx_G) :=
  mv_bind (fX11_in (Int32.toInt64 p0) 0 3 s) fun x1 s2 =>
  if x1 = 0 then
    some (0, s2)
  else
    mv_bind (fX11_in (Int32.toInt64 p1) 0 3 s2) fun x3 s4 =>
    if x3 = 0 then
      some (0, s4)
    else
      some (1, s4)
def fX11_found (p1 : Int32) (p2 : Int32) (p3 : Int32) (p4 : Int32) (s : mx_G) : Option (Int32 × mx_G) :=
  if ix p1 4 = true then
    if 0 ≤ s.1 51 (Int32.toNatClampNeg p1) then
      if ix p1 4 = true then
        if s.1 51 (Int32.toNatClampNeg p1) = p2 then
          if p3 < 0 then
            some ((-13), s)
          else
            if ix p1 4 = true then
              if p3 ≤ (s.1 52 (Int32.toNatClampNeg p1)) - p4 then
                some (0, s)
              else
                some ((-13), s)
            else none
        else
          some ((-12), s)
      else none
    else
      some ((-11), s)
  else none
def lX11_tried_38 (a1 : Int32) (a3 : Int32) : Nat → Int32 → mx_G → Option (Int32 × mx_G)
  | 0, _, _ => none
  | n + 1, a5, s0 =>
    if ix 0 128 = true then
      if s0.1 46 (Int32.toNatClampNeg 0) ≤ a5 then
        mv_bind (fX11_thinksOfNexts s0) fun x5 s6 =>
        mv_bind (fX11_notContent s6) fun x7 s8 =>
        some (x7, s8)
      else
        if ix ((((24 * a1) + a3) + a5) - 1) 96 = true then
          mv_let (s0.2 53 (Int32.toNatClampNeg ((((24 * a1) + a3) + a5) - 1))) fun x9 =>
          if ix 0 128 = true then
            mv_bind (fX11_in x9 0 (Int32.toInt64 ((s0.1 46 (Int32.toNatClampNeg 0)) - 1)) s0) fun x10 s11 =>
            mv_let (fun (s_97 : mx_G) =>
              if ix a5 6 = true then
                mv_let (gi s_97 59 (Int32.toNatClampNeg a5) (Int64.toInt32 x9)) fun s12 =>
                lX11_tried_38 a1 a3 n (a5 + 1) s12
              else none
            ) fun J97 =>
            if x10 = 0 then
              if lg_cmp x9 9 = 0 then
                J97 s11
              else
                some ((-2), s11)
            else
              J97 s11
          else none
        else none
    else none
def fX11_tried (p1 : Int32) (p2 : Int32) (p3 : Int32) (s : mx_G) : Option (Int32 × mx_G) :=
  mv_bind (fX11_isSheet p1 p2 s) fun x1 s2 =>
  if x1 = 0 then
    some ((-1), s2)
  else
    if ix 0 128 = true then
      mv_bind (fX11_found p1 p2 p3 ((s2.1 46 (Int32.toNatClampNeg 0)) - 1) s2) fun x3 s4 =>
      if x3 = 0 then
        lX11_tried_38 p1 p3
         FU 1 s4
      else
        some (x3, s4)
    else none
def lX11_film_38 (a1 : Int32) (a3 : Int32) (k102 : mx_G → Option (Int32 × mx_G)) : Nat → Int32 → mx_G → Option (Int32 × mx_G)
  | 0, _, _ => none
  | n + 1, a5, s0 =>
    if ix 0 128 = true then
      if s0.1 46 (Int32.toNatClampNeg 0) ≤ a5 then
        k102 s0
      else
        if ix (121 + a5) 128 = true then
          mv_let (s0.1 46 (Int32.toNatClampNeg (121 + a5))) fun x5 =>
          if x5 = (-4) then
            if ix ((((24 * a1) + a3) + a5) - 1) 96 = true then
              mv_let (gl s0 53 (Int32.toNatClampNeg ((((24 * a1) + a3) + a5) - 1)) 9) fun s9 =>
              lX11_film_38 a1 a3 k102 n (a5 + 1) s9
            else none
          else
            mv_bind (fX11_second x5 s0) fun x6 s7 =>
            if ix ((((24 * a1) + a3) + a5) - 1) 96 = true then
              mv_let (gl s7 53 (Int32.toNatClampNeg ((((24 * a1) + a3) + a5) - 1)) (Int32.toInt64 x6)) fun s8 =>
              lX11_film_38 a1 a3 k102 n (a5 + 1) s8
            else none
        else none
    else none
def fX11_film (p1 : Int32) (p2 : Int32) (p3 : Int32) (s : mx_G) : Option (Int32 × mx_G) :=
  mv_bind (fX11_isSheet p1 p2 s) fun x1 s2 =>
  if x1 = 0 then
    some ((-1), s2)
  else
    if ix 0 128 = true then
      mv_bind (fX11_found p1 p2 p3 ((s2.1 46 (Int32.toNatClampNeg 0)) - 1) s2) fun x3 s4 =>
      if x3 = 0 then
        lX11_film_38 p1 p3
          (fun s10 =>
            if ix 0 128 = true then
              some ((s10.1 46 (Int32.toNatClampNeg 0)) - 1, s10)
            else none
          )
          FU 1 s4
      else
        some (x3, s4)
    else none
def lX11_sheet_40 (a1 : Int32) (a3 : Int32) : Nat → Int32 → mx_G → Option (Int32 × mx_G)
  | 0, _, _ => none
  | n + 1, a4, s0 =>
    if a3 ≤ a4 then
      some (a3, s0)
    else
      if ix ((24 * a1) + a4) 96 = true then
        mv_let (gl s0 53 (Int32.toNatClampNeg ((24 * a1) + a4)) 0) fun s5 =>
        lX11_sheet_40 a1 a3 n (a4 + 1) s5
      else none
def fX11_sheet (p1 : Int32) (p2 : Int32) (p3 : Int32) (s : mx_G) : Option (Int32 × mx_G) :=
  mv_bind (fX11_isSheet p1 p2 s) fun x1 s2 =>
  if x1 = 0 then
    some ((-1), s2)
  else
    if p3 ≤ 24 then
      if 0 ≤ p3 then
        if ix p1 4 = true then
          mv_let (gi s2 51 (Int32.toNatClampNeg p1) p2) fun s3 =>
          if ix p1 4 = true then
            mv_let (gi s3 52 (Int32.toNatClampNeg p1) p3) fun s4 =>
            lX11_sheet_40 p1 p3
             FU 0 s4
          else none
        else none
      else
        some ((-14), s2)
    else
      some ((-1), s2)
def fX11_drop (p1 : Int32) (s : mx_G) : Option (Int32 × mx_G) :=
  mv_bind (fX11_in (Int32.toInt64 p1) 0 3 s) fun x1 s2 =>
  if x1 = 0 then
    some ((-1), s2)
  else
    if ix p1 4 = true then
      if 0 ≤ s2.1 51 (Int32.toNatClampNeg p1) then
        if ix p1 4 = true then
          mv_let (gi s2 51 (Int32.toNatClampNeg p1) (-4)) fun s3 =>
          if ix p1 4 = true then
            some (s3.1 52 (Int32.toNatClampNeg p1), s3)
          else none
        else none
      else
        some ((-11), s2)
    else none
def fX11_lowest (p0 : Int64) (p2 : Int32) (s : mx_G) : Option (Int64 × mx_G) :=
  if p2 = 0 then
    some (mv_lshr (mv_lshl p0 56) 56, s)
  else
    if p2 = 1 then
      some (mv_lshr (mv_lshl p0 48) 48, s)
    else
      if p2 = 2 then
        some (mv_lshr (mv_lshl p0 32) 32, s)
      else
        some (p0, s)
def fX11_item (p1 : Int32) (p2 : Int32) (p3 : Int32) (p4 : Int64) (s : mx_G) : Option (Int32 × mx_G) :=
  mv_bind (fX11_isSheet p1 p2 s) fun x1 s2 =>
  if x1 = 0 then
    some ((-1), s2)
  else
    mv_bind (fX11_found p1 p2 p3 1 s2) fun x3 s4 =>
    if x3 = 0 then
      mv_bind (fX11_lowest p4 p2 s4) fun x5 s6 =>
      if ix ((24 * p1) + p3) 96 = true then
        mv_let (gl s6 53 (Int32.toNatClampNeg ((24 * p1) + p3)) x5) fun s7 =>
        some (1, s7)
      else none
    else
      some (x3, s4)
def lX11_copy_132 (a1 : Int32) (a2 : Int32) (a3 : Int32) (a4 : Int32) (a5 : Int32) (a6 : Int32) : Nat → Int32 → mx_G → Option (Int32 × mx_G)
  | 0, _, _ => none
  | n + 1, a7, s0 =>
    if a5 ≤ a7 then
      some (a5, s0)
    else
      mv_let (fun (q0_156 : Int32) (s_156 : mx_G) =>
        if ix (((24 * a1) + a2) + q0_156) 96 = true then
          if ix (((24 * a3) + a4) + q0_156) 96 = true then
            mv_let (gl s_156 53 (Int32.toNatClampNeg (((24 * a3) + a4) + q0_156)) (s_156.2 53 (Int32.toNatClampNeg (((24 * a1) + a2) + q0_156)))) fun s5 =>
            lX11_copy_132 a1 a2 a3 a4 a5 a6 n (a7 + 1) s5
          else none
        else none
      ) fun J156 =>
      if a6 = 0 then
        J156 a7 s0
      else
        J156 ((a5 - 1) - a7) s0
def fX11_copy (p1 : Int32) (p2 : Int32) (p3 : Int32) (p4 : Int32) (p5 : Int32) (s : mx_G) : Option (Int32 × mx_G) :=
  mv_bind (fX11_in (Int32.toInt64 p1) 0 3 s) fun x1 s2 =>
  if x1 = 0 then
    some ((-1), s2)
  else
    mv_bind (fX11_in (Int32.toInt64 p3) 0 3 s2) fun x3 s4 =>
    if x3 = 0 then
      some ((-1), s4)
    else
      if ix p1 4 = true then
        if s4.1 51 (Int32.toNatClampNeg p1) < 0 then
          some ((-11), s4)
        else
          if ix p3 4 = true then
            if 0 ≤ s4.1 51 (Int32.toNatClampNeg p3) then
              if ix p1 4 = true then
                if ix p3 4 = true then
                  if s4.1 51 (Int32.toNatClampNeg p1) = s4.1 51 (Int32.toNatClampNeg p3) then
                    if p5 < 0 then
                      some ((-13), s4)
                    else
                      if 24 < p5 then
                        some ((-13), s4)
                      else
                        if p2 < 0 then
                          some ((-13), s4)
                        else
                          if p4 < 0 then
                            some ((-13), s4)
                          else
                            if ix p1 4 = true then
                              if (s4.1 52 (Int32.toNatClampNeg p1)) - p5 < p2 then
                                some ((-13), s4)
                              else
                                if ix p3 4 = true then
                                  if p4 ≤ (s4.1 52 (Int32.toNatClampNeg p3)) - p5 then
                                    mv_let (fun (q0_127 : Int32) (s_127 : mx_G) =>
                                      lX11_copy_132 p1 p2 p3 p4 p5 q0_127
                                       FU 0 s_127
                                    ) fun J127 =>
                                    if p4 ≤ p2 then
                                      J127 0 s4
                                    else
                                      J127 1 s4
                                  else
                                    some ((-13), s4)
                                else none
                            else none
                  else
                    some ((-12), s4)
                else none
              else none
            else
              some ((-11), s4)
          else none
      else none
