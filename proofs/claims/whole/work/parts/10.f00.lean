def fX2_power (p0 : Int32) (s : mx_G) : Option (Int64 × mx_G) := some (if 0 ≤ p0 ∧ p0 < 16 then Int64.ofNat (10 ^ p0.toNatClampNeg) else 0, s)
def fX9_isDomain (p1 : Int32) (s : mx_G) : Option (Int32 × mx_G) :=
  if p1 < 0 then
    some (0, s)
  else
    if ix 0 128 = true then
      if s.1 2 (Int32.toNatClampNeg 0) ≤ p1 then
        some (0, s)
      else
        some (1, s)
    else none
def fX9_arePair (p1 : Int32) (p2 : Int32) (s : mx_G) : Option (Int32 × mx_G) :=
  mv_bind (fX9_isDomain p1 s) fun x1 s2 =>
  if x1 = 0 then
    some (0, s2)
  else
    mv_bind (fX9_isDomain p2 s2) fun x3 s4 =>
    if x3 = 0 then
      some (0, s4)
    else
      if p1 = p2 then
        some (0, s4)
      else
        some (1, s4)
def fX9_sortOf (p1 : Int32) (p2 : Int32) (s : mx_G) : Option (Int32 × mx_G) :=
  if ix ((13 + (p1 * 6)) + p2) 128 = true then
    some (s.1 2 (Int32.toNatClampNeg ((13 + (p1 * 6)) + p2)), s)
  else none
def fX3_keep (s : mx_G) : Option (Unit × mx_G) :=
  if cp 0 ((s.1 3 2) * 128) 128 128 768 = true then
    mv_let (gs s 4 (va_cpy (s.1 2) (s.1 4) (Int32.toNatClampNeg 0) (Int32.toNatClampNeg ((s.1 3 2) * 128)) (Int32.toNatClampNeg 128))) fun s1 =>
    mv_let (gi s1 3 2 (mv_rem ((s1.1 3 2) + 1) 6)) fun s2 =>
    mv_let (gi s2 3 1 (mv_min ((s2.1 3 1) + 1) 6)) fun s3 =>
    some ((), s3)
  else none
def fX9_setCut (p1 : Int32) (p2 : Int32) (p3 : Int32) (s : mx_G) : Option (Unit × mx_G) :=
  if ix ((49 + (p1 * 6)) + p2) 128 = true then
    mv_let (gi s 2 (Int32.toNatClampNeg ((49 + (p1 * 6)) + p2)) p3) fun s1 =>
    if ix ((49 + (p2 * 6)) + p1) 128 = true then
      mv_let (gi s1 2 (Int32.toNatClampNeg ((49 + (p2 * 6)) + p1)) p3) fun s2 =>
      some ((), s2)
    else none
  else none
def fX9_setLink (p1 : Int32) (p2 : Int32) (p3 : Int32) (s : mx_G) : Option (Unit × mx_G) :=
  if ix ((13 + (p1 * 6)) + p2) 128 = true then
    mv_let (gi s 2 (Int32.toNatClampNeg ((13 + (p1 * 6)) + p2)) p3) fun s1 =>
    mv_let (fun (q0_39 : Int32) (q1_39 : Int32) (s_39 : mx_G) =>
      if ix q1_39 128 = true then
        mv_let (gi s_39 2 (Int32.toNatClampNeg q1_39) q0_39) fun s2 =>
        mv_bind (fX9_setCut p1 p2 0 s2) fun _ s3 =>
        some ((), s3)
      else none
    ) fun J39 =>
    if p3 = 0 then
      J39 0 ((13 + (p2 * 6)) + p1) s1
    else
      J39 (4 - p3) ((13 + (p2 * 6)) + p1) s1
  else none
def fX9_isCut (p1 : Int32) (p2 : Int32) (s : mx_G) : Option (Int32 × mx_G) :=
  if ix ((49 + (p1 * 6)) + p2) 128 = true then
    if s.1 2 (Int32.toNatClampNeg ((49 + (p1 * 6)) + p2)) = 0 then
      some (0, s)
    else
      some (1, s)
  else none
def fX10_link (p1 : Int32) (p2 : Int32) (p3 : Int32) (s : mx_G) : Option (Int32 × mx_G) :=
  mv_bind (fX9_arePair p1 p2 s) fun x1 s2 =>
  if x1 = 0 then
    some ((-1), s2)
  else
    if p3 < 0 then
      some ((-1), s2)
    else
      if p3 ≤ 3 then
        mv_bind (fX9_sortOf p1 p2 s2) fun x3 s4 =>
        mv_let (fun (s_55 : mx_G) =>
          mv_bind (fX3_keep s_55) fun _ s5 =>
          mv_bind (fX9_setLink p1 p2 p3 s5) fun _ s6 =>
          some (x3, s6)
        ) fun J55 =>
        if x3 = p3 then
          mv_bind (fX9_isCut p1 p2 s4) fun x7 s8 =>
          if x7 = 0 then
            some ((-2), s8)
          else
            J55 s8
        else
          J55 s4
      else
        some ((-1), s2)
def fX9_turnCut (p1 : Int32) (p2 : Int32) (s : mx_G) : Option (Unit × mx_G) :=
  mv_bind (fX9_isCut p1 p2 s) fun x1 s2 =>
  if x1 = 0 then
    mv_bind (fX9_setCut p1 p2 1 s2) fun _ s3 =>
    some ((), s3)
  else
    mv_bind (fX9_setCut p1 p2 0 s2) fun _ s4 =>
    some ((), s4)
def fX10_cut (p1 : Int32) (p2 : Int32) (s : mx_G) : Option (Int32 × mx_G) :=
  mv_bind (fX9_arePair p1 p2 s) fun x1 s2 =>
  if x1 = 0 then
    some ((-1), s2)
  else
    mv_bind (fX9_sortOf p1 p2 s2) fun x3 s4 =>
    if x3 = 0 then
      some ((-4), s4)
    else
      mv_bind (fX3_keep s4) fun _ s5 =>
      mv_bind (fX9_turnCut p1 p2 s5) fun _ s6 =>
      mv_bind (fX9_isCut p1 p2 s6) fun x7 s8 =>
      if x7 = 0 then
        some (0, s8)
      else
        some (1, s8)
def fX9_likingOf (p1 : Int32) (p2 : Int32) (s : mx_G) : Option (Int32 × mx_G) :=
  if ix ((85 + (p1 * 6)) + p2) 128 = true then
    some (s.1 2 (Int32.toNatClampNeg ((85 + (p1 * 6)) + p2)), s)
  else none
def fX9_setLiking (p1 : Int32) (p2 : Int32) (p3 : Int32) (s : mx_G) : Option (Unit × mx_G) :=
  if ix ((85 + (p1 * 6)) + p2) 128 = true then
    mv_let (gi s 2 (Int32.toNatClampNeg ((85 + (p1 * 6)) + p2)) p3) fun s1 =>
    some ((), s1)
  else none
def fX10_like (p1 : Int32) (p2 : Int32) (p3 : Int32) (s : mx_G) : Option (Int32 × mx_G) :=
  mv_bind (fX9_arePair p1 p2 s) fun x1 s2 =>
  if x1 = 0 then
    some ((-1), s2)
  else
    if p3 < 0 then
      some ((-1), s2)
    else
      if p3 ≤ 9 then
        mv_bind (fX9_likingOf p1 p2 s2) fun x3 s4 =>
        if x3 = p3 then
          some ((-2), s4)
        else
          mv_bind (fX3_keep s4) fun _ s5 =>
          mv_bind (fX9_setLiking p1 p2 p3 s5) fun _ s6 =>
          some (x3, s6)
      else
        some ((-1), s2)
def fX9_mannerOf (p1 : Int32) (s : mx_G) : Option (Int32 × mx_G) :=
  if ix (1 + p1) 128 = true then
    some (s.1 2 (Int32.toNatClampNeg (1 + p1)), s)
  else none
def fX9_setManner (p1 : Int32) (p2 : Int32) (s : mx_G) : Option (Unit × mx_G) :=
  if ix (1 + p1) 128 = true then
    mv_let (gi s 2 (Int32.toNatClampNeg (1 + p1)) p2) fun s1 =>
    some ((), s1)
  else none
def fX10_manner (p1 : Int32) (p2 : Int32) (s : mx_G) : Option (Int32 × mx_G) :=
  mv_bind (fX9_isDomain p1 s) fun x1 s2 =>
  if x1 = 0 then
    some ((-1), s2)
  else
    if p2 < 0 then
      some ((-1), s2)
    else
      if p2 ≤ 3 then
        mv_bind (fX9_mannerOf p1 s2) fun x3 s4 =>
        if x3 = p2 then
          some ((-2), s4)
        else
          mv_bind (fX3_keep s4) fun _ s5 =>
          mv_bind (fX9_setManner p1 p2 s5) fun _ s6 =>
          some (x3, s6)
      else
        some ((-1), s2)
def fX9_areOthers (p1 : Int32) (p2 : Int32) (s : mx_G) : Option (Int32 × mx_G) :=
  if p2 < 0 then
    some (0, s)
  else
    if ix 0 128 = true then
      if mv_shl 1 (s.1 2 (Int32.toNatClampNeg 0)) ≤ p2 then
        some (0, s)
      else
        if p2 &&& (mv_shl 1 p1) = 0 then
          some (1, s)
        else
          some (0, s)
    else none
def fX9_barsOf (p1 : Int32) (s : mx_G) : Option (Int32 × mx_G) :=
  if ix (7 + p1) 128 = true then
    some (s.1 2 (Int32.toNatClampNeg (7 + p1)), s)
  else none
def fX9_setBars (p1 : Int32) (p2 : Int32) (s : mx_G) : Option (Unit × mx_G) :=
  if ix (7 + p1) 128 = true then
    mv_let (gi s 2 (Int32.toNatClampNeg (7 + p1)) p2) fun s1 =>
    some ((), s1)
  else none
def fX10_bar (p1 : Int32) (p2 : Int32) (s : mx_G) : Option (Int32 × mx_G) :=
  mv_bind (fX9_isDomain p1 s) fun x1 s2 =>
  if x1 = 0 then
    some ((-1), s2)
  else
    mv_bind (fX9_areOthers p1 p2 s2) fun x3 s4 =>
    if x3 = 0 then
      some ((-1), s4)
    else
      mv_bind (fX9_barsOf p1 s4) fun x5 s6 =>
      if x5 = p2 then
        some ((-2), s6)
      else
        mv_bind (fX3_keep s6) fun _ s7 =>
        mv_bind (fX9_setBars p1 p2 s7) fun _ s8 =>
        some (x5, s8)
def fX9_size (s : mx_G) : Option (Int32 × mx_G) :=
  if ix 0 128 = true then
    some (s.1 2 (Int32.toNatClampNeg 0), s)
  else none
def fX9_setChosen (p1 : Int32) (p2 : Int32) (s : mx_G) : Option (Unit × mx_G) :=
  if ix (121 + p1) 128 = true then
    mv_let (gi s 2 (Int32.toNatClampNeg (121 + p1)) p2) fun s1 =>
    some ((), s1)
  else none
def lX9_forgetChosen_2  : Nat → Int32 → mx_G → Option (Unit × mx_G)
  | 0, _, _ => none
  | n + 1, a1, s0 =>
    if 6 ≤ a1 then
      some ((), s0)
    else
      mv_bind (fX9_setChosen a1 (-4) s0) fun _ s1 =>
      lX9_forgetChosen_2 n (a1 + 1) s1
def fX9_forgetChosen (s : mx_G) : Option (Unit × mx_G) :=
  lX9_forgetChosen_2 
   FU 1 s
def lX9_resize_29 (a1 : Int32) (a2 : Int32) (k62 : mx_G → Option (Unit × mx_G)) : Nat → Int32 → mx_G → Option (Unit × mx_G)
  | 0, _, _ => none
  | n + 1, a3, s0 =>
    if 6 ≤ a3 then
      k62 s0
    else
      mv_bind (fX9_setLink a2 a3 0 s0) fun _ s4 =>
      mv_bind (fX9_setLiking a2 a3 0 s4) fun _ s5 =>
      mv_bind (fX9_setLiking a3 a2 0 s5) fun _ s6 =>
      lX9_resize_29 a1 a2 k62 n (a3 + 1) s6
def lX9_resize_9 (a1 : Int32) (k68 : mx_G → Option (Unit × mx_G)) : Nat → Int32 → mx_G → Option (Unit × mx_G)
  | 0, _, _ => none
  | n + 1, a2, s0 =>
    if 6 ≤ a2 then
      k68 s0
    else
      mv_bind (fX9_setManner a2 3 s0) fun _ s2 =>
      mv_bind (fX9_setBars a2 0 s2) fun _ s3 =>
      lX9_resize_29 a1 a2
        (fun s7 =>
          lX9_resize_9 a1 k68 n (a2 + 1) s7
        )
        FU 0 s3
def lX9_resize_70 (a1 : Int32) : Nat → Int32 → mx_G → Option (Unit × mx_G)
  | 0, _, _ => none
  | n + 1, a2, s0 =>
    if a1 ≤ a2 then
      mv_bind (fX9_forgetChosen s0) fun _ s9 =>
      some ((), s9)
    else
      mv_bind (fX9_barsOf a2 s0) fun x10 s11 =>
      mv_bind (fX9_setBars a2 (x10 &&& ((mv_shl 1 a1) - 1)) s11) fun _ s12 =>
      lX9_resize_70 a1 n (a2 + 1) s12
def fX9_resize (p1 : Int32) (s : mx_G) : Option (Unit × mx_G) :=
  if ix 0 128 = true then
    mv_let (gi s 2 (Int32.toNatClampNeg 0) p1) fun s1 =>
    lX9_resize_9 p1
      (fun s8 =>
        lX9_resize_70 p1
         FU 0 s8
      )
      FU p1 s1
  else none
def fX10_domains (p1 : Int32) (s : mx_G) : Option (Int32 × mx_G) :=
  if p1 < 2 then
    some ((-1), s)
  else
    if p1 ≤ 6 then
      mv_bind (fX9_size s) fun x1 s2 =>
      if x1 = p1 then
        some ((-2), s2)
      else
        mv_bind (fX3_keep s2) fun _ s3 =>
        mv_bind (fX9_resize p1 s3) fun _ s4 =>
        some (x1, s4)
    else
      some ((-1), s)
def fX10_told (p1 : Int32) (p2 : Int32) (p3 : Int32) (s : mx_G) : Option (Int32 × mx_G) :=
  mv_bind (fX9_arePair p1 p2 s) fun x1 s2 =>
  if x1 = 0 then
    some ((-1), s2)
  else
    if p3 < 0 then
      some ((-1), s2)
    else
      if p3 ≤ 2 then
        if p3 = 0 then
          mv_bind (fX9_sortOf p1 p2 s2) fun x7 s8 =>
          some (x7, s8)
        else
          if p3 = 1 then
            mv_bind (fX9_isCut p1 p2 s2) fun x5 s6 =>
            if x5 = 0 then
              some (0, s6)
            else
              some (1, s6)
          else
            mv_bind (fX9_likingOf p1 p2 s2) fun x3 s4 =>
            some (x3, s4)
      else
        some ((-1), s2)
def lJA_fillI_5 (a1 : Int32) (a3 : Int32) : Nat → Int32 → mx_G → Option (Unit × mx_G)
  | 0, _, _ => none
  | n + 1, a2, s0 =>
    if a3 ≤ a2 then
      some ((), s0)
    else
      if ix a2 6 = true then
        mv_let (gi s0 23 (Int32.toNatClampNeg a2) a1) fun s1 =>
        lJA_fillI_5 a1 a3 n (a2 + 1) s1
      else none
def fJA_fillI (p1 : Int32) (s : mx_G) : Option (Unit × mx_G) :=
  lJA_fillI_5 p1 6
   FU 0 s
def lX8_insert_12 (a1 : Int32) (a2 : Int32) (k62 : Int32 → mx_G → Option (Unit × mx_G)) : Nat → Int32 → mx_G → Option (Unit × mx_G)
  | 0, _, _ => none
  | n + 1, a3, s0 =>
    if a3 ≤ a1 * 65 then
      k62 a3 s0
    else
      if ix (a3 - 1) 390 = true then
        if ix (s0.1 24 (Int32.toNatClampNeg (a3 - 1))) 326 = true then
          if ix a2 326 = true then
            if s0.1 19 (Int32.toNatClampNeg (s0.1 24 (Int32.toNatClampNeg (a3 - 1)))) ≤ s0.1 19 (Int32.toNatClampNeg a2) then
              k62 a3 s0
            else
              if ix (a3 - 1) 390 = true then
                if ix a3 390 = true then
                  mv_let (gi s0 24 (Int32.toNatClampNeg a3) (s0.1 24 (Int32.toNatClampNeg (a3 - 1)))) fun s2 =>
                  lX8_insert_12 a1 a2 k62 n (a3 + (-1)) s2
                else none
              else none
          else none
        else none
      else none
def fX8_insert (p1 : Int32) (p2 : Int32) (s : mx_G) : Option (Unit × mx_G) :=
  if ix p1 6 = true then
    mv_let ((p1 * 65) + (s.1 23 (Int32.toNatClampNeg p1))) fun x1 =>
    lX8_insert_12 p1 p2
      (fun y4 s3 =>
        if ix y4 390 = true then
          mv_let (gi s3 24 (Int32.toNatClampNeg y4) p2) fun s5 =>
          if ix p1 6 = true then
            if ix p1 6 = true then
              mv_let (gi s5 23 (Int32.toNatClampNeg p1) ((s5.1 23 (Int32.toNatClampNeg p1)) + 1)) fun s6 =>
              some ((), s6)
            else none
          else none
        else none
      )
      FU x1 s
  else none
def fX8_pairOf (p0 : Int32) (p1 : Int32) (s : mx_G) : Option (Int32 × mx_G) :=
  mv_let (mv_max p0 p1) fun x1 =>
  some (((x1 * (x1 - 1)) / 2) + (mv_min p0 p1), s)
def fX8_add (p1 : Int32) (p2 : Int32) (p3 : Int32) (s : mx_G) : Option (Unit × mx_G) :=
  if 326 ≤ s.1 15 2 then
    some ((), s)
  else
    if ix p1 6 = true then
      if s.1 23 (Int32.toNatClampNeg p1) < 65 then
        if ix (s.1 15 2) 326 = true then
          mv_let (gi s 17 (Int32.toNatClampNeg (s.1 15 2)) p1) fun s1 =>
          if ix (s1.1 15 2) 326 = true then
            mv_let (gi s1 18 (Int32.toNatClampNeg (s1.1 15 2)) p2) fun s2 =>
            mv_let (fun (q0_60 : Int32) (q1_60 : Int32) (s_60 : mx_G) =>
              if ix q1_60 326 = true then
                mv_let (gi s_60 19 (Int32.toNatClampNeg q1_60) q0_60) fun s3 =>
                mv_let (fun (q0_86 : Int32) (q1_86 : Int32) (q2_86 : Int32) (s_86 : mx_G) =>
                  if ix q2_86 326 = true then
                    mv_let (gi s_86 20 (Int32.toNatClampNeg q2_86) (q1_86 ||| q0_86)) fun s4 =>
                    mv_let (fun (q0_123 : Int32) (q1_123 : Int32) (s_123 : mx_G) =>
                      if ix q1_123 326 = true then
                        mv_let (gi s_123 21 (Int32.toNatClampNeg q1_123) q0_123) fun s5 =>
                        mv_bind (fX8_insert p1 (s5.1 15 2) s5) fun _ s6 =>
                        mv_let (gi s6 15 2 ((s6.1 15 2) + 1)) fun s7 =>
                        some ((), s7)
                      else none
                    ) fun J123 =>
                    if 0 ≤ p2 then
                      if ix p2 326 = true then
                        if ix p2 326 = true then
                          mv_bind (fX8_pairOf p1 (s4.1 17 (Int32.toNatClampNeg p2)) s4) fun x8 s9 =>
                          J123 ((s4.1 21 (Int32.toNatClampNeg p2)) ||| (mv_shl 1 x8)) (s4.1 15 2) s9
                        else none
                      else none
                    else
                      J123 0 (s4.1 15 2) s4
                  else none
                ) fun J86 =>
                if 0 ≤ p2 then
                  if ix p2 326 = true then
                    J86 (s3.1 20 (Int32.toNatClampNeg p2)) (mv_shl 1 p1) (s3.1 15 2) s3
                  else none
                else
                  J86 0 (mv_shl 1 p1) (s3.1 15 2) s3
              else none
            ) fun J60 =>
            if 0 ≤ p2 then
              J60 p3 (s2.1 15 2) s2
            else
              J60 1000000 (s2.1 15 2) s2
          else none
        else none
      else
        some ((), s)
    else none
def fX8_rankedAt (p1 : Int32) (p2 : Int32) (s : mx_G) : Option (Int32 × mx_G) :=
  if ix ((p1 * 65) + p2) 390 = true then
    some (s.1 24 (Int32.toNatClampNeg ((p1 * 65) + p2)), s)
  else none
def lX8_notePlaces_10 (a1 : Int32) (k38 : mx_G → Option (Unit × mx_G)) : Nat → Int32 → mx_G → Option (Unit × mx_G)
  | 0, _, _ => none
  | n + 1, a2, s0 =>
    if ix a1 6 = true then
      if s0.1 23 (Int32.toNatClampNeg a1) ≤ a2 then
        k38 s0
      else
        mv_bind (fX8_rankedAt a1 a2 s0) fun x1 s2 =>
        if ix x1 326 = true then
          mv_let (gi s2 22 (Int32.toNatClampNeg x1) a2) fun s3 =>
          lX8_notePlaces_10 a1 k38 n (a2 + 1) s3
        else none
    else none
def lX8_notePlaces_2  : Nat → Int32 → mx_G → Option (Unit × mx_G)
  | 0, _, _ => none
  | n + 1, a1, s0 =>
    if 6 ≤ a1 then
      some ((), s0)
    else
      lX8_notePlaces_10 a1
        (fun s4 =>
          lX8_notePlaces_2 n (a1 + 1) s4
        )
        FU 0 s0
def fX8_notePlaces (s : mx_G) : Option (Unit × mx_G) :=
  lX8_notePlaces_2 
   FU 0 s
def fX8_secondOf (p1 : Int32) (s : mx_G) : Option (Int32 × mx_G) :=
  if p1 = 0 then
    some (9, s)
  else
    if ix p1 326 = true then
      if ix (s.1 18 (Int32.toNatClampNeg p1)) 326 = true then
        some (s.1 17 (Int32.toNatClampNeg (s.1 18 (Int32.toNatClampNeg p1))), s)
      else none
    else none
def fX9_lets (p1 : Int32) (p2 : Int32) (p3 : Int32) (s : mx_G) : Option (Int32 × mx_G) :=
  mv_let (13 + (p1 * 6)) fun x1 =>
  if p2 = 9 then
    some (1, s)
  else
    if ix (1 + p1) 128 = true then
      if (s.1 2 (Int32.toNatClampNeg (1 + p1))) &&& 2 = 0 then
        some (1, s)
      else
        if ix (x1 + p3) 128 = true then
          if s.1 2 (Int32.toNatClampNeg (x1 + p3)) = 1 then
            some (1, s)
          else
            if ix (x1 + p2) 128 = true then
              if s.1 2 (Int32.toNatClampNeg (x1 + p2)) = 1 then
                some (1, s)
              else
                some (0, s)
            else none
        else none
    else none
def fX9_takes (p1 : Int32) (p2 : Int32) (p3 : Int32) (p4 : Int32) (s : mx_G) : Option (Int32 × mx_G) :=
  mv_let ((p1 * 6) + p2) fun x1 =>
  if ix (13 + x1) 128 = true then
    if s.1 2 (Int32.toNatClampNeg (13 + x1)) = 0 then
      some (0, s)
    else
      if ix (49 + x1) 128 = true then
        if s.1 2 (Int32.toNatClampNeg (49 + x1)) = 0 then
          if ix (7 + p1) 128 = true then
            if p3 &&& ((mv_shl 1 p1) ||| (s.1 2 (Int32.toNatClampNeg (7 + p1)))) = 0 then
              mv_bind (fX9_lets p2 p4 p1 s) fun x2 s3 =>
              if x2 = 0 then
                some (0, s3)
              else
                some (1, s3)
            else
              some (0, s)
          else none
        else
          some (0, s)
      else none
  else none
def lX8_unitAbove_4 (a0 : Int32) : Nat → Int32 → Int32 → mx_G → Option (Int32 × mx_G)
  | 0, _, _, _ => none
  | n + 1, a1, a2, s0 =>
    if a0 ≤ a2 then
      some (a1, s0)
    else
      mv_let (a1 * 10) fun x1 =>
      lX8_unitAbove_4 a0 n x1 (a2 + 1) s0
def fX8_unitAbove (p0 : Int32) (s : mx_G) : Option (Int32 × mx_G) :=
  lX8_unitAbove_4 p0
   FU 1 0 s
def fX8_numberOf (p1 : Int32) (s : mx_G) : Option (Int32 × mx_G) :=
  if ix p1 326 = true then
    some (mv_rem (s.1 19 (Int32.toNatClampNeg p1)) 1000000, s)
  else none
def fX9_rankOf (p1 : Int32) (p2 : Int32) (p3 : Int32) (p4 : Int32) (s : mx_G) : Option (Int32 × mx_G) :=
  mv_let ((p1 * 6) + p2) fun x1 =>
  if ix (1 + p1) 128 = true then
    mv_let (fun (q0_35 : Int32) (s_35 : mx_G) =>
      if ix (85 + x1) 128 = true then
        some (((((((q0_35 * 10) + 9) - (s_35.1 2 (Int32.toNatClampNeg (85 + x1)))) * 8) + p3) * 1000000) + p4, s_35)
      else none
    ) fun J35 =>
    if (s.1 2 (Int32.toNatClampNeg (1 + p1))) &&& 1 = 0 then
      J35 0 s
    else
      if ix (13 + x1) 128 = true then
        J35 (s.1 2 (Int32.toNatClampNeg (13 + x1))) s
      else none
  else none
def lX8_extend_33 (a2 : Int32) (a3 : Int32) (a4 : Int32) (a5 : Int32) : Nat → Int32 → mx_G → Option (Unit × mx_G)
  | 0, _, _ => none
  | n + 1, a6, s0 =>
    mv_bind (fX9_size s0) fun x5 s6 =>
    if x5 ≤ a6 then
      some ((), s6)
    else
      if ix a2 326 = true then
        mv_bind (fX9_takes a6 a3 (s6.1 20 (Int32.toNatClampNeg a2)) a4 s6) fun x7 s8 =>
        if x7 = 0 then
          lX8_extend_33 a2 a3 a4 a5 n (a6 + 1) s8
        else
          mv_bind (fX8_unitAbove (a5 - 1) s8) fun x9 s10 =>
          mv_bind (fX8_numberOf a2 s10) fun x11 s12 =>
          mv_let ((a6 * x9) + x11) fun x13 =>
          mv_bind (fX9_rankOf a6 a3 a5 x13 s12) fun x14 s15 =>
          mv_bind (fX8_add a6 a2 x14 s15) fun _ s16 =>
          lX8_extend_33 a2 a3 a4 a5 n (a6 + 1) s16
      else none
def fX8_extend (p2 : Int32) (s : mx_G) : Option (Unit × mx_G) :=
  if ix p2 326 = true then
    mv_let (s.1 17 (Int32.toNatClampNeg p2)) fun x1 =>
    mv_bind (fX8_secondOf p2 s) fun x2 s3 =>
    if ix p2 326 = true then
      mv_let (((mv_rem (s3.1 19 (Int32.toNatClampNeg p2)) 8000000) / 1000000) + 1) fun x4 =>
      lX8_extend_33 p2 x1 x2 x4
       FU 1 s3
    else none
  else none
def lX8_isBasis_2  : Nat → Int32 → mx_G → Option (Int32 × mx_G)
  | 0, _, _ => none
  | n + 1, a2, s0 =>
    if 121 ≤ a2 then
      some (1, s0)
    else
      if ix a2 121 = true then
        if ix a2 128 = true then
          if s0.1 16 (Int32.toNatClampNeg a2) = s0.1 2 (Int32.toNatClampNeg a2) then
            lX8_isBasis_2 n (a2 + 1) s0
          else
            some (0, s0)
        else none
      else none
def fX8_isBasis (s : mx_G) : Option (Int32 × mx_G) :=
  lX8_isBasis_2 
   FU 0 s
def lX8_freshen_63  : Nat → Int32 → mx_G → Option (Unit × mx_G)
  | 0, _, _ => none
  | n + 1, a2, s0 =>
    if s0.1 15 2 ≤ a2 then
      mv_bind (fX8_notePlaces s0) fun _ s6 =>
      some ((), s6)
    else
      if 326 ≤ a2 then
        mv_bind (fX8_notePlaces s0) fun _ s7 =>
        some ((), s7)
      else
        mv_bind (fX8_extend a2 s0) fun _ s8 =>
        lX8_freshen_63 n (a2 + 1) s8
def fX8_freshen (s : mx_G) : Option (Unit × mx_G) :=
  mv_let (fun (s_16 : mx_G) =>
    if cp 0 0 121 128 121 = true then
      mv_let (gs s_16 16 (va_cpy (s_16.1 2) (s_16.1 16) (Int32.toNatClampNeg 0) (Int32.toNatClampNeg 0) (Int32.toNatClampNeg 121))) fun s1 =>
      mv_let (gi s1 15 1 ((s1.1 15 1) + 1)) fun s2 =>
      mv_let (gi s2 15 2 0) fun s3 =>
      mv_bind (fJA_fillI 0 s3) fun _ s4 =>
      mv_bind (fX8_add 0 (-1) 0 s4) fun _ s5 =>
      lX8_freshen_63 
       FU 0 s5
    else none
  ) fun J16 =>
  if s.1 15 1 ≤ 0 then
    J16 s
  else
    mv_bind (fX8_isBasis s) fun x9 s10 =>
    if x9 = 0 then
      J16 s10
    else
      some ((), s10)
def fX8_countOf (p1 : Int32) (s : mx_G) : Option (Int32 × mx_G) :=
  if ix p1 6 = true then
    some (s.1 23 (Int32.toNatClampNeg p1), s)
  else none
def fX9_chosenBy (p1 : Int32) (s : mx_G) : Option (Int32 × mx_G) :=
  if ix (121 + p1) 128 = true then
    some (s.1 2 (Int32.toNatClampNeg (121 + p1)), s)
  else none
def fX0_putNone (p1 : Int32) (s : mx_G) : Option (Unit × mx_G) :=
  if ix p1 6 = true then
    mv_let (gi s 10 (Int32.toNatClampNeg p1) (-4)) fun s1 =>
    if ix p1 6 = true then
      mv_let (gi s1 11 (Int32.toNatClampNeg p1) 0) fun s2 =>
      if ix p1 6 = true then
        mv_let (gi s2 12 (Int32.toNatClampNeg p1) 9) fun s3 =>
        if ix p1 6 = true then
          mv_let (gi s3 13 (Int32.toNatClampNeg p1) 0) fun s4 =>
          some ((), s4)
        else none
      else none
    else none
  else none
def lX10_figuresOf_9  : Nat → Int32 → Int32 → Int32 → mx_G → Option (Int32 × mx_G)
  | 0, _, _, _, _ => none
  | n + 1, a1, a2, a3, s0 =>
    if 6 ≤ a3 then
      some (a1, s0)
    else
      if a2 ≤ 0 then
        some (a1, s0)
      else
        mv_let (a2 / 10) fun x2 =>
        lX10_figuresOf_9 n (a1 + 1) x2 (a3 + 1) s0
def fX10_figuresOf (p0 : Int32) (s : mx_G) : Option (Int32 × mx_G) :=
  mv_let (p0 / 10) fun x1 =>
  lX10_figuresOf_9 
   FU 1 x1 1 s
def lX0_put_21 (a1 : Int32) (a2 : Int32) (a3 : Int32) (k75 : mx_G → Option (Unit × mx_G)) : Nat → Int32 → Int32 → mx_G → Option (Unit × mx_G)
  | 0, _, _, _ => none
  | n + 1, a4, a5, s0 =>
    if a3 ≤ a5 then
      k75 s0
    else
      if ix a1 6 = true then
        if ix a1 6 = true then
          mv_let (gi s0 11 (Int32.toNatClampNeg a1) ((s0.1 11 (Int32.toNatClampNeg a1)) ||| (mv_shl 1 (mv_rem a4 10)))) fun s4 =>
          if a5 = a3 - 2 then
            if ix a1 6 = true then
              mv_let (gi s4 12 (Int32.toNatClampNeg a1) (mv_rem a4 10)) fun s6 =>
              mv_let (a4 / 10) fun x7 =>
              lX0_put_21 a1 a2 a3 k75 n x7 (a5 + 1) s6
            else none
          else
            mv_let (a4 / 10) fun x5 =>
            lX0_put_21 a1 a2 a3 k75 n x5 (a5 + 1) s4
        else none
      else none
def fX0_put (p1 : Int32) (p2 : Int32) (s : mx_G) : Option (Unit × mx_G) :=
  mv_bind (fX0_putNone p1 s) fun _ s1 =>
  if 0 ≤ p2 then
    mv_bind (fX10_figuresOf p2 s1) fun x2 s3 =>
    lX0_put_21 p1 p2 x2
      (fun s8 =>
        if ix p1 6 = true then
          mv_let (gi s8 10 (Int32.toNatClampNeg p1) p2) fun s9 =>
          if ix p1 6 = true then
            mv_let (gi s9 13 (Int32.toNatClampNeg p1) x2) fun s10 =>
            some ((), s10)
          else none
        else none
      )
      FU p2 0 s3
  else
    some ((), s1)
def lX0_load_2  : Nat → Int32 → mx_G → Option (Unit × mx_G)
  | 0, _, _ => none
  | n + 1, a2, s0 =>
    if 6 ≤ a2 then
      some ((), s0)
    else
      mv_bind (fX9_chosenBy a2 s0) fun x1 s2 =>
      mv_bind (fX0_put a2 x1 s2) fun _ s3 =>
      lX0_load_2 n (a2 + 1) s3
def fX0_load (s : mx_G) : Option (Unit × mx_G) :=
  lX0_load_2 
   FU 0 s
def lX0_together_5 (a2 : Int32) (k27 : Int32 → mx_G → Option (Int32 × mx_G)) : Nat → Int32 → Int32 → mx_G → Option (Int32 × mx_G)
  | 0, _, _, _ => none
  | n + 1, a3, a4, s0 =>
    if ix a2 6 = true then
      if s0.1 13 (Int32.toNatClampNeg a2) ≤ a4 then
        k27 a3 s0
      else
        mv_let (a3 * 10) fun x1 =>
        lX0_together_5 a2 k27 n x1 (a4 + 1) s0
    else none
def fX0_together (p1 : Int32) (p2 : Int32) (s : mx_G) : Option (Int32 × mx_G) :=
  lX0_together_5 p2
    (fun y3 s2 =>
      if ix p2 6 = true then
        some (y3 + (s2.1 10 (Int32.toNatClampNeg p2)), s2)
      else none
    )
    FU p1 0 s
def lX0_best_12 (a2 : Int32) (k91 : Int32 → mx_G → Option (Int32 × mx_G)) : Nat → Int32 → Int32 → mx_G → Option (Int32 × mx_G)
  | 0, _, _, _ => none
  | n + 1, a3, a4, s0 =>
    mv_bind (fX9_size s0) fun x1 s2 =>
    if x1 ≤ a4 then
      k91 a3 s2
    else
      if ix a4 6 = true then
        if s2.1 10 (Int32.toNatClampNeg a4) = (-4) then
          lX0_best_12 a2 k91 n a3 (a4 + 1) s2
        else
          if ix a4 6 = true then
            if ix a4 6 = true then
              mv_bind (fX9_takes a2 a4 (s2.1 11 (Int32.toNatClampNeg a4)) (s2.1 12 (Int32.toNatClampNeg a4)) s2) fun x3 s4 =>
              if x3 = 0 then
                lX0_best_12 a2 k91 n a3 (a4 + 1) s4
              else
                if ix a4 6 = true then
                  mv_bind (fX0_together a2 a4 s4) fun x5 s6 =>
                  mv_bind (fX9_rankOf a2 a4 ((s4.1 13 (Int32.toNatClampNeg a4)) + 1) x5 s6) fun x7 s8 =>
                  mv_let (mv_min a3 x7) fun x9 =>
                  lX0_best_12 a2 k91 n x9 (a4 + 1) s8
                else none
            else none
          else none
      else none
def fX0_best (p2 : Int32) (s : mx_G) : Option (Int32 × mx_G) :=
  if p2 = 0 then
    some (0, s)
  else
    lX0_best_12 p2
      (fun y11 s10 =>
        if y11 = 2147483647 then
          some ((-4), s10)
        else
          some (mv_rem y11 1000000, s10)
      )
      FU 2147483647 0 s
def fX10_own (p1 : Int32) (p2 : Int32) (s : mx_G) : Option (Int32 × mx_G) :=
  mv_bind (fX9_isDomain p1 s) fun x1 s2 =>
  if x1 = 0 then
    some ((-1), s2)
  else
    if p2 = 0 then
      mv_bind (fX9_mannerOf p1 s2) fun x3 s4 =>
      some (x3, s4)
    else
    if p2 = 1 then
      mv_bind (fX9_barsOf p1 s2) fun x5 s6 =>
      some (x5, s6)
    else
    if p2 = 2 then
      mv_bind (fX8_freshen s2) fun _ s7 =>
      mv_bind (fX8_countOf p1 s7) fun x8 s9 =>
      some (x8, s9)
    else
    if p2 = 3 then
      mv_bind (fX9_chosenBy p1 s2) fun x10 s11 =>
      some (x10, s11)
    else
    if p2 = 4 then
      mv_bind (fX0_load s2) fun _ s12 =>
      mv_bind (fX0_best p1 s12) fun x13 s14 =>
      some (x13, s14)
    else
    some ((-1), s2)
def fX8_numberAt (p1 : Int32) (p2 : Int32) (s : mx_G) : Option (Int32 × mx_G) :=
  if ix p1 6 = true then
    if s.1 23 (Int32.toNatClampNeg p1) ≤ p2 then
      some ((-4), s)
    else
      mv_bind (fX8_rankedAt p1 p2 s) fun x1 s2 =>
      mv_bind (fX8_numberOf x1 s2) fun x3 s4 =>
      some (x3, s4)
  else none
def fX10_way (p1 : Int32) (p2 : Int32) (s : mx_G) : Option (Int32 × mx_G) :=
  mv_bind (fX9_isDomain p1 s) fun x1 s2 =>
  if x1 = 0 then
    some ((-1), s2)
  else
    if 0 ≤ p2 then
      mv_bind (fX8_freshen s2) fun _ s3 =>
      mv_bind (fX8_numberAt p1 p2 s3) fun x4 s5 =>
      some (x4, s5)
    else
      some ((-1), s2)
def fX9_areJoined (p1 : Int32) (p2 : Int32) (s : mx_G) : Option (Int32 × mx_G) :=
  mv_bind (fX9_sortOf p1 p2 s) fun x1 s2 =>
  if x1 = 0 then
    some (0, s2)
  else
    mv_bind (fX9_isCut p1 p2 s2) fun x3 s4 =>
    if x3 = 0 then
      some (1, s4)
    else
      some (0, s4)
def fX10_reasonOf (p1 : Int32) (p2 : Int32) (p3 : Int32) (p4 : Int32) (s : mx_G) : Option (Int32 × mx_G) :=
  mv_bind (fX9_areJoined p1 p2 s) fun x1 s2 =>
  if x1 = 0 then
    some (1, s2)
  else
    if p3 &&& (mv_shl 1 p1) = 0 then
      mv_bind (fX9_barsOf p1 s2) fun x3 s4 =>
      if p3 &&& x3 = 0 then
        mv_bind (fX9_lets p2 p4 p1 s4) fun x5 s6 =>
        if x5 = 0 then
          some (4, s6)
        else
          some (0, s6)
      else
        some (3, s4)
    else
      some (2, s2)
def lX10_reasonAgainst_20 (k50 : Int32 → Int32 → Int32 → mx_G → Option (Int32 × mx_G)) : Nat → Int32 → Int32 → Int32 → Int32 → Int32 → mx_G → Option (Int32 × mx_G)
  | 0, _, _, _, _, _, _ => none
  | n + 1, a3, a4, a5, a6, a7, s0 =>
    if a7 < 0 then
      some (0, s0)
    else
      mv_let (mv_rem a3 10) fun x3 =>
      mv_bind (fX10_reasonOf x3 a5 a4 a6 s0) fun x4 s5 =>
      if x4 = 0 then
        mv_let (a4 ||| (mv_shl 1 x3)) fun x6 =>
        mv_let (a3 / 10) fun x7 =>
        lX10_reasonAgainst_20 k50 n x7 x6 x3 a5 (a7 + (-1)) s5
      else
        k50 a7 x3 x4 s5
def fX10_reasonAgainst (p1 : Int32) (p2 : Int32) (s : mx_G) : Option (Int32 × mx_G) :=
  mv_let (p1 / 10) fun x1 =>
  mv_let (p2 - 2) fun x2 =>
  lX10_reasonAgainst_20 
    (fun y9 y10 y11 s8 =>
      some (((100 * y11) + (10 * y10)) + y9, s8)
    )
    FU x1 1 0 9 x2 s
def lX10_why_29 (a1 : Int32) (a2 : Int32) : Nat → Int32 → Int32 → mx_G → Option (Int32 × mx_G)
  | 0, _, _, _ => none
  | n + 1, a3, a4, s0 =>
    if a2 ≤ a4 then
      mv_bind (fX10_reasonAgainst a1 a2 s0) fun x3 s4 =>
      some (x3, s4)
    else
      mv_bind (fX9_size s0) fun x5 s6 =>
      if mv_rem a3 10 < x5 then
        mv_let (a3 / 10) fun x7 =>
        lX10_why_29 a1 a2 n x7 (a4 + 1) s6
      else
        some ((-1), s6)
def fX10_why (p1 : Int32) (s : mx_G) : Option (Int32 × mx_G) :=
  if p1 < 0 then
    some ((-1), s)
  else
    if 1000000 ≤ p1 then
      some ((-1), s)
    else
      if mv_rem p1 10 = 0 then
        mv_bind (fX10_figuresOf p1 s) fun x1 s2 =>
        lX10_why_29 p1 x1
         FU p1 0 s2
      else
        some ((-1), s)
def lX9_countLinks_15 (a1 : Int32) (a3 : Int32) (k55 : Int32 → mx_G → Option (Int32 × mx_G)) : Nat → Int32 → Int32 → mx_G → Option (Int32 × mx_G)
  | 0, _, _, _ => none
  | n + 1, a2, a4, s0 =>
    if 6 ≤ a4 then
      k55 a2 s0
    else
      mv_bind (fX9_sortOf a3 a4 s0) fun x2 s3 =>
      if x2 = 0 then
        lX9_countLinks_15 a1 a3 k55 n a2 (a4 + 1) s3
      else
        if a1 = 0 then
          lX9_countLinks_15 a1 a3 k55 n (a2 + 1) (a4 + 1) s3
        else
          mv_bind (fX9_isCut a3 a4 s3) fun x4 s5 =>
          if x4 = 0 then
            lX9_countLinks_15 a1 a3 k55 n a2 (a4 + 1) s5
          else
            lX9_countLinks_15 a1 a3 k55 n (a2 + 1) (a4 + 1) s5
def lX9_countLinks_4 (a1 : Int32) : Nat → Int32 → Int32 → mx_G → Option (Int32 × mx_G)
  | 0, _, _, _ => none
  | n + 1, a2, a3, s0 =>
    if 6 ≤ a3 then
      some (a2, s0)
    else
      mv_let (a3 + 1) fun x1 =>
      lX9_countLinks_15 a1 a3
        (fun y7 s6 =>
          lX9_countLinks_4 a1 n y7 (a3 + 1) s6
        )
        FU a2 x1 s0
def fX9_countLinks (p1 : Int32) (s : mx_G) : Option (Int32 × mx_G) :=
  lX9_countLinks_4 p1
   FU 0 0 s
def lX9_choosers_4  : Nat → Int32 → Int32 → mx_G → Option (Int32 × mx_G)
  | 0, _, _, _ => none
  | n + 1, a1, a2, s0 =>
    if ix 0 128 = true then
      if s0.1 2 (Int32.toNatClampNeg 0) ≤ a2 then
        some (a1, s0)
      else
        mv_bind (fX9_chosenBy a2 s0) fun x1 s2 =>
        if x1 = (-4) then
          lX9_choosers_4 n a1 (a2 + 1) s2
        else
          mv_let (a1 ||| (mv_shl 1 a2)) fun x3 =>
          lX9_choosers_4 n x3 (a2 + 1) s2
    else none
def fX9_choosers (s : mx_G) : Option (Int32 × mx_G) :=
  lX9_choosers_4 
   FU 0 0 s
def lX0_discontents_4  : Nat → Int32 → Int32 → mx_G → Option (Int32 × mx_G)
  | 0, _, _, _ => none
  | n + 1, a2, a3, s0 =>
    mv_bind (fX9_size s0) fun x1 s2 =>
    if x1 ≤ a3 then
      some (a2, s2)
    else
      if ix a3 6 = true then
        mv_bind (fX0_best a3 s2) fun x3 s4 =>
        if s2.1 10 (Int32.toNatClampNeg a3) = x3 then
          lX0_discontents_4 n a2 (a3 + 1) s4
        else
          mv_let (a2 ||| (mv_shl 1 a3)) fun x5 =>
          lX0_discontents_4 n x5 (a3 + 1) s4
      else none
def fX0_discontents (s : mx_G) : Option (Int32 × mx_G) :=
  lX0_discontents_4 
   FU 0 1 s
def fX10_discontent (s : mx_G) : Option (Int32 × mx_G) :=
  mv_bind (fX0_load s) fun _ s1 =>
  mv_bind (fX0_discontents s1) fun x2 s3 =>
  some (x2, s3)
def fX8_countAll (s : mx_G) : Option (Int32 × mx_G) :=
  some (s.1 15 2, s)
def fX8_version (s : mx_G) : Option (Int32 × mx_G) :=
  some (s.1 15 1, s)
def lX0_walk_13 (a1 : Int32) (k67 : Int32 → Int32 → Int32 → Int32 → mx_G → Option (Unit × mx_G)) : Nat → Int32 → Int32 → Int32 → Int32 → mx_G → Option (Unit × mx_G)
  | 0, _, _, _, _, _ => none
  | n + 1, a3, a4, a5, a6, s0 =>
    if 6 ≤ a6 then
      k67 a3 a4 a5 a6 s0
    else
      if a5 ≤ 0 then
        k67 a3 a4 a5 a6 s0
      else
        if ix a5 6 = true then
          mv_let (s0.1 33 (Int32.toNatClampNeg a5)) fun x2 =>
          if x2 < 0 then
            some ((), s0)
          else
            if x2 < 6 then
              mv_let ((a3 * 10) + x2) fun x3 =>
              mv_let (a4 ||| (mv_shl 1 x2)) fun x4 =>
              lX0_walk_13 a1 k67 n x3 x4 x2 (a6 + 1) s0
            else
              some ((), s0)
        else none
def fX0_walk (p1 : Int32) (s : mx_G) : Option (Unit × mx_G) :=
  mv_let (mv_shl 1 p1) fun x1 =>
  lX0_walk_13 p1
    (fun y6 y7 y8 y9 s5 =>
      if y8 = 0 then
        if ix p1 6 = true then
          mv_let (gi s5 10 (Int32.toNatClampNeg p1) y6) fun s10 =>
          if ix p1 6 = true then
            mv_let (gi s10 11 (Int32.toNatClampNeg p1) y7) fun s11 =>
            if ix p1 6 = true then
              if ix p1 6 = true then
                mv_let (gi s11 12 (Int32.toNatClampNeg p1) (s11.1 33 (Int32.toNatClampNeg p1))) fun s12 =>
                if ix p1 6 = true then
                  mv_let (gi s12 13 (Int32.toNatClampNeg p1) y9) fun s13 =>
                  some ((), s13)
                else none
              else none
            else none
          else none
        else none
      else
        some ((), s5)
    )
    FU p1 x1 p1 1 s
def lX0_follow_8 (a2 : Int32) : Nat → Int32 → mx_G → Option (Unit × mx_G)
  | 0, _, _ => none
  | n + 1, a3, s0 =>
    if 6 ≤ a3 then
      some ((), s0)
    else
      mv_bind (fX0_putNone a3 s0) fun _ s2 =>
      if a2 ≤ a3 then
        lX0_follow_8 a2 n (a3 + 1) s2
      else
        mv_bind (fX0_walk a3 s2) fun _ s3 =>
        lX0_follow_8 a2 n (a3 + 1) s3
def fX0_follow (p2 : Int32) (s : mx_G) : Option (Unit × mx_G) :=
  mv_bind (fX0_put 0 0 s) fun _ s1 =>
  lX0_follow_8 p2
   FU 1 s1
def fX0_wayOf (p1 : Int32) (s : mx_G) : Option (Int32 × mx_G) :=
  if ix p1 6 = true then
    some (s.1 10 (Int32.toNatClampNeg p1), s)
  else none
def lX4_keepIfStable_17 (k62 : Int32 → mx_G → Option (Unit × mx_G)) : Nat → Int32 → Int32 → mx_G → Option (Unit × mx_G)
  | 0, _, _, _ => none
  | n + 1, a3, a4, s0 =>
    mv_bind (fX9_size s0) fun x4 s5 =>
    if x4 ≤ a4 then
      k62 a3 s5
    else
      mv_bind (fX0_wayOf a4 s5) fun x6 s7 =>
      mv_bind (fX0_best a4 s7) fun x8 s9 =>
      if x6 = x8 then
        if ix a4 6 = true then
          mv_let ((a3 * 10) + (s9.1 33 (Int32.toNatClampNeg a4))) fun x10 =>
          lX4_keepIfStable_17 k62 n x10 (a4 + 1) s9
        else none
      else
        some ((), s9)
def fX4_keepIfStable (s : mx_G) : Option (Unit × mx_G) :=
  mv_bind (fX9_size s) fun x1 s2 =>
  mv_bind (fX0_follow x1 s2) fun _ s3 =>
  lX4_keepIfStable_17 
    (fun y12 s11 =>
      if 2117 ≤ s11.1 31 1 then
        some ((), s11)
      else
        if ix (s11.1 31 1) 2117 = true then
          mv_let (gi s11 32 (Int32.toNatClampNeg (s11.1 31 1)) y12) fun s13 =>
          mv_let (gi s13 31 1 ((s13.1 31 1) + 1)) fun s14 =>
          some ((), s14)
        else none
    )
    FU 0 1 s3
def lX4_mayLead_30 (a1 : Int32) (a2 : Int32) (a4 : Int32) (k59 : Int32 → mx_G → Option (Int32 × mx_G)) : Nat → Int32 → Int32 → mx_G → Option (Int32 × mx_G)
  | 0, _, _, _ => none
  | n + 1, a3, a5, s0 =>
    if 6 ≤ a5 then
      k59 a3 s0
    else
      if a3 ≤ 0 then
        k59 a3 s0
      else
        if a1 < a3 then
          k59 a3 s0
        else
          if ix a3 6 = true then
            mv_let (s0.1 33 (Int32.toNatClampNeg a3)) fun x2 =>
            lX4_mayLead_30 a1 a2 a4 k59 n x2 (a5 + 1) s0
          else none
def lX4_mayLead_2 (a1 : Int32) : Nat → Int32 → mx_G → Option (Int32 × mx_G)
  | 0, _, _ => none
  | n + 1, a2, s0 =>
    if a1 < a2 then
      some (1, s0)
    else
      if ix a2 6 = true then
        mv_let (s0.1 33 (Int32.toNatClampNeg a2)) fun x1 =>
        mv_let (fun (q0_25 : Int32) (s_25 : mx_G) =>
          lX4_mayLead_30 a1 a2 q0_25
            (fun y4 s3 =>
              mv_let (fun (q0_79 : Int32) (s_79 : mx_G) =>
                if q0_25 = 0 then
                  lX4_mayLead_2 a1 n (a2 + 1) s_79
                else
                  if q0_79 = 0 then
                    lX4_mayLead_2 a1 n (a2 + 1) s_79
                  else
                    some (0, s_79)
              ) fun J79 =>
              mv_let (fun (s_74 : mx_G) =>
                J79 1 s_74
              ) fun J74 =>
              if y4 = 9 then
                J74 s3
              else
                if y4 ≤ 0 then
                  J79 0 s3
                else
                  if a1 < y4 then
                    J79 0 s3
                  else
                    J74 s3
            )
            FU x1 0 s_25
        ) fun J25 =>
        if x1 = 9 then
          J25 0 s0
        else
          J25 1 s0
      else none
def fX4_mayLead (p1 : Int32) (s : mx_G) : Option (Int32 × mx_G) :=
  lX4_mayLead_2 p1
   FU 1 s
def lX4_search_24 (rc : Int32 → mx_G → Option (Unit × mx_G)) (a3 : Int32) : Nat → Int32 → mx_G → Option (Unit × mx_G)
  | 0, _, _ => none
  | n + 1, a4, s0 =>
    if 9 < a4 then
      some ((), s0)
    else
      mv_let (fun (s_57 : mx_G) =>
        if ix a3 6 = true then
          mv_let (gi s_57 33 (Int32.toNatClampNeg a3) a4) fun s4 =>
          mv_bind (fX4_mayLead a3 s4) fun x5 s6 =>
          if x5 = 0 then
            lX4_search_24 rc a3 n (a4 + 1) s6
          else
            mv_bind (rc (a3 + 1) s6) fun _ s7 =>
            lX4_search_24 rc a3 n (a4 + 1) s7
        else none
      ) fun J57 =>
      if a4 = 9 then
        J57 s0
      else
        mv_bind (fX9_isDomain a4 s0) fun x8 s9 =>
        if x8 = 0 then
          lX4_search_24 rc a3 n (a4 + 1) s9
        else
          mv_bind (fX9_areJoined a3 a4 s9) fun x10 s11 =>
          if x10 = 0 then
            lX4_search_24 rc a3 n (a4 + 1) s11
          else
            J57 s11
def fX4_search : Nat → Int32 → mx_G → Option (Unit × mx_G)
  | 0, _, _ => none
  | m + 1, p3, s =>
    mv_bind (fX9_size s) fun x1 s2 =>
    if x1 ≤ p3 then
      mv_bind (fX4_keepIfStable s2) fun _ s3 =>
      some ((), s3)
    else
      if p3 < 6 then
        lX4_search_24 (fX4_search m) p3
         FU 0 s2
      else
        mv_bind (fX4_keepIfStable s2) fun _ s12 =>
        some ((), s12)
def fX4_freshen (p3 : Int32) (s : mx_G) : Option (Unit × mx_G) :=
  if s.1 31 0 = p3 then
    some ((), s)
  else
    mv_let (gi s 31 0 p3) fun s1 =>
    mv_let (gi s1 31 1 0) fun s2 =>
    mv_bind (fX4_search 8 1 s2) fun _ s3 =>
    some ((), s3)
def fX4_found (s : mx_G) : Option (Int32 × mx_G) :=
  some (s.1 31 1, s)
def fX10_stableOnes (s : mx_G) : Option (Int32 × mx_G) :=
  mv_bind (fX8_freshen s) fun _ s1 =>
  mv_bind (fX8_version s1) fun x2 s3 =>
  mv_bind (fX4_freshen x2 s3) fun _ s4 =>
  mv_bind (fX4_found s4) fun x5 s6 =>
  some (x5, s6)
def fX3_known (s : mx_G) : Option (Int32 × mx_G) :=
  some (s.1 3 1, s)
def fX10_count (p1 : Int32) (s : mx_G) : Option (Int32 × mx_G) :=
  if p1 = 0 then
    mv_bind (fX9_size s) fun x1 s2 =>
    some (x1, s2)
  else
  if p1 = 1 then
    mv_bind (fX9_countLinks 0 s) fun x3 s4 =>
    some (x3, s4)
  else
  if p1 = 2 then
    mv_bind (fX9_countLinks 1 s) fun x5 s6 =>
    some (x5, s6)
  else
  if p1 = 3 then
    mv_bind (fX9_choosers s) fun x7 s8 =>
    some (x7, s8)
  else
  if p1 = 4 then
    mv_bind (fX10_discontent s) fun x9 s10 =>
    some (x9, s10)
  else
  if p1 = 5 then
    mv_bind (fX8_freshen s) fun _ s11 =>
    mv_bind (fX8_countAll s11) fun x12 s13 =>
    some (x12, s13)
  else
  if p1 = 6 then
    mv_bind (fX10_stableOnes s) fun x14 s15 =>
    some (x14, s15)
  else
  if p1 = 7 then
    mv_bind (fX3_known s) fun x16 s17 =>
    some (x16, s17)
  else
  some ((-1), s)
def fX7_append (p1 : Int32) (s : mx_G) : Option (Int32 × mx_G) :=
  if s.1 36 1 < 80 then
    if ix (s.1 36 1) 80 = true then
      mv_let (gi s 37 (Int32.toNatClampNeg (s.1 36 1)) p1) fun s1 =>
      mv_let (gi s1 36 1 ((s1.1 36 1) + 1)) fun s2 =>
      some (s2.1 36 1, s2)
    else none
  else
    some ((-3), s)
def fX10_type (p1 : Int32) (s : mx_G) : Option (Int32 × mx_G) :=
  if p1 < 32 then
    some ((-1), s)
  else
    if p1 ≤ 126 then
      mv_bind (fX7_append p1 s) fun x1 s2 =>
      some (x1, s2)
    else
      some ((-1), s)
def lJA_fillI_1_5 (a1 : Int32) (a3 : Int32) : Nat → Int32 → mx_G → Option (Unit × mx_G)
  | 0, _, _ => none
  | n + 1, a2, s0 =>
    if a3 ≤ a2 then
      some ((), s0)
    else
      if ix a2 36 = true then
        mv_let (gi s0 38 (Int32.toNatClampNeg a2) a1) fun s1 =>
        lJA_fillI_1_5 a1 a3 n (a2 + 1) s1
      else none
def fJA_fillI_1 (p1 : Int32) (s : mx_G) : Option (Unit × mx_G) :=
  lJA_fillI_1_5 p1 36
   FU 0 s
def fX7_acceptsFirst (p1 : Int32) (p2 : Int32) (s : mx_G) : Option (Int32 × mx_G) :=
  if p1 < 0 then
    some (0, s)
  else
    if p1 < p2 then
      mv_let (gi s 36 3 p1) fun s1 =>
      mv_let (gi s1 36 2 2) fun s2 =>
      some (1, s2)
    else
      some (0, s)
def fX7_acceptsSign (p1 : Int32) (s : mx_G) : Option (Int32 × mx_G) :=
  mv_let (fun (q0_32 : Int32) (s_32 : mx_G) =>
    mv_let (gi s_32 36 5 q0_32) fun s1 =>
    mv_let (gi s1 36 2 3) fun s2 =>
    if s2.1 36 5 = 0 then
      some (0, s2)
    else
      some (1, s2)
  ) fun J32 =>
  if p1 = 62 then
    J32 1 s
  else
    if p1 = 45 then
      J32 2 s
    else
      if p1 = 60 then
        J32 3 s
      else
        J32 0 s
def fX7_acceptsSecond (p1 : Int32) (p2 : Int32) (s : mx_G) : Option (Int32 × mx_G) :=
  if p1 < 0 then
    some (0, s)
  else
    if p2 ≤ p1 then
      some (0, s)
    else
      if p1 = s.1 36 3 then
        some (0, s)
      else
        if ix (((s.1 36 3) * 6) + p1) 36 = true then
          if s.1 38 (Int32.toNatClampNeg (((s.1 36 3) * 6) + p1)) = 0 then
            mv_let (gi s 36 4 p1) fun s1 =>
            if ix (((s1.1 36 3) * 6) + (s1.1 36 4)) 36 = true then
              mv_let (gi s1 38 (Int32.toNatClampNeg (((s1.1 36 3) * 6) + (s1.1 36 4))) (s1.1 36 5)) fun s2 =>
              if ix (((s2.1 36 4) * 6) + (s2.1 36 3)) 36 = true then
                mv_let (gi s2 38 (Int32.toNatClampNeg (((s2.1 36 4) * 6) + (s2.1 36 3))) (4 - (s2.1 36 5))) fun s3 =>
                if ix (((s3.1 36 3) * 6) + (s3.1 36 4)) 36 = true then
                  mv_let (gi s3 39 (Int32.toNatClampNeg (((s3.1 36 3) * 6) + (s3.1 36 4))) (0 &&& 1)) fun s4 =>
                  if ix (((s4.1 36 4) * 6) + (s4.1 36 3)) 36 = true then
                    mv_let (gi s4 39 (Int32.toNatClampNeg (((s4.1 36 4) * 6) + (s4.1 36 3))) (0 &&& 1)) fun s5 =>
                    mv_let (gi s5 36 6 ((s5.1 36 6) + 1)) fun s6 =>
                    mv_let (gi s6 36 2 4) fun s7 =>
                    some (1, s7)
                  else none
                else none
              else none
            else none
          else
            some (0, s)
        else none
def fX7_acceptsBehind (p1 : Int32) (s : mx_G) : Option (Int32 × mx_G) :=
  if p1 = 44 then
    mv_let (gi s 36 2 1) fun s4 =>
    some (1, s4)
  else
    if p1 = 33 then
      if s.1 36 2 = 5 then
        some (0, s)
      else
        if ix (((s.1 36 3) * 6) + (s.1 36 4)) 36 = true then
          mv_let (gi s 39 (Int32.toNatClampNeg (((s.1 36 3) * 6) + (s.1 36 4))) (1 &&& 1)) fun s1 =>
          if ix (((s1.1 36 4) * 6) + (s1.1 36 3)) 36 = true then
            mv_let (gi s1 39 (Int32.toNatClampNeg (((s1.1 36 4) * 6) + (s1.1 36 3))) (1 &&& 1)) fun s2 =>
            mv_let (gi s2 36 2 5) fun s3 =>
            some (1, s3)
          else none
        else none
    else
      some (0, s)
def fX7_accepts (p1 : Int32) (p2 : Int32) (s : mx_G) : Option (Int32 × mx_G) :=
  mv_let (s.1 36 2) fun x1 =>
  if x1 = 0 then
    mv_bind (fX7_acceptsFirst (p1 - 48) p2 s) fun x2 s3 =>
    if x2 &&& 1 = x2 then some (x2, s3) else none
  else
  if x1 = 1 then
    mv_bind (fX7_acceptsFirst (p1 - 48) p2 s) fun x4 s5 =>
    if x4 &&& 1 = x4 then some (x4, s5) else none
  else
  if x1 = 2 then
    mv_bind (fX7_acceptsSign p1 s) fun x6 s7 =>
    if x6 &&& 1 = x6 then some (x6, s7) else none
  else
  if x1 = 3 then
    mv_bind (fX7_acceptsSecond (p1 - 48) p2 s) fun x8 s9 =>
    if x8 &&& 1 = x8 then some (x8, s9) else none
  else
  mv_bind (fX7_acceptsBehind p1 s) fun x10 s11 =>
  if x10 &&& 1 = x10 then some (x10, s11) else none
def lX7_parse_20 (a1 : Int32) (k64 : mx_G → Option (Int32 × mx_G)) : Nat → Int32 → mx_G → Option (Int32 × mx_G)
  | 0, _, _ => none
  | n + 1, a2, s0 =>
    if s0.1 36 1 ≤ a2 then
      k64 s0
    else
      if ix a2 80 = true then
        if s0.1 37 (Int32.toNatClampNeg a2) = 32 then
          lX7_parse_20 a1 k64 n (a2 + 1) s0
        else
          if ix a2 80 = true then
            mv_bind (fX7_accepts (s0.1 37 (Int32.toNatClampNeg a2)) a1 s0) fun x4 s5 =>
            if x4 = 0 then
              some ((-20) - a2, s5)
            else
              lX7_parse_20 a1 k64 n (a2 + 1) s5
          else none
      else none
def fX7_parse (p1 : Int32) (s : mx_G) : Option (Int32 × mx_G) :=
  mv_let (gi s 36 2 0) fun s1 =>
  mv_let (gi s1 36 6 0) fun s2 =>
  mv_bind (fJA_fillI_1 0 s2) fun _ s3 =>
  lX7_parse_20 p1
    (fun s6 =>
      mv_let (fun (q0_92 : Int32) (s_92 : mx_G) =>
        if q0_92 = 0 then
          some ((-20) - (s_92.1 36 1), s_92)
        else
          some (s_92.1 36 6, s_92)
      ) fun J92 =>
      mv_let (fun (s_87 : mx_G) =>
        J92 1 s_87
      ) fun J87 =>
      if s6.1 36 2 = 0 then
        J87 s6
      else
        if s6.1 36 2 = 4 then
          J87 s6
        else
          if s6.1 36 2 = 5 then
            J87 s6
          else
            J92 0 s6
    )
    FU 0 s3
def fX7_empty (s : mx_G) : Option (Unit × mx_G) :=
  mv_let (gi s 36 1 0) fun s1 =>
  some ((), s1)
def fJA_rangeCheck (p0 : Int32) (p1 : Int32) (p2 : Int32) (s : mx_G) : Option (Unit × mx_G) :=
  if p1 ≤ p2 then
    if 0 ≤ p1 then
      if p2 ≤ p0 then
        some ((), s)
      else
        none
    else
      none
  else
    none
def lJA_fillIR_10 (a2 : Int32) (a3 : Int32) : Nat → Int32 → mx_G → Option (Unit × mx_G)
  | 0, _, _ => none
  | n + 1, a4, s0 =>
    if a2 ≤ a4 then
      some ((), s0)
    else
      if ix a4 128 = true then
        mv_let (gi s0 2 (Int32.toNatClampNeg a4) a3) fun s2 =>
        lJA_fillIR_10 a2 a3 n (a4 + 1) s2
      else none
def fJA_fillIR (p1 : Int32) (p2 : Int32) (p3 : Int32) (s : mx_G) : Option (Unit × mx_G) :=
  mv_bind (fJA_rangeCheck 128 p1 p2 s) fun _ s1 =>
  lJA_fillIR_10 p2 p3
   FU p1 s1
def fX9_loseLinks (s : mx_G) : Option (Unit × mx_G) :=
  mv_bind (fJA_fillIR 13 85 0 s) fun _ s1 =>
  some ((), s1)
def lX7_tellTo_16 (a2 : Int32) (k79 : mx_G → Option (Unit × mx_G)) : Nat → Int32 → mx_G → Option (Unit × mx_G)
  | 0, _, _ => none
  | n + 1, a3, s0 =>
    if 6 ≤ a3 then
      k79 s0
    else
      if ix ((a2 * 6) + a3) 36 = true then
        if s0.1 38 (Int32.toNatClampNeg ((a2 * 6) + a3)) = 0 then
          lX7_tellTo_16 a2 k79 n (a3 + 1) s0
        else
          if ix ((a2 * 6) + a3) 36 = true then
            mv_bind (fX9_setLink a2 a3 (s0.1 38 (Int32.toNatClampNeg ((a2 * 6) + a3))) s0) fun _ s3 =>
            if ix ((a2 * 6) + a3) 36 = true then
              if s3.1 39 (Int32.toNatClampNeg ((a2 * 6) + a3)) = 0 then
                lX7_tellTo_16 a2 k79 n (a3 + 1) s3
              else
                mv_bind (fX9_turnCut a2 a3 s3) fun _ s4 =>
                lX7_tellTo_16 a2 k79 n (a3 + 1) s4
            else none
          else none
      else none
def lX7_tellTo_6  : Nat → Int32 → mx_G → Option (Unit × mx_G)
  | 0, _, _ => none
  | n + 1, a2, s0 =>
    if 6 ≤ a2 then
      some ((), s0)
    else
      mv_let (a2 + 1) fun x2 =>
      lX7_tellTo_16 a2
        (fun s5 =>
          lX7_tellTo_6 n (a2 + 1) s5
        )
        FU x2 s0
def fX7_tellTo (s : mx_G) : Option (Unit × mx_G) :=
  mv_bind (fX9_loseLinks s) fun _ s1 =>
  lX7_tellTo_6 
   FU 0 s1
def fX10_read (s : mx_G) : Option (Int32 × mx_G) :=
  mv_bind (fX9_size s) fun x1 s2 =>
  mv_bind (fX7_parse x1 s2) fun x3 s4 =>
  if x3 < 0 then
    mv_bind (fX7_empty s4) fun _ s5 =>
    some (x3, s5)
  else
    mv_bind (fX3_keep s4) fun _ s6 =>
    mv_bind (fX7_tellTo s6) fun _ s7 =>
    mv_bind (fX7_empty s7) fun _ s8 =>
    some (x3, s8)
def lX0_advance_10 (a2 : Int32) (a3 : Int32) (k36 : mx_G → Option (Int32 × mx_G)) : Nat → Int32 → mx_G → Option (Int32 × mx_G)
  | 0, _, _ => none
  | n + 1, a4, s0 =>
    if a3 ≤ a4 then
      k36 s0
    else
      mv_bind (fX0_best a4 s0) fun x3 s4 =>
      if ix a4 6 = true then
        mv_let (gi s4 14 (Int32.toNatClampNeg a4) x3) fun s5 =>
        lX0_advance_10 a2 a3 k36 n (a4 + 1) s5
      else none
def lX0_advance_39 (a3 : Int32) : Nat → Int32 → Int32 → mx_G → Option (Int32 × mx_G)
  | 0, _, _, _ => none
  | n + 1, a2, a4, s0 =>
    if a3 ≤ a4 then
      some (a2, s0)
    else
      if ix a4 6 = true then
        if ix a4 6 = true then
          if s0.1 14 (Int32.toNatClampNeg a4) = s0.1 10 (Int32.toNatClampNeg a4) then
            lX0_advance_39 a3 n a2 (a4 + 1) s0
          else
            if ix a4 6 = true then
              mv_bind (fX0_put a4 (s0.1 14 (Int32.toNatClampNeg a4)) s0) fun _ s7 =>
              lX0_advance_39 a3 n (a2 + 1) (a4 + 1) s7
            else none
        else none
      else none
def fX0_advance (s : mx_G) : Option (Int32 × mx_G) :=
  mv_bind (fX9_size s) fun x1 s2 =>
  lX0_advance_10 0 x1
    (fun s6 =>
      lX0_advance_39 x1
       FU 0 0 s6
    )
    FU 0 s2
def lX0_store_2  : Nat → Int32 → mx_G → Option (Unit × mx_G)
  | 0, _, _ => none
  | n + 1, a2, s0 =>
    if 6 ≤ a2 then
      some ((), s0)
    else
      if ix a2 6 = true then
        mv_bind (fX9_setChosen a2 (s0.1 10 (Int32.toNatClampNeg a2)) s0) fun _ s1 =>
        lX0_store_2 n (a2 + 1) s1
      else none
def fX0_store (s : mx_G) : Option (Unit × mx_G) :=
  lX0_store_2 
   FU 0 s
