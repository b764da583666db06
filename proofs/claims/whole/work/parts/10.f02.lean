def fX11_domains (p1 : Int32) (s : mx_G) : Option (Int32 × mx_G) :=
  mv_bind (fX11_in (Int32.toInt64 p1) 2 6 s) fun x1 s2 =>
  if x1 = 0 then
    some ((-1), s2)
  else
    if ix 0 128 = true then
      mv_let (s2.1 46 (Int32.toNatClampNeg 0)) fun x3 =>
      if x3 = p1 then
        some ((-2), s2)
      else
        mv_bind (fX11_notes s2) fun _ s4 =>
        if ix 0 128 = true then
          mv_let (gi s4 46 (Int32.toNatClampNeg 0) p1) fun s5 =>
          lX11_domains_44 p1 x3
           FU 0 s5
        else none
    else none
def fX11_told (p1 : Int32) (p2 : Int32) (p3 : Int32) (s : mx_G) : Option (Int32 × mx_G) :=
  mv_bind (fX11_areTwo p1 p2 s) fun x1 s2 =>
  if x1 = 0 then
    some ((-1), s2)
  else
    if p3 = 0 then
      mv_bind (fX11_pair p1 p2 s2) fun x3 s4 =>
      if ix (1 + x3) 128 = true then
        some (s4.1 46 (Int32.toNatClampNeg (1 + x3)), s4)
      else none
    else
    if p3 = 1 then
      mv_bind (fX11_pair p1 p2 s2) fun x5 s6 =>
      if ix (37 + x5) 128 = true then
        some (s6.1 46 (Int32.toNatClampNeg (37 + x5)), s6)
      else none
    else
    if p3 = 2 then
      mv_bind (fX11_pair p1 p2 s2) fun x7 s8 =>
      if ix (73 + x7) 128 = true then
        some (s8.1 46 (Int32.toNatClampNeg (73 + x7)), s8)
      else none
    else
    some ((-1), s2)
def lX11_figures_7  : Nat → Int32 → Int32 → mx_G → Option (Int32 × mx_G)
  | 0, _, _, _ => none
  | n + 1, a1, a2, s0 =>
    if a2 ≤ 0 then
      some (a1, s0)
    else
      mv_let (a2 / 10) fun x2 =>
      lX11_figures_7 n (a1 + 1) x2 s0
def fX11_figures (p0 : Int32) (s : mx_G) : Option (Int32 × mx_G) :=
  mv_let (p0 / 10) fun x1 =>
  lX11_figures_7 
   FU 1 x1 s
def lX11_figure_9 (a1 : Int32) : Nat → Int32 → Int32 → mx_G → Option (Int32 × mx_G)
  | 0, _, _, _ => none
  | n + 1, a2, a3, s0 =>
    if a3 ≤ a1 then
      some (mv_rem a2 10, s0)
    else
      mv_let (a2 / 10) fun x4 =>
      lX11_figure_9 a1 n x4 (a3 + (-1)) s0
def fX11_figure (p0 : Int32) (p1 : Int32) (s : mx_G) : Option (Int32 × mx_G) :=
  mv_bind (fX11_figures p0 s) fun x1 s2 =>
  mv_let (x1 - 1) fun x3 =>
  lX11_figure_9 p1
   FU p0 x3 s2
def lX11_setOf_9  : Nat → Int32 → Int32 → Int32 → mx_G → Option (Int32 × mx_G)
  | 0, _, _, _, _ => none
  | n + 1, a1, a2, a3, s0 =>
    if a3 ≤ 0 then
      some (a1, s0)
    else
      mv_let (a1 ||| (mv_shl 1 (mv_rem a2 10))) fun x3 =>
      mv_let (a2 / 10) fun x4 =>
      lX11_setOf_9 n x3 x4 (a3 + (-1)) s0
def fX11_setOf (p0 : Int32) (s : mx_G) : Option (Int32 × mx_G) :=
  mv_bind (fX11_figures p0 s) fun x1 s2 =>
  lX11_setOf_9 
   FU 0 p0 x1 s2
def fX11_areLinked (p1 : Int32) (p2 : Int32) (s : mx_G) : Option (Int32 × mx_G) :=
  mv_bind (fX11_pair p1 p2 s) fun x1 s2 =>
  if ix (1 + x1) 128 = true then
    if s2.1 46 (Int32.toNatClampNeg (1 + x1)) ≤ 0 then
      some (0, s2)
    else
      mv_bind (fX11_pair p1 p2 s2) fun x3 s4 =>
      if ix (37 + x3) 128 = true then
        if s4.1 46 (Int32.toNatClampNeg (37 + x3)) = 0 then
          some (1, s4)
        else
          some (0, s4)
      else none
  else none
def fX11_second (p0 : Int32) (s : mx_G) : Option (Int32 × mx_G) :=
  if p0 = 0 then
    some ((-1), s)
  else
    mv_bind (fX11_figure p0 1 s) fun x1 s2 =>
    some (x1, s2)
def fX11_isCustomer (p1 : Int32) (p2 : Int32) (s : mx_G) : Option (Int32 × mx_G) :=
  mv_bind (fX11_pair p1 p2 s) fun x1 s2 =>
  if ix (1 + x1) 128 = true then
    if s2.1 46 (Int32.toNatClampNeg (1 + x1)) = 1 then
      some (1, s2)
    else
      some (0, s2)
  else none
def fX11_lets (p1 : Int32) (p2 : Int32) (p3 : Int32) (s : mx_G) : Option (Int32 × mx_G) :=
  if ix (109 + p1) 128 = true then
    if (s.1 46 (Int32.toNatClampNeg (109 + p1))) &&& 2 = 0 then
      some (1, s)
    else
      mv_bind (fX11_isCustomer p1 p2 s) fun x1 s2 =>
      if x1 = 0 then
        if p3 < 0 then
          some (1, s2)
        else
          mv_bind (fX11_isCustomer p1 p3 s2) fun x3 s4 =>
          if x3 = 0 then
            some (0, s4)
          else
            some (1, s4)
      else
        some (1, s2)
  else none
def fX11_takes (p1 : Int32) (p2 : Int32) (s : mx_G) : Option (Int32 × mx_G) :=
  mv_bind (fX11_figure p2 0 s) fun x1 s2 =>
  mv_bind (fX11_setOf p2 s2) fun x3 s4 =>
  mv_bind (fX11_areLinked p1 x1 s4) fun x5 s6 =>
  if x5 = 0 then
    some (0, s6)
  else
    mv_bind (fX11_has x3 p1 s6) fun x7 s8 =>
    if x7 = 0 then
      if ix (115 + p1) 128 = true then
        if (s8.1 46 (Int32.toNatClampNeg (115 + p1))) &&& x3 = 0 then
          mv_bind (fX11_second p2 s8) fun x9 s10 =>
          mv_bind (fX11_lets x1 p1 x9 s10) fun x11 s12 =>
          if x11 = 0 then
            some (0, s12)
          else
            some (1, s12)
        else
          some (0, s8)
      else none
    else
      some (0, s8)
def lX11_ten_4 (a0 : Int32) : Nat → Int32 → Int32 → mx_G → Option (Int32 × mx_G)
  | 0, _, _, _ => none
  | n + 1, a1, a2, s0 =>
    if a0 ≤ a2 then
      some (a1, s0)
    else
      mv_let (a1 * 10) fun x1 =>
      lX11_ten_4 a0 n x1 (a2 + 1) s0
def fX11_ten (p0 : Int32) (s : mx_G) : Option (Int32 × mx_G) :=
  lX11_ten_4 p0
   FU 1 0 s
def fX11_together (p0 : Int32) (p1 : Int32) (s : mx_G) : Option (Int32 × mx_G) :=
  mv_bind (fX11_figures p1 s) fun x1 s2 =>
  mv_bind (fX11_ten x1 s2) fun x3 s4 =>
  some ((p0 * x3) + p1, s4)
def lX11_laysWays_31 (a1 : Int32) (k100 : mx_G → Option (Unit × mx_G)) : Nat → Int32 → mx_G → Option (Unit × mx_G)
  | 0, _, _ => none
  | n + 1, a2, s0 =>
    if ix 0 128 = true then
      if s0.1 46 (Int32.toNatClampNeg 0) ≤ a2 then
        k100 s0
      else
        if ix a1 326 = true then
          mv_bind (fX11_takes a2 (s0.1 54 (Int32.toNatClampNeg a1)) s0) fun x4 s5 =>
          if x4 = 0 then
            lX11_laysWays_31 a1 k100 n (a2 + 1) s5
          else
            if ix a1 326 = true then
              mv_bind (fX11_together a2 (s5.1 54 (Int32.toNatClampNeg a1)) s5) fun x6 s7 =>
              if ix (s5.1 45 13) 326 = true then
                mv_let (gi s7 54 (Int32.toNatClampNeg (s5.1 45 13)) x6) fun s8 =>
                if ix (s8.1 45 13) 326 = true then
                  mv_let (gi s8 55 (Int32.toNatClampNeg (s8.1 45 13)) a2) fun s9 =>
                  mv_let (gi s9 45 13 ((s9.1 45 13) + 1)) fun s10 =>
                  lX11_laysWays_31 a1 k100 n (a2 + 1) s10
                else none
              else none
            else none
        else none
    else none
def lX11_laysWays_21  : Nat → Int32 → mx_G → Option (Unit × mx_G)
  | 0, _, _ => none
  | n + 1, a1, s0 =>
    if s0.1 45 13 ≤ a1 then
      some ((), s0)
    else
      lX11_laysWays_31 a1
        (fun s11 =>
          lX11_laysWays_21 n (a1 + 1) s11
        )
        FU 1 s0
def fX11_laysWays (s : mx_G) : Option (Unit × mx_G) :=
  mv_let (gi s 45 13 1) fun s1 =>
  if ix 0 326 = true then
    mv_let (gi s1 54 (Int32.toNatClampNeg 0) 0) fun s2 =>
    if ix 0 326 = true then
      mv_let (gi s2 55 (Int32.toNatClampNeg 0) 0) fun s3 =>
      lX11_laysWays_21 
       FU 0 s3
    else none
  else none
def fX11_isBetter (p1 : Int32) (p2 : Int32) (p3 : Int32) (s : mx_G) : Option (Int32 × mx_G) :=
  mv_bind (fX11_figure p2 1 s) fun x1 s2 =>
  mv_bind (fX11_figure p3 1 s2) fun x3 s4 =>
  mv_bind (fX11_pair p1 x1 s4) fun x5 s6 =>
  if ix (1 + x5) 128 = true then
    mv_bind (fX11_pair p1 x3 s6) fun x7 s8 =>
    if ix (1 + x7) 128 = true then
      mv_let ((s6.1 46 (Int32.toNatClampNeg (1 + x5))) - (s8.1 46 (Int32.toNatClampNeg (1 + x7)))) fun x9 =>
      if ix (109 + p1) 128 = true then
        mv_let (fun (s_74 : mx_G) =>
          mv_bind (fX11_pair p1 x1 s_74) fun x10 s11 =>
          if ix (73 + x10) 128 = true then
            mv_bind (fX11_pair p1 x3 s11) fun x12 s13 =>
            if ix (73 + x12) 128 = true then
              mv_let ((s11.1 46 (Int32.toNatClampNeg (73 + x10))) - (s13.1 46 (Int32.toNatClampNeg (73 + x12)))) fun x14 =>
              if x14 = 0 then
                mv_bind (fX11_figures p2 s13) fun x15 s16 =>
                mv_bind (fX11_figures p3 s16) fun x17 s18 =>
                if x15 = x17 then
                  if p3 ≤ p2 then
                    some (0, s18)
                  else
                    some (1, s18)
                else
                  mv_bind (fX11_figures p2 s18) fun x19 s20 =>
                  mv_bind (fX11_figures p3 s20) fun x21 s22 =>
                  if x21 ≤ x19 then
                    some (0, s22)
                  else
                    some (1, s22)
              else
                if x14 ≤ 0 then
                  some (0, s13)
                else
                  some (1, s13)
            else none
          else none
        ) fun J74 =>
        if (s8.1 46 (Int32.toNatClampNeg (109 + p1))) &&& 1 = 1 then
          if x9 = 0 then
            J74 s8
          else
            if 0 ≤ x9 then
              some (0, s8)
            else
              some (1, s8)
        else
          J74 s8
      else none
    else none
  else none
def lX11_way_34 (a1 : Int32) (a2 : Int32) (a3 : Int32) (k101 : Int32 → mx_G → Option (Int32 × mx_G)) : Nat → Int32 → Int32 → mx_G → Option (Int32 × mx_G)
  | 0, _, _, _ => none
  | n + 1, a4, a5, s0 =>
    if s0.1 45 13 ≤ a5 then
      k101 a4 s0
    else
      if a1 ≤ 0 then
        mv_let (a4 + 0) fun x4 =>
        lX11_way_34 a1 a2 a3 k101 n x4 (a5 + 1) s0
      else
        if ix a5 326 = true then
          if s0.1 55 (Int32.toNatClampNeg a5) = a1 then
            if a5 = a3 then
              mv_let (a4 + 0) fun x6 =>
              lX11_way_34 a1 a2 a3 k101 n x6 (a5 + 1) s0
            else
              if ix a5 326 = true then
                if ix a3 326 = true then
                  mv_bind (fX11_isBetter a1 (s0.1 54 (Int32.toNatClampNeg a5)) (s0.1 54 (Int32.toNatClampNeg a3)) s0) fun x7 s8 =>
                  if x7 = 0 then
                    mv_let (a4 + 0) fun x9 =>
                    lX11_way_34 a1 a2 a3 k101 n x9 (a5 + 1) s8
                  else
                    mv_let (a4 + 1) fun x10 =>
                    lX11_way_34 a1 a2 a3 k101 n x10 (a5 + 1) s8
                else none
              else none
          else
            mv_let (a4 + 0) fun x5 =>
            lX11_way_34 a1 a2 a3 k101 n x5 (a5 + 1) s0
        else none
def lX11_way_20 (a1 : Int32) (a2 : Int32) : Nat → Int32 → mx_G → Option (Int32 × mx_G)
  | 0, _, _ => none
  | n + 1, a3, s0 =>
    if s0.1 45 13 ≤ a3 then
      some ((-4), s0)
    else
      lX11_way_34 a1 a2 a3
        (fun y12 s11 =>
          if ix a3 326 = true then
            if s11.1 55 (Int32.toNatClampNeg a3) = a1 then
              if y12 = a2 then
                if ix a3 326 = true then
                  some (s11.1 54 (Int32.toNatClampNeg a3), s11)
                else none
              else
                lX11_way_20 a1 a2 n (a3 + 1) s11
            else
              lX11_way_20 a1 a2 n (a3 + 1) s11
          else none
        )
        FU 0 0 s0
def fX11_way (p1 : Int32) (p2 : Int32) (s : mx_G) : Option (Int32 × mx_G) :=
  mv_bind (fX11_isDomain p1 s) fun x1 s2 =>
  if x1 = 0 then
    some ((-1), s2)
  else
    if 0 ≤ p2 then
      mv_bind (fX11_laysWays s2) fun _ s3 =>
      lX11_way_20 p1 p2
       FU 0 s3
    else
      some ((-1), s2)
def lX11_isRow_35  : Nat → Int32 → Int32 → mx_G → Option (Int32 × mx_G)
  | 0, _, _, _ => none
  | n + 1, a2, a3, s0 =>
    if a3 ≤ 0 then
      if a2 &&& 1 = a2 then some (a2, s0) else none
    else
      mv_let (fun (s_60 : mx_G) =>
        mv_let (a3 / 10) fun x3 =>
        lX11_isRow_35 n 0 x3 s_60
      ) fun J60 =>
      if a2 = 0 then
        J60 s0
      else
        if ix 0 128 = true then
          if s0.1 46 (Int32.toNatClampNeg 0) ≤ mv_rem a3 10 then
            J60 s0
          else
            mv_let (a3 / 10) fun x4 =>
            lX11_isRow_35 n 1 x4 s0
        else none
def fX11_isRow (p1 : Int32) (s : mx_G) : Option (Int32 × mx_G) :=
  mv_bind (fX11_in (Int32.toInt64 p1) 0 999999 s) fun x1 s2 =>
  mv_let (fun (q0_24 : Int32) (s_24 : mx_G) =>
    mv_let (fun (q0_34 : Int32) (s_34 : mx_G) =>
      lX11_isRow_35 
       FU q0_24 q0_34 s_34
    ) fun J34 =>
    if q0_24 = 0 then
      J34 0 s_24
    else
      J34 p1 s_24
  ) fun J24 =>
  mv_let (fun (s_23 : mx_G) =>
    J24 0 s_23
  ) fun J23 =>
  if x1 = 0 then
    J23 s2
  else
    if mv_rem p1 10 = 0 then
      J24 1 s2
    else
      J23 s2
def lX11_whyAt_42 (a1 : Int32) (a3 : Int32) (a4 : Int32) (a5 : Int32) (a6 : Int32) (k70 : Int32 → mx_G → Option (Int32 × mx_G)) : Nat → Int32 → Int32 → mx_G → Option (Int32 × mx_G)
  | 0, _, _, _ => none
  | n + 1, a7, a8, s0 =>
    mv_bind (fX11_figures a1 s0) fun x12 s13 =>
    if x12 ≤ a8 then
      k70 a7 s13
    else
      mv_bind (fX11_figure a1 a8 s13) fun x14 s15 =>
      mv_let (a7 ||| (mv_shl 1 x14)) fun x16 =>
      lX11_whyAt_42 a1 a3 a4 a5 a6 k70 n x16 (a8 + 1) s15
def fX11_whyAt (p1 : Int32) (p2 : Int32) (s : mx_G) : Option (Int32 × mx_G) :=
  mv_bind (fX11_figure p1 p2 s) fun x1 s2 =>
  mv_bind (fX11_figure p1 (p2 + 1) s2) fun x3 s4 =>
  mv_bind (fX11_figures p1 s4) fun x5 s6 =>
  mv_let ((x5 - p2) - 1) fun x7 =>
  mv_bind (fX11_ten x7 s6) fun x8 s9 =>
  if x8 = 0 then none else
  mv_let (mv_rem p1 x8) fun x10 =>
  mv_let (p2 + 1) fun x11 =>
  lX11_whyAt_42 p1 x1 x3 x7 x10
    (fun y18 s17 =>
      if x1 = x3 then
        some (1, s17)
      else
        mv_bind (fX11_areLinked x1 x3 s17) fun x19 s20 =>
        if x19 = 0 then
          some (1, s20)
        else
          mv_bind (fX11_has y18 x1 s20) fun x21 s22 =>
          if x21 = 0 then
            if ix (115 + x1) 128 = true then
              if (s22.1 46 (Int32.toNatClampNeg (115 + x1))) &&& y18 = 0 then
                if x7 = 1 then
                  mv_bind (fX11_lets x3 x1 (-1) s22) fun x27 s28 =>
                  if x27 = 0 then
                    some (4, s28)
                  else
                    some (0, s28)
                else
                  mv_bind (fX11_ten (x7 - 2) s22) fun x23 s24 =>
                  if x23 = 0 then none else
                  mv_bind (fX11_lets x3 x1 (mv_rem (x10 / x23) 10) s24) fun x25 s26 =>
                  if x25 = 0 then
                    some (4, s26)
                  else
                    some (0, s26)
              else
                some (3, s22)
            else none
          else
            some (2, s22)
    )
    FU 0 x11 s9
def lX11_why_17 (a1 : Int32) (k32 : Int32 → Int32 → mx_G → Option (Int32 × mx_G)) : Nat → Int32 → mx_G → Option (Int32 × mx_G)
  | 0, _, _ => none
  | n + 1, a2, s0 =>
    if a2 < 0 then
      some (0, s0)
    else
      mv_bind (fX11_whyAt a1 a2 s0) fun x6 s7 =>
      if x6 ≤ 0 then
        lX11_why_17 a1 k32 n (a2 + (-1)) s7
      else
        k32 a2 x6 s7
def fX11_why (p1 : Int32) (s : mx_G) : Option (Int32 × mx_G) :=
  mv_bind (fX11_isRow p1 s) fun x1 s2 =>
  if x1 = 0 then
    some ((-1), s2)
  else
    mv_bind (fX11_figures p1 s2) fun x3 s4 =>
    mv_let (x3 - 2) fun x5 =>
    lX11_why_17 p1
      (fun y9 y10 s8 =>
        mv_bind (fX11_figure p1 y9 s8) fun x11 s12 =>
        some (((100 * y10) + (10 * x11)) + y9, s12)
      )
      FU x5 s4
def lX11_permittedTo_4 (a1 : Int32) : Nat → Int32 → Int32 → mx_G → Option (Int32 × mx_G)
  | 0, _, _, _ => none
  | n + 1, a2, a3, s0 =>
    if s0.1 45 13 ≤ a3 then
      some (a2, s0)
    else
      if ix a3 326 = true then
        if s0.1 55 (Int32.toNatClampNeg a3) = a1 then
          mv_let (a2 + 1) fun x2 =>
          lX11_permittedTo_4 a1 n x2 (a3 + 1) s0
        else
          mv_let (a2 + 0) fun x1 =>
          lX11_permittedTo_4 a1 n x1 (a3 + 1) s0
      else none
def fX11_permittedTo (p1 : Int32) (s : mx_G) : Option (Int32 × mx_G) :=
  lX11_permittedTo_4 p1
   FU 0 0 s
def lX11_bring_2_3 (a1 : Int32) (a3 : Int32) (a4 : Int32) : Nat → Int32 → mx_G → Option (Unit × mx_G)
  | 0, _, _ => none
  | n + 1, a5, s0 =>
    if a4 ≤ a5 then
      some ((), s0)
    else
      if ix (a1 + a5) 128 = true then
        if ix (a3 + a5) 6 = true then
          mv_let (gi s0 56 (Int32.toNatClampNeg (a3 + a5)) (s0.1 46 (Int32.toNatClampNeg (a1 + a5)))) fun s1 =>
          lX11_bring_2_3 a1 a3 a4 n (a5 + 1) s1
        else none
      else none
def fX11_bring_2 (p1 : Int32) (p3 : Int32) (p4 : Int32) (s : mx_G) : Option (Unit × mx_G) :=
  lX11_bring_2_3 p1 p3 p4
   FU 0 s
def fX11_thinks (s : mx_G) : Option (Unit × mx_G) :=
  mv_bind (fX11_bring_2 121 0 6 s) fun _ s1 =>
  some ((), s1)
def lX11_wouldChoose_13 (a1 : Int32) : Nat → Int32 → Int32 → mx_G → Option (Int32 × mx_G)
  | 0, _, _, _ => none
  | n + 1, a2, a3, s0 =>
    if ix 0 128 = true then
      if s0.1 46 (Int32.toNatClampNeg 0) ≤ a3 then
        some (a2, s0)
      else
        if a1 ≤ 0 then
          some (a2, s0)
        else
          if a3 = a1 then
            lX11_wouldChoose_13 a1 n a2 (a3 + 1) s0
          else
            if ix a3 6 = true then
              if s0.1 56 (Int32.toNatClampNeg a3) = (-4) then
                lX11_wouldChoose_13 a1 n a2 (a3 + 1) s0
              else
                if ix a3 6 = true then
                  mv_bind (fX11_takes a1 (s0.1 56 (Int32.toNatClampNeg a3)) s0) fun x1 s2 =>
                  if x1 = 0 then
                    lX11_wouldChoose_13 a1 n a2 (a3 + 1) s2
                  else
                    if ix a3 6 = true then
                      mv_bind (fX11_together a1 (s2.1 56 (Int32.toNatClampNeg a3)) s2) fun x3 s4 =>
                      if a2 = (-4) then
                        lX11_wouldChoose_13 a1 n x3 (a3 + 1) s4
                      else
                        mv_bind (fX11_isBetter a1 x3 a2 s4) fun x5 s6 =>
                        if x5 = 0 then
                          lX11_wouldChoose_13 a1 n a2 (a3 + 1) s6
                        else
                          lX11_wouldChoose_13 a1 n x3 (a3 + 1) s6
                    else none
                else none
            else none
    else none
def fX11_wouldChoose (p1 : Int32) (s : mx_G) : Option (Int32 × mx_G) :=
  mv_let (fun (q0_10 : Int32) (s_10 : mx_G) =>
    lX11_wouldChoose_13 p1
     FU q0_10 0 s_10
  ) fun J10 =>
  if p1 = 0 then
    J10 0 s
  else
    J10 (-4) s
def fX11_own (p1 : Int32) (p2 : Int32) (s : mx_G) : Option (Int32 × mx_G) :=
  mv_bind (fX11_isDomain p1 s) fun x1 s2 =>
  if x1 = 0 then
    some ((-1), s2)
  else
    if p2 = 0 then
      if ix (109 + p1) 128 = true then
        some (s2.1 46 (Int32.toNatClampNeg (109 + p1)), s2)
      else none
    else
    if p2 = 1 then
      if ix (115 + p1) 128 = true then
        some (s2.1 46 (Int32.toNatClampNeg (115 + p1)), s2)
      else none
    else
    if p2 = 2 then
      mv_bind (fX11_laysWays s2) fun _ s3 =>
      mv_bind (fX11_permittedTo p1 s3) fun x4 s5 =>
      some (x4, s5)
    else
    if p2 = 3 then
      if ix (121 + p1) 128 = true then
        some (s2.1 46 (Int32.toNatClampNeg (121 + p1)), s2)
      else none
    else
    if p2 = 4 then
      mv_bind (fX11_thinks s2) fun _ s6 =>
      mv_bind (fX11_wouldChoose p1 s6) fun x7 s8 =>
      some (x7, s8)
    else
    some ((-1), s2)
def lX11_linkMany_13 (a1 : Int32) (a3 : Int32) (k49 : Int32 → mx_G → Option (Int32 × mx_G)) : Nat → Int32 → Int32 → mx_G → Option (Int32 × mx_G)
  | 0, _, _, _ => none
  | n + 1, a2, a4, s0 =>
    if a3 ≤ a4 then
      k49 a2 s0
    else
      mv_bind (fX11_pair a3 a4 s0) fun x1 s2 =>
      if ix (a1 + x1) 128 = true then
        if s2.1 46 (Int32.toNatClampNeg (a1 + x1)) ≤ 0 then
          mv_let (a2 + 0) fun x3 =>
          lX11_linkMany_13 a1 a3 k49 n x3 (a4 + 1) s2
        else
          mv_let (a2 + 1) fun x4 =>
          lX11_linkMany_13 a1 a3 k49 n x4 (a4 + 1) s2
      else none
def lX11_linkMany_4 (a1 : Int32) : Nat → Int32 → Int32 → mx_G → Option (Int32 × mx_G)
  | 0, _, _, _ => none
  | n + 1, a2, a3, s0 =>
    if 6 ≤ a3 then
      some (a2, s0)
    else
      lX11_linkMany_13 a1 a3
        (fun y6 s5 =>
          lX11_linkMany_4 a1 n y6 (a3 + 1) s5
        )
        FU a2 0 s0
def fX11_linkMany (p1 : Int32) (s : mx_G) : Option (Int32 × mx_G) :=
  lX11_linkMany_4 p1
   FU 0 0 s
def lX11_chosenSet_4  : Nat → Int32 → Int32 → mx_G → Option (Int32 × mx_G)
  | 0, _, _, _ => none
  | n + 1, a1, a2, s0 =>
    if ix 0 128 = true then
      if s0.1 46 (Int32.toNatClampNeg 0) ≤ a2 then
        some (a1, s0)
      else
        if ix (121 + a2) 128 = true then
          if s0.1 46 (Int32.toNatClampNeg (121 + a2)) = (-4) then
            mv_let (a1 ||| 0) fun x1 =>
            lX11_chosenSet_4 n x1 (a2 + 1) s0
          else
            mv_let (a1 ||| (mv_shl 1 a2)) fun x2 =>
            lX11_chosenSet_4 n x2 (a2 + 1) s0
        else none
    else none
def fX11_chosenSet (s : mx_G) : Option (Int32 × mx_G) :=
  lX11_chosenSet_4 
   FU 0 0 s
def lX11_notContent_4  : Nat → Int32 → Int32 → mx_G → Option (Int32 × mx_G)
  | 0, _, _, _ => none
  | n + 1, a1, a2, s0 =>
    if ix 0 128 = true then
      if s0.1 46 (Int32.toNatClampNeg 0) ≤ a2 then
        some (a1, s0)
      else
        mv_bind (fX11_wouldChoose a2 s0) fun x1 s2 =>
        if ix a2 6 = true then
          if x1 = s2.1 56 (Int32.toNatClampNeg a2) then
            mv_let (a1 ||| 0) fun x3 =>
            lX11_notContent_4 n x3 (a2 + 1) s2
          else
            mv_let (a1 ||| (mv_shl 1 a2)) fun x4 =>
            lX11_notContent_4 n x4 (a2 + 1) s2
        else none
    else none
def fX11_notContent (s : mx_G) : Option (Int32 × mx_G) :=
  lX11_notContent_4 
   FU 0 0 s
def fX11_nextOne (p1 : Int32) (p2 : Int32) (s : mx_G) : Option (Int32 × mx_G) :=
  mv_let (p2 + 1) fun x1 =>
  mv_let (fun (q0_15 : Int32) (q1_15 : Int32) (s_15 : mx_G) =>
    mv_let (q1_15 + q0_15) fun x2 =>
    if ix 0 128 = true then
      if s_15.1 46 (Int32.toNatClampNeg 0) ≤ x2 then
        some (9, s_15)
      else
        some (x2, s_15)
    else none
  ) fun J15 =>
  if x1 = p1 then
    J15 1 x1 s
  else
    J15 0 x1 s
def lX11_wayBy_7  : Nat → Int32 → Int32 → Int32 → mx_G → Option (Int32 × mx_G)
  | 0, _, _, _, _ => none
  | n + 1, a2, a3, a4, s0 =>
    if 6 ≤ a4 then
      if a3 = 0 then
        some (a2, s0)
      else
        some ((-4), s0)
    else
      if a3 = 0 then
        if a3 = 0 then
          some (a2, s0)
        else
          some ((-4), s0)
      else
        if a3 = 9 then
          if a3 = 0 then
            some (a2, s0)
          else
            some ((-4), s0)
        else
          if ix a3 6 = true then
            mv_let (s0.1 59 (Int32.toNatClampNeg a3)) fun x1 =>
            if x1 = 9 then
              lX11_wayBy_7 n a2 x1 (a4 + 1) s0
            else
              mv_let ((10 * a2) + x1) fun x2 =>
              lX11_wayBy_7 n x2 x1 (a4 + 1) s0
          else none
def fX11_wayBy (p1 : Int32) (s : mx_G) : Option (Int32 × mx_G) :=
  lX11_wayBy_7 
   FU p1 p1 0 s
def lX11_thinksOfNexts_4  : Nat → Int32 → Int32 → mx_G → Option (Int32 × mx_G)
  | 0, _, _, _ => none
  | n + 1, a1, a2, s0 =>
    if 6 ≤ a2 then
      if a1 &&& 1 = a1 then some (a1, s0) else none
    else
      mv_let (fun (q0_43 : Int32) (q1_43 : Int32) (s_43 : mx_G) =>
        if ix q1_43 6 = true then
          mv_let (gi s_43 56 (Int32.toNatClampNeg q1_43) q0_43) fun s1 =>
          if a1 = 0 then
            lX11_thinksOfNexts_4 n 0 (a2 + 1) s1
          else
            if a2 = 0 then
              lX11_thinksOfNexts_4 n 1 (a2 + 1) s1
            else
              if ix 0 128 = true then
                if s1.1 46 (Int32.toNatClampNeg 0) ≤ a2 then
                  lX11_thinksOfNexts_4 n 1 (a2 + 1) s1
                else
                  if ix a2 6 = true then
                    if s1.1 59 (Int32.toNatClampNeg a2) = 9 then
                      lX11_thinksOfNexts_4 n 1 (a2 + 1) s1
                    else
                      if ix a2 6 = true then
                        if s1.1 56 (Int32.toNatClampNeg a2) = (-4) then
                          lX11_thinksOfNexts_4 n 0 (a2 + 1) s1
                        else
                          lX11_thinksOfNexts_4 n 1 (a2 + 1) s1
                      else none
                  else none
              else none
        else none
      ) fun J43 =>
      if a2 = 0 then
        J43 0 a2 s0
      else
        if ix 0 128 = true then
          if s0.1 46 (Int32.toNatClampNeg 0) ≤ a2 then
            J43 (-4) a2 s0
          else
            mv_bind (fX11_wayBy a2 s0) fun x2 s3 =>
            J43 x2 a2 s3
        else none
def fX11_thinksOfNexts (s : mx_G) : Option (Int32 × mx_G) :=
  lX11_thinksOfNexts_4 
   FU 1 0 s
def lX11_goesOn_9 (k42 : Int32 → mx_G → Option (Int32 × mx_G)) : Nat → Int32 → mx_G → Option (Int32 × mx_G)
  | 0, _, _ => none
  | n + 1, a1, s0 =>
    if a1 ≤ 0 then
      k42 a1 s0
    else
      if ix a1 6 = true then
        if s0.1 59 (Int32.toNatClampNeg a1) = 9 then
          mv_bind (fX11_nextOne a1 (-1) s0) fun x2 s3 =>
          if ix a1 6 = true then
            mv_let (gi s3 59 (Int32.toNatClampNeg a1) x2) fun s4 =>
            lX11_goesOn_9 k42 n (a1 + (-1)) s4
          else none
        else
          k42 a1 s0
      else none
def fX11_goesOn (s : mx_G) : Option (Int32 × mx_G) :=
  if ix 0 128 = true then
    mv_let ((s.1 46 (Int32.toNatClampNeg 0)) - 1) fun x1 =>
    lX11_goesOn_9 
      (fun y6 s5 =>
        if y6 ≤ 0 then
          if y6 ≤ 0 then
            some (0, s5)
          else
            some (1, s5)
        else
          if ix y6 6 = true then
            mv_bind (fX11_nextOne y6 (s5.1 59 (Int32.toNatClampNeg y6)) s5) fun x7 s8 =>
            if ix y6 6 = true then
              mv_let (gi s8 59 (Int32.toNatClampNeg y6) x7) fun s9 =>
              if y6 ≤ 0 then
                some (0, s9)
              else
                some (1, s9)
            else none
          else none
      )
      FU x1 s
  else none
def lX11_stableTo_7 (a1 : Int32) (a2 : Int32) (a3 : Int32) (k38 : mx_G → Option (Int32 × mx_G)) : Nat → Int32 → mx_G → Option (Int32 × mx_G)
  | 0, _, _ => none
  | n + 1, a4, s0 =>
    if ix 0 128 = true then
      if s0.1 46 (Int32.toNatClampNeg 0) ≤ a4 then
        k38 s0
      else
        mv_bind (fX11_nextOne a4 (-1) s0) fun x1 s2 =>
        if ix a4 6 = true then
          mv_let (gi s2 59 (Int32.toNatClampNeg a4) x1) fun s3 =>
          lX11_stableTo_7 a1 a2 a3 k38 n (a4 + 1) s3
        else none
    else none
def lX11_stableTo_38 (a1 : Int32) : Nat → Int32 → Int32 → mx_G → Option (Int32 × mx_G)
  | 0, _, _, _ => none
  | n + 1, a2, a3, s0 =>
    if a3 = 0 then
      if 0 ≤ a1 then
        some ((-4), s0)
      else
        some (a2, s0)
    else
      mv_bind (fX11_thinksOfNexts s0) fun x5 s6 =>
      if x5 = 0 then
        mv_bind (fX11_goesOn s6) fun x7 s8 =>
        lX11_stableTo_38 a1 n a2 x7 s8
      else
        mv_bind (fX11_notContent s6) fun x9 s10 =>
        if x9 = 0 then
          if a2 = a1 then
            some (a1, s10)
          else
            mv_bind (fX11_goesOn s10) fun x13 s14 =>
            lX11_stableTo_38 a1 n (a2 + 1) x13 s14
        else
          mv_bind (fX11_goesOn s10) fun x11 s12 =>
          lX11_stableTo_38 a1 n a2 x11 s12
def fX11_stableTo (p1 : Int32) (s : mx_G) : Option (Int32 × mx_G) :=
  lX11_stableTo_7 p1 0 1
    (fun s4 =>
      lX11_stableTo_38 p1
       FU 0 1 s4
    )
    FU 1 s
def fX11_count (p1 : Int32) (s : mx_G) : Option (Int32 × mx_G) :=
  if p1 = 0 then
    if ix 0 128 = true then
      some (s.1 46 (Int32.toNatClampNeg 0), s)
    else none
  else
  if p1 = 1 then
    mv_bind (fX11_linkMany 1 s) fun x1 s2 =>
    some (x1, s2)
  else
  if p1 = 2 then
    mv_bind (fX11_linkMany 37 s) fun x3 s4 =>
    some (x3, s4)
  else
  if p1 = 3 then
    mv_bind (fX11_chosenSet s) fun x5 s6 =>
    some (x5, s6)
  else
  if p1 = 4 then
    mv_bind (fX11_thinks s) fun _ s7 =>
    mv_bind (fX11_notContent s7) fun x8 s9 =>
    some (x8, s9)
  else
  if p1 = 5 then
    mv_bind (fX11_laysWays s) fun _ s10 =>
    some (s10.1 45 13, s10)
  else
  if p1 = 6 then
    mv_bind (fX11_stableTo (-4) s) fun x11 s12 =>
    some (x11, s12)
  else
  if p1 = 7 then
    some (s.1 45 2, s)
  else
  some ((-1), s)
def lX11_turnsInMind_4 (a1 : Int32) (k31 : mx_G → Option (Int32 × mx_G)) : Nat → Int32 → mx_G → Option (Int32 × mx_G)
  | 0, _, _ => none
  | n + 1, a2, s0 =>
    if ix 0 128 = true then
      if s0.1 46 (Int32.toNatClampNeg 0) ≤ a2 then
        k31 s0
      else
        mv_bind (fX11_wouldChoose a2 s0) fun x1 s2 =>
        if ix a2 6 = true then
          mv_let (gi s2 57 (Int32.toNatClampNeg a2) x1) fun s3 =>
          lX11_turnsInMind_4 a1 k31 n (a2 + 1) s3
        else none
    else none
def lX11_turnsInMind_33  : Nat → Int32 → Int32 → mx_G → Option (Int32 × mx_G)
  | 0, _, _, _ => none
  | n + 1, a1, a2, s0 =>
    if ix 0 128 = true then
      if s0.1 46 (Int32.toNatClampNeg 0) ≤ a2 then
        some (a1, s0)
      else
        if ix a2 6 = true then
          if ix a2 6 = true then
            mv_let (fun (q0_64 : Int32) (q1_64 : Int32) (s_64 : mx_G) =>
              mv_let (q1_64 + q0_64) fun x5 =>
              if ix a2 6 = true then
                if ix a2 6 = true then
                  mv_let (gi s_64 56 (Int32.toNatClampNeg a2) (s_64.1 57 (Int32.toNatClampNeg a2))) fun s6 =>
                  lX11_turnsInMind_33 n x5 (a2 + 1) s6
                else none
              else none
            ) fun J64 =>
            if s0.1 57 (Int32.toNatClampNeg a2) = s0.1 56 (Int32.toNatClampNeg a2) then
              J64 0 a1 s0
            else
              J64 1 a1 s0
          else none
        else none
    else none
def fX11_turnsInMind (s : mx_G) : Option (Int32 × mx_G) :=
  lX11_turnsInMind_4 0
    (fun s4 =>
      lX11_turnsInMind_33 
       FU 0 0 s4
    )
    FU 0 s
def lX11_bring_3_3 (a1 : Int32) (a3 : Int32) (a4 : Int32) : Nat → Int32 → mx_G → Option (Unit × mx_G)
  | 0, _, _ => none
  | n + 1, a5, s0 =>
    if a4 ≤ a5 then
      some ((), s0)
    else
      if ix (a1 + a5) 6 = true then
        if ix (a3 + a5) 128 = true then
          mv_let (gi s0 46 (Int32.toNatClampNeg (a3 + a5)) (s0.1 56 (Int32.toNatClampNeg (a1 + a5)))) fun s1 =>
          lX11_bring_3_3 a1 a3 a4 n (a5 + 1) s1
        else none
      else none
def fX11_bring_3 (p1 : Int32) (p3 : Int32) (p4 : Int32) (s : mx_G) : Option (Unit × mx_G) :=
  lX11_bring_3_3 p1 p3 p4
   FU 0 s
def fX11_turnsOnce (s : mx_G) : Option (Int32 × mx_G) :=
  mv_bind (fX11_thinks s) fun _ s1 =>
  mv_bind (fX11_turnsInMind s1) fun x2 s3 =>
  mv_bind (fX11_bring_3 0 121 6 s3) fun _ s4 =>
  some (x2, s4)
def fX11_turn (s : mx_G) : Option (Int32 × mx_G) :=
  mv_bind (fX11_thinks s) fun _ s1 =>
  mv_bind (fX11_notContent s1) fun x2 s3 =>
  if x2 = 0 then
    some (0, s3)
  else
    mv_bind (fX11_notes s3) fun _ s4 =>
    mv_bind (fX11_turnsOnce s4) fun x5 s6 =>
    some (x5, s6)
def fX11_choosesAnew (p1 : Int32) (s : mx_G) : Option (Int32 × mx_G) :=
  mv_bind (fX11_thinks s) fun _ s1 =>
  mv_bind (fX11_wouldChoose p1 s1) fun x2 s3 =>
  if ix (121 + p1) 128 = true then
    mv_let (fun (q0_28 : Int32) (s_28 : mx_G) =>
      if ix (121 + p1) 128 = true then
        mv_let (gi s_28 46 (Int32.toNatClampNeg (121 + p1)) x2) fun s4 =>
        some (q0_28, s4)
      else none
    ) fun J28 =>
    if x2 = s3.1 46 (Int32.toNatClampNeg (121 + p1)) then
      J28 0 s3
    else
      J28 1 s3
  else none
def fX11_choose (p1 : Int32) (s : mx_G) : Option (Int32 × mx_G) :=
  mv_bind (fX11_isDomain p1 s) fun x1 s2 =>
  if x1 = 0 then
    some ((-1), s2)
  else
    mv_bind (fX11_thinks s2) fun _ s3 =>
    mv_bind (fX11_wouldChoose p1 s3) fun x4 s5 =>
    if ix (121 + p1) 128 = true then
      if x4 = s5.1 46 (Int32.toNatClampNeg (121 + p1)) then
        some (0, s5)
      else
        mv_bind (fX11_notes s5) fun _ s6 =>
        mv_bind (fX11_choosesAnew p1 s6) fun x7 s8 =>
        some (x7, s8)
    else none
def lX11_rest_19  : Nat → Int32 → mx_G → Option (Int32 × mx_G)
  | 0, _, _ => none
  | n + 1, a1, s0 =>
    if 40 < a1 then
      some ((-4), s0)
    else
      mv_bind (fX11_turnsOnce s0) fun x5 s6 =>
      mv_bind (fX11_notContent s6) fun x7 s8 =>
      if x7 = 0 then
        some (a1, s8)
      else
        lX11_rest_19 n (a1 + 1) s8
def fX11_rest (s : mx_G) : Option (Int32 × mx_G) :=
  mv_bind (fX11_thinks s) fun _ s1 =>
  mv_bind (fX11_notContent s1) fun x2 s3 =>
  if x2 = 0 then
    some (0, s3)
  else
    mv_bind (fX11_notes s3) fun _ s4 =>
    lX11_rest_19 
     FU 1 s4
def lX11_clear_4 (k42 : Int32 → mx_G → Option (Int32 × mx_G)) : Nat → Int32 → Int32 → mx_G → Option (Int32 × mx_G)
  | 0, _, _, _ => none
  | n + 1, a1, a2, s0 =>
    if ix 0 128 = true then
      if s0.1 46 (Int32.toNatClampNeg 0) ≤ a2 then
        k42 a1 s0
      else
        if ix (121 + a2) 128 = true then
          if s0.1 46 (Int32.toNatClampNeg (121 + a2)) = (-4) then
            mv_let (a1 + 0) fun x1 =>
            lX11_clear_4 k42 n x1 (a2 + 1) s0
          else
            mv_let (a1 + 1) fun x2 =>
            lX11_clear_4 k42 n x2 (a2 + 1) s0
        else none
    else none
def lX11_clear_55 (a1 : Int32) : Nat → Int32 → mx_G → Option (Int32 × mx_G)
  | 0, _, _ => none
  | n + 1, a2, s0 =>
    if 6 ≤ a2 then
      some (a1, s0)
    else
      if ix (121 + a2) 128 = true then
        mv_let (gi s0 46 (Int32.toNatClampNeg (121 + a2)) (-4)) fun s6 =>
        lX11_clear_55 a1 n (a2 + 1) s6
      else none
def fX11_clear (s : mx_G) : Option (Int32 × mx_G) :=
  lX11_clear_4 
    (fun y4 s3 =>
      if y4 = 0 then
        some ((-2), s3)
      else
        mv_bind (fX11_notes s3) fun _ s5 =>
        lX11_clear_55 y4
         FU 1 s5
    )
    FU 0 1 s
def lX11_bring_4_3 (a1 : Int32) (a3 : Int32) (a4 : Int32) : Nat → Int32 → mx_G → Option (Unit × mx_G)
  | 0, _, _ => none
  | n + 1, a5, s0 =>
    if a4 ≤ a5 then
      some ((), s0)
    else
      if ix (a1 + a5) 6 = true then
        if ix (a3 + a5) 366 = true then
          mv_let (gi s0 58 (Int32.toNatClampNeg (a3 + a5)) (s0.1 56 (Int32.toNatClampNeg (a1 + a5)))) fun s1 =>
          lX11_bring_4_3 a1 a3 a4 n (a5 + 1) s1
        else none
      else none
def fX11_bring_4 (p1 : Int32) (p3 : Int32) (p4 : Int32) (s : mx_G) : Option (Unit × mx_G) :=
  lX11_bring_4_3 p1 p3 p4
   FU 0 s
def lX11_isAsBehind_4 (a1 : Int32) : Nat → Int32 → Int32 → mx_G → Option (Int32 × mx_G)
  | 0, _, _, _ => none
  | n + 1, a2, a3, s0 =>
    if 6 ≤ a3 then
      if a2 &&& 1 = a2 then some (a2, s0) else none
    else
      if a2 = 0 then
        lX11_isAsBehind_4 a1 n 0 (a3 + 1) s0
      else
        if ix ((6 * a1) + a3) 366 = true then
          if ix a3 6 = true then
            if s0.1 58 (Int32.toNatClampNeg ((6 * a1) + a3)) = s0.1 56 (Int32.toNatClampNeg a3) then
              lX11_isAsBehind_4 a1 n 1 (a3 + 1) s0
            else
              lX11_isAsBehind_4 a1 n 0 (a3 + 1) s0
          else none
        else none
def fX11_isAsBehind (p1 : Int32) (s : mx_G) : Option (Int32 × mx_G) :=
  lX11_isAsBehind_4 p1
   FU 1 0 s
def lX11_foreseen_48 (a1 : Int32) (a2 : Int32) (k61 : Int32 → mx_G → Option (Int32 × mx_G)) (k97 : mx_G → Option (Int32 × mx_G)) : Nat → Int32 → mx_G → Option (Int32 × mx_G)
  | 0, _, _ => none
  | n + 1, a3, s0 =>
    if a2 ≤ a3 then
      k97 s0
    else
      mv_bind (fX11_isAsBehind a3 s0) fun x7 s8 =>
      if x7 = 0 then
        lX11_foreseen_48 a1 a2 k61 k97 n (a3 + 1) s8
      else
        k61 a3 s8
def lX11_foreseen_35 (a1 : Int32) (k61 : Int32 → Int32 → mx_G → Option (Int32 × mx_G)) : Nat → Int32 → mx_G → Option (Int32 × mx_G)
  | 0, _, _ => none
  | n + 1, a2, s0 =>
    if 60 < a2 then
      some ((-4), s0)
    else
      mv_bind (fX11_turnsInMind s0) fun x5 s6 =>
      lX11_foreseen_48 a1 a2
        (fun y10 s9 =>
          k61 a2 y10 s9
        )
        (fun s11 =>
          mv_bind (fX11_bring_4 0 (6 * a2) 6 s11) fun _ s12 =>
          lX11_foreseen_35 a1 k61 n (a2 + 1) s12
        )
        FU 0 s6
def fX11_foreseen (p1 : Int32) (s : mx_G) : Option (Int32 × mx_G) :=
  mv_bind (fX11_in (Int32.toInt64 p1) 0 2 s) fun x1 s2 =>
  if x1 = 0 then
    some ((-1), s2)
  else
    mv_bind (fX11_thinks s2) fun _ s3 =>
    mv_bind (fX11_bring_4 0 0 6 s3) fun _ s4 =>
    lX11_foreseen_35 p1
      (fun y14 y15 s13 =>
        if p1 = 1 then
          some (y14 - y15, s13)
        else
          if p1 = 2 then
            some (y15, s13)
          else
            if y14 - y15 = 1 then
              some (y15, s13)
            else
              some ((-4), s13)
      )
      FU 1 s4
def fX11_stable (p1 : Int32) (p2 : Int32) (s : mx_G) : Option (Int32 × mx_G) :=
  if p1 < 0 then
    some ((-1), s)
  else
    mv_bind (fX11_isDomain p2 s) fun x1 s2 =>
    if x1 = 0 then
      some ((-1), s2)
    else
      mv_bind (fX11_stableTo p1 s2) fun x3 s4 =>
      if x3 = (-4) then
        some ((-2), s4)
      else
        if ix p2 6 = true then
          some (s4.1 56 (Int32.toNatClampNeg p2), s4)
        else none
def fX11_behind (p0 : Int32) (s : mx_G) : Option (Int32 × mx_G) :=
  mv_bind (fX11_figures p0 s) fun x1 s2 =>
  mv_bind (fX11_ten (x1 - 1) s2) fun x3 s4 =>
  if x3 = 0 then none else
  some (mv_rem p0 x3, s4)
def fX11_leadsTo (p1 : Int32) (p2 : Int32) (s : mx_G) : Option (Int32 × mx_G) :=
  if ix p2 326 = true then
    mv_let (s.1 55 (Int32.toNatClampNeg p2)) fun x1 =>
    if x1 = 0 then
      some (0, s)
    else
      if ix p2 326 = true then
        mv_bind (fX11_behind (s.1 54 (Int32.toNatClampNeg p2)) s) fun x2 s3 =>
        if ix p1 326 = true then
          if s3.1 54 (Int32.toNatClampNeg p1) = x2 then
            some (1, s3)
          else
            if ix p1 326 = true then
              if s3.1 55 (Int32.toNatClampNeg p1) = 0 then
                some (0, s3)
              else
                if ix p1 326 = true then
                  mv_bind (fX11_figure x2 0 s3) fun x4 s5 =>
                  if s3.1 55 (Int32.toNatClampNeg p1) = x4 then
                    if ix p1 326 = true then
                      if ix p1 326 = true then
                        mv_bind (fX11_isBetter (s5.1 55 (Int32.toNatClampNeg p1)) (s5.1 54 (Int32.toNatClampNeg p1)) x2 s5) fun x6 s7 =>
                        if x6 = 0 then
                          some (0, s7)
                        else
                          if ix p1 326 = true then
                            mv_bind (fX11_takes x1 (s7.1 54 (Int32.toNatClampNeg p1)) s7) fun x8 s9 =>
                            if x8 = 0 then
                              some (1, s9)
                            else
                              if ix p2 326 = true then
                                if ix p1 326 = true then
                                  mv_bind (fX11_together x1 (s9.1 54 (Int32.toNatClampNeg p1)) s9) fun x10 s11 =>
                                  mv_bind (fX11_isBetter x1 (s9.1 54 (Int32.toNatClampNeg p2)) x10 s11) fun x12 s13 =>
                                  if x12 = 0 then
                                    some (0, s13)
                                  else
                                    some (1, s13)
                                else none
                              else none
                          else none
                      else none
                    else none
                  else
                    some (0, s5)
                else none
            else none
        else none
      else none
  else none
def lX11_laysLeads_6 (k26 : mx_G → Option (Unit × mx_G)) : Nat → Int32 → mx_G → Option (Unit × mx_G)
  | 0, _, _ => none
  | n + 1, a1, s0 =>
    if 1956 ≤ a1 then
      k26 s0
    else
      if ix a1 1956 = true then
        mv_let (gl s0 60 (Int32.toNatClampNeg a1) 0) fun s2 =>
        lX11_laysLeads_6 k26 n (a1 + 1) s2
      else none
def lX11_laysLeads_38 (a1 : Int32) (k84 : mx_G → Option (Unit × mx_G)) : Nat → Int32 → mx_G → Option (Unit × mx_G)
  | 0, _, _ => none
  | n + 1, a2, s0 =>
    if s0.1 45 13 ≤ a2 then
      k84 s0
    else
      mv_bind (fX11_leadsTo a1 a2 s0) fun x4 s5 =>
      if x4 = 0 then
        lX11_laysLeads_38 a1 k84 n (a2 + 1) s5
      else
        if ix ((6 * a1) + (a2 / 64)) 1956 = true then
          if ix ((6 * a1) + (a2 / 64)) 1956 = true then
            mv_let (gl s5 60 (Int32.toNatClampNeg ((6 * a1) + (a2 / 64))) ((s5.2 60 (Int32.toNatClampNeg ((6 * a1) + (a2 / 64)))) ||| (mv_lshl 1 (mv_rem a2 64)))) fun s6 =>
            lX11_laysLeads_38 a1 k84 n (a2 + 1) s6
          else none
        else none
def lX11_laysLeads_28  : Nat → Int32 → mx_G → Option (Unit × mx_G)
  | 0, _, _ => none
  | n + 1, a1, s0 =>
    if s0.1 45 13 ≤ a1 then
      some ((), s0)
    else
      lX11_laysLeads_38 a1
        (fun s7 =>
          lX11_laysLeads_28 n (a1 + 1) s7
        )
        FU 0 s0
def fX11_laysLeads (s : mx_G) : Option (Unit × mx_G) :=
  mv_bind (fX11_laysWays s) fun _ s1 =>
  lX11_laysLeads_6 
    (fun s3 =>
      lX11_laysLeads_28 
       FU 0 s3
    )
    FU 0 s1
def fX11_isIn (p1 : Int32) (s : mx_G) : Option (Int32 × mx_G) :=
  if ix (p1 / 64) 6 = true then
    if lg_cmp ((mv_lshr (s.2 61 (Int32.toNatClampNeg (p1 / 64))) (mv_rem p1 64)) &&& 1) 1 = 0 then
      some (1, s)
    else
      some (0, s)
  else none
def lX11_movesOn_4 (a1 : Int32) (k23 : mx_G → Option (Int32 × mx_G)) : Nat → Int32 → mx_G → Option (Int32 × mx_G)
  | 0, _, _ => none
  | n + 1, a2, s0 =>
    if 6 ≤ a2 then
      k23 s0
    else
      if ix a2 6 = true then
        mv_let (gl s0 63 (Int32.toNatClampNeg a2) 0) fun s1 =>
        lX11_movesOn_4 a1 k23 n (a2 + 1) s1
      else none
def lX11_movesOn_35 (a1 : Int32) (a2 : Int32) (k78 : mx_G → Option (Int32 × mx_G)) : Nat → Int32 → mx_G → Option (Int32 × mx_G)
  | 0, _, _ => none
  | n + 1, a3, s0 =>
    if 6 ≤ a3 then
      k78 s0
    else
      mv_bind (fX11_isIn a2 s0) fun x3 s4 =>
      if x3 = 0 then
        k78 s4
      else
        if ix a3 6 = true then
          if ix ((6 * a2) + a3) 1956 = true then
            if ix a3 6 = true then
              mv_let (gl s4 63 (Int32.toNatClampNeg a3) ((s4.2 63 (Int32.toNatClampNeg a3)) ||| (s4.2 60 (Int32.toNatClampNeg ((6 * a2) + a3))))) fun s5 =>
              lX11_movesOn_35 a1 a2 k78 n (a3 + 1) s5
            else none
          else none
        else none
def lX11_movesOn_25 (a1 : Int32) (k84 : mx_G → Option (Int32 × mx_G)) : Nat → Int32 → mx_G → Option (Int32 × mx_G)
  | 0, _, _ => none
  | n + 1, a2, s0 =>
    if s0.1 45 13 ≤ a2 then
      k84 s0
    else
      lX11_movesOn_35 a1 a2
        (fun s6 =>
          lX11_movesOn_25 a1 k84 n (a2 + 1) s6
        )
        FU 0 s0
def lX11_movesOn_86  : Nat → Int32 → Int32 → mx_G → Option (Int32 × mx_G)
  | 0, _, _, _ => none
  | n + 1, a1, a2, s0 =>
    if 6 ≤ a2 then
      if a1 &&& 1 = a1 then some (a1, s0) else none
    else
      if ix a2 6 = true then
        if ix a2 6 = true then
          if ix a2 6 = true then
            mv_let (gl s0 61 (Int32.toNatClampNeg a2) ((s0.2 63 (Int32.toNatClampNeg a2)) &&& ((s0.2 62 (Int32.toNatClampNeg a2)) ^^^ (-1)))) fun s8 =>
            if ix a2 6 = true then
              if ix a2 6 = true then
                if ix a2 6 = true then
                  mv_let (gl s8 62 (Int32.toNatClampNeg a2) ((s8.2 62 (Int32.toNatClampNeg a2)) ||| (s8.2 63 (Int32.toNatClampNeg a2)))) fun s9 =>
                  if a1 = 0 then
                    if ix a2 6 = true then
                      if lg_cmp (s9.2 61 (Int32.toNatClampNeg a2)) 0 = 0 then
                        lX11_movesOn_86 n 0 (a2 + 1) s9
                      else
                        lX11_movesOn_86 n 1 (a2 + 1) s9
                    else none
                  else
                    lX11_movesOn_86 n 1 (a2 + 1) s9
                else none
              else none
            else none
          else none
        else none
      else none
def fX11_movesOn (s : mx_G) : Option (Int32 × mx_G) :=
  lX11_movesOn_4 0
    (fun s2 =>
      lX11_movesOn_25 0
        (fun s7 =>
          lX11_movesOn_86 
           FU 0 0 s7
        )
        FU 0 s2
    )
    FU 0 s
def fX11_isIn_1 (p1 : Int32) (s : mx_G) : Option (Int32 × mx_G) :=
  if ix (p1 / 64) 6 = true then
    if lg_cmp ((mv_lshr (s.2 62 (Int32.toNatClampNeg (p1 / 64))) (mv_rem p1 64)) &&& 1) 1 = 0 then
      some (1, s)
    else
      some (0, s)
  else none
def lX11_roundOf_2 (a1 : Int32) (k28 : mx_G → Option (Int32 × mx_G)) : Nat → Int32 → mx_G → Option (Int32 × mx_G)
  | 0, _, _ => none
  | n + 1, a2, s0 =>
    if 6 ≤ a2 then
      k28 s0
    else
      if ix a2 6 = true then
        mv_let (gl s0 61 (Int32.toNatClampNeg a2) 0) fun s1 =>
        if ix a2 6 = true then
          mv_let (gl s1 62 (Int32.toNatClampNeg a2) 0) fun s2 =>
          lX11_roundOf_2 a1 k28 n (a2 + 1) s2
        else none
      else none
def lX11_roundOf_47 (a1 : Int32) : Nat → Int32 → Int32 → mx_G → Option (Int32 × mx_G)
  | 0, _, _, _ => none
  | n + 1, a2, a3, s0 =>
    if a3 = 0 then
      some ((-4), s0)
    else
      mv_bind (fX11_movesOn s0) fun x5 s6 =>
      mv_bind (fX11_isIn_1 a1 s6) fun x7 s8 =>
      if x7 = 0 then
        lX11_roundOf_47 a1 n (a2 + 1) x5 s8
      else
        some (a2 + 1, s8)
def fX11_roundOf (p1 : Int32) (s : mx_G) : Option (Int32 × mx_G) :=
  lX11_roundOf_2 p1
    (fun s3 =>
      if ix (p1 / 64) 6 = true then
        mv_let (gl s3 61 (Int32.toNatClampNeg (p1 / 64)) (mv_lshl 1 (mv_rem p1 64))) fun s4 =>
        lX11_roundOf_47 p1
         FU 0 1 s4
      else none
    )
    FU 0 s
def lX11_ring_30 (a1 : Int32) (k109 : Int32 → Int32 → Int32 → mx_G → Option (Int32 × mx_G)) : Nat → Int32 → Int32 → Int32 → Int32 → mx_G → Option (Int32 × mx_G)
  | 0, _, _, _, _, _ => none
  | n + 1, a2, a3, a4, a5, s0 =>
    if s0.1 45 13 ≤ a5 then
      k109 a2 a3 a4 s0
    else
      mv_bind (fX11_roundOf a5 s0) fun x4 s5 =>
      if x4 ≤ 0 then
        lX11_ring_30 a1 k109 n a2 a3 a4 (a5 + 1) s5
      else
        mv_let (fun (q0_71 : Int32) (s_71 : mx_G) =>
          mv_let (fun (s_89 : mx_G) =>
            if ix a5 326 = true then
              mv_let (s_89.1 54 (Int32.toNatClampNeg a5)) fun x6 =>
              lX11_ring_30 a1 k109 n q0_71 (a3 + 1) x6 (a5 + 1) s_89
            else none
          ) fun J89 =>
          if a4 < 0 then
            J89 s_71
          else
            if ix a5 326 = true then
              if a4 ≤ s_71.1 54 (Int32.toNatClampNeg a5) then
                lX11_ring_30 a1 k109 n q0_71 (a3 + 1) a4 (a5 + 1) s_71
              else
                J89 s_71
            else none
        ) fun J71 =>
        mv_let (fun (s_65 : mx_G) =>
          J71 x4 s_65
        ) fun J65 =>
        if a2 < 0 then
          J65 s5
        else
          if a2 ≤ x4 then
            J71 a2 s5
          else
            J65 s5
def fX11_ring (p1 : Int32) (s : mx_G) : Option (Int32 × mx_G) :=
  mv_bind (fX11_in (Int32.toInt64 p1) 0 3 s) fun x1 s2 =>
  if x1 = 0 then
    some ((-1), s2)
  else
    mv_bind (fX11_laysLeads s2) fun _ s3 =>
    lX11_ring_30 p1
      (fun y8 y9 y10 s7 =>
        if p1 = 0 then
          if y9 ≤ 0 then
            some (0, s7)
          else
            some (1, s7)
        else
          if p1 = 1 then
            some (y8, s7)
          else
            if p1 = 2 then
              some (y9, s7)
            else
              some (y10, s7)
      )
      FU (-4) 0 (-4) 0 s3
def lX11_laysLinks_12 (a2 : Int32) (k57 : Int32 → mx_G → Option (Int32 × mx_G)) : Nat → Int32 → Int32 → mx_G → Option (Int32 × mx_G)
  | 0, _, _, _ => none
  | n + 1, a1, a3, s0 =>
    if a2 ≤ a3 then
      k57 a1 s0
    else
      mv_bind (fX11_areLinked a2 a3 s0) fun x1 s2 =>
      if x1 = 0 then
        lX11_laysLinks_12 a2 k57 n a1 (a3 + 1) s2
      else
        mv_bind (fX11_pair a2 a3 s2) fun x3 s4 =>
        if ix x3 36 = true then
          mv_let (gi s4 64 (Int32.toNatClampNeg x3) a1) fun s5 =>
          mv_bind (fX11_pair a3 a2 s5) fun x6 s7 =>
          if ix x6 36 = true then
            mv_let (gi s7 64 (Int32.toNatClampNeg x6) a1) fun s8 =>
            lX11_laysLinks_12 a2 k57 n (a1 + 1) (a3 + 1) s8
          else none
        else none
def lX11_laysLinks_4  : Nat → Int32 → Int32 → mx_G → Option (Int32 × mx_G)
  | 0, _, _, _ => none
  | n + 1, a1, a2, s0 =>
    if 6 ≤ a2 then
      some (a1, s0)
    else
      lX11_laysLinks_12 a2
        (fun y10 s9 =>
          lX11_laysLinks_4 n y10 (a2 + 1) s9
        )
        FU a1 0 s0
def fX11_laysLinks (s : mx_G) : Option (Int32 × mx_G) :=
  lX11_laysLinks_4 
   FU 0 0 s
def lX11_maskOf_4 (a1 : Int32) : Nat → Int32 → Int32 → mx_G → Option (Int32 × mx_G)
  | 0, _, _, _ => none
  | n + 1, a2, a3, s0 =>
    mv_bind (fX11_figures a1 s0) fun x1 s2 =>
    if x1 ≤ a3 then
      some (a2, s2)
    else
      mv_bind (fX11_figure a1 (a3 - 1) s2) fun x3 s4 =>
      mv_bind (fX11_figure a1 a3 s4) fun x5 s6 =>
      mv_bind (fX11_pair x3 x5 s6) fun x7 s8 =>
      if ix x7 36 = true then
        mv_let (a2 ||| (mv_shl 1 (s8.1 64 (Int32.toNatClampNeg x7)))) fun x9 =>
        lX11_maskOf_4 a1 n x9 (a3 + 1) s8
      else none
def fX11_maskOf (p1 : Int32) (s : mx_G) : Option (Int32 × mx_G) :=
  lX11_maskOf_4 p1
   FU 0 1 s
def lX11_bits_4  : Nat → Int32 → Int32 → mx_G → Option (Int32 × mx_G)
  | 0, _, _, _ => none
  | n + 1, a1, a2, s0 =>
    if a2 ≤ 0 then
      some (a1, s0)
    else
      mv_let (a2 &&& (a2 - 1)) fun x1 =>
      lX11_bits_4 n (a1 + 1) x1 s0
def fX11_bits (p0 : Int32) (s : mx_G) : Option (Int32 × mx_G) :=
  lX11_bits_4 
   FU 0 p0 s
def lX11_power_5 (a0 : Int64) (a2 : Int32) : Nat → Int64 → Int32 → mx_G → Option (Int64 × mx_G)
  | 0, _, _, _ => none
  | n + 1, a3, a5, s0 =>
    if a2 ≤ a5 then
      some (a3, s0)
    else
      mv_let (a3 * a0) fun x1 =>
      lX11_power_5 a0 a2 n x1 (a5 + 1) s0
def fX11_power (p0 : Int64) (p2 : Int32) (s : mx_G) : Option (Int64 × mx_G) :=
  lX11_power_5 p0 p2
   FU 1 0 s
def lX11_above_6 (a1 : Int32) (a2 : Int32) (a3 : Int32) (k53 : Int32 → mx_G → Option (Int64 × mx_G)) : Nat → Int32 → Int32 → mx_G → Option (Int64 × mx_G)
  | 0, _, _, _ => none
  | n + 1, a4, a5, s0 =>
    if s0.1 45 13 ≤ a5 then
      k53 a4 s0
    else
      if ix a5 326 = true then
        if s0.1 55 (Int32.toNatClampNeg a5) = a1 then
          if ix a5 326 = true then
            mv_bind (fX11_maskOf (s0.1 54 (Int32.toNatClampNeg a5)) s0) fun x1 s2 =>
            if ix a4 65 = true then
              mv_let (gi s2 65 (Int32.toNatClampNeg a4) x1) fun s3 =>
              lX11_above_6 a1 a2 a3 k53 n (a4 + 1) (a5 + 1) s3
            else none
          else none
        else
          lX11_above_6 a1 a2 a3 k53 n a4 (a5 + 1) s0
      else none
def lX11_above_73 (a2 : Int32) (a3 : Int32) (a4 : Int32) (a5 : Int64) (a7 : Int32) (k113 : Int32 → mx_G → Option (Int64 × mx_G)) : Nat → Int32 → Int32 → mx_G → Option (Int64 × mx_G)
  | 0, _, _, _ => none
  | n + 1, a8, a9, s0 =>
    if a4 ≤ a9 then
      k113 a8 s0
    else
      if a8 = 0 then
        if ix a9 65 = true then
          if (s0.1 65 (Int32.toNatClampNeg a9)) &&& (a7 ^^^ (-1)) = 0 then
            lX11_above_73 a2 a3 a4 a5 a7 k113 n 1 (a9 + 1) s0
          else
            lX11_above_73 a2 a3 a4 a5 a7 k113 n 0 (a9 + 1) s0
        else none
      else
        k113 a8 s0
def lX11_above_59 (a2 : Int32) (a3 : Int32) (a4 : Int32) : Nat → Int64 → Int32 → mx_G → Option (Int64 × mx_G)
  | 0, _, _, _ => none
  | n + 1, a5, a7, s0 =>
    if mv_shl 1 a3 ≤ a7 then
      some (a5, s0)
    else
      lX11_above_73 a2 a3 a4 a5 a7
        (fun y7 s6 =>
          if y7 = 0 then
            mv_let (a5 + 0) fun x8 =>
            lX11_above_59 a2 a3 a4 n x8 (a7 + 1) s6
          else
            mv_bind (fX11_bits a7 s6) fun x9 s10 =>
            mv_bind (fX11_power (10 - (Int32.toInt64 a2)) x9 s10) fun x11 s12 =>
            mv_bind (fX11_bits a7 s12) fun x13 s14 =>
            mv_bind (fX11_power (Int32.toInt64 a2) (a3 - x13) s14) fun x15 s16 =>
            mv_let (a5 + (x11 * x15)) fun x17 =>
            lX11_above_59 a2 a3 a4 n x17 (a7 + 1) s16
        )
        FU 0 0 s0
