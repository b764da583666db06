set_option maxRecDepth 100000 in
set_option maxHeartbeats 4000000 in
theorem wX11_way (l : Launch) (p1 : Int32) (p2 : Int32) (s : mx_G) : mf_M ei l yX11_way cX11_way 6 (some .int) 5 [.ref 45, .int p1, .int p2] s (fX11_way p1 p2 s) := by
  refine mf_intro rfl (Nat.le_of_ble_eq_true rfl) rfl rfl ?_
  refine mf_sub (loc' := [(0, .ref 45), (1, .int p1), (2, .int p2)]) [0, 1, 2] rfl ?_
  unfold fX11_way
  refine mf_aload_n dX11_way_0 rfl 0 rfl ?_
  refine mf_iload_n dX11_way_1 rfl 1 rfl ?_
  refine mf_callVi (stk := []) (wX11_isDomain l _ _) cl_X11_92 rfl (by decide) rfl rfl rfl (Nat.le_of_ble_eq_true rfl) rfl rfl dX11_way_2 (fun x1 s2 => ?_)
  refine mf_if_eq 12 dX11_way_5 (by decide) ?_ ?_
  · refine mf_iconst (-1) dX11_way_12 (by decide) ?_
    exact mf_iret dX11_way_13
  · refine mf_iload_n dX11_way_8 rfl 2 rfl ?_
    refine mf_if_ge 14 dX11_way_9 (by decide) ?_ ?_
    · refine mf_aload_n dX11_way_14 rfl 0 rfl ?_
      refine mf_callVv (stk := []) (wX11_laysWays l _) cl_X11_160 rfl (by decide) rfl rfl rfl (Nat.le_of_ble_eq_true rfl) rfl rfl dX11_way_15 (fun us3 s3 => ?_)
      refine mf_iconst 0 dX11_way_18 (by decide) ?_
      refine mf_istore_n [(3, .int 0), (0, .ref 45), (1, .int p1), (2, .int p2)] dX11_way_19 rfl (by decide) rfl ?_
      exact mf_sub [1, 2, 3, 0] rfl (wlX11_way_20 l _ _ FU _ _)
    · refine mf_iconst (-1) dX11_way_12 (by decide) ?_
      exact mf_iret dX11_way_13
set_option maxRecDepth 100000 in
set_option maxHeartbeats 4000000 in
theorem wlX11_isRow_35 (l : Launch)    : ∀ (n : Nat) (a2 : Int32) (a3 : Int32) (s0 : mx_G), mf_X ei l RX11 cX11_isRow 4 (some .boolean) "isRow" 1 (lX11_isRow_35   n a2 a3 s0) 35 [(0, .ref 45), (2, .int a2), (3, .int a3)] [] s0 := by
  intro n
  induction n with
  | zero => intro a2 a3 s0; exact mf_none
  | succ n ih35 =>
    intro a2 a3 s0
    rw [lX11_isRow_35]
    refine mf_iload_n dX11_isRow_35 rfl 2 rfl ?_
    refine mf_if_le 70 dX11_isRow_36 (by decide) ?_ ?_
    · refine mf_iload_n dX11_isRow_70 rfl 1 rfl ?_
      exact mf_zretG dX11_isRow_71
    · refine mf_iload_n dX11_isRow_39 rfl 1 rfl ?_
      refine mf_join (fun (J : mx_G → Option (Int32 × mx_G)) => ∀ (s_60 : mx_G), mf_X ei l RX11 cX11_isRow 4 (some .boolean) "isRow" 1 (J s_60) 60 [(0, .ref 45), (3, .int a3)] [] s_60) ?_ (fun J60 hJ60 => ?_)
      · intro s_60
        refine mf_iconst 0 dX11_isRow_60 (by decide) ?_
        refine mf_istore_n [(2, .int 0), (0, .ref 45), (3, .int a3)] dX11_isRow_61 rfl (by decide) rfl ?_
        refine mf_iload_n dX11_isRow_62 rfl 2 rfl ?_
        refine mf_bipush 10 dX11_isRow_63 (by decide) ?_
        refine mf_idiv (by decide) dX11_isRow_65 ?_
        refine mf_leti (fun x3 => ?_)
        refine mf_istore_n [(3, .int x3), (2, .int 0), (0, .ref 45)] dX11_isRow_66 rfl (by decide) rfl ?_
        refine mf_goto 35 dX11_isRow_67 (by decide) ?_
        exact mf_sub [2, 1, 0] rfl (ih35 _ _ _)
      refine mf_if_eq 60 dX11_isRow_40 (by decide) ?_ ?_
      · exact mf_sub [0, 2] rfl (hJ60 _)
      · refine mf_iload_n dX11_isRow_43 rfl 2 rfl ?_
        refine mf_bipush 10 dX11_isRow_44 (by decide) ?_
        refine mf_irem (by decide) dX11_isRow_46 ?_
        refine mf_aload_n dX11_isRow_47 rfl 0 rfl ?_
        refine mf_getR fl_X11_7 rfl rfl dX11_isRow_48 ?_
        refine mf_iconst 0 dX11_isRow_51 (by decide) ?_
        refine mf_iald rfl dX11_isRow_52 ?_
        refine mf_icmp_ge 60 dX11_isRow_53 (by decide) ?_ ?_
        · exact mf_sub [0, 2] rfl (hJ60 _)
        · refine mf_iconst 1 dX11_isRow_56 (by decide) ?_
          refine mf_goto 61 dX11_isRow_57 (by decide) ?_
          refine mf_istore_n [(2, .int 1), (0, .ref 45), (3, .int a3)] dX11_isRow_61 rfl (by decide) rfl ?_
          refine mf_iload_n dX11_isRow_62 rfl 2 rfl ?_
          refine mf_bipush 10 dX11_isRow_63 (by decide) ?_
          refine mf_idiv (by decide) dX11_isRow_65 ?_
          refine mf_leti (fun x4 => ?_)
          refine mf_istore_n [(3, .int x4), (2, .int 1), (0, .ref 45)] dX11_isRow_66 rfl (by decide) rfl ?_
          refine mf_goto 35 dX11_isRow_67 (by decide) ?_
          exact mf_sub [2, 1, 0] rfl (ih35 _ _ _)
set_option maxRecDepth 100000 in
set_option maxHeartbeats 4000000 in
theorem wX11_isRow (l : Launch) (p1 : Int32) (s : mx_G) : mf_M ei l yX11_isRow cX11_isRow 4 (some .boolean) 1 [.ref 45, .int p1] s (fX11_isRow p1 s) := by
  refine mf_intro rfl (Nat.le_of_ble_eq_true rfl) rfl rfl ?_
  refine mf_sub (loc' := [(0, .ref 45), (1, .int p1)]) [0, 1] rfl ?_
  unfold fX11_isRow
  refine mf_iload_n dX11_isRow_0 rfl 1 rfl ?_
  refine mf_i2l dX11_isRow_1 ?_
  refine mf_lconst 0 dX11_isRow_2 (by decide) ?_
  refine mf_ldc2 kl_X11_166 dX11_isRow_3 ?_
  refine mf_callSi (stk := []) (wX11_in l _ _ _ _) cl_X11_88 rfl (by decide) rfl (Nat.le_of_ble_eq_true rfl) rfl rfl dX11_isRow_6 (fun x1 s2 => ?_)
  refine mf_join (fun (J : Int32 → mx_G → Option (Int32 × mx_G)) => ∀ (q0_24 : Int32) (s_24 : mx_G), mf_X ei l RX11 cX11_isRow 4 (some .boolean) "isRow" 1 (J q0_24 s_24) 24 [(0, .ref 45), (1, .int p1)] [.int q0_24] s_24) ?_ (fun J24 hJ24 => ?_)
  · intro q0_24 s_24
    refine mf_istore_n [(2, .int q0_24), (0, .ref 45), (1, .int p1)] dX11_isRow_24 rfl (by decide) rfl ?_
    refine mf_iload_n dX11_isRow_25 rfl 0 rfl ?_
    refine mf_join (fun (J : Int32 → mx_G → Option (Int32 × mx_G)) => ∀ (q0_34 : Int32) (s_34 : mx_G), mf_X ei l RX11 cX11_isRow 4 (some .boolean) "isRow" 1 (J q0_34 s_34) 34 [(0, .ref 45), (2, .int q0_24)] [.int q0_34] s_34) ?_ (fun J34 hJ34 => ?_)
    · intro q0_34 s_34
      refine mf_istore_n [(3, .int q0_34), (0, .ref 45), (2, .int q0_24)] dX11_isRow_34 rfl (by decide) rfl ?_
      exact mf_sub [1, 2, 0] rfl (wlX11_isRow_35 l FU _ _ _)
    refine mf_if_eq 33 dX11_isRow_26 (by decide) ?_ ?_
    · refine mf_iconst 0 dX11_isRow_33 (by decide) ?_
      exact mf_sub [1, 0] rfl (hJ34 _ _)
    · refine mf_iload_n dX11_isRow_29 rfl 2 rfl ?_
      refine mf_goto 34 dX11_isRow_30 (by decide) ?_
      exact mf_sub [1, 0] rfl (hJ34 _ _)
  refine mf_join (fun (J : mx_G → Option (Int32 × mx_G)) => ∀ (s_23 : mx_G), mf_X ei l RX11 cX11_isRow 4 (some .boolean) "isRow" 1 (J s_23) 23 [(0, .ref 45), (1, .int p1)] [] s_23) ?_ (fun J23 hJ23 => ?_)
  · intro s_23
    refine mf_iconst 0 dX11_isRow_23 (by decide) ?_
    exact mf_sub [0, 1] rfl (hJ24 _ _)
  refine mf_if_eq 23 dX11_isRow_9 (by decide) ?_ ?_
  · exact mf_sub [0, 1] rfl (hJ23 _)
  · refine mf_iload_n dX11_isRow_12 rfl 1 rfl ?_
    refine mf_bipush 10 dX11_isRow_13 (by decide) ?_
    refine mf_irem (by decide) dX11_isRow_15 ?_
    refine mf_if_ne 23 dX11_isRow_16 (by decide) ?_ ?_
    · refine mf_iconst 1 dX11_isRow_19 (by decide) ?_
      refine mf_goto 24 dX11_isRow_20 (by decide) ?_
      exact mf_sub [0, 1] rfl (hJ24 _ _)
    · exact mf_sub [0, 1] rfl (hJ23 _)
set_option maxRecDepth 100000 in
set_option maxHeartbeats 4000000 in
theorem wlX11_whyAt_42 (l : Launch) (a1 : Int32) (a3 : Int32) (a4 : Int32) (a5 : Int32) (a6 : Int32) (k70 : Int32 → mx_G → Option (Int32 × mx_G)) (hk70 : ∀ (b7 : Int32) (sz : mx_G), mf_X ei l RX11 cX11_whyAt 9 (some .int) "whyAt" 3 (k70 b7 sz) 70 [(0, .ref 45), (3, .int a3), (4, .int a4), (5, .int a5), (6, .int a6), (7, .int b7)] [] sz) : ∀ (n : Nat) (a7 : Int32) (a8 : Int32) (s0 : mx_G), mf_X ei l RX11 cX11_whyAt 9 (some .int) "whyAt" 3 (lX11_whyAt_42 a1 a3 a4 a5 a6 k70 n a7 a8 s0) 42 [(0, .ref 45), (1, .int a1), (3, .int a3), (4, .int a4), (5, .int a5), (6, .int a6), (7, .int a7), (8, .int a8)] [] s0 := by
  intro n
  induction n with
  | zero => intro a7 a8 s0; exact mf_none
  | succ n ih42 =>
    intro a7 a8 s0
    rw [lX11_whyAt_42]
    refine mf_iload dX11_whyAt_42 7 rfl ?_
    refine mf_iload_n dX11_whyAt_44 rfl 1 rfl ?_
    refine mf_callSi (stk := [.int a8]) (wX11_figures l _ _) cl_X11_125 rfl (by decide) rfl (Nat.le_of_ble_eq_true rfl) rfl rfl dX11_whyAt_45 (fun x12 s13 => ?_)
    refine mf_icmp_ge 70 dX11_whyAt_48 (by decide) ?_ ?_
    · exact mf_sub [0, 2, 3, 4, 5, 6] rfl (hk70 _ _)
    · refine mf_iload dX11_whyAt_51 6 rfl ?_
      refine mf_iconst 1 dX11_whyAt_53 (by decide) ?_
      refine mf_iload_n dX11_whyAt_54 rfl 1 rfl ?_
      refine mf_iload dX11_whyAt_55 7 rfl ?_
      refine mf_callSi (stk := [.int 1, .int a7]) (wX11_figure l _ _ _) cl_X11_135 rfl (by decide) rfl (Nat.le_of_ble_eq_true rfl) rfl rfl dX11_whyAt_57 (fun x14 s15 => ?_)
      refine mf_ishl dX11_whyAt_60 ?_
      refine mf_ior dX11_whyAt_61 ?_
      refine mf_leti (fun x16 => ?_)
      refine mf_istore [(7, .int x16), (0, .ref 45), (1, .int a1), (3, .int a3), (4, .int a4), (5, .int a5), (6, .int a6), (8, .int a8)] dX11_whyAt_62 (by decide) rfl ?_
      refine mf_iinc 1 [(8, .int (a8 + 1)), (7, .int x16), (0, .ref 45), (1, .int a1), (3, .int a3), (4, .int a4), (5, .int a5), (6, .int a6)] dX11_whyAt_64 7 rfl (by decide) (by decide) rfl ?_
      refine mf_goto 42 dX11_whyAt_67 (by decide) ?_
      exact mf_sub [2, 3, 4, 5, 6, 7, 1, 0] rfl (ih42 _ _ _)
set_option maxRecDepth 100000 in
set_option maxHeartbeats 4000000 in
theorem wX11_whyAt (l : Launch) (p1 : Int32) (p2 : Int32) (s : mx_G) : mf_M ei l yX11_whyAt cX11_whyAt 9 (some .int) 3 [.ref 45, .int p1, .int p2] s (fX11_whyAt p1 p2 s) := by
  refine mf_intro rfl (Nat.le_of_ble_eq_true rfl) rfl rfl ?_
  refine mf_sub (loc' := [(0, .ref 45), (1, .int p1), (2, .int p2)]) [0, 1, 2] rfl ?_
  unfold fX11_whyAt
  refine mf_iload_n dX11_whyAt_0 rfl 1 rfl ?_
  refine mf_iload_n dX11_whyAt_1 rfl 2 rfl ?_
  refine mf_callSi (stk := []) (wX11_figure l _ _ _) cl_X11_135 rfl (by decide) rfl (Nat.le_of_ble_eq_true rfl) rfl rfl dX11_whyAt_2 (fun x1 s2 => ?_)
  refine mf_istore_n [(3, .int x1), (0, .ref 45), (1, .int p1), (2, .int p2)] dX11_whyAt_5 rfl (by decide) rfl ?_
  refine mf_iload_n dX11_whyAt_6 rfl 2 rfl ?_
  refine mf_iload_n dX11_whyAt_7 rfl 3 rfl ?_
  refine mf_iconst 1 dX11_whyAt_8 (by decide) ?_
  refine mf_iadd dX11_whyAt_9 ?_
  refine mf_callSi (stk := []) (wX11_figure l _ _ _) cl_X11_135 rfl (by decide) rfl (Nat.le_of_ble_eq_true rfl) rfl rfl dX11_whyAt_10 (fun x3 s4 => ?_)
  refine mf_istore [(4, .int x3), (3, .int x1), (0, .ref 45), (1, .int p1), (2, .int p2)] dX11_whyAt_13 (by decide) rfl ?_
  refine mf_iload_n dX11_whyAt_15 rfl 3 rfl ?_
  refine mf_callSi (stk := []) (wX11_figures l _ _) cl_X11_125 rfl (by decide) rfl (Nat.le_of_ble_eq_true rfl) rfl rfl dX11_whyAt_16 (fun x5 s6 => ?_)
  refine mf_iload_n dX11_whyAt_19 rfl 4 rfl ?_
  refine mf_isub dX11_whyAt_20 ?_
  refine mf_iconst 1 dX11_whyAt_21 (by decide) ?_
  refine mf_isub dX11_whyAt_22 ?_
  refine mf_leti (fun x7 => ?_)
  refine mf_istore [(5, .int x7), (4, .int x3), (3, .int x1), (0, .ref 45), (1, .int p1), (2, .int p2)] dX11_whyAt_23 (by decide) rfl ?_
  refine mf_iload_n dX11_whyAt_25 rfl 4 rfl ?_
  refine mf_iload dX11_whyAt_26 0 rfl ?_
  refine mf_callSi (stk := [.int p1]) (wX11_ten l _ _) cl_X11_129 rfl (by decide) rfl (Nat.le_of_ble_eq_true rfl) rfl rfl dX11_whyAt_28 (fun x8 s9 => ?_)
  refine mf_iremG dX11_whyAt_31 ?_
  refine mf_leti (fun x10 => ?_)
  refine mf_istore [(6, .int x10), (5, .int x7), (4, .int x3), (3, .int x1), (0, .ref 45), (1, .int p1), (2, .int p2)] dX11_whyAt_32 (by decide) rfl ?_
  refine mf_iconst 0 dX11_whyAt_34 (by decide) ?_
  refine mf_istore [(7, .int 0), (6, .int x10), (5, .int x7), (4, .int x3), (3, .int x1), (0, .ref 45), (1, .int p1), (2, .int p2)] dX11_whyAt_35 (by decide) rfl ?_
  refine mf_iload_n dX11_whyAt_37 rfl 7 rfl ?_
  refine mf_iconst 1 dX11_whyAt_38 (by decide) ?_
  refine mf_iadd dX11_whyAt_39 ?_
  refine mf_leti (fun x11 => ?_)
  refine mf_istore [(8, .int x11), (7, .int 0), (6, .int x10), (5, .int x7), (4, .int x3), (3, .int x1), (0, .ref 45), (1, .int p1), (2, .int p2)] dX11_whyAt_40 (by decide) rfl ?_
  refine mf_sub [6, 7, 5, 4, 3, 2, 1, 0] rfl (wlX11_whyAt_42 l _ _ _ _ _ _ (fun y18 s17 => ?_) FU _ _ _)
  refine mf_iload_n dX11_whyAt_70 rfl 1 rfl ?_
  refine mf_iload dX11_whyAt_71 2 rfl ?_
  refine mf_icmp_eq 86 dX11_whyAt_73 (by decide) ?_ ?_
  · refine mf_iconst 1 dX11_whyAt_86 (by decide) ?_
    exact mf_iret dX11_whyAt_87
  · refine mf_aload_n dX11_whyAt_76 rfl 0 rfl ?_
    refine mf_iload_n dX11_whyAt_77 rfl 1 rfl ?_
    refine mf_iload dX11_whyAt_78 2 rfl ?_
    refine mf_callVi (stk := []) (wX11_areLinked l _ _ _) cl_X11_141 rfl (by decide) rfl rfl rfl (Nat.le_of_ble_eq_true rfl) rfl rfl dX11_whyAt_80 (fun x19 s20 => ?_)
    refine mf_if_ne 88 dX11_whyAt_83 (by decide) ?_ ?_
    · refine mf_iconst 1 dX11_whyAt_86 (by decide) ?_
      exact mf_iret dX11_whyAt_87
    · refine mf_iload dX11_whyAt_88 5 rfl ?_
      refine mf_iload_n dX11_whyAt_90 rfl 1 rfl ?_
      refine mf_callSi (stk := []) (wX11_has l _ _ _) cl_X11_118 rfl (by decide) rfl (Nat.le_of_ble_eq_true rfl) rfl rfl dX11_whyAt_91 (fun x21 s22 => ?_)
      refine mf_if_eq 99 dX11_whyAt_94 (by decide) ?_ ?_
      · refine mf_aload_n dX11_whyAt_99 rfl 0 rfl ?_
        refine mf_getR fl_X11_7 rfl rfl dX11_whyAt_100 ?_
        refine mf_bipush 115 dX11_whyAt_103 (by decide) ?_
        refine mf_iload_n dX11_whyAt_105 rfl 1 rfl ?_
        refine mf_iadd dX11_whyAt_106 ?_
        refine mf_iald rfl dX11_whyAt_107 ?_
        refine mf_iload dX11_whyAt_108 5 rfl ?_
        refine mf_iand dX11_whyAt_110 ?_
        refine mf_if_eq 116 dX11_whyAt_111 (by decide) ?_ ?_
        · refine mf_aload_n dX11_whyAt_116 rfl 0 rfl ?_
          refine mf_iload dX11_whyAt_117 2 rfl ?_
          refine mf_iload_n dX11_whyAt_119 rfl 1 rfl ?_
          refine mf_iload dX11_whyAt_120 3 rfl ?_
          refine mf_iconst 1 dX11_whyAt_122 (by decide) ?_
          refine mf_icmp_ne 130 dX11_whyAt_123 (by decide) ?_ ?_
          · refine mf_iconst (-1) dX11_whyAt_126 (by decide) ?_
            refine mf_goto 143 dX11_whyAt_127 (by decide) ?_
            refine mf_callVi (stk := []) (wX11_lets l _ _ _ _) cl_X11_147 rfl (by decide) rfl rfl rfl (Nat.le_of_ble_eq_true rfl) rfl rfl dX11_whyAt_143 (fun x27 s28 => ?_)
            refine mf_if_eq 153 dX11_whyAt_146 (by decide) ?_ ?_
            · refine mf_iconst 4 dX11_whyAt_153 (by decide) ?_
              exact mf_iret dX11_whyAt_154
            · refine mf_iconst 0 dX11_whyAt_149 (by decide) ?_
              refine mf_goto 154 dX11_whyAt_150 (by decide) ?_
              exact mf_iret dX11_whyAt_154
          · refine mf_iload dX11_whyAt_130 4 rfl ?_
            refine mf_iload dX11_whyAt_132 3 rfl ?_
            refine mf_iconst 2 dX11_whyAt_134 (by decide) ?_
            refine mf_isub dX11_whyAt_135 ?_
            refine mf_callSi (stk := [.int x10, .int x1, .int x3, .ref 45]) (wX11_ten l _ _) cl_X11_129 rfl (by decide) rfl (Nat.le_of_ble_eq_true rfl) rfl rfl dX11_whyAt_136 (fun x23 s24 => ?_)
            refine mf_idivG dX11_whyAt_139 ?_
            refine mf_bipush 10 dX11_whyAt_140 (by decide) ?_
            refine mf_irem (by decide) dX11_whyAt_142 ?_
            refine mf_callVi (stk := []) (wX11_lets l _ _ _ _) cl_X11_147 rfl (by decide) rfl rfl rfl (Nat.le_of_ble_eq_true rfl) rfl rfl dX11_whyAt_143 (fun x25 s26 => ?_)
            refine mf_if_eq 153 dX11_whyAt_146 (by decide) ?_ ?_
            · refine mf_iconst 4 dX11_whyAt_153 (by decide) ?_
              exact mf_iret dX11_whyAt_154
            · refine mf_iconst 0 dX11_whyAt_149 (by decide) ?_
              refine mf_goto 154 dX11_whyAt_150 (by decide) ?_
              exact mf_iret dX11_whyAt_154
        · refine mf_iconst 3 dX11_whyAt_114 (by decide) ?_
          exact mf_iret dX11_whyAt_115
      · refine mf_iconst 2 dX11_whyAt_97 (by decide) ?_
        exact mf_iret dX11_whyAt_98
set_option maxRecDepth 100000 in
set_option maxHeartbeats 4000000 in
theorem wlX11_why_17 (l : Launch) (a1 : Int32) (k32 : Int32 → Int32 → mx_G → Option (Int32 × mx_G)) (hk32 : ∀ (b2 : Int32) (b3 : Int32) (sz : mx_G), mf_X ei l RX11 cX11_why 4 (some .int) "why" 4 (k32 b2 b3 sz) 32 [(1, .int a1), (2, .int b2), (3, .int b3)] [] sz) : ∀ (n : Nat) (a2 : Int32) (s0 : mx_G), mf_X ei l RX11 cX11_why 4 (some .int) "why" 4 (lX11_why_17 a1 k32 n a2 s0) 17 [(0, .ref 45), (1, .int a1), (2, .int a2)] [] s0 := by
  intro n
  induction n with
  | zero => intro a2 s0; exact mf_none
  | succ n ih17 =>
    intro a2 s0
    rw [lX11_why_17]
    refine mf_iload_n dX11_why_17 rfl 2 rfl ?_
    refine mf_if_lt 54 dX11_why_18 (by decide) ?_ ?_
    · refine mf_iconst 0 dX11_why_54 (by decide) ?_
      exact mf_iret dX11_why_55
    · refine mf_aload_n dX11_why_21 rfl 0 rfl ?_
      refine mf_iload_n dX11_why_22 rfl 1 rfl ?_
      refine mf_iload_n dX11_why_23 rfl 2 rfl ?_
      refine mf_callVi (stk := []) (wX11_whyAt l _ _ _) cl_X11_171 rfl (by decide) rfl rfl rfl (Nat.le_of_ble_eq_true rfl) rfl rfl dX11_why_24 (fun x6 s7 => ?_)
      refine mf_istore_n [(3, .int x6), (0, .ref 45), (1, .int a1), (2, .int a2)] dX11_why_27 rfl (by decide) rfl ?_
      refine mf_iload_n dX11_why_28 rfl 0 rfl ?_
      refine mf_if_le 48 dX11_why_29 (by decide) ?_ ?_
      · refine mf_iinc (-1) [(2, .int (a2 + (-1))), (3, .int x6), (0, .ref 45), (1, .int a1)] dX11_why_48 3 rfl (by decide) (by decide) rfl ?_
        refine mf_goto 17 dX11_why_51 (by decide) ?_
        exact mf_sub [2, 3, 0] rfl (ih17 _ _)
      · exact mf_sub [2, 3, 0] rfl (hk32 _ _ _)
set_option maxRecDepth 100000 in
set_option maxHeartbeats 4000000 in
theorem wX11_why (l : Launch) (p1 : Int32) (s : mx_G) : mf_M ei l yX11_why cX11_why 4 (some .int) 4 [.ref 45, .int p1] s (fX11_why p1 s) := by
  refine mf_intro rfl (Nat.le_of_ble_eq_true rfl) rfl rfl ?_
  refine mf_sub (loc' := [(0, .ref 45), (1, .int p1)]) [0, 1] rfl ?_
  unfold fX11_why
  refine mf_aload_n dX11_why_0 rfl 0 rfl ?_
  refine mf_iload_n dX11_why_1 rfl 1 rfl ?_
  refine mf_callVi (stk := []) (wX11_isRow l _ _) cl_X11_168 rfl (by decide) rfl rfl rfl (Nat.le_of_ble_eq_true rfl) rfl rfl dX11_why_2 (fun x1 s2 => ?_)
  refine mf_if_ne 10 dX11_why_5 (by decide) ?_ ?_
  · refine mf_iconst (-1) dX11_why_8 (by decide) ?_
    exact mf_iret dX11_why_9
  · refine mf_iload_n dX11_why_10 rfl 1 rfl ?_
    refine mf_callSi (stk := []) (wX11_figures l _ _) cl_X11_125 rfl (by decide) rfl (Nat.le_of_ble_eq_true rfl) rfl rfl dX11_why_11 (fun x3 s4 => ?_)
    refine mf_iconst 2 dX11_why_14 (by decide) ?_
    refine mf_isub dX11_why_15 ?_
    refine mf_leti (fun x5 => ?_)
    refine mf_istore_n [(2, .int x5), (0, .ref 45), (1, .int p1)] dX11_why_16 rfl (by decide) rfl ?_
    refine mf_sub [1, 2, 0] rfl (wlX11_why_17 l _ _ (fun y9 y10 s8 => ?_) FU _ _)
    refine mf_bipush 100 dX11_why_32 (by decide) ?_
    refine mf_iload_n dX11_why_34 rfl 2 rfl ?_
    refine mf_imul dX11_why_35 ?_
    refine mf_bipush 10 dX11_why_36 (by decide) ?_
    refine mf_iload_n dX11_why_38 rfl 0 rfl ?_
    refine mf_iload_n dX11_why_39 rfl 1 rfl ?_
    refine mf_callSi (stk := [.int 10, .int (100 * y10)]) (wX11_figure l _ _ _) cl_X11_135 rfl (by decide) rfl (Nat.le_of_ble_eq_true rfl) rfl rfl dX11_why_40 (fun x11 s12 => ?_)
    refine mf_imul dX11_why_43 ?_
    refine mf_iadd dX11_why_44 ?_
    refine mf_iload_n dX11_why_45 rfl 1 rfl ?_
    refine mf_iadd dX11_why_46 ?_
    exact mf_iret dX11_why_47
set_option maxRecDepth 100000 in
set_option maxHeartbeats 4000000 in
theorem wlX11_permittedTo_4 (l : Launch) (a1 : Int32)   : ∀ (n : Nat) (a2 : Int32) (a3 : Int32) (s0 : mx_G), mf_X ei l RX11 cX11_permittedTo 4 (some .int) "permittedTo" 0 (lX11_permittedTo_4 a1  n a2 a3 s0) 4 [(0, .ref 45), (1, .int a1), (2, .int a2), (3, .int a3)] [] s0 := by
  intro n
  induction n with
  | zero => intro a2 a3 s0; exact mf_none
  | succ n ih4 =>
    intro a2 a3 s0
    rw [lX11_permittedTo_4]
    refine mf_iload_n dX11_permittedTo_4 rfl 3 rfl ?_
    refine mf_aload_n dX11_permittedTo_5 rfl 0 rfl ?_
    refine mf_getI fl_X11_151 rfl rfl dX11_permittedTo_6 ?_
    refine mf_icmp_ge 36 dX11_permittedTo_9 (by decide) ?_ ?_
    · refine mf_iload_n dX11_permittedTo_36 rfl 2 rfl ?_
      exact mf_iret dX11_permittedTo_37
    · refine mf_iload_n dX11_permittedTo_12 rfl 2 rfl ?_
      refine mf_aload_n dX11_permittedTo_13 rfl 0 rfl ?_
      refine mf_getR fl_X11_42 rfl rfl dX11_permittedTo_14 ?_
      refine mf_iload_n dX11_permittedTo_17 rfl 3 rfl ?_
      refine mf_iald rfl dX11_permittedTo_18 ?_
      refine mf_iload_n dX11_permittedTo_19 rfl 1 rfl ?_
      refine mf_icmp_ne 27 dX11_permittedTo_20 (by decide) ?_ ?_
      · refine mf_iconst 1 dX11_permittedTo_23 (by decide) ?_
        refine mf_goto 28 dX11_permittedTo_24 (by decide) ?_
        refine mf_iadd dX11_permittedTo_28 ?_
        refine mf_leti (fun x2 => ?_)
        refine mf_istore_n [(2, .int x2), (0, .ref 45), (1, .int a1), (3, .int a3)] dX11_permittedTo_29 rfl (by decide) rfl ?_
        refine mf_iinc 1 [(3, .int (a3 + 1)), (2, .int x2), (0, .ref 45), (1, .int a1)] dX11_permittedTo_30 3 rfl (by decide) (by decide) rfl ?_
        refine mf_goto 4 dX11_permittedTo_33 (by decide) ?_
        exact mf_sub [2, 3, 1, 0] rfl (ih4 _ _ _)
      · refine mf_iconst 0 dX11_permittedTo_27 (by decide) ?_
        refine mf_iadd dX11_permittedTo_28 ?_
        refine mf_leti (fun x1 => ?_)
        refine mf_istore_n [(2, .int x1), (0, .ref 45), (1, .int a1), (3, .int a3)] dX11_permittedTo_29 rfl (by decide) rfl ?_
        refine mf_iinc 1 [(3, .int (a3 + 1)), (2, .int x1), (0, .ref 45), (1, .int a1)] dX11_permittedTo_30 3 rfl (by decide) (by decide) rfl ?_
        refine mf_goto 4 dX11_permittedTo_33 (by decide) ?_
        exact mf_sub [2, 3, 1, 0] rfl (ih4 _ _ _)
set_option maxRecDepth 100000 in
set_option maxHeartbeats 4000000 in
theorem wX11_permittedTo (l : Launch) (p1 : Int32) (s : mx_G) : mf_M ei l yX11_permittedTo cX11_permittedTo 4 (some .int) 0 [.ref 45, .int p1] s (fX11_permittedTo p1 s) := by
  refine mf_intro rfl (Nat.le_of_ble_eq_true rfl) rfl rfl ?_
  refine mf_sub (loc' := [(0, .ref 45), (1, .int p1)]) [0, 1] rfl ?_
  unfold fX11_permittedTo
  refine mf_iconst 0 dX11_permittedTo_0 (by decide) ?_
  refine mf_istore_n [(2, .int 0), (0, .ref 45), (1, .int p1)] dX11_permittedTo_1 rfl (by decide) rfl ?_
  refine mf_iconst 0 dX11_permittedTo_2 (by decide) ?_
  refine mf_istore_n [(3, .int 0), (2, .int 0), (0, .ref 45), (1, .int p1)] dX11_permittedTo_3 rfl (by decide) rfl ?_
  exact mf_sub [2, 3, 1, 0] rfl (wlX11_permittedTo_4 l _ FU _ _ _)
set_option maxRecDepth 100000 in
set_option maxHeartbeats 4000000 in
theorem wlX11_bring_2_3 (l : Launch) (a1 : Int32) (a3 : Int32) (a4 : Int32)   : ∀ (n : Nat) (a5 : Int32) (s0 : mx_G), mf_X ev l RX11 cX11_bring 6 none "bring" 0 (lX11_bring_2_3 a1 a3 a4  n a5 s0) 3 [(0, .ref 46), (1, .int a1), (2, .ref 56), (3, .int a3), (4, .int a4), (5, .int a5)] [] s0 := by
  intro n
  induction n with
  | zero => intro a5 s0; exact mf_none
  | succ n ih3 =>
    intro a5 s0
    rw [lX11_bring_2_3]
    refine mf_iload dX11_bring_3 5 rfl ?_
    refine mf_iload dX11_bring_5 4 rfl ?_
    refine mf_icmp_ge 28 dX11_bring_7 (by decide) ?_ ?_
    · exact mf_vret dX11_bring_28
    · refine mf_aload_n dX11_bring_10 rfl 2 rfl ?_
      refine mf_iload_n dX11_bring_11 rfl 3 rfl ?_
      refine mf_iload dX11_bring_12 5 rfl ?_
      refine mf_iadd dX11_bring_14 ?_
      refine mf_aload_n dX11_bring_15 rfl 0 rfl ?_
      refine mf_iload_n dX11_bring_16 rfl 1 rfl ?_
      refine mf_iload dX11_bring_17 5 rfl ?_
      refine mf_iadd dX11_bring_19 ?_
      refine mf_iald rfl dX11_bring_20 ?_
      refine mf_iast rfl dX11_bring_21 (fun s1 => ?_)
      refine mf_iinc 1 [(5, .int (a5 + 1)), (0, .ref 46), (1, .int a1), (2, .ref 56), (3, .int a3), (4, .int a4)] dX11_bring_22 5 rfl (by decide) (by decide) rfl ?_
      refine mf_goto 3 dX11_bring_25 (by decide) ?_
      exact mf_sub [1, 2, 3, 4, 5, 0] rfl (ih3 _ _)
set_option maxRecDepth 100000 in
set_option maxHeartbeats 4000000 in
theorem wX11_bring_2 (l : Launch) (p1 : Int32) (p3 : Int32) (p4 : Int32) (s : mx_G) : mf_M ev l yX11_bring cX11_bring 6 none 0 [.ref 46, .int p1, .ref 56, .int p3, .int p4] s (fX11_bring_2 p1 p3 p4 s) := by
  refine mf_intro rfl (Nat.le_of_ble_eq_true rfl) rfl rfl ?_
  refine mf_sub (loc' := [(0, .ref 46), (1, .int p1), (2, .ref 56), (3, .int p3), (4, .int p4)]) [0, 1, 2, 3, 4] rfl ?_
  unfold fX11_bring_2
  refine mf_iconst 0 dX11_bring_0 (by decide) ?_
  refine mf_istore [(5, .int 0), (0, .ref 46), (1, .int p1), (2, .ref 56), (3, .int p3), (4, .int p4)] dX11_bring_1 (by decide) rfl ?_
  exact mf_sub [1, 2, 3, 4, 5, 0] rfl (wlX11_bring_2_3 l _ _ _ FU _ _)
set_option maxRecDepth 100000 in
set_option maxHeartbeats 4000000 in
theorem wX11_thinks (l : Launch) (s : mx_G) : mf_M ev l yX11_thinks cX11_thinks 1 none 1 [.ref 45] s (fX11_thinks  s) := by
  refine mf_intro rfl (Nat.le_of_ble_eq_true rfl) rfl rfl ?_
  refine mf_sub (loc' := [(0, .ref 45)]) [0] rfl ?_
  unfold fX11_thinks
  refine mf_aload_n dX11_thinks_0 rfl 0 rfl ?_
  refine mf_getR fl_X11_7 rfl rfl dX11_thinks_1 ?_
  refine mf_bipush 121 dX11_thinks_4 (by decide) ?_
  refine mf_aload_n dX11_thinks_6 rfl 0 rfl ?_
  refine mf_getR fl_X11_45 rfl rfl dX11_thinks_7 ?_
  refine mf_iconst 0 dX11_thinks_10 (by decide) ?_
  refine mf_bipush 6 dX11_thinks_11 (by decide) ?_
  refine mf_callSv (stk := []) (wX11_bring_2 l _ _ _ _) cl_X11_84 rfl (by decide) rfl (Nat.le_of_ble_eq_true rfl) rfl rfl dX11_thinks_13 (fun us1 s1 => ?_)
  exact mf_vret dX11_thinks_16
set_option maxRecDepth 100000 in
set_option maxHeartbeats 4000000 in
theorem wlX11_wouldChoose_13 (l : Launch) (a1 : Int32)   : ∀ (n : Nat) (a2 : Int32) (a3 : Int32) (s0 : mx_G), mf_X ei l RX11 cX11_wouldChoose 5 (some .int) "wouldChoose" 4 (lX11_wouldChoose_13 a1  n a2 a3 s0) 13 [(0, .ref 45), (1, .int a1), (2, .int a2), (3, .int a3)] [] s0 := by
  intro n
  induction n with
  | zero => intro a2 a3 s0; exact mf_none
  | succ n ih13 =>
    intro a2 a3 s0
    rw [lX11_wouldChoose_13]
    refine mf_iload_n dX11_wouldChoose_13 rfl 3 rfl ?_
    refine mf_aload_n dX11_wouldChoose_14 rfl 0 rfl ?_
    refine mf_getR fl_X11_7 rfl rfl dX11_wouldChoose_15 ?_
    refine mf_iconst 0 dX11_wouldChoose_18 (by decide) ?_
    refine mf_iald rfl dX11_wouldChoose_19 ?_
    refine mf_icmp_ge 99 dX11_wouldChoose_20 (by decide) ?_ ?_
    · refine mf_iload_n dX11_wouldChoose_99 rfl 2 rfl ?_
      exact mf_iret dX11_wouldChoose_100
    · refine mf_iload_n dX11_wouldChoose_23 rfl 1 rfl ?_
      refine mf_if_le 99 dX11_wouldChoose_24 (by decide) ?_ ?_
      · refine mf_iload_n dX11_wouldChoose_99 rfl 2 rfl ?_
        exact mf_iret dX11_wouldChoose_100
      · refine mf_iload_n dX11_wouldChoose_27 rfl 3 rfl ?_
        refine mf_iload_n dX11_wouldChoose_28 rfl 1 rfl ?_
        refine mf_icmp_eq 93 dX11_wouldChoose_29 (by decide) ?_ ?_
        · refine mf_iinc 1 [(3, .int (a3 + 1)), (0, .ref 45), (1, .int a1), (2, .int a2)] dX11_wouldChoose_93 3 rfl (by decide) (by decide) rfl ?_
          refine mf_goto 13 dX11_wouldChoose_96 (by decide) ?_
          exact mf_sub [1, 2, 3, 0] rfl (ih13 _ _ _)
        · refine mf_aload_n dX11_wouldChoose_32 rfl 0 rfl ?_
          refine mf_getR fl_X11_45 rfl rfl dX11_wouldChoose_33 ?_
          refine mf_iload_n dX11_wouldChoose_36 rfl 3 rfl ?_
          refine mf_iald rfl dX11_wouldChoose_37 ?_
          refine mf_bipush (-4) dX11_wouldChoose_38 (by decide) ?_
          refine mf_icmp_eq 93 dX11_wouldChoose_40 (by decide) ?_ ?_
          · refine mf_iinc 1 [(3, .int (a3 + 1)), (0, .ref 45), (1, .int a1), (2, .int a2)] dX11_wouldChoose_93 3 rfl (by decide) (by decide) rfl ?_
            refine mf_goto 13 dX11_wouldChoose_96 (by decide) ?_
            exact mf_sub [1, 2, 3, 0] rfl (ih13 _ _ _)
          · refine mf_aload_n dX11_wouldChoose_43 rfl 0 rfl ?_
            refine mf_iload_n dX11_wouldChoose_44 rfl 1 rfl ?_
            refine mf_aload_n dX11_wouldChoose_45 rfl 0 rfl ?_
            refine mf_getR fl_X11_45 rfl rfl dX11_wouldChoose_46 ?_
            refine mf_iload_n dX11_wouldChoose_49 rfl 3 rfl ?_
            refine mf_iald rfl dX11_wouldChoose_50 ?_
            refine mf_callVi (stk := []) (wX11_takes l _ _ _) cl_X11_154 rfl (by decide) rfl rfl rfl (Nat.le_of_ble_eq_true rfl) rfl rfl dX11_wouldChoose_51 (fun x1 s2 => ?_)
            refine mf_if_eq 93 dX11_wouldChoose_54 (by decide) ?_ ?_
            · refine mf_iinc 1 [(3, .int (a3 + 1)), (0, .ref 45), (1, .int a1), (2, .int a2)] dX11_wouldChoose_93 3 rfl (by decide) (by decide) rfl ?_
              refine mf_goto 13 dX11_wouldChoose_96 (by decide) ?_
              exact mf_sub [1, 2, 3, 0] rfl (ih13 _ _ _)
            · refine mf_iload_n dX11_wouldChoose_57 rfl 1 rfl ?_
              refine mf_aload_n dX11_wouldChoose_58 rfl 0 rfl ?_
              refine mf_getR fl_X11_45 rfl rfl dX11_wouldChoose_59 ?_
              refine mf_iload_n dX11_wouldChoose_62 rfl 3 rfl ?_
              refine mf_iald rfl dX11_wouldChoose_63 ?_
              refine mf_callSi (stk := []) (wX11_together l _ _ _) cl_X11_157 rfl (by decide) rfl (Nat.le_of_ble_eq_true rfl) rfl rfl dX11_wouldChoose_64 (fun x3 s4 => ?_)
              refine mf_istore [(4, .int x3), (0, .ref 45), (1, .int a1), (2, .int a2), (3, .int a3)] dX11_wouldChoose_67 (by decide) rfl ?_
              refine mf_iload_n dX11_wouldChoose_69 rfl 3 rfl ?_
              refine mf_bipush (-4) dX11_wouldChoose_70 (by decide) ?_
              refine mf_icmp_eq 86 dX11_wouldChoose_72 (by decide) ?_ ?_
              · refine mf_iload dX11_wouldChoose_86 0 rfl ?_
                refine mf_goto 92 dX11_wouldChoose_88 (by decide) ?_
                refine mf_istore_n [(2, .int x3), (4, .int x3), (0, .ref 45), (1, .int a1), (3, .int a3)] dX11_wouldChoose_92 rfl (by decide) rfl ?_
                refine mf_iinc 1 [(3, .int (a3 + 1)), (2, .int x3), (4, .int x3), (0, .ref 45), (1, .int a1)] dX11_wouldChoose_93 4 rfl (by decide) (by decide) rfl ?_
                refine mf_goto 13 dX11_wouldChoose_96 (by decide) ?_
                exact mf_sub [3, 4, 1, 0] rfl (ih13 _ _ _)
              · refine mf_aload_n dX11_wouldChoose_75 rfl 1 rfl ?_
                refine mf_iload_n dX11_wouldChoose_76 rfl 2 rfl ?_
                refine mf_iload dX11_wouldChoose_77 0 rfl ?_
                refine mf_iload_n dX11_wouldChoose_79 rfl 3 rfl ?_
                refine mf_callVi (stk := []) (wX11_isBetter l _ _ _ _) cl_X11_163 rfl (by decide) rfl rfl rfl (Nat.le_of_ble_eq_true rfl) rfl rfl dX11_wouldChoose_80 (fun x5 s6 => ?_)
                refine mf_if_eq 91 dX11_wouldChoose_83 (by decide) ?_ ?_
                · refine mf_iload_n dX11_wouldChoose_91 rfl 3 rfl ?_
                  refine mf_istore_n [(2, .int a2), (4, .int x3), (0, .ref 45), (1, .int a1), (3, .int a3)] dX11_wouldChoose_92 rfl (by decide) rfl ?_
                  refine mf_iinc 1 [(3, .int (a3 + 1)), (2, .int a2), (4, .int x3), (0, .ref 45), (1, .int a1)] dX11_wouldChoose_93 4 rfl (by decide) (by decide) rfl ?_
                  refine mf_goto 13 dX11_wouldChoose_96 (by decide) ?_
                  exact mf_sub [3, 4, 1, 0] rfl (ih13 _ _ _)
                · refine mf_iload dX11_wouldChoose_86 0 rfl ?_
                  refine mf_goto 92 dX11_wouldChoose_88 (by decide) ?_
                  refine mf_istore_n [(2, .int x3), (4, .int x3), (0, .ref 45), (1, .int a1), (3, .int a3)] dX11_wouldChoose_92 rfl (by decide) rfl ?_
                  refine mf_iinc 1 [(3, .int (a3 + 1)), (2, .int x3), (4, .int x3), (0, .ref 45), (1, .int a1)] dX11_wouldChoose_93 4 rfl (by decide) (by decide) rfl ?_
                  refine mf_goto 13 dX11_wouldChoose_96 (by decide) ?_
                  exact mf_sub [3, 4, 1, 0] rfl (ih13 _ _ _)
set_option maxRecDepth 100000 in
set_option maxHeartbeats 4000000 in
theorem wX11_wouldChoose (l : Launch) (p1 : Int32) (s : mx_G) : mf_M ei l yX11_wouldChoose cX11_wouldChoose 5 (some .int) 4 [.ref 45, .int p1] s (fX11_wouldChoose p1 s) := by
  refine mf_intro rfl (Nat.le_of_ble_eq_true rfl) rfl rfl ?_
  refine mf_sub (loc' := [(0, .ref 45), (1, .int p1)]) [0, 1] rfl ?_
  unfold fX11_wouldChoose
  refine mf_iload_n dX11_wouldChoose_0 rfl 1 rfl ?_
  refine mf_join (fun (J : Int32 → mx_G → Option (Int32 × mx_G)) => ∀ (q0_10 : Int32) (s_10 : mx_G), mf_X ei l RX11 cX11_wouldChoose 5 (some .int) "wouldChoose" 4 (J q0_10 s_10) 10 [(0, .ref 45), (1, .int p1)] [.int q0_10] s_10) ?_ (fun J10 hJ10 => ?_)
  · intro q0_10 s_10
    refine mf_istore_n [(2, .int q0_10), (0, .ref 45), (1, .int p1)] dX11_wouldChoose_10 rfl (by decide) rfl ?_
    refine mf_iconst 0 dX11_wouldChoose_11 (by decide) ?_
    refine mf_istore_n [(3, .int 0), (2, .int q0_10), (0, .ref 45), (1, .int p1)] dX11_wouldChoose_12 rfl (by decide) rfl ?_
    exact mf_sub [2, 3, 1, 0] rfl (wlX11_wouldChoose_13 l _ FU _ _ _)
  refine mf_if_ne 8 dX11_wouldChoose_1 (by decide) ?_ ?_
  · refine mf_iconst 0 dX11_wouldChoose_4 (by decide) ?_
    refine mf_goto 10 dX11_wouldChoose_5 (by decide) ?_
    exact mf_sub [0, 1] rfl (hJ10 _ _)
  · refine mf_bipush (-4) dX11_wouldChoose_8 (by decide) ?_
    exact mf_sub [0, 1] rfl (hJ10 _ _)
set_option maxRecDepth 100000 in
set_option maxHeartbeats 4000000 in
theorem wX11_own (l : Launch) (p1 : Int32) (p2 : Int32) (s : mx_G) : mf_M ei l yX11_own cX11_own 3 (some .int) 5 [.ref 45, .int p1, .int p2] s (fX11_own p1 p2 s) := by
  refine mf_intro rfl (Nat.le_of_ble_eq_true rfl) rfl rfl ?_
  refine mf_sub (loc' := [(0, .ref 45), (1, .int p1), (2, .int p2)]) [0, 1, 2] rfl ?_
  unfold fX11_own
  refine mf_aload_n dX11_own_0 rfl 0 rfl ?_
  refine mf_iload_n dX11_own_1 rfl 1 rfl ?_
  refine mf_callVi (stk := []) (wX11_isDomain l _ _) cl_X11_92 rfl (by decide) rfl rfl rfl (Nat.le_of_ble_eq_true rfl) rfl rfl dX11_own_2 (fun x1 s2 => ?_)
  refine mf_if_ne 10 dX11_own_5 (by decide) ?_ ?_
  · refine mf_iconst (-1) dX11_own_8 (by decide) ?_
    exact mf_iret dX11_own_9
  · refine mf_iload_n dX11_own_10 rfl 2 rfl ?_
    refine mf_if (fun c0 => mf_tabIn (off := 33) 44 dX11_own_11 c0 (by decide) (by decide) (by decide) (by decide) ?_) (fun c0 => ?_)
    · refine mf_aload_n dX11_own_44 rfl 0 rfl ?_
      refine mf_getR fl_X11_7 rfl rfl dX11_own_45 ?_
      refine mf_bipush 109 dX11_own_48 (by decide) ?_
      refine mf_iload_n dX11_own_50 rfl 1 rfl ?_
      refine mf_iadd dX11_own_51 ?_
      refine mf_iald rfl dX11_own_52 ?_
      exact mf_iret dX11_own_53
    refine mf_if (fun c1 => mf_tabIn (off := 43) 54 dX11_own_11 c1 (by decide) (by decide) (by decide) (by decide) ?_) (fun c1 => ?_)
    · refine mf_aload_n dX11_own_54 rfl 0 rfl ?_
      refine mf_getR fl_X11_7 rfl rfl dX11_own_55 ?_
      refine mf_bipush 115 dX11_own_58 (by decide) ?_
      refine mf_iload_n dX11_own_60 rfl 1 rfl ?_
      refine mf_iadd dX11_own_61 ?_
      refine mf_iald rfl dX11_own_62 ?_
      exact mf_iret dX11_own_63
    refine mf_if (fun c2 => mf_tabIn (off := 53) 64 dX11_own_11 c2 (by decide) (by decide) (by decide) (by decide) ?_) (fun c2 => ?_)
    · refine mf_aload_n dX11_own_64 rfl 0 rfl ?_
      refine mf_callVv (stk := []) (wX11_laysWays l _) cl_X11_160 rfl (by decide) rfl rfl rfl (Nat.le_of_ble_eq_true rfl) rfl rfl dX11_own_65 (fun us3 s3 => ?_)
      refine mf_aload_n dX11_own_68 rfl 0 rfl ?_
      refine mf_iload_n dX11_own_69 rfl 1 rfl ?_
      refine mf_callVi (stk := []) (wX11_permittedTo l _ _) cl_X11_184 rfl (by decide) rfl rfl rfl (Nat.le_of_ble_eq_true rfl) rfl rfl dX11_own_70 (fun x4 s5 => ?_)
      exact mf_iret dX11_own_73
    refine mf_if (fun c3 => mf_tabIn (off := 63) 74 dX11_own_11 c3 (by decide) (by decide) (by decide) (by decide) ?_) (fun c3 => ?_)
    · refine mf_aload_n dX11_own_74 rfl 0 rfl ?_
      refine mf_getR fl_X11_7 rfl rfl dX11_own_75 ?_
      refine mf_bipush 121 dX11_own_78 (by decide) ?_
      refine mf_iload_n dX11_own_80 rfl 1 rfl ?_
      refine mf_iadd dX11_own_81 ?_
      refine mf_iald rfl dX11_own_82 ?_
      exact mf_iret dX11_own_83
    refine mf_if (fun c4 => mf_tabIn (off := 73) 84 dX11_own_11 c4 (by decide) (by decide) (by decide) (by decide) ?_) (fun c4 => ?_)
    · refine mf_aload_n dX11_own_84 rfl 0 rfl ?_
      refine mf_callVv (stk := []) (wX11_thinks l _) cl_X11_177 rfl (by decide) rfl rfl rfl (Nat.le_of_ble_eq_true rfl) rfl rfl dX11_own_85 (fun us6 s6 => ?_)
      refine mf_aload_n dX11_own_88 rfl 0 rfl ?_
      refine mf_iload_n dX11_own_89 rfl 1 rfl ?_
      refine mf_callVi (stk := []) (wX11_wouldChoose l _ _) cl_X11_174 rfl (by decide) rfl rfl rfl (Nat.le_of_ble_eq_true rfl) rfl rfl dX11_own_90 (fun x7 s8 => ?_)
      exact mf_iret dX11_own_93
    refine mf_tabOut 94 dX11_own_11 (fun j hj => by rcases (show j = 0 ∨ j = 1 ∨ j = 2 ∨ j = 3 ∨ j = 4 by omega) with rfl | rfl | rfl | rfl | rfl <;> assumption) (by decide) ?_
    refine mf_iconst (-1) dX11_own_94 (by decide) ?_
    exact mf_iret dX11_own_95
set_option maxRecDepth 100000 in
set_option maxHeartbeats 4000000 in
theorem wlX11_linkMany_13 (l : Launch) (a1 : Int32) (a3 : Int32) (k49 : Int32 → mx_G → Option (Int32 × mx_G)) (hk49 : ∀ (b2 : Int32) (sz : mx_G), mf_X ei l RX11 cX11_linkMany 5 (some .int) "linkMany" 1 (k49 b2 sz) 49 [(0, .ref 45), (1, .int a1), (2, .int b2), (3, .int a3)] [] sz) : ∀ (n : Nat) (a2 : Int32) (a4 : Int32) (s0 : mx_G), mf_X ei l RX11 cX11_linkMany 5 (some .int) "linkMany" 1 (lX11_linkMany_13 a1 a3 k49 n a2 a4 s0) 13 [(0, .ref 45), (1, .int a1), (2, .int a2), (3, .int a3), (4, .int a4)] [] s0 := by
  intro n
  induction n with
  | zero => intro a2 a4 s0; exact mf_none
  | succ n ih13 =>
    intro a2 a4 s0
    rw [lX11_linkMany_13]
    refine mf_iload dX11_linkMany_13 4 rfl ?_
    refine mf_iload_n dX11_linkMany_15 rfl 3 rfl ?_
    refine mf_icmp_ge 49 dX11_linkMany_16 (by decide) ?_ ?_
    · exact mf_sub [0, 1, 2, 3] rfl (hk49 _ _)
    · refine mf_iload_n dX11_linkMany_19 rfl 2 rfl ?_
      refine mf_aload_n dX11_linkMany_20 rfl 0 rfl ?_
      refine mf_getR fl_X11_7 rfl rfl dX11_linkMany_21 ?_
      refine mf_iload_n dX11_linkMany_24 rfl 1 rfl ?_
      refine mf_iload_n dX11_linkMany_25 rfl 3 rfl ?_
      refine mf_iload dX11_linkMany_26 4 rfl ?_
      refine mf_callSi (stk := [.int a1, .ref 46, .int a2]) (wX11_pair l _ _ _) cl_X11_96 rfl (by decide) rfl (Nat.le_of_ble_eq_true rfl) rfl rfl dX11_linkMany_28 (fun x1 s2 => ?_)
      refine mf_iadd dX11_linkMany_31 ?_
      refine mf_iald rfl dX11_linkMany_32 ?_
      refine mf_if_le 40 dX11_linkMany_33 (by decide) ?_ ?_
      · refine mf_iconst 0 dX11_linkMany_40 (by decide) ?_
        refine mf_iadd dX11_linkMany_41 ?_
        refine mf_leti (fun x3 => ?_)
        refine mf_istore_n [(2, .int x3), (0, .ref 45), (1, .int a1), (3, .int a3), (4, .int a4)] dX11_linkMany_42 rfl (by decide) rfl ?_
        refine mf_iinc 1 [(4, .int (a4 + 1)), (2, .int x3), (0, .ref 45), (1, .int a1), (3, .int a3)] dX11_linkMany_43 4 rfl (by decide) (by decide) rfl ?_
        refine mf_goto 13 dX11_linkMany_46 (by decide) ?_
        exact mf_sub [2, 3, 1, 4, 0] rfl (ih13 _ _ _)
      · refine mf_iconst 1 dX11_linkMany_36 (by decide) ?_
        refine mf_goto 41 dX11_linkMany_37 (by decide) ?_
        refine mf_iadd dX11_linkMany_41 ?_
        refine mf_leti (fun x4 => ?_)
        refine mf_istore_n [(2, .int x4), (0, .ref 45), (1, .int a1), (3, .int a3), (4, .int a4)] dX11_linkMany_42 rfl (by decide) rfl ?_
        refine mf_iinc 1 [(4, .int (a4 + 1)), (2, .int x4), (0, .ref 45), (1, .int a1), (3, .int a3)] dX11_linkMany_43 4 rfl (by decide) (by decide) rfl ?_
        refine mf_goto 13 dX11_linkMany_46 (by decide) ?_
        exact mf_sub [2, 3, 1, 4, 0] rfl (ih13 _ _ _)
set_option maxRecDepth 100000 in
set_option maxHeartbeats 4000000 in
theorem wlX11_linkMany_4 (l : Launch) (a1 : Int32)   : ∀ (n : Nat) (a2 : Int32) (a3 : Int32) (s0 : mx_G), mf_X ei l RX11 cX11_linkMany 5 (some .int) "linkMany" 1 (lX11_linkMany_4 a1  n a2 a3 s0) 4 [(0, .ref 45), (1, .int a1), (2, .int a2), (3, .int a3)] [] s0 := by
  intro n
  induction n with
  | zero => intro a2 a3 s0; exact mf_none
  | succ n ih4 =>
    intro a2 a3 s0
    rw [lX11_linkMany_4]
    refine mf_iload_n dX11_linkMany_4 rfl 3 rfl ?_
    refine mf_bipush 6 dX11_linkMany_5 (by decide) ?_
    refine mf_icmp_ge 55 dX11_linkMany_7 (by decide) ?_ ?_
    · refine mf_iload_n dX11_linkMany_55 rfl 2 rfl ?_
      exact mf_iret dX11_linkMany_56
    · refine mf_iconst 0 dX11_linkMany_10 (by decide) ?_
      refine mf_istore [(4, .int 0), (0, .ref 45), (1, .int a1), (2, .int a2), (3, .int a3)] dX11_linkMany_11 (by decide) rfl ?_
      refine mf_sub [1, 2, 3, 4, 0] rfl (wlX11_linkMany_13 l _ _ _ (fun y6 s5 => ?_) FU _ _ _)
      refine mf_iinc 1 [(3, .int (a3 + 1)), (0, .ref 45), (1, .int a1), (2, .int y6)] dX11_linkMany_49 3 rfl (by decide) (by decide) rfl ?_
      refine mf_goto 4 dX11_linkMany_52 (by decide) ?_
      exact mf_sub [1, 2, 3, 0] rfl (ih4 _ _ _)
set_option maxRecDepth 100000 in
set_option maxHeartbeats 4000000 in
theorem wX11_linkMany (l : Launch) (p1 : Int32) (s : mx_G) : mf_M ei l yX11_linkMany cX11_linkMany 5 (some .int) 1 [.ref 45, .int p1] s (fX11_linkMany p1 s) := by
  refine mf_intro rfl (Nat.le_of_ble_eq_true rfl) rfl rfl ?_
  refine mf_sub (loc' := [(0, .ref 45), (1, .int p1)]) [0, 1] rfl ?_
  unfold fX11_linkMany
  refine mf_iconst 0 dX11_linkMany_0 (by decide) ?_
  refine mf_istore_n [(2, .int 0), (0, .ref 45), (1, .int p1)] dX11_linkMany_1 rfl (by decide) rfl ?_
  refine mf_iconst 0 dX11_linkMany_2 (by decide) ?_
  refine mf_istore_n [(3, .int 0), (2, .int 0), (0, .ref 45), (1, .int p1)] dX11_linkMany_3 rfl (by decide) rfl ?_
  exact mf_sub [2, 3, 1, 0] rfl (wlX11_linkMany_4 l _ FU _ _ _)
set_option maxRecDepth 100000 in
set_option maxHeartbeats 4000000 in
theorem wlX11_chosenSet_4 (l : Launch)    : ∀ (n : Nat) (a1 : Int32) (a2 : Int32) (s0 : mx_G), mf_X ei l RX11 cX11_chosenSet 3 (some .int) "chosenSet" 0 (lX11_chosenSet_4   n a1 a2 s0) 4 [(0, .ref 45), (1, .int a1), (2, .int a2)] [] s0 := by
  intro n
  induction n with
  | zero => intro a1 a2 s0; exact mf_none
  | succ n ih4 =>
    intro a1 a2 s0
    rw [lX11_chosenSet_4]
    refine mf_iload_n dX11_chosenSet_4 rfl 2 rfl ?_
    refine mf_aload_n dX11_chosenSet_5 rfl 0 rfl ?_
    refine mf_getR fl_X11_7 rfl rfl dX11_chosenSet_6 ?_
    refine mf_iconst 0 dX11_chosenSet_9 (by decide) ?_
    refine mf_iald rfl dX11_chosenSet_10 ?_
    refine mf_icmp_ge 44 dX11_chosenSet_11 (by decide) ?_ ?_
    · refine mf_iload_n dX11_chosenSet_44 rfl 1 rfl ?_
      exact mf_iret dX11_chosenSet_45
    · refine mf_iload_n dX11_chosenSet_14 rfl 1 rfl ?_
      refine mf_aload_n dX11_chosenSet_15 rfl 0 rfl ?_
      refine mf_getR fl_X11_7 rfl rfl dX11_chosenSet_16 ?_
      refine mf_bipush 121 dX11_chosenSet_19 (by decide) ?_
      refine mf_iload_n dX11_chosenSet_21 rfl 2 rfl ?_
      refine mf_iadd dX11_chosenSet_22 ?_
      refine mf_iald rfl dX11_chosenSet_23 ?_
      refine mf_bipush (-4) dX11_chosenSet_24 (by decide) ?_
      refine mf_icmp_eq 35 dX11_chosenSet_26 (by decide) ?_ ?_
      · refine mf_iconst 0 dX11_chosenSet_35 (by decide) ?_
        refine mf_ior dX11_chosenSet_36 ?_
        refine mf_leti (fun x1 => ?_)
        refine mf_istore_n [(1, .int x1), (0, .ref 45), (2, .int a2)] dX11_chosenSet_37 rfl (by decide) rfl ?_
        refine mf_iinc 1 [(2, .int (a2 + 1)), (1, .int x1), (0, .ref 45)] dX11_chosenSet_38 2 rfl (by decide) (by decide) rfl ?_
        refine mf_goto 4 dX11_chosenSet_41 (by decide) ?_
        exact mf_sub [2, 1, 0] rfl (ih4 _ _ _)
      · refine mf_iconst 1 dX11_chosenSet_29 (by decide) ?_
        refine mf_iload_n dX11_chosenSet_30 rfl 2 rfl ?_
        refine mf_ishl dX11_chosenSet_31 ?_
        refine mf_goto 36 dX11_chosenSet_32 (by decide) ?_
        refine mf_ior dX11_chosenSet_36 ?_
        refine mf_leti (fun x2 => ?_)
        refine mf_istore_n [(1, .int x2), (0, .ref 45), (2, .int a2)] dX11_chosenSet_37 rfl (by decide) rfl ?_
        refine mf_iinc 1 [(2, .int (a2 + 1)), (1, .int x2), (0, .ref 45)] dX11_chosenSet_38 2 rfl (by decide) (by decide) rfl ?_
        refine mf_goto 4 dX11_chosenSet_41 (by decide) ?_
        exact mf_sub [2, 1, 0] rfl (ih4 _ _ _)
set_option maxRecDepth 100000 in
set_option maxHeartbeats 4000000 in
theorem wX11_chosenSet (l : Launch) (s : mx_G) : mf_M ei l yX11_chosenSet cX11_chosenSet 3 (some .int) 0 [.ref 45] s (fX11_chosenSet  s) := by
  refine mf_intro rfl (Nat.le_of_ble_eq_true rfl) rfl rfl ?_
  refine mf_sub (loc' := [(0, .ref 45)]) [0] rfl ?_
  unfold fX11_chosenSet
  refine mf_iconst 0 dX11_chosenSet_0 (by decide) ?_
  refine mf_istore_n [(1, .int 0), (0, .ref 45)] dX11_chosenSet_1 rfl (by decide) rfl ?_
  refine mf_iconst 0 dX11_chosenSet_2 (by decide) ?_
  refine mf_istore_n [(2, .int 0), (1, .int 0), (0, .ref 45)] dX11_chosenSet_3 rfl (by decide) rfl ?_
  exact mf_sub [2, 1, 0] rfl (wlX11_chosenSet_4 l FU _ _ _)
set_option maxRecDepth 100000 in
set_option maxHeartbeats 4000000 in
theorem wlX11_notContent_4 (l : Launch)    : ∀ (n : Nat) (a1 : Int32) (a2 : Int32) (s0 : mx_G), mf_X ei l RX11 cX11_notContent 3 (some .int) "notContent" 5 (lX11_notContent_4   n a1 a2 s0) 4 [(0, .ref 45), (1, .int a1), (2, .int a2)] [] s0 := by
  intro n
  induction n with
  | zero => intro a1 a2 s0; exact mf_none
  | succ n ih4 =>
    intro a1 a2 s0
    rw [lX11_notContent_4]
    refine mf_iload_n dX11_notContent_4 rfl 2 rfl ?_
    refine mf_aload_n dX11_notContent_5 rfl 0 rfl ?_
    refine mf_getR fl_X11_7 rfl rfl dX11_notContent_6 ?_
    refine mf_iconst 0 dX11_notContent_9 (by decide) ?_
    refine mf_iald rfl dX11_notContent_10 ?_
    refine mf_icmp_ge 44 dX11_notContent_11 (by decide) ?_ ?_
    · refine mf_iload_n dX11_notContent_44 rfl 1 rfl ?_
      exact mf_iret dX11_notContent_45
    · refine mf_iload_n dX11_notContent_14 rfl 1 rfl ?_
      refine mf_aload_n dX11_notContent_15 rfl 0 rfl ?_
      refine mf_iload_n dX11_notContent_16 rfl 2 rfl ?_
      refine mf_callVi (stk := [.int a1]) (wX11_wouldChoose l _ _) cl_X11_174 rfl (by decide) rfl rfl rfl (Nat.le_of_ble_eq_true rfl) rfl rfl dX11_notContent_17 (fun x1 s2 => ?_)
      refine mf_aload_n dX11_notContent_20 rfl 0 rfl ?_
      refine mf_getR fl_X11_45 rfl rfl dX11_notContent_21 ?_
      refine mf_iload_n dX11_notContent_24 rfl 2 rfl ?_
      refine mf_iald rfl dX11_notContent_25 ?_
      refine mf_icmp_eq 35 dX11_notContent_26 (by decide) ?_ ?_
      · refine mf_iconst 0 dX11_notContent_35 (by decide) ?_
        refine mf_ior dX11_notContent_36 ?_
        refine mf_leti (fun x3 => ?_)
        refine mf_istore_n [(1, .int x3), (0, .ref 45), (2, .int a2)] dX11_notContent_37 rfl (by decide) rfl ?_
        refine mf_iinc 1 [(2, .int (a2 + 1)), (1, .int x3), (0, .ref 45)] dX11_notContent_38 2 rfl (by decide) (by decide) rfl ?_
        refine mf_goto 4 dX11_notContent_41 (by decide) ?_
        exact mf_sub [2, 1, 0] rfl (ih4 _ _ _)
      · refine mf_iconst 1 dX11_notContent_29 (by decide) ?_
        refine mf_iload_n dX11_notContent_30 rfl 2 rfl ?_
        refine mf_ishl dX11_notContent_31 ?_
        refine mf_goto 36 dX11_notContent_32 (by decide) ?_
        refine mf_ior dX11_notContent_36 ?_
        refine mf_leti (fun x4 => ?_)
        refine mf_istore_n [(1, .int x4), (0, .ref 45), (2, .int a2)] dX11_notContent_37 rfl (by decide) rfl ?_
        refine mf_iinc 1 [(2, .int (a2 + 1)), (1, .int x4), (0, .ref 45)] dX11_notContent_38 2 rfl (by decide) (by decide) rfl ?_
        refine mf_goto 4 dX11_notContent_41 (by decide) ?_
        exact mf_sub [2, 1, 0] rfl (ih4 _ _ _)
set_option maxRecDepth 100000 in
set_option maxHeartbeats 4000000 in
theorem wX11_notContent (l : Launch) (s : mx_G) : mf_M ei l yX11_notContent cX11_notContent 3 (some .int) 5 [.ref 45] s (fX11_notContent  s) := by
  refine mf_intro rfl (Nat.le_of_ble_eq_true rfl) rfl rfl ?_
  refine mf_sub (loc' := [(0, .ref 45)]) [0] rfl ?_
  unfold fX11_notContent
  refine mf_iconst 0 dX11_notContent_0 (by decide) ?_
  refine mf_istore_n [(1, .int 0), (0, .ref 45)] dX11_notContent_1 rfl (by decide) rfl ?_
  refine mf_iconst 0 dX11_notContent_2 (by decide) ?_
  refine mf_istore_n [(2, .int 0), (1, .int 0), (0, .ref 45)] dX11_notContent_3 rfl (by decide) rfl ?_
  exact mf_sub [2, 1, 0] rfl (wlX11_notContent_4 l FU _ _ _)
set_option maxRecDepth 100000 in
set_option maxHeartbeats 4000000 in
theorem wX11_nextOne (l : Launch) (p1 : Int32) (p2 : Int32) (s : mx_G) : mf_M ei l yX11_nextOne cX11_nextOne 4 (some .int) 0 [.ref 45, .int p1, .int p2] s (fX11_nextOne p1 p2 s) := by
  refine mf_intro rfl (Nat.le_of_ble_eq_true rfl) rfl rfl ?_
  refine mf_sub (loc' := [(0, .ref 45), (1, .int p1), (2, .int p2)]) [0, 1, 2] rfl ?_
  unfold fX11_nextOne
  refine mf_iload_n dX11_nextOne_0 rfl 2 rfl ?_
  refine mf_iconst 1 dX11_nextOne_1 (by decide) ?_
  refine mf_iadd dX11_nextOne_2 ?_
  refine mf_leti (fun x1 => ?_)
  refine mf_istore_n [(3, .int x1), (0, .ref 45), (1, .int p1), (2, .int p2)] dX11_nextOne_3 rfl (by decide) rfl ?_
  refine mf_iload_n dX11_nextOne_4 rfl 0 rfl ?_
  refine mf_iload_n dX11_nextOne_5 rfl 0 rfl ?_
  refine mf_iload_n dX11_nextOne_6 rfl 2 rfl ?_
  refine mf_join (fun (J : Int32 → Int32 → mx_G → Option (Int32 × mx_G)) => ∀ (q0_15 : Int32) (q1_15 : Int32) (s_15 : mx_G), mf_X ei l RX11 cX11_nextOne 4 (some .int) "nextOne" 0 (J q0_15 q1_15 s_15) 15 [(0, .ref 45)] [.int q0_15, .int q1_15] s_15) ?_ (fun J15 hJ15 => ?_)
  · intro q0_15 q1_15 s_15
    refine mf_iadd dX11_nextOne_15 ?_
    refine mf_leti (fun x2 => ?_)
    refine mf_istore_n [(3, .int x2), (0, .ref 45)] dX11_nextOne_16 rfl (by decide) rfl ?_
    refine mf_iload_n dX11_nextOne_17 rfl 0 rfl ?_
    refine mf_aload_n dX11_nextOne_18 rfl 1 rfl ?_
    refine mf_getR fl_X11_7 rfl rfl dX11_nextOne_19 ?_
    refine mf_iconst 0 dX11_nextOne_22 (by decide) ?_
    refine mf_iald rfl dX11_nextOne_23 ?_
    refine mf_icmp_ge 31 dX11_nextOne_24 (by decide) ?_ ?_
    · refine mf_bipush 9 dX11_nextOne_31 (by decide) ?_
      exact mf_iret dX11_nextOne_33
    · refine mf_iload_n dX11_nextOne_27 rfl 0 rfl ?_
      refine mf_goto 33 dX11_nextOne_28 (by decide) ?_
      exact mf_iret dX11_nextOne_33
  refine mf_icmp_ne 14 dX11_nextOne_7 (by decide) ?_ ?_
  · refine mf_iconst 1 dX11_nextOne_10 (by decide) ?_
    refine mf_goto 15 dX11_nextOne_11 (by decide) ?_
    exact mf_sub [1] rfl (hJ15 _ _ _)
  · refine mf_iconst 0 dX11_nextOne_14 (by decide) ?_
    exact mf_sub [1] rfl (hJ15 _ _ _)
set_option maxRecDepth 100000 in
set_option maxHeartbeats 4000000 in
theorem wlX11_wayBy_7 (l : Launch)    : ∀ (n : Nat) (a2 : Int32) (a3 : Int32) (a4 : Int32) (s0 : mx_G), mf_X ei l RX11 cX11_wayBy 5 (some .int) "wayBy" 0 (lX11_wayBy_7   n a2 a3 a4 s0) 7 [(0, .ref 45), (2, .int a2), (3, .int a3), (4, .int a4)] [] s0 := by
  intro n
  induction n with
  | zero => intro a2 a3 a4 s0; exact mf_none
  | succ n ih7 =>
    intro a2 a3 a4 s0
    rw [lX11_wayBy_7]
    refine mf_iload dX11_wayBy_7 3 rfl ?_
    refine mf_bipush 6 dX11_wayBy_9 (by decide) ?_
    refine mf_icmp_ge 54 dX11_wayBy_11 (by decide) ?_ ?_
    · refine mf_iload_n dX11_wayBy_54 rfl 2 rfl ?_
      refine mf_if_ne 62 dX11_wayBy_55 (by decide) ?_ ?_
      · refine mf_iload_n dX11_wayBy_58 rfl 1 rfl ?_
        refine mf_goto 64 dX11_wayBy_59 (by decide) ?_
        exact mf_iret dX11_wayBy_64
      · refine mf_bipush (-4) dX11_wayBy_62 (by decide) ?_
        exact mf_iret dX11_wayBy_64
    · refine mf_iload_n dX11_wayBy_14 rfl 2 rfl ?_
      refine mf_if_eq 54 dX11_wayBy_15 (by decide) ?_ ?_
      · refine mf_iload_n dX11_wayBy_54 rfl 2 rfl ?_
        refine mf_if_ne 62 dX11_wayBy_55 (by decide) ?_ ?_
        · refine mf_iload_n dX11_wayBy_58 rfl 1 rfl ?_
          refine mf_goto 64 dX11_wayBy_59 (by decide) ?_
          exact mf_iret dX11_wayBy_64
        · refine mf_bipush (-4) dX11_wayBy_62 (by decide) ?_
          exact mf_iret dX11_wayBy_64
      · refine mf_iload_n dX11_wayBy_18 rfl 2 rfl ?_
        refine mf_bipush 9 dX11_wayBy_19 (by decide) ?_
        refine mf_icmp_eq 54 dX11_wayBy_21 (by decide) ?_ ?_
        · refine mf_iload_n dX11_wayBy_54 rfl 2 rfl ?_
          refine mf_if_ne 62 dX11_wayBy_55 (by decide) ?_ ?_
          · refine mf_iload_n dX11_wayBy_58 rfl 1 rfl ?_
            refine mf_goto 64 dX11_wayBy_59 (by decide) ?_
            exact mf_iret dX11_wayBy_64
          · refine mf_bipush (-4) dX11_wayBy_62 (by decide) ?_
            exact mf_iret dX11_wayBy_64
        · refine mf_aload_n dX11_wayBy_24 rfl 0 rfl ?_
          refine mf_getR fl_X11_54 rfl rfl dX11_wayBy_25 ?_
          refine mf_iload_n dX11_wayBy_28 rfl 2 rfl ?_
          refine mf_iald rfl dX11_wayBy_29 ?_
          refine mf_leti (fun x1 => ?_)
          refine mf_istore_n [(3, .int x1), (0, .ref 45), (2, .int a2), (4, .int a4)] dX11_wayBy_30 rfl (by decide) rfl ?_
          refine mf_iload_n dX11_wayBy_31 rfl 0 rfl ?_
          refine mf_bipush 9 dX11_wayBy_32 (by decide) ?_
          refine mf_icmp_ne 41 dX11_wayBy_34 (by decide) ?_ ?_
          · refine mf_iload_n dX11_wayBy_37 rfl 2 rfl ?_
            refine mf_goto 47 dX11_wayBy_38 (by decide) ?_
            refine mf_istore_n [(2, .int a2), (3, .int x1), (0, .ref 45), (4, .int a4)] dX11_wayBy_47 rfl (by decide) rfl ?_
            refine mf_iinc 1 [(4, .int (a4 + 1)), (2, .int a2), (3, .int x1), (0, .ref 45)] dX11_wayBy_48 3 rfl (by decide) (by decide) rfl ?_
            refine mf_goto 7 dX11_wayBy_51 (by decide) ?_
            exact mf_sub [3, 1, 2, 0] rfl (ih7 _ _ _ _)
          · refine mf_bipush 10 dX11_wayBy_41 (by decide) ?_
            refine mf_iload_n dX11_wayBy_43 rfl 2 rfl ?_
            refine mf_imul dX11_wayBy_44 ?_
            refine mf_iload_n dX11_wayBy_45 rfl 0 rfl ?_
            refine mf_iadd dX11_wayBy_46 ?_
            refine mf_leti (fun x2 => ?_)
            refine mf_istore_n [(2, .int x2), (3, .int x1), (0, .ref 45), (4, .int a4)] dX11_wayBy_47 rfl (by decide) rfl ?_
            refine mf_iinc 1 [(4, .int (a4 + 1)), (2, .int x2), (3, .int x1), (0, .ref 45)] dX11_wayBy_48 3 rfl (by decide) (by decide) rfl ?_
            refine mf_goto 7 dX11_wayBy_51 (by decide) ?_
            exact mf_sub [3, 1, 2, 0] rfl (ih7 _ _ _ _)
set_option maxRecDepth 100000 in
set_option maxHeartbeats 4000000 in
theorem wX11_wayBy (l : Launch) (p1 : Int32) (s : mx_G) : mf_M ei l yX11_wayBy cX11_wayBy 5 (some .int) 0 [.ref 45, .int p1] s (fX11_wayBy p1 s) := by
  refine mf_intro rfl (Nat.le_of_ble_eq_true rfl) rfl rfl ?_
  refine mf_sub (loc' := [(0, .ref 45), (1, .int p1)]) [0, 1] rfl ?_
  unfold fX11_wayBy
  refine mf_iload_n dX11_wayBy_0 rfl 1 rfl ?_
  refine mf_istore_n [(2, .int p1), (0, .ref 45), (1, .int p1)] dX11_wayBy_1 rfl (by decide) rfl ?_
  refine mf_iload_n dX11_wayBy_2 rfl 2 rfl ?_
  refine mf_istore_n [(3, .int p1), (2, .int p1), (0, .ref 45), (1, .int p1)] dX11_wayBy_3 rfl (by decide) rfl ?_
  refine mf_iconst 0 dX11_wayBy_4 (by decide) ?_
  refine mf_istore [(4, .int 0), (3, .int p1), (2, .int p1), (0, .ref 45), (1, .int p1)] dX11_wayBy_5 (by decide) rfl ?_
  exact mf_sub [3, 2, 1, 0] rfl (wlX11_wayBy_7 l FU _ _ _ _)
set_option maxRecDepth 100000 in
set_option maxHeartbeats 4000000 in
theorem wlX11_thinksOfNexts_4 (l : Launch)    : ∀ (n : Nat) (a1 : Int32) (a2 : Int32) (s0 : mx_G), mf_X ei l RX11 cX11_thinksOfNexts 3 (some .boolean) "thinksOfNexts" 1 (lX11_thinksOfNexts_4   n a1 a2 s0) 4 [(0, .ref 45), (1, .int a1), (2, .int a2)] [] s0 := by
  intro n
  induction n with
  | zero => intro a1 a2 s0; exact mf_none
  | succ n ih4 =>
    intro a1 a2 s0
    rw [lX11_thinksOfNexts_4]
    refine mf_iload_n dX11_thinksOfNexts_4 rfl 2 rfl ?_
    refine mf_bipush 6 dX11_thinksOfNexts_5 (by decide) ?_
    refine mf_icmp_ge 96 dX11_thinksOfNexts_7 (by decide) ?_ ?_
    · refine mf_iload_n dX11_thinksOfNexts_96 rfl 1 rfl ?_
      exact mf_zretG dX11_thinksOfNexts_97
    · refine mf_aload_n dX11_thinksOfNexts_10 rfl 0 rfl ?_
      refine mf_getR fl_X11_45 rfl rfl dX11_thinksOfNexts_11 ?_
      refine mf_iload_n dX11_thinksOfNexts_14 rfl 2 rfl ?_
      refine mf_iload_n dX11_thinksOfNexts_15 rfl 2 rfl ?_
      refine mf_join (fun (J : Int32 → Int32 → mx_G → Option (Int32 × mx_G)) => ∀ (q0_43 : Int32) (q1_43 : Int32) (s_43 : mx_G), mf_X ei l RX11 cX11_thinksOfNexts 3 (some .boolean) "thinksOfNexts" 1 (J q0_43 q1_43 s_43) 43 [(0, .ref 45), (1, .int a1), (2, .int a2)] [.int q0_43, .int q1_43, .ref 56] s_43) ?_ (fun J43 hJ43 => ?_)
      · intro q0_43 q1_43 s_43
        refine mf_iast rfl dX11_thinksOfNexts_43 (fun s1 => ?_)
        refine mf_iload_n dX11_thinksOfNexts_44 rfl 1 rfl ?_
        refine mf_if_eq 88 dX11_thinksOfNexts_45 (by decide) ?_ ?_
        · refine mf_iconst 0 dX11_thinksOfNexts_88 (by decide) ?_
          refine mf_istore_n [(1, .int 0), (0, .ref 45), (2, .int a2)] dX11_thinksOfNexts_89 rfl (by decide) rfl ?_
          refine mf_iinc 1 [(2, .int (a2 + 1)), (1, .int 0), (0, .ref 45)] dX11_thinksOfNexts_90 2 rfl (by decide) (by decide) rfl ?_
          refine mf_goto 4 dX11_thinksOfNexts_93 (by decide) ?_
          exact mf_sub [2, 1, 0] rfl (ih4 _ _ _)
        · refine mf_iload_n dX11_thinksOfNexts_48 rfl 2 rfl ?_
          refine mf_if_eq 84 dX11_thinksOfNexts_49 (by decide) ?_ ?_
          · refine mf_iconst 1 dX11_thinksOfNexts_84 (by decide) ?_
            refine mf_goto 89 dX11_thinksOfNexts_85 (by decide) ?_
            refine mf_istore_n [(1, .int 1), (0, .ref 45), (2, .int a2)] dX11_thinksOfNexts_89 rfl (by decide) rfl ?_
            refine mf_iinc 1 [(2, .int (a2 + 1)), (1, .int 1), (0, .ref 45)] dX11_thinksOfNexts_90 2 rfl (by decide) (by decide) rfl ?_
            refine mf_goto 4 dX11_thinksOfNexts_93 (by decide) ?_
            exact mf_sub [2, 1, 0] rfl (ih4 _ _ _)
          · refine mf_iload_n dX11_thinksOfNexts_52 rfl 2 rfl ?_
            refine mf_aload_n dX11_thinksOfNexts_53 rfl 0 rfl ?_
            refine mf_getR fl_X11_7 rfl rfl dX11_thinksOfNexts_54 ?_
            refine mf_iconst 0 dX11_thinksOfNexts_57 (by decide) ?_
            refine mf_iald rfl dX11_thinksOfNexts_58 ?_
            refine mf_icmp_ge 84 dX11_thinksOfNexts_59 (by decide) ?_ ?_
            · refine mf_iconst 1 dX11_thinksOfNexts_84 (by decide) ?_
              refine mf_goto 89 dX11_thinksOfNexts_85 (by decide) ?_
              refine mf_istore_n [(1, .int 1), (0, .ref 45), (2, .int a2)] dX11_thinksOfNexts_89 rfl (by decide) rfl ?_
              refine mf_iinc 1 [(2, .int (a2 + 1)), (1, .int 1), (0, .ref 45)] dX11_thinksOfNexts_90 2 rfl (by decide) (by decide) rfl ?_
              refine mf_goto 4 dX11_thinksOfNexts_93 (by decide) ?_
              exact mf_sub [2, 1, 0] rfl (ih4 _ _ _)
            · refine mf_aload_n dX11_thinksOfNexts_62 rfl 0 rfl ?_
              refine mf_getR fl_X11_54 rfl rfl dX11_thinksOfNexts_63 ?_
              refine mf_iload_n dX11_thinksOfNexts_66 rfl 2 rfl ?_
              refine mf_iald rfl dX11_thinksOfNexts_67 ?_
              refine mf_bipush 9 dX11_thinksOfNexts_68 (by decide) ?_
              refine mf_icmp_eq 84 dX11_thinksOfNexts_70 (by decide) ?_ ?_
              · refine mf_iconst 1 dX11_thinksOfNexts_84 (by decide) ?_
                refine mf_goto 89 dX11_thinksOfNexts_85 (by decide) ?_
                refine mf_istore_n [(1, .int 1), (0, .ref 45), (2, .int a2)] dX11_thinksOfNexts_89 rfl (by decide) rfl ?_
                refine mf_iinc 1 [(2, .int (a2 + 1)), (1, .int 1), (0, .ref 45)] dX11_thinksOfNexts_90 2 rfl (by decide) (by decide) rfl ?_
                refine mf_goto 4 dX11_thinksOfNexts_93 (by decide) ?_
                exact mf_sub [2, 1, 0] rfl (ih4 _ _ _)
              · refine mf_aload_n dX11_thinksOfNexts_73 rfl 0 rfl ?_
                refine mf_getR fl_X11_45 rfl rfl dX11_thinksOfNexts_74 ?_
                refine mf_iload_n dX11_thinksOfNexts_77 rfl 2 rfl ?_
                refine mf_iald rfl dX11_thinksOfNexts_78 ?_
                refine mf_bipush (-4) dX11_thinksOfNexts_79 (by decide) ?_
                refine mf_icmp_eq 88 dX11_thinksOfNexts_81 (by decide) ?_ ?_
                · refine mf_iconst 0 dX11_thinksOfNexts_88 (by decide) ?_
                  refine mf_istore_n [(1, .int 0), (0, .ref 45), (2, .int a2)] dX11_thinksOfNexts_89 rfl (by decide) rfl ?_
                  refine mf_iinc 1 [(2, .int (a2 + 1)), (1, .int 0), (0, .ref 45)] dX11_thinksOfNexts_90 2 rfl (by decide) (by decide) rfl ?_
                  refine mf_goto 4 dX11_thinksOfNexts_93 (by decide) ?_
                  exact mf_sub [2, 1, 0] rfl (ih4 _ _ _)
                · refine mf_iconst 1 dX11_thinksOfNexts_84 (by decide) ?_
                  refine mf_goto 89 dX11_thinksOfNexts_85 (by decide) ?_
                  refine mf_istore_n [(1, .int 1), (0, .ref 45), (2, .int a2)] dX11_thinksOfNexts_89 rfl (by decide) rfl ?_
                  refine mf_iinc 1 [(2, .int (a2 + 1)), (1, .int 1), (0, .ref 45)] dX11_thinksOfNexts_90 2 rfl (by decide) (by decide) rfl ?_
                  refine mf_goto 4 dX11_thinksOfNexts_93 (by decide) ?_
                  exact mf_sub [2, 1, 0] rfl (ih4 _ _ _)
      refine mf_if_ne 23 dX11_thinksOfNexts_16 (by decide) ?_ ?_
      · refine mf_iconst 0 dX11_thinksOfNexts_19 (by decide) ?_
        refine mf_goto 43 dX11_thinksOfNexts_20 (by decide) ?_
        exact mf_sub [0, 1, 2] rfl (hJ43 _ _ _)
      · refine mf_iload_n dX11_thinksOfNexts_23 rfl 2 rfl ?_
        refine mf_aload_n dX11_thinksOfNexts_24 rfl 0 rfl ?_
        refine mf_getR fl_X11_7 rfl rfl dX11_thinksOfNexts_25 ?_
        refine mf_iconst 0 dX11_thinksOfNexts_28 (by decide) ?_
        refine mf_iald rfl dX11_thinksOfNexts_29 ?_
        refine mf_icmp_ge 41 dX11_thinksOfNexts_30 (by decide) ?_ ?_
        · refine mf_bipush (-4) dX11_thinksOfNexts_41 (by decide) ?_
          exact mf_sub [0, 1, 2] rfl (hJ43 _ _ _)
        · refine mf_aload_n dX11_thinksOfNexts_33 rfl 0 rfl ?_
          refine mf_iload_n dX11_thinksOfNexts_34 rfl 2 rfl ?_
          refine mf_callVi (stk := [.int a2, .ref 56]) (wX11_wayBy l _ _) cl_X11_208 rfl (by decide) rfl rfl rfl (Nat.le_of_ble_eq_true rfl) rfl rfl dX11_thinksOfNexts_35 (fun x2 s3 => ?_)
          refine mf_goto 43 dX11_thinksOfNexts_38 (by decide) ?_
          exact mf_sub [0, 1, 2] rfl (hJ43 _ _ _)
