set_option maxRecDepth 100000 in
set_option maxHeartbeats 4000000 in
theorem wX8_pairOf (l : Launch) (p0 : Int32) (p1 : Int32) (s : mx_G) : mf_M ei l yX8_pairOf cX8_pairOf 3 (some .int) 1 [.int p0, .int p1] s (fX8_pairOf p0 p1 s) := by
  refine mf_intro rfl (Nat.le_of_ble_eq_true rfl) rfl rfl ?_
  refine mf_sub (loc' := [(0, .int p0), (1, .int p1)]) [0, 1] rfl ?_
  unfold fX8_pairOf
  refine mf_iload_n dX8_pairOf_0 rfl 0 rfl ?_
  refine mf_iload_n dX8_pairOf_1 rfl 1 rfl ?_
  refine mf_mmax cl_X8_113.1 (by decide) (Nat.le_of_ble_eq_true rfl) dX8_pairOf_2 ?_
  refine mf_leti (fun x1 => ?_)
  refine mf_istore_n [(2, .int x1), (0, .int p0), (1, .int p1)] dX8_pairOf_5 rfl (by decide) rfl ?_
  refine mf_iload_n dX8_pairOf_6 rfl 0 rfl ?_
  refine mf_iload_n dX8_pairOf_7 rfl 0 rfl ?_
  refine mf_iconst 1 dX8_pairOf_8 (by decide) ?_
  refine mf_isub dX8_pairOf_9 ?_
  refine mf_imul dX8_pairOf_10 ?_
  refine mf_iconst 2 dX8_pairOf_11 (by decide) ?_
  refine mf_idiv (by decide) dX8_pairOf_12 ?_
  refine mf_iload_n dX8_pairOf_13 rfl 1 rfl ?_
  refine mf_iload_n dX8_pairOf_14 rfl 2 rfl ?_
  refine mf_mmin cl_X8_118.1 (by decide) (Nat.le_of_ble_eq_true rfl) dX8_pairOf_15 ?_
  refine mf_iadd dX8_pairOf_18 ?_
  exact mf_iret dX8_pairOf_19
set_option maxRecDepth 100000 in
set_option maxHeartbeats 4000000 in
theorem wX8_add (l : Launch) (p1 : Int32) (p2 : Int32) (p3 : Int32) (s : mx_G) : mf_M ev l yX8_add cX8_add 4 none 2 [.ref 15, .int p1, .int p2, .int p3] s (fX8_add p1 p2 p3 s) := by
  refine mf_intro rfl (Nat.le_of_ble_eq_true rfl) rfl rfl ?_
  refine mf_sub (loc' := [(0, .ref 15), (1, .int p1), (2, .int p2), (3, .int p3)]) [0, 1, 2, 3] rfl ?_
  unfold fX8_add
  refine mf_aload_n dX8_add_0 rfl 0 rfl ?_
  refine mf_getI fl_X8_21 rfl rfl dX8_add_1 ?_
  refine mf_sipush 326 dX8_add_4 (by decide) ?_
  refine mf_icmp_ge 21 dX8_add_7 (by decide) ?_ ?_
  · exact mf_vret dX8_add_21
  · refine mf_aload_n dX8_add_10 rfl 0 rfl ?_
    refine mf_getR fl_X8_42 rfl rfl dX8_add_11 ?_
    refine mf_iload_n dX8_add_14 rfl 1 rfl ?_
    refine mf_iald rfl dX8_add_15 ?_
    refine mf_bipush 65 dX8_add_16 (by decide) ?_
    refine mf_icmp_lt 22 dX8_add_18 (by decide) ?_ ?_
    · refine mf_aload_n dX8_add_22 rfl 0 rfl ?_
      refine mf_getR fl_X8_24 rfl rfl dX8_add_23 ?_
      refine mf_aload_n dX8_add_26 rfl 0 rfl ?_
      refine mf_getI fl_X8_21 rfl rfl dX8_add_27 ?_
      refine mf_iload_n dX8_add_30 rfl 1 rfl ?_
      refine mf_iast rfl dX8_add_31 (fun s1 => ?_)
      refine mf_aload_n dX8_add_32 rfl 0 rfl ?_
      refine mf_getR fl_X8_27 rfl rfl dX8_add_33 ?_
      refine mf_aload_n dX8_add_36 rfl 0 rfl ?_
      refine mf_getI fl_X8_21 rfl rfl dX8_add_37 ?_
      refine mf_iload_n dX8_add_40 rfl 2 rfl ?_
      refine mf_iast rfl dX8_add_41 (fun s2 => ?_)
      refine mf_aload_n dX8_add_42 rfl 0 rfl ?_
      refine mf_getR fl_X8_30 rfl rfl dX8_add_43 ?_
      refine mf_aload_n dX8_add_46 rfl 0 rfl ?_
      refine mf_getI fl_X8_21 rfl rfl dX8_add_47 ?_
      refine mf_iload_n dX8_add_50 rfl 2 rfl ?_
      refine mf_join (fun (J : Int32 → Int32 → mx_G → Option (Unit × mx_G)) => ∀ (q0_60 : Int32) (q1_60 : Int32) (s_60 : mx_G), mf_X ev l RX8 cX8_add 4 none "add" 2 (J q0_60 q1_60 s_60) 60 [(0, .ref 15), (1, .int p1), (2, .int p2)] [.int q0_60, .int q1_60, .ref 19] s_60) ?_ (fun J60 hJ60 => ?_)
      · intro q0_60 q1_60 s_60
        refine mf_iast rfl dX8_add_60 (fun s3 => ?_)
        refine mf_aload_n dX8_add_61 rfl 0 rfl ?_
        refine mf_getR fl_X8_33 rfl rfl dX8_add_62 ?_
        refine mf_aload_n dX8_add_65 rfl 0 rfl ?_
        refine mf_getI fl_X8_21 rfl rfl dX8_add_66 ?_
        refine mf_iconst 1 dX8_add_69 (by decide) ?_
        refine mf_iload_n dX8_add_70 rfl 1 rfl ?_
        refine mf_ishl dX8_add_71 ?_
        refine mf_iload_n dX8_add_72 rfl 2 rfl ?_
        refine mf_join (fun (J : Int32 → Int32 → Int32 → mx_G → Option (Unit × mx_G)) => ∀ (q0_86 : Int32) (q1_86 : Int32) (q2_86 : Int32) (s_86 : mx_G), mf_X ev l RX8 cX8_add 4 none "add" 2 (J q0_86 q1_86 q2_86 s_86) 86 [(0, .ref 15), (1, .int p1), (2, .int p2)] [.int q0_86, .int q1_86, .int q2_86, .ref 20] s_86) ?_ (fun J86 hJ86 => ?_)
        · intro q0_86 q1_86 q2_86 s_86
          refine mf_ior dX8_add_86 ?_
          refine mf_iast rfl dX8_add_87 (fun s4 => ?_)
          refine mf_aload_n dX8_add_88 rfl 0 rfl ?_
          refine mf_getR fl_X8_36 rfl rfl dX8_add_89 ?_
          refine mf_aload_n dX8_add_92 rfl 0 rfl ?_
          refine mf_getI fl_X8_21 rfl rfl dX8_add_93 ?_
          refine mf_iload_n dX8_add_96 rfl 2 rfl ?_
          refine mf_join (fun (J : Int32 → Int32 → mx_G → Option (Unit × mx_G)) => ∀ (q0_123 : Int32) (q1_123 : Int32) (s_123 : mx_G), mf_X ev l RX8 cX8_add 4 none "add" 2 (J q0_123 q1_123 s_123) 123 [(0, .ref 15), (1, .int p1)] [.int q0_123, .int q1_123, .ref 21] s_123) ?_ (fun J123 hJ123 => ?_)
          · intro q0_123 q1_123 s_123
            refine mf_iast rfl dX8_add_123 (fun s5 => ?_)
            refine mf_aload_n dX8_add_124 rfl 0 rfl ?_
            refine mf_iload_n dX8_add_125 rfl 1 rfl ?_
            refine mf_aload_n dX8_add_126 rfl 0 rfl ?_
            refine mf_getI fl_X8_21 rfl rfl dX8_add_127 ?_
            refine mf_callVv (stk := []) (wX8_insert l _ _ _) cl_X8_109 rfl (by decide) rfl rfl rfl (Nat.le_of_ble_eq_true rfl) rfl rfl dX8_add_130 (fun us6 s6 => ?_)
            refine mf_aload_n dX8_add_133 rfl 0 rfl ?_
            refine mf_dup rfl dX8_add_134 ?_
            refine mf_getI fl_X8_21 rfl rfl dX8_add_135 ?_
            refine mf_iconst 1 dX8_add_138 (by decide) ?_
            refine mf_iadd dX8_add_139 ?_
            refine mf_putI fl_X8_21 rfl rfl dX8_add_140 (fun s7 => ?_)
            exact mf_vret dX8_add_143
          refine mf_if_ge 104 dX8_add_97 (by decide) ?_ ?_
          · refine mf_aload_n dX8_add_104 rfl 0 rfl ?_
            refine mf_getR fl_X8_36 rfl rfl dX8_add_105 ?_
            refine mf_iload_n dX8_add_108 rfl 2 rfl ?_
            refine mf_iald rfl dX8_add_109 ?_
            refine mf_iconst 1 dX8_add_110 (by decide) ?_
            refine mf_iload_n dX8_add_111 rfl 1 rfl ?_
            refine mf_aload_n dX8_add_112 rfl 0 rfl ?_
            refine mf_getR fl_X8_24 rfl rfl dX8_add_113 ?_
            refine mf_iload_n dX8_add_116 rfl 2 rfl ?_
            refine mf_iald rfl dX8_add_117 ?_
            refine mf_callSi (stk := [.int 1, .int (s4.1 21 (Int32.toNatClampNeg p2)), .int (s4.1 15 2), .ref 21]) (wX8_pairOf l _ _ _) cl_X8_106 rfl (by decide) rfl (Nat.le_of_ble_eq_true rfl) rfl rfl dX8_add_118 (fun x8 s9 => ?_)
            refine mf_ishl dX8_add_121 ?_
            refine mf_ior dX8_add_122 ?_
            exact mf_sub [0, 1] rfl (hJ123 _ _ _)
          · refine mf_iconst 0 dX8_add_100 (by decide) ?_
            refine mf_goto 123 dX8_add_101 (by decide) ?_
            exact mf_sub [0, 1] rfl (hJ123 _ _ _)
        refine mf_if_ge 80 dX8_add_73 (by decide) ?_ ?_
        · refine mf_aload_n dX8_add_80 rfl 0 rfl ?_
          refine mf_getR fl_X8_33 rfl rfl dX8_add_81 ?_
          refine mf_iload_n dX8_add_84 rfl 2 rfl ?_
          refine mf_iald rfl dX8_add_85 ?_
          exact mf_sub [0, 1, 2] rfl (hJ86 _ _ _ _)
        · refine mf_iconst 0 dX8_add_76 (by decide) ?_
          refine mf_goto 86 dX8_add_77 (by decide) ?_
          exact mf_sub [0, 1, 2] rfl (hJ86 _ _ _ _)
      refine mf_if_ge 59 dX8_add_51 (by decide) ?_ ?_
      · refine mf_iload_n dX8_add_59 rfl 3 rfl ?_
        exact mf_sub [0, 1, 2] rfl (hJ60 _ _ _)
      · refine mf_ldc kl_X8_48 dX8_add_54 ?_
        refine mf_goto 60 dX8_add_56 (by decide) ?_
        exact mf_sub [0, 1, 2] rfl (hJ60 _ _ _)
    · exact mf_vret dX8_add_21
set_option maxRecDepth 100000 in
set_option maxHeartbeats 4000000 in
theorem wX8_rankedAt (l : Launch) (p1 : Int32) (p2 : Int32) (s : mx_G) : mf_M ei l yX8_rankedAt cX8_rankedAt 3 (some .int) 0 [.ref 15, .int p1, .int p2] s (fX8_rankedAt p1 p2 s) := by
  refine mf_intro rfl (Nat.le_of_ble_eq_true rfl) rfl rfl ?_
  refine mf_sub (loc' := [(0, .ref 15), (1, .int p1), (2, .int p2)]) [0, 1, 2] rfl ?_
  unfold fX8_rankedAt
  refine mf_aload_n dX8_rankedAt_0 rfl 0 rfl ?_
  refine mf_getR fl_X8_45 rfl rfl dX8_rankedAt_1 ?_
  refine mf_iload_n dX8_rankedAt_4 rfl 1 rfl ?_
  refine mf_bipush 65 dX8_rankedAt_5 (by decide) ?_
  refine mf_imul dX8_rankedAt_7 ?_
  refine mf_iload_n dX8_rankedAt_8 rfl 2 rfl ?_
  refine mf_iadd dX8_rankedAt_9 ?_
  refine mf_iald rfl dX8_rankedAt_10 ?_
  exact mf_iret dX8_rankedAt_11
set_option maxRecDepth 100000 in
set_option maxHeartbeats 4000000 in
theorem wlX8_notePlaces_10 (l : Launch) (a1 : Int32) (k38 : mx_G → Option (Unit × mx_G)) (hk38 : ∀ (sz : mx_G), mf_X ev l RX8 cX8_notePlaces 3 none "notePlaces" 1 (k38 sz) 38 [(0, .ref 15), (1, .int a1)] [] sz) : ∀ (n : Nat) (a2 : Int32) (s0 : mx_G), mf_X ev l RX8 cX8_notePlaces 3 none "notePlaces" 1 (lX8_notePlaces_10 a1 k38 n a2 s0) 10 [(0, .ref 15), (1, .int a1), (2, .int a2)] [] s0 := by
  intro n
  induction n with
  | zero => intro a2 s0; exact mf_none
  | succ n ih10 =>
    intro a2 s0
    rw [lX8_notePlaces_10]
    refine mf_iload_n dX8_notePlaces_10 rfl 2 rfl ?_
    refine mf_aload_n dX8_notePlaces_11 rfl 0 rfl ?_
    refine mf_getR fl_X8_42 rfl rfl dX8_notePlaces_12 ?_
    refine mf_iload_n dX8_notePlaces_15 rfl 1 rfl ?_
    refine mf_iald rfl dX8_notePlaces_16 ?_
    refine mf_icmp_ge 38 dX8_notePlaces_17 (by decide) ?_ ?_
    · exact mf_sub [0, 1] rfl (hk38 _)
    · refine mf_aload_n dX8_notePlaces_20 rfl 0 rfl ?_
      refine mf_getR fl_X8_39 rfl rfl dX8_notePlaces_21 ?_
      refine mf_aload_n dX8_notePlaces_24 rfl 0 rfl ?_
      refine mf_iload_n dX8_notePlaces_25 rfl 1 rfl ?_
      refine mf_iload_n dX8_notePlaces_26 rfl 2 rfl ?_
      refine mf_callVi (stk := [.ref 22]) (wX8_rankedAt l _ _ _) cl_X8_50 rfl (by decide) rfl rfl rfl (Nat.le_of_ble_eq_true rfl) rfl rfl dX8_notePlaces_27 (fun x1 s2 => ?_)
      refine mf_iload_n dX8_notePlaces_30 rfl 2 rfl ?_
      refine mf_iast rfl dX8_notePlaces_31 (fun s3 => ?_)
      refine mf_iinc 1 [(2, .int (a2 + 1)), (0, .ref 15), (1, .int a1)] dX8_notePlaces_32 2 rfl (by decide) (by decide) rfl ?_
      refine mf_goto 10 dX8_notePlaces_35 (by decide) ?_
      exact mf_sub [1, 2, 0] rfl (ih10 _ _)
set_option maxRecDepth 100000 in
set_option maxHeartbeats 4000000 in
theorem wlX8_notePlaces_2 (l : Launch)    : ∀ (n : Nat) (a1 : Int32) (s0 : mx_G), mf_X ev l RX8 cX8_notePlaces 3 none "notePlaces" 1 (lX8_notePlaces_2   n a1 s0) 2 [(0, .ref 15), (1, .int a1)] [] s0 := by
  intro n
  induction n with
  | zero => intro a1 s0; exact mf_none
  | succ n ih2 =>
    intro a1 s0
    rw [lX8_notePlaces_2]
    refine mf_iload_n dX8_notePlaces_2 rfl 1 rfl ?_
    refine mf_bipush 6 dX8_notePlaces_3 (by decide) ?_
    refine mf_icmp_ge 44 dX8_notePlaces_5 (by decide) ?_ ?_
    · exact mf_vret dX8_notePlaces_44
    · refine mf_iconst 0 dX8_notePlaces_8 (by decide) ?_
      refine mf_istore_n [(2, .int 0), (0, .ref 15), (1, .int a1)] dX8_notePlaces_9 rfl (by decide) rfl ?_
      refine mf_sub [1, 2, 0] rfl (wlX8_notePlaces_10 l _ _ (fun s4 => ?_) FU _ _)
      refine mf_iinc 1 [(1, .int (a1 + 1)), (0, .ref 15)] dX8_notePlaces_38 1 rfl (by decide) (by decide) rfl ?_
      refine mf_goto 2 dX8_notePlaces_41 (by decide) ?_
      exact mf_sub [1, 0] rfl (ih2 _ _)
set_option maxRecDepth 100000 in
set_option maxHeartbeats 4000000 in
theorem wX8_notePlaces (l : Launch) (s : mx_G) : mf_M ev l yX8_notePlaces cX8_notePlaces 3 none 1 [.ref 15] s (fX8_notePlaces  s) := by
  refine mf_intro rfl (Nat.le_of_ble_eq_true rfl) rfl rfl ?_
  refine mf_sub (loc' := [(0, .ref 15)]) [0] rfl ?_
  unfold fX8_notePlaces
  refine mf_iconst 0 dX8_notePlaces_0 (by decide) ?_
  refine mf_istore_n [(1, .int 0), (0, .ref 15)] dX8_notePlaces_1 rfl (by decide) rfl ?_
  exact mf_sub [1, 0] rfl (wlX8_notePlaces_2 l FU _ _)
set_option maxRecDepth 100000 in
set_option maxHeartbeats 4000000 in
theorem wX8_secondOf (l : Launch) (p1 : Int32) (s : mx_G) : mf_M ei l yX8_secondOf cX8_secondOf 2 (some .int) 0 [.ref 15, .int p1] s (fX8_secondOf p1 s) := by
  refine mf_intro rfl (Nat.le_of_ble_eq_true rfl) rfl rfl ?_
  refine mf_sub (loc' := [(0, .ref 15), (1, .int p1)]) [0, 1] rfl ?_
  unfold fX8_secondOf
  refine mf_iload_n dX8_secondOf_0 rfl 1 rfl ?_
  refine mf_if_ne 9 dX8_secondOf_1 (by decide) ?_ ?_
  · refine mf_bipush 9 dX8_secondOf_4 (by decide) ?_
    refine mf_goto 20 dX8_secondOf_6 (by decide) ?_
    exact mf_iret dX8_secondOf_20
  · refine mf_aload_n dX8_secondOf_9 rfl 0 rfl ?_
    refine mf_getR fl_X8_24 rfl rfl dX8_secondOf_10 ?_
    refine mf_aload_n dX8_secondOf_13 rfl 0 rfl ?_
    refine mf_getR fl_X8_27 rfl rfl dX8_secondOf_14 ?_
    refine mf_iload_n dX8_secondOf_17 rfl 1 rfl ?_
    refine mf_iald rfl dX8_secondOf_18 ?_
    refine mf_iald rfl dX8_secondOf_19 ?_
    exact mf_iret dX8_secondOf_20
set_option maxRecDepth 100000 in
set_option maxHeartbeats 4000000 in
theorem wX9_lets (l : Launch) (p1 : Int32) (p2 : Int32) (p3 : Int32) (s : mx_G) : mf_M ei l yX9_lets cX9_lets 5 (some .boolean) 0 [.ref 1, .int p1, .int p2, .int p3] s (fX9_lets p1 p2 p3 s) := by
  refine mf_intro rfl (Nat.le_of_ble_eq_true rfl) rfl rfl ?_
  refine mf_sub (loc' := [(0, .ref 1), (1, .int p1), (2, .int p2), (3, .int p3)]) [0, 1, 2, 3] rfl ?_
  unfold fX9_lets
  refine mf_bipush 13 dX9_lets_0 (by decide) ?_
  refine mf_iload_n dX9_lets_2 rfl 1 rfl ?_
  refine mf_bipush 6 dX9_lets_3 (by decide) ?_
  refine mf_imul dX9_lets_5 ?_
  refine mf_iadd dX9_lets_6 ?_
  refine mf_leti (fun x1 => ?_)
  refine mf_istore [(4, .int x1), (0, .ref 1), (1, .int p1), (2, .int p2), (3, .int p3)] dX9_lets_7 (by decide) rfl ?_
  refine mf_iload_n dX9_lets_9 rfl 3 rfl ?_
  refine mf_bipush 9 dX9_lets_10 (by decide) ?_
  refine mf_icmp_eq 54 dX9_lets_12 (by decide) ?_ ?_
  · refine mf_iconst 1 dX9_lets_54 (by decide) ?_
    refine mf_goto 59 dX9_lets_55 (by decide) ?_
    exact mf_zret (by decide) dX9_lets_59
  · refine mf_aload_n dX9_lets_15 rfl 1 rfl ?_
    refine mf_getR fl_X9_11 rfl rfl dX9_lets_16 ?_
    refine mf_iconst 1 dX9_lets_19 (by decide) ?_
    refine mf_iload_n dX9_lets_20 rfl 2 rfl ?_
    refine mf_iadd dX9_lets_21 ?_
    refine mf_iald rfl dX9_lets_22 ?_
    refine mf_iconst 2 dX9_lets_23 (by decide) ?_
    refine mf_iand dX9_lets_24 ?_
    refine mf_if_eq 54 dX9_lets_25 (by decide) ?_ ?_
    · refine mf_iconst 1 dX9_lets_54 (by decide) ?_
      refine mf_goto 59 dX9_lets_55 (by decide) ?_
      exact mf_zret (by decide) dX9_lets_59
    · refine mf_aload_n dX9_lets_28 rfl 1 rfl ?_
      refine mf_getR fl_X9_11 rfl rfl dX9_lets_29 ?_
      refine mf_iload dX9_lets_32 0 rfl ?_
      refine mf_iload_n dX9_lets_34 rfl 4 rfl ?_
      refine mf_iadd dX9_lets_35 ?_
      refine mf_iald rfl dX9_lets_36 ?_
      refine mf_iconst 1 dX9_lets_37 (by decide) ?_
      refine mf_icmp_eq 54 dX9_lets_38 (by decide) ?_ ?_
      · refine mf_iconst 1 dX9_lets_54 (by decide) ?_
        refine mf_goto 59 dX9_lets_55 (by decide) ?_
        exact mf_zret (by decide) dX9_lets_59
      · refine mf_aload_n dX9_lets_41 rfl 1 rfl ?_
        refine mf_getR fl_X9_11 rfl rfl dX9_lets_42 ?_
        refine mf_iload dX9_lets_45 0 rfl ?_
        refine mf_iload_n dX9_lets_47 rfl 3 rfl ?_
        refine mf_iadd dX9_lets_48 ?_
        refine mf_iald rfl dX9_lets_49 ?_
        refine mf_iconst 1 dX9_lets_50 (by decide) ?_
        refine mf_icmp_ne 58 dX9_lets_51 (by decide) ?_ ?_
        · refine mf_iconst 1 dX9_lets_54 (by decide) ?_
          refine mf_goto 59 dX9_lets_55 (by decide) ?_
          exact mf_zret (by decide) dX9_lets_59
        · refine mf_iconst 0 dX9_lets_58 (by decide) ?_
          exact mf_zret (by decide) dX9_lets_59
set_option maxRecDepth 100000 in
set_option maxHeartbeats 4000000 in
theorem wX9_takes (l : Launch) (p1 : Int32) (p2 : Int32) (p3 : Int32) (p4 : Int32) (s : mx_G) : mf_M ei l yX9_takes cX9_takes 6 (some .boolean) 1 [.ref 1, .int p1, .int p2, .int p3, .int p4] s (fX9_takes p1 p2 p3 p4 s) := by
  refine mf_intro rfl (Nat.le_of_ble_eq_true rfl) rfl rfl ?_
  refine mf_sub (loc' := [(0, .ref 1), (1, .int p1), (2, .int p2), (3, .int p3), (4, .int p4)]) [0, 1, 2, 3, 4] rfl ?_
  unfold fX9_takes
  refine mf_iload_n dX9_takes_0 rfl 1 rfl ?_
  refine mf_bipush 6 dX9_takes_1 (by decide) ?_
  refine mf_imul dX9_takes_3 ?_
  refine mf_iload_n dX9_takes_4 rfl 2 rfl ?_
  refine mf_iadd dX9_takes_5 ?_
  refine mf_leti (fun x1 => ?_)
  refine mf_istore [(5, .int x1), (0, .ref 1), (1, .int p1), (2, .int p2), (3, .int p3), (4, .int p4)] dX9_takes_6 (by decide) rfl ?_
  refine mf_aload_n dX9_takes_8 rfl 1 rfl ?_
  refine mf_getR fl_X9_11 rfl rfl dX9_takes_9 ?_
  refine mf_bipush 13 dX9_takes_12 (by decide) ?_
  refine mf_iload dX9_takes_14 0 rfl ?_
  refine mf_iadd dX9_takes_16 ?_
  refine mf_iald rfl dX9_takes_17 ?_
  refine mf_if_eq 67 dX9_takes_18 (by decide) ?_ ?_
  · refine mf_iconst 0 dX9_takes_67 (by decide) ?_
    exact mf_zret (by decide) dX9_takes_68
  · refine mf_aload_n dX9_takes_21 rfl 1 rfl ?_
    refine mf_getR fl_X9_11 rfl rfl dX9_takes_22 ?_
    refine mf_bipush 49 dX9_takes_25 (by decide) ?_
    refine mf_iload dX9_takes_27 0 rfl ?_
    refine mf_iadd dX9_takes_29 ?_
    refine mf_iald rfl dX9_takes_30 ?_
    refine mf_if_ne 67 dX9_takes_31 (by decide) ?_ ?_
    · refine mf_iload_n dX9_takes_34 rfl 4 rfl ?_
      refine mf_iconst 1 dX9_takes_35 (by decide) ?_
      refine mf_iload_n dX9_takes_36 rfl 2 rfl ?_
      refine mf_ishl dX9_takes_37 ?_
      refine mf_aload_n dX9_takes_38 rfl 1 rfl ?_
      refine mf_getR fl_X9_11 rfl rfl dX9_takes_39 ?_
      refine mf_bipush 7 dX9_takes_42 (by decide) ?_
      refine mf_iload_n dX9_takes_44 rfl 2 rfl ?_
      refine mf_iadd dX9_takes_45 ?_
      refine mf_iald rfl dX9_takes_46 ?_
      refine mf_ior dX9_takes_47 ?_
      refine mf_iand dX9_takes_48 ?_
      refine mf_if_ne 67 dX9_takes_49 (by decide) ?_ ?_
      · refine mf_aload_n dX9_takes_52 rfl 1 rfl ?_
        refine mf_iload_n dX9_takes_53 rfl 3 rfl ?_
        refine mf_iload dX9_takes_54 5 rfl ?_
        refine mf_iload_n dX9_takes_56 rfl 2 rfl ?_
        refine mf_callVi (stk := []) (wX9_lets l _ _ _ _) cl_X9_69 rfl (by decide) rfl rfl rfl (Nat.le_of_ble_eq_true rfl) rfl rfl dX9_takes_57 (fun x2 s3 => ?_)
        refine mf_if_eq 67 dX9_takes_60 (by decide) ?_ ?_
        · refine mf_iconst 0 dX9_takes_67 (by decide) ?_
          exact mf_zret (by decide) dX9_takes_68
        · refine mf_iconst 1 dX9_takes_63 (by decide) ?_
          refine mf_goto 68 dX9_takes_64 (by decide) ?_
          exact mf_zret (by decide) dX9_takes_68
      · refine mf_iconst 0 dX9_takes_67 (by decide) ?_
        exact mf_zret (by decide) dX9_takes_68
    · refine mf_iconst 0 dX9_takes_67 (by decide) ?_
      exact mf_zret (by decide) dX9_takes_68
set_option maxRecDepth 100000 in
set_option maxHeartbeats 4000000 in
theorem wlX8_unitAbove_4 (l : Launch) (a0 : Int32)   : ∀ (n : Nat) (a1 : Int32) (a2 : Int32) (s0 : mx_G), mf_X ei l RX8 cX8_unitAbove 3 (some .int) "unitAbove" 0 (lX8_unitAbove_4 a0  n a1 a2 s0) 4 [(0, .int a0), (1, .int a1), (2, .int a2)] [] s0 := by
  intro n
  induction n with
  | zero => intro a1 a2 s0; exact mf_none
  | succ n ih4 =>
    intro a1 a2 s0
    rw [lX8_unitAbove_4]
    refine mf_iload_n dX8_unitAbove_4 rfl 2 rfl ?_
    refine mf_iload_n dX8_unitAbove_5 rfl 0 rfl ?_
    refine mf_icmp_ge 20 dX8_unitAbove_6 (by decide) ?_ ?_
    · refine mf_iload_n dX8_unitAbove_20 rfl 1 rfl ?_
      exact mf_iret dX8_unitAbove_21
    · refine mf_iload_n dX8_unitAbove_9 rfl 1 rfl ?_
      refine mf_bipush 10 dX8_unitAbove_10 (by decide) ?_
      refine mf_imul dX8_unitAbove_12 ?_
      refine mf_leti (fun x1 => ?_)
      refine mf_istore_n [(1, .int x1), (0, .int a0), (2, .int a2)] dX8_unitAbove_13 rfl (by decide) rfl ?_
      refine mf_iinc 1 [(2, .int (a2 + 1)), (1, .int x1), (0, .int a0)] dX8_unitAbove_14 2 rfl (by decide) (by decide) rfl ?_
      refine mf_goto 4 dX8_unitAbove_17 (by decide) ?_
      exact mf_sub [2, 1, 0] rfl (ih4 _ _ _)
set_option maxRecDepth 100000 in
set_option maxHeartbeats 4000000 in
theorem wX8_unitAbove (l : Launch) (p0 : Int32) (s : mx_G) : mf_M ei l yX8_unitAbove cX8_unitAbove 3 (some .int) 0 [.int p0] s (fX8_unitAbove p0 s) := by
  refine mf_intro rfl (Nat.le_of_ble_eq_true rfl) rfl rfl ?_
  refine mf_sub (loc' := [(0, .int p0)]) [0] rfl ?_
  unfold fX8_unitAbove
  refine mf_iconst 1 dX8_unitAbove_0 (by decide) ?_
  refine mf_istore_n [(1, .int 1), (0, .int p0)] dX8_unitAbove_1 rfl (by decide) rfl ?_
  refine mf_iconst 0 dX8_unitAbove_2 (by decide) ?_
  refine mf_istore_n [(2, .int 0), (1, .int 1), (0, .int p0)] dX8_unitAbove_3 rfl (by decide) rfl ?_
  exact mf_sub [2, 1, 0] rfl (wlX8_unitAbove_4 l _ FU _ _ _)
set_option maxRecDepth 100000 in
set_option maxHeartbeats 4000000 in
theorem wX8_numberOf (l : Launch) (p1 : Int32) (s : mx_G) : mf_M ei l yX8_numberOf cX8_numberOf 2 (some .int) 0 [.ref 15, .int p1] s (fX8_numberOf p1 s) := by
  refine mf_intro rfl (Nat.le_of_ble_eq_true rfl) rfl rfl ?_
  refine mf_sub (loc' := [(0, .ref 15), (1, .int p1)]) [0, 1] rfl ?_
  unfold fX8_numberOf
  refine mf_aload_n dX8_numberOf_0 rfl 0 rfl ?_
  refine mf_getR fl_X8_30 rfl rfl dX8_numberOf_1 ?_
  refine mf_iload_n dX8_numberOf_4 rfl 1 rfl ?_
  refine mf_iald rfl dX8_numberOf_5 ?_
  refine mf_ldc kl_X8_48 dX8_numberOf_6 ?_
  refine mf_irem (by decide) dX8_numberOf_8 ?_
  exact mf_iret dX8_numberOf_9
set_option maxRecDepth 100000 in
set_option maxHeartbeats 4000000 in
theorem wX9_rankOf (l : Launch) (p1 : Int32) (p2 : Int32) (p3 : Int32) (p4 : Int32) (s : mx_G) : mf_M ei l yX9_rankOf cX9_rankOf 7 (some .int) 0 [.ref 1, .int p1, .int p2, .int p3, .int p4] s (fX9_rankOf p1 p2 p3 p4 s) := by
  refine mf_intro rfl (Nat.le_of_ble_eq_true rfl) rfl rfl ?_
  refine mf_sub (loc' := [(0, .ref 1), (1, .int p1), (2, .int p2), (3, .int p3), (4, .int p4)]) [0, 1, 2, 3, 4] rfl ?_
  unfold fX9_rankOf
  refine mf_iload_n dX9_rankOf_0 rfl 1 rfl ?_
  refine mf_bipush 6 dX9_rankOf_1 (by decide) ?_
  refine mf_imul dX9_rankOf_3 ?_
  refine mf_iload_n dX9_rankOf_4 rfl 2 rfl ?_
  refine mf_iadd dX9_rankOf_5 ?_
  refine mf_leti (fun x1 => ?_)
  refine mf_istore [(5, .int x1), (0, .ref 1), (1, .int p1), (2, .int p2), (3, .int p3), (4, .int p4)] dX9_rankOf_6 (by decide) rfl ?_
  refine mf_aload_n dX9_rankOf_8 rfl 1 rfl ?_
  refine mf_getR fl_X9_11 rfl rfl dX9_rankOf_9 ?_
  refine mf_iconst 1 dX9_rankOf_12 (by decide) ?_
  refine mf_iload_n dX9_rankOf_13 rfl 2 rfl ?_
  refine mf_iadd dX9_rankOf_14 ?_
  refine mf_iald rfl dX9_rankOf_15 ?_
  refine mf_iconst 1 dX9_rankOf_16 (by decide) ?_
  refine mf_iand dX9_rankOf_17 ?_
  refine mf_join (fun (J : Int32 → mx_G → Option (Int32 × mx_G)) => ∀ (q0_35 : Int32) (s_35 : mx_G), mf_X ei l RX9 cX9_rankOf 7 (some .int) "rankOf" 0 (J q0_35 s_35) 35 [(0, .ref 1), (3, .int p3), (4, .int p4), (5, .int x1)] [.int q0_35] s_35) ?_ (fun J35 hJ35 => ?_)
  · intro q0_35 s_35
    refine mf_istore [(6, .int q0_35), (0, .ref 1), (3, .int p3), (4, .int p4), (5, .int x1)] dX9_rankOf_35 (by decide) rfl ?_
    refine mf_iload dX9_rankOf_37 0 rfl ?_
    refine mf_bipush 10 dX9_rankOf_39 (by decide) ?_
    refine mf_imul dX9_rankOf_41 ?_
    refine mf_bipush 9 dX9_rankOf_42 (by decide) ?_
    refine mf_iadd dX9_rankOf_44 ?_
    refine mf_aload_n dX9_rankOf_45 rfl 1 rfl ?_
    refine mf_getR fl_X9_11 rfl rfl dX9_rankOf_46 ?_
    refine mf_bipush 85 dX9_rankOf_49 (by decide) ?_
    refine mf_iload dX9_rankOf_51 4 rfl ?_
    refine mf_iadd dX9_rankOf_53 ?_
    refine mf_iald rfl dX9_rankOf_54 ?_
    refine mf_isub dX9_rankOf_55 ?_
    refine mf_bipush 8 dX9_rankOf_56 (by decide) ?_
    refine mf_imul dX9_rankOf_58 ?_
    refine mf_iload_n dX9_rankOf_59 rfl 2 rfl ?_
    refine mf_iadd dX9_rankOf_60 ?_
    refine mf_ldc kl_X9_73 dX9_rankOf_61 ?_
    refine mf_imul dX9_rankOf_63 ?_
    refine mf_iload dX9_rankOf_64 3 rfl ?_
    refine mf_iadd dX9_rankOf_66 ?_
    exact mf_iret dX9_rankOf_67
  refine mf_if_ne 25 dX9_rankOf_18 (by decide) ?_ ?_
  · refine mf_iconst 0 dX9_rankOf_21 (by decide) ?_
    refine mf_goto 35 dX9_rankOf_22 (by decide) ?_
    exact mf_sub [1, 4, 5, 0] rfl (hJ35 _ _)
  · refine mf_aload_n dX9_rankOf_25 rfl 1 rfl ?_
    refine mf_getR fl_X9_11 rfl rfl dX9_rankOf_26 ?_
    refine mf_bipush 13 dX9_rankOf_29 (by decide) ?_
    refine mf_iload dX9_rankOf_31 0 rfl ?_
    refine mf_iadd dX9_rankOf_33 ?_
    refine mf_iald rfl dX9_rankOf_34 ?_
    exact mf_sub [1, 4, 5, 0] rfl (hJ35 _ _)
set_option maxRecDepth 100000 in
set_option maxHeartbeats 4000000 in
theorem wlX8_extend_33 (l : Launch) (a2 : Int32) (a3 : Int32) (a4 : Int32) (a5 : Int32)   : ∀ (n : Nat) (a6 : Int32) (s0 : mx_G), mf_X ev l RX8 cX8_extend 8 none "extend" 3 (lX8_extend_33 a2 a3 a4 a5  n a6 s0) 33 [(0, .ref 15), (1, .ref 1), (2, .int a2), (3, .int a3), (4, .int a4), (5, .int a5), (6, .int a6)] [] s0 := by
  intro n
  induction n with
  | zero => intro a6 s0; exact mf_none
  | succ n ih33 =>
    intro a6 s0
    rw [lX8_extend_33]
    refine mf_iload dX8_extend_33 6 rfl ?_
    refine mf_aload_n dX8_extend_35 rfl 1 rfl ?_
    refine mf_callVi (stk := [.int a6]) (wX9_size l _) cl_X8_91 rfl (by decide) rfl rfl rfl (Nat.le_of_ble_eq_true rfl) rfl rfl dX8_extend_36 (fun x5 s6 => ?_)
    refine mf_icmp_ge 102 dX8_extend_39 (by decide) ?_ ?_
    · exact mf_vret dX8_extend_102
    · refine mf_aload_n dX8_extend_42 rfl 1 rfl ?_
      refine mf_iload dX8_extend_43 6 rfl ?_
      refine mf_iload_n dX8_extend_45 rfl 3 rfl ?_
      refine mf_aload_n dX8_extend_46 rfl 0 rfl ?_
      refine mf_getR fl_X8_33 rfl rfl dX8_extend_47 ?_
      refine mf_iload_n dX8_extend_50 rfl 2 rfl ?_
      refine mf_iald rfl dX8_extend_51 ?_
      refine mf_iload dX8_extend_52 4 rfl ?_
      refine mf_callVi (stk := []) (wX9_takes l _ _ _ _ _) cl_X8_95 rfl (by decide) rfl rfl rfl (Nat.le_of_ble_eq_true rfl) rfl rfl dX8_extend_54 (fun x7 s8 => ?_)
      refine mf_if_eq 96 dX8_extend_57 (by decide) ?_ ?_
      · refine mf_iinc 1 [(6, .int (a6 + 1)), (0, .ref 15), (1, .ref 1), (2, .int a2), (3, .int a3), (4, .int a4), (5, .int a5)] dX8_extend_96 6 rfl (by decide) (by decide) rfl ?_
        refine mf_goto 33 dX8_extend_99 (by decide) ?_
        exact mf_sub [1, 2, 3, 4, 5, 6, 0] rfl (ih33 _ _)
      · refine mf_iload dX8_extend_60 6 rfl ?_
        refine mf_iload dX8_extend_62 5 rfl ?_
        refine mf_iconst 1 dX8_extend_64 (by decide) ?_
        refine mf_isub dX8_extend_65 ?_
        refine mf_callSi (stk := [.int a6]) (wX8_unitAbove l _ _) cl_X8_99 rfl (by decide) rfl (Nat.le_of_ble_eq_true rfl) rfl rfl dX8_extend_66 (fun x9 s10 => ?_)
        refine mf_imul dX8_extend_69 ?_
        refine mf_aload_n dX8_extend_70 rfl 0 rfl ?_
        refine mf_iload_n dX8_extend_71 rfl 2 rfl ?_
        refine mf_callVi (stk := [.int (a6 * x9)]) (wX8_numberOf l _ _) cl_X8_54 rfl (by decide) rfl rfl rfl (Nat.le_of_ble_eq_true rfl) rfl rfl dX8_extend_72 (fun x11 s12 => ?_)
        refine mf_iadd dX8_extend_75 ?_
        refine mf_leti (fun x13 => ?_)
        refine mf_istore [(7, .int x13), (0, .ref 15), (1, .ref 1), (2, .int a2), (3, .int a3), (4, .int a4), (5, .int a5), (6, .int a6)] dX8_extend_76 (by decide) rfl ?_
        refine mf_aload_n dX8_extend_78 rfl 1 rfl ?_
        refine mf_iload dX8_extend_79 7 rfl ?_
        refine mf_iload_n dX8_extend_81 rfl 3 rfl ?_
        refine mf_aload_n dX8_extend_82 rfl 2 rfl ?_
        refine mf_iload dX8_extend_83 7 rfl ?_
        refine mf_iload_n dX8_extend_85 rfl 4 rfl ?_
        refine mf_iload dX8_extend_86 6 rfl ?_
        refine mf_iload dX8_extend_88 0 rfl ?_
        refine mf_callVi (stk := [.int a2, .int a6, .ref 15]) (wX9_rankOf l _ _ _ _ _) cl_X8_102 rfl (by decide) rfl rfl rfl (Nat.le_of_ble_eq_true rfl) rfl rfl dX8_extend_90 (fun x14 s15 => ?_)
        refine mf_callVv (stk := []) (wX8_add l _ _ _ _) cl_X8_77 rfl (by decide) rfl rfl rfl (Nat.le_of_ble_eq_true rfl) rfl rfl dX8_extend_93 (fun us16 s16 => ?_)
        refine mf_iinc 1 [(6, .int (a6 + 1)), (7, .int x13), (0, .ref 15), (1, .ref 1), (2, .int a2), (3, .int a3), (4, .int a4), (5, .int a5)] dX8_extend_96 7 rfl (by decide) (by decide) rfl ?_
        refine mf_goto 33 dX8_extend_99 (by decide) ?_
        exact mf_sub [2, 3, 4, 5, 6, 7, 0] rfl (ih33 _ _)
set_option maxRecDepth 100000 in
set_option maxHeartbeats 4000000 in
theorem wX8_extend (l : Launch) (p2 : Int32) (s : mx_G) : mf_M ev l yX8_extend cX8_extend 8 none 3 [.ref 15, .ref 1, .int p2] s (fX8_extend p2 s) := by
  refine mf_intro rfl (Nat.le_of_ble_eq_true rfl) rfl rfl ?_
  refine mf_sub (loc' := [(0, .ref 15), (1, .ref 1), (2, .int p2)]) [0, 1, 2] rfl ?_
  unfold fX8_extend
  refine mf_aload_n dX8_extend_0 rfl 0 rfl ?_
  refine mf_getR fl_X8_24 rfl rfl dX8_extend_1 ?_
  refine mf_iload_n dX8_extend_4 rfl 2 rfl ?_
  refine mf_iald rfl dX8_extend_5 ?_
  refine mf_leti (fun x1 => ?_)
  refine mf_istore_n [(3, .int x1), (0, .ref 15), (1, .ref 1), (2, .int p2)] dX8_extend_6 rfl (by decide) rfl ?_
  refine mf_aload_n dX8_extend_7 rfl 1 rfl ?_
  refine mf_iload_n dX8_extend_8 rfl 3 rfl ?_
  refine mf_callVi (stk := []) (wX8_secondOf l _ _) cl_X8_88 rfl (by decide) rfl rfl rfl (Nat.le_of_ble_eq_true rfl) rfl rfl dX8_extend_9 (fun x2 s3 => ?_)
  refine mf_istore [(4, .int x2), (3, .int x1), (0, .ref 15), (1, .ref 1), (2, .int p2)] dX8_extend_12 (by decide) rfl ?_
  refine mf_aload_n dX8_extend_14 rfl 2 rfl ?_
  refine mf_getR fl_X8_30 rfl rfl dX8_extend_15 ?_
  refine mf_iload_n dX8_extend_18 rfl 4 rfl ?_
  refine mf_iald rfl dX8_extend_19 ?_
  refine mf_ldc kl_X8_49 dX8_extend_20 ?_
  refine mf_irem (by decide) dX8_extend_22 ?_
  refine mf_ldc kl_X8_48 dX8_extend_23 ?_
  refine mf_idiv (by decide) dX8_extend_25 ?_
  refine mf_iconst 1 dX8_extend_26 (by decide) ?_
  refine mf_iadd dX8_extend_27 ?_
  refine mf_leti (fun x4 => ?_)
  refine mf_istore [(5, .int x4), (4, .int x2), (3, .int x1), (0, .ref 15), (1, .ref 1), (2, .int p2)] dX8_extend_28 (by decide) rfl ?_
  refine mf_iconst 1 dX8_extend_30 (by decide) ?_
  refine mf_istore [(6, .int 1), (5, .int x4), (4, .int x2), (3, .int x1), (0, .ref 15), (1, .ref 1), (2, .int p2)] dX8_extend_31 (by decide) rfl ?_
  exact mf_sub [4, 5, 6, 3, 2, 1, 0] rfl (wlX8_extend_33 l _ _ _ _ FU _ _)
set_option maxRecDepth 100000 in
set_option maxHeartbeats 4000000 in
theorem wlX8_isBasis_2 (l : Launch)    : ∀ (n : Nat) (a2 : Int32) (s0 : mx_G), mf_X ei l RX8 cX8_isBasis 3 (some .boolean) "isBasis" 0 (lX8_isBasis_2   n a2 s0) 2 [(0, .ref 15), (1, .ref 1), (2, .int a2)] [] s0 := by
  intro n
  induction n with
  | zero => intro a2 s0; exact mf_none
  | succ n ih2 =>
    intro a2 s0
    rw [lX8_isBasis_2]
    refine mf_iload_n dX8_isBasis_2 rfl 2 rfl ?_
    refine mf_bipush 121 dX8_isBasis_3 (by decide) ?_
    refine mf_icmp_ge 31 dX8_isBasis_5 (by decide) ?_ ?_
    · refine mf_iconst 1 dX8_isBasis_31 (by decide) ?_
      exact mf_zret (by decide) dX8_isBasis_32
    · refine mf_aload_n dX8_isBasis_8 rfl 0 rfl ?_
      refine mf_getR fl_X8_13 rfl rfl dX8_isBasis_9 ?_
      refine mf_iload_n dX8_isBasis_12 rfl 2 rfl ?_
      refine mf_iald rfl dX8_isBasis_13 ?_
      refine mf_aload_n dX8_isBasis_14 rfl 1 rfl ?_
      refine mf_getR fl_X8_62 rfl rfl dX8_isBasis_15 ?_
      refine mf_iload_n dX8_isBasis_18 rfl 2 rfl ?_
      refine mf_iald rfl dX8_isBasis_19 ?_
      refine mf_icmp_eq 25 dX8_isBasis_20 (by decide) ?_ ?_
      · refine mf_iinc 1 [(2, .int (a2 + 1)), (0, .ref 15), (1, .ref 1)] dX8_isBasis_25 2 rfl (by decide) (by decide) rfl ?_
        refine mf_goto 2 dX8_isBasis_28 (by decide) ?_
        exact mf_sub [1, 2, 0] rfl (ih2 _ _)
      · refine mf_iconst 0 dX8_isBasis_23 (by decide) ?_
        exact mf_zret (by decide) dX8_isBasis_24
set_option maxRecDepth 100000 in
set_option maxHeartbeats 4000000 in
theorem wX8_isBasis (l : Launch) (s : mx_G) : mf_M ei l yX8_isBasis cX8_isBasis 3 (some .boolean) 0 [.ref 15, .ref 1] s (fX8_isBasis  s) := by
  refine mf_intro rfl (Nat.le_of_ble_eq_true rfl) rfl rfl ?_
  refine mf_sub (loc' := [(0, .ref 15), (1, .ref 1)]) [0, 1] rfl ?_
  unfold fX8_isBasis
  refine mf_iconst 0 dX8_isBasis_0 (by decide) ?_
  refine mf_istore_n [(2, .int 0), (0, .ref 15), (1, .ref 1)] dX8_isBasis_1 rfl (by decide) rfl ?_
  exact mf_sub [1, 2, 0] rfl (wlX8_isBasis_2 l FU _ _)
set_option maxRecDepth 100000 in
set_option maxHeartbeats 4000000 in
theorem wlX8_freshen_63 (l : Launch)    : ∀ (n : Nat) (a2 : Int32) (s0 : mx_G), mf_X ev l RX8 cX8_freshen 3 none "freshen" 4 (lX8_freshen_63   n a2 s0) 63 [(0, .ref 15), (1, .ref 1), (2, .int a2)] [] s0 := by
  intro n
  induction n with
  | zero => intro a2 s0; exact mf_none
  | succ n ih63 =>
    intro a2 s0
    rw [lX8_freshen_63]
    refine mf_iload_n dX8_freshen_63 rfl 2 rfl ?_
    refine mf_aload_n dX8_freshen_64 rfl 0 rfl ?_
    refine mf_getI fl_X8_21 rfl rfl dX8_freshen_65 ?_
    refine mf_icmp_ge 90 dX8_freshen_68 (by decide) ?_ ?_
    · refine mf_aload_n dX8_freshen_90 rfl 0 rfl ?_
      refine mf_callVv (stk := []) (wX8_notePlaces l _) cl_X8_85 rfl (by decide) rfl rfl rfl (Nat.le_of_ble_eq_true rfl) rfl rfl dX8_freshen_91 (fun us6 s6 => ?_)
      exact mf_vret dX8_freshen_94
    · refine mf_iload_n dX8_freshen_71 rfl 2 rfl ?_
      refine mf_sipush 326 dX8_freshen_72 (by decide) ?_
      refine mf_icmp_ge 90 dX8_freshen_75 (by decide) ?_ ?_
      · refine mf_aload_n dX8_freshen_90 rfl 0 rfl ?_
        refine mf_callVv (stk := []) (wX8_notePlaces l _) cl_X8_85 rfl (by decide) rfl rfl rfl (Nat.le_of_ble_eq_true rfl) rfl rfl dX8_freshen_91 (fun us7 s7 => ?_)
        exact mf_vret dX8_freshen_94
      · refine mf_aload_n dX8_freshen_78 rfl 0 rfl ?_
        refine mf_aload_n dX8_freshen_79 rfl 1 rfl ?_
        refine mf_iload_n dX8_freshen_80 rfl 2 rfl ?_
        refine mf_callVv (stk := []) (wX8_extend l _ _) cl_X8_81 rfl (by decide) rfl rfl rfl (Nat.le_of_ble_eq_true rfl) rfl rfl dX8_freshen_81 (fun us8 s8 => ?_)
        refine mf_iinc 1 [(2, .int (a2 + 1)), (0, .ref 15), (1, .ref 1)] dX8_freshen_84 2 rfl (by decide) (by decide) rfl ?_
        refine mf_goto 63 dX8_freshen_87 (by decide) ?_
        exact mf_sub [1, 2, 0] rfl (ih63 _ _)
set_option maxRecDepth 100000 in
set_option maxHeartbeats 4000000 in
theorem wX8_freshen (l : Launch) (s : mx_G) : mf_M ev l yX8_freshen cX8_freshen 3 none 4 [.ref 15, .ref 1] s (fX8_freshen  s) := by
  refine mf_intro rfl (Nat.le_of_ble_eq_true rfl) rfl rfl ?_
  refine mf_sub (loc' := [(0, .ref 15), (1, .ref 1)]) [0, 1] rfl ?_
  unfold fX8_freshen
  refine mf_aload_n dX8_freshen_0 rfl 0 rfl ?_
  refine mf_getI fl_X8_17 rfl rfl dX8_freshen_1 ?_
  refine mf_join (fun (J : mx_G → Option (Unit × mx_G)) => ∀ (s_16 : mx_G), mf_X ev l RX8 cX8_freshen 3 none "freshen" 4 (J s_16) 16 [(0, .ref 15), (1, .ref 1)] [] s_16) ?_ (fun J16 hJ16 => ?_)
  · intro s_16
    refine mf_aload_n dX8_freshen_16 rfl 1 rfl ?_
    refine mf_getR fl_X8_62 rfl rfl dX8_freshen_17 ?_
    refine mf_iconst 0 dX8_freshen_20 (by decide) ?_
    refine mf_aload_n dX8_freshen_21 rfl 0 rfl ?_
    refine mf_getR fl_X8_13 rfl rfl dX8_freshen_22 ?_
    refine mf_iconst 0 dX8_freshen_25 (by decide) ?_
    refine mf_bipush 121 dX8_freshen_26 (by decide) ?_
    refine mf_copyi cl_X8_65 ac_2 ac_3 ac_4 rfl rfl (by decide) (Nat.le_of_ble_eq_true rfl) dX8_freshen_28 (fun s1 => ?_)
    refine mf_aload_n dX8_freshen_31 rfl 0 rfl ?_
    refine mf_dup rfl dX8_freshen_32 ?_
    refine mf_getI fl_X8_17 rfl rfl dX8_freshen_33 ?_
    refine mf_iconst 1 dX8_freshen_36 (by decide) ?_
    refine mf_iadd dX8_freshen_37 ?_
    refine mf_putI fl_X8_17 rfl rfl dX8_freshen_38 (fun s2 => ?_)
    refine mf_aload_n dX8_freshen_41 rfl 0 rfl ?_
    refine mf_iconst 0 dX8_freshen_42 (by decide) ?_
    refine mf_putI fl_X8_21 rfl rfl dX8_freshen_43 (fun s3 => ?_)
    refine mf_aload_n dX8_freshen_46 rfl 0 rfl ?_
    refine mf_getR fl_X8_42 rfl rfl dX8_freshen_47 ?_
    refine mf_iconst 0 dX8_freshen_50 (by decide) ?_
    refine mf_callSv (stk := []) (wJA_fillI l _ _) cl_X8_71 rfl (by decide) rfl (Nat.le_of_ble_eq_true rfl) rfl rfl dX8_freshen_51 (fun us4 s4 => ?_)
    refine mf_aload_n dX8_freshen_54 rfl 0 rfl ?_
    refine mf_iconst 0 dX8_freshen_55 (by decide) ?_
    refine mf_iconst (-1) dX8_freshen_56 (by decide) ?_
    refine mf_iconst 0 dX8_freshen_57 (by decide) ?_
    refine mf_callVv (stk := []) (wX8_add l _ _ _ _) cl_X8_77 rfl (by decide) rfl rfl rfl (Nat.le_of_ble_eq_true rfl) rfl rfl dX8_freshen_58 (fun us5 s5 => ?_)
    refine mf_iconst 0 dX8_freshen_61 (by decide) ?_
    refine mf_istore_n [(2, .int 0), (0, .ref 15), (1, .ref 1)] dX8_freshen_62 rfl (by decide) rfl ?_
    exact mf_sub [1, 2, 0] rfl (wlX8_freshen_63 l FU _ _)
  refine mf_if_le 16 dX8_freshen_4 (by decide) ?_ ?_
  · exact mf_sub [0, 1] rfl (hJ16 _)
  · refine mf_aload_n dX8_freshen_7 rfl 0 rfl ?_
    refine mf_aload_n dX8_freshen_8 rfl 1 rfl ?_
    refine mf_callVi (stk := []) (wX8_isBasis l _) cl_X8_58 rfl (by decide) rfl rfl rfl (Nat.le_of_ble_eq_true rfl) rfl rfl dX8_freshen_9 (fun x9 s10 => ?_)
    refine mf_if_eq 16 dX8_freshen_12 (by decide) ?_ ?_
    · exact mf_sub [0, 1] rfl (hJ16 _)
    · exact mf_vret dX8_freshen_15
set_option maxRecDepth 100000 in
set_option maxHeartbeats 4000000 in
theorem wX8_countOf (l : Launch) (p1 : Int32) (s : mx_G) : mf_M ei l yX8_countOf cX8_countOf 2 (some .int) 0 [.ref 15, .int p1] s (fX8_countOf p1 s) := by
  refine mf_intro rfl (Nat.le_of_ble_eq_true rfl) rfl rfl ?_
  refine mf_sub (loc' := [(0, .ref 15), (1, .int p1)]) [0, 1] rfl ?_
  unfold fX8_countOf
  refine mf_aload_n dX8_countOf_0 rfl 0 rfl ?_
  refine mf_getR fl_X8_42 rfl rfl dX8_countOf_1 ?_
  refine mf_iload_n dX8_countOf_4 rfl 1 rfl ?_
  refine mf_iald rfl dX8_countOf_5 ?_
  exact mf_iret dX8_countOf_6
set_option maxRecDepth 100000 in
set_option maxHeartbeats 4000000 in
theorem wX9_chosenBy (l : Launch) (p1 : Int32) (s : mx_G) : mf_M ei l yX9_chosenBy cX9_chosenBy 2 (some .int) 0 [.ref 1, .int p1] s (fX9_chosenBy p1 s) := by
  refine mf_intro rfl (Nat.le_of_ble_eq_true rfl) rfl rfl ?_
  refine mf_sub (loc' := [(0, .ref 1), (1, .int p1)]) [0, 1] rfl ?_
  unfold fX9_chosenBy
  refine mf_aload_n dX9_chosenBy_0 rfl 0 rfl ?_
  refine mf_getR fl_X9_11 rfl rfl dX9_chosenBy_1 ?_
  refine mf_bipush 121 dX9_chosenBy_4 (by decide) ?_
  refine mf_iload_n dX9_chosenBy_6 rfl 1 rfl ?_
  refine mf_iadd dX9_chosenBy_7 ?_
  refine mf_iald rfl dX9_chosenBy_8 ?_
  exact mf_iret dX9_chosenBy_9
set_option maxRecDepth 100000 in
set_option maxHeartbeats 4000000 in
theorem wX0_putNone (l : Launch) (p1 : Int32) (s : mx_G) : mf_M ev l yX0_putNone cX0_putNone 2 none 0 [.ref 9, .int p1] s (fX0_putNone p1 s) := by
  refine mf_intro rfl (Nat.le_of_ble_eq_true rfl) rfl rfl ?_
  refine mf_sub (loc' := [(0, .ref 9), (1, .int p1)]) [0, 1] rfl ?_
  unfold fX0_putNone
  refine mf_aload_n dX0_putNone_0 rfl 0 rfl ?_
  refine mf_getR fl_X0_9 rfl rfl dX0_putNone_1 ?_
  refine mf_iload_n dX0_putNone_4 rfl 1 rfl ?_
  refine mf_bipush (-4) dX0_putNone_5 (by decide) ?_
  refine mf_iast rfl dX0_putNone_7 (fun s1 => ?_)
  refine mf_aload_n dX0_putNone_8 rfl 0 rfl ?_
  refine mf_getR fl_X0_15 rfl rfl dX0_putNone_9 ?_
  refine mf_iload_n dX0_putNone_12 rfl 1 rfl ?_
  refine mf_iconst 0 dX0_putNone_13 (by decide) ?_
  refine mf_iast rfl dX0_putNone_14 (fun s2 => ?_)
  refine mf_aload_n dX0_putNone_15 rfl 0 rfl ?_
  refine mf_getR fl_X0_18 rfl rfl dX0_putNone_16 ?_
  refine mf_iload_n dX0_putNone_19 rfl 1 rfl ?_
  refine mf_bipush 9 dX0_putNone_20 (by decide) ?_
  refine mf_iast rfl dX0_putNone_22 (fun s3 => ?_)
  refine mf_aload_n dX0_putNone_23 rfl 0 rfl ?_
  refine mf_getR fl_X0_21 rfl rfl dX0_putNone_24 ?_
  refine mf_iload_n dX0_putNone_27 rfl 1 rfl ?_
  refine mf_iconst 0 dX0_putNone_28 (by decide) ?_
  refine mf_iast rfl dX0_putNone_29 (fun s4 => ?_)
  exact mf_vret dX0_putNone_30
set_option maxRecDepth 100000 in
set_option maxHeartbeats 4000000 in
theorem wlX10_figuresOf_9 (l : Launch)    : ∀ (n : Nat) (a1 : Int32) (a2 : Int32) (a3 : Int32) (s0 : mx_G), mf_X ei l RX10 cX10_figuresOf 4 (some .int) "figuresOf" 0 (lX10_figuresOf_9   n a1 a2 a3 s0) 9 [(1, .int a1), (2, .int a2), (3, .int a3)] [] s0 := by
  intro n
  induction n with
  | zero => intro a1 a2 a3 s0; exact mf_none
  | succ n ih9 =>
    intro a1 a2 a3 s0
    rw [lX10_figuresOf_9]
    refine mf_iload_n dX10_figuresOf_9 rfl 2 rfl ?_
    refine mf_bipush 6 dX10_figuresOf_10 (by decide) ?_
    refine mf_icmp_ge 33 dX10_figuresOf_12 (by decide) ?_ ?_
    · refine mf_iload_n dX10_figuresOf_33 rfl 0 rfl ?_
      exact mf_iret dX10_figuresOf_34
    · refine mf_iload_n dX10_figuresOf_15 rfl 1 rfl ?_
      refine mf_if_le 33 dX10_figuresOf_16 (by decide) ?_ ?_
      · refine mf_iload_n dX10_figuresOf_33 rfl 0 rfl ?_
        exact mf_iret dX10_figuresOf_34
      · refine mf_iinc 1 [(1, .int (a1 + 1)), (2, .int a2), (3, .int a3)] dX10_figuresOf_19 0 rfl (by decide) (by decide) rfl ?_
        refine mf_iload_n dX10_figuresOf_22 rfl 1 rfl ?_
        refine mf_bipush 10 dX10_figuresOf_23 (by decide) ?_
        refine mf_idiv (by decide) dX10_figuresOf_25 ?_
        refine mf_leti (fun x2 => ?_)
        refine mf_istore_n [(2, .int x2), (1, .int (a1 + 1)), (3, .int a3)] dX10_figuresOf_26 rfl (by decide) rfl ?_
        refine mf_iinc 1 [(3, .int (a3 + 1)), (2, .int x2), (1, .int (a1 + 1))] dX10_figuresOf_27 2 rfl (by decide) (by decide) rfl ?_
        refine mf_goto 9 dX10_figuresOf_30 (by decide) ?_
        exact mf_sub [2, 1, 0] rfl (ih9 _ _ _ _)
set_option maxRecDepth 100000 in
set_option maxHeartbeats 4000000 in
theorem wX10_figuresOf (l : Launch) (p0 : Int32) (s : mx_G) : mf_M ei l yX10_figuresOf cX10_figuresOf 4 (some .int) 0 [.int p0] s (fX10_figuresOf p0 s) := by
  refine mf_intro rfl (Nat.le_of_ble_eq_true rfl) rfl rfl ?_
  refine mf_sub (loc' := [(0, .int p0)]) [0] rfl ?_
  unfold fX10_figuresOf
  refine mf_iconst 1 dX10_figuresOf_0 (by decide) ?_
  refine mf_istore_n [(1, .int 1), (0, .int p0)] dX10_figuresOf_1 rfl (by decide) rfl ?_
  refine mf_iload_n dX10_figuresOf_2 rfl 1 rfl ?_
  refine mf_bipush 10 dX10_figuresOf_3 (by decide) ?_
  refine mf_idiv (by decide) dX10_figuresOf_5 ?_
  refine mf_leti (fun x1 => ?_)
  refine mf_istore_n [(2, .int x1), (1, .int 1), (0, .int p0)] dX10_figuresOf_6 rfl (by decide) rfl ?_
  refine mf_iconst 1 dX10_figuresOf_7 (by decide) ?_
  refine mf_istore_n [(3, .int 1), (2, .int x1), (1, .int 1), (0, .int p0)] dX10_figuresOf_8 rfl (by decide) rfl ?_
  exact mf_sub [2, 1, 0] rfl (wlX10_figuresOf_9 l FU _ _ _ _)
set_option maxRecDepth 100000 in
set_option maxHeartbeats 4000000 in
theorem wlX0_put_21 (l : Launch) (a1 : Int32) (a2 : Int32) (a3 : Int32) (k75 : mx_G → Option (Unit × mx_G)) (hk75 : ∀ (sz : mx_G), mf_X ev l RX0 cX0_put 6 none "put" 1 (k75 sz) 75 [(0, .ref 9), (1, .int a1), (2, .int a2), (3, .int a3)] [] sz) : ∀ (n : Nat) (a4 : Int32) (a5 : Int32) (s0 : mx_G), mf_X ev l RX0 cX0_put 6 none "put" 1 (lX0_put_21 a1 a2 a3 k75 n a4 a5 s0) 21 [(0, .ref 9), (1, .int a1), (2, .int a2), (3, .int a3), (4, .int a4), (5, .int a5)] [] s0 := by
  intro n
  induction n with
  | zero => intro a4 a5 s0; exact mf_none
  | succ n ih21 =>
    intro a4 a5 s0
    rw [lX0_put_21]
    refine mf_iload dX0_put_21 5 rfl ?_
    refine mf_iload_n dX0_put_23 rfl 3 rfl ?_
    refine mf_icmp_ge 75 dX0_put_24 (by decide) ?_ ?_
    · exact mf_sub [0, 1, 2, 3] rfl (hk75 _)
    · refine mf_aload_n dX0_put_27 rfl 0 rfl ?_
      refine mf_getR fl_X0_15 rfl rfl dX0_put_28 ?_
      refine mf_iload_n dX0_put_31 rfl 1 rfl ?_
      refine mf_dup2 rfl rfl dX0_put_32 ?_
      refine mf_iald rfl dX0_put_33 ?_
      refine mf_iconst 1 dX0_put_34 (by decide) ?_
      refine mf_iload dX0_put_35 4 rfl ?_
      refine mf_bipush 10 dX0_put_37 (by decide) ?_
      refine mf_irem (by decide) dX0_put_39 ?_
      refine mf_ishl dX0_put_40 ?_
      refine mf_ior dX0_put_41 ?_
      refine mf_iast rfl dX0_put_42 (fun s4 => ?_)
      refine mf_iload dX0_put_43 5 rfl ?_
      refine mf_iload_n dX0_put_45 rfl 3 rfl ?_
      refine mf_iconst 2 dX0_put_46 (by decide) ?_
      refine mf_isub dX0_put_47 ?_
      refine mf_icmp_ne 62 dX0_put_48 (by decide) ?_ ?_
      · refine mf_aload_n dX0_put_51 rfl 0 rfl ?_
        refine mf_getR fl_X0_18 rfl rfl dX0_put_52 ?_
        refine mf_iload_n dX0_put_55 rfl 1 rfl ?_
        refine mf_iload dX0_put_56 4 rfl ?_
        refine mf_bipush 10 dX0_put_58 (by decide) ?_
        refine mf_irem (by decide) dX0_put_60 ?_
        refine mf_iast rfl dX0_put_61 (fun s6 => ?_)
        refine mf_iload dX0_put_62 4 rfl ?_
        refine mf_bipush 10 dX0_put_64 (by decide) ?_
        refine mf_idiv (by decide) dX0_put_66 ?_
        refine mf_leti (fun x7 => ?_)
        refine mf_istore [(4, .int x7), (0, .ref 9), (1, .int a1), (2, .int a2), (3, .int a3), (5, .int a5)] dX0_put_67 (by decide) rfl ?_
        refine mf_iinc 1 [(5, .int (a5 + 1)), (4, .int x7), (0, .ref 9), (1, .int a1), (2, .int a2), (3, .int a3)] dX0_put_69 5 rfl (by decide) (by decide) rfl ?_
        refine mf_goto 21 dX0_put_72 (by decide) ?_
        exact mf_sub [2, 3, 4, 5, 1, 0] rfl (ih21 _ _ _)
      · refine mf_iload dX0_put_62 4 rfl ?_
        refine mf_bipush 10 dX0_put_64 (by decide) ?_
        refine mf_idiv (by decide) dX0_put_66 ?_
        refine mf_leti (fun x5 => ?_)
        refine mf_istore [(4, .int x5), (0, .ref 9), (1, .int a1), (2, .int a2), (3, .int a3), (5, .int a5)] dX0_put_67 (by decide) rfl ?_
        refine mf_iinc 1 [(5, .int (a5 + 1)), (4, .int x5), (0, .ref 9), (1, .int a1), (2, .int a2), (3, .int a3)] dX0_put_69 5 rfl (by decide) (by decide) rfl ?_
        refine mf_goto 21 dX0_put_72 (by decide) ?_
        exact mf_sub [2, 3, 4, 5, 1, 0] rfl (ih21 _ _ _)
set_option maxRecDepth 100000 in
set_option maxHeartbeats 4000000 in
theorem wX0_put (l : Launch) (p1 : Int32) (p2 : Int32) (s : mx_G) : mf_M ev l yX0_put cX0_put 6 none 1 [.ref 9, .int p1, .int p2] s (fX0_put p1 p2 s) := by
  refine mf_intro rfl (Nat.le_of_ble_eq_true rfl) rfl rfl ?_
  refine mf_sub (loc' := [(0, .ref 9), (1, .int p1), (2, .int p2)]) [0, 1, 2] rfl ?_
  unfold fX0_put
  refine mf_aload_n dX0_put_0 rfl 0 rfl ?_
  refine mf_iload_n dX0_put_1 rfl 1 rfl ?_
  refine mf_callVv (stk := []) (wX0_putNone l _ _) cl_X0_40 rfl (by decide) rfl rfl rfl (Nat.le_of_ble_eq_true rfl) rfl rfl dX0_put_2 (fun us1 s1 => ?_)
  refine mf_iload_n dX0_put_5 rfl 2 rfl ?_
  refine mf_if_ge 10 dX0_put_6 (by decide) ?_ ?_
  · refine mf_iload_n dX0_put_10 rfl 2 rfl ?_
    refine mf_callSNi (stk := []) (wX10_figuresOf l _ _) cl_X0_48 rfl (by decide) rfl (Nat.le_of_ble_eq_true rfl) rfl rfl dX0_put_11 (fun x2 s3 => ?_)
    refine mf_istore_n [(3, .int x2), (0, .ref 9), (1, .int p1), (2, .int p2)] dX0_put_14 rfl (by decide) rfl ?_
    refine mf_iload_n dX0_put_15 rfl 3 rfl ?_
    refine mf_istore [(4, .int p2), (3, .int x2), (0, .ref 9), (1, .int p1), (2, .int p2)] dX0_put_16 (by decide) rfl ?_
    refine mf_iconst 0 dX0_put_18 (by decide) ?_
    refine mf_istore [(5, .int 0), (4, .int p2), (3, .int x2), (0, .ref 9), (1, .int p1), (2, .int p2)] dX0_put_19 (by decide) rfl ?_
    refine mf_sub [3, 4, 5, 2, 1, 0] rfl (wlX0_put_21 l _ _ _ _ (fun s8 => ?_) FU _ _ _)
    refine mf_aload_n dX0_put_75 rfl 0 rfl ?_
    refine mf_getR fl_X0_9 rfl rfl dX0_put_76 ?_
    refine mf_iload_n dX0_put_79 rfl 1 rfl ?_
    refine mf_iload_n dX0_put_80 rfl 2 rfl ?_
    refine mf_iast rfl dX0_put_81 (fun s9 => ?_)
    refine mf_aload_n dX0_put_82 rfl 0 rfl ?_
    refine mf_getR fl_X0_21 rfl rfl dX0_put_83 ?_
    refine mf_iload_n dX0_put_86 rfl 1 rfl ?_
    refine mf_iload_n dX0_put_87 rfl 3 rfl ?_
    refine mf_iast rfl dX0_put_88 (fun s10 => ?_)
    exact mf_vret dX0_put_89
  · exact mf_vret dX0_put_9
set_option maxRecDepth 100000 in
set_option maxHeartbeats 4000000 in
theorem wlX0_load_2 (l : Launch)    : ∀ (n : Nat) (a2 : Int32) (s0 : mx_G), mf_X ev l RX0 cX0_load 3 none "load" 2 (lX0_load_2   n a2 s0) 2 [(0, .ref 9), (1, .ref 1), (2, .int a2)] [] s0 := by
  intro n
  induction n with
  | zero => intro a2 s0; exact mf_none
  | succ n ih2 =>
    intro a2 s0
    rw [lX0_load_2]
    refine mf_iload_n dX0_load_2 rfl 2 rfl ?_
    refine mf_bipush 6 dX0_load_3 (by decide) ?_
    refine mf_icmp_ge 24 dX0_load_5 (by decide) ?_ ?_
    · exact mf_vret dX0_load_24
    · refine mf_aload_n dX0_load_8 rfl 0 rfl ?_
      refine mf_iload_n dX0_load_9 rfl 2 rfl ?_
      refine mf_aload_n dX0_load_10 rfl 1 rfl ?_
      refine mf_iload_n dX0_load_11 rfl 2 rfl ?_
      refine mf_callVi (stk := [.int a2, .ref 9]) (wX9_chosenBy l _ _) cl_X0_27 rfl (by decide) rfl rfl rfl (Nat.le_of_ble_eq_true rfl) rfl rfl dX0_load_12 (fun x1 s2 => ?_)
      refine mf_callVv (stk := []) (wX0_put l _ _ _) cl_X0_33 rfl (by decide) rfl rfl rfl (Nat.le_of_ble_eq_true rfl) rfl rfl dX0_load_15 (fun us3 s3 => ?_)
      refine mf_iinc 1 [(2, .int (a2 + 1)), (0, .ref 9), (1, .ref 1)] dX0_load_18 2 rfl (by decide) (by decide) rfl ?_
      refine mf_goto 2 dX0_load_21 (by decide) ?_
      exact mf_sub [1, 2, 0] rfl (ih2 _ _)
set_option maxRecDepth 100000 in
set_option maxHeartbeats 4000000 in
theorem wX0_load (l : Launch) (s : mx_G) : mf_M ev l yX0_load cX0_load 3 none 2 [.ref 9, .ref 1] s (fX0_load  s) := by
  refine mf_intro rfl (Nat.le_of_ble_eq_true rfl) rfl rfl ?_
  refine mf_sub (loc' := [(0, .ref 9), (1, .ref 1)]) [0, 1] rfl ?_
  unfold fX0_load
  refine mf_iconst 0 dX0_load_0 (by decide) ?_
  refine mf_istore_n [(2, .int 0), (0, .ref 9), (1, .ref 1)] dX0_load_1 rfl (by decide) rfl ?_
  exact mf_sub [1, 2, 0] rfl (wlX0_load_2 l FU _ _)
set_option maxRecDepth 100000 in
set_option maxHeartbeats 4000000 in
theorem wlX0_together_5 (l : Launch) (a2 : Int32) (k27 : Int32 → mx_G → Option (Int32 × mx_G)) (hk27 : ∀ (b3 : Int32) (sz : mx_G), mf_X ei l RX0 cX0_together 5 (some .int) "together" 0 (k27 b3 sz) 27 [(0, .ref 9), (2, .int a2), (3, .int b3)] [] sz) : ∀ (n : Nat) (a3 : Int32) (a4 : Int32) (s0 : mx_G), mf_X ei l RX0 cX0_together 5 (some .int) "together" 0 (lX0_together_5 a2 k27 n a3 a4 s0) 5 [(0, .ref 9), (2, .int a2), (3, .int a3), (4, .int a4)] [] s0 := by
  intro n
  induction n with
  | zero => intro a3 a4 s0; exact mf_none
  | succ n ih5 =>
    intro a3 a4 s0
    rw [lX0_together_5]
    refine mf_iload dX0_together_5 3 rfl ?_
    refine mf_aload_n dX0_together_7 rfl 0 rfl ?_
    refine mf_getR fl_X0_21 rfl rfl dX0_together_8 ?_
    refine mf_iload_n dX0_together_11 rfl 1 rfl ?_
    refine mf_iald rfl dX0_together_12 ?_
    refine mf_icmp_ge 27 dX0_together_13 (by decide) ?_ ?_
    · exact mf_sub [0, 1, 2] rfl (hk27 _ _)
    · refine mf_iload_n dX0_together_16 rfl 2 rfl ?_
      refine mf_bipush 10 dX0_together_17 (by decide) ?_
      refine mf_imul dX0_together_19 ?_
      refine mf_leti (fun x1 => ?_)
      refine mf_istore_n [(3, .int x1), (0, .ref 9), (2, .int a2), (4, .int a4)] dX0_together_20 rfl (by decide) rfl ?_
      refine mf_iinc 1 [(4, .int (a4 + 1)), (3, .int x1), (0, .ref 9), (2, .int a2)] dX0_together_21 3 rfl (by decide) (by decide) rfl ?_
      refine mf_goto 5 dX0_together_24 (by decide) ?_
      exact mf_sub [2, 3, 1, 0] rfl (ih5 _ _ _)
set_option maxRecDepth 100000 in
set_option maxHeartbeats 4000000 in
theorem wX0_together (l : Launch) (p1 : Int32) (p2 : Int32) (s : mx_G) : mf_M ei l yX0_together cX0_together 5 (some .int) 0 [.ref 9, .int p1, .int p2] s (fX0_together p1 p2 s) := by
  refine mf_intro rfl (Nat.le_of_ble_eq_true rfl) rfl rfl ?_
  refine mf_sub (loc' := [(0, .ref 9), (1, .int p1), (2, .int p2)]) [0, 1, 2] rfl ?_
  unfold fX0_together
  refine mf_iload_n dX0_together_0 rfl 1 rfl ?_
  refine mf_istore_n [(3, .int p1), (0, .ref 9), (1, .int p1), (2, .int p2)] dX0_together_1 rfl (by decide) rfl ?_
  refine mf_iconst 0 dX0_together_2 (by decide) ?_
  refine mf_istore [(4, .int 0), (3, .int p1), (0, .ref 9), (1, .int p1), (2, .int p2)] dX0_together_3 (by decide) rfl ?_
  refine mf_sub [2, 4, 1, 0] rfl (wlX0_together_5 l _ _ (fun y3 s2 => ?_) FU _ _ _)
  refine mf_iload_n dX0_together_27 rfl 2 rfl ?_
  refine mf_aload_n dX0_together_28 rfl 0 rfl ?_
  refine mf_getR fl_X0_9 rfl rfl dX0_together_29 ?_
  refine mf_iload_n dX0_together_32 rfl 1 rfl ?_
  refine mf_iald rfl dX0_together_33 ?_
  refine mf_iadd dX0_together_34 ?_
  exact mf_iret dX0_together_35
set_option maxRecDepth 100000 in
set_option maxHeartbeats 4000000 in
theorem wlX0_best_12 (l : Launch) (a2 : Int32) (k91 : Int32 → mx_G → Option (Int32 × mx_G)) (hk91 : ∀ (b3 : Int32) (sz : mx_G), mf_X ei l RX0 cX0_best 5 (some .int) "best" 2 (k91 b3 sz) 91 [(3, .int b3)] [] sz) : ∀ (n : Nat) (a3 : Int32) (a4 : Int32) (s0 : mx_G), mf_X ei l RX0 cX0_best 5 (some .int) "best" 2 (lX0_best_12 a2 k91 n a3 a4 s0) 12 [(0, .ref 9), (1, .ref 1), (2, .int a2), (3, .int a3), (4, .int a4)] [] s0 := by
  intro n
  induction n with
  | zero => intro a3 a4 s0; exact mf_none
  | succ n ih12 =>
    intro a3 a4 s0
    rw [lX0_best_12]
    refine mf_iload dX0_best_12 4 rfl ?_
    refine mf_aload_n dX0_best_14 rfl 1 rfl ?_
    refine mf_callVi (stk := [.int a4]) (wX9_size l _) cl_X0_54 rfl (by decide) rfl rfl rfl (Nat.le_of_ble_eq_true rfl) rfl rfl dX0_best_15 (fun x1 s2 => ?_)
    refine mf_icmp_ge 91 dX0_best_18 (by decide) ?_ ?_
    · exact mf_sub [3] rfl (hk91 _ _)
    · refine mf_aload_n dX0_best_21 rfl 0 rfl ?_
      refine mf_getR fl_X0_9 rfl rfl dX0_best_22 ?_
      refine mf_iload dX0_best_25 4 rfl ?_
      refine mf_iald rfl dX0_best_27 ?_
      refine mf_bipush (-4) dX0_best_28 (by decide) ?_
      refine mf_icmp_eq 85 dX0_best_30 (by decide) ?_ ?_
      · refine mf_iinc 1 [(4, .int (a4 + 1)), (0, .ref 9), (1, .ref 1), (2, .int a2), (3, .int a3)] dX0_best_85 4 rfl (by decide) (by decide) rfl ?_
        refine mf_goto 12 dX0_best_88 (by decide) ?_
        exact mf_sub [1, 2, 3, 4, 0] rfl (ih12 _ _ _)
      · refine mf_aload_n dX0_best_33 rfl 1 rfl ?_
        refine mf_iload_n dX0_best_34 rfl 2 rfl ?_
        refine mf_iload dX0_best_35 4 rfl ?_
        refine mf_aload_n dX0_best_37 rfl 0 rfl ?_
        refine mf_getR fl_X0_15 rfl rfl dX0_best_38 ?_
        refine mf_iload dX0_best_41 4 rfl ?_
        refine mf_iald rfl dX0_best_43 ?_
        refine mf_aload_n dX0_best_44 rfl 0 rfl ?_
        refine mf_getR fl_X0_18 rfl rfl dX0_best_45 ?_
        refine mf_iload dX0_best_48 4 rfl ?_
        refine mf_iald rfl dX0_best_50 ?_
        refine mf_callVi (stk := []) (wX9_takes l _ _ _ _ _) cl_X0_58 rfl (by decide) rfl rfl rfl (Nat.le_of_ble_eq_true rfl) rfl rfl dX0_best_51 (fun x3 s4 => ?_)
        refine mf_if_eq 85 dX0_best_54 (by decide) ?_ ?_
        · refine mf_iinc 1 [(4, .int (a4 + 1)), (0, .ref 9), (1, .ref 1), (2, .int a2), (3, .int a3)] dX0_best_85 4 rfl (by decide) (by decide) rfl ?_
          refine mf_goto 12 dX0_best_88 (by decide) ?_
          exact mf_sub [1, 2, 3, 4, 0] rfl (ih12 _ _ _)
        · refine mf_iload_n dX0_best_57 rfl 3 rfl ?_
          refine mf_aload_n dX0_best_58 rfl 1 rfl ?_
          refine mf_iload_n dX0_best_59 rfl 2 rfl ?_
          refine mf_iload dX0_best_60 4 rfl ?_
          refine mf_aload_n dX0_best_62 rfl 0 rfl ?_
          refine mf_getR fl_X0_21 rfl rfl dX0_best_63 ?_
          refine mf_iload dX0_best_66 4 rfl ?_
          refine mf_iald rfl dX0_best_68 ?_
          refine mf_iconst 1 dX0_best_69 (by decide) ?_
          refine mf_iadd dX0_best_70 ?_
          refine mf_aload_n dX0_best_71 rfl 0 rfl ?_
          refine mf_iload_n dX0_best_72 rfl 2 rfl ?_
          refine mf_iload dX0_best_73 4 rfl ?_
          refine mf_callVi (stk := [.int ((s4.1 13 (Int32.toNatClampNeg a4)) + 1), .int a4, .int a2, .ref 1, .int a3]) (wX0_together l _ _ _) cl_X0_62 rfl (by decide) rfl rfl rfl (Nat.le_of_ble_eq_true rfl) rfl rfl dX0_best_75 (fun x5 s6 => ?_)
          refine mf_callVi (stk := [.int a3]) (wX9_rankOf l _ _ _ _ _) cl_X0_66 rfl (by decide) rfl rfl rfl (Nat.le_of_ble_eq_true rfl) rfl rfl dX0_best_78 (fun x7 s8 => ?_)
          refine mf_mmin cl_X0_70.1 (by decide) (Nat.le_of_ble_eq_true rfl) dX0_best_81 ?_
          refine mf_leti (fun x9 => ?_)
          refine mf_istore_n [(3, .int x9), (0, .ref 9), (1, .ref 1), (2, .int a2), (4, .int a4)] dX0_best_84 rfl (by decide) rfl ?_
          refine mf_iinc 1 [(4, .int (a4 + 1)), (3, .int x9), (0, .ref 9), (1, .ref 1), (2, .int a2)] dX0_best_85 4 rfl (by decide) (by decide) rfl ?_
          refine mf_goto 12 dX0_best_88 (by decide) ?_
          exact mf_sub [2, 3, 4, 1, 0] rfl (ih12 _ _ _)
