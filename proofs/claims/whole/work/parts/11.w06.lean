set_option maxRecDepth 100000 in
set_option maxHeartbeats 4000000 in
theorem wX8_linkInDoubt (l : Launch) (p1 : Int32) (p2 : Int32) (p3 : Int32) (s : mx_G) : mf_M ei l yX8_linkInDoubt cX8_linkInDoubt 8 (some .int) 1 [.ref 15, .int p1, .int p2, .int p3] s (fX8_linkInDoubt p1 p2 p3 s) := by
  refine mf_intro rfl (Nat.le_of_ble_eq_true rfl) rfl rfl ?_
  refine mf_sub (loc' := [(0, .ref 15), (1, .int p1), (2, .int p2), (3, .int p3)]) [0, 1, 2, 3] rfl ?_
  unfold fX8_linkInDoubt
  refine mf_iconst (-1) dX8_linkInDoubt_0 (by decide) ?_
  refine mf_istore [(4, .int (-1)), (0, .ref 15), (1, .int p1), (2, .int p2), (3, .int p3)] dX8_linkInDoubt_1 (by decide) rfl ?_
  refine mf_iconst 0 dX8_linkInDoubt_3 (by decide) ?_
  refine mf_istore [(5, .int 0), (4, .int (-1)), (0, .ref 15), (1, .int p1), (2, .int p2), (3, .int p3)] dX8_linkInDoubt_4 (by decide) rfl ?_
  refine mf_sub [2, 3, 4, 5, 1, 0] rfl (wlX8_linkInDoubt_6 l _ _ _ _ (fun y10 s9 => ?_) FU _ _ _)
  refine mf_iload dX8_linkInDoubt_81 0 rfl ?_
  refine mf_if_ge 90 dX8_linkInDoubt_83 (by decide) ?_ ?_
  · refine mf_iload dX8_linkInDoubt_90 0 rfl ?_
    refine mf_iload dX8_linkInDoubt_92 0 rfl ?_
    refine mf_ineg dX8_linkInDoubt_94 ?_
    refine mf_iand dX8_linkInDoubt_95 ?_
    exact mf_iret dX8_linkInDoubt_96
  · refine mf_iconst (-1) dX8_linkInDoubt_86 (by decide) ?_
    refine mf_goto 96 dX8_linkInDoubt_87 (by decide) ?_
    exact mf_iret dX8_linkInDoubt_96
set_option maxRecDepth 100000 in
set_option maxHeartbeats 4000000 in
theorem wX2_lasting (l : Launch) : ∀ (m : Nat) (p1 : Int32) (p2 : Int32) (p3 : Int32) (p4 : Int32) (p5 : Int32) (s : mx_G), mf_M el l yX2_lasting cX2_lasting 11 (some .long) (2 + m) [.ref 15, .int p1, .int p2, .int p3, .int p4, .int p5] s (fX2_lasting m p1 p2 p3 p4 p5 s) := by
  intro m
  induction m with
  | zero => intro p1 p2 p3 p4 p5 s; exact mf_Mnone
  | succ m ihm =>
    intro p1 p2 p3 p4 p5 s
    refine mf_intro rfl (Nat.le_of_ble_eq_true rfl) rfl rfl ?_
    refine mf_sub (loc' := [(0, .ref 15), (1, .int p1), (2, .int p2), (3, .int p3), (4, .int p4), (5, .int p5)]) [0, 1, 2, 3, 4, 5] rfl ?_
    rw [fX2_lasting]
    refine mf_aload_n dX2_lasting_0 rfl 0 rfl ?_
    refine mf_iload_n dX2_lasting_1 rfl 1 rfl ?_
    refine mf_iload_n dX2_lasting_2 rfl 3 rfl ?_
    refine mf_iload dX2_lasting_3 4 rfl ?_
    refine mf_callVi (stk := []) (wX8_linkInDoubt l _ _ _ _) cl_X2_13 rfl (by omega) rfl rfl rfl (Nat.le_of_ble_eq_true rfl) rfl rfl dX2_lasting_5 (fun x1 s2 => ?_)
    refine mf_istore [(6, .int x1), (0, .ref 15), (1, .int p1), (2, .int p2), (3, .int p3), (4, .int p4), (5, .int p5)] dX2_lasting_8 (by decide) rfl ?_
    refine mf_iload dX2_lasting_10 0 rfl ?_
    refine mf_if_ne 21 dX2_lasting_12 (by decide) ?_ ?_
    · refine mf_iload dX2_lasting_15 6 rfl ?_
      refine mf_callSl (stk := []) (wX2_power l _ _) cl_X2_19 rfl (by omega) rfl (Nat.le_of_ble_eq_true rfl) rfl rfl dX2_lasting_17 (fun x8 s9 => ?_)
      exact mf_lret dX2_lasting_20
    · refine mf_iload dX2_lasting_21 0 rfl ?_
      refine mf_if_lt 31 dX2_lasting_23 (by decide) ?_ ?_
      · refine mf_lconst 0 dX2_lasting_31 (by decide) ?_
        exact mf_lret dX2_lasting_32
      · refine mf_iload dX2_lasting_26 6 rfl ?_
        refine mf_if_gt 33 dX2_lasting_28 (by decide) ?_ ?_
        · refine mf_iload_n dX2_lasting_33 rfl 3 rfl ?_
          refine mf_bipush 10 dX2_lasting_34 (by decide) ?_
          refine mf_join (fun (J : Int64 → mx_G → Option (Int64 × mx_G)) => ∀ (q0_65 : Int64) (s_65 : mx_G), mf_X el l RX2 cX2_lasting 11 (some .long) "lasting" (2 + m + 1) (J q0_65 s_65) 65 [(0, .ref 15), (1, .int p1), (2, .int p2), (3, .int p3), (4, .int p4), (5, .int p5), (6, .int x1)] [.long q0_65] s_65) ?_ (fun J65 hJ65 => ?_)
          · intro q0_65 s_65
            refine mf_lstore [(7, .long q0_65), (0, .ref 15), (1, .int p1), (2, .int p2), (3, .int p3), (4, .int p4), (5, .int p5), (6, .int x1)] dX2_lasting_65 (by decide) rfl ?_
            refine mf_iload_n dX2_lasting_67 rfl 3 rfl ?_
            refine mf_if_ne 75 dX2_lasting_68 (by decide) ?_ ?_
            · refine mf_lconst 0 dX2_lasting_71 (by decide) ?_
              refine mf_goto 94 dX2_lasting_72 (by decide) ?_
              refine mf_lstore [(9, .long 0), (7, .long q0_65), (0, .ref 15), (1, .int p1), (2, .int p2), (3, .int p3), (4, .int p4), (5, .int p5), (6, .int x1)] dX2_lasting_94 (by decide) rfl ?_
              refine mf_lload dX2_lasting_96 1 rfl ?_
              refine mf_lload dX2_lasting_98 0 rfl ?_
              refine mf_ladd dX2_lasting_100 ?_
              exact mf_lret dX2_lasting_101
            · refine mf_iload_n dX2_lasting_75 rfl 3 rfl ?_
              refine mf_i2l dX2_lasting_76 ?_
              refine mf_aload_n dX2_lasting_77 rfl 1 rfl ?_
              refine mf_iload_n dX2_lasting_78 rfl 2 rfl ?_
              refine mf_iload_n dX2_lasting_79 rfl 3 rfl ?_
              refine mf_iload_n dX2_lasting_80 rfl 4 rfl ?_
              refine mf_iload dX2_lasting_81 5 rfl ?_
              refine mf_iload dX2_lasting_83 7 rfl ?_
              refine mf_ior dX2_lasting_85 ?_
              refine mf_iload dX2_lasting_86 6 rfl ?_
              refine mf_iconst 1 dX2_lasting_88 (by decide) ?_
              refine mf_isub dX2_lasting_89 ?_
              refine mf_callSl (stk := [.long (Int32.toInt64 p2)]) (ihm _ _ _ _ _ _) cl_X2_23 rfl (by omega) rfl (Nat.le_of_ble_eq_true rfl) rfl rfl dX2_lasting_90 (fun x3 s4 => ?_)
              refine mf_lmul dX2_lasting_93 ?_
              refine mf_letl (fun x5 => ?_)
              refine mf_lstore [(9, .long x5), (7, .long q0_65), (0, .ref 15), (1, .int p1), (2, .int p2), (3, .int p3), (4, .int p4), (5, .int p5), (6, .int x1)] dX2_lasting_94 (by decide) rfl ?_
              refine mf_lload dX2_lasting_96 1 rfl ?_
              refine mf_lload dX2_lasting_98 0 rfl ?_
              refine mf_ladd dX2_lasting_100 ?_
              exact mf_lret dX2_lasting_101
          refine mf_icmp_ne 43 dX2_lasting_36 (by decide) ?_ ?_
          · refine mf_lconst 0 dX2_lasting_39 (by decide) ?_
            refine mf_goto 65 dX2_lasting_40 (by decide) ?_
            exact mf_sub [1, 2, 3, 4, 5, 6, 0] rfl (hJ65 _ _)
          · refine mf_bipush 10 dX2_lasting_43 (by decide) ?_
            refine mf_iload_n dX2_lasting_45 rfl 3 rfl ?_
            refine mf_isub dX2_lasting_46 ?_
            refine mf_i2l dX2_lasting_47 ?_
            refine mf_aload_n dX2_lasting_48 rfl 1 rfl ?_
            refine mf_iload_n dX2_lasting_49 rfl 2 rfl ?_
            refine mf_iload_n dX2_lasting_50 rfl 3 rfl ?_
            refine mf_iload_n dX2_lasting_51 rfl 4 rfl ?_
            refine mf_iload dX2_lasting_52 0 rfl ?_
            refine mf_ior dX2_lasting_54 ?_
            refine mf_iload dX2_lasting_55 5 rfl ?_
            refine mf_iload dX2_lasting_57 6 rfl ?_
            refine mf_iconst 1 dX2_lasting_59 (by decide) ?_
            refine mf_isub dX2_lasting_60 ?_
            refine mf_callSl (stk := [.long (Int32.toInt64 (10 - p2))]) (ihm _ _ _ _ _ _) cl_X2_23 rfl (by omega) rfl (Nat.le_of_ble_eq_true rfl) rfl rfl dX2_lasting_61 (fun x6 s7 => ?_)
            refine mf_lmul dX2_lasting_64 ?_
            exact mf_sub [1, 2, 3, 4, 5, 6, 0] rfl (hJ65 _ _)
        · refine mf_lconst 0 dX2_lasting_31 (by decide) ?_
          exact mf_lret dX2_lasting_32
set_option maxRecDepth 100000 in
set_option maxHeartbeats 4000000 in
theorem wlX2_commonDivisor_9 (l : Launch)    : ∀ (n : Nat) (a4 : Int64) (a6 : Int64) (a8 : Int32) (s0 : mx_G), mf_X el l RX2 cX2_commonDivisor 11 (some .long) "commonDivisor" 0 (lX2_commonDivisor_9   n a4 a6 a8 s0) 9 [(4, .long a4), (6, .long a6), (8, .int a8)] [] s0 := by
  intro n
  induction n with
  | zero => intro a4 a6 a8 s0; exact mf_none
  | succ n ih9 =>
    intro a4 a6 a8 s0
    rw [lX2_commonDivisor_9]
    refine mf_iload dX2_commonDivisor_9 2 rfl ?_
    refine mf_sipush 200 dX2_commonDivisor_11 (by decide) ?_
    refine mf_icmp_ge 45 dX2_commonDivisor_14 (by decide) ?_ ?_
    · refine mf_lload dX2_commonDivisor_45 0 rfl ?_
      exact mf_lret dX2_commonDivisor_47
    · refine mf_lload dX2_commonDivisor_17 1 rfl ?_
      refine mf_lconst 0 dX2_commonDivisor_19 (by decide) ?_
      refine mf_lcmp dX2_commonDivisor_20 ?_
      refine mf_if_le 45 dX2_commonDivisor_21 (by decide) ?_ ?_
      · refine mf_lload dX2_commonDivisor_45 0 rfl ?_
        exact mf_lret dX2_commonDivisor_47
      · refine mf_lload dX2_commonDivisor_24 0 rfl ?_
        refine mf_lload dX2_commonDivisor_26 1 rfl ?_
        refine mf_lremG dX2_commonDivisor_28 ?_
        refine mf_letl (fun x1 => ?_)
        refine mf_lstore [(9, .long x1), (4, .long a4), (6, .long a6), (8, .int a8)] dX2_commonDivisor_29 (by decide) rfl ?_
        refine mf_lload dX2_commonDivisor_31 2 rfl ?_
        refine mf_lstore [(4, .long a6), (9, .long x1), (6, .long a6), (8, .int a8)] dX2_commonDivisor_33 (by decide) rfl ?_
        refine mf_lload dX2_commonDivisor_35 1 rfl ?_
        refine mf_lstore [(6, .long x1), (4, .long a6), (9, .long x1), (8, .int a8)] dX2_commonDivisor_37 (by decide) rfl ?_
        refine mf_iinc 1 [(8, .int (a8 + 1)), (6, .long x1), (4, .long a6), (9, .long x1)] dX2_commonDivisor_39 3 rfl (by decide) (by decide) rfl ?_
        refine mf_goto 9 dX2_commonDivisor_42 (by decide) ?_
        exact mf_sub [2, 1, 0] rfl (ih9 _ _ _ _)
set_option maxRecDepth 100000 in
set_option maxHeartbeats 4000000 in
theorem wX2_commonDivisor (l : Launch) (p0 : Int64) (p2 : Int64) (s : mx_G) : mf_M el l yX2_commonDivisor cX2_commonDivisor 11 (some .long) 0 [.long p0, .long p2] s (fX2_commonDivisor p0 p2 s) := by
  refine mf_intro rfl (Nat.le_of_ble_eq_true rfl) rfl rfl ?_
  refine mf_sub (loc' := [(0, .long p0), (2, .long p2)]) [0, 1] rfl ?_
  unfold fX2_commonDivisor
  refine mf_lload_n dX2_commonDivisor_0 rfl 0 rfl ?_
  refine mf_lstore [(4, .long p0), (0, .long p0), (2, .long p2)] dX2_commonDivisor_1 (by decide) rfl ?_
  refine mf_lload_n dX2_commonDivisor_3 rfl 2 rfl ?_
  refine mf_lstore [(6, .long p2), (4, .long p0), (0, .long p0), (2, .long p2)] dX2_commonDivisor_4 (by decide) rfl ?_
  refine mf_iconst 0 dX2_commonDivisor_6 (by decide) ?_
  refine mf_istore [(8, .int 0), (6, .long p2), (4, .long p0), (0, .long p0), (2, .long p2)] dX2_commonDivisor_7 (by decide) rfl ?_
  exact mf_sub [2, 1, 0] rfl (wlX2_commonDivisor_9 l FU _ _ _ _)
set_option maxRecDepth 100000 in
set_option maxHeartbeats 4000000 in
theorem wX10_fail (l : Launch) (p1 : Int32) (p2 : Int32) (p3 : Int32) (s : mx_G) : mf_M el l yX10_fail cX10_fail 10 (some .long) 21 [.ref 0, .int p1, .int p2, .int p3] s (fX10_fail p1 p2 p3 s) := by
  refine mf_intro rfl (Nat.le_of_ble_eq_true rfl) rfl rfl ?_
  refine mf_sub (loc' := [(0, .ref 0), (1, .int p1), (2, .int p2), (3, .int p3)]) [0, 1, 2, 3] rfl ?_
  unfold fX10_fail
  refine mf_aload_n dX10_fail_0 rfl 0 rfl ?_
  refine mf_getR fl_X10_10 rfl rfl dX10_fail_1 ?_
  refine mf_iload_n dX10_fail_4 rfl 1 rfl ?_
  refine mf_callVi (stk := []) (wX9_isDomain l _ _) cl_X10_115 rfl (by decide) rfl rfl rfl (Nat.le_of_ble_eq_true rfl) rfl rfl dX10_fail_5 (fun x1 s2 => ?_)
  refine mf_if_eq 30 dX10_fail_8 (by decide) ?_ ?_
  · refine mf_ldc2 kl_X10_248 dX10_fail_30 ?_
    exact mf_lret dX10_fail_33
  · refine mf_iload_n dX10_fail_11 rfl 2 rfl ?_
    refine mf_if_lt 30 dX10_fail_12 (by decide) ?_ ?_
    · refine mf_ldc2 kl_X10_248 dX10_fail_30 ?_
      exact mf_lret dX10_fail_33
    · refine mf_iload_n dX10_fail_15 rfl 2 rfl ?_
      refine mf_bipush 10 dX10_fail_16 (by decide) ?_
      refine mf_icmp_gt 30 dX10_fail_18 (by decide) ?_ ?_
      · refine mf_ldc2 kl_X10_248 dX10_fail_30 ?_
        exact mf_lret dX10_fail_33
      · refine mf_iload_n dX10_fail_21 rfl 3 rfl ?_
        refine mf_if_lt 30 dX10_fail_22 (by decide) ?_ ?_
        · refine mf_ldc2 kl_X10_248 dX10_fail_30 ?_
          exact mf_lret dX10_fail_33
        · refine mf_iload_n dX10_fail_25 rfl 3 rfl ?_
          refine mf_iconst 1 dX10_fail_26 (by decide) ?_
          refine mf_icmp_le 34 dX10_fail_27 (by decide) ?_ ?_
          · refine mf_aload_n dX10_fail_34 rfl 0 rfl ?_
            refine mf_getR fl_X10_43 rfl rfl dX10_fail_35 ?_
            refine mf_aload_n dX10_fail_38 rfl 0 rfl ?_
            refine mf_getR fl_X10_10 rfl rfl dX10_fail_39 ?_
            refine mf_callVv (stk := []) (wX8_freshen l _) cl_X10_143 rfl (by decide) rfl rfl rfl (Nat.le_of_ble_eq_true rfl) rfl rfl dX10_fail_42 (fun us3 s3 => ?_)
            refine mf_aload_n dX10_fail_45 rfl 0 rfl ?_
            refine mf_getR fl_X10_43 rfl rfl dX10_fail_46 ?_
            refine mf_iload_n dX10_fail_49 rfl 1 rfl ?_
            refine mf_iload_n dX10_fail_50 rfl 2 rfl ?_
            refine mf_iconst 0 dX10_fail_51 (by decide) ?_
            refine mf_iconst 0 dX10_fail_52 (by decide) ?_
            refine mf_bipush 15 dX10_fail_53 (by decide) ?_
            refine mf_callSNl (stk := []) (wX2_lasting l 18 _ _ _ _ _ _) cl_X10_252 rfl (by decide) rfl (Nat.le_of_ble_eq_true rfl) rfl rfl dX10_fail_55 (fun x4 s5 => ?_)
            refine mf_lstore [(4, .long x4), (0, .ref 0), (1, .int p1), (2, .int p2), (3, .int p3)] dX10_fail_58 (by decide) rfl ?_
            refine mf_bipush 15 dX10_fail_60 (by decide) ?_
            refine mf_callSl (stk := []) (wX2_power l _ _) cl_X10_256 rfl (by decide) rfl (Nat.le_of_ble_eq_true rfl) rfl rfl dX10_fail_62 (fun x6 s7 => ?_)
            refine mf_lstore [(6, .long x6), (4, .long x4), (0, .ref 0), (1, .int p1), (2, .int p2), (3, .int p3)] dX10_fail_65 (by decide) rfl ?_
            refine mf_lload dX10_fail_67 1 rfl ?_
            refine mf_lload dX10_fail_69 0 rfl ?_
            refine mf_callSl (stk := []) (wX2_commonDivisor l _ _ _) cl_X10_260 rfl (by decide) rfl (Nat.le_of_ble_eq_true rfl) rfl rfl dX10_fail_71 (fun x8 s9 => ?_)
            refine mf_lstore [(8, .long x8), (6, .long x6), (4, .long x4), (0, .ref 0), (1, .int p1), (2, .int p2), (3, .int p3)] dX10_fail_74 (by decide) rfl ?_
            refine mf_lload dX10_fail_76 0 rfl ?_
            refine mf_lconst 1 dX10_fail_78 (by decide) ?_
            refine mf_lcmp dX10_fail_79 ?_
            refine mf_if_ge 87 dX10_fail_80 (by decide) ?_ ?_
            · refine mf_iload_n dX10_fail_87 rfl 6 rfl ?_
              refine mf_if_ne 96 dX10_fail_88 (by decide) ?_ ?_
              · refine mf_lload dX10_fail_91 2 rfl ?_
                refine mf_goto 98 dX10_fail_93 (by decide) ?_
                refine mf_lload dX10_fail_98 0 rfl ?_
                refine mf_ldivG dX10_fail_100 ?_
                exact mf_lret dX10_fail_101
              · refine mf_lload dX10_fail_96 1 rfl ?_
                refine mf_lload dX10_fail_98 0 rfl ?_
                refine mf_ldivG dX10_fail_100 ?_
                exact mf_lret dX10_fail_101
            · refine mf_ldc2 kl_X10_248 dX10_fail_83 ?_
              exact mf_lret dX10_fail_86
          · refine mf_ldc2 kl_X10_248 dX10_fail_30 ?_
            exact mf_lret dX10_fail_33
set_option maxRecDepth 100000 in
set_option maxHeartbeats 4000000 in
theorem wlX10_seen_27 (l : Launch) (a1 : Int32) (a2 : Int32) (k63 : Int32 → mx_G → Option (Int32 × mx_G)) (hk63 : ∀ (b3 : Int32) (sz : mx_G), mf_X ei l RX10 cX10_seen 5 (some .int) "seen" 5 (k63 b3 sz) 63 [(0, .ref 0), (1, .int a1), (2, .int a2), (3, .int b3)] [] sz) : ∀ (n : Nat) (a3 : Int32) (a4 : Int32) (s0 : mx_G), mf_X ei l RX10 cX10_seen 5 (some .int) "seen" 5 (lX10_seen_27 a1 a2 k63 n a3 a4 s0) 27 [(0, .ref 0), (1, .int a1), (2, .int a2), (3, .int a3), (4, .int a4)] [] s0 := by
  intro n
  induction n with
  | zero => intro a3 a4 s0; exact mf_none
  | succ n ih27 =>
    intro a3 a4 s0
    rw [lX10_seen_27]
    refine mf_iload dX10_seen_27 4 rfl ?_
    refine mf_iconst 3 dX10_seen_29 (by decide) ?_
    refine mf_icmp_gt 63 dX10_seen_30 (by decide) ?_ ?_
    · exact mf_sub [0, 1, 2, 3] rfl (hk63 _ _)
    · refine mf_aload_n dX10_seen_33 rfl 0 rfl ?_
      refine mf_getR fl_X10_10 rfl rfl dX10_seen_34 ?_
      refine mf_iload_n dX10_seen_37 rfl 1 rfl ?_
      refine mf_iload dX10_seen_38 4 rfl ?_
      refine mf_callVv (stk := []) (wX9_setManner l _ _ _) cl_X10_123 rfl (by decide) rfl rfl rfl (Nat.le_of_ble_eq_true rfl) rfl rfl dX10_seen_40 (fun us5 s5 => ?_)
      refine mf_aload_n dX10_seen_43 rfl 0 rfl ?_
      refine mf_callVi (stk := []) (wX10_discontent l _) cl_X10_176 rfl (by decide) rfl rfl rfl (Nat.le_of_ble_eq_true rfl) rfl rfl dX10_seen_44 (fun x6 s7 => ?_)
      refine mf_if_ne 57 dX10_seen_47 (by decide) ?_ ?_
      · refine mf_iload_n dX10_seen_50 rfl 3 rfl ?_
        refine mf_iconst 1 dX10_seen_51 (by decide) ?_
        refine mf_iload dX10_seen_52 4 rfl ?_
        refine mf_ishl dX10_seen_54 ?_
        refine mf_ior dX10_seen_55 ?_
        refine mf_leti (fun x8 => ?_)
        refine mf_istore_n [(3, .int x8), (0, .ref 0), (1, .int a1), (2, .int a2), (4, .int a4)] dX10_seen_56 rfl (by decide) rfl ?_
        refine mf_iinc 1 [(4, .int (a4 + 1)), (3, .int x8), (0, .ref 0), (1, .int a1), (2, .int a2)] dX10_seen_57 4 rfl (by decide) (by decide) rfl ?_
        refine mf_goto 27 dX10_seen_60 (by decide) ?_
        exact mf_sub [2, 3, 4, 1, 0] rfl (ih27 _ _ _)
      · refine mf_iinc 1 [(4, .int (a4 + 1)), (0, .ref 0), (1, .int a1), (2, .int a2), (3, .int a3)] dX10_seen_57 4 rfl (by decide) (by decide) rfl ?_
        refine mf_goto 27 dX10_seen_60 (by decide) ?_
        exact mf_sub [1, 2, 3, 4, 0] rfl (ih27 _ _ _)
set_option maxRecDepth 100000 in
set_option maxHeartbeats 4000000 in
theorem wX10_seen (l : Launch) (p1 : Int32) (s : mx_G) : mf_M ei l yX10_seen cX10_seen 5 (some .int) 5 [.ref 0, .int p1] s (fX10_seen p1 s) := by
  refine mf_intro rfl (Nat.le_of_ble_eq_true rfl) rfl rfl ?_
  refine mf_sub (loc' := [(0, .ref 0), (1, .int p1)]) [0, 1] rfl ?_
  unfold fX10_seen
  refine mf_aload_n dX10_seen_0 rfl 0 rfl ?_
  refine mf_getR fl_X10_10 rfl rfl dX10_seen_1 ?_
  refine mf_iload_n dX10_seen_4 rfl 1 rfl ?_
  refine mf_callVi (stk := []) (wX9_isDomain l _ _) cl_X10_115 rfl (by decide) rfl rfl rfl (Nat.le_of_ble_eq_true rfl) rfl rfl dX10_seen_5 (fun x1 s2 => ?_)
  refine mf_if_ne 13 dX10_seen_8 (by decide) ?_ ?_
  · refine mf_iconst (-1) dX10_seen_11 (by decide) ?_
    exact mf_iret dX10_seen_12
  · refine mf_aload_n dX10_seen_13 rfl 0 rfl ?_
    refine mf_getR fl_X10_10 rfl rfl dX10_seen_14 ?_
    refine mf_iload_n dX10_seen_17 rfl 1 rfl ?_
    refine mf_callVi (stk := []) (wX9_mannerOf l _ _) cl_X10_119 rfl (by decide) rfl rfl rfl (Nat.le_of_ble_eq_true rfl) rfl rfl dX10_seen_18 (fun x3 s4 => ?_)
    refine mf_istore_n [(2, .int x3), (0, .ref 0), (1, .int p1)] dX10_seen_21 rfl (by decide) rfl ?_
    refine mf_iconst 0 dX10_seen_22 (by decide) ?_
    refine mf_istore_n [(3, .int 0), (2, .int x3), (0, .ref 0), (1, .int p1)] dX10_seen_23 rfl (by decide) rfl ?_
    refine mf_iconst 0 dX10_seen_24 (by decide) ?_
    refine mf_istore [(4, .int 0), (3, .int 0), (2, .int x3), (0, .ref 0), (1, .int p1)] dX10_seen_25 (by decide) rfl ?_
    refine mf_sub [3, 4, 2, 1, 0] rfl (wlX10_seen_27 l _ _ _ (fun y10 s9 => ?_) FU _ _ _)
    refine mf_aload_n dX10_seen_63 rfl 0 rfl ?_
    refine mf_getR fl_X10_10 rfl rfl dX10_seen_64 ?_
    refine mf_iload_n dX10_seen_67 rfl 1 rfl ?_
    refine mf_iload_n dX10_seen_68 rfl 2 rfl ?_
    refine mf_callVv (stk := []) (wX9_setManner l _ _ _) cl_X10_123 rfl (by decide) rfl rfl rfl (Nat.le_of_ble_eq_true rfl) rfl rfl dX10_seen_69 (fun us11 s11 => ?_)
    refine mf_iload_n dX10_seen_72 rfl 3 rfl ?_
    exact mf_iret dX10_seen_73
set_option maxRecDepth 100000 in
set_option maxHeartbeats 4000000 in
theorem wX9_draw (l : Launch) (s : mx_G) : mf_M ei l yX9_draw cX9_draw 1 (some .int) 0 [.ref 1] s (fX9_draw  s) := by
  refine mf_intro rfl (Nat.le_of_ble_eq_true rfl) rfl rfl ?_
  refine mf_sub (loc' := [(0, .ref 1)]) [0] rfl ?_
  unfold fX9_draw
  refine mf_aload_n dX9_draw_0 rfl 0 rfl ?_
  refine mf_getR fl_X9_11 rfl rfl dX9_draw_1 ?_
  refine mf_bipush 127 dX9_draw_4 (by decide) ?_
  refine mf_iald rfl dX9_draw_6 ?_
  exact mf_iret dX9_draw_7
set_option maxRecDepth 100000 in
set_option maxHeartbeats 4000000 in
theorem wX9_setDraw (l : Launch) (p1 : Int32) (s : mx_G) : mf_M ev l yX9_setDraw cX9_setDraw 2 none 0 [.ref 1, .int p1] s (fX9_setDraw p1 s) := by
  refine mf_intro rfl (Nat.le_of_ble_eq_true rfl) rfl rfl ?_
  refine mf_sub (loc' := [(0, .ref 1), (1, .int p1)]) [0, 1] rfl ?_
  unfold fX9_setDraw
  refine mf_aload_n dX9_setDraw_0 rfl 0 rfl ?_
  refine mf_getR fl_X9_11 rfl rfl dX9_setDraw_1 ?_
  refine mf_bipush 127 dX9_setDraw_4 (by decide) ?_
  refine mf_iload_n dX9_setDraw_6 rfl 1 rfl ?_
  refine mf_iast rfl dX9_setDraw_7 (fun s1 => ?_)
  exact mf_vret dX9_setDraw_8
set_option maxRecDepth 100000 in
set_option maxHeartbeats 4000000 in
theorem wX10_driftPair (l : Launch) (p1 : Int32) (p2 : Int32) (p3 : Int32) (p4 : Int32) (s : mx_G) : mf_M ev l yX10_driftPair cX10_driftPair 5 none 2 [.ref 0, .int p1, .int p2, .int p3, .int p4] s (fX10_driftPair p1 p2 p3 p4 s) := by
  refine mf_intro rfl (Nat.le_of_ble_eq_true rfl) rfl rfl ?_
  refine mf_sub (loc' := [(0, .ref 0), (1, .int p1), (2, .int p2), (3, .int p3), (4, .int p4)]) [0, 1, 2, 3, 4] rfl ?_
  unfold fX10_driftPair
  refine mf_iload_n dX10_driftPair_0 rfl 1 rfl ?_
  refine mf_if (fun c0 => mf_tabIn (off := 27) 28 dX10_driftPair_1 c0 (by decide) (by decide) (by decide) (by decide) ?_) (fun c0 => ?_)
  · refine mf_aload_n dX10_driftPair_28 rfl 0 rfl ?_
    refine mf_getR fl_X10_10 rfl rfl dX10_driftPair_29 ?_
    refine mf_iload_n dX10_driftPair_32 rfl 2 rfl ?_
    refine mf_iload_n dX10_driftPair_33 rfl 3 rfl ?_
    refine mf_iload dX10_driftPair_34 4 rfl ?_
    refine mf_iconst 4 dX10_driftPair_36 (by decide) ?_
    refine mf_irem (by decide) dX10_driftPair_37 ?_
    refine mf_callVv (stk := []) (wX9_setLink l _ _ _ _) cl_X10_101 rfl (by decide) rfl rfl rfl (Nat.le_of_ble_eq_true rfl) rfl rfl dX10_driftPair_38 (fun us1 s1 => ?_)
    refine mf_goto 105 dX10_driftPair_41 (by decide) ?_
    exact mf_vret dX10_driftPair_105
  refine mf_if (fun c1 => mf_tabIn (off := 43) 44 dX10_driftPair_1 c1 (by decide) (by decide) (by decide) (by decide) ?_) (fun c1 => ?_)
  · refine mf_aload_n dX10_driftPair_44 rfl 0 rfl ?_
    refine mf_getR fl_X10_10 rfl rfl dX10_driftPair_45 ?_
    refine mf_iload_n dX10_driftPair_48 rfl 2 rfl ?_
    refine mf_iload_n dX10_driftPair_49 rfl 3 rfl ?_
    refine mf_callVi (stk := []) (wX9_sortOf l _ _ _) cl_X10_90 rfl (by decide) rfl rfl rfl (Nat.le_of_ble_eq_true rfl) rfl rfl dX10_driftPair_50 (fun x2 s3 => ?_)
    refine mf_if_eq 105 dX10_driftPair_53 (by decide) ?_ ?_
    · exact mf_vret dX10_driftPair_105
    · refine mf_aload_n dX10_driftPair_56 rfl 0 rfl ?_
      refine mf_getR fl_X10_10 rfl rfl dX10_driftPair_57 ?_
      refine mf_iload_n dX10_driftPair_60 rfl 2 rfl ?_
      refine mf_iload_n dX10_driftPair_61 rfl 3 rfl ?_
      refine mf_callVv (stk := []) (wX9_turnCut l _ _ _) cl_X10_105 rfl (by decide) rfl rfl rfl (Nat.le_of_ble_eq_true rfl) rfl rfl dX10_driftPair_62 (fun us4 s4 => ?_)
      refine mf_goto 105 dX10_driftPair_65 (by decide) ?_
      exact mf_vret dX10_driftPair_105
  refine mf_if (fun c2 => mf_tabIn (off := 67) 68 dX10_driftPair_1 c2 (by decide) (by decide) (by decide) (by decide) ?_) (fun c2 => ?_)
  · refine mf_aload_n dX10_driftPair_68 rfl 0 rfl ?_
    refine mf_getR fl_X10_10 rfl rfl dX10_driftPair_69 ?_
    refine mf_iload_n dX10_driftPair_72 rfl 2 rfl ?_
    refine mf_iload_n dX10_driftPair_73 rfl 3 rfl ?_
    refine mf_iload dX10_driftPair_74 4 rfl ?_
    refine mf_bipush 10 dX10_driftPair_76 (by decide) ?_
    refine mf_irem (by decide) dX10_driftPair_78 ?_
    refine mf_callVv (stk := []) (wX9_setLiking l _ _ _ _) cl_X10_112 rfl (by decide) rfl rfl rfl (Nat.le_of_ble_eq_true rfl) rfl rfl dX10_driftPair_79 (fun us5 s5 => ?_)
    refine mf_goto 105 dX10_driftPair_82 (by decide) ?_
    exact mf_vret dX10_driftPair_105
  refine mf_tabOut 85 dX10_driftPair_1 (fun j hj => by rcases (show j = 0 ∨ j = 1 ∨ j = 2 by omega) with rfl | rfl | rfl <;> assumption) (by decide) ?_
  refine mf_aload_n dX10_driftPair_85 rfl 0 rfl ?_
  refine mf_getR fl_X10_10 rfl rfl dX10_driftPair_86 ?_
  refine mf_iload_n dX10_driftPair_89 rfl 2 rfl ?_
  refine mf_aload_n dX10_driftPair_90 rfl 0 rfl ?_
  refine mf_getR fl_X10_10 rfl rfl dX10_driftPair_91 ?_
  refine mf_iload_n dX10_driftPair_94 rfl 2 rfl ?_
  refine mf_callVi (stk := [.int p2, .ref 1]) (wX9_barsOf l _ _) cl_X10_129 rfl (by decide) rfl rfl rfl (Nat.le_of_ble_eq_true rfl) rfl rfl dX10_driftPair_95 (fun x6 s7 => ?_)
  refine mf_iconst 1 dX10_driftPair_98 (by decide) ?_
  refine mf_iload_n dX10_driftPair_99 rfl 3 rfl ?_
  refine mf_ishl dX10_driftPair_100 ?_
  refine mf_ixor dX10_driftPair_101 ?_
  refine mf_callVv (stk := []) (wX9_setBars l _ _ _) cl_X10_132 rfl (by decide) rfl rfl rfl (Nat.le_of_ble_eq_true rfl) rfl rfl dX10_driftPair_102 (fun us8 s8 => ?_)
  exact mf_vret dX10_driftPair_105
set_option maxRecDepth 100000 in
set_option maxHeartbeats 4000000 in
theorem wX10_driftOnce (l : Launch) (s : mx_G) : mf_M ev l yX10_driftOnce cX10_driftOnce 8 none 5 [.ref 0] s (fX10_driftOnce  s) := by
  refine mf_intro rfl (Nat.le_of_ble_eq_true rfl) rfl rfl ?_
  refine mf_sub (loc' := [(0, .ref 0)]) [0] rfl ?_
  unfold fX10_driftOnce
  refine mf_aload_n dX10_driftOnce_0 rfl 0 rfl ?_
  refine mf_getR fl_X10_10 rfl rfl dX10_driftOnce_1 ?_
  refine mf_callVi (stk := []) (wX9_draw l _) cl_X10_270 rfl (by decide) rfl rfl rfl (Nat.le_of_ble_eq_true rfl) rfl rfl dX10_driftOnce_4 (fun x1 s2 => ?_)
  refine mf_ldcw kl_X10_350 dX10_driftOnce_7 ?_
  refine mf_imul dX10_driftOnce_10 ?_
  refine mf_sipush 12345 dX10_driftOnce_11 (by decide) ?_
  refine mf_iadd dX10_driftOnce_14 ?_
  refine mf_ldcw kl_X10_351 dX10_driftOnce_15 ?_
  refine mf_iand dX10_driftOnce_18 ?_
  refine mf_leti (fun x3 => ?_)
  refine mf_istore_n [(1, .int x3), (0, .ref 0)] dX10_driftOnce_19 rfl (by decide) rfl ?_
  refine mf_aload_n dX10_driftOnce_20 rfl 1 rfl ?_
  refine mf_getR fl_X10_10 rfl rfl dX10_driftOnce_21 ?_
  refine mf_iload_n dX10_driftOnce_24 rfl 0 rfl ?_
  refine mf_callVv (stk := []) (wX9_setDraw l _ _) cl_X10_273 rfl (by decide) rfl rfl rfl (Nat.le_of_ble_eq_true rfl) rfl rfl dX10_driftOnce_25 (fun us4 s4 => ?_)
  refine mf_iconst 2 dX10_driftOnce_28 (by decide) ?_
  refine mf_aload_n dX10_driftOnce_29 rfl 1 rfl ?_
  refine mf_getR fl_X10_10 rfl rfl dX10_driftOnce_30 ?_
  refine mf_callVi (stk := [.int 2]) (wX9_size l _) cl_X10_135 rfl (by decide) rfl rfl rfl (Nat.le_of_ble_eq_true rfl) rfl rfl dX10_driftOnce_33 (fun x5 s6 => ?_)
  refine mf_mmax cl_X10_352.1 (by decide) (Nat.le_of_ble_eq_true rfl) dX10_driftOnce_36 ?_
  refine mf_leti (fun x7 => ?_)
  refine mf_istore_n [(2, .int x7), (1, .int x3), (0, .ref 0)] dX10_driftOnce_39 rfl (by decide) rfl ?_
  refine mf_iload_n dX10_driftOnce_40 rfl 1 rfl ?_
  refine mf_ldcw kl_X10_357 dX10_driftOnce_41 ?_
  refine mf_idiv (by decide) dX10_driftOnce_44 ?_
  refine mf_leti (fun x8 => ?_)
  refine mf_istore_n [(3, .int x8), (2, .int x7), (1, .int x3), (0, .ref 0)] dX10_driftOnce_45 rfl (by decide) rfl ?_
  refine mf_iload_n dX10_driftOnce_46 rfl 0 rfl ?_
  refine mf_bipush 8 dX10_driftOnce_47 (by decide) ?_
  refine mf_idiv (by decide) dX10_driftOnce_49 ?_
  refine mf_leti (fun x9 => ?_)
  refine mf_istore [(4, .int x9), (3, .int x8), (2, .int x7), (1, .int x3), (0, .ref 0)] dX10_driftOnce_50 (by decide) rfl ?_
  refine mf_iload dX10_driftOnce_52 0 rfl ?_
  refine mf_iload_n dX10_driftOnce_54 rfl 2 rfl ?_
  refine mf_iremG dX10_driftOnce_55 ?_
  refine mf_leti (fun x10 => ?_)
  refine mf_istore [(5, .int x10), (4, .int x9), (3, .int x8), (2, .int x7), (1, .int x3), (0, .ref 0)] dX10_driftOnce_56 (by decide) rfl ?_
  refine mf_iload dX10_driftOnce_58 1 rfl ?_
  refine mf_bipush 8 dX10_driftOnce_60 (by decide) ?_
  refine mf_idiv (by decide) dX10_driftOnce_62 ?_
  refine mf_iload_n dX10_driftOnce_63 rfl 3 rfl ?_
  refine mf_iremG dX10_driftOnce_64 ?_
  refine mf_leti (fun x11 => ?_)
  refine mf_istore [(6, .int x11), (5, .int x10), (4, .int x9), (3, .int x8), (2, .int x7), (1, .int x3), (0, .ref 0)] dX10_driftOnce_65 (by decide) rfl ?_
  refine mf_iload dX10_driftOnce_67 2 rfl ?_
  refine mf_bipush 64 dX10_driftOnce_69 (by decide) ?_
  refine mf_idiv (by decide) dX10_driftOnce_71 ?_
  refine mf_leti (fun x12 => ?_)
  refine mf_istore [(7, .int x12), (6, .int x11), (5, .int x10), (4, .int x9), (3, .int x8), (2, .int x7), (1, .int x3), (0, .ref 0)] dX10_driftOnce_72 (by decide) rfl ?_
  refine mf_iload_n dX10_driftOnce_74 rfl 4 rfl ?_
  refine mf_bipush 8 dX10_driftOnce_75 (by decide) ?_
  refine mf_irem (by decide) dX10_driftOnce_77 ?_
  refine mf_leti (fun x13 => ?_)
  refine mf_if (fun c3 => mf_tabIn (off := 34) 112 dX10_driftOnce_78 c3 (by decide) (by decide) (by decide) (by decide) ?_) (fun c3 => ?_)
  · refine mf_aload_n dX10_driftOnce_112 rfl 7 rfl ?_
    refine mf_getR fl_X10_10 rfl rfl dX10_driftOnce_113 ?_
    refine mf_iload dX10_driftOnce_116 2 rfl ?_
    refine mf_iload dX10_driftOnce_118 0 rfl ?_
    refine mf_iconst 4 dX10_driftOnce_120 (by decide) ?_
    refine mf_irem (by decide) dX10_driftOnce_121 ?_
    refine mf_callVv (stk := []) (wX9_setManner l _ _ _) cl_X10_123 rfl (by decide) rfl rfl rfl (Nat.le_of_ble_eq_true rfl) rfl rfl dX10_driftOnce_122 (fun us14 s14 => ?_)
    refine mf_goto 167 dX10_driftOnce_125 (by decide) ?_
    exact mf_vret dX10_driftOnce_167
  refine mf_if (fun c4 => mf_tabIn (off := 68) 146 dX10_driftOnce_78 c4 (by decide) (by decide) (by decide) (by decide) ?_) (fun c4 => ?_)
  · refine mf_iload dX10_driftOnce_146 2 rfl ?_
    refine mf_iload dX10_driftOnce_148 1 rfl ?_
    refine mf_icmp_eq 167 dX10_driftOnce_150 (by decide) ?_ ?_
    · exact mf_vret dX10_driftOnce_167
    · refine mf_aload_n dX10_driftOnce_153 rfl 7 rfl ?_
      refine mf_iload_n dX10_driftOnce_154 rfl 4 rfl ?_
      refine mf_bipush 8 dX10_driftOnce_155 (by decide) ?_
      refine mf_irem (by decide) dX10_driftOnce_157 ?_
      refine mf_iload dX10_driftOnce_158 2 rfl ?_
      refine mf_iload dX10_driftOnce_160 1 rfl ?_
      refine mf_iload dX10_driftOnce_162 0 rfl ?_
      refine mf_callVv (stk := []) (wX10_driftPair l _ _ _ _ _) cl_X10_358 rfl (by decide) rfl rfl rfl (Nat.le_of_ble_eq_true rfl) rfl rfl dX10_driftOnce_164 (fun us15 s15 => ?_)
      exact mf_vret dX10_driftOnce_167
  refine mf_if (fun c5 => mf_tabIn (off := 50) 128 dX10_driftOnce_78 c5 (by decide) (by decide) (by decide) (by decide) ?_) (fun c5 => ?_)
  · refine mf_aload_n dX10_driftOnce_128 rfl 7 rfl ?_
    refine mf_callVi (stk := []) (wX10_turnAll l _) cl_X10_200 rfl (by decide) rfl rfl rfl (Nat.le_of_ble_eq_true rfl) rfl rfl dX10_driftOnce_129 (fun x16 s17 => ?_)
    refine mf_pop rfl dX10_driftOnce_132 ?_
    refine mf_goto 167 dX10_driftOnce_133 (by decide) ?_
    exact mf_vret dX10_driftOnce_167
  refine mf_if (fun c6 => mf_tabIn (off := 50) 128 dX10_driftOnce_78 c6 (by decide) (by decide) (by decide) (by decide) ?_) (fun c6 => ?_)
  · refine mf_aload_n dX10_driftOnce_128 rfl 7 rfl ?_
    refine mf_callVi (stk := []) (wX10_turnAll l _) cl_X10_200 rfl (by decide) rfl rfl rfl (Nat.le_of_ble_eq_true rfl) rfl rfl dX10_driftOnce_129 (fun x18 s19 => ?_)
    refine mf_pop rfl dX10_driftOnce_132 ?_
    refine mf_goto 167 dX10_driftOnce_133 (by decide) ?_
    exact mf_vret dX10_driftOnce_167
  refine mf_if (fun c7 => mf_tabIn (off := 58) 136 dX10_driftOnce_78 c7 (by decide) (by decide) (by decide) (by decide) ?_) (fun c7 => ?_)
  · refine mf_aload_n dX10_driftOnce_136 rfl 7 rfl ?_
    refine mf_iload dX10_driftOnce_137 2 rfl ?_
    refine mf_callVi (stk := []) (wX10_chooseAnew l _ _) cl_X10_203 rfl (by decide) rfl rfl rfl (Nat.le_of_ble_eq_true rfl) rfl rfl dX10_driftOnce_139 (fun x20 s21 => ?_)
    refine mf_pop rfl dX10_driftOnce_142 ?_
    refine mf_goto 167 dX10_driftOnce_143 (by decide) ?_
    exact mf_vret dX10_driftOnce_167
  refine mf_tabOut 146 dX10_driftOnce_78 (fun j hj => by rcases (show j = 0 ∨ j = 1 ∨ j = 2 ∨ j = 3 ∨ j = 4 by omega) with rfl | rfl | rfl | rfl | rfl <;> assumption) (by decide) ?_
  refine mf_iload dX10_driftOnce_146 2 rfl ?_
  refine mf_iload dX10_driftOnce_148 1 rfl ?_
  refine mf_icmp_eq 167 dX10_driftOnce_150 (by decide) ?_ ?_
  · exact mf_vret dX10_driftOnce_167
  · refine mf_aload_n dX10_driftOnce_153 rfl 7 rfl ?_
    refine mf_iload_n dX10_driftOnce_154 rfl 4 rfl ?_
    refine mf_bipush 8 dX10_driftOnce_155 (by decide) ?_
    refine mf_irem (by decide) dX10_driftOnce_157 ?_
    refine mf_iload dX10_driftOnce_158 2 rfl ?_
    refine mf_iload dX10_driftOnce_160 1 rfl ?_
    refine mf_iload dX10_driftOnce_162 0 rfl ?_
    refine mf_callVv (stk := []) (wX10_driftPair l _ _ _ _ _) cl_X10_358 rfl (by decide) rfl rfl rfl (Nat.le_of_ble_eq_true rfl) rfl rfl dX10_driftOnce_164 (fun us22 s22 => ?_)
    exact mf_vret dX10_driftOnce_167
set_option maxRecDepth 100000 in
set_option maxHeartbeats 4000000 in
theorem wlX10_drift_15 (l : Launch) (a1 : Int32)   : ∀ (n : Nat) (a2 : Int32) (s0 : mx_G), mf_X ei l RX10 cX10_drift 3 (some .int) "drift" 6 (lX10_drift_15 a1  n a2 s0) 15 [(0, .ref 0), (1, .int a1), (2, .int a2)] [] s0 := by
  intro n
  induction n with
  | zero => intro a2 s0; exact mf_none
  | succ n ih15 =>
    intro a2 s0
    rw [lX10_drift_15]
    refine mf_iload_n dX10_drift_15 rfl 2 rfl ?_
    refine mf_iload_n dX10_drift_16 rfl 1 rfl ?_
    refine mf_icmp_ge 41 dX10_drift_17 (by decide) ?_ ?_
    · refine mf_aload_n dX10_drift_41 rfl 0 rfl ?_
      refine mf_getR fl_X10_10 rfl rfl dX10_drift_42 ?_
      refine mf_callVi (stk := []) (wX9_choosers l _) cl_X10_173 rfl (by decide) rfl rfl rfl (Nat.le_of_ble_eq_true rfl) rfl rfl dX10_drift_45 (fun x1 s2 => ?_)
      exact mf_iret dX10_drift_48
    · refine mf_aload_n dX10_drift_20 rfl 0 rfl ?_
      refine mf_getR fl_X10_19 rfl rfl dX10_drift_21 ?_
      refine mf_aload_n dX10_drift_24 rfl 0 rfl ?_
      refine mf_getR fl_X10_10 rfl rfl dX10_drift_25 ?_
      refine mf_callVv (stk := []) (wX3_keep l _) cl_X10_97 rfl (by decide) rfl rfl rfl (Nat.le_of_ble_eq_true rfl) rfl rfl dX10_drift_28 (fun us3 s3 => ?_)
      refine mf_aload_n dX10_drift_31 rfl 0 rfl ?_
      refine mf_callVv (stk := []) (wX10_driftOnce l _) cl_X10_264 rfl (by decide) rfl rfl rfl (Nat.le_of_ble_eq_true rfl) rfl rfl dX10_drift_32 (fun us4 s4 => ?_)
      refine mf_iinc 1 [(2, .int (a2 + 1)), (0, .ref 0), (1, .int a1)] dX10_drift_35 2 rfl (by decide) (by decide) rfl ?_
      refine mf_goto 15 dX10_drift_38 (by decide) ?_
      exact mf_sub [1, 2, 0] rfl (ih15 _ _)
set_option maxRecDepth 100000 in
set_option maxHeartbeats 4000000 in
theorem wX10_drift (l : Launch) (p1 : Int32) (s : mx_G) : mf_M ei l yX10_drift cX10_drift 3 (some .int) 6 [.ref 0, .int p1] s (fX10_drift p1 s) := by
  refine mf_intro rfl (Nat.le_of_ble_eq_true rfl) rfl rfl ?_
  refine mf_sub (loc' := [(0, .ref 0), (1, .int p1)]) [0, 1] rfl ?_
  unfold fX10_drift
  refine mf_iload_n dX10_drift_0 rfl 1 rfl ?_
  refine mf_iconst 1 dX10_drift_1 (by decide) ?_
  refine mf_icmp_lt 11 dX10_drift_2 (by decide) ?_ ?_
  · refine mf_iconst (-1) dX10_drift_11 (by decide) ?_
    exact mf_iret dX10_drift_12
  · refine mf_iload_n dX10_drift_5 rfl 1 rfl ?_
    refine mf_bipush 40 dX10_drift_6 (by decide) ?_
    refine mf_icmp_le 13 dX10_drift_8 (by decide) ?_ ?_
    · refine mf_iconst 0 dX10_drift_13 (by decide) ?_
      refine mf_istore_n [(2, .int 0), (0, .ref 0), (1, .int p1)] dX10_drift_14 rfl (by decide) rfl ?_
      exact mf_sub [1, 2, 0] rfl (wlX10_drift_15 l _ FU _ _)
    · refine mf_iconst (-1) dX10_drift_11 (by decide) ?_
      exact mf_iret dX10_drift_12
set_option maxRecDepth 100000 in
set_option maxHeartbeats 4000000 in
theorem wX3_bringBack (l : Launch) (s : mx_G) : mf_M ev l yX3_bringBack cX3_bringBack 2 none 3 [.ref 3, .ref 1] s (fX3_bringBack  s) := by
  refine mf_intro rfl (Nat.le_of_ble_eq_true rfl) rfl rfl ?_
  refine mf_sub (loc' := [(0, .ref 3), (1, .ref 1)]) [0, 1] rfl ?_
  unfold fX3_bringBack
  refine mf_aload_n dX3_bringBack_0 rfl 0 rfl ?_
  refine mf_getI fl_X3_15 rfl rfl dX3_bringBack_1 ?_
  refine mf_if_ne 8 dX3_bringBack_4 (by decide) ?_ ?_
  · exact mf_vret dX3_bringBack_7
  · refine mf_aload_n dX3_bringBack_8 rfl 0 rfl ?_
    refine mf_dup rfl dX3_bringBack_9 ?_
    refine mf_getI fl_X3_15 rfl rfl dX3_bringBack_10 ?_
    refine mf_iconst 1 dX3_bringBack_13 (by decide) ?_
    refine mf_isub dX3_bringBack_14 ?_
    refine mf_putI fl_X3_15 rfl rfl dX3_bringBack_15 (fun s1 => ?_)
    refine mf_aload_n dX3_bringBack_18 rfl 0 rfl ?_
    refine mf_aload_n dX3_bringBack_19 rfl 0 rfl ?_
    refine mf_getI fl_X3_19 rfl rfl dX3_bringBack_20 ?_
    refine mf_bipush 6 dX3_bringBack_23 (by decide) ?_
    refine mf_iadd dX3_bringBack_25 ?_
    refine mf_iconst 1 dX3_bringBack_26 (by decide) ?_
    refine mf_isub dX3_bringBack_27 ?_
    refine mf_bipush 6 dX3_bringBack_28 (by decide) ?_
    refine mf_irem (by decide) dX3_bringBack_30 ?_
    refine mf_putI fl_X3_19 rfl rfl dX3_bringBack_31 (fun s2 => ?_)
    refine mf_aload_n dX3_bringBack_34 rfl 0 rfl ?_
    refine mf_getR fl_X3_11 rfl rfl dX3_bringBack_35 ?_
    refine mf_aload_n dX3_bringBack_38 rfl 0 rfl ?_
    refine mf_getI fl_X3_19 rfl rfl dX3_bringBack_39 ?_
    refine mf_sipush 128 dX3_bringBack_42 (by decide) ?_
    refine mf_imul dX3_bringBack_45 ?_
    refine mf_aload_n dX3_bringBack_46 rfl 1 rfl ?_
    refine mf_getR fl_X3_22 rfl rfl dX3_bringBack_47 ?_
    refine mf_iconst 0 dX3_bringBack_50 (by decide) ?_
    refine mf_sipush 128 dX3_bringBack_51 (by decide) ?_
    refine mf_copyi cl_X3_25 ac_2 ac_3 ac_4 rfl rfl (by decide) (Nat.le_of_ble_eq_true rfl) dX3_bringBack_54 (fun s3 => ?_)
    exact mf_vret dX3_bringBack_57
set_option maxRecDepth 100000 in
set_option maxHeartbeats 4000000 in
theorem wX10_undo (l : Launch) (s : mx_G) : mf_M ei l yX10_undo cX10_undo 1 (some .int) 4 [.ref 0] s (fX10_undo  s) := by
  refine mf_intro rfl (Nat.le_of_ble_eq_true rfl) rfl rfl ?_
  refine mf_sub (loc' := [(0, .ref 0)]) [0] rfl ?_
  unfold fX10_undo
  refine mf_aload_n dX10_undo_0 rfl 0 rfl ?_
  refine mf_getR fl_X10_19 rfl rfl dX10_undo_1 ?_
  refine mf_callVi (stk := []) (wX3_known l _) cl_X10_185 rfl (by decide) rfl rfl rfl (Nat.le_of_ble_eq_true rfl) rfl rfl dX10_undo_4 (fun x1 s2 => ?_)
  refine mf_if_ne 13 dX10_undo_7 (by decide) ?_ ?_
  · refine mf_bipush (-4) dX10_undo_10 (by decide) ?_
    exact mf_iret dX10_undo_12
  · refine mf_aload_n dX10_undo_13 rfl 0 rfl ?_
    refine mf_getR fl_X10_19 rfl rfl dX10_undo_14 ?_
    refine mf_aload_n dX10_undo_17 rfl 0 rfl ?_
    refine mf_getR fl_X10_10 rfl rfl dX10_undo_18 ?_
    refine mf_callVv (stk := []) (wX3_bringBack l _) cl_X10_267 rfl (by decide) rfl rfl rfl (Nat.le_of_ble_eq_true rfl) rfl rfl dX10_undo_21 (fun us3 s3 => ?_)
    refine mf_aload_n dX10_undo_24 rfl 0 rfl ?_
    refine mf_getR fl_X10_19 rfl rfl dX10_undo_25 ?_
    refine mf_callVi (stk := []) (wX3_known l _) cl_X10_185 rfl (by decide) rfl rfl rfl (Nat.le_of_ble_eq_true rfl) rfl rfl dX10_undo_28 (fun x4 s5 => ?_)
    exact mf_iret dX10_undo_31
set_option maxRecDepth 100000 in
set_option maxHeartbeats 4000000 in
theorem wX10_seed (l : Launch) (p1 : Int32) (s : mx_G) : mf_M ei l yX10_seed cX10_seed 3 (some .int) 1 [.ref 0, .int p1] s (fX10_seed p1 s) := by
  refine mf_intro rfl (Nat.le_of_ble_eq_true rfl) rfl rfl ?_
  refine mf_sub (loc' := [(0, .ref 0), (1, .int p1)]) [0, 1] rfl ?_
  unfold fX10_seed
  refine mf_iload_n dX10_seed_0 rfl 1 rfl ?_
  refine mf_if_ge 6 dX10_seed_1 (by decide) ?_ ?_
  · refine mf_aload_n dX10_seed_6 rfl 0 rfl ?_
    refine mf_getR fl_X10_10 rfl rfl dX10_seed_7 ?_
    refine mf_callVi (stk := []) (wX9_draw l _) cl_X10_270 rfl (by decide) rfl rfl rfl (Nat.le_of_ble_eq_true rfl) rfl rfl dX10_seed_10 (fun x1 s2 => ?_)
    refine mf_istore_n [(2, .int x1), (0, .ref 0), (1, .int p1)] dX10_seed_13 rfl (by decide) rfl ?_
    refine mf_aload_n dX10_seed_14 rfl 1 rfl ?_
    refine mf_getR fl_X10_10 rfl rfl dX10_seed_15 ?_
    refine mf_iload_n dX10_seed_18 rfl 2 rfl ?_
    refine mf_callVv (stk := []) (wX9_setDraw l _ _) cl_X10_273 rfl (by decide) rfl rfl rfl (Nat.le_of_ble_eq_true rfl) rfl rfl dX10_seed_19 (fun us3 s3 => ?_)
    refine mf_iload_n dX10_seed_22 rfl 0 rfl ?_
    exact mf_iret dX10_seed_23
  · refine mf_iconst (-1) dX10_seed_4 (by decide) ?_
    exact mf_iret dX10_seed_5
set_option maxRecDepth 100000 in
set_option maxHeartbeats 4000000 in
theorem wX9_become (l : Launch) (s : mx_G) : mf_M ev l yX9_become cX9_become 2 none 3 [.ref 5, .ref 1] s (fX9_become  s) := by
  refine mf_intro rfl (Nat.le_of_ble_eq_true rfl) rfl rfl ?_
  refine mf_sub (loc' := [(0, .ref 5), (1, .ref 1)]) [0, 1] rfl ?_
  unfold fX9_become
  refine mf_aload_n dX9_become_0 rfl 1 rfl ?_
  refine mf_getR fl_X9_11 rfl rfl dX9_become_1 ?_
  refine mf_iconst 0 dX9_become_4 (by decide) ?_
  refine mf_aload_n dX9_become_5 rfl 0 rfl ?_
  refine mf_getR fl_X9_11 rfl rfl dX9_become_6 ?_
  refine mf_iconst 0 dX9_become_9 (by decide) ?_
  refine mf_sipush 128 dX9_become_10 (by decide) ?_
  refine mf_copyi cl_X9_15 ac_2 ac_3 ac_4 rfl rfl (by decide) (Nat.le_of_ble_eq_true rfl) dX9_become_13 (fun s1 => ?_)
  exact mf_vret dX9_become_16
set_option maxRecDepth 100000 in
set_option maxHeartbeats 4000000 in
theorem wX3_become (l : Launch) (s : mx_G) : mf_M ev l yX3_become cX3_become 2 none 3 [.ref 7, .ref 3] s (fX3_become  s) := by
  refine mf_intro rfl (Nat.le_of_ble_eq_true rfl) rfl rfl ?_
  refine mf_sub (loc' := [(0, .ref 7), (1, .ref 3)]) [0, 1] rfl ?_
  unfold fX3_become
  refine mf_aload_n dX3_become_0 rfl 1 rfl ?_
  refine mf_getR fl_X3_11 rfl rfl dX3_become_1 ?_
  refine mf_iconst 0 dX3_become_4 (by decide) ?_
  refine mf_aload_n dX3_become_5 rfl 0 rfl ?_
  refine mf_getR fl_X3_11 rfl rfl dX3_become_6 ?_
  refine mf_iconst 0 dX3_become_9 (by decide) ?_
  refine mf_aload_n dX3_become_10 rfl 0 rfl ?_
  refine mf_getR fl_X3_11 rfl rfl dX3_become_11 ?_
  refine mf_aleni 768 rfl (by decide) dX3_become_14 ?_
  refine mf_copyi cl_X3_25 ac_2 ac_3 ac_4 rfl rfl (by decide) (Nat.le_of_ble_eq_true rfl) dX3_become_15 (fun s1 => ?_)
  refine mf_aload_n dX3_become_18 rfl 0 rfl ?_
  refine mf_aload_n dX3_become_19 rfl 1 rfl ?_
  refine mf_getI fl_X3_15 rfl rfl dX3_become_20 ?_
  refine mf_putI fl_X3_15 rfl rfl dX3_become_23 (fun s2 => ?_)
  refine mf_aload_n dX3_become_26 rfl 0 rfl ?_
  refine mf_aload_n dX3_become_27 rfl 1 rfl ?_
  refine mf_getI fl_X3_19 rfl rfl dX3_become_28 ?_
  refine mf_putI fl_X3_19 rfl rfl dX3_become_31 (fun s3 => ?_)
  exact mf_vret dX3_become_34
set_option maxRecDepth 100000 in
set_option maxHeartbeats 4000000 in
theorem wX10_image (l : Launch) (s : mx_G) : mf_M ei l yX10_image cX10_image 1 (some .int) 4 [.ref 0] s (fX10_image  s) := by
  refine mf_intro rfl (Nat.le_of_ble_eq_true rfl) rfl rfl ?_
  refine mf_sub (loc' := [(0, .ref 0)]) [0] rfl ?_
  unfold fX10_image
  refine mf_aload_n dX10_image_0 rfl 0 rfl ?_
  refine mf_getR fl_X10_23 rfl rfl dX10_image_1 ?_
  refine mf_aload_n dX10_image_4 rfl 0 rfl ?_
  refine mf_getR fl_X10_10 rfl rfl dX10_image_5 ?_
  refine mf_callVv (stk := []) (wX9_become l _) cl_X10_276 rfl (by decide) rfl rfl rfl (Nat.le_of_ble_eq_true rfl) rfl rfl dX10_image_8 (fun us1 s1 => ?_)
  refine mf_aload_n dX10_image_11 rfl 0 rfl ?_
  refine mf_getR fl_X10_26 rfl rfl dX10_image_12 ?_
  refine mf_aload_n dX10_image_15 rfl 0 rfl ?_
  refine mf_getR fl_X10_19 rfl rfl dX10_image_16 ?_
  refine mf_callVv (stk := []) (wX3_become l _) cl_X10_279 rfl (by decide) rfl rfl rfl (Nat.le_of_ble_eq_true rfl) rfl rfl dX10_image_19 (fun us2 s2 => ?_)
  refine mf_aload_n dX10_image_22 rfl 0 rfl ?_
  refine mf_iconst 1 dX10_image_23 (by decide) ?_
  refine mf_putZ (i := 0) (x := 1) fl_X10_29 rfl rfl dX10_image_24 (fun s3 => ?_)
  refine mf_iconst 1 dX10_image_27 (by decide) ?_
  exact mf_iret dX10_image_28
set_option maxRecDepth 100000 in
set_option maxHeartbeats 4000000 in
theorem wX9_become_1 (l : Launch) (s : mx_G) : mf_M ev l yX9_become cX9_become 2 none 3 [.ref 1, .ref 5] s (fX9_become_1  s) := by
  refine mf_intro rfl (Nat.le_of_ble_eq_true rfl) rfl rfl ?_
  refine mf_sub (loc' := [(0, .ref 1), (1, .ref 5)]) [0, 1] rfl ?_
  unfold fX9_become_1
  refine mf_aload_n dX9_become_0 rfl 1 rfl ?_
  refine mf_getR fl_X9_11 rfl rfl dX9_become_1 ?_
  refine mf_iconst 0 dX9_become_4 (by decide) ?_
  refine mf_aload_n dX9_become_5 rfl 0 rfl ?_
  refine mf_getR fl_X9_11 rfl rfl dX9_become_6 ?_
  refine mf_iconst 0 dX9_become_9 (by decide) ?_
  refine mf_sipush 128 dX9_become_10 (by decide) ?_
  refine mf_copyi cl_X9_15 ac_2 ac_3 ac_4 rfl rfl (by decide) (Nat.le_of_ble_eq_true rfl) dX9_become_13 (fun s1 => ?_)
  exact mf_vret dX9_become_16
set_option maxRecDepth 100000 in
set_option maxHeartbeats 4000000 in
theorem wX3_become_1 (l : Launch) (s : mx_G) : mf_M ev l yX3_become cX3_become 2 none 3 [.ref 3, .ref 7] s (fX3_become_1  s) := by
  refine mf_intro rfl (Nat.le_of_ble_eq_true rfl) rfl rfl ?_
  refine mf_sub (loc' := [(0, .ref 3), (1, .ref 7)]) [0, 1] rfl ?_
  unfold fX3_become_1
  refine mf_aload_n dX3_become_0 rfl 1 rfl ?_
  refine mf_getR fl_X3_11 rfl rfl dX3_become_1 ?_
  refine mf_iconst 0 dX3_become_4 (by decide) ?_
  refine mf_aload_n dX3_become_5 rfl 0 rfl ?_
  refine mf_getR fl_X3_11 rfl rfl dX3_become_6 ?_
  refine mf_iconst 0 dX3_become_9 (by decide) ?_
  refine mf_aload_n dX3_become_10 rfl 0 rfl ?_
  refine mf_getR fl_X3_11 rfl rfl dX3_become_11 ?_
  refine mf_aleni 768 rfl (by decide) dX3_become_14 ?_
  refine mf_copyi cl_X3_25 ac_2 ac_3 ac_4 rfl rfl (by decide) (Nat.le_of_ble_eq_true rfl) dX3_become_15 (fun s1 => ?_)
  refine mf_aload_n dX3_become_18 rfl 0 rfl ?_
  refine mf_aload_n dX3_become_19 rfl 1 rfl ?_
  refine mf_getI fl_X3_15 rfl rfl dX3_become_20 ?_
  refine mf_putI fl_X3_15 rfl rfl dX3_become_23 (fun s2 => ?_)
  refine mf_aload_n dX3_become_26 rfl 0 rfl ?_
  refine mf_aload_n dX3_become_27 rfl 1 rfl ?_
  refine mf_getI fl_X3_19 rfl rfl dX3_become_28 ?_
  refine mf_putI fl_X3_19 rfl rfl dX3_become_31 (fun s3 => ?_)
  exact mf_vret dX3_become_34
set_option maxRecDepth 100000 in
set_option maxHeartbeats 4000000 in
theorem wX10_restore (l : Launch) (s : mx_G) : mf_M ei l yX10_restore cX10_restore 1 (some .int) 4 [.ref 0] s (fX10_restore  s) := by
  refine mf_intro rfl (Nat.le_of_ble_eq_true rfl) rfl rfl ?_
  refine mf_sub (loc' := [(0, .ref 0)]) [0] rfl ?_
  unfold fX10_restore
  refine mf_aload_n dX10_restore_0 rfl 0 rfl ?_
  refine mf_getI fl_X10_29 rfl rfl dX10_restore_1 ?_
  refine mf_if_ne 10 dX10_restore_4 (by decide) ?_ ?_
  · refine mf_bipush (-4) dX10_restore_7 (by decide) ?_
    exact mf_iret dX10_restore_9
  · refine mf_aload_n dX10_restore_10 rfl 0 rfl ?_
    refine mf_getR fl_X10_10 rfl rfl dX10_restore_11 ?_
    refine mf_aload_n dX10_restore_14 rfl 0 rfl ?_
    refine mf_getR fl_X10_23 rfl rfl dX10_restore_15 ?_
    refine mf_callVv (stk := []) (wX9_become_1 l _) cl_X10_276 rfl (by decide) rfl rfl rfl (Nat.le_of_ble_eq_true rfl) rfl rfl dX10_restore_18 (fun us1 s1 => ?_)
    refine mf_aload_n dX10_restore_21 rfl 0 rfl ?_
    refine mf_getR fl_X10_19 rfl rfl dX10_restore_22 ?_
    refine mf_aload_n dX10_restore_25 rfl 0 rfl ?_
    refine mf_getR fl_X10_26 rfl rfl dX10_restore_26 ?_
    refine mf_callVv (stk := []) (wX3_become_1 l _) cl_X10_279 rfl (by decide) rfl rfl rfl (Nat.le_of_ble_eq_true rfl) rfl rfl dX10_restore_29 (fun us2 s2 => ?_)
    refine mf_iconst 1 dX10_restore_32 (by decide) ?_
    exact mf_iret dX10_restore_33
set_option maxRecDepth 100000 in
set_option maxHeartbeats 4000000 in
theorem wX6_isSheet (l : Launch) (p0 : Int32) (s : mx_G) : mf_M ei l yX6_isSheet cX6_isSheet 1 (some .boolean) 0 [.int p0] s (fX6_isSheet p0 s) := by
  refine mf_intro rfl (Nat.le_of_ble_eq_true rfl) rfl rfl ?_
  refine mf_sub (loc' := [(0, .int p0)]) [0] rfl ?_
  unfold fX6_isSheet
  refine mf_iload_n dX6_isSheet_0 rfl 0 rfl ?_
  refine mf_if_lt 13 dX6_isSheet_1 (by decide) ?_ ?_
  · refine mf_iconst 0 dX6_isSheet_13 (by decide) ?_
    exact mf_zret (by decide) dX6_isSheet_14
  · refine mf_iload_n dX6_isSheet_4 rfl 0 rfl ?_
    refine mf_iconst 4 dX6_isSheet_5 (by decide) ?_
    refine mf_icmp_ge 13 dX6_isSheet_6 (by decide) ?_ ?_
    · refine mf_iconst 0 dX6_isSheet_13 (by decide) ?_
      exact mf_zret (by decide) dX6_isSheet_14
    · refine mf_iconst 1 dX6_isSheet_9 (by decide) ?_
      refine mf_goto 14 dX6_isSheet_10 (by decide) ?_
      exact mf_zret (by decide) dX6_isSheet_14
set_option maxRecDepth 100000 in
set_option maxHeartbeats 4000000 in
theorem wX6_isLane (l : Launch) (p0 : Int32) (s : mx_G) : mf_M ei l yX6_isLane cX6_isLane 1 (some .boolean) 0 [.int p0] s (fX6_isLane p0 s) := by
  refine mf_intro rfl (Nat.le_of_ble_eq_true rfl) rfl rfl ?_
  refine mf_sub (loc' := [(0, .int p0)]) [0] rfl ?_
  unfold fX6_isLane
  refine mf_iload_n dX6_isLane_0 rfl 0 rfl ?_
  refine mf_if_lt 13 dX6_isLane_1 (by decide) ?_ ?_
  · refine mf_iconst 0 dX6_isLane_13 (by decide) ?_
    exact mf_zret (by decide) dX6_isLane_14
  · refine mf_iload_n dX6_isLane_4 rfl 0 rfl ?_
    refine mf_iconst 3 dX6_isLane_5 (by decide) ?_
    refine mf_icmp_gt 13 dX6_isLane_6 (by decide) ?_ ?_
    · refine mf_iconst 0 dX6_isLane_13 (by decide) ?_
      exact mf_zret (by decide) dX6_isLane_14
    · refine mf_iconst 1 dX6_isLane_9 (by decide) ?_
      refine mf_goto 14 dX6_isLane_10 (by decide) ?_
      exact mf_zret (by decide) dX6_isLane_14
set_option maxRecDepth 100000 in
set_option maxHeartbeats 4000000 in
theorem wX6_isMissing (l : Launch) (p1 : Int32) (s : mx_G) : mf_M ei l yX6_isMissing cX6_isMissing 2 (some .boolean) 0 [.ref 40, .int p1] s (fX6_isMissing p1 s) := by
  refine mf_intro rfl (Nat.le_of_ble_eq_true rfl) rfl rfl ?_
  refine mf_sub (loc' := [(0, .ref 40), (1, .int p1)]) [0, 1] rfl ?_
  unfold fX6_isMissing
  refine mf_aload_n dX6_isMissing_0 rfl 0 rfl ?_
  refine mf_getR fl_X6_11 rfl rfl dX6_isMissing_1 ?_
  refine mf_iload_n dX6_isMissing_4 rfl 1 rfl ?_
  refine mf_iald rfl dX6_isMissing_5 ?_
  refine mf_iconst (-1) dX6_isMissing_6 (by decide) ?_
  refine mf_icmp_ne 14 dX6_isMissing_7 (by decide) ?_ ?_
  · refine mf_iconst 1 dX6_isMissing_10 (by decide) ?_
    refine mf_goto 15 dX6_isMissing_11 (by decide) ?_
    exact mf_zret (by decide) dX6_isMissing_15
  · refine mf_iconst 0 dX6_isMissing_14 (by decide) ?_
    exact mf_zret (by decide) dX6_isMissing_15
set_option maxRecDepth 100000 in
set_option maxHeartbeats 4000000 in
theorem wX6_holds (l : Launch) (p1 : Int32) (p2 : Int32) (p3 : Int32) (s : mx_G) : mf_M ei l yX6_holds cX6_holds 4 (some .boolean) 0 [.ref 40, .int p1, .int p2, .int p3] s (fX6_holds p1 p2 p3 s) := by
  refine mf_intro rfl (Nat.le_of_ble_eq_true rfl) rfl rfl ?_
  refine mf_sub (loc' := [(0, .ref 40), (1, .int p1), (2, .int p2), (3, .int p3)]) [0, 1, 2, 3] rfl ?_
  unfold fX6_holds
  refine mf_iload_n dX6_holds_0 rfl 2 rfl ?_
  refine mf_if_lt 34 dX6_holds_1 (by decide) ?_ ?_
  · refine mf_iconst 0 dX6_holds_34 (by decide) ?_
    exact mf_zret (by decide) dX6_holds_35
  · refine mf_iload_n dX6_holds_4 rfl 3 rfl ?_
    refine mf_if_lt 34 dX6_holds_5 (by decide) ?_ ?_
    · refine mf_iconst 0 dX6_holds_34 (by decide) ?_
      exact mf_zret (by decide) dX6_holds_35
    · refine mf_iload_n dX6_holds_8 rfl 2 rfl ?_
      refine mf_aload_n dX6_holds_9 rfl 0 rfl ?_
      refine mf_getR fl_X6_15 rfl rfl dX6_holds_10 ?_
      refine mf_iload_n dX6_holds_13 rfl 1 rfl ?_
      refine mf_iald rfl dX6_holds_14 ?_
      refine mf_icmp_gt 34 dX6_holds_15 (by decide) ?_ ?_
      · refine mf_iconst 0 dX6_holds_34 (by decide) ?_
        exact mf_zret (by decide) dX6_holds_35
      · refine mf_iload_n dX6_holds_18 rfl 3 rfl ?_
        refine mf_aload_n dX6_holds_19 rfl 0 rfl ?_
        refine mf_getR fl_X6_15 rfl rfl dX6_holds_20 ?_
        refine mf_iload_n dX6_holds_23 rfl 1 rfl ?_
        refine mf_iald rfl dX6_holds_24 ?_
        refine mf_iload_n dX6_holds_25 rfl 2 rfl ?_
        refine mf_isub dX6_holds_26 ?_
        refine mf_icmp_gt 34 dX6_holds_27 (by decide) ?_ ?_
        · refine mf_iconst 0 dX6_holds_34 (by decide) ?_
          exact mf_zret (by decide) dX6_holds_35
        · refine mf_iconst 1 dX6_holds_30 (by decide) ?_
          refine mf_goto 35 dX6_holds_31 (by decide) ?_
          exact mf_zret (by decide) dX6_holds_35
set_option maxRecDepth 100000 in
set_option maxHeartbeats 4000000 in
theorem wX6_refusal (l : Launch) (p1 : Int32) (p2 : Int32) (p3 : Int32) (p4 : Int32) (s : mx_G) : mf_M ei l yX6_refusal cX6_refusal 5 (some .int) 1 [.ref 40, .int p1, .int p2, .int p3, .int p4] s (fX6_refusal p1 p2 p3 p4 s) := by
  refine mf_intro rfl (Nat.le_of_ble_eq_true rfl) rfl rfl ?_
  refine mf_sub (loc' := [(0, .ref 40), (1, .int p1), (2, .int p2), (3, .int p3), (4, .int p4)]) [0, 1, 2, 3, 4] rfl ?_
  unfold fX6_refusal
  refine mf_iload_n dX6_refusal_0 rfl 1 rfl ?_
  refine mf_callSi (stk := []) (wX6_isSheet l _ _) cl_X6_22 rfl (by decide) rfl (Nat.le_of_ble_eq_true rfl) rfl rfl dX6_refusal_1 (fun x1 s2 => ?_)
  refine mf_if_eq 14 dX6_refusal_4 (by decide) ?_ ?_
  · refine mf_iconst (-1) dX6_refusal_14 (by decide) ?_
    exact mf_iret dX6_refusal_15
  · refine mf_iload_n dX6_refusal_7 rfl 2 rfl ?_
    refine mf_callSi (stk := []) (wX6_isLane l _ _) cl_X6_26 rfl (by decide) rfl (Nat.le_of_ble_eq_true rfl) rfl rfl dX6_refusal_8 (fun x3 s4 => ?_)
    refine mf_if_ne 16 dX6_refusal_11 (by decide) ?_ ?_
    · refine mf_iconst (-1) dX6_refusal_14 (by decide) ?_
      exact mf_iret dX6_refusal_15
    · refine mf_aload_n dX6_refusal_16 rfl 0 rfl ?_
      refine mf_iload_n dX6_refusal_17 rfl 1 rfl ?_
      refine mf_callVi (stk := []) (wX6_isMissing l _ _) cl_X6_29 rfl (by decide) rfl rfl rfl (Nat.le_of_ble_eq_true rfl) rfl rfl dX6_refusal_18 (fun x5 s6 => ?_)
      refine mf_if_eq 27 dX6_refusal_21 (by decide) ?_ ?_
      · refine mf_aload_n dX6_refusal_27 rfl 0 rfl ?_
        refine mf_getR fl_X6_11 rfl rfl dX6_refusal_28 ?_
        refine mf_iload_n dX6_refusal_31 rfl 1 rfl ?_
        refine mf_iald rfl dX6_refusal_32 ?_
        refine mf_iload_n dX6_refusal_33 rfl 2 rfl ?_
        refine mf_icmp_eq 40 dX6_refusal_34 (by decide) ?_ ?_
        · refine mf_aload_n dX6_refusal_40 rfl 0 rfl ?_
          refine mf_iload_n dX6_refusal_41 rfl 1 rfl ?_
          refine mf_iload_n dX6_refusal_42 rfl 3 rfl ?_
          refine mf_iload dX6_refusal_43 4 rfl ?_
          refine mf_callVi (stk := []) (wX6_holds l _ _ _ _) cl_X6_32 rfl (by decide) rfl rfl rfl (Nat.le_of_ble_eq_true rfl) rfl rfl dX6_refusal_45 (fun x7 s8 => ?_)
          refine mf_if_eq 55 dX6_refusal_48 (by decide) ?_ ?_
          · refine mf_bipush (-13) dX6_refusal_55 (by decide) ?_
            exact mf_iret dX6_refusal_57
          · refine mf_iconst 0 dX6_refusal_51 (by decide) ?_
            refine mf_goto 57 dX6_refusal_52 (by decide) ?_
            exact mf_iret dX6_refusal_57
        · refine mf_bipush (-12) dX6_refusal_37 (by decide) ?_
          exact mf_iret dX6_refusal_39
      · refine mf_bipush (-11) dX6_refusal_24 (by decide) ?_
        exact mf_iret dX6_refusal_26
set_option maxRecDepth 100000 in
set_option maxHeartbeats 4000000 in
theorem wX6_itemAt (l : Launch) (p1 : Int32) (p2 : Int32) (s : mx_G) : mf_M el l yX6_itemAt cX6_itemAt 3 (some .long) 0 [.ref 40, .int p1, .int p2] s (fX6_itemAt p1 p2 s) := by
  refine mf_intro rfl (Nat.le_of_ble_eq_true rfl) rfl rfl ?_
  refine mf_sub (loc' := [(0, .ref 40), (1, .int p1), (2, .int p2)]) [0, 1, 2] rfl ?_
  unfold fX6_itemAt
  refine mf_aload_n dX6_itemAt_0 rfl 0 rfl ?_
  refine mf_getR fl_X6_18 rfl rfl dX6_itemAt_1 ?_
  refine mf_iload_n dX6_itemAt_4 rfl 1 rfl ?_
  refine mf_bipush 24 dX6_itemAt_5 (by decide) ?_
  refine mf_imul dX6_itemAt_7 ?_
  refine mf_iload_n dX6_itemAt_8 rfl 2 rfl ?_
  refine mf_iadd dX6_itemAt_9 ?_
  refine mf_lald rfl dX6_itemAt_10 ?_
  exact mf_lret dX6_itemAt_11
set_option maxRecDepth 100000 in
set_option maxHeartbeats 4000000 in
theorem wlX10_tried_36 (l : Launch) (a1 : Int32) (a3 : Int32) (a4 : Int32) (k103 : mx_G → Option (Int32 × mx_G)) (hk103 : ∀ (sz : mx_G), mf_X ei l RX10 cX10_tried 9 (some .int) "tried" 4 (k103 sz) 103 [(0, .ref 0), (4, .int a4)] [] sz) : ∀ (n : Nat) (a6 : Int32) (s0 : mx_G), mf_X ei l RX10 cX10_tried 9 (some .int) "tried" 4 (lX10_tried_36 a1 a3 a4 k103 n a6 s0) 36 [(0, .ref 0), (1, .int a1), (3, .int a3), (4, .int a4), (6, .int a6)] [] s0 := by
  intro n
  induction n with
  | zero => intro a6 s0; exact mf_none
  | succ n ih36 =>
    intro a6 s0
    rw [lX10_tried_36]
    refine mf_iload dX10_tried_36 4 rfl ?_
    refine mf_iload dX10_tried_38 3 rfl ?_
    refine mf_icmp_ge 103 dX10_tried_40 (by decide) ?_ ?_
    · exact mf_sub [0, 3] rfl (hk103 _)
    · refine mf_aload_n dX10_tried_43 rfl 0 rfl ?_
      refine mf_getR fl_X10_78 rfl rfl dX10_tried_44 ?_
      refine mf_iload_n dX10_tried_47 rfl 1 rfl ?_
      refine mf_iload_n dX10_tried_48 rfl 2 rfl ?_
      refine mf_iload dX10_tried_49 4 rfl ?_
      refine mf_iadd dX10_tried_51 ?_
      refine mf_iconst 1 dX10_tried_52 (by decide) ?_
      refine mf_isub dX10_tried_53 ?_
      refine mf_callVl (stk := []) (wX6_itemAt l _ _ _) cl_X10_286 rfl (by decide) rfl rfl rfl (Nat.le_of_ble_eq_true rfl) rfl rfl dX10_tried_54 (fun x5 s6 => ?_)
      refine mf_lstore [(7, .long x5), (0, .ref 0), (1, .int a1), (3, .int a3), (4, .int a4), (6, .int a6)] dX10_tried_57 (by decide) rfl ?_
      refine mf_lload dX10_tried_59 0 rfl ?_
      refine mf_lconst 0 dX10_tried_61 (by decide) ?_
      refine mf_lcmp dX10_tried_62 ?_
      refine mf_join (fun (J : mx_G → Option (Int32 × mx_G)) => ∀ (s_87 : mx_G), mf_X ei l RX10 cX10_tried 9 (some .int) "tried" 4 (J s_87) 87 [(0, .ref 0), (1, .int a1), (3, .int a3), (4, .int a4), (6, .int a6), (7, .long x5)] [] s_87) ?_ (fun J87 hJ87 => ?_)
      · intro s_87
        refine mf_aload_n dX10_tried_87 rfl 0 rfl ?_
        refine mf_getR fl_X10_82 rfl rfl dX10_tried_88 ?_
        refine mf_iload dX10_tried_91 4 rfl ?_
        refine mf_lload dX10_tried_93 5 rfl ?_
        refine mf_l2i dX10_tried_95 ?_
        refine mf_iast rfl dX10_tried_96 (fun s7 => ?_)
        refine mf_iinc 1 [(6, .int (a6 + 1)), (0, .ref 0), (1, .int a1), (3, .int a3), (4, .int a4), (7, .long x5)] dX10_tried_97 4 rfl (by decide) (by decide) rfl ?_
        refine mf_goto 36 dX10_tried_100 (by decide) ?_
        exact mf_sub [1, 2, 3, 4, 0] rfl (ih36 _ _)
      refine mf_join (fun (J : mx_G → Option (Int32 × mx_G)) => ∀ (s_75 : mx_G), mf_X ei l RX10 cX10_tried 9 (some .int) "tried" 4 (J s_75) 75 [(0, .ref 0), (1, .int a1), (3, .int a3), (4, .int a4), (6, .int a6), (7, .long x5)] [] s_75) ?_ (fun J75 hJ75 => ?_)
      · intro s_75
        refine mf_lload dX10_tried_75 5 rfl ?_
        refine mf_ldc2 kl_X10_290 dX10_tried_77 ?_
        refine mf_lcmp dX10_tried_80 ?_
        refine mf_if_eq 87 dX10_tried_81 (by decide) ?_ ?_
        · exact mf_sub [0, 1, 2, 3, 4, 5] rfl (hJ87 _)
        · refine mf_bipush (-2) dX10_tried_84 (by decide) ?_
          exact mf_iret dX10_tried_86
      refine mf_if_lt 75 dX10_tried_63 (by decide) ?_ ?_
      · exact mf_sub [1, 2, 3, 4, 5, 0] rfl (hJ75 _)
      · refine mf_lload dX10_tried_66 0 rfl ?_
        refine mf_iload dX10_tried_68 4 rfl ?_
        refine mf_i2l dX10_tried_70 ?_
        refine mf_lcmp dX10_tried_71 ?_
        refine mf_if_lt 87 dX10_tried_72 (by decide) ?_ ?_
        · exact mf_sub [1, 2, 3, 4, 5, 0] rfl (hJ87 _)
        · exact mf_sub [1, 2, 3, 4, 5, 0] rfl (hJ75 _)
