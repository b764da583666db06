set_option maxRecDepth 100000 in
set_option maxHeartbeats 4000000 in
theorem wX0_best (l : Launch) (p2 : Int32) (s : mx_G) : mf_M ei l yX0_best cX0_best 5 (some .int) 2 [.ref 9, .ref 1, .int p2] s (fX0_best p2 s) := by
  refine mf_intro rfl (Nat.le_of_ble_eq_true rfl) rfl rfl ?_
  refine mf_sub (loc' := [(0, .ref 9), (1, .ref 1), (2, .int p2)]) [0, 1, 2] rfl ?_
  unfold fX0_best
  refine mf_iload_n dX0_best_0 rfl 2 rfl ?_
  refine mf_if_ne 6 dX0_best_1 (by decide) ?_ ?_
  · refine mf_iconst 0 dX0_best_4 (by decide) ?_
    exact mf_iret dX0_best_5
  · refine mf_ldc kl_X0_53 dX0_best_6 ?_
    refine mf_istore_n [(3, .int 2147483647), (0, .ref 9), (1, .ref 1), (2, .int p2)] dX0_best_8 rfl (by decide) rfl ?_
    refine mf_iconst 0 dX0_best_9 (by decide) ?_
    refine mf_istore [(4, .int 0), (3, .int 2147483647), (0, .ref 9), (1, .ref 1), (2, .int p2)] dX0_best_10 (by decide) rfl ?_
    refine mf_sub [2, 3, 4, 1, 0] rfl (wlX0_best_12 l _ _ (fun y11 s10 => ?_) FU _ _ _)
    refine mf_iload_n dX0_best_91 rfl 0 rfl ?_
    refine mf_ldc kl_X0_53 dX0_best_92 ?_
    refine mf_icmp_ne 102 dX0_best_94 (by decide) ?_ ?_
    · refine mf_bipush (-4) dX0_best_97 (by decide) ?_
      refine mf_goto 106 dX0_best_99 (by decide) ?_
      exact mf_iret dX0_best_106
    · refine mf_iload_n dX0_best_102 rfl 0 rfl ?_
      refine mf_ldc kl_X0_75 dX0_best_103 ?_
      refine mf_irem (by decide) dX0_best_105 ?_
      exact mf_iret dX0_best_106
set_option maxRecDepth 100000 in
set_option maxHeartbeats 4000000 in
theorem wX10_own (l : Launch) (p1 : Int32) (p2 : Int32) (s : mx_G) : mf_M ei l yX10_own cX10_own 3 (some .int) 5 [.ref 0, .int p1, .int p2] s (fX10_own p1 p2 s) := by
  refine mf_intro rfl (Nat.le_of_ble_eq_true rfl) rfl rfl ?_
  refine mf_sub (loc' := [(0, .ref 0), (1, .int p1), (2, .int p2)]) [0, 1, 2] rfl ?_
  unfold fX10_own
  refine mf_aload_n dX10_own_0 rfl 0 rfl ?_
  refine mf_getR fl_X10_10 rfl rfl dX10_own_1 ?_
  refine mf_iload_n dX10_own_4 rfl 1 rfl ?_
  refine mf_callVi (stk := []) (wX9_isDomain l _ _) cl_X10_115 rfl (by decide) rfl rfl rfl (Nat.le_of_ble_eq_true rfl) rfl rfl dX10_own_5 (fun x1 s2 => ?_)
  refine mf_if_ne 13 dX10_own_8 (by decide) ?_ ?_
  · refine mf_iconst (-1) dX10_own_11 (by decide) ?_
    exact mf_iret dX10_own_12
  · refine mf_iload_n dX10_own_13 rfl 2 rfl ?_
    refine mf_if (fun c0 => mf_tabIn (off := 34) 48 dX10_own_14 c0 (by decide) (by decide) (by decide) (by decide) ?_) (fun c0 => ?_)
    · refine mf_aload_n dX10_own_48 rfl 0 rfl ?_
      refine mf_getR fl_X10_10 rfl rfl dX10_own_49 ?_
      refine mf_iload_n dX10_own_52 rfl 1 rfl ?_
      refine mf_callVi (stk := []) (wX9_mannerOf l _ _) cl_X10_119 rfl (by decide) rfl rfl rfl (Nat.le_of_ble_eq_true rfl) rfl rfl dX10_own_53 (fun x3 s4 => ?_)
      exact mf_iret dX10_own_56
    refine mf_if (fun c1 => mf_tabIn (off := 43) 57 dX10_own_14 c1 (by decide) (by decide) (by decide) (by decide) ?_) (fun c1 => ?_)
    · refine mf_aload_n dX10_own_57 rfl 0 rfl ?_
      refine mf_getR fl_X10_10 rfl rfl dX10_own_58 ?_
      refine mf_iload_n dX10_own_61 rfl 1 rfl ?_
      refine mf_callVi (stk := []) (wX9_barsOf l _ _) cl_X10_129 rfl (by decide) rfl rfl rfl (Nat.le_of_ble_eq_true rfl) rfl rfl dX10_own_62 (fun x5 s6 => ?_)
      exact mf_iret dX10_own_65
    refine mf_if (fun c2 => mf_tabIn (off := 52) 66 dX10_own_14 c2 (by decide) (by decide) (by decide) (by decide) ?_) (fun c2 => ?_)
    · refine mf_aload_n dX10_own_66 rfl 0 rfl ?_
      refine mf_getR fl_X10_43 rfl rfl dX10_own_67 ?_
      refine mf_aload_n dX10_own_70 rfl 0 rfl ?_
      refine mf_getR fl_X10_10 rfl rfl dX10_own_71 ?_
      refine mf_callVv (stk := []) (wX8_freshen l _) cl_X10_143 rfl (by decide) rfl rfl rfl (Nat.le_of_ble_eq_true rfl) rfl rfl dX10_own_74 (fun us7 s7 => ?_)
      refine mf_aload_n dX10_own_77 rfl 0 rfl ?_
      refine mf_getR fl_X10_43 rfl rfl dX10_own_78 ?_
      refine mf_iload_n dX10_own_81 rfl 1 rfl ?_
      refine mf_callVi (stk := []) (wX8_countOf l _ _) cl_X10_146 rfl (by decide) rfl rfl rfl (Nat.le_of_ble_eq_true rfl) rfl rfl dX10_own_82 (fun x8 s9 => ?_)
      exact mf_iret dX10_own_85
    refine mf_if (fun c3 => mf_tabIn (off := 72) 86 dX10_own_14 c3 (by decide) (by decide) (by decide) (by decide) ?_) (fun c3 => ?_)
    · refine mf_aload_n dX10_own_86 rfl 0 rfl ?_
      refine mf_getR fl_X10_10 rfl rfl dX10_own_87 ?_
      refine mf_iload_n dX10_own_90 rfl 1 rfl ?_
      refine mf_callVi (stk := []) (wX9_chosenBy l _ _) cl_X10_149 rfl (by decide) rfl rfl rfl (Nat.le_of_ble_eq_true rfl) rfl rfl dX10_own_91 (fun x10 s11 => ?_)
      exact mf_iret dX10_own_94
    refine mf_if (fun c4 => mf_tabIn (off := 81) 95 dX10_own_14 c4 (by decide) (by decide) (by decide) (by decide) ?_) (fun c4 => ?_)
    · refine mf_aload_n dX10_own_95 rfl 0 rfl ?_
      refine mf_getR fl_X10_36 rfl rfl dX10_own_96 ?_
      refine mf_aload_n dX10_own_99 rfl 0 rfl ?_
      refine mf_getR fl_X10_10 rfl rfl dX10_own_100 ?_
      refine mf_callVv (stk := []) (wX0_load l _) cl_X10_152 rfl (by decide) rfl rfl rfl (Nat.le_of_ble_eq_true rfl) rfl rfl dX10_own_103 (fun us12 s12 => ?_)
      refine mf_aload_n dX10_own_106 rfl 0 rfl ?_
      refine mf_getR fl_X10_36 rfl rfl dX10_own_107 ?_
      refine mf_aload_n dX10_own_110 rfl 0 rfl ?_
      refine mf_getR fl_X10_10 rfl rfl dX10_own_111 ?_
      refine mf_iload_n dX10_own_114 rfl 1 rfl ?_
      refine mf_callVi (stk := []) (wX0_best l _ _) cl_X10_155 rfl (by decide) rfl rfl rfl (Nat.le_of_ble_eq_true rfl) rfl rfl dX10_own_115 (fun x13 s14 => ?_)
      exact mf_iret dX10_own_118
    refine mf_tabOut 119 dX10_own_14 (fun j hj => by rcases (show j = 0 ∨ j = 1 ∨ j = 2 ∨ j = 3 ∨ j = 4 by omega) with rfl | rfl | rfl | rfl | rfl <;> assumption) (by decide) ?_
    refine mf_iconst (-1) dX10_own_119 (by decide) ?_
    exact mf_iret dX10_own_120
set_option maxRecDepth 100000 in
set_option maxHeartbeats 4000000 in
theorem wX8_numberAt (l : Launch) (p1 : Int32) (p2 : Int32) (s : mx_G) : mf_M ei l yX8_numberAt cX8_numberAt 3 (some .int) 1 [.ref 15, .int p1, .int p2] s (fX8_numberAt p1 p2 s) := by
  refine mf_intro rfl (Nat.le_of_ble_eq_true rfl) rfl rfl ?_
  refine mf_sub (loc' := [(0, .ref 15), (1, .int p1), (2, .int p2)]) [0, 1, 2] rfl ?_
  unfold fX8_numberAt
  refine mf_iload_n dX8_numberAt_0 rfl 2 rfl ?_
  refine mf_aload_n dX8_numberAt_1 rfl 0 rfl ?_
  refine mf_getR fl_X8_42 rfl rfl dX8_numberAt_2 ?_
  refine mf_iload_n dX8_numberAt_5 rfl 1 rfl ?_
  refine mf_iald rfl dX8_numberAt_6 ?_
  refine mf_icmp_ge 23 dX8_numberAt_7 (by decide) ?_ ?_
  · refine mf_bipush (-4) dX8_numberAt_23 (by decide) ?_
    exact mf_iret dX8_numberAt_25
  · refine mf_aload_n dX8_numberAt_10 rfl 0 rfl ?_
    refine mf_aload_n dX8_numberAt_11 rfl 0 rfl ?_
    refine mf_iload_n dX8_numberAt_12 rfl 1 rfl ?_
    refine mf_iload_n dX8_numberAt_13 rfl 2 rfl ?_
    refine mf_callVi (stk := [.ref 15]) (wX8_rankedAt l _ _ _) cl_X8_50 rfl (by decide) rfl rfl rfl (Nat.le_of_ble_eq_true rfl) rfl rfl dX8_numberAt_14 (fun x1 s2 => ?_)
    refine mf_callVi (stk := []) (wX8_numberOf l _ _) cl_X8_54 rfl (by decide) rfl rfl rfl (Nat.le_of_ble_eq_true rfl) rfl rfl dX8_numberAt_17 (fun x3 s4 => ?_)
    refine mf_goto 25 dX8_numberAt_20 (by decide) ?_
    exact mf_iret dX8_numberAt_25
set_option maxRecDepth 100000 in
set_option maxHeartbeats 4000000 in
theorem wX10_way (l : Launch) (p1 : Int32) (p2 : Int32) (s : mx_G) : mf_M ei l yX10_way cX10_way 3 (some .int) 5 [.ref 0, .int p1, .int p2] s (fX10_way p1 p2 s) := by
  refine mf_intro rfl (Nat.le_of_ble_eq_true rfl) rfl rfl ?_
  refine mf_sub (loc' := [(0, .ref 0), (1, .int p1), (2, .int p2)]) [0, 1, 2] rfl ?_
  unfold fX10_way
  refine mf_aload_n dX10_way_0 rfl 0 rfl ?_
  refine mf_getR fl_X10_10 rfl rfl dX10_way_1 ?_
  refine mf_iload_n dX10_way_4 rfl 1 rfl ?_
  refine mf_callVi (stk := []) (wX9_isDomain l _ _) cl_X10_115 rfl (by decide) rfl rfl rfl (Nat.le_of_ble_eq_true rfl) rfl rfl dX10_way_5 (fun x1 s2 => ?_)
  refine mf_if_eq 15 dX10_way_8 (by decide) ?_ ?_
  · refine mf_iconst (-1) dX10_way_15 (by decide) ?_
    exact mf_iret dX10_way_16
  · refine mf_iload_n dX10_way_11 rfl 2 rfl ?_
    refine mf_if_ge 17 dX10_way_12 (by decide) ?_ ?_
    · refine mf_aload_n dX10_way_17 rfl 0 rfl ?_
      refine mf_getR fl_X10_43 rfl rfl dX10_way_18 ?_
      refine mf_aload_n dX10_way_21 rfl 0 rfl ?_
      refine mf_getR fl_X10_10 rfl rfl dX10_way_22 ?_
      refine mf_callVv (stk := []) (wX8_freshen l _) cl_X10_143 rfl (by decide) rfl rfl rfl (Nat.le_of_ble_eq_true rfl) rfl rfl dX10_way_25 (fun us3 s3 => ?_)
      refine mf_aload_n dX10_way_28 rfl 0 rfl ?_
      refine mf_getR fl_X10_43 rfl rfl dX10_way_29 ?_
      refine mf_iload_n dX10_way_32 rfl 1 rfl ?_
      refine mf_iload_n dX10_way_33 rfl 2 rfl ?_
      refine mf_callVi (stk := []) (wX8_numberAt l _ _ _) cl_X10_159 rfl (by decide) rfl rfl rfl (Nat.le_of_ble_eq_true rfl) rfl rfl dX10_way_34 (fun x4 s5 => ?_)
      exact mf_iret dX10_way_37
    · refine mf_iconst (-1) dX10_way_15 (by decide) ?_
      exact mf_iret dX10_way_16
set_option maxRecDepth 100000 in
set_option maxHeartbeats 4000000 in
theorem wX9_areJoined (l : Launch) (p1 : Int32) (p2 : Int32) (s : mx_G) : mf_M ei l yX9_areJoined cX9_areJoined 3 (some .boolean) 1 [.ref 1, .int p1, .int p2] s (fX9_areJoined p1 p2 s) := by
  refine mf_intro rfl (Nat.le_of_ble_eq_true rfl) rfl rfl ?_
  refine mf_sub (loc' := [(0, .ref 1), (1, .int p1), (2, .int p2)]) [0, 1, 2] rfl ?_
  unfold fX9_areJoined
  refine mf_aload_n dX9_areJoined_0 rfl 0 rfl ?_
  refine mf_iload_n dX9_areJoined_1 rfl 1 rfl ?_
  refine mf_iload_n dX9_areJoined_2 rfl 2 rfl ?_
  refine mf_callVi (stk := []) (wX9_sortOf l _ _ _) cl_X9_25 rfl (by decide) rfl rfl rfl (Nat.le_of_ble_eq_true rfl) rfl rfl dX9_areJoined_3 (fun x1 s2 => ?_)
  refine mf_if_eq 22 dX9_areJoined_6 (by decide) ?_ ?_
  · refine mf_iconst 0 dX9_areJoined_22 (by decide) ?_
    exact mf_zret (by decide) dX9_areJoined_23
  · refine mf_aload_n dX9_areJoined_9 rfl 0 rfl ?_
    refine mf_iload_n dX9_areJoined_10 rfl 1 rfl ?_
    refine mf_iload_n dX9_areJoined_11 rfl 2 rfl ?_
    refine mf_callVi (stk := []) (wX9_isCut l _ _ _) cl_X9_29 rfl (by decide) rfl rfl rfl (Nat.le_of_ble_eq_true rfl) rfl rfl dX9_areJoined_12 (fun x3 s4 => ?_)
    refine mf_if_ne 22 dX9_areJoined_15 (by decide) ?_ ?_
    · refine mf_iconst 1 dX9_areJoined_18 (by decide) ?_
      refine mf_goto 23 dX9_areJoined_19 (by decide) ?_
      exact mf_zret (by decide) dX9_areJoined_23
    · refine mf_iconst 0 dX9_areJoined_22 (by decide) ?_
      exact mf_zret (by decide) dX9_areJoined_23
set_option maxRecDepth 100000 in
set_option maxHeartbeats 4000000 in
theorem wX10_reasonOf (l : Launch) (p1 : Int32) (p2 : Int32) (p3 : Int32) (p4 : Int32) (s : mx_G) : mf_M ei l yX10_reasonOf cX10_reasonOf 5 (some .int) 2 [.ref 0, .int p1, .int p2, .int p3, .int p4] s (fX10_reasonOf p1 p2 p3 p4 s) := by
  refine mf_intro rfl (Nat.le_of_ble_eq_true rfl) rfl rfl ?_
  refine mf_sub (loc' := [(0, .ref 0), (1, .int p1), (2, .int p2), (3, .int p3), (4, .int p4)]) [0, 1, 2, 3, 4] rfl ?_
  unfold fX10_reasonOf
  refine mf_aload_n dX10_reasonOf_0 rfl 0 rfl ?_
  refine mf_getR fl_X10_10 rfl rfl dX10_reasonOf_1 ?_
  refine mf_iload_n dX10_reasonOf_4 rfl 1 rfl ?_
  refine mf_iload_n dX10_reasonOf_5 rfl 2 rfl ?_
  refine mf_callVi (stk := []) (wX9_areJoined l _ _ _) cl_X10_365 rfl (by decide) rfl rfl rfl (Nat.le_of_ble_eq_true rfl) rfl rfl dX10_reasonOf_6 (fun x1 s2 => ?_)
  refine mf_if_ne 14 dX10_reasonOf_9 (by decide) ?_ ?_
  · refine mf_iconst 1 dX10_reasonOf_12 (by decide) ?_
    exact mf_iret dX10_reasonOf_13
  · refine mf_iload_n dX10_reasonOf_14 rfl 3 rfl ?_
    refine mf_iconst 1 dX10_reasonOf_15 (by decide) ?_
    refine mf_iload_n dX10_reasonOf_16 rfl 1 rfl ?_
    refine mf_ishl dX10_reasonOf_17 ?_
    refine mf_iand dX10_reasonOf_18 ?_
    refine mf_if_eq 24 dX10_reasonOf_19 (by decide) ?_ ?_
    · refine mf_iload_n dX10_reasonOf_24 rfl 3 rfl ?_
      refine mf_aload_n dX10_reasonOf_25 rfl 0 rfl ?_
      refine mf_getR fl_X10_10 rfl rfl dX10_reasonOf_26 ?_
      refine mf_iload_n dX10_reasonOf_29 rfl 1 rfl ?_
      refine mf_callVi (stk := [.int p3]) (wX9_barsOf l _ _) cl_X10_129 rfl (by decide) rfl rfl rfl (Nat.le_of_ble_eq_true rfl) rfl rfl dX10_reasonOf_30 (fun x3 s4 => ?_)
      refine mf_iand dX10_reasonOf_33 ?_
      refine mf_if_eq 39 dX10_reasonOf_34 (by decide) ?_ ?_
      · refine mf_aload_n dX10_reasonOf_39 rfl 0 rfl ?_
        refine mf_getR fl_X10_10 rfl rfl dX10_reasonOf_40 ?_
        refine mf_iload_n dX10_reasonOf_43 rfl 2 rfl ?_
        refine mf_iload dX10_reasonOf_44 4 rfl ?_
        refine mf_iload_n dX10_reasonOf_46 rfl 1 rfl ?_
        refine mf_callVi (stk := []) (wX9_lets l _ _ _ _) cl_X10_368 rfl (by decide) rfl rfl rfl (Nat.le_of_ble_eq_true rfl) rfl rfl dX10_reasonOf_47 (fun x5 s6 => ?_)
        refine mf_if_eq 57 dX10_reasonOf_50 (by decide) ?_ ?_
        · refine mf_iconst 4 dX10_reasonOf_57 (by decide) ?_
          exact mf_iret dX10_reasonOf_58
        · refine mf_iconst 0 dX10_reasonOf_53 (by decide) ?_
          refine mf_goto 58 dX10_reasonOf_54 (by decide) ?_
          exact mf_iret dX10_reasonOf_58
      · refine mf_iconst 3 dX10_reasonOf_37 (by decide) ?_
        exact mf_iret dX10_reasonOf_38
    · refine mf_iconst 2 dX10_reasonOf_22 (by decide) ?_
      exact mf_iret dX10_reasonOf_23
set_option maxRecDepth 100000 in
set_option maxHeartbeats 4000000 in
theorem wlX10_reasonAgainst_20 (l : Launch) (k50 : Int32 → Int32 → Int32 → mx_G → Option (Int32 × mx_G)) (hk50 : ∀ (b7 : Int32) (b8 : Int32) (b9 : Int32) (sz : mx_G), mf_X ei l RX10 cX10_reasonAgainst 10 (some .int) "reasonAgainst" 3 (k50 b7 b8 b9 sz) 50 [(7, .int b7), (8, .int b8), (9, .int b9)] [] sz) : ∀ (n : Nat) (a3 : Int32) (a4 : Int32) (a5 : Int32) (a6 : Int32) (a7 : Int32) (s0 : mx_G), mf_X ei l RX10 cX10_reasonAgainst 10 (some .int) "reasonAgainst" 3 (lX10_reasonAgainst_20  k50 n a3 a4 a5 a6 a7 s0) 20 [(0, .ref 0), (3, .int a3), (4, .int a4), (5, .int a5), (6, .int a6), (7, .int a7)] [] s0 := by
  intro n
  induction n with
  | zero => intro a3 a4 a5 a6 a7 s0; exact mf_none
  | succ n ih20 =>
    intro a3 a4 a5 a6 a7 s0
    rw [lX10_reasonAgainst_20]
    refine mf_iload dX10_reasonAgainst_20 5 rfl ?_
    refine mf_if_lt 93 dX10_reasonAgainst_22 (by decide) ?_ ?_
    · refine mf_iconst 0 dX10_reasonAgainst_93 (by decide) ?_
      exact mf_iret dX10_reasonAgainst_94
    · refine mf_iload_n dX10_reasonAgainst_25 rfl 1 rfl ?_
      refine mf_bipush 10 dX10_reasonAgainst_26 (by decide) ?_
      refine mf_irem (by decide) dX10_reasonAgainst_28 ?_
      refine mf_leti (fun x3 => ?_)
      refine mf_istore [(8, .int x3), (0, .ref 0), (3, .int a3), (4, .int a4), (5, .int a5), (6, .int a6), (7, .int a7)] dX10_reasonAgainst_29 (by decide) rfl ?_
      refine mf_aload_n dX10_reasonAgainst_31 rfl 1 rfl ?_
      refine mf_iload dX10_reasonAgainst_32 0 rfl ?_
      refine mf_iload dX10_reasonAgainst_34 4 rfl ?_
      refine mf_iload dX10_reasonAgainst_36 3 rfl ?_
      refine mf_iload dX10_reasonAgainst_38 5 rfl ?_
      refine mf_callVi (stk := []) (wX10_reasonOf l _ _ _ _ _) cl_X10_362 rfl (by decide) rfl rfl rfl (Nat.le_of_ble_eq_true rfl) rfl rfl dX10_reasonAgainst_40 (fun x4 s5 => ?_)
      refine mf_istore [(9, .int x4), (8, .int x3), (0, .ref 0), (3, .int a3), (4, .int a4), (5, .int a5), (6, .int a6), (7, .int a7)] dX10_reasonAgainst_43 (by decide) rfl ?_
      refine mf_iload dX10_reasonAgainst_45 0 rfl ?_
      refine mf_if_eq 65 dX10_reasonAgainst_47 (by decide) ?_ ?_
      · refine mf_iload dX10_reasonAgainst_65 4 rfl ?_
        refine mf_iconst 1 dX10_reasonAgainst_67 (by decide) ?_
        refine mf_iload dX10_reasonAgainst_68 1 rfl ?_
        refine mf_ishl dX10_reasonAgainst_70 ?_
        refine mf_ior dX10_reasonAgainst_71 ?_
        refine mf_leti (fun x6 => ?_)
        refine mf_istore [(4, .int x6), (9, .int x4), (8, .int x3), (0, .ref 0), (3, .int a3), (5, .int a5), (6, .int a6), (7, .int a7)] dX10_reasonAgainst_72 (by decide) rfl ?_
        refine mf_iload dX10_reasonAgainst_74 5 rfl ?_
        refine mf_istore [(6, .int a5), (4, .int x6), (9, .int x4), (8, .int x3), (0, .ref 0), (3, .int a3), (5, .int a5), (7, .int a7)] dX10_reasonAgainst_76 (by decide) rfl ?_
        refine mf_iload dX10_reasonAgainst_78 3 rfl ?_
        refine mf_istore [(5, .int x3), (6, .int a5), (4, .int x6), (9, .int x4), (8, .int x3), (0, .ref 0), (3, .int a3), (7, .int a7)] dX10_reasonAgainst_80 (by decide) rfl ?_
        refine mf_iload_n dX10_reasonAgainst_82 rfl 6 rfl ?_
        refine mf_bipush 10 dX10_reasonAgainst_83 (by decide) ?_
        refine mf_idiv (by decide) dX10_reasonAgainst_85 ?_
        refine mf_leti (fun x7 => ?_)
        refine mf_istore_n [(3, .int x7), (5, .int x3), (6, .int a5), (4, .int x6), (9, .int x4), (8, .int x3), (0, .ref 0), (7, .int a7)] dX10_reasonAgainst_86 rfl (by decide) rfl ?_
        refine mf_iinc (-1) [(7, .int (a7 + (-1))), (3, .int x7), (5, .int x3), (6, .int a5), (4, .int x6), (9, .int x4), (8, .int x3), (0, .ref 0)] dX10_reasonAgainst_87 7 rfl (by decide) (by decide) rfl ?_
        refine mf_goto 20 dX10_reasonAgainst_90 (by decide) ?_
        exact mf_sub [7, 1, 4, 2, 3, 0] rfl (ih20 _ _ _ _ _ _)
      · exact mf_sub [7, 1, 0] rfl (hk50 _ _ _ _)
set_option maxRecDepth 100000 in
set_option maxHeartbeats 4000000 in
theorem wX10_reasonAgainst (l : Launch) (p1 : Int32) (p2 : Int32) (s : mx_G) : mf_M ei l yX10_reasonAgainst cX10_reasonAgainst 10 (some .int) 3 [.ref 0, .int p1, .int p2] s (fX10_reasonAgainst p1 p2 s) := by
  refine mf_intro rfl (Nat.le_of_ble_eq_true rfl) rfl rfl ?_
  refine mf_sub (loc' := [(0, .ref 0), (1, .int p1), (2, .int p2)]) [0, 1, 2] rfl ?_
  unfold fX10_reasonAgainst
  refine mf_iload_n dX10_reasonAgainst_0 rfl 1 rfl ?_
  refine mf_bipush 10 dX10_reasonAgainst_1 (by decide) ?_
  refine mf_idiv (by decide) dX10_reasonAgainst_3 ?_
  refine mf_leti (fun x1 => ?_)
  refine mf_istore_n [(3, .int x1), (0, .ref 0), (1, .int p1), (2, .int p2)] dX10_reasonAgainst_4 rfl (by decide) rfl ?_
  refine mf_iconst 1 dX10_reasonAgainst_5 (by decide) ?_
  refine mf_istore [(4, .int 1), (3, .int x1), (0, .ref 0), (1, .int p1), (2, .int p2)] dX10_reasonAgainst_6 (by decide) rfl ?_
  refine mf_iconst 0 dX10_reasonAgainst_8 (by decide) ?_
  refine mf_istore [(5, .int 0), (4, .int 1), (3, .int x1), (0, .ref 0), (1, .int p1), (2, .int p2)] dX10_reasonAgainst_9 (by decide) rfl ?_
  refine mf_bipush 9 dX10_reasonAgainst_11 (by decide) ?_
  refine mf_istore [(6, .int 9), (5, .int 0), (4, .int 1), (3, .int x1), (0, .ref 0), (1, .int p1), (2, .int p2)] dX10_reasonAgainst_13 (by decide) rfl ?_
  refine mf_iload_n dX10_reasonAgainst_15 rfl 6 rfl ?_
  refine mf_iconst 2 dX10_reasonAgainst_16 (by decide) ?_
  refine mf_isub dX10_reasonAgainst_17 ?_
  refine mf_leti (fun x2 => ?_)
  refine mf_istore [(7, .int x2), (6, .int 9), (5, .int 0), (4, .int 1), (3, .int x1), (0, .ref 0), (1, .int p1), (2, .int p2)] dX10_reasonAgainst_18 (by decide) rfl ?_
  refine mf_sub [5, 4, 3, 2, 1, 0] rfl (wlX10_reasonAgainst_20 l _ (fun y9 y10 y11 s8 => ?_) FU _ _ _ _ _ _)
  refine mf_bipush 100 dX10_reasonAgainst_50 (by decide) ?_
  refine mf_iload dX10_reasonAgainst_52 2 rfl ?_
  refine mf_imul dX10_reasonAgainst_54 ?_
  refine mf_bipush 10 dX10_reasonAgainst_55 (by decide) ?_
  refine mf_iload dX10_reasonAgainst_57 1 rfl ?_
  refine mf_imul dX10_reasonAgainst_59 ?_
  refine mf_iadd dX10_reasonAgainst_60 ?_
  refine mf_iload dX10_reasonAgainst_61 0 rfl ?_
  refine mf_iadd dX10_reasonAgainst_63 ?_
  exact mf_iret dX10_reasonAgainst_64
set_option maxRecDepth 100000 in
set_option maxHeartbeats 4000000 in
theorem wlX10_why_29 (l : Launch) (a1 : Int32) (a2 : Int32)   : ∀ (n : Nat) (a3 : Int32) (a4 : Int32) (s0 : mx_G), mf_X ei l RX10 cX10_why 5 (some .int) "why" 4 (lX10_why_29 a1 a2  n a3 a4 s0) 29 [(0, .ref 0), (1, .int a1), (2, .int a2), (3, .int a3), (4, .int a4)] [] s0 := by
  intro n
  induction n with
  | zero => intro a3 a4 s0; exact mf_none
  | succ n ih29 =>
    intro a3 a4 s0
    rw [lX10_why_29]
    refine mf_iload dX10_why_29 4 rfl ?_
    refine mf_iload_n dX10_why_31 rfl 2 rfl ?_
    refine mf_icmp_ge 62 dX10_why_32 (by decide) ?_ ?_
    · refine mf_aload_n dX10_why_62 rfl 0 rfl ?_
      refine mf_iload_n dX10_why_63 rfl 1 rfl ?_
      refine mf_iload_n dX10_why_64 rfl 2 rfl ?_
      refine mf_callVi (stk := []) (wX10_reasonAgainst l _ _ _) cl_X10_166 rfl (by decide) rfl rfl rfl (Nat.le_of_ble_eq_true rfl) rfl rfl dX10_why_65 (fun x3 s4 => ?_)
      exact mf_iret dX10_why_68
    · refine mf_iload_n dX10_why_35 rfl 3 rfl ?_
      refine mf_bipush 10 dX10_why_36 (by decide) ?_
      refine mf_irem (by decide) dX10_why_38 ?_
      refine mf_aload_n dX10_why_39 rfl 0 rfl ?_
      refine mf_getR fl_X10_10 rfl rfl dX10_why_40 ?_
      refine mf_callVi (stk := [.int (mv_rem a3 10)]) (wX9_size l _) cl_X10_135 rfl (by decide) rfl rfl rfl (Nat.le_of_ble_eq_true rfl) rfl rfl dX10_why_43 (fun x5 s6 => ?_)
      refine mf_icmp_lt 51 dX10_why_46 (by decide) ?_ ?_
      · refine mf_iload_n dX10_why_51 rfl 3 rfl ?_
        refine mf_bipush 10 dX10_why_52 (by decide) ?_
        refine mf_idiv (by decide) dX10_why_54 ?_
        refine mf_leti (fun x7 => ?_)
        refine mf_istore_n [(3, .int x7), (0, .ref 0), (1, .int a1), (2, .int a2), (4, .int a4)] dX10_why_55 rfl (by decide) rfl ?_
        refine mf_iinc 1 [(4, .int (a4 + 1)), (3, .int x7), (0, .ref 0), (1, .int a1), (2, .int a2)] dX10_why_56 4 rfl (by decide) (by decide) rfl ?_
        refine mf_goto 29 dX10_why_59 (by decide) ?_
        exact mf_sub [2, 3, 4, 1, 0] rfl (ih29 _ _ _)
      · refine mf_iconst (-1) dX10_why_49 (by decide) ?_
        exact mf_iret dX10_why_50
set_option maxRecDepth 100000 in
set_option maxHeartbeats 4000000 in
theorem wX10_why (l : Launch) (p1 : Int32) (s : mx_G) : mf_M ei l yX10_why cX10_why 5 (some .int) 4 [.ref 0, .int p1] s (fX10_why p1 s) := by
  refine mf_intro rfl (Nat.le_of_ble_eq_true rfl) rfl rfl ?_
  refine mf_sub (loc' := [(0, .ref 0), (1, .int p1)]) [0, 1] rfl ?_
  unfold fX10_why
  refine mf_iload_n dX10_why_0 rfl 1 rfl ?_
  refine mf_if_lt 17 dX10_why_1 (by decide) ?_ ?_
  · refine mf_iconst (-1) dX10_why_17 (by decide) ?_
    exact mf_iret dX10_why_18
  · refine mf_iload_n dX10_why_4 rfl 1 rfl ?_
    refine mf_ldc kl_X10_162 dX10_why_5 ?_
    refine mf_icmp_ge 17 dX10_why_7 (by decide) ?_ ?_
    · refine mf_iconst (-1) dX10_why_17 (by decide) ?_
      exact mf_iret dX10_why_18
    · refine mf_iload_n dX10_why_10 rfl 1 rfl ?_
      refine mf_bipush 10 dX10_why_11 (by decide) ?_
      refine mf_irem (by decide) dX10_why_13 ?_
      refine mf_if_eq 19 dX10_why_14 (by decide) ?_ ?_
      · refine mf_iload_n dX10_why_19 rfl 1 rfl ?_
        refine mf_callSi (stk := []) (wX10_figuresOf l _ _) cl_X10_163 rfl (by decide) rfl (Nat.le_of_ble_eq_true rfl) rfl rfl dX10_why_20 (fun x1 s2 => ?_)
        refine mf_istore_n [(2, .int x1), (0, .ref 0), (1, .int p1)] dX10_why_23 rfl (by decide) rfl ?_
        refine mf_iload_n dX10_why_24 rfl 2 rfl ?_
        refine mf_istore_n [(3, .int p1), (2, .int x1), (0, .ref 0), (1, .int p1)] dX10_why_25 rfl (by decide) rfl ?_
        refine mf_iconst 0 dX10_why_26 (by decide) ?_
        refine mf_istore [(4, .int 0), (3, .int p1), (2, .int x1), (0, .ref 0), (1, .int p1)] dX10_why_27 (by decide) rfl ?_
        exact mf_sub [3, 4, 2, 1, 0] rfl (wlX10_why_29 l _ _ FU _ _ _)
      · refine mf_iconst (-1) dX10_why_17 (by decide) ?_
        exact mf_iret dX10_why_18
set_option maxRecDepth 100000 in
set_option maxHeartbeats 4000000 in
theorem wlX9_countLinks_15 (l : Launch) (a1 : Int32) (a3 : Int32) (k55 : Int32 → mx_G → Option (Int32 × mx_G)) (hk55 : ∀ (b2 : Int32) (sz : mx_G), mf_X ei l RX9 cX9_countLinks 5 (some .int) "countLinks" 1 (k55 b2 sz) 55 [(0, .ref 1), (1, .int a1), (2, .int b2), (3, .int a3)] [] sz) : ∀ (n : Nat) (a2 : Int32) (a4 : Int32) (s0 : mx_G), mf_X ei l RX9 cX9_countLinks 5 (some .int) "countLinks" 1 (lX9_countLinks_15 a1 a3 k55 n a2 a4 s0) 15 [(0, .ref 1), (1, .int a1), (2, .int a2), (3, .int a3), (4, .int a4)] [] s0 := by
  intro n
  induction n with
  | zero => intro a2 a4 s0; exact mf_none
  | succ n ih15 =>
    intro a2 a4 s0
    rw [lX9_countLinks_15]
    refine mf_iload dX9_countLinks_15 4 rfl ?_
    refine mf_bipush 6 dX9_countLinks_17 (by decide) ?_
    refine mf_icmp_ge 55 dX9_countLinks_19 (by decide) ?_ ?_
    · exact mf_sub [0, 1, 2, 3] rfl (hk55 _ _)
    · refine mf_aload_n dX9_countLinks_22 rfl 0 rfl ?_
      refine mf_iload_n dX9_countLinks_23 rfl 3 rfl ?_
      refine mf_iload dX9_countLinks_24 4 rfl ?_
      refine mf_callVi (stk := []) (wX9_sortOf l _ _ _) cl_X9_25 rfl (by decide) rfl rfl rfl (Nat.le_of_ble_eq_true rfl) rfl rfl dX9_countLinks_26 (fun x2 s3 => ?_)
      refine mf_if_eq 49 dX9_countLinks_29 (by decide) ?_ ?_
      · refine mf_iinc 1 [(4, .int (a4 + 1)), (0, .ref 1), (1, .int a1), (2, .int a2), (3, .int a3)] dX9_countLinks_49 4 rfl (by decide) (by decide) rfl ?_
        refine mf_goto 15 dX9_countLinks_52 (by decide) ?_
        exact mf_sub [1, 2, 3, 4, 0] rfl (ih15 _ _ _)
      · refine mf_iload_n dX9_countLinks_32 rfl 1 rfl ?_
        refine mf_if_eq 46 dX9_countLinks_33 (by decide) ?_ ?_
        · refine mf_iinc 1 [(2, .int (a2 + 1)), (0, .ref 1), (1, .int a1), (3, .int a3), (4, .int a4)] dX9_countLinks_46 2 rfl (by decide) (by decide) rfl ?_
          refine mf_iinc 1 [(4, .int (a4 + 1)), (2, .int (a2 + 1)), (0, .ref 1), (1, .int a1), (3, .int a3)] dX9_countLinks_49 4 rfl (by decide) (by decide) rfl ?_
          refine mf_goto 15 dX9_countLinks_52 (by decide) ?_
          exact mf_sub [2, 3, 1, 4, 0] rfl (ih15 _ _ _)
        · refine mf_aload_n dX9_countLinks_36 rfl 0 rfl ?_
          refine mf_iload_n dX9_countLinks_37 rfl 3 rfl ?_
          refine mf_iload dX9_countLinks_38 4 rfl ?_
          refine mf_callVi (stk := []) (wX9_isCut l _ _ _) cl_X9_29 rfl (by decide) rfl rfl rfl (Nat.le_of_ble_eq_true rfl) rfl rfl dX9_countLinks_40 (fun x4 s5 => ?_)
          refine mf_if_eq 49 dX9_countLinks_43 (by decide) ?_ ?_
          · refine mf_iinc 1 [(4, .int (a4 + 1)), (0, .ref 1), (1, .int a1), (2, .int a2), (3, .int a3)] dX9_countLinks_49 4 rfl (by decide) (by decide) rfl ?_
            refine mf_goto 15 dX9_countLinks_52 (by decide) ?_
            exact mf_sub [1, 2, 3, 4, 0] rfl (ih15 _ _ _)
          · refine mf_iinc 1 [(2, .int (a2 + 1)), (0, .ref 1), (1, .int a1), (3, .int a3), (4, .int a4)] dX9_countLinks_46 2 rfl (by decide) (by decide) rfl ?_
            refine mf_iinc 1 [(4, .int (a4 + 1)), (2, .int (a2 + 1)), (0, .ref 1), (1, .int a1), (3, .int a3)] dX9_countLinks_49 4 rfl (by decide) (by decide) rfl ?_
            refine mf_goto 15 dX9_countLinks_52 (by decide) ?_
            exact mf_sub [2, 3, 1, 4, 0] rfl (ih15 _ _ _)
set_option maxRecDepth 100000 in
set_option maxHeartbeats 4000000 in
theorem wlX9_countLinks_4 (l : Launch) (a1 : Int32)   : ∀ (n : Nat) (a2 : Int32) (a3 : Int32) (s0 : mx_G), mf_X ei l RX9 cX9_countLinks 5 (some .int) "countLinks" 1 (lX9_countLinks_4 a1  n a2 a3 s0) 4 [(0, .ref 1), (1, .int a1), (2, .int a2), (3, .int a3)] [] s0 := by
  intro n
  induction n with
  | zero => intro a2 a3 s0; exact mf_none
  | succ n ih4 =>
    intro a2 a3 s0
    rw [lX9_countLinks_4]
    refine mf_iload_n dX9_countLinks_4 rfl 3 rfl ?_
    refine mf_bipush 6 dX9_countLinks_5 (by decide) ?_
    refine mf_icmp_ge 61 dX9_countLinks_7 (by decide) ?_ ?_
    · refine mf_iload_n dX9_countLinks_61 rfl 2 rfl ?_
      exact mf_iret dX9_countLinks_62
    · refine mf_iload_n dX9_countLinks_10 rfl 3 rfl ?_
      refine mf_iconst 1 dX9_countLinks_11 (by decide) ?_
      refine mf_iadd dX9_countLinks_12 ?_
      refine mf_leti (fun x1 => ?_)
      refine mf_istore [(4, .int x1), (0, .ref 1), (1, .int a1), (2, .int a2), (3, .int a3)] dX9_countLinks_13 (by decide) rfl ?_
      refine mf_sub [1, 2, 3, 4, 0] rfl (wlX9_countLinks_15 l _ _ _ (fun y7 s6 => ?_) FU _ _ _)
      refine mf_iinc 1 [(3, .int (a3 + 1)), (0, .ref 1), (1, .int a1), (2, .int y7)] dX9_countLinks_55 3 rfl (by decide) (by decide) rfl ?_
      refine mf_goto 4 dX9_countLinks_58 (by decide) ?_
      exact mf_sub [1, 2, 3, 0] rfl (ih4 _ _ _)
set_option maxRecDepth 100000 in
set_option maxHeartbeats 4000000 in
theorem wX9_countLinks (l : Launch) (p1 : Int32) (s : mx_G) : mf_M ei l yX9_countLinks cX9_countLinks 5 (some .int) 1 [.ref 1, .int p1] s (fX9_countLinks p1 s) := by
  refine mf_intro rfl (Nat.le_of_ble_eq_true rfl) rfl rfl ?_
  refine mf_sub (loc' := [(0, .ref 1), (1, .int p1)]) [0, 1] rfl ?_
  unfold fX9_countLinks
  refine mf_iconst 0 dX9_countLinks_0 (by decide) ?_
  refine mf_istore_n [(2, .int 0), (0, .ref 1), (1, .int p1)] dX9_countLinks_1 rfl (by decide) rfl ?_
  refine mf_iconst 0 dX9_countLinks_2 (by decide) ?_
  refine mf_istore_n [(3, .int 0), (2, .int 0), (0, .ref 1), (1, .int p1)] dX9_countLinks_3 rfl (by decide) rfl ?_
  exact mf_sub [2, 3, 1, 0] rfl (wlX9_countLinks_4 l _ FU _ _ _)
set_option maxRecDepth 100000 in
set_option maxHeartbeats 4000000 in
theorem wlX9_choosers_4 (l : Launch)    : ∀ (n : Nat) (a1 : Int32) (a2 : Int32) (s0 : mx_G), mf_X ei l RX9 cX9_choosers 3 (some .int) "choosers" 1 (lX9_choosers_4   n a1 a2 s0) 4 [(0, .ref 1), (1, .int a1), (2, .int a2)] [] s0 := by
  intro n
  induction n with
  | zero => intro a1 a2 s0; exact mf_none
  | succ n ih4 =>
    intro a1 a2 s0
    rw [lX9_choosers_4]
    refine mf_iload_n dX9_choosers_4 rfl 2 rfl ?_
    refine mf_aload_n dX9_choosers_5 rfl 0 rfl ?_
    refine mf_getR fl_X9_11 rfl rfl dX9_choosers_6 ?_
    refine mf_iconst 0 dX9_choosers_9 (by decide) ?_
    refine mf_iald rfl dX9_choosers_10 ?_
    refine mf_icmp_ge 36 dX9_choosers_11 (by decide) ?_ ?_
    · refine mf_iload_n dX9_choosers_36 rfl 1 rfl ?_
      exact mf_iret dX9_choosers_37
    · refine mf_aload_n dX9_choosers_14 rfl 0 rfl ?_
      refine mf_iload_n dX9_choosers_15 rfl 2 rfl ?_
      refine mf_callVi (stk := []) (wX9_chosenBy l _ _) cl_X9_66 rfl (by decide) rfl rfl rfl (Nat.le_of_ble_eq_true rfl) rfl rfl dX9_choosers_16 (fun x1 s2 => ?_)
      refine mf_bipush (-4) dX9_choosers_19 (by decide) ?_
      refine mf_icmp_eq 30 dX9_choosers_21 (by decide) ?_ ?_
      · refine mf_iinc 1 [(2, .int (a2 + 1)), (0, .ref 1), (1, .int a1)] dX9_choosers_30 2 rfl (by decide) (by decide) rfl ?_
        refine mf_goto 4 dX9_choosers_33 (by decide) ?_
        exact mf_sub [1, 2, 0] rfl (ih4 _ _ _)
      · refine mf_iload_n dX9_choosers_24 rfl 1 rfl ?_
        refine mf_iconst 1 dX9_choosers_25 (by decide) ?_
        refine mf_iload_n dX9_choosers_26 rfl 2 rfl ?_
        refine mf_ishl dX9_choosers_27 ?_
        refine mf_ior dX9_choosers_28 ?_
        refine mf_leti (fun x3 => ?_)
        refine mf_istore_n [(1, .int x3), (0, .ref 1), (2, .int a2)] dX9_choosers_29 rfl (by decide) rfl ?_
        refine mf_iinc 1 [(2, .int (a2 + 1)), (1, .int x3), (0, .ref 1)] dX9_choosers_30 2 rfl (by decide) (by decide) rfl ?_
        refine mf_goto 4 dX9_choosers_33 (by decide) ?_
        exact mf_sub [2, 1, 0] rfl (ih4 _ _ _)
set_option maxRecDepth 100000 in
set_option maxHeartbeats 4000000 in
theorem wX9_choosers (l : Launch) (s : mx_G) : mf_M ei l yX9_choosers cX9_choosers 3 (some .int) 1 [.ref 1] s (fX9_choosers  s) := by
  refine mf_intro rfl (Nat.le_of_ble_eq_true rfl) rfl rfl ?_
  refine mf_sub (loc' := [(0, .ref 1)]) [0] rfl ?_
  unfold fX9_choosers
  refine mf_iconst 0 dX9_choosers_0 (by decide) ?_
  refine mf_istore_n [(1, .int 0), (0, .ref 1)] dX9_choosers_1 rfl (by decide) rfl ?_
  refine mf_iconst 0 dX9_choosers_2 (by decide) ?_
  refine mf_istore_n [(2, .int 0), (1, .int 0), (0, .ref 1)] dX9_choosers_3 rfl (by decide) rfl ?_
  exact mf_sub [2, 1, 0] rfl (wlX9_choosers_4 l FU _ _ _)
set_option maxRecDepth 100000 in
set_option maxHeartbeats 4000000 in
theorem wlX0_discontents_4 (l : Launch)    : ∀ (n : Nat) (a2 : Int32) (a3 : Int32) (s0 : mx_G), mf_X ei l RX0 cX0_discontents 4 (some .int) "discontents" 3 (lX0_discontents_4   n a2 a3 s0) 4 [(0, .ref 9), (1, .ref 1), (2, .int a2), (3, .int a3)] [] s0 := by
  intro n
  induction n with
  | zero => intro a2 a3 s0; exact mf_none
  | succ n ih4 =>
    intro a2 a3 s0
    rw [lX0_discontents_4]
    refine mf_iload_n dX0_discontents_4 rfl 3 rfl ?_
    refine mf_aload_n dX0_discontents_5 rfl 1 rfl ?_
    refine mf_callVi (stk := [.int a3]) (wX9_size l _) cl_X0_54 rfl (by decide) rfl rfl rfl (Nat.le_of_ble_eq_true rfl) rfl rfl dX0_discontents_6 (fun x1 s2 => ?_)
    refine mf_icmp_ge 39 dX0_discontents_9 (by decide) ?_ ?_
    · refine mf_iload_n dX0_discontents_39 rfl 2 rfl ?_
      exact mf_iret dX0_discontents_40
    · refine mf_aload_n dX0_discontents_12 rfl 0 rfl ?_
      refine mf_getR fl_X0_9 rfl rfl dX0_discontents_13 ?_
      refine mf_iload_n dX0_discontents_16 rfl 3 rfl ?_
      refine mf_iald rfl dX0_discontents_17 ?_
      refine mf_aload_n dX0_discontents_18 rfl 0 rfl ?_
      refine mf_aload_n dX0_discontents_19 rfl 1 rfl ?_
      refine mf_iload_n dX0_discontents_20 rfl 3 rfl ?_
      refine mf_callVi (stk := [.int (s2.1 10 (Int32.toNatClampNeg a3))]) (wX0_best l _ _) cl_X0_76 rfl (by decide) rfl rfl rfl (Nat.le_of_ble_eq_true rfl) rfl rfl dX0_discontents_21 (fun x3 s4 => ?_)
      refine mf_icmp_eq 33 dX0_discontents_24 (by decide) ?_ ?_
      · refine mf_iinc 1 [(3, .int (a3 + 1)), (0, .ref 9), (1, .ref 1), (2, .int a2)] dX0_discontents_33 3 rfl (by decide) (by decide) rfl ?_
        refine mf_goto 4 dX0_discontents_36 (by decide) ?_
        exact mf_sub [1, 2, 3, 0] rfl (ih4 _ _ _)
      · refine mf_iload_n dX0_discontents_27 rfl 2 rfl ?_
        refine mf_iconst 1 dX0_discontents_28 (by decide) ?_
        refine mf_iload_n dX0_discontents_29 rfl 3 rfl ?_
        refine mf_ishl dX0_discontents_30 ?_
        refine mf_ior dX0_discontents_31 ?_
        refine mf_leti (fun x5 => ?_)
        refine mf_istore_n [(2, .int x5), (0, .ref 9), (1, .ref 1), (3, .int a3)] dX0_discontents_32 rfl (by decide) rfl ?_
        refine mf_iinc 1 [(3, .int (a3 + 1)), (2, .int x5), (0, .ref 9), (1, .ref 1)] dX0_discontents_33 3 rfl (by decide) (by decide) rfl ?_
        refine mf_goto 4 dX0_discontents_36 (by decide) ?_
        exact mf_sub [2, 3, 1, 0] rfl (ih4 _ _ _)
set_option maxRecDepth 100000 in
set_option maxHeartbeats 4000000 in
theorem wX0_discontents (l : Launch) (s : mx_G) : mf_M ei l yX0_discontents cX0_discontents 4 (some .int) 3 [.ref 9, .ref 1] s (fX0_discontents  s) := by
  refine mf_intro rfl (Nat.le_of_ble_eq_true rfl) rfl rfl ?_
  refine mf_sub (loc' := [(0, .ref 9), (1, .ref 1)]) [0, 1] rfl ?_
  unfold fX0_discontents
  refine mf_iconst 0 dX0_discontents_0 (by decide) ?_
  refine mf_istore_n [(2, .int 0), (0, .ref 9), (1, .ref 1)] dX0_discontents_1 rfl (by decide) rfl ?_
  refine mf_iconst 1 dX0_discontents_2 (by decide) ?_
  refine mf_istore_n [(3, .int 1), (2, .int 0), (0, .ref 9), (1, .ref 1)] dX0_discontents_3 rfl (by decide) rfl ?_
  exact mf_sub [2, 3, 1, 0] rfl (wlX0_discontents_4 l FU _ _ _)
set_option maxRecDepth 100000 in
set_option maxHeartbeats 4000000 in
theorem wX10_discontent (l : Launch) (s : mx_G) : mf_M ei l yX10_discontent cX10_discontent 1 (some .int) 4 [.ref 0] s (fX10_discontent  s) := by
  refine mf_intro rfl (Nat.le_of_ble_eq_true rfl) rfl rfl ?_
  refine mf_sub (loc' := [(0, .ref 0)]) [0] rfl ?_
  unfold fX10_discontent
  refine mf_aload_n dX10_discontent_0 rfl 0 rfl ?_
  refine mf_getR fl_X10_36 rfl rfl dX10_discontent_1 ?_
  refine mf_aload_n dX10_discontent_4 rfl 0 rfl ?_
  refine mf_getR fl_X10_10 rfl rfl dX10_discontent_5 ?_
  refine mf_callVv (stk := []) (wX0_load l _) cl_X10_152 rfl (by decide) rfl rfl rfl (Nat.le_of_ble_eq_true rfl) rfl rfl dX10_discontent_8 (fun us1 s1 => ?_)
  refine mf_aload_n dX10_discontent_11 rfl 0 rfl ?_
  refine mf_getR fl_X10_36 rfl rfl dX10_discontent_12 ?_
  refine mf_aload_n dX10_discontent_15 rfl 0 rfl ?_
  refine mf_getR fl_X10_10 rfl rfl dX10_discontent_16 ?_
  refine mf_callVi (stk := []) (wX0_discontents l _) cl_X10_292 rfl (by decide) rfl rfl rfl (Nat.le_of_ble_eq_true rfl) rfl rfl dX10_discontent_19 (fun x2 s3 => ?_)
  exact mf_iret dX10_discontent_22
set_option maxRecDepth 100000 in
set_option maxHeartbeats 4000000 in
theorem wX8_countAll (l : Launch) (s : mx_G) : mf_M ei l yX8_countAll cX8_countAll 1 (some .int) 0 [.ref 15] s (fX8_countAll  s) := by
  refine mf_intro rfl (Nat.le_of_ble_eq_true rfl) rfl rfl ?_
  refine mf_sub (loc' := [(0, .ref 15)]) [0] rfl ?_
  unfold fX8_countAll
  refine mf_aload_n dX8_countAll_0 rfl 0 rfl ?_
  refine mf_getI fl_X8_21 rfl rfl dX8_countAll_1 ?_
  exact mf_iret dX8_countAll_4
set_option maxRecDepth 100000 in
set_option maxHeartbeats 4000000 in
theorem wX8_version (l : Launch) (s : mx_G) : mf_M ei l yX8_version cX8_version 1 (some .int) 0 [.ref 15] s (fX8_version  s) := by
  refine mf_intro rfl (Nat.le_of_ble_eq_true rfl) rfl rfl ?_
  refine mf_sub (loc' := [(0, .ref 15)]) [0] rfl ?_
  unfold fX8_version
  refine mf_aload_n dX8_version_0 rfl 0 rfl ?_
  refine mf_getI fl_X8_17 rfl rfl dX8_version_1 ?_
  exact mf_iret dX8_version_4
set_option maxRecDepth 100000 in
set_option maxHeartbeats 4000000 in
theorem wlX0_walk_13 (l : Launch) (a1 : Int32) (k67 : Int32 → Int32 → Int32 → Int32 → mx_G → Option (Unit × mx_G)) (hk67 : ∀ (b3 : Int32) (b4 : Int32) (b5 : Int32) (b6 : Int32) (sz : mx_G), mf_X ev l RX0 cX0_walk 7 none "walk" 0 (k67 b3 b4 b5 b6 sz) 67 [(0, .ref 9), (1, .int a1), (2, .ref 33), (3, .int b3), (4, .int b4), (5, .int b5), (6, .int b6)] [] sz) : ∀ (n : Nat) (a3 : Int32) (a4 : Int32) (a5 : Int32) (a6 : Int32) (s0 : mx_G), mf_X ev l RX0 cX0_walk 7 none "walk" 0 (lX0_walk_13 a1 k67 n a3 a4 a5 a6 s0) 13 [(0, .ref 9), (1, .int a1), (2, .ref 33), (3, .int a3), (4, .int a4), (5, .int a5), (6, .int a6)] [] s0 := by
  intro n
  induction n with
  | zero => intro a3 a4 a5 a6 s0; exact mf_none
  | succ n ih13 =>
    intro a3 a4 a5 a6 s0
    rw [lX0_walk_13]
    refine mf_iload dX0_walk_13 6 rfl ?_
    refine mf_bipush 6 dX0_walk_15 (by decide) ?_
    refine mf_icmp_ge 67 dX0_walk_17 (by decide) ?_ ?_
    · exact mf_sub [0, 1, 2, 3, 4, 5, 6] rfl (hk67 _ _ _ _ _)
    · refine mf_iload dX0_walk_20 5 rfl ?_
      refine mf_if_le 67 dX0_walk_22 (by decide) ?_ ?_
      · exact mf_sub [0, 1, 2, 3, 4, 5, 6] rfl (hk67 _ _ _ _ _)
      · refine mf_aload_n dX0_walk_25 rfl 2 rfl ?_
        refine mf_iload dX0_walk_26 5 rfl ?_
        refine mf_iald rfl dX0_walk_28 ?_
        refine mf_leti (fun x2 => ?_)
        refine mf_istore [(5, .int x2), (0, .ref 9), (1, .int a1), (2, .ref 33), (3, .int a3), (4, .int a4), (6, .int a6)] dX0_walk_29 (by decide) rfl ?_
        refine mf_iload dX0_walk_31 0 rfl ?_
        refine mf_if_lt 43 dX0_walk_33 (by decide) ?_ ?_
        · exact mf_vret dX0_walk_43
        · refine mf_iload dX0_walk_36 0 rfl ?_
          refine mf_bipush 6 dX0_walk_38 (by decide) ?_
          refine mf_icmp_lt 44 dX0_walk_40 (by decide) ?_ ?_
          · refine mf_iload_n dX0_walk_44 rfl 4 rfl ?_
            refine mf_bipush 10 dX0_walk_45 (by decide) ?_
            refine mf_imul dX0_walk_47 ?_
            refine mf_iload dX0_walk_48 0 rfl ?_
            refine mf_iadd dX0_walk_50 ?_
            refine mf_leti (fun x3 => ?_)
            refine mf_istore_n [(3, .int x3), (5, .int x2), (0, .ref 9), (1, .int a1), (2, .ref 33), (4, .int a4), (6, .int a6)] dX0_walk_51 rfl (by decide) rfl ?_
            refine mf_iload dX0_walk_52 5 rfl ?_
            refine mf_iconst 1 dX0_walk_54 (by decide) ?_
            refine mf_iload dX0_walk_55 1 rfl ?_
            refine mf_ishl dX0_walk_57 ?_
            refine mf_ior dX0_walk_58 ?_
            refine mf_leti (fun x4 => ?_)
            refine mf_istore [(4, .int x4), (3, .int x3), (5, .int x2), (0, .ref 9), (1, .int a1), (2, .ref 33), (6, .int a6)] dX0_walk_59 (by decide) rfl ?_
            refine mf_iinc 1 [(6, .int (a6 + 1)), (4, .int x4), (3, .int x3), (5, .int x2), (0, .ref 9), (1, .int a1), (2, .ref 33)] dX0_walk_61 6 rfl (by decide) (by decide) rfl ?_
            refine mf_goto 13 dX0_walk_64 (by decide) ?_
            exact mf_sub [4, 5, 6, 2, 1, 3, 0] rfl (ih13 _ _ _ _ _)
          · exact mf_vret dX0_walk_43
set_option maxRecDepth 100000 in
set_option maxHeartbeats 4000000 in
theorem wX0_walk (l : Launch) (p1 : Int32) (s : mx_G) : mf_M ev l yX0_walk cX0_walk 7 none 0 [.ref 9, .int p1, .ref 33] s (fX0_walk p1 s) := by
  refine mf_intro rfl (Nat.le_of_ble_eq_true rfl) rfl rfl ?_
  refine mf_sub (loc' := [(0, .ref 9), (1, .int p1), (2, .ref 33)]) [0, 1, 2] rfl ?_
  unfold fX0_walk
  refine mf_iload_n dX0_walk_0 rfl 1 rfl ?_
  refine mf_istore_n [(3, .int p1), (0, .ref 9), (1, .int p1), (2, .ref 33)] dX0_walk_1 rfl (by decide) rfl ?_
  refine mf_iconst 1 dX0_walk_2 (by decide) ?_
  refine mf_iload_n dX0_walk_3 rfl 2 rfl ?_
  refine mf_ishl dX0_walk_4 ?_
  refine mf_leti (fun x1 => ?_)
  refine mf_istore [(4, .int x1), (3, .int p1), (0, .ref 9), (1, .int p1), (2, .ref 33)] dX0_walk_5 (by decide) rfl ?_
  refine mf_iload_n dX0_walk_7 rfl 3 rfl ?_
  refine mf_istore [(5, .int p1), (4, .int x1), (3, .int p1), (0, .ref 9), (1, .int p1), (2, .ref 33)] dX0_walk_8 (by decide) rfl ?_
  refine mf_iconst 1 dX0_walk_10 (by decide) ?_
  refine mf_istore [(6, .int 1), (5, .int p1), (4, .int x1), (3, .int p1), (0, .ref 9), (1, .int p1), (2, .ref 33)] dX0_walk_11 (by decide) rfl ?_
  refine mf_sub [4, 5, 6, 3, 2, 1, 0] rfl (wlX0_walk_13 l _ _ (fun y6 y7 y8 y9 s5 => ?_) FU _ _ _ _ _)
  refine mf_iload dX0_walk_67 5 rfl ?_
  refine mf_if_ne 104 dX0_walk_69 (by decide) ?_ ?_
  · refine mf_aload_n dX0_walk_72 rfl 0 rfl ?_
    refine mf_getR fl_X0_9 rfl rfl dX0_walk_73 ?_
    refine mf_iload_n dX0_walk_76 rfl 1 rfl ?_
    refine mf_iload_n dX0_walk_77 rfl 3 rfl ?_
    refine mf_iast rfl dX0_walk_78 (fun s10 => ?_)
    refine mf_aload_n dX0_walk_79 rfl 0 rfl ?_
    refine mf_getR fl_X0_15 rfl rfl dX0_walk_80 ?_
    refine mf_iload_n dX0_walk_83 rfl 1 rfl ?_
    refine mf_iload dX0_walk_84 4 rfl ?_
    refine mf_iast rfl dX0_walk_86 (fun s11 => ?_)
    refine mf_aload_n dX0_walk_87 rfl 0 rfl ?_
    refine mf_getR fl_X0_18 rfl rfl dX0_walk_88 ?_
    refine mf_iload_n dX0_walk_91 rfl 1 rfl ?_
    refine mf_aload_n dX0_walk_92 rfl 2 rfl ?_
    refine mf_iload_n dX0_walk_93 rfl 1 rfl ?_
    refine mf_iald rfl dX0_walk_94 ?_
    refine mf_iast rfl dX0_walk_95 (fun s12 => ?_)
    refine mf_aload_n dX0_walk_96 rfl 0 rfl ?_
    refine mf_getR fl_X0_21 rfl rfl dX0_walk_97 ?_
    refine mf_iload_n dX0_walk_100 rfl 1 rfl ?_
    refine mf_iload dX0_walk_101 6 rfl ?_
    refine mf_iast rfl dX0_walk_103 (fun s13 => ?_)
    exact mf_vret dX0_walk_104
  · exact mf_vret dX0_walk_104
set_option maxRecDepth 100000 in
set_option maxHeartbeats 4000000 in
theorem wlX0_follow_8 (l : Launch) (a2 : Int32)   : ∀ (n : Nat) (a3 : Int32) (s0 : mx_G), mf_X ev l RX0 cX0_follow 4 none "follow" 2 (lX0_follow_8 a2  n a3 s0) 8 [(0, .ref 9), (1, .ref 33), (2, .int a2), (3, .int a3)] [] s0 := by
  intro n
  induction n with
  | zero => intro a3 s0; exact mf_none
  | succ n ih8 =>
    intro a3 s0
    rw [lX0_follow_8]
    refine mf_iload_n dX0_follow_8 rfl 3 rfl ?_
    refine mf_bipush 6 dX0_follow_9 (by decide) ?_
    refine mf_icmp_ge 36 dX0_follow_11 (by decide) ?_ ?_
    · exact mf_vret dX0_follow_36
    · refine mf_aload_n dX0_follow_14 rfl 0 rfl ?_
      refine mf_iload_n dX0_follow_15 rfl 3 rfl ?_
      refine mf_callVv (stk := []) (wX0_putNone l _ _) cl_X0_40 rfl (by decide) rfl rfl rfl (Nat.le_of_ble_eq_true rfl) rfl rfl dX0_follow_16 (fun us2 s2 => ?_)
      refine mf_iload_n dX0_follow_19 rfl 3 rfl ?_
      refine mf_iload_n dX0_follow_20 rfl 2 rfl ?_
      refine mf_icmp_ge 30 dX0_follow_21 (by decide) ?_ ?_
      · refine mf_iinc 1 [(3, .int (a3 + 1)), (0, .ref 9), (1, .ref 33), (2, .int a2)] dX0_follow_30 3 rfl (by decide) (by decide) rfl ?_
        refine mf_goto 8 dX0_follow_33 (by decide) ?_
        exact mf_sub [1, 2, 3, 0] rfl (ih8 _ _)
      · refine mf_aload_n dX0_follow_24 rfl 0 rfl ?_
        refine mf_iload_n dX0_follow_25 rfl 3 rfl ?_
        refine mf_aload_n dX0_follow_26 rfl 1 rfl ?_
        refine mf_callVv (stk := []) (wX0_walk l _ _) cl_X0_44 rfl (by decide) rfl rfl rfl (Nat.le_of_ble_eq_true rfl) rfl rfl dX0_follow_27 (fun us3 s3 => ?_)
        refine mf_iinc 1 [(3, .int (a3 + 1)), (0, .ref 9), (1, .ref 33), (2, .int a2)] dX0_follow_30 3 rfl (by decide) (by decide) rfl ?_
        refine mf_goto 8 dX0_follow_33 (by decide) ?_
        exact mf_sub [1, 2, 3, 0] rfl (ih8 _ _)
set_option maxRecDepth 100000 in
set_option maxHeartbeats 4000000 in
theorem wX0_follow (l : Launch) (p2 : Int32) (s : mx_G) : mf_M ev l yX0_follow cX0_follow 4 none 2 [.ref 9, .ref 33, .int p2] s (fX0_follow p2 s) := by
  refine mf_intro rfl (Nat.le_of_ble_eq_true rfl) rfl rfl ?_
  refine mf_sub (loc' := [(0, .ref 9), (1, .ref 33), (2, .int p2)]) [0, 1, 2] rfl ?_
  unfold fX0_follow
  refine mf_aload_n dX0_follow_0 rfl 0 rfl ?_
  refine mf_iconst 0 dX0_follow_1 (by decide) ?_
  refine mf_iconst 0 dX0_follow_2 (by decide) ?_
  refine mf_callVv (stk := []) (wX0_put l _ _ _) cl_X0_33 rfl (by decide) rfl rfl rfl (Nat.le_of_ble_eq_true rfl) rfl rfl dX0_follow_3 (fun us1 s1 => ?_)
  refine mf_iconst 1 dX0_follow_6 (by decide) ?_
  refine mf_istore_n [(3, .int 1), (0, .ref 9), (1, .ref 33), (2, .int p2)] dX0_follow_7 rfl (by decide) rfl ?_
  exact mf_sub [1, 2, 3, 0] rfl (wlX0_follow_8 l _ FU _ _)
set_option maxRecDepth 100000 in
set_option maxHeartbeats 4000000 in
theorem wX0_wayOf (l : Launch) (p1 : Int32) (s : mx_G) : mf_M ei l yX0_wayOf cX0_wayOf 2 (some .int) 0 [.ref 9, .int p1] s (fX0_wayOf p1 s) := by
  refine mf_intro rfl (Nat.le_of_ble_eq_true rfl) rfl rfl ?_
  refine mf_sub (loc' := [(0, .ref 9), (1, .int p1)]) [0, 1] rfl ?_
  unfold fX0_wayOf
  refine mf_aload_n dX0_wayOf_0 rfl 0 rfl ?_
  refine mf_getR fl_X0_9 rfl rfl dX0_wayOf_1 ?_
  refine mf_iload_n dX0_wayOf_4 rfl 1 rfl ?_
  refine mf_iald rfl dX0_wayOf_5 ?_
  exact mf_iret dX0_wayOf_6
set_option maxRecDepth 100000 in
set_option maxHeartbeats 4000000 in
theorem wlX4_keepIfStable_17 (l : Launch) (k62 : Int32 → mx_G → Option (Unit × mx_G)) (hk62 : ∀ (b3 : Int32) (sz : mx_G), mf_X ev l RX4 cX4_keepIfStable 5 none "keepIfStable" 3 (k62 b3 sz) 62 [(0, .ref 31), (3, .int b3)] [] sz) : ∀ (n : Nat) (a3 : Int32) (a4 : Int32) (s0 : mx_G), mf_X ev l RX4 cX4_keepIfStable 5 none "keepIfStable" 3 (lX4_keepIfStable_17  k62 n a3 a4 s0) 17 [(0, .ref 31), (1, .ref 1), (2, .ref 9), (3, .int a3), (4, .int a4)] [] s0 := by
  intro n
  induction n with
  | zero => intro a3 a4 s0; exact mf_none
  | succ n ih17 =>
    intro a3 a4 s0
    rw [lX4_keepIfStable_17]
    refine mf_iload dX4_keepIfStable_17 4 rfl ?_
    refine mf_aload_n dX4_keepIfStable_19 rfl 1 rfl ?_
    refine mf_callVi (stk := [.int a4]) (wX9_size l _) cl_X4_29 rfl (by decide) rfl rfl rfl (Nat.le_of_ble_eq_true rfl) rfl rfl dX4_keepIfStable_20 (fun x4 s5 => ?_)
    refine mf_icmp_ge 62 dX4_keepIfStable_23 (by decide) ?_ ?_
    · exact mf_sub [0, 3] rfl (hk62 _ _)
    · refine mf_aload_n dX4_keepIfStable_26 rfl 2 rfl ?_
      refine mf_iload dX4_keepIfStable_27 4 rfl ?_
      refine mf_callVi (stk := []) (wX0_wayOf l _ _) cl_X4_56 rfl (by decide) rfl rfl rfl (Nat.le_of_ble_eq_true rfl) rfl rfl dX4_keepIfStable_29 (fun x6 s7 => ?_)
      refine mf_aload_n dX4_keepIfStable_32 rfl 2 rfl ?_
      refine mf_aload_n dX4_keepIfStable_33 rfl 1 rfl ?_
      refine mf_iload dX4_keepIfStable_34 4 rfl ?_
      refine mf_callVi (stk := [.int x6]) (wX0_best l _ _) cl_X4_60 rfl (by decide) rfl rfl rfl (Nat.le_of_ble_eq_true rfl) rfl rfl dX4_keepIfStable_36 (fun x8 s9 => ?_)
      refine mf_icmp_eq 43 dX4_keepIfStable_39 (by decide) ?_ ?_
      · refine mf_iload_n dX4_keepIfStable_43 rfl 3 rfl ?_
        refine mf_bipush 10 dX4_keepIfStable_44 (by decide) ?_
        refine mf_imul dX4_keepIfStable_46 ?_
        refine mf_aload_n dX4_keepIfStable_47 rfl 0 rfl ?_
        refine mf_getR fl_X4_22 rfl rfl dX4_keepIfStable_48 ?_
        refine mf_iload dX4_keepIfStable_51 4 rfl ?_
        refine mf_iald rfl dX4_keepIfStable_53 ?_
        refine mf_iadd dX4_keepIfStable_54 ?_
        refine mf_leti (fun x10 => ?_)
        refine mf_istore_n [(3, .int x10), (0, .ref 31), (1, .ref 1), (2, .ref 9), (4, .int a4)] dX4_keepIfStable_55 rfl (by decide) rfl ?_
        refine mf_iinc 1 [(4, .int (a4 + 1)), (3, .int x10), (0, .ref 31), (1, .ref 1), (2, .ref 9)] dX4_keepIfStable_56 4 rfl (by decide) (by decide) rfl ?_
        refine mf_goto 17 dX4_keepIfStable_59 (by decide) ?_
        exact mf_sub [2, 3, 4, 1, 0] rfl (ih17 _ _ _)
      · exact mf_vret dX4_keepIfStable_42
set_option maxRecDepth 100000 in
set_option maxHeartbeats 4000000 in
theorem wX4_keepIfStable (l : Launch) (s : mx_G) : mf_M ev l yX4_keepIfStable cX4_keepIfStable 5 none 3 [.ref 31, .ref 1, .ref 9] s (fX4_keepIfStable  s) := by
  refine mf_intro rfl (Nat.le_of_ble_eq_true rfl) rfl rfl ?_
  refine mf_sub (loc' := [(0, .ref 31), (1, .ref 1), (2, .ref 9)]) [0, 1, 2] rfl ?_
  unfold fX4_keepIfStable
  refine mf_aload_n dX4_keepIfStable_0 rfl 2 rfl ?_
  refine mf_aload_n dX4_keepIfStable_1 rfl 0 rfl ?_
  refine mf_getR fl_X4_22 rfl rfl dX4_keepIfStable_2 ?_
  refine mf_aload_n dX4_keepIfStable_5 rfl 1 rfl ?_
  refine mf_callVi (stk := [.ref 33, .ref 9]) (wX9_size l _) cl_X4_29 rfl (by decide) rfl rfl rfl (Nat.le_of_ble_eq_true rfl) rfl rfl dX4_keepIfStable_6 (fun x1 s2 => ?_)
  refine mf_callVv (stk := []) (wX0_follow l _ _) cl_X4_50 rfl (by decide) rfl rfl rfl (Nat.le_of_ble_eq_true rfl) rfl rfl dX4_keepIfStable_9 (fun us3 s3 => ?_)
  refine mf_iconst 0 dX4_keepIfStable_12 (by decide) ?_
  refine mf_istore_n [(3, .int 0), (0, .ref 31), (1, .ref 1), (2, .ref 9)] dX4_keepIfStable_13 rfl (by decide) rfl ?_
  refine mf_iconst 1 dX4_keepIfStable_14 (by decide) ?_
  refine mf_istore [(4, .int 1), (3, .int 0), (0, .ref 31), (1, .ref 1), (2, .ref 9)] dX4_keepIfStable_15 (by decide) rfl ?_
  refine mf_sub [2, 3, 4, 1, 0] rfl (wlX4_keepIfStable_17 l _ (fun y12 s11 => ?_) FU _ _ _)
  refine mf_aload_n dX4_keepIfStable_62 rfl 0 rfl ?_
  refine mf_getI fl_X4_15 rfl rfl dX4_keepIfStable_63 ?_
  refine mf_sipush 2117 dX4_keepIfStable_66 (by decide) ?_
  refine mf_icmp_ge 92 dX4_keepIfStable_69 (by decide) ?_ ?_
  · exact mf_vret dX4_keepIfStable_92
  · refine mf_aload_n dX4_keepIfStable_72 rfl 0 rfl ?_
    refine mf_getR fl_X4_18 rfl rfl dX4_keepIfStable_73 ?_
    refine mf_aload_n dX4_keepIfStable_76 rfl 0 rfl ?_
    refine mf_getI fl_X4_15 rfl rfl dX4_keepIfStable_77 ?_
    refine mf_iload_n dX4_keepIfStable_80 rfl 1 rfl ?_
    refine mf_iast rfl dX4_keepIfStable_81 (fun s13 => ?_)
    refine mf_aload_n dX4_keepIfStable_82 rfl 0 rfl ?_
    refine mf_dup rfl dX4_keepIfStable_83 ?_
    refine mf_getI fl_X4_15 rfl rfl dX4_keepIfStable_84 ?_
    refine mf_iconst 1 dX4_keepIfStable_87 (by decide) ?_
    refine mf_iadd dX4_keepIfStable_88 ?_
    refine mf_putI fl_X4_15 rfl rfl dX4_keepIfStable_89 (fun s14 => ?_)
    exact mf_vret dX4_keepIfStable_92
set_option maxRecDepth 100000 in
set_option maxHeartbeats 4000000 in
theorem wlX4_mayLead_30 (l : Launch) (a1 : Int32) (a2 : Int32) (a4 : Int32) (k59 : Int32 → mx_G → Option (Int32 × mx_G)) (hk59 : ∀ (b3 : Int32) (sz : mx_G), mf_X ei l RX4 cX4_mayLead 6 (some .boolean) "mayLead" 0 (k59 b3 sz) 59 [(0, .ref 31), (1, .int a1), (2, .int a2), (3, .int b3), (4, .int a4)] [] sz) : ∀ (n : Nat) (a3 : Int32) (a5 : Int32) (s0 : mx_G), mf_X ei l RX4 cX4_mayLead 6 (some .boolean) "mayLead" 0 (lX4_mayLead_30 a1 a2 a4 k59 n a3 a5 s0) 30 [(0, .ref 31), (1, .int a1), (2, .int a2), (3, .int a3), (4, .int a4), (5, .int a5)] [] s0 := by
  intro n
  induction n with
  | zero => intro a3 a5 s0; exact mf_none
  | succ n ih30 =>
    intro a3 a5 s0
    rw [lX4_mayLead_30]
    refine mf_iload dX4_mayLead_30 5 rfl ?_
    refine mf_bipush 6 dX4_mayLead_32 (by decide) ?_
    refine mf_icmp_ge 59 dX4_mayLead_34 (by decide) ?_ ?_
    · exact mf_sub [0, 1, 2, 3, 4] rfl (hk59 _ _)
    · refine mf_iload_n dX4_mayLead_37 rfl 3 rfl ?_
      refine mf_if_le 59 dX4_mayLead_38 (by decide) ?_ ?_
      · exact mf_sub [0, 1, 2, 3, 4] rfl (hk59 _ _)
      · refine mf_iload_n dX4_mayLead_41 rfl 3 rfl ?_
        refine mf_iload_n dX4_mayLead_42 rfl 1 rfl ?_
        refine mf_icmp_gt 59 dX4_mayLead_43 (by decide) ?_ ?_
        · exact mf_sub [0, 1, 2, 3, 4] rfl (hk59 _ _)
        · refine mf_aload_n dX4_mayLead_46 rfl 0 rfl ?_
          refine mf_getR fl_X4_22 rfl rfl dX4_mayLead_47 ?_
          refine mf_iload_n dX4_mayLead_50 rfl 3 rfl ?_
          refine mf_iald rfl dX4_mayLead_51 ?_
          refine mf_leti (fun x2 => ?_)
          refine mf_istore_n [(3, .int x2), (0, .ref 31), (1, .int a1), (2, .int a2), (4, .int a4), (5, .int a5)] dX4_mayLead_52 rfl (by decide) rfl ?_
          refine mf_iinc 1 [(5, .int (a5 + 1)), (3, .int x2), (0, .ref 31), (1, .int a1), (2, .int a2), (4, .int a4)] dX4_mayLead_53 5 rfl (by decide) (by decide) rfl ?_
          refine mf_goto 30 dX4_mayLead_56 (by decide) ?_
          exact mf_sub [2, 3, 4, 1, 5, 0] rfl (ih30 _ _ _)
set_option maxRecDepth 100000 in
set_option maxHeartbeats 4000000 in
theorem wlX4_mayLead_2 (l : Launch) (a1 : Int32)   : ∀ (n : Nat) (a2 : Int32) (s0 : mx_G), mf_X ei l RX4 cX4_mayLead 6 (some .boolean) "mayLead" 0 (lX4_mayLead_2 a1  n a2 s0) 2 [(0, .ref 31), (1, .int a1), (2, .int a2)] [] s0 := by
  intro n
  induction n with
  | zero => intro a2 s0; exact mf_none
  | succ n ih2 =>
    intro a2 s0
    rw [lX4_mayLead_2]
    refine mf_iload_n dX4_mayLead_2 rfl 2 rfl ?_
    refine mf_iload_n dX4_mayLead_3 rfl 1 rfl ?_
    refine mf_icmp_gt 99 dX4_mayLead_4 (by decide) ?_ ?_
    · refine mf_iconst 1 dX4_mayLead_99 (by decide) ?_
      exact mf_zret (by decide) dX4_mayLead_100
    · refine mf_aload_n dX4_mayLead_7 rfl 0 rfl ?_
      refine mf_getR fl_X4_22 rfl rfl dX4_mayLead_8 ?_
      refine mf_iload_n dX4_mayLead_11 rfl 2 rfl ?_
      refine mf_iald rfl dX4_mayLead_12 ?_
      refine mf_leti (fun x1 => ?_)
      refine mf_istore_n [(3, .int x1), (0, .ref 31), (1, .int a1), (2, .int a2)] dX4_mayLead_13 rfl (by decide) rfl ?_
      refine mf_iload_n dX4_mayLead_14 rfl 0 rfl ?_
      refine mf_bipush 9 dX4_mayLead_15 (by decide) ?_
      refine mf_join (fun (J : Int32 → mx_G → Option (Int32 × mx_G)) => ∀ (q0_25 : Int32) (s_25 : mx_G), mf_X ei l RX4 cX4_mayLead 6 (some .boolean) "mayLead" 0 (J q0_25 s_25) 25 [(0, .ref 31), (1, .int a1), (2, .int a2), (3, .int x1)] [.int q0_25] s_25) ?_ (fun J25 hJ25 => ?_)
      · intro q0_25 s_25
        refine mf_istore [(4, .int q0_25), (0, .ref 31), (1, .int a1), (2, .int a2), (3, .int x1)] dX4_mayLead_25 (by decide) rfl ?_
        refine mf_iconst 0 dX4_mayLead_27 (by decide) ?_
        refine mf_istore [(5, .int 0), (4, .int q0_25), (0, .ref 31), (1, .int a1), (2, .int a2), (3, .int x1)] dX4_mayLead_28 (by decide) rfl ?_
        refine mf_sub [2, 3, 4, 5, 1, 0] rfl (wlX4_mayLead_30 l _ _ _ _ (fun y4 s3 => ?_) FU _ _ _)
        refine mf_iload_n dX4_mayLead_59 rfl 3 rfl ?_
        refine mf_bipush 9 dX4_mayLead_60 (by decide) ?_
        refine mf_join (fun (J : Int32 → mx_G → Option (Int32 × mx_G)) => ∀ (q0_79 : Int32) (s_79 : mx_G), mf_X ei l RX4 cX4_mayLead 6 (some .boolean) "mayLead" 0 (J q0_79 s_79) 79 [(0, .ref 31), (1, .int a1), (2, .int a2), (4, .int q0_25)] [.int q0_79] s_79) ?_ (fun J79 hJ79 => ?_)
        · intro q0_79 s_79
          refine mf_istore [(5, .int q0_79), (0, .ref 31), (1, .int a1), (2, .int a2), (4, .int q0_25)] dX4_mayLead_79 (by decide) rfl ?_
          refine mf_iload dX4_mayLead_81 4 rfl ?_
          refine mf_if_eq 93 dX4_mayLead_83 (by decide) ?_ ?_
          · refine mf_iinc 1 [(2, .int (a2 + 1)), (5, .int q0_79), (0, .ref 31), (1, .int a1), (4, .int q0_25)] dX4_mayLead_93 3 rfl (by decide) (by decide) rfl ?_
            refine mf_goto 2 dX4_mayLead_96 (by decide) ?_
            exact mf_sub [2, 3, 0] rfl (ih2 _ _)
          · refine mf_iload dX4_mayLead_86 0 rfl ?_
            refine mf_if_eq 93 dX4_mayLead_88 (by decide) ?_ ?_
            · refine mf_iinc 1 [(2, .int (a2 + 1)), (5, .int q0_79), (0, .ref 31), (1, .int a1), (4, .int q0_25)] dX4_mayLead_93 3 rfl (by decide) (by decide) rfl ?_
              refine mf_goto 2 dX4_mayLead_96 (by decide) ?_
              exact mf_sub [2, 3, 0] rfl (ih2 _ _)
            · refine mf_iconst 0 dX4_mayLead_91 (by decide) ?_
              exact mf_zret (by decide) dX4_mayLead_92
        refine mf_join (fun (J : mx_G → Option (Int32 × mx_G)) => ∀ (s_74 : mx_G), mf_X ei l RX4 cX4_mayLead 6 (some .boolean) "mayLead" 0 (J s_74) 74 [(0, .ref 31), (1, .int a1), (2, .int a2), (4, .int q0_25)] [] s_74) ?_ (fun J74 hJ74 => ?_)
        · intro s_74
          refine mf_iconst 1 dX4_mayLead_74 (by decide) ?_
          refine mf_goto 79 dX4_mayLead_75 (by decide) ?_
          exact mf_sub [0, 1, 2, 3] rfl (hJ79 _ _)
        refine mf_icmp_eq 74 dX4_mayLead_62 (by decide) ?_ ?_
        · exact mf_sub [0, 1, 2, 4] rfl (hJ74 _)
        · refine mf_iload_n dX4_mayLead_65 rfl 3 rfl ?_
          refine mf_if_le 78 dX4_mayLead_66 (by decide) ?_ ?_
          · refine mf_iconst 0 dX4_mayLead_78 (by decide) ?_
            exact mf_sub [0, 1, 2, 4] rfl (hJ79 _ _)
          · refine mf_iload_n dX4_mayLead_69 rfl 3 rfl ?_
            refine mf_iload_n dX4_mayLead_70 rfl 1 rfl ?_
            refine mf_icmp_gt 78 dX4_mayLead_71 (by decide) ?_ ?_
            · refine mf_iconst 0 dX4_mayLead_78 (by decide) ?_
              exact mf_sub [0, 1, 2, 4] rfl (hJ79 _ _)
            · exact mf_sub [0, 1, 2, 4] rfl (hJ74 _)
      refine mf_icmp_eq 24 dX4_mayLead_17 (by decide) ?_ ?_
      · refine mf_iconst 0 dX4_mayLead_24 (by decide) ?_
        exact mf_sub [1, 2, 3, 0] rfl (hJ25 _ _)
      · refine mf_iconst 1 dX4_mayLead_20 (by decide) ?_
        refine mf_goto 25 dX4_mayLead_21 (by decide) ?_
        exact mf_sub [1, 2, 3, 0] rfl (hJ25 _ _)
set_option maxRecDepth 100000 in
set_option maxHeartbeats 4000000 in
theorem wX4_mayLead (l : Launch) (p1 : Int32) (s : mx_G) : mf_M ei l yX4_mayLead cX4_mayLead 6 (some .boolean) 0 [.ref 31, .int p1] s (fX4_mayLead p1 s) := by
  refine mf_intro rfl (Nat.le_of_ble_eq_true rfl) rfl rfl ?_
  refine mf_sub (loc' := [(0, .ref 31), (1, .int p1)]) [0, 1] rfl ?_
  unfold fX4_mayLead
  refine mf_iconst 1 dX4_mayLead_0 (by decide) ?_
  refine mf_istore_n [(2, .int 1), (0, .ref 31), (1, .int p1)] dX4_mayLead_1 rfl (by decide) rfl ?_
  exact mf_sub [1, 2, 0] rfl (wlX4_mayLead_2 l _ FU _ _)
set_option maxRecDepth 100000 in
set_option maxHeartbeats 4000000 in
theorem wlX4_search_24 (l : Launch) (m : Nat) (rc : Int32 → mx_G → Option (Unit × mx_G)) (hrc : ∀ (p3 : Int32) (s : mx_G), mf_M ev l yX4_search cX4_search 5 none (4 + m) [.ref 31, .ref 1, .ref 9, .int p3] s (rc p3 s)) (a3 : Int32)   : ∀ (n : Nat) (a4 : Int32) (s0 : mx_G), mf_X ev l RX4 cX4_search 5 none "search" (4 + m + 1) (lX4_search_24 rc a3  n a4 s0) 24 [(0, .ref 31), (1, .ref 1), (2, .ref 9), (3, .int a3), (4, .int a4)] [] s0 := by
  intro n
  induction n with
  | zero => intro a4 s0; exact mf_none
  | succ n ih24 =>
    intro a4 s0
    rw [lX4_search_24]
    refine mf_iload dX4_search_24 4 rfl ?_
    refine mf_bipush 9 dX4_search_26 (by decide) ?_
    refine mf_icmp_gt 88 dX4_search_28 (by decide) ?_ ?_
    · exact mf_vret dX4_search_88
    · refine mf_iload dX4_search_31 4 rfl ?_
      refine mf_bipush 9 dX4_search_33 (by decide) ?_
      refine mf_join (fun (J : mx_G → Option (Unit × mx_G)) => ∀ (s_57 : mx_G), mf_X ev l RX4 cX4_search 5 none "search" (4 + m + 1) (J s_57) 57 [(0, .ref 31), (1, .ref 1), (2, .ref 9), (3, .int a3), (4, .int a4)] [] s_57) ?_ (fun J57 hJ57 => ?_)
      · intro s_57
        refine mf_aload_n dX4_search_57 rfl 0 rfl ?_
        refine mf_getR fl_X4_22 rfl rfl dX4_search_58 ?_
        refine mf_iload_n dX4_search_61 rfl 3 rfl ?_
        refine mf_iload dX4_search_62 4 rfl ?_
        refine mf_iast rfl dX4_search_64 (fun s4 => ?_)
        refine mf_aload_n dX4_search_65 rfl 0 rfl ?_
        refine mf_iload_n dX4_search_66 rfl 3 rfl ?_
        refine mf_callVi (stk := []) (wX4_mayLead l _ _) cl_X4_47 rfl (by omega) rfl rfl rfl (Nat.le_of_ble_eq_true rfl) rfl rfl dX4_search_67 (fun x5 s6 => ?_)
        refine mf_if_eq 82 dX4_search_70 (by decide) ?_ ?_
        · refine mf_iinc 1 [(4, .int (a4 + 1)), (0, .ref 31), (1, .ref 1), (2, .ref 9), (3, .int a3)] dX4_search_82 4 rfl (by decide) (by decide) rfl ?_
          refine mf_goto 24 dX4_search_85 (by decide) ?_
          exact mf_sub [1, 2, 3, 4, 0] rfl (ih24 _ _)
        · refine mf_aload_n dX4_search_73 rfl 0 rfl ?_
          refine mf_aload_n dX4_search_74 rfl 1 rfl ?_
          refine mf_aload_n dX4_search_75 rfl 2 rfl ?_
          refine mf_iload_n dX4_search_76 rfl 3 rfl ?_
          refine mf_iconst 1 dX4_search_77 (by decide) ?_
          refine mf_iadd dX4_search_78 ?_
          refine mf_callSv (stk := []) (hrc _ _) cl_X4_25 rfl (by omega) rfl (Nat.le_of_ble_eq_true rfl) rfl rfl dX4_search_79 (fun us7 s7 => ?_)
          refine mf_iinc 1 [(4, .int (a4 + 1)), (0, .ref 31), (1, .ref 1), (2, .ref 9), (3, .int a3)] dX4_search_82 4 rfl (by decide) (by decide) rfl ?_
          refine mf_goto 24 dX4_search_85 (by decide) ?_
          exact mf_sub [1, 2, 3, 4, 0] rfl (ih24 _ _)
      refine mf_icmp_eq 57 dX4_search_35 (by decide) ?_ ?_
      · exact mf_sub [0, 1, 2, 3, 4] rfl (hJ57 _)
      · refine mf_aload_n dX4_search_38 rfl 1 rfl ?_
        refine mf_iload dX4_search_39 4 rfl ?_
        refine mf_callVi (stk := []) (wX9_isDomain l _ _) cl_X4_39 rfl (by omega) rfl rfl rfl (Nat.le_of_ble_eq_true rfl) rfl rfl dX4_search_41 (fun x8 s9 => ?_)
        refine mf_if_eq 82 dX4_search_44 (by decide) ?_ ?_
        · refine mf_iinc 1 [(4, .int (a4 + 1)), (0, .ref 31), (1, .ref 1), (2, .ref 9), (3, .int a3)] dX4_search_82 4 rfl (by decide) (by decide) rfl ?_
          refine mf_goto 24 dX4_search_85 (by decide) ?_
          exact mf_sub [1, 2, 3, 4, 0] rfl (ih24 _ _)
        · refine mf_aload_n dX4_search_47 rfl 1 rfl ?_
          refine mf_iload_n dX4_search_48 rfl 3 rfl ?_
          refine mf_iload dX4_search_49 4 rfl ?_
          refine mf_callVi (stk := []) (wX9_areJoined l _ _ _) cl_X4_43 rfl (by omega) rfl rfl rfl (Nat.le_of_ble_eq_true rfl) rfl rfl dX4_search_51 (fun x10 s11 => ?_)
          refine mf_if_eq 82 dX4_search_54 (by decide) ?_ ?_
          · refine mf_iinc 1 [(4, .int (a4 + 1)), (0, .ref 31), (1, .ref 1), (2, .ref 9), (3, .int a3)] dX4_search_82 4 rfl (by decide) (by decide) rfl ?_
            refine mf_goto 24 dX4_search_85 (by decide) ?_
            exact mf_sub [1, 2, 3, 4, 0] rfl (ih24 _ _)
          · exact mf_sub [0, 1, 2, 3, 4] rfl (hJ57 _)
